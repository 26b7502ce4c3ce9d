set_option maxHeartbeats 4000000 in
set_option maxRecDepth 100000 in
theorem mX12_applies (g : GP) (l : Launch) (aM aM_text aM_now aM_trial aM_read aM_diary aM_kept aM_isKept aM_constraint aM_readConstraint aM_word aM_size aM_number aM_firstOne aM_node aM_parent aM_rule aM_child aM_proof aM_witness aM_witnessSize aM_built aM_copyRow : Nat) (M_length : Int32) (M_acts : Int32) (M_next : Int32) (M_many : Int32) (M_readMany : Int32) (M_found : Int32) (M_shortest : Int32) (M_nodes : Int32) (M_solved : Int32) (M_dropped : Int32) (M_fits : Int32) (M_proofSize : Int32) (M_tooLong : Int32) (M_text : Nat → Int32) (M_now : Nat → Int32) (M_trial : Nat → Int32) (M_read : Nat → Int32) (M_diary : Nat → Int32) (M_kept : Nat → Int32) (M_isKept : Nat → Int32) (M_constraint : Nat → Int32) (M_readConstraint : Nat → Int32) (M_word : Nat → Int32) (M_size : Nat → Int32) (M_number : Nat → Int32) (M_firstOne : Nat → Int32) (M_node : Nat → Int32) (M_parent : Nat → Int32) (M_rule : Nat → Int32) (M_child : Nat → Int32) (M_proof : Nat → Int32) (M_witness : Nat → Int32) (M_witnessSize : Nat → Int32) (M_built : Nat → Int32) (M_copyRow : Nat → Int32) (x1 : Int32) (r : Int32) (h : fM_applies M_trial x1 = some r) : Ct g l yX12_applies cX12_applies 6 (some .boolean) rmX12_applies [.ref aM, .int x1] (wX12 g aM aM_text aM_now aM_trial aM_read aM_diary aM_kept aM_isKept aM_constraint aM_readConstraint aM_word aM_size aM_number aM_firstOne aM_node aM_parent aM_rule aM_child aM_proof aM_witness aM_witnessSize aM_built aM_copyRow M_length M_acts M_next M_many M_readMany M_found M_shortest M_nodes M_solved M_dropped M_fits M_proofSize M_tooLong M_text M_now M_trial M_read M_diary M_kept M_isKept M_constraint M_readConstraint M_word M_size M_number M_firstOne M_node M_parent M_rule M_child M_proof M_witness M_witnessSize M_built M_copyRow) (some (.int r)) (wX12 g aM aM_text aM_now aM_trial aM_read aM_diary aM_kept aM_isKept aM_constraint aM_readConstraint aM_word aM_size aM_number aM_firstOne aM_node aM_parent aM_rule aM_child aM_proof aM_witness aM_witnessSize aM_built aM_copyRow M_length M_acts M_next M_many M_readMany M_found M_shortest M_nodes M_solved M_dropped M_fits M_proofSize M_tooLong M_text M_now M_trial M_read M_diary M_kept M_isKept M_constraint M_readConstraint M_word M_size M_number M_firstOne M_node M_parent M_rule M_child M_proof M_witness M_witnessSize M_built M_copyRow) := by
  refine Ct.introZ (by decide) (Nat.le_of_ble_eq_true rfl) ?_
  intro p e s m below meth c A QQ ls hyp hret
  obtain ⟨hx, hb, hml, hts, hown, hA, hE, hP, hD, hl⟩ := hyp
  have hK := hE.1
  have hS : va_S A s.heap s.heap [] := va_S.rf
  have X : Here g p s m c cX12_applies 6 ([.ref aM, .int x1] : List Value).toArray RX12 A := ⟨⟨hx, hb, hml, hown, hts⟩, hE, hA⟩
  have B115 : ∀ (v2 : Int32) (v3 : Int32) (v4 : Int32) (s0 : Int32) (ls : Array Slot) (H : Heap) (locs : List Loc), lv_has ls 6 [(1, .int x1), (2, .int v2), (3, .int v3), (4, .int v4)] → va_P g.1 vwCl (wX12 g aM aM_text aM_now aM_trial aM_read aM_diary aM_kept aM_isKept aM_constraint aM_readConstraint aM_word aM_size aM_number aM_firstOne aM_node aM_parent aM_rule aM_child aM_proof aM_witness aM_witnessSize aM_built aM_copyRow M_length M_acts M_next M_many M_readMany M_found M_shortest M_nodes M_solved M_dropped M_fits M_proofSize M_tooLong M_text M_now M_trial M_read M_diary M_kept M_isKept M_constraint M_readConstraint M_word M_size M_number M_firstOne M_node M_parent M_rule M_child M_proof M_witness M_witnessSize M_built M_copyRow) H → va_D A (wX12 g aM aM_text aM_now aM_trial aM_read aM_diary aM_kept aM_isKept aM_constraint aM_readConstraint aM_word aM_size aM_number aM_firstOne aM_node aM_parent aM_rule aM_child aM_proof aM_witness aM_witnessSize aM_built aM_copyRow M_length M_acts M_next M_many M_readMany M_found M_shortest M_nodes M_solved M_dropped M_fits M_proofSize M_tooLong M_text M_now M_trial M_read M_diary M_kept M_isKept M_constraint M_readConstraint M_word M_size M_number M_firstOne M_node M_parent M_rule M_child M_proof M_witness M_witnessSize M_built M_copyRow) → va_S A s.heap H locs → fM_applies_115 x1 v2 v3 v4 s0 = some r → W p l e rmX12_applies s m ([.ref aM, .int x1] : List Value).toArray below meth c H locs 0 0 QQ (F0 m 115 ls [.int s0]) := by
    intro v2 v3 v4 s0 ls H locs hl hP hD hS h
    refine lv_istore (lv' := [(5, .int s0), (1, .int x1), (2, .int v2), (3, .int v3), (4, .int v4)]) hx hb dX12_applies_115 hl (by decide) rfl (fun ls hl => ?_)
    refine lv_iload_n hx hb dX12_applies_117 rfl (lv_at hl 1 rfl) ?_
    by_cases q118_0 : x1 = (0 : Int32)
    · have h := ifT h q118_0
      refine lv_tableIn (off := 30) (tgt := 148) hx hb dX12_applies_118 (by rw [q118_0]; decide) (by rw [q118_0]; decide) (by rw [q118_0]; rfl) (by decide) ?_
      refine lv_iload_n hx hb dX12_applies_148 rfl (lv_at hl 3 rfl) ?_
      have z149 := ckz_is h
      have h := ckz_to h
      have h : some v3 = some r := h
      cases h
      exact hret _ _ _ _ (nz_nar z149) hP hD hS dX12_applies_149
    have h := ifF h q118_0
    by_cases q118_1 : x1 = (1 : Int32)
    · have h := ifT h q118_1
      refine lv_tableIn (off := 32) (tgt := 150) hx hb dX12_applies_118 (by rw [q118_1]; decide) (by rw [q118_1]; decide) (by rw [q118_1]; rfl) (by decide) ?_
      refine lv_iload_n hx hb dX12_applies_150 rfl (lv_at hl 3 rfl) ?_
      refine lv_if_ne (tgt := 163) hx hb dX12_applies_151 (by decide) (fun q151 => ?_) (fun q151 => ?_)
      · have h := ifF h q151
        refine lv_iconst (v := (0 : Int32)) hx hb dX12_applies_163 (by decide) ?_
        have h : some (0 : Int32) = some r := h
        cases h
        exact hret _ _ _ _ rfl hP hD hS dX12_applies_164
      have h := ifT h q151
      refine lv_iload hx hb dX12_applies_154 (lv_at hl 4 rfl) ?_
      refine lv_if_eq (tgt := 163) hx hb dX12_applies_156 (by decide) (fun q156 => ?_) (fun q156 => ?_)
      · have h := ifT h q156
        refine lv_iconst (v := (0 : Int32)) hx hb dX12_applies_163 (by decide) ?_
        have h : some (0 : Int32) = some r := h
        cases h
        exact hret _ _ _ _ rfl hP hD hS dX12_applies_164
      have h := ifF h q156
      refine lv_iconst (v := (1 : Int32)) hx hb dX12_applies_159 (by decide) ?_
      refine lv_goto (tgt := 164) hx hb dX12_applies_160 (by decide) ?_
      have h : some (1 : Int32) = some r := h
      cases h
      exact hret _ _ _ _ rfl hP hD hS dX12_applies_164
    have h := ifF h q118_1
    by_cases q118_2 : x1 = (2 : Int32)
    · have h := ifT h q118_2
      refine lv_tableIn (off := 47) (tgt := 165) hx hb dX12_applies_118 (by rw [q118_2]; decide) (by rw [q118_2]; decide) (by rw [q118_2]; rfl) (by decide) ?_
      refine lv_iload_n hx hb dX12_applies_165 rfl (lv_at hl 3 rfl) ?_
      refine lv_if_ne (tgt := 178) hx hb dX12_applies_166 (by decide) (fun q166 => ?_) (fun q166 => ?_)
      · have h := ifF h q166
        refine lv_iconst (v := (0 : Int32)) hx hb dX12_applies_178 (by decide) ?_
        have h : some (0 : Int32) = some r := h
        cases h
        exact hret _ _ _ _ rfl hP hD hS dX12_applies_179
      have h := ifT h q166
      refine lv_iload hx hb dX12_applies_169 (lv_at hl 0 rfl) ?_
      refine lv_if_eq (tgt := 178) hx hb dX12_applies_171 (by decide) (fun q171 => ?_) (fun q171 => ?_)
      · have h := ifT h q171
        refine lv_iconst (v := (0 : Int32)) hx hb dX12_applies_178 (by decide) ?_
        have h : some (0 : Int32) = some r := h
        cases h
        exact hret _ _ _ _ rfl hP hD hS dX12_applies_179
      have h := ifF h q171
      refine lv_iconst (v := (1 : Int32)) hx hb dX12_applies_174 (by decide) ?_
      refine lv_goto (tgt := 179) hx hb dX12_applies_175 (by decide) ?_
      have h : some (1 : Int32) = some r := h
      cases h
      exact hret _ _ _ _ rfl hP hD hS dX12_applies_179
    have h := ifF h q118_2
    by_cases q118_3 : x1 = (3 : Int32)
    · have h := ifT h q118_3
      refine lv_tableIn (off := 62) (tgt := 180) hx hb dX12_applies_118 (by rw [q118_3]; decide) (by rw [q118_3]; decide) (by rw [q118_3]; rfl) (by decide) ?_
      refine lv_iload_n hx hb dX12_applies_180 rfl (lv_at hl 3 rfl) ?_
      refine lv_if_ne (tgt := 197) hx hb dX12_applies_181 (by decide) (fun q181 => ?_) (fun q181 => ?_)
      · have h := ifF h q181
        refine lv_iconst (v := (0 : Int32)) hx hb dX12_applies_197 (by decide) ?_
        have h : some (0 : Int32) = some r := h
        cases h
        exact hret _ _ _ _ rfl hP hD hS dX12_applies_198
      have h := ifT h q181
      refine lv_iload hx hb dX12_applies_184 (lv_at hl 4 rfl) ?_
      refine lv_if_eq (tgt := 197) hx hb dX12_applies_186 (by decide) (fun q186 => ?_) (fun q186 => ?_)
      · have h := ifT h q186
        refine lv_iconst (v := (0 : Int32)) hx hb dX12_applies_197 (by decide) ?_
        have h : some (0 : Int32) = some r := h
        cases h
        exact hret _ _ _ _ rfl hP hD hS dX12_applies_198
      have h := ifF h q186
      refine lv_iload_n hx hb dX12_applies_189 rfl (lv_at hl 2 rfl) ?_
      refine lv_if_eq (tgt := 197) hx hb dX12_applies_190 (by decide) (fun q190 => ?_) (fun q190 => ?_)
      · have h := ifT h q190
        refine lv_iconst (v := (0 : Int32)) hx hb dX12_applies_197 (by decide) ?_
        have h : some (0 : Int32) = some r := h
        cases h
        exact hret _ _ _ _ rfl hP hD hS dX12_applies_198
      have h := ifF h q190
      refine lv_iconst (v := (1 : Int32)) hx hb dX12_applies_193 (by decide) ?_
      refine lv_goto (tgt := 198) hx hb dX12_applies_194 (by decide) ?_
      have h : some (1 : Int32) = some r := h
      cases h
      exact hret _ _ _ _ rfl hP hD hS dX12_applies_198
    have h := ifF h q118_3
    refine lv_tableOut (tgt := 199) hx hb dX12_applies_118 (by have z0 := lv_neT (a := 0) q118_0 (by decide); have z1 := lv_neT (a := 1) q118_1 (by decide); have z2 := lv_neT (a := 2) q118_2 (by decide); have z3 := lv_neT (a := 3) q118_3 (by decide); omega) (by decide) ?_
    refine lv_iload_n hx hb dX12_applies_199 rfl (lv_at hl 3 rfl) ?_
    refine lv_if_ne (tgt := 216) hx hb dX12_applies_200 (by decide) (fun q200 => ?_) (fun q200 => ?_)
    · have h := ifF h q200
      refine lv_iconst (v := (0 : Int32)) hx hb dX12_applies_216 (by decide) ?_
      have h : some (0 : Int32) = some r := h
      cases h
      exact hret _ _ _ _ rfl hP hD hS dX12_applies_217
    have h := ifT h q200
    refine lv_iload hx hb dX12_applies_203 (lv_at hl 0 rfl) ?_
    refine lv_if_eq (tgt := 216) hx hb dX12_applies_205 (by decide) (fun q205 => ?_) (fun q205 => ?_)
    · have h := ifT h q205
      refine lv_iconst (v := (0 : Int32)) hx hb dX12_applies_216 (by decide) ?_
      have h : some (0 : Int32) = some r := h
      cases h
      exact hret _ _ _ _ rfl hP hD hS dX12_applies_217
    have h := ifF h q205
    refine lv_iload_n hx hb dX12_applies_208 rfl (lv_at hl 2 rfl) ?_
    refine lv_if_eq (tgt := 216) hx hb dX12_applies_209 (by decide) (fun q209 => ?_) (fun q209 => ?_)
    · have h := ifT h q209
      refine lv_iconst (v := (0 : Int32)) hx hb dX12_applies_216 (by decide) ?_
      have h : some (0 : Int32) = some r := h
      cases h
      exact hret _ _ _ _ rfl hP hD hS dX12_applies_217
    have h := ifF h q209
    refine lv_iconst (v := (1 : Int32)) hx hb dX12_applies_212 (by decide) ?_
    refine lv_goto (tgt := 217) hx hb dX12_applies_213 (by decide) ?_
    have h : some (1 : Int32) = some r := h
    cases h
    exact hret _ _ _ _ rfl hP hD hS dX12_applies_217
  have B85 : ∀ (v2 : Int32) (v3 : Int32) (s0 : Int32) (ls : Array Slot) (H : Heap) (locs : List Loc), lv_has ls 6 [(0, .ref aM), (1, .int x1), (2, .int v2), (3, .int v3)] → va_P g.1 vwCl (wX12 g aM aM_text aM_now aM_trial aM_read aM_diary aM_kept aM_isKept aM_constraint aM_readConstraint aM_word aM_size aM_number aM_firstOne aM_node aM_parent aM_rule aM_child aM_proof aM_witness aM_witnessSize aM_built aM_copyRow M_length M_acts M_next M_many M_readMany M_found M_shortest M_nodes M_solved M_dropped M_fits M_proofSize M_tooLong M_text M_now M_trial M_read M_diary M_kept M_isKept M_constraint M_readConstraint M_word M_size M_number M_firstOne M_node M_parent M_rule M_child M_proof M_witness M_witnessSize M_built M_copyRow) H → va_D A (wX12 g aM aM_text aM_now aM_trial aM_read aM_diary aM_kept aM_isKept aM_constraint aM_readConstraint aM_word aM_size aM_number aM_firstOne aM_node aM_parent aM_rule aM_child aM_proof aM_witness aM_witnessSize aM_built aM_copyRow M_length M_acts M_next M_many M_readMany M_found M_shortest M_nodes M_solved M_dropped M_fits M_proofSize M_tooLong M_text M_now M_trial M_read M_diary M_kept M_isKept M_constraint M_readConstraint M_word M_size M_number M_firstOne M_node M_parent M_rule M_child M_proof M_witness M_witnessSize M_built M_copyRow) → va_S A s.heap H locs → fM_applies_85 M_trial x1 v2 v3 s0 = some r → W p l e rmX12_applies s m ([.ref aM, .int x1] : List Value).toArray below meth c H locs 0 0 QQ (F0 m 85 ls [.int s0]) := by
    intro v2 v3 s0 ls H locs hl hP hD hS h
    refine lv_istore (lv' := [(4, .int s0), (0, .ref aM), (1, .int x1), (2, .int v2), (3, .int v3)]) hx hb dX12_applies_85 hl (by decide) rfl (fun ls hl => ?_)
    refine lv_aload_n hx hb dX12_applies_87 rfl (lv_at hl 1 rfl) ?_
    refine va_get (D := g.1) (ci := 11) (v := .ref aM_trial) (C := RX12) (T := TX12) (N := 35) hx hb hts inBX12 hown hK hP 0 rfl rfl 3 (by decide) (hts _ wd4_199) (fun _ h9 => h9) rfl dX12_applies_88 ?_
    refine lv_iconst (v := (1 : Int32)) hx hb dX12_applies_91 (by decide) ?_
    have hin := ld_in h
    refine va_iald hx hb hK hP 3 0 rfl rfl hin dX12_applies_92 ?_
    refine lv_topi (fun t92 et92 => ?_)
    have h := ld_to h et92
    refine lv_if_le (tgt := 114) hx hb dX12_applies_93 (by decide) (fun q93 => ?_) (fun q93 => ?_)
    · have h := ifT h q93
      refine lv_iconst (v := (0 : Int32)) hx hb dX12_applies_114 (by decide) ?_
      exact B115 v2 v3 s0 (0 : Int32) ls H locs (lv_sub hl [2, 3, 4, 0] rfl) hP hD hS h
    have h := ifF h q93
    refine lv_aload_n hx hb dX12_applies_96 rfl (lv_at hl 1 rfl) ?_
    refine va_get (D := g.1) (ci := 11) (v := .ref aM_trial) (C := RX12) (T := TX12) (N := 35) hx hb hts inBX12 hown hK hP 0 rfl rfl 3 (by decide) (hts _ wd4_199) (fun _ h9 => h9) rfl dX12_applies_97 ?_
    refine lv_iconst (v := (1 : Int32)) hx hb dX12_applies_100 (by decide) ?_
    refine lv_iconst (v := (0 : Int32)) hx hb dX12_applies_101 (by decide) ?_
    obtain ⟨t102, hc102, h⟩ := bd1_to h
    refine go_0 (st1 := [.int t102, .ref aM_trial]) (run_S (As := [.int (1 : Int32), .int (0 : Int32)]) (rest := [.ref aM_trial]) X hS (mX12_at g l  (1 : Int32) (0 : Int32) t102 hc102) okX12_at wd5_87 ⟨Nat.le_of_ble_eq_true rfl, Nat.le_of_ble_eq_true rfl⟩ ⟨rfl, rfl⟩ nil_P nil_D (nil_F hS hA) rfl hl.1 rfl (Nat.le_of_ble_eq_true rfl) dX12_applies_102 ⟨Nat.zero_le _, Nat.zero_le _⟩) hS hA hP rfl (fun H locs hP hS => ?_)
    have hin := ld_in h
    refine va_iald hx hb hK hP 3 0 rfl rfl hin dX12_applies_105 ?_
    refine lv_topi (fun t105 et105 => ?_)
    have h := ld_to h et105
    refine lv_iconst (v := (1 : Int32)) hx hb dX12_applies_106 (by decide) ?_
    refine lv_icmp_le (tgt := 114) hx hb dX12_applies_107 (by decide) (fun q107 => ?_) (fun q107 => ?_)
    · have h := ifT h q107
      refine lv_iconst (v := (0 : Int32)) hx hb dX12_applies_114 (by decide) ?_
      exact B115 v2 v3 s0 (0 : Int32) ls H locs (lv_sub hl [2, 3, 4, 0] rfl) hP hD hS h
    have h := ifF h q107
    refine lv_iconst (v := (1 : Int32)) hx hb dX12_applies_110 (by decide) ?_
    refine lv_goto (tgt := 115) hx hb dX12_applies_111 (by decide) ?_
    exact B115 v2 v3 s0 (1 : Int32) ls H locs (lv_sub hl [2, 3, 4, 0] rfl) hP hD hS h
  have B56 : ∀ (v2 : Int32) (s0 : Int32) (ls : Array Slot) (H : Heap) (locs : List Loc), lv_has ls 6 [(0, .ref aM), (1, .int x1), (2, .int v2)] → va_P g.1 vwCl (wX12 g aM aM_text aM_now aM_trial aM_read aM_diary aM_kept aM_isKept aM_constraint aM_readConstraint aM_word aM_size aM_number aM_firstOne aM_node aM_parent aM_rule aM_child aM_proof aM_witness aM_witnessSize aM_built aM_copyRow M_length M_acts M_next M_many M_readMany M_found M_shortest M_nodes M_solved M_dropped M_fits M_proofSize M_tooLong M_text M_now M_trial M_read M_diary M_kept M_isKept M_constraint M_readConstraint M_word M_size M_number M_firstOne M_node M_parent M_rule M_child M_proof M_witness M_witnessSize M_built M_copyRow) H → va_D A (wX12 g aM aM_text aM_now aM_trial aM_read aM_diary aM_kept aM_isKept aM_constraint aM_readConstraint aM_word aM_size aM_number aM_firstOne aM_node aM_parent aM_rule aM_child aM_proof aM_witness aM_witnessSize aM_built aM_copyRow M_length M_acts M_next M_many M_readMany M_found M_shortest M_nodes M_solved M_dropped M_fits M_proofSize M_tooLong M_text M_now M_trial M_read M_diary M_kept M_isKept M_constraint M_readConstraint M_word M_size M_number M_firstOne M_node M_parent M_rule M_child M_proof M_witness M_witnessSize M_built M_copyRow) → va_S A s.heap H locs → fM_applies_56 M_trial x1 v2 s0 = some r → W p l e rmX12_applies s m ([.ref aM, .int x1] : List Value).toArray below meth c H locs 0 0 QQ (F0 m 56 ls [.int s0]) := by
    intro v2 s0 ls H locs hl hP hD hS h
    refine lv_istore_n (lv' := [(3, .int s0), (0, .ref aM), (1, .int x1), (2, .int v2)]) hx hb dX12_applies_56 rfl hl (by decide) rfl (fun ls hl => ?_)
    refine lv_aload_n hx hb dX12_applies_57 rfl (lv_at hl 1 rfl) ?_
    refine va_get (D := g.1) (ci := 11) (v := .ref aM_trial) (C := RX12) (T := TX12) (N := 35) hx hb hts inBX12 hown hK hP 0 rfl rfl 3 (by decide) (hts _ wd4_199) (fun _ h9 => h9) rfl dX12_applies_58 ?_
    refine lv_iconst (v := (0 : Int32)) hx hb dX12_applies_61 (by decide) ?_
    have hin := ld_in h
    refine va_iald hx hb hK hP 3 0 rfl rfl hin dX12_applies_62 ?_
    refine lv_topi (fun t62 et62 => ?_)
    have h := ld_to h et62
    refine lv_if_le (tgt := 84) hx hb dX12_applies_63 (by decide) (fun q63 => ?_) (fun q63 => ?_)
    · have h := ifT h q63
      refine lv_iconst (v := (0 : Int32)) hx hb dX12_applies_84 (by decide) ?_
      exact B85 v2 s0 (0 : Int32) ls H locs (lv_sub hl [1, 2, 3, 0] rfl) hP hD hS h
    have h := ifF h q63
    refine lv_aload_n hx hb dX12_applies_66 rfl (lv_at hl 1 rfl) ?_
    refine va_get (D := g.1) (ci := 11) (v := .ref aM_trial) (C := RX12) (T := TX12) (N := 35) hx hb hts inBX12 hown hK hP 0 rfl rfl 3 (by decide) (hts _ wd4_199) (fun _ h9 => h9) rfl dX12_applies_67 ?_
    refine lv_iconst (v := (0 : Int32)) hx hb dX12_applies_70 (by decide) ?_
    refine lv_iconst (v := (0 : Int32)) hx hb dX12_applies_71 (by decide) ?_
    obtain ⟨t72, hc72, h⟩ := bd1_to h
    refine go_0 (st1 := [.int t72, .ref aM_trial]) (run_S (As := [.int (0 : Int32), .int (0 : Int32)]) (rest := [.ref aM_trial]) X hS (mX12_at g l  (0 : Int32) (0 : Int32) t72 hc72) okX12_at wd5_87 ⟨Nat.le_of_ble_eq_true rfl, Nat.le_of_ble_eq_true rfl⟩ ⟨rfl, rfl⟩ nil_P nil_D (nil_F hS hA) rfl hl.1 rfl (Nat.le_of_ble_eq_true rfl) dX12_applies_72 ⟨Nat.zero_le _, Nat.zero_le _⟩) hS hA hP rfl (fun H locs hP hS => ?_)
    have hin := ld_in h
    refine va_iald hx hb hK hP 3 0 rfl rfl hin dX12_applies_75 ?_
    refine lv_topi (fun t75 et75 => ?_)
    have h := ld_to h et75
    refine lv_iconst (v := (1 : Int32)) hx hb dX12_applies_76 (by decide) ?_
    refine lv_icmp_le (tgt := 84) hx hb dX12_applies_77 (by decide) (fun q77 => ?_) (fun q77 => ?_)
    · have h := ifT h q77
      refine lv_iconst (v := (0 : Int32)) hx hb dX12_applies_84 (by decide) ?_
      exact B85 v2 s0 (0 : Int32) ls H locs (lv_sub hl [1, 2, 3, 0] rfl) hP hD hS h
    have h := ifF h q77
    refine lv_iconst (v := (1 : Int32)) hx hb dX12_applies_80 (by decide) ?_
    refine lv_goto (tgt := 85) hx hb dX12_applies_81 (by decide) ?_
    exact B85 v2 s0 (1 : Int32) ls H locs (lv_sub hl [1, 2, 3, 0] rfl) hP hD hS h
  have B23 : ∀ (s0 : Int32) (ls : Array Slot) (H : Heap) (locs : List Loc), lv_has ls 6 [(0, .ref aM), (1, .int x1)] → va_P g.1 vwCl (wX12 g aM aM_text aM_now aM_trial aM_read aM_diary aM_kept aM_isKept aM_constraint aM_readConstraint aM_word aM_size aM_number aM_firstOne aM_node aM_parent aM_rule aM_child aM_proof aM_witness aM_witnessSize aM_built aM_copyRow M_length M_acts M_next M_many M_readMany M_found M_shortest M_nodes M_solved M_dropped M_fits M_proofSize M_tooLong M_text M_now M_trial M_read M_diary M_kept M_isKept M_constraint M_readConstraint M_word M_size M_number M_firstOne M_node M_parent M_rule M_child M_proof M_witness M_witnessSize M_built M_copyRow) H → va_D A (wX12 g aM aM_text aM_now aM_trial aM_read aM_diary aM_kept aM_isKept aM_constraint aM_readConstraint aM_word aM_size aM_number aM_firstOne aM_node aM_parent aM_rule aM_child aM_proof aM_witness aM_witnessSize aM_built aM_copyRow M_length M_acts M_next M_many M_readMany M_found M_shortest M_nodes M_solved M_dropped M_fits M_proofSize M_tooLong M_text M_now M_trial M_read M_diary M_kept M_isKept M_constraint M_readConstraint M_word M_size M_number M_firstOne M_node M_parent M_rule M_child M_proof M_witness M_witnessSize M_built M_copyRow) → va_S A s.heap H locs → fM_applies_23 M_trial x1 s0 = some r → W p l e rmX12_applies s m ([.ref aM, .int x1] : List Value).toArray below meth c H locs 0 0 QQ (F0 m 23 ls [.int s0]) := by
    intro s0 ls H locs hl hP hD hS h
    refine lv_istore_n (lv' := [(2, .int s0), (0, .ref aM), (1, .int x1)]) hx hb dX12_applies_23 rfl hl (by decide) rfl (fun ls hl => ?_)
    refine lv_iload_n hx hb dX12_applies_24 rfl (lv_at hl 0 rfl) ?_
    refine lv_if_eq (tgt := 55) hx hb dX12_applies_25 (by decide) (fun q25 => ?_) (fun q25 => ?_)
    · have h := ifT h q25
      refine lv_iconst (v := (0 : Int32)) hx hb dX12_applies_55 (by decide) ?_
      exact B56 s0 (0 : Int32) ls H locs (lv_sub hl [1, 2, 0] rfl) hP hD hS h
    have h := ifF h q25
    refine lv_aload_n hx hb dX12_applies_28 rfl (lv_at hl 1 rfl) ?_
    refine va_get (D := g.1) (ci := 11) (v := .ref aM_trial) (C := RX12) (T := TX12) (N := 35) hx hb hts inBX12 hown hK hP 0 rfl rfl 3 (by decide) (hts _ wd4_199) (fun _ h9 => h9) rfl dX12_applies_29 ?_
    refine lv_iconst (v := (0 : Int32)) hx hb dX12_applies_32 (by decide) ?_
    refine lv_iconst (v := (0 : Int32)) hx hb dX12_applies_33 (by decide) ?_
    obtain ⟨t34, hc34, h⟩ := bd1_to h
    refine go_0 (st1 := [.int t34, .ref aM_trial]) (run_S (As := [.int (0 : Int32), .int (0 : Int32)]) (rest := [.ref aM_trial]) X hS (mX12_at g l  (0 : Int32) (0 : Int32) t34 hc34) okX12_at wd5_87 ⟨Nat.le_of_ble_eq_true rfl, Nat.le_of_ble_eq_true rfl⟩ ⟨rfl, rfl⟩ nil_P nil_D (nil_F hS hA) rfl hl.1 rfl (Nat.le_of_ble_eq_true rfl) dX12_applies_34 ⟨Nat.zero_le _, Nat.zero_le _⟩) hS hA hP rfl (fun H locs hP hS => ?_)
    have hin := ld_in h
    refine va_iald hx hb hK hP 3 0 rfl rfl hin dX12_applies_37 ?_
    refine lv_topi (fun t37 et37 => ?_)
    have h := ld_to h et37
    refine lv_aload_n hx hb dX12_applies_38 rfl (lv_at hl 1 rfl) ?_
    refine va_get (D := g.1) (ci := 11) (v := .ref aM_trial) (C := RX12) (T := TX12) (N := 35) hx hb hts inBX12 hown hK hP 0 rfl rfl 3 (by decide) (hts _ wd4_199) (fun _ h9 => h9) rfl dX12_applies_39 ?_
    refine lv_iconst (v := (1 : Int32)) hx hb dX12_applies_42 (by decide) ?_
    refine lv_iconst (v := (0 : Int32)) hx hb dX12_applies_43 (by decide) ?_
    obtain ⟨t44, hc44, h⟩ := bd1_to h
    refine go_0 (st1 := [.int t44, .ref aM_trial, .int t37]) (run_S (As := [.int (1 : Int32), .int (0 : Int32)]) (rest := [.ref aM_trial, .int t37]) X hS (mX12_at g l  (1 : Int32) (0 : Int32) t44 hc44) okX12_at wd5_87 ⟨Nat.le_of_ble_eq_true rfl, Nat.le_of_ble_eq_true rfl⟩ ⟨rfl, rfl⟩ nil_P nil_D (nil_F hS hA) rfl hl.1 rfl (Nat.le_of_ble_eq_true rfl) dX12_applies_44 ⟨Nat.zero_le _, Nat.zero_le _⟩) hS hA hP rfl (fun H locs hP hS => ?_)
    have hin := ld_in h
    refine va_iald hx hb hK hP 3 0 rfl rfl hin dX12_applies_47 ?_
    refine lv_topi (fun t47 et47 => ?_)
    have h := ld_to h et47
    refine lv_icmp_ne (tgt := 55) hx hb dX12_applies_48 (by decide) (fun q48 => ?_) (fun q48 => ?_)
    · have h := ifF h q48
      refine lv_iconst (v := (0 : Int32)) hx hb dX12_applies_55 (by decide) ?_
      exact B56 s0 (0 : Int32) ls H locs (lv_sub hl [1, 2, 0] rfl) hP hD hS h
    have h := ifT h q48
    refine lv_iconst (v := (1 : Int32)) hx hb dX12_applies_51 (by decide) ?_
    refine lv_goto (tgt := 56) hx hb dX12_applies_52 (by decide) ?_
    exact B56 s0 (1 : Int32) ls H locs (lv_sub hl [1, 2, 0] rfl) hP hD hS h
  have hl : lv_has ls 6 [(0, .ref aM), (1, .int x1)] := hl
  obtain ⟨H, hH⟩ : ∃ H, H = s.heap := ⟨_, rfl⟩
  obtain ⟨locs, hlocs⟩ : ∃ l : List Loc, l = [] := ⟨_, rfl⟩
  rw [show W p l e rmX12_applies s m ([.ref aM, .int x1] : List Value).toArray below meth c s.heap [] 0 0 QQ (F0 m 0 ls []) = W p l e rmX12_applies s m ([.ref aM, .int x1] : List Value).toArray below meth c H locs 0 0 QQ (F0 m 0 ls []) by rw [hH, hlocs]]
  have hP : va_P g.1 vwCl (wX12 g aM aM_text aM_now aM_trial aM_read aM_diary aM_kept aM_isKept aM_constraint aM_readConstraint aM_word aM_size aM_number aM_firstOne aM_node aM_parent aM_rule aM_child aM_proof aM_witness aM_witnessSize aM_built aM_copyRow M_length M_acts M_next M_many M_readMany M_found M_shortest M_nodes M_solved M_dropped M_fits M_proofSize M_tooLong M_text M_now M_trial M_read M_diary M_kept M_isKept M_constraint M_readConstraint M_word M_size M_number M_firstOne M_node M_parent M_rule M_child M_proof M_witness M_witnessSize M_built M_copyRow) H := by rw [hH]; exact hP
  have hD : va_D A (wX12 g aM aM_text aM_now aM_trial aM_read aM_diary aM_kept aM_isKept aM_constraint aM_readConstraint aM_word aM_size aM_number aM_firstOne aM_node aM_parent aM_rule aM_child aM_proof aM_witness aM_witnessSize aM_built aM_copyRow M_length M_acts M_next M_many M_readMany M_found M_shortest M_nodes M_solved M_dropped M_fits M_proofSize M_tooLong M_text M_now M_trial M_read M_diary M_kept M_isKept M_constraint M_readConstraint M_word M_size M_number M_firstOne M_node M_parent M_rule M_child M_proof M_witness M_witnessSize M_built M_copyRow) := hD
  have hS : va_S A s.heap H locs := by rw [hH, hlocs]; exact hS
  clear hH hlocs
  refine lv_aload_n hx hb dX12_applies_0 rfl (lv_at hl 0 rfl) ?_
  refine va_get (D := g.1) (ci := 11) (v := .ref aM_trial) (C := RX12) (T := TX12) (N := 35) hx hb hts inBX12 hown hK hP 0 rfl rfl 3 (by decide) (hts _ wd4_199) (fun _ h9 => h9) rfl dX12_applies_1 ?_
  refine lv_iconst (v := (0 : Int32)) hx hb dX12_applies_4 (by decide) ?_
  have hin := ld_in h
  refine va_iald hx hb hK hP 3 0 rfl rfl hin dX12_applies_5 ?_
  refine lv_topi (fun t5 et5 => ?_)
  have h := ld_to h et5
  refine lv_if_le (tgt := 22) hx hb dX12_applies_6 (by decide) (fun q6 => ?_) (fun q6 => ?_)
  · have h := ifT h q6
    refine lv_iconst (v := (0 : Int32)) hx hb dX12_applies_22 (by decide) ?_
    exact B23 (0 : Int32) ls H locs (lv_sub hl [0, 1] rfl) hP hD hS h
  have h := ifF h q6
  refine lv_aload_n hx hb dX12_applies_9 rfl (lv_at hl 0 rfl) ?_
  refine va_get (D := g.1) (ci := 11) (v := .ref aM_trial) (C := RX12) (T := TX12) (N := 35) hx hb hts inBX12 hown hK hP 0 rfl rfl 3 (by decide) (hts _ wd4_199) (fun _ h9 => h9) rfl dX12_applies_10 ?_
  refine lv_iconst (v := (1 : Int32)) hx hb dX12_applies_13 (by decide) ?_
  have hin := ld_in h
  refine va_iald hx hb hK hP 3 0 rfl rfl hin dX12_applies_14 ?_
  refine lv_topi (fun t14 et14 => ?_)
  have h := ld_to h et14
  refine lv_if_le (tgt := 22) hx hb dX12_applies_15 (by decide) (fun q15 => ?_) (fun q15 => ?_)
  · have h := ifT h q15
    refine lv_iconst (v := (0 : Int32)) hx hb dX12_applies_22 (by decide) ?_
    exact B23 (0 : Int32) ls H locs (lv_sub hl [0, 1] rfl) hP hD hS h
  have h := ifF h q15
  refine lv_iconst (v := (1 : Int32)) hx hb dX12_applies_18 (by decide) ?_
  refine lv_goto (tgt := 23) hx hb dX12_applies_19 (by decide) ?_
  exact B23 (1 : Int32) ls H locs (lv_sub hl [0, 1] rfl) hP hD hS h
set_option maxHeartbeats 4000000 in
set_option maxRecDepth 100000 in
theorem mX12_layChild (g : GP) (l : Launch) (aM aM_text aM_now aM_trial aM_read aM_diary aM_kept aM_isKept aM_constraint aM_readConstraint aM_word aM_size aM_number aM_firstOne aM_node aM_parent aM_rule aM_child aM_proof aM_witness aM_witnessSize aM_built aM_copyRow : Nat) (M_length : Int32) (M_acts : Int32) (M_next : Int32) (M_many : Int32) (M_readMany : Int32) (M_found : Int32) (M_shortest : Int32) (M_nodes : Int32) (M_solved : Int32) (M_dropped : Int32) (M_fits : Int32) (M_proofSize : Int32) (M_tooLong : Int32) (M_text : Nat → Int32) (M_now : Nat → Int32) (M_trial : Nat → Int32) (M_read : Nat → Int32) (M_diary : Nat → Int32) (M_kept : Nat → Int32) (M_isKept : Nat → Int32) (M_constraint : Nat → Int32) (M_readConstraint : Nat → Int32) (M_word : Nat → Int32) (M_size : Nat → Int32) (M_number : Nat → Int32) (M_firstOne : Nat → Int32) (M_node : Nat → Int32) (M_parent : Nat → Int32) (M_rule : Nat → Int32) (M_child : Nat → Int32) (M_proof : Nat → Int32) (M_witness : Nat → Int32) (M_witnessSize : Nat → Int32) (M_built : Nat → Int32) (M_copyRow : Nat → Int32) (x1 : Int32) (M_fits_o : Int32) (M_child_o : Nat → Int32) (h : fM_layChild M_trial M_child x1 = some (M_fits_o, M_child_o)) : Ct g l yX12_layChild cX12_layChild 15 none rmX12_layChild [.ref aM, .int x1] (wX12 g aM aM_text aM_now aM_trial aM_read aM_diary aM_kept aM_isKept aM_constraint aM_readConstraint aM_word aM_size aM_number aM_firstOne aM_node aM_parent aM_rule aM_child aM_proof aM_witness aM_witnessSize aM_built aM_copyRow M_length M_acts M_next M_many M_readMany M_found M_shortest M_nodes M_solved M_dropped M_fits M_proofSize M_tooLong M_text M_now M_trial M_read M_diary M_kept M_isKept M_constraint M_readConstraint M_word M_size M_number M_firstOne M_node M_parent M_rule M_child M_proof M_witness M_witnessSize M_built M_copyRow) none (wX12 g aM aM_text aM_now aM_trial aM_read aM_diary aM_kept aM_isKept aM_constraint aM_readConstraint aM_word aM_size aM_number aM_firstOne aM_node aM_parent aM_rule aM_child aM_proof aM_witness aM_witnessSize aM_built aM_copyRow M_length M_acts M_next M_many M_readMany M_found M_shortest M_nodes M_solved M_dropped M_fits_o M_proofSize M_tooLong M_text M_now M_trial M_read M_diary M_kept M_isKept M_constraint M_readConstraint M_word M_size M_number M_firstOne M_node M_parent M_rule M_child_o M_proof M_witness M_witnessSize M_built M_copyRow) := by
  refine Ct.introV (by decide) (Nat.le_of_ble_eq_true rfl) ?_
  intro p e s m below meth c A QQ ls hyp hret
  obtain ⟨hx, hb, hml, hts, hown, hA, hE, hP, hD, hl⟩ := hyp
  have hK := hE.1
  have hS : va_S A s.heap s.heap [] := va_S.rf
  have X : Here g p s m c cX12_layChild 15 ([.ref aM, .int x1] : List Value).toArray RX12 A := ⟨⟨hx, hb, hml, hown, hts⟩, hE, hA⟩
  have L108 : ∀ (n108 : Nat), ∀ (M_fits : Int32) (M_child : Nat → Int32) (v4 : Int32) (v5 : Int32) (v6 : Int32) (ls : Array Slot) (H : Heap) (locs : List Loc), lv_has ls 15 [(0, .ref aM), (1, .int x1), (4, .int v4), (5, .int v5), (6, .int v6)] → va_P g.1 vwCl (wX12 g aM aM_text aM_now aM_trial aM_read aM_diary aM_kept aM_isKept aM_constraint aM_readConstraint aM_word aM_size aM_number aM_firstOne aM_node aM_parent aM_rule aM_child aM_proof aM_witness aM_witnessSize aM_built aM_copyRow M_length M_acts M_next M_many M_readMany M_found M_shortest M_nodes M_solved M_dropped M_fits M_proofSize M_tooLong M_text M_now M_trial M_read M_diary M_kept M_isKept M_constraint M_readConstraint M_word M_size M_number M_firstOne M_node M_parent M_rule M_child M_proof M_witness M_witnessSize M_built M_copyRow) H → va_D A (wX12 g aM aM_text aM_now aM_trial aM_read aM_diary aM_kept aM_isKept aM_constraint aM_readConstraint aM_word aM_size aM_number aM_firstOne aM_node aM_parent aM_rule aM_child aM_proof aM_witness aM_witnessSize aM_built aM_copyRow M_length M_acts M_next M_many M_readMany M_found M_shortest M_nodes M_solved M_dropped M_fits M_proofSize M_tooLong M_text M_now M_trial M_read M_diary M_kept M_isKept M_constraint M_readConstraint M_word M_size M_number M_firstOne M_node M_parent M_rule M_child M_proof M_witness M_witnessSize M_built M_copyRow) → va_S A s.heap H locs → fx3 (fM_layChild_108 M_trial x1 v4 v5) n108 M_fits M_child v6 = some (M_fits_o, M_child_o) → W p l e rmX12_layChild s m ([.ref aM, .int x1] : List Value).toArray below meth c H locs 0 0 QQ (F0 m 108 ls []) := by
    intro n108
    induction n108 with
    | zero => intro M_fits M_child v4 v5 v6 ls H locs hl hP hD hS h; exact fx3_0 h
    | succ n108 ih108 =>
      intro M_fits M_child v4 v5 v6 ls H locs hl hP hD hS h
      have h := (fx3_s (fM_layChild_108 M_trial x1 v4 v5) n108 M_fits M_child v6).symm.trans h
      have B341 : ∀ (M_fits : Int32) (M_child : Nat → Int32) (v6 : Int32) (s1 : Int32) (ls : Array Slot) (H : Heap) (locs : List Loc), lv_has ls 15 [(0, .ref aM), (1, .int x1), (4, .int v4), (5, .int v5), (6, .int v6)] → va_P g.1 vwCl (wX12 g aM aM_text aM_now aM_trial aM_read aM_diary aM_kept aM_isKept aM_constraint aM_readConstraint aM_word aM_size aM_number aM_firstOne aM_node aM_parent aM_rule aM_child aM_proof aM_witness aM_witnessSize aM_built aM_copyRow M_length M_acts M_next M_many M_readMany M_found M_shortest M_nodes M_solved M_dropped M_fits M_proofSize M_tooLong M_text M_now M_trial M_read M_diary M_kept M_isKept M_constraint M_readConstraint M_word M_size M_number M_firstOne M_node M_parent M_rule M_child M_proof M_witness M_witnessSize M_built M_copyRow) H → va_D A (wX12 g aM aM_text aM_now aM_trial aM_read aM_diary aM_kept aM_isKept aM_constraint aM_readConstraint aM_word aM_size aM_number aM_firstOne aM_node aM_parent aM_rule aM_child aM_proof aM_witness aM_witnessSize aM_built aM_copyRow M_length M_acts M_next M_many M_readMany M_found M_shortest M_nodes M_solved M_dropped M_fits M_proofSize M_tooLong M_text M_now M_trial M_read M_diary M_kept M_isKept M_constraint M_readConstraint M_word M_size M_number M_firstOne M_node M_parent M_rule M_child M_proof M_witness M_witnessSize M_built M_copyRow) → va_S A s.heap H locs → fM_layChild_341 (fx3 (fM_layChild_108 M_trial x1 v4 v5) n108) M_trial M_child x1 v4 v5 v6 s1 = some (M_fits_o, M_child_o) → W p l e rmX12_layChild s m ([.ref aM, .int x1] : List Value).toArray below meth c H locs 0 0 QQ (F0 m 341 ls [.int s1, .ref aM]) := by
        intro M_fits M_child v6 s1 ls H locs hl hP hD hS h
        have z341 := ckz_is h
        have h := ckz_to h
        refine va_put (D := g.1) (ci := 11) (v := .int s1) (ty := .boolean) (C := RX12) (T := TX12) (N := 35) hx hb hts inBX12 tyX12 tyX12_ok nmX12 hown hK hP hD hS 0 rfl rfl 27 (by decide) (hts _ wd4_223) (fun _ h9 => h9) rfl (tyX12_ok 27 (by decide)) (nz_nar z341) (nz_fit z341) (Nat.le_of_ble_eq_true rfl) dX12_layChild_341 (fun H locs hP hD hS => ?_)
        have hP : va_P g.1 vwCl (wX12 g aM aM_text aM_now aM_trial aM_read aM_diary aM_kept aM_isKept aM_constraint aM_readConstraint aM_word aM_size aM_number aM_firstOne aM_node aM_parent aM_rule aM_child aM_proof aM_witness aM_witnessSize aM_built aM_copyRow M_length M_acts M_next M_many M_readMany M_found M_shortest M_nodes M_solved M_dropped s1 M_proofSize M_tooLong M_text M_now M_trial M_read M_diary M_kept M_isKept M_constraint M_readConstraint M_word M_size M_number M_firstOne M_node M_parent M_rule M_child M_proof M_witness M_witnessSize M_built M_copyRow) H := hP
        have hD : va_D A (wX12 g aM aM_text aM_now aM_trial aM_read aM_diary aM_kept aM_isKept aM_constraint aM_readConstraint aM_word aM_size aM_number aM_firstOne aM_node aM_parent aM_rule aM_child aM_proof aM_witness aM_witnessSize aM_built aM_copyRow M_length M_acts M_next M_many M_readMany M_found M_shortest M_nodes M_solved M_dropped s1 M_proofSize M_tooLong M_text M_now M_trial M_read M_diary M_kept M_isKept M_constraint M_readConstraint M_word M_size M_number M_firstOne M_node M_parent M_rule M_child M_proof M_witness M_witnessSize M_built M_copyRow) := hD
        obtain ⟨t344, et344⟩ : ∃ y : Int32, y = v6 + (1 : Int32) := ⟨_, rfl⟩
        refine lv_iinc (v := t344) (lv' := [(6, .int t344), (0, .ref aM), (1, .int x1), (4, .int v4), (5, .int v5)]) hx hb dX12_layChild_344 hl (k := 4) rfl (by rw [et344]; rfl) (by decide) rfl (fun ls hl => ?_)
        have h := st_to h et344
        refine lv_goto (tgt := 108) hx hb dX12_layChild_347 (by decide) ?_
        exact ih108 s1 M_child v4 v5 t344 ls H locs (lv_sub hl [1, 2, 3, 4, 0] rfl) hP hD hS h
      have B315 : ∀ (M_fits : Int32) (M_child : Nat → Int32) (v6 : Int32) (s1 : Int32) (s2 : Int32) (ls : Array Slot) (H : Heap) (locs : List Loc), lv_has ls 15 [(0, .ref aM), (1, .int x1), (4, .int v4), (5, .int v5), (6, .int v6)] → va_P g.1 vwCl (wX12 g aM aM_text aM_now aM_trial aM_read aM_diary aM_kept aM_isKept aM_constraint aM_readConstraint aM_word aM_size aM_number aM_firstOne aM_node aM_parent aM_rule aM_child aM_proof aM_witness aM_witnessSize aM_built aM_copyRow M_length M_acts M_next M_many M_readMany M_found M_shortest M_nodes M_solved M_dropped M_fits M_proofSize M_tooLong M_text M_now M_trial M_read M_diary M_kept M_isKept M_constraint M_readConstraint M_word M_size M_number M_firstOne M_node M_parent M_rule M_child M_proof M_witness M_witnessSize M_built M_copyRow) H → va_D A (wX12 g aM aM_text aM_now aM_trial aM_read aM_diary aM_kept aM_isKept aM_constraint aM_readConstraint aM_word aM_size aM_number aM_firstOne aM_node aM_parent aM_rule aM_child aM_proof aM_witness aM_witnessSize aM_built aM_copyRow M_length M_acts M_next M_many M_readMany M_found M_shortest M_nodes M_solved M_dropped M_fits M_proofSize M_tooLong M_text M_now M_trial M_read M_diary M_kept M_isKept M_constraint M_readConstraint M_word M_size M_number M_firstOne M_node M_parent M_rule M_child M_proof M_witness M_witnessSize M_built M_copyRow) → va_S A s.heap H locs → fM_layChild_315 (fx3 (fM_layChild_108 M_trial x1 v4 v5) n108) M_fits M_trial M_child x1 v4 v5 v6 s1 s2 = some (M_fits_o, M_child_o) → W p l e rmX12_layChild s m ([.ref aM, .int x1] : List Value).toArray below meth c H locs 0 0 QQ (F0 m 315 ls [.int s2, .int s1, .ref aM_child]) := by
        intro M_fits M_child v6 s1 s2 ls H locs hl hP hD hS h
        have hin := sti_in h
        refine va_iast hx hb hK hP hD hS 17 0 rfl rfl hin dX12_layChild_315 (fun H locs hP hD hS => ?_)
        obtain ⟨M_child_315, eM_child_315⟩ : ∃ y : Nat → Int32, y = upd M_child (Int32.toNatClampNeg s1) s2 := ⟨_, rfl⟩
        have h := sti_to h eM_child_315
        have hP : va_P g.1 vwCl (wX12 g aM aM_text aM_now aM_trial aM_read aM_diary aM_kept aM_isKept aM_constraint aM_readConstraint aM_word aM_size aM_number aM_firstOne aM_node aM_parent aM_rule aM_child aM_proof aM_witness aM_witnessSize aM_built aM_copyRow M_length M_acts M_next M_many M_readMany M_found M_shortest M_nodes M_solved M_dropped M_fits M_proofSize M_tooLong M_text M_now M_trial M_read M_diary M_kept M_isKept M_constraint M_readConstraint M_word M_size M_number M_firstOne M_node M_parent M_rule M_child_315 M_proof M_witness M_witnessSize M_built M_copyRow) H := by rw [eM_child_315]; exact hP
        have hD : va_D A (wX12 g aM aM_text aM_now aM_trial aM_read aM_diary aM_kept aM_isKept aM_constraint aM_readConstraint aM_word aM_size aM_number aM_firstOne aM_node aM_parent aM_rule aM_child aM_proof aM_witness aM_witnessSize aM_built aM_copyRow M_length M_acts M_next M_many M_readMany M_found M_shortest M_nodes M_solved M_dropped M_fits M_proofSize M_tooLong M_text M_now M_trial M_read M_diary M_kept M_isKept M_constraint M_readConstraint M_word M_size M_number M_firstOne M_node M_parent M_rule M_child_315 M_proof M_witness M_witnessSize M_built M_copyRow) := by rw [eM_child_315]; exact hD
        refine lv_aload_n hx hb dX12_layChild_316 rfl (lv_at hl 0 rfl) ?_
        refine lv_aload_n hx hb dX12_layChild_317 rfl (lv_at hl 0 rfl) ?_
        refine va_get (D := g.1) (ci := 11) (v := .int M_fits) (C := RX12) (T := TX12) (N := 35) hx hb hts inBX12 hown hK hP 0 rfl rfl 27 (by decide) (hts _ wd4_223) (fun _ h9 => h9) rfl dX12_layChild_318 ?_
        refine lv_if_eq (tgt := 340) hx hb dX12_layChild_321 (by decide) (fun q321 => ?_) (fun q321 => ?_)
        · have h := ifT h q321
          refine lv_iconst (v := (0 : Int32)) hx hb dX12_layChild_340 (by decide) ?_
          exact B341 M_fits M_child_315 v6 (0 : Int32) ls H locs (lv_sub hl [0, 1, 2, 3, 4] rfl) hP hD hS h
        have h := ifF h q321
        refine lv_aload_n hx hb dX12_layChild_324 rfl (lv_at hl 0 rfl) ?_
        refine va_get (D := g.1) (ci := 11) (v := .ref aM_child) (C := RX12) (T := TX12) (N := 35) hx hb hts inBX12 hown hK hP 0 rfl rfl 26 (by decide) (hts _ wd4_222) (fun _ h9 => h9) rfl dX12_layChild_325 ?_
        refine lv_iload hx hb dX12_layChild_328 (lv_at hl 4 rfl) ?_
        have hin := ld_in h
        refine va_iald hx hb hK hP 17 0 rfl rfl hin dX12_layChild_330 ?_
        refine lv_topi (fun t330 et330 => ?_)
        have h := ld_to h et330
        refine lv_bipush (v := (12 : Int32)) hx hb dX12_layChild_331 (by decide) ?_
        refine lv_icmp_gt (tgt := 340) hx hb dX12_layChild_333 (by decide) (fun q333 => ?_) (fun q333 => ?_)
        · have h := ifT h q333
          refine lv_iconst (v := (0 : Int32)) hx hb dX12_layChild_340 (by decide) ?_
          exact B341 M_fits M_child_315 v6 (0 : Int32) ls H locs (lv_sub hl [0, 1, 2, 3, 4] rfl) hP hD hS h
        have h := ifF h q333
        refine lv_iconst (v := (1 : Int32)) hx hb dX12_layChild_336 (by decide) ?_
        refine lv_goto (tgt := 341) hx hb dX12_layChild_337 (by decide) ?_
        exact B341 M_fits M_child_315 v6 (1 : Int32) ls H locs (lv_sub hl [0, 1, 2, 3, 4] rfl) hP hD hS h
      have L120 : ∀ (n120 : Nat), ∀ (M_fits : Int32) (M_child : Nat → Int32) (v6 : Int32) (v7 : Int32) (v8 : Int32) (ls : Array Slot) (H : Heap) (locs : List Loc), lv_has ls 15 [(0, .ref aM), (1, .int x1), (4, .int v4), (5, .int v5), (6, .int v6), (7, .int v7), (8, .int v8)] → va_P g.1 vwCl (wX12 g aM aM_text aM_now aM_trial aM_read aM_diary aM_kept aM_isKept aM_constraint aM_readConstraint aM_word aM_size aM_number aM_firstOne aM_node aM_parent aM_rule aM_child aM_proof aM_witness aM_witnessSize aM_built aM_copyRow M_length M_acts M_next M_many M_readMany M_found M_shortest M_nodes M_solved M_dropped M_fits M_proofSize M_tooLong M_text M_now M_trial M_read M_diary M_kept M_isKept M_constraint M_readConstraint M_word M_size M_number M_firstOne M_node M_parent M_rule M_child M_proof M_witness M_witnessSize M_built M_copyRow) H → va_D A (wX12 g aM aM_text aM_now aM_trial aM_read aM_diary aM_kept aM_isKept aM_constraint aM_readConstraint aM_word aM_size aM_number aM_firstOne aM_node aM_parent aM_rule aM_child aM_proof aM_witness aM_witnessSize aM_built aM_copyRow M_length M_acts M_next M_many M_readMany M_found M_shortest M_nodes M_solved M_dropped M_fits M_proofSize M_tooLong M_text M_now M_trial M_read M_diary M_kept M_isKept M_constraint M_readConstraint M_word M_size M_number M_firstOne M_node M_parent M_rule M_child M_proof M_witness M_witnessSize M_built M_copyRow) → va_S A s.heap H locs → fx3 (fM_layChild_120 (fx3 (fM_layChild_108 M_trial x1 v4 v5) n108) M_fits M_trial x1 v4 v5 v6) n120 M_child v7 v8 = some (M_fits_o, M_child_o) → W p l e rmX12_layChild s m ([.ref aM, .int x1] : List Value).toArray below meth c H locs 0 0 QQ (F0 m 120 ls []) := by
        intro n120
        induction n120 with
        | zero => intro M_fits M_child v6 v7 v8 ls H locs hl hP hD hS h; exact fx3_0 h
        | succ n120 ih120 =>
          intro M_fits M_child v6 v7 v8 ls H locs hl hP hD hS h
          have h := (fx3_s (fM_layChild_120 (fx3 (fM_layChild_108 M_trial x1 v4 v5) n108) M_fits M_trial x1 v4 v5 v6) n120 M_child v7 v8).symm.trans h
          have L210 : ∀ (n210 : Nat), ∀ (M_child : Nat → Int32) (v7 : Int32) (v8 : Int32) (v9 : Int32) (v11 : Int32) (v12 : Int32) (ls : Array Slot) (H : Heap) (locs : List Loc), lv_has ls 15 [(0, .ref aM), (1, .int x1), (4, .int v4), (5, .int v5), (6, .int v6), (7, .int v7), (8, .int v8), (9, .int v9), (11, .int v11), (12, .int v12)] → va_P g.1 vwCl (wX12 g aM aM_text aM_now aM_trial aM_read aM_diary aM_kept aM_isKept aM_constraint aM_readConstraint aM_word aM_size aM_number aM_firstOne aM_node aM_parent aM_rule aM_child aM_proof aM_witness aM_witnessSize aM_built aM_copyRow M_length M_acts M_next M_many M_readMany M_found M_shortest M_nodes M_solved M_dropped M_fits M_proofSize M_tooLong M_text M_now M_trial M_read M_diary M_kept M_isKept M_constraint M_readConstraint M_word M_size M_number M_firstOne M_node M_parent M_rule M_child M_proof M_witness M_witnessSize M_built M_copyRow) H → va_D A (wX12 g aM aM_text aM_now aM_trial aM_read aM_diary aM_kept aM_isKept aM_constraint aM_readConstraint aM_word aM_size aM_number aM_firstOne aM_node aM_parent aM_rule aM_child aM_proof aM_witness aM_witnessSize aM_built aM_copyRow M_length M_acts M_next M_many M_readMany M_found M_shortest M_nodes M_solved M_dropped M_fits M_proofSize M_tooLong M_text M_now M_trial M_read M_diary M_kept M_isKept M_constraint M_readConstraint M_word M_size M_number M_firstOne M_node M_parent M_rule M_child M_proof M_witness M_witnessSize M_built M_copyRow) → va_S A s.heap H locs → fx3 (fM_layChild_210 (fx3 (fM_layChild_108 M_trial x1 v4 v5) n108) (fx3 (fM_layChild_120 (fx3 (fM_layChild_108 M_trial x1 v4 v5) n108) M_fits M_trial x1 v4 v5 v6) n120) M_fits M_trial x1 v4 v5 v6 v8 v9 v11) n210 M_child v7 v12 = some (M_fits_o, M_child_o) → W p l e rmX12_layChild s m ([.ref aM, .int x1] : List Value).toArray below meth c H locs 0 0 QQ (F0 m 210 ls []) := by
            intro n210
            induction n210 with
            | zero => intro M_child v7 v8 v9 v11 v12 ls H locs hl hP hD hS h; exact fx3_0 h
            | succ n210 ih210 =>
              intro M_child v7 v8 v9 v11 v12 ls H locs hl hP hD hS h
              have h := (fx3_s (fM_layChild_210 (fx3 (fM_layChild_108 M_trial x1 v4 v5) n108) (fx3 (fM_layChild_120 (fx3 (fM_layChild_108 M_trial x1 v4 v5) n108) M_fits M_trial x1 v4 v5 v6) n120) M_fits M_trial x1 v4 v5 v6 v8 v9 v11) n210 M_child v7 v12).symm.trans h
              have B251 : ∀ (M_child : Nat → Int32) (v7 : Int32) (v12 : Int32) (v13 : Int32) (s0 : Int32) (ls : Array Slot) (H : Heap) (locs : List Loc), lv_has ls 15 [(0, .ref aM), (1, .int x1), (4, .int v4), (5, .int v5), (6, .int v6), (7, .int v7), (8, .int v8), (9, .int v9), (11, .int v11), (12, .int v12), (13, .int v13)] → va_P g.1 vwCl (wX12 g aM aM_text aM_now aM_trial aM_read aM_diary aM_kept aM_isKept aM_constraint aM_readConstraint aM_word aM_size aM_number aM_firstOne aM_node aM_parent aM_rule aM_child aM_proof aM_witness aM_witnessSize aM_built aM_copyRow M_length M_acts M_next M_many M_readMany M_found M_shortest M_nodes M_solved M_dropped M_fits M_proofSize M_tooLong M_text M_now M_trial M_read M_diary M_kept M_isKept M_constraint M_readConstraint M_word M_size M_number M_firstOne M_node M_parent M_rule M_child M_proof M_witness M_witnessSize M_built M_copyRow) H → va_D A (wX12 g aM aM_text aM_now aM_trial aM_read aM_diary aM_kept aM_isKept aM_constraint aM_readConstraint aM_word aM_size aM_number aM_firstOne aM_node aM_parent aM_rule aM_child aM_proof aM_witness aM_witnessSize aM_built aM_copyRow M_length M_acts M_next M_many M_readMany M_found M_shortest M_nodes M_solved M_dropped M_fits M_proofSize M_tooLong M_text M_now M_trial M_read M_diary M_kept M_isKept M_constraint M_readConstraint M_word M_size M_number M_firstOne M_node M_parent M_rule M_child M_proof M_witness M_witnessSize M_built M_copyRow) → va_S A s.heap H locs → fM_layChild_251 (fx3 (fM_layChild_108 M_trial x1 v4 v5) n108) (fx3 (fM_layChild_120 (fx3 (fM_layChild_108 M_trial x1 v4 v5) n108) M_fits M_trial x1 v4 v5 v6) n120) (fx3 (fM_layChild_210 (fx3 (fM_layChild_108 M_trial x1 v4 v5) n108) (fx3 (fM_layChild_120 (fx3 (fM_layChild_108 M_trial x1 v4 v5) n108) M_fits M_trial x1 v4 v5 v6) n120) M_fits M_trial x1 v4 v5 v6 v8 v9 v11) n210) M_fits M_trial M_child x1 v4 v5 v6 v7 v8 v9 v11 v12 v13 s0 = some (M_fits_o, M_child_o) → W p l e rmX12_layChild s m ([.ref aM, .int x1] : List Value).toArray below meth c H locs 0 0 QQ (F0 m 251 ls [.int s0]) := by
                intro M_child v7 v12 v13 s0 ls H locs hl hP hD hS h
                refine lv_istore (lv' := [(14, .int s0), (0, .ref aM), (1, .int x1), (4, .int v4), (5, .int v5), (6, .int v6), (7, .int v7), (8, .int v8), (9, .int v9), (11, .int v11), (12, .int v12), (13, .int v13)]) hx hb dX12_layChild_251 hl (by decide) rfl (fun ls hl => ?_)
                refine lv_iload hx hb dX12_layChild_253 (lv_at hl 11 rfl) ?_
                refine lv_i2l (v := (Int32.toInt64 v13)) hx hb dX12_layChild_255 rfl ?_
                refine lv_lconst (v := (0 : Int64)) hx hb dX12_layChild_256 (by decide) ?_
                refine lv_ldc2 (v := (11 : Int64)) hx hb hown (hts _ wd6_5) dX12_layChild_257 ?_
                obtain ⟨t260, hc260, h⟩ := bd1_to h
                refine go_0 (st1 := [.int t260]) (run_S (As := [.long (Int32.toInt64 v13), .long (0 : Int64), .long (11 : Int64)]) (rest := []) X hS (mX12_in g l  (Int32.toInt64 v13) (0 : Int64) (11 : Int64) t260 hc260) okX12_in wd5_67 ⟨Nat.le_of_ble_eq_true rfl, Nat.le_of_ble_eq_true rfl⟩ ⟨rfl, rfl⟩ nil_P nil_D (nil_F hS hA) rfl hl.1 rfl (Nat.le_of_ble_eq_true rfl) dX12_layChild_260 ⟨Nat.zero_le _, Nat.zero_le _⟩) hS hA hP rfl (fun H locs hP hS => ?_)
                refine lv_if_eq (tgt := 280) hx hb dX12_layChild_263 (by decide) (fun q263 => ?_) (fun q263 => ?_)
                · have h := ifT h q263
                  obtain ⟨t280, et280⟩ : ∃ y : Int32, y = v7 + (1 : Int32) := ⟨_, rfl⟩
                  refine lv_iinc (v := t280) (lv' := [(7, .int t280), (14, .int s0), (0, .ref aM), (1, .int x1), (4, .int v4), (5, .int v5), (6, .int v6), (8, .int v8), (9, .int v9), (11, .int v11), (12, .int v12), (13, .int v13)]) hx hb dX12_layChild_280 hl (k := 6) rfl (by rw [et280]; rfl) (by decide) rfl (fun ls hl => ?_)
                  have h := st_to h et280
                  obtain ⟨t283, et283⟩ : ∃ y : Int32, y = v12 + (1 : Int32) := ⟨_, rfl⟩
                  refine lv_iinc (v := t283) (lv' := [(12, .int t283), (7, .int t280), (14, .int s0), (0, .ref aM), (1, .int x1), (4, .int v4), (5, .int v5), (6, .int v6), (8, .int v8), (9, .int v9), (11, .int v11), (13, .int v13)]) hx hb dX12_layChild_283 hl (k := 10) rfl (by rw [et283]; rfl) (by decide) rfl (fun ls hl => ?_)
                  have h := st_to h et283
                  refine lv_goto (tgt := 210) hx hb dX12_layChild_286 (by decide) ?_
                  exact ih210 M_child t280 v8 v9 v11 t283 ls H locs (lv_sub hl [3, 4, 5, 6, 7, 1, 8, 9, 10, 0] rfl) hP hD hS h
                have h := ifF h q263
                refine lv_aload_n hx hb dX12_layChild_266 rfl (lv_at hl 1 rfl) ?_
                refine va_get (D := g.1) (ci := 11) (v := .ref aM_child) (C := RX12) (T := TX12) (N := 35) hx hb hts inBX12 hown hK hP 0 rfl rfl 26 (by decide) (hts _ wd4_222) (fun _ h9 => h9) rfl dX12_layChild_267 ?_
                refine lv_iload hx hb dX12_layChild_270 (lv_at hl 5 rfl) ?_
                refine lv_iload hx hb dX12_layChild_272 (lv_at hl 11 rfl) ?_
                obtain ⟨t274, hc274, h⟩ := bd1_to h
                refine go_0 (st1 := [.int t274, .ref aM_child]) (run_S (As := [.int v6, .int v13]) (rest := [.ref aM_child]) X hS (mX12_at g l  v6 v13 t274 hc274) okX12_at wd5_87 ⟨Nat.le_of_ble_eq_true rfl, Nat.le_of_ble_eq_true rfl⟩ ⟨rfl, rfl⟩ nil_P nil_D (nil_F hS hA) rfl hl.1 rfl (Nat.le_of_ble_eq_true rfl) dX12_layChild_274 ⟨Nat.zero_le _, Nat.zero_le _⟩) hS hA hP rfl (fun H locs hP hS => ?_)
                refine lv_iload hx hb dX12_layChild_277 (lv_at hl 0 rfl) ?_
                have hin := sti_in h
                refine va_iast hx hb hK hP hD hS 17 0 rfl rfl hin dX12_layChild_279 (fun H locs hP hD hS => ?_)
                obtain ⟨M_child_279, eM_child_279⟩ : ∃ y : Nat → Int32, y = upd M_child (Int32.toNatClampNeg t274) s0 := ⟨_, rfl⟩
                have h := sti_to h eM_child_279
                have hP : va_P g.1 vwCl (wX12 g aM aM_text aM_now aM_trial aM_read aM_diary aM_kept aM_isKept aM_constraint aM_readConstraint aM_word aM_size aM_number aM_firstOne aM_node aM_parent aM_rule aM_child aM_proof aM_witness aM_witnessSize aM_built aM_copyRow M_length M_acts M_next M_many M_readMany M_found M_shortest M_nodes M_solved M_dropped M_fits M_proofSize M_tooLong M_text M_now M_trial M_read M_diary M_kept M_isKept M_constraint M_readConstraint M_word M_size M_number M_firstOne M_node M_parent M_rule M_child_279 M_proof M_witness M_witnessSize M_built M_copyRow) H := by rw [eM_child_279]; exact hP
                have hD : va_D A (wX12 g aM aM_text aM_now aM_trial aM_read aM_diary aM_kept aM_isKept aM_constraint aM_readConstraint aM_word aM_size aM_number aM_firstOne aM_node aM_parent aM_rule aM_child aM_proof aM_witness aM_witnessSize aM_built aM_copyRow M_length M_acts M_next M_many M_readMany M_found M_shortest M_nodes M_solved M_dropped M_fits M_proofSize M_tooLong M_text M_now M_trial M_read M_diary M_kept M_isKept M_constraint M_readConstraint M_word M_size M_number M_firstOne M_node M_parent M_rule M_child_279 M_proof M_witness M_witnessSize M_built M_copyRow) := by rw [eM_child_279]; exact hD
                obtain ⟨t280, et280⟩ : ∃ y : Int32, y = v7 + (1 : Int32) := ⟨_, rfl⟩
                refine lv_iinc (v := t280) (lv' := [(7, .int t280), (14, .int s0), (0, .ref aM), (1, .int x1), (4, .int v4), (5, .int v5), (6, .int v6), (8, .int v8), (9, .int v9), (11, .int v11), (12, .int v12), (13, .int v13)]) hx hb dX12_layChild_280 hl (k := 6) rfl (by rw [et280]; rfl) (by decide) rfl (fun ls hl => ?_)
                have h := st_to h et280
                obtain ⟨t283, et283⟩ : ∃ y : Int32, y = v12 + (1 : Int32) := ⟨_, rfl⟩
                refine lv_iinc (v := t283) (lv' := [(12, .int t283), (7, .int t280), (14, .int s0), (0, .ref aM), (1, .int x1), (4, .int v4), (5, .int v5), (6, .int v6), (8, .int v8), (9, .int v9), (11, .int v11), (13, .int v13)]) hx hb dX12_layChild_283 hl (k := 10) rfl (by rw [et283]; rfl) (by decide) rfl (fun ls hl => ?_)
                have h := st_to h et283
                refine lv_goto (tgt := 210) hx hb dX12_layChild_286 (by decide) ?_
                exact ih210 M_child_279 t280 v8 v9 v11 t283 ls H locs (lv_sub hl [3, 4, 5, 6, 7, 1, 8, 9, 10, 0] rfl) hP hD hS h
              have B231 : ∀ (M_child : Nat → Int32) (v7 : Int32) (v12 : Int32) (s0 : Int32) (ls : Array Slot) (H : Heap) (locs : List Loc), lv_has ls 15 [(0, .ref aM), (1, .int x1), (4, .int v4), (5, .int v5), (6, .int v6), (7, .int v7), (8, .int v8), (9, .int v9), (11, .int v11), (12, .int v12)] → va_P g.1 vwCl (wX12 g aM aM_text aM_now aM_trial aM_read aM_diary aM_kept aM_isKept aM_constraint aM_readConstraint aM_word aM_size aM_number aM_firstOne aM_node aM_parent aM_rule aM_child aM_proof aM_witness aM_witnessSize aM_built aM_copyRow M_length M_acts M_next M_many M_readMany M_found M_shortest M_nodes M_solved M_dropped M_fits M_proofSize M_tooLong M_text M_now M_trial M_read M_diary M_kept M_isKept M_constraint M_readConstraint M_word M_size M_number M_firstOne M_node M_parent M_rule M_child M_proof M_witness M_witnessSize M_built M_copyRow) H → va_D A (wX12 g aM aM_text aM_now aM_trial aM_read aM_diary aM_kept aM_isKept aM_constraint aM_readConstraint aM_word aM_size aM_number aM_firstOne aM_node aM_parent aM_rule aM_child aM_proof aM_witness aM_witnessSize aM_built aM_copyRow M_length M_acts M_next M_many M_readMany M_found M_shortest M_nodes M_solved M_dropped M_fits M_proofSize M_tooLong M_text M_now M_trial M_read M_diary M_kept M_isKept M_constraint M_readConstraint M_word M_size M_number M_firstOne M_node M_parent M_rule M_child M_proof M_witness M_witnessSize M_built M_copyRow) → va_S A s.heap H locs → fM_layChild_231 (fx3 (fM_layChild_108 M_trial x1 v4 v5) n108) (fx3 (fM_layChild_120 (fx3 (fM_layChild_108 M_trial x1 v4 v5) n108) M_fits M_trial x1 v4 v5 v6) n120) (fx3 (fM_layChild_210 (fx3 (fM_layChild_108 M_trial x1 v4 v5) n108) (fx3 (fM_layChild_120 (fx3 (fM_layChild_108 M_trial x1 v4 v5) n108) M_fits M_trial x1 v4 v5 v6) n120) M_fits M_trial x1 v4 v5 v6 v8 v9 v11) n210) M_fits M_trial M_child x1 v4 v5 v6 v7 v8 v9 v11 v12 s0 = some (M_fits_o, M_child_o) → W p l e rmX12_layChild s m ([.ref aM, .int x1] : List Value).toArray below meth c H locs 0 0 QQ (F0 m 231 ls [.int s0]) := by
                intro M_child v7 v12 s0 ls H locs hl hP hD hS h
                refine lv_istore (lv' := [(13, .int s0), (0, .ref aM), (1, .int x1), (4, .int v4), (5, .int v5), (6, .int v6), (7, .int v7), (8, .int v8), (9, .int v9), (11, .int v11), (12, .int v12)]) hx hb dX12_layChild_231 hl (by decide) rfl (fun ls hl => ?_)
                refine lv_iload hx hb dX12_layChild_233 (lv_at hl 9 rfl) ?_
                refine lv_iconst (v := (2 : Int32)) hx hb dX12_layChild_235 (by decide) ?_
                refine lv_icmp_ne (tgt := 249) hx hb dX12_layChild_236 (by decide) (fun q236 => ?_) (fun q236 => ?_)
                · have h := ifF h q236
                  refine lv_iload hx hb dX12_layChild_249 (lv_at hl 8 rfl) ?_
                  exact B251 M_child v7 v12 s0 v9 ls H locs (lv_sub hl [1, 2, 3, 4, 5, 6, 7, 8, 9, 10, 0] rfl) hP hD hS h
                have h := ifT h q236
                refine lv_iload hx hb dX12_layChild_239 (lv_at hl 10 rfl) ?_
                refine lv_if_ne (tgt := 249) hx hb dX12_layChild_241 (by decide) (fun q241 => ?_) (fun q241 => ?_)
                · have h := ifF h q241
                  refine lv_iload hx hb dX12_layChild_249 (lv_at hl 8 rfl) ?_
                  exact B251 M_child v7 v12 s0 v9 ls H locs (lv_sub hl [1, 2, 3, 4, 5, 6, 7, 8, 9, 10, 0] rfl) hP hD hS h
                have h := ifT h q241
                refine lv_iload hx hb dX12_layChild_244 (lv_at hl 4 rfl) ?_
                refine lv_goto (tgt := 251) hx hb dX12_layChild_246 (by decide) ?_
                exact B251 M_child v7 v12 s0 v5 ls H locs (lv_sub hl [1, 2, 3, 4, 5, 6, 7, 8, 9, 10, 0] rfl) hP hD hS h
              refine lv_iload hx hb dX12_layChild_210 (lv_at hl 9 rfl) ?_
              refine lv_iload hx hb dX12_layChild_212 (lv_at hl 8 rfl) ?_
              refine lv_icmp_ge (tgt := 289) hx hb dX12_layChild_214 (by decide) (fun q214 => ?_) (fun q214 => ?_)
              · have h := ifT h q214
                obtain ⟨t289, et289⟩ : ∃ y : Int32, y = v8 + (1 : Int32) := ⟨_, rfl⟩
                refine lv_iinc (v := t289) (lv' := [(8, .int t289), (0, .ref aM), (1, .int x1), (4, .int v4), (5, .int v5), (6, .int v6), (7, .int v7), (9, .int v9), (11, .int v11), (12, .int v12)]) hx hb dX12_layChild_289 hl (k := 6) rfl (by rw [et289]; rfl) (by decide) rfl (fun ls hl => ?_)
                have h := st_to h et289
                refine lv_goto (tgt := 120) hx hb dX12_layChild_292 (by decide) ?_
                exact ih120 M_fits M_child v6 v7 t289 ls H locs (lv_sub hl [1, 2, 3, 4, 5, 6, 0] rfl) hP hD hS h
              have h := ifF h q214
              refine lv_iload_n hx hb dX12_layChild_217 rfl (lv_at hl 1 rfl) ?_
              refine lv_iconst (v := (2 : Int32)) hx hb dX12_layChild_218 (by decide) ?_
              refine lv_icmp_le (tgt := 229) hx hb dX12_layChild_219 (by decide) (fun q219 => ?_) (fun q219 => ?_)
              · have h := ifT h q219
                refine lv_iload hx hb dX12_layChild_229 (lv_at hl 5 rfl) ?_
                exact B231 M_child v7 v12 v7 ls H locs (lv_sub hl [0, 1, 2, 3, 4, 5, 6, 7, 8, 9] rfl) hP hD hS h
              have h := ifF h q219
              refine lv_iload hx hb dX12_layChild_222 (lv_at hl 5 rfl) ?_
              refine lv_iconst (v := (1 : Int32)) hx hb dX12_layChild_224 (by decide) ?_
              refine lv_isub hx hb dX12_layChild_225 ?_
              refine lv_goto (tgt := 231) hx hb dX12_layChild_226 (by decide) ?_
              exact B231 M_child v7 v12 ((v7 - (1 : Int32))) ls H locs (lv_sub hl [0, 1, 2, 3, 4, 5, 6, 7, 8, 9] rfl) hP hD hS h
          have B158 : ∀ (M_child : Nat → Int32) (v7 : Int32) (v8 : Int32) (v9 : Int32) (s0 : Int32) (ls : Array Slot) (H : Heap) (locs : List Loc), lv_has ls 15 [(0, .ref aM), (1, .int x1), (4, .int v4), (5, .int v5), (6, .int v6), (7, .int v7), (8, .int v8), (9, .int v9)] → va_P g.1 vwCl (wX12 g aM aM_text aM_now aM_trial aM_read aM_diary aM_kept aM_isKept aM_constraint aM_readConstraint aM_word aM_size aM_number aM_firstOne aM_node aM_parent aM_rule aM_child aM_proof aM_witness aM_witnessSize aM_built aM_copyRow M_length M_acts M_next M_many M_readMany M_found M_shortest M_nodes M_solved M_dropped M_fits M_proofSize M_tooLong M_text M_now M_trial M_read M_diary M_kept M_isKept M_constraint M_readConstraint M_word M_size M_number M_firstOne M_node M_parent M_rule M_child M_proof M_witness M_witnessSize M_built M_copyRow) H → va_D A (wX12 g aM aM_text aM_now aM_trial aM_read aM_diary aM_kept aM_isKept aM_constraint aM_readConstraint aM_word aM_size aM_number aM_firstOne aM_node aM_parent aM_rule aM_child aM_proof aM_witness aM_witnessSize aM_built aM_copyRow M_length M_acts M_next M_many M_readMany M_found M_shortest M_nodes M_solved M_dropped M_fits M_proofSize M_tooLong M_text M_now M_trial M_read M_diary M_kept M_isKept M_constraint M_readConstraint M_word M_size M_number M_firstOne M_node M_parent M_rule M_child M_proof M_witness M_witnessSize M_built M_copyRow) → va_S A s.heap H locs → fM_layChild_158 (fx3 (fM_layChild_108 M_trial x1 v4 v5) n108) (fx3 (fM_layChild_120 (fx3 (fM_layChild_108 M_trial x1 v4 v5) n108) M_fits M_trial x1 v4 v5 v6) n120) M_fits M_trial M_child x1 v4 v5 v6 v7 v8 v9 s0 = some (M_fits_o, M_child_o) → W p l e rmX12_layChild s m ([.ref aM, .int x1] : List Value).toArray below meth c H locs 0 0 QQ (F0 m 158 ls [.int s0]) := by
            intro M_child v7 v8 v9 s0 ls H locs hl hP hD hS h
            refine lv_istore (lv' := [(10, .int s0), (0, .ref aM), (1, .int x1), (4, .int v4), (5, .int v5), (6, .int v6), (7, .int v7), (8, .int v8), (9, .int v9)]) hx hb dX12_layChild_158 hl (by decide) rfl (fun ls hl => ?_)
            refine lv_iload_n hx hb dX12_layChild_160 rfl (lv_at hl 2 rfl) ?_
            refine lv_if_ne (tgt := 177) hx hb dX12_layChild_161 (by decide) (fun q161 => ?_) (fun q161 => ?_)
            · have h := ifF h q161
              refine lv_iload_n hx hb dX12_layChild_177 rfl (lv_at hl 2 rfl) ?_
              refine lv_iconst (v := (3 : Int32)) hx hb dX12_layChild_178 (by decide) ?_
              refine lv_icmp_ge (tgt := 195) hx hb dX12_layChild_179 (by decide) (fun q179 => ?_) (fun q179 => ?_)
              · have h := ifT h q179
                refine lv_iload hx hb dX12_layChild_195 (lv_at hl 0 rfl) ?_
                refine lv_if_eq (tgt := 204) hx hb dX12_layChild_197 (by decide) (fun q197 => ?_) (fun q197 => ?_)
                · have h := ifT h q197
                  refine lv_iconst (v := (1 : Int32)) hx hb dX12_layChild_204 (by decide) ?_
                  refine lv_istore (lv' := [(11, .int (1 : Int32)), (10, .int s0), (0, .ref aM), (1, .int x1), (4, .int v4), (5, .int v5), (6, .int v6), (7, .int v7), (8, .int v8), (9, .int v9)]) hx hb dX12_layChild_205 hl (by decide) rfl (fun ls hl => ?_)
                  refine lv_iconst (v := (0 : Int32)) hx hb dX12_layChild_207 (by decide) ?_
                  refine lv_istore (lv' := [(12, .int (0 : Int32)), (11, .int (1 : Int32)), (10, .int s0), (0, .ref aM), (1, .int x1), (4, .int v4), (5, .int v5), (6, .int v6), (7, .int v7), (8, .int v8), (9, .int v9)]) hx hb dX12_layChild_208 hl (by decide) rfl (fun ls hl => ?_)
                  exact L210 FU M_child v7 v8 v9 (1 : Int32) (0 : Int32) ls H locs (lv_sub hl [3, 4, 5, 6, 7, 8, 9, 10, 1, 0] rfl) hP hD hS h
                have h := ifF h q197
                refine lv_iconst (v := (2 : Int32)) hx hb dX12_layChild_200 (by decide) ?_
                refine lv_goto (tgt := 205) hx hb dX12_layChild_201 (by decide) ?_
                refine lv_istore (lv' := [(11, .int (2 : Int32)), (10, .int s0), (0, .ref aM), (1, .int x1), (4, .int v4), (5, .int v5), (6, .int v6), (7, .int v7), (8, .int v8), (9, .int v9)]) hx hb dX12_layChild_205 hl (by decide) rfl (fun ls hl => ?_)
                refine lv_iconst (v := (0 : Int32)) hx hb dX12_layChild_207 (by decide) ?_
                refine lv_istore (lv' := [(12, .int (0 : Int32)), (11, .int (2 : Int32)), (10, .int s0), (0, .ref aM), (1, .int x1), (4, .int v4), (5, .int v5), (6, .int v6), (7, .int v7), (8, .int v8), (9, .int v9)]) hx hb dX12_layChild_208 hl (by decide) rfl (fun ls hl => ?_)
                exact L210 FU M_child v7 v8 v9 (2 : Int32) (0 : Int32) ls H locs (lv_sub hl [3, 4, 5, 6, 7, 8, 9, 10, 1, 0] rfl) hP hD hS h
              have h := ifF h q179
              refine lv_iload hx hb dX12_layChild_182 (lv_at hl 0 rfl) ?_
              refine lv_if_eq (tgt := 191) hx hb dX12_layChild_184 (by decide) (fun q184 => ?_) (fun q184 => ?_)
              · have h := ifT h q184
                refine lv_iconst (v := (1 : Int32)) hx hb dX12_layChild_191 (by decide) ?_
                refine lv_goto (tgt := 205) hx hb dX12_layChild_192 (by decide) ?_
                refine lv_istore (lv' := [(11, .int (1 : Int32)), (10, .int s0), (0, .ref aM), (1, .int x1), (4, .int v4), (5, .int v5), (6, .int v6), (7, .int v7), (8, .int v8), (9, .int v9)]) hx hb dX12_layChild_205 hl (by decide) rfl (fun ls hl => ?_)
                refine lv_iconst (v := (0 : Int32)) hx hb dX12_layChild_207 (by decide) ?_
                refine lv_istore (lv' := [(12, .int (0 : Int32)), (11, .int (1 : Int32)), (10, .int s0), (0, .ref aM), (1, .int x1), (4, .int v4), (5, .int v5), (6, .int v6), (7, .int v7), (8, .int v8), (9, .int v9)]) hx hb dX12_layChild_208 hl (by decide) rfl (fun ls hl => ?_)
                exact L210 FU M_child v7 v8 v9 (1 : Int32) (0 : Int32) ls H locs (lv_sub hl [3, 4, 5, 6, 7, 8, 9, 10, 1, 0] rfl) hP hD hS h
              have h := ifF h q184
              refine lv_iconst (v := (0 : Int32)) hx hb dX12_layChild_187 (by decide) ?_
              refine lv_goto (tgt := 205) hx hb dX12_layChild_188 (by decide) ?_
              refine lv_istore (lv' := [(11, .int (0 : Int32)), (10, .int s0), (0, .ref aM), (1, .int x1), (4, .int v4), (5, .int v5), (6, .int v6), (7, .int v7), (8, .int v8), (9, .int v9)]) hx hb dX12_layChild_205 hl (by decide) rfl (fun ls hl => ?_)
              refine lv_iconst (v := (0 : Int32)) hx hb dX12_layChild_207 (by decide) ?_
              refine lv_istore (lv' := [(12, .int (0 : Int32)), (11, .int (0 : Int32)), (10, .int s0), (0, .ref aM), (1, .int x1), (4, .int v4), (5, .int v5), (6, .int v6), (7, .int v7), (8, .int v8), (9, .int v9)]) hx hb dX12_layChild_208 hl (by decide) rfl (fun ls hl => ?_)
              exact L210 FU M_child v7 v8 v9 (0 : Int32) (0 : Int32) ls H locs (lv_sub hl [3, 4, 5, 6, 7, 8, 9, 10, 1, 0] rfl) hP hD hS h
            have h := ifT h q161
            refine lv_iload hx hb dX12_layChild_164 (lv_at hl 7 rfl) ?_
            refine lv_if_ne (tgt := 173) hx hb dX12_layChild_166 (by decide) (fun q166 => ?_) (fun q166 => ?_)
            · have h := ifF h q166
              refine lv_iconst (v := (1 : Int32)) hx hb dX12_layChild_173 (by decide) ?_
              refine lv_goto (tgt := 205) hx hb dX12_layChild_174 (by decide) ?_
              refine lv_istore (lv' := [(11, .int (1 : Int32)), (10, .int s0), (0, .ref aM), (1, .int x1), (4, .int v4), (5, .int v5), (6, .int v6), (7, .int v7), (8, .int v8), (9, .int v9)]) hx hb dX12_layChild_205 hl (by decide) rfl (fun ls hl => ?_)
              refine lv_iconst (v := (0 : Int32)) hx hb dX12_layChild_207 (by decide) ?_
              refine lv_istore (lv' := [(12, .int (0 : Int32)), (11, .int (1 : Int32)), (10, .int s0), (0, .ref aM), (1, .int x1), (4, .int v4), (5, .int v5), (6, .int v6), (7, .int v7), (8, .int v8), (9, .int v9)]) hx hb dX12_layChild_208 hl (by decide) rfl (fun ls hl => ?_)
              exact L210 FU M_child v7 v8 v9 (1 : Int32) (0 : Int32) ls H locs (lv_sub hl [3, 4, 5, 6, 7, 8, 9, 10, 1, 0] rfl) hP hD hS h
            have h := ifT h q166
            refine lv_iconst (v := (0 : Int32)) hx hb dX12_layChild_169 (by decide) ?_
            refine lv_goto (tgt := 205) hx hb dX12_layChild_170 (by decide) ?_
            refine lv_istore (lv' := [(11, .int (0 : Int32)), (10, .int s0), (0, .ref aM), (1, .int x1), (4, .int v4), (5, .int v5), (6, .int v6), (7, .int v7), (8, .int v8), (9, .int v9)]) hx hb dX12_layChild_205 hl (by decide) rfl (fun ls hl => ?_)
            refine lv_iconst (v := (0 : Int32)) hx hb dX12_layChild_207 (by decide) ?_
            refine lv_istore (lv' := [(12, .int (0 : Int32)), (11, .int (0 : Int32)), (10, .int s0), (0, .ref aM), (1, .int x1), (4, .int v4), (5, .int v5), (6, .int v6), (7, .int v7), (8, .int v8), (9, .int v9)]) hx hb dX12_layChild_208 hl (by decide) rfl (fun ls hl => ?_)
            exact L210 FU M_child v7 v8 v9 (0 : Int32) (0 : Int32) ls H locs (lv_sub hl [3, 4, 5, 6, 7, 8, 9, 10, 1, 0] rfl) hP hD hS h
          refine lv_iload hx hb dX12_layChild_120 (lv_at hl 6 rfl) ?_
          refine lv_aload_n hx hb dX12_layChild_122 rfl (lv_at hl 0 rfl) ?_
          refine va_get (D := g.1) (ci := 11) (v := .ref aM_trial) (C := RX12) (T := TX12) (N := 35) hx hb hts inBX12 hown hK hP 0 rfl rfl 3 (by decide) (hts _ wd4_199) (fun _ h9 => h9) rfl dX12_layChild_123 ?_
          refine lv_iload hx hb dX12_layChild_126 (lv_at hl 4 rfl) ?_
          have hin := ld_in h
          refine va_iald hx hb hK hP 3 0 rfl rfl hin dX12_layChild_128 ?_
          refine lv_topi (fun t128 et128 => ?_)
          have h := ld_to h et128
          refine lv_icmp_ge (tgt := 295) hx hb dX12_layChild_129 (by decide) (fun q129 => ?_) (fun q129 => ?_)
          · have h := ifT h q129
            refine lv_aload_n hx hb dX12_layChild_295 rfl (lv_at hl 0 rfl) ?_
            refine va_get (D := g.1) (ci := 11) (v := .ref aM_child) (C := RX12) (T := TX12) (N := 35) hx hb hts inBX12 hown hK hP 0 rfl rfl 26 (by decide) (hts _ wd4_222) (fun _ h9 => h9) rfl dX12_layChild_296 ?_
            refine lv_iload hx hb dX12_layChild_299 (lv_at hl 4 rfl) ?_
            refine lv_iload_n hx hb dX12_layChild_301 rfl (lv_at hl 1 rfl) ?_
            refine lv_iconst (v := (2 : Int32)) hx hb dX12_layChild_302 (by decide) ?_
            refine lv_icmp_le (tgt := 313) hx hb dX12_layChild_303 (by decide) (fun q303 => ?_) (fun q303 => ?_)
            · have h := ifT h q303
              refine lv_iload hx hb dX12_layChild_313 (lv_at hl 5 rfl) ?_
              exact B315 M_fits M_child v6 v6 v7 ls H locs (lv_sub hl [0, 1, 2, 3, 4] rfl) hP hD hS h
            have h := ifF h q303
            refine lv_iload hx hb dX12_layChild_306 (lv_at hl 5 rfl) ?_
            refine lv_iconst (v := (1 : Int32)) hx hb dX12_layChild_308 (by decide) ?_
            refine lv_isub hx hb dX12_layChild_309 ?_
            refine lv_goto (tgt := 315) hx hb dX12_layChild_310 (by decide) ?_
            exact B315 M_fits M_child v6 v6 ((v7 - (1 : Int32))) ls H locs (lv_sub hl [0, 1, 2, 3, 4] rfl) hP hD hS h
          have h := ifF h q129
          refine lv_aload_n hx hb dX12_layChild_132 rfl (lv_at hl 0 rfl) ?_
          refine va_get (D := g.1) (ci := 11) (v := .ref aM_trial) (C := RX12) (T := TX12) (N := 35) hx hb hts inBX12 hown hK hP 0 rfl rfl 3 (by decide) (hts _ wd4_199) (fun _ h9 => h9) rfl dX12_layChild_133 ?_
          refine lv_iload hx hb dX12_layChild_136 (lv_at hl 4 rfl) ?_
          refine lv_iload hx hb dX12_layChild_138 (lv_at hl 6 rfl) ?_
          obtain ⟨t140, hc140, h⟩ := bd1_to h
          refine go_0 (st1 := [.int t140, .ref aM_trial]) (run_S (As := [.int v6, .int v8]) (rest := [.ref aM_trial]) X hS (mX12_at g l  v6 v8 t140 hc140) okX12_at wd5_87 ⟨Nat.le_of_ble_eq_true rfl, Nat.le_of_ble_eq_true rfl⟩ ⟨rfl, rfl⟩ nil_P nil_D (nil_F hS hA) rfl hl.1 rfl (Nat.le_of_ble_eq_true rfl) dX12_layChild_140 ⟨Nat.zero_le _, Nat.zero_le _⟩) hS hA hP rfl (fun H locs hP hS => ?_)
          have hin := ld_in h
          refine va_iald hx hb hK hP 3 0 rfl rfl hin dX12_layChild_143 ?_
          refine lv_topi (fun t143 et143 => ?_)
          have h := ld_to h et143
          refine lv_istore (lv' := [(9, .int t143), (0, .ref aM), (1, .int x1), (4, .int v4), (5, .int v5), (6, .int v6), (7, .int v7), (8, .int v8)]) hx hb dX12_layChild_144 hl (by decide) rfl (fun ls hl => ?_)
          refine lv_iload hx hb dX12_layChild_146 (lv_at hl 0 rfl) ?_
          refine lv_iload hx hb dX12_layChild_148 (lv_at hl 3 rfl) ?_
          refine lv_icmp_ne (tgt := 157) hx hb dX12_layChild_150 (by decide) (fun q150 => ?_) (fun q150 => ?_)
          · have h := ifF h q150
            refine lv_iconst (v := (0 : Int32)) hx hb dX12_layChild_157 (by decide) ?_
            exact B158 M_child v7 v8 t143 (0 : Int32) ls H locs (lv_sub hl [1, 2, 3, 4, 5, 6, 7, 0] rfl) hP hD hS h
          have h := ifT h q150
          refine lv_iconst (v := (1 : Int32)) hx hb dX12_layChild_153 (by decide) ?_
          refine lv_goto (tgt := 158) hx hb dX12_layChild_154 (by decide) ?_
          exact B158 M_child v7 v8 t143 (1 : Int32) ls H locs (lv_sub hl [1, 2, 3, 4, 5, 6, 7, 0] rfl) hP hD hS h
      refine lv_iload hx hb dX12_layChild_108 (lv_at hl 4 rfl) ?_
      refine lv_iconst (v := (2 : Int32)) hx hb dX12_layChild_110 (by decide) ?_
      refine lv_icmp_ge (tgt := 350) hx hb dX12_layChild_111 (by decide) (fun q111 => ?_) (fun q111 => ?_)
      · have h := ifT h q111
        have h : some (M_fits, M_child) = some (M_fits_o, M_child_o) := h
        cases h
        exact hret _ _ _ _ hP hD hS dX12_layChild_350
      have h := ifF h q111
      refine lv_iconst (v := (0 : Int32)) hx hb dX12_layChild_114 (by decide) ?_
      refine lv_istore (lv' := [(7, .int (0 : Int32)), (0, .ref aM), (1, .int x1), (4, .int v4), (5, .int v5), (6, .int v6)]) hx hb dX12_layChild_115 hl (by decide) rfl (fun ls hl => ?_)
      refine lv_iconst (v := (0 : Int32)) hx hb dX12_layChild_117 (by decide) ?_
      refine lv_istore (lv' := [(8, .int (0 : Int32)), (7, .int (0 : Int32)), (0, .ref aM), (1, .int x1), (4, .int v4), (5, .int v5), (6, .int v6)]) hx hb dX12_layChild_118 hl (by decide) rfl (fun ls hl => ?_)
      exact L120 FU M_fits M_child v6 (0 : Int32) (0 : Int32) ls H locs (lv_sub hl [2, 3, 4, 5, 6, 1, 0] rfl) hP hD hS h
  have B91 : ∀ (M_fits : Int32) (M_child : Nat → Int32) (v2 : Int32) (v3 : Int32) (s0 : Int32) (ls : Array Slot) (H : Heap) (locs : List Loc), lv_has ls 15 [(0, .ref aM), (1, .int x1), (2, .int v2), (3, .int v3)] → va_P g.1 vwCl (wX12 g aM aM_text aM_now aM_trial aM_read aM_diary aM_kept aM_isKept aM_constraint aM_readConstraint aM_word aM_size aM_number aM_firstOne aM_node aM_parent aM_rule aM_child aM_proof aM_witness aM_witnessSize aM_built aM_copyRow M_length M_acts M_next M_many M_readMany M_found M_shortest M_nodes M_solved M_dropped M_fits M_proofSize M_tooLong M_text M_now M_trial M_read M_diary M_kept M_isKept M_constraint M_readConstraint M_word M_size M_number M_firstOne M_node M_parent M_rule M_child M_proof M_witness M_witnessSize M_built M_copyRow) H → va_D A (wX12 g aM aM_text aM_now aM_trial aM_read aM_diary aM_kept aM_isKept aM_constraint aM_readConstraint aM_word aM_size aM_number aM_firstOne aM_node aM_parent aM_rule aM_child aM_proof aM_witness aM_witnessSize aM_built aM_copyRow M_length M_acts M_next M_many M_readMany M_found M_shortest M_nodes M_solved M_dropped M_fits M_proofSize M_tooLong M_text M_now M_trial M_read M_diary M_kept M_isKept M_constraint M_readConstraint M_word M_size M_number M_firstOne M_node M_parent M_rule M_child M_proof M_witness M_witnessSize M_built M_copyRow) → va_S A s.heap H locs → fM_layChild_91 M_fits M_trial M_child x1 v2 v3 s0 = some (M_fits_o, M_child_o) → W p l e rmX12_layChild s m ([.ref aM, .int x1] : List Value).toArray below meth c H locs 0 0 QQ (F0 m 91 ls [.int s0]) := by
    intro M_fits M_child v2 v3 s0 ls H locs hl hP hD hS h
    refine lv_istore (lv' := [(4, .int s0), (0, .ref aM), (1, .int x1), (2, .int v2), (3, .int v3)]) hx hb dX12_layChild_91 hl (by decide) rfl (fun ls hl => ?_)
    refine lv_iload_n hx hb dX12_layChild_93 rfl (lv_at hl 2 rfl) ?_
    refine lv_iconst (v := (3 : Int32)) hx hb dX12_layChild_94 (by decide) ?_
    refine lv_icmp_ne (tgt := 102) hx hb dX12_layChild_95 (by decide) (fun q95 => ?_) (fun q95 => ?_)
    · have h := ifF h q95
      refine lv_iload_n hx hb dX12_layChild_102 rfl (lv_at hl 3 rfl) ?_
      refine lv_istore (lv' := [(5, .int v2), (4, .int s0), (0, .ref aM), (1, .int x1), (2, .int v2), (3, .int v3)]) hx hb dX12_layChild_103 hl (by decide) rfl (fun ls hl => ?_)
      refine lv_iconst (v := (0 : Int32)) hx hb dX12_layChild_105 (by decide) ?_
      refine lv_istore (lv' := [(6, .int (0 : Int32)), (5, .int v2), (4, .int s0), (0, .ref aM), (1, .int x1), (2, .int v2), (3, .int v3)]) hx hb dX12_layChild_106 hl (by decide) rfl (fun ls hl => ?_)
      exact L108 FU M_fits M_child s0 v2 (0 : Int32) ls H locs (lv_sub hl [3, 4, 2, 1, 0] rfl) hP hD hS h
    have h := ifT h q95
    refine lv_iload_n hx hb dX12_layChild_98 rfl (lv_at hl 4 rfl) ?_
    refine lv_goto (tgt := 103) hx hb dX12_layChild_99 (by decide) ?_
    refine lv_istore (lv' := [(5, .int v3), (4, .int s0), (0, .ref aM), (1, .int x1), (2, .int v2), (3, .int v3)]) hx hb dX12_layChild_103 hl (by decide) rfl (fun ls hl => ?_)
    refine lv_iconst (v := (0 : Int32)) hx hb dX12_layChild_105 (by decide) ?_
    refine lv_istore (lv' := [(6, .int (0 : Int32)), (5, .int v3), (4, .int s0), (0, .ref aM), (1, .int x1), (2, .int v2), (3, .int v3)]) hx hb dX12_layChild_106 hl (by decide) rfl (fun ls hl => ?_)
    exact L108 FU M_fits M_child s0 v3 (0 : Int32) ls H locs (lv_sub hl [3, 4, 2, 1, 0] rfl) hP hD hS h
  have B75 : ∀ (M_fits : Int32) (M_child : Nat → Int32) (v2 : Int32) (s0 : Int32) (ls : Array Slot) (H : Heap) (locs : List Loc), lv_has ls 15 [(0, .ref aM), (1, .int x1), (2, .int v2)] → va_P g.1 vwCl (wX12 g aM aM_text aM_now aM_trial aM_read aM_diary aM_kept aM_isKept aM_constraint aM_readConstraint aM_word aM_size aM_number aM_firstOne aM_node aM_parent aM_rule aM_child aM_proof aM_witness aM_witnessSize aM_built aM_copyRow M_length M_acts M_next M_many M_readMany M_found M_shortest M_nodes M_solved M_dropped M_fits M_proofSize M_tooLong M_text M_now M_trial M_read M_diary M_kept M_isKept M_constraint M_readConstraint M_word M_size M_number M_firstOne M_node M_parent M_rule M_child M_proof M_witness M_witnessSize M_built M_copyRow) H → va_D A (wX12 g aM aM_text aM_now aM_trial aM_read aM_diary aM_kept aM_isKept aM_constraint aM_readConstraint aM_word aM_size aM_number aM_firstOne aM_node aM_parent aM_rule aM_child aM_proof aM_witness aM_witnessSize aM_built aM_copyRow M_length M_acts M_next M_many M_readMany M_found M_shortest M_nodes M_solved M_dropped M_fits M_proofSize M_tooLong M_text M_now M_trial M_read M_diary M_kept M_isKept M_constraint M_readConstraint M_word M_size M_number M_firstOne M_node M_parent M_rule M_child M_proof M_witness M_witnessSize M_built M_copyRow) → va_S A s.heap H locs → fM_layChild_75 M_fits M_trial M_child x1 v2 s0 = some (M_fits_o, M_child_o) → W p l e rmX12_layChild s m ([.ref aM, .int x1] : List Value).toArray below meth c H locs 0 0 QQ (F0 m 75 ls [.int s0]) := by
    intro M_fits M_child v2 s0 ls H locs hl hP hD hS h
    refine lv_istore_n (lv' := [(3, .int s0), (0, .ref aM), (1, .int x1), (2, .int v2)]) hx hb dX12_layChild_75 rfl hl (by decide) rfl (fun ls hl => ?_)
    refine lv_iload_n hx hb dX12_layChild_76 rfl (lv_at hl 2 rfl) ?_
    refine lv_iconst (v := (1 : Int32)) hx hb dX12_layChild_77 (by decide) ?_
    refine lv_icmp_eq (tgt := 86) hx hb dX12_layChild_78 (by decide) (fun q78 => ?_) (fun q78 => ?_)
    · have h := ifT h q78
      refine lv_iload_n hx hb dX12_layChild_86 rfl (lv_at hl 3 rfl) ?_
      refine lv_goto (tgt := 91) hx hb dX12_layChild_87 (by decide) ?_
      exact B91 M_fits M_child v2 s0 v2 ls H locs (lv_sub hl [1, 2, 3, 0] rfl) hP hD hS h
    have h := ifF h q78
    refine lv_iload_n hx hb dX12_layChild_81 rfl (lv_at hl 2 rfl) ?_
    refine lv_iconst (v := (3 : Int32)) hx hb dX12_layChild_82 (by decide) ?_
    refine lv_icmp_ne (tgt := 90) hx hb dX12_layChild_83 (by decide) (fun q83 => ?_) (fun q83 => ?_)
    · have h := ifF h q83
      refine lv_iload_n hx hb dX12_layChild_90 rfl (lv_at hl 0 rfl) ?_
      exact B91 M_fits M_child v2 s0 s0 ls H locs (lv_sub hl [1, 2, 3, 0] rfl) hP hD hS h
    have h := ifT h q83
    refine lv_iload_n hx hb dX12_layChild_86 rfl (lv_at hl 3 rfl) ?_
    refine lv_goto (tgt := 91) hx hb dX12_layChild_87 (by decide) ?_
    exact B91 M_fits M_child v2 s0 v2 ls H locs (lv_sub hl [1, 2, 3, 0] rfl) hP hD hS h
  have B50 : ∀ (M_fits : Int32) (M_child : Nat → Int32) (s0 : Int32) (ls : Array Slot) (H : Heap) (locs : List Loc), lv_has ls 15 [(0, .ref aM), (1, .int x1)] → va_P g.1 vwCl (wX12 g aM aM_text aM_now aM_trial aM_read aM_diary aM_kept aM_isKept aM_constraint aM_readConstraint aM_word aM_size aM_number aM_firstOne aM_node aM_parent aM_rule aM_child aM_proof aM_witness aM_witnessSize aM_built aM_copyRow M_length M_acts M_next M_many M_readMany M_found M_shortest M_nodes M_solved M_dropped M_fits M_proofSize M_tooLong M_text M_now M_trial M_read M_diary M_kept M_isKept M_constraint M_readConstraint M_word M_size M_number M_firstOne M_node M_parent M_rule M_child M_proof M_witness M_witnessSize M_built M_copyRow) H → va_D A (wX12 g aM aM_text aM_now aM_trial aM_read aM_diary aM_kept aM_isKept aM_constraint aM_readConstraint aM_word aM_size aM_number aM_firstOne aM_node aM_parent aM_rule aM_child aM_proof aM_witness aM_witnessSize aM_built aM_copyRow M_length M_acts M_next M_many M_readMany M_found M_shortest M_nodes M_solved M_dropped M_fits M_proofSize M_tooLong M_text M_now M_trial M_read M_diary M_kept M_isKept M_constraint M_readConstraint M_word M_size M_number M_firstOne M_node M_parent M_rule M_child M_proof M_witness M_witnessSize M_built M_copyRow) → va_S A s.heap H locs → fM_layChild_50 M_fits M_trial M_child x1 s0 = some (M_fits_o, M_child_o) → W p l e rmX12_layChild s m ([.ref aM, .int x1] : List Value).toArray below meth c H locs 0 0 QQ (F0 m 50 ls [.int s0]) := by
    intro M_fits M_child s0 ls H locs hl hP hD hS h
    refine lv_istore_n (lv' := [(2, .int s0), (0, .ref aM), (1, .int x1)]) hx hb dX12_layChild_50 rfl hl (by decide) rfl (fun ls hl => ?_)
    refine lv_aload_n hx hb dX12_layChild_51 rfl (lv_at hl 1 rfl) ?_
    refine va_get (D := g.1) (ci := 11) (v := .ref aM_trial) (C := RX12) (T := TX12) (N := 35) hx hb hts inBX12 hown hK hP 0 rfl rfl 3 (by decide) (hts _ wd4_199) (fun _ h9 => h9) rfl dX12_layChild_52 ?_
    refine lv_iconst (v := (1 : Int32)) hx hb dX12_layChild_55 (by decide) ?_
    have hin := ld_in h
    refine va_iald hx hb hK hP 3 0 rfl rfl hin dX12_layChild_56 ?_
    refine lv_topi (fun t56 et56 => ?_)
    have h := ld_to h et56
    refine lv_if_le (tgt := 73) hx hb dX12_layChild_57 (by decide) (fun q57 => ?_) (fun q57 => ?_)
    · have h := ifT h q57
      refine lv_bipush (v := ((-9) : Int32)) hx hb dX12_layChild_73 (by decide) ?_
      exact B75 M_fits M_child s0 ((-9) : Int32) ls H locs (lv_sub hl [1, 2, 0] rfl) hP hD hS h
    have h := ifF h q57
    refine lv_aload_n hx hb dX12_layChild_60 rfl (lv_at hl 1 rfl) ?_
    refine va_get (D := g.1) (ci := 11) (v := .ref aM_trial) (C := RX12) (T := TX12) (N := 35) hx hb hts inBX12 hown hK hP 0 rfl rfl 3 (by decide) (hts _ wd4_199) (fun _ h9 => h9) rfl dX12_layChild_61 ?_
    refine lv_iconst (v := (1 : Int32)) hx hb dX12_layChild_64 (by decide) ?_
    refine lv_iconst (v := (0 : Int32)) hx hb dX12_layChild_65 (by decide) ?_
    obtain ⟨t66, hc66, h⟩ := bd1_to h
    refine go_0 (st1 := [.int t66, .ref aM_trial]) (run_S (As := [.int (1 : Int32), .int (0 : Int32)]) (rest := [.ref aM_trial]) X hS (mX12_at g l  (1 : Int32) (0 : Int32) t66 hc66) okX12_at wd5_87 ⟨Nat.le_of_ble_eq_true rfl, Nat.le_of_ble_eq_true rfl⟩ ⟨rfl, rfl⟩ nil_P nil_D (nil_F hS hA) rfl hl.1 rfl (Nat.le_of_ble_eq_true rfl) dX12_layChild_66 ⟨Nat.zero_le _, Nat.zero_le _⟩) hS hA hP rfl (fun H locs hP hS => ?_)
    have hin := ld_in h
    refine va_iald hx hb hK hP 3 0 rfl rfl hin dX12_layChild_69 ?_
    refine lv_topi (fun t69 et69 => ?_)
    have h := ld_to h et69
    refine lv_goto (tgt := 75) hx hb dX12_layChild_70 (by decide) ?_
    exact B75 M_fits M_child s0 t69 ls H locs (lv_sub hl [1, 2, 0] rfl) hP hD hS h
  have L2 : ∀ (n2 : Nat), ∀ (M_fits : Int32) (M_child : Nat → Int32) (v2 : Int32) (ls : Array Slot) (H : Heap) (locs : List Loc), lv_has ls 15 [(0, .ref aM), (1, .int x1), (2, .int v2)] → va_P g.1 vwCl (wX12 g aM aM_text aM_now aM_trial aM_read aM_diary aM_kept aM_isKept aM_constraint aM_readConstraint aM_word aM_size aM_number aM_firstOne aM_node aM_parent aM_rule aM_child aM_proof aM_witness aM_witnessSize aM_built aM_copyRow M_length M_acts M_next M_many M_readMany M_found M_shortest M_nodes M_solved M_dropped M_fits M_proofSize M_tooLong M_text M_now M_trial M_read M_diary M_kept M_isKept M_constraint M_readConstraint M_word M_size M_number M_firstOne M_node M_parent M_rule M_child M_proof M_witness M_witnessSize M_built M_copyRow) H → va_D A (wX12 g aM aM_text aM_now aM_trial aM_read aM_diary aM_kept aM_isKept aM_constraint aM_readConstraint aM_word aM_size aM_number aM_firstOne aM_node aM_parent aM_rule aM_child aM_proof aM_witness aM_witnessSize aM_built aM_copyRow M_length M_acts M_next M_many M_readMany M_found M_shortest M_nodes M_solved M_dropped M_fits M_proofSize M_tooLong M_text M_now M_trial M_read M_diary M_kept M_isKept M_constraint M_readConstraint M_word M_size M_number M_firstOne M_node M_parent M_rule M_child M_proof M_witness M_witnessSize M_built M_copyRow) → va_S A s.heap H locs → fx2 (fM_layChild_2 M_trial x1) n2 M_child v2 = some (M_fits_o, M_child_o) → W p l e rmX12_layChild s m ([.ref aM, .int x1] : List Value).toArray below meth c H locs 0 0 QQ (F0 m 2 ls []) := by
    intro n2
    induction n2 with
    | zero => intro M_fits M_child v2 ls H locs hl hP hD hS h; exact fx2_0 h
    | succ n2 ih2 =>
      intro M_fits M_child v2 ls H locs hl hP hD hS h
      have h := (fx2_s (fM_layChild_2 M_trial x1) n2 M_child v2).symm.trans h
      refine lv_iload_n hx hb dX12_layChild_2 rfl (lv_at hl 2 rfl) ?_
      refine lv_bipush (v := (26 : Int32)) hx hb dX12_layChild_3 (by decide) ?_
      refine lv_icmp_ge (tgt := 21) hx hb dX12_layChild_5 (by decide) (fun q5 => ?_) (fun q5 => ?_)
      · have h := ifT h q5
        refine lv_aload_n hx hb dX12_layChild_21 rfl (lv_at hl 0 rfl) ?_
        refine lv_iconst (v := (1 : Int32)) hx hb dX12_layChild_22 (by decide) ?_
        refine va_put (D := g.1) (ci := 11) (v := .int (1 : Int32)) (ty := .boolean) (C := RX12) (T := TX12) (N := 35) hx hb hts inBX12 tyX12 tyX12_ok nmX12 hown hK hP hD hS 0 rfl rfl 27 (by decide) (hts _ wd4_223) (fun _ h9 => h9) rfl (tyX12_ok 27 (by decide)) rfl rfl (Nat.le_of_ble_eq_true rfl) dX12_layChild_23 (fun H locs hP hD hS => ?_)
        have hP : va_P g.1 vwCl (wX12 g aM aM_text aM_now aM_trial aM_read aM_diary aM_kept aM_isKept aM_constraint aM_readConstraint aM_word aM_size aM_number aM_firstOne aM_node aM_parent aM_rule aM_child aM_proof aM_witness aM_witnessSize aM_built aM_copyRow M_length M_acts M_next M_many M_readMany M_found M_shortest M_nodes M_solved M_dropped (1 : Int32) M_proofSize M_tooLong M_text M_now M_trial M_read M_diary M_kept M_isKept M_constraint M_readConstraint M_word M_size M_number M_firstOne M_node M_parent M_rule M_child M_proof M_witness M_witnessSize M_built M_copyRow) H := hP
        have hD : va_D A (wX12 g aM aM_text aM_now aM_trial aM_read aM_diary aM_kept aM_isKept aM_constraint aM_readConstraint aM_word aM_size aM_number aM_firstOne aM_node aM_parent aM_rule aM_child aM_proof aM_witness aM_witnessSize aM_built aM_copyRow M_length M_acts M_next M_many M_readMany M_found M_shortest M_nodes M_solved M_dropped (1 : Int32) M_proofSize M_tooLong M_text M_now M_trial M_read M_diary M_kept M_isKept M_constraint M_readConstraint M_word M_size M_number M_firstOne M_node M_parent M_rule M_child M_proof M_witness M_witnessSize M_built M_copyRow) := hD
        refine lv_aload_n hx hb dX12_layChild_26 rfl (lv_at hl 0 rfl) ?_
        refine va_get (D := g.1) (ci := 11) (v := .ref aM_trial) (C := RX12) (T := TX12) (N := 35) hx hb hts inBX12 hown hK hP 0 rfl rfl 3 (by decide) (hts _ wd4_199) (fun _ h9 => h9) rfl dX12_layChild_27 ?_
        refine lv_iconst (v := (0 : Int32)) hx hb dX12_layChild_30 (by decide) ?_
        have hin := ld_in h
        refine va_iald hx hb hK hP 3 0 rfl rfl hin dX12_layChild_31 ?_
        refine lv_topi (fun t31 et31 => ?_)
        have h := ld_to h et31
        refine lv_if_le (tgt := 48) hx hb dX12_layChild_32 (by decide) (fun q32 => ?_) (fun q32 => ?_)
        · have h := ifT h q32
          refine lv_bipush (v := ((-9) : Int32)) hx hb dX12_layChild_48 (by decide) ?_
          exact B50 (1 : Int32) M_child ((-9) : Int32) ls H locs (lv_sub hl [0, 1] rfl) hP hD hS h
        have h := ifF h q32
        refine lv_aload_n hx hb dX12_layChild_35 rfl (lv_at hl 0 rfl) ?_
        refine va_get (D := g.1) (ci := 11) (v := .ref aM_trial) (C := RX12) (T := TX12) (N := 35) hx hb hts inBX12 hown hK hP 0 rfl rfl 3 (by decide) (hts _ wd4_199) (fun _ h9 => h9) rfl dX12_layChild_36 ?_
        refine lv_iconst (v := (0 : Int32)) hx hb dX12_layChild_39 (by decide) ?_
        refine lv_iconst (v := (0 : Int32)) hx hb dX12_layChild_40 (by decide) ?_
        obtain ⟨t41, hc41, h⟩ := bd1_to h
        refine go_0 (st1 := [.int t41, .ref aM_trial]) (run_S (As := [.int (0 : Int32), .int (0 : Int32)]) (rest := [.ref aM_trial]) X hS (mX12_at g l  (0 : Int32) (0 : Int32) t41 hc41) okX12_at wd5_87 ⟨Nat.le_of_ble_eq_true rfl, Nat.le_of_ble_eq_true rfl⟩ ⟨rfl, rfl⟩ nil_P nil_D (nil_F hS hA) rfl hl.1 rfl (Nat.le_of_ble_eq_true rfl) dX12_layChild_41 ⟨Nat.zero_le _, Nat.zero_le _⟩) hS hA hP rfl (fun H locs hP hS => ?_)
        have hin := ld_in h
        refine va_iald hx hb hK hP 3 0 rfl rfl hin dX12_layChild_44 ?_
        refine lv_topi (fun t44 et44 => ?_)
        have h := ld_to h et44
        refine lv_goto (tgt := 50) hx hb dX12_layChild_45 (by decide) ?_
        exact B50 (1 : Int32) M_child t44 ls H locs (lv_sub hl [0, 1] rfl) hP hD hS h
      have h := ifF h q5
      refine lv_aload_n hx hb dX12_layChild_8 rfl (lv_at hl 0 rfl) ?_
      refine va_get (D := g.1) (ci := 11) (v := .ref aM_child) (C := RX12) (T := TX12) (N := 35) hx hb hts inBX12 hown hK hP 0 rfl rfl 26 (by decide) (hts _ wd4_222) (fun _ h9 => h9) rfl dX12_layChild_9 ?_
      refine lv_iload_n hx hb dX12_layChild_12 rfl (lv_at hl 2 rfl) ?_
      refine lv_iconst (v := (0 : Int32)) hx hb dX12_layChild_13 (by decide) ?_
      have hin := sti_in h
      refine va_iast hx hb hK hP hD hS 17 0 rfl rfl hin dX12_layChild_14 (fun H locs hP hD hS => ?_)
      obtain ⟨M_child_14, eM_child_14⟩ : ∃ y : Nat → Int32, y = upd M_child (Int32.toNatClampNeg v2) (0 : Int32) := ⟨_, rfl⟩
      have h := sti_to h eM_child_14
      have hP : va_P g.1 vwCl (wX12 g aM aM_text aM_now aM_trial aM_read aM_diary aM_kept aM_isKept aM_constraint aM_readConstraint aM_word aM_size aM_number aM_firstOne aM_node aM_parent aM_rule aM_child aM_proof aM_witness aM_witnessSize aM_built aM_copyRow M_length M_acts M_next M_many M_readMany M_found M_shortest M_nodes M_solved M_dropped M_fits M_proofSize M_tooLong M_text M_now M_trial M_read M_diary M_kept M_isKept M_constraint M_readConstraint M_word M_size M_number M_firstOne M_node M_parent M_rule M_child_14 M_proof M_witness M_witnessSize M_built M_copyRow) H := by rw [eM_child_14]; exact hP
      have hD : va_D A (wX12 g aM aM_text aM_now aM_trial aM_read aM_diary aM_kept aM_isKept aM_constraint aM_readConstraint aM_word aM_size aM_number aM_firstOne aM_node aM_parent aM_rule aM_child aM_proof aM_witness aM_witnessSize aM_built aM_copyRow M_length M_acts M_next M_many M_readMany M_found M_shortest M_nodes M_solved M_dropped M_fits M_proofSize M_tooLong M_text M_now M_trial M_read M_diary M_kept M_isKept M_constraint M_readConstraint M_word M_size M_number M_firstOne M_node M_parent M_rule M_child_14 M_proof M_witness M_witnessSize M_built M_copyRow) := by rw [eM_child_14]; exact hD
      obtain ⟨t15, et15⟩ : ∃ y : Int32, y = v2 + (1 : Int32) := ⟨_, rfl⟩
      refine lv_iinc (v := t15) (lv' := [(2, .int t15), (0, .ref aM), (1, .int x1)]) hx hb dX12_layChild_15 hl (k := 2) rfl (by rw [et15]; rfl) (by decide) rfl (fun ls hl => ?_)
      have h := st_to h et15
      refine lv_goto (tgt := 2) hx hb dX12_layChild_18 (by decide) ?_
      exact ih2 M_fits M_child_14 t15 ls H locs (lv_sub hl [1, 2, 0] rfl) hP hD hS h
  have hl : lv_has ls 15 [(0, .ref aM), (1, .int x1)] := hl
  obtain ⟨H, hH⟩ : ∃ H, H = s.heap := ⟨_, rfl⟩
  obtain ⟨locs, hlocs⟩ : ∃ l : List Loc, l = [] := ⟨_, rfl⟩
  rw [show W p l e rmX12_layChild s m ([.ref aM, .int x1] : List Value).toArray below meth c s.heap [] 0 0 QQ (F0 m 0 ls []) = W p l e rmX12_layChild s m ([.ref aM, .int x1] : List Value).toArray below meth c H locs 0 0 QQ (F0 m 0 ls []) by rw [hH, hlocs]]
  have hP : va_P g.1 vwCl (wX12 g aM aM_text aM_now aM_trial aM_read aM_diary aM_kept aM_isKept aM_constraint aM_readConstraint aM_word aM_size aM_number aM_firstOne aM_node aM_parent aM_rule aM_child aM_proof aM_witness aM_witnessSize aM_built aM_copyRow M_length M_acts M_next M_many M_readMany M_found M_shortest M_nodes M_solved M_dropped M_fits M_proofSize M_tooLong M_text M_now M_trial M_read M_diary M_kept M_isKept M_constraint M_readConstraint M_word M_size M_number M_firstOne M_node M_parent M_rule M_child M_proof M_witness M_witnessSize M_built M_copyRow) H := by rw [hH]; exact hP
  have hD : va_D A (wX12 g aM aM_text aM_now aM_trial aM_read aM_diary aM_kept aM_isKept aM_constraint aM_readConstraint aM_word aM_size aM_number aM_firstOne aM_node aM_parent aM_rule aM_child aM_proof aM_witness aM_witnessSize aM_built aM_copyRow M_length M_acts M_next M_many M_readMany M_found M_shortest M_nodes M_solved M_dropped M_fits M_proofSize M_tooLong M_text M_now M_trial M_read M_diary M_kept M_isKept M_constraint M_readConstraint M_word M_size M_number M_firstOne M_node M_parent M_rule M_child M_proof M_witness M_witnessSize M_built M_copyRow) := hD
  have hS : va_S A s.heap H locs := by rw [hH, hlocs]; exact hS
  clear hH hlocs
  refine lv_iconst (v := (0 : Int32)) hx hb dX12_layChild_0 (by decide) ?_
  refine lv_istore_n (lv' := [(2, .int (0 : Int32)), (0, .ref aM), (1, .int x1)]) hx hb dX12_layChild_1 rfl hl (by decide) rfl (fun ls hl => ?_)
  exact L2 FU M_fits M_child (0 : Int32) ls H locs (lv_sub hl [1, 2, 0] rfl) hP hD hS h
set_option maxHeartbeats 4000000 in
set_option maxRecDepth 100000 in
theorem mX12_sameNode (g : GP) (l : Launch) (aM aM_text aM_now aM_trial aM_read aM_diary aM_kept aM_isKept aM_constraint aM_readConstraint aM_word aM_size aM_number aM_firstOne aM_node aM_parent aM_rule aM_child aM_proof aM_witness aM_witnessSize aM_built aM_copyRow : Nat) (M_length : Int32) (M_acts : Int32) (M_next : Int32) (M_many : Int32) (M_readMany : Int32) (M_found : Int32) (M_shortest : Int32) (M_nodes : Int32) (M_solved : Int32) (M_dropped : Int32) (M_fits : Int32) (M_proofSize : Int32) (M_tooLong : Int32) (M_text : Nat → Int32) (M_now : Nat → Int32) (M_trial : Nat → Int32) (M_read : Nat → Int32) (M_diary : Nat → Int32) (M_kept : Nat → Int32) (M_isKept : Nat → Int32) (M_constraint : Nat → Int32) (M_readConstraint : Nat → Int32) (M_word : Nat → Int32) (M_size : Nat → Int32) (M_number : Nat → Int32) (M_firstOne : Nat → Int32) (M_node : Nat → Int32) (M_parent : Nat → Int32) (M_rule : Nat → Int32) (M_child : Nat → Int32) (M_proof : Nat → Int32) (M_witness : Nat → Int32) (M_witnessSize : Nat → Int32) (M_built : Nat → Int32) (M_copyRow : Nat → Int32)  (r : Int32) (h : fM_sameNode M_nodes M_node M_child = some r) : Ct g l yX12_sameNode cX12_sameNode 4 (some .int) rmX12_sameNode [.ref aM] (wX12 g aM aM_text aM_now aM_trial aM_read aM_diary aM_kept aM_isKept aM_constraint aM_readConstraint aM_word aM_size aM_number aM_firstOne aM_node aM_parent aM_rule aM_child aM_proof aM_witness aM_witnessSize aM_built aM_copyRow M_length M_acts M_next M_many M_readMany M_found M_shortest M_nodes M_solved M_dropped M_fits M_proofSize M_tooLong M_text M_now M_trial M_read M_diary M_kept M_isKept M_constraint M_readConstraint M_word M_size M_number M_firstOne M_node M_parent M_rule M_child M_proof M_witness M_witnessSize M_built M_copyRow) (some (.int r)) (wX12 g aM aM_text aM_now aM_trial aM_read aM_diary aM_kept aM_isKept aM_constraint aM_readConstraint aM_word aM_size aM_number aM_firstOne aM_node aM_parent aM_rule aM_child aM_proof aM_witness aM_witnessSize aM_built aM_copyRow M_length M_acts M_next M_many M_readMany M_found M_shortest M_nodes M_solved M_dropped M_fits M_proofSize M_tooLong M_text M_now M_trial M_read M_diary M_kept M_isKept M_constraint M_readConstraint M_word M_size M_number M_firstOne M_node M_parent M_rule M_child M_proof M_witness M_witnessSize M_built M_copyRow) := by
  refine Ct.introI (by decide) (Nat.le_of_ble_eq_true rfl) ?_
  intro p e s m below meth c A QQ ls hyp hret
  obtain ⟨hx, hb, hml, hts, hown, hA, hE, hP, hD, hl⟩ := hyp
  have hK := hE.1
  have hS : va_S A s.heap s.heap [] := va_S.rf
  have X : Here g p s m c cX12_sameNode 4 ([.ref aM] : List Value).toArray RX12 A := ⟨⟨hx, hb, hml, hown, hts⟩, hE, hA⟩
  have L2 : ∀ (n2 : Nat), ∀ (v1 : Int32) (ls : Array Slot) (H : Heap) (locs : List Loc), lv_has ls 4 [(0, .ref aM), (1, .int v1)] → va_P g.1 vwCl (wX12 g aM aM_text aM_now aM_trial aM_read aM_diary aM_kept aM_isKept aM_constraint aM_readConstraint aM_word aM_size aM_number aM_firstOne aM_node aM_parent aM_rule aM_child aM_proof aM_witness aM_witnessSize aM_built aM_copyRow M_length M_acts M_next M_many M_readMany M_found M_shortest M_nodes M_solved M_dropped M_fits M_proofSize M_tooLong M_text M_now M_trial M_read M_diary M_kept M_isKept M_constraint M_readConstraint M_word M_size M_number M_firstOne M_node M_parent M_rule M_child M_proof M_witness M_witnessSize M_built M_copyRow) H → va_D A (wX12 g aM aM_text aM_now aM_trial aM_read aM_diary aM_kept aM_isKept aM_constraint aM_readConstraint aM_word aM_size aM_number aM_firstOne aM_node aM_parent aM_rule aM_child aM_proof aM_witness aM_witnessSize aM_built aM_copyRow M_length M_acts M_next M_many M_readMany M_found M_shortest M_nodes M_solved M_dropped M_fits M_proofSize M_tooLong M_text M_now M_trial M_read M_diary M_kept M_isKept M_constraint M_readConstraint M_word M_size M_number M_firstOne M_node M_parent M_rule M_child M_proof M_witness M_witnessSize M_built M_copyRow) → va_S A s.heap H locs → fx1 (fM_sameNode_2 M_nodes M_node M_child) n2 v1 = some r → W p l e rmX12_sameNode s m ([.ref aM] : List Value).toArray below meth c H locs 0 0 QQ (F0 m 2 ls []) := by
    intro n2
    induction n2 with
    | zero => intro v1 ls H locs hl hP hD hS h; exact fx1_0 h
    | succ n2 ih2 =>
      intro v1 ls H locs hl hP hD hS h
      have h := (fx1_s (fM_sameNode_2 M_nodes M_node M_child) n2 v1).symm.trans h
      have B56 : ∀ (v1 : Int32) (v2 : Int32) (ls : Array Slot) (H : Heap) (locs : List Loc), lv_has ls 4 [(0, .ref aM), (1, .int v1), (2, .int v2)] → va_P g.1 vwCl (wX12 g aM aM_text aM_now aM_trial aM_read aM_diary aM_kept aM_isKept aM_constraint aM_readConstraint aM_word aM_size aM_number aM_firstOne aM_node aM_parent aM_rule aM_child aM_proof aM_witness aM_witnessSize aM_built aM_copyRow M_length M_acts M_next M_many M_readMany M_found M_shortest M_nodes M_solved M_dropped M_fits M_proofSize M_tooLong M_text M_now M_trial M_read M_diary M_kept M_isKept M_constraint M_readConstraint M_word M_size M_number M_firstOne M_node M_parent M_rule M_child M_proof M_witness M_witnessSize M_built M_copyRow) H → va_D A (wX12 g aM aM_text aM_now aM_trial aM_read aM_diary aM_kept aM_isKept aM_constraint aM_readConstraint aM_word aM_size aM_number aM_firstOne aM_node aM_parent aM_rule aM_child aM_proof aM_witness aM_witnessSize aM_built aM_copyRow M_length M_acts M_next M_many M_readMany M_found M_shortest M_nodes M_solved M_dropped M_fits M_proofSize M_tooLong M_text M_now M_trial M_read M_diary M_kept M_isKept M_constraint M_readConstraint M_word M_size M_number M_firstOne M_node M_parent M_rule M_child M_proof M_witness M_witnessSize M_built M_copyRow) → va_S A s.heap H locs → fM_sameNode_56 (fx1 (fM_sameNode_2 M_nodes M_node M_child) n2) M_nodes M_node M_child v1 v2 = some r → W p l e rmX12_sameNode s m ([.ref aM] : List Value).toArray below meth c H locs 0 0 QQ (F0 m 56 ls []) := by
        intro v1 v2 ls H locs hl hP hD hS h
        refine lv_iload_n hx hb dX12_sameNode_56 rfl (lv_at hl 2 rfl) ?_
        refine lv_if_eq (tgt := 62) hx hb dX12_sameNode_57 (by decide) (fun q57 => ?_) (fun q57 => ?_)
        · have h := ifT h q57
          obtain ⟨t62, et62⟩ : ∃ y : Int32, y = v1 + (1 : Int32) := ⟨_, rfl⟩
          refine lv_iinc (v := t62) (lv' := [(1, .int t62), (0, .ref aM), (2, .int v2)]) hx hb dX12_sameNode_62 hl (k := 1) rfl (by rw [et62]; rfl) (by decide) rfl (fun ls hl => ?_)
          have h := st_to h et62
          refine lv_goto (tgt := 2) hx hb dX12_sameNode_65 (by decide) ?_
          exact ih2 t62 ls H locs (lv_sub hl [1, 0] rfl) hP hD hS h
        have h := ifF h q57
        refine lv_iload_n hx hb dX12_sameNode_60 rfl (lv_at hl 1 rfl) ?_
        have h : some v1 = some r := h
        cases h
        exact hret _ _ _ _ hP hD hS dX12_sameNode_61
      have L14 : ∀ (n14 : Nat), ∀ (v1 : Int32) (v2 : Int32) (v3 : Int32) (ls : Array Slot) (H : Heap) (locs : List Loc), lv_has ls 4 [(0, .ref aM), (1, .int v1), (2, .int v2), (3, .int v3)] → va_P g.1 vwCl (wX12 g aM aM_text aM_now aM_trial aM_read aM_diary aM_kept aM_isKept aM_constraint aM_readConstraint aM_word aM_size aM_number aM_firstOne aM_node aM_parent aM_rule aM_child aM_proof aM_witness aM_witnessSize aM_built aM_copyRow M_length M_acts M_next M_many M_readMany M_found M_shortest M_nodes M_solved M_dropped M_fits M_proofSize M_tooLong M_text M_now M_trial M_read M_diary M_kept M_isKept M_constraint M_readConstraint M_word M_size M_number M_firstOne M_node M_parent M_rule M_child M_proof M_witness M_witnessSize M_built M_copyRow) H → va_D A (wX12 g aM aM_text aM_now aM_trial aM_read aM_diary aM_kept aM_isKept aM_constraint aM_readConstraint aM_word aM_size aM_number aM_firstOne aM_node aM_parent aM_rule aM_child aM_proof aM_witness aM_witnessSize aM_built aM_copyRow M_length M_acts M_next M_many M_readMany M_found M_shortest M_nodes M_solved M_dropped M_fits M_proofSize M_tooLong M_text M_now M_trial M_read M_diary M_kept M_isKept M_constraint M_readConstraint M_word M_size M_number M_firstOne M_node M_parent M_rule M_child M_proof M_witness M_witnessSize M_built M_copyRow) → va_S A s.heap H locs → fx2 (fM_sameNode_14 (fx1 (fM_sameNode_2 M_nodes M_node M_child) n2) M_nodes M_node M_child v1) n14 v2 v3 = some r → W p l e rmX12_sameNode s m ([.ref aM] : List Value).toArray below meth c H locs 0 0 QQ (F0 m 14 ls []) := by
        intro n14
        induction n14 with
        | zero => intro v1 v2 v3 ls H locs hl hP hD hS h; exact fx2_0 h
        | succ n14 ih14 =>
          intro v1 v2 v3 ls H locs hl hP hD hS h
          have h := (fx2_s (fM_sameNode_14 (fx1 (fM_sameNode_2 M_nodes M_node M_child) n2) M_nodes M_node M_child v1) n14 v2 v3).symm.trans h
          refine lv_iload_n hx hb dX12_sameNode_14 rfl (lv_at hl 3 rfl) ?_
          refine lv_bipush (v := (26 : Int32)) hx hb dX12_sameNode_15 (by decide) ?_
          refine lv_icmp_ge (tgt := 56) hx hb dX12_sameNode_17 (by decide) (fun q17 => ?_) (fun q17 => ?_)
          · have h := ifT h q17
            exact B56 v1 v2 ls H locs (lv_sub hl [0, 1, 2] rfl) hP hD hS h
          have h := ifF h q17
          refine lv_iload_n hx hb dX12_sameNode_20 rfl (lv_at hl 2 rfl) ?_
          refine lv_if_eq (tgt := 56) hx hb dX12_sameNode_21 (by decide) (fun q21 => ?_) (fun q21 => ?_)
          · have h := ifT h q21
            exact B56 v1 v2 ls H locs (lv_sub hl [0, 1, 2] rfl) hP hD hS h
          have h := ifF h q21
          refine lv_aload_n hx hb dX12_sameNode_24 rfl (lv_at hl 0 rfl) ?_
          refine va_get (D := g.1) (ci := 11) (v := .ref aM_node) (C := RX12) (T := TX12) (N := 35) hx hb hts inBX12 hown hK hP 0 rfl rfl 20 (by decide) (hts _ wd4_216) (fun _ h9 => h9) rfl dX12_sameNode_25 ?_
          refine lv_bipush (v := (26 : Int32)) hx hb dX12_sameNode_28 (by decide) ?_
          refine lv_iload_n hx hb dX12_sameNode_30 rfl (lv_at hl 1 rfl) ?_
          refine lv_imul hx hb dX12_sameNode_31 ?_
          refine lv_iload_n hx hb dX12_sameNode_32 rfl (lv_at hl 3 rfl) ?_
          refine lv_iadd hx hb dX12_sameNode_33 ?_
          have hin := ld_in h
          refine va_iald hx hb hK hP 14 0 rfl rfl hin dX12_sameNode_34 ?_
          refine lv_topi (fun t34 et34 => ?_)
          have h := ld_to h et34
          refine lv_aload_n hx hb dX12_sameNode_35 rfl (lv_at hl 0 rfl) ?_
          refine va_get (D := g.1) (ci := 11) (v := .ref aM_child) (C := RX12) (T := TX12) (N := 35) hx hb hts inBX12 hown hK hP 0 rfl rfl 26 (by decide) (hts _ wd4_222) (fun _ h9 => h9) rfl dX12_sameNode_36 ?_
          refine lv_iload_n hx hb dX12_sameNode_39 rfl (lv_at hl 3 rfl) ?_
          have hin := ld_in h
          refine va_iald hx hb hK hP 17 0 rfl rfl hin dX12_sameNode_40 ?_
          refine lv_topi (fun t40 et40 => ?_)
          have h := ld_to h et40
          refine lv_icmp_ne (tgt := 48) hx hb dX12_sameNode_41 (by decide) (fun q41 => ?_) (fun q41 => ?_)
          · have h := ifF h q41
            refine lv_iconst (v := (0 : Int32)) hx hb dX12_sameNode_48 (by decide) ?_
            refine lv_istore_n (lv' := [(2, .int (0 : Int32)), (0, .ref aM), (1, .int v1), (3, .int v3)]) hx hb dX12_sameNode_49 rfl hl (by decide) rfl (fun ls hl => ?_)
            obtain ⟨t50, et50⟩ : ∃ y : Int32, y = v3 + (1 : Int32) := ⟨_, rfl⟩
            refine lv_iinc (v := t50) (lv' := [(3, .int t50), (2, .int (0 : Int32)), (0, .ref aM), (1, .int v1)]) hx hb dX12_sameNode_50 hl (k := 3) rfl (by rw [et50]; rfl) (by decide) rfl (fun ls hl => ?_)
            have h := st_to h et50
            refine lv_goto (tgt := 14) hx hb dX12_sameNode_53 (by decide) ?_
            exact ih14 v1 (0 : Int32) t50 ls H locs (lv_sub hl [2, 3, 1, 0] rfl) hP hD hS h
          have h := ifT h q41
          refine lv_iconst (v := (1 : Int32)) hx hb dX12_sameNode_44 (by decide) ?_
          refine lv_goto (tgt := 49) hx hb dX12_sameNode_45 (by decide) ?_
          refine lv_istore_n (lv' := [(2, .int (1 : Int32)), (0, .ref aM), (1, .int v1), (3, .int v3)]) hx hb dX12_sameNode_49 rfl hl (by decide) rfl (fun ls hl => ?_)
          obtain ⟨t50, et50⟩ : ∃ y : Int32, y = v3 + (1 : Int32) := ⟨_, rfl⟩
          refine lv_iinc (v := t50) (lv' := [(3, .int t50), (2, .int (1 : Int32)), (0, .ref aM), (1, .int v1)]) hx hb dX12_sameNode_50 hl (k := 3) rfl (by rw [et50]; rfl) (by decide) rfl (fun ls hl => ?_)
          have h := st_to h et50
          refine lv_goto (tgt := 14) hx hb dX12_sameNode_53 (by decide) ?_
          exact ih14 v1 (1 : Int32) t50 ls H locs (lv_sub hl [2, 3, 1, 0] rfl) hP hD hS h
      refine lv_iload_n hx hb dX12_sameNode_2 rfl (lv_at hl 1 rfl) ?_
      refine lv_aload_n hx hb dX12_sameNode_3 rfl (lv_at hl 0 rfl) ?_
      refine va_get (D := g.1) (ci := 11) (v := .int M_nodes) (C := RX12) (T := TX12) (N := 35) hx hb hts inBX12 hown hK hP 0 rfl rfl 23 (by decide) (hts _ wd4_219) (fun _ h9 => h9) rfl dX12_sameNode_4 ?_
      refine lv_icmp_ge (tgt := 68) hx hb dX12_sameNode_7 (by decide) (fun q7 => ?_) (fun q7 => ?_)
      · have h := ifT h q7
        refine lv_bipush (v := ((-9) : Int32)) hx hb dX12_sameNode_68 (by decide) ?_
        have h : some ((-9) : Int32) = some r := h
        cases h
        exact hret _ _ _ _ hP hD hS dX12_sameNode_70
      have h := ifF h q7
      refine lv_iconst (v := (1 : Int32)) hx hb dX12_sameNode_10 (by decide) ?_
      refine lv_istore_n (lv' := [(2, .int (1 : Int32)), (0, .ref aM), (1, .int v1)]) hx hb dX12_sameNode_11 rfl hl (by decide) rfl (fun ls hl => ?_)
      refine lv_iconst (v := (0 : Int32)) hx hb dX12_sameNode_12 (by decide) ?_
      refine lv_istore_n (lv' := [(3, .int (0 : Int32)), (2, .int (1 : Int32)), (0, .ref aM), (1, .int v1)]) hx hb dX12_sameNode_13 rfl hl (by decide) rfl (fun ls hl => ?_)
      exact L14 FU v1 (1 : Int32) (0 : Int32) ls H locs (lv_sub hl [2, 3, 1, 0] rfl) hP hD hS h
  have hl : lv_has ls 4 [(0, .ref aM)] := hl
  obtain ⟨H, hH⟩ : ∃ H, H = s.heap := ⟨_, rfl⟩
  obtain ⟨locs, hlocs⟩ : ∃ l : List Loc, l = [] := ⟨_, rfl⟩
  rw [show W p l e rmX12_sameNode s m ([.ref aM] : List Value).toArray below meth c s.heap [] 0 0 QQ (F0 m 0 ls []) = W p l e rmX12_sameNode s m ([.ref aM] : List Value).toArray below meth c H locs 0 0 QQ (F0 m 0 ls []) by rw [hH, hlocs]]
  have hP : va_P g.1 vwCl (wX12 g aM aM_text aM_now aM_trial aM_read aM_diary aM_kept aM_isKept aM_constraint aM_readConstraint aM_word aM_size aM_number aM_firstOne aM_node aM_parent aM_rule aM_child aM_proof aM_witness aM_witnessSize aM_built aM_copyRow M_length M_acts M_next M_many M_readMany M_found M_shortest M_nodes M_solved M_dropped M_fits M_proofSize M_tooLong M_text M_now M_trial M_read M_diary M_kept M_isKept M_constraint M_readConstraint M_word M_size M_number M_firstOne M_node M_parent M_rule M_child M_proof M_witness M_witnessSize M_built M_copyRow) H := by rw [hH]; exact hP
  have hD : va_D A (wX12 g aM aM_text aM_now aM_trial aM_read aM_diary aM_kept aM_isKept aM_constraint aM_readConstraint aM_word aM_size aM_number aM_firstOne aM_node aM_parent aM_rule aM_child aM_proof aM_witness aM_witnessSize aM_built aM_copyRow M_length M_acts M_next M_many M_readMany M_found M_shortest M_nodes M_solved M_dropped M_fits M_proofSize M_tooLong M_text M_now M_trial M_read M_diary M_kept M_isKept M_constraint M_readConstraint M_word M_size M_number M_firstOne M_node M_parent M_rule M_child M_proof M_witness M_witnessSize M_built M_copyRow) := hD
  have hS : va_S A s.heap H locs := by rw [hH, hlocs]; exact hS
  clear hH hlocs
  refine lv_iconst (v := (0 : Int32)) hx hb dX12_sameNode_0 (by decide) ?_
  refine lv_istore_n (lv' := [(1, .int (0 : Int32)), (0, .ref aM)]) hx hb dX12_sameNode_1 rfl hl (by decide) rfl (fun ls hl => ?_)
  exact L2 FU (0 : Int32) ls H locs (lv_sub hl [1, 0] rfl) hP hD hS h
set_option maxHeartbeats 4000000 in
set_option maxRecDepth 100000 in
theorem mX12_addChild (g : GP) (l : Launch) (aM aM_text aM_now aM_trial aM_read aM_diary aM_kept aM_isKept aM_constraint aM_readConstraint aM_word aM_size aM_number aM_firstOne aM_node aM_parent aM_rule aM_child aM_proof aM_witness aM_witnessSize aM_built aM_copyRow : Nat) (M_length : Int32) (M_acts : Int32) (M_next : Int32) (M_many : Int32) (M_readMany : Int32) (M_found : Int32) (M_shortest : Int32) (M_nodes : Int32) (M_solved : Int32) (M_dropped : Int32) (M_fits : Int32) (M_proofSize : Int32) (M_tooLong : Int32) (M_text : Nat → Int32) (M_now : Nat → Int32) (M_trial : Nat → Int32) (M_read : Nat → Int32) (M_diary : Nat → Int32) (M_kept : Nat → Int32) (M_isKept : Nat → Int32) (M_constraint : Nat → Int32) (M_readConstraint : Nat → Int32) (M_word : Nat → Int32) (M_size : Nat → Int32) (M_number : Nat → Int32) (M_firstOne : Nat → Int32) (M_node : Nat → Int32) (M_parent : Nat → Int32) (M_rule : Nat → Int32) (M_child : Nat → Int32) (M_proof : Nat → Int32) (M_witness : Nat → Int32) (M_witnessSize : Nat → Int32) (M_built : Nat → Int32) (M_copyRow : Nat → Int32) (x1 : Int32) (x2 : Int32) (M_nodes_o : Int32) (M_solved_o : Int32) (M_dropped_o : Int32) (M_fits_o : Int32) (M_node_o : Nat → Int32) (M_parent_o : Nat → Int32) (M_rule_o : Nat → Int32) (M_child_o : Nat → Int32) (h : fM_addChild M_nodes M_solved M_dropped M_trial M_node M_parent M_rule M_child x1 x2 = some (M_nodes_o, M_solved_o, M_dropped_o, M_fits_o, M_node_o, M_parent_o, M_rule_o, M_child_o)) : Ct g l yX12_addChild cX12_addChild 4 none rmX12_addChild [.ref aM, .int x1, .int x2] (wX12 g aM aM_text aM_now aM_trial aM_read aM_diary aM_kept aM_isKept aM_constraint aM_readConstraint aM_word aM_size aM_number aM_firstOne aM_node aM_parent aM_rule aM_child aM_proof aM_witness aM_witnessSize aM_built aM_copyRow M_length M_acts M_next M_many M_readMany M_found M_shortest M_nodes M_solved M_dropped M_fits M_proofSize M_tooLong M_text M_now M_trial M_read M_diary M_kept M_isKept M_constraint M_readConstraint M_word M_size M_number M_firstOne M_node M_parent M_rule M_child M_proof M_witness M_witnessSize M_built M_copyRow) none (wX12 g aM aM_text aM_now aM_trial aM_read aM_diary aM_kept aM_isKept aM_constraint aM_readConstraint aM_word aM_size aM_number aM_firstOne aM_node aM_parent aM_rule aM_child aM_proof aM_witness aM_witnessSize aM_built aM_copyRow M_length M_acts M_next M_many M_readMany M_found M_shortest M_nodes_o M_solved_o M_dropped_o M_fits_o M_proofSize M_tooLong M_text M_now M_trial M_read M_diary M_kept M_isKept M_constraint M_readConstraint M_word M_size M_number M_firstOne M_node_o M_parent_o M_rule_o M_child_o M_proof M_witness M_witnessSize M_built M_copyRow) := by
  refine Ct.introV (by decide) (Nat.le_of_ble_eq_true rfl) ?_
  intro p e s m below meth c A QQ ls hyp hret
  obtain ⟨hx, hb, hml, hts, hown, hA, hE, hP, hD, hl⟩ := hyp
  have hK := hE.1
  have hS : va_S A s.heap s.heap [] := va_S.rf
  have X : Here g p s m c cX12_addChild 4 ([.ref aM, .int x1, .int x2] : List Value).toArray RX12 A := ⟨⟨hx, hb, hml, hown, hts⟩, hE, hA⟩
  have B129 : ∀ (M_nodes : Int32) (M_solved : Int32) (M_dropped : Int32) (M_fits : Int32) (M_node : Nat → Int32) (M_parent : Nat → Int32) (M_rule : Nat → Int32) (M_child : Nat → Int32) (s1 : Int32) (ls : Array Slot) (H : Heap) (locs : List Loc), lv_has ls 4 [(0, .ref aM)] → va_P g.1 vwCl (wX12 g aM aM_text aM_now aM_trial aM_read aM_diary aM_kept aM_isKept aM_constraint aM_readConstraint aM_word aM_size aM_number aM_firstOne aM_node aM_parent aM_rule aM_child aM_proof aM_witness aM_witnessSize aM_built aM_copyRow M_length M_acts M_next M_many M_readMany M_found M_shortest M_nodes M_solved M_dropped M_fits M_proofSize M_tooLong M_text M_now M_trial M_read M_diary M_kept M_isKept M_constraint M_readConstraint M_word M_size M_number M_firstOne M_node M_parent M_rule M_child M_proof M_witness M_witnessSize M_built M_copyRow) H → va_D A (wX12 g aM aM_text aM_now aM_trial aM_read aM_diary aM_kept aM_isKept aM_constraint aM_readConstraint aM_word aM_size aM_number aM_firstOne aM_node aM_parent aM_rule aM_child aM_proof aM_witness aM_witnessSize aM_built aM_copyRow M_length M_acts M_next M_many M_readMany M_found M_shortest M_nodes M_solved M_dropped M_fits M_proofSize M_tooLong M_text M_now M_trial M_read M_diary M_kept M_isKept M_constraint M_readConstraint M_word M_size M_number M_firstOne M_node M_parent M_rule M_child M_proof M_witness M_witnessSize M_built M_copyRow) → va_S A s.heap H locs → fM_addChild_129 M_nodes M_dropped M_fits M_node M_parent M_rule M_child s1 = some (M_nodes_o, M_solved_o, M_dropped_o, M_fits_o, M_node_o, M_parent_o, M_rule_o, M_child_o) → W p l e rmX12_addChild s m ([.ref aM, .int x1, .int x2] : List Value).toArray below meth c H locs 0 0 QQ (F0 m 129 ls [.int s1, .ref aM]) := by
    intro M_nodes M_solved M_dropped M_fits M_node M_parent M_rule M_child s1 ls H locs hl hP hD hS h
    refine va_put (D := g.1) (ci := 11) (v := .int s1) (ty := .int) (C := RX12) (T := TX12) (N := 35) hx hb hts inBX12 tyX12 tyX12_ok nmX12 hown hK hP hD hS 0 rfl rfl 24 (by decide) (hts _ wd4_220) (fun _ h9 => h9) rfl (tyX12_ok 24 (by decide)) rfl rfl (Nat.le_of_ble_eq_true rfl) dX12_addChild_129 (fun H locs hP hD hS => ?_)
    have hP : va_P g.1 vwCl (wX12 g aM aM_text aM_now aM_trial aM_read aM_diary aM_kept aM_isKept aM_constraint aM_readConstraint aM_word aM_size aM_number aM_firstOne aM_node aM_parent aM_rule aM_child aM_proof aM_witness aM_witnessSize aM_built aM_copyRow M_length M_acts M_next M_many M_readMany M_found M_shortest M_nodes s1 M_dropped M_fits M_proofSize M_tooLong M_text M_now M_trial M_read M_diary M_kept M_isKept M_constraint M_readConstraint M_word M_size M_number M_firstOne M_node M_parent M_rule M_child M_proof M_witness M_witnessSize M_built M_copyRow) H := hP
    have hD : va_D A (wX12 g aM aM_text aM_now aM_trial aM_read aM_diary aM_kept aM_isKept aM_constraint aM_readConstraint aM_word aM_size aM_number aM_firstOne aM_node aM_parent aM_rule aM_child aM_proof aM_witness aM_witnessSize aM_built aM_copyRow M_length M_acts M_next M_many M_readMany M_found M_shortest M_nodes s1 M_dropped M_fits M_proofSize M_tooLong M_text M_now M_trial M_read M_diary M_kept M_isKept M_constraint M_readConstraint M_word M_size M_number M_firstOne M_node M_parent M_rule M_child M_proof M_witness M_witnessSize M_built M_copyRow) := hD
    refine lv_aload_n hx hb dX12_addChild_132 rfl (lv_at hl 0 rfl) ?_
    refine lv_dup hx hb dX12_addChild_133 rfl ?_
    refine va_get (D := g.1) (ci := 11) (v := .int M_nodes) (C := RX12) (T := TX12) (N := 35) hx hb hts inBX12 hown hK hP 0 rfl rfl 23 (by decide) (hts _ wd4_219) (fun _ h9 => h9) rfl dX12_addChild_134 ?_
    refine lv_iconst (v := (1 : Int32)) hx hb dX12_addChild_137 (by decide) ?_
    refine lv_iadd hx hb dX12_addChild_138 ?_
    refine lv_topi (fun t139 et139 => ?_)
    have h := st_to h et139
    refine va_put (D := g.1) (ci := 11) (v := .int t139) (ty := .int) (C := RX12) (T := TX12) (N := 35) hx hb hts inBX12 tyX12 tyX12_ok nmX12 hown hK hP hD hS 0 rfl rfl 23 (by decide) (hts _ wd4_219) (fun _ h9 => h9) rfl (tyX12_ok 23 (by decide)) rfl rfl (Nat.le_of_ble_eq_true rfl) dX12_addChild_139 (fun H locs hP hD hS => ?_)
    have hP : va_P g.1 vwCl (wX12 g aM aM_text aM_now aM_trial aM_read aM_diary aM_kept aM_isKept aM_constraint aM_readConstraint aM_word aM_size aM_number aM_firstOne aM_node aM_parent aM_rule aM_child aM_proof aM_witness aM_witnessSize aM_built aM_copyRow M_length M_acts M_next M_many M_readMany M_found M_shortest t139 s1 M_dropped M_fits M_proofSize M_tooLong M_text M_now M_trial M_read M_diary M_kept M_isKept M_constraint M_readConstraint M_word M_size M_number M_firstOne M_node M_parent M_rule M_child M_proof M_witness M_witnessSize M_built M_copyRow) H := hP
    have hD : va_D A (wX12 g aM aM_text aM_now aM_trial aM_read aM_diary aM_kept aM_isKept aM_constraint aM_readConstraint aM_word aM_size aM_number aM_firstOne aM_node aM_parent aM_rule aM_child aM_proof aM_witness aM_witnessSize aM_built aM_copyRow M_length M_acts M_next M_many M_readMany M_found M_shortest t139 s1 M_dropped M_fits M_proofSize M_tooLong M_text M_now M_trial M_read M_diary M_kept M_isKept M_constraint M_readConstraint M_word M_size M_number M_firstOne M_node M_parent M_rule M_child M_proof M_witness M_witnessSize M_built M_copyRow) := hD
    have h : some (t139, s1, M_dropped, M_fits, M_node, M_parent, M_rule, M_child) = some (M_nodes_o, M_solved_o, M_dropped_o, M_fits_o, M_node_o, M_parent_o, M_rule_o, M_child_o) := h
    cases h
    exact hret _ _ _ _ hP hD hS dX12_addChild_142
  have L49 : ∀ (n49 : Nat), ∀ (M_nodes : Int32) (M_solved : Int32) (M_dropped : Int32) (M_fits : Int32) (M_node : Nat → Int32) (M_parent : Nat → Int32) (M_rule : Nat → Int32) (M_child : Nat → Int32) (v3 : Int32) (ls : Array Slot) (H : Heap) (locs : List Loc), lv_has ls 4 [(0, .ref aM), (1, .int x1), (2, .int x2), (3, .int v3)] → va_P g.1 vwCl (wX12 g aM aM_text aM_now aM_trial aM_read aM_diary aM_kept aM_isKept aM_constraint aM_readConstraint aM_word aM_size aM_number aM_firstOne aM_node aM_parent aM_rule aM_child aM_proof aM_witness aM_witnessSize aM_built aM_copyRow M_length M_acts M_next M_many M_readMany M_found M_shortest M_nodes M_solved M_dropped M_fits M_proofSize M_tooLong M_text M_now M_trial M_read M_diary M_kept M_isKept M_constraint M_readConstraint M_word M_size M_number M_firstOne M_node M_parent M_rule M_child M_proof M_witness M_witnessSize M_built M_copyRow) H → va_D A (wX12 g aM aM_text aM_now aM_trial aM_read aM_diary aM_kept aM_isKept aM_constraint aM_readConstraint aM_word aM_size aM_number aM_firstOne aM_node aM_parent aM_rule aM_child aM_proof aM_witness aM_witnessSize aM_built aM_copyRow M_length M_acts M_next M_many M_readMany M_found M_shortest M_nodes M_solved M_dropped M_fits M_proofSize M_tooLong M_text M_now M_trial M_read M_diary M_kept M_isKept M_constraint M_readConstraint M_word M_size M_number M_firstOne M_node M_parent M_rule M_child M_proof M_witness M_witnessSize M_built M_copyRow) → va_S A s.heap H locs → fx2 (fM_addChild_49 M_nodes M_solved M_dropped M_fits M_parent M_rule M_child x1 x2) n49 M_node v3 = some (M_nodes_o, M_solved_o, M_dropped_o, M_fits_o, M_node_o, M_parent_o, M_rule_o, M_child_o) → W p l e rmX12_addChild s m ([.ref aM, .int x1, .int x2] : List Value).toArray below meth c H locs 0 0 QQ (F0 m 49 ls []) := by
    intro n49
    induction n49 with
    | zero => intro M_nodes M_solved M_dropped M_fits M_node M_parent M_rule M_child v3 ls H locs hl hP hD hS h; exact fx2_0 h
    | succ n49 ih49 =>
      intro M_nodes M_solved M_dropped M_fits M_node M_parent M_rule M_child v3 ls H locs hl hP hD hS h
      have h := (fx2_s (fM_addChild_49 M_nodes M_solved M_dropped M_fits M_parent M_rule M_child x1 x2) n49 M_node v3).symm.trans h
      refine lv_iload_n hx hb dX12_addChild_49 rfl (lv_at hl 3 rfl) ?_
      refine lv_bipush (v := (26 : Int32)) hx hb dX12_addChild_50 (by decide) ?_
      refine lv_icmp_ge (tgt := 81) hx hb dX12_addChild_52 (by decide) (fun q52 => ?_) (fun q52 => ?_)
      · have h := ifT h q52
        refine lv_aload_n hx hb dX12_addChild_81 rfl (lv_at hl 0 rfl) ?_
        refine va_get (D := g.1) (ci := 11) (v := .ref aM_parent) (C := RX12) (T := TX12) (N := 35) hx hb hts inBX12 hown hK hP 0 rfl rfl 21 (by decide) (hts _ wd4_217) (fun _ h9 => h9) rfl dX12_addChild_82 ?_
        refine lv_aload_n hx hb dX12_addChild_85 rfl (lv_at hl 0 rfl) ?_
        refine va_get (D := g.1) (ci := 11) (v := .int M_nodes) (C := RX12) (T := TX12) (N := 35) hx hb hts inBX12 hown hK hP 0 rfl rfl 23 (by decide) (hts _ wd4_219) (fun _ h9 => h9) rfl dX12_addChild_86 ?_
        refine lv_iload_n hx hb dX12_addChild_89 rfl (lv_at hl 1 rfl) ?_
        have hin := sti_in h
        refine va_iast hx hb hK hP hD hS 15 0 rfl rfl hin dX12_addChild_90 (fun H locs hP hD hS => ?_)
        obtain ⟨M_parent_90, eM_parent_90⟩ : ∃ y : Nat → Int32, y = upd M_parent (Int32.toNatClampNeg M_nodes) x1 := ⟨_, rfl⟩
        have h := sti_to h eM_parent_90
        have hP : va_P g.1 vwCl (wX12 g aM aM_text aM_now aM_trial aM_read aM_diary aM_kept aM_isKept aM_constraint aM_readConstraint aM_word aM_size aM_number aM_firstOne aM_node aM_parent aM_rule aM_child aM_proof aM_witness aM_witnessSize aM_built aM_copyRow M_length M_acts M_next M_many M_readMany M_found M_shortest M_nodes M_solved M_dropped M_fits M_proofSize M_tooLong M_text M_now M_trial M_read M_diary M_kept M_isKept M_constraint M_readConstraint M_word M_size M_number M_firstOne M_node M_parent_90 M_rule M_child M_proof M_witness M_witnessSize M_built M_copyRow) H := by rw [eM_parent_90]; exact hP
        have hD : va_D A (wX12 g aM aM_text aM_now aM_trial aM_read aM_diary aM_kept aM_isKept aM_constraint aM_readConstraint aM_word aM_size aM_number aM_firstOne aM_node aM_parent aM_rule aM_child aM_proof aM_witness aM_witnessSize aM_built aM_copyRow M_length M_acts M_next M_many M_readMany M_found M_shortest M_nodes M_solved M_dropped M_fits M_proofSize M_tooLong M_text M_now M_trial M_read M_diary M_kept M_isKept M_constraint M_readConstraint M_word M_size M_number M_firstOne M_node M_parent_90 M_rule M_child M_proof M_witness M_witnessSize M_built M_copyRow) := by rw [eM_parent_90]; exact hD
        refine lv_aload_n hx hb dX12_addChild_91 rfl (lv_at hl 0 rfl) ?_
        refine va_get (D := g.1) (ci := 11) (v := .ref aM_rule) (C := RX12) (T := TX12) (N := 35) hx hb hts inBX12 hown hK hP 0 rfl rfl 22 (by decide) (hts _ wd4_218) (fun _ h9 => h9) rfl dX12_addChild_92 ?_
        refine lv_aload_n hx hb dX12_addChild_95 rfl (lv_at hl 0 rfl) ?_
        refine va_get (D := g.1) (ci := 11) (v := .int M_nodes) (C := RX12) (T := TX12) (N := 35) hx hb hts inBX12 hown hK hP 0 rfl rfl 23 (by decide) (hts _ wd4_219) (fun _ h9 => h9) rfl dX12_addChild_96 ?_
        refine lv_iload_n hx hb dX12_addChild_99 rfl (lv_at hl 2 rfl) ?_
        have hin := sti_in h
        refine va_iast hx hb hK hP hD hS 16 0 rfl rfl hin dX12_addChild_100 (fun H locs hP hD hS => ?_)
        obtain ⟨M_rule_100, eM_rule_100⟩ : ∃ y : Nat → Int32, y = upd M_rule (Int32.toNatClampNeg M_nodes) x2 := ⟨_, rfl⟩
        have h := sti_to h eM_rule_100
        have hP : va_P g.1 vwCl (wX12 g aM aM_text aM_now aM_trial aM_read aM_diary aM_kept aM_isKept aM_constraint aM_readConstraint aM_word aM_size aM_number aM_firstOne aM_node aM_parent aM_rule aM_child aM_proof aM_witness aM_witnessSize aM_built aM_copyRow M_length M_acts M_next M_many M_readMany M_found M_shortest M_nodes M_solved M_dropped M_fits M_proofSize M_tooLong M_text M_now M_trial M_read M_diary M_kept M_isKept M_constraint M_readConstraint M_word M_size M_number M_firstOne M_node M_parent_90 M_rule_100 M_child M_proof M_witness M_witnessSize M_built M_copyRow) H := by rw [eM_rule_100]; exact hP
        have hD : va_D A (wX12 g aM aM_text aM_now aM_trial aM_read aM_diary aM_kept aM_isKept aM_constraint aM_readConstraint aM_word aM_size aM_number aM_firstOne aM_node aM_parent aM_rule aM_child aM_proof aM_witness aM_witnessSize aM_built aM_copyRow M_length M_acts M_next M_many M_readMany M_found M_shortest M_nodes M_solved M_dropped M_fits M_proofSize M_tooLong M_text M_now M_trial M_read M_diary M_kept M_isKept M_constraint M_readConstraint M_word M_size M_number M_firstOne M_node M_parent_90 M_rule_100 M_child M_proof M_witness M_witnessSize M_built M_copyRow) := by rw [eM_rule_100]; exact hD
        refine lv_aload_n hx hb dX12_addChild_101 rfl (lv_at hl 0 rfl) ?_
        refine lv_aload_n hx hb dX12_addChild_102 rfl (lv_at hl 0 rfl) ?_
        refine va_get (D := g.1) (ci := 11) (v := .ref aM_child) (C := RX12) (T := TX12) (N := 35) hx hb hts inBX12 hown hK hP 0 rfl rfl 26 (by decide) (hts _ wd4_222) (fun _ h9 => h9) rfl dX12_addChild_103 ?_
        refine lv_iconst (v := (0 : Int32)) hx hb dX12_addChild_106 (by decide) ?_
        have hin := ld_in h
        refine va_iald hx hb hK hP 17 0 rfl rfl hin dX12_addChild_107 ?_
        refine lv_topi (fun t107 et107 => ?_)
        have h := ld_to h et107
        refine lv_aload_n hx hb dX12_addChild_108 rfl (lv_at hl 0 rfl) ?_
        refine va_get (D := g.1) (ci := 11) (v := .ref aM_child) (C := RX12) (T := TX12) (N := 35) hx hb hts inBX12 hown hK hP 0 rfl rfl 26 (by decide) (hts _ wd4_222) (fun _ h9 => h9) rfl dX12_addChild_109 ?_
        refine lv_iconst (v := (1 : Int32)) hx hb dX12_addChild_112 (by decide) ?_
        have hin := ld_in h
        refine va_iald hx hb hK hP 17 0 rfl rfl hin dX12_addChild_113 ?_
        refine lv_topi (fun t113 et113 => ?_)
        have h := ld_to h et113
        refine lv_iadd hx hb dX12_addChild_114 ?_
        refine lv_if_ne (tgt := 125) hx hb dX12_addChild_115 (by decide) (fun q115 => ?_) (fun q115 => ?_)
        · have h := ifF h q115
          refine lv_aload_n hx hb dX12_addChild_125 rfl (lv_at hl 0 rfl) ?_
          refine va_get (D := g.1) (ci := 11) (v := .int M_solved) (C := RX12) (T := TX12) (N := 35) hx hb hts inBX12 hown hK hP 0 rfl rfl 24 (by decide) (hts _ wd4_220) (fun _ h9 => h9) rfl dX12_addChild_126 ?_
          exact B129 M_nodes M_solved M_dropped M_fits M_node M_parent_90 M_rule_100 M_child M_solved ls H locs (lv_sub hl [0] rfl) hP hD hS h
        have h := ifT h q115
        refine lv_aload_n hx hb dX12_addChild_118 rfl (lv_at hl 0 rfl) ?_
        refine va_get (D := g.1) (ci := 11) (v := .int M_nodes) (C := RX12) (T := TX12) (N := 35) hx hb hts inBX12 hown hK hP 0 rfl rfl 23 (by decide) (hts _ wd4_219) (fun _ h9 => h9) rfl dX12_addChild_119 ?_
        refine lv_goto (tgt := 129) hx hb dX12_addChild_122 (by decide) ?_
        exact B129 M_nodes M_solved M_dropped M_fits M_node M_parent_90 M_rule_100 M_child M_nodes ls H locs (lv_sub hl [0] rfl) hP hD hS h
      have h := ifF h q52
      refine lv_aload_n hx hb dX12_addChild_55 rfl (lv_at hl 0 rfl) ?_
      refine va_get (D := g.1) (ci := 11) (v := .ref aM_node) (C := RX12) (T := TX12) (N := 35) hx hb hts inBX12 hown hK hP 0 rfl rfl 20 (by decide) (hts _ wd4_216) (fun _ h9 => h9) rfl dX12_addChild_56 ?_
      refine lv_bipush (v := (26 : Int32)) hx hb dX12_addChild_59 (by decide) ?_
      refine lv_aload_n hx hb dX12_addChild_61 rfl (lv_at hl 0 rfl) ?_
      refine va_get (D := g.1) (ci := 11) (v := .int M_nodes) (C := RX12) (T := TX12) (N := 35) hx hb hts inBX12 hown hK hP 0 rfl rfl 23 (by decide) (hts _ wd4_219) (fun _ h9 => h9) rfl dX12_addChild_62 ?_
      refine lv_imul hx hb dX12_addChild_65 ?_
      refine lv_iload_n hx hb dX12_addChild_66 rfl (lv_at hl 3 rfl) ?_
      refine lv_iadd hx hb dX12_addChild_67 ?_
      refine lv_aload_n hx hb dX12_addChild_68 rfl (lv_at hl 0 rfl) ?_
      refine va_get (D := g.1) (ci := 11) (v := .ref aM_child) (C := RX12) (T := TX12) (N := 35) hx hb hts inBX12 hown hK hP 0 rfl rfl 26 (by decide) (hts _ wd4_222) (fun _ h9 => h9) rfl dX12_addChild_69 ?_
      refine lv_iload_n hx hb dX12_addChild_72 rfl (lv_at hl 3 rfl) ?_
      have hin := ld_in h
      refine va_iald hx hb hK hP 17 0 rfl rfl hin dX12_addChild_73 ?_
      refine lv_topi (fun t73 et73 => ?_)
      have h := ld_to h et73
      have hin := sti_in h
      refine va_iast hx hb hK hP hD hS 14 0 rfl rfl hin dX12_addChild_74 (fun H locs hP hD hS => ?_)
      obtain ⟨M_node_74, eM_node_74⟩ : ∃ y : Nat → Int32, y = upd M_node (Int32.toNatClampNeg (((26 : Int32) * M_nodes) + v3)) t73 := ⟨_, rfl⟩
      have h := sti_to h eM_node_74
      have hP : va_P g.1 vwCl (wX12 g aM aM_text aM_now aM_trial aM_read aM_diary aM_kept aM_isKept aM_constraint aM_readConstraint aM_word aM_size aM_number aM_firstOne aM_node aM_parent aM_rule aM_child aM_proof aM_witness aM_witnessSize aM_built aM_copyRow M_length M_acts M_next M_many M_readMany M_found M_shortest M_nodes M_solved M_dropped M_fits M_proofSize M_tooLong M_text M_now M_trial M_read M_diary M_kept M_isKept M_constraint M_readConstraint M_word M_size M_number M_firstOne M_node_74 M_parent M_rule M_child M_proof M_witness M_witnessSize M_built M_copyRow) H := by rw [eM_node_74]; exact hP
      have hD : va_D A (wX12 g aM aM_text aM_now aM_trial aM_read aM_diary aM_kept aM_isKept aM_constraint aM_readConstraint aM_word aM_size aM_number aM_firstOne aM_node aM_parent aM_rule aM_child aM_proof aM_witness aM_witnessSize aM_built aM_copyRow M_length M_acts M_next M_many M_readMany M_found M_shortest M_nodes M_solved M_dropped M_fits M_proofSize M_tooLong M_text M_now M_trial M_read M_diary M_kept M_isKept M_constraint M_readConstraint M_word M_size M_number M_firstOne M_node_74 M_parent M_rule M_child M_proof M_witness M_witnessSize M_built M_copyRow) := by rw [eM_node_74]; exact hD
      obtain ⟨t75, et75⟩ : ∃ y : Int32, y = v3 + (1 : Int32) := ⟨_, rfl⟩
      refine lv_iinc (v := t75) (lv' := [(3, .int t75), (0, .ref aM), (1, .int x1), (2, .int x2)]) hx hb dX12_addChild_75 hl (k := 3) rfl (by rw [et75]; rfl) (by decide) rfl (fun ls hl => ?_)
      have h := st_to h et75
      refine lv_goto (tgt := 49) hx hb dX12_addChild_78 (by decide) ?_
      exact ih49 M_nodes M_solved M_dropped M_fits M_node_74 M_parent M_rule M_child t75 ls H locs (lv_sub hl [1, 2, 3, 0] rfl) hP hD hS h
  have hl : lv_has ls 4 [(0, .ref aM), (1, .int x1), (2, .int x2)] := hl
  obtain ⟨H, hH⟩ : ∃ H, H = s.heap := ⟨_, rfl⟩
  obtain ⟨locs, hlocs⟩ : ∃ l : List Loc, l = [] := ⟨_, rfl⟩
  rw [show W p l e rmX12_addChild s m ([.ref aM, .int x1, .int x2] : List Value).toArray below meth c s.heap [] 0 0 QQ (F0 m 0 ls []) = W p l e rmX12_addChild s m ([.ref aM, .int x1, .int x2] : List Value).toArray below meth c H locs 0 0 QQ (F0 m 0 ls []) by rw [hH, hlocs]]
  have hP : va_P g.1 vwCl (wX12 g aM aM_text aM_now aM_trial aM_read aM_diary aM_kept aM_isKept aM_constraint aM_readConstraint aM_word aM_size aM_number aM_firstOne aM_node aM_parent aM_rule aM_child aM_proof aM_witness aM_witnessSize aM_built aM_copyRow M_length M_acts M_next M_many M_readMany M_found M_shortest M_nodes M_solved M_dropped M_fits M_proofSize M_tooLong M_text M_now M_trial M_read M_diary M_kept M_isKept M_constraint M_readConstraint M_word M_size M_number M_firstOne M_node M_parent M_rule M_child M_proof M_witness M_witnessSize M_built M_copyRow) H := by rw [hH]; exact hP
  have hD : va_D A (wX12 g aM aM_text aM_now aM_trial aM_read aM_diary aM_kept aM_isKept aM_constraint aM_readConstraint aM_word aM_size aM_number aM_firstOne aM_node aM_parent aM_rule aM_child aM_proof aM_witness aM_witnessSize aM_built aM_copyRow M_length M_acts M_next M_many M_readMany M_found M_shortest M_nodes M_solved M_dropped M_fits M_proofSize M_tooLong M_text M_now M_trial M_read M_diary M_kept M_isKept M_constraint M_readConstraint M_word M_size M_number M_firstOne M_node M_parent M_rule M_child M_proof M_witness M_witnessSize M_built M_copyRow) := hD
  have hS : va_S A s.heap H locs := by rw [hH, hlocs]; exact hS
  clear hH hlocs
  refine lv_aload_n hx hb dX12_addChild_0 rfl (lv_at hl 0 rfl) ?_
  refine lv_iload_n hx hb dX12_addChild_1 rfl (lv_at hl 2 rfl) ?_
  obtain ⟨M_fits_2, M_child_2, hc2, h⟩ := bd2_to h
  refine go_A (st1 := []) (run_V (As := [.int x2]) (rest := []) X hS (mX12_layChild g l  aM aM_text aM_now aM_trial aM_read aM_diary aM_kept aM_isKept aM_constraint aM_readConstraint aM_word aM_size aM_number aM_firstOne aM_node aM_parent aM_rule aM_child aM_proof aM_witness aM_witnessSize aM_built aM_copyRow M_length M_acts M_next M_many M_readMany M_found M_shortest M_nodes M_solved M_dropped M_fits M_proofSize M_tooLong M_text M_now M_trial M_read M_diary M_kept M_isKept M_constraint M_readConstraint M_word M_size M_number M_firstOne M_node M_parent M_rule M_child M_proof M_witness M_witnessSize M_built M_copyRow x2 M_fits_2 M_child_2 hc2) okX12_layChild wd6_1 ⟨Nat.le_of_ble_eq_true rfl, Nat.le_of_ble_eq_true rfl⟩ ⟨rfl, rfl⟩ (va_recv hK hP (ci := 11) (q0 := 0) rfl rfl) hP hD (all_F hS hA hD) rfl hl.1 rfl (Nat.le_of_ble_eq_true rfl) dX12_addChild_2 ⟨Nat.zero_le _, Nat.zero_le _⟩) hS (all_F hS hA hD) rfl (fun H locs hP hD hS => ?_)
  refine lv_aload_n hx hb dX12_addChild_5 rfl (lv_at hl 0 rfl) ?_
  refine va_get (D := g.1) (ci := 11) (v := .int M_fits_2) (C := RX12) (T := TX12) (N := 35) hx hb hts inBX12 hown hK hP 0 rfl rfl 27 (by decide) (hts _ wd4_223) (fun _ h9 => h9) rfl dX12_addChild_6 ?_
  refine lv_if_ne (tgt := 20) hx hb dX12_addChild_9 (by decide) (fun q9 => ?_) (fun q9 => ?_)
  · have h := ifF h q9
    refine lv_aload_n hx hb dX12_addChild_20 rfl (lv_at hl 0 rfl) ?_
    obtain ⟨t21, hc21, h⟩ := bd1_to h
    refine go_A (st1 := [.int t21]) (run_V (As := []) (rest := []) X hS (mX12_sameNode g l  aM aM_text aM_now aM_trial aM_read aM_diary aM_kept aM_isKept aM_constraint aM_readConstraint aM_word aM_size aM_number aM_firstOne aM_node aM_parent aM_rule aM_child aM_proof aM_witness aM_witnessSize aM_built aM_copyRow M_length M_acts M_next M_many M_readMany M_found M_shortest M_nodes M_solved M_dropped M_fits_2 M_proofSize M_tooLong M_text M_now M_trial M_read M_diary M_kept M_isKept M_constraint M_readConstraint M_word M_size M_number M_firstOne M_node M_parent M_rule M_child_2 M_proof M_witness M_witnessSize M_built M_copyRow t21 hc21) okX12_sameNode wd6_6 ⟨Nat.le_of_ble_eq_true rfl, Nat.le_of_ble_eq_true rfl⟩ ⟨rfl, rfl⟩ (va_recv hK hP (ci := 11) (q0 := 0) rfl rfl) hP hD (all_F hS hA hD) rfl hl.1 rfl (Nat.le_of_ble_eq_true rfl) dX12_addChild_21 ⟨Nat.zero_le _, Nat.zero_le _⟩) hS (all_F hS hA hD) rfl (fun H locs hP hD hS => ?_)
    refine lv_bipush (v := ((-9) : Int32)) hx hb dX12_addChild_24 (by decide) ?_
    refine lv_icmp_ne (tgt := 142) hx hb dX12_addChild_26 (by decide) (fun q26 => ?_) (fun q26 => ?_)
    · have h := ifF h q26
      have h : some (M_nodes, M_solved, M_dropped, M_fits_2, M_node, M_parent, M_rule, M_child_2) = some (M_nodes_o, M_solved_o, M_dropped_o, M_fits_o, M_node_o, M_parent_o, M_rule_o, M_child_o) := h
      cases h
      exact hret _ _ _ _ hP hD hS dX12_addChild_142
    have h := ifT h q26
    refine lv_aload_n hx hb dX12_addChild_29 rfl (lv_at hl 0 rfl) ?_
    refine va_get (D := g.1) (ci := 11) (v := .int M_nodes) (C := RX12) (T := TX12) (N := 35) hx hb hts inBX12 hown hK hP 0 rfl rfl 23 (by decide) (hts _ wd4_219) (fun _ h9 => h9) rfl dX12_addChild_30 ?_
    refine lv_sipush (v := (200 : Int32)) hx hb dX12_addChild_33 (by decide) ?_
    refine lv_icmp_ne (tgt := 47) hx hb dX12_addChild_36 (by decide) (fun q36 => ?_) (fun q36 => ?_)
    · have h := ifF h q36
      refine lv_iconst (v := (0 : Int32)) hx hb dX12_addChild_47 (by decide) ?_
      refine lv_istore_n (lv' := [(3, .int (0 : Int32)), (0, .ref aM), (1, .int x1), (2, .int x2)]) hx hb dX12_addChild_48 rfl hl (by decide) rfl (fun ls hl => ?_)
      exact L49 FU M_nodes M_solved M_dropped M_fits_2 M_node M_parent M_rule M_child_2 (0 : Int32) ls H locs (lv_sub hl [1, 2, 3, 0] rfl) hP hD hS h
    have h := ifT h q36
    refine lv_aload_n hx hb dX12_addChild_39 rfl (lv_at hl 0 rfl) ?_
    refine lv_iconst (v := (1 : Int32)) hx hb dX12_addChild_40 (by decide) ?_
    refine va_put (D := g.1) (ci := 11) (v := .int (1 : Int32)) (ty := .boolean) (C := RX12) (T := TX12) (N := 35) hx hb hts inBX12 tyX12 tyX12_ok nmX12 hown hK hP hD hS 0 rfl rfl 25 (by decide) (hts _ wd4_221) (fun _ h9 => h9) rfl (tyX12_ok 25 (by decide)) rfl rfl (Nat.le_of_ble_eq_true rfl) dX12_addChild_41 (fun H locs hP hD hS => ?_)
    have hP : va_P g.1 vwCl (wX12 g aM aM_text aM_now aM_trial aM_read aM_diary aM_kept aM_isKept aM_constraint aM_readConstraint aM_word aM_size aM_number aM_firstOne aM_node aM_parent aM_rule aM_child aM_proof aM_witness aM_witnessSize aM_built aM_copyRow M_length M_acts M_next M_many M_readMany M_found M_shortest M_nodes M_solved (1 : Int32) M_fits_2 M_proofSize M_tooLong M_text M_now M_trial M_read M_diary M_kept M_isKept M_constraint M_readConstraint M_word M_size M_number M_firstOne M_node M_parent M_rule M_child_2 M_proof M_witness M_witnessSize M_built M_copyRow) H := hP
    have hD : va_D A (wX12 g aM aM_text aM_now aM_trial aM_read aM_diary aM_kept aM_isKept aM_constraint aM_readConstraint aM_word aM_size aM_number aM_firstOne aM_node aM_parent aM_rule aM_child aM_proof aM_witness aM_witnessSize aM_built aM_copyRow M_length M_acts M_next M_many M_readMany M_found M_shortest M_nodes M_solved (1 : Int32) M_fits_2 M_proofSize M_tooLong M_text M_now M_trial M_read M_diary M_kept M_isKept M_constraint M_readConstraint M_word M_size M_number M_firstOne M_node M_parent M_rule M_child_2 M_proof M_witness M_witnessSize M_built M_copyRow) := hD
    refine lv_goto (tgt := 142) hx hb dX12_addChild_44 (by decide) ?_
    have h : some (M_nodes, M_solved, (1 : Int32), M_fits_2, M_node, M_parent, M_rule, M_child_2) = some (M_nodes_o, M_solved_o, M_dropped_o, M_fits_o, M_node_o, M_parent_o, M_rule_o, M_child_o) := h
    cases h
    exact hret _ _ _ _ hP hD hS dX12_addChild_142
  have h := ifT h q9
  refine lv_aload_n hx hb dX12_addChild_12 rfl (lv_at hl 0 rfl) ?_
  refine lv_iconst (v := (1 : Int32)) hx hb dX12_addChild_13 (by decide) ?_
  refine va_put (D := g.1) (ci := 11) (v := .int (1 : Int32)) (ty := .boolean) (C := RX12) (T := TX12) (N := 35) hx hb hts inBX12 tyX12 tyX12_ok nmX12 hown hK hP hD hS 0 rfl rfl 25 (by decide) (hts _ wd4_221) (fun _ h9 => h9) rfl (tyX12_ok 25 (by decide)) rfl rfl (Nat.le_of_ble_eq_true rfl) dX12_addChild_14 (fun H locs hP hD hS => ?_)
  have hP : va_P g.1 vwCl (wX12 g aM aM_text aM_now aM_trial aM_read aM_diary aM_kept aM_isKept aM_constraint aM_readConstraint aM_word aM_size aM_number aM_firstOne aM_node aM_parent aM_rule aM_child aM_proof aM_witness aM_witnessSize aM_built aM_copyRow M_length M_acts M_next M_many M_readMany M_found M_shortest M_nodes M_solved (1 : Int32) M_fits_2 M_proofSize M_tooLong M_text M_now M_trial M_read M_diary M_kept M_isKept M_constraint M_readConstraint M_word M_size M_number M_firstOne M_node M_parent M_rule M_child_2 M_proof M_witness M_witnessSize M_built M_copyRow) H := hP
  have hD : va_D A (wX12 g aM aM_text aM_now aM_trial aM_read aM_diary aM_kept aM_isKept aM_constraint aM_readConstraint aM_word aM_size aM_number aM_firstOne aM_node aM_parent aM_rule aM_child aM_proof aM_witness aM_witnessSize aM_built aM_copyRow M_length M_acts M_next M_many M_readMany M_found M_shortest M_nodes M_solved (1 : Int32) M_fits_2 M_proofSize M_tooLong M_text M_now M_trial M_read M_diary M_kept M_isKept M_constraint M_readConstraint M_word M_size M_number M_firstOne M_node M_parent M_rule M_child_2 M_proof M_witness M_witnessSize M_built M_copyRow) := hD
  refine lv_goto (tgt := 142) hx hb dX12_addChild_17 (by decide) ?_
  have h : some (M_nodes, M_solved, (1 : Int32), M_fits_2, M_node, M_parent, M_rule, M_child_2) = some (M_nodes_o, M_solved_o, M_dropped_o, M_fits_o, M_node_o, M_parent_o, M_rule_o, M_child_o) := h
  cases h
  exact hret _ _ _ _ hP hD hS dX12_addChild_142
set_option maxHeartbeats 4000000 in
set_option maxRecDepth 100000 in
theorem mX12_search_copyRow (g : GP) (l : Launch) (aM aM_text aM_now aM_trial aM_read aM_diary aM_kept aM_isKept aM_constraint aM_readConstraint aM_word aM_size aM_number aM_firstOne aM_node aM_parent aM_rule aM_child aM_proof aM_witness aM_witnessSize aM_built aM_copyRow : Nat) (M_length : Int32) (M_acts : Int32) (M_next : Int32) (M_many : Int32) (M_readMany : Int32) (M_found : Int32) (M_shortest : Int32) (M_nodes : Int32) (M_solved : Int32) (M_dropped : Int32) (M_fits : Int32) (M_proofSize : Int32) (M_tooLong : Int32) (M_text : Nat → Int32) (M_now : Nat → Int32) (M_trial : Nat → Int32) (M_read : Nat → Int32) (M_diary : Nat → Int32) (M_kept : Nat → Int32) (M_isKept : Nat → Int32) (M_constraint : Nat → Int32) (M_readConstraint : Nat → Int32) (M_word : Nat → Int32) (M_size : Nat → Int32) (M_number : Nat → Int32) (M_firstOne : Nat → Int32) (M_node : Nat → Int32) (M_parent : Nat → Int32) (M_rule : Nat → Int32) (M_child : Nat → Int32) (M_proof : Nat → Int32) (M_witness : Nat → Int32) (M_witnessSize : Nat → Int32) (M_built : Nat → Int32) (M_copyRow : Nat → Int32)  (r : Int32) (M_nodes_o : Int32) (M_solved_o : Int32) (M_dropped_o : Int32) (M_fits_o : Int32) (M_trial_o : Nat → Int32) (M_node_o : Nat → Int32) (M_parent_o : Nat → Int32) (M_rule_o : Nat → Int32) (M_child_o : Nat → Int32) (h : fM_search M_fits M_trial M_node M_parent M_rule M_child M_copyRow = some (r, M_nodes_o, M_solved_o, M_dropped_o, M_fits_o, M_trial_o, M_node_o, M_parent_o, M_rule_o, M_child_o)) : Ct g l yX12_search cX12_search 4 (some .int) rmX12_search [.ref aM, .ref aM_copyRow] (wX12 g aM aM_text aM_now aM_trial aM_read aM_diary aM_kept aM_isKept aM_constraint aM_readConstraint aM_word aM_size aM_number aM_firstOne aM_node aM_parent aM_rule aM_child aM_proof aM_witness aM_witnessSize aM_built aM_copyRow M_length M_acts M_next M_many M_readMany M_found M_shortest M_nodes M_solved M_dropped M_fits M_proofSize M_tooLong M_text M_now M_trial M_read M_diary M_kept M_isKept M_constraint M_readConstraint M_word M_size M_number M_firstOne M_node M_parent M_rule M_child M_proof M_witness M_witnessSize M_built M_copyRow) (some (.int r)) (wX12 g aM aM_text aM_now aM_trial aM_read aM_diary aM_kept aM_isKept aM_constraint aM_readConstraint aM_word aM_size aM_number aM_firstOne aM_node aM_parent aM_rule aM_child aM_proof aM_witness aM_witnessSize aM_built aM_copyRow M_length M_acts M_next M_many M_readMany M_found M_shortest M_nodes_o M_solved_o M_dropped_o M_fits_o M_proofSize M_tooLong M_text M_now M_trial_o M_read M_diary M_kept M_isKept M_constraint M_readConstraint M_word M_size M_number M_firstOne M_node_o M_parent_o M_rule_o M_child_o M_proof M_witness M_witnessSize M_built M_copyRow) := by
  refine Ct.introI (by decide) (Nat.le_of_ble_eq_true rfl) ?_
  intro p e s m below meth c A QQ ls hyp hret
  obtain ⟨hx, hb, hml, hts, hown, hA, hE, hP, hD, hl⟩ := hyp
  have hK := hE.1
  have hS : va_S A s.heap s.heap [] := va_S.rf
  have X : Here g p s m c cX12_search 4 ([.ref aM, .ref aM_copyRow] : List Value).toArray RX12 A := ⟨⟨hx, hb, hml, hown, hts⟩, hE, hA⟩
  have B131 : ∀ (M_nodes : Int32) (M_solved : Int32) (M_dropped : Int32) (M_fits : Int32) (M_trial : Nat → Int32) (M_node : Nat → Int32) (M_parent : Nat → Int32) (M_rule : Nat → Int32) (M_child : Nat → Int32) (ls : Array Slot) (H : Heap) (locs : List Loc), lv_has ls 4 [(0, .ref aM)] → va_P g.1 vwCl (wX12 g aM aM_text aM_now aM_trial aM_read aM_diary aM_kept aM_isKept aM_constraint aM_readConstraint aM_word aM_size aM_number aM_firstOne aM_node aM_parent aM_rule aM_child aM_proof aM_witness aM_witnessSize aM_built aM_copyRow M_length M_acts M_next M_many M_readMany M_found M_shortest M_nodes M_solved M_dropped M_fits M_proofSize M_tooLong M_text M_now M_trial M_read M_diary M_kept M_isKept M_constraint M_readConstraint M_word M_size M_number M_firstOne M_node M_parent M_rule M_child M_proof M_witness M_witnessSize M_built M_copyRow) H → va_D A (wX12 g aM aM_text aM_now aM_trial aM_read aM_diary aM_kept aM_isKept aM_constraint aM_readConstraint aM_word aM_size aM_number aM_firstOne aM_node aM_parent aM_rule aM_child aM_proof aM_witness aM_witnessSize aM_built aM_copyRow M_length M_acts M_next M_many M_readMany M_found M_shortest M_nodes M_solved M_dropped M_fits M_proofSize M_tooLong M_text M_now M_trial M_read M_diary M_kept M_isKept M_constraint M_readConstraint M_word M_size M_number M_firstOne M_node M_parent M_rule M_child M_proof M_witness M_witnessSize M_built M_copyRow) → va_S A s.heap H locs → fM_search_131 M_nodes M_solved M_dropped M_fits M_trial M_node M_parent M_rule M_child = some (r, M_nodes_o, M_solved_o, M_dropped_o, M_fits_o, M_trial_o, M_node_o, M_parent_o, M_rule_o, M_child_o) → W p l e rmX12_search s m ([.ref aM, .ref aM_copyRow] : List Value).toArray below meth c H locs 0 0 QQ (F0 m 131 ls []) := by
    intro M_nodes M_solved M_dropped M_fits M_trial M_node M_parent M_rule M_child ls H locs hl hP hD hS h
    refine lv_aload_n hx hb dX12_search_131 rfl (lv_at hl 0 rfl) ?_
    refine va_get (D := g.1) (ci := 11) (v := .int M_solved) (C := RX12) (T := TX12) (N := 35) hx hb hts inBX12 hown hK hP 0 rfl rfl 24 (by decide) (hts _ wd4_220) (fun _ h9 => h9) rfl dX12_search_132 ?_
    refine lv_bipush (v := ((-9) : Int32)) hx hb dX12_search_135 (by decide) ?_
    refine lv_icmp_eq (tgt := 144) hx hb dX12_search_137 (by decide) (fun q137 => ?_) (fun q137 => ?_)
    · have h := ifT h q137
      refine lv_aload_n hx hb dX12_search_144 rfl (lv_at hl 0 rfl) ?_
      refine va_get (D := g.1) (ci := 11) (v := .int M_dropped) (C := RX12) (T := TX12) (N := 35) hx hb hts inBX12 hown hK hP 0 rfl rfl 25 (by decide) (hts _ wd4_221) (fun _ h9 => h9) rfl dX12_search_145 ?_
      refine lv_if_eq (tgt := 155) hx hb dX12_search_148 (by decide) (fun q148 => ?_) (fun q148 => ?_)
      · have h := ifT h q148
        refine lv_iconst (v := (0 : Int32)) hx hb dX12_search_155 (by decide) ?_
        have h : some ((0 : Int32), M_nodes, M_solved, M_dropped, M_fits, M_trial, M_node, M_parent, M_rule, M_child) = some (r, M_nodes_o, M_solved_o, M_dropped_o, M_fits_o, M_trial_o, M_node_o, M_parent_o, M_rule_o, M_child_o) := h
        cases h
        exact hret _ _ _ _ hP hD hS dX12_search_156
      have h := ifF h q148
      refine lv_iconst (v := (2 : Int32)) hx hb dX12_search_151 (by decide) ?_
      refine lv_goto (tgt := 156) hx hb dX12_search_152 (by decide) ?_
      have h : some ((2 : Int32), M_nodes, M_solved, M_dropped, M_fits, M_trial, M_node, M_parent, M_rule, M_child) = some (r, M_nodes_o, M_solved_o, M_dropped_o, M_fits_o, M_trial_o, M_node_o, M_parent_o, M_rule_o, M_child_o) := h
      cases h
      exact hret _ _ _ _ hP hD hS dX12_search_156
    have h := ifF h q137
    refine lv_iconst (v := (1 : Int32)) hx hb dX12_search_140 (by decide) ?_
    refine lv_goto (tgt := 156) hx hb dX12_search_141 (by decide) ?_
    have h : some ((1 : Int32), M_nodes, M_solved, M_dropped, M_fits, M_trial, M_node, M_parent, M_rule, M_child) = some (r, M_nodes_o, M_solved_o, M_dropped_o, M_fits_o, M_trial_o, M_node_o, M_parent_o, M_rule_o, M_child_o) := h
    cases h
    exact hret _ _ _ _ hP hD hS dX12_search_156
  have L63 : ∀ (n63 : Nat), ∀ (M_nodes : Int32) (M_solved : Int32) (M_dropped : Int32) (M_fits : Int32) (M_trial : Nat → Int32) (M_node : Nat → Int32) (M_parent : Nat → Int32) (M_rule : Nat → Int32) (M_child : Nat → Int32) (v2 : Int32) (ls : Array Slot) (H : Heap) (locs : List Loc), lv_has ls 4 [(0, .ref aM), (2, .int v2)] → va_P g.1 vwCl (wX12 g aM aM_text aM_now aM_trial aM_read aM_diary aM_kept aM_isKept aM_constraint aM_readConstraint aM_word aM_size aM_number aM_firstOne aM_node aM_parent aM_rule aM_child aM_proof aM_witness aM_witnessSize aM_built aM_copyRow M_length M_acts M_next M_many M_readMany M_found M_shortest M_nodes M_solved M_dropped M_fits M_proofSize M_tooLong M_text M_now M_trial M_read M_diary M_kept M_isKept M_constraint M_readConstraint M_word M_size M_number M_firstOne M_node M_parent M_rule M_child M_proof M_witness M_witnessSize M_built M_copyRow) H → va_D A (wX12 g aM aM_text aM_now aM_trial aM_read aM_diary aM_kept aM_isKept aM_constraint aM_readConstraint aM_word aM_size aM_number aM_firstOne aM_node aM_parent aM_rule aM_child aM_proof aM_witness aM_witnessSize aM_built aM_copyRow M_length M_acts M_next M_many M_readMany M_found M_shortest M_nodes M_solved M_dropped M_fits M_proofSize M_tooLong M_text M_now M_trial M_read M_diary M_kept M_isKept M_constraint M_readConstraint M_word M_size M_number M_firstOne M_node M_parent M_rule M_child M_proof M_witness M_witnessSize M_built M_copyRow) → va_S A s.heap H locs → fx10 (fM_search_63) n63 M_nodes M_solved M_dropped M_fits M_trial M_node M_parent M_rule M_child v2 = some (r, M_nodes_o, M_solved_o, M_dropped_o, M_fits_o, M_trial_o, M_node_o, M_parent_o, M_rule_o, M_child_o) → W p l e rmX12_search s m ([.ref aM, .ref aM_copyRow] : List Value).toArray below meth c H locs 0 0 QQ (F0 m 63 ls []) := by
    intro n63
    induction n63 with
    | zero => intro M_nodes M_solved M_dropped M_fits M_trial M_node M_parent M_rule M_child v2 ls H locs hl hP hD hS h; exact fx10_0 h
    | succ n63 ih63 =>
      intro M_nodes M_solved M_dropped M_fits M_trial M_node M_parent M_rule M_child v2 ls H locs hl hP hD hS h
      have h := (fx10_s (fM_search_63) n63 M_nodes M_solved M_dropped M_fits M_trial M_node M_parent M_rule M_child v2).symm.trans h
      have L91 : ∀ (n91 : Nat), ∀ (M_nodes : Int32) (M_solved : Int32) (M_dropped : Int32) (M_fits : Int32) (M_trial : Nat → Int32) (M_node : Nat → Int32) (M_parent : Nat → Int32) (M_rule : Nat → Int32) (M_child : Nat → Int32) (v2 : Int32) (v3 : Int32) (ls : Array Slot) (H : Heap) (locs : List Loc), lv_has ls 4 [(0, .ref aM), (2, .int v2), (3, .int v3)] → va_P g.1 vwCl (wX12 g aM aM_text aM_now aM_trial aM_read aM_diary aM_kept aM_isKept aM_constraint aM_readConstraint aM_word aM_size aM_number aM_firstOne aM_node aM_parent aM_rule aM_child aM_proof aM_witness aM_witnessSize aM_built aM_copyRow M_length M_acts M_next M_many M_readMany M_found M_shortest M_nodes M_solved M_dropped M_fits M_proofSize M_tooLong M_text M_now M_trial M_read M_diary M_kept M_isKept M_constraint M_readConstraint M_word M_size M_number M_firstOne M_node M_parent M_rule M_child M_proof M_witness M_witnessSize M_built M_copyRow) H → va_D A (wX12 g aM aM_text aM_now aM_trial aM_read aM_diary aM_kept aM_isKept aM_constraint aM_readConstraint aM_word aM_size aM_number aM_firstOne aM_node aM_parent aM_rule aM_child aM_proof aM_witness aM_witnessSize aM_built aM_copyRow M_length M_acts M_next M_many M_readMany M_found M_shortest M_nodes M_solved M_dropped M_fits M_proofSize M_tooLong M_text M_now M_trial M_read M_diary M_kept M_isKept M_constraint M_readConstraint M_word M_size M_number M_firstOne M_node M_parent M_rule M_child M_proof M_witness M_witnessSize M_built M_copyRow) → va_S A s.heap H locs → fx9 (fM_search_91 (fx10 (fM_search_63) n63) M_trial v2) n91 M_nodes M_solved M_dropped M_fits M_node M_parent M_rule M_child v3 = some (r, M_nodes_o, M_solved_o, M_dropped_o, M_fits_o, M_trial_o, M_node_o, M_parent_o, M_rule_o, M_child_o) → W p l e rmX12_search s m ([.ref aM, .ref aM_copyRow] : List Value).toArray below meth c H locs 0 0 QQ (F0 m 91 ls []) := by
        intro n91
        induction n91 with
        | zero => intro M_nodes M_solved M_dropped M_fits M_trial M_node M_parent M_rule M_child v2 v3 ls H locs hl hP hD hS h; exact fx9_0 h
        | succ n91 ih91 =>
          intro M_nodes M_solved M_dropped M_fits M_trial M_node M_parent M_rule M_child v2 v3 ls H locs hl hP hD hS h
          have h := (fx9_s (fM_search_91 (fx10 (fM_search_63) n63) M_trial v2) n91 M_nodes M_solved M_dropped M_fits M_node M_parent M_rule M_child v3).symm.trans h
          refine lv_iload_n hx hb dX12_search_91 rfl (lv_at hl 2 rfl) ?_
          refine lv_iconst (v := (5 : Int32)) hx hb dX12_search_92 (by decide) ?_
          refine lv_icmp_ge (tgt := 125) hx hb dX12_search_93 (by decide) (fun q93 => ?_) (fun q93 => ?_)
          · have h := ifT h q93
            obtain ⟨t125, et125⟩ : ∃ y : Int32, y = v2 + (1 : Int32) := ⟨_, rfl⟩
            refine lv_iinc (v := t125) (lv' := [(2, .int t125), (0, .ref aM), (3, .int v3)]) hx hb dX12_search_125 hl (k := 1) rfl (by rw [et125]; rfl) (by decide) rfl (fun ls hl => ?_)
            have h := st_to h et125
            refine lv_goto (tgt := 63) hx hb dX12_search_128 (by decide) ?_
            exact ih63 M_nodes M_solved M_dropped M_fits M_trial M_node M_parent M_rule M_child t125 ls H locs (lv_sub hl [1, 0] rfl) hP hD hS h
          have h := ifF h q93
          refine lv_aload_n hx hb dX12_search_96 rfl (lv_at hl 0 rfl) ?_
          refine va_get (D := g.1) (ci := 11) (v := .int M_solved) (C := RX12) (T := TX12) (N := 35) hx hb hts inBX12 hown hK hP 0 rfl rfl 24 (by decide) (hts _ wd4_220) (fun _ h9 => h9) rfl dX12_search_97 ?_
          refine lv_bipush (v := ((-9) : Int32)) hx hb dX12_search_100 (by decide) ?_
          refine lv_icmp_ne (tgt := 125) hx hb dX12_search_102 (by decide) (fun q102 => ?_) (fun q102 => ?_)
          · have h := ifF h q102
            obtain ⟨t125, et125⟩ : ∃ y : Int32, y = v2 + (1 : Int32) := ⟨_, rfl⟩
            refine lv_iinc (v := t125) (lv' := [(2, .int t125), (0, .ref aM), (3, .int v3)]) hx hb dX12_search_125 hl (k := 1) rfl (by rw [et125]; rfl) (by decide) rfl (fun ls hl => ?_)
            have h := st_to h et125
            refine lv_goto (tgt := 63) hx hb dX12_search_128 (by decide) ?_
            exact ih63 M_nodes M_solved M_dropped M_fits M_trial M_node M_parent M_rule M_child t125 ls H locs (lv_sub hl [1, 0] rfl) hP hD hS h
          have h := ifT h q102
          refine lv_aload_n hx hb dX12_search_105 rfl (lv_at hl 0 rfl) ?_
          refine lv_iload_n hx hb dX12_search_106 rfl (lv_at hl 2 rfl) ?_
          obtain ⟨t107, hc107, h⟩ := bd1_to h
          refine go_A (st1 := [.int t107]) (run_V (As := [.int v3]) (rest := []) X hS (mX12_applies g l  aM aM_text aM_now aM_trial aM_read aM_diary aM_kept aM_isKept aM_constraint aM_readConstraint aM_word aM_size aM_number aM_firstOne aM_node aM_parent aM_rule aM_child aM_proof aM_witness aM_witnessSize aM_built aM_copyRow M_length M_acts M_next M_many M_readMany M_found M_shortest M_nodes M_solved M_dropped M_fits M_proofSize M_tooLong M_text M_now M_trial M_read M_diary M_kept M_isKept M_constraint M_readConstraint M_word M_size M_number M_firstOne M_node M_parent M_rule M_child M_proof M_witness M_witnessSize M_built M_copyRow v3 t107 hc107) okX12_applies wd5_233 ⟨Nat.le_of_ble_eq_true rfl, Nat.le_of_ble_eq_true rfl⟩ ⟨rfl, rfl⟩ (va_recv hK hP (ci := 11) (q0 := 0) rfl rfl) hP hD (all_F hS hA hD) rfl hl.1 rfl (Nat.le_of_ble_eq_true rfl) dX12_search_107 ⟨Nat.zero_le _, Nat.zero_le _⟩) hS (all_F hS hA hD) rfl (fun H locs hP hD hS => ?_)
          refine lv_if_eq (tgt := 119) hx hb dX12_search_110 (by decide) (fun q110 => ?_) (fun q110 => ?_)
          · have h := ifT h q110
            obtain ⟨t119, et119⟩ : ∃ y : Int32, y = v3 + (1 : Int32) := ⟨_, rfl⟩
            refine lv_iinc (v := t119) (lv' := [(3, .int t119), (0, .ref aM), (2, .int v2)]) hx hb dX12_search_119 hl (k := 2) rfl (by rw [et119]; rfl) (by decide) rfl (fun ls hl => ?_)
            have h := st_to h et119
            refine lv_goto (tgt := 91) hx hb dX12_search_122 (by decide) ?_
            exact ih91 M_nodes M_solved M_dropped M_fits M_trial M_node M_parent M_rule M_child v2 t119 ls H locs (lv_sub hl [1, 2, 0] rfl) hP hD hS h
          have h := ifF h q110
          refine lv_aload_n hx hb dX12_search_113 rfl (lv_at hl 0 rfl) ?_
          refine lv_iload_n hx hb dX12_search_114 rfl (lv_at hl 1 rfl) ?_
          refine lv_iload_n hx hb dX12_search_115 rfl (lv_at hl 2 rfl) ?_
          obtain ⟨M_nodes_116, M_solved_116, M_dropped_116, M_fits_116, M_node_116, M_parent_116, M_rule_116, M_child_116, hc116, h⟩ := bd8_to h
          refine go_A (st1 := []) (run_V (As := [.int v2, .int v3]) (rest := []) X hS (mX12_addChild g l  aM aM_text aM_now aM_trial aM_read aM_diary aM_kept aM_isKept aM_constraint aM_readConstraint aM_word aM_size aM_number aM_firstOne aM_node aM_parent aM_rule aM_child aM_proof aM_witness aM_witnessSize aM_built aM_copyRow M_length M_acts M_next M_many M_readMany M_found M_shortest M_nodes M_solved M_dropped M_fits M_proofSize M_tooLong M_text M_now M_trial M_read M_diary M_kept M_isKept M_constraint M_readConstraint M_word M_size M_number M_firstOne M_node M_parent M_rule M_child M_proof M_witness M_witnessSize M_built M_copyRow v2 v3 M_nodes_116 M_solved_116 M_dropped_116 M_fits_116 M_node_116 M_parent_116 M_rule_116 M_child_116 hc116) okX12_addChild wd5_237 ⟨Nat.le_of_ble_eq_true rfl, Nat.le_of_ble_eq_true rfl⟩ ⟨rfl, rfl⟩ (va_recv hK hP (ci := 11) (q0 := 0) rfl rfl) hP hD (all_F hS hA hD) rfl hl.1 rfl (Nat.le_of_ble_eq_true rfl) dX12_search_116 ⟨Nat.zero_le _, Nat.zero_le _⟩) hS (all_F hS hA hD) rfl (fun H locs hP hD hS => ?_)
          obtain ⟨t119, et119⟩ : ∃ y : Int32, y = v3 + (1 : Int32) := ⟨_, rfl⟩
          refine lv_iinc (v := t119) (lv' := [(3, .int t119), (0, .ref aM), (2, .int v2)]) hx hb dX12_search_119 hl (k := 2) rfl (by rw [et119]; rfl) (by decide) rfl (fun ls hl => ?_)
          have h := st_to h et119
          refine lv_goto (tgt := 91) hx hb dX12_search_122 (by decide) ?_
          exact ih91 M_nodes_116 M_solved_116 M_dropped_116 M_fits_116 M_trial M_node_116 M_parent_116 M_rule_116 M_child_116 v2 t119 ls H locs (lv_sub hl [1, 2, 0] rfl) hP hD hS h
      refine lv_iload_n hx hb dX12_search_63 rfl (lv_at hl 1 rfl) ?_
      refine lv_aload_n hx hb dX12_search_64 rfl (lv_at hl 0 rfl) ?_
      refine va_get (D := g.1) (ci := 11) (v := .int M_nodes) (C := RX12) (T := TX12) (N := 35) hx hb hts inBX12 hown hK hP 0 rfl rfl 23 (by decide) (hts _ wd4_219) (fun _ h9 => h9) rfl dX12_search_65 ?_
      refine lv_icmp_ge (tgt := 131) hx hb dX12_search_68 (by decide) (fun q68 => ?_) (fun q68 => ?_)
      · have h := ifT h q68
        exact B131 M_nodes M_solved M_dropped M_fits M_trial M_node M_parent M_rule M_child ls H locs (lv_sub hl [0] rfl) hP hD hS h
      have h := ifF h q68
      refine lv_aload_n hx hb dX12_search_71 rfl (lv_at hl 0 rfl) ?_
      refine va_get (D := g.1) (ci := 11) (v := .int M_solved) (C := RX12) (T := TX12) (N := 35) hx hb hts inBX12 hown hK hP 0 rfl rfl 24 (by decide) (hts _ wd4_220) (fun _ h9 => h9) rfl dX12_search_72 ?_
      refine lv_bipush (v := ((-9) : Int32)) hx hb dX12_search_75 (by decide) ?_
      refine lv_icmp_ne (tgt := 131) hx hb dX12_search_77 (by decide) (fun q77 => ?_) (fun q77 => ?_)
      · have h := ifF h q77
        exact B131 M_nodes M_solved M_dropped M_fits M_trial M_node M_parent M_rule M_child ls H locs (lv_sub hl [0] rfl) hP hD hS h
      have h := ifT h q77
      refine lv_aload_n hx hb dX12_search_80 rfl (lv_at hl 0 rfl) ?_
      refine lv_iload_n hx hb dX12_search_81 rfl (lv_at hl 1 rfl) ?_
      refine lv_aload_n hx hb dX12_search_82 rfl (lv_at hl 0 rfl) ?_
      refine va_get (D := g.1) (ci := 11) (v := .ref aM_trial) (C := RX12) (T := TX12) (N := 35) hx hb hts inBX12 hown hK hP 0 rfl rfl 3 (by decide) (hts _ wd4_199) (fun _ h9 => h9) rfl dX12_search_83 ?_
      obtain ⟨M_trial_86, hc86, h⟩ := bd1_to h
      refine go_A (st1 := []) (run_V (As := [.int v2, .ref aM_trial]) (rest := []) X hS (mX12_layNode_trial g l  aM aM_text aM_now aM_trial aM_read aM_diary aM_kept aM_isKept aM_constraint aM_readConstraint aM_word aM_size aM_number aM_firstOne aM_node aM_parent aM_rule aM_child aM_proof aM_witness aM_witnessSize aM_built aM_copyRow M_length M_acts M_next M_many M_readMany M_found M_shortest M_nodes M_solved M_dropped M_fits M_proofSize M_tooLong M_text M_now M_trial M_read M_diary M_kept M_isKept M_constraint M_readConstraint M_word M_size M_number M_firstOne M_node M_parent M_rule M_child M_proof M_witness M_witnessSize M_built M_copyRow v2 M_trial_86 hc86) okX12_layNode wd5_229 ⟨Nat.le_of_ble_eq_true rfl, Nat.le_of_ble_eq_true rfl⟩ ⟨rfl, rfl⟩ (va_recv hK hP (ci := 11) (q0 := 0) rfl rfl) hP hD (all_F hS hA hD) rfl hl.1 rfl (Nat.le_of_ble_eq_true rfl) dX12_search_86 ⟨Nat.zero_le _, Nat.zero_le _⟩) hS (all_F hS hA hD) rfl (fun H locs hP hD hS => ?_)
      refine lv_iconst (v := (0 : Int32)) hx hb dX12_search_89 (by decide) ?_
      refine lv_istore_n (lv' := [(3, .int (0 : Int32)), (0, .ref aM), (2, .int v2)]) hx hb dX12_search_90 rfl hl (by decide) rfl (fun ls hl => ?_)
      exact L91 FU M_nodes M_solved M_dropped M_fits M_trial_86 M_node M_parent M_rule M_child v2 (0 : Int32) ls H locs (lv_sub hl [1, 2, 0] rfl) hP hD hS h
  have B58 : ∀ (M_nodes : Int32) (M_solved : Int32) (M_dropped : Int32) (M_fits : Int32) (M_trial : Nat → Int32) (M_node : Nat → Int32) (M_parent : Nat → Int32) (M_rule : Nat → Int32) (M_child : Nat → Int32) (s1 : Int32) (ls : Array Slot) (H : Heap) (locs : List Loc), lv_has ls 4 [(0, .ref aM)] → va_P g.1 vwCl (wX12 g aM aM_text aM_now aM_trial aM_read aM_diary aM_kept aM_isKept aM_constraint aM_readConstraint aM_word aM_size aM_number aM_firstOne aM_node aM_parent aM_rule aM_child aM_proof aM_witness aM_witnessSize aM_built aM_copyRow M_length M_acts M_next M_many M_readMany M_found M_shortest M_nodes M_solved M_dropped M_fits M_proofSize M_tooLong M_text M_now M_trial M_read M_diary M_kept M_isKept M_constraint M_readConstraint M_word M_size M_number M_firstOne M_node M_parent M_rule M_child M_proof M_witness M_witnessSize M_built M_copyRow) H → va_D A (wX12 g aM aM_text aM_now aM_trial aM_read aM_diary aM_kept aM_isKept aM_constraint aM_readConstraint aM_word aM_size aM_number aM_firstOne aM_node aM_parent aM_rule aM_child aM_proof aM_witness aM_witnessSize aM_built aM_copyRow M_length M_acts M_next M_many M_readMany M_found M_shortest M_nodes M_solved M_dropped M_fits M_proofSize M_tooLong M_text M_now M_trial M_read M_diary M_kept M_isKept M_constraint M_readConstraint M_word M_size M_number M_firstOne M_node M_parent M_rule M_child M_proof M_witness M_witnessSize M_built M_copyRow) → va_S A s.heap H locs → fM_search_58 M_nodes M_dropped M_fits M_trial M_node M_parent M_rule M_child s1 = some (r, M_nodes_o, M_solved_o, M_dropped_o, M_fits_o, M_trial_o, M_node_o, M_parent_o, M_rule_o, M_child_o) → W p l e rmX12_search s m ([.ref aM, .ref aM_copyRow] : List Value).toArray below meth c H locs 0 0 QQ (F0 m 58 ls [.int s1, .ref aM]) := by
    intro M_nodes M_solved M_dropped M_fits M_trial M_node M_parent M_rule M_child s1 ls H locs hl hP hD hS h
    refine va_put (D := g.1) (ci := 11) (v := .int s1) (ty := .int) (C := RX12) (T := TX12) (N := 35) hx hb hts inBX12 tyX12 tyX12_ok nmX12 hown hK hP hD hS 0 rfl rfl 24 (by decide) (hts _ wd4_220) (fun _ h9 => h9) rfl (tyX12_ok 24 (by decide)) rfl rfl (Nat.le_of_ble_eq_true rfl) dX12_search_58 (fun H locs hP hD hS => ?_)
    have hP : va_P g.1 vwCl (wX12 g aM aM_text aM_now aM_trial aM_read aM_diary aM_kept aM_isKept aM_constraint aM_readConstraint aM_word aM_size aM_number aM_firstOne aM_node aM_parent aM_rule aM_child aM_proof aM_witness aM_witnessSize aM_built aM_copyRow M_length M_acts M_next M_many M_readMany M_found M_shortest M_nodes s1 M_dropped M_fits M_proofSize M_tooLong M_text M_now M_trial M_read M_diary M_kept M_isKept M_constraint M_readConstraint M_word M_size M_number M_firstOne M_node M_parent M_rule M_child M_proof M_witness M_witnessSize M_built M_copyRow) H := hP
    have hD : va_D A (wX12 g aM aM_text aM_now aM_trial aM_read aM_diary aM_kept aM_isKept aM_constraint aM_readConstraint aM_word aM_size aM_number aM_firstOne aM_node aM_parent aM_rule aM_child aM_proof aM_witness aM_witnessSize aM_built aM_copyRow M_length M_acts M_next M_many M_readMany M_found M_shortest M_nodes s1 M_dropped M_fits M_proofSize M_tooLong M_text M_now M_trial M_read M_diary M_kept M_isKept M_constraint M_readConstraint M_word M_size M_number M_firstOne M_node M_parent M_rule M_child M_proof M_witness M_witnessSize M_built M_copyRow) := hD
    refine lv_iconst (v := (0 : Int32)) hx hb dX12_search_61 (by decide) ?_
    refine lv_istore_n (lv' := [(2, .int (0 : Int32)), (0, .ref aM)]) hx hb dX12_search_62 rfl hl (by decide) rfl (fun ls hl => ?_)
    exact L63 FU M_nodes s1 M_dropped M_fits M_trial M_node M_parent M_rule M_child (0 : Int32) ls H locs (lv_sub hl [1, 0] rfl) hP hD hS h
  have L2 : ∀ (n2 : Nat), ∀ (M_nodes : Int32) (M_solved : Int32) (M_dropped : Int32) (M_fits : Int32) (M_trial : Nat → Int32) (M_node : Nat → Int32) (M_parent : Nat → Int32) (M_rule : Nat → Int32) (M_child : Nat → Int32) (v2 : Int32) (ls : Array Slot) (H : Heap) (locs : List Loc), lv_has ls 4 [(0, .ref aM), (1, .ref aM_copyRow), (2, .int v2)] → va_P g.1 vwCl (wX12 g aM aM_text aM_now aM_trial aM_read aM_diary aM_kept aM_isKept aM_constraint aM_readConstraint aM_word aM_size aM_number aM_firstOne aM_node aM_parent aM_rule aM_child aM_proof aM_witness aM_witnessSize aM_built aM_copyRow M_length M_acts M_next M_many M_readMany M_found M_shortest M_nodes M_solved M_dropped M_fits M_proofSize M_tooLong M_text M_now M_trial M_read M_diary M_kept M_isKept M_constraint M_readConstraint M_word M_size M_number M_firstOne M_node M_parent M_rule M_child M_proof M_witness M_witnessSize M_built M_copyRow) H → va_D A (wX12 g aM aM_text aM_now aM_trial aM_read aM_diary aM_kept aM_isKept aM_constraint aM_readConstraint aM_word aM_size aM_number aM_firstOne aM_node aM_parent aM_rule aM_child aM_proof aM_witness aM_witnessSize aM_built aM_copyRow M_length M_acts M_next M_many M_readMany M_found M_shortest M_nodes M_solved M_dropped M_fits M_proofSize M_tooLong M_text M_now M_trial M_read M_diary M_kept M_isKept M_constraint M_readConstraint M_word M_size M_number M_firstOne M_node M_parent M_rule M_child M_proof M_witness M_witnessSize M_built M_copyRow) → va_S A s.heap H locs → fx2 (fM_search_2 M_fits M_trial M_parent M_rule M_child M_copyRow) n2 M_node v2 = some (r, M_nodes_o, M_solved_o, M_dropped_o, M_fits_o, M_trial_o, M_node_o, M_parent_o, M_rule_o, M_child_o) → W p l e rmX12_search s m ([.ref aM, .ref aM_copyRow] : List Value).toArray below meth c H locs 0 0 QQ (F0 m 2 ls []) := by
    intro n2
    induction n2 with
    | zero => intro M_nodes M_solved M_dropped M_fits M_trial M_node M_parent M_rule M_child v2 ls H locs hl hP hD hS h; exact fx2_0 h
    | succ n2 ih2 =>
      intro M_nodes M_solved M_dropped M_fits M_trial M_node M_parent M_rule M_child v2 ls H locs hl hP hD hS h
      have h := (fx2_s (fM_search_2 M_fits M_trial M_parent M_rule M_child M_copyRow) n2 M_node v2).symm.trans h
      refine lv_iload_n hx hb dX12_search_2 rfl (lv_at hl 2 rfl) ?_
      refine lv_bipush (v := (26 : Int32)) hx hb dX12_search_3 (by decide) ?_
      refine lv_icmp_ge (tgt := 23) hx hb dX12_search_5 (by decide) (fun q5 => ?_) (fun q5 => ?_)
      · have h := ifT h q5
        refine lv_aload_n hx hb dX12_search_23 rfl (lv_at hl 0 rfl) ?_
        refine lv_iconst (v := (1 : Int32)) hx hb dX12_search_24 (by decide) ?_
        refine va_put (D := g.1) (ci := 11) (v := .int (1 : Int32)) (ty := .int) (C := RX12) (T := TX12) (N := 35) hx hb hts inBX12 tyX12 tyX12_ok nmX12 hown hK hP hD hS 0 rfl rfl 23 (by decide) (hts _ wd4_219) (fun _ h9 => h9) rfl (tyX12_ok 23 (by decide)) rfl rfl (Nat.le_of_ble_eq_true rfl) dX12_search_25 (fun H locs hP hD hS => ?_)
        have hP : va_P g.1 vwCl (wX12 g aM aM_text aM_now aM_trial aM_read aM_diary aM_kept aM_isKept aM_constraint aM_readConstraint aM_word aM_size aM_number aM_firstOne aM_node aM_parent aM_rule aM_child aM_proof aM_witness aM_witnessSize aM_built aM_copyRow M_length M_acts M_next M_many M_readMany M_found M_shortest (1 : Int32) M_solved M_dropped M_fits M_proofSize M_tooLong M_text M_now M_trial M_read M_diary M_kept M_isKept M_constraint M_readConstraint M_word M_size M_number M_firstOne M_node M_parent M_rule M_child M_proof M_witness M_witnessSize M_built M_copyRow) H := hP
        have hD : va_D A (wX12 g aM aM_text aM_now aM_trial aM_read aM_diary aM_kept aM_isKept aM_constraint aM_readConstraint aM_word aM_size aM_number aM_firstOne aM_node aM_parent aM_rule aM_child aM_proof aM_witness aM_witnessSize aM_built aM_copyRow M_length M_acts M_next M_many M_readMany M_found M_shortest (1 : Int32) M_solved M_dropped M_fits M_proofSize M_tooLong M_text M_now M_trial M_read M_diary M_kept M_isKept M_constraint M_readConstraint M_word M_size M_number M_firstOne M_node M_parent M_rule M_child M_proof M_witness M_witnessSize M_built M_copyRow) := hD
        refine lv_aload_n hx hb dX12_search_28 rfl (lv_at hl 0 rfl) ?_
        refine va_get (D := g.1) (ci := 11) (v := .ref aM_parent) (C := RX12) (T := TX12) (N := 35) hx hb hts inBX12 hown hK hP 0 rfl rfl 21 (by decide) (hts _ wd4_217) (fun _ h9 => h9) rfl dX12_search_29 ?_
        refine lv_iconst (v := (0 : Int32)) hx hb dX12_search_32 (by decide) ?_
        refine lv_bipush (v := ((-9) : Int32)) hx hb dX12_search_33 (by decide) ?_
        have hin := sti_in h
        refine va_iast hx hb hK hP hD hS 15 0 rfl rfl hin dX12_search_35 (fun H locs hP hD hS => ?_)
        obtain ⟨M_parent_35, eM_parent_35⟩ : ∃ y : Nat → Int32, y = upd M_parent (Int32.toNatClampNeg (0 : Int32)) ((-9) : Int32) := ⟨_, rfl⟩
        have h := sti_to h eM_parent_35
        have hP : va_P g.1 vwCl (wX12 g aM aM_text aM_now aM_trial aM_read aM_diary aM_kept aM_isKept aM_constraint aM_readConstraint aM_word aM_size aM_number aM_firstOne aM_node aM_parent aM_rule aM_child aM_proof aM_witness aM_witnessSize aM_built aM_copyRow M_length M_acts M_next M_many M_readMany M_found M_shortest (1 : Int32) M_solved M_dropped M_fits M_proofSize M_tooLong M_text M_now M_trial M_read M_diary M_kept M_isKept M_constraint M_readConstraint M_word M_size M_number M_firstOne M_node M_parent_35 M_rule M_child M_proof M_witness M_witnessSize M_built M_copyRow) H := by rw [eM_parent_35]; exact hP
        have hD : va_D A (wX12 g aM aM_text aM_now aM_trial aM_read aM_diary aM_kept aM_isKept aM_constraint aM_readConstraint aM_word aM_size aM_number aM_firstOne aM_node aM_parent aM_rule aM_child aM_proof aM_witness aM_witnessSize aM_built aM_copyRow M_length M_acts M_next M_many M_readMany M_found M_shortest (1 : Int32) M_solved M_dropped M_fits M_proofSize M_tooLong M_text M_now M_trial M_read M_diary M_kept M_isKept M_constraint M_readConstraint M_word M_size M_number M_firstOne M_node M_parent_35 M_rule M_child M_proof M_witness M_witnessSize M_built M_copyRow) := by rw [eM_parent_35]; exact hD
        refine lv_aload_n hx hb dX12_search_36 rfl (lv_at hl 0 rfl) ?_
        refine lv_iconst (v := (0 : Int32)) hx hb dX12_search_37 (by decide) ?_
        refine va_put (D := g.1) (ci := 11) (v := .int (0 : Int32)) (ty := .boolean) (C := RX12) (T := TX12) (N := 35) hx hb hts inBX12 tyX12 tyX12_ok nmX12 hown hK hP hD hS 0 rfl rfl 25 (by decide) (hts _ wd4_221) (fun _ h9 => h9) rfl (tyX12_ok 25 (by decide)) rfl rfl (Nat.le_of_ble_eq_true rfl) dX12_search_38 (fun H locs hP hD hS => ?_)
        have hP : va_P g.1 vwCl (wX12 g aM aM_text aM_now aM_trial aM_read aM_diary aM_kept aM_isKept aM_constraint aM_readConstraint aM_word aM_size aM_number aM_firstOne aM_node aM_parent aM_rule aM_child aM_proof aM_witness aM_witnessSize aM_built aM_copyRow M_length M_acts M_next M_many M_readMany M_found M_shortest (1 : Int32) M_solved (0 : Int32) M_fits M_proofSize M_tooLong M_text M_now M_trial M_read M_diary M_kept M_isKept M_constraint M_readConstraint M_word M_size M_number M_firstOne M_node M_parent_35 M_rule M_child M_proof M_witness M_witnessSize M_built M_copyRow) H := hP
        have hD : va_D A (wX12 g aM aM_text aM_now aM_trial aM_read aM_diary aM_kept aM_isKept aM_constraint aM_readConstraint aM_word aM_size aM_number aM_firstOne aM_node aM_parent aM_rule aM_child aM_proof aM_witness aM_witnessSize aM_built aM_copyRow M_length M_acts M_next M_many M_readMany M_found M_shortest (1 : Int32) M_solved (0 : Int32) M_fits M_proofSize M_tooLong M_text M_now M_trial M_read M_diary M_kept M_isKept M_constraint M_readConstraint M_word M_size M_number M_firstOne M_node M_parent_35 M_rule M_child M_proof M_witness M_witnessSize M_built M_copyRow) := hD
        refine lv_aload_n hx hb dX12_search_41 rfl (lv_at hl 0 rfl) ?_
        refine lv_aload_n hx hb dX12_search_42 rfl (lv_at hl 1 rfl) ?_
        refine lv_iconst (v := (0 : Int32)) hx hb dX12_search_43 (by decide) ?_
        have hin := ld_in h
        refine va_iald hx hb hK hP 22 0 rfl rfl hin dX12_search_44 ?_
        refine lv_topi (fun t44 et44 => ?_)
        have h := ld_to h et44
        refine lv_aload_n hx hb dX12_search_45 rfl (lv_at hl 1 rfl) ?_
        refine lv_iconst (v := (1 : Int32)) hx hb dX12_search_46 (by decide) ?_
        have hin := ld_in h
        refine va_iald hx hb hK hP 22 0 rfl rfl hin dX12_search_47 ?_
        refine lv_topi (fun t47 et47 => ?_)
        have h := ld_to h et47
        refine lv_iadd hx hb dX12_search_48 ?_
        refine lv_if_ne (tgt := 56) hx hb dX12_search_49 (by decide) (fun q49 => ?_) (fun q49 => ?_)
        · have h := ifF h q49
          refine lv_bipush (v := ((-9) : Int32)) hx hb dX12_search_56 (by decide) ?_
          exact B58 (1 : Int32) M_solved (0 : Int32) M_fits M_trial M_node M_parent_35 M_rule M_child ((-9) : Int32) ls H locs (lv_sub hl [0] rfl) hP hD hS h
        have h := ifT h q49
        refine lv_iconst (v := (0 : Int32)) hx hb dX12_search_52 (by decide) ?_
        refine lv_goto (tgt := 58) hx hb dX12_search_53 (by decide) ?_
        exact B58 (1 : Int32) M_solved (0 : Int32) M_fits M_trial M_node M_parent_35 M_rule M_child (0 : Int32) ls H locs (lv_sub hl [0] rfl) hP hD hS h
      have h := ifF h q5
      refine lv_aload_n hx hb dX12_search_8 rfl (lv_at hl 0 rfl) ?_
      refine va_get (D := g.1) (ci := 11) (v := .ref aM_node) (C := RX12) (T := TX12) (N := 35) hx hb hts inBX12 hown hK hP 0 rfl rfl 20 (by decide) (hts _ wd4_216) (fun _ h9 => h9) rfl dX12_search_9 ?_
      refine lv_iload_n hx hb dX12_search_12 rfl (lv_at hl 2 rfl) ?_
      refine lv_aload_n hx hb dX12_search_13 rfl (lv_at hl 1 rfl) ?_
      refine lv_iload_n hx hb dX12_search_14 rfl (lv_at hl 2 rfl) ?_
      have hin := ld_in h
      refine va_iald hx hb hK hP 22 0 rfl rfl hin dX12_search_15 ?_
      refine lv_topi (fun t15 et15 => ?_)
      have h := ld_to h et15
      have hin := sti_in h
      refine va_iast hx hb hK hP hD hS 14 0 rfl rfl hin dX12_search_16 (fun H locs hP hD hS => ?_)
      obtain ⟨M_node_16, eM_node_16⟩ : ∃ y : Nat → Int32, y = upd M_node (Int32.toNatClampNeg v2) t15 := ⟨_, rfl⟩
      have h := sti_to h eM_node_16
      have hP : va_P g.1 vwCl (wX12 g aM aM_text aM_now aM_trial aM_read aM_diary aM_kept aM_isKept aM_constraint aM_readConstraint aM_word aM_size aM_number aM_firstOne aM_node aM_parent aM_rule aM_child aM_proof aM_witness aM_witnessSize aM_built aM_copyRow M_length M_acts M_next M_many M_readMany M_found M_shortest M_nodes M_solved M_dropped M_fits M_proofSize M_tooLong M_text M_now M_trial M_read M_diary M_kept M_isKept M_constraint M_readConstraint M_word M_size M_number M_firstOne M_node_16 M_parent M_rule M_child M_proof M_witness M_witnessSize M_built M_copyRow) H := by rw [eM_node_16]; exact hP
      have hD : va_D A (wX12 g aM aM_text aM_now aM_trial aM_read aM_diary aM_kept aM_isKept aM_constraint aM_readConstraint aM_word aM_size aM_number aM_firstOne aM_node aM_parent aM_rule aM_child aM_proof aM_witness aM_witnessSize aM_built aM_copyRow M_length M_acts M_next M_many M_readMany M_found M_shortest M_nodes M_solved M_dropped M_fits M_proofSize M_tooLong M_text M_now M_trial M_read M_diary M_kept M_isKept M_constraint M_readConstraint M_word M_size M_number M_firstOne M_node_16 M_parent M_rule M_child M_proof M_witness M_witnessSize M_built M_copyRow) := by rw [eM_node_16]; exact hD
      obtain ⟨t17, et17⟩ : ∃ y : Int32, y = v2 + (1 : Int32) := ⟨_, rfl⟩
      refine lv_iinc (v := t17) (lv' := [(2, .int t17), (0, .ref aM), (1, .ref aM_copyRow)]) hx hb dX12_search_17 hl (k := 2) rfl (by rw [et17]; rfl) (by decide) rfl (fun ls hl => ?_)
      have h := st_to h et17
      refine lv_goto (tgt := 2) hx hb dX12_search_20 (by decide) ?_
      exact ih2 M_nodes M_solved M_dropped M_fits M_trial M_node_16 M_parent M_rule M_child t17 ls H locs (lv_sub hl [1, 2, 0] rfl) hP hD hS h
  have hl : lv_has ls 4 [(0, .ref aM), (1, .ref aM_copyRow)] := hl
  obtain ⟨H, hH⟩ : ∃ H, H = s.heap := ⟨_, rfl⟩
  obtain ⟨locs, hlocs⟩ : ∃ l : List Loc, l = [] := ⟨_, rfl⟩
  rw [show W p l e rmX12_search s m ([.ref aM, .ref aM_copyRow] : List Value).toArray below meth c s.heap [] 0 0 QQ (F0 m 0 ls []) = W p l e rmX12_search s m ([.ref aM, .ref aM_copyRow] : List Value).toArray below meth c H locs 0 0 QQ (F0 m 0 ls []) by rw [hH, hlocs]]
  have hP : va_P g.1 vwCl (wX12 g aM aM_text aM_now aM_trial aM_read aM_diary aM_kept aM_isKept aM_constraint aM_readConstraint aM_word aM_size aM_number aM_firstOne aM_node aM_parent aM_rule aM_child aM_proof aM_witness aM_witnessSize aM_built aM_copyRow M_length M_acts M_next M_many M_readMany M_found M_shortest M_nodes M_solved M_dropped M_fits M_proofSize M_tooLong M_text M_now M_trial M_read M_diary M_kept M_isKept M_constraint M_readConstraint M_word M_size M_number M_firstOne M_node M_parent M_rule M_child M_proof M_witness M_witnessSize M_built M_copyRow) H := by rw [hH]; exact hP
  have hD : va_D A (wX12 g aM aM_text aM_now aM_trial aM_read aM_diary aM_kept aM_isKept aM_constraint aM_readConstraint aM_word aM_size aM_number aM_firstOne aM_node aM_parent aM_rule aM_child aM_proof aM_witness aM_witnessSize aM_built aM_copyRow M_length M_acts M_next M_many M_readMany M_found M_shortest M_nodes M_solved M_dropped M_fits M_proofSize M_tooLong M_text M_now M_trial M_read M_diary M_kept M_isKept M_constraint M_readConstraint M_word M_size M_number M_firstOne M_node M_parent M_rule M_child M_proof M_witness M_witnessSize M_built M_copyRow) := hD
  have hS : va_S A s.heap H locs := by rw [hH, hlocs]; exact hS
  clear hH hlocs
  refine lv_iconst (v := (0 : Int32)) hx hb dX12_search_0 (by decide) ?_
  refine lv_istore_n (lv' := [(2, .int (0 : Int32)), (0, .ref aM), (1, .ref aM_copyRow)]) hx hb dX12_search_1 rfl hl (by decide) rfl (fun ls hl => ?_)
  exact L2 FU M_nodes M_solved M_dropped M_fits M_trial M_node M_parent M_rule M_child (0 : Int32) ls H locs (lv_sub hl [1, 2, 0] rfl) hP hD hS h
set_option maxHeartbeats 4000000 in
set_option maxRecDepth 100000 in
theorem mX12_search_now (g : GP) (l : Launch) (aM aM_text aM_now aM_trial aM_read aM_diary aM_kept aM_isKept aM_constraint aM_readConstraint aM_word aM_size aM_number aM_firstOne aM_node aM_parent aM_rule aM_child aM_proof aM_witness aM_witnessSize aM_built aM_copyRow : Nat) (M_length : Int32) (M_acts : Int32) (M_next : Int32) (M_many : Int32) (M_readMany : Int32) (M_found : Int32) (M_shortest : Int32) (M_nodes : Int32) (M_solved : Int32) (M_dropped : Int32) (M_fits : Int32) (M_proofSize : Int32) (M_tooLong : Int32) (M_text : Nat → Int32) (M_now : Nat → Int32) (M_trial : Nat → Int32) (M_read : Nat → Int32) (M_diary : Nat → Int32) (M_kept : Nat → Int32) (M_isKept : Nat → Int32) (M_constraint : Nat → Int32) (M_readConstraint : Nat → Int32) (M_word : Nat → Int32) (M_size : Nat → Int32) (M_number : Nat → Int32) (M_firstOne : Nat → Int32) (M_node : Nat → Int32) (M_parent : Nat → Int32) (M_rule : Nat → Int32) (M_child : Nat → Int32) (M_proof : Nat → Int32) (M_witness : Nat → Int32) (M_witnessSize : Nat → Int32) (M_built : Nat → Int32) (M_copyRow : Nat → Int32)  (r : Int32) (M_nodes_o : Int32) (M_solved_o : Int32) (M_dropped_o : Int32) (M_fits_o : Int32) (M_trial_o : Nat → Int32) (M_node_o : Nat → Int32) (M_parent_o : Nat → Int32) (M_rule_o : Nat → Int32) (M_child_o : Nat → Int32) (h : fM_search M_fits M_trial M_node M_parent M_rule M_child M_now = some (r, M_nodes_o, M_solved_o, M_dropped_o, M_fits_o, M_trial_o, M_node_o, M_parent_o, M_rule_o, M_child_o)) : Ct g l yX12_search cX12_search 4 (some .int) rmX12_search [.ref aM, .ref aM_now] (wX12 g aM aM_text aM_now aM_trial aM_read aM_diary aM_kept aM_isKept aM_constraint aM_readConstraint aM_word aM_size aM_number aM_firstOne aM_node aM_parent aM_rule aM_child aM_proof aM_witness aM_witnessSize aM_built aM_copyRow M_length M_acts M_next M_many M_readMany M_found M_shortest M_nodes M_solved M_dropped M_fits M_proofSize M_tooLong M_text M_now M_trial M_read M_diary M_kept M_isKept M_constraint M_readConstraint M_word M_size M_number M_firstOne M_node M_parent M_rule M_child M_proof M_witness M_witnessSize M_built M_copyRow) (some (.int r)) (wX12 g aM aM_text aM_now aM_trial aM_read aM_diary aM_kept aM_isKept aM_constraint aM_readConstraint aM_word aM_size aM_number aM_firstOne aM_node aM_parent aM_rule aM_child aM_proof aM_witness aM_witnessSize aM_built aM_copyRow M_length M_acts M_next M_many M_readMany M_found M_shortest M_nodes_o M_solved_o M_dropped_o M_fits_o M_proofSize M_tooLong M_text M_now M_trial_o M_read M_diary M_kept M_isKept M_constraint M_readConstraint M_word M_size M_number M_firstOne M_node_o M_parent_o M_rule_o M_child_o M_proof M_witness M_witnessSize M_built M_copyRow) := by
  refine Ct.introI (by decide) (Nat.le_of_ble_eq_true rfl) ?_
  intro p e s m below meth c A QQ ls hyp hret
  obtain ⟨hx, hb, hml, hts, hown, hA, hE, hP, hD, hl⟩ := hyp
  have hK := hE.1
  have hS : va_S A s.heap s.heap [] := va_S.rf
  have X : Here g p s m c cX12_search 4 ([.ref aM, .ref aM_now] : List Value).toArray RX12 A := ⟨⟨hx, hb, hml, hown, hts⟩, hE, hA⟩
  have B131 : ∀ (M_nodes : Int32) (M_solved : Int32) (M_dropped : Int32) (M_fits : Int32) (M_trial : Nat → Int32) (M_node : Nat → Int32) (M_parent : Nat → Int32) (M_rule : Nat → Int32) (M_child : Nat → Int32) (ls : Array Slot) (H : Heap) (locs : List Loc), lv_has ls 4 [(0, .ref aM)] → va_P g.1 vwCl (wX12 g aM aM_text aM_now aM_trial aM_read aM_diary aM_kept aM_isKept aM_constraint aM_readConstraint aM_word aM_size aM_number aM_firstOne aM_node aM_parent aM_rule aM_child aM_proof aM_witness aM_witnessSize aM_built aM_copyRow M_length M_acts M_next M_many M_readMany M_found M_shortest M_nodes M_solved M_dropped M_fits M_proofSize M_tooLong M_text M_now M_trial M_read M_diary M_kept M_isKept M_constraint M_readConstraint M_word M_size M_number M_firstOne M_node M_parent M_rule M_child M_proof M_witness M_witnessSize M_built M_copyRow) H → va_D A (wX12 g aM aM_text aM_now aM_trial aM_read aM_diary aM_kept aM_isKept aM_constraint aM_readConstraint aM_word aM_size aM_number aM_firstOne aM_node aM_parent aM_rule aM_child aM_proof aM_witness aM_witnessSize aM_built aM_copyRow M_length M_acts M_next M_many M_readMany M_found M_shortest M_nodes M_solved M_dropped M_fits M_proofSize M_tooLong M_text M_now M_trial M_read M_diary M_kept M_isKept M_constraint M_readConstraint M_word M_size M_number M_firstOne M_node M_parent M_rule M_child M_proof M_witness M_witnessSize M_built M_copyRow) → va_S A s.heap H locs → fM_search_131 M_nodes M_solved M_dropped M_fits M_trial M_node M_parent M_rule M_child = some (r, M_nodes_o, M_solved_o, M_dropped_o, M_fits_o, M_trial_o, M_node_o, M_parent_o, M_rule_o, M_child_o) → W p l e rmX12_search s m ([.ref aM, .ref aM_now] : List Value).toArray below meth c H locs 0 0 QQ (F0 m 131 ls []) := by
    intro M_nodes M_solved M_dropped M_fits M_trial M_node M_parent M_rule M_child ls H locs hl hP hD hS h
    refine lv_aload_n hx hb dX12_search_131 rfl (lv_at hl 0 rfl) ?_
    refine va_get (D := g.1) (ci := 11) (v := .int M_solved) (C := RX12) (T := TX12) (N := 35) hx hb hts inBX12 hown hK hP 0 rfl rfl 24 (by decide) (hts _ wd4_220) (fun _ h9 => h9) rfl dX12_search_132 ?_
    refine lv_bipush (v := ((-9) : Int32)) hx hb dX12_search_135 (by decide) ?_
    refine lv_icmp_eq (tgt := 144) hx hb dX12_search_137 (by decide) (fun q137 => ?_) (fun q137 => ?_)
    · have h := ifT h q137
      refine lv_aload_n hx hb dX12_search_144 rfl (lv_at hl 0 rfl) ?_
      refine va_get (D := g.1) (ci := 11) (v := .int M_dropped) (C := RX12) (T := TX12) (N := 35) hx hb hts inBX12 hown hK hP 0 rfl rfl 25 (by decide) (hts _ wd4_221) (fun _ h9 => h9) rfl dX12_search_145 ?_
      refine lv_if_eq (tgt := 155) hx hb dX12_search_148 (by decide) (fun q148 => ?_) (fun q148 => ?_)
      · have h := ifT h q148
        refine lv_iconst (v := (0 : Int32)) hx hb dX12_search_155 (by decide) ?_
        have h : some ((0 : Int32), M_nodes, M_solved, M_dropped, M_fits, M_trial, M_node, M_parent, M_rule, M_child) = some (r, M_nodes_o, M_solved_o, M_dropped_o, M_fits_o, M_trial_o, M_node_o, M_parent_o, M_rule_o, M_child_o) := h
        cases h
        exact hret _ _ _ _ hP hD hS dX12_search_156
      have h := ifF h q148
      refine lv_iconst (v := (2 : Int32)) hx hb dX12_search_151 (by decide) ?_
      refine lv_goto (tgt := 156) hx hb dX12_search_152 (by decide) ?_
      have h : some ((2 : Int32), M_nodes, M_solved, M_dropped, M_fits, M_trial, M_node, M_parent, M_rule, M_child) = some (r, M_nodes_o, M_solved_o, M_dropped_o, M_fits_o, M_trial_o, M_node_o, M_parent_o, M_rule_o, M_child_o) := h
      cases h
      exact hret _ _ _ _ hP hD hS dX12_search_156
    have h := ifF h q137
    refine lv_iconst (v := (1 : Int32)) hx hb dX12_search_140 (by decide) ?_
    refine lv_goto (tgt := 156) hx hb dX12_search_141 (by decide) ?_
    have h : some ((1 : Int32), M_nodes, M_solved, M_dropped, M_fits, M_trial, M_node, M_parent, M_rule, M_child) = some (r, M_nodes_o, M_solved_o, M_dropped_o, M_fits_o, M_trial_o, M_node_o, M_parent_o, M_rule_o, M_child_o) := h
    cases h
    exact hret _ _ _ _ hP hD hS dX12_search_156
  have L63 : ∀ (n63 : Nat), ∀ (M_nodes : Int32) (M_solved : Int32) (M_dropped : Int32) (M_fits : Int32) (M_trial : Nat → Int32) (M_node : Nat → Int32) (M_parent : Nat → Int32) (M_rule : Nat → Int32) (M_child : Nat → Int32) (v2 : Int32) (ls : Array Slot) (H : Heap) (locs : List Loc), lv_has ls 4 [(0, .ref aM), (2, .int v2)] → va_P g.1 vwCl (wX12 g aM aM_text aM_now aM_trial aM_read aM_diary aM_kept aM_isKept aM_constraint aM_readConstraint aM_word aM_size aM_number aM_firstOne aM_node aM_parent aM_rule aM_child aM_proof aM_witness aM_witnessSize aM_built aM_copyRow M_length M_acts M_next M_many M_readMany M_found M_shortest M_nodes M_solved M_dropped M_fits M_proofSize M_tooLong M_text M_now M_trial M_read M_diary M_kept M_isKept M_constraint M_readConstraint M_word M_size M_number M_firstOne M_node M_parent M_rule M_child M_proof M_witness M_witnessSize M_built M_copyRow) H → va_D A (wX12 g aM aM_text aM_now aM_trial aM_read aM_diary aM_kept aM_isKept aM_constraint aM_readConstraint aM_word aM_size aM_number aM_firstOne aM_node aM_parent aM_rule aM_child aM_proof aM_witness aM_witnessSize aM_built aM_copyRow M_length M_acts M_next M_many M_readMany M_found M_shortest M_nodes M_solved M_dropped M_fits M_proofSize M_tooLong M_text M_now M_trial M_read M_diary M_kept M_isKept M_constraint M_readConstraint M_word M_size M_number M_firstOne M_node M_parent M_rule M_child M_proof M_witness M_witnessSize M_built M_copyRow) → va_S A s.heap H locs → fx10 (fM_search_63) n63 M_nodes M_solved M_dropped M_fits M_trial M_node M_parent M_rule M_child v2 = some (r, M_nodes_o, M_solved_o, M_dropped_o, M_fits_o, M_trial_o, M_node_o, M_parent_o, M_rule_o, M_child_o) → W p l e rmX12_search s m ([.ref aM, .ref aM_now] : List Value).toArray below meth c H locs 0 0 QQ (F0 m 63 ls []) := by
    intro n63
    induction n63 with
    | zero => intro M_nodes M_solved M_dropped M_fits M_trial M_node M_parent M_rule M_child v2 ls H locs hl hP hD hS h; exact fx10_0 h
    | succ n63 ih63 =>
      intro M_nodes M_solved M_dropped M_fits M_trial M_node M_parent M_rule M_child v2 ls H locs hl hP hD hS h
      have h := (fx10_s (fM_search_63) n63 M_nodes M_solved M_dropped M_fits M_trial M_node M_parent M_rule M_child v2).symm.trans h
      have L91 : ∀ (n91 : Nat), ∀ (M_nodes : Int32) (M_solved : Int32) (M_dropped : Int32) (M_fits : Int32) (M_trial : Nat → Int32) (M_node : Nat → Int32) (M_parent : Nat → Int32) (M_rule : Nat → Int32) (M_child : Nat → Int32) (v2 : Int32) (v3 : Int32) (ls : Array Slot) (H : Heap) (locs : List Loc), lv_has ls 4 [(0, .ref aM), (2, .int v2), (3, .int v3)] → va_P g.1 vwCl (wX12 g aM aM_text aM_now aM_trial aM_read aM_diary aM_kept aM_isKept aM_constraint aM_readConstraint aM_word aM_size aM_number aM_firstOne aM_node aM_parent aM_rule aM_child aM_proof aM_witness aM_witnessSize aM_built aM_copyRow M_length M_acts M_next M_many M_readMany M_found M_shortest M_nodes M_solved M_dropped M_fits M_proofSize M_tooLong M_text M_now M_trial M_read M_diary M_kept M_isKept M_constraint M_readConstraint M_word M_size M_number M_firstOne M_node M_parent M_rule M_child M_proof M_witness M_witnessSize M_built M_copyRow) H → va_D A (wX12 g aM aM_text aM_now aM_trial aM_read aM_diary aM_kept aM_isKept aM_constraint aM_readConstraint aM_word aM_size aM_number aM_firstOne aM_node aM_parent aM_rule aM_child aM_proof aM_witness aM_witnessSize aM_built aM_copyRow M_length M_acts M_next M_many M_readMany M_found M_shortest M_nodes M_solved M_dropped M_fits M_proofSize M_tooLong M_text M_now M_trial M_read M_diary M_kept M_isKept M_constraint M_readConstraint M_word M_size M_number M_firstOne M_node M_parent M_rule M_child M_proof M_witness M_witnessSize M_built M_copyRow) → va_S A s.heap H locs → fx9 (fM_search_91 (fx10 (fM_search_63) n63) M_trial v2) n91 M_nodes M_solved M_dropped M_fits M_node M_parent M_rule M_child v3 = some (r, M_nodes_o, M_solved_o, M_dropped_o, M_fits_o, M_trial_o, M_node_o, M_parent_o, M_rule_o, M_child_o) → W p l e rmX12_search s m ([.ref aM, .ref aM_now] : List Value).toArray below meth c H locs 0 0 QQ (F0 m 91 ls []) := by
        intro n91
        induction n91 with
        | zero => intro M_nodes M_solved M_dropped M_fits M_trial M_node M_parent M_rule M_child v2 v3 ls H locs hl hP hD hS h; exact fx9_0 h
        | succ n91 ih91 =>
          intro M_nodes M_solved M_dropped M_fits M_trial M_node M_parent M_rule M_child v2 v3 ls H locs hl hP hD hS h
          have h := (fx9_s (fM_search_91 (fx10 (fM_search_63) n63) M_trial v2) n91 M_nodes M_solved M_dropped M_fits M_node M_parent M_rule M_child v3).symm.trans h
          refine lv_iload_n hx hb dX12_search_91 rfl (lv_at hl 2 rfl) ?_
          refine lv_iconst (v := (5 : Int32)) hx hb dX12_search_92 (by decide) ?_
          refine lv_icmp_ge (tgt := 125) hx hb dX12_search_93 (by decide) (fun q93 => ?_) (fun q93 => ?_)
          · have h := ifT h q93
            obtain ⟨t125, et125⟩ : ∃ y : Int32, y = v2 + (1 : Int32) := ⟨_, rfl⟩
            refine lv_iinc (v := t125) (lv' := [(2, .int t125), (0, .ref aM), (3, .int v3)]) hx hb dX12_search_125 hl (k := 1) rfl (by rw [et125]; rfl) (by decide) rfl (fun ls hl => ?_)
            have h := st_to h et125
            refine lv_goto (tgt := 63) hx hb dX12_search_128 (by decide) ?_
            exact ih63 M_nodes M_solved M_dropped M_fits M_trial M_node M_parent M_rule M_child t125 ls H locs (lv_sub hl [1, 0] rfl) hP hD hS h
          have h := ifF h q93
          refine lv_aload_n hx hb dX12_search_96 rfl (lv_at hl 0 rfl) ?_
          refine va_get (D := g.1) (ci := 11) (v := .int M_solved) (C := RX12) (T := TX12) (N := 35) hx hb hts inBX12 hown hK hP 0 rfl rfl 24 (by decide) (hts _ wd4_220) (fun _ h9 => h9) rfl dX12_search_97 ?_
          refine lv_bipush (v := ((-9) : Int32)) hx hb dX12_search_100 (by decide) ?_
          refine lv_icmp_ne (tgt := 125) hx hb dX12_search_102 (by decide) (fun q102 => ?_) (fun q102 => ?_)
          · have h := ifF h q102
            obtain ⟨t125, et125⟩ : ∃ y : Int32, y = v2 + (1 : Int32) := ⟨_, rfl⟩
            refine lv_iinc (v := t125) (lv' := [(2, .int t125), (0, .ref aM), (3, .int v3)]) hx hb dX12_search_125 hl (k := 1) rfl (by rw [et125]; rfl) (by decide) rfl (fun ls hl => ?_)
            have h := st_to h et125
            refine lv_goto (tgt := 63) hx hb dX12_search_128 (by decide) ?_
            exact ih63 M_nodes M_solved M_dropped M_fits M_trial M_node M_parent M_rule M_child t125 ls H locs (lv_sub hl [1, 0] rfl) hP hD hS h
          have h := ifT h q102
          refine lv_aload_n hx hb dX12_search_105 rfl (lv_at hl 0 rfl) ?_
          refine lv_iload_n hx hb dX12_search_106 rfl (lv_at hl 2 rfl) ?_
          obtain ⟨t107, hc107, h⟩ := bd1_to h
          refine go_A (st1 := [.int t107]) (run_V (As := [.int v3]) (rest := []) X hS (mX12_applies g l  aM aM_text aM_now aM_trial aM_read aM_diary aM_kept aM_isKept aM_constraint aM_readConstraint aM_word aM_size aM_number aM_firstOne aM_node aM_parent aM_rule aM_child aM_proof aM_witness aM_witnessSize aM_built aM_copyRow M_length M_acts M_next M_many M_readMany M_found M_shortest M_nodes M_solved M_dropped M_fits M_proofSize M_tooLong M_text M_now M_trial M_read M_diary M_kept M_isKept M_constraint M_readConstraint M_word M_size M_number M_firstOne M_node M_parent M_rule M_child M_proof M_witness M_witnessSize M_built M_copyRow v3 t107 hc107) okX12_applies wd5_233 ⟨Nat.le_of_ble_eq_true rfl, Nat.le_of_ble_eq_true rfl⟩ ⟨rfl, rfl⟩ (va_recv hK hP (ci := 11) (q0 := 0) rfl rfl) hP hD (all_F hS hA hD) rfl hl.1 rfl (Nat.le_of_ble_eq_true rfl) dX12_search_107 ⟨Nat.zero_le _, Nat.zero_le _⟩) hS (all_F hS hA hD) rfl (fun H locs hP hD hS => ?_)
          refine lv_if_eq (tgt := 119) hx hb dX12_search_110 (by decide) (fun q110 => ?_) (fun q110 => ?_)
          · have h := ifT h q110
            obtain ⟨t119, et119⟩ : ∃ y : Int32, y = v3 + (1 : Int32) := ⟨_, rfl⟩
            refine lv_iinc (v := t119) (lv' := [(3, .int t119), (0, .ref aM), (2, .int v2)]) hx hb dX12_search_119 hl (k := 2) rfl (by rw [et119]; rfl) (by decide) rfl (fun ls hl => ?_)
            have h := st_to h et119
            refine lv_goto (tgt := 91) hx hb dX12_search_122 (by decide) ?_
            exact ih91 M_nodes M_solved M_dropped M_fits M_trial M_node M_parent M_rule M_child v2 t119 ls H locs (lv_sub hl [1, 2, 0] rfl) hP hD hS h
          have h := ifF h q110
          refine lv_aload_n hx hb dX12_search_113 rfl (lv_at hl 0 rfl) ?_
          refine lv_iload_n hx hb dX12_search_114 rfl (lv_at hl 1 rfl) ?_
          refine lv_iload_n hx hb dX12_search_115 rfl (lv_at hl 2 rfl) ?_
          obtain ⟨M_nodes_116, M_solved_116, M_dropped_116, M_fits_116, M_node_116, M_parent_116, M_rule_116, M_child_116, hc116, h⟩ := bd8_to h
          refine go_A (st1 := []) (run_V (As := [.int v2, .int v3]) (rest := []) X hS (mX12_addChild g l  aM aM_text aM_now aM_trial aM_read aM_diary aM_kept aM_isKept aM_constraint aM_readConstraint aM_word aM_size aM_number aM_firstOne aM_node aM_parent aM_rule aM_child aM_proof aM_witness aM_witnessSize aM_built aM_copyRow M_length M_acts M_next M_many M_readMany M_found M_shortest M_nodes M_solved M_dropped M_fits M_proofSize M_tooLong M_text M_now M_trial M_read M_diary M_kept M_isKept M_constraint M_readConstraint M_word M_size M_number M_firstOne M_node M_parent M_rule M_child M_proof M_witness M_witnessSize M_built M_copyRow v2 v3 M_nodes_116 M_solved_116 M_dropped_116 M_fits_116 M_node_116 M_parent_116 M_rule_116 M_child_116 hc116) okX12_addChild wd5_237 ⟨Nat.le_of_ble_eq_true rfl, Nat.le_of_ble_eq_true rfl⟩ ⟨rfl, rfl⟩ (va_recv hK hP (ci := 11) (q0 := 0) rfl rfl) hP hD (all_F hS hA hD) rfl hl.1 rfl (Nat.le_of_ble_eq_true rfl) dX12_search_116 ⟨Nat.zero_le _, Nat.zero_le _⟩) hS (all_F hS hA hD) rfl (fun H locs hP hD hS => ?_)
          obtain ⟨t119, et119⟩ : ∃ y : Int32, y = v3 + (1 : Int32) := ⟨_, rfl⟩
          refine lv_iinc (v := t119) (lv' := [(3, .int t119), (0, .ref aM), (2, .int v2)]) hx hb dX12_search_119 hl (k := 2) rfl (by rw [et119]; rfl) (by decide) rfl (fun ls hl => ?_)
          have h := st_to h et119
          refine lv_goto (tgt := 91) hx hb dX12_search_122 (by decide) ?_
          exact ih91 M_nodes_116 M_solved_116 M_dropped_116 M_fits_116 M_trial M_node_116 M_parent_116 M_rule_116 M_child_116 v2 t119 ls H locs (lv_sub hl [1, 2, 0] rfl) hP hD hS h
      refine lv_iload_n hx hb dX12_search_63 rfl (lv_at hl 1 rfl) ?_
      refine lv_aload_n hx hb dX12_search_64 rfl (lv_at hl 0 rfl) ?_
      refine va_get (D := g.1) (ci := 11) (v := .int M_nodes) (C := RX12) (T := TX12) (N := 35) hx hb hts inBX12 hown hK hP 0 rfl rfl 23 (by decide) (hts _ wd4_219) (fun _ h9 => h9) rfl dX12_search_65 ?_
      refine lv_icmp_ge (tgt := 131) hx hb dX12_search_68 (by decide) (fun q68 => ?_) (fun q68 => ?_)
      · have h := ifT h q68
        exact B131 M_nodes M_solved M_dropped M_fits M_trial M_node M_parent M_rule M_child ls H locs (lv_sub hl [0] rfl) hP hD hS h
      have h := ifF h q68
      refine lv_aload_n hx hb dX12_search_71 rfl (lv_at hl 0 rfl) ?_
      refine va_get (D := g.1) (ci := 11) (v := .int M_solved) (C := RX12) (T := TX12) (N := 35) hx hb hts inBX12 hown hK hP 0 rfl rfl 24 (by decide) (hts _ wd4_220) (fun _ h9 => h9) rfl dX12_search_72 ?_
      refine lv_bipush (v := ((-9) : Int32)) hx hb dX12_search_75 (by decide) ?_
      refine lv_icmp_ne (tgt := 131) hx hb dX12_search_77 (by decide) (fun q77 => ?_) (fun q77 => ?_)
      · have h := ifF h q77
        exact B131 M_nodes M_solved M_dropped M_fits M_trial M_node M_parent M_rule M_child ls H locs (lv_sub hl [0] rfl) hP hD hS h
      have h := ifT h q77
      refine lv_aload_n hx hb dX12_search_80 rfl (lv_at hl 0 rfl) ?_
      refine lv_iload_n hx hb dX12_search_81 rfl (lv_at hl 1 rfl) ?_
      refine lv_aload_n hx hb dX12_search_82 rfl (lv_at hl 0 rfl) ?_
      refine va_get (D := g.1) (ci := 11) (v := .ref aM_trial) (C := RX12) (T := TX12) (N := 35) hx hb hts inBX12 hown hK hP 0 rfl rfl 3 (by decide) (hts _ wd4_199) (fun _ h9 => h9) rfl dX12_search_83 ?_
      obtain ⟨M_trial_86, hc86, h⟩ := bd1_to h
      refine go_A (st1 := []) (run_V (As := [.int v2, .ref aM_trial]) (rest := []) X hS (mX12_layNode_trial g l  aM aM_text aM_now aM_trial aM_read aM_diary aM_kept aM_isKept aM_constraint aM_readConstraint aM_word aM_size aM_number aM_firstOne aM_node aM_parent aM_rule aM_child aM_proof aM_witness aM_witnessSize aM_built aM_copyRow M_length M_acts M_next M_many M_readMany M_found M_shortest M_nodes M_solved M_dropped M_fits M_proofSize M_tooLong M_text M_now M_trial M_read M_diary M_kept M_isKept M_constraint M_readConstraint M_word M_size M_number M_firstOne M_node M_parent M_rule M_child M_proof M_witness M_witnessSize M_built M_copyRow v2 M_trial_86 hc86) okX12_layNode wd5_229 ⟨Nat.le_of_ble_eq_true rfl, Nat.le_of_ble_eq_true rfl⟩ ⟨rfl, rfl⟩ (va_recv hK hP (ci := 11) (q0 := 0) rfl rfl) hP hD (all_F hS hA hD) rfl hl.1 rfl (Nat.le_of_ble_eq_true rfl) dX12_search_86 ⟨Nat.zero_le _, Nat.zero_le _⟩) hS (all_F hS hA hD) rfl (fun H locs hP hD hS => ?_)
      refine lv_iconst (v := (0 : Int32)) hx hb dX12_search_89 (by decide) ?_
      refine lv_istore_n (lv' := [(3, .int (0 : Int32)), (0, .ref aM), (2, .int v2)]) hx hb dX12_search_90 rfl hl (by decide) rfl (fun ls hl => ?_)
      exact L91 FU M_nodes M_solved M_dropped M_fits M_trial_86 M_node M_parent M_rule M_child v2 (0 : Int32) ls H locs (lv_sub hl [1, 2, 0] rfl) hP hD hS h
  have B58 : ∀ (M_nodes : Int32) (M_solved : Int32) (M_dropped : Int32) (M_fits : Int32) (M_trial : Nat → Int32) (M_node : Nat → Int32) (M_parent : Nat → Int32) (M_rule : Nat → Int32) (M_child : Nat → Int32) (s1 : Int32) (ls : Array Slot) (H : Heap) (locs : List Loc), lv_has ls 4 [(0, .ref aM)] → va_P g.1 vwCl (wX12 g aM aM_text aM_now aM_trial aM_read aM_diary aM_kept aM_isKept aM_constraint aM_readConstraint aM_word aM_size aM_number aM_firstOne aM_node aM_parent aM_rule aM_child aM_proof aM_witness aM_witnessSize aM_built aM_copyRow M_length M_acts M_next M_many M_readMany M_found M_shortest M_nodes M_solved M_dropped M_fits M_proofSize M_tooLong M_text M_now M_trial M_read M_diary M_kept M_isKept M_constraint M_readConstraint M_word M_size M_number M_firstOne M_node M_parent M_rule M_child M_proof M_witness M_witnessSize M_built M_copyRow) H → va_D A (wX12 g aM aM_text aM_now aM_trial aM_read aM_diary aM_kept aM_isKept aM_constraint aM_readConstraint aM_word aM_size aM_number aM_firstOne aM_node aM_parent aM_rule aM_child aM_proof aM_witness aM_witnessSize aM_built aM_copyRow M_length M_acts M_next M_many M_readMany M_found M_shortest M_nodes M_solved M_dropped M_fits M_proofSize M_tooLong M_text M_now M_trial M_read M_diary M_kept M_isKept M_constraint M_readConstraint M_word M_size M_number M_firstOne M_node M_parent M_rule M_child M_proof M_witness M_witnessSize M_built M_copyRow) → va_S A s.heap H locs → fM_search_58 M_nodes M_dropped M_fits M_trial M_node M_parent M_rule M_child s1 = some (r, M_nodes_o, M_solved_o, M_dropped_o, M_fits_o, M_trial_o, M_node_o, M_parent_o, M_rule_o, M_child_o) → W p l e rmX12_search s m ([.ref aM, .ref aM_now] : List Value).toArray below meth c H locs 0 0 QQ (F0 m 58 ls [.int s1, .ref aM]) := by
    intro M_nodes M_solved M_dropped M_fits M_trial M_node M_parent M_rule M_child s1 ls H locs hl hP hD hS h
    refine va_put (D := g.1) (ci := 11) (v := .int s1) (ty := .int) (C := RX12) (T := TX12) (N := 35) hx hb hts inBX12 tyX12 tyX12_ok nmX12 hown hK hP hD hS 0 rfl rfl 24 (by decide) (hts _ wd4_220) (fun _ h9 => h9) rfl (tyX12_ok 24 (by decide)) rfl rfl (Nat.le_of_ble_eq_true rfl) dX12_search_58 (fun H locs hP hD hS => ?_)
    have hP : va_P g.1 vwCl (wX12 g aM aM_text aM_now aM_trial aM_read aM_diary aM_kept aM_isKept aM_constraint aM_readConstraint aM_word aM_size aM_number aM_firstOne aM_node aM_parent aM_rule aM_child aM_proof aM_witness aM_witnessSize aM_built aM_copyRow M_length M_acts M_next M_many M_readMany M_found M_shortest M_nodes s1 M_dropped M_fits M_proofSize M_tooLong M_text M_now M_trial M_read M_diary M_kept M_isKept M_constraint M_readConstraint M_word M_size M_number M_firstOne M_node M_parent M_rule M_child M_proof M_witness M_witnessSize M_built M_copyRow) H := hP
    have hD : va_D A (wX12 g aM aM_text aM_now aM_trial aM_read aM_diary aM_kept aM_isKept aM_constraint aM_readConstraint aM_word aM_size aM_number aM_firstOne aM_node aM_parent aM_rule aM_child aM_proof aM_witness aM_witnessSize aM_built aM_copyRow M_length M_acts M_next M_many M_readMany M_found M_shortest M_nodes s1 M_dropped M_fits M_proofSize M_tooLong M_text M_now M_trial M_read M_diary M_kept M_isKept M_constraint M_readConstraint M_word M_size M_number M_firstOne M_node M_parent M_rule M_child M_proof M_witness M_witnessSize M_built M_copyRow) := hD
    refine lv_iconst (v := (0 : Int32)) hx hb dX12_search_61 (by decide) ?_
    refine lv_istore_n (lv' := [(2, .int (0 : Int32)), (0, .ref aM)]) hx hb dX12_search_62 rfl hl (by decide) rfl (fun ls hl => ?_)
    exact L63 FU M_nodes s1 M_dropped M_fits M_trial M_node M_parent M_rule M_child (0 : Int32) ls H locs (lv_sub hl [1, 0] rfl) hP hD hS h
  have L2 : ∀ (n2 : Nat), ∀ (M_nodes : Int32) (M_solved : Int32) (M_dropped : Int32) (M_fits : Int32) (M_trial : Nat → Int32) (M_node : Nat → Int32) (M_parent : Nat → Int32) (M_rule : Nat → Int32) (M_child : Nat → Int32) (v2 : Int32) (ls : Array Slot) (H : Heap) (locs : List Loc), lv_has ls 4 [(0, .ref aM), (1, .ref aM_now), (2, .int v2)] → va_P g.1 vwCl (wX12 g aM aM_text aM_now aM_trial aM_read aM_diary aM_kept aM_isKept aM_constraint aM_readConstraint aM_word aM_size aM_number aM_firstOne aM_node aM_parent aM_rule aM_child aM_proof aM_witness aM_witnessSize aM_built aM_copyRow M_length M_acts M_next M_many M_readMany M_found M_shortest M_nodes M_solved M_dropped M_fits M_proofSize M_tooLong M_text M_now M_trial M_read M_diary M_kept M_isKept M_constraint M_readConstraint M_word M_size M_number M_firstOne M_node M_parent M_rule M_child M_proof M_witness M_witnessSize M_built M_copyRow) H → va_D A (wX12 g aM aM_text aM_now aM_trial aM_read aM_diary aM_kept aM_isKept aM_constraint aM_readConstraint aM_word aM_size aM_number aM_firstOne aM_node aM_parent aM_rule aM_child aM_proof aM_witness aM_witnessSize aM_built aM_copyRow M_length M_acts M_next M_many M_readMany M_found M_shortest M_nodes M_solved M_dropped M_fits M_proofSize M_tooLong M_text M_now M_trial M_read M_diary M_kept M_isKept M_constraint M_readConstraint M_word M_size M_number M_firstOne M_node M_parent M_rule M_child M_proof M_witness M_witnessSize M_built M_copyRow) → va_S A s.heap H locs → fx2 (fM_search_2 M_fits M_trial M_parent M_rule M_child M_now) n2 M_node v2 = some (r, M_nodes_o, M_solved_o, M_dropped_o, M_fits_o, M_trial_o, M_node_o, M_parent_o, M_rule_o, M_child_o) → W p l e rmX12_search s m ([.ref aM, .ref aM_now] : List Value).toArray below meth c H locs 0 0 QQ (F0 m 2 ls []) := by
    intro n2
    induction n2 with
    | zero => intro M_nodes M_solved M_dropped M_fits M_trial M_node M_parent M_rule M_child v2 ls H locs hl hP hD hS h; exact fx2_0 h
    | succ n2 ih2 =>
      intro M_nodes M_solved M_dropped M_fits M_trial M_node M_parent M_rule M_child v2 ls H locs hl hP hD hS h
      have h := (fx2_s (fM_search_2 M_fits M_trial M_parent M_rule M_child M_now) n2 M_node v2).symm.trans h
      refine lv_iload_n hx hb dX12_search_2 rfl (lv_at hl 2 rfl) ?_
      refine lv_bipush (v := (26 : Int32)) hx hb dX12_search_3 (by decide) ?_
      refine lv_icmp_ge (tgt := 23) hx hb dX12_search_5 (by decide) (fun q5 => ?_) (fun q5 => ?_)
      · have h := ifT h q5
        refine lv_aload_n hx hb dX12_search_23 rfl (lv_at hl 0 rfl) ?_
        refine lv_iconst (v := (1 : Int32)) hx hb dX12_search_24 (by decide) ?_
        refine va_put (D := g.1) (ci := 11) (v := .int (1 : Int32)) (ty := .int) (C := RX12) (T := TX12) (N := 35) hx hb hts inBX12 tyX12 tyX12_ok nmX12 hown hK hP hD hS 0 rfl rfl 23 (by decide) (hts _ wd4_219) (fun _ h9 => h9) rfl (tyX12_ok 23 (by decide)) rfl rfl (Nat.le_of_ble_eq_true rfl) dX12_search_25 (fun H locs hP hD hS => ?_)
        have hP : va_P g.1 vwCl (wX12 g aM aM_text aM_now aM_trial aM_read aM_diary aM_kept aM_isKept aM_constraint aM_readConstraint aM_word aM_size aM_number aM_firstOne aM_node aM_parent aM_rule aM_child aM_proof aM_witness aM_witnessSize aM_built aM_copyRow M_length M_acts M_next M_many M_readMany M_found M_shortest (1 : Int32) M_solved M_dropped M_fits M_proofSize M_tooLong M_text M_now M_trial M_read M_diary M_kept M_isKept M_constraint M_readConstraint M_word M_size M_number M_firstOne M_node M_parent M_rule M_child M_proof M_witness M_witnessSize M_built M_copyRow) H := hP
        have hD : va_D A (wX12 g aM aM_text aM_now aM_trial aM_read aM_diary aM_kept aM_isKept aM_constraint aM_readConstraint aM_word aM_size aM_number aM_firstOne aM_node aM_parent aM_rule aM_child aM_proof aM_witness aM_witnessSize aM_built aM_copyRow M_length M_acts M_next M_many M_readMany M_found M_shortest (1 : Int32) M_solved M_dropped M_fits M_proofSize M_tooLong M_text M_now M_trial M_read M_diary M_kept M_isKept M_constraint M_readConstraint M_word M_size M_number M_firstOne M_node M_parent M_rule M_child M_proof M_witness M_witnessSize M_built M_copyRow) := hD
        refine lv_aload_n hx hb dX12_search_28 rfl (lv_at hl 0 rfl) ?_
        refine va_get (D := g.1) (ci := 11) (v := .ref aM_parent) (C := RX12) (T := TX12) (N := 35) hx hb hts inBX12 hown hK hP 0 rfl rfl 21 (by decide) (hts _ wd4_217) (fun _ h9 => h9) rfl dX12_search_29 ?_
        refine lv_iconst (v := (0 : Int32)) hx hb dX12_search_32 (by decide) ?_
        refine lv_bipush (v := ((-9) : Int32)) hx hb dX12_search_33 (by decide) ?_
        have hin := sti_in h
        refine va_iast hx hb hK hP hD hS 15 0 rfl rfl hin dX12_search_35 (fun H locs hP hD hS => ?_)
        obtain ⟨M_parent_35, eM_parent_35⟩ : ∃ y : Nat → Int32, y = upd M_parent (Int32.toNatClampNeg (0 : Int32)) ((-9) : Int32) := ⟨_, rfl⟩
        have h := sti_to h eM_parent_35
        have hP : va_P g.1 vwCl (wX12 g aM aM_text aM_now aM_trial aM_read aM_diary aM_kept aM_isKept aM_constraint aM_readConstraint aM_word aM_size aM_number aM_firstOne aM_node aM_parent aM_rule aM_child aM_proof aM_witness aM_witnessSize aM_built aM_copyRow M_length M_acts M_next M_many M_readMany M_found M_shortest (1 : Int32) M_solved M_dropped M_fits M_proofSize M_tooLong M_text M_now M_trial M_read M_diary M_kept M_isKept M_constraint M_readConstraint M_word M_size M_number M_firstOne M_node M_parent_35 M_rule M_child M_proof M_witness M_witnessSize M_built M_copyRow) H := by rw [eM_parent_35]; exact hP
        have hD : va_D A (wX12 g aM aM_text aM_now aM_trial aM_read aM_diary aM_kept aM_isKept aM_constraint aM_readConstraint aM_word aM_size aM_number aM_firstOne aM_node aM_parent aM_rule aM_child aM_proof aM_witness aM_witnessSize aM_built aM_copyRow M_length M_acts M_next M_many M_readMany M_found M_shortest (1 : Int32) M_solved M_dropped M_fits M_proofSize M_tooLong M_text M_now M_trial M_read M_diary M_kept M_isKept M_constraint M_readConstraint M_word M_size M_number M_firstOne M_node M_parent_35 M_rule M_child M_proof M_witness M_witnessSize M_built M_copyRow) := by rw [eM_parent_35]; exact hD
        refine lv_aload_n hx hb dX12_search_36 rfl (lv_at hl 0 rfl) ?_
        refine lv_iconst (v := (0 : Int32)) hx hb dX12_search_37 (by decide) ?_
        refine va_put (D := g.1) (ci := 11) (v := .int (0 : Int32)) (ty := .boolean) (C := RX12) (T := TX12) (N := 35) hx hb hts inBX12 tyX12 tyX12_ok nmX12 hown hK hP hD hS 0 rfl rfl 25 (by decide) (hts _ wd4_221) (fun _ h9 => h9) rfl (tyX12_ok 25 (by decide)) rfl rfl (Nat.le_of_ble_eq_true rfl) dX12_search_38 (fun H locs hP hD hS => ?_)
        have hP : va_P g.1 vwCl (wX12 g aM aM_text aM_now aM_trial aM_read aM_diary aM_kept aM_isKept aM_constraint aM_readConstraint aM_word aM_size aM_number aM_firstOne aM_node aM_parent aM_rule aM_child aM_proof aM_witness aM_witnessSize aM_built aM_copyRow M_length M_acts M_next M_many M_readMany M_found M_shortest (1 : Int32) M_solved (0 : Int32) M_fits M_proofSize M_tooLong M_text M_now M_trial M_read M_diary M_kept M_isKept M_constraint M_readConstraint M_word M_size M_number M_firstOne M_node M_parent_35 M_rule M_child M_proof M_witness M_witnessSize M_built M_copyRow) H := hP
        have hD : va_D A (wX12 g aM aM_text aM_now aM_trial aM_read aM_diary aM_kept aM_isKept aM_constraint aM_readConstraint aM_word aM_size aM_number aM_firstOne aM_node aM_parent aM_rule aM_child aM_proof aM_witness aM_witnessSize aM_built aM_copyRow M_length M_acts M_next M_many M_readMany M_found M_shortest (1 : Int32) M_solved (0 : Int32) M_fits M_proofSize M_tooLong M_text M_now M_trial M_read M_diary M_kept M_isKept M_constraint M_readConstraint M_word M_size M_number M_firstOne M_node M_parent_35 M_rule M_child M_proof M_witness M_witnessSize M_built M_copyRow) := hD
        refine lv_aload_n hx hb dX12_search_41 rfl (lv_at hl 0 rfl) ?_
        refine lv_aload_n hx hb dX12_search_42 rfl (lv_at hl 1 rfl) ?_
        refine lv_iconst (v := (0 : Int32)) hx hb dX12_search_43 (by decide) ?_
        have hin := ld_in h
        refine va_iald hx hb hK hP 2 0 rfl rfl hin dX12_search_44 ?_
        refine lv_topi (fun t44 et44 => ?_)
        have h := ld_to h et44
        refine lv_aload_n hx hb dX12_search_45 rfl (lv_at hl 1 rfl) ?_
        refine lv_iconst (v := (1 : Int32)) hx hb dX12_search_46 (by decide) ?_
        have hin := ld_in h
        refine va_iald hx hb hK hP 2 0 rfl rfl hin dX12_search_47 ?_
        refine lv_topi (fun t47 et47 => ?_)
        have h := ld_to h et47
        refine lv_iadd hx hb dX12_search_48 ?_
        refine lv_if_ne (tgt := 56) hx hb dX12_search_49 (by decide) (fun q49 => ?_) (fun q49 => ?_)
        · have h := ifF h q49
          refine lv_bipush (v := ((-9) : Int32)) hx hb dX12_search_56 (by decide) ?_
          exact B58 (1 : Int32) M_solved (0 : Int32) M_fits M_trial M_node M_parent_35 M_rule M_child ((-9) : Int32) ls H locs (lv_sub hl [0] rfl) hP hD hS h
        have h := ifT h q49
        refine lv_iconst (v := (0 : Int32)) hx hb dX12_search_52 (by decide) ?_
        refine lv_goto (tgt := 58) hx hb dX12_search_53 (by decide) ?_
        exact B58 (1 : Int32) M_solved (0 : Int32) M_fits M_trial M_node M_parent_35 M_rule M_child (0 : Int32) ls H locs (lv_sub hl [0] rfl) hP hD hS h
      have h := ifF h q5
      refine lv_aload_n hx hb dX12_search_8 rfl (lv_at hl 0 rfl) ?_
      refine va_get (D := g.1) (ci := 11) (v := .ref aM_node) (C := RX12) (T := TX12) (N := 35) hx hb hts inBX12 hown hK hP 0 rfl rfl 20 (by decide) (hts _ wd4_216) (fun _ h9 => h9) rfl dX12_search_9 ?_
      refine lv_iload_n hx hb dX12_search_12 rfl (lv_at hl 2 rfl) ?_
      refine lv_aload_n hx hb dX12_search_13 rfl (lv_at hl 1 rfl) ?_
      refine lv_iload_n hx hb dX12_search_14 rfl (lv_at hl 2 rfl) ?_
      have hin := ld_in h
      refine va_iald hx hb hK hP 2 0 rfl rfl hin dX12_search_15 ?_
      refine lv_topi (fun t15 et15 => ?_)
      have h := ld_to h et15
      have hin := sti_in h
      refine va_iast hx hb hK hP hD hS 14 0 rfl rfl hin dX12_search_16 (fun H locs hP hD hS => ?_)
      obtain ⟨M_node_16, eM_node_16⟩ : ∃ y : Nat → Int32, y = upd M_node (Int32.toNatClampNeg v2) t15 := ⟨_, rfl⟩
      have h := sti_to h eM_node_16
      have hP : va_P g.1 vwCl (wX12 g aM aM_text aM_now aM_trial aM_read aM_diary aM_kept aM_isKept aM_constraint aM_readConstraint aM_word aM_size aM_number aM_firstOne aM_node aM_parent aM_rule aM_child aM_proof aM_witness aM_witnessSize aM_built aM_copyRow M_length M_acts M_next M_many M_readMany M_found M_shortest M_nodes M_solved M_dropped M_fits M_proofSize M_tooLong M_text M_now M_trial M_read M_diary M_kept M_isKept M_constraint M_readConstraint M_word M_size M_number M_firstOne M_node_16 M_parent M_rule M_child M_proof M_witness M_witnessSize M_built M_copyRow) H := by rw [eM_node_16]; exact hP
      have hD : va_D A (wX12 g aM aM_text aM_now aM_trial aM_read aM_diary aM_kept aM_isKept aM_constraint aM_readConstraint aM_word aM_size aM_number aM_firstOne aM_node aM_parent aM_rule aM_child aM_proof aM_witness aM_witnessSize aM_built aM_copyRow M_length M_acts M_next M_many M_readMany M_found M_shortest M_nodes M_solved M_dropped M_fits M_proofSize M_tooLong M_text M_now M_trial M_read M_diary M_kept M_isKept M_constraint M_readConstraint M_word M_size M_number M_firstOne M_node_16 M_parent M_rule M_child M_proof M_witness M_witnessSize M_built M_copyRow) := by rw [eM_node_16]; exact hD
      obtain ⟨t17, et17⟩ : ∃ y : Int32, y = v2 + (1 : Int32) := ⟨_, rfl⟩
      refine lv_iinc (v := t17) (lv' := [(2, .int t17), (0, .ref aM), (1, .ref aM_now)]) hx hb dX12_search_17 hl (k := 2) rfl (by rw [et17]; rfl) (by decide) rfl (fun ls hl => ?_)
      have h := st_to h et17
      refine lv_goto (tgt := 2) hx hb dX12_search_20 (by decide) ?_
      exact ih2 M_nodes M_solved M_dropped M_fits M_trial M_node_16 M_parent M_rule M_child t17 ls H locs (lv_sub hl [1, 2, 0] rfl) hP hD hS h
  have hl : lv_has ls 4 [(0, .ref aM), (1, .ref aM_now)] := hl
  obtain ⟨H, hH⟩ : ∃ H, H = s.heap := ⟨_, rfl⟩
  obtain ⟨locs, hlocs⟩ : ∃ l : List Loc, l = [] := ⟨_, rfl⟩
  rw [show W p l e rmX12_search s m ([.ref aM, .ref aM_now] : List Value).toArray below meth c s.heap [] 0 0 QQ (F0 m 0 ls []) = W p l e rmX12_search s m ([.ref aM, .ref aM_now] : List Value).toArray below meth c H locs 0 0 QQ (F0 m 0 ls []) by rw [hH, hlocs]]
  have hP : va_P g.1 vwCl (wX12 g aM aM_text aM_now aM_trial aM_read aM_diary aM_kept aM_isKept aM_constraint aM_readConstraint aM_word aM_size aM_number aM_firstOne aM_node aM_parent aM_rule aM_child aM_proof aM_witness aM_witnessSize aM_built aM_copyRow M_length M_acts M_next M_many M_readMany M_found M_shortest M_nodes M_solved M_dropped M_fits M_proofSize M_tooLong M_text M_now M_trial M_read M_diary M_kept M_isKept M_constraint M_readConstraint M_word M_size M_number M_firstOne M_node M_parent M_rule M_child M_proof M_witness M_witnessSize M_built M_copyRow) H := by rw [hH]; exact hP
  have hD : va_D A (wX12 g aM aM_text aM_now aM_trial aM_read aM_diary aM_kept aM_isKept aM_constraint aM_readConstraint aM_word aM_size aM_number aM_firstOne aM_node aM_parent aM_rule aM_child aM_proof aM_witness aM_witnessSize aM_built aM_copyRow M_length M_acts M_next M_many M_readMany M_found M_shortest M_nodes M_solved M_dropped M_fits M_proofSize M_tooLong M_text M_now M_trial M_read M_diary M_kept M_isKept M_constraint M_readConstraint M_word M_size M_number M_firstOne M_node M_parent M_rule M_child M_proof M_witness M_witnessSize M_built M_copyRow) := hD
  have hS : va_S A s.heap H locs := by rw [hH, hlocs]; exact hS
  clear hH hlocs
  refine lv_iconst (v := (0 : Int32)) hx hb dX12_search_0 (by decide) ?_
  refine lv_istore_n (lv' := [(2, .int (0 : Int32)), (0, .ref aM), (1, .ref aM_now)]) hx hb dX12_search_1 rfl hl (by decide) rfl (fun ls hl => ?_)
  exact L2 FU M_nodes M_solved M_dropped M_fits M_trial M_node M_parent M_rule M_child (0 : Int32) ls H locs (lv_sub hl [1, 2, 0] rfl) hP hD hS h
set_option maxHeartbeats 4000000 in
set_option maxRecDepth 100000 in
theorem mX12_decide (g : GP) (l : Launch) (aM aM_text aM_now aM_trial aM_read aM_diary aM_kept aM_isKept aM_constraint aM_readConstraint aM_word aM_size aM_number aM_firstOne aM_node aM_parent aM_rule aM_child aM_proof aM_witness aM_witnessSize aM_built aM_copyRow : Nat) (M_length : Int32) (M_acts : Int32) (M_next : Int32) (M_many : Int32) (M_readMany : Int32) (M_found : Int32) (M_shortest : Int32) (M_nodes : Int32) (M_solved : Int32) (M_dropped : Int32) (M_fits : Int32) (M_proofSize : Int32) (M_tooLong : Int32) (M_text : Nat → Int32) (M_now : Nat → Int32) (M_trial : Nat → Int32) (M_read : Nat → Int32) (M_diary : Nat → Int32) (M_kept : Nat → Int32) (M_isKept : Nat → Int32) (M_constraint : Nat → Int32) (M_readConstraint : Nat → Int32) (M_word : Nat → Int32) (M_size : Nat → Int32) (M_number : Nat → Int32) (M_firstOne : Nat → Int32) (M_node : Nat → Int32) (M_parent : Nat → Int32) (M_rule : Nat → Int32) (M_child : Nat → Int32) (M_proof : Nat → Int32) (M_witness : Nat → Int32) (M_witnessSize : Nat → Int32) (M_built : Nat → Int32) (M_copyRow : Nat → Int32)  (r : Int32) (M_nodes_o : Int32) (M_solved_o : Int32) (M_dropped_o : Int32) (M_fits_o : Int32) (M_trial_o : Nat → Int32) (M_node_o : Nat → Int32) (M_parent_o : Nat → Int32) (M_rule_o : Nat → Int32) (M_child_o : Nat → Int32) (h : fM_decide M_fits M_now M_trial M_node M_parent M_rule M_child = some (r, M_nodes_o, M_solved_o, M_dropped_o, M_fits_o, M_trial_o, M_node_o, M_parent_o, M_rule_o, M_child_o)) : Ct g l yX12_decide cX12_decide 1 (some .int) rmX12_decide [.ref aM] (wX12 g aM aM_text aM_now aM_trial aM_read aM_diary aM_kept aM_isKept aM_constraint aM_readConstraint aM_word aM_size aM_number aM_firstOne aM_node aM_parent aM_rule aM_child aM_proof aM_witness aM_witnessSize aM_built aM_copyRow M_length M_acts M_next M_many M_readMany M_found M_shortest M_nodes M_solved M_dropped M_fits M_proofSize M_tooLong M_text M_now M_trial M_read M_diary M_kept M_isKept M_constraint M_readConstraint M_word M_size M_number M_firstOne M_node M_parent M_rule M_child M_proof M_witness M_witnessSize M_built M_copyRow) (some (.int r)) (wX12 g aM aM_text aM_now aM_trial aM_read aM_diary aM_kept aM_isKept aM_constraint aM_readConstraint aM_word aM_size aM_number aM_firstOne aM_node aM_parent aM_rule aM_child aM_proof aM_witness aM_witnessSize aM_built aM_copyRow M_length M_acts M_next M_many M_readMany M_found M_shortest M_nodes_o M_solved_o M_dropped_o M_fits_o M_proofSize M_tooLong M_text M_now M_trial_o M_read M_diary M_kept M_isKept M_constraint M_readConstraint M_word M_size M_number M_firstOne M_node_o M_parent_o M_rule_o M_child_o M_proof M_witness M_witnessSize M_built M_copyRow) := by
  refine Ct.introI (by decide) (Nat.le_of_ble_eq_true rfl) ?_
  intro p e s m below meth c A QQ ls hyp hret
  obtain ⟨hx, hb, hml, hts, hown, hA, hE, hP, hD, hl⟩ := hyp
  have hK := hE.1
  have hS : va_S A s.heap s.heap [] := va_S.rf
  have X : Here g p s m c cX12_decide 1 ([.ref aM] : List Value).toArray RX12 A := ⟨⟨hx, hb, hml, hown, hts⟩, hE, hA⟩
  have hl : lv_has ls 1 [(0, .ref aM)] := hl
  obtain ⟨H, hH⟩ : ∃ H, H = s.heap := ⟨_, rfl⟩
  obtain ⟨locs, hlocs⟩ : ∃ l : List Loc, l = [] := ⟨_, rfl⟩
  rw [show W p l e rmX12_decide s m ([.ref aM] : List Value).toArray below meth c s.heap [] 0 0 QQ (F0 m 0 ls []) = W p l e rmX12_decide s m ([.ref aM] : List Value).toArray below meth c H locs 0 0 QQ (F0 m 0 ls []) by rw [hH, hlocs]]
  have hP : va_P g.1 vwCl (wX12 g aM aM_text aM_now aM_trial aM_read aM_diary aM_kept aM_isKept aM_constraint aM_readConstraint aM_word aM_size aM_number aM_firstOne aM_node aM_parent aM_rule aM_child aM_proof aM_witness aM_witnessSize aM_built aM_copyRow M_length M_acts M_next M_many M_readMany M_found M_shortest M_nodes M_solved M_dropped M_fits M_proofSize M_tooLong M_text M_now M_trial M_read M_diary M_kept M_isKept M_constraint M_readConstraint M_word M_size M_number M_firstOne M_node M_parent M_rule M_child M_proof M_witness M_witnessSize M_built M_copyRow) H := by rw [hH]; exact hP
  have hD : va_D A (wX12 g aM aM_text aM_now aM_trial aM_read aM_diary aM_kept aM_isKept aM_constraint aM_readConstraint aM_word aM_size aM_number aM_firstOne aM_node aM_parent aM_rule aM_child aM_proof aM_witness aM_witnessSize aM_built aM_copyRow M_length M_acts M_next M_many M_readMany M_found M_shortest M_nodes M_solved M_dropped M_fits M_proofSize M_tooLong M_text M_now M_trial M_read M_diary M_kept M_isKept M_constraint M_readConstraint M_word M_size M_number M_firstOne M_node M_parent M_rule M_child M_proof M_witness M_witnessSize M_built M_copyRow) := hD
  have hS : va_S A s.heap H locs := by rw [hH, hlocs]; exact hS
  clear hH hlocs
  refine lv_aload_n hx hb dX12_decide_0 rfl (lv_at hl 0 rfl) ?_
  refine lv_aload_n hx hb dX12_decide_1 rfl (lv_at hl 0 rfl) ?_
  refine va_get (D := g.1) (ci := 11) (v := .ref aM_now) (C := RX12) (T := TX12) (N := 35) hx hb hts inBX12 hown hK hP 0 rfl rfl 2 (by decide) (hts _ wd4_198) (fun _ h9 => h9) rfl dX12_decide_2 ?_
  obtain ⟨t5, M_nodes_5, M_solved_5, M_dropped_5, M_fits_5, M_trial_5, M_node_5, M_parent_5, M_rule_5, M_child_5, hc5, h⟩ := bd10_to h
  refine go_A (st1 := [.int t5]) (run_V (As := [.ref aM_now]) (rest := []) X hS (mX12_search_now g l  aM aM_text aM_now aM_trial aM_read aM_diary aM_kept aM_isKept aM_constraint aM_readConstraint aM_word aM_size aM_number aM_firstOne aM_node aM_parent aM_rule aM_child aM_proof aM_witness aM_witnessSize aM_built aM_copyRow M_length M_acts M_next M_many M_readMany M_found M_shortest M_nodes M_solved M_dropped M_fits M_proofSize M_tooLong M_text M_now M_trial M_read M_diary M_kept M_isKept M_constraint M_readConstraint M_word M_size M_number M_firstOne M_node M_parent M_rule M_child M_proof M_witness M_witnessSize M_built M_copyRow t5 M_nodes_5 M_solved_5 M_dropped_5 M_fits_5 M_trial_5 M_node_5 M_parent_5 M_rule_5 M_child_5 hc5) okX12_search wd5_225 ⟨Nat.le_of_ble_eq_true rfl, Nat.le_of_ble_eq_true rfl⟩ ⟨rfl, rfl⟩ (va_recv hK hP (ci := 11) (q0 := 0) rfl rfl) hP hD (all_F hS hA hD) rfl hl.1 rfl (Nat.le_of_ble_eq_true rfl) dX12_decide_5 ⟨Nat.zero_le _, Nat.zero_le _⟩) hS (all_F hS hA hD) rfl (fun H locs hP hD hS => ?_)
  have h : some (t5, M_nodes_5, M_solved_5, M_dropped_5, M_fits_5, M_trial_5, M_node_5, M_parent_5, M_rule_5, M_child_5) = some (r, M_nodes_o, M_solved_o, M_dropped_o, M_fits_o, M_trial_o, M_node_o, M_parent_o, M_rule_o, M_child_o) := h
  cases h
  exact hret _ _ _ _ hP hD hS dX12_decide_8
set_option maxHeartbeats 4000000 in
set_option maxRecDepth 100000 in
theorem mX12_nodeCount (g : GP) (l : Launch) (aM aM_text aM_now aM_trial aM_read aM_diary aM_kept aM_isKept aM_constraint aM_readConstraint aM_word aM_size aM_number aM_firstOne aM_node aM_parent aM_rule aM_child aM_proof aM_witness aM_witnessSize aM_built aM_copyRow : Nat) (M_length : Int32) (M_acts : Int32) (M_next : Int32) (M_many : Int32) (M_readMany : Int32) (M_found : Int32) (M_shortest : Int32) (M_nodes : Int32) (M_solved : Int32) (M_dropped : Int32) (M_fits : Int32) (M_proofSize : Int32) (M_tooLong : Int32) (M_text : Nat → Int32) (M_now : Nat → Int32) (M_trial : Nat → Int32) (M_read : Nat → Int32) (M_diary : Nat → Int32) (M_kept : Nat → Int32) (M_isKept : Nat → Int32) (M_constraint : Nat → Int32) (M_readConstraint : Nat → Int32) (M_word : Nat → Int32) (M_size : Nat → Int32) (M_number : Nat → Int32) (M_firstOne : Nat → Int32) (M_node : Nat → Int32) (M_parent : Nat → Int32) (M_rule : Nat → Int32) (M_child : Nat → Int32) (M_proof : Nat → Int32) (M_witness : Nat → Int32) (M_witnessSize : Nat → Int32) (M_built : Nat → Int32) (M_copyRow : Nat → Int32)  (r : Int32) (M_nodes_o : Int32) (M_solved_o : Int32) (M_dropped_o : Int32) (M_fits_o : Int32) (M_trial_o : Nat → Int32) (M_node_o : Nat → Int32) (M_parent_o : Nat → Int32) (M_rule_o : Nat → Int32) (M_child_o : Nat → Int32) (h : fM_nodeCount M_fits M_now M_trial M_node M_parent M_rule M_child = some (r, M_nodes_o, M_solved_o, M_dropped_o, M_fits_o, M_trial_o, M_node_o, M_parent_o, M_rule_o, M_child_o)) : Ct g l yX12_nodeCount cX12_nodeCount 2 (some .int) rmX12_nodeCount [.ref aM] (wX12 g aM aM_text aM_now aM_trial aM_read aM_diary aM_kept aM_isKept aM_constraint aM_readConstraint aM_word aM_size aM_number aM_firstOne aM_node aM_parent aM_rule aM_child aM_proof aM_witness aM_witnessSize aM_built aM_copyRow M_length M_acts M_next M_many M_readMany M_found M_shortest M_nodes M_solved M_dropped M_fits M_proofSize M_tooLong M_text M_now M_trial M_read M_diary M_kept M_isKept M_constraint M_readConstraint M_word M_size M_number M_firstOne M_node M_parent M_rule M_child M_proof M_witness M_witnessSize M_built M_copyRow) (some (.int r)) (wX12 g aM aM_text aM_now aM_trial aM_read aM_diary aM_kept aM_isKept aM_constraint aM_readConstraint aM_word aM_size aM_number aM_firstOne aM_node aM_parent aM_rule aM_child aM_proof aM_witness aM_witnessSize aM_built aM_copyRow M_length M_acts M_next M_many M_readMany M_found M_shortest M_nodes_o M_solved_o M_dropped_o M_fits_o M_proofSize M_tooLong M_text M_now M_trial_o M_read M_diary M_kept M_isKept M_constraint M_readConstraint M_word M_size M_number M_firstOne M_node_o M_parent_o M_rule_o M_child_o M_proof M_witness M_witnessSize M_built M_copyRow) := by
  refine Ct.introI (by decide) (Nat.le_of_ble_eq_true rfl) ?_
  intro p e s m below meth c A QQ ls hyp hret
  obtain ⟨hx, hb, hml, hts, hown, hA, hE, hP, hD, hl⟩ := hyp
  have hK := hE.1
  have hS : va_S A s.heap s.heap [] := va_S.rf
  have X : Here g p s m c cX12_nodeCount 2 ([.ref aM] : List Value).toArray RX12 A := ⟨⟨hx, hb, hml, hown, hts⟩, hE, hA⟩
  have hl : lv_has ls 2 [(0, .ref aM)] := hl
  obtain ⟨H, hH⟩ : ∃ H, H = s.heap := ⟨_, rfl⟩
  obtain ⟨locs, hlocs⟩ : ∃ l : List Loc, l = [] := ⟨_, rfl⟩
  rw [show W p l e rmX12_nodeCount s m ([.ref aM] : List Value).toArray below meth c s.heap [] 0 0 QQ (F0 m 0 ls []) = W p l e rmX12_nodeCount s m ([.ref aM] : List Value).toArray below meth c H locs 0 0 QQ (F0 m 0 ls []) by rw [hH, hlocs]]
  have hP : va_P g.1 vwCl (wX12 g aM aM_text aM_now aM_trial aM_read aM_diary aM_kept aM_isKept aM_constraint aM_readConstraint aM_word aM_size aM_number aM_firstOne aM_node aM_parent aM_rule aM_child aM_proof aM_witness aM_witnessSize aM_built aM_copyRow M_length M_acts M_next M_many M_readMany M_found M_shortest M_nodes M_solved M_dropped M_fits M_proofSize M_tooLong M_text M_now M_trial M_read M_diary M_kept M_isKept M_constraint M_readConstraint M_word M_size M_number M_firstOne M_node M_parent M_rule M_child M_proof M_witness M_witnessSize M_built M_copyRow) H := by rw [hH]; exact hP
  have hD : va_D A (wX12 g aM aM_text aM_now aM_trial aM_read aM_diary aM_kept aM_isKept aM_constraint aM_readConstraint aM_word aM_size aM_number aM_firstOne aM_node aM_parent aM_rule aM_child aM_proof aM_witness aM_witnessSize aM_built aM_copyRow M_length M_acts M_next M_many M_readMany M_found M_shortest M_nodes M_solved M_dropped M_fits M_proofSize M_tooLong M_text M_now M_trial M_read M_diary M_kept M_isKept M_constraint M_readConstraint M_word M_size M_number M_firstOne M_node M_parent M_rule M_child M_proof M_witness M_witnessSize M_built M_copyRow) := hD
  have hS : va_S A s.heap H locs := by rw [hH, hlocs]; exact hS
  clear hH hlocs
  refine lv_aload_n hx hb dX12_nodeCount_0 rfl (lv_at hl 0 rfl) ?_
  refine lv_aload_n hx hb dX12_nodeCount_1 rfl (lv_at hl 0 rfl) ?_
  refine va_get (D := g.1) (ci := 11) (v := .ref aM_now) (C := RX12) (T := TX12) (N := 35) hx hb hts inBX12 hown hK hP 0 rfl rfl 2 (by decide) (hts _ wd4_198) (fun _ h9 => h9) rfl dX12_nodeCount_2 ?_
  obtain ⟨t5, M_nodes_5, M_solved_5, M_dropped_5, M_fits_5, M_trial_5, M_node_5, M_parent_5, M_rule_5, M_child_5, hc5, h⟩ := bd10_to h
  refine go_A (st1 := [.int t5]) (run_V (As := [.ref aM_now]) (rest := []) X hS (mX12_search_now g l  aM aM_text aM_now aM_trial aM_read aM_diary aM_kept aM_isKept aM_constraint aM_readConstraint aM_word aM_size aM_number aM_firstOne aM_node aM_parent aM_rule aM_child aM_proof aM_witness aM_witnessSize aM_built aM_copyRow M_length M_acts M_next M_many M_readMany M_found M_shortest M_nodes M_solved M_dropped M_fits M_proofSize M_tooLong M_text M_now M_trial M_read M_diary M_kept M_isKept M_constraint M_readConstraint M_word M_size M_number M_firstOne M_node M_parent M_rule M_child M_proof M_witness M_witnessSize M_built M_copyRow t5 M_nodes_5 M_solved_5 M_dropped_5 M_fits_5 M_trial_5 M_node_5 M_parent_5 M_rule_5 M_child_5 hc5) okX12_search wd5_225 ⟨Nat.le_of_ble_eq_true rfl, Nat.le_of_ble_eq_true rfl⟩ ⟨rfl, rfl⟩ (va_recv hK hP (ci := 11) (q0 := 0) rfl rfl) hP hD (all_F hS hA hD) rfl hl.1 rfl (Nat.le_of_ble_eq_true rfl) dX12_nodeCount_5 ⟨Nat.zero_le _, Nat.zero_le _⟩) hS (all_F hS hA hD) rfl (fun H locs hP hD hS => ?_)
  refine lv_istore_n (lv' := [(1, .int t5), (0, .ref aM)]) hx hb dX12_nodeCount_8 rfl hl (by decide) rfl (fun ls hl => ?_)
  refine lv_aload_n hx hb dX12_nodeCount_9 rfl (lv_at hl 1 rfl) ?_
  refine va_get (D := g.1) (ci := 11) (v := .int M_nodes_5) (C := RX12) (T := TX12) (N := 35) hx hb hts inBX12 hown hK hP 0 rfl rfl 23 (by decide) (hts _ wd4_219) (fun _ h9 => h9) rfl dX12_nodeCount_10 ?_
  have h : some (M_nodes_5, M_nodes_5, M_solved_5, M_dropped_5, M_fits_5, M_trial_5, M_node_5, M_parent_5, M_rule_5, M_child_5) = some (r, M_nodes_o, M_solved_o, M_dropped_o, M_fits_o, M_trial_o, M_node_o, M_parent_o, M_rule_o, M_child_o) := h
  cases h
  exact hret _ _ _ _ hP hD hS dX12_nodeCount_13
