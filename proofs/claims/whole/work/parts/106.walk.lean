set_option maxHeartbeats 4000000 in
set_option maxRecDepth 100000 in
theorem mX12_countOf (g : GP) (l : Launch) (aR0 : Nat) (R0 : Nat → Int32) (x1 : Int32) (x2 : Int32) (r : Int32) (h : fM_countOf R0 x1 x2 = some r) : Ct g l yX12_countOf cX12_countOf 5 (some .int) rmX12_countOf [.ref aR0, .int x1, .int x2] [(aR0, .inl (g.2.1 0, 26, .inl R0))] (some (.int r)) [(aR0, .inl (g.2.1 0, 26, .inl R0))] := by
  refine Ct.introI (by decide) (Nat.le_of_ble_eq_true rfl) ?_
  intro p e s m below meth c A QQ ls hyp hret
  obtain ⟨hx, hb, hml, hts, hown, hA, hE, hP, hD, hl⟩ := hyp
  have hK := hE.1
  have hS : va_S A s.heap s.heap [] := va_S.rf
  have X : Here g p s m c cX12_countOf 5 ([.ref aR0, .int x1, .int x2] : List Value).toArray RX12 A := ⟨⟨hx, hb, hml, hown, hts⟩, hE, hA⟩
  have L5 : ∀ (n5 : Nat), ∀ (v3 : Int32) (v4 : Int32) (ls : Array Slot) (H : Heap) (locs : List Loc), lv_has ls 5 [(0, .ref aR0), (1, .int x1), (2, .int x2), (3, .int v3), (4, .int v4)] → va_P g.1 vwCl [(aR0, .inl (g.2.1 0, 26, .inl R0))] H → va_D A [(aR0, .inl (g.2.1 0, 26, .inl R0))] → va_S A s.heap H locs → fx2 (fM_countOf_5 R0 x1 x2) n5 v3 v4 = some r → W p l e rmX12_countOf s m ([.ref aR0, .int x1, .int x2] : List Value).toArray below meth c H locs 0 0 QQ (F0 m 5 ls []) := by
    intro n5
    induction n5 with
    | zero => intro v3 v4 ls H locs hl hP hD hS h; exact fx2_0 h
    | succ n5 ih5 =>
      intro v3 v4 ls H locs hl hP hD hS h
      have h := (fx2_s (fM_countOf_5 R0 x1 x2) n5 v3 v4).symm.trans h
      refine lv_iload hx hb dX12_countOf_5 (lv_at hl 4 rfl) ?_
      refine lv_aload_n hx hb dX12_countOf_7 rfl (lv_at hl 0 rfl) ?_
      refine lv_iload_n hx hb dX12_countOf_8 rfl (lv_at hl 1 rfl) ?_
      have hin := ld_in h
      refine va_iald hx hb hK hP 0 0 rfl rfl hin dX12_countOf_9 ?_
      refine lv_topi (fun t9 et9 => ?_)
      have h := ld_to h et9
      refine lv_icmp_ge (tgt := 39) hx hb dX12_countOf_10 (by decide) (fun q10 => ?_) (fun q10 => ?_)
      · have h := ifT h q10
        refine lv_iload_n hx hb dX12_countOf_39 rfl (lv_at hl 3 rfl) ?_
        have h : some v3 = some r := h
        cases h
        exact hret _ _ _ _ hP hD hS dX12_countOf_40
      have h := ifF h q10
      refine lv_iload_n hx hb dX12_countOf_13 rfl (lv_at hl 3 rfl) ?_
      refine lv_aload_n hx hb dX12_countOf_14 rfl (lv_at hl 0 rfl) ?_
      refine lv_iload_n hx hb dX12_countOf_15 rfl (lv_at hl 1 rfl) ?_
      refine lv_iload hx hb dX12_countOf_16 (lv_at hl 4 rfl) ?_
      obtain ⟨t18, hc18, h⟩ := bd1_to h
      refine go_0 (st1 := [.int t18, .ref aR0, .int v3]) (run_S (As := [.int x1, .int v4]) (rest := [.ref aR0, .int v3]) X hS (mX12_at g l  x1 v4 t18 hc18) okX12_at wd5_87 ⟨Nat.le_of_ble_eq_true rfl, Nat.le_of_ble_eq_true rfl⟩ ⟨rfl, rfl⟩ nil_P nil_D (nil_F hS hA) rfl hl.1 rfl (Nat.le_of_ble_eq_true rfl) dX12_countOf_18 ⟨Nat.zero_le _, Nat.zero_le _⟩) hS hA hP rfl (fun H locs hP hS => ?_)
      have hin := ld_in h
      refine va_iald hx hb hK hP 0 0 rfl rfl hin dX12_countOf_21 ?_
      refine lv_topi (fun t21 et21 => ?_)
      have h := ld_to h et21
      refine lv_iload_n hx hb dX12_countOf_22 rfl (lv_at hl 2 rfl) ?_
      refine lv_icmp_ne (tgt := 30) hx hb dX12_countOf_23 (by decide) (fun q23 => ?_) (fun q23 => ?_)
      · have h := ifF h q23
        refine lv_iconst (v := (0 : Int32)) hx hb dX12_countOf_30 (by decide) ?_
        refine lv_iadd hx hb dX12_countOf_31 ?_
        refine lv_topi (fun t32 et32 => ?_)
        have h := st_to h et32
        refine lv_istore_n (lv' := [(3, .int t32), (0, .ref aR0), (1, .int x1), (2, .int x2), (4, .int v4)]) hx hb dX12_countOf_32 rfl hl (by decide) rfl (fun ls hl => ?_)
        obtain ⟨t33, et33⟩ : ∃ y : Int32, y = v4 + (1 : Int32) := ⟨_, rfl⟩
        refine lv_iinc (v := t33) (lv' := [(4, .int t33), (3, .int t32), (0, .ref aR0), (1, .int x1), (2, .int x2)]) hx hb dX12_countOf_33 hl (k := 4) rfl (by rw [et33]; rfl) (by decide) rfl (fun ls hl => ?_)
        have h := st_to h et33
        refine lv_goto (tgt := 5) hx hb dX12_countOf_36 (by decide) ?_
        exact ih5 t32 t33 ls H locs (lv_sub hl [2, 3, 4, 1, 0] rfl) hP hD hS h
      have h := ifT h q23
      refine lv_iconst (v := (1 : Int32)) hx hb dX12_countOf_26 (by decide) ?_
      refine lv_goto (tgt := 31) hx hb dX12_countOf_27 (by decide) ?_
      refine lv_iadd hx hb dX12_countOf_31 ?_
      refine lv_topi (fun t32 et32 => ?_)
      have h := st_to h et32
      refine lv_istore_n (lv' := [(3, .int t32), (0, .ref aR0), (1, .int x1), (2, .int x2), (4, .int v4)]) hx hb dX12_countOf_32 rfl hl (by decide) rfl (fun ls hl => ?_)
      obtain ⟨t33, et33⟩ : ∃ y : Int32, y = v4 + (1 : Int32) := ⟨_, rfl⟩
      refine lv_iinc (v := t33) (lv' := [(4, .int t33), (3, .int t32), (0, .ref aR0), (1, .int x1), (2, .int x2)]) hx hb dX12_countOf_33 hl (k := 4) rfl (by rw [et33]; rfl) (by decide) rfl (fun ls hl => ?_)
      have h := st_to h et33
      refine lv_goto (tgt := 5) hx hb dX12_countOf_36 (by decide) ?_
      exact ih5 t32 t33 ls H locs (lv_sub hl [2, 3, 4, 1, 0] rfl) hP hD hS h
  have hl : lv_has ls 5 [(0, .ref aR0), (1, .int x1), (2, .int x2)] := hl
  obtain ⟨H, hH⟩ : ∃ H, H = s.heap := ⟨_, rfl⟩
  obtain ⟨locs, hlocs⟩ : ∃ l : List Loc, l = [] := ⟨_, rfl⟩
  rw [show W p l e rmX12_countOf s m ([.ref aR0, .int x1, .int x2] : List Value).toArray below meth c s.heap [] 0 0 QQ (F0 m 0 ls []) = W p l e rmX12_countOf s m ([.ref aR0, .int x1, .int x2] : List Value).toArray below meth c H locs 0 0 QQ (F0 m 0 ls []) by rw [hH, hlocs]]
  have hP : va_P g.1 vwCl [(aR0, .inl (g.2.1 0, 26, .inl R0))] H := by rw [hH]; exact hP
  have hD : va_D A [(aR0, .inl (g.2.1 0, 26, .inl R0))] := hD
  have hS : va_S A s.heap H locs := by rw [hH, hlocs]; exact hS
  clear hH hlocs
  refine lv_iconst (v := (0 : Int32)) hx hb dX12_countOf_0 (by decide) ?_
  refine lv_istore_n (lv' := [(3, .int (0 : Int32)), (0, .ref aR0), (1, .int x1), (2, .int x2)]) hx hb dX12_countOf_1 rfl hl (by decide) rfl (fun ls hl => ?_)
  refine lv_iconst (v := (0 : Int32)) hx hb dX12_countOf_2 (by decide) ?_
  refine lv_istore (lv' := [(4, .int (0 : Int32)), (3, .int (0 : Int32)), (0, .ref aR0), (1, .int x1), (2, .int x2)]) hx hb dX12_countOf_3 hl (by decide) rfl (fun ls hl => ?_)
  exact L5 FU (0 : Int32) (0 : Int32) ls H locs (lv_sub hl [2, 3, 4, 1, 0] rfl) hP hD hS h
set_option maxHeartbeats 4000000 in
set_option maxRecDepth 100000 in
theorem mX12_occurrences (g : GP) (l : Launch) (aM aM_text aM_now aM_trial aM_read aM_diary aM_kept aM_isKept aM_constraint aM_readConstraint aM_word aM_size aM_number aM_firstOne aM_node aM_parent aM_rule aM_child aM_proof aM_witness aM_witnessSize aM_built aM_copyRow : Nat) (M_length : Int32) (M_acts : Int32) (M_next : Int32) (M_many : Int32) (M_readMany : Int32) (M_found : Int32) (M_shortest : Int32) (M_nodes : Int32) (M_solved : Int32) (M_dropped : Int32) (M_fits : Int32) (M_proofSize : Int32) (M_tooLong : Int32) (M_text : Nat → Int32) (M_now : Nat → Int32) (M_trial : Nat → Int32) (M_read : Nat → Int32) (M_diary : Nat → Int32) (M_kept : Nat → Int32) (M_isKept : Nat → Int32) (M_constraint : Nat → Int32) (M_readConstraint : Nat → Int32) (M_word : Nat → Int32) (M_size : Nat → Int32) (M_number : Nat → Int32) (M_firstOne : Nat → Int32) (M_node : Nat → Int32) (M_parent : Nat → Int32) (M_rule : Nat → Int32) (M_child : Nat → Int32) (M_proof : Nat → Int32) (M_witness : Nat → Int32) (M_witnessSize : Nat → Int32) (M_built : Nat → Int32) (M_copyRow : Nat → Int32) (x1 : Int32) (x2 : Int32) (r : Int32) (h : fM_occurrences M_now x1 x2 = some r) : Ct g l yX12_occurrences cX12_occurrences 3 (some .int) rmX12_occurrences [.ref aM, .int x1, .int x2] (wX12 g aM aM_text aM_now aM_trial aM_read aM_diary aM_kept aM_isKept aM_constraint aM_readConstraint aM_word aM_size aM_number aM_firstOne aM_node aM_parent aM_rule aM_child aM_proof aM_witness aM_witnessSize aM_built aM_copyRow M_length M_acts M_next M_many M_readMany M_found M_shortest M_nodes M_solved M_dropped M_fits M_proofSize M_tooLong M_text M_now M_trial M_read M_diary M_kept M_isKept M_constraint M_readConstraint M_word M_size M_number M_firstOne M_node M_parent M_rule M_child M_proof M_witness M_witnessSize M_built M_copyRow) (some (.int r)) (wX12 g aM aM_text aM_now aM_trial aM_read aM_diary aM_kept aM_isKept aM_constraint aM_readConstraint aM_word aM_size aM_number aM_firstOne aM_node aM_parent aM_rule aM_child aM_proof aM_witness aM_witnessSize aM_built aM_copyRow M_length M_acts M_next M_many M_readMany M_found M_shortest M_nodes M_solved M_dropped M_fits M_proofSize M_tooLong M_text M_now M_trial M_read M_diary M_kept M_isKept M_constraint M_readConstraint M_word M_size M_number M_firstOne M_node M_parent M_rule M_child M_proof M_witness M_witnessSize M_built M_copyRow) := by
  refine Ct.introI (by decide) (Nat.le_of_ble_eq_true rfl) ?_
  intro p e s m below meth c A QQ ls hyp hret
  obtain ⟨hx, hb, hml, hts, hown, hA, hE, hP, hD, hl⟩ := hyp
  have hK := hE.1
  have hS : va_S A s.heap s.heap [] := va_S.rf
  have X : Here g p s m c cX12_occurrences 3 ([.ref aM, .int x1, .int x2] : List Value).toArray RX12 A := ⟨⟨hx, hb, hml, hown, hts⟩, hE, hA⟩
  have hl : lv_has ls 3 [(0, .ref aM), (1, .int x1), (2, .int x2)] := hl
  obtain ⟨H, hH⟩ : ∃ H, H = s.heap := ⟨_, rfl⟩
  obtain ⟨locs, hlocs⟩ : ∃ l : List Loc, l = [] := ⟨_, rfl⟩
  rw [show W p l e rmX12_occurrences s m ([.ref aM, .int x1, .int x2] : List Value).toArray below meth c s.heap [] 0 0 QQ (F0 m 0 ls []) = W p l e rmX12_occurrences s m ([.ref aM, .int x1, .int x2] : List Value).toArray below meth c H locs 0 0 QQ (F0 m 0 ls []) by rw [hH, hlocs]]
  have hP : va_P g.1 vwCl (wX12 g aM aM_text aM_now aM_trial aM_read aM_diary aM_kept aM_isKept aM_constraint aM_readConstraint aM_word aM_size aM_number aM_firstOne aM_node aM_parent aM_rule aM_child aM_proof aM_witness aM_witnessSize aM_built aM_copyRow M_length M_acts M_next M_many M_readMany M_found M_shortest M_nodes M_solved M_dropped M_fits M_proofSize M_tooLong M_text M_now M_trial M_read M_diary M_kept M_isKept M_constraint M_readConstraint M_word M_size M_number M_firstOne M_node M_parent M_rule M_child M_proof M_witness M_witnessSize M_built M_copyRow) H := by rw [hH]; exact hP
  have hD : va_D A (wX12 g aM aM_text aM_now aM_trial aM_read aM_diary aM_kept aM_isKept aM_constraint aM_readConstraint aM_word aM_size aM_number aM_firstOne aM_node aM_parent aM_rule aM_child aM_proof aM_witness aM_witnessSize aM_built aM_copyRow M_length M_acts M_next M_many M_readMany M_found M_shortest M_nodes M_solved M_dropped M_fits M_proofSize M_tooLong M_text M_now M_trial M_read M_diary M_kept M_isKept M_constraint M_readConstraint M_word M_size M_number M_firstOne M_node M_parent M_rule M_child M_proof M_witness M_witnessSize M_built M_copyRow) := hD
  have hS : va_S A s.heap H locs := by rw [hH, hlocs]; exact hS
  clear hH hlocs
  refine lv_iload_n hx hb dX12_occurrences_0 rfl (lv_at hl 1 rfl) ?_
  refine lv_i2l (v := (Int32.toInt64 x1)) hx hb dX12_occurrences_1 rfl ?_
  refine lv_lconst (v := (0 : Int64)) hx hb dX12_occurrences_2 (by decide) ?_
  refine lv_lconst (v := (1 : Int64)) hx hb dX12_occurrences_3 (by decide) ?_
  obtain ⟨t4, hc4, h⟩ := bd1_to h
  refine go_0 (st1 := [.int t4]) (run_S (As := [.long (Int32.toInt64 x1), .long (0 : Int64), .long (1 : Int64)]) (rest := []) X hS (mX12_in g l  (Int32.toInt64 x1) (0 : Int64) (1 : Int64) t4 hc4) okX12_in wd5_67 ⟨Nat.le_of_ble_eq_true rfl, Nat.le_of_ble_eq_true rfl⟩ ⟨rfl, rfl⟩ nil_P nil_D (nil_F hS hA) rfl hl.1 rfl (Nat.le_of_ble_eq_true rfl) dX12_occurrences_4 ⟨Nat.zero_le _, Nat.zero_le _⟩) hS hA hP rfl (fun H locs hP hS => ?_)
  refine lv_if_eq (tgt := 31) hx hb dX12_occurrences_7 (by decide) (fun q7 => ?_) (fun q7 => ?_)
  · have h := ifT h q7
    refine lv_iconst (v := ((-1) : Int32)) hx hb dX12_occurrences_31 (by decide) ?_
    have h : some ((-1) : Int32) = some r := h
    cases h
    exact hret _ _ _ _ hP hD hS dX12_occurrences_32
  have h := ifF h q7
  refine lv_iload_n hx hb dX12_occurrences_10 rfl (lv_at hl 2 rfl) ?_
  obtain ⟨t11, hc11, h⟩ := bd1_to h
  refine go_0 (st1 := [.int t11]) (run_S (As := [.int x2]) (rest := []) X hS (mX12_isVariable g l  x2 t11 hc11) okX12_isVariable wd5_120 ⟨Nat.le_of_ble_eq_true rfl, Nat.le_of_ble_eq_true rfl⟩ ⟨rfl, rfl⟩ nil_P nil_D (nil_F hS hA) rfl hl.1 rfl (Nat.le_of_ble_eq_true rfl) dX12_occurrences_11 ⟨Nat.zero_le _, Nat.zero_le _⟩) hS hA hP rfl (fun H locs hP hS => ?_)
  refine lv_if_eq (tgt := 31) hx hb dX12_occurrences_14 (by decide) (fun q14 => ?_) (fun q14 => ?_)
  · have h := ifT h q14
    refine lv_iconst (v := ((-1) : Int32)) hx hb dX12_occurrences_31 (by decide) ?_
    have h : some ((-1) : Int32) = some r := h
    cases h
    exact hret _ _ _ _ hP hD hS dX12_occurrences_32
  have h := ifF h q14
  refine lv_aload_n hx hb dX12_occurrences_17 rfl (lv_at hl 0 rfl) ?_
  refine va_get (D := g.1) (ci := 11) (v := .ref aM_now) (C := RX12) (T := TX12) (N := 35) hx hb hts inBX12 hown hK hP 0 rfl rfl 2 (by decide) (hts _ wd4_198) (fun _ h9 => h9) rfl dX12_occurrences_18 ?_
  refine lv_iload_n hx hb dX12_occurrences_21 rfl (lv_at hl 1 rfl) ?_
  refine lv_iload_n hx hb dX12_occurrences_22 rfl (lv_at hl 2 rfl) ?_
  refine lv_iconst (v := (2 : Int32)) hx hb dX12_occurrences_23 (by decide) ?_
  refine lv_iadd hx hb dX12_occurrences_24 ?_
  obtain ⟨t25, hc25, h⟩ := bd1_to h
  refine go_P (st1 := [.int t25]) (W1 := (wX12 g aM aM_text aM_now aM_trial aM_read aM_diary aM_kept aM_isKept aM_constraint aM_readConstraint aM_word aM_size aM_number aM_firstOne aM_node aM_parent aM_rule aM_child aM_proof aM_witness aM_witnessSize aM_built aM_copyRow M_length M_acts M_next M_many M_readMany M_found M_shortest M_nodes M_solved M_dropped M_fits M_proofSize M_tooLong M_text M_now M_trial M_read M_diary M_kept M_isKept M_constraint M_readConstraint M_word M_size M_number M_firstOne M_node M_parent M_rule M_child M_proof M_witness M_witnessSize M_built M_copyRow)) (run_S (As := [.ref aM_now, .int x1, .int (x2 + (2 : Int32))]) (rest := []) X hS (mX12_countOf g l  aM_now M_now x1 (x2 + (2 : Int32)) t25 hc25) okX12_countOf wd5_124 ⟨Nat.le_of_ble_eq_true rfl, Nat.le_of_ble_eq_true rfl⟩ ⟨rfl, rfl⟩ (sub_P hP [2] rfl) (hD.sub [2] (by decide) rfl) (va_free hD hS hA [2] rfl) rfl hl.1 rfl (Nat.le_of_ble_eq_true rfl) dX12_occurrences_25 ⟨Nat.zero_le _, Nat.zero_le _⟩) hS (va_free hD hS hA [2] rfl) hP hD [2] [0, 1, 3, 4, 5, 6, 7, 8, 9, 10, 11, 12, 13, 14, 15, 16, 17, 18, 19, 20, 21, 22] [0, 1, 22, 2, 3, 4, 5, 6, 7, 8, 9, 10, 11, 12, 13, 14, 15, 16, 17, 18, 19, 20, 21] rfl rfl (by decide) (by decide) rfl (by decide) rfl (fun H locs hP hD hS => ?_)
  refine lv_goto (tgt := 32) hx hb dX12_occurrences_28 (by decide) ?_
  have h : some t25 = some r := h
  cases h
  exact hret _ _ _ _ hP hD hS dX12_occurrences_32
set_option maxHeartbeats 4000000 in
set_option maxRecDepth 100000 in
theorem mX12_note (g : GP) (l : Launch) (aM aM_text aM_now aM_trial aM_read aM_diary aM_kept aM_isKept aM_constraint aM_readConstraint aM_word aM_size aM_number aM_firstOne aM_node aM_parent aM_rule aM_child aM_proof aM_witness aM_witnessSize aM_built aM_copyRow : Nat) (M_length : Int32) (M_acts : Int32) (M_next : Int32) (M_many : Int32) (M_readMany : Int32) (M_found : Int32) (M_shortest : Int32) (M_nodes : Int32) (M_solved : Int32) (M_dropped : Int32) (M_fits : Int32) (M_proofSize : Int32) (M_tooLong : Int32) (M_text : Nat → Int32) (M_now : Nat → Int32) (M_trial : Nat → Int32) (M_read : Nat → Int32) (M_diary : Nat → Int32) (M_kept : Nat → Int32) (M_isKept : Nat → Int32) (M_constraint : Nat → Int32) (M_readConstraint : Nat → Int32) (M_word : Nat → Int32) (M_size : Nat → Int32) (M_number : Nat → Int32) (M_firstOne : Nat → Int32) (M_node : Nat → Int32) (M_parent : Nat → Int32) (M_rule : Nat → Int32) (M_child : Nat → Int32) (M_proof : Nat → Int32) (M_witness : Nat → Int32) (M_witnessSize : Nat → Int32) (M_built : Nat → Int32) (M_copyRow : Nat → Int32)  (M_acts_o : Int32) (M_next_o : Int32) (M_diary_o : Nat → Int32) (h : fM_note M_acts M_next M_now M_diary = some (M_acts_o, M_next_o, M_diary_o)) : Ct g l yX12_note cX12_note 2 none rmX12_note [.ref aM] (wX12 g aM aM_text aM_now aM_trial aM_read aM_diary aM_kept aM_isKept aM_constraint aM_readConstraint aM_word aM_size aM_number aM_firstOne aM_node aM_parent aM_rule aM_child aM_proof aM_witness aM_witnessSize aM_built aM_copyRow M_length M_acts M_next M_many M_readMany M_found M_shortest M_nodes M_solved M_dropped M_fits M_proofSize M_tooLong M_text M_now M_trial M_read M_diary M_kept M_isKept M_constraint M_readConstraint M_word M_size M_number M_firstOne M_node M_parent M_rule M_child M_proof M_witness M_witnessSize M_built M_copyRow) none (wX12 g aM aM_text aM_now aM_trial aM_read aM_diary aM_kept aM_isKept aM_constraint aM_readConstraint aM_word aM_size aM_number aM_firstOne aM_node aM_parent aM_rule aM_child aM_proof aM_witness aM_witnessSize aM_built aM_copyRow M_length M_acts_o M_next_o M_many M_readMany M_found M_shortest M_nodes M_solved M_dropped M_fits M_proofSize M_tooLong M_text M_now M_trial M_read M_diary_o M_kept M_isKept M_constraint M_readConstraint M_word M_size M_number M_firstOne M_node M_parent M_rule M_child M_proof M_witness M_witnessSize M_built M_copyRow) := by
  refine Ct.introV (by decide) (Nat.le_of_ble_eq_true rfl) ?_
  intro p e s m below meth c A QQ ls hyp hret
  obtain ⟨hx, hb, hml, hts, hown, hA, hE, hP, hD, hl⟩ := hyp
  have hK := hE.1
  have hS : va_S A s.heap s.heap [] := va_S.rf
  have X : Here g p s m c cX12_note 2 ([.ref aM] : List Value).toArray RX12 A := ⟨⟨hx, hb, hml, hown, hts⟩, hE, hA⟩
  have B68 : ∀ (M_acts : Int32) (M_next : Int32) (M_diary : Nat → Int32) (s1 : Int32) (ls : Array Slot) (H : Heap) (locs : List Loc), lv_has ls 2 [] → va_P g.1 vwCl (wX12 g aM aM_text aM_now aM_trial aM_read aM_diary aM_kept aM_isKept aM_constraint aM_readConstraint aM_word aM_size aM_number aM_firstOne aM_node aM_parent aM_rule aM_child aM_proof aM_witness aM_witnessSize aM_built aM_copyRow M_length M_acts M_next M_many M_readMany M_found M_shortest M_nodes M_solved M_dropped M_fits M_proofSize M_tooLong M_text M_now M_trial M_read M_diary M_kept M_isKept M_constraint M_readConstraint M_word M_size M_number M_firstOne M_node M_parent M_rule M_child M_proof M_witness M_witnessSize M_built M_copyRow) H → va_D A (wX12 g aM aM_text aM_now aM_trial aM_read aM_diary aM_kept aM_isKept aM_constraint aM_readConstraint aM_word aM_size aM_number aM_firstOne aM_node aM_parent aM_rule aM_child aM_proof aM_witness aM_witnessSize aM_built aM_copyRow M_length M_acts M_next M_many M_readMany M_found M_shortest M_nodes M_solved M_dropped M_fits M_proofSize M_tooLong M_text M_now M_trial M_read M_diary M_kept M_isKept M_constraint M_readConstraint M_word M_size M_number M_firstOne M_node M_parent M_rule M_child M_proof M_witness M_witnessSize M_built M_copyRow) → va_S A s.heap H locs → fM_note_68 M_next M_diary s1 = some (M_acts_o, M_next_o, M_diary_o) → W p l e rmX12_note s m ([.ref aM] : List Value).toArray below meth c H locs 0 0 QQ (F0 m 68 ls [.int s1, .ref aM]) := by
    intro M_acts M_next M_diary s1 ls H locs hl hP hD hS h
    refine va_put (D := g.1) (ci := 11) (v := .int s1) (ty := .int) (C := RX12) (T := TX12) (N := 35) hx hb hts inBX12 tyX12 tyX12_ok nmX12 hown hK hP hD hS 0 rfl rfl 6 (by decide) (hts _ wd4_202) (fun _ h9 => h9) rfl (tyX12_ok 6 (by decide)) rfl rfl (Nat.le_of_ble_eq_true rfl) dX12_note_68 (fun H locs hP hD hS => ?_)
    have hP : va_P g.1 vwCl (wX12 g aM aM_text aM_now aM_trial aM_read aM_diary aM_kept aM_isKept aM_constraint aM_readConstraint aM_word aM_size aM_number aM_firstOne aM_node aM_parent aM_rule aM_child aM_proof aM_witness aM_witnessSize aM_built aM_copyRow M_length s1 M_next M_many M_readMany M_found M_shortest M_nodes M_solved M_dropped M_fits M_proofSize M_tooLong M_text M_now M_trial M_read M_diary M_kept M_isKept M_constraint M_readConstraint M_word M_size M_number M_firstOne M_node M_parent M_rule M_child M_proof M_witness M_witnessSize M_built M_copyRow) H := hP
    have hD : va_D A (wX12 g aM aM_text aM_now aM_trial aM_read aM_diary aM_kept aM_isKept aM_constraint aM_readConstraint aM_word aM_size aM_number aM_firstOne aM_node aM_parent aM_rule aM_child aM_proof aM_witness aM_witnessSize aM_built aM_copyRow M_length s1 M_next M_many M_readMany M_found M_shortest M_nodes M_solved M_dropped M_fits M_proofSize M_tooLong M_text M_now M_trial M_read M_diary M_kept M_isKept M_constraint M_readConstraint M_word M_size M_number M_firstOne M_node M_parent M_rule M_child M_proof M_witness M_witnessSize M_built M_copyRow) := hD
    have h : some (s1, M_next, M_diary) = some (M_acts_o, M_next_o, M_diary_o) := h
    cases h
    exact hret _ _ _ _ hP hD hS dX12_note_71
  have L2 : ∀ (n2 : Nat), ∀ (M_acts : Int32) (M_next : Int32) (M_diary : Nat → Int32) (v1 : Int32) (ls : Array Slot) (H : Heap) (locs : List Loc), lv_has ls 2 [(0, .ref aM), (1, .int v1)] → va_P g.1 vwCl (wX12 g aM aM_text aM_now aM_trial aM_read aM_diary aM_kept aM_isKept aM_constraint aM_readConstraint aM_word aM_size aM_number aM_firstOne aM_node aM_parent aM_rule aM_child aM_proof aM_witness aM_witnessSize aM_built aM_copyRow M_length M_acts M_next M_many M_readMany M_found M_shortest M_nodes M_solved M_dropped M_fits M_proofSize M_tooLong M_text M_now M_trial M_read M_diary M_kept M_isKept M_constraint M_readConstraint M_word M_size M_number M_firstOne M_node M_parent M_rule M_child M_proof M_witness M_witnessSize M_built M_copyRow) H → va_D A (wX12 g aM aM_text aM_now aM_trial aM_read aM_diary aM_kept aM_isKept aM_constraint aM_readConstraint aM_word aM_size aM_number aM_firstOne aM_node aM_parent aM_rule aM_child aM_proof aM_witness aM_witnessSize aM_built aM_copyRow M_length M_acts M_next M_many M_readMany M_found M_shortest M_nodes M_solved M_dropped M_fits M_proofSize M_tooLong M_text M_now M_trial M_read M_diary M_kept M_isKept M_constraint M_readConstraint M_word M_size M_number M_firstOne M_node M_parent M_rule M_child M_proof M_witness M_witnessSize M_built M_copyRow) → va_S A s.heap H locs → fx2 (fM_note_2 M_acts M_next M_now) n2 M_diary v1 = some (M_acts_o, M_next_o, M_diary_o) → W p l e rmX12_note s m ([.ref aM] : List Value).toArray below meth c H locs 0 0 QQ (F0 m 2 ls []) := by
    intro n2
    induction n2 with
    | zero => intro M_acts M_next M_diary v1 ls H locs hl hP hD hS h; exact fx2_0 h
    | succ n2 ih2 =>
      intro M_acts M_next M_diary v1 ls H locs hl hP hD hS h
      have h := (fx2_s (fM_note_2 M_acts M_next M_now) n2 M_diary v1).symm.trans h
      refine lv_iload_n hx hb dX12_note_2 rfl (lv_at hl 1 rfl) ?_
      refine lv_bipush (v := (26 : Int32)) hx hb dX12_note_3 (by decide) ?_
      refine lv_icmp_ge (tgt := 34) hx hb dX12_note_5 (by decide) (fun q5 => ?_) (fun q5 => ?_)
      · have h := ifT h q5
        refine lv_aload_n hx hb dX12_note_34 rfl (lv_at hl 0 rfl) ?_
        refine lv_aload_n hx hb dX12_note_35 rfl (lv_at hl 0 rfl) ?_
        refine va_get (D := g.1) (ci := 11) (v := .int M_next) (C := RX12) (T := TX12) (N := 35) hx hb hts inBX12 hown hK hP 0 rfl rfl 7 (by decide) (hts _ wd4_203) (fun _ h9 => h9) rfl dX12_note_36 ?_
        refine lv_iconst (v := (1 : Int32)) hx hb dX12_note_39 (by decide) ?_
        refine lv_iadd hx hb dX12_note_40 ?_
        refine lv_bipush (v := (14 : Int32)) hx hb dX12_note_41 (by decide) ?_
        refine lv_irem hx hb dX12_note_43 (by decide) ?_
        refine lv_topi (fun t44 et44 => ?_)
        have h := st_to h et44
        refine va_put (D := g.1) (ci := 11) (v := .int t44) (ty := .int) (C := RX12) (T := TX12) (N := 35) hx hb hts inBX12 tyX12 tyX12_ok nmX12 hown hK hP hD hS 0 rfl rfl 7 (by decide) (hts _ wd4_203) (fun _ h9 => h9) rfl (tyX12_ok 7 (by decide)) rfl rfl (Nat.le_of_ble_eq_true rfl) dX12_note_44 (fun H locs hP hD hS => ?_)
        have hP : va_P g.1 vwCl (wX12 g aM aM_text aM_now aM_trial aM_read aM_diary aM_kept aM_isKept aM_constraint aM_readConstraint aM_word aM_size aM_number aM_firstOne aM_node aM_parent aM_rule aM_child aM_proof aM_witness aM_witnessSize aM_built aM_copyRow M_length M_acts t44 M_many M_readMany M_found M_shortest M_nodes M_solved M_dropped M_fits M_proofSize M_tooLong M_text M_now M_trial M_read M_diary M_kept M_isKept M_constraint M_readConstraint M_word M_size M_number M_firstOne M_node M_parent M_rule M_child M_proof M_witness M_witnessSize M_built M_copyRow) H := hP
        have hD : va_D A (wX12 g aM aM_text aM_now aM_trial aM_read aM_diary aM_kept aM_isKept aM_constraint aM_readConstraint aM_word aM_size aM_number aM_firstOne aM_node aM_parent aM_rule aM_child aM_proof aM_witness aM_witnessSize aM_built aM_copyRow M_length M_acts t44 M_many M_readMany M_found M_shortest M_nodes M_solved M_dropped M_fits M_proofSize M_tooLong M_text M_now M_trial M_read M_diary M_kept M_isKept M_constraint M_readConstraint M_word M_size M_number M_firstOne M_node M_parent M_rule M_child M_proof M_witness M_witnessSize M_built M_copyRow) := hD
        refine lv_aload_n hx hb dX12_note_47 rfl (lv_at hl 0 rfl) ?_
        refine lv_aload_n hx hb dX12_note_48 rfl (lv_at hl 0 rfl) ?_
        refine va_get (D := g.1) (ci := 11) (v := .int M_acts) (C := RX12) (T := TX12) (N := 35) hx hb hts inBX12 hown hK hP 0 rfl rfl 6 (by decide) (hts _ wd4_202) (fun _ h9 => h9) rfl dX12_note_49 ?_
        refine lv_bipush (v := (14 : Int32)) hx hb dX12_note_52 (by decide) ?_
        refine lv_icmp_ge (tgt := 66) hx hb dX12_note_54 (by decide) (fun q54 => ?_) (fun q54 => ?_)
        · have h := ifT h q54
          refine lv_bipush (v := (14 : Int32)) hx hb dX12_note_66 (by decide) ?_
          exact B68 M_acts t44 M_diary (14 : Int32) ls H locs (lv_sub hl [] rfl) hP hD hS h
        have h := ifF h q54
        refine lv_aload_n hx hb dX12_note_57 rfl (lv_at hl 0 rfl) ?_
        refine va_get (D := g.1) (ci := 11) (v := .int M_acts) (C := RX12) (T := TX12) (N := 35) hx hb hts inBX12 hown hK hP 0 rfl rfl 6 (by decide) (hts _ wd4_202) (fun _ h9 => h9) rfl dX12_note_58 ?_
        refine lv_iconst (v := (1 : Int32)) hx hb dX12_note_61 (by decide) ?_
        refine lv_iadd hx hb dX12_note_62 ?_
        refine lv_goto (tgt := 68) hx hb dX12_note_63 (by decide) ?_
        exact B68 M_acts t44 M_diary ((M_acts + (1 : Int32))) ls H locs (lv_sub hl [] rfl) hP hD hS h
      have h := ifF h q5
      refine lv_aload_n hx hb dX12_note_8 rfl (lv_at hl 0 rfl) ?_
      refine va_get (D := g.1) (ci := 11) (v := .ref aM_diary) (C := RX12) (T := TX12) (N := 35) hx hb hts inBX12 hown hK hP 0 rfl rfl 5 (by decide) (hts _ wd4_201) (fun _ h9 => h9) rfl dX12_note_9 ?_
      refine lv_bipush (v := (26 : Int32)) hx hb dX12_note_12 (by decide) ?_
      refine lv_aload_n hx hb dX12_note_14 rfl (lv_at hl 0 rfl) ?_
      refine va_get (D := g.1) (ci := 11) (v := .int M_next) (C := RX12) (T := TX12) (N := 35) hx hb hts inBX12 hown hK hP 0 rfl rfl 7 (by decide) (hts _ wd4_203) (fun _ h9 => h9) rfl dX12_note_15 ?_
      refine lv_imul hx hb dX12_note_18 ?_
      refine lv_iload_n hx hb dX12_note_19 rfl (lv_at hl 1 rfl) ?_
      refine lv_iadd hx hb dX12_note_20 ?_
      refine lv_aload_n hx hb dX12_note_21 rfl (lv_at hl 0 rfl) ?_
      refine va_get (D := g.1) (ci := 11) (v := .ref aM_now) (C := RX12) (T := TX12) (N := 35) hx hb hts inBX12 hown hK hP 0 rfl rfl 2 (by decide) (hts _ wd4_198) (fun _ h9 => h9) rfl dX12_note_22 ?_
      refine lv_iload_n hx hb dX12_note_25 rfl (lv_at hl 1 rfl) ?_
      have hin := ld_in h
      refine va_iald hx hb hK hP 2 0 rfl rfl hin dX12_note_26 ?_
      refine lv_topi (fun t26 et26 => ?_)
      have h := ld_to h et26
      have hin := sti_in h
      refine va_iast hx hb hK hP hD hS 5 0 rfl rfl hin dX12_note_27 (fun H locs hP hD hS => ?_)
      obtain ⟨M_diary_27, eM_diary_27⟩ : ∃ y : Nat → Int32, y = upd M_diary (Int32.toNatClampNeg (((26 : Int32) * M_next) + v1)) t26 := ⟨_, rfl⟩
      have h := sti_to h eM_diary_27
      have hP : va_P g.1 vwCl (wX12 g aM aM_text aM_now aM_trial aM_read aM_diary aM_kept aM_isKept aM_constraint aM_readConstraint aM_word aM_size aM_number aM_firstOne aM_node aM_parent aM_rule aM_child aM_proof aM_witness aM_witnessSize aM_built aM_copyRow M_length M_acts M_next M_many M_readMany M_found M_shortest M_nodes M_solved M_dropped M_fits M_proofSize M_tooLong M_text M_now M_trial M_read M_diary_27 M_kept M_isKept M_constraint M_readConstraint M_word M_size M_number M_firstOne M_node M_parent M_rule M_child M_proof M_witness M_witnessSize M_built M_copyRow) H := by rw [eM_diary_27]; exact hP
      have hD : va_D A (wX12 g aM aM_text aM_now aM_trial aM_read aM_diary aM_kept aM_isKept aM_constraint aM_readConstraint aM_word aM_size aM_number aM_firstOne aM_node aM_parent aM_rule aM_child aM_proof aM_witness aM_witnessSize aM_built aM_copyRow M_length M_acts M_next M_many M_readMany M_found M_shortest M_nodes M_solved M_dropped M_fits M_proofSize M_tooLong M_text M_now M_trial M_read M_diary_27 M_kept M_isKept M_constraint M_readConstraint M_word M_size M_number M_firstOne M_node M_parent M_rule M_child M_proof M_witness M_witnessSize M_built M_copyRow) := by rw [eM_diary_27]; exact hD
      obtain ⟨t28, et28⟩ : ∃ y : Int32, y = v1 + (1 : Int32) := ⟨_, rfl⟩
      refine lv_iinc (v := t28) (lv' := [(1, .int t28), (0, .ref aM)]) hx hb dX12_note_28 hl (k := 1) rfl (by rw [et28]; rfl) (by decide) rfl (fun ls hl => ?_)
      have h := st_to h et28
      refine lv_goto (tgt := 2) hx hb dX12_note_31 (by decide) ?_
      exact ih2 M_acts M_next M_diary_27 t28 ls H locs (lv_sub hl [1, 0] rfl) hP hD hS h
  have hl : lv_has ls 2 [(0, .ref aM)] := hl
  obtain ⟨H, hH⟩ : ∃ H, H = s.heap := ⟨_, rfl⟩
  obtain ⟨locs, hlocs⟩ : ∃ l : List Loc, l = [] := ⟨_, rfl⟩
  rw [show W p l e rmX12_note s m ([.ref aM] : List Value).toArray below meth c s.heap [] 0 0 QQ (F0 m 0 ls []) = W p l e rmX12_note s m ([.ref aM] : List Value).toArray below meth c H locs 0 0 QQ (F0 m 0 ls []) by rw [hH, hlocs]]
  have hP : va_P g.1 vwCl (wX12 g aM aM_text aM_now aM_trial aM_read aM_diary aM_kept aM_isKept aM_constraint aM_readConstraint aM_word aM_size aM_number aM_firstOne aM_node aM_parent aM_rule aM_child aM_proof aM_witness aM_witnessSize aM_built aM_copyRow M_length M_acts M_next M_many M_readMany M_found M_shortest M_nodes M_solved M_dropped M_fits M_proofSize M_tooLong M_text M_now M_trial M_read M_diary M_kept M_isKept M_constraint M_readConstraint M_word M_size M_number M_firstOne M_node M_parent M_rule M_child M_proof M_witness M_witnessSize M_built M_copyRow) H := by rw [hH]; exact hP
  have hD : va_D A (wX12 g aM aM_text aM_now aM_trial aM_read aM_diary aM_kept aM_isKept aM_constraint aM_readConstraint aM_word aM_size aM_number aM_firstOne aM_node aM_parent aM_rule aM_child aM_proof aM_witness aM_witnessSize aM_built aM_copyRow M_length M_acts M_next M_many M_readMany M_found M_shortest M_nodes M_solved M_dropped M_fits M_proofSize M_tooLong M_text M_now M_trial M_read M_diary M_kept M_isKept M_constraint M_readConstraint M_word M_size M_number M_firstOne M_node M_parent M_rule M_child M_proof M_witness M_witnessSize M_built M_copyRow) := hD
  have hS : va_S A s.heap H locs := by rw [hH, hlocs]; exact hS
  clear hH hlocs
  refine lv_iconst (v := (0 : Int32)) hx hb dX12_note_0 (by decide) ?_
  refine lv_istore_n (lv' := [(1, .int (0 : Int32)), (0, .ref aM)]) hx hb dX12_note_1 rfl hl (by decide) rfl (fun ls hl => ?_)
  exact L2 FU M_acts M_next M_diary (0 : Int32) ls H locs (lv_sub hl [1, 0] rfl) hP hD hS h
set_option maxHeartbeats 4000000 in
set_option maxRecDepth 100000 in
theorem mX12_swapIn (g : GP) (l : Launch) (aR0 : Nat) (R0 : Nat → Int32)  (R0_o : Nat → Int32) (h : fM_swapIn R0 = some R0_o) : Ct g l yX12_swapIn cX12_swapIn 4 none rmX12_swapIn [.ref aR0] [(aR0, .inl (g.2.1 0, 26, .inl R0))] none [(aR0, .inl (g.2.1 0, 26, .inl R0_o))] := by
  refine Ct.introV (by decide) (Nat.le_of_ble_eq_true rfl) ?_
  intro p e s m below meth c A QQ ls hyp hret
  obtain ⟨hx, hb, hml, hts, hown, hA, hE, hP, hD, hl⟩ := hyp
  have hK := hE.1
  have hS : va_S A s.heap s.heap [] := va_S.rf
  have X : Here g p s m c cX12_swapIn 4 ([.ref aR0] : List Value).toArray RX12 A := ⟨⟨hx, hb, hml, hown, hts⟩, hE, hA⟩
  have L16 : ∀ (n16 : Nat), ∀ (R0 : Nat → Int32) (v2 : Int32) (ls : Array Slot) (H : Heap) (locs : List Loc), lv_has ls 4 [(0, .ref aR0), (2, .int v2)] → va_P g.1 vwCl [(aR0, .inl (g.2.1 0, 26, .inl R0))] H → va_D A [(aR0, .inl (g.2.1 0, 26, .inl R0))] → va_S A s.heap H locs → fx2 (fM_swapIn_16) n16 R0 v2 = some R0_o → W p l e rmX12_swapIn s m ([.ref aR0] : List Value).toArray below meth c H locs 0 0 QQ (F0 m 16 ls []) := by
    intro n16
    induction n16 with
    | zero => intro R0 v2 ls H locs hl hP hD hS h; exact fx2_0 h
    | succ n16 ih16 =>
      intro R0 v2 ls H locs hl hP hD hS h
      have h := (fx2_s (fM_swapIn_16) n16 R0 v2).symm.trans h
      refine lv_iload_n hx hb dX12_swapIn_16 rfl (lv_at hl 1 rfl) ?_
      refine lv_bipush (v := (12 : Int32)) hx hb dX12_swapIn_17 (by decide) ?_
      refine lv_icmp_ge (tgt := 58) hx hb dX12_swapIn_19 (by decide) (fun q19 => ?_) (fun q19 => ?_)
      · have h := ifT h q19
        have h : some R0 = some R0_o := h
        cases h
        exact hret _ _ _ _ hP hD hS dX12_swapIn_58
      have h := ifF h q19
      refine lv_aload_n hx hb dX12_swapIn_22 rfl (lv_at hl 0 rfl) ?_
      refine lv_iconst (v := (0 : Int32)) hx hb dX12_swapIn_23 (by decide) ?_
      refine lv_iload_n hx hb dX12_swapIn_24 rfl (lv_at hl 1 rfl) ?_
      obtain ⟨t25, hc25, h⟩ := bd1_to h
      refine go_0 (st1 := [.int t25, .ref aR0]) (run_S (As := [.int (0 : Int32), .int v2]) (rest := [.ref aR0]) X hS (mX12_at g l  (0 : Int32) v2 t25 hc25) okX12_at wd5_87 ⟨Nat.le_of_ble_eq_true rfl, Nat.le_of_ble_eq_true rfl⟩ ⟨rfl, rfl⟩ nil_P nil_D (nil_F hS hA) rfl hl.1 rfl (Nat.le_of_ble_eq_true rfl) dX12_swapIn_25 ⟨Nat.zero_le _, Nat.zero_le _⟩) hS hA hP rfl (fun H locs hP hS => ?_)
      have hin := ld_in h
      refine va_iald hx hb hK hP 0 0 rfl rfl hin dX12_swapIn_28 ?_
      refine lv_topi (fun t28 et28 => ?_)
      have h := ld_to h et28
      refine lv_istore_n (lv' := [(3, .int t28), (0, .ref aR0), (2, .int v2)]) hx hb dX12_swapIn_29 rfl hl (by decide) rfl (fun ls hl => ?_)
      refine lv_aload_n hx hb dX12_swapIn_30 rfl (lv_at hl 1 rfl) ?_
      refine lv_iconst (v := (0 : Int32)) hx hb dX12_swapIn_31 (by decide) ?_
      refine lv_iload_n hx hb dX12_swapIn_32 rfl (lv_at hl 2 rfl) ?_
      obtain ⟨t33, hc33, h⟩ := bd1_to h
      refine go_0 (st1 := [.int t33, .ref aR0]) (run_S (As := [.int (0 : Int32), .int v2]) (rest := [.ref aR0]) X hS (mX12_at g l  (0 : Int32) v2 t33 hc33) okX12_at wd5_87 ⟨Nat.le_of_ble_eq_true rfl, Nat.le_of_ble_eq_true rfl⟩ ⟨rfl, rfl⟩ nil_P nil_D (nil_F hS hA) rfl hl.1 rfl (Nat.le_of_ble_eq_true rfl) dX12_swapIn_33 ⟨Nat.zero_le _, Nat.zero_le _⟩) hS hA hP rfl (fun H locs hP hS => ?_)
      refine lv_aload_n hx hb dX12_swapIn_36 rfl (lv_at hl 1 rfl) ?_
      refine lv_iconst (v := (1 : Int32)) hx hb dX12_swapIn_37 (by decide) ?_
      refine lv_iload_n hx hb dX12_swapIn_38 rfl (lv_at hl 2 rfl) ?_
      obtain ⟨t39, hc39, h⟩ := bd1_to h
      refine go_0 (st1 := [.int t39, .ref aR0, .int t33, .ref aR0]) (run_S (As := [.int (1 : Int32), .int v2]) (rest := [.ref aR0, .int t33, .ref aR0]) X hS (mX12_at g l  (1 : Int32) v2 t39 hc39) okX12_at wd5_87 ⟨Nat.le_of_ble_eq_true rfl, Nat.le_of_ble_eq_true rfl⟩ ⟨rfl, rfl⟩ nil_P nil_D (nil_F hS hA) rfl hl.1 rfl (Nat.le_of_ble_eq_true rfl) dX12_swapIn_39 ⟨Nat.zero_le _, Nat.zero_le _⟩) hS hA hP rfl (fun H locs hP hS => ?_)
      have hin := ld_in h
      refine va_iald hx hb hK hP 0 0 rfl rfl hin dX12_swapIn_42 ?_
      refine lv_topi (fun t42 et42 => ?_)
      have h := ld_to h et42
      have hin := sti_in h
      refine va_iast hx hb hK hP hD hS 0 0 rfl rfl hin dX12_swapIn_43 (fun H locs hP hD hS => ?_)
      obtain ⟨R0_43, eR0_43⟩ : ∃ y : Nat → Int32, y = upd R0 (Int32.toNatClampNeg t33) t42 := ⟨_, rfl⟩
      have h := sti_to h eR0_43
      have hP : va_P g.1 vwCl [(aR0, .inl (g.2.1 0, 26, .inl R0_43))] H := by rw [eR0_43]; exact hP
      have hD : va_D A [(aR0, .inl (g.2.1 0, 26, .inl R0_43))] := by rw [eR0_43]; exact hD
      refine lv_aload_n hx hb dX12_swapIn_44 rfl (lv_at hl 1 rfl) ?_
      refine lv_iconst (v := (1 : Int32)) hx hb dX12_swapIn_45 (by decide) ?_
      refine lv_iload_n hx hb dX12_swapIn_46 rfl (lv_at hl 2 rfl) ?_
      obtain ⟨t47, hc47, h⟩ := bd1_to h
      refine go_0 (st1 := [.int t47, .ref aR0]) (run_S (As := [.int (1 : Int32), .int v2]) (rest := [.ref aR0]) X hS (mX12_at g l  (1 : Int32) v2 t47 hc47) okX12_at wd5_87 ⟨Nat.le_of_ble_eq_true rfl, Nat.le_of_ble_eq_true rfl⟩ ⟨rfl, rfl⟩ nil_P nil_D (nil_F hS hA) rfl hl.1 rfl (Nat.le_of_ble_eq_true rfl) dX12_swapIn_47 ⟨Nat.zero_le _, Nat.zero_le _⟩) hS hA hP rfl (fun H locs hP hS => ?_)
      refine lv_iload_n hx hb dX12_swapIn_50 rfl (lv_at hl 0 rfl) ?_
      have hin := sti_in h
      refine va_iast hx hb hK hP hD hS 0 0 rfl rfl hin dX12_swapIn_51 (fun H locs hP hD hS => ?_)
      obtain ⟨R0_51, eR0_51⟩ : ∃ y : Nat → Int32, y = upd R0_43 (Int32.toNatClampNeg t47) t28 := ⟨_, rfl⟩
      have h := sti_to h eR0_51
      have hP : va_P g.1 vwCl [(aR0, .inl (g.2.1 0, 26, .inl R0_51))] H := by rw [eR0_51]; exact hP
      have hD : va_D A [(aR0, .inl (g.2.1 0, 26, .inl R0_51))] := by rw [eR0_51]; exact hD
      obtain ⟨t52, et52⟩ : ∃ y : Int32, y = v2 + (1 : Int32) := ⟨_, rfl⟩
      refine lv_iinc (v := t52) (lv' := [(2, .int t52), (3, .int t28), (0, .ref aR0)]) hx hb dX12_swapIn_52 hl (k := 2) rfl (by rw [et52]; rfl) (by decide) rfl (fun ls hl => ?_)
      have h := st_to h et52
      refine lv_goto (tgt := 16) hx hb dX12_swapIn_55 (by decide) ?_
      exact ih16 R0_51 t52 ls H locs (lv_sub hl [2, 0] rfl) hP hD hS h
  have hl : lv_has ls 4 [(0, .ref aR0)] := hl
  obtain ⟨H, hH⟩ : ∃ H, H = s.heap := ⟨_, rfl⟩
  obtain ⟨locs, hlocs⟩ : ∃ l : List Loc, l = [] := ⟨_, rfl⟩
  rw [show W p l e rmX12_swapIn s m ([.ref aR0] : List Value).toArray below meth c s.heap [] 0 0 QQ (F0 m 0 ls []) = W p l e rmX12_swapIn s m ([.ref aR0] : List Value).toArray below meth c H locs 0 0 QQ (F0 m 0 ls []) by rw [hH, hlocs]]
  have hP : va_P g.1 vwCl [(aR0, .inl (g.2.1 0, 26, .inl R0))] H := by rw [hH]; exact hP
  have hD : va_D A [(aR0, .inl (g.2.1 0, 26, .inl R0))] := hD
  have hS : va_S A s.heap H locs := by rw [hH, hlocs]; exact hS
  clear hH hlocs
  refine lv_aload_n hx hb dX12_swapIn_0 rfl (lv_at hl 0 rfl) ?_
  refine lv_iconst (v := (0 : Int32)) hx hb dX12_swapIn_1 (by decide) ?_
  have hin := ld_in h
  refine va_iald hx hb hK hP 0 0 rfl rfl hin dX12_swapIn_2 ?_
  refine lv_topi (fun t2 et2 => ?_)
  have h := ld_to h et2
  refine lv_istore_n (lv' := [(1, .int t2), (0, .ref aR0)]) hx hb dX12_swapIn_3 rfl hl (by decide) rfl (fun ls hl => ?_)
  refine lv_aload_n hx hb dX12_swapIn_4 rfl (lv_at hl 1 rfl) ?_
  refine lv_iconst (v := (0 : Int32)) hx hb dX12_swapIn_5 (by decide) ?_
  refine lv_aload_n hx hb dX12_swapIn_6 rfl (lv_at hl 1 rfl) ?_
  refine lv_iconst (v := (1 : Int32)) hx hb dX12_swapIn_7 (by decide) ?_
  have hin := ld_in h
  refine va_iald hx hb hK hP 0 0 rfl rfl hin dX12_swapIn_8 ?_
  refine lv_topi (fun t8 et8 => ?_)
  have h := ld_to h et8
  have hin := sti_in h
  refine va_iast hx hb hK hP hD hS 0 0 rfl rfl hin dX12_swapIn_9 (fun H locs hP hD hS => ?_)
  obtain ⟨R0_9, eR0_9⟩ : ∃ y : Nat → Int32, y = upd R0 (Int32.toNatClampNeg (0 : Int32)) t8 := ⟨_, rfl⟩
  have h := sti_to h eR0_9
  have hP : va_P g.1 vwCl [(aR0, .inl (g.2.1 0, 26, .inl R0_9))] H := by rw [eR0_9]; exact hP
  have hD : va_D A [(aR0, .inl (g.2.1 0, 26, .inl R0_9))] := by rw [eR0_9]; exact hD
  refine lv_aload_n hx hb dX12_swapIn_10 rfl (lv_at hl 1 rfl) ?_
  refine lv_iconst (v := (1 : Int32)) hx hb dX12_swapIn_11 (by decide) ?_
  refine lv_iload_n hx hb dX12_swapIn_12 rfl (lv_at hl 0 rfl) ?_
  have hin := sti_in h
  refine va_iast hx hb hK hP hD hS 0 0 rfl rfl hin dX12_swapIn_13 (fun H locs hP hD hS => ?_)
  obtain ⟨R0_13, eR0_13⟩ : ∃ y : Nat → Int32, y = upd R0_9 (Int32.toNatClampNeg (1 : Int32)) t2 := ⟨_, rfl⟩
  have h := sti_to h eR0_13
  have hP : va_P g.1 vwCl [(aR0, .inl (g.2.1 0, 26, .inl R0_13))] H := by rw [eR0_13]; exact hP
  have hD : va_D A [(aR0, .inl (g.2.1 0, 26, .inl R0_13))] := by rw [eR0_13]; exact hD
  refine lv_iconst (v := (0 : Int32)) hx hb dX12_swapIn_14 (by decide) ?_
  refine lv_istore_n (lv' := [(2, .int (0 : Int32)), (1, .int t2), (0, .ref aR0)]) hx hb dX12_swapIn_15 rfl hl (by decide) rfl (fun ls hl => ?_)
  exact L16 FU R0_13 (0 : Int32) ls H locs (lv_sub hl [2, 0] rfl) hP hD hS h
set_option maxHeartbeats 4000000 in
set_option maxRecDepth 100000 in
theorem mX12_swapSides (g : GP) (l : Launch) (aM aM_text aM_now aM_trial aM_read aM_diary aM_kept aM_isKept aM_constraint aM_readConstraint aM_word aM_size aM_number aM_firstOne aM_node aM_parent aM_rule aM_child aM_proof aM_witness aM_witnessSize aM_built aM_copyRow : Nat) (M_length : Int32) (M_acts : Int32) (M_next : Int32) (M_many : Int32) (M_readMany : Int32) (M_found : Int32) (M_shortest : Int32) (M_nodes : Int32) (M_solved : Int32) (M_dropped : Int32) (M_fits : Int32) (M_proofSize : Int32) (M_tooLong : Int32) (M_text : Nat → Int32) (M_now : Nat → Int32) (M_trial : Nat → Int32) (M_read : Nat → Int32) (M_diary : Nat → Int32) (M_kept : Nat → Int32) (M_isKept : Nat → Int32) (M_constraint : Nat → Int32) (M_readConstraint : Nat → Int32) (M_word : Nat → Int32) (M_size : Nat → Int32) (M_number : Nat → Int32) (M_firstOne : Nat → Int32) (M_node : Nat → Int32) (M_parent : Nat → Int32) (M_rule : Nat → Int32) (M_child : Nat → Int32) (M_proof : Nat → Int32) (M_witness : Nat → Int32) (M_witnessSize : Nat → Int32) (M_built : Nat → Int32) (M_copyRow : Nat → Int32)  (r : Int32) (M_acts_o : Int32) (M_next_o : Int32) (M_now_o : Nat → Int32) (M_diary_o : Nat → Int32) (h : fM_swapSides M_acts M_next M_now M_diary = some (r, M_acts_o, M_next_o, M_now_o, M_diary_o)) : Ct g l yX12_swapSides cX12_swapSides 1 (some .int) rmX12_swapSides [.ref aM] (wX12 g aM aM_text aM_now aM_trial aM_read aM_diary aM_kept aM_isKept aM_constraint aM_readConstraint aM_word aM_size aM_number aM_firstOne aM_node aM_parent aM_rule aM_child aM_proof aM_witness aM_witnessSize aM_built aM_copyRow M_length M_acts M_next M_many M_readMany M_found M_shortest M_nodes M_solved M_dropped M_fits M_proofSize M_tooLong M_text M_now M_trial M_read M_diary M_kept M_isKept M_constraint M_readConstraint M_word M_size M_number M_firstOne M_node M_parent M_rule M_child M_proof M_witness M_witnessSize M_built M_copyRow) (some (.int r)) (wX12 g aM aM_text aM_now aM_trial aM_read aM_diary aM_kept aM_isKept aM_constraint aM_readConstraint aM_word aM_size aM_number aM_firstOne aM_node aM_parent aM_rule aM_child aM_proof aM_witness aM_witnessSize aM_built aM_copyRow M_length M_acts_o M_next_o M_many M_readMany M_found M_shortest M_nodes M_solved M_dropped M_fits M_proofSize M_tooLong M_text M_now_o M_trial M_read M_diary_o M_kept M_isKept M_constraint M_readConstraint M_word M_size M_number M_firstOne M_node M_parent M_rule M_child M_proof M_witness M_witnessSize M_built M_copyRow) := by
  refine Ct.introI (by decide) (Nat.le_of_ble_eq_true rfl) ?_
  intro p e s m below meth c A QQ ls hyp hret
  obtain ⟨hx, hb, hml, hts, hown, hA, hE, hP, hD, hl⟩ := hyp
  have hK := hE.1
  have hS : va_S A s.heap s.heap [] := va_S.rf
  have X : Here g p s m c cX12_swapSides 1 ([.ref aM] : List Value).toArray RX12 A := ⟨⟨hx, hb, hml, hown, hts⟩, hE, hA⟩
  have hl : lv_has ls 1 [(0, .ref aM)] := hl
  obtain ⟨H, hH⟩ : ∃ H, H = s.heap := ⟨_, rfl⟩
  obtain ⟨locs, hlocs⟩ : ∃ l : List Loc, l = [] := ⟨_, rfl⟩
  rw [show W p l e rmX12_swapSides s m ([.ref aM] : List Value).toArray below meth c s.heap [] 0 0 QQ (F0 m 0 ls []) = W p l e rmX12_swapSides s m ([.ref aM] : List Value).toArray below meth c H locs 0 0 QQ (F0 m 0 ls []) by rw [hH, hlocs]]
  have hP : va_P g.1 vwCl (wX12 g aM aM_text aM_now aM_trial aM_read aM_diary aM_kept aM_isKept aM_constraint aM_readConstraint aM_word aM_size aM_number aM_firstOne aM_node aM_parent aM_rule aM_child aM_proof aM_witness aM_witnessSize aM_built aM_copyRow M_length M_acts M_next M_many M_readMany M_found M_shortest M_nodes M_solved M_dropped M_fits M_proofSize M_tooLong M_text M_now M_trial M_read M_diary M_kept M_isKept M_constraint M_readConstraint M_word M_size M_number M_firstOne M_node M_parent M_rule M_child M_proof M_witness M_witnessSize M_built M_copyRow) H := by rw [hH]; exact hP
  have hD : va_D A (wX12 g aM aM_text aM_now aM_trial aM_read aM_diary aM_kept aM_isKept aM_constraint aM_readConstraint aM_word aM_size aM_number aM_firstOne aM_node aM_parent aM_rule aM_child aM_proof aM_witness aM_witnessSize aM_built aM_copyRow M_length M_acts M_next M_many M_readMany M_found M_shortest M_nodes M_solved M_dropped M_fits M_proofSize M_tooLong M_text M_now M_trial M_read M_diary M_kept M_isKept M_constraint M_readConstraint M_word M_size M_number M_firstOne M_node M_parent M_rule M_child M_proof M_witness M_witnessSize M_built M_copyRow) := hD
  have hS : va_S A s.heap H locs := by rw [hH, hlocs]; exact hS
  clear hH hlocs
  refine lv_aload_n hx hb dX12_swapSides_0 rfl (lv_at hl 0 rfl) ?_
  obtain ⟨M_acts_1, M_next_1, M_diary_1, hc1, h⟩ := bd3_to h
  refine go_A (st1 := []) (run_V (As := []) (rest := []) X hS (mX12_note g l  aM aM_text aM_now aM_trial aM_read aM_diary aM_kept aM_isKept aM_constraint aM_readConstraint aM_word aM_size aM_number aM_firstOne aM_node aM_parent aM_rule aM_child aM_proof aM_witness aM_witnessSize aM_built aM_copyRow M_length M_acts M_next M_many M_readMany M_found M_shortest M_nodes M_solved M_dropped M_fits M_proofSize M_tooLong M_text M_now M_trial M_read M_diary M_kept M_isKept M_constraint M_readConstraint M_word M_size M_number M_firstOne M_node M_parent M_rule M_child M_proof M_witness M_witnessSize M_built M_copyRow M_acts_1 M_next_1 M_diary_1 hc1) okX12_note wd5_131 ⟨Nat.le_of_ble_eq_true rfl, Nat.le_of_ble_eq_true rfl⟩ ⟨rfl, rfl⟩ (va_recv hK hP (ci := 11) (q0 := 0) rfl rfl) hP hD (all_F hS hA hD) rfl hl.1 rfl (Nat.le_of_ble_eq_true rfl) dX12_swapSides_1 ⟨Nat.zero_le _, Nat.zero_le _⟩) hS (all_F hS hA hD) rfl (fun H locs hP hD hS => ?_)
  refine lv_aload_n hx hb dX12_swapSides_4 rfl (lv_at hl 0 rfl) ?_
  refine va_get (D := g.1) (ci := 11) (v := .ref aM_now) (C := RX12) (T := TX12) (N := 35) hx hb hts inBX12 hown hK hP 0 rfl rfl 2 (by decide) (hts _ wd4_198) (fun _ h9 => h9) rfl dX12_swapSides_5 ?_
  obtain ⟨M_now_8, hc8, h⟩ := bd1_to h
  refine go_P (st1 := []) (W1 := (wX12 g aM aM_text aM_now aM_trial aM_read aM_diary aM_kept aM_isKept aM_constraint aM_readConstraint aM_word aM_size aM_number aM_firstOne aM_node aM_parent aM_rule aM_child aM_proof aM_witness aM_witnessSize aM_built aM_copyRow M_length M_acts_1 M_next_1 M_many M_readMany M_found M_shortest M_nodes M_solved M_dropped M_fits M_proofSize M_tooLong M_text M_now_8 M_trial M_read M_diary_1 M_kept M_isKept M_constraint M_readConstraint M_word M_size M_number M_firstOne M_node M_parent M_rule M_child M_proof M_witness M_witnessSize M_built M_copyRow)) (run_S (As := [.ref aM_now]) (rest := []) X hS (mX12_swapIn g l  aM_now M_now M_now_8 hc8) okX12_swapIn wd5_135 ⟨Nat.le_of_ble_eq_true rfl, Nat.le_of_ble_eq_true rfl⟩ ⟨rfl, rfl⟩ (sub_P hP [2] rfl) (hD.sub [2] (by decide) rfl) (va_free hD hS hA [2] rfl) rfl hl.1 rfl (Nat.le_of_ble_eq_true rfl) dX12_swapSides_8 ⟨Nat.zero_le _, Nat.zero_le _⟩) hS (va_free hD hS hA [2] rfl) hP hD [2] [0, 1, 3, 4, 5, 6, 7, 8, 9, 10, 11, 12, 13, 14, 15, 16, 17, 18, 19, 20, 21, 22] [0, 1, 22, 2, 3, 4, 5, 6, 7, 8, 9, 10, 11, 12, 13, 14, 15, 16, 17, 18, 19, 20, 21] rfl rfl (by decide) (by decide) rfl (by decide) rfl (fun H locs hP hD hS => ?_)
  refine lv_aload_n hx hb dX12_swapSides_11 rfl (lv_at hl 0 rfl) ?_
  refine va_get (D := g.1) (ci := 11) (v := .ref aM_now) (C := RX12) (T := TX12) (N := 35) hx hb hts inBX12 hown hK hP 0 rfl rfl 2 (by decide) (hts _ wd4_198) (fun _ h9 => h9) rfl dX12_swapSides_12 ?_
  refine lv_iconst (v := (0 : Int32)) hx hb dX12_swapSides_15 (by decide) ?_
  have hin := ld_in h
  refine va_iald hx hb hK hP 2 0 rfl rfl hin dX12_swapSides_16 ?_
  refine lv_topi (fun t16 et16 => ?_)
  have h := ld_to h et16
  have h : some (t16, M_acts_1, M_next_1, M_now_8, M_diary_1) = some (r, M_acts_o, M_next_o, M_now_o, M_diary_o) := h
  cases h
  exact hret _ _ _ _ hP hD hS dX12_swapSides_17
set_option maxHeartbeats 4000000 in
set_option maxRecDepth 100000 in
theorem mX12_reverseIn (g : GP) (l : Launch) (aR0 : Nat) (R0 : Nat → Int32)  (R0_o : Nat → Int32) (h : fM_reverseIn R0 = some R0_o) : Ct g l yX12_reverseIn cX12_reverseIn 5 none rmX12_reverseIn [.ref aR0] [(aR0, .inl (g.2.1 0, 26, .inl R0))] none [(aR0, .inl (g.2.1 0, 26, .inl R0_o))] := by
  refine Ct.introV (by decide) (Nat.le_of_ble_eq_true rfl) ?_
  intro p e s m below meth c A QQ ls hyp hret
  obtain ⟨hx, hb, hml, hts, hown, hA, hE, hP, hD, hl⟩ := hyp
  have hK := hE.1
  have hS : va_S A s.heap s.heap [] := va_S.rf
  have X : Here g p s m c cX12_reverseIn 5 ([.ref aR0] : List Value).toArray RX12 A := ⟨⟨hx, hb, hml, hown, hts⟩, hE, hA⟩
  have L2 : ∀ (n2 : Nat), ∀ (R0 : Nat → Int32) (v1 : Int32) (ls : Array Slot) (H : Heap) (locs : List Loc), lv_has ls 5 [(0, .ref aR0), (1, .int v1)] → va_P g.1 vwCl [(aR0, .inl (g.2.1 0, 26, .inl R0))] H → va_D A [(aR0, .inl (g.2.1 0, 26, .inl R0))] → va_S A s.heap H locs → fx2 (fM_reverseIn_2) n2 R0 v1 = some R0_o → W p l e rmX12_reverseIn s m ([.ref aR0] : List Value).toArray below meth c H locs 0 0 QQ (F0 m 2 ls []) := by
    intro n2
    induction n2 with
    | zero => intro R0 v1 ls H locs hl hP hD hS h; exact fx2_0 h
    | succ n2 ih2 =>
      intro R0 v1 ls H locs hl hP hD hS h
      have h := (fx2_s (fM_reverseIn_2) n2 R0 v1).symm.trans h
      have L13 : ∀ (n13 : Nat), ∀ (R0 : Nat → Int32) (v1 : Int32) (v2 : Int32) (v3 : Int32) (ls : Array Slot) (H : Heap) (locs : List Loc), lv_has ls 5 [(0, .ref aR0), (1, .int v1), (2, .int v2), (3, .int v3)] → va_P g.1 vwCl [(aR0, .inl (g.2.1 0, 26, .inl R0))] H → va_D A [(aR0, .inl (g.2.1 0, 26, .inl R0))] → va_S A s.heap H locs → fx2 (fM_reverseIn_13 (fx2 (fM_reverseIn_2) n2) v1 v2) n13 R0 v3 = some R0_o → W p l e rmX12_reverseIn s m ([.ref aR0] : List Value).toArray below meth c H locs 0 0 QQ (F0 m 13 ls []) := by
        intro n13
        induction n13 with
        | zero => intro R0 v1 v2 v3 ls H locs hl hP hD hS h; exact fx2_0 h
        | succ n13 ih13 =>
          intro R0 v1 v2 v3 ls H locs hl hP hD hS h
          have h := (fx2_s (fM_reverseIn_13 (fx2 (fM_reverseIn_2) n2) v1 v2) n13 R0 v3).symm.trans h
          refine lv_iload_n hx hb dX12_reverseIn_13 rfl (lv_at hl 3 rfl) ?_
          refine lv_iload_n hx hb dX12_reverseIn_14 rfl (lv_at hl 2 rfl) ?_
          refine lv_iconst (v := (2 : Int32)) hx hb dX12_reverseIn_15 (by decide) ?_
          refine lv_idiv hx hb dX12_reverseIn_16 (by decide) ?_
          refine lv_icmp_ge (tgt := 66) hx hb dX12_reverseIn_17 (by decide) (fun q17 => ?_) (fun q17 => ?_)
          · have h := ifT h q17
            obtain ⟨t66, et66⟩ : ∃ y : Int32, y = v1 + (1 : Int32) := ⟨_, rfl⟩
            refine lv_iinc (v := t66) (lv' := [(1, .int t66), (0, .ref aR0), (2, .int v2), (3, .int v3)]) hx hb dX12_reverseIn_66 hl (k := 1) rfl (by rw [et66]; rfl) (by decide) rfl (fun ls hl => ?_)
            have h := st_to h et66
            refine lv_goto (tgt := 2) hx hb dX12_reverseIn_69 (by decide) ?_
            exact ih2 R0 t66 ls H locs (lv_sub hl [1, 0] rfl) hP hD hS h
          have h := ifF h q17
          refine lv_aload_n hx hb dX12_reverseIn_20 rfl (lv_at hl 0 rfl) ?_
          refine lv_iload_n hx hb dX12_reverseIn_21 rfl (lv_at hl 1 rfl) ?_
          refine lv_iload_n hx hb dX12_reverseIn_22 rfl (lv_at hl 3 rfl) ?_
          obtain ⟨t23, hc23, h⟩ := bd1_to h
          refine go_0 (st1 := [.int t23, .ref aR0]) (run_S (As := [.int v1, .int v3]) (rest := [.ref aR0]) X hS (mX12_at g l  v1 v3 t23 hc23) okX12_at wd5_87 ⟨Nat.le_of_ble_eq_true rfl, Nat.le_of_ble_eq_true rfl⟩ ⟨rfl, rfl⟩ nil_P nil_D (nil_F hS hA) rfl hl.1 rfl (Nat.le_of_ble_eq_true rfl) dX12_reverseIn_23 ⟨Nat.zero_le _, Nat.zero_le _⟩) hS hA hP rfl (fun H locs hP hS => ?_)
          have hin := ld_in h
          refine va_iald hx hb hK hP 0 0 rfl rfl hin dX12_reverseIn_26 ?_
          refine lv_topi (fun t26 et26 => ?_)
          have h := ld_to h et26
          refine lv_istore (lv' := [(4, .int t26), (0, .ref aR0), (1, .int v1), (2, .int v2), (3, .int v3)]) hx hb dX12_reverseIn_27 hl (by decide) rfl (fun ls hl => ?_)
          refine lv_aload_n hx hb dX12_reverseIn_29 rfl (lv_at hl 1 rfl) ?_
          refine lv_iload_n hx hb dX12_reverseIn_30 rfl (lv_at hl 2 rfl) ?_
          refine lv_iload_n hx hb dX12_reverseIn_31 rfl (lv_at hl 4 rfl) ?_
          obtain ⟨t32, hc32, h⟩ := bd1_to h
          refine go_0 (st1 := [.int t32, .ref aR0]) (run_S (As := [.int v1, .int v3]) (rest := [.ref aR0]) X hS (mX12_at g l  v1 v3 t32 hc32) okX12_at wd5_87 ⟨Nat.le_of_ble_eq_true rfl, Nat.le_of_ble_eq_true rfl⟩ ⟨rfl, rfl⟩ nil_P nil_D (nil_F hS hA) rfl hl.1 rfl (Nat.le_of_ble_eq_true rfl) dX12_reverseIn_32 ⟨Nat.zero_le _, Nat.zero_le _⟩) hS hA hP rfl (fun H locs hP hS => ?_)
          refine lv_aload_n hx hb dX12_reverseIn_35 rfl (lv_at hl 1 rfl) ?_
          refine lv_iload_n hx hb dX12_reverseIn_36 rfl (lv_at hl 2 rfl) ?_
          refine lv_iload_n hx hb dX12_reverseIn_37 rfl (lv_at hl 3 rfl) ?_
          refine lv_iconst (v := (1 : Int32)) hx hb dX12_reverseIn_38 (by decide) ?_
          refine lv_isub hx hb dX12_reverseIn_39 ?_
          refine lv_iload_n hx hb dX12_reverseIn_40 rfl (lv_at hl 4 rfl) ?_
          refine lv_isub hx hb dX12_reverseIn_41 ?_
          obtain ⟨t42, hc42, h⟩ := bd1_to h
          refine go_0 (st1 := [.int t42, .ref aR0, .int t32, .ref aR0]) (run_S (As := [.int v1, .int ((v2 - (1 : Int32)) - v3)]) (rest := [.ref aR0, .int t32, .ref aR0]) X hS (mX12_at g l  v1 ((v2 - (1 : Int32)) - v3) t42 hc42) okX12_at wd5_87 ⟨Nat.le_of_ble_eq_true rfl, Nat.le_of_ble_eq_true rfl⟩ ⟨rfl, rfl⟩ nil_P nil_D (nil_F hS hA) rfl hl.1 rfl (Nat.le_of_ble_eq_true rfl) dX12_reverseIn_42 ⟨Nat.zero_le _, Nat.zero_le _⟩) hS hA hP rfl (fun H locs hP hS => ?_)
          have hin := ld_in h
          refine va_iald hx hb hK hP 0 0 rfl rfl hin dX12_reverseIn_45 ?_
          refine lv_topi (fun t45 et45 => ?_)
          have h := ld_to h et45
          have hin := sti_in h
          refine va_iast hx hb hK hP hD hS 0 0 rfl rfl hin dX12_reverseIn_46 (fun H locs hP hD hS => ?_)
          obtain ⟨R0_46, eR0_46⟩ : ∃ y : Nat → Int32, y = upd R0 (Int32.toNatClampNeg t32) t45 := ⟨_, rfl⟩
          have h := sti_to h eR0_46
          have hP : va_P g.1 vwCl [(aR0, .inl (g.2.1 0, 26, .inl R0_46))] H := by rw [eR0_46]; exact hP
          have hD : va_D A [(aR0, .inl (g.2.1 0, 26, .inl R0_46))] := by rw [eR0_46]; exact hD
          refine lv_aload_n hx hb dX12_reverseIn_47 rfl (lv_at hl 1 rfl) ?_
          refine lv_iload_n hx hb dX12_reverseIn_48 rfl (lv_at hl 2 rfl) ?_
          refine lv_iload_n hx hb dX12_reverseIn_49 rfl (lv_at hl 3 rfl) ?_
          refine lv_iconst (v := (1 : Int32)) hx hb dX12_reverseIn_50 (by decide) ?_
          refine lv_isub hx hb dX12_reverseIn_51 ?_
          refine lv_iload_n hx hb dX12_reverseIn_52 rfl (lv_at hl 4 rfl) ?_
          refine lv_isub hx hb dX12_reverseIn_53 ?_
          obtain ⟨t54, hc54, h⟩ := bd1_to h
          refine go_0 (st1 := [.int t54, .ref aR0]) (run_S (As := [.int v1, .int ((v2 - (1 : Int32)) - v3)]) (rest := [.ref aR0]) X hS (mX12_at g l  v1 ((v2 - (1 : Int32)) - v3) t54 hc54) okX12_at wd5_87 ⟨Nat.le_of_ble_eq_true rfl, Nat.le_of_ble_eq_true rfl⟩ ⟨rfl, rfl⟩ nil_P nil_D (nil_F hS hA) rfl hl.1 rfl (Nat.le_of_ble_eq_true rfl) dX12_reverseIn_54 ⟨Nat.zero_le _, Nat.zero_le _⟩) hS hA hP rfl (fun H locs hP hS => ?_)
          refine lv_iload hx hb dX12_reverseIn_57 (lv_at hl 0 rfl) ?_
          have hin := sti_in h
          refine va_iast hx hb hK hP hD hS 0 0 rfl rfl hin dX12_reverseIn_59 (fun H locs hP hD hS => ?_)
          obtain ⟨R0_59, eR0_59⟩ : ∃ y : Nat → Int32, y = upd R0_46 (Int32.toNatClampNeg t54) t26 := ⟨_, rfl⟩
          have h := sti_to h eR0_59
          have hP : va_P g.1 vwCl [(aR0, .inl (g.2.1 0, 26, .inl R0_59))] H := by rw [eR0_59]; exact hP
          have hD : va_D A [(aR0, .inl (g.2.1 0, 26, .inl R0_59))] := by rw [eR0_59]; exact hD
          obtain ⟨t60, et60⟩ : ∃ y : Int32, y = v3 + (1 : Int32) := ⟨_, rfl⟩
          refine lv_iinc (v := t60) (lv' := [(3, .int t60), (4, .int t26), (0, .ref aR0), (1, .int v1), (2, .int v2)]) hx hb dX12_reverseIn_60 hl (k := 4) rfl (by rw [et60]; rfl) (by decide) rfl (fun ls hl => ?_)
          have h := st_to h et60
          refine lv_goto (tgt := 13) hx hb dX12_reverseIn_63 (by decide) ?_
          exact ih13 R0_59 v1 v2 t60 ls H locs (lv_sub hl [2, 3, 4, 0] rfl) hP hD hS h
      refine lv_iload_n hx hb dX12_reverseIn_2 rfl (lv_at hl 1 rfl) ?_
      refine lv_iconst (v := (2 : Int32)) hx hb dX12_reverseIn_3 (by decide) ?_
      refine lv_icmp_ge (tgt := 72) hx hb dX12_reverseIn_4 (by decide) (fun q4 => ?_) (fun q4 => ?_)
      · have h := ifT h q4
        have h : some R0 = some R0_o := h
        cases h
        exact hret _ _ _ _ hP hD hS dX12_reverseIn_72
      have h := ifF h q4
      refine lv_aload_n hx hb dX12_reverseIn_7 rfl (lv_at hl 0 rfl) ?_
      refine lv_iload_n hx hb dX12_reverseIn_8 rfl (lv_at hl 1 rfl) ?_
      have hin := ld_in h
      refine va_iald hx hb hK hP 0 0 rfl rfl hin dX12_reverseIn_9 ?_
      refine lv_topi (fun t9 et9 => ?_)
      have h := ld_to h et9
      refine lv_istore_n (lv' := [(2, .int t9), (0, .ref aR0), (1, .int v1)]) hx hb dX12_reverseIn_10 rfl hl (by decide) rfl (fun ls hl => ?_)
      refine lv_iconst (v := (0 : Int32)) hx hb dX12_reverseIn_11 (by decide) ?_
      refine lv_istore_n (lv' := [(3, .int (0 : Int32)), (2, .int t9), (0, .ref aR0), (1, .int v1)]) hx hb dX12_reverseIn_12 rfl hl (by decide) rfl (fun ls hl => ?_)
      exact L13 FU R0 v1 t9 (0 : Int32) ls H locs (lv_sub hl [2, 3, 1, 0] rfl) hP hD hS h
  have hl : lv_has ls 5 [(0, .ref aR0)] := hl
  obtain ⟨H, hH⟩ : ∃ H, H = s.heap := ⟨_, rfl⟩
  obtain ⟨locs, hlocs⟩ : ∃ l : List Loc, l = [] := ⟨_, rfl⟩
  rw [show W p l e rmX12_reverseIn s m ([.ref aR0] : List Value).toArray below meth c s.heap [] 0 0 QQ (F0 m 0 ls []) = W p l e rmX12_reverseIn s m ([.ref aR0] : List Value).toArray below meth c H locs 0 0 QQ (F0 m 0 ls []) by rw [hH, hlocs]]
  have hP : va_P g.1 vwCl [(aR0, .inl (g.2.1 0, 26, .inl R0))] H := by rw [hH]; exact hP
  have hD : va_D A [(aR0, .inl (g.2.1 0, 26, .inl R0))] := hD
  have hS : va_S A s.heap H locs := by rw [hH, hlocs]; exact hS
  clear hH hlocs
  refine lv_iconst (v := (0 : Int32)) hx hb dX12_reverseIn_0 (by decide) ?_
  refine lv_istore_n (lv' := [(1, .int (0 : Int32)), (0, .ref aR0)]) hx hb dX12_reverseIn_1 rfl hl (by decide) rfl (fun ls hl => ?_)
  exact L2 FU R0 (0 : Int32) ls H locs (lv_sub hl [1, 0] rfl) hP hD hS h
set_option maxHeartbeats 4000000 in
set_option maxRecDepth 100000 in
theorem mX12_reverse (g : GP) (l : Launch) (aM aM_text aM_now aM_trial aM_read aM_diary aM_kept aM_isKept aM_constraint aM_readConstraint aM_word aM_size aM_number aM_firstOne aM_node aM_parent aM_rule aM_child aM_proof aM_witness aM_witnessSize aM_built aM_copyRow : Nat) (M_length : Int32) (M_acts : Int32) (M_next : Int32) (M_many : Int32) (M_readMany : Int32) (M_found : Int32) (M_shortest : Int32) (M_nodes : Int32) (M_solved : Int32) (M_dropped : Int32) (M_fits : Int32) (M_proofSize : Int32) (M_tooLong : Int32) (M_text : Nat → Int32) (M_now : Nat → Int32) (M_trial : Nat → Int32) (M_read : Nat → Int32) (M_diary : Nat → Int32) (M_kept : Nat → Int32) (M_isKept : Nat → Int32) (M_constraint : Nat → Int32) (M_readConstraint : Nat → Int32) (M_word : Nat → Int32) (M_size : Nat → Int32) (M_number : Nat → Int32) (M_firstOne : Nat → Int32) (M_node : Nat → Int32) (M_parent : Nat → Int32) (M_rule : Nat → Int32) (M_child : Nat → Int32) (M_proof : Nat → Int32) (M_witness : Nat → Int32) (M_witnessSize : Nat → Int32) (M_built : Nat → Int32) (M_copyRow : Nat → Int32)  (r : Int32) (M_acts_o : Int32) (M_next_o : Int32) (M_now_o : Nat → Int32) (M_diary_o : Nat → Int32) (h : fM_reverse M_acts M_next M_now M_diary = some (r, M_acts_o, M_next_o, M_now_o, M_diary_o)) : Ct g l yX12_reverse cX12_reverse 1 (some .int) rmX12_reverse [.ref aM] (wX12 g aM aM_text aM_now aM_trial aM_read aM_diary aM_kept aM_isKept aM_constraint aM_readConstraint aM_word aM_size aM_number aM_firstOne aM_node aM_parent aM_rule aM_child aM_proof aM_witness aM_witnessSize aM_built aM_copyRow M_length M_acts M_next M_many M_readMany M_found M_shortest M_nodes M_solved M_dropped M_fits M_proofSize M_tooLong M_text M_now M_trial M_read M_diary M_kept M_isKept M_constraint M_readConstraint M_word M_size M_number M_firstOne M_node M_parent M_rule M_child M_proof M_witness M_witnessSize M_built M_copyRow) (some (.int r)) (wX12 g aM aM_text aM_now aM_trial aM_read aM_diary aM_kept aM_isKept aM_constraint aM_readConstraint aM_word aM_size aM_number aM_firstOne aM_node aM_parent aM_rule aM_child aM_proof aM_witness aM_witnessSize aM_built aM_copyRow M_length M_acts_o M_next_o M_many M_readMany M_found M_shortest M_nodes M_solved M_dropped M_fits M_proofSize M_tooLong M_text M_now_o M_trial M_read M_diary_o M_kept M_isKept M_constraint M_readConstraint M_word M_size M_number M_firstOne M_node M_parent M_rule M_child M_proof M_witness M_witnessSize M_built M_copyRow) := by
  refine Ct.introI (by decide) (Nat.le_of_ble_eq_true rfl) ?_
  intro p e s m below meth c A QQ ls hyp hret
  obtain ⟨hx, hb, hml, hts, hown, hA, hE, hP, hD, hl⟩ := hyp
  have hK := hE.1
  have hS : va_S A s.heap s.heap [] := va_S.rf
  have X : Here g p s m c cX12_reverse 1 ([.ref aM] : List Value).toArray RX12 A := ⟨⟨hx, hb, hml, hown, hts⟩, hE, hA⟩
  have hl : lv_has ls 1 [(0, .ref aM)] := hl
  obtain ⟨H, hH⟩ : ∃ H, H = s.heap := ⟨_, rfl⟩
  obtain ⟨locs, hlocs⟩ : ∃ l : List Loc, l = [] := ⟨_, rfl⟩
  rw [show W p l e rmX12_reverse s m ([.ref aM] : List Value).toArray below meth c s.heap [] 0 0 QQ (F0 m 0 ls []) = W p l e rmX12_reverse s m ([.ref aM] : List Value).toArray below meth c H locs 0 0 QQ (F0 m 0 ls []) by rw [hH, hlocs]]
  have hP : va_P g.1 vwCl (wX12 g aM aM_text aM_now aM_trial aM_read aM_diary aM_kept aM_isKept aM_constraint aM_readConstraint aM_word aM_size aM_number aM_firstOne aM_node aM_parent aM_rule aM_child aM_proof aM_witness aM_witnessSize aM_built aM_copyRow M_length M_acts M_next M_many M_readMany M_found M_shortest M_nodes M_solved M_dropped M_fits M_proofSize M_tooLong M_text M_now M_trial M_read M_diary M_kept M_isKept M_constraint M_readConstraint M_word M_size M_number M_firstOne M_node M_parent M_rule M_child M_proof M_witness M_witnessSize M_built M_copyRow) H := by rw [hH]; exact hP
  have hD : va_D A (wX12 g aM aM_text aM_now aM_trial aM_read aM_diary aM_kept aM_isKept aM_constraint aM_readConstraint aM_word aM_size aM_number aM_firstOne aM_node aM_parent aM_rule aM_child aM_proof aM_witness aM_witnessSize aM_built aM_copyRow M_length M_acts M_next M_many M_readMany M_found M_shortest M_nodes M_solved M_dropped M_fits M_proofSize M_tooLong M_text M_now M_trial M_read M_diary M_kept M_isKept M_constraint M_readConstraint M_word M_size M_number M_firstOne M_node M_parent M_rule M_child M_proof M_witness M_witnessSize M_built M_copyRow) := hD
  have hS : va_S A s.heap H locs := by rw [hH, hlocs]; exact hS
  clear hH hlocs
  refine lv_aload_n hx hb dX12_reverse_0 rfl (lv_at hl 0 rfl) ?_
  obtain ⟨M_acts_1, M_next_1, M_diary_1, hc1, h⟩ := bd3_to h
  refine go_A (st1 := []) (run_V (As := []) (rest := []) X hS (mX12_note g l  aM aM_text aM_now aM_trial aM_read aM_diary aM_kept aM_isKept aM_constraint aM_readConstraint aM_word aM_size aM_number aM_firstOne aM_node aM_parent aM_rule aM_child aM_proof aM_witness aM_witnessSize aM_built aM_copyRow M_length M_acts M_next M_many M_readMany M_found M_shortest M_nodes M_solved M_dropped M_fits M_proofSize M_tooLong M_text M_now M_trial M_read M_diary M_kept M_isKept M_constraint M_readConstraint M_word M_size M_number M_firstOne M_node M_parent M_rule M_child M_proof M_witness M_witnessSize M_built M_copyRow M_acts_1 M_next_1 M_diary_1 hc1) okX12_note wd5_131 ⟨Nat.le_of_ble_eq_true rfl, Nat.le_of_ble_eq_true rfl⟩ ⟨rfl, rfl⟩ (va_recv hK hP (ci := 11) (q0 := 0) rfl rfl) hP hD (all_F hS hA hD) rfl hl.1 rfl (Nat.le_of_ble_eq_true rfl) dX12_reverse_1 ⟨Nat.zero_le _, Nat.zero_le _⟩) hS (all_F hS hA hD) rfl (fun H locs hP hD hS => ?_)
  refine lv_aload_n hx hb dX12_reverse_4 rfl (lv_at hl 0 rfl) ?_
  refine va_get (D := g.1) (ci := 11) (v := .ref aM_now) (C := RX12) (T := TX12) (N := 35) hx hb hts inBX12 hown hK hP 0 rfl rfl 2 (by decide) (hts _ wd4_198) (fun _ h9 => h9) rfl dX12_reverse_5 ?_
  obtain ⟨M_now_8, hc8, h⟩ := bd1_to h
  refine go_P (st1 := []) (W1 := (wX12 g aM aM_text aM_now aM_trial aM_read aM_diary aM_kept aM_isKept aM_constraint aM_readConstraint aM_word aM_size aM_number aM_firstOne aM_node aM_parent aM_rule aM_child aM_proof aM_witness aM_witnessSize aM_built aM_copyRow M_length M_acts_1 M_next_1 M_many M_readMany M_found M_shortest M_nodes M_solved M_dropped M_fits M_proofSize M_tooLong M_text M_now_8 M_trial M_read M_diary_1 M_kept M_isKept M_constraint M_readConstraint M_word M_size M_number M_firstOne M_node M_parent M_rule M_child M_proof M_witness M_witnessSize M_built M_copyRow)) (run_S (As := [.ref aM_now]) (rest := []) X hS (mX12_reverseIn g l  aM_now M_now M_now_8 hc8) okX12_reverseIn wd5_142 ⟨Nat.le_of_ble_eq_true rfl, Nat.le_of_ble_eq_true rfl⟩ ⟨rfl, rfl⟩ (sub_P hP [2] rfl) (hD.sub [2] (by decide) rfl) (va_free hD hS hA [2] rfl) rfl hl.1 rfl (Nat.le_of_ble_eq_true rfl) dX12_reverse_8 ⟨Nat.zero_le _, Nat.zero_le _⟩) hS (va_free hD hS hA [2] rfl) hP hD [2] [0, 1, 3, 4, 5, 6, 7, 8, 9, 10, 11, 12, 13, 14, 15, 16, 17, 18, 19, 20, 21, 22] [0, 1, 22, 2, 3, 4, 5, 6, 7, 8, 9, 10, 11, 12, 13, 14, 15, 16, 17, 18, 19, 20, 21] rfl rfl (by decide) (by decide) rfl (by decide) rfl (fun H locs hP hD hS => ?_)
  refine lv_aload_n hx hb dX12_reverse_11 rfl (lv_at hl 0 rfl) ?_
  refine va_get (D := g.1) (ci := 11) (v := .ref aM_now) (C := RX12) (T := TX12) (N := 35) hx hb hts inBX12 hown hK hP 0 rfl rfl 2 (by decide) (hts _ wd4_198) (fun _ h9 => h9) rfl dX12_reverse_12 ?_
  refine lv_iconst (v := (0 : Int32)) hx hb dX12_reverse_15 (by decide) ?_
  have hin := ld_in h
  refine va_iald hx hb hK hP 2 0 rfl rfl hin dX12_reverse_16 ?_
  refine lv_topi (fun t16 et16 => ?_)
  have h := ld_to h et16
  refine lv_aload_n hx hb dX12_reverse_17 rfl (lv_at hl 0 rfl) ?_
  refine va_get (D := g.1) (ci := 11) (v := .ref aM_now) (C := RX12) (T := TX12) (N := 35) hx hb hts inBX12 hown hK hP 0 rfl rfl 2 (by decide) (hts _ wd4_198) (fun _ h9 => h9) rfl dX12_reverse_18 ?_
  refine lv_iconst (v := (1 : Int32)) hx hb dX12_reverse_21 (by decide) ?_
  have hin := ld_in h
  refine va_iald hx hb hK hP 2 0 rfl rfl hin dX12_reverse_22 ?_
  refine lv_topi (fun t22 et22 => ?_)
  have h := ld_to h et22
  refine lv_iadd hx hb dX12_reverse_23 ?_
  have h : some ((t16 + t22), M_acts_1, M_next_1, M_now_8, M_diary_1) = some (r, M_acts_o, M_next_o, M_now_o, M_diary_o) := h
  cases h
  exact hret _ _ _ _ hP hD hS dX12_reverse_24
set_option maxHeartbeats 4000000 in
set_option maxRecDepth 100000 in
theorem mX12_dropFirst (g : GP) (l : Launch) (aR0 : Nat) (R0 : Nat → Int32) (x1 : Int32) (R0_o : Nat → Int32) (h : fM_dropFirst R0 x1 = some R0_o) : Ct g l yX12_dropFirst cX12_dropFirst 3 none rmX12_dropFirst [.ref aR0, .int x1] [(aR0, .inl (g.2.1 0, 26, .inl R0))] none [(aR0, .inl (g.2.1 0, 26, .inl R0_o))] := by
  refine Ct.introV (by decide) (Nat.le_of_ble_eq_true rfl) ?_
  intro p e s m below meth c A QQ ls hyp hret
  obtain ⟨hx, hb, hml, hts, hown, hA, hE, hP, hD, hl⟩ := hyp
  have hK := hE.1
  have hS : va_S A s.heap s.heap [] := va_S.rf
  have X : Here g p s m c cX12_dropFirst 3 ([.ref aR0, .int x1] : List Value).toArray RX12 A := ⟨⟨hx, hb, hml, hown, hts⟩, hE, hA⟩
  have L9 : ∀ (n9 : Nat), ∀ (R0 : Nat → Int32) (v2 : Int32) (ls : Array Slot) (H : Heap) (locs : List Loc), lv_has ls 3 [(0, .ref aR0), (1, .int x1), (2, .int v2)] → va_P g.1 vwCl [(aR0, .inl (g.2.1 0, 26, .inl R0))] H → va_D A [(aR0, .inl (g.2.1 0, 26, .inl R0))] → va_S A s.heap H locs → fx2 (fM_dropFirst_9 x1) n9 R0 v2 = some R0_o → W p l e rmX12_dropFirst s m ([.ref aR0, .int x1] : List Value).toArray below meth c H locs 0 0 QQ (F0 m 9 ls []) := by
    intro n9
    induction n9 with
    | zero => intro R0 v2 ls H locs hl hP hD hS h; exact fx2_0 h
    | succ n9 ih9 =>
      intro R0 v2 ls H locs hl hP hD hS h
      have h := (fx2_s (fM_dropFirst_9 x1) n9 R0 v2).symm.trans h
      refine lv_iload_n hx hb dX12_dropFirst_9 rfl (lv_at hl 2 rfl) ?_
      refine lv_aload_n hx hb dX12_dropFirst_10 rfl (lv_at hl 0 rfl) ?_
      refine lv_iload_n hx hb dX12_dropFirst_11 rfl (lv_at hl 1 rfl) ?_
      have hin := ld_in h
      refine va_iald hx hb hK hP 0 0 rfl rfl hin dX12_dropFirst_12 ?_
      refine lv_topi (fun t12 et12 => ?_)
      have h := ld_to h et12
      refine lv_icmp_ge (tgt := 38) hx hb dX12_dropFirst_13 (by decide) (fun q13 => ?_) (fun q13 => ?_)
      · have h := ifT h q13
        refine lv_aload_n hx hb dX12_dropFirst_38 rfl (lv_at hl 0 rfl) ?_
        refine lv_iload_n hx hb dX12_dropFirst_39 rfl (lv_at hl 1 rfl) ?_
        refine lv_aload_n hx hb dX12_dropFirst_40 rfl (lv_at hl 0 rfl) ?_
        refine lv_iload_n hx hb dX12_dropFirst_41 rfl (lv_at hl 1 rfl) ?_
        have hin := ld_in h
        refine va_iald hx hb hK hP 0 0 rfl rfl hin dX12_dropFirst_42 ?_
        refine lv_topi (fun t42 et42 => ?_)
        have h := ld_to h et42
        obtain ⟨t43, hc43, h⟩ := bd1_to h
        refine go_0 (st1 := [.int t43, .ref aR0]) (run_S (As := [.int x1, .int t42]) (rest := [.ref aR0]) X hS (mX12_at g l  x1 t42 t43 hc43) okX12_at wd5_87 ⟨Nat.le_of_ble_eq_true rfl, Nat.le_of_ble_eq_true rfl⟩ ⟨rfl, rfl⟩ nil_P nil_D (nil_F hS hA) rfl hl.1 rfl (Nat.le_of_ble_eq_true rfl) dX12_dropFirst_43 ⟨Nat.zero_le _, Nat.zero_le _⟩) hS hA hP rfl (fun H locs hP hS => ?_)
        refine lv_iconst (v := (0 : Int32)) hx hb dX12_dropFirst_46 (by decide) ?_
        have hin := sti_in h
        refine va_iast hx hb hK hP hD hS 0 0 rfl rfl hin dX12_dropFirst_47 (fun H locs hP hD hS => ?_)
        obtain ⟨R0_47, eR0_47⟩ : ∃ y : Nat → Int32, y = upd R0 (Int32.toNatClampNeg t43) (0 : Int32) := ⟨_, rfl⟩
        have h := sti_to h eR0_47
        have hP : va_P g.1 vwCl [(aR0, .inl (g.2.1 0, 26, .inl R0_47))] H := by rw [eR0_47]; exact hP
        have hD : va_D A [(aR0, .inl (g.2.1 0, 26, .inl R0_47))] := by rw [eR0_47]; exact hD
        have h : some R0_47 = some R0_o := h
        cases h
        exact hret _ _ _ _ hP hD hS dX12_dropFirst_48
      have h := ifF h q13
      refine lv_aload_n hx hb dX12_dropFirst_16 rfl (lv_at hl 0 rfl) ?_
      refine lv_iload_n hx hb dX12_dropFirst_17 rfl (lv_at hl 1 rfl) ?_
      refine lv_iload_n hx hb dX12_dropFirst_18 rfl (lv_at hl 2 rfl) ?_
      obtain ⟨t19, hc19, h⟩ := bd1_to h
      refine go_0 (st1 := [.int t19, .ref aR0]) (run_S (As := [.int x1, .int v2]) (rest := [.ref aR0]) X hS (mX12_at g l  x1 v2 t19 hc19) okX12_at wd5_87 ⟨Nat.le_of_ble_eq_true rfl, Nat.le_of_ble_eq_true rfl⟩ ⟨rfl, rfl⟩ nil_P nil_D (nil_F hS hA) rfl hl.1 rfl (Nat.le_of_ble_eq_true rfl) dX12_dropFirst_19 ⟨Nat.zero_le _, Nat.zero_le _⟩) hS hA hP rfl (fun H locs hP hS => ?_)
      refine lv_aload_n hx hb dX12_dropFirst_22 rfl (lv_at hl 0 rfl) ?_
      refine lv_iload_n hx hb dX12_dropFirst_23 rfl (lv_at hl 1 rfl) ?_
      refine lv_iload_n hx hb dX12_dropFirst_24 rfl (lv_at hl 2 rfl) ?_
      refine lv_iconst (v := (1 : Int32)) hx hb dX12_dropFirst_25 (by decide) ?_
      refine lv_iadd hx hb dX12_dropFirst_26 ?_
      obtain ⟨t27, hc27, h⟩ := bd1_to h
      refine go_0 (st1 := [.int t27, .ref aR0, .int t19, .ref aR0]) (run_S (As := [.int x1, .int (v2 + (1 : Int32))]) (rest := [.ref aR0, .int t19, .ref aR0]) X hS (mX12_at g l  x1 (v2 + (1 : Int32)) t27 hc27) okX12_at wd5_87 ⟨Nat.le_of_ble_eq_true rfl, Nat.le_of_ble_eq_true rfl⟩ ⟨rfl, rfl⟩ nil_P nil_D (nil_F hS hA) rfl hl.1 rfl (Nat.le_of_ble_eq_true rfl) dX12_dropFirst_27 ⟨Nat.zero_le _, Nat.zero_le _⟩) hS hA hP rfl (fun H locs hP hS => ?_)
      have hin := ld_in h
      refine va_iald hx hb hK hP 0 0 rfl rfl hin dX12_dropFirst_30 ?_
      refine lv_topi (fun t30 et30 => ?_)
      have h := ld_to h et30
      have hin := sti_in h
      refine va_iast hx hb hK hP hD hS 0 0 rfl rfl hin dX12_dropFirst_31 (fun H locs hP hD hS => ?_)
      obtain ⟨R0_31, eR0_31⟩ : ∃ y : Nat → Int32, y = upd R0 (Int32.toNatClampNeg t19) t30 := ⟨_, rfl⟩
      have h := sti_to h eR0_31
      have hP : va_P g.1 vwCl [(aR0, .inl (g.2.1 0, 26, .inl R0_31))] H := by rw [eR0_31]; exact hP
      have hD : va_D A [(aR0, .inl (g.2.1 0, 26, .inl R0_31))] := by rw [eR0_31]; exact hD
      obtain ⟨t32, et32⟩ : ∃ y : Int32, y = v2 + (1 : Int32) := ⟨_, rfl⟩
      refine lv_iinc (v := t32) (lv' := [(2, .int t32), (0, .ref aR0), (1, .int x1)]) hx hb dX12_dropFirst_32 hl (k := 2) rfl (by rw [et32]; rfl) (by decide) rfl (fun ls hl => ?_)
      have h := st_to h et32
      refine lv_goto (tgt := 9) hx hb dX12_dropFirst_35 (by decide) ?_
      exact ih9 R0_31 t32 ls H locs (lv_sub hl [1, 2, 0] rfl) hP hD hS h
  have hl : lv_has ls 3 [(0, .ref aR0), (1, .int x1)] := hl
  obtain ⟨H, hH⟩ : ∃ H, H = s.heap := ⟨_, rfl⟩
  obtain ⟨locs, hlocs⟩ : ∃ l : List Loc, l = [] := ⟨_, rfl⟩
  rw [show W p l e rmX12_dropFirst s m ([.ref aR0, .int x1] : List Value).toArray below meth c s.heap [] 0 0 QQ (F0 m 0 ls []) = W p l e rmX12_dropFirst s m ([.ref aR0, .int x1] : List Value).toArray below meth c H locs 0 0 QQ (F0 m 0 ls []) by rw [hH, hlocs]]
  have hP : va_P g.1 vwCl [(aR0, .inl (g.2.1 0, 26, .inl R0))] H := by rw [hH]; exact hP
  have hD : va_D A [(aR0, .inl (g.2.1 0, 26, .inl R0))] := hD
  have hS : va_S A s.heap H locs := by rw [hH, hlocs]; exact hS
  clear hH hlocs
  refine lv_aload_n hx hb dX12_dropFirst_0 rfl (lv_at hl 0 rfl) ?_
  refine lv_iload_n hx hb dX12_dropFirst_1 rfl (lv_at hl 1 rfl) ?_
  refine lv_dup2_11 hx hb dX12_dropFirst_2 rfl rfl ?_
  have hin := ld_in h
  refine va_iald hx hb hK hP 0 0 rfl rfl hin dX12_dropFirst_3 ?_
  refine lv_topi (fun t3 et3 => ?_)
  have h := ld_to h et3
  refine lv_iconst (v := (1 : Int32)) hx hb dX12_dropFirst_4 (by decide) ?_
  refine lv_isub hx hb dX12_dropFirst_5 ?_
  have hin := sti_in h
  refine va_iast hx hb hK hP hD hS 0 0 rfl rfl hin dX12_dropFirst_6 (fun H locs hP hD hS => ?_)
  obtain ⟨R0_6, eR0_6⟩ : ∃ y : Nat → Int32, y = upd R0 (Int32.toNatClampNeg x1) (t3 - (1 : Int32)) := ⟨_, rfl⟩
  have h := sti_to h eR0_6
  have hP : va_P g.1 vwCl [(aR0, .inl (g.2.1 0, 26, .inl R0_6))] H := by rw [eR0_6]; exact hP
  have hD : va_D A [(aR0, .inl (g.2.1 0, 26, .inl R0_6))] := by rw [eR0_6]; exact hD
  refine lv_iconst (v := (0 : Int32)) hx hb dX12_dropFirst_7 (by decide) ?_
  refine lv_istore_n (lv' := [(2, .int (0 : Int32)), (0, .ref aR0), (1, .int x1)]) hx hb dX12_dropFirst_8 rfl hl (by decide) rfl (fun ls hl => ?_)
  exact L9 FU R0_6 (0 : Int32) ls H locs (lv_sub hl [1, 2, 0] rfl) hP hD hS h
set_option maxHeartbeats 4000000 in
set_option maxRecDepth 100000 in
theorem mX12_cancelIn (g : GP) (l : Launch) (aR0 : Nat) (R0 : Nat → Int32)  (r : Int32) (R0_o : Nat → Int32) (h : fM_cancelIn R0 = some (r, R0_o)) : Ct g l yX12_cancelIn cX12_cancelIn 2 (some .int) rmX12_cancelIn [.ref aR0] [(aR0, .inl (g.2.1 0, 26, .inl R0))] (some (.int r)) [(aR0, .inl (g.2.1 0, 26, .inl R0_o))] := by
  refine Ct.introI (by decide) (Nat.le_of_ble_eq_true rfl) ?_
  intro p e s m below meth c A QQ ls hyp hret
  obtain ⟨hx, hb, hml, hts, hown, hA, hE, hP, hD, hl⟩ := hyp
  have hK := hE.1
  have hS : va_S A s.heap s.heap [] := va_S.rf
  have X : Here g p s m c cX12_cancelIn 2 ([.ref aR0] : List Value).toArray RX12 A := ⟨⟨hx, hb, hml, hown, hts⟩, hE, hA⟩
  have L47 : ∀ (n47 : Nat), ∀ (R0 : Nat → Int32) (v1 : Int32) (ls : Array Slot) (H : Heap) (locs : List Loc), lv_has ls 2 [(0, .ref aR0), (1, .int v1)] → va_P g.1 vwCl [(aR0, .inl (g.2.1 0, 26, .inl R0))] H → va_D A [(aR0, .inl (g.2.1 0, 26, .inl R0))] → va_S A s.heap H locs → fx2 (fM_cancelIn_47) n47 R0 v1 = some (r, R0_o) → W p l e rmX12_cancelIn s m ([.ref aR0] : List Value).toArray below meth c H locs 0 0 QQ (F0 m 47 ls []) := by
    intro n47
    induction n47 with
    | zero => intro R0 v1 ls H locs hl hP hD hS h; exact fx2_0 h
    | succ n47 ih47 =>
      intro R0 v1 ls H locs hl hP hD hS h
      have h := (fx2_s (fM_cancelIn_47) n47 R0 v1).symm.trans h
      refine lv_aload_n hx hb dX12_cancelIn_47 rfl (lv_at hl 0 rfl) ?_
      refine lv_iconst (v := (0 : Int32)) hx hb dX12_cancelIn_48 (by decide) ?_
      have hin := ld_in h
      refine va_iald hx hb hK hP 0 0 rfl rfl hin dX12_cancelIn_49 ?_
      refine lv_topi (fun t49 et49 => ?_)
      have h := ld_to h et49
      refine lv_if_le (tgt := 124) hx hb dX12_cancelIn_50 (by decide) (fun q50 => ?_) (fun q50 => ?_)
      · have h := ifT h q50
        refine lv_iload_n hx hb dX12_cancelIn_124 rfl (lv_at hl 1 rfl) ?_
        have h : some (v1, R0) = some (r, R0_o) := h
        cases h
        exact hret _ _ _ _ hP hD hS dX12_cancelIn_125
      have h := ifF h q50
      refine lv_aload_n hx hb dX12_cancelIn_53 rfl (lv_at hl 0 rfl) ?_
      refine lv_iconst (v := (1 : Int32)) hx hb dX12_cancelIn_54 (by decide) ?_
      have hin := ld_in h
      refine va_iald hx hb hK hP 0 0 rfl rfl hin dX12_cancelIn_55 ?_
      refine lv_topi (fun t55 et55 => ?_)
      have h := ld_to h et55
      refine lv_if_le (tgt := 124) hx hb dX12_cancelIn_56 (by decide) (fun q56 => ?_) (fun q56 => ?_)
      · have h := ifT h q56
        refine lv_iload_n hx hb dX12_cancelIn_124 rfl (lv_at hl 1 rfl) ?_
        have h : some (v1, R0) = some (r, R0_o) := h
        cases h
        exact hret _ _ _ _ hP hD hS dX12_cancelIn_125
      have h := ifF h q56
      refine lv_aload_n hx hb dX12_cancelIn_59 rfl (lv_at hl 0 rfl) ?_
      refine lv_iconst (v := (0 : Int32)) hx hb dX12_cancelIn_60 (by decide) ?_
      refine lv_aload_n hx hb dX12_cancelIn_61 rfl (lv_at hl 0 rfl) ?_
      refine lv_iconst (v := (0 : Int32)) hx hb dX12_cancelIn_62 (by decide) ?_
      have hin := ld_in h
      refine va_iald hx hb hK hP 0 0 rfl rfl hin dX12_cancelIn_63 ?_
      refine lv_topi (fun t63 et63 => ?_)
      have h := ld_to h et63
      refine lv_iconst (v := (1 : Int32)) hx hb dX12_cancelIn_64 (by decide) ?_
      refine lv_isub hx hb dX12_cancelIn_65 ?_
      obtain ⟨t66, hc66, h⟩ := bd1_to h
      refine go_0 (st1 := [.int t66, .ref aR0]) (run_S (As := [.int (0 : Int32), .int (t63 - (1 : Int32))]) (rest := [.ref aR0]) X hS (mX12_at g l  (0 : Int32) (t63 - (1 : Int32)) t66 hc66) okX12_at wd5_87 ⟨Nat.le_of_ble_eq_true rfl, Nat.le_of_ble_eq_true rfl⟩ ⟨rfl, rfl⟩ nil_P nil_D (nil_F hS hA) rfl hl.1 rfl (Nat.le_of_ble_eq_true rfl) dX12_cancelIn_66 ⟨Nat.zero_le _, Nat.zero_le _⟩) hS hA hP rfl (fun H locs hP hS => ?_)
      have hin := ld_in h
      refine va_iald hx hb hK hP 0 0 rfl rfl hin dX12_cancelIn_69 ?_
      refine lv_topi (fun t69 et69 => ?_)
      have h := ld_to h et69
      refine lv_aload_n hx hb dX12_cancelIn_70 rfl (lv_at hl 0 rfl) ?_
      refine lv_iconst (v := (1 : Int32)) hx hb dX12_cancelIn_71 (by decide) ?_
      refine lv_aload_n hx hb dX12_cancelIn_72 rfl (lv_at hl 0 rfl) ?_
      refine lv_iconst (v := (1 : Int32)) hx hb dX12_cancelIn_73 (by decide) ?_
      have hin := ld_in h
      refine va_iald hx hb hK hP 0 0 rfl rfl hin dX12_cancelIn_74 ?_
      refine lv_topi (fun t74 et74 => ?_)
      have h := ld_to h et74
      refine lv_iconst (v := (1 : Int32)) hx hb dX12_cancelIn_75 (by decide) ?_
      refine lv_isub hx hb dX12_cancelIn_76 ?_
      obtain ⟨t77, hc77, h⟩ := bd1_to h
      refine go_0 (st1 := [.int t77, .ref aR0, .int t69]) (run_S (As := [.int (1 : Int32), .int (t74 - (1 : Int32))]) (rest := [.ref aR0, .int t69]) X hS (mX12_at g l  (1 : Int32) (t74 - (1 : Int32)) t77 hc77) okX12_at wd5_87 ⟨Nat.le_of_ble_eq_true rfl, Nat.le_of_ble_eq_true rfl⟩ ⟨rfl, rfl⟩ nil_P nil_D (nil_F hS hA) rfl hl.1 rfl (Nat.le_of_ble_eq_true rfl) dX12_cancelIn_77 ⟨Nat.zero_le _, Nat.zero_le _⟩) hS hA hP rfl (fun H locs hP hS => ?_)
      have hin := ld_in h
      refine va_iald hx hb hK hP 0 0 rfl rfl hin dX12_cancelIn_80 ?_
      refine lv_topi (fun t80 et80 => ?_)
      have h := ld_to h et80
      refine lv_icmp_ne (tgt := 124) hx hb dX12_cancelIn_81 (by decide) (fun q81 => ?_) (fun q81 => ?_)
      · have h := ifF h q81
        refine lv_iload_n hx hb dX12_cancelIn_124 rfl (lv_at hl 1 rfl) ?_
        have h : some (v1, R0) = some (r, R0_o) := h
        cases h
        exact hret _ _ _ _ hP hD hS dX12_cancelIn_125
      have h := ifT h q81
      refine lv_aload_n hx hb dX12_cancelIn_84 rfl (lv_at hl 0 rfl) ?_
      refine lv_iconst (v := (0 : Int32)) hx hb dX12_cancelIn_85 (by decide) ?_
      refine lv_dup2_11 hx hb dX12_cancelIn_86 rfl rfl ?_
      have hin := ld_in h
      refine va_iald hx hb hK hP 0 0 rfl rfl hin dX12_cancelIn_87 ?_
      refine lv_topi (fun t87 et87 => ?_)
      have h := ld_to h et87
      refine lv_iconst (v := (1 : Int32)) hx hb dX12_cancelIn_88 (by decide) ?_
      refine lv_isub hx hb dX12_cancelIn_89 ?_
      have hin := sti_in h
      refine va_iast hx hb hK hP hD hS 0 0 rfl rfl hin dX12_cancelIn_90 (fun H locs hP hD hS => ?_)
      obtain ⟨R0_90, eR0_90⟩ : ∃ y : Nat → Int32, y = upd R0 (Int32.toNatClampNeg (0 : Int32)) (t87 - (1 : Int32)) := ⟨_, rfl⟩
      have h := sti_to h eR0_90
      have hP : va_P g.1 vwCl [(aR0, .inl (g.2.1 0, 26, .inl R0_90))] H := by rw [eR0_90]; exact hP
      have hD : va_D A [(aR0, .inl (g.2.1 0, 26, .inl R0_90))] := by rw [eR0_90]; exact hD
      refine lv_aload_n hx hb dX12_cancelIn_91 rfl (lv_at hl 0 rfl) ?_
      refine lv_iconst (v := (1 : Int32)) hx hb dX12_cancelIn_92 (by decide) ?_
      refine lv_dup2_11 hx hb dX12_cancelIn_93 rfl rfl ?_
      have hin := ld_in h
      refine va_iald hx hb hK hP 0 0 rfl rfl hin dX12_cancelIn_94 ?_
      refine lv_topi (fun t94 et94 => ?_)
      have h := ld_to h et94
      refine lv_iconst (v := (1 : Int32)) hx hb dX12_cancelIn_95 (by decide) ?_
      refine lv_isub hx hb dX12_cancelIn_96 ?_
      have hin := sti_in h
      refine va_iast hx hb hK hP hD hS 0 0 rfl rfl hin dX12_cancelIn_97 (fun H locs hP hD hS => ?_)
      obtain ⟨R0_97, eR0_97⟩ : ∃ y : Nat → Int32, y = upd R0_90 (Int32.toNatClampNeg (1 : Int32)) (t94 - (1 : Int32)) := ⟨_, rfl⟩
      have h := sti_to h eR0_97
      have hP : va_P g.1 vwCl [(aR0, .inl (g.2.1 0, 26, .inl R0_97))] H := by rw [eR0_97]; exact hP
      have hD : va_D A [(aR0, .inl (g.2.1 0, 26, .inl R0_97))] := by rw [eR0_97]; exact hD
      refine lv_aload_n hx hb dX12_cancelIn_98 rfl (lv_at hl 0 rfl) ?_
      refine lv_iconst (v := (0 : Int32)) hx hb dX12_cancelIn_99 (by decide) ?_
      refine lv_aload_n hx hb dX12_cancelIn_100 rfl (lv_at hl 0 rfl) ?_
      refine lv_iconst (v := (0 : Int32)) hx hb dX12_cancelIn_101 (by decide) ?_
      have hin := ld_in h
      refine va_iald hx hb hK hP 0 0 rfl rfl hin dX12_cancelIn_102 ?_
      refine lv_topi (fun t102 et102 => ?_)
      have h := ld_to h et102
      obtain ⟨t103, hc103, h⟩ := bd1_to h
      refine go_0 (st1 := [.int t103, .ref aR0]) (run_S (As := [.int (0 : Int32), .int t102]) (rest := [.ref aR0]) X hS (mX12_at g l  (0 : Int32) t102 t103 hc103) okX12_at wd5_87 ⟨Nat.le_of_ble_eq_true rfl, Nat.le_of_ble_eq_true rfl⟩ ⟨rfl, rfl⟩ nil_P nil_D (nil_F hS hA) rfl hl.1 rfl (Nat.le_of_ble_eq_true rfl) dX12_cancelIn_103 ⟨Nat.zero_le _, Nat.zero_le _⟩) hS hA hP rfl (fun H locs hP hS => ?_)
      refine lv_iconst (v := (0 : Int32)) hx hb dX12_cancelIn_106 (by decide) ?_
      have hin := sti_in h
      refine va_iast hx hb hK hP hD hS 0 0 rfl rfl hin dX12_cancelIn_107 (fun H locs hP hD hS => ?_)
      obtain ⟨R0_107, eR0_107⟩ : ∃ y : Nat → Int32, y = upd R0_97 (Int32.toNatClampNeg t103) (0 : Int32) := ⟨_, rfl⟩
      have h := sti_to h eR0_107
      have hP : va_P g.1 vwCl [(aR0, .inl (g.2.1 0, 26, .inl R0_107))] H := by rw [eR0_107]; exact hP
      have hD : va_D A [(aR0, .inl (g.2.1 0, 26, .inl R0_107))] := by rw [eR0_107]; exact hD
      refine lv_aload_n hx hb dX12_cancelIn_108 rfl (lv_at hl 0 rfl) ?_
      refine lv_iconst (v := (1 : Int32)) hx hb dX12_cancelIn_109 (by decide) ?_
      refine lv_aload_n hx hb dX12_cancelIn_110 rfl (lv_at hl 0 rfl) ?_
      refine lv_iconst (v := (1 : Int32)) hx hb dX12_cancelIn_111 (by decide) ?_
      have hin := ld_in h
      refine va_iald hx hb hK hP 0 0 rfl rfl hin dX12_cancelIn_112 ?_
      refine lv_topi (fun t112 et112 => ?_)
      have h := ld_to h et112
      obtain ⟨t113, hc113, h⟩ := bd1_to h
      refine go_0 (st1 := [.int t113, .ref aR0]) (run_S (As := [.int (1 : Int32), .int t112]) (rest := [.ref aR0]) X hS (mX12_at g l  (1 : Int32) t112 t113 hc113) okX12_at wd5_87 ⟨Nat.le_of_ble_eq_true rfl, Nat.le_of_ble_eq_true rfl⟩ ⟨rfl, rfl⟩ nil_P nil_D (nil_F hS hA) rfl hl.1 rfl (Nat.le_of_ble_eq_true rfl) dX12_cancelIn_113 ⟨Nat.zero_le _, Nat.zero_le _⟩) hS hA hP rfl (fun H locs hP hS => ?_)
      refine lv_iconst (v := (0 : Int32)) hx hb dX12_cancelIn_116 (by decide) ?_
      have hin := sti_in h
      refine va_iast hx hb hK hP hD hS 0 0 rfl rfl hin dX12_cancelIn_117 (fun H locs hP hD hS => ?_)
      obtain ⟨R0_117, eR0_117⟩ : ∃ y : Nat → Int32, y = upd R0_107 (Int32.toNatClampNeg t113) (0 : Int32) := ⟨_, rfl⟩
      have h := sti_to h eR0_117
      have hP : va_P g.1 vwCl [(aR0, .inl (g.2.1 0, 26, .inl R0_117))] H := by rw [eR0_117]; exact hP
      have hD : va_D A [(aR0, .inl (g.2.1 0, 26, .inl R0_117))] := by rw [eR0_117]; exact hD
      obtain ⟨t118, et118⟩ : ∃ y : Int32, y = v1 + (1 : Int32) := ⟨_, rfl⟩
      refine lv_iinc (v := t118) (lv' := [(1, .int t118), (0, .ref aR0)]) hx hb dX12_cancelIn_118 hl (k := 1) rfl (by rw [et118]; rfl) (by decide) rfl (fun ls hl => ?_)
      have h := st_to h et118
      refine lv_goto (tgt := 47) hx hb dX12_cancelIn_121 (by decide) ?_
      exact ih47 R0_117 t118 ls H locs (lv_sub hl [1, 0] rfl) hP hD hS h
  have L2 : ∀ (n2 : Nat), ∀ (R0 : Nat → Int32) (v1 : Int32) (ls : Array Slot) (H : Heap) (locs : List Loc), lv_has ls 2 [(0, .ref aR0), (1, .int v1)] → va_P g.1 vwCl [(aR0, .inl (g.2.1 0, 26, .inl R0))] H → va_D A [(aR0, .inl (g.2.1 0, 26, .inl R0))] → va_S A s.heap H locs → fx2 (fM_cancelIn_2) n2 R0 v1 = some (r, R0_o) → W p l e rmX12_cancelIn s m ([.ref aR0] : List Value).toArray below meth c H locs 0 0 QQ (F0 m 2 ls []) := by
    intro n2
    induction n2 with
    | zero => intro R0 v1 ls H locs hl hP hD hS h; exact fx2_0 h
    | succ n2 ih2 =>
      intro R0 v1 ls H locs hl hP hD hS h
      have h := (fx2_s (fM_cancelIn_2) n2 R0 v1).symm.trans h
      refine lv_aload_n hx hb dX12_cancelIn_2 rfl (lv_at hl 0 rfl) ?_
      refine lv_iconst (v := (0 : Int32)) hx hb dX12_cancelIn_3 (by decide) ?_
      have hin := ld_in h
      refine va_iald hx hb hK hP 0 0 rfl rfl hin dX12_cancelIn_4 ?_
      refine lv_topi (fun t4 et4 => ?_)
      have h := ld_to h et4
      refine lv_if_le (tgt := 47) hx hb dX12_cancelIn_5 (by decide) (fun q5 => ?_) (fun q5 => ?_)
      · have h := ifT h q5
        exact L47 FU R0 v1 ls H locs (lv_sub hl [0, 1] rfl) hP hD hS h
      have h := ifF h q5
      refine lv_aload_n hx hb dX12_cancelIn_8 rfl (lv_at hl 0 rfl) ?_
      refine lv_iconst (v := (1 : Int32)) hx hb dX12_cancelIn_9 (by decide) ?_
      have hin := ld_in h
      refine va_iald hx hb hK hP 0 0 rfl rfl hin dX12_cancelIn_10 ?_
      refine lv_topi (fun t10 et10 => ?_)
      have h := ld_to h et10
      refine lv_if_le (tgt := 47) hx hb dX12_cancelIn_11 (by decide) (fun q11 => ?_) (fun q11 => ?_)
      · have h := ifT h q11
        exact L47 FU R0 v1 ls H locs (lv_sub hl [0, 1] rfl) hP hD hS h
      have h := ifF h q11
      refine lv_aload_n hx hb dX12_cancelIn_14 rfl (lv_at hl 0 rfl) ?_
      refine lv_iconst (v := (0 : Int32)) hx hb dX12_cancelIn_15 (by decide) ?_
      refine lv_iconst (v := (0 : Int32)) hx hb dX12_cancelIn_16 (by decide) ?_
      obtain ⟨t17, hc17, h⟩ := bd1_to h
      refine go_0 (st1 := [.int t17, .ref aR0]) (run_S (As := [.int (0 : Int32), .int (0 : Int32)]) (rest := [.ref aR0]) X hS (mX12_at g l  (0 : Int32) (0 : Int32) t17 hc17) okX12_at wd5_87 ⟨Nat.le_of_ble_eq_true rfl, Nat.le_of_ble_eq_true rfl⟩ ⟨rfl, rfl⟩ nil_P nil_D (nil_F hS hA) rfl hl.1 rfl (Nat.le_of_ble_eq_true rfl) dX12_cancelIn_17 ⟨Nat.zero_le _, Nat.zero_le _⟩) hS hA hP rfl (fun H locs hP hS => ?_)
      have hin := ld_in h
      refine va_iald hx hb hK hP 0 0 rfl rfl hin dX12_cancelIn_20 ?_
      refine lv_topi (fun t20 et20 => ?_)
      have h := ld_to h et20
      refine lv_aload_n hx hb dX12_cancelIn_21 rfl (lv_at hl 0 rfl) ?_
      refine lv_iconst (v := (1 : Int32)) hx hb dX12_cancelIn_22 (by decide) ?_
      refine lv_iconst (v := (0 : Int32)) hx hb dX12_cancelIn_23 (by decide) ?_
      obtain ⟨t24, hc24, h⟩ := bd1_to h
      refine go_0 (st1 := [.int t24, .ref aR0, .int t20]) (run_S (As := [.int (1 : Int32), .int (0 : Int32)]) (rest := [.ref aR0, .int t20]) X hS (mX12_at g l  (1 : Int32) (0 : Int32) t24 hc24) okX12_at wd5_87 ⟨Nat.le_of_ble_eq_true rfl, Nat.le_of_ble_eq_true rfl⟩ ⟨rfl, rfl⟩ nil_P nil_D (nil_F hS hA) rfl hl.1 rfl (Nat.le_of_ble_eq_true rfl) dX12_cancelIn_24 ⟨Nat.zero_le _, Nat.zero_le _⟩) hS hA hP rfl (fun H locs hP hS => ?_)
      have hin := ld_in h
      refine va_iald hx hb hK hP 0 0 rfl rfl hin dX12_cancelIn_27 ?_
      refine lv_topi (fun t27 et27 => ?_)
      have h := ld_to h et27
      refine lv_icmp_ne (tgt := 47) hx hb dX12_cancelIn_28 (by decide) (fun q28 => ?_) (fun q28 => ?_)
      · have h := ifF h q28
        exact L47 FU R0 v1 ls H locs (lv_sub hl [0, 1] rfl) hP hD hS h
      have h := ifT h q28
      refine lv_aload_n hx hb dX12_cancelIn_31 rfl (lv_at hl 0 rfl) ?_
      refine lv_iconst (v := (0 : Int32)) hx hb dX12_cancelIn_32 (by decide) ?_
      obtain ⟨R0_33, hc33, h⟩ := bd1_to h
      refine go_A (st1 := []) (run_S (As := [.ref aR0, .int (0 : Int32)]) (rest := []) X hS (mX12_dropFirst g l  aR0 R0 (0 : Int32) R0_33 hc33) okX12_dropFirst wd5_152 ⟨Nat.le_of_ble_eq_true rfl, Nat.le_of_ble_eq_true rfl⟩ ⟨rfl, rfl⟩ hP hD (all_F hS hA hD) rfl hl.1 rfl (Nat.le_of_ble_eq_true rfl) dX12_cancelIn_33 ⟨Nat.zero_le _, Nat.zero_le _⟩) hS (all_F hS hA hD) rfl (fun H locs hP hD hS => ?_)
      refine lv_aload_n hx hb dX12_cancelIn_36 rfl (lv_at hl 0 rfl) ?_
      refine lv_iconst (v := (1 : Int32)) hx hb dX12_cancelIn_37 (by decide) ?_
      obtain ⟨R0_38, hc38, h⟩ := bd1_to h
      refine go_A (st1 := []) (run_S (As := [.ref aR0, .int (1 : Int32)]) (rest := []) X hS (mX12_dropFirst g l  aR0 R0_33 (1 : Int32) R0_38 hc38) okX12_dropFirst wd5_152 ⟨Nat.le_of_ble_eq_true rfl, Nat.le_of_ble_eq_true rfl⟩ ⟨rfl, rfl⟩ hP hD (all_F hS hA hD) rfl hl.1 rfl (Nat.le_of_ble_eq_true rfl) dX12_cancelIn_38 ⟨Nat.zero_le _, Nat.zero_le _⟩) hS (all_F hS hA hD) rfl (fun H locs hP hD hS => ?_)
      obtain ⟨t41, et41⟩ : ∃ y : Int32, y = v1 + (1 : Int32) := ⟨_, rfl⟩
      refine lv_iinc (v := t41) (lv' := [(1, .int t41), (0, .ref aR0)]) hx hb dX12_cancelIn_41 hl (k := 1) rfl (by rw [et41]; rfl) (by decide) rfl (fun ls hl => ?_)
      have h := st_to h et41
      refine lv_goto (tgt := 2) hx hb dX12_cancelIn_44 (by decide) ?_
      exact ih2 R0_38 t41 ls H locs (lv_sub hl [1, 0] rfl) hP hD hS h
  have hl : lv_has ls 2 [(0, .ref aR0)] := hl
  obtain ⟨H, hH⟩ : ∃ H, H = s.heap := ⟨_, rfl⟩
  obtain ⟨locs, hlocs⟩ : ∃ l : List Loc, l = [] := ⟨_, rfl⟩
  rw [show W p l e rmX12_cancelIn s m ([.ref aR0] : List Value).toArray below meth c s.heap [] 0 0 QQ (F0 m 0 ls []) = W p l e rmX12_cancelIn s m ([.ref aR0] : List Value).toArray below meth c H locs 0 0 QQ (F0 m 0 ls []) by rw [hH, hlocs]]
  have hP : va_P g.1 vwCl [(aR0, .inl (g.2.1 0, 26, .inl R0))] H := by rw [hH]; exact hP
  have hD : va_D A [(aR0, .inl (g.2.1 0, 26, .inl R0))] := hD
  have hS : va_S A s.heap H locs := by rw [hH, hlocs]; exact hS
  clear hH hlocs
  refine lv_iconst (v := (0 : Int32)) hx hb dX12_cancelIn_0 (by decide) ?_
  refine lv_istore_n (lv' := [(1, .int (0 : Int32)), (0, .ref aR0)]) hx hb dX12_cancelIn_1 rfl hl (by decide) rfl (fun ls hl => ?_)
  exact L2 FU R0 (0 : Int32) ls H locs (lv_sub hl [1, 0] rfl) hP hD hS h
set_option maxHeartbeats 4000000 in
set_option maxRecDepth 100000 in
theorem mX12_cancel (g : GP) (l : Launch) (aM aM_text aM_now aM_trial aM_read aM_diary aM_kept aM_isKept aM_constraint aM_readConstraint aM_word aM_size aM_number aM_firstOne aM_node aM_parent aM_rule aM_child aM_proof aM_witness aM_witnessSize aM_built aM_copyRow : Nat) (M_length : Int32) (M_acts : Int32) (M_next : Int32) (M_many : Int32) (M_readMany : Int32) (M_found : Int32) (M_shortest : Int32) (M_nodes : Int32) (M_solved : Int32) (M_dropped : Int32) (M_fits : Int32) (M_proofSize : Int32) (M_tooLong : Int32) (M_text : Nat → Int32) (M_now : Nat → Int32) (M_trial : Nat → Int32) (M_read : Nat → Int32) (M_diary : Nat → Int32) (M_kept : Nat → Int32) (M_isKept : Nat → Int32) (M_constraint : Nat → Int32) (M_readConstraint : Nat → Int32) (M_word : Nat → Int32) (M_size : Nat → Int32) (M_number : Nat → Int32) (M_firstOne : Nat → Int32) (M_node : Nat → Int32) (M_parent : Nat → Int32) (M_rule : Nat → Int32) (M_child : Nat → Int32) (M_proof : Nat → Int32) (M_witness : Nat → Int32) (M_witnessSize : Nat → Int32) (M_built : Nat → Int32) (M_copyRow : Nat → Int32)  (r : Int32) (M_acts_o : Int32) (M_next_o : Int32) (M_now_o : Nat → Int32) (M_diary_o : Nat → Int32) (h : fM_cancel M_acts M_next M_now M_diary = some (r, M_acts_o, M_next_o, M_now_o, M_diary_o)) : Ct g l yX12_cancel cX12_cancel 1 (some .int) rmX12_cancel [.ref aM] (wX12 g aM aM_text aM_now aM_trial aM_read aM_diary aM_kept aM_isKept aM_constraint aM_readConstraint aM_word aM_size aM_number aM_firstOne aM_node aM_parent aM_rule aM_child aM_proof aM_witness aM_witnessSize aM_built aM_copyRow M_length M_acts M_next M_many M_readMany M_found M_shortest M_nodes M_solved M_dropped M_fits M_proofSize M_tooLong M_text M_now M_trial M_read M_diary M_kept M_isKept M_constraint M_readConstraint M_word M_size M_number M_firstOne M_node M_parent M_rule M_child M_proof M_witness M_witnessSize M_built M_copyRow) (some (.int r)) (wX12 g aM aM_text aM_now aM_trial aM_read aM_diary aM_kept aM_isKept aM_constraint aM_readConstraint aM_word aM_size aM_number aM_firstOne aM_node aM_parent aM_rule aM_child aM_proof aM_witness aM_witnessSize aM_built aM_copyRow M_length M_acts_o M_next_o M_many M_readMany M_found M_shortest M_nodes M_solved M_dropped M_fits M_proofSize M_tooLong M_text M_now_o M_trial M_read M_diary_o M_kept M_isKept M_constraint M_readConstraint M_word M_size M_number M_firstOne M_node M_parent M_rule M_child M_proof M_witness M_witnessSize M_built M_copyRow) := by
  refine Ct.introI (by decide) (Nat.le_of_ble_eq_true rfl) ?_
  intro p e s m below meth c A QQ ls hyp hret
  obtain ⟨hx, hb, hml, hts, hown, hA, hE, hP, hD, hl⟩ := hyp
  have hK := hE.1
  have hS : va_S A s.heap s.heap [] := va_S.rf
  have X : Here g p s m c cX12_cancel 1 ([.ref aM] : List Value).toArray RX12 A := ⟨⟨hx, hb, hml, hown, hts⟩, hE, hA⟩
  have hl : lv_has ls 1 [(0, .ref aM)] := hl
  obtain ⟨H, hH⟩ : ∃ H, H = s.heap := ⟨_, rfl⟩
  obtain ⟨locs, hlocs⟩ : ∃ l : List Loc, l = [] := ⟨_, rfl⟩
  rw [show W p l e rmX12_cancel s m ([.ref aM] : List Value).toArray below meth c s.heap [] 0 0 QQ (F0 m 0 ls []) = W p l e rmX12_cancel s m ([.ref aM] : List Value).toArray below meth c H locs 0 0 QQ (F0 m 0 ls []) by rw [hH, hlocs]]
  have hP : va_P g.1 vwCl (wX12 g aM aM_text aM_now aM_trial aM_read aM_diary aM_kept aM_isKept aM_constraint aM_readConstraint aM_word aM_size aM_number aM_firstOne aM_node aM_parent aM_rule aM_child aM_proof aM_witness aM_witnessSize aM_built aM_copyRow M_length M_acts M_next M_many M_readMany M_found M_shortest M_nodes M_solved M_dropped M_fits M_proofSize M_tooLong M_text M_now M_trial M_read M_diary M_kept M_isKept M_constraint M_readConstraint M_word M_size M_number M_firstOne M_node M_parent M_rule M_child M_proof M_witness M_witnessSize M_built M_copyRow) H := by rw [hH]; exact hP
  have hD : va_D A (wX12 g aM aM_text aM_now aM_trial aM_read aM_diary aM_kept aM_isKept aM_constraint aM_readConstraint aM_word aM_size aM_number aM_firstOne aM_node aM_parent aM_rule aM_child aM_proof aM_witness aM_witnessSize aM_built aM_copyRow M_length M_acts M_next M_many M_readMany M_found M_shortest M_nodes M_solved M_dropped M_fits M_proofSize M_tooLong M_text M_now M_trial M_read M_diary M_kept M_isKept M_constraint M_readConstraint M_word M_size M_number M_firstOne M_node M_parent M_rule M_child M_proof M_witness M_witnessSize M_built M_copyRow) := hD
  have hS : va_S A s.heap H locs := by rw [hH, hlocs]; exact hS
  clear hH hlocs
  refine lv_aload_n hx hb dX12_cancel_0 rfl (lv_at hl 0 rfl) ?_
  obtain ⟨M_acts_1, M_next_1, M_diary_1, hc1, h⟩ := bd3_to h
  refine go_A (st1 := []) (run_V (As := []) (rest := []) X hS (mX12_note g l  aM aM_text aM_now aM_trial aM_read aM_diary aM_kept aM_isKept aM_constraint aM_readConstraint aM_word aM_size aM_number aM_firstOne aM_node aM_parent aM_rule aM_child aM_proof aM_witness aM_witnessSize aM_built aM_copyRow M_length M_acts M_next M_many M_readMany M_found M_shortest M_nodes M_solved M_dropped M_fits M_proofSize M_tooLong M_text M_now M_trial M_read M_diary M_kept M_isKept M_constraint M_readConstraint M_word M_size M_number M_firstOne M_node M_parent M_rule M_child M_proof M_witness M_witnessSize M_built M_copyRow M_acts_1 M_next_1 M_diary_1 hc1) okX12_note wd5_131 ⟨Nat.le_of_ble_eq_true rfl, Nat.le_of_ble_eq_true rfl⟩ ⟨rfl, rfl⟩ (va_recv hK hP (ci := 11) (q0 := 0) rfl rfl) hP hD (all_F hS hA hD) rfl hl.1 rfl (Nat.le_of_ble_eq_true rfl) dX12_cancel_1 ⟨Nat.zero_le _, Nat.zero_le _⟩) hS (all_F hS hA hD) rfl (fun H locs hP hD hS => ?_)
  refine lv_aload_n hx hb dX12_cancel_4 rfl (lv_at hl 0 rfl) ?_
  refine va_get (D := g.1) (ci := 11) (v := .ref aM_now) (C := RX12) (T := TX12) (N := 35) hx hb hts inBX12 hown hK hP 0 rfl rfl 2 (by decide) (hts _ wd4_198) (fun _ h9 => h9) rfl dX12_cancel_5 ?_
  obtain ⟨t8, M_now_8, hc8, h⟩ := bd2_to h
  refine go_P (st1 := [.int t8]) (W1 := (wX12 g aM aM_text aM_now aM_trial aM_read aM_diary aM_kept aM_isKept aM_constraint aM_readConstraint aM_word aM_size aM_number aM_firstOne aM_node aM_parent aM_rule aM_child aM_proof aM_witness aM_witnessSize aM_built aM_copyRow M_length M_acts_1 M_next_1 M_many M_readMany M_found M_shortest M_nodes M_solved M_dropped M_fits M_proofSize M_tooLong M_text M_now_8 M_trial M_read M_diary_1 M_kept M_isKept M_constraint M_readConstraint M_word M_size M_number M_firstOne M_node M_parent M_rule M_child M_proof M_witness M_witnessSize M_built M_copyRow)) (run_S (As := [.ref aM_now]) (rest := []) X hS (mX12_cancelIn g l  aM_now M_now t8 M_now_8 hc8) okX12_cancelIn wd5_149 ⟨Nat.le_of_ble_eq_true rfl, Nat.le_of_ble_eq_true rfl⟩ ⟨rfl, rfl⟩ (sub_P hP [2] rfl) (hD.sub [2] (by decide) rfl) (va_free hD hS hA [2] rfl) rfl hl.1 rfl (Nat.le_of_ble_eq_true rfl) dX12_cancel_8 ⟨Nat.zero_le _, Nat.zero_le _⟩) hS (va_free hD hS hA [2] rfl) hP hD [2] [0, 1, 3, 4, 5, 6, 7, 8, 9, 10, 11, 12, 13, 14, 15, 16, 17, 18, 19, 20, 21, 22] [0, 1, 22, 2, 3, 4, 5, 6, 7, 8, 9, 10, 11, 12, 13, 14, 15, 16, 17, 18, 19, 20, 21] rfl rfl (by decide) (by decide) rfl (by decide) rfl (fun H locs hP hD hS => ?_)
  have h : some (t8, M_acts_1, M_next_1, M_now_8, M_diary_1) = some (r, M_acts_o, M_next_o, M_now_o, M_diary_o) := h
  cases h
  exact hret _ _ _ _ hP hD hS dX12_cancel_11
set_option maxHeartbeats 4000000 in
set_option maxRecDepth 100000 in
theorem mX12_exchangeLetters (g : GP) (l : Launch) (aM aM_text aM_now aM_trial aM_read aM_diary aM_kept aM_isKept aM_constraint aM_readConstraint aM_word aM_size aM_number aM_firstOne aM_node aM_parent aM_rule aM_child aM_proof aM_witness aM_witnessSize aM_built aM_copyRow : Nat) (M_length : Int32) (M_acts : Int32) (M_next : Int32) (M_many : Int32) (M_readMany : Int32) (M_found : Int32) (M_shortest : Int32) (M_nodes : Int32) (M_solved : Int32) (M_dropped : Int32) (M_fits : Int32) (M_proofSize : Int32) (M_tooLong : Int32) (M_text : Nat → Int32) (M_now : Nat → Int32) (M_trial : Nat → Int32) (M_read : Nat → Int32) (M_diary : Nat → Int32) (M_kept : Nat → Int32) (M_isKept : Nat → Int32) (M_constraint : Nat → Int32) (M_readConstraint : Nat → Int32) (M_word : Nat → Int32) (M_size : Nat → Int32) (M_number : Nat → Int32) (M_firstOne : Nat → Int32) (M_node : Nat → Int32) (M_parent : Nat → Int32) (M_rule : Nat → Int32) (M_child : Nat → Int32) (M_proof : Nat → Int32) (M_witness : Nat → Int32) (M_witnessSize : Nat → Int32) (M_built : Nat → Int32) (M_copyRow : Nat → Int32)  (r : Int32) (M_acts_o : Int32) (M_next_o : Int32) (M_now_o : Nat → Int32) (M_diary_o : Nat → Int32) (h : fM_exchangeLetters M_acts M_next M_now M_diary = some (r, M_acts_o, M_next_o, M_now_o, M_diary_o)) : Ct g l yX12_exchangeLetters cX12_exchangeLetters 5 (some .int) rmX12_exchangeLetters [.ref aM] (wX12 g aM aM_text aM_now aM_trial aM_read aM_diary aM_kept aM_isKept aM_constraint aM_readConstraint aM_word aM_size aM_number aM_firstOne aM_node aM_parent aM_rule aM_child aM_proof aM_witness aM_witnessSize aM_built aM_copyRow M_length M_acts M_next M_many M_readMany M_found M_shortest M_nodes M_solved M_dropped M_fits M_proofSize M_tooLong M_text M_now M_trial M_read M_diary M_kept M_isKept M_constraint M_readConstraint M_word M_size M_number M_firstOne M_node M_parent M_rule M_child M_proof M_witness M_witnessSize M_built M_copyRow) (some (.int r)) (wX12 g aM aM_text aM_now aM_trial aM_read aM_diary aM_kept aM_isKept aM_constraint aM_readConstraint aM_word aM_size aM_number aM_firstOne aM_node aM_parent aM_rule aM_child aM_proof aM_witness aM_witnessSize aM_built aM_copyRow M_length M_acts_o M_next_o M_many M_readMany M_found M_shortest M_nodes M_solved M_dropped M_fits M_proofSize M_tooLong M_text M_now_o M_trial M_read M_diary_o M_kept M_isKept M_constraint M_readConstraint M_word M_size M_number M_firstOne M_node M_parent M_rule M_child M_proof M_witness M_witnessSize M_built M_copyRow) := by
  refine Ct.introI (by decide) (Nat.le_of_ble_eq_true rfl) ?_
  intro p e s m below meth c A QQ ls hyp hret
  obtain ⟨hx, hb, hml, hts, hown, hA, hE, hP, hD, hl⟩ := hyp
  have hK := hE.1
  have hS : va_S A s.heap s.heap [] := va_S.rf
  have X : Here g p s m c cX12_exchangeLetters 5 ([.ref aM] : List Value).toArray RX12 A := ⟨⟨hx, hb, hml, hown, hts⟩, hE, hA⟩
  have L8 : ∀ (n8 : Nat), ∀ (M_acts : Int32) (M_next : Int32) (M_now : Nat → Int32) (M_diary : Nat → Int32) (v1 : Int32) (v2 : Int32) (ls : Array Slot) (H : Heap) (locs : List Loc), lv_has ls 5 [(0, .ref aM), (1, .int v1), (2, .int v2)] → va_P g.1 vwCl (wX12 g aM aM_text aM_now aM_trial aM_read aM_diary aM_kept aM_isKept aM_constraint aM_readConstraint aM_word aM_size aM_number aM_firstOne aM_node aM_parent aM_rule aM_child aM_proof aM_witness aM_witnessSize aM_built aM_copyRow M_length M_acts M_next M_many M_readMany M_found M_shortest M_nodes M_solved M_dropped M_fits M_proofSize M_tooLong M_text M_now M_trial M_read M_diary M_kept M_isKept M_constraint M_readConstraint M_word M_size M_number M_firstOne M_node M_parent M_rule M_child M_proof M_witness M_witnessSize M_built M_copyRow) H → va_D A (wX12 g aM aM_text aM_now aM_trial aM_read aM_diary aM_kept aM_isKept aM_constraint aM_readConstraint aM_word aM_size aM_number aM_firstOne aM_node aM_parent aM_rule aM_child aM_proof aM_witness aM_witnessSize aM_built aM_copyRow M_length M_acts M_next M_many M_readMany M_found M_shortest M_nodes M_solved M_dropped M_fits M_proofSize M_tooLong M_text M_now M_trial M_read M_diary M_kept M_isKept M_constraint M_readConstraint M_word M_size M_number M_firstOne M_node M_parent M_rule M_child M_proof M_witness M_witnessSize M_built M_copyRow) → va_S A s.heap H locs → fx3 (fM_exchangeLetters_8 M_acts M_next M_diary) n8 M_now v1 v2 = some (r, M_acts_o, M_next_o, M_now_o, M_diary_o) → W p l e rmX12_exchangeLetters s m ([.ref aM] : List Value).toArray below meth c H locs 0 0 QQ (F0 m 8 ls []) := by
    intro n8
    induction n8 with
    | zero => intro M_acts M_next M_now M_diary v1 v2 ls H locs hl hP hD hS h; exact fx3_0 h
    | succ n8 ih8 =>
      intro M_acts M_next M_now M_diary v1 v2 ls H locs hl hP hD hS h
      have h := (fx3_s (fM_exchangeLetters_8 M_acts M_next M_diary) n8 M_now v1 v2).symm.trans h
      have L15 : ∀ (n15 : Nat), ∀ (M_now : Nat → Int32) (v1 : Int32) (v2 : Int32) (v3 : Int32) (ls : Array Slot) (H : Heap) (locs : List Loc), lv_has ls 5 [(0, .ref aM), (1, .int v1), (2, .int v2), (3, .int v3)] → va_P g.1 vwCl (wX12 g aM aM_text aM_now aM_trial aM_read aM_diary aM_kept aM_isKept aM_constraint aM_readConstraint aM_word aM_size aM_number aM_firstOne aM_node aM_parent aM_rule aM_child aM_proof aM_witness aM_witnessSize aM_built aM_copyRow M_length M_acts M_next M_many M_readMany M_found M_shortest M_nodes M_solved M_dropped M_fits M_proofSize M_tooLong M_text M_now M_trial M_read M_diary M_kept M_isKept M_constraint M_readConstraint M_word M_size M_number M_firstOne M_node M_parent M_rule M_child M_proof M_witness M_witnessSize M_built M_copyRow) H → va_D A (wX12 g aM aM_text aM_now aM_trial aM_read aM_diary aM_kept aM_isKept aM_constraint aM_readConstraint aM_word aM_size aM_number aM_firstOne aM_node aM_parent aM_rule aM_child aM_proof aM_witness aM_witnessSize aM_built aM_copyRow M_length M_acts M_next M_many M_readMany M_found M_shortest M_nodes M_solved M_dropped M_fits M_proofSize M_tooLong M_text M_now M_trial M_read M_diary M_kept M_isKept M_constraint M_readConstraint M_word M_size M_number M_firstOne M_node M_parent M_rule M_child M_proof M_witness M_witnessSize M_built M_copyRow) → va_S A s.heap H locs → fx3 (fM_exchangeLetters_15 (fx3 (fM_exchangeLetters_8 M_acts M_next M_diary) n8) M_acts M_next M_diary v2) n15 M_now v1 v3 = some (r, M_acts_o, M_next_o, M_now_o, M_diary_o) → W p l e rmX12_exchangeLetters s m ([.ref aM] : List Value).toArray below meth c H locs 0 0 QQ (F0 m 15 ls []) := by
        intro n15
        induction n15 with
        | zero => intro M_now v1 v2 v3 ls H locs hl hP hD hS h; exact fx3_0 h
        | succ n15 ih15 =>
          intro M_now v1 v2 v3 ls H locs hl hP hD hS h
          have h := (fx3_s (fM_exchangeLetters_15 (fx3 (fM_exchangeLetters_8 M_acts M_next M_diary) n8) M_acts M_next M_diary v2) n15 M_now v1 v3).symm.trans h
          have B87 : ∀ (M_now : Nat → Int32) (v1 : Int32) (v3 : Int32) (s1 : Int32) (s2 : Int32) (ls : Array Slot) (H : Heap) (locs : List Loc), lv_has ls 5 [(0, .ref aM), (1, .int v1), (2, .int v2), (3, .int v3)] → va_P g.1 vwCl (wX12 g aM aM_text aM_now aM_trial aM_read aM_diary aM_kept aM_isKept aM_constraint aM_readConstraint aM_word aM_size aM_number aM_firstOne aM_node aM_parent aM_rule aM_child aM_proof aM_witness aM_witnessSize aM_built aM_copyRow M_length M_acts M_next M_many M_readMany M_found M_shortest M_nodes M_solved M_dropped M_fits M_proofSize M_tooLong M_text M_now M_trial M_read M_diary M_kept M_isKept M_constraint M_readConstraint M_word M_size M_number M_firstOne M_node M_parent M_rule M_child M_proof M_witness M_witnessSize M_built M_copyRow) H → va_D A (wX12 g aM aM_text aM_now aM_trial aM_read aM_diary aM_kept aM_isKept aM_constraint aM_readConstraint aM_word aM_size aM_number aM_firstOne aM_node aM_parent aM_rule aM_child aM_proof aM_witness aM_witnessSize aM_built aM_copyRow M_length M_acts M_next M_many M_readMany M_found M_shortest M_nodes M_solved M_dropped M_fits M_proofSize M_tooLong M_text M_now M_trial M_read M_diary M_kept M_isKept M_constraint M_readConstraint M_word M_size M_number M_firstOne M_node M_parent M_rule M_child M_proof M_witness M_witnessSize M_built M_copyRow) → va_S A s.heap H locs → fM_exchangeLetters_87 (fx3 (fM_exchangeLetters_8 M_acts M_next M_diary) n8) (fx3 (fM_exchangeLetters_15 (fx3 (fM_exchangeLetters_8 M_acts M_next M_diary) n8) M_acts M_next M_diary v2) n15) M_acts M_next M_now M_diary v1 v2 v3 s1 s2 = some (r, M_acts_o, M_next_o, M_now_o, M_diary_o) → W p l e rmX12_exchangeLetters s m ([.ref aM] : List Value).toArray below meth c H locs 0 0 QQ (F0 m 87 ls [.int s2, .int s1, .ref aM_now]) := by
            intro M_now v1 v3 s1 s2 ls H locs hl hP hD hS h
            have hin := sti_in h
            refine va_iast hx hb hK hP hD hS 2 0 rfl rfl hin dX12_exchangeLetters_87 (fun H locs hP hD hS => ?_)
            obtain ⟨M_now_87, eM_now_87⟩ : ∃ y : Nat → Int32, y = upd M_now (Int32.toNatClampNeg s1) s2 := ⟨_, rfl⟩
            have h := sti_to h eM_now_87
            have hP : va_P g.1 vwCl (wX12 g aM aM_text aM_now aM_trial aM_read aM_diary aM_kept aM_isKept aM_constraint aM_readConstraint aM_word aM_size aM_number aM_firstOne aM_node aM_parent aM_rule aM_child aM_proof aM_witness aM_witnessSize aM_built aM_copyRow M_length M_acts M_next M_many M_readMany M_found M_shortest M_nodes M_solved M_dropped M_fits M_proofSize M_tooLong M_text M_now_87 M_trial M_read M_diary M_kept M_isKept M_constraint M_readConstraint M_word M_size M_number M_firstOne M_node M_parent M_rule M_child M_proof M_witness M_witnessSize M_built M_copyRow) H := by rw [eM_now_87]; exact hP
            have hD : va_D A (wX12 g aM aM_text aM_now aM_trial aM_read aM_diary aM_kept aM_isKept aM_constraint aM_readConstraint aM_word aM_size aM_number aM_firstOne aM_node aM_parent aM_rule aM_child aM_proof aM_witness aM_witnessSize aM_built aM_copyRow M_length M_acts M_next M_many M_readMany M_found M_shortest M_nodes M_solved M_dropped M_fits M_proofSize M_tooLong M_text M_now_87 M_trial M_read M_diary M_kept M_isKept M_constraint M_readConstraint M_word M_size M_number M_firstOne M_node M_parent M_rule M_child M_proof M_witness M_witnessSize M_built M_copyRow) := by rw [eM_now_87]; exact hD
            obtain ⟨t88, et88⟩ : ∃ y : Int32, y = v3 + (1 : Int32) := ⟨_, rfl⟩
            refine lv_iinc (v := t88) (lv' := [(3, .int t88), (0, .ref aM), (1, .int v1), (2, .int v2)]) hx hb dX12_exchangeLetters_88 hl (k := 3) rfl (by rw [et88]; rfl) (by decide) rfl (fun ls hl => ?_)
            have h := st_to h et88
            refine lv_goto (tgt := 15) hx hb dX12_exchangeLetters_91 (by decide) ?_
            exact ih15 M_now_87 v1 v2 t88 ls H locs (lv_sub hl [1, 2, 3, 0] rfl) hP hD hS h
          have B49 : ∀ (M_now : Nat → Int32) (v3 : Int32) (v4 : Int32) (s0 : Int32) (s1 : Int32) (ls : Array Slot) (H : Heap) (locs : List Loc), lv_has ls 5 [(0, .ref aM), (2, .int v2), (3, .int v3), (4, .int v4)] → va_P g.1 vwCl (wX12 g aM aM_text aM_now aM_trial aM_read aM_diary aM_kept aM_isKept aM_constraint aM_readConstraint aM_word aM_size aM_number aM_firstOne aM_node aM_parent aM_rule aM_child aM_proof aM_witness aM_witnessSize aM_built aM_copyRow M_length M_acts M_next M_many M_readMany M_found M_shortest M_nodes M_solved M_dropped M_fits M_proofSize M_tooLong M_text M_now M_trial M_read M_diary M_kept M_isKept M_constraint M_readConstraint M_word M_size M_number M_firstOne M_node M_parent M_rule M_child M_proof M_witness M_witnessSize M_built M_copyRow) H → va_D A (wX12 g aM aM_text aM_now aM_trial aM_read aM_diary aM_kept aM_isKept aM_constraint aM_readConstraint aM_word aM_size aM_number aM_firstOne aM_node aM_parent aM_rule aM_child aM_proof aM_witness aM_witnessSize aM_built aM_copyRow M_length M_acts M_next M_many M_readMany M_found M_shortest M_nodes M_solved M_dropped M_fits M_proofSize M_tooLong M_text M_now M_trial M_read M_diary M_kept M_isKept M_constraint M_readConstraint M_word M_size M_number M_firstOne M_node M_parent M_rule M_child M_proof M_witness M_witnessSize M_built M_copyRow) → va_S A s.heap H locs → fM_exchangeLetters_49 (fx3 (fM_exchangeLetters_8 M_acts M_next M_diary) n8) (fx3 (fM_exchangeLetters_15 (fx3 (fM_exchangeLetters_8 M_acts M_next M_diary) n8) M_acts M_next M_diary v2) n15) M_acts M_next M_now M_diary v2 v3 v4 s0 s1 = some (r, M_acts_o, M_next_o, M_now_o, M_diary_o) → W p l e rmX12_exchangeLetters s m ([.ref aM] : List Value).toArray below meth c H locs 0 0 QQ (F0 m 49 ls [.int s1, .int s0]) := by
            intro M_now v3 v4 s0 s1 ls H locs hl hP hD hS h
            refine lv_iadd hx hb dX12_exchangeLetters_49 ?_
            refine lv_topi (fun t50 et50 => ?_)
            have h := st_to h et50
            refine lv_istore_n (lv' := [(1, .int t50), (0, .ref aM), (2, .int v2), (3, .int v3), (4, .int v4)]) hx hb dX12_exchangeLetters_50 rfl hl (by decide) rfl (fun ls hl => ?_)
            refine lv_aload_n hx hb dX12_exchangeLetters_51 rfl (lv_at hl 1 rfl) ?_
            refine va_get (D := g.1) (ci := 11) (v := .ref aM_now) (C := RX12) (T := TX12) (N := 35) hx hb hts inBX12 hown hK hP 0 rfl rfl 2 (by decide) (hts _ wd4_198) (fun _ h9 => h9) rfl dX12_exchangeLetters_52 ?_
            refine lv_iload hx hb dX12_exchangeLetters_55 (lv_at hl 4 rfl) ?_
            refine lv_aload_n hx hb dX12_exchangeLetters_57 rfl (lv_at hl 1 rfl) ?_
            refine va_get (D := g.1) (ci := 11) (v := .ref aM_now) (C := RX12) (T := TX12) (N := 35) hx hb hts inBX12 hown hK hP 0 rfl rfl 2 (by decide) (hts _ wd4_198) (fun _ h9 => h9) rfl dX12_exchangeLetters_58 ?_
            refine lv_iload hx hb dX12_exchangeLetters_61 (lv_at hl 4 rfl) ?_
            have hin := ld_in h
            refine va_iald hx hb hK hP 2 0 rfl rfl hin dX12_exchangeLetters_63 ?_
            refine lv_topi (fun t63 et63 => ?_)
            have h := ld_to h et63
            refine lv_iconst (v := (2 : Int32)) hx hb dX12_exchangeLetters_64 (by decide) ?_
            refine lv_icmp_ge (tgt := 80) hx hb dX12_exchangeLetters_65 (by decide) (fun q65 => ?_) (fun q65 => ?_)
            · have h := ifT h q65
              refine lv_aload_n hx hb dX12_exchangeLetters_80 rfl (lv_at hl 1 rfl) ?_
              refine va_get (D := g.1) (ci := 11) (v := .ref aM_now) (C := RX12) (T := TX12) (N := 35) hx hb hts inBX12 hown hK hP 0 rfl rfl 2 (by decide) (hts _ wd4_198) (fun _ h9 => h9) rfl dX12_exchangeLetters_81 ?_
              refine lv_iload hx hb dX12_exchangeLetters_84 (lv_at hl 4 rfl) ?_
              have hin := ld_in h
              refine va_iald hx hb hK hP 2 0 rfl rfl hin dX12_exchangeLetters_86 ?_
              refine lv_topi (fun t86 et86 => ?_)
              have h := ld_to h et86
              exact B87 M_now t50 v3 v4 t86 ls H locs (lv_sub hl [1, 0, 2, 3] rfl) hP hD hS h
            have h := ifF h q65
            refine lv_iconst (v := (1 : Int32)) hx hb dX12_exchangeLetters_68 (by decide) ?_
            refine lv_aload_n hx hb dX12_exchangeLetters_69 rfl (lv_at hl 1 rfl) ?_
            refine va_get (D := g.1) (ci := 11) (v := .ref aM_now) (C := RX12) (T := TX12) (N := 35) hx hb hts inBX12 hown hK hP 0 rfl rfl 2 (by decide) (hts _ wd4_198) (fun _ h9 => h9) rfl dX12_exchangeLetters_70 ?_
            refine lv_iload hx hb dX12_exchangeLetters_73 (lv_at hl 4 rfl) ?_
            have hin := ld_in h
            refine va_iald hx hb hK hP 2 0 rfl rfl hin dX12_exchangeLetters_75 ?_
            refine lv_topi (fun t75 et75 => ?_)
            have h := ld_to h et75
            refine lv_isub hx hb dX12_exchangeLetters_76 ?_
            refine lv_goto (tgt := 87) hx hb dX12_exchangeLetters_77 (by decide) ?_
            exact B87 M_now t50 v3 v4 (((1 : Int32) - t75)) ls H locs (lv_sub hl [1, 0, 2, 3] rfl) hP hD hS h
          refine lv_iload_n hx hb dX12_exchangeLetters_15 rfl (lv_at hl 3 rfl) ?_
          refine lv_aload_n hx hb dX12_exchangeLetters_16 rfl (lv_at hl 0 rfl) ?_
          refine va_get (D := g.1) (ci := 11) (v := .ref aM_now) (C := RX12) (T := TX12) (N := 35) hx hb hts inBX12 hown hK hP 0 rfl rfl 2 (by decide) (hts _ wd4_198) (fun _ h9 => h9) rfl dX12_exchangeLetters_17 ?_
          refine lv_iload_n hx hb dX12_exchangeLetters_20 rfl (lv_at hl 2 rfl) ?_
          have hin := ld_in h
          refine va_iald hx hb hK hP 2 0 rfl rfl hin dX12_exchangeLetters_21 ?_
          refine lv_topi (fun t21 et21 => ?_)
          have h := ld_to h et21
          refine lv_icmp_ge (tgt := 94) hx hb dX12_exchangeLetters_22 (by decide) (fun q22 => ?_) (fun q22 => ?_)
          · have h := ifT h q22
            obtain ⟨t94, et94⟩ : ∃ y : Int32, y = v2 + (1 : Int32) := ⟨_, rfl⟩
            refine lv_iinc (v := t94) (lv' := [(2, .int t94), (0, .ref aM), (1, .int v1), (3, .int v3)]) hx hb dX12_exchangeLetters_94 hl (k := 2) rfl (by rw [et94]; rfl) (by decide) rfl (fun ls hl => ?_)
            have h := st_to h et94
            refine lv_goto (tgt := 8) hx hb dX12_exchangeLetters_97 (by decide) ?_
            exact ih8 M_acts M_next M_now M_diary v1 t94 ls H locs (lv_sub hl [1, 2, 0] rfl) hP hD hS h
          have h := ifF h q22
          refine lv_iload_n hx hb dX12_exchangeLetters_25 rfl (lv_at hl 2 rfl) ?_
          refine lv_iload_n hx hb dX12_exchangeLetters_26 rfl (lv_at hl 3 rfl) ?_
          obtain ⟨t27, hc27, h⟩ := bd1_to h
          refine go_0 (st1 := [.int t27]) (run_S (As := [.int v2, .int v3]) (rest := []) X hS (mX12_at g l  v2 v3 t27 hc27) okX12_at wd5_87 ⟨Nat.le_of_ble_eq_true rfl, Nat.le_of_ble_eq_true rfl⟩ ⟨rfl, rfl⟩ nil_P nil_D (nil_F hS hA) rfl hl.1 rfl (Nat.le_of_ble_eq_true rfl) dX12_exchangeLetters_27 ⟨Nat.zero_le _, Nat.zero_le _⟩) hS hA hP rfl (fun H locs hP hS => ?_)
          refine lv_istore (lv' := [(4, .int t27), (0, .ref aM), (1, .int v1), (2, .int v2), (3, .int v3)]) hx hb dX12_exchangeLetters_30 hl (by decide) rfl (fun ls hl => ?_)
          refine lv_iload_n hx hb dX12_exchangeLetters_32 rfl (lv_at hl 2 rfl) ?_
          refine lv_aload_n hx hb dX12_exchangeLetters_33 rfl (lv_at hl 1 rfl) ?_
          refine va_get (D := g.1) (ci := 11) (v := .ref aM_now) (C := RX12) (T := TX12) (N := 35) hx hb hts inBX12 hown hK hP 0 rfl rfl 2 (by decide) (hts _ wd4_198) (fun _ h9 => h9) rfl dX12_exchangeLetters_34 ?_
          refine lv_iload hx hb dX12_exchangeLetters_37 (lv_at hl 0 rfl) ?_
          have hin := ld_in h
          refine va_iald hx hb hK hP 2 0 rfl rfl hin dX12_exchangeLetters_39 ?_
          refine lv_topi (fun t39 et39 => ?_)
          have h := ld_to h et39
          refine lv_iconst (v := (2 : Int32)) hx hb dX12_exchangeLetters_40 (by decide) ?_
          refine lv_icmp_ge (tgt := 48) hx hb dX12_exchangeLetters_41 (by decide) (fun q41 => ?_) (fun q41 => ?_)
          · have h := ifT h q41
            refine lv_iconst (v := (0 : Int32)) hx hb dX12_exchangeLetters_48 (by decide) ?_
            exact B49 M_now v3 t27 v1 (0 : Int32) ls H locs (lv_sub hl [1, 3, 4, 0] rfl) hP hD hS h
          have h := ifF h q41
          refine lv_iconst (v := (1 : Int32)) hx hb dX12_exchangeLetters_44 (by decide) ?_
          refine lv_goto (tgt := 49) hx hb dX12_exchangeLetters_45 (by decide) ?_
          exact B49 M_now v3 t27 v1 (1 : Int32) ls H locs (lv_sub hl [1, 3, 4, 0] rfl) hP hD hS h
      refine lv_iload_n hx hb dX12_exchangeLetters_8 rfl (lv_at hl 2 rfl) ?_
      refine lv_iconst (v := (2 : Int32)) hx hb dX12_exchangeLetters_9 (by decide) ?_
      refine lv_icmp_ge (tgt := 100) hx hb dX12_exchangeLetters_10 (by decide) (fun q10 => ?_) (fun q10 => ?_)
      · have h := ifT h q10
        refine lv_iload_n hx hb dX12_exchangeLetters_100 rfl (lv_at hl 1 rfl) ?_
        have h : some (v1, M_acts, M_next, M_now, M_diary) = some (r, M_acts_o, M_next_o, M_now_o, M_diary_o) := h
        cases h
        exact hret _ _ _ _ hP hD hS dX12_exchangeLetters_101
      have h := ifF h q10
      refine lv_iconst (v := (0 : Int32)) hx hb dX12_exchangeLetters_13 (by decide) ?_
      refine lv_istore_n (lv' := [(3, .int (0 : Int32)), (0, .ref aM), (1, .int v1), (2, .int v2)]) hx hb dX12_exchangeLetters_14 rfl hl (by decide) rfl (fun ls hl => ?_)
      exact L15 FU M_now v1 v2 (0 : Int32) ls H locs (lv_sub hl [1, 2, 3, 0] rfl) hP hD hS h
  have hl : lv_has ls 5 [(0, .ref aM)] := hl
  obtain ⟨H, hH⟩ : ∃ H, H = s.heap := ⟨_, rfl⟩
  obtain ⟨locs, hlocs⟩ : ∃ l : List Loc, l = [] := ⟨_, rfl⟩
  rw [show W p l e rmX12_exchangeLetters s m ([.ref aM] : List Value).toArray below meth c s.heap [] 0 0 QQ (F0 m 0 ls []) = W p l e rmX12_exchangeLetters s m ([.ref aM] : List Value).toArray below meth c H locs 0 0 QQ (F0 m 0 ls []) by rw [hH, hlocs]]
  have hP : va_P g.1 vwCl (wX12 g aM aM_text aM_now aM_trial aM_read aM_diary aM_kept aM_isKept aM_constraint aM_readConstraint aM_word aM_size aM_number aM_firstOne aM_node aM_parent aM_rule aM_child aM_proof aM_witness aM_witnessSize aM_built aM_copyRow M_length M_acts M_next M_many M_readMany M_found M_shortest M_nodes M_solved M_dropped M_fits M_proofSize M_tooLong M_text M_now M_trial M_read M_diary M_kept M_isKept M_constraint M_readConstraint M_word M_size M_number M_firstOne M_node M_parent M_rule M_child M_proof M_witness M_witnessSize M_built M_copyRow) H := by rw [hH]; exact hP
  have hD : va_D A (wX12 g aM aM_text aM_now aM_trial aM_read aM_diary aM_kept aM_isKept aM_constraint aM_readConstraint aM_word aM_size aM_number aM_firstOne aM_node aM_parent aM_rule aM_child aM_proof aM_witness aM_witnessSize aM_built aM_copyRow M_length M_acts M_next M_many M_readMany M_found M_shortest M_nodes M_solved M_dropped M_fits M_proofSize M_tooLong M_text M_now M_trial M_read M_diary M_kept M_isKept M_constraint M_readConstraint M_word M_size M_number M_firstOne M_node M_parent M_rule M_child M_proof M_witness M_witnessSize M_built M_copyRow) := hD
  have hS : va_S A s.heap H locs := by rw [hH, hlocs]; exact hS
  clear hH hlocs
  refine lv_aload_n hx hb dX12_exchangeLetters_0 rfl (lv_at hl 0 rfl) ?_
  obtain ⟨M_acts_1, M_next_1, M_diary_1, hc1, h⟩ := bd3_to h
  refine go_A (st1 := []) (run_V (As := []) (rest := []) X hS (mX12_note g l  aM aM_text aM_now aM_trial aM_read aM_diary aM_kept aM_isKept aM_constraint aM_readConstraint aM_word aM_size aM_number aM_firstOne aM_node aM_parent aM_rule aM_child aM_proof aM_witness aM_witnessSize aM_built aM_copyRow M_length M_acts M_next M_many M_readMany M_found M_shortest M_nodes M_solved M_dropped M_fits M_proofSize M_tooLong M_text M_now M_trial M_read M_diary M_kept M_isKept M_constraint M_readConstraint M_word M_size M_number M_firstOne M_node M_parent M_rule M_child M_proof M_witness M_witnessSize M_built M_copyRow M_acts_1 M_next_1 M_diary_1 hc1) okX12_note wd5_131 ⟨Nat.le_of_ble_eq_true rfl, Nat.le_of_ble_eq_true rfl⟩ ⟨rfl, rfl⟩ (va_recv hK hP (ci := 11) (q0 := 0) rfl rfl) hP hD (all_F hS hA hD) rfl hl.1 rfl (Nat.le_of_ble_eq_true rfl) dX12_exchangeLetters_1 ⟨Nat.zero_le _, Nat.zero_le _⟩) hS (all_F hS hA hD) rfl (fun H locs hP hD hS => ?_)
  refine lv_iconst (v := (0 : Int32)) hx hb dX12_exchangeLetters_4 (by decide) ?_
  refine lv_istore_n (lv' := [(1, .int (0 : Int32)), (0, .ref aM)]) hx hb dX12_exchangeLetters_5 rfl hl (by decide) rfl (fun ls hl => ?_)
  refine lv_iconst (v := (0 : Int32)) hx hb dX12_exchangeLetters_6 (by decide) ?_
  refine lv_istore_n (lv' := [(2, .int (0 : Int32)), (1, .int (0 : Int32)), (0, .ref aM)]) hx hb dX12_exchangeLetters_7 rfl hl (by decide) rfl (fun ls hl => ?_)
  exact L8 FU M_acts_1 M_next_1 M_now M_diary_1 (0 : Int32) (0 : Int32) ls H locs (lv_sub hl [2, 1, 0] rfl) hP hD hS h
set_option maxHeartbeats 4000000 in
set_option maxRecDepth 100000 in
theorem mX12_eliminateIn (g : GP) (l : Launch) (aR0 : Nat) (R0 : Nat → Int32) (x1 : Int32) (r : Int32) (R0_o : Nat → Int32) (h : fM_eliminateIn R0 x1 = some (r, R0_o)) : Ct g l yX12_eliminateIn cX12_eliminateIn 7 (some .int) rmX12_eliminateIn [.ref aR0, .int x1] [(aR0, .inl (g.2.1 0, 26, .inl R0))] (some (.int r)) [(aR0, .inl (g.2.1 0, 26, .inl R0_o))] := by
  refine Ct.introI (by decide) (Nat.le_of_ble_eq_true rfl) ?_
  intro p e s m below meth c A QQ ls hyp hret
  obtain ⟨hx, hb, hml, hts, hown, hA, hE, hP, hD, hl⟩ := hyp
  have hK := hE.1
  have hS : va_S A s.heap s.heap [] := va_S.rf
  have X : Here g p s m c cX12_eliminateIn 7 ([.ref aR0, .int x1] : List Value).toArray RX12 A := ⟨⟨hx, hb, hml, hown, hts⟩, hE, hA⟩
  have L10 : ∀ (n10 : Nat), ∀ (R0 : Nat → Int32) (v2 : Int32) (v3 : Int32) (ls : Array Slot) (H : Heap) (locs : List Loc), lv_has ls 7 [(0, .ref aR0), (1, .int x1), (2, .int v2), (3, .int v3)] → va_P g.1 vwCl [(aR0, .inl (g.2.1 0, 26, .inl R0))] H → va_D A [(aR0, .inl (g.2.1 0, 26, .inl R0))] → va_S A s.heap H locs → fx2 (fM_eliminateIn_10 x1 v2) n10 R0 v3 = some (r, R0_o) → W p l e rmX12_eliminateIn s m ([.ref aR0, .int x1] : List Value).toArray below meth c H locs 0 0 QQ (F0 m 10 ls []) := by
    intro n10
    induction n10 with
    | zero => intro R0 v2 v3 ls H locs hl hP hD hS h; exact fx2_0 h
    | succ n10 ih10 =>
      intro R0 v2 v3 ls H locs hl hP hD hS h
      have h := (fx2_s (fM_eliminateIn_10 x1 v2) n10 R0 v3).symm.trans h
      have L70 : ∀ (n70 : Nat), ∀ (R0 : Nat → Int32) (v3 : Int32) (v4 : Int32) (v5 : Int32) (ls : Array Slot) (H : Heap) (locs : List Loc), lv_has ls 7 [(0, .ref aR0), (1, .int x1), (2, .int v2), (3, .int v3), (4, .int v4), (5, .int v5)] → va_P g.1 vwCl [(aR0, .inl (g.2.1 0, 26, .inl R0))] H → va_D A [(aR0, .inl (g.2.1 0, 26, .inl R0))] → va_S A s.heap H locs → fx2 (fM_eliminateIn_70 (fx2 (fM_eliminateIn_10 x1 v2) n10) x1 v2 v3 v4) n70 R0 v5 = some (r, R0_o) → W p l e rmX12_eliminateIn s m ([.ref aR0, .int x1] : List Value).toArray below meth c H locs 0 0 QQ (F0 m 70 ls []) := by
        intro n70
        induction n70 with
        | zero => intro R0 v3 v4 v5 ls H locs hl hP hD hS h; exact fx2_0 h
        | succ n70 ih70 =>
          intro R0 v3 v4 v5 ls H locs hl hP hD hS h
          have h := (fx2_s (fM_eliminateIn_70 (fx2 (fM_eliminateIn_10 x1 v2) n10) x1 v2 v3 v4) n70 R0 v5).symm.trans h
          refine lv_iload hx hb dX12_eliminateIn_70 (lv_at hl 5 rfl) ?_
          refine lv_aload_n hx hb dX12_eliminateIn_72 rfl (lv_at hl 0 rfl) ?_
          refine lv_iload_n hx hb dX12_eliminateIn_73 rfl (lv_at hl 3 rfl) ?_
          have hin := ld_in h
          refine va_iald hx hb hK hP 0 0 rfl rfl hin dX12_eliminateIn_74 ?_
          refine lv_topi (fun t74 et74 => ?_)
          have h := ld_to h et74
          refine lv_icmp_ge (tgt := 93) hx hb dX12_eliminateIn_75 (by decide) (fun q75 => ?_) (fun q75 => ?_)
          · have h := ifT h q75
            refine lv_aload_n hx hb dX12_eliminateIn_93 rfl (lv_at hl 0 rfl) ?_
            refine lv_iload_n hx hb dX12_eliminateIn_94 rfl (lv_at hl 3 rfl) ?_
            refine lv_iload hx hb dX12_eliminateIn_95 (lv_at hl 4 rfl) ?_
            have hin := sti_in h
            refine va_iast hx hb hK hP hD hS 0 0 rfl rfl hin dX12_eliminateIn_97 (fun H locs hP hD hS => ?_)
            obtain ⟨R0_97, eR0_97⟩ : ∃ y : Nat → Int32, y = upd R0 (Int32.toNatClampNeg v3) v4 := ⟨_, rfl⟩
            have h := sti_to h eR0_97
            have hP : va_P g.1 vwCl [(aR0, .inl (g.2.1 0, 26, .inl R0_97))] H := by rw [eR0_97]; exact hP
            have hD : va_D A [(aR0, .inl (g.2.1 0, 26, .inl R0_97))] := by rw [eR0_97]; exact hD
            obtain ⟨t98, et98⟩ : ∃ y : Int32, y = v3 + (1 : Int32) := ⟨_, rfl⟩
            refine lv_iinc (v := t98) (lv' := [(3, .int t98), (0, .ref aR0), (1, .int x1), (2, .int v2), (4, .int v4), (5, .int v5)]) hx hb dX12_eliminateIn_98 hl (k := 3) rfl (by rw [et98]; rfl) (by decide) rfl (fun ls hl => ?_)
            have h := st_to h et98
            refine lv_goto (tgt := 10) hx hb dX12_eliminateIn_101 (by decide) ?_
            exact ih10 R0_97 v2 t98 ls H locs (lv_sub hl [1, 2, 3, 0] rfl) hP hD hS h
          have h := ifF h q75
          refine lv_aload_n hx hb dX12_eliminateIn_78 rfl (lv_at hl 0 rfl) ?_
          refine lv_iload_n hx hb dX12_eliminateIn_79 rfl (lv_at hl 3 rfl) ?_
          refine lv_iload hx hb dX12_eliminateIn_80 (lv_at hl 5 rfl) ?_
          obtain ⟨t82, hc82, h⟩ := bd1_to h
          refine go_0 (st1 := [.int t82, .ref aR0]) (run_S (As := [.int v3, .int v5]) (rest := [.ref aR0]) X hS (mX12_at g l  v3 v5 t82 hc82) okX12_at wd5_87 ⟨Nat.le_of_ble_eq_true rfl, Nat.le_of_ble_eq_true rfl⟩ ⟨rfl, rfl⟩ nil_P nil_D (nil_F hS hA) rfl hl.1 rfl (Nat.le_of_ble_eq_true rfl) dX12_eliminateIn_82 ⟨Nat.zero_le _, Nat.zero_le _⟩) hS hA hP rfl (fun H locs hP hS => ?_)
          refine lv_iconst (v := (0 : Int32)) hx hb dX12_eliminateIn_85 (by decide) ?_
          have hin := sti_in h
          refine va_iast hx hb hK hP hD hS 0 0 rfl rfl hin dX12_eliminateIn_86 (fun H locs hP hD hS => ?_)
          obtain ⟨R0_86, eR0_86⟩ : ∃ y : Nat → Int32, y = upd R0 (Int32.toNatClampNeg t82) (0 : Int32) := ⟨_, rfl⟩
          have h := sti_to h eR0_86
          have hP : va_P g.1 vwCl [(aR0, .inl (g.2.1 0, 26, .inl R0_86))] H := by rw [eR0_86]; exact hP
          have hD : va_D A [(aR0, .inl (g.2.1 0, 26, .inl R0_86))] := by rw [eR0_86]; exact hD
          obtain ⟨t87, et87⟩ : ∃ y : Int32, y = v5 + (1 : Int32) := ⟨_, rfl⟩
          refine lv_iinc (v := t87) (lv' := [(5, .int t87), (0, .ref aR0), (1, .int x1), (2, .int v2), (3, .int v3), (4, .int v4)]) hx hb dX12_eliminateIn_87 hl (k := 5) rfl (by rw [et87]; rfl) (by decide) rfl (fun ls hl => ?_)
          have h := st_to h et87
          refine lv_goto (tgt := 70) hx hb dX12_eliminateIn_90 (by decide) ?_
          exact ih70 R0_86 v3 v4 t87 ls H locs (lv_sub hl [1, 2, 3, 4, 5, 0] rfl) hP hD hS h
      have L21 : ∀ (n21 : Nat), ∀ (R0 : Nat → Int32) (v3 : Int32) (v4 : Int32) (v5 : Int32) (ls : Array Slot) (H : Heap) (locs : List Loc), lv_has ls 7 [(0, .ref aR0), (1, .int x1), (2, .int v2), (3, .int v3), (4, .int v4), (5, .int v5)] → va_P g.1 vwCl [(aR0, .inl (g.2.1 0, 26, .inl R0))] H → va_D A [(aR0, .inl (g.2.1 0, 26, .inl R0))] → va_S A s.heap H locs → fx3 (fM_eliminateIn_21 (fx2 (fM_eliminateIn_10 x1 v2) n10) x1 v2 v3) n21 R0 v4 v5 = some (r, R0_o) → W p l e rmX12_eliminateIn s m ([.ref aR0, .int x1] : List Value).toArray below meth c H locs 0 0 QQ (F0 m 21 ls []) := by
        intro n21
        induction n21 with
        | zero => intro R0 v3 v4 v5 ls H locs hl hP hD hS h; exact fx3_0 h
        | succ n21 ih21 =>
          intro R0 v3 v4 v5 ls H locs hl hP hD hS h
          have h := (fx3_s (fM_eliminateIn_21 (fx2 (fM_eliminateIn_10 x1 v2) n10) x1 v2 v3) n21 R0 v4 v5).symm.trans h
          refine lv_iload hx hb dX12_eliminateIn_21 (lv_at hl 5 rfl) ?_
          refine lv_aload_n hx hb dX12_eliminateIn_23 rfl (lv_at hl 0 rfl) ?_
          refine lv_iload_n hx hb dX12_eliminateIn_24 rfl (lv_at hl 3 rfl) ?_
          have hin := ld_in h
          refine va_iald hx hb hK hP 0 0 rfl rfl hin dX12_eliminateIn_25 ?_
          refine lv_topi (fun t25 et25 => ?_)
          have h := ld_to h et25
          refine lv_icmp_ge (tgt := 66) hx hb dX12_eliminateIn_26 (by decide) (fun q26 => ?_) (fun q26 => ?_)
          · have h := ifT h q26
            refine lv_iload hx hb dX12_eliminateIn_66 (lv_at hl 4 rfl) ?_
            refine lv_istore (lv' := [(5, .int v4), (0, .ref aR0), (1, .int x1), (2, .int v2), (3, .int v3), (4, .int v4)]) hx hb dX12_eliminateIn_68 hl (by decide) rfl (fun ls hl => ?_)
            exact L70 FU R0 v3 v4 v4 ls H locs (lv_sub hl [1, 2, 3, 4, 5, 0] rfl) hP hD hS h
          have h := ifF h q26
          refine lv_aload_n hx hb dX12_eliminateIn_29 rfl (lv_at hl 0 rfl) ?_
          refine lv_iload_n hx hb dX12_eliminateIn_30 rfl (lv_at hl 3 rfl) ?_
          refine lv_iload hx hb dX12_eliminateIn_31 (lv_at hl 5 rfl) ?_
          obtain ⟨t33, hc33, h⟩ := bd1_to h
          refine go_0 (st1 := [.int t33, .ref aR0]) (run_S (As := [.int v3, .int v5]) (rest := [.ref aR0]) X hS (mX12_at g l  v3 v5 t33 hc33) okX12_at wd5_87 ⟨Nat.le_of_ble_eq_true rfl, Nat.le_of_ble_eq_true rfl⟩ ⟨rfl, rfl⟩ nil_P nil_D (nil_F hS hA) rfl hl.1 rfl (Nat.le_of_ble_eq_true rfl) dX12_eliminateIn_33 ⟨Nat.zero_le _, Nat.zero_le _⟩) hS hA hP rfl (fun H locs hP hS => ?_)
          have hin := ld_in h
          refine va_iald hx hb hK hP 0 0 rfl rfl hin dX12_eliminateIn_36 ?_
          refine lv_topi (fun t36 et36 => ?_)
          have h := ld_to h et36
          refine lv_istore (lv' := [(6, .int t36), (0, .ref aR0), (1, .int x1), (2, .int v2), (3, .int v3), (4, .int v4), (5, .int v5)]) hx hb dX12_eliminateIn_37 hl (by decide) rfl (fun ls hl => ?_)
          refine lv_iload hx hb dX12_eliminateIn_39 (lv_at hl 0 rfl) ?_
          refine lv_iload_n hx hb dX12_eliminateIn_41 rfl (lv_at hl 2 rfl) ?_
          refine lv_iconst (v := (2 : Int32)) hx hb dX12_eliminateIn_42 (by decide) ?_
          refine lv_iadd hx hb dX12_eliminateIn_43 ?_
          refine lv_icmp_eq (tgt := 60) hx hb dX12_eliminateIn_44 (by decide) (fun q44 => ?_) (fun q44 => ?_)
          · have h := ifT h q44
            obtain ⟨t60, et60⟩ : ∃ y : Int32, y = v5 + (1 : Int32) := ⟨_, rfl⟩
            refine lv_iinc (v := t60) (lv' := [(5, .int t60), (6, .int t36), (0, .ref aR0), (1, .int x1), (2, .int v2), (3, .int v3), (4, .int v4)]) hx hb dX12_eliminateIn_60 hl (k := 6) rfl (by rw [et60]; rfl) (by decide) rfl (fun ls hl => ?_)
            have h := st_to h et60
            refine lv_goto (tgt := 21) hx hb dX12_eliminateIn_63 (by decide) ?_
            exact ih21 R0 v3 v4 t60 ls H locs (lv_sub hl [2, 3, 4, 5, 6, 0] rfl) hP hD hS h
          have h := ifF h q44
          refine lv_aload_n hx hb dX12_eliminateIn_47 rfl (lv_at hl 1 rfl) ?_
          refine lv_iload_n hx hb dX12_eliminateIn_48 rfl (lv_at hl 4 rfl) ?_
          refine lv_iload hx hb dX12_eliminateIn_49 (lv_at hl 5 rfl) ?_
          obtain ⟨t51, hc51, h⟩ := bd1_to h
          refine go_0 (st1 := [.int t51, .ref aR0]) (run_S (As := [.int v3, .int v4]) (rest := [.ref aR0]) X hS (mX12_at g l  v3 v4 t51 hc51) okX12_at wd5_87 ⟨Nat.le_of_ble_eq_true rfl, Nat.le_of_ble_eq_true rfl⟩ ⟨rfl, rfl⟩ nil_P nil_D (nil_F hS hA) rfl hl.1 rfl (Nat.le_of_ble_eq_true rfl) dX12_eliminateIn_51 ⟨Nat.zero_le _, Nat.zero_le _⟩) hS hA hP rfl (fun H locs hP hS => ?_)
          refine lv_iload hx hb dX12_eliminateIn_54 (lv_at hl 0 rfl) ?_
          have hin := sti_in h
          refine va_iast hx hb hK hP hD hS 0 0 rfl rfl hin dX12_eliminateIn_56 (fun H locs hP hD hS => ?_)
          obtain ⟨R0_56, eR0_56⟩ : ∃ y : Nat → Int32, y = upd R0 (Int32.toNatClampNeg t51) t36 := ⟨_, rfl⟩
          have h := sti_to h eR0_56
          have hP : va_P g.1 vwCl [(aR0, .inl (g.2.1 0, 26, .inl R0_56))] H := by rw [eR0_56]; exact hP
          have hD : va_D A [(aR0, .inl (g.2.1 0, 26, .inl R0_56))] := by rw [eR0_56]; exact hD
          obtain ⟨t57, et57⟩ : ∃ y : Int32, y = v4 + (1 : Int32) := ⟨_, rfl⟩
          refine lv_iinc (v := t57) (lv' := [(4, .int t57), (6, .int t36), (0, .ref aR0), (1, .int x1), (2, .int v2), (3, .int v3), (5, .int v5)]) hx hb dX12_eliminateIn_57 hl (k := 5) rfl (by rw [et57]; rfl) (by decide) rfl (fun ls hl => ?_)
          have h := st_to h et57
          obtain ⟨t60, et60⟩ : ∃ y : Int32, y = v5 + (1 : Int32) := ⟨_, rfl⟩
          refine lv_iinc (v := t60) (lv' := [(5, .int t60), (4, .int t57), (6, .int t36), (0, .ref aR0), (1, .int x1), (2, .int v2), (3, .int v3)]) hx hb dX12_eliminateIn_60 hl (k := 6) rfl (by rw [et60]; rfl) (by decide) rfl (fun ls hl => ?_)
          have h := st_to h et60
          refine lv_goto (tgt := 21) hx hb dX12_eliminateIn_63 (by decide) ?_
          exact ih21 R0_56 v3 t57 t60 ls H locs (lv_sub hl [3, 4, 5, 6, 1, 0] rfl) hP hD hS h
      refine lv_iload_n hx hb dX12_eliminateIn_10 rfl (lv_at hl 3 rfl) ?_
      refine lv_iconst (v := (2 : Int32)) hx hb dX12_eliminateIn_11 (by decide) ?_
      refine lv_icmp_ge (tgt := 104) hx hb dX12_eliminateIn_12 (by decide) (fun q12 => ?_) (fun q12 => ?_)
      · have h := ifT h q12
        refine lv_iload_n hx hb dX12_eliminateIn_104 rfl (lv_at hl 2 rfl) ?_
        refine lv_aload_n hx hb dX12_eliminateIn_105 rfl (lv_at hl 0 rfl) ?_
        refine lv_iconst (v := (0 : Int32)) hx hb dX12_eliminateIn_106 (by decide) ?_
        have hin := ld_in h
        refine va_iald hx hb hK hP 0 0 rfl rfl hin dX12_eliminateIn_107 ?_
        refine lv_topi (fun t107 et107 => ?_)
        have h := ld_to h et107
        refine lv_isub hx hb dX12_eliminateIn_108 ?_
        refine lv_aload_n hx hb dX12_eliminateIn_109 rfl (lv_at hl 0 rfl) ?_
        refine lv_iconst (v := (1 : Int32)) hx hb dX12_eliminateIn_110 (by decide) ?_
        have hin := ld_in h
        refine va_iald hx hb hK hP 0 0 rfl rfl hin dX12_eliminateIn_111 ?_
        refine lv_topi (fun t111 et111 => ?_)
        have h := ld_to h et111
        refine lv_isub hx hb dX12_eliminateIn_112 ?_
        have h : some (((v2 - t107) - t111), R0) = some (r, R0_o) := h
        cases h
        exact hret _ _ _ _ hP hD hS dX12_eliminateIn_113
      have h := ifF h q12
      refine lv_iconst (v := (0 : Int32)) hx hb dX12_eliminateIn_15 (by decide) ?_
      refine lv_istore (lv' := [(4, .int (0 : Int32)), (0, .ref aR0), (1, .int x1), (2, .int v2), (3, .int v3)]) hx hb dX12_eliminateIn_16 hl (by decide) rfl (fun ls hl => ?_)
      refine lv_iconst (v := (0 : Int32)) hx hb dX12_eliminateIn_18 (by decide) ?_
      refine lv_istore (lv' := [(5, .int (0 : Int32)), (4, .int (0 : Int32)), (0, .ref aR0), (1, .int x1), (2, .int v2), (3, .int v3)]) hx hb dX12_eliminateIn_19 hl (by decide) rfl (fun ls hl => ?_)
      exact L21 FU R0 v3 (0 : Int32) (0 : Int32) ls H locs (lv_sub hl [2, 3, 4, 5, 1, 0] rfl) hP hD hS h
  have hl : lv_has ls 7 [(0, .ref aR0), (1, .int x1)] := hl
  obtain ⟨H, hH⟩ : ∃ H, H = s.heap := ⟨_, rfl⟩
  obtain ⟨locs, hlocs⟩ : ∃ l : List Loc, l = [] := ⟨_, rfl⟩
  rw [show W p l e rmX12_eliminateIn s m ([.ref aR0, .int x1] : List Value).toArray below meth c s.heap [] 0 0 QQ (F0 m 0 ls []) = W p l e rmX12_eliminateIn s m ([.ref aR0, .int x1] : List Value).toArray below meth c H locs 0 0 QQ (F0 m 0 ls []) by rw [hH, hlocs]]
  have hP : va_P g.1 vwCl [(aR0, .inl (g.2.1 0, 26, .inl R0))] H := by rw [hH]; exact hP
  have hD : va_D A [(aR0, .inl (g.2.1 0, 26, .inl R0))] := hD
  have hS : va_S A s.heap H locs := by rw [hH, hlocs]; exact hS
  clear hH hlocs
  refine lv_aload_n hx hb dX12_eliminateIn_0 rfl (lv_at hl 0 rfl) ?_
  refine lv_iconst (v := (0 : Int32)) hx hb dX12_eliminateIn_1 (by decide) ?_
  have hin := ld_in h
  refine va_iald hx hb hK hP 0 0 rfl rfl hin dX12_eliminateIn_2 ?_
  refine lv_topi (fun t2 et2 => ?_)
  have h := ld_to h et2
  refine lv_aload_n hx hb dX12_eliminateIn_3 rfl (lv_at hl 0 rfl) ?_
  refine lv_iconst (v := (1 : Int32)) hx hb dX12_eliminateIn_4 (by decide) ?_
  have hin := ld_in h
  refine va_iald hx hb hK hP 0 0 rfl rfl hin dX12_eliminateIn_5 ?_
  refine lv_topi (fun t5 et5 => ?_)
  have h := ld_to h et5
  refine lv_iadd hx hb dX12_eliminateIn_6 ?_
  refine lv_topi (fun t7 et7 => ?_)
  have h := st_to h et7
  refine lv_istore_n (lv' := [(2, .int t7), (0, .ref aR0), (1, .int x1)]) hx hb dX12_eliminateIn_7 rfl hl (by decide) rfl (fun ls hl => ?_)
  refine lv_iconst (v := (0 : Int32)) hx hb dX12_eliminateIn_8 (by decide) ?_
  refine lv_istore_n (lv' := [(3, .int (0 : Int32)), (2, .int t7), (0, .ref aR0), (1, .int x1)]) hx hb dX12_eliminateIn_9 rfl hl (by decide) rfl (fun ls hl => ?_)
  exact L10 FU R0 t7 (0 : Int32) ls H locs (lv_sub hl [2, 3, 1, 0] rfl) hP hD hS h
set_option maxHeartbeats 4000000 in
set_option maxRecDepth 100000 in
theorem mX12_eliminate (g : GP) (l : Launch) (aM aM_text aM_now aM_trial aM_read aM_diary aM_kept aM_isKept aM_constraint aM_readConstraint aM_word aM_size aM_number aM_firstOne aM_node aM_parent aM_rule aM_child aM_proof aM_witness aM_witnessSize aM_built aM_copyRow : Nat) (M_length : Int32) (M_acts : Int32) (M_next : Int32) (M_many : Int32) (M_readMany : Int32) (M_found : Int32) (M_shortest : Int32) (M_nodes : Int32) (M_solved : Int32) (M_dropped : Int32) (M_fits : Int32) (M_proofSize : Int32) (M_tooLong : Int32) (M_text : Nat → Int32) (M_now : Nat → Int32) (M_trial : Nat → Int32) (M_read : Nat → Int32) (M_diary : Nat → Int32) (M_kept : Nat → Int32) (M_isKept : Nat → Int32) (M_constraint : Nat → Int32) (M_readConstraint : Nat → Int32) (M_word : Nat → Int32) (M_size : Nat → Int32) (M_number : Nat → Int32) (M_firstOne : Nat → Int32) (M_node : Nat → Int32) (M_parent : Nat → Int32) (M_rule : Nat → Int32) (M_child : Nat → Int32) (M_proof : Nat → Int32) (M_witness : Nat → Int32) (M_witnessSize : Nat → Int32) (M_built : Nat → Int32) (M_copyRow : Nat → Int32) (x1 : Int32) (r : Int32) (M_acts_o : Int32) (M_next_o : Int32) (M_now_o : Nat → Int32) (M_diary_o : Nat → Int32) (h : fM_eliminate M_acts M_next M_now M_diary x1 = some (r, M_acts_o, M_next_o, M_now_o, M_diary_o)) : Ct g l yX12_eliminate cX12_eliminate 2 (some .int) rmX12_eliminate [.ref aM, .int x1] (wX12 g aM aM_text aM_now aM_trial aM_read aM_diary aM_kept aM_isKept aM_constraint aM_readConstraint aM_word aM_size aM_number aM_firstOne aM_node aM_parent aM_rule aM_child aM_proof aM_witness aM_witnessSize aM_built aM_copyRow M_length M_acts M_next M_many M_readMany M_found M_shortest M_nodes M_solved M_dropped M_fits M_proofSize M_tooLong M_text M_now M_trial M_read M_diary M_kept M_isKept M_constraint M_readConstraint M_word M_size M_number M_firstOne M_node M_parent M_rule M_child M_proof M_witness M_witnessSize M_built M_copyRow) (some (.int r)) (wX12 g aM aM_text aM_now aM_trial aM_read aM_diary aM_kept aM_isKept aM_constraint aM_readConstraint aM_word aM_size aM_number aM_firstOne aM_node aM_parent aM_rule aM_child aM_proof aM_witness aM_witnessSize aM_built aM_copyRow M_length M_acts_o M_next_o M_many M_readMany M_found M_shortest M_nodes M_solved M_dropped M_fits M_proofSize M_tooLong M_text M_now_o M_trial M_read M_diary_o M_kept M_isKept M_constraint M_readConstraint M_word M_size M_number M_firstOne M_node M_parent M_rule M_child M_proof M_witness M_witnessSize M_built M_copyRow) := by
  refine Ct.introI (by decide) (Nat.le_of_ble_eq_true rfl) ?_
  intro p e s m below meth c A QQ ls hyp hret
  obtain ⟨hx, hb, hml, hts, hown, hA, hE, hP, hD, hl⟩ := hyp
  have hK := hE.1
  have hS : va_S A s.heap s.heap [] := va_S.rf
  have X : Here g p s m c cX12_eliminate 2 ([.ref aM, .int x1] : List Value).toArray RX12 A := ⟨⟨hx, hb, hml, hown, hts⟩, hE, hA⟩
  have hl : lv_has ls 2 [(0, .ref aM), (1, .int x1)] := hl
  obtain ⟨H, hH⟩ : ∃ H, H = s.heap := ⟨_, rfl⟩
  obtain ⟨locs, hlocs⟩ : ∃ l : List Loc, l = [] := ⟨_, rfl⟩
  rw [show W p l e rmX12_eliminate s m ([.ref aM, .int x1] : List Value).toArray below meth c s.heap [] 0 0 QQ (F0 m 0 ls []) = W p l e rmX12_eliminate s m ([.ref aM, .int x1] : List Value).toArray below meth c H locs 0 0 QQ (F0 m 0 ls []) by rw [hH, hlocs]]
  have hP : va_P g.1 vwCl (wX12 g aM aM_text aM_now aM_trial aM_read aM_diary aM_kept aM_isKept aM_constraint aM_readConstraint aM_word aM_size aM_number aM_firstOne aM_node aM_parent aM_rule aM_child aM_proof aM_witness aM_witnessSize aM_built aM_copyRow M_length M_acts M_next M_many M_readMany M_found M_shortest M_nodes M_solved M_dropped M_fits M_proofSize M_tooLong M_text M_now M_trial M_read M_diary M_kept M_isKept M_constraint M_readConstraint M_word M_size M_number M_firstOne M_node M_parent M_rule M_child M_proof M_witness M_witnessSize M_built M_copyRow) H := by rw [hH]; exact hP
  have hD : va_D A (wX12 g aM aM_text aM_now aM_trial aM_read aM_diary aM_kept aM_isKept aM_constraint aM_readConstraint aM_word aM_size aM_number aM_firstOne aM_node aM_parent aM_rule aM_child aM_proof aM_witness aM_witnessSize aM_built aM_copyRow M_length M_acts M_next M_many M_readMany M_found M_shortest M_nodes M_solved M_dropped M_fits M_proofSize M_tooLong M_text M_now M_trial M_read M_diary M_kept M_isKept M_constraint M_readConstraint M_word M_size M_number M_firstOne M_node M_parent M_rule M_child M_proof M_witness M_witnessSize M_built M_copyRow) := hD
  have hS : va_S A s.heap H locs := by rw [hH, hlocs]; exact hS
  clear hH hlocs
  refine lv_iload_n hx hb dX12_eliminate_0 rfl (lv_at hl 1 rfl) ?_
  obtain ⟨t1, hc1, h⟩ := bd1_to h
  refine go_0 (st1 := [.int t1]) (run_S (As := [.int x1]) (rest := []) X hS (mX12_isVariable g l  x1 t1 hc1) okX12_isVariable wd5_120 ⟨Nat.le_of_ble_eq_true rfl, Nat.le_of_ble_eq_true rfl⟩ ⟨rfl, rfl⟩ nil_P nil_D (nil_F hS hA) rfl hl.1 rfl (Nat.le_of_ble_eq_true rfl) dX12_eliminate_1 ⟨Nat.zero_le _, Nat.zero_le _⟩) hS hA hP rfl (fun H locs hP hS => ?_)
  refine lv_if_ne (tgt := 9) hx hb dX12_eliminate_4 (by decide) (fun q4 => ?_) (fun q4 => ?_)
  · have h := ifF h q4
    refine lv_aload_n hx hb dX12_eliminate_9 rfl (lv_at hl 0 rfl) ?_
    obtain ⟨M_acts_10, M_next_10, M_diary_10, hc10, h⟩ := bd3_to h
    refine go_A (st1 := []) (run_V (As := []) (rest := []) X hS (mX12_note g l  aM aM_text aM_now aM_trial aM_read aM_diary aM_kept aM_isKept aM_constraint aM_readConstraint aM_word aM_size aM_number aM_firstOne aM_node aM_parent aM_rule aM_child aM_proof aM_witness aM_witnessSize aM_built aM_copyRow M_length M_acts M_next M_many M_readMany M_found M_shortest M_nodes M_solved M_dropped M_fits M_proofSize M_tooLong M_text M_now M_trial M_read M_diary M_kept M_isKept M_constraint M_readConstraint M_word M_size M_number M_firstOne M_node M_parent M_rule M_child M_proof M_witness M_witnessSize M_built M_copyRow M_acts_10 M_next_10 M_diary_10 hc10) okX12_note wd5_131 ⟨Nat.le_of_ble_eq_true rfl, Nat.le_of_ble_eq_true rfl⟩ ⟨rfl, rfl⟩ (va_recv hK hP (ci := 11) (q0 := 0) rfl rfl) hP hD (all_F hS hA hD) rfl hl.1 rfl (Nat.le_of_ble_eq_true rfl) dX12_eliminate_10 ⟨Nat.zero_le _, Nat.zero_le _⟩) hS (all_F hS hA hD) rfl (fun H locs hP hD hS => ?_)
    refine lv_aload_n hx hb dX12_eliminate_13 rfl (lv_at hl 0 rfl) ?_
    refine va_get (D := g.1) (ci := 11) (v := .ref aM_now) (C := RX12) (T := TX12) (N := 35) hx hb hts inBX12 hown hK hP 0 rfl rfl 2 (by decide) (hts _ wd4_198) (fun _ h9 => h9) rfl dX12_eliminate_14 ?_
    refine lv_iload_n hx hb dX12_eliminate_17 rfl (lv_at hl 1 rfl) ?_
    obtain ⟨t18, M_now_18, hc18, h⟩ := bd2_to h
    refine go_P (st1 := [.int t18]) (W1 := (wX12 g aM aM_text aM_now aM_trial aM_read aM_diary aM_kept aM_isKept aM_constraint aM_readConstraint aM_word aM_size aM_number aM_firstOne aM_node aM_parent aM_rule aM_child aM_proof aM_witness aM_witnessSize aM_built aM_copyRow M_length M_acts_10 M_next_10 M_many M_readMany M_found M_shortest M_nodes M_solved M_dropped M_fits M_proofSize M_tooLong M_text M_now_18 M_trial M_read M_diary_10 M_kept M_isKept M_constraint M_readConstraint M_word M_size M_number M_firstOne M_node M_parent M_rule M_child M_proof M_witness M_witnessSize M_built M_copyRow)) (run_S (As := [.ref aM_now, .int x1]) (rest := []) X hS (mX12_eliminateIn g l  aM_now M_now x1 t18 M_now_18 hc18) okX12_eliminateIn wd5_163 ⟨Nat.le_of_ble_eq_true rfl, Nat.le_of_ble_eq_true rfl⟩ ⟨rfl, rfl⟩ (sub_P hP [2] rfl) (hD.sub [2] (by decide) rfl) (va_free hD hS hA [2] rfl) rfl hl.1 rfl (Nat.le_of_ble_eq_true rfl) dX12_eliminate_18 ⟨Nat.zero_le _, Nat.zero_le _⟩) hS (va_free hD hS hA [2] rfl) hP hD [2] [0, 1, 3, 4, 5, 6, 7, 8, 9, 10, 11, 12, 13, 14, 15, 16, 17, 18, 19, 20, 21, 22] [0, 1, 22, 2, 3, 4, 5, 6, 7, 8, 9, 10, 11, 12, 13, 14, 15, 16, 17, 18, 19, 20, 21] rfl rfl (by decide) (by decide) rfl (by decide) rfl (fun H locs hP hD hS => ?_)
    have h : some (t18, M_acts_10, M_next_10, M_now_18, M_diary_10) = some (r, M_acts_o, M_next_o, M_now_o, M_diary_o) := h
    cases h
    exact hret _ _ _ _ hP hD hS dX12_eliminate_21
  have h := ifT h q4
  refine lv_iconst (v := ((-1) : Int32)) hx hb dX12_eliminate_7 (by decide) ?_
  have h : some (((-1) : Int32), M_acts, M_next, M_now, M_diary) = some (r, M_acts_o, M_next_o, M_now_o, M_diary_o) := h
  cases h
  exact hret _ _ _ _ hP hD hS dX12_eliminate_8
