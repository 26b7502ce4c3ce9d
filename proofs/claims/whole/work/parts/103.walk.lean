set_option maxHeartbeats 4000000 in
set_option maxRecDepth 100000 in
theorem mX1_record (g : GP) (l : Launch) (aB aB_first aQ aQ_weights aQ_possible aC aC_variables aC_relations aC_numbers aA aA_letters aA_lengths : Nat) (B_left : Int64) (B_right : Int64) (B_found : Int32) (B_least : Int32) (B_first : Nat → Int32) (Q_letterSurplus : Int32) (Q_weights : Nat → Int32) (Q_possible : Nat → Int32) (C_size : Int32) (C_variables : Nat → Int32) (C_relations : Nat → Int32) (C_numbers : Nat → Int32) (A_letters : Nat → Int64) (A_lengths : Nat → Int32)  (B_found_o : Int32) (B_least_o : Int32) (B_first_o : Nat → Int32) (h : fB_record B_found B_least B_first A_letters A_lengths = some (B_found_o, B_least_o, B_first_o)) : Ct g l yX1_record cX1_record 4 none rmX1_record [.ref aB] (wX1 g aB aB_first aQ aQ_weights aQ_possible aC aC_variables aC_relations aC_numbers aA aA_letters aA_lengths B_left B_right B_found B_least B_first Q_letterSurplus Q_weights Q_possible C_size C_variables C_relations C_numbers A_letters A_lengths) none (wX1 g aB aB_first aQ aQ_weights aQ_possible aC aC_variables aC_relations aC_numbers aA aA_letters aA_lengths B_left B_right B_found_o B_least_o B_first_o Q_letterSurplus Q_weights Q_possible C_size C_variables C_relations C_numbers A_letters A_lengths) := by
  refine Ct.introV (by decide) (Nat.le_of_ble_eq_true rfl) ?_
  intro p e s m below meth c A QQ ls hyp hret
  obtain ⟨hx, hb, hml, hts, hown, hA, hE, hP, hD, hl⟩ := hyp
  have hK := hE.1
  have hS : va_S A s.heap s.heap [] := va_S.rf
  have X : Here g p s m c cX1_record 4 ([.ref aB] : List Value).toArray RX1 A := ⟨⟨hx, hb, hml, hown, hts⟩, hE, hA⟩
  have B72 : ∀ (B_found : Int32) (B_least : Int32) (B_first : Nat → Int32) (s1 : Int32) (ls : Array Slot) (H : Heap) (locs : List Loc), lv_has ls 4 [(0, .ref aB)] → va_P g.1 vwCl (wX1 g aB aB_first aQ aQ_weights aQ_possible aC aC_variables aC_relations aC_numbers aA aA_letters aA_lengths B_left B_right B_found B_least B_first Q_letterSurplus Q_weights Q_possible C_size C_variables C_relations C_numbers A_letters A_lengths) H → va_D A (wX1 g aB aB_first aQ aQ_weights aQ_possible aC aC_variables aC_relations aC_numbers aA aA_letters aA_lengths B_left B_right B_found B_least B_first Q_letterSurplus Q_weights Q_possible C_size C_variables C_relations C_numbers A_letters A_lengths) → va_S A s.heap H locs → fB_record_72 B_found B_first s1 = some (B_found_o, B_least_o, B_first_o) → W p l e rmX1_record s m ([.ref aB] : List Value).toArray below meth c H locs 0 0 QQ (F0 m 72 ls [.int s1, .ref aB]) := by
    intro B_found B_least B_first s1 ls H locs hl hP hD hS h
    refine va_put (D := g.1) (ci := 1) (v := .int s1) (ty := .int) (C := RX1) (T := TX1) (N := 7) hx hb hts inBX1 tyX1 tyX1_ok nmX1 hown hK hP hD hS 0 rfl rfl 6 (by decide) (hts _ wd1_167) (fun _ h9 => h9) rfl (tyX1_ok 6 (by decide)) rfl rfl (Nat.le_of_ble_eq_true rfl) dX1_record_72 (fun H locs hP hD hS => ?_)
    have hP : va_P g.1 vwCl (wX1 g aB aB_first aQ aQ_weights aQ_possible aC aC_variables aC_relations aC_numbers aA aA_letters aA_lengths B_left B_right B_found s1 B_first Q_letterSurplus Q_weights Q_possible C_size C_variables C_relations C_numbers A_letters A_lengths) H := hP
    have hD : va_D A (wX1 g aB aB_first aQ aQ_weights aQ_possible aC aC_variables aC_relations aC_numbers aA aA_letters aA_lengths B_left B_right B_found s1 B_first Q_letterSurplus Q_weights Q_possible C_size C_variables C_relations C_numbers A_letters A_lengths) := hD
    refine lv_aload_n hx hb dX1_record_75 rfl (lv_at hl 0 rfl) ?_
    refine lv_dup hx hb dX1_record_76 rfl ?_
    refine va_get (D := g.1) (ci := 1) (v := .int B_found) (C := RX1) (T := TX1) (N := 7) hx hb hts inBX1 hown hK hP 0 rfl rfl 5 (by decide) (hts _ wd1_166) (fun _ h9 => h9) rfl dX1_record_77 ?_
    refine lv_iconst (v := (1 : Int32)) hx hb dX1_record_80 (by decide) ?_
    refine lv_iadd hx hb dX1_record_81 ?_
    refine lv_topi (fun t82 et82 => ?_)
    have h := st_to h et82
    refine va_put (D := g.1) (ci := 1) (v := .int t82) (ty := .int) (C := RX1) (T := TX1) (N := 7) hx hb hts inBX1 tyX1 tyX1_ok nmX1 hown hK hP hD hS 0 rfl rfl 5 (by decide) (hts _ wd1_166) (fun _ h9 => h9) rfl (tyX1_ok 5 (by decide)) rfl rfl (Nat.le_of_ble_eq_true rfl) dX1_record_82 (fun H locs hP hD hS => ?_)
    have hP : va_P g.1 vwCl (wX1 g aB aB_first aQ aQ_weights aQ_possible aC aC_variables aC_relations aC_numbers aA aA_letters aA_lengths B_left B_right t82 s1 B_first Q_letterSurplus Q_weights Q_possible C_size C_variables C_relations C_numbers A_letters A_lengths) H := hP
    have hD : va_D A (wX1 g aB aB_first aQ aQ_weights aQ_possible aC aC_variables aC_relations aC_numbers aA aA_letters aA_lengths B_left B_right t82 s1 B_first Q_letterSurplus Q_weights Q_possible C_size C_variables C_relations C_numbers A_letters A_lengths) := hD
    have h : some (t82, s1, B_first) = some (B_found_o, B_least_o, B_first_o) := h
    cases h
    exact hret _ _ _ _ hP hD hS dX1_record_85
  have L4 : ∀ (n4 : Nat), ∀ (B_found : Int32) (B_least : Int32) (B_first : Nat → Int32) (v1 : Int32) (v2 : Int32) (ls : Array Slot) (H : Heap) (locs : List Loc), lv_has ls 4 [(0, .ref aB), (1, .int v1), (2, .int v2)] → va_P g.1 vwCl (wX1 g aB aB_first aQ aQ_weights aQ_possible aC aC_variables aC_relations aC_numbers aA aA_letters aA_lengths B_left B_right B_found B_least B_first Q_letterSurplus Q_weights Q_possible C_size C_variables C_relations C_numbers A_letters A_lengths) H → va_D A (wX1 g aB aB_first aQ aQ_weights aQ_possible aC aC_variables aC_relations aC_numbers aA aA_letters aA_lengths B_left B_right B_found B_least B_first Q_letterSurplus Q_weights Q_possible C_size C_variables C_relations C_numbers A_letters A_lengths) → va_S A s.heap H locs → fx3 (fB_record_4 B_found B_least A_letters A_lengths) n4 B_first v1 v2 = some (B_found_o, B_least_o, B_first_o) → W p l e rmX1_record s m ([.ref aB] : List Value).toArray below meth c H locs 0 0 QQ (F0 m 4 ls []) := by
    intro n4
    induction n4 with
    | zero => intro B_found B_least B_first v1 v2 ls H locs hl hP hD hS h; exact fx3_0 h
    | succ n4 ih4 =>
      intro B_found B_least B_first v1 v2 ls H locs hl hP hD hS h
      have h := (fx3_s (fB_record_4 B_found B_least A_letters A_lengths) n4 B_first v1 v2).symm.trans h
      refine lv_iload_n hx hb dX1_record_4 rfl (lv_at hl 2 rfl) ?_
      refine lv_iconst (v := (4 : Int32)) hx hb dX1_record_5 (by decide) ?_
      refine lv_icmp_ge (tgt := 52) hx hb dX1_record_6 (by decide) (fun q6 => ?_) (fun q6 => ?_)
      · have h := ifT h q6
        refine lv_aload_n hx hb dX1_record_52 rfl (lv_at hl 0 rfl) ?_
        refine lv_aload_n hx hb dX1_record_53 rfl (lv_at hl 0 rfl) ?_
        refine va_get (D := g.1) (ci := 1) (v := .int B_found) (C := RX1) (T := TX1) (N := 7) hx hb hts inBX1 hown hK hP 0 rfl rfl 5 (by decide) (hts _ wd1_166) (fun _ h9 => h9) rfl dX1_record_54 ?_
        refine lv_if_ne (tgt := 64) hx hb dX1_record_57 (by decide) (fun q57 => ?_) (fun q57 => ?_)
        · have h := ifF h q57
          refine lv_aload_n hx hb dX1_record_64 rfl (lv_at hl 0 rfl) ?_
          refine va_get (D := g.1) (ci := 1) (v := .int B_least) (C := RX1) (T := TX1) (N := 7) hx hb hts inBX1 hown hK hP 0 rfl rfl 6 (by decide) (hts _ wd1_167) (fun _ h9 => h9) rfl dX1_record_65 ?_
          refine lv_iload_n hx hb dX1_record_68 rfl (lv_at hl 1 rfl) ?_
          refine va_mmin hx hb (by rw [hml]; exact hl.1.symm) hown (hts _ wd3_214) (hts _ wd2_95) (hts _ wd1_16) (hts _ wd2_96) (Nat.le_of_ble_eq_true rfl) (Nat.le_of_ble_eq_true rfl) (Nat.zero_le _) (Nat.zero_le _) dX1_record_69 ?_
          exact B72 B_found B_least B_first ((if v1 < B_least then v1 else B_least)) ls H locs (lv_sub hl [0] rfl) hP hD hS h
        have h := ifT h q57
        refine lv_iload_n hx hb dX1_record_60 rfl (lv_at hl 1 rfl) ?_
        refine lv_goto (tgt := 72) hx hb dX1_record_61 (by decide) ?_
        exact B72 B_found B_least B_first v1 ls H locs (lv_sub hl [0] rfl) hP hD hS h
      have h := ifF h q6
      refine lv_iload_n hx hb dX1_record_9 rfl (lv_at hl 2 rfl) ?_
      obtain ⟨t10, hc10, h⟩ := bd1_to h
      refine go_0 (st1 := [.int t10]) (run_S (As := [.int v2]) (rest := []) X hS (mX9_variable g l  v2 t10 hc10) okX9_variable wd3_208 ⟨Nat.le_of_ble_eq_true rfl, Nat.le_of_ble_eq_true rfl⟩ ⟨rfl, rfl⟩ nil_P nil_D (nil_F hS hA) rfl hl.1 rfl (Nat.le_of_ble_eq_true rfl) dX1_record_10 ⟨Nat.zero_le _, Nat.zero_le _⟩) hS hA hP rfl (fun H locs hP hS => ?_)
      refine lv_istore_n (lv' := [(3, .int t10), (0, .ref aB), (1, .int v1), (2, .int v2)]) hx hb dX1_record_13 rfl hl (by decide) rfl (fun ls hl => ?_)
      refine lv_iload_n hx hb dX1_record_14 rfl (lv_at hl 2 rfl) ?_
      refine lv_aload_n hx hb dX1_record_15 rfl (lv_at hl 1 rfl) ?_
      refine va_get (D := g.1) (ci := 1) (v := .ref aA) (C := RX1) (T := TX1) (N := 7) hx hb hts inBX1 hown hK hP 0 rfl rfl 1 (by decide) (hts _ wd1_162) (fun _ h9 => h9) rfl dX1_record_16 ?_
      refine lv_iload_n hx hb dX1_record_19 rfl (lv_at hl 0 rfl) ?_
      obtain ⟨t20, hc20, h⟩ := bd1_to h
      refine go_P (st1 := [.int t20, .int v1]) (W1 := (wX1 g aB aB_first aQ aQ_weights aQ_possible aC aC_variables aC_relations aC_numbers aA aA_letters aA_lengths B_left B_right B_found B_least B_first Q_letterSurplus Q_weights Q_possible C_size C_variables C_relations C_numbers A_letters A_lengths)) (run_V (As := [.int t10]) (rest := [.int v1]) X hS (mX0_lengthOf g l  aA aA_letters aA_lengths A_letters A_lengths t10 t20 hc20) okX0_lengthOf wd3_209 ⟨Nat.le_of_ble_eq_true rfl, Nat.le_of_ble_eq_true rfl⟩ ⟨rfl, rfl⟩ (va_recv hK hP (ci := 0) (q0 := 9) rfl rfl) (sub_P hP [9, 10, 11] rfl) (hD.sub [9, 10, 11] (by decide) rfl) (va_free hD hS hA [9, 10, 11] rfl) rfl hl.1 rfl (Nat.le_of_ble_eq_true rfl) dX1_record_20 ⟨Nat.zero_le _, Nat.zero_le _⟩) hS (va_free hD hS hA [9, 10, 11] rfl) hP hD [9, 10, 11] [0, 1, 2, 3, 4, 5, 6, 7, 8] [0, 1, 2, 3, 4, 5, 6, 7, 8, 9, 10, 11] rfl rfl (by decide) (by decide) rfl (by decide) rfl (fun H locs hP hD hS => ?_)
      refine lv_iadd hx hb dX1_record_23 ?_
      refine lv_topi (fun t24 et24 => ?_)
      have h := st_to h et24
      refine lv_istore_n (lv' := [(1, .int t24), (3, .int t10), (0, .ref aB), (2, .int v2)]) hx hb dX1_record_24 rfl hl (by decide) rfl (fun ls hl => ?_)
      refine lv_aload_n hx hb dX1_record_25 rfl (lv_at hl 2 rfl) ?_
      refine va_get (D := g.1) (ci := 1) (v := .int B_found) (C := RX1) (T := TX1) (N := 7) hx hb hts inBX1 hown hK hP 0 rfl rfl 5 (by decide) (hts _ wd1_166) (fun _ h9 => h9) rfl dX1_record_26 ?_
      refine lv_if_ne (tgt := 46) hx hb dX1_record_29 (by decide) (fun q29 => ?_) (fun q29 => ?_)
      · have h := ifF h q29
        obtain ⟨t46, et46⟩ : ∃ y : Int32, y = v2 + (1 : Int32) := ⟨_, rfl⟩
        refine lv_iinc (v := t46) (lv' := [(2, .int t46), (1, .int t24), (3, .int t10), (0, .ref aB)]) hx hb dX1_record_46 hl (k := 3) rfl (by rw [et46]; rfl) (by decide) rfl (fun ls hl => ?_)
        have h := st_to h et46
        refine lv_goto (tgt := 4) hx hb dX1_record_49 (by decide) ?_
        exact ih4 B_found B_least B_first t24 t46 ls H locs (lv_sub hl [3, 1, 0] rfl) hP hD hS h
      have h := ifT h q29
      refine lv_aload_n hx hb dX1_record_32 rfl (lv_at hl 2 rfl) ?_
      refine va_get (D := g.1) (ci := 1) (v := .ref aB_first) (C := RX1) (T := TX1) (N := 7) hx hb hts inBX1 hown hK hP 0 rfl rfl 2 (by decide) (hts _ wd1_163) (fun _ h9 => h9) rfl dX1_record_33 ?_
      refine lv_iload_n hx hb dX1_record_36 rfl (lv_at hl 3 rfl) ?_
      refine lv_aload_n hx hb dX1_record_37 rfl (lv_at hl 2 rfl) ?_
      refine va_get (D := g.1) (ci := 1) (v := .ref aA) (C := RX1) (T := TX1) (N := 7) hx hb hts inBX1 hown hK hP 0 rfl rfl 1 (by decide) (hts _ wd1_162) (fun _ h9 => h9) rfl dX1_record_38 ?_
      refine lv_iload_n hx hb dX1_record_41 rfl (lv_at hl 1 rfl) ?_
      obtain ⟨t42, hc42, h⟩ := bd1_to h
      refine go_P (st1 := [.int t42, .int v2, .ref aB_first]) (W1 := (wX1 g aB aB_first aQ aQ_weights aQ_possible aC aC_variables aC_relations aC_numbers aA aA_letters aA_lengths B_left B_right B_found B_least B_first Q_letterSurplus Q_weights Q_possible C_size C_variables C_relations C_numbers A_letters A_lengths)) (run_V (As := [.int t10]) (rest := [.int v2, .ref aB_first]) X hS (mX0_numberOf g l  aA aA_letters aA_lengths A_letters A_lengths t10 t42 hc42) okX0_numberOf wd3_210 ⟨Nat.le_of_ble_eq_true rfl, Nat.le_of_ble_eq_true rfl⟩ ⟨rfl, rfl⟩ (va_recv hK hP (ci := 0) (q0 := 9) rfl rfl) (sub_P hP [9, 10, 11] rfl) (hD.sub [9, 10, 11] (by decide) rfl) (va_free hD hS hA [9, 10, 11] rfl) rfl hl.1 rfl (Nat.le_of_ble_eq_true rfl) dX1_record_42 ⟨Nat.zero_le _, Nat.zero_le _⟩) hS (va_free hD hS hA [9, 10, 11] rfl) hP hD [9, 10, 11] [0, 1, 2, 3, 4, 5, 6, 7, 8] [0, 1, 2, 3, 4, 5, 6, 7, 8, 9, 10, 11] rfl rfl (by decide) (by decide) rfl (by decide) rfl (fun H locs hP hD hS => ?_)
      have hin := sti_in h
      refine va_iast hx hb hK hP hD hS 1 0 rfl rfl hin dX1_record_45 (fun H locs hP hD hS => ?_)
      obtain ⟨B_first_45, eB_first_45⟩ : ∃ y : Nat → Int32, y = upd B_first (Int32.toNatClampNeg v2) t42 := ⟨_, rfl⟩
      have h := sti_to h eB_first_45
      have hP : va_P g.1 vwCl (wX1 g aB aB_first aQ aQ_weights aQ_possible aC aC_variables aC_relations aC_numbers aA aA_letters aA_lengths B_left B_right B_found B_least B_first_45 Q_letterSurplus Q_weights Q_possible C_size C_variables C_relations C_numbers A_letters A_lengths) H := by rw [eB_first_45]; exact hP
      have hD : va_D A (wX1 g aB aB_first aQ aQ_weights aQ_possible aC aC_variables aC_relations aC_numbers aA aA_letters aA_lengths B_left B_right B_found B_least B_first_45 Q_letterSurplus Q_weights Q_possible C_size C_variables C_relations C_numbers A_letters A_lengths) := by rw [eB_first_45]; exact hD
      obtain ⟨t46, et46⟩ : ∃ y : Int32, y = v2 + (1 : Int32) := ⟨_, rfl⟩
      refine lv_iinc (v := t46) (lv' := [(2, .int t46), (1, .int t24), (3, .int t10), (0, .ref aB)]) hx hb dX1_record_46 hl (k := 3) rfl (by rw [et46]; rfl) (by decide) rfl (fun ls hl => ?_)
      have h := st_to h et46
      refine lv_goto (tgt := 4) hx hb dX1_record_49 (by decide) ?_
      exact ih4 B_found B_least B_first_45 t24 t46 ls H locs (lv_sub hl [3, 1, 0] rfl) hP hD hS h
  have hl : lv_has ls 4 [(0, .ref aB)] := hl
  obtain ⟨H, hH⟩ : ∃ H, H = s.heap := ⟨_, rfl⟩
  obtain ⟨locs, hlocs⟩ : ∃ l : List Loc, l = [] := ⟨_, rfl⟩
  rw [show W p l e rmX1_record s m ([.ref aB] : List Value).toArray below meth c s.heap [] 0 0 QQ (F0 m 0 ls []) = W p l e rmX1_record s m ([.ref aB] : List Value).toArray below meth c H locs 0 0 QQ (F0 m 0 ls []) by rw [hH, hlocs]]
  have hP : va_P g.1 vwCl (wX1 g aB aB_first aQ aQ_weights aQ_possible aC aC_variables aC_relations aC_numbers aA aA_letters aA_lengths B_left B_right B_found B_least B_first Q_letterSurplus Q_weights Q_possible C_size C_variables C_relations C_numbers A_letters A_lengths) H := by rw [hH]; exact hP
  have hD : va_D A (wX1 g aB aB_first aQ aQ_weights aQ_possible aC aC_variables aC_relations aC_numbers aA aA_letters aA_lengths B_left B_right B_found B_least B_first Q_letterSurplus Q_weights Q_possible C_size C_variables C_relations C_numbers A_letters A_lengths) := hD
  have hS : va_S A s.heap H locs := by rw [hH, hlocs]; exact hS
  clear hH hlocs
  refine lv_iconst (v := (0 : Int32)) hx hb dX1_record_0 (by decide) ?_
  refine lv_istore_n (lv' := [(1, .int (0 : Int32)), (0, .ref aB)]) hx hb dX1_record_1 rfl hl (by decide) rfl (fun ls hl => ?_)
  refine lv_iconst (v := (0 : Int32)) hx hb dX1_record_2 (by decide) ?_
  refine lv_istore_n (lv' := [(2, .int (0 : Int32)), (1, .int (0 : Int32)), (0, .ref aB)]) hx hb dX1_record_3 rfl hl (by decide) rfl (fun ls hl => ?_)
  exact L4 FU B_found B_least B_first (0 : Int32) (0 : Int32) ls H locs (lv_sub hl [2, 1, 0] rfl) hP hD hS h
set_option maxHeartbeats 4000000 in
set_option maxRecDepth 100000 in
theorem mX6_allows (g : GP) (l : Launch) (aQ aQ_weights aQ_possible aC aC_variables aC_relations aC_numbers : Nat) (Q_letterSurplus : Int32) (Q_weights : Nat → Int32) (Q_possible : Nat → Int32) (C_size : Int32) (C_variables : Nat → Int32) (C_relations : Nat → Int32) (C_numbers : Nat → Int32) (x1 : Int32) (x2 : Int32) (r : Int32) (h : fQ_allows Q_possible x1 x2 = some r) : Ct g l yX6_allows cX6_allows 3 (some .boolean) rmX6_allows [.ref aQ, .int x1, .int x2] (wX6 g aQ aQ_weights aQ_possible aC aC_variables aC_relations aC_numbers Q_letterSurplus Q_weights Q_possible C_size C_variables C_relations C_numbers) (some (.int r)) (wX6 g aQ aQ_weights aQ_possible aC aC_variables aC_relations aC_numbers Q_letterSurplus Q_weights Q_possible C_size C_variables C_relations C_numbers) := by
  refine Ct.introZ (by decide) (Nat.le_of_ble_eq_true rfl) ?_
  intro p e s m below meth c A QQ ls hyp hret
  obtain ⟨hx, hb, hml, hts, hown, hA, hE, hP, hD, hl⟩ := hyp
  have hK := hE.1
  have hS : va_S A s.heap s.heap [] := va_S.rf
  have X : Here g p s m c cX6_allows 3 ([.ref aQ, .int x1, .int x2] : List Value).toArray RX6 A := ⟨⟨hx, hb, hml, hown, hts⟩, hE, hA⟩
  have hl : lv_has ls 3 [(0, .ref aQ), (1, .int x1), (2, .int x2)] := hl
  obtain ⟨H, hH⟩ : ∃ H, H = s.heap := ⟨_, rfl⟩
  obtain ⟨locs, hlocs⟩ : ∃ l : List Loc, l = [] := ⟨_, rfl⟩
  rw [show W p l e rmX6_allows s m ([.ref aQ, .int x1, .int x2] : List Value).toArray below meth c s.heap [] 0 0 QQ (F0 m 0 ls []) = W p l e rmX6_allows s m ([.ref aQ, .int x1, .int x2] : List Value).toArray below meth c H locs 0 0 QQ (F0 m 0 ls []) by rw [hH, hlocs]]
  have hP : va_P g.1 vwCl (wX6 g aQ aQ_weights aQ_possible aC aC_variables aC_relations aC_numbers Q_letterSurplus Q_weights Q_possible C_size C_variables C_relations C_numbers) H := by rw [hH]; exact hP
  have hD : va_D A (wX6 g aQ aQ_weights aQ_possible aC aC_variables aC_relations aC_numbers Q_letterSurplus Q_weights Q_possible C_size C_variables C_relations C_numbers) := hD
  have hS : va_S A s.heap H locs := by rw [hH, hlocs]; exact hS
  clear hH hlocs
  refine lv_iload_n hx hb dX6_allows_0 rfl (lv_at hl 1 rfl) ?_
  obtain ⟨t1, hc1, h⟩ := bd1_to h
  refine go_0 (st1 := [.int t1]) (run_SN (As := [.int x1]) (rest := []) X hS (mX11_isVariable g l  x1 t1 hc1) okX11_isVariable (List.mem_of_getElem? (i := 8) rfl) ⟨Nat.le_of_ble_eq_true rfl, Nat.le_of_ble_eq_true rfl⟩ ⟨rfl, rfl⟩ nil_P nil_D (nil_F hS hA) rfl hl.1 rfl (Nat.le_of_ble_eq_true rfl) dX6_allows_1 ⟨Nat.zero_le _, Nat.zero_le _⟩) hS hA hP rfl (fun H locs hP hS => ?_)
  refine lv_if_eq (tgt := 24) hx hb dX6_allows_4 (by decide) (fun q4 => ?_) (fun q4 => ?_)
  · have h := ifT h q4
    refine lv_iconst (v := (0 : Int32)) hx hb dX6_allows_24 (by decide) ?_
    have h : some (0 : Int32) = some r := h
    cases h
    exact hret _ _ _ _ rfl hP hD hS dX6_allows_25
  have h := ifF h q4
  refine lv_aload_n hx hb dX6_allows_7 rfl (lv_at hl 0 rfl) ?_
  refine va_get (D := g.1) (ci := 6) (v := .ref aQ_possible) (C := RX6) (T := TX6) (N := 4) hx hb hts inBX6 hown hK hP 0 rfl rfl 2 (by decide) (hts _ wd1_142) (fun _ h9 => h9) rfl dX6_allows_8 ?_
  refine lv_iload_n hx hb dX6_allows_11 rfl (lv_at hl 1 rfl) ?_
  have hin := ld_in h
  refine va_iald hx hb hK hP 2 0 rfl rfl hin dX6_allows_12 ?_
  refine lv_topi (fun t12 et12 => ?_)
  have h := ld_to h et12
  refine lv_iload_n hx hb dX6_allows_13 rfl (lv_at hl 2 rfl) ?_
  refine lv_ishr hx hb dX6_allows_14 ?_
  refine lv_iconst (v := (1 : Int32)) hx hb dX6_allows_15 (by decide) ?_
  refine lv_iand hx hb dX6_allows_16 ?_
  refine lv_if_eq (tgt := 24) hx hb dX6_allows_17 (by decide) (fun q17 => ?_) (fun q17 => ?_)
  · have h := ifT h q17
    refine lv_iconst (v := (0 : Int32)) hx hb dX6_allows_24 (by decide) ?_
    have h : some (0 : Int32) = some r := h
    cases h
    exact hret _ _ _ _ rfl hP hD hS dX6_allows_25
  have h := ifF h q17
  refine lv_iconst (v := (1 : Int32)) hx hb dX6_allows_20 (by decide) ?_
  refine lv_goto (tgt := 25) hx hb dX6_allows_21 (by decide) ?_
  have h : some (1 : Int32) = some r := h
  cases h
  exact hret _ _ _ _ rfl hP hD hS dX6_allows_25
set_option maxHeartbeats 4000000 in
set_option maxRecDepth 100000 in
theorem mX6_surplusWith (g : GP) (l : Launch) (aQ aQ_weights aQ_possible aC aC_variables aC_relations aC_numbers : Nat) (Q_letterSurplus : Int32) (Q_weights : Nat → Int32) (Q_possible : Nat → Int32) (C_size : Int32) (C_variables : Nat → Int32) (C_relations : Nat → Int32) (C_numbers : Nat → Int32) (x1 : Int32) (x2 : Int32) (x3 : Int32) (r : Int32) (h : fQ_surplusWith Q_weights x1 x2 x3 = some r) : Ct g l yX6_surplusWith cX6_surplusWith 4 (some .int) rmX6_surplusWith [.ref aQ, .int x1, .int x2, .int x3] (wX6 g aQ aQ_weights aQ_possible aC aC_variables aC_relations aC_numbers Q_letterSurplus Q_weights Q_possible C_size C_variables C_relations C_numbers) (some (.int r)) (wX6 g aQ aQ_weights aQ_possible aC aC_variables aC_relations aC_numbers Q_letterSurplus Q_weights Q_possible C_size C_variables C_relations C_numbers) := by
  refine Ct.introI (by decide) (Nat.le_of_ble_eq_true rfl) ?_
  intro p e s m below meth c A QQ ls hyp hret
  obtain ⟨hx, hb, hml, hts, hown, hA, hE, hP, hD, hl⟩ := hyp
  have hK := hE.1
  have hS : va_S A s.heap s.heap [] := va_S.rf
  have X : Here g p s m c cX6_surplusWith 4 ([.ref aQ, .int x1, .int x2, .int x3] : List Value).toArray RX6 A := ⟨⟨hx, hb, hml, hown, hts⟩, hE, hA⟩
  have hl : lv_has ls 4 [(0, .ref aQ), (1, .int x1), (2, .int x2), (3, .int x3)] := hl
  obtain ⟨H, hH⟩ : ∃ H, H = s.heap := ⟨_, rfl⟩
  obtain ⟨locs, hlocs⟩ : ∃ l : List Loc, l = [] := ⟨_, rfl⟩
  rw [show W p l e rmX6_surplusWith s m ([.ref aQ, .int x1, .int x2, .int x3] : List Value).toArray below meth c s.heap [] 0 0 QQ (F0 m 0 ls []) = W p l e rmX6_surplusWith s m ([.ref aQ, .int x1, .int x2, .int x3] : List Value).toArray below meth c H locs 0 0 QQ (F0 m 0 ls []) by rw [hH, hlocs]]
  have hP : va_P g.1 vwCl (wX6 g aQ aQ_weights aQ_possible aC aC_variables aC_relations aC_numbers Q_letterSurplus Q_weights Q_possible C_size C_variables C_relations C_numbers) H := by rw [hH]; exact hP
  have hD : va_D A (wX6 g aQ aQ_weights aQ_possible aC aC_variables aC_relations aC_numbers Q_letterSurplus Q_weights Q_possible C_size C_variables C_relations C_numbers) := hD
  have hS : va_S A s.heap H locs := by rw [hH, hlocs]; exact hS
  clear hH hlocs
  refine lv_iload_n hx hb dX6_surplusWith_0 rfl (lv_at hl 1 rfl) ?_
  obtain ⟨t1, hc1, h⟩ := bd1_to h
  refine go_0 (st1 := [.int t1]) (run_SN (As := [.int x1]) (rest := []) X hS (mX11_isVariable g l  x1 t1 hc1) okX11_isVariable (List.mem_of_getElem? (i := 8) rfl) ⟨Nat.le_of_ble_eq_true rfl, Nat.le_of_ble_eq_true rfl⟩ ⟨rfl, rfl⟩ nil_P nil_D (nil_F hS hA) rfl hl.1 rfl (Nat.le_of_ble_eq_true rfl) dX6_surplusWith_1 ⟨Nat.zero_le _, Nat.zero_le _⟩) hS hA hP rfl (fun H locs hP hS => ?_)
  refine lv_if_eq (tgt := 20) hx hb dX6_surplusWith_4 (by decide) (fun q4 => ?_) (fun q4 => ?_)
  · have h := ifT h q4
    refine lv_iload_n hx hb dX6_surplusWith_20 rfl (lv_at hl 3 rfl) ?_
    have h : some x3 = some r := h
    cases h
    exact hret _ _ _ _ hP hD hS dX6_surplusWith_21
  have h := ifF h q4
  refine lv_iload_n hx hb dX6_surplusWith_7 rfl (lv_at hl 3 rfl) ?_
  refine lv_aload_n hx hb dX6_surplusWith_8 rfl (lv_at hl 0 rfl) ?_
  refine va_get (D := g.1) (ci := 6) (v := .ref aQ_weights) (C := RX6) (T := TX6) (N := 4) hx hb hts inBX6 hown hK hP 0 rfl rfl 1 (by decide) (hts _ wd1_141) (fun _ h9 => h9) rfl dX6_surplusWith_9 ?_
  refine lv_iload_n hx hb dX6_surplusWith_12 rfl (lv_at hl 1 rfl) ?_
  have hin := ld_in h
  refine va_iald hx hb hK hP 1 0 rfl rfl hin dX6_surplusWith_13 ?_
  refine lv_topi (fun t13 et13 => ?_)
  have h := ld_to h et13
  refine lv_iload_n hx hb dX6_surplusWith_14 rfl (lv_at hl 2 rfl) ?_
  refine lv_imul hx hb dX6_surplusWith_15 ?_
  refine lv_iadd hx hb dX6_surplusWith_16 ?_
  refine lv_goto (tgt := 21) hx hb dX6_surplusWith_17 (by decide) ?_
  have h : some (x3 + (t13 * x2)) = some r := h
  cases h
  exact hret _ _ _ _ hP hD hS dX6_surplusWith_21
set_option maxHeartbeats 4000000 in
set_option maxRecDepth 100000 in
theorem mX6_waysFrom_s (g : GP) (l : Launch) (kw : (Nat → Int32) → (Nat → Int32) → Int32 → Int32 → Option (Int32)) (d : Nat) (hkw : ∀ (g : GP) (l : Launch) (aQ aQ_weights aQ_possible aC aC_variables aC_relations aC_numbers : Nat) (Q_letterSurplus : Int32) (Q_weights : Nat → Int32) (Q_possible : Nat → Int32) (C_size : Int32) (C_variables : Nat → Int32) (C_relations : Nat → Int32) (C_numbers : Nat → Int32) (x1 : Int32) (x2 : Int32) (r : Int32), kw Q_weights Q_possible x1 x2 = some r → Ct g l yX6_waysFrom cX6_waysFrom 5 (some .int) (rmX6_waysFrom d) [.ref aQ, .int x1, .int x2] (wX6 g aQ aQ_weights aQ_possible aC aC_variables aC_relations aC_numbers Q_letterSurplus Q_weights Q_possible C_size C_variables C_relations C_numbers) (some (.int r)) (wX6 g aQ aQ_weights aQ_possible aC aC_variables aC_relations aC_numbers Q_letterSurplus Q_weights Q_possible C_size C_variables C_relations C_numbers)) (aQ aQ_weights aQ_possible aC aC_variables aC_relations aC_numbers : Nat) (Q_letterSurplus : Int32) (Q_weights : Nat → Int32) (Q_possible : Nat → Int32) (C_size : Int32) (C_variables : Nat → Int32) (C_relations : Nat → Int32) (C_numbers : Nat → Int32) (x1 : Int32) (x2 : Int32) (r : Int32) (h : fQ_waysFrom_b kw Q_weights Q_possible x1 x2 = some r) : Ct g l yX6_waysFrom cX6_waysFrom 5 (some .int) (rmX6_waysFrom (d + 1)) [.ref aQ, .int x1, .int x2] (wX6 g aQ aQ_weights aQ_possible aC aC_variables aC_relations aC_numbers Q_letterSurplus Q_weights Q_possible C_size C_variables C_relations C_numbers) (some (.int r)) (wX6 g aQ aQ_weights aQ_possible aC aC_variables aC_relations aC_numbers Q_letterSurplus Q_weights Q_possible C_size C_variables C_relations C_numbers) := by
  refine Ct.introI (by decide) (Nat.le_of_ble_eq_true rfl) ?_
  intro p e s m below meth c A QQ ls hyp hret
  obtain ⟨hx, hb, hml, hts, hown, hA, hE, hP, hD, hl⟩ := hyp
  have hK := hE.1
  have hS : va_S A s.heap s.heap [] := va_S.rf
  have X : Here g p s m c cX6_waysFrom 5 ([.ref aQ, .int x1, .int x2] : List Value).toArray RX6 A := ⟨⟨hx, hb, hml, hown, hts⟩, hE, hA⟩
  have B9 : ∀  (ls : Array Slot) (H : Heap) (locs : List Loc), lv_has ls 5 [(2, .int x2)] → va_P g.1 vwCl (wX6 g aQ aQ_weights aQ_possible aC aC_variables aC_relations aC_numbers Q_letterSurplus Q_weights Q_possible C_size C_variables C_relations C_numbers) H → va_D A (wX6 g aQ aQ_weights aQ_possible aC aC_variables aC_relations aC_numbers Q_letterSurplus Q_weights Q_possible C_size C_variables C_relations C_numbers) → va_S A s.heap H locs → fQ_waysFrom_9 kw x2 = some r → W p l e (rmX6_waysFrom (d + 1)) s m ([.ref aQ, .int x1, .int x2] : List Value).toArray below meth c H locs 0 0 QQ (F0 m 9 ls []) := by
    intro ls H locs hl hP hD hS h
    refine lv_iload_n hx hb dX6_waysFrom_9 rfl (lv_at hl 0 rfl) ?_
    refine lv_if_ne (tgt := 17) hx hb dX6_waysFrom_10 (by decide) (fun q10 => ?_) (fun q10 => ?_)
    · have h := ifF h q10
      refine lv_iconst (v := (0 : Int32)) hx hb dX6_waysFrom_17 (by decide) ?_
      have h : some (0 : Int32) = some r := h
      cases h
      exact hret _ _ _ _ hP hD hS dX6_waysFrom_18
    have h := ifT h q10
    refine lv_iconst (v := (1 : Int32)) hx hb dX6_waysFrom_13 (by decide) ?_
    refine lv_goto (tgt := 18) hx hb dX6_waysFrom_14 (by decide) ?_
    have h : some (1 : Int32) = some r := h
    cases h
    exact hret _ _ _ _ hP hD hS dX6_waysFrom_18
  have L24 : ∀ (n24 : Nat), ∀ (v3 : Int32) (v4 : Int32) (ls : Array Slot) (H : Heap) (locs : List Loc), lv_has ls 5 [(0, .ref aQ), (1, .int x1), (2, .int x2), (3, .int v3), (4, .int v4)] → va_P g.1 vwCl (wX6 g aQ aQ_weights aQ_possible aC aC_variables aC_relations aC_numbers Q_letterSurplus Q_weights Q_possible C_size C_variables C_relations C_numbers) H → va_D A (wX6 g aQ aQ_weights aQ_possible aC aC_variables aC_relations aC_numbers Q_letterSurplus Q_weights Q_possible C_size C_variables C_relations C_numbers) → va_S A s.heap H locs → fx2 (fQ_waysFrom_24 kw Q_weights Q_possible x1 x2) n24 v3 v4 = some r → W p l e (rmX6_waysFrom (d + 1)) s m ([.ref aQ, .int x1, .int x2] : List Value).toArray below meth c H locs 0 0 QQ (F0 m 24 ls []) := by
    intro n24
    induction n24 with
    | zero => intro v3 v4 ls H locs hl hP hD hS h; exact fx2_0 h
    | succ n24 ih24 =>
      intro v3 v4 ls H locs hl hP hD hS h
      have h := (fx2_s (fQ_waysFrom_24 kw Q_weights Q_possible x1 x2) n24 v3 v4).symm.trans h
      refine lv_iload hx hb dX6_waysFrom_24 (lv_at hl 4 rfl) ?_
      refine lv_bipush (v := (9 : Int32)) hx hb dX6_waysFrom_26 (by decide) ?_
      refine lv_icmp_gt (tgt := 72) hx hb dX6_waysFrom_28 (by decide) (fun q28 => ?_) (fun q28 => ?_)
      · have h := ifT h q28
        refine lv_iload_n hx hb dX6_waysFrom_72 rfl (lv_at hl 3 rfl) ?_
        have h : some v3 = some r := h
        cases h
        exact hret _ _ _ _ hP hD hS dX6_waysFrom_73
      have h := ifF h q28
      refine lv_aload_n hx hb dX6_waysFrom_31 rfl (lv_at hl 0 rfl) ?_
      refine va_get (D := g.1) (ci := 6) (v := .ref aQ_possible) (C := RX6) (T := TX6) (N := 4) hx hb hts inBX6 hown hK hP 0 rfl rfl 2 (by decide) (hts _ wd1_142) (fun _ h9 => h9) rfl dX6_waysFrom_32 ?_
      refine lv_iload_n hx hb dX6_waysFrom_35 rfl (lv_at hl 1 rfl) ?_
      have hin := ld_in h
      refine va_iald hx hb hK hP 2 0 rfl rfl hin dX6_waysFrom_36 ?_
      refine lv_topi (fun t36 et36 => ?_)
      have h := ld_to h et36
      refine lv_iload hx hb dX6_waysFrom_37 (lv_at hl 4 rfl) ?_
      refine lv_ishr hx hb dX6_waysFrom_39 ?_
      refine lv_iconst (v := (1 : Int32)) hx hb dX6_waysFrom_40 (by decide) ?_
      refine lv_iand hx hb dX6_waysFrom_41 ?_
      refine lv_if_eq (tgt := 66) hx hb dX6_waysFrom_42 (by decide) (fun q42 => ?_) (fun q42 => ?_)
      · have h := ifT h q42
        obtain ⟨t66, et66⟩ : ∃ y : Int32, y = v4 + (1 : Int32) := ⟨_, rfl⟩
        refine lv_iinc (v := t66) (lv' := [(4, .int t66), (0, .ref aQ), (1, .int x1), (2, .int x2), (3, .int v3)]) hx hb dX6_waysFrom_66 hl (k := 4) rfl (by rw [et66]; rfl) (by decide) rfl (fun ls hl => ?_)
        have h := st_to h et66
        refine lv_goto (tgt := 24) hx hb dX6_waysFrom_69 (by decide) ?_
        exact ih24 v3 t66 ls H locs (lv_sub hl [1, 2, 3, 4, 0] rfl) hP hD hS h
      have h := ifF h q42
      refine lv_iload_n hx hb dX6_waysFrom_45 rfl (lv_at hl 3 rfl) ?_
      refine lv_aload_n hx hb dX6_waysFrom_46 rfl (lv_at hl 0 rfl) ?_
      refine lv_iload_n hx hb dX6_waysFrom_47 rfl (lv_at hl 1 rfl) ?_
      refine lv_iconst (v := (1 : Int32)) hx hb dX6_waysFrom_48 (by decide) ?_
      refine lv_iadd hx hb dX6_waysFrom_49 ?_
      refine lv_iload_n hx hb dX6_waysFrom_50 rfl (lv_at hl 2 rfl) ?_
      refine lv_aload_n hx hb dX6_waysFrom_51 rfl (lv_at hl 0 rfl) ?_
      refine va_get (D := g.1) (ci := 6) (v := .ref aQ_weights) (C := RX6) (T := TX6) (N := 4) hx hb hts inBX6 hown hK hP 0 rfl rfl 1 (by decide) (hts _ wd1_141) (fun _ h9 => h9) rfl dX6_waysFrom_52 ?_
      refine lv_iload_n hx hb dX6_waysFrom_55 rfl (lv_at hl 1 rfl) ?_
      have hin := ld_in h
      refine va_iald hx hb hK hP 1 0 rfl rfl hin dX6_waysFrom_56 ?_
      refine lv_topi (fun t56 et56 => ?_)
      have h := ld_to h et56
      refine lv_iload hx hb dX6_waysFrom_57 (lv_at hl 4 rfl) ?_
      refine lv_imul hx hb dX6_waysFrom_59 ?_
      refine lv_iadd hx hb dX6_waysFrom_60 ?_
      obtain ⟨t61, hc61, h⟩ := bd1_to h
      refine go_A (st1 := [.int t61, .int v3]) (run_V (As := [.int (x1 + (1 : Int32)), .int (x2 + (t56 * v4))]) (rest := [.int v3]) X hS (hkw g l  aQ aQ_weights aQ_possible aC aC_variables aC_relations aC_numbers Q_letterSurplus Q_weights Q_possible C_size C_variables C_relations C_numbers (x1 + (1 : Int32)) (x2 + (t56 * v4)) t61 hc61) okX6_waysFrom wd3_232 ⟨by dsimp only [rmX6_waysFrom]; omega, by dsimp only [rmX6_waysFrom]; omega⟩ ⟨rfl, rfl⟩ (va_recv hK hP (ci := 6) (q0 := 0) rfl rfl) hP hD (all_F hS hA hD) rfl hl.1 rfl (Nat.le_of_ble_eq_true rfl) dX6_waysFrom_61 ⟨Nat.zero_le _, Nat.zero_le _⟩) hS (all_F hS hA hD) rfl (fun H locs hP hD hS => ?_)
      refine lv_iadd hx hb dX6_waysFrom_64 ?_
      refine lv_topi (fun t65 et65 => ?_)
      have h := st_to h et65
      refine lv_istore_n (lv' := [(3, .int t65), (0, .ref aQ), (1, .int x1), (2, .int x2), (4, .int v4)]) hx hb dX6_waysFrom_65 rfl hl (by decide) rfl (fun ls hl => ?_)
      obtain ⟨t66, et66⟩ : ∃ y : Int32, y = v4 + (1 : Int32) := ⟨_, rfl⟩
      refine lv_iinc (v := t66) (lv' := [(4, .int t66), (3, .int t65), (0, .ref aQ), (1, .int x1), (2, .int x2)]) hx hb dX6_waysFrom_66 hl (k := 4) rfl (by rw [et66]; rfl) (by decide) rfl (fun ls hl => ?_)
      have h := st_to h et66
      refine lv_goto (tgt := 24) hx hb dX6_waysFrom_69 (by decide) ?_
      exact ih24 t65 t66 ls H locs (lv_sub hl [2, 3, 4, 1, 0] rfl) hP hD hS h
  have hl : lv_has ls 5 [(0, .ref aQ), (1, .int x1), (2, .int x2)] := hl
  obtain ⟨H, hH⟩ : ∃ H, H = s.heap := ⟨_, rfl⟩
  obtain ⟨locs, hlocs⟩ : ∃ l : List Loc, l = [] := ⟨_, rfl⟩
  rw [show W p l e (rmX6_waysFrom (d + 1)) s m ([.ref aQ, .int x1, .int x2] : List Value).toArray below meth c s.heap [] 0 0 QQ (F0 m 0 ls []) = W p l e (rmX6_waysFrom (d + 1)) s m ([.ref aQ, .int x1, .int x2] : List Value).toArray below meth c H locs 0 0 QQ (F0 m 0 ls []) by rw [hH, hlocs]]
  have hP : va_P g.1 vwCl (wX6 g aQ aQ_weights aQ_possible aC aC_variables aC_relations aC_numbers Q_letterSurplus Q_weights Q_possible C_size C_variables C_relations C_numbers) H := by rw [hH]; exact hP
  have hD : va_D A (wX6 g aQ aQ_weights aQ_possible aC aC_variables aC_relations aC_numbers Q_letterSurplus Q_weights Q_possible C_size C_variables C_relations C_numbers) := hD
  have hS : va_S A s.heap H locs := by rw [hH, hlocs]; exact hS
  clear hH hlocs
  refine lv_iload_n hx hb dX6_waysFrom_0 rfl (lv_at hl 1 rfl) ?_
  refine lv_if_lt (tgt := 9) hx hb dX6_waysFrom_1 (by decide) (fun q1 => ?_) (fun q1 => ?_)
  · have h := ifT h q1
    exact B9  ls H locs (lv_sub hl [2] rfl) hP hD hS h
  have h := ifF h q1
  refine lv_iload_n hx hb dX6_waysFrom_4 rfl (lv_at hl 1 rfl) ?_
  refine lv_iconst (v := (4 : Int32)) hx hb dX6_waysFrom_5 (by decide) ?_
  refine lv_icmp_lt (tgt := 19) hx hb dX6_waysFrom_6 (by decide) (fun q6 => ?_) (fun q6 => ?_)
  · have h := ifT h q6
    refine lv_iconst (v := (0 : Int32)) hx hb dX6_waysFrom_19 (by decide) ?_
    refine lv_istore_n (lv' := [(3, .int (0 : Int32)), (0, .ref aQ), (1, .int x1), (2, .int x2)]) hx hb dX6_waysFrom_20 rfl hl (by decide) rfl (fun ls hl => ?_)
    refine lv_iconst (v := (0 : Int32)) hx hb dX6_waysFrom_21 (by decide) ?_
    refine lv_istore (lv' := [(4, .int (0 : Int32)), (3, .int (0 : Int32)), (0, .ref aQ), (1, .int x1), (2, .int x2)]) hx hb dX6_waysFrom_22 hl (by decide) rfl (fun ls hl => ?_)
    exact L24 FU (0 : Int32) (0 : Int32) ls H locs (lv_sub hl [2, 3, 4, 1, 0] rfl) hP hD hS h
  have h := ifF h q6
  exact B9  ls H locs (lv_sub hl [2] rfl) hP hD hS h
theorem mX6_waysFrom_d : ∀ d : Nat, ∀ (g : GP) (l : Launch) (aQ aQ_weights aQ_possible aC aC_variables aC_relations aC_numbers : Nat) (Q_letterSurplus : Int32) (Q_weights : Nat → Int32) (Q_possible : Nat → Int32) (C_size : Int32) (C_variables : Nat → Int32) (C_relations : Nat → Int32) (C_numbers : Nat → Int32) (x1 : Int32) (x2 : Int32) (r : Int32), fx4 fQ_waysFrom_b d Q_weights Q_possible x1 x2 = some r → Ct g l yX6_waysFrom cX6_waysFrom 5 (some .int) (rmX6_waysFrom d) [.ref aQ, .int x1, .int x2] (wX6 g aQ aQ_weights aQ_possible aC aC_variables aC_relations aC_numbers Q_letterSurplus Q_weights Q_possible C_size C_variables C_relations C_numbers) (some (.int r)) (wX6 g aQ aQ_weights aQ_possible aC aC_variables aC_relations aC_numbers Q_letterSurplus Q_weights Q_possible C_size C_variables C_relations C_numbers) := by
  intro d
  induction d with
  | zero => intro g l aQ aQ_weights aQ_possible aC aC_variables aC_relations aC_numbers Q_letterSurplus Q_weights Q_possible C_size C_variables C_relations C_numbers x1 x2 r h; exact fx4_0 h
  | succ d ih => intro g l aQ aQ_weights aQ_possible aC aC_variables aC_relations aC_numbers Q_letterSurplus Q_weights Q_possible C_size C_variables C_relations C_numbers x1 x2 r h; exact mX6_waysFrom_s g l (fx4 fQ_waysFrom_b d) d ih aQ aQ_weights aQ_possible aC aC_variables aC_relations aC_numbers Q_letterSurplus Q_weights Q_possible C_size C_variables C_relations C_numbers x1 x2 r h
theorem mX6_waysFrom (g : GP) (l : Launch) (aQ aQ_weights aQ_possible aC aC_variables aC_relations aC_numbers : Nat) (Q_letterSurplus : Int32) (Q_weights : Nat → Int32) (Q_possible : Nat → Int32) (C_size : Int32) (C_variables : Nat → Int32) (C_relations : Nat → Int32) (C_numbers : Nat → Int32) (x1 : Int32) (x2 : Int32) (r : Int32) (h : fQ_waysFrom Q_weights Q_possible x1 x2 = some r) : Ct g l yX6_waysFrom cX6_waysFrom 5 (some .int) (rmX6_waysFrom 8) [.ref aQ, .int x1, .int x2] (wX6 g aQ aQ_weights aQ_possible aC aC_variables aC_relations aC_numbers Q_letterSurplus Q_weights Q_possible C_size C_variables C_relations C_numbers) (some (.int r)) (wX6 g aQ aQ_weights aQ_possible aC aC_variables aC_relations aC_numbers Q_letterSurplus Q_weights Q_possible C_size C_variables C_relations C_numbers) := mX6_waysFrom_d 8 g l aQ aQ_weights aQ_possible aC aC_variables aC_relations aC_numbers Q_letterSurplus Q_weights Q_possible C_size C_variables C_relations C_numbers x1 x2 r h
set_option maxHeartbeats 4000000 in
set_option maxRecDepth 100000 in
theorem mX6_canBalance (g : GP) (l : Launch) (aQ aQ_weights aQ_possible aC aC_variables aC_relations aC_numbers : Nat) (Q_letterSurplus : Int32) (Q_weights : Nat → Int32) (Q_possible : Nat → Int32) (C_size : Int32) (C_variables : Nat → Int32) (C_relations : Nat → Int32) (C_numbers : Nat → Int32) (x1 : Int32) (x2 : Int32) (r : Int32) (h : fQ_canBalance Q_weights Q_possible x1 x2 = some r) : Ct g l yX6_canBalance cX6_canBalance 3 (some .boolean) rmX6_canBalance [.ref aQ, .int x1, .int x2] (wX6 g aQ aQ_weights aQ_possible aC aC_variables aC_relations aC_numbers Q_letterSurplus Q_weights Q_possible C_size C_variables C_relations C_numbers) (some (.int r)) (wX6 g aQ aQ_weights aQ_possible aC aC_variables aC_relations aC_numbers Q_letterSurplus Q_weights Q_possible C_size C_variables C_relations C_numbers) := by
  refine Ct.introZ (by decide) (Nat.le_of_ble_eq_true rfl) ?_
  intro p e s m below meth c A QQ ls hyp hret
  obtain ⟨hx, hb, hml, hts, hown, hA, hE, hP, hD, hl⟩ := hyp
  have hK := hE.1
  have hS : va_S A s.heap s.heap [] := va_S.rf
  have X : Here g p s m c cX6_canBalance 3 ([.ref aQ, .int x1, .int x2] : List Value).toArray RX6 A := ⟨⟨hx, hb, hml, hown, hts⟩, hE, hA⟩
  have hl : lv_has ls 3 [(0, .ref aQ), (1, .int x1), (2, .int x2)] := hl
  obtain ⟨H, hH⟩ : ∃ H, H = s.heap := ⟨_, rfl⟩
  obtain ⟨locs, hlocs⟩ : ∃ l : List Loc, l = [] := ⟨_, rfl⟩
  rw [show W p l e rmX6_canBalance s m ([.ref aQ, .int x1, .int x2] : List Value).toArray below meth c s.heap [] 0 0 QQ (F0 m 0 ls []) = W p l e rmX6_canBalance s m ([.ref aQ, .int x1, .int x2] : List Value).toArray below meth c H locs 0 0 QQ (F0 m 0 ls []) by rw [hH, hlocs]]
  have hP : va_P g.1 vwCl (wX6 g aQ aQ_weights aQ_possible aC aC_variables aC_relations aC_numbers Q_letterSurplus Q_weights Q_possible C_size C_variables C_relations C_numbers) H := by rw [hH]; exact hP
  have hD : va_D A (wX6 g aQ aQ_weights aQ_possible aC aC_variables aC_relations aC_numbers Q_letterSurplus Q_weights Q_possible C_size C_variables C_relations C_numbers) := hD
  have hS : va_S A s.heap H locs := by rw [hH, hlocs]; exact hS
  clear hH hlocs
  refine lv_aload_n hx hb dX6_canBalance_0 rfl (lv_at hl 0 rfl) ?_
  refine lv_iload_n hx hb dX6_canBalance_1 rfl (lv_at hl 1 rfl) ?_
  refine lv_iload_n hx hb dX6_canBalance_2 rfl (lv_at hl 2 rfl) ?_
  obtain ⟨t3, hc3, h⟩ := bd1_to h
  refine go_A (st1 := [.int t3]) (run_V (As := [.int x1, .int x2]) (rest := []) X hS (mX6_waysFrom g l  aQ aQ_weights aQ_possible aC aC_variables aC_relations aC_numbers Q_letterSurplus Q_weights Q_possible C_size C_variables C_relations C_numbers x1 x2 t3 hc3) okX6_waysFrom wd3_232 ⟨Nat.le_of_ble_eq_true rfl, Nat.le_of_ble_eq_true rfl⟩ ⟨rfl, rfl⟩ (va_recv hK hP (ci := 6) (q0 := 0) rfl rfl) hP hD (all_F hS hA hD) rfl hl.1 rfl (Nat.le_of_ble_eq_true rfl) dX6_canBalance_3 ⟨Nat.zero_le _, Nat.zero_le _⟩) hS (all_F hS hA hD) rfl (fun H locs hP hD hS => ?_)
  refine lv_if_le (tgt := 13) hx hb dX6_canBalance_6 (by decide) (fun q6 => ?_) (fun q6 => ?_)
  · have h := ifT h q6
    refine lv_iconst (v := (0 : Int32)) hx hb dX6_canBalance_13 (by decide) ?_
    have h : some (0 : Int32) = some r := h
    cases h
    exact hret _ _ _ _ rfl hP hD hS dX6_canBalance_14
  have h := ifF h q6
  refine lv_iconst (v := (1 : Int32)) hx hb dX6_canBalance_9 (by decide) ?_
  refine lv_goto (tgt := 14) hx hb dX6_canBalance_10 (by decide) ?_
  have h : some (1 : Int32) = some r := h
  cases h
  exact hret _ _ _ _ rfl hP hD hS dX6_canBalance_14
set_option maxHeartbeats 4000000 in
set_option maxRecDepth 100000 in
theorem mX1_chooseLetters (g : GP) (l : Launch) (kw : Int64 → Int64 → Int32 → Int32 → (Nat → Int32) → (Nat → Int32) → (Nat → Int32) → (Nat → Int64) → (Nat → Int32) → Int32 → Int32 → Option (Int32 × Int32 × (Nat → Int32) × (Nat → Int64) × (Nat → Int32))) (d : Nat) (hkw : ∀ (g : GP) (l : Launch) (aB aB_first aQ aQ_weights aQ_possible aC aC_variables aC_relations aC_numbers aA aA_letters aA_lengths : Nat) (B_left : Int64) (B_right : Int64) (B_found : Int32) (B_least : Int32) (B_first : Nat → Int32) (Q_letterSurplus : Int32) (Q_weights : Nat → Int32) (Q_possible : Nat → Int32) (C_size : Int32) (C_variables : Nat → Int32) (C_relations : Nat → Int32) (C_numbers : Nat → Int32) (A_letters : Nat → Int64) (A_lengths : Nat → Int32) (x1 : Int32) (x2 : Int32) (B_found_o : Int32) (B_least_o : Int32) (B_first_o : Nat → Int32) (A_letters_o : Nat → Int64) (A_lengths_o : Nat → Int32), kw B_left B_right B_found B_least B_first Q_weights Q_possible A_letters A_lengths x1 x2 = some (B_found_o, B_least_o, B_first_o, A_letters_o, A_lengths_o) → Ct g l yX1_chooseWord cX1_chooseWord 4 none (rmX1_chooseWord d) [.ref aB, .int x1, .int x2] (wX1 g aB aB_first aQ aQ_weights aQ_possible aC aC_variables aC_relations aC_numbers aA aA_letters aA_lengths B_left B_right B_found B_least B_first Q_letterSurplus Q_weights Q_possible C_size C_variables C_relations C_numbers A_letters A_lengths) none (wX1 g aB aB_first aQ aQ_weights aQ_possible aC aC_variables aC_relations aC_numbers aA aA_letters aA_lengths B_left B_right B_found_o B_least_o B_first_o Q_letterSurplus Q_weights Q_possible C_size C_variables C_relations C_numbers A_letters_o A_lengths_o)) (aB aB_first aQ aQ_weights aQ_possible aC aC_variables aC_relations aC_numbers aA aA_letters aA_lengths : Nat) (B_left : Int64) (B_right : Int64) (B_found : Int32) (B_least : Int32) (B_first : Nat → Int32) (Q_letterSurplus : Int32) (Q_weights : Nat → Int32) (Q_possible : Nat → Int32) (C_size : Int32) (C_variables : Nat → Int32) (C_relations : Nat → Int32) (C_numbers : Nat → Int32) (A_letters : Nat → Int64) (A_lengths : Nat → Int32) (x1 : Int32) (x2 : Int32) (x3 : Int32) (B_found_o : Int32) (B_least_o : Int32) (B_first_o : Nat → Int32) (A_letters_o : Nat → Int64) (A_lengths_o : Nat → Int32) (h : fB_chooseLetters_b kw B_left B_right B_found B_least B_first Q_weights Q_possible A_letters A_lengths x1 x2 x3 = some (B_found_o, B_least_o, B_first_o, A_letters_o, A_lengths_o)) : Ct g l yX1_chooseLetters cX1_chooseLetters 5 none (rmX1_chooseLetters d) [.ref aB, .int x1, .int x2, .int x3] (wX1 g aB aB_first aQ aQ_weights aQ_possible aC aC_variables aC_relations aC_numbers aA aA_letters aA_lengths B_left B_right B_found B_least B_first Q_letterSurplus Q_weights Q_possible C_size C_variables C_relations C_numbers A_letters A_lengths) none (wX1 g aB aB_first aQ aQ_weights aQ_possible aC aC_variables aC_relations aC_numbers aA aA_letters aA_lengths B_left B_right B_found_o B_least_o B_first_o Q_letterSurplus Q_weights Q_possible C_size C_variables C_relations C_numbers A_letters_o A_lengths_o) := by
  refine Ct.introV (by decide) (Nat.le_of_ble_eq_true rfl) ?_
  intro p e s m below meth c A QQ ls hyp hret
  obtain ⟨hx, hb, hml, hts, hown, hA, hE, hP, hD, hl⟩ := hyp
  have hK := hE.1
  have hS : va_S A s.heap s.heap [] := va_S.rf
  have X : Here g p s m c cX1_chooseLetters 5 ([.ref aB, .int x1, .int x2, .int x3] : List Value).toArray RX1 A := ⟨⟨hx, hb, hml, hown, hts⟩, hE, hA⟩
  have L18 : ∀ (n18 : Nat), ∀ (B_found : Int32) (B_least : Int32) (B_first : Nat → Int32) (A_letters : Nat → Int64) (A_lengths : Nat → Int32) (v4 : Int32) (ls : Array Slot) (H : Heap) (locs : List Loc), lv_has ls 5 [(0, .ref aB), (1, .int x1), (2, .int x2), (3, .int x3), (4, .int v4)] → va_P g.1 vwCl (wX1 g aB aB_first aQ aQ_weights aQ_possible aC aC_variables aC_relations aC_numbers aA aA_letters aA_lengths B_left B_right B_found B_least B_first Q_letterSurplus Q_weights Q_possible C_size C_variables C_relations C_numbers A_letters A_lengths) H → va_D A (wX1 g aB aB_first aQ aQ_weights aQ_possible aC aC_variables aC_relations aC_numbers aA aA_letters aA_lengths B_left B_right B_found B_least B_first Q_letterSurplus Q_weights Q_possible C_size C_variables C_relations C_numbers A_letters A_lengths) → va_S A s.heap H locs → fx6 (fB_chooseLetters_18 kw B_left B_right Q_weights Q_possible x1 x2 x3) n18 B_found B_least B_first A_letters A_lengths v4 = some (B_found_o, B_least_o, B_first_o, A_letters_o, A_lengths_o) → W p l e (rmX1_chooseLetters d) s m ([.ref aB, .int x1, .int x2, .int x3] : List Value).toArray below meth c H locs 0 0 QQ (F0 m 18 ls []) := by
    intro n18
    induction n18 with
    | zero => intro B_found B_least B_first A_letters A_lengths v4 ls H locs hl hP hD hS h; exact fx6_0 h
    | succ n18 ih18 =>
      intro B_found B_least B_first A_letters A_lengths v4 ls H locs hl hP hD hS h
      have h := (fx6_s (fB_chooseLetters_18 kw B_left B_right Q_weights Q_possible x1 x2 x3) n18 B_found B_least B_first A_letters A_lengths v4).symm.trans h
      refine lv_iload hx hb dX1_chooseLetters_18 (lv_at hl 4 rfl) ?_
      refine lv_iconst (v := (1 : Int32)) hx hb dX1_chooseLetters_20 (by decide) ?_
      refine lv_iload_n hx hb dX1_chooseLetters_21 rfl (lv_at hl 2 rfl) ?_
      refine lv_ishl hx hb dX1_chooseLetters_22 ?_
      refine lv_icmp_ge (tgt := 55) hx hb dX1_chooseLetters_23 (by decide) (fun q23 => ?_) (fun q23 => ?_)
      · have h := ifT h q23
        have h : some (B_found, B_least, B_first, A_letters, A_lengths) = some (B_found_o, B_least_o, B_first_o, A_letters_o, A_lengths_o) := h
        cases h
        exact hret _ _ _ _ hP hD hS dX1_chooseLetters_55
      have h := ifF h q23
      refine lv_aload_n hx hb dX1_chooseLetters_26 rfl (lv_at hl 0 rfl) ?_
      refine va_get (D := g.1) (ci := 1) (v := .ref aA) (C := RX1) (T := TX1) (N := 7) hx hb hts inBX1 hown hK hP 0 rfl rfl 1 (by decide) (hts _ wd1_162) (fun _ h9 => h9) rfl dX1_chooseLetters_27 ?_
      refine lv_iload_n hx hb dX1_chooseLetters_30 rfl (lv_at hl 1 rfl) ?_
      obtain ⟨t31, hc31, h⟩ := bd1_to h
      refine go_0 (st1 := [.int t31, .ref aA]) (run_S (As := [.int x1]) (rest := [.ref aA]) X hS (mX9_variable g l  x1 t31 hc31) okX9_variable wd3_208 ⟨by dsimp only [rmX1_chooseLetters, rmX1_chooseWord, rmX6_waysFrom, rmX9_variable]; omega, by dsimp only [rmX1_chooseLetters, rmX1_chooseWord, rmX6_waysFrom, rmX9_variable]; omega⟩ ⟨rfl, rfl⟩ nil_P nil_D (nil_F hS hA) rfl hl.1 rfl (Nat.le_of_ble_eq_true rfl) dX1_chooseLetters_31 ⟨Nat.zero_le _, Nat.zero_le _⟩) hS hA hP rfl (fun H locs hP hS => ?_)
      refine lv_iload hx hb dX1_chooseLetters_34 (lv_at hl 4 rfl) ?_
      refine lv_i2l (v := (Int32.toInt64 v4)) hx hb dX1_chooseLetters_36 rfl ?_
      refine lv_iload_n hx hb dX1_chooseLetters_37 rfl (lv_at hl 2 rfl) ?_
      obtain ⟨A_letters_38, A_lengths_38, hc38, h⟩ := bd2_to h
      refine go_P (st1 := []) (W1 := (wX1 g aB aB_first aQ aQ_weights aQ_possible aC aC_variables aC_relations aC_numbers aA aA_letters aA_lengths B_left B_right B_found B_least B_first Q_letterSurplus Q_weights Q_possible C_size C_variables C_relations C_numbers A_letters_38 A_lengths_38)) (run_V (As := [.int t31, .long (Int32.toInt64 v4), .int x2]) (rest := []) X hS (mX0_give g l  aA aA_letters aA_lengths A_letters A_lengths t31 (Int32.toInt64 v4) x2 A_letters_38 A_lengths_38 hc38) okX0_give wd3_236 ⟨by dsimp only [rmX0_give, rmX1_chooseLetters, rmX1_chooseWord, rmX6_waysFrom]; omega, by dsimp only [rmX0_give, rmX1_chooseLetters, rmX1_chooseWord, rmX6_waysFrom]; omega⟩ ⟨rfl, rfl⟩ (va_recv hK hP (ci := 0) (q0 := 9) rfl rfl) (sub_P hP [9, 10, 11] rfl) (hD.sub [9, 10, 11] (by decide) rfl) (va_free hD hS hA [9, 10, 11] rfl) rfl hl.1 rfl (Nat.le_of_ble_eq_true rfl) dX1_chooseLetters_38 ⟨Nat.zero_le _, Nat.zero_le _⟩) hS (va_free hD hS hA [9, 10, 11] rfl) hP hD [9, 10, 11] [0, 1, 2, 3, 4, 5, 6, 7, 8] [0, 1, 2, 3, 4, 5, 6, 7, 8, 9, 10, 11] rfl rfl (by decide) (by decide) rfl (by decide) rfl (fun H locs hP hD hS => ?_)
      refine lv_aload_n hx hb dX1_chooseLetters_41 rfl (lv_at hl 0 rfl) ?_
      refine lv_iload_n hx hb dX1_chooseLetters_42 rfl (lv_at hl 1 rfl) ?_
      refine lv_iconst (v := (1 : Int32)) hx hb dX1_chooseLetters_43 (by decide) ?_
      refine lv_iadd hx hb dX1_chooseLetters_44 ?_
      refine lv_iload_n hx hb dX1_chooseLetters_45 rfl (lv_at hl 3 rfl) ?_
      obtain ⟨B_found_46, B_least_46, B_first_46, A_letters_46, A_lengths_46, hc46, h⟩ := bd5_to h
      refine go_A (st1 := []) (run_V (As := [.int (x1 + (1 : Int32)), .int x3]) (rest := []) X hS (hkw g l  aB aB_first aQ aQ_weights aQ_possible aC aC_variables aC_relations aC_numbers aA aA_letters aA_lengths B_left B_right B_found B_least B_first Q_letterSurplus Q_weights Q_possible C_size C_variables C_relations C_numbers A_letters_38 A_lengths_38 (x1 + (1 : Int32)) x3 B_found_46 B_least_46 B_first_46 A_letters_46 A_lengths_46 hc46) okX1_chooseWord wd3_198 ⟨by dsimp only [rmX1_chooseLetters, rmX1_chooseWord, rmX6_waysFrom]; omega, by dsimp only [rmX1_chooseLetters, rmX1_chooseWord, rmX6_waysFrom]; omega⟩ ⟨rfl, rfl⟩ (va_recv hK hP (ci := 1) (q0 := 0) rfl rfl) hP hD (all_F hS hA hD) rfl hl.1 rfl (Nat.le_of_ble_eq_true rfl) dX1_chooseLetters_46 ⟨Nat.zero_le _, Nat.zero_le _⟩) hS (all_F hS hA hD) rfl (fun H locs hP hD hS => ?_)
      obtain ⟨t49, et49⟩ : ∃ y : Int32, y = v4 + (1 : Int32) := ⟨_, rfl⟩
      refine lv_iinc (v := t49) (lv' := [(4, .int t49), (0, .ref aB), (1, .int x1), (2, .int x2), (3, .int x3)]) hx hb dX1_chooseLetters_49 hl (k := 4) rfl (by rw [et49]; rfl) (by decide) rfl (fun ls hl => ?_)
      have h := st_to h et49
      refine lv_goto (tgt := 18) hx hb dX1_chooseLetters_52 (by decide) ?_
      exact ih18 B_found_46 B_least_46 B_first_46 A_letters_46 A_lengths_46 t49 ls H locs (lv_sub hl [1, 2, 3, 4, 0] rfl) hP hD hS h
  have hl : lv_has ls 5 [(0, .ref aB), (1, .int x1), (2, .int x2), (3, .int x3)] := hl
  obtain ⟨H, hH⟩ : ∃ H, H = s.heap := ⟨_, rfl⟩
  obtain ⟨locs, hlocs⟩ : ∃ l : List Loc, l = [] := ⟨_, rfl⟩
  rw [show W p l e (rmX1_chooseLetters d) s m ([.ref aB, .int x1, .int x2, .int x3] : List Value).toArray below meth c s.heap [] 0 0 QQ (F0 m 0 ls []) = W p l e (rmX1_chooseLetters d) s m ([.ref aB, .int x1, .int x2, .int x3] : List Value).toArray below meth c H locs 0 0 QQ (F0 m 0 ls []) by rw [hH, hlocs]]
  have hP : va_P g.1 vwCl (wX1 g aB aB_first aQ aQ_weights aQ_possible aC aC_variables aC_relations aC_numbers aA aA_letters aA_lengths B_left B_right B_found B_least B_first Q_letterSurplus Q_weights Q_possible C_size C_variables C_relations C_numbers A_letters A_lengths) H := by rw [hH]; exact hP
  have hD : va_D A (wX1 g aB aB_first aQ aQ_weights aQ_possible aC aC_variables aC_relations aC_numbers aA aA_letters aA_lengths B_left B_right B_found B_least B_first Q_letterSurplus Q_weights Q_possible C_size C_variables C_relations C_numbers A_letters A_lengths) := hD
  have hS : va_S A s.heap H locs := by rw [hH, hlocs]; exact hS
  clear hH hlocs
  refine lv_aload_n hx hb dX1_chooseLetters_0 rfl (lv_at hl 0 rfl) ?_
  refine va_get (D := g.1) (ci := 1) (v := .ref aQ) (C := RX1) (T := TX1) (N := 7) hx hb hts inBX1 hown hK hP 0 rfl rfl 0 (by decide) (hts _ wd1_161) (fun _ h9 => h9) rfl dX1_chooseLetters_1 ?_
  refine lv_iload_n hx hb dX1_chooseLetters_4 rfl (lv_at hl 1 rfl) ?_
  refine lv_iconst (v := (1 : Int32)) hx hb dX1_chooseLetters_5 (by decide) ?_
  refine lv_iadd hx hb dX1_chooseLetters_6 ?_
  refine lv_iload_n hx hb dX1_chooseLetters_7 rfl (lv_at hl 3 rfl) ?_
  obtain ⟨t8, hc8, h⟩ := bd1_to h
  refine go_P (st1 := [.int t8]) (W1 := (wX1 g aB aB_first aQ aQ_weights aQ_possible aC aC_variables aC_relations aC_numbers aA aA_letters aA_lengths B_left B_right B_found B_least B_first Q_letterSurplus Q_weights Q_possible C_size C_variables C_relations C_numbers A_letters A_lengths)) (run_V (As := [.int (x1 + (1 : Int32)), .int x3]) (rest := []) X hS (mX6_canBalance g l  aQ aQ_weights aQ_possible aC aC_variables aC_relations aC_numbers Q_letterSurplus Q_weights Q_possible C_size C_variables C_relations C_numbers (x1 + (1 : Int32)) x3 t8 hc8) okX6_canBalance wd3_228 ⟨by dsimp only [rmX1_chooseLetters, rmX1_chooseWord, rmX6_canBalance, rmX6_waysFrom]; omega, by dsimp only [rmX1_chooseLetters, rmX1_chooseWord, rmX6_canBalance, rmX6_waysFrom]; omega⟩ ⟨rfl, rfl⟩ (va_recv hK hP (ci := 6) (q0 := 2) rfl rfl) (sub_P hP [2, 3, 4, 5, 6, 7, 8] rfl) (hD.sub [2, 3, 4, 5, 6, 7, 8] (by decide) rfl) (va_free hD hS hA [2, 3, 4, 5, 6, 7, 8] rfl) rfl hl.1 rfl (Nat.le_of_ble_eq_true rfl) dX1_chooseLetters_8 ⟨Nat.zero_le _, Nat.zero_le _⟩) hS (va_free hD hS hA [2, 3, 4, 5, 6, 7, 8] rfl) hP hD [2, 3, 4, 5, 6, 7, 8] [0, 1, 9, 10, 11] [0, 1, 5, 6, 7, 8, 9, 10, 11, 2, 3, 4] rfl rfl (by decide) (by decide) rfl (by decide) rfl (fun H locs hP hD hS => ?_)
  refine lv_if_ne (tgt := 15) hx hb dX1_chooseLetters_11 (by decide) (fun q11 => ?_) (fun q11 => ?_)
  · have h := ifF h q11
    refine lv_iconst (v := (0 : Int32)) hx hb dX1_chooseLetters_15 (by decide) ?_
    refine lv_istore (lv' := [(4, .int (0 : Int32)), (0, .ref aB), (1, .int x1), (2, .int x2), (3, .int x3)]) hx hb dX1_chooseLetters_16 hl (by decide) rfl (fun ls hl => ?_)
    exact L18 FU B_found B_least B_first A_letters A_lengths (0 : Int32) ls H locs (lv_sub hl [1, 2, 3, 4, 0] rfl) hP hD hS h
  have h := ifT h q11
  have h : some (B_found, B_least, B_first, A_letters, A_lengths) = some (B_found_o, B_least_o, B_first_o, A_letters_o, A_lengths_o) := h
  cases h
  exact hret _ _ _ _ hP hD hS dX1_chooseLetters_14
set_option maxHeartbeats 4000000 in
set_option maxRecDepth 100000 in
theorem mX1_chooseWord_s (g : GP) (l : Launch) (kw : Int64 → Int64 → Int32 → Int32 → (Nat → Int32) → (Nat → Int32) → (Nat → Int32) → (Nat → Int64) → (Nat → Int32) → Int32 → Int32 → Option (Int32 × Int32 × (Nat → Int32) × (Nat → Int64) × (Nat → Int32))) (d : Nat) (hkw : ∀ (g : GP) (l : Launch) (aB aB_first aQ aQ_weights aQ_possible aC aC_variables aC_relations aC_numbers aA aA_letters aA_lengths : Nat) (B_left : Int64) (B_right : Int64) (B_found : Int32) (B_least : Int32) (B_first : Nat → Int32) (Q_letterSurplus : Int32) (Q_weights : Nat → Int32) (Q_possible : Nat → Int32) (C_size : Int32) (C_variables : Nat → Int32) (C_relations : Nat → Int32) (C_numbers : Nat → Int32) (A_letters : Nat → Int64) (A_lengths : Nat → Int32) (x1 : Int32) (x2 : Int32) (B_found_o : Int32) (B_least_o : Int32) (B_first_o : Nat → Int32) (A_letters_o : Nat → Int64) (A_lengths_o : Nat → Int32), kw B_left B_right B_found B_least B_first Q_weights Q_possible A_letters A_lengths x1 x2 = some (B_found_o, B_least_o, B_first_o, A_letters_o, A_lengths_o) → Ct g l yX1_chooseWord cX1_chooseWord 4 none (rmX1_chooseWord d) [.ref aB, .int x1, .int x2] (wX1 g aB aB_first aQ aQ_weights aQ_possible aC aC_variables aC_relations aC_numbers aA aA_letters aA_lengths B_left B_right B_found B_least B_first Q_letterSurplus Q_weights Q_possible C_size C_variables C_relations C_numbers A_letters A_lengths) none (wX1 g aB aB_first aQ aQ_weights aQ_possible aC aC_variables aC_relations aC_numbers aA aA_letters aA_lengths B_left B_right B_found_o B_least_o B_first_o Q_letterSurplus Q_weights Q_possible C_size C_variables C_relations C_numbers A_letters_o A_lengths_o)) (aB aB_first aQ aQ_weights aQ_possible aC aC_variables aC_relations aC_numbers aA aA_letters aA_lengths : Nat) (B_left : Int64) (B_right : Int64) (B_found : Int32) (B_least : Int32) (B_first : Nat → Int32) (Q_letterSurplus : Int32) (Q_weights : Nat → Int32) (Q_possible : Nat → Int32) (C_size : Int32) (C_variables : Nat → Int32) (C_relations : Nat → Int32) (C_numbers : Nat → Int32) (A_letters : Nat → Int64) (A_lengths : Nat → Int32) (x1 : Int32) (x2 : Int32) (B_found_o : Int32) (B_least_o : Int32) (B_first_o : Nat → Int32) (A_letters_o : Nat → Int64) (A_lengths_o : Nat → Int32) (h : fB_chooseWord_b kw B_left B_right B_found B_least B_first Q_weights Q_possible A_letters A_lengths x1 x2 = some (B_found_o, B_least_o, B_first_o, A_letters_o, A_lengths_o)) : Ct g l yX1_chooseWord cX1_chooseWord 4 none (rmX1_chooseWord (d + 1)) [.ref aB, .int x1, .int x2] (wX1 g aB aB_first aQ aQ_weights aQ_possible aC aC_variables aC_relations aC_numbers aA aA_letters aA_lengths B_left B_right B_found B_least B_first Q_letterSurplus Q_weights Q_possible C_size C_variables C_relations C_numbers A_letters A_lengths) none (wX1 g aB aB_first aQ aQ_weights aQ_possible aC aC_variables aC_relations aC_numbers aA aA_letters aA_lengths B_left B_right B_found_o B_least_o B_first_o Q_letterSurplus Q_weights Q_possible C_size C_variables C_relations C_numbers A_letters_o A_lengths_o) := by
  refine Ct.introV (by decide) (Nat.le_of_ble_eq_true rfl) ?_
  intro p e s m below meth c A QQ ls hyp hret
  obtain ⟨hx, hb, hml, hts, hown, hA, hE, hP, hD, hl⟩ := hyp
  have hK := hE.1
  have hS : va_S A s.heap s.heap [] := va_S.rf
  have X : Here g p s m c cX1_chooseWord 4 ([.ref aB, .int x1, .int x2] : List Value).toArray RX1 A := ⟨⟨hx, hb, hml, hown, hts⟩, hE, hA⟩
  have L32 : ∀ (n32 : Nat), ∀ (B_found : Int32) (B_least : Int32) (B_first : Nat → Int32) (A_letters : Nat → Int64) (A_lengths : Nat → Int32) (v3 : Int32) (ls : Array Slot) (H : Heap) (locs : List Loc), lv_has ls 4 [(0, .ref aB), (1, .int x1), (2, .int x2), (3, .int v3)] → va_P g.1 vwCl (wX1 g aB aB_first aQ aQ_weights aQ_possible aC aC_variables aC_relations aC_numbers aA aA_letters aA_lengths B_left B_right B_found B_least B_first Q_letterSurplus Q_weights Q_possible C_size C_variables C_relations C_numbers A_letters A_lengths) H → va_D A (wX1 g aB aB_first aQ aQ_weights aQ_possible aC aC_variables aC_relations aC_numbers aA aA_letters aA_lengths B_left B_right B_found B_least B_first Q_letterSurplus Q_weights Q_possible C_size C_variables C_relations C_numbers A_letters A_lengths) → va_S A s.heap H locs → fx6 (fB_chooseWord_32 kw B_left B_right Q_weights Q_possible x1 x2) n32 B_found B_least B_first A_letters A_lengths v3 = some (B_found_o, B_least_o, B_first_o, A_letters_o, A_lengths_o) → W p l e (rmX1_chooseWord (d + 1)) s m ([.ref aB, .int x1, .int x2] : List Value).toArray below meth c H locs 0 0 QQ (F0 m 32 ls []) := by
    intro n32
    induction n32 with
    | zero => intro B_found B_least B_first A_letters A_lengths v3 ls H locs hl hP hD hS h; exact fx6_0 h
    | succ n32 ih32 =>
      intro B_found B_least B_first A_letters A_lengths v3 ls H locs hl hP hD hS h
      have h := (fx6_s (fB_chooseWord_32 kw B_left B_right Q_weights Q_possible x1 x2) n32 B_found B_least B_first A_letters A_lengths v3).symm.trans h
      refine lv_iload_n hx hb dX1_chooseWord_32 rfl (lv_at hl 3 rfl) ?_
      refine lv_iconst (v := (3 : Int32)) hx hb dX1_chooseWord_33 (by decide) ?_
      refine lv_icmp_gt (tgt := 71) hx hb dX1_chooseWord_34 (by decide) (fun q34 => ?_) (fun q34 => ?_)
      · have h := ifT h q34
        have h : some (B_found, B_least, B_first, A_letters, A_lengths) = some (B_found_o, B_least_o, B_first_o, A_letters_o, A_lengths_o) := h
        cases h
        exact hret _ _ _ _ hP hD hS dX1_chooseWord_71
      have h := ifF h q34
      refine lv_aload_n hx hb dX1_chooseWord_37 rfl (lv_at hl 0 rfl) ?_
      refine va_get (D := g.1) (ci := 1) (v := .ref aQ) (C := RX1) (T := TX1) (N := 7) hx hb hts inBX1 hown hK hP 0 rfl rfl 0 (by decide) (hts _ wd1_161) (fun _ h9 => h9) rfl dX1_chooseWord_38 ?_
      refine lv_iload_n hx hb dX1_chooseWord_41 rfl (lv_at hl 1 rfl) ?_
      refine lv_iload_n hx hb dX1_chooseWord_42 rfl (lv_at hl 3 rfl) ?_
      obtain ⟨t43, hc43, h⟩ := bd1_to h
      refine go_P (st1 := [.int t43]) (W1 := (wX1 g aB aB_first aQ aQ_weights aQ_possible aC aC_variables aC_relations aC_numbers aA aA_letters aA_lengths B_left B_right B_found B_least B_first Q_letterSurplus Q_weights Q_possible C_size C_variables C_relations C_numbers A_letters A_lengths)) (run_V (As := [.int x1, .int v3]) (rest := []) X hS (mX6_allows g l  aQ aQ_weights aQ_possible aC aC_variables aC_relations aC_numbers Q_letterSurplus Q_weights Q_possible C_size C_variables C_relations C_numbers x1 v3 t43 hc43) okX6_allows wd3_215 ⟨by dsimp only [rmX1_chooseWord, rmX6_allows, rmX6_waysFrom]; omega, by dsimp only [rmX1_chooseWord, rmX6_allows, rmX6_waysFrom]; omega⟩ ⟨rfl, rfl⟩ (va_recv hK hP (ci := 6) (q0 := 2) rfl rfl) (sub_P hP [2, 3, 4, 5, 6, 7, 8] rfl) (hD.sub [2, 3, 4, 5, 6, 7, 8] (by decide) rfl) (va_free hD hS hA [2, 3, 4, 5, 6, 7, 8] rfl) rfl hl.1 rfl (Nat.le_of_ble_eq_true rfl) dX1_chooseWord_43 ⟨Nat.zero_le _, Nat.zero_le _⟩) hS (va_free hD hS hA [2, 3, 4, 5, 6, 7, 8] rfl) hP hD [2, 3, 4, 5, 6, 7, 8] [0, 1, 9, 10, 11] [0, 1, 5, 6, 7, 8, 9, 10, 11, 2, 3, 4] rfl rfl (by decide) (by decide) rfl (by decide) rfl (fun H locs hP hD hS => ?_)
      refine lv_if_eq (tgt := 65) hx hb dX1_chooseWord_46 (by decide) (fun q46 => ?_) (fun q46 => ?_)
      · have h := ifT h q46
        obtain ⟨t65, et65⟩ : ∃ y : Int32, y = v3 + (1 : Int32) := ⟨_, rfl⟩
        refine lv_iinc (v := t65) (lv' := [(3, .int t65), (0, .ref aB), (1, .int x1), (2, .int x2)]) hx hb dX1_chooseWord_65 hl (k := 3) rfl (by rw [et65]; rfl) (by decide) rfl (fun ls hl => ?_)
        have h := st_to h et65
        refine lv_goto (tgt := 32) hx hb dX1_chooseWord_68 (by decide) ?_
        exact ih32 B_found B_least B_first A_letters A_lengths t65 ls H locs (lv_sub hl [1, 2, 3, 0] rfl) hP hD hS h
      have h := ifF h q46
      refine lv_aload_n hx hb dX1_chooseWord_49 rfl (lv_at hl 0 rfl) ?_
      refine lv_iload_n hx hb dX1_chooseWord_50 rfl (lv_at hl 1 rfl) ?_
      refine lv_iload_n hx hb dX1_chooseWord_51 rfl (lv_at hl 3 rfl) ?_
      refine lv_aload_n hx hb dX1_chooseWord_52 rfl (lv_at hl 0 rfl) ?_
      refine va_get (D := g.1) (ci := 1) (v := .ref aQ) (C := RX1) (T := TX1) (N := 7) hx hb hts inBX1 hown hK hP 0 rfl rfl 0 (by decide) (hts _ wd1_161) (fun _ h9 => h9) rfl dX1_chooseWord_53 ?_
      refine lv_iload_n hx hb dX1_chooseWord_56 rfl (lv_at hl 1 rfl) ?_
      refine lv_iload_n hx hb dX1_chooseWord_57 rfl (lv_at hl 3 rfl) ?_
      refine lv_iload_n hx hb dX1_chooseWord_58 rfl (lv_at hl 2 rfl) ?_
      obtain ⟨t59, hc59, h⟩ := bd1_to h
      refine go_P (st1 := [.int t59, .int v3, .int x1, .ref aB]) (W1 := (wX1 g aB aB_first aQ aQ_weights aQ_possible aC aC_variables aC_relations aC_numbers aA aA_letters aA_lengths B_left B_right B_found B_least B_first Q_letterSurplus Q_weights Q_possible C_size C_variables C_relations C_numbers A_letters A_lengths)) (run_V (As := [.int x1, .int v3, .int x2]) (rest := [.int v3, .int x1, .ref aB]) X hS (mX6_surplusWith g l  aQ aQ_weights aQ_possible aC aC_variables aC_relations aC_numbers Q_letterSurplus Q_weights Q_possible C_size C_variables C_relations C_numbers x1 v3 x2 t59 hc59) okX6_surplusWith wd3_220 ⟨by dsimp only [rmX1_chooseWord, rmX6_surplusWith, rmX6_waysFrom]; omega, by dsimp only [rmX1_chooseWord, rmX6_surplusWith, rmX6_waysFrom]; omega⟩ ⟨rfl, rfl⟩ (va_recv hK hP (ci := 6) (q0 := 2) rfl rfl) (sub_P hP [2, 3, 4, 5, 6, 7, 8] rfl) (hD.sub [2, 3, 4, 5, 6, 7, 8] (by decide) rfl) (va_free hD hS hA [2, 3, 4, 5, 6, 7, 8] rfl) rfl hl.1 rfl (Nat.le_of_ble_eq_true rfl) dX1_chooseWord_59 ⟨Nat.zero_le _, Nat.zero_le _⟩) hS (va_free hD hS hA [2, 3, 4, 5, 6, 7, 8] rfl) hP hD [2, 3, 4, 5, 6, 7, 8] [0, 1, 9, 10, 11] [0, 1, 5, 6, 7, 8, 9, 10, 11, 2, 3, 4] rfl rfl (by decide) (by decide) rfl (by decide) rfl (fun H locs hP hD hS => ?_)
      obtain ⟨B_found_62, B_least_62, B_first_62, A_letters_62, A_lengths_62, hc62, h⟩ := bd5_to h
      refine go_A (st1 := []) (run_V (As := [.int x1, .int v3, .int t59]) (rest := []) X hS (mX1_chooseLetters g l kw d hkw aB aB_first aQ aQ_weights aQ_possible aC aC_variables aC_relations aC_numbers aA aA_letters aA_lengths B_left B_right B_found B_least B_first Q_letterSurplus Q_weights Q_possible C_size C_variables C_relations C_numbers A_letters A_lengths x1 v3 t59 B_found_62 B_least_62 B_first_62 A_letters_62 A_lengths_62 hc62) okX1_chooseLetters wd3_224 ⟨by dsimp only [rmX1_chooseLetters, rmX1_chooseWord, rmX6_waysFrom]; omega, by dsimp only [rmX1_chooseLetters, rmX1_chooseWord, rmX6_waysFrom]; omega⟩ ⟨rfl, rfl⟩ (va_recv hK hP (ci := 1) (q0 := 0) rfl rfl) hP hD (all_F hS hA hD) rfl hl.1 rfl (Nat.le_of_ble_eq_true rfl) dX1_chooseWord_62 ⟨Nat.zero_le _, Nat.zero_le _⟩) hS (all_F hS hA hD) rfl (fun H locs hP hD hS => ?_)
      obtain ⟨t65, et65⟩ : ∃ y : Int32, y = v3 + (1 : Int32) := ⟨_, rfl⟩
      refine lv_iinc (v := t65) (lv' := [(3, .int t65), (0, .ref aB), (1, .int x1), (2, .int x2)]) hx hb dX1_chooseWord_65 hl (k := 3) rfl (by rw [et65]; rfl) (by decide) rfl (fun ls hl => ?_)
      have h := st_to h et65
      refine lv_goto (tgt := 32) hx hb dX1_chooseWord_68 (by decide) ?_
      exact ih32 B_found_62 B_least_62 B_first_62 A_letters_62 A_lengths_62 t65 ls H locs (lv_sub hl [1, 2, 3, 0] rfl) hP hD hS h
  have hl : lv_has ls 4 [(0, .ref aB), (1, .int x1), (2, .int x2)] := hl
  obtain ⟨H, hH⟩ : ∃ H, H = s.heap := ⟨_, rfl⟩
  obtain ⟨locs, hlocs⟩ : ∃ l : List Loc, l = [] := ⟨_, rfl⟩
  rw [show W p l e (rmX1_chooseWord (d + 1)) s m ([.ref aB, .int x1, .int x2] : List Value).toArray below meth c s.heap [] 0 0 QQ (F0 m 0 ls []) = W p l e (rmX1_chooseWord (d + 1)) s m ([.ref aB, .int x1, .int x2] : List Value).toArray below meth c H locs 0 0 QQ (F0 m 0 ls []) by rw [hH, hlocs]]
  have hP : va_P g.1 vwCl (wX1 g aB aB_first aQ aQ_weights aQ_possible aC aC_variables aC_relations aC_numbers aA aA_letters aA_lengths B_left B_right B_found B_least B_first Q_letterSurplus Q_weights Q_possible C_size C_variables C_relations C_numbers A_letters A_lengths) H := by rw [hH]; exact hP
  have hD : va_D A (wX1 g aB aB_first aQ aQ_weights aQ_possible aC aC_variables aC_relations aC_numbers aA aA_letters aA_lengths B_left B_right B_found B_least B_first Q_letterSurplus Q_weights Q_possible C_size C_variables C_relations C_numbers A_letters A_lengths) := hD
  have hS : va_S A s.heap H locs := by rw [hH, hlocs]; exact hS
  clear hH hlocs
  refine lv_iload_n hx hb dX1_chooseWord_0 rfl (lv_at hl 1 rfl) ?_
  obtain ⟨t1, hc1, h⟩ := bd1_to h
  refine go_0 (st1 := [.int t1]) (run_SN (As := [.int x1]) (rest := []) X hS (mX11_isVariable g l  x1 t1 hc1) okX11_isVariable (List.mem_of_getElem? (i := 7) rfl) ⟨by dsimp only [rmX11_isVariable, rmX1_chooseWord, rmX6_waysFrom]; omega, by dsimp only [rmX11_isVariable, rmX1_chooseWord, rmX6_waysFrom]; omega⟩ ⟨rfl, rfl⟩ nil_P nil_D (nil_F hS hA) rfl hl.1 rfl (Nat.le_of_ble_eq_true rfl) dX1_chooseWord_1 ⟨Nat.zero_le _, Nat.zero_le _⟩) hS hA hP rfl (fun H locs hP hS => ?_)
  refine lv_if_ne (tgt := 30) hx hb dX1_chooseWord_4 (by decide) (fun q4 => ?_) (fun q4 => ?_)
  · have h := ifF h q4
    refine lv_iconst (v := (0 : Int32)) hx hb dX1_chooseWord_30 (by decide) ?_
    refine lv_istore_n (lv' := [(3, .int (0 : Int32)), (0, .ref aB), (1, .int x1), (2, .int x2)]) hx hb dX1_chooseWord_31 rfl hl (by decide) rfl (fun ls hl => ?_)
    exact L32 FU B_found B_least B_first A_letters A_lengths (0 : Int32) ls H locs (lv_sub hl [1, 2, 3, 0] rfl) hP hD hS h
  have h := ifT h q4
  refine lv_aload_n hx hb dX1_chooseWord_7 rfl (lv_at hl 0 rfl) ?_
  refine va_get (D := g.1) (ci := 1) (v := .ref aA) (C := RX1) (T := TX1) (N := 7) hx hb hts inBX1 hown hK hP 0 rfl rfl 1 (by decide) (hts _ wd1_162) (fun _ h9 => h9) rfl dX1_chooseWord_8 ?_
  refine lv_aload_n hx hb dX1_chooseWord_11 rfl (lv_at hl 0 rfl) ?_
  refine va_get (D := g.1) (ci := 1) (v := .long B_left) (C := RX1) (T := TX1) (N := 7) hx hb hts inBX1 hown hK hP 0 rfl rfl 3 (by decide) (hts _ wd1_164) (fun _ h9 => h9) rfl dX1_chooseWord_12 ?_
  refine lv_aload_n hx hb dX1_chooseWord_15 rfl (lv_at hl 0 rfl) ?_
  refine va_get (D := g.1) (ci := 1) (v := .long B_right) (C := RX1) (T := TX1) (N := 7) hx hb hts inBX1 hown hK hP 0 rfl rfl 4 (by decide) (hts _ wd1_165) (fun _ h9 => h9) rfl dX1_chooseWord_16 ?_
  obtain ⟨t19, hc19, h⟩ := bd1_to h
  refine go_P (st1 := [.int t19]) (W1 := (wX1 g aB aB_first aQ aQ_weights aQ_possible aC aC_variables aC_relations aC_numbers aA aA_letters aA_lengths B_left B_right B_found B_least B_first Q_letterSurplus Q_weights Q_possible C_size C_variables C_relations C_numbers A_letters A_lengths)) (run_V (As := [.long B_left, .long B_right]) (rest := []) X hS (mX0_equates g l  aA aA_letters aA_lengths A_letters A_lengths B_left B_right t19 hc19) okX0_equates wd3_203 ⟨by dsimp only [rmX0_equates, rmX1_chooseWord, rmX6_waysFrom]; omega, by dsimp only [rmX0_equates, rmX1_chooseWord, rmX6_waysFrom]; omega⟩ ⟨rfl, rfl⟩ (va_recv hK hP (ci := 0) (q0 := 9) rfl rfl) (sub_P hP [9, 10, 11] rfl) (hD.sub [9, 10, 11] (by decide) rfl) (va_free hD hS hA [9, 10, 11] rfl) rfl hl.1 rfl (Nat.le_of_ble_eq_true rfl) dX1_chooseWord_19 ⟨Nat.zero_le _, Nat.zero_le _⟩) hS (va_free hD hS hA [9, 10, 11] rfl) hP hD [9, 10, 11] [0, 1, 2, 3, 4, 5, 6, 7, 8] [0, 1, 2, 3, 4, 5, 6, 7, 8, 9, 10, 11] rfl rfl (by decide) (by decide) rfl (by decide) rfl (fun H locs hP hD hS => ?_)
  refine lv_if_eq (tgt := 29) hx hb dX1_chooseWord_22 (by decide) (fun q22 => ?_) (fun q22 => ?_)
  · have h := ifT h q22
    have h : some (B_found, B_least, B_first, A_letters, A_lengths) = some (B_found_o, B_least_o, B_first_o, A_letters_o, A_lengths_o) := h
    cases h
    exact hret _ _ _ _ hP hD hS dX1_chooseWord_29
  have h := ifF h q22
  refine lv_aload_n hx hb dX1_chooseWord_25 rfl (lv_at hl 0 rfl) ?_
  obtain ⟨B_found_26, B_least_26, B_first_26, hc26, h⟩ := bd3_to h
  refine go_A (st1 := []) (run_V (As := []) (rest := []) X hS (mX1_record g l  aB aB_first aQ aQ_weights aQ_possible aC aC_variables aC_relations aC_numbers aA aA_letters aA_lengths B_left B_right B_found B_least B_first Q_letterSurplus Q_weights Q_possible C_size C_variables C_relations C_numbers A_letters A_lengths B_found_26 B_least_26 B_first_26 hc26) okX1_record wd3_204 ⟨by dsimp only [rmX1_chooseWord, rmX1_record, rmX6_waysFrom]; omega, by dsimp only [rmX1_chooseWord, rmX1_record, rmX6_waysFrom]; omega⟩ ⟨rfl, rfl⟩ (va_recv hK hP (ci := 1) (q0 := 0) rfl rfl) hP hD (all_F hS hA hD) rfl hl.1 rfl (Nat.le_of_ble_eq_true rfl) dX1_chooseWord_26 ⟨Nat.zero_le _, Nat.zero_le _⟩) hS (all_F hS hA hD) rfl (fun H locs hP hD hS => ?_)
  have h : some (B_found_26, B_least_26, B_first_26, A_letters, A_lengths) = some (B_found_o, B_least_o, B_first_o, A_letters_o, A_lengths_o) := h
  cases h
  exact hret _ _ _ _ hP hD hS dX1_chooseWord_29
theorem mX1_chooseWord_d : ∀ d : Nat, ∀ (g : GP) (l : Launch) (aB aB_first aQ aQ_weights aQ_possible aC aC_variables aC_relations aC_numbers aA aA_letters aA_lengths : Nat) (B_left : Int64) (B_right : Int64) (B_found : Int32) (B_least : Int32) (B_first : Nat → Int32) (Q_letterSurplus : Int32) (Q_weights : Nat → Int32) (Q_possible : Nat → Int32) (C_size : Int32) (C_variables : Nat → Int32) (C_relations : Nat → Int32) (C_numbers : Nat → Int32) (A_letters : Nat → Int64) (A_lengths : Nat → Int32) (x1 : Int32) (x2 : Int32) (B_found_o : Int32) (B_least_o : Int32) (B_first_o : Nat → Int32) (A_letters_o : Nat → Int64) (A_lengths_o : Nat → Int32), fx11 fB_chooseWord_b d B_left B_right B_found B_least B_first Q_weights Q_possible A_letters A_lengths x1 x2 = some (B_found_o, B_least_o, B_first_o, A_letters_o, A_lengths_o) → Ct g l yX1_chooseWord cX1_chooseWord 4 none (rmX1_chooseWord d) [.ref aB, .int x1, .int x2] (wX1 g aB aB_first aQ aQ_weights aQ_possible aC aC_variables aC_relations aC_numbers aA aA_letters aA_lengths B_left B_right B_found B_least B_first Q_letterSurplus Q_weights Q_possible C_size C_variables C_relations C_numbers A_letters A_lengths) none (wX1 g aB aB_first aQ aQ_weights aQ_possible aC aC_variables aC_relations aC_numbers aA aA_letters aA_lengths B_left B_right B_found_o B_least_o B_first_o Q_letterSurplus Q_weights Q_possible C_size C_variables C_relations C_numbers A_letters_o A_lengths_o) := by
  intro d
  induction d with
  | zero => intro g l aB aB_first aQ aQ_weights aQ_possible aC aC_variables aC_relations aC_numbers aA aA_letters aA_lengths B_left B_right B_found B_least B_first Q_letterSurplus Q_weights Q_possible C_size C_variables C_relations C_numbers A_letters A_lengths x1 x2 B_found_o B_least_o B_first_o A_letters_o A_lengths_o h; exact fx11_0 h
  | succ d ih => intro g l aB aB_first aQ aQ_weights aQ_possible aC aC_variables aC_relations aC_numbers aA aA_letters aA_lengths B_left B_right B_found B_least B_first Q_letterSurplus Q_weights Q_possible C_size C_variables C_relations C_numbers A_letters A_lengths x1 x2 B_found_o B_least_o B_first_o A_letters_o A_lengths_o h; exact mX1_chooseWord_s g l (fx11 fB_chooseWord_b d) d ih aB aB_first aQ aQ_weights aQ_possible aC aC_variables aC_relations aC_numbers aA aA_letters aA_lengths B_left B_right B_found B_least B_first Q_letterSurplus Q_weights Q_possible C_size C_variables C_relations C_numbers A_letters A_lengths x1 x2 B_found_o B_least_o B_first_o A_letters_o A_lengths_o h
theorem mX1_chooseWord (g : GP) (l : Launch) (aB aB_first aQ aQ_weights aQ_possible aC aC_variables aC_relations aC_numbers aA aA_letters aA_lengths : Nat) (B_left : Int64) (B_right : Int64) (B_found : Int32) (B_least : Int32) (B_first : Nat → Int32) (Q_letterSurplus : Int32) (Q_weights : Nat → Int32) (Q_possible : Nat → Int32) (C_size : Int32) (C_variables : Nat → Int32) (C_relations : Nat → Int32) (C_numbers : Nat → Int32) (A_letters : Nat → Int64) (A_lengths : Nat → Int32) (x1 : Int32) (x2 : Int32) (B_found_o : Int32) (B_least_o : Int32) (B_first_o : Nat → Int32) (A_letters_o : Nat → Int64) (A_lengths_o : Nat → Int32) (h : fB_chooseWord B_left B_right B_found B_least B_first Q_weights Q_possible A_letters A_lengths x1 x2 = some (B_found_o, B_least_o, B_first_o, A_letters_o, A_lengths_o)) : Ct g l yX1_chooseWord cX1_chooseWord 4 none (rmX1_chooseWord 8) [.ref aB, .int x1, .int x2] (wX1 g aB aB_first aQ aQ_weights aQ_possible aC aC_variables aC_relations aC_numbers aA aA_letters aA_lengths B_left B_right B_found B_least B_first Q_letterSurplus Q_weights Q_possible C_size C_variables C_relations C_numbers A_letters A_lengths) none (wX1 g aB aB_first aQ aQ_weights aQ_possible aC aC_variables aC_relations aC_numbers aA aA_letters aA_lengths B_left B_right B_found_o B_least_o B_first_o Q_letterSurplus Q_weights Q_possible C_size C_variables C_relations C_numbers A_letters_o A_lengths_o) := mX1_chooseWord_d 8 g l aB aB_first aQ aQ_weights aQ_possible aC aC_variables aC_relations aC_numbers aA aA_letters aA_lengths B_left B_right B_found B_least B_first Q_letterSurplus Q_weights Q_possible C_size C_variables C_relations C_numbers A_letters A_lengths x1 x2 B_found_o B_least_o B_first_o A_letters_o A_lengths_o h
set_option maxHeartbeats 4000000 in
set_option maxRecDepth 100000 in
theorem mX1_enumerate (g : GP) (l : Launch) (aB aB_first aQ aQ_weights aQ_possible aC aC_variables aC_relations aC_numbers aA aA_letters aA_lengths aE : Nat) (B_left : Int64) (B_right : Int64) (B_found : Int32) (B_least : Int32) (B_first : Nat → Int32) (Q_letterSurplus : Int32) (Q_weights : Nat → Int32) (Q_possible : Nat → Int32) (C_size : Int32) (C_variables : Nat → Int32) (C_relations : Nat → Int32) (C_numbers : Nat → Int32) (A_letters : Nat → Int64) (A_lengths : Nat → Int32) (E_left : Int64) (E_right : Int64) (x2 : Int32) (r : Int32) (B_left_o : Int64) (B_right_o : Int64) (B_found_o : Int32) (B_least_o : Int32) (B_first_o : Nat → Int32) (Q_letterSurplus_o : Int32) (Q_weights_o : Nat → Int32) (Q_possible_o : Nat → Int32) (A_letters_o : Nat → Int64) (A_lengths_o : Nat → Int32) (h : fB_enumerate B_first Q_weights Q_possible C_size C_variables C_relations C_numbers A_letters A_lengths E_left E_right x2 = some (r, B_left_o, B_right_o, B_found_o, B_least_o, B_first_o, Q_letterSurplus_o, Q_weights_o, Q_possible_o, A_letters_o, A_lengths_o)) : Ct g l yX1_enumerate cX1_enumerate 3 (some .int) rmX1_enumerate [.ref aB, .ref aE, .int x2] ((wX1 g aB aB_first aQ aQ_weights aQ_possible aC aC_variables aC_relations aC_numbers aA aA_letters aA_lengths B_left B_right B_found B_least B_first Q_letterSurplus Q_weights Q_possible C_size C_variables C_relations C_numbers A_letters A_lengths) ++ (wX2 g aE E_left E_right)) (some (.int r)) ((wX1 g aB aB_first aQ aQ_weights aQ_possible aC aC_variables aC_relations aC_numbers aA aA_letters aA_lengths B_left_o B_right_o B_found_o B_least_o B_first_o Q_letterSurplus_o Q_weights_o Q_possible_o C_size C_variables C_relations C_numbers A_letters_o A_lengths_o) ++ (wX2 g aE E_left E_right)) := by
  refine Ct.introI (by decide) (Nat.le_of_ble_eq_true rfl) ?_
  intro p e s m below meth c A QQ ls hyp hret
  obtain ⟨hx, hb, hml, hts, hown, hA, hE, hP, hD, hl⟩ := hyp
  have hK := hE.1
  have hS : va_S A s.heap s.heap [] := va_S.rf
  have X : Here g p s m c cX1_enumerate 3 ([.ref aB, .ref aE, .int x2] : List Value).toArray RX1 A := ⟨⟨hx, hb, hml, hown, hts⟩, hE, hA⟩
  have hl : lv_has ls 3 [(0, .ref aB), (1, .ref aE), (2, .int x2)] := hl
  obtain ⟨H, hH⟩ : ∃ H, H = s.heap := ⟨_, rfl⟩
  obtain ⟨locs, hlocs⟩ : ∃ l : List Loc, l = [] := ⟨_, rfl⟩
  rw [show W p l e rmX1_enumerate s m ([.ref aB, .ref aE, .int x2] : List Value).toArray below meth c s.heap [] 0 0 QQ (F0 m 0 ls []) = W p l e rmX1_enumerate s m ([.ref aB, .ref aE, .int x2] : List Value).toArray below meth c H locs 0 0 QQ (F0 m 0 ls []) by rw [hH, hlocs]]
  have hP : va_P g.1 vwCl ((wX1 g aB aB_first aQ aQ_weights aQ_possible aC aC_variables aC_relations aC_numbers aA aA_letters aA_lengths B_left B_right B_found B_least B_first Q_letterSurplus Q_weights Q_possible C_size C_variables C_relations C_numbers A_letters A_lengths) ++ (wX2 g aE E_left E_right)) H := by rw [hH]; exact hP
  have hD : va_D A ((wX1 g aB aB_first aQ aQ_weights aQ_possible aC aC_variables aC_relations aC_numbers aA aA_letters aA_lengths B_left B_right B_found B_least B_first Q_letterSurplus Q_weights Q_possible C_size C_variables C_relations C_numbers A_letters A_lengths) ++ (wX2 g aE E_left E_right)) := hD
  have hS : va_S A s.heap H locs := by rw [hH, hlocs]; exact hS
  clear hH hlocs
  refine lv_aload_n hx hb dX1_enumerate_0 rfl (lv_at hl 0 rfl) ?_
  refine lv_aload_n hx hb dX1_enumerate_1 rfl (lv_at hl 1 rfl) ?_
  refine va_get (D := g.1) (ci := 2) (v := .long E_left) (C := RX2) (T := TX2) (N := 2) hx hb hts inBX2 hown hK hP 12 rfl rfl 0 (by decide) (hts _ wd1_49) (fun _ h9 => h9) rfl dX1_enumerate_2 ?_
  refine va_put (D := g.1) (ci := 1) (v := .long E_left) (ty := .long) (C := RX1) (T := TX1) (N := 7) hx hb hts inBX1 tyX1 tyX1_ok nmX1 hown hK hP hD hS 0 rfl rfl 3 (by decide) (hts _ wd1_164) (fun _ h9 => h9) rfl (tyX1_ok 3 (by decide)) rfl rfl (Nat.le_of_ble_eq_true rfl) dX1_enumerate_5 (fun H locs hP hD hS => ?_)
  have hP : va_P g.1 vwCl ((wX1 g aB aB_first aQ aQ_weights aQ_possible aC aC_variables aC_relations aC_numbers aA aA_letters aA_lengths E_left B_right B_found B_least B_first Q_letterSurplus Q_weights Q_possible C_size C_variables C_relations C_numbers A_letters A_lengths) ++ (wX2 g aE E_left E_right)) H := hP
  have hD : va_D A ((wX1 g aB aB_first aQ aQ_weights aQ_possible aC aC_variables aC_relations aC_numbers aA aA_letters aA_lengths E_left B_right B_found B_least B_first Q_letterSurplus Q_weights Q_possible C_size C_variables C_relations C_numbers A_letters A_lengths) ++ (wX2 g aE E_left E_right)) := hD
  refine lv_aload_n hx hb dX1_enumerate_8 rfl (lv_at hl 0 rfl) ?_
  refine lv_aload_n hx hb dX1_enumerate_9 rfl (lv_at hl 1 rfl) ?_
  refine va_get (D := g.1) (ci := 2) (v := .long E_right) (C := RX2) (T := TX2) (N := 2) hx hb hts inBX2 hown hK hP 12 rfl rfl 1 (by decide) (hts _ wd1_56) (fun _ h9 => h9) rfl dX1_enumerate_10 ?_
  refine va_put (D := g.1) (ci := 1) (v := .long E_right) (ty := .long) (C := RX1) (T := TX1) (N := 7) hx hb hts inBX1 tyX1 tyX1_ok nmX1 hown hK hP hD hS 0 rfl rfl 4 (by decide) (hts _ wd1_165) (fun _ h9 => h9) rfl (tyX1_ok 4 (by decide)) rfl rfl (Nat.le_of_ble_eq_true rfl) dX1_enumerate_13 (fun H locs hP hD hS => ?_)
  have hP : va_P g.1 vwCl ((wX1 g aB aB_first aQ aQ_weights aQ_possible aC aC_variables aC_relations aC_numbers aA aA_letters aA_lengths E_left E_right B_found B_least B_first Q_letterSurplus Q_weights Q_possible C_size C_variables C_relations C_numbers A_letters A_lengths) ++ (wX2 g aE E_left E_right)) H := hP
  have hD : va_D A ((wX1 g aB aB_first aQ aQ_weights aQ_possible aC aC_variables aC_relations aC_numbers aA aA_letters aA_lengths E_left E_right B_found B_least B_first Q_letterSurplus Q_weights Q_possible C_size C_variables C_relations C_numbers A_letters A_lengths) ++ (wX2 g aE E_left E_right)) := hD
  refine lv_aload_n hx hb dX1_enumerate_16 rfl (lv_at hl 0 rfl) ?_
  refine lv_iconst (v := (0 : Int32)) hx hb dX1_enumerate_17 (by decide) ?_
  refine va_put (D := g.1) (ci := 1) (v := .int (0 : Int32)) (ty := .int) (C := RX1) (T := TX1) (N := 7) hx hb hts inBX1 tyX1 tyX1_ok nmX1 hown hK hP hD hS 0 rfl rfl 5 (by decide) (hts _ wd1_166) (fun _ h9 => h9) rfl (tyX1_ok 5 (by decide)) rfl rfl (Nat.le_of_ble_eq_true rfl) dX1_enumerate_18 (fun H locs hP hD hS => ?_)
  have hP : va_P g.1 vwCl ((wX1 g aB aB_first aQ aQ_weights aQ_possible aC aC_variables aC_relations aC_numbers aA aA_letters aA_lengths E_left E_right (0 : Int32) B_least B_first Q_letterSurplus Q_weights Q_possible C_size C_variables C_relations C_numbers A_letters A_lengths) ++ (wX2 g aE E_left E_right)) H := hP
  have hD : va_D A ((wX1 g aB aB_first aQ aQ_weights aQ_possible aC aC_variables aC_relations aC_numbers aA aA_letters aA_lengths E_left E_right (0 : Int32) B_least B_first Q_letterSurplus Q_weights Q_possible C_size C_variables C_relations C_numbers A_letters A_lengths) ++ (wX2 g aE E_left E_right)) := hD
  refine lv_aload_n hx hb dX1_enumerate_21 rfl (lv_at hl 0 rfl) ?_
  refine lv_iconst (v := (0 : Int32)) hx hb dX1_enumerate_22 (by decide) ?_
  refine va_put (D := g.1) (ci := 1) (v := .int (0 : Int32)) (ty := .int) (C := RX1) (T := TX1) (N := 7) hx hb hts inBX1 tyX1 tyX1_ok nmX1 hown hK hP hD hS 0 rfl rfl 6 (by decide) (hts _ wd1_167) (fun _ h9 => h9) rfl (tyX1_ok 6 (by decide)) rfl rfl (Nat.le_of_ble_eq_true rfl) dX1_enumerate_23 (fun H locs hP hD hS => ?_)
  have hP : va_P g.1 vwCl ((wX1 g aB aB_first aQ aQ_weights aQ_possible aC aC_variables aC_relations aC_numbers aA aA_letters aA_lengths E_left E_right (0 : Int32) (0 : Int32) B_first Q_letterSurplus Q_weights Q_possible C_size C_variables C_relations C_numbers A_letters A_lengths) ++ (wX2 g aE E_left E_right)) H := hP
  have hD : va_D A ((wX1 g aB aB_first aQ aQ_weights aQ_possible aC aC_variables aC_relations aC_numbers aA aA_letters aA_lengths E_left E_right (0 : Int32) (0 : Int32) B_first Q_letterSurplus Q_weights Q_possible C_size C_variables C_relations C_numbers A_letters A_lengths) ++ (wX2 g aE E_left E_right)) := hD
  refine lv_aload_n hx hb dX1_enumerate_26 rfl (lv_at hl 0 rfl) ?_
  refine va_get (D := g.1) (ci := 1) (v := .ref aQ) (C := RX1) (T := TX1) (N := 7) hx hb hts inBX1 hown hK hP 0 rfl rfl 0 (by decide) (hts _ wd1_161) (fun _ h9 => h9) rfl dX1_enumerate_27 ?_
  refine lv_aload_n hx hb dX1_enumerate_30 rfl (lv_at hl 1 rfl) ?_
  refine lv_iload_n hx hb dX1_enumerate_31 rfl (lv_at hl 2 rfl) ?_
  obtain ⟨Q_letterSurplus_32, Q_weights_32, Q_possible_32, hc32, h⟩ := bd3_to h
  refine go_P (st1 := []) (W1 := ((wX1 g aB aB_first aQ aQ_weights aQ_possible aC aC_variables aC_relations aC_numbers aA aA_letters aA_lengths E_left E_right (0 : Int32) (0 : Int32) B_first Q_letterSurplus_32 Q_weights_32 Q_possible_32 C_size C_variables C_relations C_numbers A_letters A_lengths) ++ (wX2 g aE E_left E_right))) (run_V (As := [.ref aE, .int x2]) (rest := []) X hS (mX6_prepare g l  aQ aQ_weights aQ_possible aC aC_variables aC_relations aC_numbers aE Q_letterSurplus Q_weights Q_possible C_size C_variables C_relations C_numbers E_left E_right x2 Q_letterSurplus_32 Q_weights_32 Q_possible_32 hc32) okX6_prepare wd3_179 ⟨Nat.le_of_ble_eq_true rfl, Nat.le_of_ble_eq_true rfl⟩ ⟨rfl, rfl⟩ (va_recv hK hP (ci := 6) (q0 := 2) rfl rfl) (sub_P hP [2, 3, 4, 5, 6, 7, 8, 12] rfl) (hD.sub [2, 3, 4, 5, 6, 7, 8, 12] (by decide) rfl) (va_free hD hS hA [2, 3, 4, 5, 6, 7, 8, 12] rfl) rfl hl.1 rfl (Nat.le_of_ble_eq_true rfl) dX1_enumerate_32 ⟨Nat.zero_le _, Nat.zero_le _⟩) hS (va_free hD hS hA [2, 3, 4, 5, 6, 7, 8, 12] rfl) hP hD [2, 3, 4, 5, 6, 7, 8, 12] [0, 1, 9, 10, 11] [0, 1, 5, 6, 7, 8, 9, 10, 11, 2, 3, 4, 12] rfl rfl (by decide) (by decide) rfl (by decide) rfl (fun H locs hP hD hS => ?_)
  refine lv_aload_n hx hb dX1_enumerate_35 rfl (lv_at hl 0 rfl) ?_
  refine lv_iconst (v := (0 : Int32)) hx hb dX1_enumerate_36 (by decide) ?_
  refine lv_aload_n hx hb dX1_enumerate_37 rfl (lv_at hl 0 rfl) ?_
  refine va_get (D := g.1) (ci := 1) (v := .ref aQ) (C := RX1) (T := TX1) (N := 7) hx hb hts inBX1 hown hK hP 0 rfl rfl 0 (by decide) (hts _ wd1_161) (fun _ h9 => h9) rfl dX1_enumerate_38 ?_
  obtain ⟨t41, hc41, h⟩ := bd1_to h
  refine go_P (st1 := [.int t41, .int (0 : Int32), .ref aB]) (W1 := ((wX1 g aB aB_first aQ aQ_weights aQ_possible aC aC_variables aC_relations aC_numbers aA aA_letters aA_lengths E_left E_right (0 : Int32) (0 : Int32) B_first Q_letterSurplus_32 Q_weights_32 Q_possible_32 C_size C_variables C_relations C_numbers A_letters A_lengths) ++ (wX2 g aE E_left E_right))) (run_V (As := []) (rest := [.int (0 : Int32), .ref aB]) X hS (mX6_letterSurplus g l  aQ aQ_weights aQ_possible aC aC_variables aC_relations aC_numbers Q_letterSurplus_32 Q_weights_32 Q_possible_32 C_size C_variables C_relations C_numbers t41 hc41) okX6_letterSurplus wd3_194 ⟨Nat.le_of_ble_eq_true rfl, Nat.le_of_ble_eq_true rfl⟩ ⟨rfl, rfl⟩ (va_recv hK hP (ci := 6) (q0 := 2) rfl rfl) (sub_P hP [2, 3, 4, 5, 6, 7, 8] rfl) (hD.sub [2, 3, 4, 5, 6, 7, 8] (by decide) rfl) (va_free hD hS hA [2, 3, 4, 5, 6, 7, 8] rfl) rfl hl.1 rfl (Nat.le_of_ble_eq_true rfl) dX1_enumerate_41 ⟨Nat.zero_le _, Nat.zero_le _⟩) hS (va_free hD hS hA [2, 3, 4, 5, 6, 7, 8] rfl) hP hD [2, 3, 4, 5, 6, 7, 8] [0, 1, 9, 10, 11, 12] [0, 1, 6, 7, 8, 9, 10, 11, 12, 2, 3, 4, 5] rfl rfl (by decide) (by decide) rfl (by decide) rfl (fun H locs hP hD hS => ?_)
  obtain ⟨B_found_44, B_least_44, B_first_44, A_letters_44, A_lengths_44, hc44, h⟩ := bd5_to h
  refine go_P (st1 := []) (W1 := ((wX1 g aB aB_first aQ aQ_weights aQ_possible aC aC_variables aC_relations aC_numbers aA aA_letters aA_lengths E_left E_right B_found_44 B_least_44 B_first_44 Q_letterSurplus_32 Q_weights_32 Q_possible_32 C_size C_variables C_relations C_numbers A_letters_44 A_lengths_44) ++ (wX2 g aE E_left E_right))) (run_V (As := [.int (0 : Int32), .int t41]) (rest := []) X hS (mX1_chooseWord g l  aB aB_first aQ aQ_weights aQ_possible aC aC_variables aC_relations aC_numbers aA aA_letters aA_lengths E_left E_right (0 : Int32) (0 : Int32) B_first Q_letterSurplus_32 Q_weights_32 Q_possible_32 C_size C_variables C_relations C_numbers A_letters A_lengths (0 : Int32) t41 B_found_44 B_least_44 B_first_44 A_letters_44 A_lengths_44 hc44) okX1_chooseWord wd3_198 ⟨Nat.le_of_ble_eq_true rfl, Nat.le_of_ble_eq_true rfl⟩ ⟨rfl, rfl⟩ (va_recv hK hP (ci := 1) (q0 := 0) rfl rfl) (sub_P hP [0, 1, 2, 3, 4, 5, 6, 7, 8, 9, 10, 11] rfl) (hD.sub [0, 1, 2, 3, 4, 5, 6, 7, 8, 9, 10, 11] (by decide) rfl) (va_free hD hS hA [0, 1, 2, 3, 4, 5, 6, 7, 8, 9, 10, 11] rfl) rfl hl.1 rfl (Nat.le_of_ble_eq_true rfl) dX1_enumerate_44 ⟨Nat.zero_le _, Nat.zero_le _⟩) hS (va_free hD hS hA [0, 1, 2, 3, 4, 5, 6, 7, 8, 9, 10, 11] rfl) hP hD [0, 1, 2, 3, 4, 5, 6, 7, 8, 9, 10, 11] [12] [1, 2, 3, 4, 5, 6, 7, 8, 9, 10, 11, 12, 0] rfl rfl (by decide) (by decide) rfl (by decide) rfl (fun H locs hP hD hS => ?_)
  refine lv_aload_n hx hb dX1_enumerate_47 rfl (lv_at hl 0 rfl) ?_
  refine va_get (D := g.1) (ci := 1) (v := .int B_found_44) (C := RX1) (T := TX1) (N := 7) hx hb hts inBX1 hown hK hP 0 rfl rfl 5 (by decide) (hts _ wd1_166) (fun _ h9 => h9) rfl dX1_enumerate_48 ?_
  have h : some (B_found_44, E_left, E_right, B_found_44, B_least_44, B_first_44, Q_letterSurplus_32, Q_weights_32, Q_possible_32, A_letters_44, A_lengths_44) = some (r, B_left_o, B_right_o, B_found_o, B_least_o, B_first_o, Q_letterSurplus_o, Q_weights_o, Q_possible_o, A_letters_o, A_lengths_o) := h
  cases h
  exact hret _ _ _ _ hP hD hS dX1_enumerate_51
set_option maxHeartbeats 4000000 in
set_option maxRecDepth 100000 in
theorem mX11_countSolutions (g : GP) (l : Launch) (aX aT aT_characters aE aH aH_lefts aH_rights aS aS_lefts aS_rights aS_filled aA aA_letters aA_lengths aK aB aB_first aQ aQ_weights aQ_possible aC aC_variables aC_relations aC_numbers aA2 aA2_letters aA2_lengths aN aN_lefts aN_rights aN_parents aN_rules aN_depths aE2 : Nat) (T_size : Int32) (T_characters : Nat → Int32) (E_left : Int64) (E_right : Int64) (H_size : Int32) (H_lefts : Nat → Int64) (H_rights : Nat → Int64) (S_lefts : Nat → Int64) (S_rights : Nat → Int64) (S_filled : Nat → Int32) (A_letters : Nat → Int64) (A_lengths : Nat → Int32) (B_left : Int64) (B_right : Int64) (B_found : Int32) (B_least : Int32) (B_first : Nat → Int32) (Q_letterSurplus : Int32) (Q_weights : Nat → Int32) (Q_possible : Nat → Int32) (C_size : Int32) (C_variables : Nat → Int32) (C_relations : Nat → Int32) (C_numbers : Nat → Int32) (A2_letters : Nat → Int64) (A2_lengths : Nat → Int32) (N_size : Int32) (N_solved : Int32) (N_dropped : Int32) (N_lefts : Nat → Int64) (N_rights : Nat → Int64) (N_parents : Nat → Int32) (N_rules : Nat → Int32) (N_depths : Nat → Int32) (E2_left : Int64) (E2_right : Int64) (x1 : Int32) (r : Int32) (B_left_o : Int64) (B_right_o : Int64) (B_found_o : Int32) (B_least_o : Int32) (B_first_o : Nat → Int32) (Q_letterSurplus_o : Int32) (Q_weights_o : Nat → Int32) (Q_possible_o : Nat → Int32) (A2_letters_o : Nat → Int64) (A2_lengths_o : Nat → Int32) (h : fX_countSolutions E_left E_right B_left B_right B_found B_least B_first Q_letterSurplus Q_weights Q_possible C_size C_variables C_relations C_numbers A2_letters A2_lengths x1 = some (r, B_left_o, B_right_o, B_found_o, B_least_o, B_first_o, Q_letterSurplus_o, Q_weights_o, Q_possible_o, A2_letters_o, A2_lengths_o)) : Ct g l yX11_countSolutions cX11_countSolutions 2 (some .int) rmX11_countSolutions [.ref aX, .int x1] (wX11 g aX aT aT_characters aE aH aH_lefts aH_rights aS aS_lefts aS_rights aS_filled aA aA_letters aA_lengths aK aB aB_first aQ aQ_weights aQ_possible aC aC_variables aC_relations aC_numbers aA2 aA2_letters aA2_lengths aN aN_lefts aN_rights aN_parents aN_rules aN_depths aE2 T_size T_characters E_left E_right H_size H_lefts H_rights S_lefts S_rights S_filled A_letters A_lengths B_left B_right B_found B_least B_first Q_letterSurplus Q_weights Q_possible C_size C_variables C_relations C_numbers A2_letters A2_lengths N_size N_solved N_dropped N_lefts N_rights N_parents N_rules N_depths E2_left E2_right) (some (.int r)) (wX11 g aX aT aT_characters aE aH aH_lefts aH_rights aS aS_lefts aS_rights aS_filled aA aA_letters aA_lengths aK aB aB_first aQ aQ_weights aQ_possible aC aC_variables aC_relations aC_numbers aA2 aA2_letters aA2_lengths aN aN_lefts aN_rights aN_parents aN_rules aN_depths aE2 T_size T_characters E_left E_right H_size H_lefts H_rights S_lefts S_rights S_filled A_letters A_lengths B_left_o B_right_o B_found_o B_least_o B_first_o Q_letterSurplus_o Q_weights_o Q_possible_o C_size C_variables C_relations C_numbers A2_letters_o A2_lengths_o N_size N_solved N_dropped N_lefts N_rights N_parents N_rules N_depths E2_left E2_right) := by
  refine Ct.introI (by decide) (Nat.le_of_ble_eq_true rfl) ?_
  intro p e s m below meth c A QQ ls hyp hret
  obtain ⟨hx, hb, hml, hts, hown, hA, hE, hP, hD, hl⟩ := hyp
  have hK := hE.1
  have hS : va_S A s.heap s.heap [] := va_S.rf
  have X : Here g p s m c cX11_countSolutions 2 ([.ref aX, .int x1] : List Value).toArray RX11 A := ⟨⟨hx, hb, hml, hown, hts⟩, hE, hA⟩
  have hl : lv_has ls 2 [(0, .ref aX), (1, .int x1)] := hl
  obtain ⟨H, hH⟩ : ∃ H, H = s.heap := ⟨_, rfl⟩
  obtain ⟨locs, hlocs⟩ : ∃ l : List Loc, l = [] := ⟨_, rfl⟩
  rw [show W p l e rmX11_countSolutions s m ([.ref aX, .int x1] : List Value).toArray below meth c s.heap [] 0 0 QQ (F0 m 0 ls []) = W p l e rmX11_countSolutions s m ([.ref aX, .int x1] : List Value).toArray below meth c H locs 0 0 QQ (F0 m 0 ls []) by rw [hH, hlocs]]
  have hP : va_P g.1 vwCl (wX11 g aX aT aT_characters aE aH aH_lefts aH_rights aS aS_lefts aS_rights aS_filled aA aA_letters aA_lengths aK aB aB_first aQ aQ_weights aQ_possible aC aC_variables aC_relations aC_numbers aA2 aA2_letters aA2_lengths aN aN_lefts aN_rights aN_parents aN_rules aN_depths aE2 T_size T_characters E_left E_right H_size H_lefts H_rights S_lefts S_rights S_filled A_letters A_lengths B_left B_right B_found B_least B_first Q_letterSurplus Q_weights Q_possible C_size C_variables C_relations C_numbers A2_letters A2_lengths N_size N_solved N_dropped N_lefts N_rights N_parents N_rules N_depths E2_left E2_right) H := by rw [hH]; exact hP
  have hD : va_D A (wX11 g aX aT aT_characters aE aH aH_lefts aH_rights aS aS_lefts aS_rights aS_filled aA aA_letters aA_lengths aK aB aB_first aQ aQ_weights aQ_possible aC aC_variables aC_relations aC_numbers aA2 aA2_letters aA2_lengths aN aN_lefts aN_rights aN_parents aN_rules aN_depths aE2 T_size T_characters E_left E_right H_size H_lefts H_rights S_lefts S_rights S_filled A_letters A_lengths B_left B_right B_found B_least B_first Q_letterSurplus Q_weights Q_possible C_size C_variables C_relations C_numbers A2_letters A2_lengths N_size N_solved N_dropped N_lefts N_rights N_parents N_rules N_depths E2_left E2_right) := hD
  have hS : va_S A s.heap H locs := by rw [hH, hlocs]; exact hS
  clear hH hlocs
  refine lv_iload_n hx hb dX11_countSolutions_0 rfl (lv_at hl 1 rfl) ?_
  refine lv_if_lt (tgt := 9) hx hb dX11_countSolutions_1 (by decide) (fun q1 => ?_) (fun q1 => ?_)
  · have h := ifT h q1
    refine lv_bipush (v := ((-2) : Int32)) hx hb dX11_countSolutions_9 (by decide) ?_
    have h : some (((-2) : Int32), B_left, B_right, B_found, B_least, B_first, Q_letterSurplus, Q_weights, Q_possible, A2_letters, A2_lengths) = some (r, B_left_o, B_right_o, B_found_o, B_least_o, B_first_o, Q_letterSurplus_o, Q_weights_o, Q_possible_o, A2_letters_o, A2_lengths_o) := h
    cases h
    exact hret _ _ _ _ hP hD hS dX11_countSolutions_11
  have h := ifF h q1
  refine lv_iload_n hx hb dX11_countSolutions_4 rfl (lv_at hl 1 rfl) ?_
  refine lv_iconst (v := (3 : Int32)) hx hb dX11_countSolutions_5 (by decide) ?_
  refine lv_icmp_le (tgt := 12) hx hb dX11_countSolutions_6 (by decide) (fun q6 => ?_) (fun q6 => ?_)
  · have h := ifT h q6
    refine lv_aload_n hx hb dX11_countSolutions_12 rfl (lv_at hl 0 rfl) ?_
    refine va_get (D := g.1) (ci := 10) (v := .ref aB) (C := RX11) (T := TX11) (N := 10) hx hb hts inBX11 hown hK hP 0 rfl rfl 7 (by decide) (hts _ wd1_239) (fun _ h9 => h9) rfl dX11_countSolutions_13 ?_
    refine lv_aload_n hx hb dX11_countSolutions_16 rfl (lv_at hl 0 rfl) ?_
    refine va_get (D := g.1) (ci := 10) (v := .ref aE) (C := RX11) (T := TX11) (N := 10) hx hb hts inBX11 hown hK hP 0 rfl rfl 1 (by decide) (hts _ wd1_233) (fun _ h9 => h9) rfl dX11_countSolutions_17 ?_
    refine lv_iload_n hx hb dX11_countSolutions_20 rfl (lv_at hl 1 rfl) ?_
    obtain ⟨t21, B_left_21, B_right_21, B_found_21, B_least_21, B_first_21, Q_letterSurplus_21, Q_weights_21, Q_possible_21, A2_letters_21, A2_lengths_21, hc21, h⟩ := bd11_to h
    refine go_P (st1 := [.int t21]) (W1 := (wX11 g aX aT aT_characters aE aH aH_lefts aH_rights aS aS_lefts aS_rights aS_filled aA aA_letters aA_lengths aK aB aB_first aQ aQ_weights aQ_possible aC aC_variables aC_relations aC_numbers aA2 aA2_letters aA2_lengths aN aN_lefts aN_rights aN_parents aN_rules aN_depths aE2 T_size T_characters E_left E_right H_size H_lefts H_rights S_lefts S_rights S_filled A_letters A_lengths B_left_21 B_right_21 B_found_21 B_least_21 B_first_21 Q_letterSurplus_21 Q_weights_21 Q_possible_21 C_size C_variables C_relations C_numbers A2_letters_21 A2_lengths_21 N_size N_solved N_dropped N_lefts N_rights N_parents N_rules N_depths E2_left E2_right)) (run_V (As := [.ref aE, .int x1]) (rest := []) X hS (mX1_enumerate g l  aB aB_first aQ aQ_weights aQ_possible aC aC_variables aC_relations aC_numbers aA2 aA2_letters aA2_lengths aE B_left B_right B_found B_least B_first Q_letterSurplus Q_weights Q_possible C_size C_variables C_relations C_numbers A2_letters A2_lengths E_left E_right x1 t21 B_left_21 B_right_21 B_found_21 B_least_21 B_first_21 Q_letterSurplus_21 Q_weights_21 Q_possible_21 A2_letters_21 A2_lengths_21 hc21) okX1_enumerate wd3_175 ⟨Nat.le_of_ble_eq_true rfl, Nat.le_of_ble_eq_true rfl⟩ ⟨rfl, rfl⟩ (va_recv hK hP (ci := 1) (q0 := 15) rfl rfl) (sub_P hP [15, 16, 17, 18, 19, 20, 21, 22, 23, 24, 25, 26, 3] rfl) (hD.sub [15, 16, 17, 18, 19, 20, 21, 22, 23, 24, 25, 26, 3] (by decide) rfl) (va_free hD hS hA [15, 16, 17, 18, 19, 20, 21, 22, 23, 24, 25, 26, 3] rfl) rfl hl.1 rfl (Nat.le_of_ble_eq_true rfl) dX11_countSolutions_21 ⟨Nat.zero_le _, Nat.zero_le _⟩) hS (va_free hD hS hA [15, 16, 17, 18, 19, 20, 21, 22, 23, 24, 25, 26, 3] rfl) hP hD [15, 16, 17, 18, 19, 20, 21, 22, 23, 24, 25, 26, 3] [0, 1, 2, 4, 5, 6, 7, 8, 9, 10, 11, 12, 13, 14, 27, 28, 29, 30, 31, 32, 33] [0, 1, 2, 33, 3, 4, 5, 6, 7, 8, 9, 10, 11, 12, 13, 21, 22, 23, 24, 25, 26, 27, 28, 29, 30, 31, 32, 14, 15, 16, 17, 18, 19, 20] rfl rfl (by decide) (by decide) rfl (by decide) rfl (fun H locs hP hD hS => ?_)
    have h : some (t21, B_left_21, B_right_21, B_found_21, B_least_21, B_first_21, Q_letterSurplus_21, Q_weights_21, Q_possible_21, A2_letters_21, A2_lengths_21) = some (r, B_left_o, B_right_o, B_found_o, B_least_o, B_first_o, Q_letterSurplus_o, Q_weights_o, Q_possible_o, A2_letters_o, A2_lengths_o) := h
    cases h
    exact hret _ _ _ _ hP hD hS dX11_countSolutions_24
  have h := ifF h q6
  refine lv_bipush (v := ((-2) : Int32)) hx hb dX11_countSolutions_9 (by decide) ?_
  have h : some (((-2) : Int32), B_left, B_right, B_found, B_least, B_first, Q_letterSurplus, Q_weights, Q_possible, A2_letters, A2_lengths) = some (r, B_left_o, B_right_o, B_found_o, B_least_o, B_first_o, Q_letterSurplus_o, Q_weights_o, Q_possible_o, A2_letters_o, A2_lengths_o) := h
  cases h
  exact hret _ _ _ _ hP hD hS dX11_countSolutions_11
set_option maxHeartbeats 4000000 in
set_option maxRecDepth 100000 in
theorem mX1_firstNumber (g : GP) (l : Launch) (aB aB_first aQ aQ_weights aQ_possible aC aC_variables aC_relations aC_numbers aA aA_letters aA_lengths : Nat) (B_left : Int64) (B_right : Int64) (B_found : Int32) (B_least : Int32) (B_first : Nat → Int32) (Q_letterSurplus : Int32) (Q_weights : Nat → Int32) (Q_possible : Nat → Int32) (C_size : Int32) (C_variables : Nat → Int32) (C_relations : Nat → Int32) (C_numbers : Nat → Int32) (A_letters : Nat → Int64) (A_lengths : Nat → Int32) (x1 : Int32) (r : Int32) (h : fB_firstNumber B_first x1 = some r) : Ct g l yX1_firstNumber cX1_firstNumber 2 (some .int) rmX1_firstNumber [.ref aB, .int x1] (wX1 g aB aB_first aQ aQ_weights aQ_possible aC aC_variables aC_relations aC_numbers aA aA_letters aA_lengths B_left B_right B_found B_least B_first Q_letterSurplus Q_weights Q_possible C_size C_variables C_relations C_numbers A_letters A_lengths) (some (.int r)) (wX1 g aB aB_first aQ aQ_weights aQ_possible aC aC_variables aC_relations aC_numbers aA aA_letters aA_lengths B_left B_right B_found B_least B_first Q_letterSurplus Q_weights Q_possible C_size C_variables C_relations C_numbers A_letters A_lengths) := by
  refine Ct.introI (by decide) (Nat.le_of_ble_eq_true rfl) ?_
  intro p e s m below meth c A QQ ls hyp hret
  obtain ⟨hx, hb, hml, hts, hown, hA, hE, hP, hD, hl⟩ := hyp
  have hK := hE.1
  have hS : va_S A s.heap s.heap [] := va_S.rf
  have X : Here g p s m c cX1_firstNumber 2 ([.ref aB, .int x1] : List Value).toArray RX1 A := ⟨⟨hx, hb, hml, hown, hts⟩, hE, hA⟩
  have hl : lv_has ls 2 [(0, .ref aB), (1, .int x1)] := hl
  obtain ⟨H, hH⟩ : ∃ H, H = s.heap := ⟨_, rfl⟩
  obtain ⟨locs, hlocs⟩ : ∃ l : List Loc, l = [] := ⟨_, rfl⟩
  rw [show W p l e rmX1_firstNumber s m ([.ref aB, .int x1] : List Value).toArray below meth c s.heap [] 0 0 QQ (F0 m 0 ls []) = W p l e rmX1_firstNumber s m ([.ref aB, .int x1] : List Value).toArray below meth c H locs 0 0 QQ (F0 m 0 ls []) by rw [hH, hlocs]]
  have hP : va_P g.1 vwCl (wX1 g aB aB_first aQ aQ_weights aQ_possible aC aC_variables aC_relations aC_numbers aA aA_letters aA_lengths B_left B_right B_found B_least B_first Q_letterSurplus Q_weights Q_possible C_size C_variables C_relations C_numbers A_letters A_lengths) H := by rw [hH]; exact hP
  have hD : va_D A (wX1 g aB aB_first aQ aQ_weights aQ_possible aC aC_variables aC_relations aC_numbers aA aA_letters aA_lengths B_left B_right B_found B_least B_first Q_letterSurplus Q_weights Q_possible C_size C_variables C_relations C_numbers A_letters A_lengths) := hD
  have hS : va_S A s.heap H locs := by rw [hH, hlocs]; exact hS
  clear hH hlocs
  refine lv_iload_n hx hb dX1_firstNumber_0 rfl (lv_at hl 1 rfl) ?_
  obtain ⟨t1, hc1, h⟩ := bd1_to h
  refine go_0 (st1 := [.int t1]) (run_SN (As := [.int x1]) (rest := []) X hS (mX11_isVariable g l  x1 t1 hc1) okX11_isVariable (List.mem_of_getElem? (i := 7) rfl) ⟨Nat.le_of_ble_eq_true rfl, Nat.le_of_ble_eq_true rfl⟩ ⟨rfl, rfl⟩ nil_P nil_D (nil_F hS hA) rfl hl.1 rfl (Nat.le_of_ble_eq_true rfl) dX1_firstNumber_1 ⟨Nat.zero_le _, Nat.zero_le _⟩) hS hA hP rfl (fun H locs hP hS => ?_)
  refine lv_if_eq (tgt := 16) hx hb dX1_firstNumber_4 (by decide) (fun q4 => ?_) (fun q4 => ?_)
  · have h := ifT h q4
    refine lv_bipush (v := ((-9) : Int32)) hx hb dX1_firstNumber_16 (by decide) ?_
    have h : some ((-9) : Int32) = some r := h
    cases h
    exact hret _ _ _ _ hP hD hS dX1_firstNumber_18
  have h := ifF h q4
  refine lv_aload_n hx hb dX1_firstNumber_7 rfl (lv_at hl 0 rfl) ?_
  refine va_get (D := g.1) (ci := 1) (v := .ref aB_first) (C := RX1) (T := TX1) (N := 7) hx hb hts inBX1 hown hK hP 0 rfl rfl 2 (by decide) (hts _ wd1_163) (fun _ h9 => h9) rfl dX1_firstNumber_8 ?_
  refine lv_iload_n hx hb dX1_firstNumber_11 rfl (lv_at hl 1 rfl) ?_
  have hin := ld_in h
  refine va_iald hx hb hK hP 1 0 rfl rfl hin dX1_firstNumber_12 ?_
  refine lv_topi (fun t12 et12 => ?_)
  have h := ld_to h et12
  refine lv_goto (tgt := 18) hx hb dX1_firstNumber_13 (by decide) ?_
  have h : some t12 = some r := h
  cases h
  exact hret _ _ _ _ hP hD hS dX1_firstNumber_18
set_option maxHeartbeats 4000000 in
set_option maxRecDepth 100000 in
theorem mX11_firstSolution (g : GP) (l : Launch) (aX aT aT_characters aE aH aH_lefts aH_rights aS aS_lefts aS_rights aS_filled aA aA_letters aA_lengths aK aB aB_first aQ aQ_weights aQ_possible aC aC_variables aC_relations aC_numbers aA2 aA2_letters aA2_lengths aN aN_lefts aN_rights aN_parents aN_rules aN_depths aE2 : Nat) (T_size : Int32) (T_characters : Nat → Int32) (E_left : Int64) (E_right : Int64) (H_size : Int32) (H_lefts : Nat → Int64) (H_rights : Nat → Int64) (S_lefts : Nat → Int64) (S_rights : Nat → Int64) (S_filled : Nat → Int32) (A_letters : Nat → Int64) (A_lengths : Nat → Int32) (B_left : Int64) (B_right : Int64) (B_found : Int32) (B_least : Int32) (B_first : Nat → Int32) (Q_letterSurplus : Int32) (Q_weights : Nat → Int32) (Q_possible : Nat → Int32) (C_size : Int32) (C_variables : Nat → Int32) (C_relations : Nat → Int32) (C_numbers : Nat → Int32) (A2_letters : Nat → Int64) (A2_lengths : Nat → Int32) (N_size : Int32) (N_solved : Int32) (N_dropped : Int32) (N_lefts : Nat → Int64) (N_rights : Nat → Int64) (N_parents : Nat → Int32) (N_rules : Nat → Int32) (N_depths : Nat → Int32) (E2_left : Int64) (E2_right : Int64) (x1 : Int32) (x2 : Int32) (r : Int32) (B_left_o : Int64) (B_right_o : Int64) (B_found_o : Int32) (B_least_o : Int32) (B_first_o : Nat → Int32) (Q_letterSurplus_o : Int32) (Q_weights_o : Nat → Int32) (Q_possible_o : Nat → Int32) (A2_letters_o : Nat → Int64) (A2_lengths_o : Nat → Int32) (h : fX_firstSolution E_left E_right B_left B_right B_found B_least B_first Q_letterSurplus Q_weights Q_possible C_size C_variables C_relations C_numbers A2_letters A2_lengths x1 x2 = some (r, B_left_o, B_right_o, B_found_o, B_least_o, B_first_o, Q_letterSurplus_o, Q_weights_o, Q_possible_o, A2_letters_o, A2_lengths_o)) : Ct g l yX11_firstSolution cX11_firstSolution 3 (some .int) rmX11_firstSolution [.ref aX, .int x1, .int x2] (wX11 g aX aT aT_characters aE aH aH_lefts aH_rights aS aS_lefts aS_rights aS_filled aA aA_letters aA_lengths aK aB aB_first aQ aQ_weights aQ_possible aC aC_variables aC_relations aC_numbers aA2 aA2_letters aA2_lengths aN aN_lefts aN_rights aN_parents aN_rules aN_depths aE2 T_size T_characters E_left E_right H_size H_lefts H_rights S_lefts S_rights S_filled A_letters A_lengths B_left B_right B_found B_least B_first Q_letterSurplus Q_weights Q_possible C_size C_variables C_relations C_numbers A2_letters A2_lengths N_size N_solved N_dropped N_lefts N_rights N_parents N_rules N_depths E2_left E2_right) (some (.int r)) (wX11 g aX aT aT_characters aE aH aH_lefts aH_rights aS aS_lefts aS_rights aS_filled aA aA_letters aA_lengths aK aB aB_first aQ aQ_weights aQ_possible aC aC_variables aC_relations aC_numbers aA2 aA2_letters aA2_lengths aN aN_lefts aN_rights aN_parents aN_rules aN_depths aE2 T_size T_characters E_left E_right H_size H_lefts H_rights S_lefts S_rights S_filled A_letters A_lengths B_left_o B_right_o B_found_o B_least_o B_first_o Q_letterSurplus_o Q_weights_o Q_possible_o C_size C_variables C_relations C_numbers A2_letters_o A2_lengths_o N_size N_solved N_dropped N_lefts N_rights N_parents N_rules N_depths E2_left E2_right) := by
  refine Ct.introI (by decide) (Nat.le_of_ble_eq_true rfl) ?_
  intro p e s m below meth c A QQ ls hyp hret
  obtain ⟨hx, hb, hml, hts, hown, hA, hE, hP, hD, hl⟩ := hyp
  have hK := hE.1
  have hS : va_S A s.heap s.heap [] := va_S.rf
  have X : Here g p s m c cX11_firstSolution 3 ([.ref aX, .int x1, .int x2] : List Value).toArray RX11 A := ⟨⟨hx, hb, hml, hown, hts⟩, hE, hA⟩
  have hl : lv_has ls 3 [(0, .ref aX), (1, .int x1), (2, .int x2)] := hl
  obtain ⟨H, hH⟩ : ∃ H, H = s.heap := ⟨_, rfl⟩
  obtain ⟨locs, hlocs⟩ : ∃ l : List Loc, l = [] := ⟨_, rfl⟩
  rw [show W p l e rmX11_firstSolution s m ([.ref aX, .int x1, .int x2] : List Value).toArray below meth c s.heap [] 0 0 QQ (F0 m 0 ls []) = W p l e rmX11_firstSolution s m ([.ref aX, .int x1, .int x2] : List Value).toArray below meth c H locs 0 0 QQ (F0 m 0 ls []) by rw [hH, hlocs]]
  have hP : va_P g.1 vwCl (wX11 g aX aT aT_characters aE aH aH_lefts aH_rights aS aS_lefts aS_rights aS_filled aA aA_letters aA_lengths aK aB aB_first aQ aQ_weights aQ_possible aC aC_variables aC_relations aC_numbers aA2 aA2_letters aA2_lengths aN aN_lefts aN_rights aN_parents aN_rules aN_depths aE2 T_size T_characters E_left E_right H_size H_lefts H_rights S_lefts S_rights S_filled A_letters A_lengths B_left B_right B_found B_least B_first Q_letterSurplus Q_weights Q_possible C_size C_variables C_relations C_numbers A2_letters A2_lengths N_size N_solved N_dropped N_lefts N_rights N_parents N_rules N_depths E2_left E2_right) H := by rw [hH]; exact hP
  have hD : va_D A (wX11 g aX aT aT_characters aE aH aH_lefts aH_rights aS aS_lefts aS_rights aS_filled aA aA_letters aA_lengths aK aB aB_first aQ aQ_weights aQ_possible aC aC_variables aC_relations aC_numbers aA2 aA2_letters aA2_lengths aN aN_lefts aN_rights aN_parents aN_rules aN_depths aE2 T_size T_characters E_left E_right H_size H_lefts H_rights S_lefts S_rights S_filled A_letters A_lengths B_left B_right B_found B_least B_first Q_letterSurplus Q_weights Q_possible C_size C_variables C_relations C_numbers A2_letters A2_lengths N_size N_solved N_dropped N_lefts N_rights N_parents N_rules N_depths E2_left E2_right) := hD
  have hS : va_S A s.heap H locs := by rw [hH, hlocs]; exact hS
  clear hH hlocs
  refine lv_iload_n hx hb dX11_firstSolution_0 rfl (lv_at hl 2 rfl) ?_
  obtain ⟨t1, hc1, h⟩ := bd1_to h
  refine go_0 (st1 := [.int t1]) (run_S (As := [.int x2]) (rest := []) X hS (mX11_isVariable g l  x2 t1 hc1) okX11_isVariable wd3_8 ⟨Nat.le_of_ble_eq_true rfl, Nat.le_of_ble_eq_true rfl⟩ ⟨rfl, rfl⟩ nil_P nil_D (nil_F hS hA) rfl hl.1 rfl (Nat.le_of_ble_eq_true rfl) dX11_firstSolution_1 ⟨Nat.zero_le _, Nat.zero_le _⟩) hS hA hP rfl (fun H locs hP hS => ?_)
  refine lv_if_ne (tgt := 9) hx hb dX11_firstSolution_4 (by decide) (fun q4 => ?_) (fun q4 => ?_)
  · have h := ifF h q4
    refine lv_iload_n hx hb dX11_firstSolution_9 rfl (lv_at hl 1 rfl) ?_
    refine lv_if_lt (tgt := 18) hx hb dX11_firstSolution_10 (by decide) (fun q10 => ?_) (fun q10 => ?_)
    · have h := ifT h q10
      refine lv_bipush (v := ((-2) : Int32)) hx hb dX11_firstSolution_18 (by decide) ?_
      have h : some (((-2) : Int32), B_left, B_right, B_found, B_least, B_first, Q_letterSurplus, Q_weights, Q_possible, A2_letters, A2_lengths) = some (r, B_left_o, B_right_o, B_found_o, B_least_o, B_first_o, Q_letterSurplus_o, Q_weights_o, Q_possible_o, A2_letters_o, A2_lengths_o) := h
      cases h
      exact hret _ _ _ _ hP hD hS dX11_firstSolution_20
    have h := ifF h q10
    refine lv_iload_n hx hb dX11_firstSolution_13 rfl (lv_at hl 1 rfl) ?_
    refine lv_iconst (v := (3 : Int32)) hx hb dX11_firstSolution_14 (by decide) ?_
    refine lv_icmp_le (tgt := 21) hx hb dX11_firstSolution_15 (by decide) (fun q15 => ?_) (fun q15 => ?_)
    · have h := ifT h q15
      refine lv_aload_n hx hb dX11_firstSolution_21 rfl (lv_at hl 0 rfl) ?_
      refine va_get (D := g.1) (ci := 10) (v := .ref aB) (C := RX11) (T := TX11) (N := 10) hx hb hts inBX11 hown hK hP 0 rfl rfl 7 (by decide) (hts _ wd1_239) (fun _ h9 => h9) rfl dX11_firstSolution_22 ?_
      refine lv_aload_n hx hb dX11_firstSolution_25 rfl (lv_at hl 0 rfl) ?_
      refine va_get (D := g.1) (ci := 10) (v := .ref aE) (C := RX11) (T := TX11) (N := 10) hx hb hts inBX11 hown hK hP 0 rfl rfl 1 (by decide) (hts _ wd1_233) (fun _ h9 => h9) rfl dX11_firstSolution_26 ?_
      refine lv_iload_n hx hb dX11_firstSolution_29 rfl (lv_at hl 1 rfl) ?_
      obtain ⟨t30, B_left_30, B_right_30, B_found_30, B_least_30, B_first_30, Q_letterSurplus_30, Q_weights_30, Q_possible_30, A2_letters_30, A2_lengths_30, hc30, h⟩ := bd11_to h
      refine go_P (st1 := [.int t30]) (W1 := (wX11 g aX aT aT_characters aE aH aH_lefts aH_rights aS aS_lefts aS_rights aS_filled aA aA_letters aA_lengths aK aB aB_first aQ aQ_weights aQ_possible aC aC_variables aC_relations aC_numbers aA2 aA2_letters aA2_lengths aN aN_lefts aN_rights aN_parents aN_rules aN_depths aE2 T_size T_characters E_left E_right H_size H_lefts H_rights S_lefts S_rights S_filled A_letters A_lengths B_left_30 B_right_30 B_found_30 B_least_30 B_first_30 Q_letterSurplus_30 Q_weights_30 Q_possible_30 C_size C_variables C_relations C_numbers A2_letters_30 A2_lengths_30 N_size N_solved N_dropped N_lefts N_rights N_parents N_rules N_depths E2_left E2_right)) (run_V (As := [.ref aE, .int x1]) (rest := []) X hS (mX1_enumerate g l  aB aB_first aQ aQ_weights aQ_possible aC aC_variables aC_relations aC_numbers aA2 aA2_letters aA2_lengths aE B_left B_right B_found B_least B_first Q_letterSurplus Q_weights Q_possible C_size C_variables C_relations C_numbers A2_letters A2_lengths E_left E_right x1 t30 B_left_30 B_right_30 B_found_30 B_least_30 B_first_30 Q_letterSurplus_30 Q_weights_30 Q_possible_30 A2_letters_30 A2_lengths_30 hc30) okX1_enumerate wd3_175 ⟨Nat.le_of_ble_eq_true rfl, Nat.le_of_ble_eq_true rfl⟩ ⟨rfl, rfl⟩ (va_recv hK hP (ci := 1) (q0 := 15) rfl rfl) (sub_P hP [15, 16, 17, 18, 19, 20, 21, 22, 23, 24, 25, 26, 3] rfl) (hD.sub [15, 16, 17, 18, 19, 20, 21, 22, 23, 24, 25, 26, 3] (by decide) rfl) (va_free hD hS hA [15, 16, 17, 18, 19, 20, 21, 22, 23, 24, 25, 26, 3] rfl) rfl hl.1 rfl (Nat.le_of_ble_eq_true rfl) dX11_firstSolution_30 ⟨Nat.zero_le _, Nat.zero_le _⟩) hS (va_free hD hS hA [15, 16, 17, 18, 19, 20, 21, 22, 23, 24, 25, 26, 3] rfl) hP hD [15, 16, 17, 18, 19, 20, 21, 22, 23, 24, 25, 26, 3] [0, 1, 2, 4, 5, 6, 7, 8, 9, 10, 11, 12, 13, 14, 27, 28, 29, 30, 31, 32, 33] [0, 1, 2, 33, 3, 4, 5, 6, 7, 8, 9, 10, 11, 12, 13, 21, 22, 23, 24, 25, 26, 27, 28, 29, 30, 31, 32, 14, 15, 16, 17, 18, 19, 20] rfl rfl (by decide) (by decide) rfl (by decide) rfl (fun H locs hP hD hS => ?_)
      refine lv_if_ne (tgt := 41) hx hb dX11_firstSolution_33 (by decide) (fun q33 => ?_) (fun q33 => ?_)
      · have h := ifF h q33
        refine lv_aload_n hx hb dX11_firstSolution_41 rfl (lv_at hl 0 rfl) ?_
        refine va_get (D := g.1) (ci := 10) (v := .ref aB) (C := RX11) (T := TX11) (N := 10) hx hb hts inBX11 hown hK hP 0 rfl rfl 7 (by decide) (hts _ wd1_239) (fun _ h9 => h9) rfl dX11_firstSolution_42 ?_
        refine lv_iload_n hx hb dX11_firstSolution_45 rfl (lv_at hl 2 rfl) ?_
        obtain ⟨t46, hc46, h⟩ := bd1_to h
        refine go_P (st1 := [.int t46]) (W1 := (wX11 g aX aT aT_characters aE aH aH_lefts aH_rights aS aS_lefts aS_rights aS_filled aA aA_letters aA_lengths aK aB aB_first aQ aQ_weights aQ_possible aC aC_variables aC_relations aC_numbers aA2 aA2_letters aA2_lengths aN aN_lefts aN_rights aN_parents aN_rules aN_depths aE2 T_size T_characters E_left E_right H_size H_lefts H_rights S_lefts S_rights S_filled A_letters A_lengths B_left_30 B_right_30 B_found_30 B_least_30 B_first_30 Q_letterSurplus_30 Q_weights_30 Q_possible_30 C_size C_variables C_relations C_numbers A2_letters_30 A2_lengths_30 N_size N_solved N_dropped N_lefts N_rights N_parents N_rules N_depths E2_left E2_right)) (run_V (As := [.int x2]) (rest := []) X hS (mX1_firstNumber g l  aB aB_first aQ aQ_weights aQ_possible aC aC_variables aC_relations aC_numbers aA2 aA2_letters aA2_lengths B_left_30 B_right_30 B_found_30 B_least_30 B_first_30 Q_letterSurplus_30 Q_weights_30 Q_possible_30 C_size C_variables C_relations C_numbers A2_letters_30 A2_lengths_30 x2 t46 hc46) okX1_firstNumber wd4_1 ⟨Nat.le_of_ble_eq_true rfl, Nat.le_of_ble_eq_true rfl⟩ ⟨rfl, rfl⟩ (va_recv hK hP (ci := 1) (q0 := 15) rfl rfl) (sub_P hP [15, 16, 17, 18, 19, 20, 21, 22, 23, 24, 25, 26] rfl) (hD.sub [15, 16, 17, 18, 19, 20, 21, 22, 23, 24, 25, 26] (by decide) rfl) (va_free hD hS hA [15, 16, 17, 18, 19, 20, 21, 22, 23, 24, 25, 26] rfl) rfl hl.1 rfl (Nat.le_of_ble_eq_true rfl) dX11_firstSolution_46 ⟨Nat.zero_le _, Nat.zero_le _⟩) hS (va_free hD hS hA [15, 16, 17, 18, 19, 20, 21, 22, 23, 24, 25, 26] rfl) hP hD [15, 16, 17, 18, 19, 20, 21, 22, 23, 24, 25, 26] [0, 1, 2, 3, 4, 5, 6, 7, 8, 9, 10, 11, 12, 13, 14, 27, 28, 29, 30, 31, 32, 33] [0, 1, 2, 3, 4, 5, 6, 7, 8, 9, 10, 11, 12, 13, 14, 22, 23, 24, 25, 26, 27, 28, 29, 30, 31, 32, 33, 15, 16, 17, 18, 19, 20, 21] rfl rfl (by decide) (by decide) rfl (by decide) rfl (fun H locs hP hD hS => ?_)
        have h : some (t46, B_left_30, B_right_30, B_found_30, B_least_30, B_first_30, Q_letterSurplus_30, Q_weights_30, Q_possible_30, A2_letters_30, A2_lengths_30) = some (r, B_left_o, B_right_o, B_found_o, B_least_o, B_first_o, Q_letterSurplus_o, Q_weights_o, Q_possible_o, A2_letters_o, A2_lengths_o) := h
        cases h
        exact hret _ _ _ _ hP hD hS dX11_firstSolution_49
      have h := ifT h q33
      refine lv_bipush (v := ((-9) : Int32)) hx hb dX11_firstSolution_36 (by decide) ?_
      refine lv_goto (tgt := 49) hx hb dX11_firstSolution_38 (by decide) ?_
      have h : some (((-9) : Int32), B_left_30, B_right_30, B_found_30, B_least_30, B_first_30, Q_letterSurplus_30, Q_weights_30, Q_possible_30, A2_letters_30, A2_lengths_30) = some (r, B_left_o, B_right_o, B_found_o, B_least_o, B_first_o, Q_letterSurplus_o, Q_weights_o, Q_possible_o, A2_letters_o, A2_lengths_o) := h
      cases h
      exact hret _ _ _ _ hP hD hS dX11_firstSolution_49
    have h := ifF h q15
    refine lv_bipush (v := ((-2) : Int32)) hx hb dX11_firstSolution_18 (by decide) ?_
    have h : some (((-2) : Int32), B_left, B_right, B_found, B_least, B_first, Q_letterSurplus, Q_weights, Q_possible, A2_letters, A2_lengths) = some (r, B_left_o, B_right_o, B_found_o, B_least_o, B_first_o, Q_letterSurplus_o, Q_weights_o, Q_possible_o, A2_letters_o, A2_lengths_o) := h
    cases h
    exact hret _ _ _ _ hP hD hS dX11_firstSolution_20
  have h := ifT h q4
  refine lv_iconst (v := ((-1) : Int32)) hx hb dX11_firstSolution_7 (by decide) ?_
  have h : some (((-1) : Int32), B_left, B_right, B_found, B_least, B_first, Q_letterSurplus, Q_weights, Q_possible, A2_letters, A2_lengths) = some (r, B_left_o, B_right_o, B_found_o, B_least_o, B_first_o, Q_letterSurplus_o, Q_weights_o, Q_possible_o, A2_letters_o, A2_lengths_o) := h
  cases h
  exact hret _ _ _ _ hP hD hS dX11_firstSolution_8
set_option maxHeartbeats 4000000 in
set_option maxRecDepth 100000 in
theorem mX1_leastTotal (g : GP) (l : Launch) (aB aB_first aQ aQ_weights aQ_possible aC aC_variables aC_relations aC_numbers aA aA_letters aA_lengths : Nat) (B_left : Int64) (B_right : Int64) (B_found : Int32) (B_least : Int32) (B_first : Nat → Int32) (Q_letterSurplus : Int32) (Q_weights : Nat → Int32) (Q_possible : Nat → Int32) (C_size : Int32) (C_variables : Nat → Int32) (C_relations : Nat → Int32) (C_numbers : Nat → Int32) (A_letters : Nat → Int64) (A_lengths : Nat → Int32)  (r : Int32) (h : fB_leastTotal B_least = some r) : Ct g l yX1_leastTotal cX1_leastTotal 1 (some .int) rmX1_leastTotal [.ref aB] (wX1 g aB aB_first aQ aQ_weights aQ_possible aC aC_variables aC_relations aC_numbers aA aA_letters aA_lengths B_left B_right B_found B_least B_first Q_letterSurplus Q_weights Q_possible C_size C_variables C_relations C_numbers A_letters A_lengths) (some (.int r)) (wX1 g aB aB_first aQ aQ_weights aQ_possible aC aC_variables aC_relations aC_numbers aA aA_letters aA_lengths B_left B_right B_found B_least B_first Q_letterSurplus Q_weights Q_possible C_size C_variables C_relations C_numbers A_letters A_lengths) := by
  refine Ct.introI (by decide) (Nat.le_of_ble_eq_true rfl) ?_
  intro p e s m below meth c A QQ ls hyp hret
  obtain ⟨hx, hb, hml, hts, hown, hA, hE, hP, hD, hl⟩ := hyp
  have hK := hE.1
  have hS : va_S A s.heap s.heap [] := va_S.rf
  have X : Here g p s m c cX1_leastTotal 1 ([.ref aB] : List Value).toArray RX1 A := ⟨⟨hx, hb, hml, hown, hts⟩, hE, hA⟩
  have hl : lv_has ls 1 [(0, .ref aB)] := hl
  obtain ⟨H, hH⟩ : ∃ H, H = s.heap := ⟨_, rfl⟩
  obtain ⟨locs, hlocs⟩ : ∃ l : List Loc, l = [] := ⟨_, rfl⟩
  rw [show W p l e rmX1_leastTotal s m ([.ref aB] : List Value).toArray below meth c s.heap [] 0 0 QQ (F0 m 0 ls []) = W p l e rmX1_leastTotal s m ([.ref aB] : List Value).toArray below meth c H locs 0 0 QQ (F0 m 0 ls []) by rw [hH, hlocs]]
  have hP : va_P g.1 vwCl (wX1 g aB aB_first aQ aQ_weights aQ_possible aC aC_variables aC_relations aC_numbers aA aA_letters aA_lengths B_left B_right B_found B_least B_first Q_letterSurplus Q_weights Q_possible C_size C_variables C_relations C_numbers A_letters A_lengths) H := by rw [hH]; exact hP
  have hD : va_D A (wX1 g aB aB_first aQ aQ_weights aQ_possible aC aC_variables aC_relations aC_numbers aA aA_letters aA_lengths B_left B_right B_found B_least B_first Q_letterSurplus Q_weights Q_possible C_size C_variables C_relations C_numbers A_letters A_lengths) := hD
  have hS : va_S A s.heap H locs := by rw [hH, hlocs]; exact hS
  clear hH hlocs
  refine lv_aload_n hx hb dX1_leastTotal_0 rfl (lv_at hl 0 rfl) ?_
  refine va_get (D := g.1) (ci := 1) (v := .int B_least) (C := RX1) (T := TX1) (N := 7) hx hb hts inBX1 hown hK hP 0 rfl rfl 6 (by decide) (hts _ wd1_167) (fun _ h9 => h9) rfl dX1_leastTotal_1 ?_
  have h : some B_least = some r := h
  cases h
  exact hret _ _ _ _ hP hD hS dX1_leastTotal_4
set_option maxHeartbeats 4000000 in
set_option maxRecDepth 100000 in
theorem mX11_leastTotalLength (g : GP) (l : Launch) (aX aT aT_characters aE aH aH_lefts aH_rights aS aS_lefts aS_rights aS_filled aA aA_letters aA_lengths aK aB aB_first aQ aQ_weights aQ_possible aC aC_variables aC_relations aC_numbers aA2 aA2_letters aA2_lengths aN aN_lefts aN_rights aN_parents aN_rules aN_depths aE2 : Nat) (T_size : Int32) (T_characters : Nat → Int32) (E_left : Int64) (E_right : Int64) (H_size : Int32) (H_lefts : Nat → Int64) (H_rights : Nat → Int64) (S_lefts : Nat → Int64) (S_rights : Nat → Int64) (S_filled : Nat → Int32) (A_letters : Nat → Int64) (A_lengths : Nat → Int32) (B_left : Int64) (B_right : Int64) (B_found : Int32) (B_least : Int32) (B_first : Nat → Int32) (Q_letterSurplus : Int32) (Q_weights : Nat → Int32) (Q_possible : Nat → Int32) (C_size : Int32) (C_variables : Nat → Int32) (C_relations : Nat → Int32) (C_numbers : Nat → Int32) (A2_letters : Nat → Int64) (A2_lengths : Nat → Int32) (N_size : Int32) (N_solved : Int32) (N_dropped : Int32) (N_lefts : Nat → Int64) (N_rights : Nat → Int64) (N_parents : Nat → Int32) (N_rules : Nat → Int32) (N_depths : Nat → Int32) (E2_left : Int64) (E2_right : Int64) (x1 : Int32) (r : Int32) (B_left_o : Int64) (B_right_o : Int64) (B_found_o : Int32) (B_least_o : Int32) (B_first_o : Nat → Int32) (Q_letterSurplus_o : Int32) (Q_weights_o : Nat → Int32) (Q_possible_o : Nat → Int32) (A2_letters_o : Nat → Int64) (A2_lengths_o : Nat → Int32) (h : fX_leastTotalLength E_left E_right B_left B_right B_found B_least B_first Q_letterSurplus Q_weights Q_possible C_size C_variables C_relations C_numbers A2_letters A2_lengths x1 = some (r, B_left_o, B_right_o, B_found_o, B_least_o, B_first_o, Q_letterSurplus_o, Q_weights_o, Q_possible_o, A2_letters_o, A2_lengths_o)) : Ct g l yX11_leastTotalLength cX11_leastTotalLength 2 (some .int) rmX11_leastTotalLength [.ref aX, .int x1] (wX11 g aX aT aT_characters aE aH aH_lefts aH_rights aS aS_lefts aS_rights aS_filled aA aA_letters aA_lengths aK aB aB_first aQ aQ_weights aQ_possible aC aC_variables aC_relations aC_numbers aA2 aA2_letters aA2_lengths aN aN_lefts aN_rights aN_parents aN_rules aN_depths aE2 T_size T_characters E_left E_right H_size H_lefts H_rights S_lefts S_rights S_filled A_letters A_lengths B_left B_right B_found B_least B_first Q_letterSurplus Q_weights Q_possible C_size C_variables C_relations C_numbers A2_letters A2_lengths N_size N_solved N_dropped N_lefts N_rights N_parents N_rules N_depths E2_left E2_right) (some (.int r)) (wX11 g aX aT aT_characters aE aH aH_lefts aH_rights aS aS_lefts aS_rights aS_filled aA aA_letters aA_lengths aK aB aB_first aQ aQ_weights aQ_possible aC aC_variables aC_relations aC_numbers aA2 aA2_letters aA2_lengths aN aN_lefts aN_rights aN_parents aN_rules aN_depths aE2 T_size T_characters E_left E_right H_size H_lefts H_rights S_lefts S_rights S_filled A_letters A_lengths B_left_o B_right_o B_found_o B_least_o B_first_o Q_letterSurplus_o Q_weights_o Q_possible_o C_size C_variables C_relations C_numbers A2_letters_o A2_lengths_o N_size N_solved N_dropped N_lefts N_rights N_parents N_rules N_depths E2_left E2_right) := by
  refine Ct.introI (by decide) (Nat.le_of_ble_eq_true rfl) ?_
  intro p e s m below meth c A QQ ls hyp hret
  obtain ⟨hx, hb, hml, hts, hown, hA, hE, hP, hD, hl⟩ := hyp
  have hK := hE.1
  have hS : va_S A s.heap s.heap [] := va_S.rf
  have X : Here g p s m c cX11_leastTotalLength 2 ([.ref aX, .int x1] : List Value).toArray RX11 A := ⟨⟨hx, hb, hml, hown, hts⟩, hE, hA⟩
  have hl : lv_has ls 2 [(0, .ref aX), (1, .int x1)] := hl
  obtain ⟨H, hH⟩ : ∃ H, H = s.heap := ⟨_, rfl⟩
  obtain ⟨locs, hlocs⟩ : ∃ l : List Loc, l = [] := ⟨_, rfl⟩
  rw [show W p l e rmX11_leastTotalLength s m ([.ref aX, .int x1] : List Value).toArray below meth c s.heap [] 0 0 QQ (F0 m 0 ls []) = W p l e rmX11_leastTotalLength s m ([.ref aX, .int x1] : List Value).toArray below meth c H locs 0 0 QQ (F0 m 0 ls []) by rw [hH, hlocs]]
  have hP : va_P g.1 vwCl (wX11 g aX aT aT_characters aE aH aH_lefts aH_rights aS aS_lefts aS_rights aS_filled aA aA_letters aA_lengths aK aB aB_first aQ aQ_weights aQ_possible aC aC_variables aC_relations aC_numbers aA2 aA2_letters aA2_lengths aN aN_lefts aN_rights aN_parents aN_rules aN_depths aE2 T_size T_characters E_left E_right H_size H_lefts H_rights S_lefts S_rights S_filled A_letters A_lengths B_left B_right B_found B_least B_first Q_letterSurplus Q_weights Q_possible C_size C_variables C_relations C_numbers A2_letters A2_lengths N_size N_solved N_dropped N_lefts N_rights N_parents N_rules N_depths E2_left E2_right) H := by rw [hH]; exact hP
  have hD : va_D A (wX11 g aX aT aT_characters aE aH aH_lefts aH_rights aS aS_lefts aS_rights aS_filled aA aA_letters aA_lengths aK aB aB_first aQ aQ_weights aQ_possible aC aC_variables aC_relations aC_numbers aA2 aA2_letters aA2_lengths aN aN_lefts aN_rights aN_parents aN_rules aN_depths aE2 T_size T_characters E_left E_right H_size H_lefts H_rights S_lefts S_rights S_filled A_letters A_lengths B_left B_right B_found B_least B_first Q_letterSurplus Q_weights Q_possible C_size C_variables C_relations C_numbers A2_letters A2_lengths N_size N_solved N_dropped N_lefts N_rights N_parents N_rules N_depths E2_left E2_right) := hD
  have hS : va_S A s.heap H locs := by rw [hH, hlocs]; exact hS
  clear hH hlocs
  refine lv_iload_n hx hb dX11_leastTotalLength_0 rfl (lv_at hl 1 rfl) ?_
  refine lv_if_lt (tgt := 9) hx hb dX11_leastTotalLength_1 (by decide) (fun q1 => ?_) (fun q1 => ?_)
  · have h := ifT h q1
    refine lv_bipush (v := ((-2) : Int32)) hx hb dX11_leastTotalLength_9 (by decide) ?_
    have h : some (((-2) : Int32), B_left, B_right, B_found, B_least, B_first, Q_letterSurplus, Q_weights, Q_possible, A2_letters, A2_lengths) = some (r, B_left_o, B_right_o, B_found_o, B_least_o, B_first_o, Q_letterSurplus_o, Q_weights_o, Q_possible_o, A2_letters_o, A2_lengths_o) := h
    cases h
    exact hret _ _ _ _ hP hD hS dX11_leastTotalLength_11
  have h := ifF h q1
  refine lv_iload_n hx hb dX11_leastTotalLength_4 rfl (lv_at hl 1 rfl) ?_
  refine lv_iconst (v := (3 : Int32)) hx hb dX11_leastTotalLength_5 (by decide) ?_
  refine lv_icmp_le (tgt := 12) hx hb dX11_leastTotalLength_6 (by decide) (fun q6 => ?_) (fun q6 => ?_)
  · have h := ifT h q6
    refine lv_aload_n hx hb dX11_leastTotalLength_12 rfl (lv_at hl 0 rfl) ?_
    refine va_get (D := g.1) (ci := 10) (v := .ref aB) (C := RX11) (T := TX11) (N := 10) hx hb hts inBX11 hown hK hP 0 rfl rfl 7 (by decide) (hts _ wd1_239) (fun _ h9 => h9) rfl dX11_leastTotalLength_13 ?_
    refine lv_aload_n hx hb dX11_leastTotalLength_16 rfl (lv_at hl 0 rfl) ?_
    refine va_get (D := g.1) (ci := 10) (v := .ref aE) (C := RX11) (T := TX11) (N := 10) hx hb hts inBX11 hown hK hP 0 rfl rfl 1 (by decide) (hts _ wd1_233) (fun _ h9 => h9) rfl dX11_leastTotalLength_17 ?_
    refine lv_iload_n hx hb dX11_leastTotalLength_20 rfl (lv_at hl 1 rfl) ?_
    obtain ⟨t21, B_left_21, B_right_21, B_found_21, B_least_21, B_first_21, Q_letterSurplus_21, Q_weights_21, Q_possible_21, A2_letters_21, A2_lengths_21, hc21, h⟩ := bd11_to h
    refine go_P (st1 := [.int t21]) (W1 := (wX11 g aX aT aT_characters aE aH aH_lefts aH_rights aS aS_lefts aS_rights aS_filled aA aA_letters aA_lengths aK aB aB_first aQ aQ_weights aQ_possible aC aC_variables aC_relations aC_numbers aA2 aA2_letters aA2_lengths aN aN_lefts aN_rights aN_parents aN_rules aN_depths aE2 T_size T_characters E_left E_right H_size H_lefts H_rights S_lefts S_rights S_filled A_letters A_lengths B_left_21 B_right_21 B_found_21 B_least_21 B_first_21 Q_letterSurplus_21 Q_weights_21 Q_possible_21 C_size C_variables C_relations C_numbers A2_letters_21 A2_lengths_21 N_size N_solved N_dropped N_lefts N_rights N_parents N_rules N_depths E2_left E2_right)) (run_V (As := [.ref aE, .int x1]) (rest := []) X hS (mX1_enumerate g l  aB aB_first aQ aQ_weights aQ_possible aC aC_variables aC_relations aC_numbers aA2 aA2_letters aA2_lengths aE B_left B_right B_found B_least B_first Q_letterSurplus Q_weights Q_possible C_size C_variables C_relations C_numbers A2_letters A2_lengths E_left E_right x1 t21 B_left_21 B_right_21 B_found_21 B_least_21 B_first_21 Q_letterSurplus_21 Q_weights_21 Q_possible_21 A2_letters_21 A2_lengths_21 hc21) okX1_enumerate wd3_175 ⟨Nat.le_of_ble_eq_true rfl, Nat.le_of_ble_eq_true rfl⟩ ⟨rfl, rfl⟩ (va_recv hK hP (ci := 1) (q0 := 15) rfl rfl) (sub_P hP [15, 16, 17, 18, 19, 20, 21, 22, 23, 24, 25, 26, 3] rfl) (hD.sub [15, 16, 17, 18, 19, 20, 21, 22, 23, 24, 25, 26, 3] (by decide) rfl) (va_free hD hS hA [15, 16, 17, 18, 19, 20, 21, 22, 23, 24, 25, 26, 3] rfl) rfl hl.1 rfl (Nat.le_of_ble_eq_true rfl) dX11_leastTotalLength_21 ⟨Nat.zero_le _, Nat.zero_le _⟩) hS (va_free hD hS hA [15, 16, 17, 18, 19, 20, 21, 22, 23, 24, 25, 26, 3] rfl) hP hD [15, 16, 17, 18, 19, 20, 21, 22, 23, 24, 25, 26, 3] [0, 1, 2, 4, 5, 6, 7, 8, 9, 10, 11, 12, 13, 14, 27, 28, 29, 30, 31, 32, 33] [0, 1, 2, 33, 3, 4, 5, 6, 7, 8, 9, 10, 11, 12, 13, 21, 22, 23, 24, 25, 26, 27, 28, 29, 30, 31, 32, 14, 15, 16, 17, 18, 19, 20] rfl rfl (by decide) (by decide) rfl (by decide) rfl (fun H locs hP hD hS => ?_)
    refine lv_if_ne (tgt := 32) hx hb dX11_leastTotalLength_24 (by decide) (fun q24 => ?_) (fun q24 => ?_)
    · have h := ifF h q24
      refine lv_aload_n hx hb dX11_leastTotalLength_32 rfl (lv_at hl 0 rfl) ?_
      refine va_get (D := g.1) (ci := 10) (v := .ref aB) (C := RX11) (T := TX11) (N := 10) hx hb hts inBX11 hown hK hP 0 rfl rfl 7 (by decide) (hts _ wd1_239) (fun _ h9 => h9) rfl dX11_leastTotalLength_33 ?_
      obtain ⟨t36, hc36, h⟩ := bd1_to h
      refine go_P (st1 := [.int t36]) (W1 := (wX11 g aX aT aT_characters aE aH aH_lefts aH_rights aS aS_lefts aS_rights aS_filled aA aA_letters aA_lengths aK aB aB_first aQ aQ_weights aQ_possible aC aC_variables aC_relations aC_numbers aA2 aA2_letters aA2_lengths aN aN_lefts aN_rights aN_parents aN_rules aN_depths aE2 T_size T_characters E_left E_right H_size H_lefts H_rights S_lefts S_rights S_filled A_letters A_lengths B_left_21 B_right_21 B_found_21 B_least_21 B_first_21 Q_letterSurplus_21 Q_weights_21 Q_possible_21 C_size C_variables C_relations C_numbers A2_letters_21 A2_lengths_21 N_size N_solved N_dropped N_lefts N_rights N_parents N_rules N_depths E2_left E2_right)) (run_V (As := []) (rest := []) X hS (mX1_leastTotal g l  aB aB_first aQ aQ_weights aQ_possible aC aC_variables aC_relations aC_numbers aA2 aA2_letters aA2_lengths B_left_21 B_right_21 B_found_21 B_least_21 B_first_21 Q_letterSurplus_21 Q_weights_21 Q_possible_21 C_size C_variables C_relations C_numbers A2_letters_21 A2_lengths_21 t36 hc36) okX1_leastTotal wd4_9 ⟨Nat.le_of_ble_eq_true rfl, Nat.le_of_ble_eq_true rfl⟩ ⟨rfl, rfl⟩ (va_recv hK hP (ci := 1) (q0 := 15) rfl rfl) (sub_P hP [15, 16, 17, 18, 19, 20, 21, 22, 23, 24, 25, 26] rfl) (hD.sub [15, 16, 17, 18, 19, 20, 21, 22, 23, 24, 25, 26] (by decide) rfl) (va_free hD hS hA [15, 16, 17, 18, 19, 20, 21, 22, 23, 24, 25, 26] rfl) rfl hl.1 rfl (Nat.le_of_ble_eq_true rfl) dX11_leastTotalLength_36 ⟨Nat.zero_le _, Nat.zero_le _⟩) hS (va_free hD hS hA [15, 16, 17, 18, 19, 20, 21, 22, 23, 24, 25, 26] rfl) hP hD [15, 16, 17, 18, 19, 20, 21, 22, 23, 24, 25, 26] [0, 1, 2, 3, 4, 5, 6, 7, 8, 9, 10, 11, 12, 13, 14, 27, 28, 29, 30, 31, 32, 33] [0, 1, 2, 3, 4, 5, 6, 7, 8, 9, 10, 11, 12, 13, 14, 22, 23, 24, 25, 26, 27, 28, 29, 30, 31, 32, 33, 15, 16, 17, 18, 19, 20, 21] rfl rfl (by decide) (by decide) rfl (by decide) rfl (fun H locs hP hD hS => ?_)
      have h : some (t36, B_left_21, B_right_21, B_found_21, B_least_21, B_first_21, Q_letterSurplus_21, Q_weights_21, Q_possible_21, A2_letters_21, A2_lengths_21) = some (r, B_left_o, B_right_o, B_found_o, B_least_o, B_first_o, Q_letterSurplus_o, Q_weights_o, Q_possible_o, A2_letters_o, A2_lengths_o) := h
      cases h
      exact hret _ _ _ _ hP hD hS dX11_leastTotalLength_39
    have h := ifT h q24
    refine lv_bipush (v := ((-9) : Int32)) hx hb dX11_leastTotalLength_27 (by decide) ?_
    refine lv_goto (tgt := 39) hx hb dX11_leastTotalLength_29 (by decide) ?_
    have h : some (((-9) : Int32), B_left_21, B_right_21, B_found_21, B_least_21, B_first_21, Q_letterSurplus_21, Q_weights_21, Q_possible_21, A2_letters_21, A2_lengths_21) = some (r, B_left_o, B_right_o, B_found_o, B_least_o, B_first_o, Q_letterSurplus_o, Q_weights_o, Q_possible_o, A2_letters_o, A2_lengths_o) := h
    cases h
    exact hret _ _ _ _ hP hD hS dX11_leastTotalLength_39
  have h := ifF h q6
  refine lv_bipush (v := ((-2) : Int32)) hx hb dX11_leastTotalLength_9 (by decide) ?_
  have h : some (((-2) : Int32), B_left, B_right, B_found, B_least, B_first, Q_letterSurplus, Q_weights, Q_possible, A2_letters, A2_lengths) = some (r, B_left_o, B_right_o, B_found_o, B_least_o, B_first_o, Q_letterSurplus_o, Q_weights_o, Q_possible_o, A2_letters_o, A2_lengths_o) := h
  cases h
  exact hret _ _ _ _ hP hD hS dX11_leastTotalLength_11
set_option maxHeartbeats 4000000 in
set_option maxRecDepth 100000 in
theorem mX6_solutions (g : GP) (l : Launch) (aQ aQ_weights aQ_possible aC aC_variables aC_relations aC_numbers : Nat) (Q_letterSurplus : Int32) (Q_weights : Nat → Int32) (Q_possible : Nat → Int32) (C_size : Int32) (C_variables : Nat → Int32) (C_relations : Nat → Int32) (C_numbers : Nat → Int32)  (r : Int32) (h : fQ_solutions Q_letterSurplus Q_weights Q_possible = some r) : Ct g l yX6_solutions cX6_solutions 1 (some .int) rmX6_solutions [.ref aQ] (wX6 g aQ aQ_weights aQ_possible aC aC_variables aC_relations aC_numbers Q_letterSurplus Q_weights Q_possible C_size C_variables C_relations C_numbers) (some (.int r)) (wX6 g aQ aQ_weights aQ_possible aC aC_variables aC_relations aC_numbers Q_letterSurplus Q_weights Q_possible C_size C_variables C_relations C_numbers) := by
  refine Ct.introI (by decide) (Nat.le_of_ble_eq_true rfl) ?_
  intro p e s m below meth c A QQ ls hyp hret
  obtain ⟨hx, hb, hml, hts, hown, hA, hE, hP, hD, hl⟩ := hyp
  have hK := hE.1
  have hS : va_S A s.heap s.heap [] := va_S.rf
  have X : Here g p s m c cX6_solutions 1 ([.ref aQ] : List Value).toArray RX6 A := ⟨⟨hx, hb, hml, hown, hts⟩, hE, hA⟩
  have hl : lv_has ls 1 [(0, .ref aQ)] := hl
  obtain ⟨H, hH⟩ : ∃ H, H = s.heap := ⟨_, rfl⟩
  obtain ⟨locs, hlocs⟩ : ∃ l : List Loc, l = [] := ⟨_, rfl⟩
  rw [show W p l e rmX6_solutions s m ([.ref aQ] : List Value).toArray below meth c s.heap [] 0 0 QQ (F0 m 0 ls []) = W p l e rmX6_solutions s m ([.ref aQ] : List Value).toArray below meth c H locs 0 0 QQ (F0 m 0 ls []) by rw [hH, hlocs]]
  have hP : va_P g.1 vwCl (wX6 g aQ aQ_weights aQ_possible aC aC_variables aC_relations aC_numbers Q_letterSurplus Q_weights Q_possible C_size C_variables C_relations C_numbers) H := by rw [hH]; exact hP
  have hD : va_D A (wX6 g aQ aQ_weights aQ_possible aC aC_variables aC_relations aC_numbers Q_letterSurplus Q_weights Q_possible C_size C_variables C_relations C_numbers) := hD
  have hS : va_S A s.heap H locs := by rw [hH, hlocs]; exact hS
  clear hH hlocs
  refine lv_aload_n hx hb dX6_solutions_0 rfl (lv_at hl 0 rfl) ?_
  refine lv_iconst (v := (0 : Int32)) hx hb dX6_solutions_1 (by decide) ?_
  refine lv_aload_n hx hb dX6_solutions_2 rfl (lv_at hl 0 rfl) ?_
  refine va_get (D := g.1) (ci := 6) (v := .int Q_letterSurplus) (C := RX6) (T := TX6) (N := 4) hx hb hts inBX6 hown hK hP 0 rfl rfl 3 (by decide) (hts _ wd1_143) (fun _ h9 => h9) rfl dX6_solutions_3 ?_
  obtain ⟨t6, hc6, h⟩ := bd1_to h
  refine go_A (st1 := [.int t6]) (run_V (As := [.int (0 : Int32), .int Q_letterSurplus]) (rest := []) X hS (mX6_waysFrom g l  aQ aQ_weights aQ_possible aC aC_variables aC_relations aC_numbers Q_letterSurplus Q_weights Q_possible C_size C_variables C_relations C_numbers (0 : Int32) Q_letterSurplus t6 hc6) okX6_waysFrom wd3_232 ⟨Nat.le_of_ble_eq_true rfl, Nat.le_of_ble_eq_true rfl⟩ ⟨rfl, rfl⟩ (va_recv hK hP (ci := 6) (q0 := 0) rfl rfl) hP hD (all_F hS hA hD) rfl hl.1 rfl (Nat.le_of_ble_eq_true rfl) dX6_solutions_6 ⟨Nat.zero_le _, Nat.zero_le _⟩) hS (all_F hS hA hD) rfl (fun H locs hP hD hS => ?_)
  have h : some t6 = some r := h
  cases h
  exact hret _ _ _ _ hP hD hS dX6_solutions_9
set_option maxHeartbeats 4000000 in
set_option maxRecDepth 100000 in
theorem mX11_countLengths (g : GP) (l : Launch) (aX aT aT_characters aE aH aH_lefts aH_rights aS aS_lefts aS_rights aS_filled aA aA_letters aA_lengths aK aB aB_first aQ aQ_weights aQ_possible aC aC_variables aC_relations aC_numbers aA2 aA2_letters aA2_lengths aN aN_lefts aN_rights aN_parents aN_rules aN_depths aE2 : Nat) (T_size : Int32) (T_characters : Nat → Int32) (E_left : Int64) (E_right : Int64) (H_size : Int32) (H_lefts : Nat → Int64) (H_rights : Nat → Int64) (S_lefts : Nat → Int64) (S_rights : Nat → Int64) (S_filled : Nat → Int32) (A_letters : Nat → Int64) (A_lengths : Nat → Int32) (B_left : Int64) (B_right : Int64) (B_found : Int32) (B_least : Int32) (B_first : Nat → Int32) (Q_letterSurplus : Int32) (Q_weights : Nat → Int32) (Q_possible : Nat → Int32) (C_size : Int32) (C_variables : Nat → Int32) (C_relations : Nat → Int32) (C_numbers : Nat → Int32) (A2_letters : Nat → Int64) (A2_lengths : Nat → Int32) (N_size : Int32) (N_solved : Int32) (N_dropped : Int32) (N_lefts : Nat → Int64) (N_rights : Nat → Int64) (N_parents : Nat → Int32) (N_rules : Nat → Int32) (N_depths : Nat → Int32) (E2_left : Int64) (E2_right : Int64) (x1 : Int32) (r : Int32) (Q_letterSurplus_o : Int32) (Q_weights_o : Nat → Int32) (Q_possible_o : Nat → Int32) (h : fX_countLengths E_left E_right Q_letterSurplus Q_weights Q_possible C_size C_variables C_relations C_numbers x1 = some (r, Q_letterSurplus_o, Q_weights_o, Q_possible_o)) : Ct g l yX11_countLengths cX11_countLengths 2 (some .int) rmX11_countLengths [.ref aX, .int x1] (wX11 g aX aT aT_characters aE aH aH_lefts aH_rights aS aS_lefts aS_rights aS_filled aA aA_letters aA_lengths aK aB aB_first aQ aQ_weights aQ_possible aC aC_variables aC_relations aC_numbers aA2 aA2_letters aA2_lengths aN aN_lefts aN_rights aN_parents aN_rules aN_depths aE2 T_size T_characters E_left E_right H_size H_lefts H_rights S_lefts S_rights S_filled A_letters A_lengths B_left B_right B_found B_least B_first Q_letterSurplus Q_weights Q_possible C_size C_variables C_relations C_numbers A2_letters A2_lengths N_size N_solved N_dropped N_lefts N_rights N_parents N_rules N_depths E2_left E2_right) (some (.int r)) (wX11 g aX aT aT_characters aE aH aH_lefts aH_rights aS aS_lefts aS_rights aS_filled aA aA_letters aA_lengths aK aB aB_first aQ aQ_weights aQ_possible aC aC_variables aC_relations aC_numbers aA2 aA2_letters aA2_lengths aN aN_lefts aN_rights aN_parents aN_rules aN_depths aE2 T_size T_characters E_left E_right H_size H_lefts H_rights S_lefts S_rights S_filled A_letters A_lengths B_left B_right B_found B_least B_first Q_letterSurplus_o Q_weights_o Q_possible_o C_size C_variables C_relations C_numbers A2_letters A2_lengths N_size N_solved N_dropped N_lefts N_rights N_parents N_rules N_depths E2_left E2_right) := by
  refine Ct.introI (by decide) (Nat.le_of_ble_eq_true rfl) ?_
  intro p e s m below meth c A QQ ls hyp hret
  obtain ⟨hx, hb, hml, hts, hown, hA, hE, hP, hD, hl⟩ := hyp
  have hK := hE.1
  have hS : va_S A s.heap s.heap [] := va_S.rf
  have X : Here g p s m c cX11_countLengths 2 ([.ref aX, .int x1] : List Value).toArray RX11 A := ⟨⟨hx, hb, hml, hown, hts⟩, hE, hA⟩
  have hl : lv_has ls 2 [(0, .ref aX), (1, .int x1)] := hl
  obtain ⟨H, hH⟩ : ∃ H, H = s.heap := ⟨_, rfl⟩
  obtain ⟨locs, hlocs⟩ : ∃ l : List Loc, l = [] := ⟨_, rfl⟩
  rw [show W p l e rmX11_countLengths s m ([.ref aX, .int x1] : List Value).toArray below meth c s.heap [] 0 0 QQ (F0 m 0 ls []) = W p l e rmX11_countLengths s m ([.ref aX, .int x1] : List Value).toArray below meth c H locs 0 0 QQ (F0 m 0 ls []) by rw [hH, hlocs]]
  have hP : va_P g.1 vwCl (wX11 g aX aT aT_characters aE aH aH_lefts aH_rights aS aS_lefts aS_rights aS_filled aA aA_letters aA_lengths aK aB aB_first aQ aQ_weights aQ_possible aC aC_variables aC_relations aC_numbers aA2 aA2_letters aA2_lengths aN aN_lefts aN_rights aN_parents aN_rules aN_depths aE2 T_size T_characters E_left E_right H_size H_lefts H_rights S_lefts S_rights S_filled A_letters A_lengths B_left B_right B_found B_least B_first Q_letterSurplus Q_weights Q_possible C_size C_variables C_relations C_numbers A2_letters A2_lengths N_size N_solved N_dropped N_lefts N_rights N_parents N_rules N_depths E2_left E2_right) H := by rw [hH]; exact hP
  have hD : va_D A (wX11 g aX aT aT_characters aE aH aH_lefts aH_rights aS aS_lefts aS_rights aS_filled aA aA_letters aA_lengths aK aB aB_first aQ aQ_weights aQ_possible aC aC_variables aC_relations aC_numbers aA2 aA2_letters aA2_lengths aN aN_lefts aN_rights aN_parents aN_rules aN_depths aE2 T_size T_characters E_left E_right H_size H_lefts H_rights S_lefts S_rights S_filled A_letters A_lengths B_left B_right B_found B_least B_first Q_letterSurplus Q_weights Q_possible C_size C_variables C_relations C_numbers A2_letters A2_lengths N_size N_solved N_dropped N_lefts N_rights N_parents N_rules N_depths E2_left E2_right) := hD
  have hS : va_S A s.heap H locs := by rw [hH, hlocs]; exact hS
  clear hH hlocs
  refine lv_iload_n hx hb dX11_countLengths_0 rfl (lv_at hl 1 rfl) ?_
  refine lv_if_lt (tgt := 10) hx hb dX11_countLengths_1 (by decide) (fun q1 => ?_) (fun q1 => ?_)
  · have h := ifT h q1
    refine lv_bipush (v := ((-2) : Int32)) hx hb dX11_countLengths_10 (by decide) ?_
    have h : some (((-2) : Int32), Q_letterSurplus, Q_weights, Q_possible) = some (r, Q_letterSurplus_o, Q_weights_o, Q_possible_o) := h
    cases h
    exact hret _ _ _ _ hP hD hS dX11_countLengths_12
  have h := ifF h q1
  refine lv_iload_n hx hb dX11_countLengths_4 rfl (lv_at hl 1 rfl) ?_
  refine lv_bipush (v := (9 : Int32)) hx hb dX11_countLengths_5 (by decide) ?_
  refine lv_icmp_le (tgt := 13) hx hb dX11_countLengths_7 (by decide) (fun q7 => ?_) (fun q7 => ?_)
  · have h := ifT h q7
    refine lv_aload_n hx hb dX11_countLengths_13 rfl (lv_at hl 0 rfl) ?_
    refine va_get (D := g.1) (ci := 10) (v := .ref aQ) (C := RX11) (T := TX11) (N := 10) hx hb hts inBX11 hown hK hP 0 rfl rfl 6 (by decide) (hts _ wd1_238) (fun _ h9 => h9) rfl dX11_countLengths_14 ?_
    refine lv_aload_n hx hb dX11_countLengths_17 rfl (lv_at hl 0 rfl) ?_
    refine va_get (D := g.1) (ci := 10) (v := .ref aE) (C := RX11) (T := TX11) (N := 10) hx hb hts inBX11 hown hK hP 0 rfl rfl 1 (by decide) (hts _ wd1_233) (fun _ h9 => h9) rfl dX11_countLengths_18 ?_
    refine lv_iload_n hx hb dX11_countLengths_21 rfl (lv_at hl 1 rfl) ?_
    obtain ⟨Q_letterSurplus_22, Q_weights_22, Q_possible_22, hc22, h⟩ := bd3_to h
    refine go_P (st1 := []) (W1 := (wX11 g aX aT aT_characters aE aH aH_lefts aH_rights aS aS_lefts aS_rights aS_filled aA aA_letters aA_lengths aK aB aB_first aQ aQ_weights aQ_possible aC aC_variables aC_relations aC_numbers aA2 aA2_letters aA2_lengths aN aN_lefts aN_rights aN_parents aN_rules aN_depths aE2 T_size T_characters E_left E_right H_size H_lefts H_rights S_lefts S_rights S_filled A_letters A_lengths B_left B_right B_found B_least B_first Q_letterSurplus_22 Q_weights_22 Q_possible_22 C_size C_variables C_relations C_numbers A2_letters A2_lengths N_size N_solved N_dropped N_lefts N_rights N_parents N_rules N_depths E2_left E2_right)) (run_V (As := [.ref aE, .int x1]) (rest := []) X hS (mX6_prepare g l  aQ aQ_weights aQ_possible aC aC_variables aC_relations aC_numbers aE Q_letterSurplus Q_weights Q_possible C_size C_variables C_relations C_numbers E_left E_right x1 Q_letterSurplus_22 Q_weights_22 Q_possible_22 hc22) okX6_prepare wd4_17 ⟨Nat.le_of_ble_eq_true rfl, Nat.le_of_ble_eq_true rfl⟩ ⟨rfl, rfl⟩ (va_recv hK hP (ci := 6) (q0 := 17) rfl rfl) (sub_P hP [17, 18, 19, 20, 21, 22, 23, 3] rfl) (hD.sub [17, 18, 19, 20, 21, 22, 23, 3] (by decide) rfl) (va_free hD hS hA [17, 18, 19, 20, 21, 22, 23, 3] rfl) rfl hl.1 rfl (Nat.le_of_ble_eq_true rfl) dX11_countLengths_22 ⟨Nat.zero_le _, Nat.zero_le _⟩) hS (va_free hD hS hA [17, 18, 19, 20, 21, 22, 23, 3] rfl) hP hD [17, 18, 19, 20, 21, 22, 23, 3] [0, 1, 2, 4, 5, 6, 7, 8, 9, 10, 11, 12, 13, 14, 15, 16, 24, 25, 26, 27, 28, 29, 30, 31, 32, 33] [0, 1, 2, 33, 3, 4, 5, 6, 7, 8, 9, 10, 11, 12, 13, 14, 15, 26, 27, 28, 29, 30, 31, 32, 16, 17, 18, 19, 20, 21, 22, 23, 24, 25] rfl rfl (by decide) (by decide) rfl (by decide) rfl (fun H locs hP hD hS => ?_)
    refine lv_aload_n hx hb dX11_countLengths_25 rfl (lv_at hl 0 rfl) ?_
    refine va_get (D := g.1) (ci := 10) (v := .ref aQ) (C := RX11) (T := TX11) (N := 10) hx hb hts inBX11 hown hK hP 0 rfl rfl 6 (by decide) (hts _ wd1_238) (fun _ h9 => h9) rfl dX11_countLengths_26 ?_
    obtain ⟨t29, hc29, h⟩ := bd1_to h
    refine go_P (st1 := [.int t29]) (W1 := (wX11 g aX aT aT_characters aE aH aH_lefts aH_rights aS aS_lefts aS_rights aS_filled aA aA_letters aA_lengths aK aB aB_first aQ aQ_weights aQ_possible aC aC_variables aC_relations aC_numbers aA2 aA2_letters aA2_lengths aN aN_lefts aN_rights aN_parents aN_rules aN_depths aE2 T_size T_characters E_left E_right H_size H_lefts H_rights S_lefts S_rights S_filled A_letters A_lengths B_left B_right B_found B_least B_first Q_letterSurplus_22 Q_weights_22 Q_possible_22 C_size C_variables C_relations C_numbers A2_letters A2_lengths N_size N_solved N_dropped N_lefts N_rights N_parents N_rules N_depths E2_left E2_right)) (run_V (As := []) (rest := []) X hS (mX6_solutions g l  aQ aQ_weights aQ_possible aC aC_variables aC_relations aC_numbers Q_letterSurplus_22 Q_weights_22 Q_possible_22 C_size C_variables C_relations C_numbers t29 hc29) okX6_solutions wd4_18 ⟨Nat.le_of_ble_eq_true rfl, Nat.le_of_ble_eq_true rfl⟩ ⟨rfl, rfl⟩ (va_recv hK hP (ci := 6) (q0 := 17) rfl rfl) (sub_P hP [17, 18, 19, 20, 21, 22, 23] rfl) (hD.sub [17, 18, 19, 20, 21, 22, 23] (by decide) rfl) (va_free hD hS hA [17, 18, 19, 20, 21, 22, 23] rfl) rfl hl.1 rfl (Nat.le_of_ble_eq_true rfl) dX11_countLengths_29 ⟨Nat.zero_le _, Nat.zero_le _⟩) hS (va_free hD hS hA [17, 18, 19, 20, 21, 22, 23] rfl) hP hD [17, 18, 19, 20, 21, 22, 23] [0, 1, 2, 3, 4, 5, 6, 7, 8, 9, 10, 11, 12, 13, 14, 15, 16, 24, 25, 26, 27, 28, 29, 30, 31, 32, 33] [0, 1, 2, 3, 4, 5, 6, 7, 8, 9, 10, 11, 12, 13, 14, 15, 16, 27, 28, 29, 30, 31, 32, 33, 17, 18, 19, 20, 21, 22, 23, 24, 25, 26] rfl rfl (by decide) (by decide) rfl (by decide) rfl (fun H locs hP hD hS => ?_)
    have h : some (t29, Q_letterSurplus_22, Q_weights_22, Q_possible_22) = some (r, Q_letterSurplus_o, Q_weights_o, Q_possible_o) := h
    cases h
    exact hret _ _ _ _ hP hD hS dX11_countLengths_32
  have h := ifF h q7
  refine lv_bipush (v := ((-2) : Int32)) hx hb dX11_countLengths_10 (by decide) ?_
  have h : some (((-2) : Int32), Q_letterSurplus, Q_weights, Q_possible) = some (r, Q_letterSurplus_o, Q_weights_o, Q_possible_o) := h
  cases h
  exact hret _ _ _ _ hP hD hS dX11_countLengths_12
set_option maxHeartbeats 4000000 in
set_option maxRecDepth 100000 in
theorem mX11_refutedByCounting (g : GP) (l : Launch) (aX aT aT_characters aE aH aH_lefts aH_rights aS aS_lefts aS_rights aS_filled aA aA_letters aA_lengths aK aB aB_first aQ aQ_weights aQ_possible aC aC_variables aC_relations aC_numbers aA2 aA2_letters aA2_lengths aN aN_lefts aN_rights aN_parents aN_rules aN_depths aE2 : Nat) (T_size : Int32) (T_characters : Nat → Int32) (E_left : Int64) (E_right : Int64) (H_size : Int32) (H_lefts : Nat → Int64) (H_rights : Nat → Int64) (S_lefts : Nat → Int64) (S_rights : Nat → Int64) (S_filled : Nat → Int32) (A_letters : Nat → Int64) (A_lengths : Nat → Int32) (B_left : Int64) (B_right : Int64) (B_found : Int32) (B_least : Int32) (B_first : Nat → Int32) (Q_letterSurplus : Int32) (Q_weights : Nat → Int32) (Q_possible : Nat → Int32) (C_size : Int32) (C_variables : Nat → Int32) (C_relations : Nat → Int32) (C_numbers : Nat → Int32) (A2_letters : Nat → Int64) (A2_lengths : Nat → Int32) (N_size : Int32) (N_solved : Int32) (N_dropped : Int32) (N_lefts : Nat → Int64) (N_rights : Nat → Int64) (N_parents : Nat → Int32) (N_rules : Nat → Int32) (N_depths : Nat → Int32) (E2_left : Int64) (E2_right : Int64)  (r : Int32) (h : fX_refutedByCounting E_left E_right = some r) : Ct g l yX11_refutedByCounting cX11_refutedByCounting 2 (some .int) rmX11_refutedByCounting [.ref aX] (wX11 g aX aT aT_characters aE aH aH_lefts aH_rights aS aS_lefts aS_rights aS_filled aA aA_letters aA_lengths aK aB aB_first aQ aQ_weights aQ_possible aC aC_variables aC_relations aC_numbers aA2 aA2_letters aA2_lengths aN aN_lefts aN_rights aN_parents aN_rules aN_depths aE2 T_size T_characters E_left E_right H_size H_lefts H_rights S_lefts S_rights S_filled A_letters A_lengths B_left B_right B_found B_least B_first Q_letterSurplus Q_weights Q_possible C_size C_variables C_relations C_numbers A2_letters A2_lengths N_size N_solved N_dropped N_lefts N_rights N_parents N_rules N_depths E2_left E2_right) (some (.int r)) (wX11 g aX aT aT_characters aE aH aH_lefts aH_rights aS aS_lefts aS_rights aS_filled aA aA_letters aA_lengths aK aB aB_first aQ aQ_weights aQ_possible aC aC_variables aC_relations aC_numbers aA2 aA2_letters aA2_lengths aN aN_lefts aN_rights aN_parents aN_rules aN_depths aE2 T_size T_characters E_left E_right H_size H_lefts H_rights S_lefts S_rights S_filled A_letters A_lengths B_left B_right B_found B_least B_first Q_letterSurplus Q_weights Q_possible C_size C_variables C_relations C_numbers A2_letters A2_lengths N_size N_solved N_dropped N_lefts N_rights N_parents N_rules N_depths E2_left E2_right) := by
  refine Ct.introI (by decide) (Nat.le_of_ble_eq_true rfl) ?_
  intro p e s m below meth c A QQ ls hyp hret
  obtain ⟨hx, hb, hml, hts, hown, hA, hE, hP, hD, hl⟩ := hyp
  have hK := hE.1
  have hS : va_S A s.heap s.heap [] := va_S.rf
  have X : Here g p s m c cX11_refutedByCounting 2 ([.ref aX] : List Value).toArray RX11 A := ⟨⟨hx, hb, hml, hown, hts⟩, hE, hA⟩
  have B56 : ∀ (s0 : Int32) (ls : Array Slot) (H : Heap) (locs : List Loc), lv_has ls 2 [] → va_P g.1 vwCl (wX11 g aX aT aT_characters aE aH aH_lefts aH_rights aS aS_lefts aS_rights aS_filled aA aA_letters aA_lengths aK aB aB_first aQ aQ_weights aQ_possible aC aC_variables aC_relations aC_numbers aA2 aA2_letters aA2_lengths aN aN_lefts aN_rights aN_parents aN_rules aN_depths aE2 T_size T_characters E_left E_right H_size H_lefts H_rights S_lefts S_rights S_filled A_letters A_lengths B_left B_right B_found B_least B_first Q_letterSurplus Q_weights Q_possible C_size C_variables C_relations C_numbers A2_letters A2_lengths N_size N_solved N_dropped N_lefts N_rights N_parents N_rules N_depths E2_left E2_right) H → va_D A (wX11 g aX aT aT_characters aE aH aH_lefts aH_rights aS aS_lefts aS_rights aS_filled aA aA_letters aA_lengths aK aB aB_first aQ aQ_weights aQ_possible aC aC_variables aC_relations aC_numbers aA2 aA2_letters aA2_lengths aN aN_lefts aN_rights aN_parents aN_rules aN_depths aE2 T_size T_characters E_left E_right H_size H_lefts H_rights S_lefts S_rights S_filled A_letters A_lengths B_left B_right B_found B_least B_first Q_letterSurplus Q_weights Q_possible C_size C_variables C_relations C_numbers A2_letters A2_lengths N_size N_solved N_dropped N_lefts N_rights N_parents N_rules N_depths E2_left E2_right) → va_S A s.heap H locs → fX_refutedByCounting_56 s0 = some r → W p l e rmX11_refutedByCounting s m ([.ref aX] : List Value).toArray below meth c H locs 0 0 QQ (F0 m 56 ls [.int s0]) := by
    intro s0 ls H locs hl hP hD hS h
    refine lv_istore_n (lv' := [(1, .int s0)]) hx hb dX11_refutedByCounting_56 rfl hl (by decide) rfl (fun ls hl => ?_)
    refine lv_iload_n hx hb dX11_refutedByCounting_57 rfl (lv_at hl 0 rfl) ?_
    refine lv_if_eq (tgt := 65) hx hb dX11_refutedByCounting_58 (by decide) (fun q58 => ?_) (fun q58 => ?_)
    · have h := ifT h q58
      refine lv_iconst (v := (1 : Int32)) hx hb dX11_refutedByCounting_65 (by decide) ?_
      have h : some (1 : Int32) = some r := h
      cases h
      exact hret _ _ _ _ hP hD hS dX11_refutedByCounting_66
    have h := ifF h q58
    refine lv_iconst (v := (0 : Int32)) hx hb dX11_refutedByCounting_61 (by decide) ?_
    refine lv_goto (tgt := 66) hx hb dX11_refutedByCounting_62 (by decide) ?_
    have h : some (0 : Int32) = some r := h
    cases h
    exact hret _ _ _ _ hP hD hS dX11_refutedByCounting_66
  have L2 : ∀ (n2 : Nat), ∀ (v1 : Int32) (ls : Array Slot) (H : Heap) (locs : List Loc), lv_has ls 2 [(0, .ref aX), (1, .int v1)] → va_P g.1 vwCl (wX11 g aX aT aT_characters aE aH aH_lefts aH_rights aS aS_lefts aS_rights aS_filled aA aA_letters aA_lengths aK aB aB_first aQ aQ_weights aQ_possible aC aC_variables aC_relations aC_numbers aA2 aA2_letters aA2_lengths aN aN_lefts aN_rights aN_parents aN_rules aN_depths aE2 T_size T_characters E_left E_right H_size H_lefts H_rights S_lefts S_rights S_filled A_letters A_lengths B_left B_right B_found B_least B_first Q_letterSurplus Q_weights Q_possible C_size C_variables C_relations C_numbers A2_letters A2_lengths N_size N_solved N_dropped N_lefts N_rights N_parents N_rules N_depths E2_left E2_right) H → va_D A (wX11 g aX aT aT_characters aE aH aH_lefts aH_rights aS aS_lefts aS_rights aS_filled aA aA_letters aA_lengths aK aB aB_first aQ aQ_weights aQ_possible aC aC_variables aC_relations aC_numbers aA2 aA2_letters aA2_lengths aN aN_lefts aN_rights aN_parents aN_rules aN_depths aE2 T_size T_characters E_left E_right H_size H_lefts H_rights S_lefts S_rights S_filled A_letters A_lengths B_left B_right B_found B_least B_first Q_letterSurplus Q_weights Q_possible C_size C_variables C_relations C_numbers A2_letters A2_lengths N_size N_solved N_dropped N_lefts N_rights N_parents N_rules N_depths E2_left E2_right) → va_S A s.heap H locs → fx1 (fX_refutedByCounting_2 E_left E_right) n2 v1 = some r → W p l e rmX11_refutedByCounting s m ([.ref aX] : List Value).toArray below meth c H locs 0 0 QQ (F0 m 2 ls []) := by
    intro n2
    induction n2 with
    | zero => intro v1 ls H locs hl hP hD hS h; exact fx1_0 h
    | succ n2 ih2 =>
      intro v1 ls H locs hl hP hD hS h
      have h := (fx1_s (fX_refutedByCounting_2 E_left E_right) n2 v1).symm.trans h
      refine lv_iload_n hx hb dX11_refutedByCounting_2 rfl (lv_at hl 1 rfl) ?_
      refine lv_iconst (v := (4 : Int32)) hx hb dX11_refutedByCounting_3 (by decide) ?_
      refine lv_icmp_ge (tgt := 29) hx hb dX11_refutedByCounting_4 (by decide) (fun q4 => ?_) (fun q4 => ?_)
      · have h := ifT h q4
        refine lv_aload_n hx hb dX11_refutedByCounting_29 rfl (lv_at hl 0 rfl) ?_
        refine va_get (D := g.1) (ci := 10) (v := .ref aE) (C := RX11) (T := TX11) (N := 10) hx hb hts inBX11 hown hK hP 0 rfl rfl 1 (by decide) (hts _ wd1_233) (fun _ h9 => h9) rfl dX11_refutedByCounting_30 ?_
        refine lv_iconst (v := (1 : Int32)) hx hb dX11_refutedByCounting_33 (by decide) ?_
        obtain ⟨t34, hc34, h⟩ := bd1_to h
        refine go_P (st1 := [.int t34]) (W1 := (wX11 g aX aT aT_characters aE aH aH_lefts aH_rights aS aS_lefts aS_rights aS_filled aA aA_letters aA_lengths aK aB aB_first aQ aQ_weights aQ_possible aC aC_variables aC_relations aC_numbers aA2 aA2_letters aA2_lengths aN aN_lefts aN_rights aN_parents aN_rules aN_depths aE2 T_size T_characters E_left E_right H_size H_lefts H_rights S_lefts S_rights S_filled A_letters A_lengths B_left B_right B_found B_least B_first Q_letterSurplus Q_weights Q_possible C_size C_variables C_relations C_numbers A2_letters A2_lengths N_size N_solved N_dropped N_lefts N_rights N_parents N_rules N_depths E2_left E2_right)) (run_V (As := [.int (1 : Int32)]) (rest := []) X hS (mX2_surplus g l  aE E_left E_right (1 : Int32) t34 hc34) okX2_surplus wd4_26 ⟨Nat.le_of_ble_eq_true rfl, Nat.le_of_ble_eq_true rfl⟩ ⟨rfl, rfl⟩ (va_recv hK hP (ci := 2) (q0 := 3) rfl rfl) (sub_P hP [3] rfl) (hD.sub [3] (by decide) rfl) (va_free hD hS hA [3] rfl) rfl hl.1 rfl (Nat.le_of_ble_eq_true rfl) dX11_refutedByCounting_34 ⟨Nat.zero_le _, Nat.zero_le _⟩) hS (va_free hD hS hA [3] rfl) hP hD [3] [0, 1, 2, 4, 5, 6, 7, 8, 9, 10, 11, 12, 13, 14, 15, 16, 17, 18, 19, 20, 21, 22, 23, 24, 25, 26, 27, 28, 29, 30, 31, 32, 33] [0, 1, 2, 33, 3, 4, 5, 6, 7, 8, 9, 10, 11, 12, 13, 14, 15, 16, 17, 18, 19, 20, 21, 22, 23, 24, 25, 26, 27, 28, 29, 30, 31, 32] rfl rfl (by decide) (by decide) rfl (by decide) rfl (fun H locs hP hD hS => ?_)
        refine lv_if_ne (tgt := 55) hx hb dX11_refutedByCounting_37 (by decide) (fun q37 => ?_) (fun q37 => ?_)
        · have h := ifF h q37
          refine lv_iconst (v := (0 : Int32)) hx hb dX11_refutedByCounting_55 (by decide) ?_
          exact B56 (0 : Int32) ls H locs (lv_sub hl [] rfl) hP hD hS h
        have h := ifT h q37
        refine lv_aload_n hx hb dX11_refutedByCounting_40 rfl (lv_at hl 0 rfl) ?_
        refine va_get (D := g.1) (ci := 10) (v := .ref aE) (C := RX11) (T := TX11) (N := 10) hx hb hts inBX11 hown hK hP 0 rfl rfl 1 (by decide) (hts _ wd1_233) (fun _ h9 => h9) rfl dX11_refutedByCounting_41 ?_
        refine lv_iconst (v := (2 : Int32)) hx hb dX11_refutedByCounting_44 (by decide) ?_
        obtain ⟨t45, hc45, h⟩ := bd1_to h
        refine go_P (st1 := [.int t45]) (W1 := (wX11 g aX aT aT_characters aE aH aH_lefts aH_rights aS aS_lefts aS_rights aS_filled aA aA_letters aA_lengths aK aB aB_first aQ aQ_weights aQ_possible aC aC_variables aC_relations aC_numbers aA2 aA2_letters aA2_lengths aN aN_lefts aN_rights aN_parents aN_rules aN_depths aE2 T_size T_characters E_left E_right H_size H_lefts H_rights S_lefts S_rights S_filled A_letters A_lengths B_left B_right B_found B_least B_first Q_letterSurplus Q_weights Q_possible C_size C_variables C_relations C_numbers A2_letters A2_lengths N_size N_solved N_dropped N_lefts N_rights N_parents N_rules N_depths E2_left E2_right)) (run_V (As := [.int (2 : Int32)]) (rest := []) X hS (mX2_surplus g l  aE E_left E_right (2 : Int32) t45 hc45) okX2_surplus wd4_26 ⟨Nat.le_of_ble_eq_true rfl, Nat.le_of_ble_eq_true rfl⟩ ⟨rfl, rfl⟩ (va_recv hK hP (ci := 2) (q0 := 3) rfl rfl) (sub_P hP [3] rfl) (hD.sub [3] (by decide) rfl) (va_free hD hS hA [3] rfl) rfl hl.1 rfl (Nat.le_of_ble_eq_true rfl) dX11_refutedByCounting_45 ⟨Nat.zero_le _, Nat.zero_le _⟩) hS (va_free hD hS hA [3] rfl) hP hD [3] [0, 1, 2, 4, 5, 6, 7, 8, 9, 10, 11, 12, 13, 14, 15, 16, 17, 18, 19, 20, 21, 22, 23, 24, 25, 26, 27, 28, 29, 30, 31, 32, 33] [0, 1, 2, 33, 3, 4, 5, 6, 7, 8, 9, 10, 11, 12, 13, 14, 15, 16, 17, 18, 19, 20, 21, 22, 23, 24, 25, 26, 27, 28, 29, 30, 31, 32] rfl rfl (by decide) (by decide) rfl (by decide) rfl (fun H locs hP hD hS => ?_)
        refine lv_if_ne (tgt := 55) hx hb dX11_refutedByCounting_48 (by decide) (fun q48 => ?_) (fun q48 => ?_)
        · have h := ifF h q48
          refine lv_iconst (v := (0 : Int32)) hx hb dX11_refutedByCounting_55 (by decide) ?_
          exact B56 (0 : Int32) ls H locs (lv_sub hl [] rfl) hP hD hS h
        have h := ifT h q48
        refine lv_iconst (v := (1 : Int32)) hx hb dX11_refutedByCounting_51 (by decide) ?_
        refine lv_goto (tgt := 56) hx hb dX11_refutedByCounting_52 (by decide) ?_
        exact B56 (1 : Int32) ls H locs (lv_sub hl [] rfl) hP hD hS h
      have h := ifF h q4
      refine lv_aload_n hx hb dX11_refutedByCounting_7 rfl (lv_at hl 0 rfl) ?_
      refine va_get (D := g.1) (ci := 10) (v := .ref aE) (C := RX11) (T := TX11) (N := 10) hx hb hts inBX11 hown hK hP 0 rfl rfl 1 (by decide) (hts _ wd1_233) (fun _ h9 => h9) rfl dX11_refutedByCounting_8 ?_
      refine lv_iload_n hx hb dX11_refutedByCounting_11 rfl (lv_at hl 1 rfl) ?_
      obtain ⟨t12, hc12, h⟩ := bd1_to h
      refine go_0 (st1 := [.int t12, .ref aE]) (run_S (As := [.int v1]) (rest := [.ref aE]) X hS (mX9_variable g l  v1 t12 hc12) okX9_variable wd3_11 ⟨Nat.le_of_ble_eq_true rfl, Nat.le_of_ble_eq_true rfl⟩ ⟨rfl, rfl⟩ nil_P nil_D (nil_F hS hA) rfl hl.1 rfl (Nat.le_of_ble_eq_true rfl) dX11_refutedByCounting_12 ⟨Nat.zero_le _, Nat.zero_le _⟩) hS hA hP rfl (fun H locs hP hS => ?_)
      obtain ⟨t15, hc15, h⟩ := bd1_to h
      refine go_P (st1 := [.int t15]) (W1 := (wX11 g aX aT aT_characters aE aH aH_lefts aH_rights aS aS_lefts aS_rights aS_filled aA aA_letters aA_lengths aK aB aB_first aQ aQ_weights aQ_possible aC aC_variables aC_relations aC_numbers aA2 aA2_letters aA2_lengths aN aN_lefts aN_rights aN_parents aN_rules aN_depths aE2 T_size T_characters E_left E_right H_size H_lefts H_rights S_lefts S_rights S_filled A_letters A_lengths B_left B_right B_found B_least B_first Q_letterSurplus Q_weights Q_possible C_size C_variables C_relations C_numbers A2_letters A2_lengths N_size N_solved N_dropped N_lefts N_rights N_parents N_rules N_depths E2_left E2_right)) (run_V (As := [.int t12]) (rest := []) X hS (mX2_surplus g l  aE E_left E_right t12 t15 hc15) okX2_surplus wd4_26 ⟨Nat.le_of_ble_eq_true rfl, Nat.le_of_ble_eq_true rfl⟩ ⟨rfl, rfl⟩ (va_recv hK hP (ci := 2) (q0 := 3) rfl rfl) (sub_P hP [3] rfl) (hD.sub [3] (by decide) rfl) (va_free hD hS hA [3] rfl) rfl hl.1 rfl (Nat.le_of_ble_eq_true rfl) dX11_refutedByCounting_15 ⟨Nat.zero_le _, Nat.zero_le _⟩) hS (va_free hD hS hA [3] rfl) hP hD [3] [0, 1, 2, 4, 5, 6, 7, 8, 9, 10, 11, 12, 13, 14, 15, 16, 17, 18, 19, 20, 21, 22, 23, 24, 25, 26, 27, 28, 29, 30, 31, 32, 33] [0, 1, 2, 33, 3, 4, 5, 6, 7, 8, 9, 10, 11, 12, 13, 14, 15, 16, 17, 18, 19, 20, 21, 22, 23, 24, 25, 26, 27, 28, 29, 30, 31, 32] rfl rfl (by decide) (by decide) rfl (by decide) rfl (fun H locs hP hD hS => ?_)
      refine lv_if_eq (tgt := 23) hx hb dX11_refutedByCounting_18 (by decide) (fun q18 => ?_) (fun q18 => ?_)
      · have h := ifT h q18
        obtain ⟨t23, et23⟩ : ∃ y : Int32, y = v1 + (1 : Int32) := ⟨_, rfl⟩
        refine lv_iinc (v := t23) (lv' := [(1, .int t23), (0, .ref aX)]) hx hb dX11_refutedByCounting_23 hl (k := 1) rfl (by rw [et23]; rfl) (by decide) rfl (fun ls hl => ?_)
        have h := st_to h et23
        refine lv_goto (tgt := 2) hx hb dX11_refutedByCounting_26 (by decide) ?_
        exact ih2 t23 ls H locs (lv_sub hl [1, 0] rfl) hP hD hS h
      have h := ifF h q18
      refine lv_iconst (v := (0 : Int32)) hx hb dX11_refutedByCounting_21 (by decide) ?_
      have h : some (0 : Int32) = some r := h
      cases h
      exact hret _ _ _ _ hP hD hS dX11_refutedByCounting_22
  have hl : lv_has ls 2 [(0, .ref aX)] := hl
  obtain ⟨H, hH⟩ : ∃ H, H = s.heap := ⟨_, rfl⟩
  obtain ⟨locs, hlocs⟩ : ∃ l : List Loc, l = [] := ⟨_, rfl⟩
  rw [show W p l e rmX11_refutedByCounting s m ([.ref aX] : List Value).toArray below meth c s.heap [] 0 0 QQ (F0 m 0 ls []) = W p l e rmX11_refutedByCounting s m ([.ref aX] : List Value).toArray below meth c H locs 0 0 QQ (F0 m 0 ls []) by rw [hH, hlocs]]
  have hP : va_P g.1 vwCl (wX11 g aX aT aT_characters aE aH aH_lefts aH_rights aS aS_lefts aS_rights aS_filled aA aA_letters aA_lengths aK aB aB_first aQ aQ_weights aQ_possible aC aC_variables aC_relations aC_numbers aA2 aA2_letters aA2_lengths aN aN_lefts aN_rights aN_parents aN_rules aN_depths aE2 T_size T_characters E_left E_right H_size H_lefts H_rights S_lefts S_rights S_filled A_letters A_lengths B_left B_right B_found B_least B_first Q_letterSurplus Q_weights Q_possible C_size C_variables C_relations C_numbers A2_letters A2_lengths N_size N_solved N_dropped N_lefts N_rights N_parents N_rules N_depths E2_left E2_right) H := by rw [hH]; exact hP
  have hD : va_D A (wX11 g aX aT aT_characters aE aH aH_lefts aH_rights aS aS_lefts aS_rights aS_filled aA aA_letters aA_lengths aK aB aB_first aQ aQ_weights aQ_possible aC aC_variables aC_relations aC_numbers aA2 aA2_letters aA2_lengths aN aN_lefts aN_rights aN_parents aN_rules aN_depths aE2 T_size T_characters E_left E_right H_size H_lefts H_rights S_lefts S_rights S_filled A_letters A_lengths B_left B_right B_found B_least B_first Q_letterSurplus Q_weights Q_possible C_size C_variables C_relations C_numbers A2_letters A2_lengths N_size N_solved N_dropped N_lefts N_rights N_parents N_rules N_depths E2_left E2_right) := hD
  have hS : va_S A s.heap H locs := by rw [hH, hlocs]; exact hS
  clear hH hlocs
  refine lv_iconst (v := (0 : Int32)) hx hb dX11_refutedByCounting_0 (by decide) ?_
  refine lv_istore_n (lv' := [(1, .int (0 : Int32)), (0, .ref aX)]) hx hb dX11_refutedByCounting_1 rfl hl (by decide) rfl (fun ls hl => ?_)
  exact L2 FU (0 : Int32) ls H locs (lv_sub hl [1, 0] rfl) hP hD hS h
set_option maxHeartbeats 4000000 in
set_option maxRecDepth 100000 in
theorem mX7_isKnown (g : GP) (l : Launch) (aN aN_lefts aN_rights aN_parents aN_rules aN_depths : Nat) (N_size : Int32) (N_solved : Int32) (N_dropped : Int32) (N_lefts : Nat → Int64) (N_rights : Nat → Int64) (N_parents : Nat → Int32) (N_rules : Nat → Int32) (N_depths : Nat → Int32) (x1 : Int64) (x3 : Int64) (r : Int32) (h : fN_isKnown N_size N_lefts N_rights x1 x3 = some r) : Ct g l yX7_isKnown cX7_isKnown 6 (some .boolean) rmX7_isKnown [.ref aN, .long x1, .long x3] (wX7 g aN aN_lefts aN_rights aN_parents aN_rules aN_depths N_size N_solved N_dropped N_lefts N_rights N_parents N_rules N_depths) (some (.int r)) (wX7 g aN aN_lefts aN_rights aN_parents aN_rules aN_depths N_size N_solved N_dropped N_lefts N_rights N_parents N_rules N_depths) := by
  refine Ct.introZ (by decide) (Nat.le_of_ble_eq_true rfl) ?_
  intro p e s m below meth c A QQ ls hyp hret
  obtain ⟨hx, hb, hml, hts, hown, hA, hE, hP, hD, hl⟩ := hyp
  have hK := hE.1
  have hS : va_S A s.heap s.heap [] := va_S.rf
  have X : Here g p s m c cX7_isKnown 6 ([.ref aN, .long x1, .long x3] : List Value).toArray RX7 A := ⟨⟨hx, hb, hml, hown, hts⟩, hE, hA⟩
  have L3 : ∀ (n3 : Nat), ∀ (v5 : Int32) (ls : Array Slot) (H : Heap) (locs : List Loc), lv_has ls 6 [(0, .ref aN), (1, .long x1), (3, .long x3), (5, .int v5)] → va_P g.1 vwCl (wX7 g aN aN_lefts aN_rights aN_parents aN_rules aN_depths N_size N_solved N_dropped N_lefts N_rights N_parents N_rules N_depths) H → va_D A (wX7 g aN aN_lefts aN_rights aN_parents aN_rules aN_depths N_size N_solved N_dropped N_lefts N_rights N_parents N_rules N_depths) → va_S A s.heap H locs → fx1 (fN_isKnown_3 N_size N_lefts N_rights x1 x3) n3 v5 = some r → W p l e rmX7_isKnown s m ([.ref aN, .long x1, .long x3] : List Value).toArray below meth c H locs 0 0 QQ (F0 m 3 ls []) := by
    intro n3
    induction n3 with
    | zero => intro v5 ls H locs hl hP hD hS h; exact fx1_0 h
    | succ n3 ih3 =>
      intro v5 ls H locs hl hP hD hS h
      have h := (fx1_s (fN_isKnown_3 N_size N_lefts N_rights x1 x3) n3 v5).symm.trans h
      refine lv_iload hx hb dX7_isKnown_3 (lv_at hl 3 rfl) ?_
      refine lv_aload_n hx hb dX7_isKnown_5 rfl (lv_at hl 0 rfl) ?_
      refine va_get (D := g.1) (ci := 7) (v := .int N_size) (C := RX7) (T := TX7) (N := 8) hx hb hts inBX7 hown hK hP 0 rfl rfl 5 (by decide) (hts _ wd1_194) (fun _ h9 => h9) rfl dX7_isKnown_6 ?_
      refine lv_icmp_ge (tgt := 52) hx hb dX7_isKnown_9 (by decide) (fun q9 => ?_) (fun q9 => ?_)
      · have h := ifT h q9
        refine lv_iconst (v := (0 : Int32)) hx hb dX7_isKnown_52 (by decide) ?_
        have h : some (0 : Int32) = some r := h
        cases h
        exact hret _ _ _ _ rfl hP hD hS dX7_isKnown_53
      have h := ifF h q9
      refine lv_iload hx hb dX7_isKnown_12 (lv_at hl 3 rfl) ?_
      refine lv_sipush (v := (200 : Int32)) hx hb dX7_isKnown_14 (by decide) ?_
      refine lv_icmp_ge (tgt := 52) hx hb dX7_isKnown_17 (by decide) (fun q17 => ?_) (fun q17 => ?_)
      · have h := ifT h q17
        refine lv_iconst (v := (0 : Int32)) hx hb dX7_isKnown_52 (by decide) ?_
        have h : some (0 : Int32) = some r := h
        cases h
        exact hret _ _ _ _ rfl hP hD hS dX7_isKnown_53
      have h := ifF h q17
      refine lv_aload_n hx hb dX7_isKnown_20 rfl (lv_at hl 0 rfl) ?_
      refine va_get (D := g.1) (ci := 7) (v := .ref aN_lefts) (C := RX7) (T := TX7) (N := 8) hx hb hts inBX7 hown hK hP 0 rfl rfl 0 (by decide) (hts _ wd1_189) (fun _ h9 => h9) rfl dX7_isKnown_21 ?_
      refine lv_iload hx hb dX7_isKnown_24 (lv_at hl 3 rfl) ?_
      have hin := ld_in h
      refine va_lald hx hb hK hP 1 1 rfl rfl hin dX7_isKnown_26 ?_
      refine lv_topl (fun t26 et26 => ?_)
      have h := ld_to h et26
      refine lv_lload_n hx hb dX7_isKnown_27 rfl (lv_at hl 1 rfl) ?_
      refine W.lcmp hx hb dX7_isKnown_28 ?_
      refine lv_if_ne (tgt := 46) hx hb dX7_isKnown_29 (by decide) (fun q29 => ?_) (fun q29 => ?_)
      · have h := ifF h q29
        obtain ⟨t46, et46⟩ : ∃ y : Int32, y = v5 + (1 : Int32) := ⟨_, rfl⟩
        refine lv_iinc (v := t46) (lv' := [(5, .int t46), (0, .ref aN), (1, .long x1), (3, .long x3)]) hx hb dX7_isKnown_46 hl (k := 3) rfl (by rw [et46]; rfl) (by decide) rfl (fun ls hl => ?_)
        have h := st_to h et46
        refine lv_goto (tgt := 3) hx hb dX7_isKnown_49 (by decide) ?_
        exact ih3 t46 ls H locs (lv_sub hl [1, 2, 3, 0] rfl) hP hD hS h
      have h := ifT h q29
      refine lv_aload_n hx hb dX7_isKnown_32 rfl (lv_at hl 0 rfl) ?_
      refine va_get (D := g.1) (ci := 7) (v := .ref aN_rights) (C := RX7) (T := TX7) (N := 8) hx hb hts inBX7 hown hK hP 0 rfl rfl 1 (by decide) (hts _ wd1_190) (fun _ h9 => h9) rfl dX7_isKnown_33 ?_
      refine lv_iload hx hb dX7_isKnown_36 (lv_at hl 3 rfl) ?_
      have hin := ld_in h
      refine va_lald hx hb hK hP 2 1 rfl rfl hin dX7_isKnown_38 ?_
      refine lv_topl (fun t38 et38 => ?_)
      have h := ld_to h et38
      refine lv_lload_n hx hb dX7_isKnown_39 rfl (lv_at hl 2 rfl) ?_
      refine W.lcmp hx hb dX7_isKnown_40 ?_
      refine lv_if_ne (tgt := 46) hx hb dX7_isKnown_41 (by decide) (fun q41 => ?_) (fun q41 => ?_)
      · have h := ifF h q41
        obtain ⟨t46, et46⟩ : ∃ y : Int32, y = v5 + (1 : Int32) := ⟨_, rfl⟩
        refine lv_iinc (v := t46) (lv' := [(5, .int t46), (0, .ref aN), (1, .long x1), (3, .long x3)]) hx hb dX7_isKnown_46 hl (k := 3) rfl (by rw [et46]; rfl) (by decide) rfl (fun ls hl => ?_)
        have h := st_to h et46
        refine lv_goto (tgt := 3) hx hb dX7_isKnown_49 (by decide) ?_
        exact ih3 t46 ls H locs (lv_sub hl [1, 2, 3, 0] rfl) hP hD hS h
      have h := ifT h q41
      refine lv_iconst (v := (1 : Int32)) hx hb dX7_isKnown_44 (by decide) ?_
      have h : some (1 : Int32) = some r := h
      cases h
      exact hret _ _ _ _ rfl hP hD hS dX7_isKnown_45
  have hl : lv_has ls 6 [(0, .ref aN), (1, .long x1), (3, .long x3)] := hl
  obtain ⟨H, hH⟩ : ∃ H, H = s.heap := ⟨_, rfl⟩
  obtain ⟨locs, hlocs⟩ : ∃ l : List Loc, l = [] := ⟨_, rfl⟩
  rw [show W p l e rmX7_isKnown s m ([.ref aN, .long x1, .long x3] : List Value).toArray below meth c s.heap [] 0 0 QQ (F0 m 0 ls []) = W p l e rmX7_isKnown s m ([.ref aN, .long x1, .long x3] : List Value).toArray below meth c H locs 0 0 QQ (F0 m 0 ls []) by rw [hH, hlocs]]
  have hP : va_P g.1 vwCl (wX7 g aN aN_lefts aN_rights aN_parents aN_rules aN_depths N_size N_solved N_dropped N_lefts N_rights N_parents N_rules N_depths) H := by rw [hH]; exact hP
  have hD : va_D A (wX7 g aN aN_lefts aN_rights aN_parents aN_rules aN_depths N_size N_solved N_dropped N_lefts N_rights N_parents N_rules N_depths) := hD
  have hS : va_S A s.heap H locs := by rw [hH, hlocs]; exact hS
  clear hH hlocs
  refine lv_iconst (v := (0 : Int32)) hx hb dX7_isKnown_0 (by decide) ?_
  refine lv_istore (lv' := [(5, .int (0 : Int32)), (0, .ref aN), (1, .long x1), (3, .long x3)]) hx hb dX7_isKnown_1 hl (by decide) rfl (fun ls hl => ?_)
  exact L3 FU (0 : Int32) ls H locs (lv_sub hl [1, 2, 3, 0] rfl) hP hD hS h
set_option maxHeartbeats 4000000 in
set_option maxRecDepth 100000 in
theorem mX7_isNode (g : GP) (l : Launch) (aN aN_lefts aN_rights aN_parents aN_rules aN_depths : Nat) (N_size : Int32) (N_solved : Int32) (N_dropped : Int32) (N_lefts : Nat → Int64) (N_rights : Nat → Int64) (N_parents : Nat → Int32) (N_rules : Nat → Int32) (N_depths : Nat → Int32) (x1 : Int32) (r : Int32) (h : fN_isNode N_size x1 = some r) : Ct g l yX7_isNode cX7_isNode 2 (some .boolean) rmX7_isNode [.ref aN, .int x1] (wX7 g aN aN_lefts aN_rights aN_parents aN_rules aN_depths N_size N_solved N_dropped N_lefts N_rights N_parents N_rules N_depths) (some (.int r)) (wX7 g aN aN_lefts aN_rights aN_parents aN_rules aN_depths N_size N_solved N_dropped N_lefts N_rights N_parents N_rules N_depths) := by
  refine Ct.introZ (by decide) (Nat.le_of_ble_eq_true rfl) ?_
  intro p e s m below meth c A QQ ls hyp hret
  obtain ⟨hx, hb, hml, hts, hown, hA, hE, hP, hD, hl⟩ := hyp
  have hK := hE.1
  have hS : va_S A s.heap s.heap [] := va_S.rf
  have X : Here g p s m c cX7_isNode 2 ([.ref aN, .int x1] : List Value).toArray RX7 A := ⟨⟨hx, hb, hml, hown, hts⟩, hE, hA⟩
  have hl : lv_has ls 2 [(0, .ref aN), (1, .int x1)] := hl
  obtain ⟨H, hH⟩ : ∃ H, H = s.heap := ⟨_, rfl⟩
  obtain ⟨locs, hlocs⟩ : ∃ l : List Loc, l = [] := ⟨_, rfl⟩
  rw [show W p l e rmX7_isNode s m ([.ref aN, .int x1] : List Value).toArray below meth c s.heap [] 0 0 QQ (F0 m 0 ls []) = W p l e rmX7_isNode s m ([.ref aN, .int x1] : List Value).toArray below meth c H locs 0 0 QQ (F0 m 0 ls []) by rw [hH, hlocs]]
  have hP : va_P g.1 vwCl (wX7 g aN aN_lefts aN_rights aN_parents aN_rules aN_depths N_size N_solved N_dropped N_lefts N_rights N_parents N_rules N_depths) H := by rw [hH]; exact hP
  have hD : va_D A (wX7 g aN aN_lefts aN_rights aN_parents aN_rules aN_depths N_size N_solved N_dropped N_lefts N_rights N_parents N_rules N_depths) := hD
  have hS : va_S A s.heap H locs := by rw [hH, hlocs]; exact hS
  clear hH hlocs
  refine lv_iload_n hx hb dX7_isNode_0 rfl (lv_at hl 1 rfl) ?_
  refine lv_if_lt (tgt := 23) hx hb dX7_isNode_1 (by decide) (fun q1 => ?_) (fun q1 => ?_)
  · have h := ifT h q1
    refine lv_iconst (v := (0 : Int32)) hx hb dX7_isNode_23 (by decide) ?_
    have h : some (0 : Int32) = some r := h
    cases h
    exact hret _ _ _ _ rfl hP hD hS dX7_isNode_24
  have h := ifF h q1
  refine lv_iload_n hx hb dX7_isNode_4 rfl (lv_at hl 1 rfl) ?_
  refine lv_aload_n hx hb dX7_isNode_5 rfl (lv_at hl 0 rfl) ?_
  refine va_get (D := g.1) (ci := 7) (v := .int N_size) (C := RX7) (T := TX7) (N := 8) hx hb hts inBX7 hown hK hP 0 rfl rfl 5 (by decide) (hts _ wd1_194) (fun _ h9 => h9) rfl dX7_isNode_6 ?_
  refine lv_icmp_ge (tgt := 23) hx hb dX7_isNode_9 (by decide) (fun q9 => ?_) (fun q9 => ?_)
  · have h := ifT h q9
    refine lv_iconst (v := (0 : Int32)) hx hb dX7_isNode_23 (by decide) ?_
    have h : some (0 : Int32) = some r := h
    cases h
    exact hret _ _ _ _ rfl hP hD hS dX7_isNode_24
  have h := ifF h q9
  refine lv_iload_n hx hb dX7_isNode_12 rfl (lv_at hl 1 rfl) ?_
  refine lv_sipush (v := (200 : Int32)) hx hb dX7_isNode_13 (by decide) ?_
  refine lv_icmp_ge (tgt := 23) hx hb dX7_isNode_16 (by decide) (fun q16 => ?_) (fun q16 => ?_)
  · have h := ifT h q16
    refine lv_iconst (v := (0 : Int32)) hx hb dX7_isNode_23 (by decide) ?_
    have h : some (0 : Int32) = some r := h
    cases h
    exact hret _ _ _ _ rfl hP hD hS dX7_isNode_24
  have h := ifF h q16
  refine lv_iconst (v := (1 : Int32)) hx hb dX7_isNode_19 (by decide) ?_
  refine lv_goto (tgt := 24) hx hb dX7_isNode_20 (by decide) ?_
  have h : some (1 : Int32) = some r := h
  cases h
  exact hret _ _ _ _ rfl hP hD hS dX7_isNode_24
set_option maxHeartbeats 4000000 in
set_option maxRecDepth 100000 in
theorem mX7_addNode (g : GP) (l : Launch) (aN aN_lefts aN_rights aN_parents aN_rules aN_depths : Nat) (N_size : Int32) (N_solved : Int32) (N_dropped : Int32) (N_lefts : Nat → Int64) (N_rights : Nat → Int64) (N_parents : Nat → Int32) (N_rules : Nat → Int32) (N_depths : Nat → Int32) (x1 : Int32) (x2 : Int32) (x3 : Int64) (x5 : Int64) (N_size_o : Int32) (N_solved_o : Int32) (N_dropped_o : Int32) (N_lefts_o : Nat → Int64) (N_rights_o : Nat → Int64) (N_parents_o : Nat → Int32) (N_rules_o : Nat → Int32) (N_depths_o : Nat → Int32) (h : fN_addNode N_size N_solved N_dropped N_lefts N_rights N_parents N_rules N_depths x1 x2 x3 x5 = some (N_size_o, N_solved_o, N_dropped_o, N_lefts_o, N_rights_o, N_parents_o, N_rules_o, N_depths_o)) : Ct g l yX7_addNode cX7_addNode 7 none rmX7_addNode [.ref aN, .int x1, .int x2, .long x3, .long x5] (wX7 g aN aN_lefts aN_rights aN_parents aN_rules aN_depths N_size N_solved N_dropped N_lefts N_rights N_parents N_rules N_depths) none (wX7 g aN aN_lefts aN_rights aN_parents aN_rules aN_depths N_size_o N_solved_o N_dropped_o N_lefts_o N_rights_o N_parents_o N_rules_o N_depths_o) := by
  refine Ct.introV (by decide) (Nat.le_of_ble_eq_true rfl) ?_
  intro p e s m below meth c A QQ ls hyp hret
  obtain ⟨hx, hb, hml, hts, hown, hA, hE, hP, hD, hl⟩ := hyp
  have hK := hE.1
  have hS : va_S A s.heap s.heap [] := va_S.rf
  have X : Here g p s m c cX7_addNode 7 ([.ref aN, .int x1, .int x2, .long x3, .long x5] : List Value).toArray RX7 A := ⟨⟨hx, hb, hml, hown, hts⟩, hE, hA⟩
  have B36 : ∀ (N_size : Int32) (N_solved : Int32) (N_dropped : Int32) (N_lefts : Nat → Int64) (N_rights : Nat → Int64) (N_parents : Nat → Int32) (N_rules : Nat → Int32) (N_depths : Nat → Int32) (ls : Array Slot) (H : Heap) (locs : List Loc), lv_has ls 7 [(0, .ref aN)] → va_P g.1 vwCl (wX7 g aN aN_lefts aN_rights aN_parents aN_rules aN_depths N_size N_solved N_dropped N_lefts N_rights N_parents N_rules N_depths) H → va_D A (wX7 g aN aN_lefts aN_rights aN_parents aN_rules aN_depths N_size N_solved N_dropped N_lefts N_rights N_parents N_rules N_depths) → va_S A s.heap H locs → fN_addNode_36 N_size N_solved N_lefts N_rights N_parents N_rules N_depths = some (N_size_o, N_solved_o, N_dropped_o, N_lefts_o, N_rights_o, N_parents_o, N_rules_o, N_depths_o) → W p l e rmX7_addNode s m ([.ref aN, .int x1, .int x2, .long x3, .long x5] : List Value).toArray below meth c H locs 0 0 QQ (F0 m 36 ls []) := by
    intro N_size N_solved N_dropped N_lefts N_rights N_parents N_rules N_depths ls H locs hl hP hD hS h
    refine lv_aload_n hx hb dX7_addNode_36 rfl (lv_at hl 0 rfl) ?_
    refine lv_iconst (v := (1 : Int32)) hx hb dX7_addNode_37 (by decide) ?_
    refine va_put (D := g.1) (ci := 7) (v := .int (1 : Int32)) (ty := .boolean) (C := RX7) (T := TX7) (N := 8) hx hb hts inBX7 tyX7 tyX7_ok nmX7 hown hK hP hD hS 0 rfl rfl 7 (by decide) (hts _ wd1_196) (fun _ h9 => h9) rfl (tyX7_ok 7 (by decide)) rfl rfl (Nat.le_of_ble_eq_true rfl) dX7_addNode_38 (fun H locs hP hD hS => ?_)
    have hP : va_P g.1 vwCl (wX7 g aN aN_lefts aN_rights aN_parents aN_rules aN_depths N_size N_solved (1 : Int32) N_lefts N_rights N_parents N_rules N_depths) H := hP
    have hD : va_D A (wX7 g aN aN_lefts aN_rights aN_parents aN_rules aN_depths N_size N_solved (1 : Int32) N_lefts N_rights N_parents N_rules N_depths) := hD
    have h : some (N_size, N_solved, (1 : Int32), N_lefts, N_rights, N_parents, N_rules, N_depths) = some (N_size_o, N_solved_o, N_dropped_o, N_lefts_o, N_rights_o, N_parents_o, N_rules_o, N_depths_o) := h
    cases h
    exact hret _ _ _ _ hP hD hS dX7_addNode_41
  have B133 : ∀ (N_size : Int32) (N_solved : Int32) (N_dropped : Int32) (N_lefts : Nat → Int64) (N_rights : Nat → Int64) (N_parents : Nat → Int32) (N_rules : Nat → Int32) (N_depths : Nat → Int32) (ls : Array Slot) (H : Heap) (locs : List Loc), lv_has ls 7 [(0, .ref aN)] → va_P g.1 vwCl (wX7 g aN aN_lefts aN_rights aN_parents aN_rules aN_depths N_size N_solved N_dropped N_lefts N_rights N_parents N_rules N_depths) H → va_D A (wX7 g aN aN_lefts aN_rights aN_parents aN_rules aN_depths N_size N_solved N_dropped N_lefts N_rights N_parents N_rules N_depths) → va_S A s.heap H locs → fN_addNode_133 N_size N_solved N_dropped N_lefts N_rights N_parents N_rules N_depths = some (N_size_o, N_solved_o, N_dropped_o, N_lefts_o, N_rights_o, N_parents_o, N_rules_o, N_depths_o) → W p l e rmX7_addNode s m ([.ref aN, .int x1, .int x2, .long x3, .long x5] : List Value).toArray below meth c H locs 0 0 QQ (F0 m 133 ls []) := by
    intro N_size N_solved N_dropped N_lefts N_rights N_parents N_rules N_depths ls H locs hl hP hD hS h
    refine lv_aload_n hx hb dX7_addNode_133 rfl (lv_at hl 0 rfl) ?_
    refine lv_dup hx hb dX7_addNode_134 rfl ?_
    refine va_get (D := g.1) (ci := 7) (v := .int N_size) (C := RX7) (T := TX7) (N := 8) hx hb hts inBX7 hown hK hP 0 rfl rfl 5 (by decide) (hts _ wd1_194) (fun _ h9 => h9) rfl dX7_addNode_135 ?_
    refine lv_iconst (v := (1 : Int32)) hx hb dX7_addNode_138 (by decide) ?_
    refine lv_iadd hx hb dX7_addNode_139 ?_
    refine lv_topi (fun t140 et140 => ?_)
    have h := st_to h et140
    refine va_put (D := g.1) (ci := 7) (v := .int t140) (ty := .int) (C := RX7) (T := TX7) (N := 8) hx hb hts inBX7 tyX7 tyX7_ok nmX7 hown hK hP hD hS 0 rfl rfl 5 (by decide) (hts _ wd1_194) (fun _ h9 => h9) rfl (tyX7_ok 5 (by decide)) rfl rfl (Nat.le_of_ble_eq_true rfl) dX7_addNode_140 (fun H locs hP hD hS => ?_)
    have hP : va_P g.1 vwCl (wX7 g aN aN_lefts aN_rights aN_parents aN_rules aN_depths t140 N_solved N_dropped N_lefts N_rights N_parents N_rules N_depths) H := hP
    have hD : va_D A (wX7 g aN aN_lefts aN_rights aN_parents aN_rules aN_depths t140 N_solved N_dropped N_lefts N_rights N_parents N_rules N_depths) := hD
    have h : some (t140, N_solved, N_dropped, N_lefts, N_rights, N_parents, N_rules, N_depths) = some (N_size_o, N_solved_o, N_dropped_o, N_lefts_o, N_rights_o, N_parents_o, N_rules_o, N_depths_o) := h
    cases h
    exact hret _ _ _ _ hP hD hS dX7_addNode_143
  have B111 : ∀ (N_size : Int32) (N_solved : Int32) (N_dropped : Int32) (N_lefts : Nat → Int64) (N_rights : Nat → Int64) (N_parents : Nat → Int32) (N_rules : Nat → Int32) (N_depths : Nat → Int32) (s1 : Int32) (s2 : Int32) (ls : Array Slot) (H : Heap) (locs : List Loc), lv_has ls 7 [(0, .ref aN), (3, .long x3), (5, .long x5)] → va_P g.1 vwCl (wX7 g aN aN_lefts aN_rights aN_parents aN_rules aN_depths N_size N_solved N_dropped N_lefts N_rights N_parents N_rules N_depths) H → va_D A (wX7 g aN aN_lefts aN_rights aN_parents aN_rules aN_depths N_size N_solved N_dropped N_lefts N_rights N_parents N_rules N_depths) → va_S A s.heap H locs → fN_addNode_111 N_size N_solved N_dropped N_lefts N_rights N_parents N_rules N_depths x3 x5 s1 s2 = some (N_size_o, N_solved_o, N_dropped_o, N_lefts_o, N_rights_o, N_parents_o, N_rules_o, N_depths_o) → W p l e rmX7_addNode s m ([.ref aN, .int x1, .int x2, .long x3, .long x5] : List Value).toArray below meth c H locs 0 0 QQ (F0 m 111 ls [.int s2, .int s1, .ref aN_depths]) := by
    intro N_size N_solved N_dropped N_lefts N_rights N_parents N_rules N_depths s1 s2 ls H locs hl hP hD hS h
    have hin := sti_in h
    refine va_iast hx hb hK hP hD hS 5 0 rfl rfl hin dX7_addNode_111 (fun H locs hP hD hS => ?_)
    obtain ⟨N_depths_111, eN_depths_111⟩ : ∃ y : Nat → Int32, y = upd N_depths (Int32.toNatClampNeg s1) s2 := ⟨_, rfl⟩
    have h := sti_to h eN_depths_111
    have hP : va_P g.1 vwCl (wX7 g aN aN_lefts aN_rights aN_parents aN_rules aN_depths N_size N_solved N_dropped N_lefts N_rights N_parents N_rules N_depths_111) H := by rw [eN_depths_111]; exact hP
    have hD : va_D A (wX7 g aN aN_lefts aN_rights aN_parents aN_rules aN_depths N_size N_solved N_dropped N_lefts N_rights N_parents N_rules N_depths_111) := by rw [eN_depths_111]; exact hD
    refine lv_lload_n hx hb dX7_addNode_112 rfl (lv_at hl 1 rfl) ?_
    refine lv_lconst (v := (0 : Int64)) hx hb dX7_addNode_113 (by decide) ?_
    refine W.lcmp hx hb dX7_addNode_114 ?_
    refine lv_if_ne (tgt := 133) hx hb dX7_addNode_115 (by decide) (fun q115 => ?_) (fun q115 => ?_)
    · have h := ifF h q115
      exact B133 N_size N_solved N_dropped N_lefts N_rights N_parents N_rules N_depths_111 ls H locs (lv_sub hl [0] rfl) hP hD hS h
    have h := ifT h q115
    refine lv_lload hx hb dX7_addNode_118 (lv_at hl 2 rfl) ?_
    refine lv_lconst (v := (0 : Int64)) hx hb dX7_addNode_120 (by decide) ?_
    refine W.lcmp hx hb dX7_addNode_121 ?_
    refine lv_if_ne (tgt := 133) hx hb dX7_addNode_122 (by decide) (fun q122 => ?_) (fun q122 => ?_)
    · have h := ifF h q122
      exact B133 N_size N_solved N_dropped N_lefts N_rights N_parents N_rules N_depths_111 ls H locs (lv_sub hl [0] rfl) hP hD hS h
    have h := ifT h q122
    refine lv_aload_n hx hb dX7_addNode_125 rfl (lv_at hl 0 rfl) ?_
    refine lv_aload_n hx hb dX7_addNode_126 rfl (lv_at hl 0 rfl) ?_
    refine va_get (D := g.1) (ci := 7) (v := .int N_size) (C := RX7) (T := TX7) (N := 8) hx hb hts inBX7 hown hK hP 0 rfl rfl 5 (by decide) (hts _ wd1_194) (fun _ h9 => h9) rfl dX7_addNode_127 ?_
    refine va_put (D := g.1) (ci := 7) (v := .int N_size) (ty := .int) (C := RX7) (T := TX7) (N := 8) hx hb hts inBX7 tyX7 tyX7_ok nmX7 hown hK hP hD hS 0 rfl rfl 6 (by decide) (hts _ wd1_195) (fun _ h9 => h9) rfl (tyX7_ok 6 (by decide)) rfl rfl (Nat.le_of_ble_eq_true rfl) dX7_addNode_130 (fun H locs hP hD hS => ?_)
    have hP : va_P g.1 vwCl (wX7 g aN aN_lefts aN_rights aN_parents aN_rules aN_depths N_size N_size N_dropped N_lefts N_rights N_parents N_rules N_depths_111) H := hP
    have hD : va_D A (wX7 g aN aN_lefts aN_rights aN_parents aN_rules aN_depths N_size N_size N_dropped N_lefts N_rights N_parents N_rules N_depths_111) := hD
    exact B133 N_size N_size N_dropped N_lefts N_rights N_parents N_rules N_depths_111 ls H locs (lv_sub hl [0] rfl) hP hD hS h
  have hl : lv_has ls 7 [(0, .ref aN), (1, .int x1), (2, .int x2), (3, .long x3), (5, .long x5)] := hl
  obtain ⟨H, hH⟩ : ∃ H, H = s.heap := ⟨_, rfl⟩
  obtain ⟨locs, hlocs⟩ : ∃ l : List Loc, l = [] := ⟨_, rfl⟩
  rw [show W p l e rmX7_addNode s m ([.ref aN, .int x1, .int x2, .long x3, .long x5] : List Value).toArray below meth c s.heap [] 0 0 QQ (F0 m 0 ls []) = W p l e rmX7_addNode s m ([.ref aN, .int x1, .int x2, .long x3, .long x5] : List Value).toArray below meth c H locs 0 0 QQ (F0 m 0 ls []) by rw [hH, hlocs]]
  have hP : va_P g.1 vwCl (wX7 g aN aN_lefts aN_rights aN_parents aN_rules aN_depths N_size N_solved N_dropped N_lefts N_rights N_parents N_rules N_depths) H := by rw [hH]; exact hP
  have hD : va_D A (wX7 g aN aN_lefts aN_rights aN_parents aN_rules aN_depths N_size N_solved N_dropped N_lefts N_rights N_parents N_rules N_depths) := hD
  have hS : va_S A s.heap H locs := by rw [hH, hlocs]; exact hS
  clear hH hlocs
  refine lv_aload_n hx hb dX7_addNode_0 rfl (lv_at hl 0 rfl) ?_
  refine va_get (D := g.1) (ci := 7) (v := .int N_solved) (C := RX7) (T := TX7) (N := 8) hx hb hts inBX7 hown hK hP 0 rfl rfl 6 (by decide) (hts _ wd1_195) (fun _ h9 => h9) rfl dX7_addNode_1 ?_
  refine lv_iconst (v := ((-1) : Int32)) hx hb dX7_addNode_4 (by decide) ?_
  refine lv_icmp_ne (tgt := 18) hx hb dX7_addNode_5 (by decide) (fun q5 => ?_) (fun q5 => ?_)
  · have h := ifF h q5
    have h : some (N_size, N_solved, N_dropped, N_lefts, N_rights, N_parents, N_rules, N_depths) = some (N_size_o, N_solved_o, N_dropped_o, N_lefts_o, N_rights_o, N_parents_o, N_rules_o, N_depths_o) := h
    cases h
    exact hret _ _ _ _ hP hD hS dX7_addNode_18
  have h := ifT h q5
  refine lv_aload_n hx hb dX7_addNode_8 rfl (lv_at hl 0 rfl) ?_
  refine lv_lload_n hx hb dX7_addNode_9 rfl (lv_at hl 3 rfl) ?_
  refine lv_lload hx hb dX7_addNode_10 (lv_at hl 4 rfl) ?_
  obtain ⟨t12, hc12, h⟩ := bd1_to h
  refine go_A (st1 := [.int t12]) (run_V (As := [.long x3, .long x5]) (rest := []) X hS (mX7_isKnown g l  aN aN_lefts aN_rights aN_parents aN_rules aN_depths N_size N_solved N_dropped N_lefts N_rights N_parents N_rules N_depths x3 x5 t12 hc12) okX7_isKnown wd4_39 ⟨Nat.le_of_ble_eq_true rfl, Nat.le_of_ble_eq_true rfl⟩ ⟨rfl, rfl⟩ (va_recv hK hP (ci := 7) (q0 := 0) rfl rfl) hP hD (all_F hS hA hD) rfl hl.1 rfl (Nat.le_of_ble_eq_true rfl) dX7_addNode_12 ⟨Nat.zero_le _, Nat.zero_le _⟩) hS (all_F hS hA hD) rfl (fun H locs hP hD hS => ?_)
  refine lv_if_eq (tgt := 19) hx hb dX7_addNode_15 (by decide) (fun q15 => ?_) (fun q15 => ?_)
  · have h := ifT h q15
    refine lv_aload_n hx hb dX7_addNode_19 rfl (lv_at hl 0 rfl) ?_
    refine va_get (D := g.1) (ci := 7) (v := .int N_size) (C := RX7) (T := TX7) (N := 8) hx hb hts inBX7 hown hK hP 0 rfl rfl 5 (by decide) (hts _ wd1_194) (fun _ h9 => h9) rfl dX7_addNode_20 ?_
    refine lv_if_lt (tgt := 36) hx hb dX7_addNode_23 (by decide) (fun q23 => ?_) (fun q23 => ?_)
    · have h := ifT h q23
      exact B36 N_size N_solved N_dropped N_lefts N_rights N_parents N_rules N_depths ls H locs (lv_sub hl [0] rfl) hP hD hS h
    have h := ifF h q23
    refine lv_aload_n hx hb dX7_addNode_26 rfl (lv_at hl 0 rfl) ?_
    refine va_get (D := g.1) (ci := 7) (v := .int N_size) (C := RX7) (T := TX7) (N := 8) hx hb hts inBX7 hown hK hP 0 rfl rfl 5 (by decide) (hts _ wd1_194) (fun _ h9 => h9) rfl dX7_addNode_27 ?_
    refine lv_sipush (v := (200 : Int32)) hx hb dX7_addNode_30 (by decide) ?_
    refine lv_icmp_lt (tgt := 42) hx hb dX7_addNode_33 (by decide) (fun q33 => ?_) (fun q33 => ?_)
    · have h := ifT h q33
      refine lv_aload_n hx hb dX7_addNode_42 rfl (lv_at hl 0 rfl) ?_
      refine va_get (D := g.1) (ci := 7) (v := .ref aN_lefts) (C := RX7) (T := TX7) (N := 8) hx hb hts inBX7 hown hK hP 0 rfl rfl 0 (by decide) (hts _ wd1_189) (fun _ h9 => h9) rfl dX7_addNode_43 ?_
      refine lv_aload_n hx hb dX7_addNode_46 rfl (lv_at hl 0 rfl) ?_
      refine va_get (D := g.1) (ci := 7) (v := .int N_size) (C := RX7) (T := TX7) (N := 8) hx hb hts inBX7 hown hK hP 0 rfl rfl 5 (by decide) (hts _ wd1_194) (fun _ h9 => h9) rfl dX7_addNode_47 ?_
      refine lv_lload_n hx hb dX7_addNode_50 rfl (lv_at hl 3 rfl) ?_
      have hin := stl_in h
      refine va_last hx hb hK hP hD hS 1 1 rfl rfl hin dX7_addNode_51 (fun H locs hP hD hS => ?_)
      obtain ⟨N_lefts_51, eN_lefts_51⟩ : ∃ y : Nat → Int64, y = vp_updL N_lefts (Int32.toNatClampNeg N_size) x3 := ⟨_, rfl⟩
      have h := stl_to h eN_lefts_51
      have hP : va_P g.1 vwCl (wX7 g aN aN_lefts aN_rights aN_parents aN_rules aN_depths N_size N_solved N_dropped N_lefts_51 N_rights N_parents N_rules N_depths) H := by rw [eN_lefts_51]; exact hP
      have hD : va_D A (wX7 g aN aN_lefts aN_rights aN_parents aN_rules aN_depths N_size N_solved N_dropped N_lefts_51 N_rights N_parents N_rules N_depths) := by rw [eN_lefts_51]; exact hD
      refine lv_aload_n hx hb dX7_addNode_52 rfl (lv_at hl 0 rfl) ?_
      refine va_get (D := g.1) (ci := 7) (v := .ref aN_rights) (C := RX7) (T := TX7) (N := 8) hx hb hts inBX7 hown hK hP 0 rfl rfl 1 (by decide) (hts _ wd1_190) (fun _ h9 => h9) rfl dX7_addNode_53 ?_
      refine lv_aload_n hx hb dX7_addNode_56 rfl (lv_at hl 0 rfl) ?_
      refine va_get (D := g.1) (ci := 7) (v := .int N_size) (C := RX7) (T := TX7) (N := 8) hx hb hts inBX7 hown hK hP 0 rfl rfl 5 (by decide) (hts _ wd1_194) (fun _ h9 => h9) rfl dX7_addNode_57 ?_
      refine lv_lload hx hb dX7_addNode_60 (lv_at hl 4 rfl) ?_
      have hin := stl_in h
      refine va_last hx hb hK hP hD hS 2 1 rfl rfl hin dX7_addNode_62 (fun H locs hP hD hS => ?_)
      obtain ⟨N_rights_62, eN_rights_62⟩ : ∃ y : Nat → Int64, y = vp_updL N_rights (Int32.toNatClampNeg N_size) x5 := ⟨_, rfl⟩
      have h := stl_to h eN_rights_62
      have hP : va_P g.1 vwCl (wX7 g aN aN_lefts aN_rights aN_parents aN_rules aN_depths N_size N_solved N_dropped N_lefts_51 N_rights_62 N_parents N_rules N_depths) H := by rw [eN_rights_62]; exact hP
      have hD : va_D A (wX7 g aN aN_lefts aN_rights aN_parents aN_rules aN_depths N_size N_solved N_dropped N_lefts_51 N_rights_62 N_parents N_rules N_depths) := by rw [eN_rights_62]; exact hD
      refine lv_aload_n hx hb dX7_addNode_63 rfl (lv_at hl 0 rfl) ?_
      refine va_get (D := g.1) (ci := 7) (v := .ref aN_parents) (C := RX7) (T := TX7) (N := 8) hx hb hts inBX7 hown hK hP 0 rfl rfl 2 (by decide) (hts _ wd1_191) (fun _ h9 => h9) rfl dX7_addNode_64 ?_
      refine lv_aload_n hx hb dX7_addNode_67 rfl (lv_at hl 0 rfl) ?_
      refine va_get (D := g.1) (ci := 7) (v := .int N_size) (C := RX7) (T := TX7) (N := 8) hx hb hts inBX7 hown hK hP 0 rfl rfl 5 (by decide) (hts _ wd1_194) (fun _ h9 => h9) rfl dX7_addNode_68 ?_
      refine lv_iload_n hx hb dX7_addNode_71 rfl (lv_at hl 1 rfl) ?_
      have hin := sti_in h
      refine va_iast hx hb hK hP hD hS 3 0 rfl rfl hin dX7_addNode_72 (fun H locs hP hD hS => ?_)
      obtain ⟨N_parents_72, eN_parents_72⟩ : ∃ y : Nat → Int32, y = upd N_parents (Int32.toNatClampNeg N_size) x1 := ⟨_, rfl⟩
      have h := sti_to h eN_parents_72
      have hP : va_P g.1 vwCl (wX7 g aN aN_lefts aN_rights aN_parents aN_rules aN_depths N_size N_solved N_dropped N_lefts_51 N_rights_62 N_parents_72 N_rules N_depths) H := by rw [eN_parents_72]; exact hP
      have hD : va_D A (wX7 g aN aN_lefts aN_rights aN_parents aN_rules aN_depths N_size N_solved N_dropped N_lefts_51 N_rights_62 N_parents_72 N_rules N_depths) := by rw [eN_parents_72]; exact hD
      refine lv_aload_n hx hb dX7_addNode_73 rfl (lv_at hl 0 rfl) ?_
      refine va_get (D := g.1) (ci := 7) (v := .ref aN_rules) (C := RX7) (T := TX7) (N := 8) hx hb hts inBX7 hown hK hP 0 rfl rfl 3 (by decide) (hts _ wd1_192) (fun _ h9 => h9) rfl dX7_addNode_74 ?_
      refine lv_aload_n hx hb dX7_addNode_77 rfl (lv_at hl 0 rfl) ?_
      refine va_get (D := g.1) (ci := 7) (v := .int N_size) (C := RX7) (T := TX7) (N := 8) hx hb hts inBX7 hown hK hP 0 rfl rfl 5 (by decide) (hts _ wd1_194) (fun _ h9 => h9) rfl dX7_addNode_78 ?_
      refine lv_iload_n hx hb dX7_addNode_81 rfl (lv_at hl 2 rfl) ?_
      have hin := sti_in h
      refine va_iast hx hb hK hP hD hS 4 0 rfl rfl hin dX7_addNode_82 (fun H locs hP hD hS => ?_)
      obtain ⟨N_rules_82, eN_rules_82⟩ : ∃ y : Nat → Int32, y = upd N_rules (Int32.toNatClampNeg N_size) x2 := ⟨_, rfl⟩
      have h := sti_to h eN_rules_82
      have hP : va_P g.1 vwCl (wX7 g aN aN_lefts aN_rights aN_parents aN_rules aN_depths N_size N_solved N_dropped N_lefts_51 N_rights_62 N_parents_72 N_rules_82 N_depths) H := by rw [eN_rules_82]; exact hP
      have hD : va_D A (wX7 g aN aN_lefts aN_rights aN_parents aN_rules aN_depths N_size N_solved N_dropped N_lefts_51 N_rights_62 N_parents_72 N_rules_82 N_depths) := by rw [eN_rules_82]; exact hD
      refine lv_aload_n hx hb dX7_addNode_83 rfl (lv_at hl 0 rfl) ?_
      refine va_get (D := g.1) (ci := 7) (v := .ref aN_depths) (C := RX7) (T := TX7) (N := 8) hx hb hts inBX7 hown hK hP 0 rfl rfl 4 (by decide) (hts _ wd1_193) (fun _ h9 => h9) rfl dX7_addNode_84 ?_
      refine lv_aload_n hx hb dX7_addNode_87 rfl (lv_at hl 0 rfl) ?_
      refine va_get (D := g.1) (ci := 7) (v := .int N_size) (C := RX7) (T := TX7) (N := 8) hx hb hts inBX7 hown hK hP 0 rfl rfl 5 (by decide) (hts _ wd1_194) (fun _ h9 => h9) rfl dX7_addNode_88 ?_
      refine lv_aload_n hx hb dX7_addNode_91 rfl (lv_at hl 0 rfl) ?_
      refine lv_iload_n hx hb dX7_addNode_92 rfl (lv_at hl 1 rfl) ?_
      obtain ⟨t93, hc93, h⟩ := bd1_to h
      refine go_A (st1 := [.int t93, .int N_size, .ref aN_depths]) (run_V (As := [.int x1]) (rest := [.int N_size, .ref aN_depths]) X hS (mX7_isNode g l  aN aN_lefts aN_rights aN_parents aN_rules aN_depths N_size N_solved N_dropped N_lefts_51 N_rights_62 N_parents_72 N_rules_82 N_depths x1 t93 hc93) okX7_isNode wd4_43 ⟨Nat.le_of_ble_eq_true rfl, Nat.le_of_ble_eq_true rfl⟩ ⟨rfl, rfl⟩ (va_recv hK hP (ci := 7) (q0 := 0) rfl rfl) hP hD (all_F hS hA hD) rfl hl.1 rfl (Nat.le_of_ble_eq_true rfl) dX7_addNode_93 ⟨Nat.zero_le _, Nat.zero_le _⟩) hS (all_F hS hA hD) rfl (fun H locs hP hD hS => ?_)
      refine lv_if_eq (tgt := 110) hx hb dX7_addNode_96 (by decide) (fun q96 => ?_) (fun q96 => ?_)
      · have h := ifT h q96
        refine lv_iconst (v := (0 : Int32)) hx hb dX7_addNode_110 (by decide) ?_
        exact B111 N_size N_solved N_dropped N_lefts_51 N_rights_62 N_parents_72 N_rules_82 N_depths N_size (0 : Int32) ls H locs (lv_sub hl [0, 3, 4] rfl) hP hD hS h
      have h := ifF h q96
      refine lv_aload_n hx hb dX7_addNode_99 rfl (lv_at hl 0 rfl) ?_
      refine va_get (D := g.1) (ci := 7) (v := .ref aN_depths) (C := RX7) (T := TX7) (N := 8) hx hb hts inBX7 hown hK hP 0 rfl rfl 4 (by decide) (hts _ wd1_193) (fun _ h9 => h9) rfl dX7_addNode_100 ?_
      refine lv_iload_n hx hb dX7_addNode_103 rfl (lv_at hl 1 rfl) ?_
      have hin := ld_in h
      refine va_iald hx hb hK hP 5 0 rfl rfl hin dX7_addNode_104 ?_
      refine lv_topi (fun t104 et104 => ?_)
      have h := ld_to h et104
      refine lv_iconst (v := (1 : Int32)) hx hb dX7_addNode_105 (by decide) ?_
      refine lv_iadd hx hb dX7_addNode_106 ?_
      refine lv_goto (tgt := 111) hx hb dX7_addNode_107 (by decide) ?_
      exact B111 N_size N_solved N_dropped N_lefts_51 N_rights_62 N_parents_72 N_rules_82 N_depths N_size ((t104 + (1 : Int32))) ls H locs (lv_sub hl [0, 3, 4] rfl) hP hD hS h
    have h := ifF h q33
    exact B36 N_size N_solved N_dropped N_lefts N_rights N_parents N_rules N_depths ls H locs (lv_sub hl [0] rfl) hP hD hS h
  have h := ifF h q15
  have h : some (N_size, N_solved, N_dropped, N_lefts, N_rights, N_parents, N_rules, N_depths) = some (N_size_o, N_solved_o, N_dropped_o, N_lefts_o, N_rights_o, N_parents_o, N_rules_o, N_depths_o) := h
  cases h
  exact hret _ _ _ _ hP hD hS dX7_addNode_18
set_option maxHeartbeats 4000000 in
set_option maxRecDepth 100000 in
theorem mX7_addWithout (g : GP) (l : Launch) (aN aN_lefts aN_rights aN_parents aN_rules aN_depths : Nat) (N_size : Int32) (N_solved : Int32) (N_dropped : Int32) (N_lefts : Nat → Int64) (N_rights : Nat → Int64) (N_parents : Nat → Int32) (N_rules : Nat → Int32) (N_depths : Nat → Int32) (x1 : Int32) (x2 : Int32) (x3 : Int32) (N_size_o : Int32) (N_solved_o : Int32) (N_dropped_o : Int32) (N_lefts_o : Nat → Int64) (N_rights_o : Nat → Int64) (N_parents_o : Nat → Int32) (N_rules_o : Nat → Int32) (N_depths_o : Nat → Int32) (h : fN_addWithout N_size N_solved N_dropped N_lefts N_rights N_parents N_rules N_depths x1 x2 x3 = some (N_size_o, N_solved_o, N_dropped_o, N_lefts_o, N_rights_o, N_parents_o, N_rules_o, N_depths_o)) : Ct g l yX7_addWithout cX7_addWithout 8 none rmX7_addWithout [.ref aN, .int x1, .int x2, .int x3] (wX7 g aN aN_lefts aN_rights aN_parents aN_rules aN_depths N_size N_solved N_dropped N_lefts N_rights N_parents N_rules N_depths) none (wX7 g aN aN_lefts aN_rights aN_parents aN_rules aN_depths N_size_o N_solved_o N_dropped_o N_lefts_o N_rights_o N_parents_o N_rules_o N_depths_o) := by
  refine Ct.introV (by decide) (Nat.le_of_ble_eq_true rfl) ?_
  intro p e s m below meth c A QQ ls hyp hret
  obtain ⟨hx, hb, hml, hts, hown, hA, hE, hP, hD, hl⟩ := hyp
  have hK := hE.1
  have hS : va_S A s.heap s.heap [] := va_S.rf
  have X : Here g p s m c cX7_addWithout 8 ([.ref aN, .int x1, .int x2, .int x3] : List Value).toArray RX7 A := ⟨⟨hx, hb, hml, hown, hts⟩, hE, hA⟩
  have hl : lv_has ls 8 [(0, .ref aN), (1, .int x1), (2, .int x2), (3, .int x3)] := hl
  obtain ⟨H, hH⟩ : ∃ H, H = s.heap := ⟨_, rfl⟩
  obtain ⟨locs, hlocs⟩ : ∃ l : List Loc, l = [] := ⟨_, rfl⟩
  rw [show W p l e rmX7_addWithout s m ([.ref aN, .int x1, .int x2, .int x3] : List Value).toArray below meth c s.heap [] 0 0 QQ (F0 m 0 ls []) = W p l e rmX7_addWithout s m ([.ref aN, .int x1, .int x2, .int x3] : List Value).toArray below meth c H locs 0 0 QQ (F0 m 0 ls []) by rw [hH, hlocs]]
  have hP : va_P g.1 vwCl (wX7 g aN aN_lefts aN_rights aN_parents aN_rules aN_depths N_size N_solved N_dropped N_lefts N_rights N_parents N_rules N_depths) H := by rw [hH]; exact hP
  have hD : va_D A (wX7 g aN aN_lefts aN_rights aN_parents aN_rules aN_depths N_size N_solved N_dropped N_lefts N_rights N_parents N_rules N_depths) := hD
  have hS : va_S A s.heap H locs := by rw [hH, hlocs]; exact hS
  clear hH hlocs
  refine lv_aload_n hx hb dX7_addWithout_0 rfl (lv_at hl 0 rfl) ?_
  refine va_get (D := g.1) (ci := 7) (v := .ref aN_lefts) (C := RX7) (T := TX7) (N := 8) hx hb hts inBX7 hown hK hP 0 rfl rfl 0 (by decide) (hts _ wd1_189) (fun _ h9 => h9) rfl dX7_addWithout_1 ?_
  refine lv_iload_n hx hb dX7_addWithout_4 rfl (lv_at hl 1 rfl) ?_
  have hin := ld_in h
  refine va_lald hx hb hK hP 1 1 rfl rfl hin dX7_addWithout_5 ?_
  refine lv_topl (fun t5 et5 => ?_)
  have h := ld_to h et5
  refine lv_iload_n hx hb dX7_addWithout_6 rfl (lv_at hl 3 rfl) ?_
  refine lv_lconst (v := (0 : Int64)) hx hb dX7_addWithout_7 (by decide) ?_
  obtain ⟨t8, hc8, h⟩ := bd1_to h
  refine go_0 (st1 := [.long t8]) (run_S (As := [.long t5, .int x3, .long (0 : Int64)]) (rest := []) X hS (mX9_replaced g l  t5 x3 (0 : Int64) t8 hc8) okX9_replaced wd4_58 ⟨Nat.le_of_ble_eq_true rfl, Nat.le_of_ble_eq_true rfl⟩ ⟨rfl, rfl⟩ nil_P nil_D (nil_F hS hA) rfl hl.1 rfl (Nat.le_of_ble_eq_true rfl) dX7_addWithout_8 ⟨Nat.zero_le _, Nat.zero_le _⟩) hS hA hP rfl (fun H locs hP hS => ?_)
  refine lv_lstore (lv' := [(4, .long t8), (0, .ref aN), (1, .int x1), (2, .int x2), (3, .int x3)]) hx hb dX7_addWithout_11 hl (by decide) rfl (fun ls hl => ?_)
  refine lv_aload_n hx hb dX7_addWithout_13 rfl (lv_at hl 1 rfl) ?_
  refine va_get (D := g.1) (ci := 7) (v := .ref aN_rights) (C := RX7) (T := TX7) (N := 8) hx hb hts inBX7 hown hK hP 0 rfl rfl 1 (by decide) (hts _ wd1_190) (fun _ h9 => h9) rfl dX7_addWithout_14 ?_
  refine lv_iload_n hx hb dX7_addWithout_17 rfl (lv_at hl 2 rfl) ?_
  have hin := ld_in h
  refine va_lald hx hb hK hP 2 1 rfl rfl hin dX7_addWithout_18 ?_
  refine lv_topl (fun t18 et18 => ?_)
  have h := ld_to h et18
  refine lv_iload_n hx hb dX7_addWithout_19 rfl (lv_at hl 4 rfl) ?_
  refine lv_lconst (v := (0 : Int64)) hx hb dX7_addWithout_20 (by decide) ?_
  obtain ⟨t21, hc21, h⟩ := bd1_to h
  refine go_0 (st1 := [.long t21]) (run_S (As := [.long t18, .int x3, .long (0 : Int64)]) (rest := []) X hS (mX9_replaced g l  t18 x3 (0 : Int64) t21 hc21) okX9_replaced wd4_58 ⟨Nat.le_of_ble_eq_true rfl, Nat.le_of_ble_eq_true rfl⟩ ⟨rfl, rfl⟩ nil_P nil_D (nil_F hS hA) rfl hl.1 rfl (Nat.le_of_ble_eq_true rfl) dX7_addWithout_21 ⟨Nat.zero_le _, Nat.zero_le _⟩) hS hA hP rfl (fun H locs hP hS => ?_)
  refine lv_lstore (lv' := [(6, .long t21), (4, .long t8), (0, .ref aN), (1, .int x1), (2, .int x2), (3, .int x3)]) hx hb dX7_addWithout_24 hl (by decide) rfl (fun ls hl => ?_)
  refine lv_aload_n hx hb dX7_addWithout_26 rfl (lv_at hl 2 rfl) ?_
  refine lv_iload_n hx hb dX7_addWithout_27 rfl (lv_at hl 3 rfl) ?_
  refine lv_iload_n hx hb dX7_addWithout_28 rfl (lv_at hl 4 rfl) ?_
  refine lv_lload hx hb dX7_addWithout_29 (lv_at hl 1 rfl) ?_
  refine lv_lload hx hb dX7_addWithout_31 (lv_at hl 0 rfl) ?_
  obtain ⟨N_size_33, N_solved_33, N_dropped_33, N_lefts_33, N_rights_33, N_parents_33, N_rules_33, N_depths_33, hc33, h⟩ := bd8_to h
  refine go_A (st1 := []) (run_V (As := [.int x1, .int x2, .long t8, .long t21]) (rest := []) X hS (mX7_addNode g l  aN aN_lefts aN_rights aN_parents aN_rules aN_depths N_size N_solved N_dropped N_lefts N_rights N_parents N_rules N_depths x1 x2 t8 t21 N_size_33 N_solved_33 N_dropped_33 N_lefts_33 N_rights_33 N_parents_33 N_rules_33 N_depths_33 hc33) okX7_addNode wd4_35 ⟨Nat.le_of_ble_eq_true rfl, Nat.le_of_ble_eq_true rfl⟩ ⟨rfl, rfl⟩ (va_recv hK hP (ci := 7) (q0 := 0) rfl rfl) hP hD (all_F hS hA hD) rfl hl.1 rfl (Nat.le_of_ble_eq_true rfl) dX7_addWithout_33 ⟨Nat.zero_le _, Nat.zero_le _⟩) hS (all_F hS hA hD) rfl (fun H locs hP hD hS => ?_)
  have h : some (N_size_33, N_solved_33, N_dropped_33, N_lefts_33, N_rights_33, N_parents_33, N_rules_33, N_depths_33) = some (N_size_o, N_solved_o, N_dropped_o, N_lefts_o, N_rights_o, N_parents_o, N_rules_o, N_depths_o) := h
  cases h
  exact hret _ _ _ _ hP hD hS dX7_addWithout_36
set_option maxHeartbeats 4000000 in
set_option maxRecDepth 100000 in
theorem mX7_addLonger (g : GP) (l : Launch) (aN aN_lefts aN_rights aN_parents aN_rules aN_depths : Nat) (N_size : Int32) (N_solved : Int32) (N_dropped : Int32) (N_lefts : Nat → Int64) (N_rights : Nat → Int64) (N_parents : Nat → Int32) (N_rules : Nat → Int32) (N_depths : Nat → Int32) (x1 : Int32) (x2 : Int32) (x3 : Int32) (x4 : Int32) (N_size_o : Int32) (N_solved_o : Int32) (N_dropped_o : Int32) (N_lefts_o : Nat → Int64) (N_rights_o : Nat → Int64) (N_parents_o : Nat → Int32) (N_rules_o : Nat → Int32) (N_depths_o : Nat → Int32) (h : fN_addLonger N_size N_solved N_dropped N_lefts N_rights N_parents N_rules N_depths x1 x2 x3 x4 = some (N_size_o, N_solved_o, N_dropped_o, N_lefts_o, N_rights_o, N_parents_o, N_rules_o, N_depths_o)) : Ct g l yX7_addLonger cX7_addLonger 12 none rmX7_addLonger [.ref aN, .int x1, .int x2, .int x3, .int x4] (wX7 g aN aN_lefts aN_rights aN_parents aN_rules aN_depths N_size N_solved N_dropped N_lefts N_rights N_parents N_rules N_depths) none (wX7 g aN aN_lefts aN_rights aN_parents aN_rules aN_depths N_size_o N_solved_o N_dropped_o N_lefts_o N_rights_o N_parents_o N_rules_o N_depths_o) := by
  refine Ct.introV (by decide) (Nat.le_of_ble_eq_true rfl) ?_
  intro p e s m below meth c A QQ ls hyp hret
  obtain ⟨hx, hb, hml, hts, hown, hA, hE, hP, hD, hl⟩ := hyp
  have hK := hE.1
  have hS : va_S A s.heap s.heap [] := va_S.rf
  have X : Here g p s m c cX7_addLonger 12 ([.ref aN, .int x1, .int x2, .int x3, .int x4] : List Value).toArray RX7 A := ⟨⟨hx, hb, hml, hown, hts⟩, hE, hA⟩
  have B36 : ∀ (N_size : Int32) (N_solved : Int32) (N_dropped : Int32) (N_lefts : Nat → Int64) (N_rights : Nat → Int64) (N_parents : Nat → Int32) (N_rules : Nat → Int32) (N_depths : Nat → Int32) (ls : Array Slot) (H : Heap) (locs : List Loc), lv_has ls 12 [(0, .ref aN)] → va_P g.1 vwCl (wX7 g aN aN_lefts aN_rights aN_parents aN_rules aN_depths N_size N_solved N_dropped N_lefts N_rights N_parents N_rules N_depths) H → va_D A (wX7 g aN aN_lefts aN_rights aN_parents aN_rules aN_depths N_size N_solved N_dropped N_lefts N_rights N_parents N_rules N_depths) → va_S A s.heap H locs → fN_addLonger_36 N_size N_solved N_lefts N_rights N_parents N_rules N_depths = some (N_size_o, N_solved_o, N_dropped_o, N_lefts_o, N_rights_o, N_parents_o, N_rules_o, N_depths_o) → W p l e rmX7_addLonger s m ([.ref aN, .int x1, .int x2, .int x3, .int x4] : List Value).toArray below meth c H locs 0 0 QQ (F0 m 36 ls []) := by
    intro N_size N_solved N_dropped N_lefts N_rights N_parents N_rules N_depths ls H locs hl hP hD hS h
    refine lv_aload_n hx hb dX7_addLonger_36 rfl (lv_at hl 0 rfl) ?_
    refine lv_iconst (v := (1 : Int32)) hx hb dX7_addLonger_37 (by decide) ?_
    refine va_put (D := g.1) (ci := 7) (v := .int (1 : Int32)) (ty := .boolean) (C := RX7) (T := TX7) (N := 8) hx hb hts inBX7 tyX7 tyX7_ok nmX7 hown hK hP hD hS 0 rfl rfl 7 (by decide) (hts _ wd1_196) (fun _ h9 => h9) rfl (tyX7_ok 7 (by decide)) rfl rfl (Nat.le_of_ble_eq_true rfl) dX7_addLonger_38 (fun H locs hP hD hS => ?_)
    have hP : va_P g.1 vwCl (wX7 g aN aN_lefts aN_rights aN_parents aN_rules aN_depths N_size N_solved (1 : Int32) N_lefts N_rights N_parents N_rules N_depths) H := hP
    have hD : va_D A (wX7 g aN aN_lefts aN_rights aN_parents aN_rules aN_depths N_size N_solved (1 : Int32) N_lefts N_rights N_parents N_rules N_depths) := hD
    have h : some (N_size, N_solved, (1 : Int32), N_lefts, N_rights, N_parents, N_rules, N_depths) = some (N_size_o, N_solved_o, N_dropped_o, N_lefts_o, N_rights_o, N_parents_o, N_rules_o, N_depths_o) := h
    cases h
    exact hret _ _ _ _ hP hD hS dX7_addLonger_41
  have hl : lv_has ls 12 [(0, .ref aN), (1, .int x1), (2, .int x2), (3, .int x3), (4, .int x4)] := hl
  obtain ⟨H, hH⟩ : ∃ H, H = s.heap := ⟨_, rfl⟩
  obtain ⟨locs, hlocs⟩ : ∃ l : List Loc, l = [] := ⟨_, rfl⟩
  rw [show W p l e rmX7_addLonger s m ([.ref aN, .int x1, .int x2, .int x3, .int x4] : List Value).toArray below meth c s.heap [] 0 0 QQ (F0 m 0 ls []) = W p l e rmX7_addLonger s m ([.ref aN, .int x1, .int x2, .int x3, .int x4] : List Value).toArray below meth c H locs 0 0 QQ (F0 m 0 ls []) by rw [hH, hlocs]]
  have hP : va_P g.1 vwCl (wX7 g aN aN_lefts aN_rights aN_parents aN_rules aN_depths N_size N_solved N_dropped N_lefts N_rights N_parents N_rules N_depths) H := by rw [hH]; exact hP
  have hD : va_D A (wX7 g aN aN_lefts aN_rights aN_parents aN_rules aN_depths N_size N_solved N_dropped N_lefts N_rights N_parents N_rules N_depths) := hD
  have hS : va_S A s.heap H locs := by rw [hH, hlocs]; exact hS
  clear hH hlocs
  refine lv_bipush (v := (13 : Int32)) hx hb dX7_addLonger_0 (by decide) ?_
  refine lv_istore (lv' := [(5, .int (13 : Int32)), (0, .ref aN), (1, .int x1), (2, .int x2), (3, .int x3), (4, .int x4)]) hx hb dX7_addLonger_2 hl (by decide) rfl (fun ls hl => ?_)
  refine lv_aload_n hx hb dX7_addLonger_4 rfl (lv_at hl 1 rfl) ?_
  refine va_get (D := g.1) (ci := 7) (v := .ref aN_lefts) (C := RX7) (T := TX7) (N := 8) hx hb hts inBX7 hown hK hP 0 rfl rfl 0 (by decide) (hts _ wd1_189) (fun _ h9 => h9) rfl dX7_addLonger_5 ?_
  refine lv_iload_n hx hb dX7_addLonger_8 rfl (lv_at hl 2 rfl) ?_
  have hin := ld_in h
  refine va_lald hx hb hK hP 1 1 rfl rfl hin dX7_addLonger_9 ?_
  refine lv_topl (fun t9 et9 => ?_)
  have h := ld_to h et9
  refine lv_iload_n hx hb dX7_addLonger_10 rfl (lv_at hl 4 rfl) ?_
  refine lv_iconst (v := (2 : Int32)) hx hb dX7_addLonger_11 (by decide) ?_
  obtain ⟨t12, hc12, h⟩ := bd1_to h
  refine go_0 (st1 := [.int t12]) (run_S (As := [.long t9, .int x3, .int (2 : Int32)]) (rest := []) X hS (mX9_sizeAfter g l  t9 x3 (2 : Int32) t12 hc12) okX9_sizeAfter wd4_63 ⟨Nat.le_of_ble_eq_true rfl, Nat.le_of_ble_eq_true rfl⟩ ⟨rfl, rfl⟩ nil_P nil_D (nil_F hS hA) rfl hl.1 rfl (Nat.le_of_ble_eq_true rfl) dX7_addLonger_12 ⟨Nat.zero_le _, Nat.zero_le _⟩) hS hA hP rfl (fun H locs hP hS => ?_)
  refine lv_iload hx hb dX7_addLonger_15 (lv_at hl 0 rfl) ?_
  refine lv_icmp_gt (tgt := 36) hx hb dX7_addLonger_17 (by decide) (fun q17 => ?_) (fun q17 => ?_)
  · have h := ifT h q17
    exact B36 N_size N_solved N_dropped N_lefts N_rights N_parents N_rules N_depths ls H locs (lv_sub hl [1] rfl) hP hD hS h
  have h := ifF h q17
  refine lv_aload_n hx hb dX7_addLonger_20 rfl (lv_at hl 1 rfl) ?_
  refine va_get (D := g.1) (ci := 7) (v := .ref aN_rights) (C := RX7) (T := TX7) (N := 8) hx hb hts inBX7 hown hK hP 0 rfl rfl 1 (by decide) (hts _ wd1_190) (fun _ h9 => h9) rfl dX7_addLonger_21 ?_
  refine lv_iload_n hx hb dX7_addLonger_24 rfl (lv_at hl 2 rfl) ?_
  have hin := ld_in h
  refine va_lald hx hb hK hP 2 1 rfl rfl hin dX7_addLonger_25 ?_
  refine lv_topl (fun t25 et25 => ?_)
  have h := ld_to h et25
  refine lv_iload_n hx hb dX7_addLonger_26 rfl (lv_at hl 4 rfl) ?_
  refine lv_iconst (v := (2 : Int32)) hx hb dX7_addLonger_27 (by decide) ?_
  obtain ⟨t28, hc28, h⟩ := bd1_to h
  refine go_0 (st1 := [.int t28]) (run_S (As := [.long t25, .int x3, .int (2 : Int32)]) (rest := []) X hS (mX9_sizeAfter g l  t25 x3 (2 : Int32) t28 hc28) okX9_sizeAfter wd4_63 ⟨Nat.le_of_ble_eq_true rfl, Nat.le_of_ble_eq_true rfl⟩ ⟨rfl, rfl⟩ nil_P nil_D (nil_F hS hA) rfl hl.1 rfl (Nat.le_of_ble_eq_true rfl) dX7_addLonger_28 ⟨Nat.zero_le _, Nat.zero_le _⟩) hS hA hP rfl (fun H locs hP hS => ?_)
  refine lv_iload hx hb dX7_addLonger_31 (lv_at hl 0 rfl) ?_
  refine lv_icmp_le (tgt := 42) hx hb dX7_addLonger_33 (by decide) (fun q33 => ?_) (fun q33 => ?_)
  · have h := ifT h q33
    refine lv_iload hx hb dX7_addLonger_42 (lv_at hl 5 rfl) ?_
    refine lv_iconst (v := (0 : Int32)) hx hb dX7_addLonger_44 (by decide) ?_
    obtain ⟨t45, hc45, h⟩ := bd1_to h
    refine go_0 (st1 := [.long t45]) (run_S (As := [.int x4, .int (0 : Int32)]) (rest := []) X hS (mX9_one g l  x4 (0 : Int32) t45 hc45) okX9_one wd4_64 ⟨Nat.le_of_ble_eq_true rfl, Nat.le_of_ble_eq_true rfl⟩ ⟨rfl, rfl⟩ nil_P nil_D (nil_F hS hA) rfl hl.1 rfl (Nat.le_of_ble_eq_true rfl) dX7_addLonger_45 ⟨Nat.zero_le _, Nat.zero_le _⟩) hS hA hP rfl (fun H locs hP hS => ?_)
    refine lv_iload_n hx hb dX7_addLonger_48 rfl (lv_at hl 4 rfl) ?_
    refine lv_iconst (v := (1 : Int32)) hx hb dX7_addLonger_49 (by decide) ?_
    obtain ⟨t50, hc50, h⟩ := bd1_to h
    refine go_0 (st1 := [.long t50, .long t45]) (run_S (As := [.int x3, .int (1 : Int32)]) (rest := [.long t45]) X hS (mX9_one g l  x3 (1 : Int32) t50 hc50) okX9_one wd4_64 ⟨Nat.le_of_ble_eq_true rfl, Nat.le_of_ble_eq_true rfl⟩ ⟨rfl, rfl⟩ nil_P nil_D (nil_F hS hA) rfl hl.1 rfl (Nat.le_of_ble_eq_true rfl) dX7_addLonger_50 ⟨Nat.zero_le _, Nat.zero_le _⟩) hS hA hP rfl (fun H locs hP hS => ?_)
    refine lv_lor hx hb dX7_addLonger_53 ?_
    refine lv_topl (fun t54 et54 => ?_)
    have h := st_to h et54
    refine lv_lstore (lv' := [(6, .long t54), (5, .int (13 : Int32)), (0, .ref aN), (1, .int x1), (2, .int x2), (3, .int x3), (4, .int x4)]) hx hb dX7_addLonger_54 hl (by decide) rfl (fun ls hl => ?_)
    refine lv_aload_n hx hb dX7_addLonger_56 rfl (lv_at hl 2 rfl) ?_
    refine va_get (D := g.1) (ci := 7) (v := .ref aN_lefts) (C := RX7) (T := TX7) (N := 8) hx hb hts inBX7 hown hK hP 0 rfl rfl 0 (by decide) (hts _ wd1_189) (fun _ h9 => h9) rfl dX7_addLonger_57 ?_
    refine lv_iload_n hx hb dX7_addLonger_60 rfl (lv_at hl 3 rfl) ?_
    have hin := ld_in h
    refine va_lald hx hb hK hP 1 1 rfl rfl hin dX7_addLonger_61 ?_
    refine lv_topl (fun t61 et61 => ?_)
    have h := ld_to h et61
    refine lv_iload_n hx hb dX7_addLonger_62 rfl (lv_at hl 5 rfl) ?_
    refine lv_lload hx hb dX7_addLonger_63 (lv_at hl 0 rfl) ?_
    obtain ⟨t65, hc65, h⟩ := bd1_to h
    refine go_0 (st1 := [.long t65]) (run_S (As := [.long t61, .int x3, .long t54]) (rest := []) X hS (mX9_replaced g l  t61 x3 t54 t65 hc65) okX9_replaced wd4_58 ⟨Nat.le_of_ble_eq_true rfl, Nat.le_of_ble_eq_true rfl⟩ ⟨rfl, rfl⟩ nil_P nil_D (nil_F hS hA) rfl hl.1 rfl (Nat.le_of_ble_eq_true rfl) dX7_addLonger_65 ⟨Nat.zero_le _, Nat.zero_le _⟩) hS hA hP rfl (fun H locs hP hS => ?_)
    refine lv_lstore (lv' := [(8, .long t65), (6, .long t54), (5, .int (13 : Int32)), (0, .ref aN), (1, .int x1), (2, .int x2), (3, .int x3), (4, .int x4)]) hx hb dX7_addLonger_68 hl (by decide) rfl (fun ls hl => ?_)
    refine lv_aload_n hx hb dX7_addLonger_70 rfl (lv_at hl 3 rfl) ?_
    refine va_get (D := g.1) (ci := 7) (v := .ref aN_rights) (C := RX7) (T := TX7) (N := 8) hx hb hts inBX7 hown hK hP 0 rfl rfl 1 (by decide) (hts _ wd1_190) (fun _ h9 => h9) rfl dX7_addLonger_71 ?_
    refine lv_iload_n hx hb dX7_addLonger_74 rfl (lv_at hl 4 rfl) ?_
    have hin := ld_in h
    refine va_lald hx hb hK hP 2 1 rfl rfl hin dX7_addLonger_75 ?_
    refine lv_topl (fun t75 et75 => ?_)
    have h := ld_to h et75
    refine lv_iload_n hx hb dX7_addLonger_76 rfl (lv_at hl 6 rfl) ?_
    refine lv_lload hx hb dX7_addLonger_77 (lv_at hl 1 rfl) ?_
    obtain ⟨t79, hc79, h⟩ := bd1_to h
    refine go_0 (st1 := [.long t79]) (run_S (As := [.long t75, .int x3, .long t54]) (rest := []) X hS (mX9_replaced g l  t75 x3 t54 t79 hc79) okX9_replaced wd4_58 ⟨Nat.le_of_ble_eq_true rfl, Nat.le_of_ble_eq_true rfl⟩ ⟨rfl, rfl⟩ nil_P nil_D (nil_F hS hA) rfl hl.1 rfl (Nat.le_of_ble_eq_true rfl) dX7_addLonger_79 ⟨Nat.zero_le _, Nat.zero_le _⟩) hS hA hP rfl (fun H locs hP hS => ?_)
    refine lv_lstore (lv' := [(10, .long t79), (8, .long t65), (6, .long t54), (5, .int (13 : Int32)), (0, .ref aN), (1, .int x1), (2, .int x2), (3, .int x3), (4, .int x4)]) hx hb dX7_addLonger_82 hl (by decide) rfl (fun ls hl => ?_)
    refine lv_aload_n hx hb dX7_addLonger_84 rfl (lv_at hl 4 rfl) ?_
    refine lv_iload_n hx hb dX7_addLonger_85 rfl (lv_at hl 5 rfl) ?_
    refine lv_iload_n hx hb dX7_addLonger_86 rfl (lv_at hl 6 rfl) ?_
    refine lv_lload hx hb dX7_addLonger_87 (lv_at hl 1 rfl) ?_
    obtain ⟨t89, hc89, h⟩ := bd1_to h
    refine go_0 (st1 := [.long t89, .int x2, .int x1, .ref aN]) (run_S (As := [.long t65]) (rest := [.int x2, .int x1, .ref aN]) X hS (mX9_tail g l  t65 t89 hc89) okX9_tail wd4_52 ⟨Nat.le_of_ble_eq_true rfl, Nat.le_of_ble_eq_true rfl⟩ ⟨rfl, rfl⟩ nil_P nil_D (nil_F hS hA) rfl hl.1 rfl (Nat.le_of_ble_eq_true rfl) dX7_addLonger_89 ⟨Nat.zero_le _, Nat.zero_le _⟩) hS hA hP rfl (fun H locs hP hS => ?_)
    refine lv_lload hx hb dX7_addLonger_92 (lv_at hl 0 rfl) ?_
    obtain ⟨t94, hc94, h⟩ := bd1_to h
    refine go_0 (st1 := [.long t94, .long t89, .int x2, .int x1, .ref aN]) (run_S (As := [.long t79]) (rest := [.long t89, .int x2, .int x1, .ref aN]) X hS (mX9_tail g l  t79 t94 hc94) okX9_tail wd4_52 ⟨Nat.le_of_ble_eq_true rfl, Nat.le_of_ble_eq_true rfl⟩ ⟨rfl, rfl⟩ nil_P nil_D (nil_F hS hA) rfl hl.1 rfl (Nat.le_of_ble_eq_true rfl) dX7_addLonger_94 ⟨Nat.zero_le _, Nat.zero_le _⟩) hS hA hP rfl (fun H locs hP hS => ?_)
    obtain ⟨N_size_97, N_solved_97, N_dropped_97, N_lefts_97, N_rights_97, N_parents_97, N_rules_97, N_depths_97, hc97, h⟩ := bd8_to h
    refine go_A (st1 := []) (run_V (As := [.int x1, .int x2, .long t89, .long t94]) (rest := []) X hS (mX7_addNode g l  aN aN_lefts aN_rights aN_parents aN_rules aN_depths N_size N_solved N_dropped N_lefts N_rights N_parents N_rules N_depths x1 x2 t89 t94 N_size_97 N_solved_97 N_dropped_97 N_lefts_97 N_rights_97 N_parents_97 N_rules_97 N_depths_97 hc97) okX7_addNode wd4_35 ⟨Nat.le_of_ble_eq_true rfl, Nat.le_of_ble_eq_true rfl⟩ ⟨rfl, rfl⟩ (va_recv hK hP (ci := 7) (q0 := 0) rfl rfl) hP hD (all_F hS hA hD) rfl hl.1 rfl (Nat.le_of_ble_eq_true rfl) dX7_addLonger_97 ⟨Nat.zero_le _, Nat.zero_le _⟩) hS (all_F hS hA hD) rfl (fun H locs hP hD hS => ?_)
    have h : some (N_size_97, N_solved_97, N_dropped_97, N_lefts_97, N_rights_97, N_parents_97, N_rules_97, N_depths_97) = some (N_size_o, N_solved_o, N_dropped_o, N_lefts_o, N_rights_o, N_parents_o, N_rules_o, N_depths_o) := h
    cases h
    exact hret _ _ _ _ hP hD hS dX7_addLonger_100
  have h := ifF h q33
  exact B36 N_size N_solved N_dropped N_lefts N_rights N_parents N_rules N_depths ls H locs (lv_sub hl [1] rfl) hP hD hS h
