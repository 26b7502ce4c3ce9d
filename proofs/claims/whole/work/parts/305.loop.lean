/-! the law's loop (written by mklaw.py) -/
set_option maxHeartbeats 4000000 in
set_option maxRecDepth 100000 in
theorem law_loop {p : Program} {l : Launch} {e : Env} {s : State} {m : MethodId} {below : List Frame} {meth : Method} {c : Code} {g : GP} {b L aX aM : Nat} {xs : Nat → Int32} (X : Here g p s m c cL_law 4 #[Value.ref b] RL (fun q : Nat => s.heap.size ≤ q)) (hr : meth.sig.returnType = ret) (hlocks : meth.locks = false) (hX : va_X b L xs s s.heap) (hbl : b < s.heap.size) (hL : L ≤ 2560) :
    ∀ (n i : Nat) (wx wm : va_W) (H : Heap) (locs : List Loc) (ls : Array Slot), i ≤ L → L + 5 - i < n → lv_has ls 4 [(3, .int (nI i)), (2, .ref aM), (1, .ref aX), (0, .ref b)] → LI g aX aM wx wm → va_P g.1 vwCl (wx ++ wm) H → va_D (fun q : Nat => s.heap.size ≤ q) (wx ++ wm) → va_S (fun q : Nat => s.heap.size ≤ q) s.heap H locs → W p l e room_1 s m #[Value.ref b] below meth c H locs 57 8063 (lw_Z below #[Value.ref b] s) (F0 m 18 ls []) := by
  obtain ⟨⟨hx, hb, hml, hown, hts⟩, hE, hA⟩ := id X
  have hbA : ¬ (fun q : Nat => s.heap.size ≤ q) b := Nat.not_le.mpr hbl
  intro n
  induction n with
  | zero => intro i wx wm H locs ls hi hn; omega
  | succ n ih =>
    intro i wx wm H locs ls hi hn hl h hP hD hS
    refine lv_iload_n hx hb dL_law_18 rfl (lv_at hl 0 rfl) ?_
    refine lv_aload_n hx hb dL_law_19 rfl (lv_at hl 3 rfl) ?_
    refine va_slen hx hb hX hbl hbA hS dL_law_20 ?_
    refine lv_iconst (v := (5 : Int32)) hx hb dL_law_21 (by decide) ?_
    refine lv_isub hx hb dL_law_22 ?_
    refine lv_icmp_gt (tgt := 894) hx hb dL_law_23 (by decide) (fun q => ?_) (fun q => ?_)
    · refine lv_iconst (v := (1 : Int32)) hx hb dL_law_894 (by decide) ?_
      refine va_forget (fun q hq => hS.2.2 q hq) ?_
      refine W.widen (k := 600000) (n := 7302250) (Nat.le_of_ble_eq_true rfl) (Nat.le_of_ble_eq_true rfl) ?_
      exact lw_ret hx hb hr hlocks dL_law_895
    · have hi5 : i + 5 ≤ L := by
        have q : ¬ (nI L - nI 5) < nI i := q
        rw [fa_lt, pk_sub_toInt (by omega) (by decide), nI_toInt (by omega)] at q
        omega
      refine lv_aload_n hx hb dL_law_26 rfl (lv_at hl 3 rfl) ?_
      refine lv_iload_n hx hb dL_law_27 rfl (lv_at hl 0 rfl) ?_
      refine va_sld hx hb hX hbl hbA hS (pk_in i L (by omega)) dL_law_28 ?_
      refine lv_bipush (v := (31 : Int32)) hx hb dL_law_29 (by decide) ?_
      refine lv_iand hx hb dL_law_31 ?_
      obtain ⟨j, hj, ej⟩ := pk_andE (xs (Int32.toNatClampNeg (nI i))) (m := 31) 5 (by decide)
      rw [ej]
      have C : LC g p s m c b L xs aX aM i ls := ⟨X, hX, hbl, hi5, hL, hl⟩
      have hk : ∀ (wx' wm' : va_W) (H : Heap) (locs : List Loc), LI g aX aM wx' wm' → va_P g.1 vwCl (wx' ++ wm') H → va_D (fun q : Nat => s.heap.size ≤ q) (wx' ++ wm') → va_S (fun q : Nat => s.heap.size ≤ q) s.heap H locs → W p l e room_1 s m #[Value.ref b] below meth c H locs 57 8063 (lw_Z below #[Value.ref b] s) (F0 m 888 ls []) := fun wx' wm' H locs h hP hD hS => by
        refine lv_iinc (v := nI (i + 5)) (lv' := [(3, .int (nI (i + 5))), (2, .ref aM), (1, .ref aX), (0, .ref b)]) hx hb dL_law_888 hl (k := 0) rfl (nI_add i 5) (by decide) rfl (fun ls hl => ?_)
        refine lv_goto (tgt := 18) hx hb dL_law_891 (by decide) ?_
        exact ih (i + 5) wx' wm' H locs ls hi5 (by omega) hl h hP hD hS
      have hj : j < 32 := hj
      match j, hj with
      | 0, _ => exact lv_tableIn (off := 136) (tgt := 168) hx hb dL_law_32 (by decide) (by decide) (by decide) (by decide) (law_0 C h hP hD hS hk)
      | 1, _ => exact lv_tableIn (off := 159) (tgt := 191) hx hb dL_law_32 (by decide) (by decide) (by decide) (by decide) (law_1 C h hP hD hS hk)
      | 2, _ => exact lv_tableIn (off := 172) (tgt := 204) hx hb dL_law_32 (by decide) (by decide) (by decide) (by decide) (law_2 C h hP hD hS hk)
      | 3, _ => exact lv_tableIn (off := 185) (tgt := 217) hx hb dL_law_32 (by decide) (by decide) (by decide) (by decide) (law_3 C h hP hD hS hk)
      | 4, _ => exact lv_tableIn (off := 198) (tgt := 230) hx hb dL_law_32 (by decide) (by decide) (by decide) (by decide) (law_4 C h hP hD hS hk)
      | 5, _ => exact lv_tableIn (off := 221) (tgt := 253) hx hb dL_law_32 (by decide) (by decide) (by decide) (by decide) (law_5 C h hP hD hS hk)
      | 6, _ => exact lv_tableIn (off := 254) (tgt := 286) hx hb dL_law_32 (by decide) (by decide) (by decide) (by decide) (law_6 C h hP hD hS hk)
      | 7, _ => exact lv_tableIn (off := 287) (tgt := 319) hx hb dL_law_32 (by decide) (by decide) (by decide) (by decide) (law_7 C h hP hD hS hk)
      | 8, _ => exact lv_tableIn (off := 300) (tgt := 332) hx hb dL_law_32 (by decide) (by decide) (by decide) (by decide) (law_8 C h hP hD hS hk)
      | 9, _ => exact lv_tableIn (off := 313) (tgt := 345) hx hb dL_law_32 (by decide) (by decide) (by decide) (by decide) (law_9 C h hP hD hS hk)
      | 10, _ => exact lv_tableIn (off := 326) (tgt := 358) hx hb dL_law_32 (by decide) (by decide) (by decide) (by decide) (law_10 C h hP hD hS hk)
      | 11, _ => exact lv_tableIn (off := 339) (tgt := 371) hx hb dL_law_32 (by decide) (by decide) (by decide) (by decide) (law_11 C h hP hD hS hk)
      | 12, _ => exact lv_tableIn (off := 362) (tgt := 394) hx hb dL_law_32 (by decide) (by decide) (by decide) (by decide) (law_12 C h hP hD hS hk)
      | 13, _ => exact lv_tableIn (off := 385) (tgt := 417) hx hb dL_law_32 (by decide) (by decide) (by decide) (by decide) (law_13 C h hP hD hS hk)
      | 14, _ => exact lv_tableIn (off := 398) (tgt := 430) hx hb dL_law_32 (by decide) (by decide) (by decide) (by decide) (law_14 C h hP hD hS hk)
      | 15, _ => exact lv_tableIn (off := 451) (tgt := 483) hx hb dL_law_32 (by decide) (by decide) (by decide) (by decide) (law_15 C h hP hD hS hk)
      | 16, _ => exact lv_tableIn (off := 474) (tgt := 506) hx hb dL_law_32 (by decide) (by decide) (by decide) (by decide) (law_16 C h hP hD hS hk)
      | 17, _ => exact lv_tableIn (off := 507) (tgt := 539) hx hb dL_law_32 (by decide) (by decide) (by decide) (by decide) (law_17 C h hP hD hS hk)
      | 18, _ => exact lv_tableIn (off := 530) (tgt := 562) hx hb dL_law_32 (by decide) (by decide) (by decide) (by decide) (law_18 C h hP hD hS hk)
      | 19, _ => exact lv_tableIn (off := 553) (tgt := 585) hx hb dL_law_32 (by decide) (by decide) (by decide) (by decide) (law_19 C h hP hD hS hk)
      | 20, _ => exact lv_tableIn (off := 566) (tgt := 598) hx hb dL_law_32 (by decide) (by decide) (by decide) (by decide) (law_20 C h hP hD hS hk)
      | 21, _ => exact lv_tableIn (off := 579) (tgt := 611) hx hb dL_law_32 (by decide) (by decide) (by decide) (by decide) (law_21 C h hP hD hS hk)
      | 22, _ => exact lv_tableIn (off := 592) (tgt := 624) hx hb dL_law_32 (by decide) (by decide) (by decide) (by decide) (law_22 C h hP hD hS hk)
      | 23, _ => exact lv_tableIn (off := 605) (tgt := 637) hx hb dL_law_32 (by decide) (by decide) (by decide) (by decide) (law_23 C h hP hD hS hk)
      | 24, _ => exact lv_tableIn (off := 628) (tgt := 660) hx hb dL_law_32 (by decide) (by decide) (by decide) (by decide) (law_24 C h hP hD hS hk)
      | 25, _ => exact lv_tableIn (off := 651) (tgt := 683) hx hb dL_law_32 (by decide) (by decide) (by decide) (by decide) (law_25 C h hP hD hS hk)
      | 26, _ => exact lv_tableIn (off := 684) (tgt := 716) hx hb dL_law_32 (by decide) (by decide) (by decide) (by decide) (law_26 C h hP hD hS hk)
      | 27, _ => exact lv_tableIn (off := 747) (tgt := 779) hx hb dL_law_32 (by decide) (by decide) (by decide) (by decide) (law_27 C h hP hD hS hk)
      | 28, _ => exact lv_tableIn (off := 810) (tgt := 842) hx hb dL_law_32 (by decide) (by decide) (by decide) (by decide) (law_28 C h hP hD hS hk)
      | 29, _ => exact lv_tableIn (off := 833) (tgt := 865) hx hb dL_law_32 (by decide) (by decide) (by decide) (by decide) (law_29 C h hP hD hS hk)
      | 30, _ => exact lv_tableOut (tgt := 888) hx hb dL_law_32 (Or.inr (by decide)) (by decide) (hk _ _ _ _ h hP hD hS)
      | 31, _ => exact lv_tableOut (tgt := 888) hx hb dL_law_32 (Or.inr (by decide)) (by decide) (hk _ _ _ _ h hP hD hS)
      | j + 32, hj => exact absurd hj (by omega)
