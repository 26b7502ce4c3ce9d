def fT_add (T_size : Int32) (T_characters : Nat → Int32) (x1 : Int32) : Option (Int32 × Int32 × (Nat → Int32)) :=
  if T_size < 0 then
    some ((0 : Int32), T_size, T_characters)
  else
  if T_size < (40 : Int32) then
    sti T_characters 40 T_size (vp_nar .char x1) fun T_characters_27 =>
    st (T_size + (1 : Int32)) fun t35 =>
    some ((1 : Int32), t35, T_characters_27)
  else
  some ((0 : Int32), T_size, T_characters)
def fT_size (T_size : Int32) : Option (Int32) :=
  some T_size
def fX_append (T_size : Int32) (T_characters : Nat → Int32) (x1 : Int32) : Option (Int32 × Int32 × (Nat → Int32)) :=
  if x1 < 0 then
    some (((-2) : Int32), T_size, T_characters)
  else
  if x1 ≤ (255 : Int32) then
    bd3 (fT_add T_size T_characters (i2c x1)) fun t20 T_size_20 T_characters_20 =>
    if t20 = 0 then
      some (((-4) : Int32), T_size_20, T_characters_20)
    else
    bd1 (fT_size T_size_20) fun t30 =>
    some (t30, T_size_20, T_characters_20)
  else
  some (((-2) : Int32), T_size, T_characters)
def fT_empty  : Option (Int32) :=
  some (0 : Int32)
def fX_clearText (T_size : Int32) : Option (Int32 × Int32) :=
  bd1 (fT_size T_size) fun t4 =>
  bd1 (fT_empty) fun T_size_12 =>
  some (t4, T_size_12)
def fT_at (T_size : Int32) (T_characters : Nat → Int32) (x1 : Int32) : Option (Int32) :=
  if x1 < 0 then
    ckc (0 : Int32) <|
    some (0 : Int32)
  else
  if T_size ≤ x1 then
    ckc (0 : Int32) <|
    some (0 : Int32)
  else
  if x1 < (40 : Int32) then
    ld T_characters 40 x1 fun t27 =>
    ckc t27 <|
    some t27
  else
  ckc (0 : Int32) <|
  some (0 : Int32)
def fJS_isLatin1_aae02  : Option (Int32) :=
  if (1 : Int32) = 0 then
    some (0 : Int32)
  else
  if (0 : Int32) = 0 then
    some (1 : Int32)
  else
  some (0 : Int32)
def fJS_coder_7d493  : Option (Int32) :=
  if (1 : Int32) = 0 then
    some (1 : Int32)
  else
  some (0 : Int32)
def fJS_length_8abf5  : Option (Int32) :=
  bd1 (fJS_coder_7d493) fun t6 =>
  some (shr (6 : Int32) t6)
def fJL_canEncode_9a6ad (x0 : Int32) : Option (Int32) :=
  if x0 < 0 then
    some (0 : Int32)
  else
  if (255 : Int32) < x0 then
    some (0 : Int32)
  else
  some (1 : Int32)
def fJL_indexOfChar_4cfef_7 (v3 : Int32) (v4 : Int32) (k7 : Int32 → Option (Int32)) (v5 : Int32) : Option (Int32) :=
  if v3 ≤ v5 then
    some ((-1) : Int32)
  else
  ld (fun j => sc_bytes.getD j 0) 6 v5 fun t16 =>
  if t16 = v4 then
    some v5
  else
  st (v5 + (1 : Int32)) fun t25 =>
  k7 t25
def fJL_indexOfChar_4cfef (x1 : Int32) (x2 : Int32) (x3 : Int32) : Option (Int32) :=
  st (i2b x1) fun t2 =>
  fx1 (fJL_indexOfChar_4cfef_7 x3 t2) FU x2
def fJL_indexOf_4cfef (x1 : Int32) (x2 : Int32) (x3 : Int32) : Option (Int32) :=
  bd1 (fJL_canEncode_9a6ad x1) fun t1 =>
  if t1 = 0 then
    some ((-1) : Int32)
  else
  st (if x2 < (0 : Int32) then (0 : Int32) else x2) fun t14 =>
  st (if (6 : Int32) < x3 then (6 : Int32) else x3) fun t21 =>
  if t14 < t21 then
    bd1 (fJL_indexOfChar_4cfef x1 t14 t21) fun t33 =>
    some t33
  else
  some ((-1) : Int32)
def fJS_indexOf_7cf53 (x1 : Int32) (x2 : Int32) : Option (Int32) :=
  bd1 (fJS_isLatin1_aae02) fun t1 =>
  if t1 = 0 then
    bd1 (fJS_length_8abf5) fun t30 =>
    none
  else
  bd1 (fJS_length_8abf5) fun t14 =>
  bd1 (fJL_indexOf_4cfef x1 x2 t14) fun t17 =>
  some t17
def fJS_indexOf_0f7a4 (x1 : Int32) : Option (Int32) :=
  bd1 (fJS_indexOf_7cf53 x1 (0 : Int32)) fun t3 =>
  some t3
def fZ_symbolOf (x0 : Int32) : Option (Int32) :=
  bd1 (fJS_indexOf_0f7a4 x0) fun t3 =>
  some (t3 + (1 : Int32))
def fT_endOfSide_2 (T_size : Int32) (T_characters : Nat → Int32) (v1 : Int32) (k2 : Int32 → Option (Int32)) (v2 : Int32) : Option (Int32) :=
  if (v1 + (8 : Int32)) ≤ v2 then
    some v2
  else
  bd1 (fT_at T_size T_characters v2) fun t12 =>
  bd1 (fZ_symbolOf t12) fun t15 =>
  if t15 = 0 then
    some v2
  else
  st (v2 + (1 : Int32)) fun t21 =>
  k2 t21
def fT_endOfSide (T_size : Int32) (T_characters : Nat → Int32) (x1 : Int32) : Option (Int32) :=
  fx1 (fT_endOfSide_2 T_size T_characters x1) FU x1
def fZ_isVariableSymbol (x0 : Int32) : Option (Int32) :=
  if x0 < (3 : Int32) then
    some (0 : Int32)
  else
  if (7 : Int32) ≤ x0 then
    some (0 : Int32)
  else
  some (1 : Int32)
def fT_fits (x0 : Int32) (x1 : Int32) : Option (Int32) :=
  if x0 = (0 : Int32) then
    if x1 = (59 : Int32) then
      some (1 : Int32)
    else
    some (0 : Int32)
  else
  if x0 = (1 : Int32) then
    bd1 (fZ_symbolOf x1) fun t41 =>
    bd1 (fZ_isVariableSymbol t41) fun t44 =>
    ckz t44 <|
    some t44
  else
  if x0 = (2 : Int32) then
    if x1 = (60 : Int32) then
      some (1 : Int32)
    else
    if x1 = (61 : Int32) then
      some (1 : Int32)
    else
    if x1 = (62 : Int32) then
      some (1 : Int32)
    else
    some (0 : Int32)
  else
  if x1 < (48 : Int32) then
    some (0 : Int32)
  else
  if (57 : Int32) < x1 then
    some (0 : Int32)
  else
  some (1 : Int32)
def fT_firstError_44 (k28 : Int32 → Int32 → Option (Int32)) (T_size : Int32) (T_characters : Nat → Int32) (v3 : Int32) (k44 : Int32 → Int32 → Option (Int32)) (v2 : Int32) (v4 : Int32) : Option (Int32) :=
  if (4 : Int32) ≤ v4 then
    st (v3 + (1 : Int32)) fun t74 =>
    k28 v2 t74
  else
  bd1 (fT_at T_size T_characters v2) fun t54 =>
  bd1 (fT_fits v4 t54) fun t57 =>
  if t57 = 0 then
    some v2
  else
  st (v2 + (1 : Int32)) fun t65 =>
  st (v4 + (1 : Int32)) fun t68 =>
  k44 t65 t68
def fT_firstError_80 (T_size : Int32) (v2 : Int32) : Option (Int32) :=
  if v2 = T_size then
    some ((-9) : Int32)
  else
  some v2
def fT_firstError_28 (T_size : Int32) (T_characters : Nat → Int32) (k28 : Int32 → Int32 → Option (Int32)) (v2 : Int32) (v3 : Int32) : Option (Int32) :=
  if (4 : Int32) ≤ v3 then
    fT_firstError_80 T_size v2
  else
  if T_size ≤ v2 then
    fT_firstError_80 T_size v2
  else
  fx2 (fT_firstError_44 k28 T_size T_characters v3) FU v2 (0 : Int32)
def fT_firstError (T_size : Int32) (T_characters : Nat → Int32) : Option (Int32) :=
  bd1 (fT_endOfSide T_size T_characters (0 : Int32)) fun t2 =>
  bd1 (fT_at T_size T_characters t2) fun t8 =>
  if t8 = (61 : Int32) then
    bd1 (fT_endOfSide T_size T_characters (t2 + (1 : Int32))) fun t22 =>
    fx2 (fT_firstError_28 T_size T_characters) FU t22 (0 : Int32)
  else
  some t2
def fX_errorPosition (T_size : Int32) (T_characters : Nat → Int32) : Option (Int32) :=
  bd1 (fT_firstError T_size T_characters) fun t4 =>
  some t4
def fZ_one (x0 : Int32) (x1 : Int32) : Option (Int64) :=
  if x1 < 0 then
    some (0 : Int64)
  else
  if x1 < (13 : Int32) then
    some (shlL (Int32.toInt64 x0) ((3 : Int32) * x1))
  else
  some (0 : Int64)
def fT_packed_5 (T_size : Int32) (T_characters : Nat → Int32) (v1 : Int32) (v2 : Int32) (k5 : Int64 → Int32 → Option (Int64)) (v3 : Int64) (v5 : Int32) : Option (Int64) :=
  if (12 : Int32) ≤ v5 then
    some v3
  else
  if v2 ≤ (v1 + v5) then
    some v3
  else
  bd1 (fT_at T_size T_characters (v1 + v5)) fun t26 =>
  bd1 (fZ_symbolOf t26) fun t29 =>
  bd1 (fZ_one t29 v5) fun t34 =>
  st (v3 ||| t34) fun t38 =>
  st (v5 + (1 : Int32)) fun t39 =>
  k5 t38 t39
def fT_packed (T_size : Int32) (T_characters : Nat → Int32) (x1 : Int32) (x2 : Int32) : Option (Int64) :=
  fx2 (fT_packed_5 T_size T_characters x1 x2) FU (0 : Int64) (0 : Int32)
def fE_set (x1 : Int64) (x3 : Int64) : Option (Int64 × Int64) :=
  some (x1, x3)
def fT_readEquation (T_size : Int32) (T_characters : Nat → Int32) : Option (Int64 × Int64) :=
  bd1 (fT_endOfSide T_size T_characters (0 : Int32)) fun t2 =>
  bd1 (fT_packed T_size T_characters (0 : Int32) t2) fun t10 =>
  bd1 (fT_endOfSide T_size T_characters (t2 + (1 : Int32))) fun t21 =>
  bd1 (fT_packed T_size T_characters (t2 + (1 : Int32)) t21) fun t24 =>
  bd2 (fE_set t10 t24) fun E_left_27 E_right_27 =>
  some (E_left_27, E_right_27)
def fC_empty  : Option (Int32) :=
  some (0 : Int32)
def fC_add (C_size : Int32) (C_variables : Nat → Int32) (C_relations : Nat → Int32) (C_numbers : Nat → Int32) (x1 : Int32) (x2 : Int32) (x3 : Int32) : Option (Int32 × (Nat → Int32) × (Nat → Int32) × (Nat → Int32)) :=
  if C_size < 0 then
    some (C_size, C_variables, C_relations, C_numbers)
  else
  if C_size < (4 : Int32) then
    sti C_variables 4 C_size x1 fun C_variables_25 =>
    sti C_relations 4 C_size (vp_nar .char x2) fun C_relations_35 =>
    sti C_numbers 4 C_size x3 fun C_numbers_45 =>
    st (C_size + (1 : Int32)) fun t53 =>
    some (t53, C_variables_25, C_relations_35, C_numbers_45)
  else
  some (C_size, C_variables, C_relations, C_numbers)
def fT_readConstraints_18 (T_size : Int32) (T_characters : Nat → Int32) (k18 : Int32 → (Nat → Int32) → (Nat → Int32) → (Nat → Int32) → Int32 → Int32 → Option (Int32 × (Nat → Int32) × (Nat → Int32) × (Nat → Int32))) (C_size : Int32) (C_variables : Nat → Int32) (C_relations : Nat → Int32) (C_numbers : Nat → Int32) (v2 : Int32) (v3 : Int32) : Option (Int32 × (Nat → Int32) × (Nat → Int32) × (Nat → Int32)) :=
  if (4 : Int32) ≤ v3 then
    some (C_size, C_variables, C_relations, C_numbers)
  else
  if T_size ≤ v2 then
    some (C_size, C_variables, C_relations, C_numbers)
  else
  bd1 (fT_at T_size T_characters (v2 + (1 : Int32))) fun t35 =>
  bd1 (fZ_symbolOf t35) fun t38 =>
  st (t38 - (3 : Int32)) fun t43 =>
  bd1 (fT_at T_size T_characters (v2 + (2 : Int32))) fun t52 =>
  bd1 (fT_at T_size T_characters (v2 + (3 : Int32))) fun t59 =>
  bd4 (fC_add C_size C_variables C_relations C_numbers t43 t52 (t59 - (48 : Int32))) fun C_size_65 C_variables_65 C_relations_65 C_numbers_65 =>
  st (v2 + (4 : Int32)) fun t68 =>
  st (v3 + (1 : Int32)) fun t71 =>
  k18 C_size_65 C_variables_65 C_relations_65 C_numbers_65 t68 t71
def fT_readConstraints (T_size : Int32) (T_characters : Nat → Int32) (C_variables : Nat → Int32) (C_relations : Nat → Int32) (C_numbers : Nat → Int32) : Option (Int32 × (Nat → Int32) × (Nat → Int32) × (Nat → Int32)) :=
  bd1 (fC_empty) fun C_size_1 =>
  bd1 (fT_endOfSide T_size T_characters (0 : Int32)) fun t7 =>
  bd1 (fT_endOfSide T_size T_characters (t7 + (1 : Int32))) fun t12 =>
  fx6 (fT_readConstraints_18 T_size T_characters) FU C_size_1 C_variables C_relations C_numbers t12 (0 : Int32)
def fH_forget  : Option (Int32) :=
  some (0 : Int32)
def fS_empty_2 (k2 : (Nat → Int32) → Int32 → Option ((Nat → Int32))) (S_filled : Nat → Int32) (v1 : Int32) : Option ((Nat → Int32)) :=
  if (2 : Int32) ≤ v1 then
    some S_filled
  else
  sti S_filled 2 v1 (vp_nar .boolean (0 : Int32)) fun S_filled_13 =>
  st (v1 + (1 : Int32)) fun t14 =>
  k2 S_filled_13 t14
def fS_empty (S_filled : Nat → Int32) : Option ((Nat → Int32)) :=
  fx2 (fS_empty_2) FU S_filled (0 : Int32)
def fC_size (C_size : Int32) : Option (Int32) :=
  some C_size
def fX_load (T_size : Int32) (T_characters : Nat → Int32) (E_left : Int64) (E_right : Int64) (H_size : Int32) (S_filled : Nat → Int32) (C_size : Int32) (C_variables : Nat → Int32) (C_relations : Nat → Int32) (C_numbers : Nat → Int32) : Option (Int32 × Int64 × Int64 × Int32 × (Nat → Int32) × Int32 × (Nat → Int32) × (Nat → Int32) × (Nat → Int32)) :=
  bd1 (fT_firstError T_size T_characters) fun t4 =>
  if t4 = ((-9) : Int32) then
    bd2 (fT_readEquation T_size T_characters) fun E_left_23 E_right_23 =>
    bd4 (fT_readConstraints T_size T_characters C_variables C_relations C_numbers) fun C_size_34 C_variables_34 C_relations_34 C_numbers_34 =>
    bd1 (fH_forget) fun H_size_41 =>
    bd1 (fS_empty S_filled) fun S_filled_48 =>
    bd1 (fC_size C_size_34) fun t55 =>
    some (t55, E_left_23, E_right_23, H_size_41, S_filled_48, C_size_34, C_variables_34, C_relations_34, C_numbers_34)
  else
  some (((-3) : Int32), E_left, E_right, H_size, S_filled, C_size, C_variables, C_relations, C_numbers)
def fX_isSide (x0 : Int32) : Option (Int32) :=
  if x0 = 0 then
    some (1 : Int32)
  else
  if x0 = (1 : Int32) then
    some (1 : Int32)
  else
  some (0 : Int32)
def fE_side (E_left : Int64) (E_right : Int64) (x1 : Int32) : Option (Int64) :=
  if x1 = 0 then
    some E_left
  else
  some E_right
def fZ_size_2 (v0 : Int64) (k2 : Int32 → Option (Int32)) (v2 : Int32) : Option (Int32) :=
  if (13 : Int32) ≤ v2 then
    some v2
  else
  if (lg_cmp (ushrL v0 ((3 : Int32) * v2)) (0 : Int64)) = 0 then
    some v2
  else
  st (v2 + (1 : Int32)) fun t18 =>
  k2 t18
def fZ_size (x0 : Int64) : Option (Int32) :=
  fx1 (fZ_size_2 x0) FU (0 : Int32)
def fX_sideLength (E_left : Int64) (E_right : Int64) (x1 : Int32) : Option (Int32) :=
  bd1 (fX_isSide x1) fun t1 =>
  if t1 = 0 then
    some ((-1) : Int32)
  else
  bd1 (fE_side E_left E_right x1) fun t12 =>
  bd1 (fZ_size t12) fun t15 =>
  some t15
def fZ_symbol (x0 : Int64) (x2 : Int32) : Option (Int32) :=
  if x2 < 0 then
    some (0 : Int32)
  else
  if x2 < (13 : Int32) then
    some ((Int64.toInt32 (ushrL x0 ((3 : Int32) * x2))) &&& (7 : Int32))
  else
  some (0 : Int32)
def fJP_checkIndex_8e157 (x0 : Int32) (x1 : Int32) : Option (Int32) :=
  if x0 < 0 then
    none
  else
  if x0 < x1 then
    some x0
  else
  none
def fJS_checkIndex_df160 (x0 : Int32) (x1 : Int32) : Option (Unit) :=
  bd1 (fJP_checkIndex_8e157 x0 x1) fun t5 =>
  some ()
def fJL_charAt_3b067 (x1 : Int32) : Option (Int32) :=
  bd0 (fJS_checkIndex_df160 x1 (6 : Int32)) <|
  ld (fun j => sc_bytes.getD j 0) 6 x1 fun t8 =>
  ckc (i2c (t8 &&& (255 : Int32))) <|
  some (i2c (t8 &&& (255 : Int32)))
def fJS_charAt_5068e (x1 : Int32) : Option (Int32) :=
  bd1 (fJS_isLatin1_aae02) fun t1 =>
  if t1 = 0 then
    none
  else
  bd1 (fJL_charAt_3b067 x1) fun t12 =>
  ckc t12 <|
  some t12
def fZ_character (x0 : Int32) : Option (Int32) :=
  if x0 < (1 : Int32) then
    ckc (32 : Int32) <|
    some (32 : Int32)
  else
  bd1 (fJS_length_8abf5) fun t8 =>
  if x0 ≤ t8 then
    bd1 (fJS_charAt_5068e (x0 - (1 : Int32))) fun t24 =>
    ckc t24 <|
    some t24
  else
  ckc (32 : Int32) <|
  some (32 : Int32)
def fX_symbolAt (E_left : Int64) (E_right : Int64) (x1 : Int32) (x2 : Int32) : Option (Int32) :=
  bd1 (fX_isSide x1) fun t1 =>
  if t1 = 0 then
    some ((-1) : Int32)
  else
  if x2 < 0 then
    some ((-1) : Int32)
  else
  bd1 (fE_side E_left E_right x1) fun t17 =>
  bd1 (fZ_size t17) fun t20 =>
  if x2 < t20 then
    bd1 (fE_side E_left E_right x1) fun t33 =>
    bd1 (fZ_symbol t33 x2) fun t37 =>
    bd1 (fZ_character t37) fun t40 =>
    some t40
  else
  some ((-1) : Int32)
def fX_isVariable (x0 : Int32) : Option (Int32) :=
  if x0 < 0 then
    some (0 : Int32)
  else
  if (4 : Int32) ≤ x0 then
    some (0 : Int32)
  else
  some (1 : Int32)
def fZ_variable (x0 : Int32) : Option (Int32) :=
  some ((3 : Int32) + x0)
def fZ_countOf_5 (v0 : Int64) (v2 : Int32) (k5 : Int32 → Int32 → Option (Int32)) (v3 : Int32) (v4 : Int32) : Option (Int32) :=
  if (13 : Int32) ≤ v4 then
    some v3
  else
  if (lg_cmp ((ushrL v0 ((3 : Int32) * v4)) &&& (7 : Int64)) (Int32.toInt64 v2)) = 0 then
    st (v3 + (1 : Int32)) fun t28 =>
    st (v4 + (1 : Int32)) fun t31 =>
    k5 t28 t31
  else
  st (v4 + (1 : Int32)) fun t31 =>
  k5 v3 t31
def fZ_countOf (x0 : Int64) (x2 : Int32) : Option (Int32) :=
  fx2 (fZ_countOf_5 x0 x2) FU (0 : Int32) (0 : Int32)
def fX_occurrences (E_left : Int64) (E_right : Int64) (x1 : Int32) (x2 : Int32) : Option (Int32) :=
  bd1 (fX_isSide x1) fun t1 =>
  if t1 = 0 then
    some ((-1) : Int32)
  else
  bd1 (fX_isVariable x2) fun t8 =>
  if t8 = 0 then
    some ((-1) : Int32)
  else
  bd1 (fE_side E_left E_right x1) fun t21 =>
  bd1 (fZ_variable x2) fun t25 =>
  bd1 (fZ_countOf t21 t25) fun t28 =>
  some t28
def fH_forgetOldest_2 (k2 : (Nat → Int64) → (Nat → Int64) → Int32 → Option (Int32 × (Nat → Int64) × (Nat → Int64))) (H_lefts : Nat → Int64) (H_rights : Nat → Int64) (v1 : Int32) : Option (Int32 × (Nat → Int64) × (Nat → Int64)) :=
  if (14 : Int32) ≤ v1 then
    some ((13 : Int32), H_lefts, H_rights)
  else
  ld H_lefts 14 v1 fun t20 =>
  stl H_lefts 14 (v1 - (1 : Int32)) t20 fun H_lefts_21 =>
  ld H_rights 14 v1 fun t34 =>
  stl H_rights 14 (v1 - (1 : Int32)) t34 fun H_rights_35 =>
  st (v1 + (1 : Int32)) fun t36 =>
  k2 H_lefts_21 H_rights_35 t36
def fH_forgetOldest (H_lefts : Nat → Int64) (H_rights : Nat → Int64) : Option (Int32 × (Nat → Int64) × (Nat → Int64)) :=
  fx3 (fH_forgetOldest_2) FU H_lefts H_rights (1 : Int32)
def fH_remember_20 (H_size : Int32) (H_lefts : Nat → Int64) (H_rights : Nat → Int64) (E_left : Int64) (E_right : Int64) : Option (Int32 × (Nat → Int64) × (Nat → Int64)) :=
  stl H_lefts 14 H_size E_left fun H_lefts_32 =>
  stl H_rights 14 H_size E_right fun H_rights_45 =>
  st (H_size + (1 : Int32)) fun t53 =>
  some (t53, H_lefts_32, H_rights_45)
def fH_remember_16 (H_lefts : Nat → Int64) (H_rights : Nat → Int64) (E_left : Int64) (E_right : Int64) : Option (Int32 × (Nat → Int64) × (Nat → Int64)) :=
  bd3 (fH_forgetOldest H_lefts H_rights) fun H_size_17 H_lefts_17 H_rights_17 =>
  fH_remember_20 H_size_17 H_lefts_17 H_rights_17 E_left E_right
def fH_remember (H_size : Int32) (H_lefts : Nat → Int64) (H_rights : Nat → Int64) (E_left : Int64) (E_right : Int64) : Option (Int32 × (Nat → Int64) × (Nat → Int64)) :=
  if H_size < 0 then
    fH_remember_16 H_lefts H_rights E_left E_right
  else
  if H_size < (14 : Int32) then
    fH_remember_20 H_size H_lefts H_rights E_left E_right
  else
  fH_remember_16 H_lefts H_rights E_left E_right
def fE_swap (E_left : Int64) (E_right : Int64) : Option (Int64 × Int64) :=
  bd2 (fE_set E_right E_left) fun E_left_9 E_right_9 =>
  some (E_left_9, E_right_9)
def fX_swapSides (E_left : Int64) (E_right : Int64) (H_size : Int32) (H_lefts : Nat → Int64) (H_rights : Nat → Int64) : Option (Int32 × Int64 × Int64 × Int32 × (Nat → Int64) × (Nat → Int64)) :=
  bd3 (fH_remember H_size H_lefts H_rights E_left E_right) fun H_size_8 H_lefts_8 H_rights_8 =>
  bd2 (fE_swap E_left E_right) fun E_left_15 E_right_15 =>
  bd1 (fZ_size E_left_15) fun t25 =>
  some (t25, E_left_15, E_right_15, H_size_8, H_lefts_8, H_rights_8)
def fZ_reversed_10 (v0 : Int64) (v2 : Int32) (k10 : Int64 → Int32 → Option (Int64)) (v3 : Int64) (v5 : Int32) : Option (Int64) :=
  if v2 ≤ v5 then
    some v3
  else
  bd1 (fZ_symbol v0 v5) fun t22 =>
  st ((shlL v3 (3 : Int32)) ||| (Int32.toInt64 t22)) fun t27 =>
  st (v5 + (1 : Int32)) fun t28 =>
  k10 t27 t28
def fZ_reversed (x0 : Int64) : Option (Int64) :=
  bd1 (fZ_size x0) fun t1 =>
  fx2 (fZ_reversed_10 x0 t1) FU (0 : Int64) (0 : Int32)
def fE_turn (E_left : Int64) (E_right : Int64) : Option (Int64 × Int64) :=
  bd1 (fZ_reversed E_left) fun t5 =>
  bd1 (fZ_reversed E_right) fun t12 =>
  bd2 (fE_set t5 t12) fun E_left_15 E_right_15 =>
  some (E_left_15, E_right_15)
def fE_size (E_left : Int64) (E_right : Int64) : Option (Int32) :=
  bd1 (fZ_size E_left) fun t4 =>
  bd1 (fZ_size E_right) fun t11 =>
  some (t4 + t11)
def fX_reverse (E_left : Int64) (E_right : Int64) (H_size : Int32) (H_lefts : Nat → Int64) (H_rights : Nat → Int64) : Option (Int32 × Int64 × Int64 × Int32 × (Nat → Int64) × (Nat → Int64)) :=
  bd3 (fH_remember H_size H_lefts H_rights E_left E_right) fun H_size_8 H_lefts_8 H_rights_8 =>
  bd2 (fE_turn E_left E_right) fun E_left_15 E_right_15 =>
  bd1 (fE_size E_left_15 E_right_15) fun t22 =>
  some (t22, E_left_15, E_right_15, H_size_8, H_lefts_8, H_rights_8)
def fZ_head (x0 : Int64) : Option (Int32) :=
  some ((Int64.toInt32 x0) &&& (7 : Int32))
def fZ_tail (x0 : Int64) : Option (Int64) :=
  some (ushrL x0 (3 : Int32))
def fE_cancelHeads_2 (k2 : Int64 → Int64 → Int32 → Option (Int32 × Int64 × Int64)) (E_left : Int64) (E_right : Int64) (v1 : Int32) : Option (Int32 × Int64 × Int64) :=
  if (12 : Int32) ≤ v1 then
    some (v1, E_left, E_right)
  else
  if (lg_cmp E_left (0 : Int64)) = 0 then
    some (v1, E_left, E_right)
  else
  bd1 (fZ_head E_left) fun t21 =>
  bd1 (fZ_head E_right) fun t28 =>
  if t21 = t28 then
    bd1 (fZ_tail E_left) fun t39 =>
    bd1 (fZ_tail E_right) fun t46 =>
    bd2 (fE_set t39 t46) fun E_left_49 E_right_49 =>
    st (v1 + (1 : Int32)) fun t52 =>
    k2 E_left_49 E_right_49 t52
  else
  some (v1, E_left, E_right)
def fE_cancelHeads (E_left : Int64) (E_right : Int64) : Option (Int32 × Int64 × Int64) :=
  fx3 (fE_cancelHeads_2) FU E_left E_right (0 : Int32)
def fE_cancelEnds (E_left : Int64) (E_right : Int64) : Option (Int32 × Int64 × Int64) :=
  bd3 (fE_cancelHeads E_left E_right) fun t1 E_left_1 E_right_1 =>
  bd2 (fE_turn E_left_1 E_right_1) fun E_left_6 E_right_6 =>
  bd3 (fE_cancelHeads E_left_6 E_right_6) fun t11 E_left_11 E_right_11 =>
  st (t1 + t11) fun t15 =>
  bd2 (fE_turn E_left_11 E_right_11) fun E_left_17 E_right_17 =>
  some (t15, E_left_17, E_right_17)
def fX_cancel (E_left : Int64) (E_right : Int64) (H_size : Int32) (H_lefts : Nat → Int64) (H_rights : Nat → Int64) : Option (Int32 × Int64 × Int64 × Int32 × (Nat → Int64) × (Nat → Int64)) :=
  bd3 (fH_remember H_size H_lefts H_rights E_left E_right) fun H_size_8 H_lefts_8 H_rights_8 =>
  bd3 (fE_cancelEnds E_left E_right) fun t15 E_left_15 E_right_15 =>
  some (t15, E_left_15, E_right_15, H_size_8, H_lefts_8, H_rights_8)
def fZ_exchanged_54 (k5 : Int64 → Int32 → Option (Int64)) (v0 : Int64) (v4 : Int32) (s0 : Int64) (s1 : Int32) : Option (Int64) :=
  bd1 (fZ_one s1 v4) fun t56 =>
  st (s0 ||| t56) fun t60 =>
  st (v4 + (1 : Int32)) fun t61 =>
  k5 t60 t61
def fZ_exchanged_37 (k5 : Int64 → Int32 → Option (Int64)) (v0 : Int64) (v2 : Int64) (v4 : Int32) (v5 : Int32) (s0 : Int32) : Option (Int64) :=
  if s0 = 0 then
    fZ_exchanged_54 k5 v0 v4 v2 v5
  else
  fZ_exchanged_54 k5 v0 v4 v2 (((3 : Int32) - v5))
def fZ_exchanged_5 (v0 : Int64) (k5 : Int64 → Int32 → Option (Int64)) (v2 : Int64) (v4 : Int32) : Option (Int64) :=
  if (13 : Int32) ≤ v4 then
    some v2
  else
  bd1 (fZ_symbol v0 v4) fun t15 =>
  if t15 = (1 : Int32) then
    fZ_exchanged_37 k5 v0 v2 v4 t15 (1 : Int32)
  else
  if t15 = (2 : Int32) then
    fZ_exchanged_37 k5 v0 v2 v4 t15 (1 : Int32)
  else
  fZ_exchanged_37 k5 v0 v2 v4 t15 (0 : Int32)
def fZ_exchanged (x0 : Int64) : Option (Int64) :=
  fx2 (fZ_exchanged_5 x0) FU (0 : Int64) (0 : Int32)
def fE_exchange (E_left : Int64) (E_right : Int64) : Option (Int64 × Int64) :=
  bd1 (fZ_exchanged E_left) fun t5 =>
  bd1 (fZ_exchanged E_right) fun t12 =>
  bd2 (fE_set t5 t12) fun E_left_15 E_right_15 =>
  some (E_left_15, E_right_15)
def fE_total (E_left : Int64) (E_right : Int64) (x1 : Int32) : Option (Int32) :=
  bd1 (fZ_countOf E_left x1) fun t5 =>
  bd1 (fZ_countOf E_right x1) fun t13 =>
  some (t5 + t13)
def fX_exchangeLetters (E_left : Int64) (E_right : Int64) (H_size : Int32) (H_lefts : Nat → Int64) (H_rights : Nat → Int64) : Option (Int32 × Int64 × Int64 × Int32 × (Nat → Int64) × (Nat → Int64)) :=
  bd3 (fH_remember H_size H_lefts H_rights E_left E_right) fun H_size_8 H_lefts_8 H_rights_8 =>
  bd2 (fE_exchange E_left E_right) fun E_left_15 E_right_15 =>
  bd1 (fE_total E_left_15 E_right_15 (1 : Int32)) fun t23 =>
  bd1 (fE_total E_left_15 E_right_15 (2 : Int32)) fun t31 =>
  some ((t23 + t31), E_left_15, E_right_15, H_size_8, H_lefts_8, H_rights_8)
def fZ_replaced_51 (k21 : Int64 → Int32 → Int32 → Option (Int64)) (v0 : Int64) (v2 : Int32) (v3 : Int64) (v5 : Int32) (v6 : Int32) (v9 : Int32) (v10 : Int32) (v11 : Int32) (s0 : Int64) (s1 : Int64) : Option (Int64) :=
  st (s0 ||| (shlL s1 ((3 : Int32) * v9))) fun t57 =>
  if v11 = v2 then
    st (v9 + v6) fun t74 =>
    st (v10 + (1 : Int32)) fun t76 =>
    k21 t57 t74 t76
  else
  st (v9 + (1 : Int32)) fun t74 =>
  st (v10 + (1 : Int32)) fun t76 =>
  k21 t57 t74 t76
def fZ_replaced_21 (v0 : Int64) (v2 : Int32) (v3 : Int64) (v5 : Int32) (v6 : Int32) (k21 : Int64 → Int32 → Int32 → Option (Int64)) (v7 : Int64) (v9 : Int32) (v10 : Int32) : Option (Int64) :=
  if v5 ≤ v10 then
    some v7
  else
  bd1 (fZ_symbol v0 v10) fun t31 =>
  if t31 = v2 then
    fZ_replaced_51 k21 v0 v2 v3 v5 v6 v9 v10 t31 v7 v3
  else
  fZ_replaced_51 k21 v0 v2 v3 v5 v6 v9 v10 t31 v7 ((Int32.toInt64 t31))
def fZ_replaced (x0 : Int64) (x2 : Int32) (x3 : Int64) : Option (Int64) :=
  bd1 (fZ_size x0) fun t1 =>
  bd1 (fZ_size x3) fun t7 =>
  fx3 (fZ_replaced_21 x0 x2 x3 t1 t7) FU (0 : Int64) (0 : Int32) (0 : Int32)
def fE_replace (E_left : Int64) (E_right : Int64) (x1 : Int32) (x2 : Int64) : Option (Int32 × Int64 × Int64) :=
  bd1 (fE_total E_left E_right x1) fun t2 =>
  bd1 (fZ_replaced E_left x1 x2) fun t14 =>
  bd1 (fZ_replaced E_right x1 x2) fun t23 =>
  bd2 (fE_set t14 t23) fun E_left_26 E_right_26 =>
  some (t2, E_left_26, E_right_26)
def fX_eliminate (E_left : Int64) (E_right : Int64) (H_size : Int32) (H_lefts : Nat → Int64) (H_rights : Nat → Int64) (x1 : Int32) : Option (Int32 × Int64 × Int64 × Int32 × (Nat → Int64) × (Nat → Int64)) :=
  bd1 (fX_isVariable x1) fun t1 =>
  if t1 = 0 then
    some (((-1) : Int32), E_left, E_right, H_size, H_lefts, H_rights)
  else
  bd3 (fH_remember H_size H_lefts H_rights E_left E_right) fun H_size_17 H_lefts_17 H_rights_17 =>
  bd1 (fZ_variable x1) fun t25 =>
  bd3 (fE_replace E_left E_right t25 (0 : Int64)) fun t29 E_left_29 E_right_29 =>
  some (t29, E_left_29, E_right_29, H_size_17, H_lefts_17, H_rights_17)
def fT_hasOnlySymbols_2 (T_size : Int32) (T_characters : Nat → Int32) (k2 : Int32 → Option (Int32)) (v1 : Int32) : Option (Int32) :=
  if T_size ≤ v1 then
    some (1 : Int32)
  else
  bd1 (fT_at T_size T_characters v1) fun t12 =>
  bd1 (fZ_symbolOf t12) fun t15 =>
  if t15 = 0 then
    some (0 : Int32)
  else
  st (v1 + (1 : Int32)) fun t23 =>
  k2 t23
def fT_hasOnlySymbols (T_size : Int32) (T_characters : Nat → Int32) : Option (Int32) :=
  fx1 (fT_hasOnlySymbols_2 T_size T_characters) FU (0 : Int32)
def fZ_sizeAfter (x0 : Int64) (x2 : Int32) (x3 : Int32) : Option (Int32) :=
  bd1 (fZ_size x0) fun t1 =>
  bd1 (fZ_countOf x0 x2) fun t6 =>
  some (t1 + (t6 * (x3 - (1 : Int32))))
def fE_longestAfter (E_left : Int64) (E_right : Int64) (x1 : Int32) (x2 : Int32) : Option (Int32) :=
  bd1 (fZ_sizeAfter E_left x1 x2) fun t6 =>
  bd1 (fZ_sizeAfter E_right x1 x2) fun t15 =>
  some (if t6 < t15 then t15 else t6)
def fX_substitute (T_size : Int32) (T_characters : Nat → Int32) (E_left : Int64) (E_right : Int64) (H_size : Int32) (H_lefts : Nat → Int64) (H_rights : Nat → Int64) (x1 : Int32) : Option (Int32 × Int64 × Int64 × Int32 × (Nat → Int64) × (Nat → Int64)) :=
  bd1 (fX_isVariable x1) fun t1 =>
  if t1 = 0 then
    some (((-1) : Int32), E_left, E_right, H_size, H_lefts, H_rights)
  else
  bd1 (fT_hasOnlySymbols T_size T_characters) fun t13 =>
  if t13 = 0 then
    some (((-3) : Int32), E_left, E_right, H_size, H_lefts, H_rights)
  else
  bd1 (fZ_variable x1) fun t23 =>
  bd1 (fT_size T_size) fun t36 =>
  bd1 (fE_longestAfter E_left E_right t23 t36) fun t39 =>
  if t39 ≤ (12 : Int32) then
    bd3 (fH_remember H_size H_lefts H_rights E_left E_right) fun H_size_58 H_lefts_58 H_rights_58 =>
    bd1 (fT_size T_size) fun t75 =>
    bd1 (fT_packed T_size T_characters (0 : Int32) t75) fun t78 =>
    bd3 (fE_replace E_left E_right t23 t78) fun t81 E_left_81 E_right_81 =>
    some (t81, E_left_81, E_right_81, H_size_58, H_lefts_58, H_rights_58)
  else
  some (((-4) : Int32), E_left, E_right, H_size, H_lefts, H_rights)
def fH_size (H_size : Int32) : Option (Int32) :=
  some H_size
def fH_takeBack (H_size : Int32) (H_lefts : Nat → Int64) (H_rights : Nat → Int64) (E_left : Int64) (E_right : Int64) : Option (Int32 × Int64 × Int64) :=
  if H_size < (1 : Int32) then
    some (H_size, E_left, E_right)
  else
  if H_size ≤ (14 : Int32) then
    st (H_size - (1 : Int32)) fun t25 =>
    ld H_lefts 14 t25 fun t37 =>
    ld H_rights 14 t25 fun t46 =>
    bd2 (fE_set t37 t46) fun E_left_47 E_right_47 =>
    some (t25, E_left_47, E_right_47)
  else
  some (H_size, E_left, E_right)
def fX_undo (E_left : Int64) (E_right : Int64) (H_size : Int32) (H_lefts : Nat → Int64) (H_rights : Nat → Int64) : Option (Int32 × Int64 × Int64 × Int32) :=
  bd1 (fH_size H_size) fun t4 =>
  if t4 = 0 then
    some (((-3) : Int32), E_left, E_right, H_size)
  else
  bd3 (fH_takeBack H_size H_lefts H_rights E_left E_right) fun H_size_21 E_left_21 E_right_21 =>
  bd1 (fH_size H_size_21) fun t28 =>
  some (t28, E_left_21, E_right_21, H_size_21)
def fX_isWordNumber (x0 : Int32) : Option (Int32) :=
  if x0 < 0 then
    some (0 : Int32)
  else
  if (62 : Int32) < x0 then
    some (0 : Int32)
  else
  some (1 : Int32)
def fA_give (A_letters : Nat → Int64) (A_lengths : Nat → Int32) (x1 : Int32) (x2 : Int64) (x4 : Int32) : Option ((Nat → Int64) × (Nat → Int32)) :=
  bd1 (fZ_isVariableSymbol x1) fun t1 =>
  if t1 = 0 then
    some (A_letters, A_lengths)
  else
  stl A_letters 8 x1 x2 fun A_letters_13 =>
  sti A_lengths 8 x1 x4 fun A_lengths_21 =>
  some (A_letters_13, A_lengths_21)
def fA_giveNumber_28 (A_letters : Nat → Int64) (A_lengths : Nat → Int32) (v1 : Int32) (v3 : Int32) (v4 : Int32) : Option ((Nat → Int64) × (Nat → Int32)) :=
  bd2 (fA_give A_letters A_lengths v1 (Int32.toInt64 (v3 - (shl (1 : Int32) v4))) v4) fun A_letters_39 A_lengths_39 =>
  some (A_letters_39, A_lengths_39)
def fA_giveNumber_7 (A_letters : Nat → Int64) (A_lengths : Nat → Int32) (v1 : Int32) (v3 : Int32) (k7 : Int32 → Option ((Nat → Int64) × (Nat → Int32))) (v4 : Int32) : Option ((Nat → Int64) × (Nat → Int32)) :=
  if (5 : Int32) ≤ v4 then
    fA_giveNumber_28 A_letters A_lengths v1 v3 v4
  else
  if (shr v3 (v4 + (1 : Int32))) = 0 then
    fA_giveNumber_28 A_letters A_lengths v1 v3 v4
  else
  st (v4 + (1 : Int32)) fun t22 =>
  k7 t22
def fA_giveNumber (A_letters : Nat → Int64) (A_lengths : Nat → Int32) (x1 : Int32) (x2 : Int32) : Option ((Nat → Int64) × (Nat → Int32)) :=
  st (x2 + (1 : Int32)) fun t3 =>
  fx1 (fA_giveNumber_7 A_letters A_lengths x1 t3) FU (0 : Int32)
def fA_lengthOf (A_lengths : Nat → Int32) (x1 : Int32) : Option (Int32) :=
  ld A_lengths 8 (x1 &&& (7 : Int32)) fun t8 =>
  some t8
def fC_holds (x0 : Int32) (x1 : Int32) (x2 : Int32) : Option (Int32) :=
  if x1 = (60 : Int32) then
    if x2 ≤ x0 then
      some (0 : Int32)
    else
    some (1 : Int32)
  else
  if x1 = (62 : Int32) then
    if x0 ≤ x2 then
      some (0 : Int32)
    else
    some (1 : Int32)
  else
  if x0 = x2 then
    some (1 : Int32)
  else
  some (0 : Int32)
def fC_allow_2 (C_size : Int32) (C_variables : Nat → Int32) (C_relations : Nat → Int32) (C_numbers : Nat → Int32) (v1 : Int32) (v2 : Int32) (k2 : Int32 → Option (Int32)) (v3 : Int32) : Option (Int32) :=
  if C_size ≤ v3 then
    some (1 : Int32)
  else
  if (4 : Int32) ≤ v3 then
    some (1 : Int32)
  else
  ld C_variables 4 v3 fun t20 =>
  if t20 = v1 then
    ld C_relations 4 v3 fun t31 =>
    ld C_numbers 4 v3 fun t37 =>
    bd1 (fC_holds v2 t31 t37) fun t38 =>
    if t38 = 0 then
      some (0 : Int32)
    else
    st (v3 + (1 : Int32)) fun t46 =>
    k2 t46
  else
  st (v3 + (1 : Int32)) fun t46 =>
  k2 t46
def fC_allow (C_size : Int32) (C_variables : Nat → Int32) (C_relations : Nat → Int32) (C_numbers : Nat → Int32) (x1 : Int32) (x2 : Int32) : Option (Int32) :=
  fx1 (fC_allow_2 C_size C_variables C_relations C_numbers x1 x2) FU (0 : Int32)
def fA_spelled_8 (A_letters : Nat → Int64) (A_lengths : Nat → Int32) (k8 : Int64 → Int64 → Int32 → Option (Int64)) (v3 : Int64) (v5 : Int64) (v7 : Int32) : Option (Int64) :=
  if (12 : Int32) ≤ v7 then
    some v3
  else
  if (lg_cmp v5 (0 : Int64)) = 0 then
    some v3
  else
  st ((Int64.toInt32 v5) &&& (7 : Int32)) fun t28 =>
  ld A_lengths 8 t28 fun t37 =>
  ld A_letters 8 t28 fun t45 =>
  st ((shlL v3 t37) ||| t45) fun t47 =>
  st (ushrL v5 (3 : Int32)) fun t52 =>
  st (v7 + (1 : Int32)) fun t54 =>
  k8 t47 t52 t54
def fA_spelled (A_letters : Nat → Int64) (A_lengths : Nat → Int32) (x1 : Int64) : Option (Int64) :=
  fx3 (fA_spelled_8 A_letters A_lengths) FU (1 : Int64) x1 (0 : Int32)
def fA_equates (A_letters : Nat → Int64) (A_lengths : Nat → Int32) (x1 : Int64) (x3 : Int64) : Option (Int32) :=
  bd1 (fA_spelled A_letters A_lengths x1) fun t2 =>
  bd1 (fA_spelled A_letters A_lengths x3) fun t7 =>
  if (lg_cmp t2 t7) = 0 then
    some (1 : Int32)
  else
  some (0 : Int32)
def fX_holdsFor_52 (E_left : Int64) (E_right : Int64) (A_letters : Nat → Int64) (A_lengths : Nat → Int32) (C_size : Int32) (C_variables : Nat → Int32) (C_relations : Nat → Int32) (C_numbers : Nat → Int32) (k52 : Int32 → Option (Int32 × (Nat → Int64) × (Nat → Int32))) (v5 : Int32) : Option (Int32 × (Nat → Int64) × (Nat → Int32)) :=
  if (4 : Int32) ≤ v5 then
    bd1 (fA_equates A_letters A_lengths E_left E_right) fun t108 =>
    ckz t108 <|
    some (t108, A_letters, A_lengths)
  else
  bd1 (fZ_variable v5) fun t70 =>
  bd1 (fA_lengthOf A_lengths t70) fun t73 =>
  bd1 (fC_allow C_size C_variables C_relations C_numbers v5 t73) fun t76 =>
  if t76 = 0 then
    some ((0 : Int32), A_letters, A_lengths)
  else
  st (v5 + (1 : Int32)) fun t84 =>
  k52 t84
def fX_holdsFor (E_left : Int64) (E_right : Int64) (A_letters : Nat → Int64) (A_lengths : Nat → Int32) (C_size : Int32) (C_variables : Nat → Int32) (C_relations : Nat → Int32) (C_numbers : Nat → Int32) (x1 : Int32) (x2 : Int32) (x3 : Int32) (x4 : Int32) : Option (Int32 × (Nat → Int64) × (Nat → Int32)) :=
  bd1 (fZ_variable (0 : Int32)) fun t5 =>
  bd2 (fA_giveNumber A_letters A_lengths t5 x1) fun A_letters_9 A_lengths_9 =>
  bd1 (fZ_variable (1 : Int32)) fun t17 =>
  bd2 (fA_giveNumber A_letters_9 A_lengths_9 t17 x2) fun A_letters_21 A_lengths_21 =>
  bd1 (fZ_variable (2 : Int32)) fun t29 =>
  bd2 (fA_giveNumber A_letters_21 A_lengths_21 t29 x3) fun A_letters_33 A_lengths_33 =>
  bd1 (fZ_variable (3 : Int32)) fun t41 =>
  bd2 (fA_giveNumber A_letters_33 A_lengths_33 t41 x4) fun A_letters_46 A_lengths_46 =>
  fx1 (fX_holdsFor_52 E_left E_right A_letters_46 A_lengths_46 C_size C_variables C_relations C_numbers) FU (0 : Int32)
def fX_satisfies (E_left : Int64) (E_right : Int64) (A_letters : Nat → Int64) (A_lengths : Nat → Int32) (C_size : Int32) (C_variables : Nat → Int32) (C_relations : Nat → Int32) (C_numbers : Nat → Int32) (x1 : Int32) (x2 : Int32) (x3 : Int32) (x4 : Int32) : Option (Int32 × (Nat → Int64) × (Nat → Int32)) :=
  bd1 (fX_isWordNumber x1) fun t1 =>
  if t1 = 0 then
    some (((-2) : Int32), A_letters, A_lengths)
  else
  bd1 (fX_isWordNumber x2) fun t8 =>
  if t8 = 0 then
    some (((-2) : Int32), A_letters, A_lengths)
  else
  bd1 (fX_isWordNumber x3) fun t15 =>
  if t15 = 0 then
    some (((-2) : Int32), A_letters, A_lengths)
  else
  bd1 (fX_isWordNumber x4) fun t23 =>
  if t23 = 0 then
    some (((-2) : Int32), A_letters, A_lengths)
  else
  bd3 (fX_holdsFor E_left E_right A_letters A_lengths C_size C_variables C_relations C_numbers x1 x2 x3 x4) fun t38 A_letters_38 A_lengths_38 =>
  if t38 = 0 then
    some ((0 : Int32), A_letters_38, A_lengths_38)
  else
  some ((1 : Int32), A_letters_38, A_lengths_38)
def fE_surplus (E_left : Int64) (E_right : Int64) (x1 : Int32) : Option (Int32) :=
  bd1 (fZ_countOf E_left x1) fun t5 =>
  bd1 (fZ_countOf E_right x1) fun t13 =>
  some (t5 - t13)
def fQ_possibleUpTo_5 (C_size : Int32) (C_variables : Nat → Int32) (C_relations : Nat → Int32) (C_numbers : Nat → Int32) (v1 : Int32) (v2 : Int32) (k5 : Int32 → Int32 → Option (Int32)) (v3 : Int32) (v4 : Int32) : Option (Int32) :=
  if v1 < v4 then
    some v3
  else
  if (9 : Int32) < v4 then
    some v3
  else
  bd1 (fC_allow C_size C_variables C_relations C_numbers v2 v4) fun t25 =>
  if t25 = 0 then
    st (v4 + (1 : Int32)) fun t38 =>
    k5 v3 t38
  else
  st (v3 ||| (shl (1 : Int32) v4)) fun t37 =>
  st (v4 + (1 : Int32)) fun t38 =>
  k5 t37 t38
def fQ_possibleUpTo (C_size : Int32) (C_variables : Nat → Int32) (C_relations : Nat → Int32) (C_numbers : Nat → Int32) (x1 : Int32) (x2 : Int32) : Option (Int32) :=
  fx2 (fQ_possibleUpTo_5 C_size C_variables C_relations C_numbers x1 x2) FU (0 : Int32) (0 : Int32)
def fQ_prepare_60 (k17 : (Nat → Int32) → (Nat → Int32) → Int32 → Option (Int32 × (Nat → Int32) × (Nat → Int32))) (Q_letterSurplus : Int32) (Q_weights : Nat → Int32) (Q_possible : Nat → Int32) (C_size : Int32) (C_variables : Nat → Int32) (C_relations : Nat → Int32) (C_numbers : Nat → Int32) (E_left : Int64) (E_right : Int64) (v2 : Int32) (v3 : Int32) (s1 : Int32) (s3 : Int32) : Option (Int32 × (Nat → Int32) × (Nat → Int32)) :=
  bd1 (fQ_possibleUpTo C_size C_variables C_relations C_numbers s3 v3) fun t61 =>
  sti Q_possible 4 s1 t61 fun Q_possible_64 =>
  st (v3 + (1 : Int32)) fun t65 =>
  k17 Q_weights Q_possible_64 t65
def fQ_prepare_17 (Q_letterSurplus : Int32) (C_size : Int32) (C_variables : Nat → Int32) (C_relations : Nat → Int32) (C_numbers : Nat → Int32) (E_left : Int64) (E_right : Int64) (v2 : Int32) (k17 : (Nat → Int32) → (Nat → Int32) → Int32 → Option (Int32 × (Nat → Int32) × (Nat → Int32))) (Q_weights : Nat → Int32) (Q_possible : Nat → Int32) (v3 : Int32) : Option (Int32 × (Nat → Int32) × (Nat → Int32)) :=
  if (4 : Int32) ≤ v3 then
    some (Q_letterSurplus, Q_weights, Q_possible)
  else
  bd1 (fZ_variable v3) fun t23 =>
  bd1 (fE_surplus E_left E_right t23) fun t36 =>
  sti Q_weights 4 v3 t36 fun Q_weights_39 =>
  bd1 (fE_total E_left E_right t23) fun t49 =>
  if t49 = 0 then
    fQ_prepare_60 k17 Q_letterSurplus Q_weights_39 Q_possible C_size C_variables C_relations C_numbers E_left E_right v2 v3 v3 (0 : Int32)
  else
  fQ_prepare_60 k17 Q_letterSurplus Q_weights_39 Q_possible C_size C_variables C_relations C_numbers E_left E_right v2 v3 v3 v2
def fQ_prepare (Q_weights : Nat → Int32) (Q_possible : Nat → Int32) (C_size : Int32) (C_variables : Nat → Int32) (C_relations : Nat → Int32) (C_numbers : Nat → Int32) (E_left : Int64) (E_right : Int64) (x2 : Int32) : Option (Int32 × (Nat → Int32) × (Nat → Int32)) :=
  bd1 (fE_surplus E_left E_right (1 : Int32)) fun t3 =>
  bd1 (fE_surplus E_left E_right (2 : Int32)) fun t8 =>
  st (t3 + t8) fun t12 =>
  fx3 (fQ_prepare_17 t12 C_size C_variables C_relations C_numbers E_left E_right x2) FU Q_weights Q_possible (0 : Int32)
def fQ_letterSurplus (Q_letterSurplus : Int32) : Option (Int32) :=
  some Q_letterSurplus
def fA_numberOf (A_letters : Nat → Int64) (A_lengths : Nat → Int32) (x1 : Int32) : Option (Int32) :=
  st (x1 &&& (7 : Int32)) fun t4 =>
  ld A_lengths 8 t4 fun t11 =>
  ld A_letters 8 t4 fun t18 =>
  some (Int64.toInt32 (((shlL (1 : Int64) t11) + t18) - (1 : Int64)))
def fB_record_72 (B_found : Int32) (B_first : Nat → Int32) (s1 : Int32) : Option (Int32 × Int32 × (Nat → Int32)) :=
  st (B_found + (1 : Int32)) fun t82 =>
  some (t82, s1, B_first)
def fB_record_4 (B_found : Int32) (B_least : Int32) (A_letters : Nat → Int64) (A_lengths : Nat → Int32) (k4 : (Nat → Int32) → Int32 → Int32 → Option (Int32 × Int32 × (Nat → Int32))) (B_first : Nat → Int32) (v1 : Int32) (v2 : Int32) : Option (Int32 × Int32 × (Nat → Int32)) :=
  if (4 : Int32) ≤ v2 then
    if B_found = 0 then
      fB_record_72 B_found B_first v1
    else
    fB_record_72 B_found B_first ((if v1 < B_least then v1 else B_least))
  else
  bd1 (fZ_variable v2) fun t10 =>
  bd1 (fA_lengthOf A_lengths t10) fun t20 =>
  st (v1 + t20) fun t24 =>
  if B_found = 0 then
    bd1 (fA_numberOf A_letters A_lengths t10) fun t42 =>
    sti B_first 4 v2 t42 fun B_first_45 =>
    st (v2 + (1 : Int32)) fun t46 =>
    k4 B_first_45 t24 t46
  else
  st (v2 + (1 : Int32)) fun t46 =>
  k4 B_first t24 t46
def fB_record (B_found : Int32) (B_least : Int32) (B_first : Nat → Int32) (A_letters : Nat → Int64) (A_lengths : Nat → Int32) : Option (Int32 × Int32 × (Nat → Int32)) :=
  fx3 (fB_record_4 B_found B_least A_letters A_lengths) FU B_first (0 : Int32) (0 : Int32)
def fQ_allows (Q_possible : Nat → Int32) (x1 : Int32) (x2 : Int32) : Option (Int32) :=
  bd1 (fX_isVariable x1) fun t1 =>
  if t1 = 0 then
    some (0 : Int32)
  else
  ld Q_possible 4 x1 fun t12 =>
  if ((shr t12 x2) &&& (1 : Int32)) = 0 then
    some (0 : Int32)
  else
  some (1 : Int32)
def fQ_surplusWith (Q_weights : Nat → Int32) (x1 : Int32) (x2 : Int32) (x3 : Int32) : Option (Int32) :=
  bd1 (fX_isVariable x1) fun t1 =>
  if t1 = 0 then
    some x3
  else
  ld Q_weights 4 x1 fun t13 =>
  some (x3 + (t13 * x2))
def fQ_waysFrom_9 (kw : (Nat → Int32) → (Nat → Int32) → Int32 → Int32 → Option (Int32)) (v2 : Int32) : Option (Int32) :=
  if v2 = 0 then
    some (1 : Int32)
  else
  some (0 : Int32)
def fQ_waysFrom_24 (kw : (Nat → Int32) → (Nat → Int32) → Int32 → Int32 → Option (Int32)) (Q_weights : Nat → Int32) (Q_possible : Nat → Int32) (v1 : Int32) (v2 : Int32) (k24 : Int32 → Int32 → Option (Int32)) (v3 : Int32) (v4 : Int32) : Option (Int32) :=
  if (9 : Int32) < v4 then
    some v3
  else
  ld Q_possible 4 v1 fun t36 =>
  if ((shr t36 v4) &&& (1 : Int32)) = 0 then
    st (v4 + (1 : Int32)) fun t66 =>
    k24 v3 t66
  else
  ld Q_weights 4 v1 fun t56 =>
  bd1 (kw Q_weights Q_possible (v1 + (1 : Int32)) (v2 + (t56 * v4))) fun t61 =>
  st (v3 + t61) fun t65 =>
  st (v4 + (1 : Int32)) fun t66 =>
  k24 t65 t66
def fQ_waysFrom_b (kw : (Nat → Int32) → (Nat → Int32) → Int32 → Int32 → Option (Int32)) (Q_weights : Nat → Int32) (Q_possible : Nat → Int32) (x1 : Int32) (x2 : Int32) : Option (Int32) :=
  if x1 < 0 then
    fQ_waysFrom_9 kw x2
  else
  if x1 < (4 : Int32) then
    fx2 (fQ_waysFrom_24 kw Q_weights Q_possible x1 x2) FU (0 : Int32) (0 : Int32)
  else
  fQ_waysFrom_9 kw x2
def fQ_waysFrom (Q_weights : Nat → Int32) (Q_possible : Nat → Int32) (x1 : Int32) (x2 : Int32) : Option (Int32) := fx4 fQ_waysFrom_b 8 Q_weights Q_possible x1 x2
def fQ_canBalance (Q_weights : Nat → Int32) (Q_possible : Nat → Int32) (x1 : Int32) (x2 : Int32) : Option (Int32) :=
  bd1 (fQ_waysFrom Q_weights Q_possible x1 x2) fun t3 =>
  if t3 ≤ 0 then
    some (0 : Int32)
  else
  some (1 : Int32)
def fB_chooseLetters_18 (kw : Int64 → Int64 → Int32 → Int32 → (Nat → Int32) → (Nat → Int32) → (Nat → Int32) → (Nat → Int64) → (Nat → Int32) → Int32 → Int32 → Option (Int32 × Int32 × (Nat → Int32) × (Nat → Int64) × (Nat → Int32))) (B_left : Int64) (B_right : Int64) (Q_weights : Nat → Int32) (Q_possible : Nat → Int32) (v1 : Int32) (v2 : Int32) (v3 : Int32) (k18 : Int32 → Int32 → (Nat → Int32) → (Nat → Int64) → (Nat → Int32) → Int32 → Option (Int32 × Int32 × (Nat → Int32) × (Nat → Int64) × (Nat → Int32))) (B_found : Int32) (B_least : Int32) (B_first : Nat → Int32) (A_letters : Nat → Int64) (A_lengths : Nat → Int32) (v4 : Int32) : Option (Int32 × Int32 × (Nat → Int32) × (Nat → Int64) × (Nat → Int32)) :=
  if (shl (1 : Int32) v2) ≤ v4 then
    some (B_found, B_least, B_first, A_letters, A_lengths)
  else
  bd1 (fZ_variable v1) fun t31 =>
  bd2 (fA_give A_letters A_lengths t31 (Int32.toInt64 v4) v2) fun A_letters_38 A_lengths_38 =>
  bd5 (kw B_left B_right B_found B_least B_first Q_weights Q_possible A_letters_38 A_lengths_38 (v1 + (1 : Int32)) v3) fun B_found_46 B_least_46 B_first_46 A_letters_46 A_lengths_46 =>
  st (v4 + (1 : Int32)) fun t49 =>
  k18 B_found_46 B_least_46 B_first_46 A_letters_46 A_lengths_46 t49
def fB_chooseLetters_b (kw : Int64 → Int64 → Int32 → Int32 → (Nat → Int32) → (Nat → Int32) → (Nat → Int32) → (Nat → Int64) → (Nat → Int32) → Int32 → Int32 → Option (Int32 × Int32 × (Nat → Int32) × (Nat → Int64) × (Nat → Int32))) (B_left : Int64) (B_right : Int64) (B_found : Int32) (B_least : Int32) (B_first : Nat → Int32) (Q_weights : Nat → Int32) (Q_possible : Nat → Int32) (A_letters : Nat → Int64) (A_lengths : Nat → Int32) (x1 : Int32) (x2 : Int32) (x3 : Int32) : Option (Int32 × Int32 × (Nat → Int32) × (Nat → Int64) × (Nat → Int32)) :=
  bd1 (fQ_canBalance Q_weights Q_possible (x1 + (1 : Int32)) x3) fun t8 =>
  if t8 = 0 then
    some (B_found, B_least, B_first, A_letters, A_lengths)
  else
  fx6 (fB_chooseLetters_18 kw B_left B_right Q_weights Q_possible x1 x2 x3) FU B_found B_least B_first A_letters A_lengths (0 : Int32)
def fB_chooseWord_32 (kw : Int64 → Int64 → Int32 → Int32 → (Nat → Int32) → (Nat → Int32) → (Nat → Int32) → (Nat → Int64) → (Nat → Int32) → Int32 → Int32 → Option (Int32 × Int32 × (Nat → Int32) × (Nat → Int64) × (Nat → Int32))) (B_left : Int64) (B_right : Int64) (Q_weights : Nat → Int32) (Q_possible : Nat → Int32) (v1 : Int32) (v2 : Int32) (k32 : Int32 → Int32 → (Nat → Int32) → (Nat → Int64) → (Nat → Int32) → Int32 → Option (Int32 × Int32 × (Nat → Int32) × (Nat → Int64) × (Nat → Int32))) (B_found : Int32) (B_least : Int32) (B_first : Nat → Int32) (A_letters : Nat → Int64) (A_lengths : Nat → Int32) (v3 : Int32) : Option (Int32 × Int32 × (Nat → Int32) × (Nat → Int64) × (Nat → Int32)) :=
  if (3 : Int32) < v3 then
    some (B_found, B_least, B_first, A_letters, A_lengths)
  else
  bd1 (fQ_allows Q_possible v1 v3) fun t43 =>
  if t43 = 0 then
    st (v3 + (1 : Int32)) fun t65 =>
    k32 B_found B_least B_first A_letters A_lengths t65
  else
  bd1 (fQ_surplusWith Q_weights v1 v3 v2) fun t59 =>
  bd5 (fB_chooseLetters_b kw B_left B_right B_found B_least B_first Q_weights Q_possible A_letters A_lengths v1 v3 t59) fun B_found_62 B_least_62 B_first_62 A_letters_62 A_lengths_62 =>
  st (v3 + (1 : Int32)) fun t65 =>
  k32 B_found_62 B_least_62 B_first_62 A_letters_62 A_lengths_62 t65
def fB_chooseWord_b (kw : Int64 → Int64 → Int32 → Int32 → (Nat → Int32) → (Nat → Int32) → (Nat → Int32) → (Nat → Int64) → (Nat → Int32) → Int32 → Int32 → Option (Int32 × Int32 × (Nat → Int32) × (Nat → Int64) × (Nat → Int32))) (B_left : Int64) (B_right : Int64) (B_found : Int32) (B_least : Int32) (B_first : Nat → Int32) (Q_weights : Nat → Int32) (Q_possible : Nat → Int32) (A_letters : Nat → Int64) (A_lengths : Nat → Int32) (x1 : Int32) (x2 : Int32) : Option (Int32 × Int32 × (Nat → Int32) × (Nat → Int64) × (Nat → Int32)) :=
  bd1 (fX_isVariable x1) fun t1 =>
  if t1 = 0 then
    bd1 (fA_equates A_letters A_lengths B_left B_right) fun t19 =>
    if t19 = 0 then
      some (B_found, B_least, B_first, A_letters, A_lengths)
    else
    bd3 (fB_record B_found B_least B_first A_letters A_lengths) fun B_found_26 B_least_26 B_first_26 =>
    some (B_found_26, B_least_26, B_first_26, A_letters, A_lengths)
  else
  fx6 (fB_chooseWord_32 kw B_left B_right Q_weights Q_possible x1 x2) FU B_found B_least B_first A_letters A_lengths (0 : Int32)
def fB_chooseWord (B_left : Int64) (B_right : Int64) (B_found : Int32) (B_least : Int32) (B_first : Nat → Int32) (Q_weights : Nat → Int32) (Q_possible : Nat → Int32) (A_letters : Nat → Int64) (A_lengths : Nat → Int32) (x1 : Int32) (x2 : Int32) : Option (Int32 × Int32 × (Nat → Int32) × (Nat → Int64) × (Nat → Int32)) := fx11 fB_chooseWord_b 8 B_left B_right B_found B_least B_first Q_weights Q_possible A_letters A_lengths x1 x2
def fB_enumerate (B_first : Nat → Int32) (Q_weights : Nat → Int32) (Q_possible : Nat → Int32) (C_size : Int32) (C_variables : Nat → Int32) (C_relations : Nat → Int32) (C_numbers : Nat → Int32) (A_letters : Nat → Int64) (A_lengths : Nat → Int32) (E_left : Int64) (E_right : Int64) (x2 : Int32) : Option (Int32 × Int64 × Int64 × Int32 × Int32 × (Nat → Int32) × Int32 × (Nat → Int32) × (Nat → Int32) × (Nat → Int64) × (Nat → Int32)) :=
  bd3 (fQ_prepare Q_weights Q_possible C_size C_variables C_relations C_numbers E_left E_right x2) fun Q_letterSurplus_32 Q_weights_32 Q_possible_32 =>
  bd1 (fQ_letterSurplus Q_letterSurplus_32) fun t41 =>
  bd5 (fB_chooseWord E_left E_right (0 : Int32) (0 : Int32) B_first Q_weights_32 Q_possible_32 A_letters A_lengths (0 : Int32) t41) fun B_found_44 B_least_44 B_first_44 A_letters_44 A_lengths_44 =>
  some (B_found_44, E_left, E_right, B_found_44, B_least_44, B_first_44, Q_letterSurplus_32, Q_weights_32, Q_possible_32, A_letters_44, A_lengths_44)
def fX_countSolutions (E_left : Int64) (E_right : Int64) (B_left : Int64) (B_right : Int64) (B_found : Int32) (B_least : Int32) (B_first : Nat → Int32) (Q_letterSurplus : Int32) (Q_weights : Nat → Int32) (Q_possible : Nat → Int32) (C_size : Int32) (C_variables : Nat → Int32) (C_relations : Nat → Int32) (C_numbers : Nat → Int32) (A2_letters : Nat → Int64) (A2_lengths : Nat → Int32) (x1 : Int32) : Option (Int32 × Int64 × Int64 × Int32 × Int32 × (Nat → Int32) × Int32 × (Nat → Int32) × (Nat → Int32) × (Nat → Int64) × (Nat → Int32)) :=
  if x1 < 0 then
    some (((-2) : Int32), B_left, B_right, B_found, B_least, B_first, Q_letterSurplus, Q_weights, Q_possible, A2_letters, A2_lengths)
  else
  if x1 ≤ (3 : Int32) then
    bd11 (fB_enumerate B_first Q_weights Q_possible C_size C_variables C_relations C_numbers A2_letters A2_lengths E_left E_right x1) fun t21 B_left_21 B_right_21 B_found_21 B_least_21 B_first_21 Q_letterSurplus_21 Q_weights_21 Q_possible_21 A2_letters_21 A2_lengths_21 =>
    some (t21, B_left_21, B_right_21, B_found_21, B_least_21, B_first_21, Q_letterSurplus_21, Q_weights_21, Q_possible_21, A2_letters_21, A2_lengths_21)
  else
  some (((-2) : Int32), B_left, B_right, B_found, B_least, B_first, Q_letterSurplus, Q_weights, Q_possible, A2_letters, A2_lengths)
def fB_firstNumber (B_first : Nat → Int32) (x1 : Int32) : Option (Int32) :=
  bd1 (fX_isVariable x1) fun t1 =>
  if t1 = 0 then
    some ((-9) : Int32)
  else
  ld B_first 4 x1 fun t12 =>
  some t12
def fX_firstSolution (E_left : Int64) (E_right : Int64) (B_left : Int64) (B_right : Int64) (B_found : Int32) (B_least : Int32) (B_first : Nat → Int32) (Q_letterSurplus : Int32) (Q_weights : Nat → Int32) (Q_possible : Nat → Int32) (C_size : Int32) (C_variables : Nat → Int32) (C_relations : Nat → Int32) (C_numbers : Nat → Int32) (A2_letters : Nat → Int64) (A2_lengths : Nat → Int32) (x1 : Int32) (x2 : Int32) : Option (Int32 × Int64 × Int64 × Int32 × Int32 × (Nat → Int32) × Int32 × (Nat → Int32) × (Nat → Int32) × (Nat → Int64) × (Nat → Int32)) :=
  bd1 (fX_isVariable x2) fun t1 =>
  if t1 = 0 then
    some (((-1) : Int32), B_left, B_right, B_found, B_least, B_first, Q_letterSurplus, Q_weights, Q_possible, A2_letters, A2_lengths)
  else
  if x1 < 0 then
    some (((-2) : Int32), B_left, B_right, B_found, B_least, B_first, Q_letterSurplus, Q_weights, Q_possible, A2_letters, A2_lengths)
  else
  if x1 ≤ (3 : Int32) then
    bd11 (fB_enumerate B_first Q_weights Q_possible C_size C_variables C_relations C_numbers A2_letters A2_lengths E_left E_right x1) fun t30 B_left_30 B_right_30 B_found_30 B_least_30 B_first_30 Q_letterSurplus_30 Q_weights_30 Q_possible_30 A2_letters_30 A2_lengths_30 =>
    if t30 = 0 then
      some (((-9) : Int32), B_left_30, B_right_30, B_found_30, B_least_30, B_first_30, Q_letterSurplus_30, Q_weights_30, Q_possible_30, A2_letters_30, A2_lengths_30)
    else
    bd1 (fB_firstNumber B_first_30 x2) fun t46 =>
    some (t46, B_left_30, B_right_30, B_found_30, B_least_30, B_first_30, Q_letterSurplus_30, Q_weights_30, Q_possible_30, A2_letters_30, A2_lengths_30)
  else
  some (((-2) : Int32), B_left, B_right, B_found, B_least, B_first, Q_letterSurplus, Q_weights, Q_possible, A2_letters, A2_lengths)
def fB_leastTotal (B_least : Int32) : Option (Int32) :=
  some B_least
def fX_leastTotalLength (E_left : Int64) (E_right : Int64) (B_left : Int64) (B_right : Int64) (B_found : Int32) (B_least : Int32) (B_first : Nat → Int32) (Q_letterSurplus : Int32) (Q_weights : Nat → Int32) (Q_possible : Nat → Int32) (C_size : Int32) (C_variables : Nat → Int32) (C_relations : Nat → Int32) (C_numbers : Nat → Int32) (A2_letters : Nat → Int64) (A2_lengths : Nat → Int32) (x1 : Int32) : Option (Int32 × Int64 × Int64 × Int32 × Int32 × (Nat → Int32) × Int32 × (Nat → Int32) × (Nat → Int32) × (Nat → Int64) × (Nat → Int32)) :=
  if x1 < 0 then
    some (((-2) : Int32), B_left, B_right, B_found, B_least, B_first, Q_letterSurplus, Q_weights, Q_possible, A2_letters, A2_lengths)
  else
  if x1 ≤ (3 : Int32) then
    bd11 (fB_enumerate B_first Q_weights Q_possible C_size C_variables C_relations C_numbers A2_letters A2_lengths E_left E_right x1) fun t21 B_left_21 B_right_21 B_found_21 B_least_21 B_first_21 Q_letterSurplus_21 Q_weights_21 Q_possible_21 A2_letters_21 A2_lengths_21 =>
    if t21 = 0 then
      some (((-9) : Int32), B_left_21, B_right_21, B_found_21, B_least_21, B_first_21, Q_letterSurplus_21, Q_weights_21, Q_possible_21, A2_letters_21, A2_lengths_21)
    else
    bd1 (fB_leastTotal B_least_21) fun t36 =>
    some (t36, B_left_21, B_right_21, B_found_21, B_least_21, B_first_21, Q_letterSurplus_21, Q_weights_21, Q_possible_21, A2_letters_21, A2_lengths_21)
  else
  some (((-2) : Int32), B_left, B_right, B_found, B_least, B_first, Q_letterSurplus, Q_weights, Q_possible, A2_letters, A2_lengths)
def fQ_solutions (Q_letterSurplus : Int32) (Q_weights : Nat → Int32) (Q_possible : Nat → Int32) : Option (Int32) :=
  bd1 (fQ_waysFrom Q_weights Q_possible (0 : Int32) Q_letterSurplus) fun t6 =>
  some t6
def fX_countLengths (E_left : Int64) (E_right : Int64) (Q_letterSurplus : Int32) (Q_weights : Nat → Int32) (Q_possible : Nat → Int32) (C_size : Int32) (C_variables : Nat → Int32) (C_relations : Nat → Int32) (C_numbers : Nat → Int32) (x1 : Int32) : Option (Int32 × Int32 × (Nat → Int32) × (Nat → Int32)) :=
  if x1 < 0 then
    some (((-2) : Int32), Q_letterSurplus, Q_weights, Q_possible)
  else
  if x1 ≤ (9 : Int32) then
    bd3 (fQ_prepare Q_weights Q_possible C_size C_variables C_relations C_numbers E_left E_right x1) fun Q_letterSurplus_22 Q_weights_22 Q_possible_22 =>
    bd1 (fQ_solutions Q_letterSurplus_22 Q_weights_22 Q_possible_22) fun t29 =>
    some (t29, Q_letterSurplus_22, Q_weights_22, Q_possible_22)
  else
  some (((-2) : Int32), Q_letterSurplus, Q_weights, Q_possible)
def fX_refutedByCounting_56 (s0 : Int32) : Option (Int32) :=
  if s0 = 0 then
    some (1 : Int32)
  else
  some (0 : Int32)
def fX_refutedByCounting_2 (E_left : Int64) (E_right : Int64) (k2 : Int32 → Option (Int32)) (v1 : Int32) : Option (Int32) :=
  if (4 : Int32) ≤ v1 then
    bd1 (fE_surplus E_left E_right (1 : Int32)) fun t34 =>
    if t34 = 0 then
      bd1 (fE_surplus E_left E_right (2 : Int32)) fun t45 =>
      if t45 = 0 then
        fX_refutedByCounting_56 (1 : Int32)
      else
      fX_refutedByCounting_56 (0 : Int32)
    else
    fX_refutedByCounting_56 (0 : Int32)
  else
  bd1 (fZ_variable v1) fun t12 =>
  bd1 (fE_surplus E_left E_right t12) fun t15 =>
  if t15 = 0 then
    st (v1 + (1 : Int32)) fun t23 =>
    k2 t23
  else
  some (0 : Int32)
def fX_refutedByCounting (E_left : Int64) (E_right : Int64) : Option (Int32) :=
  fx1 (fX_refutedByCounting_2 E_left E_right) FU (0 : Int32)
def fN_isKnown_3 (N_size : Int32) (N_lefts : Nat → Int64) (N_rights : Nat → Int64) (v1 : Int64) (v3 : Int64) (k3 : Int32 → Option (Int32)) (v5 : Int32) : Option (Int32) :=
  if N_size ≤ v5 then
    some (0 : Int32)
  else
  if (200 : Int32) ≤ v5 then
    some (0 : Int32)
  else
  ld N_lefts 200 v5 fun t26 =>
  if (lg_cmp t26 v1) = 0 then
    ld N_rights 200 v5 fun t38 =>
    if (lg_cmp t38 v3) = 0 then
      some (1 : Int32)
    else
    st (v5 + (1 : Int32)) fun t46 =>
    k3 t46
  else
  st (v5 + (1 : Int32)) fun t46 =>
  k3 t46
def fN_isKnown (N_size : Int32) (N_lefts : Nat → Int64) (N_rights : Nat → Int64) (x1 : Int64) (x3 : Int64) : Option (Int32) :=
  fx1 (fN_isKnown_3 N_size N_lefts N_rights x1 x3) FU (0 : Int32)
def fN_isNode (N_size : Int32) (x1 : Int32) : Option (Int32) :=
  if x1 < 0 then
    some (0 : Int32)
  else
  if N_size ≤ x1 then
    some (0 : Int32)
  else
  if (200 : Int32) ≤ x1 then
    some (0 : Int32)
  else
  some (1 : Int32)
def fN_addNode_36 (N_size : Int32) (N_solved : Int32) (N_lefts : Nat → Int64) (N_rights : Nat → Int64) (N_parents : Nat → Int32) (N_rules : Nat → Int32) (N_depths : Nat → Int32) : Option (Int32 × Int32 × Int32 × (Nat → Int64) × (Nat → Int64) × (Nat → Int32) × (Nat → Int32) × (Nat → Int32)) :=
  some (N_size, N_solved, (1 : Int32), N_lefts, N_rights, N_parents, N_rules, N_depths)
def fN_addNode_133 (N_size : Int32) (N_solved : Int32) (N_dropped : Int32) (N_lefts : Nat → Int64) (N_rights : Nat → Int64) (N_parents : Nat → Int32) (N_rules : Nat → Int32) (N_depths : Nat → Int32) : Option (Int32 × Int32 × Int32 × (Nat → Int64) × (Nat → Int64) × (Nat → Int32) × (Nat → Int32) × (Nat → Int32)) :=
  st (N_size + (1 : Int32)) fun t140 =>
  some (t140, N_solved, N_dropped, N_lefts, N_rights, N_parents, N_rules, N_depths)
def fN_addNode_111 (N_size : Int32) (N_solved : Int32) (N_dropped : Int32) (N_lefts : Nat → Int64) (N_rights : Nat → Int64) (N_parents : Nat → Int32) (N_rules : Nat → Int32) (N_depths : Nat → Int32) (v3 : Int64) (v5 : Int64) (s1 : Int32) (s2 : Int32) : Option (Int32 × Int32 × Int32 × (Nat → Int64) × (Nat → Int64) × (Nat → Int32) × (Nat → Int32) × (Nat → Int32)) :=
  sti N_depths 200 s1 s2 fun N_depths_111 =>
  if (lg_cmp v3 (0 : Int64)) = 0 then
    if (lg_cmp v5 (0 : Int64)) = 0 then
      fN_addNode_133 N_size N_size N_dropped N_lefts N_rights N_parents N_rules N_depths_111
    else
    fN_addNode_133 N_size N_solved N_dropped N_lefts N_rights N_parents N_rules N_depths_111
  else
  fN_addNode_133 N_size N_solved N_dropped N_lefts N_rights N_parents N_rules N_depths_111
def fN_addNode (N_size : Int32) (N_solved : Int32) (N_dropped : Int32) (N_lefts : Nat → Int64) (N_rights : Nat → Int64) (N_parents : Nat → Int32) (N_rules : Nat → Int32) (N_depths : Nat → Int32) (x1 : Int32) (x2 : Int32) (x3 : Int64) (x5 : Int64) : Option (Int32 × Int32 × Int32 × (Nat → Int64) × (Nat → Int64) × (Nat → Int32) × (Nat → Int32) × (Nat → Int32)) :=
  if N_solved = ((-1) : Int32) then
    bd1 (fN_isKnown N_size N_lefts N_rights x3 x5) fun t12 =>
    if t12 = 0 then
      if N_size < 0 then
        fN_addNode_36 N_size N_solved N_lefts N_rights N_parents N_rules N_depths
      else
      if N_size < (200 : Int32) then
        stl N_lefts 200 N_size x3 fun N_lefts_51 =>
        stl N_rights 200 N_size x5 fun N_rights_62 =>
        sti N_parents 200 N_size x1 fun N_parents_72 =>
        sti N_rules 200 N_size x2 fun N_rules_82 =>
        bd1 (fN_isNode N_size x1) fun t93 =>
        if t93 = 0 then
          fN_addNode_111 N_size N_solved N_dropped N_lefts_51 N_rights_62 N_parents_72 N_rules_82 N_depths x3 x5 N_size (0 : Int32)
        else
        ld N_depths 200 x1 fun t104 =>
        fN_addNode_111 N_size N_solved N_dropped N_lefts_51 N_rights_62 N_parents_72 N_rules_82 N_depths x3 x5 N_size ((t104 + (1 : Int32)))
      else
      fN_addNode_36 N_size N_solved N_lefts N_rights N_parents N_rules N_depths
    else
    some (N_size, N_solved, N_dropped, N_lefts, N_rights, N_parents, N_rules, N_depths)
  else
  some (N_size, N_solved, N_dropped, N_lefts, N_rights, N_parents, N_rules, N_depths)
def fN_addWithout (N_size : Int32) (N_solved : Int32) (N_dropped : Int32) (N_lefts : Nat → Int64) (N_rights : Nat → Int64) (N_parents : Nat → Int32) (N_rules : Nat → Int32) (N_depths : Nat → Int32) (x1 : Int32) (x2 : Int32) (x3 : Int32) : Option (Int32 × Int32 × Int32 × (Nat → Int64) × (Nat → Int64) × (Nat → Int32) × (Nat → Int32) × (Nat → Int32)) :=
  ld N_lefts 200 x1 fun t5 =>
  bd1 (fZ_replaced t5 x3 (0 : Int64)) fun t8 =>
  ld N_rights 200 x1 fun t18 =>
  bd1 (fZ_replaced t18 x3 (0 : Int64)) fun t21 =>
  bd8 (fN_addNode N_size N_solved N_dropped N_lefts N_rights N_parents N_rules N_depths x1 x2 t8 t21) fun N_size_33 N_solved_33 N_dropped_33 N_lefts_33 N_rights_33 N_parents_33 N_rules_33 N_depths_33 =>
  some (N_size_33, N_solved_33, N_dropped_33, N_lefts_33, N_rights_33, N_parents_33, N_rules_33, N_depths_33)
def fN_addLonger_36 (N_size : Int32) (N_solved : Int32) (N_lefts : Nat → Int64) (N_rights : Nat → Int64) (N_parents : Nat → Int32) (N_rules : Nat → Int32) (N_depths : Nat → Int32) : Option (Int32 × Int32 × Int32 × (Nat → Int64) × (Nat → Int64) × (Nat → Int32) × (Nat → Int32) × (Nat → Int32)) :=
  some (N_size, N_solved, (1 : Int32), N_lefts, N_rights, N_parents, N_rules, N_depths)
def fN_addLonger (N_size : Int32) (N_solved : Int32) (N_dropped : Int32) (N_lefts : Nat → Int64) (N_rights : Nat → Int64) (N_parents : Nat → Int32) (N_rules : Nat → Int32) (N_depths : Nat → Int32) (x1 : Int32) (x2 : Int32) (x3 : Int32) (x4 : Int32) : Option (Int32 × Int32 × Int32 × (Nat → Int64) × (Nat → Int64) × (Nat → Int32) × (Nat → Int32) × (Nat → Int32)) :=
  ld N_lefts 200 x1 fun t9 =>
  bd1 (fZ_sizeAfter t9 x3 (2 : Int32)) fun t12 =>
  if (13 : Int32) < t12 then
    fN_addLonger_36 N_size N_solved N_lefts N_rights N_parents N_rules N_depths
  else
  ld N_rights 200 x1 fun t25 =>
  bd1 (fZ_sizeAfter t25 x3 (2 : Int32)) fun t28 =>
  if t28 ≤ (13 : Int32) then
    bd1 (fZ_one x4 (0 : Int32)) fun t45 =>
    bd1 (fZ_one x3 (1 : Int32)) fun t50 =>
    st (t45 ||| t50) fun t54 =>
    ld N_lefts 200 x1 fun t61 =>
    bd1 (fZ_replaced t61 x3 t54) fun t65 =>
    ld N_rights 200 x1 fun t75 =>
    bd1 (fZ_replaced t75 x3 t54) fun t79 =>
    bd1 (fZ_tail t65) fun t89 =>
    bd1 (fZ_tail t79) fun t94 =>
    bd8 (fN_addNode N_size N_solved N_dropped N_lefts N_rights N_parents N_rules N_depths x1 x2 t89 t94) fun N_size_97 N_solved_97 N_dropped_97 N_lefts_97 N_rights_97 N_parents_97 N_rules_97 N_depths_97 =>
    some (N_size_97, N_solved_97, N_dropped_97, N_lefts_97, N_rights_97, N_parents_97, N_rules_97, N_depths_97)
  else
  fN_addLonger_36 N_size N_solved N_lefts N_rights N_parents N_rules N_depths
def fN_addChildren_112 (N_size : Int32) (N_solved : Int32) (N_dropped : Int32) (N_lefts : Nat → Int64) (N_rights : Nat → Int64) (N_parents : Nat → Int32) (N_rules : Nat → Int32) (N_depths : Nat → Int32) (v1 : Int32) (v2 : Int32) (v3 : Int32) (v5 : Int32) : Option (Int32 × Int32 × Int32 × (Nat → Int64) × (Nat → Int64) × (Nat → Int32) × (Nat → Int32) × (Nat → Int32)) :=
  if v5 = 0 then
    some (N_size, N_solved, N_dropped, N_lefts, N_rights, N_parents, N_rules, N_depths)
  else
  if v2 = 0 then
    some (N_size, N_solved, N_dropped, N_lefts, N_rights, N_parents, N_rules, N_depths)
  else
  bd8 (fN_addLonger N_size N_solved N_dropped N_lefts N_rights N_parents N_rules N_depths v1 (4 : Int32) v3 v2) fun N_size_126 N_solved_126 N_dropped_126 N_lefts_126 N_rights_126 N_parents_126 N_rules_126 N_depths_126 =>
  some (N_size_126, N_solved_126, N_dropped_126, N_lefts_126, N_rights_126, N_parents_126, N_rules_126, N_depths_126)
def fN_addChildren_95 (N_size : Int32) (N_solved : Int32) (N_dropped : Int32) (N_lefts : Nat → Int64) (N_rights : Nat → Int64) (N_parents : Nat → Int32) (N_rules : Nat → Int32) (N_depths : Nat → Int32) (v1 : Int32) (v2 : Int32) (v3 : Int32) (v4 : Int32) (v5 : Int32) : Option (Int32 × Int32 × Int32 × (Nat → Int64) × (Nat → Int64) × (Nat → Int32) × (Nat → Int32) × (Nat → Int32)) :=
  if v4 = 0 then
    fN_addChildren_112 N_size N_solved N_dropped N_lefts N_rights N_parents N_rules N_depths v1 v2 v3 v5
  else
  if v3 = 0 then
    fN_addChildren_112 N_size N_solved N_dropped N_lefts N_rights N_parents N_rules N_depths v1 v2 v3 v5
  else
  bd8 (fN_addLonger N_size N_solved N_dropped N_lefts N_rights N_parents N_rules N_depths v1 (3 : Int32) v2 v3) fun N_size_109 N_solved_109 N_dropped_109 N_lefts_109 N_rights_109 N_parents_109 N_rules_109 N_depths_109 =>
  fN_addChildren_112 N_size_109 N_solved_109 N_dropped_109 N_lefts_109 N_rights_109 N_parents_109 N_rules_109 N_depths_109 v1 v2 v3 v5
def fN_addChildren_83 (N_size : Int32) (N_solved : Int32) (N_dropped : Int32) (N_lefts : Nat → Int64) (N_rights : Nat → Int64) (N_parents : Nat → Int32) (N_rules : Nat → Int32) (N_depths : Nat → Int32) (v1 : Int32) (v2 : Int32) (v3 : Int32) (v4 : Int32) (v5 : Int32) : Option (Int32 × Int32 × Int32 × (Nat → Int64) × (Nat → Int64) × (Nat → Int32) × (Nat → Int32) × (Nat → Int32)) :=
  if v5 = 0 then
    fN_addChildren_95 N_size N_solved N_dropped N_lefts N_rights N_parents N_rules N_depths v1 v2 v3 v4 v5
  else
  bd8 (fN_addWithout N_size N_solved N_dropped N_lefts N_rights N_parents N_rules N_depths v1 (2 : Int32) v3) fun N_size_92 N_solved_92 N_dropped_92 N_lefts_92 N_rights_92 N_parents_92 N_rules_92 N_depths_92 =>
  fN_addChildren_95 N_size_92 N_solved_92 N_dropped_92 N_lefts_92 N_rights_92 N_parents_92 N_rules_92 N_depths_92 v1 v2 v3 v4 v5
def fN_addChildren (N_size : Int32) (N_solved : Int32) (N_dropped : Int32) (N_lefts : Nat → Int64) (N_rights : Nat → Int64) (N_parents : Nat → Int32) (N_rules : Nat → Int32) (N_depths : Nat → Int32) (x1 : Int32) : Option (Int32 × Int32 × Int32 × (Nat → Int64) × (Nat → Int64) × (Nat → Int32) × (Nat → Int32) × (Nat → Int32)) :=
  bd1 (fN_isNode N_size x1) fun t2 =>
  if t2 = 0 then
    some (N_size, N_solved, N_dropped, N_lefts, N_rights, N_parents, N_rules, N_depths)
  else
  ld N_lefts 200 x1 fun t14 =>
  bd1 (fZ_head t14) fun t15 =>
  ld N_rights 200 x1 fun t24 =>
  bd1 (fZ_head t24) fun t25 =>
  if t15 = t25 then
    ld N_lefts 200 x1 fun t42 =>
    bd1 (fZ_tail t42) fun t43 =>
    ld N_rights 200 x1 fun t51 =>
    bd1 (fZ_tail t51) fun t52 =>
    bd8 (fN_addNode N_size N_solved N_dropped N_lefts N_rights N_parents N_rules N_depths x1 (0 : Int32) t43 t52) fun N_size_55 N_solved_55 N_dropped_55 N_lefts_55 N_rights_55 N_parents_55 N_rules_55 N_depths_55 =>
    some (N_size_55, N_solved_55, N_dropped_55, N_lefts_55, N_rights_55, N_parents_55, N_rules_55, N_depths_55)
  else
  bd1 (fZ_isVariableSymbol t15) fun t60 =>
  bd1 (fZ_isVariableSymbol t25) fun t66 =>
  if t60 = 0 then
    fN_addChildren_83 N_size N_solved N_dropped N_lefts N_rights N_parents N_rules N_depths x1 t15 t25 t60 t66
  else
  bd8 (fN_addWithout N_size N_solved N_dropped N_lefts N_rights N_parents N_rules N_depths x1 (1 : Int32) t15) fun N_size_80 N_solved_80 N_dropped_80 N_lefts_80 N_rights_80 N_parents_80 N_rules_80 N_depths_80 =>
  fN_addChildren_83 N_size_80 N_solved_80 N_dropped_80 N_lefts_80 N_rights_80 N_parents_80 N_rules_80 N_depths_80 x1 t15 t25 t60 t66
def fN_answerFor_65 (N_size : Int32) (N_solved : Int32) (N_dropped : Int32) (N_lefts : Nat → Int64) (N_rights : Nat → Int64) (N_parents : Nat → Int32) (N_rules : Nat → Int32) (N_depths : Nat → Int32) : Option (Int32 × Int32 × Int32 × Int32 × (Nat → Int64) × (Nat → Int64) × (Nat → Int32) × (Nat → Int32) × (Nat → Int32)) :=
  if N_solved = ((-1) : Int32) then
    if N_dropped = 0 then
      some ((0 : Int32), N_size, N_solved, N_dropped, N_lefts, N_rights, N_parents, N_rules, N_depths)
    else
    some ((2 : Int32), N_size, N_solved, N_dropped, N_lefts, N_rights, N_parents, N_rules, N_depths)
  else
  some ((1 : Int32), N_size, N_solved, N_dropped, N_lefts, N_rights, N_parents, N_rules, N_depths)
def fN_answerFor_31 (k31 : Int32 → Int32 → Int32 → (Nat → Int64) → (Nat → Int64) → (Nat → Int32) → (Nat → Int32) → (Nat → Int32) → Int32 → Option (Int32 × Int32 × Int32 × Int32 × (Nat → Int64) × (Nat → Int64) × (Nat → Int32) × (Nat → Int32) × (Nat → Int32))) (N_size : Int32) (N_solved : Int32) (N_dropped : Int32) (N_lefts : Nat → Int64) (N_rights : Nat → Int64) (N_parents : Nat → Int32) (N_rules : Nat → Int32) (N_depths : Nat → Int32) (v2 : Int32) : Option (Int32 × Int32 × Int32 × Int32 × (Nat → Int64) × (Nat → Int64) × (Nat → Int32) × (Nat → Int32) × (Nat → Int32)) :=
  if (200 : Int32) ≤ v2 then
    fN_answerFor_65 N_size N_solved N_dropped N_lefts N_rights N_parents N_rules N_depths
  else
  if N_size ≤ v2 then
    fN_answerFor_65 N_size N_solved N_dropped N_lefts N_rights N_parents N_rules N_depths
  else
  if N_solved = ((-1) : Int32) then
    bd8 (fN_addChildren N_size N_solved N_dropped N_lefts N_rights N_parents N_rules N_depths v2) fun N_size_56 N_solved_56 N_dropped_56 N_lefts_56 N_rights_56 N_parents_56 N_rules_56 N_depths_56 =>
    st (v2 + (1 : Int32)) fun t59 =>
    k31 N_size_56 N_solved_56 N_dropped_56 N_lefts_56 N_rights_56 N_parents_56 N_rules_56 N_depths_56 t59
  else
  fN_answerFor_65 N_size N_solved N_dropped N_lefts N_rights N_parents N_rules N_depths
def fN_answerFor (N_lefts : Nat → Int64) (N_rights : Nat → Int64) (N_parents : Nat → Int32) (N_rules : Nat → Int32) (N_depths : Nat → Int32) (E_left : Int64) (E_right : Int64) : Option (Int32 × Int32 × Int32 × Int32 × (Nat → Int64) × (Nat → Int64) × (Nat → Int32) × (Nat → Int32) × (Nat → Int32)) :=
  bd8 (fN_addNode (0 : Int32) ((-1) : Int32) (0 : Int32) N_lefts N_rights N_parents N_rules N_depths ((-1) : Int32) (0 : Int32) E_left E_right) fun N_size_26 N_solved_26 N_dropped_26 N_lefts_26 N_rights_26 N_parents_26 N_rules_26 N_depths_26 =>
  fx9 (fN_answerFor_31) FU N_size_26 N_solved_26 N_dropped_26 N_lefts_26 N_rights_26 N_parents_26 N_rules_26 N_depths_26 (0 : Int32)
def fX_decide (E_left : Int64) (E_right : Int64) (N_lefts : Nat → Int64) (N_rights : Nat → Int64) (N_parents : Nat → Int32) (N_rules : Nat → Int32) (N_depths : Nat → Int32) : Option (Int32 × Int32 × Int32 × Int32 × (Nat → Int64) × (Nat → Int64) × (Nat → Int32) × (Nat → Int32) × (Nat → Int32)) :=
  bd9 (fN_answerFor N_lefts N_rights N_parents N_rules N_depths E_left E_right) fun t8 N_size_8 N_solved_8 N_dropped_8 N_lefts_8 N_rights_8 N_parents_8 N_rules_8 N_depths_8 =>
  some (t8, N_size_8, N_solved_8, N_dropped_8, N_lefts_8, N_rights_8, N_parents_8, N_rules_8, N_depths_8)
def fN_size (N_size : Int32) : Option (Int32) :=
  some N_size
def fX_nodeCount (E_left : Int64) (E_right : Int64) (N_lefts : Nat → Int64) (N_rights : Nat → Int64) (N_parents : Nat → Int32) (N_rules : Nat → Int32) (N_depths : Nat → Int32) : Option (Int32 × Int32 × Int32 × Int32 × (Nat → Int64) × (Nat → Int64) × (Nat → Int32) × (Nat → Int32) × (Nat → Int32)) :=
  bd9 (fN_answerFor N_lefts N_rights N_parents N_rules N_depths E_left E_right) fun t8 N_size_8 N_solved_8 N_dropped_8 N_lefts_8 N_rights_8 N_parents_8 N_rules_8 N_depths_8 =>
  bd1 (fN_size N_size_8) fun t16 =>
  some (t16, N_size_8, N_solved_8, N_dropped_8, N_lefts_8, N_rights_8, N_parents_8, N_rules_8, N_depths_8)
def fN_proofSize (N_size : Int32) (N_solved : Int32) (N_depths : Nat → Int32) : Option (Int32) :=
  bd1 (fN_isNode N_size N_solved) fun t5 =>
  if t5 = 0 then
    some (0 : Int32)
  else
  ld N_depths 200 N_solved fun t19 =>
  some t19
def fX_proofLength (E_left : Int64) (E_right : Int64) (N_lefts : Nat → Int64) (N_rights : Nat → Int64) (N_parents : Nat → Int32) (N_rules : Nat → Int32) (N_depths : Nat → Int32) : Option (Int32 × Int32 × Int32 × Int32 × (Nat → Int64) × (Nat → Int64) × (Nat → Int32) × (Nat → Int32) × (Nat → Int32)) :=
  bd9 (fN_answerFor N_lefts N_rights N_parents N_rules N_depths E_left E_right) fun t8 N_size_8 N_solved_8 N_dropped_8 N_lefts_8 N_rights_8 N_parents_8 N_rules_8 N_depths_8 =>
  if t8 = (1 : Int32) then
    bd1 (fN_proofSize N_size_8 N_solved_8 N_depths_8) fun t19 =>
    some (t19, N_size_8, N_solved_8, N_dropped_8, N_lefts_8, N_rights_8, N_parents_8, N_rules_8, N_depths_8)
  else
  some (((-9) : Int32), N_size_8, N_solved_8, N_dropped_8, N_lefts_8, N_rights_8, N_parents_8, N_rules_8, N_depths_8)
def fN_ruleOfProof_38 (N_size : Int32) (N_rules : Nat → Int32) (v2 : Int32) : Option (Int32) :=
  bd1 (fN_isNode N_size v2) fun t40 =>
  if t40 = 0 then
    some ((-9) : Int32)
  else
  ld N_rules 200 v2 fun t51 =>
  some t51
def fN_ruleOfProof_10 (N_size : Int32) (N_parents : Nat → Int32) (N_rules : Nat → Int32) (v1 : Int32) (k10 : Int32 → Int32 → Option (Int32)) (v2 : Int32) (v3 : Int32) : Option (Int32) :=
  if v3 ≤ (v1 + (1 : Int32)) then
    fN_ruleOfProof_38 N_size N_rules v2
  else
  bd1 (fN_isNode N_size v2) fun t19 =>
  if t19 = 0 then
    fN_ruleOfProof_38 N_size N_rules v2
  else
  ld N_parents 200 v2 fun t30 =>
  st (v3 + ((-1) : Int32)) fun t32 =>
  k10 t30 t32
def fN_ruleOfProof (N_size : Int32) (N_solved : Int32) (N_parents : Nat → Int32) (N_rules : Nat → Int32) (N_depths : Nat → Int32) (x1 : Int32) : Option (Int32) :=
  bd1 (fN_proofSize N_size N_solved N_depths) fun t6 =>
  fx2 (fN_ruleOfProof_10 N_size N_parents N_rules x1) FU N_solved t6
def fX_proofRule (E_left : Int64) (E_right : Int64) (N_lefts : Nat → Int64) (N_rights : Nat → Int64) (N_parents : Nat → Int32) (N_rules : Nat → Int32) (N_depths : Nat → Int32) (x1 : Int32) : Option (Int32 × Int32 × Int32 × Int32 × (Nat → Int64) × (Nat → Int64) × (Nat → Int32) × (Nat → Int32) × (Nat → Int32)) :=
  bd9 (fN_answerFor N_lefts N_rights N_parents N_rules N_depths E_left E_right) fun t8 N_size_8 N_solved_8 N_dropped_8 N_lefts_8 N_rights_8 N_parents_8 N_rules_8 N_depths_8 =>
  if t8 = (1 : Int32) then
    if x1 < 0 then
      some (((-1) : Int32), N_size_8, N_solved_8, N_dropped_8, N_lefts_8, N_rights_8, N_parents_8, N_rules_8, N_depths_8)
    else
    bd1 (fN_proofSize N_size_8 N_solved_8 N_depths_8) fun t27 =>
    if x1 < t27 then
      bd1 (fN_ruleOfProof N_size_8 N_solved_8 N_parents_8 N_rules_8 N_depths_8 x1) fun t42 =>
      some (t42, N_size_8, N_solved_8, N_dropped_8, N_lefts_8, N_rights_8, N_parents_8, N_rules_8, N_depths_8)
    else
    some (((-1) : Int32), N_size_8, N_solved_8, N_dropped_8, N_lefts_8, N_rights_8, N_parents_8, N_rules_8, N_depths_8)
  else
  some (((-9) : Int32), N_size_8, N_solved_8, N_dropped_8, N_lefts_8, N_rights_8, N_parents_8, N_rules_8, N_depths_8)
def fA_empty_2 (k2 : (Nat → Int64) → (Nat → Int32) → Int32 → Option ((Nat → Int64) × (Nat → Int32))) (A_letters : Nat → Int64) (A_lengths : Nat → Int32) (v1 : Int32) : Option ((Nat → Int64) × (Nat → Int32)) :=
  if (4 : Int32) ≤ v1 then
    some (A_letters, A_lengths)
  else
  bd1 (fZ_variable v1) fun t9 =>
  bd2 (fA_give A_letters A_lengths t9 (0 : Int64) (0 : Int32)) fun A_letters_14 A_lengths_14 =>
  st (v1 + (1 : Int32)) fun t17 =>
  k2 A_letters_14 A_lengths_14 t17
def fA_empty (A_letters : Nat → Int64) (A_lengths : Nat → Int32) : Option ((Nat → Int64) × (Nat → Int32)) :=
  fx3 (fA_empty_2) FU A_letters A_lengths (0 : Int32)
def fA_prepend (A_letters : Nat → Int64) (A_lengths : Nat → Int32) (x1 : Int32) (x2 : Int32) : Option (Int32 × (Nat → Int64) × (Nat → Int32)) :=
  bd1 (fA_lengthOf A_lengths x1) fun t2 =>
  bd1 (fA_lengthOf A_lengths x2) fun t8 =>
  st (t8 + t2) fun t13 =>
  if t13 ≤ (60 : Int32) then
    ld A_letters 8 (x2 &&& (7 : Int32)) fun t34 =>
    ld A_letters 8 (x1 &&& (7 : Int32)) fun t45 =>
    bd2 (fA_give A_letters A_lengths x1 ((shlL t34 t2) ||| t45) t13) fun A_letters_49 A_lengths_49 =>
    some ((1 : Int32), A_letters_49, A_lengths_49)
  else
  some ((0 : Int32), A_letters, A_lengths)
def fN_takeRuleBack_18 (N_size : Int32) (N_lefts : Nat → Int64) (N_rights : Nat → Int64) (N_rules : Nat → Int32) (A_letters : Nat → Int64) (A_lengths : Nat → Int32) (v1 : Int32) (s0 : Int32) : Option (Int32 × (Nat → Int64) × (Nat → Int32)) :=
  bd1 (fN_isNode N_size s0) fun t21 =>
  if t21 = 0 then
    some ((1 : Int32), A_letters, A_lengths)
  else
  ld N_lefts 200 s0 fun t34 =>
  bd1 (fZ_head t34) fun t35 =>
  ld N_rights 200 s0 fun t45 =>
  bd1 (fZ_head t45) fun t46 =>
  ld N_rules 200 v1 fun t56 =>
  if t56 = (1 : Int32) then
    bd2 (fA_give A_letters A_lengths t35 (0 : Int64) (0 : Int32)) fun A_letters_93 A_lengths_93 =>
    some ((1 : Int32), A_letters_93, A_lengths_93)
  else
  if t56 = (2 : Int32) then
    bd2 (fA_give A_letters A_lengths t46 (0 : Int64) (0 : Int32)) fun A_letters_103 A_lengths_103 =>
    some ((1 : Int32), A_letters_103, A_lengths_103)
  else
  if t56 = (3 : Int32) then
    bd3 (fA_prepend A_letters A_lengths t35 t46) fun t113 A_letters_113 A_lengths_113 =>
    ckz t113 <|
    some (t113, A_letters_113, A_lengths_113)
  else
  if t56 = (4 : Int32) then
    bd3 (fA_prepend A_letters A_lengths t46 t35) fun t122 A_letters_122 A_lengths_122 =>
    ckz t122 <|
    some (t122, A_letters_122, A_lengths_122)
  else
  some ((1 : Int32), A_letters, A_lengths)
def fN_takeRuleBack (N_size : Int32) (N_lefts : Nat → Int64) (N_rights : Nat → Int64) (N_parents : Nat → Int32) (N_rules : Nat → Int32) (A_letters : Nat → Int64) (A_lengths : Nat → Int32) (x1 : Int32) : Option (Int32 × (Nat → Int64) × (Nat → Int32)) :=
  bd1 (fN_isNode N_size x1) fun t2 =>
  if t2 = 0 then
    fN_takeRuleBack_18 N_size N_lefts N_rights N_rules A_letters A_lengths x1 ((-1) : Int32)
  else
  ld N_parents 200 x1 fun t13 =>
  fN_takeRuleBack_18 N_size N_lefts N_rights N_rules A_letters A_lengths x1 t13
def fN_buildWitness_14 (N_size : Int32) (N_lefts : Nat → Int64) (N_rights : Nat → Int64) (N_parents : Nat → Int32) (N_rules : Nat → Int32) (k14 : (Nat → Int64) → (Nat → Int32) → Int32 → Int32 → Option (Int32 × (Nat → Int64) × (Nat → Int32))) (A_letters : Nat → Int64) (A_lengths : Nat → Int32) (v2 : Int32) (v3 : Int32) : Option (Int32 × (Nat → Int64) × (Nat → Int32)) :=
  if v3 ≤ 0 then
    some ((1 : Int32), A_letters, A_lengths)
  else
  bd1 (fN_isNode N_size v2) fun t20 =>
  if t20 = 0 then
    some ((1 : Int32), A_letters, A_lengths)
  else
  bd3 (fN_takeRuleBack N_size N_lefts N_rights N_parents N_rules A_letters A_lengths v2) fun t29 A_letters_29 A_lengths_29 =>
  if t29 = 0 then
    some ((0 : Int32), A_letters_29, A_lengths_29)
  else
  ld N_parents 200 v2 fun t42 =>
  st (v3 + ((-1) : Int32)) fun t44 =>
  k14 A_letters_29 A_lengths_29 t42 t44
def fN_buildWitness (N_size : Int32) (N_solved : Int32) (N_lefts : Nat → Int64) (N_rights : Nat → Int64) (N_parents : Nat → Int32) (N_rules : Nat → Int32) (N_depths : Nat → Int32) (A_letters : Nat → Int64) (A_lengths : Nat → Int32) : Option (Int32 × (Nat → Int64) × (Nat → Int32)) :=
  bd2 (fA_empty A_letters A_lengths) fun A_letters_1 A_lengths_1 =>
  bd1 (fN_proofSize N_size N_solved N_depths) fun t10 =>
  fx4 (fN_buildWitness_14 N_size N_lefts N_rights N_parents N_rules) FU A_letters_1 A_lengths_1 N_solved t10
def fX_witnessLength (E_left : Int64) (E_right : Int64) (A_letters : Nat → Int64) (A_lengths : Nat → Int32) (N_size : Int32) (N_solved : Int32) (N_dropped : Int32) (N_lefts : Nat → Int64) (N_rights : Nat → Int64) (N_parents : Nat → Int32) (N_rules : Nat → Int32) (N_depths : Nat → Int32) (x1 : Int32) : Option (Int32 × (Nat → Int64) × (Nat → Int32) × Int32 × Int32 × Int32 × (Nat → Int64) × (Nat → Int64) × (Nat → Int32) × (Nat → Int32) × (Nat → Int32)) :=
  bd1 (fX_isVariable x1) fun t1 =>
  if t1 = 0 then
    some (((-1) : Int32), A_letters, A_lengths, N_size, N_solved, N_dropped, N_lefts, N_rights, N_parents, N_rules, N_depths)
  else
  bd9 (fN_answerFor N_lefts N_rights N_parents N_rules N_depths E_left E_right) fun t17 N_size_17 N_solved_17 N_dropped_17 N_lefts_17 N_rights_17 N_parents_17 N_rules_17 N_depths_17 =>
  if t17 = (1 : Int32) then
    bd3 (fN_buildWitness N_size_17 N_solved_17 N_lefts_17 N_rights_17 N_parents_17 N_rules_17 N_depths_17 A_letters A_lengths) fun t32 A_letters_32 A_lengths_32 =>
    if t32 = 0 then
      some (((-9) : Int32), A_letters_32, A_lengths_32, N_size_17, N_solved_17, N_dropped_17, N_lefts_17, N_rights_17, N_parents_17, N_rules_17, N_depths_17)
    else
    bd1 (fZ_variable x1) fun t46 =>
    bd1 (fA_lengthOf A_lengths_32 t46) fun t49 =>
    some (t49, A_letters_32, A_lengths_32, N_size_17, N_solved_17, N_dropped_17, N_lefts_17, N_rights_17, N_parents_17, N_rules_17, N_depths_17)
  else
  some (((-9) : Int32), A_letters, A_lengths, N_size_17, N_solved_17, N_dropped_17, N_lefts_17, N_rights_17, N_parents_17, N_rules_17, N_depths_17)
def fA_letterOf (A_letters : Nat → Int64) (A_lengths : Nat → Int32) (x1 : Int32) (x2 : Int32) : Option (Int32) :=
  bd1 (fA_lengthOf A_lengths x1) fun t2 =>
  st ((t2 - (1 : Int32)) - x2) fun t9 =>
  ld A_letters 8 (x1 &&& (7 : Int32)) fun t18 =>
  if (lg_cmp ((ushrL t18 t9) &&& (1 : Int64)) (0 : Int64)) = 0 then
    some (97 : Int32)
  else
  some (98 : Int32)
def fX_witnessLetter (E_left : Int64) (E_right : Int64) (A_letters : Nat → Int64) (A_lengths : Nat → Int32) (N_size : Int32) (N_solved : Int32) (N_dropped : Int32) (N_lefts : Nat → Int64) (N_rights : Nat → Int64) (N_parents : Nat → Int32) (N_rules : Nat → Int32) (N_depths : Nat → Int32) (x1 : Int32) (x2 : Int32) : Option (Int32 × (Nat → Int64) × (Nat → Int32) × Int32 × Int32 × Int32 × (Nat → Int64) × (Nat → Int64) × (Nat → Int32) × (Nat → Int32) × (Nat → Int32)) :=
  bd1 (fX_isVariable x1) fun t1 =>
  if t1 = 0 then
    some (((-1) : Int32), A_letters, A_lengths, N_size, N_solved, N_dropped, N_lefts, N_rights, N_parents, N_rules, N_depths)
  else
  bd9 (fN_answerFor N_lefts N_rights N_parents N_rules N_depths E_left E_right) fun t17 N_size_17 N_solved_17 N_dropped_17 N_lefts_17 N_rights_17 N_parents_17 N_rules_17 N_depths_17 =>
  if t17 = (1 : Int32) then
    bd3 (fN_buildWitness N_size_17 N_solved_17 N_lefts_17 N_rights_17 N_parents_17 N_rules_17 N_depths_17 A_letters A_lengths) fun t32 A_letters_32 A_lengths_32 =>
    if t32 = 0 then
      some (((-9) : Int32), A_letters_32, A_lengths_32, N_size_17, N_solved_17, N_dropped_17, N_lefts_17, N_rights_17, N_parents_17, N_rules_17, N_depths_17)
    else
    bd1 (fZ_variable x1) fun t42 =>
    if x2 < 0 then
      some (((-9) : Int32), A_letters_32, A_lengths_32, N_size_17, N_solved_17, N_dropped_17, N_lefts_17, N_rights_17, N_parents_17, N_rules_17, N_depths_17)
    else
    bd1 (fA_lengthOf A_lengths_32 t42) fun t56 =>
    if x2 < t56 then
      bd1 (fA_letterOf A_letters_32 A_lengths_32 t42 x2) fun t73 =>
      some (t73, A_letters_32, A_lengths_32, N_size_17, N_solved_17, N_dropped_17, N_lefts_17, N_rights_17, N_parents_17, N_rules_17, N_depths_17)
    else
    some (((-9) : Int32), A_letters_32, A_lengths_32, N_size_17, N_solved_17, N_dropped_17, N_lefts_17, N_rights_17, N_parents_17, N_rules_17, N_depths_17)
  else
  some (((-9) : Int32), A_letters, A_lengths, N_size_17, N_solved_17, N_dropped_17, N_lefts_17, N_rights_17, N_parents_17, N_rules_17, N_depths_17)
def fK_withoutLast_5 (v0 : Int32) (k5 : Int64 → Int32 → Option (Int64)) (v3 : Int64) (v5 : Int32) : Option (Int64) :=
  if v0 ≤ v5 then
    some v3
  else
  st (v3 / (1000 : Int64)) fun t16 =>
  st (v5 + (1 : Int32)) fun t17 =>
  k5 t16 t17
def fK_withoutLast (x0 : Int32) (x1 : Int64) : Option (Int64) :=
  fx2 (fK_withoutLast_5 x0) FU x1 (0 : Int32)
def fK_begin (E2_left : Int64) (E2_right : Int64) : Option (Int64 × Int64) :=
  bd2 (fE_set E2_left E2_right) fun E_left_12 E_right_12 =>
  some (E_left_12, E_right_12)
def fK_removes (E_left : Int64) (E_right : Int64) (x1 : Int32) : Option (Int32 × Int64 × Int64) :=
  bd1 (fX_isVariable x1) fun t1 =>
  if t1 = 0 then
    some ((0 : Int32), E_left, E_right)
  else
  bd1 (fZ_variable x1) fun t14 =>
  bd3 (fE_replace E_left E_right t14 (0 : Int64)) fun t18 E_left_18 E_right_18 =>
  some ((1 : Int32), E_left_18, E_right_18)
def fK_rewrites (E_left : Int64) (E_right : Int64) (x1 : Int32) : Option (Int32 × Int64 × Int64) :=
  if x1 = (100 : Int32) then
    bd2 (fE_swap E_left E_right) fun E_left_40 E_right_40 =>
    some ((1 : Int32), E_left_40, E_right_40)
  else
  if x1 = (200 : Int32) then
    bd2 (fE_turn E_left E_right) fun E_left_49 E_right_49 =>
    some ((1 : Int32), E_left_49, E_right_49)
  else
  if x1 = (300 : Int32) then
    bd3 (fE_cancelEnds E_left E_right) fun t58 E_left_58 E_right_58 =>
    some ((1 : Int32), E_left_58, E_right_58)
  else
  some ((0 : Int32), E_left, E_right)
def fK_succeeds (B_left : Int64) (B_right : Int64) (B_found : Int32) (B_least : Int32) (B_first : Nat → Int32) (Q_letterSurplus : Int32) (Q_weights : Nat → Int32) (Q_possible : Nat → Int32) (C_size : Int32) (C_variables : Nat → Int32) (C_relations : Nat → Int32) (C_numbers : Nat → Int32) (A_letters : Nat → Int64) (A_lengths : Nat → Int32) (N_size : Int32) (N_solved : Int32) (N_dropped : Int32) (N_lefts : Nat → Int64) (N_rights : Nat → Int64) (N_parents : Nat → Int32) (N_rules : Nat → Int32) (N_depths : Nat → Int32) (E_left : Int64) (E_right : Int64) (x1 : Int32) : Option (Int32 × Int64 × Int64 × Int32 × Int32 × (Nat → Int32) × Int32 × (Nat → Int32) × (Nat → Int32) × (Nat → Int64) × (Nat → Int32) × Int32 × Int32 × Int32 × (Nat → Int64) × (Nat → Int64) × (Nat → Int32) × (Nat → Int32) × (Nat → Int32) × Int64 × Int64) :=
  st (rem (x1 / (10 : Int32)) (10 : Int32)) fun t7 =>
  st (rem x1 (10 : Int32)) fun t12 =>
  if (x1 / (100 : Int32)) = (4 : Int32) then
    if t12 = 0 then
      bd3 (fK_removes E_left E_right t7) fun t58 E_left_58 E_right_58 =>
      if t58 = 0 then
        some ((0 : Int32), B_left, B_right, B_found, B_least, B_first, Q_letterSurplus, Q_weights, Q_possible, A_letters, A_lengths, N_size, N_solved, N_dropped, N_lefts, N_rights, N_parents, N_rules, N_depths, E_left_58, E_right_58)
      else
      some ((1 : Int32), B_left, B_right, B_found, B_least, B_first, Q_letterSurplus, Q_weights, Q_possible, A_letters, A_lengths, N_size, N_solved, N_dropped, N_lefts, N_rights, N_parents, N_rules, N_depths, E_left_58, E_right_58)
    else
    some ((0 : Int32), B_left, B_right, B_found, B_least, B_first, Q_letterSurplus, Q_weights, Q_possible, A_letters, A_lengths, N_size, N_solved, N_dropped, N_lefts, N_rights, N_parents, N_rules, N_depths, E_left, E_right)
  else
  if (x1 / (100 : Int32)) = (5 : Int32) then
    bd1 (fX_isSide t7) fun t71 =>
    if t71 = 0 then
      some ((0 : Int32), B_left, B_right, B_found, B_least, B_first, Q_letterSurplus, Q_weights, Q_possible, A_letters, A_lengths, N_size, N_solved, N_dropped, N_lefts, N_rights, N_parents, N_rules, N_depths, E_left, E_right)
    else
    bd1 (fE_side E_left E_right t7) fun t82 =>
    bd1 (fZ_size t82) fun t85 =>
    if t85 = t12 then
      some ((1 : Int32), B_left, B_right, B_found, B_least, B_first, Q_letterSurplus, Q_weights, Q_possible, A_letters, A_lengths, N_size, N_solved, N_dropped, N_lefts, N_rights, N_parents, N_rules, N_depths, E_left, E_right)
    else
    some ((0 : Int32), B_left, B_right, B_found, B_least, B_first, Q_letterSurplus, Q_weights, Q_possible, A_letters, A_lengths, N_size, N_solved, N_dropped, N_lefts, N_rights, N_parents, N_rules, N_depths, E_left, E_right)
  else
  if (x1 / (100 : Int32)) = (6 : Int32) then
    bd11 (fB_enumerate B_first Q_weights Q_possible C_size C_variables C_relations C_numbers A_letters A_lengths E_left E_right (2 : Int32)) fun t107 B_left_107 B_right_107 B_found_107 B_least_107 B_first_107 Q_letterSurplus_107 Q_weights_107 Q_possible_107 A_letters_107 A_lengths_107 =>
    if t107 = (rem x1 (100 : Int32)) then
      some ((1 : Int32), B_left_107, B_right_107, B_found_107, B_least_107, B_first_107, Q_letterSurplus_107, Q_weights_107, Q_possible_107, A_letters_107, A_lengths_107, N_size, N_solved, N_dropped, N_lefts, N_rights, N_parents, N_rules, N_depths, E_left, E_right)
    else
    some ((0 : Int32), B_left_107, B_right_107, B_found_107, B_least_107, B_first_107, Q_letterSurplus_107, Q_weights_107, Q_possible_107, A_letters_107, A_lengths_107, N_size, N_solved, N_dropped, N_lefts, N_rights, N_parents, N_rules, N_depths, E_left, E_right)
  else
  if (x1 / (100 : Int32)) = (7 : Int32) then
    if t7 = 0 then
      bd9 (fN_answerFor N_lefts N_rights N_parents N_rules N_depths E_left E_right) fun t135 N_size_135 N_solved_135 N_dropped_135 N_lefts_135 N_rights_135 N_parents_135 N_rules_135 N_depths_135 =>
      if t135 = t12 then
        some ((1 : Int32), B_left, B_right, B_found, B_least, B_first, Q_letterSurplus, Q_weights, Q_possible, A_letters, A_lengths, N_size_135, N_solved_135, N_dropped_135, N_lefts_135, N_rights_135, N_parents_135, N_rules_135, N_depths_135, E_left, E_right)
      else
      some ((0 : Int32), B_left, B_right, B_found, B_least, B_first, Q_letterSurplus, Q_weights, Q_possible, A_letters, A_lengths, N_size_135, N_solved_135, N_dropped_135, N_lefts_135, N_rights_135, N_parents_135, N_rules_135, N_depths_135, E_left, E_right)
    else
    some ((0 : Int32), B_left, B_right, B_found, B_least, B_first, Q_letterSurplus, Q_weights, Q_possible, A_letters, A_lengths, N_size, N_solved, N_dropped, N_lefts, N_rights, N_parents, N_rules, N_depths, E_left, E_right)
  else
  if (x1 / (100 : Int32)) = (8 : Int32) then
    bd1 (fX_isVariable t7) fun t149 =>
    if t149 = 0 then
      some ((0 : Int32), B_left, B_right, B_found, B_least, B_first, Q_letterSurplus, Q_weights, Q_possible, A_letters, A_lengths, N_size, N_solved, N_dropped, N_lefts, N_rights, N_parents, N_rules, N_depths, E_left, E_right)
    else
    bd1 (fZ_variable t7) fun t160 =>
    bd1 (fE_total E_left E_right t160) fun t163 =>
    if t163 = t12 then
      some ((1 : Int32), B_left, B_right, B_found, B_least, B_first, Q_letterSurplus, Q_weights, Q_possible, A_letters, A_lengths, N_size, N_solved, N_dropped, N_lefts, N_rights, N_parents, N_rules, N_depths, E_left, E_right)
    else
    some ((0 : Int32), B_left, B_right, B_found, B_least, B_first, Q_letterSurplus, Q_weights, Q_possible, A_letters, A_lengths, N_size, N_solved, N_dropped, N_lefts, N_rights, N_parents, N_rules, N_depths, E_left, E_right)
  else
  bd3 (fK_rewrites E_left E_right x1) fun t178 E_left_178 E_right_178 =>
  ckz t178 <|
  some (t178, B_left, B_right, B_found, B_least, B_first, Q_letterSurplus, Q_weights, Q_possible, A_letters, A_lengths, N_size, N_solved, N_dropped, N_lefts, N_rights, N_parents, N_rules, N_depths, E_left_178, E_right_178)
def fX_runScript_43 (C_size : Int32) (C_variables : Nat → Int32) (C_relations : Nat → Int32) (C_numbers : Nat → Int32) (v1 : Int32) (v2 : Int64) (k43 : Int64 → Int64 → Int32 → Int32 → (Nat → Int32) → Int32 → (Nat → Int32) → (Nat → Int32) → (Nat → Int64) → (Nat → Int32) → Int32 → Int32 → Int32 → (Nat → Int64) → (Nat → Int64) → (Nat → Int32) → (Nat → Int32) → (Nat → Int32) → Int64 → Int64 → Int32 → Option (Int32 × Int64 × Int64 × Int32 × Int32 × (Nat → Int32) × Int32 × (Nat → Int32) × (Nat → Int32) × (Nat → Int64) × (Nat → Int32) × Int32 × Int32 × Int32 × (Nat → Int64) × (Nat → Int64) × (Nat → Int32) × (Nat → Int32) × (Nat → Int32) × Int64 × Int64)) (B_left : Int64) (B_right : Int64) (B_found : Int32) (B_least : Int32) (B_first : Nat → Int32) (Q_letterSurplus : Int32) (Q_weights : Nat → Int32) (Q_possible : Nat → Int32) (A2_letters : Nat → Int64) (A2_lengths : Nat → Int32) (N_size : Int32) (N_solved : Int32) (N_dropped : Int32) (N_lefts : Nat → Int64) (N_rights : Nat → Int64) (N_parents : Nat → Int32) (N_rules : Nat → Int32) (N_depths : Nat → Int32) (E2_left : Int64) (E2_right : Int64) (v4 : Int32) : Option (Int32 × Int64 × Int64 × Int32 × Int32 × (Nat → Int32) × Int32 × (Nat → Int32) × (Nat → Int32) × (Nat → Int64) × (Nat → Int32) × Int32 × Int32 × Int32 × (Nat → Int64) × (Nat → Int64) × (Nat → Int32) × (Nat → Int32) × (Nat → Int32) × Int64 × Int64) :=
  if v1 ≤ v4 then
    some (((-9) : Int32), B_left, B_right, B_found, B_least, B_first, Q_letterSurplus, Q_weights, Q_possible, A2_letters, A2_lengths, N_size, N_solved, N_dropped, N_lefts, N_rights, N_parents, N_rules, N_depths, E2_left, E2_right)
  else
  bd1 (fK_withoutLast ((v1 - (1 : Int32)) - v4) v2) fun t60 =>
  bd21 (fK_succeeds B_left B_right B_found B_least B_first Q_letterSurplus Q_weights Q_possible C_size C_variables C_relations C_numbers A2_letters A2_lengths N_size N_solved N_dropped N_lefts N_rights N_parents N_rules N_depths E2_left E2_right (Int64.toInt32 (remL t60 (1000 : Int64)))) fun t68 B_left_68 B_right_68 B_found_68 B_least_68 B_first_68 Q_letterSurplus_68 Q_weights_68 Q_possible_68 A2_letters_68 A2_lengths_68 N_size_68 N_solved_68 N_dropped_68 N_lefts_68 N_rights_68 N_parents_68 N_rules_68 N_depths_68 E2_left_68 E2_right_68 =>
  if t68 = 0 then
    some (v4, B_left_68, B_right_68, B_found_68, B_least_68, B_first_68, Q_letterSurplus_68, Q_weights_68, Q_possible_68, A2_letters_68, A2_lengths_68, N_size_68, N_solved_68, N_dropped_68, N_lefts_68, N_rights_68, N_parents_68, N_rules_68, N_depths_68, E2_left_68, E2_right_68)
  else
  st (v4 + (1 : Int32)) fun t77 =>
  k43 B_left_68 B_right_68 B_found_68 B_least_68 B_first_68 Q_letterSurplus_68 Q_weights_68 Q_possible_68 A2_letters_68 A2_lengths_68 N_size_68 N_solved_68 N_dropped_68 N_lefts_68 N_rights_68 N_parents_68 N_rules_68 N_depths_68 E2_left_68 E2_right_68 t77
def fX_runScript (E_left : Int64) (E_right : Int64) (B_left : Int64) (B_right : Int64) (B_found : Int32) (B_least : Int32) (B_first : Nat → Int32) (Q_letterSurplus : Int32) (Q_weights : Nat → Int32) (Q_possible : Nat → Int32) (C_size : Int32) (C_variables : Nat → Int32) (C_relations : Nat → Int32) (C_numbers : Nat → Int32) (A2_letters : Nat → Int64) (A2_lengths : Nat → Int32) (N_size : Int32) (N_solved : Int32) (N_dropped : Int32) (N_lefts : Nat → Int64) (N_rights : Nat → Int64) (N_parents : Nat → Int32) (N_rules : Nat → Int32) (N_depths : Nat → Int32) (E2_left : Int64) (E2_right : Int64) (x1 : Int32) (x2 : Int64) : Option (Int32 × Int64 × Int64 × Int32 × Int32 × (Nat → Int32) × Int32 × (Nat → Int32) × (Nat → Int32) × (Nat → Int64) × (Nat → Int32) × Int32 × Int32 × Int32 × (Nat → Int64) × (Nat → Int64) × (Nat → Int32) × (Nat → Int32) × (Nat → Int32) × Int64 × Int64) :=
  if x1 < (1 : Int32) then
    some (((-2) : Int32), B_left, B_right, B_found, B_least, B_first, Q_letterSurplus, Q_weights, Q_possible, A2_letters, A2_lengths, N_size, N_solved, N_dropped, N_lefts, N_rights, N_parents, N_rules, N_depths, E2_left, E2_right)
  else
  if (4 : Int32) < x1 then
    some (((-2) : Int32), B_left, B_right, B_found, B_least, B_first, Q_letterSurplus, Q_weights, Q_possible, A2_letters, A2_lengths, N_size, N_solved, N_dropped, N_lefts, N_rights, N_parents, N_rules, N_depths, E2_left, E2_right)
  else
  if (lg_cmp x2 (0 : Int64)) < 0 then
    some (((-2) : Int32), B_left, B_right, B_found, B_least, B_first, Q_letterSurplus, Q_weights, Q_possible, A2_letters, A2_lengths, N_size, N_solved, N_dropped, N_lefts, N_rights, N_parents, N_rules, N_depths, E2_left, E2_right)
  else
  bd1 (fK_withoutLast x1 x2) fun t18 =>
  if (lg_cmp t18 (0 : Int64)) = 0 then
    bd2 (fK_begin E_left E_right) fun E2_left_37 E2_right_37 =>
    fx21 (fX_runScript_43 C_size C_variables C_relations C_numbers x1 x2) FU B_left B_right B_found B_least B_first Q_letterSurplus Q_weights Q_possible A2_letters A2_lengths N_size N_solved N_dropped N_lefts N_rights N_parents N_rules N_depths E2_left_37 E2_right_37 (0 : Int32)
  else
  some (((-2) : Int32), B_left, B_right, B_found, B_least, B_first, Q_letterSurplus, Q_weights, Q_possible, A2_letters, A2_lengths, N_size, N_solved, N_dropped, N_lefts, N_rights, N_parents, N_rules, N_depths, E2_left, E2_right)
def fX_randomChecks_24 (E_left : Int64) (E_right : Int64) (C_size : Int32) (C_variables : Nat → Int32) (C_relations : Nat → Int32) (C_numbers : Nat → Int32) (v3 : Int32) (k24 : (Nat → Int64) → (Nat → Int32) → Int64 → Int32 → Int32 → Option (Int32 × (Nat → Int64) × (Nat → Int32))) (A_letters : Nat → Int64) (A_lengths : Nat → Int32) (v4 : Int64) (v6 : Int32) (v7 : Int32) : Option (Int32 × (Nat → Int64) × (Nat → Int32)) :=
  if v3 ≤ v7 then
    some (v6, A_letters, A_lengths)
  else
  st ((v4 * (6364136223846793005 : Int64)) + (1442695040888963407 : Int64)) fun t40 =>
  st (Int64.toInt32 (ushrL t40 (33 : Int32))) fun t48 =>
  bd3 (fX_holdsFor E_left E_right A_letters A_lengths C_size C_variables C_relations C_numbers (rem t48 (15 : Int32)) (rem (t48 / (15 : Int32)) (15 : Int32)) (rem (t48 / (225 : Int32)) (15 : Int32)) (rem (t48 / (3375 : Int32)) (15 : Int32))) fun t82 A_letters_82 A_lengths_82 =>
  if t82 = 0 then
    st (v7 + (1 : Int32)) fun t91 =>
    k24 A_letters_82 A_lengths_82 t40 v6 t91
  else
  st (v6 + (1 : Int32)) fun t88 =>
  st (v7 + (1 : Int32)) fun t91 =>
  k24 A_letters_82 A_lengths_82 t40 t88 t91
def fX_randomChecks (E_left : Int64) (E_right : Int64) (A_letters : Nat → Int64) (A_lengths : Nat → Int32) (C_size : Int32) (C_variables : Nat → Int32) (C_relations : Nat → Int32) (C_numbers : Nat → Int32) (x1 : Int64) (x3 : Int32) : Option (Int32 × (Nat → Int64) × (Nat → Int32)) :=
  if x3 < (1 : Int32) then
    some (((-2) : Int32), A_letters, A_lengths)
  else
  if x3 ≤ (200 : Int32) then
    fx5 (fX_randomChecks_24 E_left E_right C_size C_variables C_relations C_numbers x3) FU A_letters A_lengths x1 (0 : Int32) (0 : Int32)
  else
  some (((-2) : Int32), A_letters, A_lengths)
def fS_has (x0 : Int32) : Option (Int32) :=
  if x0 < 0 then
    some (0 : Int32)
  else
  if (2 : Int32) ≤ x0 then
    some (0 : Int32)
  else
  some (1 : Int32)
def fS_store (S_lefts : Nat → Int64) (S_rights : Nat → Int64) (S_filled : Nat → Int32) (E_left : Int64) (E_right : Int64) (x1 : Int32) : Option ((Nat → Int64) × (Nat → Int64) × (Nat → Int32)) :=
  bd1 (fS_has x1) fun t1 =>
  if t1 = 0 then
    some (S_lefts, S_rights, S_filled)
  else
  stl S_lefts 2 x1 E_left fun S_lefts_16 =>
  stl S_rights 2 x1 E_right fun S_rights_26 =>
  sti S_filled 2 x1 (vp_nar .boolean (1 : Int32)) fun S_filled_33 =>
  some (S_lefts_16, S_rights_26, S_filled_33)
def fX_save (E_left : Int64) (E_right : Int64) (S_lefts : Nat → Int64) (S_rights : Nat → Int64) (S_filled : Nat → Int32) (x1 : Int32) : Option (Int32 × (Nat → Int64) × (Nat → Int64) × (Nat → Int32)) :=
  bd1 (fS_has x1) fun t1 =>
  if t1 = 0 then
    some (((-1) : Int32), S_lefts, S_rights, S_filled)
  else
  bd3 (fS_store S_lefts S_rights S_filled E_left E_right x1) fun S_lefts_18 S_rights_18 S_filled_18 =>
  bd1 (fE_size E_left E_right) fun t25 =>
  some (t25, S_lefts_18, S_rights_18, S_filled_18)
def fS_isFilled (S_filled : Nat → Int32) (x1 : Int32) : Option (Int32) :=
  bd1 (fS_has x1) fun t1 =>
  if t1 = 0 then
    some (0 : Int32)
  else
  ld S_filled 2 x1 fun t12 =>
  if t12 = 0 then
    some (0 : Int32)
  else
  some (1 : Int32)
def fS_fetch (S_lefts : Nat → Int64) (S_rights : Nat → Int64) (E_left : Int64) (E_right : Int64) (x1 : Int32) : Option (Int64 × Int64) :=
  bd1 (fS_has x1) fun t1 =>
  if t1 = 0 then
    some (E_left, E_right)
  else
  ld S_lefts 2 x1 fun t13 =>
  ld S_rights 2 x1 fun t19 =>
  bd2 (fE_set t13 t19) fun E_left_20 E_right_20 =>
  some (E_left_20, E_right_20)
def fX_restore (E_left : Int64) (E_right : Int64) (H_size : Int32) (S_lefts : Nat → Int64) (S_rights : Nat → Int64) (S_filled : Nat → Int32) (x1 : Int32) : Option (Int32 × Int64 × Int64 × Int32) :=
  bd1 (fS_has x1) fun t1 =>
  if t1 = 0 then
    some (((-1) : Int32), E_left, E_right, H_size)
  else
  bd1 (fS_isFilled S_filled x1) fun t14 =>
  if t14 = 0 then
    some (((-3) : Int32), E_left, E_right, H_size)
  else
  bd2 (fS_fetch S_lefts S_rights E_left E_right x1) fun E_left_32 E_right_32 =>
  bd1 (fH_forget) fun H_size_39 =>
  bd1 (fE_size E_left_32 E_right_32) fun t46 =>
  some (t46, E_left_32, E_right_32, H_size_39)
def fM_in (x0 : Int64) (x2 : Int64) (x4 : Int64) : Option (Int32) :=
  if (lg_cmp x0 x2) < 0 then
    some (0 : Int32)
  else
  if 0 < (lg_cmp x0 x4) then
    some (0 : Int32)
  else
  some (1 : Int32)
def fM_append (M_length : Int32) (M_text : Nat → Int32) (x1 : Int32) : Option (Int32 × Int32 × (Nat → Int32)) :=
  bd1 (fM_in (Int32.toInt64 x1) (0 : Int64) (255 : Int64)) fun t6 =>
  if t6 = 0 then
    some (((-2) : Int32), M_length, M_text)
  else
  if M_length = (40 : Int32) then
    some (((-4) : Int32), M_length, M_text)
  else
  sti M_text 40 M_length x1 fun M_text_36 =>
  st (M_length + (1 : Int32)) fun t44 =>
  some (t44, t44, M_text_36)
def fM_clearText (M_length : Int32) : Option (Int32 × Int32) :=
  some (M_length, (0 : Int32))
def fM_symbolOf (x0 : Int32) : Option (Int32) :=
  if x0 = (97 : Int32) then
    some (x0 - (97 : Int32))
  else
  if x0 = (98 : Int32) then
    some (x0 - (97 : Int32))
  else
  bd1 (fM_in (Int32.toInt64 x0) (87 : Int64) (90 : Int64)) fun t27 =>
  if t27 = 0 then
    some ((-9) : Int32)
  else
  some (x0 - (85 : Int32))
def fM_at (x0 : Int32) (x1 : Int32) : Option (Int32) :=
  some (((2 : Int32) + ((12 : Int32) * x0)) + x1)
def fM_takeOfConstraint (M_readMany : Int32) (M_readConstraint : Nat → Int32) (x1 : Int32) (x2 : Int32) : Option (Int32 × Int32 × (Nat → Int32)) :=
  st ((((3 : Int32) * M_readMany) + x1) - (1 : Int32)) fun t10 =>
  if x1 = 0 then
    if x2 = (59 : Int32) then
      if (4 : Int32) ≤ M_readMany then
        some ((0 : Int32), M_readMany, M_readConstraint)
      else
      some ((1 : Int32), M_readMany, M_readConstraint)
    else
    some ((0 : Int32), M_readMany, M_readConstraint)
  else
  if x1 = (1 : Int32) then
    sti M_readConstraint 12 t10 (x2 - (87 : Int32)) fun M_readConstraint_49 =>
    bd1 (fM_in (Int32.toInt64 x2) (87 : Int64) (90 : Int64)) fun t58 =>
    ckz t58 <|
    some (t58, M_readMany, M_readConstraint_49)
  else
  if x1 = (2 : Int32) then
    sti M_readConstraint 12 t10 (x2 - (60 : Int32)) fun M_readConstraint_76 =>
    bd1 (fM_in (Int32.toInt64 x2) (60 : Int64) (62 : Int64)) fun t85 =>
    ckz t85 <|
    some (t85, M_readMany, M_readConstraint_76)
  else
  sti M_readConstraint 12 t10 (x2 - (48 : Int32)) fun M_readConstraint_98 =>
  st (M_readMany + (1 : Int32)) fun t106 =>
  bd1 (fM_in (Int32.toInt64 x2) (48 : Int64) (57 : Int64)) fun t117 =>
  ckz t117 <|
  some (t117, t106, M_readConstraint_98)
def fM_readText_163 (k32 : Int32 → (Nat → Int32) → (Nat → Int32) → Int32 → Int32 → Int32 → Option (Int32 × Int32 × (Nat → Int32) × (Nat → Int32))) (M_length : Int32) (M_readMany : Int32) (M_text : Nat → Int32) (M_read : Nat → Int32) (M_readConstraint : Nat → Int32) (v1 : Int32) (v2 : Int32) (v3 : Int32) (v6 : Int32) : Option (Int32 × Int32 × (Nat → Int32) × (Nat → Int32)) :=
  if v6 = 0 then
    some (v3, M_readMany, M_read, M_readConstraint)
  else
  st (v3 + (1 : Int32)) fun t170 =>
  k32 M_readMany M_read M_readConstraint v1 v2 t170
def fM_readText_86 (k32 : Int32 → (Nat → Int32) → (Nat → Int32) → Int32 → Int32 → Int32 → Option (Int32 × Int32 × (Nat → Int32) × (Nat → Int32))) (M_length : Int32) (M_readMany : Int32) (M_text : Nat → Int32) (M_read : Nat → Int32) (M_readConstraint : Nat → Int32) (v1 : Int32) (v2 : Int32) (v3 : Int32) (v5 : Int32) (s0 : Int32) : Option (Int32 × Int32 × (Nat → Int32) × (Nat → Int32)) :=
  if s0 = 0 then
    fM_readText_163 k32 M_length M_readMany M_text M_read M_readConstraint v1 v2 v3 s0
  else
  ld M_read 26 v1 fun t103 =>
  bd1 (fM_at v1 t103) fun t104 =>
  sti M_read 26 t104 v5 fun M_read_109 =>
  ld M_read_109 26 v1 fun t116 =>
  sti M_read_109 26 v1 (t116 + (1 : Int32)) fun M_read_119 =>
  fM_readText_163 k32 M_length M_readMany M_text M_read_119 M_readConstraint v1 v2 v3 s0
def fM_readText_123 (k32 : Int32 → (Nat → Int32) → (Nat → Int32) → Int32 → Int32 → Int32 → Option (Int32 × Int32 × (Nat → Int32) × (Nat → Int32))) (M_length : Int32) (M_readMany : Int32) (M_text : Nat → Int32) (M_read : Nat → Int32) (M_readConstraint : Nat → Int32) (v1 : Int32) (v2 : Int32) (v3 : Int32) (v4 : Int32) : Option (Int32 × Int32 × (Nat → Int32) × (Nat → Int32)) :=
  if v1 = 0 then
    if v4 = (61 : Int32) then
      fM_readText_163 k32 M_length M_readMany M_text M_read M_readConstraint (1 : Int32) v2 v3 (1 : Int32)
    else
    fM_readText_163 k32 M_length M_readMany M_text M_read M_readConstraint (1 : Int32) v2 v3 (0 : Int32)
  else
  bd3 (fM_takeOfConstraint M_readMany M_readConstraint v2 v4) fun t152 M_readMany_152 M_readConstraint_152 =>
  st (rem (v2 + (1 : Int32)) (4 : Int32)) fun t162 =>
  fM_readText_163 k32 M_length M_readMany_152 M_text M_read M_readConstraint_152 (2 : Int32) t162 v3 t152
def fM_readText_32 (M_length : Int32) (M_text : Nat → Int32) (k32 : Int32 → (Nat → Int32) → (Nat → Int32) → Int32 → Int32 → Int32 → Option (Int32 × Int32 × (Nat → Int32) × (Nat → Int32))) (M_readMany : Int32) (M_read : Nat → Int32) (M_readConstraint : Nat → Int32) (v1 : Int32) (v2 : Int32) (v3 : Int32) : Option (Int32 × Int32 × (Nat → Int32) × (Nat → Int32)) :=
  if M_length ≤ v3 then
    if v1 ≤ 0 then
      some (M_length, M_readMany, M_read, M_readConstraint)
    else
    if v2 = 0 then
      some (((-9) : Int32), M_readMany, M_read, M_readConstraint)
    else
    some (M_length, M_readMany, M_read, M_readConstraint)
  else
  ld M_text 40 v3 fun t45 =>
  bd1 (fM_symbolOf t45) fun t50 =>
  if (2 : Int32) ≤ v1 then
    fM_readText_123 k32 M_length M_readMany M_text M_read M_readConstraint v1 v2 v3 t45
  else
  if t50 = ((-9) : Int32) then
    fM_readText_123 k32 M_length M_readMany M_text M_read M_readConstraint v1 v2 v3 t45
  else
  ld M_read 26 v1 fun t75 =>
  if (8 : Int32) ≤ t75 then
    fM_readText_86 k32 M_length M_readMany M_text M_read M_readConstraint v1 v2 v3 t50 (0 : Int32)
  else
  fM_readText_86 k32 M_length M_readMany M_text M_read M_readConstraint v1 v2 v3 t50 (1 : Int32)
def fM_readText_2 (M_length : Int32) (M_text : Nat → Int32) (M_readConstraint : Nat → Int32) (k2 : (Nat → Int32) → Int32 → Option (Int32 × Int32 × (Nat → Int32) × (Nat → Int32))) (M_read : Nat → Int32) (v1 : Int32) : Option (Int32 × Int32 × (Nat → Int32) × (Nat → Int32)) :=
  if (26 : Int32) ≤ v1 then
    fx6 (fM_readText_32 M_length M_text) FU (0 : Int32) M_read M_readConstraint (0 : Int32) (0 : Int32) (0 : Int32)
  else
  sti M_read 26 v1 (0 : Int32) fun M_read_14 =>
  st (v1 + (1 : Int32)) fun t15 =>
  k2 M_read_14 t15
def fM_readText (M_length : Int32) (M_text : Nat → Int32) (M_read : Nat → Int32) (M_readConstraint : Nat → Int32) : Option (Int32 × Int32 × (Nat → Int32) × (Nat → Int32)) :=
  fx2 (fM_readText_2 M_length M_text M_readConstraint) FU M_read (0 : Int32)
def fM_errorPosition (M_length : Int32) (M_text : Nat → Int32) (M_read : Nat → Int32) (M_readConstraint : Nat → Int32) : Option (Int32 × Int32 × (Nat → Int32) × (Nat → Int32)) :=
  bd4 (fM_readText M_length M_text M_read M_readConstraint) fun t1 M_readMany_1 M_read_1 M_readConstraint_1 =>
  some (t1, M_readMany_1, M_read_1, M_readConstraint_1)
def fM_copy_2 (R0 : Nat → Int32) (k2 : (Nat → Int32) → Int32 → Option ((Nat → Int32))) (R1 : Nat → Int32) (v2 : Int32) : Option ((Nat → Int32)) :=
  if (26 : Int32) ≤ v2 then
    some R1
  else
  ld R0 26 v2 fun t12 =>
  sti R1 26 v2 t12 fun R1_13 =>
  st (v2 + (1 : Int32)) fun t14 =>
  k2 R1_13 t14
def fM_copy (R0 : Nat → Int32) (R1 : Nat → Int32) : Option ((Nat → Int32)) :=
  fx2 (fM_copy_2 R0) FU R1 (0 : Int32)
def fM_load_33 (M_many : Int32) (M_readMany : Int32) (M_now : Nat → Int32) (M_read : Nat → Int32) (M_isKept : Nat → Int32) (M_readConstraint : Nat → Int32) (k33 : (Nat → Int32) → Int32 → Option (Int32 × Int32 × Int32 × Int32 × (Nat → Int32) × (Nat → Int32) × (Nat → Int32) × (Nat → Int32) × (Nat → Int32))) (M_constraint : Nat → Int32) (v1 : Int32) : Option (Int32 × Int32 × Int32 × Int32 × (Nat → Int32) × (Nat → Int32) × (Nat → Int32) × (Nat → Int32) × (Nat → Int32)) :=
  if ((3 : Int32) * M_many) ≤ v1 then
    sti M_isKept 2 (0 : Int32) (vp_nar .boolean (0 : Int32)) fun M_isKept_72 =>
    sti M_isKept_72 2 (1 : Int32) (vp_nar .boolean (0 : Int32)) fun M_isKept_79 =>
    some (M_many, (0 : Int32), M_many, M_readMany, M_now, M_read, M_isKept_79, M_constraint, M_readConstraint)
  else
  ld M_readConstraint 12 v1 fun t53 =>
  sti M_constraint 12 v1 t53 fun M_constraint_54 =>
  st (v1 + (1 : Int32)) fun t55 =>
  k33 M_constraint_54 t55
def fM_load (M_length : Int32) (M_acts : Int32) (M_many : Int32) (M_text : Nat → Int32) (M_now : Nat → Int32) (M_read : Nat → Int32) (M_isKept : Nat → Int32) (M_constraint : Nat → Int32) (M_readConstraint : Nat → Int32) : Option (Int32 × Int32 × Int32 × Int32 × (Nat → Int32) × (Nat → Int32) × (Nat → Int32) × (Nat → Int32) × (Nat → Int32)) :=
  bd4 (fM_readText M_length M_text M_read M_readConstraint) fun t1 M_readMany_1 M_read_1 M_readConstraint_1 =>
  if t1 = ((-9) : Int32) then
    bd1 (fM_copy M_read_1 M_now) fun M_now_20 =>
    fx2 (fM_load_33 M_readMany_1 M_readMany_1 M_now_20 M_read_1 M_isKept M_readConstraint_1) FU M_constraint (0 : Int32)
  else
  some (((-3) : Int32), M_acts, M_many, M_readMany_1, M_now, M_read_1, M_isKept, M_constraint, M_readConstraint_1)
def fM_sideLength (M_now : Nat → Int32) (x1 : Int32) : Option (Int32) :=
  bd1 (fM_in (Int32.toInt64 x1) (0 : Int64) (1 : Int64)) fun t4 =>
  if t4 = 0 then
    some ((-1) : Int32)
  else
  ld M_now 26 x1 fun t15 =>
  some t15
def fM_charOf (x0 : Int32) : Option (Int32) :=
  if (2 : Int32) ≤ x0 then
    some ((85 : Int32) + x0)
  else
  some ((97 : Int32) + x0)
def fM_symbolAt (M_now : Nat → Int32) (x1 : Int32) (x2 : Int32) : Option (Int32) :=
  bd1 (fM_in (Int32.toInt64 x1) (0 : Int64) (1 : Int64)) fun t4 =>
  if t4 = 0 then
    some ((-1) : Int32)
  else
  ld M_now 26 x1 fun t18 =>
  bd1 (fM_in (Int32.toInt64 x2) (0 : Int64) (Int32.toInt64 (t18 - (1 : Int32)))) fun t22 =>
  if t22 = 0 then
    some ((-1) : Int32)
  else
  bd1 (fM_at x1 x2) fun t34 =>
  ld M_now 26 t34 fun t37 =>
  bd1 (fM_charOf t37) fun t38 =>
  some t38
def fM_isVariable (x0 : Int32) : Option (Int32) :=
  bd1 (fM_in (Int32.toInt64 x0) (0 : Int64) (3 : Int64)) fun t6 =>
  ckz t6 <|
  some t6
def fM_countOf_5 (R0 : Nat → Int32) (v1 : Int32) (v2 : Int32) (k5 : Int32 → Int32 → Option (Int32)) (v3 : Int32) (v4 : Int32) : Option (Int32) :=
  ld R0 26 v1 fun t9 =>
  if t9 ≤ v4 then
    some v3
  else
  bd1 (fM_at v1 v4) fun t18 =>
  ld R0 26 t18 fun t21 =>
  if t21 = v2 then
    st (v3 + (1 : Int32)) fun t32 =>
    st (v4 + (1 : Int32)) fun t33 =>
    k5 t32 t33
  else
  st (v3 + (0 : Int32)) fun t32 =>
  st (v4 + (1 : Int32)) fun t33 =>
  k5 t32 t33
def fM_countOf (R0 : Nat → Int32) (x1 : Int32) (x2 : Int32) : Option (Int32) :=
  fx2 (fM_countOf_5 R0 x1 x2) FU (0 : Int32) (0 : Int32)
def fM_occurrences (M_now : Nat → Int32) (x1 : Int32) (x2 : Int32) : Option (Int32) :=
  bd1 (fM_in (Int32.toInt64 x1) (0 : Int64) (1 : Int64)) fun t4 =>
  if t4 = 0 then
    some ((-1) : Int32)
  else
  bd1 (fM_isVariable x2) fun t11 =>
  if t11 = 0 then
    some ((-1) : Int32)
  else
  bd1 (fM_countOf M_now x1 (x2 + (2 : Int32))) fun t25 =>
  some t25
def fM_note_68 (M_next : Int32) (M_diary : Nat → Int32) (s1 : Int32) : Option (Int32 × Int32 × (Nat → Int32)) :=
  some (s1, M_next, M_diary)
def fM_note_2 (M_acts : Int32) (M_next : Int32) (M_now : Nat → Int32) (k2 : (Nat → Int32) → Int32 → Option (Int32 × Int32 × (Nat → Int32))) (M_diary : Nat → Int32) (v1 : Int32) : Option (Int32 × Int32 × (Nat → Int32)) :=
  if (26 : Int32) ≤ v1 then
    st (rem (M_next + (1 : Int32)) (14 : Int32)) fun t44 =>
    if (14 : Int32) ≤ M_acts then
      fM_note_68 t44 M_diary (14 : Int32)
    else
    fM_note_68 t44 M_diary ((M_acts + (1 : Int32)))
  else
  ld M_now 26 v1 fun t26 =>
  sti M_diary 364 (((26 : Int32) * M_next) + v1) t26 fun M_diary_27 =>
  st (v1 + (1 : Int32)) fun t28 =>
  k2 M_diary_27 t28
def fM_note (M_acts : Int32) (M_next : Int32) (M_now : Nat → Int32) (M_diary : Nat → Int32) : Option (Int32 × Int32 × (Nat → Int32)) :=
  fx2 (fM_note_2 M_acts M_next M_now) FU M_diary (0 : Int32)
def fM_swapIn_16 (k16 : (Nat → Int32) → Int32 → Option ((Nat → Int32))) (R0 : Nat → Int32) (v2 : Int32) : Option ((Nat → Int32)) :=
  if (12 : Int32) ≤ v2 then
    some R0
  else
  bd1 (fM_at (0 : Int32) v2) fun t25 =>
  ld R0 26 t25 fun t28 =>
  bd1 (fM_at (0 : Int32) v2) fun t33 =>
  bd1 (fM_at (1 : Int32) v2) fun t39 =>
  ld R0 26 t39 fun t42 =>
  sti R0 26 t33 t42 fun R0_43 =>
  bd1 (fM_at (1 : Int32) v2) fun t47 =>
  sti R0_43 26 t47 t28 fun R0_51 =>
  st (v2 + (1 : Int32)) fun t52 =>
  k16 R0_51 t52
def fM_swapIn (R0 : Nat → Int32) : Option ((Nat → Int32)) :=
  ld R0 26 (0 : Int32) fun t2 =>
  ld R0 26 (1 : Int32) fun t8 =>
  sti R0 26 (0 : Int32) t8 fun R0_9 =>
  sti R0_9 26 (1 : Int32) t2 fun R0_13 =>
  fx2 (fM_swapIn_16) FU R0_13 (0 : Int32)
def fM_swapSides (M_acts : Int32) (M_next : Int32) (M_now : Nat → Int32) (M_diary : Nat → Int32) : Option (Int32 × Int32 × Int32 × (Nat → Int32) × (Nat → Int32)) :=
  bd3 (fM_note M_acts M_next M_now M_diary) fun M_acts_1 M_next_1 M_diary_1 =>
  bd1 (fM_swapIn M_now) fun M_now_8 =>
  ld M_now_8 26 (0 : Int32) fun t16 =>
  some (t16, M_acts_1, M_next_1, M_now_8, M_diary_1)
def fM_reverseIn_13 (k2 : (Nat → Int32) → Int32 → Option ((Nat → Int32))) (v1 : Int32) (v2 : Int32) (k13 : (Nat → Int32) → Int32 → Option ((Nat → Int32))) (R0 : Nat → Int32) (v3 : Int32) : Option ((Nat → Int32)) :=
  if (v2 / (2 : Int32)) ≤ v3 then
    st (v1 + (1 : Int32)) fun t66 =>
    k2 R0 t66
  else
  bd1 (fM_at v1 v3) fun t23 =>
  ld R0 26 t23 fun t26 =>
  bd1 (fM_at v1 v3) fun t32 =>
  bd1 (fM_at v1 ((v2 - (1 : Int32)) - v3)) fun t42 =>
  ld R0 26 t42 fun t45 =>
  sti R0 26 t32 t45 fun R0_46 =>
  bd1 (fM_at v1 ((v2 - (1 : Int32)) - v3)) fun t54 =>
  sti R0_46 26 t54 t26 fun R0_59 =>
  st (v3 + (1 : Int32)) fun t60 =>
  k13 R0_59 t60
def fM_reverseIn_2 (k2 : (Nat → Int32) → Int32 → Option ((Nat → Int32))) (R0 : Nat → Int32) (v1 : Int32) : Option ((Nat → Int32)) :=
  if (2 : Int32) ≤ v1 then
    some R0
  else
  ld R0 26 v1 fun t9 =>
  fx2 (fM_reverseIn_13 k2 v1 t9) FU R0 (0 : Int32)
def fM_reverseIn (R0 : Nat → Int32) : Option ((Nat → Int32)) :=
  fx2 (fM_reverseIn_2) FU R0 (0 : Int32)
def fM_reverse (M_acts : Int32) (M_next : Int32) (M_now : Nat → Int32) (M_diary : Nat → Int32) : Option (Int32 × Int32 × Int32 × (Nat → Int32) × (Nat → Int32)) :=
  bd3 (fM_note M_acts M_next M_now M_diary) fun M_acts_1 M_next_1 M_diary_1 =>
  bd1 (fM_reverseIn M_now) fun M_now_8 =>
  ld M_now_8 26 (0 : Int32) fun t16 =>
  ld M_now_8 26 (1 : Int32) fun t22 =>
  some ((t16 + t22), M_acts_1, M_next_1, M_now_8, M_diary_1)
def fM_dropFirst_9 (v1 : Int32) (k9 : (Nat → Int32) → Int32 → Option ((Nat → Int32))) (R0 : Nat → Int32) (v2 : Int32) : Option ((Nat → Int32)) :=
  ld R0 26 v1 fun t12 =>
  if t12 ≤ v2 then
    ld R0 26 v1 fun t42 =>
    bd1 (fM_at v1 t42) fun t43 =>
    sti R0 26 t43 (0 : Int32) fun R0_47 =>
    some R0_47
  else
  bd1 (fM_at v1 v2) fun t19 =>
  bd1 (fM_at v1 (v2 + (1 : Int32))) fun t27 =>
  ld R0 26 t27 fun t30 =>
  sti R0 26 t19 t30 fun R0_31 =>
  st (v2 + (1 : Int32)) fun t32 =>
  k9 R0_31 t32
def fM_dropFirst (R0 : Nat → Int32) (x1 : Int32) : Option ((Nat → Int32)) :=
  ld R0 26 x1 fun t3 =>
  sti R0 26 x1 (t3 - (1 : Int32)) fun R0_6 =>
  fx2 (fM_dropFirst_9 x1) FU R0_6 (0 : Int32)
def fM_cancelIn_47 (k47 : (Nat → Int32) → Int32 → Option (Int32 × (Nat → Int32))) (R0 : Nat → Int32) (v1 : Int32) : Option (Int32 × (Nat → Int32)) :=
  ld R0 26 (0 : Int32) fun t49 =>
  if t49 ≤ 0 then
    some (v1, R0)
  else
  ld R0 26 (1 : Int32) fun t55 =>
  if t55 ≤ 0 then
    some (v1, R0)
  else
  ld R0 26 (0 : Int32) fun t63 =>
  bd1 (fM_at (0 : Int32) (t63 - (1 : Int32))) fun t66 =>
  ld R0 26 t66 fun t69 =>
  ld R0 26 (1 : Int32) fun t74 =>
  bd1 (fM_at (1 : Int32) (t74 - (1 : Int32))) fun t77 =>
  ld R0 26 t77 fun t80 =>
  if t69 = t80 then
    ld R0 26 (0 : Int32) fun t87 =>
    sti R0 26 (0 : Int32) (t87 - (1 : Int32)) fun R0_90 =>
    ld R0_90 26 (1 : Int32) fun t94 =>
    sti R0_90 26 (1 : Int32) (t94 - (1 : Int32)) fun R0_97 =>
    ld R0_97 26 (0 : Int32) fun t102 =>
    bd1 (fM_at (0 : Int32) t102) fun t103 =>
    sti R0_97 26 t103 (0 : Int32) fun R0_107 =>
    ld R0_107 26 (1 : Int32) fun t112 =>
    bd1 (fM_at (1 : Int32) t112) fun t113 =>
    sti R0_107 26 t113 (0 : Int32) fun R0_117 =>
    st (v1 + (1 : Int32)) fun t118 =>
    k47 R0_117 t118
  else
  some (v1, R0)
def fM_cancelIn_2 (k2 : (Nat → Int32) → Int32 → Option (Int32 × (Nat → Int32))) (R0 : Nat → Int32) (v1 : Int32) : Option (Int32 × (Nat → Int32)) :=
  ld R0 26 (0 : Int32) fun t4 =>
  if t4 ≤ 0 then
    fx2 (fM_cancelIn_47) FU R0 v1
  else
  ld R0 26 (1 : Int32) fun t10 =>
  if t10 ≤ 0 then
    fx2 (fM_cancelIn_47) FU R0 v1
  else
  bd1 (fM_at (0 : Int32) (0 : Int32)) fun t17 =>
  ld R0 26 t17 fun t20 =>
  bd1 (fM_at (1 : Int32) (0 : Int32)) fun t24 =>
  ld R0 26 t24 fun t27 =>
  if t20 = t27 then
    bd1 (fM_dropFirst R0 (0 : Int32)) fun R0_33 =>
    bd1 (fM_dropFirst R0_33 (1 : Int32)) fun R0_38 =>
    st (v1 + (1 : Int32)) fun t41 =>
    k2 R0_38 t41
  else
  fx2 (fM_cancelIn_47) FU R0 v1
def fM_cancelIn (R0 : Nat → Int32) : Option (Int32 × (Nat → Int32)) :=
  fx2 (fM_cancelIn_2) FU R0 (0 : Int32)
def fM_cancel (M_acts : Int32) (M_next : Int32) (M_now : Nat → Int32) (M_diary : Nat → Int32) : Option (Int32 × Int32 × Int32 × (Nat → Int32) × (Nat → Int32)) :=
  bd3 (fM_note M_acts M_next M_now M_diary) fun M_acts_1 M_next_1 M_diary_1 =>
  bd2 (fM_cancelIn M_now) fun t8 M_now_8 =>
  some (t8, M_acts_1, M_next_1, M_now_8, M_diary_1)
def fM_exchangeLetters_87 (k8 : (Nat → Int32) → Int32 → Int32 → Option (Int32 × Int32 × Int32 × (Nat → Int32) × (Nat → Int32))) (k15 : (Nat → Int32) → Int32 → Int32 → Option (Int32 × Int32 × Int32 × (Nat → Int32) × (Nat → Int32))) (M_acts : Int32) (M_next : Int32) (M_now : Nat → Int32) (M_diary : Nat → Int32) (v1 : Int32) (v2 : Int32) (v3 : Int32) (s1 : Int32) (s2 : Int32) : Option (Int32 × Int32 × Int32 × (Nat → Int32) × (Nat → Int32)) :=
  sti M_now 26 s1 s2 fun M_now_87 =>
  st (v3 + (1 : Int32)) fun t88 =>
  k15 M_now_87 v1 t88
def fM_exchangeLetters_49 (k8 : (Nat → Int32) → Int32 → Int32 → Option (Int32 × Int32 × Int32 × (Nat → Int32) × (Nat → Int32))) (k15 : (Nat → Int32) → Int32 → Int32 → Option (Int32 × Int32 × Int32 × (Nat → Int32) × (Nat → Int32))) (M_acts : Int32) (M_next : Int32) (M_now : Nat → Int32) (M_diary : Nat → Int32) (v2 : Int32) (v3 : Int32) (v4 : Int32) (s0 : Int32) (s1 : Int32) : Option (Int32 × Int32 × Int32 × (Nat → Int32) × (Nat → Int32)) :=
  st (s0 + s1) fun t50 =>
  ld M_now 26 v4 fun t63 =>
  if (2 : Int32) ≤ t63 then
    ld M_now 26 v4 fun t86 =>
    fM_exchangeLetters_87 k8 k15 M_acts M_next M_now M_diary t50 v2 v3 v4 t86
  else
  ld M_now 26 v4 fun t75 =>
  fM_exchangeLetters_87 k8 k15 M_acts M_next M_now M_diary t50 v2 v3 v4 (((1 : Int32) - t75))
def fM_exchangeLetters_15 (k8 : (Nat → Int32) → Int32 → Int32 → Option (Int32 × Int32 × Int32 × (Nat → Int32) × (Nat → Int32))) (M_acts : Int32) (M_next : Int32) (M_diary : Nat → Int32) (v2 : Int32) (k15 : (Nat → Int32) → Int32 → Int32 → Option (Int32 × Int32 × Int32 × (Nat → Int32) × (Nat → Int32))) (M_now : Nat → Int32) (v1 : Int32) (v3 : Int32) : Option (Int32 × Int32 × Int32 × (Nat → Int32) × (Nat → Int32)) :=
  ld M_now 26 v2 fun t21 =>
  if t21 ≤ v3 then
    st (v2 + (1 : Int32)) fun t94 =>
    k8 M_now v1 t94
  else
  bd1 (fM_at v2 v3) fun t27 =>
  ld M_now 26 t27 fun t39 =>
  if (2 : Int32) ≤ t39 then
    fM_exchangeLetters_49 k8 k15 M_acts M_next M_now M_diary v2 v3 t27 v1 (0 : Int32)
  else
  fM_exchangeLetters_49 k8 k15 M_acts M_next M_now M_diary v2 v3 t27 v1 (1 : Int32)
def fM_exchangeLetters_8 (M_acts : Int32) (M_next : Int32) (M_diary : Nat → Int32) (k8 : (Nat → Int32) → Int32 → Int32 → Option (Int32 × Int32 × Int32 × (Nat → Int32) × (Nat → Int32))) (M_now : Nat → Int32) (v1 : Int32) (v2 : Int32) : Option (Int32 × Int32 × Int32 × (Nat → Int32) × (Nat → Int32)) :=
  if (2 : Int32) ≤ v2 then
    some (v1, M_acts, M_next, M_now, M_diary)
  else
  fx3 (fM_exchangeLetters_15 k8 M_acts M_next M_diary v2) FU M_now v1 (0 : Int32)
def fM_exchangeLetters (M_acts : Int32) (M_next : Int32) (M_now : Nat → Int32) (M_diary : Nat → Int32) : Option (Int32 × Int32 × Int32 × (Nat → Int32) × (Nat → Int32)) :=
  bd3 (fM_note M_acts M_next M_now M_diary) fun M_acts_1 M_next_1 M_diary_1 =>
  fx3 (fM_exchangeLetters_8 M_acts_1 M_next_1 M_diary_1) FU M_now (0 : Int32) (0 : Int32)
def fM_eliminateIn_70 (k10 : (Nat → Int32) → Int32 → Option (Int32 × (Nat → Int32))) (v1 : Int32) (v2 : Int32) (v3 : Int32) (v4 : Int32) (k70 : (Nat → Int32) → Int32 → Option (Int32 × (Nat → Int32))) (R0 : Nat → Int32) (v5 : Int32) : Option (Int32 × (Nat → Int32)) :=
  ld R0 26 v3 fun t74 =>
  if t74 ≤ v5 then
    sti R0 26 v3 v4 fun R0_97 =>
    st (v3 + (1 : Int32)) fun t98 =>
    k10 R0_97 t98
  else
  bd1 (fM_at v3 v5) fun t82 =>
  sti R0 26 t82 (0 : Int32) fun R0_86 =>
  st (v5 + (1 : Int32)) fun t87 =>
  k70 R0_86 t87
def fM_eliminateIn_21 (k10 : (Nat → Int32) → Int32 → Option (Int32 × (Nat → Int32))) (v1 : Int32) (v2 : Int32) (v3 : Int32) (k21 : (Nat → Int32) → Int32 → Int32 → Option (Int32 × (Nat → Int32))) (R0 : Nat → Int32) (v4 : Int32) (v5 : Int32) : Option (Int32 × (Nat → Int32)) :=
  ld R0 26 v3 fun t25 =>
  if t25 ≤ v5 then
    fx2 (fM_eliminateIn_70 k10 v1 v2 v3 v4) FU R0 v4
  else
  bd1 (fM_at v3 v5) fun t33 =>
  ld R0 26 t33 fun t36 =>
  if t36 = (v1 + (2 : Int32)) then
    st (v5 + (1 : Int32)) fun t60 =>
    k21 R0 v4 t60
  else
  bd1 (fM_at v3 v4) fun t51 =>
  sti R0 26 t51 t36 fun R0_56 =>
  st (v4 + (1 : Int32)) fun t57 =>
  st (v5 + (1 : Int32)) fun t60 =>
  k21 R0_56 t57 t60
def fM_eliminateIn_10 (v1 : Int32) (v2 : Int32) (k10 : (Nat → Int32) → Int32 → Option (Int32 × (Nat → Int32))) (R0 : Nat → Int32) (v3 : Int32) : Option (Int32 × (Nat → Int32)) :=
  if (2 : Int32) ≤ v3 then
    ld R0 26 (0 : Int32) fun t107 =>
    ld R0 26 (1 : Int32) fun t111 =>
    some (((v2 - t107) - t111), R0)
  else
  fx3 (fM_eliminateIn_21 k10 v1 v2 v3) FU R0 (0 : Int32) (0 : Int32)
def fM_eliminateIn (R0 : Nat → Int32) (x1 : Int32) : Option (Int32 × (Nat → Int32)) :=
  ld R0 26 (0 : Int32) fun t2 =>
  ld R0 26 (1 : Int32) fun t5 =>
  st (t2 + t5) fun t7 =>
  fx2 (fM_eliminateIn_10 x1 t7) FU R0 (0 : Int32)
def fM_eliminate (M_acts : Int32) (M_next : Int32) (M_now : Nat → Int32) (M_diary : Nat → Int32) (x1 : Int32) : Option (Int32 × Int32 × Int32 × (Nat → Int32) × (Nat → Int32)) :=
  bd1 (fM_isVariable x1) fun t1 =>
  if t1 = 0 then
    some (((-1) : Int32), M_acts, M_next, M_now, M_diary)
  else
  bd3 (fM_note M_acts M_next M_now M_diary) fun M_acts_10 M_next_10 M_diary_10 =>
  bd2 (fM_eliminateIn M_now x1) fun t18 M_now_18 =>
  some (t18, M_acts_10, M_next_10, M_now_18, M_diary_10)
def fM_substitute_211 (k67 : (Nat → Int32) → Int32 → Int32 → Option (Int32 × Int32 × Int32 × (Nat → Int32) × (Nat → Int32) × (Nat → Int32))) (k117 : (Nat → Int32) → Int32 → Option (Int32 × Int32 × Int32 × (Nat → Int32) × (Nat → Int32) × (Nat → Int32))) (k159 : (Nat → Int32) → Int32 → Option (Int32 × Int32 × Int32 × (Nat → Int32) × (Nat → Int32) × (Nat → Int32))) (M_length : Int32) (M_acts : Int32) (M_next : Int32) (M_text : Nat → Int32) (M_now : Nat → Int32) (M_trial : Nat → Int32) (M_diary : Nat → Int32) (v1 : Int32) (v2 : Int32) (v3 : Int32) (v5 : Int32) (v6 : Int32) (v7 : Int32) (v8 : Int32) (s1 : Int32) (s2 : Int32) : Option (Int32 × Int32 × Int32 × (Nat → Int32) × (Nat → Int32) × (Nat → Int32)) :=
  sti M_trial 26 s1 s2 fun M_trial_211 =>
  ld M_trial_211 26 v3 fun t218 =>
  sti M_trial_211 26 v3 (t218 + (1 : Int32)) fun M_trial_221 =>
  st (v8 + (1 : Int32)) fun t222 =>
  k159 M_trial_221 t222
def fM_substitute_174 (k67 : (Nat → Int32) → Int32 → Int32 → Option (Int32 × Int32 × Int32 × (Nat → Int32) × (Nat → Int32) × (Nat → Int32))) (k117 : (Nat → Int32) → Int32 → Option (Int32 × Int32 × Int32 × (Nat → Int32) × (Nat → Int32) × (Nat → Int32))) (k159 : (Nat → Int32) → Int32 → Option (Int32 × Int32 × Int32 × (Nat → Int32) × (Nat → Int32) × (Nat → Int32))) (M_length : Int32) (M_acts : Int32) (M_next : Int32) (M_text : Nat → Int32) (M_now : Nat → Int32) (M_trial : Nat → Int32) (M_diary : Nat → Int32) (v1 : Int32) (v2 : Int32) (v3 : Int32) (v5 : Int32) (v6 : Int32) (v7 : Int32) (v8 : Int32) (s0 : Int32) (s1 : Int32) : Option (Int32 × Int32 × Int32 × (Nat → Int32) × (Nat → Int32) × (Nat → Int32)) :=
  if s1 ≤ s0 then
    st (v5 + (1 : Int32)) fun t228 =>
    k117 M_trial t228
  else
  ld M_trial 26 v3 fun t187 =>
  bd1 (fM_at v3 t187) fun t188 =>
  if v7 = 0 then
    fM_substitute_211 k67 k117 k159 M_length M_acts M_next M_text M_now M_trial M_diary v1 v2 v3 v5 v6 v7 v8 t188 v6
  else
  ld M_text 40 v8 fun t202 =>
  bd1 (fM_symbolOf t202) fun t203 =>
  fM_substitute_211 k67 k117 k159 M_length M_acts M_next M_text M_now M_trial M_diary v1 v2 v3 v5 v6 v7 v8 t188 t203
def fM_substitute_159 (k67 : (Nat → Int32) → Int32 → Int32 → Option (Int32 × Int32 × Int32 × (Nat → Int32) × (Nat → Int32) × (Nat → Int32))) (k117 : (Nat → Int32) → Int32 → Option (Int32 × Int32 × Int32 × (Nat → Int32) × (Nat → Int32) × (Nat → Int32))) (M_length : Int32) (M_acts : Int32) (M_next : Int32) (M_text : Nat → Int32) (M_now : Nat → Int32) (M_diary : Nat → Int32) (v1 : Int32) (v2 : Int32) (v3 : Int32) (v5 : Int32) (v6 : Int32) (v7 : Int32) (k159 : (Nat → Int32) → Int32 → Option (Int32 × Int32 × Int32 × (Nat → Int32) × (Nat → Int32) × (Nat → Int32))) (M_trial : Nat → Int32) (v8 : Int32) : Option (Int32 × Int32 × Int32 × (Nat → Int32) × (Nat → Int32) × (Nat → Int32)) :=
  if v7 = 0 then
    fM_substitute_174 k67 k117 k159 M_length M_acts M_next M_text M_now M_trial M_diary v1 v2 v3 v5 v6 v7 v8 v8 (1 : Int32)
  else
  fM_substitute_174 k67 k117 k159 M_length M_acts M_next M_text M_now M_trial M_diary v1 v2 v3 v5 v6 v7 v8 v8 M_length
def fM_substitute_117 (k67 : (Nat → Int32) → Int32 → Int32 → Option (Int32 × Int32 × Int32 × (Nat → Int32) × (Nat → Int32) × (Nat → Int32))) (M_length : Int32) (M_acts : Int32) (M_next : Int32) (M_text : Nat → Int32) (M_now : Nat → Int32) (M_diary : Nat → Int32) (v1 : Int32) (v2 : Int32) (v3 : Int32) (k117 : (Nat → Int32) → Int32 → Option (Int32 × Int32 × Int32 × (Nat → Int32) × (Nat → Int32) × (Nat → Int32))) (M_trial : Nat → Int32) (v5 : Int32) : Option (Int32 × Int32 × Int32 × (Nat → Int32) × (Nat → Int32) × (Nat → Int32)) :=
  ld M_now 26 v3 fun t124 =>
  if t124 ≤ v5 then
    st (v3 + (1 : Int32)) fun t234 =>
    k67 M_trial v2 t234
  else
  bd1 (fM_at v3 v5) fun t135 =>
  ld M_now 26 t135 fun t138 =>
  if t138 = (v1 + (2 : Int32)) then
    fx2 (fM_substitute_159 k67 k117 M_length M_acts M_next M_text M_now M_diary v1 v2 v3 v5 t138 (1 : Int32)) FU M_trial (0 : Int32)
  else
  fx2 (fM_substitute_159 k67 k117 M_length M_acts M_next M_text M_now M_diary v1 v2 v3 v5 t138 (0 : Int32)) FU M_trial (0 : Int32)
def fM_substitute_67 (M_length : Int32) (M_acts : Int32) (M_next : Int32) (M_text : Nat → Int32) (M_now : Nat → Int32) (M_diary : Nat → Int32) (v1 : Int32) (k67 : (Nat → Int32) → Int32 → Int32 → Option (Int32 × Int32 × Int32 × (Nat → Int32) × (Nat → Int32) × (Nat → Int32))) (M_trial : Nat → Int32) (v2 : Int32) (v3 : Int32) : Option (Int32 × Int32 × Int32 × (Nat → Int32) × (Nat → Int32) × (Nat → Int32)) :=
  if (2 : Int32) ≤ v3 then
    bd3 (fM_note M_acts M_next M_now M_diary) fun M_acts_241 M_next_241 M_diary_241 =>
    bd1 (fM_copy M_trial M_now) fun M_now_252 =>
    some (v2, M_acts_241, M_next_241, M_now_252, M_trial, M_diary_241)
  else
  bd1 (fM_countOf M_now v3 (v1 + (2 : Int32))) fun t80 =>
  ld M_now 26 v3 fun t90 =>
  if (t90 + (t80 * (M_length - (1 : Int32)))) ≤ (12 : Int32) then
    st (v2 + t80) fun t113 =>
    fx2 (fM_substitute_117 k67 M_length M_acts M_next M_text M_now M_diary v1 t113 v3) FU M_trial (0 : Int32)
  else
  some (((-4) : Int32), M_acts, M_next, M_now, M_trial, M_diary)
def fM_substitute_46 (M_length : Int32) (M_acts : Int32) (M_next : Int32) (M_text : Nat → Int32) (M_now : Nat → Int32) (M_diary : Nat → Int32) (v1 : Int32) (v2 : Int32) (k46 : (Nat → Int32) → Int32 → Option (Int32 × Int32 × Int32 × (Nat → Int32) × (Nat → Int32) × (Nat → Int32))) (M_trial : Nat → Int32) (v3 : Int32) : Option (Int32 × Int32 × Int32 × (Nat → Int32) × (Nat → Int32) × (Nat → Int32)) :=
  if (26 : Int32) ≤ v3 then
    fx3 (fM_substitute_67 M_length M_acts M_next M_text M_now M_diary v1) FU M_trial v2 (0 : Int32)
  else
  sti M_trial 26 v3 (0 : Int32) fun M_trial_58 =>
  st (v3 + (1 : Int32)) fun t59 =>
  k46 M_trial_58 t59
def fM_substitute_11 (M_length : Int32) (M_acts : Int32) (M_next : Int32) (M_text : Nat → Int32) (M_now : Nat → Int32) (M_trial : Nat → Int32) (M_diary : Nat → Int32) (v1 : Int32) (k11 : Int32 → Option (Int32 × Int32 × Int32 × (Nat → Int32) × (Nat → Int32) × (Nat → Int32))) (v2 : Int32) : Option (Int32 × Int32 × Int32 × (Nat → Int32) × (Nat → Int32) × (Nat → Int32)) :=
  if M_length ≤ v2 then
    fx2 (fM_substitute_46 M_length M_acts M_next M_text M_now M_diary v1 (0 : Int32)) FU M_trial (0 : Int32)
  else
  ld M_text 40 v2 fun t24 =>
  bd1 (fM_symbolOf t24) fun t25 =>
  if t25 = ((-9) : Int32) then
    some (((-3) : Int32), M_acts, M_next, M_now, M_trial, M_diary)
  else
  st (v2 + (1 : Int32)) fun t36 =>
  k11 t36
def fM_substitute (M_length : Int32) (M_acts : Int32) (M_next : Int32) (M_text : Nat → Int32) (M_now : Nat → Int32) (M_trial : Nat → Int32) (M_diary : Nat → Int32) (x1 : Int32) : Option (Int32 × Int32 × Int32 × (Nat → Int32) × (Nat → Int32) × (Nat → Int32)) :=
  bd1 (fM_isVariable x1) fun t1 =>
  if t1 = 0 then
    some (((-1) : Int32), M_acts, M_next, M_now, M_trial, M_diary)
  else
  fx1 (fM_substitute_11 M_length M_acts M_next M_text M_now M_trial M_diary x1) FU (0 : Int32)
def fM_undo_38 (M_acts : Int32) (M_next : Int32) (M_diary : Nat → Int32) (k38 : (Nat → Int32) → Int32 → Option (Int32 × Int32 × Int32 × (Nat → Int32))) (M_now : Nat → Int32) (v1 : Int32) : Option (Int32 × Int32 × Int32 × (Nat → Int32)) :=
  if (26 : Int32) ≤ v1 then
    some (M_acts, M_acts, M_next, M_now)
  else
  ld M_diary 364 (((26 : Int32) * M_next) + v1) fun t62 =>
  sti M_now 26 v1 t62 fun M_now_63 =>
  st (v1 + (1 : Int32)) fun t64 =>
  k38 M_now_63 t64
def fM_undo (M_acts : Int32) (M_next : Int32) (M_now : Nat → Int32) (M_diary : Nat → Int32) : Option (Int32 × Int32 × Int32 × (Nat → Int32)) :=
  if M_acts = 0 then
    some (((-3) : Int32), M_acts, M_next, M_now)
  else
  st (M_acts - (1 : Int32)) fun t17 =>
  st (rem ((M_next + (14 : Int32)) - (1 : Int32)) (14 : Int32)) fun t33 =>
  fx2 (fM_undo_38 t17 t33 M_diary) FU M_now (0 : Int32)
def fM_lengthOf_2 (v0 : Int32) (k2 : Int32 → Option (Int32)) (v1 : Int32) : Option (Int32) :=
  if v0 < ((shl (2 : Int32) v1) - (1 : Int32)) then
    some v1
  else
  st (v1 + (1 : Int32)) fun t11 =>
  k2 t11
def fM_lengthOf (x0 : Int32) : Option (Int32) :=
  fx1 (fM_lengthOf_2 x0) FU (0 : Int32)
def fM_holds_90 (k5 : Int32 → Int32 → Option (Int32)) (M_many : Int32) (M_constraint : Nat → Int32) (v1 : Int32) (v2 : Int32) (v3 : Int32) (v4 : Int32) (s0 : Int32) : Option (Int32) :=
  if v3 = 0 then
    st (v4 + (1 : Int32)) fun t120 =>
    k5 (0 : Int32) t120
  else
  ld M_constraint 12 ((3 : Int32) * v4) fun t104 =>
  if t104 = v1 then
    if s0 = 0 then
      st (v4 + (1 : Int32)) fun t120 =>
      k5 (0 : Int32) t120
    else
    st (v4 + (1 : Int32)) fun t120 =>
    k5 (1 : Int32) t120
  else
  st (v4 + (1 : Int32)) fun t120 =>
  k5 (1 : Int32) t120
def fM_holds_5 (M_many : Int32) (M_constraint : Nat → Int32) (v1 : Int32) (v2 : Int32) (k5 : Int32 → Int32 → Option (Int32)) (v3 : Int32) (v4 : Int32) : Option (Int32) :=
  if M_many ≤ v4 then
    ckz v3 <|
    some v3
  else
  ld M_constraint 12 (((3 : Int32) * v4) + (2 : Int32)) fun t24 =>
  ld M_constraint 12 (((3 : Int32) * v4) + (1 : Int32)) fun t37 =>
  if t37 = 0 then
    if t24 ≤ v2 then
      fM_holds_90 k5 M_many M_constraint v1 v2 v3 v4 (0 : Int32)
    else
    fM_holds_90 k5 M_many M_constraint v1 v2 v3 v4 (1 : Int32)
  else
  if t37 = (1 : Int32) then
    if v2 = t24 then
      fM_holds_90 k5 M_many M_constraint v1 v2 v3 v4 (1 : Int32)
    else
    fM_holds_90 k5 M_many M_constraint v1 v2 v3 v4 (0 : Int32)
  else
  if v2 ≤ t24 then
    fM_holds_90 k5 M_many M_constraint v1 v2 v3 v4 (0 : Int32)
  else
  fM_holds_90 k5 M_many M_constraint v1 v2 v3 v4 (1 : Int32)
def fM_holds (M_many : Int32) (M_constraint : Nat → Int32) (x1 : Int32) (x2 : Int32) : Option (Int32) :=
  fx2 (fM_holds_5 M_many M_constraint x1 x2) FU (1 : Int32) (0 : Int32)
def fM_isSolution_153 (k44 : (Nat → Int32) → (Nat → Int32) → Int32 → Option (Int32 × (Nat → Int32) × (Nat → Int32))) (k63 : (Nat → Int32) → (Nat → Int32) → Int32 → Option (Int32 × (Nat → Int32) × (Nat → Int32))) (M_number : Nat → Int32) (R1 : Nat → Int32) (v2 : Int32) (v3 : Int32) (v4 : Int32) (v8 : Int32) (k153 : (Nat → Int32) → (Nat → Int32) → Int32 → Option (Int32 × (Nat → Int32) × (Nat → Int32))) (M_word : Nat → Int32) (M_size : Nat → Int32) (v9 : Int32) : Option (Int32 × (Nat → Int32) × (Nat → Int32)) :=
  if v9 < 0 then
    st (v4 + (1 : Int32)) fun t197 =>
    k63 M_word M_size t197
  else
  ld M_size 2 v3 fun t171 =>
  sti M_word 120 (((60 : Int32) * v3) + t171) ((shr v8 v9) &&& (1 : Int32)) fun M_word_180 =>
  ld M_size 2 v3 fun t187 =>
  sti M_size 2 v3 (t187 + (1 : Int32)) fun M_size_190 =>
  st (v9 + ((-1) : Int32)) fun t191 =>
  k153 M_word_180 M_size_190 t191
def fM_isSolution_63 (k44 : (Nat → Int32) → (Nat → Int32) → Int32 → Option (Int32 × (Nat → Int32) × (Nat → Int32))) (M_number : Nat → Int32) (R1 : Nat → Int32) (v2 : Int32) (v3 : Int32) (k63 : (Nat → Int32) → (Nat → Int32) → Int32 → Option (Int32 × (Nat → Int32) × (Nat → Int32))) (M_word : Nat → Int32) (M_size : Nat → Int32) (v4 : Int32) : Option (Int32 × (Nat → Int32) × (Nat → Int32)) :=
  ld R1 26 v3 fun t67 =>
  if t67 ≤ v4 then
    st (v3 + (1 : Int32)) fun t203 =>
    k44 M_word M_size t203
  else
  bd1 (fM_at v3 v4) fun t75 =>
  ld R1 26 t75 fun t78 =>
  if (2 : Int32) ≤ t78 then
    ld M_number 4 (t78 - (2 : Int32)) fun t126 =>
    bd1 (fM_lengthOf t126) fun t131 =>
    st ((t126 + (1 : Int32)) - (shl (1 : Int32) t131)) fun t145 =>
    st (t131 - (1 : Int32)) fun t151 =>
    fx3 (fM_isSolution_153 k44 k63 M_number R1 v2 v3 v4 t145) FU M_word M_size t151
  else
  ld M_size 2 v3 fun t100 =>
  sti M_word 120 (((60 : Int32) * v3) + t100) t78 fun M_word_104 =>
  ld M_size 2 v3 fun t111 =>
  sti M_size 2 v3 (t111 + (1 : Int32)) fun M_size_114 =>
  st (v4 + (1 : Int32)) fun t197 =>
  k63 M_word_104 M_size_114 t197
def fM_isSolution_236 (M_word : Nat → Int32) (M_size : Nat → Int32) (k236 : Int32 → Int32 → Option (Int32 × (Nat → Int32) × (Nat → Int32))) (v2 : Int32) (v3 : Int32) : Option (Int32 × (Nat → Int32) × (Nat → Int32)) :=
  if v2 = 0 then
    ckz v2 <|
    some (v2, M_word, M_size)
  else
  ld M_size 2 (0 : Int32) fun t246 =>
  if t246 ≤ v3 then
    ckz v2 <|
    some (v2, M_word, M_size)
  else
  ld M_word 120 v3 fun t255 =>
  ld M_word 120 ((60 : Int32) + v3) fun t264 =>
  if t255 = t264 then
    st (v3 + (1 : Int32)) fun t274 =>
    k236 (1 : Int32) t274
  else
  st (v3 + (1 : Int32)) fun t274 =>
  k236 (0 : Int32) t274
def fM_isSolution_209 (M_word : Nat → Int32) (M_size : Nat → Int32) (v2 : Int32) : Option (Int32 × (Nat → Int32) × (Nat → Int32)) :=
  if v2 = 0 then
    fx2 (fM_isSolution_236 M_word M_size) FU (0 : Int32) (0 : Int32)
  else
  ld M_size 2 (0 : Int32) fun t218 =>
  ld M_size 2 (1 : Int32) fun t224 =>
  if t218 = t224 then
    fx2 (fM_isSolution_236 M_word M_size) FU (1 : Int32) (0 : Int32)
  else
  fx2 (fM_isSolution_236 M_word M_size) FU (0 : Int32) (0 : Int32)
def fM_isSolution_44 (M_number : Nat → Int32) (R1 : Nat → Int32) (v2 : Int32) (k44 : (Nat → Int32) → (Nat → Int32) → Int32 → Option (Int32 × (Nat → Int32) × (Nat → Int32))) (M_word : Nat → Int32) (M_size : Nat → Int32) (v3 : Int32) : Option (Int32 × (Nat → Int32) × (Nat → Int32)) :=
  if (2 : Int32) ≤ v3 then
    fM_isSolution_209 M_word M_size v2
  else
  if v2 = 0 then
    fM_isSolution_209 M_word M_size v2
  else
  sti M_size 2 v3 (0 : Int32) fun M_size_59 =>
  fx3 (fM_isSolution_63 k44 M_number R1 v2 v3) FU M_word M_size_59 (0 : Int32)
def fM_isSolution_4 (M_many : Int32) (M_constraint : Nat → Int32) (M_word : Nat → Int32) (M_size : Nat → Int32) (M_number : Nat → Int32) (R1 : Nat → Int32) (k4 : Int32 → Int32 → Option (Int32 × (Nat → Int32) × (Nat → Int32))) (v2 : Int32) (v3 : Int32) : Option (Int32 × (Nat → Int32) × (Nat → Int32)) :=
  if (4 : Int32) ≤ v3 then
    fx3 (fM_isSolution_44 M_number R1 v2) FU M_word M_size (0 : Int32)
  else
  if v2 = 0 then
    st (v3 + (1 : Int32)) fun t36 =>
    k4 (0 : Int32) t36
  else
  ld M_number 4 v3 fun t20 =>
  bd1 (fM_lengthOf t20) fun t21 =>
  bd1 (fM_holds M_many M_constraint v3 t21) fun t24 =>
  if t24 = 0 then
    st (v3 + (1 : Int32)) fun t36 =>
    k4 (0 : Int32) t36
  else
  st (v3 + (1 : Int32)) fun t36 =>
  k4 (1 : Int32) t36
def fM_isSolution (M_many : Int32) (M_constraint : Nat → Int32) (M_word : Nat → Int32) (M_size : Nat → Int32) (M_number : Nat → Int32) (R1 : Nat → Int32) : Option (Int32 × (Nat → Int32) × (Nat → Int32)) :=
  fx2 (fM_isSolution_4 M_many M_constraint M_word M_size M_number R1) FU (1 : Int32) (0 : Int32)
def fM_satisfies (M_many : Int32) (M_now : Nat → Int32) (M_constraint : Nat → Int32) (M_word : Nat → Int32) (M_size : Nat → Int32) (M_number : Nat → Int32) (x1 : Int32) (x2 : Int32) (x3 : Int32) (x4 : Int32) : Option (Int32 × (Nat → Int32) × (Nat → Int32) × (Nat → Int32)) :=
  bd1 (fM_in (Int32.toInt64 x1) (0 : Int64) (62 : Int64)) fun t6 =>
  if t6 = 0 then
    some (((-2) : Int32), M_word, M_size, M_number)
  else
  bd1 (fM_in (Int32.toInt64 x2) (0 : Int64) (62 : Int64)) fun t18 =>
  if t18 = 0 then
    some (((-2) : Int32), M_word, M_size, M_number)
  else
  bd1 (fM_in (Int32.toInt64 x3) (0 : Int64) (62 : Int64)) fun t30 =>
  if t30 = 0 then
    some (((-2) : Int32), M_word, M_size, M_number)
  else
  bd1 (fM_in (Int32.toInt64 x4) (0 : Int64) (62 : Int64)) fun t43 =>
  if t43 = 0 then
    some (((-2) : Int32), M_word, M_size, M_number)
  else
  sti M_number 4 (0 : Int32) x1 fun M_number_58 =>
  sti M_number_58 4 (1 : Int32) x2 fun M_number_65 =>
  sti M_number_65 4 (2 : Int32) x3 fun M_number_72 =>
  sti M_number_72 4 (3 : Int32) x4 fun M_number_80 =>
  bd3 (fM_isSolution M_many M_constraint M_word M_size M_number_80 M_now) fun t86 M_word_86 M_size_86 =>
  if t86 = 0 then
    some ((0 : Int32), M_word_86, M_size_86, M_number_80)
  else
  some ((1 : Int32), M_word_86, M_size_86, M_number_80)
def fM_isUsed (R0 : Nat → Int32) (x1 : Int32) : Option (Int32) :=
  bd1 (fM_countOf R0 (0 : Int32) (x1 + (2 : Int32))) fun t5 =>
  bd1 (fM_countOf R0 (1 : Int32) (x1 + (2 : Int32))) fun t13 =>
  if (t5 + t13) ≤ 0 then
    some (0 : Int32)
  else
  some (1 : Int32)
def fM_goOn_26 (k2 : (Nat → Int32) → Int32 → Option (Int32 × (Nat → Int32))) (M_number : Nat → Int32) (R1 : Nat → Int32) (v2 : Int32) (v3 : Int32) : Option (Int32 × (Nat → Int32)) :=
  sti M_number 4 v3 (0 : Int32) fun M_number_32 =>
  st (v3 + ((-1) : Int32)) fun t33 =>
  k2 M_number_32 t33
def fM_goOn_53 (M_number : Nat → Int32) (v3 : Int32) : Option (Int32 × (Nat → Int32)) :=
  if v3 < 0 then
    some ((0 : Int32), M_number)
  else
  some ((1 : Int32), M_number)
def fM_goOn_39 (M_number : Nat → Int32) (v3 : Int32) : Option (Int32 × (Nat → Int32)) :=
  if v3 < 0 then
    fM_goOn_53 M_number v3
  else
  ld M_number 4 v3 fun t49 =>
  sti M_number 4 v3 (t49 + (1 : Int32)) fun M_number_52 =>
  fM_goOn_53 M_number_52 v3
def fM_goOn_2 (R1 : Nat → Int32) (v2 : Int32) (k2 : (Nat → Int32) → Int32 → Option (Int32 × (Nat → Int32))) (M_number : Nat → Int32) (v3 : Int32) : Option (Int32 × (Nat → Int32)) :=
  if v3 < 0 then
    fM_goOn_39 M_number v3
  else
  bd1 (fM_isUsed R1 v3) fun t8 =>
  if t8 = 0 then
    fM_goOn_26 k2 M_number R1 v2 v3
  else
  ld M_number 4 v3 fun t19 =>
  if t19 = (v2 - (1 : Int32)) then
    fM_goOn_26 k2 M_number R1 v2 v3
  else
  fM_goOn_39 M_number v3
def fM_goOn (M_number : Nat → Int32) (R1 : Nat → Int32) (x2 : Int32) : Option (Int32 × (Nat → Int32)) :=
  fx2 (fM_goOn_2 R1 x2) FU M_number (3 : Int32)
def fM_lookThrough_102 (k33 : Int32 → Int32 → (Nat → Int32) → (Nat → Int32) → (Nat → Int32) → (Nat → Int32) → Int32 → Option (Int32 × Int32 × (Nat → Int32) × (Nat → Int32) × (Nat → Int32) × (Nat → Int32))) (k51 : (Nat → Int32) → Int32 → Int32 → Option (Int32 × Int32 × (Nat → Int32) × (Nat → Int32) × (Nat → Int32) × (Nat → Int32))) (M_many : Int32) (M_found : Int32) (M_shortest : Int32) (M_constraint : Nat → Int32) (M_word : Nat → Int32) (M_size : Nat → Int32) (M_number : Nat → Int32) (M_firstOne : Nat → Int32) (R1 : Nat → Int32) (v2 : Int32) (v4 : Int32) (v5 : Int32) (s1 : Int32) (s2 : Int32) : Option (Int32 × Int32 × (Nat → Int32) × (Nat → Int32) × (Nat → Int32) × (Nat → Int32)) :=
  sti M_firstOne 4 s1 s2 fun M_firstOne_102 =>
  st (v5 + (1 : Int32)) fun t103 =>
  k51 M_firstOne_102 v4 t103
def fM_lookThrough_148 (k33 : Int32 → Int32 → (Nat → Int32) → (Nat → Int32) → (Nat → Int32) → (Nat → Int32) → Int32 → Option (Int32 × Int32 × (Nat → Int32) × (Nat → Int32) × (Nat → Int32) × (Nat → Int32))) (M_many : Int32) (M_found : Int32) (M_shortest : Int32) (M_constraint : Nat → Int32) (M_word : Nat → Int32) (M_size : Nat → Int32) (M_number : Nat → Int32) (M_firstOne : Nat → Int32) (R1 : Nat → Int32) (v2 : Int32) : Option (Int32 × Int32 × (Nat → Int32) × (Nat → Int32) × (Nat → Int32) × (Nat → Int32)) :=
  bd2 (fM_goOn M_number R1 ((shl (2 : Int32) v2) - (1 : Int32))) fun t155 M_number_155 =>
  k33 M_found M_shortest M_word M_size M_number_155 M_firstOne t155
def fM_lookThrough_135 (k33 : Int32 → Int32 → (Nat → Int32) → (Nat → Int32) → (Nat → Int32) → (Nat → Int32) → Int32 → Option (Int32 × Int32 × (Nat → Int32) × (Nat → Int32) × (Nat → Int32) × (Nat → Int32))) (M_many : Int32) (M_found : Int32) (M_constraint : Nat → Int32) (M_word : Nat → Int32) (M_size : Nat → Int32) (M_number : Nat → Int32) (M_firstOne : Nat → Int32) (R1 : Nat → Int32) (v2 : Int32) (s1 : Int32) : Option (Int32 × Int32 × (Nat → Int32) × (Nat → Int32) × (Nat → Int32) × (Nat → Int32)) :=
  st (M_found + (1 : Int32)) fun t145 =>
  fM_lookThrough_148 k33 M_many t145 s1 M_constraint M_word M_size M_number M_firstOne R1 v2
def fM_lookThrough_51 (k33 : Int32 → Int32 → (Nat → Int32) → (Nat → Int32) → (Nat → Int32) → (Nat → Int32) → Int32 → Option (Int32 × Int32 × (Nat → Int32) × (Nat → Int32) × (Nat → Int32) × (Nat → Int32))) (M_many : Int32) (M_found : Int32) (M_shortest : Int32) (M_constraint : Nat → Int32) (M_word : Nat → Int32) (M_size : Nat → Int32) (M_number : Nat → Int32) (R1 : Nat → Int32) (v2 : Int32) (k51 : (Nat → Int32) → Int32 → Int32 → Option (Int32 × Int32 × (Nat → Int32) × (Nat → Int32) × (Nat → Int32) × (Nat → Int32))) (M_firstOne : Nat → Int32) (v4 : Int32) (v5 : Int32) : Option (Int32 × Int32 × (Nat → Int32) × (Nat → Int32) × (Nat → Int32) × (Nat → Int32)) :=
  if (4 : Int32) ≤ v5 then
    if M_found = 0 then
      fM_lookThrough_135 k33 M_many M_found M_constraint M_word M_size M_number M_firstOne R1 v2 v4
    else
    if M_shortest ≤ v4 then
      fM_lookThrough_135 k33 M_many M_found M_constraint M_word M_size M_number M_firstOne R1 v2 M_shortest
    else
    fM_lookThrough_135 k33 M_many M_found M_constraint M_word M_size M_number M_firstOne R1 v2 v4
  else
  ld M_number 4 v5 fun t65 =>
  bd1 (fM_lengthOf t65) fun t66 =>
  st (v4 + t66) fun t70 =>
  if M_found = 0 then
    ld M_number 4 v5 fun t91 =>
    fM_lookThrough_102 k33 k51 M_many M_found M_shortest M_constraint M_word M_size M_number M_firstOne R1 v2 t70 v5 v5 t91
  else
  ld M_firstOne 4 v5 fun t101 =>
  fM_lookThrough_102 k33 k51 M_many M_found M_shortest M_constraint M_word M_size M_number M_firstOne R1 v2 t70 v5 v5 t101
def fM_lookThrough_33 (M_many : Int32) (M_constraint : Nat → Int32) (R1 : Nat → Int32) (v2 : Int32) (k33 : Int32 → Int32 → (Nat → Int32) → (Nat → Int32) → (Nat → Int32) → (Nat → Int32) → Int32 → Option (Int32 × Int32 × (Nat → Int32) × (Nat → Int32) × (Nat → Int32) × (Nat → Int32))) (M_found : Int32) (M_shortest : Int32) (M_word : Nat → Int32) (M_size : Nat → Int32) (M_number : Nat → Int32) (M_firstOne : Nat → Int32) (v3 : Int32) : Option (Int32 × Int32 × (Nat → Int32) × (Nat → Int32) × (Nat → Int32) × (Nat → Int32)) :=
  if v3 = 0 then
    some (M_found, M_shortest, M_word, M_size, M_number, M_firstOne)
  else
  bd3 (fM_isSolution M_many M_constraint M_word M_size M_number R1) fun t39 M_word_39 M_size_39 =>
  if t39 = 0 then
    fM_lookThrough_148 k33 M_many M_found M_shortest M_constraint M_word_39 M_size_39 M_number M_firstOne R1 v2
  else
  fx3 (fM_lookThrough_51 k33 M_many M_found M_shortest M_constraint M_word_39 M_size_39 M_number R1 v2) FU M_firstOne (0 : Int32) (0 : Int32)
def fM_lookThrough_13 (M_many : Int32) (M_found : Int32) (M_shortest : Int32) (M_constraint : Nat → Int32) (M_word : Nat → Int32) (M_size : Nat → Int32) (M_firstOne : Nat → Int32) (R1 : Nat → Int32) (v2 : Int32) (k13 : (Nat → Int32) → Int32 → Option (Int32 × Int32 × (Nat → Int32) × (Nat → Int32) × (Nat → Int32) × (Nat → Int32))) (M_number : Nat → Int32) (v3 : Int32) : Option (Int32 × Int32 × (Nat → Int32) × (Nat → Int32) × (Nat → Int32) × (Nat → Int32)) :=
  if (4 : Int32) ≤ v3 then
    fx7 (fM_lookThrough_33 M_many M_constraint R1 v2) FU M_found M_shortest M_word M_size M_number M_firstOne (1 : Int32)
  else
  sti M_number 4 v3 (0 : Int32) fun M_number_24 =>
  st (v3 + (1 : Int32)) fun t25 =>
  k13 M_number_24 t25
def fM_lookThrough (M_many : Int32) (M_constraint : Nat → Int32) (M_word : Nat → Int32) (M_size : Nat → Int32) (M_number : Nat → Int32) (M_firstOne : Nat → Int32) (R1 : Nat → Int32) (x2 : Int32) : Option (Int32 × Int32 × (Nat → Int32) × (Nat → Int32) × (Nat → Int32) × (Nat → Int32)) :=
  fx2 (fM_lookThrough_13 M_many (0 : Int32) ((-9) : Int32) M_constraint M_word M_size M_firstOne R1 x2) FU M_number (0 : Int32)
def fM_countSolutions (M_many : Int32) (M_found : Int32) (M_shortest : Int32) (M_now : Nat → Int32) (M_constraint : Nat → Int32) (M_word : Nat → Int32) (M_size : Nat → Int32) (M_number : Nat → Int32) (M_firstOne : Nat → Int32) (x1 : Int32) : Option (Int32 × Int32 × Int32 × (Nat → Int32) × (Nat → Int32) × (Nat → Int32) × (Nat → Int32)) :=
  bd1 (fM_in (Int32.toInt64 x1) (0 : Int64) (3 : Int64)) fun t6 =>
  if t6 = 0 then
    some (((-2) : Int32), M_found, M_shortest, M_word, M_size, M_number, M_firstOne)
  else
  bd6 (fM_lookThrough M_many M_constraint M_word M_size M_number M_firstOne M_now x1) fun M_found_21 M_shortest_21 M_word_21 M_size_21 M_number_21 M_firstOne_21 =>
  some (M_found_21, M_found_21, M_shortest_21, M_word_21, M_size_21, M_number_21, M_firstOne_21)
def fM_firstSolution (M_many : Int32) (M_found : Int32) (M_shortest : Int32) (M_now : Nat → Int32) (M_constraint : Nat → Int32) (M_word : Nat → Int32) (M_size : Nat → Int32) (M_number : Nat → Int32) (M_firstOne : Nat → Int32) (x1 : Int32) (x2 : Int32) : Option (Int32 × Int32 × Int32 × (Nat → Int32) × (Nat → Int32) × (Nat → Int32) × (Nat → Int32)) :=
  bd1 (fM_isVariable x2) fun t1 =>
  if t1 = 0 then
    some (((-1) : Int32), M_found, M_shortest, M_word, M_size, M_number, M_firstOne)
  else
  bd1 (fM_in (Int32.toInt64 x1) (0 : Int64) (3 : Int64)) fun t15 =>
  if t15 = 0 then
    some (((-2) : Int32), M_found, M_shortest, M_word, M_size, M_number, M_firstOne)
  else
  bd6 (fM_lookThrough M_many M_constraint M_word M_size M_number M_firstOne M_now x1) fun M_found_30 M_shortest_30 M_word_30 M_size_30 M_number_30 M_firstOne_30 =>
  if M_found_30 = 0 then
    some (((-9) : Int32), M_found_30, M_shortest_30, M_word_30, M_size_30, M_number_30, M_firstOne_30)
  else
  ld M_firstOne_30 4 x2 fun t50 =>
  some (t50, M_found_30, M_shortest_30, M_word_30, M_size_30, M_number_30, M_firstOne_30)
def fM_leastTotalLength (M_many : Int32) (M_found : Int32) (M_shortest : Int32) (M_now : Nat → Int32) (M_constraint : Nat → Int32) (M_word : Nat → Int32) (M_size : Nat → Int32) (M_number : Nat → Int32) (M_firstOne : Nat → Int32) (x1 : Int32) : Option (Int32 × Int32 × Int32 × (Nat → Int32) × (Nat → Int32) × (Nat → Int32) × (Nat → Int32)) :=
  bd1 (fM_in (Int32.toInt64 x1) (0 : Int64) (3 : Int64)) fun t6 =>
  if t6 = 0 then
    some (((-2) : Int32), M_found, M_shortest, M_word, M_size, M_number, M_firstOne)
  else
  bd6 (fM_lookThrough M_many M_constraint M_word M_size M_number M_firstOne M_now x1) fun M_found_21 M_shortest_21 M_word_21 M_size_21 M_number_21 M_firstOne_21 =>
  some (M_shortest_21, M_found_21, M_shortest_21, M_word_21, M_size_21, M_number_21, M_firstOne_21)
def fM_countLengths_188 (k80 : (Nat → Int32) → Int32 → Int32 → Option (Int32 × (Nat → Int32))) (M_many : Int32) (M_now : Nat → Int32) (M_constraint : Nat → Int32) (M_number : Nat → Int32) (v1 : Int32) (v2 : Int32) (s0 : Int32) (s1 : Int32) : Option (Int32 × (Nat → Int32)) :=
  st (s0 + s1) fun t189 =>
  bd2 (fM_goOn M_number M_now (v1 + (1 : Int32))) fun t198 M_number_198 =>
  k80 M_number_198 t189 t198
def fM_countLengths_94 (k80 : (Nat → Int32) → Int32 → Int32 → Option (Int32 × (Nat → Int32))) (M_many : Int32) (M_now : Nat → Int32) (M_constraint : Nat → Int32) (M_number : Nat → Int32) (v1 : Int32) (v2 : Int32) (v3 : Int32) (k94 : Int32 → Int32 → Int32 → Option (Int32 × (Nat → Int32))) (v5 : Int32) (v6 : Int32) (v7 : Int32) : Option (Int32 × (Nat → Int32)) :=
  if (4 : Int32) ≤ v7 then
    if v6 = 0 then
      fM_countLengths_188 k80 M_many M_now M_constraint M_number v1 v2 v3 (0 : Int32)
    else
    if v5 = 0 then
      fM_countLengths_188 k80 M_many M_now M_constraint M_number v1 v2 v3 (1 : Int32)
    else
    fM_countLengths_188 k80 M_many M_now M_constraint M_number v1 v2 v3 (0 : Int32)
  else
  ld M_number 4 v7 fun t108 =>
  bd1 (fM_countOf M_now (0 : Int32) (v7 + (2 : Int32))) fun t118 =>
  bd1 (fM_countOf M_now (1 : Int32) (v7 + (2 : Int32))) fun t130 =>
  st (v5 + (t108 * (t118 - t130))) fun t136 =>
  if v6 = 0 then
    st (v7 + (1 : Int32)) fun t166 =>
    k94 t136 (0 : Int32) t166
  else
  ld M_number 4 v7 fun t152 =>
  bd1 (fM_holds M_many M_constraint v7 t152) fun t153 =>
  if t153 = 0 then
    st (v7 + (1 : Int32)) fun t166 =>
    k94 t136 (0 : Int32) t166
  else
  st (v7 + (1 : Int32)) fun t166 =>
  k94 t136 (1 : Int32) t166
def fM_countLengths_80 (M_many : Int32) (M_now : Nat → Int32) (M_constraint : Nat → Int32) (v1 : Int32) (v2 : Int32) (k80 : (Nat → Int32) → Int32 → Int32 → Option (Int32 × (Nat → Int32))) (M_number : Nat → Int32) (v3 : Int32) (v4 : Int32) : Option (Int32 × (Nat → Int32)) :=
  if v4 = 0 then
    some (v3, M_number)
  else
  fx3 (fM_countLengths_94 k80 M_many M_now M_constraint M_number v1 v2 v3) FU v2 (1 : Int32) (0 : Int32)
def fM_countLengths_57 (M_many : Int32) (M_now : Nat → Int32) (M_constraint : Nat → Int32) (v1 : Int32) (v2 : Int32) (k57 : (Nat → Int32) → Int32 → Option (Int32 × (Nat → Int32))) (M_number : Nat → Int32) (v3 : Int32) : Option (Int32 × (Nat → Int32)) :=
  if (4 : Int32) ≤ v3 then
    fx3 (fM_countLengths_80 M_many M_now M_constraint v1 v2) FU M_number (0 : Int32) (1 : Int32)
  else
  sti M_number 4 v3 (0 : Int32) fun M_number_68 =>
  st (v3 + (1 : Int32)) fun t69 =>
  k57 M_number_68 t69
def fM_countLengths (M_many : Int32) (M_now : Nat → Int32) (M_constraint : Nat → Int32) (M_number : Nat → Int32) (x1 : Int32) : Option (Int32 × (Nat → Int32)) :=
  bd1 (fM_in (Int32.toInt64 x1) (0 : Int64) (9 : Int64)) fun t6 =>
  if t6 = 0 then
    some (((-2) : Int32), M_number)
  else
  bd1 (fM_countOf M_now (0 : Int32) (0 : Int32)) fun t21 =>
  bd1 (fM_countOf M_now (0 : Int32) (1 : Int32)) fun t30 =>
  bd1 (fM_countOf M_now (1 : Int32) (0 : Int32)) fun t40 =>
  bd1 (fM_countOf M_now (1 : Int32) (1 : Int32)) fun t50 =>
  st (((t21 + t30) - t40) - t50) fun t54 =>
  fx2 (fM_countLengths_57 M_many M_now M_constraint x1 t54) FU M_number (0 : Int32)
def fM_refutedByCounting_97 (v1 : Int32) (s0 : Int32) : Option (Int32) :=
  if v1 = 0 then
    some (0 : Int32)
  else
  if s0 = 0 then
    some (0 : Int32)
  else
  some (1 : Int32)
def fM_refutedByCounting_4 (M_now : Nat → Int32) (k4 : Int32 → Int32 → Option (Int32)) (v1 : Int32) (v2 : Int32) : Option (Int32) :=
  if (4 : Int32) ≤ v2 then
    bd1 (fM_countOf M_now (0 : Int32) (0 : Int32)) fun t56 =>
    bd1 (fM_countOf M_now (1 : Int32) (0 : Int32)) fun t65 =>
    if t56 = t65 then
      bd1 (fM_countOf M_now (0 : Int32) (1 : Int32)) fun t77 =>
      bd1 (fM_countOf M_now (1 : Int32) (1 : Int32)) fun t86 =>
      if t77 = t86 then
        fM_refutedByCounting_97 v1 (0 : Int32)
      else
      fM_refutedByCounting_97 v1 (1 : Int32)
    else
    fM_refutedByCounting_97 v1 (1 : Int32)
  else
  if v1 = 0 then
    st (v2 + (1 : Int32)) fun t44 =>
    k4 (0 : Int32) t44
  else
  bd1 (fM_countOf M_now (0 : Int32) (v2 + (2 : Int32))) fun t21 =>
  bd1 (fM_countOf M_now (1 : Int32) (v2 + (2 : Int32))) fun t32 =>
  if t21 = t32 then
    st (v2 + (1 : Int32)) fun t44 =>
    k4 (1 : Int32) t44
  else
  st (v2 + (1 : Int32)) fun t44 =>
  k4 (0 : Int32) t44
def fM_refutedByCounting (M_now : Nat → Int32) : Option (Int32) :=
  fx2 (fM_refutedByCounting_4 M_now) FU (1 : Int32) (0 : Int32)
def fM_layNode_2 (M_node : Nat → Int32) (v1 : Int32) (k2 : (Nat → Int32) → Int32 → Option ((Nat → Int32))) (R2 : Nat → Int32) (v3 : Int32) : Option ((Nat → Int32)) :=
  if (26 : Int32) ≤ v3 then
    some R2
  else
  ld M_node 5200 (((26 : Int32) * v1) + v3) fun t20 =>
  sti R2 26 v3 t20 fun R2_21 =>
  st (v3 + (1 : Int32)) fun t22 =>
  k2 R2_21 t22
def fM_layNode (M_node : Nat → Int32) (R2 : Nat → Int32) (x1 : Int32) : Option ((Nat → Int32)) :=
  fx2 (fM_layNode_2 M_node x1) FU R2 (0 : Int32)
def fM_applies_115 (v1 : Int32) (v2 : Int32) (v3 : Int32) (v4 : Int32) (s0 : Int32) : Option (Int32) :=
  if v1 = (0 : Int32) then
    ckz v3 <|
    some v3
  else
  if v1 = (1 : Int32) then
    if v3 = 0 then
      if v4 = 0 then
        some (0 : Int32)
      else
      some (1 : Int32)
    else
    some (0 : Int32)
  else
  if v1 = (2 : Int32) then
    if v3 = 0 then
      if s0 = 0 then
        some (0 : Int32)
      else
      some (1 : Int32)
    else
    some (0 : Int32)
  else
  if v1 = (3 : Int32) then
    if v3 = 0 then
      if v4 = 0 then
        some (0 : Int32)
      else
      if v2 = 0 then
        some (0 : Int32)
      else
      some (1 : Int32)
    else
    some (0 : Int32)
  else
  if v3 = 0 then
    if s0 = 0 then
      some (0 : Int32)
    else
    if v2 = 0 then
      some (0 : Int32)
    else
    some (1 : Int32)
  else
  some (0 : Int32)
def fM_applies_85 (M_trial : Nat → Int32) (v1 : Int32) (v2 : Int32) (v3 : Int32) (s0 : Int32) : Option (Int32) :=
  ld M_trial 26 (1 : Int32) fun t92 =>
  if t92 ≤ 0 then
    fM_applies_115 v1 v2 v3 s0 (0 : Int32)
  else
  bd1 (fM_at (1 : Int32) (0 : Int32)) fun t102 =>
  ld M_trial 26 t102 fun t105 =>
  if t105 ≤ (1 : Int32) then
    fM_applies_115 v1 v2 v3 s0 (0 : Int32)
  else
  fM_applies_115 v1 v2 v3 s0 (1 : Int32)
def fM_applies_56 (M_trial : Nat → Int32) (v1 : Int32) (v2 : Int32) (s0 : Int32) : Option (Int32) :=
  ld M_trial 26 (0 : Int32) fun t62 =>
  if t62 ≤ 0 then
    fM_applies_85 M_trial v1 v2 s0 (0 : Int32)
  else
  bd1 (fM_at (0 : Int32) (0 : Int32)) fun t72 =>
  ld M_trial 26 t72 fun t75 =>
  if t75 ≤ (1 : Int32) then
    fM_applies_85 M_trial v1 v2 s0 (0 : Int32)
  else
  fM_applies_85 M_trial v1 v2 s0 (1 : Int32)
def fM_applies_23 (M_trial : Nat → Int32) (v1 : Int32) (s0 : Int32) : Option (Int32) :=
  if s0 = 0 then
    fM_applies_56 M_trial v1 s0 (0 : Int32)
  else
  bd1 (fM_at (0 : Int32) (0 : Int32)) fun t34 =>
  ld M_trial 26 t34 fun t37 =>
  bd1 (fM_at (1 : Int32) (0 : Int32)) fun t44 =>
  ld M_trial 26 t44 fun t47 =>
  if t37 = t47 then
    fM_applies_56 M_trial v1 s0 (1 : Int32)
  else
  fM_applies_56 M_trial v1 s0 (0 : Int32)
def fM_applies (M_trial : Nat → Int32) (x1 : Int32) : Option (Int32) :=
  ld M_trial 26 (0 : Int32) fun t5 =>
  if t5 ≤ 0 then
    fM_applies_23 M_trial x1 (0 : Int32)
  else
  ld M_trial 26 (1 : Int32) fun t14 =>
  if t14 ≤ 0 then
    fM_applies_23 M_trial x1 (0 : Int32)
  else
  fM_applies_23 M_trial x1 (1 : Int32)
def fM_layChild_251 (k108 : Int32 → (Nat → Int32) → Int32 → Option (Int32 × (Nat → Int32))) (k120 : (Nat → Int32) → Int32 → Int32 → Option (Int32 × (Nat → Int32))) (k210 : (Nat → Int32) → Int32 → Int32 → Option (Int32 × (Nat → Int32))) (M_fits : Int32) (M_trial : Nat → Int32) (M_child : Nat → Int32) (v1 : Int32) (v4 : Int32) (v5 : Int32) (v6 : Int32) (v7 : Int32) (v8 : Int32) (v9 : Int32) (v11 : Int32) (v12 : Int32) (v13 : Int32) (s0 : Int32) : Option (Int32 × (Nat → Int32)) :=
  bd1 (fM_in (Int32.toInt64 v13) (0 : Int64) (11 : Int64)) fun t260 =>
  if t260 = 0 then
    st (v7 + (1 : Int32)) fun t280 =>
    st (v12 + (1 : Int32)) fun t283 =>
    k210 M_child t280 t283
  else
  bd1 (fM_at v6 v13) fun t274 =>
  sti M_child 26 t274 s0 fun M_child_279 =>
  st (v7 + (1 : Int32)) fun t280 =>
  st (v12 + (1 : Int32)) fun t283 =>
  k210 M_child_279 t280 t283
def fM_layChild_231 (k108 : Int32 → (Nat → Int32) → Int32 → Option (Int32 × (Nat → Int32))) (k120 : (Nat → Int32) → Int32 → Int32 → Option (Int32 × (Nat → Int32))) (k210 : (Nat → Int32) → Int32 → Int32 → Option (Int32 × (Nat → Int32))) (M_fits : Int32) (M_trial : Nat → Int32) (M_child : Nat → Int32) (v1 : Int32) (v4 : Int32) (v5 : Int32) (v6 : Int32) (v7 : Int32) (v8 : Int32) (v9 : Int32) (v11 : Int32) (v12 : Int32) (s0 : Int32) : Option (Int32 × (Nat → Int32)) :=
  if v11 = (2 : Int32) then
    if v12 = 0 then
      fM_layChild_251 k108 k120 k210 M_fits M_trial M_child v1 v4 v5 v6 v7 v8 v9 v11 v12 s0 v5
    else
    fM_layChild_251 k108 k120 k210 M_fits M_trial M_child v1 v4 v5 v6 v7 v8 v9 v11 v12 s0 v9
  else
  fM_layChild_251 k108 k120 k210 M_fits M_trial M_child v1 v4 v5 v6 v7 v8 v9 v11 v12 s0 v9
def fM_layChild_210 (k108 : Int32 → (Nat → Int32) → Int32 → Option (Int32 × (Nat → Int32))) (k120 : (Nat → Int32) → Int32 → Int32 → Option (Int32 × (Nat → Int32))) (M_fits : Int32) (M_trial : Nat → Int32) (v1 : Int32) (v4 : Int32) (v5 : Int32) (v6 : Int32) (v8 : Int32) (v9 : Int32) (v11 : Int32) (k210 : (Nat → Int32) → Int32 → Int32 → Option (Int32 × (Nat → Int32))) (M_child : Nat → Int32) (v7 : Int32) (v12 : Int32) : Option (Int32 × (Nat → Int32)) :=
  if v11 ≤ v12 then
    st (v8 + (1 : Int32)) fun t289 =>
    k120 M_child v7 t289
  else
  if v1 ≤ (2 : Int32) then
    fM_layChild_231 k108 k120 k210 M_fits M_trial M_child v1 v4 v5 v6 v7 v8 v9 v11 v12 v7
  else
  fM_layChild_231 k108 k120 k210 M_fits M_trial M_child v1 v4 v5 v6 v7 v8 v9 v11 v12 ((v7 - (1 : Int32)))
def fM_layChild_158 (k108 : Int32 → (Nat → Int32) → Int32 → Option (Int32 × (Nat → Int32))) (k120 : (Nat → Int32) → Int32 → Int32 → Option (Int32 × (Nat → Int32))) (M_fits : Int32) (M_trial : Nat → Int32) (M_child : Nat → Int32) (v1 : Int32) (v4 : Int32) (v5 : Int32) (v6 : Int32) (v7 : Int32) (v8 : Int32) (v9 : Int32) (s0 : Int32) : Option (Int32 × (Nat → Int32)) :=
  if v1 = 0 then
    if v8 = 0 then
      fx3 (fM_layChild_210 k108 k120 M_fits M_trial v1 v4 v5 v6 v8 v9 (0 : Int32)) FU M_child v7 (0 : Int32)
    else
    fx3 (fM_layChild_210 k108 k120 M_fits M_trial v1 v4 v5 v6 v8 v9 (1 : Int32)) FU M_child v7 (0 : Int32)
  else
  if (3 : Int32) ≤ v1 then
    if s0 = 0 then
      fx3 (fM_layChild_210 k108 k120 M_fits M_trial v1 v4 v5 v6 v8 v9 (1 : Int32)) FU M_child v7 (0 : Int32)
    else
    fx3 (fM_layChild_210 k108 k120 M_fits M_trial v1 v4 v5 v6 v8 v9 (2 : Int32)) FU M_child v7 (0 : Int32)
  else
  if s0 = 0 then
    fx3 (fM_layChild_210 k108 k120 M_fits M_trial v1 v4 v5 v6 v8 v9 (1 : Int32)) FU M_child v7 (0 : Int32)
  else
  fx3 (fM_layChild_210 k108 k120 M_fits M_trial v1 v4 v5 v6 v8 v9 (0 : Int32)) FU M_child v7 (0 : Int32)
def fM_layChild_341 (k108 : Int32 → (Nat → Int32) → Int32 → Option (Int32 × (Nat → Int32))) (M_trial : Nat → Int32) (M_child : Nat → Int32) (v1 : Int32) (v4 : Int32) (v5 : Int32) (v6 : Int32) (s1 : Int32) : Option (Int32 × (Nat → Int32)) :=
  ckz s1 <|
  st (v6 + (1 : Int32)) fun t344 =>
  k108 s1 M_child t344
def fM_layChild_315 (k108 : Int32 → (Nat → Int32) → Int32 → Option (Int32 × (Nat → Int32))) (M_fits : Int32) (M_trial : Nat → Int32) (M_child : Nat → Int32) (v1 : Int32) (v4 : Int32) (v5 : Int32) (v6 : Int32) (s1 : Int32) (s2 : Int32) : Option (Int32 × (Nat → Int32)) :=
  sti M_child 26 s1 s2 fun M_child_315 =>
  if M_fits = 0 then
    fM_layChild_341 k108 M_trial M_child_315 v1 v4 v5 v6 (0 : Int32)
  else
  ld M_child_315 26 v6 fun t330 =>
  if (12 : Int32) < t330 then
    fM_layChild_341 k108 M_trial M_child_315 v1 v4 v5 v6 (0 : Int32)
  else
  fM_layChild_341 k108 M_trial M_child_315 v1 v4 v5 v6 (1 : Int32)
def fM_layChild_120 (k108 : Int32 → (Nat → Int32) → Int32 → Option (Int32 × (Nat → Int32))) (M_fits : Int32) (M_trial : Nat → Int32) (v1 : Int32) (v4 : Int32) (v5 : Int32) (v6 : Int32) (k120 : (Nat → Int32) → Int32 → Int32 → Option (Int32 × (Nat → Int32))) (M_child : Nat → Int32) (v7 : Int32) (v8 : Int32) : Option (Int32 × (Nat → Int32)) :=
  ld M_trial 26 v6 fun t128 =>
  if t128 ≤ v8 then
    if v1 ≤ (2 : Int32) then
      fM_layChild_315 k108 M_fits M_trial M_child v1 v4 v5 v6 v6 v7
    else
    fM_layChild_315 k108 M_fits M_trial M_child v1 v4 v5 v6 v6 ((v7 - (1 : Int32)))
  else
  bd1 (fM_at v6 v8) fun t140 =>
  ld M_trial 26 t140 fun t143 =>
  if t143 = v4 then
    fM_layChild_158 k108 k120 M_fits M_trial M_child v1 v4 v5 v6 v7 v8 t143 (1 : Int32)
  else
  fM_layChild_158 k108 k120 M_fits M_trial M_child v1 v4 v5 v6 v7 v8 t143 (0 : Int32)
def fM_layChild_108 (M_trial : Nat → Int32) (v1 : Int32) (v4 : Int32) (v5 : Int32) (k108 : Int32 → (Nat → Int32) → Int32 → Option (Int32 × (Nat → Int32))) (M_fits : Int32) (M_child : Nat → Int32) (v6 : Int32) : Option (Int32 × (Nat → Int32)) :=
  if (2 : Int32) ≤ v6 then
    some (M_fits, M_child)
  else
  fx3 (fM_layChild_120 k108 M_fits M_trial v1 v4 v5 v6) FU M_child (0 : Int32) (0 : Int32)
def fM_layChild_91 (M_fits : Int32) (M_trial : Nat → Int32) (M_child : Nat → Int32) (v1 : Int32) (v2 : Int32) (v3 : Int32) (s0 : Int32) : Option (Int32 × (Nat → Int32)) :=
  if v1 = (3 : Int32) then
    fx3 (fM_layChild_108 M_trial v1 s0 v3) FU M_fits M_child (0 : Int32)
  else
  fx3 (fM_layChild_108 M_trial v1 s0 v2) FU M_fits M_child (0 : Int32)
def fM_layChild_75 (M_fits : Int32) (M_trial : Nat → Int32) (M_child : Nat → Int32) (v1 : Int32) (v2 : Int32) (s0 : Int32) : Option (Int32 × (Nat → Int32)) :=
  if v1 = (1 : Int32) then
    fM_layChild_91 M_fits M_trial M_child v1 v2 s0 v2
  else
  if v1 = (3 : Int32) then
    fM_layChild_91 M_fits M_trial M_child v1 v2 s0 v2
  else
  fM_layChild_91 M_fits M_trial M_child v1 v2 s0 s0
def fM_layChild_50 (M_fits : Int32) (M_trial : Nat → Int32) (M_child : Nat → Int32) (v1 : Int32) (s0 : Int32) : Option (Int32 × (Nat → Int32)) :=
  ld M_trial 26 (1 : Int32) fun t56 =>
  if t56 ≤ 0 then
    fM_layChild_75 M_fits M_trial M_child v1 s0 ((-9) : Int32)
  else
  bd1 (fM_at (1 : Int32) (0 : Int32)) fun t66 =>
  ld M_trial 26 t66 fun t69 =>
  fM_layChild_75 M_fits M_trial M_child v1 s0 t69
def fM_layChild_2 (M_trial : Nat → Int32) (v1 : Int32) (k2 : (Nat → Int32) → Int32 → Option (Int32 × (Nat → Int32))) (M_child : Nat → Int32) (v2 : Int32) : Option (Int32 × (Nat → Int32)) :=
  if (26 : Int32) ≤ v2 then
    ld M_trial 26 (0 : Int32) fun t31 =>
    if t31 ≤ 0 then
      fM_layChild_50 (1 : Int32) M_trial M_child v1 ((-9) : Int32)
    else
    bd1 (fM_at (0 : Int32) (0 : Int32)) fun t41 =>
    ld M_trial 26 t41 fun t44 =>
    fM_layChild_50 (1 : Int32) M_trial M_child v1 t44
  else
  sti M_child 26 v2 (0 : Int32) fun M_child_14 =>
  st (v2 + (1 : Int32)) fun t15 =>
  k2 M_child_14 t15
def fM_layChild (M_trial : Nat → Int32) (M_child : Nat → Int32) (x1 : Int32) : Option (Int32 × (Nat → Int32)) :=
  fx2 (fM_layChild_2 M_trial x1) FU M_child (0 : Int32)
def fM_sameNode_56 (k2 : Int32 → Option (Int32)) (M_nodes : Int32) (M_node : Nat → Int32) (M_child : Nat → Int32) (v1 : Int32) (v2 : Int32) : Option (Int32) :=
  if v2 = 0 then
    st (v1 + (1 : Int32)) fun t62 =>
    k2 t62
  else
  some v1
def fM_sameNode_14 (k2 : Int32 → Option (Int32)) (M_nodes : Int32) (M_node : Nat → Int32) (M_child : Nat → Int32) (v1 : Int32) (k14 : Int32 → Int32 → Option (Int32)) (v2 : Int32) (v3 : Int32) : Option (Int32) :=
  if (26 : Int32) ≤ v3 then
    fM_sameNode_56 k2 M_nodes M_node M_child v1 v2
  else
  if v2 = 0 then
    fM_sameNode_56 k2 M_nodes M_node M_child v1 v2
  else
  ld M_node 5200 (((26 : Int32) * v1) + v3) fun t34 =>
  ld M_child 26 v3 fun t40 =>
  if t34 = t40 then
    st (v3 + (1 : Int32)) fun t50 =>
    k14 (1 : Int32) t50
  else
  st (v3 + (1 : Int32)) fun t50 =>
  k14 (0 : Int32) t50
def fM_sameNode_2 (M_nodes : Int32) (M_node : Nat → Int32) (M_child : Nat → Int32) (k2 : Int32 → Option (Int32)) (v1 : Int32) : Option (Int32) :=
  if M_nodes ≤ v1 then
    some ((-9) : Int32)
  else
  fx2 (fM_sameNode_14 k2 M_nodes M_node M_child v1) FU (1 : Int32) (0 : Int32)
def fM_sameNode (M_nodes : Int32) (M_node : Nat → Int32) (M_child : Nat → Int32) : Option (Int32) :=
  fx1 (fM_sameNode_2 M_nodes M_node M_child) FU (0 : Int32)
def fM_addChild_129 (M_nodes : Int32) (M_dropped : Int32) (M_fits : Int32) (M_node : Nat → Int32) (M_parent : Nat → Int32) (M_rule : Nat → Int32) (M_child : Nat → Int32) (s1 : Int32) : Option (Int32 × Int32 × Int32 × Int32 × (Nat → Int32) × (Nat → Int32) × (Nat → Int32) × (Nat → Int32)) :=
  st (M_nodes + (1 : Int32)) fun t139 =>
  some (t139, s1, M_dropped, M_fits, M_node, M_parent, M_rule, M_child)
def fM_addChild_49 (M_nodes : Int32) (M_solved : Int32) (M_dropped : Int32) (M_fits : Int32) (M_parent : Nat → Int32) (M_rule : Nat → Int32) (M_child : Nat → Int32) (v1 : Int32) (v2 : Int32) (k49 : (Nat → Int32) → Int32 → Option (Int32 × Int32 × Int32 × Int32 × (Nat → Int32) × (Nat → Int32) × (Nat → Int32) × (Nat → Int32))) (M_node : Nat → Int32) (v3 : Int32) : Option (Int32 × Int32 × Int32 × Int32 × (Nat → Int32) × (Nat → Int32) × (Nat → Int32) × (Nat → Int32)) :=
  if (26 : Int32) ≤ v3 then
    sti M_parent 200 M_nodes v1 fun M_parent_90 =>
    sti M_rule 200 M_nodes v2 fun M_rule_100 =>
    ld M_child 26 (0 : Int32) fun t107 =>
    ld M_child 26 (1 : Int32) fun t113 =>
    if (t107 + t113) = 0 then
      fM_addChild_129 M_nodes M_dropped M_fits M_node M_parent_90 M_rule_100 M_child M_nodes
    else
    fM_addChild_129 M_nodes M_dropped M_fits M_node M_parent_90 M_rule_100 M_child M_solved
  else
  ld M_child 26 v3 fun t73 =>
  sti M_node 5200 (((26 : Int32) * M_nodes) + v3) t73 fun M_node_74 =>
  st (v3 + (1 : Int32)) fun t75 =>
  k49 M_node_74 t75
def fM_addChild (M_nodes : Int32) (M_solved : Int32) (M_dropped : Int32) (M_trial : Nat → Int32) (M_node : Nat → Int32) (M_parent : Nat → Int32) (M_rule : Nat → Int32) (M_child : Nat → Int32) (x1 : Int32) (x2 : Int32) : Option (Int32 × Int32 × Int32 × Int32 × (Nat → Int32) × (Nat → Int32) × (Nat → Int32) × (Nat → Int32)) :=
  bd2 (fM_layChild M_trial M_child x2) fun M_fits_2 M_child_2 =>
  if M_fits_2 = 0 then
    some (M_nodes, M_solved, (1 : Int32), M_fits_2, M_node, M_parent, M_rule, M_child_2)
  else
  bd1 (fM_sameNode M_nodes M_node M_child_2) fun t21 =>
  if t21 = ((-9) : Int32) then
    if M_nodes = (200 : Int32) then
      some (M_nodes, M_solved, (1 : Int32), M_fits_2, M_node, M_parent, M_rule, M_child_2)
    else
    fx2 (fM_addChild_49 M_nodes M_solved M_dropped M_fits_2 M_parent M_rule M_child_2 x1 x2) FU M_node (0 : Int32)
  else
  some (M_nodes, M_solved, M_dropped, M_fits_2, M_node, M_parent, M_rule, M_child_2)
def fM_search_91 (k63 : Int32 → Int32 → Int32 → Int32 → (Nat → Int32) → (Nat → Int32) → (Nat → Int32) → (Nat → Int32) → (Nat → Int32) → Int32 → Option (Int32 × Int32 × Int32 × Int32 × Int32 × (Nat → Int32) × (Nat → Int32) × (Nat → Int32) × (Nat → Int32) × (Nat → Int32))) (M_trial : Nat → Int32) (v2 : Int32) (k91 : Int32 → Int32 → Int32 → Int32 → (Nat → Int32) → (Nat → Int32) → (Nat → Int32) → (Nat → Int32) → Int32 → Option (Int32 × Int32 × Int32 × Int32 × Int32 × (Nat → Int32) × (Nat → Int32) × (Nat → Int32) × (Nat → Int32) × (Nat → Int32))) (M_nodes : Int32) (M_solved : Int32) (M_dropped : Int32) (M_fits : Int32) (M_node : Nat → Int32) (M_parent : Nat → Int32) (M_rule : Nat → Int32) (M_child : Nat → Int32) (v3 : Int32) : Option (Int32 × Int32 × Int32 × Int32 × Int32 × (Nat → Int32) × (Nat → Int32) × (Nat → Int32) × (Nat → Int32) × (Nat → Int32)) :=
  if (5 : Int32) ≤ v3 then
    st (v2 + (1 : Int32)) fun t125 =>
    k63 M_nodes M_solved M_dropped M_fits M_trial M_node M_parent M_rule M_child t125
  else
  if M_solved = ((-9) : Int32) then
    bd1 (fM_applies M_trial v3) fun t107 =>
    if t107 = 0 then
      st (v3 + (1 : Int32)) fun t119 =>
      k91 M_nodes M_solved M_dropped M_fits M_node M_parent M_rule M_child t119
    else
    bd8 (fM_addChild M_nodes M_solved M_dropped M_trial M_node M_parent M_rule M_child v2 v3) fun M_nodes_116 M_solved_116 M_dropped_116 M_fits_116 M_node_116 M_parent_116 M_rule_116 M_child_116 =>
    st (v3 + (1 : Int32)) fun t119 =>
    k91 M_nodes_116 M_solved_116 M_dropped_116 M_fits_116 M_node_116 M_parent_116 M_rule_116 M_child_116 t119
  else
  st (v2 + (1 : Int32)) fun t125 =>
  k63 M_nodes M_solved M_dropped M_fits M_trial M_node M_parent M_rule M_child t125
def fM_search_131 (M_nodes : Int32) (M_solved : Int32) (M_dropped : Int32) (M_fits : Int32) (M_trial : Nat → Int32) (M_node : Nat → Int32) (M_parent : Nat → Int32) (M_rule : Nat → Int32) (M_child : Nat → Int32) : Option (Int32 × Int32 × Int32 × Int32 × Int32 × (Nat → Int32) × (Nat → Int32) × (Nat → Int32) × (Nat → Int32) × (Nat → Int32)) :=
  if M_solved = ((-9) : Int32) then
    if M_dropped = 0 then
      some ((0 : Int32), M_nodes, M_solved, M_dropped, M_fits, M_trial, M_node, M_parent, M_rule, M_child)
    else
    some ((2 : Int32), M_nodes, M_solved, M_dropped, M_fits, M_trial, M_node, M_parent, M_rule, M_child)
  else
  some ((1 : Int32), M_nodes, M_solved, M_dropped, M_fits, M_trial, M_node, M_parent, M_rule, M_child)
def fM_search_63 (k63 : Int32 → Int32 → Int32 → Int32 → (Nat → Int32) → (Nat → Int32) → (Nat → Int32) → (Nat → Int32) → (Nat → Int32) → Int32 → Option (Int32 × Int32 × Int32 × Int32 × Int32 × (Nat → Int32) × (Nat → Int32) × (Nat → Int32) × (Nat → Int32) × (Nat → Int32))) (M_nodes : Int32) (M_solved : Int32) (M_dropped : Int32) (M_fits : Int32) (M_trial : Nat → Int32) (M_node : Nat → Int32) (M_parent : Nat → Int32) (M_rule : Nat → Int32) (M_child : Nat → Int32) (v2 : Int32) : Option (Int32 × Int32 × Int32 × Int32 × Int32 × (Nat → Int32) × (Nat → Int32) × (Nat → Int32) × (Nat → Int32) × (Nat → Int32)) :=
  if M_nodes ≤ v2 then
    fM_search_131 M_nodes M_solved M_dropped M_fits M_trial M_node M_parent M_rule M_child
  else
  if M_solved = ((-9) : Int32) then
    bd1 (fM_layNode M_node M_trial v2) fun M_trial_86 =>
    fx9 (fM_search_91 k63 M_trial_86 v2) FU M_nodes M_solved M_dropped M_fits M_node M_parent M_rule M_child (0 : Int32)
  else
  fM_search_131 M_nodes M_solved M_dropped M_fits M_trial M_node M_parent M_rule M_child
def fM_search_58 (M_nodes : Int32) (M_dropped : Int32) (M_fits : Int32) (M_trial : Nat → Int32) (M_node : Nat → Int32) (M_parent : Nat → Int32) (M_rule : Nat → Int32) (M_child : Nat → Int32) (s1 : Int32) : Option (Int32 × Int32 × Int32 × Int32 × Int32 × (Nat → Int32) × (Nat → Int32) × (Nat → Int32) × (Nat → Int32) × (Nat → Int32)) :=
  fx10 (fM_search_63) FU M_nodes s1 M_dropped M_fits M_trial M_node M_parent M_rule M_child (0 : Int32)
def fM_search_2 (M_fits : Int32) (M_trial : Nat → Int32) (M_parent : Nat → Int32) (M_rule : Nat → Int32) (M_child : Nat → Int32) (R1 : Nat → Int32) (k2 : (Nat → Int32) → Int32 → Option (Int32 × Int32 × Int32 × Int32 × Int32 × (Nat → Int32) × (Nat → Int32) × (Nat → Int32) × (Nat → Int32) × (Nat → Int32))) (M_node : Nat → Int32) (v2 : Int32) : Option (Int32 × Int32 × Int32 × Int32 × Int32 × (Nat → Int32) × (Nat → Int32) × (Nat → Int32) × (Nat → Int32) × (Nat → Int32)) :=
  if (26 : Int32) ≤ v2 then
    sti M_parent 200 (0 : Int32) ((-9) : Int32) fun M_parent_35 =>
    ld R1 26 (0 : Int32) fun t44 =>
    ld R1 26 (1 : Int32) fun t47 =>
    if (t44 + t47) = 0 then
      fM_search_58 (1 : Int32) (0 : Int32) M_fits M_trial M_node M_parent_35 M_rule M_child (0 : Int32)
    else
    fM_search_58 (1 : Int32) (0 : Int32) M_fits M_trial M_node M_parent_35 M_rule M_child ((-9) : Int32)
  else
  ld R1 26 v2 fun t15 =>
  sti M_node 5200 v2 t15 fun M_node_16 =>
  st (v2 + (1 : Int32)) fun t17 =>
  k2 M_node_16 t17
def fM_search (M_fits : Int32) (M_trial : Nat → Int32) (M_node : Nat → Int32) (M_parent : Nat → Int32) (M_rule : Nat → Int32) (M_child : Nat → Int32) (R1 : Nat → Int32) : Option (Int32 × Int32 × Int32 × Int32 × Int32 × (Nat → Int32) × (Nat → Int32) × (Nat → Int32) × (Nat → Int32) × (Nat → Int32)) :=
  fx2 (fM_search_2 M_fits M_trial M_parent M_rule M_child R1) FU M_node (0 : Int32)
def fM_decide (M_fits : Int32) (M_now : Nat → Int32) (M_trial : Nat → Int32) (M_node : Nat → Int32) (M_parent : Nat → Int32) (M_rule : Nat → Int32) (M_child : Nat → Int32) : Option (Int32 × Int32 × Int32 × Int32 × Int32 × (Nat → Int32) × (Nat → Int32) × (Nat → Int32) × (Nat → Int32) × (Nat → Int32)) :=
  bd10 (fM_search M_fits M_trial M_node M_parent M_rule M_child M_now) fun t5 M_nodes_5 M_solved_5 M_dropped_5 M_fits_5 M_trial_5 M_node_5 M_parent_5 M_rule_5 M_child_5 =>
  some (t5, M_nodes_5, M_solved_5, M_dropped_5, M_fits_5, M_trial_5, M_node_5, M_parent_5, M_rule_5, M_child_5)
def fM_nodeCount (M_fits : Int32) (M_now : Nat → Int32) (M_trial : Nat → Int32) (M_node : Nat → Int32) (M_parent : Nat → Int32) (M_rule : Nat → Int32) (M_child : Nat → Int32) : Option (Int32 × Int32 × Int32 × Int32 × Int32 × (Nat → Int32) × (Nat → Int32) × (Nat → Int32) × (Nat → Int32) × (Nat → Int32)) :=
  bd10 (fM_search M_fits M_trial M_node M_parent M_rule M_child M_now) fun t5 M_nodes_5 M_solved_5 M_dropped_5 M_fits_5 M_trial_5 M_node_5 M_parent_5 M_rule_5 M_child_5 =>
  some (M_nodes_5, M_nodes_5, M_solved_5, M_dropped_5, M_fits_5, M_trial_5, M_node_5, M_parent_5, M_rule_5, M_child_5)
def fM_layProof_58 (M_nodes : Int32) (M_solved : Int32) (M_dropped : Int32) (M_fits : Int32) (M_proofSize : Int32) (M_trial : Nat → Int32) (M_node : Nat → Int32) (M_parent : Nat → Int32) (M_rule : Nat → Int32) (M_child : Nat → Int32) (k58 : (Nat → Int32) → Int32 → Int32 → Option (Int32 × Int32 × Int32 × Int32 × Int32 × Int32 × (Nat → Int32) × (Nat → Int32) × (Nat → Int32) × (Nat → Int32) × (Nat → Int32) × (Nat → Int32))) (M_proof : Nat → Int32) (v1 : Int32) (v2 : Int32) : Option (Int32 × Int32 × Int32 × Int32 × Int32 × Int32 × (Nat → Int32) × (Nat → Int32) × (Nat → Int32) × (Nat → Int32) × (Nat → Int32) × (Nat → Int32)) :=
  if v2 ≤ 0 then
    some ((1 : Int32), M_nodes, M_solved, M_dropped, M_fits, M_proofSize, M_trial, M_node, M_parent, M_rule, M_child, M_proof)
  else
  st (v1 + ((-1) : Int32)) fun t62 =>
  sti M_proof 200 t62 v2 fun M_proof_71 =>
  ld M_parent 200 v2 fun t77 =>
  k58 M_proof_71 t62 t77
def fM_layProof_24 (M_nodes : Int32) (M_solved : Int32) (M_dropped : Int32) (M_fits : Int32) (M_trial : Nat → Int32) (M_node : Nat → Int32) (M_parent : Nat → Int32) (M_rule : Nat → Int32) (M_child : Nat → Int32) (M_proof : Nat → Int32) (k24 : Int32 → Int32 → Option (Int32 × Int32 × Int32 × Int32 × Int32 × Int32 × (Nat → Int32) × (Nat → Int32) × (Nat → Int32) × (Nat → Int32) × (Nat → Int32) × (Nat → Int32))) (M_proofSize : Int32) (v1 : Int32) : Option (Int32 × Int32 × Int32 × Int32 × Int32 × Int32 × (Nat → Int32) × (Nat → Int32) × (Nat → Int32) × (Nat → Int32) × (Nat → Int32) × (Nat → Int32)) :=
  if v1 ≤ 0 then
    fx3 (fM_layProof_58 M_nodes M_solved M_dropped M_fits M_proofSize M_trial M_node M_parent M_rule M_child) FU M_proof M_proofSize M_solved
  else
  st (M_proofSize + (1 : Int32)) fun t35 =>
  ld M_parent 200 v1 fun t43 =>
  k24 t35 t43
def fM_layProof (M_fits : Int32) (M_proofSize : Int32) (M_now : Nat → Int32) (M_trial : Nat → Int32) (M_node : Nat → Int32) (M_parent : Nat → Int32) (M_rule : Nat → Int32) (M_child : Nat → Int32) (M_proof : Nat → Int32) : Option (Int32 × Int32 × Int32 × Int32 × Int32 × Int32 × (Nat → Int32) × (Nat → Int32) × (Nat → Int32) × (Nat → Int32) × (Nat → Int32) × (Nat → Int32)) :=
  bd10 (fM_search M_fits M_trial M_node M_parent M_rule M_child M_now) fun t5 M_nodes_5 M_solved_5 M_dropped_5 M_fits_5 M_trial_5 M_node_5 M_parent_5 M_rule_5 M_child_5 =>
  if t5 = (1 : Int32) then
    fx2 (fM_layProof_24 M_nodes_5 M_solved_5 M_dropped_5 M_fits_5 M_trial_5 M_node_5 M_parent_5 M_rule_5 M_child_5 M_proof) FU (0 : Int32) M_solved_5
  else
  some ((0 : Int32), M_nodes_5, M_solved_5, M_dropped_5, M_fits_5, M_proofSize, M_trial_5, M_node_5, M_parent_5, M_rule_5, M_child_5, M_proof)
def fM_proofLength (M_fits : Int32) (M_proofSize : Int32) (M_now : Nat → Int32) (M_trial : Nat → Int32) (M_node : Nat → Int32) (M_parent : Nat → Int32) (M_rule : Nat → Int32) (M_child : Nat → Int32) (M_proof : Nat → Int32) : Option (Int32 × Int32 × Int32 × Int32 × Int32 × Int32 × (Nat → Int32) × (Nat → Int32) × (Nat → Int32) × (Nat → Int32) × (Nat → Int32) × (Nat → Int32)) :=
  bd12 (fM_layProof M_fits M_proofSize M_now M_trial M_node M_parent M_rule M_child M_proof) fun t1 M_nodes_1 M_solved_1 M_dropped_1 M_fits_1 M_proofSize_1 M_trial_1 M_node_1 M_parent_1 M_rule_1 M_child_1 M_proof_1 =>
  if t1 = 0 then
    some (((-9) : Int32), M_nodes_1, M_solved_1, M_dropped_1, M_fits_1, M_proofSize_1, M_trial_1, M_node_1, M_parent_1, M_rule_1, M_child_1, M_proof_1)
  else
  some (M_proofSize_1, M_nodes_1, M_solved_1, M_dropped_1, M_fits_1, M_proofSize_1, M_trial_1, M_node_1, M_parent_1, M_rule_1, M_child_1, M_proof_1)
def fM_proofRule (M_fits : Int32) (M_proofSize : Int32) (M_now : Nat → Int32) (M_trial : Nat → Int32) (M_node : Nat → Int32) (M_parent : Nat → Int32) (M_rule : Nat → Int32) (M_child : Nat → Int32) (M_proof : Nat → Int32) (x1 : Int32) : Option (Int32 × Int32 × Int32 × Int32 × Int32 × Int32 × (Nat → Int32) × (Nat → Int32) × (Nat → Int32) × (Nat → Int32) × (Nat → Int32) × (Nat → Int32)) :=
  bd12 (fM_layProof M_fits M_proofSize M_now M_trial M_node M_parent M_rule M_child M_proof) fun t1 M_nodes_1 M_solved_1 M_dropped_1 M_fits_1 M_proofSize_1 M_trial_1 M_node_1 M_parent_1 M_rule_1 M_child_1 M_proof_1 =>
  if t1 = 0 then
    some (((-9) : Int32), M_nodes_1, M_solved_1, M_dropped_1, M_fits_1, M_proofSize_1, M_trial_1, M_node_1, M_parent_1, M_rule_1, M_child_1, M_proof_1)
  else
  bd1 (fM_in (Int32.toInt64 x1) (0 : Int64) (Int32.toInt64 (M_proofSize_1 - (1 : Int32)))) fun t20 =>
  if t20 = 0 then
    some (((-1) : Int32), M_nodes_1, M_solved_1, M_dropped_1, M_fits_1, M_proofSize_1, M_trial_1, M_node_1, M_parent_1, M_rule_1, M_child_1, M_proof_1)
  else
  ld M_proof_1 200 x1 fun t35 =>
  ld M_rule_1 200 t35 fun t36 =>
  some (t36, M_nodes_1, M_solved_1, M_dropped_1, M_fits_1, M_proofSize_1, M_trial_1, M_node_1, M_parent_1, M_rule_1, M_child_1, M_proof_1)
def fM_putAhead_75 (k40 : (Nat → Int32) → Int32 → Option (Int32 × (Nat → Int32) × (Nat → Int32) × (Nat → Int32))) (M_tooLong : Int32) (M_witness : Nat → Int32) (M_witnessSize : Nat → Int32) (M_built : Nat → Int32) (v1 : Int32) (v2 : Int32) (v3 : Int32) (v4 : Int32) (s1 : Int32) (s2 : Int32) : Option (Int32 × (Nat → Int32) × (Nat → Int32) × (Nat → Int32)) :=
  sti M_built 60 s1 s2 fun M_built_75 =>
  st (v4 + (1 : Int32)) fun t76 =>
  k40 M_built_75 t76
def fM_putAhead_136 (M_tooLong : Int32) (M_witnessSize : Nat → Int32) (M_built : Nat → Int32) (v1 : Int32) (k136 : (Nat → Int32) → Int32 → Option (Int32 × (Nat → Int32) × (Nat → Int32) × (Nat → Int32))) (M_witness : Nat → Int32) (v4 : Int32) : Option (Int32 × (Nat → Int32) × (Nat → Int32) × (Nat → Int32)) :=
  ld M_witnessSize 4 v1 fun t143 =>
  if t143 ≤ v4 then
    some (M_tooLong, M_witness, M_witnessSize, M_built)
  else
  ld M_built 60 v4 fun t164 =>
  sti M_witness 240 (((60 : Int32) * v1) + v4) t164 fun M_witness_165 =>
  st (v4 + (1 : Int32)) fun t166 =>
  k136 M_witness_165 t166
def fM_putAhead_85 (M_tooLong : Int32) (M_witness : Nat → Int32) (M_witnessSize : Nat → Int32) (v1 : Int32) (v3 : Int32) (k85 : (Nat → Int32) → Int32 → Option (Int32 × (Nat → Int32) × (Nat → Int32) × (Nat → Int32))) (M_built : Nat → Int32) (v4 : Int32) : Option (Int32 × (Nat → Int32) × (Nat → Int32) × (Nat → Int32)) :=
  ld M_witnessSize 4 v1 fun t92 =>
  if t92 ≤ v4 then
    ld M_witnessSize 4 v1 fun t129 =>
    sti M_witnessSize 4 v1 (t129 + v3) fun M_witnessSize_132 =>
    fx2 (fM_putAhead_136 M_tooLong M_witnessSize_132 M_built v1) FU M_witness (0 : Int32)
  else
  ld M_witness 240 (((60 : Int32) * v1) + v4) fun t115 =>
  sti M_built 60 (v3 + v4) t115 fun M_built_116 =>
  st (v4 + (1 : Int32)) fun t117 =>
  k85 M_built_116 t117
def fM_putAhead_40 (M_tooLong : Int32) (M_witness : Nat → Int32) (M_witnessSize : Nat → Int32) (v1 : Int32) (v2 : Int32) (v3 : Int32) (k40 : (Nat → Int32) → Int32 → Option (Int32 × (Nat → Int32) × (Nat → Int32) × (Nat → Int32))) (M_built : Nat → Int32) (v4 : Int32) : Option (Int32 × (Nat → Int32) × (Nat → Int32) × (Nat → Int32)) :=
  if v3 ≤ v4 then
    fx2 (fM_putAhead_85 M_tooLong M_witness M_witnessSize v1 v3) FU M_built (0 : Int32)
  else
  if (2 : Int32) ≤ v2 then
    ld M_witness 240 (((60 : Int32) * (v2 - (2 : Int32))) + v4) fun t74 =>
    fM_putAhead_75 k40 M_tooLong M_witness M_witnessSize M_built v1 v2 v3 v4 v4 t74
  else
  fM_putAhead_75 k40 M_tooLong M_witness M_witnessSize M_built v1 v2 v3 v4 v4 v2
def fM_putAhead_17 (M_tooLong : Int32) (M_witness : Nat → Int32) (M_witnessSize : Nat → Int32) (M_built : Nat → Int32) (v1 : Int32) (v2 : Int32) (s0 : Int32) : Option (Int32 × (Nat → Int32) × (Nat → Int32) × (Nat → Int32)) :=
  ld M_witnessSize 4 v1 fun t24 =>
  if (s0 + t24) ≤ (60 : Int32) then
    fx2 (fM_putAhead_40 M_tooLong M_witness M_witnessSize v1 v2 s0) FU M_built (0 : Int32)
  else
  some ((1 : Int32), M_witness, M_witnessSize, M_built)
def fM_putAhead (M_tooLong : Int32) (M_witness : Nat → Int32) (M_witnessSize : Nat → Int32) (M_built : Nat → Int32) (x1 : Int32) (x2 : Int32) : Option (Int32 × (Nat → Int32) × (Nat → Int32) × (Nat → Int32)) :=
  if (2 : Int32) ≤ x2 then
    ld M_witnessSize 4 (x2 - (2 : Int32)) fun t16 =>
    fM_putAhead_17 M_tooLong M_witness M_witnessSize M_built x1 x2 t16
  else
  fM_putAhead_17 M_tooLong M_witness M_witnessSize M_built x1 x2 (1 : Int32)
def fM_layWitness_149 (k41 : Int32 → (Nat → Int32) → (Nat → Int32) → (Nat → Int32) → (Nat → Int32) → Int32 → Option (Int32 × Int32 × Int32 × Int32 × Int32 × Int32 × Int32 × (Nat → Int32) × (Nat → Int32) × (Nat → Int32) × (Nat → Int32) × (Nat → Int32) × (Nat → Int32) × (Nat → Int32) × (Nat → Int32) × (Nat → Int32))) (M_nodes : Int32) (M_solved : Int32) (M_dropped : Int32) (M_fits : Int32) (M_proofSize : Int32) (M_tooLong : Int32) (M_trial : Nat → Int32) (M_node : Nat → Int32) (M_parent : Nat → Int32) (M_rule : Nat → Int32) (M_child : Nat → Int32) (M_proof : Nat → Int32) (M_witness : Nat → Int32) (M_witnessSize : Nat → Int32) (M_built : Nat → Int32) (v1 : Int32) (v2 : Int32) (v3 : Int32) (v4 : Int32) : Option (Int32 × Int32 × Int32 × Int32 × Int32 × Int32 × Int32 × (Nat → Int32) × (Nat → Int32) × (Nat → Int32) × (Nat → Int32) × (Nat → Int32) × (Nat → Int32) × (Nat → Int32) × (Nat → Int32) × (Nat → Int32)) :=
  if v2 = (4 : Int32) then
    bd4 (fM_putAhead M_tooLong M_witness M_witnessSize M_built (v4 - (2 : Int32)) v3) fun M_tooLong_160 M_witness_160 M_witnessSize_160 M_built_160 =>
    st (v1 + ((-1) : Int32)) fun t163 =>
    k41 M_tooLong_160 M_trial M_witness_160 M_witnessSize_160 M_built_160 t163
  else
  st (v1 + ((-1) : Int32)) fun t163 =>
  k41 M_tooLong M_trial M_witness M_witnessSize M_built t163
def fM_layWitness_135 (k41 : Int32 → (Nat → Int32) → (Nat → Int32) → (Nat → Int32) → (Nat → Int32) → Int32 → Option (Int32 × Int32 × Int32 × Int32 × Int32 × Int32 × Int32 × (Nat → Int32) × (Nat → Int32) × (Nat → Int32) × (Nat → Int32) × (Nat → Int32) × (Nat → Int32) × (Nat → Int32) × (Nat → Int32) × (Nat → Int32))) (M_nodes : Int32) (M_solved : Int32) (M_dropped : Int32) (M_fits : Int32) (M_proofSize : Int32) (M_tooLong : Int32) (M_trial : Nat → Int32) (M_node : Nat → Int32) (M_parent : Nat → Int32) (M_rule : Nat → Int32) (M_child : Nat → Int32) (M_proof : Nat → Int32) (M_witness : Nat → Int32) (M_witnessSize : Nat → Int32) (M_built : Nat → Int32) (v1 : Int32) (v2 : Int32) (v3 : Int32) (v4 : Int32) : Option (Int32 × Int32 × Int32 × Int32 × Int32 × Int32 × Int32 × (Nat → Int32) × (Nat → Int32) × (Nat → Int32) × (Nat → Int32) × (Nat → Int32) × (Nat → Int32) × (Nat → Int32) × (Nat → Int32) × (Nat → Int32)) :=
  if v2 = (3 : Int32) then
    bd4 (fM_putAhead M_tooLong M_witness M_witnessSize M_built (v3 - (2 : Int32)) v4) fun M_tooLong_146 M_witness_146 M_witnessSize_146 M_built_146 =>
    fM_layWitness_149 k41 M_nodes M_solved M_dropped M_fits M_proofSize M_tooLong_146 M_trial M_node M_parent M_rule M_child M_proof M_witness_146 M_witnessSize_146 M_built_146 v1 v2 v3 v4
  else
  fM_layWitness_149 k41 M_nodes M_solved M_dropped M_fits M_proofSize M_tooLong M_trial M_node M_parent M_rule M_child M_proof M_witness M_witnessSize M_built v1 v2 v3 v4
def fM_layWitness_131 (k41 : Int32 → (Nat → Int32) → (Nat → Int32) → (Nat → Int32) → (Nat → Int32) → Int32 → Option (Int32 × Int32 × Int32 × Int32 × Int32 × Int32 × Int32 × (Nat → Int32) × (Nat → Int32) × (Nat → Int32) × (Nat → Int32) × (Nat → Int32) × (Nat → Int32) × (Nat → Int32) × (Nat → Int32) × (Nat → Int32))) (M_nodes : Int32) (M_solved : Int32) (M_dropped : Int32) (M_fits : Int32) (M_proofSize : Int32) (M_tooLong : Int32) (M_trial : Nat → Int32) (M_node : Nat → Int32) (M_parent : Nat → Int32) (M_rule : Nat → Int32) (M_child : Nat → Int32) (M_proof : Nat → Int32) (M_witness : Nat → Int32) (M_witnessSize : Nat → Int32) (M_built : Nat → Int32) (v1 : Int32) (v2 : Int32) (v3 : Int32) (v4 : Int32) (s1 : Int32) : Option (Int32 × Int32 × Int32 × Int32 × Int32 × Int32 × Int32 × (Nat → Int32) × (Nat → Int32) × (Nat → Int32) × (Nat → Int32) × (Nat → Int32) × (Nat → Int32) × (Nat → Int32) × (Nat → Int32) × (Nat → Int32)) :=
  sti M_witnessSize 4 (s1 - (2 : Int32)) (0 : Int32) fun M_witnessSize_134 =>
  fM_layWitness_135 k41 M_nodes M_solved M_dropped M_fits M_proofSize M_tooLong M_trial M_node M_parent M_rule M_child M_proof M_witness M_witnessSize_134 M_built v1 v2 v3 v4
def fM_layWitness_116 (k41 : Int32 → (Nat → Int32) → (Nat → Int32) → (Nat → Int32) → (Nat → Int32) → Int32 → Option (Int32 × Int32 × Int32 × Int32 × Int32 × Int32 × Int32 × (Nat → Int32) × (Nat → Int32) × (Nat → Int32) × (Nat → Int32) × (Nat → Int32) × (Nat → Int32) × (Nat → Int32) × (Nat → Int32) × (Nat → Int32))) (M_nodes : Int32) (M_solved : Int32) (M_dropped : Int32) (M_fits : Int32) (M_proofSize : Int32) (M_tooLong : Int32) (M_trial : Nat → Int32) (M_node : Nat → Int32) (M_parent : Nat → Int32) (M_rule : Nat → Int32) (M_child : Nat → Int32) (M_proof : Nat → Int32) (M_witness : Nat → Int32) (M_witnessSize : Nat → Int32) (M_built : Nat → Int32) (v1 : Int32) (v2 : Int32) (v3 : Int32) (v4 : Int32) : Option (Int32 × Int32 × Int32 × Int32 × Int32 × Int32 × Int32 × (Nat → Int32) × (Nat → Int32) × (Nat → Int32) × (Nat → Int32) × (Nat → Int32) × (Nat → Int32) × (Nat → Int32) × (Nat → Int32) × (Nat → Int32)) :=
  if v2 = (1 : Int32) then
    fM_layWitness_131 k41 M_nodes M_solved M_dropped M_fits M_proofSize M_tooLong M_trial M_node M_parent M_rule M_child M_proof M_witness M_witnessSize M_built v1 v2 v3 v4 v3
  else
  fM_layWitness_131 k41 M_nodes M_solved M_dropped M_fits M_proofSize M_tooLong M_trial M_node M_parent M_rule M_child M_proof M_witness M_witnessSize M_built v1 v2 v3 v4 v4
def fM_layWitness_169 (M_nodes : Int32) (M_solved : Int32) (M_dropped : Int32) (M_fits : Int32) (M_proofSize : Int32) (M_tooLong : Int32) (M_trial : Nat → Int32) (M_node : Nat → Int32) (M_parent : Nat → Int32) (M_rule : Nat → Int32) (M_child : Nat → Int32) (M_proof : Nat → Int32) (M_witness : Nat → Int32) (M_witnessSize : Nat → Int32) (M_built : Nat → Int32) : Option (Int32 × Int32 × Int32 × Int32 × Int32 × Int32 × Int32 × (Nat → Int32) × (Nat → Int32) × (Nat → Int32) × (Nat → Int32) × (Nat → Int32) × (Nat → Int32) × (Nat → Int32) × (Nat → Int32) × (Nat → Int32)) :=
  if M_tooLong = 0 then
    some ((1 : Int32), M_nodes, M_solved, M_dropped, M_fits, M_proofSize, M_tooLong, M_trial, M_node, M_parent, M_rule, M_child, M_proof, M_witness, M_witnessSize, M_built)
  else
  some ((0 : Int32), M_nodes, M_solved, M_dropped, M_fits, M_proofSize, M_tooLong, M_trial, M_node, M_parent, M_rule, M_child, M_proof, M_witness, M_witnessSize, M_built)
def fM_layWitness_41 (M_nodes : Int32) (M_solved : Int32) (M_dropped : Int32) (M_fits : Int32) (M_proofSize : Int32) (M_node : Nat → Int32) (M_parent : Nat → Int32) (M_rule : Nat → Int32) (M_child : Nat → Int32) (M_proof : Nat → Int32) (k41 : Int32 → (Nat → Int32) → (Nat → Int32) → (Nat → Int32) → (Nat → Int32) → Int32 → Option (Int32 × Int32 × Int32 × Int32 × Int32 × Int32 × Int32 × (Nat → Int32) × (Nat → Int32) × (Nat → Int32) × (Nat → Int32) × (Nat → Int32) × (Nat → Int32) × (Nat → Int32) × (Nat → Int32) × (Nat → Int32))) (M_tooLong : Int32) (M_trial : Nat → Int32) (M_witness : Nat → Int32) (M_witnessSize : Nat → Int32) (M_built : Nat → Int32) (v1 : Int32) : Option (Int32 × Int32 × Int32 × Int32 × Int32 × Int32 × Int32 × (Nat → Int32) × (Nat → Int32) × (Nat → Int32) × (Nat → Int32) × (Nat → Int32) × (Nat → Int32) × (Nat → Int32) × (Nat → Int32) × (Nat → Int32)) :=
  if v1 < 0 then
    fM_layWitness_169 M_nodes M_solved M_dropped M_fits M_proofSize M_tooLong M_trial M_node M_parent M_rule M_child M_proof M_witness M_witnessSize M_built
  else
  if M_tooLong = 0 then
    ld M_proof 200 v1 fun t61 =>
    ld M_rule 200 t61 fun t62 =>
    ld M_proof 200 v1 fun t74 =>
    ld M_parent 200 t74 fun t75 =>
    bd1 (fM_layNode M_node M_trial t75) fun M_trial_80 =>
    bd1 (fM_at (0 : Int32) (0 : Int32)) fun t89 =>
    ld M_trial_80 26 t89 fun t92 =>
    bd1 (fM_at (1 : Int32) (0 : Int32)) fun t100 =>
    ld M_trial_80 26 t100 fun t103 =>
    if t62 = (1 : Int32) then
      fM_layWitness_116 k41 M_nodes M_solved M_dropped M_fits M_proofSize M_tooLong M_trial_80 M_node M_parent M_rule M_child M_proof M_witness M_witnessSize M_built v1 t62 t92 t103
    else
    if t62 = (2 : Int32) then
      fM_layWitness_116 k41 M_nodes M_solved M_dropped M_fits M_proofSize M_tooLong M_trial_80 M_node M_parent M_rule M_child M_proof M_witness M_witnessSize M_built v1 t62 t92 t103
    else
    fM_layWitness_135 k41 M_nodes M_solved M_dropped M_fits M_proofSize M_tooLong M_trial_80 M_node M_parent M_rule M_child M_proof M_witness M_witnessSize M_built v1 t62 t92 t103
  else
  fM_layWitness_169 M_nodes M_solved M_dropped M_fits M_proofSize M_tooLong M_trial M_node M_parent M_rule M_child M_proof M_witness M_witnessSize M_built
def fM_layWitness_16 (M_nodes : Int32) (M_solved : Int32) (M_dropped : Int32) (M_fits : Int32) (M_proofSize : Int32) (M_tooLong : Int32) (M_trial : Nat → Int32) (M_node : Nat → Int32) (M_parent : Nat → Int32) (M_rule : Nat → Int32) (M_child : Nat → Int32) (M_proof : Nat → Int32) (M_witness : Nat → Int32) (M_built : Nat → Int32) (k16 : (Nat → Int32) → Int32 → Option (Int32 × Int32 × Int32 × Int32 × Int32 × Int32 × Int32 × (Nat → Int32) × (Nat → Int32) × (Nat → Int32) × (Nat → Int32) × (Nat → Int32) × (Nat → Int32) × (Nat → Int32) × (Nat → Int32) × (Nat → Int32))) (M_witnessSize : Nat → Int32) (v1 : Int32) : Option (Int32 × Int32 × Int32 × Int32 × Int32 × Int32 × Int32 × (Nat → Int32) × (Nat → Int32) × (Nat → Int32) × (Nat → Int32) × (Nat → Int32) × (Nat → Int32) × (Nat → Int32) × (Nat → Int32) × (Nat → Int32)) :=
  if (4 : Int32) ≤ v1 then
    st (M_proofSize - (1 : Int32)) fun t40 =>
    fx6 (fM_layWitness_41 M_nodes M_solved M_dropped M_fits M_proofSize M_node M_parent M_rule M_child M_proof) FU M_tooLong M_trial M_witness M_witnessSize M_built t40
  else
  sti M_witnessSize 4 v1 (0 : Int32) fun M_witnessSize_27 =>
  st (v1 + (1 : Int32)) fun t28 =>
  k16 M_witnessSize_27 t28
def fM_layWitness (M_fits : Int32) (M_proofSize : Int32) (M_tooLong : Int32) (M_now : Nat → Int32) (M_trial : Nat → Int32) (M_node : Nat → Int32) (M_parent : Nat → Int32) (M_rule : Nat → Int32) (M_child : Nat → Int32) (M_proof : Nat → Int32) (M_witness : Nat → Int32) (M_witnessSize : Nat → Int32) (M_built : Nat → Int32) : Option (Int32 × Int32 × Int32 × Int32 × Int32 × Int32 × Int32 × (Nat → Int32) × (Nat → Int32) × (Nat → Int32) × (Nat → Int32) × (Nat → Int32) × (Nat → Int32) × (Nat → Int32) × (Nat → Int32) × (Nat → Int32)) :=
  bd12 (fM_layProof M_fits M_proofSize M_now M_trial M_node M_parent M_rule M_child M_proof) fun t1 M_nodes_1 M_solved_1 M_dropped_1 M_fits_1 M_proofSize_1 M_trial_1 M_node_1 M_parent_1 M_rule_1 M_child_1 M_proof_1 =>
  if t1 = 0 then
    some ((0 : Int32), M_nodes_1, M_solved_1, M_dropped_1, M_fits_1, M_proofSize_1, M_tooLong, M_trial_1, M_node_1, M_parent_1, M_rule_1, M_child_1, M_proof_1, M_witness, M_witnessSize, M_built)
  else
  fx2 (fM_layWitness_16 M_nodes_1 M_solved_1 M_dropped_1 M_fits_1 M_proofSize_1 (0 : Int32) M_trial_1 M_node_1 M_parent_1 M_rule_1 M_child_1 M_proof_1 M_witness M_built) FU M_witnessSize (0 : Int32)
def fM_witnessLength (M_nodes : Int32) (M_solved : Int32) (M_dropped : Int32) (M_fits : Int32) (M_proofSize : Int32) (M_tooLong : Int32) (M_now : Nat → Int32) (M_trial : Nat → Int32) (M_node : Nat → Int32) (M_parent : Nat → Int32) (M_rule : Nat → Int32) (M_child : Nat → Int32) (M_proof : Nat → Int32) (M_witness : Nat → Int32) (M_witnessSize : Nat → Int32) (M_built : Nat → Int32) (x1 : Int32) : Option (Int32 × Int32 × Int32 × Int32 × Int32 × Int32 × Int32 × (Nat → Int32) × (Nat → Int32) × (Nat → Int32) × (Nat → Int32) × (Nat → Int32) × (Nat → Int32) × (Nat → Int32) × (Nat → Int32) × (Nat → Int32)) :=
  bd1 (fM_isVariable x1) fun t1 =>
  if t1 = 0 then
    some (((-1) : Int32), M_nodes, M_solved, M_dropped, M_fits, M_proofSize, M_tooLong, M_trial, M_node, M_parent, M_rule, M_child, M_proof, M_witness, M_witnessSize, M_built)
  else
  bd16 (fM_layWitness M_fits M_proofSize M_tooLong M_now M_trial M_node M_parent M_rule M_child M_proof M_witness M_witnessSize M_built) fun t10 M_nodes_10 M_solved_10 M_dropped_10 M_fits_10 M_proofSize_10 M_tooLong_10 M_trial_10 M_node_10 M_parent_10 M_rule_10 M_child_10 M_proof_10 M_witness_10 M_witnessSize_10 M_built_10 =>
  if t10 = 0 then
    some (((-9) : Int32), M_nodes_10, M_solved_10, M_dropped_10, M_fits_10, M_proofSize_10, M_tooLong_10, M_trial_10, M_node_10, M_parent_10, M_rule_10, M_child_10, M_proof_10, M_witness_10, M_witnessSize_10, M_built_10)
  else
  ld M_witnessSize_10 4 x1 fun t21 =>
  some (t21, M_nodes_10, M_solved_10, M_dropped_10, M_fits_10, M_proofSize_10, M_tooLong_10, M_trial_10, M_node_10, M_parent_10, M_rule_10, M_child_10, M_proof_10, M_witness_10, M_witnessSize_10, M_built_10)
def fM_witnessLetter (M_nodes : Int32) (M_solved : Int32) (M_dropped : Int32) (M_fits : Int32) (M_proofSize : Int32) (M_tooLong : Int32) (M_now : Nat → Int32) (M_trial : Nat → Int32) (M_node : Nat → Int32) (M_parent : Nat → Int32) (M_rule : Nat → Int32) (M_child : Nat → Int32) (M_proof : Nat → Int32) (M_witness : Nat → Int32) (M_witnessSize : Nat → Int32) (M_built : Nat → Int32) (x1 : Int32) (x2 : Int32) : Option (Int32 × Int32 × Int32 × Int32 × Int32 × Int32 × Int32 × (Nat → Int32) × (Nat → Int32) × (Nat → Int32) × (Nat → Int32) × (Nat → Int32) × (Nat → Int32) × (Nat → Int32) × (Nat → Int32) × (Nat → Int32)) :=
  bd1 (fM_isVariable x1) fun t1 =>
  if t1 = 0 then
    some (((-1) : Int32), M_nodes, M_solved, M_dropped, M_fits, M_proofSize, M_tooLong, M_trial, M_node, M_parent, M_rule, M_child, M_proof, M_witness, M_witnessSize, M_built)
  else
  bd16 (fM_layWitness M_fits M_proofSize M_tooLong M_now M_trial M_node M_parent M_rule M_child M_proof M_witness M_witnessSize M_built) fun t10 M_nodes_10 M_solved_10 M_dropped_10 M_fits_10 M_proofSize_10 M_tooLong_10 M_trial_10 M_node_10 M_parent_10 M_rule_10 M_child_10 M_proof_10 M_witness_10 M_witnessSize_10 M_built_10 =>
  if t10 = 0 then
    some (((-9) : Int32), M_nodes_10, M_solved_10, M_dropped_10, M_fits_10, M_proofSize_10, M_tooLong_10, M_trial_10, M_node_10, M_parent_10, M_rule_10, M_child_10, M_proof_10, M_witness_10, M_witnessSize_10, M_built_10)
  else
  ld M_witnessSize_10 4 x1 fun t24 =>
  bd1 (fM_in (Int32.toInt64 x2) (0 : Int64) (Int32.toInt64 (t24 - (1 : Int32)))) fun t28 =>
  if t28 = 0 then
    some (((-9) : Int32), M_nodes_10, M_solved_10, M_dropped_10, M_fits_10, M_proofSize_10, M_tooLong_10, M_trial_10, M_node_10, M_parent_10, M_rule_10, M_child_10, M_proof_10, M_witness_10, M_witnessSize_10, M_built_10)
  else
  ld M_witness_10 240 (((60 : Int32) * x1) + x2) fun t44 =>
  bd1 (fM_charOf t44) fun t45 =>
  some (t45, M_nodes_10, M_solved_10, M_dropped_10, M_fits_10, M_proofSize_10, M_tooLong_10, M_trial_10, M_node_10, M_parent_10, M_rule_10, M_child_10, M_proof_10, M_witness_10, M_witnessSize_10, M_built_10)
def fM_thousands_4 (v0 : Int32) (k4 : Int64 → Int32 → Option (Int64)) (v1 : Int64) (v3 : Int32) : Option (Int64) :=
  if v0 ≤ v3 then
    some v1
  else
  st (v1 * (1000 : Int64)) fun t14 =>
  st (v3 + (1 : Int32)) fun t15 =>
  k4 t14 t15
def fM_thousands (x0 : Int32) : Option (Int64) :=
  fx2 (fM_thousands_4 x0) FU (1 : Int64) (0 : Int32)
def fM_command_65 (M_found : Int32) (M_shortest : Int32) (M_nodes : Int32) (M_solved : Int32) (M_dropped : Int32) (M_fits : Int32) (M_trial : Nat → Int32) (M_word : Nat → Int32) (M_size : Nat → Int32) (M_number : Nat → Int32) (M_firstOne : Nat → Int32) (M_node : Nat → Int32) (M_parent : Nat → Int32) (M_rule : Nat → Int32) (M_child : Nat → Int32) (M_copyRow : Nat → Int32) (v2 : Int32) (v3 : Int32) : Option (Int32 × Int32 × Int32 × Int32 × Int32 × Int32 × Int32 × (Nat → Int32) × (Nat → Int32) × (Nat → Int32) × (Nat → Int32) × (Nat → Int32) × (Nat → Int32) × (Nat → Int32) × (Nat → Int32) × (Nat → Int32) × (Nat → Int32)) :=
  if (v2 + v3) = 0 then
    some ((1 : Int32), M_found, M_shortest, M_nodes, M_solved, M_dropped, M_fits, M_trial, M_word, M_size, M_number, M_firstOne, M_node, M_parent, M_rule, M_child, M_copyRow)
  else
  some ((0 : Int32), M_found, M_shortest, M_nodes, M_solved, M_dropped, M_fits, M_trial, M_word, M_size, M_number, M_firstOne, M_node, M_parent, M_rule, M_child, M_copyRow)
def fM_command_90 (M_found : Int32) (M_shortest : Int32) (M_nodes : Int32) (M_solved : Int32) (M_dropped : Int32) (M_fits : Int32) (M_trial : Nat → Int32) (M_word : Nat → Int32) (M_size : Nat → Int32) (M_number : Nat → Int32) (M_firstOne : Nat → Int32) (M_node : Nat → Int32) (M_parent : Nat → Int32) (M_rule : Nat → Int32) (M_child : Nat → Int32) (M_copyRow : Nat → Int32) (v2 : Int32) (v3 : Int32) : Option (Int32 × Int32 × Int32 × Int32 × Int32 × Int32 × Int32 × (Nat → Int32) × (Nat → Int32) × (Nat → Int32) × (Nat → Int32) × (Nat → Int32) × (Nat → Int32) × (Nat → Int32) × (Nat → Int32) × (Nat → Int32) × (Nat → Int32)) :=
  if (v2 + v3) = 0 then
    some ((1 : Int32), M_found, M_shortest, M_nodes, M_solved, M_dropped, M_fits, M_trial, M_word, M_size, M_number, M_firstOne, M_node, M_parent, M_rule, M_child, M_copyRow)
  else
  some ((0 : Int32), M_found, M_shortest, M_nodes, M_solved, M_dropped, M_fits, M_trial, M_word, M_size, M_number, M_firstOne, M_node, M_parent, M_rule, M_child, M_copyRow)
def fM_command_119 (M_found : Int32) (M_shortest : Int32) (M_nodes : Int32) (M_solved : Int32) (M_dropped : Int32) (M_fits : Int32) (M_trial : Nat → Int32) (M_word : Nat → Int32) (M_size : Nat → Int32) (M_number : Nat → Int32) (M_firstOne : Nat → Int32) (M_node : Nat → Int32) (M_parent : Nat → Int32) (M_rule : Nat → Int32) (M_child : Nat → Int32) (M_copyRow : Nat → Int32) (v2 : Int32) (v3 : Int32) (s0 : Int32) : Option (Int32 × Int32 × Int32 × Int32 × Int32 × Int32 × Int32 × (Nat → Int32) × (Nat → Int32) × (Nat → Int32) × (Nat → Int32) × (Nat → Int32) × (Nat → Int32) × (Nat → Int32) × (Nat → Int32) × (Nat → Int32) × (Nat → Int32)) :=
  if (v2 + v3) = 0 then
    some ((1 : Int32), M_found, M_shortest, M_nodes, M_solved, M_dropped, M_fits, M_trial, M_word, M_size, M_number, M_firstOne, M_node, M_parent, M_rule, M_child, M_copyRow)
  else
  some ((0 : Int32), M_found, M_shortest, M_nodes, M_solved, M_dropped, M_fits, M_trial, M_word, M_size, M_number, M_firstOne, M_node, M_parent, M_rule, M_child, M_copyRow)
def fM_command (M_many : Int32) (M_found : Int32) (M_shortest : Int32) (M_nodes : Int32) (M_solved : Int32) (M_dropped : Int32) (M_fits : Int32) (M_trial : Nat → Int32) (M_constraint : Nat → Int32) (M_word : Nat → Int32) (M_size : Nat → Int32) (M_number : Nat → Int32) (M_firstOne : Nat → Int32) (M_node : Nat → Int32) (M_parent : Nat → Int32) (M_rule : Nat → Int32) (M_child : Nat → Int32) (M_copyRow : Nat → Int32) (x1 : Int32) (x2 : Int32) (x3 : Int32) : Option (Int32 × Int32 × Int32 × Int32 × Int32 × Int32 × Int32 × (Nat → Int32) × (Nat → Int32) × (Nat → Int32) × (Nat → Int32) × (Nat → Int32) × (Nat → Int32) × (Nat → Int32) × (Nat → Int32) × (Nat → Int32) × (Nat → Int32)) :=
  if x1 = (1 : Int32) then
    if (x2 + x3) = 0 then
      bd1 (fM_swapIn M_copyRow) fun M_copyRow_62 =>
      fM_command_65 M_found M_shortest M_nodes M_solved M_dropped M_fits M_trial M_word M_size M_number M_firstOne M_node M_parent M_rule M_child M_copyRow_62 x2 x3
    else
    fM_command_65 M_found M_shortest M_nodes M_solved M_dropped M_fits M_trial M_word M_size M_number M_firstOne M_node M_parent M_rule M_child M_copyRow x2 x3
  else
  if x1 = (2 : Int32) then
    if (x2 + x3) = 0 then
      bd1 (fM_reverseIn M_copyRow) fun M_copyRow_87 =>
      fM_command_90 M_found M_shortest M_nodes M_solved M_dropped M_fits M_trial M_word M_size M_number M_firstOne M_node M_parent M_rule M_child M_copyRow_87 x2 x3
    else
    fM_command_90 M_found M_shortest M_nodes M_solved M_dropped M_fits M_trial M_word M_size M_number M_firstOne M_node M_parent M_rule M_child M_copyRow x2 x3
  else
  if x1 = (3 : Int32) then
    if (x2 + x3) = 0 then
      bd2 (fM_cancelIn M_copyRow) fun t112 M_copyRow_112 =>
      fM_command_119 M_found M_shortest M_nodes M_solved M_dropped M_fits M_trial M_word M_size M_number M_firstOne M_node M_parent M_rule M_child M_copyRow_112 x2 x3 t112
    else
    fM_command_119 M_found M_shortest M_nodes M_solved M_dropped M_fits M_trial M_word M_size M_number M_firstOne M_node M_parent M_rule M_child M_copyRow x2 x3 (0 : Int32)
  else
  if x1 = (4 : Int32) then
    bd1 (fM_isVariable x2) fun t134 =>
    if t134 = 0 then
      some ((0 : Int32), M_found, M_shortest, M_nodes, M_solved, M_dropped, M_fits, M_trial, M_word, M_size, M_number, M_firstOne, M_node, M_parent, M_rule, M_child, M_copyRow)
    else
    if x3 = 0 then
      bd2 (fM_eliminateIn M_copyRow x2) fun t151 M_copyRow_151 =>
      some ((1 : Int32), M_found, M_shortest, M_nodes, M_solved, M_dropped, M_fits, M_trial, M_word, M_size, M_number, M_firstOne, M_node, M_parent, M_rule, M_child, M_copyRow_151)
    else
    some ((0 : Int32), M_found, M_shortest, M_nodes, M_solved, M_dropped, M_fits, M_trial, M_word, M_size, M_number, M_firstOne, M_node, M_parent, M_rule, M_child, M_copyRow)
  else
  if x1 = (5 : Int32) then
    bd1 (fM_in (Int32.toInt64 x2) (0 : Int64) (1 : Int64)) fun t162 =>
    if t162 = 0 then
      some ((0 : Int32), M_found, M_shortest, M_nodes, M_solved, M_dropped, M_fits, M_trial, M_word, M_size, M_number, M_firstOne, M_node, M_parent, M_rule, M_child, M_copyRow)
    else
    ld M_copyRow 26 x2 fun t173 =>
    if t173 = x3 then
      some ((1 : Int32), M_found, M_shortest, M_nodes, M_solved, M_dropped, M_fits, M_trial, M_word, M_size, M_number, M_firstOne, M_node, M_parent, M_rule, M_child, M_copyRow)
    else
    some ((0 : Int32), M_found, M_shortest, M_nodes, M_solved, M_dropped, M_fits, M_trial, M_word, M_size, M_number, M_firstOne, M_node, M_parent, M_rule, M_child, M_copyRow)
  else
  if x1 = (6 : Int32) then
    bd6 (fM_lookThrough M_many M_constraint M_word M_size M_number M_firstOne M_copyRow (2 : Int32)) fun M_found_190 M_shortest_190 M_word_190 M_size_190 M_number_190 M_firstOne_190 =>
    if M_found_190 = (((10 : Int32) * x2) + x3) then
      some ((1 : Int32), M_found_190, M_shortest_190, M_nodes, M_solved, M_dropped, M_fits, M_trial, M_word_190, M_size_190, M_number_190, M_firstOne_190, M_node, M_parent, M_rule, M_child, M_copyRow)
    else
    some ((0 : Int32), M_found_190, M_shortest_190, M_nodes, M_solved, M_dropped, M_fits, M_trial, M_word_190, M_size_190, M_number_190, M_firstOne_190, M_node, M_parent, M_rule, M_child, M_copyRow)
  else
  if x1 = (7 : Int32) then
    if x2 = 0 then
      if (3 : Int32) ≤ x3 then
        some ((0 : Int32), M_found, M_shortest, M_nodes, M_solved, M_dropped, M_fits, M_trial, M_word, M_size, M_number, M_firstOne, M_node, M_parent, M_rule, M_child, M_copyRow)
      else
      bd10 (fM_search M_fits M_trial M_node M_parent M_rule M_child M_copyRow) fun t226 M_nodes_226 M_solved_226 M_dropped_226 M_fits_226 M_trial_226 M_node_226 M_parent_226 M_rule_226 M_child_226 =>
      if t226 = x3 then
        some ((1 : Int32), M_found, M_shortest, M_nodes_226, M_solved_226, M_dropped_226, M_fits_226, M_trial_226, M_word, M_size, M_number, M_firstOne, M_node_226, M_parent_226, M_rule_226, M_child_226, M_copyRow)
      else
      some ((0 : Int32), M_found, M_shortest, M_nodes_226, M_solved_226, M_dropped_226, M_fits_226, M_trial_226, M_word, M_size, M_number, M_firstOne, M_node_226, M_parent_226, M_rule_226, M_child_226, M_copyRow)
    else
    some ((0 : Int32), M_found, M_shortest, M_nodes, M_solved, M_dropped, M_fits, M_trial, M_word, M_size, M_number, M_firstOne, M_node, M_parent, M_rule, M_child, M_copyRow)
  else
  if x1 = (8 : Int32) then
    bd1 (fM_isVariable x2) fun t240 =>
    if t240 = 0 then
      some ((0 : Int32), M_found, M_shortest, M_nodes, M_solved, M_dropped, M_fits, M_trial, M_word, M_size, M_number, M_firstOne, M_node, M_parent, M_rule, M_child, M_copyRow)
    else
    bd1 (fM_countOf M_copyRow (0 : Int32) (x2 + (2 : Int32))) fun t254 =>
    bd1 (fM_countOf M_copyRow (1 : Int32) (x2 + (2 : Int32))) fun t265 =>
    if (t254 + t265) = x3 then
      some ((1 : Int32), M_found, M_shortest, M_nodes, M_solved, M_dropped, M_fits, M_trial, M_word, M_size, M_number, M_firstOne, M_node, M_parent, M_rule, M_child, M_copyRow)
    else
    some ((0 : Int32), M_found, M_shortest, M_nodes, M_solved, M_dropped, M_fits, M_trial, M_word, M_size, M_number, M_firstOne, M_node, M_parent, M_rule, M_child, M_copyRow)
  else
  some ((0 : Int32), M_found, M_shortest, M_nodes, M_solved, M_dropped, M_fits, M_trial, M_word, M_size, M_number, M_firstOne, M_node, M_parent, M_rule, M_child, M_copyRow)
def fM_runScript_43 (M_many : Int32) (M_constraint : Nat → Int32) (v1 : Int32) (v2 : Int64) (k43 : Int32 → Int32 → Int32 → Int32 → Int32 → Int32 → (Nat → Int32) → (Nat → Int32) → (Nat → Int32) → (Nat → Int32) → (Nat → Int32) → (Nat → Int32) → (Nat → Int32) → (Nat → Int32) → (Nat → Int32) → (Nat → Int32) → Int32 → Option (Int32 × Int32 × Int32 × Int32 × Int32 × Int32 × Int32 × (Nat → Int32) × (Nat → Int32) × (Nat → Int32) × (Nat → Int32) × (Nat → Int32) × (Nat → Int32) × (Nat → Int32) × (Nat → Int32) × (Nat → Int32) × (Nat → Int32))) (M_found : Int32) (M_shortest : Int32) (M_nodes : Int32) (M_solved : Int32) (M_dropped : Int32) (M_fits : Int32) (M_trial : Nat → Int32) (M_word : Nat → Int32) (M_size : Nat → Int32) (M_number : Nat → Int32) (M_firstOne : Nat → Int32) (M_node : Nat → Int32) (M_parent : Nat → Int32) (M_rule : Nat → Int32) (M_child : Nat → Int32) (M_copyRow : Nat → Int32) (v4 : Int32) : Option (Int32 × Int32 × Int32 × Int32 × Int32 × Int32 × Int32 × (Nat → Int32) × (Nat → Int32) × (Nat → Int32) × (Nat → Int32) × (Nat → Int32) × (Nat → Int32) × (Nat → Int32) × (Nat → Int32) × (Nat → Int32) × (Nat → Int32)) :=
  if v1 ≤ v4 then
    some (((-9) : Int32), M_found, M_shortest, M_nodes, M_solved, M_dropped, M_fits, M_trial, M_word, M_size, M_number, M_firstOne, M_node, M_parent, M_rule, M_child, M_copyRow)
  else
  bd1 (fM_thousands ((v1 - (1 : Int32)) - v4)) fun t56 =>
  if t56 = 0 then
    none
  else
  st (Int64.toInt32 (remL (v2 / t56) (1000 : Int64))) fun t65 =>
  bd17 (fM_command M_many M_found M_shortest M_nodes M_solved M_dropped M_fits M_trial M_constraint M_word M_size M_number M_firstOne M_node M_parent M_rule M_child M_copyRow (t65 / (100 : Int32)) (rem (t65 / (10 : Int32)) (10 : Int32)) (rem t65 (10 : Int32))) fun t86 M_found_86 M_shortest_86 M_nodes_86 M_solved_86 M_dropped_86 M_fits_86 M_trial_86 M_word_86 M_size_86 M_number_86 M_firstOne_86 M_node_86 M_parent_86 M_rule_86 M_child_86 M_copyRow_86 =>
  if t86 = 0 then
    some (v4, M_found_86, M_shortest_86, M_nodes_86, M_solved_86, M_dropped_86, M_fits_86, M_trial_86, M_word_86, M_size_86, M_number_86, M_firstOne_86, M_node_86, M_parent_86, M_rule_86, M_child_86, M_copyRow_86)
  else
  st (v4 + (1 : Int32)) fun t95 =>
  k43 M_found_86 M_shortest_86 M_nodes_86 M_solved_86 M_dropped_86 M_fits_86 M_trial_86 M_word_86 M_size_86 M_number_86 M_firstOne_86 M_node_86 M_parent_86 M_rule_86 M_child_86 M_copyRow_86 t95
def fM_runScript (M_many : Int32) (M_found : Int32) (M_shortest : Int32) (M_nodes : Int32) (M_solved : Int32) (M_dropped : Int32) (M_fits : Int32) (M_now : Nat → Int32) (M_trial : Nat → Int32) (M_constraint : Nat → Int32) (M_word : Nat → Int32) (M_size : Nat → Int32) (M_number : Nat → Int32) (M_firstOne : Nat → Int32) (M_node : Nat → Int32) (M_parent : Nat → Int32) (M_rule : Nat → Int32) (M_child : Nat → Int32) (M_copyRow : Nat → Int32) (x1 : Int32) (x2 : Int64) : Option (Int32 × Int32 × Int32 × Int32 × Int32 × Int32 × Int32 × (Nat → Int32) × (Nat → Int32) × (Nat → Int32) × (Nat → Int32) × (Nat → Int32) × (Nat → Int32) × (Nat → Int32) × (Nat → Int32) × (Nat → Int32) × (Nat → Int32)) :=
  bd1 (fM_in (Int32.toInt64 x1) (1 : Int64) (4 : Int64)) fun t6 =>
  if t6 = 0 then
    some (((-2) : Int32), M_found, M_shortest, M_nodes, M_solved, M_dropped, M_fits, M_trial, M_word, M_size, M_number, M_firstOne, M_node, M_parent, M_rule, M_child, M_copyRow)
  else
  bd1 (fM_thousands x1) fun t15 =>
  bd1 (fM_in x2 (0 : Int64) (t15 - (1 : Int64))) fun t20 =>
  if t20 = 0 then
    some (((-2) : Int32), M_found, M_shortest, M_nodes, M_solved, M_dropped, M_fits, M_trial, M_word, M_size, M_number, M_firstOne, M_node, M_parent, M_rule, M_child, M_copyRow)
  else
  bd1 (fM_copy M_now M_copyRow) fun M_copyRow_37 =>
  fx17 (fM_runScript_43 M_many M_constraint x1 x2) FU M_found M_shortest M_nodes M_solved M_dropped M_fits M_trial M_word M_size M_number M_firstOne M_node M_parent M_rule M_child M_copyRow_37 (0 : Int32)
def fM_randomChecks_53 (k24 : (Nat → Int32) → (Nat → Int32) → (Nat → Int32) → Int64 → Int32 → Int32 → Option (Int32 × (Nat → Int32) × (Nat → Int32) × (Nat → Int32))) (M_many : Int32) (M_now : Nat → Int32) (M_constraint : Nat → Int32) (M_word : Nat → Int32) (M_size : Nat → Int32) (v3 : Int32) (v4 : Int64) (v6 : Int32) (v7 : Int32) (k53 : (Nat → Int32) → Int32 → Int32 → Option (Int32 × (Nat → Int32) × (Nat → Int32) × (Nat → Int32))) (M_number : Nat → Int32) (v8 : Int32) (v9 : Int32) : Option (Int32 × (Nat → Int32) × (Nat → Int32) × (Nat → Int32)) :=
  if (4 : Int32) ≤ v9 then
    bd3 (fM_isSolution M_many M_constraint M_word M_size M_number M_now) fun t91 M_word_91 M_size_91 =>
    if t91 = 0 then
      st (v6 + (0 : Int32)) fun t103 =>
      st (v7 + (1 : Int32)) fun t105 =>
      k24 M_word_91 M_size_91 M_number v4 t103 t105
    else
    st (v6 + (1 : Int32)) fun t103 =>
    st (v7 + (1 : Int32)) fun t105 =>
    k24 M_word_91 M_size_91 M_number v4 t103 t105
  else
  sti M_number 4 v9 (rem v8 (15 : Int32)) fun M_number_70 =>
  st (v8 / (15 : Int32)) fun t76 =>
  st (v9 + (1 : Int32)) fun t78 =>
  k53 M_number_70 t76 t78
def fM_randomChecks_24 (M_many : Int32) (M_now : Nat → Int32) (M_constraint : Nat → Int32) (v3 : Int32) (k24 : (Nat → Int32) → (Nat → Int32) → (Nat → Int32) → Int64 → Int32 → Int32 → Option (Int32 × (Nat → Int32) × (Nat → Int32) × (Nat → Int32))) (M_word : Nat → Int32) (M_size : Nat → Int32) (M_number : Nat → Int32) (v4 : Int64) (v6 : Int32) (v7 : Int32) : Option (Int32 × (Nat → Int32) × (Nat → Int32) × (Nat → Int32)) :=
  if v3 ≤ v7 then
    some (v6, M_word, M_size, M_number)
  else
  st ((v4 * (6364136223846793005 : Int64)) + (1442695040888963407 : Int64)) fun t40 =>
  st (Int64.toInt32 (ushrL t40 (33 : Int32))) fun t48 =>
  fx3 (fM_randomChecks_53 k24 M_many M_now M_constraint M_word M_size v3 t40 v6 v7) FU M_number t48 (0 : Int32)
def fM_randomChecks (M_many : Int32) (M_now : Nat → Int32) (M_constraint : Nat → Int32) (M_word : Nat → Int32) (M_size : Nat → Int32) (M_number : Nat → Int32) (x1 : Int64) (x3 : Int32) : Option (Int32 × (Nat → Int32) × (Nat → Int32) × (Nat → Int32)) :=
  bd1 (fM_in (Int32.toInt64 x3) (1 : Int64) (200 : Int64)) fun t6 =>
  if t6 = 0 then
    some (((-2) : Int32), M_word, M_size, M_number)
  else
  fx6 (fM_randomChecks_24 M_many M_now M_constraint x3) FU M_word M_size M_number x1 (0 : Int32) (0 : Int32)
def fM_save_21 (M_now : Nat → Int32) (M_isKept : Nat → Int32) (v1 : Int32) (k21 : (Nat → Int32) → Int32 → Option (Int32 × (Nat → Int32) × (Nat → Int32))) (M_kept : Nat → Int32) (v2 : Int32) : Option (Int32 × (Nat → Int32) × (Nat → Int32)) :=
  if (26 : Int32) ≤ v2 then
    ld M_now 26 (0 : Int32) fun t55 =>
    ld M_now 26 (1 : Int32) fun t61 =>
    some ((t55 + t61), M_kept, M_isKept)
  else
  ld M_now 26 v2 fun t42 =>
  sti M_kept 52 (((26 : Int32) * v1) + v2) t42 fun M_kept_43 =>
  st (v2 + (1 : Int32)) fun t44 =>
  k21 M_kept_43 t44
def fM_save (M_now : Nat → Int32) (M_kept : Nat → Int32) (M_isKept : Nat → Int32) (x1 : Int32) : Option (Int32 × (Nat → Int32) × (Nat → Int32)) :=
  bd1 (fM_in (Int32.toInt64 x1) (0 : Int64) (1 : Int64)) fun t4 =>
  if t4 = 0 then
    some (((-1) : Int32), M_kept, M_isKept)
  else
  sti M_isKept 2 x1 (vp_nar .boolean (1 : Int32)) fun M_isKept_18 =>
  fx2 (fM_save_21 M_now M_isKept_18 x1) FU M_kept (0 : Int32)
def fM_restore_26 (M_kept : Nat → Int32) (v1 : Int32) (k26 : (Nat → Int32) → Int32 → Option (Int32 × Int32 × (Nat → Int32))) (M_now : Nat → Int32) (v2 : Int32) : Option (Int32 × Int32 × (Nat → Int32)) :=
  if (26 : Int32) ≤ v2 then
    ld M_now 26 (0 : Int32) fun t65 =>
    ld M_now 26 (1 : Int32) fun t71 =>
    some ((t65 + t71), (0 : Int32), M_now)
  else
  ld M_kept 52 (((26 : Int32) * v1) + v2) fun t47 =>
  sti M_now 26 v2 t47 fun M_now_48 =>
  st (v2 + (1 : Int32)) fun t49 =>
  k26 M_now_48 t49
def fM_restore (M_acts : Int32) (M_now : Nat → Int32) (M_kept : Nat → Int32) (M_isKept : Nat → Int32) (x1 : Int32) : Option (Int32 × Int32 × (Nat → Int32)) :=
  bd1 (fM_in (Int32.toInt64 x1) (0 : Int64) (1 : Int64)) fun t4 =>
  if t4 = 0 then
    some (((-1) : Int32), M_acts, M_now)
  else
  ld M_isKept 2 x1 fun t17 =>
  if t17 = 0 then
    some (((-3) : Int32), M_acts, M_now)
  else
  fx2 (fM_restore_26 M_kept x1) FU M_now (0 : Int32)
