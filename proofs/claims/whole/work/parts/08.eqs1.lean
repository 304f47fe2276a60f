set_option maxRecDepth 100000 in
theorem e_Lo_bitCount (d : Nat) (h : am_H) (l0 : Int64) : f_Lo_bitCount d h l0 = (
    some (.inr (some (.int ((Int64.toInt32 ((((((((l0 - ((am_lushr l0 1) &&& 6148914691236517205)) &&& 3689348814741910323) + ((am_lushr (l0 - ((am_lushr l0 1) &&& 6148914691236517205)) 2) &&& 3689348814741910323)) + (am_lushr (((l0 - ((am_lushr l0 1) &&& 6148914691236517205)) &&& 3689348814741910323) + ((am_lushr (l0 - ((am_lushr l0 1) &&& 6148914691236517205)) 2) &&& 3689348814741910323)) 4)) &&& 1085102592571150095) + (am_lushr (((((l0 - ((am_lushr l0 1) &&& 6148914691236517205)) &&& 3689348814741910323) + ((am_lushr (l0 - ((am_lushr l0 1) &&& 6148914691236517205)) 2) &&& 3689348814741910323)) + (am_lushr (((l0 - ((am_lushr l0 1) &&& 6148914691236517205)) &&& 3689348814741910323) + ((am_lushr (l0 - ((am_lushr l0 1) &&& 6148914691236517205)) 2) &&& 3689348814741910323)) 4)) &&& 1085102592571150095) 8)) + (am_lushr ((((((l0 - ((am_lushr l0 1) &&& 6148914691236517205)) &&& 3689348814741910323) + ((am_lushr (l0 - ((am_lushr l0 1) &&& 6148914691236517205)) 2) &&& 3689348814741910323)) + (am_lushr (((l0 - ((am_lushr l0 1) &&& 6148914691236517205)) &&& 3689348814741910323) + ((am_lushr (l0 - ((am_lushr l0 1) &&& 6148914691236517205)) 2) &&& 3689348814741910323)) 4)) &&& 1085102592571150095) + (am_lushr (((((l0 - ((am_lushr l0 1) &&& 6148914691236517205)) &&& 3689348814741910323) + ((am_lushr (l0 - ((am_lushr l0 1) &&& 6148914691236517205)) 2) &&& 3689348814741910323)) + (am_lushr (((l0 - ((am_lushr l0 1) &&& 6148914691236517205)) &&& 3689348814741910323) + ((am_lushr (l0 - ((am_lushr l0 1) &&& 6148914691236517205)) 2) &&& 3689348814741910323)) 4)) &&& 1085102592571150095) 8)) 16)) + (am_lushr (((((((l0 - ((am_lushr l0 1) &&& 6148914691236517205)) &&& 3689348814741910323) + ((am_lushr (l0 - ((am_lushr l0 1) &&& 6148914691236517205)) 2) &&& 3689348814741910323)) + (am_lushr (((l0 - ((am_lushr l0 1) &&& 6148914691236517205)) &&& 3689348814741910323) + ((am_lushr (l0 - ((am_lushr l0 1) &&& 6148914691236517205)) 2) &&& 3689348814741910323)) 4)) &&& 1085102592571150095) + (am_lushr (((((l0 - ((am_lushr l0 1) &&& 6148914691236517205)) &&& 3689348814741910323) + ((am_lushr (l0 - ((am_lushr l0 1) &&& 6148914691236517205)) 2) &&& 3689348814741910323)) + (am_lushr (((l0 - ((am_lushr l0 1) &&& 6148914691236517205)) &&& 3689348814741910323) + ((am_lushr (l0 - ((am_lushr l0 1) &&& 6148914691236517205)) 2) &&& 3689348814741910323)) 4)) &&& 1085102592571150095) 8)) + (am_lushr ((((((l0 - ((am_lushr l0 1) &&& 6148914691236517205)) &&& 3689348814741910323) + ((am_lushr (l0 - ((am_lushr l0 1) &&& 6148914691236517205)) 2) &&& 3689348814741910323)) + (am_lushr (((l0 - ((am_lushr l0 1) &&& 6148914691236517205)) &&& 3689348814741910323) + ((am_lushr (l0 - ((am_lushr l0 1) &&& 6148914691236517205)) 2) &&& 3689348814741910323)) 4)) &&& 1085102592571150095) + (am_lushr (((((l0 - ((am_lushr l0 1) &&& 6148914691236517205)) &&& 3689348814741910323) + ((am_lushr (l0 - ((am_lushr l0 1) &&& 6148914691236517205)) 2) &&& 3689348814741910323)) + (am_lushr (((l0 - ((am_lushr l0 1) &&& 6148914691236517205)) &&& 3689348814741910323) + ((am_lushr (l0 - ((am_lushr l0 1) &&& 6148914691236517205)) 2) &&& 3689348814741910323)) 4)) &&& 1085102592571150095) 8)) 16)) 32))) &&& 127))), h)) := by
  refine (am_sem_seg (am_sm am_MT d) m_Lo_bitCount 49 0 [(0, .long l0)] [] h).trans ?_
  rfl
set_option maxRecDepth 100000 in
theorem e_In_bitCount (d : Nat) (h : am_H) (i0 : Int32) : f_In_bitCount d h i0 = (
    some (.inr (some (.int ((((((((i0 - ((am_iushr i0 1) &&& 1431655765)) &&& 858993459) + ((am_iushr (i0 - ((am_iushr i0 1) &&& 1431655765)) 2) &&& 858993459)) + (am_iushr (((i0 - ((am_iushr i0 1) &&& 1431655765)) &&& 858993459) + ((am_iushr (i0 - ((am_iushr i0 1) &&& 1431655765)) 2) &&& 858993459)) 4)) &&& 252645135) + (am_iushr (((((i0 - ((am_iushr i0 1) &&& 1431655765)) &&& 858993459) + ((am_iushr (i0 - ((am_iushr i0 1) &&& 1431655765)) 2) &&& 858993459)) + (am_iushr (((i0 - ((am_iushr i0 1) &&& 1431655765)) &&& 858993459) + ((am_iushr (i0 - ((am_iushr i0 1) &&& 1431655765)) 2) &&& 858993459)) 4)) &&& 252645135) 8)) + (am_iushr ((((((i0 - ((am_iushr i0 1) &&& 1431655765)) &&& 858993459) + ((am_iushr (i0 - ((am_iushr i0 1) &&& 1431655765)) 2) &&& 858993459)) + (am_iushr (((i0 - ((am_iushr i0 1) &&& 1431655765)) &&& 858993459) + ((am_iushr (i0 - ((am_iushr i0 1) &&& 1431655765)) 2) &&& 858993459)) 4)) &&& 252645135) + (am_iushr (((((i0 - ((am_iushr i0 1) &&& 1431655765)) &&& 858993459) + ((am_iushr (i0 - ((am_iushr i0 1) &&& 1431655765)) 2) &&& 858993459)) + (am_iushr (((i0 - ((am_iushr i0 1) &&& 1431655765)) &&& 858993459) + ((am_iushr (i0 - ((am_iushr i0 1) &&& 1431655765)) 2) &&& 858993459)) 4)) &&& 252645135) 8)) 16)) &&& 63))), h)) := by
  refine (am_sem_seg (am_sm am_MT d) m_In_bitCount 42 0 [(0, .int i0)] [] h).trans ?_
  rfl
set_option maxRecDepth 100000 in
theorem e_Ar_rangeCheck (d : Nat) (h : am_H) (i0 : Int32) (i1 : Int32) (i2 : Int32) : f_Ar_rangeCheck d h i0 i1 i2 = (
    if i1 ≤ i2 then
      if 0 ≤ i1 then
        if i2 ≤ i0 then
          some (.inr none, h)
        else
        none
      else
      none
    else
    none) := by
  refine (am_sem_seg (am_sm am_MT d) m_Ar_rangeCheck 9 0 [(0, .int i0), (1, .int i1), (2, .int i2)] [] h).trans ?_
  rfl
set_option maxRecDepth 100000 in
theorem e_Ar_fillL (d : Nat) (h : am_H) (r0 : Nat) (l1 : Int64) : f_Ar_fillL d h r0 l1 = (
    am_al h r0 fun x_1 =>
    f_Ar_fillL_6 d h r0 l1 0 x_1) := by
  refine (am_sem_seg (am_sm am_MT d) m_Ar_fillL 5 0 [(0, .ref r0), (1, .long l1)] [] h).trans ?_
  rfl
set_option maxRecDepth 100000 in
theorem e_Ar_fillL_6 (d : Nat) (h : am_H) (r0 : Nat) (l1 : Int64) (i3 : Int32) (i4 : Int32) : f_Ar_fillL_6 d h r0 l1 i3 i4 = (
    if i4 ≤ i3 then
      some (.inr none, h)
    else
    am_ar h 10 r0 i3 fun j_1 =>
    f_Ar_fillL_6 d (am_sL h r0 j_1 l1) r0 l1 (i3 + 1) i4) := by
  refine (am_sem_seg (am_sm am_MT d) m_Ar_fillL 9 6 [(0, .ref r0), (1, .long l1), (3, .int i3), (4, .int i4)] [] h).trans ?_
  rfl
set_option maxRecDepth 100000 in
theorem e_Ar_fillI (d : Nat) (h : am_H) (r0 : Nat) (i1 : Int32) : f_Ar_fillI d h r0 i1 = (
    am_al h r0 fun x_1 =>
    f_Ar_fillI_5 d h r0 i1 0 x_1) := by
  refine (am_sem_seg (am_sm am_MT d) m_Ar_fillI 5 0 [(0, .ref r0), (1, .int i1)] [] h).trans ?_
  rfl
set_option maxRecDepth 100000 in
theorem e_Ar_fillI_5 (d : Nat) (h : am_H) (r0 : Nat) (i1 : Int32) (i2 : Int32) (i3 : Int32) : f_Ar_fillI_5 d h r0 i1 i2 i3 = (
    if i3 ≤ i2 then
      some (.inr none, h)
    else
    am_ar h 9 r0 i2 fun j_1 =>
    f_Ar_fillI_5 d (am_sI h r0 j_1 i1) r0 i1 (i2 + 1) i3) := by
  refine (am_sem_seg (am_sm am_MT d) m_Ar_fillI 9 5 [(0, .ref r0), (1, .int i1), (2, .int i2), (3, .int i3)] [] h).trans ?_
  rfl
set_option maxRecDepth 100000 in
theorem e_Ar_fillR (d : Nat) (h : am_H) (r0 : Nat) (i1 : Int32) (i2 : Int32) (i3 : Int32) : f_Ar_fillR (d + 1) h r0 i1 i2 i3 = (
    am_al h r0 fun x_1 =>
    am_cv (f_Ar_rangeCheck d h x_1 i1 i2) fun h_2 =>
    f_Ar_fillR_10 (d + 1) h_2 r0 i2 i3 i1) := by
  refine (am_sem_seg (am_sm am_MT (d + 1)) m_Ar_fillR 7 0 [(0, .ref r0), (1, .int i1), (2, .int i2), (3, .int i3)] [] h).trans ?_
  rfl
set_option maxRecDepth 100000 in
theorem e_Ar_fillR_10 (d : Nat) (h : am_H) (r0 : Nat) (i2 : Int32) (i3 : Int32) (i4 : Int32) : f_Ar_fillR_10 d h r0 i2 i3 i4 = (
    if i2 ≤ i4 then
      some (.inr none, h)
    else
    am_ar h 9 r0 i4 fun j_1 =>
    f_Ar_fillR_10 d (am_sI h r0 j_1 i3) r0 i2 i3 (i4 + 1)) := by
  refine (am_sem_seg (am_sm am_MT d) m_Ar_fillR 9 10 [(0, .ref r0), (2, .int i2), (3, .int i3), (4, .int i4)] [] h).trans ?_
  rfl
set_option maxRecDepth 100000 in
theorem e_Wo_init (d : Nat) (h : am_H) (r0 : Nat) (i1 : Int32) : f_Wo_init d h r0 i1 = (
    bif Nat.beq (am_G h) 0 && !(decide ((24 : Int32) < 0)) && Nat.ble (Int32.toNatClampNeg 24) 60000000 then
      am_ck (am_nw h (10, Int32.toNatClampNeg 24)) r0 6 <|
      f_Wo_init_12 d (am_sP (am_nw h (10, Int32.toNatClampNeg 24)) r0 1 (some (am_S h).length)) r0 i1
    else none) := by
  refine (am_sem_seg (am_sm am_MT d) m_Wo_init 6 0 [(0, .ref r0), (1, .int i1)] [] h).trans ?_
  rfl
set_option maxRecDepth 100000 in
theorem e_Wo_init_12 (d : Nat) (h : am_H) (r0 : Nat) (i1 : Int32) : f_Wo_init_12 d h r0 i1 = (
    am_ck h r0 6 <|
    f_Wo_init_17 d (am_sI h r0 2 0) r0 i1) := by
  refine (am_sem_seg (am_sm am_MT d) m_Wo_init 3 12 [(0, .ref r0), (1, .int i1)] [] h).trans ?_
  rfl
set_option maxRecDepth 100000 in
theorem e_Wo_init_17 (d : Nat) (h : am_H) (r0 : Nat) (i1 : Int32) : f_Wo_init_17 d h r0 i1 = (
    if 24 ≤ i1 then
      am_ck h r0 6 <|
      f_Wo_init_33 d (am_sI h r0 0 24)
    else
    am_ck h r0 6 <|
    f_Wo_init_33 d (am_sI h r0 0 i1)) := by
  refine (am_sem_seg (am_sm am_MT d) m_Wo_init 7 17 [(0, .ref r0), (1, .int i1)] [] h).trans ?_
  rfl
set_option maxRecDepth 100000 in
theorem e_Wo_init_33 (d : Nat) (h : am_H) : f_Wo_init_33 d h = (
    some (.inr none, h)) := by
  refine (am_sem_seg (am_sm am_MT d) m_Wo_init 1 33 [] [] h).trans ?_
  rfl
set_option maxRecDepth 100000 in
theorem e_Wo_letterAt (d : Nat) (h : am_H) (r0 : Nat) (i1 : Int32) (i2 : Int32) : f_Wo_letterAt d h r0 i1 i2 = (
    if i1 < 0 then
      some (.inr (some (.int (-1))), h)
    else
    am_gi h r0 6 2 fun x_1 =>
    if x_1 ≤ i1 then
      some (.inr (some (.int (-1))), h)
    else
    if i2 < 0 then
      some (.inr (some (.int (-1))), h)
    else
    if i2 < 6 then
      f_Wo_letterAt_26 d h r0 i1 i2 0
    else
    some (.inr (some (.int (-1))), h)) := by
  refine (am_sem_seg (am_sm am_MT d) m_Wo_letterAt 13 0 [(0, .ref r0), (1, .int i1), (2, .int i2)] [] h).trans ?_
  rfl
set_option maxRecDepth 100000 in
theorem e_Wo_letterAt_26 (d : Nat) (h : am_H) (r0 : Nat) (i1 : Int32) (i2 : Int32) (i3 : Int32) : f_Wo_letterAt_26 d h r0 i1 i2 i3 = (
    if 6 ≤ i3 then
      if i2 < i3 then
        am_gp h r0 6 1 fun p_1 =>
        am_ar h 10 p_1 i1 fun j_2 =>
        some (.inr (some (.int ((Int64.toInt32 (am_lushr (am_L h p_1 j_2) (8 * ((i3 - 1) - i2)))) &&& 255))), h)
      else
      some (.inr (some (.int (-1))), h)
    else
    am_gp h r0 6 1 fun p_3 =>
    am_ar h 10 p_3 i1 fun j_4 =>
    if (lg_cmp (am_lushr (am_L h p_3 j_4) (8 * i3)) 0) = 0 then
      if i2 < i3 then
        am_gp h r0 6 1 fun p_5 =>
        am_ar h 10 p_5 i1 fun j_6 =>
        some (.inr (some (.int ((Int64.toInt32 (am_lushr (am_L h p_5 j_6) (8 * ((i3 - 1) - i2)))) &&& 255))), h)
      else
      some (.inr (some (.int (-1))), h)
    else
    f_Wo_letterAt_26 d h r0 i1 i2 (i3 + 1)) := by
  refine (am_sem_seg (am_sm am_MT d) m_Wo_letterAt 33 26 [(0, .ref r0), (1, .int i1), (2, .int i2), (3, .int i3)] [] h).trans ?_
  rfl
set_option maxRecDepth 100000 in
theorem e_Wo_find (d : Nat) (h : am_H) (r0 : Nat) (l1 : Int64) : f_Wo_find d h r0 l1 = (
    f_Wo_find_2 d h r0 l1 0) := by
  refine (am_sem_seg (am_sm am_MT d) m_Wo_find 2 0 [(0, .ref r0), (1, .long l1)] [] h).trans ?_
  rfl
set_option maxRecDepth 100000 in
theorem e_Wo_find_2 (d : Nat) (h : am_H) (r0 : Nat) (l1 : Int64) (i3 : Int32) : f_Wo_find_2 d h r0 l1 i3 = (
    am_gi h r0 6 2 fun x_1 =>
    if x_1 ≤ i3 then
      some (.inr (some (.int (-1))), h)
    else
    am_gp h r0 6 1 fun p_2 =>
    am_ar h 10 p_2 i3 fun j_3 =>
    if (lg_cmp (am_L h p_2 j_3) l1) = 0 then
      some (.inr (some (.int i3)), h)
    else
    f_Wo_find_2 d h r0 l1 (i3 + 1)) := by
  refine (am_sem_seg (am_sm am_MT d) m_Wo_find 13 2 [(0, .ref r0), (1, .long l1), (3, .int i3)] [] h).trans ?_
  rfl
set_option maxRecDepth 100000 in
theorem e_Wo_add (d : Nat) (h : am_H) (r0 : Nat) (l1 : Int64) : f_Wo_add d h r0 l1 = (
    am_gi h r0 6 2 fun x_1 =>
    am_gi h r0 6 0 fun x_2 =>
    if x_1 < x_2 then
      am_gp h r0 6 1 fun p_3 =>
      am_gi h r0 6 2 fun x_4 =>
      am_ar h 10 p_3 x_4 fun j_5 =>
      am_gi (am_sL h p_3 j_5 l1) r0 6 2 fun x_6 =>
      am_ck (am_sL h p_3 j_5 l1) r0 6 <|
      am_gi (am_sI (am_sL h p_3 j_5 l1) r0 2 (x_6 + 1)) r0 6 2 fun x_7 =>
      some (.inr (some (.int (x_7 - 1))), (am_sI (am_sL h p_3 j_5 l1) r0 2 (x_6 + 1)))
    else
    some (.inr (some (.int (-1))), h)) := by
  refine (am_sem_seg (am_sm am_MT d) m_Wo_add 22 0 [(0, .ref r0), (1, .long l1)] [] h).trans ?_
  rfl
set_option maxRecDepth 100000 in
theorem e_On_init (d : Nat) (h : am_H) (r0 : Nat) : f_On_init (d + 1) h r0 = (
    bif Nat.beq (am_G h) 0 then
      am_ck (am_nw h (6, 3)) (am_S h).length 6 <| am_cv (f_Wo_init d (am_nw h (6, 3)) (am_S h).length 24) fun h_1 =>
      am_ck h_1 r0 2 <|
      f_On_init_17 (d + 1) (am_sP h_1 r0 0 (some (am_S h).length)) r0
    else none) := by
  refine (am_sem_seg (am_sm am_MT (d + 1)) m_On_init 8 0 [(0, .ref r0)] [] h).trans ?_
  rfl
set_option maxRecDepth 100000 in
theorem e_On_init_17 (d : Nat) (h : am_H) (r0 : Nat) : f_On_init_17 (d + 1) h r0 = (
    bif Nat.beq (am_G h) 0 then
      am_ck (am_nw h (6, 3)) (am_S h).length 6 <| am_cv (f_Wo_init d (am_nw h (6, 3)) (am_S h).length 8) fun h_1 =>
      am_ck h_1 r0 2 <|
      f_On_init_30 (d + 1) (am_sP h_1 r0 1 (some (am_S h).length)) r0
    else none) := by
  refine (am_sem_seg (am_sm am_MT (d + 1)) m_On_init 6 17 [(0, .ref r0)] [] h).trans ?_
  rfl
set_option maxRecDepth 100000 in
theorem e_On_init_30 (d : Nat) (h : am_H) (r0 : Nat) : f_On_init_30 d h r0 = (
    bif Nat.beq (am_G h) 0 && !(decide ((24 : Int32) < 0)) && Nat.ble (Int32.toNatClampNeg 24) 60000000 then
      am_ck (am_nw h (9, Int32.toNatClampNeg 24)) r0 2 <|
      f_On_init_38 d (am_sP (am_nw h (9, Int32.toNatClampNeg 24)) r0 2 (some (am_S h).length)) r0
    else none) := by
  refine (am_sem_seg (am_sm am_MT d) m_On_init 4 30 [(0, .ref r0)] [] h).trans ?_
  rfl
set_option maxRecDepth 100000 in
theorem e_On_init_38 (d : Nat) (h : am_H) (r0 : Nat) : f_On_init_38 d h r0 = (
    am_ck h r0 2 <|
    f_On_init_43 d (am_sI h r0 3 0) r0) := by
  refine (am_sem_seg (am_sm am_MT d) m_On_init 3 38 [(0, .ref r0)] [] h).trans ?_
  rfl
set_option maxRecDepth 100000 in
theorem e_On_init_43 (d : Nat) (h : am_H) (r0 : Nat) : f_On_init_43 d h r0 = (
    bif Nat.beq (am_G h) 0 && !(decide ((60 : Int32) < 0)) && Nat.ble (Int32.toNatClampNeg 60) 60000000 then
      am_ck (am_nw h (9, Int32.toNatClampNeg 60)) r0 2 <|
      f_On_init_51 d (am_sP (am_nw h (9, Int32.toNatClampNeg 60)) r0 4 (some (am_S h).length)) r0
    else none) := by
  refine (am_sem_seg (am_sm am_MT d) m_On_init 4 43 [(0, .ref r0)] [] h).trans ?_
  rfl
set_option maxRecDepth 100000 in
theorem e_On_init_51 (d : Nat) (h : am_H) (r0 : Nat) : f_On_init_51 d h r0 = (
    bif Nat.beq (am_G h) 0 && !(decide ((60 : Int32) < 0)) && Nat.ble (Int32.toNatClampNeg 60) 60000000 then
      am_ck (am_nw h (9, Int32.toNatClampNeg 60)) r0 2 <|
      f_On_init_59 d (am_sP (am_nw h (9, Int32.toNatClampNeg 60)) r0 5 (some (am_S h).length)) r0
    else none) := by
  refine (am_sem_seg (am_sm am_MT d) m_On_init 4 51 [(0, .ref r0)] [] h).trans ?_
  rfl
set_option maxRecDepth 100000 in
theorem e_On_init_59 (d : Nat) (h : am_H) (r0 : Nat) : f_On_init_59 d h r0 = (
    bif Nat.beq (am_G h) 0 && !(decide ((60 : Int32) < 0)) && Nat.ble (Int32.toNatClampNeg 60) 60000000 then
      am_ck (am_nw h (9, Int32.toNatClampNeg 60)) r0 2 <|
      f_On_init_67 d (am_sP (am_nw h (9, Int32.toNatClampNeg 60)) r0 6 (some (am_S h).length)) r0
    else none) := by
  refine (am_sem_seg (am_sm am_MT d) m_On_init 4 59 [(0, .ref r0)] [] h).trans ?_
  rfl
set_option maxRecDepth 100000 in
theorem e_On_init_67 (d : Nat) (h : am_H) (r0 : Nat) : f_On_init_67 d h r0 = (
    bif Nat.beq (am_G h) 0 && !(decide ((60 : Int32) < 0)) && Nat.ble (Int32.toNatClampNeg 60) 60000000 then
      am_ck (am_nw h (9, Int32.toNatClampNeg 60)) r0 2 <|
      f_On_init_75 d (am_sP (am_nw h (9, Int32.toNatClampNeg 60)) r0 7 (some (am_S h).length)) r0
    else none) := by
  refine (am_sem_seg (am_sm am_MT d) m_On_init 4 67 [(0, .ref r0)] [] h).trans ?_
  rfl
set_option maxRecDepth 100000 in
theorem e_On_init_75 (d : Nat) (h : am_H) (r0 : Nat) : f_On_init_75 d h r0 = (
    bif Nat.beq (am_G h) 0 && !(decide ((60 : Int32) < 0)) && Nat.ble (Int32.toNatClampNeg 60) 60000000 then
      am_ck (am_nw h (9, Int32.toNatClampNeg 60)) r0 2 <|
      f_On_init_83 d (am_sP (am_nw h (9, Int32.toNatClampNeg 60)) r0 8 (some (am_S h).length)) r0
    else none) := by
  refine (am_sem_seg (am_sm am_MT d) m_On_init 4 75 [(0, .ref r0)] [] h).trans ?_
  rfl
set_option maxRecDepth 100000 in
theorem e_On_init_83 (d : Nat) (h : am_H) (r0 : Nat) : f_On_init_83 d h r0 = (
    am_ck h r0 2 <|
    f_On_init_88 d (am_sI h r0 9 0) r0) := by
  refine (am_sem_seg (am_sm am_MT d) m_On_init 3 83 [(0, .ref r0)] [] h).trans ?_
  rfl
set_option maxRecDepth 100000 in
theorem e_On_init_88 (d : Nat) (h : am_H) (r0 : Nat) : f_On_init_88 d h r0 = (
    am_ck h r0 2 <|
    f_On_init_93 d (am_sL h r0 10 0) r0) := by
  refine (am_sem_seg (am_sm am_MT d) m_On_init 3 88 [(0, .ref r0)] [] h).trans ?_
  rfl
set_option maxRecDepth 100000 in
theorem e_On_init_93 (d : Nat) (h : am_H) (r0 : Nat) : f_On_init_93 d h r0 = (
    bif Nat.beq (am_G h) 0 && !(decide ((32 : Int32) < 0)) && Nat.ble (Int32.toNatClampNeg 32) 60000000 then
      am_ck (am_nw h (9, Int32.toNatClampNeg 32)) r0 2 <|
      f_On_init_101 d (am_sP (am_nw h (9, Int32.toNatClampNeg 32)) r0 11 (some (am_S h).length)) r0
    else none) := by
  refine (am_sem_seg (am_sm am_MT d) m_On_init 4 93 [(0, .ref r0)] [] h).trans ?_
  rfl
set_option maxRecDepth 100000 in
theorem e_On_init_101 (d : Nat) (h : am_H) (r0 : Nat) : f_On_init_101 d h r0 = (
    bif Nat.beq (am_G h) 0 && !(decide ((32 : Int32) < 0)) && Nat.ble (Int32.toNatClampNeg 32) 60000000 then
      am_ck (am_nw h (9, Int32.toNatClampNeg 32)) r0 2 <|
      f_On_init_109 d (am_sP (am_nw h (9, Int32.toNatClampNeg 32)) r0 12 (some (am_S h).length)) r0
    else none) := by
  refine (am_sem_seg (am_sm am_MT d) m_On_init 4 101 [(0, .ref r0)] [] h).trans ?_
  rfl
set_option maxRecDepth 100000 in
theorem e_On_init_109 (d : Nat) (h : am_H) (r0 : Nat) : f_On_init_109 d h r0 = (
    bif Nat.beq (am_G h) 0 && !(decide ((32 : Int32) < 0)) && Nat.ble (Int32.toNatClampNeg 32) 60000000 then
      am_ck (am_nw h (9, Int32.toNatClampNeg 32)) r0 2 <|
      f_On_init_117 d (am_sP (am_nw h (9, Int32.toNatClampNeg 32)) r0 13 (some (am_S h).length)) r0
    else none) := by
  refine (am_sem_seg (am_sm am_MT d) m_On_init 4 109 [(0, .ref r0)] [] h).trans ?_
  rfl
set_option maxRecDepth 100000 in
theorem e_On_init_117 (d : Nat) (h : am_H) (r0 : Nat) : f_On_init_117 d h r0 = (
    bif Nat.beq (am_G h) 0 && !(decide ((32 : Int32) < 0)) && Nat.ble (Int32.toNatClampNeg 32) 60000000 then
      am_ck (am_nw h (9, Int32.toNatClampNeg 32)) r0 2 <|
      f_On_init_125 d (am_sP (am_nw h (9, Int32.toNatClampNeg 32)) r0 14 (some (am_S h).length)) r0
    else none) := by
  refine (am_sem_seg (am_sm am_MT d) m_On_init 4 117 [(0, .ref r0)] [] h).trans ?_
  rfl
set_option maxRecDepth 100000 in
theorem e_On_init_125 (d : Nat) (h : am_H) (r0 : Nat) : f_On_init_125 d h r0 = (
    bif Nat.beq (am_G h) 0 && !(decide ((32 : Int32) < 0)) && Nat.ble (Int32.toNatClampNeg 32) 60000000 then
      am_ck (am_nw h (9, Int32.toNatClampNeg 32)) r0 2 <|
      f_On_init_133 d (am_sP (am_nw h (9, Int32.toNatClampNeg 32)) r0 15 (some (am_S h).length)) r0
    else none) := by
  refine (am_sem_seg (am_sm am_MT d) m_On_init 4 125 [(0, .ref r0)] [] h).trans ?_
  rfl
set_option maxRecDepth 100000 in
theorem e_On_init_133 (d : Nat) (h : am_H) (r0 : Nat) : f_On_init_133 d h r0 = (
    bif Nat.beq (am_G h) 0 && !(decide ((32 : Int32) < 0)) && Nat.ble (Int32.toNatClampNeg 32) 60000000 then
      am_ck (am_nw h (9, Int32.toNatClampNeg 32)) r0 2 <|
      f_On_init_141 d (am_sP (am_nw h (9, Int32.toNatClampNeg 32)) r0 16 (some (am_S h).length)) r0
    else none) := by
  refine (am_sem_seg (am_sm am_MT d) m_On_init 4 133 [(0, .ref r0)] [] h).trans ?_
  rfl
set_option maxRecDepth 100000 in
theorem e_On_init_141 (d : Nat) (h : am_H) (r0 : Nat) : f_On_init_141 (d + 1) h r0 = (
    am_ck h r0 2 <| am_cv (f_On_clear d h r0) fun h_1 =>
    some (.inr none, h_1)) := by
  refine (am_sem_seg (am_sm am_MT (d + 1)) m_On_init 3 141 [(0, .ref r0)] [] h).trans ?_
  rfl
set_option maxRecDepth 100000 in
theorem e_On_clear (d : Nat) (h : am_H) (r0 : Nat) : f_On_clear (d + 1) h r0 = (
    am_gp h r0 2 0 fun p_1 =>
    am_ck h p_1 6 <|
    am_gp (am_sI h p_1 2 0) r0 2 1 fun p_2 =>
    am_ck (am_sI h p_1 2 0) p_2 6 <|
    am_ck (am_sI (am_sI h p_1 2 0) p_2 2 0) r0 2 <|
    am_ck (am_sI (am_sI (am_sI h p_1 2 0) p_2 2 0) r0 9 0) r0 2 <|
    am_ck (am_sL (am_sI (am_sI (am_sI h p_1 2 0) p_2 2 0) r0 9 0) r0 10 0) r0 2 <|
    am_gp (am_sI (am_sL (am_sI (am_sI (am_sI h p_1 2 0) p_2 2 0) r0 9 0) r0 10 0) r0 3 0) r0 2 2 fun p_3 =>
    am_cv (f_Ar_fillI d (am_sI (am_sL (am_sI (am_sI (am_sI h p_1 2 0) p_2 2 0) r0 9 0) r0 10 0) r0 3 0) p_3 (-1)) fun h_4 =>
    am_ck h_4 r0 2 <| am_ci (f_On_intern d h_4 r0 1 (-1) (-1)) fun x_6 h_5 =>
    am_ck h_5 r0 2 <| am_ci (f_On_intern d h_5 r0 2 (-1) (-1)) fun x_8 h_7 =>
    some (.inr none, h_7)) := by
  refine (am_sem_seg (am_sm am_MT (d + 1)) m_On_clear 34 0 [(0, .ref r0)] [] h).trans ?_
  rfl
set_option maxRecDepth 100000 in
theorem e_On_allParts (d : Nat) (h : am_H) (r0 : Nat) : f_On_allParts d h r0 = (
    am_gi h r0 2 3 fun x_1 =>
    some (.inr (some (.long ((am_lshl 1 x_1) - 1))), h)) := by
  refine (am_sem_seg (am_sm am_MT d) m_On_allParts 7 0 [(0, .ref r0)] [] h).trans ?_
  rfl
set_option maxRecDepth 100000 in
theorem e_On_intern (d : Nat) (h : am_H) (r0 : Nat) (i1 : Int32) (i2 : Int32) (i3 : Int32) : f_On_intern d h r0 i1 i2 i3 = (
    f_On_intern_3 d h r0 i1 i2 i3 0) := by
  refine (am_sem_seg (am_sm am_MT d) m_On_intern 2 0 [(0, .ref r0), (1, .int i1), (2, .int i2), (3, .int i3)] [] h).trans ?_
  rfl
set_option maxRecDepth 100000 in
theorem e_On_intern_3 (d : Nat) (h : am_H) (r0 : Nat) (i1 : Int32) (i2 : Int32) (i3 : Int32) (i4 : Int32) : f_On_intern_3 d h r0 i1 i2 i3 i4 = (
    am_gi h r0 2 3 fun x_1 =>
    if x_1 ≤ i4 then
      am_gi h r0 2 3 fun x_2 =>
      if x_2 < 60 then
        am_gi h r0 2 3 fun x_3 =>
        am_gp h r0 2 4 fun p_4 =>
        am_ar h 9 p_4 x_3 fun j_5 =>
        am_gp (am_sI h p_4 j_5 i1) r0 2 5 fun p_6 =>
        am_ar (am_sI h p_4 j_5 i1) 9 p_6 x_3 fun j_7 =>
        am_gp (am_sI (am_sI h p_4 j_5 i1) p_6 j_7 i2) r0 2 6 fun p_8 =>
        am_ar (am_sI (am_sI h p_4 j_5 i1) p_6 j_7 i2) 9 p_8 x_3 fun j_9 =>
        am_gp (am_sI (am_sI (am_sI h p_4 j_5 i1) p_6 j_7 i2) p_8 j_9 i3) r0 2 7 fun p_10 =>
        am_ar (am_sI (am_sI (am_sI h p_4 j_5 i1) p_6 j_7 i2) p_8 j_9 i3) 9 p_10 x_3 fun j_11 =>
        am_gp (am_sI (am_sI (am_sI (am_sI h p_4 j_5 i1) p_6 j_7 i2) p_8 j_9 i3) p_10 j_11 0) r0 2 8 fun p_12 =>
        am_ar (am_sI (am_sI (am_sI (am_sI h p_4 j_5 i1) p_6 j_7 i2) p_8 j_9 i3) p_10 j_11 0) 9 p_12 x_3 fun j_13 =>
        if i1 = 0 then
          am_gp (am_sI (am_sI (am_sI (am_sI (am_sI h p_4 j_5 i1) p_6 j_7 i2) p_8 j_9 i3) p_10 j_11 0) p_12 j_13 0) r0 2 2 fun p_14 =>
          am_ar (am_sI (am_sI (am_sI (am_sI (am_sI h p_4 j_5 i1) p_6 j_7 i2) p_8 j_9 i3) p_10 j_11 0) p_12 j_13 0) 9 p_14 i2 fun j_15 =>
          am_gp (am_sI (am_sI (am_sI (am_sI (am_sI (am_sI h p_4 j_5 i1) p_6 j_7 i2) p_8 j_9 i3) p_10 j_11 0) p_12 j_13 0) p_14 j_15 x_3) r0 2 7 fun p_16 =>
          am_ar (am_sI (am_sI (am_sI (am_sI (am_sI (am_sI h p_4 j_5 i1) p_6 j_7 i2) p_8 j_9 i3) p_10 j_11 0) p_12 j_13 0) p_14 j_15 x_3) 9 p_16 x_3 fun j_17 =>
          f_On_intern_219 d (am_sI (am_sI (am_sI (am_sI (am_sI (am_sI (am_sI h p_4 j_5 i1) p_6 j_7 i2) p_8 j_9 i3) p_10 j_11 0) p_12 j_13 0) p_14 j_15 x_3) p_16 j_17 (am_ishl 1 i2)) r0 x_3
        else
        if i1 = 3 then
          am_gp (am_sI (am_sI (am_sI (am_sI (am_sI h p_4 j_5 i1) p_6 j_7 i2) p_8 j_9 i3) p_10 j_11 0) p_12 j_13 0) r0 2 7 fun p_18 =>
          am_gp (am_sI (am_sI (am_sI (am_sI (am_sI h p_4 j_5 i1) p_6 j_7 i2) p_8 j_9 i3) p_10 j_11 0) p_12 j_13 0) r0 2 7 fun p_19 =>
          am_ar (am_sI (am_sI (am_sI (am_sI (am_sI h p_4 j_5 i1) p_6 j_7 i2) p_8 j_9 i3) p_10 j_11 0) p_12 j_13 0) 9 p_19 i2 fun j_20 =>
          am_gp (am_sI (am_sI (am_sI (am_sI (am_sI h p_4 j_5 i1) p_6 j_7 i2) p_8 j_9 i3) p_10 j_11 0) p_12 j_13 0) r0 2 7 fun p_21 =>
          am_ar (am_sI (am_sI (am_sI (am_sI (am_sI h p_4 j_5 i1) p_6 j_7 i2) p_8 j_9 i3) p_10 j_11 0) p_12 j_13 0) 9 p_21 i3 fun j_22 =>
          am_ar (am_sI (am_sI (am_sI (am_sI (am_sI h p_4 j_5 i1) p_6 j_7 i2) p_8 j_9 i3) p_10 j_11 0) p_12 j_13 0) 9 p_18 x_3 fun j_23 =>
          am_gp (am_sI (am_sI (am_sI (am_sI (am_sI (am_sI h p_4 j_5 i1) p_6 j_7 i2) p_8 j_9 i3) p_10 j_11 0) p_12 j_13 0) p_18 j_23 ((am_I (am_sI (am_sI (am_sI (am_sI (am_sI h p_4 j_5 i1) p_6 j_7 i2) p_8 j_9 i3) p_10 j_11 0) p_12 j_13 0) p_19 j_20) ||| (am_I (am_sI (am_sI (am_sI (am_sI (am_sI h p_4 j_5 i1) p_6 j_7 i2) p_8 j_9 i3) p_10 j_11 0) p_12 j_13 0) p_21 j_22))) r0 2 8 fun p_24 =>
          am_gp (am_sI (am_sI (am_sI (am_sI (am_sI (am_sI h p_4 j_5 i1) p_6 j_7 i2) p_8 j_9 i3) p_10 j_11 0) p_12 j_13 0) p_18 j_23 ((am_I (am_sI (am_sI (am_sI (am_sI (am_sI h p_4 j_5 i1) p_6 j_7 i2) p_8 j_9 i3) p_10 j_11 0) p_12 j_13 0) p_19 j_20) ||| (am_I (am_sI (am_sI (am_sI (am_sI (am_sI h p_4 j_5 i1) p_6 j_7 i2) p_8 j_9 i3) p_10 j_11 0) p_12 j_13 0) p_21 j_22))) r0 2 8 fun p_25 =>
          am_ar (am_sI (am_sI (am_sI (am_sI (am_sI (am_sI h p_4 j_5 i1) p_6 j_7 i2) p_8 j_9 i3) p_10 j_11 0) p_12 j_13 0) p_18 j_23 ((am_I (am_sI (am_sI (am_sI (am_sI (am_sI h p_4 j_5 i1) p_6 j_7 i2) p_8 j_9 i3) p_10 j_11 0) p_12 j_13 0) p_19 j_20) ||| (am_I (am_sI (am_sI (am_sI (am_sI (am_sI h p_4 j_5 i1) p_6 j_7 i2) p_8 j_9 i3) p_10 j_11 0) p_12 j_13 0) p_21 j_22))) 9 p_25 i2 fun j_26 =>
          am_gp (am_sI (am_sI (am_sI (am_sI (am_sI (am_sI h p_4 j_5 i1) p_6 j_7 i2) p_8 j_9 i3) p_10 j_11 0) p_12 j_13 0) p_18 j_23 ((am_I (am_sI (am_sI (am_sI (am_sI (am_sI h p_4 j_5 i1) p_6 j_7 i2) p_8 j_9 i3) p_10 j_11 0) p_12 j_13 0) p_19 j_20) ||| (am_I (am_sI (am_sI (am_sI (am_sI (am_sI h p_4 j_5 i1) p_6 j_7 i2) p_8 j_9 i3) p_10 j_11 0) p_12 j_13 0) p_21 j_22))) r0 2 8 fun p_27 =>
          am_ar (am_sI (am_sI (am_sI (am_sI (am_sI (am_sI h p_4 j_5 i1) p_6 j_7 i2) p_8 j_9 i3) p_10 j_11 0) p_12 j_13 0) p_18 j_23 ((am_I (am_sI (am_sI (am_sI (am_sI (am_sI h p_4 j_5 i1) p_6 j_7 i2) p_8 j_9 i3) p_10 j_11 0) p_12 j_13 0) p_19 j_20) ||| (am_I (am_sI (am_sI (am_sI (am_sI (am_sI h p_4 j_5 i1) p_6 j_7 i2) p_8 j_9 i3) p_10 j_11 0) p_12 j_13 0) p_21 j_22))) 9 p_27 i3 fun j_28 =>
          am_ar (am_sI (am_sI (am_sI (am_sI (am_sI (am_sI h p_4 j_5 i1) p_6 j_7 i2) p_8 j_9 i3) p_10 j_11 0) p_12 j_13 0) p_18 j_23 ((am_I (am_sI (am_sI (am_sI (am_sI (am_sI h p_4 j_5 i1) p_6 j_7 i2) p_8 j_9 i3) p_10 j_11 0) p_12 j_13 0) p_19 j_20) ||| (am_I (am_sI (am_sI (am_sI (am_sI (am_sI h p_4 j_5 i1) p_6 j_7 i2) p_8 j_9 i3) p_10 j_11 0) p_12 j_13 0) p_21 j_22))) 9 p_24 x_3 fun j_29 =>
          f_On_intern_219 d (am_sI (am_sI (am_sI (am_sI (am_sI (am_sI (am_sI h p_4 j_5 i1) p_6 j_7 i2) p_8 j_9 i3) p_10 j_11 0) p_12 j_13 0) p_18 j_23 ((am_I (am_sI (am_sI (am_sI (am_sI (am_sI h p_4 j_5 i1) p_6 j_7 i2) p_8 j_9 i3) p_10 j_11 0) p_12 j_13 0) p_19 j_20) ||| (am_I (am_sI (am_sI (am_sI (am_sI (am_sI h p_4 j_5 i1) p_6 j_7 i2) p_8 j_9 i3) p_10 j_11 0) p_12 j_13 0) p_21 j_22))) p_24 j_29 ((am_I (am_sI (am_sI (am_sI (am_sI (am_sI (am_sI h p_4 j_5 i1) p_6 j_7 i2) p_8 j_9 i3) p_10 j_11 0) p_12 j_13 0) p_18 j_23 ((am_I (am_sI (am_sI (am_sI (am_sI (am_sI h p_4 j_5 i1) p_6 j_7 i2) p_8 j_9 i3) p_10 j_11 0) p_12 j_13 0) p_19 j_20) ||| (am_I (am_sI (am_sI (am_sI (am_sI (am_sI h p_4 j_5 i1) p_6 j_7 i2) p_8 j_9 i3) p_10 j_11 0) p_12 j_13 0) p_21 j_22))) p_25 j_26) ||| (am_I (am_sI (am_sI (am_sI (am_sI (am_sI (am_sI h p_4 j_5 i1) p_6 j_7 i2) p_8 j_9 i3) p_10 j_11 0) p_12 j_13 0) p_18 j_23 ((am_I (am_sI (am_sI (am_sI (am_sI (am_sI h p_4 j_5 i1) p_6 j_7 i2) p_8 j_9 i3) p_10 j_11 0) p_12 j_13 0) p_19 j_20) ||| (am_I (am_sI (am_sI (am_sI (am_sI (am_sI h p_4 j_5 i1) p_6 j_7 i2) p_8 j_9 i3) p_10 j_11 0) p_12 j_13 0) p_21 j_22))) p_27 j_28))) r0 x_3
        else
        if i1 = 4 then
          am_gp (am_sI (am_sI (am_sI (am_sI (am_sI h p_4 j_5 i1) p_6 j_7 i2) p_8 j_9 i3) p_10 j_11 0) p_12 j_13 0) r0 2 7 fun p_30 =>
          am_gp (am_sI (am_sI (am_sI (am_sI (am_sI h p_4 j_5 i1) p_6 j_7 i2) p_8 j_9 i3) p_10 j_11 0) p_12 j_13 0) r0 2 7 fun p_31 =>
          am_ar (am_sI (am_sI (am_sI (am_sI (am_sI h p_4 j_5 i1) p_6 j_7 i2) p_8 j_9 i3) p_10 j_11 0) p_12 j_13 0) 9 p_31 i3 fun j_32 =>
          am_ar (am_sI (am_sI (am_sI (am_sI (am_sI h p_4 j_5 i1) p_6 j_7 i2) p_8 j_9 i3) p_10 j_11 0) p_12 j_13 0) 9 p_30 x_3 fun j_33 =>
          am_gp (am_sI (am_sI (am_sI (am_sI (am_sI (am_sI h p_4 j_5 i1) p_6 j_7 i2) p_8 j_9 i3) p_10 j_11 0) p_12 j_13 0) p_30 j_33 (am_I (am_sI (am_sI (am_sI (am_sI (am_sI h p_4 j_5 i1) p_6 j_7 i2) p_8 j_9 i3) p_10 j_11 0) p_12 j_13 0) p_31 j_32)) r0 2 8 fun p_34 =>
          am_gp (am_sI (am_sI (am_sI (am_sI (am_sI (am_sI h p_4 j_5 i1) p_6 j_7 i2) p_8 j_9 i3) p_10 j_11 0) p_12 j_13 0) p_30 j_33 (am_I (am_sI (am_sI (am_sI (am_sI (am_sI h p_4 j_5 i1) p_6 j_7 i2) p_8 j_9 i3) p_10 j_11 0) p_12 j_13 0) p_31 j_32)) r0 2 8 fun p_35 =>
          am_ar (am_sI (am_sI (am_sI (am_sI (am_sI (am_sI h p_4 j_5 i1) p_6 j_7 i2) p_8 j_9 i3) p_10 j_11 0) p_12 j_13 0) p_30 j_33 (am_I (am_sI (am_sI (am_sI (am_sI (am_sI h p_4 j_5 i1) p_6 j_7 i2) p_8 j_9 i3) p_10 j_11 0) p_12 j_13 0) p_31 j_32)) 9 p_35 i3 fun j_36 =>
          am_ar (am_sI (am_sI (am_sI (am_sI (am_sI (am_sI h p_4 j_5 i1) p_6 j_7 i2) p_8 j_9 i3) p_10 j_11 0) p_12 j_13 0) p_30 j_33 (am_I (am_sI (am_sI (am_sI (am_sI (am_sI h p_4 j_5 i1) p_6 j_7 i2) p_8 j_9 i3) p_10 j_11 0) p_12 j_13 0) p_31 j_32)) 9 p_34 x_3 fun j_37 =>
          f_On_intern_219 d (am_sI (am_sI (am_sI (am_sI (am_sI (am_sI (am_sI h p_4 j_5 i1) p_6 j_7 i2) p_8 j_9 i3) p_10 j_11 0) p_12 j_13 0) p_30 j_33 (am_I (am_sI (am_sI (am_sI (am_sI (am_sI h p_4 j_5 i1) p_6 j_7 i2) p_8 j_9 i3) p_10 j_11 0) p_12 j_13 0) p_31 j_32)) p_34 j_37 ((am_I (am_sI (am_sI (am_sI (am_sI (am_sI (am_sI h p_4 j_5 i1) p_6 j_7 i2) p_8 j_9 i3) p_10 j_11 0) p_12 j_13 0) p_30 j_33 (am_I (am_sI (am_sI (am_sI (am_sI (am_sI h p_4 j_5 i1) p_6 j_7 i2) p_8 j_9 i3) p_10 j_11 0) p_12 j_13 0) p_31 j_32)) p_35 j_36) ||| (am_ishl 1 i2))) r0 x_3
        else
        f_On_intern_219 d (am_sI (am_sI (am_sI (am_sI (am_sI h p_4 j_5 i1) p_6 j_7 i2) p_8 j_9 i3) p_10 j_11 0) p_12 j_13 0) r0 x_3
      else
      some (.inr (some (.int (-1))), h)
    else
    am_gp h r0 2 4 fun p_38 =>
    am_ar h 9 p_38 i4 fun j_39 =>
    if (am_I h p_38 j_39) = i1 then
      am_gp h r0 2 5 fun p_40 =>
      am_ar h 9 p_40 i4 fun j_41 =>
      if (am_I h p_40 j_41) = i2 then
        am_gp h r0 2 6 fun p_42 =>
        am_ar h 9 p_42 i4 fun j_43 =>
        if (am_I h p_42 j_43) = i3 then
          some (.inr (some (.int i4)), h)
        else
        f_On_intern_3 d h r0 i1 i2 i3 (i4 + 1)
      else
      f_On_intern_3 d h r0 i1 i2 i3 (i4 + 1)
    else
    f_On_intern_3 d h r0 i1 i2 i3 (i4 + 1)) := by
  refine (am_sem_seg (am_sm am_MT d) m_On_intern 68 3 [(0, .ref r0), (1, .int i1), (2, .int i2), (3, .int i3), (4, .int i4)] [] h).trans ?_
  rfl
set_option maxRecDepth 100000 in
theorem e_On_intern_219 (d : Nat) (h : am_H) (r0 : Nat) (i4 : Int32) : f_On_intern_219 d h r0 i4 = (
    am_gi h r0 2 3 fun x_1 =>
    am_ck h r0 2 <|
    some (.inr (some (.int i4)), (am_sI h r0 3 (x_1 + 1)))) := by
  refine (am_sem_seg (am_sm am_MT d) m_On_intern 8 219 [(0, .ref r0), (4, .int i4)] [] h).trans ?_
  rfl
set_option maxRecDepth 100000 in
theorem e_On_addConceptAxiom (d : Nat) (h : am_H) (r0 : Nat) (i1 : Int32) (i2 : Int32) (i3 : Int32) : f_On_addConceptAxiom (d + 1) h r0 i1 i2 i3 = (
    am_gp h r0 2 7 fun p_1 =>
    am_ar h 9 p_1 i2 fun j_2 =>
    am_gp h r0 2 7 fun p_3 =>
    am_ar h 9 p_3 i3 fun j_4 =>
    am_gp h r0 2 8 fun p_5 =>
    am_ar h 9 p_5 i2 fun j_6 =>
    am_gp h r0 2 8 fun p_7 =>
    am_ar h 9 p_7 i3 fun j_8 =>
    am_ck h r0 2 <| am_cv (f_On_addAxiom d h r0 i1 i2 i3 (-1) ((am_I h p_1 j_2) ||| (am_I h p_3 j_4)) ((am_I h p_5 j_6) ||| (am_I h p_7 j_8))) fun h_9 =>
    some (.inr none, h_9)) := by
  refine (am_sem_seg (am_sm am_MT (d + 1)) m_On_addConceptAxiom 25 0 [(0, .ref r0), (1, .int i1), (2, .int i2), (3, .int i3)] [] h).trans ?_
  rfl
set_option maxRecDepth 100000 in
theorem e_On_addRoleAxiom (d : Nat) (h : am_H) (r0 : Nat) (i1 : Int32) (i2 : Int32) (i3 : Int32) : f_On_addRoleAxiom (d + 1) h r0 i1 i2 i3 = (
    if i3 = (-1) then
      am_ck h r0 2 <| am_cv (f_On_addAxiom d h r0 2 i1 i2 (-1) 0 ((am_ishl 1 i1) ||| (am_ishl 1 i2))) fun h_1 =>
      some (.inr none, h_1)
    else
    am_ck h r0 2 <| am_cv (f_On_addAxiom d h r0 3 i1 i2 i3 0 (((am_ishl 1 i1) ||| (am_ishl 1 i2)) ||| (am_ishl 1 i3))) fun h_2 =>
    some (.inr none, h_2)) := by
  refine (am_sem_seg (am_sm am_MT (d + 1)) m_On_addRoleAxiom 22 0 [(0, .ref r0), (1, .int i1), (2, .int i2), (3, .int i3)] [] h).trans ?_
  rfl
set_option maxRecDepth 100000 in
theorem e_On_addAxiom (d : Nat) (h : am_H) (r0 : Nat) (i1 : Int32) (i2 : Int32) (i3 : Int32) (i4 : Int32) (i5 : Int32) (i6 : Int32) : f_On_addAxiom d h r0 i1 i2 i3 i4 i5 i6 = (
    am_gi h r0 2 9 fun x_1 =>
    if x_1 < 32 then
      am_gp h r0 2 11 fun p_2 =>
      am_gi h r0 2 9 fun x_3 =>
      am_ar h 9 p_2 x_3 fun j_4 =>
      am_gp (am_sI h p_2 j_4 i1) r0 2 12 fun p_5 =>
      am_gi (am_sI h p_2 j_4 i1) r0 2 9 fun x_6 =>
      am_ar (am_sI h p_2 j_4 i1) 9 p_5 x_6 fun j_7 =>
      am_gp (am_sI (am_sI h p_2 j_4 i1) p_5 j_7 i2) r0 2 13 fun p_8 =>
      am_gi (am_sI (am_sI h p_2 j_4 i1) p_5 j_7 i2) r0 2 9 fun x_9 =>
      am_ar (am_sI (am_sI h p_2 j_4 i1) p_5 j_7 i2) 9 p_8 x_9 fun j_10 =>
      am_gp (am_sI (am_sI (am_sI h p_2 j_4 i1) p_5 j_7 i2) p_8 j_10 i3) r0 2 14 fun p_11 =>
      am_gi (am_sI (am_sI (am_sI h p_2 j_4 i1) p_5 j_7 i2) p_8 j_10 i3) r0 2 9 fun x_12 =>
      am_ar (am_sI (am_sI (am_sI h p_2 j_4 i1) p_5 j_7 i2) p_8 j_10 i3) 9 p_11 x_12 fun j_13 =>
      am_gp (am_sI (am_sI (am_sI (am_sI h p_2 j_4 i1) p_5 j_7 i2) p_8 j_10 i3) p_11 j_13 i4) r0 2 15 fun p_14 =>
      am_gi (am_sI (am_sI (am_sI (am_sI h p_2 j_4 i1) p_5 j_7 i2) p_8 j_10 i3) p_11 j_13 i4) r0 2 9 fun x_15 =>
      am_ar (am_sI (am_sI (am_sI (am_sI h p_2 j_4 i1) p_5 j_7 i2) p_8 j_10 i3) p_11 j_13 i4) 9 p_14 x_15 fun j_16 =>
      am_gp (am_sI (am_sI (am_sI (am_sI (am_sI h p_2 j_4 i1) p_5 j_7 i2) p_8 j_10 i3) p_11 j_13 i4) p_14 j_16 i5) r0 2 16 fun p_17 =>
      am_gi (am_sI (am_sI (am_sI (am_sI (am_sI h p_2 j_4 i1) p_5 j_7 i2) p_8 j_10 i3) p_11 j_13 i4) p_14 j_16 i5) r0 2 9 fun x_18 =>
      am_ar (am_sI (am_sI (am_sI (am_sI (am_sI h p_2 j_4 i1) p_5 j_7 i2) p_8 j_10 i3) p_11 j_13 i4) p_14 j_16 i5) 9 p_17 x_18 fun j_19 =>
      am_gl (am_sI (am_sI (am_sI (am_sI (am_sI (am_sI h p_2 j_4 i1) p_5 j_7 i2) p_8 j_10 i3) p_11 j_13 i4) p_14 j_16 i5) p_17 j_19 i6) r0 2 10 fun y_20 =>
      am_gi (am_sI (am_sI (am_sI (am_sI (am_sI (am_sI h p_2 j_4 i1) p_5 j_7 i2) p_8 j_10 i3) p_11 j_13 i4) p_14 j_16 i5) p_17 j_19 i6) r0 2 9 fun x_21 =>
      am_ck (am_sI (am_sI (am_sI (am_sI (am_sI (am_sI h p_2 j_4 i1) p_5 j_7 i2) p_8 j_10 i3) p_11 j_13 i4) p_14 j_16 i5) p_17 j_19 i6) r0 2 <|
      am_gi (am_sL (am_sI (am_sI (am_sI (am_sI (am_sI (am_sI h p_2 j_4 i1) p_5 j_7 i2) p_8 j_10 i3) p_11 j_13 i4) p_14 j_16 i5) p_17 j_19 i6) r0 10 (y_20 ||| (am_lshl 1 x_21))) r0 2 9 fun x_22 =>
      am_ck (am_sL (am_sI (am_sI (am_sI (am_sI (am_sI (am_sI h p_2 j_4 i1) p_5 j_7 i2) p_8 j_10 i3) p_11 j_13 i4) p_14 j_16 i5) p_17 j_19 i6) r0 10 (y_20 ||| (am_lshl 1 x_21))) r0 2 <|
      some (.inr none, (am_sI (am_sL (am_sI (am_sI (am_sI (am_sI (am_sI (am_sI h p_2 j_4 i1) p_5 j_7 i2) p_8 j_10 i3) p_11 j_13 i4) p_14 j_16 i5) p_17 j_19 i6) r0 10 (y_20 ||| (am_lshl 1 x_21))) r0 9 (x_22 + 1)))
    else
    some (.inr none, h)) := by
  refine (am_sem_seg (am_sm am_MT d) m_On_addAxiom 56 0 [(0, .ref r0), (1, .int i1), (2, .int i2), (3, .int i3), (4, .int i4), (5, .int i5), (6, .int i6)] [] h).trans ?_
  rfl
set_option maxRecDepth 100000 in
theorem e_Re_init (d : Nat) (h : am_H) (r0 : Nat) (r1 : Nat) (r2 : Nat) : f_Re_init d h r0 r1 r2 = (
    am_ck h r0 3 <|
    f_Re_init_9 d (am_sI h r0 1 0) r0 r1 r2) := by
  refine (am_sem_seg (am_sm am_MT d) m_Re_init 5 0 [(0, .ref r0), (1, .ref r1), (2, .ref r2)] [] h).trans ?_
  rfl
set_option maxRecDepth 100000 in
theorem e_Re_init_9 (d : Nat) (h : am_H) (r0 : Nat) (r1 : Nat) (r2 : Nat) : f_Re_init_9 d h r0 r1 r2 = (
    am_01 0 <| am_ck h r0 3 <|
    f_Re_init_14 d (am_sI h r0 3 0) r0 r1 r2) := by
  refine (am_sem_seg (am_sm am_MT d) m_Re_init 3 9 [(0, .ref r0), (1, .ref r1), (2, .ref r2)] [] h).trans ?_
  rfl
set_option maxRecDepth 100000 in
theorem e_Re_init_14 (d : Nat) (h : am_H) (r0 : Nat) (r1 : Nat) (r2 : Nat) : f_Re_init_14 d h r0 r1 r2 = (
    am_ck h r0 3 <|
    f_Re_init_19 d (am_sI h r0 4 0) r0 r1 r2) := by
  refine (am_sem_seg (am_sm am_MT d) m_Re_init 3 14 [(0, .ref r0), (1, .ref r1), (2, .ref r2)] [] h).trans ?_
  rfl
set_option maxRecDepth 100000 in
theorem e_Re_init_19 (d : Nat) (h : am_H) (r0 : Nat) (r1 : Nat) (r2 : Nat) : f_Re_init_19 d h r0 r1 r2 = (
    am_ck h r0 3 <|
    f_Re_init_24 d (am_sI h r0 5 0) r0 r1 r2) := by
  refine (am_sem_seg (am_sm am_MT d) m_Re_init 3 19 [(0, .ref r0), (1, .ref r1), (2, .ref r2)] [] h).trans ?_
  rfl
set_option maxRecDepth 100000 in
theorem e_Re_init_24 (d : Nat) (h : am_H) (r0 : Nat) (r1 : Nat) (r2 : Nat) : f_Re_init_24 d h r0 r1 r2 = (
    am_ck h r0 3 <|
    f_Re_init_29 d (am_sI h r0 6 0) r0 r1 r2) := by
  refine (am_sem_seg (am_sm am_MT d) m_Re_init 3 24 [(0, .ref r0), (1, .ref r1), (2, .ref r2)] [] h).trans ?_
  rfl
set_option maxRecDepth 100000 in
theorem e_Re_init_29 (d : Nat) (h : am_H) (r0 : Nat) (r1 : Nat) (r2 : Nat) : f_Re_init_29 d h r0 r1 r2 = (
    am_ck h r0 3 <|
    f_Re_init_34 d (am_sI h r0 7 0) r0 r1 r2) := by
  refine (am_sem_seg (am_sm am_MT d) m_Re_init 3 29 [(0, .ref r0), (1, .ref r1), (2, .ref r2)] [] h).trans ?_
  rfl
set_option maxRecDepth 100000 in
theorem e_Re_init_34 (d : Nat) (h : am_H) (r0 : Nat) (r1 : Nat) (r2 : Nat) : f_Re_init_34 d h r0 r1 r2 = (
    am_ck h r0 3 <|
    f_Re_init_39 d (am_sL h r0 8 0) r0 r1 r2) := by
  refine (am_sem_seg (am_sm am_MT d) m_Re_init 3 34 [(0, .ref r0), (1, .ref r1), (2, .ref r2)] [] h).trans ?_
  rfl
set_option maxRecDepth 100000 in
theorem e_Re_init_39 (d : Nat) (h : am_H) (r0 : Nat) (r1 : Nat) (r2 : Nat) : f_Re_init_39 d h r0 r1 r2 = (
    am_ck h r0 3 <|
    f_Re_init_44 d (am_sI h r0 9 0) r0 r1 r2) := by
  refine (am_sem_seg (am_sm am_MT d) m_Re_init 3 39 [(0, .ref r0), (1, .ref r1), (2, .ref r2)] [] h).trans ?_
  rfl
set_option maxRecDepth 100000 in
theorem e_Re_init_44 (d : Nat) (h : am_H) (r0 : Nat) (r1 : Nat) (r2 : Nat) : f_Re_init_44 d h r0 r1 r2 = (
    am_ck h r0 3 <|
    f_Re_init_49 d (am_sI h r0 10 (-1)) r0 r1 r2) := by
  refine (am_sem_seg (am_sm am_MT d) m_Re_init 3 44 [(0, .ref r0), (1, .ref r1), (2, .ref r2)] [] h).trans ?_
  rfl
set_option maxRecDepth 100000 in
theorem e_Re_init_49 (d : Nat) (h : am_H) (r0 : Nat) (r1 : Nat) (r2 : Nat) : f_Re_init_49 d h r0 r1 r2 = (
    am_01 0 <| am_ck h r0 3 <|
    f_Re_init_54 d (am_sI h r0 11 0) r0 r1 r2) := by
  refine (am_sem_seg (am_sm am_MT d) m_Re_init 3 49 [(0, .ref r0), (1, .ref r1), (2, .ref r2)] [] h).trans ?_
  rfl
set_option maxRecDepth 100000 in
theorem e_Re_init_54 (d : Nat) (h : am_H) (r0 : Nat) (r1 : Nat) (r2 : Nat) : f_Re_init_54 d h r0 r1 r2 = (
    am_ck h r0 3 <|
    f_Re_init_59 d (am_sI h r0 12 (-1)) r0 r1 r2) := by
  refine (am_sem_seg (am_sm am_MT d) m_Re_init 3 54 [(0, .ref r0), (1, .ref r1), (2, .ref r2)] [] h).trans ?_
  rfl
set_option maxRecDepth 100000 in
theorem e_Re_init_59 (d : Nat) (h : am_H) (r0 : Nat) (r1 : Nat) (r2 : Nat) : f_Re_init_59 d h r0 r1 r2 = (
    am_ck h r0 3 <|
    f_Re_init_64 d (am_sI h r0 13 (-1)) r0 r1 r2) := by
  refine (am_sem_seg (am_sm am_MT d) m_Re_init 3 59 [(0, .ref r0), (1, .ref r1), (2, .ref r2)] [] h).trans ?_
  rfl
set_option maxRecDepth 100000 in
theorem e_Re_init_64 (d : Nat) (h : am_H) (r0 : Nat) (r1 : Nat) (r2 : Nat) : f_Re_init_64 d h r0 r1 r2 = (
    bif Nat.beq (am_G h) 0 && !(decide ((400 : Int32) < 0)) && Nat.ble (Int32.toNatClampNeg 400) 60000000 then
      am_ck (am_nw h (9, Int32.toNatClampNeg 400)) r0 3 <|
      f_Re_init_73 d (am_sP (am_nw h (9, Int32.toNatClampNeg 400)) r0 14 (some (am_S h).length)) r0 r1 r2
    else none) := by
  refine (am_sem_seg (am_sm am_MT d) m_Re_init 4 64 [(0, .ref r0), (1, .ref r1), (2, .ref r2)] [] h).trans ?_
  rfl
set_option maxRecDepth 100000 in
theorem e_Re_init_73 (d : Nat) (h : am_H) (r0 : Nat) (r1 : Nat) (r2 : Nat) : f_Re_init_73 d h r0 r1 r2 = (
    bif Nat.beq (am_G h) 0 && !(decide ((400 : Int32) < 0)) && Nat.ble (Int32.toNatClampNeg 400) 60000000 then
      am_ck (am_nw h (9, Int32.toNatClampNeg 400)) r0 3 <|
      f_Re_init_82 d (am_sP (am_nw h (9, Int32.toNatClampNeg 400)) r0 15 (some (am_S h).length)) r0 r1 r2
    else none) := by
  refine (am_sem_seg (am_sm am_MT d) m_Re_init 4 73 [(0, .ref r0), (1, .ref r1), (2, .ref r2)] [] h).trans ?_
  rfl
set_option maxRecDepth 100000 in
theorem e_Re_init_82 (d : Nat) (h : am_H) (r0 : Nat) (r1 : Nat) (r2 : Nat) : f_Re_init_82 d h r0 r1 r2 = (
    am_ck h r0 3 <|
    f_Re_init_87 d (am_sI h r0 16 0) r0 r1 r2) := by
  refine (am_sem_seg (am_sm am_MT d) m_Re_init 3 82 [(0, .ref r0), (1, .ref r1), (2, .ref r2)] [] h).trans ?_
  rfl
set_option maxRecDepth 100000 in
theorem e_Re_init_87 (d : Nat) (h : am_H) (r0 : Nat) (r1 : Nat) (r2 : Nat) : f_Re_init_87 d h r0 r1 r2 = (
    am_ck h r0 3 <|
    f_Re_init_92 d (am_sI h r0 17 0) r0 r1 r2) := by
  refine (am_sem_seg (am_sm am_MT d) m_Re_init 3 87 [(0, .ref r0), (1, .ref r1), (2, .ref r2)] [] h).trans ?_
  rfl
set_option maxRecDepth 100000 in
theorem e_Re_init_92 (d : Nat) (h : am_H) (r0 : Nat) (r1 : Nat) (r2 : Nat) : f_Re_init_92 d h r0 r1 r2 = (
    am_ck h r0 3 <|
    f_Re_init_97 d (am_sP h r0 0 (some r1)) r0 r2) := by
  refine (am_sem_seg (am_sm am_MT d) m_Re_init 3 92 [(0, .ref r0), (1, .ref r1), (2, .ref r2)] [] h).trans ?_
  rfl
set_option maxRecDepth 100000 in
theorem e_Re_init_97 (d : Nat) (h : am_H) (r0 : Nat) (r2 : Nat) : f_Re_init_97 d h r0 r2 = (
    am_ck h r0 3 <|
    f_Re_init_102 d (am_sP h r0 2 (some r2))) := by
  refine (am_sem_seg (am_sm am_MT d) m_Re_init 3 97 [(0, .ref r0), (2, .ref r2)] [] h).trans ?_
  rfl
set_option maxRecDepth 100000 in
theorem e_Re_init_102 (d : Nat) (h : am_H) : f_Re_init_102 d h = (
    some (.inr none, h)) := by
  refine (am_sem_seg (am_sm am_MT d) m_Re_init 1 102 [] [] h).trans ?_
  rfl
set_option maxRecDepth 100000 in
theorem e_Re_open (d : Nat) (h : am_H) (r0 : Nat) (i1 : Int32) (r2 : Nat) (i3 : Int32) : f_Re_open (d + 1) h r0 i1 r2 i3 = (
    am_gp h r0 3 0 fun p_1 =>
    am_al h p_1 fun x_2 =>
    if x_2 ≤ i1 then
      am_gp h r0 3 0 fun p_3 =>
      am_al h p_3 fun x_4 =>
      am_ck h r0 3 <|
      am_ck (am_sI h r0 1 x_4) r0 3 <|
      am_01 i3 <| am_ck (am_sP (am_sI h r0 1 x_4) r0 2 (some r2)) r0 3 <|
      am_ck (am_sI (am_sP (am_sI h r0 1 x_4) r0 2 (some r2)) r0 3 i3) r0 3 <|
      am_ck (am_sI (am_sI (am_sP (am_sI h r0 1 x_4) r0 2 (some r2)) r0 3 i3) r0 4 0) r0 3 <|
      am_ck (am_sI (am_sI (am_sI (am_sP (am_sI h r0 1 x_4) r0 2 (some r2)) r0 3 i3) r0 4 0) r0 9 0) r0 3 <|
      am_01 0 <| am_ck (am_sI (am_sI (am_sI (am_sI (am_sP (am_sI h r0 1 x_4) r0 2 (some r2)) r0 3 i3) r0 4 0) r0 9 0) r0 10 (-1)) r0 3 <|
      am_ck (am_sI (am_sI (am_sI (am_sI (am_sI (am_sP (am_sI h r0 1 x_4) r0 2 (some r2)) r0 3 i3) r0 4 0) r0 9 0) r0 10 (-1)) r0 11 0) r0 3 <| am_cv (f_Re_step d (am_sI (am_sI (am_sI (am_sI (am_sI (am_sP (am_sI h r0 1 x_4) r0 2 (some r2)) r0 3 i3) r0 4 0) r0 9 0) r0 10 (-1)) r0 11 0) r0) fun h_5 =>
      some (.inr none, h_5)
    else
    am_ck h r0 3 <|
    am_ck (am_sI h r0 1 i1) r0 3 <|
    am_01 i3 <| am_ck (am_sP (am_sI h r0 1 i1) r0 2 (some r2)) r0 3 <|
    am_ck (am_sI (am_sP (am_sI h r0 1 i1) r0 2 (some r2)) r0 3 i3) r0 3 <|
    am_ck (am_sI (am_sI (am_sP (am_sI h r0 1 i1) r0 2 (some r2)) r0 3 i3) r0 4 0) r0 3 <|
    am_ck (am_sI (am_sI (am_sI (am_sP (am_sI h r0 1 i1) r0 2 (some r2)) r0 3 i3) r0 4 0) r0 9 0) r0 3 <|
    am_01 0 <| am_ck (am_sI (am_sI (am_sI (am_sI (am_sP (am_sI h r0 1 i1) r0 2 (some r2)) r0 3 i3) r0 4 0) r0 9 0) r0 10 (-1)) r0 3 <|
    am_ck (am_sI (am_sI (am_sI (am_sI (am_sI (am_sP (am_sI h r0 1 i1) r0 2 (some r2)) r0 3 i3) r0 4 0) r0 9 0) r0 10 (-1)) r0 11 0) r0 3 <| am_cv (f_Re_step d (am_sI (am_sI (am_sI (am_sI (am_sI (am_sP (am_sI h r0 1 i1) r0 2 (some r2)) r0 3 i3) r0 4 0) r0 9 0) r0 10 (-1)) r0 11 0) r0) fun h_6 =>
    some (.inr none, h_6)) := by
  refine (am_sem_seg (am_sm am_MT (d + 1)) m_Re_open 31 0 [(0, .ref r0), (1, .int i1), (2, .ref r2), (3, .int i3)] [] h).trans ?_
  rfl
set_option maxRecDepth 100000 in
theorem e_Re_readAxioms (d : Nat) (h : am_H) (r0 : Nat) : f_Re_readAxioms d h r0 = (
    f_Re_readAxioms_2 d h r0 0) := by
  refine (am_sem_seg (am_sm am_MT d) m_Re_readAxioms 2 0 [(0, .ref r0)] [] h).trans ?_
  rfl
set_option maxRecDepth 100000 in
theorem e_Re_readAxioms_2 (d : Nat) (h : am_H) (r0 : Nat) (i1 : Int32) : f_Re_readAxioms_2 (d + 1) h r0 i1 = (
    if 32 < i1 then
      some (.inr none, h)
    else
    am_gi h r0 3 9 fun x_1 =>
    if x_1 = 0 then
      am_gi h r0 3 5 fun x_2 =>
      if x_2 = 0 then
        some (.inr none, h)
      else
      am_ck h r0 3 <| am_ci (f_Re_canBegin d h r0) fun x_4 h_3 =>
      if x_4 = 0 then
        am_gi h_3 r0 3 6 fun x_5 =>
        am_ck h_3 r0 3 <| am_cv (f_Re_fail d h_3 r0 1 x_5) fun h_6 =>
        f_Re_readAxioms_2 (d + 1) h_6 r0 (i1 + 1)
      else
      am_gi h_3 r0 3 5 fun x_7 =>
      if x_7 = 1 then
        am_gi h_3 r0 3 7 fun x_8 =>
        if x_8 ≤ 6 then
          f_Re_readAxioms_70 (d + 1) h_3 r0 i1
        else
        am_gi h_3 r0 3 6 fun x_9 =>
        am_ck h_3 r0 3 <| am_cv (f_Re_fail d h_3 r0 2 x_9) fun h_10 =>
        f_Re_readAxioms_2 (d + 1) h_10 r0 (i1 + 1)
      else
      f_Re_readAxioms_70 (d + 1) h_3 r0 i1
    else
    some (.inr none, h)) := by
  refine (am_sem_seg (am_sm am_MT (d + 1)) m_Re_readAxioms 28 2 [(0, .ref r0), (1, .int i1)] [] h).trans ?_
  rfl
set_option maxRecDepth 100000 in
theorem e_Re_readAxioms_70 (d : Nat) (h : am_H) (r0 : Nat) (i1 : Int32) : f_Re_readAxioms_70 (d + 1) h r0 i1 = (
    am_gp h r0 3 2 fun p_1 =>
    am_gi h p_1 2 9 fun x_2 =>
    if x_2 < 32 then
      am_gi h r0 3 5 fun x_3 =>
      if x_3 = 1 then
        am_ck h r0 3 <| am_ci (f_Re_roleSignFollows d h r0) fun x_5 h_4 =>
        if x_5 = 0 then
          am_ck h_4 r0 3 <| am_cv (f_Re_readConceptAxiom d h_4 r0) fun h_6 =>
          f_Re_readAxioms_2 (d + 1) h_6 r0 (i1 + 1)
        else
        am_ck h_4 r0 3 <| am_cv (f_Re_readRoleAxiom d h_4 r0) fun h_7 =>
        f_Re_readAxioms_2 (d + 1) h_7 r0 (i1 + 1)
      else
      am_ck h r0 3 <| am_cv (f_Re_readConceptAxiom d h r0) fun h_8 =>
      f_Re_readAxioms_2 (d + 1) h_8 r0 (i1 + 1)
    else
    am_gi h r0 3 6 fun x_9 =>
    am_ck h r0 3 <| am_cv (f_Re_fail d h r0 3 x_9) fun h_10 =>
    f_Re_readAxioms_2 (d + 1) h_10 r0 (i1 + 1)) := by
  refine (am_sem_seg (am_sm am_MT (d + 1)) m_Re_readAxioms 17 70 [(0, .ref r0), (1, .int i1)] [] h).trans ?_
  rfl
set_option maxRecDepth 100000 in
theorem e_Re_readQuestion (d : Nat) (h : am_H) (r0 : Nat) : f_Re_readQuestion (d + 1) h r0 = (
    am_ck h r0 3 <| am_ci (f_Re_readConcept d h r0) fun x_2 h_1 =>
    am_ck h_1 r0 3 <|
    am_ck (am_sI h_1 r0 12 x_2) r0 3 <| am_cv (f_Re_expect d (am_sI h_1 r0 12 x_2) r0 8) fun h_3 =>
    am_gi h_3 r0 3 9 fun x_4 =>
    if x_4 = 0 then
      am_ck h_3 r0 3 <| am_ci (f_Re_readConcept d h_3 r0) fun x_6 h_5 =>
      am_ck h_5 r0 3 <|
      am_ck (am_sI h_5 r0 13 x_6) r0 3 <| am_cv (f_Re_expect d (am_sI h_5 r0 13 x_6) r0 0) fun h_7 =>
      am_ck h_7 r0 3 <| am_cv (f_Re_failIfTooManyParts d h_7 r0 0) fun h_8 =>
      some (.inr none, h_8)
    else
    am_ck h_3 r0 3 <|
    am_ck (am_sI h_3 r0 13 (-1)) r0 3 <| am_cv (f_Re_expect d (am_sI h_3 r0 13 (-1)) r0 0) fun h_9 =>
    am_ck h_9 r0 3 <| am_cv (f_Re_failIfTooManyParts d h_9 r0 0) fun h_10 =>
    some (.inr none, h_10)) := by
  refine (am_sem_seg (am_sm am_MT (d + 1)) m_Re_readQuestion 22 0 [(0, .ref r0)] [] h).trans ?_
  rfl
set_option maxRecDepth 100000 in
theorem e_Re_readSingle (d : Nat) (h : am_H) (r0 : Nat) : f_Re_readSingle (d + 1) h r0 = (
    am_ck h r0 3 <| am_ci (f_Re_readConcept d h r0) fun x_2 h_1 =>
    am_ck h_1 r0 3 <|
    am_ck (am_sI h_1 r0 12 x_2) r0 3 <| am_cv (f_Re_expect d (am_sI h_1 r0 12 x_2) r0 0) fun h_3 =>
    am_ck h_3 r0 3 <| am_cv (f_Re_failIfTooManyParts d h_3 r0 0) fun h_4 =>
    some (.inr none, h_4)) := by
  refine (am_sem_seg (am_sm am_MT (d + 1)) m_Re_readSingle 11 0 [(0, .ref r0)] [] h).trans ?_
  rfl
set_option maxRecDepth 100000 in
theorem e_Re_readConceptAxiom (d : Nat) (h : am_H) (r0 : Nat) : f_Re_readConceptAxiom (d + 1) h r0 = (
    am_gi h r0 3 6 fun x_1 =>
    am_ck h r0 3 <| am_ci (f_Re_readConcept d h r0) fun x_3 h_2 =>
    am_gi h_2 r0 3 5 fun x_4 =>
    if x_4 = 9 then
      if (1 : Int32) = 1 then
        f_Re_readConceptAxiom_38 (d + 1) h_2 r0 x_1 x_3 1 r0 9
      else
      f_Re_readConceptAxiom_38 (d + 1) h_2 r0 x_1 x_3 1 r0 8
    else
    if (0 : Int32) = 1 then
      f_Re_readConceptAxiom_38 (d + 1) h_2 r0 x_1 x_3 0 r0 9
    else
    f_Re_readConceptAxiom_38 (d + 1) h_2 r0 x_1 x_3 0 r0 8) := by
  refine (am_sem_seg (am_sm am_MT (d + 1)) m_Re_readConceptAxiom 19 0 [(0, .ref r0)] [] h).trans ?_
  rfl
set_option maxRecDepth 100000 in
theorem e_Re_readConceptAxiom_38 (d : Nat) (h : am_H) (r0 : Nat) (i1 : Int32) (i2 : Int32) (i3 : Int32) (s0 : Nat) (s1 : Int32) : f_Re_readConceptAxiom_38 (d + 1) h r0 i1 i2 i3 s0 s1 = (
    am_ck h s0 3 <| am_cv (f_Re_expect d h s0 s1) fun h_1 =>
    am_gi h_1 r0 3 9 fun x_2 =>
    if x_2 = 0 then
      am_ck h_1 r0 3 <| am_ci (f_Re_readConcept d h_1 r0) fun x_4 h_3 =>
      am_ck h_3 r0 3 <| am_cv (f_Re_expect d h_3 r0 12) fun h_5 =>
      am_ck h_5 r0 3 <| am_cv (f_Re_failIfTooManyParts d h_5 r0 i1) fun h_6 =>
      am_gi h_6 r0 3 9 fun x_7 =>
      if x_7 = 0 then
        am_gp h_6 r0 3 2 fun p_8 =>
        am_ck h_6 p_8 2 <| am_cv (f_On_addConceptAxiom d h_6 p_8 i3 i2 x_4) fun h_9 =>
        some (.inr none, h_9)
      else
      some (.inr none, h_6)
    else
    am_ck h_1 r0 3 <| am_cv (f_Re_expect d h_1 r0 12) fun h_10 =>
    am_ck h_10 r0 3 <| am_cv (f_Re_failIfTooManyParts d h_10 r0 i1) fun h_11 =>
    am_gi h_11 r0 3 9 fun x_12 =>
    if x_12 = 0 then
      am_gp h_11 r0 3 2 fun p_13 =>
      am_ck h_11 p_13 2 <| am_cv (f_On_addConceptAxiom d h_11 p_13 i3 i2 (-1)) fun h_14 =>
      some (.inr none, h_14)
    else
    some (.inr none, h_11)) := by
  refine (am_sem_seg (am_sm am_MT (d + 1)) m_Re_readConceptAxiom 24 38 [(0, .ref r0), (1, .int i1), (2, .int i2), (3, .int i3)] [.int s1, .ref s0] h).trans ?_
  rfl
set_option maxRecDepth 100000 in
theorem e_Re_readRoleAxiom (d : Nat) (h : am_H) (r0 : Nat) : f_Re_readRoleAxiom (d + 1) h r0 = (
    am_ck h r0 3 <| am_ci (f_Re_readRole d h r0) fun x_2 h_1 =>
    am_gi h_1 r0 3 5 fun x_3 =>
    if x_3 = 10 then
      if (1 : Int32) = 0 then
        f_Re_readRoleAxiom_37 (d + 1) h_1 r0 x_2 (-1) 1
      else
      am_ck h_1 r0 3 <| am_cv (f_Re_expect d h_1 r0 10) fun h_4 =>
      am_ck h_4 r0 3 <| am_ci (f_Re_readRole d h_4 r0) fun x_6 h_5 =>
      f_Re_readRoleAxiom_37 (d + 1) h_5 r0 x_2 x_6 1
    else
    if (0 : Int32) = 0 then
      f_Re_readRoleAxiom_37 (d + 1) h_1 r0 x_2 (-1) 0
    else
    am_ck h_1 r0 3 <| am_cv (f_Re_expect d h_1 r0 10) fun h_7 =>
    am_ck h_7 r0 3 <| am_ci (f_Re_readRole d h_7 r0) fun x_9 h_8 =>
    f_Re_readRoleAxiom_37 (d + 1) h_8 r0 x_2 x_9 0) := by
  refine (am_sem_seg (am_sm am_MT (d + 1)) m_Re_readRoleAxiom 20 0 [(0, .ref r0)] [] h).trans ?_
  rfl
set_option maxRecDepth 100000 in
theorem e_Re_readRoleAxiom_37 (d : Nat) (h : am_H) (r0 : Nat) (i1 : Int32) (i2 : Int32) (i3 : Int32) : f_Re_readRoleAxiom_37 (d + 1) h r0 i1 i2 i3 = (
    am_ck h r0 3 <| am_cv (f_Re_expect d h r0 11) fun h_1 =>
    am_ck h_1 r0 3 <| am_ci (f_Re_readRole d h_1 r0) fun x_3 h_2 =>
    am_ck h_2 r0 3 <| am_cv (f_Re_expect d h_2 r0 12) fun h_4 =>
    am_gi h_4 r0 3 9 fun x_5 =>
    if x_5 = 0 then
      if i3 = 0 then
        am_gp h_4 r0 3 2 fun p_6 =>
        am_ck h_4 p_6 2 <| am_cv (f_On_addRoleAxiom d h_4 p_6 i1 x_3 (-1)) fun h_7 =>
        some (.inr none, h_7)
      else
      am_gp h_4 r0 3 2 fun p_8 =>
      am_ck h_4 p_8 2 <| am_cv (f_On_addRoleAxiom d h_4 p_8 i1 i2 x_3) fun h_9 =>
      some (.inr none, h_9)
    else
    some (.inr none, h_4)) := by
  refine (am_sem_seg (am_sm am_MT (d + 1)) m_Re_readRoleAxiom 22 37 [(0, .ref r0), (1, .int i1), (2, .int i2), (3, .int i3)] [] h).trans ?_
  rfl
set_option maxRecDepth 100000 in
theorem e_Re_readConcept (d : Nat) (h : am_H) (r0 : Nat) : f_Re_readConcept d h r0 = (
    am_ck h r0 3 <|
    am_ck (am_sI h r0 16 0) r0 3 <|
    f_Re_readConcept_12 d (am_sI (am_sI h r0 16 0) r0 17 0) r0 0) := by
  refine (am_sem_seg (am_sm am_MT d) m_Re_readConcept 8 0 [(0, .ref r0)] [] h).trans ?_
  rfl
set_option maxRecDepth 100000 in
theorem e_Re_readConcept_12 (d : Nat) (h : am_H) (r0 : Nat) (i1 : Int32) : f_Re_readConcept_12 (d + 1) h r0 i1 = (
    if 400 < i1 then
      some (.inr (some (.int (-1))), h)
    else
    am_gi h r0 3 9 fun x_1 =>
    if x_1 = 0 then
      am_gi h r0 3 5 fun x_2 =>
      if x_2 = 4 then
        am_ck h r0 3 <| am_cv (f_Re_step d h r0) fun h_3 =>
        am_ck h_3 r0 3 <| am_ci (f_Re_readRole d h_3 r0) fun x_5 h_4 =>
        am_ck h_4 r0 3 <| am_cv (f_Re_pushFrame d h_4 r0 4 x_5) fun h_6 =>
        f_Re_readConcept_12 (d + 1) h_6 r0 (i1 + 1)
      else
      am_gi h r0 3 5 fun x_7 =>
      if x_7 = 5 then
        am_ck h r0 3 <| am_cv (f_Re_openBracket d h r0) fun h_8 =>
        f_Re_readConcept_12 (d + 1) h_8 r0 (i1 + 1)
      else
      am_ck h r0 3 <| am_ci (f_Re_readPlain d h r0) fun x_10 h_9 =>
      am_ck h_9 r0 3 <| am_ci (f_Re_closeFrames d h_9 r0 x_10) fun x_12 h_11 =>
      am_gi h_11 r0 3 5 fun x_13 =>
      if x_13 = 7 then
        am_ck h_11 r0 3 <| am_cv (f_Re_pushFrame d h_11 r0 7 x_12) fun h_14 =>
        am_ck h_14 r0 3 <| am_cv (f_Re_step d h_14 r0) fun h_15 =>
        f_Re_readConcept_12 (d + 1) h_15 r0 (i1 + 1)
      else
      some (.inr (some (.int x_12)), h_11)
    else
    some (.inr (some (.int (-1))), h)) := by
  refine (am_sem_seg (am_sm am_MT (d + 1)) m_Re_readConcept 31 12 [(0, .ref r0), (1, .int i1)] [] h).trans ?_
  rfl
set_option maxRecDepth 100000 in
theorem e_Re_openBracket (d : Nat) (h : am_H) (r0 : Nat) : f_Re_openBracket (d + 1) h r0 = (
    am_gi h r0 3 17 fun x_1 =>
    if x_1 < 6 then
      am_gi h r0 3 17 fun x_2 =>
      am_ck h r0 3 <|
      am_ck (am_sI h r0 17 (x_2 + 1)) r0 3 <| am_cv (f_Re_pushFrame d (am_sI h r0 17 (x_2 + 1)) r0 5 (-1)) fun h_3 =>
      am_ck h_3 r0 3 <| am_cv (f_Re_step d h_3 r0) fun h_4 =>
      some (.inr none, h_4)
    else
    am_gi h r0 3 6 fun x_5 =>
    am_ck h r0 3 <| am_cv (f_Re_fail d h r0 4 x_5) fun h_6 =>
    some (.inr none, h_6)) := by
  refine (am_sem_seg (am_sm am_MT (d + 1)) m_Re_openBracket 17 0 [(0, .ref r0)] [] h).trans ?_
  rfl
set_option maxRecDepth 100000 in
theorem e_Re_pushFrame (d : Nat) (h : am_H) (r0 : Nat) (i1 : Int32) (i2 : Int32) : f_Re_pushFrame d h r0 i1 i2 = (
    am_gi h r0 3 16 fun x_1 =>
    am_gp h r0 3 14 fun p_2 =>
    am_al h p_2 fun x_3 =>
    if x_3 ≤ x_1 then
      some (.inr none, h)
    else
    am_gi h r0 3 16 fun x_4 =>
    am_gp h r0 3 15 fun p_5 =>
    am_al h p_5 fun x_6 =>
    if x_6 ≤ x_4 then
      some (.inr none, h)
    else
    am_gp h r0 3 14 fun p_7 =>
    am_gi h r0 3 16 fun x_8 =>
    am_ar h 9 p_7 x_8 fun j_9 =>
    am_gp (am_sI h p_7 j_9 i1) r0 3 15 fun p_10 =>
    am_gi (am_sI h p_7 j_9 i1) r0 3 16 fun x_11 =>
    am_ar (am_sI h p_7 j_9 i1) 9 p_10 x_11 fun j_12 =>
    am_gi (am_sI (am_sI h p_7 j_9 i1) p_10 j_12 i2) r0 3 16 fun x_13 =>
    am_ck (am_sI (am_sI h p_7 j_9 i1) p_10 j_12 i2) r0 3 <|
    some (.inr none, (am_sI (am_sI (am_sI h p_7 j_9 i1) p_10 j_12 i2) r0 16 (x_13 + 1)))) := by
  refine (am_sem_seg (am_sm am_MT d) m_Re_pushFrame 31 0 [(0, .ref r0), (1, .int i1), (2, .int i2)] [] h).trans ?_
  rfl
set_option maxRecDepth 100000 in
theorem e_Re_closeFrames (d : Nat) (h : am_H) (r0 : Nat) (i1 : Int32) : f_Re_closeFrames d h r0 i1 = (
    f_Re_closeFrames_4 d h r0 i1 0) := by
  refine (am_sem_seg (am_sm am_MT d) m_Re_closeFrames 4 0 [(0, .ref r0), (1, .int i1)] [] h).trans ?_
  rfl
set_option maxRecDepth 100000 in
theorem e_Re_closeFrames_4 (d : Nat) (h : am_H) (r0 : Nat) (i2 : Int32) (i3 : Int32) : f_Re_closeFrames_4 (d + 1) h r0 i2 i3 = (
    if 400 < i3 then
      some (.inr (some (.int i2)), h)
    else
    am_gi h r0 3 16 fun x_1 =>
    if x_1 ≤ 0 then
      some (.inr (some (.int i2)), h)
    else
    am_gi h r0 3 9 fun x_2 =>
    if x_2 = 0 then
      am_gp h r0 3 14 fun p_3 =>
      am_gi h r0 3 16 fun x_4 =>
      am_ar h 9 p_3 (x_4 - 1) fun j_5 =>
      am_gp h r0 3 15 fun p_6 =>
      am_gi h r0 3 16 fun x_7 =>
      am_ar h 9 p_6 (x_7 - 1) fun j_8 =>
      if (am_I h p_3 j_5) = 4 then
        am_ck h r0 3 <| am_ci (f_Re_build d h r0 4 (am_I h p_6 j_8) i2) fun x_10 h_9 =>
        f_Re_closeFrames_134 (d + 1) h_9 r0 x_10 i3
      else
      if (am_I h p_3 j_5) = 7 then
        am_ck h r0 3 <| am_ci (f_Re_build d h r0 3 (am_I h p_6 j_8) i2) fun x_12 h_11 =>
        f_Re_closeFrames_134 (d + 1) h_11 r0 x_12 i3
      else
      am_gi h r0 3 5 fun x_13 =>
      if x_13 = 6 then
        am_gi h r0 3 17 fun x_14 =>
        am_ck h r0 3 <|
        am_ck (am_sI h r0 17 (x_14 - 1)) r0 3 <| am_cv (f_Re_step d (am_sI h r0 17 (x_14 - 1)) r0) fun h_15 =>
        f_Re_closeFrames_134 (d + 1) h_15 r0 i2 i3
      else
      am_gi h r0 3 5 fun x_16 =>
      if x_16 = 7 then
        some (.inr (some (.int i2)), h)
      else
      am_gi h r0 3 6 fun x_17 =>
      am_ck h r0 3 <| am_cv (f_Re_fail d h r0 1 x_17) fun h_18 =>
      some (.inr (some (.int i2)), h_18)
    else
    some (.inr (some (.int i2)), h)) := by
  refine (am_sem_seg (am_sm am_MT (d + 1)) m_Re_closeFrames 46 4 [(0, .ref r0), (2, .int i2), (3, .int i3)] [] h).trans ?_
  rfl
set_option maxRecDepth 100000 in
theorem e_Re_closeFrames_134 (d : Nat) (h : am_H) (r0 : Nat) (i2 : Int32) (i3 : Int32) : f_Re_closeFrames_134 d h r0 i2 i3 = (
    am_gi h r0 3 16 fun x_1 =>
    am_ck h r0 3 <|
    f_Re_closeFrames_4 d (am_sI h r0 16 (x_1 - 1)) r0 i2 (i3 + 1)) := by
  refine (am_sem_seg (am_sm am_MT d) m_Re_closeFrames 8 134 [(0, .ref r0), (2, .int i2), (3, .int i3)] [] h).trans ?_
  rfl
set_option maxRecDepth 100000 in
theorem e_Re_readPlain (d : Nat) (h : am_H) (r0 : Nat) : f_Re_readPlain (d + 1) h r0 = (
    am_gi h r0 3 5 fun x_1 =>
    if x_1 = 2 then
      am_ck h r0 3 <| am_cv (f_Re_step d h r0) fun h_2 =>
      some (.inr (some (.int 0)), h_2)
    else
    am_gi h r0 3 5 fun x_3 =>
    if x_3 = 3 then
      am_ck h r0 3 <| am_cv (f_Re_step d h r0) fun h_4 =>
      some (.inr (some (.int 1)), h_4)
    else
    am_gp h r0 3 2 fun p_5 =>
    am_gp h p_5 2 0 fun p_6 =>
    am_ck h r0 3 <| am_ci (f_Re_numberOfWord d h r0 p_6) fun x_8 h_7 =>
    am_gi h_7 r0 3 9 fun x_9 =>
    if x_9 = 0 then
      am_ck h_7 r0 3 <| am_ci (f_Re_build d h_7 r0 0 x_8 (-1)) fun x_11 h_10 =>
      am_ck h_10 r0 3 <| am_cv (f_Re_step d h_10 r0) fun h_12 =>
      some (.inr (some (.int x_11)), h_12)
    else
    some (.inr (some (.int (-1))), h_7)) := by
  refine (am_sem_seg (am_sm am_MT (d + 1)) m_Re_readPlain 29 0 [(0, .ref r0)] [] h).trans ?_
  rfl
set_option maxRecDepth 100000 in
theorem e_Re_readRole (d : Nat) (h : am_H) (r0 : Nat) : f_Re_readRole (d + 1) h r0 = (
    am_gp h r0 3 2 fun p_1 =>
    am_gp h p_1 2 1 fun p_2 =>
    am_ck h r0 3 <| am_ci (f_Re_numberOfWord d h r0 p_2) fun x_4 h_3 =>
    am_gi h_3 r0 3 9 fun x_5 =>
    if x_5 = 0 then
      am_ck h_3 r0 3 <| am_cv (f_Re_step d h_3 r0) fun h_6 =>
      some (.inr (some (.int x_4)), h_6)
    else
    some (.inr (some (.int x_4)), h_3)) := by
  refine (am_sem_seg (am_sm am_MT (d + 1)) m_Re_readRole 13 0 [(0, .ref r0)] [] h).trans ?_
  rfl
set_option maxRecDepth 100000 in
theorem e_Re_numberOfWord (d : Nat) (h : am_H) (r0 : Nat) (r1 : Nat) : f_Re_numberOfWord (d + 1) h r0 r1 = (
    am_gi h r0 3 5 fun x_1 =>
    if x_1 = 1 then
      am_gi h r0 3 7 fun x_2 =>
      if x_2 ≤ 6 then
        am_gl h r0 3 8 fun y_3 =>
        am_ck h r1 6 <| am_ci (f_Wo_find d h r1 y_3) fun x_5 h_4 =>
        if x_5 = (-1) then
          am_gi h_4 r0 3 3 fun x_6 =>
          if x_6 = 0 then
            f_Re_numberOfWord_73 (d + 1) h_4 r0 r1 x_5
          else
          am_gi h_4 r0 3 6 fun x_7 =>
          am_ck h_4 r0 3 <| am_cv (f_Re_fail d h_4 r0 6 x_7) fun h_8 =>
          some (.inr (some (.int x_5)), h_8)
        else
        f_Re_numberOfWord_73 (d + 1) h_4 r0 r1 x_5
      else
      am_gi h r0 3 6 fun x_9 =>
      am_ck h r0 3 <| am_cv (f_Re_fail d h r0 2 x_9) fun h_10 =>
      some (.inr (some (.int (-1))), h_10)
    else
    am_gi h r0 3 6 fun x_11 =>
    am_ck h r0 3 <| am_cv (f_Re_fail d h r0 1 x_11) fun h_12 =>
    some (.inr (some (.int (-1))), h_12)) := by
  refine (am_sem_seg (am_sm am_MT (d + 1)) m_Re_numberOfWord 27 0 [(0, .ref r0), (1, .ref r1)] [] h).trans ?_
  rfl
set_option maxRecDepth 100000 in
theorem e_Re_numberOfWord_73 (d : Nat) (h : am_H) (r0 : Nat) (r1 : Nat) (i2 : Int32) : f_Re_numberOfWord_73 (d + 1) h r0 r1 i2 = (
    if i2 = (-1) then
      am_gl h r0 3 8 fun y_1 =>
      am_ck h r1 6 <| am_ci (f_Wo_add d h r1 y_1) fun x_3 h_2 =>
      if x_3 = (-1) then
        am_gi h_2 r0 3 6 fun x_4 =>
        am_ck h_2 r0 3 <| am_cv (f_Re_fail d h_2 r0 3 x_4) fun h_5 =>
        some (.inr (some (.int x_3)), h_5)
      else
      some (.inr (some (.int x_3)), h_2)
    else
    some (.inr (some (.int i2)), h)) := by
  refine (am_sem_seg (am_sm am_MT (d + 1)) m_Re_numberOfWord 18 73 [(0, .ref r0), (1, .ref r1), (2, .int i2)] [] h).trans ?_
  rfl
set_option maxRecDepth 100000 in
theorem e_Re_build (d : Nat) (h : am_H) (r0 : Nat) (i1 : Int32) (i2 : Int32) (i3 : Int32) : f_Re_build (d + 1) h r0 i1 i2 i3 = (
    am_gi h r0 3 11 fun x_1 =>
    if x_1 = 0 then
      am_gi h r0 3 9 fun x_2 =>
      if x_2 = 0 then
        am_gp h r0 3 2 fun p_3 =>
        am_ck h p_3 2 <| am_ci (f_On_intern d h p_3 i1 i2 i3) fun x_5 h_4 =>
        if x_5 = (-1) then
          am_01 1 <| am_ck h_4 r0 3 <|
          some (.inr (some (.int x_5)), (am_sI h_4 r0 11 1))
        else
        am_01 0 <| am_ck h_4 r0 3 <|
        some (.inr (some (.int x_5)), (am_sI h_4 r0 11 0))
      else
      some (.inr (some (.int (-1))), h)
    else
    some (.inr (some (.int (-1))), h)) := by
  refine (am_sem_seg (am_sm am_MT (d + 1)) m_Re_build 22 0 [(0, .ref r0), (1, .int i1), (2, .int i2), (3, .int i3)] [] h).trans ?_
  rfl
set_option maxRecDepth 100000 in
theorem e_Re_failIfTooManyParts (d : Nat) (h : am_H) (r0 : Nat) (i1 : Int32) : f_Re_failIfTooManyParts (d + 1) h r0 i1 = (
    am_gi h r0 3 11 fun x_1 =>
    if x_1 = 0 then
      some (.inr none, h)
    else
    am_ck h r0 3 <| am_cv (f_Re_fail d h r0 5 i1) fun h_2 =>
    some (.inr none, h_2)) := by
  refine (am_sem_seg (am_sm am_MT (d + 1)) m_Re_failIfTooManyParts 8 0 [(0, .ref r0), (1, .int i1)] [] h).trans ?_
  rfl
set_option maxRecDepth 100000 in
theorem e_Re_expect (d : Nat) (h : am_H) (r0 : Nat) (i1 : Int32) : f_Re_expect (d + 1) h r0 i1 = (
    am_gi h r0 3 5 fun x_1 =>
    if x_1 = i1 then
      am_gi h r0 3 9 fun x_2 =>
      if x_2 = 0 then
        am_ck h r0 3 <| am_cv (f_Re_step d h r0) fun h_3 =>
        some (.inr none, h_3)
      else
      some (.inr none, h)
    else
    am_gi h r0 3 6 fun x_4 =>
    am_ck h r0 3 <| am_cv (f_Re_fail d h r0 1 x_4) fun h_5 =>
    some (.inr none, h_5)) := by
  refine (am_sem_seg (am_sm am_MT (d + 1)) m_Re_expect 11 0 [(0, .ref r0), (1, .int i1)] [] h).trans ?_
  rfl
set_option maxRecDepth 100000 in
theorem e_Re_fail (d : Nat) (h : am_H) (r0 : Nat) (i1 : Int32) (i2 : Int32) : f_Re_fail d h r0 i1 i2 = (
    am_gi h r0 3 9 fun x_1 =>
    if x_1 = 0 then
      am_ck h r0 3 <|
      am_ck (am_sI h r0 9 i1) r0 3 <|
      some (.inr none, (am_sI (am_sI h r0 9 i1) r0 10 i2))
    else
    some (.inr none, h)) := by
  refine (am_sem_seg (am_sm am_MT d) m_Re_fail 10 0 [(0, .ref r0), (1, .int i1), (2, .int i2)] [] h).trans ?_
  rfl
set_option maxRecDepth 100000 in
theorem e_Re_canBegin (d : Nat) (h : am_H) (r0 : Nat) : f_Re_canBegin d h r0 = (
    am_gi h r0 3 5 fun x_1 =>
    if x_1 = 1 then
      am_01 1 (some (.inr (some (.int 1)), h))
    else
    am_gi h r0 3 5 fun x_2 =>
    if x_2 = 2 then
      am_01 1 (some (.inr (some (.int 1)), h))
    else
    am_gi h r0 3 5 fun x_3 =>
    if x_3 = 3 then
      am_01 1 (some (.inr (some (.int 1)), h))
    else
    am_gi h r0 3 5 fun x_4 =>
    if x_4 = 4 then
      am_01 1 (some (.inr (some (.int 1)), h))
    else
    am_gi h r0 3 5 fun x_5 =>
    if x_5 = 5 then
      am_01 1 (some (.inr (some (.int 1)), h))
    else
    am_01 0 (some (.inr (some (.int 0)), h))) := by
  refine (am_sem_seg (am_sm am_MT d) m_Re_canBegin 23 0 [(0, .ref r0)] [] h).trans ?_
  rfl
set_option maxRecDepth 100000 in
theorem e_Re_roleSignFollows (d : Nat) (h : am_H) (r0 : Nat) : f_Re_roleSignFollows (d + 1) h r0 = (
    am_gi h r0 3 4 fun x_1 =>
    am_ck h r0 3 <| am_ci (f_Re_behindBlanks d h r0 x_1) fun x_3 h_2 =>
    am_ck h_2 r0 3 <| am_ci (f_Re_isSign d h_2 r0 x_3 42) fun x_5 h_4 =>
    if x_5 = 0 then
      am_ck h_4 r0 3 <| am_ci (f_Re_isSign d h_4 r0 x_3 60) fun x_7 h_6 =>
      if x_7 = 0 then
        am_01 0 (some (.inr (some (.int 0)), h_6))
      else
      am_ck h_6 r0 3 <| am_ci (f_Re_isSign d h_6 r0 (x_3 + 1) 60) fun x_9 h_8 =>
      if x_9 = 0 then
        am_01 0 (some (.inr (some (.int 0)), h_8))
      else
      am_01 1 (some (.inr (some (.int 1)), h_8))
    else
    am_01 1 (some (.inr (some (.int 1)), h_4))) := by
  refine (am_sem_seg (am_sm am_MT (d + 1)) m_Re_roleSignFollows 25 0 [(0, .ref r0)] [] h).trans ?_
  rfl
set_option maxRecDepth 100000 in
theorem e_Re_isSign (d : Nat) (h : am_H) (r0 : Nat) (i1 : Int32) (i2 : Int32) : f_Re_isSign d h r0 i1 i2 = (
    if i1 < 0 then
      am_01 0 (some (.inr (some (.int 0)), h))
    else
    am_gi h r0 3 1 fun x_1 =>
    if x_1 ≤ i1 then
      am_01 0 (some (.inr (some (.int 0)), h))
    else
    am_gp h r0 3 0 fun p_2 =>
    am_ar h 11 p_2 i1 fun j_3 =>
    if (am_I h p_2 j_3) = i2 then
      am_01 1 (some (.inr (some (.int 1)), h))
    else
    am_01 0 (some (.inr (some (.int 0)), h))) := by
  refine (am_sem_seg (am_sm am_MT d) m_Re_isSign 15 0 [(0, .ref r0), (1, .int i1), (2, .int i2)] [] h).trans ?_
  rfl
set_option maxRecDepth 100000 in
theorem e_Re_behindBlanks (d : Nat) (h : am_H) (r0 : Nat) (i1 : Int32) : f_Re_behindBlanks d h r0 i1 = (
    f_Re_behindBlanks_2 d h r0 i1) := by
  refine (am_sem_seg (am_sm am_MT d) m_Re_behindBlanks 2 0 [(0, .ref r0), (1, .int i1)] [] h).trans ?_
  rfl
set_option maxRecDepth 100000 in
theorem e_Re_behindBlanks_2 (d : Nat) (h : am_H) (r0 : Nat) (i2 : Int32) : f_Re_behindBlanks_2 d h r0 i2 = (
    am_gi h r0 3 1 fun x_1 =>
    if x_1 ≤ i2 then
      some (.inr (some (.int i2)), h)
    else
    am_gp h r0 3 0 fun p_2 =>
    am_ar h 11 p_2 i2 fun j_3 =>
    if (am_I h p_2 j_3) = 32 then
      f_Re_behindBlanks_2 d h r0 (i2 + 1)
    else
    some (.inr (some (.int i2)), h)) := by
  refine (am_sem_seg (am_sm am_MT d) m_Re_behindBlanks 12 2 [(0, .ref r0), (2, .int i2)] [] h).trans ?_
  rfl
set_option maxRecDepth 100000 in
theorem e_Re_step (d : Nat) (h : am_H) (r0 : Nat) : f_Re_step (d + 1) h r0 = (
    am_gi h r0 3 4 fun x_1 =>
    am_ck h r0 3 <| am_ci (f_Re_behindBlanks d h r0 x_1) fun x_3 h_2 =>
    am_ck h_2 r0 3 <|
    am_gi (am_sI h_2 r0 4 x_3) r0 3 4 fun x_4 =>
    am_ck (am_sI h_2 r0 4 x_3) r0 3 <|
    am_ck (am_sI (am_sI h_2 r0 4 x_3) r0 6 x_4) r0 3 <|
    am_gi (am_sI (am_sI (am_sI h_2 r0 4 x_3) r0 6 x_4) r0 7 0) r0 3 4 fun x_5 =>
    am_gi (am_sI (am_sI (am_sI h_2 r0 4 x_3) r0 6 x_4) r0 7 0) r0 3 1 fun x_6 =>
    if x_5 < x_6 then
      am_ck (am_sI (am_sI (am_sI h_2 r0 4 x_3) r0 6 x_4) r0 7 0) r0 3 <|
      f_Re_step_47 (d + 1) (am_sL (am_sI (am_sI (am_sI h_2 r0 4 x_3) r0 6 x_4) r0 7 0) r0 8 0) r0
    else
    am_ck (am_sI (am_sI (am_sI h_2 r0 4 x_3) r0 6 x_4) r0 7 0) r0 3 <|
    some (.inr none, (am_sI (am_sI (am_sI (am_sI h_2 r0 4 x_3) r0 6 x_4) r0 7 0) r0 5 0))) := by
  refine (am_sem_seg (am_sm am_MT (d + 1)) m_Re_step 22 0 [(0, .ref r0)] [] h).trans ?_
  rfl
set_option maxRecDepth 100000 in
theorem e_Re_step_47 (d : Nat) (h : am_H) (r0 : Nat) : f_Re_step_47 d h r0 = (
    am_gi h r0 3 4 fun x_1 =>
    am_gi h r0 3 1 fun x_2 =>
    if x_2 ≤ x_1 then
      f_Re_step_121 d h r0
    else
    am_gp h r0 3 0 fun p_3 =>
    am_gi h r0 3 4 fun x_4 =>
    am_ar h 11 p_3 x_4 fun j_5 =>
    if (am_I h p_3 j_5) < 97 then
      f_Re_step_121 d h r0
    else
    am_gp h r0 3 0 fun p_6 =>
    am_gi h r0 3 4 fun x_7 =>
    am_ar h 11 p_6 x_7 fun j_8 =>
    if 122 < (am_I h p_6 j_8) then
      f_Re_step_121 d h r0
    else
    am_gl h r0 3 8 fun y_9 =>
    am_gp h r0 3 0 fun p_10 =>
    am_gi h r0 3 4 fun x_11 =>
    am_ar h 11 p_10 x_11 fun j_12 =>
    am_ck h r0 3 <|
    am_gi (am_sL h r0 8 ((am_lshl y_9 8) ||| (Int32.toInt64 (am_I h p_10 j_12)))) r0 3 4 fun x_13 =>
    am_ck (am_sL h r0 8 ((am_lshl y_9 8) ||| (Int32.toInt64 (am_I h p_10 j_12)))) r0 3 <|
    f_Re_step_47 d (am_sI (am_sL h r0 8 ((am_lshl y_9 8) ||| (Int32.toInt64 (am_I h p_10 j_12)))) r0 4 (x_13 + 1)) r0) := by
  refine (am_sem_seg (am_sm am_MT d) m_Re_step 39 47 [(0, .ref r0)] [] h).trans ?_
  rfl
set_option maxRecDepth 100000 in
theorem e_Re_step_121 (d : Nat) (h : am_H) (r0 : Nat) : f_Re_step_121 (d + 1) h r0 = (
    am_gi h r0 3 4 fun x_1 =>
    am_gi h r0 3 6 fun x_2 =>
    am_ck h r0 3 <|
    am_gi (am_sI h r0 7 (x_1 - x_2)) r0 3 7 fun x_3 =>
    if x_3 ≤ 0 then
      am_gi (am_sI h r0 7 (x_1 - x_2)) r0 3 4 fun x_4 =>
      am_ck (am_sI h r0 7 (x_1 - x_2)) r0 3 <|
      am_gp (am_sI (am_sI h r0 7 (x_1 - x_2)) r0 4 (x_4 + 1)) r0 3 0 fun p_5 =>
      am_gi (am_sI (am_sI h r0 7 (x_1 - x_2)) r0 4 (x_4 + 1)) r0 3 6 fun x_6 =>
      am_ar (am_sI (am_sI h r0 7 (x_1 - x_2)) r0 4 (x_4 + 1)) 11 p_5 x_6 fun j_7 =>
      am_ci (f_Re_kindOfSign d (am_sI (am_sI h r0 7 (x_1 - x_2)) r0 4 (x_4 + 1)) (am_I (am_sI (am_sI h r0 7 (x_1 - x_2)) r0 4 (x_4 + 1)) p_5 j_7)) fun x_9 h_8 =>
      am_ck h_8 r0 3 <|
      am_gi (am_sI h_8 r0 5 x_9) r0 3 5 fun x_10 =>
      if x_10 = 8 then
        am_gi (am_sI h_8 r0 5 x_9) r0 3 4 fun x_11 =>
        am_ck (am_sI h_8 r0 5 x_9) r0 3 <| am_ci (f_Re_isSign d (am_sI h_8 r0 5 x_9) r0 x_11 60) fun x_13 h_12 =>
        if x_13 = 0 then
          some (.inr none, h_12)
        else
        am_gi h_12 r0 3 4 fun x_14 =>
        am_ck h_12 r0 3 <|
        am_ck (am_sI h_12 r0 4 (x_14 + 1)) r0 3 <|
        some (.inr none, (am_sI (am_sI h_12 r0 4 (x_14 + 1)) r0 5 11))
      else
      some (.inr none, (am_sI h_8 r0 5 x_9))
    else
    am_ck (am_sI h r0 7 (x_1 - x_2)) r0 3 <| am_ci (f_Re_kindOfWord d (am_sI h r0 7 (x_1 - x_2)) r0) fun x_16 h_15 =>
    am_ck h_15 r0 3 <|
    some (.inr none, (am_sI h_15 r0 5 x_16))) := by
  refine (am_sem_seg (am_sm am_MT (d + 1)) m_Re_step 44 121 [(0, .ref r0)] [] h).trans ?_
  rfl
set_option maxRecDepth 100000 in
theorem e_Re_kindOfWord (d : Nat) (h : am_H) (r0 : Nat) : f_Re_kindOfWord d h r0 = (
    am_gl h r0 3 8 fun y_1 =>
    if (lg_cmp y_1 7630704) = 0 then
      some (.inr (some (.int 2)), h)
    else
    am_gl h r0 3 8 fun y_2 =>
    if (lg_cmp y_2 31084793196801639) = 0 then
      some (.inr (some (.int 3)), h)
    else
    am_gl h r0 3 8 fun y_3 =>
    if (lg_cmp y_3 1936682341) = 0 then
      some (.inr (some (.int 4)), h)
    else
    some (.inr (some (.int 1)), h)) := by
  refine (am_sem_seg (am_sm am_MT d) m_Re_kindOfWord 18 0 [(0, .ref r0)] [] h).trans ?_
  rfl
set_option maxRecDepth 100000 in
theorem e_Re_kindOfSign (d : Nat) (h : am_H) (i0 : Int32) : f_Re_kindOfSign d h i0 = (
    if i0 = 38 then
      some (.inr (some (.int 7)), h)
    else
    if i0 = 39 then
      some (.inr (some (.int 13)), h)
    else
    if i0 = 40 then
      some (.inr (some (.int 5)), h)
    else
    if i0 = 41 then
      some (.inr (some (.int 6)), h)
    else
    if i0 = 42 then
      some (.inr (some (.int 10)), h)
    else
    if i0 = 43 then
      some (.inr (some (.int 13)), h)
    else
    if i0 = 44 then
      some (.inr (some (.int 13)), h)
    else
    if i0 = 45 then
      some (.inr (some (.int 13)), h)
    else
    if i0 = 46 then
      some (.inr (some (.int 13)), h)
    else
    if i0 = 47 then
      some (.inr (some (.int 13)), h)
    else
    if i0 = 48 then
      some (.inr (some (.int 13)), h)
    else
    if i0 = 49 then
      some (.inr (some (.int 13)), h)
    else
    if i0 = 50 then
      some (.inr (some (.int 13)), h)
    else
    if i0 = 51 then
      some (.inr (some (.int 13)), h)
    else
    if i0 = 52 then
      some (.inr (some (.int 13)), h)
    else
    if i0 = 53 then
      some (.inr (some (.int 13)), h)
    else
    if i0 = 54 then
      some (.inr (some (.int 13)), h)
    else
    if i0 = 55 then
      some (.inr (some (.int 13)), h)
    else
    if i0 = 56 then
      some (.inr (some (.int 13)), h)
    else
    if i0 = 57 then
      some (.inr (some (.int 13)), h)
    else
    if i0 = 58 then
      some (.inr (some (.int 13)), h)
    else
    if i0 = 59 then
      some (.inr (some (.int 12)), h)
    else
    if i0 = 60 then
      some (.inr (some (.int 8)), h)
    else
    if i0 = 61 then
      some (.inr (some (.int 9)), h)
    else
    some (.inr (some (.int 13)), h)) := by
  refine (am_sem_seg (am_sm am_MT d) m_Re_kindOfSign 4 0 [(0, .int i0)] [] h).trans ?_
  rfl
