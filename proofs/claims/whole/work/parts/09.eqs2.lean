set_option maxRecDepth 100000 in
theorem e_Sa_init (d : Nat) (h : am_H) (r0 : Nat) (r1 : Nat) : f_Sa_init d h r0 r1 = (
    am_ck h r0 5 <|
    f_Sa_init_9 d (am_sL h r0 1 0) r0 r1) := by
  refine (am_sem_seg (am_sm am_MT d) m_Sa_init 5 0 [(0, .ref r0), (1, .ref r1)] [] h).trans ?_
  rfl
set_option maxRecDepth 100000 in
theorem e_Sa_init_9 (d : Nat) (h : am_H) (r0 : Nat) (r1 : Nat) : f_Sa_init_9 d h r0 r1 = (
    am_ck h r0 5 <|
    f_Sa_init_14 d (am_sI h r0 2 0) r0 r1) := by
  refine (am_sem_seg (am_sm am_MT d) m_Sa_init 3 9 [(0, .ref r0), (1, .ref r1)] [] h).trans ?_
  rfl
set_option maxRecDepth 100000 in
theorem e_Sa_init_14 (d : Nat) (h : am_H) (r0 : Nat) (r1 : Nat) : f_Sa_init_14 d h r0 r1 = (
    am_ck h r0 5 <|
    f_Sa_init_19 d (am_sI h r0 3 0) r0 r1) := by
  refine (am_sem_seg (am_sm am_MT d) m_Sa_init 3 14 [(0, .ref r0), (1, .ref r1)] [] h).trans ?_
  rfl
set_option maxRecDepth 100000 in
theorem e_Sa_init_19 (d : Nat) (h : am_H) (r0 : Nat) (r1 : Nat) : f_Sa_init_19 d h r0 r1 = (
    am_ck h r0 5 <|
    f_Sa_init_24 d (am_sL h r0 4 0) r0 r1) := by
  refine (am_sem_seg (am_sm am_MT d) m_Sa_init 3 19 [(0, .ref r0), (1, .ref r1)] [] h).trans ?_
  rfl
set_option maxRecDepth 100000 in
theorem e_Sa_init_24 (d : Nat) (h : am_H) (r0 : Nat) (r1 : Nat) : f_Sa_init_24 d h r0 r1 = (
    am_ck h r0 5 <|
    f_Sa_init_29 d (am_sI h r0 5 0) r0 r1) := by
  refine (am_sem_seg (am_sm am_MT d) m_Sa_init 3 24 [(0, .ref r0), (1, .ref r1)] [] h).trans ?_
  rfl
set_option maxRecDepth 100000 in
theorem e_Sa_init_29 (d : Nat) (h : am_H) (r0 : Nat) (r1 : Nat) : f_Sa_init_29 d h r0 r1 = (
    bif Nat.beq (am_G h) 0 && !(decide ((64 : Int32) < 0)) && Nat.ble (Int32.toNatClampNeg 64) 60000000 then
      am_ck (am_nw h (9, Int32.toNatClampNeg 64)) r0 5 <|
      f_Sa_init_37 d (am_sP (am_nw h (9, Int32.toNatClampNeg 64)) r0 6 (some (am_S h).length)) r0 r1
    else none) := by
  refine (am_sem_seg (am_sm am_MT d) m_Sa_init 4 29 [(0, .ref r0), (1, .ref r1)] [] h).trans ?_
  rfl
set_option maxRecDepth 100000 in
theorem e_Sa_init_37 (d : Nat) (h : am_H) (r0 : Nat) (r1 : Nat) : f_Sa_init_37 d h r0 r1 = (
    bif Nat.beq (am_G h) 0 && !(decide ((64 : Int32) < 0)) && Nat.ble (Int32.toNatClampNeg 64) 60000000 then
      am_ck (am_nw h (9, Int32.toNatClampNeg 64)) r0 5 <|
      f_Sa_init_45 d (am_sP (am_nw h (9, Int32.toNatClampNeg 64)) r0 7 (some (am_S h).length)) r0 r1
    else none) := by
  refine (am_sem_seg (am_sm am_MT d) m_Sa_init 4 37 [(0, .ref r0), (1, .ref r1)] [] h).trans ?_
  rfl
set_option maxRecDepth 100000 in
theorem e_Sa_init_45 (d : Nat) (h : am_H) (r0 : Nat) (r1 : Nat) : f_Sa_init_45 d h r0 r1 = (
    am_ck h r0 5 <|
    f_Sa_init_50 d (am_sI h r0 8 0) r0 r1) := by
  refine (am_sem_seg (am_sm am_MT d) m_Sa_init 3 45 [(0, .ref r0), (1, .ref r1)] [] h).trans ?_
  rfl
set_option maxRecDepth 100000 in
theorem e_Sa_init_50 (d : Nat) (h : am_H) (r0 : Nat) (r1 : Nat) : f_Sa_init_50 d h r0 r1 = (
    bif Nat.beq (am_G h) 0 && !(decide ((32 : Int32) < 0)) && Nat.ble (Int32.toNatClampNeg 32) 60000000 then
      am_ck (am_nw h (9, Int32.toNatClampNeg 32)) r0 5 <|
      f_Sa_init_58 d (am_sP (am_nw h (9, Int32.toNatClampNeg 32)) r0 9 (some (am_S h).length)) r0 r1
    else none) := by
  refine (am_sem_seg (am_sm am_MT d) m_Sa_init 4 50 [(0, .ref r0), (1, .ref r1)] [] h).trans ?_
  rfl
set_option maxRecDepth 100000 in
theorem e_Sa_init_58 (d : Nat) (h : am_H) (r0 : Nat) (r1 : Nat) : f_Sa_init_58 d h r0 r1 = (
    bif Nat.beq (am_G h) 0 && !(decide ((8 : Int32) < 0)) && Nat.ble (Int32.toNatClampNeg 8) 60000000 then
      am_ck (am_nw h (9, Int32.toNatClampNeg 8)) r0 5 <|
      f_Sa_init_66 d (am_sP (am_nw h (9, Int32.toNatClampNeg 8)) r0 10 (some (am_S h).length)) r0 r1
    else none) := by
  refine (am_sem_seg (am_sm am_MT d) m_Sa_init 4 58 [(0, .ref r0), (1, .ref r1)] [] h).trans ?_
  rfl
set_option maxRecDepth 100000 in
theorem e_Sa_init_66 (d : Nat) (h : am_H) (r0 : Nat) (r1 : Nat) : f_Sa_init_66 d h r0 r1 = (
    bif Nat.beq (am_G h) 0 && !(decide ((60 : Int32) < 0)) && Nat.ble (Int32.toNatClampNeg 60) 60000000 then
      am_ck (am_nw h (10, Int32.toNatClampNeg 60)) r0 5 <|
      f_Sa_init_74 d (am_sP (am_nw h (10, Int32.toNatClampNeg 60)) r0 11 (some (am_S h).length)) r0 r1
    else none) := by
  refine (am_sem_seg (am_sm am_MT d) m_Sa_init 4 66 [(0, .ref r0), (1, .ref r1)] [] h).trans ?_
  rfl
set_option maxRecDepth 100000 in
theorem e_Sa_init_74 (d : Nat) (h : am_H) (r0 : Nat) (r1 : Nat) : f_Sa_init_74 d h r0 r1 = (
    bif Nat.beq (am_G h) 0 && !(decide ((60 : Int32) < 0)) && Nat.ble (Int32.toNatClampNeg 60) 60000000 then
      am_ck (am_nw h (10, Int32.toNatClampNeg 60)) r0 5 <|
      f_Sa_init_82 d (am_sP (am_nw h (10, Int32.toNatClampNeg 60)) r0 12 (some (am_S h).length)) r0 r1
    else none) := by
  refine (am_sem_seg (am_sm am_MT d) m_Sa_init 4 74 [(0, .ref r0), (1, .ref r1)] [] h).trans ?_
  rfl
set_option maxRecDepth 100000 in
theorem e_Sa_init_82 (d : Nat) (h : am_H) (r0 : Nat) (r1 : Nat) : f_Sa_init_82 d h r0 r1 = (
    bif Nat.beq (am_G h) 0 && !(decide ((480 : Int32) < 0)) && Nat.ble (Int32.toNatClampNeg 480) 60000000 then
      am_ck (am_nw h (10, Int32.toNatClampNeg 480)) r0 5 <|
      f_Sa_init_91 d (am_sP (am_nw h (10, Int32.toNatClampNeg 480)) r0 13 (some (am_S h).length)) r0 r1
    else none) := by
  refine (am_sem_seg (am_sm am_MT d) m_Sa_init 4 82 [(0, .ref r0), (1, .ref r1)] [] h).trans ?_
  rfl
set_option maxRecDepth 100000 in
theorem e_Sa_init_91 (d : Nat) (h : am_H) (r0 : Nat) (r1 : Nat) : f_Sa_init_91 d h r0 r1 = (
    bif Nat.beq (am_G h) 0 && !(decide ((480 : Int32) < 0)) && Nat.ble (Int32.toNatClampNeg 480) 60000000 then
      am_ck (am_nw h (10, Int32.toNatClampNeg 480)) r0 5 <|
      f_Sa_init_100 d (am_sP (am_nw h (10, Int32.toNatClampNeg 480)) r0 14 (some (am_S h).length)) r0 r1
    else none) := by
  refine (am_sem_seg (am_sm am_MT d) m_Sa_init 4 91 [(0, .ref r0), (1, .ref r1)] [] h).trans ?_
  rfl
set_option maxRecDepth 100000 in
theorem e_Sa_init_100 (d : Nat) (h : am_H) (r0 : Nat) (r1 : Nat) : f_Sa_init_100 d h r0 r1 = (
    bif Nat.beq (am_G h) 0 && !(decide ((60 : Int32) < 0)) && Nat.ble (Int32.toNatClampNeg 60) 60000000 then
      am_ck (am_nw h (10, Int32.toNatClampNeg 60)) r0 5 <|
      f_Sa_init_108 d (am_sP (am_nw h (10, Int32.toNatClampNeg 60)) r0 15 (some (am_S h).length)) r0 r1
    else none) := by
  refine (am_sem_seg (am_sm am_MT d) m_Sa_init 4 100 [(0, .ref r0), (1, .ref r1)] [] h).trans ?_
  rfl
set_option maxRecDepth 100000 in
theorem e_Sa_init_108 (d : Nat) (h : am_H) (r0 : Nat) (r1 : Nat) : f_Sa_init_108 d h r0 r1 = (
    bif Nat.beq (am_G h) 0 && !(decide ((60 : Int32) < 0)) && Nat.ble (Int32.toNatClampNeg 60) 60000000 then
      am_ck (am_nw h (10, Int32.toNatClampNeg 60)) r0 5 <|
      f_Sa_init_116 d (am_sP (am_nw h (10, Int32.toNatClampNeg 60)) r0 16 (some (am_S h).length)) r0 r1
    else none) := by
  refine (am_sem_seg (am_sm am_MT d) m_Sa_init 4 108 [(0, .ref r0), (1, .ref r1)] [] h).trans ?_
  rfl
set_option maxRecDepth 100000 in
theorem e_Sa_init_116 (d : Nat) (h : am_H) (r0 : Nat) (r1 : Nat) : f_Sa_init_116 d h r0 r1 = (
    bif Nat.beq (am_G h) 0 && !(decide ((480 : Int32) < 0)) && Nat.ble (Int32.toNatClampNeg 480) 60000000 then
      am_ck (am_nw h (10, Int32.toNatClampNeg 480)) r0 5 <|
      f_Sa_init_125 d (am_sP (am_nw h (10, Int32.toNatClampNeg 480)) r0 17 (some (am_S h).length)) r0 r1
    else none) := by
  refine (am_sem_seg (am_sm am_MT d) m_Sa_init 4 116 [(0, .ref r0), (1, .ref r1)] [] h).trans ?_
  rfl
set_option maxRecDepth 100000 in
theorem e_Sa_init_125 (d : Nat) (h : am_H) (r0 : Nat) (r1 : Nat) : f_Sa_init_125 d h r0 r1 = (
    am_ck h r0 5 <|
    f_Sa_init_130 d (am_sP h r0 0 (some r1))) := by
  refine (am_sem_seg (am_sm am_MT d) m_Sa_init 3 125 [(0, .ref r0), (1, .ref r1)] [] h).trans ?_
  rfl
set_option maxRecDepth 100000 in
theorem e_Sa_init_130 (d : Nat) (h : am_H) : f_Sa_init_130 d h = (
    some (.inr none, h)) := by
  refine (am_sem_seg (am_sm am_MT d) m_Sa_init 1 130 [] [] h).trans ?_
  rfl
set_option maxRecDepth 100000 in
theorem e_Sa_begin (d : Nat) (h : am_H) (r0 : Nat) (r1 : Nat) (l2 : Int64) (l4 : Int64) : f_Sa_begin (d + 1) h r0 r1 l2 l4 = (
    am_ck h r0 5 <|
    am_ck (am_sP h r0 0 (some r1)) r0 5 <|
    am_ck (am_sL (am_sP h r0 0 (some r1)) r0 1 l2) r0 5 <|
    am_gi (am_sL (am_sL (am_sP h r0 0 (some r1)) r0 1 l2) r0 4 0) r1 2 3 fun x_1 =>
    am_ck (am_sL (am_sL (am_sP h r0 0 (some r1)) r0 1 l2) r0 4 0) r0 5 <|
    am_gp (am_sI (am_sL (am_sL (am_sP h r0 0 (some r1)) r0 1 l2) r0 4 0) r0 2 x_1) r1 2 1 fun p_2 =>
    am_gi (am_sI (am_sL (am_sL (am_sP h r0 0 (some r1)) r0 1 l2) r0 4 0) r0 2 x_1) p_2 6 2 fun x_3 =>
    am_ck (am_sI (am_sL (am_sL (am_sP h r0 0 (some r1)) r0 1 l2) r0 4 0) r0 2 x_1) r0 5 <|
    am_ck (am_sI (am_sI (am_sL (am_sL (am_sP h r0 0 (some r1)) r0 1 l2) r0 4 0) r0 2 x_1) r0 3 x_3) r0 5 <| am_cv (f_Sa_sortAxioms d (am_sI (am_sI (am_sL (am_sL (am_sP h r0 0 (some r1)) r0 1 l2) r0 4 0) r0 2 x_1) r0 3 x_3) r0) fun h_4 =>
    am_gp h_4 r0 5 12 fun p_5 =>
    am_cv (f_Ar_fillL d h_4 p_5 0) fun h_6 =>
    am_ck h_6 r0 5 <| am_cv (f_Sa_activate d h_6 r0 l4) fun h_7 =>
    some (.inr none, h_7)) := by
  refine (am_sem_seg (am_sm am_MT (d + 1)) m_Sa_begin 28 0 [(0, .ref r0), (1, .ref r1), (2, .long l2), (4, .long l4)] [] h).trans ?_
  rfl
set_option maxRecDepth 100000 in
theorem e_Sa_sortAxioms (d : Nat) (h : am_H) (r0 : Nat) : f_Sa_sortAxioms d h r0 = (
    am_ck h r0 5 <|
    am_ck (am_sI h r0 5 0) r0 5 <|
    f_Sa_sortAxioms_14 d (am_sI (am_sI h r0 5 0) r0 8 0) r0 0 0) := by
  refine (am_sem_seg (am_sm am_MT d) m_Sa_sortAxioms 10 0 [(0, .ref r0)] [] h).trans ?_
  rfl
set_option maxRecDepth 100000 in
theorem e_Sa_sortAxioms_14 (d : Nat) (h : am_H) (r0 : Nat) (i1 : Int32) (i2 : Int32) : f_Sa_sortAxioms_14 (d + 1) h r0 i1 i2 = (
    am_gp h r0 5 0 fun p_1 =>
    am_gi h p_1 2 9 fun x_2 =>
    if x_2 ≤ i2 then
      f_Sa_sortAxioms_146 (d + 1) h r0 i1 0
    else
    am_gl h r0 5 1 fun y_3 =>
    if (lg_cmp ((am_lushr y_3 i2) &&& 1) 0) = 0 then
      f_Sa_sortAxioms_138 (d + 1) h r0 i1 i2
    else
    am_gp h r0 5 0 fun p_4 =>
    am_gp h p_4 2 11 fun p_5 =>
    am_ar h 9 p_5 i2 fun j_6 =>
    if (am_I h p_5 j_6) = 3 then
      am_gp h r0 5 9 fun p_7 =>
      am_gi h r0 5 8 fun x_8 =>
      am_ar h 9 p_7 x_8 fun j_9 =>
      am_gi (am_sI h p_7 j_9 i2) r0 5 8 fun x_10 =>
      am_ck (am_sI h p_7 j_9 i2) r0 5 <|
      f_Sa_sortAxioms_138 (d + 1) (am_sI (am_sI h p_7 j_9 i2) r0 8 (x_10 + 1)) r0 i1 i2
    else
    if (am_I h p_5 j_6) = 2 then
      f_Sa_sortAxioms_138 (d + 1) h r0 1 i2
    else
    am_gp h r0 5 0 fun p_11 =>
    am_gp h p_11 2 12 fun p_12 =>
    am_ar h 9 p_12 i2 fun j_13 =>
    am_gp h r0 5 0 fun p_14 =>
    am_gp h p_14 2 13 fun p_15 =>
    am_ar h 9 p_15 i2 fun j_16 =>
    am_ck h r0 5 <| am_cv (f_Sa_addStep d h r0 (am_I h p_12 j_13) (am_I h p_15 j_16)) fun h_17 =>
    if (am_I h p_5 j_6) = 1 then
      am_gp h_17 r0 5 0 fun p_18 =>
      am_gp h_17 p_18 2 13 fun p_19 =>
      am_ar h_17 9 p_19 i2 fun j_20 =>
      am_gp h_17 r0 5 0 fun p_21 =>
      am_gp h_17 p_21 2 12 fun p_22 =>
      am_ar h_17 9 p_22 i2 fun j_23 =>
      am_ck h_17 r0 5 <| am_cv (f_Sa_addStep d h_17 r0 (am_I h_17 p_19 j_20) (am_I h_17 p_22 j_23)) fun h_24 =>
      f_Sa_sortAxioms_138 (d + 1) h_24 r0 i1 i2
    else
    f_Sa_sortAxioms_138 (d + 1) h_17 r0 i1 i2) := by
  refine (am_sem_seg (am_sm am_MT (d + 1)) m_Sa_sortAxioms 53 14 [(0, .ref r0), (1, .int i1), (2, .int i2)] [] h).trans ?_
  rfl
set_option maxRecDepth 100000 in
theorem e_Sa_sortAxioms_138 (d : Nat) (h : am_H) (r0 : Nat) (i1 : Int32) (i2 : Int32) : f_Sa_sortAxioms_138 d h r0 i1 i2 = (
    f_Sa_sortAxioms_14 d h r0 i1 (i2 + 1)) := by
  refine (am_sem_seg (am_sm am_MT d) m_Sa_sortAxioms 2 138 [(0, .ref r0), (1, .int i1), (2, .int i2)] [] h).trans ?_
  rfl
set_option maxRecDepth 100000 in
theorem e_Sa_sortAxioms_146 (d : Nat) (h : am_H) (r0 : Nat) (i1 : Int32) (i2 : Int32) : f_Sa_sortAxioms_146 d h r0 i1 i2 = (
    am_gi h r0 5 3 fun x_1 =>
    if x_1 ≤ i2 then
      f_Sa_sortAxioms_171 d h r0 i1 0
    else
    am_gp h r0 5 10 fun p_2 =>
    am_ar h 9 p_2 i2 fun j_3 =>
    f_Sa_sortAxioms_146 d (am_sI h p_2 j_3 (am_ishl 1 i2)) r0 i1 (i2 + 1)) := by
  refine (am_sem_seg (am_sm am_MT d) m_Sa_sortAxioms 13 146 [(0, .ref r0), (1, .int i1), (2, .int i2)] [] h).trans ?_
  rfl
set_option maxRecDepth 100000 in
theorem e_Sa_sortAxioms_171 (d : Nat) (h : am_H) (r0 : Nat) (i1 : Int32) (i2 : Int32) : f_Sa_sortAxioms_171 (d + 1) h r0 i1 i2 = (
    if i1 = 0 then
      some (.inr none, h)
    else
    if 8 < i2 then
      some (.inr none, h)
    else
    am_ck h r0 5 <| am_ci (f_Sa_spreadUnder d h r0) fun x_2 h_1 =>
    f_Sa_sortAxioms_171 (d + 1) h_1 r0 x_2 (i2 + 1)) := by
  refine (am_sem_seg (am_sm am_MT (d + 1)) m_Sa_sortAxioms 10 171 [(0, .ref r0), (1, .int i1), (2, .int i2)] [] h).trans ?_
  rfl
set_option maxRecDepth 100000 in
theorem e_Sa_addStep (d : Nat) (h : am_H) (r0 : Nat) (i1 : Int32) (i2 : Int32) : f_Sa_addStep d h r0 i1 i2 = (
    am_gi h r0 5 5 fun x_1 =>
    am_gp h r0 5 6 fun p_2 =>
    am_al h p_2 fun x_3 =>
    if x_3 ≤ x_1 then
      some (.inr none, h)
    else
    am_gi h r0 5 5 fun x_4 =>
    am_gp h r0 5 7 fun p_5 =>
    am_al h p_5 fun x_6 =>
    if x_6 ≤ x_4 then
      some (.inr none, h)
    else
    am_gp h r0 5 6 fun p_7 =>
    am_gi h r0 5 5 fun x_8 =>
    am_ar h 9 p_7 x_8 fun j_9 =>
    am_gp (am_sI h p_7 j_9 i1) r0 5 7 fun p_10 =>
    am_gi (am_sI h p_7 j_9 i1) r0 5 5 fun x_11 =>
    am_ar (am_sI h p_7 j_9 i1) 9 p_10 x_11 fun j_12 =>
    am_gi (am_sI (am_sI h p_7 j_9 i1) p_10 j_12 i2) r0 5 5 fun x_13 =>
    am_ck (am_sI (am_sI h p_7 j_9 i1) p_10 j_12 i2) r0 5 <|
    some (.inr none, (am_sI (am_sI (am_sI h p_7 j_9 i1) p_10 j_12 i2) r0 5 (x_13 + 1)))) := by
  refine (am_sem_seg (am_sm am_MT d) m_Sa_addStep 31 0 [(0, .ref r0), (1, .int i1), (2, .int i2)] [] h).trans ?_
  rfl
set_option maxRecDepth 100000 in
theorem e_Sa_spreadUnder (d : Nat) (h : am_H) (r0 : Nat) : f_Sa_spreadUnder d h r0 = (
    f_Sa_spreadUnder_4 d h r0 0 0) := by
  refine (am_sem_seg (am_sm am_MT d) m_Sa_spreadUnder 4 0 [(0, .ref r0)] [] h).trans ?_
  rfl
set_option maxRecDepth 100000 in
theorem e_Sa_spreadUnder_4 (d : Nat) (h : am_H) (r0 : Nat) (i1 : Int32) (i2 : Int32) : f_Sa_spreadUnder_4 d h r0 i1 i2 = (
    am_gp h r0 5 0 fun p_1 =>
    am_gi h p_1 2 9 fun x_2 =>
    if x_2 ≤ i2 then
      am_01 i1 (some (.inr (some (.int i1)), h))
    else
    am_gl h r0 5 1 fun y_3 =>
    if (lg_cmp ((am_lushr y_3 i2) &&& 1) 0) = 0 then
      f_Sa_spreadUnder_4 d h r0 i1 (i2 + 1)
    else
    am_gp h r0 5 0 fun p_4 =>
    am_gp h p_4 2 11 fun p_5 =>
    am_ar h 9 p_5 i2 fun j_6 =>
    if (am_I h p_5 j_6) = 2 then
      f_Sa_spreadUnder_46 d h r0 i1 i2 0
    else
    f_Sa_spreadUnder_4 d h r0 i1 (i2 + 1)) := by
  refine (am_sem_seg (am_sm am_MT d) m_Sa_spreadUnder 24 4 [(0, .ref r0), (1, .int i1), (2, .int i2)] [] h).trans ?_
  rfl
set_option maxRecDepth 100000 in
theorem e_Sa_spreadUnder_46 (d : Nat) (h : am_H) (r0 : Nat) (i1 : Int32) (i2 : Int32) (i3 : Int32) : f_Sa_spreadUnder_46 d h r0 i1 i2 i3 = (
    am_gi h r0 5 3 fun x_1 =>
    if x_1 ≤ i3 then
      f_Sa_spreadUnder_4 d h r0 i1 (i2 + 1)
    else
    am_gp h r0 5 10 fun p_2 =>
    am_ar h 9 p_2 i3 fun j_3 =>
    am_gp h r0 5 10 fun p_4 =>
    am_gp h r0 5 0 fun p_5 =>
    am_gp h p_5 2 13 fun p_6 =>
    am_ar h 9 p_6 i2 fun j_7 =>
    am_ar h 9 p_4 (am_I h p_6 j_7) fun j_8 =>
    am_gp h r0 5 10 fun p_9 =>
    am_ar h 9 p_9 i3 fun j_10 =>
    am_gp h r0 5 0 fun p_11 =>
    am_gp h p_11 2 12 fun p_12 =>
    am_ar h 9 p_12 i2 fun j_13 =>
    if ((am_iushr (am_I h p_9 j_10) (am_I h p_12 j_13)) &&& 1) = 0 then
      f_Sa_spreadUnder_46 d h r0 i1 i2 (i3 + 1)
    else
    am_gp h r0 5 10 fun p_14 =>
    am_ar h 9 p_14 i3 fun j_15 =>
    if ((am_I h p_2 j_3) ||| (am_I h p_4 j_8)) = (am_I h p_14 j_15) then
      f_Sa_spreadUnder_46 d h r0 i1 i2 (i3 + 1)
    else
    am_gp h r0 5 10 fun p_16 =>
    am_ar h 9 p_16 i3 fun j_17 =>
    f_Sa_spreadUnder_46 d (am_sI h p_16 j_17 ((am_I h p_2 j_3) ||| (am_I h p_4 j_8))) r0 1 i2 (i3 + 1)) := by
  refine (am_sem_seg (am_sm am_MT d) m_Sa_spreadUnder 46 46 [(0, .ref r0), (1, .int i1), (2, .int i2), (3, .int i3)] [] h).trans ?_
  rfl
set_option maxRecDepth 100000 in
theorem e_Sa_activate (d : Nat) (h : am_H) (r0 : Nat) (l1 : Int64) : f_Sa_activate d h r0 l1 = (
    am_gl h r0 5 4 fun y_1 =>
    f_Sa_activate_14 d h r0 l1 (l1 &&& (y_1 ^^^ (-1))) 0) := by
  refine (am_sem_seg (am_sm am_MT d) m_Sa_activate 9 0 [(0, .ref r0), (1, .long l1)] [] h).trans ?_
  rfl
set_option maxRecDepth 100000 in
theorem e_Sa_activate_14 (d : Nat) (h : am_H) (r0 : Nat) (l1 : Int64) (l3 : Int64) (i5 : Int32) : f_Sa_activate_14 d h r0 l1 l3 i5 = (
    if (lg_cmp l3 0) = 0 then
      am_gl h r0 5 4 fun y_1 =>
      am_ck h r0 5 <|
      some (.inr none, (am_sL h r0 4 (y_1 ||| l1)))
    else
    am_gi h r0 5 2 fun x_2 =>
    if x_2 ≤ i5 then
      am_gl h r0 5 4 fun y_3 =>
      am_ck h r0 5 <|
      some (.inr none, (am_sL h r0 4 (y_3 ||| l1)))
    else
    if (lg_cmp ((am_lushr l3 i5) &&& 1) 0) = 0 then
      f_Sa_activate_14 d h r0 l1 l3 (i5 + 1)
    else
    am_gp h r0 5 11 fun p_4 =>
    am_ar h 10 p_4 i5 fun j_5 =>
    am_gp (am_sL h p_4 j_5 ((am_lshl 1 i5) ||| 1)) r0 5 12 fun p_6 =>
    am_ar (am_sL h p_4 j_5 ((am_lshl 1 i5) ||| 1)) 10 p_6 i5 fun j_7 =>
    am_ar (am_sL h p_4 j_5 ((am_lshl 1 i5) ||| 1)) 10 p_6 i5 fun j_8 =>
    am_gp (am_sL (am_sL h p_4 j_5 ((am_lshl 1 i5) ||| 1)) p_6 j_8 ((am_L (am_sL h p_4 j_5 ((am_lshl 1 i5) ||| 1)) p_6 j_7) ||| (am_lshl 1 i5))) r0 5 12 fun p_9 =>
    am_ar (am_sL (am_sL h p_4 j_5 ((am_lshl 1 i5) ||| 1)) p_6 j_8 ((am_L (am_sL h p_4 j_5 ((am_lshl 1 i5) ||| 1)) p_6 j_7) ||| (am_lshl 1 i5))) 10 p_9 0 fun j_10 =>
    am_ar (am_sL (am_sL h p_4 j_5 ((am_lshl 1 i5) ||| 1)) p_6 j_8 ((am_L (am_sL h p_4 j_5 ((am_lshl 1 i5) ||| 1)) p_6 j_7) ||| (am_lshl 1 i5))) 10 p_9 0 fun j_11 =>
    am_gp (am_sL (am_sL (am_sL h p_4 j_5 ((am_lshl 1 i5) ||| 1)) p_6 j_8 ((am_L (am_sL h p_4 j_5 ((am_lshl 1 i5) ||| 1)) p_6 j_7) ||| (am_lshl 1 i5))) p_9 j_11 ((am_L (am_sL (am_sL h p_4 j_5 ((am_lshl 1 i5) ||| 1)) p_6 j_8 ((am_L (am_sL h p_4 j_5 ((am_lshl 1 i5) ||| 1)) p_6 j_7) ||| (am_lshl 1 i5))) p_9 j_10) ||| (am_lshl 1 i5))) r0 5 15 fun p_12 =>
    am_ar (am_sL (am_sL (am_sL h p_4 j_5 ((am_lshl 1 i5) ||| 1)) p_6 j_8 ((am_L (am_sL h p_4 j_5 ((am_lshl 1 i5) ||| 1)) p_6 j_7) ||| (am_lshl 1 i5))) p_9 j_11 ((am_L (am_sL (am_sL h p_4 j_5 ((am_lshl 1 i5) ||| 1)) p_6 j_8 ((am_L (am_sL h p_4 j_5 ((am_lshl 1 i5) ||| 1)) p_6 j_7) ||| (am_lshl 1 i5))) p_9 j_10) ||| (am_lshl 1 i5))) 10 p_12 i5 fun j_13 =>
    am_gp (am_sL (am_sL (am_sL (am_sL h p_4 j_5 ((am_lshl 1 i5) ||| 1)) p_6 j_8 ((am_L (am_sL h p_4 j_5 ((am_lshl 1 i5) ||| 1)) p_6 j_7) ||| (am_lshl 1 i5))) p_9 j_11 ((am_L (am_sL (am_sL h p_4 j_5 ((am_lshl 1 i5) ||| 1)) p_6 j_8 ((am_L (am_sL h p_4 j_5 ((am_lshl 1 i5) ||| 1)) p_6 j_7) ||| (am_lshl 1 i5))) p_9 j_10) ||| (am_lshl 1 i5))) p_12 j_13 0) r0 5 16 fun p_14 =>
    am_ar (am_sL (am_sL (am_sL (am_sL h p_4 j_5 ((am_lshl 1 i5) ||| 1)) p_6 j_8 ((am_L (am_sL h p_4 j_5 ((am_lshl 1 i5) ||| 1)) p_6 j_7) ||| (am_lshl 1 i5))) p_9 j_11 ((am_L (am_sL (am_sL h p_4 j_5 ((am_lshl 1 i5) ||| 1)) p_6 j_8 ((am_L (am_sL h p_4 j_5 ((am_lshl 1 i5) ||| 1)) p_6 j_7) ||| (am_lshl 1 i5))) p_9 j_10) ||| (am_lshl 1 i5))) p_12 j_13 0) 10 p_14 i5 fun j_15 =>
    f_Sa_activate_102 d (am_sL (am_sL (am_sL (am_sL (am_sL h p_4 j_5 ((am_lshl 1 i5) ||| 1)) p_6 j_8 ((am_L (am_sL h p_4 j_5 ((am_lshl 1 i5) ||| 1)) p_6 j_7) ||| (am_lshl 1 i5))) p_9 j_11 ((am_L (am_sL (am_sL h p_4 j_5 ((am_lshl 1 i5) ||| 1)) p_6 j_8 ((am_L (am_sL h p_4 j_5 ((am_lshl 1 i5) ||| 1)) p_6 j_7) ||| (am_lshl 1 i5))) p_9 j_10) ||| (am_lshl 1 i5))) p_12 j_13 0) p_14 j_15 0) r0 l1 l3 i5 0) := by
  refine (am_sem_seg (am_sm am_MT d) m_Sa_activate 57 14 [(0, .ref r0), (1, .long l1), (3, .long l3), (5, .int i5)] [] h).trans ?_
  rfl
set_option maxRecDepth 100000 in
theorem e_Sa_activate_102 (d : Nat) (h : am_H) (r0 : Nat) (l1 : Int64) (l3 : Int64) (i5 : Int32) (i6 : Int32) : f_Sa_activate_102 d h r0 l1 l3 i5 i6 = (
    am_gi h r0 5 3 fun x_1 =>
    if x_1 ≤ i6 then
      f_Sa_activate_14 d h r0 l1 l3 (i5 + 1)
    else
    am_gp h r0 5 13 fun p_2 =>
    am_ar h 10 p_2 ((i5 * 8) + i6) fun j_3 =>
    am_gp (am_sL h p_2 j_3 0) r0 5 14 fun p_4 =>
    am_ar (am_sL h p_2 j_3 0) 10 p_4 ((i5 * 8) + i6) fun j_5 =>
    am_gp (am_sL (am_sL h p_2 j_3 0) p_4 j_5 0) r0 5 17 fun p_6 =>
    am_ar (am_sL (am_sL h p_2 j_3 0) p_4 j_5 0) 10 p_6 ((i5 * 8) + i6) fun j_7 =>
    f_Sa_activate_102 d (am_sL (am_sL (am_sL h p_2 j_3 0) p_4 j_5 0) p_6 j_7 0) r0 l1 l3 i5 (i6 + 1)) := by
  refine (am_sem_seg (am_sm am_MT d) m_Sa_activate 33 102 [(0, .ref r0), (1, .long l1), (3, .long l3), (5, .int i5), (6, .int i6)] [] h).trans ?_
  rfl
set_option maxRecDepth 100000 in
theorem e_Sa_isVoid (d : Nat) (h : am_H) (r0 : Nat) (i1 : Int32) : f_Sa_isVoid d h r0 i1 = (
    am_gp h r0 5 11 fun p_1 =>
    am_ar h 10 p_1 i1 fun j_2 =>
    if (lg_cmp ((am_lushr (am_L h p_1 j_2) 1) &&& 1) 0) = 0 then
      am_01 0 (some (.inr (some (.int 0)), h))
    else
    am_01 1 (some (.inr (some (.int 1)), h))) := by
  refine (am_sem_seg (am_sm am_MT d) m_Sa_isVoid 14 0 [(0, .ref r0), (1, .int i1)] [] h).trans ?_
  rfl
set_option maxRecDepth 100000 in
theorem e_Sa_isBelow (d : Nat) (h : am_H) (r0 : Nat) (i1 : Int32) (i2 : Int32) : f_Sa_isBelow (d + 1) h r0 i1 i2 = (
    am_gp h r0 5 11 fun p_1 =>
    am_ar h 10 p_1 i1 fun j_2 =>
    if (lg_cmp ((am_lushr (am_L h p_1 j_2) i2) &&& 1) 0) = 0 then
      am_ck h r0 5 <| am_ci (f_Sa_isVoid d h r0 i1) fun x_4 h_3 =>
      if x_4 = 0 then
        am_01 0 (some (.inr (some (.int 0)), h_3))
      else
      am_01 1 (some (.inr (some (.int 1)), h_3))
    else
    am_01 1 (some (.inr (some (.int 1)), h))) := by
  refine (am_sem_seg (am_sm am_MT (d + 1)) m_Sa_isBelow 18 0 [(0, .ref r0), (1, .int i1), (2, .int i2)] [] h).trans ?_
  rfl
set_option maxRecDepth 100000 in
theorem e_Sa_linksFrom (d : Nat) (h : am_H) (r0 : Nat) (i1 : Int32) : f_Sa_linksFrom d h r0 i1 = (
    f_Sa_linksFrom_4 d h r0 i1 0 0) := by
  refine (am_sem_seg (am_sm am_MT d) m_Sa_linksFrom 4 0 [(0, .ref r0), (1, .int i1)] [] h).trans ?_
  rfl
set_option maxRecDepth 100000 in
theorem e_Sa_linksFrom_4 (d : Nat) (h : am_H) (r0 : Nat) (i1 : Int32) (i2 : Int32) (i3 : Int32) : f_Sa_linksFrom_4 (d + 1) h r0 i1 i2 i3 = (
    am_gi h r0 5 3 fun x_1 =>
    if x_1 ≤ i3 then
      some (.inr (some (.int i2)), h)
    else
    am_gp h r0 5 13 fun p_2 =>
    am_ar h 10 p_2 ((i1 * 8) + i3) fun j_3 =>
    am_ci (f_Lo_bitCount d h (am_L h p_2 j_3)) fun x_5 h_4 =>
    f_Sa_linksFrom_4 (d + 1) h_4 r0 i1 (i2 + x_5) (i3 + 1)) := by
  refine (am_sem_seg (am_sm am_MT (d + 1)) m_Sa_linksFrom 18 4 [(0, .ref r0), (1, .int i1), (2, .int i2), (3, .int i3)] [] h).trans ?_
  rfl
set_option maxRecDepth 100000 in
theorem e_Sa_deriveAll (d : Nat) (h : am_H) (r0 : Nat) : f_Sa_deriveAll d h r0 = (
    f_Sa_deriveAll_2 d h r0 0) := by
  refine (am_sem_seg (am_sm am_MT d) m_Sa_deriveAll 2 0 [(0, .ref r0)] [] h).trans ?_
  rfl
set_option maxRecDepth 100000 in
theorem e_Sa_deriveAll_2 (d : Nat) (h : am_H) (r0 : Nat) (i1 : Int32) : f_Sa_deriveAll_2 (d + 1) h r0 i1 = (
    am_gi h r0 5 2 fun x_1 =>
    if x_1 ≤ i1 then
      some (.inr none, h)
    else
    am_ck h r0 5 <| am_cv (f_Sa_derive d h r0 i1) fun h_2 =>
    f_Sa_deriveAll_2 (d + 1) h_2 r0 (i1 + 1)) := by
  refine (am_sem_seg (am_sm am_MT (d + 1)) m_Sa_deriveAll 9 2 [(0, .ref r0), (1, .int i1)] [] h).trans ?_
  rfl
set_option maxRecDepth 100000 in
theorem e_Sa_commitAll (d : Nat) (h : am_H) (r0 : Nat) : f_Sa_commitAll d h r0 = (
    f_Sa_commitAll_4 d h r0 0 0) := by
  refine (am_sem_seg (am_sm am_MT d) m_Sa_commitAll 4 0 [(0, .ref r0)] [] h).trans ?_
  rfl
set_option maxRecDepth 100000 in
theorem e_Sa_commitAll_4 (d : Nat) (h : am_H) (r0 : Nat) (i1 : Int32) (i2 : Int32) : f_Sa_commitAll_4 (d + 1) h r0 i1 i2 = (
    am_gi h r0 5 2 fun x_1 =>
    if x_1 ≤ i2 then
      am_01 i1 (some (.inr (some (.int i1)), h))
    else
    am_ck h r0 5 <| am_ci (f_Sa_commit d h r0 i2) fun x_3 h_2 =>
    f_Sa_commitAll_4 (d + 1) h_2 r0 (i1 ||| x_3) (i2 + 1)) := by
  refine (am_sem_seg (am_sm am_MT (d + 1)) m_Sa_commitAll 12 4 [(0, .ref r0), (1, .int i1), (2, .int i2)] [] h).trans ?_
  rfl
set_option maxRecDepth 100000 in
theorem e_Sa_saturate (d : Nat) (h : am_H) (r0 : Nat) (r1 : Nat) (l2 : Int64) (l4 : Int64) : f_Sa_saturate (d + 1) h r0 r1 l2 l4 = (
    am_ck h r0 5 <| am_cv (f_Sa_begin d h r0 r1 l2 l4) fun h_1 =>
    f_Sa_saturate_14 (d + 1) h_1 r0 1 0) := by
  refine (am_sem_seg (am_sm am_MT (d + 1)) m_Sa_saturate 9 0 [(0, .ref r0), (1, .ref r1), (2, .long l2), (4, .long l4)] [] h).trans ?_
  rfl
set_option maxRecDepth 100000 in
theorem e_Sa_saturate_14 (d : Nat) (h : am_H) (r0 : Nat) (i6 : Int32) (i7 : Int32) : f_Sa_saturate_14 (d + 1) h r0 i6 i7 = (
    if i6 = 0 then
      some (.inr none, h)
    else
    if 40000 ≤ i7 then
      some (.inr none, h)
    else
    am_ck h r0 5 <| am_ci (f_Sa_sweep d h r0) fun x_2 h_1 =>
    f_Sa_saturate_14 (d + 1) h_1 r0 x_2 (i7 + 1)) := by
  refine (am_sem_seg (am_sm am_MT (d + 1)) m_Sa_saturate 10 14 [(0, .ref r0), (6, .int i6), (7, .int i7)] [] h).trans ?_
  rfl
set_option maxRecDepth 100000 in
theorem e_Sa_entails (d : Nat) (h : am_H) (r0 : Nat) (r1 : Nat) (l2 : Int64) (i4 : Int32) (i5 : Int32) : f_Sa_entails (d + 1) h r0 r1 l2 i4 i5 = (
    am_ck h r0 5 <| am_cv (f_Sa_begin d h r0 r1 l2 (am_lshl 1 i4)) fun h_1 =>
    f_Sa_entails_16 (d + 1) h_1 r0 i4 i5 1 0) := by
  refine (am_sem_seg (am_sm am_MT (d + 1)) m_Sa_entails 11 0 [(0, .ref r0), (1, .ref r1), (2, .long l2), (4, .int i4), (5, .int i5)] [] h).trans ?_
  rfl
set_option maxRecDepth 100000 in
theorem e_Sa_entails_16 (d : Nat) (h : am_H) (r0 : Nat) (i4 : Int32) (i5 : Int32) (i6 : Int32) (i7 : Int32) : f_Sa_entails_16 (d + 1) h r0 i4 i5 i6 i7 = (
    if i6 = 0 then
      am_ck h r0 5 <| am_ci (f_Sa_isBelow d h r0 i4 i5) fun x_2 h_1 =>
      am_01 x_2 (some (.inr (some (.int x_2)), h_1))
    else
    if 40000 ≤ i7 then
      am_ck h r0 5 <| am_ci (f_Sa_isBelow d h r0 i4 i5) fun x_4 h_3 =>
      am_01 x_4 (some (.inr (some (.int x_4)), h_3))
    else
    am_ck h r0 5 <| am_ci (f_Sa_isBelow d h r0 i4 i5) fun x_6 h_5 =>
    if x_6 = 0 then
      am_ck h_5 r0 5 <| am_ci (f_Sa_sweep d h_5 r0) fun x_8 h_7 =>
      f_Sa_entails_16 (d + 1) h_7 r0 i4 i5 x_8 (i7 + 1)
    else
    am_ck h_5 r0 5 <| am_ci (f_Sa_isBelow d h_5 r0 i4 i5) fun x_10 h_9 =>
    am_01 x_10 (some (.inr (some (.int x_10)), h_9))) := by
  refine (am_sem_seg (am_sm am_MT (d + 1)) m_Sa_entails 15 16 [(0, .ref r0), (4, .int i4), (5, .int i5), (6, .int i6), (7, .int i7)] [] h).trans ?_
  rfl
set_option maxRecDepth 100000 in
theorem e_Sa_sweep (d : Nat) (h : am_H) (r0 : Nat) : f_Sa_sweep d h r0 = (
    f_Sa_sweep_4 d h r0 0 0) := by
  refine (am_sem_seg (am_sm am_MT d) m_Sa_sweep 4 0 [(0, .ref r0)] [] h).trans ?_
  rfl
set_option maxRecDepth 100000 in
theorem e_Sa_sweep_4 (d : Nat) (h : am_H) (r0 : Nat) (i1 : Int32) (i2 : Int32) : f_Sa_sweep_4 (d + 1) h r0 i1 i2 = (
    am_gi h r0 5 2 fun x_1 =>
    if x_1 ≤ i2 then
      am_01 i1 (some (.inr (some (.int i1)), h))
    else
    am_gl h r0 5 4 fun y_2 =>
    if (lg_cmp ((am_lushr y_2 i2) &&& 1) 0) = 0 then
      f_Sa_sweep_4 (d + 1) h r0 i1 (i2 + 1)
    else
    am_ck h r0 5 <| am_cv (f_Sa_derive d h r0 i2) fun h_3 =>
    am_ck h_3 r0 5 <| am_ci (f_Sa_commit d h_3 r0 i2) fun x_5 h_4 =>
    am_gp h_4 r0 5 15 fun p_6 =>
    am_ar h_4 10 p_6 i2 fun j_7 =>
    am_ck h_4 r0 5 <| am_cv (f_Sa_activate d h_4 r0 (am_L h_4 p_6 j_7)) fun h_8 =>
    f_Sa_sweep_4 (d + 1) h_8 r0 (i1 ||| x_5) (i2 + 1)) := by
  refine (am_sem_seg (am_sm am_MT (d + 1)) m_Sa_sweep 30 4 [(0, .ref r0), (1, .int i1), (2, .int i2)] [] h).trans ?_
  rfl
set_option maxRecDepth 100000 in
theorem e_Sa_usedAxioms (d : Nat) (h : am_H) (r0 : Nat) : f_Sa_usedAxioms d h r0 = (
    f_Sa_usedAxioms_4 d h r0 0 0) := by
  refine (am_sem_seg (am_sm am_MT d) m_Sa_usedAxioms 4 0 [(0, .ref r0)] [] h).trans ?_
  rfl
set_option maxRecDepth 100000 in
theorem e_Sa_usedAxioms_4 (d : Nat) (h : am_H) (r0 : Nat) (i1 : Int32) (i2 : Int32) : f_Sa_usedAxioms_4 d h r0 i1 i2 = (
    am_gi h r0 5 2 fun x_1 =>
    if x_1 ≤ i2 then
      f_Sa_usedAxioms_74 d h r0 i1 0 0
    else
    f_Sa_usedAxioms_14 d h r0 i1 i2 0) := by
  refine (am_sem_seg (am_sm am_MT d) m_Sa_usedAxioms 8 4 [(0, .ref r0), (1, .int i1), (2, .int i2)] [] h).trans ?_
  rfl
set_option maxRecDepth 100000 in
theorem e_Sa_usedAxioms_14 (d : Nat) (h : am_H) (r0 : Nat) (i1 : Int32) (i2 : Int32) (i3 : Int32) : f_Sa_usedAxioms_14 d h r0 i1 i2 i3 = (
    am_gi h r0 5 3 fun x_1 =>
    if x_1 ≤ i3 then
      f_Sa_usedAxioms_4 d h r0 i1 (i2 + 1)
    else
    am_gl h r0 5 4 fun y_2 =>
    if (lg_cmp ((am_lushr y_2 i2) &&& 1) 0) = 0 then
      f_Sa_usedAxioms_14 d h r0 i1 i2 (i3 + 1)
    else
    am_gp h r0 5 14 fun p_3 =>
    am_ar h 10 p_3 ((i2 * 8) + i3) fun j_4 =>
    if (lg_cmp (am_L h p_3 j_4) 0) = 0 then
      f_Sa_usedAxioms_14 d h r0 i1 i2 (i3 + 1)
    else
    f_Sa_usedAxioms_14 d h r0 (i1 ||| (am_ishl 1 i3)) i2 (i3 + 1)) := by
  refine (am_sem_seg (am_sm am_MT d) m_Sa_usedAxioms 32 14 [(0, .ref r0), (1, .int i1), (2, .int i2), (3, .int i3)] [] h).trans ?_
  rfl
set_option maxRecDepth 100000 in
theorem e_Sa_usedAxioms_74 (d : Nat) (h : am_H) (r0 : Nat) (i1 : Int32) (l2 : Int64) (i4 : Int32) : f_Sa_usedAxioms_74 (d + 1) h r0 i1 l2 i4 = (
    am_gp h r0 5 0 fun p_1 =>
    am_gi h p_1 2 9 fun x_2 =>
    if x_2 ≤ i4 then
      some (.inr (some (.long l2)), h)
    else
    am_gl h r0 5 1 fun y_3 =>
    if (lg_cmp ((am_lushr y_3 i4) &&& 1) 0) = 0 then
      f_Sa_usedAxioms_74 (d + 1) h r0 i1 l2 (i4 + 1)
    else
    am_ck h r0 5 <| am_ci (f_Sa_isUsed d h r0 i4 i1) fun x_5 h_4 =>
    if x_5 = 0 then
      f_Sa_usedAxioms_74 (d + 1) h_4 r0 i1 l2 (i4 + 1)
    else
    f_Sa_usedAxioms_74 (d + 1) h_4 r0 i1 (l2 ||| (am_lshl 1 i4)) (i4 + 1)) := by
  refine (am_sem_seg (am_sm am_MT (d + 1)) m_Sa_usedAxioms 27 74 [(0, .ref r0), (1, .int i1), (2, .long l2), (4, .int i4)] [] h).trans ?_
  rfl
set_option maxRecDepth 100000 in
theorem e_Sa_isUsed (d : Nat) (h : am_H) (r0 : Nat) (i1 : Int32) (i2 : Int32) : f_Sa_isUsed d h r0 i1 i2 = (
    am_gp h r0 5 0 fun p_1 =>
    am_gp h p_1 2 12 fun p_2 =>
    am_ar h 9 p_2 i1 fun j_3 =>
    am_gp h r0 5 0 fun p_4 =>
    am_gp h p_4 2 13 fun p_5 =>
    am_ar h 9 p_5 i1 fun j_6 =>
    am_gp h r0 5 0 fun p_7 =>
    am_gp h p_7 2 11 fun p_8 =>
    am_ar h 9 p_8 i1 fun j_9 =>
    if (am_I h p_8 j_9) = 0 then
      am_gp h r0 5 12 fun p_10 =>
      am_ar h 10 p_10 (am_I h p_2 j_3) fun j_11 =>
      if (lg_cmp (am_L h p_10 j_11) 0) = 0 then
        am_01 0 (some (.inr (some (.int 0)), h))
      else
      am_01 1 (some (.inr (some (.int 1)), h))
    else
    if (am_I h p_8 j_9) = 1 then
      am_gp h r0 5 12 fun p_12 =>
      am_ar h 10 p_12 (am_I h p_2 j_3) fun j_13 =>
      am_gp h r0 5 12 fun p_14 =>
      am_ar h 10 p_14 (am_I h p_5 j_6) fun j_15 =>
      if (lg_cmp ((am_L h p_12 j_13) ||| (am_L h p_14 j_15)) 0) = 0 then
        am_01 0 (some (.inr (some (.int 0)), h))
      else
      am_01 1 (some (.inr (some (.int 1)), h))
    else
    if (am_I h p_8 j_9) = 2 then
      if ((am_iushr i2 (am_I h p_2 j_3)) &&& 1) = 0 then
        am_01 0 (some (.inr (some (.int 0)), h))
      else
      am_01 1 (some (.inr (some (.int 1)), h))
    else
    if (((am_iushr i2 (am_I h p_2 j_3)) &&& (am_iushr i2 (am_I h p_5 j_6))) &&& 1) = 0 then
      am_01 0 (some (.inr (some (.int 0)), h))
    else
    am_01 1 (some (.inr (some (.int 1)), h))) := by
  refine (am_sem_seg (am_sm am_MT d) m_Sa_isUsed 33 0 [(0, .ref r0), (1, .int i1), (2, .int i2)] [] h).trans ?_
  rfl
set_option maxRecDepth 100000 in
theorem e_Sa_derive (d : Nat) (h : am_H) (r0 : Nat) (i1 : Int32) : f_Sa_derive (d + 1) h r0 i1 = (
    am_gp h r0 5 11 fun p_1 =>
    am_ar h 10 p_1 i1 fun j_2 =>
    am_ck h r0 5 <| am_cl (f_Sa_byAxioms d h r0 (am_L h p_1 j_2)) fun y_4 h_3 =>
    am_gp h_3 r0 5 11 fun p_5 =>
    am_ar h_3 10 p_5 i1 fun j_6 =>
    am_ck h_3 r0 5 <| am_cl (f_Sa_byParts d h_3 r0 i1 (am_L h_3 p_5 j_6)) fun y_8 h_7 =>
    am_gp h_7 r0 5 15 fun p_9 =>
    am_ar h_7 10 p_9 i1 fun j_10 =>
    am_gp h_7 r0 5 12 fun p_11 =>
    am_ar h_7 10 p_11 1 fun j_12 =>
    if (lg_cmp ((am_L h_7 p_9 j_10) &&& (am_L h_7 p_11 j_12)) 0) = 0 then
      am_gp h_7 r0 5 16 fun p_13 =>
      am_gp h_7 r0 5 11 fun p_14 =>
      am_ar h_7 10 p_14 i1 fun j_15 =>
      am_ar h_7 10 p_13 i1 fun j_16 =>
      am_gp (am_sL h_7 p_13 j_16 ((y_4 ||| y_8) &&& ((am_L h_7 p_14 j_15) ^^^ (-1)))) r0 5 15 fun p_17 =>
      am_ar (am_sL h_7 p_13 j_16 ((y_4 ||| y_8) &&& ((am_L h_7 p_14 j_15) ^^^ (-1)))) 10 p_17 i1 fun j_18 =>
      if (lg_cmp (am_L (am_sL h_7 p_13 j_16 ((y_4 ||| y_8) &&& ((am_L h_7 p_14 j_15) ^^^ (-1)))) p_17 j_18) 0) = 0 then
        some (.inr none, (am_sL h_7 p_13 j_16 ((y_4 ||| y_8) &&& ((am_L h_7 p_14 j_15) ^^^ (-1)))))
      else
      am_ck (am_sL h_7 p_13 j_16 ((y_4 ||| y_8) &&& ((am_L h_7 p_14 j_15) ^^^ (-1)))) r0 5 <| am_cv (f_Sa_byChains d (am_sL h_7 p_13 j_16 ((y_4 ||| y_8) &&& ((am_L h_7 p_14 j_15) ^^^ (-1)))) r0 i1) fun h_19 =>
      some (.inr none, h_19)
    else
    am_gp h_7 r0 5 16 fun p_20 =>
    am_gp h_7 r0 5 11 fun p_21 =>
    am_ar h_7 10 p_21 i1 fun j_22 =>
    am_ar h_7 10 p_20 i1 fun j_23 =>
    am_gp (am_sL h_7 p_20 j_23 (((y_4 ||| y_8) ||| 2) &&& ((am_L h_7 p_21 j_22) ^^^ (-1)))) r0 5 15 fun p_24 =>
    am_ar (am_sL h_7 p_20 j_23 (((y_4 ||| y_8) ||| 2) &&& ((am_L h_7 p_21 j_22) ^^^ (-1)))) 10 p_24 i1 fun j_25 =>
    if (lg_cmp (am_L (am_sL h_7 p_20 j_23 (((y_4 ||| y_8) ||| 2) &&& ((am_L h_7 p_21 j_22) ^^^ (-1)))) p_24 j_25) 0) = 0 then
      some (.inr none, (am_sL h_7 p_20 j_23 (((y_4 ||| y_8) ||| 2) &&& ((am_L h_7 p_21 j_22) ^^^ (-1)))))
    else
    am_ck (am_sL h_7 p_20 j_23 (((y_4 ||| y_8) ||| 2) &&& ((am_L h_7 p_21 j_22) ^^^ (-1)))) r0 5 <| am_cv (f_Sa_byChains d (am_sL h_7 p_20 j_23 (((y_4 ||| y_8) ||| 2) &&& ((am_L h_7 p_21 j_22) ^^^ (-1)))) r0 i1) fun h_26 =>
    some (.inr none, h_26)) := by
  refine (am_sem_seg (am_sm am_MT (d + 1)) m_Sa_derive 54 0 [(0, .ref r0), (1, .int i1)] [] h).trans ?_
  rfl
set_option maxRecDepth 100000 in
theorem e_Sa_byAxioms (d : Nat) (h : am_H) (r0 : Nat) (l1 : Int64) : f_Sa_byAxioms d h r0 l1 = (
    f_Sa_byAxioms_5 d h r0 l1 0 0) := by
  refine (am_sem_seg (am_sm am_MT d) m_Sa_byAxioms 4 0 [(0, .ref r0), (1, .long l1)] [] h).trans ?_
  rfl
set_option maxRecDepth 100000 in
theorem e_Sa_byAxioms_5 (d : Nat) (h : am_H) (r0 : Nat) (l1 : Int64) (l3 : Int64) (i5 : Int32) : f_Sa_byAxioms_5 d h r0 l1 l3 i5 = (
    am_gi h r0 5 5 fun x_1 =>
    if x_1 ≤ i5 then
      some (.inr (some (.long l3)), h)
    else
    am_gp h r0 5 6 fun p_2 =>
    am_ar h 9 p_2 i5 fun j_3 =>
    am_gp h r0 5 7 fun p_4 =>
    am_ar h 9 p_4 i5 fun j_5 =>
    f_Sa_byAxioms_5 d h r0 l1 (l3 ||| (am_lshl ((am_lushr l1 (am_I h p_2 j_3)) &&& 1) (am_I h p_4 j_5))) (i5 + 1)) := by
  refine (am_sem_seg (am_sm am_MT d) m_Sa_byAxioms 22 5 [(0, .ref r0), (1, .long l1), (3, .long l3), (5, .int i5)] [] h).trans ?_
  rfl
set_option maxRecDepth 100000 in
theorem e_Sa_byParts (d : Nat) (h : am_H) (r0 : Nat) (i1 : Int32) (l2 : Int64) : f_Sa_byParts d h r0 i1 l2 = (
    f_Sa_byParts_6 d h r0 i1 l2 0 0) := by
  refine (am_sem_seg (am_sm am_MT d) m_Sa_byParts 4 0 [(0, .ref r0), (1, .int i1), (2, .long l2)] [] h).trans ?_
  rfl
set_option maxRecDepth 100000 in
theorem e_Sa_byParts_6 (d : Nat) (h : am_H) (r0 : Nat) (i1 : Int32) (l2 : Int64) (l4 : Int64) (i6 : Int32) : f_Sa_byParts_6 d h r0 i1 l2 l4 i6 = (
    am_gi h r0 5 2 fun x_1 =>
    if x_1 ≤ i6 then
      some (.inr (some (.long l4)), h)
    else
    am_gp h r0 5 0 fun p_2 =>
    am_gp h p_2 2 4 fun p_3 =>
    am_ar h 9 p_3 i6 fun j_4 =>
    if 3 ≤ (am_I h p_3 j_4) then
      am_gp h r0 5 0 fun p_5 =>
      am_gp h p_5 2 5 fun p_6 =>
      am_ar h 9 p_6 i6 fun j_7 =>
      am_gp h r0 5 0 fun p_8 =>
      am_gp h p_8 2 6 fun p_9 =>
      am_ar h 9 p_9 i6 fun j_10 =>
      if (lg_cmp ((am_lushr l2 i6) &&& 1) 0) = 0 then
        f_Sa_byParts_76 d h r0 i1 l2 l4 i6 (am_I h p_3 j_4) (am_I h p_6 j_7) (am_I h p_9 j_10) 0
      else
      f_Sa_byParts_76 d h r0 i1 l2 l4 i6 (am_I h p_3 j_4) (am_I h p_6 j_7) (am_I h p_9 j_10) 1
    else
    f_Sa_byParts_195 d h r0 i1 l2 l4 i6) := by
  refine (am_sem_seg (am_sm am_MT d) m_Sa_byParts 35 6 [(0, .ref r0), (1, .int i1), (2, .long l2), (4, .long l4), (6, .int i6)] [] h).trans ?_
  rfl
set_option maxRecDepth 100000 in
theorem e_Sa_byParts_76 (d : Nat) (h : am_H) (r0 : Nat) (i1 : Int32) (l2 : Int64) (l4 : Int64) (i6 : Int32) (i7 : Int32) (i8 : Int32) (i9 : Int32) (s0 : Int32) : f_Sa_byParts_76 d h r0 i1 l2 l4 i6 i7 i8 i9 s0 = (
    if i7 = 3 then
      if s0 = 0 then
        if (lg_cmp (((am_lushr l2 i8) &&& (am_lushr l2 i9)) &&& 1) 0) = 0 then
          f_Sa_byParts_195 d h r0 i1 l2 l4 i6
        else
        f_Sa_byParts_195 d h r0 i1 l2 (l4 ||| (am_lshl 1 i6)) i6
      else
      f_Sa_byParts_195 d h r0 i1 l2 (l4 ||| ((am_lshl 1 i8) ||| (am_lshl 1 i9))) i6
    else
    if s0 = 0 then
      am_gp h r0 5 14 fun p_1 =>
      am_ar h 10 p_1 ((i1 * 8) + i8) fun j_2 =>
      am_gp h r0 5 12 fun p_3 =>
      am_ar h 10 p_3 i9 fun j_4 =>
      if (lg_cmp ((am_L h p_1 j_2) &&& (am_L h p_3 j_4)) 0) = 0 then
        f_Sa_byParts_195 d h r0 i1 l2 l4 i6
      else
      f_Sa_byParts_195 d h r0 i1 l2 (l4 ||| (am_lshl 1 i6)) i6
    else
    am_gp h r0 5 17 fun p_5 =>
    am_ar h 10 p_5 ((i1 * 8) + i8) fun j_6 =>
    am_ar h 10 p_5 ((i1 * 8) + i8) fun j_7 =>
    f_Sa_byParts_195 d (am_sL h p_5 j_7 ((am_L h p_5 j_6) ||| (am_lshl 1 i9))) r0 i1 l2 l4 i6) := by
  refine (am_sem_seg (am_sm am_MT d) m_Sa_byParts 28 76 [(0, .ref r0), (1, .int i1), (2, .long l2), (4, .long l4), (6, .int i6), (7, .int i7), (8, .int i8), (9, .int i9)] [.int s0] h).trans ?_
  rfl
set_option maxRecDepth 100000 in
theorem e_Sa_byParts_195 (d : Nat) (h : am_H) (r0 : Nat) (i1 : Int32) (l2 : Int64) (l4 : Int64) (i6 : Int32) : f_Sa_byParts_195 d h r0 i1 l2 l4 i6 = (
    f_Sa_byParts_6 d h r0 i1 l2 l4 (i6 + 1)) := by
  refine (am_sem_seg (am_sm am_MT d) m_Sa_byParts 2 195 [(0, .ref r0), (1, .int i1), (2, .long l2), (4, .long l4), (6, .int i6)] [] h).trans ?_
  rfl
set_option maxRecDepth 100000 in
theorem e_Sa_byChains (d : Nat) (h : am_H) (r0 : Nat) (i1 : Int32) : f_Sa_byChains d h r0 i1 = (
    f_Sa_byChains_2 d h r0 i1 0) := by
  refine (am_sem_seg (am_sm am_MT d) m_Sa_byChains 2 0 [(0, .ref r0), (1, .int i1)] [] h).trans ?_
  rfl
set_option maxRecDepth 100000 in
theorem e_Sa_byChains_2 (d : Nat) (h : am_H) (r0 : Nat) (i1 : Int32) (i2 : Int32) : f_Sa_byChains_2 d h r0 i1 i2 = (
    am_gi h r0 5 8 fun x_1 =>
    if x_1 ≤ i2 then
      some (.inr none, h)
    else
    am_gp h r0 5 9 fun p_2 =>
    am_ar h 9 p_2 i2 fun j_3 =>
    am_gp h r0 5 14 fun p_4 =>
    am_gp h r0 5 0 fun p_5 =>
    am_gp h p_5 2 12 fun p_6 =>
    am_ar h 9 p_6 (am_I h p_2 j_3) fun j_7 =>
    am_ar h 10 p_4 ((i1 * 8) + (am_I h p_6 j_7)) fun j_8 =>
    am_gp h r0 5 0 fun p_9 =>
    am_gp h p_9 2 13 fun p_10 =>
    am_ar h 9 p_10 (am_I h p_2 j_3) fun j_11 =>
    f_Sa_byChains_55 d h r0 i1 i2 (am_I h p_2 j_3) (am_L h p_4 j_8) (am_I h p_10 j_11) 0 0) := by
  refine (am_sem_seg (am_sm am_MT d) m_Sa_byChains 32 2 [(0, .ref r0), (1, .int i1), (2, .int i2)] [] h).trans ?_
  rfl
set_option maxRecDepth 100000 in
theorem e_Sa_byChains_55 (d : Nat) (h : am_H) (r0 : Nat) (i1 : Int32) (i2 : Int32) (i3 : Int32) (l4 : Int64) (i6 : Int32) (l7 : Int64) (i9 : Int32) : f_Sa_byChains_55 d h r0 i1 i2 i3 l4 i6 l7 i9 = (
    if (lg_cmp l4 0) = 0 then
      am_gp h r0 5 17 fun p_1 =>
      am_gp h r0 5 0 fun p_2 =>
      am_gp h p_2 2 14 fun p_3 =>
      am_ar h 9 p_3 i3 fun j_4 =>
      am_ar h 10 p_1 ((i1 * 8) + (am_I h p_3 j_4)) fun j_5 =>
      am_ar h 10 p_1 ((i1 * 8) + (am_I h p_3 j_4)) fun j_6 =>
      f_Sa_byChains_2 d (am_sL h p_1 j_6 ((am_L h p_1 j_5) ||| l7)) r0 i1 (i2 + 1)
    else
    am_gi h r0 5 2 fun x_7 =>
    if x_7 ≤ i9 then
      am_gp h r0 5 17 fun p_8 =>
      am_gp h r0 5 0 fun p_9 =>
      am_gp h p_9 2 14 fun p_10 =>
      am_ar h 9 p_10 i3 fun j_11 =>
      am_ar h 10 p_8 ((i1 * 8) + (am_I h p_10 j_11)) fun j_12 =>
      am_ar h 10 p_8 ((i1 * 8) + (am_I h p_10 j_11)) fun j_13 =>
      f_Sa_byChains_2 d (am_sL h p_8 j_13 ((am_L h p_8 j_12) ||| l7)) r0 i1 (i2 + 1)
    else
    if (lg_cmp ((am_lushr l4 i9) &&& 1) 0) = 0 then
      f_Sa_byChains_55 d h r0 i1 i2 i3 l4 i6 l7 (i9 + 1)
    else
    am_gp h r0 5 14 fun p_14 =>
    am_ar h 10 p_14 ((i9 * 8) + i6) fun j_15 =>
    f_Sa_byChains_55 d h r0 i1 i2 i3 l4 i6 (l7 ||| (am_L h p_14 j_15)) (i9 + 1)) := by
  refine (am_sem_seg (am_sm am_MT d) m_Sa_byChains 29 55 [(0, .ref r0), (1, .int i1), (2, .int i2), (3, .int i3), (4, .long l4), (6, .int i6), (7, .long l7), (9, .int i9)] [] h).trans ?_
  rfl
set_option maxRecDepth 100000 in
theorem e_Sa_commit (d : Nat) (h : am_H) (r0 : Nat) (i1 : Int32) : f_Sa_commit d h r0 i1 = (
    am_gp h r0 5 16 fun p_1 =>
    am_ar h 10 p_1 i1 fun j_2 =>
    if (lg_cmp (am_L h p_1 j_2) 0) = 0 then
      if (0 : Int32) = 0 then
        f_Sa_commit_81 d h r0 i1 0 0
      else
      am_gp h r0 5 11 fun p_3 =>
      am_ar h 10 p_3 i1 fun j_4 =>
      am_ar h 10 p_3 i1 fun j_5 =>
      am_gp (am_sL h p_3 j_5 ((am_L h p_3 j_4) ||| (am_L h p_1 j_2))) r0 5 16 fun p_6 =>
      am_ar (am_sL h p_3 j_5 ((am_L h p_3 j_4) ||| (am_L h p_1 j_2))) 10 p_6 i1 fun j_7 =>
      f_Sa_commit_45 d (am_sL (am_sL h p_3 j_5 ((am_L h p_3 j_4) ||| (am_L h p_1 j_2))) p_6 j_7 0) r0 i1 (am_L h p_1 j_2) 0 0
    else
    if (1 : Int32) = 0 then
      f_Sa_commit_81 d h r0 i1 1 0
    else
    am_gp h r0 5 11 fun p_8 =>
    am_ar h 10 p_8 i1 fun j_9 =>
    am_ar h 10 p_8 i1 fun j_10 =>
    am_gp (am_sL h p_8 j_10 ((am_L h p_8 j_9) ||| (am_L h p_1 j_2))) r0 5 16 fun p_11 =>
    am_ar (am_sL h p_8 j_10 ((am_L h p_8 j_9) ||| (am_L h p_1 j_2))) 10 p_11 i1 fun j_12 =>
    f_Sa_commit_45 d (am_sL (am_sL h p_8 j_10 ((am_L h p_8 j_9) ||| (am_L h p_1 j_2))) p_11 j_12 0) r0 i1 (am_L h p_1 j_2) 1 0) := by
  refine (am_sem_seg (am_sm am_MT d) m_Sa_commit 29 0 [(0, .ref r0), (1, .int i1)] [] h).trans ?_
  rfl
set_option maxRecDepth 100000 in
theorem e_Sa_commit_45 (d : Nat) (h : am_H) (r0 : Nat) (i1 : Int32) (l2 : Int64) (i4 : Int32) (i5 : Int32) : f_Sa_commit_45 d h r0 i1 l2 i4 i5 = (
    am_gi h r0 5 2 fun x_1 =>
    if x_1 ≤ i5 then
      f_Sa_commit_81 d h r0 i1 i4 0
    else
    am_gp h r0 5 12 fun p_2 =>
    am_ar h 10 p_2 i5 fun j_3 =>
    am_ar h 10 p_2 i5 fun j_4 =>
    f_Sa_commit_45 d (am_sL h p_2 j_4 ((am_L h p_2 j_3) ||| (am_lshl ((am_lushr l2 i5) &&& 1) i1))) r0 i1 l2 i4 (i5 + 1)) := by
  refine (am_sem_seg (am_sm am_MT d) m_Sa_commit 20 45 [(0, .ref r0), (1, .int i1), (2, .long l2), (4, .int i4), (5, .int i5)] [] h).trans ?_
  rfl
set_option maxRecDepth 100000 in
theorem e_Sa_commit_81 (d : Nat) (h : am_H) (r0 : Nat) (i1 : Int32) (i4 : Int32) (i5 : Int32) : f_Sa_commit_81 (d + 1) h r0 i1 i4 i5 = (
    am_gi h r0 5 3 fun x_1 =>
    if x_1 ≤ i5 then
      am_01 i4 (some (.inr (some (.int i4)), h))
    else
    am_gp h r0 5 17 fun p_2 =>
    am_ar h 10 p_2 ((i1 * 8) + i5) fun j_3 =>
    am_gp h r0 5 13 fun p_4 =>
    am_ar h 10 p_4 ((i1 * 8) + i5) fun j_5 =>
    am_gp h r0 5 17 fun p_6 =>
    am_ar h 10 p_6 ((i1 * 8) + i5) fun j_7 =>
    if (lg_cmp ((am_L h p_2 j_3) &&& ((am_L h p_4 j_5) ^^^ (-1))) 0) = 0 then
      f_Sa_commit_81 (d + 1) (am_sL h p_6 j_7 0) r0 i1 i4 (i5 + 1)
    else
    am_gp (am_sL h p_6 j_7 0) r0 5 13 fun p_8 =>
    am_ar (am_sL h p_6 j_7 0) 10 p_8 ((i1 * 8) + i5) fun j_9 =>
    am_ar (am_sL h p_6 j_7 0) 10 p_8 ((i1 * 8) + i5) fun j_10 =>
    am_gp (am_sL (am_sL h p_6 j_7 0) p_8 j_10 ((am_L (am_sL h p_6 j_7 0) p_8 j_9) ||| ((am_L h p_2 j_3) &&& ((am_L h p_4 j_5) ^^^ (-1))))) r0 5 15 fun p_11 =>
    am_ar (am_sL (am_sL h p_6 j_7 0) p_8 j_10 ((am_L (am_sL h p_6 j_7 0) p_8 j_9) ||| ((am_L h p_2 j_3) &&& ((am_L h p_4 j_5) ^^^ (-1))))) 10 p_11 i1 fun j_12 =>
    am_ar (am_sL (am_sL h p_6 j_7 0) p_8 j_10 ((am_L (am_sL h p_6 j_7 0) p_8 j_9) ||| ((am_L h p_2 j_3) &&& ((am_L h p_4 j_5) ^^^ (-1))))) 10 p_11 i1 fun j_13 =>
    am_ck (am_sL (am_sL (am_sL h p_6 j_7 0) p_8 j_10 ((am_L (am_sL h p_6 j_7 0) p_8 j_9) ||| ((am_L h p_2 j_3) &&& ((am_L h p_4 j_5) ^^^ (-1))))) p_11 j_13 ((am_L (am_sL (am_sL h p_6 j_7 0) p_8 j_10 ((am_L (am_sL h p_6 j_7 0) p_8 j_9) ||| ((am_L h p_2 j_3) &&& ((am_L h p_4 j_5) ^^^ (-1))))) p_11 j_12) ||| ((am_L h p_2 j_3) &&& ((am_L h p_4 j_5) ^^^ (-1))))) r0 5 <| am_cv (f_Sa_spreadReach d (am_sL (am_sL (am_sL h p_6 j_7 0) p_8 j_10 ((am_L (am_sL h p_6 j_7 0) p_8 j_9) ||| ((am_L h p_2 j_3) &&& ((am_L h p_4 j_5) ^^^ (-1))))) p_11 j_13 ((am_L (am_sL (am_sL h p_6 j_7 0) p_8 j_10 ((am_L (am_sL h p_6 j_7 0) p_8 j_9) ||| ((am_L h p_2 j_3) &&& ((am_L h p_4 j_5) ^^^ (-1))))) p_11 j_12) ||| ((am_L h p_2 j_3) &&& ((am_L h p_4 j_5) ^^^ (-1))))) r0 i1 i5 ((am_L h p_2 j_3) &&& ((am_L h p_4 j_5) ^^^ (-1)))) fun h_14 =>
    f_Sa_commit_81 (d + 1) h_14 r0 i1 1 (i5 + 1)) := by
  refine (am_sem_seg (am_sm am_MT (d + 1)) m_Sa_commit 56 81 [(0, .ref r0), (1, .int i1), (4, .int i4), (5, .int i5)] [] h).trans ?_
  rfl
set_option maxRecDepth 100000 in
theorem e_Sa_spreadReach (d : Nat) (h : am_H) (r0 : Nat) (i1 : Int32) (i2 : Int32) (l3 : Int64) : f_Sa_spreadReach d h r0 i1 i2 l3 = (
    f_Sa_spreadReach_3 d h r0 i1 i2 l3 0) := by
  refine (am_sem_seg (am_sm am_MT d) m_Sa_spreadReach 2 0 [(0, .ref r0), (1, .int i1), (2, .int i2), (3, .long l3)] [] h).trans ?_
  rfl
set_option maxRecDepth 100000 in
theorem e_Sa_spreadReach_3 (d : Nat) (h : am_H) (r0 : Nat) (i1 : Int32) (i2 : Int32) (l3 : Int64) (i5 : Int32) : f_Sa_spreadReach_3 d h r0 i1 i2 l3 i5 = (
    am_gi h r0 5 3 fun x_1 =>
    if x_1 ≤ i5 then
      some (.inr none, h)
    else
    am_gp h r0 5 10 fun p_2 =>
    am_ar h 9 p_2 i2 fun j_3 =>
    if ((am_iushr (am_I h p_2 j_3) i5) &&& 1) = 0 then
      f_Sa_spreadReach_3 d h r0 i1 i2 l3 (i5 + 1)
    else
    am_gp h r0 5 14 fun p_4 =>
    am_ar h 10 p_4 ((i1 * 8) + i5) fun j_5 =>
    am_ar h 10 p_4 ((i1 * 8) + i5) fun j_6 =>
    f_Sa_spreadReach_3 d (am_sL h p_4 j_6 ((am_L h p_4 j_5) ||| l3)) r0 i1 i2 l3 (i5 + 1)) := by
  refine (am_sem_seg (am_sm am_MT d) m_Sa_spreadReach 27 3 [(0, .ref r0), (1, .int i1), (2, .int i2), (3, .long l3), (5, .int i5)] [] h).trans ?_
  rfl
set_option maxRecDepth 100000 in
theorem e_Sa_ruleFor (d : Nat) (h : am_H) (r0 : Nat) (i1 : Int32) (i2 : Int32) : f_Sa_ruleFor d h r0 i1 i2 = (
    f_Sa_ruleFor_2 d h r0 i1 i2 1) := by
  refine (am_sem_seg (am_sm am_MT d) m_Sa_ruleFor 2 0 [(0, .ref r0), (1, .int i1), (2, .int i2)] [] h).trans ?_
  rfl
set_option maxRecDepth 100000 in
theorem e_Sa_ruleFor_2 (d : Nat) (h : am_H) (r0 : Nat) (i1 : Int32) (i2 : Int32) (i3 : Int32) : f_Sa_ruleFor_2 (d + 1) h r0 i1 i2 i3 = (
    if 5 < i3 then
      some (.inr (some (.int (-1))), h)
    else
    if i3 = 3 then
      am_ck h r0 5 <| am_ci (f_Sa_joins d h r0 i1 i2) fun x_2 h_1 =>
      if x_2 = 0 then
        f_Sa_ruleFor_2 (d + 1) h_1 r0 i1 i2 (i3 + 1)
      else
      some (.inr (some (.int i3)), h_1)
    else
    am_ck h r0 5 <| am_ci (f_Sa_witnessOf d h r0 i3 i1 i2) fun x_4 h_3 =>
    if x_4 = (-1) then
      if (0 : Int32) = 0 then
        f_Sa_ruleFor_2 (d + 1) h_3 r0 i1 i2 (i3 + 1)
      else
      some (.inr (some (.int i3)), h_3)
    else
    if (1 : Int32) = 0 then
      f_Sa_ruleFor_2 (d + 1) h_3 r0 i1 i2 (i3 + 1)
    else
    some (.inr (some (.int i3)), h_3)) := by
  refine (am_sem_seg (am_sm am_MT (d + 1)) m_Sa_ruleFor 20 2 [(0, .ref r0), (1, .int i1), (2, .int i2), (3, .int i3)] [] h).trans ?_
  rfl
set_option maxRecDepth 100000 in
theorem e_Sa_witnessOf (d : Nat) (h : am_H) (r0 : Nat) (i1 : Int32) (i2 : Int32) (i3 : Int32) : f_Sa_witnessOf (d + 1) h r0 i1 i2 i3 = (
    if i1 = 1 then
      am_gp h r0 5 11 fun p_1 =>
      am_ar h 10 p_1 i2 fun j_2 =>
      am_ck h r0 5 <| am_ci (f_Sa_leastAxiom d h r0 (am_L h p_1 j_2) i3) fun x_4 h_3 =>
      some (.inr (some (.int x_4)), h_3)
    else
    if i1 = 2 then
      am_gp h r0 5 11 fun p_5 =>
      am_ar h 10 p_5 i2 fun j_6 =>
      am_ck h r0 5 <| am_ci (f_Sa_leastAnd d h r0 (am_L h p_5 j_6) i3) fun x_8 h_7 =>
      some (.inr (some (.int x_8)), h_7)
    else
    if i1 = 3 then
      some (.inr (some (.int (-1))), h)
    else
    if i1 = 4 then
      am_gp h r0 5 0 fun p_9 =>
      am_gp h p_9 2 4 fun p_10 =>
      am_ar h 9 p_10 i3 fun j_11 =>
      if (am_I h p_10 j_11) = 4 then
        am_gp h r0 5 14 fun p_12 =>
        am_gp h r0 5 0 fun p_13 =>
        am_gp h p_13 2 5 fun p_14 =>
        am_ar h 9 p_14 i3 fun j_15 =>
        am_ar h 10 p_12 ((i2 * 8) + (am_I h p_14 j_15)) fun j_16 =>
        am_gp h r0 5 12 fun p_17 =>
        am_gp h r0 5 0 fun p_18 =>
        am_gp h p_18 2 6 fun p_19 =>
        am_ar h 9 p_19 i3 fun j_20 =>
        am_ar h 10 p_17 (am_I h p_19 j_20) fun j_21 =>
        am_ck h r0 5 <| am_ci (f_Sa_leastPart d h r0 ((am_L h p_12 j_16) &&& (am_L h p_17 j_21))) fun x_23 h_22 =>
        some (.inr (some (.int x_23)), h_22)
      else
      some (.inr (some (.int (-1))), h)
    else
    if i1 = 5 then
      if i3 = 1 then
        am_gp h r0 5 15 fun p_24 =>
        am_ar h 10 p_24 i2 fun j_25 =>
        am_gp h r0 5 12 fun p_26 =>
        am_ar h 10 p_26 1 fun j_27 =>
        am_ck h r0 5 <| am_ci (f_Sa_leastPart d h r0 ((am_L h p_24 j_25) &&& (am_L h p_26 j_27))) fun x_29 h_28 =>
        some (.inr (some (.int x_29)), h_28)
      else
      some (.inr (some (.int (-1))), h)
    else
    some (.inr (some (.int (-1))), h)) := by
  refine (am_sem_seg (am_sm am_MT (d + 1)) m_Sa_witnessOf 33 0 [(0, .ref r0), (1, .int i1), (2, .int i2), (3, .int i3)] [] h).trans ?_
  rfl
set_option maxRecDepth 100000 in
theorem e_Sa_joins (d : Nat) (h : am_H) (r0 : Nat) (i1 : Int32) (i2 : Int32) : f_Sa_joins d h r0 i1 i2 = (
    am_gp h r0 5 0 fun p_1 =>
    am_gp h p_1 2 4 fun p_2 =>
    am_ar h 9 p_2 i2 fun j_3 =>
    if (am_I h p_2 j_3) = 3 then
      am_gp h r0 5 11 fun p_4 =>
      am_ar h 10 p_4 i1 fun j_5 =>
      am_gp h r0 5 0 fun p_6 =>
      am_gp h p_6 2 5 fun p_7 =>
      am_ar h 9 p_7 i2 fun j_8 =>
      am_gp h r0 5 11 fun p_9 =>
      am_ar h 10 p_9 i1 fun j_10 =>
      am_gp h r0 5 0 fun p_11 =>
      am_gp h p_11 2 6 fun p_12 =>
      am_ar h 9 p_12 i2 fun j_13 =>
      if (lg_cmp (((am_lushr (am_L h p_4 j_5) (am_I h p_7 j_8)) &&& (am_lushr (am_L h p_9 j_10) (am_I h p_12 j_13))) &&& 1) 0) = 0 then
        am_01 0 (some (.inr (some (.int 0)), h))
      else
      am_01 1 (some (.inr (some (.int 1)), h))
    else
    am_01 0 (some (.inr (some (.int 0)), h))) := by
  refine (am_sem_seg (am_sm am_MT d) m_Sa_joins 36 0 [(0, .ref r0), (1, .int i1), (2, .int i2)] [] h).trans ?_
  rfl
set_option maxRecDepth 100000 in
theorem e_Sa_leastAxiom (d : Nat) (h : am_H) (r0 : Nat) (l1 : Int64) (i3 : Int32) : f_Sa_leastAxiom d h r0 l1 i3 = (
    f_Sa_leastAxiom_3 d h r0 l1 i3 0) := by
  refine (am_sem_seg (am_sm am_MT d) m_Sa_leastAxiom 2 0 [(0, .ref r0), (1, .long l1), (3, .int i3)] [] h).trans ?_
  rfl
set_option maxRecDepth 100000 in
theorem e_Sa_leastAxiom_3 (d : Nat) (h : am_H) (r0 : Nat) (l1 : Int64) (i3 : Int32) (i4 : Int32) : f_Sa_leastAxiom_3 d h r0 l1 i3 i4 = (
    am_gp h r0 5 0 fun p_1 =>
    am_gi h p_1 2 9 fun x_2 =>
    if x_2 ≤ i4 then
      some (.inr (some (.int (-1))), h)
    else
    am_gp h r0 5 0 fun p_3 =>
    am_gp h p_3 2 11 fun p_4 =>
    am_ar h 9 p_4 i4 fun j_5 =>
    if 1 < (am_I h p_4 j_5) then
      f_Sa_leastAxiom_3 d h r0 l1 i3 (i4 + 1)
    else
    am_gl h r0 5 1 fun y_6 =>
    if (lg_cmp ((am_lushr y_6 i4) &&& 1) 0) = 0 then
      f_Sa_leastAxiom_3 d h r0 l1 i3 (i4 + 1)
    else
    am_gp h r0 5 0 fun p_7 =>
    am_gp h p_7 2 12 fun p_8 =>
    am_ar h 9 p_8 i4 fun j_9 =>
    am_gp h r0 5 0 fun p_10 =>
    am_gp h p_10 2 13 fun p_11 =>
    am_ar h 9 p_11 i4 fun j_12 =>
    if (am_I h p_11 j_12) = i3 then
      if (lg_cmp ((am_lushr l1 (am_I h p_8 j_9)) &&& 1) 0) = 0 then
        f_Sa_leastAxiom_96 d h r0 l1 i3 i4 (am_I h p_4 j_5) (am_I h p_8 j_9) (am_I h p_11 j_12) 0
      else
      f_Sa_leastAxiom_96 d h r0 l1 i3 i4 (am_I h p_4 j_5) (am_I h p_8 j_9) (am_I h p_11 j_12) 1
    else
    f_Sa_leastAxiom_96 d h r0 l1 i3 i4 (am_I h p_4 j_5) (am_I h p_8 j_9) (am_I h p_11 j_12) 0) := by
  refine (am_sem_seg (am_sm am_MT d) m_Sa_leastAxiom 48 3 [(0, .ref r0), (1, .long l1), (3, .int i3), (4, .int i4)] [] h).trans ?_
  rfl
set_option maxRecDepth 100000 in
theorem e_Sa_leastAxiom_96 (d : Nat) (h : am_H) (r0 : Nat) (l1 : Int64) (i3 : Int32) (i4 : Int32) (i5 : Int32) (i6 : Int32) (i7 : Int32) (s0 : Int32) : f_Sa_leastAxiom_96 d h r0 l1 i3 i4 i5 i6 i7 s0 = (
    if i5 = 1 then
      if i6 = i3 then
        if (lg_cmp ((am_lushr l1 i7) &&& 1) 0) = 0 then
          if s0 = 0 then
            if (0 : Int32) = 0 then
              f_Sa_leastAxiom_3 d h r0 l1 i3 (i4 + 1)
            else
            some (.inr (some (.int i4)), h)
          else
          some (.inr (some (.int i4)), h)
        else
        if s0 = 0 then
          if (1 : Int32) = 0 then
            f_Sa_leastAxiom_3 d h r0 l1 i3 (i4 + 1)
          else
          some (.inr (some (.int i4)), h)
        else
        some (.inr (some (.int i4)), h)
      else
      if s0 = 0 then
        if (0 : Int32) = 0 then
          f_Sa_leastAxiom_3 d h r0 l1 i3 (i4 + 1)
        else
        some (.inr (some (.int i4)), h)
      else
      some (.inr (some (.int i4)), h)
    else
    if s0 = 0 then
      if (0 : Int32) = 0 then
        f_Sa_leastAxiom_3 d h r0 l1 i3 (i4 + 1)
      else
      some (.inr (some (.int i4)), h)
    else
    some (.inr (some (.int i4)), h)) := by
  refine (am_sem_seg (am_sm am_MT d) m_Sa_leastAxiom 24 96 [(0, .ref r0), (1, .long l1), (3, .int i3), (4, .int i4), (5, .int i5), (6, .int i6), (7, .int i7)] [.int s0] h).trans ?_
  rfl
set_option maxRecDepth 100000 in
theorem e_Sa_leastAnd (d : Nat) (h : am_H) (r0 : Nat) (l1 : Int64) (i3 : Int32) : f_Sa_leastAnd d h r0 l1 i3 = (
    f_Sa_leastAnd_3 d h r0 l1 i3 0) := by
  refine (am_sem_seg (am_sm am_MT d) m_Sa_leastAnd 2 0 [(0, .ref r0), (1, .long l1), (3, .int i3)] [] h).trans ?_
  rfl
set_option maxRecDepth 100000 in
theorem e_Sa_leastAnd_3 (d : Nat) (h : am_H) (r0 : Nat) (l1 : Int64) (i3 : Int32) (i4 : Int32) : f_Sa_leastAnd_3 d h r0 l1 i3 i4 = (
    am_gi h r0 5 2 fun x_1 =>
    if x_1 ≤ i4 then
      some (.inr (some (.int (-1))), h)
    else
    am_gp h r0 5 0 fun p_2 =>
    am_gp h p_2 2 5 fun p_3 =>
    am_ar h 9 p_3 i4 fun j_4 =>
    if (am_I h p_3 j_4) = i3 then
      f_Sa_leastAnd_45 d h r0 l1 i3 i4 1
    else
    am_gp h r0 5 0 fun p_5 =>
    am_gp h p_5 2 6 fun p_6 =>
    am_ar h 9 p_6 i4 fun j_7 =>
    if (am_I h p_6 j_7) = i3 then
      f_Sa_leastAnd_45 d h r0 l1 i3 i4 1
    else
    f_Sa_leastAnd_45 d h r0 l1 i3 i4 0) := by
  refine (am_sem_seg (am_sm am_MT d) m_Sa_leastAnd 20 3 [(0, .ref r0), (1, .long l1), (3, .int i3), (4, .int i4)] [] h).trans ?_
  rfl
set_option maxRecDepth 100000 in
theorem e_Sa_leastAnd_45 (d : Nat) (h : am_H) (r0 : Nat) (l1 : Int64) (i3 : Int32) (i4 : Int32) (s0 : Int32) : f_Sa_leastAnd_45 d h r0 l1 i3 i4 s0 = (
    am_gp h r0 5 0 fun p_1 =>
    am_gp h p_1 2 4 fun p_2 =>
    am_ar h 9 p_2 i4 fun j_3 =>
    if (am_I h p_2 j_3) = 3 then
      if s0 = 0 then
        f_Sa_leastAnd_3 d h r0 l1 i3 (i4 + 1)
      else
      if (lg_cmp ((am_lushr l1 i4) &&& 1) 0) = 0 then
        f_Sa_leastAnd_3 d h r0 l1 i3 (i4 + 1)
      else
      some (.inr (some (.int i4)), h)
    else
    f_Sa_leastAnd_3 d h r0 l1 i3 (i4 + 1)) := by
  refine (am_sem_seg (am_sm am_MT d) m_Sa_leastAnd 20 45 [(0, .ref r0), (1, .long l1), (3, .int i3), (4, .int i4)] [.int s0] h).trans ?_
  rfl
set_option maxRecDepth 100000 in
theorem e_Sa_leastPart (d : Nat) (h : am_H) (r0 : Nat) (l1 : Int64) : f_Sa_leastPart d h r0 l1 = (
    f_Sa_leastPart_2 d h r0 l1 0) := by
  refine (am_sem_seg (am_sm am_MT d) m_Sa_leastPart 2 0 [(0, .ref r0), (1, .long l1)] [] h).trans ?_
  rfl
set_option maxRecDepth 100000 in
theorem e_Sa_leastPart_2 (d : Nat) (h : am_H) (r0 : Nat) (l1 : Int64) (i3 : Int32) : f_Sa_leastPart_2 d h r0 l1 i3 = (
    am_gi h r0 5 2 fun x_1 =>
    if x_1 ≤ i3 then
      some (.inr (some (.int (-1))), h)
    else
    if (lg_cmp ((am_lushr l1 i3) &&& 1) 0) = 0 then
      f_Sa_leastPart_2 d h r0 l1 (i3 + 1)
    else
    some (.inr (some (.int i3)), h)) := by
  refine (am_sem_seg (am_sm am_MT d) m_Sa_leastPart 14 2 [(0, .ref r0), (1, .long l1), (3, .int i3)] [] h).trans ?_
  rfl
set_option maxRecDepth 100000 in
theorem e_Hi_init (d : Nat) (h : am_H) (r0 : Nat) : f_Hi_init d h r0 = (
    am_ck h r0 0 <|
    f_Hi_init_9 d (am_sI h r0 0 0) r0) := by
  refine (am_sem_seg (am_sm am_MT d) m_Hi_init 5 0 [(0, .ref r0)] [] h).trans ?_
  rfl
set_option maxRecDepth 100000 in
theorem e_Hi_init_9 (d : Nat) (h : am_H) (r0 : Nat) : f_Hi_init_9 d h r0 = (
    am_ck h r0 0 <|
    f_Hi_init_14 d (am_sI h r0 1 0) r0) := by
  refine (am_sem_seg (am_sm am_MT d) m_Hi_init 3 9 [(0, .ref r0)] [] h).trans ?_
  rfl
set_option maxRecDepth 100000 in
theorem e_Hi_init_14 (d : Nat) (h : am_H) (r0 : Nat) : f_Hi_init_14 d h r0 = (
    bif Nat.beq (am_G h) 0 && !(decide ((24 : Int32) < 0)) && Nat.ble (Int32.toNatClampNeg 24) 60000000 then
      am_ck (am_nw h (9, Int32.toNatClampNeg 24)) r0 0 <|
      f_Hi_init_22 d (am_sP (am_nw h (9, Int32.toNatClampNeg 24)) r0 2 (some (am_S h).length)) r0
    else none) := by
  refine (am_sem_seg (am_sm am_MT d) m_Hi_init 4 14 [(0, .ref r0)] [] h).trans ?_
  rfl
set_option maxRecDepth 100000 in
theorem e_Hi_init_22 (d : Nat) (h : am_H) (r0 : Nat) : f_Hi_init_22 d h r0 = (
    bif Nat.beq (am_G h) 0 && !(decide ((24 : Int32) < 0)) && Nat.ble (Int32.toNatClampNeg 24) 60000000 then
      am_ck (am_nw h (9, Int32.toNatClampNeg 24)) r0 0 <|
      f_Hi_init_30 d (am_sP (am_nw h (9, Int32.toNatClampNeg 24)) r0 3 (some (am_S h).length)) r0
    else none) := by
  refine (am_sem_seg (am_sm am_MT d) m_Hi_init 4 22 [(0, .ref r0)] [] h).trans ?_
  rfl
set_option maxRecDepth 100000 in
theorem e_Hi_init_30 (d : Nat) (h : am_H) (r0 : Nat) : f_Hi_init_30 d h r0 = (
    bif Nat.beq (am_G h) 0 && !(decide ((24 : Int32) < 0)) && Nat.ble (Int32.toNatClampNeg 24) 60000000 then
      am_ck (am_nw h (9, Int32.toNatClampNeg 24)) r0 0 <|
      f_Hi_init_38 d (am_sP (am_nw h (9, Int32.toNatClampNeg 24)) r0 4 (some (am_S h).length)) r0
    else none) := by
  refine (am_sem_seg (am_sm am_MT d) m_Hi_init 4 30 [(0, .ref r0)] [] h).trans ?_
  rfl
set_option maxRecDepth 100000 in
theorem e_Hi_init_38 (d : Nat) (h : am_H) (r0 : Nat) : f_Hi_init_38 d h r0 = (
    bif Nat.beq (am_G h) 0 && !(decide ((24 : Int32) < 0)) && Nat.ble (Int32.toNatClampNeg 24) 60000000 then
      am_ck (am_nw h (9, Int32.toNatClampNeg 24)) r0 0 <|
      f_Hi_init_46 d (am_sP (am_nw h (9, Int32.toNatClampNeg 24)) r0 5 (some (am_S h).length)) r0
    else none) := by
  refine (am_sem_seg (am_sm am_MT d) m_Hi_init 4 38 [(0, .ref r0)] [] h).trans ?_
  rfl
set_option maxRecDepth 100000 in
theorem e_Hi_init_46 (d : Nat) (h : am_H) (r0 : Nat) : f_Hi_init_46 d h r0 = (
    bif Nat.beq (am_G h) 0 && !(decide ((24 : Int32) < 0)) && Nat.ble (Int32.toNatClampNeg 24) 60000000 then
      am_ck (am_nw h (9, Int32.toNatClampNeg 24)) r0 0 <|
      f_Hi_init_54 d (am_sP (am_nw h (9, Int32.toNatClampNeg 24)) r0 6 (some (am_S h).length)) r0
    else none) := by
  refine (am_sem_seg (am_sm am_MT d) m_Hi_init 4 46 [(0, .ref r0)] [] h).trans ?_
  rfl
set_option maxRecDepth 100000 in
theorem e_Hi_init_54 (d : Nat) (h : am_H) (r0 : Nat) : f_Hi_init_54 d h r0 = (
    bif Nat.beq (am_G h) 0 && !(decide ((24 : Int32) < 0)) && Nat.ble (Int32.toNatClampNeg 24) 60000000 then
      am_ck (am_nw h (9, Int32.toNatClampNeg 24)) r0 0 <|
      f_Hi_init_62 d (am_sP (am_nw h (9, Int32.toNatClampNeg 24)) r0 7 (some (am_S h).length))
    else none) := by
  refine (am_sem_seg (am_sm am_MT d) m_Hi_init 4 54 [(0, .ref r0)] [] h).trans ?_
  rfl
set_option maxRecDepth 100000 in
theorem e_Hi_init_62 (d : Nat) (h : am_H) : f_Hi_init_62 d h = (
    some (.inr none, h)) := by
  refine (am_sem_seg (am_sm am_MT d) m_Hi_init 1 62 [] [] h).trans ?_
  rfl
set_option maxRecDepth 100000 in
theorem e_Hi_build (d : Nat) (h : am_H) (r0 : Nat) (r1 : Nat) (r2 : Nat) : f_Hi_build d h r0 r1 r2 = (
    am_ck h r0 0 <|
    am_ck (am_sI h r0 0 0) r0 0 <|
    f_Hi_build_12 d (am_sI (am_sI h r0 0 0) r0 1 0) r0 r1 r2 0) := by
  refine (am_sem_seg (am_sm am_MT d) m_Hi_build 8 0 [(0, .ref r0), (1, .ref r1), (2, .ref r2)] [] h).trans ?_
  rfl
set_option maxRecDepth 100000 in
theorem e_Hi_build_12 (d : Nat) (h : am_H) (r0 : Nat) (r1 : Nat) (r2 : Nat) (i3 : Int32) : f_Hi_build_12 (d + 1) h r0 r1 r2 i3 = (
    am_gp h r1 2 0 fun p_1 =>
    am_gi h p_1 6 2 fun x_2 =>
    if x_2 ≤ i3 then
      f_Hi_build_99 (d + 1) h r0 r2 0
    else
    am_gp h r1 2 2 fun p_3 =>
    am_ar h 9 p_3 i3 fun j_4 =>
    am_ck h r2 5 <| am_ci (f_Sa_isVoid d h r2 (am_I h p_3 j_4)) fun x_6 h_5 =>
    if x_6 = 0 then
      am_ck h_5 r2 5 <| am_ci (f_Sa_isBelow d h_5 r2 0 (am_I h p_3 j_4)) fun x_8 h_7 =>
      if x_8 = 0 then
        am_ck h_7 r0 0 <| am_cv (f_Hi_place d h_7 r0 r2 i3 (am_I h p_3 j_4)) fun h_9 =>
        f_Hi_build_12 (d + 1) h_9 r0 r1 r2 (i3 + 1)
      else
      am_gp h_7 r0 0 2 fun p_10 =>
      am_ar h_7 9 p_10 i3 fun j_11 =>
      f_Hi_build_12 (d + 1) (am_sI h_7 p_10 j_11 (-2)) r0 r1 r2 (i3 + 1)
    else
    am_gi h_5 r0 0 1 fun x_12 =>
    am_ck h_5 r0 0 <|
    am_gp (am_sI h_5 r0 1 (x_12 ||| (am_ishl 1 i3))) r0 0 2 fun p_13 =>
    am_ar (am_sI h_5 r0 1 (x_12 ||| (am_ishl 1 i3))) 9 p_13 i3 fun j_14 =>
    f_Hi_build_12 (d + 1) (am_sI (am_sI h_5 r0 1 (x_12 ||| (am_ishl 1 i3))) p_13 j_14 (-1)) r0 r1 r2 (i3 + 1)) := by
  refine (am_sem_seg (am_sm am_MT (d + 1)) m_Hi_build 30 12 [(0, .ref r0), (1, .ref r1), (2, .ref r2), (3, .int i3)] [] h).trans ?_
  rfl
set_option maxRecDepth 100000 in
theorem e_Hi_build_99 (d : Nat) (h : am_H) (r0 : Nat) (r2 : Nat) (i3 : Int32) : f_Hi_build_99 (d + 1) h r0 r2 i3 = (
    am_gi h r0 0 0 fun x_1 =>
    if x_1 ≤ i3 then
      am_ck h r0 0 <| am_cv (f_Hi_layParents d h r0) fun h_2 =>
      some (.inr none, h_2)
    else
    am_gp h r0 0 5 fun p_3 =>
    am_ar h 9 p_3 i3 fun j_4 =>
    f_Hi_build_117 (d + 1) (am_sI h p_3 j_4 0) r0 r2 i3 0) := by
  refine (am_sem_seg (am_sm am_MT (d + 1)) m_Hi_build 11 99 [(0, .ref r0), (2, .ref r2), (3, .int i3)] [] h).trans ?_
  rfl
set_option maxRecDepth 100000 in
theorem e_Hi_build_117 (d : Nat) (h : am_H) (r0 : Nat) (r2 : Nat) (i3 : Int32) (i4 : Int32) : f_Hi_build_117 (d + 1) h r0 r2 i3 i4 = (
    am_gi h r0 0 0 fun x_1 =>
    if x_1 ≤ i4 then
      f_Hi_build_99 (d + 1) h r0 r2 (i3 + 1)
    else
    if i4 = i3 then
      f_Hi_build_117 (d + 1) h r0 r2 i3 (i4 + 1)
    else
    am_gp h r0 0 3 fun p_2 =>
    am_ar h 9 p_2 i3 fun j_3 =>
    am_gp h r0 0 3 fun p_4 =>
    am_ar h 9 p_4 i4 fun j_5 =>
    am_ck h r2 5 <| am_ci (f_Sa_isBelow d h r2 (am_I h p_2 j_3) (am_I h p_4 j_5)) fun x_7 h_6 =>
    if x_7 = 0 then
      f_Hi_build_117 (d + 1) h_6 r0 r2 i3 (i4 + 1)
    else
    am_gp h_6 r0 0 5 fun p_8 =>
    am_ar h_6 9 p_8 i3 fun j_9 =>
    am_ar h_6 9 p_8 i3 fun j_10 =>
    f_Hi_build_117 (d + 1) (am_sI h_6 p_8 j_10 ((am_I h_6 p_8 j_9) ||| (am_ishl 1 i4))) r0 r2 i3 (i4 + 1)) := by
  refine (am_sem_seg (am_sm am_MT (d + 1)) m_Hi_build 30 117 [(0, .ref r0), (2, .ref r2), (3, .int i3), (4, .int i4)] [] h).trans ?_
  rfl
set_option maxRecDepth 100000 in
theorem e_Hi_place (d : Nat) (h : am_H) (r0 : Nat) (r1 : Nat) (i2 : Int32) (i3 : Int32) : f_Hi_place d h r0 r1 i2 i3 = (
    f_Hi_place_3 d h r0 r1 i2 i3 0) := by
  refine (am_sem_seg (am_sm am_MT d) m_Hi_place 2 0 [(0, .ref r0), (1, .ref r1), (2, .int i2), (3, .int i3)] [] h).trans ?_
  rfl
set_option maxRecDepth 100000 in
theorem e_Hi_place_3 (d : Nat) (h : am_H) (r0 : Nat) (r1 : Nat) (i2 : Int32) (i3 : Int32) (i4 : Int32) : f_Hi_place_3 (d + 1) h r0 r1 i2 i3 i4 = (
    am_gi h r0 0 0 fun x_1 =>
    if x_1 ≤ i4 then
      f_Hi_place_48 (d + 1) h r0 i2 i3 i4
    else
    am_gp h r0 0 3 fun p_2 =>
    am_ar h 9 p_2 i4 fun j_3 =>
    am_ck h r1 5 <| am_ci (f_Sa_isBelow d h r1 i3 (am_I h p_2 j_3)) fun x_5 h_4 =>
    if x_5 = 0 then
      f_Hi_place_3 (d + 1) h_4 r0 r1 i2 i3 (i4 + 1)
    else
    am_gp h_4 r0 0 3 fun p_6 =>
    am_ar h_4 9 p_6 i4 fun j_7 =>
    am_ck h_4 r1 5 <| am_ci (f_Sa_isBelow d h_4 r1 (am_I h_4 p_6 j_7) i3) fun x_9 h_8 =>
    if x_9 = 0 then
      f_Hi_place_3 (d + 1) h_8 r0 r1 i2 i3 (i4 + 1)
    else
    f_Hi_place_48 (d + 1) h_8 r0 i2 i3 i4) := by
  refine (am_sem_seg (am_sm am_MT (d + 1)) m_Hi_place 22 3 [(0, .ref r0), (1, .ref r1), (2, .int i2), (3, .int i3), (4, .int i4)] [] h).trans ?_
  rfl
set_option maxRecDepth 100000 in
theorem e_Hi_place_48 (d : Nat) (h : am_H) (r0 : Nat) (i2 : Int32) (i3 : Int32) (i4 : Int32) : f_Hi_place_48 d h r0 i2 i3 i4 = (
    am_gi h r0 0 0 fun x_1 =>
    if i4 = x_1 then
      am_gp h r0 0 3 fun p_2 =>
      am_ar h 9 p_2 i4 fun j_3 =>
      am_gp (am_sI h p_2 j_3 i3) r0 0 4 fun p_4 =>
      am_ar (am_sI h p_2 j_3 i3) 9 p_4 i4 fun j_5 =>
      am_gi (am_sI (am_sI h p_2 j_3 i3) p_4 j_5 0) r0 0 0 fun x_6 =>
      am_ck (am_sI (am_sI h p_2 j_3 i3) p_4 j_5 0) r0 0 <|
      am_gp (am_sI (am_sI (am_sI h p_2 j_3 i3) p_4 j_5 0) r0 0 (x_6 + 1)) r0 0 4 fun p_7 =>
      am_ar (am_sI (am_sI (am_sI h p_2 j_3 i3) p_4 j_5 0) r0 0 (x_6 + 1)) 9 p_7 i4 fun j_8 =>
      am_ar (am_sI (am_sI (am_sI h p_2 j_3 i3) p_4 j_5 0) r0 0 (x_6 + 1)) 9 p_7 i4 fun j_9 =>
      am_gp (am_sI (am_sI (am_sI (am_sI h p_2 j_3 i3) p_4 j_5 0) r0 0 (x_6 + 1)) p_7 j_9 ((am_I (am_sI (am_sI (am_sI h p_2 j_3 i3) p_4 j_5 0) r0 0 (x_6 + 1)) p_7 j_8) ||| (am_ishl 1 i2))) r0 0 2 fun p_10 =>
      am_ar (am_sI (am_sI (am_sI (am_sI h p_2 j_3 i3) p_4 j_5 0) r0 0 (x_6 + 1)) p_7 j_9 ((am_I (am_sI (am_sI (am_sI h p_2 j_3 i3) p_4 j_5 0) r0 0 (x_6 + 1)) p_7 j_8) ||| (am_ishl 1 i2))) 9 p_10 i2 fun j_11 =>
      some (.inr none, (am_sI (am_sI (am_sI (am_sI (am_sI h p_2 j_3 i3) p_4 j_5 0) r0 0 (x_6 + 1)) p_7 j_9 ((am_I (am_sI (am_sI (am_sI h p_2 j_3 i3) p_4 j_5 0) r0 0 (x_6 + 1)) p_7 j_8) ||| (am_ishl 1 i2))) p_10 j_11 i4))
    else
    am_gp h r0 0 4 fun p_12 =>
    am_ar h 9 p_12 i4 fun j_13 =>
    am_ar h 9 p_12 i4 fun j_14 =>
    am_gp (am_sI h p_12 j_14 ((am_I h p_12 j_13) ||| (am_ishl 1 i2))) r0 0 2 fun p_15 =>
    am_ar (am_sI h p_12 j_14 ((am_I h p_12 j_13) ||| (am_ishl 1 i2))) 9 p_15 i2 fun j_16 =>
    some (.inr none, (am_sI (am_sI h p_12 j_14 ((am_I h p_12 j_13) ||| (am_ishl 1 i2))) p_15 j_16 i4))) := by
  refine (am_sem_seg (am_sm am_MT d) m_Hi_place 36 48 [(0, .ref r0), (2, .int i2), (3, .int i3), (4, .int i4)] [] h).trans ?_
  rfl
set_option maxRecDepth 100000 in
theorem e_Hi_layParents (d : Nat) (h : am_H) (r0 : Nat) : f_Hi_layParents d h r0 = (
    f_Hi_layParents_2 d h r0 0) := by
  refine (am_sem_seg (am_sm am_MT d) m_Hi_layParents 2 0 [(0, .ref r0)] [] h).trans ?_
  rfl
set_option maxRecDepth 100000 in
theorem e_Hi_layParents_2 (d : Nat) (h : am_H) (r0 : Nat) (i1 : Int32) : f_Hi_layParents_2 d h r0 i1 = (
    am_gi h r0 0 0 fun x_1 =>
    if x_1 ≤ i1 then
      some (.inr none, h)
    else
    f_Hi_layParents_14 d h r0 i1 0 0) := by
  refine (am_sem_seg (am_sm am_MT d) m_Hi_layParents 8 2 [(0, .ref r0), (1, .int i1)] [] h).trans ?_
  rfl
set_option maxRecDepth 100000 in
theorem e_Hi_layParents_14 (d : Nat) (h : am_H) (r0 : Nat) (i1 : Int32) (i2 : Int32) (i3 : Int32) : f_Hi_layParents_14 d h r0 i1 i2 i3 = (
    am_gi h r0 0 0 fun x_1 =>
    if x_1 ≤ i3 then
      am_gp h r0 0 6 fun p_2 =>
      am_gp h r0 0 5 fun p_3 =>
      am_ar h 9 p_3 i1 fun j_4 =>
      am_ar h 9 p_2 i1 fun j_5 =>
      f_Hi_layParents_2 d (am_sI h p_2 j_5 ((am_I h p_3 j_4) &&& (i2 ^^^ (-1)))) r0 (i1 + 1)
    else
    am_gp h r0 0 5 fun p_6 =>
    am_ar h 9 p_6 i1 fun j_7 =>
    if ((am_iushr (am_I h p_6 j_7) i3) &&& 1) = 0 then
      f_Hi_layParents_14 d h r0 i1 i2 (i3 + 1)
    else
    am_gp h r0 0 5 fun p_8 =>
    am_ar h 9 p_8 i3 fun j_9 =>
    f_Hi_layParents_14 d h r0 i1 (i2 ||| (am_I h p_8 j_9)) (i3 + 1)) := by
  refine (am_sem_seg (am_sm am_MT d) m_Hi_layParents 22 14 [(0, .ref r0), (1, .int i1), (2, .int i2), (3, .int i3)] [] h).trans ?_
  rfl
set_option maxRecDepth 100000 in
theorem e_Hi_childrenOf (d : Nat) (h : am_H) (r0 : Nat) (i1 : Int32) : f_Hi_childrenOf d h r0 i1 = (
    f_Hi_childrenOf_4 d h r0 i1 0 0) := by
  refine (am_sem_seg (am_sm am_MT d) m_Hi_childrenOf 4 0 [(0, .ref r0), (1, .int i1)] [] h).trans ?_
  rfl
set_option maxRecDepth 100000 in
theorem e_Hi_childrenOf_4 (d : Nat) (h : am_H) (r0 : Nat) (i1 : Int32) (i2 : Int32) (i3 : Int32) : f_Hi_childrenOf_4 d h r0 i1 i2 i3 = (
    am_gi h r0 0 0 fun x_1 =>
    if x_1 ≤ i3 then
      some (.inr (some (.int i2)), h)
    else
    am_gp h r0 0 6 fun p_2 =>
    am_ar h 9 p_2 i3 fun j_3 =>
    f_Hi_childrenOf_4 d h r0 i1 (i2 ||| (am_ishl ((am_iushr (am_I h p_2 j_3) i1) &&& 1) i3)) (i3 + 1)) := by
  refine (am_sem_seg (am_sm am_MT d) m_Hi_childrenOf 19 4 [(0, .ref r0), (1, .int i1), (2, .int i2), (3, .int i3)] [] h).trans ?_
  rfl
set_option maxRecDepth 100000 in
theorem e_Hi_allUnder (d : Nat) (h : am_H) (r0 : Nat) (i1 : Int32) : f_Hi_allUnder d h r0 i1 = (
    f_Hi_allUnder_4 d h r0 i1 0 0) := by
  refine (am_sem_seg (am_sm am_MT d) m_Hi_allUnder 4 0 [(0, .ref r0), (1, .int i1)] [] h).trans ?_
  rfl
set_option maxRecDepth 100000 in
theorem e_Hi_allUnder_4 (d : Nat) (h : am_H) (r0 : Nat) (i1 : Int32) (i2 : Int32) (i3 : Int32) : f_Hi_allUnder_4 d h r0 i1 i2 i3 = (
    am_gi h r0 0 0 fun x_1 =>
    if x_1 ≤ i3 then
      some (.inr (some (.int i2)), h)
    else
    am_gp h r0 0 5 fun p_2 =>
    am_ar h 9 p_2 i3 fun j_3 =>
    f_Hi_allUnder_4 d h r0 i1 (i2 ||| (am_ishl ((am_iushr (am_I h p_2 j_3) i1) &&& 1) i3)) (i3 + 1)) := by
  refine (am_sem_seg (am_sm am_MT d) m_Hi_allUnder 19 4 [(0, .ref r0), (1, .int i1), (2, .int i2), (3, .int i3)] [] h).trans ?_
  rfl
set_option maxRecDepth 100000 in
theorem e_Hi_depth (d : Nat) (h : am_H) (r0 : Nat) (i1 : Int32) : f_Hi_depth (d + 1) h r0 i1 = (
    am_gp h r0 0 7 fun p_1 =>
    am_cv (f_Ar_fillI d h p_1 1) fun h_2 =>
    f_Hi_depth_10 (d + 1) h_2 r0 i1 0) := by
  refine (am_sem_seg (am_sm am_MT (d + 1)) m_Hi_depth 6 0 [(0, .ref r0), (1, .int i1)] [] h).trans ?_
  rfl
set_option maxRecDepth 100000 in
theorem e_Hi_depth_10 (d : Nat) (h : am_H) (r0 : Nat) (i1 : Int32) (i2 : Int32) : f_Hi_depth_10 d h r0 i1 i2 = (
    am_gi h r0 0 0 fun x_1 =>
    if x_1 ≤ i2 then
      am_gp h r0 0 7 fun p_2 =>
      am_ar h 9 p_2 i1 fun j_3 =>
      some (.inr (some (.int (am_I h p_2 j_3))), h)
    else
    f_Hi_depth_20 d h r0 i1 i2 0) := by
  refine (am_sem_seg (am_sm am_MT d) m_Hi_depth 9 10 [(0, .ref r0), (1, .int i1), (2, .int i2)] [] h).trans ?_
  rfl
set_option maxRecDepth 100000 in
theorem e_Hi_depth_20 (d : Nat) (h : am_H) (r0 : Nat) (i1 : Int32) (i2 : Int32) (i3 : Int32) : f_Hi_depth_20 d h r0 i1 i2 i3 = (
    am_gi h r0 0 0 fun x_1 =>
    if x_1 ≤ i3 then
      f_Hi_depth_10 d h r0 i1 (i2 + 1)
    else
    f_Hi_depth_31 d h r0 i1 i2 i3 0) := by
  refine (am_sem_seg (am_sm am_MT d) m_Hi_depth 6 20 [(0, .ref r0), (1, .int i1), (2, .int i2), (3, .int i3)] [] h).trans ?_
  rfl
set_option maxRecDepth 100000 in
theorem e_Hi_depth_31 (d : Nat) (h : am_H) (r0 : Nat) (i1 : Int32) (i2 : Int32) (i3 : Int32) (i4 : Int32) : f_Hi_depth_31 d h r0 i1 i2 i3 i4 = (
    am_gi h r0 0 0 fun x_1 =>
    if x_1 ≤ i4 then
      f_Hi_depth_20 d h r0 i1 i2 (i3 + 1)
    else
    am_gp h r0 0 6 fun p_2 =>
    am_ar h 9 p_2 i3 fun j_3 =>
    if ((am_iushr (am_I h p_2 j_3) i4) &&& 1) = 0 then
      f_Hi_depth_31 d h r0 i1 i2 i3 (i4 + 1)
    else
    am_gp h r0 0 7 fun p_4 =>
    am_ar h 9 p_4 i3 fun j_5 =>
    am_gp h r0 0 7 fun p_6 =>
    am_ar h 9 p_6 i4 fun j_7 =>
    if (am_I h p_6 j_7) < (am_I h p_4 j_5) then
      f_Hi_depth_31 d h r0 i1 i2 i3 (i4 + 1)
    else
    am_gp h r0 0 7 fun p_8 =>
    am_gp h r0 0 7 fun p_9 =>
    am_ar h 9 p_9 i4 fun j_10 =>
    am_ar h 9 p_8 i3 fun j_11 =>
    f_Hi_depth_31 d (am_sI h p_8 j_11 ((am_I h p_9 j_10) + 1)) r0 i1 i2 i3 (i4 + 1)) := by
  refine (am_sem_seg (am_sm am_MT d) m_Hi_depth 34 31 [(0, .ref r0), (1, .int i1), (2, .int i2), (3, .int i3), (4, .int i4)] [] h).trans ?_
  rfl
set_option maxRecDepth 100000 in
theorem e_Hi_commonOf (d : Nat) (h : am_H) (r0 : Nat) (i1 : Int32) (i2 : Int32) : f_Hi_commonOf (d + 1) h r0 i1 i2 = (
    am_ck h r0 0 <| am_ci (f_Hi_nodesOver d h r0 i1) fun x_2 h_1 =>
    am_ck h_1 r0 0 <| am_ci (f_Hi_nodesOver d h_1 r0 i2) fun x_4 h_3 =>
    f_Hi_commonOf_18 (d + 1) h_3 r0 (x_2 &&& x_4) 0 0) := by
  refine (am_sem_seg (am_sm am_MT (d + 1)) m_Hi_commonOf 12 0 [(0, .ref r0), (1, .int i1), (2, .int i2)] [] h).trans ?_
  rfl
set_option maxRecDepth 100000 in
theorem e_Hi_commonOf_18 (d : Nat) (h : am_H) (r0 : Nat) (i3 : Int32) (i4 : Int32) (i5 : Int32) : f_Hi_commonOf_18 d h r0 i3 i4 i5 = (
    am_gi h r0 0 0 fun x_1 =>
    if x_1 ≤ i5 then
      some (.inr (some (.int (i3 &&& (i4 ^^^ (-1))))), h)
    else
    if ((am_iushr i3 i5) &&& 1) = 0 then
      f_Hi_commonOf_18 d h r0 i3 i4 (i5 + 1)
    else
    am_gp h r0 0 5 fun p_2 =>
    am_ar h 9 p_2 i5 fun j_3 =>
    f_Hi_commonOf_18 d h r0 i3 (i4 ||| (am_I h p_2 j_3)) (i5 + 1)) := by
  refine (am_sem_seg (am_sm am_MT d) m_Hi_commonOf 19 18 [(0, .ref r0), (3, .int i3), (4, .int i4), (5, .int i5)] [] h).trans ?_
  rfl
set_option maxRecDepth 100000 in
theorem e_Hi_nodesOver (d : Nat) (h : am_H) (r0 : Nat) (i1 : Int32) : f_Hi_nodesOver d h r0 i1 = (
    am_gp h r0 0 2 fun p_1 =>
    am_ar h 9 p_1 i1 fun j_2 =>
    if 0 ≤ (am_I h p_1 j_2) then
      am_gp h r0 0 5 fun p_3 =>
      am_ar h 9 p_3 (am_I h p_1 j_2) fun j_4 =>
      some (.inr (some (.int ((am_I h p_3 j_4) ||| (am_ishl 1 (am_I h p_1 j_2))))), h)
    else
    some (.inr (some (.int 0)), h)) := by
  refine (am_sem_seg (am_sm am_MT d) m_Hi_nodesOver 16 0 [(0, .ref r0), (1, .int i1)] [] h).trans ?_
  rfl
set_option maxRecDepth 100000 in
theorem e_Rs_init (d : Nat) (h : am_H) (r0 : Nat) (r1 : Nat) : f_Rs_init d h r0 r1 = (
    bif Nat.beq (am_G h) 0 && !(decide ((5 : Int32) < 0)) && Nat.ble (Int32.toNatClampNeg 5) 60000000 then
      am_ck (am_nw h (10, Int32.toNatClampNeg 5)) r0 4 <|
      f_Rs_init_11 d (am_sP (am_nw h (10, Int32.toNatClampNeg 5)) r0 0 (some (am_S h).length)) r0 r1
    else none) := by
  refine (am_sem_seg (am_sm am_MT d) m_Rs_init 6 0 [(0, .ref r0), (1, .ref r1)] [] h).trans ?_
  rfl
set_option maxRecDepth 100000 in
theorem e_Rs_init_11 (d : Nat) (h : am_H) (r0 : Nat) (r1 : Nat) : f_Rs_init_11 d h r0 r1 = (
    am_ck h r0 4 <|
    f_Rs_init_16 d (am_sI h r0 1 0) r0 r1) := by
  refine (am_sem_seg (am_sm am_MT d) m_Rs_init 3 11 [(0, .ref r0), (1, .ref r1)] [] h).trans ?_
  rfl
set_option maxRecDepth 100000 in
theorem e_Rs_init_16 (d : Nat) (h : am_H) (r0 : Nat) (r1 : Nat) : f_Rs_init_16 d h r0 r1 = (
    am_01 0 <| am_ck h r0 4 <|
    f_Rs_init_21 d (am_sI h r0 2 0) r0 r1) := by
  refine (am_sem_seg (am_sm am_MT d) m_Rs_init 3 16 [(0, .ref r0), (1, .ref r1)] [] h).trans ?_
  rfl
set_option maxRecDepth 100000 in
theorem e_Rs_init_21 (d : Nat) (h : am_H) (r0 : Nat) (r1 : Nat) : f_Rs_init_21 d h r0 r1 = (
    am_ck h r0 4 <|
    f_Rs_init_26 d (am_sI h r0 5 (-1)) r0 r1) := by
  refine (am_sem_seg (am_sm am_MT d) m_Rs_init 3 21 [(0, .ref r0), (1, .ref r1)] [] h).trans ?_
  rfl
set_option maxRecDepth 100000 in
theorem e_Rs_init_26 (d : Nat) (h : am_H) (r0 : Nat) (r1 : Nat) : f_Rs_init_26 d h r0 r1 = (
    am_ck h r0 4 <|
    f_Rs_init_31 d (am_sI h r0 6 (-1)) r0 r1) := by
  refine (am_sem_seg (am_sm am_MT d) m_Rs_init 3 26 [(0, .ref r0), (1, .ref r1)] [] h).trans ?_
  rfl
set_option maxRecDepth 100000 in
theorem e_Rs_init_31 (d : Nat) (h : am_H) (r0 : Nat) (r1 : Nat) : f_Rs_init_31 d h r0 r1 = (
    am_01 0 <| am_ck h r0 4 <|
    f_Rs_init_36 d (am_sI h r0 7 0) r0 r1) := by
  refine (am_sem_seg (am_sm am_MT d) m_Rs_init 3 31 [(0, .ref r0), (1, .ref r1)] [] h).trans ?_
  rfl
set_option maxRecDepth 100000 in
theorem e_Rs_init_36 (d : Nat) (h : am_H) (r0 : Nat) (r1 : Nat) : f_Rs_init_36 d h r0 r1 = (
    am_01 0 <| am_ck h r0 4 <|
    f_Rs_init_41 d (am_sI h r0 8 0) r0 r1) := by
  refine (am_sem_seg (am_sm am_MT d) m_Rs_init 3 36 [(0, .ref r0), (1, .ref r1)] [] h).trans ?_
  rfl
set_option maxRecDepth 100000 in
theorem e_Rs_init_41 (d : Nat) (h : am_H) (r0 : Nat) (r1 : Nat) : f_Rs_init_41 d h r0 r1 = (
    am_ck h r0 4 <|
    f_Rs_init_46 d (am_sL h r0 9 0) r0 r1) := by
  refine (am_sem_seg (am_sm am_MT d) m_Rs_init 3 41 [(0, .ref r0), (1, .ref r1)] [] h).trans ?_
  rfl
set_option maxRecDepth 100000 in
theorem e_Rs_init_46 (d : Nat) (h : am_H) (r0 : Nat) (r1 : Nat) : f_Rs_init_46 d h r0 r1 = (
    am_ck h r0 4 <|
    f_Rs_init_51 d (am_sP h r0 3 (some r1)) r0 r1) := by
  refine (am_sem_seg (am_sm am_MT d) m_Rs_init 3 46 [(0, .ref r0), (1, .ref r1)] [] h).trans ?_
  rfl
set_option maxRecDepth 100000 in
theorem e_Rs_init_51 (d : Nat) (h : am_H) (r0 : Nat) (r1 : Nat) : f_Rs_init_51 d h r0 r1 = (
    am_gp h r1 5 0 fun p_1 =>
    am_ck h r0 4 <|
    f_Rs_init_59 d (am_sP h r0 4 (some p_1))) := by
  refine (am_sem_seg (am_sm am_MT d) m_Rs_init 4 51 [(0, .ref r0), (1, .ref r1)] [] h).trans ?_
  rfl
set_option maxRecDepth 100000 in
theorem e_Rs_init_59 (d : Nat) (h : am_H) : f_Rs_init_59 d h = (
    some (.inr none, h)) := by
  refine (am_sem_seg (am_sm am_MT d) m_Rs_init 1 59 [] [] h).trans ?_
  rfl
set_option maxRecDepth 100000 in
theorem e_Rs_forget (d : Nat) (h : am_H) (r0 : Nat) : f_Rs_forget d h r0 = (
    am_01 0 <| am_ck h r0 4 <|
    some (.inr none, (am_sI h r0 7 0))) := by
  refine (am_sem_seg (am_sm am_MT d) m_Rs_forget 4 0 [(0, .ref r0)] [] h).trans ?_
  rfl
set_option maxRecDepth 100000 in
theorem e_Rs_aim (d : Nat) (h : am_H) (r0 : Nat) (r1 : Nat) (i2 : Int32) (i3 : Int32) : f_Rs_aim d h r0 r1 i2 i3 = (
    am_gi h r0 4 7 fun x_1 =>
    if x_1 = 0 then
      f_Rs_aim_24 d h r0 r1 i2 i3
    else
    am_gi h r0 4 5 fun x_2 =>
    if i2 = x_2 then
      am_gi h r0 4 6 fun x_3 =>
      if i3 = x_3 then
        some (.inr none, h)
      else
      f_Rs_aim_24 d h r0 r1 i2 i3
    else
    f_Rs_aim_24 d h r0 r1 i2 i3) := by
  refine (am_sem_seg (am_sm am_MT d) m_Rs_aim 12 0 [(0, .ref r0), (1, .ref r1), (2, .int i2), (3, .int i3)] [] h).trans ?_
  rfl
set_option maxRecDepth 100000 in
theorem e_Rs_aim_24 (d : Nat) (h : am_H) (r0 : Nat) (r1 : Nat) (i2 : Int32) (i3 : Int32) : f_Rs_aim_24 (d + 1) h r0 r1 i2 i3 = (
    am_ck h r0 4 <|
    am_ck (am_sP h r0 4 (some r1)) r0 4 <|
    am_ck (am_sI (am_sP h r0 4 (some r1)) r0 5 i2) r0 4 <|
    am_gp (am_sI (am_sI (am_sP h r0 4 (some r1)) r0 5 i2) r0 6 i3) r0 4 3 fun p_1 =>
    am_gl (am_sI (am_sI (am_sP h r0 4 (some r1)) r0 5 i2) r0 6 i3) r1 2 10 fun y_2 =>
    am_ck (am_sI (am_sI (am_sP h r0 4 (some r1)) r0 5 i2) r0 6 i3) p_1 5 <| am_cv (f_Sa_saturate d (am_sI (am_sI (am_sP h r0 4 (some r1)) r0 5 i2) r0 6 i3) p_1 r1 y_2 (am_lshl 1 i2)) fun h_3 =>
    am_gp h_3 r0 4 3 fun p_4 =>
    am_ck h_3 p_4 5 <| am_ci (f_Sa_isBelow d h_3 p_4 i2 i3) fun x_6 h_5 =>
    am_01 x_6 <| am_ck h_5 r0 4 <|
    am_gp (am_sI h_5 r0 8 x_6) r0 4 3 fun p_7 =>
    am_ck (am_sI h_5 r0 8 x_6) p_7 5 <| am_cl (f_Sa_usedAxioms d (am_sI h_5 r0 8 x_6) p_7) fun y_9 h_8 =>
    am_ck h_8 r0 4 <|
    am_01 1 <| am_ck (am_sL h_8 r0 9 y_9) r0 4 <|
    am_01 0 <| am_ck (am_sI (am_sL h_8 r0 9 y_9) r0 7 1) r0 4 <|
    some (.inr none, (am_sI (am_sI (am_sL h_8 r0 9 y_9) r0 7 1) r0 2 0))) := by
  refine (am_sem_seg (am_sm am_MT (d + 1)) m_Rs_aim 37 24 [(0, .ref r0), (1, .ref r1), (2, .int i2), (3, .int i3)] [] h).trans ?_
  rfl
set_option maxRecDepth 100000 in
theorem e_Rs_holds (d : Nat) (h : am_H) (r0 : Nat) (l1 : Int64) : f_Rs_holds (d + 1) h r0 l1 = (
    am_gp h r0 4 3 fun p_1 =>
    am_gp h r0 4 4 fun p_2 =>
    am_gi h r0 4 5 fun x_3 =>
    am_gi h r0 4 6 fun x_4 =>
    am_ck h p_1 5 <| am_ci (f_Sa_entails d h p_1 p_2 l1 x_3 x_4) fun x_6 h_5 =>
    am_01 x_6 (some (.inr (some (.int x_6)), h_5))) := by
  refine (am_sem_seg (am_sm am_MT (d + 1)) m_Rs_holds 11 0 [(0, .ref r0), (1, .long l1)] [] h).trans ?_
  rfl
set_option maxRecDepth 100000 in
theorem e_Rs_neededAlone (d : Nat) (h : am_H) (r0 : Nat) : f_Rs_neededAlone d h r0 = (
    f_Rs_neededAlone_4 d h r0 0 0) := by
  refine (am_sem_seg (am_sm am_MT d) m_Rs_neededAlone 4 0 [(0, .ref r0)] [] h).trans ?_
  rfl
set_option maxRecDepth 100000 in
theorem e_Rs_neededAlone_4 (d : Nat) (h : am_H) (r0 : Nat) (l1 : Int64) (i3 : Int32) : f_Rs_neededAlone_4 (d + 1) h r0 l1 i3 = (
    am_gi h r0 4 8 fun x_1 =>
    if x_1 = 0 then
      some (.inr (some (.long l1)), h)
    else
    am_gp h r0 4 4 fun p_2 =>
    am_gi h p_2 2 9 fun x_3 =>
    if x_3 ≤ i3 then
      some (.inr (some (.long l1)), h)
    else
    am_gl h r0 4 9 fun y_4 =>
    am_gl h r0 4 9 fun y_5 =>
    if (lg_cmp (y_4 &&& ((am_lshl 1 i3) ^^^ (-1))) y_5) = 0 then
      f_Rs_neededAlone_4 (d + 1) h r0 l1 (i3 + 1)
    else
    am_ck h r0 4 <| am_ci (f_Rs_holds d h r0 (y_4 &&& ((am_lshl 1 i3) ^^^ (-1)))) fun x_7 h_6 =>
    if x_7 = 0 then
      f_Rs_neededAlone_4 (d + 1) h_6 r0 (l1 ||| (am_lshl 1 i3)) (i3 + 1)
    else
    f_Rs_neededAlone_4 (d + 1) h_6 r0 l1 (i3 + 1)) := by
  refine (am_sem_seg (am_sm am_MT (d + 1)) m_Rs_neededAlone 34 4 [(0, .ref r0), (1, .long l1), (3, .int i3)] [] h).trans ?_
  rfl
set_option maxRecDepth 100000 in
theorem e_Rs_shrink (d : Nat) (h : am_H) (r0 : Nat) (l1 : Int64) : f_Rs_shrink d h r0 l1 = (
    f_Rs_shrink_5 d h r0 l1 0) := by
  refine (am_sem_seg (am_sm am_MT d) m_Rs_shrink 4 0 [(0, .ref r0), (1, .long l1)] [] h).trans ?_
  rfl
set_option maxRecDepth 100000 in
theorem e_Rs_shrink_5 (d : Nat) (h : am_H) (r0 : Nat) (l3 : Int64) (i5 : Int32) : f_Rs_shrink_5 (d + 1) h r0 l3 i5 = (
    am_gp h r0 4 4 fun p_1 =>
    am_gi h p_1 2 9 fun x_2 =>
    if x_2 ≤ i5 then
      some (.inr (some (.long l3)), h)
    else
    if (lg_cmp (l3 &&& ((am_lshl 1 i5) ^^^ (-1))) l3) = 0 then
      f_Rs_shrink_5 (d + 1) h r0 l3 (i5 + 1)
    else
    am_ck h r0 4 <| am_ci (f_Rs_holds d h r0 (l3 &&& ((am_lshl 1 i5) ^^^ (-1)))) fun x_4 h_3 =>
    if x_4 = 0 then
      f_Rs_shrink_5 (d + 1) h_3 r0 l3 (i5 + 1)
    else
    f_Rs_shrink_5 (d + 1) h_3 r0 (l3 &&& ((am_lshl 1 i5) ^^^ (-1))) (i5 + 1)) := by
  refine (am_sem_seg (am_sm am_MT (d + 1)) m_Rs_shrink 25 5 [(0, .ref r0), (3, .long l3), (5, .int i5)] [] h).trans ?_
  rfl
set_option maxRecDepth 100000 in
theorem e_Rs_findAll (d : Nat) (h : am_H) (r0 : Nat) : f_Rs_findAll d h r0 = (
    am_gi h r0 4 2 fun x_1 =>
    if x_1 = 0 then
      am_01 1 <| am_ck h r0 4 <|
      am_ck (am_sI h r0 2 1) r0 4 <|
      am_gi (am_sI (am_sI h r0 2 1) r0 1 0) r0 4 8 fun x_2 =>
      if x_2 = 0 then
        f_Rs_findAll_35 d (am_sI (am_sI h r0 2 1) r0 1 0) r0 (-1) 0
      else
      f_Rs_findAll_35 d (am_sI (am_sI h r0 2 1) r0 1 0) r0 0 0
    else
    some (.inr none, h)) := by
  refine (am_sem_seg (am_sm am_MT d) m_Rs_findAll 17 0 [(0, .ref r0)] [] h).trans ?_
  rfl
set_option maxRecDepth 100000 in
theorem e_Rs_findAll_35 (d : Nat) (h : am_H) (r0 : Nat) (l1 : Int64) (i3 : Int32) : f_Rs_findAll_35 (d + 1) h r0 l1 i3 = (
    if 4 < i3 then
      am_ck h r0 4 <| am_cv (f_Rs_sortFound d h r0) fun h_1 =>
      some (.inr none, h_1)
    else
    if (lg_cmp l1 (-1)) = 0 then
      am_ck h r0 4 <| am_cv (f_Rs_sortFound d h r0) fun h_2 =>
      some (.inr none, h_2)
    else
    am_gp h r0 4 0 fun p_3 =>
    am_gl h r0 4 9 fun y_4 =>
    am_ck h r0 4 <| am_cl (f_Rs_shrink d h r0 (y_4 &&& (l1 ^^^ (-1)))) fun y_6 h_5 =>
    am_ar h_5 10 p_3 i3 fun j_7 =>
    am_ck (am_sL h_5 p_3 j_7 y_6) r0 4 <|
    if 4 ≤ i3 then
      f_Rs_findAll_35 (d + 1) (am_sI (am_sL h_5 p_3 j_7 y_6) r0 1 (i3 + 1)) r0 (-1) (i3 + 1)
    else
    am_ck (am_sI (am_sL h_5 p_3 j_7 y_6) r0 1 (i3 + 1)) r0 4 <| am_cl (f_Rs_freeing d (am_sI (am_sL h_5 p_3 j_7 y_6) r0 1 (i3 + 1)) r0 0 0 0) fun y_9 h_8 =>
    f_Rs_findAll_35 (d + 1) h_8 r0 y_9 (i3 + 1)) := by
  refine (am_sem_seg (am_sm am_MT (d + 1)) m_Rs_findAll 36 35 [(0, .ref r0), (1, .long l1), (3, .int i3)] [] h).trans ?_
  rfl
set_option maxRecDepth 100000 in
theorem e_Rs_freeing (d : Nat) (h : am_H) (r0 : Nat) (i1 : Int32) (l2 : Int64) (l4 : Int64) : f_Rs_freeing (d + 1) h r0 i1 l2 l4 = (
    am_ck h r0 4 <| am_ci (f_Rs_hasIdle d h r0 l2) fun x_2 h_1 =>
    if x_2 = 0 then
      am_gi h_1 r0 4 1 fun x_3 =>
      if i1 < x_3 then
        am_gp h_1 r0 4 0 fun p_4 =>
        am_ar h_1 10 p_4 i1 fun j_5 =>
        if (lg_cmp ((am_L h_1 p_4 j_5) &&& l2) 0) = 0 then
          f_Rs_freeing_76 (d + 1) h_1 r0 i1 l2 l4 0
        else
        am_ck h_1 r0 4 <| am_cl (f_Rs_freeing d h_1 r0 (i1 + 1) l2 l4) fun y_7 h_6 =>
        some (.inr (some (.long y_7)), h_6)
      else
      am_gl h_1 r0 4 9 fun y_8 =>
      am_ck h_1 r0 4 <| am_ci (f_Rs_holds d h_1 r0 (y_8 &&& (l2 ^^^ (-1)))) fun x_10 h_9 =>
      if x_10 = 0 then
        some (.inr (some (.long (-1))), h_9)
      else
      some (.inr (some (.long l2)), h_9)
    else
    some (.inr (some (.long (-1))), h_1)) := by
  refine (am_sem_seg (am_sm am_MT (d + 1)) m_Rs_freeing 25 0 [(0, .ref r0), (1, .int i1), (2, .long l2), (4, .long l4)] [] h).trans ?_
  rfl
set_option maxRecDepth 100000 in
theorem e_Rs_freeing_76 (d : Nat) (h : am_H) (r0 : Nat) (i1 : Int32) (l2 : Int64) (l6 : Int64) (i8 : Int32) : f_Rs_freeing_76 (d + 1) h r0 i1 l2 l6 i8 = (
    am_gp h r0 4 4 fun p_1 =>
    am_gi h p_1 2 9 fun x_2 =>
    if x_2 ≤ i8 then
      some (.inr (some (.long (-1))), h)
    else
    am_gp h r0 4 0 fun p_3 =>
    am_ar h 10 p_3 i1 fun j_4 =>
    if (lg_cmp ((am_L h p_3 j_4) &&& (am_lshl 1 i8)) 0) = 0 then
      f_Rs_freeing_76 (d + 1) h r0 i1 l2 l6 (i8 + 1)
    else
    if (lg_cmp (l6 &&& (am_lshl 1 i8)) 0) = 0 then
      am_ck h r0 4 <| am_cl (f_Rs_freeing d h r0 (i1 + 1) (l2 ||| (am_lshl 1 i8)) l6) fun y_6 h_5 =>
      if (lg_cmp y_6 (-1)) = 0 then
        f_Rs_freeing_76 (d + 1) h_5 r0 i1 l2 (l6 ||| (am_lshl 1 i8)) (i8 + 1)
      else
      some (.inr (some (.long y_6)), h_5)
    else
    f_Rs_freeing_76 (d + 1) h r0 i1 l2 l6 (i8 + 1)) := by
  refine (am_sem_seg (am_sm am_MT (d + 1)) m_Rs_freeing 44 76 [(0, .ref r0), (1, .int i1), (2, .long l2), (6, .long l6), (8, .int i8)] [] h).trans ?_
  rfl
set_option maxRecDepth 100000 in
theorem e_Rs_hasIdle (d : Nat) (h : am_H) (r0 : Nat) (l1 : Int64) : f_Rs_hasIdle d h r0 l1 = (
    f_Rs_hasIdle_5 d h r0 l1 0 0) := by
  refine (am_sem_seg (am_sm am_MT d) m_Rs_hasIdle 4 0 [(0, .ref r0), (1, .long l1)] [] h).trans ?_
  rfl
set_option maxRecDepth 100000 in
theorem e_Rs_hasIdle_5 (d : Nat) (h : am_H) (r0 : Nat) (l1 : Int64) (l3 : Int64) (i5 : Int32) : f_Rs_hasIdle_5 d h r0 l1 l3 i5 = (
    am_gi h r0 4 1 fun x_1 =>
    if x_1 ≤ i5 then
      if (lg_cmp l3 l1) = 0 then
        am_01 0 (some (.inr (some (.int 0)), h))
      else
      am_01 1 (some (.inr (some (.int 1)), h))
    else
    am_gp h r0 4 0 fun p_2 =>
    am_ar h 10 p_2 i5 fun j_3 =>
    if (lg_cmp (((am_L h p_2 j_3) &&& l1) &&& (((am_L h p_2 j_3) &&& l1) - 1)) 0) = 0 then
      f_Rs_hasIdle_5 d h r0 l1 (l3 ||| ((am_L h p_2 j_3) &&& l1)) (i5 + 1)
    else
    f_Rs_hasIdle_5 d h r0 l1 l3 (i5 + 1)) := by
  refine (am_sem_seg (am_sm am_MT d) m_Rs_hasIdle 25 5 [(0, .ref r0), (1, .long l1), (3, .long l3), (5, .int i5)] [] h).trans ?_
  rfl
set_option maxRecDepth 100000 in
theorem e_Rs_sortFound (d : Nat) (h : am_H) (r0 : Nat) : f_Rs_sortFound d h r0 = (
    f_Rs_sortFound_2 d h r0 1) := by
  refine (am_sem_seg (am_sm am_MT d) m_Rs_sortFound 2 0 [(0, .ref r0)] [] h).trans ?_
  rfl
set_option maxRecDepth 100000 in
theorem e_Rs_sortFound_2 (d : Nat) (h : am_H) (r0 : Nat) (i1 : Int32) : f_Rs_sortFound_2 d h r0 i1 = (
    am_gi h r0 4 1 fun x_1 =>
    if x_1 ≤ i1 then
      some (.inr none, h)
    else
    f_Rs_sortFound_12 d h r0 i1 i1) := by
  refine (am_sem_seg (am_sm am_MT d) m_Rs_sortFound 6 2 [(0, .ref r0), (1, .int i1)] [] h).trans ?_
  rfl
set_option maxRecDepth 100000 in
theorem e_Rs_sortFound_12 (d : Nat) (h : am_H) (r0 : Nat) (i1 : Int32) (i2 : Int32) : f_Rs_sortFound_12 d h r0 i1 i2 = (
    if i2 ≤ 0 then
      f_Rs_sortFound_2 d h r0 (i1 + 1)
    else
    am_gp h r0 4 0 fun p_1 =>
    am_ar h 10 p_1 i2 fun j_2 =>
    am_gp h r0 4 0 fun p_3 =>
    am_ar h 10 p_3 (i2 - 1) fun j_4 =>
    if 0 ≤ (lg_cmp (am_L h p_1 j_2) (am_L h p_3 j_4)) then
      f_Rs_sortFound_2 d h r0 (i1 + 1)
    else
    am_gp h r0 4 0 fun p_5 =>
    am_ar h 10 p_5 (i2 - 1) fun j_6 =>
    am_gp h r0 4 0 fun p_7 =>
    am_gp h r0 4 0 fun p_8 =>
    am_ar h 10 p_8 i2 fun j_9 =>
    am_ar h 10 p_7 (i2 - 1) fun j_10 =>
    am_gp (am_sL h p_7 j_10 (am_L h p_8 j_9)) r0 4 0 fun p_11 =>
    am_ar (am_sL h p_7 j_10 (am_L h p_8 j_9)) 10 p_11 i2 fun j_12 =>
    f_Rs_sortFound_12 d (am_sL (am_sL h p_7 j_10 (am_L h p_8 j_9)) p_11 j_12 (am_L h p_5 j_6)) r0 i1 (i2 + (-1))) := by
  refine (am_sem_seg (am_sm am_MT d) m_Rs_sortFound 38 12 [(0, .ref r0), (1, .int i1), (2, .int i2)] [] h).trans ?_
  rfl
set_option maxRecDepth 100000 in
theorem e_Rs_leastCut (d : Nat) (h : am_H) (r0 : Nat) : f_Rs_leastCut d h r0 = (
    f_Rs_leastCut_2 d h r0 1) := by
  refine (am_sem_seg (am_sm am_MT d) m_Rs_leastCut 2 0 [(0, .ref r0)] [] h).trans ?_
  rfl
set_option maxRecDepth 100000 in
theorem e_Rs_leastCut_2 (d : Nat) (h : am_H) (r0 : Nat) (i1 : Int32) : f_Rs_leastCut_2 (d + 1) h r0 i1 = (
    if 4 < i1 then
      some (.inr (some (.long (-1))), h)
    else
    am_ck h r0 4 <| am_cl (f_Rs_cutOf d h r0 0 i1 0) fun y_2 h_1 =>
    if (lg_cmp y_2 (-1)) = 0 then
      f_Rs_leastCut_2 (d + 1) h_1 r0 (i1 + 1)
    else
    some (.inr (some (.long y_2)), h_1)) := by
  refine (am_sem_seg (am_sm am_MT (d + 1)) m_Rs_leastCut 15 2 [(0, .ref r0), (1, .int i1)] [] h).trans ?_
  rfl
set_option maxRecDepth 100000 in
theorem e_Rs_cutOf (d : Nat) (h : am_H) (r0 : Nat) (i1 : Int32) (i2 : Int32) (l3 : Int64) : f_Rs_cutOf (d + 1) h r0 i1 i2 l3 = (
    am_gi h r0 4 1 fun x_1 =>
    if i1 < x_1 then
      am_gp h r0 4 0 fun p_2 =>
      am_ar h 10 p_2 i1 fun j_3 =>
      if (lg_cmp ((am_L h p_2 j_3) &&& l3) 0) = 0 then
        f_Rs_cutOf_41 (d + 1) h r0 i1 i2 l3 (-1) 0
      else
      am_ck h r0 4 <| am_cl (f_Rs_cutOf d h r0 (i1 + 1) i2 l3) fun y_5 h_4 =>
      some (.inr (some (.long y_5)), h_4)
    else
    some (.inr (some (.long l3)), h)) := by
  refine (am_sem_seg (am_sm am_MT (d + 1)) m_Rs_cutOf 21 0 [(0, .ref r0), (1, .int i1), (2, .int i2), (3, .long l3)] [] h).trans ?_
  rfl
set_option maxRecDepth 100000 in
theorem e_Rs_cutOf_41 (d : Nat) (h : am_H) (r0 : Nat) (i1 : Int32) (i2 : Int32) (l3 : Int64) (l5 : Int64) (i7 : Int32) : f_Rs_cutOf_41 (d + 1) h r0 i1 i2 l3 l5 i7 = (
    if i2 ≤ 0 then
      some (.inr (some (.long l5)), h)
    else
    am_gp h r0 4 4 fun p_1 =>
    am_gi h p_1 2 9 fun x_2 =>
    if x_2 ≤ i7 then
      some (.inr (some (.long l5)), h)
    else
    am_gp h r0 4 0 fun p_3 =>
    am_ar h 10 p_3 i1 fun j_4 =>
    if (lg_cmp ((am_lushr (am_L h p_3 j_4) i7) &&& 1) 0) = 0 then
      f_Rs_cutOf_41 (d + 1) h r0 i1 i2 l3 l5 (i7 + 1)
    else
    am_ck h r0 4 <| am_cl (f_Rs_cutOf d h r0 (i1 + 1) (i2 - 1) (l3 ||| (am_lshl 1 i7))) fun y_6 h_5 =>
    if (lg_cmp y_6 (-1)) = 0 then
      f_Rs_cutOf_41 (d + 1) h_5 r0 i1 i2 l3 l5 (i7 + 1)
    else
    if (lg_cmp l5 (-1)) = 0 then
      f_Rs_cutOf_41 (d + 1) h_5 r0 i1 i2 l3 y_6 (i7 + 1)
    else
    if 0 ≤ (lg_cmp y_6 l5) then
      f_Rs_cutOf_41 (d + 1) h_5 r0 i1 i2 l3 l5 (i7 + 1)
    else
    f_Rs_cutOf_41 (d + 1) h_5 r0 i1 i2 l3 y_6 (i7 + 1)) := by
  refine (am_sem_seg (am_sm am_MT (d + 1)) m_Rs_cutOf 48 41 [(0, .ref r0), (1, .int i1), (2, .int i2), (3, .long l3), (5, .long l5), (7, .int i7)] [] h).trans ?_
  rfl
set_option maxRecDepth 100000 in
theorem e_Mo_init (d : Nat) (h : am_H) (r0 : Nat) : f_Mo_init d h r0 = (
    am_ck h r0 1 <|
    f_Mo_init_9 d (am_sL h r0 0 0) r0) := by
  refine (am_sem_seg (am_sm am_MT d) m_Mo_init 5 0 [(0, .ref r0)] [] h).trans ?_
  rfl
set_option maxRecDepth 100000 in
theorem e_Mo_init_9 (d : Nat) (h : am_H) (r0 : Nat) : f_Mo_init_9 d h r0 = (
    am_ck h r0 1 <|
    f_Mo_init_14 d (am_sL h r0 1 0)) := by
  refine (am_sem_seg (am_sm am_MT d) m_Mo_init 3 9 [(0, .ref r0)] [] h).trans ?_
  rfl
set_option maxRecDepth 100000 in
theorem e_Mo_init_14 (d : Nat) (h : am_H) : f_Mo_init_14 d h = (
    some (.inr none, h)) := by
  refine (am_sem_seg (am_sm am_MT d) m_Mo_init 1 14 [] [] h).trans ?_
  rfl
set_option maxRecDepth 100000 in
theorem e_Mo_ofAxiom (d : Nat) (h : am_H) (r0 : Nat) (r1 : Nat) (i2 : Int32) : f_Mo_ofAxiom (d + 1) h r0 r1 i2 = (
    am_gl h r1 2 10 fun y_1 =>
    am_gp h r1 2 15 fun p_2 =>
    am_ar h 9 p_2 i2 fun j_3 =>
    am_gp h r1 2 16 fun p_4 =>
    am_ar h 9 p_4 i2 fun j_5 =>
    am_ck h r0 1 <| am_cl (f_Mo_cut d h r0 r1 y_1 (am_I h p_2 j_3) (am_I h p_4 j_5) 0) fun y_7 h_6 =>
    some (.inr (some (.long y_7)), h_6)) := by
  refine (am_sem_seg (am_sm am_MT (d + 1)) m_Mo_ofAxiom 15 0 [(0, .ref r0), (1, .ref r1), (2, .int i2)] [] h).trans ?_
  rfl
set_option maxRecDepth 100000 in
theorem e_Mo_inTurn (d : Nat) (h : am_H) (r0 : Nat) (r1 : Nat) (i2 : Int32) (i3 : Int32) : f_Mo_inTurn d h r0 r1 i2 i3 = (
    am_gl h r1 2 10 fun y_1 =>
    f_Mo_inTurn_12 d h r0 r1 i2 i3 y_1 1 0) := by
  refine (am_sem_seg (am_sm am_MT d) m_Mo_inTurn 7 0 [(0, .ref r0), (1, .ref r1), (2, .int i2), (3, .int i3)] [] h).trans ?_
  rfl
set_option maxRecDepth 100000 in
theorem e_Mo_inTurn_12 (d : Nat) (h : am_H) (r0 : Nat) (r1 : Nat) (i2 : Int32) (i3 : Int32) (l4 : Int64) (i6 : Int32) (i7 : Int32) : f_Mo_inTurn_12 (d + 1) h r0 r1 i2 i3 l4 i6 i7 = (
    if i6 = 0 then
      some (.inr (some (.long l4)), h)
    else
    if 32 < i7 then
      some (.inr (some (.long l4)), h)
    else
    am_ck h r0 1 <| am_cl (f_Mo_cut d h r0 r1 l4 i2 i3 0) fun y_2 h_1 =>
    am_ck h_1 r0 1 <| am_cl (f_Mo_cut d h_1 r0 r1 y_2 i2 i3 1) fun y_4 h_3 =>
    if (lg_cmp y_4 l4) = 0 then
      f_Mo_inTurn_12 (d + 1) h_3 r0 r1 i2 i3 y_4 0 (i7 + 1)
    else
    f_Mo_inTurn_12 (d + 1) h_3 r0 r1 i2 i3 y_4 1 (i7 + 1)) := by
  refine (am_sem_seg (am_sm am_MT (d + 1)) m_Mo_inTurn 32 12 [(0, .ref r0), (1, .ref r1), (2, .int i2), (3, .int i3), (4, .long l4), (6, .int i6), (7, .int i7)] [] h).trans ?_
  rfl
set_option maxRecDepth 100000 in
theorem e_Mo_cut (d : Nat) (h : am_H) (r0 : Nat) (r1 : Nat) (l2 : Int64) (i4 : Int32) (i5 : Int32) (i6 : Int32) : f_Mo_cut d h r0 r1 l2 i4 i5 i6 = (
    f_Mo_cut_17 d h r0 r1 l2 i6 i4 i5 0 1 0) := by
  refine (am_sem_seg (am_sm am_MT d) m_Mo_cut 10 0 [(0, .ref r0), (1, .ref r1), (2, .long l2), (4, .int i4), (5, .int i5), (6, .int i6)] [] h).trans ?_
  rfl
set_option maxRecDepth 100000 in
theorem e_Mo_cut_17 (d : Nat) (h : am_H) (r0 : Nat) (r1 : Nat) (l2 : Int64) (i6 : Int32) (i7 : Int32) (i8 : Int32) (l9 : Int64) (i11 : Int32) (i12 : Int32) : f_Mo_cut_17 (d + 1) h r0 r1 l2 i6 i7 i8 l9 i11 i12 = (
    if i11 = 0 then
      some (.inr (some (.long l9)), h)
    else
    if 32 < i12 then
      some (.inr (some (.long l9)), h)
    else
    am_ck h r0 1 <| am_cv (f_Mo_mark d h r0 r1 i7 i8 i6) fun h_1 =>
    f_Mo_cut_46 (d + 1) h_1 r0 r1 l2 i6 i7 i8 l9 0 i12 0) := by
  refine (am_sem_seg (am_sm am_MT (d + 1)) m_Mo_cut 15 17 [(0, .ref r0), (1, .ref r1), (2, .long l2), (6, .int i6), (7, .int i7), (8, .int i8), (9, .long l9), (11, .int i11), (12, .int i12)] [] h).trans ?_
  rfl
set_option maxRecDepth 100000 in
theorem e_Mo_cut_46 (d : Nat) (h : am_H) (r0 : Nat) (r1 : Nat) (l2 : Int64) (i6 : Int32) (i7 : Int32) (i8 : Int32) (l9 : Int64) (i11 : Int32) (i12 : Int32) (i13 : Int32) : f_Mo_cut_46 (d + 1) h r0 r1 l2 i6 i7 i8 l9 i11 i12 i13 = (
    am_gi h r1 2 9 fun x_1 =>
    if x_1 ≤ i13 then
      f_Mo_cut_120 (d + 1) h r0 r1 l2 i6 i7 i8 l9 i11 i12 0
    else
    if (lg_cmp ((am_lushr (l2 &&& (l9 ^^^ (-1))) i13) &&& 1) 0) = 0 then
      if (0 : Int32) = 0 then
        f_Mo_cut_46 (d + 1) h r0 r1 l2 i6 i7 i8 l9 i11 i12 (i13 + 1)
      else
      am_ck h r0 1 <| am_ci (f_Mo_isIdle d h r0 r1 i13 i8 i6) fun x_3 h_2 =>
      if x_3 = 0 then
        f_Mo_cut_46 (d + 1) h_2 r0 r1 l2 i6 i7 i8 (l9 ||| (am_lshl 1 i13)) 1 i12 (i13 + 1)
      else
      f_Mo_cut_46 (d + 1) h_2 r0 r1 l2 i6 i7 i8 l9 i11 i12 (i13 + 1)
    else
    if (1 : Int32) = 0 then
      f_Mo_cut_46 (d + 1) h r0 r1 l2 i6 i7 i8 l9 i11 i12 (i13 + 1)
    else
    am_ck h r0 1 <| am_ci (f_Mo_isIdle d h r0 r1 i13 i8 i6) fun x_5 h_4 =>
    if x_5 = 0 then
      f_Mo_cut_46 (d + 1) h_4 r0 r1 l2 i6 i7 i8 (l9 ||| (am_lshl 1 i13)) 1 i12 (i13 + 1)
    else
    f_Mo_cut_46 (d + 1) h_4 r0 r1 l2 i6 i7 i8 l9 i11 i12 (i13 + 1)) := by
  refine (am_sem_seg (am_sm am_MT (d + 1)) m_Mo_cut 38 46 [(0, .ref r0), (1, .ref r1), (2, .long l2), (6, .int i6), (7, .int i7), (8, .int i8), (9, .long l9), (11, .int i11), (12, .int i12), (13, .int i13)] [] h).trans ?_
  rfl
set_option maxRecDepth 100000 in
theorem e_Mo_cut_120 (d : Nat) (h : am_H) (r0 : Nat) (r1 : Nat) (l2 : Int64) (i6 : Int32) (i7 : Int32) (i8 : Int32) (l9 : Int64) (i11 : Int32) (i12 : Int32) (i13 : Int32) : f_Mo_cut_120 d h r0 r1 l2 i6 i7 i8 l9 i11 i12 i13 = (
    if i11 = 0 then
      f_Mo_cut_17 d h r0 r1 l2 i6 i7 i8 l9 i11 (i12 + 1)
    else
    am_gi h r1 2 9 fun x_1 =>
    if x_1 ≤ i13 then
      f_Mo_cut_17 d h r0 r1 l2 i6 i7 i8 l9 i11 (i12 + 1)
    else
    if (lg_cmp ((am_lushr l9 i13) &&& 1) 0) = 0 then
      f_Mo_cut_120 d h r0 r1 l2 i6 i7 i8 l9 i11 i12 (i13 + 1)
    else
    am_gp h r1 2 15 fun p_2 =>
    am_ar h 9 p_2 i13 fun j_3 =>
    am_gp h r1 2 16 fun p_4 =>
    am_ar h 9 p_4 i13 fun j_5 =>
    f_Mo_cut_120 d h r0 r1 l2 i6 (i7 ||| (am_I h p_2 j_3)) (i8 ||| (am_I h p_4 j_5)) l9 i11 i12 (i13 + 1)) := by
  refine (am_sem_seg (am_sm am_MT d) m_Mo_cut 30 120 [(0, .ref r0), (1, .ref r1), (2, .long l2), (6, .int i6), (7, .int i7), (8, .int i8), (9, .long l9), (11, .int i11), (12, .int i12), (13, .int i13)] [] h).trans ?_
  rfl
set_option maxRecDepth 100000 in
theorem e_Mo_mark (d : Nat) (h : am_H) (r0 : Nat) (r1 : Nat) (i2 : Int32) (i3 : Int32) (i4 : Int32) : f_Mo_mark d h r0 r1 i2 i3 i4 = (
    am_ck h r0 1 <|
    am_ck (am_sL h r0 0 0) r0 1 <|
    f_Mo_mark_13 d (am_sL (am_sL h r0 0 0) r0 1 0) r0 r1 i2 i3 i4 0) := by
  refine (am_sem_seg (am_sm am_MT d) m_Mo_mark 8 0 [(0, .ref r0), (1, .ref r1), (2, .int i2), (3, .int i3), (4, .int i4)] [] h).trans ?_
  rfl
set_option maxRecDepth 100000 in
theorem e_Mo_mark_13 (d : Nat) (h : am_H) (r0 : Nat) (r1 : Nat) (i2 : Int32) (i3 : Int32) (i4 : Int32) (i5 : Int32) : f_Mo_mark_13 (d + 1) h r0 r1 i2 i3 i4 i5 = (
    am_gi h r1 2 3 fun x_1 =>
    if x_1 ≤ i5 then
      some (.inr none, h)
    else
    am_gp h r1 2 5 fun p_2 =>
    am_ar h 9 p_2 i5 fun j_3 =>
    am_gp h r1 2 6 fun p_4 =>
    am_ar h 9 p_4 i5 fun j_5 =>
    am_gp h r1 2 4 fun p_6 =>
    am_ar h 9 p_6 i5 fun j_7 =>
    if (am_I h p_6 j_7) = 0 then
      if i4 = 0 then
        if ((am_iushr i2 (am_I h p_2 j_3)) &&& 1) = 0 then
          f_Mo_mark_115 (d + 1) h r0 r1 i2 i3 i4 i5 (am_I h p_2 j_3) 1
        else
        f_Mo_mark_115 (d + 1) h r0 r1 i2 i3 i4 i5 (am_I h p_2 j_3) 0
      else
      f_Mo_mark_115 (d + 1) h r0 r1 i2 i3 i4 i5 (am_I h p_2 j_3) 0
    else
    if (am_I h p_6 j_7) = 1 then
      f_Mo_mark_280 (d + 1) h r0 r1 i2 i3 i4 i5 0 1
    else
    if (am_I h p_6 j_7) = 2 then
      f_Mo_mark_280 (d + 1) h r0 r1 i2 i3 i4 i5 1 0
    else
    if (am_I h p_6 j_7) = 3 then
      am_gl h r0 1 0 fun y_8 =>
      am_ci (f_Mo_isMarked d h y_8 (am_I h p_2 j_3)) fun x_10 h_9 =>
      if x_10 = 0 then
        am_gl h_9 r0 1 0 fun y_11 =>
        am_ci (f_Mo_isMarked d h_9 y_11 (am_I h p_4 j_5)) fun x_13 h_12 =>
        if x_13 = 0 then
          f_Mo_mark_170 (d + 1) h_12 r0 r1 i2 i3 i4 i5 (am_I h p_2 j_3) (am_I h p_4 j_5) 0
        else
        f_Mo_mark_170 (d + 1) h_12 r0 r1 i2 i3 i4 i5 (am_I h p_2 j_3) (am_I h p_4 j_5) 1
      else
      f_Mo_mark_170 (d + 1) h_9 r0 r1 i2 i3 i4 i5 (am_I h p_2 j_3) (am_I h p_4 j_5) 1
    else
    if ((am_iushr i3 (am_I h p_2 j_3)) &&& 1) = 0 then
      f_Mo_mark_220 (d + 1) h r0 r1 i2 i3 i4 i5 (am_I h p_4 j_5) 1
    else
    f_Mo_mark_220 (d + 1) h r0 r1 i2 i3 i4 i5 (am_I h p_4 j_5) 0) := by
  refine (am_sem_seg (am_sm am_MT (d + 1)) m_Mo_mark 35 13 [(0, .ref r0), (1, .ref r1), (2, .int i2), (3, .int i3), (4, .int i4), (5, .int i5)] [] h).trans ?_
  rfl
set_option maxRecDepth 100000 in
theorem e_Mo_mark_115 (d : Nat) (h : am_H) (r0 : Nat) (r1 : Nat) (i2 : Int32) (i3 : Int32) (i4 : Int32) (i5 : Int32) (i6 : Int32) (s0 : Int32) : f_Mo_mark_115 d h r0 r1 i2 i3 i4 i5 i6 s0 = (
    if i4 = 0 then
      f_Mo_mark_280 d h r0 r1 i2 i3 i4 i5 s0 0
    else
    if ((am_iushr i2 i6) &&& 1) = 0 then
      f_Mo_mark_280 d h r0 r1 i2 i3 i4 i5 s0 1
    else
    f_Mo_mark_280 d h r0 r1 i2 i3 i4 i5 s0 0) := by
  refine (am_sem_seg (am_sm am_MT d) m_Mo_mark 13 115 [(0, .ref r0), (1, .ref r1), (2, .int i2), (3, .int i3), (4, .int i4), (5, .int i5), (6, .int i6)] [.int s0] h).trans ?_
  rfl
set_option maxRecDepth 100000 in
theorem e_Mo_mark_170 (d : Nat) (h : am_H) (r0 : Nat) (r1 : Nat) (i2 : Int32) (i3 : Int32) (i4 : Int32) (i5 : Int32) (i6 : Int32) (i7 : Int32) (s0 : Int32) : f_Mo_mark_170 (d + 1) h r0 r1 i2 i3 i4 i5 i6 i7 s0 = (
    am_gl h r0 1 1 fun y_1 =>
    am_ci (f_Mo_isMarked d h y_1 i6) fun x_3 h_2 =>
    if x_3 = 0 then
      f_Mo_mark_280 (d + 1) h_2 r0 r1 i2 i3 i4 i5 s0 0
    else
    am_gl h_2 r0 1 1 fun y_4 =>
    am_ci (f_Mo_isMarked d h_2 y_4 i7) fun x_6 h_5 =>
    if x_6 = 0 then
      f_Mo_mark_280 (d + 1) h_5 r0 r1 i2 i3 i4 i5 s0 0
    else
    f_Mo_mark_280 (d + 1) h_5 r0 r1 i2 i3 i4 i5 s0 1) := by
  refine (am_sem_seg (am_sm am_MT (d + 1)) m_Mo_mark 15 170 [(0, .ref r0), (1, .ref r1), (2, .int i2), (3, .int i3), (4, .int i4), (5, .int i5), (6, .int i6), (7, .int i7)] [.int s0] h).trans ?_
  rfl
set_option maxRecDepth 100000 in
theorem e_Mo_mark_220 (d : Nat) (h : am_H) (r0 : Nat) (r1 : Nat) (i2 : Int32) (i3 : Int32) (i4 : Int32) (i5 : Int32) (i7 : Int32) (s0 : Int32) : f_Mo_mark_220 (d + 1) h r0 r1 i2 i3 i4 i5 i7 s0 = (
    am_gl h r0 1 0 fun y_1 =>
    am_ci (f_Mo_isMarked d h y_1 i7) fun x_3 h_2 =>
    if x_3 = 0 then
      if i4 = 0 then
        if s0 = 0 then
          f_Mo_mark_249 (d + 1) h_2 r0 r1 i2 i3 i4 i5 i7 s0 0
        else
        f_Mo_mark_249 (d + 1) h_2 r0 r1 i2 i3 i4 i5 i7 s0 1
      else
      f_Mo_mark_249 (d + 1) h_2 r0 r1 i2 i3 i4 i5 i7 s0 0
    else
    f_Mo_mark_249 (d + 1) h_2 r0 r1 i2 i3 i4 i5 i7 s0 1) := by
  refine (am_sem_seg (am_sm am_MT (d + 1)) m_Mo_mark 12 220 [(0, .ref r0), (1, .ref r1), (2, .int i2), (3, .int i3), (4, .int i4), (5, .int i5), (7, .int i7)] [.int s0] h).trans ?_
  rfl
set_option maxRecDepth 100000 in
theorem e_Mo_mark_249 (d : Nat) (h : am_H) (r0 : Nat) (r1 : Nat) (i2 : Int32) (i3 : Int32) (i4 : Int32) (i5 : Int32) (i7 : Int32) (i10 : Int32) (s0 : Int32) : f_Mo_mark_249 (d + 1) h r0 r1 i2 i3 i4 i5 i7 i10 s0 = (
    if i4 = 0 then
      f_Mo_mark_280 (d + 1) h r0 r1 i2 i3 i4 i5 s0 0
    else
    if i10 = 0 then
      f_Mo_mark_280 (d + 1) h r0 r1 i2 i3 i4 i5 s0 0
    else
    am_gl h r0 1 1 fun y_1 =>
    am_ci (f_Mo_isMarked d h y_1 i7) fun x_3 h_2 =>
    if x_3 = 0 then
      f_Mo_mark_280 (d + 1) h_2 r0 r1 i2 i3 i4 i5 s0 0
    else
    f_Mo_mark_280 (d + 1) h_2 r0 r1 i2 i3 i4 i5 s0 1) := by
  refine (am_sem_seg (am_sm am_MT (d + 1)) m_Mo_mark 13 249 [(0, .ref r0), (1, .ref r1), (2, .int i2), (3, .int i3), (4, .int i4), (5, .int i5), (7, .int i7), (10, .int i10)] [.int s0] h).trans ?_
  rfl
set_option maxRecDepth 100000 in
theorem e_Mo_mark_280 (d : Nat) (h : am_H) (r0 : Nat) (r1 : Nat) (i2 : Int32) (i3 : Int32) (i4 : Int32) (i5 : Int32) (i8 : Int32) (i9 : Int32) : f_Mo_mark_280 d h r0 r1 i2 i3 i4 i5 i8 i9 = (
    am_gl h r0 1 0 fun y_1 =>
    if i8 = 0 then
      am_ck h r0 1 <|
      am_gl (am_sL h r0 0 (y_1 ||| 0)) r0 1 1 fun y_2 =>
      if i9 = 0 then
        am_ck (am_sL h r0 0 (y_1 ||| 0)) r0 1 <|
        f_Mo_mark_13 d (am_sL (am_sL h r0 0 (y_1 ||| 0)) r0 1 (y_2 ||| 0)) r0 r1 i2 i3 i4 (i5 + 1)
      else
      am_ck (am_sL h r0 0 (y_1 ||| 0)) r0 1 <|
      f_Mo_mark_13 d (am_sL (am_sL h r0 0 (y_1 ||| 0)) r0 1 (y_2 ||| (am_lshl 1 i5))) r0 r1 i2 i3 i4 (i5 + 1)
    else
    am_ck h r0 1 <|
    am_gl (am_sL h r0 0 (y_1 ||| (am_lshl 1 i5))) r0 1 1 fun y_3 =>
    if i9 = 0 then
      am_ck (am_sL h r0 0 (y_1 ||| (am_lshl 1 i5))) r0 1 <|
      f_Mo_mark_13 d (am_sL (am_sL h r0 0 (y_1 ||| (am_lshl 1 i5))) r0 1 (y_3 ||| 0)) r0 r1 i2 i3 i4 (i5 + 1)
    else
    am_ck (am_sL h r0 0 (y_1 ||| (am_lshl 1 i5))) r0 1 <|
    f_Mo_mark_13 d (am_sL (am_sL h r0 0 (y_1 ||| (am_lshl 1 i5))) r0 1 (y_3 ||| (am_lshl 1 i5))) r0 r1 i2 i3 i4 (i5 + 1)) := by
  refine (am_sem_seg (am_sm am_MT d) m_Mo_mark 24 280 [(0, .ref r0), (1, .ref r1), (2, .int i2), (3, .int i3), (4, .int i4), (5, .int i5), (8, .int i8), (9, .int i9)] [] h).trans ?_
  rfl
set_option maxRecDepth 100000 in
theorem e_Mo_isMarked (d : Nat) (h : am_H) (l0 : Int64) (i2 : Int32) : f_Mo_isMarked d h l0 i2 = (
    if (lg_cmp ((am_lushr l0 i2) &&& 1) 0) = 0 then
      am_01 0 (some (.inr (some (.int 0)), h))
    else
    am_01 1 (some (.inr (some (.int 1)), h))) := by
  refine (am_sem_seg (am_sm am_MT d) m_Mo_isMarked 11 0 [(0, .long l0), (2, .int i2)] [] h).trans ?_
  rfl
set_option maxRecDepth 100000 in
theorem e_Mo_isIdle (d : Nat) (h : am_H) (r0 : Nat) (r1 : Nat) (i2 : Int32) (i3 : Int32) (i4 : Int32) : f_Mo_isIdle (d + 1) h r0 r1 i2 i3 i4 = (
    am_gp h r1 2 12 fun p_1 =>
    am_ar h 9 p_1 i2 fun j_2 =>
    am_gp h r1 2 13 fun p_3 =>
    am_ar h 9 p_3 i2 fun j_4 =>
    am_gp h r1 2 11 fun p_5 =>
    am_ar h 9 p_5 i2 fun j_6 =>
    if (am_I h p_5 j_6) = 0 then
      am_ck h r0 1 <| am_ci (f_Mo_isIdleBelow d h r0 (am_I h p_1 j_2) (am_I h p_3 j_4)) fun x_8 h_7 =>
      am_01 x_8 (some (.inr (some (.int x_8)), h_7))
    else
    if (am_I h p_5 j_6) = 1 then
      am_ck h r0 1 <| am_ci (f_Mo_isIdleBelow d h r0 (am_I h p_1 j_2) (am_I h p_3 j_4)) fun x_10 h_9 =>
      if x_10 = 0 then
        am_01 0 (some (.inr (some (.int 0)), h_9))
      else
      am_ck h_9 r0 1 <| am_ci (f_Mo_isIdleBelow d h_9 r0 (am_I h p_3 j_4) (am_I h p_1 j_2)) fun x_12 h_11 =>
      if x_12 = 0 then
        am_01 0 (some (.inr (some (.int 0)), h_11))
      else
      am_01 1 (some (.inr (some (.int 1)), h_11))
    else
    if (am_I h p_5 j_6) = 2 then
      if i4 = 0 then
        f_Mo_isIdle_98 (d + 1) h i3 (am_I h p_1 j_2)
      else
      f_Mo_isIdle_98 (d + 1) h i3 (am_I h p_3 j_4)
    else
    if i4 = 0 then
      if (((am_iushr i3 (am_I h p_1 j_2)) &&& (am_iushr i3 (am_I h p_3 j_4))) &&& 1) = 0 then
        am_01 1 (some (.inr (some (.int 1)), h))
      else
      am_01 0 (some (.inr (some (.int 0)), h))
    else
    am_gp h r1 2 14 fun p_13 =>
    am_ar h 9 p_13 i2 fun j_14 =>
    if ((am_iushr i3 (am_I h p_13 j_14)) &&& 1) = 0 then
      am_01 1 (some (.inr (some (.int 1)), h))
    else
    am_01 0 (some (.inr (some (.int 0)), h))) := by
  refine (am_sem_seg (am_sm am_MT (d + 1)) m_Mo_isIdle 30 0 [(0, .ref r0), (1, .ref r1), (2, .int i2), (3, .int i3), (4, .int i4)] [] h).trans ?_
  rfl
set_option maxRecDepth 100000 in
theorem e_Mo_isIdle_98 (d : Nat) (h : am_H) (s0 : Int32) (s1 : Int32) : f_Mo_isIdle_98 d h s0 s1 = (
    if ((am_iushr s0 s1) &&& 1) = 0 then
      am_01 1 (some (.inr (some (.int 1)), h))
    else
    am_01 0 (some (.inr (some (.int 0)), h))) := by
  refine (am_sem_seg (am_sm am_MT d) m_Mo_isIdle 7 98 [] [.int s1, .int s0] h).trans ?_
  rfl
set_option maxRecDepth 100000 in
theorem e_Mo_isIdleBelow (d : Nat) (h : am_H) (r0 : Nat) (i1 : Int32) (i2 : Int32) : f_Mo_isIdleBelow (d + 1) h r0 i1 i2 = (
    am_gl h r0 1 0 fun y_1 =>
    am_ci (f_Mo_isMarked d h y_1 i1) fun x_3 h_2 =>
    if x_3 = 0 then
      am_gl h_2 r0 1 1 fun y_4 =>
      am_ci (f_Mo_isMarked d h_2 y_4 i2) fun x_6 h_5 =>
      if x_6 = 0 then
        am_01 0 (some (.inr (some (.int 0)), h_5))
      else
      am_01 1 (some (.inr (some (.int 1)), h_5))
    else
    am_01 1 (some (.inr (some (.int 1)), h_2))) := by
  refine (am_sem_seg (am_sm am_MT (d + 1)) m_Mo_isIdleBelow 13 0 [(0, .ref r0), (1, .int i1), (2, .int i2)] [] h).trans ?_
  rfl
