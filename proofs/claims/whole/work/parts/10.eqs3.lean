set_option maxRecDepth 100000 in
theorem e_Lc_init (d : Nat) (h : am_H) (r0 : Nat) : f_Lc_init d h r0 = (
    bif Nat.beq (am_G h) 0 && !(decide ((400 : Int32) < 0)) && Nat.ble (Int32.toNatClampNeg 400) 60000000 then
      am_ck (am_nw h (11, Int32.toNatClampNeg 400)) r0 7 <|
      f_Lc_init_13 d (am_sP (am_nw h (11, Int32.toNatClampNeg 400)) r0 0 (some (am_S h).length)) r0
    else none) := by
  refine (am_sem_seg (am_sm am_MT d) m_Lc_init 6 0 [(0, .ref r0)] [] h).trans ?_
  rfl
set_option maxRecDepth 100000 in
theorem e_Lc_init_13 (d : Nat) (h : am_H) (r0 : Nat) : f_Lc_init_13 d h r0 = (
    am_ck h r0 7 <|
    f_Lc_init_18 d (am_sI h r0 1 0) r0) := by
  refine (am_sem_seg (am_sm am_MT d) m_Lc_init 3 13 [(0, .ref r0)] [] h).trans ?_
  rfl
set_option maxRecDepth 100000 in
theorem e_Lc_init_18 (d : Nat) (h : am_H) (r0 : Nat) : f_Lc_init_18 d h r0 = (
    am_ck h r0 7 <|
    f_Lc_init_23 d (am_sI h r0 2 (-1)) r0) := by
  refine (am_sem_seg (am_sm am_MT d) m_Lc_init 3 18 [(0, .ref r0)] [] h).trans ?_
  rfl
set_option maxRecDepth 100000 in
theorem e_Lc_init_23 (d : Nat) (h : am_H) (r0 : Nat) : f_Lc_init_23 (d + 1) h r0 = (
    bif Nat.beq (am_G h) 0 then
      am_ck (am_nw h (2, 17)) (am_S h).length 2 <| am_cv (f_On_init d (am_nw h (2, 17)) (am_S h).length) fun h_1 =>
      am_ck h_1 r0 7 <|
      f_Lc_init_34 (d + 1) (am_sP h_1 r0 3 (some (am_S h).length)) r0
    else none) := by
  refine (am_sem_seg (am_sm am_MT (d + 1)) m_Lc_init 5 23 [(0, .ref r0)] [] h).trans ?_
  rfl
set_option maxRecDepth 100000 in
theorem e_Lc_init_34 (d : Nat) (h : am_H) (r0 : Nat) : f_Lc_init_34 (d + 1) h r0 = (
    bif Nat.beq (am_G h) 0 then
      am_ck (am_nw h (2, 17)) (am_S h).length 2 <| am_cv (f_On_init d (am_nw h (2, 17)) (am_S h).length) fun h_1 =>
      am_ck h_1 r0 7 <|
      f_Lc_init_45 (d + 1) (am_sP h_1 r0 4 (some (am_S h).length)) r0
    else none) := by
  refine (am_sem_seg (am_sm am_MT (d + 1)) m_Lc_init 5 34 [(0, .ref r0)] [] h).trans ?_
  rfl
set_option maxRecDepth 100000 in
theorem e_Lc_init_45 (d : Nat) (h : am_H) (r0 : Nat) : f_Lc_init_45 (d + 1) h r0 = (
    bif Nat.beq (am_G h) 0 then
      am_gp (am_nw h (3, 18)) r0 7 0 fun p_1 =>
      am_gp (am_nw h (3, 18)) r0 7 4 fun p_2 =>
      am_ck (am_nw h (3, 18)) (am_S h).length 3 <| am_cv (f_Re_init d (am_nw h (3, 18)) (am_S h).length p_1 p_2) fun h_3 =>
      am_ck h_3 r0 7 <|
      f_Lc_init_64 (d + 1) (am_sP h_3 r0 5 (some (am_S h).length)) r0
    else none) := by
  refine (am_sem_seg (am_sm am_MT (d + 1)) m_Lc_init 9 45 [(0, .ref r0)] [] h).trans ?_
  rfl
set_option maxRecDepth 100000 in
theorem e_Lc_init_64 (d : Nat) (h : am_H) (r0 : Nat) : f_Lc_init_64 d h r0 = (
    bif Nat.beq (am_G h) 0 && !(decide ((20 : Int32) < 0)) && Nat.ble (Int32.toNatClampNeg 20) 60000000 then
      am_ck (am_nw h (9, Int32.toNatClampNeg 20)) r0 7 <|
      f_Lc_init_72 d (am_sP (am_nw h (9, Int32.toNatClampNeg 20)) r0 6 (some (am_S h).length)) r0
    else none) := by
  refine (am_sem_seg (am_sm am_MT d) m_Lc_init 4 64 [(0, .ref r0)] [] h).trans ?_
  rfl
set_option maxRecDepth 100000 in
theorem e_Lc_init_72 (d : Nat) (h : am_H) (r0 : Nat) : f_Lc_init_72 d h r0 = (
    am_ck h r0 7 <|
    f_Lc_init_77 d (am_sI h r0 7 0) r0) := by
  refine (am_sem_seg (am_sm am_MT d) m_Lc_init 3 72 [(0, .ref r0)] [] h).trans ?_
  rfl
set_option maxRecDepth 100000 in
theorem e_Lc_init_77 (d : Nat) (h : am_H) (r0 : Nat) : f_Lc_init_77 d h r0 = (
    am_01 0 <| am_ck h r0 7 <|
    f_Lc_init_82 d (am_sI h r0 8 0) r0) := by
  refine (am_sem_seg (am_sm am_MT d) m_Lc_init 3 77 [(0, .ref r0)] [] h).trans ?_
  rfl
set_option maxRecDepth 100000 in
theorem e_Lc_init_82 (d : Nat) (h : am_H) (r0 : Nat) : f_Lc_init_82 d h r0 = (
    am_ck h r0 7 <|
    f_Lc_init_87 d (am_sI h r0 9 0) r0) := by
  refine (am_sem_seg (am_sm am_MT d) m_Lc_init 3 82 [(0, .ref r0)] [] h).trans ?_
  rfl
set_option maxRecDepth 100000 in
theorem e_Lc_init_87 (d : Nat) (h : am_H) (r0 : Nat) : f_Lc_init_87 d h r0 = (
    bif Nat.beq (am_G h) 0 && !(decide ((3600 : Int32) < 0)) && Nat.ble (Int32.toNatClampNeg 3600) 60000000 then
      am_ck (am_nw h (9, Int32.toNatClampNeg 3600)) r0 7 <|
      f_Lc_init_96 d (am_sP (am_nw h (9, Int32.toNatClampNeg 3600)) r0 10 (some (am_S h).length)) r0
    else none) := by
  refine (am_sem_seg (am_sm am_MT d) m_Lc_init 4 87 [(0, .ref r0)] [] h).trans ?_
  rfl
set_option maxRecDepth 100000 in
theorem e_Lc_init_96 (d : Nat) (h : am_H) (r0 : Nat) : f_Lc_init_96 (d + 1) h r0 = (
    bif Nat.beq (am_G h) 0 then
      am_gp (am_nw h (5, 18)) r0 7 3 fun p_1 =>
      am_ck (am_nw h (5, 18)) (am_S h).length 5 <| am_cv (f_Sa_init d (am_nw h (5, 18)) (am_S h).length p_1) fun h_2 =>
      am_ck h_2 r0 7 <|
      f_Lc_init_111 (d + 1) (am_sP h_2 r0 11 (some (am_S h).length)) r0
    else none) := by
  refine (am_sem_seg (am_sm am_MT (d + 1)) m_Lc_init 7 96 [(0, .ref r0)] [] h).trans ?_
  rfl
set_option maxRecDepth 100000 in
theorem e_Lc_init_111 (d : Nat) (h : am_H) (r0 : Nat) : f_Lc_init_111 (d + 1) h r0 = (
    bif Nat.beq (am_G h) 0 then
      am_ck (am_nw h (0, 8)) (am_S h).length 0 <| am_cv (f_Hi_init d (am_nw h (0, 8)) (am_S h).length) fun h_1 =>
      am_ck h_1 r0 7 <|
      f_Lc_init_122 (d + 1) (am_sP h_1 r0 12 (some (am_S h).length)) r0
    else none) := by
  refine (am_sem_seg (am_sm am_MT (d + 1)) m_Lc_init 5 111 [(0, .ref r0)] [] h).trans ?_
  rfl
set_option maxRecDepth 100000 in
theorem e_Lc_init_122 (d : Nat) (h : am_H) (r0 : Nat) : f_Lc_init_122 (d + 1) h r0 = (
    bif Nat.beq (am_G h) 0 then
      am_gp (am_nw h (5, 18)) r0 7 3 fun p_1 =>
      am_ck (am_nw h (5, 18)) (am_S h).length 5 <| am_cv (f_Sa_init d (am_nw h (5, 18)) (am_S h).length p_1) fun h_2 =>
      am_ck h_2 r0 7 <|
      f_Lc_init_137 (d + 1) (am_sP h_2 r0 13 (some (am_S h).length)) r0
    else none) := by
  refine (am_sem_seg (am_sm am_MT (d + 1)) m_Lc_init 7 122 [(0, .ref r0)] [] h).trans ?_
  rfl
set_option maxRecDepth 100000 in
theorem e_Lc_init_137 (d : Nat) (h : am_H) (r0 : Nat) : f_Lc_init_137 d h r0 = (
    bif Nat.beq (am_G h) 0 && !(decide ((60 : Int32) < 0)) && Nat.ble (Int32.toNatClampNeg 60) 60000000 then
      am_ck (am_nw h (10, Int32.toNatClampNeg 60)) r0 7 <|
      f_Lc_init_145 d (am_sP (am_nw h (10, Int32.toNatClampNeg 60)) r0 14 (some (am_S h).length)) r0
    else none) := by
  refine (am_sem_seg (am_sm am_MT d) m_Lc_init 4 137 [(0, .ref r0)] [] h).trans ?_
  rfl
set_option maxRecDepth 100000 in
theorem e_Lc_init_145 (d : Nat) (h : am_H) (r0 : Nat) : f_Lc_init_145 (d + 1) h r0 = (
    bif Nat.beq (am_G h) 0 then
      am_gp (am_nw h (4, 10)) r0 7 13 fun p_1 =>
      am_ck (am_nw h (4, 10)) (am_S h).length 4 <| am_cv (f_Rs_init d (am_nw h (4, 10)) (am_S h).length p_1) fun h_2 =>
      am_ck h_2 r0 7 <|
      f_Lc_init_160 (d + 1) (am_sP h_2 r0 15 (some (am_S h).length)) r0
    else none) := by
  refine (am_sem_seg (am_sm am_MT (d + 1)) m_Lc_init 7 145 [(0, .ref r0)] [] h).trans ?_
  rfl
set_option maxRecDepth 100000 in
theorem e_Lc_init_160 (d : Nat) (h : am_H) (r0 : Nat) : f_Lc_init_160 (d + 1) h r0 = (
    bif Nat.beq (am_G h) 0 then
      am_ck (am_nw h (1, 2)) (am_S h).length 1 <| am_cv (f_Mo_init d (am_nw h (1, 2)) (am_S h).length) fun h_1 =>
      am_ck h_1 r0 7 <|
      f_Lc_init_171 (d + 1) (am_sP h_1 r0 16 (some (am_S h).length)) r0
    else none) := by
  refine (am_sem_seg (am_sm am_MT (d + 1)) m_Lc_init 5 160 [(0, .ref r0)] [] h).trans ?_
  rfl
set_option maxRecDepth 100000 in
theorem e_Lc_init_171 (d : Nat) (h : am_H) (r0 : Nat) : f_Lc_init_171 d h r0 = (
    bif Nat.beq (am_G h) 0 && !(decide ((3 : Int32) < 0)) && Nat.ble (Int32.toNatClampNeg 3) 60000000 then
      am_ck (am_nw h (9, Int32.toNatClampNeg 3)) r0 7 <|
      f_Lc_init_178 d (am_sP (am_nw h (9, Int32.toNatClampNeg 3)) r0 17 (some (am_S h).length))
    else none) := by
  refine (am_sem_seg (am_sm am_MT d) m_Lc_init 4 171 [(0, .ref r0)] [] h).trans ?_
  rfl
set_option maxRecDepth 100000 in
theorem e_Lc_init_178 (d : Nat) (h : am_H) : f_Lc_init_178 d h = (
    some (.inr none, h)) := by
  refine (am_sem_seg (am_sm am_MT d) m_Lc_init 1 178 [] [] h).trans ?_
  rfl
set_option maxRecDepth 100000 in
theorem e_Lc_feed (d : Nat) (h : am_H) (r0 : Nat) (i1 : Int32) (i2 : Int32) (i3 : Int32) (i4 : Int32) (i5 : Int32) : f_Lc_feed (d + 1) h r0 i1 i2 i3 i4 i5 = (
    am_gi h r0 7 1 fun x_1 =>
    if (x_1 + 20) ≤ 400 then
      am_ck h r0 7 <| am_cv (f_Lc_putBytes d h r0 i1) fun h_2 =>
      am_ck h_2 r0 7 <| am_cv (f_Lc_putBytes d h_2 r0 i2) fun h_3 =>
      am_ck h_3 r0 7 <| am_cv (f_Lc_putBytes d h_3 r0 i3) fun h_4 =>
      am_ck h_4 r0 7 <| am_cv (f_Lc_putBytes d h_4 r0 i4) fun h_5 =>
      am_ck h_5 r0 7 <| am_cv (f_Lc_putBytes d h_5 r0 i5) fun h_6 =>
      am_gi h_6 r0 7 1 fun x_7 =>
      some (.inr (some (.int x_7)), h_6)
    else
    some (.inr (some (.int (-1))), h)) := by
  refine (am_sem_seg (am_sm am_MT (d + 1)) m_Lc_feed 24 0 [(0, .ref r0), (1, .int i1), (2, .int i2), (3, .int i3), (4, .int i4), (5, .int i5)] [] h).trans ?_
  rfl
set_option maxRecDepth 100000 in
theorem e_Lc_text (d : Nat) (h : am_H) (r0 : Nat) (i1 : Int32) : f_Lc_text (d + 1) h r0 i1 = (
    am_ck h r0 7 <| am_cv (f_Lc_needBytes d h r0 i1) fun h_1 =>
    am_gp h_1 r0 7 4 fun p_2 =>
    am_ck h_1 p_2 2 <| am_cv (f_On_clear d h_1 p_2) fun h_3 =>
    am_gp h_3 r0 7 5 fun p_4 =>
    am_gp h_3 r0 7 4 fun p_5 =>
    am_ck h_3 p_4 3 <| am_cv (f_Re_open d h_3 p_4 i1 p_5 0) fun h_6 =>
    am_gp h_6 r0 7 5 fun p_7 =>
    am_ck h_6 p_7 3 <| am_cv (f_Re_readAxioms d h_6 p_7) fun h_8 =>
    am_ck h_8 r0 7 <|
    am_gp (am_sI h_8 r0 1 0) r0 7 5 fun p_9 =>
    am_gi (am_sI h_8 r0 1 0) p_9 3 10 fun x_10 =>
    am_ck (am_sI h_8 r0 1 0) r0 7 <|
    am_gp (am_sI (am_sI h_8 r0 1 0) r0 2 x_10) r0 7 5 fun p_11 =>
    am_gi (am_sI (am_sI h_8 r0 1 0) r0 2 x_10) p_11 3 9 fun x_12 =>
    if x_12 = 0 then
      am_gp (am_sI (am_sI h_8 r0 1 0) r0 2 x_10) r0 7 3 fun p_13 =>
      am_gp (am_sI (am_sI h_8 r0 1 0) r0 2 x_10) r0 7 4 fun p_14 =>
      am_ck (am_sI (am_sI h_8 r0 1 0) r0 2 x_10) r0 7 <|
      am_ck (am_sP (am_sI (am_sI h_8 r0 1 0) r0 2 x_10) r0 3 (some p_14)) r0 7 <|
      am_ck (am_sP (am_sP (am_sI (am_sI h_8 r0 1 0) r0 2 x_10) r0 3 (some p_14)) r0 4 (some p_13)) r0 7 <|
      am_ck (am_sI (am_sP (am_sP (am_sI (am_sI h_8 r0 1 0) r0 2 x_10) r0 3 (some p_14)) r0 4 (some p_13)) r0 7 0) r0 7 <| am_cv (f_Lc_unsettle d (am_sI (am_sP (am_sP (am_sI (am_sI h_8 r0 1 0) r0 2 x_10) r0 3 (some p_14)) r0 4 (some p_13)) r0 7 0) r0) fun h_15 =>
      am_gp h_15 r0 7 3 fun p_16 =>
      am_gi h_15 p_16 2 9 fun x_17 =>
      some (.inr (some (.int x_17)), h_15)
    else
    am_gp (am_sI (am_sI h_8 r0 1 0) r0 2 x_10) r0 7 5 fun p_18 =>
    am_gi (am_sI (am_sI h_8 r0 1 0) r0 2 x_10) p_18 3 9 fun x_19 =>
    some (.inr (some (.int (x_19 - 10))), (am_sI (am_sI h_8 r0 1 0) r0 2 x_10))) := by
  refine (am_sem_seg (am_sm am_MT (d + 1)) m_Lc_text 47 0 [(0, .ref r0), (1, .int i1)] [] h).trans ?_
  rfl
set_option maxRecDepth 100000 in
theorem e_Lc_fault (d : Nat) (h : am_H) (r0 : Nat) : f_Lc_fault d h r0 = (
    am_gi h r0 7 2 fun x_1 =>
    some (.inr (some (.int x_1)), h)) := by
  refine (am_sem_seg (am_sm am_MT d) m_Lc_fault 3 0 [(0, .ref r0)] [] h).trans ?_
  rfl
set_option maxRecDepth 100000 in
theorem e_Lc_turn (d : Nat) (h : am_H) (r0 : Nat) (i1 : Int32) : f_Lc_turn (d + 1) h r0 i1 = (
    am_ck h r0 7 <| am_cv (f_Lc_needAxiom d h r0 i1) fun h_1 =>
    am_gi h_1 r0 7 7 fun x_2 =>
    if x_2 < 20 then
      f_Lc_turn_35 (d + 1) h_1 r0 i1
    else
    am_gp h_1 r0 7 6 fun p_3 =>
    am_gp h_1 r0 7 6 fun p_4 =>
    am_cp h_1 p_3 1 p_4 0 19 fun h9 =>
    am_ck h9 r0 7 <|
    f_Lc_turn_35 (d + 1) (am_sI h9 r0 7 19) r0 i1) := by
  refine (am_sem_seg (am_sm am_MT (d + 1)) m_Lc_turn 18 0 [(0, .ref r0), (1, .int i1)] [] h).trans ?_
  rfl
set_option maxRecDepth 100000 in
theorem e_Lc_turn_35 (d : Nat) (h : am_H) (r0 : Nat) (i1 : Int32) : f_Lc_turn_35 (d + 1) h r0 i1 = (
    am_gp h r0 7 6 fun p_1 =>
    am_gi h r0 7 7 fun x_2 =>
    am_ar h 9 p_1 x_2 fun j_3 =>
    am_gi (am_sI h p_1 j_3 i1) r0 7 7 fun x_4 =>
    am_ck (am_sI h p_1 j_3 i1) r0 7 <|
    am_gp (am_sI (am_sI h p_1 j_3 i1) r0 7 (x_4 + 1)) r0 7 3 fun p_5 =>
    am_gl (am_sI (am_sI h p_1 j_3 i1) r0 7 (x_4 + 1)) p_5 2 10 fun y_6 =>
    am_ck (am_sI (am_sI h p_1 j_3 i1) r0 7 (x_4 + 1)) p_5 2 <|
    am_ck (am_sL (am_sI (am_sI h p_1 j_3 i1) r0 7 (x_4 + 1)) p_5 10 (y_6 ^^^ (am_lshl 1 i1))) r0 7 <| am_cv (f_Lc_unsettle d (am_sL (am_sI (am_sI h p_1 j_3 i1) r0 7 (x_4 + 1)) p_5 10 (y_6 ^^^ (am_lshl 1 i1))) r0) fun h_7 =>
    am_ck h_7 r0 7 <| am_ci (f_Lc_isOn d h_7 r0 i1) fun x_9 h_8 =>
    if x_9 = 0 then
      some (.inr (some (.int 0)), h_8)
    else
    some (.inr (some (.int 1)), h_8)) := by
  refine (am_sem_seg (am_sm am_MT (d + 1)) m_Lc_turn 30 35 [(0, .ref r0), (1, .int i1)] [] h).trans ?_
  rfl
set_option maxRecDepth 100000 in
theorem e_Lc_undo (d : Nat) (h : am_H) (r0 : Nat) : f_Lc_undo (d + 1) h r0 = (
    am_gi h r0 7 7 fun x_1 =>
    if 0 < x_1 then
      am_gi h r0 7 7 fun x_2 =>
      am_ck h r0 7 <|
      am_gp (am_sI h r0 7 (x_2 - 1)) r0 7 3 fun p_3 =>
      am_gl (am_sI h r0 7 (x_2 - 1)) p_3 2 10 fun y_4 =>
      am_gp (am_sI h r0 7 (x_2 - 1)) r0 7 6 fun p_5 =>
      am_gi (am_sI h r0 7 (x_2 - 1)) r0 7 7 fun x_6 =>
      am_ar (am_sI h r0 7 (x_2 - 1)) 9 p_5 x_6 fun j_7 =>
      am_ck (am_sI h r0 7 (x_2 - 1)) p_3 2 <|
      am_ck (am_sL (am_sI h r0 7 (x_2 - 1)) p_3 10 (y_4 ^^^ (am_lshl 1 (am_I (am_sI h r0 7 (x_2 - 1)) p_5 j_7)))) r0 7 <| am_cv (f_Lc_unsettle d (am_sL (am_sI h r0 7 (x_2 - 1)) p_3 10 (y_4 ^^^ (am_lshl 1 (am_I (am_sI h r0 7 (x_2 - 1)) p_5 j_7)))) r0) fun h_8 =>
      am_gi h_8 r0 7 7 fun x_9 =>
      some (.inr (some (.int x_9)), h_8)
    else
    some (.inr (some (.int (-1))), h)) := by
  refine (am_sem_seg (am_sm am_MT (d + 1)) m_Lc_undo 27 0 [(0, .ref r0)] [] h).trans ?_
  rfl
set_option maxRecDepth 100000 in
theorem e_Lc_told (d : Nat) (h : am_H) (r0 : Nat) (i1 : Int32) : f_Lc_told (d + 1) h r0 i1 = (
    am_ck h r0 7 <| am_cv (f_Lc_needWhat d h r0 i1 11) fun h_1 =>
    if i1 = 0 then
      am_gp h_1 r0 7 3 fun p_2 =>
      am_gi h_1 p_2 2 9 fun x_3 =>
      some (.inr (some (.int x_3)), h_1)
    else
    if i1 = 1 then
      am_gp h_1 r0 7 3 fun p_4 =>
      am_gl h_1 p_4 2 10 fun y_5 =>
      am_ci (f_Lo_bitCount d h_1 y_5) fun x_7 h_6 =>
      some (.inr (some (.int x_7)), h_6)
    else
    if i1 = 2 then
      am_gp h_1 r0 7 3 fun p_8 =>
      am_gp h_1 p_8 2 0 fun p_9 =>
      am_gi h_1 p_9 6 2 fun x_10 =>
      some (.inr (some (.int x_10)), h_1)
    else
    if i1 = 3 then
      am_gp h_1 r0 7 3 fun p_11 =>
      am_gp h_1 p_11 2 1 fun p_12 =>
      am_gi h_1 p_12 6 2 fun x_13 =>
      some (.inr (some (.int x_13)), h_1)
    else
    if i1 = 4 then
      am_gp h_1 r0 7 3 fun p_14 =>
      am_gi h_1 p_14 2 3 fun x_15 =>
      some (.inr (some (.int x_15)), h_1)
    else
    if i1 = 5 then
      am_ck h_1 r0 7 <| am_ci (f_Lc_toldOfSettled d h_1 r0 i1) fun x_17 h_16 =>
      some (.inr (some (.int x_17)), h_16)
    else
    if i1 = 6 then
      am_ck h_1 r0 7 <| am_ci (f_Lc_toldOfSettled d h_1 r0 i1) fun x_19 h_18 =>
      some (.inr (some (.int x_19)), h_18)
    else
    if i1 = 7 then
      am_ck h_1 r0 7 <| am_ci (f_Lc_toldOfSettled d h_1 r0 i1) fun x_21 h_20 =>
      some (.inr (some (.int x_21)), h_20)
    else
    if i1 = 8 then
      am_ck h_1 r0 7 <| am_ci (f_Lc_toldOfSettled d h_1 r0 i1) fun x_23 h_22 =>
      some (.inr (some (.int x_23)), h_22)
    else
    if i1 = 9 then
      am_gi h_1 r0 7 1 fun x_24 =>
      some (.inr (some (.int x_24)), h_1)
    else
    if i1 = 10 then
      am_gi h_1 r0 7 7 fun x_25 =>
      some (.inr (some (.int x_25)), h_1)
    else
    am_ck h_1 r0 7 <| am_ci (f_Lc_toldOfSettled d h_1 r0 i1) fun x_27 h_26 =>
    some (.inr (some (.int x_27)), h_26)) := by
  refine (am_sem_seg (am_sm am_MT (d + 1)) m_Lc_told 11 0 [(0, .ref r0), (1, .int i1)] [] h).trans ?_
  rfl
set_option maxRecDepth 100000 in
theorem e_Lc_axiom (d : Nat) (h : am_H) (r0 : Nat) (i1 : Int32) (i2 : Int32) : f_Lc_axiom (d + 1) h r0 i1 i2 = (
    am_ck h r0 7 <| am_cv (f_Lc_needAxiom d h r0 i1) fun h_1 =>
    am_ck h_1 r0 7 <| am_cv (f_Lc_needWhat d h_1 r0 i2 4) fun h_2 =>
    if i2 = 0 then
      am_gp h_2 r0 7 3 fun p_3 =>
      am_gp h_2 p_3 2 11 fun p_4 =>
      am_ar h_2 9 p_4 i1 fun j_5 =>
      some (.inr (some (.int (am_I h_2 p_4 j_5))), h_2)
    else
    if i2 = 1 then
      am_ck h_2 r0 7 <| am_ci (f_Lc_isOn d h_2 r0 i1) fun x_7 h_6 =>
      if x_7 = 0 then
        some (.inr (some (.int 0)), h_6)
      else
      some (.inr (some (.int 1)), h_6)
    else
    if i2 = 2 then
      am_gp h_2 r0 7 3 fun p_8 =>
      am_gp h_2 p_8 2 12 fun p_9 =>
      am_ar h_2 9 p_9 i1 fun j_10 =>
      some (.inr (some (.int (am_I h_2 p_9 j_10))), h_2)
    else
    if i2 = 3 then
      am_gp h_2 r0 7 3 fun p_11 =>
      am_gp h_2 p_11 2 13 fun p_12 =>
      am_ar h_2 9 p_12 i1 fun j_13 =>
      some (.inr (some (.int (am_I h_2 p_12 j_13))), h_2)
    else
    am_gp h_2 r0 7 3 fun p_14 =>
    am_gp h_2 p_14 2 14 fun p_15 =>
    am_ar h_2 9 p_15 i1 fun j_16 =>
    some (.inr (some (.int (am_I h_2 p_15 j_16))), h_2)) := by
  refine (am_sem_seg (am_sm am_MT (d + 1)) m_Lc_axiom 16 0 [(0, .ref r0), (1, .int i1), (2, .int i2)] [] h).trans ?_
  rfl
set_option maxRecDepth 100000 in
theorem e_Lc_part (d : Nat) (h : am_H) (r0 : Nat) (i1 : Int32) (i2 : Int32) : f_Lc_part (d + 1) h r0 i1 i2 = (
    am_ck h r0 7 <| am_cv (f_Lc_needPart d h r0 i1) fun h_1 =>
    am_ck h_1 r0 7 <| am_cv (f_Lc_needWhat d h_1 r0 i2 2) fun h_2 =>
    if i2 = 0 then
      am_gp h_2 r0 7 3 fun p_3 =>
      am_gp h_2 p_3 2 4 fun p_4 =>
      am_ar h_2 9 p_4 i1 fun j_5 =>
      some (.inr (some (.int (am_I h_2 p_4 j_5))), h_2)
    else
    if i2 = 1 then
      am_gp h_2 r0 7 3 fun p_6 =>
      am_gp h_2 p_6 2 5 fun p_7 =>
      am_ar h_2 9 p_7 i1 fun j_8 =>
      some (.inr (some (.int (am_I h_2 p_7 j_8))), h_2)
    else
    am_gp h_2 r0 7 3 fun p_9 =>
    am_gp h_2 p_9 2 6 fun p_10 =>
    am_ar h_2 9 p_10 i1 fun j_11 =>
    some (.inr (some (.int (am_I h_2 p_10 j_11))), h_2)) := by
  refine (am_sem_seg (am_sm am_MT (d + 1)) m_Lc_part 15 0 [(0, .ref r0), (1, .int i1), (2, .int i2)] [] h).trans ?_
  rfl
set_option maxRecDepth 100000 in
theorem e_Lc_letter (d : Nat) (h : am_H) (r0 : Nat) (i1 : Int32) (i2 : Int32) (i3 : Int32) : f_Lc_letter (d + 1) h r0 i1 i2 i3 = (
    if i1 = 0 then
      f_Lc_letter_13 (d + 1) h r0 i1 i2 i3
    else
    if i1 = 1 then
      f_Lc_letter_13 (d + 1) h r0 i1 i2 i3
    else
    am_ck h r0 7 <| am_cv (f_Lc_refuseNoSuch d h r0) fun h_1 =>
    f_Lc_letter_13 (d + 1) h_1 r0 i1 i2 i3) := by
  refine (am_sem_seg (am_sm am_MT (d + 1)) m_Lc_letter 7 0 [(0, .ref r0), (1, .int i1), (2, .int i2), (3, .int i3)] [] h).trans ?_
  rfl
set_option maxRecDepth 100000 in
theorem e_Lc_letter_13 (d : Nat) (h : am_H) (r0 : Nat) (i1 : Int32) (i2 : Int32) (i3 : Int32) : f_Lc_letter_13 (d + 1) h r0 i1 i2 i3 = (
    if i1 = 0 then
      am_gp h r0 7 3 fun p_1 =>
      am_gp h p_1 2 0 fun p_2 =>
      am_ck h p_2 6 <| am_ci (f_Wo_letterAt d h p_2 i2 i3) fun x_4 h_3 =>
      if x_4 = (-1) then
        am_ck h_3 r0 7 <| am_cv (f_Lc_refuseNoSuch d h_3 r0) fun h_5 =>
        some (.inr (some (.int x_4)), h_5)
      else
      some (.inr (some (.int x_4)), h_3)
    else
    am_gp h r0 7 3 fun p_6 =>
    am_gp h p_6 2 1 fun p_7 =>
    am_ck h p_7 6 <| am_ci (f_Wo_letterAt d h p_7 i2 i3) fun x_9 h_8 =>
    if x_9 = (-1) then
      am_ck h_8 r0 7 <| am_cv (f_Lc_refuseNoSuch d h_8 r0) fun h_10 =>
      some (.inr (some (.int x_9)), h_10)
    else
    some (.inr (some (.int x_9)), h_8)) := by
  refine (am_sem_seg (am_sm am_MT (d + 1)) m_Lc_letter 19 13 [(0, .ref r0), (1, .int i1), (2, .int i2), (3, .int i3)] [] h).trans ?_
  rfl
set_option maxRecDepth 100000 in
theorem e_Lc_named (d : Nat) (h : am_H) (r0 : Nat) (i1 : Int32) : f_Lc_named (d + 1) h r0 i1 = (
    am_ck h r0 7 <| am_cv (f_Lc_needName d h r0 i1) fun h_1 =>
    am_gp h_1 r0 7 3 fun p_2 =>
    am_gp h_1 p_2 2 2 fun p_3 =>
    am_ar h_1 9 p_3 i1 fun j_4 =>
    some (.inr (some (.int (am_I h_1 p_3 j_4))), h_1)) := by
  refine (am_sem_seg (am_sm am_MT (d + 1)) m_Lc_named 9 0 [(0, .ref r0), (1, .int i1)] [] h).trans ?_
  rfl
set_option maxRecDepth 100000 in
theorem e_Lc_below (d : Nat) (h : am_H) (r0 : Nat) (i1 : Int32) (i2 : Int32) : f_Lc_below (d + 1) h r0 i1 i2 = (
    am_ck h r0 7 <| am_cv (f_Lc_needPart d h r0 i1) fun h_1 =>
    am_ck h_1 r0 7 <| am_cv (f_Lc_needPart d h_1 r0 i2) fun h_2 =>
    am_ck h_2 r0 7 <| am_cv (f_Lc_settle d h_2 r0) fun h_3 =>
    am_gp h_3 r0 7 11 fun p_4 =>
    am_ck h_3 p_4 5 <| am_ci (f_Sa_isBelow d h_3 p_4 i1 i2) fun x_6 h_5 =>
    am_01 x_6 (some (.inr (some (.int x_6)), h_5))) := by
  refine (am_sem_seg (am_sm am_MT (d + 1)) m_Lc_below 14 0 [(0, .ref r0), (1, .int i1), (2, .int i2)] [] h).trans ?_
  rfl
set_option maxRecDepth 100000 in
theorem e_Lc_when (d : Nat) (h : am_H) (r0 : Nat) (i1 : Int32) (i2 : Int32) : f_Lc_when (d + 1) h r0 i1 i2 = (
    am_ck h r0 7 <| am_cv (f_Lc_needPart d h r0 i1) fun h_1 =>
    am_ck h_1 r0 7 <| am_cv (f_Lc_needPart d h_1 r0 i2) fun h_2 =>
    am_ck h_2 r0 7 <| am_cv (f_Lc_settle d h_2 r0) fun h_3 =>
    am_gp h_3 r0 7 10 fun p_4 =>
    am_ar h_3 9 p_4 ((i1 * 60) + i2) fun j_5 =>
    if (am_I h_3 p_4 j_5) = (-1) then
      am_gp h_3 r0 7 10 fun p_6 =>
      am_ar h_3 9 p_6 ((i1 * 60) + 1) fun j_7 =>
      some (.inr (some (.int (am_I h_3 p_6 j_7))), h_3)
    else
    some (.inr (some (.int (am_I h_3 p_4 j_5))), h_3)) := by
  refine (am_sem_seg (am_sm am_MT (d + 1)) m_Lc_when 29 0 [(0, .ref r0), (1, .int i1), (2, .int i2)] [] h).trans ?_
  rfl
set_option maxRecDepth 100000 in
theorem e_Lc_why (d : Nat) (h : am_H) (r0 : Nat) (i1 : Int32) (i2 : Int32) (i3 : Int32) : f_Lc_why (d + 1) h r0 i1 i2 i3 = (
    am_ck h r0 7 <| am_cv (f_Lc_needPart d h r0 i1) fun h_1 =>
    am_ck h_1 r0 7 <| am_cv (f_Lc_needPart d h_1 r0 i2) fun h_2 =>
    am_ck h_2 r0 7 <| am_cv (f_Lc_needWhat d h_2 r0 i3 1) fun h_3 =>
    am_ck h_3 r0 7 <| am_cv (f_Lc_settle d h_3 r0) fun h_4 =>
    am_gp h_4 r0 7 10 fun p_5 =>
    am_ar h_4 9 p_5 ((i1 * 60) + i2) fun j_6 =>
    if (am_I h_4 p_5 j_6) = (-1) then
      some (.inr (some (.int (-1))), h_4)
    else
    if (am_I h_4 p_5 j_6) = 0 then
      if i3 = 0 then
        some (.inr (some (.int 0)), h_4)
      else
      some (.inr (some (.int (-1))), h_4)
    else
    am_gp h_4 r0 7 13 fun p_7 =>
    am_gp h_4 r0 7 3 fun p_8 =>
    am_gp h_4 r0 7 3 fun p_9 =>
    am_gl h_4 p_9 2 10 fun y_10 =>
    am_gp h_4 r0 7 3 fun p_11 =>
    am_ck h_4 p_11 2 <| am_cl (f_On_allParts d h_4 p_11) fun y_13 h_12 =>
    am_ck h_12 p_7 5 <| am_cv (f_Sa_begin d h_12 p_7 p_8 y_10 y_13) fun h_14 =>
    f_Lc_why_84 (d + 1) h_14 r0 i1 i2 i3 (am_I h_4 p_5 j_6) 1) := by
  refine (am_sem_seg (am_sm am_MT (d + 1)) m_Lc_why 39 0 [(0, .ref r0), (1, .int i1), (2, .int i2), (3, .int i3)] [] h).trans ?_
  rfl
set_option maxRecDepth 100000 in
theorem e_Lc_why_84 (d : Nat) (h : am_H) (r0 : Nat) (i1 : Int32) (i2 : Int32) (i3 : Int32) (i4 : Int32) (i5 : Int32) : f_Lc_why_84 (d + 1) h r0 i1 i2 i3 i4 i5 = (
    if i4 ≤ i5 then
      am_gp h r0 7 13 fun p_1 =>
      am_ck h p_1 5 <| am_ci (f_Sa_ruleFor d h p_1 i1 i2) fun x_3 h_2 =>
      if i3 = 0 then
        some (.inr (some (.int x_3)), h_2)
      else
      am_gp h_2 r0 7 13 fun p_4 =>
      am_ck h_2 p_4 5 <| am_ci (f_Sa_witnessOf d h_2 p_4 x_3 i1 i2) fun x_6 h_5 =>
      some (.inr (some (.int x_6)), h_5)
    else
    am_gp h r0 7 13 fun p_7 =>
    am_ck h p_7 5 <| am_cv (f_Sa_deriveAll d h p_7) fun h_8 =>
    am_gp h_8 r0 7 13 fun p_9 =>
    am_ck h_8 p_9 5 <| am_ci (f_Sa_commitAll d h_8 p_9) fun x_11 h_10 =>
    f_Lc_why_84 (d + 1) h_10 r0 i1 i2 i3 i4 (i5 + 1)) := by
  refine (am_sem_seg (am_sm am_MT (d + 1)) m_Lc_why 18 84 [(0, .ref r0), (1, .int i1), (2, .int i2), (3, .int i3), (4, .int i4), (5, .int i5)] [] h).trans ?_
  rfl
set_option maxRecDepth 100000 in
theorem e_Lc_link (d : Nat) (h : am_H) (r0 : Nat) (i1 : Int32) (i2 : Int32) (i3 : Int32) : f_Lc_link (d + 1) h r0 i1 i2 i3 = (
    am_ck h r0 7 <| am_cv (f_Lc_needPart d h r0 i1) fun h_1 =>
    am_ck h_1 r0 7 <| am_cv (f_Lc_needRole d h_1 r0 i2) fun h_2 =>
    am_ck h_2 r0 7 <| am_cv (f_Lc_needPart d h_2 r0 i3) fun h_3 =>
    am_ck h_3 r0 7 <| am_cv (f_Lc_settle d h_3 r0) fun h_4 =>
    am_gp h_4 r0 7 11 fun p_5 =>
    am_gp h_4 p_5 5 13 fun p_6 =>
    am_ar h_4 10 p_6 ((i1 * 8) + i2) fun j_7 =>
    if (lg_cmp ((am_lushr (am_L h_4 p_6 j_7) i3) &&& 1) 0) = 0 then
      am_01 0 (some (.inr (some (.int 0)), h_4))
    else
    am_01 1 (some (.inr (some (.int 1)), h_4))) := by
  refine (am_sem_seg (am_sm am_MT (d + 1)) m_Lc_link 30 0 [(0, .ref r0), (1, .int i1), (2, .int i2), (3, .int i3)] [] h).trans ?_
  rfl
set_option maxRecDepth 100000 in
theorem e_Lc_under (d : Nat) (h : am_H) (r0 : Nat) (i1 : Int32) : f_Lc_under (d + 1) h r0 i1 = (
    am_ck h r0 7 <| am_cv (f_Lc_needRole d h r0 i1) fun h_1 =>
    am_ck h_1 r0 7 <| am_cv (f_Lc_settle d h_1 r0) fun h_2 =>
    am_gp h_2 r0 7 11 fun p_3 =>
    am_gp h_2 p_3 5 10 fun p_4 =>
    am_ar h_2 9 p_4 i1 fun j_5 =>
    some (.inr (some (.int (am_I h_2 p_4 j_5))), h_2)) := by
  refine (am_sem_seg (am_sm am_MT (d + 1)) m_Lc_under 11 0 [(0, .ref r0), (1, .int i1)] [] h).trans ?_
  rfl
set_option maxRecDepth 100000 in
theorem e_Lc_node (d : Nat) (h : am_H) (r0 : Nat) (i1 : Int32) : f_Lc_node (d + 1) h r0 i1 = (
    am_ck h r0 7 <| am_cv (f_Lc_needName d h r0 i1) fun h_1 =>
    am_ck h_1 r0 7 <| am_cv (f_Lc_settle d h_1 r0) fun h_2 =>
    am_gp h_2 r0 7 12 fun p_3 =>
    am_gp h_2 p_3 0 2 fun p_4 =>
    am_ar h_2 9 p_4 i1 fun j_5 =>
    some (.inr (some (.int (am_I h_2 p_4 j_5))), h_2)) := by
  refine (am_sem_seg (am_sm am_MT (d + 1)) m_Lc_node 11 0 [(0, .ref r0), (1, .int i1)] [] h).trans ?_
  rfl
set_option maxRecDepth 100000 in
theorem e_Lc_nodeOf (d : Nat) (h : am_H) (r0 : Nat) (i1 : Int32) (i2 : Int32) : f_Lc_nodeOf (d + 1) h r0 i1 i2 = (
    am_ck h r0 7 <| am_cv (f_Lc_settle d h r0) fun h_1 =>
    if i1 < 0 then
      am_ck h_1 r0 7 <| am_cv (f_Lc_refuseNoSuch d h_1 r0) fun h_2 =>
      f_Lc_nodeOf_23 (d + 1) h_2 r0 i1 i2
    else
    am_gp h_1 r0 7 12 fun p_3 =>
    am_gi h_1 p_3 0 0 fun x_4 =>
    if i1 < x_4 then
      f_Lc_nodeOf_23 (d + 1) h_1 r0 i1 i2
    else
    am_ck h_1 r0 7 <| am_cv (f_Lc_refuseNoSuch d h_1 r0) fun h_5 =>
    f_Lc_nodeOf_23 (d + 1) h_5 r0 i1 i2) := by
  refine (am_sem_seg (am_sm am_MT (d + 1)) m_Lc_nodeOf 11 0 [(0, .ref r0), (1, .int i1), (2, .int i2)] [] h).trans ?_
  rfl
set_option maxRecDepth 100000 in
theorem e_Lc_nodeOf_23 (d : Nat) (h : am_H) (r0 : Nat) (i1 : Int32) (i2 : Int32) : f_Lc_nodeOf_23 (d + 1) h r0 i1 i2 = (
    am_ck h r0 7 <| am_cv (f_Lc_needWhat d h r0 i2 5) fun h_1 =>
    if i2 = 0 then
      am_gp h_1 r0 7 12 fun p_2 =>
      am_gp h_1 p_2 0 4 fun p_3 =>
      am_ar h_1 9 p_3 i1 fun j_4 =>
      some (.inr (some (.int (am_I h_1 p_3 j_4))), h_1)
    else
    if i2 = 1 then
      am_gp h_1 r0 7 12 fun p_5 =>
      am_gp h_1 p_5 0 6 fun p_6 =>
      am_ar h_1 9 p_6 i1 fun j_7 =>
      some (.inr (some (.int (am_I h_1 p_6 j_7))), h_1)
    else
    if i2 = 2 then
      am_gp h_1 r0 7 12 fun p_8 =>
      am_ck h_1 p_8 0 <| am_ci (f_Hi_childrenOf d h_1 p_8 i1) fun x_10 h_9 =>
      some (.inr (some (.int x_10)), h_9)
    else
    if i2 = 3 then
      am_gp h_1 r0 7 12 fun p_11 =>
      am_gp h_1 p_11 0 5 fun p_12 =>
      am_ar h_1 9 p_12 i1 fun j_13 =>
      some (.inr (some (.int (am_I h_1 p_12 j_13))), h_1)
    else
    if i2 = 4 then
      am_gp h_1 r0 7 12 fun p_14 =>
      am_ck h_1 p_14 0 <| am_ci (f_Hi_allUnder d h_1 p_14 i1) fun x_16 h_15 =>
      some (.inr (some (.int x_16)), h_15)
    else
    am_gp h_1 r0 7 12 fun p_17 =>
    am_ck h_1 p_17 0 <| am_ci (f_Hi_depth d h_1 p_17 i1) fun x_19 h_18 =>
    some (.inr (some (.int x_19)), h_18)) := by
  refine (am_sem_seg (am_sm am_MT (d + 1)) m_Lc_nodeOf 12 23 [(0, .ref r0), (1, .int i1), (2, .int i2)] [] h).trans ?_
  rfl
set_option maxRecDepth 100000 in
theorem e_Lc_nothing (d : Nat) (h : am_H) (r0 : Nat) : f_Lc_nothing (d + 1) h r0 = (
    am_ck h r0 7 <| am_cv (f_Lc_settle d h r0) fun h_1 =>
    am_gp h_1 r0 7 12 fun p_2 =>
    am_gi h_1 p_2 0 1 fun x_3 =>
    some (.inr (some (.int x_3)), h_1)) := by
  refine (am_sem_seg (am_sm am_MT (d + 1)) m_Lc_nothing 6 0 [(0, .ref r0)] [] h).trans ?_
  rfl
set_option maxRecDepth 100000 in
theorem e_Lc_common (d : Nat) (h : am_H) (r0 : Nat) (i1 : Int32) (i2 : Int32) : f_Lc_common (d + 1) h r0 i1 i2 = (
    am_ck h r0 7 <| am_cv (f_Lc_needName d h r0 i1) fun h_1 =>
    am_ck h_1 r0 7 <| am_cv (f_Lc_needName d h_1 r0 i2) fun h_2 =>
    am_ck h_2 r0 7 <| am_cv (f_Lc_settle d h_2 r0) fun h_3 =>
    am_gp h_3 r0 7 12 fun p_4 =>
    am_gp h_3 p_4 0 2 fun p_5 =>
    am_ar h_3 9 p_5 i1 fun j_6 =>
    if (am_I h_3 p_5 j_6) = (-1) then
      am_ck h_3 r0 7 <| am_cv (f_Lc_refuseState d h_3 r0) fun h_7 =>
      am_gp h_7 r0 7 12 fun p_8 =>
      am_ck h_7 p_8 0 <| am_ci (f_Hi_commonOf d h_7 p_8 i1 i2) fun x_10 h_9 =>
      some (.inr (some (.int x_10)), h_9)
    else
    am_gp h_3 r0 7 12 fun p_11 =>
    am_gp h_3 p_11 0 2 fun p_12 =>
    am_ar h_3 9 p_12 i2 fun j_13 =>
    if (am_I h_3 p_12 j_13) = (-1) then
      am_ck h_3 r0 7 <| am_cv (f_Lc_refuseState d h_3 r0) fun h_14 =>
      am_gp h_14 r0 7 12 fun p_15 =>
      am_ck h_14 p_15 0 <| am_ci (f_Hi_commonOf d h_14 p_15 i1 i2) fun x_17 h_16 =>
      some (.inr (some (.int x_17)), h_16)
    else
    am_gp h_3 r0 7 12 fun p_18 =>
    am_ck h_3 p_18 0 <| am_ci (f_Hi_commonOf d h_3 p_18 i1 i2) fun x_20 h_19 =>
    some (.inr (some (.int x_20)), h_19)) := by
  refine (am_sem_seg (am_sm am_MT (d + 1)) m_Lc_common 30 0 [(0, .ref r0), (1, .int i1), (2, .int i2)] [] h).trans ?_
  rfl
set_option maxRecDepth 100000 in
theorem e_Lc_needed (d : Nat) (h : am_H) (r0 : Nat) (i1 : Int32) (i2 : Int32) : f_Lc_needed (d + 1) h r0 i1 i2 = (
    am_ck h r0 7 <| am_cv (f_Lc_needName d h r0 i1) fun h_1 =>
    am_ck h_1 r0 7 <| am_cv (f_Lc_needName d h_1 r0 i2) fun h_2 =>
    am_ck h_2 r0 7 <| am_cv (f_Lc_aimReasons d h_2 r0 i1 i2) fun h_3 =>
    am_gp h_3 r0 7 15 fun p_4 =>
    am_ck h_3 p_4 4 <| am_cl (f_Rs_neededAlone d h_3 p_4) fun y_6 h_5 =>
    some (.inr (some (.long y_6)), h_5)) := by
  refine (am_sem_seg (am_sm am_MT (d + 1)) m_Lc_needed 14 0 [(0, .ref r0), (1, .int i1), (2, .int i2)] [] h).trans ?_
  rfl
set_option maxRecDepth 100000 in
theorem e_Lc_enough (d : Nat) (h : am_H) (r0 : Nat) (i1 : Int32) (i2 : Int32) : f_Lc_enough (d + 1) h r0 i1 i2 = (
    am_ck h r0 7 <| am_cv (f_Lc_needName d h r0 i1) fun h_1 =>
    am_ck h_1 r0 7 <| am_cv (f_Lc_needName d h_1 r0 i2) fun h_2 =>
    am_ck h_2 r0 7 <| am_cv (f_Lc_aimReasons d h_2 r0 i1 i2) fun h_3 =>
    am_gp h_3 r0 7 15 fun p_4 =>
    am_gi h_3 p_4 4 8 fun x_5 =>
    if x_5 = 0 then
      some (.inr (some (.long (-1))), h_3)
    else
    am_gp h_3 r0 7 15 fun p_6 =>
    am_gp h_3 r0 7 15 fun p_7 =>
    am_gl h_3 p_7 4 9 fun y_8 =>
    am_ck h_3 p_6 4 <| am_cl (f_Rs_shrink d h_3 p_6 y_8) fun y_10 h_9 =>
    some (.inr (some (.long y_10)), h_9)) := by
  refine (am_sem_seg (am_sm am_MT (d + 1)) m_Lc_enough 22 0 [(0, .ref r0), (1, .int i1), (2, .int i2)] [] h).trans ?_
  rfl
set_option maxRecDepth 100000 in
theorem e_Lc_reason (d : Nat) (h : am_H) (r0 : Nat) (i1 : Int32) (i2 : Int32) (i3 : Int32) : f_Lc_reason (d + 1) h r0 i1 i2 i3 = (
    am_ck h r0 7 <| am_cv (f_Lc_needName d h r0 i1) fun h_1 =>
    am_ck h_1 r0 7 <| am_cv (f_Lc_needName d h_1 r0 i2) fun h_2 =>
    am_ck h_2 r0 7 <| am_cv (f_Lc_aimReasons d h_2 r0 i1 i2) fun h_3 =>
    am_gp h_3 r0 7 15 fun p_4 =>
    am_ck h_3 p_4 4 <| am_cv (f_Rs_findAll d h_3 p_4) fun h_5 =>
    if i3 = (-1) then
      am_gp h_5 r0 7 15 fun p_6 =>
      am_gi h_5 p_6 4 1 fun x_7 =>
      if x_7 ≤ 4 then
        am_gp h_5 r0 7 15 fun p_8 =>
        am_gi h_5 p_8 4 1 fun x_9 =>
        some (.inr (some (.long (Int32.toInt64 x_9))), h_5)
      else
      some (.inr (some (.long (-3))), h_5)
    else
    if i3 < 0 then
      some (.inr (some (.long (-1))), h_5)
    else
    am_gp h_5 r0 7 15 fun p_10 =>
    am_gi h_5 p_10 4 1 fun x_11 =>
    if x_11 ≤ i3 then
      some (.inr (some (.long (-1))), h_5)
    else
    am_gp h_5 r0 7 15 fun p_12 =>
    am_gi h_5 p_12 4 1 fun x_13 =>
    if x_13 ≤ 4 then
      am_gp h_5 r0 7 15 fun p_14 =>
      am_gp h_5 p_14 4 0 fun p_15 =>
      am_ar h_5 10 p_15 i3 fun j_16 =>
      some (.inr (some (.long (am_L h_5 p_15 j_16))), h_5)
    else
    some (.inr (some (.long (-1))), h_5)) := by
  refine (am_sem_seg (am_sm am_MT (d + 1)) m_Lc_reason 34 0 [(0, .ref r0), (1, .int i1), (2, .int i2), (3, .int i3)] [] h).trans ?_
  rfl
set_option maxRecDepth 100000 in
theorem e_Lc_repair (d : Nat) (h : am_H) (r0 : Nat) (i1 : Int32) (i2 : Int32) : f_Lc_repair (d + 1) h r0 i1 i2 = (
    am_ck h r0 7 <| am_cv (f_Lc_needName d h r0 i1) fun h_1 =>
    am_ck h_1 r0 7 <| am_cv (f_Lc_needName d h_1 r0 i2) fun h_2 =>
    am_ck h_2 r0 7 <| am_cv (f_Lc_aimReasons d h_2 r0 i1 i2) fun h_3 =>
    am_gp h_3 r0 7 15 fun p_4 =>
    am_ck h_3 p_4 4 <| am_cv (f_Rs_findAll d h_3 p_4) fun h_5 =>
    am_gp h_5 r0 7 15 fun p_6 =>
    am_gi h_5 p_6 4 1 fun x_7 =>
    if x_7 = 0 then
      some (.inr (some (.long (-1))), h_5)
    else
    am_gp h_5 r0 7 15 fun p_8 =>
    am_gi h_5 p_8 4 1 fun x_9 =>
    if x_9 ≤ 4 then
      am_gp h_5 r0 7 15 fun p_10 =>
      am_gp h_5 p_10 4 0 fun p_11 =>
      am_ar h_5 10 p_11 0 fun j_12 =>
      if (lg_cmp (am_L h_5 p_11 j_12) 0) = 0 then
        some (.inr (some (.long (-2))), h_5)
      else
      am_gp h_5 r0 7 15 fun p_13 =>
      am_ck h_5 p_13 4 <| am_cl (f_Rs_leastCut d h_5 p_13) fun y_15 h_14 =>
      some (.inr (some (.long y_15)), h_14)
    else
    some (.inr (some (.long (-3))), h_5)) := by
  refine (am_sem_seg (am_sm am_MT (d + 1)) m_Lc_repair 34 0 [(0, .ref r0), (1, .int i1), (2, .int i2)] [] h).trans ?_
  rfl
set_option maxRecDepth 100000 in
theorem e_Lc_likeness (d : Nat) (h : am_H) (r0 : Nat) (i1 : Int32) (i2 : Int32) (i3 : Int32) : f_Lc_likeness (d + 1) h r0 i1 i2 i3 = (
    am_ck h r0 7 <| am_cv (f_Lc_needName d h r0 i1) fun h_1 =>
    am_ck h_1 r0 7 <| am_cv (f_Lc_needName d h_1 r0 i2) fun h_2 =>
    am_ck h_2 r0 7 <| am_cv (f_Lc_needWhat d h_2 r0 i3 1) fun h_3 =>
    am_ck h_3 r0 7 <| am_cv (f_Lc_settle d h_3 r0) fun h_4 =>
    am_gp h_4 r0 7 11 fun p_5 =>
    am_gp h_4 r0 7 3 fun p_6 =>
    am_gp h_4 p_6 2 2 fun p_7 =>
    am_ar h_4 9 p_7 i1 fun j_8 =>
    am_ck h_4 r0 7 <| am_ci (f_Lc_namesOver d h_4 r0 p_5 (am_I h_4 p_7 j_8)) fun x_10 h_9 =>
    am_gp h_9 r0 7 11 fun p_11 =>
    am_gp h_9 r0 7 3 fun p_12 =>
    am_gp h_9 p_12 2 2 fun p_13 =>
    am_ar h_9 9 p_13 i2 fun j_14 =>
    am_ck h_9 r0 7 <| am_ci (f_Lc_namesOver d h_9 r0 p_11 (am_I h_9 p_13 j_14)) fun x_16 h_15 =>
    am_ci (f_In_bitCount d h_15 (x_10 &&& x_16)) fun x_18 h_17 =>
    am_ci (f_In_bitCount d h_17 (x_10 ||| x_16)) fun x_20 h_19 =>
    if i3 = 0 then
      am_ci (f_Lc_inLowestTerms d h_19 x_18 x_20) fun x_22 h_21 =>
      some (.inr (some (.int x_22)), h_21)
    else
    am_ci (f_Lc_inLowestTerms d h_19 x_20 x_18) fun x_24 h_23 =>
    some (.inr (some (.int x_24)), h_23)) := by
  refine (am_sem_seg (am_sm am_MT (d + 1)) m_Lc_likeness 49 0 [(0, .ref r0), (1, .int i1), (2, .int i2), (3, .int i3)] [] h).trans ?_
  rfl
set_option maxRecDepth 100000 in
theorem e_Lc_atom (d : Nat) (h : am_H) (r0 : Nat) (i1 : Int32) : f_Lc_atom (d + 1) h r0 i1 = (
    am_ck h r0 7 <| am_cv (f_Lc_needAxiom d h r0 i1) fun h_1 =>
    am_ck h_1 r0 7 <| am_ci (f_Lc_isOn d h_1 r0 i1) fun x_3 h_2 =>
    if x_3 = 0 then
      some (.inr (some (.int (-1))), h_2)
    else
    am_gp h_2 r0 7 16 fun p_4 =>
    am_gp h_2 r0 7 3 fun p_5 =>
    am_ck h_2 p_4 1 <| am_cl (f_Mo_ofAxiom d h_2 p_4 p_5 i1) fun y_7 h_6 =>
    f_Lc_atom_31 (d + 1) h_6 r0 i1 y_7 0) := by
  refine (am_sem_seg (am_sm am_MT (d + 1)) m_Lc_atom 16 0 [(0, .ref r0), (1, .int i1)] [] h).trans ?_
  rfl
set_option maxRecDepth 100000 in
theorem e_Lc_atom_31 (d : Nat) (h : am_H) (r0 : Nat) (i1 : Int32) (l2 : Int64) (i4 : Int32) : f_Lc_atom_31 (d + 1) h r0 i1 l2 i4 = (
    if i1 ≤ i4 then
      some (.inr (some (.int i1)), h)
    else
    am_ck h r0 7 <| am_ci (f_Lc_isOn d h r0 i4) fun x_2 h_1 =>
    if x_2 = 0 then
      f_Lc_atom_31 (d + 1) h_1 r0 i1 l2 (i4 + 1)
    else
    am_gp h_1 r0 7 16 fun p_3 =>
    am_gp h_1 r0 7 3 fun p_4 =>
    am_ck h_1 p_3 1 <| am_cl (f_Mo_ofAxiom d h_1 p_3 p_4 i4) fun y_6 h_5 =>
    if (lg_cmp y_6 l2) = 0 then
      some (.inr (some (.int i4)), h_5)
    else
    f_Lc_atom_31 (d + 1) h_5 r0 i1 l2 (i4 + 1)) := by
  refine (am_sem_seg (am_sm am_MT (d + 1)) m_Lc_atom 18 31 [(0, .ref r0), (1, .int i1), (2, .long l2), (4, .int i4)] [] h).trans ?_
  rfl
set_option maxRecDepth 100000 in
theorem e_Lc_depends (d : Nat) (h : am_H) (r0 : Nat) (i1 : Int32) : f_Lc_depends (d + 1) h r0 i1 = (
    am_ck h r0 7 <| am_cv (f_Lc_needAxiom d h r0 i1) fun h_1 =>
    am_ck h_1 r0 7 <| am_ci (f_Lc_isOn d h_1 r0 i1) fun x_3 h_2 =>
    if x_3 = 0 then
      some (.inr (some (.long 0)), h_2)
    else
    am_gp h_2 r0 7 16 fun p_4 =>
    am_gp h_2 r0 7 3 fun p_5 =>
    am_ck h_2 p_4 1 <| am_cl (f_Mo_ofAxiom d h_2 p_4 p_5 i1) fun y_7 h_6 =>
    some (.inr (some (.long y_7)), h_6)) := by
  refine (am_sem_seg (am_sm am_MT (d + 1)) m_Lc_depends 15 0 [(0, .ref r0), (1, .int i1)] [] h).trans ?_
  rfl
set_option maxRecDepth 100000 in
theorem e_Lc_module (d : Nat) (h : am_H) (r0 : Nat) (i1 : Int32) (i2 : Int32) (i3 : Int32) : f_Lc_module (d + 1) h r0 i1 i2 i3 = (
    am_gp h r0 7 3 fun p_1 =>
    am_gp h p_1 2 0 fun p_2 =>
    am_gi h p_2 6 2 fun x_3 =>
    if (am_iushr i1 x_3) = 0 then
      am_gp h r0 7 3 fun p_4 =>
      am_gp h p_4 2 1 fun p_5 =>
      am_gi h p_5 6 2 fun x_6 =>
      if (am_iushr i2 x_6) = 0 then
        if i3 < 0 then
          am_ck h r0 7 <| am_cv (f_Lc_refuseArgument d h r0) fun h_7 =>
          f_Lc_module_55 (d + 1) h_7 r0 i1 i2 i3
        else
        if 2 < i3 then
          am_ck h r0 7 <| am_cv (f_Lc_refuseArgument d h r0) fun h_8 =>
          f_Lc_module_55 (d + 1) h_8 r0 i1 i2 i3
        else
        if (1 : Int32) = 0 then
          am_ck h r0 7 <| am_cv (f_Lc_refuseArgument d h r0) fun h_9 =>
          f_Lc_module_55 (d + 1) h_9 r0 i1 i2 i3
        else
        f_Lc_module_55 (d + 1) h r0 i1 i2 i3
      else
      if i3 < 0 then
        am_ck h r0 7 <| am_cv (f_Lc_refuseArgument d h r0) fun h_10 =>
        f_Lc_module_55 (d + 1) h_10 r0 i1 i2 i3
      else
      if 2 < i3 then
        am_ck h r0 7 <| am_cv (f_Lc_refuseArgument d h r0) fun h_11 =>
        f_Lc_module_55 (d + 1) h_11 r0 i1 i2 i3
      else
      if (0 : Int32) = 0 then
        am_ck h r0 7 <| am_cv (f_Lc_refuseArgument d h r0) fun h_12 =>
        f_Lc_module_55 (d + 1) h_12 r0 i1 i2 i3
      else
      f_Lc_module_55 (d + 1) h r0 i1 i2 i3
    else
    if i3 < 0 then
      am_ck h r0 7 <| am_cv (f_Lc_refuseArgument d h r0) fun h_13 =>
      f_Lc_module_55 (d + 1) h_13 r0 i1 i2 i3
    else
    if 2 < i3 then
      am_ck h r0 7 <| am_cv (f_Lc_refuseArgument d h r0) fun h_14 =>
      f_Lc_module_55 (d + 1) h_14 r0 i1 i2 i3
    else
    if (0 : Int32) = 0 then
      am_ck h r0 7 <| am_cv (f_Lc_refuseArgument d h r0) fun h_15 =>
      f_Lc_module_55 (d + 1) h_15 r0 i1 i2 i3
    else
    f_Lc_module_55 (d + 1) h r0 i1 i2 i3) := by
  refine (am_sem_seg (am_sm am_MT (d + 1)) m_Lc_module 26 0 [(0, .ref r0), (1, .int i1), (2, .int i2), (3, .int i3)] [] h).trans ?_
  rfl
set_option maxRecDepth 100000 in
theorem e_Lc_module_55 (d : Nat) (h : am_H) (r0 : Nat) (i1 : Int32) (i2 : Int32) (i3 : Int32) : f_Lc_module_55 (d + 1) h r0 i1 i2 i3 = (
    if i3 = 2 then
      am_gp h r0 7 16 fun p_1 =>
      am_gp h r0 7 3 fun p_2 =>
      am_ck h p_1 1 <| am_cl (f_Mo_inTurn d h p_1 p_2 i1 i2) fun y_4 h_3 =>
      some (.inr (some (.long y_4)), h_3)
    else
    am_gp h r0 7 16 fun p_5 =>
    am_gp h r0 7 3 fun p_6 =>
    am_gp h r0 7 3 fun p_7 =>
    am_gl h p_7 2 10 fun y_8 =>
    if i3 = 1 then
      am_ck h p_5 1 <| am_cl (f_Mo_cut d h p_5 p_6 y_8 i1 i2 1) fun y_10 h_9 =>
      some (.inr (some (.long y_10)), h_9)
    else
    am_ck h p_5 1 <| am_cl (f_Mo_cut d h p_5 p_6 y_8 i1 i2 0) fun y_12 h_11 =>
    some (.inr (some (.long y_12)), h_11)) := by
  refine (am_sem_seg (am_sm am_MT (d + 1)) m_Lc_module 19 55 [(0, .ref r0), (1, .int i1), (2, .int i2), (3, .int i3)] [] h).trans ?_
  rfl
set_option maxRecDepth 100000 in
theorem e_Lc_ask (d : Nat) (h : am_H) (r0 : Nat) (i1 : Int32) : f_Lc_ask (d + 1) h r0 i1 = (
    am_ck h r0 7 <| am_cv (f_Lc_needBytes d h r0 i1) fun h_1 =>
    am_gp h_1 r0 7 3 fun p_2 =>
    am_gi h_1 p_2 2 3 fun x_3 =>
    am_gp h_1 r0 7 5 fun p_4 =>
    am_gp h_1 r0 7 3 fun p_5 =>
    am_ck h_1 p_4 3 <| am_cv (f_Re_open d h_1 p_4 i1 p_5 1) fun h_6 =>
    am_gp h_6 r0 7 5 fun p_7 =>
    am_ck h_6 p_7 3 <| am_cv (f_Re_readQuestion d h_6 p_7) fun h_8 =>
    am_ck h_8 r0 7 <| am_cv (f_Lc_takeQuestion d h_8 r0) fun h_9 =>
    am_gp h_9 r0 7 5 fun p_10 =>
    am_gi h_9 p_10 3 9 fun x_11 =>
    am_gp h_9 r0 7 5 fun p_12 =>
    am_gi h_9 p_12 3 9 fun x_13 =>
    if x_13 = 0 then
      am_gp h_9 r0 7 13 fun p_14 =>
      am_gp h_9 r0 7 3 fun p_15 =>
      am_gp h_9 r0 7 3 fun p_16 =>
      am_gl h_9 p_16 2 10 fun y_17 =>
      am_gp h_9 r0 7 5 fun p_18 =>
      am_gi h_9 p_18 3 12 fun x_19 =>
      am_gp h_9 r0 7 5 fun p_20 =>
      am_gi h_9 p_20 3 13 fun x_21 =>
      am_ck h_9 p_14 5 <| am_ci (f_Sa_entails d h_9 p_14 p_15 y_17 x_19 x_21) fun x_23 h_22 =>
      if x_23 = 0 then
        am_gp h_22 r0 7 3 fun p_24 =>
        am_ck h_22 p_24 2 <|
        some (.inr (some (.int 0)), (am_sI h_22 p_24 3 x_3))
      else
      am_gp h_22 r0 7 3 fun p_25 =>
      am_ck h_22 p_25 2 <|
      some (.inr (some (.int 1)), (am_sI h_22 p_25 3 x_3))
    else
    am_gp h_9 r0 7 3 fun p_26 =>
    am_ck h_9 p_26 2 <|
    some (.inr (some (.int (x_11 - 10))), (am_sI h_9 p_26 3 x_3))) := by
  refine (am_sem_seg (am_sm am_MT (d + 1)) m_Lc_ask 53 0 [(0, .ref r0), (1, .int i1)] [] h).trans ?_
  rfl
set_option maxRecDepth 100000 in
theorem e_Lc_of (d : Nat) (h : am_H) (r0 : Nat) (i1 : Int32) (i2 : Int32) : f_Lc_of (d + 1) h r0 i1 i2 = (
    am_ck h r0 7 <| am_cv (f_Lc_needWhat d h r0 i1 2) fun h_1 =>
    am_ck h_1 r0 7 <| am_cv (f_Lc_needBytes d h_1 r0 i2) fun h_2 =>
    am_gp h_2 r0 7 3 fun p_3 =>
    am_gi h_2 p_3 2 3 fun x_4 =>
    am_ck h_2 r0 7 <| am_cv (f_Lc_readOneConcept d h_2 r0 i2) fun h_5 =>
    am_gp h_5 r0 7 5 fun p_6 =>
    am_gi h_5 p_6 3 9 fun x_7 =>
    am_gp h_5 r0 7 5 fun p_8 =>
    am_gi h_5 p_8 3 9 fun x_9 =>
    if x_9 = 0 then
      am_gp h_5 r0 7 5 fun p_10 =>
      am_gi h_5 p_10 3 12 fun x_11 =>
      am_ck h_5 r0 7 <| am_ci (f_Lc_answerOf d h_5 r0 i1 x_11) fun x_13 h_12 =>
      am_gp h_12 r0 7 3 fun p_14 =>
      am_ck h_12 p_14 2 <|
      some (.inr (some (.int x_13)), (am_sI h_12 p_14 3 x_4))
    else
    am_gp h_5 r0 7 3 fun p_15 =>
    am_ck h_5 p_15 2 <|
    some (.inr (some (.int (x_7 - 10))), (am_sI h_5 p_15 3 x_4))) := by
  refine (am_sem_seg (am_sm am_MT (d + 1)) m_Lc_of 37 0 [(0, .ref r0), (1, .int i1), (2, .int i2)] [] h).trans ?_
  rfl
set_option maxRecDepth 100000 in
theorem e_Lc_model (d : Nat) (h : am_H) (r0 : Nat) (i1 : Int32) : f_Lc_model (d + 1) h r0 i1 = (
    am_ck h r0 7 <| am_cv (f_Lc_needBytes d h r0 i1) fun h_1 =>
    am_gp h_1 r0 7 3 fun p_2 =>
    am_gi h_1 p_2 2 3 fun x_3 =>
    am_gp h_1 r0 7 3 fun p_4 =>
    am_ck h_1 p_4 2 <| am_cl (f_On_allParts d h_1 p_4) fun y_6 h_5 =>
    am_ck h_5 r0 7 <| am_cv (f_Lc_readOneConcept d h_5 r0 i1) fun h_7 =>
    am_gp h_7 r0 7 5 fun p_8 =>
    am_gi h_7 p_8 3 9 fun x_9 =>
    am_gp h_7 r0 7 5 fun p_10 =>
    am_gi h_7 p_10 3 9 fun x_11 =>
    if x_11 = 0 then
      am_gp h_7 r0 7 5 fun p_12 =>
      am_gi h_7 p_12 3 12 fun x_13 =>
      am_ck h_7 r0 7 <| am_cl (f_Lc_extentOf d h_7 r0 x_13) fun y_15 h_14 =>
      am_gp h_14 r0 7 3 fun p_16 =>
      am_ck h_14 p_16 2 <|
      some (.inr (some (.long (y_15 &&& y_6))), (am_sI h_14 p_16 3 x_3))
    else
    am_gp h_7 r0 7 3 fun p_17 =>
    am_ck h_7 p_17 2 <|
    some (.inr (some (.long (Int32.toInt64 (x_9 - 10)))), (am_sI h_7 p_17 3 x_3))) := by
  refine (am_sem_seg (am_sm am_MT (d + 1)) m_Lc_model 39 0 [(0, .ref r0), (1, .int i1)] [] h).trans ?_
  rfl
set_option maxRecDepth 100000 in
theorem e_Lc_print (d : Nat) (h : am_H) (r0 : Nat) : f_Lc_print (d + 1) h r0 = (
    am_ck h r0 7 <| am_cv (f_Lc_settle d h r0) fun h_1 =>
    f_Lc_print_8 (d + 1) h_1 r0 0 0) := by
  refine (am_sem_seg (am_sm am_MT (d + 1)) m_Lc_print 6 0 [(0, .ref r0)] [] h).trans ?_
  rfl
set_option maxRecDepth 100000 in
theorem e_Lc_print_8 (d : Nat) (h : am_H) (r0 : Nat) (l1 : Int64) (i3 : Int32) : f_Lc_print_8 (d + 1) h r0 l1 i3 = (
    am_gp h r0 7 3 fun p_1 =>
    am_gi h p_1 2 3 fun x_2 =>
    if x_2 ≤ i3 then
      some (.inr (some (.long l1)), h)
    else
    am_gp h r0 7 11 fun p_3 =>
    am_gp h p_3 5 11 fun p_4 =>
    am_ar h 10 p_4 i3 fun j_5 =>
    am_ci (f_Lo_bitCount d h (am_L h p_4 j_5)) fun x_7 h_6 =>
    am_gp h_6 r0 7 11 fun p_8 =>
    am_ck h_6 p_8 5 <| am_ci (f_Sa_linksFrom d h_6 p_8 i3) fun x_10 h_9 =>
    f_Lc_print_8 (d + 1) h_9 r0 ((((l1 * 31) + (Int32.toInt64 x_7)) * 31) + (Int32.toInt64 x_10)) (i3 + 1)) := by
  refine (am_sem_seg (am_sm am_MT (d + 1)) m_Lc_print 29 8 [(0, .ref r0), (1, .long l1), (3, .int i3)] [] h).trans ?_
  rfl
set_option maxRecDepth 100000 in
theorem e_Lc_status (d : Nat) (h : am_H) (r0 : Nat) (i1 : Int32) : f_Lc_status d h r0 i1 = (
    if i1 < 0 then
      some (.inr (some (.int (-1))), h)
    else
    if i1 ≤ 2 then
      am_gp h r0 7 17 fun p_1 =>
      am_ar h 9 p_1 i1 fun j_2 =>
      some (.inr (some (.int (am_I h p_1 j_2))), h)
    else
    some (.inr (some (.int (-1))), h)) := by
  refine (am_sem_seg (am_sm am_MT d) m_Lc_status 10 0 [(0, .ref r0), (1, .int i1)] [] h).trans ?_
  rfl
set_option maxRecDepth 100000 in
theorem e_Lc_putBytes (d : Nat) (h : am_H) (r0 : Nat) (i1 : Int32) : f_Lc_putBytes d h r0 i1 = (
    f_Lc_putBytes_3 d h r0 i1 24) := by
  refine (am_sem_seg (am_sm am_MT d) m_Lc_putBytes 2 0 [(0, .ref r0), (1, .int i1)] [] h).trans ?_
  rfl
set_option maxRecDepth 100000 in
theorem e_Lc_putBytes_3 (d : Nat) (h : am_H) (r0 : Nat) (i1 : Int32) (i2 : Int32) : f_Lc_putBytes_3 d h r0 i1 i2 = (
    if i2 < 0 then
      some (.inr none, h)
    else
    am_gi h r0 7 1 fun x_1 =>
    if 400 ≤ x_1 then
      f_Lc_putBytes_3 d h r0 i1 (i2 + (-8))
    else
    am_gp h r0 7 0 fun p_2 =>
    am_gi h r0 7 1 fun x_3 =>
    am_ar h 11 p_2 x_3 fun j_4 =>
    am_gi (am_sI h p_2 j_4 (vp_nar .byte (Int8.toInt32 (Int32.toInt8 (am_iushr i1 i2))))) r0 7 1 fun x_5 =>
    am_ck (am_sI h p_2 j_4 (vp_nar .byte (Int8.toInt32 (Int32.toInt8 (am_iushr i1 i2))))) r0 7 <|
    f_Lc_putBytes_3 d (am_sI (am_sI h p_2 j_4 (vp_nar .byte (Int8.toInt32 (Int32.toInt8 (am_iushr i1 i2))))) r0 1 (x_5 + 1)) r0 i1 (i2 + (-8))) := by
  refine (am_sem_seg (am_sm am_MT d) m_Lc_putBytes 23 3 [(0, .ref r0), (1, .int i1), (2, .int i2)] [] h).trans ?_
  rfl
set_option maxRecDepth 100000 in
theorem e_Lc_refuseNoSuch (d : Nat) (h : am_H) (r0 : Nat) : f_Lc_refuseNoSuch d h r0 = (
    am_gp h r0 7 17 fun p_1 =>
    am_ar h 9 p_1 0 fun j_2 =>
    am_ar h 9 p_1 0 fun j_3 =>
    some (.inl 0, am_gb (am_sI h p_1 j_3 ((am_I h p_1 j_2) + 1)))) := by
  refine (am_sem_seg (am_sm am_MT d) m_Lc_refuseNoSuch 9 0 [(0, .ref r0)] [] h).trans ?_
  rfl
set_option maxRecDepth 100000 in
theorem e_Lc_refuseArgument (d : Nat) (h : am_H) (r0 : Nat) : f_Lc_refuseArgument d h r0 = (
    am_gp h r0 7 17 fun p_1 =>
    am_ar h 9 p_1 1 fun j_2 =>
    am_ar h 9 p_1 1 fun j_3 =>
    some (.inl 1, am_gb (am_sI h p_1 j_3 ((am_I h p_1 j_2) + 1)))) := by
  refine (am_sem_seg (am_sm am_MT d) m_Lc_refuseArgument 9 0 [(0, .ref r0)] [] h).trans ?_
  rfl
set_option maxRecDepth 100000 in
theorem e_Lc_refuseState (d : Nat) (h : am_H) (r0 : Nat) : f_Lc_refuseState d h r0 = (
    am_gp h r0 7 17 fun p_1 =>
    am_ar h 9 p_1 2 fun j_2 =>
    am_ar h 9 p_1 2 fun j_3 =>
    some (.inl 2, am_gb (am_sI h p_1 j_3 ((am_I h p_1 j_2) + 1)))) := by
  refine (am_sem_seg (am_sm am_MT d) m_Lc_refuseState 9 0 [(0, .ref r0)] [] h).trans ?_
  rfl
set_option maxRecDepth 100000 in
theorem e_Lc_needBytes (d : Nat) (h : am_H) (r0 : Nat) (i1 : Int32) : f_Lc_needBytes (d + 1) h r0 i1 = (
    if i1 < 0 then
      am_ck h r0 7 <| am_cv (f_Lc_refuseArgument d h r0) fun h_1 =>
      some (.inr none, h_1)
    else
    am_gi h r0 7 1 fun x_2 =>
    if i1 ≤ x_2 then
      some (.inr none, h)
    else
    am_ck h r0 7 <| am_cv (f_Lc_refuseArgument d h r0) fun h_3 =>
    some (.inr none, h_3)) := by
  refine (am_sem_seg (am_sm am_MT (d + 1)) m_Lc_needBytes 9 0 [(0, .ref r0), (1, .int i1)] [] h).trans ?_
  rfl
set_option maxRecDepth 100000 in
theorem e_Lc_needWhat (d : Nat) (h : am_H) (r0 : Nat) (i1 : Int32) (i2 : Int32) : f_Lc_needWhat (d + 1) h r0 i1 i2 = (
    if i1 < 0 then
      am_ck h r0 7 <| am_cv (f_Lc_refuseArgument d h r0) fun h_1 =>
      some (.inr none, h_1)
    else
    if i1 ≤ i2 then
      some (.inr none, h)
    else
    am_ck h r0 7 <| am_cv (f_Lc_refuseArgument d h r0) fun h_2 =>
    some (.inr none, h_2)) := by
  refine (am_sem_seg (am_sm am_MT (d + 1)) m_Lc_needWhat 8 0 [(0, .ref r0), (1, .int i1), (2, .int i2)] [] h).trans ?_
  rfl
set_option maxRecDepth 100000 in
theorem e_Lc_needAxiom (d : Nat) (h : am_H) (r0 : Nat) (i1 : Int32) : f_Lc_needAxiom (d + 1) h r0 i1 = (
    if i1 < 0 then
      am_ck h r0 7 <| am_cv (f_Lc_refuseNoSuch d h r0) fun h_1 =>
      some (.inr none, h_1)
    else
    am_gp h r0 7 3 fun p_2 =>
    am_gi h p_2 2 9 fun x_3 =>
    if i1 < x_3 then
      some (.inr none, h)
    else
    am_ck h r0 7 <| am_cv (f_Lc_refuseNoSuch d h r0) fun h_4 =>
    some (.inr none, h_4)) := by
  refine (am_sem_seg (am_sm am_MT (d + 1)) m_Lc_needAxiom 10 0 [(0, .ref r0), (1, .int i1)] [] h).trans ?_
  rfl
set_option maxRecDepth 100000 in
theorem e_Lc_needPart (d : Nat) (h : am_H) (r0 : Nat) (i1 : Int32) : f_Lc_needPart (d + 1) h r0 i1 = (
    if i1 < 0 then
      am_ck h r0 7 <| am_cv (f_Lc_refuseNoSuch d h r0) fun h_1 =>
      some (.inr none, h_1)
    else
    am_gp h r0 7 3 fun p_2 =>
    am_gi h p_2 2 3 fun x_3 =>
    if i1 < x_3 then
      some (.inr none, h)
    else
    am_ck h r0 7 <| am_cv (f_Lc_refuseNoSuch d h r0) fun h_4 =>
    some (.inr none, h_4)) := by
  refine (am_sem_seg (am_sm am_MT (d + 1)) m_Lc_needPart 10 0 [(0, .ref r0), (1, .int i1)] [] h).trans ?_
  rfl
set_option maxRecDepth 100000 in
theorem e_Lc_needName (d : Nat) (h : am_H) (r0 : Nat) (i1 : Int32) : f_Lc_needName (d + 1) h r0 i1 = (
    if i1 < 0 then
      am_ck h r0 7 <| am_cv (f_Lc_refuseNoSuch d h r0) fun h_1 =>
      some (.inr none, h_1)
    else
    am_gp h r0 7 3 fun p_2 =>
    am_gp h p_2 2 0 fun p_3 =>
    am_gi h p_3 6 2 fun x_4 =>
    if i1 < x_4 then
      some (.inr none, h)
    else
    am_ck h r0 7 <| am_cv (f_Lc_refuseNoSuch d h r0) fun h_5 =>
    some (.inr none, h_5)) := by
  refine (am_sem_seg (am_sm am_MT (d + 1)) m_Lc_needName 11 0 [(0, .ref r0), (1, .int i1)] [] h).trans ?_
  rfl
set_option maxRecDepth 100000 in
theorem e_Lc_needRole (d : Nat) (h : am_H) (r0 : Nat) (i1 : Int32) : f_Lc_needRole (d + 1) h r0 i1 = (
    if i1 < 0 then
      am_ck h r0 7 <| am_cv (f_Lc_refuseNoSuch d h r0) fun h_1 =>
      some (.inr none, h_1)
    else
    am_gp h r0 7 3 fun p_2 =>
    am_gp h p_2 2 1 fun p_3 =>
    am_gi h p_3 6 2 fun x_4 =>
    if i1 < x_4 then
      some (.inr none, h)
    else
    am_ck h r0 7 <| am_cv (f_Lc_refuseNoSuch d h r0) fun h_5 =>
    some (.inr none, h_5)) := by
  refine (am_sem_seg (am_sm am_MT (d + 1)) m_Lc_needRole 11 0 [(0, .ref r0), (1, .int i1)] [] h).trans ?_
  rfl
set_option maxRecDepth 100000 in
theorem e_Lc_isOn (d : Nat) (h : am_H) (r0 : Nat) (i1 : Int32) : f_Lc_isOn d h r0 i1 = (
    am_gp h r0 7 3 fun p_1 =>
    am_gl h p_1 2 10 fun y_2 =>
    if (lg_cmp ((am_lushr y_2 i1) &&& 1) 0) = 0 then
      am_01 0 (some (.inr (some (.int 0)), h))
    else
    am_01 1 (some (.inr (some (.int 1)), h))) := by
  refine (am_sem_seg (am_sm am_MT d) m_Lc_isOn 13 0 [(0, .ref r0), (1, .int i1)] [] h).trans ?_
  rfl
set_option maxRecDepth 100000 in
theorem e_Lc_unsettle (d : Nat) (h : am_H) (r0 : Nat) : f_Lc_unsettle (d + 1) h r0 = (
    am_01 0 <| am_ck h r0 7 <|
    am_gp (am_sI h r0 8 0) r0 7 15 fun p_1 =>
    am_ck (am_sI h r0 8 0) p_1 4 <| am_cv (f_Rs_forget d (am_sI h r0 8 0) p_1) fun h_2 =>
    some (.inr none, h_2)) := by
  refine (am_sem_seg (am_sm am_MT (d + 1)) m_Lc_unsettle 7 0 [(0, .ref r0)] [] h).trans ?_
  rfl
set_option maxRecDepth 100000 in
theorem e_Lc_settle (d : Nat) (h : am_H) (r0 : Nat) : f_Lc_settle (d + 1) h r0 = (
    am_gi h r0 7 8 fun x_1 =>
    if x_1 = 0 then
      am_gp h r0 7 11 fun p_2 =>
      am_gp h r0 7 3 fun p_3 =>
      am_gp h r0 7 3 fun p_4 =>
      am_gl h p_4 2 10 fun y_5 =>
      am_gp h r0 7 3 fun p_6 =>
      am_ck h p_6 2 <| am_cl (f_On_allParts d h p_6) fun y_8 h_7 =>
      am_ck h_7 p_2 5 <| am_cv (f_Sa_begin d h_7 p_2 p_3 y_5 y_8) fun h_9 =>
      f_Lc_settle_35 (d + 1) h_9 r0 0
    else
    some (.inr none, h)) := by
  refine (am_sem_seg (am_sm am_MT (d + 1)) m_Lc_settle 16 0 [(0, .ref r0)] [] h).trans ?_
  rfl
set_option maxRecDepth 100000 in
theorem e_Lc_settle_35 (d : Nat) (h : am_H) (r0 : Nat) (i1 : Int32) : f_Lc_settle_35 (d + 1) h r0 i1 = (
    am_gp h r0 7 3 fun p_1 =>
    am_gi h p_1 2 3 fun x_2 =>
    if x_2 ≤ i1 then
      am_ck h r0 7 <|
      f_Lc_settle_92 (d + 1) (am_sI h r0 9 0) r0 1
    else
    am_gp h r0 7 10 fun p_3 =>
    am_cv (f_Ar_fillR d h p_3 (i1 * 60) ((i1 + 1) * 60) (-1)) fun h_4 =>
    am_gp h_4 r0 7 11 fun p_5 =>
    am_gp h_4 p_5 5 11 fun p_6 =>
    am_ar h_4 10 p_6 i1 fun j_7 =>
    am_ck h_4 r0 7 <| am_cv (f_Lc_noteRound d h_4 r0 i1 (am_L h_4 p_6 j_7) 0) fun h_8 =>
    f_Lc_settle_35 (d + 1) h_8 r0 (i1 + 1)) := by
  refine (am_sem_seg (am_sm am_MT (d + 1)) m_Lc_settle 28 35 [(0, .ref r0), (1, .int i1)] [] h).trans ?_
  rfl
set_option maxRecDepth 100000 in
theorem e_Lc_settle_92 (d : Nat) (h : am_H) (r0 : Nat) (i1 : Int32) : f_Lc_settle_92 (d + 1) h r0 i1 = (
    if i1 = 0 then
      am_gi h r0 7 9 fun x_1 =>
      am_ck h r0 7 <|
      am_gp (am_sI h r0 9 (x_1 - 1)) r0 7 12 fun p_2 =>
      am_gp (am_sI h r0 9 (x_1 - 1)) r0 7 3 fun p_3 =>
      am_gp (am_sI h r0 9 (x_1 - 1)) r0 7 11 fun p_4 =>
      am_ck (am_sI h r0 9 (x_1 - 1)) p_2 0 <| am_cv (f_Hi_build d (am_sI h r0 9 (x_1 - 1)) p_2 p_3 p_4) fun h_5 =>
      am_01 1 <| am_ck h_5 r0 7 <|
      some (.inr none, (am_sI h_5 r0 8 1))
    else
    am_gi h r0 7 9 fun x_6 =>
    if 40000 ≤ x_6 then
      am_gi h r0 7 9 fun x_7 =>
      am_ck h r0 7 <|
      am_gp (am_sI h r0 9 (x_7 - 1)) r0 7 12 fun p_8 =>
      am_gp (am_sI h r0 9 (x_7 - 1)) r0 7 3 fun p_9 =>
      am_gp (am_sI h r0 9 (x_7 - 1)) r0 7 11 fun p_10 =>
      am_ck (am_sI h r0 9 (x_7 - 1)) p_8 0 <| am_cv (f_Hi_build d (am_sI h r0 9 (x_7 - 1)) p_8 p_9 p_10) fun h_11 =>
      am_01 1 <| am_ck h_11 r0 7 <|
      some (.inr none, (am_sI h_11 r0 8 1))
    else
    am_gp h r0 7 11 fun p_12 =>
    am_ck h p_12 5 <| am_cv (f_Sa_deriveAll d h p_12) fun h_13 =>
    f_Lc_settle_115 (d + 1) h_13 r0 0) := by
  refine (am_sem_seg (am_sm am_MT (d + 1)) m_Lc_settle 23 92 [(0, .ref r0), (1, .int i1)] [] h).trans ?_
  rfl
set_option maxRecDepth 100000 in
theorem e_Lc_settle_115 (d : Nat) (h : am_H) (r0 : Nat) (i2 : Int32) : f_Lc_settle_115 (d + 1) h r0 i2 = (
    am_gp h r0 7 3 fun p_1 =>
    am_gi h p_1 2 3 fun x_2 =>
    if x_2 ≤ i2 then
      am_gp h r0 7 11 fun p_3 =>
      am_ck h p_3 5 <| am_ci (f_Sa_commitAll d h p_3) fun x_5 h_4 =>
      am_gi h_4 r0 7 9 fun x_6 =>
      am_ck h_4 r0 7 <|
      f_Lc_settle_92 (d + 1) (am_sI h_4 r0 9 (x_6 + 1)) r0 x_5
    else
    am_gp h r0 7 11 fun p_7 =>
    am_gp h p_7 5 16 fun p_8 =>
    am_ar h 10 p_8 i2 fun j_9 =>
    am_gi h r0 7 9 fun x_10 =>
    am_ck h r0 7 <| am_cv (f_Lc_noteRound d h r0 i2 (am_L h p_8 j_9) (x_10 + 1)) fun h_11 =>
    f_Lc_settle_115 (d + 1) h_11 r0 (i2 + 1)) := by
  refine (am_sem_seg (am_sm am_MT (d + 1)) m_Lc_settle 19 115 [(0, .ref r0), (2, .int i2)] [] h).trans ?_
  rfl
set_option maxRecDepth 100000 in
theorem e_Lc_noteRound (d : Nat) (h : am_H) (r0 : Nat) (i1 : Int32) (l2 : Int64) (i4 : Int32) : f_Lc_noteRound d h r0 i1 l2 i4 = (
    if (lg_cmp l2 0) = 0 then
      some (.inr none, h)
    else
    f_Lc_noteRound_10 d h r0 i1 l2 i4 0) := by
  refine (am_sem_seg (am_sm am_MT d) m_Lc_noteRound 6 0 [(0, .ref r0), (1, .int i1), (2, .long l2), (4, .int i4)] [] h).trans ?_
  rfl
set_option maxRecDepth 100000 in
theorem e_Lc_noteRound_10 (d : Nat) (h : am_H) (r0 : Nat) (i1 : Int32) (l2 : Int64) (i4 : Int32) (i5 : Int32) : f_Lc_noteRound_10 d h r0 i1 l2 i4 i5 = (
    am_gp h r0 7 3 fun p_1 =>
    am_gi h p_1 2 3 fun x_2 =>
    if x_2 ≤ i5 then
      some (.inr none, h)
    else
    if (lg_cmp ((am_lushr l2 i5) &&& 1) 0) = 0 then
      f_Lc_noteRound_10 d h r0 i1 l2 i4 (i5 + 1)
    else
    am_gp h r0 7 10 fun p_3 =>
    am_ar h 9 p_3 ((i1 * 60) + i5) fun j_4 =>
    f_Lc_noteRound_10 d (am_sI h p_3 j_4 i4) r0 i1 l2 i4 (i5 + 1)) := by
  refine (am_sem_seg (am_sm am_MT d) m_Lc_noteRound 24 10 [(0, .ref r0), (1, .int i1), (2, .long l2), (4, .int i4), (5, .int i5)] [] h).trans ?_
  rfl
set_option maxRecDepth 100000 in
theorem e_Lc_toldOfSettled (d : Nat) (h : am_H) (r0 : Nat) (i1 : Int32) : f_Lc_toldOfSettled (d + 1) h r0 i1 = (
    am_ck h r0 7 <| am_cv (f_Lc_settle d h r0) fun h_1 =>
    if i1 = 5 then
      am_gi h_1 r0 7 9 fun x_2 =>
      some (.inr (some (.int x_2)), h_1)
    else
    if i1 = 6 then
      f_Lc_toldOfSettled_64 (d + 1) h_1 r0 i1 0 0
    else
    if i1 = 7 then
      am_gp h_1 r0 7 12 fun p_3 =>
      am_gi h_1 p_3 0 0 fun x_4 =>
      some (.inr (some (.int x_4)), h_1)
    else
    if i1 = 8 then
      am_gp h_1 r0 7 12 fun p_5 =>
      am_gi h_1 p_5 0 1 fun x_6 =>
      am_ci (f_In_bitCount d h_1 x_6) fun x_8 h_7 =>
      some (.inr (some (.int x_8)), h_7)
    else
    f_Lc_toldOfSettled_64 (d + 1) h_1 r0 i1 0 0) := by
  refine (am_sem_seg (am_sm am_MT (d + 1)) m_Lc_toldOfSettled 9 0 [(0, .ref r0), (1, .int i1)] [] h).trans ?_
  rfl
set_option maxRecDepth 100000 in
theorem e_Lc_toldOfSettled_64 (d : Nat) (h : am_H) (r0 : Nat) (i1 : Int32) (i2 : Int32) (i3 : Int32) : f_Lc_toldOfSettled_64 (d + 1) h r0 i1 i2 i3 = (
    am_gp h r0 7 3 fun p_1 =>
    am_gi h p_1 2 3 fun x_2 =>
    if x_2 ≤ i3 then
      some (.inr (some (.int i2)), h)
    else
    if i1 = 6 then
      am_gp h r0 7 11 fun p_3 =>
      am_ck h p_3 5 <| am_ci (f_Sa_linksFrom d h p_3 i3) fun x_5 h_4 =>
      f_Lc_toldOfSettled_64 (d + 1) h_4 r0 i1 (i2 + x_5) (i3 + 1)
    else
    am_gp h r0 7 11 fun p_6 =>
    am_gp h p_6 5 11 fun p_7 =>
    am_ar h 10 p_7 i3 fun j_8 =>
    am_ci (f_Lo_bitCount d h (am_L h p_7 j_8)) fun x_10 h_9 =>
    f_Lc_toldOfSettled_64 (d + 1) h_9 r0 i1 (i2 + x_10) (i3 + 1)) := by
  refine (am_sem_seg (am_sm am_MT (d + 1)) m_Lc_toldOfSettled 19 64 [(0, .ref r0), (1, .int i1), (2, .int i2), (3, .int i3)] [] h).trans ?_
  rfl
set_option maxRecDepth 100000 in
theorem e_Lc_aimReasons (d : Nat) (h : am_H) (r0 : Nat) (i1 : Int32) (i2 : Int32) : f_Lc_aimReasons (d + 1) h r0 i1 i2 = (
    am_gp h r0 7 15 fun p_1 =>
    am_gp h r0 7 3 fun p_2 =>
    am_gp h r0 7 3 fun p_3 =>
    am_gp h p_3 2 2 fun p_4 =>
    am_ar h 9 p_4 i1 fun j_5 =>
    am_gp h r0 7 3 fun p_6 =>
    am_gp h p_6 2 2 fun p_7 =>
    am_ar h 9 p_7 i2 fun j_8 =>
    am_ck h p_1 4 <| am_cv (f_Rs_aim d h p_1 p_2 (am_I h p_4 j_5) (am_I h p_7 j_8)) fun h_9 =>
    some (.inr none, h_9)) := by
  refine (am_sem_seg (am_sm am_MT (d + 1)) m_Lc_aimReasons 16 0 [(0, .ref r0), (1, .int i1), (2, .int i2)] [] h).trans ?_
  rfl
set_option maxRecDepth 100000 in
theorem e_Lc_readOneConcept (d : Nat) (h : am_H) (r0 : Nat) (i1 : Int32) : f_Lc_readOneConcept (d + 1) h r0 i1 = (
    am_gp h r0 7 5 fun p_1 =>
    am_gp h r0 7 3 fun p_2 =>
    am_ck h p_1 3 <| am_cv (f_Re_open d h p_1 i1 p_2 1) fun h_3 =>
    am_gp h_3 r0 7 5 fun p_4 =>
    am_ck h_3 p_4 3 <| am_cv (f_Re_readSingle d h_3 p_4) fun h_5 =>
    am_ck h_5 r0 7 <| am_cv (f_Lc_takeQuestion d h_5 r0) fun h_6 =>
    some (.inr none, h_6)) := by
  refine (am_sem_seg (am_sm am_MT (d + 1)) m_Lc_readOneConcept 13 0 [(0, .ref r0), (1, .int i1)] [] h).trans ?_
  rfl
set_option maxRecDepth 100000 in
theorem e_Lc_takeQuestion (d : Nat) (h : am_H) (r0 : Nat) : f_Lc_takeQuestion d h r0 = (
    am_ck h r0 7 <|
    am_gp (am_sI h r0 1 0) r0 7 5 fun p_1 =>
    am_gi (am_sI h r0 1 0) p_1 3 10 fun x_2 =>
    am_ck (am_sI h r0 1 0) r0 7 <|
    some (.inr none, (am_sI (am_sI h r0 1 0) r0 2 x_2))) := by
  refine (am_sem_seg (am_sm am_MT d) m_Lc_takeQuestion 9 0 [(0, .ref r0)] [] h).trans ?_
  rfl
set_option maxRecDepth 100000 in
theorem e_Lc_answerOf (d : Nat) (h : am_H) (r0 : Nat) (i1 : Int32) (i2 : Int32) : f_Lc_answerOf (d + 1) h r0 i1 i2 = (
    am_gp h r0 7 13 fun p_1 =>
    am_gp h r0 7 3 fun p_2 =>
    am_gp h r0 7 3 fun p_3 =>
    am_gl h p_3 2 10 fun y_4 =>
    am_gp h r0 7 3 fun p_5 =>
    am_ck h p_5 2 <| am_cl (f_On_allParts d h p_5) fun y_7 h_6 =>
    am_ck h_6 p_1 5 <| am_cv (f_Sa_saturate d h_6 p_1 p_2 y_4 y_7) fun h_8 =>
    if i1 = 2 then
      am_gp h_8 r0 7 13 fun p_9 =>
      am_ck h_8 p_9 5 <| am_ci (f_Sa_isVoid d h_8 p_9 i2) fun x_11 h_10 =>
      if x_11 = 0 then
        some (.inr (some (.int 0)), h_10)
      else
      some (.inr (some (.int 1)), h_10)
    else
    if i1 = 1 then
      am_gp h_8 r0 7 13 fun p_12 =>
      am_ck h_8 r0 7 <| am_ci (f_Lc_namesOver d h_8 r0 p_12 i2) fun x_14 h_13 =>
      some (.inr (some (.int x_14)), h_13)
    else
    am_gp h_8 r0 7 13 fun p_15 =>
    am_ck h_8 r0 7 <| am_ci (f_Lc_namesUnder d h_8 r0 p_15 i2) fun x_17 h_16 =>
    some (.inr (some (.int x_17)), h_16)) := by
  refine (am_sem_seg (am_sm am_MT (d + 1)) m_Lc_answerOf 24 0 [(0, .ref r0), (1, .int i1), (2, .int i2)] [] h).trans ?_
  rfl
set_option maxRecDepth 100000 in
theorem e_Lc_namesOver (d : Nat) (h : am_H) (r0 : Nat) (r1 : Nat) (i2 : Int32) : f_Lc_namesOver d h r0 r1 i2 = (
    f_Lc_namesOver_5 d h r0 r1 i2 0 0) := by
  refine (am_sem_seg (am_sm am_MT d) m_Lc_namesOver 4 0 [(0, .ref r0), (1, .ref r1), (2, .int i2)] [] h).trans ?_
  rfl
set_option maxRecDepth 100000 in
theorem e_Lc_namesOver_5 (d : Nat) (h : am_H) (r0 : Nat) (r1 : Nat) (i2 : Int32) (i3 : Int32) (i4 : Int32) : f_Lc_namesOver_5 (d + 1) h r0 r1 i2 i3 i4 = (
    am_gp h r0 7 3 fun p_1 =>
    am_gp h p_1 2 0 fun p_2 =>
    am_gi h p_2 6 2 fun x_3 =>
    if x_3 ≤ i4 then
      some (.inr (some (.int i3)), h)
    else
    am_gp h r0 7 3 fun p_4 =>
    am_gp h p_4 2 2 fun p_5 =>
    am_ar h 9 p_5 i4 fun j_6 =>
    am_ck h r1 5 <| am_ci (f_Sa_isBelow d h r1 i2 (am_I h p_5 j_6)) fun x_8 h_7 =>
    if x_8 = 0 then
      f_Lc_namesOver_5 (d + 1) h_7 r0 r1 i2 i3 (i4 + 1)
    else
    f_Lc_namesOver_5 (d + 1) h_7 r0 r1 i2 (i3 ||| (am_ishl 1 i4)) (i4 + 1)) := by
  refine (am_sem_seg (am_sm am_MT (d + 1)) m_Lc_namesOver 23 5 [(0, .ref r0), (1, .ref r1), (2, .int i2), (3, .int i3), (4, .int i4)] [] h).trans ?_
  rfl
set_option maxRecDepth 100000 in
theorem e_Lc_namesUnder (d : Nat) (h : am_H) (r0 : Nat) (r1 : Nat) (i2 : Int32) : f_Lc_namesUnder d h r0 r1 i2 = (
    f_Lc_namesUnder_5 d h r0 r1 i2 0 0) := by
  refine (am_sem_seg (am_sm am_MT d) m_Lc_namesUnder 4 0 [(0, .ref r0), (1, .ref r1), (2, .int i2)] [] h).trans ?_
  rfl
set_option maxRecDepth 100000 in
theorem e_Lc_namesUnder_5 (d : Nat) (h : am_H) (r0 : Nat) (r1 : Nat) (i2 : Int32) (i3 : Int32) (i4 : Int32) : f_Lc_namesUnder_5 (d + 1) h r0 r1 i2 i3 i4 = (
    am_gp h r0 7 3 fun p_1 =>
    am_gp h p_1 2 0 fun p_2 =>
    am_gi h p_2 6 2 fun x_3 =>
    if x_3 ≤ i4 then
      some (.inr (some (.int i3)), h)
    else
    am_gp h r0 7 3 fun p_4 =>
    am_gp h p_4 2 2 fun p_5 =>
    am_ar h 9 p_5 i4 fun j_6 =>
    am_ck h r1 5 <| am_ci (f_Sa_isBelow d h r1 (am_I h p_5 j_6) i2) fun x_8 h_7 =>
    if x_8 = 0 then
      f_Lc_namesUnder_5 (d + 1) h_7 r0 r1 i2 i3 (i4 + 1)
    else
    f_Lc_namesUnder_5 (d + 1) h_7 r0 r1 i2 (i3 ||| (am_ishl 1 i4)) (i4 + 1)) := by
  refine (am_sem_seg (am_sm am_MT (d + 1)) m_Lc_namesUnder 23 5 [(0, .ref r0), (1, .ref r1), (2, .int i2), (3, .int i3), (4, .int i4)] [] h).trans ?_
  rfl
set_option maxRecDepth 100000 in
theorem e_Lc_extentOf (d : Nat) (h : am_H) (r0 : Nat) (i1 : Int32) : f_Lc_extentOf (d + 1) h r0 i1 = (
    am_gp h r0 7 13 fun p_1 =>
    am_gp h r0 7 3 fun p_2 =>
    am_gp h r0 7 3 fun p_3 =>
    am_gl h p_3 2 10 fun y_4 =>
    am_gp h r0 7 3 fun p_5 =>
    am_ck h p_5 2 <| am_cl (f_On_allParts d h p_5) fun y_7 h_6 =>
    am_ck h_6 p_1 5 <| am_cv (f_Sa_saturate d h_6 p_1 p_2 y_4 y_7) fun h_8 =>
    f_Lc_extentOf_27 (d + 1) h_8 r0 i1 0) := by
  refine (am_sem_seg (am_sm am_MT (d + 1)) m_Lc_extentOf 13 0 [(0, .ref r0), (1, .int i1)] [] h).trans ?_
  rfl
set_option maxRecDepth 100000 in
theorem e_Lc_extentOf_27 (d : Nat) (h : am_H) (r0 : Nat) (i1 : Int32) (i2 : Int32) : f_Lc_extentOf_27 (d + 1) h r0 i1 i2 = (
    if i1 < i2 then
      am_gp h r0 7 14 fun p_1 =>
      am_ar h 10 p_1 i1 fun j_2 =>
      some (.inr (some (.long (am_L h p_1 j_2))), h)
    else
    am_gp h r0 7 14 fun p_3 =>
    am_ck h r0 7 <| am_cl (f_Lc_extentOfOne d h r0 i2) fun y_5 h_4 =>
    am_ar h_4 10 p_3 i2 fun j_6 =>
    f_Lc_extentOf_27 (d + 1) (am_sL h_4 p_3 j_6 y_5) r0 i1 (i2 + 1)) := by
  refine (am_sem_seg (am_sm am_MT (d + 1)) m_Lc_extentOf 12 27 [(0, .ref r0), (1, .int i1), (2, .int i2)] [] h).trans ?_
  rfl
set_option maxRecDepth 100000 in
theorem e_Lc_extentOfOne (d : Nat) (h : am_H) (r0 : Nat) (i1 : Int32) : f_Lc_extentOfOne (d + 1) h r0 i1 = (
    am_gp h r0 7 3 fun p_1 =>
    am_ck h p_1 2 <| am_cl (f_On_allParts d h p_1) fun y_3 h_2 =>
    am_gp h_2 r0 7 13 fun p_4 =>
    am_gp h_2 p_4 5 12 fun p_5 =>
    am_ar h_2 10 p_5 1 fun j_6 =>
    am_gp h_2 r0 7 3 fun p_7 =>
    am_gp h_2 p_7 2 5 fun p_8 =>
    am_ar h_2 9 p_8 i1 fun j_9 =>
    am_gp h_2 r0 7 3 fun p_10 =>
    am_gp h_2 p_10 2 6 fun p_11 =>
    am_ar h_2 9 p_11 i1 fun j_12 =>
    am_gp h_2 r0 7 3 fun p_13 =>
    am_gp h_2 p_13 2 4 fun p_14 =>
    am_ar h_2 9 p_14 i1 fun j_15 =>
    if (am_I h_2 p_14 j_15) = 0 then
      am_gp h_2 r0 7 13 fun p_16 =>
      am_gp h_2 p_16 5 12 fun p_17 =>
      am_ar h_2 10 p_17 i1 fun j_18 =>
      some (.inr (some (.long ((am_L h_2 p_17 j_18) &&& (y_3 &&& ((am_L h_2 p_5 j_6) ^^^ (-1)))))), h_2)
    else
    if (am_I h_2 p_14 j_15) = 1 then
      some (.inr (some (.long (y_3 &&& ((am_L h_2 p_5 j_6) ^^^ (-1))))), h_2)
    else
    if (am_I h_2 p_14 j_15) = 2 then
      some (.inr (some (.long 0)), h_2)
    else
    if (am_I h_2 p_14 j_15) = 3 then
      am_gp h_2 r0 7 14 fun p_19 =>
      am_ar h_2 10 p_19 (am_I h_2 p_8 j_9) fun j_20 =>
      am_gp h_2 r0 7 14 fun p_21 =>
      am_ar h_2 10 p_21 (am_I h_2 p_11 j_12) fun j_22 =>
      some (.inr (some (.long ((am_L h_2 p_19 j_20) &&& (am_L h_2 p_21 j_22)))), h_2)
    else
    f_Lc_extentOfOne_122 (d + 1) h_2 r0 (y_3 &&& ((am_L h_2 p_5 j_6) ^^^ (-1))) (am_I h_2 p_8 j_9) (am_I h_2 p_11 j_12) 0 0) := by
  refine (am_sem_seg (am_sm am_MT (d + 1)) m_Lc_extentOfOne 40 0 [(0, .ref r0), (1, .int i1)] [] h).trans ?_
  rfl
set_option maxRecDepth 100000 in
theorem e_Lc_extentOfOne_122 (d : Nat) (h : am_H) (r0 : Nat) (l2 : Int64) (i4 : Int32) (i5 : Int32) (l6 : Int64) (i8 : Int32) : f_Lc_extentOfOne_122 d h r0 l2 i4 i5 l6 i8 = (
    am_gp h r0 7 3 fun p_1 =>
    am_gi h p_1 2 3 fun x_2 =>
    if x_2 ≤ i8 then
      some (.inr (some (.long (l6 &&& l2))), h)
    else
    am_gp h r0 7 13 fun p_3 =>
    am_gp h p_3 5 14 fun p_4 =>
    am_ar h 10 p_4 ((i8 * 8) + i4) fun j_5 =>
    am_gp h r0 7 14 fun p_6 =>
    am_ar h 10 p_6 i5 fun j_7 =>
    if (lg_cmp ((am_L h p_4 j_5) &&& (am_L h p_6 j_7)) 0) = 0 then
      f_Lc_extentOfOne_122 d h r0 l2 i4 i5 l6 (i8 + 1)
    else
    f_Lc_extentOfOne_122 d h r0 l2 i4 i5 (l6 ||| (am_lshl 1 i8)) (i8 + 1)) := by
  refine (am_sem_seg (am_sm am_MT d) m_Lc_extentOfOne 30 122 [(0, .ref r0), (2, .long l2), (4, .int i4), (5, .int i5), (6, .long l6), (8, .int i8)] [] h).trans ?_
  rfl
set_option maxRecDepth 100000 in
theorem e_Lc_inLowestTerms (d : Nat) (h : am_H) (i0 : Int32) (i1 : Int32) : f_Lc_inLowestTerms d h i0 i1 = (
    f_Lc_inLowestTerms_3 d h i0 i1 24) := by
  refine (am_sem_seg (am_sm am_MT d) m_Lc_inLowestTerms 2 0 [(0, .int i0), (1, .int i1)] [] h).trans ?_
  rfl
set_option maxRecDepth 100000 in
theorem e_Lc_inLowestTerms_3 (d : Nat) (h : am_H) (i0 : Int32) (i1 : Int32) (i2 : Int32) : f_Lc_inLowestTerms_3 d h i0 i1 i2 = (
    if i2 ≤ 1 then
      some (.inr (some (.int i0)), h)
    else
    if i2 = 0 then none else
    if (am_irem i0 i2) = 0 then
      if i2 = 0 then none else
      if (am_irem i1 i2) = 0 then
        if i2 = 0 then none else
        some (.inr (some (.int (i0 / i2))), h)
      else
      f_Lc_inLowestTerms_3 d h i0 i1 (i2 + (-1))
    else
    f_Lc_inLowestTerms_3 d h i0 i1 (i2 + (-1))) := by
  refine (am_sem_seg (am_sm am_MT d) m_Lc_inLowestTerms 15 3 [(0, .int i0), (1, .int i1), (2, .int i2)] [] h).trans ?_
  rfl
