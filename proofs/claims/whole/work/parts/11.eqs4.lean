set_option maxRecDepth 100000 in
theorem e_Rf_init (d : Nat) (h : am_H) (r0 : Nat) : f_Rf_init d h r0 = (
    bif Nat.beq (am_G h) 0 && !(decide ((3 : Int32) < 0)) && Nat.ble (Int32.toNatClampNeg 3) 60000000 then
      am_ck (am_nw h (9, Int32.toNatClampNeg 3)) r0 8 <|
      f_Rf_init_11 d (am_sP (am_nw h (9, Int32.toNatClampNeg 3)) r0 1 (some (am_S h).length)) r0
    else none) := by
  refine (am_sem_seg (am_sm am_MT d) m_Rf_init 6 0 [(0, .ref r0)] [] h).trans ?_
  rfl
set_option maxRecDepth 100000 in
theorem e_Rf_init_11 (d : Nat) (h : am_H) (r0 : Nat) : f_Rf_init_11 d h r0 = (
    am_ck h r0 8 <|
    f_Rf_init_16 d (am_sI h r0 5 (-1)) r0) := by
  refine (am_sem_seg (am_sm am_MT d) m_Rf_init 3 11 [(0, .ref r0)] [] h).trans ?_
  rfl
set_option maxRecDepth 100000 in
theorem e_Rf_init_16 (d : Nat) (h : am_H) (r0 : Nat) : f_Rf_init_16 d h r0 = (
    bif Nat.beq (am_G h) 0 && !(decide ((400 : Int32) < 0)) && Nat.ble (Int32.toNatClampNeg 400) 60000000 then
      am_ck (am_nw h (9, Int32.toNatClampNeg 400)) r0 8 <|
      f_Rf_init_25 d (am_sP (am_nw h (9, Int32.toNatClampNeg 400)) r0 8 (some (am_S h).length)) r0
    else none) := by
  refine (am_sem_seg (am_sm am_MT d) m_Rf_init 4 16 [(0, .ref r0)] [] h).trans ?_
  rfl
set_option maxRecDepth 100000 in
theorem e_Rf_init_25 (d : Nat) (h : am_H) (r0 : Nat) : f_Rf_init_25 d h r0 = (
    bif Nat.beq (am_G h) 0 && !(decide ((1604 : Int32) < 0)) && Nat.ble (Int32.toNatClampNeg 1604) 60000000 then
      am_ck (am_nw h (9, Int32.toNatClampNeg 1604)) r0 8 <|
      f_Rf_init_34 d (am_sP (am_nw h (9, Int32.toNatClampNeg 1604)) r0 9 (some (am_S h).length)) r0
    else none) := by
  refine (am_sem_seg (am_sm am_MT d) m_Rf_init 4 25 [(0, .ref r0)] [] h).trans ?_
  rfl
set_option maxRecDepth 100000 in
theorem e_Rf_init_34 (d : Nat) (h : am_H) (r0 : Nat) : f_Rf_init_34 d h r0 = (
    bif Nat.beq (am_G h) 0 && !(decide ((1604 : Int32) < 0)) && Nat.ble (Int32.toNatClampNeg 1604) 60000000 then
      am_ck (am_nw h (9, Int32.toNatClampNeg 1604)) r0 8 <|
      f_Rf_init_43 d (am_sP (am_nw h (9, Int32.toNatClampNeg 1604)) r0 10 (some (am_S h).length)) r0
    else none) := by
  refine (am_sem_seg (am_sm am_MT d) m_Rf_init 4 34 [(0, .ref r0)] [] h).trans ?_
  rfl
set_option maxRecDepth 100000 in
theorem e_Rf_init_43 (d : Nat) (h : am_H) (r0 : Nat) : f_Rf_init_43 d h r0 = (
    bif Nat.beq (am_G h) 0 && !(decide ((20 : Int32) < 0)) && Nat.ble (Int32.toNatClampNeg 20) 60000000 then
      am_ck (am_nw h (9, Int32.toNatClampNeg 20)) r0 8 <|
      f_Rf_init_51 d (am_sP (am_nw h (9, Int32.toNatClampNeg 20)) r0 12 (some (am_S h).length)) r0
    else none) := by
  refine (am_sem_seg (am_sm am_MT d) m_Rf_init 4 43 [(0, .ref r0)] [] h).trans ?_
  rfl
set_option maxRecDepth 100000 in
theorem e_Rf_init_51 (d : Nat) (h : am_H) (r0 : Nat) : f_Rf_init_51 d h r0 = (
    bif Nat.beq (am_G h) 0 && !(decide ((480 : Int32) < 0)) && Nat.ble (Int32.toNatClampNeg 480) 60000000 then
      am_ck (am_nw h (10, Int32.toNatClampNeg 480)) r0 8 <|
      f_Rf_init_60 d (am_sP (am_nw h (10, Int32.toNatClampNeg 480)) r0 18 (some (am_S h).length)) r0
    else none) := by
  refine (am_sem_seg (am_sm am_MT d) m_Rf_init 4 51 [(0, .ref r0)] [] h).trans ?_
  rfl
set_option maxRecDepth 100000 in
theorem e_Rf_init_60 (d : Nat) (h : am_H) (r0 : Nat) : f_Rf_init_60 d h r0 = (
    bif Nat.beq (am_G h) 0 && !(decide ((480 : Int32) < 0)) && Nat.ble (Int32.toNatClampNeg 480) 60000000 then
      am_ck (am_nw h (10, Int32.toNatClampNeg 480)) r0 8 <|
      f_Rf_init_69 d (am_sP (am_nw h (10, Int32.toNatClampNeg 480)) r0 19 (some (am_S h).length)) r0
    else none) := by
  refine (am_sem_seg (am_sm am_MT d) m_Rf_init 4 60 [(0, .ref r0)] [] h).trans ?_
  rfl
set_option maxRecDepth 100000 in
theorem e_Rf_init_69 (d : Nat) (h : am_H) (r0 : Nat) : f_Rf_init_69 d h r0 = (
    bif Nat.beq (am_G h) 0 && !(decide ((480 : Int32) < 0) || decide ((8 : Int32) < 0)) && Nat.ble (Int32.toNatClampNeg 480) 60000000 && Nat.ble (Int32.toNatClampNeg 8) 60000000 then
      am_ck (am_nm h 14 10 (Int32.toNatClampNeg 480) (Int32.toNatClampNeg 8)) r0 8 <|
      f_Rf_init_82 d (am_sP (am_nm h 14 10 (Int32.toNatClampNeg 480) (Int32.toNatClampNeg 8)) r0 20 (some (am_S h).length)) r0
    else none) := by
  refine (am_sem_seg (am_sm am_MT d) m_Rf_init 5 69 [(0, .ref r0)] [] h).trans ?_
  rfl
set_option maxRecDepth 100000 in
theorem e_Rf_init_82 (d : Nat) (h : am_H) (r0 : Nat) : f_Rf_init_82 d h r0 = (
    bif Nat.beq (am_G h) 0 && !(decide ((480 : Int32) < 0) || decide ((8 : Int32) < 0)) && Nat.ble (Int32.toNatClampNeg 480) 60000000 && Nat.ble (Int32.toNatClampNeg 8) 60000000 then
      am_ck (am_nm h 14 10 (Int32.toNatClampNeg 480) (Int32.toNatClampNeg 8)) r0 8 <|
      f_Rf_init_95 d (am_sP (am_nm h 14 10 (Int32.toNatClampNeg 480) (Int32.toNatClampNeg 8)) r0 21 (some (am_S h).length)) r0
    else none) := by
  refine (am_sem_seg (am_sm am_MT d) m_Rf_init 5 82 [(0, .ref r0)] [] h).trans ?_
  rfl
set_option maxRecDepth 100000 in
theorem e_Rf_init_95 (d : Nat) (h : am_H) (r0 : Nat) : f_Rf_init_95 d h r0 = (
    bif Nat.beq (am_G h) 0 && !(decide ((480 : Int32) < 0) || decide ((8 : Int32) < 0)) && Nat.ble (Int32.toNatClampNeg 480) 60000000 && Nat.ble (Int32.toNatClampNeg 8) 60000000 then
      am_ck (am_nm h 14 10 (Int32.toNatClampNeg 480) (Int32.toNatClampNeg 8)) r0 8 <|
      f_Rf_init_108 d (am_sP (am_nm h 14 10 (Int32.toNatClampNeg 480) (Int32.toNatClampNeg 8)) r0 22 (some (am_S h).length)) r0
    else none) := by
  refine (am_sem_seg (am_sm am_MT d) m_Rf_init 5 95 [(0, .ref r0)] [] h).trans ?_
  rfl
set_option maxRecDepth 100000 in
theorem e_Rf_init_108 (d : Nat) (h : am_H) (r0 : Nat) : f_Rf_init_108 d h r0 = (
    bif Nat.beq (am_G h) 0 && !(decide ((8 : Int32) < 0) || decide ((480 : Int32) < 0)) && Nat.ble (Int32.toNatClampNeg 8) 60000000 && Nat.ble (Int32.toNatClampNeg 480) 60000000 then
      am_ck (am_nm h 14 10 (Int32.toNatClampNeg 8) (Int32.toNatClampNeg 480)) r0 8 <|
      f_Rf_init_121 d (am_sP (am_nm h 14 10 (Int32.toNatClampNeg 8) (Int32.toNatClampNeg 480)) r0 23 (some (am_S h).length)) r0
    else none) := by
  refine (am_sem_seg (am_sm am_MT d) m_Rf_init 5 108 [(0, .ref r0)] [] h).trans ?_
  rfl
set_option maxRecDepth 100000 in
theorem e_Rf_init_121 (d : Nat) (h : am_H) (r0 : Nat) : f_Rf_init_121 d h r0 = (
    bif Nat.beq (am_G h) 0 && !(decide ((8 : Int32) < 0)) && Nat.ble (Int32.toNatClampNeg 8) 60000000 then
      am_ck (am_nw h (9, Int32.toNatClampNeg 8)) r0 8 <|
      f_Rf_init_129 d (am_sP (am_nw h (9, Int32.toNatClampNeg 8)) r0 24 (some (am_S h).length)) r0
    else none) := by
  refine (am_sem_seg (am_sm am_MT d) m_Rf_init 4 121 [(0, .ref r0)] [] h).trans ?_
  rfl
set_option maxRecDepth 100000 in
theorem e_Rf_init_129 (d : Nat) (h : am_H) (r0 : Nat) : f_Rf_init_129 d h r0 = (
    bif Nat.beq (am_G h) 0 && !(decide ((60 : Int32) < 0) || decide ((60 : Int32) < 0)) && Nat.ble (Int32.toNatClampNeg 60) 60000000 && Nat.ble (Int32.toNatClampNeg 60) 60000000 then
      am_ck (am_nm h 13 9 (Int32.toNatClampNeg 60) (Int32.toNatClampNeg 60)) r0 8 <|
      f_Rf_init_141 d (am_sP (am_nm h 13 9 (Int32.toNatClampNeg 60) (Int32.toNatClampNeg 60)) r0 25 (some (am_S h).length)) r0
    else none) := by
  refine (am_sem_seg (am_sm am_MT d) m_Rf_init 5 129 [(0, .ref r0)] [] h).trans ?_
  rfl
set_option maxRecDepth 100000 in
theorem e_Rf_init_141 (d : Nat) (h : am_H) (r0 : Nat) : f_Rf_init_141 d h r0 = (
    bif Nat.beq (am_G h) 0 && !(decide ((24 : Int32) < 0)) && Nat.ble (Int32.toNatClampNeg 24) 60000000 then
      am_ck (am_nw h (9, Int32.toNatClampNeg 24)) r0 8 <|
      f_Rf_init_149 d (am_sP (am_nw h (9, Int32.toNatClampNeg 24)) r0 27 (some (am_S h).length)) r0
    else none) := by
  refine (am_sem_seg (am_sm am_MT d) m_Rf_init 4 141 [(0, .ref r0)] [] h).trans ?_
  rfl
set_option maxRecDepth 100000 in
theorem e_Rf_init_149 (d : Nat) (h : am_H) (r0 : Nat) : f_Rf_init_149 d h r0 = (
    bif Nat.beq (am_G h) 0 && !(decide ((24 : Int32) < 0)) && Nat.ble (Int32.toNatClampNeg 24) 60000000 then
      am_ck (am_nw h (9, Int32.toNatClampNeg 24)) r0 8 <|
      f_Rf_init_157 d (am_sP (am_nw h (9, Int32.toNatClampNeg 24)) r0 28 (some (am_S h).length)) r0
    else none) := by
  refine (am_sem_seg (am_sm am_MT d) m_Rf_init 4 149 [(0, .ref r0)] [] h).trans ?_
  rfl
set_option maxRecDepth 100000 in
theorem e_Rf_init_157 (d : Nat) (h : am_H) (r0 : Nat) : f_Rf_init_157 d h r0 = (
    bif Nat.beq (am_G h) 0 && !(decide ((24 : Int32) < 0)) && Nat.ble (Int32.toNatClampNeg 24) 60000000 then
      am_ck (am_nw h (9, Int32.toNatClampNeg 24)) r0 8 <|
      f_Rf_init_165 d (am_sP (am_nw h (9, Int32.toNatClampNeg 24)) r0 29 (some (am_S h).length)) r0
    else none) := by
  refine (am_sem_seg (am_sm am_MT d) m_Rf_init 4 157 [(0, .ref r0)] [] h).trans ?_
  rfl
set_option maxRecDepth 100000 in
theorem e_Rf_init_165 (d : Nat) (h : am_H) (r0 : Nat) : f_Rf_init_165 d h r0 = (
    bif Nat.beq (am_G h) 0 && !(decide ((24 : Int32) < 0)) && Nat.ble (Int32.toNatClampNeg 24) 60000000 then
      am_ck (am_nw h (9, Int32.toNatClampNeg 24)) r0 8 <|
      f_Rf_init_173 d (am_sP (am_nw h (9, Int32.toNatClampNeg 24)) r0 30 (some (am_S h).length)) r0
    else none) := by
  refine (am_sem_seg (am_sm am_MT d) m_Rf_init 4 165 [(0, .ref r0)] [] h).trans ?_
  rfl
set_option maxRecDepth 100000 in
theorem e_Rf_init_173 (d : Nat) (h : am_H) (r0 : Nat) : f_Rf_init_173 d h r0 = (
    bif Nat.beq (am_G h) 0 && !(decide ((24 : Int32) < 0)) && Nat.ble (Int32.toNatClampNeg 24) 60000000 then
      am_ck (am_nw h (9, Int32.toNatClampNeg 24)) r0 8 <|
      f_Rf_init_181 d (am_sP (am_nw h (9, Int32.toNatClampNeg 24)) r0 31 (some (am_S h).length)) r0
    else none) := by
  refine (am_sem_seg (am_sm am_MT d) m_Rf_init 4 173 [(0, .ref r0)] [] h).trans ?_
  rfl
set_option maxRecDepth 100000 in
theorem e_Rf_init_181 (d : Nat) (h : am_H) (r0 : Nat) : f_Rf_init_181 d h r0 = (
    bif Nat.beq (am_G h) 0 && !(decide ((24 : Int32) < 0)) && Nat.ble (Int32.toNatClampNeg 24) 60000000 then
      am_ck (am_nw h (9, Int32.toNatClampNeg 24)) r0 8 <|
      f_Rf_init_189 d (am_sP (am_nw h (9, Int32.toNatClampNeg 24)) r0 32 (some (am_S h).length)) r0
    else none) := by
  refine (am_sem_seg (am_sm am_MT d) m_Rf_init 4 181 [(0, .ref r0)] [] h).trans ?_
  rfl
set_option maxRecDepth 100000 in
theorem e_Rf_init_189 (d : Nat) (h : am_H) (r0 : Nat) : f_Rf_init_189 d h r0 = (
    bif Nat.beq (am_G h) 0 && !(decide ((24 : Int32) < 0)) && Nat.ble (Int32.toNatClampNeg 24) 60000000 then
      am_ck (am_nw h (9, Int32.toNatClampNeg 24)) r0 8 <|
      f_Rf_init_197 d (am_sP (am_nw h (9, Int32.toNatClampNeg 24)) r0 33 (some (am_S h).length)) r0
    else none) := by
  refine (am_sem_seg (am_sm am_MT d) m_Rf_init 4 189 [(0, .ref r0)] [] h).trans ?_
  rfl
set_option maxRecDepth 100000 in
theorem e_Rf_init_197 (d : Nat) (h : am_H) (r0 : Nat) : f_Rf_init_197 d h r0 = (
    bif Nat.beq (am_G h) 0 && !(decide ((5 : Int32) < 0)) && Nat.ble (Int32.toNatClampNeg 5) 60000000 then
      am_ck (am_nw h (10, Int32.toNatClampNeg 5)) r0 8 <|
      f_Rf_init_204 d (am_sP (am_nw h (10, Int32.toNatClampNeg 5)) r0 35 (some (am_S h).length)) r0
    else none) := by
  refine (am_sem_seg (am_sm am_MT d) m_Rf_init 4 197 [(0, .ref r0)] [] h).trans ?_
  rfl
set_option maxRecDepth 100000 in
theorem e_Rf_init_204 (d : Nat) (h : am_H) (r0 : Nat) : f_Rf_init_204 d h r0 = (
    bif Nat.beq (am_G h) 0 && !(decide ((480 : Int32) < 0)) && Nat.ble (Int32.toNatClampNeg 480) 60000000 then
      am_ck (am_nw h (12, Int32.toNatClampNeg 480)) r0 8 <|
      f_Rf_init_213 d (am_sP (am_nw h (12, Int32.toNatClampNeg 480)) r0 38 (some (am_S h).length)) r0
    else none) := by
  refine (am_sem_seg (am_sm am_MT d) m_Rf_init 4 204 [(0, .ref r0)] [] h).trans ?_
  rfl
set_option maxRecDepth 100000 in
theorem e_Rf_init_213 (d : Nat) (h : am_H) (r0 : Nat) : f_Rf_init_213 d h r0 = (
    bif Nat.beq (am_G h) 0 && !(decide ((480 : Int32) < 0)) && Nat.ble (Int32.toNatClampNeg 480) 60000000 then
      am_ck (am_nw h (12, Int32.toNatClampNeg 480)) r0 8 <|
      f_Rf_init_222 d (am_sP (am_nw h (12, Int32.toNatClampNeg 480)) r0 39 (some (am_S h).length)) r0
    else none) := by
  refine (am_sem_seg (am_sm am_MT d) m_Rf_init 4 213 [(0, .ref r0)] [] h).trans ?_
  rfl
set_option maxRecDepth 100000 in
theorem e_Rf_init_222 (d : Nat) (h : am_H) (r0 : Nat) : f_Rf_init_222 d h r0 = (
    bif Nat.beq (am_G h) 0 && !(decide ((480 : Int32) < 0)) && Nat.ble (Int32.toNatClampNeg 480) 60000000 then
      am_ck (am_nw h (9, Int32.toNatClampNeg 480)) r0 8 <|
      f_Rf_init_231 d (am_sP (am_nw h (9, Int32.toNatClampNeg 480)) r0 40 (some (am_S h).length)) r0
    else none) := by
  refine (am_sem_seg (am_sm am_MT d) m_Rf_init 4 222 [(0, .ref r0)] [] h).trans ?_
  rfl
set_option maxRecDepth 100000 in
theorem e_Rf_init_231 (d : Nat) (h : am_H) (r0 : Nat) : f_Rf_init_231 d h r0 = (
    bif Nat.beq (am_G h) 0 && !(decide ((480 : Int32) < 0)) && Nat.ble (Int32.toNatClampNeg 480) 60000000 then
      am_ck (am_nw h (9, Int32.toNatClampNeg 480)) r0 8 <|
      f_Rf_init_240 d (am_sP (am_nw h (9, Int32.toNatClampNeg 480)) r0 41 (some (am_S h).length)) r0
    else none) := by
  refine (am_sem_seg (am_sm am_MT d) m_Rf_init 4 231 [(0, .ref r0)] [] h).trans ?_
  rfl
set_option maxRecDepth 100000 in
theorem e_Rf_init_240 (d : Nat) (h : am_H) (r0 : Nat) : f_Rf_init_240 d h r0 = (
    bif Nat.beq (am_G h) 0 && !(decide ((480 : Int32) < 0)) && Nat.ble (Int32.toNatClampNeg 480) 60000000 then
      am_ck (am_nw h (10, Int32.toNatClampNeg 480)) r0 8 <|
      f_Rf_init_249 d (am_sP (am_nw h (10, Int32.toNatClampNeg 480)) r0 44 (some (am_S h).length)) r0
    else none) := by
  refine (am_sem_seg (am_sm am_MT d) m_Rf_init 4 240 [(0, .ref r0)] [] h).trans ?_
  rfl
set_option maxRecDepth 100000 in
theorem e_Rf_init_249 (d : Nat) (h : am_H) (r0 : Nat) : f_Rf_init_249 (d + 1) h r0 = (
    am_gp h r0 8 9 fun p_1 =>
    am_cv (f_Rf_begins d h p_1) fun h_2 =>
    some (.inr none, h_2)) := by
  refine (am_sem_seg (am_sm am_MT (d + 1)) m_Rf_init 4 249 [(0, .ref r0)] [] h).trans ?_
  rfl
set_option maxRecDepth 100000 in
theorem e_Rf_begins (d : Nat) (h : am_H) (r0 : Nat) : f_Rf_begins d h r0 = (
    f_Rf_begins_2 d h r0 0) := by
  refine (am_sem_seg (am_sm am_MT d) m_Rf_begins 2 0 [(0, .ref r0)] [] h).trans ?_
  rfl
set_option maxRecDepth 100000 in
theorem e_Rf_begins_2 (d : Nat) (h : am_H) (r0 : Nat) (i1 : Int32) : f_Rf_begins_2 (d + 1) h r0 i1 = (
    if 1604 ≤ i1 then
      am_ar h 9 r0 2 fun j_1 =>
      am_cv (f_Rf_lays d (am_sI h r0 j_1 2) r0 0 1 (-1) (-1)) fun h_2 =>
      am_cv (f_Rf_lays d h_2 r0 1 2 (-1) (-1)) fun h_3 =>
      some (.inr none, h_3)
    else
    am_ar h 9 r0 i1 fun j_4 =>
    f_Rf_begins_2 (d + 1) (am_sI h r0 j_4 0) r0 (i1 + 1)) := by
  refine (am_sem_seg (am_sm am_MT (d + 1)) m_Rf_begins 20 2 [(0, .ref r0), (1, .int i1)] [] h).trans ?_
  rfl
set_option maxRecDepth 100000 in
theorem e_Rf_lays (d : Nat) (h : am_H) (r0 : Nat) (i1 : Int32) (i2 : Int32) (i3 : Int32) (i4 : Int32) : f_Rf_lays d h r0 i1 i2 i3 i4 = (
    am_ar h 9 r0 (36 + (3 * i1)) fun j_1 =>
    am_ar (am_sI h r0 j_1 i2) 9 r0 ((36 + (3 * i1)) + 1) fun j_2 =>
    am_ar (am_sI (am_sI h r0 j_1 i2) r0 j_2 i3) 9 r0 ((36 + (3 * i1)) + 2) fun j_3 =>
    some (.inr none, (am_sI (am_sI (am_sI h r0 j_1 i2) r0 j_2 i3) r0 j_3 i4))) := by
  refine (am_sem_seg (am_sm am_MT d) m_Rf_lays 29 0 [(0, .ref r0), (1, .int i1), (2, .int i2), (3, .int i3), (4, .int i4)] [] h).trans ?_
  rfl
set_option maxRecDepth 100000 in
theorem e_Rf_kindOf (d : Nat) (h : am_H) (r0 : Nat) (i1 : Int32) : f_Rf_kindOf d h r0 i1 = (
    am_ar h 9 r0 (36 + (3 * i1)) fun j_1 =>
    some (.inr (some (.int (am_I h r0 j_1))), h)) := by
  refine (am_sem_seg (am_sm am_MT d) m_Rf_kindOf 8 0 [(0, .ref r0), (1, .int i1)] [] h).trans ?_
  rfl
set_option maxRecDepth 100000 in
theorem e_Rf_oneOf (d : Nat) (h : am_H) (r0 : Nat) (i1 : Int32) : f_Rf_oneOf d h r0 i1 = (
    am_ar h 9 r0 ((36 + (3 * i1)) + 1) fun j_1 =>
    some (.inr (some (.int (am_I h r0 j_1))), h)) := by
  refine (am_sem_seg (am_sm am_MT d) m_Rf_oneOf 10 0 [(0, .ref r0), (1, .int i1)] [] h).trans ?_
  rfl
set_option maxRecDepth 100000 in
theorem e_Rf_otherOf (d : Nat) (h : am_H) (r0 : Nat) (i1 : Int32) : f_Rf_otherOf d h r0 i1 = (
    am_ar h 9 r0 ((36 + (3 * i1)) + 2) fun j_1 =>
    some (.inr (some (.int (am_I h r0 j_1))), h)) := by
  refine (am_sem_seg (am_sm am_MT d) m_Rf_otherOf 10 0 [(0, .ref r0), (1, .int i1)] [] h).trans ?_
  rfl
set_option maxRecDepth 100000 in
theorem e_Rf_axiomOf (d : Nat) (h : am_H) (r0 : Nat) (i1 : Int32) (i2 : Int32) : f_Rf_axiomOf d h r0 i1 i2 = (
    am_ar h 9 r0 ((1476 + (4 * i1)) + i2) fun j_1 =>
    some (.inr (some (.int (am_I h r0 j_1))), h)) := by
  refine (am_sem_seg (am_sm am_MT d) m_Rf_axiomOf 10 0 [(0, .ref r0), (1, .int i1), (2, .int i2)] [] h).trans ?_
  rfl
set_option maxRecDepth 100000 in
theorem e_Rf_thrown (d : Nat) (h : am_H) (r0 : Nat) : f_Rf_thrown d h r0 = (
    am_gi h r0 8 0 fun x_1 =>
    some (.inr (some (.int x_1)), h)) := by
  refine (am_sem_seg (am_sm am_MT d) m_Rf_thrown 3 0 [(0, .ref r0)] [] h).trans ?_
  rfl
set_option maxRecDepth 100000 in
theorem e_Rf_bad (d : Nat) (h : am_H) (r0 : Nat) (i1 : Int32) (i2 : Int32) (i3 : Int32) : f_Rf_bad d h r0 i1 i2 i3 = (
    if i1 = 0 then
      am_gi h r0 8 0 fun x_1 =>
      if x_1 = 0 then
        am_01 0 (some (.inr (some (.int 0)), h))
      else
      am_01 1 (some (.inr (some (.int 1)), h))
    else
    am_gi h r0 8 0 fun x_2 =>
    if x_2 = 0 then
      am_ck h r0 8 <|
      am_gp (am_sI h r0 0 i2) r0 8 1 fun p_3 =>
      am_ar (am_sI h r0 0 i2) 9 p_3 i3 fun j_4 =>
      am_ar (am_sI h r0 0 i2) 9 p_3 i3 fun j_5 =>
      am_gi (am_sI (am_sI h r0 0 i2) p_3 j_5 ((am_I (am_sI h r0 0 i2) p_3 j_4) + 1)) r0 8 0 fun x_6 =>
      if x_6 = 0 then
        am_01 0 (some (.inr (some (.int 0)), (am_sI (am_sI h r0 0 i2) p_3 j_5 ((am_I (am_sI h r0 0 i2) p_3 j_4) + 1))))
      else
      am_01 1 (some (.inr (some (.int 1)), (am_sI (am_sI h r0 0 i2) p_3 j_5 ((am_I (am_sI h r0 0 i2) p_3 j_4) + 1))))
    else
    am_gi h r0 8 0 fun x_7 =>
    if x_7 = 0 then
      am_01 0 (some (.inr (some (.int 0)), h))
    else
    am_01 1 (some (.inr (some (.int 1)), h))) := by
  refine (am_sem_seg (am_sm am_MT d) m_Rf_bad 22 0 [(0, .ref r0), (1, .int i1), (2, .int i2), (3, .int i3)] [] h).trans ?_
  rfl
set_option maxRecDepth 100000 in
theorem e_Rf_in (d : Nat) (h : am_H) (i0 : Int32) (i1 : Int32) (i2 : Int32) : f_Rf_in d h i0 i1 i2 = (
    if i0 < i1 then
      am_01 0 (some (.inr (some (.int 0)), h))
    else
    if i2 < i0 then
      am_01 0 (some (.inr (some (.int 0)), h))
    else
    am_01 1 (some (.inr (some (.int 1)), h))) := by
  refine (am_sem_seg (am_sm am_MT d) m_Rf_in 9 0 [(0, .int i0), (1, .int i1), (2, .int i2)] [] h).trans ?_
  rfl
set_option maxRecDepth 100000 in
theorem e_Rf_less (d : Nat) (h : am_H) (i0 : Int32) (i1 : Int32) : f_Rf_less d h i0 i1 = (
    if i1 ≤ i0 then
      some (.inr (some (.int i1)), h)
    else
    some (.inr (some (.int i0)), h)) := by
  refine (am_sem_seg (am_sm am_MT d) m_Rf_less 6 0 [(0, .int i0), (1, .int i1)] [] h).trans ?_
  rfl
set_option maxRecDepth 100000 in
theorem e_Rf_more (d : Nat) (h : am_H) (i0 : Int32) (i1 : Int32) : f_Rf_more d h i0 i1 = (
    if i0 ≤ i1 then
      some (.inr (some (.int i1)), h)
    else
    some (.inr (some (.int i0)), h)) := by
  refine (am_sem_seg (am_sm am_MT d) m_Rf_more 6 0 [(0, .int i0), (1, .int i1)] [] h).trans ?_
  rfl
set_option maxRecDepth 100000 in
theorem e_Rf_has (d : Nat) (h : am_H) (l0 : Int64) (i2 : Int32) : f_Rf_has d h l0 i2 = (
    if (lg_cmp ((am_lshr l0 i2) &&& 1) 1) = 0 then
      am_01 1 (some (.inr (some (.int 1)), h))
    else
    am_01 0 (some (.inr (some (.int 0)), h))) := by
  refine (am_sem_seg (am_sm am_MT d) m_Rf_has 11 0 [(0, .long l0), (2, .int i2)] [] h).trans ?_
  rfl
set_option maxRecDepth 100000 in
theorem e_Rf_bits (d : Nat) (h : am_H) (l0 : Int64) : f_Rf_bits d h l0 = (
    f_Rf_bits_4 d h 0 l0) := by
  refine (am_sem_seg (am_sm am_MT d) m_Rf_bits 4 0 [(0, .long l0)] [] h).trans ?_
  rfl
set_option maxRecDepth 100000 in
theorem e_Rf_bits_4 (d : Nat) (h : am_H) (i2 : Int32) (l3 : Int64) : f_Rf_bits_4 d h i2 l3 = (
    if (lg_cmp l3 0) = 0 then
      some (.inr (some (.int i2)), h)
    else
    f_Rf_bits_4 d h (i2 + 1) (l3 &&& (l3 - 1))) := by
  refine (am_sem_seg (am_sm am_MT d) m_Rf_bits 12 4 [(2, .int i2), (3, .long l3)] [] h).trans ?_
  rfl
set_option maxRecDepth 100000 in
theorem e_Rf_feed (d : Nat) (h : am_H) (r0 : Nat) (i1 : Int32) (i2 : Int32) (i3 : Int32) (i4 : Int32) (i5 : Int32) : f_Rf_feed d h r0 i1 i2 i3 i4 i5 = (
    am_ck h r0 8 <|
    am_gi (am_sI h r0 0 0) r0 8 2 fun x_1 =>
    if (x_1 + 20) ≤ 400 then
      f_Rf_feed_23 d (am_sI h r0 0 0) r0 i1 i2 i3 i4 i5 0
    else
    some (.inr (some (.int (-1))), (am_sI h r0 0 0))) := by
  refine (am_sem_seg (am_sm am_MT d) m_Rf_feed 11 0 [(0, .ref r0), (1, .int i1), (2, .int i2), (3, .int i3), (4, .int i4), (5, .int i5)] [] h).trans ?_
  rfl
set_option maxRecDepth 100000 in
theorem e_Rf_feed_23 (d : Nat) (h : am_H) (r0 : Nat) (i1 : Int32) (i2 : Int32) (i3 : Int32) (i4 : Int32) (i5 : Int32) (i6 : Int32) : f_Rf_feed_23 d h r0 i1 i2 i3 i4 i5 i6 = (
    if 20 ≤ i6 then
      am_gi h r0 8 2 fun x_1 =>
      some (.inr (some (.int x_1)), h)
    else
    if 4 ≤ i6 then
      if 8 ≤ i6 then
        if 12 ≤ i6 then
          if 16 ≤ i6 then
            f_Rf_feed_76 d h r0 i1 i2 i3 i4 i5 i6 i5
          else
          f_Rf_feed_76 d h r0 i1 i2 i3 i4 i5 i6 i4
        else
        f_Rf_feed_76 d h r0 i1 i2 i3 i4 i5 i6 i3
      else
      f_Rf_feed_76 d h r0 i1 i2 i3 i4 i5 i6 i2
    else
    f_Rf_feed_76 d h r0 i1 i2 i3 i4 i5 i6 i1) := by
  refine (am_sem_seg (am_sm am_MT d) m_Rf_feed 17 23 [(0, .ref r0), (1, .int i1), (2, .int i2), (3, .int i3), (4, .int i4), (5, .int i5), (6, .int i6)] [] h).trans ?_
  rfl
set_option maxRecDepth 100000 in
theorem e_Rf_feed_76 (d : Nat) (h : am_H) (r0 : Nat) (i1 : Int32) (i2 : Int32) (i3 : Int32) (i4 : Int32) (i5 : Int32) (i6 : Int32) (s0 : Int32) : f_Rf_feed_76 d h r0 i1 i2 i3 i4 i5 i6 s0 = (
    am_gp h r0 8 8 fun p_1 =>
    am_gi h r0 8 2 fun x_2 =>
    if (4 : Int32) = 0 then none else
    am_ar h 9 p_1 x_2 fun j_3 =>
    am_gi (am_sI h p_1 j_3 ((am_ishr s0 (24 - (8 * (am_irem i6 4)))) &&& 255)) r0 8 2 fun x_4 =>
    am_ck (am_sI h p_1 j_3 ((am_ishr s0 (24 - (8 * (am_irem i6 4)))) &&& 255)) r0 8 <|
    f_Rf_feed_23 d (am_sI (am_sI h p_1 j_3 ((am_ishr s0 (24 - (8 * (am_irem i6 4)))) &&& 255)) r0 2 (x_4 + 1)) r0 i1 i2 i3 i4 i5 (i6 + 1)) := by
  refine (am_sem_seg (am_sm am_MT d) m_Rf_feed 25 76 [(0, .ref r0), (1, .int i1), (2, .int i2), (3, .int i3), (4, .int i4), (5, .int i5), (6, .int i6)] [.int s0] h).trans ?_
  rfl
set_option maxRecDepth 100000 in
theorem e_Rf_byteAt (d : Nat) (h : am_H) (r0 : Nat) (i1 : Int32) : f_Rf_byteAt d h r0 i1 = (
    am_gi h r0 8 3 fun x_1 =>
    if i1 < x_1 then
      am_gp h r0 8 8 fun p_2 =>
      am_ar h 9 p_2 i1 fun j_3 =>
      some (.inr (some (.int (am_I h p_2 j_3))), h)
    else
    some (.inr (some (.int (-1))), h)) := by
  refine (am_sem_seg (am_sm am_MT d) m_Rf_byteAt 9 0 [(0, .ref r0), (1, .int i1)] [] h).trans ?_
  rfl
set_option maxRecDepth 100000 in
theorem e_Rf_here (d : Nat) (h : am_H) (r0 : Nat) : f_Rf_here (d + 1) h r0 = (
    am_gi h r0 8 4 fun x_1 =>
    am_ck h r0 8 <| am_ci (f_Rf_byteAt d h r0 x_1) fun x_3 h_2 =>
    if x_3 = 32 then
      am_gi h_2 r0 8 4 fun x_4 =>
      am_ck h_2 r0 8 <|
      f_Rf_here_0 (d + 1) (am_sI h_2 r0 4 (x_4 + 1)) r0
    else
    am_gi h_2 r0 8 4 fun x_5 =>
    am_ck h_2 r0 8 <| am_ci (f_Rf_byteAt d h_2 r0 x_5) fun x_7 h_6 =>
    some (.inr (some (.int x_7)), h_6)) := by
  refine (am_sem_seg (am_sm am_MT (d + 1)) m_Rf_here 13 0 [(0, .ref r0)] [] h).trans ?_
  rfl
set_option maxRecDepth 100000 in
theorem e_Rf_here_0 (d : Nat) (h : am_H) (r0 : Nat) : f_Rf_here_0 (d + 1) h r0 = (
    am_gi h r0 8 4 fun x_1 =>
    am_ck h r0 8 <| am_ci (f_Rf_byteAt d h r0 x_1) fun x_3 h_2 =>
    if x_3 = 32 then
      am_gi h_2 r0 8 4 fun x_4 =>
      am_ck h_2 r0 8 <|
      f_Rf_here_0 (d + 1) (am_sI h_2 r0 4 (x_4 + 1)) r0
    else
    am_gi h_2 r0 8 4 fun x_5 =>
    am_ck h_2 r0 8 <| am_ci (f_Rf_byteAt d h_2 r0 x_5) fun x_7 h_6 =>
    some (.inr (some (.int x_7)), h_6)) := by
  refine (am_sem_seg (am_sm am_MT (d + 1)) m_Rf_here 13 0 [(0, .ref r0)] [] h).trans ?_
  rfl
set_option maxRecDepth 100000 in
theorem e_Rf_fine (d : Nat) (h : am_H) (r0 : Nat) : f_Rf_fine d h r0 = (
    am_gi h r0 8 6 fun x_1 =>
    if x_1 = 0 then
      am_01 1 (some (.inr (some (.int 1)), h))
    else
    am_01 0 (some (.inr (some (.int 0)), h))) := by
  refine (am_sem_seg (am_sm am_MT d) m_Rf_fine 6 0 [(0, .ref r0)] [] h).trans ?_
  rfl
set_option maxRecDepth 100000 in
theorem e_Rf_wrong (d : Nat) (h : am_H) (r0 : Nat) (i1 : Int32) (i2 : Int32) : f_Rf_wrong d h r0 i1 i2 = (
    am_gi h r0 8 6 fun x_1 =>
    if x_1 = 0 then
      am_ck h r0 8 <|
      am_ck (am_sI h r0 6 i1) r0 8 <|
      some (.inr (some (.int (-1))), (am_sI (am_sI h r0 6 i1) r0 7 i2))
    else
    some (.inr (some (.int (-1))), h)) := by
  refine (am_sem_seg (am_sm am_MT d) m_Rf_wrong 11 0 [(0, .ref r0), (1, .int i1), (2, .int i2)] [] h).trans ?_
  rfl
set_option maxRecDepth 100000 in
theorem e_Rf_isSmall (d : Nat) (h : am_H) (i0 : Int32) : f_Rf_isSmall d h i0 = (
    if i0 < 97 then
      am_01 0 (some (.inr (some (.int 0)), h))
    else
    if 122 < i0 then
      am_01 0 (some (.inr (some (.int 0)), h))
    else
    am_01 1 (some (.inr (some (.int 1)), h))) := by
  refine (am_sem_seg (am_sm am_MT d) m_Rf_isSmall 9 0 [(0, .int i0)] [] h).trans ?_
  rfl
set_option maxRecDepth 100000 in
theorem e_Rf_letters (d : Nat) (h : am_H) (r0 : Nat) : f_Rf_letters (d + 1) h r0 = (
    am_ck h r0 8 <| am_ci (f_Rf_here d h r0) fun x_2 h_1 =>
    f_Rf_letters_7 (d + 1) h_1 r0 0) := by
  refine (am_sem_seg (am_sm am_MT (d + 1)) m_Rf_letters 5 0 [(0, .ref r0)] [] h).trans ?_
  rfl
set_option maxRecDepth 100000 in
theorem e_Rf_letters_7 (d : Nat) (h : am_H) (r0 : Nat) (i1 : Int32) : f_Rf_letters_7 (d + 1) h r0 i1 = (
    am_gi h r0 8 4 fun x_1 =>
    am_ck h r0 8 <| am_ci (f_Rf_byteAt d h r0 (x_1 + i1)) fun x_3 h_2 =>
    am_ci (f_Rf_isSmall d h_2 x_3) fun x_5 h_4 =>
    if x_5 = 0 then
      some (.inr (some (.int i1)), h_4)
    else
    f_Rf_letters_7 (d + 1) h_4 r0 (i1 + 1)) := by
  refine (am_sem_seg (am_sm am_MT (d + 1)) m_Rf_letters 10 7 [(0, .ref r0), (1, .int i1)] [] h).trans ?_
  rfl
set_option maxRecDepth 100000 in
theorem e_Rf_isWord (d : Nat) (h : am_H) (r0 : Nat) (r1 : Nat) : f_Rf_isWord (d + 1) h r0 r1 = (
    am_ck h r0 8 <| am_ci (f_Rf_letters d h r0) fun x_2 h_1 =>
    am_tl r1 fun x_3 =>
    if x_2 = x_3 then
      f_Rf_isWord_19 (d + 1) h_1 r0 r1 1 0
    else
    f_Rf_isWord_19 (d + 1) h_1 r0 r1 0 0) := by
  refine (am_sem_seg (am_sm am_MT (d + 1)) m_Rf_isWord 10 0 [(0, .ref r0), (1, .ref r1)] [] h).trans ?_
  rfl
set_option maxRecDepth 100000 in
theorem e_Rf_isWord_19 (d : Nat) (h : am_H) (r0 : Nat) (r1 : Nat) (i2 : Int32) (i3 : Int32) : f_Rf_isWord_19 (d + 1) h r0 r1 i2 i3 = (
    am_tl r1 fun x_1 =>
    if x_1 ≤ i3 then
      am_01 i2 (some (.inr (some (.int i2)), h))
    else
    if i2 = 0 then
      am_01 i2 (some (.inr (some (.int i2)), h))
    else
    am_gi h r0 8 4 fun x_2 =>
    am_ck h r0 8 <| am_ci (f_Rf_byteAt d h r0 (x_2 + i3)) fun x_4 h_3 =>
    am_tc r1 i3 fun x_5 =>
    if x_4 = x_5 then
      f_Rf_isWord_19 (d + 1) h_3 r0 r1 1 (i3 + 1)
    else
    f_Rf_isWord_19 (d + 1) h_3 r0 r1 0 (i3 + 1)) := by
  refine (am_sem_seg (am_sm am_MT (d + 1)) m_Rf_isWord 21 19 [(0, .ref r0), (1, .ref r1), (2, .int i2), (3, .int i3)] [] h).trans ?_
  rfl
set_option maxRecDepth 100000 in
theorem e_Rf_isOwn (d : Nat) (h : am_H) (r0 : Nat) : f_Rf_isOwn (d + 1) h r0 = (
    am_ck h r0 8 <| am_ci (f_Rf_isWord d h r0 1000000) fun x_2 h_1 =>
    if x_2 = 0 then
      am_ck h_1 r0 8 <| am_ci (f_Rf_isWord d h_1 r0 1000001) fun x_4 h_3 =>
      if x_4 = 0 then
        am_ck h_3 r0 8 <| am_ci (f_Rf_isWord d h_3 r0 1000002) fun x_6 h_5 =>
        if x_6 = 0 then
          am_01 0 (some (.inr (some (.int 0)), h_5))
        else
        am_01 1 (some (.inr (some (.int 1)), h_5))
      else
      am_01 1 (some (.inr (some (.int 1)), h_3))
    else
    am_01 1 (some (.inr (some (.int 1)), h_1))) := by
  refine (am_sem_seg (am_sm am_MT (d + 1)) m_Rf_isOwn 15 0 [(0, .ref r0)] [] h).trans ?_
  rfl
set_option maxRecDepth 100000 in
theorem e_Rf_takesSign (d : Nat) (h : am_H) (r0 : Nat) (i1 : Int32) : f_Rf_takesSign (d + 1) h r0 i1 = (
    am_ck h r0 8 <| am_ci (f_Rf_fine d h r0) fun x_2 h_1 =>
    if x_2 = 0 then
      am_01 0 (some (.inr (some (.int 0)), h_1))
    else
    am_ck h_1 r0 8 <| am_ci (f_Rf_here d h_1 r0) fun x_4 h_3 =>
    if x_4 = i1 then
      am_gi h_3 r0 8 4 fun x_5 =>
      am_ck h_3 r0 8 <|
      am_01 1 (some (.inr (some (.int 1)), (am_sI h_3 r0 4 (x_5 + 1))))
    else
    am_01 0 (some (.inr (some (.int 0)), h_3))) := by
  refine (am_sem_seg (am_sm am_MT (d + 1)) m_Rf_takesSign 15 0 [(0, .ref r0), (1, .int i1)] [] h).trans ?_
  rfl
set_option maxRecDepth 100000 in
theorem e_Rf_isTwice (d : Nat) (h : am_H) (r0 : Nat) : f_Rf_isTwice (d + 1) h r0 = (
    am_ck h r0 8 <| am_ci (f_Rf_here d h r0) fun x_2 h_1 =>
    if x_2 = 60 then
      am_gi h_1 r0 8 4 fun x_3 =>
      am_ck h_1 r0 8 <| am_ci (f_Rf_byteAt d h_1 r0 (x_3 + 1)) fun x_5 h_4 =>
      if x_5 = 60 then
        am_01 1 (some (.inr (some (.int 1)), h_4))
      else
      am_01 0 (some (.inr (some (.int 0)), h_4))
    else
    am_01 0 (some (.inr (some (.int 0)), h_1))) := by
  refine (am_sem_seg (am_sm am_MT (d + 1)) m_Rf_isTwice 15 0 [(0, .ref r0)] [] h).trans ?_
  rfl
set_option maxRecDepth 100000 in
theorem e_Rf_numbered (d : Nat) (h : am_H) (r0 : Nat) (i1 : Int32) (i2 : Int32) (i3 : Int32) : f_Rf_numbered (d + 1) h r0 i1 i2 i3 = (
    am_ck h r0 8 <| am_ci (f_Rf_fine d h r0) fun x_2 h_1 =>
    if x_2 = 0 then
      some (.inr (some (.int (-1))), h_1)
    else
    am_ck h_1 r0 8 <| am_ci (f_Rf_letters d h_1 r0) fun x_4 h_3 =>
    am_gi h_3 r0 8 4 fun x_5 =>
    if x_4 = 0 then
      am_ck h_3 r0 8 <| am_ci (f_Rf_wrong d h_3 r0 1 x_5) fun x_7 h_6 =>
      some (.inr (some (.int x_7)), h_6)
    else
    am_ck h_3 r0 8 <| am_ci (f_Rf_isOwn d h_3 r0) fun x_9 h_8 =>
    if x_9 = 0 then
      if x_4 ≤ 6 then
        f_Rf_numbered_62 (d + 1) h_8 r0 i1 i2 i3 x_4 x_5 0 0
      else
      am_ck h_8 r0 8 <| am_ci (f_Rf_wrong d h_8 r0 2 x_5) fun x_11 h_10 =>
      some (.inr (some (.int x_11)), h_10)
    else
    am_ck h_8 r0 8 <| am_ci (f_Rf_wrong d h_8 r0 1 x_5) fun x_13 h_12 =>
    some (.inr (some (.int x_13)), h_12)) := by
  refine (am_sem_seg (am_sm am_MT (d + 1)) m_Rf_numbered 22 0 [(0, .ref r0), (1, .int i1), (2, .int i2), (3, .int i3)] [] h).trans ?_
  rfl
set_option maxRecDepth 100000 in
theorem e_Rf_numbered_62 (d : Nat) (h : am_H) (r0 : Nat) (i1 : Int32) (i2 : Int32) (i3 : Int32) (i4 : Int32) (i5 : Int32) (i6 : Int32) (i7 : Int32) : f_Rf_numbered_62 (d + 1) h r0 i1 i2 i3 i4 i5 i6 i7 = (
    if 6 ≤ i7 then
      am_gi h r0 8 4 fun x_1 =>
      am_ck h r0 8 <|
      f_Rf_numbered_122 (d + 1) (am_sI h r0 4 (x_1 + i4)) r0 i1 i2 i3 i5 i6 0
    else
    if i4 ≤ i7 then
      f_Rf_numbered_62 (d + 1) h r0 i1 i2 i3 i4 i5 ((27 * i6) + 0) (i7 + 1)
    else
    am_gi h r0 8 4 fun x_2 =>
    am_ck h r0 8 <| am_ci (f_Rf_byteAt d h r0 (x_2 + i7)) fun x_4 h_3 =>
    f_Rf_numbered_62 (d + 1) h_3 r0 i1 i2 i3 i4 i5 ((27 * i6) + (x_4 - 96)) (i7 + 1)) := by
  refine (am_sem_seg (am_sm am_MT (d + 1)) m_Rf_numbered 22 62 [(0, .ref r0), (1, .int i1), (2, .int i2), (3, .int i3), (4, .int i4), (5, .int i5), (6, .int i6), (7, .int i7)] [] h).trans ?_
  rfl
set_option maxRecDepth 100000 in
theorem e_Rf_numbered_122 (d : Nat) (h : am_H) (r0 : Nat) (i1 : Int32) (i2 : Int32) (i3 : Int32) (i5 : Int32) (i6 : Int32) (i7 : Int32) : f_Rf_numbered_122 (d + 1) h r0 i1 i2 i3 i5 i6 i7 = (
    am_gp h r0 8 10 fun p_1 =>
    am_ar h 9 p_1 i1 fun j_2 =>
    if (am_I h p_1 j_2) ≤ i7 then
      am_gi h r0 8 17 fun x_3 =>
      if x_3 = 0 then
        am_gp h r0 8 10 fun p_4 =>
        am_ar h 9 p_4 i1 fun j_5 =>
        if (am_I h p_4 j_5) = i3 then
          am_ck h r0 8 <| am_ci (f_Rf_wrong d h r0 3 i5) fun x_7 h_6 =>
          some (.inr (some (.int x_7)), h_6)
        else
        am_gp h r0 8 10 fun p_8 =>
        am_gp h r0 8 10 fun p_9 =>
        am_ar h 9 p_9 i1 fun j_10 =>
        am_ar h 9 p_8 (i2 + (am_I h p_9 j_10)) fun j_11 =>
        am_gp (am_sI h p_8 j_11 i6) r0 8 10 fun p_12 =>
        am_ar (am_sI h p_8 j_11 i6) 9 p_12 i1 fun j_13 =>
        am_ar (am_sI h p_8 j_11 i6) 9 p_12 i1 fun j_14 =>
        am_gp (am_sI (am_sI h p_8 j_11 i6) p_12 j_14 ((am_I (am_sI h p_8 j_11 i6) p_12 j_13) + 1)) r0 8 10 fun p_15 =>
        am_ar (am_sI (am_sI h p_8 j_11 i6) p_12 j_14 ((am_I (am_sI h p_8 j_11 i6) p_12 j_13) + 1)) 9 p_15 i1 fun j_16 =>
        some (.inr (some (.int ((am_I (am_sI (am_sI h p_8 j_11 i6) p_12 j_14 ((am_I (am_sI h p_8 j_11 i6) p_12 j_13) + 1)) p_15 j_16) - 1))), (am_sI (am_sI h p_8 j_11 i6) p_12 j_14 ((am_I (am_sI h p_8 j_11 i6) p_12 j_13) + 1)))
      else
      am_ck h r0 8 <| am_ci (f_Rf_wrong d h r0 6 i5) fun x_18 h_17 =>
      some (.inr (some (.int x_18)), h_17)
    else
    am_gp h r0 8 10 fun p_19 =>
    am_ar h 9 p_19 (i2 + i7) fun j_20 =>
    if (am_I h p_19 j_20) = i6 then
      some (.inr (some (.int i7)), h)
    else
    f_Rf_numbered_122 (d + 1) h r0 i1 i2 i3 i5 i6 (i7 + 1)) := by
  refine (am_sem_seg (am_sm am_MT (d + 1)) m_Rf_numbered 40 122 [(0, .ref r0), (1, .int i1), (2, .int i2), (3, .int i3), (5, .int i5), (6, .int i6), (7, .int i7)] [] h).trans ?_
  rfl
set_option maxRecDepth 100000 in
theorem e_Rf_nameHere (d : Nat) (h : am_H) (r0 : Nat) : f_Rf_nameHere (d + 1) h r0 = (
    am_ck h r0 8 <| am_ci (f_Rf_numbered d h r0 0 4 24) fun x_2 h_1 =>
    some (.inr (some (.int x_2)), h_1)) := by
  refine (am_sem_seg (am_sm am_MT (d + 1)) m_Rf_nameHere 6 0 [(0, .ref r0)] [] h).trans ?_
  rfl
set_option maxRecDepth 100000 in
theorem e_Rf_roleHere (d : Nat) (h : am_H) (r0 : Nat) : f_Rf_roleHere (d + 1) h r0 = (
    am_ck h r0 8 <| am_ci (f_Rf_numbered d h r0 1 28 8) fun x_2 h_1 =>
    some (.inr (some (.int x_2)), h_1)) := by
  refine (am_sem_seg (am_sm am_MT (d + 1)) m_Rf_roleHere 6 0 [(0, .ref r0)] [] h).trans ?_
  rfl
set_option maxRecDepth 100000 in
theorem e_Rf_partOf (d : Nat) (h : am_H) (r0 : Nat) (i1 : Int32) (i2 : Int32) (i3 : Int32) : f_Rf_partOf (d + 1) h r0 i1 i2 i3 = (
    am_ck h r0 8 <| am_ci (f_Rf_fine d h r0) fun x_2 h_1 =>
    if x_2 = 0 then
      some (.inr (some (.int (-1))), h_1)
    else
    f_Rf_partOf_12 (d + 1) h_1 r0 i1 i2 i3 0) := by
  refine (am_sem_seg (am_sm am_MT (d + 1)) m_Rf_partOf 5 0 [(0, .ref r0), (1, .int i1), (2, .int i2), (3, .int i3)] [] h).trans ?_
  rfl
set_option maxRecDepth 100000 in
theorem e_Rf_partOf_12 (d : Nat) (h : am_H) (r0 : Nat) (i1 : Int32) (i2 : Int32) (i3 : Int32) (i4 : Int32) : f_Rf_partOf_12 (d + 1) h r0 i1 i2 i3 i4 = (
    am_gp h r0 8 10 fun p_1 =>
    am_ar h 9 p_1 2 fun j_2 =>
    if (am_I h p_1 j_2) ≤ i4 then
      am_gp h r0 8 10 fun p_3 =>
      am_gp h r0 8 10 fun p_4 =>
      am_ar h 9 p_4 2 fun j_5 =>
      am_cv (f_Rf_lays d h p_3 (am_I h p_4 j_5) i1 i2 i3) fun h_6 =>
      am_gp h_6 r0 8 10 fun p_7 =>
      am_ar h_6 9 p_7 2 fun j_8 =>
      am_ar h_6 9 p_7 2 fun j_9 =>
      am_gp (am_sI h_6 p_7 j_9 ((am_I h_6 p_7 j_8) + 1)) r0 8 10 fun p_10 =>
      am_ar (am_sI h_6 p_7 j_9 ((am_I h_6 p_7 j_8) + 1)) 9 p_10 2 fun j_11 =>
      some (.inr (some (.int ((am_I (am_sI h_6 p_7 j_9 ((am_I h_6 p_7 j_8) + 1)) p_10 j_11) - 1))), (am_sI h_6 p_7 j_9 ((am_I h_6 p_7 j_8) + 1)))
    else
    am_gp h r0 8 10 fun p_12 =>
    am_ci (f_Rf_kindOf d h p_12 i4) fun x_14 h_13 =>
    if x_14 = i1 then
      am_gp h_13 r0 8 10 fun p_15 =>
      am_ci (f_Rf_oneOf d h_13 p_15 i4) fun x_17 h_16 =>
      if x_17 = i2 then
        am_gp h_16 r0 8 10 fun p_18 =>
        am_ci (f_Rf_otherOf d h_16 p_18 i4) fun x_20 h_19 =>
        if x_20 = i3 then
          some (.inr (some (.int i4)), h_19)
        else
        f_Rf_partOf_12 (d + 1) h_19 r0 i1 i2 i3 (i4 + 1)
      else
      f_Rf_partOf_12 (d + 1) h_16 r0 i1 i2 i3 (i4 + 1)
    else
    f_Rf_partOf_12 (d + 1) h_13 r0 i1 i2 i3 (i4 + 1)) := by
  refine (am_sem_seg (am_sm am_MT (d + 1)) m_Rf_partOf 31 12 [(0, .ref r0), (1, .int i1), (2, .int i2), (3, .int i3), (4, .int i4)] [] h).trans ?_
  rfl
set_option maxRecDepth 100000 in
theorem e_Rf_atom (d : Nat) (h : am_H) (r0 : Nat) : f_Rf_atom (d + 1) h r0 = (
    am_ck h r0 8 <| am_ci (f_Rf_fine d h r0) fun x_2 h_1 =>
    if x_2 = 0 then
      some (.inr (some (.int (-1))), h_1)
    else
    am_ck h_1 r0 8 <| am_ci (f_Rf_isWord d h_1 r0 1000000) fun x_4 h_3 =>
    if x_4 = 0 then
      am_ck h_3 r0 8 <| am_ci (f_Rf_isWord d h_3 r0 1000001) fun x_6 h_5 =>
      if x_6 = 0 then
        am_ck h_5 r0 8 <| am_ci (f_Rf_isWord d h_5 r0 1000002) fun x_8 h_7 =>
        if x_8 = 0 then
          am_ck h_7 r0 8 <| am_ci (f_Rf_here d h_7 r0) fun x_10 h_9 =>
          if x_10 = 40 then
            am_gi h_9 r0 8 16 fun x_11 =>
            if x_11 = 6 then
              am_gi h_9 r0 8 4 fun x_12 =>
              am_ck h_9 r0 8 <| am_ci (f_Rf_wrong d h_9 r0 4 x_12) fun x_14 h_13 =>
              some (.inr (some (.int x_14)), h_13)
            else
            am_gi h_9 r0 8 4 fun x_15 =>
            am_ck h_9 r0 8 <|
            am_gi (am_sI h_9 r0 4 (x_15 + 1)) r0 8 16 fun x_16 =>
            am_ck (am_sI h_9 r0 4 (x_15 + 1)) r0 8 <|
            am_ck (am_sI (am_sI h_9 r0 4 (x_15 + 1)) r0 16 (x_16 + 1)) r0 8 <| am_ci (f_Rf_concept d (am_sI (am_sI h_9 r0 4 (x_15 + 1)) r0 16 (x_16 + 1)) r0) fun x_18 h_17 =>
            am_ck h_17 r0 8 <| am_ci (f_Rf_fine d h_17 r0) fun x_20 h_19 =>
            if x_20 = 0 then
              f_Rf_atom_184 (d + 1) h_19 r0 x_18
            else
            am_ck h_19 r0 8 <| am_ci (f_Rf_here d h_19 r0) fun x_22 h_21 =>
            if x_22 = 41 then
              f_Rf_atom_184 (d + 1) h_21 r0 x_18
            else
            am_gi h_21 r0 8 4 fun x_23 =>
            am_ck h_21 r0 8 <| am_ci (f_Rf_wrong d h_21 r0 1 x_23) fun x_25 h_24 =>
            some (.inr (some (.int x_25)), h_24)
          else
          am_ck h_9 r0 8 <| am_ci (f_Rf_nameHere d h_9 r0) fun x_27 h_26 =>
          am_ck h_26 r0 8 <| am_ci (f_Rf_partOf d h_26 r0 0 x_27 (-1)) fun x_29 h_28 =>
          some (.inr (some (.int x_29)), h_28)
        else
        am_gi h_7 r0 8 4 fun x_30 =>
        am_ck h_7 r0 8 <|
        am_ck (am_sI h_7 r0 4 (x_30 + 4)) r0 8 <| am_ci (f_Rf_roleHere d (am_sI h_7 r0 4 (x_30 + 4)) r0) fun x_32 h_31 =>
        am_ck h_31 r0 8 <| am_ci (f_Rf_atom d h_31 r0) fun x_34 h_33 =>
        am_ck h_33 r0 8 <| am_ci (f_Rf_partOf d h_33 r0 4 x_32 x_34) fun x_36 h_35 =>
        some (.inr (some (.int x_36)), h_35)
      else
      am_ck h_5 r0 8 <| am_ci (f_Rf_isWord d h_5 r0 1000000) fun x_38 h_37 =>
      if x_38 = 0 then
        f_Rf_atom_41 (d + 1) h_37 r0 1
      else
      f_Rf_atom_41 (d + 1) h_37 r0 0
    else
    am_ck h_3 r0 8 <| am_ci (f_Rf_isWord d h_3 r0 1000000) fun x_40 h_39 =>
    if x_40 = 0 then
      f_Rf_atom_41 (d + 1) h_39 r0 1
    else
    f_Rf_atom_41 (d + 1) h_39 r0 0) := by
  refine (am_sem_seg (am_sm am_MT (d + 1)) m_Rf_atom 51 0 [(0, .ref r0)] [] h).trans ?_
  rfl
set_option maxRecDepth 100000 in
theorem e_Rf_atom_41 (d : Nat) (h : am_H) (r0 : Nat) (s0 : Int32) : f_Rf_atom_41 (d + 1) h r0 s0 = (
    am_gi h r0 8 4 fun x_1 =>
    am_ck h r0 8 <| am_ci (f_Rf_letters d h r0) fun x_3 h_2 =>
    am_ck h_2 r0 8 <|
    some (.inr (some (.int s0)), (am_sI h_2 r0 4 (x_1 + x_3)))) := by
  refine (am_sem_seg (am_sm am_MT (d + 1)) m_Rf_atom 10 41 [(0, .ref r0)] [.int s0] h).trans ?_
  rfl
set_option maxRecDepth 100000 in
theorem e_Rf_atom_184 (d : Nat) (h : am_H) (r0 : Nat) (i1 : Int32) : f_Rf_atom_184 d h r0 i1 = (
    am_gi h r0 8 4 fun x_1 =>
    am_ck h r0 8 <|
    am_gi (am_sI h r0 4 (x_1 + 1)) r0 8 16 fun x_2 =>
    am_ck (am_sI h r0 4 (x_1 + 1)) r0 8 <|
    some (.inr (some (.int i1)), (am_sI (am_sI h r0 4 (x_1 + 1)) r0 16 (x_2 - 1)))) := by
  refine (am_sem_seg (am_sm am_MT d) m_Rf_atom 14 184 [(0, .ref r0), (1, .int i1)] [] h).trans ?_
  rfl
set_option maxRecDepth 100000 in
theorem e_Rf_concept (d : Nat) (h : am_H) (r0 : Nat) : f_Rf_concept (d + 1) h r0 = (
    am_ck h r0 8 <| am_ci (f_Rf_atom d h r0) fun x_2 h_1 =>
    f_Rf_concept_5 (d + 1) h_1 r0 x_2) := by
  refine (am_sem_seg (am_sm am_MT (d + 1)) m_Rf_concept 3 0 [(0, .ref r0)] [] h).trans ?_
  rfl
set_option maxRecDepth 100000 in
theorem e_Rf_concept_5 (d : Nat) (h : am_H) (r0 : Nat) (i1 : Int32) : f_Rf_concept_5 (d + 1) h r0 i1 = (
    am_ck h r0 8 <| am_ci (f_Rf_takesSign d h r0 38) fun x_2 h_1 =>
    if x_2 = 0 then
      some (.inr (some (.int i1)), h_1)
    else
    am_ck h_1 r0 8 <| am_ci (f_Rf_atom d h_1 r0) fun x_4 h_3 =>
    am_ck h_3 r0 8 <| am_ci (f_Rf_partOf d h_3 r0 3 i1 x_4) fun x_6 h_5 =>
    f_Rf_concept_5 (d + 1) h_5 r0 x_6) := by
  refine (am_sem_seg (am_sm am_MT (d + 1)) m_Rf_concept 14 5 [(0, .ref r0), (1, .int i1)] [] h).trans ?_
  rfl
set_option maxRecDepth 100000 in
theorem e_Rf_isOfRoles (d : Nat) (h : am_H) (r0 : Nat) : f_Rf_isOfRoles (d + 1) h r0 = (
    am_gi h r0 8 4 fun x_1 =>
    am_ck h r0 8 <| am_ci (f_Rf_letters d h r0) fun x_3 h_2 =>
    if x_3 = 0 then
      am_01 0 (some (.inr (some (.int 0)), h_2))
    else
    am_ck h_2 r0 8 <| am_ci (f_Rf_isOwn d h_2 r0) fun x_5 h_4 =>
    if x_5 = 0 then
      am_gi h_4 r0 8 4 fun x_6 =>
      am_ck h_4 r0 8 <|
      am_ck (am_sI h_4 r0 4 (x_6 + x_3)) r0 8 <| am_ci (f_Rf_here d (am_sI h_4 r0 4 (x_6 + x_3)) r0) fun x_8 h_7 =>
      if x_8 = 42 then
        am_ck h_7 r0 8 <|
        am_01 1 (some (.inr (some (.int 1)), (am_sI h_7 r0 4 x_1)))
      else
      am_ck h_7 r0 8 <| am_ci (f_Rf_isTwice d h_7 r0) fun x_10 h_9 =>
      if x_10 = 0 then
        am_ck h_9 r0 8 <|
        am_01 0 (some (.inr (some (.int 0)), (am_sI h_9 r0 4 x_1)))
      else
      am_ck h_9 r0 8 <|
      am_01 1 (some (.inr (some (.int 1)), (am_sI h_9 r0 4 x_1)))
    else
    am_01 0 (some (.inr (some (.int 0)), h_4))) := by
  refine (am_sem_seg (am_sm am_MT (d + 1)) m_Rf_isOfRoles 32 0 [(0, .ref r0)] [] h).trans ?_
  rfl
set_option maxRecDepth 100000 in
theorem e_Rf_adds (d : Nat) (h : am_H) (r0 : Nat) (i1 : Int32) (i2 : Int32) (i3 : Int32) (i4 : Int32) : f_Rf_adds (d + 1) h r0 i1 i2 i3 i4 = (
    am_ck h r0 8 <| am_ci (f_Rf_fine d h r0) fun x_2 h_1 =>
    if x_2 = 0 then
      some (.inr none, h_1)
    else
    am_gp h_1 r0 8 10 fun p_3 =>
    am_ar h_1 9 p_3 3 fun j_4 =>
    am_gp h_1 r0 8 10 fun p_5 =>
    am_ar h_1 9 p_5 (1476 + (4 * (am_I h_1 p_3 j_4))) fun j_6 =>
    am_gp (am_sI h_1 p_5 j_6 i1) r0 8 10 fun p_7 =>
    am_ar (am_sI h_1 p_5 j_6 i1) 9 p_7 ((1476 + (4 * (am_I h_1 p_3 j_4))) + 1) fun j_8 =>
    am_gp (am_sI (am_sI h_1 p_5 j_6 i1) p_7 j_8 i2) r0 8 10 fun p_9 =>
    am_ar (am_sI (am_sI h_1 p_5 j_6 i1) p_7 j_8 i2) 9 p_9 ((1476 + (4 * (am_I h_1 p_3 j_4))) + 2) fun j_10 =>
    am_gp (am_sI (am_sI (am_sI h_1 p_5 j_6 i1) p_7 j_8 i2) p_9 j_10 i3) r0 8 10 fun p_11 =>
    am_ar (am_sI (am_sI (am_sI h_1 p_5 j_6 i1) p_7 j_8 i2) p_9 j_10 i3) 9 p_11 ((1476 + (4 * (am_I h_1 p_3 j_4))) + 3) fun j_12 =>
    am_gp (am_sI (am_sI (am_sI (am_sI h_1 p_5 j_6 i1) p_7 j_8 i2) p_9 j_10 i3) p_11 j_12 i4) r0 8 10 fun p_13 =>
    am_ar (am_sI (am_sI (am_sI (am_sI h_1 p_5 j_6 i1) p_7 j_8 i2) p_9 j_10 i3) p_11 j_12 i4) 9 p_13 3 fun j_14 =>
    am_ar (am_sI (am_sI (am_sI (am_sI h_1 p_5 j_6 i1) p_7 j_8 i2) p_9 j_10 i3) p_11 j_12 i4) 9 p_13 3 fun j_15 =>
    some (.inr none, (am_sI (am_sI (am_sI (am_sI (am_sI h_1 p_5 j_6 i1) p_7 j_8 i2) p_9 j_10 i3) p_11 j_12 i4) p_13 j_15 ((am_I (am_sI (am_sI (am_sI (am_sI h_1 p_5 j_6 i1) p_7 j_8 i2) p_9 j_10 i3) p_11 j_12 i4) p_13 j_14) + 1)))) := by
  refine (am_sem_seg (am_sm am_MT (d + 1)) m_Rf_adds 47 0 [(0, .ref r0), (1, .int i1), (2, .int i2), (3, .int i3), (4, .int i4)] [] h).trans ?_
  rfl
set_option maxRecDepth 100000 in
theorem e_Rf_ofRoles (d : Nat) (h : am_H) (r0 : Nat) : f_Rf_ofRoles (d + 1) h r0 = (
    am_ck h r0 8 <| am_ci (f_Rf_roleHere d h r0) fun x_2 h_1 =>
    am_ck h_1 r0 8 <| am_ci (f_Rf_takesSign d h_1 r0 42) fun x_4 h_3 =>
    if x_4 = 0 then
      am_ck h_3 r0 8 <| am_ci (f_Rf_fine d h_3 r0) fun x_6 h_5 =>
      if x_6 = 0 then
        f_Rf_ofRoles_47 (d + 1) h_5 r0 x_2 (-1) x_4
      else
      am_ck h_5 r0 8 <| am_ci (f_Rf_isTwice d h_5 r0) fun x_8 h_7 =>
      if x_8 = 0 then
        am_gi h_7 r0 8 4 fun x_9 =>
        am_ck h_7 r0 8 <| am_ci (f_Rf_wrong d h_7 r0 1 x_9) fun x_11 h_10 =>
        f_Rf_ofRoles_47 (d + 1) h_10 r0 x_2 (-1) x_4
      else
      f_Rf_ofRoles_47 (d + 1) h_7 r0 x_2 (-1) x_4
    else
    am_ck h_3 r0 8 <| am_ci (f_Rf_roleHere d h_3 r0) fun x_13 h_12 =>
    am_ck h_12 r0 8 <| am_ci (f_Rf_fine d h_12 r0) fun x_15 h_14 =>
    if x_15 = 0 then
      f_Rf_ofRoles_47 (d + 1) h_14 r0 x_2 x_13 x_4
    else
    am_ck h_14 r0 8 <| am_ci (f_Rf_isTwice d h_14 r0) fun x_17 h_16 =>
    if x_17 = 0 then
      am_gi h_16 r0 8 4 fun x_18 =>
      am_ck h_16 r0 8 <| am_ci (f_Rf_wrong d h_16 r0 1 x_18) fun x_20 h_19 =>
      f_Rf_ofRoles_47 (d + 1) h_19 r0 x_2 x_13 x_4
    else
    f_Rf_ofRoles_47 (d + 1) h_16 r0 x_2 x_13 x_4) := by
  refine (am_sem_seg (am_sm am_MT (d + 1)) m_Rf_ofRoles 26 0 [(0, .ref r0)] [] h).trans ?_
  rfl
set_option maxRecDepth 100000 in
theorem e_Rf_ofRoles_47 (d : Nat) (h : am_H) (r0 : Nat) (i1 : Int32) (i2 : Int32) (i3 : Int32) : f_Rf_ofRoles_47 (d + 1) h r0 i1 i2 i3 = (
    am_gi h r0 8 4 fun x_1 =>
    am_ck h r0 8 <|
    am_ck (am_sI h r0 4 (x_1 + 2)) r0 8 <| am_ci (f_Rf_roleHere d (am_sI h r0 4 (x_1 + 2)) r0) fun x_3 h_2 =>
    am_ck h_2 r0 8 <| am_cv (f_Rf_ends d h_2 r0) fun h_4 =>
    if i3 = 0 then
      if i3 = 0 then
        if i3 = 0 then
          am_ck h_4 r0 8 <| am_cv (f_Rf_adds d h_4 r0 2 i1 x_3 (-1)) fun h_5 =>
          some (.inr none, h_5)
        else
        am_ck h_4 r0 8 <| am_cv (f_Rf_adds d h_4 r0 2 i1 x_3 x_3) fun h_6 =>
        some (.inr none, h_6)
      else
      if i3 = 0 then
        am_ck h_4 r0 8 <| am_cv (f_Rf_adds d h_4 r0 2 i1 i2 (-1)) fun h_7 =>
        some (.inr none, h_7)
      else
      am_ck h_4 r0 8 <| am_cv (f_Rf_adds d h_4 r0 2 i1 i2 x_3) fun h_8 =>
      some (.inr none, h_8)
    else
    if i3 = 0 then
      if i3 = 0 then
        am_ck h_4 r0 8 <| am_cv (f_Rf_adds d h_4 r0 3 i1 x_3 (-1)) fun h_9 =>
        some (.inr none, h_9)
      else
      am_ck h_4 r0 8 <| am_cv (f_Rf_adds d h_4 r0 3 i1 x_3 x_3) fun h_10 =>
      some (.inr none, h_10)
    else
    if i3 = 0 then
      am_ck h_4 r0 8 <| am_cv (f_Rf_adds d h_4 r0 3 i1 i2 (-1)) fun h_11 =>
      some (.inr none, h_11)
    else
    am_ck h_4 r0 8 <| am_cv (f_Rf_adds d h_4 r0 3 i1 i2 x_3) fun h_12 =>
    some (.inr none, h_12)) := by
  refine (am_sem_seg (am_sm am_MT (d + 1)) m_Rf_ofRoles 27 47 [(0, .ref r0), (1, .int i1), (2, .int i2), (3, .int i3)] [] h).trans ?_
  rfl
set_option maxRecDepth 100000 in
theorem e_Rf_ends (d : Nat) (h : am_H) (r0 : Nat) : f_Rf_ends (d + 1) h r0 = (
    am_ck h r0 8 <| am_ci (f_Rf_fine d h r0) fun x_2 h_1 =>
    if x_2 = 0 then
      some (.inr none, h_1)
    else
    am_ck h_1 r0 8 <| am_ci (f_Rf_takesSign d h_1 r0 59) fun x_4 h_3 =>
    if x_4 = 0 then
      am_gi h_3 r0 8 4 fun x_5 =>
      am_ck h_3 r0 8 <| am_ci (f_Rf_wrong d h_3 r0 1 x_5) fun x_7 h_6 =>
      some (.inr none, h_6)
    else
    some (.inr none, h_3)) := by
  refine (am_sem_seg (am_sm am_MT (d + 1)) m_Rf_ends 14 0 [(0, .ref r0)] [] h).trans ?_
  rfl
set_option maxRecDepth 100000 in
theorem e_Rf_ofConcepts (d : Nat) (h : am_H) (r0 : Nat) (i1 : Int32) : f_Rf_ofConcepts (d + 1) h r0 i1 = (
    am_ck h r0 8 <| am_ci (f_Rf_concept d h r0) fun x_2 h_1 =>
    am_ck h_1 r0 8 <| am_ci (f_Rf_fine d h_1 r0) fun x_4 h_3 =>
    if x_4 = 0 then
      some (.inr none, h_3)
    else
    am_ck h_3 r0 8 <| am_ci (f_Rf_here d h_3 r0) fun x_6 h_5 =>
    if x_6 = 61 then
      if (1 : Int32) = 0 then
        am_ck h_5 r0 8 <| am_ci (f_Rf_here d h_5 r0) fun x_8 h_7 =>
        if x_8 = 60 then
          am_ck h_7 r0 8 <| am_ci (f_Rf_isTwice d h_7 r0) fun x_10 h_9 =>
          if x_10 = 0 then
            f_Rf_ofConcepts_59 (d + 1) h_9 r0 i1 x_2 1
          else
          am_gi h_9 r0 8 4 fun x_11 =>
          am_ck h_9 r0 8 <| am_ci (f_Rf_wrong d h_9 r0 1 x_11) fun x_13 h_12 =>
          some (.inr none, h_12)
        else
        am_gi h_7 r0 8 4 fun x_14 =>
        am_ck h_7 r0 8 <| am_ci (f_Rf_wrong d h_7 r0 1 x_14) fun x_16 h_15 =>
        some (.inr none, h_15)
      else
      f_Rf_ofConcepts_59 (d + 1) h_5 r0 i1 x_2 1
    else
    if (0 : Int32) = 0 then
      am_ck h_5 r0 8 <| am_ci (f_Rf_here d h_5 r0) fun x_18 h_17 =>
      if x_18 = 60 then
        am_ck h_17 r0 8 <| am_ci (f_Rf_isTwice d h_17 r0) fun x_20 h_19 =>
        if x_20 = 0 then
          f_Rf_ofConcepts_59 (d + 1) h_19 r0 i1 x_2 0
        else
        am_gi h_19 r0 8 4 fun x_21 =>
        am_ck h_19 r0 8 <| am_ci (f_Rf_wrong d h_19 r0 1 x_21) fun x_23 h_22 =>
        some (.inr none, h_22)
      else
      am_gi h_17 r0 8 4 fun x_24 =>
      am_ck h_17 r0 8 <| am_ci (f_Rf_wrong d h_17 r0 1 x_24) fun x_26 h_25 =>
      some (.inr none, h_25)
    else
    f_Rf_ofConcepts_59 (d + 1) h_5 r0 i1 x_2 0) := by
  refine (am_sem_seg (am_sm am_MT (d + 1)) m_Rf_ofConcepts 29 0 [(0, .ref r0), (1, .int i1)] [] h).trans ?_
  rfl
set_option maxRecDepth 100000 in
theorem e_Rf_ofConcepts_59 (d : Nat) (h : am_H) (r0 : Nat) (i1 : Int32) (i2 : Int32) (i3 : Int32) : f_Rf_ofConcepts_59 (d + 1) h r0 i1 i2 i3 = (
    am_gi h r0 8 4 fun x_1 =>
    am_ck h r0 8 <|
    am_ck (am_sI h r0 4 (x_1 + 1)) r0 8 <| am_ci (f_Rf_concept d (am_sI h r0 4 (x_1 + 1)) r0) fun x_3 h_2 =>
    am_ck h_2 r0 8 <| am_cv (f_Rf_ends d h_2 r0) fun h_4 =>
    am_ck h_4 r0 8 <| am_ci (f_Rf_fine d h_4 r0) fun x_6 h_5 =>
    if x_6 = 0 then
      if i3 = 0 then
        am_ck h_5 r0 8 <| am_cv (f_Rf_adds d h_5 r0 0 i2 x_3 (-1)) fun h_7 =>
        some (.inr none, h_7)
      else
      am_ck h_5 r0 8 <| am_cv (f_Rf_adds d h_5 r0 1 i2 x_3 (-1)) fun h_8 =>
      some (.inr none, h_8)
    else
    am_gp h_5 r0 8 10 fun p_9 =>
    am_ar h_5 9 p_9 2 fun j_10 =>
    if (am_I h_5 p_9 j_10) ≤ 60 then
      if i3 = 0 then
        am_ck h_5 r0 8 <| am_cv (f_Rf_adds d h_5 r0 0 i2 x_3 (-1)) fun h_11 =>
        some (.inr none, h_11)
      else
      am_ck h_5 r0 8 <| am_cv (f_Rf_adds d h_5 r0 1 i2 x_3 (-1)) fun h_12 =>
      some (.inr none, h_12)
    else
    am_ck h_5 r0 8 <| am_ci (f_Rf_wrong d h_5 r0 5 i1) fun x_14 h_13 =>
    if i3 = 0 then
      am_ck h_13 r0 8 <| am_cv (f_Rf_adds d h_13 r0 0 i2 x_3 (-1)) fun h_15 =>
      some (.inr none, h_15)
    else
    am_ck h_13 r0 8 <| am_cv (f_Rf_adds d h_13 r0 1 i2 x_3 (-1)) fun h_16 =>
    some (.inr none, h_16)) := by
  refine (am_sem_seg (am_sm am_MT (d + 1)) m_Rf_ofConcepts 35 59 [(0, .ref r0), (1, .int i1), (2, .int i2), (3, .int i3)] [] h).trans ?_
  rfl
set_option maxRecDepth 100000 in
theorem e_Rf_opens (d : Nat) (h : am_H) (r0 : Nat) (i1 : Int32) : f_Rf_opens d h r0 i1 = (
    am_ck h r0 8 <|
    am_ck (am_sI h r0 2 0) r0 8 <|
    am_ck (am_sI (am_sI h r0 2 0) r0 3 i1) r0 8 <|
    am_ck (am_sI (am_sI (am_sI h r0 2 0) r0 3 i1) r0 4 0) r0 8 <|
    am_ck (am_sI (am_sI (am_sI (am_sI h r0 2 0) r0 3 i1) r0 4 0) r0 16 0) r0 8 <|
    am_ck (am_sI (am_sI (am_sI (am_sI (am_sI h r0 2 0) r0 3 i1) r0 4 0) r0 16 0) r0 6 0) r0 8 <|
    some (.inr none, (am_sI (am_sI (am_sI (am_sI (am_sI (am_sI h r0 2 0) r0 3 i1) r0 4 0) r0 16 0) r0 6 0) r0 7 (-1)))) := by
  refine (am_sem_seg (am_sm am_MT d) m_Rf_opens 19 0 [(0, .ref r0), (1, .int i1)] [] h).trans ?_
  rfl
set_option maxRecDepth 100000 in
theorem e_Rf_copies (d : Nat) (h : am_H) (r0 : Nat) (r1 : Nat) : f_Rf_copies d h r0 r1 = (
    f_Rf_copies_2 d h r0 r1 0) := by
  refine (am_sem_seg (am_sm am_MT d) m_Rf_copies 2 0 [(0, .ref r0), (1, .ref r1)] [] h).trans ?_
  rfl
set_option maxRecDepth 100000 in
theorem e_Rf_copies_2 (d : Nat) (h : am_H) (r0 : Nat) (r1 : Nat) (i2 : Int32) : f_Rf_copies_2 d h r0 r1 i2 = (
    if 1604 ≤ i2 then
      some (.inr none, h)
    else
    am_ar h 9 r0 i2 fun j_1 =>
    am_ar h 9 r1 i2 fun j_2 =>
    f_Rf_copies_2 d (am_sI h r1 j_2 (am_I h r0 j_1)) r0 r1 (i2 + 1)) := by
  refine (am_sem_seg (am_sm am_MT d) m_Rf_copies 11 2 [(0, .ref r0), (1, .ref r1), (2, .int i2)] [] h).trans ?_
  rfl
set_option maxRecDepth 100000 in
theorem e_Rf_text (d : Nat) (h : am_H) (r0 : Nat) (i1 : Int32) : f_Rf_text (d + 1) h r0 i1 = (
    am_ck h r0 8 <|
    am_gi (am_sI h r0 0 0) r0 8 2 fun x_1 =>
    am_ci (f_Rf_in d (am_sI h r0 0 0) i1 0 x_1) fun x_3 h_2 =>
    if x_3 = 0 then
      am_ck h_2 r0 8 <| am_ci (f_Rf_bad d h_2 r0 1 1 1) fun x_5 h_4 =>
      if x_5 = 0 then
        am_ck h_4 r0 8 <| am_cv (f_Rf_opens d h_4 r0 i1) fun h_6 =>
        am_01 0 <| am_ck h_6 r0 8 <|
        am_gp (am_sI h_6 r0 17 0) r0 8 10 fun p_7 =>
        am_cv (f_Rf_begins d (am_sI h_6 r0 17 0) p_7) fun h_8 =>
        f_Rf_text_50 (d + 1) h_8 r0
      else
      some (.inr (some (.int 0)), h_4)
    else
    am_ck h_2 r0 8 <| am_ci (f_Rf_bad d h_2 r0 0 1 1) fun x_10 h_9 =>
    if x_10 = 0 then
      am_ck h_9 r0 8 <| am_cv (f_Rf_opens d h_9 r0 i1) fun h_11 =>
      am_01 0 <| am_ck h_11 r0 8 <|
      am_gp (am_sI h_11 r0 17 0) r0 8 10 fun p_12 =>
      am_cv (f_Rf_begins d (am_sI h_11 r0 17 0) p_12) fun h_13 =>
      f_Rf_text_50 (d + 1) h_13 r0
    else
    some (.inr (some (.int 0)), h_9)) := by
  refine (am_sem_seg (am_sm am_MT (d + 1)) m_Rf_text 25 0 [(0, .ref r0), (1, .int i1)] [] h).trans ?_
  rfl
set_option maxRecDepth 100000 in
theorem e_Rf_text_50 (d : Nat) (h : am_H) (r0 : Nat) : f_Rf_text_50 (d + 1) h r0 = (
    am_ck h r0 8 <| am_ci (f_Rf_fine d h r0) fun x_2 h_1 =>
    if x_2 = 0 then
      f_Rf_text_180 (d + 1) h_1 r0
    else
    am_ck h_1 r0 8 <| am_ci (f_Rf_here d h_1 r0) fun x_4 h_3 =>
    if x_4 = (-1) then
      f_Rf_text_180 (d + 1) h_3 r0
    else
    am_gi h_3 r0 8 4 fun x_5 =>
    am_gi h_3 r0 8 4 fun x_6 =>
    am_ck h_3 r0 8 <| am_ci (f_Rf_byteAt d h_3 r0 x_6) fun x_8 h_7 =>
    am_ci (f_Rf_isSmall d h_7 x_8) fun x_10 h_9 =>
    if x_10 = 0 then
      am_gi h_9 r0 8 4 fun x_11 =>
      am_ck h_9 r0 8 <| am_ci (f_Rf_byteAt d h_9 r0 x_11) fun x_13 h_12 =>
      if x_13 = 40 then
        f_Rf_text_102 (d + 1) h_12 r0 x_5 1
      else
      f_Rf_text_102 (d + 1) h_12 r0 x_5 0
    else
    f_Rf_text_102 (d + 1) h_9 r0 x_5 1) := by
  refine (am_sem_seg (am_sm am_MT (d + 1)) m_Rf_text 24 50 [(0, .ref r0)] [] h).trans ?_
  rfl
set_option maxRecDepth 100000 in
theorem e_Rf_text_102 (d : Nat) (h : am_H) (r0 : Nat) (i2 : Int32) (s0 : Int32) : f_Rf_text_102 (d + 1) h r0 i2 s0 = (
    if s0 = 0 then
      am_ck h r0 8 <| am_ci (f_Rf_wrong d h r0 1 i2) fun x_2 h_1 =>
      f_Rf_text_50 (d + 1) h_1 r0
    else
    am_gp h r0 8 10 fun p_3 =>
    am_ar h 9 p_3 3 fun j_4 =>
    if (am_I h p_3 j_4) = 32 then
      am_ck h r0 8 <| am_ci (f_Rf_letters d h r0) fun x_6 h_5 =>
      if x_6 ≤ 6 then
        am_ck h_5 r0 8 <| am_ci (f_Rf_wrong d h_5 r0 3 i2) fun x_8 h_7 =>
        f_Rf_text_50 (d + 1) h_7 r0
      else
      am_ck h_5 r0 8 <| am_ci (f_Rf_isOwn d h_5 r0) fun x_10 h_9 =>
      if x_10 = 0 then
        am_ck h_9 r0 8 <| am_ci (f_Rf_wrong d h_9 r0 2 i2) fun x_12 h_11 =>
        f_Rf_text_50 (d + 1) h_11 r0
      else
      am_ck h_9 r0 8 <| am_ci (f_Rf_wrong d h_9 r0 3 i2) fun x_14 h_13 =>
      f_Rf_text_50 (d + 1) h_13 r0
    else
    am_ck h r0 8 <| am_ci (f_Rf_isOfRoles d h r0) fun x_16 h_15 =>
    if x_16 = 0 then
      am_ck h_15 r0 8 <| am_cv (f_Rf_ofConcepts d h_15 r0 i2) fun h_17 =>
      f_Rf_text_50 (d + 1) h_17 r0
    else
    am_ck h_15 r0 8 <| am_cv (f_Rf_ofRoles d h_15 r0) fun h_18 =>
    f_Rf_text_50 (d + 1) h_18 r0) := by
  refine (am_sem_seg (am_sm am_MT (d + 1)) m_Rf_text 24 102 [(0, .ref r0), (2, .int i2)] [.int s0] h).trans ?_
  rfl
set_option maxRecDepth 100000 in
theorem e_Rf_text_180 (d : Nat) (h : am_H) (r0 : Nat) : f_Rf_text_180 (d + 1) h r0 = (
    am_gi h r0 8 7 fun x_1 =>
    am_ck h r0 8 <|
    am_ck (am_sI h r0 5 x_1) r0 8 <| am_ci (f_Rf_fine d (am_sI h r0 5 x_1) r0) fun x_3 h_2 =>
    if x_3 = 0 then
      am_gi h_2 r0 8 6 fun x_4 =>
      some (.inr (some (.int (x_4 - 10))), h_2)
    else
    am_gp h_2 r0 8 10 fun p_5 =>
    am_gp h_2 r0 8 9 fun p_6 =>
    am_cv (f_Rf_copies d h_2 p_5 p_6) fun h_7 =>
    am_gp h_7 r0 8 9 fun p_8 =>
    am_ar h_7 9 p_8 3 fun j_9 =>
    am_ck h_7 r0 8 <|
    am_ck (am_sL h_7 r0 11 ((am_lshl 1 (am_I h_7 p_8 j_9)) - 1)) r0 8 <|
    am_01 0 <| am_ck (am_sI (am_sL h_7 r0 11 ((am_lshl 1 (am_I h_7 p_8 j_9)) - 1)) r0 13 0) r0 8 <|
    am_01 0 <| am_ck (am_sI (am_sI (am_sL h_7 r0 11 ((am_lshl 1 (am_I h_7 p_8 j_9)) - 1)) r0 13 0) r0 14 0) r0 8 <|
    am_gp (am_sI (am_sI (am_sI (am_sL h_7 r0 11 ((am_lshl 1 (am_I h_7 p_8 j_9)) - 1)) r0 13 0) r0 14 0) r0 15 0) r0 8 9 fun p_10 =>
    am_ar (am_sI (am_sI (am_sI (am_sL h_7 r0 11 ((am_lshl 1 (am_I h_7 p_8 j_9)) - 1)) r0 13 0) r0 14 0) r0 15 0) 9 p_10 3 fun j_11 =>
    some (.inr (some (.int (am_I (am_sI (am_sI (am_sI (am_sL h_7 r0 11 ((am_lshl 1 (am_I h_7 p_8 j_9)) - 1)) r0 13 0) r0 14 0) r0 15 0) p_10 j_11))), (am_sI (am_sI (am_sI (am_sL h_7 r0 11 ((am_lshl 1 (am_I h_7 p_8 j_9)) - 1)) r0 13 0) r0 14 0) r0 15 0))) := by
  refine (am_sem_seg (am_sm am_MT (d + 1)) m_Rf_text 36 180 [(0, .ref r0)] [] h).trans ?_
  rfl
set_option maxRecDepth 100000 in
theorem e_Rf_fault (d : Nat) (h : am_H) (r0 : Nat) : f_Rf_fault d h r0 = (
    am_ck h r0 8 <|
    am_gi (am_sI h r0 0 0) r0 8 5 fun x_1 =>
    some (.inr (some (.int x_1)), (am_sI h r0 0 0))) := by
  refine (am_sem_seg (am_sm am_MT d) m_Rf_fault 6 0 [(0, .ref r0)] [] h).trans ?_
  rfl
set_option maxRecDepth 100000 in
theorem e_Rf_laysUnder (d : Nat) (h : am_H) (r0 : Nat) (r1 : Nat) (l2 : Int64) : f_Rf_laysUnder d h r0 r1 l2 = (
    f_Rf_laysUnder_3 d h r0 r1 l2 0) := by
  refine (am_sem_seg (am_sm am_MT d) m_Rf_laysUnder 2 0 [(0, .ref r0), (1, .ref r1), (2, .long l2)] [] h).trans ?_
  rfl
set_option maxRecDepth 100000 in
theorem e_Rf_laysUnder_3 (d : Nat) (h : am_H) (r0 : Nat) (r1 : Nat) (l2 : Int64) (i4 : Int32) : f_Rf_laysUnder_3 d h r0 r1 l2 i4 = (
    if 8 ≤ i4 then
      f_Rf_laysUnder_30 d h r0 r1 l2 0
    else
    am_gp h r0 8 24 fun p_1 =>
    am_ar h 9 p_1 i4 fun j_2 =>
    f_Rf_laysUnder_3 d (am_sI h p_1 j_2 (am_ishl 1 i4)) r0 r1 l2 (i4 + 1)) := by
  refine (am_sem_seg (am_sm am_MT d) m_Rf_laysUnder 12 3 [(0, .ref r0), (1, .ref r1), (2, .long l2), (4, .int i4)] [] h).trans ?_
  rfl
set_option maxRecDepth 100000 in
theorem e_Rf_laysUnder_30 (d : Nat) (h : am_H) (r0 : Nat) (r1 : Nat) (l2 : Int64) (i4 : Int32) : f_Rf_laysUnder_30 d h r0 r1 l2 i4 = (
    if 8 ≤ i4 then
      some (.inr none, h)
    else
    f_Rf_laysUnder_40 d h r0 r1 l2 i4 0) := by
  refine (am_sem_seg (am_sm am_MT d) m_Rf_laysUnder 5 30 [(0, .ref r0), (1, .ref r1), (2, .long l2), (4, .int i4)] [] h).trans ?_
  rfl
set_option maxRecDepth 100000 in
theorem e_Rf_laysUnder_40 (d : Nat) (h : am_H) (r0 : Nat) (r1 : Nat) (l2 : Int64) (i4 : Int32) (i5 : Int32) : f_Rf_laysUnder_40 (d + 1) h r0 r1 l2 i4 i5 = (
    am_ar h 9 r1 3 fun j_1 =>
    if (am_I h r1 j_1) ≤ i5 then
      f_Rf_laysUnder_30 (d + 1) h r0 r1 l2 (i4 + 1)
    else
    am_ci (f_Rf_has d h l2 i5) fun x_3 h_2 =>
    if x_3 = 0 then
      f_Rf_laysUnder_40 (d + 1) h_2 r0 r1 l2 i4 (i5 + 1)
    else
    am_ci (f_Rf_axiomOf d h_2 r1 i5 0) fun x_5 h_4 =>
    if x_5 = 2 then
      f_Rf_laysUnder_71 (d + 1) h_4 r0 r1 l2 i4 i5 0
    else
    f_Rf_laysUnder_40 (d + 1) h_4 r0 r1 l2 i4 (i5 + 1)) := by
  refine (am_sem_seg (am_sm am_MT (d + 1)) m_Rf_laysUnder 17 40 [(0, .ref r0), (1, .ref r1), (2, .long l2), (4, .int i4), (5, .int i5)] [] h).trans ?_
  rfl
set_option maxRecDepth 100000 in
theorem e_Rf_laysUnder_71 (d : Nat) (h : am_H) (r0 : Nat) (r1 : Nat) (l2 : Int64) (i4 : Int32) (i5 : Int32) (i6 : Int32) : f_Rf_laysUnder_71 (d + 1) h r0 r1 l2 i4 i5 i6 = (
    if 8 ≤ i6 then
      f_Rf_laysUnder_40 (d + 1) h r0 r1 l2 i4 (i5 + 1)
    else
    am_gp h r0 8 24 fun p_1 =>
    am_ar h 9 p_1 i6 fun j_2 =>
    am_ci (f_Rf_axiomOf d h r1 i5 1) fun x_4 h_3 =>
    am_ci (f_Rf_has d h_3 (Int32.toInt64 (am_I h p_1 j_2)) x_4) fun x_6 h_5 =>
    if x_6 = 0 then
      f_Rf_laysUnder_71 (d + 1) h_5 r0 r1 l2 i4 i5 (i6 + 1)
    else
    am_gp h_5 r0 8 24 fun p_7 =>
    am_ar h_5 9 p_7 i6 fun j_8 =>
    am_ci (f_Rf_axiomOf d h_5 r1 i5 2) fun x_10 h_9 =>
    am_ar h_9 9 p_7 i6 fun j_11 =>
    f_Rf_laysUnder_71 (d + 1) (am_sI h_9 p_7 j_11 ((am_I h_5 p_7 j_8) ||| (am_ishl 1 x_10))) r0 r1 l2 i4 i5 (i6 + 1)) := by
  refine (am_sem_seg (am_sm am_MT (d + 1)) m_Rf_laysUnder 29 71 [(0, .ref r0), (1, .ref r1), (2, .long l2), (4, .int i4), (5, .int i5), (6, .int i6)] [] h).trans ?_
  rfl
set_option maxRecDepth 100000 in
theorem e_Rf_beginsRounds (d : Nat) (h : am_H) (r0 : Nat) (r1 : Nat) (l2 : Int64) : f_Rf_beginsRounds (d + 1) h r0 r1 l2 = (
    am_ck h r0 8 <| am_cv (f_Rf_laysUnder d h r0 r1 l2) fun h_1 =>
    f_Rf_beginsRounds_9 (d + 1) h_1 r0 r1 0) := by
  refine (am_sem_seg (am_sm am_MT (d + 1)) m_Rf_beginsRounds 6 0 [(0, .ref r0), (1, .ref r1), (2, .long l2)] [] h).trans ?_
  rfl
set_option maxRecDepth 100000 in
theorem e_Rf_beginsRounds_9 (d : Nat) (h : am_H) (r0 : Nat) (r1 : Nat) (i4 : Int32) : f_Rf_beginsRounds_9 d h r0 r1 i4 = (
    am_ar h 9 r1 2 fun j_1 =>
    if (am_I h r1 j_1) ≤ i4 then
      some (.inr none, h)
    else
    am_gp h r0 8 18 fun p_2 =>
    am_ar h 10 p_2 i4 fun j_3 =>
    f_Rf_beginsRounds_33 d (am_sL h p_2 j_3 ((am_lshl 1 i4) ||| 1)) r0 r1 i4 0) := by
  refine (am_sem_seg (am_sm am_MT d) m_Rf_beginsRounds 16 9 [(0, .ref r0), (1, .ref r1), (4, .int i4)] [] h).trans ?_
  rfl
set_option maxRecDepth 100000 in
theorem e_Rf_beginsRounds_33 (d : Nat) (h : am_H) (r0 : Nat) (r1 : Nat) (i4 : Int32) (i5 : Int32) : f_Rf_beginsRounds_33 d h r0 r1 i4 i5 = (
    if 8 ≤ i5 then
      f_Rf_beginsRounds_9 d h r0 r1 (i4 + 1)
    else
    am_gp h r0 8 20 fun p_1 =>
    am_ap h 14 p_1 i4 fun p_2 =>
    am_ar h 10 p_2 i5 fun j_3 =>
    f_Rf_beginsRounds_33 d (am_sL h p_2 j_3 0) r0 r1 i4 (i5 + 1)) := by
  refine (am_sem_seg (am_sm am_MT d) m_Rf_beginsRounds 12 33 [(0, .ref r0), (1, .ref r1), (4, .int i4), (5, .int i5)] [] h).trans ?_
  rfl
set_option maxRecDepth 100000 in
theorem e_Rf_byOwn (d : Nat) (h : am_H) (r0 : Nat) (r1 : Nat) (l2 : Int64) (i4 : Int32) : f_Rf_byOwn d h r0 r1 l2 i4 = (
    am_gp h r0 8 18 fun p_1 =>
    am_ar h 10 p_1 i4 fun j_2 =>
    f_Rf_byOwn_16 d h r1 l2 (am_L h p_1 j_2) (am_L h p_1 j_2) 0) := by
  refine (am_sem_seg (am_sm am_MT d) m_Rf_byOwn 9 0 [(0, .ref r0), (1, .ref r1), (2, .long l2), (4, .int i4)] [] h).trans ?_
  rfl
set_option maxRecDepth 100000 in
theorem e_Rf_byOwn_16 (d : Nat) (h : am_H) (r1 : Nat) (l2 : Int64) (l5 : Int64) (l7 : Int64) (i9 : Int32) : f_Rf_byOwn_16 (d + 1) h r1 l2 l5 l7 i9 = (
    am_ar h 9 r1 3 fun j_1 =>
    if (am_I h r1 j_1) ≤ i9 then
      f_Rf_byOwn_122 (d + 1) h r1 l5 l7 0
    else
    am_ci (f_Rf_axiomOf d h r1 i9 0) fun x_3 h_2 =>
    am_ci (f_Rf_axiomOf d h_2 r1 i9 1) fun x_5 h_4 =>
    am_ci (f_Rf_axiomOf d h_4 r1 i9 2) fun x_7 h_6 =>
    am_ci (f_Rf_has d h_6 l2 i9) fun x_9 h_8 =>
    if x_9 = 0 then
      f_Rf_byOwn_16 (d + 1) h_8 r1 l2 l5 l7 (i9 + 1)
    else
    if x_3 ≤ 1 then
      am_ci (f_Rf_has d h_8 l5 x_5) fun x_11 h_10 =>
      if x_11 = 0 then
        f_Rf_byOwn_88 (d + 1) h_10 r1 l2 l5 l7 i9 x_3 x_5 x_7
      else
      f_Rf_byOwn_88 (d + 1) h_10 r1 l2 l5 (l7 ||| (am_lshl 1 x_7)) i9 x_3 x_5 x_7
    else
    f_Rf_byOwn_16 (d + 1) h_8 r1 l2 l5 l7 (i9 + 1)) := by
  refine (am_sem_seg (am_sm am_MT (d + 1)) m_Rf_byOwn 37 16 [(1, .ref r1), (2, .long l2), (5, .long l5), (7, .long l7), (9, .int i9)] [] h).trans ?_
  rfl
set_option maxRecDepth 100000 in
theorem e_Rf_byOwn_88 (d : Nat) (h : am_H) (r1 : Nat) (l2 : Int64) (l5 : Int64) (l7 : Int64) (i9 : Int32) (i10 : Int32) (i11 : Int32) (i12 : Int32) : f_Rf_byOwn_88 (d + 1) h r1 l2 l5 l7 i9 i10 i11 i12 = (
    if i10 = 1 then
      am_ci (f_Rf_has d h l5 i12) fun x_2 h_1 =>
      if x_2 = 0 then
        f_Rf_byOwn_16 (d + 1) h_1 r1 l2 l5 l7 (i9 + 1)
      else
      f_Rf_byOwn_16 (d + 1) h_1 r1 l2 l5 (l7 ||| (am_lshl 1 i11)) (i9 + 1)
    else
    f_Rf_byOwn_16 (d + 1) h r1 l2 l5 l7 (i9 + 1)) := by
  refine (am_sem_seg (am_sm am_MT (d + 1)) m_Rf_byOwn 15 88 [(1, .ref r1), (2, .long l2), (5, .long l5), (7, .long l7), (9, .int i9), (10, .int i10), (11, .int i11), (12, .int i12)] [] h).trans ?_
  rfl
set_option maxRecDepth 100000 in
theorem e_Rf_byOwn_122 (d : Nat) (h : am_H) (r1 : Nat) (l5 : Int64) (l7 : Int64) (i9 : Int32) : f_Rf_byOwn_122 (d + 1) h r1 l5 l7 i9 = (
    am_ar h 9 r1 2 fun j_1 =>
    if (am_I h r1 j_1) ≤ i9 then
      some (.inr (some (.long l7)), h)
    else
    am_ci (f_Rf_kindOf d h r1 i9) fun x_3 h_2 =>
    if x_3 = 3 then
      am_ci (f_Rf_oneOf d h_2 r1 i9) fun x_5 h_4 =>
      am_ci (f_Rf_otherOf d h_4 r1 i9) fun x_7 h_6 =>
      am_ci (f_Rf_has d h_6 l5 i9) fun x_9 h_8 =>
      if x_9 = 0 then
        am_ci (f_Rf_has d h_8 l5 x_5) fun x_11 h_10 =>
        if x_11 = 0 then
          f_Rf_byOwn_122 (d + 1) h_10 r1 l5 l7 (i9 + 1)
        else
        am_ci (f_Rf_has d h_10 l5 x_7) fun x_13 h_12 =>
        if x_13 = 0 then
          f_Rf_byOwn_122 (d + 1) h_12 r1 l5 l7 (i9 + 1)
        else
        f_Rf_byOwn_122 (d + 1) h_12 r1 l5 (l7 ||| (am_lshl 1 i9)) (i9 + 1)
      else
      am_ci (f_Rf_has d h_8 l5 x_5) fun x_15 h_14 =>
      if x_15 = 0 then
        f_Rf_byOwn_122 (d + 1) h_14 r1 l5 (l7 ||| ((am_lshl 1 x_5) ||| (am_lshl 1 x_7))) (i9 + 1)
      else
      am_ci (f_Rf_has d h_14 l5 x_7) fun x_17 h_16 =>
      if x_17 = 0 then
        f_Rf_byOwn_122 (d + 1) h_16 r1 l5 (l7 ||| ((am_lshl 1 x_5) ||| (am_lshl 1 x_7))) (i9 + 1)
      else
      f_Rf_byOwn_122 (d + 1) h_16 r1 l5 ((l7 ||| ((am_lshl 1 x_5) ||| (am_lshl 1 x_7))) ||| (am_lshl 1 i9)) (i9 + 1)
    else
    f_Rf_byOwn_122 (d + 1) h_2 r1 l5 l7 (i9 + 1)) := by
  refine (am_sem_seg (am_sm am_MT (d + 1)) m_Rf_byOwn 48 122 [(1, .ref r1), (5, .long l5), (7, .long l7), (9, .int i9)] [] h).trans ?_
  rfl
set_option maxRecDepth 100000 in
theorem e_Rf_laysSome (d : Nat) (h : am_H) (r0 : Nat) (r1 : Nat) : f_Rf_laysSome d h r0 r1 = (
    f_Rf_laysSome_2 d h r0 r1 0) := by
  refine (am_sem_seg (am_sm am_MT d) m_Rf_laysSome 2 0 [(0, .ref r0), (1, .ref r1)] [] h).trans ?_
  rfl
set_option maxRecDepth 100000 in
theorem e_Rf_laysSome_2 (d : Nat) (h : am_H) (r0 : Nat) (r1 : Nat) (i2 : Int32) : f_Rf_laysSome_2 d h r0 r1 i2 = (
    if 8 ≤ i2 then
      f_Rf_laysSome_40 d h r0 r1 0
    else
    f_Rf_laysSome_10 d h r0 r1 i2 0) := by
  refine (am_sem_seg (am_sm am_MT d) m_Rf_laysSome 5 2 [(0, .ref r0), (1, .ref r1), (2, .int i2)] [] h).trans ?_
  rfl
set_option maxRecDepth 100000 in
theorem e_Rf_laysSome_10 (d : Nat) (h : am_H) (r0 : Nat) (r1 : Nat) (i2 : Int32) (i3 : Int32) : f_Rf_laysSome_10 d h r0 r1 i2 i3 = (
    am_ar h 9 r1 2 fun j_1 =>
    if (am_I h r1 j_1) ≤ i3 then
      f_Rf_laysSome_2 d h r0 r1 (i2 + 1)
    else
    am_gp h r0 8 23 fun p_2 =>
    am_ap h 14 p_2 i2 fun p_3 =>
    am_ar h 10 p_3 i3 fun j_4 =>
    f_Rf_laysSome_10 d (am_sL h p_3 j_4 0) r0 r1 i2 (i3 + 1)) := by
  refine (am_sem_seg (am_sm am_MT d) m_Rf_laysSome 14 10 [(0, .ref r0), (1, .ref r1), (2, .int i2), (3, .int i3)] [] h).trans ?_
  rfl
set_option maxRecDepth 100000 in
theorem e_Rf_laysSome_40 (d : Nat) (h : am_H) (r0 : Nat) (r1 : Nat) (i2 : Int32) : f_Rf_laysSome_40 (d + 1) h r0 r1 i2 = (
    am_ar h 9 r1 2 fun j_1 =>
    if (am_I h r1 j_1) ≤ i2 then
      some (.inr none, h)
    else
    am_ci (f_Rf_kindOf d h r1 i2) fun x_3 h_2 =>
    if x_3 = 4 then
      f_Rf_laysSome_58 (d + 1) h_2 r0 r1 i2 0
    else
    f_Rf_laysSome_40 (d + 1) h_2 r0 r1 (i2 + 1)) := by
  refine (am_sem_seg (am_sm am_MT (d + 1)) m_Rf_laysSome 12 40 [(0, .ref r0), (1, .ref r1), (2, .int i2)] [] h).trans ?_
  rfl
set_option maxRecDepth 100000 in
theorem e_Rf_laysSome_58 (d : Nat) (h : am_H) (r0 : Nat) (r1 : Nat) (i2 : Int32) (i3 : Int32) : f_Rf_laysSome_58 (d + 1) h r0 r1 i2 i3 = (
    am_ar h 9 r1 2 fun j_1 =>
    if (am_I h r1 j_1) ≤ i3 then
      f_Rf_laysSome_40 (d + 1) h r0 r1 (i2 + 1)
    else
    am_gp h r0 8 18 fun p_2 =>
    am_ar h 10 p_2 i3 fun j_3 =>
    am_ci (f_Rf_otherOf d h r1 i2) fun x_5 h_4 =>
    am_ci (f_Rf_has d h_4 (am_L h p_2 j_3) x_5) fun x_7 h_6 =>
    if x_7 = 0 then
      f_Rf_laysSome_58 (d + 1) h_6 r0 r1 i2 (i3 + 1)
    else
    am_gp h_6 r0 8 23 fun p_8 =>
    am_ci (f_Rf_oneOf d h_6 r1 i2) fun x_10 h_9 =>
    am_ap h_9 14 p_8 x_10 fun p_11 =>
    am_ar h_9 10 p_11 i3 fun j_12 =>
    am_ar h_9 10 p_11 i3 fun j_13 =>
    f_Rf_laysSome_58 (d + 1) (am_sL h_9 p_11 j_13 ((am_L h_9 p_11 j_12) ||| (am_lshl 1 i2))) r0 r1 i2 (i3 + 1)) := by
  refine (am_sem_seg (am_sm am_MT (d + 1)) m_Rf_laysSome 30 58 [(0, .ref r0), (1, .ref r1), (2, .int i2), (3, .int i3)] [] h).trans ?_
  rfl
set_option maxRecDepth 100000 in
theorem e_Rf_byLink (d : Nat) (h : am_H) (r0 : Nat) (i1 : Int32) (i2 : Int32) : f_Rf_byLink (d + 1) h r0 i1 i2 = (
    am_gp h r0 8 18 fun p_1 =>
    am_ar h 10 p_1 i2 fun j_2 =>
    am_ci (f_Rf_has d h (am_L h p_1 j_2) 1) fun x_4 h_3 =>
    if x_4 = 0 then
      f_Rf_byLink_24 (d + 1) h_3 r0 i1 i2 0 0
    else
    f_Rf_byLink_24 (d + 1) h_3 r0 i1 i2 2 0) := by
  refine (am_sem_seg (am_sm am_MT (d + 1)) m_Rf_byLink 12 0 [(0, .ref r0), (1, .int i1), (2, .int i2)] [] h).trans ?_
  rfl
set_option maxRecDepth 100000 in
theorem e_Rf_byLink_24 (d : Nat) (h : am_H) (r0 : Nat) (i1 : Int32) (i2 : Int32) (l3 : Int64) (i5 : Int32) : f_Rf_byLink_24 (d + 1) h r0 i1 i2 l3 i5 = (
    if 8 ≤ i5 then
      some (.inr (some (.long l3)), h)
    else
    am_gp h r0 8 24 fun p_1 =>
    am_ar h 9 p_1 i1 fun j_2 =>
    am_ci (f_Rf_has d h (Int32.toInt64 (am_I h p_1 j_2)) i5) fun x_4 h_3 =>
    if x_4 = 0 then
      f_Rf_byLink_24 (d + 1) h_3 r0 i1 i2 l3 (i5 + 1)
    else
    am_gp h_3 r0 8 23 fun p_5 =>
    am_ap h_3 14 p_5 i5 fun p_6 =>
    am_ar h_3 10 p_6 i2 fun j_7 =>
    f_Rf_byLink_24 (d + 1) h_3 r0 i1 i2 (l3 ||| (am_L h_3 p_6 j_7)) (i5 + 1)) := by
  refine (am_sem_seg (am_sm am_MT (d + 1)) m_Rf_byLink 22 24 [(0, .ref r0), (1, .int i1), (2, .int i2), (3, .long l3), (5, .int i5)] [] h).trans ?_
  rfl
set_option maxRecDepth 100000 in
theorem e_Rf_laysWider (d : Nat) (h : am_H) (r0 : Nat) (r1 : Nat) : f_Rf_laysWider d h r0 r1 = (
    f_Rf_laysWider_2 d h r0 r1 0) := by
  refine (am_sem_seg (am_sm am_MT d) m_Rf_laysWider 2 0 [(0, .ref r0), (1, .ref r1)] [] h).trans ?_
  rfl
set_option maxRecDepth 100000 in
theorem e_Rf_laysWider_2 (d : Nat) (h : am_H) (r0 : Nat) (r1 : Nat) (i2 : Int32) : f_Rf_laysWider_2 d h r0 r1 i2 = (
    am_ar h 9 r1 2 fun j_1 =>
    if (am_I h r1 j_1) ≤ i2 then
      some (.inr none, h)
    else
    f_Rf_laysWider_11 d h r0 r1 i2 0) := by
  refine (am_sem_seg (am_sm am_MT d) m_Rf_laysWider 7 2 [(0, .ref r0), (1, .ref r1), (2, .int i2)] [] h).trans ?_
  rfl
set_option maxRecDepth 100000 in
theorem e_Rf_laysWider_11 (d : Nat) (h : am_H) (r0 : Nat) (r1 : Nat) (i2 : Int32) (i3 : Int32) : f_Rf_laysWider_11 d h r0 r1 i2 i3 = (
    if 8 ≤ i3 then
      f_Rf_laysWider_2 d h r0 r1 (i2 + 1)
    else
    am_gp h r0 8 22 fun p_1 =>
    am_ap h 14 p_1 i2 fun p_2 =>
    am_ar h 10 p_2 i3 fun j_3 =>
    f_Rf_laysWider_29 d (am_sL h p_2 j_3 0) r0 r1 i2 i3 0) := by
  refine (am_sem_seg (am_sm am_MT d) m_Rf_laysWider 12 11 [(0, .ref r0), (1, .ref r1), (2, .int i2), (3, .int i3)] [] h).trans ?_
  rfl
set_option maxRecDepth 100000 in
theorem e_Rf_laysWider_29 (d : Nat) (h : am_H) (r0 : Nat) (r1 : Nat) (i2 : Int32) (i3 : Int32) (i4 : Int32) : f_Rf_laysWider_29 (d + 1) h r0 r1 i2 i3 i4 = (
    if 8 ≤ i4 then
      f_Rf_laysWider_11 (d + 1) h r0 r1 i2 (i3 + 1)
    else
    am_gp h r0 8 24 fun p_1 =>
    am_ar h 9 p_1 i4 fun j_2 =>
    am_ci (f_Rf_has d h (Int32.toInt64 (am_I h p_1 j_2)) i3) fun x_4 h_3 =>
    if x_4 = 0 then
      f_Rf_laysWider_29 (d + 1) h_3 r0 r1 i2 i3 (i4 + 1)
    else
    am_gp h_3 r0 8 22 fun p_5 =>
    am_ap h_3 14 p_5 i2 fun p_6 =>
    am_ar h_3 10 p_6 i3 fun j_7 =>
    am_gp h_3 r0 8 20 fun p_8 =>
    am_ap h_3 14 p_8 i2 fun p_9 =>
    am_ar h_3 10 p_9 i4 fun j_10 =>
    am_ar h_3 10 p_6 i3 fun j_11 =>
    f_Rf_laysWider_29 (d + 1) (am_sL h_3 p_6 j_11 ((am_L h_3 p_6 j_7) ||| (am_L h_3 p_9 j_10))) r0 r1 i2 i3 (i4 + 1)) := by
  refine (am_sem_seg (am_sm am_MT (d + 1)) m_Rf_laysWider 28 29 [(0, .ref r0), (1, .ref r1), (2, .int i2), (3, .int i3), (4, .int i4)] [] h).trans ?_
  rfl
set_option maxRecDepth 100000 in
theorem e_Rf_goesRound (d : Nat) (h : am_H) (r0 : Nat) (r1 : Nat) (l2 : Int64) : f_Rf_goesRound (d + 1) h r0 r1 l2 = (
    am_ar h 9 r1 2 fun j_1 =>
    am_ck h r0 8 <| am_cv (f_Rf_laysSome d h r0 r1) fun h_2 =>
    am_ck h_2 r0 8 <| am_cv (f_Rf_laysWider d h_2 r0 r1) fun h_3 =>
    f_Rf_goesRound_18 (d + 1) h_3 r0 r1 l2 (am_I h r1 j_1) 0) := by
  refine (am_sem_seg (am_sm am_MT (d + 1)) m_Rf_goesRound 12 0 [(0, .ref r0), (1, .ref r1), (2, .long l2)] [] h).trans ?_
  rfl
set_option maxRecDepth 100000 in
theorem e_Rf_goesRound_18 (d : Nat) (h : am_H) (r0 : Nat) (r1 : Nat) (l2 : Int64) (i4 : Int32) (i5 : Int32) : f_Rf_goesRound_18 (d + 1) h r0 r1 l2 i4 i5 = (
    if i4 ≤ i5 then
      f_Rf_goesRound_318 (d + 1) h r0 i4 0 0
    else
    am_gp h r0 8 19 fun p_1 =>
    am_ck h r0 8 <| am_cl (f_Rf_byOwn d h r0 r1 l2 i5) fun y_3 h_2 =>
    am_ar h_2 10 p_1 i5 fun j_4 =>
    f_Rf_goesRound_43 (d + 1) (am_sL h_2 p_1 j_4 y_3) r0 r1 l2 i4 i5 0) := by
  refine (am_sem_seg (am_sm am_MT (d + 1)) m_Rf_goesRound 14 18 [(0, .ref r0), (1, .ref r1), (2, .long l2), (4, .int i4), (5, .int i5)] [] h).trans ?_
  rfl
set_option maxRecDepth 100000 in
theorem e_Rf_goesRound_43 (d : Nat) (h : am_H) (r0 : Nat) (r1 : Nat) (l2 : Int64) (i4 : Int32) (i5 : Int32) (i6 : Int32) : f_Rf_goesRound_43 d h r0 r1 l2 i4 i5 i6 = (
    if 8 ≤ i6 then
      f_Rf_goesRound_131 d h r0 r1 l2 i4 i5 0
    else
    am_gp h r0 8 21 fun p_1 =>
    am_ap h 14 p_1 i5 fun p_2 =>
    am_gp h r0 8 20 fun p_3 =>
    am_ap h 14 p_3 i5 fun p_4 =>
    am_ar h 10 p_4 i6 fun j_5 =>
    am_ar h 10 p_2 i6 fun j_6 =>
    f_Rf_goesRound_73 d (am_sL h p_2 j_6 (am_L h p_4 j_5)) r0 r1 l2 i4 i5 i6 0) := by
  refine (am_sem_seg (am_sm am_MT d) m_Rf_goesRound 17 43 [(0, .ref r0), (1, .ref r1), (2, .long l2), (4, .int i4), (5, .int i5), (6, .int i6)] [] h).trans ?_
  rfl
set_option maxRecDepth 100000 in
theorem e_Rf_goesRound_73 (d : Nat) (h : am_H) (r0 : Nat) (r1 : Nat) (l2 : Int64) (i4 : Int32) (i5 : Int32) (i6 : Int32) (i7 : Int32) : f_Rf_goesRound_73 (d + 1) h r0 r1 l2 i4 i5 i6 i7 = (
    if i4 ≤ i7 then
      f_Rf_goesRound_43 (d + 1) h r0 r1 l2 i4 i5 (i6 + 1)
    else
    am_gp h r0 8 20 fun p_1 =>
    am_ap h 14 p_1 i5 fun p_2 =>
    am_ar h 10 p_2 i6 fun j_3 =>
    am_ci (f_Rf_has d h (am_L h p_2 j_3) i7) fun x_5 h_4 =>
    if x_5 = 0 then
      f_Rf_goesRound_73 (d + 1) h_4 r0 r1 l2 i4 i5 i6 (i7 + 1)
    else
    am_gp h_4 r0 8 19 fun p_6 =>
    am_ar h_4 10 p_6 i5 fun j_7 =>
    am_ck h_4 r0 8 <| am_cl (f_Rf_byLink d h_4 r0 i6 i7) fun y_9 h_8 =>
    am_ar h_8 10 p_6 i5 fun j_10 =>
    f_Rf_goesRound_73 (d + 1) (am_sL h_8 p_6 j_10 ((am_L h_4 p_6 j_7) ||| y_9)) r0 r1 l2 i4 i5 i6 (i7 + 1)) := by
  refine (am_sem_seg (am_sm am_MT (d + 1)) m_Rf_goesRound 25 73 [(0, .ref r0), (1, .ref r1), (2, .long l2), (4, .int i4), (5, .int i5), (6, .int i6), (7, .int i7)] [] h).trans ?_
  rfl
set_option maxRecDepth 100000 in
theorem e_Rf_goesRound_131 (d : Nat) (h : am_H) (r0 : Nat) (r1 : Nat) (l2 : Int64) (i4 : Int32) (i5 : Int32) (i6 : Int32) : f_Rf_goesRound_131 (d + 1) h r0 r1 l2 i4 i5 i6 = (
    if i4 ≤ i6 then
      f_Rf_goesRound_197 (d + 1) h r0 r1 l2 i4 i5 0
    else
    am_ci (f_Rf_kindOf d h r1 i6) fun x_2 h_1 =>
    if x_2 = 4 then
      am_gp h_1 r0 8 18 fun p_3 =>
      am_ar h_1 10 p_3 i5 fun j_4 =>
      am_ci (f_Rf_has d h_1 (am_L h_1 p_3 j_4) i6) fun x_6 h_5 =>
      if x_6 = 0 then
        f_Rf_goesRound_131 (d + 1) h_5 r0 r1 l2 i4 i5 (i6 + 1)
      else
      am_gp h_5 r0 8 21 fun p_7 =>
      am_ap h_5 14 p_7 i5 fun p_8 =>
      am_ci (f_Rf_oneOf d h_5 r1 i6) fun x_10 h_9 =>
      am_ar h_9 10 p_8 x_10 fun j_11 =>
      am_ci (f_Rf_otherOf d h_9 r1 i6) fun x_13 h_12 =>
      am_ar h_12 10 p_8 x_10 fun j_14 =>
      f_Rf_goesRound_131 (d + 1) (am_sL h_12 p_8 j_14 ((am_L h_9 p_8 j_11) ||| (am_lshl 1 x_13))) r0 r1 l2 i4 i5 (i6 + 1)
    else
    f_Rf_goesRound_131 (d + 1) h_1 r0 r1 l2 i4 i5 (i6 + 1)) := by
  refine (am_sem_seg (am_sm am_MT (d + 1)) m_Rf_goesRound 33 131 [(0, .ref r0), (1, .ref r1), (2, .long l2), (4, .int i4), (5, .int i5), (6, .int i6)] [] h).trans ?_
  rfl
set_option maxRecDepth 100000 in
theorem e_Rf_goesRound_197 (d : Nat) (h : am_H) (r0 : Nat) (r1 : Nat) (l2 : Int64) (i4 : Int32) (i5 : Int32) (i6 : Int32) : f_Rf_goesRound_197 (d + 1) h r0 r1 l2 i4 i5 i6 = (
    am_ar h 9 r1 3 fun j_1 =>
    if (am_I h r1 j_1) ≤ i6 then
      f_Rf_goesRound_18 (d + 1) h r0 r1 l2 i4 (i5 + 1)
    else
    am_ci (f_Rf_has d h l2 i6) fun x_3 h_2 =>
    if x_3 = 0 then
      f_Rf_goesRound_197 (d + 1) h_2 r0 r1 l2 i4 i5 (i6 + 1)
    else
    am_ci (f_Rf_axiomOf d h_2 r1 i6 0) fun x_5 h_4 =>
    if x_5 = 3 then
      f_Rf_goesRound_231 (d + 1) h_4 r0 r1 l2 i4 i5 i6 0
    else
    f_Rf_goesRound_197 (d + 1) h_4 r0 r1 l2 i4 i5 (i6 + 1)) := by
  refine (am_sem_seg (am_sm am_MT (d + 1)) m_Rf_goesRound 18 197 [(0, .ref r0), (1, .ref r1), (2, .long l2), (4, .int i4), (5, .int i5), (6, .int i6)] [] h).trans ?_
  rfl
set_option maxRecDepth 100000 in
theorem e_Rf_goesRound_231 (d : Nat) (h : am_H) (r0 : Nat) (r1 : Nat) (l2 : Int64) (i4 : Int32) (i5 : Int32) (i6 : Int32) (i7 : Int32) : f_Rf_goesRound_231 (d + 1) h r0 r1 l2 i4 i5 i6 i7 = (
    if i4 ≤ i7 then
      f_Rf_goesRound_197 (d + 1) h r0 r1 l2 i4 i5 (i6 + 1)
    else
    am_gp h r0 8 22 fun p_1 =>
    am_ap h 14 p_1 i5 fun p_2 =>
    am_ci (f_Rf_axiomOf d h r1 i6 1) fun x_4 h_3 =>
    am_ar h_3 10 p_2 x_4 fun j_5 =>
    am_ci (f_Rf_has d h_3 (am_L h_3 p_2 j_5) i7) fun x_7 h_6 =>
    if x_7 = 0 then
      f_Rf_goesRound_231 (d + 1) h_6 r0 r1 l2 i4 i5 i6 (i7 + 1)
    else
    am_gp h_6 r0 8 21 fun p_8 =>
    am_ap h_6 14 p_8 i5 fun p_9 =>
    am_ci (f_Rf_axiomOf d h_6 r1 i6 3) fun x_11 h_10 =>
    am_ar h_10 10 p_9 x_11 fun j_12 =>
    am_gp h_10 r0 8 22 fun p_13 =>
    am_ap h_10 14 p_13 i7 fun p_14 =>
    am_ci (f_Rf_axiomOf d h_10 r1 i6 2) fun x_16 h_15 =>
    am_ar h_15 10 p_14 x_16 fun j_17 =>
    am_ar h_15 10 p_9 x_11 fun j_18 =>
    f_Rf_goesRound_231 (d + 1) (am_sL h_15 p_9 j_18 ((am_L h_10 p_9 j_12) ||| (am_L h_15 p_14 j_17))) r0 r1 l2 i4 i5 i6 (i7 + 1)) := by
  refine (am_sem_seg (am_sm am_MT (d + 1)) m_Rf_goesRound 38 231 [(0, .ref r0), (1, .ref r1), (2, .long l2), (4, .int i4), (5, .int i5), (6, .int i6), (7, .int i7)] [] h).trans ?_
  rfl
set_option maxRecDepth 100000 in
theorem e_Rf_goesRound_318 (d : Nat) (h : am_H) (r0 : Nat) (i4 : Int32) (i5 : Int32) (i6 : Int32) : f_Rf_goesRound_318 d h r0 i4 i5 i6 = (
    if i4 ≤ i6 then
      am_01 i5 (some (.inr (some (.int i5)), h))
    else
    am_gp h r0 8 18 fun p_1 =>
    am_ar h 10 p_1 i6 fun j_2 =>
    am_gp h r0 8 19 fun p_3 =>
    am_ar h 10 p_3 i6 fun j_4 =>
    if (lg_cmp (am_L h p_1 j_2) (am_L h p_3 j_4)) = 0 then
      am_gp h r0 8 18 fun p_5 =>
      am_gp h r0 8 19 fun p_6 =>
      am_ar h 10 p_6 i6 fun j_7 =>
      am_ar h 10 p_5 i6 fun j_8 =>
      f_Rf_goesRound_370 d (am_sL h p_5 j_8 (am_L h p_6 j_7)) r0 i4 (i5 ||| 0) i6 0
    else
    am_gp h r0 8 18 fun p_9 =>
    am_gp h r0 8 19 fun p_10 =>
    am_ar h 10 p_10 i6 fun j_11 =>
    am_ar h 10 p_9 i6 fun j_12 =>
    f_Rf_goesRound_370 d (am_sL h p_9 j_12 (am_L h p_10 j_11)) r0 i4 (i5 ||| 1) i6 0) := by
  refine (am_sem_seg (am_sm am_MT d) m_Rf_goesRound 28 318 [(0, .ref r0), (4, .int i4), (5, .int i5), (6, .int i6)] [] h).trans ?_
  rfl
set_option maxRecDepth 100000 in
theorem e_Rf_goesRound_370 (d : Nat) (h : am_H) (r0 : Nat) (i4 : Int32) (i5 : Int32) (i6 : Int32) (i7 : Int32) : f_Rf_goesRound_370 d h r0 i4 i5 i6 i7 = (
    if 8 ≤ i7 then
      f_Rf_goesRound_318 d h r0 i4 i5 (i6 + 1)
    else
    am_gp h r0 8 20 fun p_1 =>
    am_ap h 14 p_1 i6 fun p_2 =>
    am_ar h 10 p_2 i7 fun j_3 =>
    am_gp h r0 8 21 fun p_4 =>
    am_ap h 14 p_4 i6 fun p_5 =>
    am_ar h 10 p_5 i7 fun j_6 =>
    if (lg_cmp (am_L h p_2 j_3) (am_L h p_5 j_6)) = 0 then
      am_gp h r0 8 20 fun p_7 =>
      am_ap h 14 p_7 i6 fun p_8 =>
      am_gp h r0 8 21 fun p_9 =>
      am_ap h 14 p_9 i6 fun p_10 =>
      am_ar h 10 p_10 i7 fun j_11 =>
      am_ar h 10 p_8 i7 fun j_12 =>
      f_Rf_goesRound_370 d (am_sL h p_8 j_12 (am_L h p_10 j_11)) r0 i4 (i5 ||| 0) i6 (i7 + 1)
    else
    am_gp h r0 8 20 fun p_13 =>
    am_ap h 14 p_13 i6 fun p_14 =>
    am_gp h r0 8 21 fun p_15 =>
    am_ap h 14 p_15 i6 fun p_16 =>
    am_ar h 10 p_16 i7 fun j_17 =>
    am_ar h 10 p_14 i7 fun j_18 =>
    f_Rf_goesRound_370 d (am_sL h p_14 j_18 (am_L h p_16 j_17)) r0 i4 (i5 ||| 1) i6 (i7 + 1)) := by
  refine (am_sem_seg (am_sm am_MT d) m_Rf_goesRound 36 370 [(0, .ref r0), (4, .int i4), (5, .int i5), (6, .int i6), (7, .int i7)] [] h).trans ?_
  rfl
set_option maxRecDepth 100000 in
theorem e_Rf_goesAll (d : Nat) (h : am_H) (r0 : Nat) (r1 : Nat) (l2 : Int64) : f_Rf_goesAll (d + 1) h r0 r1 l2 = (
    am_ck h r0 8 <| am_cv (f_Rf_beginsRounds d h r0 r1 l2) fun h_1 =>
    f_Rf_goesAll_9 (d + 1) h_1 r0 r1 l2 0) := by
  refine (am_sem_seg (am_sm am_MT (d + 1)) m_Rf_goesAll 6 0 [(0, .ref r0), (1, .ref r1), (2, .long l2)] [] h).trans ?_
  rfl
set_option maxRecDepth 100000 in
theorem e_Rf_goesAll_9 (d : Nat) (h : am_H) (r0 : Nat) (r1 : Nat) (l2 : Int64) (i4 : Int32) : f_Rf_goesAll_9 (d + 1) h r0 r1 l2 i4 = (
    am_ck h r0 8 <| am_ci (f_Rf_goesRound d h r0 r1 l2) fun x_2 h_1 =>
    if x_2 = 0 then
      am_01 0 <| am_ck h_1 r0 8 <|
      some (.inr (some (.int i4)), (am_sI h_1 r0 14 0))
    else
    f_Rf_goesAll_9 (d + 1) h_1 r0 r1 l2 (i4 + 1)) := by
  refine (am_sem_seg (am_sm am_MT (d + 1)) m_Rf_goesAll 10 9 [(0, .ref r0), (1, .ref r1), (2, .long l2), (4, .int i4)] [] h).trans ?_
  rfl
set_option maxRecDepth 100000 in
theorem e_Rf_notesWhen (d : Nat) (h : am_H) (r0 : Nat) (i1 : Int32) : f_Rf_notesWhen d h r0 i1 = (
    f_Rf_notesWhen_2 d h r0 i1 0) := by
  refine (am_sem_seg (am_sm am_MT d) m_Rf_notesWhen 2 0 [(0, .ref r0), (1, .int i1)] [] h).trans ?_
  rfl
set_option maxRecDepth 100000 in
theorem e_Rf_notesWhen_2 (d : Nat) (h : am_H) (r0 : Nat) (i1 : Int32) (i2 : Int32) : f_Rf_notesWhen_2 d h r0 i1 i2 = (
    am_gp h r0 8 9 fun p_1 =>
    am_ar h 9 p_1 2 fun j_2 =>
    if (am_I h p_1 j_2) ≤ i2 then
      some (.inr none, h)
    else
    f_Rf_notesWhen_14 d h r0 i1 i2 0) := by
  refine (am_sem_seg (am_sm am_MT d) m_Rf_notesWhen 8 2 [(0, .ref r0), (1, .int i1), (2, .int i2)] [] h).trans ?_
  rfl
set_option maxRecDepth 100000 in
theorem e_Rf_notesWhen_14 (d : Nat) (h : am_H) (r0 : Nat) (i1 : Int32) (i2 : Int32) (i3 : Int32) : f_Rf_notesWhen_14 (d + 1) h r0 i1 i2 i3 = (
    am_gp h r0 8 9 fun p_1 =>
    am_ar h 9 p_1 2 fun j_2 =>
    if (am_I h p_1 j_2) ≤ i3 then
      f_Rf_notesWhen_2 (d + 1) h r0 i1 (i2 + 1)
    else
    am_gp h r0 8 18 fun p_3 =>
    am_ar h 10 p_3 i2 fun j_4 =>
    am_ci (f_Rf_has d h (am_L h p_3 j_4) i3) fun x_6 h_5 =>
    if x_6 = 0 then
      f_Rf_notesWhen_14 (d + 1) h_5 r0 i1 i2 (i3 + 1)
    else
    am_gp h_5 r0 8 25 fun p_7 =>
    am_ap h_5 13 p_7 i2 fun p_8 =>
    am_ar h_5 9 p_8 i3 fun j_9 =>
    if (am_I h_5 p_8 j_9) = (-1) then
      am_gp h_5 r0 8 25 fun p_10 =>
      am_ap h_5 13 p_10 i2 fun p_11 =>
      am_ar h_5 9 p_11 i3 fun j_12 =>
      f_Rf_notesWhen_14 (d + 1) (am_sI h_5 p_11 j_12 i1) r0 i1 i2 (i3 + 1)
    else
    f_Rf_notesWhen_14 (d + 1) h_5 r0 i1 i2 (i3 + 1)) := by
  refine (am_sem_seg (am_sm am_MT (d + 1)) m_Rf_notesWhen 30 14 [(0, .ref r0), (1, .int i1), (2, .int i2), (3, .int i3)] [] h).trans ?_
  rfl
set_option maxRecDepth 100000 in
theorem e_Rf_classifies (d : Nat) (h : am_H) (r0 : Nat) : f_Rf_classifies d h r0 = (
    am_gi h r0 8 14 fun x_1 =>
    if x_1 = 0 then
      f_Rf_classifies_10 d h r0 0
    else
    some (.inr none, h)) := by
  refine (am_sem_seg (am_sm am_MT d) m_Rf_classifies 5 0 [(0, .ref r0)] [] h).trans ?_
  rfl
set_option maxRecDepth 100000 in
theorem e_Rf_classifies_10 (d : Nat) (h : am_H) (r0 : Nat) (i1 : Int32) : f_Rf_classifies_10 (d + 1) h r0 i1 = (
    if 60 ≤ i1 then
      am_gp h r0 8 9 fun p_1 =>
      am_gl h r0 8 11 fun y_2 =>
      am_ck h r0 8 <| am_cv (f_Rf_beginsRounds d h r0 p_1 y_2) fun h_3 =>
      am_ck h_3 r0 8 <| am_cv (f_Rf_notesWhen d h_3 r0 0) fun h_4 =>
      am_ck h_4 r0 8 <|
      f_Rf_classifies_67 (d + 1) (am_sI h_4 r0 26 0) r0
    else
    f_Rf_classifies_18 (d + 1) h r0 i1 0) := by
  refine (am_sem_seg (am_sm am_MT (d + 1)) m_Rf_classifies 15 10 [(0, .ref r0), (1, .int i1)] [] h).trans ?_
  rfl
set_option maxRecDepth 100000 in
theorem e_Rf_classifies_18 (d : Nat) (h : am_H) (r0 : Nat) (i1 : Int32) (i2 : Int32) : f_Rf_classifies_18 d h r0 i1 i2 = (
    if 60 ≤ i2 then
      f_Rf_classifies_10 d h r0 (i1 + 1)
    else
    am_gp h r0 8 25 fun p_1 =>
    am_ap h 13 p_1 i1 fun p_2 =>
    am_ar h 9 p_2 i2 fun j_3 =>
    f_Rf_classifies_18 d (am_sI h p_2 j_3 (-1)) r0 i1 (i2 + 1)) := by
  refine (am_sem_seg (am_sm am_MT d) m_Rf_classifies 12 18 [(0, .ref r0), (1, .int i1), (2, .int i2)] [] h).trans ?_
  rfl
set_option maxRecDepth 100000 in
theorem e_Rf_classifies_67 (d : Nat) (h : am_H) (r0 : Nat) : f_Rf_classifies_67 (d + 1) h r0 = (
    am_gp h r0 8 9 fun p_1 =>
    am_gl h r0 8 11 fun y_2 =>
    am_ck h r0 8 <| am_ci (f_Rf_goesRound d h r0 p_1 y_2) fun x_4 h_3 =>
    if x_4 = 0 then
      am_01 1 <| am_ck h_3 r0 8 <|
      some (.inr none, (am_sI h_3 r0 14 1))
    else
    am_gi h_3 r0 8 26 fun x_5 =>
    am_ck h_3 r0 8 <|
    am_gi (am_sI h_3 r0 26 (x_5 + 1)) r0 8 26 fun x_6 =>
    am_ck (am_sI h_3 r0 26 (x_5 + 1)) r0 8 <| am_cv (f_Rf_notesWhen d (am_sI h_3 r0 26 (x_5 + 1)) r0 x_6) fun h_7 =>
    f_Rf_classifies_67 (d + 1) h_7 r0) := by
  refine (am_sem_seg (am_sm am_MT (d + 1)) m_Rf_classifies 18 67 [(0, .ref r0)] [] h).trans ?_
  rfl
set_option maxRecDepth 100000 in
theorem e_Rf_isBelow (d : Nat) (h : am_H) (r0 : Nat) (i1 : Int32) (i2 : Int32) : f_Rf_isBelow (d + 1) h r0 i1 i2 = (
    am_gp h r0 8 18 fun p_1 =>
    am_ar h 10 p_1 i1 fun j_2 =>
    am_ci (f_Rf_has d h (am_L h p_1 j_2) i2) fun x_4 h_3 =>
    if x_4 = 0 then
      am_gp h_3 r0 8 18 fun p_5 =>
      am_ar h_3 10 p_5 i1 fun j_6 =>
      am_ci (f_Rf_has d h_3 (am_L h_3 p_5 j_6) 1) fun x_8 h_7 =>
      if x_8 = 0 then
        am_01 0 (some (.inr (some (.int 0)), h_7))
      else
      am_01 1 (some (.inr (some (.int 1)), h_7))
    else
    am_01 1 (some (.inr (some (.int 1)), h_3))) := by
  refine (am_sem_seg (am_sm am_MT (d + 1)) m_Rf_isBelow 17 0 [(0, .ref r0), (1, .int i1), (2, .int i2)] [] h).trans ?_
  rfl
set_option maxRecDepth 100000 in
theorem e_Rf_isVoid (d : Nat) (h : am_H) (r0 : Nat) (i1 : Int32) : f_Rf_isVoid (d + 1) h r0 i1 = (
    am_gp h r0 8 18 fun p_1 =>
    am_ar h 10 p_1 i1 fun j_2 =>
    am_ci (f_Rf_has d h (am_L h p_1 j_2) 1) fun x_4 h_3 =>
    am_01 x_4 (some (.inr (some (.int x_4)), h_3))) := by
  refine (am_sem_seg (am_sm am_MT (d + 1)) m_Rf_isVoid 7 0 [(0, .ref r0), (1, .int i1)] [] h).trans ?_
  rfl
set_option maxRecDepth 100000 in
theorem e_Rf_namePart (d : Nat) (h : am_H) (r0 : Nat) (i1 : Int32) : f_Rf_namePart d h r0 i1 = (
    f_Rf_namePart_2 d h r0 i1 0) := by
  refine (am_sem_seg (am_sm am_MT d) m_Rf_namePart 2 0 [(0, .ref r0), (1, .int i1)] [] h).trans ?_
  rfl
set_option maxRecDepth 100000 in
theorem e_Rf_namePart_2 (d : Nat) (h : am_H) (r0 : Nat) (i1 : Int32) (i2 : Int32) : f_Rf_namePart_2 (d + 1) h r0 i1 i2 = (
    am_gp h r0 8 9 fun p_1 =>
    am_ar h 9 p_1 2 fun j_2 =>
    if (am_I h p_1 j_2) ≤ i2 then
      some (.inr (some (.int (-1))), h)
    else
    am_gp h r0 8 9 fun p_3 =>
    am_ci (f_Rf_kindOf d h p_3 i2) fun x_5 h_4 =>
    if x_5 = 0 then
      am_gp h_4 r0 8 9 fun p_6 =>
      am_ci (f_Rf_oneOf d h_4 p_6 i2) fun x_8 h_7 =>
      if x_8 = i1 then
        some (.inr (some (.int i2)), h_7)
      else
      f_Rf_namePart_2 (d + 1) h_7 r0 i1 (i2 + 1)
    else
    f_Rf_namePart_2 (d + 1) h_4 r0 i1 (i2 + 1)) := by
  refine (am_sem_seg (am_sm am_MT (d + 1)) m_Rf_namePart 19 2 [(0, .ref r0), (1, .int i1), (2, .int i2)] [] h).trans ?_
  rfl
set_option maxRecDepth 100000 in
theorem e_Rf_laysNodes (d : Nat) (h : am_H) (r0 : Nat) : f_Rf_laysNodes (d + 1) h r0 = (
    am_ck h r0 8 <| am_cv (f_Rf_classifies d h r0) fun h_1 =>
    am_gi h_1 r0 8 15 fun x_2 =>
    if x_2 = 0 then
      am_01 1 <| am_ck h_1 r0 8 <|
      am_ck (am_sI h_1 r0 15 1) r0 8 <|
      f_Rf_laysNodes_24 (d + 1) (am_sI (am_sI h_1 r0 15 1) r0 34 0) r0 0
    else
    some (.inr none, h_1)) := by
  refine (am_sem_seg (am_sm am_MT (d + 1)) m_Rf_laysNodes 13 0 [(0, .ref r0)] [] h).trans ?_
  rfl
set_option maxRecDepth 100000 in
theorem e_Rf_laysNodes_24 (d : Nat) (h : am_H) (r0 : Nat) (i1 : Int32) : f_Rf_laysNodes_24 (d + 1) h r0 i1 = (
    am_gp h r0 8 9 fun p_1 =>
    am_ar h 9 p_1 0 fun j_2 =>
    if (am_I h p_1 j_2) ≤ i1 then
      f_Rf_laysNodes_189 (d + 1) h r0 0
    else
    am_ck h r0 8 <| am_ci (f_Rf_namePart d h r0 i1) fun x_4 h_3 =>
    am_gp h_3 r0 8 27 fun p_5 =>
    am_ck h_3 r0 8 <| am_ci (f_Rf_isVoid d h_3 r0 x_4) fun x_7 h_6 =>
    if x_7 = 0 then
      am_ck h_6 r0 8 <| am_ci (f_Rf_isBelow d h_6 r0 0 x_4) fun x_9 h_8 =>
      if x_9 = 0 then
        am_gi h_8 r0 8 34 fun x_10 =>
        am_ar h_8 9 p_5 i1 fun j_11 =>
        f_Rf_laysNodes_78 (d + 1) (am_sI h_8 p_5 j_11 x_10) r0 i1 x_4 0
      else
      am_ar h_8 9 p_5 i1 fun j_12 =>
      f_Rf_laysNodes_78 (d + 1) (am_sI h_8 p_5 j_12 (-2)) r0 i1 x_4 0
    else
    am_ar h_6 9 p_5 i1 fun j_13 =>
    f_Rf_laysNodes_78 (d + 1) (am_sI h_6 p_5 j_13 (-1)) r0 i1 x_4 0) := by
  refine (am_sem_seg (am_sm am_MT (d + 1)) m_Rf_laysNodes 27 24 [(0, .ref r0), (1, .int i1)] [] h).trans ?_
  rfl
set_option maxRecDepth 100000 in
theorem e_Rf_laysNodes_78 (d : Nat) (h : am_H) (r0 : Nat) (i1 : Int32) (i2 : Int32) (i3 : Int32) : f_Rf_laysNodes_78 (d + 1) h r0 i1 i2 i3 = (
    if i1 ≤ i3 then
      f_Rf_laysNodes_145 (d + 1) h r0 i1
    else
    am_gp h r0 8 27 fun p_1 =>
    am_ar h 9 p_1 i1 fun j_2 =>
    if (am_I h p_1 j_2) < 0 then
      f_Rf_laysNodes_145 (d + 1) h r0 i1
    else
    am_gp h r0 8 27 fun p_3 =>
    am_ar h 9 p_3 i3 fun j_4 =>
    if (am_I h p_3 j_4) < 0 then
      f_Rf_laysNodes_78 (d + 1) h r0 i1 i2 (i3 + 1)
    else
    am_ck h r0 8 <| am_ci (f_Rf_namePart d h r0 i3) fun x_6 h_5 =>
    am_ck h_5 r0 8 <| am_ci (f_Rf_isBelow d h_5 r0 i2 x_6) fun x_8 h_7 =>
    if x_8 = 0 then
      f_Rf_laysNodes_78 (d + 1) h_7 r0 i1 i2 (i3 + 1)
    else
    am_ck h_7 r0 8 <| am_ci (f_Rf_namePart d h_7 r0 i3) fun x_10 h_9 =>
    am_ck h_9 r0 8 <| am_ci (f_Rf_isBelow d h_9 r0 x_10 i2) fun x_12 h_11 =>
    if x_12 = 0 then
      f_Rf_laysNodes_78 (d + 1) h_11 r0 i1 i2 (i3 + 1)
    else
    am_gp h_11 r0 8 27 fun p_13 =>
    am_gp h_11 r0 8 27 fun p_14 =>
    am_ar h_11 9 p_14 i3 fun j_15 =>
    am_ar h_11 9 p_13 i1 fun j_16 =>
    f_Rf_laysNodes_78 (d + 1) (am_sI h_11 p_13 j_16 (am_I h_11 p_14 j_15)) r0 i1 i2 (i3 + 1)) := by
  refine (am_sem_seg (am_sm am_MT (d + 1)) m_Rf_laysNodes 37 78 [(0, .ref r0), (1, .int i1), (2, .int i2), (3, .int i3)] [] h).trans ?_
  rfl
set_option maxRecDepth 100000 in
theorem e_Rf_laysNodes_145 (d : Nat) (h : am_H) (r0 : Nat) (i1 : Int32) : f_Rf_laysNodes_145 d h r0 i1 = (
    am_gp h r0 8 27 fun p_1 =>
    am_ar h 9 p_1 i1 fun j_2 =>
    am_gi h r0 8 34 fun x_3 =>
    if (am_I h p_1 j_2) = x_3 then
      am_gp h r0 8 28 fun p_4 =>
      am_gi h r0 8 34 fun x_5 =>
      am_ar h 9 p_4 x_5 fun j_6 =>
      am_gi (am_sI h p_4 j_6 i1) r0 8 34 fun x_7 =>
      am_ck (am_sI h p_4 j_6 i1) r0 8 <|
      f_Rf_laysNodes_24 d (am_sI (am_sI h p_4 j_6 i1) r0 34 (x_7 + 1)) r0 (i1 + 1)
    else
    f_Rf_laysNodes_24 d h r0 (i1 + 1)) := by
  refine (am_sem_seg (am_sm am_MT d) m_Rf_laysNodes 21 145 [(0, .ref r0), (1, .int i1)] [] h).trans ?_
  rfl
set_option maxRecDepth 100000 in
theorem e_Rf_laysNodes_189 (d : Nat) (h : am_H) (r0 : Nat) (i1 : Int32) : f_Rf_laysNodes_189 d h r0 i1 = (
    am_gi h r0 8 34 fun x_1 =>
    if x_1 ≤ i1 then
      f_Rf_laysNodes_233 d h r0 0
    else
    am_gp h r0 8 29 fun p_2 =>
    am_ar h 9 p_2 i1 fun j_3 =>
    am_gp (am_sI h p_2 j_3 0) r0 8 30 fun p_4 =>
    am_ar (am_sI h p_2 j_3 0) 9 p_4 i1 fun j_5 =>
    am_gp (am_sI (am_sI h p_2 j_3 0) p_4 j_5 0) r0 8 31 fun p_6 =>
    am_ar (am_sI (am_sI h p_2 j_3 0) p_4 j_5 0) 9 p_6 i1 fun j_7 =>
    am_gp (am_sI (am_sI (am_sI h p_2 j_3 0) p_4 j_5 0) p_6 j_7 0) r0 8 32 fun p_8 =>
    am_ar (am_sI (am_sI (am_sI h p_2 j_3 0) p_4 j_5 0) p_6 j_7 0) 9 p_8 i1 fun j_9 =>
    f_Rf_laysNodes_189 d (am_sI (am_sI (am_sI (am_sI h p_2 j_3 0) p_4 j_5 0) p_6 j_7 0) p_8 j_9 0) r0 (i1 + 1)) := by
  refine (am_sem_seg (am_sm am_MT d) m_Rf_laysNodes 26 189 [(0, .ref r0), (1, .int i1)] [] h).trans ?_
  rfl
set_option maxRecDepth 100000 in
theorem e_Rf_laysNodes_233 (d : Nat) (h : am_H) (r0 : Nat) (i1 : Int32) : f_Rf_laysNodes_233 d h r0 i1 = (
    am_gi h r0 8 34 fun x_1 =>
    if x_1 ≤ i1 then
      f_Rf_laysNodes_324 d h r0 0
    else
    f_Rf_laysNodes_243 d h r0 i1 0) := by
  refine (am_sem_seg (am_sm am_MT d) m_Rf_laysNodes 6 233 [(0, .ref r0), (1, .int i1)] [] h).trans ?_
  rfl
set_option maxRecDepth 100000 in
theorem e_Rf_laysNodes_243 (d : Nat) (h : am_H) (r0 : Nat) (i1 : Int32) (i2 : Int32) : f_Rf_laysNodes_243 (d + 1) h r0 i1 i2 = (
    am_gi h r0 8 34 fun x_1 =>
    if x_1 ≤ i2 then
      f_Rf_laysNodes_233 (d + 1) h r0 (i1 + 1)
    else
    if i1 = i2 then
      f_Rf_laysNodes_243 (d + 1) h r0 i1 (i2 + 1)
    else
    am_gp h r0 8 28 fun p_2 =>
    am_ar h 9 p_2 i1 fun j_3 =>
    am_ck h r0 8 <| am_ci (f_Rf_namePart d h r0 (am_I h p_2 j_3)) fun x_5 h_4 =>
    am_gp h_4 r0 8 28 fun p_6 =>
    am_ar h_4 9 p_6 i2 fun j_7 =>
    am_ck h_4 r0 8 <| am_ci (f_Rf_namePart d h_4 r0 (am_I h_4 p_6 j_7)) fun x_9 h_8 =>
    am_ck h_8 r0 8 <| am_ci (f_Rf_isBelow d h_8 r0 x_5 x_9) fun x_11 h_10 =>
    if x_11 = 0 then
      f_Rf_laysNodes_243 (d + 1) h_10 r0 i1 (i2 + 1)
    else
    am_gp h_10 r0 8 29 fun p_12 =>
    am_ar h_10 9 p_12 i1 fun j_13 =>
    am_ar h_10 9 p_12 i1 fun j_14 =>
    am_gp (am_sI h_10 p_12 j_14 ((am_I h_10 p_12 j_13) ||| (am_ishl 1 i2))) r0 8 30 fun p_15 =>
    am_ar (am_sI h_10 p_12 j_14 ((am_I h_10 p_12 j_13) ||| (am_ishl 1 i2))) 9 p_15 i2 fun j_16 =>
    am_ar (am_sI h_10 p_12 j_14 ((am_I h_10 p_12 j_13) ||| (am_ishl 1 i2))) 9 p_15 i2 fun j_17 =>
    f_Rf_laysNodes_243 (d + 1) (am_sI (am_sI h_10 p_12 j_14 ((am_I h_10 p_12 j_13) ||| (am_ishl 1 i2))) p_15 j_17 ((am_I (am_sI h_10 p_12 j_14 ((am_I h_10 p_12 j_13) ||| (am_ishl 1 i2))) p_15 j_16) ||| (am_ishl 1 i1))) r0 i1 (i2 + 1)) := by
  refine (am_sem_seg (am_sm am_MT (d + 1)) m_Rf_laysNodes 44 243 [(0, .ref r0), (1, .int i1), (2, .int i2)] [] h).trans ?_
  rfl
set_option maxRecDepth 100000 in
theorem e_Rf_laysNodes_324 (d : Nat) (h : am_H) (r0 : Nat) (i1 : Int32) : f_Rf_laysNodes_324 d h r0 i1 = (
    am_gi h r0 8 34 fun x_1 =>
    if x_1 ≤ i1 then
      f_Rf_laysNodes_413 d h r0 0
    else
    f_Rf_laysNodes_334 d h r0 i1 0) := by
  refine (am_sem_seg (am_sm am_MT d) m_Rf_laysNodes 6 324 [(0, .ref r0), (1, .int i1)] [] h).trans ?_
  rfl
set_option maxRecDepth 100000 in
theorem e_Rf_laysNodes_334 (d : Nat) (h : am_H) (r0 : Nat) (i1 : Int32) (i2 : Int32) : f_Rf_laysNodes_334 (d + 1) h r0 i1 i2 = (
    am_gi h r0 8 34 fun x_1 =>
    if x_1 ≤ i2 then
      f_Rf_laysNodes_324 (d + 1) h r0 (i1 + 1)
    else
    am_gp h r0 8 29 fun p_2 =>
    am_ar h 9 p_2 i1 fun j_3 =>
    am_ci (f_Rf_has d h (Int32.toInt64 (am_I h p_2 j_3)) i2) fun x_5 h_4 =>
    if x_5 = 0 then
      f_Rf_laysNodes_334 (d + 1) h_4 r0 i1 (i2 + 1)
    else
    am_gp h_4 r0 8 29 fun p_6 =>
    am_ar h_4 9 p_6 i1 fun j_7 =>
    am_gp h_4 r0 8 30 fun p_8 =>
    am_ar h_4 9 p_8 i2 fun j_9 =>
    if ((am_I h_4 p_6 j_7) &&& (am_I h_4 p_8 j_9)) = 0 then
      am_gp h_4 r0 8 31 fun p_10 =>
      am_ar h_4 9 p_10 i1 fun j_11 =>
      am_ar h_4 9 p_10 i1 fun j_12 =>
      am_gp (am_sI h_4 p_10 j_12 ((am_I h_4 p_10 j_11) ||| (am_ishl 1 i2))) r0 8 32 fun p_13 =>
      am_ar (am_sI h_4 p_10 j_12 ((am_I h_4 p_10 j_11) ||| (am_ishl 1 i2))) 9 p_13 i2 fun j_14 =>
      am_ar (am_sI h_4 p_10 j_12 ((am_I h_4 p_10 j_11) ||| (am_ishl 1 i2))) 9 p_13 i2 fun j_15 =>
      f_Rf_laysNodes_334 (d + 1) (am_sI (am_sI h_4 p_10 j_12 ((am_I h_4 p_10 j_11) ||| (am_ishl 1 i2))) p_13 j_15 ((am_I (am_sI h_4 p_10 j_12 ((am_I h_4 p_10 j_11) ||| (am_ishl 1 i2))) p_13 j_14) ||| (am_ishl 1 i1))) r0 i1 (i2 + 1)
    else
    f_Rf_laysNodes_334 (d + 1) h_4 r0 i1 (i2 + 1)) := by
  refine (am_sem_seg (am_sm am_MT (d + 1)) m_Rf_laysNodes 44 334 [(0, .ref r0), (1, .int i1), (2, .int i2)] [] h).trans ?_
  rfl
set_option maxRecDepth 100000 in
theorem e_Rf_laysNodes_413 (d : Nat) (h : am_H) (r0 : Nat) (i1 : Int32) : f_Rf_laysNodes_413 d h r0 i1 = (
    am_gi h r0 8 34 fun x_1 =>
    if x_1 ≤ i1 then
      f_Rf_laysNodes_436 d h r0 0
    else
    am_gp h r0 8 33 fun p_2 =>
    am_ar h 9 p_2 i1 fun j_3 =>
    f_Rf_laysNodes_413 d (am_sI h p_2 j_3 1) r0 (i1 + 1)) := by
  refine (am_sem_seg (am_sm am_MT d) m_Rf_laysNodes 11 413 [(0, .ref r0), (1, .int i1)] [] h).trans ?_
  rfl
set_option maxRecDepth 100000 in
theorem e_Rf_laysNodes_436 (d : Nat) (h : am_H) (r0 : Nat) (i1 : Int32) : f_Rf_laysNodes_436 d h r0 i1 = (
    am_gi h r0 8 34 fun x_1 =>
    if x_1 ≤ i1 then
      some (.inr none, h)
    else
    f_Rf_laysNodes_446 d h r0 i1 0) := by
  refine (am_sem_seg (am_sm am_MT d) m_Rf_laysNodes 6 436 [(0, .ref r0), (1, .int i1)] [] h).trans ?_
  rfl
set_option maxRecDepth 100000 in
theorem e_Rf_laysNodes_446 (d : Nat) (h : am_H) (r0 : Nat) (i1 : Int32) (i2 : Int32) : f_Rf_laysNodes_446 d h r0 i1 i2 = (
    am_gi h r0 8 34 fun x_1 =>
    if x_1 ≤ i2 then
      f_Rf_laysNodes_436 d h r0 (i1 + 1)
    else
    f_Rf_laysNodes_456 d h r0 i1 i2 0) := by
  refine (am_sem_seg (am_sm am_MT d) m_Rf_laysNodes 6 446 [(0, .ref r0), (1, .int i1), (2, .int i2)] [] h).trans ?_
  rfl
set_option maxRecDepth 100000 in
theorem e_Rf_laysNodes_456 (d : Nat) (h : am_H) (r0 : Nat) (i1 : Int32) (i2 : Int32) (i3 : Int32) : f_Rf_laysNodes_456 (d + 1) h r0 i1 i2 i3 = (
    am_gi h r0 8 34 fun x_1 =>
    if x_1 ≤ i3 then
      f_Rf_laysNodes_446 (d + 1) h r0 i1 (i2 + 1)
    else
    am_gp h r0 8 31 fun p_2 =>
    am_ar h 9 p_2 i2 fun j_3 =>
    am_ci (f_Rf_has d h (Int32.toInt64 (am_I h p_2 j_3)) i3) fun x_5 h_4 =>
    if x_5 = 0 then
      f_Rf_laysNodes_456 (d + 1) h_4 r0 i1 i2 (i3 + 1)
    else
    am_gp h_4 r0 8 33 fun p_6 =>
    am_gp h_4 r0 8 33 fun p_7 =>
    am_ar h_4 9 p_7 i2 fun j_8 =>
    am_gp h_4 r0 8 33 fun p_9 =>
    am_ar h_4 9 p_9 i3 fun j_10 =>
    am_ci (f_Rf_more d h_4 (am_I h_4 p_7 j_8) ((am_I h_4 p_9 j_10) + 1)) fun x_12 h_11 =>
    am_ar h_11 9 p_6 i2 fun j_13 =>
    f_Rf_laysNodes_456 (d + 1) (am_sI h_11 p_6 j_13 x_12) r0 i1 i2 (i3 + 1)) := by
  refine (am_sem_seg (am_sm am_MT (d + 1)) m_Rf_laysNodes 29 456 [(0, .ref r0), (1, .int i1), (2, .int i2), (3, .int i3)] [] h).trans ?_
  rfl
set_option maxRecDepth 100000 in
theorem e_Rf_turn (d : Nat) (h : am_H) (r0 : Nat) (i1 : Int32) : f_Rf_turn (d + 1) h r0 i1 = (
    am_ck h r0 8 <|
    am_gp (am_sI h r0 0 0) r0 8 9 fun p_1 =>
    am_ar (am_sI h r0 0 0) 9 p_1 3 fun j_2 =>
    am_ci (f_Rf_in d (am_sI h r0 0 0) i1 0 ((am_I (am_sI h r0 0 0) p_1 j_2) - 1)) fun x_4 h_3 =>
    if x_4 = 0 then
      f_Rf_turn_27 (d + 1) h_3 r0 i1 r0 1
    else
    f_Rf_turn_27 (d + 1) h_3 r0 i1 r0 0) := by
  refine (am_sem_seg (am_sm am_MT (d + 1)) m_Rf_turn 16 0 [(0, .ref r0), (1, .int i1)] [] h).trans ?_
  rfl
set_option maxRecDepth 100000 in
theorem e_Rf_turn_27 (d : Nat) (h : am_H) (r0 : Nat) (i1 : Int32) (s0 : Nat) (s1 : Int32) : f_Rf_turn_27 (d + 1) h r0 i1 s0 s1 = (
    am_ck h s0 8 <| am_ci (f_Rf_bad d h s0 s1 1 0) fun x_2 h_1 =>
    if x_2 = 0 then
      am_gi h_1 r0 8 13 fun x_3 =>
      if x_3 = 20 then
        f_Rf_turn_48 (d + 1) h_1 r0 i1 1
      else
      am_gp h_1 r0 8 12 fun p_4 =>
      am_gi h_1 r0 8 13 fun x_5 =>
      am_ar h_1 9 p_4 x_5 fun j_6 =>
      am_gi (am_sI h_1 p_4 j_6 i1) r0 8 13 fun x_7 =>
      am_ck (am_sI h_1 p_4 j_6 i1) r0 8 <|
      am_gl (am_sI (am_sI h_1 p_4 j_6 i1) r0 13 (x_7 + 1)) r0 8 11 fun y_8 =>
      am_ck (am_sI (am_sI h_1 p_4 j_6 i1) r0 13 (x_7 + 1)) r0 8 <|
      am_ck (am_sL (am_sI (am_sI h_1 p_4 j_6 i1) r0 13 (x_7 + 1)) r0 11 (y_8 ^^^ (am_lshl 1 i1))) r0 8 <| am_cv (f_Rf_alters d (am_sL (am_sI (am_sI h_1 p_4 j_6 i1) r0 13 (x_7 + 1)) r0 11 (y_8 ^^^ (am_lshl 1 i1))) r0) fun h_9 =>
      am_gl h_9 r0 8 11 fun y_10 =>
      am_ci (f_Rf_has d h_9 y_10 i1) fun x_12 h_11 =>
      if x_12 = 0 then
        some (.inr (some (.int 0)), h_11)
      else
      some (.inr (some (.int 1)), h_11)
    else
    some (.inr (some (.int 0)), h_1)) := by
  refine (am_sem_seg (am_sm am_MT (d + 1)) m_Rf_turn 38 27 [(0, .ref r0), (1, .int i1)] [.int s1, .ref s0] h).trans ?_
  rfl
set_option maxRecDepth 100000 in
theorem e_Rf_turn_48 (d : Nat) (h : am_H) (r0 : Nat) (i1 : Int32) (i2 : Int32) : f_Rf_turn_48 (d + 1) h r0 i1 i2 = (
    if 20 ≤ i2 then
      am_gi h r0 8 13 fun x_1 =>
      am_ck h r0 8 <|
      am_gp (am_sI h r0 13 (x_1 - 1)) r0 8 12 fun p_2 =>
      am_gi (am_sI h r0 13 (x_1 - 1)) r0 8 13 fun x_3 =>
      am_ar (am_sI h r0 13 (x_1 - 1)) 9 p_2 x_3 fun j_4 =>
      am_gi (am_sI (am_sI h r0 13 (x_1 - 1)) p_2 j_4 i1) r0 8 13 fun x_5 =>
      am_ck (am_sI (am_sI h r0 13 (x_1 - 1)) p_2 j_4 i1) r0 8 <|
      am_gl (am_sI (am_sI (am_sI h r0 13 (x_1 - 1)) p_2 j_4 i1) r0 13 (x_5 + 1)) r0 8 11 fun y_6 =>
      am_ck (am_sI (am_sI (am_sI h r0 13 (x_1 - 1)) p_2 j_4 i1) r0 13 (x_5 + 1)) r0 8 <|
      am_ck (am_sL (am_sI (am_sI (am_sI h r0 13 (x_1 - 1)) p_2 j_4 i1) r0 13 (x_5 + 1)) r0 11 (y_6 ^^^ (am_lshl 1 i1))) r0 8 <| am_cv (f_Rf_alters d (am_sL (am_sI (am_sI (am_sI h r0 13 (x_1 - 1)) p_2 j_4 i1) r0 13 (x_5 + 1)) r0 11 (y_6 ^^^ (am_lshl 1 i1))) r0) fun h_7 =>
      am_gl h_7 r0 8 11 fun y_8 =>
      am_ci (f_Rf_has d h_7 y_8 i1) fun x_10 h_9 =>
      if x_10 = 0 then
        some (.inr (some (.int 0)), h_9)
      else
      some (.inr (some (.int 1)), h_9)
    else
    am_gp h r0 8 12 fun p_11 =>
    am_gp h r0 8 12 fun p_12 =>
    am_ar h 9 p_12 i2 fun j_13 =>
    am_ar h 9 p_11 (i2 - 1) fun j_14 =>
    f_Rf_turn_48 (d + 1) (am_sI h p_11 j_14 (am_I h p_12 j_13)) r0 i1 (i2 + 1)) := by
  refine (am_sem_seg (am_sm am_MT (d + 1)) m_Rf_turn 39 48 [(0, .ref r0), (1, .int i1), (2, .int i2)] [] h).trans ?_
  rfl
set_option maxRecDepth 100000 in
theorem e_Rf_alters (d : Nat) (h : am_H) (r0 : Nat) : f_Rf_alters d h r0 = (
    am_01 0 <| am_ck h r0 8 <|
    am_01 0 <| am_ck (am_sI h r0 14 0) r0 8 <|
    some (.inr none, (am_sI (am_sI h r0 14 0) r0 15 0))) := by
  refine (am_sem_seg (am_sm am_MT d) m_Rf_alters 7 0 [(0, .ref r0)] [] h).trans ?_
  rfl
set_option maxRecDepth 100000 in
theorem e_Rf_undo (d : Nat) (h : am_H) (r0 : Nat) : f_Rf_undo (d + 1) h r0 = (
    am_ck h r0 8 <|
    am_gi (am_sI h r0 0 0) r0 8 13 fun x_1 =>
    if x_1 = 0 then
      some (.inr (some (.int (-1))), (am_sI h r0 0 0))
    else
    am_gi (am_sI h r0 0 0) r0 8 13 fun x_2 =>
    am_ck (am_sI h r0 0 0) r0 8 <|
    am_gl (am_sI (am_sI h r0 0 0) r0 13 (x_2 - 1)) r0 8 11 fun y_3 =>
    am_gp (am_sI (am_sI h r0 0 0) r0 13 (x_2 - 1)) r0 8 12 fun p_4 =>
    am_gi (am_sI (am_sI h r0 0 0) r0 13 (x_2 - 1)) r0 8 13 fun x_5 =>
    am_ar (am_sI (am_sI h r0 0 0) r0 13 (x_2 - 1)) 9 p_4 x_5 fun j_6 =>
    am_ck (am_sI (am_sI h r0 0 0) r0 13 (x_2 - 1)) r0 8 <|
    am_ck (am_sL (am_sI (am_sI h r0 0 0) r0 13 (x_2 - 1)) r0 11 (y_3 ^^^ (am_lshl 1 (am_I (am_sI (am_sI h r0 0 0) r0 13 (x_2 - 1)) p_4 j_6)))) r0 8 <| am_cv (f_Rf_alters d (am_sL (am_sI (am_sI h r0 0 0) r0 13 (x_2 - 1)) r0 11 (y_3 ^^^ (am_lshl 1 (am_I (am_sI (am_sI h r0 0 0) r0 13 (x_2 - 1)) p_4 j_6)))) r0) fun h_7 =>
    am_gi h_7 r0 8 13 fun x_8 =>
    some (.inr (some (.int x_8)), h_7)) := by
  refine (am_sem_seg (am_sm am_MT (d + 1)) m_Rf_undo 29 0 [(0, .ref r0)] [] h).trans ?_
  rfl
set_option maxRecDepth 100000 in
theorem e_Rf_told (d : Nat) (h : am_H) (r0 : Nat) (i1 : Int32) : f_Rf_told (d + 1) h r0 i1 = (
    am_ck h r0 8 <|
    am_ci (f_Rf_in d (am_sI h r0 0 0) i1 0 11) fun x_2 h_1 =>
    if x_2 = 0 then
      f_Rf_told_21 (d + 1) h_1 r0 i1 r0 1
    else
    f_Rf_told_21 (d + 1) h_1 r0 i1 r0 0) := by
  refine (am_sem_seg (am_sm am_MT (d + 1)) m_Rf_told 11 0 [(0, .ref r0), (1, .int i1)] [] h).trans ?_
  rfl
set_option maxRecDepth 100000 in
theorem e_Rf_told_21 (d : Nat) (h : am_H) (r0 : Nat) (i1 : Int32) (s0 : Nat) (s1 : Int32) : f_Rf_told_21 (d + 1) h r0 i1 s0 s1 = (
    am_ck h s0 8 <| am_ci (f_Rf_bad d h s0 s1 1 1) fun x_2 h_1 =>
    if x_2 = 0 then
      am_ck h_1 r0 8 <| am_cv (f_Rf_classifies d h_1 r0) fun h_3 =>
      if i1 = 0 then
        am_gp h_3 r0 8 9 fun p_4 =>
        am_ar h_3 9 p_4 3 fun j_5 =>
        some (.inr (some (.int (am_I h_3 p_4 j_5))), h_3)
      else
      if i1 = 1 then
        am_gl h_3 r0 8 11 fun y_6 =>
        am_ci (f_Rf_bits d h_3 y_6) fun x_8 h_7 =>
        some (.inr (some (.int x_8)), h_7)
      else
      if i1 = 2 then
        am_gp h_3 r0 8 9 fun p_9 =>
        am_ar h_3 9 p_9 0 fun j_10 =>
        some (.inr (some (.int (am_I h_3 p_9 j_10))), h_3)
      else
      if i1 = 3 then
        am_gp h_3 r0 8 9 fun p_11 =>
        am_ar h_3 9 p_11 1 fun j_12 =>
        some (.inr (some (.int (am_I h_3 p_11 j_12))), h_3)
      else
      if i1 = 4 then
        am_gp h_3 r0 8 9 fun p_13 =>
        am_ar h_3 9 p_13 2 fun j_14 =>
        some (.inr (some (.int (am_I h_3 p_13 j_14))), h_3)
      else
      if i1 = 5 then
        am_gi h_3 r0 8 26 fun x_15 =>
        some (.inr (some (.int x_15)), h_3)
      else
      if i1 = 6 then
        f_Rf_told_139 (d + 1) h_3 r0 0 0
      else
      if i1 = 7 then
        am_ck h_3 r0 8 <| am_cv (f_Rf_laysNodes d h_3 r0) fun h_16 =>
        am_gi h_16 r0 8 34 fun x_17 =>
        some (.inr (some (.int x_17)), h_16)
      else
      if i1 = 8 then
        am_ck h_3 r0 8 <| am_ci (f_Rf_voids d h_3 r0) fun x_19 h_18 =>
        am_ci (f_Rf_bits d h_18 (Int32.toInt64 x_19)) fun x_21 h_20 =>
        some (.inr (some (.int x_21)), h_20)
      else
      if i1 = 9 then
        am_gi h_3 r0 8 2 fun x_22 =>
        some (.inr (some (.int x_22)), h_3)
      else
      if i1 = 10 then
        am_gi h_3 r0 8 13 fun x_23 =>
        some (.inr (some (.int x_23)), h_3)
      else
      f_Rf_told_218 (d + 1) h_3 r0 0 0
    else
    some (.inr (some (.int 0)), h_1)) := by
  refine (am_sem_seg (am_sm am_MT (d + 1)) m_Rf_told 15 21 [(0, .ref r0), (1, .int i1)] [.int s1, .ref s0] h).trans ?_
  rfl
set_option maxRecDepth 100000 in
theorem e_Rf_told_139 (d : Nat) (h : am_H) (r0 : Nat) (i2 : Int32) (i3 : Int32) : f_Rf_told_139 d h r0 i2 i3 = (
    am_gp h r0 8 9 fun p_1 =>
    am_ar h 9 p_1 2 fun j_2 =>
    if (am_I h p_1 j_2) ≤ i3 then
      some (.inr (some (.int i2)), h)
    else
    f_Rf_told_152 d h r0 i2 i3 0) := by
  refine (am_sem_seg (am_sm am_MT d) m_Rf_told 8 139 [(0, .ref r0), (2, .int i2), (3, .int i3)] [] h).trans ?_
  rfl
set_option maxRecDepth 100000 in
theorem e_Rf_told_152 (d : Nat) (h : am_H) (r0 : Nat) (i2 : Int32) (i3 : Int32) (i4 : Int32) : f_Rf_told_152 (d + 1) h r0 i2 i3 i4 = (
    if 8 ≤ i4 then
      f_Rf_told_139 (d + 1) h r0 i2 (i3 + 1)
    else
    am_gp h r0 8 20 fun p_1 =>
    am_ap h 14 p_1 i3 fun p_2 =>
    am_ar h 10 p_2 i4 fun j_3 =>
    am_ci (f_Rf_bits d h (am_L h p_2 j_3)) fun x_5 h_4 =>
    f_Rf_told_152 (d + 1) h_4 r0 (i2 + x_5) i3 (i4 + 1)) := by
  refine (am_sem_seg (am_sm am_MT (d + 1)) m_Rf_told 15 152 [(0, .ref r0), (2, .int i2), (3, .int i3), (4, .int i4)] [] h).trans ?_
  rfl
set_option maxRecDepth 100000 in
theorem e_Rf_told_218 (d : Nat) (h : am_H) (r0 : Nat) (i2 : Int32) (i3 : Int32) : f_Rf_told_218 (d + 1) h r0 i2 i3 = (
    am_gp h r0 8 9 fun p_1 =>
    am_ar h 9 p_1 2 fun j_2 =>
    if (am_I h p_1 j_2) ≤ i3 then
      some (.inr (some (.int i2)), h)
    else
    am_gp h r0 8 18 fun p_3 =>
    am_ar h 10 p_3 i3 fun j_4 =>
    am_ci (f_Rf_bits d h (am_L h p_3 j_4)) fun x_6 h_5 =>
    f_Rf_told_218 (d + 1) h_5 r0 (i2 + x_6) (i3 + 1)) := by
  refine (am_sem_seg (am_sm am_MT (d + 1)) m_Rf_told 16 218 [(0, .ref r0), (2, .int i2), (3, .int i3)] [] h).trans ?_
  rfl
set_option maxRecDepth 100000 in
theorem e_Rf_voids (d : Nat) (h : am_H) (r0 : Nat) : f_Rf_voids d h r0 = (
    f_Rf_voids_4 d h r0 0 0) := by
  refine (am_sem_seg (am_sm am_MT d) m_Rf_voids 4 0 [(0, .ref r0)] [] h).trans ?_
  rfl
set_option maxRecDepth 100000 in
theorem e_Rf_voids_4 (d : Nat) (h : am_H) (r0 : Nat) (i1 : Int32) (i2 : Int32) : f_Rf_voids_4 (d + 1) h r0 i1 i2 = (
    am_gp h r0 8 9 fun p_1 =>
    am_ar h 9 p_1 0 fun j_2 =>
    if (am_I h p_1 j_2) ≤ i2 then
      some (.inr (some (.int i1)), h)
    else
    am_ck h r0 8 <| am_ci (f_Rf_namePart d h r0 i2) fun x_4 h_3 =>
    am_ck h_3 r0 8 <| am_ci (f_Rf_isVoid d h_3 r0 x_4) fun x_6 h_5 =>
    if x_6 = 0 then
      f_Rf_voids_4 (d + 1) h_5 r0 (i1 ||| 0) (i2 + 1)
    else
    f_Rf_voids_4 (d + 1) h_5 r0 (i1 ||| (am_ishl 1 i2)) (i2 + 1)) := by
  refine (am_sem_seg (am_sm am_MT (d + 1)) m_Rf_voids 21 4 [(0, .ref r0), (1, .int i1), (2, .int i2)] [] h).trans ?_
  rfl
set_option maxRecDepth 100000 in
theorem e_Rf_axiom (d : Nat) (h : am_H) (r0 : Nat) (i1 : Int32) (i2 : Int32) : f_Rf_axiom (d + 1) h r0 i1 i2 = (
    am_ck h r0 8 <|
    am_gp (am_sI h r0 0 0) r0 8 9 fun p_1 =>
    am_ar (am_sI h r0 0 0) 9 p_1 3 fun j_2 =>
    am_ci (f_Rf_in d (am_sI h r0 0 0) i1 0 ((am_I (am_sI h r0 0 0) p_1 j_2) - 1)) fun x_4 h_3 =>
    if x_4 = 0 then
      am_ck h_3 r0 8 <| am_ci (f_Rf_bad d h_3 r0 1 1 0) fun x_6 h_5 =>
      if x_6 = 0 then
        am_ci (f_Rf_in d h_5 i2 0 4) fun x_8 h_7 =>
        if x_8 = 0 then
          f_Rf_axiom_50 (d + 1) h_7 r0 i1 i2 r0 1
        else
        f_Rf_axiom_50 (d + 1) h_7 r0 i1 i2 r0 0
      else
      some (.inr (some (.int 0)), h_5)
    else
    am_ck h_3 r0 8 <| am_ci (f_Rf_bad d h_3 r0 0 1 0) fun x_10 h_9 =>
    if x_10 = 0 then
      am_ci (f_Rf_in d h_9 i2 0 4) fun x_12 h_11 =>
      if x_12 = 0 then
        f_Rf_axiom_50 (d + 1) h_11 r0 i1 i2 r0 1
      else
      f_Rf_axiom_50 (d + 1) h_11 r0 i1 i2 r0 0
    else
    some (.inr (some (.int 0)), h_9)) := by
  refine (am_sem_seg (am_sm am_MT (d + 1)) m_Rf_axiom 28 0 [(0, .ref r0), (1, .int i1), (2, .int i2)] [] h).trans ?_
  rfl
set_option maxRecDepth 100000 in
theorem e_Rf_axiom_50 (d : Nat) (h : am_H) (r0 : Nat) (i1 : Int32) (i2 : Int32) (s0 : Nat) (s1 : Int32) : f_Rf_axiom_50 (d + 1) h r0 i1 i2 s0 s1 = (
    am_ck h s0 8 <| am_ci (f_Rf_bad d h s0 s1 2 1) fun x_2 h_1 =>
    if x_2 = 0 then
      if i2 = 0 then
        am_gp h_1 r0 8 9 fun p_3 =>
        am_ci (f_Rf_axiomOf d h_1 p_3 i1 0) fun x_5 h_4 =>
        some (.inr (some (.int x_5)), h_4)
      else
      if i2 = 1 then
        am_gl h_1 r0 8 11 fun y_6 =>
        am_ci (f_Rf_has d h_1 y_6 i1) fun x_8 h_7 =>
        if x_8 = 0 then
          some (.inr (some (.int 0)), h_7)
        else
        some (.inr (some (.int 1)), h_7)
      else
      am_gp h_1 r0 8 9 fun p_9 =>
      am_ci (f_Rf_axiomOf d h_1 p_9 i1 (i2 - 1)) fun x_11 h_10 =>
      some (.inr (some (.int x_11)), h_10)
    else
    some (.inr (some (.int 0)), h_1)) := by
  refine (am_sem_seg (am_sm am_MT (d + 1)) m_Rf_axiom 17 50 [(0, .ref r0), (1, .int i1), (2, .int i2)] [.int s1, .ref s0] h).trans ?_
  rfl
set_option maxRecDepth 100000 in
theorem e_Rf_isPart (d : Nat) (h : am_H) (r0 : Nat) (i1 : Int32) : f_Rf_isPart (d + 1) h r0 i1 = (
    am_gp h r0 8 9 fun p_1 =>
    am_ar h 9 p_1 2 fun j_2 =>
    am_ci (f_Rf_in d h i1 0 ((am_I h p_1 j_2) - 1)) fun x_4 h_3 =>
    am_01 x_4 (some (.inr (some (.int x_4)), h_3))) := by
  refine (am_sem_seg (am_sm am_MT (d + 1)) m_Rf_isPart 10 0 [(0, .ref r0), (1, .int i1)] [] h).trans ?_
  rfl
set_option maxRecDepth 100000 in
theorem e_Rf_isName (d : Nat) (h : am_H) (r0 : Nat) (i1 : Int32) : f_Rf_isName (d + 1) h r0 i1 = (
    am_gp h r0 8 9 fun p_1 =>
    am_ar h 9 p_1 0 fun j_2 =>
    am_ci (f_Rf_in d h i1 0 ((am_I h p_1 j_2) - 1)) fun x_4 h_3 =>
    am_01 x_4 (some (.inr (some (.int x_4)), h_3))) := by
  refine (am_sem_seg (am_sm am_MT (d + 1)) m_Rf_isName 10 0 [(0, .ref r0), (1, .int i1)] [] h).trans ?_
  rfl
set_option maxRecDepth 100000 in
theorem e_Rf_part (d : Nat) (h : am_H) (r0 : Nat) (i1 : Int32) (i2 : Int32) : f_Rf_part (d + 1) h r0 i1 i2 = (
    am_ck h r0 8 <|
    am_ck (am_sI h r0 0 0) r0 8 <| am_ci (f_Rf_isPart d (am_sI h r0 0 0) r0 i1) fun x_2 h_1 =>
    if x_2 = 0 then
      am_ck h_1 r0 8 <| am_ci (f_Rf_bad d h_1 r0 1 1 0) fun x_4 h_3 =>
      if x_4 = 0 then
        am_ci (f_Rf_in d h_3 i2 0 2) fun x_6 h_5 =>
        if x_6 = 0 then
          f_Rf_part_42 (d + 1) h_5 r0 i1 i2 r0 1
        else
        f_Rf_part_42 (d + 1) h_5 r0 i1 i2 r0 0
      else
      some (.inr (some (.int 0)), h_3)
    else
    am_ck h_1 r0 8 <| am_ci (f_Rf_bad d h_1 r0 0 1 0) fun x_8 h_7 =>
    if x_8 = 0 then
      am_ci (f_Rf_in d h_7 i2 0 2) fun x_10 h_9 =>
      if x_10 = 0 then
        f_Rf_part_42 (d + 1) h_9 r0 i1 i2 r0 1
      else
      f_Rf_part_42 (d + 1) h_9 r0 i1 i2 r0 0
    else
    some (.inr (some (.int 0)), h_7)) := by
  refine (am_sem_seg (am_sm am_MT (d + 1)) m_Rf_part 22 0 [(0, .ref r0), (1, .int i1), (2, .int i2)] [] h).trans ?_
  rfl
set_option maxRecDepth 100000 in
theorem e_Rf_part_42 (d : Nat) (h : am_H) (r0 : Nat) (i1 : Int32) (i2 : Int32) (s0 : Nat) (s1 : Int32) : f_Rf_part_42 (d + 1) h r0 i1 i2 s0 s1 = (
    am_ck h s0 8 <| am_ci (f_Rf_bad d h s0 s1 2 1) fun x_2 h_1 =>
    if x_2 = 0 then
      am_gp h_1 r0 8 9 fun p_3 =>
      am_ar h_1 9 p_3 ((36 + (3 * i1)) + i2) fun j_4 =>
      some (.inr (some (.int (am_I h_1 p_3 j_4))), h_1)
    else
    some (.inr (some (.int 0)), h_1)) := by
  refine (am_sem_seg (am_sm am_MT (d + 1)) m_Rf_part 15 42 [(0, .ref r0), (1, .int i1), (2, .int i2)] [.int s1, .ref s0] h).trans ?_
  rfl
set_option maxRecDepth 100000 in
theorem e_Rf_letter (d : Nat) (h : am_H) (r0 : Nat) (i1 : Int32) (i2 : Int32) (i3 : Int32) : f_Rf_letter (d + 1) h r0 i1 i2 i3 = (
    am_ck h r0 8 <|
    am_ci (f_Rf_in d (am_sI h r0 0 0) i1 0 1) fun x_2 h_1 =>
    if x_2 = 0 then
      f_Rf_letter_44 (d + 1) h_1 r0 i1 i2 i3 r0 1
    else
    am_gp h_1 r0 8 9 fun p_3 =>
    am_ci (f_Rf_more d h_1 0 i1) fun x_5 h_4 =>
    am_ci (f_Rf_less d h_4 1 x_5) fun x_7 h_6 =>
    am_ar h_6 9 p_3 x_7 fun j_8 =>
    am_ci (f_Rf_in d h_6 i2 0 ((am_I h_6 p_3 j_8) - 1)) fun x_10 h_9 =>
    if x_10 = 0 then
      f_Rf_letter_44 (d + 1) h_9 r0 i1 i2 i3 r0 1
    else
    f_Rf_letter_44 (d + 1) h_9 r0 i1 i2 i3 r0 0) := by
  refine (am_sem_seg (am_sm am_MT (d + 1)) m_Rf_letter 25 0 [(0, .ref r0), (1, .int i1), (2, .int i2), (3, .int i3)] [] h).trans ?_
  rfl
set_option maxRecDepth 100000 in
theorem e_Rf_letter_44 (d : Nat) (h : am_H) (r0 : Nat) (i1 : Int32) (i2 : Int32) (i3 : Int32) (s0 : Nat) (s1 : Int32) : f_Rf_letter_44 (d + 1) h r0 i1 i2 i3 s0 s1 = (
    am_ck h s0 8 <| am_ci (f_Rf_bad d h s0 s1 1 0) fun x_2 h_1 =>
    if x_2 = 0 then
      am_gp h_1 r0 8 9 fun p_3 =>
      if i1 = 0 then
        am_ar h_1 9 p_3 (4 + i2) fun j_4 =>
        f_Rf_letter_82 (d + 1) h_1 r0 i3 (am_I h_1 p_3 j_4) 0 0 5
      else
      am_ar h_1 9 p_3 (28 + i2) fun j_5 =>
      f_Rf_letter_82 (d + 1) h_1 r0 i3 (am_I h_1 p_3 j_5) 0 0 5
    else
    some (.inr (some (.int 0)), h_1)) := by
  refine (am_sem_seg (am_sm am_MT (d + 1)) m_Rf_letter 20 44 [(0, .ref r0), (1, .int i1), (2, .int i2), (3, .int i3)] [.int s1, .ref s0] h).trans ?_
  rfl
set_option maxRecDepth 100000 in
theorem e_Rf_letter_82 (d : Nat) (h : am_H) (r0 : Nat) (i3 : Int32) (i4 : Int32) (i5 : Int32) (i6 : Int32) (i7 : Int32) : f_Rf_letter_82 (d + 1) h r0 i3 i4 i5 i6 i7 = (
    if i7 < 0 then
      am_ci (f_Rf_in d h i3 0 (i5 - 1)) fun x_2 h_1 =>
      if x_2 = 0 then
        am_ck h_1 r0 8 <| am_ci (f_Rf_bad d h_1 r0 1 1 0) fun x_4 h_3 =>
        if x_4 = 0 then
          some (.inr (some (.int (96 + i6))), h_3)
        else
        some (.inr (some (.int 0)), h_3)
      else
      am_ck h_1 r0 8 <| am_ci (f_Rf_bad d h_1 r0 0 1 0) fun x_6 h_5 =>
      if x_6 = 0 then
        some (.inr (some (.int (96 + i6))), h_5)
      else
      some (.inr (some (.int 0)), h_5)
    else
    if (27 : Int32) = 0 then none else
    if (27 : Int32) = 0 then none else
    if (am_irem i4 27) ≤ 0 then
      if i7 = i3 then
        f_Rf_letter_82 (d + 1) h r0 i3 (i4 / 27) (i5 + 0) (am_irem i4 27) (i7 + (-1))
      else
      f_Rf_letter_82 (d + 1) h r0 i3 (i4 / 27) (i5 + 0) i6 (i7 + (-1))
    else
    if i7 = i3 then
      f_Rf_letter_82 (d + 1) h r0 i3 (i4 / 27) (i5 + 1) (am_irem i4 27) (i7 + (-1))
    else
    f_Rf_letter_82 (d + 1) h r0 i3 (i4 / 27) (i5 + 1) i6 (i7 + (-1))) := by
  refine (am_sem_seg (am_sm am_MT (d + 1)) m_Rf_letter 25 82 [(0, .ref r0), (3, .int i3), (4, .int i4), (5, .int i5), (6, .int i6), (7, .int i7)] [] h).trans ?_
  rfl
set_option maxRecDepth 100000 in
theorem e_Rf_named (d : Nat) (h : am_H) (r0 : Nat) (i1 : Int32) : f_Rf_named (d + 1) h r0 i1 = (
    am_ck h r0 8 <|
    am_ck (am_sI h r0 0 0) r0 8 <| am_ci (f_Rf_isName d (am_sI h r0 0 0) r0 i1) fun x_2 h_1 =>
    if x_2 = 0 then
      am_ck h_1 r0 8 <| am_ci (f_Rf_bad d h_1 r0 1 1 0) fun x_4 h_3 =>
      if x_4 = 0 then
        am_ck h_3 r0 8 <| am_ci (f_Rf_namePart d h_3 r0 i1) fun x_6 h_5 =>
        some (.inr (some (.int x_6)), h_5)
      else
      some (.inr (some (.int 0)), h_3)
    else
    am_ck h_1 r0 8 <| am_ci (f_Rf_bad d h_1 r0 0 1 0) fun x_8 h_7 =>
    if x_8 = 0 then
      am_ck h_7 r0 8 <| am_ci (f_Rf_namePart d h_7 r0 i1) fun x_10 h_9 =>
      some (.inr (some (.int x_10)), h_9)
    else
    some (.inr (some (.int 0)), h_7)) := by
  refine (am_sem_seg (am_sm am_MT (d + 1)) m_Rf_named 18 0 [(0, .ref r0), (1, .int i1)] [] h).trans ?_
  rfl
set_option maxRecDepth 100000 in
theorem e_Rf_below (d : Nat) (h : am_H) (r0 : Nat) (i1 : Int32) (i2 : Int32) : f_Rf_below (d + 1) h r0 i1 i2 = (
    am_ck h r0 8 <|
    am_ck (am_sI h r0 0 0) r0 8 <| am_ci (f_Rf_isPart d (am_sI h r0 0 0) r0 i1) fun x_2 h_1 =>
    if x_2 = 0 then
      am_ck h_1 r0 8 <| am_ci (f_Rf_bad d h_1 r0 1 1 0) fun x_4 h_3 =>
      if x_4 = 0 then
        am_ck h_3 r0 8 <| am_cv (f_Rf_classifies d h_3 r0) fun h_5 =>
        am_ck h_5 r0 8 <| am_ci (f_Rf_isBelow d h_5 r0 i1 i2) fun x_7 h_6 =>
        am_01 x_7 (some (.inr (some (.int x_7)), h_6))
      else
      am_01 0 (some (.inr (some (.int 0)), h_3))
    else
    am_ck h_1 r0 8 <| am_ci (f_Rf_isPart d h_1 r0 i2) fun x_9 h_8 =>
    if x_9 = 0 then
      am_ck h_8 r0 8 <| am_ci (f_Rf_bad d h_8 r0 1 1 0) fun x_11 h_10 =>
      if x_11 = 0 then
        am_ck h_10 r0 8 <| am_cv (f_Rf_classifies d h_10 r0) fun h_12 =>
        am_ck h_12 r0 8 <| am_ci (f_Rf_isBelow d h_12 r0 i1 i2) fun x_14 h_13 =>
        am_01 x_14 (some (.inr (some (.int x_14)), h_13))
      else
      am_01 0 (some (.inr (some (.int 0)), h_10))
    else
    am_ck h_8 r0 8 <| am_ci (f_Rf_bad d h_8 r0 0 1 0) fun x_16 h_15 =>
    if x_16 = 0 then
      am_ck h_15 r0 8 <| am_cv (f_Rf_classifies d h_15 r0) fun h_17 =>
      am_ck h_17 r0 8 <| am_ci (f_Rf_isBelow d h_17 r0 i1 i2) fun x_19 h_18 =>
      am_01 x_19 (some (.inr (some (.int x_19)), h_18))
    else
    am_01 0 (some (.inr (some (.int 0)), h_15))) := by
  refine (am_sem_seg (am_sm am_MT (d + 1)) m_Rf_below 25 0 [(0, .ref r0), (1, .int i1), (2, .int i2)] [] h).trans ?_
  rfl
set_option maxRecDepth 100000 in
theorem e_Rf_when (d : Nat) (h : am_H) (r0 : Nat) (i1 : Int32) (i2 : Int32) : f_Rf_when (d + 1) h r0 i1 i2 = (
    am_ck h r0 8 <|
    am_ck (am_sI h r0 0 0) r0 8 <| am_ci (f_Rf_isPart d (am_sI h r0 0 0) r0 i1) fun x_2 h_1 =>
    if x_2 = 0 then
      f_Rf_when_27 (d + 1) h_1 r0 i1 i2 r0 1
    else
    am_ck h_1 r0 8 <| am_ci (f_Rf_isPart d h_1 r0 i2) fun x_4 h_3 =>
    if x_4 = 0 then
      f_Rf_when_27 (d + 1) h_3 r0 i1 i2 r0 1
    else
    f_Rf_when_27 (d + 1) h_3 r0 i1 i2 r0 0) := by
  refine (am_sem_seg (am_sm am_MT (d + 1)) m_Rf_when 14 0 [(0, .ref r0), (1, .int i1), (2, .int i2)] [] h).trans ?_
  rfl
set_option maxRecDepth 100000 in
theorem e_Rf_when_27 (d : Nat) (h : am_H) (r0 : Nat) (i1 : Int32) (i2 : Int32) (s0 : Nat) (s1 : Int32) : f_Rf_when_27 (d + 1) h r0 i1 i2 s0 s1 = (
    am_ck h s0 8 <| am_ci (f_Rf_bad d h s0 s1 1 0) fun x_2 h_1 =>
    if x_2 = 0 then
      am_ck h_1 r0 8 <| am_cv (f_Rf_classifies d h_1 r0) fun h_3 =>
      am_gp h_3 r0 8 25 fun p_4 =>
      am_ap h_3 13 p_4 i1 fun p_5 =>
      am_ar h_3 9 p_5 i2 fun j_6 =>
      if (am_I h_3 p_5 j_6) = (-1) then
        am_gp h_3 r0 8 25 fun p_7 =>
        am_ap h_3 13 p_7 i1 fun p_8 =>
        am_ar h_3 9 p_8 1 fun j_9 =>
        some (.inr (some (.int (am_I h_3 p_8 j_9))), h_3)
      else
      am_gp h_3 r0 8 25 fun p_10 =>
      am_ap h_3 13 p_10 i1 fun p_11 =>
      am_ar h_3 9 p_11 i2 fun j_12 =>
      some (.inr (some (.int (am_I h_3 p_11 j_12))), h_3)
    else
    some (.inr (some (.int 0)), h_1)) := by
  refine (am_sem_seg (am_sm am_MT (d + 1)) m_Rf_when 22 27 [(0, .ref r0), (1, .int i1), (2, .int i2)] [.int s1, .ref s0] h).trans ?_
  rfl
set_option maxRecDepth 100000 in
theorem e_Rf_why (d : Nat) (h : am_H) (r0 : Nat) (i1 : Int32) (i2 : Int32) (i3 : Int32) : f_Rf_why (d + 1) h r0 i1 i2 i3 = (
    am_ck h r0 8 <|
    am_ck (am_sI h r0 0 0) r0 8 <| am_ci (f_Rf_isPart d (am_sI h r0 0 0) r0 i1) fun x_2 h_1 =>
    if x_2 = 0 then
      am_ck h_1 r0 8 <| am_ci (f_Rf_bad d h_1 r0 1 1 0) fun x_4 h_3 =>
      if x_4 = 0 then
        am_ci (f_Rf_in d h_3 i3 0 1) fun x_6 h_5 =>
        if x_6 = 0 then
          f_Rf_why_50 (d + 1) h_5 r0 i1 i2 i3 r0 1
        else
        f_Rf_why_50 (d + 1) h_5 r0 i1 i2 i3 r0 0
      else
      some (.inr (some (.int 0)), h_3)
    else
    am_ck h_1 r0 8 <| am_ci (f_Rf_isPart d h_1 r0 i2) fun x_8 h_7 =>
    if x_8 = 0 then
      am_ck h_7 r0 8 <| am_ci (f_Rf_bad d h_7 r0 1 1 0) fun x_10 h_9 =>
      if x_10 = 0 then
        am_ci (f_Rf_in d h_9 i3 0 1) fun x_12 h_11 =>
        if x_12 = 0 then
          f_Rf_why_50 (d + 1) h_11 r0 i1 i2 i3 r0 1
        else
        f_Rf_why_50 (d + 1) h_11 r0 i1 i2 i3 r0 0
      else
      some (.inr (some (.int 0)), h_9)
    else
    am_ck h_7 r0 8 <| am_ci (f_Rf_bad d h_7 r0 0 1 0) fun x_14 h_13 =>
    if x_14 = 0 then
      am_ci (f_Rf_in d h_13 i3 0 1) fun x_16 h_15 =>
      if x_16 = 0 then
        f_Rf_why_50 (d + 1) h_15 r0 i1 i2 i3 r0 1
      else
      f_Rf_why_50 (d + 1) h_15 r0 i1 i2 i3 r0 0
    else
    some (.inr (some (.int 0)), h_13)) := by
  refine (am_sem_seg (am_sm am_MT (d + 1)) m_Rf_why 26 0 [(0, .ref r0), (1, .int i1), (2, .int i2), (3, .int i3)] [] h).trans ?_
  rfl
set_option maxRecDepth 100000 in
theorem e_Rf_why_50 (d : Nat) (h : am_H) (r0 : Nat) (i1 : Int32) (i2 : Int32) (i3 : Int32) (s0 : Nat) (s1 : Int32) : f_Rf_why_50 (d + 1) h r0 i1 i2 i3 s0 s1 = (
    am_ck h s0 8 <| am_ci (f_Rf_bad d h s0 s1 2 1) fun x_2 h_1 =>
    if x_2 = 0 then
      am_ck h_1 r0 8 <| am_cv (f_Rf_classifies d h_1 r0) fun h_3 =>
      am_gp h_3 r0 8 25 fun p_4 =>
      am_ap h_3 13 p_4 i1 fun p_5 =>
      am_ar h_3 9 p_5 i2 fun j_6 =>
      if (am_I h_3 p_5 j_6) = (-1) then
        some (.inr (some (.int (-1))), h_3)
      else
      if (am_I h_3 p_5 j_6) = 0 then
        if i3 = 0 then
          some (.inr (some (.int 0)), h_3)
        else
        some (.inr (some (.int (-1))), h_3)
      else
      am_gp h_3 r0 8 9 fun p_7 =>
      am_gl h_3 r0 8 11 fun y_8 =>
      am_ck h_3 r0 8 <| am_cv (f_Rf_beginsRounds d h_3 r0 p_7 y_8) fun h_9 =>
      f_Rf_why_112 (d + 1) h_9 r0 i1 i2 i3 (am_I h_3 p_5 j_6) 1
    else
    some (.inr (some (.int 0)), h_1)) := by
  refine (am_sem_seg (am_sm am_MT (d + 1)) m_Rf_why 26 50 [(0, .ref r0), (1, .int i1), (2, .int i2), (3, .int i3)] [.int s1, .ref s0] h).trans ?_
  rfl
set_option maxRecDepth 100000 in
theorem e_Rf_why_112 (d : Nat) (h : am_H) (r0 : Nat) (i1 : Int32) (i2 : Int32) (i3 : Int32) (i4 : Int32) (i5 : Int32) : f_Rf_why_112 (d + 1) h r0 i1 i2 i3 i4 i5 = (
    if i4 ≤ i5 then
      am_01 0 <| am_ck h r0 8 <|
      am_ck (am_sI h r0 14 0) r0 8 <| am_ci (f_Rf_ruleOf d (am_sI h r0 14 0) r0 i1 i2) fun x_2 h_1 =>
      if i3 = 0 then
        if (100 : Int32) = 0 then none else
        some (.inr (some (.int (x_2 / 100))), h_1)
      else
      if (100 : Int32) = 0 then none else
      some (.inr (some (.int ((am_irem x_2 100) - 1))), h_1)
    else
    am_gp h r0 8 9 fun p_3 =>
    am_gl h r0 8 11 fun y_4 =>
    am_ck h r0 8 <| am_ci (f_Rf_goesRound d h r0 p_3 y_4) fun x_6 h_5 =>
    f_Rf_why_112 (d + 1) h_5 r0 i1 i2 i3 i4 (i5 + 1)) := by
  refine (am_sem_seg (am_sm am_MT (d + 1)) m_Rf_why 19 112 [(0, .ref r0), (1, .int i1), (2, .int i2), (3, .int i3), (4, .int i4), (5, .int i5)] [] h).trans ?_
  rfl
set_option maxRecDepth 100000 in
theorem e_Rf_ruleOf (d : Nat) (h : am_H) (r0 : Nat) (i1 : Int32) (i2 : Int32) : f_Rf_ruleOf d h r0 i1 i2 = (
    f_Rf_ruleOf_2 d h r0 i1 i2 0) := by
  refine (am_sem_seg (am_sm am_MT d) m_Rf_ruleOf 2 0 [(0, .ref r0), (1, .int i1), (2, .int i2)] [] h).trans ?_
  rfl
set_option maxRecDepth 100000 in
theorem e_Rf_ruleOf_2 (d : Nat) (h : am_H) (r0 : Nat) (i1 : Int32) (i2 : Int32) (i3 : Int32) : f_Rf_ruleOf_2 (d + 1) h r0 i1 i2 i3 = (
    am_gp h r0 8 9 fun p_1 =>
    am_ar h 9 p_1 3 fun j_2 =>
    if (am_I h p_1 j_2) ≤ i3 then
      f_Rf_ruleOf_130 (d + 1) h r0 i1 i2 0
    else
    am_gp h r0 8 9 fun p_3 =>
    am_ci (f_Rf_axiomOf d h p_3 i3 0) fun x_5 h_4 =>
    am_gl h_4 r0 8 11 fun y_6 =>
    am_ci (f_Rf_has d h_4 y_6 i3) fun x_8 h_7 =>
    if x_8 = 0 then
      f_Rf_ruleOf_2 (d + 1) h_7 r0 i1 i2 (i3 + 1)
    else
    if x_5 ≤ 1 then
      am_gp h_7 r0 8 9 fun p_9 =>
      am_ci (f_Rf_axiomOf d h_7 p_9 i3 2) fun x_11 h_10 =>
      if x_11 = i2 then
        am_gp h_10 r0 8 18 fun p_12 =>
        am_ar h_10 10 p_12 i1 fun j_13 =>
        am_gp h_10 r0 8 9 fun p_14 =>
        am_ci (f_Rf_axiomOf d h_10 p_14 i3 1) fun x_16 h_15 =>
        am_ci (f_Rf_has d h_15 (am_L h_10 p_12 j_13) x_16) fun x_18 h_17 =>
        if x_18 = 0 then
          f_Rf_ruleOf_77 (d + 1) h_17 r0 i1 i2 i3 x_5
        else
        some (.inr (some (.int (101 + i3))), h_17)
      else
      f_Rf_ruleOf_77 (d + 1) h_10 r0 i1 i2 i3 x_5
    else
    f_Rf_ruleOf_2 (d + 1) h_7 r0 i1 i2 (i3 + 1)) := by
  refine (am_sem_seg (am_sm am_MT (d + 1)) m_Rf_ruleOf 42 2 [(0, .ref r0), (1, .int i1), (2, .int i2), (3, .int i3)] [] h).trans ?_
  rfl
set_option maxRecDepth 100000 in
theorem e_Rf_ruleOf_77 (d : Nat) (h : am_H) (r0 : Nat) (i1 : Int32) (i2 : Int32) (i3 : Int32) (i4 : Int32) : f_Rf_ruleOf_77 (d + 1) h r0 i1 i2 i3 i4 = (
    if i4 = 1 then
      am_gp h r0 8 9 fun p_1 =>
      am_ci (f_Rf_axiomOf d h p_1 i3 1) fun x_3 h_2 =>
      if x_3 = i2 then
        am_gp h_2 r0 8 18 fun p_4 =>
        am_ar h_2 10 p_4 i1 fun j_5 =>
        am_gp h_2 r0 8 9 fun p_6 =>
        am_ci (f_Rf_axiomOf d h_2 p_6 i3 2) fun x_8 h_7 =>
        am_ci (f_Rf_has d h_7 (am_L h_2 p_4 j_5) x_8) fun x_10 h_9 =>
        if x_10 = 0 then
          f_Rf_ruleOf_2 (d + 1) h_9 r0 i1 i2 (i3 + 1)
        else
        some (.inr (some (.int (101 + i3))), h_9)
      else
      f_Rf_ruleOf_2 (d + 1) h_2 r0 i1 i2 (i3 + 1)
    else
    f_Rf_ruleOf_2 (d + 1) h r0 i1 i2 (i3 + 1)) := by
  refine (am_sem_seg (am_sm am_MT (d + 1)) m_Rf_ruleOf 25 77 [(0, .ref r0), (1, .int i1), (2, .int i2), (3, .int i3), (4, .int i4)] [] h).trans ?_
  rfl
set_option maxRecDepth 100000 in
theorem e_Rf_ruleOf_130 (d : Nat) (h : am_H) (r0 : Nat) (i1 : Int32) (i2 : Int32) (i3 : Int32) : f_Rf_ruleOf_130 (d + 1) h r0 i1 i2 i3 = (
    am_gp h r0 8 9 fun p_1 =>
    am_ar h 9 p_1 2 fun j_2 =>
    if (am_I h p_1 j_2) ≤ i3 then
      am_gp h r0 8 9 fun p_3 =>
      am_ci (f_Rf_kindOf d h p_3 i2) fun x_5 h_4 =>
      if x_5 = 3 then
        am_gp h_4 r0 8 18 fun p_6 =>
        am_ar h_4 10 p_6 i1 fun j_7 =>
        am_gp h_4 r0 8 9 fun p_8 =>
        am_ci (f_Rf_oneOf d h_4 p_8 i2) fun x_10 h_9 =>
        am_ci (f_Rf_has d h_9 (am_L h_4 p_6 j_7) x_10) fun x_12 h_11 =>
        if x_12 = 0 then
          f_Rf_ruleOf_259 (d + 1) h_11 r0 i1 i2 0
        else
        am_gp h_11 r0 8 18 fun p_13 =>
        am_ar h_11 10 p_13 i1 fun j_14 =>
        am_gp h_11 r0 8 9 fun p_15 =>
        am_ci (f_Rf_otherOf d h_11 p_15 i2) fun x_17 h_16 =>
        am_ci (f_Rf_has d h_16 (am_L h_11 p_13 j_14) x_17) fun x_19 h_18 =>
        if x_19 = 0 then
          f_Rf_ruleOf_259 (d + 1) h_18 r0 i1 i2 0
        else
        some (.inr (some (.int 300)), h_18)
      else
      f_Rf_ruleOf_259 (d + 1) h_4 r0 i1 i2 0
    else
    am_gp h r0 8 9 fun p_20 =>
    am_ci (f_Rf_kindOf d h p_20 i3) fun x_22 h_21 =>
    if x_22 = 3 then
      am_gp h_21 r0 8 18 fun p_23 =>
      am_ar h_21 10 p_23 i1 fun j_24 =>
      am_ci (f_Rf_has d h_21 (am_L h_21 p_23 j_24) i3) fun x_26 h_25 =>
      if x_26 = 0 then
        f_Rf_ruleOf_130 (d + 1) h_25 r0 i1 i2 (i3 + 1)
      else
      am_gp h_25 r0 8 9 fun p_27 =>
      am_ci (f_Rf_oneOf d h_25 p_27 i3) fun x_29 h_28 =>
      if x_29 = i2 then
        some (.inr (some (.int (201 + i3))), h_28)
      else
      am_gp h_28 r0 8 9 fun p_30 =>
      am_ci (f_Rf_otherOf d h_28 p_30 i3) fun x_32 h_31 =>
      if x_32 = i2 then
        some (.inr (some (.int (201 + i3))), h_31)
      else
      f_Rf_ruleOf_130 (d + 1) h_31 r0 i1 i2 (i3 + 1)
    else
    f_Rf_ruleOf_130 (d + 1) h_21 r0 i1 i2 (i3 + 1)) := by
  refine (am_sem_seg (am_sm am_MT (d + 1)) m_Rf_ruleOf 35 130 [(0, .ref r0), (1, .int i1), (2, .int i2), (3, .int i3)] [] h).trans ?_
  rfl
set_option maxRecDepth 100000 in
theorem e_Rf_ruleOf_259 (d : Nat) (h : am_H) (r0 : Nat) (i1 : Int32) (i2 : Int32) (i3 : Int32) : f_Rf_ruleOf_259 (d + 1) h r0 i1 i2 i3 = (
    am_gp h r0 8 9 fun p_1 =>
    am_ar h 9 p_1 2 fun j_2 =>
    if (am_I h p_1 j_2) ≤ i3 then
      f_Rf_ruleOf_332 (d + 1) h r0 i1 i2 0
    else
    am_gp h r0 8 9 fun p_3 =>
    am_ci (f_Rf_kindOf d h p_3 i2) fun x_5 h_4 =>
    if x_5 = 4 then
      am_gp h_4 r0 8 18 fun p_6 =>
      am_ar h_4 10 p_6 i3 fun j_7 =>
      am_gp h_4 r0 8 9 fun p_8 =>
      am_ci (f_Rf_otherOf d h_4 p_8 i2) fun x_10 h_9 =>
      am_ci (f_Rf_has d h_9 (am_L h_4 p_6 j_7) x_10) fun x_12 h_11 =>
      if x_12 = 0 then
        f_Rf_ruleOf_259 (d + 1) h_11 r0 i1 i2 (i3 + 1)
      else
      am_gp h_11 r0 8 9 fun p_13 =>
      am_ci (f_Rf_oneOf d h_11 p_13 i2) fun x_15 h_14 =>
      am_ck h_14 r0 8 <| am_ci (f_Rf_goesBy d h_14 r0 i1 x_15 i3) fun x_17 h_16 =>
      if x_17 = 0 then
        f_Rf_ruleOf_259 (d + 1) h_16 r0 i1 i2 (i3 + 1)
      else
      some (.inr (some (.int (401 + i3))), h_16)
    else
    f_Rf_ruleOf_259 (d + 1) h_4 r0 i1 i2 (i3 + 1)) := by
  refine (am_sem_seg (am_sm am_MT (d + 1)) m_Rf_ruleOf 35 259 [(0, .ref r0), (1, .int i1), (2, .int i2), (3, .int i3)] [] h).trans ?_
  rfl
set_option maxRecDepth 100000 in
theorem e_Rf_ruleOf_332 (d : Nat) (h : am_H) (r0 : Nat) (i1 : Int32) (i2 : Int32) (i3 : Int32) : f_Rf_ruleOf_332 (d + 1) h r0 i1 i2 i3 = (
    am_gp h r0 8 9 fun p_1 =>
    am_ar h 9 p_1 2 fun j_2 =>
    if (am_I h p_1 j_2) ≤ i3 then
      some (.inr (some (.int 0)), h)
    else
    if i2 = 1 then
      am_gp h r0 8 18 fun p_3 =>
      am_ar h 10 p_3 i3 fun j_4 =>
      am_ci (f_Rf_has d h (am_L h p_3 j_4) 1) fun x_6 h_5 =>
      if x_6 = 0 then
        f_Rf_ruleOf_332 (d + 1) h_5 r0 i1 i2 (i3 + 1)
      else
      am_ck h_5 r0 8 <| am_ci (f_Rf_isLinked d h_5 r0 i1 i3) fun x_8 h_7 =>
      if x_8 = 0 then
        f_Rf_ruleOf_332 (d + 1) h_7 r0 i1 i2 (i3 + 1)
      else
      some (.inr (some (.int (501 + i3))), h_7)
    else
    f_Rf_ruleOf_332 (d + 1) h r0 i1 i2 (i3 + 1)) := by
  refine (am_sem_seg (am_sm am_MT (d + 1)) m_Rf_ruleOf 25 332 [(0, .ref r0), (1, .int i1), (2, .int i2), (3, .int i3)] [] h).trans ?_
  rfl
set_option maxRecDepth 100000 in
theorem e_Rf_goesBy (d : Nat) (h : am_H) (r0 : Nat) (i1 : Int32) (i2 : Int32) (i3 : Int32) : f_Rf_goesBy d h r0 i1 i2 i3 = (
    f_Rf_goesBy_6 d h r0 i1 i2 i3 0 0) := by
  refine (am_sem_seg (am_sm am_MT d) m_Rf_goesBy 4 0 [(0, .ref r0), (1, .int i1), (2, .int i2), (3, .int i3)] [] h).trans ?_
  rfl
set_option maxRecDepth 100000 in
theorem e_Rf_goesBy_6 (d : Nat) (h : am_H) (r0 : Nat) (i1 : Int32) (i2 : Int32) (i3 : Int32) (i4 : Int32) (i5 : Int32) : f_Rf_goesBy_6 (d + 1) h r0 i1 i2 i3 i4 i5 = (
    if 8 ≤ i5 then
      am_01 i4 (some (.inr (some (.int i4)), h))
    else
    am_gp h r0 8 24 fun p_1 =>
    am_ar h 9 p_1 i5 fun j_2 =>
    am_ci (f_Rf_has d h (Int32.toInt64 (am_I h p_1 j_2)) i2) fun x_4 h_3 =>
    if x_4 = 0 then
      f_Rf_goesBy_6 (d + 1) h_3 r0 i1 i2 i3 (i4 ||| 0) (i5 + 1)
    else
    am_gp h_3 r0 8 20 fun p_5 =>
    am_ap h_3 14 p_5 i1 fun p_6 =>
    am_ar h_3 10 p_6 i5 fun j_7 =>
    am_ci (f_Rf_has d h_3 (am_L h_3 p_6 j_7) i3) fun x_9 h_8 =>
    if x_9 = 0 then
      f_Rf_goesBy_6 (d + 1) h_8 r0 i1 i2 i3 (i4 ||| 0) (i5 + 1)
    else
    f_Rf_goesBy_6 (d + 1) h_8 r0 i1 i2 i3 (i4 ||| 1) (i5 + 1)) := by
  refine (am_sem_seg (am_sm am_MT (d + 1)) m_Rf_goesBy 27 6 [(0, .ref r0), (1, .int i1), (2, .int i2), (3, .int i3), (4, .int i4), (5, .int i5)] [] h).trans ?_
  rfl
set_option maxRecDepth 100000 in
theorem e_Rf_isLinked (d : Nat) (h : am_H) (r0 : Nat) (i1 : Int32) (i2 : Int32) : f_Rf_isLinked d h r0 i1 i2 = (
    f_Rf_isLinked_5 d h r0 i1 i2 0 0) := by
  refine (am_sem_seg (am_sm am_MT d) m_Rf_isLinked 4 0 [(0, .ref r0), (1, .int i1), (2, .int i2)] [] h).trans ?_
  rfl
set_option maxRecDepth 100000 in
theorem e_Rf_isLinked_5 (d : Nat) (h : am_H) (r0 : Nat) (i1 : Int32) (i2 : Int32) (i3 : Int32) (i4 : Int32) : f_Rf_isLinked_5 (d + 1) h r0 i1 i2 i3 i4 = (
    if 8 ≤ i4 then
      am_01 i3 (some (.inr (some (.int i3)), h))
    else
    am_gp h r0 8 20 fun p_1 =>
    am_ap h 14 p_1 i1 fun p_2 =>
    am_ar h 10 p_2 i4 fun j_3 =>
    am_ci (f_Rf_has d h (am_L h p_2 j_3) i2) fun x_5 h_4 =>
    f_Rf_isLinked_5 (d + 1) h_4 r0 i1 i2 (i3 ||| x_5) (i4 + 1)) := by
  refine (am_sem_seg (am_sm am_MT (d + 1)) m_Rf_isLinked 16 5 [(0, .ref r0), (1, .int i1), (2, .int i2), (3, .int i3), (4, .int i4)] [] h).trans ?_
  rfl
set_option maxRecDepth 100000 in
theorem e_Rf_link (d : Nat) (h : am_H) (r0 : Nat) (i1 : Int32) (i2 : Int32) (i3 : Int32) : f_Rf_link (d + 1) h r0 i1 i2 i3 = (
    am_ck h r0 8 <|
    am_ck (am_sI h r0 0 0) r0 8 <| am_ci (f_Rf_isPart d (am_sI h r0 0 0) r0 i1) fun x_2 h_1 =>
    if x_2 = 0 then
      f_Rf_link_43 (d + 1) h_1 r0 i1 i2 i3 r0 1
    else
    am_gp h_1 r0 8 9 fun p_3 =>
    am_ar h_1 9 p_3 1 fun j_4 =>
    am_ci (f_Rf_in d h_1 i2 0 ((am_I h_1 p_3 j_4) - 1)) fun x_6 h_5 =>
    if x_6 = 0 then
      f_Rf_link_43 (d + 1) h_5 r0 i1 i2 i3 r0 1
    else
    am_ck h_5 r0 8 <| am_ci (f_Rf_isPart d h_5 r0 i3) fun x_8 h_7 =>
    if x_8 = 0 then
      f_Rf_link_43 (d + 1) h_7 r0 i1 i2 i3 r0 1
    else
    f_Rf_link_43 (d + 1) h_7 r0 i1 i2 i3 r0 0) := by
  refine (am_sem_seg (am_sm am_MT (d + 1)) m_Rf_link 24 0 [(0, .ref r0), (1, .int i1), (2, .int i2), (3, .int i3)] [] h).trans ?_
  rfl
set_option maxRecDepth 100000 in
theorem e_Rf_link_43 (d : Nat) (h : am_H) (r0 : Nat) (i1 : Int32) (i2 : Int32) (i3 : Int32) (s0 : Nat) (s1 : Int32) : f_Rf_link_43 (d + 1) h r0 i1 i2 i3 s0 s1 = (
    am_ck h s0 8 <| am_ci (f_Rf_bad d h s0 s1 1 0) fun x_2 h_1 =>
    if x_2 = 0 then
      am_ck h_1 r0 8 <| am_cv (f_Rf_classifies d h_1 r0) fun h_3 =>
      am_gp h_3 r0 8 20 fun p_4 =>
      am_ap h_3 14 p_4 i1 fun p_5 =>
      am_ar h_3 10 p_5 i2 fun j_6 =>
      am_ci (f_Rf_has d h_3 (am_L h_3 p_5 j_6) i3) fun x_8 h_7 =>
      am_01 x_8 (some (.inr (some (.int x_8)), h_7))
    else
    am_01 0 (some (.inr (some (.int 0)), h_1))) := by
  refine (am_sem_seg (am_sm am_MT (d + 1)) m_Rf_link 15 43 [(0, .ref r0), (1, .int i1), (2, .int i2), (3, .int i3)] [.int s1, .ref s0] h).trans ?_
  rfl
set_option maxRecDepth 100000 in
theorem e_Rf_under (d : Nat) (h : am_H) (r0 : Nat) (i1 : Int32) : f_Rf_under (d + 1) h r0 i1 = (
    am_ck h r0 8 <|
    am_gp (am_sI h r0 0 0) r0 8 9 fun p_1 =>
    am_ar (am_sI h r0 0 0) 9 p_1 1 fun j_2 =>
    am_ci (f_Rf_in d (am_sI h r0 0 0) i1 0 ((am_I (am_sI h r0 0 0) p_1 j_2) - 1)) fun x_4 h_3 =>
    if x_4 = 0 then
      am_ck h_3 r0 8 <| am_ci (f_Rf_bad d h_3 r0 1 1 0) fun x_6 h_5 =>
      if x_6 = 0 then
        am_ck h_5 r0 8 <| am_cv (f_Rf_classifies d h_5 r0) fun h_7 =>
        am_gp h_7 r0 8 24 fun p_8 =>
        am_ar h_7 9 p_8 i1 fun j_9 =>
        some (.inr (some (.int (am_I h_7 p_8 j_9))), h_7)
      else
      some (.inr (some (.int 0)), h_5)
    else
    am_ck h_3 r0 8 <| am_ci (f_Rf_bad d h_3 r0 0 1 0) fun x_11 h_10 =>
    if x_11 = 0 then
      am_ck h_10 r0 8 <| am_cv (f_Rf_classifies d h_10 r0) fun h_12 =>
      am_gp h_12 r0 8 24 fun p_13 =>
      am_ar h_12 9 p_13 i1 fun j_14 =>
      some (.inr (some (.int (am_I h_12 p_13 j_14))), h_12)
    else
    some (.inr (some (.int 0)), h_10)) := by
  refine (am_sem_seg (am_sm am_MT (d + 1)) m_Rf_under 27 0 [(0, .ref r0), (1, .int i1)] [] h).trans ?_
  rfl
set_option maxRecDepth 100000 in
theorem e_Rf_node (d : Nat) (h : am_H) (r0 : Nat) (i1 : Int32) : f_Rf_node (d + 1) h r0 i1 = (
    am_ck h r0 8 <|
    am_ck (am_sI h r0 0 0) r0 8 <| am_ci (f_Rf_isName d (am_sI h r0 0 0) r0 i1) fun x_2 h_1 =>
    if x_2 = 0 then
      am_ck h_1 r0 8 <| am_ci (f_Rf_bad d h_1 r0 1 1 0) fun x_4 h_3 =>
      if x_4 = 0 then
        am_ck h_3 r0 8 <| am_cv (f_Rf_laysNodes d h_3 r0) fun h_5 =>
        am_gp h_5 r0 8 27 fun p_6 =>
        am_ar h_5 9 p_6 i1 fun j_7 =>
        some (.inr (some (.int (am_I h_5 p_6 j_7))), h_5)
      else
      some (.inr (some (.int 0)), h_3)
    else
    am_ck h_1 r0 8 <| am_ci (f_Rf_bad d h_1 r0 0 1 0) fun x_9 h_8 =>
    if x_9 = 0 then
      am_ck h_8 r0 8 <| am_cv (f_Rf_laysNodes d h_8 r0) fun h_10 =>
      am_gp h_10 r0 8 27 fun p_11 =>
      am_ar h_10 9 p_11 i1 fun j_12 =>
      some (.inr (some (.int (am_I h_10 p_11 j_12))), h_10)
    else
    some (.inr (some (.int 0)), h_8)) := by
  refine (am_sem_seg (am_sm am_MT (d + 1)) m_Rf_node 21 0 [(0, .ref r0), (1, .int i1)] [] h).trans ?_
  rfl
set_option maxRecDepth 100000 in
theorem e_Rf_nodeOf (d : Nat) (h : am_H) (r0 : Nat) (i1 : Int32) (i2 : Int32) : f_Rf_nodeOf (d + 1) h r0 i1 i2 = (
    am_ck h r0 8 <|
    am_ck (am_sI h r0 0 0) r0 8 <| am_cv (f_Rf_laysNodes d (am_sI h r0 0 0) r0) fun h_1 =>
    am_gi h_1 r0 8 34 fun x_2 =>
    am_ci (f_Rf_in d h_1 i1 0 (x_2 - 1)) fun x_4 h_3 =>
    if x_4 = 0 then
      f_Rf_nodeOf_29 (d + 1) h_3 r0 i1 i2 r0 1
    else
    f_Rf_nodeOf_29 (d + 1) h_3 r0 i1 i2 r0 0) := by
  refine (am_sem_seg (am_sm am_MT (d + 1)) m_Rf_nodeOf 16 0 [(0, .ref r0), (1, .int i1), (2, .int i2)] [] h).trans ?_
  rfl
set_option maxRecDepth 100000 in
theorem e_Rf_nodeOf_29 (d : Nat) (h : am_H) (r0 : Nat) (i1 : Int32) (i2 : Int32) (s0 : Nat) (s1 : Int32) : f_Rf_nodeOf_29 (d + 1) h r0 i1 i2 s0 s1 = (
    am_ck h s0 8 <| am_ci (f_Rf_bad d h s0 s1 1 0) fun x_2 h_1 =>
    if x_2 = 0 then
      am_ci (f_Rf_in d h_1 i2 0 5) fun x_4 h_3 =>
      if x_4 = 0 then
        am_ck h_3 r0 8 <| am_ci (f_Rf_bad d h_3 r0 1 2 1) fun x_6 h_5 =>
        if x_6 = 0 then
          f_Rf_nodeOf_67 (d + 1) h_5 r0 i1 i2 0 0
        else
        some (.inr (some (.int 0)), h_5)
      else
      am_ck h_3 r0 8 <| am_ci (f_Rf_bad d h_3 r0 0 2 1) fun x_8 h_7 =>
      if x_8 = 0 then
        f_Rf_nodeOf_67 (d + 1) h_7 r0 i1 i2 0 0
      else
      some (.inr (some (.int 0)), h_7)
    else
    some (.inr (some (.int 0)), h_1)) := by
  refine (am_sem_seg (am_sm am_MT (d + 1)) m_Rf_nodeOf 20 29 [(0, .ref r0), (1, .int i1), (2, .int i2)] [.int s1, .ref s0] h).trans ?_
  rfl
set_option maxRecDepth 100000 in
theorem e_Rf_nodeOf_67 (d : Nat) (h : am_H) (r0 : Nat) (i1 : Int32) (i2 : Int32) (i3 : Int32) (i4 : Int32) : f_Rf_nodeOf_67 d h r0 i1 i2 i3 i4 = (
    am_gp h r0 8 9 fun p_1 =>
    am_ar h 9 p_1 0 fun j_2 =>
    if (am_I h p_1 j_2) ≤ i4 then
      if i2 = 0 then
        some (.inr (some (.int i3)), h)
      else
      if i2 = 1 then
        am_gp h r0 8 31 fun p_3 =>
        am_ar h 9 p_3 i1 fun j_4 =>
        some (.inr (some (.int (am_I h p_3 j_4))), h)
      else
      if i2 = 2 then
        am_gp h r0 8 32 fun p_5 =>
        am_ar h 9 p_5 i1 fun j_6 =>
        some (.inr (some (.int (am_I h p_5 j_6))), h)
      else
      if i2 = 3 then
        am_gp h r0 8 29 fun p_7 =>
        am_ar h 9 p_7 i1 fun j_8 =>
        some (.inr (some (.int (am_I h p_7 j_8))), h)
      else
      if i2 = 4 then
        am_gp h r0 8 30 fun p_9 =>
        am_ar h 9 p_9 i1 fun j_10 =>
        some (.inr (some (.int (am_I h p_9 j_10))), h)
      else
      am_gp h r0 8 33 fun p_11 =>
      am_ar h 9 p_11 i1 fun j_12 =>
      some (.inr (some (.int (am_I h p_11 j_12))), h)
    else
    am_gp h r0 8 27 fun p_13 =>
    am_ar h 9 p_13 i4 fun j_14 =>
    if (am_I h p_13 j_14) = i1 then
      f_Rf_nodeOf_67 d h r0 i1 i2 (i3 ||| (am_ishl 1 i4)) (i4 + 1)
    else
    f_Rf_nodeOf_67 d h r0 i1 i2 (i3 ||| 0) (i4 + 1)) := by
  refine (am_sem_seg (am_sm am_MT d) m_Rf_nodeOf 26 67 [(0, .ref r0), (1, .int i1), (2, .int i2), (3, .int i3), (4, .int i4)] [] h).trans ?_
  rfl
set_option maxRecDepth 100000 in
theorem e_Rf_nothing (d : Nat) (h : am_H) (r0 : Nat) : f_Rf_nothing (d + 1) h r0 = (
    am_ck h r0 8 <|
    am_ck (am_sI h r0 0 0) r0 8 <| am_cv (f_Rf_classifies d (am_sI h r0 0 0) r0) fun h_1 =>
    am_ck h_1 r0 8 <| am_ci (f_Rf_voids d h_1 r0) fun x_3 h_2 =>
    some (.inr (some (.int x_3)), h_2)) := by
  refine (am_sem_seg (am_sm am_MT (d + 1)) m_Rf_nothing 8 0 [(0, .ref r0)] [] h).trans ?_
  rfl
set_option maxRecDepth 100000 in
theorem e_Rf_common (d : Nat) (h : am_H) (r0 : Nat) (i1 : Int32) (i2 : Int32) : f_Rf_common (d + 1) h r0 i1 i2 = (
    am_ck h r0 8 <|
    am_ck (am_sI h r0 0 0) r0 8 <| am_ci (f_Rf_isName d (am_sI h r0 0 0) r0 i1) fun x_2 h_1 =>
    if x_2 = 0 then
      f_Rf_common_27 (d + 1) h_1 r0 i1 i2 r0 1
    else
    am_ck h_1 r0 8 <| am_ci (f_Rf_isName d h_1 r0 i2) fun x_4 h_3 =>
    if x_4 = 0 then
      f_Rf_common_27 (d + 1) h_3 r0 i1 i2 r0 1
    else
    f_Rf_common_27 (d + 1) h_3 r0 i1 i2 r0 0) := by
  refine (am_sem_seg (am_sm am_MT (d + 1)) m_Rf_common 14 0 [(0, .ref r0), (1, .int i1), (2, .int i2)] [] h).trans ?_
  rfl
set_option maxRecDepth 100000 in
theorem e_Rf_common_27 (d : Nat) (h : am_H) (r0 : Nat) (i1 : Int32) (i2 : Int32) (s0 : Nat) (s1 : Int32) : f_Rf_common_27 (d + 1) h r0 i1 i2 s0 s1 = (
    am_ck h s0 8 <| am_ci (f_Rf_bad d h s0 s1 1 0) fun x_2 h_1 =>
    if x_2 = 0 then
      am_ck h_1 r0 8 <| am_cv (f_Rf_laysNodes d h_1 r0) fun h_3 =>
      am_gp h_3 r0 8 27 fun p_4 =>
      am_ar h_3 9 p_4 i1 fun j_5 =>
      if (am_I h_3 p_4 j_5) = (-1) then
        am_ck h_3 r0 8 <| am_ci (f_Rf_bad d h_3 r0 1 2 2) fun x_7 h_6 =>
        if x_7 = 0 then
          am_ck h_6 r0 8 <| am_ci (f_Rf_aboveAll d h_6 r0 i1) fun x_9 h_8 =>
          am_ck h_8 r0 8 <| am_ci (f_Rf_aboveAll d h_8 r0 i2) fun x_11 h_10 =>
          f_Rf_common_95 (d + 1) h_10 r0 (x_9 &&& x_11) 0 0
        else
        some (.inr (some (.int 0)), h_6)
      else
      am_gp h_3 r0 8 27 fun p_12 =>
      am_ar h_3 9 p_12 i2 fun j_13 =>
      if (am_I h_3 p_12 j_13) = (-1) then
        am_ck h_3 r0 8 <| am_ci (f_Rf_bad d h_3 r0 1 2 2) fun x_15 h_14 =>
        if x_15 = 0 then
          am_ck h_14 r0 8 <| am_ci (f_Rf_aboveAll d h_14 r0 i1) fun x_17 h_16 =>
          am_ck h_16 r0 8 <| am_ci (f_Rf_aboveAll d h_16 r0 i2) fun x_19 h_18 =>
          f_Rf_common_95 (d + 1) h_18 r0 (x_17 &&& x_19) 0 0
        else
        some (.inr (some (.int 0)), h_14)
      else
      am_ck h_3 r0 8 <| am_ci (f_Rf_bad d h_3 r0 0 2 2) fun x_21 h_20 =>
      if x_21 = 0 then
        am_ck h_20 r0 8 <| am_ci (f_Rf_aboveAll d h_20 r0 i1) fun x_23 h_22 =>
        am_ck h_22 r0 8 <| am_ci (f_Rf_aboveAll d h_22 r0 i2) fun x_25 h_24 =>
        f_Rf_common_95 (d + 1) h_24 r0 (x_23 &&& x_25) 0 0
      else
      some (.inr (some (.int 0)), h_20)
    else
    some (.inr (some (.int 0)), h_1)) := by
  refine (am_sem_seg (am_sm am_MT (d + 1)) m_Rf_common 37 27 [(0, .ref r0), (1, .int i1), (2, .int i2)] [.int s1, .ref s0] h).trans ?_
  rfl
set_option maxRecDepth 100000 in
theorem e_Rf_common_95 (d : Nat) (h : am_H) (r0 : Nat) (i3 : Int32) (i4 : Int32) (i5 : Int32) : f_Rf_common_95 (d + 1) h r0 i3 i4 i5 = (
    am_gi h r0 8 34 fun x_1 =>
    if x_1 ≤ i5 then
      some (.inr (some (.int i4)), h)
    else
    am_ci (f_Rf_has d h (Int32.toInt64 i3) i5) fun x_3 h_2 =>
    if x_3 = 0 then
      f_Rf_common_95 (d + 1) h_2 r0 i3 (i4 ||| 0) (i5 + 1)
    else
    am_gp h_2 r0 8 32 fun p_4 =>
    am_ar h_2 9 p_4 i5 fun j_5 =>
    if (i3 &&& (am_I h_2 p_4 j_5)) = 0 then
      f_Rf_common_95 (d + 1) h_2 r0 i3 (i4 ||| (am_ishl 1 i5)) (i5 + 1)
    else
    f_Rf_common_95 (d + 1) h_2 r0 i3 (i4 ||| 0) (i5 + 1)) := by
  refine (am_sem_seg (am_sm am_MT (d + 1)) m_Rf_common 25 95 [(0, .ref r0), (3, .int i3), (4, .int i4), (5, .int i5)] [] h).trans ?_
  rfl
set_option maxRecDepth 100000 in
theorem e_Rf_aboveAll (d : Nat) (h : am_H) (r0 : Nat) (i1 : Int32) : f_Rf_aboveAll d h r0 i1 = (
    am_gp h r0 8 27 fun p_1 =>
    am_ar h 9 p_1 i1 fun j_2 =>
    if 0 ≤ (am_I h p_1 j_2) then
      am_gp h r0 8 29 fun p_3 =>
      am_gp h r0 8 27 fun p_4 =>
      am_ar h 9 p_4 i1 fun j_5 =>
      am_ar h 9 p_3 (am_I h p_4 j_5) fun j_6 =>
      am_gp h r0 8 27 fun p_7 =>
      am_ar h 9 p_7 i1 fun j_8 =>
      some (.inr (some (.int ((am_I h p_3 j_6) ||| (am_ishl 1 (am_I h p_7 j_8))))), h)
    else
    some (.inr (some (.int 0)), h)) := by
  refine (am_sem_seg (am_sm am_MT d) m_Rf_aboveAll 20 0 [(0, .ref r0), (1, .int i1)] [] h).trans ?_
  rfl
set_option maxRecDepth 100000 in
theorem e_Rf_isSo (d : Nat) (h : am_H) (r0 : Nat) (l1 : Int64) (i3 : Int32) (i4 : Int32) : f_Rf_isSo (d + 1) h r0 l1 i3 i4 = (
    am_gp h r0 8 9 fun p_1 =>
    am_ck h r0 8 <| am_ci (f_Rf_goesAll d h r0 p_1 l1) fun x_3 h_2 =>
    am_ck h_2 r0 8 <| am_ci (f_Rf_namePart d h_2 r0 i3) fun x_5 h_4 =>
    am_ck h_4 r0 8 <| am_ci (f_Rf_namePart d h_4 r0 i4) fun x_7 h_6 =>
    am_ck h_6 r0 8 <| am_ci (f_Rf_isBelow d h_6 r0 x_5 x_7) fun x_9 h_8 =>
    am_01 x_9 (some (.inr (some (.int x_9)), h_8))) := by
  refine (am_sem_seg (am_sm am_MT (d + 1)) m_Rf_isSo 15 0 [(0, .ref r0), (1, .long l1), (3, .int i3), (4, .int i4)] [] h).trans ?_
  rfl
set_option maxRecDepth 100000 in
theorem e_Rf_needed (d : Nat) (h : am_H) (r0 : Nat) (i1 : Int32) (i2 : Int32) : f_Rf_needed (d + 1) h r0 i1 i2 = (
    am_ck h r0 8 <|
    am_ck (am_sI h r0 0 0) r0 8 <| am_ci (f_Rf_isName d (am_sI h r0 0 0) r0 i1) fun x_2 h_1 =>
    if x_2 = 0 then
      am_ck h_1 r0 8 <| am_ci (f_Rf_bad d h_1 r0 1 1 0) fun x_4 h_3 =>
      if x_4 = 0 then
        am_gl h_3 r0 8 11 fun y_5 =>
        am_ck h_3 r0 8 <| am_ci (f_Rf_isSo d h_3 r0 y_5 i1 i2) fun x_7 h_6 =>
        if x_7 = 0 then
          some (.inr (some (.long 0)), h_6)
        else
        f_Rf_needed_57 (d + 1) h_6 r0 i1 i2 0 0
      else
      some (.inr (some (.long 0)), h_3)
    else
    am_ck h_1 r0 8 <| am_ci (f_Rf_isName d h_1 r0 i2) fun x_9 h_8 =>
    if x_9 = 0 then
      am_ck h_8 r0 8 <| am_ci (f_Rf_bad d h_8 r0 1 1 0) fun x_11 h_10 =>
      if x_11 = 0 then
        am_gl h_10 r0 8 11 fun y_12 =>
        am_ck h_10 r0 8 <| am_ci (f_Rf_isSo d h_10 r0 y_12 i1 i2) fun x_14 h_13 =>
        if x_14 = 0 then
          some (.inr (some (.long 0)), h_13)
        else
        f_Rf_needed_57 (d + 1) h_13 r0 i1 i2 0 0
      else
      some (.inr (some (.long 0)), h_10)
    else
    am_ck h_8 r0 8 <| am_ci (f_Rf_bad d h_8 r0 0 1 0) fun x_16 h_15 =>
    if x_16 = 0 then
      am_gl h_15 r0 8 11 fun y_17 =>
      am_ck h_15 r0 8 <| am_ci (f_Rf_isSo d h_15 r0 y_17 i1 i2) fun x_19 h_18 =>
      if x_19 = 0 then
        some (.inr (some (.long 0)), h_18)
      else
      f_Rf_needed_57 (d + 1) h_18 r0 i1 i2 0 0
    else
    some (.inr (some (.long 0)), h_15)) := by
  refine (am_sem_seg (am_sm am_MT (d + 1)) m_Rf_needed 29 0 [(0, .ref r0), (1, .int i1), (2, .int i2)] [] h).trans ?_
  rfl
set_option maxRecDepth 100000 in
theorem e_Rf_needed_57 (d : Nat) (h : am_H) (r0 : Nat) (i1 : Int32) (i2 : Int32) (l3 : Int64) (i5 : Int32) : f_Rf_needed_57 (d + 1) h r0 i1 i2 l3 i5 = (
    am_gp h r0 8 9 fun p_1 =>
    am_ar h 9 p_1 3 fun j_2 =>
    if (am_I h p_1 j_2) ≤ i5 then
      some (.inr (some (.long l3)), h)
    else
    am_gl h r0 8 11 fun y_3 =>
    am_ci (f_Rf_has d h y_3 i5) fun x_5 h_4 =>
    if x_5 = 0 then
      f_Rf_needed_57 (d + 1) h_4 r0 i1 i2 l3 (i5 + 1)
    else
    am_gl h_4 r0 8 11 fun y_6 =>
    am_ck h_4 r0 8 <| am_ci (f_Rf_isSo d h_4 r0 (y_6 &&& ((am_lshl 1 i5) ^^^ (-1))) i1 i2) fun x_8 h_7 =>
    if x_8 = 0 then
      f_Rf_needed_57 (d + 1) h_7 r0 i1 i2 (l3 ||| (am_lshl 1 i5)) (i5 + 1)
    else
    f_Rf_needed_57 (d + 1) h_7 r0 i1 i2 l3 (i5 + 1)) := by
  refine (am_sem_seg (am_sm am_MT (d + 1)) m_Rf_needed 32 57 [(0, .ref r0), (1, .int i1), (2, .int i2), (3, .long l3), (5, .int i5)] [] h).trans ?_
  rfl
set_option maxRecDepth 100000 in
theorem e_Rf_leaves (d : Nat) (h : am_H) (r0 : Nat) (l1 : Int64) (i3 : Int32) (i4 : Int32) : f_Rf_leaves d h r0 l1 i3 i4 = (
    f_Rf_leaves_6 d h r0 i3 i4 l1 0) := by
  refine (am_sem_seg (am_sm am_MT d) m_Rf_leaves 4 0 [(0, .ref r0), (1, .long l1), (3, .int i3), (4, .int i4)] [] h).trans ?_
  rfl
set_option maxRecDepth 100000 in
theorem e_Rf_leaves_6 (d : Nat) (h : am_H) (r0 : Nat) (i3 : Int32) (i4 : Int32) (l5 : Int64) (i7 : Int32) : f_Rf_leaves_6 (d + 1) h r0 i3 i4 l5 i7 = (
    am_gp h r0 8 9 fun p_1 =>
    am_ar h 9 p_1 3 fun j_2 =>
    if (am_I h p_1 j_2) ≤ i7 then
      some (.inr (some (.long l5)), h)
    else
    am_ci (f_Rf_has d h l5 i7) fun x_4 h_3 =>
    if x_4 = 0 then
      f_Rf_leaves_6 (d + 1) h_3 r0 i3 i4 l5 (i7 + 1)
    else
    am_ck h_3 r0 8 <| am_ci (f_Rf_isSo d h_3 r0 (l5 &&& ((am_lshl 1 i7) ^^^ (-1))) i3 i4) fun x_6 h_5 =>
    if x_6 = 0 then
      f_Rf_leaves_6 (d + 1) h_5 r0 i3 i4 l5 (i7 + 1)
    else
    f_Rf_leaves_6 (d + 1) h_5 r0 i3 i4 (l5 &&& ((am_lshl 1 i7) ^^^ (-1))) (i7 + 1)) := by
  refine (am_sem_seg (am_sm am_MT (d + 1)) m_Rf_leaves 32 6 [(0, .ref r0), (3, .int i3), (4, .int i4), (5, .long l5), (7, .int i7)] [] h).trans ?_
  rfl
set_option maxRecDepth 100000 in
theorem e_Rf_enough (d : Nat) (h : am_H) (r0 : Nat) (i1 : Int32) (i2 : Int32) : f_Rf_enough (d + 1) h r0 i1 i2 = (
    am_ck h r0 8 <|
    am_ck (am_sI h r0 0 0) r0 8 <| am_ci (f_Rf_isName d (am_sI h r0 0 0) r0 i1) fun x_2 h_1 =>
    if x_2 = 0 then
      f_Rf_enough_27 (d + 1) h_1 r0 i1 i2 r0 1
    else
    am_ck h_1 r0 8 <| am_ci (f_Rf_isName d h_1 r0 i2) fun x_4 h_3 =>
    if x_4 = 0 then
      f_Rf_enough_27 (d + 1) h_3 r0 i1 i2 r0 1
    else
    f_Rf_enough_27 (d + 1) h_3 r0 i1 i2 r0 0) := by
  refine (am_sem_seg (am_sm am_MT (d + 1)) m_Rf_enough 14 0 [(0, .ref r0), (1, .int i1), (2, .int i2)] [] h).trans ?_
  rfl
set_option maxRecDepth 100000 in
theorem e_Rf_enough_27 (d : Nat) (h : am_H) (r0 : Nat) (i1 : Int32) (i2 : Int32) (s0 : Nat) (s1 : Int32) : f_Rf_enough_27 (d + 1) h r0 i1 i2 s0 s1 = (
    am_ck h s0 8 <| am_ci (f_Rf_bad d h s0 s1 1 0) fun x_2 h_1 =>
    if x_2 = 0 then
      am_gl h_1 r0 8 11 fun y_3 =>
      am_ck h_1 r0 8 <| am_ci (f_Rf_isSo d h_1 r0 y_3 i1 i2) fun x_5 h_4 =>
      if x_5 = 0 then
        some (.inr (some (.long (-1))), h_4)
      else
      am_gl h_4 r0 8 11 fun y_6 =>
      am_ck h_4 r0 8 <| am_cl (f_Rf_leaves d h_4 r0 y_6 i1 i2) fun y_8 h_7 =>
      some (.inr (some (.long y_8)), h_7)
    else
    some (.inr (some (.long 0)), h_1)) := by
  refine (am_sem_seg (am_sm am_MT (d + 1)) m_Rf_enough 19 27 [(0, .ref r0), (1, .int i1), (2, .int i2)] [.int s1, .ref s0] h).trans ?_
  rfl
set_option maxRecDepth 100000 in
theorem e_Rf_reasonWithout (d : Nat) (h : am_H) (r0 : Nat) (l1 : Int64) (i3 : Int32) (i4 : Int32) : f_Rf_reasonWithout d h r0 l1 i3 i4 = (
    f_Rf_reasonWithout_3 d h r0 l1 i3 i4 0) := by
  refine (am_sem_seg (am_sm am_MT d) m_Rf_reasonWithout 2 0 [(0, .ref r0), (1, .long l1), (3, .int i3), (4, .int i4)] [] h).trans ?_
  rfl
set_option maxRecDepth 100000 in
theorem e_Rf_reasonWithout_3 (d : Nat) (h : am_H) (r0 : Nat) (l1 : Int64) (i3 : Int32) (i4 : Int32) (i5 : Int32) : f_Rf_reasonWithout_3 (d + 1) h r0 l1 i3 i4 i5 = (
    am_gi h r0 8 36 fun x_1 =>
    if x_1 ≤ i5 then
      am_gl h r0 8 11 fun y_2 =>
      am_ck h r0 8 <| am_ci (f_Rf_isSo d h r0 (y_2 &&& (l1 ^^^ (-1))) i3 i4) fun x_4 h_3 =>
      if x_4 = 0 then
        some (.inr (some (.int (-1))), h_3)
      else
      am_gp h_3 r0 8 35 fun p_5 =>
      am_gi h_3 r0 8 36 fun x_6 =>
      am_gl h_3 r0 8 11 fun y_7 =>
      am_ck h_3 r0 8 <| am_cl (f_Rf_leaves d h_3 r0 (y_7 &&& (l1 ^^^ (-1))) i3 i4) fun y_9 h_8 =>
      am_ar h_8 10 p_5 x_6 fun j_10 =>
      am_gi (am_sL h_8 p_5 j_10 y_9) r0 8 36 fun x_11 =>
      am_ck (am_sL h_8 p_5 j_10 y_9) r0 8 <|
      am_gi (am_sI (am_sL h_8 p_5 j_10 y_9) r0 36 (x_11 + 1)) r0 8 36 fun x_12 =>
      some (.inr (some (.int (x_12 - 1))), (am_sI (am_sL h_8 p_5 j_10 y_9) r0 36 (x_11 + 1)))
    else
    am_gp h r0 8 35 fun p_13 =>
    am_ar h 10 p_13 i5 fun j_14 =>
    if (lg_cmp ((am_L h p_13 j_14) &&& l1) 0) = 0 then
      some (.inr (some (.int i5)), h)
    else
    f_Rf_reasonWithout_3 (d + 1) h r0 l1 i3 i4 (i5 + 1)) := by
  refine (am_sem_seg (am_sm am_MT (d + 1)) m_Rf_reasonWithout 41 3 [(0, .ref r0), (1, .long l1), (3, .int i3), (4, .int i4), (5, .int i5)] [] h).trans ?_
  rfl
set_option maxRecDepth 100000 in
theorem e_Rf_finds (d : Nat) (h : am_H) (r0 : Nat) (l1 : Int64) (l3 : Int64) (i5 : Int32) (i6 : Int32) : f_Rf_finds (d + 1) h r0 l1 l3 i5 i6 = (
    am_gi h r0 8 36 fun x_1 =>
    if x_1 ≤ 4 then
      am_ck h r0 8 <| am_ci (f_Rf_reasonWithout d h r0 l1 i5 i6) fun x_3 h_2 =>
      if x_3 = (-1) then
        some (.inr none, h_2)
      else
      am_gi h_2 r0 8 36 fun x_4 =>
      if x_4 ≤ 4 then
        am_gp h_2 r0 8 35 fun p_5 =>
        am_ar h_2 10 p_5 x_3 fun j_6 =>
        f_Rf_finds_50 (d + 1) h_2 r0 l1 i5 i6 l3 (am_L h_2 p_5 j_6) 0
      else
      some (.inr none, h_2)
    else
    some (.inr none, h)) := by
  refine (am_sem_seg (am_sm am_MT (d + 1)) m_Rf_finds 26 0 [(0, .ref r0), (1, .long l1), (3, .long l3), (5, .int i5), (6, .int i6)] [] h).trans ?_
  rfl
set_option maxRecDepth 100000 in
theorem e_Rf_finds_50 (d : Nat) (h : am_H) (r0 : Nat) (l1 : Int64) (i5 : Int32) (i6 : Int32) (l8 : Int64) (l10 : Int64) (i12 : Int32) : f_Rf_finds_50 (d + 1) h r0 l1 i5 i6 l8 l10 i12 = (
    am_gp h r0 8 9 fun p_1 =>
    am_ar h 9 p_1 3 fun j_2 =>
    if (am_I h p_1 j_2) ≤ i12 then
      some (.inr none, h)
    else
    am_ci (f_Rf_has d h l10 i12) fun x_4 h_3 =>
    if x_4 = 0 then
      f_Rf_finds_50 (d + 1) h_3 r0 l1 i5 i6 l8 l10 (i12 + 1)
    else
    am_ci (f_Rf_has d h_3 l8 i12) fun x_6 h_5 =>
    if x_6 = 0 then
      am_ck h_5 r0 8 <| am_cv (f_Rf_finds d h_5 r0 (l1 ||| (am_lshl 1 i12)) l8 i5 i6) fun h_7 =>
      f_Rf_finds_50 (d + 1) h_7 r0 l1 i5 i6 (l8 ||| (am_lshl 1 i12)) l10 (i12 + 1)
    else
    f_Rf_finds_50 (d + 1) h_5 r0 l1 i5 i6 l8 l10 (i12 + 1)) := by
  refine (am_sem_seg (am_sm am_MT (d + 1)) m_Rf_finds 32 50 [(0, .ref r0), (1, .long l1), (5, .int i5), (6, .int i6), (8, .long l8), (10, .long l10), (12, .int i12)] [] h).trans ?_
  rfl
set_option maxRecDepth 100000 in
theorem e_Rf_laysReasons (d : Nat) (h : am_H) (r0 : Nat) (i1 : Int32) (i2 : Int32) : f_Rf_laysReasons (d + 1) h r0 i1 i2 = (
    am_ck h r0 8 <|
    am_ck (am_sI h r0 36 0) r0 8 <| am_cv (f_Rf_finds d (am_sI h r0 36 0) r0 0 0 i1 i2) fun h_1 =>
    f_Rf_laysReasons_15 (d + 1) h_1 r0 1) := by
  refine (am_sem_seg (am_sm am_MT (d + 1)) m_Rf_laysReasons 11 0 [(0, .ref r0), (1, .int i1), (2, .int i2)] [] h).trans ?_
  rfl
set_option maxRecDepth 100000 in
theorem e_Rf_laysReasons_15 (d : Nat) (h : am_H) (r0 : Nat) (i3 : Int32) : f_Rf_laysReasons_15 d h r0 i3 = (
    am_gi h r0 8 36 fun x_1 =>
    if x_1 ≤ i3 then
      am_gi h r0 8 36 fun x_2 =>
      if 4 < x_2 then
        am_01 0 (some (.inr (some (.int 0)), h))
      else
      am_01 1 (some (.inr (some (.int 1)), h))
    else
    f_Rf_laysReasons_26 d h r0 i3 i3) := by
  refine (am_sem_seg (am_sm am_MT d) m_Rf_laysReasons 11 15 [(0, .ref r0), (3, .int i3)] [] h).trans ?_
  rfl
set_option maxRecDepth 100000 in
theorem e_Rf_laysReasons_26 (d : Nat) (h : am_H) (r0 : Nat) (i3 : Int32) (i4 : Int32) : f_Rf_laysReasons_26 d h r0 i3 i4 = (
    if i4 ≤ 0 then
      f_Rf_laysReasons_15 d h r0 (i3 + 1)
    else
    am_gp h r0 8 35 fun p_1 =>
    am_ar h 10 p_1 i4 fun j_2 =>
    am_gp h r0 8 35 fun p_3 =>
    am_ar h 10 p_3 (i4 - 1) fun j_4 =>
    if 0 ≤ (lg_cmp (am_L h p_1 j_2) (am_L h p_3 j_4)) then
      f_Rf_laysReasons_15 d h r0 (i3 + 1)
    else
    am_gp h r0 8 35 fun p_5 =>
    am_ar h 10 p_5 i4 fun j_6 =>
    am_gp h r0 8 35 fun p_7 =>
    am_gp h r0 8 35 fun p_8 =>
    am_ar h 10 p_8 (i4 - 1) fun j_9 =>
    am_ar h 10 p_7 i4 fun j_10 =>
    am_gp (am_sL h p_7 j_10 (am_L h p_8 j_9)) r0 8 35 fun p_11 =>
    am_ar (am_sL h p_7 j_10 (am_L h p_8 j_9)) 10 p_11 (i4 - 1) fun j_12 =>
    f_Rf_laysReasons_26 d (am_sL (am_sL h p_7 j_10 (am_L h p_8 j_9)) p_11 j_12 (am_L h p_5 j_6)) r0 i3 (i4 + (-1))) := by
  refine (am_sem_seg (am_sm am_MT d) m_Rf_laysReasons 38 26 [(0, .ref r0), (3, .int i3), (4, .int i4)] [] h).trans ?_
  rfl
set_option maxRecDepth 100000 in
theorem e_Rf_reason (d : Nat) (h : am_H) (r0 : Nat) (i1 : Int32) (i2 : Int32) (i3 : Int32) : f_Rf_reason (d + 1) h r0 i1 i2 i3 = (
    am_ck h r0 8 <|
    am_ck (am_sI h r0 0 0) r0 8 <| am_ci (f_Rf_isName d (am_sI h r0 0 0) r0 i1) fun x_2 h_1 =>
    if x_2 = 0 then
      f_Rf_reason_27 (d + 1) h_1 r0 i1 i2 i3 r0 1
    else
    am_ck h_1 r0 8 <| am_ci (f_Rf_isName d h_1 r0 i2) fun x_4 h_3 =>
    if x_4 = 0 then
      f_Rf_reason_27 (d + 1) h_3 r0 i1 i2 i3 r0 1
    else
    f_Rf_reason_27 (d + 1) h_3 r0 i1 i2 i3 r0 0) := by
  refine (am_sem_seg (am_sm am_MT (d + 1)) m_Rf_reason 14 0 [(0, .ref r0), (1, .int i1), (2, .int i2), (3, .int i3)] [] h).trans ?_
  rfl
set_option maxRecDepth 100000 in
theorem e_Rf_reason_27 (d : Nat) (h : am_H) (r0 : Nat) (i1 : Int32) (i2 : Int32) (i3 : Int32) (s0 : Nat) (s1 : Int32) : f_Rf_reason_27 (d + 1) h r0 i1 i2 i3 s0 s1 = (
    am_ck h s0 8 <| am_ci (f_Rf_bad d h s0 s1 1 0) fun x_2 h_1 =>
    if x_2 = 0 then
      if (-1) ≤ i3 then
        am_ck h_1 r0 8 <| am_ci (f_Rf_laysReasons d h_1 r0 i1 i2) fun x_4 h_3 =>
        if x_4 = 0 then
          if i3 = (-1) then
            some (.inr (some (.long (-3))), h_3)
          else
          some (.inr (some (.long (-1))), h_3)
        else
        if i3 = (-1) then
          am_gi h_3 r0 8 36 fun x_5 =>
          some (.inr (some (.long (Int32.toInt64 x_5))), h_3)
        else
        am_gi h_3 r0 8 36 fun x_6 =>
        if x_6 ≤ i3 then
          some (.inr (some (.long (-1))), h_3)
        else
        am_gp h_3 r0 8 35 fun p_7 =>
        am_ar h_3 10 p_7 i3 fun j_8 =>
        some (.inr (some (.long (am_L h_3 p_7 j_8))), h_3)
      else
      some (.inr (some (.long (-1))), h_1)
    else
    some (.inr (some (.long 0)), h_1)) := by
  refine (am_sem_seg (am_sm am_MT (d + 1)) m_Rf_reason 25 27 [(0, .ref r0), (1, .int i1), (2, .int i2), (3, .int i3)] [.int s1, .ref s0] h).trans ?_
  rfl
set_option maxRecDepth 100000 in
theorem e_Rf_repairs (d : Nat) (h : am_H) (r0 : Nat) (l1 : Int64) (i3 : Int32) : f_Rf_repairs d h r0 l1 i3 = (
    f_Rf_repairs_3 d h r0 l1 i3 0) := by
  refine (am_sem_seg (am_sm am_MT d) m_Rf_repairs 2 0 [(0, .ref r0), (1, .long l1), (3, .int i3)] [] h).trans ?_
  rfl
set_option maxRecDepth 100000 in
theorem e_Rf_repairs_3 (d : Nat) (h : am_H) (r0 : Nat) (l1 : Int64) (i3 : Int32) (i4 : Int32) : f_Rf_repairs_3 d h r0 l1 i3 i4 = (
    am_gi h r0 8 36 fun x_1 =>
    if x_1 ≤ i4 then
      am_gi h r0 8 36 fun x_2 =>
      if i4 = x_2 then
        am_gl h r0 8 37 fun y_3 =>
        if (lg_cmp y_3 (-1)) = 0 then
          am_ck h r0 8 <|
          some (.inr none, (am_sL h r0 37 l1))
        else
        am_gl h r0 8 37 fun y_4 =>
        if 0 ≤ (lg_cmp l1 y_4) then
          some (.inr none, h)
        else
        am_ck h r0 8 <|
        some (.inr none, (am_sL h r0 37 l1))
      else
      if i3 = 0 then
        some (.inr none, h)
      else
      f_Rf_repairs_75 d h r0 l1 i3 i4 0
    else
    am_gp h r0 8 35 fun p_5 =>
    am_ar h 10 p_5 i4 fun j_6 =>
    if (lg_cmp ((am_L h p_5 j_6) &&& l1) 0) = 0 then
      am_gi h r0 8 36 fun x_7 =>
      if i4 = x_7 then
        am_gl h r0 8 37 fun y_8 =>
        if (lg_cmp y_8 (-1)) = 0 then
          am_ck h r0 8 <|
          some (.inr none, (am_sL h r0 37 l1))
        else
        am_gl h r0 8 37 fun y_9 =>
        if 0 ≤ (lg_cmp l1 y_9) then
          some (.inr none, h)
        else
        am_ck h r0 8 <|
        some (.inr none, (am_sL h r0 37 l1))
      else
      if i3 = 0 then
        some (.inr none, h)
      else
      f_Rf_repairs_75 d h r0 l1 i3 i4 0
    else
    f_Rf_repairs_3 d h r0 l1 i3 (i4 + 1)) := by
  refine (am_sem_seg (am_sm am_MT d) m_Rf_repairs 31 3 [(0, .ref r0), (1, .long l1), (3, .int i3), (4, .int i4)] [] h).trans ?_
  rfl
set_option maxRecDepth 100000 in
theorem e_Rf_repairs_75 (d : Nat) (h : am_H) (r0 : Nat) (l1 : Int64) (i3 : Int32) (i4 : Int32) (i5 : Int32) : f_Rf_repairs_75 (d + 1) h r0 l1 i3 i4 i5 = (
    am_gp h r0 8 9 fun p_1 =>
    am_ar h 9 p_1 3 fun j_2 =>
    if (am_I h p_1 j_2) ≤ i5 then
      some (.inr none, h)
    else
    am_gp h r0 8 35 fun p_3 =>
    am_ar h 10 p_3 i4 fun j_4 =>
    am_ci (f_Rf_has d h (am_L h p_3 j_4) i5) fun x_6 h_5 =>
    if x_6 = 0 then
      f_Rf_repairs_75 (d + 1) h_5 r0 l1 i3 i4 (i5 + 1)
    else
    am_ck h_5 r0 8 <| am_cv (f_Rf_repairs d h_5 r0 (l1 ||| (am_lshl 1 i5)) (i3 - 1)) fun h_7 =>
    f_Rf_repairs_75 (d + 1) h_7 r0 l1 i3 i4 (i5 + 1)) := by
  refine (am_sem_seg (am_sm am_MT (d + 1)) m_Rf_repairs 25 75 [(0, .ref r0), (1, .long l1), (3, .int i3), (4, .int i4), (5, .int i5)] [] h).trans ?_
  rfl
set_option maxRecDepth 100000 in
theorem e_Rf_repair (d : Nat) (h : am_H) (r0 : Nat) (i1 : Int32) (i2 : Int32) : f_Rf_repair (d + 1) h r0 i1 i2 = (
    am_ck h r0 8 <|
    am_ck (am_sI h r0 0 0) r0 8 <| am_ci (f_Rf_isName d (am_sI h r0 0 0) r0 i1) fun x_2 h_1 =>
    if x_2 = 0 then
      f_Rf_repair_27 (d + 1) h_1 r0 i1 i2 r0 1
    else
    am_ck h_1 r0 8 <| am_ci (f_Rf_isName d h_1 r0 i2) fun x_4 h_3 =>
    if x_4 = 0 then
      f_Rf_repair_27 (d + 1) h_3 r0 i1 i2 r0 1
    else
    f_Rf_repair_27 (d + 1) h_3 r0 i1 i2 r0 0) := by
  refine (am_sem_seg (am_sm am_MT (d + 1)) m_Rf_repair 14 0 [(0, .ref r0), (1, .int i1), (2, .int i2)] [] h).trans ?_
  rfl
set_option maxRecDepth 100000 in
theorem e_Rf_repair_27 (d : Nat) (h : am_H) (r0 : Nat) (i1 : Int32) (i2 : Int32) (s0 : Nat) (s1 : Int32) : f_Rf_repair_27 (d + 1) h r0 i1 i2 s0 s1 = (
    am_ck h s0 8 <| am_ci (f_Rf_bad d h s0 s1 1 0) fun x_2 h_1 =>
    if x_2 = 0 then
      am_gl h_1 r0 8 11 fun y_3 =>
      am_ck h_1 r0 8 <| am_ci (f_Rf_isSo d h_1 r0 y_3 i1 i2) fun x_5 h_4 =>
      if x_5 = 0 then
        some (.inr (some (.long (-1))), h_4)
      else
      am_ck h_4 r0 8 <| am_ci (f_Rf_isSo d h_4 r0 0 i1 i2) fun x_7 h_6 =>
      if x_7 = 0 then
        am_ck h_6 r0 8 <| am_ci (f_Rf_laysReasons d h_6 r0 i1 i2) fun x_9 h_8 =>
        if x_9 = 0 then
          some (.inr (some (.long (-3))), h_8)
        else
        am_ck h_8 r0 8 <|
        f_Rf_repair_90 (d + 1) (am_sL h_8 r0 37 (-1)) r0 1
      else
      some (.inr (some (.long (-2))), h_6)
    else
    some (.inr (some (.long 0)), h_1)) := by
  refine (am_sem_seg (am_sm am_MT (d + 1)) m_Rf_repair 27 27 [(0, .ref r0), (1, .int i1), (2, .int i2)] [.int s1, .ref s0] h).trans ?_
  rfl
set_option maxRecDepth 100000 in
theorem e_Rf_repair_90 (d : Nat) (h : am_H) (r0 : Nat) (i3 : Int32) : f_Rf_repair_90 (d + 1) h r0 i3 = (
    am_gl h r0 8 37 fun y_1 =>
    if (lg_cmp y_1 (-1)) = 0 then
      am_ck h r0 8 <| am_cv (f_Rf_repairs d h r0 0 i3) fun h_2 =>
      f_Rf_repair_90 (d + 1) h_2 r0 (i3 + 1)
    else
    am_gl h r0 8 37 fun y_3 =>
    some (.inr (some (.long y_3)), h)) := by
  refine (am_sem_seg (am_sm am_MT (d + 1)) m_Rf_repair 11 90 [(0, .ref r0), (3, .int i3)] [] h).trans ?_
  rfl
set_option maxRecDepth 100000 in
theorem e_Rf_divisor (d : Nat) (h : am_H) (i0 : Int32) (i1 : Int32) : f_Rf_divisor d h i0 i1 = (
    f_Rf_divisor_4 d h i0 i1) := by
  refine (am_sem_seg (am_sm am_MT d) m_Rf_divisor 4 0 [(0, .int i0), (1, .int i1)] [] h).trans ?_
  rfl
set_option maxRecDepth 100000 in
theorem e_Rf_divisor_4 (d : Nat) (h : am_H) (i2 : Int32) (i3 : Int32) : f_Rf_divisor_4 d h i2 i3 = (
    if i3 = 0 then
      some (.inr (some (.int i2)), h)
    else
    if i3 = 0 then none else
    f_Rf_divisor_4 d h i3 (am_irem i2 i3)) := by
  refine (am_sem_seg (am_sm am_MT d) m_Rf_divisor 11 4 [(2, .int i2), (3, .int i3)] [] h).trans ?_
  rfl
set_option maxRecDepth 100000 in
theorem e_Rf_likeness (d : Nat) (h : am_H) (r0 : Nat) (i1 : Int32) (i2 : Int32) (i3 : Int32) : f_Rf_likeness (d + 1) h r0 i1 i2 i3 = (
    am_ck h r0 8 <|
    am_ck (am_sI h r0 0 0) r0 8 <| am_ci (f_Rf_isName d (am_sI h r0 0 0) r0 i1) fun x_2 h_1 =>
    if x_2 = 0 then
      f_Rf_likeness_27 (d + 1) h_1 r0 i1 i2 i3 r0 1
    else
    am_ck h_1 r0 8 <| am_ci (f_Rf_isName d h_1 r0 i2) fun x_4 h_3 =>
    if x_4 = 0 then
      f_Rf_likeness_27 (d + 1) h_3 r0 i1 i2 i3 r0 1
    else
    f_Rf_likeness_27 (d + 1) h_3 r0 i1 i2 i3 r0 0) := by
  refine (am_sem_seg (am_sm am_MT (d + 1)) m_Rf_likeness 14 0 [(0, .ref r0), (1, .int i1), (2, .int i2), (3, .int i3)] [] h).trans ?_
  rfl
set_option maxRecDepth 100000 in
theorem e_Rf_likeness_27 (d : Nat) (h : am_H) (r0 : Nat) (i1 : Int32) (i2 : Int32) (i3 : Int32) (s0 : Nat) (s1 : Int32) : f_Rf_likeness_27 (d + 1) h r0 i1 i2 i3 s0 s1 = (
    am_ck h s0 8 <| am_ci (f_Rf_bad d h s0 s1 1 0) fun x_2 h_1 =>
    if x_2 = 0 then
      am_ci (f_Rf_in d h_1 i3 0 1) fun x_4 h_3 =>
      if x_4 = 0 then
        am_ck h_3 r0 8 <| am_ci (f_Rf_bad d h_3 r0 1 2 1) fun x_6 h_5 =>
        if x_6 = 0 then
          am_ck h_5 r0 8 <| am_cv (f_Rf_classifies d h_5 r0) fun h_7 =>
          f_Rf_likeness_73 (d + 1) h_7 r0 i1 i2 i3 0 0 0
        else
        some (.inr (some (.int 0)), h_5)
      else
      am_ck h_3 r0 8 <| am_ci (f_Rf_bad d h_3 r0 0 2 1) fun x_9 h_8 =>
      if x_9 = 0 then
        am_ck h_8 r0 8 <| am_cv (f_Rf_classifies d h_8 r0) fun h_10 =>
        f_Rf_likeness_73 (d + 1) h_10 r0 i1 i2 i3 0 0 0
      else
      some (.inr (some (.int 0)), h_8)
    else
    some (.inr (some (.int 0)), h_1)) := by
  refine (am_sem_seg (am_sm am_MT (d + 1)) m_Rf_likeness 24 27 [(0, .ref r0), (1, .int i1), (2, .int i2), (3, .int i3)] [.int s1, .ref s0] h).trans ?_
  rfl
set_option maxRecDepth 100000 in
theorem e_Rf_likeness_73 (d : Nat) (h : am_H) (r0 : Nat) (i1 : Int32) (i2 : Int32) (i3 : Int32) (i4 : Int32) (i5 : Int32) (i6 : Int32) : f_Rf_likeness_73 (d + 1) h r0 i1 i2 i3 i4 i5 i6 = (
    am_gp h r0 8 9 fun p_1 =>
    am_ar h 9 p_1 0 fun j_2 =>
    if (am_I h p_1 j_2) ≤ i6 then
      am_ci (f_Rf_divisor d h i4 i5) fun x_4 h_3 =>
      if i3 = 0 then
        if x_4 = 0 then none else
        some (.inr (some (.int (i4 / x_4))), h_3)
      else
      if x_4 = 0 then none else
      some (.inr (some (.int (i5 / x_4))), h_3)
    else
    am_ck h r0 8 <| am_ci (f_Rf_namePart d h r0 i1) fun x_6 h_5 =>
    am_ck h_5 r0 8 <| am_ci (f_Rf_namePart d h_5 r0 i6) fun x_8 h_7 =>
    am_ck h_7 r0 8 <| am_ci (f_Rf_isBelow d h_7 r0 x_6 x_8) fun x_10 h_9 =>
    am_ck h_9 r0 8 <| am_ci (f_Rf_namePart d h_9 r0 i2) fun x_12 h_11 =>
    am_ck h_11 r0 8 <| am_ci (f_Rf_namePart d h_11 r0 i6) fun x_14 h_13 =>
    am_ck h_13 r0 8 <| am_ci (f_Rf_isBelow d h_13 r0 x_12 x_14) fun x_16 h_15 =>
    if x_10 = 0 then
      f_Rf_likeness_135 (d + 1) h_15 r0 i1 i2 i3 i5 i6 x_10 x_16 i4 0
    else
    if x_16 = 0 then
      f_Rf_likeness_135 (d + 1) h_15 r0 i1 i2 i3 i5 i6 x_10 x_16 i4 0
    else
    f_Rf_likeness_135 (d + 1) h_15 r0 i1 i2 i3 i5 i6 x_10 x_16 i4 1) := by
  refine (am_sem_seg (am_sm am_MT (d + 1)) m_Rf_likeness 31 73 [(0, .ref r0), (1, .int i1), (2, .int i2), (3, .int i3), (4, .int i4), (5, .int i5), (6, .int i6)] [] h).trans ?_
  rfl
set_option maxRecDepth 100000 in
theorem e_Rf_likeness_135 (d : Nat) (h : am_H) (r0 : Nat) (i1 : Int32) (i2 : Int32) (i3 : Int32) (i5 : Int32) (i6 : Int32) (i7 : Int32) (i8 : Int32) (s0 : Int32) (s1 : Int32) : f_Rf_likeness_135 d h r0 i1 i2 i3 i5 i6 i7 i8 s0 s1 = (
    if i7 = 0 then
      if i8 = 0 then
        f_Rf_likeness_73 d h r0 i1 i2 i3 (s0 + s1) (i5 + 0) (i6 + 1)
      else
      f_Rf_likeness_73 d h r0 i1 i2 i3 (s0 + s1) (i5 + 1) (i6 + 1)
    else
    f_Rf_likeness_73 d h r0 i1 i2 i3 (s0 + s1) (i5 + 1) (i6 + 1)) := by
  refine (am_sem_seg (am_sm am_MT d) m_Rf_likeness 13 135 [(0, .ref r0), (1, .int i1), (2, .int i2), (3, .int i3), (5, .int i5), (6, .int i6), (7, .int i7), (8, .int i8)] [.int s1, .int s0] h).trans ?_
  rfl
set_option maxRecDepth 100000 in
theorem e_Rf_laysSigns (d : Nat) (h : am_H) (r0 : Nat) : f_Rf_laysSigns d h r0 = (
    f_Rf_laysSigns_2 d h r0 0) := by
  refine (am_sem_seg (am_sm am_MT d) m_Rf_laysSigns 2 0 [(0, .ref r0)] [] h).trans ?_
  rfl
set_option maxRecDepth 100000 in
theorem e_Rf_laysSigns_2 (d : Nat) (h : am_H) (r0 : Nat) (i1 : Int32) : f_Rf_laysSigns_2 (d + 1) h r0 i1 = (
    am_gp h r0 8 9 fun p_1 =>
    am_ar h 9 p_1 2 fun j_2 =>
    if (am_I h p_1 j_2) ≤ i1 then
      some (.inr none, h)
    else
    am_gp h r0 8 9 fun p_3 =>
    am_ci (f_Rf_kindOf d h p_3 i1) fun x_5 h_4 =>
    am_gp h_4 r0 8 9 fun p_6 =>
    am_ci (f_Rf_oneOf d h_4 p_6 i1) fun x_8 h_7 =>
    am_gp h_7 r0 8 9 fun p_9 =>
    am_ci (f_Rf_otherOf d h_7 p_9 i1) fun x_11 h_10 =>
    am_gp h_10 r0 8 40 fun p_12 =>
    if x_5 = 0 then
      f_Rf_laysSigns_93 (d + 1) h_10 r0 i1 x_5 x_8 x_11 p_12 i1 (am_ishl 1 x_8)
    else
    if x_5 = 3 then
      am_gp h_10 r0 8 40 fun p_13 =>
      am_ar h_10 9 p_13 x_8 fun j_14 =>
      am_gp h_10 r0 8 40 fun p_15 =>
      am_ar h_10 9 p_15 x_11 fun j_16 =>
      f_Rf_laysSigns_93 (d + 1) h_10 r0 i1 x_5 x_8 x_11 p_12 i1 ((am_I h_10 p_13 j_14) ||| (am_I h_10 p_15 j_16))
    else
    if x_5 = 4 then
      am_gp h_10 r0 8 40 fun p_17 =>
      am_ar h_10 9 p_17 x_11 fun j_18 =>
      f_Rf_laysSigns_93 (d + 1) h_10 r0 i1 x_5 x_8 x_11 p_12 i1 (am_I h_10 p_17 j_18)
    else
    f_Rf_laysSigns_93 (d + 1) h_10 r0 i1 x_5 x_8 x_11 p_12 i1 0) := by
  refine (am_sem_seg (am_sm am_MT (d + 1)) m_Rf_laysSigns 39 2 [(0, .ref r0), (1, .int i1)] [] h).trans ?_
  rfl
set_option maxRecDepth 100000 in
theorem e_Rf_laysSigns_93 (d : Nat) (h : am_H) (r0 : Nat) (i1 : Int32) (i2 : Int32) (i3 : Int32) (i4 : Int32) (s0 : Nat) (s1 : Int32) (s2 : Int32) : f_Rf_laysSigns_93 d h r0 i1 i2 i3 i4 s0 s1 s2 = (
    am_ar h 9 s0 s1 fun j_1 =>
    am_gp (am_sI h s0 j_1 s2) r0 8 41 fun p_2 =>
    if i2 = 3 then
      am_gp (am_sI h s0 j_1 s2) r0 8 41 fun p_3 =>
      am_ar (am_sI h s0 j_1 s2) 9 p_3 i3 fun j_4 =>
      am_gp (am_sI h s0 j_1 s2) r0 8 41 fun p_5 =>
      am_ar (am_sI h s0 j_1 s2) 9 p_5 i4 fun j_6 =>
      am_ar (am_sI h s0 j_1 s2) 9 p_2 i1 fun j_7 =>
      f_Rf_laysSigns_2 d (am_sI (am_sI h s0 j_1 s2) p_2 j_7 ((am_I (am_sI h s0 j_1 s2) p_3 j_4) ||| (am_I (am_sI h s0 j_1 s2) p_5 j_6))) r0 (i1 + 1)
    else
    if i2 = 4 then
      am_gp (am_sI h s0 j_1 s2) r0 8 41 fun p_8 =>
      am_ar (am_sI h s0 j_1 s2) 9 p_8 i4 fun j_9 =>
      am_ar (am_sI h s0 j_1 s2) 9 p_2 i1 fun j_10 =>
      f_Rf_laysSigns_2 d (am_sI (am_sI h s0 j_1 s2) p_2 j_10 ((am_ishl 1 i3) ||| (am_I (am_sI h s0 j_1 s2) p_8 j_9))) r0 (i1 + 1)
    else
    am_ar (am_sI h s0 j_1 s2) 9 p_2 i1 fun j_11 =>
    f_Rf_laysSigns_2 d (am_sI (am_sI h s0 j_1 s2) p_2 j_11 0) r0 (i1 + 1)) := by
  refine (am_sem_seg (am_sm am_MT d) m_Rf_laysSigns 22 93 [(0, .ref r0), (1, .int i1), (2, .int i2), (3, .int i3), (4, .int i4)] [.int s2, .int s1, .ref s0] h).trans ?_
  rfl
set_option maxRecDepth 100000 in
theorem e_Rf_namesIn (d : Nat) (h : am_H) (r0 : Nat) (i1 : Int32) : f_Rf_namesIn (d + 1) h r0 i1 = (
    am_gp h r0 8 9 fun p_1 =>
    am_ci (f_Rf_axiomOf d h p_1 i1 0) fun x_3 h_2 =>
    if x_3 ≤ 1 then
      am_gp h_2 r0 8 40 fun p_4 =>
      am_gp h_2 r0 8 9 fun p_5 =>
      am_ci (f_Rf_axiomOf d h_2 p_5 i1 1) fun x_7 h_6 =>
      am_ar h_6 9 p_4 x_7 fun j_8 =>
      am_gp h_6 r0 8 40 fun p_9 =>
      am_gp h_6 r0 8 9 fun p_10 =>
      am_ci (f_Rf_axiomOf d h_6 p_10 i1 2) fun x_12 h_11 =>
      am_ar h_11 9 p_9 x_12 fun j_13 =>
      some (.inr (some (.int ((am_I h_6 p_4 j_8) ||| (am_I h_11 p_9 j_13)))), h_11)
    else
    some (.inr (some (.int 0)), h_2)) := by
  refine (am_sem_seg (am_sm am_MT (d + 1)) m_Rf_namesIn 25 0 [(0, .ref r0), (1, .int i1)] [] h).trans ?_
  rfl
set_option maxRecDepth 100000 in
theorem e_Rf_rolesIn (d : Nat) (h : am_H) (r0 : Nat) (i1 : Int32) : f_Rf_rolesIn (d + 1) h r0 i1 = (
    am_gp h r0 8 9 fun p_1 =>
    am_ci (f_Rf_axiomOf d h p_1 i1 0) fun x_3 h_2 =>
    if 1 < x_3 then
      am_gp h_2 r0 8 9 fun p_4 =>
      am_ci (f_Rf_axiomOf d h_2 p_4 i1 1) fun x_6 h_5 =>
      am_gp h_5 r0 8 9 fun p_7 =>
      am_ci (f_Rf_axiomOf d h_5 p_7 i1 2) fun x_9 h_8 =>
      if x_3 = 3 then
        am_gp h_8 r0 8 9 fun p_10 =>
        am_ci (f_Rf_axiomOf d h_8 p_10 i1 3) fun x_12 h_11 =>
        some (.inr (some (.int (((am_ishl 1 x_6) ||| (am_ishl 1 x_9)) ||| (am_ishl 1 x_12)))), h_11)
      else
      some (.inr (some (.int (((am_ishl 1 x_6) ||| (am_ishl 1 x_9)) ||| 0))), h_8)
    else
    am_gp h_2 r0 8 41 fun p_13 =>
    am_gp h_2 r0 8 9 fun p_14 =>
    am_ci (f_Rf_axiomOf d h_2 p_14 i1 1) fun x_16 h_15 =>
    am_ar h_15 9 p_13 x_16 fun j_17 =>
    am_gp h_15 r0 8 41 fun p_18 =>
    am_gp h_15 r0 8 9 fun p_19 =>
    am_ci (f_Rf_axiomOf d h_15 p_19 i1 2) fun x_21 h_20 =>
    am_ar h_20 9 p_18 x_21 fun j_22 =>
    some (.inr (some (.int ((am_I h_15 p_13 j_17) ||| (am_I h_20 p_18 j_22)))), h_20)) := by
  refine (am_sem_seg (am_sm am_MT (d + 1)) m_Rf_rolesIn 37 0 [(0, .ref r0), (1, .int i1)] [] h).trans ?_
  rfl
set_option maxRecDepth 100000 in
theorem e_Rf_laysLost (d : Nat) (h : am_H) (r0 : Nat) (i1 : Int32) (i2 : Int32) (i3 : Int32) : f_Rf_laysLost d h r0 i1 i2 i3 = (
    f_Rf_laysLost_3 d h r0 i1 i2 i3 0) := by
  refine (am_sem_seg (am_sm am_MT d) m_Rf_laysLost 2 0 [(0, .ref r0), (1, .int i1), (2, .int i2), (3, .int i3)] [] h).trans ?_
  rfl
set_option maxRecDepth 100000 in
theorem e_Rf_laysLost_3 (d : Nat) (h : am_H) (r0 : Nat) (i1 : Int32) (i2 : Int32) (i3 : Int32) (i4 : Int32) : f_Rf_laysLost_3 (d + 1) h r0 i1 i2 i3 i4 = (
    am_gp h r0 8 9 fun p_1 =>
    am_ar h 9 p_1 2 fun j_2 =>
    if (am_I h p_1 j_2) ≤ i4 then
      some (.inr none, h)
    else
    am_gp h r0 8 9 fun p_3 =>
    am_ci (f_Rf_kindOf d h p_3 i4) fun x_5 h_4 =>
    am_gp h_4 r0 8 9 fun p_6 =>
    am_ci (f_Rf_oneOf d h_4 p_6 i4) fun x_8 h_7 =>
    am_gp h_7 r0 8 9 fun p_9 =>
    am_ci (f_Rf_otherOf d h_7 p_9 i4) fun x_11 h_10 =>
    if x_5 = 0 then
      am_ci (f_Rf_has d h_10 (Int32.toInt64 i1) x_8) fun x_13 h_12 =>
      if x_13 = 0 then
        if x_5 = 4 then
          am_ci (f_Rf_has d h_12 (Int32.toInt64 i2) x_8) fun x_15 h_14 =>
          if x_15 = 0 then
            f_Rf_laysLost_90 (d + 1) h_14 r0 i1 i2 i3 i4 x_5 x_8 x_11 1 1
          else
          f_Rf_laysLost_90 (d + 1) h_14 r0 i1 i2 i3 i4 x_5 x_8 x_11 1 0
        else
        f_Rf_laysLost_90 (d + 1) h_12 r0 i1 i2 i3 i4 x_5 x_8 x_11 1 0
      else
      if x_5 = 4 then
        am_ci (f_Rf_has d h_12 (Int32.toInt64 i2) x_8) fun x_17 h_16 =>
        if x_17 = 0 then
          f_Rf_laysLost_90 (d + 1) h_16 r0 i1 i2 i3 i4 x_5 x_8 x_11 0 1
        else
        f_Rf_laysLost_90 (d + 1) h_16 r0 i1 i2 i3 i4 x_5 x_8 x_11 0 0
      else
      f_Rf_laysLost_90 (d + 1) h_12 r0 i1 i2 i3 i4 x_5 x_8 x_11 0 0
    else
    if x_5 = 4 then
      am_ci (f_Rf_has d h_10 (Int32.toInt64 i2) x_8) fun x_19 h_18 =>
      if x_19 = 0 then
        f_Rf_laysLost_90 (d + 1) h_18 r0 i1 i2 i3 i4 x_5 x_8 x_11 0 1
      else
      f_Rf_laysLost_90 (d + 1) h_18 r0 i1 i2 i3 i4 x_5 x_8 x_11 0 0
    else
    f_Rf_laysLost_90 (d + 1) h_10 r0 i1 i2 i3 i4 x_5 x_8 x_11 0 0) := by
  refine (am_sem_seg (am_sm am_MT (d + 1)) m_Rf_laysLost 41 3 [(0, .ref r0), (1, .int i1), (2, .int i2), (3, .int i3), (4, .int i4)] [] h).trans ?_
  rfl
set_option maxRecDepth 100000 in
theorem e_Rf_laysLost_90 (d : Nat) (h : am_H) (r0 : Nat) (i1 : Int32) (i2 : Int32) (i3 : Int32) (i4 : Int32) (i5 : Int32) (i6 : Int32) (i7 : Int32) (i8 : Int32) (s0 : Int32) : f_Rf_laysLost_90 d h r0 i1 i2 i3 i4 i5 i6 i7 i8 s0 = (
    am_gp h r0 8 38 fun p_1 =>
    if i5 = 2 then
      f_Rf_laysLost_165 d h r0 i1 i2 i3 i4 i5 i6 i7 i8 s0 p_1 i4 1
    else
    if i5 = 3 then
      am_gp h r0 8 38 fun p_2 =>
      am_ar h 12 p_2 i6 fun j_3 =>
      if (am_I h p_2 j_3) = 0 then
        am_gp h r0 8 38 fun p_4 =>
        am_ar h 12 p_4 i7 fun j_5 =>
        if (am_I h p_4 j_5) = 0 then
          if i5 = 4 then
            am_gp h r0 8 38 fun p_6 =>
            am_ar h 12 p_6 i7 fun j_7 =>
            if (am_I h p_6 j_7) = 0 then
              f_Rf_laysLost_146 d h r0 i1 i2 i3 i4 i5 i6 i7 i8 s0 p_1 i4
            else
            f_Rf_laysLost_165 d h r0 i1 i2 i3 i4 i5 i6 i7 i8 s0 p_1 i4 1
          else
          f_Rf_laysLost_146 d h r0 i1 i2 i3 i4 i5 i6 i7 i8 s0 p_1 i4
        else
        f_Rf_laysLost_165 d h r0 i1 i2 i3 i4 i5 i6 i7 i8 s0 p_1 i4 1
      else
      f_Rf_laysLost_165 d h r0 i1 i2 i3 i4 i5 i6 i7 i8 s0 p_1 i4 1
    else
    if i5 = 4 then
      am_gp h r0 8 38 fun p_8 =>
      am_ar h 12 p_8 i7 fun j_9 =>
      if (am_I h p_8 j_9) = 0 then
        f_Rf_laysLost_146 d h r0 i1 i2 i3 i4 i5 i6 i7 i8 s0 p_1 i4
      else
      f_Rf_laysLost_165 d h r0 i1 i2 i3 i4 i5 i6 i7 i8 s0 p_1 i4 1
    else
    f_Rf_laysLost_146 d h r0 i1 i2 i3 i4 i5 i6 i7 i8 s0 p_1 i4) := by
  refine (am_sem_seg (am_sm am_MT d) m_Rf_laysLost 30 90 [(0, .ref r0), (1, .int i1), (2, .int i2), (3, .int i3), (4, .int i4), (5, .int i5), (6, .int i6), (7, .int i7), (8, .int i8)] [.int s0] h).trans ?_
  rfl
set_option maxRecDepth 100000 in
theorem e_Rf_laysLost_146 (d : Nat) (h : am_H) (r0 : Nat) (i1 : Int32) (i2 : Int32) (i3 : Int32) (i4 : Int32) (i5 : Int32) (i6 : Int32) (i7 : Int32) (i8 : Int32) (i9 : Int32) (s0 : Nat) (s1 : Int32) : f_Rf_laysLost_146 d h r0 i1 i2 i3 i4 i5 i6 i7 i8 i9 s0 s1 = (
    if i3 = 0 then
      if i8 = 0 then
        if i9 = 0 then
          f_Rf_laysLost_165 d h r0 i1 i2 i3 i4 i5 i6 i7 i8 i9 s0 s1 0
        else
        f_Rf_laysLost_165 d h r0 i1 i2 i3 i4 i5 i6 i7 i8 i9 s0 s1 1
      else
      f_Rf_laysLost_165 d h r0 i1 i2 i3 i4 i5 i6 i7 i8 i9 s0 s1 1
    else
    f_Rf_laysLost_165 d h r0 i1 i2 i3 i4 i5 i6 i7 i8 i9 s0 s1 0) := by
  refine (am_sem_seg (am_sm am_MT d) m_Rf_laysLost 8 146 [(0, .ref r0), (1, .int i1), (2, .int i2), (3, .int i3), (4, .int i4), (5, .int i5), (6, .int i6), (7, .int i7), (8, .int i8), (9, .int i9)] [.int s1, .ref s0] h).trans ?_
  rfl
set_option maxRecDepth 100000 in
theorem e_Rf_laysLost_165 (d : Nat) (h : am_H) (r0 : Nat) (i1 : Int32) (i2 : Int32) (i3 : Int32) (i4 : Int32) (i5 : Int32) (i6 : Int32) (i7 : Int32) (i8 : Int32) (i9 : Int32) (s0 : Nat) (s1 : Int32) (s2 : Int32) : f_Rf_laysLost_165 d h r0 i1 i2 i3 i4 i5 i6 i7 i8 i9 s0 s1 s2 = (
    am_ar h 12 s0 s1 fun j_1 =>
    am_gp (am_sI h s0 j_1 (vp_nar .boolean s2)) r0 8 39 fun p_2 =>
    if i5 = 1 then
      am_ar (am_sI h s0 j_1 (vp_nar .boolean s2)) 12 p_2 i4 fun j_3 =>
      f_Rf_laysLost_3 d (am_sI (am_sI h s0 j_1 (vp_nar .boolean s2)) p_2 j_3 (vp_nar .boolean 1)) r0 i1 i2 i3 (i4 + 1)
    else
    if i5 = 3 then
      am_gp (am_sI h s0 j_1 (vp_nar .boolean s2)) r0 8 39 fun p_4 =>
      am_ar (am_sI h s0 j_1 (vp_nar .boolean s2)) 12 p_4 i6 fun j_5 =>
      if (am_I (am_sI h s0 j_1 (vp_nar .boolean s2)) p_4 j_5) = 0 then
        f_Rf_laysLost_204 d (am_sI h s0 j_1 (vp_nar .boolean s2)) r0 i1 i2 i3 i4 i7 i8 i9 p_2 i4
      else
      am_gp (am_sI h s0 j_1 (vp_nar .boolean s2)) r0 8 39 fun p_6 =>
      am_ar (am_sI h s0 j_1 (vp_nar .boolean s2)) 12 p_6 i7 fun j_7 =>
      if (am_I (am_sI h s0 j_1 (vp_nar .boolean s2)) p_6 j_7) = 0 then
        f_Rf_laysLost_204 d (am_sI h s0 j_1 (vp_nar .boolean s2)) r0 i1 i2 i3 i4 i7 i8 i9 p_2 i4
      else
      am_ar (am_sI h s0 j_1 (vp_nar .boolean s2)) 12 p_2 i4 fun j_8 =>
      f_Rf_laysLost_3 d (am_sI (am_sI h s0 j_1 (vp_nar .boolean s2)) p_2 j_8 (vp_nar .boolean 1)) r0 i1 i2 i3 (i4 + 1)
    else
    f_Rf_laysLost_204 d (am_sI h s0 j_1 (vp_nar .boolean s2)) r0 i1 i2 i3 i4 i7 i8 i9 p_2 i4) := by
  refine (am_sem_seg (am_sm am_MT d) m_Rf_laysLost 25 165 [(0, .ref r0), (1, .int i1), (2, .int i2), (3, .int i3), (4, .int i4), (5, .int i5), (6, .int i6), (7, .int i7), (8, .int i8), (9, .int i9)] [.int s2, .int s1, .ref s0] h).trans ?_
  rfl
set_option maxRecDepth 100000 in
theorem e_Rf_laysLost_204 (d : Nat) (h : am_H) (r0 : Nat) (i1 : Int32) (i2 : Int32) (i3 : Int32) (i4 : Int32) (i7 : Int32) (i8 : Int32) (i9 : Int32) (s0 : Nat) (s1 : Int32) : f_Rf_laysLost_204 d h r0 i1 i2 i3 i4 i7 i8 i9 s0 s1 = (
    if i3 = 1 then
      if i8 = 0 then
        if i9 = 0 then
          am_ar h 12 s0 s1 fun j_1 =>
          f_Rf_laysLost_3 d (am_sI h s0 j_1 (vp_nar .boolean 0)) r0 i1 i2 i3 (i4 + 1)
        else
        am_gp h r0 8 39 fun p_2 =>
        am_ar h 12 p_2 i7 fun j_3 =>
        if (am_I h p_2 j_3) = 0 then
          am_ar h 12 s0 s1 fun j_4 =>
          f_Rf_laysLost_3 d (am_sI h s0 j_4 (vp_nar .boolean 0)) r0 i1 i2 i3 (i4 + 1)
        else
        am_ar h 12 s0 s1 fun j_5 =>
        f_Rf_laysLost_3 d (am_sI h s0 j_5 (vp_nar .boolean 1)) r0 i1 i2 i3 (i4 + 1)
      else
      am_ar h 12 s0 s1 fun j_6 =>
      f_Rf_laysLost_3 d (am_sI h s0 j_6 (vp_nar .boolean 1)) r0 i1 i2 i3 (i4 + 1)
    else
    am_ar h 12 s0 s1 fun j_7 =>
    f_Rf_laysLost_3 d (am_sI h s0 j_7 (vp_nar .boolean 0)) r0 i1 i2 i3 (i4 + 1)) := by
  refine (am_sem_seg (am_sm am_MT d) m_Rf_laysLost 17 204 [(0, .ref r0), (1, .int i1), (2, .int i2), (3, .int i3), (4, .int i4), (7, .int i7), (8, .int i8), (9, .int i9)] [.int s1, .ref s0] h).trans ?_
  rfl
set_option maxRecDepth 100000 in
theorem e_Rf_isIdle (d : Nat) (h : am_H) (r0 : Nat) (i1 : Int32) (i2 : Int32) (i3 : Int32) : f_Rf_isIdle (d + 1) h r0 i1 i2 i3 = (
    am_gp h r0 8 9 fun p_1 =>
    am_ci (f_Rf_axiomOf d h p_1 i1 0) fun x_3 h_2 =>
    am_gp h_2 r0 8 9 fun p_4 =>
    am_ci (f_Rf_axiomOf d h_2 p_4 i1 1) fun x_6 h_5 =>
    am_gp h_5 r0 8 9 fun p_7 =>
    am_ci (f_Rf_axiomOf d h_5 p_7 i1 2) fun x_9 h_8 =>
    if x_3 = 2 then
      if i3 = 0 then
        am_ci (f_Rf_has d h_8 (Int32.toInt64 i2) x_6) fun x_11 h_10 =>
        if x_11 = 0 then
          am_01 1 (some (.inr (some (.int 1)), h_10))
        else
        am_01 0 (some (.inr (some (.int 0)), h_10))
      else
      am_ci (f_Rf_has d h_8 (Int32.toInt64 i2) x_9) fun x_13 h_12 =>
      if x_13 = 0 then
        am_01 1 (some (.inr (some (.int 1)), h_12))
      else
      am_01 0 (some (.inr (some (.int 0)), h_12))
    else
    if x_3 = 3 then
      if i3 = 0 then
        am_ci (f_Rf_has d h_8 (Int32.toInt64 i2) x_6) fun x_15 h_14 =>
        if x_15 = 0 then
          am_01 1 (some (.inr (some (.int 1)), h_14))
        else
        am_ci (f_Rf_has d h_14 (Int32.toInt64 i2) x_9) fun x_17 h_16 =>
        if x_17 = 0 then
          am_01 1 (some (.inr (some (.int 1)), h_16))
        else
        am_01 0 (some (.inr (some (.int 0)), h_16))
      else
      am_gp h_8 r0 8 9 fun p_18 =>
      am_ci (f_Rf_axiomOf d h_8 p_18 i1 3) fun x_20 h_19 =>
      am_ci (f_Rf_has d h_19 (Int32.toInt64 i2) x_20) fun x_22 h_21 =>
      if x_22 = 0 then
        am_01 1 (some (.inr (some (.int 1)), h_21))
      else
      am_01 0 (some (.inr (some (.int 0)), h_21))
    else
    am_gp h_8 r0 8 38 fun p_23 =>
    am_ar h_8 12 p_23 x_6 fun j_24 =>
    if (am_I h_8 p_23 j_24) = 0 then
      am_gp h_8 r0 8 39 fun p_25 =>
      am_ar h_8 12 p_25 x_9 fun j_26 =>
      if (am_I h_8 p_25 j_26) = 0 then
        am_01 0 (some (.inr (some (.int 0)), h_8))
      else
      f_Rf_isIdle_158 (d + 1) h_8 r0 x_3 x_6 x_9
    else
    f_Rf_isIdle_158 (d + 1) h_8 r0 x_3 x_6 x_9) := by
  refine (am_sem_seg (am_sm am_MT (d + 1)) m_Rf_isIdle 39 0 [(0, .ref r0), (1, .int i1), (2, .int i2), (3, .int i3)] [] h).trans ?_
  rfl
set_option maxRecDepth 100000 in
theorem e_Rf_isIdle_158 (d : Nat) (h : am_H) (r0 : Nat) (i4 : Int32) (i5 : Int32) (i6 : Int32) : f_Rf_isIdle_158 d h r0 i4 i5 i6 = (
    if i4 = 0 then
      am_01 1 (some (.inr (some (.int 1)), h))
    else
    am_gp h r0 8 38 fun p_1 =>
    am_ar h 12 p_1 i6 fun j_2 =>
    if (am_I h p_1 j_2) = 0 then
      am_gp h r0 8 39 fun p_3 =>
      am_ar h 12 p_3 i5 fun j_4 =>
      if (am_I h p_3 j_4) = 0 then
        am_01 0 (some (.inr (some (.int 0)), h))
      else
      am_01 1 (some (.inr (some (.int 1)), h))
    else
    am_01 1 (some (.inr (some (.int 1)), h))) := by
  refine (am_sem_seg (am_sm am_MT d) m_Rf_isIdle 15 158 [(0, .ref r0), (4, .int i4), (5, .int i5), (6, .int i6)] [] h).trans ?_
  rfl
set_option maxRecDepth 100000 in
theorem e_Rf_moduleOf (d : Nat) (h : am_H) (r0 : Nat) (l1 : Int64) (i3 : Int32) (i4 : Int32) (i5 : Int32) : f_Rf_moduleOf d h r0 l1 i3 i4 i5 = (
    f_Rf_moduleOf_15 d h r0 l1 i5 0 (-1) i3 i4) := by
  refine (am_sem_seg (am_sm am_MT d) m_Rf_moduleOf 8 0 [(0, .ref r0), (1, .long l1), (3, .int i3), (4, .int i4), (5, .int i5)] [] h).trans ?_
  rfl
set_option maxRecDepth 100000 in
theorem e_Rf_moduleOf_15 (d : Nat) (h : am_H) (r0 : Nat) (l1 : Int64) (i5 : Int32) (l6 : Int64) (l8 : Int64) (i10 : Int32) (i11 : Int32) : f_Rf_moduleOf_15 (d + 1) h r0 l1 i5 l6 l8 i10 i11 = (
    if (lg_cmp l6 l8) = 0 then
      some (.inr (some (.long l6)), h)
    else
    am_ck h r0 8 <| am_cv (f_Rf_laysLost d h r0 i10 i11 i5) fun h_1 =>
    f_Rf_moduleOf_40 (d + 1) h_1 r0 l1 i5 l6 l6 i10 i11 0) := by
  refine (am_sem_seg (am_sm am_MT (d + 1)) m_Rf_moduleOf 13 15 [(0, .ref r0), (1, .long l1), (5, .int i5), (6, .long l6), (8, .long l8), (10, .int i10), (11, .int i11)] [] h).trans ?_
  rfl
set_option maxRecDepth 100000 in
theorem e_Rf_moduleOf_40 (d : Nat) (h : am_H) (r0 : Nat) (l1 : Int64) (i5 : Int32) (l6 : Int64) (l8 : Int64) (i10 : Int32) (i11 : Int32) (i12 : Int32) : f_Rf_moduleOf_40 (d + 1) h r0 l1 i5 l6 l8 i10 i11 i12 = (
    am_gp h r0 8 9 fun p_1 =>
    am_ar h 9 p_1 3 fun j_2 =>
    if (am_I h p_1 j_2) ≤ i12 then
      f_Rf_moduleOf_91 (d + 1) h r0 l1 i5 l6 l8 i10 i11 0
    else
    am_ci (f_Rf_has d h l1 i12) fun x_4 h_3 =>
    if x_4 = 0 then
      f_Rf_moduleOf_40 (d + 1) h_3 r0 l1 i5 l6 l8 i10 i11 (i12 + 1)
    else
    am_ck h_3 r0 8 <| am_ci (f_Rf_isIdle d h_3 r0 i12 i11 i5) fun x_6 h_5 =>
    if x_6 = 0 then
      f_Rf_moduleOf_40 (d + 1) h_5 r0 l1 i5 (l6 ||| (am_lshl 1 i12)) l8 i10 i11 (i12 + 1)
    else
    f_Rf_moduleOf_40 (d + 1) h_5 r0 l1 i5 l6 l8 i10 i11 (i12 + 1)) := by
  refine (am_sem_seg (am_sm am_MT (d + 1)) m_Rf_moduleOf 24 40 [(0, .ref r0), (1, .long l1), (5, .int i5), (6, .long l6), (8, .long l8), (10, .int i10), (11, .int i11), (12, .int i12)] [] h).trans ?_
  rfl
set_option maxRecDepth 100000 in
theorem e_Rf_moduleOf_91 (d : Nat) (h : am_H) (r0 : Nat) (l1 : Int64) (i5 : Int32) (l6 : Int64) (l8 : Int64) (i10 : Int32) (i11 : Int32) (i12 : Int32) : f_Rf_moduleOf_91 (d + 1) h r0 l1 i5 l6 l8 i10 i11 i12 = (
    am_gp h r0 8 9 fun p_1 =>
    am_ar h 9 p_1 3 fun j_2 =>
    if (am_I h p_1 j_2) ≤ i12 then
      f_Rf_moduleOf_15 (d + 1) h r0 l1 i5 l6 l8 i10 i11
    else
    am_ci (f_Rf_has d h l6 i12) fun x_4 h_3 =>
    if x_4 = 0 then
      f_Rf_moduleOf_91 (d + 1) h_3 r0 l1 i5 l6 l8 i10 i11 (i12 + 1)
    else
    am_ck h_3 r0 8 <| am_ci (f_Rf_namesIn d h_3 r0 i12) fun x_6 h_5 =>
    am_ck h_5 r0 8 <| am_ci (f_Rf_rolesIn d h_5 r0 i12) fun x_8 h_7 =>
    f_Rf_moduleOf_91 (d + 1) h_7 r0 l1 i5 l6 l8 (i10 ||| x_6) (i11 ||| x_8) (i12 + 1)) := by
  refine (am_sem_seg (am_sm am_MT (d + 1)) m_Rf_moduleOf 24 91 [(0, .ref r0), (1, .long l1), (5, .int i5), (6, .long l6), (8, .long l8), (10, .int i10), (11, .int i11), (12, .int i12)] [] h).trans ?_
  rfl
set_option maxRecDepth 100000 in
theorem e_Rf_module (d : Nat) (h : am_H) (r0 : Nat) (i1 : Int32) (i2 : Int32) (i3 : Int32) : f_Rf_module (d + 1) h r0 i1 i2 i3 = (
    am_ck h r0 8 <|
    am_ci (f_Rf_in d (am_sI h r0 0 0) i3 0 2) fun x_2 h_1 =>
    if x_2 = 0 then
      f_Rf_module_42 (d + 1) h_1 r0 i1 i2 i3 r0 1
    else
    am_gp h_1 r0 8 9 fun p_3 =>
    am_ar h_1 9 p_3 0 fun j_4 =>
    if (am_ishr i1 (am_I h_1 p_3 j_4)) = 0 then
      am_gp h_1 r0 8 9 fun p_5 =>
      am_ar h_1 9 p_5 1 fun j_6 =>
      if (am_ishr i2 (am_I h_1 p_5 j_6)) = 0 then
        f_Rf_module_42 (d + 1) h_1 r0 i1 i2 i3 r0 0
      else
      f_Rf_module_42 (d + 1) h_1 r0 i1 i2 i3 r0 1
    else
    f_Rf_module_42 (d + 1) h_1 r0 i1 i2 i3 r0 1) := by
  refine (am_sem_seg (am_sm am_MT (d + 1)) m_Rf_module 25 0 [(0, .ref r0), (1, .int i1), (2, .int i2), (3, .int i3)] [] h).trans ?_
  rfl
set_option maxRecDepth 100000 in
theorem e_Rf_module_42 (d : Nat) (h : am_H) (r0 : Nat) (i1 : Int32) (i2 : Int32) (i3 : Int32) (s0 : Nat) (s1 : Int32) : f_Rf_module_42 (d + 1) h r0 i1 i2 i3 s0 s1 = (
    am_ck h s0 8 <| am_ci (f_Rf_bad d h s0 s1 1 1) fun x_2 h_1 =>
    if x_2 = 0 then
      am_ck h_1 r0 8 <| am_cv (f_Rf_laysSigns d h_1 r0) fun h_3 =>
      if 2 ≤ i3 then
        am_gl h_3 r0 8 11 fun y_4 =>
        f_Rf_module_84 (d + 1) h_3 r0 i1 i2 y_4 (-1)
      else
      am_gl h_3 r0 8 11 fun y_5 =>
      am_ck h_3 r0 8 <| am_cl (f_Rf_moduleOf d h_3 r0 y_5 i1 i2 i3) fun y_7 h_6 =>
      some (.inr (some (.long y_7)), h_6)
    else
    some (.inr (some (.long 0)), h_1)) := by
  refine (am_sem_seg (am_sm am_MT (d + 1)) m_Rf_module 17 42 [(0, .ref r0), (1, .int i1), (2, .int i2), (3, .int i3)] [.int s1, .ref s0] h).trans ?_
  rfl
set_option maxRecDepth 100000 in
theorem e_Rf_module_84 (d : Nat) (h : am_H) (r0 : Nat) (i1 : Int32) (i2 : Int32) (l4 : Int64) (l6 : Int64) : f_Rf_module_84 (d + 1) h r0 i1 i2 l4 l6 = (
    if (lg_cmp l4 l6) = 0 then
      some (.inr (some (.long l4)), h)
    else
    am_ck h r0 8 <| am_cl (f_Rf_moduleOf d h r0 l4 i1 i2 0) fun y_2 h_1 =>
    am_ck h_1 r0 8 <| am_cl (f_Rf_moduleOf d h_1 r0 y_2 i1 i2 1) fun y_4 h_3 =>
    f_Rf_module_84 (d + 1) h_3 r0 i1 i2 y_4 l4) := by
  refine (am_sem_seg (am_sm am_MT (d + 1)) m_Rf_module 19 84 [(0, .ref r0), (1, .int i1), (2, .int i2), (4, .long l4), (6, .long l6)] [] h).trans ?_
  rfl
set_option maxRecDepth 100000 in
theorem e_Rf_ownModule (d : Nat) (h : am_H) (r0 : Nat) (i1 : Int32) : f_Rf_ownModule (d + 1) h r0 i1 = (
    am_gl h r0 8 11 fun y_1 =>
    am_ck h r0 8 <| am_ci (f_Rf_namesIn d h r0 i1) fun x_3 h_2 =>
    am_ck h_2 r0 8 <| am_ci (f_Rf_rolesIn d h_2 r0 i1) fun x_5 h_4 =>
    am_ck h_4 r0 8 <| am_cl (f_Rf_moduleOf d h_4 r0 y_1 x_3 x_5 0) fun y_7 h_6 =>
    some (.inr (some (.long y_7)), h_6)) := by
  refine (am_sem_seg (am_sm am_MT (d + 1)) m_Rf_ownModule 12 0 [(0, .ref r0), (1, .int i1)] [] h).trans ?_
  rfl
set_option maxRecDepth 100000 in
theorem e_Rf_atom_1 (d : Nat) (h : am_H) (r0 : Nat) (i1 : Int32) : f_Rf_atom_1 (d + 1) h r0 i1 = (
    am_ck h r0 8 <|
    am_gp (am_sI h r0 0 0) r0 8 9 fun p_1 =>
    am_ar (am_sI h r0 0 0) 9 p_1 3 fun j_2 =>
    am_ci (f_Rf_in d (am_sI h r0 0 0) i1 0 ((am_I (am_sI h r0 0 0) p_1 j_2) - 1)) fun x_4 h_3 =>
    if x_4 = 0 then
      am_ck h_3 r0 8 <| am_ci (f_Rf_bad d h_3 r0 1 1 0) fun x_6 h_5 =>
      if x_6 = 0 then
        am_gl h_5 r0 8 11 fun y_7 =>
        am_ci (f_Rf_has d h_5 y_7 i1) fun x_9 h_8 =>
        if x_9 = 0 then
          some (.inr (some (.int (-1))), h_8)
        else
        am_ck h_8 r0 8 <| am_cv (f_Rf_laysSigns d h_8 r0) fun h_10 =>
        am_ck h_10 r0 8 <| am_cl (f_Rf_ownModule d h_10 r0 i1) fun y_12 h_11 =>
        f_Rf_atom_1_63 (d + 1) h_11 r0 y_12 0
      else
      some (.inr (some (.int 0)), h_5)
    else
    am_ck h_3 r0 8 <| am_ci (f_Rf_bad d h_3 r0 0 1 0) fun x_14 h_13 =>
    if x_14 = 0 then
      am_gl h_13 r0 8 11 fun y_15 =>
      am_ci (f_Rf_has d h_13 y_15 i1) fun x_17 h_16 =>
      if x_17 = 0 then
        some (.inr (some (.int (-1))), h_16)
      else
      am_ck h_16 r0 8 <| am_cv (f_Rf_laysSigns d h_16 r0) fun h_18 =>
      am_ck h_18 r0 8 <| am_cl (f_Rf_ownModule d h_18 r0 i1) fun y_20 h_19 =>
      f_Rf_atom_1_63 (d + 1) h_19 r0 y_20 0
    else
    some (.inr (some (.int 0)), h_13)) := by
  refine (am_sem_seg (am_sm am_MT (d + 1)) m_Rf_atom_1 33 0 [(0, .ref r0), (1, .int i1)] [] h).trans ?_
  rfl
set_option maxRecDepth 100000 in
theorem e_Rf_atom_1_63 (d : Nat) (h : am_H) (r0 : Nat) (l2 : Int64) (i4 : Int32) : f_Rf_atom_1_63 (d + 1) h r0 l2 i4 = (
    am_gl h r0 8 11 fun y_1 =>
    am_ci (f_Rf_has d h y_1 i4) fun x_3 h_2 =>
    if x_3 = 0 then
      f_Rf_atom_1_63 (d + 1) h_2 r0 l2 (i4 + 1)
    else
    am_ck h_2 r0 8 <| am_cl (f_Rf_ownModule d h_2 r0 i4) fun y_5 h_4 =>
    if (lg_cmp y_5 l2) = 0 then
      some (.inr (some (.int i4)), h_4)
    else
    f_Rf_atom_1_63 (d + 1) h_4 r0 l2 (i4 + 1)) := by
  refine (am_sem_seg (am_sm am_MT (d + 1)) m_Rf_atom_1 13 63 [(0, .ref r0), (2, .long l2), (4, .int i4)] [] h).trans ?_
  rfl
set_option maxRecDepth 100000 in
theorem e_Rf_depends (d : Nat) (h : am_H) (r0 : Nat) (i1 : Int32) : f_Rf_depends (d + 1) h r0 i1 = (
    am_ck h r0 8 <|
    am_gp (am_sI h r0 0 0) r0 8 9 fun p_1 =>
    am_ar (am_sI h r0 0 0) 9 p_1 3 fun j_2 =>
    am_ci (f_Rf_in d (am_sI h r0 0 0) i1 0 ((am_I (am_sI h r0 0 0) p_1 j_2) - 1)) fun x_4 h_3 =>
    if x_4 = 0 then
      am_ck h_3 r0 8 <| am_ci (f_Rf_bad d h_3 r0 1 1 0) fun x_6 h_5 =>
      if x_6 = 0 then
        am_gl h_5 r0 8 11 fun y_7 =>
        am_ci (f_Rf_has d h_5 y_7 i1) fun x_9 h_8 =>
        if x_9 = 0 then
          some (.inr (some (.long 0)), h_8)
        else
        am_ck h_8 r0 8 <| am_cv (f_Rf_laysSigns d h_8 r0) fun h_10 =>
        am_ck h_10 r0 8 <| am_cl (f_Rf_ownModule d h_10 r0 i1) fun y_12 h_11 =>
        some (.inr (some (.long y_12)), h_11)
      else
      some (.inr (some (.long 0)), h_5)
    else
    am_ck h_3 r0 8 <| am_ci (f_Rf_bad d h_3 r0 0 1 0) fun x_14 h_13 =>
    if x_14 = 0 then
      am_gl h_13 r0 8 11 fun y_15 =>
      am_ci (f_Rf_has d h_13 y_15 i1) fun x_17 h_16 =>
      if x_17 = 0 then
        some (.inr (some (.long 0)), h_16)
      else
      am_ck h_16 r0 8 <| am_cv (f_Rf_laysSigns d h_16 r0) fun h_18 =>
      am_ck h_18 r0 8 <| am_cl (f_Rf_ownModule d h_18 r0 i1) fun y_20 h_19 =>
      some (.inr (some (.long y_20)), h_19)
    else
    some (.inr (some (.long 0)), h_13)) := by
  refine (am_sem_seg (am_sm am_MT (d + 1)) m_Rf_depends 31 0 [(0, .ref r0), (1, .int i1)] [] h).trans ?_
  rfl
set_option maxRecDepth 100000 in
theorem e_Rf_reads (d : Nat) (h : am_H) (r0 : Nat) (i1 : Int32) (i2 : Int32) : f_Rf_reads (d + 1) h r0 i1 i2 = (
    am_ck h r0 8 <| am_cv (f_Rf_opens d h r0 i1) fun h_1 =>
    am_01 1 <| am_ck h_1 r0 8 <|
    am_gp (am_sI h_1 r0 17 1) r0 8 9 fun p_2 =>
    am_gp (am_sI h_1 r0 17 1) r0 8 10 fun p_3 =>
    am_cv (f_Rf_copies d (am_sI h_1 r0 17 1) p_2 p_3) fun h_4 =>
    am_ck h_4 r0 8 <| am_ci (f_Rf_concept d h_4 r0) fun x_6 h_5 =>
    am_ck h_5 r0 8 <|
    if i2 = 0 then
      am_ck (am_sI h_5 r0 42 x_6) r0 8 <| am_ci (f_Rf_fine d (am_sI h_5 r0 42 x_6) r0) fun x_8 h_7 =>
      if x_8 = 0 then
        f_Rf_reads_109 (d + 1) h_7 r0
      else
      am_ck h_7 r0 8 <| am_ci (f_Rf_here d h_7 r0) fun x_10 h_9 =>
      if x_10 = (-1) then
        f_Rf_reads_109 (d + 1) h_9 r0
      else
      am_gi h_9 r0 8 4 fun x_11 =>
      am_ck h_9 r0 8 <| am_ci (f_Rf_wrong d h_9 r0 1 x_11) fun x_13 h_12 =>
      f_Rf_reads_109 (d + 1) h_12 r0
    else
    am_ck (am_sI h_5 r0 42 x_6) r0 8 <| am_ci (f_Rf_fine d (am_sI h_5 r0 42 x_6) r0) fun x_15 h_14 =>
    if x_15 = 0 then
      f_Rf_reads_66 (d + 1) h_14 r0
    else
    am_ck h_14 r0 8 <| am_ci (f_Rf_here d h_14 r0) fun x_17 h_16 =>
    if x_17 = 60 then
      am_ck h_16 r0 8 <| am_ci (f_Rf_isTwice d h_16 r0) fun x_19 h_18 =>
      if x_19 = 0 then
        f_Rf_reads_66 (d + 1) h_18 r0
      else
      am_gi h_18 r0 8 4 fun x_20 =>
      am_ck h_18 r0 8 <| am_ci (f_Rf_wrong d h_18 r0 1 x_20) fun x_22 h_21 =>
      f_Rf_reads_66 (d + 1) h_21 r0
    else
    am_gi h_16 r0 8 4 fun x_23 =>
    am_ck h_16 r0 8 <| am_ci (f_Rf_wrong d h_16 r0 1 x_23) fun x_25 h_24 =>
    f_Rf_reads_66 (d + 1) h_24 r0) := by
  refine (am_sem_seg (am_sm am_MT (d + 1)) m_Rf_reads 33 0 [(0, .ref r0), (1, .int i1), (2, .int i2)] [] h).trans ?_
  rfl
set_option maxRecDepth 100000 in
theorem e_Rf_reads_66 (d : Nat) (h : am_H) (r0 : Nat) : f_Rf_reads_66 (d + 1) h r0 = (
    am_gi h r0 8 4 fun x_1 =>
    am_ck h r0 8 <|
    am_ck (am_sI h r0 4 (x_1 + 1)) r0 8 <| am_ci (f_Rf_concept d (am_sI h r0 4 (x_1 + 1)) r0) fun x_3 h_2 =>
    am_ck h_2 r0 8 <|
    am_ck (am_sI h_2 r0 43 x_3) r0 8 <| am_ci (f_Rf_fine d (am_sI h_2 r0 43 x_3) r0) fun x_5 h_4 =>
    if x_5 = 0 then
      f_Rf_reads_109 (d + 1) h_4 r0
    else
    am_ck h_4 r0 8 <| am_ci (f_Rf_here d h_4 r0) fun x_7 h_6 =>
    if x_7 = (-1) then
      f_Rf_reads_109 (d + 1) h_6 r0
    else
    am_gi h_6 r0 8 4 fun x_8 =>
    am_ck h_6 r0 8 <| am_ci (f_Rf_wrong d h_6 r0 1 x_8) fun x_10 h_9 =>
    f_Rf_reads_109 (d + 1) h_9 r0) := by
  refine (am_sem_seg (am_sm am_MT (d + 1)) m_Rf_reads 23 66 [(0, .ref r0)] [] h).trans ?_
  rfl
set_option maxRecDepth 100000 in
theorem e_Rf_reads_109 (d : Nat) (h : am_H) (r0 : Nat) : f_Rf_reads_109 (d + 1) h r0 = (
    am_ck h r0 8 <| am_ci (f_Rf_fine d h r0) fun x_2 h_1 =>
    if x_2 = 0 then
      am_gi h_1 r0 8 7 fun x_3 =>
      am_ck h_1 r0 8 <|
      am_ck (am_sI h_1 r0 5 x_3) r0 8 <| am_ci (f_Rf_fine d (am_sI h_1 r0 5 x_3) r0) fun x_5 h_4 =>
      am_01 x_5 (some (.inr (some (.int x_5)), h_4))
    else
    am_gp h_1 r0 8 10 fun p_6 =>
    am_ar h_1 9 p_6 2 fun j_7 =>
    if (am_I h_1 p_6 j_7) ≤ 60 then
      am_gi h_1 r0 8 7 fun x_8 =>
      am_ck h_1 r0 8 <|
      am_ck (am_sI h_1 r0 5 x_8) r0 8 <| am_ci (f_Rf_fine d (am_sI h_1 r0 5 x_8) r0) fun x_10 h_9 =>
      am_01 x_10 (some (.inr (some (.int x_10)), h_9))
    else
    am_ck h_1 r0 8 <| am_ci (f_Rf_wrong d h_1 r0 5 0) fun x_12 h_11 =>
    am_gi h_11 r0 8 7 fun x_13 =>
    am_ck h_11 r0 8 <|
    am_ck (am_sI h_11 r0 5 x_13) r0 8 <| am_ci (f_Rf_fine d (am_sI h_11 r0 5 x_13) r0) fun x_15 h_14 =>
    am_01 x_15 (some (.inr (some (.int x_15)), h_14))) := by
  refine (am_sem_seg (am_sm am_MT (d + 1)) m_Rf_reads 21 109 [(0, .ref r0)] [] h).trans ?_
  rfl
set_option maxRecDepth 100000 in
theorem e_Rf_ask (d : Nat) (h : am_H) (r0 : Nat) (i1 : Int32) : f_Rf_ask (d + 1) h r0 i1 = (
    am_ck h r0 8 <|
    am_gi (am_sI h r0 0 0) r0 8 2 fun x_1 =>
    am_ci (f_Rf_in d (am_sI h r0 0 0) i1 0 x_1) fun x_3 h_2 =>
    if x_3 = 0 then
      f_Rf_ask_23 (d + 1) h_2 r0 i1 r0 1
    else
    f_Rf_ask_23 (d + 1) h_2 r0 i1 r0 0) := by
  refine (am_sem_seg (am_sm am_MT (d + 1)) m_Rf_ask 12 0 [(0, .ref r0), (1, .int i1)] [] h).trans ?_
  rfl
set_option maxRecDepth 100000 in
theorem e_Rf_ask_23 (d : Nat) (h : am_H) (r0 : Nat) (i1 : Int32) (s0 : Nat) (s1 : Int32) : f_Rf_ask_23 (d + 1) h r0 i1 s0 s1 = (
    am_ck h s0 8 <| am_ci (f_Rf_bad d h s0 s1 1 1) fun x_2 h_1 =>
    if x_2 = 0 then
      am_ck h_1 r0 8 <| am_ci (f_Rf_reads d h_1 r0 i1 1) fun x_4 h_3 =>
      if x_4 = 0 then
        am_gi h_3 r0 8 6 fun x_5 =>
        some (.inr (some (.int (x_5 - 10))), h_3)
      else
      am_gp h_3 r0 8 10 fun p_6 =>
      am_gl h_3 r0 8 11 fun y_7 =>
      am_ck h_3 r0 8 <| am_ci (f_Rf_goesAll d h_3 r0 p_6 y_7) fun x_9 h_8 =>
      am_gi h_8 r0 8 42 fun x_10 =>
      am_gi h_8 r0 8 43 fun x_11 =>
      am_ck h_8 r0 8 <| am_ci (f_Rf_isBelow d h_8 r0 x_10 x_11) fun x_13 h_12 =>
      if x_13 = 0 then
        some (.inr (some (.int 0)), h_12)
      else
      some (.inr (some (.int 1)), h_12)
    else
    some (.inr (some (.int 0)), h_1)) := by
  refine (am_sem_seg (am_sm am_MT (d + 1)) m_Rf_ask 26 23 [(0, .ref r0), (1, .int i1)] [.int s1, .ref s0] h).trans ?_
  rfl
set_option maxRecDepth 100000 in
theorem e_Rf_of (d : Nat) (h : am_H) (r0 : Nat) (i1 : Int32) (i2 : Int32) : f_Rf_of (d + 1) h r0 i1 i2 = (
    am_ck h r0 8 <|
    am_ci (f_Rf_in d (am_sI h r0 0 0) i1 0 2) fun x_2 h_1 =>
    if x_2 = 0 then
      f_Rf_of_32 (d + 1) h_1 r0 i1 i2 r0 1
    else
    am_gi h_1 r0 8 2 fun x_3 =>
    am_ci (f_Rf_in d h_1 i2 0 x_3) fun x_5 h_4 =>
    if x_5 = 0 then
      f_Rf_of_32 (d + 1) h_4 r0 i1 i2 r0 1
    else
    f_Rf_of_32 (d + 1) h_4 r0 i1 i2 r0 0) := by
  refine (am_sem_seg (am_sm am_MT (d + 1)) m_Rf_of 17 0 [(0, .ref r0), (1, .int i1), (2, .int i2)] [] h).trans ?_
  rfl
set_option maxRecDepth 100000 in
theorem e_Rf_of_32 (d : Nat) (h : am_H) (r0 : Nat) (i1 : Int32) (i2 : Int32) (s0 : Nat) (s1 : Int32) : f_Rf_of_32 (d + 1) h r0 i1 i2 s0 s1 = (
    am_ck h s0 8 <| am_ci (f_Rf_bad d h s0 s1 1 1) fun x_2 h_1 =>
    if x_2 = 0 then
      am_ck h_1 r0 8 <| am_ci (f_Rf_reads d h_1 r0 i2 0) fun x_4 h_3 =>
      if x_4 = 0 then
        am_gi h_3 r0 8 6 fun x_5 =>
        some (.inr (some (.int (x_5 - 10))), h_3)
      else
      am_gp h_3 r0 8 10 fun p_6 =>
      am_gl h_3 r0 8 11 fun y_7 =>
      am_ck h_3 r0 8 <| am_ci (f_Rf_goesAll d h_3 r0 p_6 y_7) fun x_9 h_8 =>
      if i1 = 2 then
        am_gi h_8 r0 8 42 fun x_10 =>
        am_ck h_8 r0 8 <| am_ci (f_Rf_isVoid d h_8 r0 x_10) fun x_12 h_11 =>
        if x_12 = 0 then
          some (.inr (some (.int 0)), h_11)
        else
        some (.inr (some (.int 1)), h_11)
      else
      f_Rf_of_100 (d + 1) h_8 r0 i1 0 0
    else
    some (.inr (some (.int 0)), h_1)) := by
  refine (am_sem_seg (am_sm am_MT (d + 1)) m_Rf_of 29 32 [(0, .ref r0), (1, .int i1), (2, .int i2)] [.int s1, .ref s0] h).trans ?_
  rfl
set_option maxRecDepth 100000 in
theorem e_Rf_of_100 (d : Nat) (h : am_H) (r0 : Nat) (i1 : Int32) (i4 : Int32) (i5 : Int32) : f_Rf_of_100 (d + 1) h r0 i1 i4 i5 = (
    am_gp h r0 8 9 fun p_1 =>
    am_ar h 9 p_1 0 fun j_2 =>
    if (am_I h p_1 j_2) ≤ i5 then
      some (.inr (some (.int i4)), h)
    else
    if i1 = 0 then
      am_ck h r0 8 <| am_ci (f_Rf_namePart d h r0 i5) fun x_4 h_3 =>
      am_gi h_3 r0 8 42 fun x_5 =>
      am_ck h_3 r0 8 <| am_ci (f_Rf_isBelow d h_3 r0 x_4 x_5) fun x_7 h_6 =>
      if x_7 = 0 then
        f_Rf_of_100 (d + 1) h_6 r0 i1 (i4 ||| 0) (i5 + 1)
      else
      f_Rf_of_100 (d + 1) h_6 r0 i1 (i4 ||| (am_ishl 1 i5)) (i5 + 1)
    else
    am_gi h r0 8 42 fun x_8 =>
    am_ck h r0 8 <| am_ci (f_Rf_namePart d h r0 i5) fun x_10 h_9 =>
    am_ck h_9 r0 8 <| am_ci (f_Rf_isBelow d h_9 r0 x_8 x_10) fun x_12 h_11 =>
    if x_12 = 0 then
      f_Rf_of_100 (d + 1) h_11 r0 i1 (i4 ||| 0) (i5 + 1)
    else
    f_Rf_of_100 (d + 1) h_11 r0 i1 (i4 ||| (am_ishl 1 i5)) (i5 + 1)) := by
  refine (am_sem_seg (am_sm am_MT (d + 1)) m_Rf_of 26 100 [(0, .ref r0), (1, .int i1), (4, .int i4), (5, .int i5)] [] h).trans ?_
  rfl
set_option maxRecDepth 100000 in
theorem e_Rf_model (d : Nat) (h : am_H) (r0 : Nat) (i1 : Int32) : f_Rf_model (d + 1) h r0 i1 = (
    am_ck h r0 8 <|
    am_gi (am_sI h r0 0 0) r0 8 2 fun x_1 =>
    am_ci (f_Rf_in d (am_sI h r0 0 0) i1 0 x_1) fun x_3 h_2 =>
    if x_3 = 0 then
      am_ck h_2 r0 8 <| am_ci (f_Rf_bad d h_2 r0 1 1 1) fun x_5 h_4 =>
      if x_5 = 0 then
        am_ck h_4 r0 8 <| am_ci (f_Rf_reads d h_4 r0 i1 0) fun x_7 h_6 =>
        if x_7 = 0 then
          am_gi h_6 r0 8 6 fun x_8 =>
          some (.inr (some (.long (Int32.toInt64 (x_8 - 10)))), h_6)
        else
        am_ck h_6 r0 8 <| am_cv (f_Rf_classifies d h_6 r0) fun h_9 =>
        f_Rf_model_60 (d + 1) h_9 r0 0 0
      else
      some (.inr (some (.long 0)), h_4)
    else
    am_ck h_2 r0 8 <| am_ci (f_Rf_bad d h_2 r0 0 1 1) fun x_11 h_10 =>
    if x_11 = 0 then
      am_ck h_10 r0 8 <| am_ci (f_Rf_reads d h_10 r0 i1 0) fun x_13 h_12 =>
      if x_13 = 0 then
        am_gi h_12 r0 8 6 fun x_14 =>
        some (.inr (some (.long (Int32.toInt64 (x_14 - 10)))), h_12)
      else
      am_ck h_12 r0 8 <| am_cv (f_Rf_classifies d h_12 r0) fun h_15 =>
      f_Rf_model_60 (d + 1) h_15 r0 0 0
    else
    some (.inr (some (.long 0)), h_10)) := by
  refine (am_sem_seg (am_sm am_MT (d + 1)) m_Rf_model 27 0 [(0, .ref r0), (1, .int i1)] [] h).trans ?_
  rfl
set_option maxRecDepth 100000 in
theorem e_Rf_model_60 (d : Nat) (h : am_H) (r0 : Nat) (l2 : Int64) (i4 : Int32) : f_Rf_model_60 (d + 1) h r0 l2 i4 = (
    am_gp h r0 8 9 fun p_1 =>
    am_ar h 9 p_1 2 fun j_2 =>
    if (am_I h p_1 j_2) ≤ i4 then
      f_Rf_model_100 (d + 1) h r0 l2 0
    else
    am_ck h r0 8 <| am_ci (f_Rf_isVoid d h r0 i4) fun x_4 h_3 =>
    if x_4 = 0 then
      f_Rf_model_60 (d + 1) h_3 r0 (l2 ||| (am_lshl 1 i4)) (i4 + 1)
    else
    f_Rf_model_60 (d + 1) h_3 r0 (l2 ||| 0) (i4 + 1)) := by
  refine (am_sem_seg (am_sm am_MT (d + 1)) m_Rf_model 18 60 [(0, .ref r0), (2, .long l2), (4, .int i4)] [] h).trans ?_
  rfl
set_option maxRecDepth 100000 in
theorem e_Rf_model_100 (d : Nat) (h : am_H) (r0 : Nat) (l2 : Int64) (i4 : Int32) : f_Rf_model_100 (d + 1) h r0 l2 i4 = (
    am_gp h r0 8 10 fun p_1 =>
    am_ar h 9 p_1 2 fun j_2 =>
    if (am_I h p_1 j_2) ≤ i4 then
      am_gp h r0 8 44 fun p_3 =>
      am_gi h r0 8 42 fun x_4 =>
      am_ar h 10 p_3 x_4 fun j_5 =>
      some (.inr (some (.long (am_L h p_3 j_5))), h)
    else
    am_gp h r0 8 10 fun p_6 =>
    am_ci (f_Rf_kindOf d h p_6 i4) fun x_8 h_7 =>
    am_gp h_7 r0 8 10 fun p_9 =>
    am_ci (f_Rf_oneOf d h_7 p_9 i4) fun x_11 h_10 =>
    am_gp h_10 r0 8 10 fun p_12 =>
    am_ci (f_Rf_otherOf d h_10 p_12 i4) fun x_14 h_13 =>
    am_gp h_13 r0 8 44 fun p_15 =>
    if x_8 = 1 then
      am_ar h_13 10 p_15 i4 fun j_16 =>
      f_Rf_model_189 (d + 1) (am_sL h_13 p_15 j_16 l2) r0 l2 i4 x_8 x_11 x_14 0
    else
    if x_8 = 3 then
      am_gp h_13 r0 8 44 fun p_17 =>
      am_ar h_13 10 p_17 x_11 fun j_18 =>
      am_gp h_13 r0 8 44 fun p_19 =>
      am_ar h_13 10 p_19 x_14 fun j_20 =>
      am_ar h_13 10 p_15 i4 fun j_21 =>
      f_Rf_model_189 (d + 1) (am_sL h_13 p_15 j_21 ((am_L h_13 p_17 j_18) &&& (am_L h_13 p_19 j_20))) r0 l2 i4 x_8 x_11 x_14 0
    else
    am_ar h_13 10 p_15 i4 fun j_22 =>
    f_Rf_model_189 (d + 1) (am_sL h_13 p_15 j_22 0) r0 l2 i4 x_8 x_11 x_14 0) := by
  refine (am_sem_seg (am_sm am_MT (d + 1)) m_Rf_model 43 100 [(0, .ref r0), (2, .long l2), (4, .int i4)] [] h).trans ?_
  rfl
set_option maxRecDepth 100000 in
theorem e_Rf_model_189 (d : Nat) (h : am_H) (r0 : Nat) (l2 : Int64) (i4 : Int32) (i5 : Int32) (i6 : Int32) (i7 : Int32) (i8 : Int32) : f_Rf_model_189 (d + 1) h r0 l2 i4 i5 i6 i7 i8 = (
    am_gp h r0 8 9 fun p_1 =>
    am_ar h 9 p_1 2 fun j_2 =>
    if (am_I h p_1 j_2) ≤ i8 then
      f_Rf_model_100 (d + 1) h r0 l2 (i4 + 1)
    else
    am_ci (f_Rf_has d h l2 i8) fun x_4 h_3 =>
    if x_4 = 0 then
      f_Rf_model_189 (d + 1) h_3 r0 l2 i4 i5 i6 i7 (i8 + 1)
    else
    if i5 = 0 then
      am_gp h_3 r0 8 18 fun p_5 =>
      am_ar h_3 10 p_5 i8 fun j_6 =>
      am_ci (f_Rf_has d h_3 (am_L h_3 p_5 j_6) i4) fun x_8 h_7 =>
      if x_8 = 0 then
        f_Rf_model_242 (d + 1) h_7 r0 l2 i4 i5 i6 i7 i8 0 0
      else
      f_Rf_model_242 (d + 1) h_7 r0 l2 i4 i5 i6 i7 i8 1 0
    else
    f_Rf_model_242 (d + 1) h_3 r0 l2 i4 i5 i6 i7 i8 0 0) := by
  refine (am_sem_seg (am_sm am_MT (d + 1)) m_Rf_model 24 189 [(0, .ref r0), (2, .long l2), (4, .int i4), (5, .int i5), (6, .int i6), (7, .int i7), (8, .int i8)] [] h).trans ?_
  rfl
set_option maxRecDepth 100000 in
theorem e_Rf_model_242 (d : Nat) (h : am_H) (r0 : Nat) (l2 : Int64) (i4 : Int32) (i5 : Int32) (i6 : Int32) (i7 : Int32) (i8 : Int32) (i9 : Int32) (i10 : Int32) : f_Rf_model_242 (d + 1) h r0 l2 i4 i5 i6 i7 i8 i9 i10 = (
    am_gp h r0 8 9 fun p_1 =>
    am_ar h 9 p_1 2 fun j_2 =>
    if (am_I h p_1 j_2) ≤ i10 then
      f_Rf_model_305 (d + 1) h r0 l2 i4 i5 i6 i7 i8 i9
    else
    if i5 = 4 then
      if i9 = 0 then
        am_gp h r0 8 44 fun p_3 =>
        am_ar h 10 p_3 i7 fun j_4 =>
        am_ci (f_Rf_has d h (am_L h p_3 j_4) i10) fun x_6 h_5 =>
        if x_6 = 0 then
          f_Rf_model_242 (d + 1) h_5 r0 l2 i4 i5 i6 i7 i8 0 (i10 + 1)
        else
        am_ck h_5 r0 8 <| am_ci (f_Rf_goesBy d h_5 r0 i8 i6 i10) fun x_8 h_7 =>
        if x_8 = 0 then
          f_Rf_model_242 (d + 1) h_7 r0 l2 i4 i5 i6 i7 i8 0 (i10 + 1)
        else
        f_Rf_model_242 (d + 1) h_7 r0 l2 i4 i5 i6 i7 i8 1 (i10 + 1)
      else
      f_Rf_model_305 (d + 1) h r0 l2 i4 i5 i6 i7 i8 i9
    else
    f_Rf_model_305 (d + 1) h r0 l2 i4 i5 i6 i7 i8 i9) := by
  refine (am_sem_seg (am_sm am_MT (d + 1)) m_Rf_model 29 242 [(0, .ref r0), (2, .long l2), (4, .int i4), (5, .int i5), (6, .int i6), (7, .int i7), (8, .int i8), (9, .int i9), (10, .int i10)] [] h).trans ?_
  rfl
set_option maxRecDepth 100000 in
theorem e_Rf_model_305 (d : Nat) (h : am_H) (r0 : Nat) (l2 : Int64) (i4 : Int32) (i5 : Int32) (i6 : Int32) (i7 : Int32) (i8 : Int32) (i9 : Int32) : f_Rf_model_305 d h r0 l2 i4 i5 i6 i7 i8 i9 = (
    if i9 = 0 then
      f_Rf_model_189 d h r0 l2 i4 i5 i6 i7 (i8 + 1)
    else
    am_gp h r0 8 44 fun p_1 =>
    am_ar h 10 p_1 i4 fun j_2 =>
    am_ar h 10 p_1 i4 fun j_3 =>
    f_Rf_model_189 d (am_sL h p_1 j_3 ((am_L h p_1 j_2) ||| (am_lshl 1 i8))) r0 l2 i4 i5 i6 i7 (i8 + 1)) := by
  refine (am_sem_seg (am_sm am_MT d) m_Rf_model 14 305 [(0, .ref r0), (2, .long l2), (4, .int i4), (5, .int i5), (6, .int i6), (7, .int i7), (8, .int i8), (9, .int i9)] [] h).trans ?_
  rfl
set_option maxRecDepth 100000 in
theorem e_Rf_print (d : Nat) (h : am_H) (r0 : Nat) : f_Rf_print (d + 1) h r0 = (
    am_ck h r0 8 <|
    am_ck (am_sI h r0 0 0) r0 8 <| am_cv (f_Rf_classifies d (am_sI h r0 0 0) r0) fun h_1 =>
    f_Rf_print_13 (d + 1) h_1 r0 0 0) := by
  refine (am_sem_seg (am_sm am_MT (d + 1)) m_Rf_print 9 0 [(0, .ref r0)] [] h).trans ?_
  rfl
set_option maxRecDepth 100000 in
theorem e_Rf_print_13 (d : Nat) (h : am_H) (r0 : Nat) (l1 : Int64) (i3 : Int32) : f_Rf_print_13 d h r0 l1 i3 = (
    am_gp h r0 8 9 fun p_1 =>
    am_ar h 9 p_1 2 fun j_2 =>
    if (am_I h p_1 j_2) ≤ i3 then
      some (.inr (some (.long l1)), h)
    else
    f_Rf_print_29 d h r0 l1 i3 0 0) := by
  refine (am_sem_seg (am_sm am_MT d) m_Rf_print 10 13 [(0, .ref r0), (1, .long l1), (3, .int i3)] [] h).trans ?_
  rfl
set_option maxRecDepth 100000 in
theorem e_Rf_print_29 (d : Nat) (h : am_H) (r0 : Nat) (l1 : Int64) (i3 : Int32) (i4 : Int32) (i5 : Int32) : f_Rf_print_29 (d + 1) h r0 l1 i3 i4 i5 = (
    if 8 ≤ i5 then
      am_gp h r0 8 18 fun p_1 =>
      am_ar h 10 p_1 i3 fun j_2 =>
      am_ci (f_Rf_bits d h (am_L h p_1 j_2)) fun x_4 h_3 =>
      f_Rf_print_13 (d + 1) h_3 r0 ((31 * ((31 * l1) + (Int32.toInt64 x_4))) + (Int32.toInt64 i4)) (i3 + 1)
    else
    am_gp h r0 8 20 fun p_5 =>
    am_ap h 14 p_5 i3 fun p_6 =>
    am_ar h 10 p_6 i5 fun j_7 =>
    am_ci (f_Rf_bits d h (am_L h p_6 j_7)) fun x_9 h_8 =>
    f_Rf_print_29 (d + 1) h_8 r0 l1 i3 (i4 + x_9) (i5 + 1)) := by
  refine (am_sem_seg (am_sm am_MT (d + 1)) m_Rf_print 21 29 [(0, .ref r0), (1, .long l1), (3, .int i3), (4, .int i4), (5, .int i5)] [] h).trans ?_
  rfl
set_option maxRecDepth 100000 in
theorem e_Rf_status (d : Nat) (h : am_H) (r0 : Nat) (i1 : Int32) : f_Rf_status (d + 1) h r0 i1 = (
    am_ck h r0 8 <|
    am_ci (f_Rf_in d (am_sI h r0 0 0) i1 0 2) fun x_2 h_1 =>
    if x_2 = 0 then
      some (.inr (some (.int (-1))), h_1)
    else
    am_gp h_1 r0 8 1 fun p_3 =>
    am_ar h_1 9 p_3 i1 fun j_4 =>
    some (.inr (some (.int (am_I h_1 p_3 j_4))), h_1)) := by
  refine (am_sem_seg (am_sm am_MT (d + 1)) m_Rf_status 14 0 [(0, .ref r0), (1, .int i1)] [] h).trans ?_
  rfl
