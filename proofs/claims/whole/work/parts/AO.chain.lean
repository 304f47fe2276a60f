/-! ===== the constructors, step by step ===== -/
theorem zc_c2 (h : am_H) (k m r j : Nat) (v : Option Nat) (t : List zc_T) : zc_R h (zc_N k m :: zc_P r j v :: t) = zc_R (am_sP (am_nw h (k, m)) r j v) t := rfl
theorem zc_cM (h : am_H) (a b n k r j : Nat) (v : Option Nat) (t : List zc_T) : zc_R h (zc_M a b n k :: zc_P r j v :: t) = zc_R (am_sP (am_nm h a b n k) r j v) t := rfl
theorem zc_cI (h : am_H) (r j : Nat) (v : Int32) (t : List zc_T) : zc_R h (zc_I r j v :: t) = zc_R (am_sI h r j v) t := rfl
theorem zc_cL (h : am_H) (r j : Nat) (v : Int64) (t : List zc_T) : zc_R h (zc_L r j v :: t) = zc_R (am_sL h r j v) t := rfl
theorem zc_cP (h : am_H) (r j : Nat) (v : Option Nat) (t : List zc_T) : zc_R h (zc_P r j v :: t) = zc_R (am_sP h r j v) t := rfl
theorem zc_Ra : ∀ (l t : List zc_T) (h : am_H), zc_R h (l ++ t) = zc_R (zc_R h l) t
  | [], _, _ => rfl
  | s :: l, t, h => zc_Ra l t (zc_1 h s)
theorem zc_sb (h : am_H) (k m : Nat) (l : List zc_T) (r j : Nat) (v : Option Nat) (t T : List zc_T) (e : l ++ zc_P r j v :: t = T) : zc_R (am_sP (zc_R (am_nw h (k, m)) l) r j v) t = zc_R h (zc_N k m :: T) := by
  rw [← e]
  exact (zc_Ra l (zc_P r j v :: t) (am_nw h (k, m))).symm
theorem zc_pn {h : am_H} {b j b' j' : Nat} {v : Option Nat} {p : Nat} (hb : b' ≠ b ∨ j' ≠ j) (e : am_P h b' j' = some p) : am_P (am_sP h b j v) b' j' = some p := by
  rw [pc_P_P, if_neg (by omega)]
  exact e
theorem zc_pa {h : am_H} {b j b' j' n : Nat} {q : Nat × Nat} {v : Option Nat} {p : Nat} (hl : (am_S h).length = n) (hb : b' ≠ b ∨ j' ≠ j) (hn : b' ≠ n) (e : am_P h b' j' = some p) : am_P (am_sP (am_nw h q) b j v) b' j' = some p := by
  rw [pc_P_P, if_neg (by omega)]
  exact (if_neg (by rw [hl]; exact hn)).trans e
theorem zc_pw {h : am_H} {b j n : Nat} {q : Nat × Nat} {p : Nat} (hl : (am_S h).length = n) (hn : b ≠ n) (e : am_P h b j = some p) : am_P (am_nw h q) b j = some p := (if_neg (by rw [hl]; exact hn)).trans e
theorem zc_pq {h : am_H} {b j : Nat} {v w : Option Nat} (e : v = w) : am_P (am_sP h b j v) b j = w := by
  rw [pc_P_P, if_pos ⟨rfl, rfl⟩]
  exact e
theorem zc_kS {h : am_H} {r c : Nat} {q : Nat × Nat} {l : List zc_T} {b j : Nat} {v : Option Nat} (K : am_kd h r c = true) : am_kd (am_sP (zc_R (am_nw h q) l) b j v) r c = true := by
  rw [kd_P]
  exact zc_kR (zc_kn K)
theorem zc_kT {h : am_H} {k n r : Nat} {l : List zc_T} {b j : Nat} {v : Option Nat} (e : (am_S h).length = r) : am_kd (am_sP (zc_R (am_nw h (k, n)) l) b j v) r k = true := by
  rw [kd_P]
  exact zc_kR (zc_kk e)
theorem zc_lS {h : am_H} {n : Nat} {q : Nat × Nat} {l : List zc_T} {b j : Nat} {v : Option Nat} (e : (am_S h).length = n) : (am_S (am_sP (zc_R (am_nw h q) l) b j v)).length = n + 1 + (zc_S l).length := by
  rw [pc_sS_P]
  exact zc_lR (zc_lw e)
theorem zc_Gs {h : am_H} {q : Nat × Nat} {l : List zc_T} {b j : Nat} {v : Option Nat} (e : am_G h = 0) : am_G (am_sP (zc_R (am_nw h q) l) b j v) = 0 := by
  show am_G (zc_R (am_nw h q) l) = 0
  rw [(zc_Gr _ _).1]
  exact e
theorem zc_ps {h : am_H} {b j b' j' n : Nat} {q : Nat × Nat} {l : List zc_T} {v : Option Nat} {p : Nat} (hl : (am_S h).length = n) (h1 : b < n) (ht : l.all (zc_t1 b) = true) (hj : b ≠ b' ∨ j ≠ j') (e : am_P h b j = some p) : am_P (am_sP (zc_R (am_nw h q) l) b' j' v) b j = some p := by
  refine zc_pn hj ?_
  rw [(zc_kp l (am_nw h q) b (by rw [zc_lw hl]; omega) ht).2.2]
  exact zc_pw hl (by omega) e
def zk_Wo4_33 : List zc_T := []
theorem i_Wo4_33 (d : Nat) {h : am_H} (hG : am_G h = 0) (hk : am_kd h 4 6 = true) (hl : (am_S h).length = 6) : f_Wo_init_33 d h = some (.inr none, zc_R h zk_Wo4_33) := e_Wo_init_33 d h
def zk_Wo4_17 : List zc_T := zc_I 4 0 24 :: zk_Wo4_33
theorem i_Wo4_17 (d : Nat) {h : am_H} (hG : am_G h = 0) (hk : am_kd h 4 6 = true) (hl : (am_S h).length = 6) : f_Wo_init_17 d h 4 24 = some (.inr none, zc_R h zk_Wo4_17) := by
  rw [e_Wo_init_17, if_pos (by decide), lz_k hk, i_Wo4_33 d (h := am_sI h 4 0 24) hG hk hl]
  exact congrArg (fun z => some (Sum.inr none, z)) (zc_cI h 4 0 24 zk_Wo4_33).symm
def zk_Wo4_12 : List zc_T := zc_I 4 2 0 :: zk_Wo4_17
theorem i_Wo4_12 (d : Nat) {h : am_H} (hG : am_G h = 0) (hk : am_kd h 4 6 = true) (hl : (am_S h).length = 6) : f_Wo_init_12 d h 4 24 = some (.inr none, zc_R h zk_Wo4_12) := by
  rw [e_Wo_init_12, lz_k hk, i_Wo4_17 d (h := am_sI h 4 2 0) hG hk hl]
  exact congrArg (fun z => some (Sum.inr none, z)) (zc_cI h 4 2 0 zk_Wo4_17).symm
def zk_Wo4_0 : List zc_T := zc_N 10 24 :: zc_P 4 1 (some 5) :: zk_Wo4_12
theorem i_Wo4_0 (d : Nat) {h : am_H} (hG : am_G h = 0) (hk : am_kd h 4 6 = true) (hl : (am_S h).length = 5) : f_Wo_init d h 4 24 = some (.inr none, zc_R h zk_Wo4_0) := by
  rw [e_Wo_init, tn_24, zc_al hG hk (by decide) (by decide), hl, i_Wo4_12 d (h := am_sP (am_nw h (10, 24)) 4 1 (some 5)) hG (zc_kP hk) (zc_ln hl)]
  exact congrArg (fun z => some (Sum.inr none, z)) (zc_c2 h 10 24 4 1 (some 5) zk_Wo4_12).symm
theorem zn_Wo4 : (zc_S zk_Wo4_0).length = 1 := by decide +kernel
def zk_Wo6_33 : List zc_T := []
theorem i_Wo6_33 (d : Nat) {h : am_H} (hG : am_G h = 0) (hk : am_kd h 6 6 = true) (hl : (am_S h).length = 8) : f_Wo_init_33 d h = some (.inr none, zc_R h zk_Wo6_33) := e_Wo_init_33 d h
def zk_Wo6_17 : List zc_T := zc_I 6 0 8 :: zk_Wo6_33
theorem i_Wo6_17 (d : Nat) {h : am_H} (hG : am_G h = 0) (hk : am_kd h 6 6 = true) (hl : (am_S h).length = 8) : f_Wo_init_17 d h 6 8 = some (.inr none, zc_R h zk_Wo6_17) := by
  rw [e_Wo_init_17, if_neg (by decide), lz_k hk, i_Wo6_33 d (h := am_sI h 6 0 8) hG hk hl]
  exact congrArg (fun z => some (Sum.inr none, z)) (zc_cI h 6 0 8 zk_Wo6_33).symm
def zk_Wo6_12 : List zc_T := zc_I 6 2 0 :: zk_Wo6_17
theorem i_Wo6_12 (d : Nat) {h : am_H} (hG : am_G h = 0) (hk : am_kd h 6 6 = true) (hl : (am_S h).length = 8) : f_Wo_init_12 d h 6 8 = some (.inr none, zc_R h zk_Wo6_12) := by
  rw [e_Wo_init_12, lz_k hk, i_Wo6_17 d (h := am_sI h 6 2 0) hG hk hl]
  exact congrArg (fun z => some (Sum.inr none, z)) (zc_cI h 6 2 0 zk_Wo6_17).symm
def zk_Wo6_0 : List zc_T := zc_N 10 24 :: zc_P 6 1 (some 7) :: zk_Wo6_12
theorem i_Wo6_0 (d : Nat) {h : am_H} (hG : am_G h = 0) (hk : am_kd h 6 6 = true) (hl : (am_S h).length = 7) : f_Wo_init d h 6 8 = some (.inr none, zc_R h zk_Wo6_0) := by
  rw [e_Wo_init, tn_24, zc_al hG hk (by decide) (by decide), hl, i_Wo6_12 d (h := am_sP (am_nw h (10, 24)) 6 1 (some 7)) hG (zc_kP hk) (zc_ln hl)]
  exact congrArg (fun z => some (Sum.inr none, z)) (zc_c2 h 10 24 6 1 (some 7) zk_Wo6_12).symm
theorem zn_Wo6 : (zc_S zk_Wo6_0).length = 1 := by decide +kernel
def zk_On3_141 : List zc_T := []
theorem i_On3_141 (d : Nat) {h : am_H} (hG : am_G h = 0) (hk : am_kd h 3 2 = true) (hl : (am_S h).length = 20) : f_On_init_141 (d + 1) h 3 = f_On_init_141 (d + 1) (zc_R h zk_On3_141) 3 := rfl
def zk_On3_133 : List zc_T := zc_N 9 32 :: zc_P 3 16 (some 19) :: zk_On3_141
theorem i_On3_133 (d : Nat) {h : am_H} (hG : am_G h = 0) (hk : am_kd h 3 2 = true) (hl : (am_S h).length = 19) : f_On_init_133 (d + 1) h 3 = f_On_init_141 (d + 1) (zc_R h zk_On3_133) 3 := by
  rw [e_On_init_133, tn_32, zc_al hG hk (by decide) (by decide), hl, i_On3_141 d (h := am_sP (am_nw h (9, 32)) 3 16 (some 19)) hG (zc_kP hk) (zc_ln hl)]
  exact congrArg (fun z => f_On_init_141 (d + 1) z 3) (zc_c2 h 9 32 3 16 (some 19) zk_On3_141).symm
def zk_On3_125 : List zc_T := zc_N 9 32 :: zc_P 3 15 (some 18) :: zk_On3_133
theorem i_On3_125 (d : Nat) {h : am_H} (hG : am_G h = 0) (hk : am_kd h 3 2 = true) (hl : (am_S h).length = 18) : f_On_init_125 (d + 1) h 3 = f_On_init_141 (d + 1) (zc_R h zk_On3_125) 3 := by
  rw [e_On_init_125, tn_32, zc_al hG hk (by decide) (by decide), hl, i_On3_133 d (h := am_sP (am_nw h (9, 32)) 3 15 (some 18)) hG (zc_kP hk) (zc_ln hl)]
  exact congrArg (fun z => f_On_init_141 (d + 1) z 3) (zc_c2 h 9 32 3 15 (some 18) zk_On3_133).symm
def zk_On3_117 : List zc_T := zc_N 9 32 :: zc_P 3 14 (some 17) :: zk_On3_125
theorem i_On3_117 (d : Nat) {h : am_H} (hG : am_G h = 0) (hk : am_kd h 3 2 = true) (hl : (am_S h).length = 17) : f_On_init_117 (d + 1) h 3 = f_On_init_141 (d + 1) (zc_R h zk_On3_117) 3 := by
  rw [e_On_init_117, tn_32, zc_al hG hk (by decide) (by decide), hl, i_On3_125 d (h := am_sP (am_nw h (9, 32)) 3 14 (some 17)) hG (zc_kP hk) (zc_ln hl)]
  exact congrArg (fun z => f_On_init_141 (d + 1) z 3) (zc_c2 h 9 32 3 14 (some 17) zk_On3_125).symm
def zk_On3_109 : List zc_T := zc_N 9 32 :: zc_P 3 13 (some 16) :: zk_On3_117
theorem i_On3_109 (d : Nat) {h : am_H} (hG : am_G h = 0) (hk : am_kd h 3 2 = true) (hl : (am_S h).length = 16) : f_On_init_109 (d + 1) h 3 = f_On_init_141 (d + 1) (zc_R h zk_On3_109) 3 := by
  rw [e_On_init_109, tn_32, zc_al hG hk (by decide) (by decide), hl, i_On3_117 d (h := am_sP (am_nw h (9, 32)) 3 13 (some 16)) hG (zc_kP hk) (zc_ln hl)]
  exact congrArg (fun z => f_On_init_141 (d + 1) z 3) (zc_c2 h 9 32 3 13 (some 16) zk_On3_117).symm
def zk_On3_101 : List zc_T := zc_N 9 32 :: zc_P 3 12 (some 15) :: zk_On3_109
theorem i_On3_101 (d : Nat) {h : am_H} (hG : am_G h = 0) (hk : am_kd h 3 2 = true) (hl : (am_S h).length = 15) : f_On_init_101 (d + 1) h 3 = f_On_init_141 (d + 1) (zc_R h zk_On3_101) 3 := by
  rw [e_On_init_101, tn_32, zc_al hG hk (by decide) (by decide), hl, i_On3_109 d (h := am_sP (am_nw h (9, 32)) 3 12 (some 15)) hG (zc_kP hk) (zc_ln hl)]
  exact congrArg (fun z => f_On_init_141 (d + 1) z 3) (zc_c2 h 9 32 3 12 (some 15) zk_On3_109).symm
def zk_On3_93 : List zc_T := zc_N 9 32 :: zc_P 3 11 (some 14) :: zk_On3_101
theorem i_On3_93 (d : Nat) {h : am_H} (hG : am_G h = 0) (hk : am_kd h 3 2 = true) (hl : (am_S h).length = 14) : f_On_init_93 (d + 1) h 3 = f_On_init_141 (d + 1) (zc_R h zk_On3_93) 3 := by
  rw [e_On_init_93, tn_32, zc_al hG hk (by decide) (by decide), hl, i_On3_101 d (h := am_sP (am_nw h (9, 32)) 3 11 (some 14)) hG (zc_kP hk) (zc_ln hl)]
  exact congrArg (fun z => f_On_init_141 (d + 1) z 3) (zc_c2 h 9 32 3 11 (some 14) zk_On3_101).symm
def zk_On3_88 : List zc_T := zc_L 3 10 0 :: zk_On3_93
theorem i_On3_88 (d : Nat) {h : am_H} (hG : am_G h = 0) (hk : am_kd h 3 2 = true) (hl : (am_S h).length = 14) : f_On_init_88 (d + 1) h 3 = f_On_init_141 (d + 1) (zc_R h zk_On3_88) 3 := by
  rw [e_On_init_88, lz_k hk, i_On3_93 d (h := am_sL h 3 10 0) hG hk hl]
  exact congrArg (fun z => f_On_init_141 (d + 1) z 3) (zc_cL h 3 10 0 zk_On3_93).symm
def zk_On3_83 : List zc_T := zc_I 3 9 0 :: zk_On3_88
theorem i_On3_83 (d : Nat) {h : am_H} (hG : am_G h = 0) (hk : am_kd h 3 2 = true) (hl : (am_S h).length = 14) : f_On_init_83 (d + 1) h 3 = f_On_init_141 (d + 1) (zc_R h zk_On3_83) 3 := by
  rw [e_On_init_83, lz_k hk, i_On3_88 d (h := am_sI h 3 9 0) hG hk hl]
  exact congrArg (fun z => f_On_init_141 (d + 1) z 3) (zc_cI h 3 9 0 zk_On3_88).symm
def zk_On3_75 : List zc_T := zc_N 9 60 :: zc_P 3 8 (some 13) :: zk_On3_83
theorem i_On3_75 (d : Nat) {h : am_H} (hG : am_G h = 0) (hk : am_kd h 3 2 = true) (hl : (am_S h).length = 13) : f_On_init_75 (d + 1) h 3 = f_On_init_141 (d + 1) (zc_R h zk_On3_75) 3 := by
  rw [e_On_init_75, tn_60, zc_al hG hk (by decide) (by decide), hl, i_On3_83 d (h := am_sP (am_nw h (9, 60)) 3 8 (some 13)) hG (zc_kP hk) (zc_ln hl)]
  exact congrArg (fun z => f_On_init_141 (d + 1) z 3) (zc_c2 h 9 60 3 8 (some 13) zk_On3_83).symm
def zk_On3_67 : List zc_T := zc_N 9 60 :: zc_P 3 7 (some 12) :: zk_On3_75
theorem i_On3_67 (d : Nat) {h : am_H} (hG : am_G h = 0) (hk : am_kd h 3 2 = true) (hl : (am_S h).length = 12) : f_On_init_67 (d + 1) h 3 = f_On_init_141 (d + 1) (zc_R h zk_On3_67) 3 := by
  rw [e_On_init_67, tn_60, zc_al hG hk (by decide) (by decide), hl, i_On3_75 d (h := am_sP (am_nw h (9, 60)) 3 7 (some 12)) hG (zc_kP hk) (zc_ln hl)]
  exact congrArg (fun z => f_On_init_141 (d + 1) z 3) (zc_c2 h 9 60 3 7 (some 12) zk_On3_75).symm
def zk_On3_59 : List zc_T := zc_N 9 60 :: zc_P 3 6 (some 11) :: zk_On3_67
theorem i_On3_59 (d : Nat) {h : am_H} (hG : am_G h = 0) (hk : am_kd h 3 2 = true) (hl : (am_S h).length = 11) : f_On_init_59 (d + 1) h 3 = f_On_init_141 (d + 1) (zc_R h zk_On3_59) 3 := by
  rw [e_On_init_59, tn_60, zc_al hG hk (by decide) (by decide), hl, i_On3_67 d (h := am_sP (am_nw h (9, 60)) 3 6 (some 11)) hG (zc_kP hk) (zc_ln hl)]
  exact congrArg (fun z => f_On_init_141 (d + 1) z 3) (zc_c2 h 9 60 3 6 (some 11) zk_On3_67).symm
def zk_On3_51 : List zc_T := zc_N 9 60 :: zc_P 3 5 (some 10) :: zk_On3_59
theorem i_On3_51 (d : Nat) {h : am_H} (hG : am_G h = 0) (hk : am_kd h 3 2 = true) (hl : (am_S h).length = 10) : f_On_init_51 (d + 1) h 3 = f_On_init_141 (d + 1) (zc_R h zk_On3_51) 3 := by
  rw [e_On_init_51, tn_60, zc_al hG hk (by decide) (by decide), hl, i_On3_59 d (h := am_sP (am_nw h (9, 60)) 3 5 (some 10)) hG (zc_kP hk) (zc_ln hl)]
  exact congrArg (fun z => f_On_init_141 (d + 1) z 3) (zc_c2 h 9 60 3 5 (some 10) zk_On3_59).symm
def zk_On3_43 : List zc_T := zc_N 9 60 :: zc_P 3 4 (some 9) :: zk_On3_51
theorem i_On3_43 (d : Nat) {h : am_H} (hG : am_G h = 0) (hk : am_kd h 3 2 = true) (hl : (am_S h).length = 9) : f_On_init_43 (d + 1) h 3 = f_On_init_141 (d + 1) (zc_R h zk_On3_43) 3 := by
  rw [e_On_init_43, tn_60, zc_al hG hk (by decide) (by decide), hl, i_On3_51 d (h := am_sP (am_nw h (9, 60)) 3 4 (some 9)) hG (zc_kP hk) (zc_ln hl)]
  exact congrArg (fun z => f_On_init_141 (d + 1) z 3) (zc_c2 h 9 60 3 4 (some 9) zk_On3_51).symm
def zk_On3_38 : List zc_T := zc_I 3 3 0 :: zk_On3_43
theorem i_On3_38 (d : Nat) {h : am_H} (hG : am_G h = 0) (hk : am_kd h 3 2 = true) (hl : (am_S h).length = 9) : f_On_init_38 (d + 1) h 3 = f_On_init_141 (d + 1) (zc_R h zk_On3_38) 3 := by
  rw [e_On_init_38, lz_k hk, i_On3_43 d (h := am_sI h 3 3 0) hG hk hl]
  exact congrArg (fun z => f_On_init_141 (d + 1) z 3) (zc_cI h 3 3 0 zk_On3_43).symm
def zk_On3_30 : List zc_T := zc_N 9 24 :: zc_P 3 2 (some 8) :: zk_On3_38
theorem i_On3_30 (d : Nat) {h : am_H} (hG : am_G h = 0) (hk : am_kd h 3 2 = true) (hl : (am_S h).length = 8) : f_On_init_30 (d + 1) h 3 = f_On_init_141 (d + 1) (zc_R h zk_On3_30) 3 := by
  rw [e_On_init_30, tn_24, zc_al hG hk (by decide) (by decide), hl, i_On3_38 d (h := am_sP (am_nw h (9, 24)) 3 2 (some 8)) hG (zc_kP hk) (zc_ln hl)]
  exact congrArg (fun z => f_On_init_141 (d + 1) z 3) (zc_c2 h 9 24 3 2 (some 8) zk_On3_38).symm
def zk_On3_17 : List zc_T := zc_N 6 3 :: (zk_Wo6_0 ++ zc_P 3 1 (some 6) :: zk_On3_30)
theorem i_On3_17 (d : Nat) {h : am_H} (hG : am_G h = 0) (hk : am_kd h 3 2 = true) (hl : (am_S h).length = 6) : f_On_init_17 (d + 1) h 3 = f_On_init_141 (d + 1) (zc_R h zk_On3_17) 3 := by
  rw [e_On_init_17, zc_ob hG, hl, lz_k (zc_kk hl), lz_cv (i_Wo6_0 d (h := am_nw h (6, 3)) hG (zc_kk hl) (zc_lw hl)), lz_k (zc_kR (zc_kn hk)), i_On3_30 d (h := am_sP (zc_R (am_nw h (6, 3)) zk_Wo6_0) 3 1 (some 6)) (zc_Gs hG) (zc_kS hk) ((zc_lS hl).trans (by rw [zn_Wo6])) ]
  exact congrArg (fun z => f_On_init_141 (d + 1) z 3) (zc_sb h 6 3 zk_Wo6_0 3 1 (some 6) zk_On3_30 _ rfl)
def zk_On3_0 : List zc_T := zc_N 6 3 :: (zk_Wo4_0 ++ zc_P 3 0 (some 4) :: zk_On3_17)
theorem i_On3_0 (d : Nat) {h : am_H} (hG : am_G h = 0) (hk : am_kd h 3 2 = true) (hl : (am_S h).length = 4) : f_On_init (d + 1) h 3 = f_On_init_141 (d + 1) (zc_R h zk_On3_0) 3 := by
  rw [e_On_init, zc_ob hG, hl, lz_k (zc_kk hl), lz_cv (i_Wo4_0 d (h := am_nw h (6, 3)) hG (zc_kk hl) (zc_lw hl)), lz_k (zc_kR (zc_kn hk)), i_On3_17 d (h := am_sP (zc_R (am_nw h (6, 3)) zk_Wo4_0) 3 0 (some 4)) (zc_Gs hG) (zc_kS hk) ((zc_lS hl).trans (by rw [zn_Wo4])) ]
  exact congrArg (fun z => f_On_init_141 (d + 1) z 3) (zc_sb h 6 3 zk_Wo4_0 3 0 (some 4) zk_On3_17 _ rfl)
theorem zn_On3 : (zc_S zk_On3_0).length = 16 := by decide +kernel
def zk_Wo21_33 : List zc_T := []
theorem i_Wo21_33 (d : Nat) {h : am_H} (hG : am_G h = 0) (hk : am_kd h 21 6 = true) (hl : (am_S h).length = 23) : f_Wo_init_33 d h = some (.inr none, zc_R h zk_Wo21_33) := e_Wo_init_33 d h
def zk_Wo21_17 : List zc_T := zc_I 21 0 24 :: zk_Wo21_33
theorem i_Wo21_17 (d : Nat) {h : am_H} (hG : am_G h = 0) (hk : am_kd h 21 6 = true) (hl : (am_S h).length = 23) : f_Wo_init_17 d h 21 24 = some (.inr none, zc_R h zk_Wo21_17) := by
  rw [e_Wo_init_17, if_pos (by decide), lz_k hk, i_Wo21_33 d (h := am_sI h 21 0 24) hG hk hl]
  exact congrArg (fun z => some (Sum.inr none, z)) (zc_cI h 21 0 24 zk_Wo21_33).symm
def zk_Wo21_12 : List zc_T := zc_I 21 2 0 :: zk_Wo21_17
theorem i_Wo21_12 (d : Nat) {h : am_H} (hG : am_G h = 0) (hk : am_kd h 21 6 = true) (hl : (am_S h).length = 23) : f_Wo_init_12 d h 21 24 = some (.inr none, zc_R h zk_Wo21_12) := by
  rw [e_Wo_init_12, lz_k hk, i_Wo21_17 d (h := am_sI h 21 2 0) hG hk hl]
  exact congrArg (fun z => some (Sum.inr none, z)) (zc_cI h 21 2 0 zk_Wo21_17).symm
def zk_Wo21_0 : List zc_T := zc_N 10 24 :: zc_P 21 1 (some 22) :: zk_Wo21_12
theorem i_Wo21_0 (d : Nat) {h : am_H} (hG : am_G h = 0) (hk : am_kd h 21 6 = true) (hl : (am_S h).length = 22) : f_Wo_init d h 21 24 = some (.inr none, zc_R h zk_Wo21_0) := by
  rw [e_Wo_init, tn_24, zc_al hG hk (by decide) (by decide), hl, i_Wo21_12 d (h := am_sP (am_nw h (10, 24)) 21 1 (some 22)) hG (zc_kP hk) (zc_ln hl)]
  exact congrArg (fun z => some (Sum.inr none, z)) (zc_c2 h 10 24 21 1 (some 22) zk_Wo21_12).symm
theorem zn_Wo21 : (zc_S zk_Wo21_0).length = 1 := by decide +kernel
def zk_Wo23_33 : List zc_T := []
theorem i_Wo23_33 (d : Nat) {h : am_H} (hG : am_G h = 0) (hk : am_kd h 23 6 = true) (hl : (am_S h).length = 25) : f_Wo_init_33 d h = some (.inr none, zc_R h zk_Wo23_33) := e_Wo_init_33 d h
def zk_Wo23_17 : List zc_T := zc_I 23 0 8 :: zk_Wo23_33
theorem i_Wo23_17 (d : Nat) {h : am_H} (hG : am_G h = 0) (hk : am_kd h 23 6 = true) (hl : (am_S h).length = 25) : f_Wo_init_17 d h 23 8 = some (.inr none, zc_R h zk_Wo23_17) := by
  rw [e_Wo_init_17, if_neg (by decide), lz_k hk, i_Wo23_33 d (h := am_sI h 23 0 8) hG hk hl]
  exact congrArg (fun z => some (Sum.inr none, z)) (zc_cI h 23 0 8 zk_Wo23_33).symm
def zk_Wo23_12 : List zc_T := zc_I 23 2 0 :: zk_Wo23_17
theorem i_Wo23_12 (d : Nat) {h : am_H} (hG : am_G h = 0) (hk : am_kd h 23 6 = true) (hl : (am_S h).length = 25) : f_Wo_init_12 d h 23 8 = some (.inr none, zc_R h zk_Wo23_12) := by
  rw [e_Wo_init_12, lz_k hk, i_Wo23_17 d (h := am_sI h 23 2 0) hG hk hl]
  exact congrArg (fun z => some (Sum.inr none, z)) (zc_cI h 23 2 0 zk_Wo23_17).symm
def zk_Wo23_0 : List zc_T := zc_N 10 24 :: zc_P 23 1 (some 24) :: zk_Wo23_12
theorem i_Wo23_0 (d : Nat) {h : am_H} (hG : am_G h = 0) (hk : am_kd h 23 6 = true) (hl : (am_S h).length = 24) : f_Wo_init d h 23 8 = some (.inr none, zc_R h zk_Wo23_0) := by
  rw [e_Wo_init, tn_24, zc_al hG hk (by decide) (by decide), hl, i_Wo23_12 d (h := am_sP (am_nw h (10, 24)) 23 1 (some 24)) hG (zc_kP hk) (zc_ln hl)]
  exact congrArg (fun z => some (Sum.inr none, z)) (zc_c2 h 10 24 23 1 (some 24) zk_Wo23_12).symm
theorem zn_Wo23 : (zc_S zk_Wo23_0).length = 1 := by decide +kernel
def zk_On20_141 : List zc_T := []
theorem i_On20_141 (d : Nat) {h : am_H} (hG : am_G h = 0) (hk : am_kd h 20 2 = true) (hl : (am_S h).length = 37) : f_On_init_141 (d + 1) h 20 = f_On_init_141 (d + 1) (zc_R h zk_On20_141) 20 := rfl
def zk_On20_133 : List zc_T := zc_N 9 32 :: zc_P 20 16 (some 36) :: zk_On20_141
theorem i_On20_133 (d : Nat) {h : am_H} (hG : am_G h = 0) (hk : am_kd h 20 2 = true) (hl : (am_S h).length = 36) : f_On_init_133 (d + 1) h 20 = f_On_init_141 (d + 1) (zc_R h zk_On20_133) 20 := by
  rw [e_On_init_133, tn_32, zc_al hG hk (by decide) (by decide), hl, i_On20_141 d (h := am_sP (am_nw h (9, 32)) 20 16 (some 36)) hG (zc_kP hk) (zc_ln hl)]
  exact congrArg (fun z => f_On_init_141 (d + 1) z 20) (zc_c2 h 9 32 20 16 (some 36) zk_On20_141).symm
def zk_On20_125 : List zc_T := zc_N 9 32 :: zc_P 20 15 (some 35) :: zk_On20_133
theorem i_On20_125 (d : Nat) {h : am_H} (hG : am_G h = 0) (hk : am_kd h 20 2 = true) (hl : (am_S h).length = 35) : f_On_init_125 (d + 1) h 20 = f_On_init_141 (d + 1) (zc_R h zk_On20_125) 20 := by
  rw [e_On_init_125, tn_32, zc_al hG hk (by decide) (by decide), hl, i_On20_133 d (h := am_sP (am_nw h (9, 32)) 20 15 (some 35)) hG (zc_kP hk) (zc_ln hl)]
  exact congrArg (fun z => f_On_init_141 (d + 1) z 20) (zc_c2 h 9 32 20 15 (some 35) zk_On20_133).symm
def zk_On20_117 : List zc_T := zc_N 9 32 :: zc_P 20 14 (some 34) :: zk_On20_125
theorem i_On20_117 (d : Nat) {h : am_H} (hG : am_G h = 0) (hk : am_kd h 20 2 = true) (hl : (am_S h).length = 34) : f_On_init_117 (d + 1) h 20 = f_On_init_141 (d + 1) (zc_R h zk_On20_117) 20 := by
  rw [e_On_init_117, tn_32, zc_al hG hk (by decide) (by decide), hl, i_On20_125 d (h := am_sP (am_nw h (9, 32)) 20 14 (some 34)) hG (zc_kP hk) (zc_ln hl)]
  exact congrArg (fun z => f_On_init_141 (d + 1) z 20) (zc_c2 h 9 32 20 14 (some 34) zk_On20_125).symm
def zk_On20_109 : List zc_T := zc_N 9 32 :: zc_P 20 13 (some 33) :: zk_On20_117
theorem i_On20_109 (d : Nat) {h : am_H} (hG : am_G h = 0) (hk : am_kd h 20 2 = true) (hl : (am_S h).length = 33) : f_On_init_109 (d + 1) h 20 = f_On_init_141 (d + 1) (zc_R h zk_On20_109) 20 := by
  rw [e_On_init_109, tn_32, zc_al hG hk (by decide) (by decide), hl, i_On20_117 d (h := am_sP (am_nw h (9, 32)) 20 13 (some 33)) hG (zc_kP hk) (zc_ln hl)]
  exact congrArg (fun z => f_On_init_141 (d + 1) z 20) (zc_c2 h 9 32 20 13 (some 33) zk_On20_117).symm
def zk_On20_101 : List zc_T := zc_N 9 32 :: zc_P 20 12 (some 32) :: zk_On20_109
theorem i_On20_101 (d : Nat) {h : am_H} (hG : am_G h = 0) (hk : am_kd h 20 2 = true) (hl : (am_S h).length = 32) : f_On_init_101 (d + 1) h 20 = f_On_init_141 (d + 1) (zc_R h zk_On20_101) 20 := by
  rw [e_On_init_101, tn_32, zc_al hG hk (by decide) (by decide), hl, i_On20_109 d (h := am_sP (am_nw h (9, 32)) 20 12 (some 32)) hG (zc_kP hk) (zc_ln hl)]
  exact congrArg (fun z => f_On_init_141 (d + 1) z 20) (zc_c2 h 9 32 20 12 (some 32) zk_On20_109).symm
def zk_On20_93 : List zc_T := zc_N 9 32 :: zc_P 20 11 (some 31) :: zk_On20_101
theorem i_On20_93 (d : Nat) {h : am_H} (hG : am_G h = 0) (hk : am_kd h 20 2 = true) (hl : (am_S h).length = 31) : f_On_init_93 (d + 1) h 20 = f_On_init_141 (d + 1) (zc_R h zk_On20_93) 20 := by
  rw [e_On_init_93, tn_32, zc_al hG hk (by decide) (by decide), hl, i_On20_101 d (h := am_sP (am_nw h (9, 32)) 20 11 (some 31)) hG (zc_kP hk) (zc_ln hl)]
  exact congrArg (fun z => f_On_init_141 (d + 1) z 20) (zc_c2 h 9 32 20 11 (some 31) zk_On20_101).symm
def zk_On20_88 : List zc_T := zc_L 20 10 0 :: zk_On20_93
theorem i_On20_88 (d : Nat) {h : am_H} (hG : am_G h = 0) (hk : am_kd h 20 2 = true) (hl : (am_S h).length = 31) : f_On_init_88 (d + 1) h 20 = f_On_init_141 (d + 1) (zc_R h zk_On20_88) 20 := by
  rw [e_On_init_88, lz_k hk, i_On20_93 d (h := am_sL h 20 10 0) hG hk hl]
  exact congrArg (fun z => f_On_init_141 (d + 1) z 20) (zc_cL h 20 10 0 zk_On20_93).symm
def zk_On20_83 : List zc_T := zc_I 20 9 0 :: zk_On20_88
theorem i_On20_83 (d : Nat) {h : am_H} (hG : am_G h = 0) (hk : am_kd h 20 2 = true) (hl : (am_S h).length = 31) : f_On_init_83 (d + 1) h 20 = f_On_init_141 (d + 1) (zc_R h zk_On20_83) 20 := by
  rw [e_On_init_83, lz_k hk, i_On20_88 d (h := am_sI h 20 9 0) hG hk hl]
  exact congrArg (fun z => f_On_init_141 (d + 1) z 20) (zc_cI h 20 9 0 zk_On20_88).symm
def zk_On20_75 : List zc_T := zc_N 9 60 :: zc_P 20 8 (some 30) :: zk_On20_83
theorem i_On20_75 (d : Nat) {h : am_H} (hG : am_G h = 0) (hk : am_kd h 20 2 = true) (hl : (am_S h).length = 30) : f_On_init_75 (d + 1) h 20 = f_On_init_141 (d + 1) (zc_R h zk_On20_75) 20 := by
  rw [e_On_init_75, tn_60, zc_al hG hk (by decide) (by decide), hl, i_On20_83 d (h := am_sP (am_nw h (9, 60)) 20 8 (some 30)) hG (zc_kP hk) (zc_ln hl)]
  exact congrArg (fun z => f_On_init_141 (d + 1) z 20) (zc_c2 h 9 60 20 8 (some 30) zk_On20_83).symm
def zk_On20_67 : List zc_T := zc_N 9 60 :: zc_P 20 7 (some 29) :: zk_On20_75
theorem i_On20_67 (d : Nat) {h : am_H} (hG : am_G h = 0) (hk : am_kd h 20 2 = true) (hl : (am_S h).length = 29) : f_On_init_67 (d + 1) h 20 = f_On_init_141 (d + 1) (zc_R h zk_On20_67) 20 := by
  rw [e_On_init_67, tn_60, zc_al hG hk (by decide) (by decide), hl, i_On20_75 d (h := am_sP (am_nw h (9, 60)) 20 7 (some 29)) hG (zc_kP hk) (zc_ln hl)]
  exact congrArg (fun z => f_On_init_141 (d + 1) z 20) (zc_c2 h 9 60 20 7 (some 29) zk_On20_75).symm
def zk_On20_59 : List zc_T := zc_N 9 60 :: zc_P 20 6 (some 28) :: zk_On20_67
theorem i_On20_59 (d : Nat) {h : am_H} (hG : am_G h = 0) (hk : am_kd h 20 2 = true) (hl : (am_S h).length = 28) : f_On_init_59 (d + 1) h 20 = f_On_init_141 (d + 1) (zc_R h zk_On20_59) 20 := by
  rw [e_On_init_59, tn_60, zc_al hG hk (by decide) (by decide), hl, i_On20_67 d (h := am_sP (am_nw h (9, 60)) 20 6 (some 28)) hG (zc_kP hk) (zc_ln hl)]
  exact congrArg (fun z => f_On_init_141 (d + 1) z 20) (zc_c2 h 9 60 20 6 (some 28) zk_On20_67).symm
def zk_On20_51 : List zc_T := zc_N 9 60 :: zc_P 20 5 (some 27) :: zk_On20_59
theorem i_On20_51 (d : Nat) {h : am_H} (hG : am_G h = 0) (hk : am_kd h 20 2 = true) (hl : (am_S h).length = 27) : f_On_init_51 (d + 1) h 20 = f_On_init_141 (d + 1) (zc_R h zk_On20_51) 20 := by
  rw [e_On_init_51, tn_60, zc_al hG hk (by decide) (by decide), hl, i_On20_59 d (h := am_sP (am_nw h (9, 60)) 20 5 (some 27)) hG (zc_kP hk) (zc_ln hl)]
  exact congrArg (fun z => f_On_init_141 (d + 1) z 20) (zc_c2 h 9 60 20 5 (some 27) zk_On20_59).symm
def zk_On20_43 : List zc_T := zc_N 9 60 :: zc_P 20 4 (some 26) :: zk_On20_51
theorem i_On20_43 (d : Nat) {h : am_H} (hG : am_G h = 0) (hk : am_kd h 20 2 = true) (hl : (am_S h).length = 26) : f_On_init_43 (d + 1) h 20 = f_On_init_141 (d + 1) (zc_R h zk_On20_43) 20 := by
  rw [e_On_init_43, tn_60, zc_al hG hk (by decide) (by decide), hl, i_On20_51 d (h := am_sP (am_nw h (9, 60)) 20 4 (some 26)) hG (zc_kP hk) (zc_ln hl)]
  exact congrArg (fun z => f_On_init_141 (d + 1) z 20) (zc_c2 h 9 60 20 4 (some 26) zk_On20_51).symm
def zk_On20_38 : List zc_T := zc_I 20 3 0 :: zk_On20_43
theorem i_On20_38 (d : Nat) {h : am_H} (hG : am_G h = 0) (hk : am_kd h 20 2 = true) (hl : (am_S h).length = 26) : f_On_init_38 (d + 1) h 20 = f_On_init_141 (d + 1) (zc_R h zk_On20_38) 20 := by
  rw [e_On_init_38, lz_k hk, i_On20_43 d (h := am_sI h 20 3 0) hG hk hl]
  exact congrArg (fun z => f_On_init_141 (d + 1) z 20) (zc_cI h 20 3 0 zk_On20_43).symm
def zk_On20_30 : List zc_T := zc_N 9 24 :: zc_P 20 2 (some 25) :: zk_On20_38
theorem i_On20_30 (d : Nat) {h : am_H} (hG : am_G h = 0) (hk : am_kd h 20 2 = true) (hl : (am_S h).length = 25) : f_On_init_30 (d + 1) h 20 = f_On_init_141 (d + 1) (zc_R h zk_On20_30) 20 := by
  rw [e_On_init_30, tn_24, zc_al hG hk (by decide) (by decide), hl, i_On20_38 d (h := am_sP (am_nw h (9, 24)) 20 2 (some 25)) hG (zc_kP hk) (zc_ln hl)]
  exact congrArg (fun z => f_On_init_141 (d + 1) z 20) (zc_c2 h 9 24 20 2 (some 25) zk_On20_38).symm
def zk_On20_17 : List zc_T := zc_N 6 3 :: (zk_Wo23_0 ++ zc_P 20 1 (some 23) :: zk_On20_30)
theorem i_On20_17 (d : Nat) {h : am_H} (hG : am_G h = 0) (hk : am_kd h 20 2 = true) (hl : (am_S h).length = 23) : f_On_init_17 (d + 1) h 20 = f_On_init_141 (d + 1) (zc_R h zk_On20_17) 20 := by
  rw [e_On_init_17, zc_ob hG, hl, lz_k (zc_kk hl), lz_cv (i_Wo23_0 d (h := am_nw h (6, 3)) hG (zc_kk hl) (zc_lw hl)), lz_k (zc_kR (zc_kn hk)), i_On20_30 d (h := am_sP (zc_R (am_nw h (6, 3)) zk_Wo23_0) 20 1 (some 23)) (zc_Gs hG) (zc_kS hk) ((zc_lS hl).trans (by rw [zn_Wo23])) ]
  exact congrArg (fun z => f_On_init_141 (d + 1) z 20) (zc_sb h 6 3 zk_Wo23_0 20 1 (some 23) zk_On20_30 _ rfl)
def zk_On20_0 : List zc_T := zc_N 6 3 :: (zk_Wo21_0 ++ zc_P 20 0 (some 21) :: zk_On20_17)
theorem i_On20_0 (d : Nat) {h : am_H} (hG : am_G h = 0) (hk : am_kd h 20 2 = true) (hl : (am_S h).length = 21) : f_On_init (d + 1) h 20 = f_On_init_141 (d + 1) (zc_R h zk_On20_0) 20 := by
  rw [e_On_init, zc_ob hG, hl, lz_k (zc_kk hl), lz_cv (i_Wo21_0 d (h := am_nw h (6, 3)) hG (zc_kk hl) (zc_lw hl)), lz_k (zc_kR (zc_kn hk)), i_On20_17 d (h := am_sP (zc_R (am_nw h (6, 3)) zk_Wo21_0) 20 0 (some 21)) (zc_Gs hG) (zc_kS hk) ((zc_lS hl).trans (by rw [zn_Wo21])) ]
  exact congrArg (fun z => f_On_init_141 (d + 1) z 20) (zc_sb h 6 3 zk_Wo21_0 20 0 (some 21) zk_On20_17 _ rfl)
theorem zn_On20 : (zc_S zk_On20_0).length = 16 := by decide +kernel
def zk_Re37_102 : List zc_T := []
theorem i_Re37_102 (d : Nat) {h : am_H} (hG : am_G h = 0) (hk : am_kd h 37 3 = true) (hl : (am_S h).length = 40) : f_Re_init_102 d h = some (.inr none, zc_R h zk_Re37_102) := e_Re_init_102 d h
def zk_Re37_97 : List zc_T := zc_P 37 2 (some 20) :: zk_Re37_102
theorem i_Re37_97 (d : Nat) {h : am_H} (hG : am_G h = 0) (hk : am_kd h 37 3 = true) (hl : (am_S h).length = 40) : f_Re_init_97 d h 37 20 = some (.inr none, zc_R h zk_Re37_97) := by
  rw [e_Re_init_97, lz_k hk, i_Re37_102 d (h := am_sP h 37 2 (some 20)) hG hk hl]
  exact congrArg (fun z => some (Sum.inr none, z)) (zc_cP h 37 2 (some 20) zk_Re37_102).symm
def zk_Re37_92 : List zc_T := zc_P 37 0 (some 2) :: zk_Re37_97
theorem i_Re37_92 (d : Nat) {h : am_H} (hG : am_G h = 0) (hk : am_kd h 37 3 = true) (hl : (am_S h).length = 40) : f_Re_init_92 d h 37 2 20 = some (.inr none, zc_R h zk_Re37_92) := by
  rw [e_Re_init_92, lz_k hk, i_Re37_97 d (h := am_sP h 37 0 (some 2)) hG hk hl]
  exact congrArg (fun z => some (Sum.inr none, z)) (zc_cP h 37 0 (some 2) zk_Re37_97).symm
def zk_Re37_87 : List zc_T := zc_I 37 17 0 :: zk_Re37_92
theorem i_Re37_87 (d : Nat) {h : am_H} (hG : am_G h = 0) (hk : am_kd h 37 3 = true) (hl : (am_S h).length = 40) : f_Re_init_87 d h 37 2 20 = some (.inr none, zc_R h zk_Re37_87) := by
  rw [e_Re_init_87, lz_k hk, i_Re37_92 d (h := am_sI h 37 17 0) hG hk hl]
  exact congrArg (fun z => some (Sum.inr none, z)) (zc_cI h 37 17 0 zk_Re37_92).symm
def zk_Re37_82 : List zc_T := zc_I 37 16 0 :: zk_Re37_87
theorem i_Re37_82 (d : Nat) {h : am_H} (hG : am_G h = 0) (hk : am_kd h 37 3 = true) (hl : (am_S h).length = 40) : f_Re_init_82 d h 37 2 20 = some (.inr none, zc_R h zk_Re37_82) := by
  rw [e_Re_init_82, lz_k hk, i_Re37_87 d (h := am_sI h 37 16 0) hG hk hl]
  exact congrArg (fun z => some (Sum.inr none, z)) (zc_cI h 37 16 0 zk_Re37_87).symm
def zk_Re37_73 : List zc_T := zc_N 9 400 :: zc_P 37 15 (some 39) :: zk_Re37_82
theorem i_Re37_73 (d : Nat) {h : am_H} (hG : am_G h = 0) (hk : am_kd h 37 3 = true) (hl : (am_S h).length = 39) : f_Re_init_73 d h 37 2 20 = some (.inr none, zc_R h zk_Re37_73) := by
  rw [e_Re_init_73, tn_400, zc_al hG hk (by decide) (by decide), hl, i_Re37_82 d (h := am_sP (am_nw h (9, 400)) 37 15 (some 39)) hG (zc_kP hk) (zc_ln hl)]
  exact congrArg (fun z => some (Sum.inr none, z)) (zc_c2 h 9 400 37 15 (some 39) zk_Re37_82).symm
def zk_Re37_64 : List zc_T := zc_N 9 400 :: zc_P 37 14 (some 38) :: zk_Re37_73
theorem i_Re37_64 (d : Nat) {h : am_H} (hG : am_G h = 0) (hk : am_kd h 37 3 = true) (hl : (am_S h).length = 38) : f_Re_init_64 d h 37 2 20 = some (.inr none, zc_R h zk_Re37_64) := by
  rw [e_Re_init_64, tn_400, zc_al hG hk (by decide) (by decide), hl, i_Re37_73 d (h := am_sP (am_nw h (9, 400)) 37 14 (some 38)) hG (zc_kP hk) (zc_ln hl)]
  exact congrArg (fun z => some (Sum.inr none, z)) (zc_c2 h 9 400 37 14 (some 38) zk_Re37_73).symm
def zk_Re37_59 : List zc_T := zc_I 37 13 (-1) :: zk_Re37_64
theorem i_Re37_59 (d : Nat) {h : am_H} (hG : am_G h = 0) (hk : am_kd h 37 3 = true) (hl : (am_S h).length = 38) : f_Re_init_59 d h 37 2 20 = some (.inr none, zc_R h zk_Re37_59) := by
  rw [e_Re_init_59, lz_k hk, i_Re37_64 d (h := am_sI h 37 13 (-1)) hG hk hl]
  exact congrArg (fun z => some (Sum.inr none, z)) (zc_cI h 37 13 (-1) zk_Re37_64).symm
def zk_Re37_54 : List zc_T := zc_I 37 12 (-1) :: zk_Re37_59
theorem i_Re37_54 (d : Nat) {h : am_H} (hG : am_G h = 0) (hk : am_kd h 37 3 = true) (hl : (am_S h).length = 38) : f_Re_init_54 d h 37 2 20 = some (.inr none, zc_R h zk_Re37_54) := by
  rw [e_Re_init_54, lz_k hk, i_Re37_59 d (h := am_sI h 37 12 (-1)) hG hk hl]
  exact congrArg (fun z => some (Sum.inr none, z)) (zc_cI h 37 12 (-1) zk_Re37_59).symm
def zk_Re37_49 : List zc_T := zc_I 37 11 0 :: zk_Re37_54
theorem i_Re37_49 (d : Nat) {h : am_H} (hG : am_G h = 0) (hk : am_kd h 37 3 = true) (hl : (am_S h).length = 38) : f_Re_init_49 d h 37 2 20 = some (.inr none, zc_R h zk_Re37_49) := by
  rw [e_Re_init_49, o1_0, lz_k hk, i_Re37_54 d (h := am_sI h 37 11 0) hG hk hl]
  exact congrArg (fun z => some (Sum.inr none, z)) (zc_cI h 37 11 0 zk_Re37_54).symm
def zk_Re37_44 : List zc_T := zc_I 37 10 (-1) :: zk_Re37_49
theorem i_Re37_44 (d : Nat) {h : am_H} (hG : am_G h = 0) (hk : am_kd h 37 3 = true) (hl : (am_S h).length = 38) : f_Re_init_44 d h 37 2 20 = some (.inr none, zc_R h zk_Re37_44) := by
  rw [e_Re_init_44, lz_k hk, i_Re37_49 d (h := am_sI h 37 10 (-1)) hG hk hl]
  exact congrArg (fun z => some (Sum.inr none, z)) (zc_cI h 37 10 (-1) zk_Re37_49).symm
def zk_Re37_39 : List zc_T := zc_I 37 9 0 :: zk_Re37_44
theorem i_Re37_39 (d : Nat) {h : am_H} (hG : am_G h = 0) (hk : am_kd h 37 3 = true) (hl : (am_S h).length = 38) : f_Re_init_39 d h 37 2 20 = some (.inr none, zc_R h zk_Re37_39) := by
  rw [e_Re_init_39, lz_k hk, i_Re37_44 d (h := am_sI h 37 9 0) hG hk hl]
  exact congrArg (fun z => some (Sum.inr none, z)) (zc_cI h 37 9 0 zk_Re37_44).symm
def zk_Re37_34 : List zc_T := zc_L 37 8 0 :: zk_Re37_39
theorem i_Re37_34 (d : Nat) {h : am_H} (hG : am_G h = 0) (hk : am_kd h 37 3 = true) (hl : (am_S h).length = 38) : f_Re_init_34 d h 37 2 20 = some (.inr none, zc_R h zk_Re37_34) := by
  rw [e_Re_init_34, lz_k hk, i_Re37_39 d (h := am_sL h 37 8 0) hG hk hl]
  exact congrArg (fun z => some (Sum.inr none, z)) (zc_cL h 37 8 0 zk_Re37_39).symm
def zk_Re37_29 : List zc_T := zc_I 37 7 0 :: zk_Re37_34
theorem i_Re37_29 (d : Nat) {h : am_H} (hG : am_G h = 0) (hk : am_kd h 37 3 = true) (hl : (am_S h).length = 38) : f_Re_init_29 d h 37 2 20 = some (.inr none, zc_R h zk_Re37_29) := by
  rw [e_Re_init_29, lz_k hk, i_Re37_34 d (h := am_sI h 37 7 0) hG hk hl]
  exact congrArg (fun z => some (Sum.inr none, z)) (zc_cI h 37 7 0 zk_Re37_34).symm
def zk_Re37_24 : List zc_T := zc_I 37 6 0 :: zk_Re37_29
theorem i_Re37_24 (d : Nat) {h : am_H} (hG : am_G h = 0) (hk : am_kd h 37 3 = true) (hl : (am_S h).length = 38) : f_Re_init_24 d h 37 2 20 = some (.inr none, zc_R h zk_Re37_24) := by
  rw [e_Re_init_24, lz_k hk, i_Re37_29 d (h := am_sI h 37 6 0) hG hk hl]
  exact congrArg (fun z => some (Sum.inr none, z)) (zc_cI h 37 6 0 zk_Re37_29).symm
def zk_Re37_19 : List zc_T := zc_I 37 5 0 :: zk_Re37_24
theorem i_Re37_19 (d : Nat) {h : am_H} (hG : am_G h = 0) (hk : am_kd h 37 3 = true) (hl : (am_S h).length = 38) : f_Re_init_19 d h 37 2 20 = some (.inr none, zc_R h zk_Re37_19) := by
  rw [e_Re_init_19, lz_k hk, i_Re37_24 d (h := am_sI h 37 5 0) hG hk hl]
  exact congrArg (fun z => some (Sum.inr none, z)) (zc_cI h 37 5 0 zk_Re37_24).symm
def zk_Re37_14 : List zc_T := zc_I 37 4 0 :: zk_Re37_19
theorem i_Re37_14 (d : Nat) {h : am_H} (hG : am_G h = 0) (hk : am_kd h 37 3 = true) (hl : (am_S h).length = 38) : f_Re_init_14 d h 37 2 20 = some (.inr none, zc_R h zk_Re37_14) := by
  rw [e_Re_init_14, lz_k hk, i_Re37_19 d (h := am_sI h 37 4 0) hG hk hl]
  exact congrArg (fun z => some (Sum.inr none, z)) (zc_cI h 37 4 0 zk_Re37_19).symm
def zk_Re37_9 : List zc_T := zc_I 37 3 0 :: zk_Re37_14
theorem i_Re37_9 (d : Nat) {h : am_H} (hG : am_G h = 0) (hk : am_kd h 37 3 = true) (hl : (am_S h).length = 38) : f_Re_init_9 d h 37 2 20 = some (.inr none, zc_R h zk_Re37_9) := by
  rw [e_Re_init_9, o1_0, lz_k hk, i_Re37_14 d (h := am_sI h 37 3 0) hG hk hl]
  exact congrArg (fun z => some (Sum.inr none, z)) (zc_cI h 37 3 0 zk_Re37_14).symm
def zk_Re37_0 : List zc_T := zc_I 37 1 0 :: zk_Re37_9
theorem i_Re37_0 (d : Nat) {h : am_H} (hG : am_G h = 0) (hk : am_kd h 37 3 = true) (hl : (am_S h).length = 38) : f_Re_init d h 37 2 20 = some (.inr none, zc_R h zk_Re37_0) := by
  rw [e_Re_init, lz_k hk, i_Re37_9 d (h := am_sI h 37 1 0) hG hk hl]
  exact congrArg (fun z => some (Sum.inr none, z)) (zc_cI h 37 1 0 zk_Re37_9).symm
theorem zn_Re37 : (zc_S zk_Re37_0).length = 2 := by decide +kernel
def zk_Sa42_130 : List zc_T := []
theorem i_Sa42_130 (d : Nat) {h : am_H} (hG : am_G h = 0) (hk : am_kd h 42 5 = true) (hl : (am_S h).length = 54) : f_Sa_init_130 d h = some (.inr none, zc_R h zk_Sa42_130) := e_Sa_init_130 d h
def zk_Sa42_125 : List zc_T := zc_P 42 0 (some 3) :: zk_Sa42_130
theorem i_Sa42_125 (d : Nat) {h : am_H} (hG : am_G h = 0) (hk : am_kd h 42 5 = true) (hl : (am_S h).length = 54) : f_Sa_init_125 d h 42 3 = some (.inr none, zc_R h zk_Sa42_125) := by
  rw [e_Sa_init_125, lz_k hk, i_Sa42_130 d (h := am_sP h 42 0 (some 3)) hG hk hl]
  exact congrArg (fun z => some (Sum.inr none, z)) (zc_cP h 42 0 (some 3) zk_Sa42_130).symm
def zk_Sa42_116 : List zc_T := zc_N 10 480 :: zc_P 42 17 (some 53) :: zk_Sa42_125
theorem i_Sa42_116 (d : Nat) {h : am_H} (hG : am_G h = 0) (hk : am_kd h 42 5 = true) (hl : (am_S h).length = 53) : f_Sa_init_116 d h 42 3 = some (.inr none, zc_R h zk_Sa42_116) := by
  rw [e_Sa_init_116, tn_480, zc_al hG hk (by decide) (by decide), hl, i_Sa42_125 d (h := am_sP (am_nw h (10, 480)) 42 17 (some 53)) hG (zc_kP hk) (zc_ln hl)]
  exact congrArg (fun z => some (Sum.inr none, z)) (zc_c2 h 10 480 42 17 (some 53) zk_Sa42_125).symm
def zk_Sa42_108 : List zc_T := zc_N 10 60 :: zc_P 42 16 (some 52) :: zk_Sa42_116
theorem i_Sa42_108 (d : Nat) {h : am_H} (hG : am_G h = 0) (hk : am_kd h 42 5 = true) (hl : (am_S h).length = 52) : f_Sa_init_108 d h 42 3 = some (.inr none, zc_R h zk_Sa42_108) := by
  rw [e_Sa_init_108, tn_60, zc_al hG hk (by decide) (by decide), hl, i_Sa42_116 d (h := am_sP (am_nw h (10, 60)) 42 16 (some 52)) hG (zc_kP hk) (zc_ln hl)]
  exact congrArg (fun z => some (Sum.inr none, z)) (zc_c2 h 10 60 42 16 (some 52) zk_Sa42_116).symm
def zk_Sa42_100 : List zc_T := zc_N 10 60 :: zc_P 42 15 (some 51) :: zk_Sa42_108
theorem i_Sa42_100 (d : Nat) {h : am_H} (hG : am_G h = 0) (hk : am_kd h 42 5 = true) (hl : (am_S h).length = 51) : f_Sa_init_100 d h 42 3 = some (.inr none, zc_R h zk_Sa42_100) := by
  rw [e_Sa_init_100, tn_60, zc_al hG hk (by decide) (by decide), hl, i_Sa42_108 d (h := am_sP (am_nw h (10, 60)) 42 15 (some 51)) hG (zc_kP hk) (zc_ln hl)]
  exact congrArg (fun z => some (Sum.inr none, z)) (zc_c2 h 10 60 42 15 (some 51) zk_Sa42_108).symm
def zk_Sa42_91 : List zc_T := zc_N 10 480 :: zc_P 42 14 (some 50) :: zk_Sa42_100
theorem i_Sa42_91 (d : Nat) {h : am_H} (hG : am_G h = 0) (hk : am_kd h 42 5 = true) (hl : (am_S h).length = 50) : f_Sa_init_91 d h 42 3 = some (.inr none, zc_R h zk_Sa42_91) := by
  rw [e_Sa_init_91, tn_480, zc_al hG hk (by decide) (by decide), hl, i_Sa42_100 d (h := am_sP (am_nw h (10, 480)) 42 14 (some 50)) hG (zc_kP hk) (zc_ln hl)]
  exact congrArg (fun z => some (Sum.inr none, z)) (zc_c2 h 10 480 42 14 (some 50) zk_Sa42_100).symm
def zk_Sa42_82 : List zc_T := zc_N 10 480 :: zc_P 42 13 (some 49) :: zk_Sa42_91
theorem i_Sa42_82 (d : Nat) {h : am_H} (hG : am_G h = 0) (hk : am_kd h 42 5 = true) (hl : (am_S h).length = 49) : f_Sa_init_82 d h 42 3 = some (.inr none, zc_R h zk_Sa42_82) := by
  rw [e_Sa_init_82, tn_480, zc_al hG hk (by decide) (by decide), hl, i_Sa42_91 d (h := am_sP (am_nw h (10, 480)) 42 13 (some 49)) hG (zc_kP hk) (zc_ln hl)]
  exact congrArg (fun z => some (Sum.inr none, z)) (zc_c2 h 10 480 42 13 (some 49) zk_Sa42_91).symm
def zk_Sa42_74 : List zc_T := zc_N 10 60 :: zc_P 42 12 (some 48) :: zk_Sa42_82
theorem i_Sa42_74 (d : Nat) {h : am_H} (hG : am_G h = 0) (hk : am_kd h 42 5 = true) (hl : (am_S h).length = 48) : f_Sa_init_74 d h 42 3 = some (.inr none, zc_R h zk_Sa42_74) := by
  rw [e_Sa_init_74, tn_60, zc_al hG hk (by decide) (by decide), hl, i_Sa42_82 d (h := am_sP (am_nw h (10, 60)) 42 12 (some 48)) hG (zc_kP hk) (zc_ln hl)]
  exact congrArg (fun z => some (Sum.inr none, z)) (zc_c2 h 10 60 42 12 (some 48) zk_Sa42_82).symm
def zk_Sa42_66 : List zc_T := zc_N 10 60 :: zc_P 42 11 (some 47) :: zk_Sa42_74
theorem i_Sa42_66 (d : Nat) {h : am_H} (hG : am_G h = 0) (hk : am_kd h 42 5 = true) (hl : (am_S h).length = 47) : f_Sa_init_66 d h 42 3 = some (.inr none, zc_R h zk_Sa42_66) := by
  rw [e_Sa_init_66, tn_60, zc_al hG hk (by decide) (by decide), hl, i_Sa42_74 d (h := am_sP (am_nw h (10, 60)) 42 11 (some 47)) hG (zc_kP hk) (zc_ln hl)]
  exact congrArg (fun z => some (Sum.inr none, z)) (zc_c2 h 10 60 42 11 (some 47) zk_Sa42_74).symm
def zk_Sa42_58 : List zc_T := zc_N 9 8 :: zc_P 42 10 (some 46) :: zk_Sa42_66
theorem i_Sa42_58 (d : Nat) {h : am_H} (hG : am_G h = 0) (hk : am_kd h 42 5 = true) (hl : (am_S h).length = 46) : f_Sa_init_58 d h 42 3 = some (.inr none, zc_R h zk_Sa42_58) := by
  rw [e_Sa_init_58, tn_8, zc_al hG hk (by decide) (by decide), hl, i_Sa42_66 d (h := am_sP (am_nw h (9, 8)) 42 10 (some 46)) hG (zc_kP hk) (zc_ln hl)]
  exact congrArg (fun z => some (Sum.inr none, z)) (zc_c2 h 9 8 42 10 (some 46) zk_Sa42_66).symm
def zk_Sa42_50 : List zc_T := zc_N 9 32 :: zc_P 42 9 (some 45) :: zk_Sa42_58
theorem i_Sa42_50 (d : Nat) {h : am_H} (hG : am_G h = 0) (hk : am_kd h 42 5 = true) (hl : (am_S h).length = 45) : f_Sa_init_50 d h 42 3 = some (.inr none, zc_R h zk_Sa42_50) := by
  rw [e_Sa_init_50, tn_32, zc_al hG hk (by decide) (by decide), hl, i_Sa42_58 d (h := am_sP (am_nw h (9, 32)) 42 9 (some 45)) hG (zc_kP hk) (zc_ln hl)]
  exact congrArg (fun z => some (Sum.inr none, z)) (zc_c2 h 9 32 42 9 (some 45) zk_Sa42_58).symm
def zk_Sa42_45 : List zc_T := zc_I 42 8 0 :: zk_Sa42_50
theorem i_Sa42_45 (d : Nat) {h : am_H} (hG : am_G h = 0) (hk : am_kd h 42 5 = true) (hl : (am_S h).length = 45) : f_Sa_init_45 d h 42 3 = some (.inr none, zc_R h zk_Sa42_45) := by
  rw [e_Sa_init_45, lz_k hk, i_Sa42_50 d (h := am_sI h 42 8 0) hG hk hl]
  exact congrArg (fun z => some (Sum.inr none, z)) (zc_cI h 42 8 0 zk_Sa42_50).symm
def zk_Sa42_37 : List zc_T := zc_N 9 64 :: zc_P 42 7 (some 44) :: zk_Sa42_45
theorem i_Sa42_37 (d : Nat) {h : am_H} (hG : am_G h = 0) (hk : am_kd h 42 5 = true) (hl : (am_S h).length = 44) : f_Sa_init_37 d h 42 3 = some (.inr none, zc_R h zk_Sa42_37) := by
  rw [e_Sa_init_37, tn_64, zc_al hG hk (by decide) (by decide), hl, i_Sa42_45 d (h := am_sP (am_nw h (9, 64)) 42 7 (some 44)) hG (zc_kP hk) (zc_ln hl)]
  exact congrArg (fun z => some (Sum.inr none, z)) (zc_c2 h 9 64 42 7 (some 44) zk_Sa42_45).symm
def zk_Sa42_29 : List zc_T := zc_N 9 64 :: zc_P 42 6 (some 43) :: zk_Sa42_37
theorem i_Sa42_29 (d : Nat) {h : am_H} (hG : am_G h = 0) (hk : am_kd h 42 5 = true) (hl : (am_S h).length = 43) : f_Sa_init_29 d h 42 3 = some (.inr none, zc_R h zk_Sa42_29) := by
  rw [e_Sa_init_29, tn_64, zc_al hG hk (by decide) (by decide), hl, i_Sa42_37 d (h := am_sP (am_nw h (9, 64)) 42 6 (some 43)) hG (zc_kP hk) (zc_ln hl)]
  exact congrArg (fun z => some (Sum.inr none, z)) (zc_c2 h 9 64 42 6 (some 43) zk_Sa42_37).symm
def zk_Sa42_24 : List zc_T := zc_I 42 5 0 :: zk_Sa42_29
theorem i_Sa42_24 (d : Nat) {h : am_H} (hG : am_G h = 0) (hk : am_kd h 42 5 = true) (hl : (am_S h).length = 43) : f_Sa_init_24 d h 42 3 = some (.inr none, zc_R h zk_Sa42_24) := by
  rw [e_Sa_init_24, lz_k hk, i_Sa42_29 d (h := am_sI h 42 5 0) hG hk hl]
  exact congrArg (fun z => some (Sum.inr none, z)) (zc_cI h 42 5 0 zk_Sa42_29).symm
def zk_Sa42_19 : List zc_T := zc_L 42 4 0 :: zk_Sa42_24
theorem i_Sa42_19 (d : Nat) {h : am_H} (hG : am_G h = 0) (hk : am_kd h 42 5 = true) (hl : (am_S h).length = 43) : f_Sa_init_19 d h 42 3 = some (.inr none, zc_R h zk_Sa42_19) := by
  rw [e_Sa_init_19, lz_k hk, i_Sa42_24 d (h := am_sL h 42 4 0) hG hk hl]
  exact congrArg (fun z => some (Sum.inr none, z)) (zc_cL h 42 4 0 zk_Sa42_24).symm
def zk_Sa42_14 : List zc_T := zc_I 42 3 0 :: zk_Sa42_19
theorem i_Sa42_14 (d : Nat) {h : am_H} (hG : am_G h = 0) (hk : am_kd h 42 5 = true) (hl : (am_S h).length = 43) : f_Sa_init_14 d h 42 3 = some (.inr none, zc_R h zk_Sa42_14) := by
  rw [e_Sa_init_14, lz_k hk, i_Sa42_19 d (h := am_sI h 42 3 0) hG hk hl]
  exact congrArg (fun z => some (Sum.inr none, z)) (zc_cI h 42 3 0 zk_Sa42_19).symm
def zk_Sa42_9 : List zc_T := zc_I 42 2 0 :: zk_Sa42_14
theorem i_Sa42_9 (d : Nat) {h : am_H} (hG : am_G h = 0) (hk : am_kd h 42 5 = true) (hl : (am_S h).length = 43) : f_Sa_init_9 d h 42 3 = some (.inr none, zc_R h zk_Sa42_9) := by
  rw [e_Sa_init_9, lz_k hk, i_Sa42_14 d (h := am_sI h 42 2 0) hG hk hl]
  exact congrArg (fun z => some (Sum.inr none, z)) (zc_cI h 42 2 0 zk_Sa42_14).symm
def zk_Sa42_0 : List zc_T := zc_L 42 1 0 :: zk_Sa42_9
theorem i_Sa42_0 (d : Nat) {h : am_H} (hG : am_G h = 0) (hk : am_kd h 42 5 = true) (hl : (am_S h).length = 43) : f_Sa_init d h 42 3 = some (.inr none, zc_R h zk_Sa42_0) := by
  rw [e_Sa_init, lz_k hk, i_Sa42_9 d (h := am_sL h 42 1 0) hG hk hl]
  exact congrArg (fun z => some (Sum.inr none, z)) (zc_cL h 42 1 0 zk_Sa42_9).symm
theorem zn_Sa42 : (zc_S zk_Sa42_0).length = 11 := by decide +kernel
def zk_Hi54_62 : List zc_T := []
theorem i_Hi54_62 (d : Nat) {h : am_H} (hG : am_G h = 0) (hk : am_kd h 54 0 = true) (hl : (am_S h).length = 61) : f_Hi_init_62 d h = some (.inr none, zc_R h zk_Hi54_62) := e_Hi_init_62 d h
def zk_Hi54_54 : List zc_T := zc_N 9 24 :: zc_P 54 7 (some 60) :: zk_Hi54_62
theorem i_Hi54_54 (d : Nat) {h : am_H} (hG : am_G h = 0) (hk : am_kd h 54 0 = true) (hl : (am_S h).length = 60) : f_Hi_init_54 d h 54 = some (.inr none, zc_R h zk_Hi54_54) := by
  rw [e_Hi_init_54, tn_24, zc_al hG hk (by decide) (by decide), hl, i_Hi54_62 d (h := am_sP (am_nw h (9, 24)) 54 7 (some 60)) hG (zc_kP hk) (zc_ln hl)]
  exact congrArg (fun z => some (Sum.inr none, z)) (zc_c2 h 9 24 54 7 (some 60) zk_Hi54_62).symm
def zk_Hi54_46 : List zc_T := zc_N 9 24 :: zc_P 54 6 (some 59) :: zk_Hi54_54
theorem i_Hi54_46 (d : Nat) {h : am_H} (hG : am_G h = 0) (hk : am_kd h 54 0 = true) (hl : (am_S h).length = 59) : f_Hi_init_46 d h 54 = some (.inr none, zc_R h zk_Hi54_46) := by
  rw [e_Hi_init_46, tn_24, zc_al hG hk (by decide) (by decide), hl, i_Hi54_54 d (h := am_sP (am_nw h (9, 24)) 54 6 (some 59)) hG (zc_kP hk) (zc_ln hl)]
  exact congrArg (fun z => some (Sum.inr none, z)) (zc_c2 h 9 24 54 6 (some 59) zk_Hi54_54).symm
def zk_Hi54_38 : List zc_T := zc_N 9 24 :: zc_P 54 5 (some 58) :: zk_Hi54_46
theorem i_Hi54_38 (d : Nat) {h : am_H} (hG : am_G h = 0) (hk : am_kd h 54 0 = true) (hl : (am_S h).length = 58) : f_Hi_init_38 d h 54 = some (.inr none, zc_R h zk_Hi54_38) := by
  rw [e_Hi_init_38, tn_24, zc_al hG hk (by decide) (by decide), hl, i_Hi54_46 d (h := am_sP (am_nw h (9, 24)) 54 5 (some 58)) hG (zc_kP hk) (zc_ln hl)]
  exact congrArg (fun z => some (Sum.inr none, z)) (zc_c2 h 9 24 54 5 (some 58) zk_Hi54_46).symm
def zk_Hi54_30 : List zc_T := zc_N 9 24 :: zc_P 54 4 (some 57) :: zk_Hi54_38
theorem i_Hi54_30 (d : Nat) {h : am_H} (hG : am_G h = 0) (hk : am_kd h 54 0 = true) (hl : (am_S h).length = 57) : f_Hi_init_30 d h 54 = some (.inr none, zc_R h zk_Hi54_30) := by
  rw [e_Hi_init_30, tn_24, zc_al hG hk (by decide) (by decide), hl, i_Hi54_38 d (h := am_sP (am_nw h (9, 24)) 54 4 (some 57)) hG (zc_kP hk) (zc_ln hl)]
  exact congrArg (fun z => some (Sum.inr none, z)) (zc_c2 h 9 24 54 4 (some 57) zk_Hi54_38).symm
def zk_Hi54_22 : List zc_T := zc_N 9 24 :: zc_P 54 3 (some 56) :: zk_Hi54_30
theorem i_Hi54_22 (d : Nat) {h : am_H} (hG : am_G h = 0) (hk : am_kd h 54 0 = true) (hl : (am_S h).length = 56) : f_Hi_init_22 d h 54 = some (.inr none, zc_R h zk_Hi54_22) := by
  rw [e_Hi_init_22, tn_24, zc_al hG hk (by decide) (by decide), hl, i_Hi54_30 d (h := am_sP (am_nw h (9, 24)) 54 3 (some 56)) hG (zc_kP hk) (zc_ln hl)]
  exact congrArg (fun z => some (Sum.inr none, z)) (zc_c2 h 9 24 54 3 (some 56) zk_Hi54_30).symm
def zk_Hi54_14 : List zc_T := zc_N 9 24 :: zc_P 54 2 (some 55) :: zk_Hi54_22
theorem i_Hi54_14 (d : Nat) {h : am_H} (hG : am_G h = 0) (hk : am_kd h 54 0 = true) (hl : (am_S h).length = 55) : f_Hi_init_14 d h 54 = some (.inr none, zc_R h zk_Hi54_14) := by
  rw [e_Hi_init_14, tn_24, zc_al hG hk (by decide) (by decide), hl, i_Hi54_22 d (h := am_sP (am_nw h (9, 24)) 54 2 (some 55)) hG (zc_kP hk) (zc_ln hl)]
  exact congrArg (fun z => some (Sum.inr none, z)) (zc_c2 h 9 24 54 2 (some 55) zk_Hi54_22).symm
def zk_Hi54_9 : List zc_T := zc_I 54 1 0 :: zk_Hi54_14
theorem i_Hi54_9 (d : Nat) {h : am_H} (hG : am_G h = 0) (hk : am_kd h 54 0 = true) (hl : (am_S h).length = 55) : f_Hi_init_9 d h 54 = some (.inr none, zc_R h zk_Hi54_9) := by
  rw [e_Hi_init_9, lz_k hk, i_Hi54_14 d (h := am_sI h 54 1 0) hG hk hl]
  exact congrArg (fun z => some (Sum.inr none, z)) (zc_cI h 54 1 0 zk_Hi54_14).symm
def zk_Hi54_0 : List zc_T := zc_I 54 0 0 :: zk_Hi54_9
theorem i_Hi54_0 (d : Nat) {h : am_H} (hG : am_G h = 0) (hk : am_kd h 54 0 = true) (hl : (am_S h).length = 55) : f_Hi_init d h 54 = some (.inr none, zc_R h zk_Hi54_0) := by
  rw [e_Hi_init, lz_k hk, i_Hi54_9 d (h := am_sI h 54 0 0) hG hk hl]
  exact congrArg (fun z => some (Sum.inr none, z)) (zc_cI h 54 0 0 zk_Hi54_9).symm
theorem zn_Hi54 : (zc_S zk_Hi54_0).length = 6 := by decide +kernel
def zk_Sa61_130 : List zc_T := []
theorem i_Sa61_130 (d : Nat) {h : am_H} (hG : am_G h = 0) (hk : am_kd h 61 5 = true) (hl : (am_S h).length = 73) : f_Sa_init_130 d h = some (.inr none, zc_R h zk_Sa61_130) := e_Sa_init_130 d h
def zk_Sa61_125 : List zc_T := zc_P 61 0 (some 3) :: zk_Sa61_130
theorem i_Sa61_125 (d : Nat) {h : am_H} (hG : am_G h = 0) (hk : am_kd h 61 5 = true) (hl : (am_S h).length = 73) : f_Sa_init_125 d h 61 3 = some (.inr none, zc_R h zk_Sa61_125) := by
  rw [e_Sa_init_125, lz_k hk, i_Sa61_130 d (h := am_sP h 61 0 (some 3)) hG hk hl]
  exact congrArg (fun z => some (Sum.inr none, z)) (zc_cP h 61 0 (some 3) zk_Sa61_130).symm
def zk_Sa61_116 : List zc_T := zc_N 10 480 :: zc_P 61 17 (some 72) :: zk_Sa61_125
theorem i_Sa61_116 (d : Nat) {h : am_H} (hG : am_G h = 0) (hk : am_kd h 61 5 = true) (hl : (am_S h).length = 72) : f_Sa_init_116 d h 61 3 = some (.inr none, zc_R h zk_Sa61_116) := by
  rw [e_Sa_init_116, tn_480, zc_al hG hk (by decide) (by decide), hl, i_Sa61_125 d (h := am_sP (am_nw h (10, 480)) 61 17 (some 72)) hG (zc_kP hk) (zc_ln hl)]
  exact congrArg (fun z => some (Sum.inr none, z)) (zc_c2 h 10 480 61 17 (some 72) zk_Sa61_125).symm
def zk_Sa61_108 : List zc_T := zc_N 10 60 :: zc_P 61 16 (some 71) :: zk_Sa61_116
theorem i_Sa61_108 (d : Nat) {h : am_H} (hG : am_G h = 0) (hk : am_kd h 61 5 = true) (hl : (am_S h).length = 71) : f_Sa_init_108 d h 61 3 = some (.inr none, zc_R h zk_Sa61_108) := by
  rw [e_Sa_init_108, tn_60, zc_al hG hk (by decide) (by decide), hl, i_Sa61_116 d (h := am_sP (am_nw h (10, 60)) 61 16 (some 71)) hG (zc_kP hk) (zc_ln hl)]
  exact congrArg (fun z => some (Sum.inr none, z)) (zc_c2 h 10 60 61 16 (some 71) zk_Sa61_116).symm
def zk_Sa61_100 : List zc_T := zc_N 10 60 :: zc_P 61 15 (some 70) :: zk_Sa61_108
theorem i_Sa61_100 (d : Nat) {h : am_H} (hG : am_G h = 0) (hk : am_kd h 61 5 = true) (hl : (am_S h).length = 70) : f_Sa_init_100 d h 61 3 = some (.inr none, zc_R h zk_Sa61_100) := by
  rw [e_Sa_init_100, tn_60, zc_al hG hk (by decide) (by decide), hl, i_Sa61_108 d (h := am_sP (am_nw h (10, 60)) 61 15 (some 70)) hG (zc_kP hk) (zc_ln hl)]
  exact congrArg (fun z => some (Sum.inr none, z)) (zc_c2 h 10 60 61 15 (some 70) zk_Sa61_108).symm
def zk_Sa61_91 : List zc_T := zc_N 10 480 :: zc_P 61 14 (some 69) :: zk_Sa61_100
theorem i_Sa61_91 (d : Nat) {h : am_H} (hG : am_G h = 0) (hk : am_kd h 61 5 = true) (hl : (am_S h).length = 69) : f_Sa_init_91 d h 61 3 = some (.inr none, zc_R h zk_Sa61_91) := by
  rw [e_Sa_init_91, tn_480, zc_al hG hk (by decide) (by decide), hl, i_Sa61_100 d (h := am_sP (am_nw h (10, 480)) 61 14 (some 69)) hG (zc_kP hk) (zc_ln hl)]
  exact congrArg (fun z => some (Sum.inr none, z)) (zc_c2 h 10 480 61 14 (some 69) zk_Sa61_100).symm
def zk_Sa61_82 : List zc_T := zc_N 10 480 :: zc_P 61 13 (some 68) :: zk_Sa61_91
theorem i_Sa61_82 (d : Nat) {h : am_H} (hG : am_G h = 0) (hk : am_kd h 61 5 = true) (hl : (am_S h).length = 68) : f_Sa_init_82 d h 61 3 = some (.inr none, zc_R h zk_Sa61_82) := by
  rw [e_Sa_init_82, tn_480, zc_al hG hk (by decide) (by decide), hl, i_Sa61_91 d (h := am_sP (am_nw h (10, 480)) 61 13 (some 68)) hG (zc_kP hk) (zc_ln hl)]
  exact congrArg (fun z => some (Sum.inr none, z)) (zc_c2 h 10 480 61 13 (some 68) zk_Sa61_91).symm
def zk_Sa61_74 : List zc_T := zc_N 10 60 :: zc_P 61 12 (some 67) :: zk_Sa61_82
theorem i_Sa61_74 (d : Nat) {h : am_H} (hG : am_G h = 0) (hk : am_kd h 61 5 = true) (hl : (am_S h).length = 67) : f_Sa_init_74 d h 61 3 = some (.inr none, zc_R h zk_Sa61_74) := by
  rw [e_Sa_init_74, tn_60, zc_al hG hk (by decide) (by decide), hl, i_Sa61_82 d (h := am_sP (am_nw h (10, 60)) 61 12 (some 67)) hG (zc_kP hk) (zc_ln hl)]
  exact congrArg (fun z => some (Sum.inr none, z)) (zc_c2 h 10 60 61 12 (some 67) zk_Sa61_82).symm
def zk_Sa61_66 : List zc_T := zc_N 10 60 :: zc_P 61 11 (some 66) :: zk_Sa61_74
theorem i_Sa61_66 (d : Nat) {h : am_H} (hG : am_G h = 0) (hk : am_kd h 61 5 = true) (hl : (am_S h).length = 66) : f_Sa_init_66 d h 61 3 = some (.inr none, zc_R h zk_Sa61_66) := by
  rw [e_Sa_init_66, tn_60, zc_al hG hk (by decide) (by decide), hl, i_Sa61_74 d (h := am_sP (am_nw h (10, 60)) 61 11 (some 66)) hG (zc_kP hk) (zc_ln hl)]
  exact congrArg (fun z => some (Sum.inr none, z)) (zc_c2 h 10 60 61 11 (some 66) zk_Sa61_74).symm
def zk_Sa61_58 : List zc_T := zc_N 9 8 :: zc_P 61 10 (some 65) :: zk_Sa61_66
theorem i_Sa61_58 (d : Nat) {h : am_H} (hG : am_G h = 0) (hk : am_kd h 61 5 = true) (hl : (am_S h).length = 65) : f_Sa_init_58 d h 61 3 = some (.inr none, zc_R h zk_Sa61_58) := by
  rw [e_Sa_init_58, tn_8, zc_al hG hk (by decide) (by decide), hl, i_Sa61_66 d (h := am_sP (am_nw h (9, 8)) 61 10 (some 65)) hG (zc_kP hk) (zc_ln hl)]
  exact congrArg (fun z => some (Sum.inr none, z)) (zc_c2 h 9 8 61 10 (some 65) zk_Sa61_66).symm
def zk_Sa61_50 : List zc_T := zc_N 9 32 :: zc_P 61 9 (some 64) :: zk_Sa61_58
theorem i_Sa61_50 (d : Nat) {h : am_H} (hG : am_G h = 0) (hk : am_kd h 61 5 = true) (hl : (am_S h).length = 64) : f_Sa_init_50 d h 61 3 = some (.inr none, zc_R h zk_Sa61_50) := by
  rw [e_Sa_init_50, tn_32, zc_al hG hk (by decide) (by decide), hl, i_Sa61_58 d (h := am_sP (am_nw h (9, 32)) 61 9 (some 64)) hG (zc_kP hk) (zc_ln hl)]
  exact congrArg (fun z => some (Sum.inr none, z)) (zc_c2 h 9 32 61 9 (some 64) zk_Sa61_58).symm
def zk_Sa61_45 : List zc_T := zc_I 61 8 0 :: zk_Sa61_50
theorem i_Sa61_45 (d : Nat) {h : am_H} (hG : am_G h = 0) (hk : am_kd h 61 5 = true) (hl : (am_S h).length = 64) : f_Sa_init_45 d h 61 3 = some (.inr none, zc_R h zk_Sa61_45) := by
  rw [e_Sa_init_45, lz_k hk, i_Sa61_50 d (h := am_sI h 61 8 0) hG hk hl]
  exact congrArg (fun z => some (Sum.inr none, z)) (zc_cI h 61 8 0 zk_Sa61_50).symm
def zk_Sa61_37 : List zc_T := zc_N 9 64 :: zc_P 61 7 (some 63) :: zk_Sa61_45
theorem i_Sa61_37 (d : Nat) {h : am_H} (hG : am_G h = 0) (hk : am_kd h 61 5 = true) (hl : (am_S h).length = 63) : f_Sa_init_37 d h 61 3 = some (.inr none, zc_R h zk_Sa61_37) := by
  rw [e_Sa_init_37, tn_64, zc_al hG hk (by decide) (by decide), hl, i_Sa61_45 d (h := am_sP (am_nw h (9, 64)) 61 7 (some 63)) hG (zc_kP hk) (zc_ln hl)]
  exact congrArg (fun z => some (Sum.inr none, z)) (zc_c2 h 9 64 61 7 (some 63) zk_Sa61_45).symm
def zk_Sa61_29 : List zc_T := zc_N 9 64 :: zc_P 61 6 (some 62) :: zk_Sa61_37
theorem i_Sa61_29 (d : Nat) {h : am_H} (hG : am_G h = 0) (hk : am_kd h 61 5 = true) (hl : (am_S h).length = 62) : f_Sa_init_29 d h 61 3 = some (.inr none, zc_R h zk_Sa61_29) := by
  rw [e_Sa_init_29, tn_64, zc_al hG hk (by decide) (by decide), hl, i_Sa61_37 d (h := am_sP (am_nw h (9, 64)) 61 6 (some 62)) hG (zc_kP hk) (zc_ln hl)]
  exact congrArg (fun z => some (Sum.inr none, z)) (zc_c2 h 9 64 61 6 (some 62) zk_Sa61_37).symm
def zk_Sa61_24 : List zc_T := zc_I 61 5 0 :: zk_Sa61_29
theorem i_Sa61_24 (d : Nat) {h : am_H} (hG : am_G h = 0) (hk : am_kd h 61 5 = true) (hl : (am_S h).length = 62) : f_Sa_init_24 d h 61 3 = some (.inr none, zc_R h zk_Sa61_24) := by
  rw [e_Sa_init_24, lz_k hk, i_Sa61_29 d (h := am_sI h 61 5 0) hG hk hl]
  exact congrArg (fun z => some (Sum.inr none, z)) (zc_cI h 61 5 0 zk_Sa61_29).symm
def zk_Sa61_19 : List zc_T := zc_L 61 4 0 :: zk_Sa61_24
theorem i_Sa61_19 (d : Nat) {h : am_H} (hG : am_G h = 0) (hk : am_kd h 61 5 = true) (hl : (am_S h).length = 62) : f_Sa_init_19 d h 61 3 = some (.inr none, zc_R h zk_Sa61_19) := by
  rw [e_Sa_init_19, lz_k hk, i_Sa61_24 d (h := am_sL h 61 4 0) hG hk hl]
  exact congrArg (fun z => some (Sum.inr none, z)) (zc_cL h 61 4 0 zk_Sa61_24).symm
def zk_Sa61_14 : List zc_T := zc_I 61 3 0 :: zk_Sa61_19
theorem i_Sa61_14 (d : Nat) {h : am_H} (hG : am_G h = 0) (hk : am_kd h 61 5 = true) (hl : (am_S h).length = 62) : f_Sa_init_14 d h 61 3 = some (.inr none, zc_R h zk_Sa61_14) := by
  rw [e_Sa_init_14, lz_k hk, i_Sa61_19 d (h := am_sI h 61 3 0) hG hk hl]
  exact congrArg (fun z => some (Sum.inr none, z)) (zc_cI h 61 3 0 zk_Sa61_19).symm
def zk_Sa61_9 : List zc_T := zc_I 61 2 0 :: zk_Sa61_14
theorem i_Sa61_9 (d : Nat) {h : am_H} (hG : am_G h = 0) (hk : am_kd h 61 5 = true) (hl : (am_S h).length = 62) : f_Sa_init_9 d h 61 3 = some (.inr none, zc_R h zk_Sa61_9) := by
  rw [e_Sa_init_9, lz_k hk, i_Sa61_14 d (h := am_sI h 61 2 0) hG hk hl]
  exact congrArg (fun z => some (Sum.inr none, z)) (zc_cI h 61 2 0 zk_Sa61_14).symm
def zk_Sa61_0 : List zc_T := zc_L 61 1 0 :: zk_Sa61_9
theorem i_Sa61_0 (d : Nat) {h : am_H} (hG : am_G h = 0) (hk : am_kd h 61 5 = true) (hl : (am_S h).length = 62) : f_Sa_init d h 61 3 = some (.inr none, zc_R h zk_Sa61_0) := by
  rw [e_Sa_init, lz_k hk, i_Sa61_9 d (h := am_sL h 61 1 0) hG hk hl]
  exact congrArg (fun z => some (Sum.inr none, z)) (zc_cL h 61 1 0 zk_Sa61_9).symm
theorem zn_Sa61 : (zc_S zk_Sa61_0).length = 11 := by decide +kernel
def zk_Rs74_59 : List zc_T := []
theorem i_Rs74_59 (d : Nat) {h : am_H} (hG : am_G h = 0) (hk : am_kd h 74 4 = true) (hl : (am_S h).length = 76) (hr : am_kd h 61 5 = true) (hp : am_P h 61 0 = some 3) : f_Rs_init_59 d h = some (.inr none, zc_R h zk_Rs74_59) := e_Rs_init_59 d h
def zk_Rs74_51 : List zc_T := zc_P 74 4 (some 3) :: zk_Rs74_59
theorem i_Rs74_51 (d : Nat) {h : am_H} (hG : am_G h = 0) (hk : am_kd h 74 4 = true) (hl : (am_S h).length = 76) (hr : am_kd h 61 5 = true) (hp : am_P h 61 0 = some 3) : f_Rs_init_51 d h 74 61 = some (.inr none, zc_R h zk_Rs74_51) := by
  rw [e_Rs_init_51, lz_p hr hp, lz_k hk, i_Rs74_59 d (h := am_sP h 74 4 (some 3)) hG hk hl hr (zc_pn (by omega) hp)]
  exact congrArg (fun z => some (Sum.inr none, z)) (zc_cP h 74 4 (some 3) zk_Rs74_59).symm
def zk_Rs74_46 : List zc_T := zc_P 74 3 (some 61) :: zk_Rs74_51
theorem i_Rs74_46 (d : Nat) {h : am_H} (hG : am_G h = 0) (hk : am_kd h 74 4 = true) (hl : (am_S h).length = 76) (hr : am_kd h 61 5 = true) (hp : am_P h 61 0 = some 3) : f_Rs_init_46 d h 74 61 = some (.inr none, zc_R h zk_Rs74_46) := by
  rw [e_Rs_init_46, lz_k hk, i_Rs74_51 d (h := am_sP h 74 3 (some 61)) hG hk hl hr (zc_pn (by omega) hp)]
  exact congrArg (fun z => some (Sum.inr none, z)) (zc_cP h 74 3 (some 61) zk_Rs74_51).symm
def zk_Rs74_41 : List zc_T := zc_L 74 9 0 :: zk_Rs74_46
theorem i_Rs74_41 (d : Nat) {h : am_H} (hG : am_G h = 0) (hk : am_kd h 74 4 = true) (hl : (am_S h).length = 76) (hr : am_kd h 61 5 = true) (hp : am_P h 61 0 = some 3) : f_Rs_init_41 d h 74 61 = some (.inr none, zc_R h zk_Rs74_41) := by
  rw [e_Rs_init_41, lz_k hk, i_Rs74_46 d (h := am_sL h 74 9 0) hG hk hl hr hp]
  exact congrArg (fun z => some (Sum.inr none, z)) (zc_cL h 74 9 0 zk_Rs74_46).symm
def zk_Rs74_36 : List zc_T := zc_I 74 8 0 :: zk_Rs74_41
theorem i_Rs74_36 (d : Nat) {h : am_H} (hG : am_G h = 0) (hk : am_kd h 74 4 = true) (hl : (am_S h).length = 76) (hr : am_kd h 61 5 = true) (hp : am_P h 61 0 = some 3) : f_Rs_init_36 d h 74 61 = some (.inr none, zc_R h zk_Rs74_36) := by
  rw [e_Rs_init_36, o1_0, lz_k hk, i_Rs74_41 d (h := am_sI h 74 8 0) hG hk hl hr hp]
  exact congrArg (fun z => some (Sum.inr none, z)) (zc_cI h 74 8 0 zk_Rs74_41).symm
def zk_Rs74_31 : List zc_T := zc_I 74 7 0 :: zk_Rs74_36
theorem i_Rs74_31 (d : Nat) {h : am_H} (hG : am_G h = 0) (hk : am_kd h 74 4 = true) (hl : (am_S h).length = 76) (hr : am_kd h 61 5 = true) (hp : am_P h 61 0 = some 3) : f_Rs_init_31 d h 74 61 = some (.inr none, zc_R h zk_Rs74_31) := by
  rw [e_Rs_init_31, o1_0, lz_k hk, i_Rs74_36 d (h := am_sI h 74 7 0) hG hk hl hr hp]
  exact congrArg (fun z => some (Sum.inr none, z)) (zc_cI h 74 7 0 zk_Rs74_36).symm
def zk_Rs74_26 : List zc_T := zc_I 74 6 (-1) :: zk_Rs74_31
theorem i_Rs74_26 (d : Nat) {h : am_H} (hG : am_G h = 0) (hk : am_kd h 74 4 = true) (hl : (am_S h).length = 76) (hr : am_kd h 61 5 = true) (hp : am_P h 61 0 = some 3) : f_Rs_init_26 d h 74 61 = some (.inr none, zc_R h zk_Rs74_26) := by
  rw [e_Rs_init_26, lz_k hk, i_Rs74_31 d (h := am_sI h 74 6 (-1)) hG hk hl hr hp]
  exact congrArg (fun z => some (Sum.inr none, z)) (zc_cI h 74 6 (-1) zk_Rs74_31).symm
def zk_Rs74_21 : List zc_T := zc_I 74 5 (-1) :: zk_Rs74_26
theorem i_Rs74_21 (d : Nat) {h : am_H} (hG : am_G h = 0) (hk : am_kd h 74 4 = true) (hl : (am_S h).length = 76) (hr : am_kd h 61 5 = true) (hp : am_P h 61 0 = some 3) : f_Rs_init_21 d h 74 61 = some (.inr none, zc_R h zk_Rs74_21) := by
  rw [e_Rs_init_21, lz_k hk, i_Rs74_26 d (h := am_sI h 74 5 (-1)) hG hk hl hr hp]
  exact congrArg (fun z => some (Sum.inr none, z)) (zc_cI h 74 5 (-1) zk_Rs74_26).symm
def zk_Rs74_16 : List zc_T := zc_I 74 2 0 :: zk_Rs74_21
theorem i_Rs74_16 (d : Nat) {h : am_H} (hG : am_G h = 0) (hk : am_kd h 74 4 = true) (hl : (am_S h).length = 76) (hr : am_kd h 61 5 = true) (hp : am_P h 61 0 = some 3) : f_Rs_init_16 d h 74 61 = some (.inr none, zc_R h zk_Rs74_16) := by
  rw [e_Rs_init_16, o1_0, lz_k hk, i_Rs74_21 d (h := am_sI h 74 2 0) hG hk hl hr hp]
  exact congrArg (fun z => some (Sum.inr none, z)) (zc_cI h 74 2 0 zk_Rs74_21).symm
def zk_Rs74_11 : List zc_T := zc_I 74 1 0 :: zk_Rs74_16
theorem i_Rs74_11 (d : Nat) {h : am_H} (hG : am_G h = 0) (hk : am_kd h 74 4 = true) (hl : (am_S h).length = 76) (hr : am_kd h 61 5 = true) (hp : am_P h 61 0 = some 3) : f_Rs_init_11 d h 74 61 = some (.inr none, zc_R h zk_Rs74_11) := by
  rw [e_Rs_init_11, lz_k hk, i_Rs74_16 d (h := am_sI h 74 1 0) hG hk hl hr hp]
  exact congrArg (fun z => some (Sum.inr none, z)) (zc_cI h 74 1 0 zk_Rs74_16).symm
def zk_Rs74_0 : List zc_T := zc_N 10 5 :: zc_P 74 0 (some 75) :: zk_Rs74_11
theorem i_Rs74_0 (d : Nat) {h : am_H} (hG : am_G h = 0) (hk : am_kd h 74 4 = true) (hl : (am_S h).length = 75) (hr : am_kd h 61 5 = true) (hp : am_P h 61 0 = some 3) : f_Rs_init d h 74 61 = some (.inr none, zc_R h zk_Rs74_0) := by
  rw [e_Rs_init, tn_5, zc_al hG hk (by decide) (by decide), hl, i_Rs74_11 d (h := am_sP (am_nw h (10, 5)) 74 0 (some 75)) hG (zc_kP hk) (zc_ln hl) (zc_kP hr) (zc_pa hl (by omega) (by omega) hp)]
  exact congrArg (fun z => some (Sum.inr none, z)) (zc_c2 h 10 5 74 0 (some 75) zk_Rs74_11).symm
theorem zn_Rs74 : (zc_S zk_Rs74_0).length = 1 := by decide +kernel
def zk_Mo76_14 : List zc_T := []
theorem i_Mo76_14 (d : Nat) {h : am_H} (hG : am_G h = 0) (hk : am_kd h 76 1 = true) (hl : (am_S h).length = 77) : f_Mo_init_14 d h = some (.inr none, zc_R h zk_Mo76_14) := e_Mo_init_14 d h
def zk_Mo76_9 : List zc_T := zc_L 76 1 0 :: zk_Mo76_14
theorem i_Mo76_9 (d : Nat) {h : am_H} (hG : am_G h = 0) (hk : am_kd h 76 1 = true) (hl : (am_S h).length = 77) : f_Mo_init_9 d h 76 = some (.inr none, zc_R h zk_Mo76_9) := by
  rw [e_Mo_init_9, lz_k hk, i_Mo76_14 d (h := am_sL h 76 1 0) hG hk hl]
  exact congrArg (fun z => some (Sum.inr none, z)) (zc_cL h 76 1 0 zk_Mo76_14).symm
def zk_Mo76_0 : List zc_T := zc_L 76 0 0 :: zk_Mo76_9
theorem i_Mo76_0 (d : Nat) {h : am_H} (hG : am_G h = 0) (hk : am_kd h 76 1 = true) (hl : (am_S h).length = 77) : f_Mo_init d h 76 = some (.inr none, zc_R h zk_Mo76_0) := by
  rw [e_Mo_init, lz_k hk, i_Mo76_9 d (h := am_sL h 76 0 0) hG hk hl]
  exact congrArg (fun z => some (Sum.inr none, z)) (zc_cL h 76 0 0 zk_Mo76_9).symm
theorem zn_Mo76 : (zc_S zk_Mo76_0).length = 0 := by decide +kernel
def zk_Rf78_249 : List zc_T := []
theorem i_Rf78_249 (d : Nat) {h : am_H} (hG : am_G h = 0) (hk : am_kd h 78 8 = true) (hl : (am_S h).length = 1613) : f_Rf_init_249 d h 78 = f_Rf_init_249 d (zc_R h zk_Rf78_249) 78 := rfl
def zk_Rf78_240 : List zc_T := zc_N 10 480 :: zc_P 78 44 (some 1612) :: zk_Rf78_249
theorem i_Rf78_240 (d : Nat) {h : am_H} (hG : am_G h = 0) (hk : am_kd h 78 8 = true) (hl : (am_S h).length = 1612) : f_Rf_init_240 d h 78 = f_Rf_init_249 d (zc_R h zk_Rf78_240) 78 := by
  rw [e_Rf_init_240, tn_480, zc_al hG hk (by decide) (by decide), hl, i_Rf78_249 d (h := am_sP (am_nw h (10, 480)) 78 44 (some 1612)) hG (zc_kP hk) (zc_ln hl)]
  exact congrArg (fun z => f_Rf_init_249 d z 78) (zc_c2 h 10 480 78 44 (some 1612) zk_Rf78_249).symm
def zk_Rf78_231 : List zc_T := zc_N 9 480 :: zc_P 78 41 (some 1611) :: zk_Rf78_240
theorem i_Rf78_231 (d : Nat) {h : am_H} (hG : am_G h = 0) (hk : am_kd h 78 8 = true) (hl : (am_S h).length = 1611) : f_Rf_init_231 d h 78 = f_Rf_init_249 d (zc_R h zk_Rf78_231) 78 := by
  rw [e_Rf_init_231, tn_480, zc_al hG hk (by decide) (by decide), hl, i_Rf78_240 d (h := am_sP (am_nw h (9, 480)) 78 41 (some 1611)) hG (zc_kP hk) (zc_ln hl)]
  exact congrArg (fun z => f_Rf_init_249 d z 78) (zc_c2 h 9 480 78 41 (some 1611) zk_Rf78_240).symm
def zk_Rf78_222 : List zc_T := zc_N 9 480 :: zc_P 78 40 (some 1610) :: zk_Rf78_231
theorem i_Rf78_222 (d : Nat) {h : am_H} (hG : am_G h = 0) (hk : am_kd h 78 8 = true) (hl : (am_S h).length = 1610) : f_Rf_init_222 d h 78 = f_Rf_init_249 d (zc_R h zk_Rf78_222) 78 := by
  rw [e_Rf_init_222, tn_480, zc_al hG hk (by decide) (by decide), hl, i_Rf78_231 d (h := am_sP (am_nw h (9, 480)) 78 40 (some 1610)) hG (zc_kP hk) (zc_ln hl)]
  exact congrArg (fun z => f_Rf_init_249 d z 78) (zc_c2 h 9 480 78 40 (some 1610) zk_Rf78_231).symm
def zk_Rf78_213 : List zc_T := zc_N 12 480 :: zc_P 78 39 (some 1609) :: zk_Rf78_222
theorem i_Rf78_213 (d : Nat) {h : am_H} (hG : am_G h = 0) (hk : am_kd h 78 8 = true) (hl : (am_S h).length = 1609) : f_Rf_init_213 d h 78 = f_Rf_init_249 d (zc_R h zk_Rf78_213) 78 := by
  rw [e_Rf_init_213, tn_480, zc_al hG hk (by decide) (by decide), hl, i_Rf78_222 d (h := am_sP (am_nw h (12, 480)) 78 39 (some 1609)) hG (zc_kP hk) (zc_ln hl)]
  exact congrArg (fun z => f_Rf_init_249 d z 78) (zc_c2 h 12 480 78 39 (some 1609) zk_Rf78_222).symm
def zk_Rf78_204 : List zc_T := zc_N 12 480 :: zc_P 78 38 (some 1608) :: zk_Rf78_213
theorem i_Rf78_204 (d : Nat) {h : am_H} (hG : am_G h = 0) (hk : am_kd h 78 8 = true) (hl : (am_S h).length = 1608) : f_Rf_init_204 d h 78 = f_Rf_init_249 d (zc_R h zk_Rf78_204) 78 := by
  rw [e_Rf_init_204, tn_480, zc_al hG hk (by decide) (by decide), hl, i_Rf78_213 d (h := am_sP (am_nw h (12, 480)) 78 38 (some 1608)) hG (zc_kP hk) (zc_ln hl)]
  exact congrArg (fun z => f_Rf_init_249 d z 78) (zc_c2 h 12 480 78 38 (some 1608) zk_Rf78_213).symm
def zk_Rf78_197 : List zc_T := zc_N 10 5 :: zc_P 78 35 (some 1607) :: zk_Rf78_204
theorem i_Rf78_197 (d : Nat) {h : am_H} (hG : am_G h = 0) (hk : am_kd h 78 8 = true) (hl : (am_S h).length = 1607) : f_Rf_init_197 d h 78 = f_Rf_init_249 d (zc_R h zk_Rf78_197) 78 := by
  rw [e_Rf_init_197, tn_5, zc_al hG hk (by decide) (by decide), hl, i_Rf78_204 d (h := am_sP (am_nw h (10, 5)) 78 35 (some 1607)) hG (zc_kP hk) (zc_ln hl)]
  exact congrArg (fun z => f_Rf_init_249 d z 78) (zc_c2 h 10 5 78 35 (some 1607) zk_Rf78_204).symm
def zk_Rf78_189 : List zc_T := zc_N 9 24 :: zc_P 78 33 (some 1606) :: zk_Rf78_197
theorem i_Rf78_189 (d : Nat) {h : am_H} (hG : am_G h = 0) (hk : am_kd h 78 8 = true) (hl : (am_S h).length = 1606) : f_Rf_init_189 d h 78 = f_Rf_init_249 d (zc_R h zk_Rf78_189) 78 := by
  rw [e_Rf_init_189, tn_24, zc_al hG hk (by decide) (by decide), hl, i_Rf78_197 d (h := am_sP (am_nw h (9, 24)) 78 33 (some 1606)) hG (zc_kP hk) (zc_ln hl)]
  exact congrArg (fun z => f_Rf_init_249 d z 78) (zc_c2 h 9 24 78 33 (some 1606) zk_Rf78_197).symm
def zk_Rf78_181 : List zc_T := zc_N 9 24 :: zc_P 78 32 (some 1605) :: zk_Rf78_189
theorem i_Rf78_181 (d : Nat) {h : am_H} (hG : am_G h = 0) (hk : am_kd h 78 8 = true) (hl : (am_S h).length = 1605) : f_Rf_init_181 d h 78 = f_Rf_init_249 d (zc_R h zk_Rf78_181) 78 := by
  rw [e_Rf_init_181, tn_24, zc_al hG hk (by decide) (by decide), hl, i_Rf78_189 d (h := am_sP (am_nw h (9, 24)) 78 32 (some 1605)) hG (zc_kP hk) (zc_ln hl)]
  exact congrArg (fun z => f_Rf_init_249 d z 78) (zc_c2 h 9 24 78 32 (some 1605) zk_Rf78_189).symm
def zk_Rf78_173 : List zc_T := zc_N 9 24 :: zc_P 78 31 (some 1604) :: zk_Rf78_181
theorem i_Rf78_173 (d : Nat) {h : am_H} (hG : am_G h = 0) (hk : am_kd h 78 8 = true) (hl : (am_S h).length = 1604) : f_Rf_init_173 d h 78 = f_Rf_init_249 d (zc_R h zk_Rf78_173) 78 := by
  rw [e_Rf_init_173, tn_24, zc_al hG hk (by decide) (by decide), hl, i_Rf78_181 d (h := am_sP (am_nw h (9, 24)) 78 31 (some 1604)) hG (zc_kP hk) (zc_ln hl)]
  exact congrArg (fun z => f_Rf_init_249 d z 78) (zc_c2 h 9 24 78 31 (some 1604) zk_Rf78_181).symm
def zk_Rf78_165 : List zc_T := zc_N 9 24 :: zc_P 78 30 (some 1603) :: zk_Rf78_173
theorem i_Rf78_165 (d : Nat) {h : am_H} (hG : am_G h = 0) (hk : am_kd h 78 8 = true) (hl : (am_S h).length = 1603) : f_Rf_init_165 d h 78 = f_Rf_init_249 d (zc_R h zk_Rf78_165) 78 := by
  rw [e_Rf_init_165, tn_24, zc_al hG hk (by decide) (by decide), hl, i_Rf78_173 d (h := am_sP (am_nw h (9, 24)) 78 30 (some 1603)) hG (zc_kP hk) (zc_ln hl)]
  exact congrArg (fun z => f_Rf_init_249 d z 78) (zc_c2 h 9 24 78 30 (some 1603) zk_Rf78_173).symm
def zk_Rf78_157 : List zc_T := zc_N 9 24 :: zc_P 78 29 (some 1602) :: zk_Rf78_165
theorem i_Rf78_157 (d : Nat) {h : am_H} (hG : am_G h = 0) (hk : am_kd h 78 8 = true) (hl : (am_S h).length = 1602) : f_Rf_init_157 d h 78 = f_Rf_init_249 d (zc_R h zk_Rf78_157) 78 := by
  rw [e_Rf_init_157, tn_24, zc_al hG hk (by decide) (by decide), hl, i_Rf78_165 d (h := am_sP (am_nw h (9, 24)) 78 29 (some 1602)) hG (zc_kP hk) (zc_ln hl)]
  exact congrArg (fun z => f_Rf_init_249 d z 78) (zc_c2 h 9 24 78 29 (some 1602) zk_Rf78_165).symm
def zk_Rf78_149 : List zc_T := zc_N 9 24 :: zc_P 78 28 (some 1601) :: zk_Rf78_157
theorem i_Rf78_149 (d : Nat) {h : am_H} (hG : am_G h = 0) (hk : am_kd h 78 8 = true) (hl : (am_S h).length = 1601) : f_Rf_init_149 d h 78 = f_Rf_init_249 d (zc_R h zk_Rf78_149) 78 := by
  rw [e_Rf_init_149, tn_24, zc_al hG hk (by decide) (by decide), hl, i_Rf78_157 d (h := am_sP (am_nw h (9, 24)) 78 28 (some 1601)) hG (zc_kP hk) (zc_ln hl)]
  exact congrArg (fun z => f_Rf_init_249 d z 78) (zc_c2 h 9 24 78 28 (some 1601) zk_Rf78_157).symm
def zk_Rf78_141 : List zc_T := zc_N 9 24 :: zc_P 78 27 (some 1600) :: zk_Rf78_149
theorem i_Rf78_141 (d : Nat) {h : am_H} (hG : am_G h = 0) (hk : am_kd h 78 8 = true) (hl : (am_S h).length = 1600) : f_Rf_init_141 d h 78 = f_Rf_init_249 d (zc_R h zk_Rf78_141) 78 := by
  rw [e_Rf_init_141, tn_24, zc_al hG hk (by decide) (by decide), hl, i_Rf78_149 d (h := am_sP (am_nw h (9, 24)) 78 27 (some 1600)) hG (zc_kP hk) (zc_ln hl)]
  exact congrArg (fun z => f_Rf_init_249 d z 78) (zc_c2 h 9 24 78 27 (some 1600) zk_Rf78_149).symm
def zk_Rf78_129 : List zc_T := zc_M 13 9 60 60 :: zc_P 78 25 (some 1539) :: zk_Rf78_141
theorem i_Rf78_129 (d : Nat) {h : am_H} (hG : am_G h = 0) (hk : am_kd h 78 8 = true) (hl : (am_S h).length = 1539) : f_Rf_init_129 d h 78 = f_Rf_init_249 d (zc_R h zk_Rf78_129) 78 := by
  rw [e_Rf_init_129, tn_60, zc_am hG hk (by decide) (by decide) (by decide) (by decide), hl, i_Rf78_141 d (h := am_sP (am_nm h 13 9 60 60) 78 25 (some 1539)) hG (zc_km hk) (zc_lm hl)]
  exact congrArg (fun z => f_Rf_init_249 d z 78) (zc_cM h 13 9 60 60 78 25 (some 1539) zk_Rf78_141).symm
def zk_Rf78_121 : List zc_T := zc_N 9 8 :: zc_P 78 24 (some 1538) :: zk_Rf78_129
theorem i_Rf78_121 (d : Nat) {h : am_H} (hG : am_G h = 0) (hk : am_kd h 78 8 = true) (hl : (am_S h).length = 1538) : f_Rf_init_121 d h 78 = f_Rf_init_249 d (zc_R h zk_Rf78_121) 78 := by
  rw [e_Rf_init_121, tn_8, zc_al hG hk (by decide) (by decide), hl, i_Rf78_129 d (h := am_sP (am_nw h (9, 8)) 78 24 (some 1538)) hG (zc_kP hk) (zc_ln hl)]
  exact congrArg (fun z => f_Rf_init_249 d z 78) (zc_c2 h 9 8 78 24 (some 1538) zk_Rf78_129).symm
def zk_Rf78_108 : List zc_T := zc_M 14 10 8 480 :: zc_P 78 23 (some 1529) :: zk_Rf78_121
theorem i_Rf78_108 (d : Nat) {h : am_H} (hG : am_G h = 0) (hk : am_kd h 78 8 = true) (hl : (am_S h).length = 1529) : f_Rf_init_108 d h 78 = f_Rf_init_249 d (zc_R h zk_Rf78_108) 78 := by
  rw [e_Rf_init_108, tn_8, tn_480, zc_am hG hk (by decide) (by decide) (by decide) (by decide), hl, i_Rf78_121 d (h := am_sP (am_nm h 14 10 8 480) 78 23 (some 1529)) hG (zc_km hk) (zc_lm hl)]
  exact congrArg (fun z => f_Rf_init_249 d z 78) (zc_cM h 14 10 8 480 78 23 (some 1529) zk_Rf78_121).symm
def zk_Rf78_95 : List zc_T := zc_M 14 10 480 8 :: zc_P 78 22 (some 1048) :: zk_Rf78_108
theorem i_Rf78_95 (d : Nat) {h : am_H} (hG : am_G h = 0) (hk : am_kd h 78 8 = true) (hl : (am_S h).length = 1048) : f_Rf_init_95 d h 78 = f_Rf_init_249 d (zc_R h zk_Rf78_95) 78 := by
  rw [e_Rf_init_95, tn_480, tn_8, zc_am hG hk (by decide) (by decide) (by decide) (by decide), hl, i_Rf78_108 d (h := am_sP (am_nm h 14 10 480 8) 78 22 (some 1048)) hG (zc_km hk) (zc_lm hl)]
  exact congrArg (fun z => f_Rf_init_249 d z 78) (zc_cM h 14 10 480 8 78 22 (some 1048) zk_Rf78_108).symm
def zk_Rf78_82 : List zc_T := zc_M 14 10 480 8 :: zc_P 78 21 (some 567) :: zk_Rf78_95
theorem i_Rf78_82 (d : Nat) {h : am_H} (hG : am_G h = 0) (hk : am_kd h 78 8 = true) (hl : (am_S h).length = 567) : f_Rf_init_82 d h 78 = f_Rf_init_249 d (zc_R h zk_Rf78_82) 78 := by
  rw [e_Rf_init_82, tn_480, tn_8, zc_am hG hk (by decide) (by decide) (by decide) (by decide), hl, i_Rf78_95 d (h := am_sP (am_nm h 14 10 480 8) 78 21 (some 567)) hG (zc_km hk) (zc_lm hl)]
  exact congrArg (fun z => f_Rf_init_249 d z 78) (zc_cM h 14 10 480 8 78 21 (some 567) zk_Rf78_95).symm
def zk_Rf78_69 : List zc_T := zc_M 14 10 480 8 :: zc_P 78 20 (some 86) :: zk_Rf78_82
theorem i_Rf78_69 (d : Nat) {h : am_H} (hG : am_G h = 0) (hk : am_kd h 78 8 = true) (hl : (am_S h).length = 86) : f_Rf_init_69 d h 78 = f_Rf_init_249 d (zc_R h zk_Rf78_69) 78 := by
  rw [e_Rf_init_69, tn_480, tn_8, zc_am hG hk (by decide) (by decide) (by decide) (by decide), hl, i_Rf78_82 d (h := am_sP (am_nm h 14 10 480 8) 78 20 (some 86)) hG (zc_km hk) (zc_lm hl)]
  exact congrArg (fun z => f_Rf_init_249 d z 78) (zc_cM h 14 10 480 8 78 20 (some 86) zk_Rf78_82).symm
def zk_Rf78_60 : List zc_T := zc_N 10 480 :: zc_P 78 19 (some 85) :: zk_Rf78_69
theorem i_Rf78_60 (d : Nat) {h : am_H} (hG : am_G h = 0) (hk : am_kd h 78 8 = true) (hl : (am_S h).length = 85) : f_Rf_init_60 d h 78 = f_Rf_init_249 d (zc_R h zk_Rf78_60) 78 := by
  rw [e_Rf_init_60, tn_480, zc_al hG hk (by decide) (by decide), hl, i_Rf78_69 d (h := am_sP (am_nw h (10, 480)) 78 19 (some 85)) hG (zc_kP hk) (zc_ln hl)]
  exact congrArg (fun z => f_Rf_init_249 d z 78) (zc_c2 h 10 480 78 19 (some 85) zk_Rf78_69).symm
def zk_Rf78_51 : List zc_T := zc_N 10 480 :: zc_P 78 18 (some 84) :: zk_Rf78_60
theorem i_Rf78_51 (d : Nat) {h : am_H} (hG : am_G h = 0) (hk : am_kd h 78 8 = true) (hl : (am_S h).length = 84) : f_Rf_init_51 d h 78 = f_Rf_init_249 d (zc_R h zk_Rf78_51) 78 := by
  rw [e_Rf_init_51, tn_480, zc_al hG hk (by decide) (by decide), hl, i_Rf78_60 d (h := am_sP (am_nw h (10, 480)) 78 18 (some 84)) hG (zc_kP hk) (zc_ln hl)]
  exact congrArg (fun z => f_Rf_init_249 d z 78) (zc_c2 h 10 480 78 18 (some 84) zk_Rf78_60).symm
def zk_Rf78_43 : List zc_T := zc_N 9 20 :: zc_P 78 12 (some 83) :: zk_Rf78_51
theorem i_Rf78_43 (d : Nat) {h : am_H} (hG : am_G h = 0) (hk : am_kd h 78 8 = true) (hl : (am_S h).length = 83) : f_Rf_init_43 d h 78 = f_Rf_init_249 d (zc_R h zk_Rf78_43) 78 := by
  rw [e_Rf_init_43, tn_20, zc_al hG hk (by decide) (by decide), hl, i_Rf78_51 d (h := am_sP (am_nw h (9, 20)) 78 12 (some 83)) hG (zc_kP hk) (zc_ln hl)]
  exact congrArg (fun z => f_Rf_init_249 d z 78) (zc_c2 h 9 20 78 12 (some 83) zk_Rf78_51).symm
def zk_Rf78_34 : List zc_T := zc_N 9 1604 :: zc_P 78 10 (some 82) :: zk_Rf78_43
theorem i_Rf78_34 (d : Nat) {h : am_H} (hG : am_G h = 0) (hk : am_kd h 78 8 = true) (hl : (am_S h).length = 82) : f_Rf_init_34 d h 78 = f_Rf_init_249 d (zc_R h zk_Rf78_34) 78 := by
  rw [e_Rf_init_34, tn_1604, zc_al hG hk (by decide) (by decide), hl, i_Rf78_43 d (h := am_sP (am_nw h (9, 1604)) 78 10 (some 82)) hG (zc_kP hk) (zc_ln hl)]
  exact congrArg (fun z => f_Rf_init_249 d z 78) (zc_c2 h 9 1604 78 10 (some 82) zk_Rf78_43).symm
def zk_Rf78_25 : List zc_T := zc_N 9 1604 :: zc_P 78 9 (some 81) :: zk_Rf78_34
theorem i_Rf78_25 (d : Nat) {h : am_H} (hG : am_G h = 0) (hk : am_kd h 78 8 = true) (hl : (am_S h).length = 81) : f_Rf_init_25 d h 78 = f_Rf_init_249 d (zc_R h zk_Rf78_25) 78 := by
  rw [e_Rf_init_25, tn_1604, zc_al hG hk (by decide) (by decide), hl, i_Rf78_34 d (h := am_sP (am_nw h (9, 1604)) 78 9 (some 81)) hG (zc_kP hk) (zc_ln hl)]
  exact congrArg (fun z => f_Rf_init_249 d z 78) (zc_c2 h 9 1604 78 9 (some 81) zk_Rf78_34).symm
def zk_Rf78_16 : List zc_T := zc_N 9 400 :: zc_P 78 8 (some 80) :: zk_Rf78_25
theorem i_Rf78_16 (d : Nat) {h : am_H} (hG : am_G h = 0) (hk : am_kd h 78 8 = true) (hl : (am_S h).length = 80) : f_Rf_init_16 d h 78 = f_Rf_init_249 d (zc_R h zk_Rf78_16) 78 := by
  rw [e_Rf_init_16, tn_400, zc_al hG hk (by decide) (by decide), hl, i_Rf78_25 d (h := am_sP (am_nw h (9, 400)) 78 8 (some 80)) hG (zc_kP hk) (zc_ln hl)]
  exact congrArg (fun z => f_Rf_init_249 d z 78) (zc_c2 h 9 400 78 8 (some 80) zk_Rf78_25).symm
def zk_Rf78_11 : List zc_T := zc_I 78 5 (-1) :: zk_Rf78_16
theorem i_Rf78_11 (d : Nat) {h : am_H} (hG : am_G h = 0) (hk : am_kd h 78 8 = true) (hl : (am_S h).length = 80) : f_Rf_init_11 d h 78 = f_Rf_init_249 d (zc_R h zk_Rf78_11) 78 := by
  rw [e_Rf_init_11, lz_k hk, i_Rf78_16 d (h := am_sI h 78 5 (-1)) hG hk hl]
  exact congrArg (fun z => f_Rf_init_249 d z 78) (zc_cI h 78 5 (-1) zk_Rf78_16).symm
def zk_Rf78_0 : List zc_T := zc_N 9 3 :: zc_P 78 1 (some 79) :: zk_Rf78_11
theorem i_Rf78_0 (d : Nat) {h : am_H} (hG : am_G h = 0) (hk : am_kd h 78 8 = true) (hl : (am_S h).length = 79) : f_Rf_init d h 78 = f_Rf_init_249 d (zc_R h zk_Rf78_0) 78 := by
  rw [e_Rf_init, tn_3, zc_al hG hk (by decide) (by decide), hl, i_Rf78_11 d (h := am_sP (am_nw h (9, 3)) 78 1 (some 79)) hG (zc_kP hk) (zc_ln hl)]
  exact congrArg (fun z => f_Rf_init_249 d z 78) (zc_c2 h 9 3 78 1 (some 79) zk_Rf78_11).symm
theorem zn_Rf78 : (zc_S zk_Rf78_0).length = 1534 := by decide +kernel
theorem zt_Re37 : zk_Re37_0.all (zc_t1 1) = true := by decide +kernel
theorem zt_Sa42 : zk_Sa42_0.all (zc_t1 1) = true := by decide +kernel
theorem zt_Hi54 : zk_Hi54_0.all (zc_t1 1) = true := by decide +kernel
theorem zt_Sa61 : zk_Sa61_0.all (zc_t1 1) = true := by decide +kernel
theorem zt_Rs74 : zk_Rs74_0.all (zc_t1 1) = true := by decide +kernel
theorem zt_Mo76 : zk_Mo76_0.all (zc_t1 1) = true := by decide +kernel
theorem zu_Rs74 : zk_Rs74_0.all (zc_t1 61) = true := by decide +kernel
theorem zu_Mo76 : zk_Mo76_0.all (zc_t1 61) = true := by decide +kernel
theorem zq_Sa61 (P : Nat → Nat → Option Nat) : zc_p 62 P zk_Sa61_0 61 0 = some 3 := rfl
def zk_Lc_178 : List zc_T := []
theorem i_Lc_178 (d : Nat) {h : am_H} (hG : am_G h = 0) (hk : am_kd h 1 7 = true) (hl : (am_S h).length = 78) (q13 : am_P h 1 13 = some 61) (k61 : am_kd h 61 5 = true) (q61 : am_P h 61 0 = some 3) : f_Lc_init_178 (d + 1) h = some (.inr none, zc_R h zk_Lc_178) := e_Lc_init_178 (d + 1) h
def zk_Lc_171 : List zc_T := zc_N 9 3 :: zc_P 1 17 (some 77) :: zk_Lc_178
theorem i_Lc_171 (d : Nat) {h : am_H} (hG : am_G h = 0) (hk : am_kd h 1 7 = true) (hl : (am_S h).length = 77) (q13 : am_P h 1 13 = some 61) (k61 : am_kd h 61 5 = true) (q61 : am_P h 61 0 = some 3) : f_Lc_init_171 (d + 1) h 1 = some (.inr none, zc_R h zk_Lc_171) := by
  rw [e_Lc_init_171, tn_3, zc_al hG hk (by decide) (by decide), hl, i_Lc_178 d (h := am_sP (am_nw h (9, 3)) 1 17 (some 77)) hG (zc_kP hk) (zc_ln hl) (zc_pa hl (by omega) (by omega) q13) (zc_kP k61) (zc_pa hl (by omega) (by omega) q61)]
  exact congrArg (fun z => some (Sum.inr none, z)) (zc_c2 h 9 3 1 17 (some 77) zk_Lc_178).symm
def zk_Lc_160 : List zc_T := zc_N 1 2 :: (zk_Mo76_0 ++ zc_P 1 16 (some 76) :: zk_Lc_171)
theorem i_Lc_160 (d : Nat) {h : am_H} (hG : am_G h = 0) (hk : am_kd h 1 7 = true) (hl : (am_S h).length = 76) (q13 : am_P h 1 13 = some 61) (k61 : am_kd h 61 5 = true) (q61 : am_P h 61 0 = some 3) : f_Lc_init_160 (d + 1) h 1 = some (.inr none, zc_R h zk_Lc_160) := by
  rw [e_Lc_init_160, zc_ob hG, hl, lz_k (zc_kk hl), lz_cv (i_Mo76_0 d (h := am_nw h (1, 2)) hG (zc_kk hl) (zc_lw hl)), lz_k (zc_kR (zc_kn hk)), i_Lc_171 d (h := am_sP (zc_R (am_nw h (1, 2)) zk_Mo76_0) 1 16 (some 76)) (zc_Gs hG) (zc_kS hk) ((zc_lS hl).trans (by rw [zn_Mo76]))  (zc_ps hl (by omega) zt_Mo76 (by omega) q13) (zc_kS k61) (zc_ps hl (by omega) zu_Mo76 (by omega) q61)]
  exact congrArg (fun z => some (Sum.inr none, z)) (zc_sb h 1 2 zk_Mo76_0 1 16 (some 76) zk_Lc_171 _ rfl)
def zk_Lc_145 : List zc_T := zc_N 4 10 :: (zk_Rs74_0 ++ zc_P 1 15 (some 74) :: zk_Lc_160)
theorem i_Lc_145 (d : Nat) {h : am_H} (hG : am_G h = 0) (hk : am_kd h 1 7 = true) (hl : (am_S h).length = 74) (q13 : am_P h 1 13 = some 61) (k61 : am_kd h 61 5 = true) (q61 : am_P h 61 0 = some 3) : f_Lc_init_145 (d + 1) h 1 = some (.inr none, zc_R h zk_Lc_145) := by
  rw [e_Lc_init_145, zc_ob hG, lz_p (zc_kn hk) (zc_pw hl (by omega) q13), hl, lz_k (zc_kk hl), lz_cv (i_Rs74_0 d (h := am_nw h (4, 10)) hG (zc_kk hl) (zc_lw hl) (zc_kn k61) (zc_pw hl (by omega) q61)), lz_k (zc_kR (zc_kn hk)), i_Lc_160 d (h := am_sP (zc_R (am_nw h (4, 10)) zk_Rs74_0) 1 15 (some 74)) (zc_Gs hG) (zc_kS hk) ((zc_lS hl).trans (by rw [zn_Rs74]))  (zc_ps hl (by omega) zt_Rs74 (by omega) q13) (zc_kS k61) (zc_ps hl (by omega) zu_Rs74 (by omega) q61)]
  exact congrArg (fun z => some (Sum.inr none, z)) (zc_sb h 4 10 zk_Rs74_0 1 15 (some 74) zk_Lc_160 _ rfl)
def zk_Lc_137 : List zc_T := zc_N 10 60 :: zc_P 1 14 (some 73) :: zk_Lc_145
theorem i_Lc_137 (d : Nat) {h : am_H} (hG : am_G h = 0) (hk : am_kd h 1 7 = true) (hl : (am_S h).length = 73) (q13 : am_P h 1 13 = some 61) (k61 : am_kd h 61 5 = true) (q61 : am_P h 61 0 = some 3) : f_Lc_init_137 (d + 1) h 1 = some (.inr none, zc_R h zk_Lc_137) := by
  rw [e_Lc_init_137, tn_60, zc_al hG hk (by decide) (by decide), hl, i_Lc_145 d (h := am_sP (am_nw h (10, 60)) 1 14 (some 73)) hG (zc_kP hk) (zc_ln hl) (zc_pa hl (by omega) (by omega) q13) (zc_kP k61) (zc_pa hl (by omega) (by omega) q61)]
  exact congrArg (fun z => some (Sum.inr none, z)) (zc_c2 h 10 60 1 14 (some 73) zk_Lc_145).symm
def zk_Lc_122 : List zc_T := zc_N 5 18 :: (zk_Sa61_0 ++ zc_P 1 13 (some 61) :: zk_Lc_137)
theorem i_Lc_122 (d : Nat) {h : am_H} (hG : am_G h = 0) (hk : am_kd h 1 7 = true) (hl : (am_S h).length = 61) (p0 : am_P h 1 0 = some 2) (p3 : am_P h 1 3 = some 3) (p4 : am_P h 1 4 = some 20) : f_Lc_init_122 (d + 1) h 1 = some (.inr none, zc_R h zk_Lc_122) := by
  rw [e_Lc_init_122, zc_ob hG, lz_p (zc_kn hk) (zc_pw hl (by omega) p3), hl, lz_k (zc_kk hl), lz_cv (i_Sa61_0 d (h := am_nw h (5, 18)) hG (zc_kk hl) (zc_lw hl)), lz_k (zc_kR (zc_kn hk)), i_Lc_137 d (h := am_sP (zc_R (am_nw h (5, 18)) zk_Sa61_0) 1 13 (some 61)) (zc_Gs hG) (zc_kS hk) ((zc_lS hl).trans (by rw [zn_Sa61]))  (zc_pq rfl) (zc_kT hl) (zc_pn (by omega) ((congrFun (congrFun (zc_pe zk_Sa61_0 (am_nw h (5, 18)) 62 (zc_lw hl)) 61) 0).trans (zq_Sa61 _)))]
  exact congrArg (fun z => some (Sum.inr none, z)) (zc_sb h 5 18 zk_Sa61_0 1 13 (some 61) zk_Lc_137 _ rfl)
def zk_Lc_111 : List zc_T := zc_N 0 8 :: (zk_Hi54_0 ++ zc_P 1 12 (some 54) :: zk_Lc_122)
theorem i_Lc_111 (d : Nat) {h : am_H} (hG : am_G h = 0) (hk : am_kd h 1 7 = true) (hl : (am_S h).length = 54) (p0 : am_P h 1 0 = some 2) (p3 : am_P h 1 3 = some 3) (p4 : am_P h 1 4 = some 20) : f_Lc_init_111 (d + 1) h 1 = some (.inr none, zc_R h zk_Lc_111) := by
  rw [e_Lc_init_111, zc_ob hG, hl, lz_k (zc_kk hl), lz_cv (i_Hi54_0 d (h := am_nw h (0, 8)) hG (zc_kk hl) (zc_lw hl)), lz_k (zc_kR (zc_kn hk)), i_Lc_122 d (h := am_sP (zc_R (am_nw h (0, 8)) zk_Hi54_0) 1 12 (some 54)) (zc_Gs hG) (zc_kS hk) ((zc_lS hl).trans (by rw [zn_Hi54]))  (zc_ps hl (by omega) zt_Hi54 (by omega) p0) (zc_ps hl (by omega) zt_Hi54 (by omega) p3) (zc_ps hl (by omega) zt_Hi54 (by omega) p4)]
  exact congrArg (fun z => some (Sum.inr none, z)) (zc_sb h 0 8 zk_Hi54_0 1 12 (some 54) zk_Lc_122 _ rfl)
def zk_Lc_96 : List zc_T := zc_N 5 18 :: (zk_Sa42_0 ++ zc_P 1 11 (some 42) :: zk_Lc_111)
theorem i_Lc_96 (d : Nat) {h : am_H} (hG : am_G h = 0) (hk : am_kd h 1 7 = true) (hl : (am_S h).length = 42) (p0 : am_P h 1 0 = some 2) (p3 : am_P h 1 3 = some 3) (p4 : am_P h 1 4 = some 20) : f_Lc_init_96 (d + 1) h 1 = some (.inr none, zc_R h zk_Lc_96) := by
  rw [e_Lc_init_96, zc_ob hG, lz_p (zc_kn hk) (zc_pw hl (by omega) p3), hl, lz_k (zc_kk hl), lz_cv (i_Sa42_0 d (h := am_nw h (5, 18)) hG (zc_kk hl) (zc_lw hl)), lz_k (zc_kR (zc_kn hk)), i_Lc_111 d (h := am_sP (zc_R (am_nw h (5, 18)) zk_Sa42_0) 1 11 (some 42)) (zc_Gs hG) (zc_kS hk) ((zc_lS hl).trans (by rw [zn_Sa42]))  (zc_ps hl (by omega) zt_Sa42 (by omega) p0) (zc_ps hl (by omega) zt_Sa42 (by omega) p3) (zc_ps hl (by omega) zt_Sa42 (by omega) p4)]
  exact congrArg (fun z => some (Sum.inr none, z)) (zc_sb h 5 18 zk_Sa42_0 1 11 (some 42) zk_Lc_111 _ rfl)
def zk_Lc_87 : List zc_T := zc_N 9 3600 :: zc_P 1 10 (some 41) :: zk_Lc_96
theorem i_Lc_87 (d : Nat) {h : am_H} (hG : am_G h = 0) (hk : am_kd h 1 7 = true) (hl : (am_S h).length = 41) (p0 : am_P h 1 0 = some 2) (p3 : am_P h 1 3 = some 3) (p4 : am_P h 1 4 = some 20) : f_Lc_init_87 (d + 1) h 1 = some (.inr none, zc_R h zk_Lc_87) := by
  rw [e_Lc_init_87, tn_3600, zc_al hG hk (by decide) (by decide), hl, i_Lc_96 d (h := am_sP (am_nw h (9, 3600)) 1 10 (some 41)) hG (zc_kP hk) (zc_ln hl) (zc_pa hl (by omega) (by omega) p0) (zc_pa hl (by omega) (by omega) p3) (zc_pa hl (by omega) (by omega) p4)]
  exact congrArg (fun z => some (Sum.inr none, z)) (zc_c2 h 9 3600 1 10 (some 41) zk_Lc_96).symm
def zk_Lc_82 : List zc_T := zc_I 1 9 0 :: zk_Lc_87
theorem i_Lc_82 (d : Nat) {h : am_H} (hG : am_G h = 0) (hk : am_kd h 1 7 = true) (hl : (am_S h).length = 41) (p0 : am_P h 1 0 = some 2) (p3 : am_P h 1 3 = some 3) (p4 : am_P h 1 4 = some 20) : f_Lc_init_82 (d + 1) h 1 = some (.inr none, zc_R h zk_Lc_82) := by
  rw [e_Lc_init_82, lz_k hk, i_Lc_87 d (h := am_sI h 1 9 0) hG hk hl p0 p3 p4]
  exact congrArg (fun z => some (Sum.inr none, z)) (zc_cI h 1 9 0 zk_Lc_87).symm
def zk_Lc_77 : List zc_T := zc_I 1 8 0 :: zk_Lc_82
theorem i_Lc_77 (d : Nat) {h : am_H} (hG : am_G h = 0) (hk : am_kd h 1 7 = true) (hl : (am_S h).length = 41) (p0 : am_P h 1 0 = some 2) (p3 : am_P h 1 3 = some 3) (p4 : am_P h 1 4 = some 20) : f_Lc_init_77 (d + 1) h 1 = some (.inr none, zc_R h zk_Lc_77) := by
  rw [e_Lc_init_77, o1_0, lz_k hk, i_Lc_82 d (h := am_sI h 1 8 0) hG hk hl p0 p3 p4]
  exact congrArg (fun z => some (Sum.inr none, z)) (zc_cI h 1 8 0 zk_Lc_82).symm
def zk_Lc_72 : List zc_T := zc_I 1 7 0 :: zk_Lc_77
theorem i_Lc_72 (d : Nat) {h : am_H} (hG : am_G h = 0) (hk : am_kd h 1 7 = true) (hl : (am_S h).length = 41) (p0 : am_P h 1 0 = some 2) (p3 : am_P h 1 3 = some 3) (p4 : am_P h 1 4 = some 20) : f_Lc_init_72 (d + 1) h 1 = some (.inr none, zc_R h zk_Lc_72) := by
  rw [e_Lc_init_72, lz_k hk, i_Lc_77 d (h := am_sI h 1 7 0) hG hk hl p0 p3 p4]
  exact congrArg (fun z => some (Sum.inr none, z)) (zc_cI h 1 7 0 zk_Lc_77).symm
def zk_Lc_64 : List zc_T := zc_N 9 20 :: zc_P 1 6 (some 40) :: zk_Lc_72
theorem i_Lc_64 (d : Nat) {h : am_H} (hG : am_G h = 0) (hk : am_kd h 1 7 = true) (hl : (am_S h).length = 40) (p0 : am_P h 1 0 = some 2) (p3 : am_P h 1 3 = some 3) (p4 : am_P h 1 4 = some 20) : f_Lc_init_64 (d + 1) h 1 = some (.inr none, zc_R h zk_Lc_64) := by
  rw [e_Lc_init_64, tn_20, zc_al hG hk (by decide) (by decide), hl, i_Lc_72 d (h := am_sP (am_nw h (9, 20)) 1 6 (some 40)) hG (zc_kP hk) (zc_ln hl) (zc_pa hl (by omega) (by omega) p0) (zc_pa hl (by omega) (by omega) p3) (zc_pa hl (by omega) (by omega) p4)]
  exact congrArg (fun z => some (Sum.inr none, z)) (zc_c2 h 9 20 1 6 (some 40) zk_Lc_72).symm
def zk_Lc_45 : List zc_T := zc_N 3 18 :: (zk_Re37_0 ++ zc_P 1 5 (some 37) :: zk_Lc_64)
theorem i_Lc_45 (d : Nat) {h : am_H} (hG : am_G h = 0) (hk : am_kd h 1 7 = true) (hl : (am_S h).length = 37) (p0 : am_P h 1 0 = some 2) (p3 : am_P h 1 3 = some 3) (p4 : am_P h 1 4 = some 20) : f_Lc_init_45 (d + 1) h 1 = some (.inr none, zc_R h zk_Lc_45) := by
  rw [e_Lc_init_45, zc_ob hG, lz_p (zc_kn hk) (zc_pw hl (by omega) p0), lz_p (zc_kn hk) (zc_pw hl (by omega) p4), hl, lz_k (zc_kk hl), lz_cv (i_Re37_0 d (h := am_nw h (3, 18)) hG (zc_kk hl) (zc_lw hl)), lz_k (zc_kR (zc_kn hk)), i_Lc_64 d (h := am_sP (zc_R (am_nw h (3, 18)) zk_Re37_0) 1 5 (some 37)) (zc_Gs hG) (zc_kS hk) ((zc_lS hl).trans (by rw [zn_Re37]))  (zc_ps hl (by omega) zt_Re37 (by omega) p0) (zc_ps hl (by omega) zt_Re37 (by omega) p3) (zc_ps hl (by omega) zt_Re37 (by omega) p4)]
  exact congrArg (fun z => some (Sum.inr none, z)) (zc_sb h 3 18 zk_Re37_0 1 5 (some 37) zk_Lc_64 _ rfl)
abbrev zl_On3 : List zc_T := zk_On3_0
abbrev zl_On20 : List zc_T := zk_On20_0
abbrev zl_Rf78 : List zc_T := zk_Rf78_0
abbrev zl_C : List zc_T := zk_Lc_45
