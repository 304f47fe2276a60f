/-! ===== what is told in numbers; print: the reference ===== -/
theorem RfL_x {h : am_H} {f : Nat} {O : o_T} {B : Nat → Prop} (L : RfL h f O B) {x : Nat} (hx : x < o_P O) : am_L h (f + 6) x = wL (l_A O B x) ∧ ∀ r, r < 8 → am_L h (f + 9 + x) r = wL (l_K O B x r) := by
  obtain ⟨k, k1, k2, k3, k4, k5, -⟩ := L
  exact k5 x hx
theorem RfL_26 {h : am_H} {f : Nat} {O : o_T} {B : Nat → Prop} (L : RfL h f O B) : am_I h f 26 = nI (s_k O B) := by
  obtain ⟨k, k1, k2, k3, -⟩ := L
  rw [s_k_e k2]
  exact k3
theorem Rf_t152 {h : am_H} {f x : Nat} {O : o_T} {B : Nat → Prop} (C : RB h f O B) (L : RfL h f O B) (hx : x < o_P O) (S d : Nat) : ∀ n, n ≤ 8 → f_Rf_told_152 (d + 1) h f (nI (S + su (fun r => nb (wL (l_K O B x r))) n)) (nI x) (nI n) = f_Rf_told_139 (d + 1) h f (nI (S + q_nl O B x)) (nI (x + 1)) := by
  have H := C.1
  have hP := C.2.1.2.1.2.2.2.1
  refine dn ?_ ?_
  · rw [e_Rf_told_152, if_pos (by decide), nI_1]
    rfl
  · intro n hn ih
    have hn3 : ¬ 8 ≤ n := by omega
    rw [e_Rf_told_152]
    simp (disch := first | assumption | omega) only [hc_ck, hc_gi, hc_gl, hc_gp, ap_I, ap_L, kd_I, kd_L, kd_P, kd_rI, ar_I, ar_L, ar_P, al_I, al_L, al_P, hop_s, cond_true, cond_false, pc_I_I, pc_L_L, pc_P_P, pc_I_L, pc_I_P, pc_L_I, pc_L_P, pc_P_I, pc_P_L, pc_sS_I, pc_sS_L, pc_sS_P, I_rI, L_rI, P_rI, S_rI, cv_r, ci_r, cl_r, o1_b, o1_0, o1_1, lc_e, nI_1, nI_add, if_true, if_false, Nat.reduceEqDiff, Nat.left_eq_add, Nat.add_eq_left, false_and, and_false, true_and, and_true, and_self, eq_self, Rf_k, n_8, n_le, hn3, Rf_p20, Rf_a8, Rf_b9, Rf_bits, (RfL_x L hx).2 n hn]
    rw [Nat.add_assoc S]
    exact ih
theorem Rf_t139 {h : am_H} {f : Nat} {O : o_T} {B : Nat → Prop} (C : RB h f O B) (L : RfL h f O B) (d : Nat) : ∀ n, n ≤ o_P O → f_Rf_told_139 (d + 1) h f (nI (su (q_nl O B) n)) (nI n) = some (.inr (some (.int (nI (su (q_nl O B) (o_P O))))), h) := by
  have H := C.1
  have R := C.2.1
  have hP := R.2.1.2.2.2.1
  refine dn ?_ ?_
  · rw [e_Rf_told_139]
    simp (disch := first | assumption | omega) only [hc_ck, hc_gi, hc_gl, hc_gp, ap_I, ap_L, kd_I, kd_L, kd_P, kd_rI, ar_I, ar_L, ar_P, al_I, al_L, al_P, hop_s, cond_true, cond_false, pc_I_I, pc_L_L, pc_P_P, pc_I_L, pc_I_P, pc_L_I, pc_L_P, pc_P_I, pc_P_L, pc_sS_I, pc_sS_L, pc_sS_P, I_rI, L_rI, P_rI, S_rI, cv_r, ci_r, cl_r, o1_b, o1_0, o1_1, lc_e, nI_1, nI_add, if_true, if_false, Nat.reduceEqDiff, Nat.left_eq_add, Nat.add_eq_left, false_and, and_false, true_and, and_true, and_self, eq_self, Rf_k, Rf_p9, Rw_ar2, Rw_P, n_le, Nat.le_refl]
  · intro n hn ih
    have hn3 : ¬ o_P O ≤ n := by omega
    rw [e_Rf_told_139]
    simp (disch := first | assumption | omega) only [hc_ck, hc_gi, hc_gl, hc_gp, ap_I, ap_L, kd_I, kd_L, kd_P, kd_rI, ar_I, ar_L, ar_P, al_I, al_L, al_P, hop_s, cond_true, cond_false, pc_I_I, pc_L_L, pc_P_P, pc_I_L, pc_I_P, pc_L_I, pc_L_P, pc_P_I, pc_P_L, pc_sS_I, pc_sS_L, pc_sS_P, I_rI, L_rI, P_rI, S_rI, cv_r, ci_r, cl_r, o1_b, o1_0, o1_1, lc_e, nI_1, nI_add, if_true, if_false, Nat.reduceEqDiff, Nat.left_eq_add, Nat.add_eq_left, false_and, and_false, true_and, and_true, and_self, eq_self, Rf_k, Rf_p9, Rw_ar2, Rw_P, n_le, hn3]
    exact (Rf_t152 C L hn (su (q_nl O B) n) d 0 (Nat.zero_le _)).trans ih
theorem Rf_t218 {h : am_H} {f : Nat} {O : o_T} {B : Nat → Prop} (C : RB h f O B) (L : RfL h f O B) (d : Nat) : ∀ n, n ≤ o_P O → f_Rf_told_218 (d + 1) h f (nI (su (q_nu O B) n)) (nI n) = some (.inr (some (.int (nI (su (q_nu O B) (o_P O))))), h) := by
  have H := C.1
  have R := C.2.1
  have hP := R.2.1.2.2.2.1
  refine dn ?_ ?_
  · rw [e_Rf_told_218]
    simp (disch := first | assumption | omega) only [hc_ck, hc_gi, hc_gl, hc_gp, ap_I, ap_L, kd_I, kd_L, kd_P, kd_rI, ar_I, ar_L, ar_P, al_I, al_L, al_P, hop_s, cond_true, cond_false, pc_I_I, pc_L_L, pc_P_P, pc_I_L, pc_I_P, pc_L_I, pc_L_P, pc_P_I, pc_P_L, pc_sS_I, pc_sS_L, pc_sS_P, I_rI, L_rI, P_rI, S_rI, cv_r, ci_r, cl_r, o1_b, o1_0, o1_1, lc_e, nI_1, nI_add, if_true, if_false, Nat.reduceEqDiff, Nat.left_eq_add, Nat.add_eq_left, false_and, and_false, true_and, and_true, and_self, eq_self, Rf_k, Rf_p9, Rw_ar2, Rw_P, n_le, Nat.le_refl]
  · intro n hn ih
    have hn3 : ¬ o_P O ≤ n := by omega
    rw [e_Rf_told_218]
    simp (disch := first | assumption | omega) only [hc_ck, hc_gi, hc_gl, hc_gp, ap_I, ap_L, kd_I, kd_L, kd_P, kd_rI, ar_I, ar_L, ar_P, al_I, al_L, al_P, hop_s, cond_true, cond_false, pc_I_I, pc_L_L, pc_P_P, pc_I_L, pc_I_P, pc_L_I, pc_L_P, pc_P_I, pc_P_L, pc_sS_I, pc_sS_L, pc_sS_P, I_rI, L_rI, P_rI, S_rI, cv_r, ci_r, cl_r, o1_b, o1_0, o1_1, lc_e, nI_1, nI_add, if_true, if_false, Nat.reduceEqDiff, Nat.left_eq_add, Nat.add_eq_left, false_and, and_false, true_and, and_true, and_self, eq_self, Rf_k, Rf_p9, Rw_ar2, Rw_P, n_le, hn3, Rf_p18, Rf_r6, Rf_bits, (RfL_x L hn).1]
    exact ih
theorem q_voi {O : o_T} {B : Nat → Prop} (ok : o_ok O) : yi (wI (fun a => a < o_N O ∧ q_vo O B a)) 31 = false := by
  have := ok.1
  cases e : yi (wI (fun a => a < o_N O ∧ q_vo O B a)) 31
  · rfl
  · have := (wI_x.mp e).2.1
    omega
theorem Rf_q_told {h : am_H} {f : Nat} {O : o_T} {B : Nat → Prop} (C : RB h f O B) (i : Int32) (d : Nat) : RR (f_Rf_told (d + 5) h f i) h f O B (fun _ => 1) (.int 0) (g1 12 i 1 fun w => .inr (q_to O B (am_I h f 2) (am_I h f 13) w)) := by
  have H := C.1
  obtain ⟨g, e0, Cg, Wg, z0⟩ := RB_b C
  have Hg := Cg.1
  have Rg := Cg.2.1
  have b1 := Rf_bad1 Hg z0 (c := 1) (by decide) (E := 1) (by omega) (d + 4)
  rw [← n_1] at b1
  have ii := vi_inc (n := 11) (by omega) g i (d + 4)
  rw [← n_11] at ii
  rw [e_Rf_told, e0]
  simp (disch := first | assumption | omega) only [hc_ck, hc_gi, hc_gl, hc_gp, ap_I, ap_L, kd_I, kd_L, kd_P, kd_rI, ar_I, ar_L, ar_P, al_I, al_L, al_P, hop_s, cond_true, cond_false, pc_I_I, pc_L_L, pc_P_P, pc_I_L, pc_I_P, pc_L_I, pc_L_P, pc_P_I, pc_P_L, pc_sS_I, pc_sS_L, pc_sS_P, I_rI, L_rI, P_rI, S_rI, cv_r, ci_r, cl_r, o1_b, o1_0, o1_1, lc_e, nI_1, nI_add, if_true, if_false, Nat.reduceEqDiff, Nat.left_eq_add, Nat.add_eq_left, false_and, and_false, true_and, and_true, and_self, eq_self, Rf_k, ii, Nat.reduceAdd]
  by_cases v1 : vi 12 i
  · obtain ⟨w, hw, rfl⟩ := v1
    rw [g1_y (by omega) hw]
    simp (disch := first | assumption | omega) only [hc_ck, hc_gi, hc_gl, hc_gp, ap_I, ap_L, kd_I, kd_L, kd_P, kd_rI, ar_I, ar_L, ar_P, al_I, al_L, al_P, hop_s, cond_true, cond_false, pc_I_I, pc_L_L, pc_P_P, pc_I_L, pc_I_P, pc_L_I, pc_L_P, pc_P_I, pc_P_L, pc_sS_I, pc_sS_L, pc_sS_P, I_rI, L_rI, P_rI, S_rI, cv_r, ci_r, cl_r, o1_b, o1_0, o1_1, lc_e, nI_1, nI_add, if_true, if_false, Nat.reduceEqDiff, Nat.left_eq_add, Nat.add_eq_left, false_and, and_false, true_and, and_true, and_self, eq_self, bo_0, pd_t (show vi 12 (nI w) from ⟨w, hw, rfl⟩), Bool.true_eq_false]
    rw [e_Rf_told_21]
    obtain ⟨u, eu, Wu, Cu, Lu, u0⟩ := Rf_cl Cg (d + 1)
    have Hu := Cu.1
    have Ru := Cu.2.1
    have ok := Ru.2.1
    simp only [hc_ck, Rf_k Hg, cond_true, Rf_bad0 Hg z0, ci_r, eq_self, if_true, eu, cv_r]
    have W2 := fW_t Wg Wu
    have t6 := Rf_t139 Cu Lu (d + 4) 0 (Nat.zero_le _)
    have t11 := Rf_t218 Cu Lu (d + 4) 0 (Nat.zero_le _)
    rw [show nI (su (q_nl O B) 0) = 0 from rfl, show nI 0 = 0 from rfl] at t6
    rw [show nI (su (q_nu O B) 0) = 0 from rfl, show nI 0 = 0 from rfl] at t11
    obtain ⟨v, ev, Wv, Cv, Lv, Nv, v0⟩ := Rf_ln Cu d
    have Hv := Cv.1
    have en : RR (some (.inr (some (q_to O B (am_I h f 2) (am_I h f 13) w)), u)) h f O B (fun _ => 1) (.int 0) (.inr (q_to O B (am_I h f 2) (am_I h f 13) w)) := ⟨u, W2, Cu, u0.trans z0, rfl⟩
    have f2 : am_I u f 2 = am_I h f 2 := W2.2.2.2.2.2.1 2 (by omega) (by omega) (by omega) (by omega) (by omega) (by omega)
    have f13 : am_I u f 13 = am_I h f 13 := W2.2.2.2.2.2.1 13 (by omega) (by omega) (by omega) (by omega) (by omega) (by omega)
    rcases iv12 hw with rfl | rfl | rfl | rfl | rfl | rfl | rfl | rfl | rfl | rfl | rfl | rfl
    · simp +decide (disch := first | assumption | omega) only [hc_ck, hc_gi, hc_gl, hc_gp, ap_I, ap_L, kd_I, kd_L, kd_P, kd_rI, ar_I, ar_L, ar_P, al_I, al_L, al_P, hop_s, cond_true, cond_false, pc_I_I, pc_L_L, pc_P_P, pc_I_L, pc_I_P, pc_L_I, pc_L_P, pc_P_I, pc_P_L, pc_sS_I, pc_sS_L, pc_sS_P, I_rI, L_rI, P_rI, S_rI, cv_r, ci_r, cl_r, o1_b, o1_0, o1_1, lc_e, nI_1, nI_add, if_true, if_false, Nat.reduceEqDiff, Nat.left_eq_add, Nat.add_eq_left, false_and, and_false, true_and, and_true, and_self, eq_self, Rf_k, Rf_p9, Rw_ar3, Rw_A]
      exact en
    · simp +decide (disch := first | assumption | omega) only [hc_ck, hc_gi, hc_gl, hc_gp, ap_I, ap_L, kd_I, kd_L, kd_P, kd_rI, ar_I, ar_L, ar_P, al_I, al_L, al_P, hop_s, cond_true, cond_false, pc_I_I, pc_L_L, pc_P_P, pc_I_L, pc_I_P, pc_L_I, pc_L_P, pc_P_I, pc_P_L, pc_sS_I, pc_sS_L, pc_sS_P, I_rI, L_rI, P_rI, S_rI, cv_r, ci_r, cl_r, o1_b, o1_0, o1_1, lc_e, nI_1, nI_add, if_true, if_false, Nat.reduceEqDiff, Nat.left_eq_add, Nat.add_eq_left, false_and, and_false, true_and, and_true, and_self, eq_self, Rf_k, Rf_bits, Cu.2.2.1]
      exact en
    · simp +decide (disch := first | assumption | omega) only [hc_ck, hc_gi, hc_gl, hc_gp, ap_I, ap_L, kd_I, kd_L, kd_P, kd_rI, ar_I, ar_L, ar_P, al_I, al_L, al_P, hop_s, cond_true, cond_false, pc_I_I, pc_L_L, pc_P_P, pc_I_L, pc_I_P, pc_L_I, pc_L_P, pc_P_I, pc_P_L, pc_sS_I, pc_sS_L, pc_sS_P, I_rI, L_rI, P_rI, S_rI, cv_r, ci_r, cl_r, o1_b, o1_0, o1_1, lc_e, nI_1, nI_add, if_true, if_false, Nat.reduceEqDiff, Nat.left_eq_add, Nat.add_eq_left, false_and, and_false, true_and, and_true, and_self, eq_self, Rf_k, Rf_p9, Rw_ar0, Rw_N]
      exact en
    · simp +decide (disch := first | assumption | omega) only [hc_ck, hc_gi, hc_gl, hc_gp, ap_I, ap_L, kd_I, kd_L, kd_P, kd_rI, ar_I, ar_L, ar_P, al_I, al_L, al_P, hop_s, cond_true, cond_false, pc_I_I, pc_L_L, pc_P_P, pc_I_L, pc_I_P, pc_L_I, pc_L_P, pc_P_I, pc_P_L, pc_sS_I, pc_sS_L, pc_sS_P, I_rI, L_rI, P_rI, S_rI, cv_r, ci_r, cl_r, o1_b, o1_0, o1_1, lc_e, nI_1, nI_add, if_true, if_false, Nat.reduceEqDiff, Nat.left_eq_add, Nat.add_eq_left, false_and, and_false, true_and, and_true, and_self, eq_self, Rf_k, Rf_p9, Rw_ar1, Rw_R]
      exact en
    · simp +decide (disch := first | assumption | omega) only [hc_ck, hc_gi, hc_gl, hc_gp, ap_I, ap_L, kd_I, kd_L, kd_P, kd_rI, ar_I, ar_L, ar_P, al_I, al_L, al_P, hop_s, cond_true, cond_false, pc_I_I, pc_L_L, pc_P_P, pc_I_L, pc_I_P, pc_L_I, pc_L_P, pc_P_I, pc_P_L, pc_sS_I, pc_sS_L, pc_sS_P, I_rI, L_rI, P_rI, S_rI, cv_r, ci_r, cl_r, o1_b, o1_0, o1_1, lc_e, nI_1, nI_add, if_true, if_false, Nat.reduceEqDiff, Nat.left_eq_add, Nat.add_eq_left, false_and, and_false, true_and, and_true, and_self, eq_self, Rf_k, Rf_p9, Rw_ar2, Rw_P]
      exact en
    · simp +decide (disch := first | assumption | omega) only [hc_ck, hc_gi, hc_gl, hc_gp, ap_I, ap_L, kd_I, kd_L, kd_P, kd_rI, ar_I, ar_L, ar_P, al_I, al_L, al_P, hop_s, cond_true, cond_false, pc_I_I, pc_L_L, pc_P_P, pc_I_L, pc_I_P, pc_L_I, pc_L_P, pc_P_I, pc_P_L, pc_sS_I, pc_sS_L, pc_sS_P, I_rI, L_rI, P_rI, S_rI, cv_r, ci_r, cl_r, o1_b, o1_0, o1_1, lc_e, nI_1, nI_add, if_true, if_false, Nat.reduceEqDiff, Nat.left_eq_add, Nat.add_eq_left, false_and, and_false, true_and, and_true, and_self, eq_self, Rf_k, RfL_26 Lu]
      exact en
    · simp +decide (disch := first | assumption | omega) only [hc_ck, hc_gi, hc_gl, hc_gp, ap_I, ap_L, kd_I, kd_L, kd_P, kd_rI, ar_I, ar_L, ar_P, al_I, al_L, al_P, hop_s, cond_true, cond_false, pc_I_I, pc_L_L, pc_P_P, pc_I_L, pc_I_P, pc_L_I, pc_L_P, pc_P_I, pc_P_L, pc_sS_I, pc_sS_L, pc_sS_P, I_rI, L_rI, P_rI, S_rI, cv_r, ci_r, cl_r, o1_b, o1_0, o1_1, lc_e, nI_1, nI_add, if_true, if_false, Nat.reduceEqDiff, Nat.left_eq_add, Nat.add_eq_left, false_and, and_false, true_and, and_true, and_self, eq_self, t6]
      exact en
    · simp +decide (disch := first | assumption | omega) only [hc_ck, hc_gi, hc_gl, hc_gp, ap_I, ap_L, kd_I, kd_L, kd_P, kd_rI, ar_I, ar_L, ar_P, al_I, al_L, al_P, hop_s, cond_true, cond_false, pc_I_I, pc_L_L, pc_P_P, pc_I_L, pc_I_P, pc_L_I, pc_L_P, pc_P_I, pc_P_L, pc_sS_I, pc_sS_L, pc_sS_P, I_rI, L_rI, P_rI, S_rI, cv_r, ci_r, cl_r, o1_b, o1_0, o1_1, lc_e, nI_1, nI_add, if_true, if_false, Nat.reduceEqDiff, Nat.left_eq_add, Nat.add_eq_left, false_and, and_false, true_and, and_true, and_self, eq_self, Rf_k, ev, Nv.1]
      exact ⟨v, fW_t W2 Wv, Cv, (v0.trans u0).trans z0, rfl⟩
    · simp +decide (disch := first | assumption | omega) only [hc_ck, hc_gi, hc_gl, hc_gp, ap_I, ap_L, kd_I, kd_L, kd_P, kd_rI, ar_I, ar_L, ar_P, al_I, al_L, al_P, hop_s, cond_true, cond_false, pc_I_I, pc_L_L, pc_P_P, pc_I_L, pc_I_P, pc_L_I, pc_L_P, pc_P_I, pc_P_L, pc_sS_I, pc_sS_L, pc_sS_P, I_rI, L_rI, P_rI, S_rI, cv_r, ci_r, cl_r, o1_b, o1_0, o1_1, lc_e, nI_1, nI_add, if_true, if_false, Nat.reduceEqDiff, Nat.left_eq_add, Nat.add_eq_left, false_and, and_false, true_and, and_true, and_self, eq_self, Rf_k, Rf_voids Cu Lu (d + 2), Rf_bits, nb_i (q_voi ok)]
      exact en
    · simp +decide (disch := first | assumption | omega) only [hc_ck, hc_gi, hc_gl, hc_gp, ap_I, ap_L, kd_I, kd_L, kd_P, kd_rI, ar_I, ar_L, ar_P, al_I, al_L, al_P, hop_s, cond_true, cond_false, pc_I_I, pc_L_L, pc_P_P, pc_I_L, pc_I_P, pc_L_I, pc_L_P, pc_P_I, pc_P_L, pc_sS_I, pc_sS_L, pc_sS_P, I_rI, L_rI, P_rI, S_rI, cv_r, ci_r, cl_r, o1_b, o1_0, o1_1, lc_e, nI_1, nI_add, if_true, if_false, Nat.reduceEqDiff, Nat.left_eq_add, Nat.add_eq_left, false_and, and_false, true_and, and_true, and_self, eq_self, Rf_k, f2]
      exact en
    · simp +decide (disch := first | assumption | omega) only [hc_ck, hc_gi, hc_gl, hc_gp, ap_I, ap_L, kd_I, kd_L, kd_P, kd_rI, ar_I, ar_L, ar_P, al_I, al_L, al_P, hop_s, cond_true, cond_false, pc_I_I, pc_L_L, pc_P_P, pc_I_L, pc_I_P, pc_L_I, pc_L_P, pc_P_I, pc_P_L, pc_sS_I, pc_sS_L, pc_sS_P, I_rI, L_rI, P_rI, S_rI, cv_r, ci_r, cl_r, o1_b, o1_0, o1_1, lc_e, nI_1, nI_add, if_true, if_false, Nat.reduceEqDiff, Nat.left_eq_add, Nat.add_eq_left, false_and, and_false, true_and, and_true, and_self, eq_self, Rf_k, f13]
      exact en
    · simp +decide (disch := first | assumption | omega) only [hc_ck, hc_gi, hc_gl, hc_gp, ap_I, ap_L, kd_I, kd_L, kd_P, kd_rI, ar_I, ar_L, ar_P, al_I, al_L, al_P, hop_s, cond_true, cond_false, pc_I_I, pc_L_L, pc_P_P, pc_I_L, pc_I_P, pc_L_I, pc_L_P, pc_P_I, pc_P_L, pc_sS_I, pc_sS_L, pc_sS_P, I_rI, L_rI, P_rI, S_rI, cv_r, ci_r, cl_r, o1_b, o1_0, o1_1, lc_e, nI_1, nI_add, if_true, if_false, Nat.reduceEqDiff, Nat.left_eq_add, Nat.add_eq_left, false_and, and_false, true_and, and_true, and_self, eq_self, t11]
      exact en
  · rw [g1_n v1]
    refine ⟨g, Wg, Cg, z0, ?_⟩
    simp (disch := first | assumption | omega) only [hc_ck, hc_gi, hc_gl, hc_gp, ap_I, ap_L, kd_I, kd_L, kd_P, kd_rI, ar_I, ar_L, ar_P, al_I, al_L, al_P, hop_s, cond_true, cond_false, pc_I_I, pc_L_L, pc_P_P, pc_I_L, pc_I_P, pc_L_I, pc_L_P, pc_P_I, pc_P_L, pc_sS_I, pc_sS_L, pc_sS_P, I_rI, L_rI, P_rI, S_rI, cv_r, ci_r, cl_r, o1_b, o1_0, o1_1, lc_e, nI_1, nI_add, if_true, if_false, Nat.reduceEqDiff, Nat.left_eq_add, Nat.add_eq_left, false_and, and_false, true_and, and_true, and_self, eq_self, bo_0, pd_f v1]
    rw [e_Rf_told_21]
    simp only [hc_ck, Rf_k Hg, cond_true, b1, ci_r, show ¬ (1 : Int32) = 0 by decide, if_false]
theorem Rf_pr29 {h : am_H} {f x : Nat} {O : o_T} {B : Nat → Prop} (C : RB h f O B) (L : RfL h f O B) (hx : x < o_P O) (w : Int64) (d : Nat) : ∀ n, n ≤ 8 → f_Rf_print_29 (d + 1) h f w (nI x) (nI (su (fun r => nb (wL (l_K O B x r))) n)) (nI n) = f_Rf_print_13 (d + 1) h f (31 * (31 * w + (nI (q_nu O B x)).toInt64) + (nI (q_nl O B x)).toInt64) (nI (x + 1)) := by
  have H := C.1
  have hP := C.2.1.2.1.2.2.2.1
  refine dn ?_ ?_
  · rw [e_Rf_print_29, if_pos (by decide)]
    simp (disch := first | assumption | omega) only [hc_ck, hc_gi, hc_gl, hc_gp, ap_I, ap_L, kd_I, kd_L, kd_P, kd_rI, ar_I, ar_L, ar_P, al_I, al_L, al_P, hop_s, cond_true, cond_false, pc_I_I, pc_L_L, pc_P_P, pc_I_L, pc_I_P, pc_L_I, pc_L_P, pc_P_I, pc_P_L, pc_sS_I, pc_sS_L, pc_sS_P, I_rI, L_rI, P_rI, S_rI, cv_r, ci_r, cl_r, o1_b, o1_0, o1_1, lc_e, nI_1, nI_add, if_true, if_false, Nat.reduceEqDiff, Nat.left_eq_add, Nat.add_eq_left, false_and, and_false, true_and, and_true, and_self, eq_self, Rf_k, Rf_p18, Rf_r6, Rf_bits, (RfL_x L hx).1]
    rfl
  · intro n hn ih
    have hn3 : ¬ 8 ≤ n := by omega
    rw [e_Rf_print_29]
    simp (disch := first | assumption | omega) only [hc_ck, hc_gi, hc_gl, hc_gp, ap_I, ap_L, kd_I, kd_L, kd_P, kd_rI, ar_I, ar_L, ar_P, al_I, al_L, al_P, hop_s, cond_true, cond_false, pc_I_I, pc_L_L, pc_P_P, pc_I_L, pc_I_P, pc_L_I, pc_L_P, pc_P_I, pc_P_L, pc_sS_I, pc_sS_L, pc_sS_P, I_rI, L_rI, P_rI, S_rI, cv_r, ci_r, cl_r, o1_b, o1_0, o1_1, lc_e, nI_1, nI_add, if_true, if_false, Nat.reduceEqDiff, Nat.left_eq_add, Nat.add_eq_left, false_and, and_false, true_and, and_true, and_self, eq_self, Rf_k, n_8, n_le, hn3, Rf_p20, Rf_a8, Rf_b9, Rf_bits, (RfL_x L hx).2 n hn]
    exact ih
theorem Rf_q_print {h : am_H} {f : Nat} {O : o_T} {B : Nat → Prop} (C : RB h f O B) (d : Nat) : RR (f_Rf_print (d + 4) h f) h f O B (fun _ => 1) (.long 0) (.inr (.long (q_pr O B (o_P O)))) := by
  have H := C.1
  obtain ⟨g, e0, Cg, Wg, z0⟩ := RB_b C
  have Hg := Cg.1
  obtain ⟨u, eu, Wu, Cu, Lu, u0⟩ := Rf_cl Cg d
  have Hu := Cu.1
  have Ru := Cu.2.1
  have hP := Ru.2.1.2.2.2.1
  have key : ∀ n, n ≤ o_P O → f_Rf_print_13 (d + 4) u f (q_pr O B n) (nI n) = some (.inr (some (.long (q_pr O B (o_P O)))), u) := by
    refine dn ?_ ?_
    · rw [e_Rf_print_13]
      simp (disch := first | assumption | omega) only [hc_ck, hc_gi, hc_gl, hc_gp, ap_I, ap_L, kd_I, kd_L, kd_P, kd_rI, ar_I, ar_L, ar_P, al_I, al_L, al_P, hop_s, cond_true, cond_false, pc_I_I, pc_L_L, pc_P_P, pc_I_L, pc_I_P, pc_L_I, pc_L_P, pc_P_I, pc_P_L, pc_sS_I, pc_sS_L, pc_sS_P, I_rI, L_rI, P_rI, S_rI, cv_r, ci_r, cl_r, o1_b, o1_0, o1_1, lc_e, nI_1, nI_add, if_true, if_false, Nat.reduceEqDiff, Nat.left_eq_add, Nat.add_eq_left, false_and, and_false, true_and, and_true, and_self, eq_self, Rf_k, Rf_p9, Rw_ar2, Rw_P, n_le, Nat.le_refl]
    · intro n hn ih
      have hn3 : ¬ o_P O ≤ n := by omega
      rw [e_Rf_print_13]
      simp (disch := first | assumption | omega) only [hc_ck, hc_gi, hc_gl, hc_gp, ap_I, ap_L, kd_I, kd_L, kd_P, kd_rI, ar_I, ar_L, ar_P, al_I, al_L, al_P, hop_s, cond_true, cond_false, pc_I_I, pc_L_L, pc_P_P, pc_I_L, pc_I_P, pc_L_I, pc_L_P, pc_P_I, pc_P_L, pc_sS_I, pc_sS_L, pc_sS_P, I_rI, L_rI, P_rI, S_rI, cv_r, ci_r, cl_r, o1_b, o1_0, o1_1, lc_e, nI_1, nI_add, if_true, if_false, Nat.reduceEqDiff, Nat.left_eq_add, Nat.add_eq_left, false_and, and_false, true_and, and_true, and_self, eq_self, Rf_k, Rf_p9, Rw_ar2, Rw_P, n_le, hn3]
      refine (Rf_pr29 Cu Lu hn (q_pr O B n) (d + 3) 0 (Nat.zero_le _)).trans ?_
      rw [Int64.mul_comm 31, Int64.mul_comm 31 (q_pr O B n)]
      exact ih
  refine ⟨u, fW_t Wg Wu, Cu, u0.trans z0, ?_⟩
  rw [e_Rf_print]
  simp (disch := first | assumption | omega) only [hc_ck, hc_gi, hc_gl, hc_gp, ap_I, ap_L, kd_I, kd_L, kd_P, kd_rI, ar_I, ar_L, ar_P, al_I, al_L, al_P, hop_s, cond_true, cond_false, pc_I_I, pc_L_L, pc_P_P, pc_I_L, pc_I_P, pc_L_I, pc_L_P, pc_P_I, pc_P_L, pc_sS_I, pc_sS_L, pc_sS_P, I_rI, L_rI, P_rI, S_rI, cv_r, ci_r, cl_r, o1_b, o1_0, o1_1, lc_e, nI_1, nI_add, if_true, if_false, Nat.reduceEqDiff, Nat.left_eq_add, Nat.add_eq_left, false_and, and_false, true_and, and_true, and_self, eq_self, Rf_k, e0, eu]
  exact key 0 (Nat.zero_le _)
