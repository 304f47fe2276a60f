/-! ===== the reference: questions answered ===== -/
theorem wc_y {Q : Nat → Prop} {k : Nat} (hk : k < 32) (h : Q k) : wI (fun a => a < k ∧ Q a) ||| am_ishl 1 (nI k) = wI (fun a => a < k + 1 ∧ Q a) := wI_put hk (fun j _ => by
  constructor
  · rintro ⟨a, b⟩
    by_cases e : j = k
    · exact Or.inr e
    · exact Or.inl ⟨by omega, b⟩
  · rintro (⟨a, b⟩ | e)
    · exact ⟨by omega, b⟩
    · exact ⟨by omega, e ▸ h⟩)
theorem wc_n {Q : Nat → Prop} {k : Nat} (h : ¬ Q k) : wI (fun a => a < k ∧ Q a) = wI (fun a => a < k + 1 ∧ Q a) := wI_cong (fun j _ => by
  constructor
  · rintro ⟨a, b⟩
    exact ⟨by omega, b⟩
  · rintro ⟨a, b⟩
    by_cases e : j = k
    · exact absurd (e ▸ b) h
    · exact ⟨by omega, b⟩)
theorem wc_0 {Q : Nat → Prop} : wI (fun a => a < 0 ∧ Q a) = 0 := wI_0.mpr (fun k _ e => absurd e.1 (Nat.not_lt_zero k))
theorem RfL_w {h : am_H} {f : Nat} {O : o_T} {B : Nat → Prop} (L : RfL h f O B) {x y : Nat} (hx : x < o_P O) (hy : y < o_P O) : am_I h (f + 1462 + x) y = q_w O B x y := by
  obtain ⟨k, k1, k2, k3, k4, k5, k6⟩ := L
  unfold q_w
  rw [s_k_e k2]
  exact k6 x y hx hy
theorem Rf_b1462_1 {h : am_H} {f : Nat} (H : RfAt h f) {x : Nat} (hx : x < 60) (g : Nat → Option am_R) : am_ar h 9 (f + 1462 + x) 1 g = g 1 := Rf_b1462 H (k := 1) hx (by omega) g
theorem Rf_q_when {h : am_H} {f : Nat} {O : o_T} {B : Nat → Prop} (C : RB h f O B) (i j : Int32) (d : Nat) : RR (f_Rf_when (d + 4) h f i j) h f O B (fun _ => 1) (.int 0) (g1 (o_P O) i 0 fun x => g1 (o_P O) j 0 fun y => .inr (.int (q_wh O B x y))) := by
  have H := C.1
  have hP := C.2.1.2.1.2.2.2.1
  have hP2 := C.2.1.2.1.2.2.1
  obtain ⟨g, e0, Cg, Wg, z0⟩ := RB_b C
  have Hg := Cg.1
  have b1 := Rf_bad1 Hg z0 (c := 1) (by decide) (E := 0) (by omega) (d + 3)
  rw [← n_0] at b1
  rw [e_Rf_when]
  simp (disch := first | assumption | omega) only [hc_ck, hc_gi, hc_gl, hc_gp, ap_I, ap_L, kd_I, kd_L, kd_P, kd_rI, ar_I, ar_L, ar_P, al_I, al_L, al_P, hop_s, cond_true, cond_false, pc_I_I, pc_L_L, pc_P_P, pc_I_L, pc_I_P, pc_L_I, pc_L_P, pc_P_I, pc_P_L, pc_sS_I, pc_sS_L, pc_sS_P, I_rI, L_rI, P_rI, S_rI, cv_r, ci_r, cl_r, o1_b, o1_0, o1_1, lc_e, nI_1, nI_add, if_true, if_false, Nat.reduceEqDiff, Nat.left_eq_add, Nat.add_eq_left, false_and, and_false, true_and, and_true, and_self, eq_self, Rf_k, e0, Rf_isP Cg]
  by_cases v1 : vi (o_P O) i
  · obtain ⟨x, hx, rfl⟩ := v1
    rw [g1_y (by omega) hx]
    by_cases v2 : vi (o_P O) j
    · obtain ⟨y, hy, rfl⟩ := v2
      rw [g1_y (by omega) hy]
      obtain ⟨u, eu, Wu, Cu, Lu, u0⟩ := Rf_cl Cg d
      have Hu := Cu.1
      refine ⟨u, fW_t Wg Wu, Cu, u0.trans z0, ?_⟩
      simp (disch := first | assumption | omega) only [hc_ck, hc_gi, hc_gl, hc_gp, ap_I, ap_L, kd_I, kd_L, kd_P, kd_rI, ar_I, ar_L, ar_P, al_I, al_L, al_P, hop_s, cond_true, cond_false, pc_I_I, pc_L_L, pc_P_P, pc_I_L, pc_I_P, pc_L_I, pc_L_P, pc_P_I, pc_P_L, pc_sS_I, pc_sS_L, pc_sS_P, I_rI, L_rI, P_rI, S_rI, cv_r, ci_r, cl_r, o1_b, o1_0, o1_1, lc_e, nI_1, nI_add, if_true, if_false, Nat.reduceEqDiff, Nat.left_eq_add, Nat.add_eq_left, false_and, and_false, true_and, and_true, and_self, eq_self, Rf_k, bo_0, pd_t (show vi (o_P O) (nI x) from ⟨x, hx, rfl⟩), pd_t (show vi (o_P O) (nI y) from ⟨y, hy, rfl⟩), Bool.true_eq_false, e_Rf_when_27, Rf_bad0 Hg z0, eu, Rf_p25, Rf_a1461, Rf_b1462, Rf_b1462_1, RfL_w Lu hx hy, RfL_w Lu hx (show 1 < o_P O by omega)]
      unfold q_wh
      by_cases c : q_w O B x y = -1
      · rw [if_pos c, if_pos c]
      · rw [if_neg c, if_neg c]
    · rw [g1_n v2]
      refine ⟨g, Wg, Cg, z0, ?_⟩
      simp (disch := first | assumption | omega) only [hc_ck, hc_gi, hc_gl, hc_gp, ap_I, ap_L, kd_I, kd_L, kd_P, kd_rI, ar_I, ar_L, ar_P, al_I, al_L, al_P, hop_s, cond_true, cond_false, pc_I_I, pc_L_L, pc_P_P, pc_I_L, pc_I_P, pc_L_I, pc_L_P, pc_P_I, pc_P_L, pc_sS_I, pc_sS_L, pc_sS_P, I_rI, L_rI, P_rI, S_rI, cv_r, ci_r, cl_r, o1_b, o1_0, o1_1, lc_e, nI_1, nI_add, if_true, if_false, Nat.reduceEqDiff, Nat.left_eq_add, Nat.add_eq_left, false_and, and_false, true_and, and_true, and_self, eq_self, Rf_k, bo_0, pd_t (show vi (o_P O) (nI x) from ⟨x, hx, rfl⟩), pd_f v2, Bool.true_eq_false, e_Rf_when_27, b1, show ¬ (1 : Int32) = 0 by decide]
  · rw [g1_n v1]
    refine ⟨g, Wg, Cg, z0, ?_⟩
    simp (disch := first | assumption | omega) only [hc_ck, hc_gi, hc_gl, hc_gp, ap_I, ap_L, kd_I, kd_L, kd_P, kd_rI, ar_I, ar_L, ar_P, al_I, al_L, al_P, hop_s, cond_true, cond_false, pc_I_I, pc_L_L, pc_P_P, pc_I_L, pc_I_P, pc_L_I, pc_L_P, pc_P_I, pc_P_L, pc_sS_I, pc_sS_L, pc_sS_P, I_rI, L_rI, P_rI, S_rI, cv_r, ci_r, cl_r, o1_b, o1_0, o1_1, lc_e, nI_1, nI_add, if_true, if_false, Nat.reduceEqDiff, Nat.left_eq_add, Nat.add_eq_left, false_and, and_false, true_and, and_true, and_self, eq_self, Rf_k, bo_0, pd_f v1, e_Rf_when_27, b1, show ¬ (1 : Int32) = 0 by decide]
theorem Rf_q_link {h : am_H} {f : Nat} {O : o_T} {B : Nat → Prop} (C : RB h f O B) (i r j : Int32) (d : Nat) : RR (f_Rf_link (d + 4) h f i r j) h f O B (fun _ => 1) (.int 0) (g1 (o_P O) i 0 fun x => g1 (o_R O) r 0 fun r => g1 (o_P O) j 0 fun y => .inr (.int (bo (pd (l_K O B x r y))))) := by
  have H := C.1
  have hP := C.2.1.2.1.2.2.2.1
  have hR := C.2.1.2.1.2.1
  obtain ⟨g, e0, Cg, Wg, z0⟩ := RB_b C
  have Hg := Cg.1
  have Rg := Cg.2.1
  have b1 := Rf_bad1 Hg z0 (c := 1) (by decide) (E := 0) (by omega) (d + 3)
  rw [← n_0] at b1
  rw [e_Rf_link]
  simp (disch := first | assumption | omega) only [hc_ck, hc_gi, hc_gl, hc_gp, ap_I, ap_L, kd_I, kd_L, kd_P, kd_rI, ar_I, ar_L, ar_P, al_I, al_L, al_P, hop_s, cond_true, cond_false, pc_I_I, pc_L_L, pc_P_P, pc_I_L, pc_I_P, pc_L_I, pc_L_P, pc_P_I, pc_P_L, pc_sS_I, pc_sS_L, pc_sS_P, I_rI, L_rI, P_rI, S_rI, cv_r, ci_r, cl_r, o1_b, o1_0, o1_1, lc_e, nI_1, nI_add, if_true, if_false, Nat.reduceEqDiff, Nat.left_eq_add, Nat.add_eq_left, false_and, and_false, true_and, and_true, and_self, eq_self, Rf_k, e0, Rf_isP Cg, Rf_p9, Rw_ar1, Rw_R, vi_in]
  by_cases v1 : vi (o_P O) i
  · obtain ⟨x, hx, rfl⟩ := v1
    rw [g1_y (by omega) hx]
    by_cases v3 : vi (o_R O) r
    · obtain ⟨r, hr, rfl⟩ := v3
      rw [g1_y (by omega) hr]
      by_cases v2 : vi (o_P O) j
      · obtain ⟨y, hy, rfl⟩ := v2
        rw [g1_y (by omega) hy]
        obtain ⟨u, eu, Wu, Cu, Lu, u0⟩ := Rf_cl Cg d
        have Hu := Cu.1
        obtain ⟨k, k1, k2, k3, k4, k5, k6⟩ := Lu
        refine ⟨u, fW_t Wg Wu, Cu, u0.trans z0, ?_⟩
        simp (disch := first | assumption | omega) only [hc_ck, hc_gi, hc_gl, hc_gp, ap_I, ap_L, kd_I, kd_L, kd_P, kd_rI, ar_I, ar_L, ar_P, al_I, al_L, al_P, hop_s, cond_true, cond_false, pc_I_I, pc_L_L, pc_P_P, pc_I_L, pc_I_P, pc_L_I, pc_L_P, pc_P_I, pc_P_L, pc_sS_I, pc_sS_L, pc_sS_P, I_rI, L_rI, P_rI, S_rI, cv_r, ci_r, cl_r, o1_b, o1_0, o1_1, lc_e, nI_1, nI_add, if_true, if_false, Nat.reduceEqDiff, Nat.left_eq_add, Nat.add_eq_left, false_and, and_false, true_and, and_true, and_self, eq_self, Rf_k, bo_0, pd_t (show vi (o_P O) (nI x) from ⟨x, hx, rfl⟩), pd_t (show vi (o_P O) (nI y) from ⟨y, hy, rfl⟩), pd_t (show vi (o_R O) (nI r) from ⟨r, hr, rfl⟩), Bool.true_eq_false, e_Rf_link_43, Rf_bad0 Hg z0, eu, Rf_p20, Rf_a8, Rf_b9, (k5 x hx).2 r (by omega), Rf_has, xl_pd]
      · rw [g1_n v2]
        refine ⟨g, Wg, Cg, z0, ?_⟩
        simp (disch := first | assumption | omega) only [hc_ck, hc_gi, hc_gl, hc_gp, ap_I, ap_L, kd_I, kd_L, kd_P, kd_rI, ar_I, ar_L, ar_P, al_I, al_L, al_P, hop_s, cond_true, cond_false, pc_I_I, pc_L_L, pc_P_P, pc_I_L, pc_I_P, pc_L_I, pc_L_P, pc_P_I, pc_P_L, pc_sS_I, pc_sS_L, pc_sS_P, I_rI, L_rI, P_rI, S_rI, cv_r, ci_r, cl_r, o1_b, o1_0, o1_1, lc_e, nI_1, nI_add, if_true, if_false, Nat.reduceEqDiff, Nat.left_eq_add, Nat.add_eq_left, false_and, and_false, true_and, and_true, and_self, eq_self, Rf_k, bo_0, pd_t (show vi (o_P O) (nI x) from ⟨x, hx, rfl⟩), pd_t (show vi (o_R O) (nI r) from ⟨r, hr, rfl⟩), pd_f v2, Bool.true_eq_false, e_Rf_link_43, b1, show ¬ (1 : Int32) = 0 by decide]
    · rw [g1_n v3]
      refine ⟨g, Wg, Cg, z0, ?_⟩
      simp (disch := first | assumption | omega) only [hc_ck, hc_gi, hc_gl, hc_gp, ap_I, ap_L, kd_I, kd_L, kd_P, kd_rI, ar_I, ar_L, ar_P, al_I, al_L, al_P, hop_s, cond_true, cond_false, pc_I_I, pc_L_L, pc_P_P, pc_I_L, pc_I_P, pc_L_I, pc_L_P, pc_P_I, pc_P_L, pc_sS_I, pc_sS_L, pc_sS_P, I_rI, L_rI, P_rI, S_rI, cv_r, ci_r, cl_r, o1_b, o1_0, o1_1, lc_e, nI_1, nI_add, if_true, if_false, Nat.reduceEqDiff, Nat.left_eq_add, Nat.add_eq_left, false_and, and_false, true_and, and_true, and_self, eq_self, Rf_k, bo_0, pd_t (show vi (o_P O) (nI x) from ⟨x, hx, rfl⟩), pd_f v3, Bool.true_eq_false, e_Rf_link_43, b1, show ¬ (1 : Int32) = 0 by decide]
  · rw [g1_n v1]
    refine ⟨g, Wg, Cg, z0, ?_⟩
    simp (disch := first | assumption | omega) only [hc_ck, hc_gi, hc_gl, hc_gp, ap_I, ap_L, kd_I, kd_L, kd_P, kd_rI, ar_I, ar_L, ar_P, al_I, al_L, al_P, hop_s, cond_true, cond_false, pc_I_I, pc_L_L, pc_P_P, pc_I_L, pc_I_P, pc_L_I, pc_L_P, pc_P_I, pc_P_L, pc_sS_I, pc_sS_L, pc_sS_P, I_rI, L_rI, P_rI, S_rI, cv_r, ci_r, cl_r, o1_b, o1_0, o1_1, lc_e, nI_1, nI_add, if_true, if_false, Nat.reduceEqDiff, Nat.left_eq_add, Nat.add_eq_left, false_and, and_false, true_and, and_true, and_self, eq_self, Rf_k, bo_0, pd_f v1, e_Rf_link_43, b1, show ¬ (1 : Int32) = 0 by decide]
theorem Rf_q_under {h : am_H} {f : Nat} {O : o_T} {B : Nat → Prop} (C : RB h f O B) (r : Int32) (d : Nat) : RR (f_Rf_under (d + 4) h f r) h f O B (fun _ => 1) (.int 0) (g1 (o_R O) r 0 fun r => .inr (.int (wI (o_un O B r)))) := by
  have H := C.1
  have hR := C.2.1.2.1.2.1
  obtain ⟨g, e0, Cg, Wg, z0⟩ := RB_b C
  have Hg := Cg.1
  have Rg := Cg.2.1
  have b1 := Rf_bad1 Hg z0 (c := 1) (by decide) (E := 0) (by omega) (d + 3)
  rw [← n_0] at b1
  rw [e_Rf_under]
  rw [e0]
  simp (disch := first | assumption | omega) only [hc_ck, hc_gi, hc_gl, hc_gp, ap_I, ap_L, kd_I, kd_L, kd_P, kd_rI, ar_I, ar_L, ar_P, al_I, al_L, al_P, hop_s, cond_true, cond_false, pc_I_I, pc_L_L, pc_P_P, pc_I_L, pc_I_P, pc_L_I, pc_L_P, pc_P_I, pc_P_L, pc_sS_I, pc_sS_L, pc_sS_P, I_rI, L_rI, P_rI, S_rI, cv_r, ci_r, cl_r, o1_b, o1_0, o1_1, lc_e, nI_1, nI_add, if_true, if_false, Nat.reduceEqDiff, Nat.left_eq_add, Nat.add_eq_left, false_and, and_false, true_and, and_true, and_self, eq_self, Rf_k, Rf_p9, Rw_ar1, Rw_R, vi_in]
  by_cases v3 : vi (o_R O) r
  · obtain ⟨r, hr, rfl⟩ := v3
    rw [g1_y (by omega) hr]
    obtain ⟨u, eu, Wu, Cu, Lu, u0⟩ := Rf_cl Cg d
    have Hu := Cu.1
    obtain ⟨k, k1, k2, k3, k4, k5, k6⟩ := Lu
    refine ⟨u, fW_t Wg Wu, Cu, u0.trans z0, ?_⟩
    simp (disch := first | assumption | omega) only [hc_ck, hc_gi, hc_gl, hc_gp, ap_I, ap_L, kd_I, kd_L, kd_P, kd_rI, ar_I, ar_L, ar_P, al_I, al_L, al_P, hop_s, cond_true, cond_false, pc_I_I, pc_L_L, pc_P_P, pc_I_L, pc_I_P, pc_L_I, pc_L_P, pc_P_I, pc_P_L, pc_sS_I, pc_sS_L, pc_sS_P, I_rI, L_rI, P_rI, S_rI, cv_r, ci_r, cl_r, o1_b, o1_0, o1_1, lc_e, nI_1, nI_add, if_true, if_false, Nat.reduceEqDiff, Nat.left_eq_add, Nat.add_eq_left, false_and, and_false, true_and, and_true, and_self, eq_self, Rf_k, bo_0, pd_t (show vi (o_R O) (nI r) from ⟨r, hr, rfl⟩), Bool.true_eq_false, Rf_bad0 Hg z0, eu, Rf_p24, Rf_r1460, k4 r (by omega)]
  · rw [g1_n v3]
    refine ⟨g, Wg, Cg, z0, ?_⟩
    simp (disch := first | assumption | omega) only [hc_ck, hc_gi, hc_gl, hc_gp, ap_I, ap_L, kd_I, kd_L, kd_P, kd_rI, ar_I, ar_L, ar_P, al_I, al_L, al_P, hop_s, cond_true, cond_false, pc_I_I, pc_L_L, pc_P_P, pc_I_L, pc_I_P, pc_L_I, pc_L_P, pc_P_I, pc_P_L, pc_sS_I, pc_sS_L, pc_sS_P, I_rI, L_rI, P_rI, S_rI, cv_r, ci_r, cl_r, o1_b, o1_0, o1_1, lc_e, nI_1, nI_add, if_true, if_false, Nat.reduceEqDiff, Nat.left_eq_add, Nat.add_eq_left, false_and, and_false, true_and, and_true, and_self, eq_self, Rf_k, bo_0, pd_f v3, b1, show ¬ (1 : Int32) = 0 by decide]
theorem Rf_q_node {h : am_H} {f : Nat} {O : o_T} {B : Nat → Prop} (C : RB h f O B) (i : Int32) (d : Nat) : RR (f_Rf_node (d + 5) h f i) h f O B (fun _ => 1) (.int 0) (g1 (o_N O) i 0 fun a => .inr (.int (q_nc O B a))) := by
  have H := C.1
  have hN := C.2.1.2.1.1
  obtain ⟨g, e0, Cg, Wg, z0⟩ := RB_b C
  have Hg := Cg.1
  have b1 := Rf_bad1 Hg z0 (c := 1) (by decide) (E := 0) (by omega) (d + 4)
  rw [← n_0] at b1
  rw [e_Rf_node]
  simp (disch := first | assumption | omega) only [hc_ck, hc_gi, hc_gl, hc_gp, ap_I, ap_L, kd_I, kd_L, kd_P, kd_rI, ar_I, ar_L, ar_P, al_I, al_L, al_P, hop_s, cond_true, cond_false, pc_I_I, pc_L_L, pc_P_P, pc_I_L, pc_I_P, pc_L_I, pc_L_P, pc_P_I, pc_P_L, pc_sS_I, pc_sS_L, pc_sS_P, I_rI, L_rI, P_rI, S_rI, cv_r, ci_r, cl_r, o1_b, o1_0, o1_1, lc_e, nI_1, nI_add, if_true, if_false, Nat.reduceEqDiff, Nat.left_eq_add, Nat.add_eq_left, false_and, and_false, true_and, and_true, and_self, eq_self, Rf_k, e0, Rf_isN Cg]
  by_cases v3 : vi (o_N O) i
  · obtain ⟨a, ha, rfl⟩ := v3
    rw [g1_y (by omega) ha]
    obtain ⟨u, eu, Wu, Cu, Lu, Nu, u0⟩ := Rf_ln Cg d
    have Hu := Cu.1
    refine ⟨u, fW_t Wg Wu, Cu, u0.trans z0, ?_⟩
    simp (disch := first | assumption | omega) only [hc_ck, hc_gi, hc_gl, hc_gp, ap_I, ap_L, kd_I, kd_L, kd_P, kd_rI, ar_I, ar_L, ar_P, al_I, al_L, al_P, hop_s, cond_true, cond_false, pc_I_I, pc_L_L, pc_P_P, pc_I_L, pc_I_P, pc_L_I, pc_L_P, pc_P_I, pc_P_L, pc_sS_I, pc_sS_L, pc_sS_P, I_rI, L_rI, P_rI, S_rI, cv_r, ci_r, cl_r, o1_b, o1_0, o1_1, lc_e, nI_1, nI_add, if_true, if_false, Nat.reduceEqDiff, Nat.left_eq_add, Nat.add_eq_left, false_and, and_false, true_and, and_true, and_self, eq_self, Rf_k, bo_0, pd_t (show vi (o_N O) (nI a) from ⟨a, ha, rfl⟩), Bool.true_eq_false, Rf_bad0 Hg z0, eu, Rf_p27, Rf_r1522, Nu.2.1 a ha]
  · rw [g1_n v3]
    refine ⟨g, Wg, Cg, z0, ?_⟩
    simp (disch := first | assumption | omega) only [hc_ck, hc_gi, hc_gl, hc_gp, ap_I, ap_L, kd_I, kd_L, kd_P, kd_rI, ar_I, ar_L, ar_P, al_I, al_L, al_P, hop_s, cond_true, cond_false, pc_I_I, pc_L_L, pc_P_P, pc_I_L, pc_I_P, pc_L_I, pc_L_P, pc_P_I, pc_P_L, pc_sS_I, pc_sS_L, pc_sS_P, I_rI, L_rI, P_rI, S_rI, cv_r, ci_r, cl_r, o1_b, o1_0, o1_1, lc_e, nI_1, nI_add, if_true, if_false, Nat.reduceEqDiff, Nat.left_eq_add, Nat.add_eq_left, false_and, and_false, true_and, and_true, and_self, eq_self, Rf_k, bo_0, pd_f v3, b1, show ¬ (1 : Int32) = 0 by decide]
theorem Rf_voids {h : am_H} {f : Nat} {O : o_T} {B : Nat → Prop} (C : RB h f O B) (L : RfL h f O B) (d : Nat) : f_Rf_voids (d + 2) h f = some (.inr (some (.int (wI (fun a => a < o_N O ∧ q_vo O B a)))), h) := by
  have H := C.1
  have R := C.2.1
  have ok := R.2.1
  have hN := ok.1
  have hP := ok.2.2.2.1
  obtain ⟨k, k1, k2, k3, k4, k5, k6⟩ := L
  have key : ∀ n, n ≤ o_N O → f_Rf_voids_4 (d + 2) h f (wI (fun a => a < n ∧ q_vo O B a)) (nI n) = some (.inr (some (.int (wI (fun a => a < o_N O ∧ q_vo O B a)))), h) := by
    refine dn ?_ ?_
    · rw [e_Rf_voids_4]
      simp (disch := first | assumption | omega) only [hc_ck, hc_gi, hc_gl, hc_gp, ap_I, ap_L, kd_I, kd_L, kd_P, kd_rI, ar_I, ar_L, ar_P, al_I, al_L, al_P, hop_s, cond_true, cond_false, pc_I_I, pc_L_L, pc_P_P, pc_I_L, pc_I_P, pc_L_I, pc_L_P, pc_P_I, pc_P_L, pc_sS_I, pc_sS_L, pc_sS_P, I_rI, L_rI, P_rI, S_rI, cv_r, ci_r, cl_r, o1_b, o1_0, o1_1, lc_e, nI_1, nI_add, if_true, if_false, Nat.reduceEqDiff, Nat.left_eq_add, Nat.add_eq_left, false_and, and_false, true_and, and_true, and_self, eq_self, Rf_k, Rf_p9, Rw_ar0, Rw_N, n_le, Nat.le_refl]
    · intro n hn ih
      have hn3 : ¬ o_N O ≤ n := by omega
      have hp := (o_np_s ok hn).1
      obtain ⟨b, eb, hb⟩ := Rf_isVoid H (show o_np O n < 480 by omega) (k5 _ hp).1 d
      rw [e_Rf_voids_4]
      simp (disch := first | assumption | omega) only [hc_ck, hc_gi, hc_gl, hc_gp, ap_I, ap_L, kd_I, kd_L, kd_P, kd_rI, ar_I, ar_L, ar_P, al_I, al_L, al_P, hop_s, cond_true, cond_false, pc_I_I, pc_L_L, pc_P_P, pc_I_L, pc_I_P, pc_L_I, pc_L_P, pc_P_I, pc_P_L, pc_sS_I, pc_sS_L, pc_sS_P, I_rI, L_rI, P_rI, S_rI, cv_r, ci_r, cl_r, o1_b, o1_0, o1_1, lc_e, nI_1, nI_add, if_true, if_false, Nat.reduceEqDiff, Nat.left_eq_add, Nat.add_eq_left, false_and, and_false, true_and, and_true, and_self, eq_self, Rf_k, Rf_p9, Rw_ar0, Rw_N, n_le, hn3, Rf_namePart, eb, bo_0]
      cases b with
      | true =>
        simp only [Bool.true_eq_false, if_false]
        rw [wc_y (by omega) (show q_vo O B n from hb.mp rfl)]
        exact ih
      | false =>
        simp only [if_true]
        rw [Int32.or_zero, wc_n (fun e : q_vo O B n => absurd (hb.mpr e) (by decide))]
        exact ih
  rw [e_Rf_voids, ← key 0 (Nat.zero_le _), wc_0]
  rfl
theorem Rf_q_nothing {h : am_H} {f : Nat} {O : o_T} {B : Nat → Prop} (C : RB h f O B) (d : Nat) : RR (f_Rf_nothing (d + 4) h f) h f O B (fun _ => 1) (.int 0) (.inr (.int (wI (fun a => a < o_N O ∧ q_vo O B a)))) := by
  have H := C.1
  obtain ⟨g, e0, Cg, Wg, z0⟩ := RB_b C
  have Hg := Cg.1
  obtain ⟨u, eu, Wu, Cu, Lu, u0⟩ := Rf_cl Cg d
  have Hu := Cu.1
  refine ⟨u, fW_t Wg Wu, Cu, u0.trans z0, ?_⟩
  rw [e_Rf_nothing]
  simp (disch := first | assumption | omega) only [hc_ck, hc_gi, hc_gl, hc_gp, ap_I, ap_L, kd_I, kd_L, kd_P, kd_rI, ar_I, ar_L, ar_P, al_I, al_L, al_P, hop_s, cond_true, cond_false, pc_I_I, pc_L_L, pc_P_P, pc_I_L, pc_I_P, pc_L_I, pc_L_P, pc_P_I, pc_P_L, pc_sS_I, pc_sS_L, pc_sS_P, I_rI, L_rI, P_rI, S_rI, cv_r, ci_r, cl_r, o1_b, o1_0, o1_1, lc_e, nI_1, nI_add, if_true, if_false, Nat.reduceEqDiff, Nat.left_eq_add, Nat.add_eq_left, false_and, and_false, true_and, and_true, and_self, eq_self, Rf_k, e0, eu, Rf_voids Cu Lu (d + 1)]
