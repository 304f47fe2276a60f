/-! ===== modules: the reference cuts, and answers ===== -/
theorem Rf_ll90 {h : am_H} {f m : Nat} {O : o_T} {n r : Int32} {w : Bool} (H : RfAt h f) (ok : o_ok O) (hm : m < o_P O) (L : LoR h f O n r w m) (x y : Bool) (hx : x = (o_pk O m == 0 && !yi n (o_pa O m))) (hy : y = (o_pk O m == 4 && !yi r (o_pa O m))) (d : Nat) : ∃ h', f_Rf_laysLost_90 d h f n r (bo w) (nI m) (nI (o_pk O m)) (nI (o_pa O m)) (nI (o_pb O m)) (bo x) (bo y) = f_Rf_laysLost_3 d h' f n r (bo w) (nI (m + 1)) ∧ fJ (f + 1530) (f + 1532) h h' ∧ LoR h' f O n r w (m + 1) := by
  have hP := ok.2.2.2.1
  obtain ⟨c3, c4, c0, c5⟩ := o_ch ok hm
  obtain ⟨u, eu, qu⟩ := Rf_ll165 H ok hm L rfl x y hx hy d
  refine ⟨u, ?_, qu⟩
  rw [← eu, e_Rf_laysLost_90]
  rcases (show o_pk O m = 0 ∨ o_pk O m = 1 ∨ o_pk O m = 2 ∨ o_pk O m = 3 ∨ o_pk O m = 4 by omega) with e | e | e | e | e
  · obtain ⟨f1, f2⟩ := lu_0 (n := n) (r := r) (w := w) e
    rw [e] at hx hy ⊢
    rw [f1]
    rw [show ((0 : Nat) == 0) = true from rfl, Bool.true_and] at hx
    rw [show ((0 : Nat) == 4) = false from rfl, Bool.false_and] at hy
    subst hx hy
    simp +decide (disch := first | assumption | omega) only [hc_ck, hc_gi, hc_gl, hc_gp, ap_I, ap_L, kd_I, kd_L, kd_P, kd_rI, ar_I, ar_L, ar_P, al_I, al_L, al_P, hop_s, cond_true, cond_false, pc_I_I, pc_L_L, pc_P_P, pc_I_L, pc_I_P, pc_L_I, pc_L_P, pc_P_I, pc_P_L, pc_sS_I, pc_sS_L, pc_sS_P, I_rI, L_rI, P_rI, S_rI, cv_r, ci_r, cl_r, o1_b, o1_0, o1_1, lc_e, nI_1, nI_add, if_true, if_false, Nat.reduceEqDiff, Nat.left_eq_add, Nat.add_eq_left, false_and, and_false, true_and, and_true, and_self, eq_self, Rf_k, Rf_p38]
    rw [e_Rf_laysLost_146]
    simp +decide only [bo_0]
    cases w <;> cases yi n (o_pa O m) <;> simp +decide only [if_true, if_false] <;> rfl
  · obtain ⟨f1, f2⟩ := lu_1 (n := n) (r := r) (w := w) e
    rw [e] at hx hy ⊢
    rw [f1]
    rw [show ((1 : Nat) == 0) = false from rfl, Bool.false_and] at hx
    rw [show ((1 : Nat) == 4) = false from rfl, Bool.false_and] at hy
    subst hx hy
    simp +decide (disch := first | assumption | omega) only [hc_ck, hc_gi, hc_gl, hc_gp, ap_I, ap_L, kd_I, kd_L, kd_P, kd_rI, ar_I, ar_L, ar_P, al_I, al_L, al_P, hop_s, cond_true, cond_false, pc_I_I, pc_L_L, pc_P_P, pc_I_L, pc_I_P, pc_L_I, pc_L_P, pc_P_I, pc_P_L, pc_sS_I, pc_sS_L, pc_sS_P, I_rI, L_rI, P_rI, S_rI, cv_r, ci_r, cl_r, o1_b, o1_0, o1_1, lc_e, nI_1, nI_add, if_true, if_false, Nat.reduceEqDiff, Nat.left_eq_add, Nat.add_eq_left, false_and, and_false, true_and, and_true, and_self, eq_self, Rf_k, Rf_p38]
    rw [e_Rf_laysLost_146]
    simp +decide only [bo_0]
    cases w <;> simp +decide only [if_true, if_false] <;> rfl
  · obtain ⟨f1, f2⟩ := lu_2 (n := n) (r := r) (w := w) e
    rw [e, f1]
    simp +decide (disch := first | assumption | omega) only [hc_ck, hc_gi, hc_gl, hc_gp, ap_I, ap_L, kd_I, kd_L, kd_P, kd_rI, ar_I, ar_L, ar_P, al_I, al_L, al_P, hop_s, cond_true, cond_false, pc_I_I, pc_L_L, pc_P_P, pc_I_L, pc_I_P, pc_L_I, pc_L_P, pc_P_I, pc_P_L, pc_sS_I, pc_sS_L, pc_sS_P, I_rI, L_rI, P_rI, S_rI, cv_r, ci_r, cl_r, o1_b, o1_0, o1_1, lc_e, nI_1, nI_add, if_true, if_false, Nat.reduceEqDiff, Nat.left_eq_add, Nat.add_eq_left, false_and, and_false, true_and, and_true, and_self, eq_self, Rf_k, Rf_p38]
    rfl
  · have ca := c3 e
    obtain ⟨f1, f2⟩ := lu_3 (n := n) (r := r) (w := w) ok hm e
    have s1 := (L (o_pa O m) (by omega)).1
    have s2 := (L (o_pb O m) (by omega)).1
    rw [e] at hx hy ⊢
    rw [f1]
    rw [show ((3 : Nat) == 0) = false from rfl, Bool.false_and] at hx
    rw [show ((3 : Nat) == 4) = false from rfl, Bool.false_and] at hy
    subst hx hy
    simp +decide (disch := first | assumption | omega) only [hc_ck, hc_gi, hc_gl, hc_gp, ap_I, ap_L, kd_I, kd_L, kd_P, kd_rI, ar_I, ar_L, ar_P, al_I, al_L, al_P, hop_s, cond_true, cond_false, pc_I_I, pc_L_L, pc_P_P, pc_I_L, pc_I_P, pc_L_I, pc_L_P, pc_P_I, pc_P_L, pc_sS_I, pc_sS_L, pc_sS_P, I_rI, L_rI, P_rI, S_rI, cv_r, ci_r, cl_r, o1_b, o1_0, o1_1, lc_e, nI_1, nI_add, if_true, if_false, Nat.reduceEqDiff, Nat.left_eq_add, Nat.add_eq_left, false_and, and_false, true_and, and_true, and_self, eq_self, Rf_k, Rf_p38, Rf_r1530, s1, s2, bo_0]
    rw [e_Rf_laysLost_146]
    simp +decide only [bo_0]
    cases w <;> cases lF O n r _ (o_pa O m) <;> cases lF O n r _ (o_pb O m) <;> simp +decide only [if_true, if_false] <;> rfl
  · have ca := c4 e
    obtain ⟨f1, f2⟩ := lu_4 (n := n) (r := r) (w := w) ok hm e
    have s2 := (L (o_pb O m) (by omega)).1
    rw [e] at hx hy ⊢
    rw [f1]
    rw [show ((4 : Nat) == 0) = false from rfl, Bool.false_and] at hx
    rw [show ((4 : Nat) == 4) = true from rfl, Bool.true_and] at hy
    subst hx hy
    simp +decide (disch := first | assumption | omega) only [hc_ck, hc_gi, hc_gl, hc_gp, ap_I, ap_L, kd_I, kd_L, kd_P, kd_rI, ar_I, ar_L, ar_P, al_I, al_L, al_P, hop_s, cond_true, cond_false, pc_I_I, pc_L_L, pc_P_P, pc_I_L, pc_I_P, pc_L_I, pc_L_P, pc_P_I, pc_P_L, pc_sS_I, pc_sS_L, pc_sS_P, I_rI, L_rI, P_rI, S_rI, cv_r, ci_r, cl_r, o1_b, o1_0, o1_1, lc_e, nI_1, nI_add, if_true, if_false, Nat.reduceEqDiff, Nat.left_eq_add, Nat.add_eq_left, false_and, and_false, true_and, and_true, and_self, eq_self, Rf_k, Rf_p38, Rf_r1530, s2, bo_0]
    rw [e_Rf_laysLost_146]
    simp +decide only [bo_0]
    cases w <;> cases yi r (o_pa O m) <;> cases lF O n r _ (o_pb O m) <;> simp +decide only [if_true, if_false] <;> rfl
theorem Rf_laysLost {h : am_H} {f : Nat} {O : o_T} (H : RfAt h f) (R : RwR h (f + 3) O) (n r : Int32) (w : Bool) (d : Nat) : ∃ h', f_Rf_laysLost (d + 1) h f n r (bo w) = some (.inr none, h') ∧ fJ (f + 1530) (f + 1532) h h' ∧ LoR h' f O n r w (o_P O) := by
  have ok := R.2.1
  have hP := ok.2.2.2.1
  have hN := ok.1
  have hR := ok.2.1
  have key : ∀ m, m ≤ o_P O → ∀ g : am_H, fJ (f + 1530) (f + 1532) h g → LoR g f O n r w m → ∃ h', f_Rf_laysLost_3 (d + 1) g f n r (bo w) (nI m) = some (.inr none, h') ∧ fJ (f + 1530) (f + 1532) h h' ∧ LoR h' f O n r w (o_P O) := by
    refine dn ?_ ?_
    · intro g q S
      have Hg := fJ_at q H
      have Rg := fJ_rw q (by omega) R
      refine ⟨g, ?_, q, S⟩
      rw [e_Rf_laysLost_3]
      simp (disch := first | assumption | omega) only [hc_ck, hc_gi, hc_gl, hc_gp, ap_I, ap_L, kd_I, kd_L, kd_P, kd_rI, ar_I, ar_L, ar_P, al_I, al_L, al_P, hop_s, cond_true, cond_false, pc_I_I, pc_L_L, pc_P_P, pc_I_L, pc_I_P, pc_L_I, pc_L_P, pc_P_I, pc_P_L, pc_sS_I, pc_sS_L, pc_sS_P, I_rI, L_rI, P_rI, S_rI, cv_r, ci_r, cl_r, o1_b, o1_0, o1_1, lc_e, nI_1, nI_add, if_true, if_false, Nat.reduceEqDiff, Nat.left_eq_add, Nat.add_eq_left, false_and, and_false, true_and, and_true, and_self, eq_self, Rf_k, Rf_p9, Rw_ar2, Rw_P, n_le, Nat.le_refl]
    · intro m hm ih g q S
      have Hg := fJ_at q H
      have Rg := fJ_rw q (by omega) R
      have hm3 : ¬ o_P O ≤ m := by omega
      obtain ⟨c3, c4, c0, c5⟩ := o_ch ok hm
      obtain ⟨u, eu, qu, Su⟩ := Rf_ll90 Hg ok hm S _ _ rfl rfl (d + 1)
      obtain ⟨z, ez, qz, Sz⟩ := ih u (fJ_t q qu) Su
      refine ⟨z, ?_, qz, Sz⟩
      rw [← ez, ← eu, e_Rf_laysLost_3]
      simp (disch := first | assumption | omega) only [hc_ck, hc_gi, hc_gl, hc_gp, ap_I, ap_L, kd_I, kd_L, kd_P, kd_rI, ar_I, ar_L, ar_P, al_I, al_L, al_P, hop_s, cond_true, cond_false, pc_I_I, pc_L_L, pc_P_P, pc_I_L, pc_I_P, pc_L_I, pc_L_P, pc_P_I, pc_P_L, pc_sS_I, pc_sS_L, pc_sS_P, I_rI, L_rI, P_rI, S_rI, cv_r, ci_r, cl_r, o1_b, o1_0, o1_1, lc_e, nI_1, nI_add, if_true, if_false, Nat.reduceEqDiff, Nat.left_eq_add, Nat.add_eq_left, false_and, and_false, true_and, and_true, and_self, eq_self, Rf_k, Rf_p9, Rw_ar2, Rw_P, n_le, hm3, Rf_kindOf Rg hm, Rf_oneOf Rg hm, Rf_otherOf Rg hm]
      rcases (show o_pk O m = 0 ∨ o_pk O m = 4 ∨ (o_pk O m = 1 ∨ o_pk O m = 2 ∨ o_pk O m = 3) by omega) with e | e | e
      · have := c0 e
        rw [e]
        simp +decide (disch := first | assumption | omega) only [hc_ck, hc_gi, hc_gl, hc_gp, ap_I, ap_L, kd_I, kd_L, kd_P, kd_rI, ar_I, ar_L, ar_P, al_I, al_L, al_P, hop_s, cond_true, cond_false, pc_I_I, pc_L_L, pc_P_P, pc_I_L, pc_I_P, pc_L_I, pc_L_P, pc_P_I, pc_P_L, pc_sS_I, pc_sS_L, pc_sS_P, I_rI, L_rI, P_rI, S_rI, cv_r, ci_r, cl_r, o1_b, o1_0, o1_1, lc_e, nI_1, nI_add, if_true, if_false, Nat.reduceEqDiff, Nat.left_eq_add, Nat.add_eq_left, false_and, and_false, true_and, and_true, and_self, eq_self, Rf_hasI, bo_0]
        cases yi n (o_pa O m) <;> simp +decide only [if_true, if_false] <;> rfl
      · have := c4 e
        rw [e]
        simp +decide (disch := first | assumption | omega) only [hc_ck, hc_gi, hc_gl, hc_gp, ap_I, ap_L, kd_I, kd_L, kd_P, kd_rI, ar_I, ar_L, ar_P, al_I, al_L, al_P, hop_s, cond_true, cond_false, pc_I_I, pc_L_L, pc_P_P, pc_I_L, pc_I_P, pc_L_I, pc_L_P, pc_P_I, pc_P_L, pc_sS_I, pc_sS_L, pc_sS_P, I_rI, L_rI, P_rI, S_rI, cv_r, ci_r, cl_r, o1_b, o1_0, o1_1, lc_e, nI_1, nI_add, if_true, if_false, Nat.reduceEqDiff, Nat.left_eq_add, Nat.add_eq_left, false_and, and_false, true_and, and_true, and_self, eq_self, Rf_hasI, bo_0]
        cases yi r (o_pa O m) <;> simp +decide only [if_true, if_false] <;> rfl
      · rcases e with e | e | e <;> rw [e] <;> simp +decide only [if_true, if_false] <;> rfl
  obtain ⟨z, ez, qz, Sz⟩ := key 0 (Nat.zero_le _) h (fJ_r _ _ _) (fun p hp => absurd hp (Nat.not_lt_zero p))
  refine ⟨z, ?_, qz, Sz⟩
  rw [e_Rf_laysLost]
  exact ez
theorem Rf_isIdle {h : am_H} {f k : Nat} {O : o_T} {n r : Int32} {w : Bool} (H : RfAt h f) (R : RwR h (f + 3) O) (L : LoR h f O n r w (o_P O)) (hk : k < o_A O) (d : Nat) : f_Rf_isIdle (d + 1) h f (nI k) r (bo w) = some (.inr (some (.int (bo (iF O n r w k)))), h) := by
  have ok := R.2.1
  have hP := ok.2.2.2.1
  have hR := ok.2.1
  obtain ⟨c1, c2, c3, c4⟩ := o_ax ok hk
  rw [e_Rf_isIdle]
  simp (disch := first | assumption | omega) only [hc_ck, hc_gi, hc_gl, hc_gp, ap_I, ap_L, kd_I, kd_L, kd_P, kd_rI, ar_I, ar_L, ar_P, al_I, al_L, al_P, hop_s, cond_true, cond_false, pc_I_I, pc_L_L, pc_P_P, pc_I_L, pc_I_P, pc_L_I, pc_L_P, pc_P_I, pc_P_L, pc_sS_I, pc_sS_L, pc_sS_P, I_rI, L_rI, P_rI, S_rI, cv_r, ci_r, cl_r, o1_b, o1_0, o1_1, lc_e, nI_1, nI_add, if_true, if_false, Nat.reduceEqDiff, Nat.left_eq_add, Nat.add_eq_left, false_and, and_false, true_and, and_true, and_self, eq_self, Rf_k, Rf_p9, Rf_axiom0, Rf_axiom1, Rf_axiom2, Rf_axiom3, Rf_p38, Rf_p39]
  unfold iF
  rcases (show o_ak O k = 0 ∨ o_ak O k = 1 ∨ o_ak O k = 2 ∨ o_ak O k = 3 by omega) with e | e | e | e
  · have := c1 (by omega)
    have s1 := L (o_a1 O k) (by omega)
    have s2 := L (o_a2 O k) (by omega)
    rw [e]
    simp +decide (disch := first | assumption | omega) only [hc_ck, hc_gi, hc_gl, hc_gp, ap_I, ap_L, kd_I, kd_L, kd_P, kd_rI, ar_I, ar_L, ar_P, al_I, al_L, al_P, hop_s, cond_true, cond_false, pc_I_I, pc_L_L, pc_P_P, pc_I_L, pc_I_P, pc_L_I, pc_L_P, pc_P_I, pc_P_L, pc_sS_I, pc_sS_L, pc_sS_P, I_rI, L_rI, P_rI, S_rI, cv_r, ci_r, cl_r, o1_b, o1_0, o1_1, lc_e, nI_1, nI_add, if_true, if_false, Nat.reduceEqDiff, Nat.left_eq_add, Nat.add_eq_left, false_and, and_false, true_and, and_true, and_self, eq_self, Rf_k, Rf_r1530, Rf_r1531, s1.1, s2.2, bo_0, e_Rf_isIdle_158]
    cases lF O n r w (o_a1 O k) <;> cases uF O n r w (o_a2 O k) <;> rfl
  · have := c1 (by omega)
    have s1 := L (o_a1 O k) (by omega)
    have s2 := L (o_a2 O k) (by omega)
    rw [e]
    simp +decide (disch := first | assumption | omega) only [hc_ck, hc_gi, hc_gl, hc_gp, ap_I, ap_L, kd_I, kd_L, kd_P, kd_rI, ar_I, ar_L, ar_P, al_I, al_L, al_P, hop_s, cond_true, cond_false, pc_I_I, pc_L_L, pc_P_P, pc_I_L, pc_I_P, pc_L_I, pc_L_P, pc_P_I, pc_P_L, pc_sS_I, pc_sS_L, pc_sS_P, I_rI, L_rI, P_rI, S_rI, cv_r, ci_r, cl_r, o1_b, o1_0, o1_1, lc_e, nI_1, nI_add, if_true, if_false, Nat.reduceEqDiff, Nat.left_eq_add, Nat.add_eq_left, false_and, and_false, true_and, and_true, and_self, eq_self, Rf_k, Rf_r1530, Rf_r1531, s1.1, s2.2, s1.2, s2.1, bo_0, e_Rf_isIdle_158, Rf_p38, Rf_p39]
    cases lF O n r w (o_a1 O k) <;> cases uF O n r w (o_a2 O k) <;> cases lF O n r w (o_a2 O k) <;> cases uF O n r w (o_a1 O k) <;> rfl
  · have := c2 e
    rw [e]
    simp +decide (disch := first | assumption | omega) only [hc_ck, hc_gi, hc_gl, hc_gp, ap_I, ap_L, kd_I, kd_L, kd_P, kd_rI, ar_I, ar_L, ar_P, al_I, al_L, al_P, hop_s, cond_true, cond_false, pc_I_I, pc_L_L, pc_P_P, pc_I_L, pc_I_P, pc_L_I, pc_L_P, pc_P_I, pc_P_L, pc_sS_I, pc_sS_L, pc_sS_P, I_rI, L_rI, P_rI, S_rI, cv_r, ci_r, cl_r, o1_b, o1_0, o1_1, lc_e, nI_1, nI_add, if_true, if_false, Nat.reduceEqDiff, Nat.left_eq_add, Nat.add_eq_left, false_and, and_false, true_and, and_true, and_self, eq_self, Rf_hasI, bo_0]
    cases w
    · simp +decide only [if_true, if_false]
      cases yi r (o_a1 O k) <;> rfl
    · simp +decide only [if_true, if_false]
      cases yi r (o_a2 O k) <;> rfl
  · have := c3 e
    rw [e]
    simp +decide (disch := first | assumption | omega) only [hc_ck, hc_gi, hc_gl, hc_gp, ap_I, ap_L, kd_I, kd_L, kd_P, kd_rI, ar_I, ar_L, ar_P, al_I, al_L, al_P, hop_s, cond_true, cond_false, pc_I_I, pc_L_L, pc_P_P, pc_I_L, pc_I_P, pc_L_I, pc_L_P, pc_P_I, pc_P_L, pc_sS_I, pc_sS_L, pc_sS_P, I_rI, L_rI, P_rI, S_rI, cv_r, ci_r, cl_r, o1_b, o1_0, o1_1, lc_e, nI_1, nI_add, if_true, if_false, Nat.reduceEqDiff, Nat.left_eq_add, Nat.add_eq_left, false_and, and_false, true_and, and_true, and_self, eq_self, Rf_hasI, bo_0]
    cases w
    · cases yi r (o_a1 O k) <;> cases yi r (o_a2 O k) <;> rfl
    · cases yi r (o_a3 O k) <;> rfl
theorem Rf_m40 {h : am_H} {f : Nat} {O : o_T} {n r : Int32} {w : Bool} (H : RfAt h f) (R : RwR h (f + 3) O) (L : LoR h f O n r w (o_P O)) (am so hd : Int64) (d : Nat) : ∀ m, m ≤ o_A O → f_Rf_moduleOf_40 (d + 2) h f am (bo w) (mW O am so w n r m) hd n r (nI m) = f_Rf_moduleOf_91 (d + 2) h f am (bo w) (mA O am w (so, n, r)) hd n r 0 := by
  have ok := R.2.1
  have hA := ok.2.2.2.2.1
  refine dn ?_ ?_
  · rw [e_Rf_moduleOf_40, mW_A]
    simp (disch := first | assumption | omega) only [hc_ck, hc_gi, hc_gl, hc_gp, ap_I, ap_L, kd_I, kd_L, kd_P, kd_rI, ar_I, ar_L, ar_P, al_I, al_L, al_P, hop_s, cond_true, cond_false, pc_I_I, pc_L_L, pc_P_P, pc_I_L, pc_I_P, pc_L_I, pc_L_P, pc_P_I, pc_P_L, pc_sS_I, pc_sS_L, pc_sS_P, I_rI, L_rI, P_rI, S_rI, cv_r, ci_r, cl_r, o1_b, o1_0, o1_1, lc_e, nI_1, nI_add, if_true, if_false, Nat.reduceEqDiff, Nat.left_eq_add, Nat.add_eq_left, false_and, and_false, true_and, and_true, and_self, eq_self, Rf_k, Rf_p9, Rw_ar3, Rw_A, n_le, Nat.le_refl]
  · intro m hm ih
    have hm3 : ¬ o_A O ≤ m := by omega
    rw [e_Rf_moduleOf_40]
    simp (disch := first | assumption | omega) only [hc_ck, hc_gi, hc_gl, hc_gp, ap_I, ap_L, kd_I, kd_L, kd_P, kd_rI, ar_I, ar_L, ar_P, al_I, al_L, al_P, hop_s, cond_true, cond_false, pc_I_I, pc_L_L, pc_P_P, pc_I_L, pc_I_P, pc_L_I, pc_L_P, pc_P_I, pc_P_L, pc_sS_I, pc_sS_L, pc_sS_P, I_rI, L_rI, P_rI, S_rI, cv_r, ci_r, cl_r, o1_b, o1_0, o1_1, lc_e, nI_1, nI_add, if_true, if_false, Nat.reduceEqDiff, Nat.left_eq_add, Nat.add_eq_left, false_and, and_false, true_and, and_true, and_self, eq_self, Rf_k, Rf_p9, Rw_ar3, Rw_A, n_le, hm3, Rf_has, Rf_isIdle H R L hm d, bo_0]
    cases x1 : xl am m
    · simp only [if_true]
      have no : ¬ mN O am so w n r m := fun e => absurd (x1.symm.trans e.1) (by decide)
      rw [mW_n no] at ih
      exact ih
    · simp only [Bool.true_eq_false, if_false]
      cases x3 : iF O n r w m
      · simp only [if_true]
        rw [← mW_y (by omega) x1 x3] at ih
        exact ih
      · simp only [Bool.true_eq_false, if_false]
        have no : ¬ mN O am so w n r m := fun e => absurd (x3.symm.trans e.2.2) (by decide)
        rw [mW_n no] at ih
        exact ih
theorem Rf_m91 {h : am_H} {f : Nat} {O : o_T} {n r : Int32} (H : RfAt h f) (R : RwR h (f + 3) O) (S : SgR h f O (o_P O)) (am so hd : Int64) (w : Int32) (d : Nat) : ∀ m, m ≤ o_A O → f_Rf_moduleOf_91 (d + 2) h f am w so hd (orW (axn O) so m n) (orW (axr O) so m r) (nI m) = f_Rf_moduleOf_15 (d + 2) h f am w so hd (orW (axn O) so (o_A O) n) (orW (axr O) so (o_A O) r) := by
  have ok := R.2.1
  have hA := ok.2.2.2.2.1
  refine dn ?_ ?_
  · rw [e_Rf_moduleOf_91]
    simp (disch := first | assumption | omega) only [hc_ck, hc_gi, hc_gl, hc_gp, ap_I, ap_L, kd_I, kd_L, kd_P, kd_rI, ar_I, ar_L, ar_P, al_I, al_L, al_P, hop_s, cond_true, cond_false, pc_I_I, pc_L_L, pc_P_P, pc_I_L, pc_I_P, pc_L_I, pc_L_P, pc_P_I, pc_P_L, pc_sS_I, pc_sS_L, pc_sS_P, I_rI, L_rI, P_rI, S_rI, cv_r, ci_r, cl_r, o1_b, o1_0, o1_1, lc_e, nI_1, nI_add, if_true, if_false, Nat.reduceEqDiff, Nat.left_eq_add, Nat.add_eq_left, false_and, and_false, true_and, and_true, and_self, eq_self, Rf_k, Rf_p9, Rw_ar3, Rw_A, n_le, Nat.le_refl]
  · intro m hm ih
    have hm3 : ¬ o_A O ≤ m := by omega
    rw [orW_s, orW_s] at ih
    rw [e_Rf_moduleOf_91]
    simp (disch := first | assumption | omega) only [hc_ck, hc_gi, hc_gl, hc_gp, ap_I, ap_L, kd_I, kd_L, kd_P, kd_rI, ar_I, ar_L, ar_P, al_I, al_L, al_P, hop_s, cond_true, cond_false, pc_I_I, pc_L_L, pc_P_P, pc_I_L, pc_I_P, pc_L_I, pc_L_P, pc_P_I, pc_P_L, pc_sS_I, pc_sS_L, pc_sS_P, I_rI, L_rI, P_rI, S_rI, cv_r, ci_r, cl_r, o1_b, o1_0, o1_1, lc_e, nI_1, nI_add, if_true, if_false, Nat.reduceEqDiff, Nat.left_eq_add, Nat.add_eq_left, false_and, and_false, true_and, and_true, and_self, eq_self, Rf_k, Rf_p9, Rw_ar3, Rw_A, n_le, hm3, Rf_has, bo_0, Rf_namesIn H R S hm d, Rf_rolesIn H R S hm d]
    cases x : xl so m
    · rw [x, if_neg (by decide), if_neg (by decide)] at ih
      rw [if_pos rfl]
      exact ih
    · rw [x, if_pos rfl, if_pos rfl] at ih
      rw [if_neg (by decide)]
      exact ih
theorem SgR_J {h h' : am_H} {f m : Nat} {O : o_T} (q : fJ (f + 1530) (f + 1532) h h') (S : SgR h f O m) : SgR h' f O m := fun p hp => by
  rw [q.2.2.2.2.2 (f + 1532) (by omega), q.2.2.2.2.2 (f + 1533) (by omega)]
  exact S p hp
theorem Rf_moduleOf {h : am_H} {f : Nat} {O : o_T} (H : RfAt h f) (R : RwR h (f + 3) O) (S : SgR h f O (o_P O)) (am : Int64) (n r : Int32) (w : Bool) (d : Nat) : ∃ h', f_Rf_moduleOf (d + 2) h f am n r (bo w) = some (.inr (some (.long (mO O am w n r))), h') ∧ fJ (f + 1530) (f + 1532) h h' := by
  have ok := R.2.1
  obtain ⟨j1, j2, j3⟩ := mJ_s ok am w n r
  have key : ∀ j, j ≤ mJ O am w n r → ∀ (g : am_H) (hd : Int64), ¬ (mQ O am w n r j).1 = hd → fJ (f + 1530) (f + 1532) h g → ∃ h', f_Rf_moduleOf_15 (d + 2) g f am (bo w) (mQ O am w n r j).1 hd (mQ O am w n r j).2.1 (mQ O am w n r j).2.2 = some (.inr (some (.long (mO O am w n r))), h') ∧ fJ (f + 1530) (f + 1532) h h' := by
    have stp : ∀ j (g : am_H) (hd : Int64), ¬ (mQ O am w n r j).1 = hd → fJ (f + 1530) (f + 1532) h g → ∃ g', fJ (f + 1530) (f + 1532) h g' ∧ f_Rf_moduleOf_15 (d + 2) g f am (bo w) (mQ O am w n r j).1 hd (mQ O am w n r j).2.1 (mQ O am w n r j).2.2 = f_Rf_moduleOf_15 (d + 2) g' f am (bo w) (mQ O am w n r (j + 1)).1 (mQ O am w n r j).1 (mQ O am w n r (j + 1)).2.1 (mQ O am w n r (j + 1)).2.2 := by
      intro j g hd nh q
      have Hg := fJ_at q H
      have Rg := fJ_rw q (by omega) R
      have Sg := SgR_J q S
      obtain ⟨v, ev, qv, Lv⟩ := Rf_laysLost Hg Rg (mQ O am w n r j).2.1 (mQ O am w n r j).2.2 w d
      have Hv := fJ_at qv Hg
      have Rv := fJ_rw qv (by omega) Rg
      have l1 := Rf_m40 Hv Rv Lv am (mQ O am w n r j).1 (mQ O am w n r j).1 d 0 (Nat.zero_le _)
      rw [mW_0] at l1
      have l2 := Rf_m91 (n := (mQ O am w n r j).2.1) (r := (mQ O am w n r j).2.2) Hv Rv (SgR_J qv Sg) am (mA O am w (mQ O am w n r j)) (mQ O am w n r j).1 (bo w) d 0 (Nat.zero_le _)
      refine ⟨v, fJ_t q qv, ?_⟩
      rw [e_Rf_moduleOf_15]
      simp (disch := first | assumption | omega) only [hc_ck, hc_gi, hc_gl, hc_gp, ap_I, ap_L, kd_I, kd_L, kd_P, kd_rI, ar_I, ar_L, ar_P, al_I, al_L, al_P, hop_s, cond_true, cond_false, pc_I_I, pc_L_L, pc_P_P, pc_I_L, pc_I_P, pc_L_I, pc_L_P, pc_P_I, pc_P_L, pc_sS_I, pc_sS_L, pc_sS_P, I_rI, L_rI, P_rI, S_rI, cv_r, ci_r, cl_r, o1_b, o1_0, o1_1, lc_e, nI_1, nI_add, if_true, if_false, Nat.reduceEqDiff, Nat.left_eq_add, Nat.add_eq_left, false_and, and_false, true_and, and_true, and_self, eq_self, nh, Rf_k, ev]
      exact l1.trans l2
    refine dn ?_ ?_
    · intro g hd nh q
      obtain ⟨v, qv, ev⟩ := stp _ g hd nh q
      refine ⟨v, ?_, qv⟩
      rw [ev, e_Rf_moduleOf_15]
      simp only [lc_e]
      rw [show (mQ O am w n r (mJ O am w n r + 1)).1 = (mQ O am w n r (mJ O am w n r)).1 from j2, if_pos rfl]
      rfl
    · intro j hj ih g hd nh q
      obtain ⟨v, qv, ev⟩ := stp j g hd nh q
      rw [ev]
      exact ih v _ (fun e => j3 j hj e) qv
  obtain ⟨u, eu, qu⟩ := key 0 (Nat.zero_le _) h (-1) (show ¬ (0 : Int64) = -1 by decide) (fJ_r _ _ _)
  refine ⟨u, ?_, qu⟩
  rw [e_Rf_moduleOf]
  exact eu
theorem Rf_own {h : am_H} {f k : Nat} {O : o_T} {B : Nat → Prop} (H : RfAt h f) (R : RwR h (f + 3) O) (hB : am_L h f 11 = wL B) (S : SgR h f O (o_P O)) (hk : k < o_A O) (d : Nat) : ∃ h', f_Rf_ownModule (d + 3) h f (nI k) = some (.inr (some (.long (q_own O B k))), h') ∧ fJ (f + 1530) (f + 1532) h h' := by
  obtain ⟨u, eu, qu⟩ := Rf_moduleOf H R S (wL B) (axn O k) (axr O k) false d
  rw [bo_f] at eu
  refine ⟨u, ?_, qu⟩
  rw [e_Rf_ownModule]
  simp (disch := first | assumption | omega) only [hc_ck, hc_gi, hc_gl, hc_gp, ap_I, ap_L, kd_I, kd_L, kd_P, kd_rI, ar_I, ar_L, ar_P, al_I, al_L, al_P, hop_s, cond_true, cond_false, pc_I_I, pc_L_L, pc_P_P, pc_I_L, pc_I_P, pc_L_I, pc_L_P, pc_P_I, pc_P_L, pc_sS_I, pc_sS_L, pc_sS_P, I_rI, L_rI, P_rI, S_rI, cv_r, ci_r, cl_r, o1_b, o1_0, o1_1, lc_e, nI_1, nI_add, if_true, if_false, Nat.reduceEqDiff, Nat.left_eq_add, Nat.add_eq_left, false_and, and_false, true_and, and_true, and_self, eq_self, Rf_k, hB, Rf_namesIn H R S hk (d + 1), Rf_rolesIn H R S hk (d + 1), eu]
  rfl
theorem RB_J {h h' : am_H} {f : Nat} {O : o_T} {B : Nat → Prop} (C : RB h f O B) (q : fJ (f + 1530) (f + 1534) h h') : RB h' f O B := by
  obtain ⟨c1, c2, c3, c4, c5, c6⟩ := C
  have ef : am_I h' f = am_I h f := q.2.2.2.2.2 f (by omega)
  have kp : keepL f h h' := ⟨by rw [ef], by rw [ef], fun b _ p => ⟨q.2.2.2.2.2 b (by omega), by rw [q.1]⟩⟩
  refine ⟨fJ_at q c1, fJ_rw q (by omega) c2, by rw [q.1]; exact c3, c4, ?_, ?_⟩
  · rw [ef]
    exact c5.imp id (fun p => ⟨p.1, RfL_k c2.2.1.2.2.2.1 kp p.2⟩)
  · rw [ef]
    exact c6.imp id (fun p => ⟨p.1, RfN_i (by rw [ef]) (fun b _ s => q.2.2.2.2.2 b (by omega)) p.2⟩)
theorem fJ_W {h h' : am_H} {f : Nat} (q : fJ (f + 1530) (f + 1534) h h') : fW f h h' := ⟨q.2.1, q.2.2.1, q.2.2.2.1, q.2.2.2.2.1, fun b _ r => ⟨q.2.2.2.2.2 b (by omega), by rw [q.1]⟩, fun j _ _ _ _ _ _ => by rw [q.2.2.2.2.2 f (by omega)], fun j _ => by rw [q.1]⟩
theorem fJ_z {h h' : am_H} {f : Nat} (q : fJ (f + 1530) (f + 1534) h h') (z : am_I h f 0 = 0) : am_I h' f 0 = 0 := by
  rw [q.2.2.2.2.2 f (by omega)]
  exact z
theorem Rf_q_depends {h : am_H} {f : Nat} {O : o_T} {B : Nat → Prop} (C : RB h f O B) (i : Int32) (d : Nat) : RR (f_Rf_depends (d + 4) h f i) h f O B (fun _ => 1) (.long 0) (g1 (o_A O) i 0 fun k => .inr (.long (q_dp O B k))) := by
  have H := C.1
  have hA := C.2.1.2.1.2.2.2.2.1
  obtain ⟨g, e0, Cg, Wg, z0⟩ := RB_b C
  have Hg := Cg.1
  have Rg := Cg.2.1
  have b1 := Rf_bad1 Hg z0 (c := 1) (by decide) (E := 0) (by omega) (d + 3)
  rw [← n_0] at b1
  rw [e_Rf_depends, e0]
  simp (disch := first | assumption | omega) only [hc_ck, hc_gi, hc_gl, hc_gp, ap_I, ap_L, kd_I, kd_L, kd_P, kd_rI, ar_I, ar_L, ar_P, al_I, al_L, al_P, hop_s, cond_true, cond_false, pc_I_I, pc_L_L, pc_P_P, pc_I_L, pc_I_P, pc_L_I, pc_L_P, pc_P_I, pc_P_L, pc_sS_I, pc_sS_L, pc_sS_P, I_rI, L_rI, P_rI, S_rI, cv_r, ci_r, cl_r, o1_b, o1_0, o1_1, lc_e, nI_1, nI_add, if_true, if_false, Nat.reduceEqDiff, Nat.left_eq_add, Nat.add_eq_left, false_and, and_false, true_and, and_true, and_self, eq_self, Rf_k, Rf_p9, Rw_ar3, Rw_A, vi_in]
  by_cases v1 : vi (o_A O) i
  · obtain ⟨k, hk, rfl⟩ := v1
    rw [g1_y (by omega) hk]
    simp (disch := first | assumption | omega) only [hc_ck, hc_gi, hc_gl, hc_gp, ap_I, ap_L, kd_I, kd_L, kd_P, kd_rI, ar_I, ar_L, ar_P, al_I, al_L, al_P, hop_s, cond_true, cond_false, pc_I_I, pc_L_L, pc_P_P, pc_I_L, pc_I_P, pc_L_I, pc_L_P, pc_P_I, pc_P_L, pc_sS_I, pc_sS_L, pc_sS_P, I_rI, L_rI, P_rI, S_rI, cv_r, ci_r, cl_r, o1_b, o1_0, o1_1, lc_e, nI_1, nI_add, if_true, if_false, Nat.reduceEqDiff, Nat.left_eq_add, Nat.add_eq_left, false_and, and_false, true_and, and_true, and_self, eq_self, Rf_k, bo_0, pd_t (show vi (o_A O) (nI k) from ⟨k, hk, rfl⟩), Bool.true_eq_false, Rf_bad0 Hg z0, Cg.2.2.1, Rf_has, xl_pd]
    unfold q_dp
    by_cases b : B k
    · obtain ⟨u, eu, qu, Su⟩ := Rf_laysSigns Hg Rg (d + 2)
      have Cu := RB_J Cg qu
      have Hu := Cu.1
      obtain ⟨v, ev, qv⟩ := Rf_own Hu Cu.2.1 Cu.2.2.1 Su hk d
      have qv' := fJ_m qv (lo' := f + 1530) (hi' := f + 1534) (by omega) (by omega)
      have qq := fJ_t qu qv'
      rw [pd_t b, if_neg (by decide), if_pos b]
      refine ⟨v, fW_t Wg (fJ_W qq), RB_J Cg qq, fJ_z qq z0, ?_⟩
      simp (disch := first | assumption | omega) only [hc_ck, hc_gi, hc_gl, hc_gp, ap_I, ap_L, kd_I, kd_L, kd_P, kd_rI, ar_I, ar_L, ar_P, al_I, al_L, al_P, hop_s, cond_true, cond_false, pc_I_I, pc_L_L, pc_P_P, pc_I_L, pc_I_P, pc_L_I, pc_L_P, pc_P_I, pc_P_L, pc_sS_I, pc_sS_L, pc_sS_P, I_rI, L_rI, P_rI, S_rI, cv_r, ci_r, cl_r, o1_b, o1_0, o1_1, lc_e, nI_1, nI_add, if_true, if_false, Nat.reduceEqDiff, Nat.left_eq_add, Nat.add_eq_left, false_and, and_false, true_and, and_true, and_self, eq_self, Rf_k, eu, ev]
    · rw [pd_f b, if_pos rfl, if_neg b]
      exact ⟨g, Wg, Cg, z0, rfl⟩
  · rw [g1_n v1]
    refine ⟨g, Wg, Cg, z0, ?_⟩
    simp (disch := first | assumption | omega) only [hc_ck, hc_gi, hc_gl, hc_gp, ap_I, ap_L, kd_I, kd_L, kd_P, kd_rI, ar_I, ar_L, ar_P, al_I, al_L, al_P, hop_s, cond_true, cond_false, pc_I_I, pc_L_L, pc_P_P, pc_I_L, pc_I_P, pc_L_I, pc_L_P, pc_P_I, pc_P_L, pc_sS_I, pc_sS_L, pc_sS_P, I_rI, L_rI, P_rI, S_rI, cv_r, ci_r, cl_r, o1_b, o1_0, o1_1, lc_e, nI_1, nI_add, if_true, if_false, Nat.reduceEqDiff, Nat.left_eq_add, Nat.add_eq_left, false_and, and_false, true_and, and_true, and_self, eq_self, Rf_k, bo_0, pd_f v1, b1, show ¬ (1 : Int32) = 0 by decide]
theorem Rf_q_atom {h : am_H} {f : Nat} {O : o_T} {B : Nat → Prop} (C : RB h f O B) (i : Int32) (d : Nat) : RR (f_Rf_atom_1 (d + 4) h f i) h f O B (fun _ => 1) (.int 0) (g1 (o_A O) i 0 fun k => .inr (.int (q_at O B k))) := by
  have H := C.1
  have hA := C.2.1.2.1.2.2.2.2.1
  obtain ⟨g, e0, Cg, Wg, z0⟩ := RB_b C
  have Hg := Cg.1
  have Rg := Cg.2.1
  have b1 := Rf_bad1 Hg z0 (c := 1) (by decide) (E := 0) (by omega) (d + 3)
  rw [← n_0] at b1
  rw [e_Rf_atom_1, e0]
  simp (disch := first | assumption | omega) only [hc_ck, hc_gi, hc_gl, hc_gp, ap_I, ap_L, kd_I, kd_L, kd_P, kd_rI, ar_I, ar_L, ar_P, al_I, al_L, al_P, hop_s, cond_true, cond_false, pc_I_I, pc_L_L, pc_P_P, pc_I_L, pc_I_P, pc_L_I, pc_L_P, pc_P_I, pc_P_L, pc_sS_I, pc_sS_L, pc_sS_P, I_rI, L_rI, P_rI, S_rI, cv_r, ci_r, cl_r, o1_b, o1_0, o1_1, lc_e, nI_1, nI_add, if_true, if_false, Nat.reduceEqDiff, Nat.left_eq_add, Nat.add_eq_left, false_and, and_false, true_and, and_true, and_self, eq_self, Rf_k, Rf_p9, Rw_ar3, Rw_A, vi_in]
  by_cases v1 : vi (o_A O) i
  · obtain ⟨k, hk, rfl⟩ := v1
    rw [g1_y (by omega) hk]
    simp (disch := first | assumption | omega) only [hc_ck, hc_gi, hc_gl, hc_gp, ap_I, ap_L, kd_I, kd_L, kd_P, kd_rI, ar_I, ar_L, ar_P, al_I, al_L, al_P, hop_s, cond_true, cond_false, pc_I_I, pc_L_L, pc_P_P, pc_I_L, pc_I_P, pc_L_I, pc_L_P, pc_P_I, pc_P_L, pc_sS_I, pc_sS_L, pc_sS_P, I_rI, L_rI, P_rI, S_rI, cv_r, ci_r, cl_r, o1_b, o1_0, o1_1, lc_e, nI_1, nI_add, if_true, if_false, Nat.reduceEqDiff, Nat.left_eq_add, Nat.add_eq_left, false_and, and_false, true_and, and_true, and_self, eq_self, Rf_k, bo_0, pd_t (show vi (o_A O) (nI k) from ⟨k, hk, rfl⟩), Bool.true_eq_false, Rf_bad0 Hg z0, Cg.2.2.1, Rf_has, xl_pd]
    unfold q_at
    by_cases b : B k
    · obtain ⟨u, eu, qu, Su⟩ := Rf_laysSigns Hg Rg (d + 2)
      have Cu := RB_J Cg qu
      have Hu := Cu.1
      obtain ⟨v, ev, qv⟩ := Rf_own Hu Cu.2.1 Cu.2.2.1 Su hk d
      have key : ∀ m, m ≤ k → ∀ y : am_H, fJ (f + 1530) (f + 1532) u y → (∀ j, j < m → ¬ (B j ∧ q_own O B j = q_own O B k)) → ∃ h', f_Rf_atom_1_63 (d + 4) y f (q_own O B k) (nI m) = some (.inr (some (.int (nI (lm (fun j => B j ∧ q_own O B j = q_own O B k))))), h') ∧ fJ (f + 1530) (f + 1532) u h' := by
        have one : ∀ m, m ≤ k → ∀ y : am_H, fJ (f + 1530) (f + 1532) u y → ∃ z, fJ (f + 1530) (f + 1532) u z ∧ f_Rf_atom_1_63 (d + 4) y f (q_own O B k) (nI m) = if pd (B m) = false then f_Rf_atom_1_63 (d + 4) y f (q_own O B k) (nI (m + 1)) else if q_own O B m = q_own O B k then some (.inr (some (.int (nI m))), z) else f_Rf_atom_1_63 (d + 4) z f (q_own O B k) (nI (m + 1)) := by
          intro m hm y q
          have Cy := RB_J Cu (fJ_m q (lo' := f + 1530) (hi' := f + 1534) (by omega) (by omega))
          have Hy := Cy.1
          obtain ⟨z, ez, qz⟩ := Rf_own Hy Cy.2.1 Cy.2.2.1 (SgR_J q Su) (show m < o_A O by omega) d
          refine ⟨z, fJ_t q qz, ?_⟩
          rw [e_Rf_atom_1_63]
          simp (disch := first | assumption | omega) only [hc_ck, hc_gi, hc_gl, hc_gp, ap_I, ap_L, kd_I, kd_L, kd_P, kd_rI, ar_I, ar_L, ar_P, al_I, al_L, al_P, hop_s, cond_true, cond_false, pc_I_I, pc_L_L, pc_P_P, pc_I_L, pc_I_P, pc_L_I, pc_L_P, pc_P_I, pc_P_L, pc_sS_I, pc_sS_L, pc_sS_P, I_rI, L_rI, P_rI, S_rI, cv_r, ci_r, cl_r, o1_b, o1_0, o1_1, lc_e, nI_1, nI_add, if_true, if_false, Nat.reduceEqDiff, Nat.left_eq_add, Nat.add_eq_left, false_and, and_false, true_and, and_true, and_self, eq_self, Rf_k, Cy.2.2.1, Rf_has, xl_pd, bo_0, ez]
        refine dn ?_ ?_
        · intro y q hj
          obtain ⟨z, qz, ez⟩ := one k (Nat.le_refl _) y q
          refine ⟨z, ?_, qz⟩
          rw [ez, pd_t b, if_neg (by decide), if_pos rfl, lm_e ⟨b, rfl⟩ hj]
        · intro m hm ih y q hj
          obtain ⟨z, qz, ez⟩ := one m (by omega) y q
          rw [ez]
          by_cases bm : B m
          · rw [pd_t bm, if_neg (by decide)]
            by_cases e : q_own O B m = q_own O B k
            · refine ⟨z, ?_, qz⟩
              rw [if_pos e, lm_e ⟨bm, e⟩ hj]
            · rw [if_neg e]
              exact ih z qz (no_s hj (fun c => e c.2))
          · rw [pd_f bm, if_pos rfl]
            exact ih y q (no_s hj (fun c => bm c.1))
      obtain ⟨z, ez, qz⟩ := key 0 (Nat.zero_le _) v qv (fun j e => absurd e (Nat.not_lt_zero j))
      have qz' := fJ_m qz (lo' := f + 1530) (hi' := f + 1534) (by omega) (by omega)
      have qq := fJ_t qu qz'
      rw [pd_t b, if_neg (by decide), if_pos b]
      refine ⟨z, fW_t Wg (fJ_W qq), RB_J Cg qq, fJ_z qq z0, ?_⟩
      simp (disch := first | assumption | omega) only [hc_ck, hc_gi, hc_gl, hc_gp, ap_I, ap_L, kd_I, kd_L, kd_P, kd_rI, ar_I, ar_L, ar_P, al_I, al_L, al_P, hop_s, cond_true, cond_false, pc_I_I, pc_L_L, pc_P_P, pc_I_L, pc_I_P, pc_L_I, pc_L_P, pc_P_I, pc_P_L, pc_sS_I, pc_sS_L, pc_sS_P, I_rI, L_rI, P_rI, S_rI, cv_r, ci_r, cl_r, o1_b, o1_0, o1_1, lc_e, nI_1, nI_add, if_true, if_false, Nat.reduceEqDiff, Nat.left_eq_add, Nat.add_eq_left, false_and, and_false, true_and, and_true, and_self, eq_self, Rf_k, eu, ev]
      exact ez
    · rw [pd_f b, if_pos rfl, if_neg b]
      exact ⟨g, Wg, Cg, z0, rfl⟩
  · rw [g1_n v1]
    refine ⟨g, Wg, Cg, z0, ?_⟩
    simp (disch := first | assumption | omega) only [hc_ck, hc_gi, hc_gl, hc_gp, ap_I, ap_L, kd_I, kd_L, kd_P, kd_rI, ar_I, ar_L, ar_P, al_I, al_L, al_P, hop_s, cond_true, cond_false, pc_I_I, pc_L_L, pc_P_P, pc_I_L, pc_I_P, pc_L_I, pc_L_P, pc_P_I, pc_P_L, pc_sS_I, pc_sS_L, pc_sS_P, I_rI, L_rI, P_rI, S_rI, cv_r, ci_r, cl_r, o1_b, o1_0, o1_1, lc_e, nI_1, nI_add, if_true, if_false, Nat.reduceEqDiff, Nat.left_eq_add, Nat.add_eq_left, false_and, and_false, true_and, and_true, and_self, eq_self, Rf_k, bo_0, pd_f v1, b1, show ¬ (1 : Int32) = 0 by decide]
theorem Rf_m84 {h : am_H} {f : Nat} {O : o_T} {B : Nat → Prop} (H : RfAt h f) (R : RwR h (f + 3) O) (S : SgR h f O (o_P O)) (hb : ∀ k, B k → k < o_A O) (n r : Int32) (d : Nat) : ∃ h', f_Rf_module_84 (d + 3) h f n r (wL B) (-1) = some (.inr (some (.long (tQ O (wL B) n r (tJ O (wL B) n r)))), h') ∧ fJ (f + 1530) (f + 1532) h h' := by
  have ok := R.2.1
  have hA := ok.2.2.2.2.1
  obtain ⟨j1, j2, j3⟩ := tJ_s ok (on := wL B) (fun k q => hb k (wL_x.mp q).2) n r
  have key : ∀ j, j ≤ tJ O (wL B) n r → ∀ (g : am_H) (hd : Int64), ¬ tQ O (wL B) n r j = hd → fJ (f + 1530) (f + 1532) h g → ∃ h', f_Rf_module_84 (d + 3) g f n r (tQ O (wL B) n r j) hd = some (.inr (some (.long (tQ O (wL B) n r (tJ O (wL B) n r)))), h') ∧ fJ (f + 1530) (f + 1532) h h' := by
    have stp : ∀ j (g : am_H) (hd : Int64), ¬ tQ O (wL B) n r j = hd → fJ (f + 1530) (f + 1532) h g → ∃ g', fJ (f + 1530) (f + 1532) h g' ∧ f_Rf_module_84 (d + 3) g f n r (tQ O (wL B) n r j) hd = f_Rf_module_84 (d + 3) g' f n r (tQ O (wL B) n r (j + 1)) (tQ O (wL B) n r j) := by
      intro j g hd nh q
      have Hg := fJ_at q H
      have Rg := fJ_rw q (by omega) R
      obtain ⟨v, ev, qv⟩ := Rf_moduleOf Hg Rg (SgR_J q S) (tQ O (wL B) n r j) n r false d
      have Hv := fJ_at qv Hg
      obtain ⟨u, eu, qu⟩ := Rf_moduleOf Hv (fJ_rw qv (by omega) Rg) (SgR_J qv (SgR_J q S)) (mO O (tQ O (wL B) n r j) false n r) n r true d
      rw [bo_f] at ev
      rw [bo_t] at eu
      refine ⟨u, fJ_t q (fJ_t qv qu), ?_⟩
      rw [e_Rf_module_84]
      simp (disch := first | assumption | omega) only [hc_ck, hc_gi, hc_gl, hc_gp, ap_I, ap_L, kd_I, kd_L, kd_P, kd_rI, ar_I, ar_L, ar_P, al_I, al_L, al_P, hop_s, cond_true, cond_false, pc_I_I, pc_L_L, pc_P_P, pc_I_L, pc_I_P, pc_L_I, pc_L_P, pc_P_I, pc_P_L, pc_sS_I, pc_sS_L, pc_sS_P, I_rI, L_rI, P_rI, S_rI, cv_r, ci_r, cl_r, o1_b, o1_0, o1_1, lc_e, nI_1, nI_add, if_true, if_false, Nat.reduceEqDiff, Nat.left_eq_add, Nat.add_eq_left, false_and, and_false, true_and, and_true, and_self, eq_self, nh, Rf_k, ev, eu]
      rfl
    refine dn ?_ ?_
    · intro g hd nh q
      obtain ⟨v, qv, ev⟩ := stp _ g hd nh q
      refine ⟨v, ?_, qv⟩
      rw [ev, e_Rf_module_84]
      simp only [lc_e]
      rw [j2, if_pos rfl]
    · intro j hj ih g hd nh q
      obtain ⟨v, qv, ev⟩ := stp j g hd nh q
      rw [ev]
      exact ih v _ (j3 j hj) qv
  refine key 0 (Nat.zero_le _) h (-1) (fun e => ?_) (fJ_r _ _ _)
  have : xl (wL B) 63 = true := by
    rw [show wL B = -1 from e]
    exact xl_m1 63 (by omega)
  have := hb 63 (wL_x.mp this).2
  omega
theorem Rf_q_module {h : am_H} {f : Nat} {O : o_T} {B : Nat → Prop} (C : RB h f O B) (i j l : Int32) (d : Nat) : RR (f_Rf_module (d + 4) h f i j l) h f O B (fun _ => 1) (.long 0) (g1 3 l 1 fun w => q_mz O B i j w) := by
  have H := C.1
  have hN := C.2.1.2.1.1
  have hR := C.2.1.2.1.2.1
  obtain ⟨g, e0, Cg, Wg, z0⟩ := RB_b C
  have Hg := Cg.1
  have Rg := Cg.2.1
  have b1 := Rf_bad1 Hg z0 (c := 1) (by decide) (E := 1) (by omega) (d + 3)
  rw [← n_1] at b1
  have ii := vi_inc (n := 2) (by omega) g l (d + 3)
  rw [← n_2] at ii
  have no : f_Rf_module_42 (d + 4) g f i j l f 1 = some (.inr (some (.long 0)), rr f 1 1 g) := by
    rw [e_Rf_module_42]
    simp (disch := first | assumption | omega) only [hc_ck, hc_gi, hc_gl, hc_gp, ap_I, ap_L, kd_I, kd_L, kd_P, kd_rI, ar_I, ar_L, ar_P, al_I, al_L, al_P, hop_s, cond_true, cond_false, pc_I_I, pc_L_L, pc_P_P, pc_I_L, pc_I_P, pc_L_I, pc_L_P, pc_P_I, pc_P_L, pc_sS_I, pc_sS_L, pc_sS_P, I_rI, L_rI, P_rI, S_rI, cv_r, ci_r, cl_r, o1_b, o1_0, o1_1, lc_e, nI_1, nI_add, if_true, if_false, Nat.reduceEqDiff, Nat.left_eq_add, Nat.add_eq_left, false_and, and_false, true_and, and_true, and_self, eq_self, Rf_k, b1, show ¬ (1 : Int32) = 0 by decide]
  rw [e_Rf_module, e0]
  simp (disch := first | assumption | omega) only [hc_ck, hc_gi, hc_gl, hc_gp, ap_I, ap_L, kd_I, kd_L, kd_P, kd_rI, ar_I, ar_L, ar_P, al_I, al_L, al_P, hop_s, cond_true, cond_false, pc_I_I, pc_L_L, pc_P_P, pc_I_L, pc_I_P, pc_L_I, pc_L_P, pc_P_I, pc_P_L, pc_sS_I, pc_sS_L, pc_sS_P, I_rI, L_rI, P_rI, S_rI, cv_r, ci_r, cl_r, o1_b, o1_0, o1_1, lc_e, nI_1, nI_add, if_true, if_false, Nat.reduceEqDiff, Nat.left_eq_add, Nat.add_eq_left, false_and, and_false, true_and, and_true, and_self, eq_self, Rf_k, ii, Nat.reduceAdd, no, Rf_p9, Rw_ar0, Rw_ar1, Rw_N, Rw_R]
  by_cases v1 : vi 3 l
  · obtain ⟨w, hw, rfl⟩ := v1
    rw [g1_y (by omega) hw, pd_t (show vi 3 (nI w) from ⟨w, hw, rfl⟩)]
    simp only [bo_0, Bool.true_eq_false, if_false]
    unfold q_mz
    by_cases c1 : bin i (o_N O)
    · rw [if_pos ((is0 i (by omega)).mpr c1)]
      by_cases c2 : bin j (o_R O)
      · rw [if_pos ((is0 j (by omega)).mpr c2), if_pos ⟨c1, c2⟩]
        obtain ⟨u, eu, qu, Su⟩ := Rf_laysSigns Hg Rg (d + 2)
        have Cu := RB_J Cg qu
        have Hu := Cu.1
        have Ru := Cu.2.1
        have fin : ∀ (v : am_H) (x : Int64), f_Rf_module_42 (d + 4) g f i j (nI w) f 0 = some (.inr (some (.long x)), v) → x = q_md O B i j w → fJ (f + 1530) (f + 1532) u v → RR (f_Rf_module_42 (d + 4) g f i j (nI w) f 0) h f O B (fun _ => 1) (.long 0) (.inr (.long (q_md O B i j w))) := by
          intro v x e1 e2 qv
          have qq := fJ_t qu (fJ_m qv (lo' := f + 1530) (hi' := f + 1534) (by omega) (by omega))
          exact ⟨v, fW_t Wg (fJ_W qq), RB_J Cg qq, fJ_z qq z0, e2 ▸ e1⟩
        rcases iv3 hw with rfl | rfl | rfl
        · obtain ⟨v, ev, qv⟩ := Rf_moduleOf Hu Ru Su (wL B) i j false (d + 1)
          refine fin v _ ?_ rfl qv
          rw [e_Rf_module_42]
          simp +decide (disch := first | assumption | omega) only [hc_ck, hc_gi, hc_gl, hc_gp, ap_I, ap_L, kd_I, kd_L, kd_P, kd_rI, ar_I, ar_L, ar_P, al_I, al_L, al_P, hop_s, cond_true, cond_false, pc_I_I, pc_L_L, pc_P_P, pc_I_L, pc_I_P, pc_L_I, pc_L_P, pc_P_I, pc_P_L, pc_sS_I, pc_sS_L, pc_sS_P, I_rI, L_rI, P_rI, S_rI, cv_r, ci_r, cl_r, o1_b, o1_0, o1_1, lc_e, nI_1, nI_add, if_true, if_false, Nat.reduceEqDiff, Nat.left_eq_add, Nat.add_eq_left, false_and, and_false, true_and, and_true, and_self, eq_self, Rf_k, Rf_bad0 Hg z0, eu, Cu.2.2.1]
          rw [show f_Rf_moduleOf (d + 3) u f (wL B) i j (nI 0) = _ from ev]
          simp only [cl_r]
          rfl
        · obtain ⟨v, ev, qv⟩ := Rf_moduleOf Hu Ru Su (wL B) i j true (d + 1)
          refine fin v _ ?_ rfl qv
          rw [e_Rf_module_42]
          simp +decide (disch := first | assumption | omega) only [hc_ck, hc_gi, hc_gl, hc_gp, ap_I, ap_L, kd_I, kd_L, kd_P, kd_rI, ar_I, ar_L, ar_P, al_I, al_L, al_P, hop_s, cond_true, cond_false, pc_I_I, pc_L_L, pc_P_P, pc_I_L, pc_I_P, pc_L_I, pc_L_P, pc_P_I, pc_P_L, pc_sS_I, pc_sS_L, pc_sS_P, I_rI, L_rI, P_rI, S_rI, cv_r, ci_r, cl_r, o1_b, o1_0, o1_1, lc_e, nI_1, nI_add, if_true, if_false, Nat.reduceEqDiff, Nat.left_eq_add, Nat.add_eq_left, false_and, and_false, true_and, and_true, and_self, eq_self, Rf_k, Rf_bad0 Hg z0, eu, Cu.2.2.1]
          rw [show f_Rf_moduleOf (d + 3) u f (wL B) i j (nI 1) = _ from ev]
          simp only [cl_r]
          rfl
        · obtain ⟨v, ev, qv⟩ := Rf_m84 Hu Ru Su Cu.2.2.2.1 i j (d + 1)
          refine fin v _ ?_ rfl qv
          rw [e_Rf_module_42]
          simp +decide (disch := first | assumption | omega) only [hc_ck, hc_gi, hc_gl, hc_gp, ap_I, ap_L, kd_I, kd_L, kd_P, kd_rI, ar_I, ar_L, ar_P, al_I, al_L, al_P, hop_s, cond_true, cond_false, pc_I_I, pc_L_L, pc_P_P, pc_I_L, pc_I_P, pc_L_I, pc_L_P, pc_P_I, pc_P_L, pc_sS_I, pc_sS_L, pc_sS_P, I_rI, L_rI, P_rI, S_rI, cv_r, ci_r, cl_r, o1_b, o1_0, o1_1, lc_e, nI_1, nI_add, if_true, if_false, Nat.reduceEqDiff, Nat.left_eq_add, Nat.add_eq_left, false_and, and_false, true_and, and_true, and_self, eq_self, Rf_k, Rf_bad0 Hg z0, eu, Cu.2.2.1]
          exact ev
      · rw [if_neg (fun e => c2 ((is0 j (by omega)).mp e)), if_neg (fun e => c2 e.2)]
        exact ⟨g, Wg, Cg, z0, rfl⟩
    · rw [if_neg (fun e => c1 ((is0 i (by omega)).mp e)), if_neg (fun e => c1 e.1)]
      exact ⟨g, Wg, Cg, z0, rfl⟩
  · rw [g1_n v1, pd_f v1]
    exact ⟨g, Wg, Cg, z0, rfl⟩
