/-! ===== modules: the reference lays signs, lost and full ===== -/
theorem nar_b (b : Bool) : vp_nar .boolean (bo b) = bo b := by cases b <;> decide
theorem nar_0 : vp_nar .boolean 0 = bo false := by decide
theorem nar_1 : vp_nar .boolean 1 = bo true := by decide
def SgR (h : am_H) (f : Nat) (O : o_T) (m : Nat) : Prop := ∀ p, p < m → am_I h (f + 1532) p = sgnm O p ∧ am_I h (f + 1533) p = sgrl O p
theorem fJ_at {f lo hi : Nat} {h h' : am_H} (q : fJ lo hi h h') (H : RfAt h f) : RfAt h' f := RfAt_of H q.2.2.1 (fun b _ _ => by rw [q.2.1])
theorem fJ_rw {r lo hi : Nat} {O : o_T} {h h' : am_H} (q : fJ lo hi h h') (hr : r < lo ∨ hi ≤ r) (H : RwR h r O) : RwR h' r O := Rw_of H q.2.2.1 (q.2.2.2.2.2 r hr)
theorem Rf_ls93 {h : am_H} {f m : Nat} {O : o_T} (H : RfAt h f) (ok : o_ok O) (hm : m < o_P O) (S : SgR h f O m) (d : Nat) : ∃ h', f_Rf_laysSigns_93 d h f (nI m) (nI (o_pk O m)) (nI (o_pa O m)) (nI (o_pb O m)) (f + 1532) (nI m) (sgnm O m) = f_Rf_laysSigns_2 d h' f (nI (m + 1)) ∧ fJ (f + 1530) (f + 1534) h h' ∧ SgR h' f O (m + 1) := by
  have hP := ok.2.2.2.1
  obtain ⟨c3, c4, c0, c5⟩ := o_ch ok hm
  have fin : ∀ v, sgrl O m = v → fJ (f + 1530) (f + 1534) h (am_sI (am_sI h (f + 1532) m (sgnm O m)) (f + 1533) m v) ∧ SgR (am_sI (am_sI h (f + 1532) m (sgnm O m)) (f + 1533) m v) f O (m + 1) := by
    intro v hv
    refine ⟨fJ_w (fJ_w (fJ_r _ _ _) (by omega) (by omega) _ _) (by omega) (by omega) _ _, fun p hp => ?_⟩
    rw [pc_I_I, if_neg (by omega), pc_I_I, pc_I_I, pc_I_I]
    by_cases e : p = m
    · subst e
      rw [if_pos ⟨rfl, rfl⟩, if_pos ⟨rfl, rfl⟩]
      exact ⟨rfl, hv.symm⟩
    · rw [if_neg (by omega), if_neg (by omega), if_neg (by omega)]
      exact S p (by omega)
  rw [e_Rf_laysSigns_93]
  rcases (show o_pk O m = 3 ∨ o_pk O m = 4 ∨ (o_pk O m = 0 ∨ o_pk O m = 1 ∨ o_pk O m = 2) by omega) with e | e | e
  · have := c3 e
    have s1 := S (o_pa O m) (by omega)
    have s2 := S (o_pb O m) (by omega)
    refine ⟨_, ?_, fin _ (sgrl_3 ok hm e)⟩
    rw [e, ← s1.2, ← s2.2]
    simp +decide (disch := first | assumption | omega) only [hc_ck, hc_gi, hc_gl, hc_gp, ap_I, ap_L, kd_I, kd_L, kd_P, kd_rI, ar_I, ar_L, ar_P, al_I, al_L, al_P, hop_s, cond_true, cond_false, pc_I_I, pc_L_L, pc_P_P, pc_I_L, pc_I_P, pc_L_I, pc_L_P, pc_P_I, pc_P_L, pc_sS_I, pc_sS_L, pc_sS_P, I_rI, L_rI, P_rI, S_rI, cv_r, ci_r, cl_r, o1_b, o1_0, o1_1, lc_e, nI_1, nI_add, if_true, if_false, Nat.reduceEqDiff, Nat.left_eq_add, Nat.add_eq_left, false_and, and_false, true_and, and_true, and_self, eq_self, Rf_k, Rf_p41, Rf_r1532, Rf_r1533]
  · have := c4 e
    have s2 := S (o_pb O m) (by omega)
    refine ⟨_, ?_, fin _ (sgrl_4 ok hm e)⟩
    rw [e, ← s2.2]
    simp +decide (disch := first | assumption | omega) only [hc_ck, hc_gi, hc_gl, hc_gp, ap_I, ap_L, kd_I, kd_L, kd_P, kd_rI, ar_I, ar_L, ar_P, al_I, al_L, al_P, hop_s, cond_true, cond_false, pc_I_I, pc_L_L, pc_P_P, pc_I_L, pc_I_P, pc_L_I, pc_L_P, pc_P_I, pc_P_L, pc_sS_I, pc_sS_L, pc_sS_P, I_rI, L_rI, P_rI, S_rI, cv_r, ci_r, cl_r, o1_b, o1_0, o1_1, lc_e, nI_1, nI_add, if_true, if_false, Nat.reduceEqDiff, Nat.left_eq_add, Nat.add_eq_left, false_and, and_false, true_and, and_true, and_self, eq_self, Rf_k, Rf_p41, Rf_r1532, Rf_r1533]
  · refine ⟨_, ?_, fin _ (sgrl_e e)⟩
    rcases e with e | e | e
    · rw [e]
      simp +decide (disch := first | assumption | omega) only [hc_ck, hc_gi, hc_gl, hc_gp, ap_I, ap_L, kd_I, kd_L, kd_P, kd_rI, ar_I, ar_L, ar_P, al_I, al_L, al_P, hop_s, cond_true, cond_false, pc_I_I, pc_L_L, pc_P_P, pc_I_L, pc_I_P, pc_L_I, pc_L_P, pc_P_I, pc_P_L, pc_sS_I, pc_sS_L, pc_sS_P, I_rI, L_rI, P_rI, S_rI, cv_r, ci_r, cl_r, o1_b, o1_0, o1_1, lc_e, nI_1, nI_add, if_true, if_false, Nat.reduceEqDiff, Nat.left_eq_add, Nat.add_eq_left, false_and, and_false, true_and, and_true, and_self, eq_self, Rf_k, Rf_p41, Rf_r1532, Rf_r1533]
    · rw [e]
      simp +decide (disch := first | assumption | omega) only [hc_ck, hc_gi, hc_gl, hc_gp, ap_I, ap_L, kd_I, kd_L, kd_P, kd_rI, ar_I, ar_L, ar_P, al_I, al_L, al_P, hop_s, cond_true, cond_false, pc_I_I, pc_L_L, pc_P_P, pc_I_L, pc_I_P, pc_L_I, pc_L_P, pc_P_I, pc_P_L, pc_sS_I, pc_sS_L, pc_sS_P, I_rI, L_rI, P_rI, S_rI, cv_r, ci_r, cl_r, o1_b, o1_0, o1_1, lc_e, nI_1, nI_add, if_true, if_false, Nat.reduceEqDiff, Nat.left_eq_add, Nat.add_eq_left, false_and, and_false, true_and, and_true, and_self, eq_self, Rf_k, Rf_p41, Rf_r1532, Rf_r1533]
    · rw [e]
      simp +decide (disch := first | assumption | omega) only [hc_ck, hc_gi, hc_gl, hc_gp, ap_I, ap_L, kd_I, kd_L, kd_P, kd_rI, ar_I, ar_L, ar_P, al_I, al_L, al_P, hop_s, cond_true, cond_false, pc_I_I, pc_L_L, pc_P_P, pc_I_L, pc_I_P, pc_L_I, pc_L_P, pc_P_I, pc_P_L, pc_sS_I, pc_sS_L, pc_sS_P, I_rI, L_rI, P_rI, S_rI, cv_r, ci_r, cl_r, o1_b, o1_0, o1_1, lc_e, nI_1, nI_add, if_true, if_false, Nat.reduceEqDiff, Nat.left_eq_add, Nat.add_eq_left, false_and, and_false, true_and, and_true, and_self, eq_self, Rf_k, Rf_p41, Rf_r1532, Rf_r1533]
theorem Rf_laysSigns {h : am_H} {f : Nat} {O : o_T} (H : RfAt h f) (R : RwR h (f + 3) O) (d : Nat) : ∃ h', f_Rf_laysSigns (d + 1) h f = some (.inr none, h') ∧ fJ (f + 1530) (f + 1534) h h' ∧ SgR h' f O (o_P O) := by
  have ok := R.2.1
  have hP := ok.2.2.2.1
  have key : ∀ m, m ≤ o_P O → ∀ g : am_H, fJ (f + 1530) (f + 1534) h g → SgR g f O m → ∃ h', f_Rf_laysSigns_2 (d + 1) g f (nI m) = some (.inr none, h') ∧ fJ (f + 1530) (f + 1534) h h' ∧ SgR h' f O (o_P O) := by
    refine dn ?_ ?_
    · intro g q S
      have Hg := fJ_at q H
      have Rg := fJ_rw q (by omega) R
      refine ⟨g, ?_, q, S⟩
      rw [e_Rf_laysSigns_2]
      simp (disch := first | assumption | omega) only [hc_ck, hc_gi, hc_gl, hc_gp, ap_I, ap_L, kd_I, kd_L, kd_P, kd_rI, ar_I, ar_L, ar_P, al_I, al_L, al_P, hop_s, cond_true, cond_false, pc_I_I, pc_L_L, pc_P_P, pc_I_L, pc_I_P, pc_L_I, pc_L_P, pc_P_I, pc_P_L, pc_sS_I, pc_sS_L, pc_sS_P, I_rI, L_rI, P_rI, S_rI, cv_r, ci_r, cl_r, o1_b, o1_0, o1_1, lc_e, nI_1, nI_add, if_true, if_false, Nat.reduceEqDiff, Nat.left_eq_add, Nat.add_eq_left, false_and, and_false, true_and, and_true, and_self, eq_self, Rf_k, Rf_p9, Rw_ar2, Rw_P, n_le, Nat.le_refl]
    · intro m hm ih g q S
      have Hg := fJ_at q H
      have Rg := fJ_rw q (by omega) R
      have hm3 : ¬ o_P O ≤ m := by omega
      obtain ⟨c3, c4, c0, c5⟩ := o_ch ok hm
      obtain ⟨u, eu, qu, Su⟩ := Rf_ls93 Hg ok hm S (d + 1)
      obtain ⟨z, ez, qz, Sz⟩ := ih u (fJ_t q qu) Su
      refine ⟨z, ?_, qz, Sz⟩
      rw [← ez, ← eu, e_Rf_laysSigns_2]
      simp (disch := first | assumption | omega) only [hc_ck, hc_gi, hc_gl, hc_gp, ap_I, ap_L, kd_I, kd_L, kd_P, kd_rI, ar_I, ar_L, ar_P, al_I, al_L, al_P, hop_s, cond_true, cond_false, pc_I_I, pc_L_L, pc_P_P, pc_I_L, pc_I_P, pc_L_I, pc_L_P, pc_P_I, pc_P_L, pc_sS_I, pc_sS_L, pc_sS_P, I_rI, L_rI, P_rI, S_rI, cv_r, ci_r, cl_r, o1_b, o1_0, o1_1, lc_e, nI_1, nI_add, if_true, if_false, Nat.reduceEqDiff, Nat.left_eq_add, Nat.add_eq_left, false_and, and_false, true_and, and_true, and_self, eq_self, Rf_k, Rf_p9, Rw_ar2, Rw_P, n_le, hm3, Rf_kindOf Rg hm, Rf_oneOf Rg hm, Rf_otherOf Rg hm, Rf_p40]
      rcases (show o_pk O m = 0 ∨ o_pk O m = 3 ∨ o_pk O m = 4 ∨ (o_pk O m = 1 ∨ o_pk O m = 2) by omega) with e | e | e | e
      · rw [sgnm_0 e, e, if_pos (by decide)]
      · have := c3 e
        have s1 := S (o_pa O m) (by omega)
        have s2 := S (o_pb O m) (by omega)
        rw [sgnm_3 ok hm e, ← s1.1, ← s2.1, e, if_neg (by decide), if_pos (by decide)]
        simp (disch := first | assumption | omega) only [hc_ck, hc_gi, hc_gl, hc_gp, ap_I, ap_L, kd_I, kd_L, kd_P, kd_rI, ar_I, ar_L, ar_P, al_I, al_L, al_P, hop_s, cond_true, cond_false, pc_I_I, pc_L_L, pc_P_P, pc_I_L, pc_I_P, pc_L_I, pc_L_P, pc_P_I, pc_P_L, pc_sS_I, pc_sS_L, pc_sS_P, I_rI, L_rI, P_rI, S_rI, cv_r, ci_r, cl_r, o1_b, o1_0, o1_1, lc_e, nI_1, nI_add, if_true, if_false, Nat.reduceEqDiff, Nat.left_eq_add, Nat.add_eq_left, false_and, and_false, true_and, and_true, and_self, eq_self, Rf_r1532]
      · have := c4 e
        have s2 := S (o_pb O m) (by omega)
        rw [sgnm_4 ok hm e, ← s2.1, e, if_neg (by decide), if_neg (by decide), if_pos (by decide)]
        simp (disch := first | assumption | omega) only [hc_ck, hc_gi, hc_gl, hc_gp, ap_I, ap_L, kd_I, kd_L, kd_P, kd_rI, ar_I, ar_L, ar_P, al_I, al_L, al_P, hop_s, cond_true, cond_false, pc_I_I, pc_L_L, pc_P_P, pc_I_L, pc_I_P, pc_L_I, pc_L_P, pc_P_I, pc_P_L, pc_sS_I, pc_sS_L, pc_sS_P, I_rI, L_rI, P_rI, S_rI, cv_r, ci_r, cl_r, o1_b, o1_0, o1_1, lc_e, nI_1, nI_add, if_true, if_false, Nat.reduceEqDiff, Nat.left_eq_add, Nat.add_eq_left, false_and, and_false, true_and, and_true, and_self, eq_self, Rf_r1532]
      · rw [sgnm_e e]
        rcases e with e | e
        · rw [e, if_neg (by decide), if_neg (by decide), if_neg (by decide)]
        · rw [e, if_neg (by decide), if_neg (by decide), if_neg (by decide)]
  obtain ⟨z, ez, qz, Sz⟩ := key 0 (Nat.zero_le _) h (fJ_r _ _ _) (fun p hp => absurd hp (Nat.not_lt_zero p))
  refine ⟨z, ?_, qz, Sz⟩
  rw [e_Rf_laysSigns]
  exact ez
theorem Rf_namesIn {h : am_H} {f k : Nat} {O : o_T} (H : RfAt h f) (R : RwR h (f + 3) O) (S : SgR h f O (o_P O)) (hk : k < o_A O) (d : Nat) : f_Rf_namesIn (d + 1) h f (nI k) = some (.inr (some (.int (axn O k))), h) := by
  have ok := R.2.1
  have hP := ok.2.2.2.1
  obtain ⟨c1, c2, c3, c4⟩ := o_ax ok hk
  have le1 : (nI (o_ak O k) ≤ 1) = (o_ak O k ≤ 1) := n_le _ 1 (by omega) (by omega)
  rw [e_Rf_namesIn]
  unfold axn
  simp (disch := first | assumption | omega) only [hc_ck, hc_gi, hc_gl, hc_gp, ap_I, ap_L, kd_I, kd_L, kd_P, kd_rI, ar_I, ar_L, ar_P, al_I, al_L, al_P, hop_s, cond_true, cond_false, pc_I_I, pc_L_L, pc_P_P, pc_I_L, pc_I_P, pc_L_I, pc_L_P, pc_P_I, pc_P_L, pc_sS_I, pc_sS_L, pc_sS_P, I_rI, L_rI, P_rI, S_rI, cv_r, ci_r, cl_r, o1_b, o1_0, o1_1, lc_e, nI_1, nI_add, if_true, if_false, Nat.reduceEqDiff, Nat.left_eq_add, Nat.add_eq_left, false_and, and_false, true_and, and_true, and_self, eq_self, Rf_k, Rf_p9, Rf_axiom0, Rf_axiom1, Rf_axiom2, Rf_p40, le1]
  by_cases e : o_ak O k ≤ 1
  · have := c1 e
    have s1 := S (o_a1 O k) (by omega)
    have s2 := S (o_a2 O k) (by omega)
    rw [if_pos e, if_pos e, ← s1.1, ← s2.1]
    simp (disch := first | assumption | omega) only [hc_ck, hc_gi, hc_gl, hc_gp, ap_I, ap_L, kd_I, kd_L, kd_P, kd_rI, ar_I, ar_L, ar_P, al_I, al_L, al_P, hop_s, cond_true, cond_false, pc_I_I, pc_L_L, pc_P_P, pc_I_L, pc_I_P, pc_L_I, pc_L_P, pc_P_I, pc_P_L, pc_sS_I, pc_sS_L, pc_sS_P, I_rI, L_rI, P_rI, S_rI, cv_r, ci_r, cl_r, o1_b, o1_0, o1_1, lc_e, nI_1, nI_add, if_true, if_false, Nat.reduceEqDiff, Nat.left_eq_add, Nat.add_eq_left, false_and, and_false, true_and, and_true, and_self, eq_self, Rf_r1532]
  · rw [if_neg e, if_neg e]
theorem Rf_rolesIn {h : am_H} {f k : Nat} {O : o_T} (H : RfAt h f) (R : RwR h (f + 3) O) (S : SgR h f O (o_P O)) (hk : k < o_A O) (d : Nat) : f_Rf_rolesIn (d + 1) h f (nI k) = some (.inr (some (.int (axr O k))), h) := by
  have ok := R.2.1
  have hP := ok.2.2.2.1
  obtain ⟨c1, c2, c3, c4⟩ := o_ax ok hk
  have lt1 : (1 < nI (o_ak O k)) = (1 < o_ak O k) := n_lt 1 _ (by omega) (by omega)
  rw [e_Rf_rolesIn]
  unfold axr
  simp (disch := first | assumption | omega) only [hc_ck, hc_gi, hc_gl, hc_gp, ap_I, ap_L, kd_I, kd_L, kd_P, kd_rI, ar_I, ar_L, ar_P, al_I, al_L, al_P, hop_s, cond_true, cond_false, pc_I_I, pc_L_L, pc_P_P, pc_I_L, pc_I_P, pc_L_I, pc_L_P, pc_P_I, pc_P_L, pc_sS_I, pc_sS_L, pc_sS_P, I_rI, L_rI, P_rI, S_rI, cv_r, ci_r, cl_r, o1_b, o1_0, o1_1, lc_e, nI_1, nI_add, if_true, if_false, Nat.reduceEqDiff, Nat.left_eq_add, Nat.add_eq_left, false_and, and_false, true_and, and_true, and_self, eq_self, Rf_k, Rf_p9, Rf_axiom0, Rf_axiom1, Rf_axiom2, Rf_axiom3, Rf_p41, lt1]
  by_cases e : o_ak O k ≤ 1
  · have := c1 e
    have s1 := S (o_a1 O k) (by omega)
    have s2 := S (o_a2 O k) (by omega)
    rw [if_neg (by omega), if_pos e, ← s1.2, ← s2.2]
    simp (disch := first | assumption | omega) only [hc_ck, hc_gi, hc_gl, hc_gp, ap_I, ap_L, kd_I, kd_L, kd_P, kd_rI, ar_I, ar_L, ar_P, al_I, al_L, al_P, hop_s, cond_true, cond_false, pc_I_I, pc_L_L, pc_P_P, pc_I_L, pc_I_P, pc_L_I, pc_L_P, pc_P_I, pc_P_L, pc_sS_I, pc_sS_L, pc_sS_P, I_rI, L_rI, P_rI, S_rI, cv_r, ci_r, cl_r, o1_b, o1_0, o1_1, lc_e, nI_1, nI_add, if_true, if_false, Nat.reduceEqDiff, Nat.left_eq_add, Nat.add_eq_left, false_and, and_false, true_and, and_true, and_self, eq_self, Rf_r1533]
  · rw [if_pos (by omega), if_neg e]
    rcases (show o_ak O k = 2 ∨ o_ak O k = 3 by omega) with e2 | e2
    · rw [e2, if_neg (by decide), if_neg (by decide)]
    · rw [e2, if_pos (by decide), if_pos rfl]
def LoR (h : am_H) (f : Nat) (O : o_T) (n r : Int32) (w : Bool) (m : Nat) : Prop := ∀ p, p < m → am_I h (f + 1530) p = bo (lF O n r w p) ∧ am_I h (f + 1531) p = bo (uF O n r w p)
theorem Rf_ll165 {h : am_H} {f m : Nat} {O : o_T} {n r : Int32} {w a : Bool} (H : RfAt h f) (ok : o_ok O) (hm : m < o_P O) (L : LoR h f O n r w m) (ha : lF O n r w m = a) (x y : Bool) (hx : x = (o_pk O m == 0 && !yi n (o_pa O m))) (hy : y = (o_pk O m == 4 && !yi r (o_pa O m))) (d : Nat) : ∃ h', f_Rf_laysLost_165 d h f n r (bo w) (nI m) (nI (o_pk O m)) (nI (o_pa O m)) (nI (o_pb O m)) (bo x) (bo y) (f + 1530) (nI m) (bo a) = f_Rf_laysLost_3 d h' f n r (bo w) (nI (m + 1)) ∧ fJ (f + 1530) (f + 1532) h h' ∧ LoR h' f O n r w (m + 1) := by
  have hP := ok.2.2.2.1
  obtain ⟨c3, c4, c0, c5⟩ := o_ch ok hm
  have fin : ∀ v, uF O n r w m = v → fJ (f + 1530) (f + 1532) h (am_sI (am_sI h (f + 1530) m (bo a)) (f + 1531) m (bo v)) ∧ LoR (am_sI (am_sI h (f + 1530) m (bo a)) (f + 1531) m (bo v)) f O n r w (m + 1) := by
    intro v hv
    refine ⟨fJ_w (fJ_w (fJ_r _ _ _) (by omega) (by omega) _ _) (by omega) (by omega) _ _, fun p hp => ?_⟩
    rw [pc_I_I, if_neg (by omega), pc_I_I, pc_I_I, pc_I_I]
    by_cases e : p = m
    · subst e
      rw [if_pos ⟨rfl, rfl⟩, if_pos ⟨rfl, rfl⟩, ha, hv]
      exact ⟨rfl, rfl⟩
    · rw [if_neg (by omega), if_neg (by omega), if_neg (by omega)]
      exact L p (by omega)
  have o1 : bo true = 1 := rfl
  rw [e_Rf_laysLost_165]
  rcases (show o_pk O m = 0 ∨ o_pk O m = 1 ∨ o_pk O m = 2 ∨ o_pk O m = 3 ∨ o_pk O m = 4 by omega) with e | e | e | e | e
  · obtain ⟨f1, f2⟩ := lu_0 (n := n) (r := r) (w := w) e
    refine ⟨_, ?_, fin _ f2⟩
    rw [e] at hx hy ⊢
    rw [show ((0 : Nat) == 0) = true from rfl, Bool.true_and] at hx
    rw [show ((0 : Nat) == 4) = false from rfl, Bool.false_and] at hy
    subst hx hy
    simp +decide (disch := first | assumption | omega) only [hc_ck, hc_gi, hc_gl, hc_gp, ap_I, ap_L, kd_I, kd_L, kd_P, kd_rI, ar_I, ar_L, ar_P, al_I, al_L, al_P, hop_s, cond_true, cond_false, pc_I_I, pc_L_L, pc_P_P, pc_I_L, pc_I_P, pc_L_I, pc_L_P, pc_P_I, pc_P_L, pc_sS_I, pc_sS_L, pc_sS_P, I_rI, L_rI, P_rI, S_rI, cv_r, ci_r, cl_r, o1_b, o1_0, o1_1, lc_e, nI_1, nI_add, if_true, if_false, Nat.reduceEqDiff, Nat.left_eq_add, Nat.add_eq_left, false_and, and_false, true_and, and_true, and_self, eq_self, Rf_k, Rf_p39, Rf_r1530, Rf_r1531, nar_b]
    rw [e_Rf_laysLost_204]
    simp +decide (disch := first | assumption | omega) only [hc_ck, hc_gi, hc_gl, hc_gp, ap_I, ap_L, kd_I, kd_L, kd_P, kd_rI, ar_I, ar_L, ar_P, al_I, al_L, al_P, hop_s, cond_true, cond_false, pc_I_I, pc_L_L, pc_P_P, pc_I_L, pc_I_P, pc_L_I, pc_L_P, pc_P_I, pc_P_L, pc_sS_I, pc_sS_L, pc_sS_P, I_rI, L_rI, P_rI, S_rI, cv_r, ci_r, cl_r, o1_b, o1_0, o1_1, lc_e, nI_1, nI_add, if_true, if_false, Nat.reduceEqDiff, Nat.left_eq_add, Nat.add_eq_left, false_and, and_false, true_and, and_true, and_self, eq_self, Rf_k, Rf_p39, Rf_r1530, Rf_r1531, bo_1, bo_0, nar_0, nar_1]
    cases w <;> cases yi n (o_pa O m) <;> simp +decide only [if_true, if_false] <;> rfl
  · obtain ⟨f1, f2⟩ := lu_1 (n := n) (r := r) (w := w) e
    refine ⟨_, ?_, fin _ f2⟩
    rw [e]
    simp +decide (disch := first | assumption | omega) only [hc_ck, hc_gi, hc_gl, hc_gp, ap_I, ap_L, kd_I, kd_L, kd_P, kd_rI, ar_I, ar_L, ar_P, al_I, al_L, al_P, hop_s, cond_true, cond_false, pc_I_I, pc_L_L, pc_P_P, pc_I_L, pc_I_P, pc_L_I, pc_L_P, pc_P_I, pc_P_L, pc_sS_I, pc_sS_L, pc_sS_P, I_rI, L_rI, P_rI, S_rI, cv_r, ci_r, cl_r, o1_b, o1_0, o1_1, lc_e, nI_1, nI_add, if_true, if_false, Nat.reduceEqDiff, Nat.left_eq_add, Nat.add_eq_left, false_and, and_false, true_and, and_true, and_self, eq_self, Rf_k, Rf_p39, Rf_r1530, Rf_r1531, nar_b, nar_1]
  · obtain ⟨f1, f2⟩ := lu_2 (n := n) (r := r) (w := w) e
    refine ⟨_, ?_, fin _ f2⟩
    rw [e] at hx hy ⊢
    rw [show ((2 : Nat) == 0) = false from rfl, Bool.false_and] at hx
    rw [show ((2 : Nat) == 4) = false from rfl, Bool.false_and] at hy
    subst hx hy
    simp +decide (disch := first | assumption | omega) only [hc_ck, hc_gi, hc_gl, hc_gp, ap_I, ap_L, kd_I, kd_L, kd_P, kd_rI, ar_I, ar_L, ar_P, al_I, al_L, al_P, hop_s, cond_true, cond_false, pc_I_I, pc_L_L, pc_P_P, pc_I_L, pc_I_P, pc_L_I, pc_L_P, pc_P_I, pc_P_L, pc_sS_I, pc_sS_L, pc_sS_P, I_rI, L_rI, P_rI, S_rI, cv_r, ci_r, cl_r, o1_b, o1_0, o1_1, lc_e, nI_1, nI_add, if_true, if_false, Nat.reduceEqDiff, Nat.left_eq_add, Nat.add_eq_left, false_and, and_false, true_and, and_true, and_self, eq_self, Rf_k, Rf_p39, Rf_r1530, Rf_r1531, nar_b]
    rw [e_Rf_laysLost_204]
    simp +decide (disch := first | assumption | omega) only [hc_ck, hc_gi, hc_gl, hc_gp, ap_I, ap_L, kd_I, kd_L, kd_P, kd_rI, ar_I, ar_L, ar_P, al_I, al_L, al_P, hop_s, cond_true, cond_false, pc_I_I, pc_L_L, pc_P_P, pc_I_L, pc_I_P, pc_L_I, pc_L_P, pc_P_I, pc_P_L, pc_sS_I, pc_sS_L, pc_sS_P, I_rI, L_rI, P_rI, S_rI, cv_r, ci_r, cl_r, o1_b, o1_0, o1_1, lc_e, nI_1, nI_add, if_true, if_false, Nat.reduceEqDiff, Nat.left_eq_add, Nat.add_eq_left, false_and, and_false, true_and, and_true, and_self, eq_self, Rf_k, Rf_p39, Rf_r1530, Rf_r1531, bo_1, bo_0, nar_0, nar_1]
    cases w <;> simp +decide only [if_true, if_false] <;> rfl
  · have ca := c3 e
    obtain ⟨f1, f2⟩ := lu_3 (n := n) (r := r) (w := w) ok hm e
    have s1 := (L (o_pa O m) (by omega)).2
    have s2 := (L (o_pb O m) (by omega)).2
    refine ⟨_, ?_, fin _ f2⟩
    rw [e] at hx hy ⊢
    rw [show ((3 : Nat) == 0) = false from rfl, Bool.false_and] at hx
    rw [show ((3 : Nat) == 4) = false from rfl, Bool.false_and] at hy
    subst hx hy
    simp +decide (disch := first | assumption | omega) only [hc_ck, hc_gi, hc_gl, hc_gp, ap_I, ap_L, kd_I, kd_L, kd_P, kd_rI, ar_I, ar_L, ar_P, al_I, al_L, al_P, hop_s, cond_true, cond_false, pc_I_I, pc_L_L, pc_P_P, pc_I_L, pc_I_P, pc_L_I, pc_L_P, pc_P_I, pc_P_L, pc_sS_I, pc_sS_L, pc_sS_P, I_rI, L_rI, P_rI, S_rI, cv_r, ci_r, cl_r, o1_b, o1_0, o1_1, lc_e, nI_1, nI_add, if_true, if_false, Nat.reduceEqDiff, Nat.left_eq_add, Nat.add_eq_left, false_and, and_false, true_and, and_true, and_self, eq_self, Rf_k, Rf_p39, Rf_r1530, Rf_r1531, nar_b, s1, s2, bo_0, nar_1]
    rw [e_Rf_laysLost_204]
    simp +decide (disch := first | assumption | omega) only [hc_ck, hc_gi, hc_gl, hc_gp, ap_I, ap_L, kd_I, kd_L, kd_P, kd_rI, ar_I, ar_L, ar_P, al_I, al_L, al_P, hop_s, cond_true, cond_false, pc_I_I, pc_L_L, pc_P_P, pc_I_L, pc_I_P, pc_L_I, pc_L_P, pc_P_I, pc_P_L, pc_sS_I, pc_sS_L, pc_sS_P, I_rI, L_rI, P_rI, S_rI, cv_r, ci_r, cl_r, o1_b, o1_0, o1_1, lc_e, nI_1, nI_add, if_true, if_false, Nat.reduceEqDiff, Nat.left_eq_add, Nat.add_eq_left, false_and, and_false, true_and, and_true, and_self, eq_self, Rf_k, Rf_p39, Rf_r1530, Rf_r1531, bo_1, bo_0, nar_0, nar_1]
    cases w <;> cases uF O n r _ (o_pa O m) <;> cases uF O n r _ (o_pb O m) <;> simp +decide only [if_true, if_false] <;> rfl
  · have ca := c4 e
    obtain ⟨f1, f2⟩ := lu_4 (n := n) (r := r) (w := w) ok hm e
    have s2 := (L (o_pb O m) (by omega)).2
    refine ⟨_, ?_, fin _ f2⟩
    rw [e] at hx hy ⊢
    rw [show ((4 : Nat) == 0) = false from rfl, Bool.false_and] at hx
    rw [show ((4 : Nat) == 4) = true from rfl, Bool.true_and] at hy
    subst hx hy
    simp +decide (disch := first | assumption | omega) only [hc_ck, hc_gi, hc_gl, hc_gp, ap_I, ap_L, kd_I, kd_L, kd_P, kd_rI, ar_I, ar_L, ar_P, al_I, al_L, al_P, hop_s, cond_true, cond_false, pc_I_I, pc_L_L, pc_P_P, pc_I_L, pc_I_P, pc_L_I, pc_L_P, pc_P_I, pc_P_L, pc_sS_I, pc_sS_L, pc_sS_P, I_rI, L_rI, P_rI, S_rI, cv_r, ci_r, cl_r, o1_b, o1_0, o1_1, lc_e, nI_1, nI_add, if_true, if_false, Nat.reduceEqDiff, Nat.left_eq_add, Nat.add_eq_left, false_and, and_false, true_and, and_true, and_self, eq_self, Rf_k, Rf_p39, Rf_r1530, Rf_r1531, nar_b]
    rw [e_Rf_laysLost_204]
    simp +decide (disch := first | assumption | omega) only [hc_ck, hc_gi, hc_gl, hc_gp, ap_I, ap_L, kd_I, kd_L, kd_P, kd_rI, ar_I, ar_L, ar_P, al_I, al_L, al_P, hop_s, cond_true, cond_false, pc_I_I, pc_L_L, pc_P_P, pc_I_L, pc_I_P, pc_L_I, pc_L_P, pc_P_I, pc_P_L, pc_sS_I, pc_sS_L, pc_sS_P, I_rI, L_rI, P_rI, S_rI, cv_r, ci_r, cl_r, o1_b, o1_0, o1_1, lc_e, nI_1, nI_add, if_true, if_false, Nat.reduceEqDiff, Nat.left_eq_add, Nat.add_eq_left, false_and, and_false, true_and, and_true, and_self, eq_self, Rf_k, Rf_p39, Rf_r1530, Rf_r1531, bo_1, bo_0, nar_0, nar_1, s2]
    cases w <;> cases yi r (o_pa O m) <;> cases uF O n r _ (o_pb O m) <;> simp +decide only [if_true, if_false] <;> rfl
