/-! ===== the class's hierarchy: what is asked of it ===== -/
theorem Ar_fillI {h : am_H} {a n : Nat} (hs : (am_S h)[a]? = some (9, n)) (hn : n < 2147483648) (v : Int32) (d : Nat) : ∃ h', f_Ar_fillI d h a v = some (.inr none, h') ∧ fJ a (a + 1) h h' ∧ (∀ j, j < n → am_I h' a j = v) := by
  have key : ∀ k, k ≤ n → ∀ u : am_H, fJ a (a + 1) h u → (∀ j, j < k → am_I u a j = v) → ∃ h', f_Ar_fillI_5 d u a v (nI k) (nI n) = some (.inr none, h') ∧ fJ a (a + 1) h h' ∧ (∀ j, j < n → am_I h' a j = v) := by
    refine dn ?_ ?_
    · intro u q hj
      refine ⟨u, ?_, q, hj⟩
      rw [e_Ar_fillI_5]
      simp (disch := first | assumption | omega) only [hc_ck, hc_gi, hc_gl, hc_gp, ap_I, ap_L, kd_I, kd_L, kd_P, kd_rI, ar_I, ar_L, ar_P, al_I, al_L, al_P, hop_s, cond_true, cond_false, pc_I_I, pc_L_L, pc_P_P, pc_I_L, pc_I_P, pc_L_I, pc_L_P, pc_P_I, pc_P_L, pc_sS_I, pc_sS_L, pc_sS_P, I_rI, L_rI, P_rI, S_rI, cv_r, ci_r, cl_r, o1_b, o1_0, o1_1, lc_e, nI_1, nI_add, if_true, if_false, Nat.reduceEqDiff, Nat.left_eq_add, Nat.add_eq_left, false_and, and_false, true_and, and_true, and_self, eq_self, n_le, Nat.le_refl]
    · intro k hk ih u q hj
      have hs' : (am_S u)[a]? = some (9, n) := by rw [q.2.2.1]; exact hs
      have hk3 : ¬ n ≤ k := by omega
      rw [e_Ar_fillI_5]
      simp (disch := first | assumption | omega) only [hc_ck, hc_gi, hc_gl, hc_gp, ap_I, ap_L, kd_I, kd_L, kd_P, kd_rI, ar_I, ar_L, ar_P, al_I, al_L, al_P, hop_s, cond_true, cond_false, pc_I_I, pc_L_L, pc_P_P, pc_I_L, pc_I_P, pc_L_I, pc_L_P, pc_P_I, pc_P_L, pc_sS_I, pc_sS_L, pc_sS_P, I_rI, L_rI, P_rI, S_rI, cv_r, ci_r, cl_r, o1_b, o1_0, o1_1, lc_e, nI_1, nI_add, if_true, if_false, Nat.reduceEqDiff, Nat.left_eq_add, Nat.add_eq_left, false_and, and_false, true_and, and_true, and_self, eq_self, n_le, hk3]
      rw [ar_n hs' hk hn]
      refine ih _ (fJ_w q (by omega) (by omega) _ _) ?_
      intro j hj'
      rw [pc_I_I]
      by_cases e : j = k
      · rw [if_pos ⟨rfl, e⟩]
      · rw [if_neg (by omega)]
        exact hj j (by omega)
  rw [e_Ar_fillI, al_n hs (by omega)]
  exact key 0 (Nat.zero_le _) h (fJ_r _ _ _) (fun j hj => absurd hj (Nat.not_lt_zero j))
theorem Hi_childrenOf {h : am_H} {y : Nat} {O : o_T} {B : Nat → Prop} (ok : o_ok O) (H : HiAt h y) (R : HiR h y O B) {n : Nat} (hn : n < q_M O B) (d : Nat) : f_Hi_childrenOf d h y (nI n) = some (.inr (some (.int (wI (fun m => q_pa O B m n)))), h) := by
  have hM := q_Mle O B
  have okN := ok.1
  have key : ∀ k, k ≤ q_M O B → ∀ w : Int32, w = wI (fun m => ∃ p, p < k ∧ (p = m ∧ q_pa O B m n)) → f_Hi_childrenOf_4 d h y (nI n) w (nI k) = some (.inr (some (.int (wI (fun m => q_pa O B m n)))), h) := by
    refine dn ?_ ?_
    · intro w hw
      rw [e_Hi_childrenOf_4]
      simp (disch := first | assumption | omega) only [hc_ck, hc_gi, hc_gl, hc_gp, ap_I, ap_L, kd_I, kd_L, kd_P, kd_rI, ar_I, ar_L, ar_P, al_I, al_L, al_P, hop_s, cond_true, cond_false, pc_I_I, pc_L_L, pc_P_P, pc_I_L, pc_I_P, pc_L_I, pc_L_P, pc_P_I, pc_P_L, pc_sS_I, pc_sS_L, pc_sS_P, I_rI, L_rI, P_rI, S_rI, cv_r, ci_r, cl_r, o1_b, o1_0, o1_1, lc_e, nI_1, nI_add, if_true, if_false, Nat.reduceEqDiff, Nat.left_eq_add, Nat.add_eq_left, false_and, and_false, true_and, and_true, and_self, eq_self, Hi_k, R.1, n_le, Nat.le_refl]
      apply ri_e
      rw [hw]
      exact wI_cong (fun m _ => ⟨fun ⟨p, _, _, c⟩ => c, fun c => ⟨m, c.1.1, rfl, c⟩⟩)
    · intro k hk ih w hw
      have hk3 : ¬ q_M O B ≤ k := by omega
      rw [e_Hi_childrenOf_4]
      simp (disch := first | assumption | omega) only [hc_ck, hc_gi, hc_gl, hc_gp, ap_I, ap_L, kd_I, kd_L, kd_P, kd_rI, ar_I, ar_L, ar_P, al_I, al_L, al_P, hop_s, cond_true, cond_false, pc_I_I, pc_L_L, pc_P_P, pc_I_L, pc_I_P, pc_L_I, pc_L_P, pc_P_I, pc_P_L, pc_sS_I, pc_sS_L, pc_sS_P, I_rI, L_rI, P_rI, S_rI, cv_r, ci_r, cl_r, o1_b, o1_0, o1_1, lc_e, nI_1, nI_add, if_true, if_false, Nat.reduceEqDiff, Nat.left_eq_add, Nat.add_eq_left, false_and, and_false, true_and, and_true, and_self, eq_self, Hi_k, R.1, n_le, hk3, Hi_p6, Hi_r5, (R.2.2.2 k hk).2.2]
      apply ih
      rw [hw]
      apply wk_sI
      intro m hm
      rw [yi_mv _ (by omega) (by omega), Bool.and_eq_true, wI_x, decide_eq_true_iff]
      exact ⟨fun c => ⟨c.2.symm, c.2 ▸ c.1.2⟩, fun c => ⟨⟨by omega, c.1 ▸ c.2⟩, c.1.symm⟩⟩
  rw [e_Hi_childrenOf]
  exact key 0 (Nat.zero_le _) 0 wk_0I.symm
theorem Hi_allUnder {h : am_H} {y : Nat} {O : o_T} {B : Nat → Prop} (ok : o_ok O) (H : HiAt h y) (R : HiR h y O B) {n : Nat} (hn : n < q_M O B) (d : Nat) : f_Hi_allUnder d h y (nI n) = some (.inr (some (.int (wI (fun m => q_ov O B m n)))), h) := by
  have hM := q_Mle O B
  have okN := ok.1
  have key : ∀ k, k ≤ q_M O B → ∀ w : Int32, w = wI (fun m => ∃ p, p < k ∧ (p = m ∧ q_ov O B m n)) → f_Hi_allUnder_4 d h y (nI n) w (nI k) = some (.inr (some (.int (wI (fun m => q_ov O B m n)))), h) := by
    refine dn ?_ ?_
    · intro w hw
      rw [e_Hi_allUnder_4]
      simp (disch := first | assumption | omega) only [hc_ck, hc_gi, hc_gl, hc_gp, ap_I, ap_L, kd_I, kd_L, kd_P, kd_rI, ar_I, ar_L, ar_P, al_I, al_L, al_P, hop_s, cond_true, cond_false, pc_I_I, pc_L_L, pc_P_P, pc_I_L, pc_I_P, pc_L_I, pc_L_P, pc_P_I, pc_P_L, pc_sS_I, pc_sS_L, pc_sS_P, I_rI, L_rI, P_rI, S_rI, cv_r, ci_r, cl_r, o1_b, o1_0, o1_1, lc_e, nI_1, nI_add, if_true, if_false, Nat.reduceEqDiff, Nat.left_eq_add, Nat.add_eq_left, false_and, and_false, true_and, and_true, and_self, eq_self, Hi_k, R.1, n_le, Nat.le_refl]
      apply ri_e
      rw [hw]
      exact wI_cong (fun m _ => ⟨fun ⟨p, _, _, c⟩ => c, fun c => ⟨m, c.1, rfl, c⟩⟩)
    · intro k hk ih w hw
      have hk3 : ¬ q_M O B ≤ k := by omega
      rw [e_Hi_allUnder_4]
      simp (disch := first | assumption | omega) only [hc_ck, hc_gi, hc_gl, hc_gp, ap_I, ap_L, kd_I, kd_L, kd_P, kd_rI, ar_I, ar_L, ar_P, al_I, al_L, al_P, hop_s, cond_true, cond_false, pc_I_I, pc_L_L, pc_P_P, pc_I_L, pc_I_P, pc_L_I, pc_L_P, pc_P_I, pc_P_L, pc_sS_I, pc_sS_L, pc_sS_P, I_rI, L_rI, P_rI, S_rI, cv_r, ci_r, cl_r, o1_b, o1_0, o1_1, lc_e, nI_1, nI_add, if_true, if_false, Nat.reduceEqDiff, Nat.left_eq_add, Nat.add_eq_left, false_and, and_false, true_and, and_true, and_self, eq_self, Hi_k, R.1, n_le, hk3, Hi_p5, Hi_r4, (R.2.2.2 k hk).2.1]
      apply ih
      rw [hw]
      apply wk_sI
      intro m hm
      rw [yi_mv _ (by omega) (by omega), Bool.and_eq_true, wI_x, decide_eq_true_iff]
      exact ⟨fun c => ⟨c.2.symm, c.2 ▸ c.1.2⟩, fun c => ⟨⟨by omega, c.1 ▸ c.2⟩, c.1.symm⟩⟩
  rw [e_Hi_allUnder]
  exact key 0 (Nat.zero_le _) 0 wk_0I.symm
noncomputable def q_de (O : o_T) (B : Nat → Prop) (n : Nat) : Nat := h_dP (q_pa O B) (q_M O B) (q_M O B) (fun _ => 1) n
theorem h_dlim {a b c M : Nat} (hM : M ≤ 24) (ha : a ≤ M) (hb : b ≤ M) (hc : c ≤ M) : 1 + a * (M * M) + b * M + c ≤ 20000 := by
  have h1 : M * M ≤ 24 * 24 := Nat.mul_le_mul hM hM
  have h2 : a * (M * M) ≤ 24 * (24 * 24) := Nat.mul_le_mul (Nat.le_trans ha hM) h1
  have h3 : b * M ≤ 24 * 24 := Nat.mul_le_mul (Nat.le_trans hb hM) hM
  omega
theorem Hi_depth {h : am_H} {y : Nat} {O : o_T} {B : Nat → Prop} (ok : o_ok O) (H : HiAt h y) (R : HiR h y O B) {n : Nat} (hn : n < q_M O B) (d : Nat) : ∃ h', f_Hi_depth (d + 1) h y (nI n) = some (.inr (some (.int (nI (q_de O B n)))), h') ∧ fJ (y + 6) (y + 7) h h' := by
  have hM := q_Mle O B
  have okN := ok.1
  obtain ⟨g, eg, qg, hg⟩ := Ar_fillI (H.2.2.2.2.2.2.2 6 (by omega) (by omega)) (by omega) 1 d
  have hM24 : q_M O B ≤ 24 := by omega
  have key : ∀ p, p ≤ q_M O B → ∀ u : am_H, fJ (y + 6) (y + 7) h u → (∀ i, i < 24 → am_I u (y + 6) i = nI (h_dP (q_pa O B) (q_M O B) p (fun _ => 1) i)) → ∃ h', f_Hi_depth_10 (d + 1) u y (nI n) (nI p) = some (.inr (some (.int (nI (q_de O B n)))), h') ∧ fJ (y + 6) (y + 7) h h' := by
    refine dn ?_ ?_
    · intro u q hu
      have Hu := fJ_hi q H
      have e0 : am_I u y 0 = nI (q_M O B) := by rw [q.2.2.2.2.2 y (by omega)]; exact R.1
      refine ⟨u, ?_, q⟩
      rw [e_Hi_depth_10]
      simp (disch := first | assumption | omega) only [hc_ck, hc_gi, hc_gl, hc_gp, ap_I, ap_L, kd_I, kd_L, kd_P, kd_rI, ar_I, ar_L, ar_P, al_I, al_L, al_P, hop_s, cond_true, cond_false, pc_I_I, pc_L_L, pc_P_P, pc_I_L, pc_I_P, pc_L_I, pc_L_P, pc_P_I, pc_P_L, pc_sS_I, pc_sS_L, pc_sS_P, I_rI, L_rI, P_rI, S_rI, cv_r, ci_r, cl_r, o1_b, o1_0, o1_1, lc_e, nI_1, nI_add, if_true, if_false, Nat.reduceEqDiff, Nat.left_eq_add, Nat.add_eq_left, false_and, and_false, true_and, and_true, and_self, eq_self, Hi_k, e0, n_le, Nat.le_refl, Hi_p7, Hi_r6, hu n (by omega)]
      rfl
    · intro p hp ih u q hu
      have e0 : am_I u y 0 = nI (q_M O B) := by rw [q.2.2.2.2.2 y (by omega)]; exact R.1
      have Hu := fJ_hi q H
      have hp3 : ¬ q_M O B ≤ p := by omega
      have mid : ∀ a, a ≤ q_M O B → ∀ u : am_H, fJ (y + 6) (y + 7) h u → (∀ i, i < 24 → am_I u (y + 6) i = nI (h_dN (q_pa O B) (q_M O B) a (h_dP (q_pa O B) (q_M O B) p (fun _ => 1)) i)) → ∃ h', f_Hi_depth_20 (d + 1) u y (nI n) (nI p) (nI a) = some (.inr (some (.int (nI (q_de O B n)))), h') ∧ fJ (y + 6) (y + 7) h h' := by
        refine dn ?_ ?_
        · intro u q hu
          have Hu := fJ_hi q H
          have e0 : am_I u y 0 = nI (q_M O B) := by rw [q.2.2.2.2.2 y (by omega)]; exact R.1
          rw [e_Hi_depth_20]
          simp (disch := first | assumption | omega) only [hc_ck, hc_gi, hc_gl, hc_gp, ap_I, ap_L, kd_I, kd_L, kd_P, kd_rI, ar_I, ar_L, ar_P, al_I, al_L, al_P, hop_s, cond_true, cond_false, pc_I_I, pc_L_L, pc_P_P, pc_I_L, pc_I_P, pc_L_I, pc_L_P, pc_P_I, pc_P_L, pc_sS_I, pc_sS_L, pc_sS_P, I_rI, L_rI, P_rI, S_rI, cv_r, ci_r, cl_r, o1_b, o1_0, o1_1, lc_e, nI_1, nI_add, if_true, if_false, Nat.reduceEqDiff, Nat.left_eq_add, Nat.add_eq_left, false_and, and_false, true_and, and_true, and_self, eq_self, Hi_k, e0, n_le, Nat.le_refl]
          exact ih u q hu
        · intro a ha ih2 u q hu
          have Hu := fJ_hi q H
          have e0 : am_I u y 0 = nI (q_M O B) := by rw [q.2.2.2.2.2 y (by omega)]; exact R.1
          have ha3 : ¬ q_M O B ≤ a := by omega
          have inner : ∀ b, b ≤ q_M O B → ∀ u : am_H, fJ (y + 6) (y + 7) h u → (∀ i, i < 24 → am_I u (y + 6) i = nI (h_dM (q_pa O B) a b (h_dN (q_pa O B) (q_M O B) a (h_dP (q_pa O B) (q_M O B) p (fun _ => 1))) i)) → ∃ h', f_Hi_depth_31 (d + 1) u y (nI n) (nI p) (nI a) (nI b) = some (.inr (some (.int (nI (q_de O B n)))), h') ∧ fJ (y + 6) (y + 7) h h' := by
            refine dn ?_ ?_
            · intro u q hu
              have Hu := fJ_hi q H
              have e0 : am_I u y 0 = nI (q_M O B) := by rw [q.2.2.2.2.2 y (by omega)]; exact R.1
              rw [e_Hi_depth_31]
              simp (disch := first | assumption | omega) only [hc_ck, hc_gi, hc_gl, hc_gp, ap_I, ap_L, kd_I, kd_L, kd_P, kd_rI, ar_I, ar_L, ar_P, al_I, al_L, al_P, hop_s, cond_true, cond_false, pc_I_I, pc_L_L, pc_P_P, pc_I_L, pc_I_P, pc_L_I, pc_L_P, pc_P_I, pc_P_L, pc_sS_I, pc_sS_L, pc_sS_P, I_rI, L_rI, P_rI, S_rI, cv_r, ci_r, cl_r, o1_b, o1_0, o1_1, lc_e, nI_1, nI_add, if_true, if_false, Nat.reduceEqDiff, Nat.left_eq_add, Nat.add_eq_left, false_and, and_false, true_and, and_true, and_self, eq_self, Hi_k, e0, n_le, Nat.le_refl]
              exact ih2 u q hu
            · intro b hb ih3 u q hu
              have Hu := fJ_hi q H
              have e0 : am_I u y 0 = nI (q_M O B) := by rw [q.2.2.2.2.2 y (by omega)]; exact R.1
              have e5 : am_I u (y + 5) a = wI (q_pa O B a) := by rw [q.2.2.2.2.2 (y + 5) (by omega)]; exact (R.2.2.2 a ha).2.2
              have hb3 : ¬ q_M O B ≤ b := by omega
              have bnd : ∀ i, h_dM (q_pa O B) a b (h_dN (q_pa O B) (q_M O B) a (h_dP (q_pa O B) (q_M O B) p (fun _ => 1))) i ≤ 20000 := fun i => Nat.le_trans (h_dMb (h_dNb (h_dPb (fun _ => Nat.le_refl 1) p) a) b i) (h_dlim hM24 (by omega) (by omega) (by omega))
              have hstep : ∀ i, h_dM (q_pa O B) a (b + 1) (h_dN (q_pa O B) (q_M O B) a (h_dP (q_pa O B) (q_M O B) p (fun _ => 1))) i = h_d1 (q_pa O B) a b (h_dM (q_pa O B) a b (h_dN (q_pa O B) (q_M O B) a (h_dP (q_pa O B) (q_M O B) p (fun _ => 1)))) i := fun _ => rfl
              generalize h_dM (q_pa O B) a b (h_dN (q_pa O B) (q_M O B) a (h_dP (q_pa O B) (q_M O B) p (fun _ => 1))) = v at *
              have ba := bnd a
              have bb := bnd b
              rw [e_Hi_depth_31]
              simp (disch := first | assumption | omega) only [hc_ck, hc_gi, hc_gl, hc_gp, ap_I, ap_L, kd_I, kd_L, kd_P, kd_rI, ar_I, ar_L, ar_P, al_I, al_L, al_P, hop_s, cond_true, cond_false, pc_I_I, pc_L_L, pc_P_P, pc_I_L, pc_I_P, pc_L_I, pc_L_P, pc_P_I, pc_P_L, pc_sS_I, pc_sS_L, pc_sS_P, I_rI, L_rI, P_rI, S_rI, cv_r, ci_r, cl_r, o1_b, o1_0, o1_1, lc_e, nI_1, nI_add, if_true, if_false, Nat.reduceEqDiff, Nat.left_eq_add, Nat.add_eq_left, false_and, and_false, true_and, and_true, and_self, eq_self, Hi_k, e0, n_le, hb3, Hi_p6, Hi_r5, e5, yi_t0, Hi_p7, Hi_r6, hu a (by omega), hu b (by omega), n_lt]
              by_cases c : q_pa O B a b
              · simp only [yi_wt (show b < 32 by omega) c, Bool.true_eq_false, if_false]
                by_cases c2 : v b < v a
                · rw [if_pos c2]
                  refine ih3 u q ?_
                  intro i hi
                  rw [hstep, hu i hi]
                  unfold h_d1
                  rw [if_neg (by omega)]
                · rw [if_neg c2]
                  refine ih3 _ (fJ_w q (by omega) (by omega) _ _) ?_
                  intro i hi
                  rw [hstep, pc_I_I]
                  unfold h_d1
                  by_cases e : i = a
                  · rw [if_pos ⟨rfl, e⟩, if_pos ⟨c, e, by omega⟩]
                  · rw [if_neg (by omega), if_neg (by omega)]
                    exact hu i hi
              · simp only [yi_wf (show b < 32 by omega) c, if_true]
                refine ih3 u q ?_
                intro i hi
                rw [hstep, hu i hi]
                unfold h_d1
                rw [if_neg (fun e => c e.1)]
          rw [e_Hi_depth_20]
          simp (disch := first | assumption | omega) only [hc_ck, hc_gi, hc_gl, hc_gp, ap_I, ap_L, kd_I, kd_L, kd_P, kd_rI, ar_I, ar_L, ar_P, al_I, al_L, al_P, hop_s, cond_true, cond_false, pc_I_I, pc_L_L, pc_P_P, pc_I_L, pc_I_P, pc_L_I, pc_L_P, pc_P_I, pc_P_L, pc_sS_I, pc_sS_L, pc_sS_P, I_rI, L_rI, P_rI, S_rI, cv_r, ci_r, cl_r, o1_b, o1_0, o1_1, lc_e, nI_1, nI_add, if_true, if_false, Nat.reduceEqDiff, Nat.left_eq_add, Nat.add_eq_left, false_and, and_false, true_and, and_true, and_self, eq_self, Hi_k, e0, n_le, ha3]
          exact inner 0 (Nat.zero_le _) u q hu
      rw [e_Hi_depth_10]
      simp (disch := first | assumption | omega) only [hc_ck, hc_gi, hc_gl, hc_gp, ap_I, ap_L, kd_I, kd_L, kd_P, kd_rI, ar_I, ar_L, ar_P, al_I, al_L, al_P, hop_s, cond_true, cond_false, pc_I_I, pc_L_L, pc_P_P, pc_I_L, pc_I_P, pc_L_I, pc_L_P, pc_P_I, pc_P_L, pc_sS_I, pc_sS_L, pc_sS_P, I_rI, L_rI, P_rI, S_rI, cv_r, ci_r, cl_r, o1_b, o1_0, o1_1, lc_e, nI_1, nI_add, if_true, if_false, Nat.reduceEqDiff, Nat.left_eq_add, Nat.add_eq_left, false_and, and_false, true_and, and_true, and_self, eq_self, Hi_k, e0, n_le, hp3]
      exact mid 0 (Nat.zero_le _) u q hu
  rw [e_Hi_depth]
  simp (disch := first | assumption | omega) only [hc_ck, hc_gi, hc_gl, hc_gp, ap_I, ap_L, kd_I, kd_L, kd_P, kd_rI, ar_I, ar_L, ar_P, al_I, al_L, al_P, hop_s, cond_true, cond_false, pc_I_I, pc_L_L, pc_P_P, pc_I_L, pc_I_P, pc_L_I, pc_L_P, pc_P_I, pc_P_L, pc_sS_I, pc_sS_L, pc_sS_P, I_rI, L_rI, P_rI, S_rI, cv_r, ci_r, cl_r, o1_b, o1_0, o1_1, lc_e, nI_1, nI_add, if_true, if_false, Nat.reduceEqDiff, Nat.left_eq_add, Nat.add_eq_left, false_and, and_false, true_and, and_true, and_self, eq_self, Hi_k, Hi_p7, eg]
  exact key 0 (Nat.zero_le _) g qg (fun i hi => (hg i hi).trans rfl)
/-- nodes that a name is below -/
def q_ab (O : o_T) (B : Nat → Prop) (a n : Nat) : Prop := h_ab (o_N O) (q_vo O B) (q_tp O B) (q_nb O B) a n
theorem q_nolim {O : o_T} {B : Nat → Prop} {a : Nat} (h : q_nv O B a) : q_no O B a < q_M O B := q_nolt h h.1
theorem Hi_nodesOver {h : am_H} {y : Nat} {O : o_T} {B : Nat → Prop} (ok : o_ok O) (H : HiAt h y) (R : HiR h y O B) {a : Nat} (ha : a < o_N O) (d : Nat) : f_Hi_nodesOver d h y (nI a) = some (.inr (some (.int (wI (q_ab O B a)))), h) := by
  have hM := q_Mle O B
  have okN := ok.1
  rw [e_Hi_nodesOver]
  simp (disch := first | assumption | omega) only [hc_ck, hc_gi, hc_gl, hc_gp, ap_I, ap_L, kd_I, kd_L, kd_P, kd_rI, ar_I, ar_L, ar_P, al_I, al_L, al_P, hop_s, cond_true, cond_false, pc_I_I, pc_L_L, pc_P_P, pc_I_L, pc_I_P, pc_L_I, pc_L_P, pc_P_I, pc_P_L, pc_sS_I, pc_sS_L, pc_sS_P, I_rI, L_rI, P_rI, S_rI, cv_r, ci_r, cl_r, o1_b, o1_0, o1_1, lc_e, nI_1, nI_add, if_true, if_false, Nat.reduceEqDiff, Nat.left_eq_add, Nat.add_eq_left, false_and, and_false, true_and, and_true, and_self, eq_self, Hi_k, Hi_p2, Hi_r1, R.2.2.1 a ha]
  by_cases hv : q_nv O B a
  · have hl := q_nolim hv
    rw [q_nc3 hv]
    simp (disch := first | assumption | omega) only [hc_ck, hc_gi, hc_gl, hc_gp, ap_I, ap_L, kd_I, kd_L, kd_P, kd_rI, ar_I, ar_L, ar_P, al_I, al_L, al_P, hop_s, cond_true, cond_false, pc_I_I, pc_L_L, pc_P_P, pc_I_L, pc_I_P, pc_L_I, pc_L_P, pc_P_I, pc_P_L, pc_sS_I, pc_sS_L, pc_sS_P, I_rI, L_rI, P_rI, S_rI, cv_r, ci_r, cl_r, o1_b, o1_0, o1_1, lc_e, nI_1, nI_add, if_true, if_false, Nat.reduceEqDiff, Nat.left_eq_add, Nat.add_eq_left, false_and, and_false, true_and, and_true, and_self, eq_self, n_0, n_le, Nat.zero_le, Hi_k, Hi_p5, Hi_r4, (R.2.2.2 _ hl).2.1]
    apply ri_e
    apply wI_of
    intro m hm
    rw [yi_or, Bool.or_eq_true, wI_x, yi_b1 (by omega), decide_eq_true_iff]
    exact ⟨fun c => ⟨hv, c.elim (fun e => Or.inr e.2) Or.inl⟩, fun c => c.2.elim Or.inr (fun e => Or.inl ⟨hm, e⟩)⟩
  · have e : ¬ (0 ≤ q_nc O B a) := by
      by_cases h1 : q_vo O B a
      · rw [q_nc1 h1]; decide
      · by_cases h2 : q_tp O B a
        · rw [q_nc2 h1 h2]; decide
        · exact absurd ⟨ha, h1, h2⟩ hv
    rw [if_neg e]
    apply ri_e
    exact (wI_0.mpr (fun m _ c => hv c.1)).symm
theorem Hi_commonOf {h : am_H} {y : Nat} {O : o_T} {B : Nat → Prop} (ok : o_ok O) (H : HiAt h y) (R : HiR h y O B) {a b : Nat} (ha : a < o_N O) (hb : b < o_N O) (d : Nat) : f_Hi_commonOf (d + 1) h y (nI a) (nI b) = some (.inr (some (.int (wI (fun n => (q_ab O B a n ∧ q_ab O B b n) ∧ ¬ ∃ q, (q_ab O B a q ∧ q_ab O B b q) ∧ q_ov O B q n)))), h) := by
  have hM := q_Mle O B
  have okN := ok.1
  have key : ∀ k, k ≤ q_M O B → ∀ w : Int32, w = wI (fun n => ∃ p, p < k ∧ ((q_ab O B a p ∧ q_ab O B b p) ∧ q_ov O B p n)) → f_Hi_commonOf_18 (d + 1) h y (wI (fun n => q_ab O B a n ∧ q_ab O B b n)) w (nI k) = some (.inr (some (.int (wI (fun n => (q_ab O B a n ∧ q_ab O B b n) ∧ ¬ ∃ q, (q_ab O B a q ∧ q_ab O B b q) ∧ q_ov O B q n)))), h) := by
    refine dn ?_ ?_
    · intro w hw
      rw [e_Hi_commonOf_18]
      simp (disch := first | assumption | omega) only [hc_ck, hc_gi, hc_gl, hc_gp, ap_I, ap_L, kd_I, kd_L, kd_P, kd_rI, ar_I, ar_L, ar_P, al_I, al_L, al_P, hop_s, cond_true, cond_false, pc_I_I, pc_L_L, pc_P_P, pc_I_L, pc_I_P, pc_L_I, pc_L_P, pc_P_I, pc_P_L, pc_sS_I, pc_sS_L, pc_sS_P, I_rI, L_rI, P_rI, S_rI, cv_r, ci_r, cl_r, o1_b, o1_0, o1_1, lc_e, nI_1, nI_add, if_true, if_false, Nat.reduceEqDiff, Nat.left_eq_add, Nat.add_eq_left, false_and, and_false, true_and, and_true, and_self, eq_self, Hi_k, R.1, n_le, Nat.le_refl]
      apply ri_e
      rw [hw]
      apply wI_of
      intro n hn
      rw [yi_and, yi_not _ hn, Bool.and_eq_true, wI_x, Bool.not_eq_true']
      rw [wI_f hn]
      exact ⟨fun c => ⟨c.1.2, fun ⟨p, e⟩ => c.2 ⟨p, e.2.1, e⟩⟩, fun c => ⟨⟨hn, c.1⟩, fun ⟨p, _, e⟩ => c.2 ⟨p, e⟩⟩⟩
    · intro k hk ih w hw
      have hk3 : ¬ q_M O B ≤ k := by omega
      rw [e_Hi_commonOf_18]
      simp (disch := first | assumption | omega) only [hc_ck, hc_gi, hc_gl, hc_gp, ap_I, ap_L, kd_I, kd_L, kd_P, kd_rI, ar_I, ar_L, ar_P, al_I, al_L, al_P, hop_s, cond_true, cond_false, pc_I_I, pc_L_L, pc_P_P, pc_I_L, pc_I_P, pc_L_I, pc_L_P, pc_P_I, pc_P_L, pc_sS_I, pc_sS_L, pc_sS_P, I_rI, L_rI, P_rI, S_rI, cv_r, ci_r, cl_r, o1_b, o1_0, o1_1, lc_e, nI_1, nI_add, if_true, if_false, Nat.reduceEqDiff, Nat.left_eq_add, Nat.add_eq_left, false_and, and_false, true_and, and_true, and_self, eq_self, Hi_k, R.1, n_le, hk3, yi_t0, Hi_p5, Hi_r4, (R.2.2.2 k hk).2.1]
      by_cases c : q_ab O B a k ∧ q_ab O B b k
      · simp only [yi_wt (P := fun n => q_ab O B a n ∧ q_ab O B b n) (show k < 32 by omega) c, Bool.true_eq_false, if_false]
        apply ih
        rw [hw]
        apply wk_sI
        intro n hn
        rw [wI_x]
        exact ⟨fun e => ⟨c, e.2⟩, fun e => ⟨hn, e.2⟩⟩
      · simp only [yi_wf (P := fun n => q_ab O B a n ∧ q_ab O B b n) (show k < 32 by omega) c, if_true]
        apply ih
        rw [hw]
        exact wk_nI (fun n _ e => c e.1)
  have e1 : wI (q_ab O B a) &&& wI (q_ab O B b) = wI (fun n => q_ab O B a n ∧ q_ab O B b n) := wI_of (fun n hn => by
    rw [yi_and, Bool.and_eq_true, wI_x, wI_x]
    exact ⟨fun c => ⟨c.1.2, c.2.2⟩, fun c => ⟨⟨hn, c.1⟩, ⟨hn, c.2⟩⟩⟩)
  rw [e_Hi_commonOf]
  simp (disch := first | assumption | omega) only [hc_ck, hc_gi, hc_gl, hc_gp, ap_I, ap_L, kd_I, kd_L, kd_P, kd_rI, ar_I, ar_L, ar_P, al_I, al_L, al_P, hop_s, cond_true, cond_false, pc_I_I, pc_L_L, pc_P_P, pc_I_L, pc_I_P, pc_L_I, pc_L_P, pc_P_I, pc_P_L, pc_sS_I, pc_sS_L, pc_sS_P, I_rI, L_rI, P_rI, S_rI, cv_r, ci_r, cl_r, o1_b, o1_0, o1_1, lc_e, nI_1, nI_add, if_true, if_false, Nat.reduceEqDiff, Nat.left_eq_add, Nat.add_eq_left, false_and, and_false, true_and, and_true, and_self, eq_self, Hi_k, Hi_nodesOver ok H R ha, Hi_nodesOver ok H R hb, e1]
  exact key 0 (Nat.zero_le _) 0 wk_0I.symm
