/-! ===== the reference: what a round reads ===== -/
def d_so (O : o_T) (A : Nat → Nat → Prop) (s y p : Nat) : Prop := p < o_P O ∧ o_pk O p = 4 ∧ o_pa O p = s ∧ A y (o_pb O p)
theorem Rf_laysSome {h : am_H} {f r : Nat} {O : o_T} (H : RfAt h f) (R : RwR h r O) {A : Nat → Nat → Prop} (hA : ∀ x, x < o_P O → am_L h (f + 6) x = wL (A x)) (d : Nat) : ∃ h', f_Rf_laysSome (d + 1) h f r = some (.inr none, h') ∧ fRL f 1452 1460 h h' ∧ ∀ s y, s < 8 → y < o_P O → am_L h' (f + 1452 + s) y = wL (d_so O A s y) := by
  have ok := R.2.1
  obtain ⟨-, ok2, ok3, ok4, ok5, -, -, okP, okA, -⟩ := ok
  -- second: part by part
  have key : ∀ k, k ≤ o_P O → ∀ u : am_H, fRL f 1452 1460 h u → (∀ s y, s < 8 → y < o_P O → am_L u (f + 1452 + s) y = wL (fun p => p < k ∧ d_so O A s y p)) → ∃ h', f_Rf_laysSome_40 (d + 1) u f r (nI k) = some (.inr none, h') ∧ fRL f 1452 1460 h h' ∧ ∀ s y, s < 8 → y < o_P O → am_L h' (f + 1452 + s) y = wL (d_so O A s y) := by
    refine dn ?_ ?_
    · intro u q hu
      have Ru := fRL_rw q R
      refine ⟨u, ?_, q, ?_⟩
      · rw [e_Rf_laysSome_40]
        simp (disch := first | assumption | omega) only [hc_ck, hc_gi, hc_gl, hc_gp, ap_I, ap_L, kd_I, kd_L, kd_P, kd_rI, ar_I, ar_L, ar_P, al_I, al_L, al_P, hop_s, cond_true, cond_false, pc_I_I, pc_L_L, pc_P_P, pc_I_L, pc_I_P, pc_L_I, pc_L_P, pc_P_I, pc_P_L, pc_sS_I, pc_sS_L, pc_sS_P, I_rI, L_rI, P_rI, S_rI, cv_r, ci_r, cl_r, o1_b, o1_0, o1_1, lc_e, nI_1, nI_add, if_true, if_false, Nat.reduceEqDiff, Nat.left_eq_add, Nat.add_eq_left, false_and, and_false, true_and, and_true, and_self, eq_self, n_2, Rw_ar, Rw_P, n_le, Nat.le_refl]
      · intro s y hs hy
        rw [hu s y hs hy]
        exact wL_cong (fun p _ => ⟨And.right, fun c => ⟨c.1, c⟩⟩)
    · intro k hk ih u q hu
      have Ru := fRL_rw q R
      have Hu := fRL_at q H
      have hk3 : ¬ o_P O ≤ k := by omega
      have okk := okP k hk
      unfold o_okP at okk
      rw [e_Rf_laysSome_40]
      simp (disch := first | assumption | omega) only [hc_ck, hc_gi, hc_gl, hc_gp, ap_I, ap_L, kd_I, kd_L, kd_P, kd_rI, ar_I, ar_L, ar_P, al_I, al_L, al_P, hop_s, cond_true, cond_false, pc_I_I, pc_L_L, pc_P_P, pc_I_L, pc_I_P, pc_L_I, pc_L_P, pc_P_I, pc_P_L, pc_sS_I, pc_sS_L, pc_sS_P, I_rI, L_rI, P_rI, S_rI, cv_r, ci_r, cl_r, o1_b, o1_0, o1_1, lc_e, nI_1, nI_add, if_true, if_false, Nat.reduceEqDiff, Nat.left_eq_add, Nat.add_eq_left, false_and, and_false, true_and, and_true, and_self, eq_self, n_2, Rw_ar, Rw_P, n_le, hk3, Rf_kindOf, n_4, n_eq]
      by_cases e4 : o_pk O k = 4
      · rw [if_pos e4]
        have f1 : o_pa O k < o_R O := by omega
        have f2 : o_pb O k < o_P O := by omega
        have inner : ∀ i, i ≤ o_P O → ∀ u : am_H, fRL f 1452 1460 h u → (∀ s y, s < 8 → y < o_P O → am_L u (f + 1452 + s) y = wL (fun p => (p < k ∨ (p = k ∧ y < i)) ∧ d_so O A s y p)) → ∃ h', f_Rf_laysSome_58 (d + 1) u f r (nI k) (nI i) = some (.inr none, h') ∧ fRL f 1452 1460 h h' ∧ ∀ s y, s < 8 → y < o_P O → am_L h' (f + 1452 + s) y = wL (d_so O A s y) := by
          refine dn ?_ ?_
          · intro u q hu
            have Ru := fRL_rw q R
            rw [e_Rf_laysSome_58]
            simp (disch := first | assumption | omega) only [hc_ck, hc_gi, hc_gl, hc_gp, ap_I, ap_L, kd_I, kd_L, kd_P, kd_rI, ar_I, ar_L, ar_P, al_I, al_L, al_P, hop_s, cond_true, cond_false, pc_I_I, pc_L_L, pc_P_P, pc_I_L, pc_I_P, pc_L_I, pc_L_P, pc_P_I, pc_P_L, pc_sS_I, pc_sS_L, pc_sS_P, I_rI, L_rI, P_rI, S_rI, cv_r, ci_r, cl_r, o1_b, o1_0, o1_1, lc_e, nI_1, nI_add, if_true, if_false, Nat.reduceEqDiff, Nat.left_eq_add, Nat.add_eq_left, false_and, and_false, true_and, and_true, and_self, eq_self, n_2, Rw_ar, Rw_P, n_le, Nat.le_refl]
            refine ih u q ?_
            intro s y hs hy
            rw [hu s y hs hy]
            exact wL_cong (fun p _ => ⟨fun c => ⟨by omega, c.2⟩, fun c => ⟨by omega, c.2⟩⟩)
          · intro i hi ih2 u q hu
            have Ru := fRL_rw q R
            have Hu := fRL_at q H
            have hi3 : ¬ o_P O ≤ i := by omega
            have eA : am_L u (f + 6) i = wL (A i) := (congrFun (fRL_e q (by omega)) i).trans (hA i hi)
            rw [e_Rf_laysSome_58]
            simp (disch := first | assumption | omega) only [hc_ck, hc_gi, hc_gl, hc_gp, ap_I, ap_L, kd_I, kd_L, kd_P, kd_rI, ar_I, ar_L, ar_P, al_I, al_L, al_P, hop_s, cond_true, cond_false, pc_I_I, pc_L_L, pc_P_P, pc_I_L, pc_I_P, pc_L_I, pc_L_P, pc_P_I, pc_P_L, pc_sS_I, pc_sS_L, pc_sS_P, I_rI, L_rI, P_rI, S_rI, cv_r, ci_r, cl_r, o1_b, o1_0, o1_1, lc_e, nI_1, nI_add, if_true, if_false, Nat.reduceEqDiff, Nat.left_eq_add, Nat.add_eq_left, false_and, and_false, true_and, and_true, and_self, eq_self, n_2, Rw_ar, Rw_P, n_le, hi3, Rf_k, Rf_p18, Rf_r6, Rf_otherOf, eA, Rf_has, bo_0, Rf_p23, Rf_oneOf, Rf_a1451, Rf_b1452]
            by_cases c : A i (o_pb O k)
            · simp only [show xl (wL (A i)) (o_pb O k) = true from wL_x.mpr ⟨by omega, c⟩, Bool.true_eq_false, if_false]
              refine ih2 _ (fRL_w q (by omega) (by omega) _ _) ?_
              intro s y hs hy
              rw [pc_L_L]
              by_cases e : s = o_pa O k ∧ y = i
              · obtain ⟨rfl, rfl⟩ := e
                rw [if_pos ⟨rfl, rfl⟩, hu _ _ hs hy]
                apply wL_of
                intro p hp
                rw [xl_or, Bool.or_eq_true, wL_x, xl_b1 (by omega), decide_eq_true_iff]
                constructor
                · rintro (⟨-, c1, c2⟩ | rfl)
                  · exact ⟨by omega, c2⟩
                  · exact ⟨by omega, hk, e4, rfl, c⟩
                · rintro ⟨c1, c2⟩
                  by_cases e : p = k
                  · exact Or.inr e
                  · exact Or.inl ⟨hp, by omega, c2⟩
              · rw [if_neg (by omega), hu s y hs hy]
                refine wL_cong (fun p _ => ⟨fun c => ⟨by omega, c.2⟩, fun c => ⟨?_, c.2⟩⟩)
                rcases c.1 with c1 | ⟨rfl, c1⟩
                · omega
                · have := c.2.2.2.1
                  omega
            · simp only [show xl (wL (A i)) (o_pb O k) = false from cast (wL_f (by omega)).symm c, if_true]
              refine ih2 u q ?_
              intro s y hs hy
              rw [hu s y hs hy]
              refine wL_cong (fun p _ => ⟨fun c => ⟨by omega, c.2⟩, fun c' => ⟨?_, c'.2⟩⟩)
              rcases c'.1 with c1 | ⟨rfl, c1⟩
              · omega
              · by_cases e : y = i
                · subst e
                  exact absurd c'.2.2.2.2 c
                · omega
        refine inner 0 (Nat.zero_le _) u q ?_
        intro s y hs hy
        rw [hu s y hs hy]
        exact wL_cong (fun p _ => ⟨fun c => ⟨by omega, c.2⟩, fun c => ⟨by omega, c.2⟩⟩)
      · rw [if_neg e4]
        refine ih u q ?_
        intro s y hs hy
        rw [hu s y hs hy]
        refine wL_cong (fun p _ => ⟨fun c => ⟨by omega, c.2⟩, fun c => ⟨?_, c.2⟩⟩)
        by_cases e : p = k
        · subst e
          exact absurd c.2.2.1 e4
        · omega
  -- first: empty rows
  have fst : ∀ i, i ≤ 8 → ∀ u : am_H, fRL f 1452 1460 h u → (∀ s y, s < i → y < o_P O → am_L u (f + 1452 + s) y = 0) → ∃ h', f_Rf_laysSome_2 (d + 1) u f r (nI i) = some (.inr none, h') ∧ fRL f 1452 1460 h h' ∧ ∀ s y, s < 8 → y < o_P O → am_L h' (f + 1452 + s) y = wL (d_so O A s y) := by
    refine dn ?_ ?_
    · intro u q hu
      rw [e_Rf_laysSome_2]
      simp (disch := first | assumption | omega) only [hc_ck, hc_gi, hc_gl, hc_gp, ap_I, ap_L, kd_I, kd_L, kd_P, kd_rI, ar_I, ar_L, ar_P, al_I, al_L, al_P, hop_s, cond_true, cond_false, pc_I_I, pc_L_L, pc_P_P, pc_I_L, pc_I_P, pc_L_I, pc_L_P, pc_P_I, pc_P_L, pc_sS_I, pc_sS_L, pc_sS_P, I_rI, L_rI, P_rI, S_rI, cv_r, ci_r, cl_r, o1_b, o1_0, o1_1, lc_e, nI_1, nI_add, if_true, if_false, Nat.reduceEqDiff, Nat.left_eq_add, Nat.add_eq_left, false_and, and_false, true_and, and_true, and_self, eq_self, n_8, n_le, Nat.le_refl]
      refine key 0 (Nat.zero_le _) u q ?_
      intro s y hs hy
      rw [hu s y hs hy]
      exact (wL_0.mpr (fun p _ c => absurd c.1 (Nat.not_lt_zero p))).symm
    · intro i hi ih u q hu
      have hi3 : ¬ 8 ≤ i := by omega
      have inner : ∀ k, k ≤ o_P O → ∀ u : am_H, fRL f 1452 1460 h u → (∀ s y, s < i → y < o_P O → am_L u (f + 1452 + s) y = 0) → (∀ y, y < k → am_L u (f + 1452 + i) y = 0) → ∃ h', f_Rf_laysSome_10 (d + 1) u f r (nI i) (nI k) = some (.inr none, h') ∧ fRL f 1452 1460 h h' ∧ ∀ s y, s < 8 → y < o_P O → am_L h' (f + 1452 + s) y = wL (d_so O A s y) := by
        refine dn ?_ ?_
        · intro u q hu hu2
          have Ru := fRL_rw q R
          rw [e_Rf_laysSome_10]
          simp (disch := first | assumption | omega) only [hc_ck, hc_gi, hc_gl, hc_gp, ap_I, ap_L, kd_I, kd_L, kd_P, kd_rI, ar_I, ar_L, ar_P, al_I, al_L, al_P, hop_s, cond_true, cond_false, pc_I_I, pc_L_L, pc_P_P, pc_I_L, pc_I_P, pc_L_I, pc_L_P, pc_P_I, pc_P_L, pc_sS_I, pc_sS_L, pc_sS_P, I_rI, L_rI, P_rI, S_rI, cv_r, ci_r, cl_r, o1_b, o1_0, o1_1, lc_e, nI_1, nI_add, if_true, if_false, Nat.reduceEqDiff, Nat.left_eq_add, Nat.add_eq_left, false_and, and_false, true_and, and_true, and_self, eq_self, n_2, Rw_ar, Rw_P, n_le, Nat.le_refl]
          refine ih u q ?_
          intro s y hs hy
          by_cases e : s = i
          · subst e; exact hu2 y hy
          · exact hu s y (by omega) hy
        · intro k hk ih2 u q hu hu2
          have Ru := fRL_rw q R
          have Hu := fRL_at q H
          have hk3 : ¬ o_P O ≤ k := by omega
          rw [e_Rf_laysSome_10]
          simp (disch := first | assumption | omega) only [hc_ck, hc_gi, hc_gl, hc_gp, ap_I, ap_L, kd_I, kd_L, kd_P, kd_rI, ar_I, ar_L, ar_P, al_I, al_L, al_P, hop_s, cond_true, cond_false, pc_I_I, pc_L_L, pc_P_P, pc_I_L, pc_I_P, pc_L_I, pc_L_P, pc_P_I, pc_P_L, pc_sS_I, pc_sS_L, pc_sS_P, I_rI, L_rI, P_rI, S_rI, cv_r, ci_r, cl_r, o1_b, o1_0, o1_1, lc_e, nI_1, nI_add, if_true, if_false, Nat.reduceEqDiff, Nat.left_eq_add, Nat.add_eq_left, false_and, and_false, true_and, and_true, and_self, eq_self, n_2, Rw_ar, Rw_P, n_le, hk3, Rf_k, Rf_p23, Rf_a1451, Rf_b1452]
          refine ih2 _ (fRL_w q (by omega) (by omega) _ _) ?_ ?_
          · intro s y hs hy
            rw [pc_L_L, if_neg (by omega)]
            exact hu s y hs hy
          · intro y hy
            rw [pc_L_L]
            by_cases e : y = k
            · rw [if_pos ⟨rfl, e⟩]
            · rw [if_neg (by omega)]
              exact hu2 y (by omega)
      rw [e_Rf_laysSome_2]
      simp (disch := first | assumption | omega) only [hc_ck, hc_gi, hc_gl, hc_gp, ap_I, ap_L, kd_I, kd_L, kd_P, kd_rI, ar_I, ar_L, ar_P, al_I, al_L, al_P, hop_s, cond_true, cond_false, pc_I_I, pc_L_L, pc_P_P, pc_I_L, pc_I_P, pc_L_I, pc_L_P, pc_P_I, pc_P_L, pc_sS_I, pc_sS_L, pc_sS_P, I_rI, L_rI, P_rI, S_rI, cv_r, ci_r, cl_r, o1_b, o1_0, o1_1, lc_e, nI_1, nI_add, if_true, if_false, Nat.reduceEqDiff, Nat.left_eq_add, Nat.add_eq_left, false_and, and_false, true_and, and_true, and_self, eq_self, n_8, n_le, hi3]
      exact inner 0 (Nat.zero_le _) u q hu (fun y hy => absurd hy (Nat.not_lt_zero y))
  rw [e_Rf_laysSome]
  exact fst 0 (Nat.zero_le _) h (fX_r _ _) (fun s y hs => absurd hs (Nat.not_lt_zero s))
theorem Rf_laysWider {h : am_H} {f r : Nat} {O : o_T} {B : Nat → Prop} (H : RfAt h f) (R : RwR h r O) (U : RfU h f O B) {K : Nat → Nat → Nat → Prop} (hK : ∀ x, x < o_P O → ∀ r, r < 8 → am_L h (f + 9 + x) r = wL (K x r)) (hR : ∀ x r y, K x r y → r < 8) (d : Nat) : ∃ h', f_Rf_laysWider (d + 1) h f r = some (.inr none, h') ∧ fRL f 971 1451 h h' ∧ ∀ x s, x < o_P O → s < 8 → am_L h' (f + 971 + x) s = wL (fun y => ∃ q, o_un O B q s ∧ K x q y) := by
  have ok4 := R.2.1.2.2.2.1
  have key : ∀ k, k ≤ o_P O → ∀ u : am_H, fRL f 971 1451 h u → (∀ x s, x < k → s < 8 → am_L u (f + 971 + x) s = wL (fun y => ∃ q, o_un O B q s ∧ K x q y)) → ∃ h', f_Rf_laysWider_2 (d + 1) u f r (nI k) = some (.inr none, h') ∧ fRL f 971 1451 h h' ∧ ∀ x s, x < o_P O → s < 8 → am_L h' (f + 971 + x) s = wL (fun y => ∃ q, o_un O B q s ∧ K x q y) := by
    refine dn ?_ ?_
    · intro u q hu
      have Ru := fRL_rw q R
      refine ⟨u, ?_, q, hu⟩
      rw [e_Rf_laysWider_2]
      simp (disch := first | assumption | omega) only [hc_ck, hc_gi, hc_gl, hc_gp, ap_I, ap_L, kd_I, kd_L, kd_P, kd_rI, ar_I, ar_L, ar_P, al_I, al_L, al_P, hop_s, cond_true, cond_false, pc_I_I, pc_L_L, pc_P_P, pc_I_L, pc_I_P, pc_L_I, pc_L_P, pc_P_I, pc_P_L, pc_sS_I, pc_sS_L, pc_sS_P, I_rI, L_rI, P_rI, S_rI, cv_r, ci_r, cl_r, o1_b, o1_0, o1_1, lc_e, nI_1, nI_add, if_true, if_false, Nat.reduceEqDiff, Nat.left_eq_add, Nat.add_eq_left, false_and, and_false, true_and, and_true, and_self, eq_self, n_2, Rw_ar, Rw_P, n_le, Nat.le_refl]
    · intro k hk ih u q hu
      have Ru := fRL_rw q R
      have hk3 : ¬ o_P O ≤ k := by omega
      have mid : ∀ i, i ≤ 8 → ∀ u : am_H, fRL f 971 1451 h u → (∀ x s, x < k → s < 8 → am_L u (f + 971 + x) s = wL (fun y => ∃ q, o_un O B q s ∧ K x q y)) → (∀ s, s < i → am_L u (f + 971 + k) s = wL (fun y => ∃ q, o_un O B q s ∧ K k q y)) → ∃ h', f_Rf_laysWider_11 (d + 1) u f r (nI k) (nI i) = some (.inr none, h') ∧ fRL f 971 1451 h h' ∧ ∀ x s, x < o_P O → s < 8 → am_L h' (f + 971 + x) s = wL (fun y => ∃ q, o_un O B q s ∧ K x q y) := by
        refine dn ?_ ?_
        · intro u q hu hu2
          rw [e_Rf_laysWider_11]
          simp (disch := first | assumption | omega) only [hc_ck, hc_gi, hc_gl, hc_gp, ap_I, ap_L, kd_I, kd_L, kd_P, kd_rI, ar_I, ar_L, ar_P, al_I, al_L, al_P, hop_s, cond_true, cond_false, pc_I_I, pc_L_L, pc_P_P, pc_I_L, pc_I_P, pc_L_I, pc_L_P, pc_P_I, pc_P_L, pc_sS_I, pc_sS_L, pc_sS_P, I_rI, L_rI, P_rI, S_rI, cv_r, ci_r, cl_r, o1_b, o1_0, o1_1, lc_e, nI_1, nI_add, if_true, if_false, Nat.reduceEqDiff, Nat.left_eq_add, Nat.add_eq_left, false_and, and_false, true_and, and_true, and_self, eq_self, n_8, n_le, Nat.le_refl]
          refine ih u q ?_
          intro x s hx hs
          by_cases e : x = k
          · subst e; exact hu2 s hs
          · exact hu x s (by omega) hs
        · intro i hi ih2 u q hu hu2
          have Hu := fRL_at q H
          have hi3 : ¬ 8 ≤ i := by omega
          have inner : ∀ j, j ≤ 8 → ∀ u : am_H, fRL f 971 1451 h u → (∀ x s, x < k → s < 8 → am_L u (f + 971 + x) s = wL (fun y => ∃ q, o_un O B q s ∧ K x q y)) → (∀ s, s < i → am_L u (f + 971 + k) s = wL (fun y => ∃ q, o_un O B q s ∧ K k q y)) → am_L u (f + 971 + k) i = wL (fun y => ∃ q, q < j ∧ (o_un O B q i ∧ K k q y)) → ∃ h', f_Rf_laysWider_29 (d + 1) u f r (nI k) (nI i) (nI j) = some (.inr none, h') ∧ fRL f 971 1451 h h' ∧ ∀ x s, x < o_P O → s < 8 → am_L h' (f + 971 + x) s = wL (fun y => ∃ q, o_un O B q s ∧ K x q y) := by
            refine dn ?_ ?_
            · intro u q hu hu2 hu3
              rw [e_Rf_laysWider_29]
              simp (disch := first | assumption | omega) only [hc_ck, hc_gi, hc_gl, hc_gp, ap_I, ap_L, kd_I, kd_L, kd_P, kd_rI, ar_I, ar_L, ar_P, al_I, al_L, al_P, hop_s, cond_true, cond_false, pc_I_I, pc_L_L, pc_P_P, pc_I_L, pc_I_P, pc_L_I, pc_L_P, pc_P_I, pc_P_L, pc_sS_I, pc_sS_L, pc_sS_P, I_rI, L_rI, P_rI, S_rI, cv_r, ci_r, cl_r, o1_b, o1_0, o1_1, lc_e, nI_1, nI_add, if_true, if_false, Nat.reduceEqDiff, Nat.left_eq_add, Nat.add_eq_left, false_and, and_false, true_and, and_true, and_self, eq_self, n_8, n_le, Nat.le_refl]
              refine ih2 u q hu ?_
              intro s hs
              by_cases e : s = i
              · subst e
                rw [hu3]
                exact wL_cong (fun y _ => ⟨fun ⟨p, _, c⟩ => ⟨p, c⟩, fun ⟨p, c⟩ => ⟨p, hR _ _ _ c.2, c⟩⟩)
              · exact hu2 s (by omega)
            · intro j hj ih3 u q hu hu2 hu3
              have Hu := fRL_at q H
              have hj3 : ¬ 8 ≤ j := by omega
              have eu : am_I u (f + 1460) j = wI (o_un O B j) := by rw [q.1]; exact U j hj
              have ek : am_L u (f + 9 + k) j = wL (K k j) := (congrFun (fRL_e q (by omega)) j).trans (hK k hk j hj)
              rw [e_Rf_laysWider_29]
              simp (disch := first | assumption | omega) only [hc_ck, hc_gi, hc_gl, hc_gp, ap_I, ap_L, kd_I, kd_L, kd_P, kd_rI, ar_I, ar_L, ar_P, al_I, al_L, al_P, hop_s, cond_true, cond_false, pc_I_I, pc_L_L, pc_P_P, pc_I_L, pc_I_P, pc_L_I, pc_L_P, pc_P_I, pc_P_L, pc_sS_I, pc_sS_L, pc_sS_P, I_rI, L_rI, P_rI, S_rI, cv_r, ci_r, cl_r, o1_b, o1_0, o1_1, lc_e, nI_1, nI_add, if_true, if_false, Nat.reduceEqDiff, Nat.left_eq_add, Nat.add_eq_left, false_and, and_false, true_and, and_true, and_self, eq_self, n_8, n_le, hj3, Rf_k, Rf_p24, Rf_r1460, eu, Rf_hasI, bo_0, Rf_p22, Rf_a970, Rf_b971, Rf_p20, Rf_a8, Rf_b9, ek, hu3]
              by_cases c : o_un O B j i
              · simp only [show yi (wI (o_un O B j)) i = true from wI_x.mpr ⟨by omega, c⟩, Bool.true_eq_false, if_false]
                refine ih3 _ (fRL_w q (by omega) (by omega) _ _) ?_ ?_ ?_
                · intro x s hx hs
                  rw [pc_L_L, if_neg (by omega)]; exact hu x s hx hs
                · intro s hs
                  rw [pc_L_L, if_neg (by omega)]; exact hu2 s hs
                · rw [pc_L_L, if_pos ⟨rfl, rfl⟩]
                  apply wk_s
                  intro y hy
                  rw [wL_x]
                  exact ⟨fun e => ⟨c, e.2⟩, fun e => ⟨hy, e.2⟩⟩
              · simp only [show yi (wI (o_un O B j)) i = false from cast (wI_f (by omega)).symm c, if_true]
                refine ih3 u q hu hu2 ?_
                rw [hu3]
                exact wk_n (fun y _ e => c e.1)
          rw [e_Rf_laysWider_11]
          simp (disch := first | assumption | omega) only [hc_ck, hc_gi, hc_gl, hc_gp, ap_I, ap_L, kd_I, kd_L, kd_P, kd_rI, ar_I, ar_L, ar_P, al_I, al_L, al_P, hop_s, cond_true, cond_false, pc_I_I, pc_L_L, pc_P_P, pc_I_L, pc_I_P, pc_L_I, pc_L_P, pc_P_I, pc_P_L, pc_sS_I, pc_sS_L, pc_sS_P, I_rI, L_rI, P_rI, S_rI, cv_r, ci_r, cl_r, o1_b, o1_0, o1_1, lc_e, nI_1, nI_add, if_true, if_false, Nat.reduceEqDiff, Nat.left_eq_add, Nat.add_eq_left, false_and, and_false, true_and, and_true, and_self, eq_self, n_8, n_le, hi3, Rf_k, Rf_p22, Rf_a970, Rf_b971]
          refine inner 0 (Nat.zero_le _) _ (fRL_w q (by omega) (by omega) _ _) ?_ ?_ ?_
          · intro x s hx hs
            rw [pc_L_L, if_neg (by omega)]; exact hu x s hx hs
          · intro s hs
            rw [pc_L_L, if_neg (by omega)]; exact hu2 s hs
          · rw [pc_L_L, if_pos ⟨rfl, rfl⟩]
            exact wk_0.symm
      rw [e_Rf_laysWider_2]
      simp (disch := first | assumption | omega) only [hc_ck, hc_gi, hc_gl, hc_gp, ap_I, ap_L, kd_I, kd_L, kd_P, kd_rI, ar_I, ar_L, ar_P, al_I, al_L, al_P, hop_s, cond_true, cond_false, pc_I_I, pc_L_L, pc_P_P, pc_I_L, pc_I_P, pc_L_I, pc_L_P, pc_P_I, pc_P_L, pc_sS_I, pc_sS_L, pc_sS_P, I_rI, L_rI, P_rI, S_rI, cv_r, ci_r, cl_r, o1_b, o1_0, o1_1, lc_e, nI_1, nI_add, if_true, if_false, Nat.reduceEqDiff, Nat.left_eq_add, Nat.add_eq_left, false_and, and_false, true_and, and_true, and_self, eq_self, n_2, Rw_ar, Rw_P, n_le, hk3]
      exact mid 0 (Nat.zero_le _) u q hu (fun s hs => absurd hs (Nat.not_lt_zero s))
  rw [e_Rf_laysWider]
  exact key 0 (Nat.zero_le _) h (fX_r _ _) (fun x s hx => absurd hx (Nat.not_lt_zero x))
