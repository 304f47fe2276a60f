/-! ===== the reference: how the nodes lie ===== -/
theorem Rf_nodes436 {h : am_H} {f : Nat} {O : o_T} {B : Nat → Prop} (ok : o_ok O) (H : RfAt h f) (h34 : am_I h f 34 = nI (q_M O B)) (h26 : ∀ n, n < q_M O B → am_I h (f + 1526) n = wI (q_pa O B n)) (h28 : ∀ n, n < q_M O B → am_I h (f + 1528) n = nI 1) (d : Nat) :
    ∃ h', f_Rf_laysNodes_436 (d + 1) h f 0 = some (.inr none, h') ∧ fJ (f + 1528) (f + 1529) h h' ∧ (∀ n, n < q_M O B → am_I h' (f + 1528) n = nI (q_de O B n)) := by
  have hM := q_Mle O B
  have okN := ok.1
  have hM24 : q_M O B ≤ 24 := by omega
  have at_ : ∀ u : am_H, fJ (f + 1528) (f + 1529) h u → RfAt u f ∧ am_I u f 34 = nI (q_M O B) ∧ ∀ n, n < q_M O B → am_I u (f + 1526) n = wI (q_pa O B n) := by
    intro u q
    refine ⟨RfAt_of H q.2.2.1 (fun b _ _ => by rw [q.2.1]), ?_, ?_⟩
    · rw [q.2.2.2.2.2 f (by omega)]; exact h34
    · rw [q.2.2.2.2.2 (f + 1526) (by omega)]; exact h26
  have key : ∀ p, p ≤ q_M O B → ∀ u : am_H, fJ (f + 1528) (f + 1529) h u → (∀ i, i < q_M O B → am_I u (f + 1528) i = nI (h_dP (q_pa O B) (q_M O B) p (fun _ => 1) i)) → ∃ h', f_Rf_laysNodes_436 (d + 1) u f (nI p) = some (.inr none, h') ∧ fJ (f + 1528) (f + 1529) h h' ∧ (∀ n, n < q_M O B → am_I h' (f + 1528) n = nI (q_de O B n)) := by
    refine dn ?_ ?_
    · intro u q hu
      obtain ⟨Hu, e0, -⟩ := at_ u q
      refine ⟨u, ?_, q, hu⟩
      rw [e_Rf_laysNodes_436]
      simp (disch := first | assumption | omega) only [hc_ck, hc_gi, hc_gl, hc_gp, ap_I, ap_L, kd_I, kd_L, kd_P, kd_rI, ar_I, ar_L, ar_P, al_I, al_L, al_P, hop_s, cond_true, cond_false, pc_I_I, pc_L_L, pc_P_P, pc_I_L, pc_I_P, pc_L_I, pc_L_P, pc_P_I, pc_P_L, pc_sS_I, pc_sS_L, pc_sS_P, I_rI, L_rI, P_rI, S_rI, cv_r, ci_r, cl_r, o1_b, o1_0, o1_1, lc_e, nI_1, nI_add, if_true, if_false, Nat.reduceEqDiff, Nat.left_eq_add, Nat.add_eq_left, false_and, and_false, true_and, and_true, and_self, eq_self, Rf_k, e0, n_le, Nat.le_refl]
    · intro p hp ih u q hu
      obtain ⟨Hu, e0, -⟩ := at_ u q
      have hp3 : ¬ q_M O B ≤ p := by omega
      have mid : ∀ a, a ≤ q_M O B → ∀ u : am_H, fJ (f + 1528) (f + 1529) h u → (∀ i, i < q_M O B → am_I u (f + 1528) i = nI (h_dN (q_pa O B) (q_M O B) a (h_dP (q_pa O B) (q_M O B) p (fun _ => 1)) i)) → ∃ h', f_Rf_laysNodes_446 (d + 1) u f (nI p) (nI a) = some (.inr none, h') ∧ fJ (f + 1528) (f + 1529) h h' ∧ (∀ n, n < q_M O B → am_I h' (f + 1528) n = nI (q_de O B n)) := by
        refine dn ?_ ?_
        · intro u q hu
          obtain ⟨Hu, e0, -⟩ := at_ u q
          rw [e_Rf_laysNodes_446]
          simp (disch := first | assumption | omega) only [hc_ck, hc_gi, hc_gl, hc_gp, ap_I, ap_L, kd_I, kd_L, kd_P, kd_rI, ar_I, ar_L, ar_P, al_I, al_L, al_P, hop_s, cond_true, cond_false, pc_I_I, pc_L_L, pc_P_P, pc_I_L, pc_I_P, pc_L_I, pc_L_P, pc_P_I, pc_P_L, pc_sS_I, pc_sS_L, pc_sS_P, I_rI, L_rI, P_rI, S_rI, cv_r, ci_r, cl_r, o1_b, o1_0, o1_1, lc_e, nI_1, nI_add, if_true, if_false, Nat.reduceEqDiff, Nat.left_eq_add, Nat.add_eq_left, false_and, and_false, true_and, and_true, and_self, eq_self, Rf_k, e0, n_le, Nat.le_refl]
          exact ih u q hu
        · intro a ha ih2 u q hu
          obtain ⟨Hu, e0, -⟩ := at_ u q
          have ha3 : ¬ q_M O B ≤ a := by omega
          have inner : ∀ b, b ≤ q_M O B → ∀ u : am_H, fJ (f + 1528) (f + 1529) h u → (∀ i, i < q_M O B → am_I u (f + 1528) i = nI (h_dM (q_pa O B) a b (h_dN (q_pa O B) (q_M O B) a (h_dP (q_pa O B) (q_M O B) p (fun _ => 1))) i)) → ∃ h', f_Rf_laysNodes_456 (d + 1) u f (nI p) (nI a) (nI b) = some (.inr none, h') ∧ fJ (f + 1528) (f + 1529) h h' ∧ (∀ n, n < q_M O B → am_I h' (f + 1528) n = nI (q_de O B n)) := by
            refine dn ?_ ?_
            · intro u q hu
              obtain ⟨Hu, e0, -⟩ := at_ u q
              rw [e_Rf_laysNodes_456]
              simp (disch := first | assumption | omega) only [hc_ck, hc_gi, hc_gl, hc_gp, ap_I, ap_L, kd_I, kd_L, kd_P, kd_rI, ar_I, ar_L, ar_P, al_I, al_L, al_P, hop_s, cond_true, cond_false, pc_I_I, pc_L_L, pc_P_P, pc_I_L, pc_I_P, pc_L_I, pc_L_P, pc_P_I, pc_P_L, pc_sS_I, pc_sS_L, pc_sS_P, I_rI, L_rI, P_rI, S_rI, cv_r, ci_r, cl_r, o1_b, o1_0, o1_1, lc_e, nI_1, nI_add, if_true, if_false, Nat.reduceEqDiff, Nat.left_eq_add, Nat.add_eq_left, false_and, and_false, true_and, and_true, and_self, eq_self, Rf_k, e0, n_le, Nat.le_refl]
              exact ih2 u q hu
            · intro b hb ih3 u q hu
              obtain ⟨Hu, e0, e26⟩ := at_ u q
              have hb3 : ¬ q_M O B ≤ b := by omega
              have bnd : ∀ i, h_dM (q_pa O B) a b (h_dN (q_pa O B) (q_M O B) a (h_dP (q_pa O B) (q_M O B) p (fun _ => 1))) i ≤ 20000 := fun i => Nat.le_trans (h_dMb (h_dNb (h_dPb (fun _ => Nat.le_refl 1) p) a) b i) (h_dlim hM24 (by omega) (by omega) (by omega))
              have hstep : ∀ i, h_dM (q_pa O B) a (b + 1) (h_dN (q_pa O B) (q_M O B) a (h_dP (q_pa O B) (q_M O B) p (fun _ => 1))) i = h_d1 (q_pa O B) a b (h_dM (q_pa O B) a b (h_dN (q_pa O B) (q_M O B) a (h_dP (q_pa O B) (q_M O B) p (fun _ => 1)))) i := fun _ => rfl
              generalize h_dM (q_pa O B) a b (h_dN (q_pa O B) (q_M O B) a (h_dP (q_pa O B) (q_M O B) p (fun _ => 1))) = v at *
              have ba := bnd a
              have bb := bnd b
              rw [e_Rf_laysNodes_456]
              simp (disch := first | assumption | omega) only [hc_ck, hc_gi, hc_gl, hc_gp, ap_I, ap_L, kd_I, kd_L, kd_P, kd_rI, ar_I, ar_L, ar_P, al_I, al_L, al_P, hop_s, cond_true, cond_false, pc_I_I, pc_L_L, pc_P_P, pc_I_L, pc_I_P, pc_L_I, pc_L_P, pc_P_I, pc_P_L, pc_sS_I, pc_sS_L, pc_sS_P, I_rI, L_rI, P_rI, S_rI, cv_r, ci_r, cl_r, o1_b, o1_0, o1_1, lc_e, nI_1, nI_add, if_true, if_false, Nat.reduceEqDiff, Nat.left_eq_add, Nat.add_eq_left, false_and, and_false, true_and, and_true, and_self, eq_self, Rf_k, e0, n_le, hb3, Rf_p31, Rf_r1526, e26 a ha, Rf_hasI, bo_0, Rf_p33, Rf_r1528, hu a ha, hu b hb, e_Rf_more]
              by_cases c : q_pa O B a b
              · simp only [yi_wt (show b < 32 by omega) c, Bool.true_eq_false, if_false]
                by_cases c2 : v a ≤ v b + 1
                · simp (disch := first | assumption | omega) only [hc_ck, hc_gi, hc_gl, hc_gp, ap_I, ap_L, kd_I, kd_L, kd_P, kd_rI, ar_I, ar_L, ar_P, al_I, al_L, al_P, hop_s, cond_true, cond_false, pc_I_I, pc_L_L, pc_P_P, pc_I_L, pc_I_P, pc_L_I, pc_L_P, pc_P_I, pc_P_L, pc_sS_I, pc_sS_L, pc_sS_P, I_rI, L_rI, P_rI, S_rI, cv_r, ci_r, cl_r, o1_b, o1_0, o1_1, lc_e, nI_1, nI_add, if_true, if_false, Nat.reduceEqDiff, Nat.left_eq_add, Nat.add_eq_left, false_and, and_false, true_and, and_true, and_self, eq_self, if_pos c2, Rf_r1528]
                  refine ih3 _ (fJ_w q (by omega) (by omega) _ _) ?_
                  intro i hi
                  rw [hstep, pc_I_I]
                  unfold h_d1
                  by_cases e : i = a
                  · rw [if_pos ⟨rfl, e⟩]
                    by_cases c3 : v a ≤ v b
                    · rw [if_pos ⟨c, e, c3⟩]
                    · rw [if_neg (fun q => c3 q.2.2), e]
                      have : v a = v b + 1 := by omega
                      rw [this]
                  · rw [if_neg (by omega), if_neg (fun q => e q.2.1)]
                    exact hu i hi
                · simp (disch := first | assumption | omega) only [hc_ck, hc_gi, hc_gl, hc_gp, ap_I, ap_L, kd_I, kd_L, kd_P, kd_rI, ar_I, ar_L, ar_P, al_I, al_L, al_P, hop_s, cond_true, cond_false, pc_I_I, pc_L_L, pc_P_P, pc_I_L, pc_I_P, pc_L_I, pc_L_P, pc_P_I, pc_P_L, pc_sS_I, pc_sS_L, pc_sS_P, I_rI, L_rI, P_rI, S_rI, cv_r, ci_r, cl_r, o1_b, o1_0, o1_1, lc_e, nI_1, nI_add, if_true, if_false, Nat.reduceEqDiff, Nat.left_eq_add, Nat.add_eq_left, false_and, and_false, true_and, and_true, and_self, eq_self, if_neg c2, Rf_r1528]
                  refine ih3 _ (fJ_w q (by omega) (by omega) _ _) ?_
                  intro i hi
                  rw [hstep, pc_I_I]
                  unfold h_d1
                  by_cases e : i = a
                  · rw [if_pos ⟨rfl, e⟩, if_neg (fun q => c2 (Nat.le_succ_of_le q.2.2)), e]
                  · rw [if_neg (by omega), if_neg (fun q => e q.2.1)]
                    exact hu i hi
              · simp only [yi_wf (show b < 32 by omega) c, if_true]
                refine ih3 u q ?_
                intro i hi
                rw [hstep, hu i hi]
                unfold h_d1
                rw [if_neg (fun e => c e.1)]
          rw [e_Rf_laysNodes_446]
          simp (disch := first | assumption | omega) only [hc_ck, hc_gi, hc_gl, hc_gp, ap_I, ap_L, kd_I, kd_L, kd_P, kd_rI, ar_I, ar_L, ar_P, al_I, al_L, al_P, hop_s, cond_true, cond_false, pc_I_I, pc_L_L, pc_P_P, pc_I_L, pc_I_P, pc_L_I, pc_L_P, pc_P_I, pc_P_L, pc_sS_I, pc_sS_L, pc_sS_P, I_rI, L_rI, P_rI, S_rI, cv_r, ci_r, cl_r, o1_b, o1_0, o1_1, lc_e, nI_1, nI_add, if_true, if_false, Nat.reduceEqDiff, Nat.left_eq_add, Nat.add_eq_left, false_and, and_false, true_and, and_true, and_self, eq_self, Rf_k, e0, n_le, ha3]
          exact inner 0 (Nat.zero_le _) u q hu
      rw [e_Rf_laysNodes_436]
      simp (disch := first | assumption | omega) only [hc_ck, hc_gi, hc_gl, hc_gp, ap_I, ap_L, kd_I, kd_L, kd_P, kd_rI, ar_I, ar_L, ar_P, al_I, al_L, al_P, hop_s, cond_true, cond_false, pc_I_I, pc_L_L, pc_P_P, pc_I_L, pc_I_P, pc_L_I, pc_L_P, pc_P_I, pc_P_L, pc_sS_I, pc_sS_L, pc_sS_P, I_rI, L_rI, P_rI, S_rI, cv_r, ci_r, cl_r, o1_b, o1_0, o1_1, lc_e, nI_1, nI_add, if_true, if_false, Nat.reduceEqDiff, Nat.left_eq_add, Nat.add_eq_left, false_and, and_false, true_and, and_true, and_self, eq_self, Rf_k, e0, n_le, hp3]
      exact mid 0 (Nat.zero_le _) u q hu
  exact key 0 (Nat.zero_le _) h (fJ_r _ _ _) h28
theorem Rf_nodes413 {h : am_H} {f : Nat} {O : o_T} {B : Nat → Prop} (ok : o_ok O) (H : RfAt h f) (h34 : am_I h f 34 = nI (q_M O B)) (h26 : ∀ n, n < q_M O B → am_I h (f + 1526) n = wI (q_pa O B n)) (d : Nat) :
    ∃ h', f_Rf_laysNodes_413 (d + 1) h f 0 = some (.inr none, h') ∧ fJ (f + 1528) (f + 1529) h h' ∧ (∀ n, n < q_M O B → am_I h' (f + 1528) n = nI (q_de O B n)) := by
  have hM := q_Mle O B
  have okN := ok.1
  have key : ∀ k, k ≤ q_M O B → ∀ u : am_H, fJ (f + 1528) (f + 1529) h u → (∀ i, i < k → am_I u (f + 1528) i = nI 1) → ∃ h', f_Rf_laysNodes_413 (d + 1) u f (nI k) = some (.inr none, h') ∧ fJ (f + 1528) (f + 1529) h h' ∧ (∀ n, n < q_M O B → am_I h' (f + 1528) n = nI (q_de O B n)) := by
    refine dn ?_ ?_
    · intro u q hu
      have Hu : RfAt u f := RfAt_of H q.2.2.1 (fun b _ _ => by rw [q.2.1])
      have e0 : am_I u f 34 = nI (q_M O B) := by rw [q.2.2.2.2.2 f (by omega)]; exact h34
      obtain ⟨v, ev, qv, hv⟩ := Rf_nodes436 ok Hu e0 (by rw [q.2.2.2.2.2 (f + 1526) (by omega)]; exact h26) hu d
      rw [e_Rf_laysNodes_413]
      simp (disch := first | assumption | omega) only [hc_ck, hc_gi, hc_gl, hc_gp, ap_I, ap_L, kd_I, kd_L, kd_P, kd_rI, ar_I, ar_L, ar_P, al_I, al_L, al_P, hop_s, cond_true, cond_false, pc_I_I, pc_L_L, pc_P_P, pc_I_L, pc_I_P, pc_L_I, pc_L_P, pc_P_I, pc_P_L, pc_sS_I, pc_sS_L, pc_sS_P, I_rI, L_rI, P_rI, S_rI, cv_r, ci_r, cl_r, o1_b, o1_0, o1_1, lc_e, nI_1, nI_add, if_true, if_false, Nat.reduceEqDiff, Nat.left_eq_add, Nat.add_eq_left, false_and, and_false, true_and, and_true, and_self, eq_self, Rf_k, e0, n_le, Nat.le_refl]
      exact ⟨v, ev, fJ_t q qv, hv⟩
    · intro k hk ih u q hu
      have Hu : RfAt u f := RfAt_of H q.2.2.1 (fun b _ _ => by rw [q.2.1])
      have e0 : am_I u f 34 = nI (q_M O B) := by rw [q.2.2.2.2.2 f (by omega)]; exact h34
      have hk3 : ¬ q_M O B ≤ k := by omega
      rw [e_Rf_laysNodes_413]
      simp (disch := first | assumption | omega) only [hc_ck, hc_gi, hc_gl, hc_gp, ap_I, ap_L, kd_I, kd_L, kd_P, kd_rI, ar_I, ar_L, ar_P, al_I, al_L, al_P, hop_s, cond_true, cond_false, pc_I_I, pc_L_L, pc_P_P, pc_I_L, pc_I_P, pc_L_I, pc_L_P, pc_P_I, pc_P_L, pc_sS_I, pc_sS_L, pc_sS_P, I_rI, L_rI, P_rI, S_rI, cv_r, ci_r, cl_r, o1_b, o1_0, o1_1, lc_e, nI_1, nI_add, if_true, if_false, Nat.reduceEqDiff, Nat.left_eq_add, Nat.add_eq_left, false_and, and_false, true_and, and_true, and_self, eq_self, Rf_k, e0, n_le, hk3, Rf_p33, Rf_r1528]
      refine ih _ (fJ_w q (by omega) (by omega) _ _) ?_
      intro i hi
      rw [pc_I_I]
      by_cases e : i = k
      · rw [if_pos ⟨rfl, e⟩]; rfl
      · rw [if_neg (by omega)]
        exact hu i (by omega)
  exact key 0 (Nat.zero_le _) h (fJ_r _ _ _) (fun i hi => absurd hi (Nat.not_lt_zero i))
theorem wI_a0 {P Q : Nat → Prop} : (wI P &&& wI Q = 0) = ¬ ∃ k, k < 32 ∧ P k ∧ Q k := by
  apply propext
  rw [yi_eq0]
  constructor
  · rintro h ⟨k, hk, p, q⟩
    have := h k hk
    rw [yi_and, wI_x.mpr ⟨hk, p⟩, wI_x.mpr ⟨hk, q⟩] at this
    cases this
  · intro h k hk
    rw [yi_and]
    cases e1 : yi (wI P) k
    · rfl
    · cases e2 : yi (wI Q) k
      · rfl
      · exact absurd ⟨k, hk, (wI_x.mp e1).2, (wI_x.mp e2).2⟩ h
/-- one bit more -/
theorem wI_put {P Q : Nat → Prop} {m : Nat} (hm : m < 32) (h : ∀ k, k < 32 → (Q k ↔ P k ∨ k = m)) : wI P ||| am_ishl 1 (nI m) = wI Q := wI_of (fun k hk => by
  rw [yi_or, Bool.or_eq_true, wI_x, yi_b1 hm, decide_eq_true_iff, h k hk]
  exact ⟨fun c => c.imp And.right id, fun c => c.imp (fun e => ⟨hk, e⟩) id⟩)
theorem Rf_nodes324 {h : am_H} {f : Nat} {O : o_T} {B : Nat → Prop} (ok : o_ok O) (H : RfAt h f) (h34 : am_I h f 34 = nI (q_M O B)) (h24 : ∀ n, n < q_M O B → am_I h (f + 1524) n = wI (q_ov O B n)) (h25 : ∀ n, n < q_M O B → am_I h (f + 1525) n = wI (fun m => q_ov O B m n)) (h26 : ∀ n, n < q_M O B → am_I h (f + 1526) n = 0) (h27 : ∀ n, n < q_M O B → am_I h (f + 1527) n = 0) (d : Nat) :
    ∃ h', f_Rf_laysNodes_324 (d + 1) h f 0 = some (.inr none, h') ∧ fJ (f + 1526) (f + 1529) h h' ∧ (∀ n, n < q_M O B → am_I h' (f + 1526) n = wI (q_pa O B n) ∧ am_I h' (f + 1527) n = wI (fun m => q_pa O B m n) ∧ am_I h' (f + 1528) n = nI (q_de O B n)) := by
  have hM := q_Mle O B
  have okN := ok.1
  have at_ : ∀ u : am_H, fJ (f + 1526) (f + 1529) h u → RfAt u f ∧ am_I u f 34 = nI (q_M O B) ∧ (∀ n, n < q_M O B → am_I u (f + 1524) n = wI (q_ov O B n)) ∧ (∀ n, n < q_M O B → am_I u (f + 1525) n = wI (fun m => q_ov O B m n)) := by
    intro u q
    refine ⟨RfAt_of H q.2.2.1 (fun b _ _ => by rw [q.2.1]), ?_, ?_, ?_⟩
    · rw [q.2.2.2.2.2 f (by omega)]; exact h34
    · rw [q.2.2.2.2.2 (f + 1524) (by omega)]; exact h24
    · rw [q.2.2.2.2.2 (f + 1525) (by omega)]; exact h25
  have key : ∀ k, k ≤ q_M O B → ∀ u : am_H, fJ (f + 1526) (f + 1529) h u → (∀ n, n < q_M O B → am_I u (f + 1526) n = wI (fun m => n < k ∧ q_pa O B n m)) → (∀ n, n < q_M O B → am_I u (f + 1527) n = wI (fun m => m < k ∧ q_pa O B m n)) → ∃ h', f_Rf_laysNodes_324 (d + 1) u f (nI k) = some (.inr none, h') ∧ fJ (f + 1526) (f + 1529) h h' ∧ (∀ n, n < q_M O B → am_I h' (f + 1526) n = wI (q_pa O B n) ∧ am_I h' (f + 1527) n = wI (fun m => q_pa O B m n) ∧ am_I h' (f + 1528) n = nI (q_de O B n)) := by
    refine dn ?_ ?_
    · intro u q a1 a2
      obtain ⟨Hu, e0, e24, e25⟩ := at_ u q
      have a1' : ∀ n, n < q_M O B → am_I u (f + 1526) n = wI (q_pa O B n) := fun n hn => (a1 n hn).trans (wI_cong (fun m _ => ⟨And.right, fun c => ⟨hn, c⟩⟩))
      obtain ⟨v, ev, qv, hv⟩ := Rf_nodes413 ok Hu e0 a1' d
      rw [e_Rf_laysNodes_324]
      simp (disch := first | assumption | omega) only [hc_ck, hc_gi, hc_gl, hc_gp, ap_I, ap_L, kd_I, kd_L, kd_P, kd_rI, ar_I, ar_L, ar_P, al_I, al_L, al_P, hop_s, cond_true, cond_false, pc_I_I, pc_L_L, pc_P_P, pc_I_L, pc_I_P, pc_L_I, pc_L_P, pc_P_I, pc_P_L, pc_sS_I, pc_sS_L, pc_sS_P, I_rI, L_rI, P_rI, S_rI, cv_r, ci_r, cl_r, o1_b, o1_0, o1_1, lc_e, nI_1, nI_add, if_true, if_false, Nat.reduceEqDiff, Nat.left_eq_add, Nat.add_eq_left, false_and, and_false, true_and, and_true, and_self, eq_self, Rf_k, e0, n_le, Nat.le_refl]
      refine ⟨v, ev, fJ_t q (fJ_m qv (by omega) (by omega)), fun n hn => ⟨?_, ?_, hv n hn⟩⟩
      · rw [qv.2.2.2.2.2 (f + 1526) (by omega)]; exact a1' n hn
      · rw [qv.2.2.2.2.2 (f + 1527) (by omega), a2 n hn]
        exact wI_cong (fun m _ => ⟨And.right, fun c => ⟨c.1.1, c⟩⟩)
    · intro k hk ih u q a1 a2
      obtain ⟨Hu, e0, -, -⟩ := at_ u q
      have hk3 : ¬ q_M O B ≤ k := by omega
      have inner : ∀ i, i ≤ q_M O B → ∀ u : am_H, fJ (f + 1526) (f + 1529) h u → (∀ n, n < q_M O B → am_I u (f + 1526) n = wI (fun m => (n < k ∨ (n = k ∧ m < i)) ∧ q_pa O B n m)) → (∀ n, n < q_M O B → am_I u (f + 1527) n = wI (fun m => (m < k ∨ (m = k ∧ n < i)) ∧ q_pa O B m n)) → ∃ h', f_Rf_laysNodes_334 (d + 1) u f (nI k) (nI i) = some (.inr none, h') ∧ fJ (f + 1526) (f + 1529) h h' ∧ (∀ n, n < q_M O B → am_I h' (f + 1526) n = wI (q_pa O B n) ∧ am_I h' (f + 1527) n = wI (fun m => q_pa O B m n) ∧ am_I h' (f + 1528) n = nI (q_de O B n)) := by
        refine dn ?_ ?_
        · intro u q a1 a2
          obtain ⟨Hu, e0, -, -⟩ := at_ u q
          rw [e_Rf_laysNodes_334]
          simp (disch := first | assumption | omega) only [hc_ck, hc_gi, hc_gl, hc_gp, ap_I, ap_L, kd_I, kd_L, kd_P, kd_rI, ar_I, ar_L, ar_P, al_I, al_L, al_P, hop_s, cond_true, cond_false, pc_I_I, pc_L_L, pc_P_P, pc_I_L, pc_I_P, pc_L_I, pc_L_P, pc_P_I, pc_P_L, pc_sS_I, pc_sS_L, pc_sS_P, I_rI, L_rI, P_rI, S_rI, cv_r, ci_r, cl_r, o1_b, o1_0, o1_1, lc_e, nI_1, nI_add, if_true, if_false, Nat.reduceEqDiff, Nat.left_eq_add, Nat.add_eq_left, false_and, and_false, true_and, and_true, and_self, eq_self, Rf_k, e0, n_le, Nat.le_refl]
          refine ih u q ?_ ?_
          · intro n hn
            rw [a1 n hn]
            exact wI_cong (fun m _ => ⟨fun c => ⟨by omega, c.2⟩, fun c => ⟨by have := c.2.1.2.1; unfold q_M at *; omega, c.2⟩⟩)
          · intro n hn
            rw [a2 n hn]
            exact wI_cong (fun m _ => ⟨fun c => ⟨by omega, c.2⟩, fun c => ⟨by omega, c.2⟩⟩)
        · intro i hi ih2 u q a1 a2
          obtain ⟨Hu, e0, e24, e25⟩ := at_ u q
          have hi3 : ¬ q_M O B ≤ i := by omega
          have go : ¬ q_pa O B k i → ∃ h', f_Rf_laysNodes_334 (d + 1) u f (nI k) (nI (i + 1)) = some (.inr none, h') ∧ fJ (f + 1526) (f + 1529) h h' ∧ (∀ n, n < q_M O B → am_I h' (f + 1526) n = wI (q_pa O B n) ∧ am_I h' (f + 1527) n = wI (fun m => q_pa O B m n) ∧ am_I h' (f + 1528) n = nI (q_de O B n)) := by
            intro c
            refine ih2 u q ?_ ?_
            · intro n hn
              rw [a1 n hn]
              refine wI_cong (fun m _ => ⟨fun e => ⟨by omega, e.2⟩, fun e => ⟨?_, e.2⟩⟩)
              rcases e.1 with e1 | ⟨rfl, e1⟩
              · exact Or.inl e1
              · by_cases e' : m = i
                · subst e'; exact absurd e.2 c
                · exact Or.inr ⟨rfl, by omega⟩
            · intro n hn
              rw [a2 n hn]
              refine wI_cong (fun m _ => ⟨fun e => ⟨by omega, e.2⟩, fun e => ⟨?_, e.2⟩⟩)
              rcases e.1 with e1 | ⟨rfl, e1⟩
              · exact Or.inl e1
              · by_cases e' : n = i
                · subst e'; exact absurd e.2 c
                · exact Or.inr ⟨rfl, by omega⟩
          rw [e_Rf_laysNodes_334]
          simp (disch := first | assumption | omega) only [hc_ck, hc_gi, hc_gl, hc_gp, ap_I, ap_L, kd_I, kd_L, kd_P, kd_rI, ar_I, ar_L, ar_P, al_I, al_L, al_P, hop_s, cond_true, cond_false, pc_I_I, pc_L_L, pc_P_P, pc_I_L, pc_I_P, pc_L_I, pc_L_P, pc_P_I, pc_P_L, pc_sS_I, pc_sS_L, pc_sS_P, I_rI, L_rI, P_rI, S_rI, cv_r, ci_r, cl_r, o1_b, o1_0, o1_1, lc_e, nI_1, nI_add, if_true, if_false, Nat.reduceEqDiff, Nat.left_eq_add, Nat.add_eq_left, false_and, and_false, true_and, and_true, and_self, eq_self, Rf_k, e0, n_le, hi3, Rf_p29, Rf_r1524, e24 k hk, Rf_hasI, bo_0, Rf_p30, Rf_r1525, e25 i hi]
          by_cases c : q_ov O B k i
          · simp only [yi_wt (show i < 32 by omega) c, Bool.true_eq_false, if_false]
            by_cases c2 : ∃ p, q_ov O B k p ∧ q_ov O B p i
            · rw [if_neg (by
                rw [wI_a0]
                obtain ⟨p, c3, c4⟩ := c2
                have hp := c3.2.1
                have : h_M (o_N O) (q_vo O B) (q_tp O B) (q_nb O B) ≤ o_N O := hM
                exact fun e => e ⟨p, by omega, c3, c4⟩)]
              exact go (fun e => e.2 c2)
            · rw [if_pos (by
                rw [wI_a0]
                rintro ⟨p, -, c3⟩
                exact c2 ⟨p, c3⟩)]
              have hpa : q_pa O B k i := ⟨c, c2⟩
              simp (disch := first | assumption | omega) only [hc_ck, hc_gi, hc_gl, hc_gp, ap_I, ap_L, kd_I, kd_L, kd_P, kd_rI, ar_I, ar_L, ar_P, al_I, al_L, al_P, hop_s, cond_true, cond_false, pc_I_I, pc_L_L, pc_P_P, pc_I_L, pc_I_P, pc_L_I, pc_L_P, pc_P_I, pc_P_L, pc_sS_I, pc_sS_L, pc_sS_P, I_rI, L_rI, P_rI, S_rI, cv_r, ci_r, cl_r, o1_b, o1_0, o1_1, lc_e, nI_1, nI_add, if_true, if_false, Nat.reduceEqDiff, Nat.left_eq_add, Nat.add_eq_left, false_and, and_false, true_and, and_true, and_self, eq_self, Rf_k, Rf_p31, Rf_r1526, Rf_p32, Rf_r1527, a1 k hk, a2 i hi]
              refine ih2 _ (fJ_w (fJ_w q (by omega) (by omega) _ _) (by omega) (by omega) _ _) ?_ ?_
              · intro n hn
                simp only [hc_ck, hc_gi, hc_gl, hc_gp, ap_I, ap_L, kd_I, kd_L, kd_P, kd_rI, ar_I, ar_L, ar_P, al_I, al_L, al_P, hop_s, cond_true, cond_false, pc_I_I, pc_L_L, pc_P_P, pc_I_L, pc_I_P, pc_L_I, pc_L_P, pc_P_I, pc_P_L, pc_sS_I, pc_sS_L, pc_sS_P, I_rI, L_rI, P_rI, S_rI, cv_r, ci_r, cl_r, o1_b, o1_0, o1_1, lc_e, nI_1, nI_add, if_true, if_false, Nat.reduceEqDiff, Nat.left_eq_add, Nat.add_eq_left, false_and, and_false, true_and, and_true, and_self, eq_self]
                by_cases e : n = k
                · subst e
                  rw [if_pos rfl]
                  refine wI_put (by omega) (fun m _ => ⟨?_, ?_⟩)
                  · rintro ⟨e1, e2⟩
                    by_cases e3 : m = i
                    · exact Or.inr e3
                    · exact Or.inl ⟨by omega, e2⟩
                  · rintro (⟨e1, e2⟩ | rfl)
                    · exact ⟨by omega, e2⟩
                    · exact ⟨by omega, hpa⟩
                · rw [if_neg e, a1 n hn]
                  exact wI_cong (fun m _ => ⟨fun e => ⟨by omega, e.2⟩, fun e => ⟨by omega, e.2⟩⟩)
              · intro n hn
                simp only [hc_ck, hc_gi, hc_gl, hc_gp, ap_I, ap_L, kd_I, kd_L, kd_P, kd_rI, ar_I, ar_L, ar_P, al_I, al_L, al_P, hop_s, cond_true, cond_false, pc_I_I, pc_L_L, pc_P_P, pc_I_L, pc_I_P, pc_L_I, pc_L_P, pc_P_I, pc_P_L, pc_sS_I, pc_sS_L, pc_sS_P, I_rI, L_rI, P_rI, S_rI, cv_r, ci_r, cl_r, o1_b, o1_0, o1_1, lc_e, nI_1, nI_add, if_true, if_false, Nat.reduceEqDiff, Nat.left_eq_add, Nat.add_eq_left, false_and, and_false, true_and, and_true, and_self, eq_self]
                by_cases e : n = i
                · subst e
                  rw [if_pos rfl]
                  refine wI_put (by omega) (fun m _ => ⟨?_, ?_⟩)
                  · rintro ⟨e1, e2⟩
                    by_cases e3 : m = k
                    · exact Or.inr e3
                    · exact Or.inl ⟨by omega, e2⟩
                  · rintro (⟨e1, e2⟩ | rfl)
                    · exact ⟨by omega, e2⟩
                    · exact ⟨by omega, hpa⟩
                · rw [if_neg e, a2 n hn]
                  exact wI_cong (fun m _ => ⟨fun e => ⟨by omega, e.2⟩, fun e => ⟨by omega, e.2⟩⟩)
          · simp only [yi_wf (show i < 32 by omega) c, if_true]
            exact go (fun e => c e.1)
      rw [e_Rf_laysNodes_324]
      simp (disch := first | assumption | omega) only [hc_ck, hc_gi, hc_gl, hc_gp, ap_I, ap_L, kd_I, kd_L, kd_P, kd_rI, ar_I, ar_L, ar_P, al_I, al_L, al_P, hop_s, cond_true, cond_false, pc_I_I, pc_L_L, pc_P_P, pc_I_L, pc_I_P, pc_L_I, pc_L_P, pc_P_I, pc_P_L, pc_sS_I, pc_sS_L, pc_sS_P, I_rI, L_rI, P_rI, S_rI, cv_r, ci_r, cl_r, o1_b, o1_0, o1_1, lc_e, nI_1, nI_add, if_true, if_false, Nat.reduceEqDiff, Nat.left_eq_add, Nat.add_eq_left, false_and, and_false, true_and, and_true, and_self, eq_self, Rf_k, e0, n_le, hk3]
      refine inner 0 (Nat.zero_le _) u q ?_ ?_
      · intro n hn
        rw [a1 n hn]
        exact wI_cong (fun m _ => ⟨fun e => ⟨by omega, e.2⟩, fun e => ⟨by omega, e.2⟩⟩)
      · intro n hn
        rw [a2 n hn]
        exact wI_cong (fun m _ => ⟨fun e => ⟨by omega, e.2⟩, fun e => ⟨by omega, e.2⟩⟩)
  refine key 0 (Nat.zero_le _) h (fJ_r _ _ _) ?_ ?_
  · intro n hn
    rw [h26 n hn]
    exact (wI_0.mpr (fun m _ c => absurd c.1 (Nat.not_lt_zero n))).symm
  · intro n hn
    rw [h27 n hn]
    exact (wI_0.mpr (fun m _ c => absurd c.1 (Nat.not_lt_zero m))).symm
