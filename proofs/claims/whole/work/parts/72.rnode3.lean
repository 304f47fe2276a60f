/-! ===== the reference: nodes whole ===== -/
theorem fJ_Nd {f lo hi : Nat} {h h' : am_H} (q : fJ (f + lo) (f + hi) h h') (h1 : 1522 ≤ lo) (h2 : hi ≤ 1529) : fNd f h h' := ⟨q.1, q.2.1, q.2.2.1, q.2.2.2.1, q.2.2.2.2.1, fun b _ p => q.2.2.2.2.2 b (by omega), fun j _ _ => by rw [q.2.2.2.2.2 f (by omega)]⟩
theorem Rf_nodes233 {h : am_H} {f : Nat} {O : o_T} {B : Nat → Prop} (H : RfAt h f) (R : RwR h (f + 3) O) (S : RfS h f (o_P O) (l_A O B) (l_K O B)) (h34 : am_I h f 34 = nI (q_M O B)) (h23 : ∀ n, n < q_M O B → am_I h (f + 1523) n = nI (q_rp O B n)) (hz : ∀ n, n < q_M O B → am_I h (f + 1524) n = 0 ∧ am_I h (f + 1525) n = 0 ∧ am_I h (f + 1526) n = 0 ∧ am_I h (f + 1527) n = 0) (d : Nat) :
    ∃ h', f_Rf_laysNodes_233 (d + 3) h f 0 = some (.inr none, h') ∧ fJ (f + 1524) (f + 1529) h h' ∧ (∀ n, n < q_M O B → am_I h' (f + 1524) n = wI (q_ov O B n) ∧ am_I h' (f + 1525) n = wI (fun m => q_ov O B m n) ∧ am_I h' (f + 1526) n = wI (q_pa O B n) ∧ am_I h' (f + 1527) n = wI (fun m => q_pa O B m n) ∧ am_I h' (f + 1528) n = nI (q_de O B n)) := by
  have ok := R.2.1
  have hM := q_Mle O B
  have okN := ok.1
  have okP := ok.2.2.2.1
  have at_ : ∀ u : am_H, fJ (f + 1524) (f + 1526) h u → RfAt u f ∧ RwR u (f + 3) O ∧ am_I u f 34 = nI (q_M O B) ∧ (∀ n, n < q_M O B → am_I u (f + 1523) n = nI (q_rp O B n)) ∧ (∀ x, x < o_P O → am_L u (f + 6) x = wL (l_A O B x)) := by
    intro u q
    refine ⟨RfAt_of H q.2.2.1 (fun b _ _ => by rw [q.2.1]), Rw_of R q.2.2.1 (q.2.2.2.2.2 _ (by omega)), ?_, ?_, ?_⟩
    · rw [q.2.2.2.2.2 f (by omega)]; exact h34
    · rw [q.2.2.2.2.2 (f + 1523) (by omega)]; exact h23
    · intro x hx; rw [q.1]; exact (S x hx).1
  have key : ∀ k, k ≤ q_M O B → ∀ u : am_H, fJ (f + 1524) (f + 1526) h u → (∀ n, n < q_M O B → am_I u (f + 1524) n = wI (fun m => n < k ∧ q_ov O B n m)) → (∀ n, n < q_M O B → am_I u (f + 1525) n = wI (fun m => m < k ∧ q_ov O B m n)) → ∃ h', f_Rf_laysNodes_233 (d + 3) u f (nI k) = some (.inr none, h') ∧ fJ (f + 1524) (f + 1529) h h' ∧ (∀ n, n < q_M O B → am_I h' (f + 1524) n = wI (q_ov O B n) ∧ am_I h' (f + 1525) n = wI (fun m => q_ov O B m n) ∧ am_I h' (f + 1526) n = wI (q_pa O B n) ∧ am_I h' (f + 1527) n = wI (fun m => q_pa O B m n) ∧ am_I h' (f + 1528) n = nI (q_de O B n)) := by
    refine dn ?_ ?_
    · intro u q a1 a2
      obtain ⟨Hu, Ru, e0, -, -⟩ := at_ u q
      have a1' : ∀ n, n < q_M O B → am_I u (f + 1524) n = wI (q_ov O B n) := fun n hn => (a1 n hn).trans (wI_cong (fun m _ => ⟨And.right, fun c => ⟨hn, c⟩⟩))
      have a2' : ∀ n, n < q_M O B → am_I u (f + 1525) n = wI (fun m => q_ov O B m n) := fun n hn => (a2 n hn).trans (wI_cong (fun m _ => ⟨And.right, fun c => ⟨c.1, c⟩⟩))
      obtain ⟨v, ev, qv, hv⟩ := Rf_nodes324 ok Hu e0 a1' a2' (fun n hn => by rw [q.2.2.2.2.2 (f + 1526) (by omega)]; exact (hz n hn).2.2.1) (fun n hn => by rw [q.2.2.2.2.2 (f + 1527) (by omega)]; exact (hz n hn).2.2.2) (d + 2)
      rw [e_Rf_laysNodes_233]
      simp (disch := first | assumption | omega) only [hc_ck, hc_gi, hc_gl, hc_gp, ap_I, ap_L, kd_I, kd_L, kd_P, kd_rI, ar_I, ar_L, ar_P, al_I, al_L, al_P, hop_s, cond_true, cond_false, pc_I_I, pc_L_L, pc_P_P, pc_I_L, pc_I_P, pc_L_I, pc_L_P, pc_P_I, pc_P_L, pc_sS_I, pc_sS_L, pc_sS_P, I_rI, L_rI, P_rI, S_rI, cv_r, ci_r, cl_r, o1_b, o1_0, o1_1, lc_e, nI_1, nI_add, if_true, if_false, Nat.reduceEqDiff, Nat.left_eq_add, Nat.add_eq_left, false_and, and_false, true_and, and_true, and_self, eq_self, Rf_k, e0, n_le, Nat.le_refl]
      refine ⟨v, ev, fJ_t (fJ_m q (by omega) (by omega)) (fJ_m qv (by omega) (by omega)), fun n hn => ⟨?_, ?_, hv n hn⟩⟩
      · rw [qv.2.2.2.2.2 (f + 1524) (by omega)]; exact a1' n hn
      · rw [qv.2.2.2.2.2 (f + 1525) (by omega)]; exact a2' n hn
    · intro k hk ih u q a1 a2
      obtain ⟨Hu, Ru, e0, -, -⟩ := at_ u q
      have hk3 : ¬ q_M O B ≤ k := by omega
      have r1 := (q_rps (B := B) (k := o_N O) hk).2.2
      have p1 := (o_np_s ok r1).1
      have inner : ∀ i, i ≤ q_M O B → ∀ u : am_H, fJ (f + 1524) (f + 1526) h u → (∀ n, n < q_M O B → am_I u (f + 1524) n = wI (fun m => (n < k ∨ (n = k ∧ m < i)) ∧ q_ov O B n m)) → (∀ n, n < q_M O B → am_I u (f + 1525) n = wI (fun m => (m < k ∨ (m = k ∧ n < i)) ∧ q_ov O B m n)) → ∃ h', f_Rf_laysNodes_243 (d + 3) u f (nI k) (nI i) = some (.inr none, h') ∧ fJ (f + 1524) (f + 1529) h h' ∧ (∀ n, n < q_M O B → am_I h' (f + 1524) n = wI (q_ov O B n) ∧ am_I h' (f + 1525) n = wI (fun m => q_ov O B m n) ∧ am_I h' (f + 1526) n = wI (q_pa O B n) ∧ am_I h' (f + 1527) n = wI (fun m => q_pa O B m n) ∧ am_I h' (f + 1528) n = nI (q_de O B n)) := by
        refine dn ?_ ?_
        · intro u q a1 a2
          obtain ⟨Hu, Ru, e0, -, -⟩ := at_ u q
          rw [e_Rf_laysNodes_243]
          simp (disch := first | assumption | omega) only [hc_ck, hc_gi, hc_gl, hc_gp, ap_I, ap_L, kd_I, kd_L, kd_P, kd_rI, ar_I, ar_L, ar_P, al_I, al_L, al_P, hop_s, cond_true, cond_false, pc_I_I, pc_L_L, pc_P_P, pc_I_L, pc_I_P, pc_L_I, pc_L_P, pc_P_I, pc_P_L, pc_sS_I, pc_sS_L, pc_sS_P, I_rI, L_rI, P_rI, S_rI, cv_r, ci_r, cl_r, o1_b, o1_0, o1_1, lc_e, nI_1, nI_add, if_true, if_false, Nat.reduceEqDiff, Nat.left_eq_add, Nat.add_eq_left, false_and, and_false, true_and, and_true, and_self, eq_self, Rf_k, e0, n_le, Nat.le_refl]
          refine ih u q ?_ ?_
          · intro n hn
            rw [a1 n hn]
            exact wI_cong (fun m _ => ⟨fun c => ⟨by omega, c.2⟩, fun c => ⟨by have := c.2.2.1; unfold q_M at *; omega, c.2⟩⟩)
          · intro n hn
            rw [a2 n hn]
            exact wI_cong (fun m _ => ⟨fun c => ⟨by omega, c.2⟩, fun c => ⟨by omega, c.2⟩⟩)
        · intro i hi ih2 u q a1 a2
          obtain ⟨Hu, Ru, e0, e23, eL⟩ := at_ u q
          have hi3 : ¬ q_M O B ≤ i := by omega
          have r2 := (q_rps (B := B) (k := o_N O) hi).2.2
          have p2 := (o_np_s ok r2).1
          obtain ⟨b, eb, hb⟩ := Rf_isBelow Hu (show o_np O (q_rp O B k) < 480 by omega) (show o_np O (q_rp O B i) < 64 by omega) (eL _ p1) (d + 1)
          have go : ¬ q_ov O B k i → ∃ h', f_Rf_laysNodes_243 (d + 3) u f (nI k) (nI (i + 1)) = some (.inr none, h') ∧ fJ (f + 1524) (f + 1529) h h' ∧ (∀ n, n < q_M O B → am_I h' (f + 1524) n = wI (q_ov O B n) ∧ am_I h' (f + 1525) n = wI (fun m => q_ov O B m n) ∧ am_I h' (f + 1526) n = wI (q_pa O B n) ∧ am_I h' (f + 1527) n = wI (fun m => q_pa O B m n) ∧ am_I h' (f + 1528) n = nI (q_de O B n)) := by
            intro c
            refine ih2 u q ?_ ?_
            · intro n hn
              rw [a1 n hn]
              refine wI_cong (fun m _ => ⟨fun e => ⟨by omega, e.2⟩, fun e => ⟨?_, e.2⟩⟩)
              rcases e.1 with e1 | ⟨rfl, e1⟩
              · exact Or.inl e1
              · by_cases e' : m = i
                · subst e'; exact absurd e.2 c
                · exact Or.inr ⟨rfl, by omega⟩
            · intro n hn
              rw [a2 n hn]
              refine wI_cong (fun m _ => ⟨fun e => ⟨by omega, e.2⟩, fun e => ⟨?_, e.2⟩⟩)
              rcases e.1 with e1 | ⟨rfl, e1⟩
              · exact Or.inl e1
              · by_cases e' : n = i
                · subst e'; exact absurd e.2 c
                · exact Or.inr ⟨rfl, by omega⟩
          rw [e_Rf_laysNodes_243]
          simp (disch := first | assumption | omega) only [hc_ck, hc_gi, hc_gl, hc_gp, ap_I, ap_L, kd_I, kd_L, kd_P, kd_rI, ar_I, ar_L, ar_P, al_I, al_L, al_P, hop_s, cond_true, cond_false, pc_I_I, pc_L_L, pc_P_P, pc_I_L, pc_I_P, pc_L_I, pc_L_P, pc_P_I, pc_P_L, pc_sS_I, pc_sS_L, pc_sS_P, I_rI, L_rI, P_rI, S_rI, cv_r, ci_r, cl_r, o1_b, o1_0, o1_1, lc_e, nI_1, nI_add, if_true, if_false, Nat.reduceEqDiff, Nat.left_eq_add, Nat.add_eq_left, false_and, and_false, true_and, and_true, and_self, eq_self, Rf_k, e0, n_le, hi3, n_eq]
          by_cases ei : k = i
          · rw [if_pos ei]
            exact go (fun c => c.2.2.1 ei.symm)
          · rw [if_neg ei]
            simp (disch := first | assumption | omega) only [hc_ck, hc_gi, hc_gl, hc_gp, ap_I, ap_L, kd_I, kd_L, kd_P, kd_rI, ar_I, ar_L, ar_P, al_I, al_L, al_P, hop_s, cond_true, cond_false, pc_I_I, pc_L_L, pc_P_P, pc_I_L, pc_I_P, pc_L_I, pc_L_P, pc_P_I, pc_P_L, pc_sS_I, pc_sS_L, pc_sS_P, I_rI, L_rI, P_rI, S_rI, cv_r, ci_r, cl_r, o1_b, o1_0, o1_1, lc_e, nI_1, nI_add, if_true, if_false, Nat.reduceEqDiff, Nat.left_eq_add, Nat.add_eq_left, false_and, and_false, true_and, and_true, and_self, eq_self, Rf_k, Rf_p28, Rf_r1523, e23 k hk, e23 i hi, Rf_namePart, eb, bo_0]
            cases b with
            | false =>
              simp only [if_true]
              exact go (fun c => absurd (hb.mpr c.2.2.2) (by decide))
            | true =>
              simp (disch := first | assumption | omega) only [hc_ck, hc_gi, hc_gl, hc_gp, ap_I, ap_L, kd_I, kd_L, kd_P, kd_rI, ar_I, ar_L, ar_P, al_I, al_L, al_P, hop_s, cond_true, cond_false, pc_I_I, pc_L_L, pc_P_P, pc_I_L, pc_I_P, pc_L_I, pc_L_P, pc_P_I, pc_P_L, pc_sS_I, pc_sS_L, pc_sS_P, I_rI, L_rI, P_rI, S_rI, cv_r, ci_r, cl_r, o1_b, o1_0, o1_1, lc_e, nI_1, nI_add, if_true, if_false, Nat.reduceEqDiff, Nat.left_eq_add, Nat.add_eq_left, false_and, and_false, true_and, and_true, and_self, eq_self, Bool.true_eq_false, Rf_k, Rf_p29, Rf_r1524, Rf_p30, Rf_r1525, a1 k hk, a2 i hi]
              have hov : q_ov O B k i := ⟨hk, hi, fun e => ei e.symm, hb.mp rfl⟩
              refine ih2 _ (fJ_w (fJ_w q (by omega) (by omega) _ _) (by omega) (by omega) _ _) ?_ ?_
              · intro n hn
                simp only [hc_ck, hc_gi, hc_gl, hc_gp, ap_I, ap_L, kd_I, kd_L, kd_P, kd_rI, ar_I, ar_L, ar_P, al_I, al_L, al_P, hop_s, cond_true, cond_false, pc_I_I, pc_L_L, pc_P_P, pc_I_L, pc_I_P, pc_L_I, pc_L_P, pc_P_I, pc_P_L, pc_sS_I, pc_sS_L, pc_sS_P, I_rI, L_rI, P_rI, S_rI, cv_r, ci_r, cl_r, o1_b, o1_0, o1_1, lc_e, nI_1, nI_add, if_true, if_false, Nat.reduceEqDiff, Nat.left_eq_add, Nat.add_eq_left, false_and, and_false, true_and, and_true, and_self, eq_self]
                by_cases e : n = k
                · subst e
                  rw [if_pos rfl]
                  refine wI_put (by omega) (fun m _ => ⟨?_, ?_⟩)
                  · rintro ⟨e1, e2⟩
                    by_cases e3 : m = i
                    · exact Or.inr e3
                    · exact Or.inl ⟨by omega, e2⟩
                  · rintro (⟨e1, e2⟩ | rfl)
                    · exact ⟨by omega, e2⟩
                    · exact ⟨by omega, hov⟩
                · rw [if_neg e, a1 n hn]
                  exact wI_cong (fun m _ => ⟨fun e => ⟨by omega, e.2⟩, fun e => ⟨by omega, e.2⟩⟩)
              · intro n hn
                simp only [hc_ck, hc_gi, hc_gl, hc_gp, ap_I, ap_L, kd_I, kd_L, kd_P, kd_rI, ar_I, ar_L, ar_P, al_I, al_L, al_P, hop_s, cond_true, cond_false, pc_I_I, pc_L_L, pc_P_P, pc_I_L, pc_I_P, pc_L_I, pc_L_P, pc_P_I, pc_P_L, pc_sS_I, pc_sS_L, pc_sS_P, I_rI, L_rI, P_rI, S_rI, cv_r, ci_r, cl_r, o1_b, o1_0, o1_1, lc_e, nI_1, nI_add, if_true, if_false, Nat.reduceEqDiff, Nat.left_eq_add, Nat.add_eq_left, false_and, and_false, true_and, and_true, and_self, eq_self]
                by_cases e : n = i
                · subst e
                  rw [if_pos rfl]
                  refine wI_put (by omega) (fun m _ => ⟨?_, ?_⟩)
                  · rintro ⟨e1, e2⟩
                    by_cases e3 : m = k
                    · exact Or.inr e3
                    · exact Or.inl ⟨by omega, e2⟩
                  · rintro (⟨e1, e2⟩ | rfl)
                    · exact ⟨by omega, e2⟩
                    · exact ⟨by omega, hov⟩
                · rw [if_neg e, a2 n hn]
                  exact wI_cong (fun m _ => ⟨fun e => ⟨by omega, e.2⟩, fun e => ⟨by omega, e.2⟩⟩)
      rw [e_Rf_laysNodes_233]
      simp (disch := first | assumption | omega) only [hc_ck, hc_gi, hc_gl, hc_gp, ap_I, ap_L, kd_I, kd_L, kd_P, kd_rI, ar_I, ar_L, ar_P, al_I, al_L, al_P, hop_s, cond_true, cond_false, pc_I_I, pc_L_L, pc_P_P, pc_I_L, pc_I_P, pc_L_I, pc_L_P, pc_P_I, pc_P_L, pc_sS_I, pc_sS_L, pc_sS_P, I_rI, L_rI, P_rI, S_rI, cv_r, ci_r, cl_r, o1_b, o1_0, o1_1, lc_e, nI_1, nI_add, if_true, if_false, Nat.reduceEqDiff, Nat.left_eq_add, Nat.add_eq_left, false_and, and_false, true_and, and_true, and_self, eq_self, Rf_k, e0, n_le, hk3]
      refine inner 0 (Nat.zero_le _) u q ?_ ?_
      · intro n hn
        rw [a1 n hn]
        exact wI_cong (fun m _ => ⟨fun e => ⟨by omega, e.2⟩, fun e => ⟨by omega, e.2⟩⟩)
      · intro n hn
        rw [a2 n hn]
        exact wI_cong (fun m _ => ⟨fun e => ⟨by omega, e.2⟩, fun e => ⟨by omega, e.2⟩⟩)
  refine key 0 (Nat.zero_le _) h (fJ_r _ _ _) ?_ ?_
  · intro n hn
    rw [(hz n hn).1]
    exact (wI_0.mpr (fun m _ c => absurd c.1 (Nat.not_lt_zero n))).symm
  · intro n hn
    rw [(hz n hn).2.1]
    exact (wI_0.mpr (fun m _ c => absurd c.1 (Nat.not_lt_zero m))).symm
theorem Rf_nodes189 {h : am_H} {f M : Nat} (H : RfAt h f) (hM : M ≤ 24) (h34 : am_I h f 34 = nI M) (d : Nat) :
    ∃ h', f_Rf_laysNodes_189 d h f 0 = f_Rf_laysNodes_233 d h' f 0 ∧ fJ (f + 1524) (f + 1528) h h' ∧ (∀ n, n < M → am_I h' (f + 1524) n = 0 ∧ am_I h' (f + 1525) n = 0 ∧ am_I h' (f + 1526) n = 0 ∧ am_I h' (f + 1527) n = 0) := by
  have key : ∀ k, k ≤ M → ∀ u : am_H, fJ (f + 1524) (f + 1528) h u → (∀ n, n < k → am_I u (f + 1524) n = 0 ∧ am_I u (f + 1525) n = 0 ∧ am_I u (f + 1526) n = 0 ∧ am_I u (f + 1527) n = 0) → ∃ h', f_Rf_laysNodes_189 d u f (nI k) = f_Rf_laysNodes_233 d h' f 0 ∧ fJ (f + 1524) (f + 1528) h h' ∧ (∀ n, n < M → am_I h' (f + 1524) n = 0 ∧ am_I h' (f + 1525) n = 0 ∧ am_I h' (f + 1526) n = 0 ∧ am_I h' (f + 1527) n = 0) := by
    refine dn ?_ ?_
    · intro u q hu
      have Hu : RfAt u f := RfAt_of H q.2.2.1 (fun b _ _ => by rw [q.2.1])
      have e0 : am_I u f 34 = nI M := by rw [q.2.2.2.2.2 f (by omega)]; exact h34
      refine ⟨u, ?_, q, hu⟩
      rw [e_Rf_laysNodes_189]
      simp (disch := first | assumption | omega) only [hc_ck, hc_gi, hc_gl, hc_gp, ap_I, ap_L, kd_I, kd_L, kd_P, kd_rI, ar_I, ar_L, ar_P, al_I, al_L, al_P, hop_s, cond_true, cond_false, pc_I_I, pc_L_L, pc_P_P, pc_I_L, pc_I_P, pc_L_I, pc_L_P, pc_P_I, pc_P_L, pc_sS_I, pc_sS_L, pc_sS_P, I_rI, L_rI, P_rI, S_rI, cv_r, ci_r, cl_r, o1_b, o1_0, o1_1, lc_e, nI_1, nI_add, if_true, if_false, Nat.reduceEqDiff, Nat.left_eq_add, Nat.add_eq_left, false_and, and_false, true_and, and_true, and_self, eq_self, Rf_k, e0, n_le, Nat.le_refl]
    · intro k hk ih u q hu
      have Hu : RfAt u f := RfAt_of H q.2.2.1 (fun b _ _ => by rw [q.2.1])
      have e0 : am_I u f 34 = nI M := by rw [q.2.2.2.2.2 f (by omega)]; exact h34
      have hk3 : ¬ M ≤ k := by omega
      rw [e_Rf_laysNodes_189]
      simp (disch := first | assumption | omega) only [hc_ck, hc_gi, hc_gl, hc_gp, ap_I, ap_L, kd_I, kd_L, kd_P, kd_rI, ar_I, ar_L, ar_P, al_I, al_L, al_P, hop_s, cond_true, cond_false, pc_I_I, pc_L_L, pc_P_P, pc_I_L, pc_I_P, pc_L_I, pc_L_P, pc_P_I, pc_P_L, pc_sS_I, pc_sS_L, pc_sS_P, I_rI, L_rI, P_rI, S_rI, cv_r, ci_r, cl_r, o1_b, o1_0, o1_1, lc_e, nI_1, nI_add, if_true, if_false, Nat.reduceEqDiff, Nat.left_eq_add, Nat.add_eq_left, false_and, and_false, true_and, and_true, and_self, eq_self, Rf_k, e0, n_le, hk3, Rf_p29, Rf_p30, Rf_p31, Rf_p32, Rf_r1524, Rf_r1525, Rf_r1526, Rf_r1527]
      refine ih _ (fJ_w (fJ_w (fJ_w (fJ_w q (by omega) (by omega) _ _) (by omega) (by omega) _ _) (by omega) (by omega) _ _) (by omega) (by omega) _ _) ?_
      intro n hn
      simp only [hc_ck, hc_gi, hc_gl, hc_gp, ap_I, ap_L, kd_I, kd_L, kd_P, kd_rI, ar_I, ar_L, ar_P, al_I, al_L, al_P, hop_s, cond_true, cond_false, pc_I_I, pc_L_L, pc_P_P, pc_I_L, pc_I_P, pc_L_I, pc_L_P, pc_P_I, pc_P_L, pc_sS_I, pc_sS_L, pc_sS_P, I_rI, L_rI, P_rI, S_rI, cv_r, ci_r, cl_r, o1_b, o1_0, o1_1, lc_e, nI_1, nI_add, if_true, if_false, Nat.reduceEqDiff, Nat.left_eq_add, Nat.add_eq_left, false_and, and_false, true_and, and_true, and_self, eq_self]
      by_cases e : n = k
      · simp only [e, if_true, and_self]
      · simp only [e, if_false]
        exact hu n (by omega)
  exact key 0 (Nat.zero_le _) h (fJ_r _ _ _) (fun n hn => absurd hn (Nat.not_lt_zero n))
theorem Rf_laysNodes {h : am_H} {f : Nat} {O : o_T} {B : Nat → Prop} (H : RfAt h f) (R : RwR h (f + 3) O) (hB : am_L h f 11 = wL B) (hL : am_I h f 14 = 0 ∨ (am_I h f 14 = 1 ∧ RfL h f O B)) (hN : am_I h f 15 = 0 ∨ (am_I h f 15 = 1 ∧ RfN h f O B)) (d : Nat) :
    ∃ g h', f_Rf_laysNodes (d + 4) h f = some (.inr none, h') ∧ fCl f h g ∧ fNd f g h' ∧ am_I h' f 14 = 1 ∧ RfL h' f O B ∧ am_I h' f 15 = 1 ∧ RfN h' f O B := by
  obtain ⟨g, eg, qg, g14, gL⟩ := Rf_classifies H R hB hL d
  have Hg := fCl_at qg H
  have Rg := fCl_rw qg (Or.inl rfl) R
  have e15 : am_I g f 15 = am_I h f 15 := qg.2.2.2.2.2.1 15 (by omega) (by omega)
  have ok := R.2.1
  have hM := q_Mle O B
  have okN := ok.1
  rw [e_Rf_laysNodes]
  simp (disch := first | assumption | omega) only [hc_ck, hc_gi, hc_gl, hc_gp, ap_I, ap_L, kd_I, kd_L, kd_P, kd_rI, ar_I, ar_L, ar_P, al_I, al_L, al_P, hop_s, cond_true, cond_false, pc_I_I, pc_L_L, pc_P_P, pc_I_L, pc_I_P, pc_L_I, pc_L_P, pc_P_I, pc_P_L, pc_sS_I, pc_sS_L, pc_sS_P, I_rI, L_rI, P_rI, S_rI, cv_r, ci_r, cl_r, o1_b, o1_0, o1_1, lc_e, nI_1, nI_add, if_true, if_false, Nat.reduceEqDiff, Nat.left_eq_add, Nat.add_eq_left, false_and, and_false, true_and, and_true, and_self, eq_self, Rf_k, eg, e15]
  rcases hN with e | ⟨e, N⟩
  · rw [if_pos e]
    obtain ⟨k, hk, L1, L2, L3, L4, L5⟩ := gL
    have q1 : fNd f g (am_sI (am_sI g f 15 1) f 34 0) := fNd_f (fNd_f (fNd_r _ _) (Or.inl rfl) _) (Or.inr rfl) _
    have H1 := fNd_at q1 Hg
    have R1 := fNd_rw q1 (Or.inl rfl) Rg
    obtain ⟨u, eu, qu, u15, u34, u22, u23⟩ := Rf_nodes24 (B := B) H1 R1 L4 (by simp only [hc_ck, hc_gi, hc_gl, hc_gp, ap_I, ap_L, kd_I, kd_L, kd_P, kd_rI, ar_I, ar_L, ar_P, al_I, al_L, al_P, hop_s, cond_true, cond_false, pc_I_I, pc_L_L, pc_P_P, pc_I_L, pc_I_P, pc_L_I, pc_L_P, pc_P_I, pc_P_L, pc_sS_I, pc_sS_L, pc_sS_P, I_rI, L_rI, P_rI, S_rI, cv_r, ci_r, cl_r, o1_b, o1_0, o1_1, lc_e, nI_1, nI_add, if_true, if_false, Nat.reduceEqDiff, Nat.left_eq_add, Nat.add_eq_left, false_and, and_false, true_and, and_true, and_self, eq_self]) (d + 1)
    have Hu := fNd_at qu H1
    have Ru := fNd_rw qu (Or.inl rfl) R1
    obtain ⟨v, ev, qv, vz⟩ := Rf_nodes189 Hu (by omega) u34 (d + 4)
    have qv' := fJ_Nd qv (by omega) (by omega)
    have Hv := fNd_at qv' Hu
    have Rv := fNd_rw qv' (Or.inl rfl) Ru
    have Sv : RfS v f (o_P O) (l_A O B) (l_K O B) := fun x hx => by rw [qv.1, qu.1]; exact L4 x hx
    obtain ⟨w, ew, qw, hw⟩ := Rf_nodes233 Hv Rv Sv (by rw [qv.2.2.2.2.2 f (by omega)]; exact u34) (by rw [qv.2.2.2.2.2 (f + 1523) (by omega)]; exact u23) vz (d + 1)
    have qw' := fJ_Nd qw (by omega) (by omega)
    have qa := fNd_t q1 (fNd_t qu (fNd_t qv' qw'))
    refine ⟨g, w, ?_, qg, qa, ?_, ?_, ?_, ?_, ?_, ?_⟩
    · rw [eu, ev, ew]
    · rw [qa.2.2.2.2.2.2 14 (by omega) (by omega)]; exact g14
    · refine ⟨k, hk, L1, ?_, ?_, ?_, ?_⟩
      · rw [qa.2.2.2.2.2.2 26 (by omega) (by omega)]; exact L2
      · intro r hr
        rw [qa.2.2.2.2.2.1 (f + 1460) (by omega) (by omega)]; exact L3 r hr
      · intro x hx
        rw [qa.1]; exact L4 x hx
      · intro x y hx hy
        have := ok.2.2.2.1
        rw [qa.2.2.2.2.2.1 (f + 1462 + x) (by omega) (by omega)]; exact L5 x y hx hy
    · rw [qw.2.2.2.2.2 f (by omega), qv.2.2.2.2.2 f (by omega), u15]
      simp only [hc_ck, hc_gi, hc_gl, hc_gp, ap_I, ap_L, kd_I, kd_L, kd_P, kd_rI, ar_I, ar_L, ar_P, al_I, al_L, al_P, hop_s, cond_true, cond_false, pc_I_I, pc_L_L, pc_P_P, pc_I_L, pc_I_P, pc_L_I, pc_L_P, pc_P_I, pc_P_L, pc_sS_I, pc_sS_L, pc_sS_P, I_rI, L_rI, P_rI, S_rI, cv_r, ci_r, cl_r, o1_b, o1_0, o1_1, lc_e, nI_1, nI_add, if_true, if_false, Nat.reduceEqDiff, Nat.left_eq_add, Nat.add_eq_left, false_and, and_false, true_and, and_true, and_self, eq_self]
    · rw [qw.2.2.2.2.2 f (by omega), qv.2.2.2.2.2 f (by omega)]; exact u34
    · rw [qw.2.2.2.2.2 (f + 1522) (by omega), qv.2.2.2.2.2 (f + 1522) (by omega)]; exact u22
    · exact hw
  · rw [if_neg (by rw [e]; decide)]
    refine ⟨g, g, rfl, qg, fNd_r _ _, g14, gL, by rw [e15]; exact e, ?_, ?_, ?_⟩
    · rw [qg.2.2.2.2.2.1 34 (by omega) (by omega)]; exact N.1
    · rw [qg.2.2.2.2.1 (f + 1522) (by omega) (by omega) (by omega)]; exact N.2.1
    · rw [qg.2.2.2.2.1 (f + 1524) (by omega) (by omega) (by omega), qg.2.2.2.2.1 (f + 1525) (by omega) (by omega) (by omega), qg.2.2.2.2.1 (f + 1526) (by omega) (by omega) (by omega), qg.2.2.2.2.1 (f + 1527) (by omega) (by omega) (by omega), qg.2.2.2.2.1 (f + 1528) (by omega) (by omega) (by omega)]
      exact N.2.2
