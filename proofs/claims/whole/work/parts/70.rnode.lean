/-! ===== the reference: nodes ===== -/
theorem bo_n0 (b : Bool) : (bo b = nI 0) ↔ b = false := bo_0 b
theorem Rf_isBelow {h : am_H} {f x y : Nat} {P : Nat → Prop} (H : RfAt h f) (hx : x < 480) (hy : y < 64) (e : am_L h (f + 6) x = wL P) (d : Nat) : ∃ b, f_Rf_isBelow (d + 1) h f (nI x) (nI y) = some (.inr (some (.int (bo b))), h) ∧ (b = true ↔ P y ∨ P 1) := by
  refine ⟨xl (wL P) y || xl (wL P) 1, ?_, ?_⟩
  · rw [e_Rf_isBelow]
    simp (disch := first | assumption | omega) only [hc_ck, hc_gi, hc_gl, hc_gp, ap_I, ap_L, kd_I, kd_L, kd_P, kd_rI, ar_I, ar_L, ar_P, al_I, al_L, al_P, hop_s, cond_true, cond_false, pc_I_I, pc_L_L, pc_P_P, pc_I_L, pc_I_P, pc_L_I, pc_L_P, pc_P_I, pc_P_L, pc_sS_I, pc_sS_L, pc_sS_P, I_rI, L_rI, P_rI, S_rI, cv_r, ci_r, cl_r, o1_b, o1_0, o1_1, lc_e, nI_1, nI_add, if_true, if_false, Nat.reduceEqDiff, Nat.left_eq_add, Nat.add_eq_left, false_and, and_false, true_and, and_true, and_self, eq_self, Rf_k, Rf_p18, Rf_r6, e, Rf_has, n_1, bo_0]
    cases xl (wL P) y <;> cases xl (wL P) 1 <;> rfl
  · rw [Bool.or_eq_true, wL_x, wL_x]
    exact ⟨fun c => c.imp And.right And.right, fun c => c.imp (fun d => ⟨by omega, d⟩) (fun d => ⟨by omega, d⟩)⟩
theorem Rf_isVoid {h : am_H} {f x : Nat} {P : Nat → Prop} (H : RfAt h f) (hx : x < 480) (e : am_L h (f + 6) x = wL P) (d : Nat) : ∃ b, f_Rf_isVoid (d + 1) h f (nI x) = some (.inr (some (.int (bo b))), h) ∧ (b = true ↔ P 1) := by
  refine ⟨xl (wL P) 1, ?_, ?_⟩
  · rw [e_Rf_isVoid]
    simp (disch := first | assumption | omega) only [hc_ck, hc_gi, hc_gl, hc_gp, ap_I, ap_L, kd_I, kd_L, kd_P, kd_rI, ar_I, ar_L, ar_P, al_I, al_L, al_P, hop_s, cond_true, cond_false, pc_I_I, pc_L_L, pc_P_P, pc_I_L, pc_I_P, pc_L_I, pc_L_P, pc_P_I, pc_P_L, pc_sS_I, pc_sS_L, pc_sS_P, I_rI, L_rI, P_rI, S_rI, cv_r, ci_r, cl_r, o1_b, o1_0, o1_1, lc_e, nI_1, nI_add, if_true, if_false, Nat.reduceEqDiff, Nat.left_eq_add, Nat.add_eq_left, false_and, and_false, true_and, and_true, and_self, eq_self, Rf_k, Rf_p18, Rf_r6, e, Rf_has, n_1]
  · rw [wL_x]
    exact ⟨And.right, fun c => ⟨by omega, c⟩⟩
theorem Rf_namePart {h : am_H} {f a : Nat} {O : o_T} (H : RfAt h f) (R : RwR h (f + 3) O) (ha : a < o_N O) (d : Nat) : f_Rf_namePart (d + 1) h f (nI a) = some (.inr (some (.int (nI (o_np O a)))), h) := by
  have ok := R.2.1
  have okN := ok.1
  have okP := ok.2.2.2.1
  obtain ⟨n1, n2, n3⟩ := o_np_s ok ha
  have n4 := (lm_s (P := fun p => p < o_P O ∧ o_pk O p = 0 ∧ o_pa O p = a) ⟨_, n1, n2, n3⟩).2
  have key : ∀ k, k ≤ o_np O a → f_Rf_namePart_2 (d + 1) h f (nI a) (nI k) = some (.inr (some (.int (nI (o_np O a)))), h) := by
    refine dn ?_ ?_
    · have hk3 : ¬ o_P O ≤ o_np O a := by omega
      rw [e_Rf_namePart_2]
      simp (disch := first | assumption | omega) only [hc_ck, hc_gi, hc_gl, hc_gp, ap_I, ap_L, kd_I, kd_L, kd_P, kd_rI, ar_I, ar_L, ar_P, al_I, al_L, al_P, hop_s, cond_true, cond_false, pc_I_I, pc_L_L, pc_P_P, pc_I_L, pc_I_P, pc_L_I, pc_L_P, pc_P_I, pc_P_L, pc_sS_I, pc_sS_L, pc_sS_P, I_rI, L_rI, P_rI, S_rI, cv_r, ci_r, cl_r, o1_b, o1_0, o1_1, lc_e, nI_1, nI_add, if_true, if_false, Nat.reduceEqDiff, Nat.left_eq_add, Nat.add_eq_left, false_and, and_false, true_and, and_true, and_self, eq_self, Rf_k, Rf_p9, n_2, Rw_ar, Rw_P, n_le, hk3, Rf_kindOf, n2, n_e0, Rf_oneOf, n3]
    · intro k hk ih
      have hk3 : ¬ o_P O ≤ k := by omega
      have hkP : k < o_P O := by omega
      have okk := ok.2.2.2.2.2.2.2.1 k hkP
      unfold o_okP at okk
      rw [e_Rf_namePart_2]
      simp (disch := first | assumption | omega) only [hc_ck, hc_gi, hc_gl, hc_gp, ap_I, ap_L, kd_I, kd_L, kd_P, kd_rI, ar_I, ar_L, ar_P, al_I, al_L, al_P, hop_s, cond_true, cond_false, pc_I_I, pc_L_L, pc_P_P, pc_I_L, pc_I_P, pc_L_I, pc_L_P, pc_P_I, pc_P_L, pc_sS_I, pc_sS_L, pc_sS_P, I_rI, L_rI, P_rI, S_rI, cv_r, ci_r, cl_r, o1_b, o1_0, o1_1, lc_e, nI_1, nI_add, if_true, if_false, Nat.reduceEqDiff, Nat.left_eq_add, Nat.add_eq_left, false_and, and_false, true_and, and_true, and_self, eq_self, Rf_k, Rf_p9, n_2, Rw_ar, Rw_P, n_le, hk3, Rf_kindOf, n_e0, Rf_oneOf, n_eq]
      by_cases e0 : o_pk O k = 0
      · rw [if_pos e0]
        have : ¬ o_pa O k = a := fun e => n4 k hk ⟨hkP, e0, e⟩
        rw [if_neg this]
        exact ih
      · rw [if_neg e0]
        exact ih
  rw [e_Rf_namePart]
  exact key 0 (Nat.zero_le _)
def fNd (f : Nat) (h h' : am_H) : Prop := am_L h' = am_L h ∧ am_P h' = am_P h ∧ am_S h' = am_S h ∧ am_G h' = am_G h ∧ am_T h' = am_T h ∧ (∀ b, b ≠ f → b < f + 1522 ∨ f + 1529 ≤ b → am_I h' b = am_I h b) ∧ (∀ j, j ≠ 15 → j ≠ 34 → am_I h' f j = am_I h f j)
theorem fNd_r (f : Nat) (h : am_H) : fNd f h h := ⟨rfl, rfl, rfl, rfl, rfl, fun _ _ _ => rfl, fun _ _ _ => rfl⟩
theorem fNd_t {f : Nat} {a b c : am_H} (h1 : fNd f a b) (h2 : fNd f b c) : fNd f a c := by
  obtain ⟨a1, a2, a3, a4, a5, a6, a7⟩ := h1
  obtain ⟨b1, b2, b3, b4, b5, b6, b7⟩ := h2
  exact ⟨b1.trans a1, b2.trans a2, b3.trans a3, b4.trans a4, b5.trans a5, fun x p q => (b6 x p q).trans (a6 x p q), fun j p q => (b7 j p q).trans (a7 j p q)⟩
theorem fNd_f {f : Nat} {h0 h : am_H} (q : fNd f h0 h) {j : Nat} (hj : j = 15 ∨ j = 34) (v : Int32) : fNd f h0 (am_sI h f j v) := by
  refine fNd_t q ⟨rfl, rfl, rfl, rfl, rfl, fun b p _ => ?_, fun i p r => ?_⟩
  · funext i
    rw [pc_I_I, if_neg (by omega)]
  · rw [pc_I_I, if_neg (by omega)]
theorem fNd_w {f : Nat} {h0 h : am_H} (q : fNd f h0 h) {c : Nat} (h1 : 1522 ≤ c) (h2 : c < 1529) (j : Nat) (v : Int32) : fNd f h0 (am_sI h (f + c) j v) := by
  refine fNd_t q ⟨rfl, rfl, rfl, rfl, rfl, fun b p r => ?_, fun i p r => ?_⟩
  · funext i
    rw [pc_I_I, if_neg (by omega)]
  · rw [pc_I_I, if_neg (by omega)]
theorem fNd_at {f : Nat} {h h' : am_H} (q : fNd f h h') (H : RfAt h f) : RfAt h' f := RfAt_of H q.2.2.1 (fun b _ _ => by rw [q.2.1])
theorem fNd_rw {f r : Nat} {O : o_T} {h h' : am_H} (q : fNd f h h') (hr : r = f + 3 ∨ r = f + 4) (H : RwR h r O) : RwR h' r O := Rw_of H q.2.2.1 (q.2.2.2.2.2.1 r (by omega) (by omega))
/-- the nodes are laid out -/
def RfN (h : am_H) (f : Nat) (O : o_T) (B : Nat → Prop) : Prop := am_I h f 34 = nI (q_M O B) ∧ (∀ a, a < o_N O → am_I h (f + 1522) a = q_nc O B a) ∧ (∀ n, n < q_M O B → am_I h (f + 1524) n = wI (q_ov O B n) ∧ am_I h (f + 1525) n = wI (fun m => q_ov O B m n) ∧ am_I h (f + 1526) n = wI (q_pa O B n) ∧ am_I h (f + 1527) n = wI (fun m => q_pa O B m n) ∧ am_I h (f + 1528) n = nI (q_de O B n))
theorem q_nc0 {O : o_T} {B : Nat → Prop} {a : Nat} (ok : o_ok O) (ha : a < o_N O) : (q_nc O B a < 0) ↔ ¬ q_nv O B a := by
  have hM := q_Mle O B
  have okN := ok.1
  by_cases hv : q_nv O B a
  · rw [q_nc3 hv]
    have := q_nolim hv
    exact ⟨fun c => absurd c (nI_pos (by omega)), fun c => absurd hv c⟩
  · refine ⟨fun _ => hv, fun _ => ?_⟩
    by_cases h1 : q_vo O B a
    · rw [q_nc1 h1]; decide
    · by_cases h2 : q_tp O B a
      · rw [q_nc2 h1 h2]; decide
      · exact absurd ⟨ha, h1, h2⟩ hv
/-- the first part: the node of each name -/
theorem Rf_nodes24 {h : am_H} {f : Nat} {O : o_T} {B : Nat → Prop} (H : RfAt h f) (R : RwR h (f + 3) O) (S : RfS h f (o_P O) (l_A O B) (l_K O B)) (h0 : am_I h f 34 = 0) (d : Nat) :
    ∃ h', f_Rf_laysNodes_24 (d + 3) h f 0 = f_Rf_laysNodes_189 (d + 3) h' f 0 ∧ fNd f h h' ∧ am_I h' f 15 = am_I h f 15 ∧ am_I h' f 34 = nI (q_M O B) ∧ (∀ a, a < o_N O → am_I h' (f + 1522) a = q_nc O B a) ∧ (∀ n, n < q_M O B → am_I h' (f + 1523) n = nI (q_rp O B n)) := by
  have ok := R.2.1
  have okN := ok.1
  have okP := ok.2.2.2.1
  have okP2 := ok.2.2.1
  have key : ∀ k, k ≤ o_N O → ∀ u : am_H, fNd f h u → am_I u f 15 = am_I h f 15 → am_I u f 34 = nI (q_ct O B k) → (∀ a, a < k → am_I u (f + 1522) a = q_nc O B a) → (∀ n, n < q_ct O B k → am_I u (f + 1523) n = nI (q_rp O B n)) →
      ∃ h', f_Rf_laysNodes_24 (d + 3) u f (nI k) = f_Rf_laysNodes_189 (d + 3) h' f 0 ∧ fNd f h h' ∧ am_I h' f 15 = am_I h f 15 ∧ am_I h' f 34 = nI (q_M O B) ∧ (∀ a, a < o_N O → am_I h' (f + 1522) a = q_nc O B a) ∧ (∀ n, n < q_M O B → am_I h' (f + 1523) n = nI (q_rp O B n)) := by
    refine dn ?_ ?_
    · intro u q e15 e34 a1 a2
      have Hu := fNd_at q H
      have Ru := fNd_rw q (Or.inl rfl) R
      refine ⟨u, ?_, q, e15, e34, a1, a2⟩
      rw [e_Rf_laysNodes_24]
      simp (disch := first | assumption | omega) only [hc_ck, hc_gi, hc_gl, hc_gp, ap_I, ap_L, kd_I, kd_L, kd_P, kd_rI, ar_I, ar_L, ar_P, al_I, al_L, al_P, hop_s, cond_true, cond_false, pc_I_I, pc_L_L, pc_P_P, pc_I_L, pc_I_P, pc_L_I, pc_L_P, pc_P_I, pc_P_L, pc_sS_I, pc_sS_L, pc_sS_P, I_rI, L_rI, P_rI, S_rI, cv_r, ci_r, cl_r, o1_b, o1_0, o1_1, lc_e, nI_1, nI_add, if_true, if_false, Nat.reduceEqDiff, Nat.left_eq_add, Nat.add_eq_left, false_and, and_false, true_and, and_true, and_self, eq_self, Rf_k, Rf_p9, n_0, Rw_ar, Rw_N, n_le, Nat.le_refl]
    · intro k hk ih u q e15 e34 a1 a2
      have Hu := fNd_at q H
      have Ru := fNd_rw q (Or.inl rfl) R
      have hk3 : ¬ o_N O ≤ k := by omega
      have hp := (o_np_s ok hk).1
      have hcl := q_ctle O B k
      have Lx : ∀ x, x < o_P O → am_L u (f + 6) x = wL (l_A O B x) := fun x hx => by rw [q.1]; exact (S x hx).1
      obtain ⟨b1, eb1, hb1⟩ := Rf_isVoid Hu (show o_np O k < 480 by omega) (Lx _ hp) (d + 1)
      obtain ⟨b2, eb2, hb2⟩ := Rf_isBelow Hu (show 0 < 480 by omega) (show o_np O k < 64 by omega) (Lx 0 (by omega)) (d + 1)
      -- behind the names before it
      have fin : ∀ (v : am_H), fNd f h v → am_I v f 15 = am_I h f 15 → am_I v f 34 = nI (q_ct O B k) → (∀ a, a < k → am_I v (f + 1522) a = q_nc O B a) → am_I v (f + 1522) k = q_nc O B k → (∀ n, n < q_ct O B k → am_I v (f + 1523) n = nI (q_rp O B n)) →
          ∃ h', f_Rf_laysNodes_145 (d + 3) v f (nI k) = f_Rf_laysNodes_189 (d + 3) h' f 0 ∧ fNd f h h' ∧ am_I h' f 15 = am_I h f 15 ∧ am_I h' f 34 = nI (q_M O B) ∧ (∀ a, a < o_N O → am_I h' (f + 1522) a = q_nc O B a) ∧ (∀ n, n < q_M O B → am_I h' (f + 1523) n = nI (q_rp O B n)) := by
        intro v qv v15 v34 va vk vn
        have Hv := fNd_at qv H
        have allA : ∀ w : am_H, am_I w (f + 1522) = am_I v (f + 1522) → ∀ a, a < k + 1 → am_I w (f + 1522) a = q_nc O B a := by
          intro w e a ha
          rw [e]
          by_cases e' : a = k
          · subst e'; exact vk
          · exact va a (by omega)
        rw [e_Rf_laysNodes_145]
        simp (disch := first | assumption | omega) only [hc_ck, hc_gi, hc_gl, hc_gp, ap_I, ap_L, kd_I, kd_L, kd_P, kd_rI, ar_I, ar_L, ar_P, al_I, al_L, al_P, hop_s, cond_true, cond_false, pc_I_I, pc_L_L, pc_P_P, pc_I_L, pc_I_P, pc_L_I, pc_L_P, pc_P_I, pc_P_L, pc_sS_I, pc_sS_L, pc_sS_P, I_rI, L_rI, P_rI, S_rI, cv_r, ci_r, cl_r, o1_b, o1_0, o1_1, lc_e, nI_1, nI_add, if_true, if_false, Nat.reduceEqDiff, Nat.left_eq_add, Nat.add_eq_left, false_and, and_false, true_and, and_true, and_self, eq_self, Rf_k, Rf_p27, Rf_r1522, vk, v34]
        by_cases c : q_re O B k
        · have hct : q_ct O B (k + 1) = q_ct O B k + 1 := ct_s1 c
          have hno : q_no O B k = q_ct O B k := by
            show ct _ (h_le _ _ _ _ k) = ct _ k
            rw [h_le_re (q_r O B) c]
          rw [if_pos (by rw [q_nc3 c.1, hno])]
          simp (disch := first | assumption | omega) only [hc_ck, hc_gi, hc_gl, hc_gp, ap_I, ap_L, kd_I, kd_L, kd_P, kd_rI, ar_I, ar_L, ar_P, al_I, al_L, al_P, hop_s, cond_true, cond_false, pc_I_I, pc_L_L, pc_P_P, pc_I_L, pc_I_P, pc_L_I, pc_L_P, pc_P_I, pc_P_L, pc_sS_I, pc_sS_L, pc_sS_P, I_rI, L_rI, P_rI, S_rI, cv_r, ci_r, cl_r, o1_b, o1_0, o1_1, lc_e, nI_1, nI_add, if_true, if_false, Nat.reduceEqDiff, Nat.left_eq_add, Nat.add_eq_left, false_and, and_false, true_and, and_true, and_self, eq_self, Rf_k, Rf_p28, v34, Rf_r1523]
          refine ih _ (fNd_f (fNd_w qv (by omega) (by omega) _ _) (Or.inr rfl) _) ?_ ?_ ?_ ?_
          · simp only [hc_ck, hc_gi, hc_gl, hc_gp, ap_I, ap_L, kd_I, kd_L, kd_P, kd_rI, ar_I, ar_L, ar_P, al_I, al_L, al_P, hop_s, cond_true, cond_false, pc_I_I, pc_L_L, pc_P_P, pc_I_L, pc_I_P, pc_L_I, pc_L_P, pc_P_I, pc_P_L, pc_sS_I, pc_sS_L, pc_sS_P, I_rI, L_rI, P_rI, S_rI, cv_r, ci_r, cl_r, o1_b, o1_0, o1_1, lc_e, nI_1, nI_add, if_true, if_false, Nat.reduceEqDiff, Nat.left_eq_add, Nat.add_eq_left, false_and, and_false, true_and, and_true, and_self, eq_self]; exact v15
          · simp only [hc_ck, hc_gi, hc_gl, hc_gp, ap_I, ap_L, kd_I, kd_L, kd_P, kd_rI, ar_I, ar_L, ar_P, al_I, al_L, al_P, hop_s, cond_true, cond_false, pc_I_I, pc_L_L, pc_P_P, pc_I_L, pc_I_P, pc_L_I, pc_L_P, pc_P_I, pc_P_L, pc_sS_I, pc_sS_L, pc_sS_P, I_rI, L_rI, P_rI, S_rI, cv_r, ci_r, cl_r, o1_b, o1_0, o1_1, lc_e, nI_1, nI_add, if_true, if_false, Nat.reduceEqDiff, Nat.left_eq_add, Nat.add_eq_left, false_and, and_false, true_and, and_true, and_self, eq_self, hct]
          · exact allA _ (by funext z; simp only [hc_ck, hc_gi, hc_gl, hc_gp, ap_I, ap_L, kd_I, kd_L, kd_P, kd_rI, ar_I, ar_L, ar_P, al_I, al_L, al_P, hop_s, cond_true, cond_false, pc_I_I, pc_L_L, pc_P_P, pc_I_L, pc_I_P, pc_L_I, pc_L_P, pc_P_I, pc_P_L, pc_sS_I, pc_sS_L, pc_sS_P, I_rI, L_rI, P_rI, S_rI, cv_r, ci_r, cl_r, o1_b, o1_0, o1_1, lc_e, nI_1, nI_add, if_true, if_false, Nat.reduceEqDiff, Nat.left_eq_add, Nat.add_eq_left, false_and, and_false, true_and, and_true, and_self, eq_self])
          · intro n hn
            simp only [hc_ck, hc_gi, hc_gl, hc_gp, ap_I, ap_L, kd_I, kd_L, kd_P, kd_rI, ar_I, ar_L, ar_P, al_I, al_L, al_P, hop_s, cond_true, cond_false, pc_I_I, pc_L_L, pc_P_P, pc_I_L, pc_I_P, pc_L_I, pc_L_P, pc_P_I, pc_P_L, pc_sS_I, pc_sS_L, pc_sS_P, I_rI, L_rI, P_rI, S_rI, cv_r, ci_r, cl_r, o1_b, o1_0, o1_1, lc_e, nI_1, nI_add, if_true, if_false, Nat.reduceEqDiff, Nat.left_eq_add, Nat.add_eq_left, false_and, and_false, true_and, and_true, and_self, eq_self]
            by_cases e : n = q_ct O B k
            · rw [if_pos e, e]
              show nI k = nI (h_rp _ _ _ _ _)
              rw [show h_rp (o_N O) (q_vo O B) (q_tp O B) (q_nb O B) (q_ct O B k) = k from h_rp_of c]
            · rw [if_neg e]
              exact vn n (by omega)
        · have hct : q_ct O B (k + 1) = q_ct O B k := ct_s0 c
          have hne : ¬ q_nc O B k = nI (q_ct O B k) := by
            intro e
            by_cases hv : q_nv O B k
            · rw [q_nc3 hv] at e
              have hlt := q_nolt (B := B) hv (show k < k + 1 by omega)
              rw [hct] at hlt
              rw [nI_e32 (by omega) (by omega)] at e
              omega
            · have := (q_nc0 ok hk).mpr hv
              rw [e] at this
              exact absurd this (nI_pos (by omega))
          rw [if_neg hne]
          refine ih v qv v15 (by rw [hct]; exact v34) (allA v rfl) ?_
          rw [hct]
          exact vn
      rw [e_Rf_laysNodes_24]
      simp (disch := first | assumption | omega) only [hc_ck, hc_gi, hc_gl, hc_gp, ap_I, ap_L, kd_I, kd_L, kd_P, kd_rI, ar_I, ar_L, ar_P, al_I, al_L, al_P, hop_s, cond_true, cond_false, pc_I_I, pc_L_L, pc_P_P, pc_I_L, pc_I_P, pc_L_I, pc_L_P, pc_P_I, pc_P_L, pc_sS_I, pc_sS_L, pc_sS_P, I_rI, L_rI, P_rI, S_rI, cv_r, ci_r, cl_r, o1_b, o1_0, o1_1, lc_e, nI_1, nI_add, if_true, if_false, Nat.reduceEqDiff, Nat.left_eq_add, Nat.add_eq_left, false_and, and_false, true_and, and_true, and_self, eq_self, Rf_k, Rf_p9, n_0, Rw_ar, Rw_N, n_le, hk3, Rf_namePart, Rf_p27, eb1, eb2, bo_0, bo_n0, e34, Rf_r1522]
      -- a name without a node of its own
      have leave : ∀ w : Int32, w = q_nc O B k → ¬ q_nv O B k → ∃ h', f_Rf_laysNodes_78 (d + 3) (am_sI u (f + 1522) k w) f (nI k) (nI (o_np O k)) (nI 0) = f_Rf_laysNodes_189 (d + 3) h' f (nI 0) ∧ fNd f h h' ∧ am_I h' f 15 = am_I h f 15 ∧ am_I h' f 34 = nI (q_M O B) ∧ (∀ a, a < o_N O → am_I h' (f + 1522) a = q_nc O B a) ∧ (∀ n, n < q_M O B → am_I h' (f + 1523) n = nI (q_rp O B n)) := by
        intro w hw hv
        have q2 : fNd f h (am_sI u (f + 1522) k w) := fNd_w q (by omega) (by omega) _ _
        have H2 := fNd_at q2 H
        have hneg : w < nI 0 := by rw [hw]; exact (q_nc0 ok hk).mpr hv
        have hf := fin (am_sI u (f + 1522) k w) q2 (by simp only [hc_ck, hc_gi, hc_gl, hc_gp, ap_I, ap_L, kd_I, kd_L, kd_P, kd_rI, ar_I, ar_L, ar_P, al_I, al_L, al_P, hop_s, cond_true, cond_false, pc_I_I, pc_L_L, pc_P_P, pc_I_L, pc_I_P, pc_L_I, pc_L_P, pc_P_I, pc_P_L, pc_sS_I, pc_sS_L, pc_sS_P, I_rI, L_rI, P_rI, S_rI, cv_r, ci_r, cl_r, o1_b, o1_0, o1_1, lc_e, nI_1, nI_add, if_true, if_false, Nat.reduceEqDiff, Nat.left_eq_add, Nat.add_eq_left, false_and, and_false, true_and, and_true, and_self, eq_self]; exact e15) (by simp only [hc_ck, hc_gi, hc_gl, hc_gp, ap_I, ap_L, kd_I, kd_L, kd_P, kd_rI, ar_I, ar_L, ar_P, al_I, al_L, al_P, hop_s, cond_true, cond_false, pc_I_I, pc_L_L, pc_P_P, pc_I_L, pc_I_P, pc_L_I, pc_L_P, pc_P_I, pc_P_L, pc_sS_I, pc_sS_L, pc_sS_P, I_rI, L_rI, P_rI, S_rI, cv_r, ci_r, cl_r, o1_b, o1_0, o1_1, lc_e, nI_1, nI_add, if_true, if_false, Nat.reduceEqDiff, Nat.left_eq_add, Nat.add_eq_left, false_and, and_false, true_and, and_true, and_self, eq_self]; exact e34) (fun a ha => by
          rw [pc_I_I, if_neg (by omega)]; exact a1 a ha) (by rw [pc_I_I, if_pos ⟨rfl, rfl⟩]; exact hw) (fun n hn => by
          rw [pc_I_I, if_neg (by omega)]; exact a2 n hn)
        rw [e_Rf_laysNodes_78]
        simp (disch := first | assumption | omega) only [hc_ck, hc_gi, hc_gl, hc_gp, ap_I, ap_L, kd_I, kd_L, kd_P, kd_rI, ar_I, ar_L, ar_P, al_I, al_L, al_P, hop_s, cond_true, cond_false, pc_I_I, pc_L_L, pc_P_P, pc_I_L, pc_I_P, pc_L_I, pc_L_P, pc_P_I, pc_P_L, pc_sS_I, pc_sS_L, pc_sS_P, I_rI, L_rI, P_rI, S_rI, cv_r, ci_r, cl_r, o1_b, o1_0, o1_1, lc_e, nI_1, nI_add, if_true, if_false, Nat.reduceEqDiff, Nat.left_eq_add, Nat.add_eq_left, false_and, and_false, true_and, and_true, and_self, eq_self, Rf_k, Rf_p27, Rf_r1522, n_0, hneg, ite_self]
        exact hf
      cases b1 with
      | true =>
        have hv : q_vo O B k := hb1.mp rfl
        simp only [Bool.true_eq_false, if_false]
        exact leave (-1) (q_nc1 hv).symm (fun c => c.2.1 hv)
      | false =>
        have hv : ¬ q_vo O B k := fun c => absurd (hb1.mpr c) (by decide)
        simp only [if_true]
        cases b2 with
        | true =>
          have ht : q_tp O B k := hb2.mp rfl
          simp only [Bool.true_eq_false, if_false]
          exact leave (-2) (q_nc2 hv ht).symm (fun c => c.2.2 ht)
        | false =>
          have ht : ¬ q_tp O B k := fun c => absurd (hb2.mpr c) (by decide)
          have hnv : q_nv O B k := ⟨hk, hv, ht⟩
          have hnok := q_nolt (B := B) hnv (show k < k + 1 by omega)
          have hc1 := q_ctle O B (k + 1)
          simp only [if_true]
          have inner : ∀ i, i ≤ k → ∀ v : am_H, fNd f h v → am_I v f 15 = am_I h f 15 → am_I v f 34 = nI (q_ct O B k) → (∀ a, a < k → am_I v (f + 1522) a = q_nc O B a) → (∀ n, n < q_ct O B k → am_I v (f + 1523) n = nI (q_rp O B n)) → (am_I v (f + 1522) k = nI (q_no O B k) ∨ (am_I v (f + 1522) k = nI (q_ct O B k) ∧ ¬ ∃ b, b < i ∧ q_nv O B b ∧ h_mu (q_nb O B) k b)) →
              ∃ h', f_Rf_laysNodes_78 (d + 3) v f (nI k) (nI (o_np O k)) (nI i) = f_Rf_laysNodes_189 (d + 3) h' f 0 ∧ fNd f h h' ∧ am_I h' f 15 = am_I h f 15 ∧ am_I h' f 34 = nI (q_M O B) ∧ (∀ a, a < o_N O → am_I h' (f + 1522) a = q_nc O B a) ∧ (∀ n, n < q_M O B → am_I h' (f + 1523) n = nI (q_rp O B n)) := by
            refine dn ?_ ?_
            · intro v qv v15 v34 va vn vk
              rw [e_Rf_laysNodes_78]
              simp (disch := first | assumption | omega) only [hc_ck, hc_gi, hc_gl, hc_gp, ap_I, ap_L, kd_I, kd_L, kd_P, kd_rI, ar_I, ar_L, ar_P, al_I, al_L, al_P, hop_s, cond_true, cond_false, pc_I_I, pc_L_L, pc_P_P, pc_I_L, pc_I_P, pc_L_I, pc_L_P, pc_P_I, pc_P_L, pc_sS_I, pc_sS_L, pc_sS_P, I_rI, L_rI, P_rI, S_rI, cv_r, ci_r, cl_r, o1_b, o1_0, o1_1, lc_e, nI_1, nI_add, if_true, if_false, Nat.reduceEqDiff, Nat.left_eq_add, Nat.add_eq_left, false_and, and_false, true_and, and_true, and_self, eq_self, n_le, Nat.le_refl]
              refine fin v qv v15 v34 va ?_ vn
              rw [q_nc3 hnv]
              rcases vk with e | ⟨e, c⟩
              · exact e
              · rw [e]
                have hre : q_re O B k := ⟨hnv, fun b hb hb2 hm => c ⟨b, hb, hb2, hm⟩⟩
                show nI (ct _ k) = nI (ct _ (h_le _ _ _ _ k))
                rw [h_le_re (q_r O B) hre]
            · intro i hi ih2 v qv v15 v34 va vn vk
              have Hv := fNd_at qv H
              have Rv := fNd_rw qv (Or.inl rfl) R
              have hi3 : ¬ k ≤ i := by omega
              have hiN : i < o_N O := by omega
              have hpi := (o_np_s ok hiN).1
              have Lv : ∀ x, x < o_P O → am_L v (f + 6) x = wL (l_A O B x) := fun x hx => by rw [qv.1]; exact (S x hx).1
              obtain ⟨c1, ec1, hc1'⟩ := Rf_isBelow Hv (show o_np O k < 480 by omega) (show o_np O i < 64 by omega) (Lv _ hp) (d + 1)
              obtain ⟨c2, ec2, hc2'⟩ := Rf_isBelow Hv (show o_np O i < 480 by omega) (show o_np O k < 64 by omega) (Lv _ hpi) (d + 1)
              have hk0 : ¬ am_I v (f + 1522) k < 0 := by
                rcases vk with e | ⟨e, -⟩
                · rw [e]; exact nI_pos (by omega)
                · rw [e]; exact nI_pos (by omega)
              have go : ¬ (q_nv O B i ∧ h_mu (q_nb O B) k i) → ∃ h', f_Rf_laysNodes_78 (d + 3) v f (nI k) (nI (o_np O k)) (nI (i + 1)) = f_Rf_laysNodes_189 (d + 3) h' f 0 ∧ fNd f h h' ∧ am_I h' f 15 = am_I h f 15 ∧ am_I h' f 34 = nI (q_M O B) ∧ (∀ a, a < o_N O → am_I h' (f + 1522) a = q_nc O B a) ∧ (∀ n, n < q_M O B → am_I h' (f + 1523) n = nI (q_rp O B n)) := by
                intro c
                refine ih2 v qv v15 v34 va vn (vk.imp id (fun e => ⟨e.1, ?_⟩))
                rintro ⟨b, b1, b2⟩
                by_cases e' : b = i
                · subst e'; exact c b2
                · exact e.2 ⟨b, by omega, b2⟩
              rw [e_Rf_laysNodes_78]
              simp (disch := first | assumption | omega) only [hc_ck, hc_gi, hc_gl, hc_gp, ap_I, ap_L, kd_I, kd_L, kd_P, kd_rI, ar_I, ar_L, ar_P, al_I, al_L, al_P, hop_s, cond_true, cond_false, pc_I_I, pc_L_L, pc_P_P, pc_I_L, pc_I_P, pc_L_I, pc_L_P, pc_P_I, pc_P_L, pc_sS_I, pc_sS_L, pc_sS_P, I_rI, L_rI, P_rI, S_rI, cv_r, ci_r, cl_r, o1_b, o1_0, o1_1, lc_e, nI_1, nI_add, if_true, if_false, Nat.reduceEqDiff, Nat.left_eq_add, Nat.add_eq_left, false_and, and_false, true_and, and_true, and_self, eq_self, n_le, hi3, Rf_k, Rf_p27, Rf_r1522, va i hi, hk0]
              by_cases hvi : q_nv O B i
              · rw [if_neg (fun e => (q_nc0 ok hiN).mp e hvi)]
                simp (disch := first | assumption | omega) only [hc_ck, hc_gi, hc_gl, hc_gp, ap_I, ap_L, kd_I, kd_L, kd_P, kd_rI, ar_I, ar_L, ar_P, al_I, al_L, al_P, hop_s, cond_true, cond_false, pc_I_I, pc_L_L, pc_P_P, pc_I_L, pc_I_P, pc_L_I, pc_L_P, pc_P_I, pc_P_L, pc_sS_I, pc_sS_L, pc_sS_P, I_rI, L_rI, P_rI, S_rI, cv_r, ci_r, cl_r, o1_b, o1_0, o1_1, lc_e, nI_1, nI_add, if_true, if_false, Nat.reduceEqDiff, Nat.left_eq_add, Nat.add_eq_left, false_and, and_false, true_and, and_true, and_self, eq_self, Rf_k, Rf_namePart, ec1, bo_0]
                cases c1 with
                | false =>
                  simp only [if_true]
                  exact go (fun c => absurd (hc1'.mpr c.2.1) (by decide))
                | true =>
                  simp (disch := first | assumption | omega) only [hc_ck, hc_gi, hc_gl, hc_gp, ap_I, ap_L, kd_I, kd_L, kd_P, kd_rI, ar_I, ar_L, ar_P, al_I, al_L, al_P, hop_s, cond_true, cond_false, pc_I_I, pc_L_L, pc_P_P, pc_I_L, pc_I_P, pc_L_I, pc_L_P, pc_P_I, pc_P_L, pc_sS_I, pc_sS_L, pc_sS_P, I_rI, L_rI, P_rI, S_rI, cv_r, ci_r, cl_r, o1_b, o1_0, o1_1, lc_e, nI_1, nI_add, if_true, if_false, Nat.reduceEqDiff, Nat.left_eq_add, Nat.add_eq_left, false_and, and_false, true_and, and_true, and_self, eq_self, Bool.true_eq_false, Rf_k, Rf_namePart, ec2, bo_0]
                  cases c2 with
                  | false =>
                    simp only [if_true]
                    exact go (fun c => absurd (hc2'.mpr c.2.2) (by decide))
                  | true =>
                    simp (disch := first | assumption | omega) only [hc_ck, hc_gi, hc_gl, hc_gp, ap_I, ap_L, kd_I, kd_L, kd_P, kd_rI, ar_I, ar_L, ar_P, al_I, al_L, al_P, hop_s, cond_true, cond_false, pc_I_I, pc_L_L, pc_P_P, pc_I_L, pc_I_P, pc_L_I, pc_L_P, pc_P_I, pc_P_L, pc_sS_I, pc_sS_L, pc_sS_P, I_rI, L_rI, P_rI, S_rI, cv_r, ci_r, cl_r, o1_b, o1_0, o1_1, lc_e, nI_1, nI_add, if_true, if_false, Nat.reduceEqDiff, Nat.left_eq_add, Nat.add_eq_left, false_and, and_false, true_and, and_true, and_self, eq_self, Bool.true_eq_false, Rf_k, Rf_p27, Rf_r1522, va i hi]
                    have hm : h_mu (q_nb O B) k i := ⟨hc1'.mp rfl, hc2'.mp rfl⟩
                    have heq : q_nc O B i = nI (q_no O B k) := by
                      rw [q_nc3 hvi]
                      show nI (h_no _ _ _ _ i) = nI (h_no _ _ _ _ k)
                      rw [(h_no_mu (q_r O B) (q_t O B) hnv hvi).mpr hm]
                    refine ih2 _ (fNd_w qv (by omega) (by omega) _ _) ?_ ?_ ?_ ?_ (Or.inl ?_)
                    · simp only [hc_ck, hc_gi, hc_gl, hc_gp, ap_I, ap_L, kd_I, kd_L, kd_P, kd_rI, ar_I, ar_L, ar_P, al_I, al_L, al_P, hop_s, cond_true, cond_false, pc_I_I, pc_L_L, pc_P_P, pc_I_L, pc_I_P, pc_L_I, pc_L_P, pc_P_I, pc_P_L, pc_sS_I, pc_sS_L, pc_sS_P, I_rI, L_rI, P_rI, S_rI, cv_r, ci_r, cl_r, o1_b, o1_0, o1_1, lc_e, nI_1, nI_add, if_true, if_false, Nat.reduceEqDiff, Nat.left_eq_add, Nat.add_eq_left, false_and, and_false, true_and, and_true, and_self, eq_self]; exact v15
                    · simp only [hc_ck, hc_gi, hc_gl, hc_gp, ap_I, ap_L, kd_I, kd_L, kd_P, kd_rI, ar_I, ar_L, ar_P, al_I, al_L, al_P, hop_s, cond_true, cond_false, pc_I_I, pc_L_L, pc_P_P, pc_I_L, pc_I_P, pc_L_I, pc_L_P, pc_P_I, pc_P_L, pc_sS_I, pc_sS_L, pc_sS_P, I_rI, L_rI, P_rI, S_rI, cv_r, ci_r, cl_r, o1_b, o1_0, o1_1, lc_e, nI_1, nI_add, if_true, if_false, Nat.reduceEqDiff, Nat.left_eq_add, Nat.add_eq_left, false_and, and_false, true_and, and_true, and_self, eq_self]; exact v34
                    · intro a ha
                      rw [pc_I_I, if_neg (by omega)]; exact va a ha
                    · intro n hn
                      rw [pc_I_I, if_neg (by omega)]; exact vn n hn
                    · rw [pc_I_I, if_pos ⟨rfl, rfl⟩]; exact heq
              · rw [if_pos ((q_nc0 ok hiN).mpr hvi)]
                exact go (fun c => hvi c.1)
          refine inner 0 (Nat.zero_le _) _ (fNd_w q (by omega) (by omega) _ _) ?_ ?_ ?_ ?_ (Or.inr ⟨?_, fun ⟨b, c, _⟩ => absurd c (Nat.not_lt_zero b)⟩)
          · simp only [hc_ck, hc_gi, hc_gl, hc_gp, ap_I, ap_L, kd_I, kd_L, kd_P, kd_rI, ar_I, ar_L, ar_P, al_I, al_L, al_P, hop_s, cond_true, cond_false, pc_I_I, pc_L_L, pc_P_P, pc_I_L, pc_I_P, pc_L_I, pc_L_P, pc_P_I, pc_P_L, pc_sS_I, pc_sS_L, pc_sS_P, I_rI, L_rI, P_rI, S_rI, cv_r, ci_r, cl_r, o1_b, o1_0, o1_1, lc_e, nI_1, nI_add, if_true, if_false, Nat.reduceEqDiff, Nat.left_eq_add, Nat.add_eq_left, false_and, and_false, true_and, and_true, and_self, eq_self]; exact e15
          · simp only [hc_ck, hc_gi, hc_gl, hc_gp, ap_I, ap_L, kd_I, kd_L, kd_P, kd_rI, ar_I, ar_L, ar_P, al_I, al_L, al_P, hop_s, cond_true, cond_false, pc_I_I, pc_L_L, pc_P_P, pc_I_L, pc_I_P, pc_L_I, pc_L_P, pc_P_I, pc_P_L, pc_sS_I, pc_sS_L, pc_sS_P, I_rI, L_rI, P_rI, S_rI, cv_r, ci_r, cl_r, o1_b, o1_0, o1_1, lc_e, nI_1, nI_add, if_true, if_false, Nat.reduceEqDiff, Nat.left_eq_add, Nat.add_eq_left, false_and, and_false, true_and, and_true, and_self, eq_self]; exact e34
          · intro a ha
            rw [pc_I_I, if_neg (by omega)]; exact a1 a ha
          · intro n hn
            rw [pc_I_I, if_neg (by omega)]; exact a2 n hn
          · rw [pc_I_I, if_pos ⟨rfl, rfl⟩]
  exact key 0 (Nat.zero_le _) h (fNd_r _ _) rfl h0 (fun a ha => absurd ha (Nat.not_lt_zero a)) (fun n hn => absurd hn (Nat.not_lt_zero n))
