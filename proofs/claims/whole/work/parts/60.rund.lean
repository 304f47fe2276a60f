/-! ===== the reference: under, the first round ===== -/
def fU (f : Nat) (h h' : am_H) : Prop := am_L h' = am_L h ∧ am_P h' = am_P h ∧ am_S h' = am_S h ∧ am_G h' = am_G h ∧ am_T h' = am_T h ∧ ∀ b, b ≠ f + 1460 → am_I h' b = am_I h b
theorem fU_r (f : Nat) (h : am_H) : fU f h h := ⟨rfl, rfl, rfl, rfl, rfl, fun _ _ => rfl⟩
theorem fU_w {f : Nat} {h0 h : am_H} (q : fU f h0 h) (i : Nat) (v : Int32) : fU f h0 (am_sI h (f + 1460) i v) := by
  obtain ⟨a1, a2, a3, a4, a5, a6⟩ := q
  refine ⟨a1, a2, a3, a4, a5, fun b hb => ?_⟩
  rw [← a6 b hb]
  funext j
  rw [pc_I_I, if_neg (by omega)]
theorem fU_at {f : Nat} {h h' : am_H} (q : fU f h h') (H : RfAt h f) : RfAt h' f := RfAt_of H q.2.2.1 (fun b _ _ => by rw [q.2.1])
theorem fU_rw {f r : Nat} {O : o_T} {h h' : am_H} (q : fU f h h') (hr : r ≠ f + 1460) (H : RwR h r O) : RwR h' r O := Rw_of H q.2.2.1 (q.2.2.2.2.2 r hr)
def RfU (h : am_H) (f : Nat) (O : o_T) (B : Nat → Prop) : Prop := ∀ r, r < 8 → am_I h (f + 1460) r = wI (o_un O B r)
theorem o_un_x {O : o_T} {B : Nat → Prop} (ok : o_ok O) {r q : Nat} (h : o_un O B r q) : r < o_R O ∨ q = r := by
  obtain ⟨n, h⟩ := h
  induction n generalizing q with
  | zero => exact Or.inr h.symm
  | succ n ih =>
    obtain ⟨p, h1, h2⟩ := h
    rcases ih h1 with e | e
    · exact Or.inl e
    · exact Or.inl (e ▸ (o_dd ok h2).1)
theorem Rf_laysUnder {h : am_H} {f r : Nat} {O : o_T} (H : RfAt h f) (R : RwR h r O) (hr : r ≠ f + 1460) (B : Nat → Prop) (d : Nat) : ∃ h', f_Rf_laysUnder (d + 1) h f r (wL B) = some (.inr none, h') ∧ fU f h h' ∧ RfU h' f O B := by
  have ok := R.2.1
  have ok' := ok
  obtain ⟨-, ok2, ok3, ok4, ok5, -, -, -, okA, -⟩ := ok'
  -- passes
  have key : ∀ n, n ≤ 8 → ∀ (u : am_H) (U : Nat → Nat → Prop), fU f h u → (∀ r, r < 8 → am_I u (f + 1460) r = wI (U r)) → (∀ r, r < 8 → U r r) → (∀ r q, r < 8 → U r q → o_un O B r q) → (∀ m r q, m ≤ n → r < 8 → o_us O B m r q → U r q) → ∃ h', f_Rf_laysUnder_30 (d + 1) u f r (wL B) (nI n) = some (.inr none, h') ∧ fU f h h' ∧ RfU h' f O B := by
    refine dn ?_ ?_
    · intro u U q hU hrf hs hp
      refine ⟨u, ?_, q, ?_⟩
      · rw [e_Rf_laysUnder_30]
        simp (disch := first | assumption | omega) only [hc_ck, hc_gi, hc_gl, hc_gp, ap_I, ap_L, kd_I, kd_L, kd_P, kd_rI, ar_I, ar_L, ar_P, al_I, al_L, al_P, hop_s, cond_true, cond_false, pc_I_I, pc_L_L, pc_P_P, pc_I_L, pc_I_P, pc_L_I, pc_L_P, pc_P_I, pc_P_L, pc_sS_I, pc_sS_L, pc_sS_P, I_rI, L_rI, P_rI, S_rI, cv_r, ci_r, cl_r, o1_b, o1_0, o1_1, lc_e, nI_1, nI_add, if_true, if_false, Nat.reduceEqDiff, Nat.left_eq_add, Nat.add_eq_left, false_and, and_false, true_and, and_true, and_self, eq_self, n_8, n_le, Nat.le_refl]
      · intro r hr'
        rw [hU r hr']
        refine wI_cong (fun p _ => ⟨hs r p hr', fun g => ?_⟩)
        rcases o_un_x ok g with e | e
        · obtain ⟨m, h1, h2⟩ := o_un_7 ok e g
          exact hp m r p (by omega) hr' h2
        · exact e ▸ hrf r hr'
    · intro n hn ih u U q hU hrf hs hp
      have hn3 : ¬ 8 ≤ n := by omega
      have pass : ∀ k, k ≤ o_A O → ∀ (u : am_H) (V : Nat → Nat → Prop), fU f h u → (∀ r, r < 8 → am_I u (f + 1460) r = wI (V r)) → (∀ r q, r < 8 → U r q → V r q) → (∀ r q, r < 8 → V r q → o_un O B r q) → (∀ r j, r < 8 → j < k → B j → o_ak O j = 2 → U r (o_a1 O j) → V r (o_a2 O j)) → ∃ h', f_Rf_laysUnder_40 (d + 1) u f r (wL B) (nI n) (nI k) = some (.inr none, h') ∧ fU f h h' ∧ RfU h' f O B := by
        refine dn ?_ ?_
        · intro u V q hV hUV hVs hc
          have Ru := fU_rw q hr R
          rw [e_Rf_laysUnder_40]
          simp (disch := first | assumption | omega) only [hc_ck, hc_gi, hc_gl, hc_gp, ap_I, ap_L, kd_I, kd_L, kd_P, kd_rI, ar_I, ar_L, ar_P, al_I, al_L, al_P, hop_s, cond_true, cond_false, pc_I_I, pc_L_L, pc_P_P, pc_I_L, pc_I_P, pc_L_I, pc_L_P, pc_P_I, pc_P_L, pc_sS_I, pc_sS_L, pc_sS_P, I_rI, L_rI, P_rI, S_rI, cv_r, ci_r, cl_r, o1_b, o1_0, o1_1, lc_e, nI_1, nI_add, if_true, if_false, Nat.reduceEqDiff, Nat.left_eq_add, Nat.add_eq_left, false_and, and_false, true_and, and_true, and_self, eq_self, n_3, Rw_ar, Rw_A, n_le, Nat.le_refl]
          refine ih u V q hV (fun r hr' => hUV r r hr' (hrf r hr')) hVs ?_
          intro m r p hm hr' g
          cases m with
          | zero => exact hUV r p hr' (g ▸ hrf r hr')
          | succ m =>
            obtain ⟨z, h1, k, h2, h3, h4, rfl, rfl⟩ := g
            exact hc r k hr' h2 h3 h4 (hp m r _ (by omega) hr' h1)
        · intro k hk ih2 u V q hV hUV hVs hc
          have Ru := fU_rw q hr R
          have Hu := fU_at q H
          have hk3 : ¬ o_A O ≤ k := by omega
          have okk := okA k hk
          unfold o_okA at okk
          have go : ¬ (B k ∧ o_ak O k = 2) → ∃ h', f_Rf_laysUnder_40 (d + 1) u f r (wL B) (nI n) (nI (k + 1)) = some (.inr none, h') ∧ fU f h h' ∧ RfU h' f O B := by
            intro c
            refine ih2 u V q hV hUV hVs ?_
            intro r j hr' hj hB' h2 h3
            by_cases e : j = k
            · subst e; exact absurd ⟨hB', h2⟩ c
            · exact hc r j hr' (by omega) hB' h2 h3
          rw [e_Rf_laysUnder_40]
          simp (disch := first | assumption | omega) only [hc_ck, hc_gi, hc_gl, hc_gp, ap_I, ap_L, kd_I, kd_L, kd_P, kd_rI, ar_I, ar_L, ar_P, al_I, al_L, al_P, hop_s, cond_true, cond_false, pc_I_I, pc_L_L, pc_P_P, pc_I_L, pc_I_P, pc_L_I, pc_L_P, pc_P_I, pc_P_L, pc_sS_I, pc_sS_L, pc_sS_P, I_rI, L_rI, P_rI, S_rI, cv_r, ci_r, cl_r, o1_b, o1_0, o1_1, lc_e, nI_1, nI_add, if_true, if_false, Nat.reduceEqDiff, Nat.left_eq_add, Nat.add_eq_left, false_and, and_false, true_and, and_true, and_self, eq_self, n_3, Rw_ar, Rw_A, n_le, hk3, Rf_has, bo_0]
          by_cases hB : B k
          · simp (disch := first | assumption | omega) only [hc_ck, hc_gi, hc_gl, hc_gp, ap_I, ap_L, kd_I, kd_L, kd_P, kd_rI, ar_I, ar_L, ar_P, al_I, al_L, al_P, hop_s, cond_true, cond_false, pc_I_I, pc_L_L, pc_P_P, pc_I_L, pc_I_P, pc_L_I, pc_L_P, pc_P_I, pc_P_L, pc_sS_I, pc_sS_L, pc_sS_P, I_rI, L_rI, P_rI, S_rI, cv_r, ci_r, cl_r, o1_b, o1_0, o1_1, lc_e, nI_1, nI_add, if_true, if_false, Nat.reduceEqDiff, Nat.left_eq_add, Nat.add_eq_left, false_and, and_false, true_and, and_true, and_self, eq_self, show xl (wL B) k = true from wL_x.mpr ⟨by omega, hB⟩, Bool.true_eq_false, Rf_axiom0, n_2, n_eq]
            by_cases e2 : o_ak O k = 2
            · rw [if_pos e2]
              have f1 : o_a1 O k < o_R O := by omega
              have f2 : o_a2 O k < o_R O := by omega
              have hdi : o_di O B (o_a1 O k) (o_a2 O k) := ⟨k, hk, hB, e2, rfl, rfl⟩
              have inner : ∀ i, i ≤ 8 → ∀ (u : am_H) (V : Nat → Nat → Prop), fU f h u → (∀ r, r < 8 → am_I u (f + 1460) r = wI (V r)) → (∀ r q, r < 8 → U r q → V r q) → (∀ r q, r < 8 → V r q → o_un O B r q) → (∀ r j, r < 8 → j < k → B j → o_ak O j = 2 → U r (o_a1 O j) → V r (o_a2 O j)) → (∀ r, r < i → U r (o_a1 O k) → V r (o_a2 O k)) → ∃ h', f_Rf_laysUnder_71 (d + 1) u f r (wL B) (nI n) (nI k) (nI i) = some (.inr none, h') ∧ fU f h h' ∧ RfU h' f O B := by
                refine dn ?_ ?_
                · intro u V q hV hUV hVs hc hi
                  rw [e_Rf_laysUnder_71]
                  simp (disch := first | assumption | omega) only [hc_ck, hc_gi, hc_gl, hc_gp, ap_I, ap_L, kd_I, kd_L, kd_P, kd_rI, ar_I, ar_L, ar_P, al_I, al_L, al_P, hop_s, cond_true, cond_false, pc_I_I, pc_L_L, pc_P_P, pc_I_L, pc_I_P, pc_L_I, pc_L_P, pc_P_I, pc_P_L, pc_sS_I, pc_sS_L, pc_sS_P, I_rI, L_rI, P_rI, S_rI, cv_r, ci_r, cl_r, o1_b, o1_0, o1_1, lc_e, nI_1, nI_add, if_true, if_false, Nat.reduceEqDiff, Nat.left_eq_add, Nat.add_eq_left, false_and, and_false, true_and, and_true, and_self, eq_self, n_8, n_le, Nat.le_refl]
                  refine ih2 u V q hV hUV hVs ?_
                  intro r j hr' hj hB' h2 h3
                  by_cases e : j = k
                  · subst e; exact hi r hr' h3
                  · exact hc r j hr' (by omega) hB' h2 h3
                · intro i hi ih3 u V q hV hUV hVs hc hci
                  have Ru := fU_rw q hr R
                  have Hu := fU_at q H
                  have hi3 : ¬ 8 ≤ i := by omega
                  have ea : am_I u (f + 1460) i = wI (V i) := hV i hi
                  rw [e_Rf_laysUnder_71]
                  simp (disch := first | assumption | omega) only [hc_ck, hc_gi, hc_gl, hc_gp, ap_I, ap_L, kd_I, kd_L, kd_P, kd_rI, ar_I, ar_L, ar_P, al_I, al_L, al_P, hop_s, cond_true, cond_false, pc_I_I, pc_L_L, pc_P_P, pc_I_L, pc_I_P, pc_L_I, pc_L_P, pc_P_I, pc_P_L, pc_sS_I, pc_sS_L, pc_sS_P, I_rI, L_rI, P_rI, S_rI, cv_r, ci_r, cl_r, o1_b, o1_0, o1_1, lc_e, nI_1, nI_add, if_true, if_false, Nat.reduceEqDiff, Nat.left_eq_add, Nat.add_eq_left, false_and, and_false, true_and, and_true, and_self, eq_self, n_8, n_le, hi3, Rf_k, Rf_p24, Rf_r1460, Rf_axiom1, ea, Rf_hasI, bo_0, Rf_axiom2]
                  by_cases hv : V i (o_a1 O k)
                  · simp only [show yi (wI (V i)) (o_a1 O k) = true from wI_x.mpr ⟨by omega, hv⟩, Bool.true_eq_false, if_false]
                    refine ih3 _ (fun r q => V r q ∨ (r = i ∧ q = o_a2 O k)) (fU_w q _ _) ?_ ?_ ?_ ?_ ?_
                    · intro r hr'
                      rw [pc_I_I]
                      by_cases e : r = i
                      · subst e
                        rw [if_pos ⟨rfl, rfl⟩]
                        apply wI_of
                        intro q hq
                        rw [yi_or, Bool.or_eq_true, wI_x, yi_b1 (by omega), decide_eq_true_iff]
                        exact ⟨fun p => p.imp And.right (fun c => ⟨rfl, c⟩), fun p => p.imp (fun c => ⟨hq, c⟩) (fun c => c.2)⟩
                      · rw [if_neg (by omega), hV r hr']
                        exact wI_cong (fun q _ => ⟨Or.inl, fun p => p.elim id (fun c => absurd c.1 e)⟩)
                    · exact fun r q hr' p => Or.inl (hUV r q hr' p)
                    · rintro r q hr' (p | ⟨rfl, rfl⟩)
                      · exact hVs r q hr' p
                      · exact o_un_tr (hVs r _ hr' hv) (o_un_d hdi)
                    · exact fun r j hr' hj hB' h2 h3 => Or.inl (hc r j hr' hj hB' h2 h3)
                    · intro r hr' h3
                      by_cases e : r = i
                      · exact Or.inr ⟨e, rfl⟩
                      · exact Or.inl (hci r (by omega) h3)
                  · simp only [show yi (wI (V i)) (o_a1 O k) = false from cast (wI_f (by omega)).symm hv, if_true]
                    refine ih3 u V q hV hUV hVs hc ?_
                    intro r hr' h3
                    by_cases e : r = i
                    · subst e
                      exact absurd (hUV _ _ hi h3) hv
                    · exact hci r (by omega) h3
              exact inner 0 (Nat.zero_le _) u V q hV hUV hVs hc (fun r hr' => absurd hr' (Nat.not_lt_zero r))
            · rw [if_neg e2]
              exact go (fun c => e2 c.2)
          · simp only [show xl (wL B) k = false from cast (wL_f (by omega)).symm hB, if_true]
            exact go (fun c => hB c.1)
      rw [e_Rf_laysUnder_30]
      simp (disch := first | assumption | omega) only [hc_ck, hc_gi, hc_gl, hc_gp, ap_I, ap_L, kd_I, kd_L, kd_P, kd_rI, ar_I, ar_L, ar_P, al_I, al_L, al_P, hop_s, cond_true, cond_false, pc_I_I, pc_L_L, pc_P_P, pc_I_L, pc_I_P, pc_L_I, pc_L_P, pc_P_I, pc_P_L, pc_sS_I, pc_sS_L, pc_sS_P, I_rI, L_rI, P_rI, S_rI, cv_r, ci_r, cl_r, o1_b, o1_0, o1_1, lc_e, nI_1, nI_add, if_true, if_false, Nat.reduceEqDiff, Nat.left_eq_add, Nat.add_eq_left, false_and, and_false, true_and, and_true, and_self, eq_self, n_8, n_le, hn3]
      exact pass 0 (Nat.zero_le _) u U q hU (fun _ _ _ p => p) hs (fun r j _ hj => absurd hj (Nat.not_lt_zero j))
  have first : ∀ i, i ≤ 8 → ∀ u : am_H, fU f h u → (∀ r, r < i → am_I u (f + 1460) r = wI (fun q => q = r)) → ∃ h', f_Rf_laysUnder_3 (d + 1) u f r (wL B) (nI i) = some (.inr none, h') ∧ fU f h h' ∧ RfU h' f O B := by
    refine dn ?_ ?_
    · intro u q hu
      rw [e_Rf_laysUnder_3]
      simp (disch := first | assumption | omega) only [hc_ck, hc_gi, hc_gl, hc_gp, ap_I, ap_L, kd_I, kd_L, kd_P, kd_rI, ar_I, ar_L, ar_P, al_I, al_L, al_P, hop_s, cond_true, cond_false, pc_I_I, pc_L_L, pc_P_P, pc_I_L, pc_I_P, pc_L_I, pc_L_P, pc_P_I, pc_P_L, pc_sS_I, pc_sS_L, pc_sS_P, I_rI, L_rI, P_rI, S_rI, cv_r, ci_r, cl_r, o1_b, o1_0, o1_1, lc_e, nI_1, nI_add, if_true, if_false, Nat.reduceEqDiff, Nat.left_eq_add, Nat.add_eq_left, false_and, and_false, true_and, and_true, and_self, eq_self, n_8, n_le, Nat.le_refl]
      exact key 0 (by omega) u (fun r q => q = r) q hu (fun _ _ => rfl) (fun r q _ e => e ▸ o_un_r O B r) (fun m r q hm _ g => by
        have : m = 0 := by omega
        subst this
        exact g.symm)
    · intro i hi ih u q hu
      have Hu := fU_at q H
      have hi3 : ¬ 8 ≤ i := by omega
      rw [e_Rf_laysUnder_3]
      simp (disch := first | assumption | omega) only [hc_ck, hc_gi, hc_gl, hc_gp, ap_I, ap_L, kd_I, kd_L, kd_P, kd_rI, ar_I, ar_L, ar_P, al_I, al_L, al_P, hop_s, cond_true, cond_false, pc_I_I, pc_L_L, pc_P_P, pc_I_L, pc_I_P, pc_L_I, pc_L_P, pc_P_I, pc_P_L, pc_sS_I, pc_sS_L, pc_sS_P, I_rI, L_rI, P_rI, S_rI, cv_r, ci_r, cl_r, o1_b, o1_0, o1_1, lc_e, nI_1, nI_add, if_true, if_false, Nat.reduceEqDiff, Nat.left_eq_add, Nat.add_eq_left, false_and, and_false, true_and, and_true, and_self, eq_self, n_8, n_le, hi3, Rf_k, Rf_p24, Rf_r1460]
      refine ih _ (fU_w q _ _) ?_
      intro r hr'
      rw [pc_I_I]
      by_cases e : r = i
      · subst e
        rw [if_pos ⟨rfl, rfl⟩]
        apply wI_of
        intro q hq
        rw [yi_b1 (by omega), decide_eq_true_iff]
      · rw [if_neg (by omega)]
        exact hu r (by omega)
  rw [e_Rf_laysUnder]
  exact first 0 (Nat.zero_le _) h (fU_r _ _) (fun r hr' => absurd hr' (Nat.not_lt_zero r))
/-- what the reference knows of the first n parts -/
def RfS (h : am_H) (f n : Nat) (A : Nat → Nat → Prop) (K : Nat → Nat → Nat → Prop) : Prop := ∀ x, x < n → am_L h (f + 6) x = wL (A x) ∧ ∀ r, r < 8 → am_L h (f + 9 + x) r = wL (K x r)
/-- of the reference, its search alone changes -/
def fZ (f : Nat) (h h' : am_H) : Prop := am_P h' = am_P h ∧ am_S h' = am_S h ∧ am_G h' = am_G h ∧ am_T h' = am_T h ∧ (∀ b, b ≠ f + 1460 → am_I h' b = am_I h b) ∧ (∀ b, b < f + 6 ∨ f + 1460 ≤ b → am_L h' b = am_L h b)
theorem fZ_r (f : Nat) (h : am_H) : fZ f h h := ⟨rfl, rfl, rfl, rfl, fun _ _ => rfl, fun _ _ => rfl⟩
theorem fZ_t {f : Nat} {a b c : am_H} (h1 : fZ f a b) (h2 : fZ f b c) : fZ f a c := by
  obtain ⟨a1, a2, a3, a4, a5, a6⟩ := h1
  obtain ⟨b1, b2, b3, b4, b5, b6⟩ := h2
  exact ⟨b1.trans a1, b2.trans a2, b3.trans a3, b4.trans a4, fun x hx => (b5 x hx).trans (a5 x hx), fun x hx => (b6 x hx).trans (a6 x hx)⟩
theorem fU_Z {f : Nat} {h h' : am_H} (q : fU f h h') : fZ f h h' := ⟨q.2.1, q.2.2.1, q.2.2.2.1, q.2.2.2.2.1, q.2.2.2.2.2, fun b _ => by rw [q.1]⟩
theorem fRL_Z {f lo hi : Nat} {h h' : am_H} (q : fRL f lo hi h h') (h1 : 6 ≤ lo) (h2 : hi ≤ 1460) : fZ f h h' := ⟨q.2.1, q.2.2.1, q.2.2.2.1, q.2.2.2.2.1, fun b _ => by rw [q.1], fun b hb => fRL_e q (by omega)⟩
theorem fZ_at {f : Nat} {h h' : am_H} (q : fZ f h h') (H : RfAt h f) : RfAt h' f := RfAt_of H q.2.1 (fun b _ _ => by rw [q.1])
theorem fZ_rw {f r : Nat} {O : o_T} {h h' : am_H} (q : fZ f h h') (hr : r ≠ f + 1460) (H : RwR h r O) : RwR h' r O := Rw_of H q.2.1 (q.2.2.2.2.1 r hr)
theorem Rf_beginsRounds {h : am_H} {f r : Nat} {O : o_T} (H : RfAt h f) (R : RwR h r O) (hr : r ≠ f + 1460) (B : Nat → Prop) (d : Nat) : ∃ h', f_Rf_beginsRounds (d + 2) h f r (wL B) = some (.inr none, h') ∧ fZ f h h' ∧ RfU h' f O B ∧ RfS h' f (o_P O) (fun x y => y = x ∨ y = 0) (fun _ _ _ => False) := by
  have ok4 := R.2.1.2.2.2.1
  obtain ⟨g, eg, qg, Ug⟩ := Rf_laysUnder H R hr B d
  have Hg := fU_at qg H
  have Rg := fU_rw qg hr R
  have key : ∀ k, k ≤ o_P O → ∀ u : am_H, fRL f 6 1460 g u → RfS u f k (fun x y => y = x ∨ y = 0) (fun _ _ _ => False) → ∃ h', f_Rf_beginsRounds_9 (d + 2) u f r (nI k) = some (.inr none, h') ∧ fRL f 6 1460 g h' ∧ RfS h' f (o_P O) (fun x y => y = x ∨ y = 0) (fun _ _ _ => False) := by
    refine dn ?_ ?_
    · intro u q hu
      have Ru := fRL_rw q Rg
      refine ⟨u, ?_, q, hu⟩
      rw [e_Rf_beginsRounds_9]
      simp (disch := first | assumption | omega) only [hc_ck, hc_gi, hc_gl, hc_gp, ap_I, ap_L, kd_I, kd_L, kd_P, kd_rI, ar_I, ar_L, ar_P, al_I, al_L, al_P, hop_s, cond_true, cond_false, pc_I_I, pc_L_L, pc_P_P, pc_I_L, pc_I_P, pc_L_I, pc_L_P, pc_P_I, pc_P_L, pc_sS_I, pc_sS_L, pc_sS_P, I_rI, L_rI, P_rI, S_rI, cv_r, ci_r, cl_r, o1_b, o1_0, o1_1, lc_e, nI_1, nI_add, if_true, if_false, Nat.reduceEqDiff, Nat.left_eq_add, Nat.add_eq_left, false_and, and_false, true_and, and_true, and_self, eq_self, n_2, Rw_ar, Rw_P, n_le, Nat.le_refl]
    · intro k hk ih u q hu
      have Ru := fRL_rw q Rg
      have Hu := fRL_at q Hg
      have hk3 : ¬ o_P O ≤ k := by omega
      have inner : ∀ i, i ≤ 8 → ∀ v : am_H, fRL f 6 1460 g v → RfS v f k (fun x y => y = x ∨ y = 0) (fun _ _ _ => False) → am_L v (f + 6) k = wL (fun y => y = k ∨ y = 0) → (∀ r, r < i → am_L v (f + 9 + k) r = 0) → ∃ h', f_Rf_beginsRounds_33 (d + 2) v f r (nI k) (nI i) = some (.inr none, h') ∧ fRL f 6 1460 g h' ∧ RfS h' f (o_P O) (fun x y => y = x ∨ y = 0) (fun _ _ _ => False) := by
        refine dn ?_ ?_
        · intro v q hv h6 h9
          rw [e_Rf_beginsRounds_33]
          simp (disch := first | assumption | omega) only [hc_ck, hc_gi, hc_gl, hc_gp, ap_I, ap_L, kd_I, kd_L, kd_P, kd_rI, ar_I, ar_L, ar_P, al_I, al_L, al_P, hop_s, cond_true, cond_false, pc_I_I, pc_L_L, pc_P_P, pc_I_L, pc_I_P, pc_L_I, pc_L_P, pc_P_I, pc_P_L, pc_sS_I, pc_sS_L, pc_sS_P, I_rI, L_rI, P_rI, S_rI, cv_r, ci_r, cl_r, o1_b, o1_0, o1_1, lc_e, nI_1, nI_add, if_true, if_false, Nat.reduceEqDiff, Nat.left_eq_add, Nat.add_eq_left, false_and, and_false, true_and, and_true, and_self, eq_self, n_8, n_le, Nat.le_refl]
          refine ih v q ?_
          intro x hx
          by_cases e : x = k
          · subst e
            exact ⟨h6, fun r hr' => (h9 r hr').trans (wL_0.mpr (fun _ _ => id)).symm⟩
          · exact hv x (by omega)
        · intro i hi ih2 v q hv h6 h9
          have Hv := fRL_at q Hg
          have hi3 : ¬ 8 ≤ i := by omega
          rw [e_Rf_beginsRounds_33]
          simp (disch := first | assumption | omega) only [hc_ck, hc_gi, hc_gl, hc_gp, ap_I, ap_L, kd_I, kd_L, kd_P, kd_rI, ar_I, ar_L, ar_P, al_I, al_L, al_P, hop_s, cond_true, cond_false, pc_I_I, pc_L_L, pc_P_P, pc_I_L, pc_I_P, pc_L_I, pc_L_P, pc_P_I, pc_P_L, pc_sS_I, pc_sS_L, pc_sS_P, I_rI, L_rI, P_rI, S_rI, cv_r, ci_r, cl_r, o1_b, o1_0, o1_1, lc_e, nI_1, nI_add, if_true, if_false, Nat.reduceEqDiff, Nat.left_eq_add, Nat.add_eq_left, false_and, and_false, true_and, and_true, and_self, eq_self, n_8, n_le, hi3, Rf_k, Rf_p20, Rf_a8, Rf_b9]
          refine ih2 _ (fRL_w q (by omega) (by omega) _ _) ?_ ?_ ?_
          · intro x hx
            obtain ⟨a1, a2⟩ := hv x hx
            refine ⟨?_, fun r hr' => ?_⟩
            · rw [pc_L_L, if_neg (by omega)]; exact a1
            · rw [pc_L_L, if_neg (by omega)]; exact a2 r hr'
          · rw [pc_L_L, if_neg (by omega)]; exact h6
          · intro r hr'
            rw [pc_L_L]
            by_cases e : r = i
            · rw [if_pos ⟨rfl, e⟩]
            · rw [if_neg (by omega)]
              exact h9 r (by omega)
      rw [e_Rf_beginsRounds_9]
      simp (disch := first | assumption | omega) only [hc_ck, hc_gi, hc_gl, hc_gp, ap_I, ap_L, kd_I, kd_L, kd_P, kd_rI, ar_I, ar_L, ar_P, al_I, al_L, al_P, hop_s, cond_true, cond_false, pc_I_I, pc_L_L, pc_P_P, pc_I_L, pc_I_P, pc_L_I, pc_L_P, pc_P_I, pc_P_L, pc_sS_I, pc_sS_L, pc_sS_P, I_rI, L_rI, P_rI, S_rI, cv_r, ci_r, cl_r, o1_b, o1_0, o1_1, lc_e, nI_1, nI_add, if_true, if_false, Nat.reduceEqDiff, Nat.left_eq_add, Nat.add_eq_left, false_and, and_false, true_and, and_true, and_self, eq_self, n_2, Rw_ar, Rw_P, n_le, hk3, Rf_k, Rf_p18, Rf_r6]
      refine inner 0 (Nat.zero_le _) _ (fRL_w q (by omega) (by omega) _ _) ?_ ?_ (fun r hr' => absurd hr' (Nat.not_lt_zero r))
      · intro x hx
        obtain ⟨a1, a2⟩ := hu x hx
        refine ⟨?_, fun r hr' => ?_⟩
        · rw [pc_L_L, if_neg (by omega)]; exact a1
        · rw [pc_L_L, if_neg (by omega)]; exact a2 r hr'
      · rw [pc_L_L, if_pos ⟨rfl, rfl⟩]
        apply wL_of
        intro y hy
        rw [xl_or, xl_b1 (by omega), xl_1, Bool.or_eq_true, decide_eq_true_iff, decide_eq_true_iff]
  obtain ⟨v, ev, qv, Sv⟩ := key 0 (Nat.zero_le _) g (fX_r _ _) (fun x hx => absurd hx (Nat.not_lt_zero x))
  refine ⟨v, ?_, fZ_t (fU_Z qg) (fRL_Z qv (by omega) (by omega)), ?_, Sv⟩
  · rw [e_Rf_beginsRounds]
    simp (disch := first | assumption | omega) only [hc_ck, hc_gi, hc_gl, hc_gp, ap_I, ap_L, kd_I, kd_L, kd_P, kd_rI, ar_I, ar_L, ar_P, al_I, al_L, al_P, hop_s, cond_true, cond_false, pc_I_I, pc_L_L, pc_P_P, pc_I_L, pc_I_P, pc_L_I, pc_L_P, pc_P_I, pc_P_L, pc_sS_I, pc_sS_L, pc_sS_P, I_rI, L_rI, P_rI, S_rI, cv_r, ci_r, cl_r, o1_b, o1_0, o1_1, lc_e, nI_1, nI_add, if_true, if_false, Nat.reduceEqDiff, Nat.left_eq_add, Nat.add_eq_left, false_and, and_false, true_and, and_true, and_self, eq_self, Rf_k, eg]
    exact ev
  · intro r hr'
    rw [qv.1]
    exact Ug r hr'
