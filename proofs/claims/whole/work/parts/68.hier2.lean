/-! ===== the class's hierarchy: build ===== -/
/-- the hierarchy stands at y -/
def HiR (h : am_H) (y : Nat) (O : o_T) (B : Nat → Prop) : Prop :=
  am_I h y 0 = nI (q_M O B) ∧ am_I h y 1 = wI (fun a => a < o_N O ∧ q_vo O B a) ∧ (∀ a, a < o_N O → am_I h (y + 1) a = q_nc O B a) ∧ (∀ n, n < q_M O B → am_I h (y + 3) n = wI (fun a => q_nv O B a ∧ q_no O B a = n) ∧ am_I h (y + 4) n = wI (q_ov O B n) ∧ am_I h (y + 5) n = wI (q_pa O B n))
theorem Hi_layParents {h : am_H} {y : Nat} {O : o_T} {B : Nat → Prop} (ok : o_ok O) (H : HiAt h y) (h0 : am_I h y 0 = nI (q_M O B)) (h4 : ∀ n, n < q_M O B → am_I h (y + 4) n = wI (q_ov O B n)) (d : Nat) : ∃ h', f_Hi_layParents d h y = some (.inr none, h') ∧ fJ (y + 5) (y + 6) h h' ∧ ∀ n, n < q_M O B → am_I h' (y + 5) n = wI (q_pa O B n) := by
  have hM := q_Mle O B
  have okN := ok.1
  have key : ∀ k, k ≤ q_M O B → ∀ u : am_H, fJ (y + 5) (y + 6) h u → (∀ n, n < k → am_I u (y + 5) n = wI (q_pa O B n)) → ∃ h', f_Hi_layParents_2 d u y (nI k) = some (.inr none, h') ∧ fJ (y + 5) (y + 6) h h' ∧ ∀ n, n < q_M O B → am_I h' (y + 5) n = wI (q_pa O B n) := by
    refine dn ?_ ?_
    · intro u q hu
      have Hu := fJ_hi q H
      have e0 : am_I u y 0 = nI (q_M O B) := by rw [q.2.2.2.2.2 y (by omega)]; exact h0
      refine ⟨u, ?_, q, hu⟩
      rw [e_Hi_layParents_2]
      simp (disch := first | assumption | omega) only [hc_ck, hc_gi, hc_gl, hc_gp, ap_I, ap_L, kd_I, kd_L, kd_P, kd_rI, ar_I, ar_L, ar_P, al_I, al_L, al_P, hop_s, cond_true, cond_false, pc_I_I, pc_L_L, pc_P_P, pc_I_L, pc_I_P, pc_L_I, pc_L_P, pc_P_I, pc_P_L, pc_sS_I, pc_sS_L, pc_sS_P, I_rI, L_rI, P_rI, S_rI, cv_r, ci_r, cl_r, o1_b, o1_0, o1_1, lc_e, nI_1, nI_add, if_true, if_false, Nat.reduceEqDiff, Nat.left_eq_add, Nat.add_eq_left, false_and, and_false, true_and, and_true, and_self, eq_self, Hi_k, e0, n_le, Nat.le_refl]
    · intro k hk ih u q hu
      have Hu := fJ_hi q H
      have e0 : am_I u y 0 = nI (q_M O B) := by rw [q.2.2.2.2.2 y (by omega)]; exact h0
      have e4 : ∀ n, n < q_M O B → am_I u (y + 4) n = wI (q_ov O B n) := by rw [q.2.2.2.2.2 (y + 4) (by omega)]; exact h4
      have hk3 : ¬ q_M O B ≤ k := by omega
      have inner : ∀ i, i ≤ q_M O B → ∀ w : Int32, w = wI (fun m => ∃ p, p < i ∧ (q_ov O B k p ∧ q_ov O B p m)) → ∃ h', f_Hi_layParents_14 d u y (nI k) w (nI i) = some (.inr none, h') ∧ fJ (y + 5) (y + 6) h h' ∧ ∀ n, n < q_M O B → am_I h' (y + 5) n = wI (q_pa O B n) := by
        refine dn ?_ ?_
        · intro w hw
          rw [e_Hi_layParents_14]
          simp (disch := first | assumption | omega) only [hc_ck, hc_gi, hc_gl, hc_gp, ap_I, ap_L, kd_I, kd_L, kd_P, kd_rI, ar_I, ar_L, ar_P, al_I, al_L, al_P, hop_s, cond_true, cond_false, pc_I_I, pc_L_L, pc_P_P, pc_I_L, pc_I_P, pc_L_I, pc_L_P, pc_P_I, pc_P_L, pc_sS_I, pc_sS_L, pc_sS_P, I_rI, L_rI, P_rI, S_rI, cv_r, ci_r, cl_r, o1_b, o1_0, o1_1, lc_e, nI_1, nI_add, if_true, if_false, Nat.reduceEqDiff, Nat.left_eq_add, Nat.add_eq_left, false_and, and_false, true_and, and_true, and_self, eq_self, Hi_k, e0, n_le, Nat.le_refl, Hi_p6, Hi_p5, Hi_r4, Hi_r5, e4 k hk]
          refine ih _ (fJ_w q (by omega) (by omega) _ _) ?_
          intro n hn
          rw [pc_I_I]
          by_cases e : n = k
          · subst e
            rw [if_pos ⟨rfl, rfl⟩, hw]
            apply wI_of
            intro m hm
            rw [yi_and, yi_not _ hm, Bool.and_eq_true, wI_x, Bool.not_eq_true']
            rw [wI_f hm]
            constructor
            · rintro ⟨⟨-, c1⟩, c2⟩
              exact ⟨c1, fun ⟨p, c3, c4⟩ => c2 ⟨p, c3.2.1, c3, c4⟩⟩
            · rintro ⟨c1, c2⟩
              exact ⟨⟨hm, c1⟩, fun ⟨p, _, c3⟩ => c2 ⟨p, c3⟩⟩
          · rw [if_neg (by omega)]
            exact hu n (by omega)
        · intro i hi ih2 w hw
          have hi3 : ¬ q_M O B ≤ i := by omega
          rw [e_Hi_layParents_14]
          simp (disch := first | assumption | omega) only [hc_ck, hc_gi, hc_gl, hc_gp, ap_I, ap_L, kd_I, kd_L, kd_P, kd_rI, ar_I, ar_L, ar_P, al_I, al_L, al_P, hop_s, cond_true, cond_false, pc_I_I, pc_L_L, pc_P_P, pc_I_L, pc_I_P, pc_L_I, pc_L_P, pc_P_I, pc_P_L, pc_sS_I, pc_sS_L, pc_sS_P, I_rI, L_rI, P_rI, S_rI, cv_r, ci_r, cl_r, o1_b, o1_0, o1_1, lc_e, nI_1, nI_add, if_true, if_false, Nat.reduceEqDiff, Nat.left_eq_add, Nat.add_eq_left, false_and, and_false, true_and, and_true, and_self, eq_self, Hi_k, e0, n_le, hi3, Hi_p5, Hi_r4, e4 k hk, e4 i hi, yi_t0]
          by_cases c : q_ov O B k i
          · simp only [yi_wt (show i < 32 by omega) c, Bool.true_eq_false, if_false]
            apply ih2
            rw [hw]
            apply wk_sI
            intro m hm
            rw [wI_x]
            exact ⟨fun e => ⟨c, e.2⟩, fun e => ⟨hm, e.2⟩⟩
          · simp only [yi_wf (show i < 32 by omega) c, if_true]
            apply ih2
            rw [hw]
            exact wk_nI (fun m _ e => c e.1)
      rw [e_Hi_layParents_2]
      simp (disch := first | assumption | omega) only [hc_ck, hc_gi, hc_gl, hc_gp, ap_I, ap_L, kd_I, kd_L, kd_P, kd_rI, ar_I, ar_L, ar_P, al_I, al_L, al_P, hop_s, cond_true, cond_false, pc_I_I, pc_L_L, pc_P_P, pc_I_L, pc_I_P, pc_L_I, pc_L_P, pc_P_I, pc_P_L, pc_sS_I, pc_sS_L, pc_sS_P, I_rI, L_rI, P_rI, S_rI, cv_r, ci_r, cl_r, o1_b, o1_0, o1_1, lc_e, nI_1, nI_add, if_true, if_false, Nat.reduceEqDiff, Nat.left_eq_add, Nat.add_eq_left, false_and, and_false, true_and, and_true, and_self, eq_self, Hi_k, e0, n_le, hk3]
      exact inner 0 (Nat.zero_le _) 0 wk_0I.symm
  rw [e_Hi_layParents]
  exact key 0 (Nat.zero_le _) h (fJ_r _ _ _) (fun n hn => absurd hn (Nat.not_lt_zero n))
theorem Hi_build {h : am_H} {y s o : Nat} {O : o_T} {B : Nat → Prop} (H : HiAt h y) (Hs : SaAt h s) (Ho : OnR h o O) (N : OnN h o O) (L : SaL h s O B) (hd : o + 17 ≤ y ∨ y + 7 ≤ o) (d : Nat) : ∃ h', f_Hi_build (d + 3) h y o s = some (.inr none, h') ∧ fJ y (y + 7) h h' ∧ HiR h' y O B := by
  have ok := Ho.2.1
  have hM := q_Mle O B
  have okN := ok.1
  have okP := ok.2.2.2.1
  have okP2 := ok.2.2.1
  -- over
  have over : ∀ k, k ≤ q_M O B → ∀ u : am_H, fJ y (y + 7) h u → am_I u y 0 = nI (q_M O B) → am_I u y 1 = wI (fun a => a < o_N O ∧ q_vo O B a) → (∀ a, a < o_N O → am_I u (y + 1) a = q_nc O B a) → (∀ n, n < q_M O B → am_I u (y + 2) n = nI (o_np O (q_rp O B n))) → (∀ n, n < q_M O B → am_I u (y + 3) n = wI (fun a => q_nv O B a ∧ q_no O B a = n)) → (∀ n, n < k → am_I u (y + 4) n = wI (q_ov O B n)) → ∃ h', f_Hi_build_99 (d + 3) u y s (nI k) = some (.inr none, h') ∧ fJ y (y + 7) h h' ∧ HiR h' y O B := by
    refine dn ?_ ?_
    · intro u q a0 a1 a2 a3 a4 a5
      have Hu := fJ_hi q H
      obtain ⟨v, ev, qv, hv⟩ := Hi_layParents ok Hu a0 a5 (d + 2)
      rw [e_Hi_build_99]
      simp (disch := first | assumption | omega) only [hc_ck, hc_gi, hc_gl, hc_gp, ap_I, ap_L, kd_I, kd_L, kd_P, kd_rI, ar_I, ar_L, ar_P, al_I, al_L, al_P, hop_s, cond_true, cond_false, pc_I_I, pc_L_L, pc_P_P, pc_I_L, pc_I_P, pc_L_I, pc_L_P, pc_P_I, pc_P_L, pc_sS_I, pc_sS_L, pc_sS_P, I_rI, L_rI, P_rI, S_rI, cv_r, ci_r, cl_r, o1_b, o1_0, o1_1, lc_e, nI_1, nI_add, if_true, if_false, Nat.reduceEqDiff, Nat.left_eq_add, Nat.add_eq_left, false_and, and_false, true_and, and_true, and_self, eq_self, Hi_k, a0, n_le, Nat.le_refl, ev]
      refine ⟨v, rfl, fJ_t q (fJ_m qv (by omega) (by omega)), ?_, ?_, ?_, ?_⟩
      · rw [qv.2.2.2.2.2 y (by omega)]; exact a0
      · rw [qv.2.2.2.2.2 y (by omega)]; exact a1
      · rw [qv.2.2.2.2.2 (y + 1) (by omega)]; exact a2
      · intro n hn
        rw [qv.2.2.2.2.2 (y + 3) (by omega), qv.2.2.2.2.2 (y + 4) (by omega)]
        exact ⟨a4 n hn, a5 n hn, hv n hn⟩
    · intro k hk ih u q a0 a1 a2 a3 a4 a5
      have Hu := fJ_hi q H
      have hk3 : ¬ q_M O B ≤ k := by omega
      have inner : ∀ i, i ≤ q_M O B → ∀ v : am_H, fJ (y + 4) (y + 5) u v → (∀ n, n ≠ k → am_I v (y + 4) n = am_I u (y + 4) n) → am_I v (y + 4) k = wI (fun m => m < i ∧ q_ov O B k m) → ∃ h', f_Hi_build_117 (d + 3) v y s (nI k) (nI i) = some (.inr none, h') ∧ fJ y (y + 7) h h' ∧ HiR h' y O B := by
        refine dn ?_ ?_
        · intro v qv hvn hvk
          have Hv := fJ_hi qv Hu
          have b0 : am_I v y 0 = nI (q_M O B) := by rw [qv.2.2.2.2.2 y (by omega)]; exact a0
          rw [e_Hi_build_117]
          simp (disch := first | assumption | omega) only [hc_ck, hc_gi, hc_gl, hc_gp, ap_I, ap_L, kd_I, kd_L, kd_P, kd_rI, ar_I, ar_L, ar_P, al_I, al_L, al_P, hop_s, cond_true, cond_false, pc_I_I, pc_L_L, pc_P_P, pc_I_L, pc_I_P, pc_L_I, pc_L_P, pc_P_I, pc_P_L, pc_sS_I, pc_sS_L, pc_sS_P, I_rI, L_rI, P_rI, S_rI, cv_r, ci_r, cl_r, o1_b, o1_0, o1_1, lc_e, nI_1, nI_add, if_true, if_false, Nat.reduceEqDiff, Nat.left_eq_add, Nat.add_eq_left, false_and, and_false, true_and, and_true, and_self, eq_self, Hi_k, b0, n_le, Nat.le_refl]
          refine ih v (fJ_t q (fJ_m qv (by omega) (by omega))) b0 ?_ ?_ ?_ ?_ ?_
          · rw [qv.2.2.2.2.2 y (by omega)]; exact a1
          · rw [qv.2.2.2.2.2 (y + 1) (by omega)]; exact a2
          · rw [qv.2.2.2.2.2 (y + 2) (by omega)]; exact a3
          · rw [qv.2.2.2.2.2 (y + 3) (by omega)]; exact a4
          · intro n hn
            by_cases e : n = k
            · subst e
              rw [hvk]
              exact wI_cong (fun m _ => ⟨And.right, fun c => ⟨c.2.1, c⟩⟩)
            · rw [hvn n e]
              exact a5 n (by omega)
        · intro i hi ih2 v qv hvn hvk
          have Hv := fJ_hi qv Hu
          have b0 : am_I v y 0 = nI (q_M O B) := by rw [qv.2.2.2.2.2 y (by omega)]; exact a0
          have b3 : ∀ n, n < q_M O B → am_I v (y + 2) n = nI (o_np O (q_rp O B n)) := by rw [qv.2.2.2.2.2 (y + 2) (by omega)]; exact a3
          have hi3 : ¬ q_M O B ≤ i := by omega
          have r1 := (q_rps (B := B) (k := o_N O) hk).2.2
          have r2 := (q_rps (B := B) (k := o_N O) hi).2.2
          have p1 := (o_np_s ok r1).1
          have p2 := (o_np_s ok r2).1
          have Hsv := fJ_sa qv (fJ_sa q Hs)
          have Lv : am_L v (s + 5) (o_np O (q_rp O B k)) = wL (l_A O B (o_np O (q_rp O B k))) := by rw [qv.1, q.1]; exact L _ p1
          obtain ⟨b, eb, hb⟩ := Sa_isBelow Hsv (x := o_np O (q_rp O B k)) (y := o_np O (q_rp O B i)) (by omega) (by omega) Lv (d + 1)
          have go : ¬ q_ov O B k i → ∃ h', f_Hi_build_117 (d + 3) v y s (nI k) (nI (i + 1)) = some (.inr none, h') ∧ fJ y (y + 7) h h' ∧ HiR h' y O B := by
            intro c
            refine ih2 v qv hvn ?_
            rw [hvk]
            refine wI_cong (fun m _ => ⟨fun e => ⟨by omega, e.2⟩, fun e => ⟨?_, e.2⟩⟩)
            by_cases e' : m = i
            · subst e'; exact absurd e.2 c
            · omega
          rw [e_Hi_build_117]
          simp (disch := first | assumption | omega) only [hc_ck, hc_gi, hc_gl, hc_gp, ap_I, ap_L, kd_I, kd_L, kd_P, kd_rI, ar_I, ar_L, ar_P, al_I, al_L, al_P, hop_s, cond_true, cond_false, pc_I_I, pc_L_L, pc_P_P, pc_I_L, pc_I_P, pc_L_I, pc_L_P, pc_P_I, pc_P_L, pc_sS_I, pc_sS_L, pc_sS_P, I_rI, L_rI, P_rI, S_rI, cv_r, ci_r, cl_r, o1_b, o1_0, o1_1, lc_e, nI_1, nI_add, if_true, if_false, Nat.reduceEqDiff, Nat.left_eq_add, Nat.add_eq_left, false_and, and_false, true_and, and_true, and_self, eq_self, Hi_k, b0, n_le, hi3, n_eq]
          by_cases ei : i = k
          · rw [if_pos ei]
            exact go (fun c => c.2.2.1 ei)
          · rw [if_neg ei]
            simp (disch := first | assumption | omega) only [hc_ck, hc_gi, hc_gl, hc_gp, ap_I, ap_L, kd_I, kd_L, kd_P, kd_rI, ar_I, ar_L, ar_P, al_I, al_L, al_P, hop_s, cond_true, cond_false, pc_I_I, pc_L_L, pc_P_P, pc_I_L, pc_I_P, pc_L_I, pc_L_P, pc_P_I, pc_P_L, pc_sS_I, pc_sS_L, pc_sS_P, I_rI, L_rI, P_rI, S_rI, cv_r, ci_r, cl_r, o1_b, o1_0, o1_1, lc_e, nI_1, nI_add, if_true, if_false, Nat.reduceEqDiff, Nat.left_eq_add, Nat.add_eq_left, false_and, and_false, true_and, and_true, and_self, eq_self, Hi_k, Hi_p3, Hi_r2, b3 k hk, b3 i hi, Sa_k, eb, bo_0]
            cases b with
            | false =>
              simp only [if_true]
              exact go (fun c => absurd (hb.mpr c.2.2.2) (by decide))
            | true =>
              simp (disch := first | assumption | omega) only [hc_ck, hc_gi, hc_gl, hc_gp, ap_I, ap_L, kd_I, kd_L, kd_P, kd_rI, ar_I, ar_L, ar_P, al_I, al_L, al_P, hop_s, cond_true, cond_false, pc_I_I, pc_L_L, pc_P_P, pc_I_L, pc_I_P, pc_L_I, pc_L_P, pc_P_I, pc_P_L, pc_sS_I, pc_sS_L, pc_sS_P, I_rI, L_rI, P_rI, S_rI, cv_r, ci_r, cl_r, o1_b, o1_0, o1_1, lc_e, nI_1, nI_add, if_true, if_false, Nat.reduceEqDiff, Nat.left_eq_add, Nat.add_eq_left, false_and, and_false, true_and, and_true, and_self, eq_self, Bool.true_eq_false, Hi_k, Hi_p5, Hi_r4, hvk]
              refine ih2 _ (fJ_w qv (by omega) (by omega) _ _) ?_ ?_
              · intro n hn
                rw [pc_I_I, if_neg (by omega)]
                exact hvn n hn
              · rw [pc_I_I, if_pos ⟨rfl, rfl⟩]
                apply wI_of
                intro m hm
                rw [yi_or, Bool.or_eq_true, wI_x, yi_b1 (by omega), decide_eq_true_iff]
                constructor
                · rintro (⟨-, c1, c2⟩ | rfl)
                  · exact ⟨by omega, c2⟩
                  · exact ⟨by omega, hk, hi, ei, hb.mp rfl⟩
                · rintro ⟨c1, c2⟩
                  by_cases e : m = i
                  · exact Or.inr e
                  · exact Or.inl ⟨hm, by omega, c2⟩
      rw [e_Hi_build_99]
      simp (disch := first | assumption | omega) only [hc_ck, hc_gi, hc_gl, hc_gp, ap_I, ap_L, kd_I, kd_L, kd_P, kd_rI, ar_I, ar_L, ar_P, al_I, al_L, al_P, hop_s, cond_true, cond_false, pc_I_I, pc_L_L, pc_P_P, pc_I_L, pc_I_P, pc_L_I, pc_L_P, pc_P_I, pc_P_L, pc_sS_I, pc_sS_L, pc_sS_P, I_rI, L_rI, P_rI, S_rI, cv_r, ci_r, cl_r, o1_b, o1_0, o1_1, lc_e, nI_1, nI_add, if_true, if_false, Nat.reduceEqDiff, Nat.left_eq_add, Nat.add_eq_left, false_and, and_false, true_and, and_true, and_self, eq_self, Hi_k, a0, n_le, hk3, Hi_p5, Hi_r4]
      refine inner 0 (Nat.zero_le _) _ (fJ_w (fJ_r _ _ _) (by omega) (by omega) _ _) ?_ ?_
      · intro n hn
        rw [pc_I_I, if_neg (by omega)]
      · rw [pc_I_I, if_pos ⟨rfl, rfl⟩]
        exact (wI_0.mpr (fun m _ c => absurd c.1 (Nat.not_lt_zero m))).symm
  -- name by name
  have key : ∀ k, k ≤ o_N O → ∀ u : am_H, fJ y (y + 7) h u → am_I u y 0 = nI (q_ct O B k) → am_I u y 1 = wI (fun a => a < k ∧ q_vo O B a) → (∀ a, a < k → am_I u (y + 1) a = q_nc O B a) → (∀ n, n < q_ct O B k → am_I u (y + 2) n = nI (o_np O (q_rp O B n))) → (∀ n, n < q_ct O B k → am_I u (y + 3) n = wI (fun a => a < k ∧ q_nv O B a ∧ q_no O B a = n)) → ∃ h', f_Hi_build_12 (d + 3) u y o s (nI k) = some (.inr none, h') ∧ fJ y (y + 7) h h' ∧ HiR h' y O B := by
    refine dn ?_ ?_
    · intro u q a0 a1 a2 a3 a4
      have Hou := fJ_on q hd Ho
      have H3 := OnR_at Hou
      rw [e_Hi_build_12]
      simp (disch := first | assumption | omega) only [hc_ck, hc_gi, hc_gl, hc_gp, ap_I, ap_L, kd_I, kd_L, kd_P, kd_rI, ar_I, ar_L, ar_P, al_I, al_L, al_P, hop_s, cond_true, cond_false, pc_I_I, pc_L_L, pc_P_P, pc_I_L, pc_I_P, pc_L_I, pc_L_P, pc_P_I, pc_P_L, pc_sS_I, pc_sS_L, pc_sS_P, I_rI, L_rI, P_rI, S_rI, cv_r, ci_r, cl_r, o1_b, o1_0, o1_1, lc_e, nI_1, nI_add, if_true, if_false, Nat.reduceEqDiff, Nat.left_eq_add, Nat.add_eq_left, false_and, and_false, true_and, and_true, and_self, eq_self, On_k, On_p0, On_k1, OnR_N, n_le, Nat.le_refl]
      refine over 0 (Nat.zero_le _) u q a0 a1 a2 a3 ?_ (fun n hn => absurd hn (Nat.not_lt_zero n))
      intro n hn
      rw [a4 n hn]
      exact wI_cong (fun a _ => ⟨And.right, fun c => ⟨c.1.1, c⟩⟩)
    · intro k hk ih u q a0 a1 a2 a3 a4
      have Hu := fJ_hi q H
      have Hou := fJ_on q hd Ho
      have H3 := OnR_at Hou
      have Hsu := fJ_sa q Hs
      have Nu : am_I u (o + 5) k = nI (o_np O k) := by rw [q.2.2.2.2.2 (o + 5) (by omega)]; exact N k hk
      have Lu : SaL u s O B := fun x hx => by rw [q.1]; exact L x hx
      have hp := (o_np_s ok hk).1
      have hk3 : ¬ o_N O ≤ k := by omega
      have hcl := q_ctle O B k
      obtain ⟨b1, eb1, hb1⟩ := Sa_isVoid Hsu (x := o_np O k) (by omega) (Lu _ hp) (d + 2)
      obtain ⟨b2, eb2, hb2⟩ := Sa_isBelow Hsu (x := 0) (y := o_np O k) (by omega) (by omega) (Lu 0 (by omega)) (d + 1)
      -- no node of its own
      have skip : ¬ q_nv O B k → q_ct O B (k + 1) = q_ct O B k ∧ (∀ n, wI (fun a => a < k ∧ q_nv O B a ∧ q_no O B a = n) = wI (fun a => a < k + 1 ∧ q_nv O B a ∧ q_no O B a = n)) := by
        intro c
        refine ⟨ct_s0 (fun e => c e.1), fun n => wI_cong (fun a _ => ⟨fun e => ⟨by omega, e.2⟩, fun e => ⟨?_, e.2⟩⟩)⟩
        by_cases e' : a = k
        · subst e'; exact absurd e.2.1 c
        · omega
      rw [e_Hi_build_12]
      simp (disch := first | assumption | omega) only [hc_ck, hc_gi, hc_gl, hc_gp, ap_I, ap_L, kd_I, kd_L, kd_P, kd_rI, ar_I, ar_L, ar_P, al_I, al_L, al_P, hop_s, cond_true, cond_false, pc_I_I, pc_L_L, pc_P_P, pc_I_L, pc_I_P, pc_L_I, pc_L_P, pc_P_I, pc_P_L, pc_sS_I, pc_sS_L, pc_sS_P, I_rI, L_rI, P_rI, S_rI, cv_r, ci_r, cl_r, o1_b, o1_0, o1_1, lc_e, nI_1, nI_add, if_true, if_false, Nat.reduceEqDiff, Nat.left_eq_add, Nat.add_eq_left, false_and, and_false, true_and, and_true, and_self, eq_self, On_k, On_p0, On_k1, OnR_N, n_le, hk3, On_p2, On_r5, Nu, Sa_k, eb1, bo_0]
      cases b1 with
      | true =>
        have hv : q_vo O B k := hb1.mp rfl
        obtain ⟨s1, s2⟩ := skip (fun c => c.2.1 hv)
        simp (disch := first | assumption | omega) only [hc_ck, hc_gi, hc_gl, hc_gp, ap_I, ap_L, kd_I, kd_L, kd_P, kd_rI, ar_I, ar_L, ar_P, al_I, al_L, al_P, hop_s, cond_true, cond_false, pc_I_I, pc_L_L, pc_P_P, pc_I_L, pc_I_P, pc_L_I, pc_L_P, pc_P_I, pc_P_L, pc_sS_I, pc_sS_L, pc_sS_P, I_rI, L_rI, P_rI, S_rI, cv_r, ci_r, cl_r, o1_b, o1_0, o1_1, lc_e, nI_1, nI_add, if_true, if_false, Nat.reduceEqDiff, Nat.left_eq_add, Nat.add_eq_left, false_and, and_false, true_and, and_true, and_self, eq_self, Bool.true_eq_false, Hi_k, Hi_p2, Hi_r1, a1]
        refine ih _ (fJ_w (fJ_w q (by omega) (by omega) _ _) (by omega) (by omega) _ _) ?_ ?_ ?_ ?_ ?_
        · simp only [hc_ck, hc_gi, hc_gl, hc_gp, ap_I, ap_L, kd_I, kd_L, kd_P, kd_rI, ar_I, ar_L, ar_P, al_I, al_L, al_P, hop_s, cond_true, cond_false, pc_I_I, pc_L_L, pc_P_P, pc_I_L, pc_I_P, pc_L_I, pc_L_P, pc_P_I, pc_P_L, pc_sS_I, pc_sS_L, pc_sS_P, I_rI, L_rI, P_rI, S_rI, cv_r, ci_r, cl_r, o1_b, o1_0, o1_1, lc_e, nI_1, nI_add, if_true, if_false, Nat.reduceEqDiff, Nat.left_eq_add, Nat.add_eq_left, false_and, and_false, true_and, and_true, and_self, eq_self, a0, s1]
        · simp only [hc_ck, hc_gi, hc_gl, hc_gp, ap_I, ap_L, kd_I, kd_L, kd_P, kd_rI, ar_I, ar_L, ar_P, al_I, al_L, al_P, hop_s, cond_true, cond_false, pc_I_I, pc_L_L, pc_P_P, pc_I_L, pc_I_P, pc_L_I, pc_L_P, pc_P_I, pc_P_L, pc_sS_I, pc_sS_L, pc_sS_P, I_rI, L_rI, P_rI, S_rI, cv_r, ci_r, cl_r, o1_b, o1_0, o1_1, lc_e, nI_1, nI_add, if_true, if_false, Nat.reduceEqDiff, Nat.left_eq_add, Nat.add_eq_left, false_and, and_false, true_and, and_true, and_self, eq_self]
          apply wI_of
          intro a ha
          rw [yi_or, Bool.or_eq_true, wI_x, yi_b1 (by omega), decide_eq_true_iff]
          constructor
          · rintro (⟨-, c1, c2⟩ | rfl)
            · exact ⟨by omega, c2⟩
            · exact ⟨by omega, hv⟩
          · rintro ⟨c1, c2⟩
            by_cases e : a = k
            · exact Or.inr e
            · exact Or.inl ⟨ha, by omega, c2⟩
        · intro a ha
          simp only [hc_ck, hc_gi, hc_gl, hc_gp, ap_I, ap_L, kd_I, kd_L, kd_P, kd_rI, ar_I, ar_L, ar_P, al_I, al_L, al_P, hop_s, cond_true, cond_false, pc_I_I, pc_L_L, pc_P_P, pc_I_L, pc_I_P, pc_L_I, pc_L_P, pc_P_I, pc_P_L, pc_sS_I, pc_sS_L, pc_sS_P, I_rI, L_rI, P_rI, S_rI, cv_r, ci_r, cl_r, o1_b, o1_0, o1_1, lc_e, nI_1, nI_add, if_true, if_false, Nat.reduceEqDiff, Nat.left_eq_add, Nat.add_eq_left, false_and, and_false, true_and, and_true, and_self, eq_self]
          by_cases e : a = k
          · rw [if_pos e, e, q_nc1 hv]
          · rw [if_neg e]; exact a2 a (by omega)
        · intro n hn
          simp only [hc_ck, hc_gi, hc_gl, hc_gp, ap_I, ap_L, kd_I, kd_L, kd_P, kd_rI, ar_I, ar_L, ar_P, al_I, al_L, al_P, hop_s, cond_true, cond_false, pc_I_I, pc_L_L, pc_P_P, pc_I_L, pc_I_P, pc_L_I, pc_L_P, pc_P_I, pc_P_L, pc_sS_I, pc_sS_L, pc_sS_P, I_rI, L_rI, P_rI, S_rI, cv_r, ci_r, cl_r, o1_b, o1_0, o1_1, lc_e, nI_1, nI_add, if_true, if_false, Nat.reduceEqDiff, Nat.left_eq_add, Nat.add_eq_left, false_and, and_false, true_and, and_true, and_self, eq_self]
          exact a3 n (by omega)
        · intro n hn
          simp only [hc_ck, hc_gi, hc_gl, hc_gp, ap_I, ap_L, kd_I, kd_L, kd_P, kd_rI, ar_I, ar_L, ar_P, al_I, al_L, al_P, hop_s, cond_true, cond_false, pc_I_I, pc_L_L, pc_P_P, pc_I_L, pc_I_P, pc_L_I, pc_L_P, pc_P_I, pc_P_L, pc_sS_I, pc_sS_L, pc_sS_P, I_rI, L_rI, P_rI, S_rI, cv_r, ci_r, cl_r, o1_b, o1_0, o1_1, lc_e, nI_1, nI_add, if_true, if_false, Nat.reduceEqDiff, Nat.left_eq_add, Nat.add_eq_left, false_and, and_false, true_and, and_true, and_self, eq_self]
          rw [← s2]
          exact a4 n (by omega)
      | false =>
        have hv : ¬ q_vo O B k := fun c => absurd (hb1.mpr c) (by decide)
        have hvo : wI (fun a => a < k ∧ q_vo O B a) = wI (fun a => a < k + 1 ∧ q_vo O B a) := wI_cong (fun a _ => ⟨fun e => ⟨by omega, e.2⟩, fun e => ⟨by
          by_cases e' : a = k
          · subst e'; exact absurd e.2 hv
          · omega, e.2⟩⟩)
        simp (disch := first | assumption | omega) only [hc_ck, hc_gi, hc_gl, hc_gp, ap_I, ap_L, kd_I, kd_L, kd_P, kd_rI, ar_I, ar_L, ar_P, al_I, al_L, al_P, hop_s, cond_true, cond_false, pc_I_I, pc_L_L, pc_P_P, pc_I_L, pc_I_P, pc_L_I, pc_L_P, pc_P_I, pc_P_L, pc_sS_I, pc_sS_L, pc_sS_P, I_rI, L_rI, P_rI, S_rI, cv_r, ci_r, cl_r, o1_b, o1_0, o1_1, lc_e, nI_1, nI_add, if_true, if_false, Nat.reduceEqDiff, Nat.left_eq_add, Nat.add_eq_left, false_and, and_false, true_and, and_true, and_self, eq_self, Sa_k, n_0, eb2, bo_0]
        cases b2 with
        | true =>
          have ht : q_tp O B k := hb2.mp rfl
          obtain ⟨s1, s2⟩ := skip (fun c => c.2.2 ht)
          simp (disch := first | assumption | omega) only [hc_ck, hc_gi, hc_gl, hc_gp, ap_I, ap_L, kd_I, kd_L, kd_P, kd_rI, ar_I, ar_L, ar_P, al_I, al_L, al_P, hop_s, cond_true, cond_false, pc_I_I, pc_L_L, pc_P_P, pc_I_L, pc_I_P, pc_L_I, pc_L_P, pc_P_I, pc_P_L, pc_sS_I, pc_sS_L, pc_sS_P, I_rI, L_rI, P_rI, S_rI, cv_r, ci_r, cl_r, o1_b, o1_0, o1_1, lc_e, nI_1, nI_add, if_true, if_false, Nat.reduceEqDiff, Nat.left_eq_add, Nat.add_eq_left, false_and, and_false, true_and, and_true, and_self, eq_self, Bool.true_eq_false, Hi_k, Hi_p2, Hi_r1]
          refine ih _ (fJ_w q (by omega) (by omega) _ _) ?_ ?_ ?_ ?_ ?_
          · simp only [hc_ck, hc_gi, hc_gl, hc_gp, ap_I, ap_L, kd_I, kd_L, kd_P, kd_rI, ar_I, ar_L, ar_P, al_I, al_L, al_P, hop_s, cond_true, cond_false, pc_I_I, pc_L_L, pc_P_P, pc_I_L, pc_I_P, pc_L_I, pc_L_P, pc_P_I, pc_P_L, pc_sS_I, pc_sS_L, pc_sS_P, I_rI, L_rI, P_rI, S_rI, cv_r, ci_r, cl_r, o1_b, o1_0, o1_1, lc_e, nI_1, nI_add, if_true, if_false, Nat.reduceEqDiff, Nat.left_eq_add, Nat.add_eq_left, false_and, and_false, true_and, and_true, and_self, eq_self, a0, s1]
          · simp only [hc_ck, hc_gi, hc_gl, hc_gp, ap_I, ap_L, kd_I, kd_L, kd_P, kd_rI, ar_I, ar_L, ar_P, al_I, al_L, al_P, hop_s, cond_true, cond_false, pc_I_I, pc_L_L, pc_P_P, pc_I_L, pc_I_P, pc_L_I, pc_L_P, pc_P_I, pc_P_L, pc_sS_I, pc_sS_L, pc_sS_P, I_rI, L_rI, P_rI, S_rI, cv_r, ci_r, cl_r, o1_b, o1_0, o1_1, lc_e, nI_1, nI_add, if_true, if_false, Nat.reduceEqDiff, Nat.left_eq_add, Nat.add_eq_left, false_and, and_false, true_and, and_true, and_self, eq_self, a1, hvo]
          · intro a ha
            simp only [hc_ck, hc_gi, hc_gl, hc_gp, ap_I, ap_L, kd_I, kd_L, kd_P, kd_rI, ar_I, ar_L, ar_P, al_I, al_L, al_P, hop_s, cond_true, cond_false, pc_I_I, pc_L_L, pc_P_P, pc_I_L, pc_I_P, pc_L_I, pc_L_P, pc_P_I, pc_P_L, pc_sS_I, pc_sS_L, pc_sS_P, I_rI, L_rI, P_rI, S_rI, cv_r, ci_r, cl_r, o1_b, o1_0, o1_1, lc_e, nI_1, nI_add, if_true, if_false, Nat.reduceEqDiff, Nat.left_eq_add, Nat.add_eq_left, false_and, and_false, true_and, and_true, and_self, eq_self]
            by_cases e : a = k
            · rw [if_pos e, e, q_nc2 hv ht]
            · rw [if_neg e]; exact a2 a (by omega)
          · intro n hn
            simp only [hc_ck, hc_gi, hc_gl, hc_gp, ap_I, ap_L, kd_I, kd_L, kd_P, kd_rI, ar_I, ar_L, ar_P, al_I, al_L, al_P, hop_s, cond_true, cond_false, pc_I_I, pc_L_L, pc_P_P, pc_I_L, pc_I_P, pc_L_I, pc_L_P, pc_P_I, pc_P_L, pc_sS_I, pc_sS_L, pc_sS_P, I_rI, L_rI, P_rI, S_rI, cv_r, ci_r, cl_r, o1_b, o1_0, o1_1, lc_e, nI_1, nI_add, if_true, if_false, Nat.reduceEqDiff, Nat.left_eq_add, Nat.add_eq_left, false_and, and_false, true_and, and_true, and_self, eq_self]
            exact a3 n (by omega)
          · intro n hn
            simp only [hc_ck, hc_gi, hc_gl, hc_gp, ap_I, ap_L, kd_I, kd_L, kd_P, kd_rI, ar_I, ar_L, ar_P, al_I, al_L, al_P, hop_s, cond_true, cond_false, pc_I_I, pc_L_L, pc_P_P, pc_I_L, pc_I_P, pc_L_I, pc_L_P, pc_P_I, pc_P_L, pc_sS_I, pc_sS_L, pc_sS_P, I_rI, L_rI, P_rI, S_rI, cv_r, ci_r, cl_r, o1_b, o1_0, o1_1, lc_e, nI_1, nI_add, if_true, if_false, Nat.reduceEqDiff, Nat.left_eq_add, Nat.add_eq_left, false_and, and_false, true_and, and_true, and_self, eq_self]
            rw [← s2]
            exact a4 n (by omega)
        | false =>
          have ht : ¬ q_tp O B k := fun c => absurd (hb2.mpr c) (by decide)
          have hnv : q_nv O B k := ⟨hk, hv, ht⟩
          obtain ⟨w, ew, qw, w0, w1, w2, w2j, w3, w4⟩ := Hi_place ok Hu Hsu Lu hnv a0 a3 a4 d
          simp (disch := first | assumption | omega) only [hc_ck, hc_gi, hc_gl, hc_gp, ap_I, ap_L, kd_I, kd_L, kd_P, kd_rI, ar_I, ar_L, ar_P, al_I, al_L, al_P, hop_s, cond_true, cond_false, pc_I_I, pc_L_L, pc_P_P, pc_I_L, pc_I_P, pc_L_I, pc_L_P, pc_P_I, pc_P_L, pc_sS_I, pc_sS_L, pc_sS_P, I_rI, L_rI, P_rI, S_rI, cv_r, ci_r, cl_r, o1_b, o1_0, o1_1, lc_e, nI_1, nI_add, if_true, if_false, Nat.reduceEqDiff, Nat.left_eq_add, Nat.add_eq_left, false_and, and_false, true_and, and_true, and_self, eq_self, Hi_k, ew]
          refine ih w (fJ_t q qw) w0 ?_ ?_ w3 w4
          · rw [w1, a1, hvo]
          · intro a ha
            by_cases e : a = k
            · rw [e, w2, q_nc3 hnv]
            · rw [w2j a e]; exact a2 a (by omega)
  rw [e_Hi_build]
  simp (disch := first | assumption | omega) only [hc_ck, hc_gi, hc_gl, hc_gp, ap_I, ap_L, kd_I, kd_L, kd_P, kd_rI, ar_I, ar_L, ar_P, al_I, al_L, al_P, hop_s, cond_true, cond_false, pc_I_I, pc_L_L, pc_P_P, pc_I_L, pc_I_P, pc_L_I, pc_L_P, pc_P_I, pc_P_L, pc_sS_I, pc_sS_L, pc_sS_P, I_rI, L_rI, P_rI, S_rI, cv_r, ci_r, cl_r, o1_b, o1_0, o1_1, lc_e, nI_1, nI_add, if_true, if_false, Nat.reduceEqDiff, Nat.left_eq_add, Nat.add_eq_left, false_and, and_false, true_and, and_true, and_self, eq_self, Hi_k]
  refine key 0 (Nat.zero_le _) _ (fJ_w (fJ_w (fJ_r _ _ _) (by omega) (by omega) _ _) (by omega) (by omega) _ _) ?_ ?_ (fun a ha => absurd ha (Nat.not_lt_zero a)) (fun n hn => absurd hn (Nat.not_lt_zero n)) (fun n hn => absurd hn (Nat.not_lt_zero n))
  · simp only [hc_ck, hc_gi, hc_gl, hc_gp, ap_I, ap_L, kd_I, kd_L, kd_P, kd_rI, ar_I, ar_L, ar_P, al_I, al_L, al_P, hop_s, cond_true, cond_false, pc_I_I, pc_L_L, pc_P_P, pc_I_L, pc_I_P, pc_L_I, pc_L_P, pc_P_I, pc_P_L, pc_sS_I, pc_sS_L, pc_sS_P, I_rI, L_rI, P_rI, S_rI, cv_r, ci_r, cl_r, o1_b, o1_0, o1_1, lc_e, nI_1, nI_add, if_true, if_false, Nat.reduceEqDiff, Nat.left_eq_add, Nat.add_eq_left, false_and, and_false, true_and, and_true, and_self, eq_self]; rfl
  · simp only [hc_ck, hc_gi, hc_gl, hc_gp, ap_I, ap_L, kd_I, kd_L, kd_P, kd_rI, ar_I, ar_L, ar_P, al_I, al_L, al_P, hop_s, cond_true, cond_false, pc_I_I, pc_L_L, pc_P_P, pc_I_L, pc_I_P, pc_L_I, pc_L_P, pc_P_I, pc_P_L, pc_sS_I, pc_sS_L, pc_sS_P, I_rI, L_rI, P_rI, S_rI, cv_r, ci_r, cl_r, o1_b, o1_0, o1_1, lc_e, nI_1, nI_add, if_true, if_false, Nat.reduceEqDiff, Nat.left_eq_add, Nat.add_eq_left, false_and, and_false, true_and, and_true, and_self, eq_self]
    exact (wI_0.mpr (fun m _ c => absurd c.1 (Nat.not_lt_zero m))).symm
