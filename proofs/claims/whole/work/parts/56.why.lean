/-! ===== which axioms have a say: the class; the least that is so; why ===== -/
theorem Sa_isUsed {h : am_H} {s o : Nat} {O : o_T} {B T : Nat → Prop} {A : Nat → Nat → Prop} {K : Nat → Nat → Nat → Prop} {nA : Nat → Int64} {nK : Nat → Nat → Int64} (H : SaC h s o O B) (D : SaD h s O B T A K nA nK) (hP : ∀ x, T x → x < o_P O) {k : Nat} (hk : k < o_A O) (G : Nat → Prop) (d : Nat) :
    ∃ b, f_Sa_isUsed d h s (nI k) (wI G) = some (.inr (some (.int (bo b))), h) ∧ (b = true ↔ ((o_ak O k = 0 ∧ ∃ x, T x ∧ A x (o_a1 O k)) ∨ (o_ak O k = 1 ∧ ∃ x, T x ∧ (A x (o_a1 O k) ∨ A x (o_a2 O k))) ∨ (o_ak O k = 2 ∧ G (o_a1 O k)) ∨ (o_ak O k = 3 ∧ G (o_a1 O k) ∧ G (o_a2 O k)))) := by
  have ok : o_ok O := H.2.1.2.1
  obtain ⟨-, ok2, ok3, ok4, ok5, -, -, -, okA, -⟩ := ok
  have okk := okA k hk
  unfold o_okA at okk
  have H1 := SaC_at H
  have H2 := SaC_on H
  have H3 := OnR_at H2
  obtain ⟨-, -, D3⟩ := D
  rcases (show o_ak O k = 0 ∨ o_ak O k = 1 ∨ o_ak O k = 2 ∨ o_ak O k = 3 by omega) with e | e | e | e
  · have f1 : o_a1 O k < o_P O := by omega
    have f2 : o_a2 O k < o_P O := by omega
    by_cases c : wL (fun x => T x ∧ A x (o_a1 O k)) = 0
    · refine ⟨false, by rw [e_Sa_isUsed]; simp (disch := first | assumption | omega) only [hc_ck, hc_gi, hc_gl, hc_gp, hc_ap, kd_I, kd_L, kd_P, kd_rI, ar_I, ar_L, ar_P, al_I, al_L, al_P, hop_s, cond_true, cond_false, pc_I_I, pc_L_L, pc_P_P, pc_I_L, pc_I_P, pc_L_I, pc_L_P, pc_P_I, pc_P_L, pc_sS_I, pc_sS_L, pc_sS_P, I_rI, L_rI, P_rI, S_rI, cv_r, ci_r, cl_r, o1_b, o1_0, o1_1, lc_e, nI_1, nI_add, if_true, if_false, Nat.reduceEqDiff, Nat.left_eq_add, Nat.add_eq_left, false_and, and_false, true_and, and_true, and_self, eq_self, Sa_k, SaC_o, On_k, On_p11, On_p12, On_p13, On_r11, On_r12, On_r13, OnR_ak, OnR_a1, OnR_a2, n_e0, e, Sa_p12, Sa_r6, D3]; rw [if_pos c]; rfl, ?_⟩
      have c' := wL_0.mp c
      constructor
      · intro q; cases q
      · rintro (⟨-, x, q1, q2⟩ | ⟨q, -⟩ | ⟨q, -⟩ | ⟨q, -⟩)
        · exact absurd ⟨q1, q2⟩ (c' x (by have := hP x q1; omega))
        all_goals omega
    · refine ⟨true, by rw [e_Sa_isUsed]; simp (disch := first | assumption | omega) only [hc_ck, hc_gi, hc_gl, hc_gp, hc_ap, kd_I, kd_L, kd_P, kd_rI, ar_I, ar_L, ar_P, al_I, al_L, al_P, hop_s, cond_true, cond_false, pc_I_I, pc_L_L, pc_P_P, pc_I_L, pc_I_P, pc_L_I, pc_L_P, pc_P_I, pc_P_L, pc_sS_I, pc_sS_L, pc_sS_P, I_rI, L_rI, P_rI, S_rI, cv_r, ci_r, cl_r, o1_b, o1_0, o1_1, lc_e, nI_1, nI_add, if_true, if_false, Nat.reduceEqDiff, Nat.left_eq_add, Nat.add_eq_left, false_and, and_false, true_and, and_true, and_self, eq_self, Sa_k, SaC_o, On_k, On_p11, On_p12, On_p13, On_r11, On_r12, On_r13, OnR_ak, OnR_a1, OnR_a2, n_e0, e, Sa_p12, Sa_r6, D3]; rw [if_neg c]; rfl, ?_⟩
      obtain ⟨x, q1, q2⟩ := xl_ne0.mp c
      have := (wL_x.mp q2).2
      exact ⟨fun _ => Or.inl ⟨e, x, this⟩, fun _ => rfl⟩
  · have f1 : o_a1 O k < o_P O := by omega
    have f2 : o_a2 O k < o_P O := by omega
    by_cases c : wL (fun x => (T x ∧ A x (o_a1 O k)) ∨ (T x ∧ A x (o_a2 O k))) = 0
    · refine ⟨false, by rw [e_Sa_isUsed]; simp (disch := first | assumption | omega) only [hc_ck, hc_gi, hc_gl, hc_gp, hc_ap, kd_I, kd_L, kd_P, kd_rI, ar_I, ar_L, ar_P, al_I, al_L, al_P, hop_s, cond_true, cond_false, pc_I_I, pc_L_L, pc_P_P, pc_I_L, pc_I_P, pc_L_I, pc_L_P, pc_P_I, pc_P_L, pc_sS_I, pc_sS_L, pc_sS_P, I_rI, L_rI, P_rI, S_rI, cv_r, ci_r, cl_r, o1_b, o1_0, o1_1, lc_e, nI_1, nI_add, if_true, if_false, Nat.reduceEqDiff, Nat.left_eq_add, Nat.add_eq_left, false_and, and_false, true_and, and_true, and_self, eq_self, Sa_k, SaC_o, On_k, On_p11, On_p12, On_p13, On_r11, On_r12, On_r13, OnR_ak, OnR_a1, OnR_a2, n_e0, n_e1, e, Sa_p12, Sa_r6, D3, wL_or]; rw [if_pos c]; rfl, ?_⟩
      have c' := wL_0.mp c
      constructor
      · intro q; cases q
      · rintro (⟨q, -⟩ | ⟨-, x, q1, q2⟩ | ⟨q, -⟩ | ⟨q, -⟩)
        · omega
        · exact absurd (q2.imp (fun p => ⟨q1, p⟩) (fun p => ⟨q1, p⟩)) (c' x (by have := hP x q1; omega))
        all_goals omega
    · refine ⟨true, by rw [e_Sa_isUsed]; simp (disch := first | assumption | omega) only [hc_ck, hc_gi, hc_gl, hc_gp, hc_ap, kd_I, kd_L, kd_P, kd_rI, ar_I, ar_L, ar_P, al_I, al_L, al_P, hop_s, cond_true, cond_false, pc_I_I, pc_L_L, pc_P_P, pc_I_L, pc_I_P, pc_L_I, pc_L_P, pc_P_I, pc_P_L, pc_sS_I, pc_sS_L, pc_sS_P, I_rI, L_rI, P_rI, S_rI, cv_r, ci_r, cl_r, o1_b, o1_0, o1_1, lc_e, nI_1, nI_add, if_true, if_false, Nat.reduceEqDiff, Nat.left_eq_add, Nat.add_eq_left, false_and, and_false, true_and, and_true, and_self, eq_self, Sa_k, SaC_o, On_k, On_p11, On_p12, On_p13, On_r11, On_r12, On_r13, OnR_ak, OnR_a1, OnR_a2, n_e0, n_e1, e, Sa_p12, Sa_r6, D3, wL_or]; rw [if_neg c]; rfl, ?_⟩
      obtain ⟨x, q1, q2⟩ := xl_ne0.mp c
      have := (wL_x.mp q2).2
      exact ⟨fun _ => Or.inr (Or.inl ⟨e, x, this.elim And.left And.left, this.imp And.right And.right⟩), fun _ => rfl⟩
  · have f1 : o_a1 O k < o_R O := by omega
    have f2 : o_a2 O k < o_R O := by omega
    by_cases c : G (o_a1 O k)
    · refine ⟨true, by rw [e_Sa_isUsed]; simp (disch := first | assumption | omega) only [hc_ck, hc_gi, hc_gl, hc_gp, hc_ap, kd_I, kd_L, kd_P, kd_rI, ar_I, ar_L, ar_P, al_I, al_L, al_P, hop_s, cond_true, cond_false, pc_I_I, pc_L_L, pc_P_P, pc_I_L, pc_I_P, pc_L_I, pc_L_P, pc_P_I, pc_P_L, pc_sS_I, pc_sS_L, pc_sS_P, I_rI, L_rI, P_rI, S_rI, cv_r, ci_r, cl_r, o1_b, o1_0, o1_1, lc_e, nI_1, nI_add, if_true, if_false, Nat.reduceEqDiff, Nat.left_eq_add, Nat.add_eq_left, false_and, and_false, true_and, and_true, and_self, eq_self, Sa_k, SaC_o, On_k, On_p11, On_p12, On_p13, On_r11, On_r12, On_r13, OnR_ak, OnR_a1, OnR_a2, n_e0, n_e1, n_2, n_eq, e, yi_t0]; simp only [show yi (wI G) (o_a1 O k) = true from wI_x.mpr ⟨by omega, c⟩, Bool.true_eq_false, if_false]; rfl, ?_⟩
      exact ⟨fun _ => Or.inr (Or.inr (Or.inl ⟨e, c⟩)), fun _ => rfl⟩
    · refine ⟨false, by rw [e_Sa_isUsed]; simp (disch := first | assumption | omega) only [hc_ck, hc_gi, hc_gl, hc_gp, hc_ap, kd_I, kd_L, kd_P, kd_rI, ar_I, ar_L, ar_P, al_I, al_L, al_P, hop_s, cond_true, cond_false, pc_I_I, pc_L_L, pc_P_P, pc_I_L, pc_I_P, pc_L_I, pc_L_P, pc_P_I, pc_P_L, pc_sS_I, pc_sS_L, pc_sS_P, I_rI, L_rI, P_rI, S_rI, cv_r, ci_r, cl_r, o1_b, o1_0, o1_1, lc_e, nI_1, nI_add, if_true, if_false, Nat.reduceEqDiff, Nat.left_eq_add, Nat.add_eq_left, false_and, and_false, true_and, and_true, and_self, eq_self, Sa_k, SaC_o, On_k, On_p11, On_p12, On_p13, On_r11, On_r12, On_r13, OnR_ak, OnR_a1, OnR_a2, n_e0, n_e1, n_2, n_eq, e, yi_t0]; simp only [show yi (wI G) (o_a1 O k) = false from cast (wI_f (by omega)).symm c, if_true]; rfl, ?_⟩
      constructor
      · intro q; cases q
      · rintro (⟨q, -⟩ | ⟨q, -⟩ | ⟨-, q⟩ | ⟨q, -⟩)
        · omega
        · omega
        · exact absurd q c
        · omega
  · have f1 : o_a1 O k < o_R O := by omega
    have f2 : o_a2 O k < o_R O := by omega
    by_cases c : G (o_a1 O k) ∧ G (o_a2 O k)
    · refine ⟨true, by rw [e_Sa_isUsed]; simp (disch := first | assumption | omega) only [hc_ck, hc_gi, hc_gl, hc_gp, hc_ap, kd_I, kd_L, kd_P, kd_rI, ar_I, ar_L, ar_P, al_I, al_L, al_P, hop_s, cond_true, cond_false, pc_I_I, pc_L_L, pc_P_P, pc_I_L, pc_I_P, pc_L_I, pc_L_P, pc_P_I, pc_P_L, pc_sS_I, pc_sS_L, pc_sS_P, I_rI, L_rI, P_rI, S_rI, cv_r, ci_r, cl_r, o1_b, o1_0, o1_1, lc_e, nI_1, nI_add, if_true, if_false, Nat.reduceEqDiff, Nat.left_eq_add, Nat.add_eq_left, false_and, and_false, true_and, and_true, and_self, eq_self, Sa_k, SaC_o, On_k, On_p11, On_p12, On_p13, On_r11, On_r12, On_r13, OnR_ak, OnR_a1, OnR_a2, n_e0, n_e1, n_2, n_eq, e, yi_t2]; simp only [show yi (wI G) (o_a1 O k) = true from wI_x.mpr ⟨by omega, c.1⟩, show yi (wI G) (o_a2 O k) = true from wI_x.mpr ⟨by omega, c.2⟩, Bool.and_self, Bool.true_eq_false, if_false]; rfl, ?_⟩
      exact ⟨fun _ => Or.inr (Or.inr (Or.inr ⟨e, c⟩)), fun _ => rfl⟩
    · have cf : (yi (wI G) (o_a1 O k) && yi (wI G) (o_a2 O k)) = false := by
        cases e1 : yi (wI G) (o_a1 O k)
        · rfl
        · cases e2 : yi (wI G) (o_a2 O k)
          · rfl
          · exact absurd ⟨(wI_x.mp e1).2, (wI_x.mp e2).2⟩ c
      refine ⟨false, by rw [e_Sa_isUsed]; simp (disch := first | assumption | omega) only [hc_ck, hc_gi, hc_gl, hc_gp, hc_ap, kd_I, kd_L, kd_P, kd_rI, ar_I, ar_L, ar_P, al_I, al_L, al_P, hop_s, cond_true, cond_false, pc_I_I, pc_L_L, pc_P_P, pc_I_L, pc_I_P, pc_L_I, pc_L_P, pc_P_I, pc_P_L, pc_sS_I, pc_sS_L, pc_sS_P, I_rI, L_rI, P_rI, S_rI, cv_r, ci_r, cl_r, o1_b, o1_0, o1_1, lc_e, nI_1, nI_add, if_true, if_false, Nat.reduceEqDiff, Nat.left_eq_add, Nat.add_eq_left, false_and, and_false, true_and, and_true, and_self, eq_self, Sa_k, SaC_o, On_k, On_p11, On_p12, On_p13, On_r11, On_r12, On_r13, OnR_ak, OnR_a1, OnR_a2, n_e0, n_e1, n_2, n_eq, e, yi_t2]; simp only [cf, if_true]; rfl, ?_⟩
      constructor
      · intro q; cases q
      · rintro (⟨q, -⟩ | ⟨q, -⟩ | ⟨q, -⟩ | ⟨-, q⟩)
        · omega
        · omega
        · omega
        · exact absurd q c
theorem Sa_usedAxioms {h : am_H} {s o : Nat} {O : o_T} {B T : Nat → Prop} {nA : Nat → Int64} {nK : Nat → Nat → Int64} (H : SaC h s o O B) (D : SaD h s O B T (l_A O B) (l_K O B) nA nK) (hP : ∀ x, T x → x < o_P O) (d : Nat) :
    f_Sa_usedAxioms (d + 1) h s = some (.inr (some (.long (wL (u_k O B T)))), h) := by
  have ok : o_ok O := H.2.1.2.1
  have ok2 := ok.2.1
  have ok4 := ok.2.2.2.1
  have ok5 := ok.2.2.2.2.1
  have H1 := SaC_at H
  have H2 := SaC_on H
  have H3 := OnR_at H2
  -- the axioms
  have key3 : ∀ k, k ≤ o_A O → ∀ w : Int64, w = wL (fun j => j < k ∧ u_k O B T j) → f_Sa_usedAxioms_74 (d + 1) h s (wI (fun r => ∃ x y q, T x ∧ o_un O B q r ∧ l_K O B x q y)) w (nI k) = some (.inr (some (.long (wL (u_k O B T)))), h) := by
    refine dn ?_ ?_
    · intro w hw
      rw [e_Sa_usedAxioms_74]
      simp (disch := first | assumption | omega) only [hc_ck, hc_gi, hc_gl, hc_gp, hc_ap, kd_I, kd_L, kd_P, kd_rI, ar_I, ar_L, ar_P, al_I, al_L, al_P, hop_s, cond_true, cond_false, pc_I_I, pc_L_L, pc_P_P, pc_I_L, pc_I_P, pc_L_I, pc_L_P, pc_P_I, pc_P_L, pc_sS_I, pc_sS_L, pc_sS_P, I_rI, L_rI, P_rI, S_rI, cv_r, ci_r, cl_r, o1_b, o1_0, o1_1, lc_e, nI_1, nI_add, if_true, if_false, Nat.reduceEqDiff, Nat.left_eq_add, Nat.add_eq_left, false_and, and_false, true_and, and_true, and_self, eq_self, Sa_k, SaC_o, On_k, OnR_A, n_le, Nat.le_refl]
      apply rl_e
      rw [hw]
      exact wL_cong (fun j _ => ⟨And.right, fun c => ⟨c.1, c⟩⟩)
    · intro k hk ih w hw
      have hk3 : ¬ o_A O ≤ k := by omega
      obtain ⟨b, eb, hb⟩ := Sa_isUsed H D hP hk (fun r => ∃ x y q, T x ∧ o_un O B q r ∧ l_K O B x q y) d
      rw [e_Sa_usedAxioms_74]
      simp (disch := first | assumption | omega) only [hc_ck, hc_gi, hc_gl, hc_gp, hc_ap, kd_I, kd_L, kd_P, kd_rI, ar_I, ar_L, ar_P, al_I, al_L, al_P, hop_s, cond_true, cond_false, pc_I_I, pc_L_L, pc_P_P, pc_I_L, pc_I_P, pc_L_I, pc_L_P, pc_P_I, pc_P_L, pc_sS_I, pc_sS_L, pc_sS_P, I_rI, L_rI, P_rI, S_rI, cv_r, ci_r, cl_r, o1_b, o1_0, o1_1, lc_e, nI_1, nI_add, if_true, if_false, Nat.reduceEqDiff, Nat.left_eq_add, Nat.add_eq_left, false_and, and_false, true_and, and_true, and_self, eq_self, Sa_k, SaC_o, On_k, OnR_A, n_le, hk3, SaC_B, xl_t0, eb, bo_0]
      by_cases hB : B k
      · simp only [show xl (wL B) k = true from wL_x.mpr ⟨by omega, hB⟩, Bool.true_eq_false, if_false]
        cases b with
        | true =>
          simp only [Bool.true_eq_false, if_false]
          apply ih
          rw [hw]
          apply wL_of
          intro j hj
          rw [xl_or, xl_b1 (by omega), Bool.or_eq_true, wL_x, decide_eq_true_iff]
          constructor
          · rintro (⟨-, c1, c2⟩ | rfl)
            · exact ⟨by omega, c2⟩
            · exact ⟨by omega, hk, hB, hb.mp rfl⟩
          · rintro ⟨c1, c2⟩
            by_cases e : j = k
            · exact Or.inr e
            · exact Or.inl ⟨hj, by omega, c2⟩
        | false =>
          simp only [if_true]
          apply ih
          rw [hw]
          refine wL_cong (fun j _ => ⟨fun c => ⟨by omega, c.2⟩, fun c => ⟨?_, c.2⟩⟩)
          by_cases e : j = k
          · subst e
            exact absurd (hb.mpr c.2.2.2) (by decide)
          · omega
      · simp only [show xl (wL B) k = false from cast (wL_f (by omega)).symm hB, if_true]
        apply ih
        rw [hw]
        refine wL_cong (fun j _ => ⟨fun c => ⟨by omega, c.2⟩, fun c => ⟨?_, c.2⟩⟩)
        by_cases e : j = k
        · subst e
          exact absurd c.2.2.1 hB
        · omega
  -- the roles
  have key : ∀ k, k ≤ o_P O → ∀ w : Int32, w = wI (fun r => ∃ x, x < k ∧ ∃ y q, r < o_R O ∧ T x ∧ o_un O B q r ∧ l_K O B x q y) → f_Sa_usedAxioms_4 (d + 1) h s w (nI k) = some (.inr (some (.long (wL (u_k O B T)))), h) := by
    refine dn ?_ ?_
    · intro w hw
      rw [e_Sa_usedAxioms_4]
      simp (disch := first | assumption | omega) only [hc_ck, hc_gi, hc_gl, hc_gp, hc_ap, kd_I, kd_L, kd_P, kd_rI, ar_I, ar_L, ar_P, al_I, al_L, al_P, hop_s, cond_true, cond_false, pc_I_I, pc_L_L, pc_P_P, pc_I_L, pc_I_P, pc_L_I, pc_L_P, pc_P_I, pc_P_L, pc_sS_I, pc_sS_L, pc_sS_P, I_rI, L_rI, P_rI, S_rI, cv_r, ci_r, cl_r, o1_b, o1_0, o1_1, lc_e, nI_1, nI_add, if_true, if_false, Nat.reduceEqDiff, Nat.left_eq_add, Nat.add_eq_left, false_and, and_false, true_and, and_true, and_self, eq_self, Sa_k, SaC_P, n_le, Nat.le_refl]
      have e : w = wI (fun r => ∃ x y q, T x ∧ o_un O B q r ∧ l_K O B x q y) := by
        rw [hw]
        refine wI_cong (fun r _ => ⟨fun ⟨x, c1, y, q, _, c⟩ => ⟨x, y, q, c⟩, fun ⟨x, y, q, c1, c2, c3⟩ => ⟨x, hP x c1, y, q, ?_, c1, c2, c3⟩⟩)
        obtain ⟨n, c2⟩ := c2
        exact o_usd ok c2 (l_Kd ok c3).1
      rw [e]
      exact key3 0 (Nat.zero_le _) 0 (wL_0.mpr (fun j _ c => absurd c.1 (Nat.not_lt_zero j))).symm
    · intro k hk ih w hw
      have hk3 : ¬ o_P O ≤ k := by omega
      have inner : ∀ i, i ≤ o_R O → ∀ w : Int32, w = wI (fun r => (∃ x, x < k ∧ ∃ y q, r < o_R O ∧ T x ∧ o_un O B q r ∧ l_K O B x q y) ∨ (r < i ∧ ∃ y q, T k ∧ o_un O B q r ∧ l_K O B k q y)) → f_Sa_usedAxioms_14 (d + 1) h s w (nI k) (nI i) = some (.inr (some (.long (wL (u_k O B T)))), h) := by
        refine dn ?_ ?_
        · intro w hw
          rw [e_Sa_usedAxioms_14]
          simp (disch := first | assumption | omega) only [hc_ck, hc_gi, hc_gl, hc_gp, hc_ap, kd_I, kd_L, kd_P, kd_rI, ar_I, ar_L, ar_P, al_I, al_L, al_P, hop_s, cond_true, cond_false, pc_I_I, pc_L_L, pc_P_P, pc_I_L, pc_I_P, pc_L_I, pc_L_P, pc_P_I, pc_P_L, pc_sS_I, pc_sS_L, pc_sS_P, I_rI, L_rI, P_rI, S_rI, cv_r, ci_r, cl_r, o1_b, o1_0, o1_1, lc_e, nI_1, nI_add, if_true, if_false, Nat.reduceEqDiff, Nat.left_eq_add, Nat.add_eq_left, false_and, and_false, true_and, and_true, and_self, eq_self, Sa_k, SaC_R, n_le, Nat.le_refl]
          apply ih
          rw [hw]
          refine wI_cong (fun r _ => ⟨?_, ?_⟩)
          · rintro (⟨x, c1, c2⟩ | ⟨c1, y, q, c2⟩)
            · exact ⟨x, by omega, c2⟩
            · exact ⟨k, by omega, y, q, c1, c2⟩
          · rintro ⟨x, c1, y, q, c2, c3⟩
            by_cases e : x = k
            · subst e; exact Or.inr ⟨c2, y, q, c3⟩
            · exact Or.inl ⟨x, by omega, y, q, c2, c3⟩
        · intro i hi ih2 w hw
          have hi3 : ¬ o_R O ≤ i := by omega
          have hno : ¬ (∃ y q, T k ∧ o_un O B q i ∧ l_K O B k q y) → w = wI (fun r => (∃ x, x < k ∧ ∃ y q, r < o_R O ∧ T x ∧ o_un O B q r ∧ l_K O B x q y) ∨ (r < i + 1 ∧ ∃ y q, T k ∧ o_un O B q r ∧ l_K O B k q y)) := by
            intro hn
            rw [hw]
            refine wI_cong (fun r _ => ⟨fun c => c.imp id (fun e => ⟨by omega, e.2⟩), fun c => c.imp id (fun e => ⟨?_, e.2⟩)⟩)
            by_cases e' : r = i
            · subst e'; exact absurd e.2 hn
            · omega
          rw [e_Sa_usedAxioms_14]
          simp (disch := first | assumption | omega) only [hc_ck, hc_gi, hc_gl, hc_gp, hc_ap, kd_I, kd_L, kd_P, kd_rI, ar_I, ar_L, ar_P, al_I, al_L, al_P, hop_s, cond_true, cond_false, pc_I_I, pc_L_L, pc_P_P, pc_I_L, pc_I_P, pc_L_I, pc_L_P, pc_P_I, pc_P_L, pc_sS_I, pc_sS_L, pc_sS_P, I_rI, L_rI, P_rI, S_rI, cv_r, ci_r, cl_r, o1_b, o1_0, o1_1, lc_e, nI_1, nI_add, if_true, if_false, Nat.reduceEqDiff, Nat.left_eq_add, Nat.add_eq_left, false_and, and_false, true_and, and_true, and_self, eq_self, Sa_k, SaC_R, n_le, hi3, D.1, xl_t0, Sa_p14, n_m8, Sa_r8]
          by_cases Tk : T k
          · simp (disch := first | assumption | omega) only [show xl (wL T) k = true from wL_x.mpr ⟨by omega, Tk⟩, Bool.true_eq_false, if_false, ((D.2.1 k hk Tk).2.2.2 i hi).2.1]
            by_cases c : wL (fun y => ∃ q, o_un O B q i ∧ l_K O B k q y) = 0
            · rw [if_pos c]
              have c' := wL_0.mp c
              refine ih2 w (hno ?_)
              rintro ⟨y, q, -, e⟩
              exact c' y (by have := (l_Kd ok e.2).2; omega) ⟨q, e⟩
            · rw [if_neg c]
              obtain ⟨y, q1, q2⟩ := xl_ne0.mp c
              obtain ⟨q, q3⟩ := (wL_x.mp q2).2
              apply ih2
              rw [hw]
              apply wI_of
              intro r hr
              rw [yi_or, yi_b1 (by omega), Bool.or_eq_true, wI_x, decide_eq_true_iff]
              constructor
              · rintro (⟨-, c | ⟨c1, c2⟩⟩ | rfl)
                · exact Or.inl c
                · exact Or.inr ⟨by omega, c2⟩
                · exact Or.inr ⟨by omega, y, q, Tk, q3⟩
              · rintro (c | ⟨c1, c2⟩)
                · exact Or.inl ⟨hr, Or.inl c⟩
                · by_cases e : r = i
                  · exact Or.inr e
                  · exact Or.inl ⟨hr, Or.inr ⟨by omega, c2⟩⟩
          · simp only [show xl (wL T) k = false from cast (wL_f (by omega)).symm Tk, if_true]
            refine ih2 w (hno ?_)
            rintro ⟨y, q, c, -⟩
            exact Tk c
      rw [e_Sa_usedAxioms_4]
      simp (disch := first | assumption | omega) only [hc_ck, hc_gi, hc_gl, hc_gp, hc_ap, kd_I, kd_L, kd_P, kd_rI, ar_I, ar_L, ar_P, al_I, al_L, al_P, hop_s, cond_true, cond_false, pc_I_I, pc_L_L, pc_P_P, pc_I_L, pc_I_P, pc_L_I, pc_L_P, pc_P_I, pc_P_L, pc_sS_I, pc_sS_L, pc_sS_P, I_rI, L_rI, P_rI, S_rI, cv_r, ci_r, cl_r, o1_b, o1_0, o1_1, lc_e, nI_1, nI_add, if_true, if_false, Nat.reduceEqDiff, Nat.left_eq_add, Nat.add_eq_left, false_and, and_false, true_and, and_true, and_self, eq_self, Sa_k, SaC_P, n_le, hk3]
      refine inner 0 (Nat.zero_le _) w ?_
      rw [hw]
      exact wI_cong (fun r _ => ⟨Or.inl, fun c => c.elim id (fun e => absurd e.1 (Nat.not_lt_zero r))⟩)
  rw [e_Sa_usedAxioms]
  exact key 0 (Nat.zero_le _) 0 (wI_0.mpr (fun r _ ⟨x, c, _⟩ => absurd c (Nat.not_lt_zero x))).symm
