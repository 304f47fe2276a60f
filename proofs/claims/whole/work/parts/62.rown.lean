/-! ===== the reference: byOwn, byLink ===== -/
theorem wb_s {P : Nat → Prop} {Q : Nat → Nat → Prop} {k : Nat} {v : Int64} (h : ∀ y, y < 64 → (xl v y = true ↔ (xl (wL (fun y => P y ∨ ∃ p, p < k ∧ Q p y)) y = true ∨ Q k y))) : v = wL (fun y => P y ∨ ∃ p, p < k + 1 ∧ Q p y) := by
  apply wL_of
  intro y hy
  rw [h y hy, wL_x]
  constructor
  · rintro (⟨-, c | ⟨p, h1, h2⟩⟩ | c)
    · exact Or.inl c
    · exact Or.inr ⟨p, by omega, h2⟩
    · exact Or.inr ⟨k, by omega, c⟩
  · rintro (c | ⟨p, h1, h2⟩)
    · exact Or.inl ⟨hy, Or.inl c⟩
    · by_cases e : p = k
      · subst e; exact Or.inr h2
      · exact Or.inl ⟨hy, Or.inr ⟨p, by omega, h2⟩⟩
theorem wb_n {P : Nat → Prop} {Q : Nat → Nat → Prop} {k : Nat} (h : ∀ y, y < 64 → ¬ Q k y) : wL (fun y => P y ∨ ∃ p, p < k ∧ Q p y) = wL (fun y => P y ∨ ∃ p, p < k + 1 ∧ Q p y) := wb_s (fun y hy => ⟨Or.inl, fun c => c.elim id (fun q => absurd q (h y hy))⟩)
theorem wb_0 {P : Nat → Prop} {Q : Nat → Nat → Prop} : wL P = wL (fun y => P y ∨ ∃ p, p < 0 ∧ Q p y) := wL_cong (fun y _ => ⟨Or.inl, fun c => c.elim id (fun ⟨p, h, _⟩ => absurd h (Nat.not_lt_zero p))⟩)
def c_ax (O : o_T) (B U : Nat → Prop) (k y : Nat) : Prop := B k ∧ ((o_ak O k ≤ 1 ∧ U (o_a1 O k) ∧ o_a2 O k = y) ∨ (o_ak O k = 1 ∧ U (o_a2 O k) ∧ o_a1 O k = y))
def c_an (O : o_T) (U : Nat → Prop) (p y : Nat) : Prop := o_pk O p = 3 ∧ ((U p ∧ (o_pa O p = y ∨ o_pb O p = y)) ∨ (U (o_pa O p) ∧ U (o_pb O p) ∧ p = y))
theorem xl_wt {P : Nat → Prop} {k : Nat} (hk : k < 64) (h : P k) : xl (wL P) k = true := wL_x.mpr ⟨hk, h⟩
theorem xl_wf {P : Nat → Prop} {k : Nat} (hk : k < 64) (h : ¬ P k) : xl (wL P) k = false := cast (wL_f hk).symm h
theorem yi_wt {P : Nat → Prop} {k : Nat} (hk : k < 32) (h : P k) : yi (wI P) k = true := wI_x.mpr ⟨hk, h⟩
theorem yi_wf {P : Nat → Prop} {k : Nat} (hk : k < 32) (h : ¬ P k) : yi (wI P) k = false := cast (wI_f hk).symm h
theorem Rf_byOwn {h : am_H} {f r : Nat} {O : o_T} (H : RfAt h f) (R : RwR h r O) (B : Nat → Prop) {U : Nat → Prop} {x : Nat} (hx : x < o_P O) (hU : am_L h (f + 6) x = wL U) (d : Nat) : f_Rf_byOwn (d + 1) h f r (wL B) (nI x) = some (.inr (some (.long (wL (fun y => U y ∨ (∃ k, k < o_A O ∧ c_ax O B U k y) ∨ (∃ p, p < o_P O ∧ c_an O U p y))))), h) := by
  have ok := R.2.1
  obtain ⟨-, ok2, ok3, ok4, ok5, -, -, okP, okA, -⟩ := ok
  have key2 : ∀ k, k ≤ o_P O → ∀ w : Int64, w = wL (fun y => (U y ∨ ∃ k, k < o_A O ∧ c_ax O B U k y) ∨ ∃ p, p < k ∧ c_an O U p y) → f_Rf_byOwn_122 (d + 1) h r (wL U) w (nI k) = some (.inr (some (.long (wL (fun y => U y ∨ (∃ k, k < o_A O ∧ c_ax O B U k y) ∨ (∃ p, p < o_P O ∧ c_an O U p y))))), h) := by
    refine dn ?_ ?_
    · intro w hw
      rw [e_Rf_byOwn_122]
      simp (disch := first | assumption | omega) only [hc_ck, hc_gi, hc_gl, hc_gp, ap_I, ap_L, kd_I, kd_L, kd_P, kd_rI, ar_I, ar_L, ar_P, al_I, al_L, al_P, hop_s, cond_true, cond_false, pc_I_I, pc_L_L, pc_P_P, pc_I_L, pc_I_P, pc_L_I, pc_L_P, pc_P_I, pc_P_L, pc_sS_I, pc_sS_L, pc_sS_P, I_rI, L_rI, P_rI, S_rI, cv_r, ci_r, cl_r, o1_b, o1_0, o1_1, lc_e, nI_1, nI_add, if_true, if_false, Nat.reduceEqDiff, Nat.left_eq_add, Nat.add_eq_left, false_and, and_false, true_and, and_true, and_self, eq_self, n_2, Rw_ar, Rw_P, n_le, Nat.le_refl]
      apply rl_e
      rw [hw]
      exact wL_cong (fun y _ => or_assoc)
    · intro k hk ih w hw
      have hk3 : ¬ o_P O ≤ k := by omega
      have okk := okP k hk
      unfold o_okP at okk
      rw [e_Rf_byOwn_122]
      simp (disch := first | assumption | omega) only [hc_ck, hc_gi, hc_gl, hc_gp, ap_I, ap_L, kd_I, kd_L, kd_P, kd_rI, ar_I, ar_L, ar_P, al_I, al_L, al_P, hop_s, cond_true, cond_false, pc_I_I, pc_L_L, pc_P_P, pc_I_L, pc_I_P, pc_L_I, pc_L_P, pc_P_I, pc_P_L, pc_sS_I, pc_sS_L, pc_sS_P, I_rI, L_rI, P_rI, S_rI, cv_r, ci_r, cl_r, o1_b, o1_0, o1_1, lc_e, nI_1, nI_add, if_true, if_false, Nat.reduceEqDiff, Nat.left_eq_add, Nat.add_eq_left, false_and, and_false, true_and, and_true, and_self, eq_self, n_2, Rw_ar, Rw_P, n_le, hk3, Rf_kindOf, n_3, n_eq]
      by_cases e3 : o_pk O k = 3
      · have f1 : o_pa O k < o_P O := by omega
        have f2 : o_pb O k < o_P O := by omega
        rw [if_pos e3]
        simp (disch := first | assumption | omega) only [hc_ck, hc_gi, hc_gl, hc_gp, ap_I, ap_L, kd_I, kd_L, kd_P, kd_rI, ar_I, ar_L, ar_P, al_I, al_L, al_P, hop_s, cond_true, cond_false, pc_I_I, pc_L_L, pc_P_P, pc_I_L, pc_I_P, pc_L_I, pc_L_P, pc_P_I, pc_P_L, pc_sS_I, pc_sS_L, pc_sS_P, I_rI, L_rI, P_rI, S_rI, cv_r, ci_r, cl_r, o1_b, o1_0, o1_1, lc_e, nI_1, nI_add, if_true, if_false, Nat.reduceEqDiff, Nat.left_eq_add, Nat.add_eq_left, false_and, and_false, true_and, and_true, and_self, eq_self, Rf_oneOf, Rf_otherOf, Rf_has, bo_0]
        by_cases c1 : U k
        · by_cases c2 : U (o_pa O k)
          · by_cases c3 : U (o_pb O k)
            · simp only [xl_wt (show k < 64 by omega) c1, xl_wt (show o_pa O k < 64 by omega) c2, xl_wt (show o_pb O k < 64 by omega) c3, Bool.true_eq_false, if_false]
              apply ih
              apply wb_s
              intro y hy
              rw [xl_or, xl_or, xl_or, xl_b1 (by omega), xl_b1 (by omega), xl_b1 (by omega), hw, Bool.or_eq_true, Bool.or_eq_true, Bool.or_eq_true, decide_eq_true_iff, decide_eq_true_iff, decide_eq_true_iff]
              constructor
              · rintro ((c | rfl | rfl) | rfl)
                · exact Or.inl c
                · exact Or.inr ⟨e3, Or.inl ⟨c1, Or.inl rfl⟩⟩
                · exact Or.inr ⟨e3, Or.inl ⟨c1, Or.inr rfl⟩⟩
                · exact Or.inr ⟨e3, Or.inr ⟨c2, c3, rfl⟩⟩
              · rintro (c | ⟨-, ⟨-, c | c⟩ | ⟨-, -, c⟩⟩)
                · exact Or.inl (Or.inl c)
                · exact Or.inl (Or.inr (Or.inl c.symm))
                · exact Or.inl (Or.inr (Or.inr c.symm))
                · exact Or.inr c.symm
            · simp only [xl_wt (show k < 64 by omega) c1, xl_wt (show o_pa O k < 64 by omega) c2, xl_wf (show o_pb O k < 64 by omega) c3, Bool.true_eq_false, if_false, if_true]
              apply ih
              apply wb_s
              intro y hy
              rw [xl_or, xl_or, xl_b1 (by omega), xl_b1 (by omega), hw, Bool.or_eq_true, Bool.or_eq_true, decide_eq_true_iff, decide_eq_true_iff]
              constructor
              · rintro (c | rfl | rfl)
                · exact Or.inl c
                · exact Or.inr ⟨e3, Or.inl ⟨c1, Or.inl rfl⟩⟩
                · exact Or.inr ⟨e3, Or.inl ⟨c1, Or.inr rfl⟩⟩
              · rintro (c | ⟨-, ⟨-, c | c⟩ | ⟨-, c, -⟩⟩)
                · exact Or.inl c
                · exact Or.inr (Or.inl c.symm)
                · exact Or.inr (Or.inr c.symm)
                · exact absurd c c3
          · simp only [xl_wt (show k < 64 by omega) c1, xl_wf (show o_pa O k < 64 by omega) c2, Bool.true_eq_false, if_false, if_true]
            apply ih
            apply wb_s
            intro y hy
            rw [xl_or, xl_or, xl_b1 (by omega), xl_b1 (by omega), hw, Bool.or_eq_true, Bool.or_eq_true, decide_eq_true_iff, decide_eq_true_iff]
            constructor
            · rintro (c | rfl | rfl)
              · exact Or.inl c
              · exact Or.inr ⟨e3, Or.inl ⟨c1, Or.inl rfl⟩⟩
              · exact Or.inr ⟨e3, Or.inl ⟨c1, Or.inr rfl⟩⟩
            · rintro (c | ⟨-, ⟨-, c | c⟩ | ⟨c, -⟩⟩)
              · exact Or.inl c
              · exact Or.inr (Or.inl c.symm)
              · exact Or.inr (Or.inr c.symm)
              · exact absurd c c2
        · simp only [xl_wf (show k < 64 by omega) c1, if_true]
          by_cases c2 : U (o_pa O k) ∧ U (o_pb O k)
          · simp only [xl_wt (show o_pa O k < 64 by omega) c2.1, xl_wt (show o_pb O k < 64 by omega) c2.2, Bool.true_eq_false, if_false]
            apply ih
            apply wb_s
            intro y hy
            rw [xl_or, xl_b1 (by omega), hw, Bool.or_eq_true, decide_eq_true_iff]
            constructor
            · rintro (c | rfl)
              · exact Or.inl c
              · exact Or.inr ⟨e3, Or.inr ⟨c2.1, c2.2, rfl⟩⟩
            · rintro (c | ⟨-, ⟨c, -⟩ | ⟨-, -, c⟩⟩)
              · exact Or.inl c
              · exact absurd c c1
              · exact Or.inr c.symm
          · have hq := ih w (by
              rw [hw]
              apply wb_n
              rintro y hy ⟨-, ⟨c, -⟩ | ⟨c, c', -⟩⟩
              · exact c1 c
              · exact c2 ⟨c, c'⟩)
            by_cases c3 : U (o_pa O k)
            · simp only [xl_wt (show o_pa O k < 64 by omega) c3, xl_wf (show o_pb O k < 64 by omega) (fun c => c2 ⟨c3, c⟩), Bool.true_eq_false, if_false, if_true]
              exact hq
            · simp only [xl_wf (show o_pa O k < 64 by omega) c3, if_true]
              exact hq
      · rw [if_neg e3]
        apply ih
        rw [hw]
        exact wb_n (fun y _ c => e3 c.1)
  have key : ∀ k, k ≤ o_A O → ∀ w : Int64, w = wL (fun y => U y ∨ ∃ j, j < k ∧ c_ax O B U j y) → f_Rf_byOwn_16 (d + 1) h r (wL B) (wL U) w (nI k) = some (.inr (some (.long (wL (fun y => U y ∨ (∃ k, k < o_A O ∧ c_ax O B U k y) ∨ (∃ p, p < o_P O ∧ c_an O U p y))))), h) := by
    refine dn ?_ ?_
    · intro w hw
      rw [e_Rf_byOwn_16]
      simp (disch := first | assumption | omega) only [hc_ck, hc_gi, hc_gl, hc_gp, ap_I, ap_L, kd_I, kd_L, kd_P, kd_rI, ar_I, ar_L, ar_P, al_I, al_L, al_P, hop_s, cond_true, cond_false, pc_I_I, pc_L_L, pc_P_P, pc_I_L, pc_I_P, pc_L_I, pc_L_P, pc_P_I, pc_P_L, pc_sS_I, pc_sS_L, pc_sS_P, I_rI, L_rI, P_rI, S_rI, cv_r, ci_r, cl_r, o1_b, o1_0, o1_1, lc_e, nI_1, nI_add, if_true, if_false, Nat.reduceEqDiff, Nat.left_eq_add, Nat.add_eq_left, false_and, and_false, true_and, and_true, and_self, eq_self, n_3, Rw_ar, Rw_A, n_le, Nat.le_refl]
      refine key2 0 (Nat.zero_le _) w ?_
      rw [hw]
      exact wb_0
    · intro k hk ih w hw
      have hk3 : ¬ o_A O ≤ k := by omega
      have okk := okA k hk
      unfold o_okA at okk
      rw [e_Rf_byOwn_16]
      simp (disch := first | assumption | omega) only [hc_ck, hc_gi, hc_gl, hc_gp, ap_I, ap_L, kd_I, kd_L, kd_P, kd_rI, ar_I, ar_L, ar_P, al_I, al_L, al_P, hop_s, cond_true, cond_false, pc_I_I, pc_L_L, pc_P_P, pc_I_L, pc_I_P, pc_L_I, pc_L_P, pc_P_I, pc_P_L, pc_sS_I, pc_sS_L, pc_sS_P, I_rI, L_rI, P_rI, S_rI, cv_r, ci_r, cl_r, o1_b, o1_0, o1_1, lc_e, nI_1, nI_add, if_true, if_false, Nat.reduceEqDiff, Nat.left_eq_add, Nat.add_eq_left, false_and, and_false, true_and, and_true, and_self, eq_self, n_3, Rw_ar, Rw_A, n_le, hk3, Rf_axiom0, Rf_axiom1, Rf_axiom2, Rf_has, bo_0]
      by_cases hB : B k
      · simp (disch := first | assumption | omega) only [hc_ck, hc_gi, hc_gl, hc_gp, ap_I, ap_L, kd_I, kd_L, kd_P, kd_rI, ar_I, ar_L, ar_P, al_I, al_L, al_P, hop_s, cond_true, cond_false, pc_I_I, pc_L_L, pc_P_P, pc_I_L, pc_I_P, pc_L_I, pc_L_P, pc_P_I, pc_P_L, pc_sS_I, pc_sS_L, pc_sS_P, I_rI, L_rI, P_rI, S_rI, cv_r, ci_r, cl_r, o1_b, o1_0, o1_1, lc_e, nI_1, nI_add, if_true, if_false, Nat.reduceEqDiff, Nat.left_eq_add, Nat.add_eq_left, false_and, and_false, true_and, and_true, and_self, eq_self, xl_wt (show k < 64 by omega) hB, Bool.true_eq_false, n_1, n_le]
        by_cases e1 : o_ak O k ≤ 1
        · rw [if_pos e1]
          have f1 : o_a1 O k < o_P O := by omega
          have f2 : o_a2 O k < o_P O := by omega
          simp (disch := first | assumption | omega) only [hc_ck, hc_gi, hc_gl, hc_gp, ap_I, ap_L, kd_I, kd_L, kd_P, kd_rI, ar_I, ar_L, ar_P, al_I, al_L, al_P, hop_s, cond_true, cond_false, pc_I_I, pc_L_L, pc_P_P, pc_I_L, pc_I_P, pc_L_I, pc_L_P, pc_P_I, pc_P_L, pc_sS_I, pc_sS_L, pc_sS_P, I_rI, L_rI, P_rI, S_rI, cv_r, ci_r, cl_r, o1_b, o1_0, o1_1, lc_e, nI_1, nI_add, if_true, if_false, Nat.reduceEqDiff, Nat.left_eq_add, Nat.add_eq_left, false_and, and_false, true_and, and_true, and_self, eq_self, Rf_has, bo_0, e_Rf_byOwn_88, n_1, n_eq]
          by_cases c1 : U (o_a1 O k)
          · simp only [xl_wt (show o_a1 O k < 64 by omega) c1, Bool.true_eq_false, if_false]
            by_cases e2 : o_ak O k = 1
            · rw [if_pos e2]
              by_cases c2 : U (o_a2 O k)
              · simp only [xl_wt (show o_a2 O k < 64 by omega) c2, Bool.true_eq_false, if_false]
                apply ih
                apply wb_s
                intro y hy
                rw [xl_or, xl_or, xl_b1 (by omega), xl_b1 (by omega), hw, Bool.or_eq_true, Bool.or_eq_true, decide_eq_true_iff, decide_eq_true_iff]
                constructor
                · rintro ((c | rfl) | rfl)
                  · exact Or.inl c
                  · exact Or.inr ⟨hB, Or.inl ⟨e1, c1, rfl⟩⟩
                  · exact Or.inr ⟨hB, Or.inr ⟨e2, c2, rfl⟩⟩
                · rintro (c | ⟨-, ⟨-, -, c⟩ | ⟨-, -, c⟩⟩)
                  · exact Or.inl (Or.inl c)
                  · exact Or.inl (Or.inr c.symm)
                  · exact Or.inr c.symm
              · simp only [xl_wf (show o_a2 O k < 64 by omega) c2, if_true]
                apply ih
                apply wb_s
                intro y hy
                rw [xl_or, xl_b1 (by omega), hw, Bool.or_eq_true, decide_eq_true_iff]
                constructor
                · rintro (c | rfl)
                  · exact Or.inl c
                  · exact Or.inr ⟨hB, Or.inl ⟨e1, c1, rfl⟩⟩
                · rintro (c | ⟨-, ⟨-, -, c⟩ | ⟨-, c, -⟩⟩)
                  · exact Or.inl c
                  · exact Or.inr c.symm
                  · exact absurd c c2
            · rw [if_neg e2]
              apply ih
              apply wb_s
              intro y hy
              rw [xl_or, xl_b1 (by omega), hw, Bool.or_eq_true, decide_eq_true_iff]
              constructor
              · rintro (c | rfl)
                · exact Or.inl c
                · exact Or.inr ⟨hB, Or.inl ⟨e1, c1, rfl⟩⟩
              · rintro (c | ⟨-, ⟨-, -, c⟩ | ⟨c, -⟩⟩)
                · exact Or.inl c
                · exact Or.inr c.symm
                · exact absurd c e2
          · simp only [xl_wf (show o_a1 O k < 64 by omega) c1, if_true]
            by_cases e2 : o_ak O k = 1 ∧ U (o_a2 O k)
            · rw [if_pos e2.1]
              simp only [xl_wt (show o_a2 O k < 64 by omega) e2.2, Bool.true_eq_false, if_false]
              apply ih
              apply wb_s
              intro y hy
              rw [xl_or, xl_b1 (by omega), hw, Bool.or_eq_true, decide_eq_true_iff]
              constructor
              · rintro (c | rfl)
                · exact Or.inl c
                · exact Or.inr ⟨hB, Or.inr ⟨e2.1, e2.2, rfl⟩⟩
              · rintro (c | ⟨-, ⟨-, c, -⟩ | ⟨-, -, c⟩⟩)
                · exact Or.inl c
                · exact absurd c c1
                · exact Or.inr c.symm
            · have hq := ih w (by
                rw [hw]
                apply wb_n
                rintro y hy ⟨-, ⟨-, c, -⟩ | ⟨c, c', -⟩⟩
                · exact c1 c
                · exact e2 ⟨c, c'⟩)
              by_cases e3 : o_ak O k = 1
              · rw [if_pos e3]
                simp only [xl_wf (show o_a2 O k < 64 by omega) (fun c => e2 ⟨e3, c⟩), if_true]
                exact hq
              · rw [if_neg e3]
                exact hq
        · rw [if_neg e1]
          apply ih
          rw [hw]
          apply wb_n
          rintro y hy ⟨-, ⟨c, -⟩ | ⟨c, -⟩⟩ <;> omega
      · simp only [xl_wf (show k < 64 by omega) hB, if_true]
        apply ih
        rw [hw]
        exact wb_n (fun y _ c => hB c.1)
  rw [e_Rf_byOwn]
  simp (disch := first | assumption | omega) only [hc_ck, hc_gi, hc_gl, hc_gp, ap_I, ap_L, kd_I, kd_L, kd_P, kd_rI, ar_I, ar_L, ar_P, al_I, al_L, al_P, hop_s, cond_true, cond_false, pc_I_I, pc_L_L, pc_P_P, pc_I_L, pc_I_P, pc_L_I, pc_L_P, pc_P_I, pc_P_L, pc_sS_I, pc_sS_L, pc_sS_P, I_rI, L_rI, P_rI, S_rI, cv_r, ci_r, cl_r, o1_b, o1_0, o1_1, lc_e, nI_1, nI_add, if_true, if_false, Nat.reduceEqDiff, Nat.left_eq_add, Nat.add_eq_left, false_and, and_false, true_and, and_true, and_self, eq_self, Rf_k, Rf_p18, Rf_r6, hU]
  exact key 0 (Nat.zero_le _) _ wb_0
theorem Rf_byLink {h : am_H} {f : Nat} {O : o_T} {B : Nat → Prop} (H : RfAt h f) (ok : o_ok O) (Un : RfU h f O B) {A : Nat → Nat → Prop} {r y : Nat} (hr : r < 8) (hy : y < o_P O) (hA : am_L h (f + 6) y = wL (A y)) (hs : ∀ s, s < 8 → am_L h (f + 1452 + s) y = wL (d_so O A s y)) (d : Nat) : f_Rf_byLink (d + 1) h f (nI r) (nI y) = some (.inr (some (.long (wL (fun p => (p = 1 ∧ A y 1) ∨ ∃ s, s < 8 ∧ (o_un O B r s ∧ d_so O A s y p))))), h) := by
  have ok4 := ok.2.2.2.1
  have key : ∀ i, i ≤ 8 → ∀ w : Int64, w = wL (fun p => (p = 1 ∧ A y 1) ∨ ∃ s, s < i ∧ (o_un O B r s ∧ d_so O A s y p)) → f_Rf_byLink_24 (d + 1) h f (nI r) (nI y) w (nI i) = some (.inr (some (.long (wL (fun p => (p = 1 ∧ A y 1) ∨ ∃ s, s < 8 ∧ (o_un O B r s ∧ d_so O A s y p))))), h) := by
    refine dn ?_ ?_
    · intro w hw
      rw [e_Rf_byLink_24]
      simp (disch := first | assumption | omega) only [hc_ck, hc_gi, hc_gl, hc_gp, ap_I, ap_L, kd_I, kd_L, kd_P, kd_rI, ar_I, ar_L, ar_P, al_I, al_L, al_P, hop_s, cond_true, cond_false, pc_I_I, pc_L_L, pc_P_P, pc_I_L, pc_I_P, pc_L_I, pc_L_P, pc_P_I, pc_P_L, pc_sS_I, pc_sS_L, pc_sS_P, I_rI, L_rI, P_rI, S_rI, cv_r, ci_r, cl_r, o1_b, o1_0, o1_1, lc_e, nI_1, nI_add, if_true, if_false, Nat.reduceEqDiff, Nat.left_eq_add, Nat.add_eq_left, false_and, and_false, true_and, and_true, and_self, eq_self, n_8, n_le, Nat.le_refl, hw]
    · intro i hi ih w hw
      have hi3 : ¬ 8 ≤ i := by omega
      have eu : am_I h (f + 1460) r = wI (o_un O B r) := Un r hr
      rw [e_Rf_byLink_24]
      simp (disch := first | assumption | omega) only [hc_ck, hc_gi, hc_gl, hc_gp, ap_I, ap_L, kd_I, kd_L, kd_P, kd_rI, ar_I, ar_L, ar_P, al_I, al_L, al_P, hop_s, cond_true, cond_false, pc_I_I, pc_L_L, pc_P_P, pc_I_L, pc_I_P, pc_L_I, pc_L_P, pc_P_I, pc_P_L, pc_sS_I, pc_sS_L, pc_sS_P, I_rI, L_rI, P_rI, S_rI, cv_r, ci_r, cl_r, o1_b, o1_0, o1_1, lc_e, nI_1, nI_add, if_true, if_false, Nat.reduceEqDiff, Nat.left_eq_add, Nat.add_eq_left, false_and, and_false, true_and, and_true, and_self, eq_self, n_8, n_le, hi3, Rf_k, Rf_p24, Rf_r1460, eu, Rf_hasI, bo_0, Rf_p23, Rf_a1451, Rf_b1452, hs i hi]
      by_cases c : o_un O B r i
      · simp only [yi_wt (show i < 32 by omega) c, Bool.true_eq_false, if_false]
        apply ih
        apply wb_s
        intro p hp
        rw [xl_or, hw, Bool.or_eq_true, wL_x (P := d_so O A i y)]
        exact ⟨fun e => e.imp id (fun q => ⟨c, q.2⟩), fun e => e.imp id (fun q => ⟨hp, q.2⟩)⟩
      · simp only [yi_wf (show i < 32 by omega) c, if_true]
        apply ih
        rw [hw]
        exact wb_n (fun p _ e => c e.1)
  rw [e_Rf_byLink]
  simp (disch := first | assumption | omega) only [hc_ck, hc_gi, hc_gl, hc_gp, ap_I, ap_L, kd_I, kd_L, kd_P, kd_rI, ar_I, ar_L, ar_P, al_I, al_L, al_P, hop_s, cond_true, cond_false, pc_I_I, pc_L_L, pc_P_P, pc_I_L, pc_I_P, pc_L_I, pc_L_P, pc_P_I, pc_P_L, pc_sS_I, pc_sS_L, pc_sS_P, I_rI, L_rI, P_rI, S_rI, cv_r, ci_r, cl_r, o1_b, o1_0, o1_1, lc_e, nI_1, nI_add, if_true, if_false, Nat.reduceEqDiff, Nat.left_eq_add, Nat.add_eq_left, false_and, and_false, true_and, and_true, and_self, eq_self, Rf_k, Rf_p18, Rf_r6, hA, n_1, Rf_has, bo_0]
  by_cases c : A y 1
  · simp only [xl_wt (show 1 < 64 by omega) c, Bool.true_eq_false, if_false]
    refine key 0 (Nat.zero_le _) 2 ?_
    apply wL_of
    intro p hp
    rw [xl_2, decide_eq_true_iff]
    exact ⟨fun e => Or.inl ⟨e, c⟩, fun e => e.elim And.left (fun ⟨s, q, _⟩ => absurd q (Nat.not_lt_zero s))⟩
  · simp only [xl_wf (show 1 < 64 by omega) c, if_true]
    refine key 0 (Nat.zero_le _) 0 ?_
    exact (wL_0.mpr (fun p _ e => e.elim (fun q => c q.2) (fun ⟨s, q, _⟩ => absurd q (Nat.not_lt_zero s)))).symm
