/-! ===== the class's ruleFor, witnessOf ===== -/
/-- the rule, and what it is by -/
def w_h (O : o_T) (B : Nat → Prop) (A : Nat → Nat → Prop) (K : Nat → Nat → Nat → Prop) (x y i : Nat) : Prop :=
  (i = 1 ∧ ∃ k, w_1 O B (A x) y k) ∨ (i = 2 ∧ ∃ k, w_2 O (A x) y k) ∨ (i = 3 ∧ w_3 O (A x) y) ∨ (i = 4 ∧ ∃ k, w_4 O B A K x y k) ∨ (i = 5 ∧ ∃ k, w_5 O A K x y k)
def w_w (O : o_T) (B : Nat → Prop) (A : Nat → Nat → Prop) (K : Nat → Nat → Nat → Prop) (x y i k : Nat) : Prop :=
  (i = 1 ∧ w_1 O B (A x) y k) ∨ (i = 2 ∧ w_2 O (A x) y k) ∨ (i = 4 ∧ w_4 O B A K x y k) ∨ (i = 5 ∧ w_5 O A K x y k)
theorem w_lt {O : o_T} {B : Nat → Prop} {A : Nat → Nat → Prop} {K : Nat → Nat → Nat → Prop} (ok : o_ok O) {x y i k : Nat} (h : w_w O B A K x y i k) : k < 60 := by
  have h4 := ok.2.2.2.1
  have h5 := ok.2.2.2.2.1
  rcases h with ⟨-, h⟩ | ⟨-, h⟩ | ⟨-, h⟩ | ⟨-, h⟩
  · have := h.1; omega
  · have := h.1; omega
  · have := h.1; omega
  · have := h.1; omega
theorem Sa_joins {h : am_H} {s o : Nat} {O : o_T} {B T : Nat → Prop} {A : Nat → Nat → Prop} {K : Nat → Nat → Nat → Prop} {nA : Nat → Int64} {nK : Nat → Nat → Int64} (H : SaC h s o O B) (D : SaD h s O B T A K nA nK) {x y : Nat} (hx : x < o_P O) (Tx : T x) (hy : y < o_P O) (d : Nat) :
    ∃ b, f_Sa_joins d h s (nI x) (nI y) = some (.inr (some (.int (bo b))), h) ∧ (b = true ↔ w_3 O (A x) y) := by
  have ok : o_ok O := H.2.1.2.1
  obtain ⟨ok1, ok2, ok3, ok4, ok5, -, -, okP, okA, -⟩ := ok
  have okk := okP y hy
  unfold o_okP at okk
  have H1 := SaC_at H
  have H2 := SaC_on H
  have H3 := OnR_at H2
  have DA := (D.2.1 x hx Tx).1
  by_cases e3 : o_pk O y = 3
  · refine ⟨xl (wL (A x)) (o_pa O y) && xl (wL (A x)) (o_pb O y), ?_, ?_⟩
    · rw [e_Sa_joins]
      simp (disch := first | assumption | omega) only [hc_ck, hc_gi, hc_gl, hc_gp, hc_ap, kd_I, kd_L, kd_P, kd_rI, ar_I, ar_L, ar_P, al_I, al_L, al_P, hop_s, cond_true, cond_false, pc_I_I, pc_L_L, pc_P_P, pc_I_L, pc_I_P, pc_L_I, pc_L_P, pc_P_I, pc_P_L, pc_sS_I, pc_sS_L, pc_sS_P, I_rI, L_rI, P_rI, S_rI, cv_r, ci_r, cl_r, o1_b, o1_0, o1_1, lc_e, nI_1, nI_add, if_true, if_false, Nat.reduceEqDiff, Nat.left_eq_add, Nat.add_eq_left, false_and, and_false, true_and, and_true, and_self, eq_self, Sa_k, SaC_o, On_k, On_p4, On_r6, OnR_pk, n_3, n_eq, e3, On_p5, On_p6, On_r7, On_r8, OnR_pa, OnR_pb, Sa_p11, Sa_r5, DA, xl_t2]
      cases xl (wL (A x)) (o_pa O y) <;> cases xl (wL (A x)) (o_pb O y) <;> rfl
    · rw [Bool.and_eq_true, wL_x, wL_x]
      exact ⟨fun c => ⟨e3, c.1.2, c.2.2⟩, fun c => ⟨⟨by omega, c.2.1⟩, ⟨by omega, c.2.2⟩⟩⟩
  · refine ⟨false, ?_, ⟨fun c => absurd c (by decide), fun c => absurd c.1 e3⟩⟩
    rw [e_Sa_joins]
    simp (disch := first | assumption | omega) only [hc_ck, hc_gi, hc_gl, hc_gp, hc_ap, kd_I, kd_L, kd_P, kd_rI, ar_I, ar_L, ar_P, al_I, al_L, al_P, hop_s, cond_true, cond_false, pc_I_I, pc_L_L, pc_P_P, pc_I_L, pc_I_P, pc_L_I, pc_L_P, pc_P_I, pc_P_L, pc_sS_I, pc_sS_L, pc_sS_P, I_rI, L_rI, P_rI, S_rI, cv_r, ci_r, cl_r, o1_b, o1_0, o1_1, lc_e, nI_1, nI_add, if_true, if_false, Nat.reduceEqDiff, Nat.left_eq_add, Nat.add_eq_left, false_and, and_false, true_and, and_true, and_self, eq_self, Sa_k, SaC_o, On_k, On_p4, On_r6, OnR_pk, n_3, n_eq, e3]
    rfl
theorem Sa_witnessOf {h : am_H} {s o : Nat} {O : o_T} {B T : Nat → Prop} {A : Nat → Nat → Prop} {K : Nat → Nat → Nat → Prop} {nA : Nat → Int64} {nK : Nat → Nat → Int64} (H : SaC h s o O B) (D : SaD h s O B T A K nA nK) (hT : ∀ x, x < o_P O → T x) {x y i : Nat} (hx : x < o_P O) (hy : y < o_P O) (hi : i < 6) (d : Nat) :
    f_Sa_witnessOf (d + 1) h s (nI i) (nI x) (nI y) = some (.inr (some (.int (nI (lm (w_w O B A K x y i))))), h) := by
  have ok : o_ok O := H.2.1.2.1
  obtain ⟨ok1, ok2, ok3, ok4, ok5, -, -, okP, okA, -⟩ := ok
  have okk := okP y hy
  unfold o_okP at okk
  have H1 := SaC_at H
  have H2 := SaC_on H
  have H3 := OnR_at H2
  obtain ⟨DA, Dl, -, DR⟩ := D.2.1 x hx (hT x hx)
  have D3 := D.2.2
  rw [e_Sa_witnessOf]
  rcases (show i = 0 ∨ i = 1 ∨ i = 2 ∨ i = 3 ∨ i = 4 ∨ i = 5 by omega) with rfl | rfl | rfl | rfl | rfl | rfl
  · simp (disch := first | assumption | omega) only [hc_ck, hc_gi, hc_gl, hc_gp, hc_ap, kd_I, kd_L, kd_P, kd_rI, ar_I, ar_L, ar_P, al_I, al_L, al_P, hop_s, cond_true, cond_false, pc_I_I, pc_L_L, pc_P_P, pc_I_L, pc_I_P, pc_L_I, pc_L_P, pc_P_I, pc_P_L, pc_sS_I, pc_sS_L, pc_sS_P, I_rI, L_rI, P_rI, S_rI, cv_r, ci_r, cl_r, o1_b, o1_0, o1_1, lc_e, nI_1, nI_add, if_true, if_false, Nat.reduceEqDiff, Nat.left_eq_add, Nat.add_eq_left, false_and, and_false, true_and, and_true, and_self, eq_self, n_1, n_2, n_3, n_4, n_5, n_eq]
    rw [lm_n]
    · rw [← lit_m1]
      rfl
    · rintro k (⟨c, -⟩ | ⟨c, -⟩ | ⟨c, -⟩ | ⟨c, -⟩) <;> omega
  · simp (disch := first | assumption | omega) only [hc_ck, hc_gi, hc_gl, hc_gp, hc_ap, kd_I, kd_L, kd_P, kd_rI, ar_I, ar_L, ar_P, al_I, al_L, al_P, hop_s, cond_true, cond_false, pc_I_I, pc_L_L, pc_P_P, pc_I_L, pc_I_P, pc_L_I, pc_L_P, pc_P_I, pc_P_L, pc_sS_I, pc_sS_L, pc_sS_P, I_rI, L_rI, P_rI, S_rI, cv_r, ci_r, cl_r, o1_b, o1_0, o1_1, lc_e, nI_1, nI_add, if_true, if_false, Nat.reduceEqDiff, Nat.left_eq_add, Nat.add_eq_left, false_and, and_false, true_and, and_true, and_self, eq_self, n_1, n_eq, Sa_k, Sa_p11, Sa_r5, DA, Sa_leastAxiom]
    apply ri_e
    rw [lm_c]
    exact fun k => ⟨fun c => Or.inl ⟨rfl, c⟩, fun c => by rcases c with ⟨-, c⟩ | ⟨c, -⟩ | ⟨c, -⟩ | ⟨c, -⟩; exact c; all_goals omega⟩
  · simp (disch := first | assumption | omega) only [hc_ck, hc_gi, hc_gl, hc_gp, hc_ap, kd_I, kd_L, kd_P, kd_rI, ar_I, ar_L, ar_P, al_I, al_L, al_P, hop_s, cond_true, cond_false, pc_I_I, pc_L_L, pc_P_P, pc_I_L, pc_I_P, pc_L_I, pc_L_P, pc_P_I, pc_P_L, pc_sS_I, pc_sS_L, pc_sS_P, I_rI, L_rI, P_rI, S_rI, cv_r, ci_r, cl_r, o1_b, o1_0, o1_1, lc_e, nI_1, nI_add, if_true, if_false, Nat.reduceEqDiff, Nat.left_eq_add, Nat.add_eq_left, false_and, and_false, true_and, and_true, and_self, eq_self, n_1, n_2, n_eq, Sa_k, Sa_p11, Sa_r5, DA, Sa_leastAnd, show ¬ (2 : Nat) = 1 by omega]
    apply ri_e
    rw [lm_c]
    exact fun k => ⟨fun c => Or.inr (Or.inl ⟨rfl, c⟩), fun c => by rcases c with ⟨c, -⟩ | ⟨-, c⟩ | ⟨c, -⟩ | ⟨c, -⟩; omega; exact c; all_goals omega⟩
  · simp (disch := first | assumption | omega) only [hc_ck, hc_gi, hc_gl, hc_gp, hc_ap, kd_I, kd_L, kd_P, kd_rI, ar_I, ar_L, ar_P, al_I, al_L, al_P, hop_s, cond_true, cond_false, pc_I_I, pc_L_L, pc_P_P, pc_I_L, pc_I_P, pc_L_I, pc_L_P, pc_P_I, pc_P_L, pc_sS_I, pc_sS_L, pc_sS_P, I_rI, L_rI, P_rI, S_rI, cv_r, ci_r, cl_r, o1_b, o1_0, o1_1, lc_e, nI_1, nI_add, if_true, if_false, Nat.reduceEqDiff, Nat.left_eq_add, Nat.add_eq_left, false_and, and_false, true_and, and_true, and_self, eq_self, n_1, n_2, n_3, n_4, n_5, n_eq]
    rw [lm_n]
    · rw [← lit_m1]
      rfl
    · rintro k (⟨c, -⟩ | ⟨c, -⟩ | ⟨c, -⟩ | ⟨c, -⟩) <;> omega
  · simp (disch := first | assumption | omega) only [hc_ck, hc_gi, hc_gl, hc_gp, hc_ap, kd_I, kd_L, kd_P, kd_rI, ar_I, ar_L, ar_P, al_I, al_L, al_P, hop_s, cond_true, cond_false, pc_I_I, pc_L_L, pc_P_P, pc_I_L, pc_I_P, pc_L_I, pc_L_P, pc_P_I, pc_P_L, pc_sS_I, pc_sS_L, pc_sS_P, I_rI, L_rI, P_rI, S_rI, cv_r, ci_r, cl_r, o1_b, o1_0, o1_1, lc_e, nI_1, nI_add, if_true, if_false, Nat.reduceEqDiff, Nat.left_eq_add, Nat.add_eq_left, false_and, and_false, true_and, and_true, and_self, eq_self, n_1, n_2, n_3, n_4, n_eq, Sa_k, SaC_o, On_k, On_p4, On_r6, OnR_pk]
    by_cases e4 : o_pk O y = 4
    · have f1 : o_pa O y < o_R O := by omega
      have f2 : o_pb O y < o_P O := by omega
      simp (disch := first | assumption | omega) only [hc_ck, hc_gi, hc_gl, hc_gp, hc_ap, kd_I, kd_L, kd_P, kd_rI, ar_I, ar_L, ar_P, al_I, al_L, al_P, hop_s, cond_true, cond_false, pc_I_I, pc_L_L, pc_P_P, pc_I_L, pc_I_P, pc_L_I, pc_L_P, pc_P_I, pc_P_L, pc_sS_I, pc_sS_L, pc_sS_P, I_rI, L_rI, P_rI, S_rI, cv_r, ci_r, cl_r, o1_b, o1_0, o1_1, lc_e, nI_1, nI_add, if_true, if_false, Nat.reduceEqDiff, Nat.left_eq_add, Nat.add_eq_left, false_and, and_false, true_and, and_true, and_self, eq_self, e4, Sa_k, Sa_p14, SaC_o, On_k, On_p5, On_p6, On_r7, On_r8, OnR_pa, OnR_pb, n_m8, Sa_r8, Sa_p12, Sa_r6, (DR _ f1).2.1, D3 _ f2, wL_and, Sa_leastPart]
      apply ri_e
      rw [lm_c]
      intro k
      constructor
      · rintro ⟨c1, c2, c3, c4⟩
        exact Or.inr (Or.inr (Or.inl ⟨rfl, c1, e4, c2, c4⟩))
      · rintro (⟨c, -⟩ | ⟨c, -⟩ | ⟨-, c1, c2, c3, c4⟩ | ⟨c, -⟩)
        · omega
        · omega
        · exact ⟨c1, c3, hT k c1, c4⟩
        · omega
    · rw [if_neg e4, lm_n]
      · rw [← lit_m1]; rfl
      rintro k (⟨c, -⟩ | ⟨c, -⟩ | ⟨-, c⟩ | ⟨c, -⟩)
      · omega
      · omega
      · exact e4 c.2.1
      · omega
  · simp (disch := first | assumption | omega) only [hc_ck, hc_gi, hc_gl, hc_gp, hc_ap, kd_I, kd_L, kd_P, kd_rI, ar_I, ar_L, ar_P, al_I, al_L, al_P, hop_s, cond_true, cond_false, pc_I_I, pc_L_L, pc_P_P, pc_I_L, pc_I_P, pc_L_I, pc_L_P, pc_P_I, pc_P_L, pc_sS_I, pc_sS_L, pc_sS_P, I_rI, L_rI, P_rI, S_rI, cv_r, ci_r, cl_r, o1_b, o1_0, o1_1, lc_e, nI_1, nI_add, if_true, if_false, Nat.reduceEqDiff, Nat.left_eq_add, Nat.add_eq_left, false_and, and_false, true_and, and_true, and_self, eq_self, n_1, n_2, n_3, n_4, n_5, n_eq]
    by_cases e1 : y = 1
    · subst e1
      simp (disch := first | assumption | omega) only [hc_ck, hc_gi, hc_gl, hc_gp, hc_ap, kd_I, kd_L, kd_P, kd_rI, ar_I, ar_L, ar_P, al_I, al_L, al_P, hop_s, cond_true, cond_false, pc_I_I, pc_L_L, pc_P_P, pc_I_L, pc_I_P, pc_L_I, pc_L_P, pc_P_I, pc_P_L, pc_sS_I, pc_sS_L, pc_sS_P, I_rI, L_rI, P_rI, S_rI, cv_r, ci_r, cl_r, o1_b, o1_0, o1_1, lc_e, nI_1, nI_add, if_true, if_false, Nat.reduceEqDiff, Nat.left_eq_add, Nat.add_eq_left, false_and, and_false, true_and, and_true, and_self, eq_self, Sa_k, Sa_p15, Sa_r9, Dl, Sa_p12, Sa_r6, D3 1 (by omega), wL_and, Sa_leastPart]
      apply ri_e
      rw [lm_c]
      intro k
      constructor
      · rintro ⟨c1, c2, c3, c4⟩
        exact Or.inr (Or.inr (Or.inr ⟨rfl, c1, rfl, c2, c4⟩))
      · rintro (⟨c, -⟩ | ⟨c, -⟩ | ⟨c, -⟩ | ⟨-, c1, c2, c3, c4⟩)
        · omega
        · omega
        · omega
        · exact ⟨c1, c3, hT k c1, c4⟩
    · rw [if_neg e1, lm_n]
      · rw [← lit_m1]; rfl
      rintro k (⟨c, -⟩ | ⟨c, -⟩ | ⟨c, -⟩ | ⟨-, c⟩)
      · omega
      · omega
      · omega
      · exact e1 c.2.1
theorem Sa_ruleFor {h : am_H} {s o : Nat} {O : o_T} {B T : Nat → Prop} {A : Nat → Nat → Prop} {K : Nat → Nat → Nat → Prop} {nA : Nat → Int64} {nK : Nat → Nat → Int64} (H : SaC h s o O B) (D : SaD h s O B T A K nA nK) (hT : ∀ x, x < o_P O → T x) {x y : Nat} (hx : x < o_P O) (hy : y < o_P O) (d : Nat) :
    f_Sa_ruleFor (d + 2) h s (nI x) (nI y) = some (.inr (some (.int (nI (lm (w_h O B A K x y))))), h) := by
  have ok : o_ok O := H.2.1.2.1
  have H1 := SaC_at H
  have key : ∀ i, i ≤ 6 → 1 ≤ i → (∀ j, j < i → ¬ w_h O B A K x y j) → f_Sa_ruleFor_2 (d + 2) h s (nI x) (nI y) (nI i) = some (.inr (some (.int (nI (lm (w_h O B A K x y))))), h) := by
    refine dn ?_ ?_
    · intro _ hj
      rw [e_Sa_ruleFor_2, lm_n, ← lit_m1]
      · simp (disch := first | assumption | omega) only [hc_ck, hc_gi, hc_gl, hc_gp, hc_ap, kd_I, kd_L, kd_P, kd_rI, ar_I, ar_L, ar_P, al_I, al_L, al_P, hop_s, cond_true, cond_false, pc_I_I, pc_L_L, pc_P_P, pc_I_L, pc_I_P, pc_L_I, pc_L_P, pc_P_I, pc_P_L, pc_sS_I, pc_sS_L, pc_sS_P, I_rI, L_rI, P_rI, S_rI, cv_r, ci_r, cl_r, o1_b, o1_0, o1_1, lc_e, nI_1, nI_add, if_true, if_false, Nat.reduceEqDiff, Nat.left_eq_add, Nat.add_eq_left, false_and, and_false, true_and, and_true, and_self, eq_self, n_5, n_lt, show (5 : Nat) < 6 by omega]
      · intro k c
        rcases (show k < 6 ∨ 6 ≤ k by omega) with e | e
        · exact hj k e c
        · rcases c with ⟨c, -⟩ | ⟨c, -⟩ | ⟨c, -⟩ | ⟨c, -⟩ | ⟨c, -⟩ <;> omega
    · intro i hi ih h1 hj
      have hi5 : ¬ 5 < i := by omega
      have go : ¬ w_h O B A K x y i → f_Sa_ruleFor_2 (d + 2) h s (nI x) (nI y) (nI (i + 1)) = some (.inr (some (.int (nI (lm (w_h O B A K x y))))), h) := by
        intro c
        apply ih (by omega)
        intro j hj'
        by_cases e : j = i
        · exact e ▸ c
        · exact hj j (by omega)
      rw [e_Sa_ruleFor_2]
      simp (disch := first | assumption | omega) only [hc_ck, hc_gi, hc_gl, hc_gp, hc_ap, kd_I, kd_L, kd_P, kd_rI, ar_I, ar_L, ar_P, al_I, al_L, al_P, hop_s, cond_true, cond_false, pc_I_I, pc_L_L, pc_P_P, pc_I_L, pc_I_P, pc_L_I, pc_L_P, pc_P_I, pc_P_L, pc_sS_I, pc_sS_L, pc_sS_P, I_rI, L_rI, P_rI, S_rI, cv_r, ci_r, cl_r, o1_b, o1_0, o1_1, lc_e, nI_1, nI_add, if_true, if_false, Nat.reduceEqDiff, Nat.left_eq_add, Nat.add_eq_left, false_and, and_false, true_and, and_true, and_self, eq_self, n_5, n_lt, hi5, n_3, n_eq, Sa_k, z10]
      by_cases e3 : i = 3
      · rw [if_pos e3]
        obtain ⟨b, eb, hb⟩ := Sa_joins H D hx (hT x hx) hy (d + 1)
        simp only [eb, ci_r, bo_0]
        cases b with
        | true =>
          simp only [Bool.true_eq_false, if_false]
          rw [lm_e (Or.inr (Or.inr (Or.inl ⟨e3, hb.mp rfl⟩))) hj]
        | false =>
          simp only [if_true]
          refine go ?_
          rintro (⟨c, -⟩ | ⟨c, -⟩ | ⟨-, c⟩ | ⟨c, -⟩ | ⟨c, -⟩)
          · omega
          · omega
          · exact absurd (hb.mpr c) (by decide)
          · omega
          · omega
      · rw [if_neg e3, Sa_witnessOf H D hT hx hy hi d]
        simp only [ci_r, lit_m1]
        by_cases c : ∃ k, w_w O B A K x y i k
        · rw [if_neg (fun e => (lm_ne (fun k q => by have := w_lt ok q; omega)).mp e c)]
          rw [lm_e (k := i) ?_ hj]
          obtain ⟨k, c⟩ := c
          rcases c with ⟨e, c⟩ | ⟨e, c⟩ | ⟨e, c⟩ | ⟨e, c⟩
          · exact Or.inl ⟨e, k, c⟩
          · exact Or.inr (Or.inl ⟨e, k, c⟩)
          · exact Or.inr (Or.inr (Or.inr (Or.inl ⟨e, k, c⟩)))
          · exact Or.inr (Or.inr (Or.inr (Or.inr ⟨e, k, c⟩)))
        · rw [if_pos ((lm_ne (fun k q => by have := w_lt ok q; omega)).mpr c)]
          refine go ?_
          rintro (⟨e, k, q⟩ | ⟨e, k, q⟩ | ⟨e, q⟩ | ⟨e, k, q⟩ | ⟨e, k, q⟩)
          · exact c ⟨k, Or.inl ⟨e, q⟩⟩
          · exact c ⟨k, Or.inr (Or.inl ⟨e, q⟩)⟩
          · exact e3 e
          · exact c ⟨k, Or.inr (Or.inr (Or.inl ⟨e, q⟩))⟩
          · exact c ⟨k, Or.inr (Or.inr (Or.inr ⟨e, q⟩))⟩
  rw [e_Sa_ruleFor]
  refine key 1 (by omega) (by omega) ?_
  intro j hj c
  rcases c with ⟨c, -⟩ | ⟨c, -⟩ | ⟨c, -⟩ | ⟨c, -⟩ | ⟨c, -⟩ <;> omega
