/-! ===== why: the reference's rule, and its answer ===== -/
noncomputable def wc3 (P : Prop) (nx : Int32) : Int32 := @ite _ P (Classical.propDecidable _) 300 nx
noncomputable def wcR (O : o_T) (B : Nat → Prop) (A : Nat → Nat → Prop) (K : Nat → Nat → Nat → Prop) (x y : Nat) : Int32 := wcd 201 (w_2 O (A x) y) (wc3 (w_3 O (A x) y) (wcd 401 (w_4 O B A K x y) (wcd 501 (w_5 O A K x y) 0)))
theorem Rf_ru130 {h : am_H} {f x y : Nat} {O : o_T} {B : Nat → Prop} {A : Nat → Nat → Prop} {K : Nat → Nat → Nat → Prop} (H : RfAt h f) (R : RwR h (f + 3) O) (U : RfU h f O B) (S : RfS h f (o_P O) A K) (hK : ∀ x r y, K x r y → r < o_R O ∧ y < o_P O) (hx : x < o_P O) (hy : y < o_P O) (d : Nat) : ∀ n, n ≤ o_P O → (∀ j, j < n → ¬ w_2 O (A x) y j) → f_Rf_ruleOf_130 (d + 2) h f (nI x) (nI y) (nI n) = some (.inr (some (.int (wcR O B A K x y))), h) := by
  have ok := R.2.1
  have hP := ok.2.2.2.1
  have hR := ok.2.1
  have oky := ok.2.2.2.2.2.2.2.1 y hy
  have k5 : o_pk O y < 5 := by
    unfold o_okP at oky
    omega
  have nxt := Rf_ru259 H R U S hK hx hy d 0 (Nat.zero_le _) (fun j hj => absurd hj (Nat.not_lt_zero j))
  refine dn ?_ ?_
  · intro hj
    unfold wcR
    rw [e_Rf_ruleOf_130, wcd_n (b := 201) (fun k q => hj k q.1 q)]
    simp (disch := first | assumption | omega) only [hc_ck, hc_gi, hc_gl, hc_gp, ap_I, ap_L, kd_I, kd_L, kd_P, kd_rI, ar_I, ar_L, ar_P, al_I, al_L, al_P, hop_s, cond_true, cond_false, pc_I_I, pc_L_L, pc_P_P, pc_I_L, pc_I_P, pc_L_I, pc_L_P, pc_P_I, pc_P_L, pc_sS_I, pc_sS_L, pc_sS_P, I_rI, L_rI, P_rI, S_rI, cv_r, ci_r, cl_r, o1_b, o1_0, o1_1, lc_e, nI_1, nI_add, if_true, if_false, Nat.reduceEqDiff, Nat.left_eq_add, Nat.add_eq_left, false_and, and_false, true_and, and_true, and_self, eq_self, Rf_k, Rf_p9, Rw_ar2, Rw_P, n_le, Nat.le_refl, Rf_kindOf R hy]
    unfold wc3
    by_cases e3 : o_pk O y = 3
    · have pb : o_pa O y < y ∧ o_pb O y < y := by
        unfold o_okP at oky
        omega
      rw [if_pos (by rw [e3]; rfl)]
      simp (disch := first | assumption | omega) only [hc_ck, hc_gi, hc_gl, hc_gp, ap_I, ap_L, kd_I, kd_L, kd_P, kd_rI, ar_I, ar_L, ar_P, al_I, al_L, al_P, hop_s, cond_true, cond_false, pc_I_I, pc_L_L, pc_P_P, pc_I_L, pc_I_P, pc_L_I, pc_L_P, pc_P_I, pc_P_L, pc_sS_I, pc_sS_L, pc_sS_P, I_rI, L_rI, P_rI, S_rI, cv_r, ci_r, cl_r, o1_b, o1_0, o1_1, lc_e, nI_1, nI_add, if_true, if_false, Nat.reduceEqDiff, Nat.left_eq_add, Nat.add_eq_left, false_and, and_false, true_and, and_true, and_self, eq_self, Rf_k, Rf_p9, Rf_p18, Rf_r6, Rf_otherOf R hy, Rf_oneOf R hy, (S x hx).1, Rf_has, xl_pd, bo_0]
      by_cases c1 : A x (o_pa O y)
      · rw [pd_t c1, if_neg (by decide)]
        by_cases c2 : A x (o_pb O y)
        · rw [pd_t c2, if_neg (by decide), if_pos (show w_3 O (A x) y from ⟨e3, c1, c2⟩)]
        · rw [pd_f c2, if_pos rfl, if_neg (show ¬ w_3 O (A x) y from fun q => c2 q.2.2)]
          exact nxt
      · rw [pd_f c1, if_pos rfl, if_neg (show ¬ w_3 O (A x) y from fun q => c1 q.2.1)]
        exact nxt
    · rw [if_neg (by rw [n_3, nI_e32 (by omega) (by omega)]; exact e3), if_neg (show ¬ w_3 O (A x) y from fun q => e3 q.1)]
      exact nxt
  · intro n hn ih hj
    have hn3 : ¬ o_P O ≤ n := by omega
    have okn := ok.2.2.2.2.2.2.2.1 n hn
    have k5n : o_pk O n < 5 := by
      unfold o_okP at okn
      omega
    rw [e_Rf_ruleOf_130]
    simp (disch := first | assumption | omega) only [hc_ck, hc_gi, hc_gl, hc_gp, ap_I, ap_L, kd_I, kd_L, kd_P, kd_rI, ar_I, ar_L, ar_P, al_I, al_L, al_P, hop_s, cond_true, cond_false, pc_I_I, pc_L_L, pc_P_P, pc_I_L, pc_I_P, pc_L_I, pc_L_P, pc_P_I, pc_P_L, pc_sS_I, pc_sS_L, pc_sS_P, I_rI, L_rI, P_rI, S_rI, cv_r, ci_r, cl_r, o1_b, o1_0, o1_1, lc_e, nI_1, nI_add, if_true, if_false, Nat.reduceEqDiff, Nat.left_eq_add, Nat.add_eq_left, false_and, and_false, true_and, and_true, and_self, eq_self, Rf_k, Rf_p9, Rw_ar2, Rw_P, n_le, hn3, Rf_kindOf R hn]
    by_cases e3 : o_pk O n = 3
    · have pb : o_pa O n < n ∧ o_pb O n < n := by
        unfold o_okP at okn
        omega
      rw [if_pos (by rw [e3]; rfl)]
      simp (disch := first | assumption | omega) only [hc_ck, hc_gi, hc_gl, hc_gp, ap_I, ap_L, kd_I, kd_L, kd_P, kd_rI, ar_I, ar_L, ar_P, al_I, al_L, al_P, hop_s, cond_true, cond_false, pc_I_I, pc_L_L, pc_P_P, pc_I_L, pc_I_P, pc_L_I, pc_L_P, pc_P_I, pc_P_L, pc_sS_I, pc_sS_L, pc_sS_P, I_rI, L_rI, P_rI, S_rI, cv_r, ci_r, cl_r, o1_b, o1_0, o1_1, lc_e, nI_1, nI_add, if_true, if_false, Nat.reduceEqDiff, Nat.left_eq_add, Nat.add_eq_left, false_and, and_false, true_and, and_true, and_self, eq_self, Rf_k, Rf_p9, Rf_p18, Rf_r6, Rf_otherOf R hn, Rf_oneOf R hn, (S x hx).1, Rf_has, xl_pd, bo_0, n_eq]
      by_cases c1 : A x n
      · rw [pd_t c1, if_neg (by decide)]
        by_cases c2 : o_pa O n = y
        · have p : w_2 O (A x) y n := ⟨hn, e3, Or.inl c2, c1⟩
          rw [if_pos c2]
          unfold wcR
          rw [wcd_y p hj, show (201 : Int32) = nI 201 from rfl, nI_add]
        · rw [if_neg c2]
          by_cases c3 : o_pb O n = y
          · have p : w_2 O (A x) y n := ⟨hn, e3, Or.inr c3, c1⟩
            rw [if_pos c3]
            unfold wcR
            rw [wcd_y p hj, show (201 : Int32) = nI 201 from rfl, nI_add]
          · rw [if_neg c3]
            exact ih (no_s hj (fun q => q.2.2.1.elim c2 c3))
      · rw [pd_f c1, if_pos rfl]
        exact ih (no_s hj (fun q => c1 q.2.2.2))
    · rw [if_neg (by rw [n_3, nI_e32 (by omega) (by omega)]; exact e3)]
      exact ih (no_s hj (fun q => e3 q.2.1))
theorem Rf_ru2 {h : am_H} {f x y : Nat} {O : o_T} {B : Nat → Prop} {A : Nat → Nat → Prop} {K : Nat → Nat → Nat → Prop} (H : RfAt h f) (R : RwR h (f + 3) O) (hB : am_L h f 11 = wL B) (U : RfU h f O B) (S : RfS h f (o_P O) A K) (hK : ∀ x r y, K x r y → r < o_R O ∧ y < o_P O) (hx : x < o_P O) (hy : y < o_P O) (d : Nat) : ∀ n, n ≤ o_A O → (∀ j, j < n → ¬ w_1 O B (A x) y j) → f_Rf_ruleOf_2 (d + 2) h f (nI x) (nI y) (nI n) = some (.inr (some (.int (wcd 101 (w_1 O B (A x) y) (wcR O B A K x y)))), h) := by
  have ok := R.2.1
  have hP := ok.2.2.2.1
  have hA := ok.2.2.2.2.1
  have hR := ok.2.1
  have nxt := Rf_ru130 H R U S hK hx hy d 0 (Nat.zero_le _) (fun j hj => absurd hj (Nat.not_lt_zero j))
  refine dn ?_ ?_
  · intro hj
    rw [e_Rf_ruleOf_2, wcd_n (b := 101) (fun k q => hj k q.1 q)]
    simp (disch := first | assumption | omega) only [hc_ck, hc_gi, hc_gl, hc_gp, ap_I, ap_L, kd_I, kd_L, kd_P, kd_rI, ar_I, ar_L, ar_P, al_I, al_L, al_P, hop_s, cond_true, cond_false, pc_I_I, pc_L_L, pc_P_P, pc_I_L, pc_I_P, pc_L_I, pc_L_P, pc_P_I, pc_P_L, pc_sS_I, pc_sS_L, pc_sS_P, I_rI, L_rI, P_rI, S_rI, cv_r, ci_r, cl_r, o1_b, o1_0, o1_1, lc_e, nI_1, nI_add, if_true, if_false, Nat.reduceEqDiff, Nat.left_eq_add, Nat.add_eq_left, false_and, and_false, true_and, and_true, and_self, eq_self, Rf_k, Rf_p9, Rw_ar3, Rw_A, n_le, Nat.le_refl]
    exact nxt
  · intro n hn ih hj
    have hn3 : ¬ o_A O ≤ n := by omega
    have okn := ok.2.2.2.2.2.2.2.2.1 n hn
    have k3 : o_ak O n ≤ 3 := by
      unfold o_okA at okn
      omega
    have le1 : (nI (o_ak O n) ≤ 1) = (o_ak O n ≤ 1) := n_le _ 1 (by omega) (by omega)
    have go := fun c => ih (no_s hj c)
    rw [e_Rf_ruleOf_2]
    simp (disch := first | assumption | omega) only [hc_ck, hc_gi, hc_gl, hc_gp, ap_I, ap_L, kd_I, kd_L, kd_P, kd_rI, ar_I, ar_L, ar_P, al_I, al_L, al_P, hop_s, cond_true, cond_false, pc_I_I, pc_L_L, pc_P_P, pc_I_L, pc_I_P, pc_L_I, pc_L_P, pc_P_I, pc_P_L, pc_sS_I, pc_sS_L, pc_sS_P, I_rI, L_rI, P_rI, S_rI, cv_r, ci_r, cl_r, o1_b, o1_0, o1_1, lc_e, nI_1, nI_add, if_true, if_false, Nat.reduceEqDiff, Nat.left_eq_add, Nat.add_eq_left, false_and, and_false, true_and, and_true, and_self, eq_self, Rf_k, Rf_p9, Rw_ar3, Rw_A, n_le, hn3, Rf_axiom0, hB, Rf_has, xl_pd, bo_0]
    by_cases b1 : B n
    · rw [pd_t b1, if_neg (by decide)]
      by_cases a1 : o_ak O n ≤ 1
      · have pb : o_a1 O n < o_P O ∧ o_a2 O n < o_P O := by
          unfold o_okA at okn
          omega
        rw [if_pos (by rw [le1]; exact a1)]
        have s77 : (¬ (o_a2 O n = y ∧ A x (o_a1 O n))) → f_Rf_ruleOf_77 (d + 2) h f (nI x) (nI y) (nI n) (nI (o_ak O n)) = some (.inr (some (.int (wcd 101 (w_1 O B (A x) y) (wcR O B A K x y)))), h) := by
          intro no
          rw [e_Rf_ruleOf_77]
          simp (disch := first | assumption | omega) only [hc_ck, hc_gi, hc_gl, hc_gp, ap_I, ap_L, kd_I, kd_L, kd_P, kd_rI, ar_I, ar_L, ar_P, al_I, al_L, al_P, hop_s, cond_true, cond_false, pc_I_I, pc_L_L, pc_P_P, pc_I_L, pc_I_P, pc_L_I, pc_L_P, pc_P_I, pc_P_L, pc_sS_I, pc_sS_L, pc_sS_P, I_rI, L_rI, P_rI, S_rI, cv_r, ci_r, cl_r, o1_b, o1_0, o1_1, lc_e, nI_1, nI_add, if_true, if_false, Nat.reduceEqDiff, Nat.left_eq_add, Nat.add_eq_left, false_and, and_false, true_and, and_true, and_self, eq_self, Rf_k, Rf_p9, Rf_p18, Rf_r6, Rf_axiom1, Rf_axiom2, (S x hx).1, Rf_has, xl_pd, bo_0]
          by_cases e1 : o_ak O n = 1
          · rw [if_pos (by rw [e1]; rfl)]
            by_cases c1 : o_a1 O n = y
            · rw [if_pos (by rw [c1])]
              by_cases c2 : A x (o_a2 O n)
              · have p : w_1 O B (A x) y n := ⟨hn, b1, Or.inr ⟨e1, c1, c2⟩⟩
                rw [pd_t c2, if_neg (by decide), wcd_y p hj, show (101 : Int32) = nI 101 from rfl, nI_add]
              · rw [pd_f c2, if_pos rfl]
                exact go (fun q => q.2.2.elim (fun q => no ⟨q.2.1, q.2.2⟩) (fun q => c2 q.2.2))
            · rw [if_neg (by rw [nI_e32 (by omega) (by omega)]; exact c1)]
              exact go (fun q => q.2.2.elim (fun q => no ⟨q.2.1, q.2.2⟩) (fun q => c1 q.2.1))
          · rw [if_neg (by rw [n_1, nI_e32 (by omega) (by omega)]; exact e1)]
            exact go (fun q => q.2.2.elim (fun q => no ⟨q.2.1, q.2.2⟩) (fun q => e1 q.1))
        simp (disch := first | assumption | omega) only [hc_ck, hc_gi, hc_gl, hc_gp, ap_I, ap_L, kd_I, kd_L, kd_P, kd_rI, ar_I, ar_L, ar_P, al_I, al_L, al_P, hop_s, cond_true, cond_false, pc_I_I, pc_L_L, pc_P_P, pc_I_L, pc_I_P, pc_L_I, pc_L_P, pc_P_I, pc_P_L, pc_sS_I, pc_sS_L, pc_sS_P, I_rI, L_rI, P_rI, S_rI, cv_r, ci_r, cl_r, o1_b, o1_0, o1_1, lc_e, nI_1, nI_add, if_true, if_false, Nat.reduceEqDiff, Nat.left_eq_add, Nat.add_eq_left, false_and, and_false, true_and, and_true, and_self, eq_self, Rf_k, Rf_p9, Rf_p18, Rf_r6, Rf_axiom1, Rf_axiom2, (S x hx).1, Rf_has, xl_pd, bo_0, n_eq]
        by_cases c1 : o_a2 O n = y
        · rw [if_pos c1]
          by_cases c2 : A x (o_a1 O n)
          · have p : w_1 O B (A x) y n := ⟨hn, b1, Or.inl ⟨a1, c1, c2⟩⟩
            rw [pd_t c2, if_neg (by decide), wcd_y p hj, show (101 : Int32) = nI 101 from rfl, nI_add]
          · rw [pd_f c2, if_pos rfl]
            exact s77 (fun q => c2 q.2)
        · rw [if_neg c1]
          exact s77 (fun q => c1 q.1)
      · rw [if_neg (by rw [le1]; exact a1)]
        exact go (fun q => q.2.2.elim (fun q => a1 q.1) (fun q => a1 (by omega)))
    · rw [pd_f b1, if_pos rfl]
      exact go (fun q => b1 q.2.1)
/-- the code tells the rule and what it is by -/
theorem wcd_q : ∀ i, i < 6 → ∀ k, k < 60 → nI (100 * i + 1 + k) / 100 = nI i ∧ am_irem (nI (100 * i + 1 + k)) 100 - 1 = nI k := by decide +kernel
theorem wcR_q {O : o_T} {B : Nat → Prop} {A : Nat → Nat → Prop} {K : Nat → Nat → Nat → Prop} {x y : Nat} (ok : o_ok O) (h : ∃ i, w_h O B A K x y i) : wcd 101 (w_1 O B (A x) y) (wcR O B A K x y) / 100 = nI (lm (w_h O B A K x y)) ∧ am_irem (wcd 101 (w_1 O B (A x) y) (wcR O B A K x y)) 100 - 1 = nI (lm (w_w O B A K x y (lm (w_h O B A K x y)))) := by
  have go : ∀ i k, i < 6 → w_h O B A K x y i → (∀ j, j < i → ¬ w_h O B A K x y j) → w_w O B A K x y i k → (∀ j, j < k → ¬ w_w O B A K x y i j) → nI (100 * i + 1 + k) / 100 = nI (lm (w_h O B A K x y)) ∧ am_irem (nI (100 * i + 1 + k)) 100 - 1 = nI (lm (w_w O B A K x y (lm (w_h O B A K x y)))) := by
    intro i k hi q1 q2 q3 q4
    rw [lm_e q1 q2, lm_e q3 q4]
    exact wcd_q i hi k (w_lt ok q3)
  by_cases c1 : ∃ k, w_1 O B (A x) y k
  · obtain ⟨l1, l2⟩ := lm_s c1
    rw [wcd_y l1 l2]
    refine go 1 _ (by omega) (Or.inl ⟨rfl, c1⟩) (fun j hj q => ?_) (Or.inl ⟨rfl, l1⟩) (fun j hj q => ?_)
    · have := w_h6 q; omega
    · rcases q with ⟨_, q⟩ | ⟨e, _⟩ | ⟨e, _⟩ | ⟨e, _⟩
      · exact l2 j hj q
      · omega
      · omega
      · omega
  · rw [wcd_n (b := 101) (fun k q => c1 ⟨k, q⟩)]
    unfold wcR
    by_cases c2 : ∃ k, w_2 O (A x) y k
    · obtain ⟨l1, l2⟩ := lm_s c2
      rw [wcd_y l1 l2]
      refine go 2 _ (by omega) (Or.inr (Or.inl ⟨rfl, c2⟩)) (fun j hj q => ?_) (Or.inr (Or.inl ⟨rfl, l1⟩)) (fun j hj q => ?_)
      · rcases q with ⟨_, q⟩ | ⟨e, _⟩ | ⟨e, _⟩ | ⟨e, _⟩ | ⟨e, _⟩
        · exact c1 q
        · omega
        · omega
        · omega
        · omega
      · rcases q with ⟨e, _⟩ | ⟨_, q⟩ | ⟨e, _⟩ | ⟨e, _⟩
        · omega
        · exact l2 j hj q
        · omega
        · omega
    · rw [wcd_n (b := 201) (fun k q => c2 ⟨k, q⟩)]
      unfold wc3
      by_cases c3 : w_3 O (A x) y
      · rw [if_pos c3]
        have e1 : lm (w_h O B A K x y) = 3 := lm_e (Or.inr (Or.inr (Or.inl ⟨rfl, c3⟩))) (fun j hj q => by
          rcases q with ⟨_, q⟩ | ⟨_, q⟩ | ⟨e, _⟩ | ⟨e, _⟩ | ⟨e, _⟩
          · exact c1 q
          · exact c2 q
          · omega
          · omega
          · omega)
        rw [e1, lm_n (P := w_w O B A K x y 3) (fun k q => by rcases q with ⟨e, _⟩ | ⟨e, _⟩ | ⟨e, _⟩ | ⟨e, _⟩ <;> omega)]
        decide
      · rw [if_neg c3]
        by_cases c4 : ∃ k, w_4 O B A K x y k
        · obtain ⟨l1, l2⟩ := lm_s c4
          rw [wcd_y l1 l2]
          refine go 4 _ (by omega) (Or.inr (Or.inr (Or.inr (Or.inl ⟨rfl, c4⟩)))) (fun j hj q => ?_) (Or.inr (Or.inr (Or.inl ⟨rfl, l1⟩))) (fun j hj q => ?_)
          · rcases q with ⟨_, q⟩ | ⟨_, q⟩ | ⟨_, q⟩ | ⟨e, _⟩ | ⟨e, _⟩
            · exact c1 q
            · exact c2 q
            · exact c3 q
            · omega
            · omega
          · rcases q with ⟨e, _⟩ | ⟨e, _⟩ | ⟨_, q⟩ | ⟨e, _⟩
            · omega
            · omega
            · exact l2 j hj q
            · omega
        · rw [wcd_n (b := 401) (fun k q => c4 ⟨k, q⟩)]
          have c5 : ∃ k, w_5 O A K x y k := by
            obtain ⟨i, q⟩ := h
            rcases q with ⟨_, q⟩ | ⟨_, q⟩ | ⟨_, q⟩ | ⟨_, q⟩ | ⟨_, q⟩
            · exact absurd q c1
            · exact absurd q c2
            · exact absurd q c3
            · exact absurd q c4
            · exact q
          obtain ⟨l1, l2⟩ := lm_s c5
          rw [wcd_y l1 l2]
          refine go 5 _ (by omega) (Or.inr (Or.inr (Or.inr (Or.inr ⟨rfl, c5⟩)))) (fun j hj q => ?_) (Or.inr (Or.inr (Or.inr ⟨rfl, l1⟩))) (fun j hj q => ?_)
          · rcases q with ⟨_, q⟩ | ⟨_, q⟩ | ⟨_, q⟩ | ⟨_, q⟩ | ⟨e, _⟩
            · exact c1 q
            · exact c2 q
            · exact c3 q
            · exact c4 q
            · omega
          · rcases q with ⟨e, _⟩ | ⟨e, _⟩ | ⟨e, _⟩ | ⟨_, q⟩
            · omega
            · omega
            · omega
            · exact l2 j hj q
theorem Rf_why112 {h : am_H} {f k x y w : Nat} {O : o_T} {B : Nat → Prop} (H : RfAt h f) (R : RwR h (f + 3) O) (hB : am_L h f 11 = wL B) (U : RfU h f O B) (hx : x < o_P O) (hy : y < o_P O) (hw : w < 1 + 1) (hk : k ≤ 32400) (d : Nat) (hi : ∃ i, w_h O B (s_A O B k) (s_K O B k) x y i) : ∀ n, n ≤ k → ∀ u : am_H, fRL f 6 1460 h u → RfS u f (o_P O) (s_A O B n) (s_K O B n) → ∃ h', f_Rf_why_112 (d + 3) u f (nI x) (nI y) (nI w) (nI (k + 1)) (nI (n + 1)) = some (.inr (some (if w = 0 then .int (nI (lm (w_h O B (s_A O B k) (s_K O B k) x y))) else .int (nI (lm (w_w O B (s_A O B k) (s_K O B k) x y (lm (w_h O B (s_A O B k) (s_K O B k) x y))))))), h') ∧ fCl f h h' ∧ am_I h' f 14 = 0 := by
  have ok := R.2.1
  refine dn ?_ ?_
  · intro u q S
    have qc : fCl f h (am_sI u f 14 0) := fCl_f (fZ_Cl (fRL_Z q (by omega) (by omega))) (Or.inl rfl) 0
    have Hu := fRL_at q H
    have H2 := fCl_at qc H
    have R2 := fCl_rw qc (Or.inl rfl) R
    have U2 : RfU (am_sI u f 14 0) f O B := fun r hr => by
      rw [pc_I_I, if_neg (by omega), q.1]
      exact U r hr
    have S2 : RfS (am_sI u f 14 0) f (o_P O) (s_A O B k) (s_K O B k) := S
    have B2 : am_L (am_sI u f 14 0) f 11 = wL B := by
      rw [qc.2.2.2.2.2.2 f (by omega)]
      exact hB
    have e1 := Rf_ru2 H2 R2 B2 U2 S2 (fun x r y c => s_Kd ok c) hx hy d 0 (Nat.zero_le _) (fun j hj => absurd hj (Nat.not_lt_zero j))
    obtain ⟨v1, v2⟩ := wcR_q ok hi
    refine ⟨am_sI u f 14 0, ?_, qc, by rw [pc_I_I, if_pos ⟨rfl, rfl⟩]⟩
    rw [e_Rf_why_112]
    simp (disch := first | assumption | omega) only [hc_ck, hc_gi, hc_gl, hc_gp, ap_I, ap_L, kd_I, kd_L, kd_P, kd_rI, ar_I, ar_L, ar_P, al_I, al_L, al_P, hop_s, cond_true, cond_false, pc_I_I, pc_L_L, pc_P_P, pc_I_L, pc_I_P, pc_L_I, pc_L_P, pc_P_I, pc_P_L, pc_sS_I, pc_sS_L, pc_sS_P, I_rI, L_rI, P_rI, S_rI, cv_r, ci_r, cl_r, o1_b, o1_0, o1_1, lc_e, nI_1, nI_add, if_true, if_false, Nat.reduceEqDiff, Nat.left_eq_add, Nat.add_eq_left, false_and, and_false, true_and, and_true, and_self, eq_self, n_le, Nat.le_refl, Rf_k, e_Rf_ruleOf]
    rw [show f_Rf_ruleOf_2 (d + 2) (am_sI u f 14 0) f (nI x) (nI y) 0 = _ from e1]
    simp (disch := first | assumption | omega) only [hc_ck, hc_gi, hc_gl, hc_gp, ap_I, ap_L, kd_I, kd_L, kd_P, kd_rI, ar_I, ar_L, ar_P, al_I, al_L, al_P, hop_s, cond_true, cond_false, pc_I_I, pc_L_L, pc_P_P, pc_I_L, pc_I_P, pc_L_I, pc_L_P, pc_P_I, pc_P_L, pc_sS_I, pc_sS_L, pc_sS_P, I_rI, L_rI, P_rI, S_rI, cv_r, ci_r, cl_r, o1_b, o1_0, o1_1, lc_e, nI_1, nI_add, if_true, if_false, Nat.reduceEqDiff, Nat.left_eq_add, Nat.add_eq_left, false_and, and_false, true_and, and_true, and_self, eq_self, v1, v2, show ¬ (100 : Int32) = 0 by decide]
    rcases iv2 hw with rfl | rfl
    · rw [if_pos (by decide), if_pos rfl]
    · rw [if_neg (by decide), if_neg (by decide)]
  · intro n hn ih u q S
    have Hu := fRL_at q H
    have Ru := fRL_rw q R
    have hn3 : ¬ k + 1 ≤ n + 1 := by omega
    have Bu : am_L u f 11 = wL B := by
      rw [(fZ_Cl (fRL_Z q (by omega) (by omega))).2.2.2.2.2.2 f (by omega)]
      exact hB
    obtain ⟨v, m, ev, qv, sv, hm⟩ := Rf_goesRound Hu Ru (fun x hx => by rw [q.1]; exact U x hx) S (fun x y hx c => s_Ad ok hx c) (fun x r y c => s_Kd ok c) d
    rw [e_Rf_why_112]
    simp (disch := first | assumption | omega) only [hc_ck, hc_gi, hc_gl, hc_gp, ap_I, ap_L, kd_I, kd_L, kd_P, kd_rI, ar_I, ar_L, ar_P, al_I, al_L, al_P, hop_s, cond_true, cond_false, pc_I_I, pc_L_L, pc_P_P, pc_I_L, pc_I_P, pc_L_I, pc_L_P, pc_P_I, pc_P_L, pc_sS_I, pc_sS_L, pc_sS_P, I_rI, L_rI, P_rI, S_rI, cv_r, ci_r, cl_r, o1_b, o1_0, o1_1, lc_e, nI_1, nI_add, if_true, if_false, Nat.reduceEqDiff, Nat.left_eq_add, Nat.add_eq_left, false_and, and_false, true_and, and_true, and_self, eq_self, n_le, hn3, Rf_k, Rf_p9, Bu, ev]
    exact ih v (fX_t q qv) sv
theorem RB_c {h h' : am_H} {f : Nat} {O : o_T} {B : Nat → Prop} (C : RB h f O B) (q : fCl f h h') (z : am_I h' f 14 = 0) : RB h' f O B := RB_Rr C (fCl_Rr q (Or.inl z))
theorem Rf_q_why {h : am_H} {f : Nat} {O : o_T} {B : Nat → Prop} (C : RB h f O B) (i j l : Int32) (d : Nat) : RR (f_Rf_why (d + 4) h f i j l) h f O B cq2 (.int 0) (g1 (o_P O) i 0 fun x => g1 (o_P O) j 0 fun y => g1 2 l 1 fun w => .inr (q_wy O B x y w)) := by
  have H := C.1
  have hP := C.2.1.2.1.2.2.2.1
  obtain ⟨g, e0, Cg, Wg, z0⟩ := RB_b C
  have Hg := Cg.1
  have b1 := Rf_bad1 Hg z0 (c := 1) (by decide) (E := 0) (by omega) (d + 3)
  have b2 := Rf_bad1 Hg z0 (c := 2) (by decide) (E := 1) (by omega) (d + 3)
  rw [← n_0] at b1
  rw [← n_1] at b2
  have ii := vi_inc (n := 1) (by omega) g l (d + 3)
  rw [← n_1] at ii
  rw [e_Rf_why]
  simp (disch := first | assumption | omega) only [hc_ck, hc_gi, hc_gl, hc_gp, ap_I, ap_L, kd_I, kd_L, kd_P, kd_rI, ar_I, ar_L, ar_P, al_I, al_L, al_P, hop_s, cond_true, cond_false, pc_I_I, pc_L_L, pc_P_P, pc_I_L, pc_I_P, pc_L_I, pc_L_P, pc_P_I, pc_P_L, pc_sS_I, pc_sS_L, pc_sS_P, I_rI, L_rI, P_rI, S_rI, cv_r, ci_r, cl_r, o1_b, o1_0, o1_1, lc_e, nI_1, nI_add, if_true, if_false, Nat.reduceEqDiff, Nat.left_eq_add, Nat.add_eq_left, false_and, and_false, true_and, and_true, and_self, eq_self, Rf_k, e0, Rf_isP Cg]
  by_cases v1 : vi (o_P O) i
  · obtain ⟨x, hx, rfl⟩ := v1
    rw [g1_y (by omega) hx]
    by_cases v2 : vi (o_P O) j
    · obtain ⟨y, hy, rfl⟩ := v2
      rw [g1_y (by omega) hy]
      simp (disch := first | assumption | omega) only [hc_ck, hc_gi, hc_gl, hc_gp, ap_I, ap_L, kd_I, kd_L, kd_P, kd_rI, ar_I, ar_L, ar_P, al_I, al_L, al_P, hop_s, cond_true, cond_false, pc_I_I, pc_L_L, pc_P_P, pc_I_L, pc_I_P, pc_L_I, pc_L_P, pc_P_I, pc_P_L, pc_sS_I, pc_sS_L, pc_sS_P, I_rI, L_rI, P_rI, S_rI, cv_r, ci_r, cl_r, o1_b, o1_0, o1_1, lc_e, nI_1, nI_add, if_true, if_false, Nat.reduceEqDiff, Nat.left_eq_add, Nat.add_eq_left, false_and, and_false, true_and, and_true, and_self, eq_self, Rf_k, bo_0, pd_t (show vi (o_P O) (nI x) from ⟨x, hx, rfl⟩), pd_t (show vi (o_P O) (nI y) from ⟨y, hy, rfl⟩), Bool.true_eq_false, Rf_bad0 Hg z0, ii, Nat.reduceAdd]
      by_cases v3 : vi 2 l
      · obtain ⟨w, hw, rfl⟩ := v3
        rw [g1_y (by omega) hw]
        simp (disch := first | assumption | omega) only [hc_ck, hc_gi, hc_gl, hc_gp, ap_I, ap_L, kd_I, kd_L, kd_P, kd_rI, ar_I, ar_L, ar_P, al_I, al_L, al_P, hop_s, cond_true, cond_false, pc_I_I, pc_L_L, pc_P_P, pc_I_L, pc_I_P, pc_L_I, pc_L_P, pc_P_I, pc_P_L, pc_sS_I, pc_sS_L, pc_sS_P, I_rI, L_rI, P_rI, S_rI, cv_r, ci_r, cl_r, o1_b, o1_0, o1_1, lc_e, nI_1, nI_add, if_true, if_false, Nat.reduceEqDiff, Nat.left_eq_add, Nat.add_eq_left, false_and, and_false, true_and, and_true, and_self, eq_self, bo_0, pd_t (show vi 2 (nI w) from ⟨w, hw, rfl⟩), Bool.true_eq_false]
        rw [e_Rf_why_50]
        obtain ⟨u, eu, Wu, Cu, Lu, u0⟩ := Rf_cl Cg d
        have Hu := Cu.1
        have Ru := Cu.2.1
        have ok := Ru.2.1
        simp (disch := first | assumption | omega) only [hc_ck, hc_gi, hc_gl, hc_gp, ap_I, ap_L, kd_I, kd_L, kd_P, kd_rI, ar_I, ar_L, ar_P, al_I, al_L, al_P, hop_s, cond_true, cond_false, pc_I_I, pc_L_L, pc_P_P, pc_I_L, pc_I_P, pc_L_I, pc_L_P, pc_P_I, pc_P_L, pc_sS_I, pc_sS_L, pc_sS_P, I_rI, L_rI, P_rI, S_rI, cv_r, ci_r, cl_r, o1_b, o1_0, o1_1, lc_e, nI_1, nI_add, if_true, if_false, Nat.reduceEqDiff, Nat.left_eq_add, Nat.add_eq_left, false_and, and_false, true_and, and_true, and_self, eq_self, Rf_k, Rf_bad0 Hg z0, eu, Rf_p25, Rf_a1461, Rf_b1462, RfL_w Lu hx hy]
        unfold q_wy
        by_cases c1 : q_w O B x y = -1
        · rw [if_pos c1, if_pos c1]
          exact ⟨u, fW_t Wg Wu, Cu, u0.trans z0, rfl⟩
        · rw [if_neg c1, if_neg c1]
          by_cases c2 : q_w O B x y = 0
          · rw [if_pos c2, if_pos c2]
            rcases iv2 hw with rfl | rfl
            · rw [if_pos (by decide), if_pos rfl]
              exact ⟨u, fW_t Wg Wu, Cu, u0.trans z0, rfl⟩
            · rw [if_neg (by decide), if_neg (by decide)]
              exact ⟨u, fW_t Wg Wu, Cu, u0.trans z0, rfl⟩
          · rw [if_neg c2, if_neg c2]
            obtain ⟨p1, p2, p3⟩ := q_wk_s ok hy c1 c2
            obtain ⟨a, ea, qa, Ua, Sa⟩ := Rf_beginsRounds Hu Ru (by omega) B (d + 1)
            have Ha := fZ_at qa Hu
            have Ra := fZ_rw qa (show f + 3 ≠ f + 1460 by omega) Ru
            have Ba : am_L a f 11 = wL B := by
              rw [(fZ_Cl qa).2.2.2.2.2.2 f (by omega)]
              exact Cu.2.2.1
            obtain ⟨v, ev, qv, v14⟩ := Rf_why112 (k := q_wk O B x y - 1) Ha Ra Ba Ua hx hy hw (by omega) (d + 1) p3 0 (Nat.zero_le _) a (fX_r _ _) Sa
            have ek : nI (q_wk O B x y - 1 + 1) = q_w O B x y := by
              rw [show q_wk O B x y - 1 + 1 = q_wk O B x y by omega]
              rfl
            rw [ek] at ev
            have qc := fCl_t (fZ_Cl qa) qv
            refine ⟨v, fW_t (fW_t Wg Wu) (fCl_W qc), RB_c Cu qc v14, ?_, ?_⟩
            · rw [qc.2.2.2.2.2.1 0 (by omega) (by omega)]
              exact u0.trans z0
            · simp (disch := first | assumption | omega) only [hc_ck, hc_gi, hc_gl, hc_gp, ap_I, ap_L, kd_I, kd_L, kd_P, kd_rI, ar_I, ar_L, ar_P, al_I, al_L, al_P, hop_s, cond_true, cond_false, pc_I_I, pc_L_L, pc_P_P, pc_I_L, pc_I_P, pc_L_I, pc_L_P, pc_P_I, pc_P_L, pc_sS_I, pc_sS_L, pc_sS_P, I_rI, L_rI, P_rI, S_rI, cv_r, ci_r, cl_r, o1_b, o1_0, o1_1, lc_e, nI_1, nI_add, if_true, if_false, Nat.reduceEqDiff, Nat.left_eq_add, Nat.add_eq_left, false_and, and_false, true_and, and_true, and_self, eq_self, Rf_k, Rf_p9, Cu.2.2.1, ea]
              refine ev.trans ?_
              unfold q_wr
              split <;> rfl
      · rw [g1_n v3]
        refine ⟨g, Wg, Cg, z0, ?_⟩
        simp (disch := first | assumption | omega) only [hc_ck, hc_gi, hc_gl, hc_gp, ap_I, ap_L, kd_I, kd_L, kd_P, kd_rI, ar_I, ar_L, ar_P, al_I, al_L, al_P, hop_s, cond_true, cond_false, pc_I_I, pc_L_L, pc_P_P, pc_I_L, pc_I_P, pc_L_I, pc_L_P, pc_P_I, pc_P_L, pc_sS_I, pc_sS_L, pc_sS_P, I_rI, L_rI, P_rI, S_rI, cv_r, ci_r, cl_r, o1_b, o1_0, o1_1, lc_e, nI_1, nI_add, if_true, if_false, Nat.reduceEqDiff, Nat.left_eq_add, Nat.add_eq_left, false_and, and_false, true_and, and_true, and_self, eq_self, bo_0, pd_f v3]
        rw [e_Rf_why_50]
        simp (disch := first | assumption | omega) only [hc_ck, hc_gi, hc_gl, hc_gp, ap_I, ap_L, kd_I, kd_L, kd_P, kd_rI, ar_I, ar_L, ar_P, al_I, al_L, al_P, hop_s, cond_true, cond_false, pc_I_I, pc_L_L, pc_P_P, pc_I_L, pc_I_P, pc_L_I, pc_L_P, pc_P_I, pc_P_L, pc_sS_I, pc_sS_L, pc_sS_P, I_rI, L_rI, P_rI, S_rI, cv_r, ci_r, cl_r, o1_b, o1_0, o1_1, lc_e, nI_1, nI_add, if_true, if_false, Nat.reduceEqDiff, Nat.left_eq_add, Nat.add_eq_left, false_and, and_false, true_and, and_true, and_self, eq_self, Rf_k, b2, show ¬ (1 : Int32) = 0 by decide]
        rfl
    · rw [g1_n v2]
      refine ⟨g, Wg, Cg, z0, ?_⟩
      simp (disch := first | assumption | omega) only [hc_ck, hc_gi, hc_gl, hc_gp, ap_I, ap_L, kd_I, kd_L, kd_P, kd_rI, ar_I, ar_L, ar_P, al_I, al_L, al_P, hop_s, cond_true, cond_false, pc_I_I, pc_L_L, pc_P_P, pc_I_L, pc_I_P, pc_L_I, pc_L_P, pc_P_I, pc_P_L, pc_sS_I, pc_sS_L, pc_sS_P, I_rI, L_rI, P_rI, S_rI, cv_r, ci_r, cl_r, o1_b, o1_0, o1_1, lc_e, nI_1, nI_add, if_true, if_false, Nat.reduceEqDiff, Nat.left_eq_add, Nat.add_eq_left, false_and, and_false, true_and, and_true, and_self, eq_self, Rf_k, bo_0, pd_t (show vi (o_P O) (nI x) from ⟨x, hx, rfl⟩), pd_f v2, Bool.true_eq_false, b1, show ¬ (1 : Int32) = 0 by decide]
      rfl
  · rw [g1_n v1]
    refine ⟨g, Wg, Cg, z0, ?_⟩
    simp (disch := first | assumption | omega) only [hc_ck, hc_gi, hc_gl, hc_gp, ap_I, ap_L, kd_I, kd_L, kd_P, kd_rI, ar_I, ar_L, ar_P, al_I, al_L, al_P, hop_s, cond_true, cond_false, pc_I_I, pc_L_L, pc_P_P, pc_I_L, pc_I_P, pc_L_I, pc_L_P, pc_P_I, pc_P_L, pc_sS_I, pc_sS_L, pc_sS_P, I_rI, L_rI, P_rI, S_rI, cv_r, ci_r, cl_r, o1_b, o1_0, o1_1, lc_e, nI_1, nI_add, if_true, if_false, Nat.reduceEqDiff, Nat.left_eq_add, Nat.add_eq_left, false_and, and_false, true_and, and_true, and_self, eq_self, Rf_k, bo_0, pd_f v1, b1, show ¬ (1 : Int32) = 0 by decide]
    rfl
