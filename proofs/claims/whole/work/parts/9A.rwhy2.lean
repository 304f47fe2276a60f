/-! ===== why: the reference's rule ===== -/
noncomputable def wcd (b : Nat) (P : Nat → Prop) (nx : Int32) : Int32 := @ite _ (∃ k, P k) (Classical.propDecidable _) (nI (b + lm P)) nx
theorem wcd_y {b k : Nat} {P : Nat → Prop} {nx : Int32} (h : P k) (hl : ∀ j, j < k → ¬ P j) : wcd b P nx = nI (b + k) := by
  unfold wcd
  rw [if_pos ⟨k, h⟩, lm_e h hl]
theorem wcd_n {b : Nat} {P : Nat → Prop} {nx : Int32} (h : ∀ k, ¬ P k) : wcd b P nx = nx := if_neg (fun ⟨k, q⟩ => h k q)
theorem pd_or (P Q : Prop) : (pd P || pd Q) = pd (P ∨ Q) := by
  by_cases p : P
  · rw [pd_t p, pd_t (Or.inl p), Bool.true_or]
  · by_cases q : Q
    · rw [pd_t q, pd_t (Or.inr q), Bool.or_true]
    · rw [pd_f p, pd_f q, pd_f (fun e => e.elim p q)]
      rfl
theorem yi_pd {P : Nat → Prop} {k : Nat} (hk : k < 32) : yi (wI P) k = pd (P k) := pd_e ⟨fun q => (wI_x.mp q).2, fun q => wI_x.mpr ⟨hk, q⟩⟩
theorem pd_s (P : Nat → Prop) (n : Nat) : (pd (∃ r, r < n ∧ P r) || pd (P n)) = pd (∃ r, r < n + 1 ∧ P r) := by
  rw [pd_or]
  refine pd_c ⟨?_, ?_⟩
  · rintro (⟨r, a, b⟩ | b)
    · exact ⟨r, by omega, b⟩
    · exact ⟨n, by omega, b⟩
  · rintro ⟨r, a, b⟩
    by_cases e : r = n
    · exact Or.inr (e ▸ b)
    · exact Or.inl ⟨r, by omega, b⟩
theorem Rf_isLinked {h : am_H} {f n x z : Nat} {A : Nat → Nat → Prop} {K : Nat → Nat → Nat → Prop} (H : RfAt h f) (S : RfS h f n A K) (hn : n ≤ 60) (hx : x < n) (hz : z < 64) (d : Nat) : f_Rf_isLinked (d + 1) h f (nI x) (nI z) = some (.inr (some (.int (bo (pd (∃ r, r < 8 ∧ K x r z))))), h) := by
  have key : ∀ m, m ≤ 8 → f_Rf_isLinked_5 (d + 1) h f (nI x) (nI z) (bo (pd (∃ r, r < m ∧ K x r z))) (nI m) = some (.inr (some (.int (bo (pd (∃ r, r < 8 ∧ K x r z))))), h) := by
    refine dn ?_ ?_
    · rw [e_Rf_isLinked_5, if_pos (by decide), o1_b]
    · intro m hm ih
      have hm3 : ¬ 8 ≤ m := by omega
      rw [e_Rf_isLinked_5]
      simp (disch := first | assumption | omega) only [hc_ck, hc_gi, hc_gl, hc_gp, ap_I, ap_L, kd_I, kd_L, kd_P, kd_rI, ar_I, ar_L, ar_P, al_I, al_L, al_P, hop_s, cond_true, cond_false, pc_I_I, pc_L_L, pc_P_P, pc_I_L, pc_I_P, pc_L_I, pc_L_P, pc_P_I, pc_P_L, pc_sS_I, pc_sS_L, pc_sS_P, I_rI, L_rI, P_rI, S_rI, cv_r, ci_r, cl_r, o1_b, o1_0, o1_1, lc_e, nI_1, nI_add, if_true, if_false, Nat.reduceEqDiff, Nat.left_eq_add, Nat.add_eq_left, false_and, and_false, true_and, and_true, and_self, eq_self, Rf_k, n_8, n_le, hm3, Rf_p20, Rf_a8, Rf_b9, (S x hx).2 m hm, Rf_has, xl_pd, bo_or]
      rw [pd_s (fun r => K x r z) m]
      exact ih
  rw [e_Rf_isLinked, ← key 0 (Nat.zero_le _), pd_f (fun ⟨r, e, _⟩ => absurd e (Nat.not_lt_zero r))]
  rfl
theorem bo_o0 (b : Bool) : bo b ||| 0 = bo b := by cases b <;> rfl
theorem bo_o1 (b : Bool) : bo b ||| 1 = bo true := by cases b <;> rfl
theorem Rf_goesBy {h : am_H} {f n x q z : Nat} {O : o_T} {B : Nat → Prop} {A : Nat → Nat → Prop} {K : Nat → Nat → Nat → Prop} (H : RfAt h f) (U : RfU h f O B) (S : RfS h f n A K) (hn : n ≤ 60) (hx : x < n) (hq : q < 32) (hz : z < 64) (d : Nat) : f_Rf_goesBy (d + 1) h f (nI x) (nI q) (nI z) = some (.inr (some (.int (bo (pd (∃ r, r < 8 ∧ o_un O B r q ∧ K x r z))))), h) := by
  have key : ∀ m, m ≤ 8 → f_Rf_goesBy_6 (d + 1) h f (nI x) (nI q) (nI z) (bo (pd (∃ r, r < m ∧ o_un O B r q ∧ K x r z))) (nI m) = some (.inr (some (.int (bo (pd (∃ r, r < 8 ∧ o_un O B r q ∧ K x r z))))), h) := by
    refine dn ?_ ?_
    · rw [e_Rf_goesBy_6, if_pos (by decide), o1_b]
    · intro m hm ih
      have hm3 : ¬ 8 ≤ m := by omega
      rw [← pd_s (fun r => o_un O B r q ∧ K x r z) m] at ih
      rw [e_Rf_goesBy_6]
      simp (disch := first | assumption | omega) only [hc_ck, hc_gi, hc_gl, hc_gp, ap_I, ap_L, kd_I, kd_L, kd_P, kd_rI, ar_I, ar_L, ar_P, al_I, al_L, al_P, hop_s, cond_true, cond_false, pc_I_I, pc_L_L, pc_P_P, pc_I_L, pc_I_P, pc_L_I, pc_L_P, pc_P_I, pc_P_L, pc_sS_I, pc_sS_L, pc_sS_P, I_rI, L_rI, P_rI, S_rI, cv_r, ci_r, cl_r, o1_b, o1_0, o1_1, lc_e, nI_1, nI_add, if_true, if_false, Nat.reduceEqDiff, Nat.left_eq_add, Nat.add_eq_left, false_and, and_false, true_and, and_true, and_self, eq_self, Rf_k, n_8, n_le, hm3, Rf_p24, Rf_r1460, U m hm, Rf_hasI, yi_pd, bo_0]
      by_cases c1 : o_un O B m q
      · by_cases c2 : K x m z
        · rw [pd_t (show o_un O B m q ∧ K x m z from ⟨c1, c2⟩), Bool.or_true] at ih
          simp (disch := first | assumption | omega) only [hc_ck, hc_gi, hc_gl, hc_gp, ap_I, ap_L, kd_I, kd_L, kd_P, kd_rI, ar_I, ar_L, ar_P, al_I, al_L, al_P, hop_s, cond_true, cond_false, pc_I_I, pc_L_L, pc_P_P, pc_I_L, pc_I_P, pc_L_I, pc_L_P, pc_P_I, pc_P_L, pc_sS_I, pc_sS_L, pc_sS_P, I_rI, L_rI, P_rI, S_rI, cv_r, ci_r, cl_r, o1_b, o1_0, o1_1, lc_e, nI_1, nI_add, if_true, if_false, Nat.reduceEqDiff, Nat.left_eq_add, Nat.add_eq_left, false_and, and_false, true_and, and_true, and_self, eq_self, Rf_k, pd_t c1, Bool.true_eq_false, Rf_p20, Rf_a8, Rf_b9, (S x hx).2 m hm, Rf_has, xl_pd, pd_t c2, bo_0, bo_o1]
          exact ih
        · rw [pd_f (show ¬ (o_un O B m q ∧ K x m z) from fun e => c2 e.2), Bool.or_false] at ih
          simp (disch := first | assumption | omega) only [hc_ck, hc_gi, hc_gl, hc_gp, ap_I, ap_L, kd_I, kd_L, kd_P, kd_rI, ar_I, ar_L, ar_P, al_I, al_L, al_P, hop_s, cond_true, cond_false, pc_I_I, pc_L_L, pc_P_P, pc_I_L, pc_I_P, pc_L_I, pc_L_P, pc_P_I, pc_P_L, pc_sS_I, pc_sS_L, pc_sS_P, I_rI, L_rI, P_rI, S_rI, cv_r, ci_r, cl_r, o1_b, o1_0, o1_1, lc_e, nI_1, nI_add, if_true, if_false, Nat.reduceEqDiff, Nat.left_eq_add, Nat.add_eq_left, false_and, and_false, true_and, and_true, and_self, eq_self, Rf_k, pd_t c1, Bool.true_eq_false, Rf_p20, Rf_a8, Rf_b9, (S x hx).2 m hm, Rf_has, xl_pd, pd_f c2, bo_0, bo_o0]
          exact ih
      · rw [pd_f (show ¬ (o_un O B m q ∧ K x m z) from fun e => c1 e.1), Bool.or_false] at ih
        simp (disch := first | assumption | omega) only [hc_ck, hc_gi, hc_gl, hc_gp, ap_I, ap_L, kd_I, kd_L, kd_P, kd_rI, ar_I, ar_L, ar_P, al_I, al_L, al_P, hop_s, cond_true, cond_false, pc_I_I, pc_L_L, pc_P_P, pc_I_L, pc_I_P, pc_L_I, pc_L_P, pc_P_I, pc_P_L, pc_sS_I, pc_sS_L, pc_sS_P, I_rI, L_rI, P_rI, S_rI, cv_r, ci_r, cl_r, o1_b, o1_0, o1_1, lc_e, nI_1, nI_add, if_true, if_false, Nat.reduceEqDiff, Nat.left_eq_add, Nat.add_eq_left, false_and, and_false, true_and, and_true, and_self, eq_self, pd_f c1, bo_o0]
        exact ih
  rw [e_Rf_goesBy, ← key 0 (Nat.zero_le _), pd_f (fun ⟨r, e, _⟩ => absurd e (Nat.not_lt_zero r))]
  rfl
theorem no_s {P : Nat → Prop} {n : Nat} (h : ∀ j, j < n → ¬ P j) (c : ¬ P n) : ∀ j, j < n + 1 → ¬ P j := fun j hj => by
  by_cases e : j = n
  · exact e ▸ c
  · exact h j (by omega)
theorem Rf_ru332 {h : am_H} {f x y : Nat} {O : o_T} {A : Nat → Nat → Prop} {K : Nat → Nat → Nat → Prop} (H : RfAt h f) (R : RwR h (f + 3) O) (S : RfS h f (o_P O) A K) (hK : ∀ x r y, K x r y → r < o_R O ∧ y < o_P O) (hx : x < o_P O) (hy : y < o_P O) (d : Nat) : ∀ n, n ≤ o_P O → (∀ j, j < n → ¬ w_5 O A K x y j) → f_Rf_ruleOf_332 (d + 2) h f (nI x) (nI y) (nI n) = some (.inr (some (.int (wcd 501 (w_5 O A K x y) 0))), h) := by
  have ok := R.2.1
  have hP := ok.2.2.2.1
  have hR := ok.2.1
  refine dn ?_ ?_
  · intro hj
    rw [e_Rf_ruleOf_332, wcd_n (fun k q => hj k q.1 q)]
    simp (disch := first | assumption | omega) only [hc_ck, hc_gi, hc_gl, hc_gp, ap_I, ap_L, kd_I, kd_L, kd_P, kd_rI, ar_I, ar_L, ar_P, al_I, al_L, al_P, hop_s, cond_true, cond_false, pc_I_I, pc_L_L, pc_P_P, pc_I_L, pc_I_P, pc_L_I, pc_L_P, pc_P_I, pc_P_L, pc_sS_I, pc_sS_L, pc_sS_P, I_rI, L_rI, P_rI, S_rI, cv_r, ci_r, cl_r, o1_b, o1_0, o1_1, lc_e, nI_1, nI_add, if_true, if_false, Nat.reduceEqDiff, Nat.left_eq_add, Nat.add_eq_left, false_and, and_false, true_and, and_true, and_self, eq_self, Rf_k, Rf_p9, Rw_ar2, Rw_P, n_le, Nat.le_refl]
  · intro n hn ih hj
    have hn3 : ¬ o_P O ≤ n := by omega
    have h1 := Rf_has h (am_L h (f + 6) n) (k := 1) (by omega) (d + 1)
    rw [← n_1, (S n hn).1, xl_pd (by omega)] at h1
    rw [e_Rf_ruleOf_332]
    simp (disch := first | assumption | omega) only [hc_ck, hc_gi, hc_gl, hc_gp, ap_I, ap_L, kd_I, kd_L, kd_P, kd_rI, ar_I, ar_L, ar_P, al_I, al_L, al_P, hop_s, cond_true, cond_false, pc_I_I, pc_L_L, pc_P_P, pc_I_L, pc_I_P, pc_L_I, pc_L_P, pc_P_I, pc_P_L, pc_sS_I, pc_sS_L, pc_sS_P, I_rI, L_rI, P_rI, S_rI, cv_r, ci_r, cl_r, o1_b, o1_0, o1_1, lc_e, nI_1, nI_add, if_true, if_false, Nat.reduceEqDiff, Nat.left_eq_add, Nat.add_eq_left, false_and, and_false, true_and, and_true, and_self, eq_self, Rf_k, Rf_p9, Rw_ar2, Rw_P, n_le, hn3, Rf_p18, Rf_r6, (S n hn).1, h1, Rf_isLinked H S hP hx (show n < 64 by omega) d, bo_0]
    by_cases e1 : y = 1
    · rw [if_pos (by rw [e1]; rfl)]
      by_cases c1 : A n 1
      · rw [pd_t c1, if_neg (by decide)]
        by_cases c2 : ∃ r, r < 8 ∧ K x r n
        · have p : w_5 O A K x y n := ⟨hn, e1, c2.elim (fun r e => ⟨r, e.2⟩), c1⟩
          rw [pd_t c2, if_neg (by decide), wcd_y p hj, show (501 : Int32) = nI 501 from rfl, nI_add]
        · rw [pd_f c2, if_pos rfl]
          exact ih (no_s hj (fun q => c2 (q.2.2.1.elim (fun r e => ⟨r, by have := (hK _ _ _ e).1; omega, e⟩))))
      · rw [pd_f c1, if_pos rfl]
        exact ih (no_s hj (fun q => c1 q.2.2.2))
    · rw [if_neg (by rw [n_1, nI_e32 (by omega) (by omega)]; exact e1)]
      exact ih (no_s hj (fun q => e1 q.2.1))
theorem Rf_ru259 {h : am_H} {f x y : Nat} {O : o_T} {B : Nat → Prop} {A : Nat → Nat → Prop} {K : Nat → Nat → Nat → Prop} (H : RfAt h f) (R : RwR h (f + 3) O) (U : RfU h f O B) (S : RfS h f (o_P O) A K) (hK : ∀ x r y, K x r y → r < o_R O ∧ y < o_P O) (hx : x < o_P O) (hy : y < o_P O) (d : Nat) : ∀ n, n ≤ o_P O → (∀ j, j < n → ¬ w_4 O B A K x y j) → f_Rf_ruleOf_259 (d + 2) h f (nI x) (nI y) (nI n) = some (.inr (some (.int (wcd 401 (w_4 O B A K x y) (wcd 501 (w_5 O A K x y) 0)))), h) := by
  have ok := R.2.1
  have hP := ok.2.2.2.1
  have hR := ok.2.1
  have oky := ok.2.2.2.2.2.2.2.1 y hy
  refine dn ?_ ?_
  · intro hj
    rw [e_Rf_ruleOf_259, wcd_n (b := 401) (fun k q => hj k q.1 q)]
    simp (disch := first | assumption | omega) only [hc_ck, hc_gi, hc_gl, hc_gp, ap_I, ap_L, kd_I, kd_L, kd_P, kd_rI, ar_I, ar_L, ar_P, al_I, al_L, al_P, hop_s, cond_true, cond_false, pc_I_I, pc_L_L, pc_P_P, pc_I_L, pc_I_P, pc_L_I, pc_L_P, pc_P_I, pc_P_L, pc_sS_I, pc_sS_L, pc_sS_P, I_rI, L_rI, P_rI, S_rI, cv_r, ci_r, cl_r, o1_b, o1_0, o1_1, lc_e, nI_1, nI_add, if_true, if_false, Nat.reduceEqDiff, Nat.left_eq_add, Nat.add_eq_left, false_and, and_false, true_and, and_true, and_self, eq_self, Rf_k, Rf_p9, Rw_ar2, Rw_P, n_le, Nat.le_refl]
    exact Rf_ru332 H R S hK hx hy d 0 (Nat.zero_le _) (fun j hj => absurd hj (Nat.not_lt_zero j))
  · intro n hn ih hj
    have hn3 : ¬ o_P O ≤ n := by omega
    rw [e_Rf_ruleOf_259]
    simp (disch := first | assumption | omega) only [hc_ck, hc_gi, hc_gl, hc_gp, ap_I, ap_L, kd_I, kd_L, kd_P, kd_rI, ar_I, ar_L, ar_P, al_I, al_L, al_P, hop_s, cond_true, cond_false, pc_I_I, pc_L_L, pc_P_P, pc_I_L, pc_I_P, pc_L_I, pc_L_P, pc_P_I, pc_P_L, pc_sS_I, pc_sS_L, pc_sS_P, I_rI, L_rI, P_rI, S_rI, cv_r, ci_r, cl_r, o1_b, o1_0, o1_1, lc_e, nI_1, nI_add, if_true, if_false, Nat.reduceEqDiff, Nat.left_eq_add, Nat.add_eq_left, false_and, and_false, true_and, and_true, and_self, eq_self, Rf_k, Rf_p9, Rw_ar2, Rw_P, n_le, hn3, Rf_kindOf R hy]
    by_cases e4 : o_pk O y = 4
    · have pb : o_pa O y < o_R O ∧ o_pb O y < y := by
        unfold o_okP at oky
        omega
      rw [if_pos (by rw [e4]; rfl)]
      simp (disch := first | assumption | omega) only [hc_ck, hc_gi, hc_gl, hc_gp, ap_I, ap_L, kd_I, kd_L, kd_P, kd_rI, ar_I, ar_L, ar_P, al_I, al_L, al_P, hop_s, cond_true, cond_false, pc_I_I, pc_L_L, pc_P_P, pc_I_L, pc_I_P, pc_L_I, pc_L_P, pc_P_I, pc_P_L, pc_sS_I, pc_sS_L, pc_sS_P, I_rI, L_rI, P_rI, S_rI, cv_r, ci_r, cl_r, o1_b, o1_0, o1_1, lc_e, nI_1, nI_add, if_true, if_false, Nat.reduceEqDiff, Nat.left_eq_add, Nat.add_eq_left, false_and, and_false, true_and, and_true, and_self, eq_self, Rf_k, Rf_p9, Rf_p18, Rf_r6, Rf_otherOf R hy, Rf_oneOf R hy, (S n hn).1, Rf_has, xl_pd, bo_0, Rf_goesBy H U S hP hx (show o_pa O y < 32 by omega) (show n < 64 by omega) d]
      by_cases c1 : A n (o_pb O y)
      · rw [pd_t c1, if_neg (by decide)]
        by_cases c2 : ∃ r, r < 8 ∧ o_un O B r (o_pa O y) ∧ K x r n
        · have p : w_4 O B A K x y n := ⟨hn, e4, c2.elim (fun r e => ⟨r, e.2⟩), c1⟩
          rw [pd_t c2, if_neg (by decide), wcd_y p hj, show (401 : Int32) = nI 401 from rfl, nI_add]
        · rw [pd_f c2, if_pos rfl]
          exact ih (no_s hj (fun q => c2 (q.2.2.1.elim (fun r e => ⟨r, by have := (hK _ _ _ e.2).1; omega, e⟩))))
      · rw [pd_f c1, if_pos rfl]
        exact ih (no_s hj (fun q => c1 q.2.2.2))
    · have : o_pk O y < 5 := by
        unfold o_okP at oky
        omega
      rw [if_neg (by rw [n_4, nI_e32 (by omega) (by omega)]; exact e4)]
      exact ih (no_s hj (fun q => e4 q.2.1))
