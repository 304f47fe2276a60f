/-! ===== nodes: both sides ===== -/
noncomputable def q_nO (O : o_T) (B : Nat → Prop) (n : Nat) : Nat → Value
  | 0 => .int (wI (fun a => q_nv O B a ∧ q_no O B a = n))
  | 1 => .int (wI (q_pa O B n))
  | 2 => .int (wI (fun m => q_pa O B m n))
  | 3 => .int (wI (q_ov O B n))
  | 4 => .int (wI (fun m => q_ov O B m n))
  | _ => .int (nI (q_de O B n))
theorem iv6 {w : Nat} (h : w < 5 + 1) : w = 0 ∨ w = 1 ∨ w = 2 ∨ w = 3 ∨ w = 4 ∨ w = 5 := by omega
theorem Lc_q_nodeOf {h : am_H} {o : Nat} {O : o_T} {B : Nat → Prop} (C : CB h o O B) (i j : Int32) (d : Nat) : QQ (f_Lc_nodeOf (d + 5) h 1 i j) h o O B (g1 (q_M O B) i 0 fun n => g1 6 j 1 fun w => .inr (q_nO O B n w)) := by
  have H := C.1
  have ok := C.2.2.2.1.2.1
  have hN := ok.1
  have hM := q_Mle O B
  obtain ⟨g, eg, qg, Cg, Lg⟩ := Lc_st C d
  have Hg := Cg.1
  have Hw := Lc_h Hg
  have Rg := LcL_h Lg
  rw [e_Lc_nodeOf]
  simp (disch := first | assumption | omega) only [hc_ck, hc_gi, hc_gl, hc_gp, ap_I, ap_L, kd_I, kd_L, kd_P, kd_rI, ar_I, ar_L, ar_P, al_I, al_L, al_P, hop_s, cond_true, cond_false, pc_I_I, pc_L_L, pc_P_P, pc_I_L, pc_I_P, pc_L_I, pc_L_P, pc_P_I, pc_P_L, pc_sS_I, pc_sS_L, pc_sS_P, I_rI, L_rI, P_rI, S_rI, cv_r, ci_r, cl_r, o1_b, o1_0, o1_1, lc_e, nI_1, nI_add, if_true, if_false, Nat.reduceEqDiff, Nat.left_eq_add, Nat.add_eq_left, false_and, and_false, true_and, and_true, and_self, eq_self, Lc_k1, eg, Lc_p1_12, Hi_k, Rg.1, Lc_rf0, cv_e]
  by_cases v1 : vi (q_M O B) i
  · obtain ⟨n, hn, rfl⟩ := v1
    rw [g1_y (by omega) hn, if_neg (vi_0 (by omega) hn)]
    simp (disch := first | assumption | omega) only [n_lt, hn, if_true]
    rw [e_Lc_nodeOf_23]
    rcases Lc_nW Hg j (n := 5) (by omega) (d + 3) with ⟨⟨w, hw, rfl⟩, e1⟩ | ⟨v, e1⟩
    · rw [g1_y (by omega) hw]
      rw [← n_5] at e1
      simp (disch := first | assumption | omega) only [hc_ck, hc_gi, hc_gl, hc_gp, ap_I, ap_L, kd_I, kd_L, kd_P, kd_rI, ar_I, ar_L, ar_P, al_I, al_L, al_P, hop_s, cond_true, cond_false, pc_I_I, pc_L_L, pc_P_P, pc_I_L, pc_I_P, pc_L_I, pc_L_P, pc_P_I, pc_P_L, pc_sS_I, pc_sS_L, pc_sS_P, I_rI, L_rI, P_rI, S_rI, cv_r, ci_r, cl_r, o1_b, o1_0, o1_1, lc_e, nI_1, nI_add, if_true, if_false, Nat.reduceEqDiff, Nat.left_eq_add, Nat.add_eq_left, false_and, and_false, true_and, and_true, and_self, eq_self, Lc_k1, e1]
      rcases iv6 hw with rfl | rfl | rfl | rfl | rfl | rfl
      · refine ⟨g, qg, Cg, ?_⟩
        simp +decide (disch := first | assumption | omega) only [hc_ck, hc_gi, hc_gl, hc_gp, ap_I, ap_L, kd_I, kd_L, kd_P, kd_rI, ar_I, ar_L, ar_P, al_I, al_L, al_P, hop_s, cond_true, cond_false, pc_I_I, pc_L_L, pc_P_P, pc_I_L, pc_I_P, pc_L_I, pc_L_P, pc_P_I, pc_P_L, pc_sS_I, pc_sS_L, pc_sS_P, I_rI, L_rI, P_rI, S_rI, cv_r, ci_r, cl_r, o1_b, o1_0, o1_1, lc_e, nI_1, nI_add, if_true, if_false, Nat.reduceEqDiff, Nat.left_eq_add, Nat.add_eq_left, false_and, and_false, true_and, and_true, and_self, eq_self, Lc_k1, Lc_p1_12, Hi_k, Hi_p4, Hi_r3, (Rg.2.2.2 n hn).1, q_nO]
      · refine ⟨g, qg, Cg, ?_⟩
        simp +decide (disch := first | assumption | omega) only [hc_ck, hc_gi, hc_gl, hc_gp, ap_I, ap_L, kd_I, kd_L, kd_P, kd_rI, ar_I, ar_L, ar_P, al_I, al_L, al_P, hop_s, cond_true, cond_false, pc_I_I, pc_L_L, pc_P_P, pc_I_L, pc_I_P, pc_L_I, pc_L_P, pc_P_I, pc_P_L, pc_sS_I, pc_sS_L, pc_sS_P, I_rI, L_rI, P_rI, S_rI, cv_r, ci_r, cl_r, o1_b, o1_0, o1_1, lc_e, nI_1, nI_add, if_true, if_false, Nat.reduceEqDiff, Nat.left_eq_add, Nat.add_eq_left, false_and, and_false, true_and, and_true, and_self, eq_self, Lc_k1, Lc_p1_12, Hi_k, Hi_p6, Hi_r5, (Rg.2.2.2 n hn).2.2, q_nO]
      · refine ⟨g, qg, Cg, ?_⟩
        simp +decide (disch := first | assumption | omega) only [hc_ck, hc_gi, hc_gl, hc_gp, ap_I, ap_L, kd_I, kd_L, kd_P, kd_rI, ar_I, ar_L, ar_P, al_I, al_L, al_P, hop_s, cond_true, cond_false, pc_I_I, pc_L_L, pc_P_P, pc_I_L, pc_I_P, pc_L_I, pc_L_P, pc_P_I, pc_P_L, pc_sS_I, pc_sS_L, pc_sS_P, I_rI, L_rI, P_rI, S_rI, cv_r, ci_r, cl_r, o1_b, o1_0, o1_1, lc_e, nI_1, nI_add, if_true, if_false, Nat.reduceEqDiff, Nat.left_eq_add, Nat.add_eq_left, false_and, and_false, true_and, and_true, and_self, eq_self, Lc_k1, Lc_p1_12, Hi_k, Hi_childrenOf ok Hw Rg hn, q_nO]
      · refine ⟨g, qg, Cg, ?_⟩
        simp +decide (disch := first | assumption | omega) only [hc_ck, hc_gi, hc_gl, hc_gp, ap_I, ap_L, kd_I, kd_L, kd_P, kd_rI, ar_I, ar_L, ar_P, al_I, al_L, al_P, hop_s, cond_true, cond_false, pc_I_I, pc_L_L, pc_P_P, pc_I_L, pc_I_P, pc_L_I, pc_L_P, pc_P_I, pc_P_L, pc_sS_I, pc_sS_L, pc_sS_P, I_rI, L_rI, P_rI, S_rI, cv_r, ci_r, cl_r, o1_b, o1_0, o1_1, lc_e, nI_1, nI_add, if_true, if_false, Nat.reduceEqDiff, Nat.left_eq_add, Nat.add_eq_left, false_and, and_false, true_and, and_true, and_self, eq_self, Lc_k1, Lc_p1_12, Hi_k, Hi_p5, Hi_r4, (Rg.2.2.2 n hn).2.1, q_nO]
      · refine ⟨g, qg, Cg, ?_⟩
        simp +decide (disch := first | assumption | omega) only [hc_ck, hc_gi, hc_gl, hc_gp, ap_I, ap_L, kd_I, kd_L, kd_P, kd_rI, ar_I, ar_L, ar_P, al_I, al_L, al_P, hop_s, cond_true, cond_false, pc_I_I, pc_L_L, pc_P_P, pc_I_L, pc_I_P, pc_L_I, pc_L_P, pc_P_I, pc_P_L, pc_sS_I, pc_sS_L, pc_sS_P, I_rI, L_rI, P_rI, S_rI, cv_r, ci_r, cl_r, o1_b, o1_0, o1_1, lc_e, nI_1, nI_add, if_true, if_false, Nat.reduceEqDiff, Nat.left_eq_add, Nat.add_eq_left, false_and, and_false, true_and, and_true, and_self, eq_self, Lc_k1, Lc_p1_12, Hi_k, Hi_allUnder ok Hw Rg hn, q_nO]
      · obtain ⟨u, eu, qu⟩ := Hi_depth ok Hw Rg hn (d + 3)
        have Hu : LcAt u := LcAt_of Hg qu.2.2.1 (fun b j _ => by rw [qu.2.1])
        refine ⟨u, fK_t qg (fJ_K qu (by omega) (by omega)), CB_sm (W := fun b => b ≠ 60) ⟨qu.2.2.1, fun b p => ⟨qu.2.2.2.2.2 b (by omega), by rw [qu.1], by rw [qu.2.1]⟩⟩ Hu (fun b _ _ => by omega) (by omega) (by omega) Cg, ?_⟩
        simp +decide (disch := first | assumption | omega) only [hc_ck, hc_gi, hc_gl, hc_gp, ap_I, ap_L, kd_I, kd_L, kd_P, kd_rI, ar_I, ar_L, ar_P, al_I, al_L, al_P, hop_s, cond_true, cond_false, pc_I_I, pc_L_L, pc_P_P, pc_I_L, pc_I_P, pc_L_I, pc_L_P, pc_P_I, pc_P_L, pc_sS_I, pc_sS_L, pc_sS_P, I_rI, L_rI, P_rI, S_rI, cv_r, ci_r, cl_r, o1_b, o1_0, o1_1, lc_e, nI_1, nI_add, if_true, if_false, Nat.reduceEqDiff, Nat.left_eq_add, Nat.add_eq_left, false_and, and_false, true_and, and_true, and_self, eq_self, Lc_k1, Lc_p1_12, Hi_k, eu, q_nO]
    · rw [g1_n v]
      rw [← n_5] at e1
      simp (disch := first | assumption | omega) only [hc_ck, hc_gi, hc_gl, hc_gp, ap_I, ap_L, kd_I, kd_L, kd_P, kd_rI, ar_I, ar_L, ar_P, al_I, al_L, al_P, hop_s, cond_true, cond_false, pc_I_I, pc_L_L, pc_P_P, pc_I_L, pc_I_P, pc_L_I, pc_L_P, pc_P_I, pc_P_L, pc_sS_I, pc_sS_L, pc_sS_P, I_rI, L_rI, P_rI, S_rI, cv_r, ci_r, cl_r, o1_b, o1_0, o1_1, lc_e, nI_1, nI_add, if_true, if_false, Nat.reduceEqDiff, Nat.left_eq_add, Nat.add_eq_left, false_and, and_false, true_and, and_true, and_self, eq_self, Lc_k1, e1, cv_e]
      exact ⟨g, qg, Cg, rfl⟩
  · rw [g1_n v1]
    refine ⟨g, qg, Cg, ?_⟩
    by_cases c : i < 0
    · simp only [c, if_true]
    · simp only [c, if_false, vi_n (by omega) v1 c]
def cq2 (E : Nat) : Int32 := if E = 0 then 1 else 2
theorem q_nc_n {O : o_T} {B : Nat → Prop} (ok : o_ok O) {a n : Nat} (ha : a < o_N O) (hn : n < 100) : (q_nc O B a = nI n) ↔ (q_nv O B a ∧ q_no O B a = n) := by
  have hN := ok.1
  have hM := q_Mle O B
  by_cases v : q_vo O B a
  · rw [q_nc1 v]
    constructor
    · intro e
      have := (n_m1 n (by omega)) ▸ e.symm
      exact this.elim
    · exact fun e => absurd v e.1.2.1
  · by_cases t : q_tp O B a
    · rw [q_nc2 v t]
      constructor
      · intro e
        rw [show (-2 : Int32) = nI 4294967294 by decide] at e
        have := (nI_e32 (by omega) (by omega)).mp e
        omega
      · exact fun e => absurd t e.1.2.2
    · have nv : q_nv O B a := ⟨ha, v, t⟩
      have := q_nolim nv
      rw [q_nc3 nv]
      constructor
      · intro e
        exact ⟨nv, (nI_e32 (by omega) (by omega)).mp e⟩
      · intro e
        rw [e.2]
theorem Rf_nd67 {h : am_H} {f : Nat} {O : o_T} {B : Nat → Prop} (C : RB h f O B) (N : RfN h f O B) {n w : Nat} (hn : n < q_M O B) (hw : w < 5 + 1) (d : Nat) : f_Rf_nodeOf_67 d h f (nI n) (nI w) 0 0 = some (.inr (some (q_nO O B n w)), h) := by
  have H := C.1
  have R := C.2.1
  have ok := R.2.1
  have hN := ok.1
  have hM := q_Mle O B
  have key : ∀ a, a ≤ o_N O → f_Rf_nodeOf_67 d h f (nI n) (nI w) (wI (fun j => j < a ∧ (q_nv O B j ∧ q_no O B j = n))) (nI a) = some (.inr (some (q_nO O B n w)), h) := by
    refine dn ?_ ?_
    · rw [e_Rf_nodeOf_67]
      simp (disch := first | assumption | omega) only [hc_ck, hc_gi, hc_gl, hc_gp, ap_I, ap_L, kd_I, kd_L, kd_P, kd_rI, ar_I, ar_L, ar_P, al_I, al_L, al_P, hop_s, cond_true, cond_false, pc_I_I, pc_L_L, pc_P_P, pc_I_L, pc_I_P, pc_L_I, pc_L_P, pc_P_I, pc_P_L, pc_sS_I, pc_sS_L, pc_sS_P, I_rI, L_rI, P_rI, S_rI, cv_r, ci_r, cl_r, o1_b, o1_0, o1_1, lc_e, nI_1, nI_add, if_true, if_false, Nat.reduceEqDiff, Nat.left_eq_add, Nat.add_eq_left, false_and, and_false, true_and, and_true, and_self, eq_self, Rf_k, Rf_p9, Rw_ar0, Rw_N, n_le, Nat.le_refl]
      rcases iv6 hw with rfl | rfl | rfl | rfl | rfl | rfl
      · rw [if_pos (by decide), wI_cong (P := fun j => j < o_N O ∧ (q_nv O B j ∧ q_no O B j = n)) (Q := fun j => q_nv O B j ∧ q_no O B j = n) (fun k _ => ⟨And.right, fun e => ⟨e.1.1, e⟩⟩)]
        rfl
      · simp +decide (disch := first | assumption | omega) only [hc_ck, hc_gi, hc_gl, hc_gp, ap_I, ap_L, kd_I, kd_L, kd_P, kd_rI, ar_I, ar_L, ar_P, al_I, al_L, al_P, hop_s, cond_true, cond_false, pc_I_I, pc_L_L, pc_P_P, pc_I_L, pc_I_P, pc_L_I, pc_L_P, pc_P_I, pc_P_L, pc_sS_I, pc_sS_L, pc_sS_P, I_rI, L_rI, P_rI, S_rI, cv_r, ci_r, cl_r, o1_b, o1_0, o1_1, lc_e, nI_1, nI_add, if_true, if_false, Nat.reduceEqDiff, Nat.left_eq_add, Nat.add_eq_left, false_and, and_false, true_and, and_true, and_self, eq_self, Rf_k, Rf_p31, Rf_r1526, (N.2.2 n hn).2.2.1, q_nO]
      · simp +decide (disch := first | assumption | omega) only [hc_ck, hc_gi, hc_gl, hc_gp, ap_I, ap_L, kd_I, kd_L, kd_P, kd_rI, ar_I, ar_L, ar_P, al_I, al_L, al_P, hop_s, cond_true, cond_false, pc_I_I, pc_L_L, pc_P_P, pc_I_L, pc_I_P, pc_L_I, pc_L_P, pc_P_I, pc_P_L, pc_sS_I, pc_sS_L, pc_sS_P, I_rI, L_rI, P_rI, S_rI, cv_r, ci_r, cl_r, o1_b, o1_0, o1_1, lc_e, nI_1, nI_add, if_true, if_false, Nat.reduceEqDiff, Nat.left_eq_add, Nat.add_eq_left, false_and, and_false, true_and, and_true, and_self, eq_self, Rf_k, Rf_p32, Rf_r1527, (N.2.2 n hn).2.2.2.1, q_nO]
      · simp +decide (disch := first | assumption | omega) only [hc_ck, hc_gi, hc_gl, hc_gp, ap_I, ap_L, kd_I, kd_L, kd_P, kd_rI, ar_I, ar_L, ar_P, al_I, al_L, al_P, hop_s, cond_true, cond_false, pc_I_I, pc_L_L, pc_P_P, pc_I_L, pc_I_P, pc_L_I, pc_L_P, pc_P_I, pc_P_L, pc_sS_I, pc_sS_L, pc_sS_P, I_rI, L_rI, P_rI, S_rI, cv_r, ci_r, cl_r, o1_b, o1_0, o1_1, lc_e, nI_1, nI_add, if_true, if_false, Nat.reduceEqDiff, Nat.left_eq_add, Nat.add_eq_left, false_and, and_false, true_and, and_true, and_self, eq_self, Rf_k, Rf_p29, Rf_r1524, (N.2.2 n hn).1, q_nO]
      · simp +decide (disch := first | assumption | omega) only [hc_ck, hc_gi, hc_gl, hc_gp, ap_I, ap_L, kd_I, kd_L, kd_P, kd_rI, ar_I, ar_L, ar_P, al_I, al_L, al_P, hop_s, cond_true, cond_false, pc_I_I, pc_L_L, pc_P_P, pc_I_L, pc_I_P, pc_L_I, pc_L_P, pc_P_I, pc_P_L, pc_sS_I, pc_sS_L, pc_sS_P, I_rI, L_rI, P_rI, S_rI, cv_r, ci_r, cl_r, o1_b, o1_0, o1_1, lc_e, nI_1, nI_add, if_true, if_false, Nat.reduceEqDiff, Nat.left_eq_add, Nat.add_eq_left, false_and, and_false, true_and, and_true, and_self, eq_self, Rf_k, Rf_p30, Rf_r1525, (N.2.2 n hn).2.1, q_nO]
      · simp +decide (disch := first | assumption | omega) only [hc_ck, hc_gi, hc_gl, hc_gp, ap_I, ap_L, kd_I, kd_L, kd_P, kd_rI, ar_I, ar_L, ar_P, al_I, al_L, al_P, hop_s, cond_true, cond_false, pc_I_I, pc_L_L, pc_P_P, pc_I_L, pc_I_P, pc_L_I, pc_L_P, pc_P_I, pc_P_L, pc_sS_I, pc_sS_L, pc_sS_P, I_rI, L_rI, P_rI, S_rI, cv_r, ci_r, cl_r, o1_b, o1_0, o1_1, lc_e, nI_1, nI_add, if_true, if_false, Nat.reduceEqDiff, Nat.left_eq_add, Nat.add_eq_left, false_and, and_false, true_and, and_true, and_self, eq_self, Rf_k, Rf_p33, Rf_r1528, (N.2.2 n hn).2.2.2.2, q_nO]
    · intro a ha ih
      have ha3 : ¬ o_N O ≤ a := by omega
      rw [e_Rf_nodeOf_67]
      simp (disch := first | assumption | omega) only [hc_ck, hc_gi, hc_gl, hc_gp, ap_I, ap_L, kd_I, kd_L, kd_P, kd_rI, ar_I, ar_L, ar_P, al_I, al_L, al_P, hop_s, cond_true, cond_false, pc_I_I, pc_L_L, pc_P_P, pc_I_L, pc_I_P, pc_L_I, pc_L_P, pc_P_I, pc_P_L, pc_sS_I, pc_sS_L, pc_sS_P, I_rI, L_rI, P_rI, S_rI, cv_r, ci_r, cl_r, o1_b, o1_0, o1_1, lc_e, nI_1, nI_add, if_true, if_false, Nat.reduceEqDiff, Nat.left_eq_add, Nat.add_eq_left, false_and, and_false, true_and, and_true, and_self, eq_self, Rf_k, Rf_p9, Rw_ar0, Rw_N, n_le, ha3, Rf_p27, Rf_r1522, N.2.1 a ha]
      by_cases c : q_nv O B a ∧ q_no O B a = n
      · rw [if_pos ((q_nc_n ok ha (by omega)).mpr c), wc_y (Q := fun j => q_nv O B j ∧ q_no O B j = n) (by omega) c]
        exact ih
      · rw [if_neg (fun e => c ((q_nc_n ok ha (by omega)).mp e)), Int32.or_zero, wc_n (Q := fun j => q_nv O B j ∧ q_no O B j = n) c]
        exact ih
  rw [← key 0 (Nat.zero_le _), wc_0]
  rfl
theorem Rf_q_nodeOf {h : am_H} {f : Nat} {O : o_T} {B : Nat → Prop} (C : RB h f O B) (i j : Int32) (d : Nat) : RR (f_Rf_nodeOf (d + 5) h f i j) h f O B cq2 (.int 0) (g1 (q_M O B) i 0 fun n => g1 6 j 1 fun w => .inr (q_nO O B n w)) := by
  have H := C.1
  have hN := C.2.1.2.1.1
  have hM := q_Mle O B
  obtain ⟨g, e0, Cg, Wg, z0⟩ := RB_b C
  have Hg := Cg.1
  obtain ⟨u, eu, Wu, Cu, Lu, Nu, u0⟩ := Rf_ln Cg d
  have Hu := Cu.1
  have zu := u0.trans z0
  have b1 := Rf_bad1 Hu zu (c := 1) (by decide) (E := 0) (by omega) (d + 4)
  have b2 := Rf_bad1 Hu zu (c := 2) (by decide) (E := 1) (by omega) (d + 4)
  rw [← n_0] at b1
  rw [← n_1] at b2
  rw [e_Rf_nodeOf]
  simp (disch := first | assumption | omega) only [hc_ck, hc_gi, hc_gl, hc_gp, ap_I, ap_L, kd_I, kd_L, kd_P, kd_rI, ar_I, ar_L, ar_P, al_I, al_L, al_P, hop_s, cond_true, cond_false, pc_I_I, pc_L_L, pc_P_P, pc_I_L, pc_I_P, pc_L_I, pc_L_P, pc_P_I, pc_P_L, pc_sS_I, pc_sS_L, pc_sS_P, I_rI, L_rI, P_rI, S_rI, cv_r, ci_r, cl_r, o1_b, o1_0, o1_1, lc_e, nI_1, nI_add, if_true, if_false, Nat.reduceEqDiff, Nat.left_eq_add, Nat.add_eq_left, false_and, and_false, true_and, and_true, and_self, eq_self, Rf_k, e0, eu, Nu.1, vi_in]
  by_cases v1 : vi (q_M O B) i
  · obtain ⟨n, hn, rfl⟩ := v1
    rw [g1_y (by omega) hn]
    by_cases v2 : vi 6 j
    · obtain ⟨w, hw, rfl⟩ := v2
      rw [g1_y (by omega) hw]
      refine ⟨u, fW_t Wg Wu, Cu, zu, ?_⟩
      simp (disch := first | assumption | omega) only [hc_ck, hc_gi, hc_gl, hc_gp, ap_I, ap_L, kd_I, kd_L, kd_P, kd_rI, ar_I, ar_L, ar_P, al_I, al_L, al_P, hop_s, cond_true, cond_false, pc_I_I, pc_L_L, pc_P_P, pc_I_L, pc_I_P, pc_L_I, pc_L_P, pc_P_I, pc_P_L, pc_sS_I, pc_sS_L, pc_sS_P, I_rI, L_rI, P_rI, S_rI, cv_r, ci_r, cl_r, o1_b, o1_0, o1_1, lc_e, nI_1, nI_add, if_true, if_false, Nat.reduceEqDiff, Nat.left_eq_add, Nat.add_eq_left, false_and, and_false, true_and, and_true, and_self, eq_self, Rf_k, bo_0, pd_t (show vi (q_M O B) (nI n) from ⟨n, hn, rfl⟩), Bool.true_eq_false, e_Rf_nodeOf_29, Rf_bad0 Hu zu, n_5, vi_inc, pd_t (show vi 6 (nI w) from ⟨w, hw, rfl⟩), Nat.reduceAdd, Rf_nd67 Cu Nu hn hw]
    · rw [g1_n v2]
      refine ⟨u, fW_t Wg Wu, Cu, zu, ?_⟩
      simp (disch := first | assumption | omega) only [hc_ck, hc_gi, hc_gl, hc_gp, ap_I, ap_L, kd_I, kd_L, kd_P, kd_rI, ar_I, ar_L, ar_P, al_I, al_L, al_P, hop_s, cond_true, cond_false, pc_I_I, pc_L_L, pc_P_P, pc_I_L, pc_I_P, pc_L_I, pc_L_P, pc_P_I, pc_P_L, pc_sS_I, pc_sS_L, pc_sS_P, I_rI, L_rI, P_rI, S_rI, cv_r, ci_r, cl_r, o1_b, o1_0, o1_1, lc_e, nI_1, nI_add, if_true, if_false, Nat.reduceEqDiff, Nat.left_eq_add, Nat.add_eq_left, false_and, and_false, true_and, and_true, and_self, eq_self, Rf_k, bo_0, pd_t (show vi (q_M O B) (nI n) from ⟨n, hn, rfl⟩), Bool.true_eq_false, e_Rf_nodeOf_29, Rf_bad0 Hu zu, n_5, vi_inc, pd_f v2, Nat.reduceAdd, b2, show ¬ (1 : Int32) = 0 by decide]
      rfl
  · rw [g1_n v1]
    refine ⟨u, fW_t Wg Wu, Cu, zu, ?_⟩
    simp (disch := first | assumption | omega) only [hc_ck, hc_gi, hc_gl, hc_gp, ap_I, ap_L, kd_I, kd_L, kd_P, kd_rI, ar_I, ar_L, ar_P, al_I, al_L, al_P, hop_s, cond_true, cond_false, pc_I_I, pc_L_L, pc_P_P, pc_I_L, pc_I_P, pc_L_I, pc_L_P, pc_P_I, pc_P_L, pc_sS_I, pc_sS_L, pc_sS_P, I_rI, L_rI, P_rI, S_rI, cv_r, ci_r, cl_r, o1_b, o1_0, o1_1, lc_e, nI_1, nI_add, if_true, if_false, Nat.reduceEqDiff, Nat.left_eq_add, Nat.add_eq_left, false_and, and_false, true_and, and_true, and_self, eq_self, Rf_k, bo_0, pd_f v1, e_Rf_nodeOf_29, b1, show ¬ (1 : Int32) = 0 by decide]
    rfl
theorem Rf_aboveAll {h : am_H} {f a : Nat} {O : o_T} {B : Nat → Prop} (C : RB h f O B) (N : RfN h f O B) (ha : a < o_N O) (d : Nat) : f_Rf_aboveAll d h f (nI a) = some (.inr (some (.int (wI (q_ab O B a)))), h) := by
  have H := C.1
  have ok := C.2.1.2.1
  have hN := ok.1
  have hM := q_Mle O B
  rw [e_Rf_aboveAll]
  simp (disch := first | assumption | omega) only [hc_ck, hc_gi, hc_gl, hc_gp, ap_I, ap_L, kd_I, kd_L, kd_P, kd_rI, ar_I, ar_L, ar_P, al_I, al_L, al_P, hop_s, cond_true, cond_false, pc_I_I, pc_L_L, pc_P_P, pc_I_L, pc_I_P, pc_L_I, pc_L_P, pc_P_I, pc_P_L, pc_sS_I, pc_sS_L, pc_sS_P, I_rI, L_rI, P_rI, S_rI, cv_r, ci_r, cl_r, o1_b, o1_0, o1_1, lc_e, nI_1, nI_add, if_true, if_false, Nat.reduceEqDiff, Nat.left_eq_add, Nat.add_eq_left, false_and, and_false, true_and, and_true, and_self, eq_self, Rf_k, Rf_p27, Rf_r1522, N.2.1 a ha]
  by_cases v : q_nv O B a
  · have hl := q_nolim v
    rw [if_pos (by rw [q_nc3 v]; exact (nI_leI (a := 0) (b := q_no O B a) (by omega) (by omega)).mpr (Nat.zero_le _)), q_nc3 v]
    simp (disch := first | assumption | omega) only [hc_ck, hc_gi, hc_gl, hc_gp, ap_I, ap_L, kd_I, kd_L, kd_P, kd_rI, ar_I, ar_L, ar_P, al_I, al_L, al_P, hop_s, cond_true, cond_false, pc_I_I, pc_L_L, pc_P_P, pc_I_L, pc_I_P, pc_L_I, pc_L_P, pc_P_I, pc_P_L, pc_sS_I, pc_sS_L, pc_sS_P, I_rI, L_rI, P_rI, S_rI, cv_r, ci_r, cl_r, o1_b, o1_0, o1_1, lc_e, nI_1, nI_add, if_true, if_false, Nat.reduceEqDiff, Nat.left_eq_add, Nat.add_eq_left, false_and, and_false, true_and, and_true, and_self, eq_self, Rf_k, Rf_p29, Rf_r1524, (N.2.2 _ hl).1]
    rw [wI_put (P := q_ov O B (q_no O B a)) (m := q_no O B a) (Q := q_ab O B a) (by omega) (fun k _ => ⟨fun e => e.2.elim Or.inr Or.inl, fun e => ⟨v, e.elim Or.inr Or.inl⟩⟩)]
  · rw [if_neg (fun e => by
      have := (q_nc0 (B := B) ok ha).mpr v
      rw [Int32.lt_iff_toInt_lt] at this
      rw [Int32.le_iff_toInt_le] at e
      omega)]
    rw [show wI (q_ab O B a) = 0 from wI_0.mpr (fun k _ e => v e.1)]
theorem wI_and (P Q : Nat → Prop) : wI P &&& wI Q = wI (fun k => P k ∧ Q k) := wI_of (fun k hk => by
  rw [yi_and, Bool.and_eq_true, wI_x, wI_x]
  exact ⟨fun c => ⟨c.1.2, c.2.2⟩, fun c => ⟨⟨hk, c.1⟩, ⟨hk, c.2⟩⟩⟩)
theorem Rf_q_common {h : am_H} {f : Nat} {O : o_T} {B : Nat → Prop} (C : RB h f O B) (i j : Int32) (d : Nat) : RR (f_Rf_common (d + 5) h f i j) h f O B cq2 (.int 0) (g1 (o_N O) i 0 fun a => g1 (o_N O) j 0 fun b => q_co O B a b) := by
  have H := C.1
  have ok := C.2.1.2.1
  have hN := ok.1
  have hM := q_Mle O B
  obtain ⟨g, e0, Cg, Wg, z0⟩ := RB_b C
  have Hg := Cg.1
  have b1 := Rf_bad1 Hg z0 (c := 1) (by decide) (E := 0) (by omega) (d + 4)
  rw [← n_0] at b1
  rw [e_Rf_common]
  simp (disch := first | assumption | omega) only [hc_ck, hc_gi, hc_gl, hc_gp, ap_I, ap_L, kd_I, kd_L, kd_P, kd_rI, ar_I, ar_L, ar_P, al_I, al_L, al_P, hop_s, cond_true, cond_false, pc_I_I, pc_L_L, pc_P_P, pc_I_L, pc_I_P, pc_L_I, pc_L_P, pc_P_I, pc_P_L, pc_sS_I, pc_sS_L, pc_sS_P, I_rI, L_rI, P_rI, S_rI, cv_r, ci_r, cl_r, o1_b, o1_0, o1_1, lc_e, nI_1, nI_add, if_true, if_false, Nat.reduceEqDiff, Nat.left_eq_add, Nat.add_eq_left, false_and, and_false, true_and, and_true, and_self, eq_self, Rf_k, e0, Rf_isN Cg]
  by_cases v1 : vi (o_N O) i
  · obtain ⟨a, ha, rfl⟩ := v1
    rw [g1_y (by omega) ha]
    by_cases v2 : vi (o_N O) j
    · obtain ⟨b, hb, rfl⟩ := v2
      rw [g1_y (by omega) hb]
      obtain ⟨u, eu, Wu, Cu, Lu, Nu, u0⟩ := Rf_ln Cg d
      have Hu := Cu.1
      have zu := u0.trans z0
      have b2 := Rf_bad1 Hu zu (c := 2) (by decide) (E := 2) (by omega) (d + 4)
      rw [← n_2] at b2
      have key : ∀ n, n ≤ q_M O B → f_Rf_common_95 (d + 5) u f (wI (fun n => q_ab O B a n ∧ q_ab O B b n)) (wI (fun m => m < n ∧ ((q_ab O B a m ∧ q_ab O B b m) ∧ ¬ ∃ q, (q_ab O B a q ∧ q_ab O B b q) ∧ q_ov O B q m))) (nI n) = some (.inr (some (.int (wI (fun n => (q_ab O B a n ∧ q_ab O B b n) ∧ ¬ ∃ q, (q_ab O B a q ∧ q_ab O B b q) ∧ q_ov O B q n)))), u) := by
        refine dn ?_ ?_
        · rw [e_Rf_common_95]
          simp (disch := first | assumption | omega) only [hc_ck, hc_gi, hc_gl, hc_gp, ap_I, ap_L, kd_I, kd_L, kd_P, kd_rI, ar_I, ar_L, ar_P, al_I, al_L, al_P, hop_s, cond_true, cond_false, pc_I_I, pc_L_L, pc_P_P, pc_I_L, pc_I_P, pc_L_I, pc_L_P, pc_P_I, pc_P_L, pc_sS_I, pc_sS_L, pc_sS_P, I_rI, L_rI, P_rI, S_rI, cv_r, ci_r, cl_r, o1_b, o1_0, o1_1, lc_e, nI_1, nI_add, if_true, if_false, Nat.reduceEqDiff, Nat.left_eq_add, Nat.add_eq_left, false_and, and_false, true_and, and_true, and_self, eq_self, Rf_k, Nu.1, n_le, Nat.le_refl]
          apply ri_e
          refine wI_cong (fun k _ => ⟨And.right, fun e => ⟨?_, e⟩⟩)
          rcases e.1.1.2 with q | q
          · rw [q]; exact q_nolim e.1.1.1
          · exact q.2.1
        · intro n hn ih
          have hn3 : ¬ q_M O B ≤ n := by omega
          rw [e_Rf_common_95]
          simp (disch := first | assumption | omega) only [hc_ck, hc_gi, hc_gl, hc_gp, ap_I, ap_L, kd_I, kd_L, kd_P, kd_rI, ar_I, ar_L, ar_P, al_I, al_L, al_P, hop_s, cond_true, cond_false, pc_I_I, pc_L_L, pc_P_P, pc_I_L, pc_I_P, pc_L_I, pc_L_P, pc_P_I, pc_P_L, pc_sS_I, pc_sS_L, pc_sS_P, I_rI, L_rI, P_rI, S_rI, cv_r, ci_r, cl_r, o1_b, o1_0, o1_1, lc_e, nI_1, nI_add, if_true, if_false, Nat.reduceEqDiff, Nat.left_eq_add, Nat.add_eq_left, false_and, and_false, true_and, and_true, and_self, eq_self, Rf_k, Nu.1, n_le, hn3, Rf_hasI, bo_0]
          by_cases c : q_ab O B a n ∧ q_ab O B b n
          · simp (disch := first | assumption | omega) only [yi_wt (P := fun n => q_ab O B a n ∧ q_ab O B b n) (show n < 32 by omega) c, Bool.true_eq_false, hc_ck, hc_gi, hc_gl, hc_gp, ap_I, ap_L, kd_I, kd_L, kd_P, kd_rI, ar_I, ar_L, ar_P, al_I, al_L, al_P, hop_s, cond_true, cond_false, pc_I_I, pc_L_L, pc_P_P, pc_I_L, pc_I_P, pc_L_I, pc_L_P, pc_P_I, pc_P_L, pc_sS_I, pc_sS_L, pc_sS_P, I_rI, L_rI, P_rI, S_rI, cv_r, ci_r, cl_r, o1_b, o1_0, o1_1, lc_e, nI_1, nI_add, if_true, if_false, Nat.reduceEqDiff, Nat.left_eq_add, Nat.add_eq_left, false_and, and_false, true_and, and_true, and_self, eq_self, Rf_k, Rf_p32, Rf_r1527, (Nu.2.2 n hn).2.2.2.1]
            by_cases c3 : ∃ q, (q_ab O B a q ∧ q_ab O B b q) ∧ q_ov O B q n
            · rw [if_neg (by
                rw [wI_a0]
                obtain ⟨q, q1, q2⟩ := (h_common (q_t O B)).mp c3
                exact fun e => e ⟨q, by have := q2.1.1; unfold q_M at hM; omega, q1, q2⟩), Int32.or_zero]
              rw [wc_n (Q := fun m => (q_ab O B a m ∧ q_ab O B b m) ∧ ¬ ∃ q, (q_ab O B a q ∧ q_ab O B b q) ∧ q_ov O B q m) (fun e => e.2 c3)]
              exact ih
            · rw [if_pos (by
                rw [wI_a0]
                rintro ⟨q, -, q1, q2⟩
                exact c3 ((h_common (q_t O B)).mpr ⟨q, q1, q2⟩))]
              rw [wc_y (Q := fun m => (q_ab O B a m ∧ q_ab O B b m) ∧ ¬ ∃ q, (q_ab O B a q ∧ q_ab O B b q) ∧ q_ov O B q m) (by omega) ⟨c, c3⟩]
              exact ih
          · simp (disch := first | assumption | omega) only [yi_wf (P := fun n => q_ab O B a n ∧ q_ab O B b n) (show n < 32 by omega) c, if_true, Int32.or_zero]
            rw [wc_n (Q := fun m => (q_ab O B a m ∧ q_ab O B b m) ∧ ¬ ∃ q, (q_ab O B a q ∧ q_ab O B b q) ∧ q_ov O B q m) (fun e => c e.1)]
            exact ih
      have key := key 0 (Nat.zero_le _)
      rw [wc_0] at key
      refine ⟨u, fW_t Wg Wu, Cu, zu, ?_⟩
      simp only [bo_0, pd_t (show vi (o_N O) (nI a) from ⟨a, ha, rfl⟩), pd_t (show vi (o_N O) (nI b) from ⟨b, hb, rfl⟩), Bool.true_eq_false, if_false, Rf_k Hg, cond_true]
      rw [e_Rf_common_27]
      simp (disch := first | assumption | omega) only [hc_ck, hc_gi, hc_gl, hc_gp, ap_I, ap_L, kd_I, kd_L, kd_P, kd_rI, ar_I, ar_L, ar_P, al_I, al_L, al_P, hop_s, cond_true, cond_false, pc_I_I, pc_L_L, pc_P_P, pc_I_L, pc_I_P, pc_L_I, pc_L_P, pc_P_I, pc_P_L, pc_sS_I, pc_sS_L, pc_sS_P, I_rI, L_rI, P_rI, S_rI, cv_r, ci_r, cl_r, o1_b, o1_0, o1_1, lc_e, nI_1, nI_add, if_true, if_false, Nat.reduceEqDiff, Nat.left_eq_add, Nat.add_eq_left, false_and, and_false, true_and, and_true, and_self, eq_self, Rf_k, Rf_bad0 Hg z0, eu, Rf_p27, Rf_r1522, Nu.2.1 a ha, Nu.2.1 b hb]
      simp (disch := first | assumption | omega) only [hc_ck, hc_gi, hc_gl, hc_gp, ap_I, ap_L, kd_I, kd_L, kd_P, kd_rI, ar_I, ar_L, ar_P, al_I, al_L, al_P, hop_s, cond_true, cond_false, pc_I_I, pc_L_L, pc_P_P, pc_I_L, pc_I_P, pc_L_I, pc_L_P, pc_P_I, pc_P_L, pc_sS_I, pc_sS_L, pc_sS_P, I_rI, L_rI, P_rI, S_rI, cv_r, ci_r, cl_r, o1_b, o1_0, o1_1, lc_e, nI_1, nI_add, if_true, if_false, Nat.reduceEqDiff, Nat.left_eq_add, Nat.add_eq_left, false_and, and_false, true_and, and_true, and_self, eq_self, Rf_k, b2, Rf_bad0 Hu zu, Rf_aboveAll Cu Nu ha, Rf_aboveAll Cu Nu hb, wI_and, show ¬ (1 : Int32) = 0 by decide]
      unfold q_co
      by_cases c1 : q_vo O B a
      · rw [if_pos ((q_nc_v ok ha).mpr c1), if_pos (Or.inl c1)]
        rfl
      · rw [if_neg (fun e => c1 ((q_nc_v ok ha).mp e))]
        by_cases c3 : q_vo O B b
        · rw [if_pos ((q_nc_v ok hb).mpr c3), if_pos (Or.inr c3)]
          rfl
        · rw [if_neg (fun e => c3 ((q_nc_v ok hb).mp e)), if_neg (fun e => e.elim c1 c3)]
          exact key
    · rw [g1_n v2]
      refine ⟨g, Wg, Cg, z0, ?_⟩
      simp (disch := first | assumption | omega) only [hc_ck, hc_gi, hc_gl, hc_gp, ap_I, ap_L, kd_I, kd_L, kd_P, kd_rI, ar_I, ar_L, ar_P, al_I, al_L, al_P, hop_s, cond_true, cond_false, pc_I_I, pc_L_L, pc_P_P, pc_I_L, pc_I_P, pc_L_I, pc_L_P, pc_P_I, pc_P_L, pc_sS_I, pc_sS_L, pc_sS_P, I_rI, L_rI, P_rI, S_rI, cv_r, ci_r, cl_r, o1_b, o1_0, o1_1, lc_e, nI_1, nI_add, if_true, if_false, Nat.reduceEqDiff, Nat.left_eq_add, Nat.add_eq_left, false_and, and_false, true_and, and_true, and_self, eq_self, Rf_k, bo_0, pd_t (show vi (o_N O) (nI a) from ⟨a, ha, rfl⟩), pd_f v2, Bool.true_eq_false, e_Rf_common_27, b1, show ¬ (1 : Int32) = 0 by decide]
      rfl
  · rw [g1_n v1]
    refine ⟨g, Wg, Cg, z0, ?_⟩
    simp (disch := first | assumption | omega) only [hc_ck, hc_gi, hc_gl, hc_gp, ap_I, ap_L, kd_I, kd_L, kd_P, kd_rI, ar_I, ar_L, ar_P, al_I, al_L, al_P, hop_s, cond_true, cond_false, pc_I_I, pc_L_L, pc_P_P, pc_I_L, pc_I_P, pc_L_I, pc_L_P, pc_P_I, pc_P_L, pc_sS_I, pc_sS_L, pc_sS_P, I_rI, L_rI, P_rI, S_rI, cv_r, ci_r, cl_r, o1_b, o1_0, o1_1, lc_e, nI_1, nI_add, if_true, if_false, Nat.reduceEqDiff, Nat.left_eq_add, Nat.add_eq_left, false_and, and_false, true_and, and_true, and_self, eq_self, Rf_k, bo_0, pd_f v1, e_Rf_common_27, b1, show ¬ (1 : Int32) = 0 by decide]
    rfl
