/-! ===== reasons: the reference ===== -/
theorem fRr_0 {f : Nat} {h h' : am_H} (q : fRr f h h') : am_I h' f 0 = am_I h f 0 := q.2.2.2.2.2.1 0 (by omega) (by omega) (by omega)
theorem RB_64 {h : am_H} {f : Nat} {O : o_T} {B : Nat → Prop} (C : RB h f O B) : ∀ k, B k → k < 64 := fun k c => by
  have := C.2.2.2.1 k c
  have := C.2.1.2.1.2.2.2.2.1
  omega
theorem Rf_so {h : am_H} {f a b : Nat} {O : o_T} {B : Nat → Prop} (C : RB h f O B) (ha : a < o_N O) (hb : b < o_N O) (S : Nat → Prop) (d : Nat) : ∃ h', f_Rf_isSo (d + 4) h f (wL S) (nI a) (nI b) = some (.inr (some (.int (bo (pd (l_be O S (o_np O a) (o_np O b)))))), h') ∧ fRr f h h' ∧ am_I h' f 14 = 0 := by
  obtain ⟨g, t, eg, qg, g14, ht⟩ := Rf_isSo (RB_Q C) ha hb S d
  refine ⟨g, ?_, fCl_Rr qg (Or.inl g14), g14⟩
  rw [eg, pd_e ht]
theorem Rf_q_needed {h : am_H} {f : Nat} {O : o_T} {B : Nat → Prop} (C : RB h f O B) (i j : Int32) (d : Nat) : RR (f_Rf_needed (d + 6) h f i j) h f O B (fun _ => 1) (.long 0) (g1 (o_N O) i 0 fun a => g1 (o_N O) j 0 fun b => .inr (.long (q_need O B (o_np O a) (o_np O b)))) := by
  have H := C.1
  have hN := C.2.1.2.1.1
  obtain ⟨g, e0, Cg, Wg, z0⟩ := RB_b C
  have Hg := Cg.1
  have b1 := Rf_bad1 Hg z0 (c := 1) (by decide) (E := 0) (by omega) (d + 5)
  rw [← n_0] at b1
  rw [e_Rf_needed]
  simp (disch := first | assumption | omega) only [hc_ck, hc_gi, hc_gl, hc_gp, ap_I, ap_L, kd_I, kd_L, kd_P, kd_rI, ar_I, ar_L, ar_P, al_I, al_L, al_P, hop_s, cond_true, cond_false, pc_I_I, pc_L_L, pc_P_P, pc_I_L, pc_I_P, pc_L_I, pc_L_P, pc_P_I, pc_P_L, pc_sS_I, pc_sS_L, pc_sS_P, I_rI, L_rI, P_rI, S_rI, cv_r, ci_r, cl_r, o1_b, o1_0, o1_1, lc_e, nI_1, nI_add, if_true, if_false, Nat.reduceEqDiff, Nat.left_eq_add, Nat.add_eq_left, false_and, and_false, true_and, and_true, and_self, eq_self, Rf_k, e0, Rf_isN Cg]
  by_cases v1 : vi (o_N O) i
  · obtain ⟨a, ha, rfl⟩ := v1
    rw [g1_y (by omega) ha]
    by_cases v2 : vi (o_N O) j
    · obtain ⟨b, hb, rfl⟩ := v2
      rw [g1_y (by omega) hb]
      obtain ⟨u, eu, qu, u14⟩ := Rf_so Cg ha hb B (d + 1)
      have Cu := RB_Rr Cg qu
      simp only [bo_0, pd_t (show vi (o_N O) (nI a) from ⟨a, ha, rfl⟩), pd_t (show vi (o_N O) (nI b) from ⟨b, hb, rfl⟩), Bool.true_eq_false, if_false, Rf_k Hg, cond_true]
      simp (disch := first | assumption | omega) only [hc_ck, hc_gi, hc_gl, hc_gp, ap_I, ap_L, kd_I, kd_L, kd_P, kd_rI, ar_I, ar_L, ar_P, al_I, al_L, al_P, hop_s, cond_true, cond_false, pc_I_I, pc_L_L, pc_P_P, pc_I_L, pc_I_P, pc_L_I, pc_L_P, pc_P_I, pc_P_L, pc_sS_I, pc_sS_L, pc_sS_P, I_rI, L_rI, P_rI, S_rI, cv_r, ci_r, cl_r, o1_b, o1_0, o1_1, lc_e, nI_1, nI_add, if_true, if_false, Nat.reduceEqDiff, Nat.left_eq_add, Nat.add_eq_left, false_and, and_false, true_and, and_true, and_self, eq_self, Rf_k, Rf_bad0 Hg z0, Cg.2.2.1, eu, bo_0]
      by_cases s : l_be O B (o_np O a) (o_np O b)
      · obtain ⟨v, ev, qv, zv⟩ := Rf_needed57 (RB_Q Cu) ha hb (d + 1)
        have qv := fCl_Rr qv (Or.inl (zv u14))
        refine ⟨v, fW_t Wg (fRr_W (fRr_t qu qv)), RB_Rr Cu qv, ?_, ?_⟩
        · rw [fRr_0 qv, fRr_0 qu]; exact z0
        · simp only [pd_t s, Bool.true_eq_false, if_false, ev]
          rw [show q_need O B (o_np O a) (o_np O b) = _ from wL_cong (fun k _ => ⟨fun e => e.2, fun e => ⟨s, e⟩⟩)]
      · refine ⟨u, fW_t Wg (fRr_W qu), Cu, (fRr_0 qu).trans z0, ?_⟩
        simp only [pd_f s, if_true]
        rw [show q_need O B (o_np O a) (o_np O b) = 0 from wL_0.mpr (fun k _ e => s e.1)]
    · rw [g1_n v2]
      refine ⟨g, Wg, Cg, z0, ?_⟩
      simp (disch := first | assumption | omega) only [hc_ck, hc_gi, hc_gl, hc_gp, ap_I, ap_L, kd_I, kd_L, kd_P, kd_rI, ar_I, ar_L, ar_P, al_I, al_L, al_P, hop_s, cond_true, cond_false, pc_I_I, pc_L_L, pc_P_P, pc_I_L, pc_I_P, pc_L_I, pc_L_P, pc_P_I, pc_P_L, pc_sS_I, pc_sS_L, pc_sS_P, I_rI, L_rI, P_rI, S_rI, cv_r, ci_r, cl_r, o1_b, o1_0, o1_1, lc_e, nI_1, nI_add, if_true, if_false, Nat.reduceEqDiff, Nat.left_eq_add, Nat.add_eq_left, false_and, and_false, true_and, and_true, and_self, eq_self, Rf_k, bo_0, pd_t (show vi (o_N O) (nI a) from ⟨a, ha, rfl⟩), pd_f v2, Bool.true_eq_false, b1, show ¬ (1 : Int32) = 0 by decide]
  · rw [g1_n v1]
    refine ⟨g, Wg, Cg, z0, ?_⟩
    simp (disch := first | assumption | omega) only [hc_ck, hc_gi, hc_gl, hc_gp, ap_I, ap_L, kd_I, kd_L, kd_P, kd_rI, ar_I, ar_L, ar_P, al_I, al_L, al_P, hop_s, cond_true, cond_false, pc_I_I, pc_L_L, pc_P_P, pc_I_L, pc_I_P, pc_L_I, pc_L_P, pc_P_I, pc_P_L, pc_sS_I, pc_sS_L, pc_sS_P, I_rI, L_rI, P_rI, S_rI, cv_r, ci_r, cl_r, o1_b, o1_0, o1_1, lc_e, nI_1, nI_add, if_true, if_false, Nat.reduceEqDiff, Nat.left_eq_add, Nat.add_eq_left, false_and, and_false, true_and, and_true, and_self, eq_self, Rf_k, bo_0, pd_f v1, b1, show ¬ (1 : Int32) = 0 by decide]
theorem Rf_q_enough {h : am_H} {f : Nat} {O : o_T} {B : Nat → Prop} (C : RB h f O B) (i j : Int32) (d : Nat) : RR (f_Rf_enough (d + 6) h f i j) h f O B (fun _ => 1) (.long 0) (g1 (o_N O) i 0 fun a => g1 (o_N O) j 0 fun b => .inr (.long (q_en O B (o_np O a) (o_np O b)))) := by
  have H := C.1
  have hN := C.2.1.2.1.1
  obtain ⟨g, e0, Cg, Wg, z0⟩ := RB_b C
  have Hg := Cg.1
  have b1 := Rf_bad1 Hg z0 (c := 1) (by decide) (E := 0) (by omega) (d + 5)
  rw [← n_0] at b1
  rw [e_Rf_enough]
  simp (disch := first | assumption | omega) only [hc_ck, hc_gi, hc_gl, hc_gp, ap_I, ap_L, kd_I, kd_L, kd_P, kd_rI, ar_I, ar_L, ar_P, al_I, al_L, al_P, hop_s, cond_true, cond_false, pc_I_I, pc_L_L, pc_P_P, pc_I_L, pc_I_P, pc_L_I, pc_L_P, pc_P_I, pc_P_L, pc_sS_I, pc_sS_L, pc_sS_P, I_rI, L_rI, P_rI, S_rI, cv_r, ci_r, cl_r, o1_b, o1_0, o1_1, lc_e, nI_1, nI_add, if_true, if_false, Nat.reduceEqDiff, Nat.left_eq_add, Nat.add_eq_left, false_and, and_false, true_and, and_true, and_self, eq_self, Rf_k, e0, Rf_isN Cg]
  by_cases v1 : vi (o_N O) i
  · obtain ⟨a, ha, rfl⟩ := v1
    rw [g1_y (by omega) ha]
    by_cases v2 : vi (o_N O) j
    · obtain ⟨b, hb, rfl⟩ := v2
      rw [g1_y (by omega) hb]
      obtain ⟨u, eu, qu, u14⟩ := Rf_so Cg ha hb B (d + 1)
      have Cu := RB_Rr Cg qu
      have Hu := Cu.1
      simp only [bo_0, pd_t (show vi (o_N O) (nI a) from ⟨a, ha, rfl⟩), pd_t (show vi (o_N O) (nI b) from ⟨b, hb, rfl⟩), Bool.true_eq_false, if_false, Rf_k Hg, cond_true]
      rw [e_Rf_enough_27]
      simp (disch := first | assumption | omega) only [hc_ck, hc_gi, hc_gl, hc_gp, ap_I, ap_L, kd_I, kd_L, kd_P, kd_rI, ar_I, ar_L, ar_P, al_I, al_L, al_P, hop_s, cond_true, cond_false, pc_I_I, pc_L_L, pc_P_P, pc_I_L, pc_I_P, pc_L_I, pc_L_P, pc_P_I, pc_P_L, pc_sS_I, pc_sS_L, pc_sS_P, I_rI, L_rI, P_rI, S_rI, cv_r, ci_r, cl_r, o1_b, o1_0, o1_1, lc_e, nI_1, nI_add, if_true, if_false, Nat.reduceEqDiff, Nat.left_eq_add, Nat.add_eq_left, false_and, and_false, true_and, and_true, and_self, eq_self, Rf_k, Rf_bad0 Hg z0, Cg.2.2.1, eu, bo_0, Cu.2.2.1]
      by_cases s : l_be O B (o_np O a) (o_np O b)
      · obtain ⟨v, ev, qv, zv⟩ := Rf_leaves (RB_Q Cu) ha hb B d
        have qv := fCl_Rr qv zv
        refine ⟨v, fW_t Wg (fRr_W (fRr_t qu qv)), RB_Rr Cu qv, ?_, ?_⟩
        · rw [fRr_0 qv, fRr_0 qu]; exact z0
        · simp only [pd_t s, Bool.true_eq_false, if_false, ev, cl_r]
          rw [show q_en O B (o_np O a) (o_np O b) = _ from if_pos s]
      · refine ⟨u, fW_t Wg (fRr_W qu), Cu, (fRr_0 qu).trans z0, ?_⟩
        simp only [pd_f s, if_true]
        rw [show q_en O B (o_np O a) (o_np O b) = -1 from if_neg s]
    · rw [g1_n v2]
      refine ⟨g, Wg, Cg, z0, ?_⟩
      simp (disch := first | assumption | omega) only [hc_ck, hc_gi, hc_gl, hc_gp, ap_I, ap_L, kd_I, kd_L, kd_P, kd_rI, ar_I, ar_L, ar_P, al_I, al_L, al_P, hop_s, cond_true, cond_false, pc_I_I, pc_L_L, pc_P_P, pc_I_L, pc_I_P, pc_L_I, pc_L_P, pc_P_I, pc_P_L, pc_sS_I, pc_sS_L, pc_sS_P, I_rI, L_rI, P_rI, S_rI, cv_r, ci_r, cl_r, o1_b, o1_0, o1_1, lc_e, nI_1, nI_add, if_true, if_false, Nat.reduceEqDiff, Nat.left_eq_add, Nat.add_eq_left, false_and, and_false, true_and, and_true, and_self, eq_self, Rf_k, bo_0, pd_t (show vi (o_N O) (nI a) from ⟨a, ha, rfl⟩), pd_f v2, Bool.true_eq_false, e_Rf_enough_27, b1, show ¬ (1 : Int32) = 0 by decide]
  · rw [g1_n v1]
    refine ⟨g, Wg, Cg, z0, ?_⟩
    simp (disch := first | assumption | omega) only [hc_ck, hc_gi, hc_gl, hc_gp, ap_I, ap_L, kd_I, kd_L, kd_P, kd_rI, ar_I, ar_L, ar_P, al_I, al_L, al_P, hop_s, cond_true, cond_false, pc_I_I, pc_L_L, pc_P_P, pc_I_L, pc_I_P, pc_L_I, pc_L_P, pc_P_I, pc_P_L, pc_sS_I, pc_sS_L, pc_sS_P, I_rI, L_rI, P_rI, S_rI, cv_r, ci_r, cl_r, o1_b, o1_0, o1_1, lc_e, nI_1, nI_add, if_true, if_false, Nat.reduceEqDiff, Nat.left_eq_add, Nat.add_eq_left, false_and, and_false, true_and, and_true, and_self, eq_self, Rf_k, bo_0, pd_f v1, e_Rf_enough_27, b1, show ¬ (1 : Int32) = 0 by decide]
theorem Rf_q_reason {h : am_H} {f : Nat} {O : o_T} {B : Nat → Prop} (C : RB h f O B) (i j k : Int32) (d : Nat) : RR (f_Rf_reason (d + 41) h f i j k) h f O B (fun _ => 1) (.long 0) (g1 (o_N O) i 0 fun a => g1 (o_N O) j 0 fun b => .inr (.long (q_rs O B (o_np O a) (o_np O b) k))) := by
  have H := C.1
  have hN := C.2.1.2.1.1
  obtain ⟨g, e0, Cg, Wg, z0⟩ := RB_b C
  have Hg := Cg.1
  have b1 := Rf_bad1 Hg z0 (c := 1) (by decide) (E := 0) (by omega) (d + 40)
  rw [← n_0] at b1
  rw [e_Rf_reason]
  simp (disch := first | assumption | omega) only [hc_ck, hc_gi, hc_gl, hc_gp, ap_I, ap_L, kd_I, kd_L, kd_P, kd_rI, ar_I, ar_L, ar_P, al_I, al_L, al_P, hop_s, cond_true, cond_false, pc_I_I, pc_L_L, pc_P_P, pc_I_L, pc_I_P, pc_L_I, pc_L_P, pc_P_I, pc_P_L, pc_sS_I, pc_sS_L, pc_sS_P, I_rI, L_rI, P_rI, S_rI, cv_r, ci_r, cl_r, o1_b, o1_0, o1_1, lc_e, nI_1, nI_add, if_true, if_false, Nat.reduceEqDiff, Nat.left_eq_add, Nat.add_eq_left, false_and, and_false, true_and, and_true, and_self, eq_self, Rf_k, e0, Rf_isN Cg]
  by_cases v1 : vi (o_N O) i
  · obtain ⟨a, ha, rfl⟩ := v1
    rw [g1_y (by omega) ha]
    by_cases v2 : vi (o_N O) j
    · obtain ⟨b, hb, rfl⟩ := v2
      rw [g1_y (by omega) hb]
      simp only [bo_0, pd_t (show vi (o_N O) (nI a) from ⟨a, ha, rfl⟩), pd_t (show vi (o_N O) (nI b) from ⟨b, hb, rfl⟩), Bool.true_eq_false, if_false, Rf_k Hg, cond_true]
      rw [e_Rf_reason_27]
      by_cases c0 : -1 ≤ k
      · obtain ⟨u, n, r, eu, qu, un, ur, mL⟩ := Rf_laysReasons (RB_Q Cg) Cg.2.2.2.1 ha hb d
        have Cu := RB_Rr Cg qu
        have Hu := Cu.1
        have eN := q_rn_e (RB_64 C) mL
        have n5 := mL.1
        refine ⟨u, fW_t Wg (fRr_W qu), Cu, (fRr_0 qu).trans z0, ?_⟩
        simp (disch := first | assumption | omega) only [hc_ck, hc_gi, hc_gl, hc_gp, ap_I, ap_L, kd_I, kd_L, kd_P, kd_rI, ar_I, ar_L, ar_P, al_I, al_L, al_P, hop_s, cond_true, cond_false, pc_I_I, pc_L_L, pc_P_P, pc_I_L, pc_I_P, pc_L_I, pc_L_P, pc_P_I, pc_P_L, pc_sS_I, pc_sS_L, pc_sS_P, I_rI, L_rI, P_rI, S_rI, cv_r, ci_r, cl_r, o1_b, o1_0, o1_1, lc_e, nI_1, nI_add, if_true, if_false, Nat.reduceEqDiff, Nat.left_eq_add, Nat.add_eq_left, false_and, and_false, true_and, and_true, and_self, eq_self, Rf_k, Rf_bad0 Hg z0, c0, eu, bo_0, un, Rf_p35]
        by_cases c4 : n ≤ 4
        · simp only [decide_eq_true c4, Bool.true_eq_false, if_false]
          by_cases c1 : k = -1
          · rw [if_pos c1, q_rs_m c1, eN, if_pos c4]
          · rw [if_neg c1]
            have c3 : ¬ k < 0 := fun e => by
              rw [Int32.lt_iff_toInt_lt, show (0 : Int32).toInt = 0 from rfl] at e
              rw [Int32.le_iff_toInt_le, show (-1 : Int32).toInt = -1 by decide] at c0
              exact c1 (Int32.toInt_inj.mp (by rw [show (-1 : Int32).toInt = -1 by decide]; omega))
            by_cases v : vi n k
            · obtain ⟨t, ht, rfl⟩ := v
              simp (disch := first | assumption | omega) only [n_le, show ¬ n ≤ t by omega, if_false]
              rw [Rf_r1529 Hu (by omega), ur t ht, q_rs_y (by omega) (by omega), q_rw_e (RB_64 C) mL c4 ht]
            · rw [q_rs_n c1 (fun e => v (eN ▸ e.1)), if_pos]
              have := vi_n (by omega) v c3
              rw [Int32.lt_iff_toInt_lt] at this
              rw [Int32.le_iff_toInt_le]
              omega
        · simp only [decide_eq_false c4, if_true]
          by_cases c1 : k = -1
          · rw [if_pos c1, q_rs_m c1, eN, if_neg c4]
          · rw [if_neg c1, q_rs_n c1 (fun e => c4 (by omega))]
      · refine ⟨g, Wg, Cg, z0, ?_⟩
        simp (disch := first | assumption | omega) only [hc_ck, hc_gi, hc_gl, hc_gp, ap_I, ap_L, kd_I, kd_L, kd_P, kd_rI, ar_I, ar_L, ar_P, al_I, al_L, al_P, hop_s, cond_true, cond_false, pc_I_I, pc_L_L, pc_P_P, pc_I_L, pc_I_P, pc_L_I, pc_L_P, pc_P_I, pc_P_L, pc_sS_I, pc_sS_L, pc_sS_P, I_rI, L_rI, P_rI, S_rI, cv_r, ci_r, cl_r, o1_b, o1_0, o1_1, lc_e, nI_1, nI_add, if_true, if_false, Nat.reduceEqDiff, Nat.left_eq_add, Nat.add_eq_left, false_and, and_false, true_and, and_true, and_self, eq_self, Rf_k, Rf_bad0 Hg z0, c0]
        rw [q_rs_n (fun e => c0 (by rw [e]; decide)) (fun e => by
          obtain ⟨⟨t, t1, t2⟩, t3⟩ := e
          refine c0 ?_
          rw [t2, Int32.le_iff_toInt_le, nI_toInt (by omega), show (-1 : Int32).toInt = -1 by decide]
          omega)]
    · rw [g1_n v2]
      refine ⟨g, Wg, Cg, z0, ?_⟩
      simp (disch := first | assumption | omega) only [hc_ck, hc_gi, hc_gl, hc_gp, ap_I, ap_L, kd_I, kd_L, kd_P, kd_rI, ar_I, ar_L, ar_P, al_I, al_L, al_P, hop_s, cond_true, cond_false, pc_I_I, pc_L_L, pc_P_P, pc_I_L, pc_I_P, pc_L_I, pc_L_P, pc_P_I, pc_P_L, pc_sS_I, pc_sS_L, pc_sS_P, I_rI, L_rI, P_rI, S_rI, cv_r, ci_r, cl_r, o1_b, o1_0, o1_1, lc_e, nI_1, nI_add, if_true, if_false, Nat.reduceEqDiff, Nat.left_eq_add, Nat.add_eq_left, false_and, and_false, true_and, and_true, and_self, eq_self, Rf_k, bo_0, pd_t (show vi (o_N O) (nI a) from ⟨a, ha, rfl⟩), pd_f v2, Bool.true_eq_false, e_Rf_reason_27, b1, show ¬ (1 : Int32) = 0 by decide]
  · rw [g1_n v1]
    refine ⟨g, Wg, Cg, z0, ?_⟩
    simp (disch := first | assumption | omega) only [hc_ck, hc_gi, hc_gl, hc_gp, ap_I, ap_L, kd_I, kd_L, kd_P, kd_rI, ar_I, ar_L, ar_P, al_I, al_L, al_P, hop_s, cond_true, cond_false, pc_I_I, pc_L_L, pc_P_P, pc_I_L, pc_I_P, pc_L_I, pc_L_P, pc_P_I, pc_P_L, pc_sS_I, pc_sS_L, pc_sS_P, I_rI, L_rI, P_rI, S_rI, cv_r, ci_r, cl_r, o1_b, o1_0, o1_1, lc_e, nI_1, nI_add, if_true, if_false, Nat.reduceEqDiff, Nat.left_eq_add, Nat.add_eq_left, false_and, and_false, true_and, and_true, and_self, eq_self, Rf_k, bo_0, pd_f v1, e_Rf_reason_27, b1, show ¬ (1 : Int32) = 0 by decide]
theorem Rf_q_repair {h : am_H} {f : Nat} {O : o_T} {B : Nat → Prop} (C : RB h f O B) (i j : Int32) (d : Nat) : RR (f_Rf_repair (d + 41) h f i j) h f O B (fun _ => 1) (.long 0) (g1 (o_N O) i 0 fun a => g1 (o_N O) j 0 fun b => .inr (.long (q_fix O B (o_np O a) (o_np O b)))) := by
  have H := C.1
  have hN := C.2.1.2.1.1
  obtain ⟨g, e0, Cg, Wg, z0⟩ := RB_b C
  have Hg := Cg.1
  have b1 := Rf_bad1 Hg z0 (c := 1) (by decide) (E := 0) (by omega) (d + 40)
  rw [← n_0] at b1
  rw [e_Rf_repair]
  simp (disch := first | assumption | omega) only [hc_ck, hc_gi, hc_gl, hc_gp, ap_I, ap_L, kd_I, kd_L, kd_P, kd_rI, ar_I, ar_L, ar_P, al_I, al_L, al_P, hop_s, cond_true, cond_false, pc_I_I, pc_L_L, pc_P_P, pc_I_L, pc_I_P, pc_L_I, pc_L_P, pc_P_I, pc_P_L, pc_sS_I, pc_sS_L, pc_sS_P, I_rI, L_rI, P_rI, S_rI, cv_r, ci_r, cl_r, o1_b, o1_0, o1_1, lc_e, nI_1, nI_add, if_true, if_false, Nat.reduceEqDiff, Nat.left_eq_add, Nat.add_eq_left, false_and, and_false, true_and, and_true, and_self, eq_self, Rf_k, e0, Rf_isN Cg]
  by_cases v1 : vi (o_N O) i
  · obtain ⟨a, ha, rfl⟩ := v1
    rw [g1_y (by omega) ha]
    by_cases v2 : vi (o_N O) j
    · obtain ⟨b, hb, rfl⟩ := v2
      rw [g1_y (by omega) hb]
      simp only [bo_0, pd_t (show vi (o_N O) (nI a) from ⟨a, ha, rfl⟩), pd_t (show vi (o_N O) (nI b) from ⟨b, hb, rfl⟩), Bool.true_eq_false, if_false, Rf_k Hg, cond_true]
      obtain ⟨u, eu, qu, u14⟩ := Rf_so Cg ha hb B (d + 36)
      have Cu := RB_Rr Cg qu
      have Hu := Cu.1
      obtain ⟨v, ev, qv, v14⟩ := Rf_so Cu ha hb (fun _ => False) (d + 36)
      have Cv := RB_Rr Cu qv
      have Hv := Cv.1
      rw [show wL (fun _ => False) = 0 from wL_0.mpr (fun _ _ => id)] at ev
      rw [e_Rf_repair_27]
      simp (disch := first | assumption | omega) only [hc_ck, hc_gi, hc_gl, hc_gp, ap_I, ap_L, kd_I, kd_L, kd_P, kd_rI, ar_I, ar_L, ar_P, al_I, al_L, al_P, hop_s, cond_true, cond_false, pc_I_I, pc_L_L, pc_P_P, pc_I_L, pc_I_P, pc_L_I, pc_L_P, pc_P_I, pc_P_L, pc_sS_I, pc_sS_L, pc_sS_P, I_rI, L_rI, P_rI, S_rI, cv_r, ci_r, cl_r, o1_b, o1_0, o1_1, lc_e, nI_1, nI_add, if_true, if_false, Nat.reduceEqDiff, Nat.left_eq_add, Nat.add_eq_left, false_and, and_false, true_and, and_true, and_self, eq_self, Rf_k, Rf_bad0 Hg z0, Cg.2.2.1, eu, ev, bo_0]
      unfold q_fix
      by_cases s : l_be O B (o_np O a) (o_np O b)
      · by_cases z : l_be O (fun _ => False) (o_np O a) (o_np O b)
        · refine ⟨v, fW_t Wg (fRr_W (fRr_t qu qv)), Cv, ?_, ?_⟩
          · rw [fRr_0 qv, fRr_0 qu]; exact z0
          · simp only [pd_t s, pd_t z, Bool.true_eq_false, if_false]
            rw [if_pos s, if_pos z]
        · obtain ⟨w, n, r, ew, qw, wn, wr, mL⟩ := Rf_laysReasons (RB_Q Cv) Cv.2.2.2.1 ha hb d
          have Cw := RB_Rr Cv qw
          have Hw := Cw.1
          have eN := q_rn_e (RB_64 C) mL
          have n5 := mL.1
          simp (disch := first | assumption | omega) only [hc_ck, hc_gi, hc_gl, hc_gp, ap_I, ap_L, kd_I, kd_L, kd_P, kd_rI, ar_I, ar_L, ar_P, al_I, al_L, al_P, hop_s, cond_true, cond_false, pc_I_I, pc_L_L, pc_P_P, pc_I_L, pc_I_P, pc_L_I, pc_L_P, pc_P_I, pc_P_L, pc_sS_I, pc_sS_L, pc_sS_P, I_rI, L_rI, P_rI, S_rI, cv_r, ci_r, cl_r, o1_b, o1_0, o1_1, lc_e, nI_1, nI_add, if_true, if_false, Nat.reduceEqDiff, Nat.left_eq_add, Nat.add_eq_left, false_and, and_false, true_and, and_true, and_self, eq_self, pd_t s, pd_f z, Bool.true_eq_false, ew, bo_0, Rf_k]
          by_cases c4 : n ≤ 4
          · have n1 : 1 ≤ n := by
              rcases Nat.eq_zero_or_pos n with e | e
              · exact absurd s ((m_L_n C.2.2.2.1 mL).mp e)
              · exact e
            obtain ⟨f1, f2, f3⟩ := q_FA (RB_64 C) C.2.2.2.1 mL c4
            have q1 : fRr f w (am_sL w f 37 (-1)) := fRr_37 (fRr_r _ _) _
            have C1 := RB_Rr Cw q1
            have e1529 : am_L (am_sL w f 37 (-1)) (f + 1529) = am_L w (f + 1529) := by
              funext t
              rw [pc_L_L, if_neg (by omega)]
            obtain ⟨p, y, ep, qp, hp⟩ := Rf_repair90 (h0 := am_sL w f 37 (-1)) c4 n1 f1 (f2 z) (RB_Q C1) wn (fun i hi => by rw [e1529, wr i hi]; exact f3 i hi) (by rw [pc_L_L, if_pos ⟨rfl, rfl⟩]) (d + 35)
            have qp := fY_Rr qp
            refine ⟨p, fW_t Wg (fRr_W (fRr_t qu (fRr_t qv (fRr_t qw (fRr_t q1 qp))))), RB_Rr C1 qp, ?_, ?_⟩
            · rw [fRr_0 qp, fRr_0 q1, fRr_0 qw, fRr_0 qv, fRr_0 qu]; exact z0
            · simp only [decide_eq_true c4, Bool.true_eq_false, if_false, ep]
              rw [if_pos s, if_neg z, eN, if_pos c4, q_cut_e (eN.symm ▸ hp)]
          · refine ⟨w, fW_t Wg (fRr_W (fRr_t qu (fRr_t qv qw))), Cw, ?_, ?_⟩
            · rw [fRr_0 qw, fRr_0 qv, fRr_0 qu]; exact z0
            · simp only [decide_eq_false c4, if_true]
              rw [if_pos s, if_neg z, eN, if_neg c4]
      · refine ⟨u, fW_t Wg (fRr_W qu), Cu, (fRr_0 qu).trans z0, ?_⟩
        simp only [pd_f s, if_true]
        rw [if_neg s]
    · rw [g1_n v2]
      refine ⟨g, Wg, Cg, z0, ?_⟩
      simp (disch := first | assumption | omega) only [hc_ck, hc_gi, hc_gl, hc_gp, ap_I, ap_L, kd_I, kd_L, kd_P, kd_rI, ar_I, ar_L, ar_P, al_I, al_L, al_P, hop_s, cond_true, cond_false, pc_I_I, pc_L_L, pc_P_P, pc_I_L, pc_I_P, pc_L_I, pc_L_P, pc_P_I, pc_P_L, pc_sS_I, pc_sS_L, pc_sS_P, I_rI, L_rI, P_rI, S_rI, cv_r, ci_r, cl_r, o1_b, o1_0, o1_1, lc_e, nI_1, nI_add, if_true, if_false, Nat.reduceEqDiff, Nat.left_eq_add, Nat.add_eq_left, false_and, and_false, true_and, and_true, and_self, eq_self, Rf_k, bo_0, pd_t (show vi (o_N O) (nI a) from ⟨a, ha, rfl⟩), pd_f v2, Bool.true_eq_false, e_Rf_repair_27, b1, show ¬ (1 : Int32) = 0 by decide]
  · rw [g1_n v1]
    refine ⟨g, Wg, Cg, z0, ?_⟩
    simp (disch := first | assumption | omega) only [hc_ck, hc_gi, hc_gl, hc_gp, ap_I, ap_L, kd_I, kd_L, kd_P, kd_rI, ar_I, ar_L, ar_P, al_I, al_L, al_P, hop_s, cond_true, cond_false, pc_I_I, pc_L_L, pc_P_P, pc_I_L, pc_I_P, pc_L_I, pc_L_P, pc_P_I, pc_P_L, pc_sS_I, pc_sS_L, pc_sS_P, I_rI, L_rI, P_rI, S_rI, cv_r, ci_r, cl_r, o1_b, o1_0, o1_1, lc_e, nI_1, nI_add, if_true, if_false, Nat.reduceEqDiff, Nat.left_eq_add, Nat.add_eq_left, false_and, and_false, true_and, and_true, and_self, eq_self, Rf_k, bo_0, pd_f v1, e_Rf_repair_27, b1, show ¬ (1 : Int32) = 0 by decide]
