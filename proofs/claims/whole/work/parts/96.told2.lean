/-! ===== what is told in numbers; print: the class ===== -/
def su (F : Nat → Nat) : Nat → Nat
  | 0 => 0
  | n + 1 => su F n + F n
theorem su_0 {F : Nat → Nat} {m : Nat} : ∀ {n : Nat}, m ≤ n → (∀ k, m ≤ k → k < n → F k = 0) → su F n = su F m
  | 0, h, _ => by rw [show m = 0 by omega]
  | n + 1, h, z => by
    by_cases e : m = n + 1
    · rw [e]
    · rw [su, z n (by omega) (by omega), su_0 (n := n) (by omega) (fun k h1 h2 => z k h1 (by omega))]
      rfl
/-- the numbers of what is over a part, of its links -/
noncomputable def q_nu (O : o_T) (B : Nat → Prop) (x : Nat) : Nat := nb (wL (l_A O B x))
noncomputable def q_nl (O : o_T) (B : Nat → Prop) (x : Nat) : Nat := su (fun r => nb (wL (l_K O B x r))) 8
theorem q_nl_R {O : o_T} (B : Nat → Prop) (x : Nat) (ok : o_ok O) : su (fun r => nb (wL (l_K O B x r))) (o_R O) = q_nl O B x := by
  have hR := ok.2.1
  refine (su_0 (F := fun r => nb (wL (l_K O B x r))) (m := o_R O) (n := 8) (by omega) ?_).symm
  intro k h1 _
  have : wL (l_K O B x k) = 0 := wL_0.mpr (fun y _ q => by have := (l_Kd ok q).1; omega)
  show nb (wL (l_K O B x k)) = 0
  rw [this, nb_0]
theorem xl_i2 (v : Int32) {k : Nat} (h1 : 32 ≤ k) (h2 : k < 64) : xl v.toInt64 k = yi v 31 := by
  unfold xl yi
  rw [Int32.toBitVec_toInt64, BitVec.getLsbD_signExtend, BitVec.msb_eq_getLsbD_last]
  simp [h2, Nat.not_lt.mpr h1]
theorem nb_i {v : Int32} (h : yi v 31 = false) : nb v.toInt64 = nbi v := by
  show ct (fun k => xl v.toInt64 k = true) (32 + 32) = ct (fun k => yi v k = true) 32
  rw [ct_add]
  have e1 : ct (fun k => xl v.toInt64 k = true) 32 = ct (fun k => yi v k = true) 32 := ct_c (fun k hk => by rw [xl_i v hk])
  have e2 : ct (fun k => xl v.toInt64 (k + 32) = true) 32 = ct (fun _ => False) 32 := ct_c (fun k hk => by rw [xl_i2 v (by omega) (by omega), h]; simp)
  have : ∀ n, ct (fun _ => False) n = 0 := by
    intro n
    induction n with
    | zero => rfl
    | succ n ih => rw [ct, ih, if_neg id]
  rw [e1, e2, this]
  rfl
noncomputable def q_to (O : o_T) (B : Nat → Prop) (tb tc : Int32) : Nat → Value
  | 0 => .int (nI (o_A O))
  | 1 => .int (nI (nb (wL B)))
  | 2 => .int (nI (o_N O))
  | 3 => .int (nI (o_R O))
  | 4 => .int (nI (o_P O))
  | 5 => .int (nI (s_k O B))
  | 6 => .int (nI (su (q_nl O B) (o_P O)))
  | 7 => .int (nI (q_M O B))
  | 8 => .int (nI (nbi (wI (fun a => a < o_N O ∧ q_vo O B a))))
  | 9 => .int tb
  | 10 => .int tc
  | _ => .int (nI (su (q_nu O B) (o_P O)))
theorem iv12 {w : Nat} (h : w < 11 + 1) : w = 0 ∨ w = 1 ∨ w = 2 ∨ w = 3 ∨ w = 4 ∨ w = 5 ∨ w = 6 ∨ w = 7 ∨ w = 8 ∨ w = 9 ∨ w = 10 ∨ w = 11 := by omega
theorem n_11 : (11 : Int32) = nI 11 := rfl
theorem n_6 : (6 : Int32) = nI 6 := rfl
theorem Sa_links {h : am_H} {o x : Nat} {O : o_T} {B : Nat → Prop} (L : LcL h o O B) (hx : x < o_P O) (d : Nat) : f_Sa_linksFrom (d + 1) h 42 (nI x) = some (.inr (some (.int (nI (q_nl O B x)))), h) := by
  obtain ⟨k, k1, k2, k3, k4, k5, -⟩ := L
  have H := SaC_at k4
  have ok := k4.2.1.2.1
  have hR := ok.2.1
  have hP := ok.2.2.2.1
  have key : ∀ n, n ≤ o_R O → f_Sa_linksFrom_4 (d + 1) h 42 (nI x) (nI (su (fun r => nb (wL (l_K O B x r))) n)) (nI n) = some (.inr (some (.int (nI (su (fun r => nb (wL (l_K O B x r))) (o_R O))))), h) := by
    refine dn ?_ ?_
    · rw [e_Sa_linksFrom_4]
      simp (disch := first | assumption | omega) only [hc_ck, hc_gi, hc_gl, hc_gp, ap_I, ap_L, kd_I, kd_L, kd_P, kd_rI, ar_I, ar_L, ar_P, al_I, al_L, al_P, hop_s, cond_true, cond_false, pc_I_I, pc_L_L, pc_P_P, pc_I_L, pc_I_P, pc_L_I, pc_L_P, pc_P_I, pc_P_L, pc_sS_I, pc_sS_L, pc_sS_P, I_rI, L_rI, P_rI, S_rI, cv_r, ci_r, cl_r, o1_b, o1_0, o1_1, lc_e, nI_1, nI_add, if_true, if_false, Nat.reduceEqDiff, Nat.left_eq_add, Nat.add_eq_left, false_and, and_false, true_and, and_true, and_self, eq_self, Sa_k, SaC_R k4, n_le, Nat.le_refl]
    · intro n hn ih
      have hn3 : ¬ o_R O ≤ n := by omega
      have el := ((k5.2.1 x hx hx).2.2.2 n hn).1
      rw [e_Sa_linksFrom_4]
      simp (disch := first | assumption | omega) only [hc_ck, hc_gi, hc_gl, hc_gp, ap_I, ap_L, kd_I, kd_L, kd_P, kd_rI, ar_I, ar_L, ar_P, al_I, al_L, al_P, hop_s, cond_true, cond_false, pc_I_I, pc_L_L, pc_P_P, pc_I_L, pc_I_P, pc_L_I, pc_L_P, pc_P_I, pc_P_L, pc_sS_I, pc_sS_L, pc_sS_P, I_rI, L_rI, P_rI, S_rI, cv_r, ci_r, cl_r, o1_b, o1_0, o1_1, lc_e, nI_1, nI_add, if_true, if_false, Nat.reduceEqDiff, Nat.left_eq_add, Nat.add_eq_left, false_and, and_false, true_and, and_true, and_self, eq_self, Sa_k, SaC_R k4, n_le, hn3, Sa_p13, n_m8, Sa_r7, Lo_bc]
      rw [el]
      exact ih
  rw [e_Sa_linksFrom, ← q_nl_R B x ok]
  exact key 0 (Nat.zero_le _)
theorem Lc_tos6 {h : am_H} {o : Nat} {O : o_T} {B : Nat → Prop} (C : CB h o O B) (L : LcL h o O B) (d : Nat) : ∀ n, n ≤ o_P O → f_Lc_toldOfSettled_64 (d + 2) h 1 (nI 6) (nI (su (q_nl O B) n)) (nI n) = some (.inr (some (.int (nI (su (q_nl O B) (o_P O))))), h) := by
  have H := C.1
  have Hw := Lc_w H
  have Ho := C.2.2.2.1
  have H3 := OnR_at Ho
  have hP := Ho.2.1.2.2.2.1
  refine dn ?_ ?_
  · rw [e_Lc_toldOfSettled_64]
    simp (disch := first | assumption | omega) only [hc_ck, hc_gi, hc_gl, hc_gp, ap_I, ap_L, kd_I, kd_L, kd_P, kd_rI, ar_I, ar_L, ar_P, al_I, al_L, al_P, hop_s, cond_true, cond_false, pc_I_I, pc_L_L, pc_P_P, pc_I_L, pc_I_P, pc_L_I, pc_L_P, pc_P_I, pc_P_L, pc_sS_I, pc_sS_L, pc_sS_P, I_rI, L_rI, P_rI, S_rI, cv_r, ci_r, cl_r, o1_b, o1_0, o1_1, lc_e, nI_1, nI_add, if_true, if_false, Nat.reduceEqDiff, Nat.left_eq_add, Nat.add_eq_left, false_and, and_false, true_and, and_true, and_self, eq_self, Lc_k1, C.2.1, On_k, OnR_P Ho, n_le, Nat.le_refl]
  · intro n hn ih
    have hn3 : ¬ o_P O ≤ n := by omega
    rw [e_Lc_toldOfSettled_64]
    simp (disch := first | assumption | omega) only [hc_ck, hc_gi, hc_gl, hc_gp, ap_I, ap_L, kd_I, kd_L, kd_P, kd_rI, ar_I, ar_L, ar_P, al_I, al_L, al_P, hop_s, cond_true, cond_false, pc_I_I, pc_L_L, pc_P_P, pc_I_L, pc_I_P, pc_L_I, pc_L_P, pc_P_I, pc_P_L, pc_sS_I, pc_sS_L, pc_sS_P, I_rI, L_rI, P_rI, S_rI, cv_r, ci_r, cl_r, o1_b, o1_0, o1_1, lc_e, nI_1, nI_add, if_true, if_false, Nat.reduceEqDiff, Nat.left_eq_add, Nat.add_eq_left, false_and, and_false, true_and, and_true, and_self, eq_self, Lc_k1, C.2.1, On_k, OnR_P Ho, n_le, hn3, n_6, Lc_p1_11, Sa_k, Sa_links L hn]
    exact ih
theorem Lc_tos11 {h : am_H} {o : Nat} {O : o_T} {B : Nat → Prop} (C : CB h o O B) (L : LcL h o O B) (d : Nat) : ∀ n, n ≤ o_P O → f_Lc_toldOfSettled_64 (d + 2) h 1 (nI 11) (nI (su (q_nu O B) n)) (nI n) = some (.inr (some (.int (nI (su (q_nu O B) (o_P O))))), h) := by
  have H := C.1
  have Hw := Lc_w H
  have Ho := C.2.2.2.1
  have H3 := OnR_at Ho
  have hP := Ho.2.1.2.2.2.1
  have d6 : ¬ nI 11 = 6 := by decide
  refine dn ?_ ?_
  · rw [e_Lc_toldOfSettled_64]
    simp (disch := first | assumption | omega) only [hc_ck, hc_gi, hc_gl, hc_gp, ap_I, ap_L, kd_I, kd_L, kd_P, kd_rI, ar_I, ar_L, ar_P, al_I, al_L, al_P, hop_s, cond_true, cond_false, pc_I_I, pc_L_L, pc_P_P, pc_I_L, pc_I_P, pc_L_I, pc_L_P, pc_P_I, pc_P_L, pc_sS_I, pc_sS_L, pc_sS_P, I_rI, L_rI, P_rI, S_rI, cv_r, ci_r, cl_r, o1_b, o1_0, o1_1, lc_e, nI_1, nI_add, if_true, if_false, Nat.reduceEqDiff, Nat.left_eq_add, Nat.add_eq_left, false_and, and_false, true_and, and_true, and_self, eq_self, Lc_k1, C.2.1, On_k, OnR_P Ho, n_le, Nat.le_refl]
  · intro n hn ih
    have hn3 : ¬ o_P O ≤ n := by omega
    rw [e_Lc_toldOfSettled_64]
    simp (disch := first | assumption | omega) only [hc_ck, hc_gi, hc_gl, hc_gp, ap_I, ap_L, kd_I, kd_L, kd_P, kd_rI, ar_I, ar_L, ar_P, al_I, al_L, al_P, hop_s, cond_true, cond_false, pc_I_I, pc_L_L, pc_P_P, pc_I_L, pc_I_P, pc_L_I, pc_L_P, pc_P_I, pc_P_L, pc_sS_I, pc_sS_L, pc_sS_P, I_rI, L_rI, P_rI, S_rI, cv_r, ci_r, cl_r, o1_b, o1_0, o1_1, lc_e, nI_1, nI_add, if_true, if_false, Nat.reduceEqDiff, Nat.left_eq_add, Nat.add_eq_left, false_and, and_false, true_and, and_true, and_self, eq_self, Lc_k1, C.2.1, On_k, OnR_P Ho, n_le, hn3, d6, Lc_p1_11, Sa_k, Sa_p11, Sa_r5, LcL_x L hn, Lo_bc]
    exact ih
theorem LcL_9 {h : am_H} {o : Nat} {O : o_T} {B : Nat → Prop} (L : LcL h o O B) : am_I h 1 9 = nI (s_k O B) := by
  obtain ⟨k, k1, k2, k3, -⟩ := L
  rw [s_k_e k2]
  exact k3
theorem Lc_q_told {h : am_H} {o : Nat} {O : o_T} {B : Nat → Prop} (C : CB h o O B) (i : Int32) (d : Nat) : QQ (f_Lc_told (d + 6) h 1 i) h o O B (g1 12 i 1 fun w => .inr (q_to O B (am_I h 1 1) (am_I h 1 7) w)) := by
  have H := C.1
  have Ho := C.2.2.2.1
  have H3 := OnR_at Ho
  rw [e_Lc_told]
  rcases Lc_nW H i (n := 11) (by omega) (d + 4) with ⟨⟨w, hw, rfl⟩, e2⟩ | ⟨v, e2⟩
  · rw [g1_y (by omega) hw]
    rw [← n_11] at e2
    simp only [hc_ck, Lc_k1 H, cond_true, e2, cv_r]
    obtain ⟨g, eg, qg, Cg, Lg⟩ := Lc_st C d
    have Hg := Cg.1
    have Hw := Lc_w Hg
    have Hh := Lc_h Hg
    have Hog := Cg.2.2.2.1
    have hP := Hog.2.1.2.2.2.1
    have t6 := Lc_tos6 Cg Lg (d + 3) 0 (Nat.zero_le _)
    have t11 := Lc_tos11 Cg Lg (d + 3) 0 (Nat.zero_le _)
    rw [show nI (su (q_nl O B) 0) = 0 from rfl, show nI 0 = 0 from rfl] at t6
    rw [show nI (su (q_nu O B) 0) = 0 from rfl, show nI 0 = 0 from rfl] at t11
    have en : QQ (some (.inr (some (q_to O B (am_I h 1 1) (am_I h 1 7) w)), h)) h o O B (.inr (q_to O B (am_I h 1 1) (am_I h 1 7) w)) := ⟨h, fK_r _, C, rfl⟩
    have en2 : QQ (some (.inr (some (q_to O B (am_I h 1 1) (am_I h 1 7) w)), g)) h o O B (.inr (q_to O B (am_I h 1 1) (am_I h 1 7) w)) := ⟨g, qg, Cg, rfl⟩
    rcases iv12 hw with rfl | rfl | rfl | rfl | rfl | rfl | rfl | rfl | rfl | rfl | rfl | rfl
    · simp +decide (disch := first | assumption | omega) only [hc_ck, hc_gi, hc_gl, hc_gp, ap_I, ap_L, kd_I, kd_L, kd_P, kd_rI, ar_I, ar_L, ar_P, al_I, al_L, al_P, hop_s, cond_true, cond_false, pc_I_I, pc_L_L, pc_P_P, pc_I_L, pc_I_P, pc_L_I, pc_L_P, pc_P_I, pc_P_L, pc_sS_I, pc_sS_L, pc_sS_P, I_rI, L_rI, P_rI, S_rI, cv_r, ci_r, cl_r, o1_b, o1_0, o1_1, lc_e, nI_1, nI_add, if_true, if_false, Nat.reduceEqDiff, Nat.left_eq_add, Nat.add_eq_left, false_and, and_false, true_and, and_true, and_self, eq_self, Lc_k1, C.2.1, On_k, OnR_A Ho]
      exact en
    · simp +decide (disch := first | assumption | omega) only [hc_ck, hc_gi, hc_gl, hc_gp, ap_I, ap_L, kd_I, kd_L, kd_P, kd_rI, ar_I, ar_L, ar_P, al_I, al_L, al_P, hop_s, cond_true, cond_false, pc_I_I, pc_L_L, pc_P_P, pc_I_L, pc_I_P, pc_L_I, pc_L_P, pc_P_I, pc_P_L, pc_sS_I, pc_sS_L, pc_sS_P, I_rI, L_rI, P_rI, S_rI, cv_r, ci_r, cl_r, o1_b, o1_0, o1_1, lc_e, nI_1, nI_add, if_true, if_false, Nat.reduceEqDiff, Nat.left_eq_add, Nat.add_eq_left, false_and, and_false, true_and, and_true, and_self, eq_self, Lc_k1, C.2.1, On_k, C.2.2.2.2.2.1, Lo_bc]
      exact en
    · simp +decide (disch := first | assumption | omega) only [hc_ck, hc_gi, hc_gl, hc_gp, ap_I, ap_L, kd_I, kd_L, kd_P, kd_rI, ar_I, ar_L, ar_P, al_I, al_L, al_P, hop_s, cond_true, cond_false, pc_I_I, pc_L_L, pc_P_P, pc_I_L, pc_I_P, pc_L_I, pc_L_P, pc_P_I, pc_P_L, pc_sS_I, pc_sS_L, pc_sS_P, I_rI, L_rI, P_rI, S_rI, cv_r, ci_r, cl_r, o1_b, o1_0, o1_1, lc_e, nI_1, nI_add, if_true, if_false, Nat.reduceEqDiff, Nat.left_eq_add, Nat.add_eq_left, false_and, and_false, true_and, and_true, and_self, eq_self, Lc_k1, C.2.1, On_k, On_p0, On_k1, OnR_N Ho]
      exact en
    · simp +decide (disch := first | assumption | omega) only [hc_ck, hc_gi, hc_gl, hc_gp, ap_I, ap_L, kd_I, kd_L, kd_P, kd_rI, ar_I, ar_L, ar_P, al_I, al_L, al_P, hop_s, cond_true, cond_false, pc_I_I, pc_L_L, pc_P_P, pc_I_L, pc_I_P, pc_L_I, pc_L_P, pc_P_I, pc_P_L, pc_sS_I, pc_sS_L, pc_sS_P, I_rI, L_rI, P_rI, S_rI, cv_r, ci_r, cl_r, o1_b, o1_0, o1_1, lc_e, nI_1, nI_add, if_true, if_false, Nat.reduceEqDiff, Nat.left_eq_add, Nat.add_eq_left, false_and, and_false, true_and, and_true, and_self, eq_self, Lc_k1, C.2.1, On_k, On_p1, On_k3, OnR_R Ho]
      exact en
    · simp +decide (disch := first | assumption | omega) only [hc_ck, hc_gi, hc_gl, hc_gp, ap_I, ap_L, kd_I, kd_L, kd_P, kd_rI, ar_I, ar_L, ar_P, al_I, al_L, al_P, hop_s, cond_true, cond_false, pc_I_I, pc_L_L, pc_P_P, pc_I_L, pc_I_P, pc_L_I, pc_L_P, pc_P_I, pc_P_L, pc_sS_I, pc_sS_L, pc_sS_P, I_rI, L_rI, P_rI, S_rI, cv_r, ci_r, cl_r, o1_b, o1_0, o1_1, lc_e, nI_1, nI_add, if_true, if_false, Nat.reduceEqDiff, Nat.left_eq_add, Nat.add_eq_left, false_and, and_false, true_and, and_true, and_self, eq_self, Lc_k1, C.2.1, On_k, OnR_P Ho]
      exact en
    · rw [e_Lc_toldOfSettled]
      simp +decide (disch := first | assumption | omega) only [hc_ck, hc_gi, hc_gl, hc_gp, ap_I, ap_L, kd_I, kd_L, kd_P, kd_rI, ar_I, ar_L, ar_P, al_I, al_L, al_P, hop_s, cond_true, cond_false, pc_I_I, pc_L_L, pc_P_P, pc_I_L, pc_I_P, pc_L_I, pc_L_P, pc_P_I, pc_P_L, pc_sS_I, pc_sS_L, pc_sS_P, I_rI, L_rI, P_rI, S_rI, cv_r, ci_r, cl_r, o1_b, o1_0, o1_1, lc_e, nI_1, nI_add, if_true, if_false, Nat.reduceEqDiff, Nat.left_eq_add, Nat.add_eq_left, false_and, and_false, true_and, and_true, and_self, eq_self, Lc_k1, eg, LcL_9 Lg]
      exact en2
    · rw [e_Lc_toldOfSettled]
      simp +decide (disch := first | assumption | omega) only [hc_ck, hc_gi, hc_gl, hc_gp, ap_I, ap_L, kd_I, kd_L, kd_P, kd_rI, ar_I, ar_L, ar_P, al_I, al_L, al_P, hop_s, cond_true, cond_false, pc_I_I, pc_L_L, pc_P_P, pc_I_L, pc_I_P, pc_L_I, pc_L_P, pc_P_I, pc_P_L, pc_sS_I, pc_sS_L, pc_sS_P, I_rI, L_rI, P_rI, S_rI, cv_r, ci_r, cl_r, o1_b, o1_0, o1_1, lc_e, nI_1, nI_add, if_true, if_false, Nat.reduceEqDiff, Nat.left_eq_add, Nat.add_eq_left, false_and, and_false, true_and, and_true, and_self, eq_self, Lc_k1, eg, t6]
      exact en2
    · rw [e_Lc_toldOfSettled]
      simp +decide (disch := first | assumption | omega) only [hc_ck, hc_gi, hc_gl, hc_gp, ap_I, ap_L, kd_I, kd_L, kd_P, kd_rI, ar_I, ar_L, ar_P, al_I, al_L, al_P, hop_s, cond_true, cond_false, pc_I_I, pc_L_L, pc_P_P, pc_I_L, pc_I_P, pc_L_I, pc_L_P, pc_P_I, pc_P_L, pc_sS_I, pc_sS_L, pc_sS_P, I_rI, L_rI, P_rI, S_rI, cv_r, ci_r, cl_r, o1_b, o1_0, o1_1, lc_e, nI_1, nI_add, if_true, if_false, Nat.reduceEqDiff, Nat.left_eq_add, Nat.add_eq_left, false_and, and_false, true_and, and_true, and_self, eq_self, Lc_k1, eg, Lc_p1_12, Hi_k, (LcL_h Lg).1]
      exact en2
    · rw [e_Lc_toldOfSettled]
      simp +decide (disch := first | assumption | omega) only [hc_ck, hc_gi, hc_gl, hc_gp, ap_I, ap_L, kd_I, kd_L, kd_P, kd_rI, ar_I, ar_L, ar_P, al_I, al_L, al_P, hop_s, cond_true, cond_false, pc_I_I, pc_L_L, pc_P_P, pc_I_L, pc_I_P, pc_L_I, pc_L_P, pc_P_I, pc_P_L, pc_sS_I, pc_sS_L, pc_sS_P, I_rI, L_rI, P_rI, S_rI, cv_r, ci_r, cl_r, o1_b, o1_0, o1_1, lc_e, nI_1, nI_add, if_true, if_false, Nat.reduceEqDiff, Nat.left_eq_add, Nat.add_eq_left, false_and, and_false, true_and, and_true, and_self, eq_self, Lc_k1, eg, Lc_p1_12, Hi_k, (LcL_h Lg).2.1, In_bc]
      exact en2
    · simp +decide (disch := first | assumption | omega) only [hc_ck, hc_gi, hc_gl, hc_gp, ap_I, ap_L, kd_I, kd_L, kd_P, kd_rI, ar_I, ar_L, ar_P, al_I, al_L, al_P, hop_s, cond_true, cond_false, pc_I_I, pc_L_L, pc_P_P, pc_I_L, pc_I_P, pc_L_I, pc_L_P, pc_P_I, pc_P_L, pc_sS_I, pc_sS_L, pc_sS_P, I_rI, L_rI, P_rI, S_rI, cv_r, ci_r, cl_r, o1_b, o1_0, o1_1, lc_e, nI_1, nI_add, if_true, if_false, Nat.reduceEqDiff, Nat.left_eq_add, Nat.add_eq_left, false_and, and_false, true_and, and_true, and_self, eq_self, Lc_k1]
      exact en
    · simp +decide (disch := first | assumption | omega) only [hc_ck, hc_gi, hc_gl, hc_gp, ap_I, ap_L, kd_I, kd_L, kd_P, kd_rI, ar_I, ar_L, ar_P, al_I, al_L, al_P, hop_s, cond_true, cond_false, pc_I_I, pc_L_L, pc_P_P, pc_I_L, pc_I_P, pc_L_I, pc_L_P, pc_P_I, pc_P_L, pc_sS_I, pc_sS_L, pc_sS_P, I_rI, L_rI, P_rI, S_rI, cv_r, ci_r, cl_r, o1_b, o1_0, o1_1, lc_e, nI_1, nI_add, if_true, if_false, Nat.reduceEqDiff, Nat.left_eq_add, Nat.add_eq_left, false_and, and_false, true_and, and_true, and_self, eq_self, Lc_k1]
      exact en
    · rw [e_Lc_toldOfSettled]
      simp +decide (disch := first | assumption | omega) only [hc_ck, hc_gi, hc_gl, hc_gp, ap_I, ap_L, kd_I, kd_L, kd_P, kd_rI, ar_I, ar_L, ar_P, al_I, al_L, al_P, hop_s, cond_true, cond_false, pc_I_I, pc_L_L, pc_P_P, pc_I_L, pc_I_P, pc_L_I, pc_L_P, pc_P_I, pc_P_L, pc_sS_I, pc_sS_L, pc_sS_P, I_rI, L_rI, P_rI, S_rI, cv_r, ci_r, cl_r, o1_b, o1_0, o1_1, lc_e, nI_1, nI_add, if_true, if_false, Nat.reduceEqDiff, Nat.left_eq_add, Nat.add_eq_left, false_and, and_false, true_and, and_true, and_self, eq_self, Lc_k1, eg, t11]
      exact en2
  · rw [g1_n v]
    rw [← n_11] at e2
    simp only [hc_ck, Lc_k1 H, cond_true, e2, cv_e]
    exact QQ_n C
/-- the print -/
noncomputable def q_pr (O : o_T) (B : Nat → Prop) : Nat → Int64
  | 0 => 0
  | n + 1 => (q_pr O B n * 31 + (nI (q_nu O B n)).toInt64) * 31 + (nI (q_nl O B n)).toInt64
theorem Lc_q_print {h : am_H} {o : Nat} {O : o_T} {B : Nat → Prop} (C : CB h o O B) (d : Nat) : QQ (f_Lc_print (d + 5) h 1) h o O B (.inr (.long (q_pr O B (o_P O)))) := by
  have H := C.1
  obtain ⟨g, eg, qg, Cg, Lg⟩ := Lc_st C d
  have Hg := Cg.1
  have Hw := Lc_w Hg
  have Hog := Cg.2.2.2.1
  have H3 := OnR_at Hog
  have hP := Hog.2.1.2.2.2.1
  have key : ∀ n, n ≤ o_P O → f_Lc_print_8 (d + 5) g 1 (q_pr O B n) (nI n) = some (.inr (some (.long (q_pr O B (o_P O)))), g) := by
    refine dn ?_ ?_
    · rw [e_Lc_print_8]
      simp (disch := first | assumption | omega) only [hc_ck, hc_gi, hc_gl, hc_gp, ap_I, ap_L, kd_I, kd_L, kd_P, kd_rI, ar_I, ar_L, ar_P, al_I, al_L, al_P, hop_s, cond_true, cond_false, pc_I_I, pc_L_L, pc_P_P, pc_I_L, pc_I_P, pc_L_I, pc_L_P, pc_P_I, pc_P_L, pc_sS_I, pc_sS_L, pc_sS_P, I_rI, L_rI, P_rI, S_rI, cv_r, ci_r, cl_r, o1_b, o1_0, o1_1, lc_e, nI_1, nI_add, if_true, if_false, Nat.reduceEqDiff, Nat.left_eq_add, Nat.add_eq_left, false_and, and_false, true_and, and_true, and_self, eq_self, Lc_k1, Cg.2.1, On_k, OnR_P Hog, n_le, Nat.le_refl]
    · intro n hn ih
      have hn3 : ¬ o_P O ≤ n := by omega
      rw [e_Lc_print_8]
      simp (disch := first | assumption | omega) only [hc_ck, hc_gi, hc_gl, hc_gp, ap_I, ap_L, kd_I, kd_L, kd_P, kd_rI, ar_I, ar_L, ar_P, al_I, al_L, al_P, hop_s, cond_true, cond_false, pc_I_I, pc_L_L, pc_P_P, pc_I_L, pc_I_P, pc_L_I, pc_L_P, pc_P_I, pc_P_L, pc_sS_I, pc_sS_L, pc_sS_P, I_rI, L_rI, P_rI, S_rI, cv_r, ci_r, cl_r, o1_b, o1_0, o1_1, lc_e, nI_1, nI_add, if_true, if_false, Nat.reduceEqDiff, Nat.left_eq_add, Nat.add_eq_left, false_and, and_false, true_and, and_true, and_self, eq_self, Lc_k1, Cg.2.1, On_k, OnR_P Hog, n_le, hn3, Lc_p1_11, Sa_k, Sa_p11, Sa_r5, LcL_x Lg hn, Lo_bc, Sa_links Lg hn]
      exact ih
  refine ⟨g, qg, Cg, ?_⟩
  rw [e_Lc_print]
  simp (disch := first | assumption | omega) only [hc_ck, hc_gi, hc_gl, hc_gp, ap_I, ap_L, kd_I, kd_L, kd_P, kd_rI, ar_I, ar_L, ar_P, al_I, al_L, al_P, hop_s, cond_true, cond_false, pc_I_I, pc_L_L, pc_P_P, pc_I_L, pc_I_P, pc_L_I, pc_L_P, pc_P_I, pc_P_L, pc_sS_I, pc_sS_L, pc_sS_P, I_rI, L_rI, P_rI, S_rI, cv_r, ci_r, cl_r, o1_b, o1_0, o1_1, lc_e, nI_1, nI_add, if_true, if_false, Nat.reduceEqDiff, Nat.left_eq_add, Nat.add_eq_left, false_and, and_false, true_and, and_true, and_self, eq_self, Lc_k1, eg]
  exact key 0 (Nat.zero_le _)
