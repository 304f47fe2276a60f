/-! ===== the class: questions answered; answers as numbers ===== -/
noncomputable def pd (P : Prop) : Bool := @decide P (Classical.propDecidable P)
theorem pd_e {P : Prop} {b : Bool} (h : b = true ↔ P) : b = pd P := by
  unfold pd
  cases b with
  | true => exact (@decide_eq_true P (Classical.propDecidable P) (h.mp rfl)).symm
  | false => exact (@decide_eq_false P (Classical.propDecidable P) (fun q => absurd (h.mpr q) (by decide))).symm
theorem pd_t {P : Prop} (h : P) : pd P = true := (pd_e ⟨fun _ => h, fun _ => rfl⟩).symm
theorem pd_f {P : Prop} (h : ¬ P) : pd P = false := (pd_e ⟨fun q => absurd q (by decide), fun q => absurd q h⟩).symm
theorem pd_c {P Q : Prop} (h : P ↔ Q) : pd P = pd Q := by rw [propext h]
theorem xl_pd {P : Nat → Prop} {k : Nat} (hk : k < 64) : xl (wL P) k = pd (P k) := pd_e ⟨fun q => (wL_x.mp q).2, fun q => xl_wt hk q⟩
/-- arguments that are numbers below a bound -/
noncomputable def g1 (n : Nat) (i : Int32) (E : Nat) (F : Nat → Nat ⊕ Value) : Nat ⊕ Value := @ite _ (vi n i) (Classical.propDecidable _) (F i.toNatClampNeg) (.inl E)
theorem g1_y {n k E : Nat} {F : Nat → Nat ⊕ Value} (hn : n < 2147483648) (hk : k < n) : g1 n (nI k) E F = F k := by
  unfold g1
  rw [if_pos ⟨k, hk, rfl⟩, nI_clamp (by omega)]
theorem g1_n {n E : Nat} {i : Int32} {F : Nat → Nat ⊕ Value} (h : ¬ vi n i) : g1 n i E F = .inl E := if_neg h
/-- how a question is answered -/
def QQ (r : Option am_R) (h : am_H) (o : Nat) (O : o_T) (B : Nat → Prop) (a : Nat ⊕ Value) : Prop := ∃ h', fK h h' ∧ CB h' o O B ∧ match a with
  | .inr v => r = some (.inr (some v), h')
  | .inl E => r = some (.inl E, cr E h')
theorem QQ_n {h : am_H} {o : Nat} {O : o_T} {B : Nat → Prop} {E : Nat} (C : CB h o O B) : QQ (some (.inl E, cr E h)) h o O B (.inl E) := ⟨h, fK_r _, C, rfl⟩
theorem LcL_x {h : am_H} {o : Nat} {O : o_T} {B : Nat → Prop} (L : LcL h o O B) {x : Nat} (hx : x < o_P O) : am_L h (42 + 5) x = wL (l_A O B x) := by
  obtain ⟨k, k1, k2, k3, k4, k5, -⟩ := L
  exact (k5.2.1 x hx hx).1
theorem Lc_q_below {h : am_H} {o : Nat} {O : o_T} {B : Nat → Prop} (C : CB h o O B) (i j : Int32) (d : Nat) : QQ (f_Lc_below (d + 5) h 1 i j) h o O B (g1 (o_P O) i 0 fun x => g1 (o_P O) j 0 fun y => .inr (.int (bo (pd (l_be O B x y))))) := by
  have H := C.1
  have hP := C.2.2.2.1.2.1.2.2.2.1
  rw [e_Lc_below]
  rcases Lc_nP C i (d + 3) with ⟨⟨x, hx, rfl⟩, e1⟩ | ⟨v, e1⟩
  · rw [g1_y (by omega) hx]
    rcases Lc_nP C j (d + 3) with ⟨⟨y, hy, rfl⟩, e2⟩ | ⟨v, e2⟩
    · rw [g1_y (by omega) hy]
      obtain ⟨g, eg, qg, Cg, Lg⟩ := Lc_st C d
      have Hg := Cg.1
      have Hw := Lc_w Hg
      obtain ⟨b, eb, hb⟩ := Sa_isBelow (Lc_w Hg) (show x < 60 by omega) (show y < 60 by omega) (LcL_x Lg hx) (d + 3)
      refine ⟨g, qg, Cg, ?_⟩
      simp (disch := first | assumption | omega) only [hc_ck, hc_gi, hc_gl, hc_gp, ap_I, ap_L, kd_I, kd_L, kd_P, kd_rI, ar_I, ar_L, ar_P, al_I, al_L, al_P, hop_s, cond_true, cond_false, pc_I_I, pc_L_L, pc_P_P, pc_I_L, pc_I_P, pc_L_I, pc_L_P, pc_P_I, pc_P_L, pc_sS_I, pc_sS_L, pc_sS_P, I_rI, L_rI, P_rI, S_rI, cv_r, ci_r, cl_r, o1_b, o1_0, o1_1, lc_e, nI_1, nI_add, if_true, if_false, Nat.reduceEqDiff, Nat.left_eq_add, Nat.add_eq_left, false_and, and_false, true_and, and_true, and_self, eq_self, Lc_k1, e1, e2, eg, Lc_p1_11, Sa_k, eb]
      rw [pd_e hb]
      rfl
    · rw [g1_n v]
      simp (disch := first | assumption | omega) only [hc_ck, hc_gi, hc_gl, hc_gp, ap_I, ap_L, kd_I, kd_L, kd_P, kd_rI, ar_I, ar_L, ar_P, al_I, al_L, al_P, hop_s, cond_true, cond_false, pc_I_I, pc_L_L, pc_P_P, pc_I_L, pc_I_P, pc_L_I, pc_L_P, pc_P_I, pc_P_L, pc_sS_I, pc_sS_L, pc_sS_P, I_rI, L_rI, P_rI, S_rI, cv_r, ci_r, cl_r, o1_b, o1_0, o1_1, lc_e, nI_1, nI_add, if_true, if_false, Nat.reduceEqDiff, Nat.left_eq_add, Nat.add_eq_left, false_and, and_false, true_and, and_true, and_self, eq_self, Lc_k1, e1, e2, cv_e]
      exact QQ_n C
  · rw [g1_n v]
    simp (disch := first | assumption | omega) only [hc_ck, hc_gi, hc_gl, hc_gp, ap_I, ap_L, kd_I, kd_L, kd_P, kd_rI, ar_I, ar_L, ar_P, al_I, al_L, al_P, hop_s, cond_true, cond_false, pc_I_I, pc_L_L, pc_P_P, pc_I_L, pc_I_P, pc_L_I, pc_L_P, pc_P_I, pc_P_L, pc_sS_I, pc_sS_L, pc_sS_P, I_rI, L_rI, P_rI, S_rI, cv_r, ci_r, cl_r, o1_b, o1_0, o1_1, lc_e, nI_1, nI_add, if_true, if_false, Nat.reduceEqDiff, Nat.left_eq_add, Nat.add_eq_left, false_and, and_false, true_and, and_true, and_self, eq_self, Lc_k1, e1, cv_e]
    exact QQ_n C
noncomputable def s_k (O : o_T) (B : Nat → Prop) : Nat := lm (s_rds O B)
theorem s_k_e {O : o_T} {B : Nat → Prop} {k : Nat} (h : s_rds O B k) : s_k O B = k := lm_e h (fun j hj q => by have := s_rds1 h q; omega)
/-- the round in which y came to x -/
noncomputable def q_w (O : o_T) (B : Nat → Prop) (x y : Nat) : Int32 := nI (w_c O B (s_k O B + 1) x y)
theorem LcL_w {h : am_H} {o : Nat} {O : o_T} {B : Nat → Prop} (L : LcL h o O B) {x y : Nat} (hx : x < o_P O) (hy : y < o_P O) : am_I h 41 (x * 60 + y) = q_w O B x y := by
  obtain ⟨k, k1, k2, k3, k4, k5, k6, k7⟩ := L
  unfold q_w
  rw [s_k_e k2]
  exact k7 x y hx hy
noncomputable def q_wh (O : o_T) (B : Nat → Prop) (x y : Nat) : Int32 := if q_w O B x y = -1 then q_w O B x 1 else q_w O B x y
theorem Lc_q_when {h : am_H} {o : Nat} {O : o_T} {B : Nat → Prop} (C : CB h o O B) (i j : Int32) (d : Nat) : QQ (f_Lc_when (d + 5) h 1 i j) h o O B (g1 (o_P O) i 0 fun x => g1 (o_P O) j 0 fun y => .inr (.int (q_wh O B x y))) := by
  have H := C.1
  have ok := C.2.2.2.1.2.1
  have hP := ok.2.2.2.1
  have hP2 := ok.2.2.1
  rw [e_Lc_when]
  rcases Lc_nP C i (d + 3) with ⟨⟨x, hx, rfl⟩, e1⟩ | ⟨v, e1⟩
  · rw [g1_y (by omega) hx]
    rcases Lc_nP C j (d + 3) with ⟨⟨y, hy, rfl⟩, e2⟩ | ⟨v, e2⟩
    · rw [g1_y (by omega) hy]
      obtain ⟨g, eg, qg, Cg, Lg⟩ := Lc_st C d
      have Hg := Cg.1
      refine ⟨g, qg, Cg, ?_⟩
      simp (disch := first | assumption | omega) only [hc_ck, hc_gi, hc_gl, hc_gp, ap_I, ap_L, kd_I, kd_L, kd_P, kd_rI, ar_I, ar_L, ar_P, al_I, al_L, al_P, hop_s, cond_true, cond_false, pc_I_I, pc_L_L, pc_P_P, pc_I_L, pc_I_P, pc_L_I, pc_L_P, pc_P_I, pc_P_L, pc_sS_I, pc_sS_L, pc_sS_P, I_rI, L_rI, P_rI, S_rI, cv_r, ci_r, cl_r, o1_b, o1_0, o1_1, lc_e, nI_1, nI_add, if_true, if_false, Nat.reduceEqDiff, Nat.left_eq_add, Nat.add_eq_left, false_and, and_false, true_and, and_true, and_self, eq_self, Lc_k1, e1, e2, eg, Lc_p1_10, n_m60, Lc_r41, LcL_w Lg hx hy, LcL_w Lg hx (show 1 < o_P O by omega)]
      unfold q_wh
      by_cases c : q_w O B x y = -1
      · rw [if_pos c, if_pos c]
      · rw [if_neg c, if_neg c]
    · rw [g1_n v]
      simp (disch := first | assumption | omega) only [hc_ck, hc_gi, hc_gl, hc_gp, ap_I, ap_L, kd_I, kd_L, kd_P, kd_rI, ar_I, ar_L, ar_P, al_I, al_L, al_P, hop_s, cond_true, cond_false, pc_I_I, pc_L_L, pc_P_P, pc_I_L, pc_I_P, pc_L_I, pc_L_P, pc_P_I, pc_P_L, pc_sS_I, pc_sS_L, pc_sS_P, I_rI, L_rI, P_rI, S_rI, cv_r, ci_r, cl_r, o1_b, o1_0, o1_1, lc_e, nI_1, nI_add, if_true, if_false, Nat.reduceEqDiff, Nat.left_eq_add, Nat.add_eq_left, false_and, and_false, true_and, and_true, and_self, eq_self, Lc_k1, e1, e2, cv_e]
      exact QQ_n C
  · rw [g1_n v]
    simp (disch := first | assumption | omega) only [hc_ck, hc_gi, hc_gl, hc_gp, ap_I, ap_L, kd_I, kd_L, kd_P, kd_rI, ar_I, ar_L, ar_P, al_I, al_L, al_P, hop_s, cond_true, cond_false, pc_I_I, pc_L_L, pc_P_P, pc_I_L, pc_I_P, pc_L_I, pc_L_P, pc_P_I, pc_P_L, pc_sS_I, pc_sS_L, pc_sS_P, I_rI, L_rI, P_rI, S_rI, cv_r, ci_r, cl_r, o1_b, o1_0, o1_1, lc_e, nI_1, nI_add, if_true, if_false, Nat.reduceEqDiff, Nat.left_eq_add, Nat.add_eq_left, false_and, and_false, true_and, and_true, and_self, eq_self, Lc_k1, e1, cv_e]
    exact QQ_n C
theorem Lc_q_link {h : am_H} {o : Nat} {O : o_T} {B : Nat → Prop} (C : CB h o O B) (i r j : Int32) (d : Nat) : QQ (f_Lc_link (d + 5) h 1 i r j) h o O B (g1 (o_P O) i 0 fun x => g1 (o_R O) r 0 fun r => g1 (o_P O) j 0 fun y => .inr (.int (bo (pd (l_K O B x r y))))) := by
  have H := C.1
  have ok := C.2.2.2.1.2.1
  have hP := ok.2.2.2.1
  have hR := ok.2.1
  rw [e_Lc_link]
  rcases Lc_nP C i (d + 3) with ⟨⟨x, hx, rfl⟩, e1⟩ | ⟨v, e1⟩
  · rw [g1_y (by omega) hx]
    rcases Lc_nR C r (d + 3) with ⟨⟨r, hr, rfl⟩, e2⟩ | ⟨v, e2⟩
    · rw [g1_y (by omega) hr]
      rcases Lc_nP C j (d + 3) with ⟨⟨y, hy, rfl⟩, e3⟩ | ⟨v, e3⟩
      · rw [g1_y (by omega) hy]
        obtain ⟨g, eg, qg, Cg, Lg⟩ := Lc_st C d
        have Hg := Cg.1
        have Hw := Lc_w Hg
        refine ⟨g, qg, Cg, ?_⟩
        obtain ⟨k, k1, k2, k3, k4, k5, -⟩ := Lg
        have el := ((k5.2.1 x hx hx).2.2.2 r hr).1
        simp (disch := first | assumption | omega) only [hc_ck, hc_gi, hc_gl, hc_gp, ap_I, ap_L, kd_I, kd_L, kd_P, kd_rI, ar_I, ar_L, ar_P, al_I, al_L, al_P, hop_s, cond_true, cond_false, pc_I_I, pc_L_L, pc_P_P, pc_I_L, pc_I_P, pc_L_I, pc_L_P, pc_P_I, pc_P_L, pc_sS_I, pc_sS_L, pc_sS_P, I_rI, L_rI, P_rI, S_rI, cv_r, ci_r, cl_r, o1_b, o1_0, o1_1, lc_e, nI_1, nI_add, if_true, if_false, Nat.reduceEqDiff, Nat.left_eq_add, Nat.add_eq_left, false_and, and_false, true_and, and_true, and_self, eq_self, Lc_k1, e1, e2, e3, eg, Lc_p1_11, Sa_k, Sa_p13, n_m8, Sa_r7, el, xl_t0, xl_pd]
        cases pd (l_K O B x r y) <;> rfl
      · rw [g1_n v]
        simp (disch := first | assumption | omega) only [hc_ck, hc_gi, hc_gl, hc_gp, ap_I, ap_L, kd_I, kd_L, kd_P, kd_rI, ar_I, ar_L, ar_P, al_I, al_L, al_P, hop_s, cond_true, cond_false, pc_I_I, pc_L_L, pc_P_P, pc_I_L, pc_I_P, pc_L_I, pc_L_P, pc_P_I, pc_P_L, pc_sS_I, pc_sS_L, pc_sS_P, I_rI, L_rI, P_rI, S_rI, cv_r, ci_r, cl_r, o1_b, o1_0, o1_1, lc_e, nI_1, nI_add, if_true, if_false, Nat.reduceEqDiff, Nat.left_eq_add, Nat.add_eq_left, false_and, and_false, true_and, and_true, and_self, eq_self, Lc_k1, e1, e2, e3, cv_e]
        exact QQ_n C
    · rw [g1_n v]
      simp (disch := first | assumption | omega) only [hc_ck, hc_gi, hc_gl, hc_gp, ap_I, ap_L, kd_I, kd_L, kd_P, kd_rI, ar_I, ar_L, ar_P, al_I, al_L, al_P, hop_s, cond_true, cond_false, pc_I_I, pc_L_L, pc_P_P, pc_I_L, pc_I_P, pc_L_I, pc_L_P, pc_P_I, pc_P_L, pc_sS_I, pc_sS_L, pc_sS_P, I_rI, L_rI, P_rI, S_rI, cv_r, ci_r, cl_r, o1_b, o1_0, o1_1, lc_e, nI_1, nI_add, if_true, if_false, Nat.reduceEqDiff, Nat.left_eq_add, Nat.add_eq_left, false_and, and_false, true_and, and_true, and_self, eq_self, Lc_k1, e1, e2, cv_e]
      exact QQ_n C
  · rw [g1_n v]
    simp (disch := first | assumption | omega) only [hc_ck, hc_gi, hc_gl, hc_gp, ap_I, ap_L, kd_I, kd_L, kd_P, kd_rI, ar_I, ar_L, ar_P, al_I, al_L, al_P, hop_s, cond_true, cond_false, pc_I_I, pc_L_L, pc_P_P, pc_I_L, pc_I_P, pc_L_I, pc_L_P, pc_P_I, pc_P_L, pc_sS_I, pc_sS_L, pc_sS_P, I_rI, L_rI, P_rI, S_rI, cv_r, ci_r, cl_r, o1_b, o1_0, o1_1, lc_e, nI_1, nI_add, if_true, if_false, Nat.reduceEqDiff, Nat.left_eq_add, Nat.add_eq_left, false_and, and_false, true_and, and_true, and_self, eq_self, Lc_k1, e1, cv_e]
    exact QQ_n C
theorem Lc_q_under {h : am_H} {o : Nat} {O : o_T} {B : Nat → Prop} (C : CB h o O B) (r : Int32) (d : Nat) : QQ (f_Lc_under (d + 5) h 1 r) h o O B (g1 (o_R O) r 0 fun r => .inr (.int (wI (o_un O B r)))) := by
  have H := C.1
  have ok := C.2.2.2.1.2.1
  have hR := ok.2.1
  rw [e_Lc_under]
  rcases Lc_nR C r (d + 3) with ⟨⟨r, hr, rfl⟩, e2⟩ | ⟨v, e2⟩
  · rw [g1_y (by omega) hr]
    obtain ⟨g, eg, qg, Cg, Lg⟩ := Lc_st C d
    have Hg := Cg.1
    have Hw := Lc_w Hg
    refine ⟨g, qg, Cg, ?_⟩
    obtain ⟨k, k1, k2, k3, k4, -⟩ := Lg
    simp (disch := first | assumption | omega) only [hc_ck, hc_gi, hc_gl, hc_gp, ap_I, ap_L, kd_I, kd_L, kd_P, kd_rI, ar_I, ar_L, ar_P, al_I, al_L, al_P, hop_s, cond_true, cond_false, pc_I_I, pc_L_L, pc_P_P, pc_I_L, pc_I_P, pc_L_I, pc_L_P, pc_P_I, pc_P_L, pc_sS_I, pc_sS_L, pc_sS_P, I_rI, L_rI, P_rI, S_rI, cv_r, ci_r, cl_r, o1_b, o1_0, o1_1, lc_e, nI_1, nI_add, if_true, if_false, Nat.reduceEqDiff, Nat.left_eq_add, Nat.add_eq_left, false_and, and_false, true_and, and_true, and_self, eq_self, Lc_k1, e2, eg, Lc_p1_11, Sa_k, Sa_p10, Sa_r4, SaC_u k4 hr]
  · rw [g1_n v]
    simp (disch := first | assumption | omega) only [hc_ck, hc_gi, hc_gl, hc_gp, ap_I, ap_L, kd_I, kd_L, kd_P, kd_rI, ar_I, ar_L, ar_P, al_I, al_L, al_P, hop_s, cond_true, cond_false, pc_I_I, pc_L_L, pc_P_P, pc_I_L, pc_I_P, pc_L_I, pc_L_P, pc_P_I, pc_P_L, pc_sS_I, pc_sS_L, pc_sS_P, I_rI, L_rI, P_rI, S_rI, cv_r, ci_r, cl_r, o1_b, o1_0, o1_1, lc_e, nI_1, nI_add, if_true, if_false, Nat.reduceEqDiff, Nat.left_eq_add, Nat.add_eq_left, false_and, and_false, true_and, and_true, and_self, eq_self, Lc_k1, e2, cv_e]
    exact QQ_n C
theorem LcL_h {h : am_H} {o : Nat} {O : o_T} {B : Nat → Prop} (L : LcL h o O B) : HiR h 54 O B := by
  obtain ⟨k, k1, k2, k3, k4, k5, k6, -⟩ := L
  exact k6
theorem Lc_q_node {h : am_H} {o : Nat} {O : o_T} {B : Nat → Prop} (C : CB h o O B) (i : Int32) (d : Nat) : QQ (f_Lc_node (d + 5) h 1 i) h o O B (g1 (o_N O) i 0 fun a => .inr (.int (q_nc O B a))) := by
  have H := C.1
  have ok := C.2.2.2.1.2.1
  have hN := ok.1
  rw [e_Lc_node]
  rcases Lc_nN C i (d + 3) with ⟨⟨a, ha, rfl⟩, e2⟩ | ⟨v, e2⟩
  · rw [g1_y (by omega) ha]
    obtain ⟨g, eg, qg, Cg, Lg⟩ := Lc_st C d
    have Hg := Cg.1
    have Hw := Lc_h Hg
    refine ⟨g, qg, Cg, ?_⟩
    simp (disch := first | assumption | omega) only [hc_ck, hc_gi, hc_gl, hc_gp, ap_I, ap_L, kd_I, kd_L, kd_P, kd_rI, ar_I, ar_L, ar_P, al_I, al_L, al_P, hop_s, cond_true, cond_false, pc_I_I, pc_L_L, pc_P_P, pc_I_L, pc_I_P, pc_L_I, pc_L_P, pc_P_I, pc_P_L, pc_sS_I, pc_sS_L, pc_sS_P, I_rI, L_rI, P_rI, S_rI, cv_r, ci_r, cl_r, o1_b, o1_0, o1_1, lc_e, nI_1, nI_add, if_true, if_false, Nat.reduceEqDiff, Nat.left_eq_add, Nat.add_eq_left, false_and, and_false, true_and, and_true, and_self, eq_self, Lc_k1, e2, eg, Lc_p1_12, Hi_k, Hi_p2, Hi_r1, (LcL_h Lg).2.2.1 a ha]
  · rw [g1_n v]
    simp (disch := first | assumption | omega) only [hc_ck, hc_gi, hc_gl, hc_gp, ap_I, ap_L, kd_I, kd_L, kd_P, kd_rI, ar_I, ar_L, ar_P, al_I, al_L, al_P, hop_s, cond_true, cond_false, pc_I_I, pc_L_L, pc_P_P, pc_I_L, pc_I_P, pc_L_I, pc_L_P, pc_P_I, pc_P_L, pc_sS_I, pc_sS_L, pc_sS_P, I_rI, L_rI, P_rI, S_rI, cv_r, ci_r, cl_r, o1_b, o1_0, o1_1, lc_e, nI_1, nI_add, if_true, if_false, Nat.reduceEqDiff, Nat.left_eq_add, Nat.add_eq_left, false_and, and_false, true_and, and_true, and_self, eq_self, Lc_k1, e2, cv_e]
    exact QQ_n C
theorem Lc_q_nothing {h : am_H} {o : Nat} {O : o_T} {B : Nat → Prop} (C : CB h o O B) (d : Nat) : QQ (f_Lc_nothing (d + 5) h 1) h o O B (.inr (.int (wI (fun a => a < o_N O ∧ q_vo O B a)))) := by
  have H := C.1
  rw [e_Lc_nothing]
  obtain ⟨g, eg, qg, Cg, Lg⟩ := Lc_st C d
  have Hg := Cg.1
  have Hw := Lc_h Hg
  refine ⟨g, qg, Cg, ?_⟩
  simp (disch := first | assumption | omega) only [hc_ck, hc_gi, hc_gl, hc_gp, ap_I, ap_L, kd_I, kd_L, kd_P, kd_rI, ar_I, ar_L, ar_P, al_I, al_L, al_P, hop_s, cond_true, cond_false, pc_I_I, pc_L_L, pc_P_P, pc_I_L, pc_I_P, pc_L_I, pc_L_P, pc_P_I, pc_P_L, pc_sS_I, pc_sS_L, pc_sS_P, I_rI, L_rI, P_rI, S_rI, cv_r, ci_r, cl_r, o1_b, o1_0, o1_1, lc_e, nI_1, nI_add, if_true, if_false, Nat.reduceEqDiff, Nat.left_eq_add, Nat.add_eq_left, false_and, and_false, true_and, and_true, and_self, eq_self, Lc_k1, eg, Lc_p1_12, Hi_k, (LcL_h Lg).2.1]
noncomputable def q_co (O : o_T) (B : Nat → Prop) (a b : Nat) : Nat ⊕ Value := @ite _ (q_vo O B a ∨ q_vo O B b) (Classical.propDecidable _) (.inl 2) (.inr (.int (wI (fun n => (q_ab O B a n ∧ q_ab O B b n) ∧ ¬ ∃ q, (q_ab O B a q ∧ q_ab O B b q) ∧ q_ov O B q n))))
theorem q_nc_v {O : o_T} {B : Nat → Prop} {a : Nat} (ok : o_ok O) (ha : a < o_N O) : (q_nc O B a = -1) ↔ q_vo O B a := by
  constructor
  · intro e
    apply Classical.byContradiction
    intro v
    by_cases t : q_tp O B a
    · rw [q_nc2 v t] at e
      exact absurd e (by decide)
    · have nv : q_nv O B a := ⟨ha, v, t⟩
      exact (q_nc0 (B := B) ok ha).mp (by rw [e]; decide) nv
  · exact q_nc1
theorem Lc_q_common {h : am_H} {o : Nat} {O : o_T} {B : Nat → Prop} (C : CB h o O B) (i j : Int32) (d : Nat) : QQ (f_Lc_common (d + 5) h 1 i j) h o O B (g1 (o_N O) i 0 fun a => g1 (o_N O) j 0 fun b => q_co O B a b) := by
  have H := C.1
  have ok := C.2.2.2.1.2.1
  have hN := ok.1
  rw [e_Lc_common]
  rcases Lc_nN C i (d + 3) with ⟨⟨a, ha, rfl⟩, e1⟩ | ⟨v, e1⟩
  · rw [g1_y (by omega) ha]
    rcases Lc_nN C j (d + 3) with ⟨⟨b, hb, rfl⟩, e2⟩ | ⟨v, e2⟩
    · rw [g1_y (by omega) hb]
      obtain ⟨g, eg, qg, Cg, Lg⟩ := Lc_st C d
      have Hg := Cg.1
      have Hw := Lc_h Hg
      have em := Hi_commonOf ok Hw (LcL_h Lg) ha hb (d + 3)
      simp (disch := first | assumption | omega) only [hc_ck, hc_gi, hc_gl, hc_gp, ap_I, ap_L, kd_I, kd_L, kd_P, kd_rI, ar_I, ar_L, ar_P, al_I, al_L, al_P, hop_s, cond_true, cond_false, pc_I_I, pc_L_L, pc_P_P, pc_I_L, pc_I_P, pc_L_I, pc_L_P, pc_P_I, pc_P_L, pc_sS_I, pc_sS_L, pc_sS_P, I_rI, L_rI, P_rI, S_rI, cv_r, ci_r, cl_r, o1_b, o1_0, o1_1, lc_e, nI_1, nI_add, if_true, if_false, Nat.reduceEqDiff, Nat.left_eq_add, Nat.add_eq_left, false_and, and_false, true_and, and_true, and_self, eq_self, Lc_k1, e1, e2, eg, Lc_p1_12, Hi_k, Hi_p2, Hi_r1, (LcL_h Lg).2.2.1 a ha, (LcL_h Lg).2.2.1 b hb, Lc_rf2, cv_e, em]
      unfold q_co
      by_cases c1 : q_vo O B a
      · rw [if_pos ((q_nc_v ok ha).mpr c1), if_pos (Or.inl c1)]
        exact ⟨g, qg, Cg, rfl⟩
      · rw [if_neg (fun e => c1 ((q_nc_v ok ha).mp e))]
        by_cases c2 : q_vo O B b
        · rw [if_pos ((q_nc_v ok hb).mpr c2), if_pos (Or.inr c2)]
          exact ⟨g, qg, Cg, rfl⟩
        · rw [if_neg (fun e => c2 ((q_nc_v ok hb).mp e)), if_neg (fun e => e.elim c1 c2)]
          exact ⟨g, qg, Cg, rfl⟩
    · rw [g1_n v]
      simp (disch := first | assumption | omega) only [hc_ck, hc_gi, hc_gl, hc_gp, ap_I, ap_L, kd_I, kd_L, kd_P, kd_rI, ar_I, ar_L, ar_P, al_I, al_L, al_P, hop_s, cond_true, cond_false, pc_I_I, pc_L_L, pc_P_P, pc_I_L, pc_I_P, pc_L_I, pc_L_P, pc_P_I, pc_P_L, pc_sS_I, pc_sS_L, pc_sS_P, I_rI, L_rI, P_rI, S_rI, cv_r, ci_r, cl_r, o1_b, o1_0, o1_1, lc_e, nI_1, nI_add, if_true, if_false, Nat.reduceEqDiff, Nat.left_eq_add, Nat.add_eq_left, false_and, and_false, true_and, and_true, and_self, eq_self, Lc_k1, e1, e2, cv_e]
      exact QQ_n C
  · rw [g1_n v]
    simp (disch := first | assumption | omega) only [hc_ck, hc_gi, hc_gl, hc_gp, ap_I, ap_L, kd_I, kd_L, kd_P, kd_rI, ar_I, ar_L, ar_P, al_I, al_L, al_P, hop_s, cond_true, cond_false, pc_I_I, pc_L_L, pc_P_P, pc_I_L, pc_I_P, pc_L_I, pc_L_P, pc_P_I, pc_P_L, pc_sS_I, pc_sS_L, pc_sS_P, I_rI, L_rI, P_rI, S_rI, cv_r, ci_r, cl_r, o1_b, o1_0, o1_1, lc_e, nI_1, nI_add, if_true, if_false, Nat.reduceEqDiff, Nat.left_eq_add, Nat.add_eq_left, false_and, and_false, true_and, and_true, and_self, eq_self, Lc_k1, e1, cv_e]
    exact QQ_n C
