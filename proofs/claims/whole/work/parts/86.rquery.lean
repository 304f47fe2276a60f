/-! ===== the reference: questions ===== -/
def fW (f : Nat) (h h' : am_H) : Prop := am_P h' = am_P h ∧ am_S h' = am_S h ∧ am_G h' = am_G h ∧ am_T h' = am_T h ∧ (∀ b, b ≠ f → b < f + 6 ∨ f + 1535 ≤ b → am_I h' b = am_I h b ∧ am_L h' b = am_L h b) ∧ (∀ j, j ≠ 0 → j ≠ 14 → j ≠ 15 → j ≠ 26 → j ≠ 34 → j ≠ 36 → am_I h' f j = am_I h f j) ∧ (∀ j, j ≠ 37 → am_L h' f j = am_L h f j)
theorem fW_r (f : Nat) (h : am_H) : fW f h h := ⟨rfl, rfl, rfl, rfl, fun _ _ _ => ⟨rfl, rfl⟩, fun _ _ _ _ _ _ _ => rfl, fun _ _ => rfl⟩
theorem fW_t {f : Nat} {a b c : am_H} (h1 : fW f a b) (h2 : fW f b c) : fW f a c := by
  obtain ⟨a1, a2, a3, a4, a5, a6, a7⟩ := h1
  obtain ⟨b1, b2, b3, b4, b5, b6, b7⟩ := h2
  exact ⟨b1.trans a1, b2.trans a2, b3.trans a3, b4.trans a4, fun x p q => ⟨(b5 x p q).1.trans (a5 x p q).1, (b5 x p q).2.trans (a5 x p q).2⟩, fun j p1 p2 p3 p4 p5 p6 => (b6 j p1 p2 p3 p4 p5 p6).trans (a6 j p1 p2 p3 p4 p5 p6), fun j p => (b7 j p).trans (a7 j p)⟩
theorem fRr_W {f : Nat} {h h' : am_H} (q : fRr f h h') : fW f h h' := ⟨q.1, q.2.1, q.2.2.1, q.2.2.2.1, fun b p r => ⟨q.2.2.2.2.1 b p (by omega) (by omega), q.2.2.2.2.2.2.1 b p (by omega)⟩, fun j _ p _ r _ s => q.2.2.2.2.2.1 j p r s, q.2.2.2.2.2.2.2.1⟩
theorem fCl_W {f : Nat} {h h' : am_H} (q : fCl f h h') : fW f h h' := ⟨q.1, q.2.1, q.2.2.1, q.2.2.2.1, fun b p r => ⟨q.2.2.2.2.1 b p (by omega) (by omega), q.2.2.2.2.2.2 b (by omega)⟩, fun j _ p _ r _ _ => q.2.2.2.2.2.1 j p r, fun j _ => by rw [q.2.2.2.2.2.2 f (by omega)]⟩
theorem fNd_W {f : Nat} {h h' : am_H} (q : fNd f h h') : fW f h h' := ⟨q.2.1, q.2.2.1, q.2.2.2.1, q.2.2.2.2.1, fun b p r => ⟨q.2.2.2.2.2.1 b p (by omega), by rw [q.1]⟩, fun j _ _ p _ r _ => q.2.2.2.2.2.2 j p r, fun j _ => by rw [q.1]⟩
theorem RfL_k {f : Nat} {O : o_T} {B : Nat → Prop} {h h' : am_H} (hP : o_P O ≤ 60) (q : keepL f h h') (L : RfL h f O B) : RfL h' f O B := by
  obtain ⟨k, k1, k2, k3, k4, k5, k6⟩ := L
  refine ⟨k, k1, k2, ?_, fun r hr => ?_, fun x hx => ⟨?_, fun r hr => ?_⟩, fun x y hx hy => ?_⟩
  · rw [q.2.1]; exact k3
  · rw [(q.2.2 (f + 1460) (by omega) (by omega)).1]; exact k4 r hr
  · rw [(q.2.2 (f + 6) (by omega) (by omega)).2]; exact (k5 x hx).1
  · rw [(q.2.2 (f + 9 + x) (by omega) (by omega)).2]; exact (k5 x hx).2 r hr
  · rw [(q.2.2 (f + 1462 + x) (by omega) (by omega)).1]; exact k6 x y hx hy
/-- the reference between calls -/
def RB (h : am_H) (f : Nat) (O : o_T) (B : Nat → Prop) : Prop := RfAt h f ∧ RwR h (f + 3) O ∧ am_L h f 11 = wL B ∧ (∀ k, B k → k < o_A O) ∧ (am_I h f 14 = 0 ∨ (am_I h f 14 = 1 ∧ RfL h f O B)) ∧ (am_I h f 15 = 0 ∨ (am_I h f 15 = 1 ∧ RfN h f O B))
theorem RB_Q {h : am_H} {f : Nat} {O : o_T} {B : Nat → Prop} (C : RB h f O B) : RQ h f O B := ⟨C.1, C.2.1, C.2.2.1⟩
theorem RfN_i {f : Nat} {O : o_T} {B : Nat → Prop} {h h' : am_H} (e : am_I h' f 34 = am_I h f 34) (q : ∀ b, f + 1522 ≤ b → b < f + 1529 → am_I h' b = am_I h b) (L : RfN h f O B) : RfN h' f O B := by
  unfold RfN at *
  rw [e, q (f + 1522) (by omega) (by omega), q (f + 1524) (by omega) (by omega), q (f + 1525) (by omega) (by omega), q (f + 1526) (by omega) (by omega), q (f + 1527) (by omega) (by omega), q (f + 1528) (by omega) (by omega)]
  exact L
theorem RB_Rr {h h' : am_H} {f : Nat} {O : o_T} {B : Nat → Prop} (C : RB h f O B) (q : fRr f h h') : RB h' f O B := by
  obtain ⟨c1, c2, c3, c4, c5, c6⟩ := C
  obtain ⟨d1, d2, d3⟩ := RQ_f ⟨c1, c2, c3⟩ q
  refine ⟨d1, d2, d3, c4, ?_, ?_⟩
  · rcases q.2.2.2.2.2.2.2.2 with e | e
    · exact Or.inl e
    · rw [e.1]
      exact c5.imp id (fun p => ⟨p.1, RfL_k c2.2.1.2.2.2.1 e p.2⟩)
  · rw [q.2.2.2.2.2.1 15 (by omega) (by omega) (by omega)]
    exact c6.imp id (fun p => ⟨p.1, RfN_i (q.2.2.2.2.2.1 34 (by omega) (by omega) (by omega)) (fun b r s => q.2.2.2.2.1 b (by omega) (by omega) (by omega)) p.2⟩)
theorem RB_0 {h : am_H} {f : Nat} {O : o_T} {B : Nat → Prop} (C : RB h f O B) (v : Int32) : RB (am_sI h f 0 v) f O B ∧ fW f h (am_sI h f 0 v) := by
  obtain ⟨c1, c2, c3, c4, c5, c6⟩ := C
  have eb : ∀ b, b ≠ f → am_I (am_sI h f 0 v) b = am_I h b := fun b p => by
    funext i
    rw [pc_I_I, if_neg (by omega)]
  have ej : ∀ j, j ≠ 0 → am_I (am_sI h f 0 v) f j = am_I h f j := fun j p => by rw [pc_I_I, if_neg (by omega)]
  have k : keepL f h (am_sI h f 0 v) := ⟨ej 14 (by omega), ej 26 (by omega), fun b p _ => ⟨eb b (by omega), rfl⟩⟩
  refine ⟨⟨RfAt_of c1 rfl (fun _ _ _ => rfl), Rw_of c2 rfl (eb _ (by omega)), c3, c4, ?_, ?_⟩, rfl, rfl, rfl, rfl, fun b p _ => ⟨eb b p, rfl⟩, fun j p _ _ _ _ _ => ej j p, fun _ _ => rfl⟩
  · rw [ej 14 (by omega)]
    exact c5.imp id (fun p => ⟨p.1, RfL_k c2.2.1.2.2.2.1 k p.2⟩)
  · rw [ej 15 (by omega)]
    exact c6.imp id (fun p => ⟨p.1, RfN_i (ej 34 (by omega)) (fun b r s => eb b (by omega)) p.2⟩)
theorem RB_b {h : am_H} {f : Nat} {O : o_T} {B : Nat → Prop} (C : RB h f O B) : ∃ g, am_sI h f 0 0 = g ∧ RB g f O B ∧ fW f h g ∧ am_I g f 0 = 0 := ⟨_, rfl, (RB_0 C 0).1, (RB_0 C 0).2, by rw [pc_I_I, if_pos ⟨rfl, rfl⟩]⟩
theorem Rf_cl {h : am_H} {f : Nat} {O : o_T} {B : Nat → Prop} (C : RB h f O B) (d : Nat) : ∃ h', f_Rf_classifies (d + 3) h f = some (.inr none, h') ∧ fW f h h' ∧ RB h' f O B ∧ RfL h' f O B ∧ am_I h' f 0 = am_I h f 0 := by
  obtain ⟨c1, c2, c3, c4, c5, c6⟩ := C
  obtain ⟨g, eg, qg, g14, gL⟩ := Rf_classifies c1 c2 c3 c5 d
  obtain ⟨d1, d2, d3⟩ := RQ_c ⟨c1, c2, c3⟩ qg
  refine ⟨g, eg, fCl_W qg, ⟨d1, d2, d3, c4, Or.inr ⟨g14, gL⟩, ?_⟩, gL, qg.2.2.2.2.2.1 0 (by omega) (by omega)⟩
  rw [qg.2.2.2.2.2.1 15 (by omega) (by omega)]
  exact c6.imp id (fun p => ⟨p.1, RfN_i (qg.2.2.2.2.2.1 34 (by omega) (by omega)) (fun b r s => qg.2.2.2.2.1 b (by omega) (by omega) (by omega)) p.2⟩)
theorem Rf_ln {h : am_H} {f : Nat} {O : o_T} {B : Nat → Prop} (C : RB h f O B) (d : Nat) : ∃ h', f_Rf_laysNodes (d + 4) h f = some (.inr none, h') ∧ fW f h h' ∧ RB h' f O B ∧ RfL h' f O B ∧ RfN h' f O B ∧ am_I h' f 0 = am_I h f 0 := by
  obtain ⟨c1, c2, c3, c4, c5, c6⟩ := C
  obtain ⟨g, u, eu, qg, qu, u14, uL, u15, uN⟩ := Rf_laysNodes c1 c2 c3 c5 c6 d
  obtain ⟨d1, d2, d3⟩ := RQ_c ⟨c1, c2, c3⟩ qg
  refine ⟨u, eu, fW_t (fCl_W qg) (fNd_W qu), ⟨fNd_at qu d1, fNd_rw qu (Or.inl rfl) d2, by rw [qu.1]; exact d3, c4, Or.inr ⟨u14, uL⟩, Or.inr ⟨u15, uN⟩⟩, uL, uN, ?_⟩
  rw [qu.2.2.2.2.2.2 0 (by omega) (by omega), qg.2.2.2.2.2.1 0 (by omega) (by omega)]
/-- what it refuses -/
def rr (f E : Nat) (c : Int32) (h : am_H) : am_H := am_sI (am_sI h f 0 c) (f + 1) E (am_I h (f + 1) E + 1)
theorem Rf_bad0 {h : am_H} {f : Nat} (H : RfAt h f) (e0 : am_I h f 0 = 0) (c E : Int32) (d : Nat) : f_Rf_bad d h f 0 c E = some (.inr (some (.int 0)), h) := by
  rw [e_Rf_bad]
  simp (disch := first | assumption | omega) only [hc_ck, hc_gi, hc_gl, hc_gp, ap_I, ap_L, kd_I, kd_L, kd_P, kd_rI, ar_I, ar_L, ar_P, al_I, al_L, al_P, hop_s, cond_true, cond_false, pc_I_I, pc_L_L, pc_P_P, pc_I_L, pc_I_P, pc_L_I, pc_L_P, pc_P_I, pc_P_L, pc_sS_I, pc_sS_L, pc_sS_P, I_rI, L_rI, P_rI, S_rI, cv_r, ci_r, cl_r, o1_b, o1_0, o1_1, lc_e, nI_1, nI_add, if_true, if_false, Nat.reduceEqDiff, Nat.left_eq_add, Nat.add_eq_left, false_and, and_false, true_and, and_true, and_self, eq_self, Rf_k, e0]
theorem Rf_bad1 {h : am_H} {f : Nat} (H : RfAt h f) (e0 : am_I h f 0 = 0) {c : Int32} (hc : ¬ c = 0) {E : Nat} (hE : E < 3) (d : Nat) : f_Rf_bad d h f 1 c (nI E) = some (.inr (some (.int 1)), rr f E c h) := by
  have e1 : ¬ f = f + 1 := by omega
  rw [e_Rf_bad]
  simp (disch := first | assumption | omega) only [hc_ck, hc_gi, hc_gl, hc_gp, ap_I, ap_L, kd_I, kd_L, kd_P, kd_rI, ar_I, ar_L, ar_P, al_I, al_L, al_P, hop_s, cond_true, cond_false, pc_I_I, pc_L_L, pc_P_P, pc_I_L, pc_I_P, pc_L_I, pc_L_P, pc_P_I, pc_P_L, pc_sS_I, pc_sS_L, pc_sS_P, I_rI, L_rI, P_rI, S_rI, cv_r, ci_r, cl_r, o1_b, o1_0, o1_1, lc_e, nI_1, nI_add, if_true, if_false, Nat.reduceEqDiff, Nat.left_eq_add, Nat.add_eq_left, false_and, and_false, true_and, and_true, and_self, eq_self, Rf_k, e0, Rf_p1, Rf_r1, show ¬ (1 : Int32) = 0 by decide, e1, hc]
  rfl
theorem vi_in {n : Nat} (hn : n < 2147483648) (h : am_H) (i : Int32) (d : Nat) : f_Rf_in d h i 0 (nI n - 1) = some (.inr (some (.int (bo (pd (vi n i))))), h) := by
  rw [e_Rf_in]
  by_cases v : vi n i
  · rw [pd_t v]
    obtain ⟨k, hk, rfl⟩ := v
    obtain ⟨m, rfl⟩ : ∃ m, n = m + 1 := ⟨n - 1, by omega⟩
    rw [if_neg (vi_0 hn hk)]
    simp (disch := first | assumption | omega) only [nI_pred, n_lt, show ¬ m < k by omega, if_false]
    rfl
  · rw [pd_f v]
    by_cases c : i < 0
    · rw [if_pos c]; rfl
    · rw [if_neg c, if_pos ?_]
      · rfl
      · have q := vi_n hn v c
        rw [Int32.lt_iff_toInt_lt] at *
        rw [show (0 : Int32).toInt = 0 from rfl] at c
        rw [nI_toInt hn] at q
        cases n with
        | zero =>
          rw [show (nI 0 - 1 : Int32).toInt = -1 by decide]
          omega
        | succ m =>
          rw [nI_pred, nI_toInt (by omega)]
          omega
theorem vi_inc {n : Nat} (hn : n < 100) (h : am_H) (i : Int32) (d : Nat) : f_Rf_in d h i 0 (nI n) = some (.inr (some (.int (bo (pd (vi (n + 1) i))))), h) := by
  rw [← vi_in (by omega), nI_pred]
theorem Rw_ar0 {h : am_H} {r : Nat} {O : o_T} (H : RwR h r O) (g : Nat → Option am_R) : am_ar h 9 r 0 g = g 0 := Rw_ar H (k := 0) (by omega) g
theorem Rw_ar1 {h : am_H} {r : Nat} {O : o_T} (H : RwR h r O) (g : Nat → Option am_R) : am_ar h 9 r 1 g = g 1 := Rw_ar H (k := 1) (by omega) g
theorem Rw_ar2 {h : am_H} {r : Nat} {O : o_T} (H : RwR h r O) (g : Nat → Option am_R) : am_ar h 9 r 2 g = g 2 := Rw_ar H (k := 2) (by omega) g
theorem Rw_ar3 {h : am_H} {r : Nat} {O : o_T} (H : RwR h r O) (g : Nat → Option am_R) : am_ar h 9 r 3 g = g 3 := Rw_ar H (k := 3) (by omega) g
theorem Rf_isP {h : am_H} {f : Nat} {O : o_T} {B : Nat → Prop} (C : RB h f O B) (i : Int32) (d : Nat) : f_Rf_isPart (d + 1) h f i = some (.inr (some (.int (bo (pd (vi (o_P O) i))))), h) := by
  have H := C.1
  have R := C.2.1
  have hP := R.2.1.2.2.2.1
  rw [e_Rf_isPart]
  simp (disch := first | assumption | omega) only [hc_ck, hc_gi, hc_gl, hc_gp, ap_I, ap_L, kd_I, kd_L, kd_P, kd_rI, ar_I, ar_L, ar_P, al_I, al_L, al_P, hop_s, cond_true, cond_false, pc_I_I, pc_L_L, pc_P_P, pc_I_L, pc_I_P, pc_L_I, pc_L_P, pc_P_I, pc_P_L, pc_sS_I, pc_sS_L, pc_sS_P, I_rI, L_rI, P_rI, S_rI, cv_r, ci_r, cl_r, o1_b, o1_0, o1_1, lc_e, nI_1, nI_add, if_true, if_false, Nat.reduceEqDiff, Nat.left_eq_add, Nat.add_eq_left, false_and, and_false, true_and, and_true, and_self, eq_self, Rf_k, Rf_p9, Rw_ar2, Rw_P, vi_in]
theorem Rf_isN {h : am_H} {f : Nat} {O : o_T} {B : Nat → Prop} (C : RB h f O B) (i : Int32) (d : Nat) : f_Rf_isName (d + 1) h f i = some (.inr (some (.int (bo (pd (vi (o_N O) i))))), h) := by
  have H := C.1
  have R := C.2.1
  have hP := R.2.1.1
  rw [e_Rf_isName]
  simp (disch := first | assumption | omega) only [hc_ck, hc_gi, hc_gl, hc_gp, ap_I, ap_L, kd_I, kd_L, kd_P, kd_rI, ar_I, ar_L, ar_P, al_I, al_L, al_P, hop_s, cond_true, cond_false, pc_I_I, pc_L_L, pc_P_P, pc_I_L, pc_I_P, pc_L_I, pc_L_P, pc_P_I, pc_P_L, pc_sS_I, pc_sS_L, pc_sS_P, I_rI, L_rI, P_rI, S_rI, cv_r, ci_r, cl_r, o1_b, o1_0, o1_1, lc_e, nI_1, nI_add, if_true, if_false, Nat.reduceEqDiff, Nat.left_eq_add, Nat.add_eq_left, false_and, and_false, true_and, and_true, and_self, eq_self, Rf_k, Rf_p9, Rw_ar0, Rw_N, vi_in]
/-- how the reference answers -/
def RR (r : Option am_R) (h : am_H) (f : Nat) (O : o_T) (B : Nat → Prop) (c : Nat → Int32) (z : Value) (a : Nat ⊕ Value) : Prop := ∃ h', fW f h h' ∧ RB h' f O B ∧ am_I h' f 0 = 0 ∧ match a with
  | .inr v => r = some (.inr (some v), h')
  | .inl E => r = some (.inr (some z), rr f E (c E) h')
theorem Rf_q_below {h : am_H} {f : Nat} {O : o_T} {B : Nat → Prop} (C : RB h f O B) (i j : Int32) (d : Nat) : RR (f_Rf_below (d + 4) h f i j) h f O B (fun _ => 1) (.int 0) (g1 (o_P O) i 0 fun x => g1 (o_P O) j 0 fun y => .inr (.int (bo (pd (l_be O B x y))))) := by
  have H := C.1
  have hP := C.2.1.2.1.2.2.2.1
  obtain ⟨g, e0, Cg, Wg, z0⟩ := RB_b C
  have Hg := Cg.1
  have b1 := Rf_bad1 Hg z0 (c := 1) (by decide) (E := 0) (by omega) (d + 3)
  rw [← n_0] at b1
  rw [e_Rf_below]
  simp (disch := first | assumption | omega) only [hc_ck, hc_gi, hc_gl, hc_gp, ap_I, ap_L, kd_I, kd_L, kd_P, kd_rI, ar_I, ar_L, ar_P, al_I, al_L, al_P, hop_s, cond_true, cond_false, pc_I_I, pc_L_L, pc_P_P, pc_I_L, pc_I_P, pc_L_I, pc_L_P, pc_P_I, pc_P_L, pc_sS_I, pc_sS_L, pc_sS_P, I_rI, L_rI, P_rI, S_rI, cv_r, ci_r, cl_r, o1_b, o1_0, o1_1, lc_e, nI_1, nI_add, if_true, if_false, Nat.reduceEqDiff, Nat.left_eq_add, Nat.add_eq_left, false_and, and_false, true_and, and_true, and_self, eq_self, Rf_k, e0, Rf_isP Cg]
  by_cases v1 : vi (o_P O) i
  · obtain ⟨x, hx, rfl⟩ := v1
    rw [g1_y (by omega) hx]
    by_cases v2 : vi (o_P O) j
    · obtain ⟨y, hy, rfl⟩ := v2
      rw [g1_y (by omega) hy]
      obtain ⟨u, eu, Wu, Cu, Lu, u0⟩ := Rf_cl Cg d
      have Hu := Cu.1
      obtain ⟨k, k1, k2, k3, k4, k5, k6⟩ := Lu
      obtain ⟨b, eb, hb⟩ := Rf_isBelow Hu (show x < 480 by omega) (show y < 64 by omega) (k5 x hx).1 (d + 2)
      refine ⟨u, fW_t Wg Wu, Cu, u0.trans z0, ?_⟩
      simp (disch := first | assumption | omega) only [hc_ck, hc_gi, hc_gl, hc_gp, ap_I, ap_L, kd_I, kd_L, kd_P, kd_rI, ar_I, ar_L, ar_P, al_I, al_L, al_P, hop_s, cond_true, cond_false, pc_I_I, pc_L_L, pc_P_P, pc_I_L, pc_I_P, pc_L_I, pc_L_P, pc_P_I, pc_P_L, pc_sS_I, pc_sS_L, pc_sS_P, I_rI, L_rI, P_rI, S_rI, cv_r, ci_r, cl_r, o1_b, o1_0, o1_1, lc_e, nI_1, nI_add, if_true, if_false, Nat.reduceEqDiff, Nat.left_eq_add, Nat.add_eq_left, false_and, and_false, true_and, and_true, and_self, eq_self, Rf_k, bo_0, pd_t (show vi (o_P O) (nI x) from ⟨x, hx, rfl⟩), pd_t (show vi (o_P O) (nI y) from ⟨y, hy, rfl⟩), Bool.true_eq_false, Rf_bad0 Hg z0, eu, eb]
      rw [pd_e hb]
      rfl
    · rw [g1_n v2]
      refine ⟨g, Wg, Cg, z0, ?_⟩
      simp (disch := first | assumption | omega) only [hc_ck, hc_gi, hc_gl, hc_gp, ap_I, ap_L, kd_I, kd_L, kd_P, kd_rI, ar_I, ar_L, ar_P, al_I, al_L, al_P, hop_s, cond_true, cond_false, pc_I_I, pc_L_L, pc_P_P, pc_I_L, pc_I_P, pc_L_I, pc_L_P, pc_P_I, pc_P_L, pc_sS_I, pc_sS_L, pc_sS_P, I_rI, L_rI, P_rI, S_rI, cv_r, ci_r, cl_r, o1_b, o1_0, o1_1, lc_e, nI_1, nI_add, if_true, if_false, Nat.reduceEqDiff, Nat.left_eq_add, Nat.add_eq_left, false_and, and_false, true_and, and_true, and_self, eq_self, Rf_k, bo_0, pd_t (show vi (o_P O) (nI x) from ⟨x, hx, rfl⟩), pd_f v2, Bool.true_eq_false, b1, show ¬ (1 : Int32) = 0 by decide]
  · rw [g1_n v1]
    refine ⟨g, Wg, Cg, z0, ?_⟩
    simp (disch := first | assumption | omega) only [hc_ck, hc_gi, hc_gl, hc_gp, ap_I, ap_L, kd_I, kd_L, kd_P, kd_rI, ar_I, ar_L, ar_P, al_I, al_L, al_P, hop_s, cond_true, cond_false, pc_I_I, pc_L_L, pc_P_P, pc_I_L, pc_I_P, pc_L_I, pc_L_P, pc_P_I, pc_P_L, pc_sS_I, pc_sS_L, pc_sS_P, I_rI, L_rI, P_rI, S_rI, cv_r, ci_r, cl_r, o1_b, o1_0, o1_1, lc_e, nI_1, nI_add, if_true, if_false, Nat.reduceEqDiff, Nat.left_eq_add, Nat.add_eq_left, false_and, and_false, true_and, and_true, and_self, eq_self, Rf_k, bo_0, pd_f v1, b1, show ¬ (1 : Int32) = 0 by decide]
