/-! ===== the reference: reasons ===== -/
/-- what the rounds laid out stays -/
def keepL (f : Nat) (h h' : am_H) : Prop := am_I h' f 14 = am_I h f 14 ∧ am_I h' f 26 = am_I h f 26 ∧ ∀ b, f < b → b < f + 1529 → am_I h' b = am_I h b ∧ am_L h' b = am_L h b
theorem keepL_r (f : Nat) (h : am_H) : keepL f h h := ⟨rfl, rfl, fun _ _ _ => ⟨rfl, rfl⟩⟩
theorem keepL_t {f : Nat} {a b c : am_H} (h1 : keepL f a b) (h2 : keepL f b c) : keepL f a c := ⟨h2.1.trans h1.1, h2.2.1.trans h1.2.1, fun x p q => ⟨(h2.2.2 x p q).1.trans (h1.2.2 x p q).1, (h2.2.2 x p q).2.trans (h1.2.2 x p q).2⟩⟩
theorem keepL_z {f : Nat} {a b c : am_H} (h1 : am_I b f 14 = 0 ∨ keepL f a b) (h2 : am_I c f 14 = 0 ∨ keepL f b c) : am_I c f 14 = 0 ∨ keepL f a c := by
  rcases h2 with e | e
  · exact Or.inl e
  · exact h1.imp (fun q => e.1.trans q) (fun q => keepL_t q e)
def fRr (f : Nat) (h h' : am_H) : Prop := am_P h' = am_P h ∧ am_S h' = am_S h ∧ am_G h' = am_G h ∧ am_T h' = am_T h ∧ (∀ b, b ≠ f → b ≠ f + 1460 → b < f + 1462 ∨ f + 1522 ≤ b → am_I h' b = am_I h b) ∧ (∀ j, j ≠ 14 → j ≠ 26 → j ≠ 36 → am_I h' f j = am_I h f j) ∧ (∀ b, b ≠ f → b < f + 6 ∨ (f + 1460 ≤ b ∧ b ≠ f + 1529) → am_L h' b = am_L h b) ∧ (∀ j, j ≠ 37 → am_L h' f j = am_L h f j) ∧ (am_I h' f 14 = 0 ∨ keepL f h h')
theorem fRr_r (f : Nat) (h : am_H) : fRr f h h := ⟨rfl, rfl, rfl, rfl, fun _ _ _ _ => rfl, fun _ _ _ _ => rfl, fun _ _ _ => rfl, fun _ _ => rfl, Or.inr (keepL_r _ _)⟩
theorem fRr_t {f : Nat} {a b c : am_H} (h1 : fRr f a b) (h2 : fRr f b c) : fRr f a c := by
  obtain ⟨a1, a2, a3, a4, a5, a6, a7, a8, a9⟩ := h1
  obtain ⟨b1, b2, b3, b4, b5, b6, b7, b8, b9⟩ := h2
  exact ⟨b1.trans a1, b2.trans a2, b3.trans a3, b4.trans a4, fun x p q r => (b5 x p q r).trans (a5 x p q r), fun j p q r => (b6 j p q r).trans (a6 j p q r), fun x p q => (b7 x p q).trans (a7 x p q), fun j p => (b8 j p).trans (a8 j p), keepL_z a9 b9⟩
theorem fCl_Rr {f : Nat} {h h' : am_H} (q : fCl f h h') (z : am_I h' f 14 = 0 ∨ keepL f h h') : fRr f h h' := ⟨q.1, q.2.1, q.2.2.1, q.2.2.2.1, q.2.2.2.2.1, fun j p r _ => q.2.2.2.2.2.1 j p r, fun b _ p => q.2.2.2.2.2.2 b (by omega), fun j _ => by rw [q.2.2.2.2.2.2 f (by omega)], z⟩
theorem fRr_36 {f : Nat} {h0 h : am_H} (q : fRr f h0 h) (v : Int32) : fRr f h0 (am_sI h f 36 v) := by
  refine fRr_t q ⟨rfl, rfl, rfl, rfl, fun b p _ _ => ?_, fun i p r s => ?_, fun _ _ _ => rfl, fun _ _ => rfl, Or.inr ⟨?_, ?_, fun b p _ => ⟨?_, rfl⟩⟩⟩
  · funext i
    rw [pc_I_I, if_neg (by omega)]
  · rw [pc_I_I, if_neg (by omega)]
  · rw [pc_I_I, if_neg (by omega)]
  · rw [pc_I_I, if_neg (by omega)]
  · funext i
    rw [pc_I_I, if_neg (by omega)]
theorem fRr_37 {f : Nat} {h0 h : am_H} (q : fRr f h0 h) (v : Int64) : fRr f h0 (am_sL h f 37 v) := by
  refine fRr_t q ⟨rfl, rfl, rfl, rfl, fun _ _ _ _ => rfl, fun _ _ _ _ => rfl, fun b p _ => ?_, fun j p => ?_, Or.inr ⟨rfl, rfl, fun b p _ => ⟨rfl, ?_⟩⟩⟩
  · funext i
    rw [pc_L_L, if_neg (by omega)]
  · rw [pc_L_L, if_neg (by omega)]
  · funext i
    rw [pc_L_L, if_neg (by omega)]
theorem fRr_w {f : Nat} {h0 h : am_H} (q : fRr f h0 h) (i : Nat) (v : Int64) : fRr f h0 (am_sL h (f + 1529) i v) := by
  refine fRr_t q ⟨rfl, rfl, rfl, rfl, fun _ _ _ _ => rfl, fun _ _ _ _ => rfl, fun b p r => ?_, fun j p => ?_, Or.inr ⟨rfl, rfl, fun b p _ => ⟨rfl, ?_⟩⟩⟩
  · funext i
    rw [pc_L_L, if_neg (by omega)]
  · rw [pc_L_L, if_neg (by omega)]
  · funext i
    rw [pc_L_L, if_neg (by omega)]
/-- the reference's ontology and what is on -/
def RQ (h : am_H) (f : Nat) (O : o_T) (B : Nat → Prop) : Prop := RfAt h f ∧ RwR h (f + 3) O ∧ am_L h f 11 = wL B
theorem RQ_f {h h' : am_H} {f : Nat} {O : o_T} {B : Nat → Prop} (Q : RQ h f O B) (q : fRr f h h') : RQ h' f O B := ⟨RfAt_of Q.1 q.2.1 (fun b _ _ => by rw [q.1]), Rw_of Q.2.1 q.2.1 (q.2.2.2.2.1 _ (by omega) (by omega) (by omega)), by rw [q.2.2.2.2.2.2.2.1 11 (by omega)]; exact Q.2.2⟩
theorem RQ_c {h h' : am_H} {f : Nat} {O : o_T} {B : Nat → Prop} (Q : RQ h f O B) (q : fCl f h h') : RQ h' f O B := ⟨fCl_at q Q.1, fCl_rw q (Or.inl rfl) Q.2.1, by rw [q.2.2.2.2.2.2 f (by omega)]; exact Q.2.2⟩
theorem Rf_isSo {h : am_H} {f a b : Nat} {O : o_T} {B : Nat → Prop} (Q : RQ h f O B) (ha : a < o_N O) (hb : b < o_N O) (S : Nat → Prop) (d : Nat) : ∃ (h' : am_H) (v : Bool), f_Rf_isSo (d + 4) h f (wL S) (nI a) (nI b) = some (.inr (some (.int (bo v))), h') ∧ fCl f h h' ∧ am_I h' f 14 = 0 ∧ (v = true ↔ l_be O S (o_np O a) (o_np O b)) := by
  obtain ⟨H, R, -⟩ := Q
  have ok := R.2.1
  have hP := ok.2.2.2.1
  have pa := (o_np_s ok ha).1
  have pb := (o_np_s ok hb).1
  obtain ⟨g, n, eg, qg, g14, gU, gS⟩ := Rf_goesAll H R (Or.inl rfl) S d
  have Hg := fCl_at qg H
  have Rg := fCl_rw qg (Or.inl rfl) R
  obtain ⟨v, ev, hv⟩ := Rf_isBelow Hg (show o_np O a < 480 by omega) (show o_np O b < 64 by omega) (gS _ pa).1 (d + 2)
  refine ⟨g, v, ?_, qg, g14, hv⟩
  rw [e_Rf_isSo]
  simp (disch := first | assumption | omega) only [hc_ck, hc_gi, hc_gl, hc_gp, ap_I, ap_L, kd_I, kd_L, kd_P, kd_rI, ar_I, ar_L, ar_P, al_I, al_L, al_P, hop_s, cond_true, cond_false, pc_I_I, pc_L_L, pc_P_P, pc_I_L, pc_I_P, pc_L_I, pc_L_P, pc_P_I, pc_P_L, pc_sS_I, pc_sS_L, pc_sS_P, I_rI, L_rI, P_rI, S_rI, cv_r, ci_r, cl_r, o1_b, o1_0, o1_1, lc_e, nI_1, nI_add, if_true, if_false, Nat.reduceEqDiff, Nat.left_eq_add, Nat.add_eq_left, false_and, and_false, true_and, and_true, and_self, eq_self, Rf_k, Rf_p9, eg, Rf_namePart, ev]
theorem Rf_leaves {h : am_H} {f a b : Nat} {O : o_T} {B : Nat → Prop} (Q : RQ h f O B) (ha : a < o_N O) (hb : b < o_N O) (S : Nat → Prop) (d : Nat) : ∃ h', f_Rf_leaves (d + 5) h f (wL S) (nI a) (nI b) = some (.inr (some (.long (wL (m_sh (fun T => l_be O T (o_np O a) (o_np O b)) (o_A O) S)))), h') ∧ fCl f h h' ∧ (am_I h' f 14 = 0 ∨ keepL f h h') := by
  have okA := Q.2.1.2.1.2.2.2.2.1
  have key : ∀ k, k ≤ o_A O → ∀ u : am_H, fCl f h u → (am_I u f 14 = 0 ∨ keepL f h u) → ∃ h', f_Rf_leaves_6 (d + 5) u f (nI a) (nI b) (wL (m_sh (fun T => l_be O T (o_np O a) (o_np O b)) k S)) (nI k) = some (.inr (some (.long (wL (m_sh (fun T => l_be O T (o_np O a) (o_np O b)) (o_A O) S)))), h') ∧ fCl f h h' ∧ (am_I h' f 14 = 0 ∨ keepL f h h') := by
    refine dn ?_ ?_
    · intro u q z
      obtain ⟨H1, R1, -⟩ := RQ_c Q q
      refine ⟨u, ?_, q, z⟩
      rw [e_Rf_leaves_6]
      simp (disch := first | assumption | omega) only [hc_ck, hc_gi, hc_gl, hc_gp, ap_I, ap_L, kd_I, kd_L, kd_P, kd_rI, ar_I, ar_L, ar_P, al_I, al_L, al_P, hop_s, cond_true, cond_false, pc_I_I, pc_L_L, pc_P_P, pc_I_L, pc_I_P, pc_L_I, pc_L_P, pc_P_I, pc_P_L, pc_sS_I, pc_sS_L, pc_sS_P, I_rI, L_rI, P_rI, S_rI, cv_r, ci_r, cl_r, o1_b, o1_0, o1_1, lc_e, nI_1, nI_add, if_true, if_false, Nat.reduceEqDiff, Nat.left_eq_add, Nat.add_eq_left, false_and, and_false, true_and, and_true, and_self, eq_self, Rf_k, Rf_p9, n_3, Rw_ar, Rw_A, n_le, Nat.le_refl]
    · intro k hk ih u q z
      have Qu := RQ_c Q q
      have H1 := Qu.1
      have R1 := Qu.2.1
      have hk3 : ¬ o_A O ≤ k := by omega
      rw [e_Rf_leaves_6]
      simp (disch := first | assumption | omega) only [hc_ck, hc_gi, hc_gl, hc_gp, ap_I, ap_L, kd_I, kd_L, kd_P, kd_rI, ar_I, ar_L, ar_P, al_I, al_L, al_P, hop_s, cond_true, cond_false, pc_I_I, pc_L_L, pc_P_P, pc_I_L, pc_I_P, pc_L_I, pc_L_P, pc_P_I, pc_P_L, pc_sS_I, pc_sS_L, pc_sS_P, I_rI, L_rI, P_rI, S_rI, cv_r, ci_r, cl_r, o1_b, o1_0, o1_1, lc_e, nI_1, nI_add, if_true, if_false, Nat.reduceEqDiff, Nat.left_eq_add, Nat.add_eq_left, false_and, and_false, true_and, and_true, and_self, eq_self, Rf_k, Rf_p9, n_3, Rw_ar, Rw_A, n_le, hk3, Rf_has, bo_0, wL_rm]
      by_cases c : m_sh (fun T => l_be O T (o_np O a) (o_np O b)) k S k
      · simp (disch := first | assumption | omega) only [xl_wt (P := m_sh (fun T => l_be O T (o_np O a) (o_np O b)) k S) (show k < 64 by omega) c, Bool.true_eq_false, if_false]
        obtain ⟨v, t, ev, qv, v14, ht⟩ := Rf_isSo Qu ha hb (m_rm (m_sh (fun T => l_be O T (o_np O a) (o_np O b)) k S) k) d
        simp (disch := first | assumption | omega) only [hc_ck, hc_gi, hc_gl, hc_gp, ap_I, ap_L, kd_I, kd_L, kd_P, kd_rI, ar_I, ar_L, ar_P, al_I, al_L, al_P, hop_s, cond_true, cond_false, pc_I_I, pc_L_L, pc_P_P, pc_I_L, pc_I_P, pc_L_I, pc_L_P, pc_P_I, pc_P_L, pc_sS_I, pc_sS_L, pc_sS_P, I_rI, L_rI, P_rI, S_rI, cv_r, ci_r, cl_r, o1_b, o1_0, o1_1, lc_e, nI_1, nI_add, if_true, if_false, Nat.reduceEqDiff, Nat.left_eq_add, Nat.add_eq_left, false_and, and_false, true_and, and_true, and_self, eq_self, ev, bo_0]
        cases t with
        | true =>
          simp only [Bool.true_eq_false, if_false]
          rw [show wL (m_rm (m_sh (fun T => l_be O T (o_np O a) (o_np O b)) k S) k) = wL (m_sh (fun T => l_be O T (o_np O a) (o_np O b)) (k + 1) S) from wL_cong (fun j _ => ⟨fun e => ⟨e.1, fun q => e.2 q.1⟩, fun e => ⟨e.1, fun q => e.2 ⟨q, ht.mp rfl⟩⟩⟩)]
          exact ih v (fCl_t q qv) (Or.inl v14)
        | false =>
          simp only [if_true]
          rw [show wL (m_sh (fun T => l_be O T (o_np O a) (o_np O b)) k S) = wL (m_sh (fun T => l_be O T (o_np O a) (o_np O b)) (k + 1) S) from wL_cong (fun j _ => ⟨fun e => ⟨e, fun q => absurd (ht.mpr q.2) (by decide)⟩, And.left⟩)]
          exact ih v (fCl_t q qv) (Or.inl v14)
      · simp (disch := first | assumption | omega) only [xl_wf (P := m_sh (fun T => l_be O T (o_np O a) (o_np O b)) k S) (show k < 64 by omega) c, if_true]
        rw [show wL (m_sh (fun T => l_be O T (o_np O a) (o_np O b)) k S) = wL (m_sh (fun T => l_be O T (o_np O a) (o_np O b)) (k + 1) S) from wL_cong (fun j _ => ⟨fun e => ⟨e, fun q => c (q.1 ▸ e)⟩, And.left⟩)]
        exact ih u q z
  rw [e_Rf_leaves]
  exact key 0 (Nat.zero_le _) h (fCl_r _ _) (Or.inr (keepL_r _ _))
theorem Rf_needed57 {h : am_H} {f a b : Nat} {O : o_T} {B : Nat → Prop} (Q : RQ h f O B) (ha : a < o_N O) (hb : b < o_N O) (d : Nat) : ∃ h', f_Rf_needed_57 (d + 5) h f (nI a) (nI b) 0 0 = some (.inr (some (.long (wL (fun k => k < o_A O ∧ B k ∧ ¬ l_be O (m_rm B k) (o_np O a) (o_np O b))))), h') ∧ fCl f h h' ∧ (am_I h f 14 = 0 → am_I h' f 14 = 0) := by
  have okA := Q.2.1.2.1.2.2.2.2.1
  have key : ∀ k, k ≤ o_A O → ∀ (u : am_H) (w : Int64), fCl f h u → (am_I h f 14 = 0 → am_I u f 14 = 0) → w = wL (fun j => ∃ p, p < k ∧ (p = j ∧ B j ∧ ¬ l_be O (m_rm B j) (o_np O a) (o_np O b))) → ∃ h', f_Rf_needed_57 (d + 5) u f (nI a) (nI b) w (nI k) = some (.inr (some (.long (wL (fun k => k < o_A O ∧ B k ∧ ¬ l_be O (m_rm B k) (o_np O a) (o_np O b))))), h') ∧ fCl f h h' ∧ (am_I h f 14 = 0 → am_I h' f 14 = 0) := by
    refine dn ?_ ?_
    · intro u w q z hw
      obtain ⟨H1, R1, -⟩ := RQ_c Q q
      refine ⟨u, ?_, q, z⟩
      rw [e_Rf_needed_57]
      simp (disch := first | assumption | omega) only [hc_ck, hc_gi, hc_gl, hc_gp, ap_I, ap_L, kd_I, kd_L, kd_P, kd_rI, ar_I, ar_L, ar_P, al_I, al_L, al_P, hop_s, cond_true, cond_false, pc_I_I, pc_L_L, pc_P_P, pc_I_L, pc_I_P, pc_L_I, pc_L_P, pc_P_I, pc_P_L, pc_sS_I, pc_sS_L, pc_sS_P, I_rI, L_rI, P_rI, S_rI, cv_r, ci_r, cl_r, o1_b, o1_0, o1_1, lc_e, nI_1, nI_add, if_true, if_false, Nat.reduceEqDiff, Nat.left_eq_add, Nat.add_eq_left, false_and, and_false, true_and, and_true, and_self, eq_self, Rf_k, Rf_p9, n_3, Rw_ar, Rw_A, n_le, Nat.le_refl]
      apply rl_e
      rw [hw]
      exact wL_cong (fun j _ => ⟨fun ⟨p, c1, c2, c3⟩ => ⟨c2 ▸ c1, c3⟩, fun c => ⟨j, c.1, rfl, c.2⟩⟩)
    · intro k hk ih u w q z hw
      have Qu := RQ_c Q q
      have H1 := Qu.1
      have R1 := Qu.2.1
      have eB := Qu.2.2
      have hk3 : ¬ o_A O ≤ k := by omega
      rw [e_Rf_needed_57]
      simp (disch := first | assumption | omega) only [hc_ck, hc_gi, hc_gl, hc_gp, ap_I, ap_L, kd_I, kd_L, kd_P, kd_rI, ar_I, ar_L, ar_P, al_I, al_L, al_P, hop_s, cond_true, cond_false, pc_I_I, pc_L_L, pc_P_P, pc_I_L, pc_I_P, pc_L_I, pc_L_P, pc_P_I, pc_P_L, pc_sS_I, pc_sS_L, pc_sS_P, I_rI, L_rI, P_rI, S_rI, cv_r, ci_r, cl_r, o1_b, o1_0, o1_1, lc_e, nI_1, nI_add, if_true, if_false, Nat.reduceEqDiff, Nat.left_eq_add, Nat.add_eq_left, false_and, and_false, true_and, and_true, and_self, eq_self, Rf_k, Rf_p9, n_3, Rw_ar, Rw_A, n_le, hk3, eB, Rf_has, bo_0, wL_rm]
      by_cases c : B k
      · simp (disch := first | assumption | omega) only [xl_wt (P := B) (show k < 64 by omega) c, Bool.true_eq_false, if_false]
        obtain ⟨v, t, ev, qv, v14, ht⟩ := Rf_isSo Qu ha hb (m_rm B k) d
        simp (disch := first | assumption | omega) only [hc_ck, hc_gi, hc_gl, hc_gp, ap_I, ap_L, kd_I, kd_L, kd_P, kd_rI, ar_I, ar_L, ar_P, al_I, al_L, al_P, hop_s, cond_true, cond_false, pc_I_I, pc_L_L, pc_P_P, pc_I_L, pc_I_P, pc_L_I, pc_L_P, pc_P_I, pc_P_L, pc_sS_I, pc_sS_L, pc_sS_P, I_rI, L_rI, P_rI, S_rI, cv_r, ci_r, cl_r, o1_b, o1_0, o1_1, lc_e, nI_1, nI_add, if_true, if_false, Nat.reduceEqDiff, Nat.left_eq_add, Nat.add_eq_left, false_and, and_false, true_and, and_true, and_self, eq_self, ev, bo_0]
        cases t with
        | true =>
          simp only [Bool.true_eq_false, if_false]
          exact ih v w (fCl_t q qv) (fun _ => v14) (hw.trans (wk_n (fun j _ e => e.2.2 (e.1 ▸ ht.mp rfl))))
        | false =>
          simp only [if_true]
          refine ih v _ (fCl_t q qv) (fun _ => v14) ?_
          rw [hw]
          apply wk_s
          intro j hj
          rw [xl_b1 (by omega), decide_eq_true_iff]
          exact ⟨fun e => ⟨e.symm, e ▸ c, fun f => absurd (ht.mpr (e ▸ f)) (by decide)⟩, fun e => e.1.symm⟩
      · simp (disch := first | assumption | omega) only [xl_wf (P := B) (show k < 64 by omega) c, if_true]
        exact ih u w q z (hw.trans (wk_n (fun j _ e => c (e.1 ▸ e.2.1))))
  exact key 0 (Nat.zero_le _) h 0 (fCl_r _ _) id wk_0.symm
/-- reasons found, each once -/
def RfR (h : am_H) (f n : Nat) (r : Nat → Int64) (E : (Nat → Prop) → Prop) (B : Nat → Prop) : Prop := n ≤ 5 ∧ am_I h f 36 = nI n ∧ (∀ j, j < n → am_L h (f + 1529) j = r j) ∧ (∀ j, j < n → m_R E B (bs (r j))) ∧ (∀ i j, i < j → j < n → r i ≠ r j)
theorem RfR_f {h h' : am_H} {f n : Nat} {r : Nat → Int64} {E : (Nat → Prop) → Prop} {B : Nat → Prop} (R : RfR h f n r E B) (q : fCl f h h') : RfR h' f n r E B := by
  obtain ⟨a1, a2, a3, a4, a5⟩ := R
  refine ⟨a1, ?_, ?_, a4, a5⟩
  · rw [q.2.2.2.2.2.1 36 (by omega) (by omega)]; exact a2
  · rw [q.2.2.2.2.2.2 (f + 1529) (by omega)]; exact a3
theorem Rf_reasonWithout {h : am_H} {f a b n : Nat} {O : o_T} {B : Nat → Prop} {r : Nat → Int64} (Q : RQ h f O B) (hBA : ∀ k, B k → k < o_A O) (ha : a < o_N O) (hb : b < o_N O) (R : RfR h f n r (fun S => l_be O S (o_np O a) (o_np O b)) B) (hn : n ≤ 4) (P : Nat → Prop) (hP : ∀ k, P k → k < 64) (d : Nat) :
    (∃ h', f_Rf_reasonWithout (d + 6) h f (wL P) (nI a) (nI b) = some (.inr (some (.int (-1))), h') ∧ fRr f h h' ∧ RfR h' f n r (fun S => l_be O S (o_np O a) (o_np O b)) B ∧ ¬ l_be O (fun k => B k ∧ ¬ P k) (o_np O a) (o_np O b)) ∨
    (∃ (h' : am_H) (n' : Nat) (r' : Nat → Int64) (k : Nat), f_Rf_reasonWithout (d + 6) h f (wL P) (nI a) (nI b) = some (.inr (some (.int (nI k))), h') ∧ fRr f h h' ∧ RfR h' f n' r' (fun S => l_be O S (o_np O a) (o_np O b)) B ∧ n ≤ n' ∧ (∀ j, j < n → r' j = r j) ∧ k < n' ∧ ∀ j, bs (r' k) j → ¬ P j) := by
  have okA := Q.2.1.2.1.2.2.2.2.1
  obtain ⟨r1, r2, r3, r4, r5⟩ := R
  have R : RfR h f n r (fun S => l_be O S (o_np O a) (o_np O b)) B := ⟨r1, r2, r3, r4, r5⟩
  have key : ∀ i, i ≤ n → (∀ j, j < i → ∃ k, bs (r j) k ∧ P k) → (∃ h', f_Rf_reasonWithout_3 (d + 6) h f (wL P) (nI a) (nI b) (nI i) = some (.inr (some (.int (-1))), h') ∧ fRr f h h' ∧ RfR h' f n r (fun S => l_be O S (o_np O a) (o_np O b)) B ∧ ¬ l_be O (fun k => B k ∧ ¬ P k) (o_np O a) (o_np O b)) ∨
      (∃ (h' : am_H) (n' : Nat) (r' : Nat → Int64) (k : Nat), f_Rf_reasonWithout_3 (d + 6) h f (wL P) (nI a) (nI b) (nI i) = some (.inr (some (.int (nI k))), h') ∧ fRr f h h' ∧ RfR h' f n' r' (fun S => l_be O S (o_np O a) (o_np O b)) B ∧ n ≤ n' ∧ (∀ j, j < n → r' j = r j) ∧ k < n' ∧ ∀ j, bs (r' k) j → ¬ P j) := by
    obtain ⟨H1, R1, eB⟩ := Q
    have Q : RQ h f O B := ⟨H1, R1, eB⟩
    refine dn ?_ ?_
    · intro hall
      obtain ⟨g, t, eg, qg, g14, ht⟩ := Rf_isSo Q ha hb (fun k => B k ∧ ¬ P k) (d + 1)
      have Qg := RQ_c Q qg
      obtain ⟨Hg, Rg, eBg⟩ := Qg
      have Qg : RQ g f O B := ⟨Hg, Rg, eBg⟩
      have g36 : am_I g f 36 = nI n := by rw [qg.2.2.2.2.2.1 36 (by omega) (by omega)]; exact r2
      rw [e_Rf_reasonWithout_3]
      simp (disch := first | assumption | omega) only [hc_ck, hc_gi, hc_gl, hc_gp, ap_I, ap_L, kd_I, kd_L, kd_P, kd_rI, ar_I, ar_L, ar_P, al_I, al_L, al_P, hop_s, cond_true, cond_false, pc_I_I, pc_L_L, pc_P_P, pc_I_L, pc_I_P, pc_L_I, pc_L_P, pc_P_I, pc_P_L, pc_sS_I, pc_sS_L, pc_sS_P, I_rI, L_rI, P_rI, S_rI, cv_r, ci_r, cl_r, o1_b, o1_0, o1_1, lc_e, nI_1, nI_add, if_true, if_false, Nat.reduceEqDiff, Nat.left_eq_add, Nat.add_eq_left, false_and, and_false, true_and, and_true, and_self, eq_self, Rf_k, r2, n_le, Nat.le_refl, eB, wL_an, eg, bo_0]
      cases t with
      | false =>
        simp only [if_true]
        exact Or.inl ⟨g, rfl, fCl_Rr qg (Or.inl g14), RfR_f R qg, fun c => absurd (ht.mpr c) (by decide)⟩
      | true =>
        right
        obtain ⟨u, eu, qu, zu⟩ := Rf_leaves Qg ha hb (fun k => B k ∧ ¬ P k) d
        have Hu := fCl_at qu Hg
        have u36 : am_I u f 36 = nI n := by rw [qu.2.2.2.2.2.1 36 (by omega) (by omega)]; exact g36
        simp (disch := first | assumption | omega) only [hc_ck, hc_gi, hc_gl, hc_gp, ap_I, ap_L, kd_I, kd_L, kd_P, kd_rI, ar_I, ar_L, ar_P, al_I, al_L, al_P, hop_s, cond_true, cond_false, pc_I_I, pc_L_L, pc_P_P, pc_I_L, pc_I_P, pc_L_I, pc_L_P, pc_P_I, pc_P_L, pc_sS_I, pc_sS_L, pc_sS_P, I_rI, L_rI, P_rI, S_rI, cv_r, ci_r, cl_r, o1_b, o1_0, o1_1, lc_e, nI_1, nI_add, if_true, if_false, Nat.reduceEqDiff, Nat.left_eq_add, Nat.add_eq_left, false_and, and_false, true_and, and_true, and_self, eq_self, Bool.true_eq_false, Rf_k, Rf_p35, g36, eBg, wL_an, eu, Rf_r1529, u36, nI_pred]
        have hnew := m_Rs (l_beM O (o_np O a) (o_np O b)) (n := o_A O) (S := fun k => B k ∧ ¬ P k) (fun k c => hBA k c.1) (fun k (c : B k ∧ ¬ P k) => c.1) (ht.mp rfl)
        have hnlt : ∀ k, m_sh (fun S => l_be O S (o_np O a) (o_np O b)) (o_A O) (fun k => B k ∧ ¬ P k) k → k < 64 := fun k c => by have := hBA k (m_shs c).1; omega
        refine ⟨_, n + 1, fun j => if j = n then wL (m_sh (fun S => l_be O S (o_np O a) (o_np O b)) (o_A O) (fun k => B k ∧ ¬ P k)) else r j, n, rfl, fRr_36 (fRr_w (fRr_t (fCl_Rr qg (Or.inl g14)) (fCl_Rr qu zu)) _ _) _, ⟨by omega, ?_, ?_, ?_, ?_⟩, by omega, fun j hj => if_neg (by omega), by omega, ?_⟩
        · simp only [hc_ck, hc_gi, hc_gl, hc_gp, ap_I, ap_L, kd_I, kd_L, kd_P, kd_rI, ar_I, ar_L, ar_P, al_I, al_L, al_P, hop_s, cond_true, cond_false, pc_I_I, pc_L_L, pc_P_P, pc_I_L, pc_I_P, pc_L_I, pc_L_P, pc_P_I, pc_P_L, pc_sS_I, pc_sS_L, pc_sS_P, I_rI, L_rI, P_rI, S_rI, cv_r, ci_r, cl_r, o1_b, o1_0, o1_1, lc_e, nI_1, nI_add, if_true, if_false, Nat.reduceEqDiff, Nat.left_eq_add, Nat.add_eq_left, false_and, and_false, true_and, and_true, and_self, eq_self]
        · intro j hj
          simp only [hc_ck, hc_gi, hc_gl, hc_gp, ap_I, ap_L, kd_I, kd_L, kd_P, kd_rI, ar_I, ar_L, ar_P, al_I, al_L, al_P, hop_s, cond_true, cond_false, pc_I_I, pc_L_L, pc_P_P, pc_I_L, pc_I_P, pc_L_I, pc_L_P, pc_P_I, pc_P_L, pc_sS_I, pc_sS_L, pc_sS_P, I_rI, L_rI, P_rI, S_rI, cv_r, ci_r, cl_r, o1_b, o1_0, o1_1, lc_e, nI_1, nI_add, if_true, if_false, Nat.reduceEqDiff, Nat.left_eq_add, Nat.add_eq_left, false_and, and_false, true_and, and_true, and_self, eq_self]
          by_cases e : j = n
          · rw [if_pos e, if_pos e]
          · rw [if_neg e, if_neg e, qu.2.2.2.2.2.2 (f + 1529) (by omega), qg.2.2.2.2.2.2 (f + 1529) (by omega)]
            exact r3 j (by omega)
        · intro j hj
          by_cases e : j = n
          · simp only [e, if_true]
            rw [bs_L hnlt]; exact hnew
          · simp only [e, if_false]
            exact r4 j (by omega)
        · intro i j hij hj
          have e1 : ¬ i = n := by omega
          simp only [e1, if_false]
          by_cases e : j = n
          · simp only [e, if_true]
            intro e2
            obtain ⟨k, k1, k2⟩ := hall i (by omega)
            rw [e2, bs_L hnlt] at k1
            exact (m_shs k1).2 k2
          · simp only [e, if_false]
            exact r5 i j hij (by omega)
        · intro j hj
          simp only [if_true] at hj
          rw [bs_L hnlt] at hj
          exact (m_shs hj).2
    · intro i hi ih hall
      have hi3 : ¬ n ≤ i := by omega
      rw [e_Rf_reasonWithout_3]
      simp (disch := first | assumption | omega) only [hc_ck, hc_gi, hc_gl, hc_gp, ap_I, ap_L, kd_I, kd_L, kd_P, kd_rI, ar_I, ar_L, ar_P, al_I, al_L, al_P, hop_s, cond_true, cond_false, pc_I_I, pc_L_L, pc_P_P, pc_I_L, pc_I_P, pc_L_I, pc_L_P, pc_P_I, pc_P_L, pc_sS_I, pc_sS_L, pc_sS_P, I_rI, L_rI, P_rI, S_rI, cv_r, ci_r, cl_r, o1_b, o1_0, o1_1, lc_e, nI_1, nI_add, if_true, if_false, Nat.reduceEqDiff, Nat.left_eq_add, Nat.add_eq_left, false_and, and_false, true_and, and_true, and_self, eq_self, Rf_k, r2, n_le, hi3, Rf_p35, Rf_r1529, r3 i hi]
      have ew : r i &&& wL P = 0 ↔ ∀ k, bs (r i) k → ¬ P k := by
        rw [← bs_w (r i), wL_a0]
        constructor
        · intro q k hk hp
          rw [bs_w] at hk
          exact q ⟨k, hP k hp, hk, hp⟩
        · rintro q ⟨k, -, hk, hp⟩
          exact q k (by rw [bs_w]; exact hk) hp
      by_cases c : ∀ k, bs (r i) k → ¬ P k
      · rw [if_pos (ew.mpr c)]
        exact Or.inr ⟨h, n, r, i, rfl, fRr_r _ _, R, Nat.le_refl _, fun _ _ => rfl, hi, c⟩
      · rw [if_neg (fun q => c (ew.mp q))]
        apply ih
        intro j hj
        by_cases e : j = i
        · subst e
          apply Classical.byContradiction
          intro q
          exact c (fun k a b => q ⟨k, a, b⟩)
        · exact hall j (by omega)
  rw [e_Rf_reasonWithout]
  exact key 0 (Nat.zero_le _) (fun j hj => absurd hj (Nat.not_lt_zero j))
