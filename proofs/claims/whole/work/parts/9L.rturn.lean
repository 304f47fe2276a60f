/-! ===== turn, undo: the reference ===== -/
def fRt (f : Nat) (h h' : am_H) : Prop := am_S h' = am_S h ∧ am_G h' = am_G h ∧ am_T h' = am_T h ∧ am_P h' = am_P h ∧ (∀ b, b ≠ f → am_L h' b = am_L h b) ∧ (∀ b, b ≠ f → b ≠ f + 5 → am_I h' b = am_I h b) ∧ (∀ j, j ≠ 0 → j ≠ 13 → j ≠ 14 → j ≠ 15 → am_I h' f j = am_I h f j)
theorem fRt_t {f : Nat} {a b c : am_H} (h1 : fRt f a b) (h2 : fRt f b c) : fRt f a c := ⟨h2.1.trans h1.1, h2.2.1.trans h1.2.1, h2.2.2.1.trans h1.2.2.1, h2.2.2.2.1.trans h1.2.2.2.1, fun b p => (h2.2.2.2.2.1 b p).trans (h1.2.2.2.2.1 b p), fun b p q => (h2.2.2.2.2.2.1 b p q).trans (h1.2.2.2.2.2.1 b p q), fun j p q r s => (h2.2.2.2.2.2.2 j p q r s).trans (h1.2.2.2.2.2.2 j p q r s)⟩
theorem RB_tu {h h' : am_H} {f : Nat} {O : o_T} {B B' : Nat → Prop} (C : RB h f O B) (q : fRt f h h') (hL : am_L h' f 11 = wL B') (hB : ∀ k, B' k → k < o_A O) (h14 : am_I h' f 14 = 0) (h15 : am_I h' f 15 = 0) : RB h' f O B' := by
  obtain ⟨c1, c2, c3, c4, c5, c6⟩ := C
  exact ⟨RfAt_of c1 q.1 (fun _ _ _ => by rw [q.2.2.2.1]), Rw_of c2 q.1 (q.2.2.2.2.2.1 _ (by omega) (by omega)), hL, hB, Or.inl h14, Or.inl h15⟩
/-- the reference's switch: what is stored last -/
theorem Rf_tuE {h : am_H} {f t k : Nat} {O : o_T} {B : Nat → Prop} (C : RB h f O B) (hk : k < o_A O) : ∃ h', h' = am_sI (am_sI (am_sL (am_sI (am_sI h (f + 5) t (nI k)) f 13 (nI (t + 1))) f 11 (wL (flp B k))) f 14 0) f 15 0 ∧ fRt f h h' ∧ RB h' f O (flp B k) ∧ am_I h' f 0 = am_I h f 0 ∧ am_I h' f 13 = nI (t + 1) ∧ ∀ j, am_I h' (f + 5) j = if j = t then nI k else am_I h (f + 5) j := by
  have hA := C.2.1.2.1.2.2.2.2.1
  obtain ⟨h', e'⟩ : ∃ h', h' = am_sI (am_sI (am_sL (am_sI (am_sI h (f + 5) t (nI k)) f 13 (nI (t + 1))) f 11 (wL (flp B k))) f 14 0) f 15 0 := ⟨_, rfl⟩
  have rI : ∀ b j, am_I (am_sL (am_sI (am_sI h (f + 5) t (nI k)) f 13 (nI (t + 1))) f 11 (wL (flp B k))) b j = am_I (am_sI (am_sI h (f + 5) t (nI k)) f 13 (nI (t + 1))) b j := fun _ _ => rfl
  have fr : fRt f h h' := by
    rw [e']
    refine ⟨rfl, rfl, rfl, rfl, fun b p => ?_, fun b p q => ?_, fun j p q r s => ?_⟩
    · funext j
      show am_L (am_sL (am_sI (am_sI h (f + 5) t (nI k)) f 13 (nI (t + 1))) f 11 (wL (flp B k))) b j = am_L h b j
      rw [pc_L_L, if_neg (by omega)]
      rfl
    · funext j
      rw [pc_I_I, if_neg (by omega), pc_I_I, if_neg (by omega), rI, pc_I_I, if_neg (by omega), pc_I_I, if_neg (by omega)]
    · rw [pc_I_I, if_neg (by omega), pc_I_I, if_neg (by omega), rI, pc_I_I, if_neg (by omega), pc_I_I, if_neg (by omega)]
  have eL : am_L h' f 11 = wL (flp B k) := by
    rw [e']
    show am_L (am_sL (am_sI (am_sI h (f + 5) t (nI k)) f 13 (nI (t + 1))) f 11 (wL (flp B k))) f 11 = _
    rw [pc_L_L, if_pos ⟨rfl, rfl⟩]
  have e14 : am_I h' f 14 = 0 := by rw [e', pc_I_I, if_neg (by omega), pc_I_I, if_pos ⟨rfl, rfl⟩]
  have e15 : am_I h' f 15 = 0 := by rw [e', pc_I_I, if_pos ⟨rfl, rfl⟩]
  refine ⟨h', e', fr, RB_tu C fr eL (flp_b hk C.2.2.2.1) e14 e15, ?_, ?_, ?_⟩
  · rw [e', pc_I_I, if_neg (by omega), pc_I_I, if_neg (by omega), rI, pc_I_I, if_neg (by omega), pc_I_I, if_neg (by omega)]
  · rw [e', pc_I_I, if_neg (by omega), pc_I_I, if_neg (by omega), rI, pc_I_I, if_pos ⟨rfl, rfl⟩]
  · intro j
    rw [e', pc_I_I, if_neg (by omega), pc_I_I, if_neg (by omega), rI, pc_I_I, if_neg (by omega), pc_I_I]
    by_cases e : j = t
    · rw [if_pos ⟨rfl, e⟩, if_pos e]
    · rw [if_neg (fun q => e q.2), if_neg e]
theorem Rf_alt {h : am_H} {f : Nat} (H : RfAt h f) (d : Nat) : f_Rf_alters d h f = some (.inr none, am_sI (am_sI h f 14 0) f 15 0) := by
  rw [e_Rf_alters]
  simp (disch := first | assumption | omega) only [hc_ck, hc_gi, hc_gl, hc_gp, ap_I, ap_L, kd_I, kd_L, kd_P, kd_rI, ar_I, ar_L, ar_P, al_I, al_L, al_P, hop_s, cond_true, cond_false, pc_I_I, pc_L_L, pc_P_P, pc_I_L, pc_I_P, pc_L_I, pc_L_P, pc_P_I, pc_P_L, pc_sS_I, pc_sS_L, pc_sS_P, I_rI, L_rI, P_rI, S_rI, cv_r, ci_r, cl_r, o1_b, o1_0, o1_1, lc_e, nI_1, nI_add, if_true, if_false, Nat.reduceEqDiff, Nat.left_eq_add, Nat.add_eq_left, false_and, and_false, true_and, and_true, and_self, eq_self, Rf_k]
theorem Rf_t48 {h : am_H} {f k : Nat} {O : o_T} {B : Nat → Prop} (C : RB h f O B) (h13 : am_I h f 13 = nI 20) (hk : k < o_A O) (d : Nat) : ∀ n, n ≤ 20 → 1 ≤ n → ∀ g : am_H, (∀ b, b ≠ f + 5 → am_I g b = am_I h b) → (am_S g = am_S h ∧ am_G g = am_G h ∧ am_T g = am_T h ∧ am_P g = am_P h ∧ am_L g = am_L h) → (∀ j, j < n - 1 → am_I g (f + 5) j = am_I h (f + 5) (j + 1)) → (∀ j, n - 1 ≤ j → am_I g (f + 5) j = am_I h (f + 5) j) → ∃ h', f_Rf_turn_48 (d + 1) g f (nI k) (nI n) = some (.inr (some (.int (bo (pd (¬ B k))))), h') ∧ fRt f h h' ∧ RB h' f O (flp B k) ∧ am_I h' f 0 = am_I h f 0 ∧ am_I h' f 13 = nI 20 ∧ ∀ j, j < 20 → am_I h' (f + 5) j = if j = 19 then nI k else am_I h (f + 5) (j + 1) := by
  have hA := C.2.1.2.1.2.2.2.2.1
  refine dn ?_ ?_
  · intro _ g hI hh a1 a2
    have hI3 : ∀ b, b ≠ f + 5 → am_I (am_sI g f 13 (nI 19)) b = if b = f then am_I (am_sI g f 13 (nI 19)) f else am_I h b := fun b p => by
      by_cases e : b = f
      · rw [if_pos e, e]
      · rw [if_neg e]
        funext j
        rw [pc_I_I, if_neg (by omega), hI b p]
    have Cg : RB (am_sI g f 13 (nI 19)) f O B := RB_gen C hh.1 hh.2.2.2.1 hh.2.2.2.2 (fun b p => by
        rw [hI3 b (by omega), if_neg (by omega)]) (fun j p => by rw [pc_I_I, if_neg (by omega), hI f (by omega)])
    have Hg : RfAt g f := RfAt_of C.1 hh.1 (fun _ _ _ => by rw [hh.2.2.2.1])
    have H1 := Cg.1
    obtain ⟨u, eu, qu, Cu, u0, u13, u5⟩ := Rf_tuE (t := 19) Cg hk
    have Hu := Cu.1
    have g13 : am_I g f 13 = nI 20 := by rw [hI f (by omega)]; exact h13
    have fr : fRt f h (am_sI g f 13 (nI 19)) := ⟨hh.1, hh.2.1, hh.2.2.1, hh.2.2.2.1, fun b _ => by
        show am_L g b = am_L h b
        rw [hh.2.2.2.2], fun b p q => by rw [hI3 b q, if_neg p], fun j _ p _ _ => by rw [pc_I_I, if_neg (by omega), hI f (by omega)]⟩
    refine ⟨u, ?_, fRt_t fr qu, Cu, ?_, u13, ?_⟩
    · rw [e_Rf_turn_48, if_pos (by decide), ← flp_k]
      have e19 : ¬ f = f + 5 := by omega
      have Hx : RfAt (am_sL (am_sI (am_sI (am_sI g f 13 (nI 19)) (f + 5) 19 (nI k)) f 13 (nI (19 + 1))) f 11 (wL (flp B k))) f := RfAt_of Hg rfl (fun _ _ _ => rfl)
      have al := Rf_alt Hx d
      rw [← eu] at al
      simp (disch := first | assumption | omega) only [hc_ck, hc_gi, hc_gl, hc_gp, ap_I, ap_L, kd_I, kd_L, kd_P, kd_rI, ar_I, ar_L, ar_P, al_I, al_L, al_P, hop_s, cond_true, cond_false, pc_I_I, pc_L_L, pc_P_P, pc_I_L, pc_I_P, pc_L_I, pc_L_P, pc_P_I, pc_P_L, pc_sS_I, pc_sS_L, pc_sS_P, I_rI, L_rI, P_rI, S_rI, cv_r, ci_r, cl_r, o1_b, o1_0, o1_1, lc_e, nI_1, nI_add, if_true, if_false, Nat.reduceEqDiff, Nat.left_eq_add, Nat.add_eq_left, false_and, and_false, true_and, and_true, and_self, eq_self, Rf_k, g13, show nI 20 - 1 = nI 19 by decide, Rf_p12, Rf_r5, Cg.2.2.1, flp_w (show k < 64 by omega), e19, show am_L g f 11 = wL B from Cg.2.2.1, al]
      simp (disch := first | assumption | omega) only [hc_ck, hc_gi, hc_gl, hc_gp, ap_I, ap_L, kd_I, kd_L, kd_P, kd_rI, ar_I, ar_L, ar_P, al_I, al_L, al_P, hop_s, cond_true, cond_false, pc_I_I, pc_L_L, pc_P_P, pc_I_L, pc_I_P, pc_L_I, pc_L_P, pc_P_I, pc_P_L, pc_sS_I, pc_sS_L, pc_sS_P, I_rI, L_rI, P_rI, S_rI, cv_r, ci_r, cl_r, o1_b, o1_0, o1_1, lc_e, nI_1, nI_add, if_true, if_false, Nat.reduceEqDiff, Nat.left_eq_add, Nat.add_eq_left, false_and, and_false, true_and, and_true, and_self, eq_self, Rf_k, Cu.2.2.1, Rf_has, xl_pd, bo_0]
      cases pd (flp B k k) <;> rfl
    · rw [u0, pc_I_I, if_neg (by omega), hI f (by omega)]
    · intro j hj
      rw [u5 j]
      by_cases e : j = 19
      · rw [if_pos e, if_pos e]
      · rw [if_neg e, if_neg e, pc_I_I, if_neg (by omega)]
        exact a1 j (by omega)
  · intro n hn ih h1 g hI hh a1 a2
    have Hg : RfAt g f := RfAt_of C.1 hh.1 (fun _ _ _ => by rw [hh.2.2.2.1])
    obtain ⟨m, rfl⟩ : ∃ m, n = m + 1 := ⟨n - 1, by omega⟩
    have hn3 : ¬ 20 ≤ m + 1 := by omega
    rw [e_Rf_turn_48]
    simp (disch := first | assumption | omega) only [hc_ck, hc_gi, hc_gl, hc_gp, ap_I, ap_L, kd_I, kd_L, kd_P, kd_rI, ar_I, ar_L, ar_P, al_I, al_L, al_P, hop_s, cond_true, cond_false, pc_I_I, pc_L_L, pc_P_P, pc_I_L, pc_I_P, pc_L_I, pc_L_P, pc_P_I, pc_P_L, pc_sS_I, pc_sS_L, pc_sS_P, I_rI, L_rI, P_rI, S_rI, cv_r, ci_r, cl_r, o1_b, o1_0, o1_1, lc_e, nI_1, nI_add, if_true, if_false, Nat.reduceEqDiff, Nat.left_eq_add, Nat.add_eq_left, false_and, and_false, true_and, and_true, and_self, eq_self, show (20 : Int32) = nI 20 from rfl, n_le, hn3, Rf_k, Rf_p12, Rf_r5, nI_pred]
    refine ih (by omega) _ (fun b p => ?_) ⟨hh.1, hh.2.1, hh.2.2.1, hh.2.2.2.1, hh.2.2.2.2⟩ (fun j hj => ?_) (fun j hj => ?_)
    · funext j
      rw [pc_I_I, if_neg (by omega), hI b p]
    · rw [pc_I_I]
      by_cases e : j = m
      · rw [if_pos ⟨rfl, e⟩, a2 (m + 1) (by omega), e]
      · rw [if_neg (fun q => e q.2)]
        exact a1 j (by omega)
    · rw [pc_I_I, if_neg (by omega)]
      exact a2 j (by omega)
theorem Rf_turn {h : am_H} {f : Nat} {O : o_T} {B : Nat → Prop} {x : XT} (C : RB h f O B) (X : RX h f x) (i : Int32) (d : Nat) : (∃ k, k < o_A O ∧ i = nI k ∧ ∃ h', f_Rf_turn (d + 2) h f i = some (.inr (some (.int (bo (pd (¬ B k))))), h') ∧ fRt f h h' ∧ RB h' f O (flp B k) ∧ am_I h' f 0 = 0 ∧ RX h' f (xt k x)) ∨ (¬ vi (o_A O) i ∧ f_Rf_turn (d + 2) h f i = some (.inr (some (.int 0)), rr f 0 1 (am_sI h f 0 0))) := by
  have H := C.1
  have hA := C.2.1.2.1.2.2.2.2.1
  obtain ⟨g, e0, Cg, Wg, z0⟩ := RB_b C
  have Hg := Cg.1
  have Rg := Cg.2.1
  obtain ⟨x1, x2, x3, x4, x5, x6, x7, x8⟩ := RX_W Wg X
  have b1 := Rf_bad1 Hg z0 (c := 1) (by decide) (E := 0) (by omega) (d + 1)
  rw [← n_0] at b1
  have fg : fRt f h g := by
    rw [← e0]
    refine ⟨rfl, rfl, rfl, rfl, fun _ _ => rfl, fun b p _ => ?_, fun j p _ _ _ => ?_⟩
    · funext j
      rw [pc_I_I, if_neg (by omega)]
    · rw [pc_I_I, if_neg (by omega)]
  rw [e_Rf_turn, lz_k (Rf_k H), e0]
  simp (disch := first | assumption | omega) only [hc_ck, hc_gi, hc_gl, hc_gp, ap_I, ap_L, kd_I, kd_L, kd_P, kd_rI, ar_I, ar_L, ar_P, al_I, al_L, al_P, hop_s, cond_true, cond_false, pc_I_I, pc_L_L, pc_P_P, pc_I_L, pc_I_P, pc_L_I, pc_L_P, pc_P_I, pc_P_L, pc_sS_I, pc_sS_L, pc_sS_P, I_rI, L_rI, P_rI, S_rI, cv_r, ci_r, cl_r, o1_b, o1_0, o1_1, lc_e, nI_1, nI_add, if_true, if_false, Nat.reduceEqDiff, Nat.left_eq_add, Nat.add_eq_left, false_and, and_false, true_and, and_true, and_self, eq_self, Rf_k, Rf_p9, Rw_ar3, Rw_A, vi_in]
  by_cases v : vi (o_A O) i
  · rw [pd_t v]
    obtain ⟨k, hk, rfl⟩ := v
    refine Or.inl ⟨k, hk, rfl, ?_⟩
    rw [bo_t, if_neg (by decide), e_Rf_turn_27, lz_k (Rf_k Hg), lz_ci (Rf_bad0 Hg z0 1 0 (d + 1)), if_pos rfl, lz_i (Rf_k Hg) x6]
    by_cases c : x.2.2.2.2.1 = 20
    · rw [if_pos (by rw [c]; rfl)]
      rw [c] at x6 x7
      obtain ⟨u, eu, qu, Cu, u0, u13, u5⟩ := Rf_t48 Cg x6 hk (d + 1) 1 (by omega) (by omega) g (fun _ _ => rfl) ⟨rfl, rfl, rfl, rfl, rfl⟩ (fun j hj => absurd hj (Nat.not_lt_zero j)) (fun _ _ => rfl)
      obtain ⟨q1, q2, q3, q4, q5, q6, q7⟩ := qu
      refine ⟨u, eu, fRt_t fg ⟨q1, q2, q3, q4, q5, q6, q7⟩, Cu, u0.trans z0, x1, ?_, ?_, ?_, ?_, ?_, ?_, ?_⟩
      · rw [q7 2 (by omega) (by omega) (by omega) (by omega)]; exact x2
      · intro j hj
        rw [q6 (f + 2) (by omega) (by omega)]; exact x3 j hj
      · rw [q7 5 (by omega) (by omega) (by omega) (by omega)]; exact x4
      · show (if x.2.2.2.2.1 = 20 then 20 else x.2.2.2.2.1 + 1) ≤ 20
        rw [if_pos c]
        exact Nat.le_refl _
      · show am_I u f 13 = nI (if x.2.2.2.2.1 = 20 then 20 else x.2.2.2.2.1 + 1)
        rw [if_pos c, u13]
      · intro j hj
        have hj2 : j < 20 := by
          have : j < (if x.2.2.2.2.1 = 20 then 20 else x.2.2.2.2.1 + 1) := hj
          rw [if_pos c] at this
          exact this
        show am_I u (f + 5) j = nI (if x.2.2.2.2.1 = 20 then (if j < 19 then x.2.2.2.1 (j + 1) else k) else if j < x.2.2.2.2.1 then x.2.2.2.1 j else k)
        rw [u5 j hj2, if_pos c]
        by_cases e : j = 19
        · rw [if_pos e, if_neg (by omega)]
        · rw [if_neg e, if_pos (by omega)]
          exact x7 (j + 1) (by omega)
      · intro j hj
        rw [q6 (f + 1) (by omega) (by omega)]; exact x8 j hj
    · rw [if_neg (by rw [show (20 : Int32) = nI 20 from rfl, nI_e32 (by omega) (by omega)]; exact c)]
      obtain ⟨u, eu, qu, Cu, u0, u13, u5⟩ := Rf_tuE (t := x.2.2.2.2.1) Cg hk
      have Hu := Cu.1
      obtain ⟨q1, q2, q3, q4, q5, q6, q7⟩ := qu
      refine ⟨u, ?_, fRt_t fg ⟨q1, q2, q3, q4, q5, q6, q7⟩, Cu, u0.trans z0, x1, ?_, ?_, ?_, ?_, ?_, ?_, ?_⟩
      · rw [← flp_k]
        have e19 : ¬ f = f + 5 := by omega
        have Hx : RfAt (am_sL (am_sI (am_sI g (f + 5) x.2.2.2.2.1 (nI k)) f 13 (nI (x.2.2.2.2.1 + 1))) f 11 (wL (flp B k))) f := RfAt_of Hg rfl (fun _ _ _ => rfl)
        have al := Rf_alt Hx (d + 1)
        rw [← eu] at al
        simp (disch := first | assumption | omega) only [hc_ck, hc_gi, hc_gl, hc_gp, ap_I, ap_L, kd_I, kd_L, kd_P, kd_rI, ar_I, ar_L, ar_P, al_I, al_L, al_P, hop_s, cond_true, cond_false, pc_I_I, pc_L_L, pc_P_P, pc_I_L, pc_I_P, pc_L_I, pc_L_P, pc_P_I, pc_P_L, pc_sS_I, pc_sS_L, pc_sS_P, I_rI, L_rI, P_rI, S_rI, cv_r, ci_r, cl_r, o1_b, o1_0, o1_1, lc_e, nI_1, nI_add, if_true, if_false, Nat.reduceEqDiff, Nat.left_eq_add, Nat.add_eq_left, false_and, and_false, true_and, and_true, and_self, eq_self, Rf_k, Rf_p12, x6, Rf_r5, Cg.2.2.1, flp_w (show k < 64 by omega), e19, al]
        simp (disch := first | assumption | omega) only [hc_ck, hc_gi, hc_gl, hc_gp, ap_I, ap_L, kd_I, kd_L, kd_P, kd_rI, ar_I, ar_L, ar_P, al_I, al_L, al_P, hop_s, cond_true, cond_false, pc_I_I, pc_L_L, pc_P_P, pc_I_L, pc_I_P, pc_L_I, pc_L_P, pc_P_I, pc_P_L, pc_sS_I, pc_sS_L, pc_sS_P, I_rI, L_rI, P_rI, S_rI, cv_r, ci_r, cl_r, o1_b, o1_0, o1_1, lc_e, nI_1, nI_add, if_true, if_false, Nat.reduceEqDiff, Nat.left_eq_add, Nat.add_eq_left, false_and, and_false, true_and, and_true, and_self, eq_self, Rf_k, Cu.2.2.1, Rf_has, xl_pd, bo_0]
        cases pd (flp B k k) <;> rfl
      · rw [q7 2 (by omega) (by omega) (by omega) (by omega)]; exact x2
      · intro j hj
        rw [q6 (f + 2) (by omega) (by omega)]; exact x3 j hj
      · rw [q7 5 (by omega) (by omega) (by omega) (by omega)]; exact x4
      · show (if x.2.2.2.2.1 = 20 then 20 else x.2.2.2.2.1 + 1) ≤ 20
        rw [if_neg c]
        omega
      · show am_I u f 13 = nI (if x.2.2.2.2.1 = 20 then 20 else x.2.2.2.2.1 + 1)
        rw [if_neg c, u13]
      · intro j hj
        have hj2 : j < x.2.2.2.2.1 + 1 := by
          have : j < (if x.2.2.2.2.1 = 20 then 20 else x.2.2.2.2.1 + 1) := hj
          rw [if_neg c] at this
          exact this
        show am_I u (f + 5) j = nI (if x.2.2.2.2.1 = 20 then (if j < 19 then x.2.2.2.1 (j + 1) else k) else if j < x.2.2.2.2.1 then x.2.2.2.1 j else k)
        rw [u5 j, if_neg c]
        by_cases e : j = x.2.2.2.2.1
        · rw [if_pos e, if_neg (by omega)]
        · rw [if_neg e, if_pos (by omega)]
          exact x7 j (by omega)
      · intro j hj
        rw [q6 (f + 1) (by omega) (by omega)]; exact x8 j hj
  · refine Or.inr ⟨v, ?_⟩
    rw [pd_f v, bo_f, if_pos rfl, e_Rf_turn_27, lz_k (Rf_k Hg), lz_ci b1, if_neg (by decide)]
theorem Rf_undo {h : am_H} {f : Nat} {O : o_T} {B : Nat → Prop} {x : XT} (C : RB h f O B) (X : RX h f x) (hT : ∀ k, k < x.2.2.2.2.1 → x.2.2.2.1 k < o_A O) (d : Nat) : (0 < x.2.2.2.2.1 ∧ ∃ h', f_Rf_undo (d + 1) h f = some (.inr (some (.int (nI (x.2.2.2.2.1 - 1)))), h') ∧ fRt f h h' ∧ RB h' f O (flp B (x.2.2.2.1 (x.2.2.2.2.1 - 1))) ∧ am_I h' f 0 = 0 ∧ RX h' f (xu x)) ∨ (x.2.2.2.2.1 = 0 ∧ f_Rf_undo (d + 1) h f = some (.inr (some (.int (-1))), am_sI h f 0 0)) := by
  have H := C.1
  have hA := C.2.1.2.1.2.2.2.2.1
  obtain ⟨g, e0, Cg, Wg, z0⟩ := RB_b C
  have Hg := Cg.1
  obtain ⟨x1, x2, x3, x4, x5, x6, x7, x8⟩ := RX_W Wg X
  have fg : fRt f h g := by
    rw [← e0]
    refine ⟨rfl, rfl, rfl, rfl, fun _ _ => rfl, fun b p _ => ?_, fun j p _ _ _ => ?_⟩
    · funext j
      rw [pc_I_I, if_neg (by omega)]
    · rw [pc_I_I, if_neg (by omega)]
  rw [e_Rf_undo, lz_k (Rf_k H), e0, lz_i (Rf_k Hg) x6]
  by_cases c : x.2.2.2.2.1 = 0
  · refine Or.inr ⟨c, ?_⟩
    rw [c, if_pos (by decide)]
  · refine Or.inl ⟨by omega, ?_⟩
    rw [if_neg (by rw [n_0, nI_e32 (by omega) (by omega)]; exact c)]
    obtain ⟨t, ht⟩ : ∃ t, x.2.2.2.2.1 = t + 1 := ⟨x.2.2.2.2.1 - 1, by omega⟩
    rw [ht] at x5 x6 x7 hT
    rw [show x.2.2.2.2.1 - 1 = t by omega]
    have hk := hT t (by omega)
    have e40 := x7 t (by omega)
    obtain ⟨k, ek⟩ : ∃ k, x.2.2.2.1 t = k := ⟨_, rfl⟩
    rw [ek] at hk e40
    rw [ek]
    obtain ⟨h', e'⟩ : ∃ h', h' = am_sI (am_sI (am_sL (am_sI g f 13 (nI t)) f 11 (wL (flp B k))) f 14 0) f 15 0 := ⟨_, rfl⟩
    have rI : ∀ b j, am_I (am_sL (am_sI g f 13 (nI t)) f 11 (wL (flp B k))) b j = am_I (am_sI g f 13 (nI t)) b j := fun _ _ => rfl
    have fr : fRt f g h' := by
      rw [e']
      refine ⟨rfl, rfl, rfl, rfl, fun b p => ?_, fun b p q => ?_, fun j p q r s => ?_⟩
      · funext j
        show am_L (am_sL (am_sI g f 13 (nI t)) f 11 (wL (flp B k))) b j = am_L g b j
        rw [pc_L_L, if_neg (by omega)]
        rfl
      · funext j
        rw [pc_I_I, if_neg (by omega), pc_I_I, if_neg (by omega), rI, pc_I_I, if_neg (by omega)]
      · rw [pc_I_I, if_neg (by omega), pc_I_I, if_neg (by omega), rI, pc_I_I, if_neg (by omega)]
    have eL : am_L h' f 11 = wL (flp B k) := by
      rw [e']
      show am_L (am_sL (am_sI g f 13 (nI t)) f 11 (wL (flp B k))) f 11 = _
      rw [pc_L_L, if_pos ⟨rfl, rfl⟩]
    have e14 : am_I h' f 14 = 0 := by rw [e', pc_I_I, if_neg (by omega), pc_I_I, if_pos ⟨rfl, rfl⟩]
    have e15 : am_I h' f 15 = 0 := by rw [e', pc_I_I, if_pos ⟨rfl, rfl⟩]
    have e13 : am_I h' f 13 = nI t := by rw [e', pc_I_I, if_neg (by omega), pc_I_I, if_neg (by omega), rI, pc_I_I, if_pos ⟨rfl, rfl⟩]
    have e00 : am_I h' f 0 = am_I g f 0 := by rw [e', pc_I_I, if_neg (by omega), pc_I_I, if_neg (by omega), rI, pc_I_I, if_neg (by omega)]
    have e5 : am_I h' (f + 5) = am_I g (f + 5) := by
      funext j
      rw [e', pc_I_I, if_neg (by omega), pc_I_I, if_neg (by omega), rI, pc_I_I, if_neg (by omega)]
    have C' := RB_tu Cg fr eL (flp_b hk Cg.2.2.2.1) e14 e15
    have H' := C'.1
    refine ⟨h', ?_, fRt_t fg fr, C', e00.trans z0, x1, ?_, ?_, ?_, ?_, ?_, ?_, ?_⟩
    · have e19 : ¬ f = f + 5 := by omega
      have e20 : ¬ f + 5 = f := by omega
      have Hx : RfAt (am_sL (am_sI g f 13 (nI t)) f 11 (wL (flp B k))) f := RfAt_of Hg rfl (fun _ _ _ => rfl)
      have al := Rf_alt Hx d
      rw [← e'] at al
      simp (disch := first | assumption | omega) only [hc_ck, hc_gi, hc_gl, hc_gp, ap_I, ap_L, kd_I, kd_L, kd_P, kd_rI, ar_I, ar_L, ar_P, al_I, al_L, al_P, hop_s, cond_true, cond_false, pc_I_I, pc_L_L, pc_P_P, pc_I_L, pc_I_P, pc_L_I, pc_L_P, pc_P_I, pc_P_L, pc_sS_I, pc_sS_L, pc_sS_P, I_rI, L_rI, P_rI, S_rI, cv_r, ci_r, cl_r, o1_b, o1_0, o1_1, lc_e, nI_1, nI_add, if_true, if_false, Nat.reduceEqDiff, Nat.left_eq_add, Nat.add_eq_left, false_and, and_false, true_and, and_true, and_self, eq_self, Rf_k, Rf_p12, x6, nI_pred, Rf_r5, e40, Cg.2.2.1, flp_w (show k < 64 by omega), e19, e20, al]
      simp (disch := first | assumption | omega) only [hc_ck, hc_gi, hc_gl, hc_gp, ap_I, ap_L, kd_I, kd_L, kd_P, kd_rI, ar_I, ar_L, ar_P, al_I, al_L, al_P, hop_s, cond_true, cond_false, pc_I_I, pc_L_L, pc_P_P, pc_I_L, pc_I_P, pc_L_I, pc_L_P, pc_P_I, pc_P_L, pc_sS_I, pc_sS_L, pc_sS_P, I_rI, L_rI, P_rI, S_rI, cv_r, ci_r, cl_r, o1_b, o1_0, o1_1, lc_e, nI_1, nI_add, if_true, if_false, Nat.reduceEqDiff, Nat.left_eq_add, Nat.add_eq_left, false_and, and_false, true_and, and_true, and_self, eq_self, Rf_k, e13]
    · rw [fr.2.2.2.2.2.2 2 (by omega) (by omega) (by omega) (by omega)]; exact x2
    · intro j hj
      rw [fr.2.2.2.2.2.1 (f + 2) (by omega) (by omega)]; exact x3 j hj
    · rw [fr.2.2.2.2.2.2 5 (by omega) (by omega) (by omega) (by omega)]; exact x4
    · show x.2.2.2.2.1 - 1 ≤ 20
      omega
    · show am_I h' f 13 = nI (x.2.2.2.2.1 - 1)
      rw [e13, show x.2.2.2.2.1 - 1 = t by omega]
    · intro j hj
      have hj2 : j < x.2.2.2.2.1 - 1 := hj
      rw [e5]
      exact x7 j (by omega)
    · intro j hj
      rw [fr.2.2.2.2.2.1 (f + 1) (by omega) (by omega)]; exact x8 j hj
