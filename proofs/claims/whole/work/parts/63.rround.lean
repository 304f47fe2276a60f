/-! ===== the reference: one round ===== -/
def RG (g : am_H) (f r : Nat) (O : o_T) (B : Nat → Prop) (A : Nat → Nat → Prop) (K : Nat → Nat → Nat → Prop) : Prop :=
  RfAt g f ∧ RwR g r O ∧ RfU g f O B ∧ RfS g f (o_P O) A K ∧ (∀ s y, s < 8 → y < o_P O → am_L g (f + 1452 + s) y = wL (d_so O A s y)) ∧ (∀ x s, x < o_P O → s < 8 → am_L g (f + 971 + x) s = wL (fun y => ∃ q, o_un O B q s ∧ K x q y))
def fR1 (f : Nat) (h h' : am_H) : Prop := fX (fun b => b = f + 7 ∨ (f + 490 ≤ b ∧ b < f + 970)) h h'
theorem RG_f {g u : am_H} {f r : Nat} {O : o_T} {B : Nat → Prop} {A : Nat → Nat → Prop} {K : Nat → Nat → Nat → Prop} (G : RG g f r O B A K) (q : fR1 f g u) : RG u f r O B A K := by
  obtain ⟨g1, g2, g3, g4, g5, g6⟩ := G
  obtain ⟨q1, q2, q3, q4, q5, q6⟩ := q
  have ok4 := g2.2.1.2.2.2.1
  refine ⟨RfAt_of g1 q3 (fun b _ _ => by rw [q2]), Rw_of g2 q3 (by rw [q1]), ?_, ?_, ?_, ?_⟩
  · intro x hx
    rw [q1]; exact g3 x hx
  · intro x hx
    rw [q6 (f + 6) (by omega), q6 (f + 9 + x) (by omega)]
    exact g4 x hx
  · intro s y hs hy
    rw [q6 (f + 1452 + s) (by omega)]
    exact g5 s y hs hy
  · intro x s hx hs
    rw [q6 (f + 971 + x) (by omega)]
    exact g6 x s hx hs
def d_li (O : o_T) (B : Nat → Prop) (A : Nat → Nat → Prop) (r y p : Nat) : Prop := (p = 1 ∧ A y 1) ∨ ∃ s, s < 8 ∧ (o_un O B r s ∧ d_so O A s y p)
theorem Rf_gr73 {u : am_H} {f r : Nat} {O : o_T} {B : Nat → Prop} {A : Nat → Nat → Prop} {K : Nat → Nat → Nat → Prop} (G : RG u f r O B A K) {x q : Nat} (hx : x < o_P O) (hq : q < 8) (W : Nat → Prop) (hW : am_L u (f + 7) x = wL W) (d : Nat) :
    ∃ h', f_Rf_goesRound_73 (d + 2) u f r (wL B) (nI (o_P O)) (nI x) (nI q) 0 = f_Rf_goesRound_43 (d + 2) h' f r (wL B) (nI (o_P O)) (nI x) (nI (q + 1)) ∧ fX (fun b => b = f + 7) u h' ∧ am_L h' (f + 7) x = wL (fun p => W p ∨ ∃ y, y < o_P O ∧ (K x q y ∧ d_li O B A q y p)) ∧ ∀ j, j ≠ x → am_L h' (f + 7) j = am_L u (f + 7) j := by
  have ok := G.2.1.2.1
  have ok4 := ok.2.2.2.1
  have key : ∀ k, k ≤ o_P O → ∀ v : am_H, fX (fun b => b = f + 7) u v → am_L v (f + 7) x = wL (fun p => W p ∨ ∃ y, y < k ∧ (K x q y ∧ d_li O B A q y p)) → (∀ j, j ≠ x → am_L v (f + 7) j = am_L u (f + 7) j) →
      ∃ h', f_Rf_goesRound_73 (d + 2) v f r (wL B) (nI (o_P O)) (nI x) (nI q) (nI k) = f_Rf_goesRound_43 (d + 2) h' f r (wL B) (nI (o_P O)) (nI x) (nI (q + 1)) ∧ fX (fun b => b = f + 7) u h' ∧ am_L h' (f + 7) x = wL (fun p => W p ∨ ∃ y, y < o_P O ∧ (K x q y ∧ d_li O B A q y p)) ∧ ∀ j, j ≠ x → am_L h' (f + 7) j = am_L u (f + 7) j := by
    refine dn ?_ ?_
    · intro v qv hv hj
      refine ⟨v, ?_, qv, hv, hj⟩
      rw [e_Rf_goesRound_73]
      simp (disch := first | assumption | omega) only [hc_ck, hc_gi, hc_gl, hc_gp, ap_I, ap_L, kd_I, kd_L, kd_P, kd_rI, ar_I, ar_L, ar_P, al_I, al_L, al_P, hop_s, cond_true, cond_false, pc_I_I, pc_L_L, pc_P_P, pc_I_L, pc_I_P, pc_L_I, pc_L_P, pc_P_I, pc_P_L, pc_sS_I, pc_sS_L, pc_sS_P, I_rI, L_rI, P_rI, S_rI, cv_r, ci_r, cl_r, o1_b, o1_0, o1_1, lc_e, nI_1, nI_add, if_true, if_false, Nat.reduceEqDiff, Nat.left_eq_add, Nat.add_eq_left, false_and, and_false, true_and, and_true, and_self, eq_self, n_le, Nat.le_refl]
    · intro k hk ih v qv hv hj
      have Gv := RG_f G (fX_m qv (fun b hb => Or.inl hb))
      have H1 := Gv.1
      have hk3 : ¬ o_P O ≤ k := by omega
      have ek : am_L v (f + 9 + x) q = wL (K x q) := (Gv.2.2.2.1 x hx).2 q hq
      rw [e_Rf_goesRound_73]
      simp (disch := first | assumption | omega) only [hc_ck, hc_gi, hc_gl, hc_gp, ap_I, ap_L, kd_I, kd_L, kd_P, kd_rI, ar_I, ar_L, ar_P, al_I, al_L, al_P, hop_s, cond_true, cond_false, pc_I_I, pc_L_L, pc_P_P, pc_I_L, pc_I_P, pc_L_I, pc_L_P, pc_P_I, pc_P_L, pc_sS_I, pc_sS_L, pc_sS_P, I_rI, L_rI, P_rI, S_rI, cv_r, ci_r, cl_r, o1_b, o1_0, o1_1, lc_e, nI_1, nI_add, if_true, if_false, Nat.reduceEqDiff, Nat.left_eq_add, Nat.add_eq_left, false_and, and_false, true_and, and_true, and_self, eq_self, n_le, hk3, Rf_k, Rf_p20, Rf_a8, Rf_b9, ek, Rf_has, bo_0]
      by_cases c : K x q k
      · simp only [xl_wt (show k < 64 by omega) c, Bool.true_eq_false, if_false]
        rw [Rf_byLink H1 ok Gv.2.2.1 hq hk (Gv.2.2.2.1 k hk).1 (fun s hs => Gv.2.2.2.2.1 s k hs hk) d]
        simp (disch := first | assumption | omega) only [hc_ck, hc_gi, hc_gl, hc_gp, ap_I, ap_L, kd_I, kd_L, kd_P, kd_rI, ar_I, ar_L, ar_P, al_I, al_L, al_P, hop_s, cond_true, cond_false, pc_I_I, pc_L_L, pc_P_P, pc_I_L, pc_I_P, pc_L_I, pc_L_P, pc_P_I, pc_P_L, pc_sS_I, pc_sS_L, pc_sS_P, I_rI, L_rI, P_rI, S_rI, cv_r, ci_r, cl_r, o1_b, o1_0, o1_1, lc_e, nI_1, nI_add, if_true, if_false, Nat.reduceEqDiff, Nat.left_eq_add, Nat.add_eq_left, false_and, and_false, true_and, and_true, and_self, eq_self, Rf_k, Rf_p19, Rf_r7, hv]
        refine ih _ (fX_w qv rfl _ _) ?_ ?_
        · rw [pc_L_L, if_pos ⟨rfl, rfl⟩]
          apply wb_s
          intro p hp
          rw [xl_or, Bool.or_eq_true, wL_x (P := fun p => (p = 1 ∧ A k 1) ∨ ∃ s, s < 8 ∧ (o_un O B q s ∧ d_so O A s k p))]
          exact ⟨fun e => e.imp id (fun a => ⟨c, a.2⟩), fun e => e.imp id (fun a => ⟨hp, a.2⟩)⟩
        · intro j hj'
          rw [pc_L_L, if_neg (by omega)]
          exact hj j hj'
      · simp only [xl_wf (show k < 64 by omega) c, if_true]
        refine ih v qv ?_ hj
        rw [hv]
        exact wb_n (fun p _ e => c e.1)
  exact key 0 (Nat.zero_le _) u (fX_r _ _) (hW.trans wb_0) (fun _ _ => rfl)
theorem Rf_gr43 {u : am_H} {f r : Nat} {O : o_T} {B : Nat → Prop} {A : Nat → Nat → Prop} {K : Nat → Nat → Nat → Prop} (G : RG u f r O B A K) {x : Nat} (hx : x < o_P O) (W : Nat → Prop) (hW : am_L u (f + 7) x = wL W) (d : Nat) :
    ∃ h', f_Rf_goesRound_43 (d + 2) u f r (wL B) (nI (o_P O)) (nI x) 0 = f_Rf_goesRound_131 (d + 2) h' f r (wL B) (nI (o_P O)) (nI x) 0 ∧ fX (fun b => b = f + 7 ∨ b = f + 490 + x) u h' ∧ am_L h' (f + 7) x = wL (fun p => W p ∨ ∃ q, q < 8 ∧ ∃ y, y < o_P O ∧ (K x q y ∧ d_li O B A q y p)) ∧ (∀ j, j ≠ x → am_L h' (f + 7) j = am_L u (f + 7) j) ∧ ∀ q, q < 8 → am_L h' (f + 490 + x) q = wL (K x q) := by
  have ok4 := G.2.1.2.1.2.2.2.1
  have key : ∀ i, i ≤ 8 → ∀ v : am_H, fX (fun b => b = f + 7 ∨ b = f + 490 + x) u v → am_L v (f + 7) x = wL (fun p => W p ∨ ∃ q, q < i ∧ ∃ y, y < o_P O ∧ (K x q y ∧ d_li O B A q y p)) → (∀ j, j ≠ x → am_L v (f + 7) j = am_L u (f + 7) j) → (∀ q, q < i → am_L v (f + 490 + x) q = wL (K x q)) →
      ∃ h', f_Rf_goesRound_43 (d + 2) v f r (wL B) (nI (o_P O)) (nI x) (nI i) = f_Rf_goesRound_131 (d + 2) h' f r (wL B) (nI (o_P O)) (nI x) 0 ∧ fX (fun b => b = f + 7 ∨ b = f + 490 + x) u h' ∧ am_L h' (f + 7) x = wL (fun p => W p ∨ ∃ q, q < 8 ∧ ∃ y, y < o_P O ∧ (K x q y ∧ d_li O B A q y p)) ∧ (∀ j, j ≠ x → am_L h' (f + 7) j = am_L u (f + 7) j) ∧ ∀ q, q < 8 → am_L h' (f + 490 + x) q = wL (K x q) := by
    refine dn ?_ ?_
    · intro v qv hv hj hk
      refine ⟨v, ?_, qv, hv, hj, hk⟩
      rw [e_Rf_goesRound_43]
      simp (disch := first | assumption | omega) only [hc_ck, hc_gi, hc_gl, hc_gp, ap_I, ap_L, kd_I, kd_L, kd_P, kd_rI, ar_I, ar_L, ar_P, al_I, al_L, al_P, hop_s, cond_true, cond_false, pc_I_I, pc_L_L, pc_P_P, pc_I_L, pc_I_P, pc_L_I, pc_L_P, pc_P_I, pc_P_L, pc_sS_I, pc_sS_L, pc_sS_P, I_rI, L_rI, P_rI, S_rI, cv_r, ci_r, cl_r, o1_b, o1_0, o1_1, lc_e, nI_1, nI_add, if_true, if_false, Nat.reduceEqDiff, Nat.left_eq_add, Nat.add_eq_left, false_and, and_false, true_and, and_true, and_self, eq_self, n_8, n_le, Nat.le_refl]
    · intro i hi ih v qv hv hj hk
      have Gv := RG_f G (fX_m qv (fun b hb => by omega))
      have H1 := Gv.1
      have hi3 : ¬ 8 ≤ i := by omega
      have ek : am_L v (f + 9 + x) i = wL (K x i) := (Gv.2.2.2.1 x hx).2 i hi
      rw [e_Rf_goesRound_43]
      simp (disch := first | assumption | omega) only [hc_ck, hc_gi, hc_gl, hc_gp, ap_I, ap_L, kd_I, kd_L, kd_P, kd_rI, ar_I, ar_L, ar_P, al_I, al_L, al_P, hop_s, cond_true, cond_false, pc_I_I, pc_L_L, pc_P_P, pc_I_L, pc_I_P, pc_L_I, pc_L_P, pc_P_I, pc_P_L, pc_sS_I, pc_sS_L, pc_sS_P, I_rI, L_rI, P_rI, S_rI, cv_r, ci_r, cl_r, o1_b, o1_0, o1_1, lc_e, nI_1, nI_add, if_true, if_false, Nat.reduceEqDiff, Nat.left_eq_add, Nat.add_eq_left, false_and, and_false, true_and, and_true, and_self, eq_self, n_8, n_le, hi3, Rf_k, Rf_p20, Rf_p21, Rf_a8, Rf_b9, Rf_a489, Rf_b490, ek]
      have q2 : fX (fun b => b = f + 7 ∨ b = f + 490 + x) u (am_sL v (f + 490 + x) i (wL (K x i))) := fX_w (W := fun b => b = f + 7 ∨ b = f + 490 + x) qv (Or.inr rfl) _ _
      obtain ⟨w, ew, qw, hw, hwj⟩ := Rf_gr73 (RG_f G (fX_m q2 (fun b hb => by omega))) hx hi (fun p => W p ∨ ∃ q, q < i ∧ ∃ y, y < o_P O ∧ (K x q y ∧ d_li O B A q y p)) (by rw [pc_L_L, if_neg (by omega)]; exact hv) d
      rw [ew]
      refine ih w (fX_t q2 (fX_m qw (fun b hb => Or.inl hb))) ?_ ?_ ?_
      · rw [hw]
        refine wL_cong (fun p _ => ⟨?_, ?_⟩)
        · rintro ((c | ⟨q, c1, c2⟩) | c)
          · exact Or.inl c
          · exact Or.inr ⟨q, by omega, c2⟩
          · exact Or.inr ⟨i, by omega, c⟩
        · rintro (c | ⟨q, c1, c2⟩)
          · exact Or.inl (Or.inl c)
          · by_cases e : q = i
            · subst e; exact Or.inr c2
            · exact Or.inl (Or.inr ⟨q, by omega, c2⟩)
      · intro j hj'
        rw [hwj j hj', pc_L_L, if_neg (by omega)]
        exact hj j hj'
      · intro q hq
        rw [qw.2.2.2.2.2 (f + 490 + x) (by omega), pc_L_L]
        by_cases e : q = i
        · subst e
          rw [if_pos ⟨rfl, rfl⟩]
        · rw [if_neg (by omega)]
          exact hk q (by omega)
  exact key 0 (Nat.zero_le _) u (fX_r _ _) (hW.trans wb_0) (fun _ _ => rfl) (fun q hq => absurd hq (Nat.not_lt_zero q))
theorem Rf_gr131 {u : am_H} {f r : Nat} {O : o_T} {B : Nat → Prop} {A : Nat → Nat → Prop} {K : Nat → Nat → Nat → Prop} (G : RG u f r O B A K) {x : Nat} (hx : x < o_P O) (hk : ∀ q, q < 8 → am_L u (f + 490 + x) q = wL (K x q)) (d : Nat) :
    ∃ h', f_Rf_goesRound_131 (d + 2) u f r (wL B) (nI (o_P O)) (nI x) 0 = f_Rf_goesRound_197 (d + 2) h' f r (wL B) (nI (o_P O)) (nI x) 0 ∧ fX (fun b => b = f + 490 + x) u h' ∧ ∀ q, q < 8 → am_L h' (f + 490 + x) q = wL (fun y => K x q y ∨ ∃ p, p < o_P O ∧ c_N O A x p q y) := by
  have ok := G.2.1.2.1
  obtain ⟨-, ok2, ok3, ok4, ok5, -, -, okP, okA, -⟩ := ok
  have key : ∀ k, k ≤ o_P O → ∀ v : am_H, fX (fun b => b = f + 490 + x) u v → (∀ q, q < 8 → am_L v (f + 490 + x) q = wL (fun y => K x q y ∨ ∃ p, p < k ∧ c_N O A x p q y)) →
      ∃ h', f_Rf_goesRound_131 (d + 2) v f r (wL B) (nI (o_P O)) (nI x) (nI k) = f_Rf_goesRound_197 (d + 2) h' f r (wL B) (nI (o_P O)) (nI x) 0 ∧ fX (fun b => b = f + 490 + x) u h' ∧ ∀ q, q < 8 → am_L h' (f + 490 + x) q = wL (fun y => K x q y ∨ ∃ p, p < o_P O ∧ c_N O A x p q y) := by
    refine dn ?_ ?_
    · intro v qv hv
      refine ⟨v, ?_, qv, hv⟩
      rw [e_Rf_goesRound_131]
      simp (disch := first | assumption | omega) only [hc_ck, hc_gi, hc_gl, hc_gp, ap_I, ap_L, kd_I, kd_L, kd_P, kd_rI, ar_I, ar_L, ar_P, al_I, al_L, al_P, hop_s, cond_true, cond_false, pc_I_I, pc_L_L, pc_P_P, pc_I_L, pc_I_P, pc_L_I, pc_L_P, pc_P_I, pc_P_L, pc_sS_I, pc_sS_L, pc_sS_P, I_rI, L_rI, P_rI, S_rI, cv_r, ci_r, cl_r, o1_b, o1_0, o1_1, lc_e, nI_1, nI_add, if_true, if_false, Nat.reduceEqDiff, Nat.left_eq_add, Nat.add_eq_left, false_and, and_false, true_and, and_true, and_self, eq_self, n_le, Nat.le_refl]
    · intro k hk' ih v qv hv
      have Gv := RG_f G (fX_m qv (fun b hb => by omega))
      have H1 := Gv.1
      have R1 := Gv.2.1
      have hk3 : ¬ o_P O ≤ k := by omega
      have okk := okP k hk'
      unfold o_okP at okk
      have eA : am_L v (f + 6) x = wL (A x) := (Gv.2.2.2.1 x hx).1
      have go : ¬ (o_pk O k = 4 ∧ A x k) → ∃ h', f_Rf_goesRound_131 (d + 2) v f r (wL B) (nI (o_P O)) (nI x) (nI (k + 1)) = f_Rf_goesRound_197 (d + 2) h' f r (wL B) (nI (o_P O)) (nI x) 0 ∧ fX (fun b => b = f + 490 + x) u h' ∧ ∀ q, q < 8 → am_L h' (f + 490 + x) q = wL (fun y => K x q y ∨ ∃ p, p < o_P O ∧ c_N O A x p q y) := by
        intro c
        refine ih v qv ?_
        intro q hq
        rw [hv q hq]
        exact wb_n (fun y _ e => c ⟨e.1, e.2.1⟩)
      rw [e_Rf_goesRound_131]
      simp (disch := first | assumption | omega) only [hc_ck, hc_gi, hc_gl, hc_gp, ap_I, ap_L, kd_I, kd_L, kd_P, kd_rI, ar_I, ar_L, ar_P, al_I, al_L, al_P, hop_s, cond_true, cond_false, pc_I_I, pc_L_L, pc_P_P, pc_I_L, pc_I_P, pc_L_I, pc_L_P, pc_P_I, pc_P_L, pc_sS_I, pc_sS_L, pc_sS_P, I_rI, L_rI, P_rI, S_rI, cv_r, ci_r, cl_r, o1_b, o1_0, o1_1, lc_e, nI_1, nI_add, if_true, if_false, Nat.reduceEqDiff, Nat.left_eq_add, Nat.add_eq_left, false_and, and_false, true_and, and_true, and_self, eq_self, n_le, hk3, Rf_kindOf, n_4, n_eq]
      by_cases e4 : o_pk O k = 4
      · rw [if_pos e4]
        have b1 : o_pa O k < o_R O := by omega
        have b2 : o_pb O k < o_P O := by omega
        have ek := hv (o_pa O k) (by omega)
        simp (disch := first | assumption | omega) only [hc_ck, hc_gi, hc_gl, hc_gp, ap_I, ap_L, kd_I, kd_L, kd_P, kd_rI, ar_I, ar_L, ar_P, al_I, al_L, al_P, hop_s, cond_true, cond_false, pc_I_I, pc_L_L, pc_P_P, pc_I_L, pc_I_P, pc_L_I, pc_L_P, pc_P_I, pc_P_L, pc_sS_I, pc_sS_L, pc_sS_P, I_rI, L_rI, P_rI, S_rI, cv_r, ci_r, cl_r, o1_b, o1_0, o1_1, lc_e, nI_1, nI_add, if_true, if_false, Nat.reduceEqDiff, Nat.left_eq_add, Nat.add_eq_left, false_and, and_false, true_and, and_true, and_self, eq_self, Rf_k, Rf_p18, Rf_r6, eA, Rf_has, bo_0, Rf_p21, Rf_a489, Rf_b490, Rf_oneOf, Rf_otherOf, ek]
        by_cases c : A x k
        · simp only [xl_wt (show k < 64 by omega) c, Bool.true_eq_false, if_false]
          refine ih _ (fX_w qv rfl _ _) ?_
          intro q hq
          rw [pc_L_L]
          by_cases e : q = o_pa O k
          · subst e
            rw [if_pos ⟨rfl, rfl⟩]
            apply wb_s
            intro y hy
            rw [xl_or, Bool.or_eq_true, xl_b1 (by omega), decide_eq_true_iff]
            exact ⟨fun a => a.imp id (fun b => ⟨e4, c, rfl, b.symm⟩), fun a => a.imp id (fun b => b.2.2.2.symm)⟩
          · rw [if_neg (by omega), hv q hq]
            exact wb_n (fun y _ a => e a.2.2.1.symm)
        · simp only [xl_wf (show k < 64 by omega) c, if_true]
          exact go (fun a => c a.2)
      · rw [if_neg e4]
        exact go (fun a => e4 a.1)
  exact key 0 (Nat.zero_le _) u (fX_r _ _) (fun q hq => (hk q hq).trans wb_0)
def d_ch (O : o_T) (B : Nat → Prop) (K : Nat → Nat → Nat → Prop) (x k q y : Nat) : Prop := B k ∧ o_ak O k = 3 ∧ o_a3 O k = q ∧ ∃ z, (∃ t, o_un O B t (o_a1 O k) ∧ K x t z) ∧ (∃ t, o_un O B t (o_a2 O k) ∧ K z t y)
theorem Rf_gr197 {u : am_H} {f r : Nat} {O : o_T} {B : Nat → Prop} {A : Nat → Nat → Prop} {K : Nat → Nat → Nat → Prop} (G : RG u f r O B A K) {x : Nat} (hx : x < o_P O) (hK : ∀ x r y, K x r y → y < o_P O) (N : Nat → Nat → Prop) (hN : ∀ q, q < 8 → am_L u (f + 490 + x) q = wL (N q)) (d : Nat) :
    ∃ h', f_Rf_goesRound_197 (d + 2) u f r (wL B) (nI (o_P O)) (nI x) 0 = f_Rf_goesRound_18 (d + 2) h' f r (wL B) (nI (o_P O)) (nI (x + 1)) ∧ fX (fun b => b = f + 490 + x) u h' ∧ ∀ q, q < 8 → am_L h' (f + 490 + x) q = wL (fun y => N q y ∨ ∃ k, k < o_A O ∧ d_ch O B K x k q y) := by
  have ok := G.2.1.2.1
  obtain ⟨-, ok2, ok3, ok4, ok5, -, -, okP, okA, -⟩ := ok
  have key : ∀ k, k ≤ o_A O → ∀ v : am_H, fX (fun b => b = f + 490 + x) u v → (∀ q, q < 8 → am_L v (f + 490 + x) q = wL (fun y => N q y ∨ ∃ j, j < k ∧ d_ch O B K x j q y)) →
      ∃ h', f_Rf_goesRound_197 (d + 2) v f r (wL B) (nI (o_P O)) (nI x) (nI k) = f_Rf_goesRound_18 (d + 2) h' f r (wL B) (nI (o_P O)) (nI (x + 1)) ∧ fX (fun b => b = f + 490 + x) u h' ∧ ∀ q, q < 8 → am_L h' (f + 490 + x) q = wL (fun y => N q y ∨ ∃ k, k < o_A O ∧ d_ch O B K x k q y) := by
    refine dn ?_ ?_
    · intro v qv hv
      have R1 := (RG_f G (fX_m qv (fun b hb => by omega))).2.1
      refine ⟨v, ?_, qv, hv⟩
      rw [e_Rf_goesRound_197]
      simp (disch := first | assumption | omega) only [hc_ck, hc_gi, hc_gl, hc_gp, ap_I, ap_L, kd_I, kd_L, kd_P, kd_rI, ar_I, ar_L, ar_P, al_I, al_L, al_P, hop_s, cond_true, cond_false, pc_I_I, pc_L_L, pc_P_P, pc_I_L, pc_I_P, pc_L_I, pc_L_P, pc_P_I, pc_P_L, pc_sS_I, pc_sS_L, pc_sS_P, I_rI, L_rI, P_rI, S_rI, cv_r, ci_r, cl_r, o1_b, o1_0, o1_1, lc_e, nI_1, nI_add, if_true, if_false, Nat.reduceEqDiff, Nat.left_eq_add, Nat.add_eq_left, false_and, and_false, true_and, and_true, and_self, eq_self, n_3, Rw_ar, Rw_A, n_le, Nat.le_refl]
    · intro k hk' ih v qv hv
      have Gv := RG_f G (fX_m qv (fun b hb => by omega))
      have H1 := Gv.1
      have R1 := Gv.2.1
      have hk3 : ¬ o_A O ≤ k := by omega
      have okk := okA k hk'
      unfold o_okA at okk
      have go : ¬ (B k ∧ o_ak O k = 3) → ∃ h', f_Rf_goesRound_197 (d + 2) v f r (wL B) (nI (o_P O)) (nI x) (nI (k + 1)) = f_Rf_goesRound_18 (d + 2) h' f r (wL B) (nI (o_P O)) (nI (x + 1)) ∧ fX (fun b => b = f + 490 + x) u h' ∧ ∀ q, q < 8 → am_L h' (f + 490 + x) q = wL (fun y => N q y ∨ ∃ k, k < o_A O ∧ d_ch O B K x k q y) := by
        intro c
        refine ih v qv ?_
        intro q hq
        rw [hv q hq]
        exact wb_n (fun y _ e => c ⟨e.1, e.2.1⟩)
      rw [e_Rf_goesRound_197]
      simp (disch := first | assumption | omega) only [hc_ck, hc_gi, hc_gl, hc_gp, ap_I, ap_L, kd_I, kd_L, kd_P, kd_rI, ar_I, ar_L, ar_P, al_I, al_L, al_P, hop_s, cond_true, cond_false, pc_I_I, pc_L_L, pc_P_P, pc_I_L, pc_I_P, pc_L_I, pc_L_P, pc_P_I, pc_P_L, pc_sS_I, pc_sS_L, pc_sS_P, I_rI, L_rI, P_rI, S_rI, cv_r, ci_r, cl_r, o1_b, o1_0, o1_1, lc_e, nI_1, nI_add, if_true, if_false, Nat.reduceEqDiff, Nat.left_eq_add, Nat.add_eq_left, false_and, and_false, true_and, and_true, and_self, eq_self, n_3, Rw_ar, Rw_A, n_le, hk3, Rf_has, bo_0]
      by_cases hB : B k
      · simp (disch := first | assumption | omega) only [hc_ck, hc_gi, hc_gl, hc_gp, ap_I, ap_L, kd_I, kd_L, kd_P, kd_rI, ar_I, ar_L, ar_P, al_I, al_L, al_P, hop_s, cond_true, cond_false, pc_I_I, pc_L_L, pc_P_P, pc_I_L, pc_I_P, pc_L_I, pc_L_P, pc_P_I, pc_P_L, pc_sS_I, pc_sS_L, pc_sS_P, I_rI, L_rI, P_rI, S_rI, cv_r, ci_r, cl_r, o1_b, o1_0, o1_1, lc_e, nI_1, nI_add, if_true, if_false, Nat.reduceEqDiff, Nat.left_eq_add, Nat.add_eq_left, false_and, and_false, true_and, and_true, and_self, eq_self, xl_wt (show k < 64 by omega) hB, Bool.true_eq_false, Rf_axiom0, n_eq]
        by_cases e3 : o_ak O k = 3
        · rw [if_pos e3]
          have b1 : o_a1 O k < 8 := by omega
          have b2 : o_a2 O k < 8 := by omega
          have b3 : o_a3 O k < 8 := by omega
          have inner : ∀ i, i ≤ o_P O → ∀ w : am_H, fX (fun b => b = f + 490 + x) u w → (∀ q, q < 8 → q ≠ o_a3 O k → am_L w (f + 490 + x) q = wL (fun y => N q y ∨ ∃ j, j < k ∧ d_ch O B K x j q y)) → am_L w (f + 490 + x) (o_a3 O k) = wL (fun y => (N (o_a3 O k) y ∨ ∃ j, j < k ∧ d_ch O B K x j (o_a3 O k) y) ∨ ∃ z, z < i ∧ ((∃ t, o_un O B t (o_a1 O k) ∧ K x t z) ∧ (∃ t, o_un O B t (o_a2 O k) ∧ K z t y))) →
              ∃ h', f_Rf_goesRound_231 (d + 2) w f r (wL B) (nI (o_P O)) (nI x) (nI k) (nI i) = f_Rf_goesRound_18 (d + 2) h' f r (wL B) (nI (o_P O)) (nI (x + 1)) ∧ fX (fun b => b = f + 490 + x) u h' ∧ ∀ q, q < 8 → am_L h' (f + 490 + x) q = wL (fun y => N q y ∨ ∃ k, k < o_A O ∧ d_ch O B K x k q y) := by
            refine dn ?_ ?_
            · intro w qw hw hw3
              rw [e_Rf_goesRound_231]
              simp (disch := first | assumption | omega) only [hc_ck, hc_gi, hc_gl, hc_gp, ap_I, ap_L, kd_I, kd_L, kd_P, kd_rI, ar_I, ar_L, ar_P, al_I, al_L, al_P, hop_s, cond_true, cond_false, pc_I_I, pc_L_L, pc_P_P, pc_I_L, pc_I_P, pc_L_I, pc_L_P, pc_P_I, pc_P_L, pc_sS_I, pc_sS_L, pc_sS_P, I_rI, L_rI, P_rI, S_rI, cv_r, ci_r, cl_r, o1_b, o1_0, o1_1, lc_e, nI_1, nI_add, if_true, if_false, Nat.reduceEqDiff, Nat.left_eq_add, Nat.add_eq_left, false_and, and_false, true_and, and_true, and_self, eq_self, n_le, Nat.le_refl]
              refine ih w qw ?_
              intro q hq
              by_cases e : q = o_a3 O k
              · subst e
                rw [hw3]
                refine wL_cong (fun y _ => ⟨?_, ?_⟩)
                · rintro ((c | ⟨j, c1, c2⟩) | ⟨z, c1, c2⟩)
                  · exact Or.inl c
                  · exact Or.inr ⟨j, by omega, c2⟩
                  · exact Or.inr ⟨k, by omega, hB, e3, rfl, z, c2⟩
                · rintro (c | ⟨j, c1, c2⟩)
                  · exact Or.inl (Or.inl c)
                  · by_cases e : j = k
                    · subst e
                      obtain ⟨-, -, -, z, ⟨t, c3, c4⟩, c5⟩ := c2
                      exact Or.inr ⟨z, hK _ _ _ c4, ⟨t, c3, c4⟩, c5⟩
                    · exact Or.inl (Or.inr ⟨j, by omega, c2⟩)
              · rw [hw q hq e]
                exact wb_n (fun y _ c => e c.2.2.1.symm)
            · intro i hi ih2 w qw hw hw3
              have Gw := RG_f G (fX_m qw (fun b hb => by omega))
              have H1 := Gw.1
              have R1 := Gw.2.1
              have hi3 : ¬ o_P O ≤ i := by omega
              have ew := Gw.2.2.2.2.2 x (o_a1 O k) hx b1
              have ew2 := Gw.2.2.2.2.2 i (o_a2 O k) hi b2
              rw [e_Rf_goesRound_231]
              simp (disch := first | assumption | omega) only [hc_ck, hc_gi, hc_gl, hc_gp, ap_I, ap_L, kd_I, kd_L, kd_P, kd_rI, ar_I, ar_L, ar_P, al_I, al_L, al_P, hop_s, cond_true, cond_false, pc_I_I, pc_L_L, pc_P_P, pc_I_L, pc_I_P, pc_L_I, pc_L_P, pc_P_I, pc_P_L, pc_sS_I, pc_sS_L, pc_sS_P, I_rI, L_rI, P_rI, S_rI, cv_r, ci_r, cl_r, o1_b, o1_0, o1_1, lc_e, nI_1, nI_add, if_true, if_false, Nat.reduceEqDiff, Nat.left_eq_add, Nat.add_eq_left, false_and, and_false, true_and, and_true, and_self, eq_self, n_le, hi3, Rf_k, Rf_p22, Rf_a970, Rf_axiom1, Rf_b971, ew, Rf_has, bo_0, Rf_p21, Rf_a489, Rf_axiom3, Rf_b490, Rf_axiom2, ew2, hw3]
              by_cases c : ∃ t, o_un O B t (o_a1 O k) ∧ K x t i
              · simp only [xl_wt (P := fun y => ∃ q, o_un O B q (o_a1 O k) ∧ K x q y) (show i < 64 by omega) c, Bool.true_eq_false, if_false]
                refine ih2 _ (fX_w qw rfl _ _) ?_ ?_
                · intro q hq e
                  rw [pc_L_L, if_neg (by omega)]
                  exact hw q hq e
                · rw [pc_L_L, if_pos ⟨rfl, rfl⟩]
                  apply wb_s
                  intro y hy
                  rw [xl_or, Bool.or_eq_true, wL_x (P := fun y => ∃ q, o_un O B q (o_a2 O k) ∧ K i q y)]
                  exact ⟨fun a => a.imp id (fun b => ⟨c, b.2⟩), fun a => a.imp id (fun b => ⟨hy, b.2⟩)⟩
              · simp only [xl_wf (P := fun y => ∃ q, o_un O B q (o_a1 O k) ∧ K x q y) (show i < 64 by omega) c, if_true]
                refine ih2 w qw hw ?_
                rw [hw3]
                exact wb_n (fun y _ a => c a.1)
          exact inner 0 (Nat.zero_le _) v qv (fun q hq _ => hv q hq) ((hv _ b3).trans wb_0)
        · rw [if_neg e3]
          exact go (fun a => e3 a.2)
      · simp only [xl_wf (show k < 64 by omega) hB, if_true]
        exact go (fun a => hB a.1)
  exact key 0 (Nat.zero_le _) u (fX_r _ _) (fun q hq => (hN q hq).trans wb_0)
