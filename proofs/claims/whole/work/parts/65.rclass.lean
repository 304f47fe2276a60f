/-! ===== the reference: all rounds; when each came ===== -/
def fCl (f : Nat) (h h' : am_H) : Prop := am_P h' = am_P h ∧ am_S h' = am_S h ∧ am_G h' = am_G h ∧ am_T h' = am_T h ∧ (∀ b, b ≠ f → b ≠ f + 1460 → b < f + 1462 ∨ f + 1522 ≤ b → am_I h' b = am_I h b) ∧ (∀ j, j ≠ 14 → j ≠ 26 → am_I h' f j = am_I h f j) ∧ (∀ b, b < f + 6 ∨ f + 1460 ≤ b → am_L h' b = am_L h b)
theorem fCl_r (f : Nat) (h : am_H) : fCl f h h := ⟨rfl, rfl, rfl, rfl, fun _ _ _ _ => rfl, fun _ _ _ => rfl, fun _ _ => rfl⟩
theorem fCl_t {f : Nat} {a b c : am_H} (h1 : fCl f a b) (h2 : fCl f b c) : fCl f a c := by
  obtain ⟨a1, a2, a3, a4, a5, a6, a7⟩ := h1
  obtain ⟨b1, b2, b3, b4, b5, b6, b7⟩ := h2
  exact ⟨b1.trans a1, b2.trans a2, b3.trans a3, b4.trans a4, fun x p q r => (b5 x p q r).trans (a5 x p q r), fun j p q => (b6 j p q).trans (a6 j p q), fun x p => (b7 x p).trans (a7 x p)⟩
theorem fZ_Cl {f : Nat} {h h' : am_H} (q : fZ f h h') : fCl f h h' := ⟨q.1, q.2.1, q.2.2.1, q.2.2.2.1, fun b _ p _ => q.2.2.2.2.1 b p, fun j _ _ => by rw [q.2.2.2.2.1 f (by omega)], q.2.2.2.2.2⟩
theorem fCl_f {f : Nat} {h0 h : am_H} (q : fCl f h0 h) {j : Nat} (hj : j = 14 ∨ j = 26) (v : Int32) : fCl f h0 (am_sI h f j v) := by
  refine fCl_t q ⟨rfl, rfl, rfl, rfl, fun b p _ _ => ?_, fun i p r => ?_, fun _ _ => rfl⟩
  · funext i
    rw [pc_I_I, if_neg (by omega)]
  · rw [pc_I_I, if_neg (by omega)]
theorem fCl_w {f : Nat} {h0 h : am_H} (q : fCl f h0 h) {x : Nat} (hx : x < 60) (j : Nat) (v : Int32) : fCl f h0 (am_sI h (f + 1462 + x) j v) := by
  refine fCl_t q ⟨rfl, rfl, rfl, rfl, fun b p _ r => ?_, fun i p r => ?_, fun _ _ => rfl⟩
  · funext i
    rw [pc_I_I, if_neg (by omega)]
  · rw [pc_I_I, if_neg (by omega)]
theorem fCl_at {f : Nat} {h h' : am_H} (q : fCl f h h') (H : RfAt h f) : RfAt h' f := RfAt_of H q.2.1 (fun b _ _ => by rw [q.1])
theorem fCl_rw {f r : Nat} {O : o_T} {h h' : am_H} (q : fCl f h h') (hr : r = f + 3 ∨ r = f + 4) (H : RwR h r O) : RwR h' r O := Rw_of H q.2.1 (q.2.2.2.2.1 r (by omega) (by omega) (by omega))
theorem Rf_goesAll {h : am_H} {f r : Nat} {O : o_T} (H : RfAt h f) (R : RwR h r O) (hr : r = f + 3 ∨ r = f + 4) (B : Nat → Prop) (d : Nat) :
    ∃ (h' : am_H) (n : Nat), f_Rf_goesAll (d + 3) h f r (wL B) = some (.inr (some (.int (nI n))), h') ∧ fCl f h h' ∧ am_I h' f 14 = 0 ∧ RfU h' f O B ∧ RfS h' f (o_P O) (l_A O B) (l_K O B) := by
  have ok := R.2.1
  obtain ⟨g, eg, qg, Ug, Sg⟩ := Rf_beginsRounds H R (by omega) B d
  have Hg := fZ_at qg H
  have Rg := fZ_rw qg (show r ≠ f + 1460 by omega) R
  obtain ⟨k, hk, hr1, hr2⟩ := s_stops B ok
  have key : ∀ j, j ≤ k → ∀ u : am_H, fRL f 6 1460 g u → RfS u f (o_P O) (s_A O B j) (s_K O B j) → ∃ (h' : am_H) (n : Nat), f_Rf_goesAll_9 (d + 3) u f r (wL B) (nI j) = some (.inr (some (.int (nI n))), h') ∧ fCl f h h' ∧ am_I h' f 14 = 0 ∧ RfU h' f O B ∧ RfS h' f (o_P O) (l_A O B) (l_K O B) := by
    have stp : ∀ j (u : am_H), fRL f 6 1460 g u → RfS u f (o_P O) (s_A O B j) (s_K O B j) → ∃ (h' : am_H) (m : Bool), f_Rf_goesRound (d + 2) u f r (wL B) = some (.inr (some (.int (bo m))), h') ∧ fRL f 6 1460 g h' ∧ RfS h' f (o_P O) (s_A O B (j + 1)) (s_K O B (j + 1)) ∧ (m = false ↔ s_end O B j) := by
      intro j u q S
      obtain ⟨v, m, ev, qv, sv, hm⟩ := Rf_goesRound (fRL_at q Hg) (fRL_rw q Rg) (fun x hx => by rw [q.1]; exact Ug x hx) S (fun x y hx c => s_Ad ok hx c) (fun x r y c => s_Kd ok c) d
      exact ⟨v, m, ev, fX_t q qv, sv, hm⟩
    refine dn ?_ ?_
    · intro u q S
      have Hu := fRL_at q Hg
      obtain ⟨v, m, ev, qv, sv, hm⟩ := stp k u q S
      have hmf : m = false := hm.mpr hr1
      subst hmf
      have Hv := fRL_at qv Hg
      rw [e_Rf_goesAll_9]
      simp (disch := first | assumption | omega) only [hc_ck, hc_gi, hc_gl, hc_gp, ap_I, ap_L, kd_I, kd_L, kd_P, kd_rI, ar_I, ar_L, ar_P, al_I, al_L, al_P, hop_s, cond_true, cond_false, pc_I_I, pc_L_L, pc_P_P, pc_I_L, pc_I_P, pc_L_I, pc_L_P, pc_P_I, pc_P_L, pc_sS_I, pc_sS_L, pc_sS_P, I_rI, L_rI, P_rI, S_rI, cv_r, ci_r, cl_r, o1_b, o1_0, o1_1, lc_e, nI_1, nI_add, if_true, if_false, Nat.reduceEqDiff, Nat.left_eq_add, Nat.add_eq_left, false_and, and_false, true_and, and_true, and_self, eq_self, Rf_k, ev, bo_f]
      refine ⟨_, k, rfl, fCl_f (fCl_t (fZ_Cl qg) (fZ_Cl (fRL_Z qv (by omega) (by omega)))) (Or.inl rfl) 0, ?_, ?_, ?_⟩
      · rw [pc_I_I, if_pos ⟨rfl, rfl⟩]
      · intro x hx
        rw [pc_I_I, if_neg (by omega), qv.1]
        exact Ug x hx
      · intro x hx
        obtain ⟨c1, c2⟩ := s_all ok hr1 hx
        obtain ⟨a1, a2⟩ := sv x hx
        refine ⟨?_, fun r hr' => ?_⟩
        · show am_L v (f + 6) x = _
          rw [a1]
          exact wL_cong (fun y _ => ⟨fun c => ⟨_, c⟩, fun c => Or.inl ((c1 y).mp c)⟩)
        · show am_L v (f + 9 + x) r = _
          rw [a2 r hr']
          exact wL_cong (fun y _ => ⟨fun c => ⟨_, c⟩, fun c => Or.inl ((c2 r y).mp c)⟩)
    · intro j hj ih u q S
      have Hu := fRL_at q Hg
      obtain ⟨v, m, ev, qv, sv, hm⟩ := stp j u q S
      have hmt : m = true := by
        cases m with
        | true => rfl
        | false => exact absurd (hm.mp rfl) (hr2 j hj)
      subst hmt
      rw [e_Rf_goesAll_9]
      simp (disch := first | assumption | omega) only [hc_ck, hc_gi, hc_gl, hc_gp, ap_I, ap_L, kd_I, kd_L, kd_P, kd_rI, ar_I, ar_L, ar_P, al_I, al_L, al_P, hop_s, cond_true, cond_false, pc_I_I, pc_L_L, pc_P_P, pc_I_L, pc_I_P, pc_L_I, pc_L_P, pc_P_I, pc_P_L, pc_sS_I, pc_sS_L, pc_sS_P, I_rI, L_rI, P_rI, S_rI, cv_r, ci_r, cl_r, o1_b, o1_0, o1_1, lc_e, nI_1, nI_add, if_true, if_false, Nat.reduceEqDiff, Nat.left_eq_add, Nat.add_eq_left, false_and, and_false, true_and, and_true, and_self, eq_self, Rf_k, ev, bo_t, z10]
      exact ih v qv sv
  obtain ⟨v, n, ev, qv⟩ := key 0 (Nat.zero_le _) g (fX_r _ _) Sg
  refine ⟨v, n, ?_, qv⟩
  rw [e_Rf_goesAll]
  simp (disch := first | assumption | omega) only [hc_ck, hc_gi, hc_gl, hc_gp, ap_I, ap_L, kd_I, kd_L, kd_P, kd_rI, ar_I, ar_L, ar_P, al_I, al_L, al_P, hop_s, cond_true, cond_false, pc_I_I, pc_L_L, pc_P_P, pc_I_L, pc_I_P, pc_L_I, pc_L_P, pc_P_I, pc_P_L, pc_sS_I, pc_sS_L, pc_sS_P, I_rI, L_rI, P_rI, S_rI, cv_r, ci_r, cl_r, o1_b, o1_0, o1_1, lc_e, nI_1, nI_add, if_true, if_false, Nat.reduceEqDiff, Nat.left_eq_add, Nat.add_eq_left, false_and, and_false, true_and, and_true, and_self, eq_self, Rf_k, eg]
  exact ev
/-- when it came, as far as round k (not with it) -/
noncomputable def w_c (O : o_T) (B : Nat → Prop) (k x y : Nat) : Nat := lm (fun j => j < k ∧ s_A O B j x y)
theorem w_c0 (O : o_T) (B : Nat → Prop) (x y : Nat) : w_c O B 0 x y = 4294967295 := lm_n (fun j c => absurd c.1 (Nat.not_lt_zero j))
theorem w_cn {O : o_T} {B : Nat → Prop} {k x y : Nat} (h : ¬ s_A O B k x y) : w_c O B (k + 1) x y = w_c O B k x y := lm_c (fun j => ⟨fun c => ⟨by
    by_cases e : j = k
    · subst e; exact absurd c.2 h
    · omega, c.2⟩, fun c => ⟨by omega, c.2⟩⟩)
theorem w_cs {O : o_T} {B : Nat → Prop} {k x y : Nat} (h : ∃ j, j < k ∧ s_A O B j x y) : w_c O B (k + 1) x y = w_c O B k x y := by
  obtain ⟨c1, c2⟩ := lm_s h
  have c3 := c1.1
  show lm _ = lm (fun j => j < k ∧ s_A O B j x y)
  exact lm_e ⟨by omega, c1.2⟩ (fun i hi c => c2 i hi ⟨by omega, c.2⟩)
theorem w_ce {O : o_T} {B : Nat → Prop} {k x y : Nat} (h : s_A O B k x y) (h2 : ¬ ∃ j, j < k ∧ s_A O B j x y) : w_c O B (k + 1) x y = k := lm_e ⟨by omega, h⟩ (fun i hi c => h2 ⟨i, hi, c.2⟩)
theorem w_clt {O : o_T} {B : Nat → Prop} {k x y : Nat} (h : ∃ j, j < k ∧ s_A O B j x y) : w_c O B k x y < k := (lm_s h).1.1
theorem Rf_notesWhen {h : am_H} {f k : Nat} {O : o_T} {B : Nat → Prop} (H : RfAt h f) (R : RwR h (f + 3) O) (hA : ∀ x, x < o_P O → am_L h (f + 6) x = wL (s_A O B k x)) (hk : k ≤ 40000) (hW : ∀ x y, x < o_P O → y < o_P O → am_I h (f + 1462 + x) y = nI (w_c O B k x y)) (d : Nat) :
    ∃ h', f_Rf_notesWhen (d + 1) h f (nI k) = some (.inr none, h') ∧ fCl f h h' ∧ am_L h' = am_L h ∧ am_I h' f = am_I h f ∧ am_I h' (f + 1460) = am_I h (f + 1460) ∧ (∀ x y, x < o_P O → y < o_P O → am_I h' (f + 1462 + x) y = nI (w_c O B (k + 1) x y)) := by
  have ok4 := R.2.1.2.2.2.1
  have key : ∀ i, i ≤ o_P O → ∀ u : am_H, fCl f h u → am_L u = am_L h → am_I u f = am_I h f → am_I u (f + 1460) = am_I h (f + 1460) → (∀ x y, x < i → y < o_P O → am_I u (f + 1462 + x) y = nI (w_c O B (k + 1) x y)) → (∀ x y, i ≤ x → x < o_P O → y < o_P O → am_I u (f + 1462 + x) y = nI (w_c O B k x y)) →
      ∃ h', f_Rf_notesWhen_2 (d + 1) u f (nI k) (nI i) = some (.inr none, h') ∧ fCl f h h' ∧ am_L h' = am_L h ∧ am_I h' f = am_I h f ∧ am_I h' (f + 1460) = am_I h (f + 1460) ∧ (∀ x y, x < o_P O → y < o_P O → am_I h' (f + 1462 + x) y = nI (w_c O B (k + 1) x y)) := by
    refine dn ?_ ?_
    · intro u q eL eF eU h1 h2
      have Hu := fCl_at q H
      have Ru := fCl_rw q (Or.inl rfl) R
      refine ⟨u, ?_, q, eL, eF, eU, h1⟩
      rw [e_Rf_notesWhen_2]
      simp (disch := first | assumption | omega) only [hc_ck, hc_gi, hc_gl, hc_gp, ap_I, ap_L, kd_I, kd_L, kd_P, kd_rI, ar_I, ar_L, ar_P, al_I, al_L, al_P, hop_s, cond_true, cond_false, pc_I_I, pc_L_L, pc_P_P, pc_I_L, pc_I_P, pc_L_I, pc_L_P, pc_P_I, pc_P_L, pc_sS_I, pc_sS_L, pc_sS_P, I_rI, L_rI, P_rI, S_rI, cv_r, ci_r, cl_r, o1_b, o1_0, o1_1, lc_e, nI_1, nI_add, if_true, if_false, Nat.reduceEqDiff, Nat.left_eq_add, Nat.add_eq_left, false_and, and_false, true_and, and_true, and_self, eq_self, Rf_k, Rf_p9, n_2, Rw_ar, Rw_P, n_le, Nat.le_refl]
    · intro i hi ih u q eL eF eU h1 h2
      have Hu := fCl_at q H
      have Ru := fCl_rw q (Or.inl rfl) R
      have hi3 : ¬ o_P O ≤ i := by omega
      have inner : ∀ j, j ≤ o_P O → ∀ v : am_H, fCl f h v → am_L v = am_L h → am_I v f = am_I h f → am_I v (f + 1460) = am_I h (f + 1460) → (∀ x y, x < i → y < o_P O → am_I v (f + 1462 + x) y = nI (w_c O B (k + 1) x y)) → (∀ y, y < j → am_I v (f + 1462 + i) y = nI (w_c O B (k + 1) i y)) → (∀ y, j ≤ y → y < o_P O → am_I v (f + 1462 + i) y = nI (w_c O B k i y)) → (∀ x y, i < x → x < o_P O → y < o_P O → am_I v (f + 1462 + x) y = nI (w_c O B k x y)) →
          ∃ h', f_Rf_notesWhen_14 (d + 1) v f (nI k) (nI i) (nI j) = some (.inr none, h') ∧ fCl f h h' ∧ am_L h' = am_L h ∧ am_I h' f = am_I h f ∧ am_I h' (f + 1460) = am_I h (f + 1460) ∧ (∀ x y, x < o_P O → y < o_P O → am_I h' (f + 1462 + x) y = nI (w_c O B (k + 1) x y)) := by
        refine dn ?_ ?_
        · intro v q eL eF eU h1 h3 h4 h2
          have Hv := fCl_at q H
          have Rv := fCl_rw q (Or.inl rfl) R
          rw [e_Rf_notesWhen_14]
          simp (disch := first | assumption | omega) only [hc_ck, hc_gi, hc_gl, hc_gp, ap_I, ap_L, kd_I, kd_L, kd_P, kd_rI, ar_I, ar_L, ar_P, al_I, al_L, al_P, hop_s, cond_true, cond_false, pc_I_I, pc_L_L, pc_P_P, pc_I_L, pc_I_P, pc_L_I, pc_L_P, pc_P_I, pc_P_L, pc_sS_I, pc_sS_L, pc_sS_P, I_rI, L_rI, P_rI, S_rI, cv_r, ci_r, cl_r, o1_b, o1_0, o1_1, lc_e, nI_1, nI_add, if_true, if_false, Nat.reduceEqDiff, Nat.left_eq_add, Nat.add_eq_left, false_and, and_false, true_and, and_true, and_self, eq_self, Rf_k, Rf_p9, n_2, Rw_ar, Rw_P, n_le, Nat.le_refl]
          refine ih v q eL eF eU ?_ (fun x y a b c => h2 x y (by omega) b c)
          intro x y hx hy
          by_cases e : x = i
          · subst e; exact h3 y hy
          · exact h1 x y (by omega) hy
        · intro j hj ih2 v q eL eF eU h1 h3 h4 h2
          have Hv := fCl_at q H
          have Rv := fCl_rw q (Or.inl rfl) R
          have hj3 : ¬ o_P O ≤ j := by omega
          have eA : am_L v (f + 6) i = wL (s_A O B k i) := by rw [eL]; exact hA i hi
          have ew := h4 j (Nat.le_refl j) hj
          have go : w_c O B (k + 1) i j = w_c O B k i j → ∃ h', f_Rf_notesWhen_14 (d + 1) v f (nI k) (nI i) (nI (j + 1)) = some (.inr none, h') ∧ fCl f h h' ∧ am_L h' = am_L h ∧ am_I h' f = am_I h f ∧ am_I h' (f + 1460) = am_I h (f + 1460) ∧ (∀ x y, x < o_P O → y < o_P O → am_I h' (f + 1462 + x) y = nI (w_c O B (k + 1) x y)) := by
            intro e
            refine ih2 v q eL eF eU h1 ?_ (fun y a b => h4 y (by omega) b) h2
            intro y hy
            by_cases e' : y = j
            · subst e'; rw [ew, e]
            · exact h3 y (by omega)
          rw [e_Rf_notesWhen_14]
          simp (disch := first | assumption | omega) only [hc_ck, hc_gi, hc_gl, hc_gp, ap_I, ap_L, kd_I, kd_L, kd_P, kd_rI, ar_I, ar_L, ar_P, al_I, al_L, al_P, hop_s, cond_true, cond_false, pc_I_I, pc_L_L, pc_P_P, pc_I_L, pc_I_P, pc_L_I, pc_L_P, pc_P_I, pc_P_L, pc_sS_I, pc_sS_L, pc_sS_P, I_rI, L_rI, P_rI, S_rI, cv_r, ci_r, cl_r, o1_b, o1_0, o1_1, lc_e, nI_1, nI_add, if_true, if_false, Nat.reduceEqDiff, Nat.left_eq_add, Nat.add_eq_left, false_and, and_false, true_and, and_true, and_self, eq_self, Rf_k, Rf_p9, n_2, Rw_ar, Rw_P, n_le, hj3, Rf_p18, Rf_r6, eA, Rf_has, bo_0, Rf_p25, Rf_a1461, Rf_b1462, ew]
          by_cases c : s_A O B k i j
          · simp only [xl_wt (show j < 64 by omega) c, Bool.true_eq_false, if_false, lit_m1]
            by_cases c2 : ∃ j', j' < k ∧ s_A O B j' i j
            · have hlt := w_clt c2
              rw [if_neg (by rw [nI_e32 (by omega) (by omega)]; omega)]
              exact go (w_cs c2)
            · rw [if_pos (by unfold w_c; rw [lm_n (fun i c => c2 ⟨i, c⟩)])]
              refine ih2 _ (fCl_w q (by omega) _ _) eL ?_ ?_ ?_ ?_ ?_ ?_
              · rw [← eF]; funext z; rw [pc_I_I, if_neg (by omega)]
              · rw [← eU]; funext z; rw [pc_I_I, if_neg (by omega)]
              · intro x y hx hy
                rw [pc_I_I, if_neg (by omega)]; exact h1 x y hx hy
              · intro y hy
                rw [pc_I_I]
                by_cases e : y = j
                · subst e
                  rw [if_pos ⟨rfl, rfl⟩, w_ce c c2]
                · rw [if_neg (by omega)]; exact h3 y (by omega)
              · intro y a b
                rw [pc_I_I, if_neg (by omega)]; exact h4 y (by omega) b
              · intro x y a b c
                rw [pc_I_I, if_neg (by omega)]; exact h2 x y a b c
          · simp only [xl_wf (show j < 64 by omega) c, if_true]
            exact go (w_cn c)
      rw [e_Rf_notesWhen_2]
      simp (disch := first | assumption | omega) only [hc_ck, hc_gi, hc_gl, hc_gp, ap_I, ap_L, kd_I, kd_L, kd_P, kd_rI, ar_I, ar_L, ar_P, al_I, al_L, al_P, hop_s, cond_true, cond_false, pc_I_I, pc_L_L, pc_P_P, pc_I_L, pc_I_P, pc_L_I, pc_L_P, pc_P_I, pc_P_L, pc_sS_I, pc_sS_L, pc_sS_P, I_rI, L_rI, P_rI, S_rI, cv_r, ci_r, cl_r, o1_b, o1_0, o1_1, lc_e, nI_1, nI_add, if_true, if_false, Nat.reduceEqDiff, Nat.left_eq_add, Nat.add_eq_left, false_and, and_false, true_and, and_true, and_self, eq_self, Rf_k, Rf_p9, n_2, Rw_ar, Rw_P, n_le, hi3]
      exact inner 0 (Nat.zero_le _) u q eL eF eU h1 (fun y hy => absurd hy (Nat.not_lt_zero y)) (fun y _ hy => h2 i y (Nat.le_refl i) hi hy) (fun x y a b c => h2 x y (by omega) b c)
  rw [e_Rf_notesWhen]
  exact key 0 (Nat.zero_le _) h (fCl_r _ _) rfl rfl rfl (fun x y hx => absurd hx (Nat.not_lt_zero x)) (fun x y _ hx hy => hW x y hx hy)
/-- all that is by the axioms that are on, laid out -/
def RfL (h : am_H) (f : Nat) (O : o_T) (B : Nat → Prop) : Prop := ∃ k, k ≤ 32400 ∧ s_rds O B k ∧ am_I h f 26 = nI k ∧ RfU h f O B ∧ RfS h f (o_P O) (l_A O B) (l_K O B) ∧ ∀ x y, x < o_P O → y < o_P O → am_I h (f + 1462 + x) y = nI (w_c O B (k + 1) x y)
theorem Rf_classifies {h : am_H} {f : Nat} {O : o_T} {B : Nat → Prop} (H : RfAt h f) (R : RwR h (f + 3) O) (hB : am_L h f 11 = wL B) (hL : am_I h f 14 = 0 ∨ (am_I h f 14 = 1 ∧ RfL h f O B)) (d : Nat) : ∃ h', f_Rf_classifies (d + 3) h f = some (.inr none, h') ∧ fCl f h h' ∧ am_I h' f 14 = 1 ∧ RfL h' f O B := by
  have ok := R.2.1
  have ok4 := ok.2.2.2.1
  rw [e_Rf_classifies]
  simp (disch := first | assumption | omega) only [hc_ck, hc_gi, hc_gl, hc_gp, ap_I, ap_L, kd_I, kd_L, kd_P, kd_rI, ar_I, ar_L, ar_P, al_I, al_L, al_P, hop_s, cond_true, cond_false, pc_I_I, pc_L_L, pc_P_P, pc_I_L, pc_I_P, pc_L_I, pc_L_P, pc_P_I, pc_P_L, pc_sS_I, pc_sS_L, pc_sS_P, I_rI, L_rI, P_rI, S_rI, cv_r, ci_r, cl_r, o1_b, o1_0, o1_1, lc_e, nI_1, nI_add, if_true, if_false, Nat.reduceEqDiff, Nat.left_eq_add, Nat.add_eq_left, false_and, and_false, true_and, and_true, and_self, eq_self, Rf_k]
  rcases hL with e | ⟨e, L⟩
  · rw [if_pos e]
    obtain ⟨k, hk, hr1, hr2⟩ := s_stops B ok
    -- the rounds
    have key : ∀ j, j ≤ k → ∀ u : am_H, fCl f h u → am_I u f 26 = nI j → RfU u f O B → RfS u f (o_P O) (s_A O B j) (s_K O B j) → (∀ x y, x < o_P O → y < o_P O → am_I u (f + 1462 + x) y = nI (w_c O B (j + 1) x y)) → ∃ h', f_Rf_classifies_67 (d + 3) u f = some (.inr none, h') ∧ fCl f h h' ∧ am_I h' f 14 = 1 ∧ RfL h' f O B := by
      refine dn ?_ ?_
      · intro u q e26 Uu Su Wu
        have Hu := fCl_at q H
        have Ru := fCl_rw q (Or.inl rfl) R
        have Bu : am_L u f 11 = wL B := by rw [q.2.2.2.2.2.2 f (by omega)]; exact hB
        obtain ⟨v, m, ev, qv, sv, hm⟩ := Rf_goesRound Hu Ru Uu Su (fun x y hx c => s_Ad ok hx c) (fun x r y c => s_Kd ok c) d
        have hmf : m = false := hm.mpr hr1
        subst hmf
        have Hv := fRL_at qv Hu
        rw [e_Rf_classifies_67]
        simp (disch := first | assumption | omega) only [hc_ck, hc_gi, hc_gl, hc_gp, ap_I, ap_L, kd_I, kd_L, kd_P, kd_rI, ar_I, ar_L, ar_P, al_I, al_L, al_P, hop_s, cond_true, cond_false, pc_I_I, pc_L_L, pc_P_P, pc_I_L, pc_I_P, pc_L_I, pc_L_P, pc_P_I, pc_P_L, pc_sS_I, pc_sS_L, pc_sS_P, I_rI, L_rI, P_rI, S_rI, cv_r, ci_r, cl_r, o1_b, o1_0, o1_1, lc_e, nI_1, nI_add, if_true, if_false, Nat.reduceEqDiff, Nat.left_eq_add, Nat.add_eq_left, false_and, and_false, true_and, and_true, and_self, eq_self, Rf_k, Rf_p9, Bu, ev, bo_f]
        refine ⟨_, rfl, fCl_f (fCl_t q (fZ_Cl (fRL_Z qv (by omega) (by omega)))) (Or.inl rfl) 1, ?_, k, hk, ⟨hr1, hr2⟩, ?_, ?_, ?_, ?_⟩
        · rw [pc_I_I, if_pos ⟨rfl, rfl⟩]
        · rw [pc_I_I, if_neg (by omega), qv.1]
          exact e26
        · intro x hx
          rw [pc_I_I, if_neg (by omega), qv.1]
          exact Uu x hx
        · intro x hx
          obtain ⟨c1, c2⟩ := s_all ok hr1 hx
          obtain ⟨a1, a2⟩ := sv x hx
          refine ⟨?_, fun r hr' => ?_⟩
          · show am_L v (f + 6) x = _
            rw [a1]
            exact wL_cong (fun y _ => ⟨fun c => ⟨k + 1, c⟩, fun c => Or.inl ((c1 y).mp c)⟩)
          · show am_L v (f + 9 + x) r = _
            rw [a2 r hr']
            exact wL_cong (fun y _ => ⟨fun c => ⟨k + 1, c⟩, fun c => Or.inl ((c2 r y).mp c)⟩)
        · intro x y hx hy
          rw [pc_I_I, if_neg (by omega), qv.1]
          exact Wu x y hx hy
      · intro j hj ih u q e26 Uu Su Wu
        have Hu := fCl_at q H
        have Ru := fCl_rw q (Or.inl rfl) R
        have Bu : am_L u f 11 = wL B := by rw [q.2.2.2.2.2.2 f (by omega)]; exact hB
        obtain ⟨v, m, ev, qv, sv, hm⟩ := Rf_goesRound Hu Ru Uu Su (fun x y hx c => s_Ad ok hx c) (fun x r y c => s_Kd ok c) d
        have hmt : m = true := by
          cases m with
          | true => rfl
          | false => exact absurd (hm.mp rfl) (hr2 j hj)
        subst hmt
        have Hv := fRL_at qv Hu
        have Rv := fRL_rw qv Ru
        have e26v : am_I v f 26 = nI j := by rw [qv.1]; exact e26
        have q2 : fCl f v (am_sI v f 26 (nI (j + 1))) := fCl_f (fCl_r _ _) (Or.inr rfl) _
        obtain ⟨w, ew, qw, wL', wF, wU, hw⟩ := Rf_notesWhen (k := j + 1) (B := B) (fCl_at q2 Hv) (fCl_rw q2 (Or.inl rfl) Rv) (fun x hx => (sv x hx).1) (by omega) (fun x y hx hy => by
          rw [pc_I_I, if_neg (by omega), qv.1]
          exact Wu x y hx hy) (d + 1)
        rw [e_Rf_classifies_67]
        simp (disch := first | assumption | omega) only [hc_ck, hc_gi, hc_gl, hc_gp, ap_I, ap_L, kd_I, kd_L, kd_P, kd_rI, ar_I, ar_L, ar_P, al_I, al_L, al_P, hop_s, cond_true, cond_false, pc_I_I, pc_L_L, pc_P_P, pc_I_L, pc_I_P, pc_L_I, pc_L_P, pc_P_I, pc_P_L, pc_sS_I, pc_sS_L, pc_sS_P, I_rI, L_rI, P_rI, S_rI, cv_r, ci_r, cl_r, o1_b, o1_0, o1_1, lc_e, nI_1, nI_add, if_true, if_false, Nat.reduceEqDiff, Nat.left_eq_add, Nat.add_eq_left, false_and, and_false, true_and, and_true, and_self, eq_self, Rf_k, Rf_p9, Bu, ev, bo_t, z10, e26v, ew]
        refine ih w (fCl_t (fCl_t (fCl_t q (fZ_Cl (fRL_Z qv (by omega) (by omega)))) q2) qw) ?_ ?_ ?_ hw
        · rw [wF, pc_I_I, if_pos ⟨rfl, rfl⟩]
        · intro x hx
          rw [wU, pc_I_I, if_neg (by omega), qv.1]
          exact Uu x hx
        · intro x hx
          rw [wL']
          exact sv x hx
    -- the rows of when begin with none
    have fst : ∀ i, i ≤ 60 → ∀ u : am_H, fCl f h u → (∀ x y, x < i → y < 60 → am_I u (f + 1462 + x) y = nI 4294967295) → ∃ h', f_Rf_classifies_10 (d + 3) u f (nI i) = some (.inr none, h') ∧ fCl f h h' ∧ am_I h' f 14 = 1 ∧ RfL h' f O B := by
      refine dn ?_ ?_
      · intro u q hu
        have Hu := fCl_at q H
        have Ru := fCl_rw q (Or.inl rfl) R
        have Bu : am_L u f 11 = wL B := by rw [q.2.2.2.2.2.2 f (by omega)]; exact hB
        obtain ⟨g, eg, qg, Ug, Sg⟩ := Rf_beginsRounds Hu Ru (by omega) B d
        have qg' := fZ_Cl qg
        have Hg := fCl_at qg' Hu
        obtain ⟨w, ew, qw, wL', wF, wU, hw⟩ := Rf_notesWhen (k := 0) (B := B) Hg (fCl_rw qg' (Or.inl rfl) Ru) (fun x hx => (Sg x hx).1) (by omega) (fun x y hx hy => by
          rw [qg.2.2.2.2.1 (f + 1462 + x) (by omega), w_c0]
          exact hu x y (by omega) (by omega)) (d + 1)
        have Hw := fCl_at qw Hg
        rw [e_Rf_classifies_10]
        simp (disch := first | assumption | omega) only [hc_ck, hc_gi, hc_gl, hc_gp, ap_I, ap_L, kd_I, kd_L, kd_P, kd_rI, ar_I, ar_L, ar_P, al_I, al_L, al_P, hop_s, cond_true, cond_false, pc_I_I, pc_L_L, pc_P_P, pc_I_L, pc_I_P, pc_L_I, pc_L_P, pc_P_I, pc_P_L, pc_sS_I, pc_sS_L, pc_sS_P, I_rI, L_rI, P_rI, S_rI, cv_r, ci_r, cl_r, o1_b, o1_0, o1_1, lc_e, nI_1, nI_add, if_true, if_false, Nat.reduceEqDiff, Nat.left_eq_add, Nat.add_eq_left, false_and, and_false, true_and, and_true, and_self, eq_self, n_60, n_le, Nat.le_refl, Rf_k, Rf_p9, Bu, eg, n_0, ew]
        refine key 0 (Nat.zero_le _) _ (fCl_f (fCl_t (fCl_t q qg') qw) (Or.inr rfl) _) ?_ ?_ ?_ ?_
        · rw [pc_I_I, if_pos ⟨rfl, rfl⟩]
        · intro x hx
          rw [pc_I_I, if_neg (by omega), wU]
          exact Ug x hx
        · intro x hx
          show am_L w (f + 6) x = _ ∧ ∀ r, r < 8 → am_L w (f + 9 + x) r = _
          rw [wL']
          exact Sg x hx
        · intro x y hx hy
          rw [pc_I_I, if_neg (by omega)]
          exact hw x y hx hy
      · intro i hi ih u q hu
        have hi3 : ¬ 60 ≤ i := by omega
        have inner : ∀ j, j ≤ 60 → ∀ u : am_H, fCl f h u → (∀ x y, x < i → y < 60 → am_I u (f + 1462 + x) y = nI 4294967295) → (∀ y, y < j → am_I u (f + 1462 + i) y = nI 4294967295) → ∃ h', f_Rf_classifies_18 (d + 3) u f (nI i) (nI j) = some (.inr none, h') ∧ fCl f h h' ∧ am_I h' f 14 = 1 ∧ RfL h' f O B := by
          refine dn ?_ ?_
          · intro u q hu hu2
            rw [e_Rf_classifies_18]
            simp (disch := first | assumption | omega) only [hc_ck, hc_gi, hc_gl, hc_gp, ap_I, ap_L, kd_I, kd_L, kd_P, kd_rI, ar_I, ar_L, ar_P, al_I, al_L, al_P, hop_s, cond_true, cond_false, pc_I_I, pc_L_L, pc_P_P, pc_I_L, pc_I_P, pc_L_I, pc_L_P, pc_P_I, pc_P_L, pc_sS_I, pc_sS_L, pc_sS_P, I_rI, L_rI, P_rI, S_rI, cv_r, ci_r, cl_r, o1_b, o1_0, o1_1, lc_e, nI_1, nI_add, if_true, if_false, Nat.reduceEqDiff, Nat.left_eq_add, Nat.add_eq_left, false_and, and_false, true_and, and_true, and_self, eq_self, n_60, n_le, Nat.le_refl]
            refine ih u q ?_
            intro x y hx hy
            by_cases e : x = i
            · subst e; exact hu2 y hy
            · exact hu x y (by omega) hy
          · intro j hj ih2 u q hu hu2
            have Hu := fCl_at q H
            have hj3 : ¬ 60 ≤ j := by omega
            rw [e_Rf_classifies_18]
            simp (disch := first | assumption | omega) only [hc_ck, hc_gi, hc_gl, hc_gp, ap_I, ap_L, kd_I, kd_L, kd_P, kd_rI, ar_I, ar_L, ar_P, al_I, al_L, al_P, hop_s, cond_true, cond_false, pc_I_I, pc_L_L, pc_P_P, pc_I_L, pc_I_P, pc_L_I, pc_L_P, pc_P_I, pc_P_L, pc_sS_I, pc_sS_L, pc_sS_P, I_rI, L_rI, P_rI, S_rI, cv_r, ci_r, cl_r, o1_b, o1_0, o1_1, lc_e, nI_1, nI_add, if_true, if_false, Nat.reduceEqDiff, Nat.left_eq_add, Nat.add_eq_left, false_and, and_false, true_and, and_true, and_self, eq_self, n_60, n_le, hj3, Rf_k, Rf_p25, Rf_a1461, Rf_b1462, lit_m1]
            refine ih2 _ (fCl_w q (by omega) _ _) ?_ ?_
            · intro x y hx hy
              rw [pc_I_I, if_neg (by omega)]; exact hu x y hx hy
            · intro y hy
              rw [pc_I_I]
              by_cases e : y = j
              · rw [if_pos ⟨rfl, e⟩]
              · rw [if_neg (by omega)]; exact hu2 y (by omega)
        rw [e_Rf_classifies_10]
        simp (disch := first | assumption | omega) only [hc_ck, hc_gi, hc_gl, hc_gp, ap_I, ap_L, kd_I, kd_L, kd_P, kd_rI, ar_I, ar_L, ar_P, al_I, al_L, al_P, hop_s, cond_true, cond_false, pc_I_I, pc_L_L, pc_P_P, pc_I_L, pc_I_P, pc_L_I, pc_L_P, pc_P_I, pc_P_L, pc_sS_I, pc_sS_L, pc_sS_P, I_rI, L_rI, P_rI, S_rI, cv_r, ci_r, cl_r, o1_b, o1_0, o1_1, lc_e, nI_1, nI_add, if_true, if_false, Nat.reduceEqDiff, Nat.left_eq_add, Nat.add_eq_left, false_and, and_false, true_and, and_true, and_self, eq_self, n_60, n_le, hi3]
        exact inner 0 (Nat.zero_le _) u q hu (fun y hy => absurd hy (Nat.not_lt_zero y))
    exact fst 0 (Nat.zero_le _) h (fCl_r _ _) (fun x y hx => absurd hx (Nat.not_lt_zero x))
  · rw [if_neg (by rw [e]; decide)]
    exact ⟨h, rfl, fCl_r _ _, e, L⟩
