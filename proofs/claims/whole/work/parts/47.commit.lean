/-! ===== the class's saturation: commit ===== -/
theorem Sa_spreadReach {h : am_H} {s o : Nat} {O : o_T} {B : Nat → Prop} (H : SaC h s o O B) {x r : Nat} (hx : x < o_P O) (hr : r < o_R O) (Rh : Nat → Nat → Prop) (E : Nat → Prop) (hR : ∀ q, q < o_R O → am_L h (s + 8) (x * 8 + q) = wL (Rh q)) (d : Nat) :
    ∃ h', f_Sa_spreadReach d h s (nI x) (nI r) (wL E) = some (.inr none, h') ∧ fX (fun b => b = s + 8) h h' ∧ (∀ q, q < o_R O → am_L h' (s + 8) (x * 8 + q) = wL (fun y => Rh q y ∨ (o_un O B r q ∧ E y))) ∧ (∀ j, j < x * 8 ∨ x * 8 + 8 ≤ j → am_L h' (s + 8) j = am_L h (s + 8) j) := by
  have ok : o_ok O := H.2.1.2.1
  obtain ⟨-, ok2, ok3, ok4, ok5, -, -, -, okA, -⟩ := ok
  have key : ∀ i, i ≤ o_R O → ∀ (u : am_H), fX (fun b => b = s + 8) h u → (∀ q, q < o_R O → am_L u (s + 8) (x * 8 + q) = wL (fun y => Rh q y ∨ (q < i ∧ o_un O B r q ∧ E y))) → (∀ j, j < x * 8 ∨ x * 8 + 8 ≤ j → am_L u (s + 8) j = am_L h (s + 8) j) →
      ∃ h', f_Sa_spreadReach_3 d u s (nI x) (nI r) (wL E) (nI i) = some (.inr none, h') ∧ fX (fun b => b = s + 8) h h' ∧ (∀ q, q < o_R O → am_L h' (s + 8) (x * 8 + q) = wL (fun y => Rh q y ∨ (o_un O B r q ∧ E y))) ∧ (∀ j, j < x * 8 ∨ x * 8 + 8 ≤ j → am_L h' (s + 8) j = am_L h (s + 8) j) := by
    refine dn ?_ ?_
    · intro u q hq hj
      have Hu := SaC_f H (fX_L q (fun b hb => by omega))
      have H1 := SaC_at Hu
      refine ⟨u, ?_, q, ?_, hj⟩
      · rw [e_Sa_spreadReach_3]
        simp (disch := first | assumption | omega) only [hc_ck, hc_gi, hc_gl, hc_gp, hc_ap, kd_I, kd_L, kd_P, kd_rI, ar_I, ar_L, ar_P, al_I, al_L, al_P, hop_s, cond_true, cond_false, pc_I_I, pc_L_L, pc_P_P, pc_I_L, pc_I_P, pc_L_I, pc_L_P, pc_P_I, pc_P_L, pc_sS_I, pc_sS_L, pc_sS_P, I_rI, L_rI, P_rI, S_rI, cv_r, ci_r, cl_r, o1_b, o1_0, o1_1, lc_e, nI_1, nI_add, if_true, if_false, Nat.reduceEqDiff, Nat.left_eq_add, Nat.add_eq_left, false_and, and_false, true_and, and_true, and_self, eq_self, Sa_k, SaC_R, n_le, Nat.le_refl]
      · intro p hp
        rw [hq p hp]
        exact wL_cong (fun y _ => ⟨fun a => a.imp id (fun b => b.2), fun a => a.imp id (fun b => ⟨hp, b⟩)⟩)
    · intro i hi ih u q hq hj
      have Hu := SaC_f H (fX_L q (fun b hb => by omega))
      have H1 := SaC_at Hu
      have hi3 : ¬ o_R O ≤ i := by omega
      rw [e_Sa_spreadReach_3]
      simp (disch := first | assumption | omega) only [hc_ck, hc_gi, hc_gl, hc_gp, hc_ap, kd_I, kd_L, kd_P, kd_rI, ar_I, ar_L, ar_P, al_I, al_L, al_P, hop_s, cond_true, cond_false, pc_I_I, pc_L_L, pc_P_P, pc_I_L, pc_I_P, pc_L_I, pc_L_P, pc_P_I, pc_P_L, pc_sS_I, pc_sS_L, pc_sS_P, I_rI, L_rI, P_rI, S_rI, cv_r, ci_r, cl_r, o1_b, o1_0, o1_1, lc_e, nI_1, nI_add, if_true, if_false, Nat.reduceEqDiff, Nat.left_eq_add, Nat.add_eq_left, false_and, and_false, true_and, and_true, and_self, eq_self, Sa_k, SaC_R, n_le, hi3, Sa_p10, Sa_r4, SaC_u, yi_t0]
      by_cases hu : o_un O B r i
      · simp (disch := first | assumption | omega) only [hc_ck, hc_gi, hc_gl, hc_gp, hc_ap, kd_I, kd_L, kd_P, kd_rI, ar_I, ar_L, ar_P, al_I, al_L, al_P, hop_s, cond_true, cond_false, pc_I_I, pc_L_L, pc_P_P, pc_I_L, pc_I_P, pc_L_I, pc_L_P, pc_P_I, pc_P_L, pc_sS_I, pc_sS_L, pc_sS_P, I_rI, L_rI, P_rI, S_rI, cv_r, ci_r, cl_r, o1_b, o1_0, o1_1, lc_e, nI_1, nI_add, if_true, if_false, Nat.reduceEqDiff, Nat.left_eq_add, Nat.add_eq_left, false_and, and_false, true_and, and_true, and_self, eq_self, show yi (wI (o_un O B r)) i = true from wI_x.mpr ⟨by omega, hu⟩, Bool.true_eq_false, Sa_k, Sa_p14, n_m8, Sa_r8]
        refine ih _ (fX_w q rfl _ _) ?_ ?_
        · intro p hp
          simp only [pc_L_L, true_and]
          by_cases e : p = i
          · subst e
            rw [if_pos rfl, hq p hp, wL_or]
            refine wL_cong (fun y _ => ⟨?_, ?_⟩)
            · rintro ((a | ⟨a, b⟩) | a)
              · exact Or.inl a
              · omega
              · exact Or.inr ⟨by omega, hu, a⟩
            · rintro (a | ⟨-, -, a⟩)
              · exact Or.inl (Or.inl a)
              · exact Or.inr a
          · rw [if_neg (by omega), hq p hp]
            refine wL_cong (fun y _ => ⟨?_, ?_⟩)
            · rintro (a | ⟨a, b⟩)
              · exact Or.inl a
              · exact Or.inr ⟨by omega, b⟩
            · rintro (a | ⟨a, b⟩)
              · exact Or.inl a
              · exact Or.inr ⟨by omega, b⟩
        · intro j hj'
          simp only [pc_L_L, true_and]
          rw [if_neg (by omega)]
          exact hj j hj'
      · simp only [show yi (wI (o_un O B r)) i = false from cast (wI_f (by omega)).symm hu, if_true]
        refine ih _ q ?_ hj
        intro p hp
        rw [hq p hp]
        refine wL_cong (fun y _ => ⟨?_, ?_⟩)
        · rintro (a | ⟨a, b⟩)
          · exact Or.inl a
          · exact Or.inr ⟨by omega, b⟩
        · rintro (a | ⟨a, b⟩)
          · exact Or.inl a
          · by_cases e : p = i
            · subst e; exact absurd b.1 hu
            · exact Or.inr ⟨by omega, b⟩
  rw [e_Sa_spreadReach]
  refine key 0 (Nat.zero_le _) h (fX_r _ _) ?_ (fun _ _ => rfl)
  intro q hq
  rw [hR q hq]
  exact wL_cong (fun y _ => ⟨Or.inl, fun a => a.elim id (fun b => absurd b.1 (Nat.not_lt_zero _))⟩)
/-- the links of x are taken over -/
theorem Sa_commit81 {h : am_H} {s o : Nat} {O : o_T} {B : Nat → Prop} {K : Nat → Nat → Nat → Prop} (H : SaC h s o O B) {x : Nat} (hx : x < o_P O) (NK : Nat → Nat → Prop) (hNK : ∀ r y, NK r y → r < o_R O)
    (hl : am_L h (s + 9) x = wL (fun y => ∃ r, K x r y)) (hr : ∀ r, r < o_R O → am_L h (s + 7) (x * 8 + r) = wL (K x r) ∧ am_L h (s + 8) (x * 8 + r) = wL (fun y => ∃ q, o_un O B q r ∧ K x q y) ∧ am_L h (s + 11) (x * 8 + r) = wL (NK r)) (m0 : Bool) (d : Nat) :
    ∃ h' m, f_Sa_commit_81 (d + 1) h s (nI x) (bo m0) 0 = some (.inr (some (.int (bo m))), h') ∧ (m = true ↔ (m0 = true ∨ ∃ r, r < o_R O ∧ ∃ y, y < 64 ∧ NK r y ∧ ¬ K x r y)) ∧ fX (fun b => b = s + 7 ∨ b = s + 8 ∨ b = s + 9 ∨ b = s + 11) h h' ∧
      am_L h' (s + 9) x = wL (fun y => ∃ r, K x r y ∨ NK r y) ∧ (∀ j, j ≠ x → am_L h' (s + 9) j = am_L h (s + 9) j) ∧
      (∀ r, r < o_R O → am_L h' (s + 7) (x * 8 + r) = wL (fun y => K x r y ∨ NK r y) ∧ am_L h' (s + 8) (x * 8 + r) = wL (fun y => ∃ q, o_un O B q r ∧ (K x q y ∨ NK q y)) ∧ am_L h' (s + 11) (x * 8 + r) = 0) ∧
      (∀ j, j < x * 8 ∨ x * 8 + 8 ≤ j → am_L h' (s + 7) j = am_L h (s + 7) j ∧ am_L h' (s + 8) j = am_L h (s + 8) j ∧ am_L h' (s + 11) j = am_L h (s + 11) j) := by
  have ok : o_ok O := H.2.1.2.1
  obtain ⟨-, ok2, ok3, ok4, ok5, -, -, -, okA, -⟩ := ok
  have key : ∀ i, i ≤ o_R O → ∀ (u : am_H) (m1 : Bool), (m1 = true ↔ (m0 = true ∨ ∃ r, r < i ∧ ∃ y, y < 64 ∧ NK r y ∧ ¬ K x r y)) → fX (fun b => b = s + 7 ∨ b = s + 8 ∨ b = s + 9 ∨ b = s + 11) h u →
      am_L u (s + 9) x = wL (fun y => ∃ r, K x r y ∨ (r < i ∧ NK r y)) → (∀ j, j ≠ x → am_L u (s + 9) j = am_L h (s + 9) j) →
      (∀ r, r < o_R O → am_L u (s + 7) (x * 8 + r) = wL (fun y => K x r y ∨ (r < i ∧ NK r y)) ∧ am_L u (s + 8) (x * 8 + r) = wL (fun y => ∃ q, o_un O B q r ∧ (K x q y ∨ (q < i ∧ NK q y))) ∧ am_L u (s + 11) (x * 8 + r) = if r < i then 0 else wL (NK r)) →
      (∀ j, j < x * 8 ∨ x * 8 + 8 ≤ j → am_L u (s + 7) j = am_L h (s + 7) j ∧ am_L u (s + 8) j = am_L h (s + 8) j ∧ am_L u (s + 11) j = am_L h (s + 11) j) →
      ∃ h' m, f_Sa_commit_81 (d + 1) u s (nI x) (bo m1) (nI i) = some (.inr (some (.int (bo m))), h') ∧ (m = true ↔ (m0 = true ∨ ∃ r, r < o_R O ∧ ∃ y, y < 64 ∧ NK r y ∧ ¬ K x r y)) ∧ fX (fun b => b = s + 7 ∨ b = s + 8 ∨ b = s + 9 ∨ b = s + 11) h h' ∧
      am_L h' (s + 9) x = wL (fun y => ∃ r, K x r y ∨ NK r y) ∧ (∀ j, j ≠ x → am_L h' (s + 9) j = am_L h (s + 9) j) ∧
      (∀ r, r < o_R O → am_L h' (s + 7) (x * 8 + r) = wL (fun y => K x r y ∨ NK r y) ∧ am_L h' (s + 8) (x * 8 + r) = wL (fun y => ∃ q, o_un O B q r ∧ (K x q y ∨ NK q y)) ∧ am_L h' (s + 11) (x * 8 + r) = 0) ∧
      (∀ j, j < x * 8 ∨ x * 8 + 8 ≤ j → am_L h' (s + 7) j = am_L h (s + 7) j ∧ am_L h' (s + 8) j = am_L h (s + 8) j ∧ am_L h' (s + 11) j = am_L h (s + 11) j) := by
    refine dn ?_ ?_
    · intro u m1 hm q h9 h9j hrr hj
      have Hu := SaC_f H (fX_L q (fun b hb => by omega))
      have H1 := SaC_at Hu
      refine ⟨u, m1, ?_, hm, q, ?_, h9j, ?_, hj⟩
      · rw [e_Sa_commit_81]
        simp (disch := first | assumption | omega) only [hc_ck, hc_gi, hc_gl, hc_gp, hc_ap, kd_I, kd_L, kd_P, kd_rI, ar_I, ar_L, ar_P, al_I, al_L, al_P, hop_s, cond_true, cond_false, pc_I_I, pc_L_L, pc_P_P, pc_I_L, pc_I_P, pc_L_I, pc_L_P, pc_P_I, pc_P_L, pc_sS_I, pc_sS_L, pc_sS_P, I_rI, L_rI, P_rI, S_rI, cv_r, ci_r, cl_r, o1_b, o1_0, o1_1, lc_e, nI_1, nI_add, if_true, if_false, Nat.reduceEqDiff, Nat.left_eq_add, Nat.add_eq_left, false_and, and_false, true_and, and_true, and_self, eq_self, Sa_k, SaC_R, n_le, Nat.le_refl]
      · rw [h9]
        exact wL_cong (fun y _ => ⟨fun ⟨r, a⟩ => ⟨r, a.imp id And.right⟩, fun ⟨r, a⟩ => ⟨r, a.imp id (fun b => ⟨hNK r y b, b⟩)⟩⟩)
      · intro r hr'
        obtain ⟨a1, a2, a3⟩ := hrr r hr'
        refine ⟨?_, ?_, ?_⟩
        · rw [a1]
          exact wL_cong (fun y _ => ⟨fun a => a.imp id And.right, fun a => a.imp id (fun b => ⟨hNK r y b, b⟩)⟩)
        · rw [a2]
          exact wL_cong (fun y _ => ⟨fun ⟨q', c, a⟩ => ⟨q', c, a.imp id And.right⟩, fun ⟨q', c, a⟩ => ⟨q', c, a.imp id (fun b => ⟨hNK q' y b, b⟩)⟩⟩)
        · rw [a3, if_pos hr']
    · intro i hi ih u m1 hm q h9 h9j hrr hj
      have Hu := SaC_f H (fX_L q (fun b hb => by omega))
      have H1 := SaC_at Hu
      have hi3 : ¬ o_R O ≤ i := by omega
      obtain ⟨a1, a2, a3⟩ := hrr i hi
      rw [if_neg (by omega)] at a3
      have a1' : am_L u (s + 7) (x * 8 + i) = wL (K x i) := by
        rw [a1]
        exact wL_cong (fun y _ => ⟨fun a => a.elim id (fun b => absurd b.1 (Nat.lt_irrefl i)), Or.inl⟩)
      rw [e_Sa_commit_81]
      simp (disch := first | assumption | omega) only [hc_ck, hc_gi, hc_gl, hc_gp, hc_ap, kd_I, kd_L, kd_P, kd_rI, ar_I, ar_L, ar_P, al_I, al_L, al_P, hop_s, cond_true, cond_false, pc_I_I, pc_L_L, pc_P_P, pc_I_L, pc_I_P, pc_L_I, pc_L_P, pc_P_I, pc_P_L, pc_sS_I, pc_sS_L, pc_sS_P, I_rI, L_rI, P_rI, S_rI, cv_r, ci_r, cl_r, o1_b, o1_0, o1_1, lc_e, nI_1, nI_add, if_true, if_false, Nat.reduceEqDiff, Nat.left_eq_add, Nat.add_eq_left, false_and, and_false, true_and, and_true, and_self, eq_self, Sa_k, SaC_R, n_le, hi3, Sa_p17, Sa_p13, n_m8, Sa_r11, Sa_r7, a3, a1', wL_an]
      by_cases e0 : wL (fun k => NK i k ∧ ¬ K x i k) = 0
      · rw [if_pos e0]
        have e0' := wL_0.mp e0
        have hi0 : ∀ y, y < 64 → NK i y → K x i y := fun y hy a => Classical.byContradiction (fun b => e0' y hy ⟨a, b⟩)
        refine ih _ m1 ?_ (fX_w q (Or.inr (Or.inr (Or.inr rfl))) _ _) ?_ ?_ ?_ ?_
        · rw [hm]
          refine ⟨fun a => a.imp id (fun ⟨r, b1, b2⟩ => ⟨r, by omega, b2⟩), fun a => a.imp id (fun ⟨r, b1, y, b2, b3, b4⟩ => ⟨r, ?_, y, b2, b3, b4⟩)⟩
          rcases Nat.lt_or_ge r i with e | e
          · exact e
          · have : r = i := by omega
            subst this
            exact absurd (hi0 y b2 b3) b4
        · simp only [pc_L_L]
          rw [if_neg (by omega), h9]
          refine wL_cong (fun y hy => ⟨fun ⟨r, a⟩ => ⟨r, a.imp id (fun b => ⟨by omega, b.2⟩)⟩, fun ⟨r, a⟩ => ⟨r, ?_⟩⟩)
          rcases a with a | ⟨a, b⟩
          · exact Or.inl a
          · by_cases e : r = i
            · subst e; exact Or.inl (hi0 y hy b)
            · exact Or.inr ⟨by omega, b⟩
        · intro j hj'
          simp only [pc_L_L]
          rw [if_neg (by omega)]
          exact h9j j hj'
        · intro r hr'
          obtain ⟨b1, b2, b3⟩ := hrr r hr'
          simp only [pc_L_L]
          refine ⟨?_, ?_, ?_⟩
          · rw [if_neg (by omega), b1]
            refine wL_cong (fun y hy => ⟨fun a => a.imp id (fun b => ⟨by omega, b.2⟩), fun a => ?_⟩)
            rcases a with a | ⟨a, b⟩
            · exact Or.inl a
            · by_cases e : r = i
              · subst e; exact Or.inl (hi0 y hy b)
              · exact Or.inr ⟨by omega, b⟩
          · rw [if_neg (by omega), b2]
            refine wL_cong (fun y hy => ⟨fun ⟨q', c, a⟩ => ⟨q', c, a.imp id (fun b => ⟨by omega, b.2⟩)⟩, fun ⟨q', c, a⟩ => ⟨q', c, ?_⟩⟩)
            rcases a with a | ⟨a, b⟩
            · exact Or.inl a
            · by_cases e : q' = i
              · subst e; exact Or.inl (hi0 y hy b)
              · exact Or.inr ⟨by omega, b⟩
          · by_cases e : r = i
            · subst e
              rw [if_pos (by simp), if_pos (by omega)]
            · rw [if_neg (by omega), b3]
              by_cases e2 : r < i
              · rw [if_pos e2, if_pos (by omega)]
              · rw [if_neg e2, if_neg (by omega)]
        · intro j hj'
          obtain ⟨b1, b2, b3⟩ := hj j hj'
          simp only [pc_L_L]
          rw [if_neg (by omega), if_neg (by omega), if_neg (by omega)]
          exact ⟨b1, b2, b3⟩
      · rw [if_neg e0]
        simp (disch := first | assumption | omega) only [hc_ck, hc_gi, hc_gl, hc_gp, hc_ap, kd_I, kd_L, kd_P, kd_rI, ar_I, ar_L, ar_P, al_I, al_L, al_P, hop_s, cond_true, cond_false, pc_I_I, pc_L_L, pc_P_P, pc_I_L, pc_I_P, pc_L_I, pc_L_P, pc_P_I, pc_P_L, pc_sS_I, pc_sS_L, pc_sS_P, I_rI, L_rI, P_rI, S_rI, cv_r, ci_r, cl_r, o1_b, o1_0, o1_1, lc_e, nI_1, nI_add, if_true, if_false, Nat.reduceEqDiff, Nat.left_eq_add, Nat.add_eq_left, false_and, and_false, true_and, and_true, and_self, eq_self, Sa_k, Sa_p13, Sa_p15, n_m8, Sa_r7, Sa_r9, a1', h9]
        have q2 : fX (fun b => b = s + 7 ∨ b = s + 8 ∨ b = s + 9 ∨ b = s + 11) h (am_sL (am_sL (am_sL u (s + 11) (x * 8 + i) 0) (s + 7) (x * 8 + i) (wL (K x i) ||| wL (fun k => NK i k ∧ ¬ K x i k))) (s + 9) x (wL (fun y => ∃ r, K x r y ∨ (r < i ∧ NK r y)) ||| wL (fun k => NK i k ∧ ¬ K x i k))) :=
          fX_w (W := fun b => b = s + 7 ∨ b = s + 8 ∨ b = s + 9 ∨ b = s + 11) (fX_w (W := fun b => b = s + 7 ∨ b = s + 8 ∨ b = s + 9 ∨ b = s + 11) (fX_w (W := fun b => b = s + 7 ∨ b = s + 8 ∨ b = s + 9 ∨ b = s + 11) q (Or.inr (Or.inr (Or.inr rfl))) _ _) (Or.inl rfl) _ _) (Or.inr (Or.inr (Or.inl rfl))) _ _
        have Hv := SaC_f H (fX_L q2 (fun b hb => by omega))
        obtain ⟨v, ev, qv, vr, vj⟩ := Sa_spreadReach Hv hx hi (fun r y => ∃ q, o_un O B q r ∧ (K x q y ∨ (q < i ∧ NK q y))) (fun k => NK i k ∧ ¬ K x i k) (fun r hr' => by
          simp only [pc_L_L]
          rw [if_neg (by omega), if_neg (by omega), if_neg (by omega)]
          exact (hrr r hr').2.1) d
        rw [ev]
        simp only [cv_r, nI_1]
        refine ih v true ?_ (fX_t q2 (fX_m qv (fun b hb => Or.inr (Or.inl hb)))) ?_ ?_ ?_ ?_
        · refine ⟨fun _ => ?_, fun _ => rfl⟩
          obtain ⟨y, hy, e⟩ := xl_ne0.mp e0
          have := wL_x.mp e
          exact Or.inr ⟨i, by omega, y, hy, this.2⟩
        · rw [qv.2.2.2.2.2 (s + 9) (by omega), pc_L_L, if_pos ⟨rfl, rfl⟩, wL_or]
          refine wL_cong (fun y hy => ⟨?_, ?_⟩)
          · rintro (⟨r, a | ⟨a, b⟩⟩ | ⟨a, b⟩)
            · exact ⟨r, Or.inl a⟩
            · exact ⟨r, Or.inr ⟨by omega, b⟩⟩
            · exact ⟨i, Or.inr ⟨by omega, a⟩⟩
          · rintro ⟨r, a | ⟨a, b⟩⟩
            · exact Or.inl ⟨r, Or.inl a⟩
            · by_cases e : r = i
              · subst e
                by_cases c : K x r y
                · exact Or.inl ⟨r, Or.inl c⟩
                · exact Or.inr ⟨b, c⟩
              · exact Or.inl ⟨r, Or.inr ⟨by omega, b⟩⟩
        · intro j hj'
          rw [qv.2.2.2.2.2 (s + 9) (by omega)]
          simp only [pc_L_L]
          rw [if_neg (by omega), if_neg (by omega), if_neg (by omega)]
          exact h9j j hj'
        · intro r hr'
          obtain ⟨b1, b2, b3⟩ := hrr r hr'
          rw [vr r hr', qv.2.2.2.2.2 (s + 7) (by omega), qv.2.2.2.2.2 (s + 11) (by omega)]
          simp only [pc_L_L]
          refine ⟨?_, ?_, ?_⟩
          · by_cases e : r = i
            · subst e
              rw [if_neg (by omega), if_pos (by simp), wL_or]
              refine wL_cong (fun y hy => ⟨?_, ?_⟩)
              · rintro (a | ⟨a, -⟩)
                · exact Or.inl a
                · exact Or.inr ⟨by omega, a⟩
              · rintro (a | ⟨-, a⟩)
                · exact Or.inl a
                · by_cases c : K x r y
                  · exact Or.inl c
                  · exact Or.inr ⟨a, c⟩
            · rw [if_neg (by omega), if_neg (by omega), if_neg (by omega), b1]
              exact wL_cong (fun y hy => ⟨fun a => a.imp id (fun b => ⟨by omega, b.2⟩), fun a => a.imp id (fun b => ⟨by omega, b.2⟩)⟩)
          · refine wL_cong (fun y hy => ⟨?_, ?_⟩)
            · rintro (⟨q', a, b | ⟨b, c⟩⟩ | ⟨a, b, c⟩)
              · exact ⟨q', a, Or.inl b⟩
              · exact ⟨q', a, Or.inr ⟨by omega, c⟩⟩
              · exact ⟨i, a, Or.inr ⟨by omega, b⟩⟩
            · rintro ⟨q', a, b | ⟨b, c⟩⟩
              · exact Or.inl ⟨q', a, Or.inl b⟩
              · by_cases e : q' = i
                · subst e
                  by_cases c' : K x q' y
                  · exact Or.inl ⟨q', a, Or.inl c'⟩
                  · exact Or.inr ⟨a, c, c'⟩
                · exact Or.inl ⟨q', a, Or.inr ⟨by omega, c⟩⟩
          · by_cases e : r = i
            · subst e
              rw [if_neg (by omega), if_neg (by omega), if_pos (by simp), if_pos (by omega)]
            · rw [if_neg (by omega), if_neg (by omega), if_neg (by omega), b3]
              by_cases e2 : r < i
              · rw [if_pos e2, if_pos (by omega)]
              · rw [if_neg e2, if_neg (by omega)]
        · intro j hj'
          obtain ⟨b1, b2, b3⟩ := hj j hj'
          rw [vj j hj', qv.2.2.2.2.2 (s + 7) (by omega), qv.2.2.2.2.2 (s + 11) (by omega)]
          simp only [pc_L_L]
          rw [if_neg (by omega), if_neg (by omega), if_neg (by omega), if_neg (by omega), if_neg (by omega), if_neg (by omega), if_neg (by omega), if_neg (by omega), if_neg (by omega)]
          exact ⟨b1, b2, b3⟩
  refine key 0 (Nat.zero_le _) h m0 ⟨Or.inl, fun a => a.elim id (fun ⟨r, b, _⟩ => absurd b (Nat.not_lt_zero r))⟩ (fX_r _ _) ?_ (fun _ _ => rfl) ?_ (fun _ _ => ⟨rfl, rfl, rfl⟩)
  · rw [hl]
    exact wL_cong (fun y _ => ⟨fun ⟨r, a⟩ => ⟨r, Or.inl a⟩, fun ⟨r, a⟩ => ⟨r, a.elim id (fun b => absurd b.1 (Nat.not_lt_zero _))⟩⟩)
  · intro r hr'
    obtain ⟨b1, b2, b3⟩ := hr r hr'
    refine ⟨?_, ?_, ?_⟩
    · rw [b1]
      exact wL_cong (fun y _ => ⟨Or.inl, fun a => a.elim id (fun b => absurd b.1 (Nat.not_lt_zero _))⟩)
    · rw [b2]
      exact wL_cong (fun y _ => ⟨fun ⟨q', c, a⟩ => ⟨q', c, Or.inl a⟩, fun ⟨q', c, a⟩ => ⟨q', c, a.elim id (fun b => absurd b.1 (Nat.not_lt_zero _))⟩⟩)
    · rw [b3, if_neg (Nat.not_lt_zero r)]
