/-! ===== the class's saturation: commit whole, activate ===== -/
theorem Sa_commit {h : am_H} {s o : Nat} {O : o_T} {B T : Nat → Prop} {A : Nat → Nat → Prop} {K : Nat → Nat → Nat → Prop} {nA : Nat → Int64} {nK : Nat → Nat → Int64} (H : SaC h s o O B) (D : SaD h s O B T A K nA nK) {x : Nat} (hx : x < o_P O) (Tx : T x) (NA : Nat → Prop) (NK : Nat → Nat → Prop) (hNA : nA x = wL NA) (hNK : ∀ r, r < o_R O → nK x r = wL (NK r)) (hR : ∀ r y, NK r y → r < o_R O) (d : Nat) :
    ∃ h' m, f_Sa_commit (d + 1) h s (nI x) = some (.inr (some (.int (bo m))), h') ∧ (m = true ↔ ((∃ y, y < 64 ∧ NA y) ∨ ∃ r, r < o_R O ∧ ∃ y, y < 64 ∧ NK r y ∧ ¬ K x r y)) ∧ fL s h h' ∧
      SaD h' s O B T (fun a y => A a y ∨ (a = x ∧ NA y)) (fun a r y => K a r y ∨ (a = x ∧ NK r y)) (fun a => if a = x then 0 else nA a) (fun a r => if a = x then 0 else nK a r) := by
  have ok : o_ok O := H.2.1.2.1
  obtain ⟨-, ok2, ok3, ok4, ok5, -, -, -, okA, -⟩ := ok
  have H1 := SaC_at H
  obtain ⟨D1, D2, D3⟩ := D
  obtain ⟨DA, Dl, Dn, DR⟩ := D2 x hx Tx
  -- behind the first part
  have fin : ∀ (u : am_H) (m0 : Bool), (m0 = true ↔ ∃ y, y < 64 ∧ NA y) → fX (fun b => b = s + 5 ∨ b = s + 6 ∨ b = s + 10) h u → am_L u (s + 5) x = wL (fun y => A x y ∨ NA y) → (∀ j, j ≠ x → am_L u (s + 5) j = am_L h (s + 5) j) → am_L u (s + 10) x = 0 → (∀ j, j ≠ x → am_L u (s + 10) j = am_L h (s + 10) j) → (∀ y, y < o_P O → am_L u (s + 6) y = wL (fun a => T a ∧ (A a y ∨ (a = x ∧ NA y)))) →
      ∃ h' m, f_Sa_commit_81 (d + 1) u s (nI x) (bo m0) 0 = some (.inr (some (.int (bo m))), h') ∧ (m = true ↔ ((∃ y, y < 64 ∧ NA y) ∨ ∃ r, r < o_R O ∧ ∃ y, y < 64 ∧ NK r y ∧ ¬ K x r y)) ∧ fL s h h' ∧
      SaD h' s O B T (fun a y => A a y ∨ (a = x ∧ NA y)) (fun a r y => K a r y ∨ (a = x ∧ NK r y)) (fun a => if a = x then 0 else nA a) (fun a r => if a = x then 0 else nK a r) := by
    intro u m0 hm q a5 a5j a10 a10j a6
    have Hu := SaC_f H (fX_L q (fun b hb => by omega))
    have e7 := q.2.2.2.2.2 (s + 7) (by omega)
    have e8 := q.2.2.2.2.2 (s + 8) (by omega)
    have e9 := q.2.2.2.2.2 (s + 9) (by omega)
    have e11 := q.2.2.2.2.2 (s + 11) (by omega)
    obtain ⟨v, m, ev, hm', qv, v9, v9j, vr, vj⟩ := Sa_commit81 Hu hx NK hR (by rw [e9]; exact Dl) (fun r hr => by
      rw [e7, e8, e11]
      obtain ⟨b1, b2, b3⟩ := DR r hr
      exact ⟨b1, b2, b3.trans (hNK r hr)⟩) m0 d
    rw [e7, e8, e11] at vj
    rw [e9] at v9j
    refine ⟨v, m, ev, ?_, fL_t (fX_L q (fun b hb => by omega)) (fX_L qv (fun b hb => by omega)), ?_, ?_, ?_⟩
    · rw [hm', hm]
    · rw [qv.2.2.2.2.2 s (by omega), q.2.2.2.2.2 s (by omega)]; exact D1
    · intro a ha Ta
      obtain ⟨b1, b2, b3, b4⟩ := D2 a ha Ta
      by_cases e : a = x
      · subst e
        refine ⟨?_, ?_, ?_, ?_⟩
        · rw [qv.2.2.2.2.2 (s + 5) (by omega), a5]
          exact wL_cong (fun y _ => ⟨fun p => p.imp id (fun p => ⟨rfl, p⟩), fun p => p.imp id And.right⟩)
        · rw [v9]
          exact wL_cong (fun y _ => ⟨fun ⟨r, p⟩ => ⟨r, p.imp id (fun p => ⟨rfl, p⟩)⟩, fun ⟨r, p⟩ => ⟨r, p.imp id And.right⟩⟩)
        · rw [qv.2.2.2.2.2 (s + 10) (by omega), a10]; exact (if_pos rfl).symm
        · intro r hr
          obtain ⟨c1, c2, c3⟩ := vr r hr
          refine ⟨?_, ?_, ?_⟩
          · rw [c1]
            exact wL_cong (fun y _ => ⟨fun p => p.imp id (fun p => ⟨rfl, p⟩), fun p => p.imp id And.right⟩)
          · rw [c2]
            exact wL_cong (fun y _ => ⟨fun ⟨r, z, p⟩ => ⟨r, z, p.imp id (fun p => ⟨rfl, p⟩)⟩, fun ⟨r, z, p⟩ => ⟨r, z, p.imp id And.right⟩⟩)
          · rw [c3]; exact (if_pos rfl).symm
      · refine ⟨?_, ?_, ?_, ?_⟩
        · rw [qv.2.2.2.2.2 (s + 5) (by omega), a5j a e, b1]
          exact wL_cong (fun y _ => ⟨Or.inl, fun p => p.elim id (fun p => absurd p.1 e)⟩)
        · rw [v9j a e, b2]
          exact wL_cong (fun y _ => ⟨fun ⟨r, p⟩ => ⟨r, Or.inl p⟩, fun ⟨r, p⟩ => ⟨r, p.elim id (fun p => absurd p.1 e)⟩⟩)
        · rw [qv.2.2.2.2.2 (s + 10) (by omega), a10j a e, b3]; exact (if_neg e).symm
        · intro r hr
          obtain ⟨c1, c2, c3⟩ := vj (a * 8 + r) (by omega)
          obtain ⟨d1, d2, d3⟩ := b4 r hr
          refine ⟨?_, ?_, ?_⟩
          · rw [c1, d1]
            exact wL_cong (fun y _ => ⟨Or.inl, fun p => p.elim id (fun p => absurd p.1 e)⟩)
          · rw [c2, d2]
            exact wL_cong (fun y _ => ⟨fun ⟨r, z, p⟩ => ⟨r, z, Or.inl p⟩, fun ⟨r, z, p⟩ => ⟨r, z, p.elim id (fun p => absurd p.1 e)⟩⟩)
          · rw [c3, d3]; exact (if_neg e).symm
    · intro y hy
      rw [qv.2.2.2.2.2 (s + 6) (by omega)]
      exact a6 y hy
  have hold : ∀ k, k ≤ o_P O → ∀ (u : am_H), fX (fun b => b = s + 5 ∨ b = s + 6 ∨ b = s + 10) h u → am_L u (s + 5) x = wL (fun y => A x y ∨ NA y) → (∀ j, j ≠ x → am_L u (s + 5) j = am_L h (s + 5) j) → am_L u (s + 10) x = 0 → (∀ j, j ≠ x → am_L u (s + 10) j = am_L h (s + 10) j) → (∀ y, y < o_P O → am_L u (s + 6) y = wL (fun a => T a ∧ (A a y ∨ (y < k ∧ a = x ∧ NA y)))) → (∃ y, y < 64 ∧ NA y) →
      ∃ h' m, f_Sa_commit_45 (d + 1) u s (nI x) (wL NA) 1 (nI k) = some (.inr (some (.int (bo m))), h') ∧ (m = true ↔ ((∃ y, y < 64 ∧ NA y) ∨ ∃ r, r < o_R O ∧ ∃ y, y < 64 ∧ NK r y ∧ ¬ K x r y)) ∧ fL s h h' ∧
      SaD h' s O B T (fun a y => A a y ∨ (a = x ∧ NA y)) (fun a r y => K a r y ∨ (a = x ∧ NK r y)) (fun a => if a = x then 0 else nA a) (fun a r => if a = x then 0 else nK a r) := by
    refine dn ?_ ?_
    · intro u q a5 a5j a10 a10j a6 hy
      have Hu := SaC_f H (fX_L q (fun b hb => by omega))
      have H1u := SaC_at Hu
      rw [e_Sa_commit_45]
      simp (disch := first | assumption | omega) only [hc_ck, hc_gi, hc_gl, hc_gp, hc_ap, kd_I, kd_L, kd_P, kd_rI, ar_I, ar_L, ar_P, al_I, al_L, al_P, hop_s, cond_true, cond_false, pc_I_I, pc_L_L, pc_P_P, pc_I_L, pc_I_P, pc_L_I, pc_L_P, pc_P_I, pc_P_L, pc_sS_I, pc_sS_L, pc_sS_P, I_rI, L_rI, P_rI, S_rI, cv_r, ci_r, cl_r, o1_b, o1_0, o1_1, lc_e, nI_1, nI_add, if_true, if_false, Nat.reduceEqDiff, Nat.left_eq_add, Nat.add_eq_left, false_and, and_false, true_and, and_true, and_self, eq_self, Sa_k, SaC_P, n_le, Nat.le_refl]
      refine fin u true ⟨fun _ => hy, fun _ => rfl⟩ q a5 a5j a10 a10j ?_
      intro y hy'
      rw [a6 y hy']
      exact wL_cong (fun a _ => ⟨fun p => ⟨p.1, p.2.imp id And.right⟩, fun p => ⟨p.1, p.2.imp id (fun c => ⟨hy', c⟩)⟩⟩)
    · intro k hk ih u q a5 a5j a10 a10j a6 hy
      have Hu := SaC_f H (fX_L q (fun b hb => by omega))
      have H1u := SaC_at Hu
      have hk3 : ¬ o_P O ≤ k := by omega
      rw [e_Sa_commit_45]
      simp (disch := first | assumption | omega) only [hc_ck, hc_gi, hc_gl, hc_gp, hc_ap, kd_I, kd_L, kd_P, kd_rI, ar_I, ar_L, ar_P, al_I, al_L, al_P, hop_s, cond_true, cond_false, pc_I_I, pc_L_L, pc_P_P, pc_I_L, pc_I_P, pc_L_I, pc_L_P, pc_P_I, pc_P_L, pc_sS_I, pc_sS_L, pc_sS_P, I_rI, L_rI, P_rI, S_rI, cv_r, ci_r, cl_r, o1_b, o1_0, o1_1, lc_e, nI_1, nI_add, if_true, if_false, Nat.reduceEqDiff, Nat.left_eq_add, Nat.add_eq_left, false_and, and_false, true_and, and_true, and_self, eq_self, Sa_k, SaC_P, n_le, hk3, Sa_p12, Sa_r6]
      refine ih _ (fX_w q (Or.inr (Or.inl rfl)) _ _) ?_ ?_ ?_ ?_ ?_ hy
      · rw [pc_L_L, if_neg (by omega)]; exact a5
      · intro j hj
        rw [pc_L_L, if_neg (by omega)]; exact a5j j hj
      · rw [pc_L_L, if_neg (by omega)]; exact a10
      · intro j hj
        rw [pc_L_L, if_neg (by omega)]; exact a10j j hj
      · intro y hy'
        rw [pc_L_L]
        by_cases e : y = k
        · subst e
          rw [if_pos ⟨rfl, rfl⟩, a6 y hy']
          apply wL_of
          intro a ha
          rw [xl_or, Bool.or_eq_true, wL_x, xl_mv _ (by omega) (by omega), Bool.and_eq_true, wL_x, decide_eq_true_iff]
          constructor
          · rintro (⟨-, b1, b2 | b2⟩ | ⟨⟨-, b1⟩, rfl⟩)
            · exact ⟨b1, Or.inl b2⟩
            · omega
            · exact ⟨Tx, Or.inr ⟨by omega, rfl, b1⟩⟩
          · rintro ⟨b1, b2 | ⟨-, rfl, b2⟩⟩
            · exact Or.inl ⟨ha, b1, Or.inl b2⟩
            · exact Or.inr ⟨⟨by omega, b2⟩, rfl⟩
        · rw [if_neg (by omega), a6 y hy']
          exact wL_cong (fun a _ => ⟨fun p => ⟨p.1, p.2.imp id (fun c => ⟨by omega, c.2⟩)⟩, fun p => ⟨p.1, p.2.imp id (fun c => ⟨by omega, c.2⟩)⟩⟩)
  rw [e_Sa_commit]
  simp (disch := first | assumption | omega) only [hc_ck, hc_gi, hc_gl, hc_gp, hc_ap, kd_I, kd_L, kd_P, kd_rI, ar_I, ar_L, ar_P, al_I, al_L, al_P, hop_s, cond_true, cond_false, pc_I_I, pc_L_L, pc_P_P, pc_I_L, pc_I_P, pc_L_I, pc_L_P, pc_P_I, pc_P_L, pc_sS_I, pc_sS_L, pc_sS_P, I_rI, L_rI, P_rI, S_rI, cv_r, ci_r, cl_r, o1_b, o1_0, o1_1, lc_e, nI_1, nI_add, if_true, if_false, Nat.reduceEqDiff, Nat.left_eq_add, Nat.add_eq_left, false_and, and_false, true_and, and_true, and_self, eq_self, Sa_k, Sa_p16, Sa_p11, Sa_r10, Sa_r5, z10, Dn, hNA, DA]
  by_cases e0 : wL NA = 0
  · rw [if_pos e0]
    have e0' := wL_0.mp e0
    refine fin h false ⟨fun a => (by cases a), fun ⟨y, a, b⟩ => absurd b (e0' y a)⟩ (fX_r _ _) ?_ (fun _ _ => rfl) ?_ (fun _ _ => rfl) ?_
    · rw [DA]
      exact wL_cong (fun y hy => ⟨Or.inl, fun p => p.elim id (fun p => absurd p (e0' y hy))⟩)
    · rw [Dn, hNA]; exact e0
    · intro y hy
      rw [D3 y hy]
      exact wL_cong (fun a _ => ⟨fun p => ⟨p.1, Or.inl p.2⟩, fun p => ⟨p.1, p.2.elim id (fun c => absurd c.2 (e0' y (by omega)))⟩⟩)
  · rw [if_neg e0]
    obtain ⟨y, hy, e1⟩ := xl_ne0.mp e0
    refine hold 0 (Nat.zero_le _) _ (fX_w (W := fun b => b = s + 5 ∨ b = s + 6 ∨ b = s + 10) (fX_w (W := fun b => b = s + 5 ∨ b = s + 6 ∨ b = s + 10) (fX_r _ h) (Or.inl rfl) _ _) (Or.inr (Or.inr rfl)) _ _) ?_ ?_ ?_ ?_ ?_ ⟨y, hy, (wL_x.mp e1).2⟩
    · simp only [pc_L_L]
      rw [if_neg (by omega), if_pos (by simp), wL_or]
    · intro j hj
      simp only [pc_L_L]
      rw [if_neg (by omega), if_neg (by omega)]
    · simp only [pc_L_L]
      rw [if_pos (by simp)]
    · intro j hj
      simp only [pc_L_L]
      rw [if_neg (by omega), if_neg (by omega)]
    · intro y hy
      simp only [pc_L_L]
      rw [if_neg (by omega), if_neg (by omega), D3 y hy]
      exact wL_cong (fun a _ => ⟨fun p => ⟨p.1, Or.inl p.2⟩, fun p => ⟨p.1, p.2.elim id (fun c => absurd c.1 (Nat.not_lt_zero _))⟩⟩)
/-- the rows of links of x begin empty -/
theorem Sa_act102 {h : am_H} {s o : Nat} {O : o_T} {B : Nat → Prop} (H : SaC h s o O B) {x : Nat} (hx : x < o_P O) (l1 l3 : Int64) (d : Nat) :
    ∃ h', f_Sa_activate_102 d h s l1 l3 (nI x) 0 = f_Sa_activate_14 d h' s l1 l3 (nI (x + 1)) ∧ fX (fun b => b = s + 7 ∨ b = s + 8 ∨ b = s + 11) h h' ∧ (∀ r, r < o_R O → am_L h' (s + 7) (x * 8 + r) = 0 ∧ am_L h' (s + 8) (x * 8 + r) = 0 ∧ am_L h' (s + 11) (x * 8 + r) = 0) ∧ (∀ j, j < x * 8 ∨ x * 8 + 8 ≤ j → am_L h' (s + 7) j = am_L h (s + 7) j ∧ am_L h' (s + 8) j = am_L h (s + 8) j ∧ am_L h' (s + 11) j = am_L h (s + 11) j) := by
  have ok : o_ok O := H.2.1.2.1
  obtain ⟨-, ok2, ok3, ok4, ok5, -, -, -, okA, -⟩ := ok
  have key : ∀ i, i ≤ o_R O → ∀ (u : am_H), fX (fun b => b = s + 7 ∨ b = s + 8 ∨ b = s + 11) h u → (∀ r, r < i → am_L u (s + 7) (x * 8 + r) = 0 ∧ am_L u (s + 8) (x * 8 + r) = 0 ∧ am_L u (s + 11) (x * 8 + r) = 0) → (∀ j, j < x * 8 ∨ x * 8 + 8 ≤ j → am_L u (s + 7) j = am_L h (s + 7) j ∧ am_L u (s + 8) j = am_L h (s + 8) j ∧ am_L u (s + 11) j = am_L h (s + 11) j) →
      ∃ h', f_Sa_activate_102 d u s l1 l3 (nI x) (nI i) = f_Sa_activate_14 d h' s l1 l3 (nI (x + 1)) ∧ fX (fun b => b = s + 7 ∨ b = s + 8 ∨ b = s + 11) h h' ∧ (∀ r, r < o_R O → am_L h' (s + 7) (x * 8 + r) = 0 ∧ am_L h' (s + 8) (x * 8 + r) = 0 ∧ am_L h' (s + 11) (x * 8 + r) = 0) ∧ (∀ j, j < x * 8 ∨ x * 8 + 8 ≤ j → am_L h' (s + 7) j = am_L h (s + 7) j ∧ am_L h' (s + 8) j = am_L h (s + 8) j ∧ am_L h' (s + 11) j = am_L h (s + 11) j) := by
    refine dn ?_ ?_
    · intro u q hr hj
      have Hu := SaC_f H (fX_L q (fun b hb => by omega))
      have H1 := SaC_at Hu
      refine ⟨u, ?_, q, hr, hj⟩
      rw [e_Sa_activate_102]
      simp (disch := first | assumption | omega) only [hc_ck, hc_gi, hc_gl, hc_gp, hc_ap, kd_I, kd_L, kd_P, kd_rI, ar_I, ar_L, ar_P, al_I, al_L, al_P, hop_s, cond_true, cond_false, pc_I_I, pc_L_L, pc_P_P, pc_I_L, pc_I_P, pc_L_I, pc_L_P, pc_P_I, pc_P_L, pc_sS_I, pc_sS_L, pc_sS_P, I_rI, L_rI, P_rI, S_rI, cv_r, ci_r, cl_r, o1_b, o1_0, o1_1, lc_e, nI_1, nI_add, if_true, if_false, Nat.reduceEqDiff, Nat.left_eq_add, Nat.add_eq_left, false_and, and_false, true_and, and_true, and_self, eq_self, Sa_k, SaC_R, n_le, Nat.le_refl]
    · intro i hi ih u q hr hj
      have Hu := SaC_f H (fX_L q (fun b hb => by omega))
      have H1 := SaC_at Hu
      have hi3 : ¬ o_R O ≤ i := by omega
      rw [e_Sa_activate_102]
      simp (disch := first | assumption | omega) only [hc_ck, hc_gi, hc_gl, hc_gp, hc_ap, kd_I, kd_L, kd_P, kd_rI, ar_I, ar_L, ar_P, al_I, al_L, al_P, hop_s, cond_true, cond_false, pc_I_I, pc_L_L, pc_P_P, pc_I_L, pc_I_P, pc_L_I, pc_L_P, pc_P_I, pc_P_L, pc_sS_I, pc_sS_L, pc_sS_P, I_rI, L_rI, P_rI, S_rI, cv_r, ci_r, cl_r, o1_b, o1_0, o1_1, lc_e, nI_1, nI_add, if_true, if_false, Nat.reduceEqDiff, Nat.left_eq_add, Nat.add_eq_left, false_and, and_false, true_and, and_true, and_self, eq_self, Sa_k, SaC_R, n_le, hi3, Sa_p13, Sa_p14, Sa_p17, n_m8, Sa_r7, Sa_r8, Sa_r11]
      refine ih _ (fX_w (W := fun b => b = s + 7 ∨ b = s + 8 ∨ b = s + 11) (fX_w (W := fun b => b = s + 7 ∨ b = s + 8 ∨ b = s + 11) (fX_w (W := fun b => b = s + 7 ∨ b = s + 8 ∨ b = s + 11) q (Or.inl rfl) _ _) (Or.inr (Or.inl rfl)) _ _) (Or.inr (Or.inr rfl)) _ _) ?_ ?_
      · intro r hr'
        simp only [hc_ck, hc_gi, hc_gl, hc_gp, hc_ap, kd_I, kd_L, kd_P, kd_rI, ar_I, ar_L, ar_P, al_I, al_L, al_P, hop_s, cond_true, cond_false, pc_I_I, pc_L_L, pc_P_P, pc_I_L, pc_I_P, pc_L_I, pc_L_P, pc_P_I, pc_P_L, pc_sS_I, pc_sS_L, pc_sS_P, I_rI, L_rI, P_rI, S_rI, cv_r, ci_r, cl_r, o1_b, o1_0, o1_1, lc_e, nI_1, nI_add, if_true, if_false, Nat.reduceEqDiff, Nat.left_eq_add, Nat.add_eq_left, false_and, and_false, true_and, and_true, and_self, eq_self]
        by_cases e : r = i
        · subst e
          simp
        · have e' : ¬ x * 8 + r = x * 8 + i := by omega
          simp only [e', if_false]
          exact hr r (by omega)
      · intro j hj'
        simp only [hc_ck, hc_gi, hc_gl, hc_gp, hc_ap, kd_I, kd_L, kd_P, kd_rI, ar_I, ar_L, ar_P, al_I, al_L, al_P, hop_s, cond_true, cond_false, pc_I_I, pc_L_L, pc_P_P, pc_I_L, pc_I_P, pc_L_I, pc_L_P, pc_P_I, pc_P_L, pc_sS_I, pc_sS_L, pc_sS_P, I_rI, L_rI, P_rI, S_rI, cv_r, ci_r, cl_r, o1_b, o1_0, o1_1, lc_e, nI_1, nI_add, if_true, if_false, Nat.reduceEqDiff, Nat.left_eq_add, Nat.add_eq_left, false_and, and_false, true_and, and_true, and_self, eq_self]
        have e' : ¬ j = x * 8 + i := by omega
        simp only [e', if_false]
        exact hj j hj'
  exact key 0 (Nat.zero_le _) h (fX_r _ _) (fun r hr => absurd hr (Nat.not_lt_zero r)) (fun _ _ => ⟨rfl, rfl, rfl⟩)
