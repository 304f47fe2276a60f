/-! ===== the reference: a round whole, all rounds ===== -/
def n_A (O : o_T) (B : Nat → Prop) (A : Nat → Nat → Prop) (K : Nat → Nat → Nat → Prop) (x y : Nat) : Prop := A x y ∨ r_A O B A K x y
def n_K (O : o_T) (B : Nat → Prop) (A : Nat → Nat → Prop) (K : Nat → Nat → Nat → Prop) (x r y : Nat) : Prop := K x r y ∨ r_K O B A K x r y
theorem Rf_gr18 {u : am_H} {f r : Nat} {O : o_T} {B : Nat → Prop} {A : Nat → Nat → Prop} {K : Nat → Nat → Nat → Prop} (G : RG u f r O B A K) (hK : ∀ x r y, K x r y → r < o_R O ∧ y < o_P O) (d : Nat) :
    ∃ h', f_Rf_goesRound_18 (d + 2) u f r (wL B) (nI (o_P O)) 0 = f_Rf_goesRound_318 (d + 2) h' f (nI (o_P O)) 0 0 ∧ fR1 f u h' ∧ (∀ x, x < o_P O → am_L h' (f + 7) x = wL (n_A O B A K x) ∧ ∀ q, q < 8 → am_L h' (f + 490 + x) q = wL (n_K O B A K x q)) := by
  have ok := G.2.1.2.1
  have ok2 := ok.2.1
  have ok4 := ok.2.2.2.1
  have key : ∀ k, k ≤ o_P O → ∀ v : am_H, fR1 f u v → (∀ x, x < k → am_L v (f + 7) x = wL (n_A O B A K x) ∧ ∀ q, q < 8 → am_L v (f + 490 + x) q = wL (n_K O B A K x q)) →
      ∃ h', f_Rf_goesRound_18 (d + 2) v f r (wL B) (nI (o_P O)) (nI k) = f_Rf_goesRound_318 (d + 2) h' f (nI (o_P O)) 0 0 ∧ fR1 f u h' ∧ (∀ x, x < o_P O → am_L h' (f + 7) x = wL (n_A O B A K x) ∧ ∀ q, q < 8 → am_L h' (f + 490 + x) q = wL (n_K O B A K x q)) := by
    refine dn ?_ ?_
    · intro v qv hv
      refine ⟨v, ?_, qv, hv⟩
      rw [e_Rf_goesRound_18]
      simp (disch := first | assumption | omega) only [hc_ck, hc_gi, hc_gl, hc_gp, ap_I, ap_L, kd_I, kd_L, kd_P, kd_rI, ar_I, ar_L, ar_P, al_I, al_L, al_P, hop_s, cond_true, cond_false, pc_I_I, pc_L_L, pc_P_P, pc_I_L, pc_I_P, pc_L_I, pc_L_P, pc_P_I, pc_P_L, pc_sS_I, pc_sS_L, pc_sS_P, I_rI, L_rI, P_rI, S_rI, cv_r, ci_r, cl_r, o1_b, o1_0, o1_1, lc_e, nI_1, nI_add, if_true, if_false, Nat.reduceEqDiff, Nat.left_eq_add, Nat.add_eq_left, false_and, and_false, true_and, and_true, and_self, eq_self, n_le, Nat.le_refl]
    · intro k hk ih v qv hv
      have Gv := RG_f G qv
      have H1 := Gv.1
      have hk3 : ¬ o_P O ≤ k := by omega
      rw [e_Rf_goesRound_18]
      simp (disch := first | assumption | omega) only [hc_ck, hc_gi, hc_gl, hc_gp, ap_I, ap_L, kd_I, kd_L, kd_P, kd_rI, ar_I, ar_L, ar_P, al_I, al_L, al_P, hop_s, cond_true, cond_false, pc_I_I, pc_L_L, pc_P_P, pc_I_L, pc_I_P, pc_L_I, pc_L_P, pc_P_I, pc_P_L, pc_sS_I, pc_sS_L, pc_sS_P, I_rI, L_rI, P_rI, S_rI, cv_r, ci_r, cl_r, o1_b, o1_0, o1_1, lc_e, nI_1, nI_add, if_true, if_false, Nat.reduceEqDiff, Nat.left_eq_add, Nat.add_eq_left, false_and, and_false, true_and, and_true, and_self, eq_self, n_le, hk3, Rf_k, Rf_p19]
      rw [Rf_byOwn H1 Gv.2.1 B hk (Gv.2.2.2.1 k hk).1 d]
      simp (disch := first | assumption | omega) only [hc_ck, hc_gi, hc_gl, hc_gp, ap_I, ap_L, kd_I, kd_L, kd_P, kd_rI, ar_I, ar_L, ar_P, al_I, al_L, al_P, hop_s, cond_true, cond_false, pc_I_I, pc_L_L, pc_P_P, pc_I_L, pc_I_P, pc_L_I, pc_L_P, pc_P_I, pc_P_L, pc_sS_I, pc_sS_L, pc_sS_P, I_rI, L_rI, P_rI, S_rI, cv_r, ci_r, cl_r, o1_b, o1_0, o1_1, lc_e, nI_1, nI_add, if_true, if_false, Nat.reduceEqDiff, Nat.left_eq_add, Nat.add_eq_left, false_and, and_false, true_and, and_true, and_self, eq_self, Rf_r7]
      have q1 : fR1 f v (am_sL v (f + 7) k (wL (fun y => A k y ∨ (∃ j, j < o_A O ∧ c_ax O B (A k) j y) ∨ (∃ p, p < o_P O ∧ c_an O (A k) p y)))) := fX_w (W := fun b => b = f + 7 ∨ (f + 490 ≤ b ∧ b < f + 970)) (fX_r _ _) (Or.inl rfl) _ _
      obtain ⟨a, ea, qa, a7, a7j, a490⟩ := Rf_gr43 (RG_f Gv q1) hk _ (by rw [pc_L_L, if_pos ⟨rfl, rfl⟩]) d
      have qa' : fR1 f v a := fX_t q1 (fX_m qa (fun b hb => by omega))
      obtain ⟨b, eb, qb, b490⟩ := Rf_gr131 (RG_f Gv qa') hk a490 d
      have qb' : fR1 f v b := fX_t qa' (fX_m qb (fun b hb => by omega))
      obtain ⟨c, ec, qc, c490⟩ := Rf_gr197 (RG_f Gv qb') hk (fun x r y e => (hK x r y e).2) _ b490 d
      have qc' : fR1 f v c := fX_t qb' (fX_m qc (fun b hb => by omega))
      rw [ea, eb, ec]
      refine ih c (fX_t qv qc') ?_
      intro x hx
      by_cases e : x = k
      · subst e
        refine ⟨?_, ?_⟩
        · rw [qc.2.2.2.2.2 (f + 7) (by omega), qb.2.2.2.2.2 (f + 7) (by omega), a7]
          refine wL_cong (fun p hp => ⟨?_, ?_⟩)
          · rintro ((c | ⟨j, c1, hB, ⟨c3, c4, c5⟩ | ⟨c3, c4, c5⟩⟩ | ⟨j, c1, c2, ⟨c3, c4⟩ | ⟨c3, c4, c5⟩⟩) | ⟨q, c1, y, c2, c3, ⟨c4, c5⟩ | ⟨s, c4, c5, c6, c7, c8, c9⟩⟩)
            · exact Or.inl c
            · exact Or.inr (Or.inl ⟨_, c4, j, c1, hB, Or.inl ⟨c3, rfl, c5⟩⟩)
            · exact Or.inr (Or.inl ⟨_, c4, j, c1, hB, Or.inr ⟨c3, rfl, c5⟩⟩)
            · exact Or.inr (Or.inr (Or.inl ⟨j, c1, c2, c3, c4⟩))
            · subst c5
              exact Or.inr (Or.inr (Or.inr (Or.inl ⟨c1, c2, c3, c4⟩)))
            · exact Or.inr (Or.inr (Or.inr (Or.inr (Or.inr ⟨c4, y, ⟨q, c3⟩, c5⟩))))
            · subst c8
              exact Or.inr (Or.inr (Or.inr (Or.inr (Or.inl ⟨c6, c7, y, ⟨q, c5, c3⟩, c9⟩))))
          · rintro (c | ⟨c, c1, j, c2, c3, ⟨c4, rfl, c5⟩ | ⟨c4, rfl, c5⟩⟩ | ⟨j, c1, c2, c3, c4⟩ | ⟨c1, c2, c3, c4⟩ | ⟨c1, c2, z, ⟨q, c3, c4⟩, c5⟩ | ⟨c1, z, ⟨q, c2⟩, c3⟩)
            · exact Or.inl (Or.inl c)
            · exact Or.inl (Or.inr (Or.inl ⟨j, c2, c3, Or.inl ⟨c4, c1, c5⟩⟩))
            · exact Or.inl (Or.inr (Or.inl ⟨j, c2, c3, Or.inr ⟨c4, c1, c5⟩⟩))
            · exact Or.inl (Or.inr (Or.inr ⟨j, c1, c2, Or.inl ⟨c3, c4⟩⟩))
            · exact Or.inl (Or.inr (Or.inr ⟨p, c1, c2, Or.inr ⟨c3, c4, rfl⟩⟩))
            · have hd := hK _ _ _ c4
              have hs : o_pa O p < o_R O := by
                have okk := ok.2.2.2.2.2.2.2.1 p c1
                unfold o_okP at okk
                omega
              exact Or.inr ⟨q, by omega, z, hd.2, c4, Or.inr ⟨o_pa O p, by omega, c3, c1, c2, rfl, c5⟩⟩
            · have hd := hK _ _ _ c2
              exact Or.inr ⟨q, by omega, z, hd.2, c2, Or.inl ⟨c1, c3⟩⟩
        · intro q hq
          rw [c490 q hq]
          refine wL_cong (fun y hy => ⟨?_, ?_⟩)
          · rintro ((c | ⟨p, c1, c2, c3, c4, c5⟩) | ⟨k, c1, c2, c3, c4, c5⟩)
            · exact Or.inl c
            · exact Or.inr (Or.inl ⟨p, c1, c2, c3, c4, c5⟩)
            · exact Or.inr (Or.inr ⟨k, c1, c2, c3, c4, c5⟩)
          · rintro (c | ⟨p, c1, c2, c3, c4, c5⟩ | ⟨k, c1, c2, c3, c4, c5⟩)
            · exact Or.inl (Or.inl c)
            · exact Or.inl (Or.inr ⟨p, c1, c2, c3, c4, c5⟩)
            · exact Or.inr ⟨k, c1, c2, c3, c4, c5⟩
      · obtain ⟨v7, v490⟩ := hv x (by omega)
        refine ⟨?_, ?_⟩
        · rw [qc.2.2.2.2.2 (f + 7) (by omega), qb.2.2.2.2.2 (f + 7) (by omega), a7j x e, pc_L_L, if_neg (by omega)]
          exact v7
        · intro q hq
          rw [qc.2.2.2.2.2 (f + 490 + x) (by omega), qb.2.2.2.2.2 (f + 490 + x) (by omega), qa.2.2.2.2.2 (f + 490 + x) (by omega), pc_L_L, if_neg (by omega)]
          exact v490 q hq
  exact key 0 (Nat.zero_le _) u (fX_r _ _) (fun x hx => absurd hx (Nat.not_lt_zero x))
theorem i_or0 (b : Bool) : bo b ||| 0 = bo b := by cases b <;> decide
theorem i_or1 (b : Bool) : bo b ||| 1 = bo true := by cases b <;> decide
/-- the new is taken over; whether it differs -/
theorem Rf_gr318 {u : am_H} {f n : Nat} (H : RfAt u f) (hn : n ≤ 60) (A A' : Nat → Nat → Prop) (K K' : Nat → Nat → Nat → Prop) (h6 : RfS u f n A K) (h7 : ∀ x, x < n → am_L u (f + 7) x = wL (A' x) ∧ ∀ q, q < 8 → am_L u (f + 490 + x) q = wL (K' x q)) (d : Nat) :
    ∃ h' m, f_Rf_goesRound_318 d u f (nI n) 0 0 = some (.inr (some (.int (bo m))), h') ∧ fX (fun b => b = f + 6 ∨ (f + 9 ≤ b ∧ b < f + 489)) u h' ∧ RfS h' f n A' K' ∧ (m = false ↔ ∀ x, x < n → wL (A x) = wL (A' x) ∧ ∀ q, q < 8 → wL (K x q) = wL (K' x q)) := by
  have key : ∀ k, k ≤ n → ∀ (v : am_H) (m : Bool), fX (fun b => b = f + 6 ∨ (f + 9 ≤ b ∧ b < f + 489)) u v → RfS v f k A' K' → (∀ x, k ≤ x → x < n → am_L v (f + 6) x = wL (A x) ∧ ∀ q, q < 8 → am_L v (f + 9 + x) q = wL (K x q)) → (m = false ↔ ∀ x, x < k → wL (A x) = wL (A' x) ∧ ∀ q, q < 8 → wL (K x q) = wL (K' x q)) →
      ∃ h' m', f_Rf_goesRound_318 d v f (nI n) (bo m) (nI k) = some (.inr (some (.int (bo m'))), h') ∧ fX (fun b => b = f + 6 ∨ (f + 9 ≤ b ∧ b < f + 489)) u h' ∧ RfS h' f n A' K' ∧ (m' = false ↔ ∀ x, x < n → wL (A x) = wL (A' x) ∧ ∀ q, q < 8 → wL (K x q) = wL (K' x q)) := by
    refine dn ?_ ?_
    · intro v m qv hS ho hm
      refine ⟨v, m, ?_, qv, hS, hm⟩
      rw [e_Rf_goesRound_318]
      simp (disch := first | assumption | omega) only [hc_ck, hc_gi, hc_gl, hc_gp, ap_I, ap_L, kd_I, kd_L, kd_P, kd_rI, ar_I, ar_L, ar_P, al_I, al_L, al_P, hop_s, cond_true, cond_false, pc_I_I, pc_L_L, pc_P_P, pc_I_L, pc_I_P, pc_L_I, pc_L_P, pc_P_I, pc_P_L, pc_sS_I, pc_sS_L, pc_sS_P, I_rI, L_rI, P_rI, S_rI, cv_r, ci_r, cl_r, o1_b, o1_0, o1_1, lc_e, nI_1, nI_add, if_true, if_false, Nat.reduceEqDiff, Nat.left_eq_add, Nat.add_eq_left, false_and, and_false, true_and, and_true, and_self, eq_self, n_le, Nat.le_refl]
    · intro k hk ih v m qv hS ho hm
      have H1 : RfAt v f := RfAt_of H qv.2.2.1 (fun b _ _ => by rw [qv.2.1])
      have hk3 : ¬ n ≤ k := by omega
      have e6 := (ho k (Nat.le_refl k) hk).1
      have e7 : am_L v (f + 7) k = wL (A' k) := by rw [qv.2.2.2.2.2 (f + 7) (by omega)]; exact (h7 k hk).1
      have inner : ∀ i, i ≤ 8 → ∀ (w : am_H) (m1 : Bool), fX (fun b => b = f + 6 ∨ (f + 9 ≤ b ∧ b < f + 489)) u w → RfS w f k A' K' → am_L w (f + 6) k = wL (A' k) → (∀ q, q < i → am_L w (f + 9 + k) q = wL (K' k q)) → (∀ q, i ≤ q → q < 8 → am_L w (f + 9 + k) q = wL (K k q)) → (∀ x, k < x → x < n → am_L w (f + 6) x = wL (A x) ∧ ∀ q, q < 8 → am_L w (f + 9 + x) q = wL (K x q)) → (m1 = false ↔ ((∀ x, x < k → wL (A x) = wL (A' x) ∧ ∀ q, q < 8 → wL (K x q) = wL (K' x q)) ∧ wL (A k) = wL (A' k) ∧ ∀ q, q < i → wL (K k q) = wL (K' k q))) →
          ∃ h' m', f_Rf_goesRound_370 d w f (nI n) (bo m1) (nI k) (nI i) = some (.inr (some (.int (bo m'))), h') ∧ fX (fun b => b = f + 6 ∨ (f + 9 ≤ b ∧ b < f + 489)) u h' ∧ RfS h' f n A' K' ∧ (m' = false ↔ ∀ x, x < n → wL (A x) = wL (A' x) ∧ ∀ q, q < 8 → wL (K x q) = wL (K' x q)) := by
        refine dn ?_ ?_
        · intro w m1 qw hS h6k hki hkj ho hm
          rw [e_Rf_goesRound_370]
          simp (disch := first | assumption | omega) only [hc_ck, hc_gi, hc_gl, hc_gp, ap_I, ap_L, kd_I, kd_L, kd_P, kd_rI, ar_I, ar_L, ar_P, al_I, al_L, al_P, hop_s, cond_true, cond_false, pc_I_I, pc_L_L, pc_P_P, pc_I_L, pc_I_P, pc_L_I, pc_L_P, pc_P_I, pc_P_L, pc_sS_I, pc_sS_L, pc_sS_P, I_rI, L_rI, P_rI, S_rI, cv_r, ci_r, cl_r, o1_b, o1_0, o1_1, lc_e, nI_1, nI_add, if_true, if_false, Nat.reduceEqDiff, Nat.left_eq_add, Nat.add_eq_left, false_and, and_false, true_and, and_true, and_self, eq_self, n_8, n_le, Nat.le_refl]
          refine ih w m1 qw ?_ ?_ ?_
          · intro x hx
            by_cases e : x = k
            · subst e; exact ⟨h6k, hki⟩
            · exact hS x (by omega)
          · intro x h1 h2
            exact ho x (by omega) h2
          · rw [hm]
            constructor
            · rintro ⟨c1, c2⟩ x hx
              by_cases e : x = k
              · subst e; exact c2
              · exact c1 x (by omega)
            · intro c
              exact ⟨fun x hx => c x (by omega), c k (by omega)⟩
        · intro i hi ih2 w m1 qw hS h6k hki hkj ho hm
          have H1 : RfAt w f := RfAt_of H qw.2.2.1 (fun b _ _ => by rw [qw.2.1])
          have hi3 : ¬ 8 ≤ i := by omega
          have e9 := hkj i (Nat.le_refl i) hi
          have e490 : am_L w (f + 490 + k) i = wL (K' k i) := by rw [qw.2.2.2.2.2 (f + 490 + k) (by omega)]; exact (h7 k hk).2 i hi
          have step : ∀ m2 : Bool, (m2 = false ↔ (m1 = false ∧ wL (K k i) = wL (K' k i))) → ∃ h' m', f_Rf_goesRound_370 d (am_sL w (f + 9 + k) i (wL (K' k i))) f (nI n) (bo m2) (nI k) (nI (i + 1)) = some (.inr (some (.int (bo m'))), h') ∧ fX (fun b => b = f + 6 ∨ (f + 9 ≤ b ∧ b < f + 489)) u h' ∧ RfS h' f n A' K' ∧ (m' = false ↔ ∀ x, x < n → wL (A x) = wL (A' x) ∧ ∀ q, q < 8 → wL (K x q) = wL (K' x q)) := by
            intro m2 hm2
            refine ih2 _ m2 (fX_w (W := fun b => b = f + 6 ∨ (f + 9 ≤ b ∧ b < f + 489)) qw (Or.inr ⟨by omega, by omega⟩) _ _) ?_ ?_ ?_ ?_ ?_ ?_
            · intro x hx
              obtain ⟨a1, a2⟩ := hS x hx
              refine ⟨?_, fun q hq => ?_⟩
              · rw [pc_L_L, if_neg (by omega)]; exact a1
              · rw [pc_L_L, if_neg (by omega)]; exact a2 q hq
            · rw [pc_L_L, if_neg (by omega)]; exact h6k
            · intro q hq
              rw [pc_L_L]
              by_cases e : q = i
              · subst e
                rw [if_pos ⟨rfl, rfl⟩]
              · rw [if_neg (by omega)]
                exact hki q (by omega)
            · intro q h1 h2
              rw [pc_L_L, if_neg (by omega)]
              exact hkj q (by omega) h2
            · intro x h1 h2
              obtain ⟨a1, a2⟩ := ho x h1 h2
              refine ⟨?_, fun q hq => ?_⟩
              · rw [pc_L_L, if_neg (by omega)]; exact a1
              · rw [pc_L_L, if_neg (by omega)]; exact a2 q hq
            · rw [hm2, hm]
              constructor
              · rintro ⟨⟨c1, c2, c3⟩, c4⟩
                refine ⟨c1, c2, fun q hq => ?_⟩
                by_cases e : q = i
                · subst e; exact c4
                · exact c3 q (by omega)
              · rintro ⟨c1, c2, c3⟩
                exact ⟨⟨c1, c2, fun q hq => c3 q (by omega)⟩, c3 i (by omega)⟩
          rw [e_Rf_goesRound_370]
          simp (disch := first | assumption | omega) only [hc_ck, hc_gi, hc_gl, hc_gp, ap_I, ap_L, kd_I, kd_L, kd_P, kd_rI, ar_I, ar_L, ar_P, al_I, al_L, al_P, hop_s, cond_true, cond_false, pc_I_I, pc_L_L, pc_P_P, pc_I_L, pc_I_P, pc_L_I, pc_L_P, pc_P_I, pc_P_L, pc_sS_I, pc_sS_L, pc_sS_P, I_rI, L_rI, P_rI, S_rI, cv_r, ci_r, cl_r, o1_b, o1_0, o1_1, lc_e, nI_1, nI_add, if_true, if_false, Nat.reduceEqDiff, Nat.left_eq_add, Nat.add_eq_left, false_and, and_false, true_and, and_true, and_self, eq_self, n_8, n_le, hi3, Rf_k, Rf_p20, Rf_p21, Rf_a8, Rf_b9, Rf_a489, Rf_b490, e9, e490, i_or0, i_or1]
          by_cases c : wL (K k i) = wL (K' k i)
          · rw [if_pos c]
            exact step m1 ⟨fun e => ⟨e, c⟩, And.left⟩
          · rw [if_neg c]
            exact step true ⟨fun e => absurd e (by decide), fun e => absurd e.2 c⟩
      have step : ∀ m2 : Bool, (m2 = false ↔ (m = false ∧ wL (A k) = wL (A' k))) → ∃ h' m', f_Rf_goesRound_370 d (am_sL v (f + 6) k (wL (A' k))) f (nI n) (bo m2) (nI k) 0 = some (.inr (some (.int (bo m'))), h') ∧ fX (fun b => b = f + 6 ∨ (f + 9 ≤ b ∧ b < f + 489)) u h' ∧ RfS h' f n A' K' ∧ (m' = false ↔ ∀ x, x < n → wL (A x) = wL (A' x) ∧ ∀ q, q < 8 → wL (K x q) = wL (K' x q)) := by
        intro m2 hm2
        refine inner 0 (Nat.zero_le _) _ m2 (fX_w (W := fun b => b = f + 6 ∨ (f + 9 ≤ b ∧ b < f + 489)) qv (Or.inl rfl) _ _) ?_ ?_ (fun q hq => absurd hq (Nat.not_lt_zero q)) ?_ ?_ ?_
        · intro x hx
          obtain ⟨a1, a2⟩ := hS x hx
          refine ⟨?_, fun q hq => ?_⟩
          · rw [pc_L_L, if_neg (by omega)]; exact a1
          · rw [pc_L_L, if_neg (by omega)]; exact a2 q hq
        · rw [pc_L_L, if_pos ⟨rfl, rfl⟩]
        · intro q h1 h2
          rw [pc_L_L, if_neg (by omega)]
          exact (ho k (Nat.le_refl k) hk).2 q h2
        · intro x h1 h2
          obtain ⟨a1, a2⟩ := ho x (by omega) h2
          refine ⟨?_, fun q hq => ?_⟩
          · rw [pc_L_L, if_neg (by omega)]; exact a1
          · rw [pc_L_L, if_neg (by omega)]; exact a2 q hq
        · rw [hm2, hm]
          exact ⟨fun c => ⟨c.1, c.2, fun q hq => absurd hq (Nat.not_lt_zero q)⟩, fun c => ⟨c.1, c.2.1⟩⟩
      rw [e_Rf_goesRound_318]
      simp (disch := first | assumption | omega) only [hc_ck, hc_gi, hc_gl, hc_gp, ap_I, ap_L, kd_I, kd_L, kd_P, kd_rI, ar_I, ar_L, ar_P, al_I, al_L, al_P, hop_s, cond_true, cond_false, pc_I_I, pc_L_L, pc_P_P, pc_I_L, pc_I_P, pc_L_I, pc_L_P, pc_P_I, pc_P_L, pc_sS_I, pc_sS_L, pc_sS_P, I_rI, L_rI, P_rI, S_rI, cv_r, ci_r, cl_r, o1_b, o1_0, o1_1, lc_e, nI_1, nI_add, if_true, if_false, Nat.reduceEqDiff, Nat.left_eq_add, Nat.add_eq_left, false_and, and_false, true_and, and_true, and_self, eq_self, n_le, hk3, Rf_k, Rf_p18, Rf_p19, Rf_r6, Rf_r7, e6, e7, i_or0, i_or1]
      by_cases c : wL (A k) = wL (A' k)
      · rw [if_pos c]
        exact step m ⟨fun e => ⟨e, c⟩, And.left⟩
      · rw [if_neg c]
        exact step true ⟨fun e => absurd e (by decide), fun e => absurd e.2 c⟩
  exact key 0 (Nat.zero_le _) u false (fX_r _ _) (fun x hx => absurd hx (Nat.not_lt_zero x)) (fun x _ hx => h6 x hx) ⟨fun _ x hx => absurd hx (Nat.not_lt_zero x), fun _ => rfl⟩
theorem Rf_goesRound {h : am_H} {f r : Nat} {O : o_T} {B : Nat → Prop} {A : Nat → Nat → Prop} {K : Nat → Nat → Nat → Prop} (H : RfAt h f) (R : RwR h r O) (U : RfU h f O B) (S : RfS h f (o_P O) A K) (hA : ∀ x y, x < o_P O → A x y → y < o_P O) (hK : ∀ x r y, K x r y → r < o_R O ∧ y < o_P O) (d : Nat) :
    ∃ h' m, f_Rf_goesRound (d + 2) h f r (wL B) = some (.inr (some (.int (bo m))), h') ∧ fRL f 6 1460 h h' ∧ RfS h' f (o_P O) (n_A O B A K) (n_K O B A K) ∧ (m = false ↔ ∀ x, x < o_P O → (∀ y, n_A O B A K x y → A x y) ∧ ∀ r y, n_K O B A K x r y → K x r y) := by
  have ok := R.2.1
  have ok2 := ok.2.1
  have ok4 := ok.2.2.2.1
  obtain ⟨a, ea, qa, sa⟩ := Rf_laysSome H R (fun x hx => (S x hx).1) d
  have Ha := fRL_at qa H
  have Ra := fRL_rw qa R
  have Sa : RfS a f (o_P O) A K := fun x hx => by
    rw [fRL_e qa (by omega), fRL_e qa (by omega)]
    exact S x hx
  have Ua : RfU a f O B := fun x hx => by rw [qa.1]; exact U x hx
  obtain ⟨b, eb, qb, sb⟩ := Rf_laysWider Ha Ra Ua (fun x hx => (Sa x hx).2) (fun x r y e => by have := (hK x r y e).1; omega) d
  have Gb : RG b f r O B A K := by
    refine ⟨fRL_at qb Ha, fRL_rw qb Ra, fun x hx => by rw [qb.1]; exact Ua x hx, fun x hx => ?_, fun s y hs hy => ?_, sb⟩
    · rw [fRL_e qb (by omega), fRL_e qb (by omega)]
      exact Sa x hx
    · rw [fRL_e qb (by omega)]
      exact sa s y hs hy
  obtain ⟨c, ec, qc, sc⟩ := Rf_gr18 Gb hK d
  have Gc := RG_f Gb qc
  obtain ⟨e, m, ee, qe, se, hm⟩ := Rf_gr318 Gc.1 ok4 A (n_A O B A K) K (n_K O B A K) Gc.2.2.2.1 sc (d + 2)
  refine ⟨e, m, ?_, ?_, se, ?_⟩
  · rw [e_Rf_goesRound]
    simp (disch := first | assumption | omega) only [hc_ck, hc_gi, hc_gl, hc_gp, ap_I, ap_L, kd_I, kd_L, kd_P, kd_rI, ar_I, ar_L, ar_P, al_I, al_L, al_P, hop_s, cond_true, cond_false, pc_I_I, pc_L_L, pc_P_P, pc_I_L, pc_I_P, pc_L_I, pc_L_P, pc_P_I, pc_P_L, pc_sS_I, pc_sS_L, pc_sS_P, I_rI, L_rI, P_rI, S_rI, cv_r, ci_r, cl_r, o1_b, o1_0, o1_1, lc_e, nI_1, nI_add, if_true, if_false, Nat.reduceEqDiff, Nat.left_eq_add, Nat.add_eq_left, false_and, and_false, true_and, and_true, and_self, eq_self, n_2, Rw_ar, Rw_P, Rf_k, ea, eb]
    rw [ec, ee]
  · exact fX_t (fX_t (fX_t (fX_m qa (fun x hx => ⟨by omega, by omega⟩)) (fX_m qb (fun x hx => ⟨by omega, by omega⟩))) (fX_m qc (fun x hx => ⟨by omega, by omega⟩))) (fX_m qe (fun x hx => ⟨by omega, by omega⟩))
  · rw [hm]
    constructor
    · intro c x hx
      refine ⟨fun y hy => ?_, fun r y hy => ?_⟩
      · have hd : y < o_P O := hy.elim (hA x y hx) (r_Ad ok)
        exact (wL_e (c x hx).1 (show y < 64 by omega)).mpr hy
      · have hd : r < o_R O ∧ y < o_P O := hy.elim (hK x r y) (r_Kd ok (fun x r y e => (hK x r y e).2))
        exact (wL_e ((c x hx).2 r (by omega)) (show y < 64 by omega)).mpr hy
    · intro c x hx
      refine ⟨wL_cong (fun y _ => ⟨Or.inl, (c x hx).1 y⟩), fun r hr => wL_cong (fun y _ => ⟨Or.inl, (c x hx).2 r y⟩)⟩
