/-! ===== the class's saturation: activate ===== -/
def a_A (T S : Nat → Prop) (A : Nat → Nat → Prop) (x y : Nat) : Prop := A x y ∨ (¬ T x ∧ S x ∧ (y = x ∨ y = 0))
theorem Sa_activate {h : am_H} {s o : Nat} {O : o_T} {B T : Nat → Prop} {A : Nat → Nat → Prop} {K : Nat → Nat → Nat → Prop} (H : SaC h s o O B) (D : SaD h s O B T A K (fun _ => 0) (fun _ _ => 0)) (S : Nat → Prop) (hS : ∀ x, S x → x < o_P O) (hA : ∀ x y, A x y → T x) (hK : ∀ x r y, K x r y → T x) (d : Nat) :
    ∃ h', f_Sa_activate d h s (wL S) = some (.inr none, h') ∧ fL s h h' ∧ SaD h' s O B (fun x => T x ∨ S x) (a_A T S A) K (fun _ => 0) (fun _ _ => 0) := by
  have ok : o_ok O := H.2.1.2.1
  obtain ⟨-, ok2, ok3, ok4, ok5, -, -, -, okA, -⟩ := ok
  have H1 := SaC_at H
  obtain ⟨D1, D2, D3⟩ := D
  -- the end
  have fin : ∀ u : am_H, fX (fun b => s < b ∧ b < s + 12) h u → (∀ x, x < o_P O → (T x ∨ S x) → am_L u (s + 5) x = wL (a_A T S A x) ∧ am_L u (s + 9) x = wL (fun y => ∃ r, K x r y) ∧ am_L u (s + 10) x = 0 ∧ ∀ r, r < o_R O → am_L u (s + 7) (x * 8 + r) = wL (K x r) ∧ am_L u (s + 8) (x * 8 + r) = wL (fun y => ∃ q, o_un O B q r ∧ K x q y) ∧ am_L u (s + 11) (x * 8 + r) = 0) →
      (∀ y, y < o_P O → am_L u (s + 6) y = wL (fun x => (T x ∨ S x) ∧ a_A T S A x y)) →
      ∃ h', (some (.inr none, am_sL u s 4 (wL T ||| wL S)) : Option am_R) = some (.inr none, h') ∧ fL s h h' ∧ SaD h' s O B (fun x => T x ∨ S x) (a_A T S A) K (fun _ => 0) (fun _ _ => 0) := by
    intro u q a b
    refine ⟨_, rfl, fL_4 (fX_L q (fun b hb => hb)) _, ?_, ?_, ?_⟩
    · rw [pc_L_L, if_pos ⟨rfl, rfl⟩, wL_or]
    · intro x hx hTS
      obtain ⟨a1, a2, a3, a4⟩ := a x hx hTS
      simp only [hc_ck, hc_gi, hc_gl, hc_gp, hc_ap, kd_I, kd_L, kd_P, kd_rI, ar_I, ar_L, ar_P, al_I, al_L, al_P, hop_s, cond_true, cond_false, pc_I_I, pc_L_L, pc_P_P, pc_I_L, pc_I_P, pc_L_I, pc_L_P, pc_P_I, pc_P_L, pc_sS_I, pc_sS_L, pc_sS_P, I_rI, L_rI, P_rI, S_rI, cv_r, ci_r, cl_r, o1_b, o1_0, o1_1, lc_e, nI_1, nI_add, if_true, if_false, Nat.reduceEqDiff, Nat.left_eq_add, Nat.add_eq_left, false_and, and_false, true_and, and_true, and_self, eq_self]
      exact ⟨a1, a2, a3, a4⟩
    · intro y hy
      simp only [hc_ck, hc_gi, hc_gl, hc_gp, hc_ap, kd_I, kd_L, kd_P, kd_rI, ar_I, ar_L, ar_P, al_I, al_L, al_P, hop_s, cond_true, cond_false, pc_I_I, pc_L_L, pc_P_P, pc_I_L, pc_I_P, pc_L_I, pc_L_P, pc_P_I, pc_P_L, pc_sS_I, pc_sS_L, pc_sS_P, I_rI, L_rI, P_rI, S_rI, cv_r, ci_r, cl_r, o1_b, o1_0, o1_1, lc_e, nI_1, nI_add, if_true, if_false, Nat.reduceEqDiff, Nat.left_eq_add, Nat.add_eq_left, false_and, and_false, true_and, and_true, and_self, eq_self]
      exact b y hy
  rw [e_Sa_activate]
  simp (disch := first | assumption | omega) only [hc_ck, hc_gi, hc_gl, hc_gp, hc_ap, kd_I, kd_L, kd_P, kd_rI, ar_I, ar_L, ar_P, al_I, al_L, al_P, hop_s, cond_true, cond_false, pc_I_I, pc_L_L, pc_P_P, pc_I_L, pc_I_P, pc_L_I, pc_L_P, pc_P_I, pc_P_L, pc_sS_I, pc_sS_L, pc_sS_P, I_rI, L_rI, P_rI, S_rI, cv_r, ci_r, cl_r, o1_b, o1_0, o1_1, lc_e, nI_1, nI_add, if_true, if_false, Nat.reduceEqDiff, Nat.left_eq_add, Nat.add_eq_left, false_and, and_false, true_and, and_true, and_self, eq_self, Sa_k, D1, wL_an]
  by_cases e0 : wL (fun k => S k ∧ ¬ T k) = 0
  · have e0' := wL_0.mp e0
    have hST : ∀ x, S x → T x := fun x hx => Classical.byContradiction (fun q => e0' x (by have := hS x hx; omega) ⟨hx, q⟩)
    rw [e_Sa_activate_14]
    simp (disch := first | assumption | omega) only [hc_ck, hc_gi, hc_gl, hc_gp, hc_ap, kd_I, kd_L, kd_P, kd_rI, ar_I, ar_L, ar_P, al_I, al_L, al_P, hop_s, cond_true, cond_false, pc_I_I, pc_L_L, pc_P_P, pc_I_L, pc_I_P, pc_L_I, pc_L_P, pc_P_I, pc_P_L, pc_sS_I, pc_sS_L, pc_sS_P, I_rI, L_rI, P_rI, S_rI, cv_r, ci_r, cl_r, o1_b, o1_0, o1_1, lc_e, nI_1, nI_add, if_true, if_false, Nat.reduceEqDiff, Nat.left_eq_add, Nat.add_eq_left, false_and, and_false, true_and, and_true, and_self, eq_self, Sa_k, D1, if_pos e0]
    refine fin h (fX_r _ _) ?_ ?_
    · intro x hx hTS
      have Tx : T x := hTS.elim id (hST x)
      obtain ⟨a1, a2, a3, a4⟩ := D2 x hx Tx
      exact ⟨a1.trans (wL_cong (fun y _ => ⟨Or.inl, fun p => p.elim id (fun q => absurd Tx q.1)⟩)), a2, a3, a4⟩
    · intro y hy
      rw [D3 y hy]
      exact wL_cong (fun x _ => ⟨fun p => ⟨Or.inl p.1, Or.inl p.2⟩, fun p => ⟨p.1.elim id (hST x), p.2.elim id (fun q => absurd (hST x q.2.1) q.1)⟩⟩)
  · have key : ∀ k, k ≤ o_P O → ∀ u : am_H, fX (fun b => s < b ∧ b < s + 12) h u → (∀ x, x < o_P O → (T x ∨ (x < k ∧ S x)) → am_L u (s + 5) x = wL (a_A T S A x) ∧ am_L u (s + 9) x = wL (fun y => ∃ r, K x r y) ∧ am_L u (s + 10) x = 0 ∧ ∀ r, r < o_R O → am_L u (s + 7) (x * 8 + r) = wL (K x r) ∧ am_L u (s + 8) (x * 8 + r) = wL (fun y => ∃ q, o_un O B q r ∧ K x q y) ∧ am_L u (s + 11) (x * 8 + r) = 0) →
        (∀ y, y < o_P O → am_L u (s + 6) y = wL (fun x => (T x ∨ (x < k ∧ S x)) ∧ a_A T S A x y)) →
        ∃ h', f_Sa_activate_14 d u s (wL S) (wL (fun k => S k ∧ ¬ T k)) (nI k) = some (.inr none, h') ∧ fL s h h' ∧ SaD h' s O B (fun x => T x ∨ S x) (a_A T S A) K (fun _ => 0) (fun _ _ => 0) := by
      refine dn ?_ ?_
      · intro u q a b
        have Hu := SaC_f H (fX_L q (fun b hb => hb))
        have H1u := SaC_at Hu
        have D1u : am_L u s 4 = wL T := by rw [q.2.2.2.2.2 s (by omega)]; exact D1
        rw [e_Sa_activate_14]
        simp (disch := first | assumption | omega) only [hc_ck, hc_gi, hc_gl, hc_gp, hc_ap, kd_I, kd_L, kd_P, kd_rI, ar_I, ar_L, ar_P, al_I, al_L, al_P, hop_s, cond_true, cond_false, pc_I_I, pc_L_L, pc_P_P, pc_I_L, pc_I_P, pc_L_I, pc_L_P, pc_P_I, pc_P_L, pc_sS_I, pc_sS_L, pc_sS_P, I_rI, L_rI, P_rI, S_rI, cv_r, ci_r, cl_r, o1_b, o1_0, o1_1, lc_e, nI_1, nI_add, if_true, if_false, Nat.reduceEqDiff, Nat.left_eq_add, Nat.add_eq_left, false_and, and_false, true_and, and_true, and_self, eq_self, Sa_k, SaC_P, n_le, Nat.le_refl, if_neg e0, D1u]
        refine fin u q (fun x hx h => a x hx (h.imp id (fun p => ⟨hx, p⟩))) ?_
        intro y hy
        rw [b y hy]
        exact wL_cong (fun x _ => ⟨fun p => ⟨p.1.imp id And.right, p.2⟩, fun p => ⟨p.1.imp id (fun c => ⟨hS x c, c⟩), p.2⟩⟩)
      · intro k hk ih u q a b
        have Hu := SaC_f H (fX_L q (fun b hb => hb))
        have H1u := SaC_at Hu
        have hk3 : ¬ o_P O ≤ k := by omega
        rw [e_Sa_activate_14]
        simp (disch := first | assumption | omega) only [hc_ck, hc_gi, hc_gl, hc_gp, hc_ap, kd_I, kd_L, kd_P, kd_rI, ar_I, ar_L, ar_P, al_I, al_L, al_P, hop_s, cond_true, cond_false, pc_I_I, pc_L_L, pc_P_P, pc_I_L, pc_I_P, pc_L_I, pc_L_P, pc_P_I, pc_P_L, pc_sS_I, pc_sS_L, pc_sS_P, I_rI, L_rI, P_rI, S_rI, cv_r, ci_r, cl_r, o1_b, o1_0, o1_1, lc_e, nI_1, nI_add, if_true, if_false, Nat.reduceEqDiff, Nat.left_eq_add, Nat.add_eq_left, false_and, and_false, true_and, and_true, and_self, eq_self, Sa_k, SaC_P, n_le, hk3, if_neg e0, xl_t0]
        by_cases hn : S k ∧ ¬ T k
        · simp (disch := first | assumption | omega) only [hc_ck, hc_gi, hc_gl, hc_gp, hc_ap, kd_I, kd_L, kd_P, kd_rI, ar_I, ar_L, ar_P, al_I, al_L, al_P, hop_s, cond_true, cond_false, pc_I_I, pc_L_L, pc_P_P, pc_I_L, pc_I_P, pc_L_I, pc_L_P, pc_P_I, pc_P_L, pc_sS_I, pc_sS_L, pc_sS_P, I_rI, L_rI, P_rI, S_rI, cv_r, ci_r, cl_r, o1_b, o1_0, o1_1, lc_e, nI_1, nI_add, if_true, if_false, Nat.reduceEqDiff, Nat.left_eq_add, Nat.add_eq_left, false_and, and_false, true_and, and_true, and_self, eq_self, Sa_k, show xl (wL (fun k => S k ∧ ¬ T k)) k = true from wL_x.mpr ⟨by omega, hn⟩, Bool.true_eq_false, Sa_p11, Sa_r5, Sa_p12, Sa_r6, Sa_p15, Sa_r9, Sa_p16, Sa_r10, n_0]
          have q2 : fX (fun b => s < b ∧ b < s + 12) u (am_sL (am_sL (am_sL (am_sL (am_sL u (s + 5) k (am_lshl 1 (nI k) ||| 1)) (s + 6) k (am_L u (s + 6) k ||| am_lshl 1 (nI k))) (s + 6) 0 ((if 0 = k then am_L u (s + 6) k ||| am_lshl 1 (nI k) else am_L u (s + 6) 0) ||| am_lshl 1 (nI k))) (s + 9) k 0) (s + 10) k 0) :=
            fX_w (W := fun b => s < b ∧ b < s + 12) (fX_w (W := fun b => s < b ∧ b < s + 12) (fX_w (W := fun b => s < b ∧ b < s + 12) (fX_w (W := fun b => s < b ∧ b < s + 12) (fX_w (W := fun b => s < b ∧ b < s + 12) (fX_r _ u) (by omega) _ _) (by omega) _ _) (by omega) _ _) (by omega) _ _) (by omega) _ _
          have Hv := SaC_f Hu (fX_L q2 (fun b hb => hb))
          obtain ⟨v, ev, qv, vr, vj⟩ := Sa_act102 Hv hk (wL S) (wL (fun k => S k ∧ ¬ T k)) d
          have e5 := qv.2.2.2.2.2 (s + 5) (by omega)
          have e6 := qv.2.2.2.2.2 (s + 6) (by omega)
          have e9 := qv.2.2.2.2.2 (s + 9) (by omega)
          have e10 := qv.2.2.2.2.2 (s + 10) (by omega)
          rw [← n_0, ev]
          refine ih v (fX_t (fX_t q q2) (fX_m qv (fun b hb => by omega))) ?_ ?_
          · intro x hx hTS
            rw [e5, e9, e10]
            simp only [hc_ck, hc_gi, hc_gl, hc_gp, hc_ap, kd_I, kd_L, kd_P, kd_rI, ar_I, ar_L, ar_P, al_I, al_L, al_P, hop_s, cond_true, cond_false, pc_I_I, pc_L_L, pc_P_P, pc_I_L, pc_I_P, pc_L_I, pc_L_P, pc_P_I, pc_P_L, pc_sS_I, pc_sS_L, pc_sS_P, I_rI, L_rI, P_rI, S_rI, cv_r, ci_r, cl_r, o1_b, o1_0, o1_1, lc_e, nI_1, nI_add, if_true, if_false, Nat.reduceEqDiff, Nat.left_eq_add, Nat.add_eq_left, false_and, and_false, true_and, and_true, and_self, eq_self]
            by_cases e : x = k
            · subst e
              simp only [if_true]
              refine ⟨?_, ?_, trivial, ?_⟩
              · apply wL_of
                intro y hy
                rw [xl_or, xl_b1 (by omega), xl_1, Bool.or_eq_true, decide_eq_true_iff, decide_eq_true_iff]
                exact ⟨fun p => Or.inr ⟨hn.2, hn.1, p⟩, fun p => p.elim (fun c => absurd (hA _ _ c) hn.2) (fun c => c.2.2)⟩
              · exact (wL_0.mpr (fun y _ ⟨r, c⟩ => hn.2 (hK _ _ _ c))).symm
              · intro r hr
                obtain ⟨c1, c2, c3⟩ := vr r hr
                exact ⟨c1.trans (wL_0.mpr (fun y _ c => hn.2 (hK _ _ _ c))).symm, c2.trans (wL_0.mpr (fun y _ ⟨r, _, c⟩ => hn.2 (hK _ _ _ c))).symm, c3⟩
            · simp only [e, if_false]
              obtain ⟨a1, a2, a3, a4⟩ := a x hx (hTS.imp id (fun c => ⟨by omega, c.2⟩))
              refine ⟨a1, a2, a3, ?_⟩
              intro r hr
              obtain ⟨c1, c2, c3⟩ := vj (x * 8 + r) (by omega)
              simp only [hc_ck, hc_gi, hc_gl, hc_gp, hc_ap, kd_I, kd_L, kd_P, kd_rI, ar_I, ar_L, ar_P, al_I, al_L, al_P, hop_s, cond_true, cond_false, pc_I_I, pc_L_L, pc_P_P, pc_I_L, pc_I_P, pc_L_I, pc_L_P, pc_P_I, pc_P_L, pc_sS_I, pc_sS_L, pc_sS_P, I_rI, L_rI, P_rI, S_rI, cv_r, ci_r, cl_r, o1_b, o1_0, o1_1, lc_e, nI_1, nI_add, if_true, if_false, Nat.reduceEqDiff, Nat.left_eq_add, Nat.add_eq_left, false_and, and_false, true_and, and_true, and_self, eq_self] at c1 c2 c3
              rw [c1, c2, c3]
              exact a4 r hr
          · intro y hy
            rw [e6]
            simp only [hc_ck, hc_gi, hc_gl, hc_gp, hc_ap, kd_I, kd_L, kd_P, kd_rI, ar_I, ar_L, ar_P, al_I, al_L, al_P, hop_s, cond_true, cond_false, pc_I_I, pc_L_L, pc_P_P, pc_I_L, pc_I_P, pc_L_I, pc_L_P, pc_P_I, pc_P_L, pc_sS_I, pc_sS_L, pc_sS_P, I_rI, L_rI, P_rI, S_rI, cv_r, ci_r, cl_r, o1_b, o1_0, o1_1, lc_e, nI_1, nI_add, if_true, if_false, Nat.reduceEqDiff, Nat.left_eq_add, Nat.add_eq_left, false_and, and_false, true_and, and_true, and_self, eq_self]
            apply wL_of
            intro x hx
            have hb := b y hy
            have hb0 := b 0 (by omega)
            have hbk := b k hk
            by_cases e : y = 0
            · subst e
              simp only [if_true]
              by_cases e2 : 0 = k
              · subst e2
                simp only [if_true]
                rw [hb0, xl_or, xl_or, xl_b1 (by omega), Bool.or_eq_true, Bool.or_eq_true, wL_x, decide_eq_true_iff]
                constructor
                · rintro ((⟨-, c1 | c1, c2⟩ | rfl) | rfl)
                  · exact ⟨Or.inl c1, c2⟩
                  · exact ⟨Or.inr ⟨by omega, c1.2⟩, c2⟩
                  · exact ⟨Or.inr ⟨by omega, hn.1⟩, Or.inr ⟨hn.2, hn.1, Or.inl rfl⟩⟩
                  · exact ⟨Or.inr ⟨by omega, hn.1⟩, Or.inr ⟨hn.2, hn.1, Or.inl rfl⟩⟩
                · rintro ⟨c1 | c1, c2⟩
                  · exact Or.inl (Or.inl ⟨hx, Or.inl c1, c2⟩)
                  · exact Or.inr (by omega)
              · simp only [e2, if_false]
                rw [hb0, xl_or, xl_b1 (by omega), Bool.or_eq_true, wL_x, decide_eq_true_iff]
                constructor
                · rintro (⟨-, c1 | c1, c2⟩ | rfl)
                  · exact ⟨Or.inl c1, c2⟩
                  · exact ⟨Or.inr ⟨by omega, c1.2⟩, c2⟩
                  · exact ⟨Or.inr ⟨by omega, hn.1⟩, Or.inr ⟨hn.2, hn.1, Or.inr rfl⟩⟩
                · rintro ⟨c1 | c1, c2⟩
                  · exact Or.inl ⟨hx, Or.inl c1, c2⟩
                  · by_cases e3 : x = k
                    · exact Or.inr e3
                    · exact Or.inl ⟨hx, Or.inr ⟨by omega, c1.2⟩, c2⟩
            · simp only [e, if_false]
              by_cases e2 : y = k
              · subst e2
                simp only [if_true]
                rw [hb, xl_or, xl_b1 (by omega), Bool.or_eq_true, wL_x, decide_eq_true_iff]
                constructor
                · rintro (⟨-, c1 | c1, c2⟩ | rfl)
                  · exact ⟨Or.inl c1, c2⟩
                  · exact ⟨Or.inr ⟨by omega, c1.2⟩, c2⟩
                  · exact ⟨Or.inr ⟨by omega, hn.1⟩, Or.inr ⟨hn.2, hn.1, Or.inl rfl⟩⟩
                · rintro ⟨c1 | c1, c2⟩
                  · exact Or.inl ⟨hx, Or.inl c1, c2⟩
                  · by_cases e3 : x = y
                    · exact Or.inr e3
                    · exact Or.inl ⟨hx, Or.inr ⟨by omega, c1.2⟩, c2⟩
              · simp only [e2, if_false]
                rw [hb, wL_x]
                constructor
                · rintro ⟨-, c1 | c1, c2⟩
                  · exact ⟨Or.inl c1, c2⟩
                  · exact ⟨Or.inr ⟨by omega, c1.2⟩, c2⟩
                · rintro ⟨c1 | c1, c2⟩
                  · exact ⟨hx, Or.inl c1, c2⟩
                  · by_cases e3 : x = k
                    · subst e3
                      rcases c2 with c2 | ⟨-, -, c2⟩
                      · exact absurd (hA _ _ c2) hn.2
                      · omega
                    · exact ⟨hx, Or.inr ⟨by omega, c1.2⟩, c2⟩
        · simp only [show xl (wL (fun k => S k ∧ ¬ T k)) k = false from cast (wL_f (by omega)).symm hn, if_true]
          have hST : S k → T k := fun c => Classical.byContradiction (fun p => hn ⟨c, p⟩)
          refine ih u q ?_ ?_
          · intro x hx hTS
            refine a x hx (hTS.elim Or.inl (fun c => ?_))
            by_cases e : x = k
            · subst e; exact Or.inl (hST c.2)
            · exact Or.inr ⟨by omega, c.2⟩
          · intro y hy
            rw [b y hy]
            refine wL_cong (fun x _ => ⟨fun p => ⟨p.1.imp id (fun c => ⟨by omega, c.2⟩), p.2⟩, fun p => ⟨p.1.elim Or.inl (fun c => ?_), p.2⟩⟩)
            by_cases e : x = k
            · subst e; exact Or.inl (hST c.2)
            · exact Or.inr ⟨by omega, c.2⟩
    refine key 0 (Nat.zero_le _) h (fX_r _ _) ?_ ?_
    · intro x hx hTS
      have Tx : T x := hTS.elim id (fun c => absurd c.1 (Nat.not_lt_zero x))
      obtain ⟨a1, a2, a3, a4⟩ := D2 x hx Tx
      exact ⟨a1.trans (wL_cong (fun y _ => ⟨Or.inl, fun p => p.elim id (fun q => absurd Tx q.1)⟩)), a2, a3, a4⟩
    · intro y hy
      rw [D3 y hy]
      exact wL_cong (fun x _ => ⟨fun p => ⟨Or.inl p.1, Or.inl p.2⟩, fun p => ⟨p.1.elim id (fun c => absurd c.1 (Nat.not_lt_zero x)), p.2.elim id (fun q => absurd (p.1.elim id (fun c => absurd c.1 (Nat.not_lt_zero x))) q.1)⟩⟩)
