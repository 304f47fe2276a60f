/-! ===== rounds and sweeps ===== -/
theorem Sa_deriveAll {h : am_H} {s o : Nat} {O : o_T} {B : Nat → Prop} {A : Nat → Nat → Prop} {K : Nat → Nat → Nat → Prop} (H : SaC h s o O B) (D : SaD h s O B (fun x => x < o_P O) A K (fun _ => 0) (fun _ _ => 0)) (hK : ∀ x r z, K x r z → z < o_P O) (d : Nat) :
    ∃ h', f_Sa_deriveAll (d + 2) h s = some (.inr none, h') ∧ fL s h h' ∧ SaD h' s O B (fun x => x < o_P O) A K (fun x => wL (fun y => r_A O B A K x y ∧ ¬ A x y)) (fun x r => wL (r_K O B A K x r)) := by
  have ok4 := H.2.1.2.1.2.2.2.1
  have key : ∀ k, k ≤ o_P O → ∀ u : am_H, fL s h u → SaD u s O B (fun x => x < o_P O) A K (fun x => if x < k then wL (fun y => r_A O B A K x y ∧ ¬ A x y) else 0) (fun x r => if x < k then wL (r_K O B A K x r) else 0) →
      ∃ h', f_Sa_deriveAll_2 (d + 2) u s (nI k) = some (.inr none, h') ∧ fL s h h' ∧ SaD h' s O B (fun x => x < o_P O) A K (fun x => wL (fun y => r_A O B A K x y ∧ ¬ A x y)) (fun x r => wL (r_K O B A K x r)) := by
    refine dn ?_ ?_
    · intro u q Du
      have Hu := SaC_f H q
      have H1 := SaC_at Hu
      refine ⟨u, ?_, q, SaD_c Du (fun _ => Iff.rfl) (fun _ c => c) (fun _ _ _ => Iff.rfl) (fun _ _ _ _ => Iff.rfl) (fun x hx => if_pos hx) (fun x r hx => if_pos hx)⟩
      rw [e_Sa_deriveAll_2]
      simp (disch := first | assumption | omega) only [hc_ck, hc_gi, hc_gl, hc_gp, hc_ap, kd_I, kd_L, kd_P, kd_rI, ar_I, ar_L, ar_P, al_I, al_L, al_P, hop_s, cond_true, cond_false, pc_I_I, pc_L_L, pc_P_P, pc_I_L, pc_I_P, pc_L_I, pc_L_P, pc_P_I, pc_P_L, pc_sS_I, pc_sS_L, pc_sS_P, I_rI, L_rI, P_rI, S_rI, cv_r, ci_r, cl_r, o1_b, o1_0, o1_1, lc_e, nI_1, nI_add, if_true, if_false, Nat.reduceEqDiff, Nat.left_eq_add, Nat.add_eq_left, false_and, and_false, true_and, and_true, and_self, eq_self, Sa_k, SaC_P, n_le, Nat.le_refl]
    · intro k hk ih u q Du
      have Hu := SaC_f H q
      have H1 := SaC_at Hu
      have hk3 : ¬ o_P O ≤ k := by omega
      obtain ⟨v, ev, qv, Dv⟩ := Sa_deriveD Hu Du hk hk (fun r z c => ⟨hK _ _ _ c, hK _ _ _ c⟩) (fun r _ => if_neg (Nat.lt_irrefl k)) d
      rw [e_Sa_deriveAll_2]
      simp (disch := first | assumption | omega) only [hc_ck, hc_gi, hc_gl, hc_gp, hc_ap, kd_I, kd_L, kd_P, kd_rI, ar_I, ar_L, ar_P, al_I, al_L, al_P, hop_s, cond_true, cond_false, pc_I_I, pc_L_L, pc_P_P, pc_I_L, pc_I_P, pc_L_I, pc_L_P, pc_P_I, pc_P_L, pc_sS_I, pc_sS_L, pc_sS_P, I_rI, L_rI, P_rI, S_rI, cv_r, ci_r, cl_r, o1_b, o1_0, o1_1, lc_e, nI_1, nI_add, if_true, if_false, Nat.reduceEqDiff, Nat.left_eq_add, Nat.add_eq_left, false_and, and_false, true_and, and_true, and_self, eq_self, Sa_k, SaC_P, n_le, hk3, ev]
      refine ih v (fL_t q qv) (SaD_c Dv (fun _ => Iff.rfl) (fun _ c => c) (fun _ _ _ => Iff.rfl) (fun _ _ _ _ => Iff.rfl) ?_ ?_)
      · intro x _
        by_cases e : x = k
        · subst e
          simp only [if_true, show x < x + 1 from by omega]
        · by_cases e2 : x < k
          · simp only [e, if_false, e2, if_true, show x < k + 1 from by omega]
          · simp only [e, if_false, e2, show ¬ x < k + 1 from by omega]
      · intro x r _
        by_cases e : x = k
        · subst e
          simp only [if_true, show x < x + 1 from by omega]
        · by_cases e2 : x < k
          · simp only [e, if_false, e2, if_true, show x < k + 1 from by omega]
          · simp only [e, if_false, e2, show ¬ x < k + 1 from by omega]
  rw [e_Sa_deriveAll]
  exact key 0 (Nat.zero_le _) h (fL_r _ _) D
theorem Sa_commitAll {h : am_H} {s o : Nat} {O : o_T} {B : Nat → Prop} {A : Nat → Nat → Prop} {K : Nat → Nat → Nat → Prop} (NA : Nat → Nat → Prop) (NK : Nat → Nat → Nat → Prop) (H : SaC h s o O B) (D : SaD h s O B (fun x => x < o_P O) A K (fun x => wL (NA x)) (fun x r => wL (NK x r))) (hR : ∀ x r y, NK x r y → r < o_R O) (d : Nat) :
    ∃ h' m, f_Sa_commitAll (d + 2) h s = some (.inr (some (.int (bo m))), h') ∧ fL s h h' ∧ (m = true ↔ ∃ x, x < o_P O ∧ ((∃ y, y < 64 ∧ NA x y) ∨ ∃ r, r < o_R O ∧ ∃ y, y < 64 ∧ NK x r y ∧ ¬ K x r y)) ∧ SaD h' s O B (fun x => x < o_P O) (fun x y => A x y ∨ NA x y) (fun x r y => K x r y ∨ NK x r y) (fun _ => 0) (fun _ _ => 0) := by
  have ok4 := H.2.1.2.1.2.2.2.1
  have key : ∀ k, k ≤ o_P O → ∀ (u : am_H) (m1 : Bool), fL s h u → (m1 = true ↔ ∃ x, x < k ∧ ((∃ y, y < 64 ∧ NA x y) ∨ ∃ r, r < o_R O ∧ ∃ y, y < 64 ∧ NK x r y ∧ ¬ K x r y)) → SaD u s O B (fun x => x < o_P O) (fun x y => A x y ∨ (x < k ∧ NA x y)) (fun x r y => K x r y ∨ (x < k ∧ NK x r y)) (fun x => if x < k then 0 else wL (NA x)) (fun x r => if x < k then 0 else wL (NK x r)) →
      ∃ h' m, f_Sa_commitAll_4 (d + 2) u s (bo m1) (nI k) = some (.inr (some (.int (bo m))), h') ∧ fL s h h' ∧ (m = true ↔ ∃ x, x < o_P O ∧ ((∃ y, y < 64 ∧ NA x y) ∨ ∃ r, r < o_R O ∧ ∃ y, y < 64 ∧ NK x r y ∧ ¬ K x r y)) ∧ SaD h' s O B (fun x => x < o_P O) (fun x y => A x y ∨ NA x y) (fun x r y => K x r y ∨ NK x r y) (fun _ => 0) (fun _ _ => 0) := by
    refine dn ?_ ?_
    · intro u m1 q hm Du
      have Hu := SaC_f H q
      have H1 := SaC_at Hu
      refine ⟨u, m1, ?_, q, hm, SaD_c Du (fun _ => Iff.rfl) (fun _ c => c) (fun x y hx => ⟨fun c => c.imp id And.right, fun c => c.imp id (fun e => ⟨hx, e⟩)⟩) (fun x r y hx => ⟨fun c => c.imp id And.right, fun c => c.imp id (fun e => ⟨hx, e⟩)⟩) (fun x hx => if_pos hx) (fun x r hx => if_pos hx)⟩
      rw [e_Sa_commitAll_4]
      simp (disch := first | assumption | omega) only [hc_ck, hc_gi, hc_gl, hc_gp, hc_ap, kd_I, kd_L, kd_P, kd_rI, ar_I, ar_L, ar_P, al_I, al_L, al_P, hop_s, cond_true, cond_false, pc_I_I, pc_L_L, pc_P_P, pc_I_L, pc_I_P, pc_L_I, pc_L_P, pc_P_I, pc_P_L, pc_sS_I, pc_sS_L, pc_sS_P, I_rI, L_rI, P_rI, S_rI, cv_r, ci_r, cl_r, o1_b, o1_0, o1_1, lc_e, nI_1, nI_add, if_true, if_false, Nat.reduceEqDiff, Nat.left_eq_add, Nat.add_eq_left, false_and, and_false, true_and, and_true, and_self, eq_self, Sa_k, SaC_P, n_le, Nat.le_refl]
    · intro k hk ih u m1 q hm Du
      have Hu := SaC_f H q
      have H1 := SaC_at Hu
      have hk3 : ¬ o_P O ≤ k := by omega
      obtain ⟨v, m, ev, hm', qv, Dv⟩ := Sa_commit Hu Du hk hk (NA k) (NK k) (if_neg (Nat.lt_irrefl k)) (fun r _ => if_neg (Nat.lt_irrefl k)) (hR k) d
      rw [e_Sa_commitAll_4]
      simp (disch := first | assumption | omega) only [hc_ck, hc_gi, hc_gl, hc_gp, hc_ap, kd_I, kd_L, kd_P, kd_rI, ar_I, ar_L, ar_P, al_I, al_L, al_P, hop_s, cond_true, cond_false, pc_I_I, pc_L_L, pc_P_P, pc_I_L, pc_I_P, pc_L_I, pc_L_P, pc_P_I, pc_P_L, pc_sS_I, pc_sS_L, pc_sS_P, I_rI, L_rI, P_rI, S_rI, cv_r, ci_r, cl_r, o1_b, o1_0, o1_1, lc_e, nI_1, nI_add, if_true, if_false, Nat.reduceEqDiff, Nat.left_eq_add, Nat.add_eq_left, false_and, and_false, true_and, and_true, and_self, eq_self, Sa_k, SaC_P, n_le, hk3, ev, bo_or]
      refine ih v (m1 || m) (fL_t q qv) ?_ (SaD_c Dv (fun _ => Iff.rfl) (fun _ c => c) ?_ ?_ ?_ ?_)
      · rw [Bool.or_eq_true, hm, hm']
        constructor
        · rintro (⟨x, a, b⟩ | a)
          · exact ⟨x, by omega, b⟩
          · refine ⟨k, by omega, a.imp id ?_⟩
            rintro ⟨r, b1, y, b2, b3, b4⟩
            exact ⟨r, b1, y, b2, b3, fun c => b4 (Or.inl c)⟩
        · rintro ⟨x, a, b⟩
          by_cases e : x = k
          · subst e
            refine Or.inr (b.imp id ?_)
            rintro ⟨r, b1, y, b2, b3, b4⟩
            exact ⟨r, b1, y, b2, b3, fun c => c.elim b4 (fun e => absurd e.1 (Nat.lt_irrefl x))⟩
          · exact Or.inl ⟨x, by omega, b⟩
      · intro x y _
        constructor
        · rintro ((a | ⟨a, b⟩) | ⟨rfl, b⟩)
          · exact Or.inl a
          · exact Or.inr ⟨by omega, b⟩
          · exact Or.inr ⟨by omega, b⟩
        · rintro (a | ⟨a, b⟩)
          · exact Or.inl (Or.inl a)
          · by_cases e : x = k
            · subst e; exact Or.inr ⟨rfl, b⟩
            · exact Or.inl (Or.inr ⟨by omega, b⟩)
      · intro x r y _
        constructor
        · rintro ((a | ⟨a, b⟩) | ⟨rfl, b⟩)
          · exact Or.inl a
          · exact Or.inr ⟨by omega, b⟩
          · exact Or.inr ⟨by omega, b⟩
        · rintro (a | ⟨a, b⟩)
          · exact Or.inl (Or.inl a)
          · by_cases e : x = k
            · subst e; exact Or.inr ⟨rfl, b⟩
            · exact Or.inl (Or.inr ⟨by omega, b⟩)
      · intro x _
        by_cases e : x = k
        · subst e
          simp only [if_true, show x < x + 1 from by omega]
        · by_cases e2 : x < k
          · simp only [e, if_false, e2, if_true, show x < k + 1 from by omega]
          · simp only [e, if_false, e2, show ¬ x < k + 1 from by omega]
      · intro x r _
        by_cases e : x = k
        · subst e
          simp only [if_true, show x < x + 1 from by omega]
        · by_cases e2 : x < k
          · simp only [e, if_false, e2, if_true, show x < k + 1 from by omega]
          · simp only [e, if_false, e2, show ¬ x < k + 1 from by omega]
  rw [e_Sa_commitAll]
  refine key 0 (Nat.zero_le _) h false (fL_r _ _) ⟨fun a => absurd a (by decide), fun ⟨x, a, _⟩ => absurd a (Nat.not_lt_zero x)⟩ (SaD_c D (fun _ => Iff.rfl) (fun _ c => c) (fun x y _ => ⟨Or.inl, fun c => c.elim id (fun e => absurd e.1 (Nat.not_lt_zero x))⟩) (fun x r y _ => ⟨Or.inl, fun c => c.elim id (fun e => absurd e.1 (Nat.not_lt_zero x))⟩) (fun _ _ => rfl) (fun _ _ _ => rfl))
/-- what holds of a search among some parts -/
def SW (h : am_H) (s o : Nat) (O : o_T) (B T : Nat → Prop) (A : Nat → Nat → Prop) (K : Nat → Nat → Nat → Prop) : Prop :=
  SaC h s o O B ∧ SaD h s O B T A K (fun _ => 0) (fun _ _ => 0) ∧ (∀ x, T x → x < o_P O) ∧ (∀ x y, A x y → T x) ∧ (∀ x, T x → A x x ∧ A x 0) ∧ (∀ x r y, K x r y → T x ∧ T y) ∧ (∀ x y, A x y → l_A O B x y) ∧ (∀ x r y, K x r y → l_K O B x r y)
/-- it is at its end -/
def s_SE (O : o_T) (B T : Nat → Prop) (A : Nat → Nat → Prop) (K : Nat → Nat → Nat → Prop) : Prop := ∀ x, T x → (∀ y, r_A O B A K x y → A x y) ∧ (∀ r y, r_K O B A K x r y → K x r y)
theorem Sa_sweep {h : am_H} {s o : Nat} {O : o_T} {B T : Nat → Prop} {A : Nat → Nat → Prop} {K : Nat → Nat → Nat → Prop} (W : SW h s o O B T A K) (d : Nat) :
    ∃ (h' : am_H) (m : Bool) (T' : Nat → Prop) (A' : Nat → Nat → Prop) (K' : Nat → Nat → Nat → Prop), f_Sa_sweep (d + 2) h s = some (.inr (some (.int (bo m))), h') ∧ fL s h h' ∧ SW h' s o O B T' A' K' ∧ (∀ x, T x → T' x) ∧ (m = true → s_ct A K < s_ct A' K') ∧ (m = false → s_SE O B T' A' K') := by
  have ok : o_ok O := W.1.2.1.2.1
  have ok2 := ok.2.1
  have ok3 := ok.2.2.1
  have ok4 := ok.2.2.2.1
  have key : ∀ k, k ≤ o_P O → ∀ (u : am_H) (m1 : Bool) (T1 : Nat → Prop) (A1 : Nat → Nat → Prop) (K1 : Nat → Nat → Nat → Prop), fL s h u → SW u s o O B T1 A1 K1 → (∀ x, T x → T1 x) → s_ct A K ≤ s_ct A1 K1 → (m1 = true → s_ct A K < s_ct A1 K1) → (m1 = false → ∀ x, x < k → T1 x → (∀ y, r_A O B A1 K1 x y → A1 x y) ∧ (∀ r y, r_K O B A1 K1 x r y → K1 x r y)) →
      ∃ (h' : am_H) (m : Bool) (T' : Nat → Prop) (A' : Nat → Nat → Prop) (K' : Nat → Nat → Nat → Prop), f_Sa_sweep_4 (d + 2) u s (bo m1) (nI k) = some (.inr (some (.int (bo m))), h') ∧ fL s h h' ∧ SW h' s o O B T' A' K' ∧ (∀ x, T x → T' x) ∧ (m = true → s_ct A K < s_ct A' K') ∧ (m = false → s_SE O B T' A' K') := by
    refine dn ?_ ?_
    · intro u m1 T1 A1 K1 q W1 hT hc hm hm0
      have H1 := SaC_at W1.1
      have H0 := W1.1
      refine ⟨u, m1, T1, A1, K1, ?_, q, W1, hT, hm, fun e x hx => hm0 e x (W1.2.2.1 x hx) hx⟩
      rw [e_Sa_sweep_4]
      simp (disch := first | assumption | omega) only [hc_ck, hc_gi, hc_gl, hc_gp, hc_ap, kd_I, kd_L, kd_P, kd_rI, ar_I, ar_L, ar_P, al_I, al_L, al_P, hop_s, cond_true, cond_false, pc_I_I, pc_L_L, pc_P_P, pc_I_L, pc_I_P, pc_L_I, pc_L_P, pc_P_I, pc_P_L, pc_sS_I, pc_sS_L, pc_sS_P, I_rI, L_rI, P_rI, S_rI, cv_r, ci_r, cl_r, o1_b, o1_0, o1_1, lc_e, nI_1, nI_add, if_true, if_false, Nat.reduceEqDiff, Nat.left_eq_add, Nat.add_eq_left, false_and, and_false, true_and, and_true, and_self, eq_self, Sa_k, SaC_P, n_le, Nat.le_refl]
    · intro k hk ih u m1 T1 A1 K1 q W1 hT hc hm hm0
      obtain ⟨Hu, Du, wT, wA, w0, wK, wsA, wsK⟩ := W1
      have H1 := SaC_at Hu
      have hk3 : ¬ o_P O ≤ k := by omega
      rw [e_Sa_sweep_4]
      simp (disch := first | assumption | omega) only [hc_ck, hc_gi, hc_gl, hc_gp, hc_ap, kd_I, kd_L, kd_P, kd_rI, ar_I, ar_L, ar_P, al_I, al_L, al_P, hop_s, cond_true, cond_false, pc_I_I, pc_L_L, pc_P_P, pc_I_L, pc_I_P, pc_L_I, pc_L_P, pc_P_I, pc_P_L, pc_sS_I, pc_sS_L, pc_sS_P, I_rI, L_rI, P_rI, S_rI, cv_r, ci_r, cl_r, o1_b, o1_0, o1_1, lc_e, nI_1, nI_add, if_true, if_false, Nat.reduceEqDiff, Nat.left_eq_add, Nat.add_eq_left, false_and, and_false, true_and, and_true, and_self, eq_self, Sa_k, SaC_P, n_le, hk3, Du.1, xl_t0]
      by_cases Tk : T1 k
      · simp only [show xl (wL T1) k = true from wL_x.mpr ⟨by omega, Tk⟩, Bool.true_eq_false, if_false]
        obtain ⟨v, ev, qv, Dv⟩ := Sa_deriveD Hu Du hk Tk (fun r z c => ⟨(wK _ _ _ c).2, wT _ (wK _ _ _ c).2⟩) (fun _ _ => rfl) d
        have Hv := SaC_f Hu qv
        have H1v := SaC_at Hv
        obtain ⟨w, m, ew, hmw, qw, Dw⟩ := Sa_commit Hv Dv hk Tk (fun y => r_A O B A1 K1 k y ∧ ¬ A1 k y) (r_K O B A1 K1 k) (if_pos rfl) (fun r _ => if_pos rfl) (fun r y c => (r_Kd ok (fun x r y e => wT _ (wK _ _ _ e).2) c).1) d
        have Hw := SaC_f Hv qw
        have H1w := SaC_at Hw
        -- what is known now
        have Dw' : SaD w s O B T1 (fun a y => A1 a y ∨ (a = k ∧ r_A O B A1 K1 k y ∧ ¬ A1 k y)) (fun a r y => K1 a r y ∨ (a = k ∧ r_K O B A1 K1 k r y)) (fun _ => 0) (fun _ _ => 0) := by
          refine SaD_c Dw (fun _ => Iff.rfl) wT (fun _ _ _ => Iff.rfl) (fun _ _ _ _ => Iff.rfl) ?_ ?_
          · intro x _
            by_cases e : x = k
            · simp only [e, if_true]
            · simp only [e, if_false]
          · intro x r _
            by_cases e : x = k
            · simp only [e, if_true]
            · simp only [e, if_false]
        have el : am_L w (s + 9) k = wL (fun y => ∃ r, K1 k r y ∨ r_K O B A1 K1 k r y) := (Dw'.2.1 k hk Tk).2.1.trans (wL_cong (fun y _ => ⟨fun ⟨r, c⟩ => ⟨r, c.imp id And.right⟩, fun ⟨r, c⟩ => ⟨r, c.imp id (fun e => ⟨rfl, e⟩)⟩⟩))
        have sA : ∀ a y, (A1 a y ∨ (a = k ∧ r_A O B A1 K1 k y ∧ ¬ A1 k y)) → l_A O B a y := by
          rintro a y (c | ⟨rfl, c, -⟩)
          · exact wsA a y c
          · exact l_cA (r_Am (fun _ e => e) (wsA a) (wsK a) (fun r z _ => wsA z) c)
        have sK : ∀ a r y, (K1 a r y ∨ (a = k ∧ r_K O B A1 K1 k r y)) → l_K O B a r y := by
          rintro a r y (c | ⟨rfl, c⟩)
          · exact wsK a r y c
          · exact l_cK (r_Km (fun _ e => e) (wsA a) (wsK a) (fun r z _ => wsK z) c)
        obtain ⟨z, ez, qz, Dz⟩ := Sa_activate Hw Dw' (fun y => ∃ r, K1 k r y ∨ r_K O B A1 K1 k r y) (fun y ⟨r, c⟩ => (l_Kd ok (sK k r y (c.imp id (fun e => ⟨rfl, e⟩)))).2) (fun a y c => c.elim (wA a y) (fun e => e.1 ▸ Tk)) (fun a r y c => c.elim (fun e => (wK a r y e).1) (fun e => e.1 ▸ Tk)) (d + 1)
        simp (disch := first | assumption | omega) only [hc_ck, hc_gi, hc_gl, hc_gp, hc_ap, kd_I, kd_L, kd_P, kd_rI, ar_I, ar_L, ar_P, al_I, al_L, al_P, hop_s, cond_true, cond_false, pc_I_I, pc_L_L, pc_P_P, pc_I_L, pc_I_P, pc_L_I, pc_L_P, pc_P_I, pc_P_L, pc_sS_I, pc_sS_L, pc_sS_P, I_rI, L_rI, P_rI, S_rI, cv_r, ci_r, cl_r, o1_b, o1_0, o1_1, lc_e, nI_1, nI_add, if_true, if_false, Nat.reduceEqDiff, Nat.left_eq_add, Nat.add_eq_left, false_and, and_false, true_and, and_true, and_self, eq_self, ev, ew, ez, el, Sa_k, Sa_p15, Sa_r9, bo_or]
        have qa := fL_t (fL_t (fL_t q qv) qw) qz
        cases m with
        | true =>
          have Wz : SW z s o O B (fun x => T1 x ∨ ∃ r, K1 k r x ∨ r_K O B A1 K1 k r x) (a_A T1 (fun y => ∃ r, K1 k r y ∨ r_K O B A1 K1 k r y) (fun a y => A1 a y ∨ (a = k ∧ r_A O B A1 K1 k y ∧ ¬ A1 k y))) (fun a r y => K1 a r y ∨ (a = k ∧ r_K O B A1 K1 k r y)) := by
            refine ⟨SaC_f Hw qz, Dz, ?_, ?_, ?_, ?_, ?_, sK⟩
            · rintro x (c | ⟨r, c⟩)
              · exact wT x c
              · exact (l_Kd ok (sK k r x (c.imp id (fun e => ⟨rfl, e⟩)))).2
            · rintro x y ((c | ⟨rfl, -⟩) | ⟨-, c, -⟩)
              · exact Or.inl (wA x y c)
              · exact Or.inl Tk
              · exact Or.inr c
            · intro x c
              by_cases e : T1 x
              · exact ⟨Or.inl (Or.inl (w0 x e).1), Or.inl (Or.inl (w0 x e).2)⟩
              · exact ⟨Or.inr ⟨e, c.elim (fun f => absurd f e) id, Or.inl rfl⟩, Or.inr ⟨e, c.elim (fun f => absurd f e) id, Or.inr rfl⟩⟩
            · rintro x r y (c | ⟨rfl, c⟩)
              · exact ⟨Or.inl (wK x r y c).1, Or.inl (wK x r y c).2⟩
              · exact ⟨Or.inl Tk, Or.inr ⟨r, Or.inr c⟩⟩
            · rintro x y (c | ⟨-, -, rfl | rfl⟩)
              · exact sA x y c
              · exact l_A0 O B y
              · exact l_AT O B x
          have hlt : s_ct A1 K1 < s_ct (a_A T1 (fun y => ∃ r, K1 k r y ∨ r_K O B A1 K1 k r y) (fun a y => A1 a y ∨ (a = k ∧ r_A O B A1 K1 k y ∧ ¬ A1 k y))) (fun a r y => K1 a r y ∨ (a = k ∧ r_K O B A1 K1 k r y)) := by
            rcases hmw.mp rfl with ⟨y, c1, c2⟩ | ⟨r, c1, y, c2, c3, c4⟩
            · exact s_ctA (fun x y e => Or.inl (Or.inl e)) (fun x r y e => Or.inl e) (x := k) (y := y) (by omega) (by have := r_Ad ok c2.1; omega) (Or.inl (Or.inr ⟨rfl, c2⟩)) c2.2
            · exact s_ctK (fun x y e => Or.inl (Or.inl e)) (fun x r y e => Or.inl e) (x := k) (r := r) (y := y) (by omega) (by omega) (by have := (r_Kd ok (fun x r y e => wT _ (wK _ _ _ e).2) c3).2; omega) (Or.inr ⟨rfl, c3⟩) c4
          refine ih z (m1 || true) _ _ _ qa Wz (fun x hx => Or.inl (hT x hx)) (by omega) (fun _ => by omega) (fun e => ?_)
          simp at e
        | false =>
          have nA : ∀ y, r_A O B A1 K1 k y → A1 k y := by
            intro y c
            apply Classical.byContradiction
            intro e
            have := hmw.mpr (Or.inl ⟨y, by have := r_Ad ok c; omega, c, e⟩)
            cases this
          have nK : ∀ r y, r_K O B A1 K1 k r y → K1 k r y := by
            intro r y c
            apply Classical.byContradiction
            intro e
            have hd := r_Kd ok (fun x r y e => wT _ (wK _ _ _ e).2) c
            have := hmw.mpr (Or.inr ⟨r, hd.1, y, by omega, c, e⟩)
            cases this
          have Wz : SW z s o O B T1 A1 K1 := by
            refine ⟨SaC_f Hw qz, ?_, wT, wA, w0, wK, wsA, wsK⟩
            have hS : ∀ x, (∃ r, K1 k r x ∨ r_K O B A1 K1 k r x) → T1 x := fun x ⟨r, c⟩ => c.elim (fun e => (wK _ _ _ e).2) (fun e => (wK _ _ _ (nK _ _ e)).2)
            refine SaD_c Dz (fun x => ⟨fun c => c.elim id (hS x), Or.inl⟩) (fun x c => wT x (c.elim id (hS x))) ?_ ?_ (fun _ _ => rfl) (fun _ _ _ => rfl)
            · intro x y hx
              have Tx : T1 x := hx.elim id (hS x)
              constructor
              · rintro ((c | ⟨-, c1, c2⟩) | ⟨c, -⟩)
                · exact c
                · exact absurd (nA y c1) c2
                · exact absurd Tx c
              · exact fun c => Or.inl (Or.inl c)
            · intro x r y hx
              exact ⟨fun c => c.elim id (fun e => e.1 ▸ nK r y e.2), Or.inl⟩
          refine ih z (m1 || false) T1 A1 K1 qa Wz hT hc ?_ ?_
          · simpa using hm
          · intro e x hx Tx
            by_cases e2 : x = k
            · subst e2
              exact ⟨nA, nK⟩
            · exact hm0 (by simpa using e) x (by omega) Tx
      · simp only [show xl (wL T1) k = false from cast (wL_f (by omega)).symm Tk, if_true]
        refine ih u m1 T1 A1 K1 q ⟨Hu, Du, wT, wA, w0, wK, wsA, wsK⟩ hT hc hm ?_
        intro e x hx Tx
        by_cases e2 : x = k
        · subst e2
          exact absurd Tx Tk
        · exact hm0 e x (by omega) Tx
  rw [e_Sa_sweep]
  exact key 0 (Nat.zero_le _) h false T A K (fL_r _ _) W (fun _ c => c) (Nat.le_refl _) (fun e => by cases e) (fun _ x hx => absurd hx (Nat.not_lt_zero x))
