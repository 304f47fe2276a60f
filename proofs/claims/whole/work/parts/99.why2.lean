/-! ===== why: the class ===== -/
noncomputable def q_wk (O : o_T) (B : Nat → Prop) (x y : Nat) : Nat := w_c O B (s_k O B + 1) x y
noncomputable def q_wr (O : o_T) (B : Nat → Prop) (x y : Nat) : Nat := lm (w_h O B (s_A O B (q_wk O B x y - 1)) (s_K O B (q_wk O B x y - 1)) x y)
noncomputable def q_wy (O : o_T) (B : Nat → Prop) (x y w : Nat) : Value :=
  if q_w O B x y = -1 then .int (-1) else if q_w O B x y = 0 then (if w = 0 then .int 0 else .int (-1)) else if w = 0 then .int (nI (q_wr O B x y)) else .int (nI (lm (w_w O B (s_A O B (q_wk O B x y - 1)) (s_K O B (q_wk O B x y - 1)) x y (q_wr O B x y))))
/-- the round is a number, and what came in it came by a rule -/
theorem q_wk_s {O : o_T} {B : Nat → Prop} {x y : Nat} (ok : o_ok O) (hy : y < o_P O) (h1 : ¬ q_w O B x y = -1) (h2 : ¬ q_w O B x y = 0) : 0 < q_wk O B x y ∧ q_wk O B x y ≤ 32400 ∧ ∃ i, w_h O B (s_A O B (q_wk O B x y - 1)) (s_K O B (q_wk O B x y - 1)) x y i := by
  have e : ∃ j, j < s_k O B + 1 ∧ s_A O B j x y := Classical.byContradiction (fun q => h1 (by
    unfold q_w w_c
    rw [lm_n (fun j c => q ⟨j, c⟩), lit_m1]))
  obtain ⟨k, hk, hs⟩ := s_stops B ok
  have ek := s_k_e hs
  obtain ⟨l1, l2⟩ := lm_s e
  have e1 : lm (fun j => j < s_k O B + 1 ∧ s_A O B j x y) = q_wk O B x y := rfl
  rw [e1] at l1 l2
  have hp : 0 < q_wk O B x y := by
    rcases Nat.eq_zero_or_pos (q_wk O B x y) with z | z
    · refine absurd ?_ h2
      show nI (q_wk O B x y) = 0
      rw [z]
      rfl
    · exact z
  refine ⟨hp, by omega, ?_⟩
  obtain ⟨n, hn⟩ : ∃ n, q_wk O B x y = n + 1 := ⟨q_wk O B x y - 1, by omega⟩
  rw [hn] at l1 l2
  rw [hn, Nat.add_sub_cancel]
  have nn : ¬ s_A O B n x y := fun q => l2 n (by omega) ⟨by omega, q⟩
  rcases ((s_AS O B n x y).mp l1.2).resolve_left nn with ⟨c, q1, j, q2, q3, q4⟩ | ⟨p, q1, q2, q3, q4⟩ | ⟨q1, q2, q3, q4⟩ | ⟨q1, q2, z, q3, q4⟩ | ⟨q1, z, q2, q3⟩
  · refine ⟨1, Or.inl ⟨rfl, j, q2, q3, ?_⟩⟩
    rcases q4 with ⟨a1, a2, a3⟩ | ⟨a1, a2, a3⟩
    · exact Or.inl ⟨a1, a3, a2 ▸ q1⟩
    · exact Or.inr ⟨a1, a3, a2 ▸ q1⟩
  · exact ⟨2, Or.inr (Or.inl ⟨rfl, p, q1, q2, q4, q3⟩)⟩
  · exact ⟨3, Or.inr (Or.inr (Or.inl ⟨rfl, q2, q3, q4⟩))⟩
  · obtain ⟨r, a1, a2⟩ := q3
    exact ⟨4, Or.inr (Or.inr (Or.inr (Or.inl ⟨rfl, z, (s_Kd ok a2).2, q2, ⟨r, a1, a2⟩, q4⟩)))⟩
  · obtain ⟨r, a2⟩ := q2
    exact ⟨5, Or.inr (Or.inr (Or.inr (Or.inr ⟨rfl, z, (s_Kd ok a2).2, q1, ⟨r, a2⟩, q3⟩)))⟩
theorem w_h6 {O : o_T} {B : Nat → Prop} {A : Nat → Nat → Prop} {K : Nat → Nat → Nat → Prop} {x y i : Nat} (h : w_h O B A K x y i) : 0 < i ∧ i < 6 := by
  rcases h with ⟨c, -⟩ | ⟨c, -⟩ | ⟨c, -⟩ | ⟨c, -⟩ | ⟨c, -⟩ <;> omega
/-- rounds done on the trial -/
theorem Lc_why84 {h : am_H} {o k x y w : Nat} {O : o_T} {B : Nat → Prop} (H : LcAt h) (Ho : OnR h o O) (ho : o = 3 ∨ o = 20) (hx : x < o_P O) (hy : y < o_P O) (hw : w < 1 + 1) (hk : k ≤ 32400) (d : Nat) (hi : ∃ i, w_h O B (s_A O B k) (s_K O B k) x y i) : ∀ n, n ≤ k → ∀ u : am_H, fA 61 h u → SaC u 61 o O B → SaD u 61 O B (fun x => x < o_P O) (s_A O B n) (s_K O B n) (fun _ => 0) (fun _ _ => 0) → ∃ h', f_Lc_why_84 (d + 4) u 1 (nI x) (nI y) (nI w) (nI (k + 1)) (nI (n + 1)) = some (.inr (some (if w = 0 then .int (nI (lm (w_h O B (s_A O B k) (s_K O B k) x y))) else .int (nI (lm (w_w O B (s_A O B k) (s_K O B k) x y (lm (w_h O B (s_A O B k) (s_K O B k) x y))))))), h') ∧ fA 61 h h' := by
  have ok := Ho.2.1
  refine dn ?_ ?_
  · intro u q C D
    have Hu := fA_lc (Or.inr rfl) q H
    have Ht := Lc_t Hu
    refine ⟨u, ?_, q⟩
    have e1 := Sa_ruleFor C D (fun x hx => hx) hx hy (d + 1)
    have l6 := w_h6 (lm_s hi).1
    have e2 := Sa_witnessOf C D (fun x hx => hx) hx hy l6.2 (d + 2)
    rw [e_Lc_why_84]
    simp (disch := first | assumption | omega) only [hc_ck, hc_gi, hc_gl, hc_gp, ap_I, ap_L, kd_I, kd_L, kd_P, kd_rI, ar_I, ar_L, ar_P, al_I, al_L, al_P, hop_s, cond_true, cond_false, pc_I_I, pc_L_L, pc_P_P, pc_I_L, pc_I_P, pc_L_I, pc_L_P, pc_P_I, pc_P_L, pc_sS_I, pc_sS_L, pc_sS_P, I_rI, L_rI, P_rI, S_rI, cv_r, ci_r, cl_r, o1_b, o1_0, o1_1, lc_e, nI_1, nI_add, if_true, if_false, Nat.reduceEqDiff, Nat.left_eq_add, Nat.add_eq_left, false_and, and_false, true_and, and_true, and_self, eq_self, n_le, Nat.le_refl, Lc_k1, Lc_p1_13, Sa_k, e1, e2]
    rcases iv2 hw with rfl | rfl
    · rw [if_pos (by decide), if_pos rfl]
    · rw [if_neg (by decide), if_neg (by decide)]
  · intro n hn ih u q C D
    have Hu := fA_lc (Or.inr rfl) q H
    have Ht := Lc_t Hu
    have hn3 : ¬ k + 1 ≤ n + 1 := by omega
    obtain ⟨v, ev, qv, Dv⟩ := Sa_deriveAll C D (fun x r z c => (s_Kd ok c).2) (d + 1)
    have Cv := SaC_f C qv
    have Hv := fA_lc (Or.inr rfl) (fL_A qv) Hu
    have Htv := Lc_t Hv
    obtain ⟨z, m, ez, qz, hm, Dz⟩ := Sa_commitAll (fun x y => r_A O B (s_A O B n) (s_K O B n) x y ∧ ¬ s_A O B n x y) (fun x r y => r_K O B (s_A O B n) (s_K O B n) x r y) Cv Dv (fun x r y c => (r_Kd ok (fun x r y e => (s_Kd ok e).2) c).1) (d + 1)
    rw [e_Lc_why_84]
    simp (disch := first | assumption | omega) only [hc_ck, hc_gi, hc_gl, hc_gp, ap_I, ap_L, kd_I, kd_L, kd_P, kd_rI, ar_I, ar_L, ar_P, al_I, al_L, al_P, hop_s, cond_true, cond_false, pc_I_I, pc_L_L, pc_P_P, pc_I_L, pc_I_P, pc_L_I, pc_L_P, pc_P_I, pc_P_L, pc_sS_I, pc_sS_L, pc_sS_P, I_rI, L_rI, P_rI, S_rI, cv_r, ci_r, cl_r, o1_b, o1_0, o1_1, lc_e, nI_1, nI_add, if_true, if_false, Nat.reduceEqDiff, Nat.left_eq_add, Nat.add_eq_left, false_and, and_false, true_and, and_true, and_self, eq_self, n_le, hn3, Lc_k1, Lc_p1_13, Sa_k, ev, ez]
    refine ih z (fA_t q (fA_t (fL_A qv) (fL_A qz))) (SaC_f Cv qz) (SaD_c Dz (fun _ => Iff.rfl) (fun _ c => c) (fun x y _ => ?_) (fun x r y _ => (s_KS O B n x r y).symm) (fun _ _ => rfl) (fun _ _ _ => rfl))
    rw [s_AS]
    by_cases c : s_A O B n x y
    · exact ⟨fun _ => Or.inl c, fun _ => Or.inl c⟩
    · exact ⟨fun e => e.imp id (fun e => e.1), fun e => e.imp id (fun e => ⟨e, c⟩)⟩
theorem CB_t {h h' : am_H} {o : Nat} {O : o_T} {B : Nat → Prop} (C : CB h o O B) (q : fA 61 h h') : CB h' o O B := CB_sm (W := fun b => b < 61 ∨ 73 ≤ b) ⟨q.1, fun b p => ⟨(q.2.2.2.1 b (by omega)).1, (q.2.2.2.1 b (by omega)).2, by funext j; exact q.2.2.2.2 b j (by omega)⟩⟩ (fA_lc (Or.inr rfl) q C.1) (fun b _ p => by omega) (by omega) (by omega) C
theorem Lc_q_why {h : am_H} {o : Nat} {O : o_T} {B : Nat → Prop} (C : CB h o O B) (i j l : Int32) (d : Nat) : QQ (f_Lc_why (d + 5) h 1 i j l) h o O B (g1 (o_P O) i 0 fun x => g1 (o_P O) j 0 fun y => g1 2 l 1 fun w => .inr (q_wy O B x y w)) := by
  have H := C.1
  have ok := C.2.2.2.1.2.1
  have hP := ok.2.2.2.1
  rw [e_Lc_why]
  rcases Lc_nP C i (d + 3) with ⟨⟨x, hx, rfl⟩, e1⟩ | ⟨v, e1⟩
  · rw [g1_y (by omega) hx]
    rcases Lc_nP C j (d + 3) with ⟨⟨y, hy, rfl⟩, e2⟩ | ⟨v, e2⟩
    · rw [g1_y (by omega) hy]
      rcases Lc_nW H l (n := 1) (by omega) (d + 3) with ⟨⟨w, hw, rfl⟩, e3⟩ | ⟨v, e3⟩
      · rw [g1_y (by omega) hw]
        rw [← n_1] at e3
        obtain ⟨g, eg, qg, Cg, Lg⟩ := Lc_st C d
        have Hg := Cg.1
        have Hog := Cg.2.2.2.1
        have ho := Cg.2.2.1
        have H3 := OnR_at Hog
        have Ht := Lc_t Hg
        simp (disch := first | assumption | omega) only [hc_ck, hc_gi, hc_gl, hc_gp, ap_I, ap_L, kd_I, kd_L, kd_P, kd_rI, ar_I, ar_L, ar_P, al_I, al_L, al_P, hop_s, cond_true, cond_false, pc_I_I, pc_L_L, pc_P_P, pc_I_L, pc_I_P, pc_L_I, pc_L_P, pc_P_I, pc_P_L, pc_sS_I, pc_sS_L, pc_sS_P, I_rI, L_rI, P_rI, S_rI, cv_r, ci_r, cl_r, o1_b, o1_0, o1_1, lc_e, nI_1, nI_add, if_true, if_false, Nat.reduceEqDiff, Nat.left_eq_add, Nat.add_eq_left, false_and, and_false, true_and, and_true, and_self, eq_self, Lc_k1, e1, e2, e3, eg, Lc_p1_10, n_m60, Lc_r41, LcL_w Lg hx hy]
        unfold q_wy
        by_cases c1 : q_w O B x y = -1
        · rw [if_pos c1, if_pos c1]
          exact ⟨g, qg, Cg, rfl⟩
        · rw [if_neg c1, if_neg c1]
          by_cases c2 : q_w O B x y = 0
          · rw [if_pos c2, if_pos c2]
            rcases iv2 hw with rfl | rfl
            · rw [if_pos (by decide), if_pos rfl]
              exact ⟨g, qg, Cg, rfl⟩
            · rw [if_neg (by decide), if_neg (by decide)]
              exact ⟨g, qg, Cg, rfl⟩
          · rw [if_neg c2, if_neg c2]
            obtain ⟨p1, p2, p3⟩ := q_wk_s ok hy c1 c2
            obtain ⟨u, eu, qu, Cu, Du⟩ := Sa_begin (o := o) Ht Hog (by omega) B (fun x => x < o_P O) (fun _ e => e) (d + 2)
            have D0 : SaD u 61 O B (fun x => x < o_P O) (s_A O B 0) (s_K O B 0) (fun _ => 0) (fun _ _ => 0) := SaD_c Du (fun _ => Iff.rfl) (fun _ c => c) (fun x y c => ⟨fun e => e.2, fun e => ⟨c, e⟩⟩) (fun x r y _ => Iff.rfl) (fun _ _ => rfl) (fun _ _ _ => rfl)
            obtain ⟨v, ev, qv⟩ := Lc_why84 (k := q_wk O B x y - 1) Hg Hog ho hx hy hw (by omega) (d + 1) p3 0 (Nat.zero_le _) u qu Cu D0
            have ek : nI (q_wk O B x y - 1 + 1) = q_w O B x y := by
              rw [show q_wk O B x y - 1 + 1 = q_wk O B x y by omega]
              rfl
            rw [ek] at ev
            refine ⟨v, fK_t qg (fVr_K (fA_Vr qv)), CB_t Cg qv, ?_⟩
            simp (disch := first | assumption | omega) only [hc_ck, hc_gi, hc_gl, hc_gp, ap_I, ap_L, kd_I, kd_L, kd_P, kd_rI, ar_I, ar_L, ar_P, al_I, al_L, al_P, hop_s, cond_true, cond_false, pc_I_I, pc_L_L, pc_P_P, pc_I_L, pc_I_P, pc_L_I, pc_L_P, pc_P_I, pc_P_L, pc_sS_I, pc_sS_L, pc_sS_P, I_rI, L_rI, P_rI, S_rI, cv_r, ci_r, cl_r, o1_b, o1_0, o1_1, lc_e, nI_1, nI_add, if_true, if_false, Nat.reduceEqDiff, Nat.left_eq_add, Nat.add_eq_left, false_and, and_false, true_and, and_true, and_self, eq_self, Lc_k1, Lc_p1_13, Cg.2.1, On_k, Cg.2.2.2.2.2.1, On_allParts, Sa_k, eu]
            refine ev.trans ?_
            unfold q_wr
            split <;> rfl
      · rw [g1_n v]
        rw [← n_1] at e3
        simp (disch := first | assumption | omega) only [hc_ck, hc_gi, hc_gl, hc_gp, ap_I, ap_L, kd_I, kd_L, kd_P, kd_rI, ar_I, ar_L, ar_P, al_I, al_L, al_P, hop_s, cond_true, cond_false, pc_I_I, pc_L_L, pc_P_P, pc_I_L, pc_I_P, pc_L_I, pc_L_P, pc_P_I, pc_P_L, pc_sS_I, pc_sS_L, pc_sS_P, I_rI, L_rI, P_rI, S_rI, cv_r, ci_r, cl_r, o1_b, o1_0, o1_1, lc_e, nI_1, nI_add, if_true, if_false, Nat.reduceEqDiff, Nat.left_eq_add, Nat.add_eq_left, false_and, and_false, true_and, and_true, and_self, eq_self, Lc_k1, e1, e2, e3, cv_e]
        exact QQ_n C
    · rw [g1_n v]
      simp (disch := first | assumption | omega) only [hc_ck, hc_gi, hc_gl, hc_gp, ap_I, ap_L, kd_I, kd_L, kd_P, kd_rI, ar_I, ar_L, ar_P, al_I, al_L, al_P, hop_s, cond_true, cond_false, pc_I_I, pc_L_L, pc_P_P, pc_I_L, pc_I_P, pc_L_I, pc_L_P, pc_P_I, pc_P_L, pc_sS_I, pc_sS_L, pc_sS_P, I_rI, L_rI, P_rI, S_rI, cv_r, ci_r, cl_r, o1_b, o1_0, o1_1, lc_e, nI_1, nI_add, if_true, if_false, Nat.reduceEqDiff, Nat.left_eq_add, Nat.add_eq_left, false_and, and_false, true_and, and_true, and_self, eq_self, Lc_k1, e1, e2, cv_e]
      exact QQ_n C
  · rw [g1_n v]
    simp (disch := first | assumption | omega) only [hc_ck, hc_gi, hc_gl, hc_gp, ap_I, ap_L, kd_I, kd_L, kd_P, kd_rI, ar_I, ar_L, ar_P, al_I, al_L, al_P, hop_s, cond_true, cond_false, pc_I_I, pc_L_L, pc_P_P, pc_I_L, pc_I_P, pc_L_I, pc_L_P, pc_P_I, pc_P_L, pc_sS_I, pc_sS_L, pc_sS_P, I_rI, L_rI, P_rI, S_rI, cv_r, ci_r, cl_r, o1_b, o1_0, o1_1, lc_e, nI_1, nI_add, if_true, if_false, Nat.reduceEqDiff, Nat.left_eq_add, Nat.add_eq_left, false_and, and_false, true_and, and_true, and_self, eq_self, Lc_k1, e1, cv_e]
    exact QQ_n C
