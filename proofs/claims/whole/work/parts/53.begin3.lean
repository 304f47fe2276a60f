/-! ===== rows filled; begin; derive as a whole ===== -/
theorem Ar_fillL {h : am_H} {a n : Nat} (hs : (am_S h)[a]? = some (10, n)) (hn : n < 2147483648) (v : Int64) (d : Nat) : ∃ h', f_Ar_fillL d h a v = some (.inr none, h') ∧ fX (fun b => b = a) h h' ∧ (∀ j, j < n → am_L h' a j = v) := by
  have key : ∀ k, k ≤ n → ∀ u : am_H, fX (fun b => b = a) h u → (∀ j, j < k → am_L u a j = v) → ∃ h', f_Ar_fillL_6 d u a v (nI k) (nI n) = some (.inr none, h') ∧ fX (fun b => b = a) h h' ∧ (∀ j, j < n → am_L h' a j = v) := by
    refine dn ?_ ?_
    · intro u q hj
      refine ⟨u, ?_, q, hj⟩
      rw [e_Ar_fillL_6]
      simp (disch := first | assumption | omega) only [hc_ck, hc_gi, hc_gl, hc_gp, hc_ap, kd_I, kd_L, kd_P, kd_rI, ar_I, ar_L, ar_P, al_I, al_L, al_P, hop_s, cond_true, cond_false, pc_I_I, pc_L_L, pc_P_P, pc_I_L, pc_I_P, pc_L_I, pc_L_P, pc_P_I, pc_P_L, pc_sS_I, pc_sS_L, pc_sS_P, I_rI, L_rI, P_rI, S_rI, cv_r, ci_r, cl_r, o1_b, o1_0, o1_1, lc_e, nI_1, nI_add, if_true, if_false, Nat.reduceEqDiff, Nat.left_eq_add, Nat.add_eq_left, false_and, and_false, true_and, and_true, and_self, eq_self, n_le, Nat.le_refl]
    · intro k hk ih u q hj
      have hs' : (am_S u)[a]? = some (10, n) := by rw [q.2.2.1]; exact hs
      have hk3 : ¬ n ≤ k := by omega
      rw [e_Ar_fillL_6]
      simp (disch := first | assumption | omega) only [hc_ck, hc_gi, hc_gl, hc_gp, hc_ap, kd_I, kd_L, kd_P, kd_rI, ar_I, ar_L, ar_P, al_I, al_L, al_P, hop_s, cond_true, cond_false, pc_I_I, pc_L_L, pc_P_P, pc_I_L, pc_I_P, pc_L_I, pc_L_P, pc_P_I, pc_P_L, pc_sS_I, pc_sS_L, pc_sS_P, I_rI, L_rI, P_rI, S_rI, cv_r, ci_r, cl_r, o1_b, o1_0, o1_1, lc_e, nI_1, nI_add, if_true, if_false, Nat.reduceEqDiff, Nat.left_eq_add, Nat.add_eq_left, false_and, and_false, true_and, and_true, and_self, eq_self, n_le, hk3]
      rw [ar_n hs' hk hn]
      refine ih _ (fX_w q rfl _ _) ?_
      intro j hj'
      rw [pc_L_L]
      by_cases e : j = k
      · rw [if_pos ⟨rfl, e⟩]
      · rw [if_neg (by omega)]
        exact hj j (by omega)
  rw [e_Ar_fillL, al_n hs (by omega)]
  exact key 0 (Nat.zero_le _) h (fX_r _ _) (fun j hj => absurd hj (Nat.not_lt_zero j))
/-- of s all may change but the shape -/
def fA (s : Nat) (h h' : am_H) : Prop := am_S h' = am_S h ∧ am_G h' = am_G h ∧ am_T h' = am_T h ∧ (∀ b, b < s ∨ s + 12 ≤ b → am_I h' b = am_I h b ∧ am_L h' b = am_L h b) ∧ (∀ b j, b ≠ s ∨ j ≠ 0 → am_P h' b j = am_P h b j)
theorem fA_r (s : Nat) (h : am_H) : fA s h h := ⟨rfl, rfl, rfl, fun _ _ => ⟨rfl, rfl⟩, fun _ _ _ => rfl⟩
theorem fA_t {s : Nat} {a b c : am_H} (h1 : fA s a b) (h2 : fA s b c) : fA s a c := by
  obtain ⟨a1, a2, a3, a4, a5⟩ := h1
  obtain ⟨b1, b2, b3, b4, b5⟩ := h2
  exact ⟨b1.trans a1, b2.trans a2, b3.trans a3, fun x hx => ⟨(b4 x hx).1.trans (a4 x hx).1, (b4 x hx).2.trans (a4 x hx).2⟩, fun x j hx => (b5 x j hx).trans (a5 x j hx)⟩
theorem fL_A {s : Nat} {h h' : am_H} (q : fL s h h') : fA s h h' := ⟨q.2.2.1, q.2.2.2.1, q.2.2.2.2.1, fun b hb => ⟨by rw [q.1], q.2.2.2.2.2.1 b hb⟩, fun b j _ => by rw [q.2.1]⟩
theorem fI_A {s : Nat} {h h' : am_H} (q : fI s h h') : fA s h h' := ⟨q.2.2.1, q.2.2.2.1, q.2.2.2.2.1, fun b hb => ⟨q.2.2.2.2.2.1 b hb, by rw [q.1]⟩, fun b j _ => by rw [q.2.1]⟩
theorem fA_at {s : Nat} {h h' : am_H} (q : fA s h h') (H : SaAt h s) : SaAt h' s := SaAt_of H q.1 (fun j hj => q.2.2.2.2 s j (Or.inr hj))
theorem fA_on {s o : Nat} {O : o_T} {h h' : am_H} (q : fA s h h') (hd : o + 17 ≤ s ∨ s + 12 ≤ o) (H : OnR h o O) : OnR h' o O := OnR_of H q.1 (fun j hj => by funext i; exact q.2.2.2.2 _ i (Or.inl (by omega))) (fun j hj => (q.2.2.2.1 _ (by omega)).1)
theorem SaD_c {h : am_H} {s : Nat} {O : o_T} {B T T' : Nat → Prop} {A A' : Nat → Nat → Prop} {K K' : Nat → Nat → Nat → Prop} {nA nA' : Nat → Int64} {nK nK' : Nat → Nat → Int64} (D : SaD h s O B T A K nA nK) (hT : ∀ x, T x ↔ T' x) (hP : ∀ x, T x → x < o_P O) (hA : ∀ x y, T x → (A x y ↔ A' x y)) (hK : ∀ x r y, T x → (K x r y ↔ K' x r y)) (hn : ∀ x, T x → nA x = nA' x) (hk : ∀ x r, T x → nK x r = nK' x r) : SaD h s O B T' A' K' nA' nK' := by
  obtain ⟨D1, D2, D3⟩ := D
  refine ⟨?_, ?_, ?_⟩
  · rw [D1]
    exact wL_cong (fun x _ => hT x)
  · intro x hx Tx
    have Tx' := (hT x).mpr Tx
    obtain ⟨b1, b2, b3, b4⟩ := D2 x hx Tx'
    refine ⟨?_, ?_, ?_, ?_⟩
    · rw [b1]
      exact wL_cong (fun y _ => hA x y Tx')
    · rw [b2]
      exact wL_cong (fun y _ => ⟨fun ⟨r, c⟩ => ⟨r, (hK x r y Tx').mp c⟩, fun ⟨r, c⟩ => ⟨r, (hK x r y Tx').mpr c⟩⟩)
    · rw [b3]
      exact hn x Tx'
    · intro r hr
      obtain ⟨c1, c2, c3⟩ := b4 r hr
      refine ⟨?_, ?_, ?_⟩
      · rw [c1]
        exact wL_cong (fun y _ => hK x r y Tx')
      · rw [c2]
        exact wL_cong (fun y _ => ⟨fun ⟨r, e, c⟩ => ⟨r, e, (hK x r y Tx').mp c⟩, fun ⟨r, e, c⟩ => ⟨r, e, (hK x r y Tx').mpr c⟩⟩)
      · rw [c3]
        exact hk x r Tx'
  · intro y hy
    rw [D3 y hy]
    exact wL_cong (fun x _ => ⟨fun c => ⟨(hT x).mp c.1, (hA x y c.1).mp c.2⟩, fun c => ⟨(hT x).mpr c.1, (hA x y ((hT x).mpr c.1)).mpr c.2⟩⟩)
theorem Sa_begin {h : am_H} {s o : Nat} {O : o_T} (H1 : SaAt h s) (H2 : OnR h o O) (hd : o + 17 ≤ s ∨ s + 12 ≤ o) (B S : Nat → Prop) (hS : ∀ x, S x → x < o_P O) (d : Nat) :
    ∃ h', f_Sa_begin (d + 2) h s o (wL B) (wL S) = some (.inr none, h') ∧ fA s h h' ∧ SaC h' s o O B ∧ SaD h' s O B S (fun x y => S x ∧ (y = x ∨ y = 0)) (fun _ _ _ => False) (fun _ => 0) (fun _ _ => 0) := by
  have H3 := OnR_at H2
  rw [e_Sa_begin]
  have hne : ∀ j, j < 17 → ¬ o + j = s := fun j hj => by omega
  have hne0 : ¬ o = s := by omega
  have hne3 : ¬ o + 3 = s := by omega
  simp (disch := first | assumption | omega) only [hc_ck, hc_gi, hc_gl, hc_gp, hc_ap, kd_I, kd_L, kd_P, kd_rI, ar_I, ar_L, ar_P, al_I, al_L, al_P, hop_s, cond_true, cond_false, pc_I_I, pc_L_L, pc_P_P, pc_I_L, pc_I_P, pc_L_I, pc_L_P, pc_P_I, pc_P_L, pc_sS_I, pc_sS_L, pc_sS_P, I_rI, L_rI, P_rI, S_rI, cv_r, ci_r, cl_r, o1_b, o1_0, o1_1, lc_e, nI_1, nI_add, if_true, if_false, Nat.reduceEqDiff, Nat.left_eq_add, Nat.add_eq_left, false_and, and_false, true_and, and_true, and_self, eq_self, Sa_k, On_k, OnR_P, OnR_R, On_p1, On_k3, hne0, hne3]
  have q0 : fA s h (am_sI (am_sI (am_sL (am_sL (am_sP h s 0 (some o)) s 1 (wL B)) s 4 0) s 2 (nI (o_P O))) s 3 (nI (o_R O))) := by
    refine ⟨rfl, rfl, rfl, fun b hb => ⟨?_, ?_⟩, fun b j hb => ?_⟩
    · funext j
      simp only [hc_ck, hc_gi, hc_gl, hc_gp, hc_ap, kd_I, kd_L, kd_P, kd_rI, ar_I, ar_L, ar_P, al_I, al_L, al_P, hop_s, cond_true, cond_false, pc_I_I, pc_L_L, pc_P_P, pc_I_L, pc_I_P, pc_L_I, pc_L_P, pc_P_I, pc_P_L, pc_sS_I, pc_sS_L, pc_sS_P, I_rI, L_rI, P_rI, S_rI, cv_r, ci_r, cl_r, o1_b, o1_0, o1_1, lc_e, nI_1, nI_add, if_true, if_false, Nat.reduceEqDiff, Nat.left_eq_add, Nat.add_eq_left, false_and, and_false, true_and, and_true, and_self, eq_self]
      rw [if_neg (by omega), if_neg (by omega)]
    · funext j
      simp only [hc_ck, hc_gi, hc_gl, hc_gp, hc_ap, kd_I, kd_L, kd_P, kd_rI, ar_I, ar_L, ar_P, al_I, al_L, al_P, hop_s, cond_true, cond_false, pc_I_I, pc_L_L, pc_P_P, pc_I_L, pc_I_P, pc_L_I, pc_L_P, pc_P_I, pc_P_L, pc_sS_I, pc_sS_L, pc_sS_P, I_rI, L_rI, P_rI, S_rI, cv_r, ci_r, cl_r, o1_b, o1_0, o1_1, lc_e, nI_1, nI_add, if_true, if_false, Nat.reduceEqDiff, Nat.left_eq_add, Nat.add_eq_left, false_and, and_false, true_and, and_true, and_self, eq_self]
      rw [if_neg (by omega), if_neg (by omega)]
    · simp only [hc_ck, hc_gi, hc_gl, hc_gp, hc_ap, kd_I, kd_L, kd_P, kd_rI, ar_I, ar_L, ar_P, al_I, al_L, al_P, hop_s, cond_true, cond_false, pc_I_I, pc_L_L, pc_P_P, pc_I_L, pc_I_P, pc_L_I, pc_L_P, pc_P_I, pc_P_L, pc_sS_I, pc_sS_L, pc_sS_P, I_rI, L_rI, P_rI, S_rI, cv_r, ci_r, cl_r, o1_b, o1_0, o1_1, lc_e, nI_1, nI_add, if_true, if_false, Nat.reduceEqDiff, Nat.left_eq_add, Nat.add_eq_left, false_and, and_false, true_and, and_true, and_self, eq_self]
      rw [if_neg (by omega)]
  have HB : SaB (am_sI (am_sI (am_sL (am_sL (am_sP h s 0 (some o)) s 1 (wL B)) s 4 0) s 2 (nI (o_P O))) s 3 (nI (o_R O))) s o O B := by
    refine ⟨fA_at q0 H1, fA_on q0 hd H2, ?_, ?_, ?_, ?_, hd⟩
    · simp only [hc_ck, hc_gi, hc_gl, hc_gp, hc_ap, kd_I, kd_L, kd_P, kd_rI, ar_I, ar_L, ar_P, al_I, al_L, al_P, hop_s, cond_true, cond_false, pc_I_I, pc_L_L, pc_P_P, pc_I_L, pc_I_P, pc_L_I, pc_L_P, pc_P_I, pc_P_L, pc_sS_I, pc_sS_L, pc_sS_P, I_rI, L_rI, P_rI, S_rI, cv_r, ci_r, cl_r, o1_b, o1_0, o1_1, lc_e, nI_1, nI_add, if_true, if_false, Nat.reduceEqDiff, Nat.left_eq_add, Nat.add_eq_left, false_and, and_false, true_and, and_true, and_self, eq_self]
    · simp only [hc_ck, hc_gi, hc_gl, hc_gp, hc_ap, kd_I, kd_L, kd_P, kd_rI, ar_I, ar_L, ar_P, al_I, al_L, al_P, hop_s, cond_true, cond_false, pc_I_I, pc_L_L, pc_P_P, pc_I_L, pc_I_P, pc_L_I, pc_L_P, pc_P_I, pc_P_L, pc_sS_I, pc_sS_L, pc_sS_P, I_rI, L_rI, P_rI, S_rI, cv_r, ci_r, cl_r, o1_b, o1_0, o1_1, lc_e, nI_1, nI_add, if_true, if_false, Nat.reduceEqDiff, Nat.left_eq_add, Nat.add_eq_left, false_and, and_false, true_and, and_true, and_self, eq_self]
    · simp only [hc_ck, hc_gi, hc_gl, hc_gp, hc_ap, kd_I, kd_L, kd_P, kd_rI, ar_I, ar_L, ar_P, al_I, al_L, al_P, hop_s, cond_true, cond_false, pc_I_I, pc_L_L, pc_P_P, pc_I_L, pc_I_P, pc_L_I, pc_L_P, pc_P_I, pc_P_L, pc_sS_I, pc_sS_L, pc_sS_P, I_rI, L_rI, P_rI, S_rI, cv_r, ci_r, cl_r, o1_b, o1_0, o1_1, lc_e, nI_1, nI_add, if_true, if_false, Nat.reduceEqDiff, Nat.left_eq_add, Nat.add_eq_left, false_and, and_false, true_and, and_true, and_self, eq_self]
    · simp only [hc_ck, hc_gi, hc_gl, hc_gp, hc_ap, kd_I, kd_L, kd_P, kd_rI, ar_I, ar_L, ar_P, al_I, al_L, al_P, hop_s, cond_true, cond_false, pc_I_I, pc_L_L, pc_P_P, pc_I_L, pc_I_P, pc_L_I, pc_L_P, pc_P_I, pc_P_L, pc_sS_I, pc_sS_L, pc_sS_P, I_rI, L_rI, P_rI, S_rI, cv_r, ci_r, cl_r, o1_b, o1_0, o1_1, lc_e, nI_1, nI_add, if_true, if_false, Nat.reduceEqDiff, Nat.left_eq_add, Nat.add_eq_left, false_and, and_false, true_and, and_true, and_self, eq_self]
  have e4 : am_L (am_sI (am_sI (am_sL (am_sL (am_sP h s 0 (some o)) s 1 (wL B)) s 4 0) s 2 (nI (o_P O))) s 3 (nI (o_R O))) s 4 = 0 := by simp only [hc_ck, hc_gi, hc_gl, hc_gp, hc_ap, kd_I, kd_L, kd_P, kd_rI, ar_I, ar_L, ar_P, al_I, al_L, al_P, hop_s, cond_true, cond_false, pc_I_I, pc_L_L, pc_P_P, pc_I_L, pc_I_P, pc_L_I, pc_L_P, pc_P_I, pc_P_L, pc_sS_I, pc_sS_L, pc_sS_P, I_rI, L_rI, P_rI, S_rI, cv_r, ci_r, cl_r, o1_b, o1_0, o1_1, lc_e, nI_1, nI_add, if_true, if_false, Nat.reduceEqDiff, Nat.left_eq_add, Nat.add_eq_left, false_and, and_false, true_and, and_true, and_self, eq_self]
  generalize am_sI (am_sI (am_sL (am_sL (am_sP h s 0 (some o)) s 1 (wL B)) s 4 0) s 2 (nI (o_P O))) s 3 (nI (o_R O)) = g at *
  obtain ⟨u, eu, qu, Hu⟩ := Sa_sortAxioms HB d
  have H1u := SaC_at Hu
  rw [eu]
  simp (disch := first | assumption | omega) only [hc_ck, hc_gi, hc_gl, hc_gp, hc_ap, kd_I, kd_L, kd_P, kd_rI, ar_I, ar_L, ar_P, al_I, al_L, al_P, hop_s, cond_true, cond_false, pc_I_I, pc_L_L, pc_P_P, pc_I_L, pc_I_P, pc_L_I, pc_L_P, pc_P_I, pc_P_L, pc_sS_I, pc_sS_L, pc_sS_P, I_rI, L_rI, P_rI, S_rI, cv_r, ci_r, cl_r, o1_b, o1_0, o1_1, lc_e, nI_1, nI_add, if_true, if_false, Nat.reduceEqDiff, Nat.left_eq_add, Nat.add_eq_left, false_and, and_false, true_and, and_true, and_self, eq_self, Sa_k, Sa_p12]
  obtain ⟨v, ev, qv, hv⟩ := Ar_fillL H1u.2.2.2.2.2.2.2.2.2.2.2.2.2.2.2.2.2.1 (by omega) 0 (d + 1)
  have qvL := fX_L (s := s) qv (fun b hb => by omega)
  have Hv := SaC_f Hu qvL
  have H1v := SaC_at Hv
  rw [ev]
  simp (disch := first | assumption | omega) only [hc_ck, hc_gi, hc_gl, hc_gp, hc_ap, kd_I, kd_L, kd_P, kd_rI, ar_I, ar_L, ar_P, al_I, al_L, al_P, hop_s, cond_true, cond_false, pc_I_I, pc_L_L, pc_P_P, pc_I_L, pc_I_P, pc_L_I, pc_L_P, pc_P_I, pc_P_L, pc_sS_I, pc_sS_L, pc_sS_P, I_rI, L_rI, P_rI, S_rI, cv_r, ci_r, cl_r, o1_b, o1_0, o1_1, lc_e, nI_1, nI_add, if_true, if_false, Nat.reduceEqDiff, Nat.left_eq_add, Nat.add_eq_left, false_and, and_false, true_and, and_true, and_self, eq_self, Sa_k]
  have hP := H2.2.1.2.2.2.1
  have Dv : SaD v s O B (fun _ => False) (fun _ _ => False) (fun _ _ _ => False) (fun _ => 0) (fun _ _ => 0) := by
    refine ⟨?_, fun x _ f => f.elim, ?_⟩
    · rw [qv.2.2.2.2.2 s (by omega), qu.1, e4]
      exact (wL_0.mpr (fun _ _ => id)).symm
    · intro y hy
      rw [hv y (by omega)]
      exact (wL_0.mpr (fun _ _ f => f.1)).symm
  obtain ⟨w, ew, qw, Dw⟩ := Sa_activate Hv Dv S hS (fun _ _ f => f) (fun _ _ _ f => f) (d + 1)
  rw [ew]
  simp only [cv_r]
  refine ⟨w, rfl, fA_t q0 (fA_t (fI_A qu) (fA_t (fL_A qvL) (fL_A qw))), SaC_f Hv qw, ?_⟩
  refine SaD_c Dw (fun x => ⟨fun c => c.elim False.elim id, Or.inr⟩) (fun x c => hS x (c.elim False.elim id)) ?_ (fun _ _ _ _ => Iff.rfl) (fun _ _ => rfl) (fun _ _ _ => rfl)
  intro x y _
  exact ⟨fun c => c.elim False.elim (fun e => e.2), fun c => Or.inr ⟨id, c⟩⟩
theorem Sa_isVoid {h : am_H} {s : Nat} {P : Nat → Prop} (H : SaAt h s) {x : Nat} (hx : x < 60) (e : am_L h (s + 5) x = wL P) (d : Nat) : ∃ b, f_Sa_isVoid d h s (nI x) = some (.inr (some (.int (bo b))), h) ∧ (b = true ↔ P 1) := by
  refine ⟨xl (wL P) 1, ?_, ?_⟩
  · rw [e_Sa_isVoid]
    simp (disch := first | assumption | omega) only [hc_ck, hc_gi, hc_gl, hc_gp, hc_ap, kd_I, kd_L, kd_P, kd_rI, ar_I, ar_L, ar_P, al_I, al_L, al_P, hop_s, cond_true, cond_false, pc_I_I, pc_L_L, pc_P_P, pc_I_L, pc_I_P, pc_L_I, pc_L_P, pc_P_I, pc_P_L, pc_sS_I, pc_sS_L, pc_sS_P, I_rI, L_rI, P_rI, S_rI, cv_r, ci_r, cl_r, o1_b, o1_0, o1_1, lc_e, nI_1, nI_add, if_true, if_false, Nat.reduceEqDiff, Nat.left_eq_add, Nat.add_eq_left, false_and, and_false, true_and, and_true, and_self, eq_self, Sa_k, Sa_p11, Sa_r5, n_1, xl_t0, e]
    cases xl (wL P) 1 <;> rfl
  · rw [wL_x]
    exact ⟨fun c => c.2, fun c => ⟨by omega, c⟩⟩
theorem Sa_isBelow {h : am_H} {s : Nat} {P : Nat → Prop} (H : SaAt h s) {x y : Nat} (hx : x < 60) (hy : y < 60) (e : am_L h (s + 5) x = wL P) (d : Nat) : ∃ b, f_Sa_isBelow (d + 1) h s (nI x) (nI y) = some (.inr (some (.int (bo b))), h) ∧ (b = true ↔ P y ∨ P 1) := by
  obtain ⟨b, eb, hb⟩ := Sa_isVoid H hx e d
  refine ⟨xl (wL P) y || b, ?_, ?_⟩
  · rw [e_Sa_isBelow]
    simp (disch := first | assumption | omega) only [hc_ck, hc_gi, hc_gl, hc_gp, hc_ap, kd_I, kd_L, kd_P, kd_rI, ar_I, ar_L, ar_P, al_I, al_L, al_P, hop_s, cond_true, cond_false, pc_I_I, pc_L_L, pc_P_P, pc_I_L, pc_I_P, pc_L_I, pc_L_P, pc_P_I, pc_P_L, pc_sS_I, pc_sS_L, pc_sS_P, I_rI, L_rI, P_rI, S_rI, cv_r, ci_r, cl_r, o1_b, o1_0, o1_1, lc_e, nI_1, nI_add, if_true, if_false, Nat.reduceEqDiff, Nat.left_eq_add, Nat.add_eq_left, false_and, and_false, true_and, and_true, and_self, eq_self, Sa_k, Sa_p11, Sa_r5, xl_t0, e, eb, bo_0]
    cases xl (wL P) y <;> cases b <;> rfl
  · rw [Bool.or_eq_true, hb, wL_x]
    exact ⟨fun c => c.imp And.right id, fun c => c.imp (fun d => ⟨by omega, d⟩) id⟩
theorem Sa_deriveD {h : am_H} {s o : Nat} {O : o_T} {B T : Nat → Prop} {A : Nat → Nat → Prop} {K : Nat → Nat → Nat → Prop} {nA : Nat → Int64} {nK : Nat → Nat → Int64} (H : SaC h s o O B) (D : SaD h s O B T A K nA nK) {x : Nat} (hx : x < o_P O) (Tx : T x) (hT : ∀ r z, K x r z → T z ∧ z < o_P O) (hz : ∀ r, r < o_R O → nK x r = 0) (d : Nat) :
    ∃ h', f_Sa_derive (d + 1) h s (nI x) = some (.inr none, h') ∧ fL s h h' ∧ SaD h' s O B T A K (fun a => if a = x then wL (fun y => r_A O B A K x y ∧ ¬ A x y) else nA a) (fun a r => if a = x then wL (r_K O B A K x r) else nK a r) := by
  obtain ⟨g, eg, qg, gA, gAj, gK, gKj⟩ := Sa_derive H D hx Tx hT hz d
  have hR := H.2.1.2.1.2.1
  obtain ⟨D1, D2, D3⟩ := D
  refine ⟨g, eg, fX_L qg (fun b hb => by omega), ?_, ?_, ?_⟩
  · rw [qg.2.2.2.2.2 s (by omega)]; exact D1
  · intro a ha Ta
    obtain ⟨b1, b2, b3, b4⟩ := D2 a ha Ta
    refine ⟨?_, ?_, ?_, ?_⟩
    · rw [qg.2.2.2.2.2 (s + 5) (by omega)]; exact b1
    · rw [qg.2.2.2.2.2 (s + 9) (by omega)]; exact b2
    · by_cases e : a = x
      · subst e
        exact gA.trans (if_pos rfl).symm
      · exact (gAj a e).trans (b3.trans (if_neg e).symm)
    · intro r hr
      obtain ⟨c1, c2, c3⟩ := b4 r hr
      refine ⟨?_, ?_, ?_⟩
      · rw [qg.2.2.2.2.2 (s + 7) (by omega)]; exact c1
      · rw [qg.2.2.2.2.2 (s + 8) (by omega)]; exact c2
      · by_cases e : a = x
        · subst e
          exact (gK r hr).trans (if_pos rfl).symm
        · exact (gKj _ (by omega)).trans (c3.trans (if_neg e).symm)
  · intro y hy
    rw [qg.2.2.2.2.2 (s + 6) (by omega)]; exact D3 y hy
