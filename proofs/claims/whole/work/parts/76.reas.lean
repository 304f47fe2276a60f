/-! ===== the class's reasons: what is left, what is needed, what frees ===== -/
theorem fA_lc {s : Nat} (hs : s = 42 ∨ s = 61) {h h' : am_H} (q : fA s h h') (H : LcAt h) : LcAt h' := LcAt_of H q.1 (fun b j p => q.2.2.2.2 b j (by unfold mP at p; omega))
theorem wL_rm {S : Nat → Prop} {k : Nat} (hk : k < 64) : wL S &&& (am_lshl 1 (nI k) ^^^ (-1)) = wL (m_rm S k) := by
  rw [wL_b1 hk, wL_an]
  exact wL_cong (fun j _ => Iff.rfl)
theorem wL_rme {S : Nat → Prop} {k : Nat} (hk : k < 64) : (wL (m_rm S k) = wL S) = ¬ S k := by
  apply propext
  constructor
  · intro e c
    exact ((wL_e e hk).mpr c).2 rfl
  · intro c
    exact wL_cong (fun j _ => ⟨And.left, fun q => ⟨q, fun e => c (e ▸ q)⟩⟩)
theorem wL_m1 {S : Nat → Prop} (h : ∀ k, S k → k < 32) : ¬ wL S = -1 := by
  intro e
  have : xl (wL S) 40 = xl (-1) 40 := by rw [e]
  rw [xl_m1 40 (by omega)] at this
  have := h 40 (wL_x.mp this).2
  omega
/-- the reasons' question stands: x below y by the axioms of o, U those that have a say -/
def RsC (h : am_H) (o : Nat) (O : o_T) (x y : Nat) (U : Nat → Prop) : Prop := LcAt h ∧ OnR h o O ∧ (o = 3 ∨ o = 20) ∧ am_P h 74 4 = some o ∧ am_I h 74 5 = nI x ∧ am_I h 74 6 = nI y ∧ am_L h 74 9 = wL U ∧ x < o_P O ∧ y < o_P O
theorem RsC_f {h h' : am_H} {o : Nat} {O : o_T} {x y : Nat} {U : Nat → Prop} (C : RsC h o O x y U) (q : fA 61 h h') : RsC h' o O x y U := by
  obtain ⟨c1, c2, c3, c4, c5, c6, c7, c8⟩ := C
  refine ⟨fA_lc (Or.inr rfl) q c1, fA_on q (by omega) c2, c3, ?_, ?_, ?_, ?_, c8⟩
  · rw [q.2.2.2.2 74 4 (by omega)]; exact c4
  · rw [(q.2.2.2.1 74 (by omega)).1]; exact c5
  · rw [(q.2.2.2.1 74 (by omega)).1]; exact c6
  · rw [(q.2.2.2.1 74 (by omega)).2]; exact c7
theorem Rs_holds {h : am_H} {o : Nat} {O : o_T} {x y : Nat} {U : Nat → Prop} (C : RsC h o O x y U) (S : Nat → Prop) (d : Nat) : ∃ (h' : am_H) (b : Bool), f_Rs_holds (d + 4) h 74 (wL S) = some (.inr (some (.int (bo b))), h') ∧ fA 61 h h' ∧ (b = true ↔ l_be O S x y) := by
  obtain ⟨H, Ho, ho, e4, e5, e6, e9, hx, hy⟩ := C
  have Ht := Lc_t H
  obtain ⟨g, b, eg, qg, hb⟩ := Sa_entails Ht Ho (by omega) S hx hy d
  refine ⟨g, b, ?_, qg, hb⟩
  rw [e_Rs_holds]
  simp (disch := first | assumption | omega) only [hc_ck, hc_gi, hc_gl, hc_gp, ap_I, ap_L, kd_I, kd_L, kd_P, kd_rI, ar_I, ar_L, ar_P, al_I, al_L, al_P, hop_s, cond_true, cond_false, pc_I_I, pc_L_L, pc_P_P, pc_I_L, pc_I_P, pc_L_I, pc_L_P, pc_P_I, pc_P_L, pc_sS_I, pc_sS_L, pc_sS_P, I_rI, L_rI, P_rI, S_rI, cv_r, ci_r, cl_r, o1_b, o1_0, o1_1, lc_e, nI_1, nI_add, if_true, if_false, Nat.reduceEqDiff, Nat.left_eq_add, Nat.add_eq_left, false_and, and_false, true_and, and_true, and_self, eq_self, Lc_k74, Lc_p74_3, e4, e5, e6, Sa_k, eg]
theorem Rs_shrink {h : am_H} {o : Nat} {O : o_T} {x y : Nat} {U : Nat → Prop} (C : RsC h o O x y U) (S : Nat → Prop) (d : Nat) : ∃ h', f_Rs_shrink (d + 5) h 74 (wL S) = some (.inr (some (.long (wL (m_sh (fun T => l_be O T x y) (o_A O) S)))), h') ∧ fA 61 h h' := by
  have okA := C.2.1.2.1.2.2.2.2.1
  have key : ∀ k, k ≤ o_A O → ∀ u : am_H, fA 61 h u → ∃ h', f_Rs_shrink_5 (d + 5) u 74 (wL (m_sh (fun T => l_be O T x y) k S)) (nI k) = some (.inr (some (.long (wL (m_sh (fun T => l_be O T x y) (o_A O) S)))), h') ∧ fA 61 h h' := by
    refine dn ?_ ?_
    · intro u q
      have Cu := RsC_f C q
      have H1 := Cu.1
      have H2 := Cu.2.1
      have H3 := OnR_at H2
      refine ⟨u, ?_, q⟩
      rw [e_Rs_shrink_5]
      simp (disch := first | assumption | omega) only [hc_ck, hc_gi, hc_gl, hc_gp, ap_I, ap_L, kd_I, kd_L, kd_P, kd_rI, ar_I, ar_L, ar_P, al_I, al_L, al_P, hop_s, cond_true, cond_false, pc_I_I, pc_L_L, pc_P_P, pc_I_L, pc_I_P, pc_L_I, pc_L_P, pc_P_I, pc_P_L, pc_sS_I, pc_sS_L, pc_sS_P, I_rI, L_rI, P_rI, S_rI, cv_r, ci_r, cl_r, o1_b, o1_0, o1_1, lc_e, nI_1, nI_add, if_true, if_false, Nat.reduceEqDiff, Nat.left_eq_add, Nat.add_eq_left, false_and, and_false, true_and, and_true, and_self, eq_self, Lc_k74, Cu.2.2.2.1, On_k, OnR_A, n_le, Nat.le_refl]
    · intro k hk ih u q
      have Cu := RsC_f C q
      have H1 := Cu.1
      have H2 := Cu.2.1
      have H3 := OnR_at H2
      have hk3 : ¬ o_A O ≤ k := by omega
      rw [e_Rs_shrink_5]
      simp (disch := first | assumption | omega) only [hc_ck, hc_gi, hc_gl, hc_gp, ap_I, ap_L, kd_I, kd_L, kd_P, kd_rI, ar_I, ar_L, ar_P, al_I, al_L, al_P, hop_s, cond_true, cond_false, pc_I_I, pc_L_L, pc_P_P, pc_I_L, pc_I_P, pc_L_I, pc_L_P, pc_P_I, pc_P_L, pc_sS_I, pc_sS_L, pc_sS_P, I_rI, L_rI, P_rI, S_rI, cv_r, ci_r, cl_r, o1_b, o1_0, o1_1, lc_e, nI_1, nI_add, if_true, if_false, Nat.reduceEqDiff, Nat.left_eq_add, Nat.add_eq_left, false_and, and_false, true_and, and_true, and_self, eq_self, Lc_k74, Cu.2.2.2.1, On_k, OnR_A, n_le, hk3, wL_rm]
      by_cases c : m_sh (fun T => l_be O T x y) k S k
      · rw [if_neg (by rw [wL_rme (by omega)]; exact fun e => e c)]
        obtain ⟨v, b, ev, qv, hb⟩ := Rs_holds Cu (m_rm (m_sh (fun T => l_be O T x y) k S) k) d
        simp (disch := first | assumption | omega) only [hc_ck, hc_gi, hc_gl, hc_gp, ap_I, ap_L, kd_I, kd_L, kd_P, kd_rI, ar_I, ar_L, ar_P, al_I, al_L, al_P, hop_s, cond_true, cond_false, pc_I_I, pc_L_L, pc_P_P, pc_I_L, pc_I_P, pc_L_I, pc_L_P, pc_P_I, pc_P_L, pc_sS_I, pc_sS_L, pc_sS_P, I_rI, L_rI, P_rI, S_rI, cv_r, ci_r, cl_r, o1_b, o1_0, o1_1, lc_e, nI_1, nI_add, if_true, if_false, Nat.reduceEqDiff, Nat.left_eq_add, Nat.add_eq_left, false_and, and_false, true_and, and_true, and_self, eq_self, ev, bo_0]
        cases b with
        | true =>
          simp only [Bool.true_eq_false, if_false]
          rw [show wL (m_rm (m_sh (fun T => l_be O T x y) k S) k) = wL (m_sh (fun T => l_be O T x y) (k + 1) S) from wL_cong (fun j _ => ⟨fun e => ⟨e.1, fun q => e.2 q.1⟩, fun e => ⟨e.1, fun q => e.2 ⟨q, hb.mp rfl⟩⟩⟩)]
          exact ih v (fA_t q qv)
        | false =>
          simp only [if_true]
          rw [show wL (m_sh (fun T => l_be O T x y) k S) = wL (m_sh (fun T => l_be O T x y) (k + 1) S) from wL_cong (fun j _ => ⟨fun e => ⟨e, fun q => absurd (hb.mpr q.2) (by decide)⟩, And.left⟩)]
          exact ih v (fA_t q qv)
      · rw [if_pos (by rw [wL_rme (by omega)]; exact c)]
        rw [show wL (m_sh (fun T => l_be O T x y) k S) = wL (m_sh (fun T => l_be O T x y) (k + 1) S) from wL_cong (fun j _ => ⟨fun e => ⟨e, fun q => c (q.1 ▸ e)⟩, And.left⟩)]
        exact ih u q
  rw [e_Rs_shrink]
  exact key 0 (Nat.zero_le _) h (fA_r _ _)
theorem Rs_neededAlone {h : am_H} {o : Nat} {O : o_T} {x y : Nat} {U : Nat → Prop} (C : RsC h o O x y U) {so : Bool} (h8 : am_I h 74 8 = bo so) (d : Nat) : ∃ h', f_Rs_neededAlone (d + 5) h 74 = some (.inr (some (.long (wL (fun k => so = true ∧ k < o_A O ∧ U k ∧ ¬ l_be O (m_rm U k) x y)))), h') ∧ fA 61 h h' := by
  have okA := C.2.1.2.1.2.2.2.2.1
  have key : ∀ k, k ≤ o_A O → ∀ (u : am_H) (w : Int64), fA 61 h u → w = wL (fun j => ∃ p, p < k ∧ (p = j ∧ U j ∧ ¬ l_be O (m_rm U j) x y)) → so = true → ∃ h', f_Rs_neededAlone_4 (d + 5) u 74 w (nI k) = some (.inr (some (.long (wL (fun k => so = true ∧ k < o_A O ∧ U k ∧ ¬ l_be O (m_rm U k) x y)))), h') ∧ fA 61 h h' := by
    refine dn ?_ ?_
    · intro u w q hw hso
      have Cu := RsC_f C q
      have H1 := Cu.1
      have H2 := Cu.2.1
      have H3 := OnR_at H2
      have e8 : am_I u 74 8 = bo true := by rw [(q.2.2.2.1 74 (by omega)).1, h8, hso]
      refine ⟨u, ?_, q⟩
      rw [e_Rs_neededAlone_4]
      simp (disch := first | assumption | omega) only [hc_ck, hc_gi, hc_gl, hc_gp, ap_I, ap_L, kd_I, kd_L, kd_P, kd_rI, ar_I, ar_L, ar_P, al_I, al_L, al_P, hop_s, cond_true, cond_false, pc_I_I, pc_L_L, pc_P_P, pc_I_L, pc_I_P, pc_L_I, pc_L_P, pc_P_I, pc_P_L, pc_sS_I, pc_sS_L, pc_sS_P, I_rI, L_rI, P_rI, S_rI, cv_r, ci_r, cl_r, o1_b, o1_0, o1_1, lc_e, nI_1, nI_add, if_true, if_false, Nat.reduceEqDiff, Nat.left_eq_add, Nat.add_eq_left, false_and, and_false, true_and, and_true, and_self, eq_self, Lc_k74, e8, bo_t, z10, Cu.2.2.2.1, On_k, OnR_A, n_le, Nat.le_refl]
      apply rl_e
      rw [hw]
      exact wL_cong (fun j _ => ⟨fun ⟨p, c1, c2, c3⟩ => ⟨hso, c2 ▸ c1, c3⟩, fun c => ⟨j, c.2.1, rfl, c.2.2⟩⟩)
    · intro k hk ih u w q hw hso
      have Cu := RsC_f C q
      have H1 := Cu.1
      have H2 := Cu.2.1
      have H3 := OnR_at H2
      have e8 : am_I u 74 8 = bo true := by rw [(q.2.2.2.1 74 (by omega)).1, h8, hso]
      have e9 := Cu.2.2.2.2.2.2.1
      have hk3 : ¬ o_A O ≤ k := by omega
      have go : ¬ (U k ∧ ¬ l_be O (m_rm U k) x y) → w = wL (fun j => ∃ p, p < k + 1 ∧ (p = j ∧ U j ∧ ¬ l_be O (m_rm U j) x y)) := fun c => hw.trans (wk_n (fun j _ e => c (e.1 ▸ e.2)))
      rw [e_Rs_neededAlone_4]
      simp (disch := first | assumption | omega) only [hc_ck, hc_gi, hc_gl, hc_gp, ap_I, ap_L, kd_I, kd_L, kd_P, kd_rI, ar_I, ar_L, ar_P, al_I, al_L, al_P, hop_s, cond_true, cond_false, pc_I_I, pc_L_L, pc_P_P, pc_I_L, pc_I_P, pc_L_I, pc_L_P, pc_P_I, pc_P_L, pc_sS_I, pc_sS_L, pc_sS_P, I_rI, L_rI, P_rI, S_rI, cv_r, ci_r, cl_r, o1_b, o1_0, o1_1, lc_e, nI_1, nI_add, if_true, if_false, Nat.reduceEqDiff, Nat.left_eq_add, Nat.add_eq_left, false_and, and_false, true_and, and_true, and_self, eq_self, Lc_k74, e8, bo_t, z10, Cu.2.2.2.1, On_k, OnR_A, n_le, hk3, e9, wL_rm]
      by_cases c : U k
      · rw [if_neg (by rw [wL_rme (by omega)]; exact fun e => e c)]
        obtain ⟨v, b, ev, qv, hb⟩ := Rs_holds Cu (m_rm U k) d
        simp (disch := first | assumption | omega) only [hc_ck, hc_gi, hc_gl, hc_gp, ap_I, ap_L, kd_I, kd_L, kd_P, kd_rI, ar_I, ar_L, ar_P, al_I, al_L, al_P, hop_s, cond_true, cond_false, pc_I_I, pc_L_L, pc_P_P, pc_I_L, pc_I_P, pc_L_I, pc_L_P, pc_P_I, pc_P_L, pc_sS_I, pc_sS_L, pc_sS_P, I_rI, L_rI, P_rI, S_rI, cv_r, ci_r, cl_r, o1_b, o1_0, o1_1, lc_e, nI_1, nI_add, if_true, if_false, Nat.reduceEqDiff, Nat.left_eq_add, Nat.add_eq_left, false_and, and_false, true_and, and_true, and_self, eq_self, ev, bo_0]
        cases b with
        | true =>
          simp only [Bool.true_eq_false, if_false]
          exact ih v w (fA_t q qv) (go (fun e => e.2 (hb.mp rfl))) hso
        | false =>
          simp only [if_true]
          refine ih v _ (fA_t q qv) ?_ hso
          rw [hw]
          apply wk_s
          intro j hj
          rw [xl_b1 (by omega), decide_eq_true_iff]
          exact ⟨fun e => ⟨e.symm, e ▸ c, fun f => absurd (hb.mpr (e ▸ f)) (by decide)⟩, fun e => e.1.symm⟩
      · rw [if_pos (by rw [wL_rme (by omega)]; exact c)]
        exact ih u w q (go (fun e => c e.1)) hso
  rw [e_Rs_neededAlone]
  cases so with
  | true => exact key 0 (Nat.zero_le _) h 0 (fA_r _ _) wk_0.symm rfl
  | false =>
    have H1 := C.1
    refine ⟨h, ?_, fA_r _ _⟩
    rw [e_Rs_neededAlone_4]
    simp (disch := first | assumption | omega) only [hc_ck, hc_gi, hc_gl, hc_gp, ap_I, ap_L, kd_I, kd_L, kd_P, kd_rI, ar_I, ar_L, ar_P, al_I, al_L, al_P, hop_s, cond_true, cond_false, pc_I_I, pc_L_L, pc_P_P, pc_I_L, pc_I_P, pc_L_I, pc_L_P, pc_P_I, pc_P_L, pc_sS_I, pc_sS_L, pc_sS_P, I_rI, L_rI, P_rI, S_rI, cv_r, ci_r, cl_r, o1_b, o1_0, o1_1, lc_e, nI_1, nI_add, if_true, if_false, Nat.reduceEqDiff, Nat.left_eq_add, Nat.add_eq_left, false_and, and_false, true_and, and_true, and_self, eq_self, Lc_k74, h8, bo_f]
    apply rl_e
    exact (wL_0.mpr (fun k _ c => absurd c.1 (by decide))).symm
/-- each of Q is the only one of Q in some of the first c sets -/
def m_us (F : Nat → Nat → Prop) (c : Nat) (Q : Nat → Prop) : Prop := ∀ e, Q e → ∃ i, i < c ∧ F i e ∧ ∀ j, F i j → Q j → j = e
theorem Rs_hasIdle {h : am_H} (H : LcAt h) {c : Nat} (hc : c ≤ 5) (h1 : am_I h 74 1 = nI c) (F : Nat → Nat → Prop) (hF : ∀ i, i < c → am_L h 75 i = wL (F i)) (Q : Nat → Prop) (hQ : ∀ k, Q k → k < 64) (d : Nat) : ∃ b, f_Rs_hasIdle d h 74 (wL Q) = some (.inr (some (.int (bo b))), h) ∧ (b = false ↔ m_us F c Q) := by
  have key : ∀ k, k ≤ c → ∀ w : Int64, w = wL (fun e => ∃ i, i < k ∧ (F i e ∧ Q e ∧ ∀ j, F i j → Q j → j = e)) → ∃ b, f_Rs_hasIdle_5 d h 74 (wL Q) w (nI k) = some (.inr (some (.int (bo b))), h) ∧ (b = false ↔ m_us F c Q) := by
    refine dn ?_ ?_
    · intro w hw
      have hq : (w = wL Q) ↔ m_us F c Q := by
        rw [hw]
        constructor
        · intro e k hk
          obtain ⟨i, a, b, _, d⟩ := (wL_e e (hQ k hk)).mpr hk
          exact ⟨i, a, b, d⟩
        · intro u
          exact wL_cong (fun k _ => ⟨fun ⟨i, a, b, c, d⟩ => c, fun q => by
            obtain ⟨i, a, b, d⟩ := u k q
            exact ⟨i, a, b, q, d⟩⟩)
      by_cases e : w = wL Q
      · refine ⟨false, ?_, ⟨fun _ => hq.mp e, fun _ => rfl⟩⟩
        rw [e_Rs_hasIdle_5]
        simp (disch := first | assumption | omega) only [hc_ck, hc_gi, hc_gl, hc_gp, ap_I, ap_L, kd_I, kd_L, kd_P, kd_rI, ar_I, ar_L, ar_P, al_I, al_L, al_P, hop_s, cond_true, cond_false, pc_I_I, pc_L_L, pc_P_P, pc_I_L, pc_I_P, pc_L_I, pc_L_P, pc_P_I, pc_P_L, pc_sS_I, pc_sS_L, pc_sS_P, I_rI, L_rI, P_rI, S_rI, cv_r, ci_r, cl_r, o1_b, o1_0, o1_1, lc_e, nI_1, nI_add, if_true, if_false, Nat.reduceEqDiff, Nat.left_eq_add, Nat.add_eq_left, false_and, and_false, true_and, and_true, and_self, eq_self, Lc_k74, h1, n_le, Nat.le_refl, if_pos e]
        rfl
      · refine ⟨true, ?_, ⟨fun q => absurd q (by decide), fun q => absurd (hq.mpr q) e⟩⟩
        rw [e_Rs_hasIdle_5]
        simp (disch := first | assumption | omega) only [hc_ck, hc_gi, hc_gl, hc_gp, ap_I, ap_L, kd_I, kd_L, kd_P, kd_rI, ar_I, ar_L, ar_P, al_I, al_L, al_P, hop_s, cond_true, cond_false, pc_I_I, pc_L_L, pc_P_P, pc_I_L, pc_I_P, pc_L_I, pc_L_P, pc_P_I, pc_P_L, pc_sS_I, pc_sS_L, pc_sS_P, I_rI, L_rI, P_rI, S_rI, cv_r, ci_r, cl_r, o1_b, o1_0, o1_1, lc_e, nI_1, nI_add, if_true, if_false, Nat.reduceEqDiff, Nat.left_eq_add, Nat.add_eq_left, false_and, and_false, true_and, and_true, and_self, eq_self, Lc_k74, h1, n_le, Nat.le_refl, if_neg e]
        rfl
    · intro k hk ih w hw
      have hk3 : ¬ c ≤ k := by omega
      rw [e_Rs_hasIdle_5]
      simp (disch := first | assumption | omega) only [hc_ck, hc_gi, hc_gl, hc_gp, ap_I, ap_L, kd_I, kd_L, kd_P, kd_rI, ar_I, ar_L, ar_P, al_I, al_L, al_P, hop_s, cond_true, cond_false, pc_I_I, pc_L_L, pc_P_P, pc_I_L, pc_I_P, pc_L_I, pc_L_P, pc_P_I, pc_P_L, pc_sS_I, pc_sS_L, pc_sS_P, I_rI, L_rI, P_rI, S_rI, cv_r, ci_r, cl_r, o1_b, o1_0, o1_1, lc_e, nI_1, nI_add, if_true, if_false, Nat.reduceEqDiff, Nat.left_eq_add, Nat.add_eq_left, false_and, and_false, true_and, and_true, and_self, eq_self, Lc_k74, h1, n_le, hk3, Lc_p74_0, Lc_r75, hF k hk, wL_and]
      by_cases e : ∀ i j, (F k i ∧ Q i) → (F k j ∧ Q j) → i = j
      · rw [if_pos (by
          rw [xl_one]
          intro i j hi hj
          exact e i j (wL_x.mp hi).2 (wL_x.mp hj).2)]
        apply ih
        rw [hw]
        apply wk_s
        intro z hz
        rw [wL_x]
        exact ⟨fun a => ⟨a.2.1, a.2.2, fun j f q => e j z ⟨f, q⟩ a.2⟩, fun a => ⟨hz, a.1, a.2.1⟩⟩
      · rw [if_neg (by
          rw [xl_one]
          intro a
          exact e (fun i j hi hj => a i j (wL_x.mpr ⟨hQ i hi.2, hi⟩) (wL_x.mpr ⟨hQ j hj.2, hj⟩)))]
        apply ih
        rw [hw]
        apply wk_n
        rintro z hz ⟨a, b, f⟩
        exact e (fun i j hi hj => (f i hi.1 hi.2).trans (f j hj.1 hj.2).symm)
  rw [e_Rs_hasIdle]
  exact key 0 (Nat.zero_le _) 0 wk_0.symm
/-- what freeing answers -/
def m_fr (E : (Nat → Prop) → Prop) (F : Nat → Nat → Prop) (c n l : Nat) (U Q T : Nat → Prop) (v : Int64) : Prop :=
  (v = -1 ∨ ∃ G : Nat → Prop, v = wL G ∧ (∀ k, G k → k < 32) ∧ (∀ k, Q k → G k) ∧ (∀ i, l ≤ i → i < c → ∃ k, F i k ∧ G k) ∧ E (fun k => U k ∧ ¬ G k)) ∧
  ((∃ G : Nat → Prop, (∀ k, G k → k < n) ∧ (∀ k, Q k → G k) ∧ (∀ k, T k → ¬ G k) ∧ (∀ i, i < c → ∃ k, F i k ∧ G k) ∧ m_us F c G ∧ E (fun k => U k ∧ ¬ G k)) → ¬ v = -1)
theorem m_usub {F : Nat → Nat → Prop} {c : Nat} {G Q : Nat → Prop} (h : m_us F c G) (hs : ∀ k, Q k → G k) : m_us F c Q := fun e he => by
  obtain ⟨i, a, b, d⟩ := h e (hs e he)
  exact ⟨i, a, b, fun j f q => d j f (hs j q)⟩
/-- a set of use, all met already within it, is that -/
theorem m_ueq {F : Nat → Nat → Prop} {c : Nat} {G Q : Nat → Prop} (h : m_us F c G) (hs : ∀ k, Q k → G k) (hit : ∀ i, i < c → ∃ k, F i k ∧ Q k) : ∀ k, G k → Q k := fun e he => by
  obtain ⟨i, a, b, d⟩ := h e he
  obtain ⟨k, f, q⟩ := hit i a
  exact d k f (hs k q) ▸ q
