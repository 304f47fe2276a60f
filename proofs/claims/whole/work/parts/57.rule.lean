/-! ===== the least that is so; the rules of why ===== -/
noncomputable def lm (P : Nat → Prop) : Nat := @dite Nat (∃ k, P k) (Classical.propDecidable _) (fun h => Classical.choose (pk_least P h)) (fun _ => 4294967295)
theorem lm_e {P : Nat → Prop} {k : Nat} (h : P k) (h2 : ∀ j, j < k → ¬ P j) : lm P = k := by
  unfold lm
  rw [dif_pos ⟨k, h⟩]
  have q := Classical.choose_spec (pk_least P ⟨k, h⟩)
  rcases Nat.lt_trichotomy (Classical.choose (pk_least P ⟨k, h⟩)) k with e | e | e
  · exact absurd q.1 (h2 _ e)
  · exact e
  · exact absurd h (q.2 _ e)
theorem lm_n {P : Nat → Prop} (h : ∀ k, ¬ P k) : lm P = 4294967295 := by
  unfold lm
  rw [dif_neg (fun ⟨k, q⟩ => h k q)]
theorem lm_s {P : Nat → Prop} (h : ∃ k, P k) : P (lm P) ∧ ∀ j, j < lm P → ¬ P j := by
  obtain ⟨k, h1, h2⟩ := pk_least P h
  rw [lm_e h1 h2]
  exact ⟨h1, h2⟩
theorem lm_c {P Q : Nat → Prop} (h : ∀ k, P k ↔ Q k) : lm P = lm Q := by
  have : P = Q := funext (fun k => propext (h k))
  rw [this]
theorem lm_ne {P : Nat → Prop} (hP : ∀ k, P k → k < 4294967295) : (nI (lm P) = nI 4294967295) ↔ ¬ ∃ k, P k := by
  constructor
  · intro h q
    have := lm_s q
    have hb := hP _ this.1
    rw [nI_e32 (by omega) (by omega)] at h
    omega
  · intro h
    rw [lm_n (fun k q => h ⟨k, q⟩)]
def w_1 (O : o_T) (B U : Nat → Prop) (y k : Nat) : Prop := k < o_A O ∧ B k ∧ ((o_ak O k ≤ 1 ∧ o_a2 O k = y ∧ U (o_a1 O k)) ∨ (o_ak O k = 1 ∧ o_a1 O k = y ∧ U (o_a2 O k)))
def w_2 (O : o_T) (U : Nat → Prop) (y p : Nat) : Prop := p < o_P O ∧ o_pk O p = 3 ∧ (o_pa O p = y ∨ o_pb O p = y) ∧ U p
def w_3 (O : o_T) (U : Nat → Prop) (y : Nat) : Prop := o_pk O y = 3 ∧ U (o_pa O y) ∧ U (o_pb O y)
def w_4 (O : o_T) (B : Nat → Prop) (A : Nat → Nat → Prop) (K : Nat → Nat → Nat → Prop) (x y z : Nat) : Prop := z < o_P O ∧ o_pk O y = 4 ∧ (∃ q, o_un O B q (o_pa O y) ∧ K x q z) ∧ A z (o_pb O y)
def w_5 (O : o_T) (A : Nat → Nat → Prop) (K : Nat → Nat → Nat → Prop) (x y z : Nat) : Prop := z < o_P O ∧ y = 1 ∧ (∃ q, K x q z) ∧ A z 1
theorem Sa_leastPart {h : am_H} {s o : Nat} {O : o_T} {B : Nat → Prop} (H : SaC h s o O B) (Q : Nat → Prop) (d : Nat) : f_Sa_leastPart d h s (wL Q) = some (.inr (some (.int (nI (lm (fun p => p < o_P O ∧ Q p))))), h) := by
  have ok4 := H.2.1.2.1.2.2.2.1
  have H1 := SaC_at H
  have key : ∀ k, k ≤ o_P O → (∀ j, j < k → ¬ Q j) → f_Sa_leastPart_2 d h s (wL Q) (nI k) = some (.inr (some (.int (nI (lm (fun p => p < o_P O ∧ Q p))))), h) := by
    refine dn ?_ ?_
    · intro hj
      rw [e_Sa_leastPart_2, lm_n (fun k c => hj k c.1 c.2), ← lit_m1]
      simp (disch := first | assumption | omega) only [hc_ck, hc_gi, hc_gl, hc_gp, hc_ap, kd_I, kd_L, kd_P, kd_rI, ar_I, ar_L, ar_P, al_I, al_L, al_P, hop_s, cond_true, cond_false, pc_I_I, pc_L_L, pc_P_P, pc_I_L, pc_I_P, pc_L_I, pc_L_P, pc_P_I, pc_P_L, pc_sS_I, pc_sS_L, pc_sS_P, I_rI, L_rI, P_rI, S_rI, cv_r, ci_r, cl_r, o1_b, o1_0, o1_1, lc_e, nI_1, nI_add, if_true, if_false, Nat.reduceEqDiff, Nat.left_eq_add, Nat.add_eq_left, false_and, and_false, true_and, and_true, and_self, eq_self, Sa_k, SaC_P, n_le, Nat.le_refl]
    · intro k hk ih hj
      have hk3 : ¬ o_P O ≤ k := by omega
      rw [e_Sa_leastPart_2]
      simp (disch := first | assumption | omega) only [hc_ck, hc_gi, hc_gl, hc_gp, hc_ap, kd_I, kd_L, kd_P, kd_rI, ar_I, ar_L, ar_P, al_I, al_L, al_P, hop_s, cond_true, cond_false, pc_I_I, pc_L_L, pc_P_P, pc_I_L, pc_I_P, pc_L_I, pc_L_P, pc_P_I, pc_P_L, pc_sS_I, pc_sS_L, pc_sS_P, I_rI, L_rI, P_rI, S_rI, cv_r, ci_r, cl_r, o1_b, o1_0, o1_1, lc_e, nI_1, nI_add, if_true, if_false, Nat.reduceEqDiff, Nat.left_eq_add, Nat.add_eq_left, false_and, and_false, true_and, and_true, and_self, eq_self, Sa_k, SaC_P, n_le, hk3, xl_t0]
      by_cases c : Q k
      · simp only [show xl (wL Q) k = true from wL_x.mpr ⟨by omega, c⟩, Bool.true_eq_false, if_false]
        rw [lm_e ⟨hk, c⟩ (fun j e q => hj j e q.2)]
      · simp only [show xl (wL Q) k = false from cast (wL_f (by omega)).symm c, if_true]
        apply ih
        intro j hj'
        by_cases e : j = k
        · exact e ▸ c
        · exact hj j (by omega)
  rw [e_Sa_leastPart]
  exact key 0 (Nat.zero_le _) (fun j e => absurd e (Nat.not_lt_zero j))
theorem Sa_leastAnd {h : am_H} {s o : Nat} {O : o_T} {B : Nat → Prop} (H : SaC h s o O B) (U : Nat → Prop) {y : Nat} (hy : y < o_P O) (d : Nat) : f_Sa_leastAnd d h s (wL U) (nI y) = some (.inr (some (.int (nI (lm (w_2 O U y))))), h) := by
  have ok : o_ok O := H.2.1.2.1
  obtain ⟨ok1, ok2, ok3, ok4, ok5, -, -, okP, okA, -⟩ := ok
  have H1 := SaC_at H
  have H2 := SaC_on H
  have H3 := OnR_at H2
  have key : ∀ k, k ≤ o_P O → (∀ j, j < k → ¬ w_2 O U y j) → f_Sa_leastAnd_3 d h s (wL U) (nI y) (nI k) = some (.inr (some (.int (nI (lm (w_2 O U y))))), h) := by
    refine dn ?_ ?_
    · intro hj
      rw [e_Sa_leastAnd_3, lm_n (fun k c => hj k c.1 c), ← lit_m1]
      simp (disch := first | assumption | omega) only [hc_ck, hc_gi, hc_gl, hc_gp, hc_ap, kd_I, kd_L, kd_P, kd_rI, ar_I, ar_L, ar_P, al_I, al_L, al_P, hop_s, cond_true, cond_false, pc_I_I, pc_L_L, pc_P_P, pc_I_L, pc_I_P, pc_L_I, pc_L_P, pc_P_I, pc_P_L, pc_sS_I, pc_sS_L, pc_sS_P, I_rI, L_rI, P_rI, S_rI, cv_r, ci_r, cl_r, o1_b, o1_0, o1_1, lc_e, nI_1, nI_add, if_true, if_false, Nat.reduceEqDiff, Nat.left_eq_add, Nat.add_eq_left, false_and, and_false, true_and, and_true, and_self, eq_self, Sa_k, SaC_P, n_le, Nat.le_refl]
    · intro k hk ih hj
      have hk3 : ¬ o_P O ≤ k := by omega
      have okk := okP k hk
      unfold o_okP at okk
      have go : ¬ w_2 O U y k → f_Sa_leastAnd_3 d h s (wL U) (nI y) (nI (k + 1)) = some (.inr (some (.int (nI (lm (w_2 O U y))))), h) := by
        intro c
        apply ih
        intro j hj'
        by_cases e : j = k
        · exact e ▸ c
        · exact hj j (by omega)
      have behind : ∀ b : Bool, (b = true ↔ (o_pa O k = y ∨ o_pb O k = y)) → f_Sa_leastAnd_45 d h s (wL U) (nI y) (nI k) (bo b) = some (.inr (some (.int (nI (lm (w_2 O U y))))), h) := by
        intro b hb
        rw [e_Sa_leastAnd_45]
        simp (disch := first | assumption | omega) only [hc_ck, hc_gi, hc_gl, hc_gp, hc_ap, kd_I, kd_L, kd_P, kd_rI, ar_I, ar_L, ar_P, al_I, al_L, al_P, hop_s, cond_true, cond_false, pc_I_I, pc_L_L, pc_P_P, pc_I_L, pc_I_P, pc_L_I, pc_L_P, pc_P_I, pc_P_L, pc_sS_I, pc_sS_L, pc_sS_P, I_rI, L_rI, P_rI, S_rI, cv_r, ci_r, cl_r, o1_b, o1_0, o1_1, lc_e, nI_1, nI_add, if_true, if_false, Nat.reduceEqDiff, Nat.left_eq_add, Nat.add_eq_left, false_and, and_false, true_and, and_true, and_self, eq_self, Sa_k, SaC_o, On_k, On_p4, On_r6, OnR_pk, n_3, n_eq, xl_t0, bo_0]
        by_cases e3 : o_pk O k = 3
        · rw [if_pos e3]
          cases b with
          | false =>
            simp only [if_true]
            exact go (fun c => absurd (hb.mpr c.2.2.1) (by decide))
          | true =>
            simp only [Bool.true_eq_false, if_false]
            by_cases c : U k
            · simp only [show xl (wL U) k = true from wL_x.mpr ⟨by omega, c⟩, Bool.true_eq_false, if_false]
              rw [lm_e ⟨hk, e3, hb.mp rfl, c⟩ hj]
            · simp only [show xl (wL U) k = false from cast (wL_f (by omega)).symm c, if_true]
              exact go (fun e => c e.2.2.2)
        · rw [if_neg e3]
          exact go (fun e => e3 e.2.1)
      rw [e_Sa_leastAnd_3]
      simp (disch := first | assumption | omega) only [hc_ck, hc_gi, hc_gl, hc_gp, hc_ap, kd_I, kd_L, kd_P, kd_rI, ar_I, ar_L, ar_P, al_I, al_L, al_P, hop_s, cond_true, cond_false, pc_I_I, pc_L_L, pc_P_P, pc_I_L, pc_I_P, pc_L_I, pc_L_P, pc_P_I, pc_P_L, pc_sS_I, pc_sS_L, pc_sS_P, I_rI, L_rI, P_rI, S_rI, cv_r, ci_r, cl_r, o1_b, o1_0, o1_1, lc_e, nI_1, nI_add, if_true, if_false, Nat.reduceEqDiff, Nat.left_eq_add, Nat.add_eq_left, false_and, and_false, true_and, and_true, and_self, eq_self, Sa_k, SaC_P, SaC_o, n_le, hk3, On_k, On_p5, On_p6, On_r7, On_r8, OnR_pa, OnR_pb, n_eq]
      by_cases e1 : o_pa O k = y
      · rw [if_pos e1]
        exact behind true ⟨fun _ => Or.inl e1, fun _ => rfl⟩
      · rw [if_neg e1]
        by_cases e2 : o_pb O k = y
        · rw [if_pos e2]
          exact behind true ⟨fun _ => Or.inr e2, fun _ => rfl⟩
        · rw [if_neg e2]
          exact behind false ⟨fun e => absurd e (by decide), fun e => e.elim (fun q => absurd q e1) (fun q => absurd q e2)⟩
  rw [e_Sa_leastAnd]
  exact key 0 (Nat.zero_le _) (fun j e => absurd e (Nat.not_lt_zero j))
theorem Sa_leastAxiom {h : am_H} {s o : Nat} {O : o_T} {B : Nat → Prop} (H : SaC h s o O B) (U : Nat → Prop) {y : Nat} (hy : y < o_P O) (d : Nat) : f_Sa_leastAxiom d h s (wL U) (nI y) = some (.inr (some (.int (nI (lm (w_1 O B U y))))), h) := by
  have ok : o_ok O := H.2.1.2.1
  obtain ⟨ok1, ok2, ok3, ok4, ok5, -, -, okP, okA, -⟩ := ok
  have H1 := SaC_at H
  have H2 := SaC_on H
  have H3 := OnR_at H2
  have key : ∀ k, k ≤ o_A O → (∀ j, j < k → ¬ w_1 O B U y j) → f_Sa_leastAxiom_3 d h s (wL U) (nI y) (nI k) = some (.inr (some (.int (nI (lm (w_1 O B U y))))), h) := by
    refine dn ?_ ?_
    · intro hj
      rw [e_Sa_leastAxiom_3, lm_n (fun k c => hj k c.1 c), ← lit_m1]
      simp (disch := first | assumption | omega) only [hc_ck, hc_gi, hc_gl, hc_gp, hc_ap, kd_I, kd_L, kd_P, kd_rI, ar_I, ar_L, ar_P, al_I, al_L, al_P, hop_s, cond_true, cond_false, pc_I_I, pc_L_L, pc_P_P, pc_I_L, pc_I_P, pc_L_I, pc_L_P, pc_P_I, pc_P_L, pc_sS_I, pc_sS_L, pc_sS_P, I_rI, L_rI, P_rI, S_rI, cv_r, ci_r, cl_r, o1_b, o1_0, o1_1, lc_e, nI_1, nI_add, if_true, if_false, Nat.reduceEqDiff, Nat.left_eq_add, Nat.add_eq_left, false_and, and_false, true_and, and_true, and_self, eq_self, Sa_k, SaC_o, On_k, OnR_A, n_le, Nat.le_refl]
    · intro k hk ih hj
      have hk3 : ¬ o_A O ≤ k := by omega
      have okk := okA k hk
      unfold o_okA at okk
      have go : ¬ w_1 O B U y k → f_Sa_leastAxiom_3 d h s (wL U) (nI y) (nI (k + 1)) = some (.inr (some (.int (nI (lm (w_1 O B U y))))), h) := by
        intro c
        apply ih
        intro j hj'
        by_cases e : j = k
        · exact e ▸ c
        · exact hj j (by omega)
      rw [e_Sa_leastAxiom_3]
      simp (disch := first | assumption | omega) only [hc_ck, hc_gi, hc_gl, hc_gp, hc_ap, kd_I, kd_L, kd_P, kd_rI, ar_I, ar_L, ar_P, al_I, al_L, al_P, hop_s, cond_true, cond_false, pc_I_I, pc_L_L, pc_P_P, pc_I_L, pc_I_P, pc_L_I, pc_L_P, pc_P_I, pc_P_L, pc_sS_I, pc_sS_L, pc_sS_P, I_rI, L_rI, P_rI, S_rI, cv_r, ci_r, cl_r, o1_b, o1_0, o1_1, lc_e, nI_1, nI_add, if_true, if_false, Nat.reduceEqDiff, Nat.left_eq_add, Nat.add_eq_left, false_and, and_false, true_and, and_true, and_self, eq_self, Sa_k, SaC_o, On_k, OnR_A, n_le, hk3, On_p11, On_r11, OnR_ak, n_1, n_lt, SaC_B, xl_t0]
      by_cases e1 : 1 < o_ak O k
      · rw [if_pos e1]
        exact go (fun c => by rcases c.2.2 with q | q <;> omega)
      · rw [if_neg e1]
        by_cases hB : B k
        · simp only [show xl (wL B) k = true from wL_x.mpr ⟨by omega, hB⟩, Bool.true_eq_false, if_false]
          have f1 : o_a1 O k < o_P O := by omega
          have f2 : o_a2 O k < o_P O := by omega
          simp (disch := first | assumption | omega) only [hc_ck, hc_gi, hc_gl, hc_gp, hc_ap, kd_I, kd_L, kd_P, kd_rI, ar_I, ar_L, ar_P, al_I, al_L, al_P, hop_s, cond_true, cond_false, pc_I_I, pc_L_L, pc_P_P, pc_I_L, pc_I_P, pc_L_I, pc_L_P, pc_P_I, pc_P_L, pc_sS_I, pc_sS_L, pc_sS_P, I_rI, L_rI, P_rI, S_rI, cv_r, ci_r, cl_r, o1_b, o1_0, o1_1, lc_e, nI_1, nI_add, if_true, if_false, Nat.reduceEqDiff, Nat.left_eq_add, Nat.add_eq_left, false_and, and_false, true_and, and_true, and_self, eq_self, On_k, SaC_o, Sa_k, On_p12, On_p13, On_r12, On_r13, OnR_a1, OnR_a2, n_eq, xl_t0, e_Sa_leastAxiom_96, z10, n_e1, ← n_1]
          by_cases c : w_1 O B U y k
          · rw [lm_e c hj]
            by_cases g2 : o_a2 O k = y ∧ U (o_a1 O k)
            · simp only [g2.1, if_true, show xl (wL U) (o_a1 O k) = true from wL_x.mpr ⟨by omega, g2.2⟩, Bool.true_eq_false, if_false, ite_self]
            · rcases c.2.2 with ⟨-, q1, q2⟩ | ⟨q0, q1, q2⟩
              · exact absurd ⟨q1, q2⟩ g2
              · simp only [q0, q1, if_true, show xl (wL U) (o_a2 O k) = true from wL_x.mpr ⟨by omega, q2⟩, Bool.true_eq_false, if_false, ite_self]
          · have hg := go c
            have g1 : ¬ (o_a2 O k = y ∧ U (o_a1 O k)) := fun q => c ⟨hk, hB, Or.inl ⟨by omega, q⟩⟩
            have g2 : ¬ (o_ak O k = 1 ∧ o_a1 O k = y ∧ U (o_a2 O k)) := fun q => c ⟨hk, hB, Or.inr q⟩
            have hx1 : o_a2 O k = y → xl (wL U) (o_a1 O k) = false := fun e => cast (wL_f (by omega)).symm (fun q => g1 ⟨e, q⟩)
            have hx2 : o_ak O k = 1 → o_a1 O k = y → xl (wL U) (o_a2 O k) = false := fun e e' => cast (wL_f (by omega)).symm (fun q => g2 ⟨e, e', q⟩)
            by_cases a1 : o_a2 O k = y
            · rw [if_pos a1, hx1 a1]
              by_cases a2 : o_ak O k = 1
              · by_cases a3 : o_a1 O k = y
                · simp only [a2, a3, hx2 a2 a3, if_true]; exact hg
                · simp only [a2, a3, if_true, if_false]; exact hg
              · simp only [a2, if_true, if_false]; exact hg
            · rw [if_neg a1]
              by_cases a2 : o_ak O k = 1
              · by_cases a3 : o_a1 O k = y
                · simp only [a2, a3, hx2 a2 a3, if_true]; exact hg
                · simp only [a2, a3, if_true, if_false]; exact hg
              · simp only [a2, if_false, if_true]; exact hg
        · simp only [show xl (wL B) k = false from cast (wL_f (by omega)).symm hB, if_true]
          exact go (fun c => hB c.2.1)
  rw [e_Sa_leastAxiom]
  exact key 0 (Nat.zero_le _) (fun j e => absurd e (Nat.not_lt_zero j))
