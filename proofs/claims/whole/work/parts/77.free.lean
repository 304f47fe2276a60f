/-! ===== the class's reasons: freeing ===== -/
/-- the sets found stand -/
def RsF (h : am_H) (c : Nat) (F : Nat → Nat → Prop) : Prop := am_I h 74 1 = nI c ∧ ∀ i, i < c → am_L h 75 i = wL (F i)
theorem RsF_f {h h' : am_H} {c : Nat} {F : Nat → Nat → Prop} (R : RsF h c F) (q : fA 61 h h') : RsF h' c F := by
  refine ⟨?_, fun i hi => ?_⟩
  · rw [(q.2.2.2.1 74 (by omega)).1]; exact R.1
  · rw [(q.2.2.2.1 75 (by omega)).2]; exact R.2 i hi
theorem wL_bit0 {S : Nat → Prop} {k : Nat} (hk : k < 64) : (wL S &&& am_lshl 1 (nI k) = 0) = ¬ S k := by
  rw [wL_b1 hk, wL_a0]
  apply propext
  exact ⟨fun h c => h ⟨k, hk, c, rfl⟩, fun h ⟨j, _, c, e⟩ => h (e ▸ c)⟩
theorem wL_put {S : Nat → Prop} {k : Nat} (hk : k < 64) : wL S ||| am_lshl 1 (nI k) = wL (fun j => S j ∨ j = k) := by
  rw [wL_b1 hk, wL_or]
theorem lc_m1 : ((0 : Int64) = -1) = False := by decide
theorem Rs_freeing {o : Nat} {O : o_T} {x y c : Nat} {U : Nat → Prop} {F : Nat → Nat → Prop} (hc : c ≤ 5) (hFA : ∀ i k, i < c → F i k → k < o_A O) (d : Nat) : ∀ m l (u : am_H) (Q T : Nat → Prop), c - l ≤ m → l ≤ c → (∀ k, Q k → k < 32) → (∀ i, i < l → ∃ k, F i k ∧ Q k) → RsC u o O x y U → RsF u c F → ∃ (h' : am_H) (v : Int64), f_Rs_freeing (d + 5 + m) u 74 (nI l) (wL Q) (wL T) = some (.inr (some (.long v)), h') ∧ fA 61 u h' ∧ m_fr (fun S => l_be O S x y) F c (o_A O) l U Q T v := by
  intro m
  induction m with
  | zero =>
    intro l u Q T hm hl hQ hh C R
    have hlc : l = c := by omega
    subst hlc
    have H1 := C.1
    obtain ⟨b, eb, hb⟩ := Rs_hasIdle H1 hc R.1 F R.2 Q (fun k q => by have := hQ k q; omega) (d + 4)
    rw [e_Rs_freeing]
    simp (disch := first | assumption | omega) only [hc_ck, hc_gi, hc_gl, hc_gp, ap_I, ap_L, kd_I, kd_L, kd_P, kd_rI, ar_I, ar_L, ar_P, al_I, al_L, al_P, hop_s, cond_true, cond_false, pc_I_I, pc_L_L, pc_P_P, pc_I_L, pc_I_P, pc_L_I, pc_L_P, pc_P_I, pc_P_L, pc_sS_I, pc_sS_L, pc_sS_P, I_rI, L_rI, P_rI, S_rI, cv_r, ci_r, cl_r, o1_b, o1_0, o1_1, lc_e, nI_1, nI_add, if_true, if_false, Nat.reduceEqDiff, Nat.left_eq_add, Nat.add_eq_left, false_and, and_false, true_and, and_true, and_self, eq_self, Lc_k74, eb, bo_0]
    cases b with
    | true =>
      simp only [Bool.true_eq_false, if_false]
      refine ⟨u, -1, rfl, fA_r _ _, Or.inl rfl, ?_⟩
      rintro ⟨G, g1, g2, g3, g4, g5, g6⟩
      exact absurd (hb.mpr (m_usub g5 g2)) (by decide)
    | false =>
      obtain ⟨v, b2, ev, qv, hb2⟩ := Rs_holds C (fun k => U k ∧ ¬ Q k) d
      simp (disch := first | assumption | omega) only [hc_ck, hc_gi, hc_gl, hc_gp, ap_I, ap_L, kd_I, kd_L, kd_P, kd_rI, ar_I, ar_L, ar_P, al_I, al_L, al_P, hop_s, cond_true, cond_false, pc_I_I, pc_L_L, pc_P_P, pc_I_L, pc_I_P, pc_L_I, pc_L_P, pc_P_I, pc_P_L, pc_sS_I, pc_sS_L, pc_sS_P, I_rI, L_rI, P_rI, S_rI, cv_r, ci_r, cl_r, o1_b, o1_0, o1_1, lc_e, nI_1, nI_add, if_true, if_false, Nat.reduceEqDiff, Nat.left_eq_add, Nat.add_eq_left, false_and, and_false, true_and, and_true, and_self, eq_self, R.1, n_lt, Nat.lt_irrefl, C.2.2.2.2.2.2.1, wL_an, Lc_k74, ev, bo_0]
      cases b2 with
      | true =>
        simp only [Bool.true_eq_false, if_false]
        exact ⟨v, wL Q, rfl, qv, Or.inr ⟨Q, rfl, hQ, fun _ q => q, fun i a b => absurd b (by omega), hb2.mp rfl⟩, fun _ => wL_m1 hQ⟩
      | false =>
        simp only [if_true]
        refine ⟨v, -1, rfl, qv, Or.inl rfl, ?_⟩
        rintro ⟨G, g1, g2, g3, g4, g5, g6⟩
        have ge := m_ueq g5 g2 hh
        exact absurd (hb2.mpr (l_mb (fun k q => ⟨q.1, fun e => q.2 (g2 k e)⟩) g6)) (by decide)
  | succ m ih =>
    intro l u Q T hm hl hQ hh C R
    have H1 := C.1
    have okA := C.2.1.2.1.2.2.2.2.1
    obtain ⟨b, eb, hb⟩ := Rs_hasIdle H1 hc R.1 F R.2 Q (fun k q => by have := hQ k q; omega) (d + 4 + (m + 1))
    rw [show d + 5 + (m + 1) = d + 4 + (m + 1) + 1 by omega]
    rw [e_Rs_freeing]
    simp (disch := first | assumption | omega) only [hc_ck, hc_gi, hc_gl, hc_gp, ap_I, ap_L, kd_I, kd_L, kd_P, kd_rI, ar_I, ar_L, ar_P, al_I, al_L, al_P, hop_s, cond_true, cond_false, pc_I_I, pc_L_L, pc_P_P, pc_I_L, pc_I_P, pc_L_I, pc_L_P, pc_P_I, pc_P_L, pc_sS_I, pc_sS_L, pc_sS_P, I_rI, L_rI, P_rI, S_rI, cv_r, ci_r, cl_r, o1_b, o1_0, o1_1, lc_e, nI_1, nI_add, if_true, if_false, Nat.reduceEqDiff, Nat.left_eq_add, Nat.add_eq_left, false_and, and_false, true_and, and_true, and_self, eq_self, Lc_k74, eb, bo_0]
    cases b with
    | true =>
      simp only [Bool.true_eq_false, if_false]
      refine ⟨u, -1, rfl, fA_r _ _, Or.inl rfl, ?_⟩
      rintro ⟨G, g1, g2, g3, g4, g5, g6⟩
      exact absurd (hb.mpr (m_usub g5 g2)) (by decide)
    | false =>
      by_cases hlc : l < c
      · simp (disch := first | assumption | omega) only [hc_ck, hc_gi, hc_gl, hc_gp, ap_I, ap_L, kd_I, kd_L, kd_P, kd_rI, ar_I, ar_L, ar_P, al_I, al_L, al_P, hop_s, cond_true, cond_false, pc_I_I, pc_L_L, pc_P_P, pc_I_L, pc_I_P, pc_L_I, pc_L_P, pc_P_I, pc_P_L, pc_sS_I, pc_sS_L, pc_sS_P, I_rI, L_rI, P_rI, S_rI, cv_r, ci_r, cl_r, o1_b, o1_0, o1_1, lc_e, nI_1, nI_add, if_true, if_false, Nat.reduceEqDiff, Nat.left_eq_add, Nat.add_eq_left, false_and, and_false, true_and, and_true, and_self, eq_self, R.1, n_lt, hlc, Lc_k74, Lc_p74_0, Lc_r75, R.2 l hlc]
        by_cases hit : ∃ k, k < 64 ∧ F l k ∧ Q k
        · rw [if_neg (by rw [wL_a0]; exact fun e => e hit)]
          obtain ⟨v, w, ev, qv, a1, a2⟩ := ih (l + 1) u Q T (by omega) (by omega) hQ (fun i hi => by
            by_cases e : i = l
            · subst e
              obtain ⟨k, -, a, b⟩ := hit
              exact ⟨k, a, b⟩
            · exact hh i (by omega)) C R
          rw [show d + 4 + (m + 1) = d + 5 + m by omega, ev]
          simp only [cl_r]
          refine ⟨v, w, rfl, qv, ?_, a2⟩
          rcases a1 with a1 | ⟨G, g1, g2, g3, g4, g5⟩
          · exact Or.inl a1
          · refine Or.inr ⟨G, g1, g2, g3, fun i hi hi2 => ?_, g5⟩
            by_cases e : i = l
            · subst e
              obtain ⟨k, -, a, b⟩ := hit
              exact ⟨k, a, g3 k b⟩
            · exact g4 i (by omega) hi2
        · rw [if_pos (by rw [wL_a0]; exact hit)]
          have key : ∀ k, k ≤ o_A O → ∀ (g : am_H) (T' : Nat → Prop), fA 61 u g → (∀ j, T j → T' j) → ∃ (h' : am_H) (v : Int64), f_Rs_freeing_76 (d + 4 + (m + 1) + 1) g 74 (nI l) (wL Q) (wL T') (nI k) = some (.inr (some (.long v)), h') ∧ fA 61 u h' ∧ (v = -1 ∨ ∃ G : Nat → Prop, v = wL G ∧ (∀ k, G k → k < 32) ∧ (∀ k, Q k → G k) ∧ (∀ i, l ≤ i → i < c → ∃ k, F i k ∧ G k) ∧ l_be O (fun k => U k ∧ ¬ G k) x y) ∧ ((∃ G : Nat → Prop, (∀ k, G k → k < o_A O) ∧ (∀ k, Q k → G k) ∧ (∀ k, T' k → ¬ G k) ∧ (∀ i, i < c → ∃ k, F i k ∧ G k) ∧ m_us F c G ∧ l_be O (fun k => U k ∧ ¬ G k) x y ∧ ∀ j, j < k → F l j → ¬ G j) → ¬ v = -1) := by
            refine dn ?_ ?_
            · intro g T' q hT
              have Cg := RsC_f C q
              have H1 := Cg.1
              have H2 := Cg.2.1
              have H3 := OnR_at H2
              refine ⟨g, -1, ?_, q, Or.inl rfl, ?_⟩
              · rw [e_Rs_freeing_76]
                simp (disch := first | assumption | omega) only [hc_ck, hc_gi, hc_gl, hc_gp, ap_I, ap_L, kd_I, kd_L, kd_P, kd_rI, ar_I, ar_L, ar_P, al_I, al_L, al_P, hop_s, cond_true, cond_false, pc_I_I, pc_L_L, pc_P_P, pc_I_L, pc_I_P, pc_L_I, pc_L_P, pc_P_I, pc_P_L, pc_sS_I, pc_sS_L, pc_sS_P, I_rI, L_rI, P_rI, S_rI, cv_r, ci_r, cl_r, o1_b, o1_0, o1_1, lc_e, nI_1, nI_add, if_true, if_false, Nat.reduceEqDiff, Nat.left_eq_add, Nat.add_eq_left, false_and, and_false, true_and, and_true, and_self, eq_self, Lc_k74, Cg.2.2.2.1, On_k, OnR_A, n_le, Nat.le_refl]
              · rintro ⟨G, g1, g2, g3, g4, g5, g6, g7⟩
                obtain ⟨k, a, b⟩ := g4 l hlc
                exact absurd b (g7 k (g1 k b) a)
            · intro k hk ih2 g T' q hT
              have Cg := RsC_f C q
              have Rg := RsF_f R q
              have H1 := Cg.1
              have H2 := Cg.2.1
              have H3 := OnR_at H2
              have hk3 : ¬ o_A O ≤ k := by omega
              have skip : (∀ G : Nat → Prop, (∀ j, T' j → ¬ G j) → F l k → ¬ G k) → ∃ (h' : am_H) (v : Int64), f_Rs_freeing_76 (d + 4 + (m + 1) + 1) g 74 (nI l) (wL Q) (wL T') (nI (k + 1)) = some (.inr (some (.long v)), h') ∧ fA 61 u h' ∧ (v = -1 ∨ ∃ G : Nat → Prop, v = wL G ∧ (∀ k, G k → k < 32) ∧ (∀ k, Q k → G k) ∧ (∀ i, l ≤ i → i < c → ∃ k, F i k ∧ G k) ∧ l_be O (fun k => U k ∧ ¬ G k) x y) ∧ ((∃ G : Nat → Prop, (∀ k, G k → k < o_A O) ∧ (∀ k, Q k → G k) ∧ (∀ k, T' k → ¬ G k) ∧ (∀ i, i < c → ∃ k, F i k ∧ G k) ∧ m_us F c G ∧ l_be O (fun k => U k ∧ ¬ G k) x y ∧ ∀ j, j < k → F l j → ¬ G j) → ¬ v = -1) := by
                intro hs
                obtain ⟨v, w, ev, qv, a1, a2⟩ := ih2 g T' q hT
                refine ⟨v, w, ev, qv, a1, ?_⟩
                rintro ⟨G, g1, g2, g3, g4, g5, g6, g7⟩
                refine a2 ⟨G, g1, g2, g3, g4, g5, g6, fun j hj f => ?_⟩
                by_cases e : j = k
                · subst e; exact hs G g3 f
                · exact g7 j (by omega) f
              rw [e_Rs_freeing_76]
              simp (disch := first | assumption | omega) only [hc_ck, hc_gi, hc_gl, hc_gp, ap_I, ap_L, kd_I, kd_L, kd_P, kd_rI, ar_I, ar_L, ar_P, al_I, al_L, al_P, hop_s, cond_true, cond_false, pc_I_I, pc_L_L, pc_P_P, pc_I_L, pc_I_P, pc_L_I, pc_L_P, pc_P_I, pc_P_L, pc_sS_I, pc_sS_L, pc_sS_P, I_rI, L_rI, P_rI, S_rI, cv_r, ci_r, cl_r, o1_b, o1_0, o1_1, lc_e, nI_1, nI_add, if_true, if_false, Nat.reduceEqDiff, Nat.left_eq_add, Nat.add_eq_left, false_and, and_false, true_and, and_true, and_self, eq_self, Lc_k74, Cg.2.2.2.1, On_k, OnR_A, n_le, hk3, Lc_p74_0, Lc_r75, Rg.2 l hlc]
              by_cases f : F l k
              · rw [if_neg (by rw [wL_bit0 (by omega)]; exact fun e => e f)]
                by_cases t : T' k
                · rw [if_neg (by rw [wL_bit0 (by omega)]; exact fun e => e t)]
                  exact skip (fun G hG _ => hG k t)
                · rw [if_pos (by rw [wL_bit0 (by omega)]; exact t)]
                  obtain ⟨v, w, ev, qv, a1, a2⟩ := ih (l + 1) g (fun j => Q j ∨ j = k) T' (by omega) (by omega) (fun j q => q.elim (hQ j) (fun e => by omega)) (fun i hi => by
                    by_cases e : i = l
                    · subst e
                      exact ⟨k, f, Or.inr rfl⟩
                    · obtain ⟨j, a, b⟩ := hh i (by omega)
                      exact ⟨j, a, Or.inl b⟩) Cg Rg
                  rw [wL_put (by omega), wL_put (by omega), show d + 4 + (m + 1) = d + 5 + m by omega, ev]
                  simp only [cl_r, lc_e]
                  by_cases e1 : w = -1
                  · rw [if_pos e1]
                    obtain ⟨v2, w2, ev2, qv2, b1, b2⟩ := ih2 v (fun j => T' j ∨ j = k) (fA_t q qv) (fun j q => Or.inl (hT j q))
                    refine ⟨v2, w2, ?_, qv2, b1, ?_⟩
                    · rw [show d + 5 + m = d + 4 + (m + 1) by omega]
                      exact ev2
                    rintro ⟨G, g1, g2, g3, g4, g5, g6, g7⟩
                    have hnk : ¬ G k := fun gk => a2 ⟨G, g1, fun j q => q.elim (g2 j) (fun e => e ▸ gk), g3, g4, g5, g6⟩ e1
                    refine b2 ⟨G, g1, g2, fun j q => q.elim (g3 j) (fun e => e ▸ hnk), g4, g5, g6, fun j hj f => ?_⟩
                    by_cases e : j = k
                    · subst e; exact hnk
                    · exact g7 j (by omega) f
                  · rw [if_neg e1]
                    refine ⟨v, w, rfl, fA_t q qv, ?_, fun _ => e1⟩
                    rcases a1 with a1 | ⟨G, g1, g2, g3, g4, g5⟩
                    · exact absurd a1 e1
                    · refine Or.inr ⟨G, g1, g2, fun j q => g3 j (Or.inl q), fun i hi hi2 => ?_, g5⟩
                      by_cases e : i = l
                      · subst e
                        exact ⟨k, f, g3 k (Or.inr rfl)⟩
                      · exact g4 i (by omega) hi2
              · rw [if_pos (by rw [wL_bit0 (by omega)]; exact f)]
                exact skip (fun _ _ e => absurd e f)
          obtain ⟨v, w, ev, qv, a1, a2⟩ := key 0 (Nat.zero_le _) u T (fA_r _ _) (fun _ q => q)
          refine ⟨v, w, ev, qv, a1, ?_⟩
          rintro ⟨G, g1, g2, g3, g4, g5, g6⟩
          exact a2 ⟨G, g1, g2, g3, g4, g5, g6, fun j hj => absurd hj (Nat.not_lt_zero j)⟩
      · have hlc2 : l = c := by omega
        subst hlc2
        obtain ⟨v, b2, ev, qv, hb2⟩ := Rs_holds C (fun k => U k ∧ ¬ Q k) (d + (m + 1))
        rw [show d + (m + 1) + 4 = d + 4 + (m + 1) by omega] at ev
        simp (disch := first | assumption | omega) only [hc_ck, hc_gi, hc_gl, hc_gp, ap_I, ap_L, kd_I, kd_L, kd_P, kd_rI, ar_I, ar_L, ar_P, al_I, al_L, al_P, hop_s, cond_true, cond_false, pc_I_I, pc_L_L, pc_P_P, pc_I_L, pc_I_P, pc_L_I, pc_L_P, pc_P_I, pc_P_L, pc_sS_I, pc_sS_L, pc_sS_P, I_rI, L_rI, P_rI, S_rI, cv_r, ci_r, cl_r, o1_b, o1_0, o1_1, lc_e, nI_1, nI_add, if_true, if_false, Nat.reduceEqDiff, Nat.left_eq_add, Nat.add_eq_left, false_and, and_false, true_and, and_true, and_self, eq_self, R.1, n_lt, Nat.lt_irrefl, C.2.2.2.2.2.2.1, wL_an, Lc_k74, ev, bo_0]
        cases b2 with
        | true =>
          simp only [Bool.true_eq_false, if_false]
          exact ⟨v, wL Q, rfl, qv, Or.inr ⟨Q, rfl, hQ, fun _ q => q, fun i a b => absurd b (by omega), hb2.mp rfl⟩, fun _ => wL_m1 hQ⟩
        | false =>
          simp only [if_true]
          refine ⟨v, -1, rfl, qv, Or.inl rfl, ?_⟩
          rintro ⟨G, g1, g2, g3, g4, g5, g6⟩
          have ge := m_ueq g5 g2 hh
          exact absurd (hb2.mpr (l_mb (fun k q => ⟨q.1, fun e => q.2 (g2 k e)⟩) g6)) (by decide)
