/-! ===== the class's saturation: the axioms laid out ===== -/
/-- ints alone change, and of them only those of s, but not how many parts and roles -/
def fI (s : Nat) (h h' : am_H) : Prop := am_L h' = am_L h ∧ am_P h' = am_P h ∧ am_S h' = am_S h ∧ am_G h' = am_G h ∧ am_T h' = am_T h ∧ (∀ b, b < s ∨ s + 12 ≤ b → am_I h' b = am_I h b) ∧ am_I h' s 2 = am_I h s 2 ∧ am_I h' s 3 = am_I h s 3
theorem fI_r (s : Nat) (h : am_H) : fI s h h := ⟨rfl, rfl, rfl, rfl, rfl, fun _ _ => rfl, rfl, rfl⟩
theorem fI_t {s : Nat} {a b c : am_H} (h1 : fI s a b) (h2 : fI s b c) : fI s a c := by
  obtain ⟨a1, a2, a3, a4, a5, a6, a7, a8⟩ := h1
  obtain ⟨b1, b2, b3, b4, b5, b6, b7, b8⟩ := h2
  exact ⟨b1.trans a1, b2.trans a2, b3.trans a3, b4.trans a4, b5.trans a5, fun x hx => (b6 x hx).trans (a6 x hx), b7.trans a7, b8.trans a8⟩
theorem fI_w {s : Nat} {h0 h : am_H} (q : fI s h0 h) {c : Nat} (h1 : 1 ≤ c) (h2 : c < 12) (i : Nat) (v : Int32) : fI s h0 (am_sI h (s + c) i v) := by
  refine fI_t q ⟨rfl, rfl, rfl, rfl, rfl, fun b hb => ?_, ?_, ?_⟩
  · funext j
    rw [pc_I_I, if_neg (by omega)]
  · rw [pc_I_I, if_neg (by omega)]
  · rw [pc_I_I, if_neg (by omega)]
theorem fI_f {s : Nat} {h0 h : am_H} (q : fI s h0 h) {i : Nat} (h1 : i ≠ 2) (h2 : i ≠ 3) (v : Int32) : fI s h0 (am_sI h s i v) := by
  refine fI_t q ⟨rfl, rfl, rfl, rfl, rfl, fun b hb => ?_, ?_, ?_⟩
  · funext j
    rw [pc_I_I, if_neg (by omega)]
  · rw [pc_I_I, if_neg (by omega)]
  · rw [pc_I_I, if_neg (by omega)]
/-- what stands before the axioms are laid out -/
def SaB (h : am_H) (s o : Nat) (O : o_T) (B : Nat → Prop) : Prop :=
  SaAt h s ∧ OnR h o O ∧ am_P h s 0 = some o ∧ am_I h s 2 = nI (o_P O) ∧ am_I h s 3 = nI (o_R O) ∧ am_L h s 1 = wL B ∧ (o + 17 ≤ s ∨ s + 12 ≤ o)
theorem SaB_at {h : am_H} {s o : Nat} {O : o_T} {B : Nat → Prop} (H : SaB h s o O B) : SaAt h s := H.1
theorem SaB_on {h : am_H} {s o : Nat} {O : o_T} {B : Nat → Prop} (H : SaB h s o O B) : OnR h o O := H.2.1
theorem SaB_o {h : am_H} {s o : Nat} {O : o_T} {B : Nat → Prop} (H : SaB h s o O B) : am_P h s 0 = some o := H.2.2.1
theorem SaB_P {h : am_H} {s o : Nat} {O : o_T} {B : Nat → Prop} (H : SaB h s o O B) : am_I h s 2 = nI (o_P O) := H.2.2.2.1
theorem SaB_R {h : am_H} {s o : Nat} {O : o_T} {B : Nat → Prop} (H : SaB h s o O B) : am_I h s 3 = nI (o_R O) := H.2.2.2.2.1
theorem SaB_B {h : am_H} {s o : Nat} {O : o_T} {B : Nat → Prop} (H : SaB h s o O B) : am_L h s 1 = wL B := H.2.2.2.2.2.1
theorem SaB_f {h h' : am_H} {s o : Nat} {O : o_T} {B : Nat → Prop} (H : SaB h s o O B) (q : fI s h h') : SaB h' s o O B := by
  obtain ⟨q1, q2, q3, q4, q5, q6, q7, q8⟩ := q
  obtain ⟨h1, h2, h3, h4, h5, h6, h7⟩ := H
  refine ⟨SaAt_of h1 q3 (fun j _ => by rw [q2]), OnR_of h2 q3 (fun j _ => by rw [q2]) (fun j hj => q6 _ (by omega)), ?_, ?_, ?_, ?_, h7⟩
  · rw [q2]; exact h3
  · rw [q7]; exact h4
  · rw [q8]; exact h5
  · rw [q1]; exact h6
theorem Sa_addStep {h : am_H} {s n : Nat} (H : SaAt h s) (e : am_I h s 5 = nI n) (hn : n < 64) (d : Nat) (a b : Int32) : f_Sa_addStep d h s a b = some (.inr none, am_sI (am_sI (am_sI h (s + 1) n a) (s + 2) n b) s 5 (nI (n + 1))) := by
  have h1 : ¬ 64 ≤ n := by omega
  rw [e_Sa_addStep]
  simp (disch := first | assumption | omega) only [hc_ck, hc_gi, hc_gl, hc_gp, hc_ap, kd_I, kd_L, kd_P, kd_rI, ar_I, ar_L, ar_P, al_I, al_L, al_P, hop_s, cond_true, cond_false, pc_I_I, pc_L_L, pc_P_P, pc_I_L, pc_I_P, pc_L_I, pc_L_P, pc_P_I, pc_P_L, pc_sS_I, pc_sS_L, pc_sS_P, I_rI, L_rI, P_rI, S_rI, cv_r, ci_r, cl_r, o1_b, o1_0, o1_1, lc_e, nI_1, nI_add, if_true, if_false, Nat.reduceEqDiff, Nat.left_eq_add, Nat.add_eq_left, false_and, and_false, true_and, and_true, and_self, eq_self, Sa_k, Sa_p6, Sa_p7, Sa_l1, Sa_l2, Sa_r1, Sa_r2, e, n_le, h1]
/-- one pass over the roles' axioms -/
theorem Sa_spreadUnder {h : am_H} {s o : Nat} {O : o_T} {B : Nat → Prop} (H : SaB h s o O B) (U : Nat → Nat → Prop) (hU : ∀ r, r < o_R O → am_I h (s + 4) r = wI (U r)) (hr : ∀ r, r < o_R O → U r r) (hs : ∀ r q, r < o_R O → U r q → o_un O B r q) (d : Nat) :
    ∃ (h' : am_H) (m : Bool) (V : Nat → Nat → Prop), f_Sa_spreadUnder d h s = some (.inr (some (.int (bo m))), h') ∧ fI s h h' ∧ (∀ b, b ≠ s + 4 → am_I h' b = am_I h b) ∧ (∀ r, r < o_R O → am_I h' (s + 4) r = wI (V r)) ∧ (∀ r q, r < o_R O → U r q → V r q) ∧ (∀ r q, r < o_R O → V r q → o_un O B r q) ∧ (∀ r p q, r < o_R O → U r p → o_di O B p q → V r q) ∧ (m = false → ∀ r q, r < o_R O → V r q → U r q) := by
  have ok : o_ok O := H.2.1.2.1
  have ok' := ok
  obtain ⟨-, ok2, ok3, ok4, ok5, -, -, -, okA, -⟩ := ok'
  have key : ∀ k, k ≤ o_A O → ∀ (u : am_H) (m : Bool) (V : Nat → Nat → Prop), fI s h u → (∀ b, b ≠ s + 4 → am_I u b = am_I h b) → (∀ r, r < o_R O → am_I u (s + 4) r = wI (V r)) → (∀ r q, r < o_R O → U r q → V r q) → (∀ r q, r < o_R O → V r q → o_un O B r q) → (∀ r j, r < o_R O → j < k → B j → o_ak O j = 2 → U r (o_a1 O j) → V r (o_a2 O j)) → (m = false → ∀ r q, r < o_R O → V r q → U r q) →
      ∃ (h' : am_H) (m2 : Bool) (V : Nat → Nat → Prop), f_Sa_spreadUnder_4 d u s (bo m) (nI k) = some (.inr (some (.int (bo m2))), h') ∧ fI s h h' ∧ (∀ b, b ≠ s + 4 → am_I h' b = am_I h b) ∧ (∀ r, r < o_R O → am_I h' (s + 4) r = wI (V r)) ∧ (∀ r q, r < o_R O → U r q → V r q) ∧ (∀ r q, r < o_R O → V r q → o_un O B r q) ∧ (∀ r p q, r < o_R O → U r p → o_di O B p q → V r q) ∧ (m2 = false → ∀ r q, r < o_R O → V r q → U r q) := by
    refine dn ?_ ?_
    · intro u m V q1 q2 hV hUV hVs hc hm
      have Hu := SaB_f H q1
      have H1 := SaB_at Hu
      have H2 := SaB_on Hu
      have H3 := OnR_at H2
      refine ⟨u, m, V, ?_, q1, q2, hV, hUV, hVs, ?_, hm⟩
      · rw [e_Sa_spreadUnder_4]
        simp (disch := first | assumption | omega) only [hc_ck, hc_gi, hc_gl, hc_gp, hc_ap, kd_I, kd_L, kd_P, kd_rI, ar_I, ar_L, ar_P, al_I, al_L, al_P, hop_s, cond_true, cond_false, pc_I_I, pc_L_L, pc_P_P, pc_I_L, pc_I_P, pc_L_I, pc_L_P, pc_P_I, pc_P_L, pc_sS_I, pc_sS_L, pc_sS_P, I_rI, L_rI, P_rI, S_rI, cv_r, ci_r, cl_r, o1_b, o1_0, o1_1, lc_e, nI_1, nI_add, if_true, if_false, Nat.reduceEqDiff, Nat.left_eq_add, Nat.add_eq_left, false_and, and_false, true_and, and_true, and_self, eq_self, Sa_k, SaB_o, On_k, OnR_A, n_le, Nat.le_refl]
      · rintro r p q hr' h1 ⟨k, h2, h3, h4, rfl, rfl⟩
        exact hc r k hr' h2 h3 h4 h1
    · intro k hk ih u m V q1 q2 hV hUV hVs hc hm
      have Hu := SaB_f H q1
      have H1 := SaB_at Hu
      have H2 := SaB_on Hu
      have H3 := OnR_at H2
      have hk3 : ¬ o_A O ≤ k := by omega
      have okk := okA k hk
      unfold o_okA at okk
      rw [e_Sa_spreadUnder_4]
      simp (disch := first | assumption | omega) only [hc_ck, hc_gi, hc_gl, hc_gp, hc_ap, kd_I, kd_L, kd_P, kd_rI, ar_I, ar_L, ar_P, al_I, al_L, al_P, hop_s, cond_true, cond_false, pc_I_I, pc_L_L, pc_P_P, pc_I_L, pc_I_P, pc_L_I, pc_L_P, pc_P_I, pc_P_L, pc_sS_I, pc_sS_L, pc_sS_P, I_rI, L_rI, P_rI, S_rI, cv_r, ci_r, cl_r, o1_b, o1_0, o1_1, lc_e, nI_1, nI_add, if_true, if_false, Nat.reduceEqDiff, Nat.left_eq_add, Nat.add_eq_left, false_and, and_false, true_and, and_true, and_self, eq_self, Sa_k, SaB_o, SaB_B, On_k, OnR_A, n_le, hk3, xl_t0, On_p11, On_r11, OnR_ak, n_2, n_eq]
      by_cases hB : B k
      · simp only [show xl (wL B) k = true from wL_x.mpr ⟨by omega, hB⟩, Bool.true_eq_false, if_false]
        by_cases e2 : o_ak O k = 2
        · rw [if_pos e2]
          have f1 : o_a1 O k < o_R O := by omega
          have f2 : o_a2 O k < o_R O := by omega
          have hdi : o_di O B (o_a1 O k) (o_a2 O k) := ⟨k, hk, hB, e2, rfl, rfl⟩
          have inner : ∀ i, i ≤ o_R O → ∀ (u : am_H) (m : Bool) (V : Nat → Nat → Prop), fI s h u → (∀ b, b ≠ s + 4 → am_I u b = am_I h b) → (∀ r, r < o_R O → am_I u (s + 4) r = wI (V r)) → (∀ r q, r < o_R O → U r q → V r q) → (∀ r q, r < o_R O → V r q → o_un O B r q) → (∀ r j, r < o_R O → j < k → B j → o_ak O j = 2 → U r (o_a1 O j) → V r (o_a2 O j)) → (∀ r, r < i → U r (o_a1 O k) → V r (o_a2 O k)) → (m = false → ∀ r q, r < o_R O → V r q → U r q) →
              ∃ (h' : am_H) (m2 : Bool) (V : Nat → Nat → Prop), f_Sa_spreadUnder_46 d u s (bo m) (nI k) (nI i) = some (.inr (some (.int (bo m2))), h') ∧ fI s h h' ∧ (∀ b, b ≠ s + 4 → am_I h' b = am_I h b) ∧ (∀ r, r < o_R O → am_I h' (s + 4) r = wI (V r)) ∧ (∀ r q, r < o_R O → U r q → V r q) ∧ (∀ r q, r < o_R O → V r q → o_un O B r q) ∧ (∀ r p q, r < o_R O → U r p → o_di O B p q → V r q) ∧ (m2 = false → ∀ r q, r < o_R O → V r q → U r q) := by
            refine dn ?_ ?_
            · intro u m V q1 q2 hV hUV hVs hc hi hm
              have Hu := SaB_f H q1
              have H1 := SaB_at Hu
              rw [e_Sa_spreadUnder_46]
              simp (disch := first | assumption | omega) only [hc_ck, hc_gi, hc_gl, hc_gp, hc_ap, kd_I, kd_L, kd_P, kd_rI, ar_I, ar_L, ar_P, al_I, al_L, al_P, hop_s, cond_true, cond_false, pc_I_I, pc_L_L, pc_P_P, pc_I_L, pc_I_P, pc_L_I, pc_L_P, pc_P_I, pc_P_L, pc_sS_I, pc_sS_L, pc_sS_P, I_rI, L_rI, P_rI, S_rI, cv_r, ci_r, cl_r, o1_b, o1_0, o1_1, lc_e, nI_1, nI_add, if_true, if_false, Nat.reduceEqDiff, Nat.left_eq_add, Nat.add_eq_left, false_and, and_false, true_and, and_true, and_self, eq_self, Sa_k, SaB_R, n_le, Nat.le_refl]
              refine ih u m V q1 q2 hV hUV hVs ?_ hm
              intro r j hr' hj hB' h2 h3
              by_cases e : j = k
              · subst e; exact hi r hr' h3
              · exact hc r j hr' (by omega) hB' h2 h3
            · intro i hi ih2 u m V q1 q2 hV hUV hVs hc hci hm
              have Hu := SaB_f H q1
              have H1 := SaB_at Hu
              have H2 := SaB_on Hu
              have H3 := OnR_at H2
              have hi3 : ¬ o_R O ≤ i := by omega
              have ea : am_I u (s + 4) i = wI (V i) := hV i hi
              have eb : am_I u (s + 4) (o_a2 O k) = wI (V (o_a2 O k)) := hV _ f2
              rw [e_Sa_spreadUnder_46]
              simp (disch := first | assumption | omega) only [hc_ck, hc_gi, hc_gl, hc_gp, hc_ap, kd_I, kd_L, kd_P, kd_rI, ar_I, ar_L, ar_P, al_I, al_L, al_P, hop_s, cond_true, cond_false, pc_I_I, pc_L_L, pc_P_P, pc_I_L, pc_I_P, pc_L_I, pc_L_P, pc_P_I, pc_P_L, pc_sS_I, pc_sS_L, pc_sS_P, I_rI, L_rI, P_rI, S_rI, cv_r, ci_r, cl_r, o1_b, o1_0, o1_1, lc_e, nI_1, nI_add, if_true, if_false, Nat.reduceEqDiff, Nat.left_eq_add, Nat.add_eq_left, false_and, and_false, true_and, and_true, and_self, eq_self, Sa_k, SaB_R, SaB_o, n_le, hi3, Sa_p10, Sa_r4, On_k, On_p12, On_p13, On_r12, On_r13, OnR_a1, OnR_a2, ea, eb, yi_t0]
              by_cases hv : V i (o_a1 O k)
              · simp only [show yi (wI (V i)) (o_a1 O k) = true from wI_x.mpr ⟨by omega, hv⟩, Bool.true_eq_false, if_false]
                by_cases ee : wI (V i) ||| wI (V (o_a2 O k)) = wI (V i)
                · rw [if_pos ee]
                  refine ih2 u m V q1 q2 hV hUV hVs hc ?_ hm
                  intro r hr' h3
                  by_cases e : r = i
                  · subst e
                    have : yi (wI (V r) ||| wI (V (o_a2 O k))) (o_a2 O k) = true := by
                      rw [yi_or, Bool.or_eq_true]
                      exact Or.inr (wI_x.mpr ⟨by omega, hUV _ _ f2 (hr _ f2)⟩)
                    rw [ee] at this
                    exact (wI_x.mp this).2
                  · exact hci r (by omega) h3
                · rw [if_neg ee]
                  refine ih2 _ true (fun r q => V r q ∨ (r = i ∧ V (o_a2 O k) q)) (fI_w q1 (by omega) (by omega) _ _) ?_ ?_ ?_ ?_ ?_ ?_ (fun q => by cases q)
                  · intro b hb
                    funext j
                    rw [pc_I_I, if_neg (by omega), q2 b hb]
                  · intro r hr'
                    rw [pc_I_I]
                    by_cases e : r = i
                    · subst e
                      rw [if_pos ⟨rfl, rfl⟩]
                      apply wI_of
                      intro q hq
                      rw [yi_or, Bool.or_eq_true, wI_x, wI_x]
                      exact ⟨fun p => p.imp And.right (fun c => ⟨rfl, c.2⟩), fun p => p.imp (fun c => ⟨hq, c⟩) (fun c => ⟨hq, c.2⟩)⟩
                    · rw [if_neg (by omega), hV r hr']
                      exact wI_cong (fun q _ => ⟨Or.inl, fun p => p.elim id (fun c => absurd c.1 e)⟩)
                  · exact fun r q hr' p => Or.inl (hUV r q hr' p)
                  · rintro r q hr' (p | ⟨rfl, p⟩)
                    · exact hVs r q hr' p
                    · exact o_un_tr (hVs r _ hr' hv) (o_un_tr (o_un_d hdi) (hVs _ q f2 p))
                  · exact fun r j hr' hj hB' h2 h3 => Or.inl (hc r j hr' hj hB' h2 h3)
                  · intro r hr' h3
                    by_cases e : r = i
                    · exact Or.inr ⟨e, hUV _ _ f2 (hr _ f2)⟩
                    · exact Or.inl (hci r (by omega) h3)
              · simp only [show yi (wI (V i)) (o_a1 O k) = false from cast (wI_f (by omega)).symm hv, if_true]
                refine ih2 u m V q1 q2 hV hUV hVs hc ?_ hm
                intro r hr' h3
                by_cases e : r = i
                · subst e
                  exact absurd (hUV _ _ hi h3) hv
                · exact hci r (by omega) h3
          exact inner 0 (Nat.zero_le _) u m V q1 q2 hV hUV hVs hc (fun r hr' => absurd hr' (Nat.not_lt_zero r)) hm
        · rw [if_neg e2]
          refine ih u m V q1 q2 hV hUV hVs ?_ hm
          intro r j hr' hj hB' h2 h3
          by_cases e : j = k
          · subst e; exact absurd h2 e2
          · exact hc r j hr' (by omega) hB' h2 h3
      · simp only [show xl (wL B) k = false from cast (wL_f (by omega)).symm hB, if_true]
        refine ih u m V q1 q2 hV hUV hVs ?_ hm
        intro r j hr' hj hB' h2 h3
        by_cases e : j = k
        · subst e; exact absurd hB' hB
        · exact hc r j hr' (by omega) hB' h2 h3
  rw [e_Sa_spreadUnder]
  exact key 0 (Nat.zero_le _) h false U (fI_r _ _) (fun _ _ => rfl) hU (fun _ _ _ p => p) hs (fun r j _ hj => absurd hj (Nat.not_lt_zero j)) (fun _ _ _ _ p => p)
