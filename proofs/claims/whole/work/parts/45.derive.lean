/-! ===== the class's saturation: one part's derivation ===== -/
theorem z10 : ((1 : Int32) = 0) = False := by decide
theorem n_e0 (a : Nat) (ha : a < 4294967296) : (nI a = 0) = (a = 0) := n_eq a 0 ha (by omega)
theorem n_e1 (a : Nat) (ha : a < 4294967296) : (nI a = 1) = (a = 1) := n_eq a 1 ha (by omega)
theorem wL_f {P : Nat → Prop} {k : Nat} (hk : k < 64) : (xl (wL P) k = false) = ¬ P k := by
  apply propext
  rw [← Bool.not_eq_true, wL_x]
  exact ⟨fun h q => h ⟨hk, q⟩, fun h q => h q.2⟩
theorem wL_a0 {P Q : Nat → Prop} : (wL P &&& wL Q = 0) = ¬ ∃ k, k < 64 ∧ P k ∧ Q k := by
  apply propext
  rw [xl_eq0]
  constructor
  · rintro h ⟨k, hk, p, q⟩
    have := h k hk
    rw [xl_and, wL_x.mpr ⟨hk, p⟩, wL_x.mpr ⟨hk, q⟩] at this
    cases this
  · intro h k hk
    rw [xl_and]
    cases e1 : xl (wL P) k
    · rfl
    · cases e2 : xl (wL Q) k
      · rfl
      · exact absurd ⟨k, hk, (wL_x.mp e1).2, (wL_x.mp e2).2⟩ h
/-- longs alone change, and of them only those of W -/
def fX (W : Nat → Prop) (h h' : am_H) : Prop := am_I h' = am_I h ∧ am_P h' = am_P h ∧ am_S h' = am_S h ∧ am_G h' = am_G h ∧ am_T h' = am_T h ∧ ∀ b, ¬ W b → am_L h' b = am_L h b
theorem fX_r (W : Nat → Prop) (h : am_H) : fX W h h := ⟨rfl, rfl, rfl, rfl, rfl, fun _ _ => rfl⟩
theorem fX_t {W : Nat → Prop} {a b c : am_H} (h1 : fX W a b) (h2 : fX W b c) : fX W a c := by
  obtain ⟨a1, a2, a3, a4, a5, a6⟩ := h1
  obtain ⟨b1, b2, b3, b4, b5, b6⟩ := h2
  exact ⟨b1.trans a1, b2.trans a2, b3.trans a3, b4.trans a4, b5.trans a5, fun x hx => (b6 x hx).trans (a6 x hx)⟩
theorem fX_m {W V : Nat → Prop} {a b : am_H} (h1 : fX W a b) (h : ∀ b, W b → V b) : fX V a b := ⟨h1.1, h1.2.1, h1.2.2.1, h1.2.2.2.1, h1.2.2.2.2.1, fun b hb => h1.2.2.2.2.2 b (fun q => hb (h b q))⟩
theorem fX_w {W : Nat → Prop} {h0 h : am_H} (q : fX W h0 h) {a : Nat} (ha : W a) (i : Nat) (v : Int64) : fX W h0 (am_sL h a i v) := by
  refine fX_t q ⟨rfl, rfl, rfl, rfl, rfl, fun b hb => ?_⟩
  funext j
  rw [pc_L_L, if_neg]
  rintro ⟨rfl, -⟩
  exact hb ha
theorem fX_L {W : Nat → Prop} {s : Nat} {h h' : am_H} (q : fX W h h') (hW : ∀ b, W b → s < b ∧ b < s + 12) : fL s h h' := ⟨q.1, q.2.1, q.2.2.1, q.2.2.2.1, q.2.2.2.2.1, fun b hb => q.2.2.2.2.2 b (fun w => by have := hW b w; omega), fun j _ => by rw [q.2.2.2.2.2 s (fun w => by have := hW s w; omega)]⟩
/-- what is known of the parts T: A, K; what waits to be taken over: nA, nK -/
def SaD (h : am_H) (s : Nat) (O : o_T) (B T : Nat → Prop) (A : Nat → Nat → Prop) (K : Nat → Nat → Nat → Prop) (nA : Nat → Int64) (nK : Nat → Nat → Int64) : Prop :=
  am_L h s 4 = wL T ∧
  (∀ x, x < o_P O → T x → am_L h (s + 5) x = wL (A x) ∧ am_L h (s + 9) x = wL (fun y => ∃ r, K x r y) ∧ am_L h (s + 10) x = nA x ∧ ∀ r, r < o_R O → am_L h (s + 7) (x * 8 + r) = wL (K x r) ∧ am_L h (s + 8) (x * 8 + r) = wL (fun y => ∃ q, o_un O B q r ∧ K x q y) ∧ am_L h (s + 11) (x * 8 + r) = nK x r) ∧
  (∀ y, y < o_P O → am_L h (s + 6) y = wL (fun x => T x ∧ A x y))
def c_P (O : o_T) (B : Nat → Prop) (A : Nat → Nat → Prop) (K : Nat → Nat → Nat → Prop) (x p y : Nat) : Prop :=
  (o_pk O p = 3 ∧ A x p ∧ (o_pa O p = y ∨ o_pb O p = y)) ∨ (o_pk O p = 3 ∧ ¬ A x p ∧ (A x (o_pa O p) ∧ A x (o_pb O p)) ∧ p = y) ∨ (o_pk O p = 4 ∧ ¬ A x p ∧ (∃ z, (∃ r, o_un O B r (o_pa O p) ∧ K x r z) ∧ A z (o_pb O p)) ∧ p = y)
def c_N (O : o_T) (A : Nat → Nat → Prop) (x p r y : Nat) : Prop := o_pk O p = 4 ∧ A x p ∧ o_pa O p = r ∧ o_pb O p = y
theorem Sa_byParts {h : am_H} {s o : Nat} {O : o_T} {B T : Nat → Prop} {A : Nat → Nat → Prop} {K : Nat → Nat → Nat → Prop} {nA : Nat → Int64} {nK : Nat → Nat → Int64} (H : SaC h s o O B) (D : SaD h s O B T A K nA nK) {x : Nat} (hx : x < o_P O) (Tx : T x) (hT : ∀ r z, K x r z → T z ∧ z < o_P O) (hz : ∀ r, r < o_R O → nK x r = 0) (d : Nat) :
    ∃ h', f_Sa_byParts d h s (nI x) (wL (A x)) = some (.inr (some (.long (wL (fun y => ∃ p, p < o_P O ∧ c_P O B A K x p y)))), h') ∧ fX (fun b => b = s + 11) h h' ∧ (∀ r, r < o_R O → am_L h' (s + 11) (x * 8 + r) = wL (fun y => ∃ p, p < o_P O ∧ c_N O A x p r y)) ∧ (∀ j, j < x * 8 ∨ x * 8 + 8 ≤ j → am_L h' (s + 11) j = am_L h (s + 11) j) := by
  obtain ⟨-, D2, D3⟩ := D
  have ok : o_ok O := H.2.1.2.1
  obtain ⟨-, ok2, ok3, ok4, -, -, -, okP, -, -⟩ := ok
  have key : ∀ k, k ≤ o_P O → ∀ (g : am_H) (u : Int64), u = wL (fun y => ∃ p, p < k ∧ c_P O B A K x p y) → fX (fun b => b = s + 11) h g → (∀ r, r < o_R O → am_L g (s + 11) (x * 8 + r) = wL (fun y => ∃ p, p < k ∧ c_N O A x p r y)) → (∀ j, j < x * 8 ∨ x * 8 + 8 ≤ j → am_L g (s + 11) j = am_L h (s + 11) j) →
      ∃ h', f_Sa_byParts_6 d g s (nI x) (wL (A x)) u (nI k) = some (.inr (some (.long (wL (fun y => ∃ p, p < o_P O ∧ c_P O B A K x p y)))), h') ∧ fX (fun b => b = s + 11) h h' ∧ (∀ r, r < o_R O → am_L h' (s + 11) (x * 8 + r) = wL (fun y => ∃ p, p < o_P O ∧ c_N O A x p r y)) ∧ (∀ j, j < x * 8 ∨ x * 8 + 8 ≤ j → am_L h' (s + 11) j = am_L h (s + 11) j) := by
    refine dn ?_ ?_
    · intro g u hu q hr hj
      have Hg := SaC_f H (fX_L q (fun b hb => by omega))
      have H1 := SaC_at Hg
      refine ⟨g, ?_, q, hr, hj⟩
      rw [e_Sa_byParts_6]
      simp (disch := first | assumption | omega) only [hc_ck, hc_gi, hc_gl, hc_gp, hc_ap, kd_I, kd_L, kd_P, kd_rI, ar_I, ar_L, ar_P, al_I, al_L, al_P, hop_s, cond_true, cond_false, pc_I_I, pc_L_L, pc_P_P, pc_I_L, pc_I_P, pc_L_I, pc_L_P, pc_P_I, pc_P_L, pc_sS_I, pc_sS_L, pc_sS_P, I_rI, L_rI, P_rI, S_rI, cv_r, ci_r, cl_r, o1_b, o1_0, o1_1, lc_e, nI_1, nI_add, if_true, if_false, Sa_k, SaC_P, n_le, Nat.le_refl, hu]
    · intro k hk ih g u hu q hr hj
      have Hg := SaC_f H (fX_L q (fun b hb => by omega))
      have H1 := SaC_at Hg
      have H2 := SaC_on Hg
      have H3 := OnR_at H2
      have okk := okP k hk
      unfold o_okP at okk
      have hk3 : ¬ o_P O ≤ k := by omega
      have hpk : o_pk O k < 5 := by omega
      rw [e_Sa_byParts_6]
      simp (disch := first | assumption | omega) only [hc_ck, hc_gi, hc_gl, hc_gp, hc_ap, kd_I, kd_L, kd_P, kd_rI, ar_I, ar_L, ar_P, al_I, al_L, al_P, hop_s, cond_true, cond_false, pc_I_I, pc_L_L, pc_P_P, pc_I_L, pc_I_P, pc_L_I, pc_L_P, pc_P_I, pc_P_L, pc_sS_I, pc_sS_L, pc_sS_P, I_rI, L_rI, P_rI, S_rI, cv_r, ci_r, cl_r, o1_b, o1_0, o1_1, lc_e, nI_1, nI_add, if_true, if_false, Sa_k, SaC_P, SaC_o, On_k, On_p4, On_p5, On_p6, On_r6, On_r7, On_r8, OnR_pk, OnR_pa, OnR_pb, n_le, n_3, hk3, xl_t0]
      by_cases k3 : 3 ≤ o_pk O k
      · rw [if_pos k3]
        have hb : o_pa O k < 60 ∧ o_pb O k < 60 := by omega
        by_cases hA : A x k
        · simp only [show xl (wL (A x)) k = true from wL_x.mpr ⟨by omega, hA⟩, Bool.true_eq_false, if_false]
          by_cases e3 : o_pk O k = 3
          · simp (disch := first | assumption | omega) only [hc_ck, hc_gi, hc_gl, hc_gp, hc_ap, kd_I, kd_L, kd_P, kd_rI, ar_I, ar_L, ar_P, al_I, al_L, al_P, hop_s, cond_true, cond_false, pc_I_I, pc_L_L, pc_P_P, pc_I_L, pc_I_P, pc_L_I, pc_L_P, pc_P_I, pc_P_L, pc_sS_I, pc_sS_L, pc_sS_P, I_rI, L_rI, P_rI, S_rI, cv_r, ci_r, cl_r, o1_b, o1_0, o1_1, lc_e, nI_1, nI_add, if_true, if_false, e_Sa_byParts_76, e_Sa_byParts_195, e3, n_3, z10, n_eq]
            refine ih _ _ ?_ q ?_ hj
            · apply wL_of
              intro y hy
              rw [xl_or, xl_or, xl_b1 (by omega), xl_b1 (by omega), hu, Bool.or_eq_true, Bool.or_eq_true, wL_x, decide_eq_true_iff, decide_eq_true_iff]
              constructor
              · rintro (⟨-, p, h1, h2⟩ | rfl | rfl)
                · exact ⟨p, by omega, h2⟩
                · exact ⟨k, by omega, Or.inl ⟨e3, hA, Or.inl rfl⟩⟩
                · exact ⟨k, by omega, Or.inl ⟨e3, hA, Or.inr rfl⟩⟩
              · rintro ⟨p, h1, h2⟩
                by_cases e : p = k
                · subst e
                  rcases h2 with ⟨-, -, h2 | h2⟩ | ⟨-, h2, -⟩ | ⟨h2, -⟩
                  · exact Or.inr (Or.inl h2.symm)
                  · exact Or.inr (Or.inr h2.symm)
                  · exact absurd hA h2
                  · omega
                · exact Or.inl ⟨hy, p, by omega, h2⟩
            · intro r hr'
              rw [hr r hr']
              apply wL_cong
              intro y hy
              constructor
              · rintro ⟨p, h1, h2⟩
                exact ⟨p, by omega, h2⟩
              · rintro ⟨p, h1, h2⟩
                by_cases e : p = k
                · subst e; have := h2.1; omega
                · exact ⟨p, by omega, h2⟩
          · have e4 : o_pk O k = 4 := by omega
            have hpa : o_pa O k < o_R O := by omega
            simp (disch := first | assumption | omega) only [hc_ck, hc_gi, hc_gl, hc_gp, hc_ap, kd_I, kd_L, kd_P, kd_rI, ar_I, ar_L, ar_P, al_I, al_L, al_P, hop_s, cond_true, cond_false, pc_I_I, pc_L_L, pc_P_P, pc_I_L, pc_I_P, pc_L_I, pc_L_P, pc_P_I, pc_P_L, pc_sS_I, pc_sS_L, pc_sS_P, I_rI, L_rI, P_rI, S_rI, cv_r, ci_r, cl_r, o1_b, o1_0, o1_1, lc_e, nI_1, nI_add, if_true, if_false, e_Sa_byParts_76, e_Sa_byParts_195, e4, n_3, z10, n_eq, Sa_k, Sa_p17, n_m8, Sa_r11, show ¬ (4 : Nat) = 3 by omega]
            refine ih _ _ ?_ (fX_w q rfl _ _) ?_ ?_
            · rw [hu]
              apply wL_cong
              intro y hy
              constructor
              · rintro ⟨p, h1, h2⟩
                exact ⟨p, by omega, h2⟩
              · rintro ⟨p, h1, h2⟩
                by_cases e : p = k
                · subst e
                  rcases h2 with ⟨h2, -⟩ | ⟨h2, -⟩ | ⟨-, h2, -⟩
                  · omega
                  · omega
                  · exact absurd hA h2
                · exact ⟨p, by omega, h2⟩
            · intro r hr'
              simp only [pc_L_L, true_and]
              by_cases e : r = o_pa O k
              · subst e
                rw [if_pos rfl, hr _ hpa]
                apply wL_of
                intro y hy
                rw [xl_or, xl_b1 (by omega), Bool.or_eq_true, wL_x, decide_eq_true_iff]
                constructor
                · rintro (⟨-, p, h1, h2⟩ | rfl)
                  · exact ⟨p, by omega, h2⟩
                  · exact ⟨k, by omega, e4, hA, rfl, rfl⟩
                · rintro ⟨p, h1, h2⟩
                  by_cases e : p = k
                  · subst e; exact Or.inr h2.2.2.2.symm
                  · exact Or.inl ⟨hy, p, by omega, h2⟩
              · rw [if_neg (by omega), hr r hr']
                apply wL_cong
                intro y hy
                constructor
                · rintro ⟨p, h1, h2⟩
                  exact ⟨p, by omega, h2⟩
                · rintro ⟨p, h1, h2⟩
                  by_cases e' : p = k
                  · subst e'; exact absurd h2.2.2.1.symm e
                  · exact ⟨p, by omega, h2⟩
            · intro j hj'
              simp only [pc_L_L, true_and]
              rw [if_neg (by omega)]
              exact hj j hj'
        · simp only [show xl (wL (A x)) k = false from cast (wL_f (by omega)).symm hA, if_true]
          have hN : ∀ r, r < o_R O → am_L g (s + 11) (x * 8 + r) = wL (fun y => ∃ p, p < k + 1 ∧ c_N O A x p r y) := by
            intro r hr'
            rw [hr r hr']
            apply wL_cong
            intro y hy
            constructor
            · rintro ⟨p, h1, h2⟩
              exact ⟨p, by omega, h2⟩
            · rintro ⟨p, h1, h2⟩
              by_cases e : p = k
              · subst e; exact absurd h2.2.1 hA
              · exact ⟨p, by omega, h2⟩
          have hno : ¬ (∃ y, c_P O B A K x k y) → u = wL (fun y => ∃ p, p < k + 1 ∧ c_P O B A K x p y) := by
            intro hc
            rw [hu]
            apply wL_cong
            intro y hy
            constructor
            · rintro ⟨p, h1, h2⟩
              exact ⟨p, by omega, h2⟩
            · rintro ⟨p, h1, h2⟩
              by_cases e : p = k
              · subst e; exact absurd ⟨y, h2⟩ hc
              · exact ⟨p, by omega, h2⟩
          have hyes : c_P O B A K x k k → u ||| am_lshl 1 (nI k) = wL (fun y => ∃ p, p < k + 1 ∧ c_P O B A K x p y) := by
            intro hc
            apply wL_of
            intro y hy
            rw [xl_or, xl_b1 (by omega), hu, Bool.or_eq_true, wL_x, decide_eq_true_iff]
            constructor
            · rintro (⟨-, p, h1, h2⟩ | rfl)
              · exact ⟨p, by omega, h2⟩
              · exact ⟨y, by omega, hc⟩
            · rintro ⟨p, h1, h2⟩
              by_cases e : p = k
              · subst e
                rcases h2 with ⟨-, h2, -⟩ | ⟨-, -, -, h2⟩ | ⟨-, -, -, h2⟩
                · exact absurd h2 hA
                · exact Or.inr h2.symm
                · exact Or.inr h2.symm
              · exact Or.inl ⟨hy, p, by omega, h2⟩
          by_cases e3 : o_pk O k = 3
          · simp (disch := first | assumption | omega) only [hc_ck, hc_gi, hc_gl, hc_gp, hc_ap, kd_I, kd_L, kd_P, kd_rI, ar_I, ar_L, ar_P, al_I, al_L, al_P, hop_s, cond_true, cond_false, pc_I_I, pc_L_L, pc_P_P, pc_I_L, pc_I_P, pc_L_I, pc_L_P, pc_P_I, pc_P_L, pc_sS_I, pc_sS_L, pc_sS_P, I_rI, L_rI, P_rI, S_rI, cv_r, ci_r, cl_r, o1_b, o1_0, o1_1, lc_e, nI_1, nI_add, if_true, if_false, e_Sa_byParts_76, e_Sa_byParts_195, e3, n_3, n_eq, xl_t2]
            by_cases hc : A x (o_pa O k) ∧ A x (o_pb O k)
            · rw [if_neg (by
                rw [wL_x.mpr ⟨by omega, hc.1⟩, wL_x.mpr ⟨by omega, hc.2⟩]
                decide)]
              exact ih _ _ (hyes (Or.inr (Or.inl ⟨e3, hA, hc, rfl⟩))) q hN hj
            · rw [if_pos (by
                cases e1 : xl (wL (A x)) (o_pa O k)
                · rfl
                · cases e2 : xl (wL (A x)) (o_pb O k)
                  · rfl
                  · exact absurd ⟨(wL_x.mp e1).2, (wL_x.mp e2).2⟩ hc)]
              refine ih _ _ (hno ?_) q hN hj
              rintro ⟨y, ⟨-, h2, -⟩ | ⟨-, -, h2, -⟩ | ⟨h2, -⟩⟩
              · exact absurd h2 hA
              · exact absurd h2 hc
              · omega
          · have e4 : o_pk O k = 4 := by omega
            have hpa : o_pa O k < o_R O := by omega
            have hpb : o_pb O k < o_P O := by omega
            have er : am_L g (s + 8) (x * 8 + o_pa O k) = wL (fun y => ∃ q, o_un O B q (o_pa O k) ∧ K x q y) := by
              rw [q.2.2.2.2.2 (s + 8) (by omega)]
              exact ((D2 x hx Tx).2.2.2 _ hpa).2.1
            have eh : am_L g (s + 6) (o_pb O k) = wL (fun x => T x ∧ A x (o_pb O k)) := by
              rw [q.2.2.2.2.2 (s + 6) (by omega)]
              exact D3 _ hpb
            simp (disch := first | assumption | omega) only [hc_ck, hc_gi, hc_gl, hc_gp, hc_ap, kd_I, kd_L, kd_P, kd_rI, ar_I, ar_L, ar_P, al_I, al_L, al_P, hop_s, cond_true, cond_false, pc_I_I, pc_L_L, pc_P_P, pc_I_L, pc_I_P, pc_L_I, pc_L_P, pc_P_I, pc_P_L, pc_sS_I, pc_sS_L, pc_sS_P, I_rI, L_rI, P_rI, S_rI, cv_r, ci_r, cl_r, o1_b, o1_0, o1_1, lc_e, nI_1, nI_add, if_true, if_false, e_Sa_byParts_76, e_Sa_byParts_195, e4, n_3, n_eq, Sa_k, Sa_p14, Sa_p12, n_m8, Sa_r8, Sa_r6, show ¬ (4 : Nat) = 3 by omega, er, eh]
            by_cases hc : ∃ z, (∃ r, o_un O B r (o_pa O k) ∧ K x r z) ∧ A z (o_pb O k)
            · rw [if_neg (by
                rw [wL_a0]
                obtain ⟨z, ⟨r, h1, h2⟩, h3⟩ := hc
                have := hT r z h2
                exact fun h => h ⟨z, by omega, ⟨r, h1, h2⟩, this.1, h3⟩)]
              exact ih _ _ (hyes (Or.inr (Or.inr ⟨e4, hA, hc, rfl⟩))) q hN hj
            · rw [if_pos (by
                rw [wL_a0]
                rintro ⟨z, -, h1, -, h2⟩
                exact hc ⟨z, h1, h2⟩)]
              refine ih _ _ (hno ?_) q hN hj
              rintro ⟨y, ⟨-, h2, -⟩ | ⟨h2, -⟩ | ⟨-, -, h2, -⟩⟩
              · exact absurd h2 hA
              · omega
              · exact absurd h2 hc
      · rw [if_neg k3]
        simp only [e_Sa_byParts_195, nI_1]
        refine ih _ _ ?_ q ?_ hj
        · rw [hu]
          apply wL_cong
          intro y hy
          constructor
          · rintro ⟨p, h1, h2⟩
            exact ⟨p, by omega, h2⟩
          · rintro ⟨p, h1, h2⟩
            by_cases e : p = k
            · subst e
              rcases h2 with ⟨h2, -⟩ | ⟨h2, -⟩ | ⟨h2, -⟩ <;> omega
            · exact ⟨p, by omega, h2⟩
        · intro r hr'
          rw [hr r hr']
          apply wL_cong
          intro y hy
          constructor
          · rintro ⟨p, h1, h2⟩
            exact ⟨p, by omega, h2⟩
          · rintro ⟨p, h1, h2⟩
            by_cases e : p = k
            · subst e; have := h2.1; omega
            · exact ⟨p, by omega, h2⟩
  rw [e_Sa_byParts]
  refine key 0 (Nat.zero_le _) h 0 ?_ (fX_r _ _) ?_ (fun _ _ => rfl)
  · exact (wL_0.mpr (fun k _ => fun ⟨i, h, _⟩ => absurd h (Nat.not_lt_zero i))).symm
  · intro r hr
    rw [((D2 x hx Tx).2.2.2 r hr).2.2, hz r hr]
    exact (wL_0.mpr (fun k _ => fun ⟨i, h, _⟩ => absurd h (Nat.not_lt_zero i))).symm
