/-! ===== the class's reasons: all of them; the question ===== -/
/-- of the class only what reasons work with changes -/
def fVr (h h' : am_H) : Prop := am_S h' = am_S h ∧ am_G h' = am_G h ∧ am_T h' = am_T h ∧ (∀ b, b < 61 ∨ b = 73 ∨ 76 ≤ b → am_I h' b = am_I h b ∧ am_L h' b = am_L h b) ∧ (∀ b j, ¬ (b = 61 ∧ j = 0) → ¬ (b = 74 ∧ j = 4) → am_P h' b j = am_P h b j)
theorem fVr_r (h : am_H) : fVr h h := ⟨rfl, rfl, rfl, fun _ _ => ⟨rfl, rfl⟩, fun _ _ _ _ => rfl⟩
theorem fVr_t {a b c : am_H} (h1 : fVr a b) (h2 : fVr b c) : fVr a c := by
  obtain ⟨a1, a2, a3, a4, a5⟩ := h1
  obtain ⟨b1, b2, b3, b4, b5⟩ := h2
  exact ⟨b1.trans a1, b2.trans a2, b3.trans a3, fun x p => ⟨(b4 x p).1.trans (a4 x p).1, (b4 x p).2.trans (a4 x p).2⟩, fun x j p q => (b5 x j p q).trans (a5 x j p q)⟩
theorem fA_Vr {h h' : am_H} (q : fA 61 h h') : fVr h h' := ⟨q.1, q.2.1, q.2.2.1, fun b p => q.2.2.2.1 b (by omega), fun b j p _ => q.2.2.2.2 b j (by omega)⟩
theorem fX_Vr {h h' : am_H} (q : fX (fun b => b = 75) h h') : fVr h h' := ⟨q.2.2.1, q.2.2.2.1, q.2.2.2.2.1, fun b p => ⟨by rw [q.1], q.2.2.2.2.2 b (by omega)⟩, fun b j _ _ => by rw [q.2.1]⟩
theorem fVr_I {h0 h : am_H} (q : fVr h0 h) (i : Nat) (v : Int32) : fVr h0 (am_sI h 74 i v) := by
  refine fVr_t q ⟨rfl, rfl, rfl, fun b p => ⟨?_, rfl⟩, fun _ _ _ _ => rfl⟩
  funext j
  rw [pc_I_I, if_neg (by omega)]
theorem fVr_L {h0 h : am_H} (q : fVr h0 h) {a : Nat} (ha : a = 74 ∨ a = 75) (i : Nat) (v : Int64) : fVr h0 (am_sL h a i v) := by
  refine fVr_t q ⟨rfl, rfl, rfl, fun b p => ⟨rfl, ?_⟩, fun _ _ _ _ => rfl⟩
  funext j
  rw [pc_L_L, if_neg (by omega)]
theorem fVr_lc {h h' : am_H} (q : fVr h h') (H : LcAt h) : LcAt h' := LcAt_of H q.1 (fun b j p => q.2.2.2.2 b j (by unfold mP at p; omega) (by unfold mP at p; omega))
theorem fVr_on {h h' : am_H} {o : Nat} {O : o_T} (q : fVr h h') (ho : o = 3 ∨ o = 20) (H : OnR h o O) : OnR h' o O := OnR_of H q.1 (fun j hj => by funext i; exact q.2.2.2.2 _ i (by omega) (by omega)) (fun j hj => (q.2.2.2.1 _ (by omega)).1)
theorem l_beM (O : o_T) (x y : Nat) : m_mo (fun S => l_be O S x y) := fun _ _ h q => l_mb h q
theorem Rs_find35 {o : Nat} {O : o_T} {x y : Nat} {U : Nat → Prop} (hU : ∀ k, U k → k < o_A O) (d : Nat) : ∀ n i, i + n = 5 → ∀ (h : am_H) (r : Nat → Int64) (v : Int64), RsC h o O x y U → am_I h 74 1 = nI i → (∀ j, j < i → am_L h 75 j = r j) → (∀ j, j < i → m_R (fun S => l_be O S x y) U (bs (r j))) → (∀ a b, a < b → b < i → r a ≠ r b) → (v = -1 ∧ (i ≤ 4 → ∀ S, m_R (fun S => l_be O S x y) U S → ∃ j, j < i ∧ r j = wL S) ∨ ∃ G : Nat → Prop, v = wL G ∧ (∀ k, G k → k < 32) ∧ (∀ j, j < i → ∃ k, bs (r j) k ∧ G k) ∧ l_be O (fun k => U k ∧ ¬ G k) x y ∧ i ≤ 4) →
    ∃ (h' : am_H) (m : Nat) (u : Nat → Int64), f_Rs_findAll_35 (d + 11) h 74 v (nI i) = some (.inr none, h') ∧ fVr h h' ∧ RsC h' o O x y U ∧ (∀ j, j ≠ 1 → am_I h' 74 j = am_I h 74 j) ∧ am_I h' 74 1 = nI m ∧ (∀ j, j < m → am_L h' 75 j = u j) ∧ m_L (fun S => l_be O S x y) U m u := by
  -- sorting at the end
  have fin : ∀ i (h : am_H) (r : Nat → Int64), i ≤ 5 → RsC h o O x y U → am_I h 74 1 = nI i → (∀ j, j < i → am_L h 75 j = r j) → (∀ j, j < i → m_R (fun S => l_be O S x y) U (bs (r j))) → (∀ a b, a < b → b < i → r a ≠ r b) → (i ≤ 4 → ∀ S, m_R (fun S => l_be O S x y) U S → ∃ j, j < i ∧ r j = wL S) →
      ∃ (h' : am_H) (m : Nat) (u : Nat → Int64), (am_ck h 74 4 <| am_cv (f_Rs_sortFound (d + 10) h 74) fun h_1 => some (.inr none, h_1)) = some (.inr none, h') ∧ fVr h h' ∧ RsC h' o O x y U ∧ (∀ j, j ≠ 1 → am_I h' 74 j = am_I h 74 j) ∧ am_I h' 74 1 = nI m ∧ (∀ j, j < m → am_L h' 75 j = u j) ∧ m_L (fun S => l_be O S x y) U m u := by
    intro i h r hi C e1 hr hR hne hall
    have H1 := C.1
    obtain ⟨g, u, eg, qg, gu, hp, hs⟩ := Rs_sortFound H1 hi e1 r hr hne (d + 10)
    refine ⟨g, i, u, ?_, fX_Vr qg, ?_, fun j _ => by rw [qg.1], by rw [qg.1]; exact e1, gu, hi, ?_, hs, ?_⟩
    · simp (disch := first | assumption | omega) only [hc_ck, hc_gi, hc_gl, hc_gp, ap_I, ap_L, kd_I, kd_L, kd_P, kd_rI, ar_I, ar_L, ar_P, al_I, al_L, al_P, hop_s, cond_true, cond_false, pc_I_I, pc_L_L, pc_P_P, pc_I_L, pc_I_P, pc_L_I, pc_L_P, pc_P_I, pc_P_L, pc_sS_I, pc_sS_L, pc_sS_P, I_rI, L_rI, P_rI, S_rI, cv_r, ci_r, cl_r, o1_b, o1_0, o1_1, lc_e, nI_1, nI_add, if_true, if_false, Nat.reduceEqDiff, Nat.left_eq_add, Nat.add_eq_left, false_and, and_false, true_and, and_true, and_self, eq_self, Lc_k74, eg]
    · obtain ⟨c1, c2, c3, c4, c5, c6, c7, c8⟩ := C
      refine ⟨fVr_lc (fX_Vr qg) c1, fVr_on (fX_Vr qg) c3 c2, c3, ?_, ?_, ?_, ?_, c8⟩
      · rw [qg.2.1]; exact c4
      · rw [qg.1]; exact c5
      · rw [qg.1]; exact c6
      · rw [qg.2.2.2.2.2 74 (by omega)]; exact c7
    · intro j hj
      obtain ⟨k, hk, e⟩ := hp.1 j hj
      rw [e]
      exact hR k hk
    · intro h4 S hS
      obtain ⟨k, hk, e⟩ := hall h4 S hS
      obtain ⟨j, hj, e2⟩ := hp.2.1 k hk
      exact ⟨j, hj, e2.trans e⟩
  intro n
  induction n with
  | zero =>
    intro i hi h r v C e1 hr hR hne hv
    have : i = 5 := by omega
    subst this
    obtain ⟨h', m, u, w⟩ := fin 5 h r (by omega) C e1 hr hR hne (fun c => absurd c (by omega))
    refine ⟨h', m, u, ?_⟩
    rw [e_Rs_findAll_35]
    simp (disch := first | assumption | omega) only [n_4, n_lt, show (4 : Nat) < 5 by omega, if_true]
    exact w
  | succ n ih =>
    intro i hi h r v C e1 hr hR hne hv
    have hi4 : ¬ 4 < i := by omega
    rcases hv with ⟨rfl, hall⟩ | ⟨G, rfl, g1, g2, g3, -⟩
    · obtain ⟨h', m, u, w⟩ := fin i h r (by omega) C e1 hr hR hne hall
      refine ⟨h', m, u, ?_⟩
      rw [e_Rs_findAll_35]
      simp (disch := first | assumption | omega) only [n_4, n_lt, hi4, if_false, lc_e, if_true]
      exact w
    · have H1 := C.1
      have okA := C.2.1.2.1.2.2.2.2.1
      obtain ⟨g, eg, qg⟩ := Rs_shrink C (fun k => U k ∧ ¬ G k) (d + 5)
      have Cg := RsC_f C qg
      have Hg := Cg.1
      -- the new one
      have hnew : m_R (fun S => l_be O S x y) U (m_sh (fun S => l_be O S x y) (o_A O) (fun k => U k ∧ ¬ G k)) := m_Rs (l_beM O x y) (fun k c => hU k c.1) (fun k c => c.1) g3
      have hnlt : ∀ k, m_sh (fun S => l_be O S x y) (o_A O) (fun k => U k ∧ ¬ G k) k → k < 64 := fun k c => by have := hU k (m_shs c).1; omega
      have hnG : ∀ k, m_sh (fun S => l_be O S x y) (o_A O) (fun k => U k ∧ ¬ G k) k → ¬ G k := fun k c => (m_shs c).2
      -- the heap with it
      have q2 : fVr h (am_sI (am_sL g 75 i (wL (m_sh (fun S => l_be O S x y) (o_A O) (fun k => U k ∧ ¬ G k)))) 74 1 (nI (i + 1))) := fVr_I (fVr_L (fA_Vr qg) (Or.inr rfl) _ _) _ _
      have C2 : RsC (am_sI (am_sL g 75 i (wL (m_sh (fun S => l_be O S x y) (o_A O) (fun k => U k ∧ ¬ G k)))) 74 1 (nI (i + 1))) o O x y U := by
        obtain ⟨c1, c2, c3, c4, c5, c6, c7, c8⟩ := Cg
        refine ⟨fVr_lc q2 H1, fVr_on q2 c3 C.2.1, c3, c4, ?_, ?_, ?_, c8⟩
        · simp only [hc_ck, hc_gi, hc_gl, hc_gp, ap_I, ap_L, kd_I, kd_L, kd_P, kd_rI, ar_I, ar_L, ar_P, al_I, al_L, al_P, hop_s, cond_true, cond_false, pc_I_I, pc_L_L, pc_P_P, pc_I_L, pc_I_P, pc_L_I, pc_L_P, pc_P_I, pc_P_L, pc_sS_I, pc_sS_L, pc_sS_P, I_rI, L_rI, P_rI, S_rI, cv_r, ci_r, cl_r, o1_b, o1_0, o1_1, lc_e, nI_1, nI_add, if_true, if_false, Nat.reduceEqDiff, Nat.left_eq_add, Nat.add_eq_left, false_and, and_false, true_and, and_true, and_self, eq_self]; exact c5
        · simp only [hc_ck, hc_gi, hc_gl, hc_gp, ap_I, ap_L, kd_I, kd_L, kd_P, kd_rI, ar_I, ar_L, ar_P, al_I, al_L, al_P, hop_s, cond_true, cond_false, pc_I_I, pc_L_L, pc_P_P, pc_I_L, pc_I_P, pc_L_I, pc_L_P, pc_P_I, pc_P_L, pc_sS_I, pc_sS_L, pc_sS_P, I_rI, L_rI, P_rI, S_rI, cv_r, ci_r, cl_r, o1_b, o1_0, o1_1, lc_e, nI_1, nI_add, if_true, if_false, Nat.reduceEqDiff, Nat.left_eq_add, Nat.add_eq_left, false_and, and_false, true_and, and_true, and_self, eq_self]; exact c6
        · simp only [hc_ck, hc_gi, hc_gl, hc_gp, ap_I, ap_L, kd_I, kd_L, kd_P, kd_rI, ar_I, ar_L, ar_P, al_I, al_L, al_P, hop_s, cond_true, cond_false, pc_I_I, pc_L_L, pc_P_P, pc_I_L, pc_I_P, pc_L_I, pc_L_P, pc_P_I, pc_P_L, pc_sS_I, pc_sS_L, pc_sS_P, I_rI, L_rI, P_rI, S_rI, cv_r, ci_r, cl_r, o1_b, o1_0, o1_1, lc_e, nI_1, nI_add, if_true, if_false, Nat.reduceEqDiff, Nat.left_eq_add, Nat.add_eq_left, false_and, and_false, true_and, and_true, and_self, eq_self]; exact c7
      have hr2 : ∀ j, j < i + 1 → am_L (am_sI (am_sL g 75 i (wL (m_sh (fun S => l_be O S x y) (o_A O) (fun k => U k ∧ ¬ G k)))) 74 1 (nI (i + 1))) 75 j = (if j = i then wL (m_sh (fun S => l_be O S x y) (o_A O) (fun k => U k ∧ ¬ G k)) else r j) := by
        intro j hj
        simp only [hc_ck, hc_gi, hc_gl, hc_gp, ap_I, ap_L, kd_I, kd_L, kd_P, kd_rI, ar_I, ar_L, ar_P, al_I, al_L, al_P, hop_s, cond_true, cond_false, pc_I_I, pc_L_L, pc_P_P, pc_I_L, pc_I_P, pc_L_I, pc_L_P, pc_P_I, pc_P_L, pc_sS_I, pc_sS_L, pc_sS_P, I_rI, L_rI, P_rI, S_rI, cv_r, ci_r, cl_r, o1_b, o1_0, o1_1, lc_e, nI_1, nI_add, if_true, if_false, Nat.reduceEqDiff, Nat.left_eq_add, Nat.add_eq_left, false_and, and_false, true_and, and_true, and_self, eq_self]
        by_cases e : j = i
        · rw [if_pos e, if_pos e]
        · rw [if_neg e, if_neg e, (qg.2.2.2.1 75 (by omega)).2]
          exact hr j (by omega)
      have hR2 : ∀ j, j < i + 1 → m_R (fun S => l_be O S x y) U (bs (if j = i then wL (m_sh (fun S => l_be O S x y) (o_A O) (fun k => U k ∧ ¬ G k)) else r j)) := by
        intro j hj
        by_cases e : j = i
        · rw [if_pos e, bs_L hnlt]; exact hnew
        · rw [if_neg e]; exact hR j (by omega)
      have hne2 : ∀ a b, a < b → b < i + 1 → (if a = i then wL (m_sh (fun S => l_be O S x y) (o_A O) (fun k => U k ∧ ¬ G k)) else r a) ≠ (if b = i then wL (m_sh (fun S => l_be O S x y) (o_A O) (fun k => U k ∧ ¬ G k)) else r b) := by
        intro a b hab hb
        rw [if_neg (by omega)]
        by_cases e : b = i
        · rw [if_pos e]
          intro e2
          obtain ⟨k, k1, k2⟩ := g2 a (by omega)
          rw [e2, bs_L hnlt] at k1
          exact hnG k k1 k2
        · rw [if_neg e]
          exact hne a b hab (by omega)
      have e12 : am_I (am_sI (am_sL g 75 i (wL (m_sh (fun S => l_be O S x y) (o_A O) (fun k => U k ∧ ¬ G k)))) 74 1 (nI (i + 1))) 74 1 = nI (i + 1) := by simp only [hc_ck, hc_gi, hc_gl, hc_gp, ap_I, ap_L, kd_I, kd_L, kd_P, kd_rI, ar_I, ar_L, ar_P, al_I, al_L, al_P, hop_s, cond_true, cond_false, pc_I_I, pc_L_L, pc_P_P, pc_I_L, pc_I_P, pc_L_I, pc_L_P, pc_P_I, pc_P_L, pc_sS_I, pc_sS_L, pc_sS_P, I_rI, L_rI, P_rI, S_rI, cv_r, ci_r, cl_r, o1_b, o1_0, o1_1, lc_e, nI_1, nI_add, if_true, if_false, Nat.reduceEqDiff, Nat.left_eq_add, Nat.add_eq_left, false_and, and_false, true_and, and_true, and_self, eq_self]
      have eI : ∀ j, j ≠ 1 → am_I (am_sI (am_sL g 75 i (wL (m_sh (fun S => l_be O S x y) (o_A O) (fun k => U k ∧ ¬ G k)))) 74 1 (nI (i + 1))) 74 j = am_I h 74 j := by
        intro j hj
        simp only [hc_ck, hc_gi, hc_gl, hc_gp, ap_I, ap_L, kd_I, kd_L, kd_P, kd_rI, ar_I, ar_L, ar_P, al_I, al_L, al_P, hop_s, cond_true, cond_false, pc_I_I, pc_L_L, pc_P_P, pc_I_L, pc_I_P, pc_L_I, pc_L_P, pc_P_I, pc_P_L, pc_sS_I, pc_sS_L, pc_sS_P, I_rI, L_rI, P_rI, S_rI, cv_r, ci_r, cl_r, o1_b, o1_0, o1_1, lc_e, nI_1, nI_add, if_true, if_false, Nat.reduceEqDiff, Nat.left_eq_add, Nat.add_eq_left, false_and, and_false, true_and, and_true, and_self, eq_self]
        rw [if_neg hj, (qg.2.2.2.1 74 (by omega)).1]
      have H2 := C2.1
      rw [e_Rs_findAll_35]
      simp (disch := first | assumption | omega) only [hc_ck, hc_gi, hc_gl, hc_gp, ap_I, ap_L, kd_I, kd_L, kd_P, kd_rI, ar_I, ar_L, ar_P, al_I, al_L, al_P, hop_s, cond_true, cond_false, pc_I_I, pc_L_L, pc_P_P, pc_I_L, pc_I_P, pc_L_I, pc_L_P, pc_P_I, pc_P_L, pc_sS_I, pc_sS_L, pc_sS_P, I_rI, L_rI, P_rI, S_rI, cv_r, ci_r, cl_r, o1_b, o1_0, o1_1, lc_e, nI_1, nI_add, if_true, if_false, Nat.reduceEqDiff, Nat.left_eq_add, Nat.add_eq_left, false_and, and_false, true_and, and_true, and_self, eq_self, n_4, n_lt, hi4, if_neg (wL_m1 g1), Lc_k74, Lc_p74_0, C.2.2.2.2.2.2.1, wL_an, eg, Lc_r75, n_le]
      generalize am_sI (am_sL g 75 i (wL (m_sh (fun S => l_be O S x y) (o_A O) (fun k => U k ∧ ¬ G k)))) 74 1 (nI (i + 1)) = k2 at *
      by_cases h4 : 4 ≤ i
      · rw [if_pos h4]
        obtain ⟨h', m, u, w1, w2, w3, w4, w5⟩ := ih (i + 1) (by omega) k2 _ (-1) C2 e12 hr2 hR2 hne2 (Or.inl ⟨rfl, fun c => absurd c (by omega)⟩)
        exact ⟨h', m, u, w1, fVr_t q2 w2, w3, fun j hj => (w4 j hj).trans (eI j hj), w5⟩
      · rw [if_neg h4]
        obtain ⟨k3, v, ev, q3, f1, f2⟩ := Rs_freeing (c := i + 1) (F := fun j => bs (if j = i then wL (m_sh (fun S => l_be O S x y) (o_A O) (fun k => U k ∧ ¬ G k)) else r j)) (by omega) (fun j k hj c => hU k ((hR2 j hj).1 k c)) (d + 5 - (i + 1)) (i + 1) 0 k2 (fun _ => False) (fun _ => False) (by omega) (Nat.zero_le _) (fun _ f => f.elim) (fun j hj => absurd hj (Nat.not_lt_zero j)) C2 ⟨e12, fun j hj => (hr2 j hj).trans (bs_w _).symm⟩
        have ez : wL (fun _ => False) = 0 := wL_0.mpr (fun _ _ => id)
        rw [ez, show d + 5 - (i + 1) + 5 + (i + 1) = d + 10 by omega] at ev
        have ev' : f_Rs_freeing (d + 10) k2 74 0 0 0 = some (.inr (some (.long v)), k3) := ev
        have C3 := RsC_f C2 q3
        rw [ev']
        simp only [cl_r]
        have gI : ∀ j, am_I k3 74 j = am_I k2 74 j := fun j => by rw [(q3.2.2.2.1 74 (by omega)).1]
        obtain ⟨h', m, u, w1, w2, w3, w4, w5⟩ := ih (i + 1) (by omega) k3 _ v C3 (by rw [gI]; exact e12) (fun j hj => by rw [(q3.2.2.2.1 75 (by omega)).2]; exact hr2 j hj) hR2 hne2 (by
          by_cases e : v = -1
          · refine Or.inl ⟨e, fun _ S hS => ?_⟩
            apply Classical.byContradiction
            intro hn
            apply f2 _ e
            have hmiss : ∀ j, j < i + 1 → ∃ k, bs (if j = i then wL (m_sh (fun S => l_be O S x y) (o_A O) (fun k => U k ∧ ¬ G k)) else r j) k ∧ (U k ∧ ¬ S k) := by
              intro j hj
              apply Classical.byContradiction
              intro q
              have hsub : ∀ k, bs (if j = i then wL (m_sh (fun S => l_be O S x y) (o_A O) (fun k => U k ∧ ¬ G k)) else r j) k → S k := fun k c => Classical.byContradiction (fun ns => q ⟨k, c, (hR2 j hj).1 k c, ns⟩)
              have hsup := m_Re (l_beM O x y) (hR2 j hj).2.1 hS hsub
              refine hn ⟨j, hj, ?_⟩
              rw [← bs_w (if j = i then wL (m_sh (fun S => l_be O S x y) (o_A O) (fun k => U k ∧ ¬ G k)) else r j)]
              exact wL_cong (fun k _ => ⟨hsub k, hsup k⟩)
            obtain ⟨G2, a1, a2, a3⟩ := m_hit _ (i + 1) (fun k => U k ∧ ¬ S k) (fun k c => by have := hU k c.1; omega) hmiss
            exact ⟨G2, fun k c => hU k (a1 k c).1, fun _ f => f.elim, fun _ f => f.elim, a2, fun k c => a3 k c, l_mb (fun k c => ⟨hS.1 k c, fun q => (a1 k q).2 c⟩) hS.2.1⟩
          · rcases f1 with f1 | ⟨G2, a1, a2, a3, a4, a5⟩
            · exact absurd f1 e
            · exact Or.inr ⟨G2, a1, a2, fun j hj => a4 j (Nat.zero_le _) hj, a5, by omega⟩)
        exact ⟨h', m, u, w1, fVr_t (fVr_t q2 (fA_Vr q3)) w2, w3, fun j hj => (w4 j hj).trans ((gI j).trans (eI j hj)), w5⟩
