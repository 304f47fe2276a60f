/-! ===== the reference: all reasons ===== -/
theorem n_m1 (k : Nat) (hk : k < 2147483648) : (nI k = -1) = False := by
  rw [show (-1 : Int32) = nI 4294967295 by decide]
  exact propext ⟨fun e => by have := (nI_e32 (by omega) (by omega)).mp e; omega, False.elim⟩
/-- every reason that keeps out of P and holds T is among those found -/
def m_fd (E : (Nat → Prop) → Prop) (B P T : Nat → Prop) (n : Nat) (r : Nat → Int64) : Prop := n ≤ 4 → ∀ S, m_R E B S → (∀ k, S k → ¬ P k) → (∀ k, T k → S k) → ∃ j, j < n ∧ r j = wL S
def m_ex (n n' : Nat) (r r' : Nat → Int64) : Prop := n ≤ n' ∧ ∀ j, j < n → r' j = r j
theorem m_ex_t {n1 n2 n3 : Nat} {r1 r2 r3 : Nat → Int64} (h1 : m_ex n1 n2 r1 r2) (h2 : m_ex n2 n3 r2 r3) : m_ex n1 n3 r1 r3 := ⟨Nat.le_trans h1.1 h2.1, fun j hj => (h2.2 j (Nat.lt_of_lt_of_le hj h1.1)).trans (h1.2 j hj)⟩
theorem m_ex_i {n n' : Nat} {r r' : Nat → Int64} {w : Int64} (h : m_ex n n' r r') (q : ∃ j, j < n ∧ r j = w) : ∃ j, j < n' ∧ r' j = w := by
  obtain ⟨j, a, b⟩ := q
  exact ⟨j, Nat.lt_of_lt_of_le a h.1, (h.2 j a).trans b⟩
theorem Rf_finds_b {f a b : Nat} {O : o_T} {B : Nat → Prop} {E : (Nat → Prop) → Prop} (hE : E = fun S => l_be O S (o_np O a) (o_np O b)) (hBA : ∀ k, B k → k < o_A O) (ha : a < o_N O) (hb : b < o_N O) (x : Nat) (P T : Nat → Prop) (hP : ∀ k, P k → k < o_A O)
    (hrec : ∀ e, e < o_A O → ¬ P e → ∀ (T : Nat → Prop) (h : am_H) (n : Nat) (r : Nat → Int64), RQ h f O B → RfR h f n r E B → ∃ (h' : am_H) (n' : Nat) (r' : Nat → Int64), f_Rf_finds (x + 6) h f (wL (fun j => P j ∨ j = e)) (wL T) (nI a) (nI b) = some (.inr none, h') ∧ fRr f h h' ∧ RfR h' f n' r' E B ∧ m_ex n n' r r' ∧ m_fd E B (fun j => P j ∨ j = e) T n' r')
    {h : am_H} {n : Nat} {r : Nat → Int64} (Q : RQ h f O B) (R : RfR h f n r E B) : ∃ (h' : am_H) (n' : Nat) (r' : Nat → Int64), f_Rf_finds (x + 7) h f (wL P) (wL T) (nI a) (nI b) = some (.inr none, h') ∧ fRr f h h' ∧ RfR h' f n' r' E B ∧ m_ex n n' r r' ∧ m_fd E B P T n' r' := by
  have okA := Q.2.1.2.1.2.2.2.2.1
  have H := Q.1
  have n5 := R.1
  have e36 := R.2.1
  have hEm : m_mo E := by rw [hE]; exact l_beM O _ _
  by_cases hn : n ≤ 4
  · have hP64 : ∀ k, P k → k < 64 := fun k c => by have := hP k c; omega
    rcases Rf_reasonWithout Q hBA ha hb (hE ▸ R) hn P hP64 x with ⟨g, eg, qg, Rg, hg⟩ | ⟨g, n1, r1, i, eg, qg, Rg, x1, x2, hi, hd⟩
    · rw [← hE] at Rg
      refine ⟨g, n, r, ?_, qg, Rg, ⟨Nat.le_refl _, fun _ _ => rfl⟩, ?_⟩
      · rw [e_Rf_finds]
        simp (disch := first | assumption | omega) only [hc_ck, hc_gi, hc_gl, hc_gp, ap_I, ap_L, kd_I, kd_L, kd_P, kd_rI, ar_I, ar_L, ar_P, al_I, al_L, al_P, hop_s, cond_true, cond_false, pc_I_I, pc_L_L, pc_P_P, pc_I_L, pc_I_P, pc_L_I, pc_L_P, pc_P_I, pc_P_L, pc_sS_I, pc_sS_L, pc_sS_P, I_rI, L_rI, P_rI, S_rI, cv_r, ci_r, cl_r, o1_b, o1_0, o1_1, lc_e, nI_1, nI_add, if_true, if_false, Nat.reduceEqDiff, Nat.left_eq_add, Nat.add_eq_left, false_and, and_false, true_and, and_true, and_self, eq_self, Rf_k, e36, n_4, n_le, hn, eg]
      · intro _ S hS hSP _
        refine absurd ?_ hg
        have hS2 := hS.2.1
        rw [hE] at hS2
        exact l_mb (fun k c => ⟨hS.1 k c, hSP k c⟩) hS2
    · rw [← hE] at Rg
      have Qg := RQ_f Q qg
      have Hg := Qg.1
      have g36 := Rg.2.1
      have hi31 : i < 2147483648 := by have := Rg.1; omega
      by_cases hn1 : n1 ≤ 4
      · have n15 := Rg.1
        have gw := Rg.2.2.1 i hi
        have gR := Rg.2.2.2.1 i hi
        have key : ∀ k, k ≤ o_A O → ∀ (u : am_H) (n2 : Nat) (r2 : Nat → Int64) (T2 : Nat → Prop), fRr f h u → RfR u f n2 r2 E B → m_ex n n2 r r2 → (∃ j, j < n2 ∧ r2 j = r1 i) → (n2 ≤ 4 → ∀ S, m_R E B S → (∀ k, S k → ¬ P k) → (∀ k, T k → S k) → (∃ j, j < n2 ∧ r2 j = wL S) ∨ ((∀ j, T2 j → S j) ∧ ∀ j, j < k → bs (r1 i) j → S j)) → ∃ (h' : am_H) (n' : Nat) (r' : Nat → Int64), f_Rf_finds_50 (x + 7) u f (wL P) (nI a) (nI b) (wL T2) (r1 i) (nI k) = some (.inr none, h') ∧ fRr f h h' ∧ RfR h' f n' r' E B ∧ m_ex n n' r r' ∧ m_fd E B P T n' r' := by
          refine dn ?_ ?_
          · intro u n2 r2 T2 qu Ru mx hf inv
            have Qu := RQ_f Q qu
            have H1 := Qu.1
            have R1 := Qu.2.1
            refine ⟨u, n2, r2, ?_, qu, Ru, mx, ?_⟩
            · rw [e_Rf_finds_50]
              simp (disch := first | assumption | omega) only [hc_ck, hc_gi, hc_gl, hc_gp, ap_I, ap_L, kd_I, kd_L, kd_P, kd_rI, ar_I, ar_L, ar_P, al_I, al_L, al_P, hop_s, cond_true, cond_false, pc_I_I, pc_L_L, pc_P_P, pc_I_L, pc_I_P, pc_L_I, pc_L_P, pc_P_I, pc_P_L, pc_sS_I, pc_sS_L, pc_sS_P, I_rI, L_rI, P_rI, S_rI, cv_r, ci_r, cl_r, o1_b, o1_0, o1_1, lc_e, nI_1, nI_add, if_true, if_false, Nat.reduceEqDiff, Nat.left_eq_add, Nat.add_eq_left, false_and, and_false, true_and, and_true, and_self, eq_self, Rf_k, Rf_p9, n_3, Rw_ar, Rw_A, n_le, Nat.le_refl]
            · intro c S hS hSP hST
              rcases inv c S hS hSP hST with q | ⟨-, q⟩
              · exact q
              · have q2 : ∀ k, bs (r1 i) k → S k := fun k e => q k (hBA k (gR.1 k e)) e
                have q3 := m_Re hEm gR.2.1 hS q2
                obtain ⟨j, j1, j2⟩ := hf
                refine ⟨j, j1, ?_⟩
                rw [j2, ← bs_w (r1 i)]
                exact wL_cong (fun k _ => ⟨q2 k, q3 k⟩)
          · intro k hk ih u n2 r2 T2 qu Ru mx hf inv
            have Qu := RQ_f Q qu
            have H1 := Qu.1
            have R1 := Qu.2.1
            have hk3 : ¬ o_A O ≤ k := by omega
            rw [e_Rf_finds_50]
            simp (disch := first | assumption | omega) only [hc_ck, hc_gi, hc_gl, hc_gp, ap_I, ap_L, kd_I, kd_L, kd_P, kd_rI, ar_I, ar_L, ar_P, al_I, al_L, al_P, hop_s, cond_true, cond_false, pc_I_I, pc_L_L, pc_P_P, pc_I_L, pc_I_P, pc_L_I, pc_L_P, pc_P_I, pc_P_L, pc_sS_I, pc_sS_L, pc_sS_P, I_rI, L_rI, P_rI, S_rI, cv_r, ci_r, cl_r, o1_b, o1_0, o1_1, lc_e, nI_1, nI_add, if_true, if_false, Nat.reduceEqDiff, Nat.left_eq_add, Nat.add_eq_left, false_and, and_false, true_and, and_true, and_self, eq_self, Rf_k, Rf_p9, n_3, Rw_ar, Rw_A, n_le, hk3, Rf_has, bo_0]
            by_cases c : xl (r1 i) k = true
            · by_cases c2 : T2 k
              · simp (disch := first | assumption | omega) only [c, Bool.true_eq_false, if_false, xl_wt (P := T2) (show k < 64 by omega) c2]
                refine ih u n2 r2 T2 qu Ru mx hf (fun e S hS hSP hST => (inv e S hS hSP hST).imp id (fun ⟨q1, q2⟩ => ⟨q1, fun j hj hb => ?_⟩))
                by_cases e : j = k
                · exact e ▸ q1 k c2
                · exact q2 j (by omega) hb
              · obtain ⟨v, n3, r3, ev, qv, Rv, mx3, fd⟩ := hrec k hk (hd k c) T2 u n2 r2 Qu Ru
                simp (disch := first | assumption | omega) only [c, Bool.true_eq_false, if_false, if_true, xl_wf (P := T2) (show k < 64 by omega) c2, wL_put, ev, cv_r]
                refine ih v n3 r3 (fun j => T2 j ∨ j = k) (fRr_t qu qv) Rv (m_ex_t mx mx3) (m_ex_i mx3 hf) ?_
                intro e S hS hSP hST
                have := mx3.1
                rcases inv (by omega) S hS hSP hST with q | ⟨q1, q2⟩
                · exact Or.inl (m_ex_i mx3 q)
                · by_cases s : S k
                  · refine Or.inr ⟨fun j q => q.elim (q1 j) (fun e => e ▸ s), fun j hj hb => ?_⟩
                    by_cases e : j = k
                    · exact e ▸ s
                    · exact q2 j (by omega) hb
                  · exact Or.inl (fd e S hS (fun j hj q => q.elim (hSP j hj) (fun e => s (e ▸ hj))) q1)
            · have c' : xl (r1 i) k = false := by simpa using c
              simp (disch := first | assumption | omega) only [c', if_true]
              refine ih u n2 r2 T2 qu Ru mx hf (fun e S hS hSP hST => (inv e S hS hSP hST).imp id (fun ⟨q1, q2⟩ => ⟨q1, fun j hj hb => ?_⟩))
              by_cases e : j = k
              · exact absurd (e ▸ hb) c
              · exact q2 j (by omega) hb
        rw [e_Rf_finds]
        have hi5 : i < 5 := by omega
        simp (disch := first | assumption | omega) only [hc_ck, hc_gi, hc_gl, hc_gp, ap_I, ap_L, kd_I, kd_L, kd_P, kd_rI, ar_I, ar_L, ar_P, al_I, al_L, al_P, hop_s, cond_true, cond_false, pc_I_I, pc_L_L, pc_P_P, pc_I_L, pc_I_P, pc_L_I, pc_L_P, pc_P_I, pc_P_L, pc_sS_I, pc_sS_L, pc_sS_P, I_rI, L_rI, P_rI, S_rI, cv_r, ci_r, cl_r, o1_b, o1_0, o1_1, lc_e, nI_1, nI_add, if_true, if_false, Nat.reduceEqDiff, Nat.left_eq_add, Nat.add_eq_left, false_and, and_false, true_and, and_true, and_self, eq_self, Rf_k, e36, n_4, n_le, hn, eg, n_m1, g36, hn1, Rf_p35, Rf_r1529, gw]
        exact key 0 (Nat.zero_le _) g n1 r1 T qg Rg ⟨x1, x2⟩ ⟨i, hi, rfl⟩ (fun _ S _ _ hST => Or.inr ⟨hST, fun j hj => absurd hj (Nat.not_lt_zero j)⟩)
      · refine ⟨g, n1, r1, ?_, qg, Rg, ⟨x1, x2⟩, fun c => absurd c hn1⟩
        have n15 := Rg.1
        rw [e_Rf_finds]
        simp (disch := first | assumption | omega) only [hc_ck, hc_gi, hc_gl, hc_gp, ap_I, ap_L, kd_I, kd_L, kd_P, kd_rI, ar_I, ar_L, ar_P, al_I, al_L, al_P, hop_s, cond_true, cond_false, pc_I_I, pc_L_L, pc_P_P, pc_I_L, pc_I_P, pc_L_I, pc_L_P, pc_P_I, pc_P_L, pc_sS_I, pc_sS_L, pc_sS_P, I_rI, L_rI, P_rI, S_rI, cv_r, ci_r, cl_r, o1_b, o1_0, o1_1, lc_e, nI_1, nI_add, if_true, if_false, Nat.reduceEqDiff, Nat.left_eq_add, Nat.add_eq_left, false_and, and_false, true_and, and_true, and_self, eq_self, Rf_k, e36, n_4, n_le, hn, eg, n_m1, g36, hn1]
  · refine ⟨h, n, r, ?_, fRr_r _ _, R, ⟨Nat.le_refl _, fun _ _ => rfl⟩, fun c => absurd c hn⟩
    rw [e_Rf_finds]
    simp (disch := first | assumption | omega) only [hc_ck, hc_gi, hc_gl, hc_gp, ap_I, ap_L, kd_I, kd_L, kd_P, kd_rI, ar_I, ar_L, ar_P, al_I, al_L, al_P, hop_s, cond_true, cond_false, pc_I_I, pc_L_L, pc_P_P, pc_I_L, pc_I_P, pc_L_I, pc_L_P, pc_P_I, pc_P_L, pc_sS_I, pc_sS_L, pc_sS_P, I_rI, L_rI, P_rI, S_rI, cv_r, ci_r, cl_r, o1_b, o1_0, o1_1, lc_e, nI_1, nI_add, if_true, if_false, Nat.reduceEqDiff, Nat.left_eq_add, Nat.add_eq_left, false_and, and_false, true_and, and_true, and_self, eq_self, Rf_k, e36, n_4, n_le, hn]
theorem Rf_finds {f a b : Nat} {O : o_T} {B : Nat → Prop} {E : (Nat → Prop) → Prop} (hE : E = fun S => l_be O S (o_np O a) (o_np O b)) (hBA : ∀ k, B k → k < o_A O) (ha : a < o_N O) (hb : b < o_N O) (d : Nat) : ∀ (m : Nat) (P T : Nat → Prop) (h : am_H) (n : Nat) (r : Nat → Int64), (∀ k, P k → k < o_A O) → ct (fun k => ¬ P k) (o_A O) ≤ m → RQ h f O B → RfR h f n r E B → ∃ (h' : am_H) (n' : Nat) (r' : Nat → Int64), f_Rf_finds (d + m + 7) h f (wL P) (wL T) (nI a) (nI b) = some (.inr none, h') ∧ fRr f h h' ∧ RfR h' f n' r' E B ∧ m_ex n n' r r' ∧ m_fd E B P T n' r' := by
  intro m
  induction m with
  | zero =>
    intro P T h n r hP hm Q R
    refine Rf_finds_b hE hBA ha hb d P T hP (fun e he hPe => ?_) Q R
    have := ct_pos (p := fun k => ¬ P k) he hPe
    omega
  | succ m ih =>
    intro P T h n r hP hm Q R
    refine Rf_finds_b hE hBA ha hb (d + (m + 1)) P T hP (fun e he hPe T h n r Q R => ?_) Q R
    refine ih (fun j => P j ∨ j = e) T h n r (fun k c => c.elim (hP k) (fun q => q ▸ he)) ?_ Q R
    have : ct (fun k => ¬ (P k ∨ k = e)) (o_A O) < ct (fun k => ¬ P k) (o_A O) := ct_lt (fun k _ c q => c (Or.inl q)) ⟨e, he, hPe, fun c => c (Or.inr rfl)⟩
    omega
theorem Rf_lR15 {h : am_H} {f : Nat} (H : RfAt h f) {c : Nat} (hc : c ≤ 5) (h1 : am_I h f 36 = nI c) (r : Nat → Int64) (hr : ∀ i, i < c → am_L h (f + 1529) i = r i) (hne : ∀ i j, i < j → j < c → r i ≠ r j) (d : Nat) : ∃ (h' : am_H) (u : Nat → Int64), f_Rf_laysReasons_15 d h f 1 = some (.inr (some (.int (bo (decide (c ≤ 4))))), h') ∧ fX (fun b => b = f + 1529) h h' ∧ (∀ i, i < c → am_L h' (f + 1529) i = u i) ∧ m_sp c r u ∧ m_so c u := by
  have at_ : ∀ g, fX (fun b => b = f + 1529) h g → RfAt g f ∧ am_I g f 36 = nI c := fun g q => ⟨RfAt_of H q.2.2.1 (fun b j _ => by rw [q.2.1]), by rw [q.1]; exact h1⟩
  have stop : ∀ k, c ≤ k → k ≤ 6 → ∀ (g : am_H) (u : Nat → Int64), fX (fun b => b = f + 1529) h g → (∀ i, i < c → am_L g (f + 1529) i = u i) → m_sp c r u → m_so c u → ∃ (h' : am_H) (u : Nat → Int64), f_Rf_laysReasons_15 d g f (nI k) = some (.inr (some (.int (bo (decide (c ≤ 4))))), h') ∧ fX (fun b => b = f + 1529) h h' ∧ (∀ i, i < c → am_L h' (f + 1529) i = u i) ∧ m_sp c r u ∧ m_so c u := by
    intro k hk hk6 g u q hu hp hs
    obtain ⟨Hg, e1⟩ := at_ g q
    refine ⟨g, u, ?_, q, hu, hp, hs⟩
    rw [e_Rf_laysReasons_15]
    simp (disch := first | assumption | omega) only [hc_ck, hc_gi, hc_gl, hc_gp, ap_I, ap_L, kd_I, kd_L, kd_P, kd_rI, ar_I, ar_L, ar_P, al_I, al_L, al_P, hop_s, cond_true, cond_false, pc_I_I, pc_L_L, pc_P_P, pc_I_L, pc_I_P, pc_L_I, pc_L_P, pc_P_I, pc_P_L, pc_sS_I, pc_sS_L, pc_sS_P, I_rI, L_rI, P_rI, S_rI, cv_r, ci_r, cl_r, o1_b, o1_0, o1_1, lc_e, nI_1, nI_add, if_true, if_false, Nat.reduceEqDiff, Nat.left_eq_add, Nat.add_eq_left, false_and, and_false, true_and, and_true, and_self, eq_self, Rf_k, e1, n_le, hk, n_4, n_lt]
    by_cases c4 : c ≤ 4
    · rw [if_neg (by omega), decide_eq_true c4]; rfl
    · rw [if_pos (by omega), decide_eq_false c4]; rfl
  have key : ∀ n k, k + n = c + 1 → 1 ≤ k → ∀ (g : am_H) (u : Nat → Int64), fX (fun b => b = f + 1529) h g → (∀ i, i < c → am_L g (f + 1529) i = u i) → m_sp c r u → m_so (if k ≤ c then k else c) u → ∃ (h' : am_H) (u : Nat → Int64), f_Rf_laysReasons_15 d g f (nI k) = some (.inr (some (.int (bo (decide (c ≤ 4))))), h') ∧ fX (fun b => b = f + 1529) h h' ∧ (∀ i, i < c → am_L h' (f + 1529) i = u i) ∧ m_sp c r u ∧ m_so c u := by
    intro n
    induction n with
    | zero =>
      intro k hk hk1 g u q hu hp hs
      rw [if_neg (by omega)] at hs
      exact stop k (by omega) (by omega) g u q hu hp hs
    | succ n ih =>
      intro k hk hk1 g u q hu hp hs
      obtain ⟨Hg, e1⟩ := at_ g q
      rw [if_pos (by omega)] at hs
      by_cases hkc : c ≤ k
      · have : k = c := by omega
        subst this
        exact stop k hkc (by omega) g u q hu hp hs
      · have inner : ∀ i, i ≤ k → ∀ (g : am_H) (u : Nat → Int64), fX (fun b => b = f + 1529) h g → (∀ i, i < c → am_L g (f + 1529) i = u i) → m_sp c r u → m_si k i u → ∃ (h' : am_H) (u : Nat → Int64), f_Rf_laysReasons_26 d g f (nI k) (nI i) = some (.inr (some (.int (bo (decide (c ≤ 4))))), h') ∧ fX (fun b => b = f + 1529) h h' ∧ (∀ i, i < c → am_L h' (f + 1529) i = u i) ∧ m_sp c r u ∧ m_so c u := by
          intro i
          induction i with
          | zero =>
            intro _ g u q hu hp hs
            rw [e_Rf_laysReasons_26]
            simp (disch := first | assumption | omega) only [hc_ck, hc_gi, hc_gl, hc_gp, ap_I, ap_L, kd_I, kd_L, kd_P, kd_rI, ar_I, ar_L, ar_P, al_I, al_L, al_P, hop_s, cond_true, cond_false, pc_I_I, pc_L_L, pc_P_P, pc_I_L, pc_I_P, pc_L_I, pc_L_P, pc_P_I, pc_P_L, pc_sS_I, pc_sS_L, pc_sS_P, I_rI, L_rI, P_rI, S_rI, cv_r, ci_r, cl_r, o1_b, o1_0, o1_1, lc_e, nI_1, nI_add, if_true, if_false, Nat.reduceEqDiff, Nat.left_eq_add, Nat.add_eq_left, false_and, and_false, true_and, and_true, and_self, eq_self, n_0, n_le, Nat.le_refl]
            refine ih (k + 1) (by omega) (by omega) g u q hu hp ?_
            rw [if_pos (by omega)]
            exact m_si_0 hs
          | succ i ih2 =>
            intro hi g u q hu hp hs
            obtain ⟨Hg, e1⟩ := at_ g q
            have hi0 : ¬ i + 1 ≤ 0 := by omega
            rw [e_Rf_laysReasons_26]
            simp (disch := first | assumption | omega) only [hc_ck, hc_gi, hc_gl, hc_gp, ap_I, ap_L, kd_I, kd_L, kd_P, kd_rI, ar_I, ar_L, ar_P, al_I, al_L, al_P, hop_s, cond_true, cond_false, pc_I_I, pc_L_L, pc_P_P, pc_I_L, pc_I_P, pc_L_I, pc_L_P, pc_P_I, pc_P_L, pc_sS_I, pc_sS_L, pc_sS_P, I_rI, L_rI, P_rI, S_rI, cv_r, ci_r, cl_r, o1_b, o1_0, o1_1, lc_e, nI_1, nI_add, if_true, if_false, Nat.reduceEqDiff, Nat.left_eq_add, Nat.add_eq_left, false_and, and_false, true_and, and_true, and_self, eq_self, n_le0, hi0, Rf_k, Rf_p35, nI_pred, pk_m1, Rf_r1529, hu (i + 1) (by omega), hu i (by omega), lc_geq]
            by_cases c1 : u (i + 1) < u i
            · rw [if_neg (fun e => e c1)]
              refine ih2 (by omega) _ (m_sw u i) (fX_w (fX_w q rfl _ _) rfl _ _) ?_ (m_sp_s (by omega) hp) (m_si_s hi hs c1)
              intro t ht
              rw [pc_L_L, pc_L_L]
              by_cases t1 : t = i
              · rw [if_pos ⟨rfl, t1⟩, t1, m_swl]
              · rw [if_neg (by omega)]
                by_cases t2 : t = i + 1
                · rw [if_pos ⟨rfl, t2⟩, t2, m_swr]
                · rw [if_neg (by omega), m_swo u t1 t2]
                  exact hu t ht
            · rw [if_pos c1]
              refine ih (k + 1) (by omega) (by omega) g u q hu hp ?_
              rw [if_pos (by omega)]
              exact m_si_e hi hs (il_of c1 (fun e => hp.2.2 i (i + 1) (by omega) (by omega) e.symm))
        rw [e_Rf_laysReasons_15]
        simp (disch := first | assumption | omega) only [hc_ck, hc_gi, hc_gl, hc_gp, ap_I, ap_L, kd_I, kd_L, kd_P, kd_rI, ar_I, ar_L, ar_P, al_I, al_L, al_P, hop_s, cond_true, cond_false, pc_I_I, pc_L_L, pc_P_P, pc_I_L, pc_I_P, pc_L_I, pc_L_P, pc_P_I, pc_P_L, pc_sS_I, pc_sS_L, pc_sS_P, I_rI, L_rI, P_rI, S_rI, cv_r, ci_r, cl_r, o1_b, o1_0, o1_1, lc_e, nI_1, nI_add, if_true, if_false, Nat.reduceEqDiff, Nat.left_eq_add, Nat.add_eq_left, false_and, and_false, true_and, and_true, and_self, eq_self, Rf_k, e1, n_le, hkc]
        exact inner k (Nat.le_refl _) g u q hu hp (m_si_b hs)
  refine key c 1 (by omega) (Nat.le_refl _) h r (fX_r _ _) hr (m_sp_r hne) ?_
  intro a b hab hb
  split at hb <;> omega
theorem fRr_1529 {f : Nat} {h0 h h' : am_H} (q : fRr f h0 h) (x : fX (fun b => b = f + 1529) h h') : fRr f h0 h' := fRr_t q ⟨x.2.1, x.2.2.1, x.2.2.2.1, x.2.2.2.2.1, fun b _ _ _ => by rw [x.1], fun i _ _ _ => by rw [x.1], fun b _ r => x.2.2.2.2.2 b (by omega), fun j _ => by rw [x.2.2.2.2.2 f (by omega)], Or.inr ⟨by rw [x.1], by rw [x.1], fun b _ r => ⟨by rw [x.1], x.2.2.2.2.2 b (by omega)⟩⟩⟩
theorem Rf_laysReasons {h : am_H} {f a b : Nat} {O : o_T} {B : Nat → Prop} (Q : RQ h f O B) (hBA : ∀ k, B k → k < o_A O) (ha : a < o_N O) (hb : b < o_N O) (d : Nat) : ∃ (h' : am_H) (n : Nat) (r : Nat → Int64), f_Rf_laysReasons (d + 40) h f (nI a) (nI b) = some (.inr (some (.int (bo (decide (n ≤ 4))))), h') ∧ fRr f h h' ∧ am_I h' f 36 = nI n ∧ (∀ j, j < n → am_L h' (f + 1529) j = r j) ∧ m_L (fun S => l_be O S (o_np O a) (o_np O b)) B n r := by
  have okA := Q.2.1.2.1.2.2.2.2.1
  have H := Q.1
  have q0 : fRr f h (am_sI h f 36 0) := fRr_36 (fRr_r _ _) _
  obtain ⟨g, n, r, eg, qg, Rg, -, fd⟩ := Rf_finds (E := fun S => l_be O S (o_np O a) (o_np O b)) rfl hBA ha hb d 32 (fun _ => False) (fun _ => False) (am_sI h f 36 0) 0 (fun _ => 0) (fun _ c => c.elim) (Nat.le_trans (ct_le _ _) (by omega)) (RQ_f Q q0) ⟨by omega, by simp only [hc_ck, hc_gi, hc_gl, hc_gp, ap_I, ap_L, kd_I, kd_L, kd_P, kd_rI, ar_I, ar_L, ar_P, al_I, al_L, al_P, hop_s, cond_true, cond_false, pc_I_I, pc_L_L, pc_P_P, pc_I_L, pc_I_P, pc_L_I, pc_L_P, pc_P_I, pc_P_L, pc_sS_I, pc_sS_L, pc_sS_P, I_rI, L_rI, P_rI, S_rI, cv_r, ci_r, cl_r, o1_b, o1_0, o1_1, lc_e, nI_1, nI_add, if_true, if_false, Nat.reduceEqDiff, Nat.left_eq_add, Nat.add_eq_left, false_and, and_false, true_and, and_true, and_self, eq_self]; rfl, fun j hj => absurd hj (Nat.not_lt_zero j), fun j hj => absurd hj (Nat.not_lt_zero j), fun i j _ hj => absurd hj (Nat.not_lt_zero j)⟩
  rw [show wL (fun _ => False) = 0 from wL_0.mpr (fun _ _ => id)] at eg
  have qg := fRr_t q0 qg
  obtain ⟨g1, g2, g3, g4, g5⟩ := Rg
  obtain ⟨v, u, ev, xv, hu, sp, so⟩ := Rf_lR15 (RQ_f Q qg).1 g1 g2 r g3 g5 (d + 40)
  refine ⟨v, n, u, ?_, fRr_1529 qg xv, ?_, hu, g1, ?_, so, ?_⟩
  · rw [e_Rf_laysReasons]
    simp (disch := first | assumption | omega) only [hc_ck, hc_gi, hc_gl, hc_gp, ap_I, ap_L, kd_I, kd_L, kd_P, kd_rI, ar_I, ar_L, ar_P, al_I, al_L, al_P, hop_s, cond_true, cond_false, pc_I_I, pc_L_L, pc_P_P, pc_I_L, pc_I_P, pc_L_I, pc_L_P, pc_P_I, pc_P_L, pc_sS_I, pc_sS_L, pc_sS_P, I_rI, L_rI, P_rI, S_rI, cv_r, ci_r, cl_r, o1_b, o1_0, o1_1, lc_e, nI_1, nI_add, if_true, if_false, Nat.reduceEqDiff, Nat.left_eq_add, Nat.add_eq_left, false_and, and_false, true_and, and_true, and_self, eq_self, Rf_k, eg, ev]
  · rw [xv.1]; exact g2
  · intro i hi
    obtain ⟨j, j1, j2⟩ := sp.1 i hi
    rw [j2]; exact g4 j j1
  · intro c S hS
    obtain ⟨j, j1, j2⟩ := fd c S hS (fun _ _ f => f) (fun _ f => f.elim)
    obtain ⟨i, i1, i2⟩ := sp.2.1 j j1
    exact ⟨i, i1, i2.trans j2⟩
/-! ===== the reference: the repair ===== -/
def fY (f : Nat) (h h' : am_H) : Prop := am_I h' = am_I h ∧ am_P h' = am_P h ∧ am_S h' = am_S h ∧ am_G h' = am_G h ∧ am_T h' = am_T h ∧ (∀ b, b ≠ f → am_L h' b = am_L h b) ∧ (∀ j, j ≠ 37 → am_L h' f j = am_L h f j)
theorem fY_r (f : Nat) (h : am_H) : fY f h h := ⟨rfl, rfl, rfl, rfl, rfl, fun _ _ => rfl, fun _ _ => rfl⟩
theorem fY_w {f : Nat} {h0 h : am_H} (q : fY f h0 h) (v : Int64) : fY f h0 (am_sL h f 37 v) := by
  refine ⟨q.1, q.2.1, q.2.2.1, q.2.2.2.1, q.2.2.2.2.1, fun b p => ?_, fun j p => ?_⟩
  · rw [← q.2.2.2.2.2.1 b p]
    funext i
    rw [pc_L_L, if_neg (by omega)]
  · rw [← q.2.2.2.2.2.2 j p, pc_L_L, if_neg (by omega)]
theorem fY_Rr {f : Nat} {h h' : am_H} (q : fY f h h') : fRr f h h' := ⟨q.2.1, q.2.2.1, q.2.2.2.1, q.2.2.2.2.1, fun b _ _ _ => by rw [q.1], fun i _ _ _ => by rw [q.1], fun b p _ => q.2.2.2.2.2.1 b p, q.2.2.2.2.2.2, Or.inr ⟨by rw [q.1], by rw [q.1], fun b p _ => ⟨by rw [q.1], q.2.2.2.2.2.1 b (by omega)⟩⟩⟩
theorem m_lvc {W V : Int64 → Prop} {v : Int64} (h : ∀ u, W u ↔ V u) (q : m_lv W v) : m_lv V v := by
  rcases q with ⟨a, b⟩ | ⟨a, b, c⟩
  · exact Or.inl ⟨a, fun u e => b u ((h u).mpr e)⟩
  · exact Or.inr ⟨(h v).mp a, b, fun u e => c u ((h u).mpr e)⟩
theorem m_lv_k {W : Int64 → Prop} {v w : Int64} (q : m_lv W v) (hv : ¬ v = -1) (hw : ¬ w < v) : m_lv (fun u => W u ∨ u = w) v := by
  rcases q with ⟨a, -⟩ | ⟨a, b, c⟩
  · exact absurd a hv
  · exact Or.inr ⟨Or.inl a, b, fun u e => e.elim (c u) (fun e => e ▸ hw)⟩
theorem m_lv_n {W : Int64 → Prop} {v w : Int64} (q : m_lv W v) (hw : ¬ w = -1) (h : v = -1 ∨ w < v) : m_lv (fun u => W u ∨ u = w) w := by
  refine Or.inr ⟨Or.inr rfl, hw, fun u e => ?_⟩
  rcases e with e | e
  · rcases q with ⟨a, b⟩ | ⟨a, b, c⟩
    · exact absurd e (b u)
    · intro l
      exact c u e (il_tr l (h.resolve_left b))
  · rw [e]; exact il_ir _
theorem Rf_repairs_b {f c : Nat} {O : o_T} {B : Nat → Prop} {F : Nat → Nat → Prop} {h0 : am_H} (hc : c ≤ 5) (hFA : ∀ i k, i < c → F i k → k < o_A O) (Q0 : RQ h0 f O B) (h36 : am_I h0 f 36 = nI c) (hF : ∀ i, i < c → am_L h0 (f + 1529) i = wL (F i)) (d : Nat) (s : Nat) : ∀ (Q : Nat → Prop) (h : am_H) (W : Int64 → Prop), s ≤ 5 → (∀ k, Q k → k < 32) → fY f h0 h → m_lv W (am_L h f 37) → (∀ i, i < c → ¬ m_hi F Q i → (∀ j, j < i → m_hi F Q j) → ∃ h', (if nI s = 0 then some (.inr none, h) else f_Rf_repairs_75 (d + s) h f (wL Q) (nI s) (nI i) 0) = some (.inr none, h') ∧ fY f h0 h' ∧ m_lv (fun u => W u ∨ m_cw F c s Q u) (am_L h' f 37)) → ∃ h', f_Rf_repairs (d + s) h f (wL Q) (nI s) = some (.inr none, h') ∧ fY f h0 h' ∧ m_lv (fun u => W u ∨ m_cw F c s Q u) (am_L h' f 37) := by
  have okA := Q0.2.1.2.1.2.2.2.2.1
  intro Q h W hs hQ q hv hnot
  have Qh := RQ_f Q0 (fY_Rr q)
  have H := Qh.1
  have e36 : am_I h f 36 = nI c := by rw [q.1]; exact h36
  have eF : ∀ i, i < c → am_L h (f + 1529) i = wL (F i) := fun i hi => by rw [q.2.2.2.2.2.1 (f + 1529) (by omega)]; exact hF i hi
  have key : ∀ i, i ≤ c → (∀ j, j < i → m_hi F Q j) → ∃ h', f_Rf_repairs_3 (d + s) h f (wL Q) (nI s) (nI i) = some (.inr none, h') ∧ fY f h0 h' ∧ m_lv (fun u => W u ∨ m_cw F c s Q u) (am_L h' f 37) := by
    refine dn ?_ ?_
    · intro hall
      have eq : ∀ u, (W u ∨ u = wL Q) ↔ (W u ∨ m_cw F c s Q u) := fun u => or_congr Iff.rfl ⟨fun e => ⟨Q, (m_cr_all hall).mpr rfl, e⟩, fun ⟨G, g1, g2⟩ => by rw [g2, (m_cr_all hall).mp g1]⟩
      rw [e_Rf_repairs_3]
      simp (disch := first | assumption | omega) only [hc_ck, hc_gi, hc_gl, hc_gp, ap_I, ap_L, kd_I, kd_L, kd_P, kd_rI, ar_I, ar_L, ar_P, al_I, al_L, al_P, hop_s, cond_true, cond_false, pc_I_I, pc_L_L, pc_P_P, pc_I_L, pc_I_P, pc_L_I, pc_L_P, pc_P_I, pc_P_L, pc_sS_I, pc_sS_L, pc_sS_P, I_rI, L_rI, P_rI, S_rI, cv_r, ci_r, cl_r, o1_b, o1_0, o1_1, lc_e, nI_1, nI_add, if_true, if_false, Nat.reduceEqDiff, Nat.left_eq_add, Nat.add_eq_left, false_and, and_false, true_and, and_true, and_self, eq_self, Rf_k, e36, n_le, Nat.le_refl, lc_geq]
      by_cases y : am_L h f 37 = -1
      · rw [if_pos y]
        refine ⟨_, rfl, fY_w q _, ?_⟩
        rw [pc_L_L, if_pos ⟨rfl, rfl⟩]
        exact m_lvc eq (m_lv_n hv (wL_m1 hQ) (Or.inl y))
      · rw [if_neg y]
        by_cases l : wL Q < am_L h f 37
        · rw [if_neg (fun e => e l)]
          refine ⟨_, rfl, fY_w q _, ?_⟩
          rw [pc_L_L, if_pos ⟨rfl, rfl⟩]
          exact m_lvc eq (m_lv_n hv (wL_m1 hQ) (Or.inr l))
        · rw [if_pos l]
          exact ⟨h, rfl, q, m_lvc eq (m_lv_k hv y l)⟩
    · intro i hi ih hall
      have hi3 : ¬ c ≤ i := by omega
      have hi4 : ¬ i = c := by omega
      rw [e_Rf_repairs_3]
      simp (disch := first | assumption | omega) only [hc_ck, hc_gi, hc_gl, hc_gp, ap_I, ap_L, kd_I, kd_L, kd_P, kd_rI, ar_I, ar_L, ar_P, al_I, al_L, al_P, hop_s, cond_true, cond_false, pc_I_I, pc_L_L, pc_P_P, pc_I_L, pc_I_P, pc_L_I, pc_L_P, pc_P_I, pc_P_L, pc_sS_I, pc_sS_L, pc_sS_P, I_rI, L_rI, P_rI, S_rI, cv_r, ci_r, cl_r, o1_b, o1_0, o1_1, lc_e, nI_1, nI_add, if_true, if_false, Nat.reduceEqDiff, Nat.left_eq_add, Nat.add_eq_left, false_and, and_false, true_and, and_true, and_self, eq_self, Rf_k, e36, n_le, hi3, Rf_p35, Rf_r1529, eF i hi, n_eq, hi4]
      by_cases hit : m_hi F Q i
      · rw [if_neg (by
          rw [wL_a0]
          obtain ⟨k, a, b⟩ := hit
          exact fun e => e ⟨k, by have := hQ k b; omega, a, b⟩)]
        refine ih (fun j hj => ?_)
        by_cases e : j = i
        · exact e ▸ hit
        · exact hall j (by omega)
      · rw [if_pos (by
          rw [wL_a0]
          rintro ⟨k, -, a, b⟩
          exact hit ⟨k, a, b⟩)]
        exact hnot i hi hit hall
  rw [e_Rf_repairs]
  exact key 0 (Nat.zero_le _) (fun j hj => absurd hj (Nat.not_lt_zero j))
theorem Rf_repairs {f c : Nat} {O : o_T} {B : Nat → Prop} {F : Nat → Nat → Prop} {h0 : am_H} (hc : c ≤ 5) (hFA : ∀ i k, i < c → F i k → k < o_A O) (Q0 : RQ h0 f O B) (h36 : am_I h0 f 36 = nI c) (hF : ∀ i, i < c → am_L h0 (f + 1529) i = wL (F i)) (d : Nat) : ∀ (s : Nat) (Q : Nat → Prop) (h : am_H) (W : Int64 → Prop), s ≤ 5 → (∀ k, Q k → k < 32) → fY f h0 h → m_lv W (am_L h f 37) → ∃ h', f_Rf_repairs (d + s) h f (wL Q) (nI s) = some (.inr none, h') ∧ fY f h0 h' ∧ m_lv (fun u => W u ∨ m_cw F c s Q u) (am_L h' f 37) := by
  have okA := Q0.2.1.2.1.2.2.2.2.1
  intro s
  induction s with
  | zero =>
    intro Q h W hs hQ q hv
    refine Rf_repairs_b hc hFA Q0 h36 hF d 0 Q h W hs hQ q hv (fun i hi hit hl => ⟨h, if_pos rfl, q, m_lvc (fun u => ⟨Or.inl, fun e => e.elim id (fun ⟨G, g, _⟩ => absurd g (m_cr_0 hi hit))⟩) hv⟩)
  | succ s ih =>
    intro Q h W hs hQ q hv
    refine Rf_repairs_b hc hFA Q0 h36 hF d (s + 1) Q h W hs hQ q hv (fun i hi hit hl => ?_)
    have key : ∀ k, k ≤ o_A O → ∀ u : am_H, fY f h0 u → m_lv (fun v => W v ∨ ∃ e, e < k ∧ F i e ∧ m_cw F c s (fun j => Q j ∨ j = e) v) (am_L u f 37) → ∃ h', f_Rf_repairs_75 (d + (s + 1)) u f (wL Q) (nI (s + 1)) (nI i) (nI k) = some (.inr none, h') ∧ fY f h0 h' ∧ m_lv (fun u => W u ∨ m_cw F c (s + 1) Q u) (am_L h' f 37) := by
      refine dn ?_ ?_
      · intro u q hv
        have Qu := RQ_f Q0 (fY_Rr q)
        have H1 := Qu.1
        have R1 := Qu.2.1
        refine ⟨u, ?_, q, m_lvc (fun v => or_congr Iff.rfl ?_) hv⟩
        · rw [← Nat.add_assoc, e_Rf_repairs_75]
          simp (disch := first | assumption | omega) only [hc_ck, hc_gi, hc_gl, hc_gp, ap_I, ap_L, kd_I, kd_L, kd_P, kd_rI, ar_I, ar_L, ar_P, al_I, al_L, al_P, hop_s, cond_true, cond_false, pc_I_I, pc_L_L, pc_P_P, pc_I_L, pc_I_P, pc_L_I, pc_L_P, pc_P_I, pc_P_L, pc_sS_I, pc_sS_L, pc_sS_P, I_rI, L_rI, P_rI, S_rI, cv_r, ci_r, cl_r, o1_b, o1_0, o1_1, lc_e, nI_1, nI_add, if_true, if_false, Nat.reduceEqDiff, Nat.left_eq_add, Nat.add_eq_left, false_and, and_false, true_and, and_true, and_self, eq_self, Rf_k, Rf_p9, n_3, Rw_ar, Rw_A, n_le, Nat.le_refl]
        · constructor
          · rintro ⟨e, -, e2, G, e3, e4⟩
            exact ⟨G, (m_cr_s hi hit hl).mpr ⟨e, e2, e3⟩, e4⟩
          · rintro ⟨G, e3, e4⟩
            obtain ⟨e, e1, e2⟩ := (m_cr_s hi hit hl).mp e3
            exact ⟨e, hFA i e hi e1, e1, G, e2, e4⟩
      · intro k hk ih2 u q hv
        have Qu := RQ_f Q0 (fY_Rr q)
        have H1 := Qu.1
        have R1 := Qu.2.1
        have hk3 : ¬ o_A O ≤ k := by omega
        have eF : am_L u (f + 1529) i = wL (F i) := by rw [q.2.2.2.2.2.1 (f + 1529) (by omega)]; exact hF i hi
        rw [← Nat.add_assoc] at ih2
        rw [← Nat.add_assoc, e_Rf_repairs_75]
        simp (disch := first | assumption | omega) only [hc_ck, hc_gi, hc_gl, hc_gp, ap_I, ap_L, kd_I, kd_L, kd_P, kd_rI, ar_I, ar_L, ar_P, al_I, al_L, al_P, hop_s, cond_true, cond_false, pc_I_I, pc_L_L, pc_P_P, pc_I_L, pc_I_P, pc_L_I, pc_L_P, pc_P_I, pc_P_L, pc_sS_I, pc_sS_L, pc_sS_P, I_rI, L_rI, P_rI, S_rI, cv_r, ci_r, cl_r, o1_b, o1_0, o1_1, lc_e, nI_1, nI_add, if_true, if_false, Nat.reduceEqDiff, Nat.left_eq_add, Nat.add_eq_left, false_and, and_false, true_and, and_true, and_self, eq_self, Rf_k, Rf_p9, n_3, Rw_ar, Rw_A, n_le, hk3, Rf_p35, Rf_r1529, eF, Rf_has, bo_0]
        by_cases c1 : F i k
        · simp (disch := first | assumption | omega) only [xl_wt (P := F i) (show k < 64 by omega) c1, Bool.true_eq_false, if_false, nI_pred, wL_put]
          obtain ⟨v, ev, qv, hv2⟩ := ih (fun j => Q j ∨ j = k) u _ (by omega) (fun j e => e.elim (hQ j) (fun e => by omega)) q hv
          rw [ev]
          simp only [cv_r]
          refine ih2 v qv (m_lvc (fun w => ?_) hv2)
          constructor
          · rintro ((e | ⟨e, e1, e2⟩) | e)
            · exact Or.inl e
            · exact Or.inr ⟨e, by omega, e2⟩
            · exact Or.inr ⟨k, by omega, c1, e⟩
          · rintro (e | ⟨e, e1, e2, e3⟩)
            · exact Or.inl (Or.inl e)
            · by_cases q : e = k
              · exact Or.inr (q ▸ e3)
              · exact Or.inl (Or.inr ⟨e, by omega, e2, e3⟩)
        · simp (disch := first | assumption | omega) only [xl_wf (P := F i) (show k < 64 by omega) c1, if_true]
          refine ih2 u q (m_lvc (fun w => or_congr Iff.rfl ?_) hv)
          constructor
          · rintro ⟨e, e1, e2⟩
            exact ⟨e, by omega, e2⟩
          · rintro ⟨e, e1, e2, e3⟩
            by_cases q : e = k
            · exact absurd (q ▸ e2) c1
            · exact ⟨e, by omega, e2, e3⟩
    obtain ⟨h', e', q', v'⟩ := key 0 (Nat.zero_le _) h q (m_lvc (fun u => ⟨Or.inl, fun e => e.elim id (fun ⟨e, c, _⟩ => absurd c (Nat.not_lt_zero e))⟩) hv)
    refine ⟨h', ?_, q', v'⟩
    rw [if_neg (fun e : nI (s + 1) = 0 => absurd ((nI_e32 (a := s + 1) (b := 0) (by omega) (by omega)).mp e) (by omega))]
    exact e'
theorem Rf_repair90 {f c : Nat} {O : o_T} {B : Nat → Prop} {F : Nat → Nat → Prop} {h0 : am_H} (hc : c ≤ 4) (hc1 : 1 ≤ c) (hFA : ∀ i k, i < c → F i k → k < o_A O) (hne : ∀ i, i < c → ∃ k, F i k) (Q0 : RQ h0 f O B) (h36 : am_I h0 f 36 = nI c) (hF : ∀ i, i < c → am_L h0 (f + 1529) i = wL (F i)) (h37 : am_L h0 f 37 = -1) (d : Nat) : ∃ (h' : am_H) (v : Int64), f_Rf_repair_90 (d + 6) h0 f 1 = some (.inr (some (.long v)), h') ∧ fY f h0 h' ∧ m_re F c v := by
  have done : ∀ (h : am_H) (v : Int64) (i : Int32), fY f h0 h → am_L h f 37 = v → ¬ v = -1 → f_Rf_repair_90 (d + 6) h f i = some (.inr (some (.long v)), h) := by
    intro h v i q e hv
    have H := (RQ_f Q0 (fY_Rr q)).1
    rw [e_Rf_repair_90]
    simp (disch := first | assumption | omega) only [hc_ck, hc_gi, hc_gl, hc_gp, ap_I, ap_L, kd_I, kd_L, kd_P, kd_rI, ar_I, ar_L, ar_P, al_I, al_L, al_P, hop_s, cond_true, cond_false, pc_I_I, pc_L_L, pc_P_P, pc_I_L, pc_I_P, pc_L_I, pc_L_P, pc_P_I, pc_P_L, pc_sS_I, pc_sS_L, pc_sS_P, I_rI, L_rI, P_rI, S_rI, cv_r, ci_r, cl_r, o1_b, o1_0, o1_1, lc_e, nI_1, nI_add, if_true, if_false, Nat.reduceEqDiff, Nat.left_eq_add, Nat.add_eq_left, false_and, and_false, true_and, and_true, and_self, eq_self, Rf_k, e, if_neg hv]
  have go : ∀ (h : am_H) (s : Nat), s ≤ 5 → fY f h0 h → am_L h f 37 = -1 → ∃ h', f_Rf_repair_90 (d + 6) h f (nI s) = f_Rf_repair_90 (d + 6) h' f (nI (s + 1)) ∧ fY f h0 h' ∧ m_lv (m_cw F c s (fun _ => False)) (am_L h' f 37) := by
    intro h s hs q e
    have H := (RQ_f Q0 (fY_Rr q)).1
    obtain ⟨g, eg, qg, hg⟩ := Rf_repairs (by omega) hFA Q0 h36 hF (d + (5 - s)) s (fun _ => False) h (fun _ => False) hs (fun _ c => c.elim) q (Or.inl ⟨e, fun _ c => c⟩)
    rw [show wL (fun _ => False) = 0 from wL_0.mpr (fun _ _ => id), show d + (5 - s) + s = d + 5 by omega] at eg
    refine ⟨g, ?_, qg, m_lvc (fun u => ⟨fun e => e.elim False.elim id, Or.inr⟩) hg⟩
    rw [e_Rf_repair_90]
    simp (disch := first | assumption | omega) only [hc_ck, hc_gi, hc_gl, hc_gp, ap_I, ap_L, kd_I, kd_L, kd_P, kd_rI, ar_I, ar_L, ar_P, al_I, al_L, al_P, hop_s, cond_true, cond_false, pc_I_I, pc_L_L, pc_P_P, pc_I_L, pc_I_P, pc_L_I, pc_L_P, pc_P_I, pc_P_L, pc_sS_I, pc_sS_L, pc_sS_P, I_rI, L_rI, P_rI, S_rI, cv_r, ci_r, cl_r, o1_b, o1_0, o1_1, lc_e, nI_1, nI_add, if_true, if_false, Nat.reduceEqDiff, Nat.left_eq_add, Nat.add_eq_left, false_and, and_false, true_and, and_true, and_self, eq_self, Rf_k, e, eg]
  have key : ∀ n s, s + n = c → 1 ≤ s → (∀ t, 1 ≤ t → t < s → ∀ u, ¬ m_cw F c t (fun _ => False) u) → ∀ h, fY f h0 h → am_L h f 37 = -1 → ∃ (h' : am_H) (v : Int64), f_Rf_repair_90 (d + 6) h f (nI s) = some (.inr (some (.long v)), h') ∧ fY f h0 h' ∧ m_re F c v := by
    intro n
    induction n with
    | zero =>
      intro s hs h1 hb h q e
      have : s = c := by omega
      subst this
      obtain ⟨g, eg, qg, hg⟩ := go h s (by omega) q e
      obtain ⟨G, hG⟩ := m_cr_ex (c := s) hne s (fun _ => False) (ct_le _ _)
      rcases hg with ⟨-, v2⟩ | ⟨v1, v2, v3⟩
      · exact absurd ⟨G, hG, rfl⟩ (v2 _)
      · exact ⟨g, _, eg.trans (done g _ _ qg rfl v2), qg, s, h1, hb, v1, v3⟩
    | succ n ih =>
      intro s hs h1 hb h q e
      obtain ⟨g, eg, qg, hg⟩ := go h s (by omega) q e
      rcases hg with ⟨v1, v2⟩ | ⟨v1, v2, v3⟩
      · obtain ⟨h', v, a1, a2, a3⟩ := ih (s + 1) (by omega) (by omega) (fun t t1 t2 => by
          by_cases e : t = s
          · exact e ▸ v2
          · exact hb t t1 (by omega)) g qg v1
        exact ⟨h', v, eg.trans a1, a2, a3⟩
      · exact ⟨g, _, eg.trans (done g _ _ qg rfl v2), qg, s, h1, hb, v1, v3⟩
  exact key (c - 1) 1 (by omega) (Nat.le_refl _) (fun t t1 t2 => by omega) h0 (fY_r _ _) h37
