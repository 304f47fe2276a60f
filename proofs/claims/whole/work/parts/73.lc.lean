/-! ===== the class's object: its shape ===== -/
def lc_k : List (Nat × Nat) := [(1, 7), (37, 3), (74, 4), (76, 1)]
def lc_p : List (Nat × Nat × Nat) := [(1, 0, 2), (1, 5, 37), (1, 6, 40), (1, 10, 41), (1, 11, 42), (1, 12, 54), (1, 13, 61), (1, 14, 73), (1, 15, 74), (1, 16, 76), (1, 17, 77), (37, 0, 2), (37, 14, 38), (37, 15, 39), (74, 0, 75), (74, 3, 61)]
def lc_s : List (Nat × Nat × Nat) := [(2, 11, 400), (38, 9, 400), (39, 9, 400), (40, 9, 20), (41, 9, 3600), (73, 10, 60), (75, 10, 5), (77, 9, 3)]
def LcAt (h : am_H) : Prop := (∀ q ∈ lc_k, am_kd h q.1 q.2 = true) ∧ (∀ q ∈ lc_p, am_P h q.1 q.2.1 = some q.2.2) ∧ (∀ q ∈ lc_s, (am_S h)[q.1]? = some (q.2.1, q.2.2)) ∧ SaAt h 42 ∧ SaAt h 61 ∧ HiAt h 54 ∧ OnAt h 3 ∧ OnAt h 20
theorem Lc_k1 {h : am_H} (H : LcAt h) : am_kd h 1 7 = true := H.1 (1, 7) (by decide)
theorem Lc_k37 {h : am_H} (H : LcAt h) : am_kd h 37 3 = true := H.1 (37, 3) (by decide)
theorem Lc_k74 {h : am_H} (H : LcAt h) : am_kd h 74 4 = true := H.1 (74, 4) (by decide)
theorem Lc_k76 {h : am_H} (H : LcAt h) : am_kd h 76 1 = true := H.1 (76, 1) (by decide)
theorem Lc_p1_0 {h : am_H} (H : LcAt h) : am_P h 1 0 = some 2 := H.2.1 (1, 0, 2) (by decide)
theorem Lc_p1_5 {h : am_H} (H : LcAt h) : am_P h 1 5 = some 37 := H.2.1 (1, 5, 37) (by decide)
theorem Lc_p1_6 {h : am_H} (H : LcAt h) : am_P h 1 6 = some 40 := H.2.1 (1, 6, 40) (by decide)
theorem Lc_p1_10 {h : am_H} (H : LcAt h) : am_P h 1 10 = some 41 := H.2.1 (1, 10, 41) (by decide)
theorem Lc_p1_11 {h : am_H} (H : LcAt h) : am_P h 1 11 = some 42 := H.2.1 (1, 11, 42) (by decide)
theorem Lc_p1_12 {h : am_H} (H : LcAt h) : am_P h 1 12 = some 54 := H.2.1 (1, 12, 54) (by decide)
theorem Lc_p1_13 {h : am_H} (H : LcAt h) : am_P h 1 13 = some 61 := H.2.1 (1, 13, 61) (by decide)
theorem Lc_p1_14 {h : am_H} (H : LcAt h) : am_P h 1 14 = some 73 := H.2.1 (1, 14, 73) (by decide)
theorem Lc_p1_15 {h : am_H} (H : LcAt h) : am_P h 1 15 = some 74 := H.2.1 (1, 15, 74) (by decide)
theorem Lc_p1_16 {h : am_H} (H : LcAt h) : am_P h 1 16 = some 76 := H.2.1 (1, 16, 76) (by decide)
theorem Lc_p1_17 {h : am_H} (H : LcAt h) : am_P h 1 17 = some 77 := H.2.1 (1, 17, 77) (by decide)
theorem Lc_p37_0 {h : am_H} (H : LcAt h) : am_P h 37 0 = some 2 := H.2.1 (37, 0, 2) (by decide)
theorem Lc_p37_14 {h : am_H} (H : LcAt h) : am_P h 37 14 = some 38 := H.2.1 (37, 14, 38) (by decide)
theorem Lc_p37_15 {h : am_H} (H : LcAt h) : am_P h 37 15 = some 39 := H.2.1 (37, 15, 39) (by decide)
theorem Lc_p74_0 {h : am_H} (H : LcAt h) : am_P h 74 0 = some 75 := H.2.1 (74, 0, 75) (by decide)
theorem Lc_p74_3 {h : am_H} (H : LcAt h) : am_P h 74 3 = some 61 := H.2.1 (74, 3, 61) (by decide)
theorem Lc_r2 {h : am_H} (H : LcAt h) {k : Nat} (hk : k < 400) (g : Nat → Option am_R) : am_ar h 11 2 (nI k) g = g k := ar_n (n := 400) (H.2.2.1 (2, 11, 400) (by decide)) hk (by omega) g
theorem Lc_l2 {h : am_H} (H : LcAt h) (g : Int32 → Option am_R) : am_al h 2 g = g (nI 400) := al_n (n := 400) (c := 11) (H.2.2.1 (2, 11, 400) (by decide)) (by omega) g
theorem Lc_r38 {h : am_H} (H : LcAt h) {k : Nat} (hk : k < 400) (g : Nat → Option am_R) : am_ar h 9 38 (nI k) g = g k := ar_n (n := 400) (H.2.2.1 (38, 9, 400) (by decide)) hk (by omega) g
theorem Lc_l38 {h : am_H} (H : LcAt h) (g : Int32 → Option am_R) : am_al h 38 g = g (nI 400) := al_n (n := 400) (c := 9) (H.2.2.1 (38, 9, 400) (by decide)) (by omega) g
theorem Lc_r39 {h : am_H} (H : LcAt h) {k : Nat} (hk : k < 400) (g : Nat → Option am_R) : am_ar h 9 39 (nI k) g = g k := ar_n (n := 400) (H.2.2.1 (39, 9, 400) (by decide)) hk (by omega) g
theorem Lc_l39 {h : am_H} (H : LcAt h) (g : Int32 → Option am_R) : am_al h 39 g = g (nI 400) := al_n (n := 400) (c := 9) (H.2.2.1 (39, 9, 400) (by decide)) (by omega) g
theorem Lc_r40 {h : am_H} (H : LcAt h) {k : Nat} (hk : k < 20) (g : Nat → Option am_R) : am_ar h 9 40 (nI k) g = g k := ar_n (n := 20) (H.2.2.1 (40, 9, 20) (by decide)) hk (by omega) g
theorem Lc_l40 {h : am_H} (H : LcAt h) (g : Int32 → Option am_R) : am_al h 40 g = g (nI 20) := al_n (n := 20) (c := 9) (H.2.2.1 (40, 9, 20) (by decide)) (by omega) g
theorem Lc_r41 {h : am_H} (H : LcAt h) {k : Nat} (hk : k < 3600) (g : Nat → Option am_R) : am_ar h 9 41 (nI k) g = g k := ar_n (n := 3600) (H.2.2.1 (41, 9, 3600) (by decide)) hk (by omega) g
theorem Lc_l41 {h : am_H} (H : LcAt h) (g : Int32 → Option am_R) : am_al h 41 g = g (nI 3600) := al_n (n := 3600) (c := 9) (H.2.2.1 (41, 9, 3600) (by decide)) (by omega) g
theorem Lc_r73 {h : am_H} (H : LcAt h) {k : Nat} (hk : k < 60) (g : Nat → Option am_R) : am_ar h 10 73 (nI k) g = g k := ar_n (n := 60) (H.2.2.1 (73, 10, 60) (by decide)) hk (by omega) g
theorem Lc_l73 {h : am_H} (H : LcAt h) (g : Int32 → Option am_R) : am_al h 73 g = g (nI 60) := al_n (n := 60) (c := 10) (H.2.2.1 (73, 10, 60) (by decide)) (by omega) g
theorem Lc_r75 {h : am_H} (H : LcAt h) {k : Nat} (hk : k < 5) (g : Nat → Option am_R) : am_ar h 10 75 (nI k) g = g k := ar_n (n := 5) (H.2.2.1 (75, 10, 5) (by decide)) hk (by omega) g
theorem Lc_l75 {h : am_H} (H : LcAt h) (g : Int32 → Option am_R) : am_al h 75 g = g (nI 5) := al_n (n := 5) (c := 10) (H.2.2.1 (75, 10, 5) (by decide)) (by omega) g
theorem Lc_r77 {h : am_H} (H : LcAt h) {k : Nat} (hk : k < 3) (g : Nat → Option am_R) : am_ar h 9 77 (nI k) g = g k := ar_n (n := 3) (H.2.2.1 (77, 9, 3) (by decide)) hk (by omega) g
theorem Lc_l77 {h : am_H} (H : LcAt h) (g : Int32 → Option am_R) : am_al h 77 g = g (nI 3) := al_n (n := 3) (c := 9) (H.2.2.1 (77, 9, 3) (by decide)) (by omega) g
theorem Lc_w {h : am_H} (H : LcAt h) : SaAt h 42 := H.2.2.2.1
theorem Lc_t {h : am_H} (H : LcAt h) : SaAt h 61 := H.2.2.2.2.1
theorem Lc_h {h : am_H} (H : LcAt h) : HiAt h 54 := H.2.2.2.2.2.1
theorem Lc_on {h : am_H} (H : LcAt h) {o : Nat} (ho : o = 3 ∨ o = 20) : OnAt h o := by
  rcases ho with rfl | rfl
  · exact H.2.2.2.2.2.2.1
  · exact H.2.2.2.2.2.2.2
/-- the places of references that change -/
def mP (b j : Nat) : Prop := (b = 1 ∧ (j = 3 ∨ j = 4)) ∨ (b = 37 ∧ j = 2) ∨ (b = 42 ∧ j = 0) ∨ (b = 61 ∧ j = 0) ∨ (b = 74 ∧ j = 4)
theorem LcAt_of {h h' : am_H} (H : LcAt h) (hS : am_S h' = am_S h) (hP : ∀ b j, ¬ mP b j → am_P h' b j = am_P h b j) : LcAt h' := by
  obtain ⟨h1, h2, h3, h4, h5, h6, h7, h8⟩ := H
  have row : ∀ b, b ≠ 1 → b ≠ 37 → b ≠ 42 → b ≠ 61 → b ≠ 74 → am_P h' b = am_P h b := fun b a1 a2 a3 a4 a5 => by
    funext j
    exact hP b j (by unfold mP; omega)
  refine ⟨?_, ?_, ?_, SaAt_of h4 hS (fun j hj => hP 42 j (by unfold mP; omega)), SaAt_of h5 hS (fun j hj => hP 61 j (by unfold mP; omega)), HiAt_of h6 hS (row 54 (by omega) (by omega) (by omega) (by omega) (by omega)), OnAt_of h7 hS (row 3 (by omega) (by omega) (by omega) (by omega) (by omega)) (row 4 (by omega) (by omega) (by omega) (by omega) (by omega)) (row 6 (by omega) (by omega) (by omega) (by omega) (by omega)), OnAt_of h8 hS (row 20 (by omega) (by omega) (by omega) (by omega) (by omega)) (row 21 (by omega) (by omega) (by omega) (by omega) (by omega)) (row 23 (by omega) (by omega) (by omega) (by omega) (by omega))⟩
  · intro q hq
    have := h1 q hq
    unfold am_kd at this ⊢
    rw [hS]
    exact this
  · intro q hq
    have hn : ∀ q ∈ lc_p, ¬ mP q.1 q.2.1 := by unfold mP; decide
    rw [hP _ _ (hn q hq)]
    exact h2 q hq
  · intro q hq
    rw [hS]
    exact h3 q hq
theorem On_allParts {h : am_H} {o : Nat} {O : o_T} (H : OnR h o O) (d : Nat) : f_On_allParts d h o = some (.inr (some (.long (wL (fun x => x < o_P O)))), h) := by
  have H3 := OnR_at H
  have hP := H.2.1.2.2.2.1
  rw [e_On_allParts]
  simp (disch := first | assumption | omega) only [hc_ck, hc_gi, hc_gl, hc_gp, ap_I, ap_L, kd_I, kd_L, kd_P, kd_rI, ar_I, ar_L, ar_P, al_I, al_L, al_P, hop_s, cond_true, cond_false, pc_I_I, pc_L_L, pc_P_P, pc_I_L, pc_I_P, pc_L_I, pc_L_P, pc_P_I, pc_P_L, pc_sS_I, pc_sS_L, pc_sS_P, I_rI, L_rI, P_rI, S_rI, cv_r, ci_r, cl_r, o1_b, o1_0, o1_1, lc_e, nI_1, nI_add, if_true, if_false, Nat.reduceEqDiff, Nat.left_eq_add, Nat.add_eq_left, false_and, and_false, true_and, and_true, and_self, eq_self, On_k, OnR_P]
  apply rl_e
  apply wL_of
  intro k hk
  rw [xl_all (by omega), decide_eq_true_iff]
theorem Ar_fillR {h : am_H} {a n lo hi : Nat} (hs : (am_S h)[a]? = some (9, n)) (hn : n < 2147483648) (h1 : lo ≤ hi) (h2 : hi ≤ n) (v : Int32) (d : Nat) : ∃ h', f_Ar_fillR (d + 1) h a (nI lo) (nI hi) v = some (.inr none, h') ∧ fJ a (a + 1) h h' ∧ (∀ j, lo ≤ j → j < hi → am_I h' a j = v) ∧ (∀ j, j < lo ∨ hi ≤ j → am_I h' a j = am_I h a j) := by
  have key : ∀ k, k ≤ hi → lo ≤ k → ∀ u : am_H, fJ a (a + 1) h u → (∀ j, lo ≤ j → j < k → am_I u a j = v) → (∀ j, j < lo ∨ hi ≤ j → am_I u a j = am_I h a j) → ∃ h', f_Ar_fillR_10 (d + 1) u a (nI hi) v (nI k) = some (.inr none, h') ∧ fJ a (a + 1) h h' ∧ (∀ j, lo ≤ j → j < hi → am_I h' a j = v) ∧ (∀ j, j < lo ∨ hi ≤ j → am_I h' a j = am_I h a j) := by
    refine dn ?_ ?_
    · intro _ u q hj ho
      refine ⟨u, ?_, q, hj, ho⟩
      rw [e_Ar_fillR_10]
      simp (disch := first | assumption | omega) only [hc_ck, hc_gi, hc_gl, hc_gp, ap_I, ap_L, kd_I, kd_L, kd_P, kd_rI, ar_I, ar_L, ar_P, al_I, al_L, al_P, hop_s, cond_true, cond_false, pc_I_I, pc_L_L, pc_P_P, pc_I_L, pc_I_P, pc_L_I, pc_L_P, pc_P_I, pc_P_L, pc_sS_I, pc_sS_L, pc_sS_P, I_rI, L_rI, P_rI, S_rI, cv_r, ci_r, cl_r, o1_b, o1_0, o1_1, lc_e, nI_1, nI_add, if_true, if_false, Nat.reduceEqDiff, Nat.left_eq_add, Nat.add_eq_left, false_and, and_false, true_and, and_true, and_self, eq_self, n_le, Nat.le_refl]
    · intro k hk ih hl u q hj ho
      have hs' : (am_S u)[a]? = some (9, n) := by rw [q.2.2.1]; exact hs
      have hk3 : ¬ hi ≤ k := by omega
      rw [e_Ar_fillR_10]
      simp (disch := first | assumption | omega) only [hc_ck, hc_gi, hc_gl, hc_gp, ap_I, ap_L, kd_I, kd_L, kd_P, kd_rI, ar_I, ar_L, ar_P, al_I, al_L, al_P, hop_s, cond_true, cond_false, pc_I_I, pc_L_L, pc_P_P, pc_I_L, pc_I_P, pc_L_I, pc_L_P, pc_P_I, pc_P_L, pc_sS_I, pc_sS_L, pc_sS_P, I_rI, L_rI, P_rI, S_rI, cv_r, ci_r, cl_r, o1_b, o1_0, o1_1, lc_e, nI_1, nI_add, if_true, if_false, Nat.reduceEqDiff, Nat.left_eq_add, Nat.add_eq_left, false_and, and_false, true_and, and_true, and_self, eq_self, n_le, hk3]
      rw [ar_n hs' (by omega) hn]
      refine ih (by omega) _ (fJ_w q (by omega) (by omega) _ _) ?_ ?_
      · intro j hj1 hj2
        rw [pc_I_I]
        by_cases e : j = k
        · rw [if_pos ⟨rfl, e⟩]
        · rw [if_neg (by omega)]
          exact hj j hj1 (by omega)
      · intro j hj'
        rw [pc_I_I, if_neg (by omega)]
        exact ho j hj'
  rw [e_Ar_fillR, al_n hs (by omega), e_Ar_rangeCheck]
  simp (disch := first | assumption | omega) only [hc_ck, hc_gi, hc_gl, hc_gp, ap_I, ap_L, kd_I, kd_L, kd_P, kd_rI, ar_I, ar_L, ar_P, al_I, al_L, al_P, hop_s, cond_true, cond_false, pc_I_I, pc_L_L, pc_P_P, pc_I_L, pc_I_P, pc_L_I, pc_L_P, pc_P_I, pc_P_L, pc_sS_I, pc_sS_L, pc_sS_P, I_rI, L_rI, P_rI, S_rI, cv_r, ci_r, cl_r, o1_b, o1_0, o1_1, lc_e, nI_1, nI_add, if_true, if_false, Nat.reduceEqDiff, Nat.left_eq_add, Nat.add_eq_left, false_and, and_false, true_and, and_true, and_self, eq_self, n_0, n_le, h1, h2, Nat.zero_le]
  exact key lo h1 (Nat.le_refl _) h (fJ_r _ _ _) (fun j a b => absurd b (by omega)) (fun _ _ => rfl)
theorem Lc_noteRound {h : am_H} {o : Nat} {O : o_T} (H : LcAt h) (hc : am_P h 1 3 = some o) (Ho : OnR h o O) (ho : o = 3 ∨ o = 20) {x : Nat} (hx : x < o_P O) (F : Nat → Prop) (v : Int32) (d : Nat) : ∃ h', f_Lc_noteRound d h 1 (nI x) (wL F) v = some (.inr none, h') ∧ fJ 41 42 h h' ∧ (∀ y, y < o_P O → F y → am_I h' 41 (x * 60 + y) = v) ∧ (∀ y, y < o_P O → ¬ F y → am_I h' 41 (x * 60 + y) = am_I h 41 (x * 60 + y)) ∧ (∀ j, j < x * 60 ∨ x * 60 + 60 ≤ j → am_I h' 41 j = am_I h 41 j) := by
  have hP := Ho.2.1.2.2.2.1
  have key : ∀ k, k ≤ o_P O → ∀ u : am_H, fJ 41 42 h u → (∀ y, y < k → F y → am_I u 41 (x * 60 + y) = v) → (∀ y, y < o_P O → ¬ F y → am_I u 41 (x * 60 + y) = am_I h 41 (x * 60 + y)) → (∀ j, j < x * 60 ∨ x * 60 + 60 ≤ j → am_I u 41 j = am_I h 41 j) → ∃ h', f_Lc_noteRound_10 d u 1 (nI x) (wL F) v (nI k) = some (.inr none, h') ∧ fJ 41 42 h h' ∧ (∀ y, y < o_P O → F y → am_I h' 41 (x * 60 + y) = v) ∧ (∀ y, y < o_P O → ¬ F y → am_I h' 41 (x * 60 + y) = am_I h 41 (x * 60 + y)) ∧ (∀ j, j < x * 60 ∨ x * 60 + 60 ≤ j → am_I h' 41 j = am_I h 41 j) := by
    refine dn ?_ ?_
    · intro u q a1 a2 a3
      have Hu : LcAt u := LcAt_of H q.2.2.1 (fun b j _ => by rw [q.2.1])
      have hcu : am_P u 1 3 = some o := by rw [q.2.1]; exact hc
      have Hou := fJ_on q (by omega) Ho
      have H3 := OnR_at Hou
      refine ⟨u, ?_, q, a1, a2, a3⟩
      rw [e_Lc_noteRound_10]
      simp (disch := first | assumption | omega) only [hc_ck, hc_gi, hc_gl, hc_gp, ap_I, ap_L, kd_I, kd_L, kd_P, kd_rI, ar_I, ar_L, ar_P, al_I, al_L, al_P, hop_s, cond_true, cond_false, pc_I_I, pc_L_L, pc_P_P, pc_I_L, pc_I_P, pc_L_I, pc_L_P, pc_P_I, pc_P_L, pc_sS_I, pc_sS_L, pc_sS_P, I_rI, L_rI, P_rI, S_rI, cv_r, ci_r, cl_r, o1_b, o1_0, o1_1, lc_e, nI_1, nI_add, if_true, if_false, Nat.reduceEqDiff, Nat.left_eq_add, Nat.add_eq_left, false_and, and_false, true_and, and_true, and_self, eq_self, Lc_k1, hcu, On_k, OnR_P, n_le, Nat.le_refl]
    · intro k hk ih u q a1 a2 a3
      have Hu : LcAt u := LcAt_of H q.2.2.1 (fun b j _ => by rw [q.2.1])
      have hcu : am_P u 1 3 = some o := by rw [q.2.1]; exact hc
      have Hou := fJ_on q (by omega) Ho
      have H3 := OnR_at Hou
      have hk3 : ¬ o_P O ≤ k := by omega
      rw [e_Lc_noteRound_10]
      simp (disch := first | assumption | omega) only [hc_ck, hc_gi, hc_gl, hc_gp, ap_I, ap_L, kd_I, kd_L, kd_P, kd_rI, ar_I, ar_L, ar_P, al_I, al_L, al_P, hop_s, cond_true, cond_false, pc_I_I, pc_L_L, pc_P_P, pc_I_L, pc_I_P, pc_L_I, pc_L_P, pc_P_I, pc_P_L, pc_sS_I, pc_sS_L, pc_sS_P, I_rI, L_rI, P_rI, S_rI, cv_r, ci_r, cl_r, o1_b, o1_0, o1_1, lc_e, nI_1, nI_add, if_true, if_false, Nat.reduceEqDiff, Nat.left_eq_add, Nat.add_eq_left, false_and, and_false, true_and, and_true, and_self, eq_self, Lc_k1, hcu, On_k, OnR_P, n_le, hk3, xl_t0, Lc_p1_10, n_m60, Lc_r41]
      by_cases c : F k
      · simp only [xl_wt (show k < 64 by omega) c, Bool.true_eq_false, if_false]
        refine ih _ (fJ_w q (by omega) (by omega) _ _) ?_ ?_ ?_
        · intro y hy hF
          rw [pc_I_I]
          by_cases e : y = k
          · rw [if_pos ⟨rfl, by omega⟩]
          · rw [if_neg (by omega)]
            exact a1 y (by omega) hF
        · intro y hy hF
          rw [pc_I_I]
          by_cases e : y = k
          · subst e; exact absurd c hF
          · rw [if_neg (by omega)]
            exact a2 y hy hF
        · intro j hj
          rw [pc_I_I, if_neg (by omega)]
          exact a3 j hj
      · simp only [xl_wf (show k < 64 by omega) c, if_true]
        refine ih u q ?_ a2 a3
        intro y hy hF
        by_cases e : y = k
        · subst e; exact absurd hF c
        · exact a1 y (by omega) hF
  rw [e_Lc_noteRound]
  simp (disch := first | assumption | omega) only [hc_ck, hc_gi, hc_gl, hc_gp, ap_I, ap_L, kd_I, kd_L, kd_P, kd_rI, ar_I, ar_L, ar_P, al_I, al_L, al_P, hop_s, cond_true, cond_false, pc_I_I, pc_L_L, pc_P_P, pc_I_L, pc_I_P, pc_L_I, pc_L_P, pc_P_I, pc_P_L, pc_sS_I, pc_sS_L, pc_sS_P, I_rI, L_rI, P_rI, S_rI, cv_r, ci_r, cl_r, o1_b, o1_0, o1_1, lc_e, nI_1, nI_add, if_true, if_false, Nat.reduceEqDiff, Nat.left_eq_add, Nat.add_eq_left, false_and, and_false, true_and, and_true, and_self, eq_self]
  by_cases e0 : wL F = 0
  · rw [if_pos e0]
    exact ⟨h, rfl, fJ_r _ _ _, fun y hy hF => absurd hF (wL_0.mp e0 y (by omega)), fun _ _ _ => rfl, fun _ _ => rfl⟩
  · rw [if_neg e0]
    exact key 0 (Nat.zero_le _) h (fJ_r _ _ _) (fun y hy => absurd hy (Nat.not_lt_zero y)) (fun _ _ _ => rfl) (fun _ _ => rfl)
