/-! ===== modules: the class cuts ===== -/
def OnS (h : am_H) (o : Nat) (O : o_T) : Prop := (∀ k, k < o_A O → am_I h (o + 15) k = axn O k ∧ am_I h (o + 16) k = axr O k) ∧ (∀ p, p < o_P O → am_I h (o + 9) p = sgnm O p ∧ am_I h (o + 10) p = sgrl O p)
theorem OnS_f {h h' : am_H} {o : Nat} {O : o_T} (q : am_I h' = am_I h) (S : OnS h o O) : OnS h' o O := by
  unfold OnS at *
  rw [q]
  exact S
/-- what a pass finds, as far as axiom m -/
noncomputable def mW (O : o_T) (am so : Int64) (w : Bool) (n r : Int32) (m : Nat) : Int64 := wL (fun k => xl so k = true ∨ (k < m ∧ xl am k = true ∧ iF O n r w k = false))
def mN (O : o_T) (am so : Int64) (w : Bool) (n r : Int32) (k : Nat) : Prop := xl am k = true ∧ xl so k = false ∧ iF O n r w k = false
theorem mW_A (O : o_T) (am so : Int64) (w : Bool) (n r : Int32) : mW O am so w n r (o_A O) = mA O am w (so, n, r) := by
  refine (wL_of (fun k hk => ?_)).symm
  rw [mA, xl_or, Bool.or_eq_true, wL_x]
  exact ⟨fun e => e.imp id (fun e => e.2), fun e => e.imp id (fun e => ⟨hk, e⟩)⟩
theorem mW_0 (O : o_T) (am so : Int64) (w : Bool) (n r : Int32) : mW O am so w n r 0 = so := (wL_of (fun k _ => ⟨Or.inl, fun e => e.elim id (fun e => absurd e.1 (Nat.not_lt_zero k))⟩)).symm
theorem mW_n {O : o_T} {am so : Int64} {w : Bool} {n r : Int32} {m : Nat} (h : ¬ mN O am so w n r m) : mW O am so w n r (m + 1) = mW O am so w n r m := wL_cong (fun k _ => by
  constructor
  · rintro (e | ⟨e1, e2, e3⟩)
    · exact Or.inl e
    · by_cases c : k = m
      · subst c
        cases x : xl so k
        · exact absurd ⟨e2, x, e3⟩ h
        · exact Or.inl rfl
      · exact Or.inr ⟨by omega, e2, e3⟩
  · rintro (e | ⟨e1, e2, e3⟩)
    · exact Or.inl e
    · exact Or.inr ⟨by omega, e2, e3⟩)
theorem mW_y {O : o_T} {am so : Int64} {w : Bool} {n r : Int32} {m : Nat} (hm : m < 64) (h1 : xl am m = true) (h2 : iF O n r w m = false) : mW O am so w n r m ||| am_lshl 1 (nI m) = mW O am so w n r (m + 1) := wL_of (fun k hk => by
  rw [xl_or, xl_b1 hm, Bool.or_eq_true, decide_eq_true_iff, mW, wL_x]
  constructor
  · rintro (⟨_, e | ⟨e1, e2, e3⟩⟩ | e)
    · exact Or.inl e
    · exact Or.inr ⟨by omega, e2, e3⟩
    · exact Or.inr ⟨by omega, e ▸ h1, e ▸ h2⟩
  · rintro (e | ⟨e1, e2, e3⟩)
    · exact Or.inl ⟨hk, Or.inl e⟩
    · by_cases c : k = m
      · exact Or.inr c
      · exact Or.inl ⟨hk, Or.inr ⟨by omega, e2, e3⟩⟩)
theorem mW_x {O : o_T} {am so : Int64} {w : Bool} {n r : Int32} {m : Nat} (hm : m < 64) : xl (mW O am so w n r m) m = xl so m := by
  rw [Bool.eq_iff_iff, mW, wL_x]
  exact ⟨fun e => e.2.elim id (fun e => absurd e.1 (Nat.lt_irrefl m)), fun e => ⟨hm, Or.inl e⟩⟩
theorem mA_n {O : o_T} {am so : Int64} {w : Bool} {n r : Int32} : mA O am w (so, n, r) = so ↔ ¬ ∃ k, k < o_A O ∧ mN O am so w n r k := by
  rw [← mW_A]
  constructor
  · rintro e ⟨k, k1, k2, k3, k4⟩
    have : xl (mW O am so w n r (o_A O)) k = true := wL_x.mpr ⟨xl_lt k2, Or.inr ⟨k1, k2, k4⟩⟩
    rw [e, k3] at this
    cases this
  · intro e
    refine (wL_of (fun k _ => ⟨Or.inl, ?_⟩)).symm
    rintro (c | ⟨c1, c2, c3⟩)
    · exact c
    · cases x : xl so k
      · exact absurd ⟨k, c1, c2, x, c3⟩ e
      · rfl
theorem Mo_c46 {h : am_H} {o : Nat} {O : o_T} {n r : Int32} {w : Bool} (H : LcAt h) (Ho : OnR h o O) (M : MoR h O n r w (o_P O)) (am so : Int64) (i : Int32) (d : Nat) : ∀ m, m ≤ o_A O → f_Mo_cut_46 (d + 3) h 76 o am (bo w) n r (mW O am so w n r m) (bo (pd (∃ k, k < m ∧ mN O am so w n r k))) i (nI m) = f_Mo_cut_120 (d + 3) h 76 o am (bo w) n r (mA O am w (so, n, r)) (bo (pd (∃ k, k < o_A O ∧ mN O am so w n r k))) i 0 := by
  have ok := Ho.2.1
  have hA := ok.2.2.2.2.1
  have H3 := OnR_at Ho
  refine dn ?_ ?_
  · rw [e_Mo_cut_46, mW_A]
    simp (disch := first | assumption | omega) only [hc_ck, hc_gi, hc_gl, hc_gp, ap_I, ap_L, kd_I, kd_L, kd_P, kd_rI, ar_I, ar_L, ar_P, al_I, al_L, al_P, hop_s, cond_true, cond_false, pc_I_I, pc_L_L, pc_P_P, pc_I_L, pc_I_P, pc_L_I, pc_L_P, pc_P_I, pc_P_L, pc_sS_I, pc_sS_L, pc_sS_P, I_rI, L_rI, P_rI, S_rI, cv_r, ci_r, cl_r, o1_b, o1_0, o1_1, lc_e, nI_1, nI_add, if_true, if_false, Nat.reduceEqDiff, Nat.left_eq_add, Nat.add_eq_left, false_and, and_false, true_and, and_true, and_self, eq_self, On_k, OnR_A, n_le, Nat.le_refl]
  · intro m hm ih
    have hm3 : ¬ o_A O ≤ m := by omega
    rw [← pd_s (mN O am so w n r) m] at ih
    rw [e_Mo_cut_46]
    simp (disch := first | assumption | omega) only [hc_ck, hc_gi, hc_gl, hc_gp, ap_I, ap_L, kd_I, kd_L, kd_P, kd_rI, ar_I, ar_L, ar_P, al_I, al_L, al_P, hop_s, cond_true, cond_false, pc_I_I, pc_L_L, pc_P_P, pc_I_L, pc_I_P, pc_L_I, pc_L_P, pc_P_I, pc_P_L, pc_sS_I, pc_sS_L, pc_sS_P, I_rI, L_rI, P_rI, S_rI, cv_r, ci_r, cl_r, o1_b, o1_0, o1_1, lc_e, nI_1, nI_add, if_true, if_false, Nat.reduceEqDiff, Nat.left_eq_add, Nat.add_eq_left, false_and, and_false, true_and, and_true, and_self, eq_self, On_k, OnR_A, n_le, hm3, xl_t0, xl_and, xl_not, mW_x, Lc_k76, Mo_isIdle H Ho M hm (d + 0), z10, bo_0]
    cases x1 : xl am m
    · simp only [Bool.false_and, if_true]
      have no : ¬ mN O am so w n r m := fun e => absurd (x1.symm.trans e.1) (by decide)
      rw [mW_n no, pd_f no, Bool.or_false] at ih
      exact ih
    · cases x2 : xl so m
      · simp only [Bool.not_false, Bool.and_self, Bool.true_eq_false, if_false]
        cases x3 : iF O n r w m
        · simp only [if_true]
          have ye : mN O am so w n r m := ⟨x1, x2, x3⟩
          rw [pd_t ye, Bool.or_true, ← mW_y (by omega) x1 x3] at ih
          exact ih
        · simp only [Bool.true_eq_false, if_false]
          have no : ¬ mN O am so w n r m := fun e => absurd (x3.symm.trans e.2.2) (by decide)
          rw [mW_n no, pd_f no, Bool.or_false] at ih
          exact ih
      · simp only [Bool.not_true, Bool.and_false, if_true]
        have no : ¬ mN O am so w n r m := fun e => absurd (x2.symm.trans e.2.1) (by decide)
        rw [mW_n no, pd_f no, Bool.or_false] at ih
        exact ih
theorem orW_s (F : Nat → Int32) (so : Int64) (k : Nat) (x : Int32) : orW F so (k + 1) x = if xl so k = true then orW F so k x ||| F k else orW F so k x := rfl
theorem Mo_c120 {h : am_H} {o : Nat} {O : o_T} {n r : Int32} (Ho : OnR h o O) (S : OnS h o O) (am so : Int64) (w i : Int32) (d : Nat) : ∀ m, m ≤ o_A O → f_Mo_cut_120 d h 76 o am w (orW (axn O) so m n) (orW (axr O) so m r) so 1 i (nI m) = f_Mo_cut_17 d h 76 o am w (orW (axn O) so (o_A O) n) (orW (axr O) so (o_A O) r) so 1 (i + 1) := by
  have ok := Ho.2.1
  have hA := ok.2.2.2.2.1
  have H3 := OnR_at Ho
  refine dn ?_ ?_
  · rw [e_Mo_cut_120]
    simp (disch := first | assumption | omega) only [hc_ck, hc_gi, hc_gl, hc_gp, ap_I, ap_L, kd_I, kd_L, kd_P, kd_rI, ar_I, ar_L, ar_P, al_I, al_L, al_P, hop_s, cond_true, cond_false, pc_I_I, pc_L_L, pc_P_P, pc_I_L, pc_I_P, pc_L_I, pc_L_P, pc_P_I, pc_P_L, pc_sS_I, pc_sS_L, pc_sS_P, I_rI, L_rI, P_rI, S_rI, cv_r, ci_r, cl_r, o1_b, o1_0, o1_1, lc_e, nI_1, nI_add, if_true, if_false, Nat.reduceEqDiff, Nat.left_eq_add, Nat.add_eq_left, false_and, and_false, true_and, and_true, and_self, eq_self, z10, On_k, OnR_A, n_le, Nat.le_refl]
  · intro m hm ih
    have hm3 : ¬ o_A O ≤ m := by omega
    rw [orW_s, orW_s] at ih
    rw [e_Mo_cut_120]
    simp (disch := first | assumption | omega) only [hc_ck, hc_gi, hc_gl, hc_gp, ap_I, ap_L, kd_I, kd_L, kd_P, kd_rI, ar_I, ar_L, ar_P, al_I, al_L, al_P, hop_s, cond_true, cond_false, pc_I_I, pc_L_L, pc_P_P, pc_I_L, pc_I_P, pc_L_I, pc_L_P, pc_P_I, pc_P_L, pc_sS_I, pc_sS_L, pc_sS_P, I_rI, L_rI, P_rI, S_rI, cv_r, ci_r, cl_r, o1_b, o1_0, o1_1, lc_e, nI_1, nI_add, if_true, if_false, Nat.reduceEqDiff, Nat.left_eq_add, Nat.add_eq_left, false_and, and_false, true_and, and_true, and_self, eq_self, z10, On_k, OnR_A, n_le, hm3, xl_t0, On_p15, On_r15, On_p16, On_r16, (S.1 m hm).1, (S.1 m hm).2]
    cases x : xl so m
    · rw [x, if_neg (by decide), if_neg (by decide)] at ih
      rw [if_pos rfl]
      exact ih
    · rw [x, if_pos rfl, if_pos rfl] at ih
      rw [if_neg (by decide)]
      exact ih
theorem Mo_cut {h : am_H} {o : Nat} {O : o_T} (H : LcAt h) (Ho : OnR h o O) (S : OnS h o O) (am : Int64) (n r : Int32) (w : Bool) (d : Nat) : ∃ h', f_Mo_cut (d + 3) h 76 o am n r (bo w) = some (.inr (some (.long (mO O am w n r))), h') ∧ f76 h h' := by
  have ok := Ho.2.1
  obtain ⟨j1, j2, j3⟩ := mJ_s ok am w n r
  have key : ∀ j, j ≤ mJ O am w n r → ∀ g : am_H, f76 h g → ∃ h', f_Mo_cut_17 (d + 3) g 76 o am (bo w) (mQ O am w n r j).2.1 (mQ O am w n r j).2.2 (mQ O am w n r j).1 1 (nI j) = some (.inr (some (.long (mO O am w n r))), h') ∧ f76 h h' := by
    have stp : ∀ j, j ≤ mJ O am w n r → ∀ g : am_H, f76 h g → ∃ g', f76 h g' ∧ f_Mo_cut_17 (d + 3) g 76 o am (bo w) (mQ O am w n r j).2.1 (mQ O am w n r j).2.2 (mQ O am w n r j).1 1 (nI j) = f_Mo_cut_120 (d + 3) g' 76 o am (bo w) (mQ O am w n r j).2.1 (mQ O am w n r j).2.2 (mA O am w (mQ O am w n r j)) (bo (pd (∃ k, k < o_A O ∧ mN O am (mQ O am w n r j).1 w (mQ O am w n r j).2.1 (mQ O am w n r j).2.2 k))) (nI j) 0 := by
      intro j hj g q
      have Hg := f76_lc q H
      have Hog := f76_on q Ho
      obtain ⟨v, ev, qv, Mv⟩ := Mo_mark Hg Hog (mQ O am w n r j).2.1 (mQ O am w n r j).2.2 w (d + 1)
      have hj3 : ¬ 32 < j := by omega
      have lp := Mo_c46 (f76_lc qv Hg) (f76_on qv Hog) Mv am (mQ O am w n r j).1 (nI j) d 0 (Nat.zero_le _)
      rw [mW_0, pd_f (fun ⟨r, e, _⟩ => absurd e (Nat.not_lt_zero r))] at lp
      refine ⟨v, fX_t q qv, ?_⟩
      rw [e_Mo_cut_17]
      simp (disch := first | assumption | omega) only [hc_ck, hc_gi, hc_gl, hc_gp, ap_I, ap_L, kd_I, kd_L, kd_P, kd_rI, ar_I, ar_L, ar_P, al_I, al_L, al_P, hop_s, cond_true, cond_false, pc_I_I, pc_L_L, pc_P_P, pc_I_L, pc_I_P, pc_L_I, pc_L_P, pc_P_I, pc_P_L, pc_sS_I, pc_sS_L, pc_sS_P, I_rI, L_rI, P_rI, S_rI, cv_r, ci_r, cl_r, o1_b, o1_0, o1_1, lc_e, nI_1, nI_add, if_true, if_false, Nat.reduceEqDiff, Nat.left_eq_add, Nat.add_eq_left, false_and, and_false, true_and, and_true, and_self, eq_self, z10, show (32 : Int32) = nI 32 from rfl, n_lt, hj3, Lc_k76, ev]
      exact lp
    refine dn ?_ ?_
    · intro g q
      obtain ⟨v, qv, ev⟩ := stp _ (Nat.le_refl _) g q
      refine ⟨v, ?_, qv⟩
      rw [ev, pd_f (mA_n.mp j2), bo_f, e_Mo_cut_120, if_pos rfl, e_Mo_cut_17, if_pos rfl, j2]
      rfl
    · intro j hj ih g q
      obtain ⟨v, qv, ev⟩ := stp j (by omega) g q
      have ye : ∃ k, k < o_A O ∧ mN O am (mQ O am w n r j).1 w (mQ O am w n r j).2.1 (mQ O am w n r j).2.2 k := Classical.byContradiction (fun e => j3 j hj (mA_n.mpr e))
      have lp := Mo_c120 (n := (mQ O am w n r j).2.1) (r := (mQ O am w n r j).2.2) (f76_on qv Ho) (OnS_f qv.1 S) am (mA O am w (mQ O am w n r j)) (bo w) (nI j) (d + 3) 0 (Nat.zero_le _)
      obtain ⟨u, eu, qu⟩ := ih v qv
      refine ⟨u, ?_, qu⟩
      rw [ev, pd_t ye]
      refine Eq.trans lp ?_
      rw [nI_1]
      exact eu
  obtain ⟨u, eu, qu⟩ := key 0 (Nat.zero_le _) h (fX_r _ _)
  refine ⟨u, ?_, qu⟩
  rw [e_Mo_cut]
  exact eu
theorem Mo_ofAxiom {h : am_H} {o : Nat} {O : o_T} {B : Nat → Prop} (H : LcAt h) (Ho : OnR h o O) (S : OnS h o O) (hB : am_L h o 10 = wL B) {k : Nat} (hk : k < o_A O) (d : Nat) : ∃ h', f_Mo_ofAxiom (d + 4) h 76 o (nI k) = some (.inr (some (.long (mO O (wL B) false (axn O k) (axr O k)))), h') ∧ f76 h h' := by
  have H3 := OnR_at Ho
  have hA := Ho.2.1.2.2.2.2.1
  obtain ⟨u, eu, qu⟩ := Mo_cut H Ho S (wL B) (axn O k) (axr O k) false d
  rw [bo_f] at eu
  refine ⟨u, ?_, qu⟩
  rw [e_Mo_ofAxiom]
  simp (disch := first | assumption | omega) only [hc_ck, hc_gi, hc_gl, hc_gp, ap_I, ap_L, kd_I, kd_L, kd_P, kd_rI, ar_I, ar_L, ar_P, al_I, al_L, al_P, hop_s, cond_true, cond_false, pc_I_I, pc_L_L, pc_P_P, pc_I_L, pc_I_P, pc_L_I, pc_L_P, pc_P_I, pc_P_L, pc_sS_I, pc_sS_L, pc_sS_P, I_rI, L_rI, P_rI, S_rI, cv_r, ci_r, cl_r, o1_b, o1_0, o1_1, lc_e, nI_1, nI_add, if_true, if_false, Nat.reduceEqDiff, Nat.left_eq_add, Nat.add_eq_left, false_and, and_false, true_and, and_true, and_self, eq_self, On_k, hB, On_p15, On_r15, On_p16, On_r16, (S.1 k hk).1, (S.1 k hk).2, Lc_k76, eu]
theorem f76_L {h h' : am_H} (q : f76 h h') {b : Nat} (hb : b ≠ 76) : am_L h' b = am_L h b := q.2.2.2.2.2 b hb
theorem Mo_inTurn {h : am_H} {o : Nat} {O : o_T} {B : Nat → Prop} (H : LcAt h) (Ho : OnR h o O) (S : OnS h o O) (hB : am_L h o 10 = wL B) (hb : ∀ k, B k → k < o_A O) (n r : Int32) (d : Nat) : ∃ h', f_Mo_inTurn (d + 4) h 76 o n r = some (.inr (some (.long (tQ O (wL B) n r (tJ O (wL B) n r)))), h') ∧ f76 h h' := by
  have H3 := OnR_at Ho
  have ok := Ho.2.1
  obtain ⟨j1, j2, j3⟩ := tJ_s ok (on := wL B) (fun k q => hb k (wL_x.mp q).2) n r
  have key : ∀ j, j ≤ tJ O (wL B) n r → ∀ g : am_H, f76 h g → ∃ h', f_Mo_inTurn_12 (d + 4) g 76 o n r (tQ O (wL B) n r j) 1 (nI j) = some (.inr (some (.long (tQ O (wL B) n r (tJ O (wL B) n r)))), h') ∧ f76 h h' := by
    have stp : ∀ j, j ≤ tJ O (wL B) n r → ∀ g : am_H, f76 h g → ∃ g', f76 h g' ∧ f_Mo_inTurn_12 (d + 4) g 76 o n r (tQ O (wL B) n r j) 1 (nI j) = if tQ O (wL B) n r (j + 1) = tQ O (wL B) n r j then f_Mo_inTurn_12 (d + 4) g' 76 o n r (tQ O (wL B) n r (j + 1)) 0 (nI (j + 1)) else f_Mo_inTurn_12 (d + 4) g' 76 o n r (tQ O (wL B) n r (j + 1)) 1 (nI (j + 1)) := by
      intro j hj g q
      have Hg := f76_lc q H
      have Hog := f76_on q Ho
      have hj3 : ¬ 32 < j := by omega
      obtain ⟨v, ev, qv⟩ := Mo_cut Hg Hog (OnS_f q.1 S) (tQ O (wL B) n r j) n r false d
      have Hv := f76_lc qv Hg
      obtain ⟨u, eu, qu⟩ := Mo_cut Hv (f76_on qv Hog) (OnS_f qv.1 (OnS_f q.1 S)) (mO O (tQ O (wL B) n r j) false n r) n r true d
      rw [bo_f] at ev
      rw [bo_t] at eu
      refine ⟨u, fX_t q (fX_t qv qu), ?_⟩
      rw [e_Mo_inTurn_12]
      simp (disch := first | assumption | omega) only [hc_ck, hc_gi, hc_gl, hc_gp, ap_I, ap_L, kd_I, kd_L, kd_P, kd_rI, ar_I, ar_L, ar_P, al_I, al_L, al_P, hop_s, cond_true, cond_false, pc_I_I, pc_L_L, pc_P_P, pc_I_L, pc_I_P, pc_L_I, pc_L_P, pc_P_I, pc_P_L, pc_sS_I, pc_sS_L, pc_sS_P, I_rI, L_rI, P_rI, S_rI, cv_r, ci_r, cl_r, o1_b, o1_0, o1_1, lc_e, nI_1, nI_add, if_true, if_false, Nat.reduceEqDiff, Nat.left_eq_add, Nat.add_eq_left, false_and, and_false, true_and, and_true, and_self, eq_self, z10, show (32 : Int32) = nI 32 from rfl, n_lt, hj3, Lc_k76, ev, eu]
      rfl
    refine dn ?_ ?_
    · intro g q
      obtain ⟨v, qv, ev⟩ := stp _ (Nat.le_refl _) g q
      refine ⟨v, ?_, qv⟩
      rw [ev, if_pos j2, e_Mo_inTurn_12, if_pos rfl, j2]
    · intro j hj ih g q
      obtain ⟨v, qv, ev⟩ := stp j (by omega) g q
      rw [ev, if_neg (j3 j hj)]
      exact ih v qv
  obtain ⟨u, eu, qu⟩ := key 0 (Nat.zero_le _) h (fX_r _ _)
  refine ⟨u, ?_, qu⟩
  rw [e_Mo_inTurn]
  simp (disch := first | assumption | omega) only [hc_ck, hc_gi, hc_gl, hc_gp, ap_I, ap_L, kd_I, kd_L, kd_P, kd_rI, ar_I, ar_L, ar_P, al_I, al_L, al_P, hop_s, cond_true, cond_false, pc_I_I, pc_L_L, pc_P_P, pc_I_L, pc_I_P, pc_L_I, pc_L_P, pc_P_I, pc_P_L, pc_sS_I, pc_sS_L, pc_sS_P, I_rI, L_rI, P_rI, S_rI, cv_r, ci_r, cl_r, o1_b, o1_0, o1_1, lc_e, nI_1, nI_add, if_true, if_false, Nat.reduceEqDiff, Nat.left_eq_add, Nat.add_eq_left, false_and, and_false, true_and, and_true, and_self, eq_self, On_k, hB]
  exact eu
