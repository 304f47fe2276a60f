/-! ===== modules: the class ===== -/
theorem lz_p {h : am_H} {r k j p : Nat} (a : am_kd h r k = true) (b : am_P h r j = some p) (f : Nat → Option am_R) : am_gp h r k j f = f p := by
  rw [hc_gp, a, cond_true, b, hop_s]
theorem lz_i {h : am_H} {r k j : Nat} {v : Int32} (a : am_kd h r k = true) (b : am_I h r j = v) (f : Int32 → Option am_R) : am_gi h r k j f = f v := by
  rw [hc_gi, a, cond_true, b]
theorem lz_l {h : am_H} {r k j : Nat} {v : Int64} (a : am_kd h r k = true) (b : am_L h r j = v) (f : Int64 → Option am_R) : am_gl h r k j f = f v := by
  rw [hc_gl, a, cond_true, b]
theorem lz_k {h : am_H} {r k : Nat} (a : am_kd h r k = true) (f : Option am_R) : am_ck h r k f = f := by
  rw [hc_ck, a, cond_true]
theorem lz_ci {x : Option am_R} {v : Int32} {h' : am_H} (e : x = some (.inr (some (.int v)), h')) (f : Int32 → am_H → Option am_R) : am_ci x f = f v h' := by
  rw [e, ci_r]
theorem lz_cl {x : Option am_R} {v : Int64} {h' : am_H} (e : x = some (.inr (some (.long v)), h')) (f : Int64 → am_H → Option am_R) : am_cl x f = f v h' := by
  rw [e, cl_r]
theorem lz_cv {x : Option am_R} {h' : am_H} (e : x = some (.inr none, h')) (f : am_H → Option am_R) : am_cv x f = f h' := by
  rw [e, cv_r]
theorem Mo_isM (h : am_H) (w : Int64) {k : Nat} (hk : k < 64) (d : Nat) : f_Mo_isMarked d h w (nI k) = some (.inr (some (.int (bo (xl w k)))), h) := by
  rw [e_Mo_isMarked]
  simp (disch := first | assumption | omega) only [hc_ck, hc_gi, hc_gl, hc_gp, ap_I, ap_L, kd_I, kd_L, kd_P, kd_rI, ar_I, ar_L, ar_P, al_I, al_L, al_P, hop_s, cond_true, cond_false, pc_I_I, pc_L_L, pc_P_P, pc_I_L, pc_I_P, pc_L_I, pc_L_P, pc_P_I, pc_P_L, pc_sS_I, pc_sS_L, pc_sS_P, I_rI, L_rI, P_rI, S_rI, cv_r, ci_r, cl_r, o1_b, o1_0, o1_1, lc_e, nI_1, nI_add, if_true, if_false, Nat.reduceEqDiff, Nat.left_eq_add, Nat.add_eq_left, false_and, and_false, true_and, and_true, and_self, eq_self, xl_t0]
  cases xl w k <;> rfl
def MoR (h : am_H) (O : o_T) (n r : Int32) (w : Bool) (m : Nat) : Prop := am_L h 76 0 = wL (fun q => q < m ∧ lF O n r w q = true) ∧ am_L h 76 1 = wL (fun q => q < m ∧ uF O n r w q = true)
def f76 (h h' : am_H) : Prop := fX (fun b => b = 76) h h'
theorem f76_lc {h h' : am_H} (q : f76 h h') (H : LcAt h) : LcAt h' := LcAt_of H q.2.2.1 (fun b j _ => by rw [q.2.1])
theorem f76_on {h h' : am_H} {o : Nat} {O : o_T} (q : f76 h h') (H : OnR h o O) : OnR h' o O := OnR_of H q.2.2.1 (fun j _ => by rw [q.2.1]) (fun j hj => by rw [q.1])
theorem Mo_m280 {h : am_H} {o m : Nat} {O : o_T} {n r : Int32} {w a b : Bool} (H : LcAt h) (hm : m < 64) (M : MoR h O n r w m) (ha : lF O n r w m = a) (hb : uF O n r w m = b) (d : Nat) : ∃ h', f_Mo_mark_280 d h 76 o n r (bo w) (nI m) (bo a) (bo b) = f_Mo_mark_13 d h' 76 o n r (bo w) (nI (m + 1)) ∧ f76 h h' ∧ MoR h' O n r w (m + 1) := by
  have fr : ∀ x y : Int64, f76 h (am_sL (am_sL h 76 0 x) 76 1 y) := fun x y => ⟨rfl, rfl, rfl, rfl, rfl, fun c p => by
    funext j
    rw [pc_L_L, if_neg (fun e => p e.1), pc_L_L, if_neg (fun e => p e.1)]⟩
  have rd : ∀ x y : Int64, am_L (am_sL (am_sL h 76 0 x) 76 1 y) 76 0 = x ∧ am_L (am_sL (am_sL h 76 0 x) 76 1 y) 76 1 = y := fun x y => by
    rw [pc_L_L, if_neg (by omega), pc_L_L, if_pos ⟨rfl, rfl⟩, pc_L_L, if_pos ⟨rfl, rfl⟩]
    exact ⟨rfl, rfl⟩
  have l0 : ∀ v : Int64, v ||| 0 = v := fun v => Int64.or_zero
  obtain ⟨M1, M2⟩ := M
  rw [e_Mo_mark_280]
  cases a with
  | true =>
    have u1 := wd_y (Q := fun q => lF O n r w q = true) hm ha
    cases b with
    | true =>
      have u2 := wd_y (Q := fun q => uF O n r w q = true) hm hb
      refine ⟨am_sL (am_sL h 76 0 (am_L h 76 0 ||| am_lshl 1 (nI m))) 76 1 (am_L h 76 1 ||| am_lshl 1 (nI m)), ?_, fr _ _, ?_⟩
      · simp (disch := first | assumption | omega) only [hc_ck, hc_gi, hc_gl, hc_gp, ap_I, ap_L, kd_I, kd_L, kd_P, kd_rI, ar_I, ar_L, ar_P, al_I, al_L, al_P, hop_s, cond_true, cond_false, pc_I_I, pc_L_L, pc_P_P, pc_I_L, pc_I_P, pc_L_I, pc_L_P, pc_P_I, pc_P_L, pc_sS_I, pc_sS_L, pc_sS_P, I_rI, L_rI, P_rI, S_rI, cv_r, ci_r, cl_r, o1_b, o1_0, o1_1, lc_e, nI_1, nI_add, if_true, if_false, Nat.reduceEqDiff, Nat.left_eq_add, Nat.add_eq_left, false_and, and_false, true_and, and_true, and_self, eq_self, Lc_k76, bo_t, z10]
      · rw [M1, M2, u1, u2]
        exact rd _ _
    | false =>
      have u2 := wd_n (k := m) (Q := fun q => uF O n r w q = true) (fun e => absurd (hb.symm.trans e) (by decide))
      refine ⟨am_sL (am_sL h 76 0 (am_L h 76 0 ||| am_lshl 1 (nI m))) 76 1 (am_L h 76 1), ?_, fr _ _, ?_⟩
      · simp (disch := first | assumption | omega) only [hc_ck, hc_gi, hc_gl, hc_gp, ap_I, ap_L, kd_I, kd_L, kd_P, kd_rI, ar_I, ar_L, ar_P, al_I, al_L, al_P, hop_s, cond_true, cond_false, pc_I_I, pc_L_L, pc_P_P, pc_I_L, pc_I_P, pc_L_I, pc_L_P, pc_P_I, pc_P_L, pc_sS_I, pc_sS_L, pc_sS_P, I_rI, L_rI, P_rI, S_rI, cv_r, ci_r, cl_r, o1_b, o1_0, o1_1, lc_e, nI_1, nI_add, if_true, if_false, Nat.reduceEqDiff, Nat.left_eq_add, Nat.add_eq_left, false_and, and_false, true_and, and_true, and_self, eq_self, Lc_k76, bo_t, bo_f, z10, l0]
      · rw [M1, M2, u1, u2]
        exact rd _ _
  | false =>
    have u1 := wd_n (k := m) (Q := fun q => lF O n r w q = true) (fun e => absurd (ha.symm.trans e) (by decide))
    cases b with
    | true =>
      have u2 := wd_y (Q := fun q => uF O n r w q = true) hm hb
      refine ⟨am_sL (am_sL h 76 0 (am_L h 76 0)) 76 1 (am_L h 76 1 ||| am_lshl 1 (nI m)), ?_, fr _ _, ?_⟩
      · simp (disch := first | assumption | omega) only [hc_ck, hc_gi, hc_gl, hc_gp, ap_I, ap_L, kd_I, kd_L, kd_P, kd_rI, ar_I, ar_L, ar_P, al_I, al_L, al_P, hop_s, cond_true, cond_false, pc_I_I, pc_L_L, pc_P_P, pc_I_L, pc_I_P, pc_L_I, pc_L_P, pc_P_I, pc_P_L, pc_sS_I, pc_sS_L, pc_sS_P, I_rI, L_rI, P_rI, S_rI, cv_r, ci_r, cl_r, o1_b, o1_0, o1_1, lc_e, nI_1, nI_add, if_true, if_false, Nat.reduceEqDiff, Nat.left_eq_add, Nat.add_eq_left, false_and, and_false, true_and, and_true, and_self, eq_self, Lc_k76, bo_t, bo_f, z10, l0]
      · rw [M1, M2, u1, u2]
        exact rd _ _
    | false =>
      have u2 := wd_n (k := m) (Q := fun q => uF O n r w q = true) (fun e => absurd (hb.symm.trans e) (by decide))
      refine ⟨am_sL (am_sL h 76 0 (am_L h 76 0)) 76 1 (am_L h 76 1), ?_, fr _ _, ?_⟩
      · simp (disch := first | assumption | omega) only [hc_ck, hc_gi, hc_gl, hc_gp, ap_I, ap_L, kd_I, kd_L, kd_P, kd_rI, ar_I, ar_L, ar_P, al_I, al_L, al_P, hop_s, cond_true, cond_false, pc_I_I, pc_L_L, pc_P_P, pc_I_L, pc_I_P, pc_L_I, pc_L_P, pc_P_I, pc_P_L, pc_sS_I, pc_sS_L, pc_sS_P, I_rI, L_rI, P_rI, S_rI, cv_r, ci_r, cl_r, o1_b, o1_0, o1_1, lc_e, nI_1, nI_add, if_true, if_false, Nat.reduceEqDiff, Nat.left_eq_add, Nat.add_eq_left, false_and, and_false, true_and, and_true, and_self, eq_self, Lc_k76, bo_f, l0]
      · rw [M1, M2, u1, u2]
        exact rd _ _
theorem Mo_x {P : Nat → Bool} {m q : Nat} (hq : q < m) (hm : m ≤ 64) : xl (wL (fun q => q < m ∧ P q = true)) q = P q := by
  rw [Bool.eq_iff_iff, wL_x]
  exact ⟨fun e => e.2.2, fun e => ⟨by omega, hq, e⟩⟩
theorem Mo_mark {h : am_H} {o : Nat} {O : o_T} (H : LcAt h) (Ho : OnR h o O) (n r : Int32) (w : Bool) (d : Nat) : ∃ h', f_Mo_mark (d + 1) h 76 o n r (bo w) = some (.inr none, h') ∧ f76 h h' ∧ MoR h' O n r w (o_P O) := by
  have ok := Ho.2.1
  have hP := ok.2.2.2.1
  have hR := ok.2.1
  have hN := ok.1
  have key : ∀ m, m ≤ o_P O → ∀ g : am_H, f76 h g → MoR g O n r w m → ∃ h', f_Mo_mark_13 (d + 1) g 76 o n r (bo w) (nI m) = some (.inr none, h') ∧ f76 h h' ∧ MoR h' O n r w (o_P O) := by
    refine dn ?_ ?_
    · intro g q M
      have Hog := f76_on q Ho
      have H3 := OnR_at Hog
      refine ⟨g, ?_, q, M⟩
      rw [e_Mo_mark_13, lz_i (On_k H3) (OnR_P Hog), if_pos (Int32.le_refl _)]
    · intro m hm ih g q M
      have Hg := f76_lc q H
      have Hog := f76_on q Ho
      have H3 := OnR_at Hog
      have hm3 : ¬ o_P O ≤ m := by omega
      obtain ⟨c3, c4, c0, c5⟩ := o_ch ok hm
      have fin : ∀ a b, lF O n r w m = a → uF O n r w m = b → ∃ h', f_Mo_mark_280 (d + 1) g 76 o n r (bo w) (nI m) (bo a) (bo b) = some (.inr none, h') ∧ f76 h h' ∧ MoR h' O n r w (o_P O) := by
        intro a b ha hb
        obtain ⟨v, ev, qv, Mv⟩ := Mo_m280 (o := o) Hg (by omega) M ha hb (d + 1)
        rw [ev]
        exact ih v (fX_t q qv) Mv
      rw [e_Mo_mark_13]
      rw [lz_i (On_k H3) (OnR_P Hog), if_neg (by rw [n_le _ _ (by omega) (by omega)]; exact hm3), lz_p (On_k H3) (On_p5 H3), On_r7 H3 (show m < 60 by omega), lz_p (On_k H3) (On_p6 H3), On_r8 H3 (show m < 60 by omega), lz_p (On_k H3) (On_p4 H3), On_r6 H3 (show m < 60 by omega), OnR_pk Hog hm, OnR_pa Hog hm, OnR_pb Hog hm]
      rcases (show o_pk O m = 0 ∨ o_pk O m = 1 ∨ o_pk O m = 2 ∨ o_pk O m = 3 ∨ o_pk O m = 4 by omega) with e | e | e | e | e
      · have ca := c0 e
        obtain ⟨f1, f2⟩ := lu_0 (n := n) (r := r) (w := w) e
        rw [e]
        simp +decide (disch := first | assumption | omega) only [hc_ck, hc_gi, hc_gl, hc_gp, ap_I, ap_L, kd_I, kd_L, kd_P, kd_rI, ar_I, ar_L, ar_P, al_I, al_L, al_P, hop_s, cond_true, cond_false, pc_I_I, pc_L_L, pc_P_P, pc_I_L, pc_I_P, pc_L_I, pc_L_P, pc_P_I, pc_P_L, pc_sS_I, pc_sS_L, pc_sS_P, I_rI, L_rI, P_rI, S_rI, cv_r, ci_r, cl_r, o1_b, o1_0, o1_1, lc_e, nI_1, nI_add, if_true, if_false, Nat.reduceEqDiff, Nat.left_eq_add, Nat.add_eq_left, false_and, and_false, true_and, and_true, and_self, eq_self, yi_t0, bo_0, e_Mo_mark_115]
        cases w <;> cases ey : yi n (o_pa O m) <;> rw [ey] at f1 f2 <;> simp +decide only [if_true, if_false] <;> exact fin _ _ f1 f2
      · obtain ⟨f1, f2⟩ := lu_1 (n := n) (r := r) (w := w) e
        rw [e]
        simp +decide only [if_true, if_false]
        exact fin _ _ f1 f2
      · obtain ⟨f1, f2⟩ := lu_2 (n := n) (r := r) (w := w) e
        rw [e]
        simp +decide only [if_true, if_false]
        exact fin _ _ f1 f2
      · have ca := c3 e
        obtain ⟨f1, f2⟩ := lu_3 (n := n) (r := r) (w := w) ok hm e
        rw [e]
        simp +decide (disch := first | assumption | omega) only [hc_ck, hc_gi, hc_gl, hc_gp, ap_I, ap_L, kd_I, kd_L, kd_P, kd_rI, ar_I, ar_L, ar_P, al_I, al_L, al_P, hop_s, cond_true, cond_false, pc_I_I, pc_L_L, pc_P_P, pc_I_L, pc_I_P, pc_L_I, pc_L_P, pc_P_I, pc_P_L, pc_sS_I, pc_sS_L, pc_sS_P, I_rI, L_rI, P_rI, S_rI, cv_r, ci_r, cl_r, o1_b, o1_0, o1_1, lc_e, nI_1, nI_add, if_true, if_false, Nat.reduceEqDiff, Nat.left_eq_add, Nat.add_eq_left, false_and, and_false, true_and, and_true, and_self, eq_self, Lc_k76, M.1, Mo_isM, Mo_x ca.1 (show m ≤ 64 by omega), Mo_x ca.2 (show m ≤ 64 by omega), bo_0]
        have e170 : ∀ s : Bool, lF O n r w m = s → ∃ h', f_Mo_mark_170 (d + 1) g 76 o n r (bo w) (nI m) (nI (o_pa O m)) (nI (o_pb O m)) (bo s) = some (.inr none, h') ∧ f76 h h' ∧ MoR h' O n r w (o_P O) := by
          intro s hs
          rw [e_Mo_mark_170]
          simp +decide (disch := first | assumption | omega) only [hc_ck, hc_gi, hc_gl, hc_gp, ap_I, ap_L, kd_I, kd_L, kd_P, kd_rI, ar_I, ar_L, ar_P, al_I, al_L, al_P, hop_s, cond_true, cond_false, pc_I_I, pc_L_L, pc_P_P, pc_I_L, pc_I_P, pc_L_I, pc_L_P, pc_P_I, pc_P_L, pc_sS_I, pc_sS_L, pc_sS_P, I_rI, L_rI, P_rI, S_rI, cv_r, ci_r, cl_r, o1_b, o1_0, o1_1, lc_e, nI_1, nI_add, if_true, if_false, Nat.reduceEqDiff, Nat.left_eq_add, Nat.add_eq_left, false_and, and_false, true_and, and_true, and_self, eq_self, Lc_k76, M.2, Mo_isM, Mo_x ca.1 (show m ≤ 64 by omega), Mo_x ca.2 (show m ≤ 64 by omega), bo_0]
          cases x1 : uF O n r w (o_pa O m) <;> cases x2 : uF O n r w (o_pb O m) <;> rw [x1, x2] at f2 <;> simp +decide only [if_true, if_false] <;> exact fin _ _ hs f2
        cases x1 : lF O n r w (o_pa O m) <;> cases x2 : lF O n r w (o_pb O m) <;> rw [x1, x2] at f1 <;> simp +decide only [if_true, if_false] <;> exact e170 _ f1
      · have ca := c4 e
        obtain ⟨f1, f2⟩ := lu_4 (n := n) (r := r) (w := w) ok hm e
        rw [e]
        simp +decide (disch := first | assumption | omega) only [hc_ck, hc_gi, hc_gl, hc_gp, ap_I, ap_L, kd_I, kd_L, kd_P, kd_rI, ar_I, ar_L, ar_P, al_I, al_L, al_P, hop_s, cond_true, cond_false, pc_I_I, pc_L_L, pc_P_P, pc_I_L, pc_I_P, pc_L_I, pc_L_P, pc_P_I, pc_P_L, pc_sS_I, pc_sS_L, pc_sS_P, I_rI, L_rI, P_rI, S_rI, cv_r, ci_r, cl_r, o1_b, o1_0, o1_1, lc_e, nI_1, nI_add, if_true, if_false, Nat.reduceEqDiff, Nat.left_eq_add, Nat.add_eq_left, false_and, and_false, true_and, and_true, and_self, eq_self, yi_t0]
        have e249 : ∀ s t : Bool, lF O n r w m = s → (!yi r (o_pa O m)) = t → ∃ h', f_Mo_mark_249 (d + 1) g 76 o n r (bo w) (nI m) (nI (o_pb O m)) (bo t) (bo s) = some (.inr none, h') ∧ f76 h h' ∧ MoR h' O n r w (o_P O) := by
          intro s t hs ht
          rw [ht] at f2
          rw [e_Mo_mark_249]
          simp +decide (disch := first | assumption | omega) only [hc_ck, hc_gi, hc_gl, hc_gp, ap_I, ap_L, kd_I, kd_L, kd_P, kd_rI, ar_I, ar_L, ar_P, al_I, al_L, al_P, hop_s, cond_true, cond_false, pc_I_I, pc_L_L, pc_P_P, pc_I_L, pc_I_P, pc_L_I, pc_L_P, pc_P_I, pc_P_L, pc_sS_I, pc_sS_L, pc_sS_P, I_rI, L_rI, P_rI, S_rI, cv_r, ci_r, cl_r, o1_b, o1_0, o1_1, lc_e, nI_1, nI_add, if_true, if_false, Nat.reduceEqDiff, Nat.left_eq_add, Nat.add_eq_left, false_and, and_false, true_and, and_true, and_self, eq_self, Lc_k76, M.2, Mo_isM, Mo_x ca.2 (show m ≤ 64 by omega), bo_0]
          cases w <;> cases t <;> cases x2 : uF O n r _ (o_pb O m) <;> rw [x2] at f2 <;> simp +decide only [if_true, if_false] <;> exact fin _ _ hs f2
        have e220 : ∀ t : Bool, (!yi r (o_pa O m)) = t → ∃ h', f_Mo_mark_220 (d + 1) g 76 o n r (bo w) (nI m) (nI (o_pb O m)) (bo t) = some (.inr none, h') ∧ f76 h h' ∧ MoR h' O n r w (o_P O) := by
          intro t ht
          rw [ht] at f1
          rw [e_Mo_mark_220]
          simp +decide (disch := first | assumption | omega) only [hc_ck, hc_gi, hc_gl, hc_gp, ap_I, ap_L, kd_I, kd_L, kd_P, kd_rI, ar_I, ar_L, ar_P, al_I, al_L, al_P, hop_s, cond_true, cond_false, pc_I_I, pc_L_L, pc_P_P, pc_I_L, pc_I_P, pc_L_I, pc_L_P, pc_P_I, pc_P_L, pc_sS_I, pc_sS_L, pc_sS_P, I_rI, L_rI, P_rI, S_rI, cv_r, ci_r, cl_r, o1_b, o1_0, o1_1, lc_e, nI_1, nI_add, if_true, if_false, Nat.reduceEqDiff, Nat.left_eq_add, Nat.add_eq_left, false_and, and_false, true_and, and_true, and_self, eq_self, Lc_k76, M.1, Mo_isM, Mo_x ca.2 (show m ≤ 64 by omega), bo_0]
          cases w <;> cases t <;> cases x2 : lF O n r _ (o_pb O m) <;> rw [x2] at f1 <;> simp +decide only [if_true, if_false] <;> exact e249 _ _ f1 ht
        cases ey : yi r (o_pa O m)
        · rw [if_pos rfl]
          exact e220 true (by rw [ey]; rfl)
        · rw [if_neg (by decide)]
          exact e220 false (by rw [ey]; rfl)
  have q0 : f76 h (am_sL (am_sL h 76 0 0) 76 1 0) := ⟨rfl, rfl, rfl, rfl, rfl, fun c p => by
    funext j
    rw [pc_L_L, if_neg (fun e => p e.1), pc_L_L, if_neg (fun e => p e.1)]⟩
  obtain ⟨v, ev, qv, Mv⟩ := key 0 (Nat.zero_le _) (am_sL (am_sL h 76 0 0) 76 1 0) q0 (by
    unfold MoR
    rw [wd_0, wd_0, pc_L_L, if_neg (by omega), pc_L_L, if_pos ⟨rfl, rfl⟩, pc_L_L, if_pos ⟨rfl, rfl⟩]
    exact ⟨rfl, rfl⟩)
  refine ⟨v, ?_, qv, Mv⟩
  rw [e_Mo_mark]
  simp (disch := first | assumption | omega) only [hc_ck, hc_gi, hc_gl, hc_gp, ap_I, ap_L, kd_I, kd_L, kd_P, kd_rI, ar_I, ar_L, ar_P, al_I, al_L, al_P, hop_s, cond_true, cond_false, pc_I_I, pc_L_L, pc_P_P, pc_I_L, pc_I_P, pc_L_I, pc_L_P, pc_P_I, pc_P_L, pc_sS_I, pc_sS_L, pc_sS_P, I_rI, L_rI, P_rI, S_rI, cv_r, ci_r, cl_r, o1_b, o1_0, o1_1, lc_e, nI_1, nI_add, if_true, if_false, Nat.reduceEqDiff, Nat.left_eq_add, Nat.add_eq_left, false_and, and_false, true_and, and_true, and_self, eq_self, Lc_k76]
  exact ev
theorem Mo_iB {h : am_H} {O : o_T} {n r : Int32} {w : Bool} (H : LcAt h) (M : MoR h O n r w (o_P O)) (ok : o_ok O) {c e : Nat} (hc : c < o_P O) (he : e < o_P O) (d : Nat) : f_Mo_isIdleBelow (d + 1) h 76 (nI c) (nI e) = some (.inr (some (.int (bo (lF O n r w c || uF O n r w e)))), h) := by
  have hP := ok.2.2.2.1
  rw [e_Mo_isIdleBelow]
  simp (disch := first | assumption | omega) only [hc_ck, hc_gi, hc_gl, hc_gp, ap_I, ap_L, kd_I, kd_L, kd_P, kd_rI, ar_I, ar_L, ar_P, al_I, al_L, al_P, hop_s, cond_true, cond_false, pc_I_I, pc_L_L, pc_P_P, pc_I_L, pc_I_P, pc_L_I, pc_L_P, pc_P_I, pc_P_L, pc_sS_I, pc_sS_L, pc_sS_P, I_rI, L_rI, P_rI, S_rI, cv_r, ci_r, cl_r, o1_b, o1_0, o1_1, lc_e, nI_1, nI_add, if_true, if_false, Nat.reduceEqDiff, Nat.left_eq_add, Nat.add_eq_left, false_and, and_false, true_and, and_true, and_self, eq_self, Lc_k76, M.1, M.2, Mo_isM, Mo_x hc (show o_P O ≤ 64 by omega), Mo_x he (show o_P O ≤ 64 by omega), bo_0]
  cases lF O n r w c <;> cases uF O n r w e <;> rfl
theorem o_ax {O : o_T} (ok : o_ok O) {k : Nat} (hk : k < o_A O) : (o_ak O k ≤ 1 → o_a1 O k < o_P O ∧ o_a2 O k < o_P O) ∧ (o_ak O k = 2 → o_a1 O k < o_R O ∧ o_a2 O k < o_R O) ∧ (o_ak O k = 3 → o_a1 O k < o_R O ∧ o_a2 O k < o_R O ∧ o_a3 O k < o_R O) ∧ o_ak O k < 4 := by
  have := ok.2.2.2.2.2.2.2.2.1 k hk
  unfold o_okA at this
  omega
theorem Mo_isIdle {h : am_H} {o : Nat} {O : o_T} {n r : Int32} {w : Bool} (H : LcAt h) (Ho : OnR h o O) (M : MoR h O n r w (o_P O)) {k : Nat} (hk : k < o_A O) (d : Nat) : f_Mo_isIdle (d + 2) h 76 o (nI k) r (bo w) = some (.inr (some (.int (bo (iF O n r w k)))), h) := by
  have ok := Ho.2.1
  have hR := ok.2.1
  have hA := ok.2.2.2.2.1
  have H3 := OnR_at Ho
  obtain ⟨c1, c2, c3, c4⟩ := o_ax ok hk
  have i1 := fun (c : o_ak O k ≤ 1) => Mo_iB H M ok (c1 c).1 (c1 c).2 d
  have i2 := fun (c : o_ak O k ≤ 1) => Mo_iB H M ok (c1 c).2 (c1 c).1 d
  rw [e_Mo_isIdle]
  simp (disch := first | assumption | omega) only [hc_ck, hc_gi, hc_gl, hc_gp, ap_I, ap_L, kd_I, kd_L, kd_P, kd_rI, ar_I, ar_L, ar_P, al_I, al_L, al_P, hop_s, cond_true, cond_false, pc_I_I, pc_L_L, pc_P_P, pc_I_L, pc_I_P, pc_L_I, pc_L_P, pc_P_I, pc_P_L, pc_sS_I, pc_sS_L, pc_sS_P, I_rI, L_rI, P_rI, S_rI, cv_r, ci_r, cl_r, o1_b, o1_0, o1_1, lc_e, nI_1, nI_add, if_true, if_false, Nat.reduceEqDiff, Nat.left_eq_add, Nat.add_eq_left, false_and, and_false, true_and, and_true, and_self, eq_self, On_k, On_p11, On_p12, On_p13, On_p14, On_r11, On_r12, On_r13, On_r14, OnR_ak, OnR_a1, OnR_a2, OnR_a3, Lc_k76]
  unfold iF
  rcases (show o_ak O k = 0 ∨ o_ak O k = 1 ∨ o_ak O k = 2 ∨ o_ak O k = 3 by omega) with e | e | e | e
  · rw [i1 (by omega), e]
    simp +decide only [if_true, if_false, ci_r, o1_b]
  · have j1 := i1 (by omega)
    have j2 := i2 (by omega)
    rw [e]
    simp +decide only [if_true, if_false, j1, j2, ci_r, o1_b, bo_0, Nat.reduceEqDiff, Lc_k76 H, cond_true]
    cases lF O n r w (o_a1 O k) || uF O n r w (o_a2 O k) <;> cases lF O n r w (o_a2 O k) || uF O n r w (o_a1 O k) <;> simp +decide only [if_true, if_false, o1_0, o1_1] <;> rfl
  · have := c2 e
    rw [e]
    simp +decide (disch := first | assumption | omega) only [if_true, if_false, bo_0, e_Mo_isIdle_98, yi_t0]
    cases w
    · simp +decide only [if_true, if_false]
      cases yi r (o_a1 O k) <;> simp +decide only [if_true, if_false, o1_0, o1_1] <;> rfl
    · simp +decide only [if_true, if_false]
      cases yi r (o_a2 O k) <;> simp +decide only [if_true, if_false, o1_0, o1_1] <;> rfl
  · have := c3 e
    rw [e]
    simp +decide (disch := first | assumption | omega) only [if_true, if_false, bo_0, yi_t0, yi_t2]
    cases w
    · cases yi r (o_a1 O k) <;> cases yi r (o_a2 O k) <;> simp +decide only [if_true, if_false, o1_0, o1_1] <;> rfl
    · cases yi r (o_a3 O k) <;> simp +decide only [if_true, if_false, o1_0, o1_1] <;> rfl
