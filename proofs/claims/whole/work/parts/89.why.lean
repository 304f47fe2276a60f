/-! ===== reasons: answers as numbers; the class ===== -/
noncomputable def q_need (O : o_T) (B : Nat → Prop) (x y : Nat) : Int64 := wL (fun k => l_be O B x y ∧ k < o_A O ∧ B k ∧ ¬ l_be O (m_rm B k) x y)
theorem q_need_U {O : o_T} {B U : Nat → Prop} {x y : Nat} {so : Bool} (hs : so = true ↔ l_be O B x y) (h : m_ua O B U x y) : wL (fun k => so = true ∧ k < o_A O ∧ U k ∧ ¬ l_be O (m_rm U k) x y) = q_need O B x y := by
  apply wL_cong
  intro k _
  constructor
  · rintro ⟨a, b, c, e⟩
    refine ⟨hs.mp a, b, (h.1 k c).1, fun q => e ?_⟩
    exact l_mb (fun j p => ⟨p.2, p.1.2⟩) ((h.2 (m_rm B k) (fun j p => p.1)).mp q)
  · rintro ⟨a, b, c, e⟩
    have uk : U k := by
      apply Classical.byContradiction
      intro nu
      refine e ((h.2 (m_rm B k) (fun j p => p.1)).mpr ?_)
      exact l_mb (fun j p => ⟨⟨(h.1 j p).1, fun q => nu (q ▸ p)⟩, p⟩) ((m_uaE h).mp a)
    refine ⟨hs.mpr a, b, uk, fun q => e ?_⟩
    exact l_mb (fun j p => ⟨(h.1 j p.1).1, p.2⟩) q
noncomputable def q_en (O : o_T) (B : Nat → Prop) (x y : Nat) : Int64 := @ite _ (l_be O B x y) (Classical.propDecidable _) (wL (m_sh (fun S => l_be O S x y) (o_A O) B)) (-1)
theorem q_en_U {O : o_T} {B U : Nat → Prop} {x y : Nat} (hBA : ∀ k, B k → k < o_A O) (hs : l_be O B x y) (h : m_ua O B U x y) : wL (m_sh (fun S => l_be O S x y) (o_A O) U) = wL (m_sh (fun S => l_be O S x y) (o_A O) B) := by
  have q := m_rel (l_beM O x y) (fun k p => (h.1 k p).1) h.2 hs (o_A O)
  apply wL_cong
  intro j _
  exact ⟨fun e => ((q.1 j).mp e).1, fun e => (q.1 j).mpr ⟨e, q.2 j (hBA j (m_shs e)) e⟩⟩
noncomputable def q_rn (O : o_T) (B : Nat → Prop) (x y : Nat) : Nat := lm (fun n => ∃ r, m_L (fun S => l_be O S x y) B n r)
noncomputable def q_rw (O : o_T) (B : Nat → Prop) (x y i : Nat) : Int64 := @dite _ (∃ w, ∃ n r, m_L (fun S => l_be O S x y) B n r ∧ n ≤ 4 ∧ i < n ∧ r i = w) (Classical.propDecidable _) (fun h => Classical.choose h) (fun _ => 0)
theorem q_rn_e {O : o_T} {B : Nat → Prop} {x y n : Nat} {r : Nat → Int64} (hB : ∀ k, B k → k < 64) (h : m_L (fun S => l_be O S x y) B n r) : q_rn O B x y = n := lm_e ⟨r, h⟩ (fun j hj ⟨q, e⟩ => by have := (m_L1 hB h e).1; omega)
theorem q_rw_e {O : o_T} {B : Nat → Prop} {x y n i : Nat} {r : Nat → Int64} (hB : ∀ k, B k → k < 64) (h : m_L (fun S => l_be O S x y) B n r) (hn : n ≤ 4) (hi : i < n) : q_rw O B x y i = r i := by
  have ex : ∃ w, ∃ n r, m_L (fun S => l_be O S x y) B n r ∧ n ≤ 4 ∧ i < n ∧ r i = w := ⟨r i, n, r, h, hn, hi, rfl⟩
  have e : q_rw O B x y i = Classical.choose ex := dif_pos ex
  rw [e]
  obtain ⟨m, q, a1, a2, a3, a4⟩ := Classical.choose_spec ex
  rw [← a4]
  exact ((m_L1 hB a1 h).2 a2 i a3)
noncomputable def q_rs (O : o_T) (B : Nat → Prop) (x y : Nat) (i : Int32) : Int64 := if i = -1 then (if q_rn O B x y ≤ 4 then Int32.toInt64 (nI (q_rn O B x y)) else -3) else @ite _ (vi (q_rn O B x y) i ∧ q_rn O B x y ≤ 4) (Classical.propDecidable _) (q_rw O B x y i.toNatClampNeg) (-1)
def q_F (O : o_T) (B : Nat → Prop) (x y i k : Nat) : Prop := bs (q_rw O B x y i) k
noncomputable def q_cut (O : o_T) (B : Nat → Prop) (x y : Nat) : Int64 := @dite _ (∃ v, m_re (q_F O B x y) (q_rn O B x y) v) (Classical.propDecidable _) (fun h => Classical.choose h) (fun _ => 0)
theorem q_cut_e {O : o_T} {B : Nat → Prop} {x y : Nat} {v : Int64} (h : m_re (q_F O B x y) (q_rn O B x y) v) : q_cut O B x y = v := by
  have ex : ∃ v, m_re (q_F O B x y) (q_rn O B x y) v := ⟨v, h⟩
  have e : q_cut O B x y = Classical.choose ex := dif_pos ex
  rw [e]
  exact m_re1 (Classical.choose_spec ex) h
noncomputable def q_fix (O : o_T) (B : Nat → Prop) (x y : Nat) : Int64 := @ite _ (l_be O B x y) (Classical.propDecidable _) (@ite _ (l_be O (fun _ => False) x y) (Classical.propDecidable _) (-2) (if q_rn O B x y ≤ 4 then q_cut O B x y else -3)) (-1)
theorem bs_0 : ∀ k, ¬ bs 0 k := fun k e => by
  have : (0 : Int64) = wL (fun _ => False) := (wL_0.mpr (fun _ _ => id)).symm
  rw [this] at e
  exact (wL_x.mp e).2
/-- when nothing is needed there is one reason alone -/
theorem m_L_0 {O : o_T} {B : Nat → Prop} {x y n : Nat} {r : Nat → Int64} (h : m_L (fun S => l_be O S x y) B n r) (h0 : l_be O (fun _ => False) x y) : n = 1 ∧ r 0 = 0 := by
  obtain ⟨a1, a2, a3, a4⟩ := h
  have z : ∀ i, i < n → r i = 0 := fun i hi => by
    apply bs_e
    intro k
    exact ⟨fun c => absurd (l_mb (fun _ f => f.elim) h0) ((a2 i hi).2.2 k c), fun c => absurd c (bs_0 k)⟩
  have le : n ≤ 1 := by
    rcases Nat.lt_or_ge 1 n with c | c
    · have := a3 0 1 (by omega) c
      rw [z 0 (by omega), z 1 c] at this
      exact absurd this (il_ir _)
    · exact c
  obtain ⟨i, i1, i2⟩ := a4 (by omega) (fun _ => False) ⟨fun _ f => f.elim, h0, fun _ f => f.elim⟩
  exact ⟨by omega, z 0 (by omega)⟩
theorem m_L_n {O : o_T} {B : Nat → Prop} {x y n : Nat} {r : Nat → Int64} (hBA : ∀ k, B k → k < o_A O) (h : m_L (fun S => l_be O S x y) B n r) : (n = 0) ↔ ¬ l_be O B x y := by
  obtain ⟨a1, a2, a3, a4⟩ := h
  constructor
  · intro e q
    obtain ⟨i, i1, -⟩ := a4 (by omega) _ (m_Rs (l_beM O x y) (n := o_A O) hBA (fun _ c => c) q)
    omega
  · intro q
    apply Classical.byContradiction
    intro e
    exact q (l_mb (a2 0 (by omega)).1 (a2 0 (by omega)).2.1)
theorem m_L_z {O : o_T} {B : Nat → Prop} {x y n : Nat} {r : Nat → Int64} (h : m_L (fun S => l_be O S x y) B n r) (hn : 0 < n) (h0 : r 0 = 0) : l_be O (fun _ => False) x y := by
  have := (h.2.1 0 hn).2.1
  rw [h0] at this
  exact l_mb (fun k c => absurd c (bs_0 k)) this
theorem q_FA {O : o_T} {B : Nat → Prop} {x y n : Nat} {r : Nat → Int64} (hB : ∀ k, B k → k < 64) (hBA : ∀ k, B k → k < o_A O) (h : m_L (fun S => l_be O S x y) B n r) (hn : n ≤ 4) : (∀ i k, i < n → q_F O B x y i k → k < o_A O) ∧ (¬ l_be O (fun _ => False) x y → ∀ i, i < n → ∃ k, q_F O B x y i k) ∧ ∀ i, i < n → r i = wL (q_F O B x y i) := by
  have e : ∀ i, i < n → q_rw O B x y i = r i := fun i hi => q_rw_e hB h hn hi
  refine ⟨fun i k hi c => ?_, fun h0 i hi => ?_, fun i hi => ?_⟩
  · unfold q_F at c
    rw [e i hi] at c
    exact hBA k ((h.2.1 i hi).1 k c)
  · apply Classical.byContradiction
    intro c
    apply h0
    refine l_mb (fun k b => c ⟨k, ?_⟩) (h.2.1 i hi).2.1
    unfold q_F
    rw [e i hi]
    exact b
  · unfold q_F
    rw [e i hi, bs_w]
theorem CB_A {h h' : am_H} {o : Nat} {O : o_T} {B : Nat → Prop} (C : CB h o O B) (q : fA 61 h h') : CB h' o O B := CB_sm (W := fun b => b < 61 ∨ 73 ≤ b) ⟨q.1, fun b p => ⟨(q.2.2.2.1 b (by omega)).1, (q.2.2.2.1 b (by omega)).2, by funext j; exact q.2.2.2.2 b j (by omega)⟩⟩ (fA_lc (Or.inr rfl) q C.1) (fun b _ _ => by omega) (by omega) (by omega) C
theorem Lc_q_needed {h : am_H} {o : Nat} {O : o_T} {B : Nat → Prop} (C : CB h o O B) (i j : Int32) (d : Nat) : QQ (f_Lc_needed (d + 6) h 1 i j) h o O B (g1 (o_N O) i 0 fun a => g1 (o_N O) j 0 fun b => .inr (.long (q_need O B (o_np O a) (o_np O b)))) := by
  have H := C.1
  have hN := C.2.2.2.1.2.1.1
  rw [e_Lc_needed]
  rcases Lc_nN C i (d + 4) with ⟨⟨a, ha, rfl⟩, e1⟩ | ⟨v, e1⟩
  · rw [g1_y (by omega) ha]
    rcases Lc_nN C j (d + 4) with ⟨⟨b, hb, rfl⟩, e2⟩ | ⟨v, e2⟩
    · rw [g1_y (by omega) hb]
      obtain ⟨g, eg, qg, Cg, g7, U, so, K1, K2, K3, K4, K5⟩ := Lc_am C ha hb d
      have Hg := Cg.1
      obtain ⟨u, eu, qu⟩ := Rs_neededAlone K1 K2 d
      refine ⟨u, fK_t qg (fVr_K (fA_Vr qu)), CB_A Cg qu, ?_⟩
      simp (disch := first | assumption | omega) only [hc_ck, hc_gi, hc_gl, hc_gp, ap_I, ap_L, kd_I, kd_L, kd_P, kd_rI, ar_I, ar_L, ar_P, al_I, al_L, al_P, hop_s, cond_true, cond_false, pc_I_I, pc_L_L, pc_P_P, pc_I_L, pc_I_P, pc_L_I, pc_L_P, pc_P_I, pc_P_L, pc_sS_I, pc_sS_L, pc_sS_P, I_rI, L_rI, P_rI, S_rI, cv_r, ci_r, cl_r, o1_b, o1_0, o1_1, lc_e, nI_1, nI_add, if_true, if_false, Nat.reduceEqDiff, Nat.left_eq_add, Nat.add_eq_left, false_and, and_false, true_and, and_true, and_self, eq_self, Lc_k1, e1, e2, eg, Lc_p1_15, Lc_k74, eu, q_need_U K3 K4]
    · rw [g1_n v]
      simp (disch := first | assumption | omega) only [hc_ck, hc_gi, hc_gl, hc_gp, ap_I, ap_L, kd_I, kd_L, kd_P, kd_rI, ar_I, ar_L, ar_P, al_I, al_L, al_P, hop_s, cond_true, cond_false, pc_I_I, pc_L_L, pc_P_P, pc_I_L, pc_I_P, pc_L_I, pc_L_P, pc_P_I, pc_P_L, pc_sS_I, pc_sS_L, pc_sS_P, I_rI, L_rI, P_rI, S_rI, cv_r, ci_r, cl_r, o1_b, o1_0, o1_1, lc_e, nI_1, nI_add, if_true, if_false, Nat.reduceEqDiff, Nat.left_eq_add, Nat.add_eq_left, false_and, and_false, true_and, and_true, and_self, eq_self, Lc_k1, e1, e2, cv_e]
      exact QQ_n C
  · rw [g1_n v]
    simp (disch := first | assumption | omega) only [hc_ck, hc_gi, hc_gl, hc_gp, ap_I, ap_L, kd_I, kd_L, kd_P, kd_rI, ar_I, ar_L, ar_P, al_I, al_L, al_P, hop_s, cond_true, cond_false, pc_I_I, pc_L_L, pc_P_P, pc_I_L, pc_I_P, pc_L_I, pc_L_P, pc_P_I, pc_P_L, pc_sS_I, pc_sS_L, pc_sS_P, I_rI, L_rI, P_rI, S_rI, cv_r, ci_r, cl_r, o1_b, o1_0, o1_1, lc_e, nI_1, nI_add, if_true, if_false, Nat.reduceEqDiff, Nat.left_eq_add, Nat.add_eq_left, false_and, and_false, true_and, and_true, and_self, eq_self, Lc_k1, e1, cv_e]
    exact QQ_n C
theorem Lc_q_enough {h : am_H} {o : Nat} {O : o_T} {B : Nat → Prop} (C : CB h o O B) (i j : Int32) (d : Nat) : QQ (f_Lc_enough (d + 6) h 1 i j) h o O B (g1 (o_N O) i 0 fun a => g1 (o_N O) j 0 fun b => .inr (.long (q_en O B (o_np O a) (o_np O b)))) := by
  have H := C.1
  have hN := C.2.2.2.1.2.1.1
  rw [e_Lc_enough]
  rcases Lc_nN C i (d + 4) with ⟨⟨a, ha, rfl⟩, e1⟩ | ⟨v, e1⟩
  · rw [g1_y (by omega) ha]
    rcases Lc_nN C j (d + 4) with ⟨⟨b, hb, rfl⟩, e2⟩ | ⟨v, e2⟩
    · rw [g1_y (by omega) hb]
      obtain ⟨g, eg, qg, Cg, g7, U, so, K1, K2, K3, K4, K5⟩ := Lc_am C ha hb d
      have Hg := Cg.1
      have eU := K1.2.2.2.2.2.2.1
      obtain ⟨u, eu, qu⟩ := Rs_shrink K1 U d
      simp (disch := first | assumption | omega) only [hc_ck, hc_gi, hc_gl, hc_gp, ap_I, ap_L, kd_I, kd_L, kd_P, kd_rI, ar_I, ar_L, ar_P, al_I, al_L, al_P, hop_s, cond_true, cond_false, pc_I_I, pc_L_L, pc_P_P, pc_I_L, pc_I_P, pc_L_I, pc_L_P, pc_P_I, pc_P_L, pc_sS_I, pc_sS_L, pc_sS_P, I_rI, L_rI, P_rI, S_rI, cv_r, ci_r, cl_r, o1_b, o1_0, o1_1, lc_e, nI_1, nI_add, if_true, if_false, Nat.reduceEqDiff, Nat.left_eq_add, Nat.add_eq_left, false_and, and_false, true_and, and_true, and_self, eq_self, Lc_k1, e1, e2, eg, Lc_p1_15, Lc_k74, K2, bo_0, eU, eu]
      cases so with
      | false =>
        refine ⟨g, qg, Cg, ?_⟩
        simp only [if_true]
        rw [show q_en O B (o_np O a) (o_np O b) = -1 from if_neg (fun e => absurd (K3.mpr e) (by decide))]
      | true =>
        refine ⟨u, fK_t qg (fVr_K (fA_Vr qu)), CB_A Cg qu, ?_⟩
        simp only [Bool.true_eq_false, if_false]
        rw [show q_en O B (o_np O a) (o_np O b) = _ from if_pos (K3.mp rfl), q_en_U C.2.2.2.2.2.2.1 (K3.mp rfl) K4]
    · rw [g1_n v]
      simp (disch := first | assumption | omega) only [hc_ck, hc_gi, hc_gl, hc_gp, ap_I, ap_L, kd_I, kd_L, kd_P, kd_rI, ar_I, ar_L, ar_P, al_I, al_L, al_P, hop_s, cond_true, cond_false, pc_I_I, pc_L_L, pc_P_P, pc_I_L, pc_I_P, pc_L_I, pc_L_P, pc_P_I, pc_P_L, pc_sS_I, pc_sS_L, pc_sS_P, I_rI, L_rI, P_rI, S_rI, cv_r, ci_r, cl_r, o1_b, o1_0, o1_1, lc_e, nI_1, nI_add, if_true, if_false, Nat.reduceEqDiff, Nat.left_eq_add, Nat.add_eq_left, false_and, and_false, true_and, and_true, and_self, eq_self, Lc_k1, e1, e2, cv_e]
      exact QQ_n C
  · rw [g1_n v]
    simp (disch := first | assumption | omega) only [hc_ck, hc_gi, hc_gl, hc_gp, ap_I, ap_L, kd_I, kd_L, kd_P, kd_rI, ar_I, ar_L, ar_P, al_I, al_L, al_P, hop_s, cond_true, cond_false, pc_I_I, pc_L_L, pc_P_P, pc_I_L, pc_I_P, pc_L_I, pc_L_P, pc_P_I, pc_P_L, pc_sS_I, pc_sS_L, pc_sS_P, I_rI, L_rI, P_rI, S_rI, cv_r, ci_r, cl_r, o1_b, o1_0, o1_1, lc_e, nI_1, nI_add, if_true, if_false, Nat.reduceEqDiff, Nat.left_eq_add, Nat.add_eq_left, false_and, and_false, true_and, and_true, and_self, eq_self, Lc_k1, e1, cv_e]
    exact QQ_n C
theorem CB_64 {h : am_H} {o : Nat} {O : o_T} {B : Nat → Prop} (C : CB h o O B) : ∀ k, B k → k < 64 := fun k c => by
  have := C.2.2.2.2.2.2.1 k c
  have := C.2.2.2.1.2.1.2.2.2.2.1
  omega
theorem q_rs_m {O : o_T} {B : Nat → Prop} {x y : Nat} {i : Int32} (h : i = -1) : q_rs O B x y i = if q_rn O B x y ≤ 4 then Int32.toInt64 (nI (q_rn O B x y)) else -3 := if_pos h
theorem q_rs_n {O : o_T} {B : Nat → Prop} {x y : Nat} {i : Int32} (h : ¬ i = -1) (h2 : ¬ (vi (q_rn O B x y) i ∧ q_rn O B x y ≤ 4)) : q_rs O B x y i = -1 := (if_neg h).trans (if_neg h2)
theorem q_rs_y {O : o_T} {B : Nat → Prop} {x y k : Nat} (h : k < q_rn O B x y) (h2 : q_rn O B x y ≤ 4) : q_rs O B x y (nI k) = q_rw O B x y k := by
  have e : ¬ nI k = -1 := fun e => by
    rw [n_m1 k (by omega)] at e
    exact e
  unfold q_rs
  rw [if_neg e, if_pos ⟨⟨k, h, rfl⟩, h2⟩, nI_clamp (by omega)]
theorem Lc_r75_0 {h : am_H} (H : LcAt h) (g : Nat → Option am_R) : am_ar h 10 75 0 g = g 0 := Lc_r75 H (k := 0) (by omega) g
theorem Lc_q_reason {h : am_H} {o : Nat} {O : o_T} {B : Nat → Prop} (C : CB h o O B) (i j k : Int32) (d : Nat) : QQ (f_Lc_reason (d + 12) h 1 i j k) h o O B (g1 (o_N O) i 0 fun a => g1 (o_N O) j 0 fun b => .inr (.long (q_rs O B (o_np O a) (o_np O b) k))) := by
  have H := C.1
  have hN := C.2.2.2.1.2.1.1
  rw [e_Lc_reason]
  rcases Lc_nN C i (d + 10) with ⟨⟨a, ha, rfl⟩, e1⟩ | ⟨v, e1⟩
  · rw [g1_y (by omega) ha]
    rcases Lc_nN C j (d + 10) with ⟨⟨b, hb, rfl⟩, e2⟩ | ⟨v, e2⟩
    · rw [g1_y (by omega) hb]
      obtain ⟨g, eg, qg, Cg, g7, K⟩ := Lc_am C ha hb (d + 6)
      have Hg := Cg.1
      obtain ⟨u, n, r, eu, qu, Ku, u3, un, ur, mL⟩ := Rs_findAll K d
      have Hu := fVr_lc qu Hg
      have Cu := CB_V Cg qu (by rw [u3 7 (by omega)]; exact g7) Ku
      have eN := q_rn_e (CB_64 C) mL
      have n5 := mL.1
      refine ⟨u, fK_t qg (fVr_K qu), Cu, ?_⟩
      simp (disch := first | assumption | omega) only [hc_ck, hc_gi, hc_gl, hc_gp, ap_I, ap_L, kd_I, kd_L, kd_P, kd_rI, ar_I, ar_L, ar_P, al_I, al_L, al_P, hop_s, cond_true, cond_false, pc_I_I, pc_L_L, pc_P_P, pc_I_L, pc_I_P, pc_L_I, pc_L_P, pc_P_I, pc_P_L, pc_sS_I, pc_sS_L, pc_sS_P, I_rI, L_rI, P_rI, S_rI, cv_r, ci_r, cl_r, o1_b, o1_0, o1_1, lc_e, nI_1, nI_add, if_true, if_false, Nat.reduceEqDiff, Nat.left_eq_add, Nat.add_eq_left, false_and, and_false, true_and, and_true, and_self, eq_self, Lc_k1, e1, e2, eg, Lc_p1_15, Lc_k74, eu, un, n_4, n_le, Lc_p74_0]
      by_cases c1 : k = -1
      · rw [if_pos c1, q_rs_m c1, eN]
        by_cases c2 : n ≤ 4
        · rw [if_pos c2, if_pos c2]
        · rw [if_neg c2, if_neg c2]
      · rw [if_neg c1]
        by_cases v : vi n k
        · obtain ⟨t, ht, rfl⟩ := v
          rw [if_neg (vi_0 (by omega) ht)]
          simp (disch := first | assumption | omega) only [n_le, show ¬ n ≤ t by omega, if_false]
          by_cases c2 : n ≤ 4
          · rw [if_pos c2, Lc_r75 Hu (by omega), ur t ht, q_rs_y (by omega) (by omega), q_rw_e (CB_64 C) mL c2 ht]
          · rw [if_neg c2, q_rs_n c1 (fun e => c2 (by omega))]
        · rw [q_rs_n c1 (fun e => v (eN ▸ e.1))]
          by_cases c3 : k < 0
          · rw [if_pos c3]
          · rw [if_neg c3, if_pos]
            have := vi_n (by omega) v c3
            rw [Int32.lt_iff_toInt_lt] at this
            rw [Int32.le_iff_toInt_le]
            omega
    · rw [g1_n v]
      simp (disch := first | assumption | omega) only [hc_ck, hc_gi, hc_gl, hc_gp, ap_I, ap_L, kd_I, kd_L, kd_P, kd_rI, ar_I, ar_L, ar_P, al_I, al_L, al_P, hop_s, cond_true, cond_false, pc_I_I, pc_L_L, pc_P_P, pc_I_L, pc_I_P, pc_L_I, pc_L_P, pc_P_I, pc_P_L, pc_sS_I, pc_sS_L, pc_sS_P, I_rI, L_rI, P_rI, S_rI, cv_r, ci_r, cl_r, o1_b, o1_0, o1_1, lc_e, nI_1, nI_add, if_true, if_false, Nat.reduceEqDiff, Nat.left_eq_add, Nat.add_eq_left, false_and, and_false, true_and, and_true, and_self, eq_self, Lc_k1, e1, e2, cv_e]
      exact QQ_n C
  · rw [g1_n v]
    simp (disch := first | assumption | omega) only [hc_ck, hc_gi, hc_gl, hc_gp, ap_I, ap_L, kd_I, kd_L, kd_P, kd_rI, ar_I, ar_L, ar_P, al_I, al_L, al_P, hop_s, cond_true, cond_false, pc_I_I, pc_L_L, pc_P_P, pc_I_L, pc_I_P, pc_L_I, pc_L_P, pc_P_I, pc_P_L, pc_sS_I, pc_sS_L, pc_sS_P, I_rI, L_rI, P_rI, S_rI, cv_r, ci_r, cl_r, o1_b, o1_0, o1_1, lc_e, nI_1, nI_add, if_true, if_false, Nat.reduceEqDiff, Nat.left_eq_add, Nat.add_eq_left, false_and, and_false, true_and, and_true, and_self, eq_self, Lc_k1, e1, cv_e]
    exact QQ_n C
theorem Lc_q_repair {h : am_H} {o : Nat} {O : o_T} {B : Nat → Prop} (C : CB h o O B) (i j : Int32) (d : Nat) : QQ (f_Lc_repair (d + 12) h 1 i j) h o O B (g1 (o_N O) i 0 fun a => g1 (o_N O) j 0 fun b => .inr (.long (q_fix O B (o_np O a) (o_np O b)))) := by
  have H := C.1
  have hN := C.2.2.2.1.2.1.1
  have hBA := C.2.2.2.2.2.2.1
  rw [e_Lc_repair]
  rcases Lc_nN C i (d + 10) with ⟨⟨a, ha, rfl⟩, e1⟩ | ⟨v, e1⟩
  · rw [g1_y (by omega) ha]
    rcases Lc_nN C j (d + 10) with ⟨⟨b, hb, rfl⟩, e2⟩ | ⟨v, e2⟩
    · rw [g1_y (by omega) hb]
      obtain ⟨g, eg, qg, Cg, g7, K⟩ := Lc_am C ha hb (d + 6)
      have Hg := Cg.1
      obtain ⟨u, n, r, eu, qu, Ku, u3, un, ur, mL⟩ := Rs_findAll K d
      have Hu := fVr_lc qu Hg
      have Cu := CB_V Cg qu (by rw [u3 7 (by omega)]; exact g7) Ku
      have eN := q_rn_e (CB_64 C) mL
      have n5 := mL.1
      refine ⟨u, fK_t qg (fVr_K qu), Cu, ?_⟩
      simp (disch := first | assumption | omega) only [hc_ck, hc_gi, hc_gl, hc_gp, ap_I, ap_L, kd_I, kd_L, kd_P, kd_rI, ar_I, ar_L, ar_P, al_I, al_L, al_P, hop_s, cond_true, cond_false, pc_I_I, pc_L_L, pc_P_P, pc_I_L, pc_I_P, pc_L_I, pc_L_P, pc_P_I, pc_P_L, pc_sS_I, pc_sS_L, pc_sS_P, I_rI, L_rI, P_rI, S_rI, cv_r, ci_r, cl_r, o1_b, o1_0, o1_1, lc_e, nI_1, nI_add, if_true, if_false, Nat.reduceEqDiff, Nat.left_eq_add, Nat.add_eq_left, false_and, and_false, true_and, and_true, and_self, eq_self, Lc_k1, e1, e2, eg, Lc_p1_15, Lc_k74, eu, un, n_4, n_le, Lc_p74_0]
      unfold q_fix
      by_cases c0 : n = 0
      · rw [if_pos (by rw [c0]; rfl), if_neg ((m_L_n hBA mL).mp c0)]
      · have hB : l_be O B (o_np O a) (o_np O b) := Classical.byContradiction (fun e => c0 ((m_L_n hBA mL).mpr e))
        rw [if_neg (fun e : nI n = 0 => c0 ((nI_e32 (a := n) (b := 0) (by omega) (by omega)).mp e)), if_pos hB]
        by_cases z : l_be O (fun _ => False) (o_np O a) (o_np O b)
        · obtain ⟨m1, m2⟩ := m_L_0 mL z
          rw [if_pos (by omega), if_pos z]
          rw [Lc_r75_0 Hu, ur 0 (by omega), if_pos m2]
        · rw [if_neg z, eN]
          by_cases c4 : n ≤ 4
          · rw [if_pos c4, if_pos c4]
            have r0 : ¬ r 0 = 0 := fun e => z (m_L_z mL (by omega) e)
            obtain ⟨f1, f2, f3⟩ := q_FA (CB_64 C) hBA mL c4
            obtain ⟨U, so, K1, -⟩ := Ku
            obtain ⟨v, ev, hv⟩ := Rs_leastCut c4 (by omega) f1 (f2 z) K1 ⟨un, fun i hi => (ur i hi).trans (f3 i hi)⟩ (d + 4)
            rw [Lc_r75_0 Hu, ur 0 (by omega), if_neg r0, ev, q_cut_e (eN.symm ▸ hv)]
            rfl
          · rw [if_neg c4, if_neg c4]
    · rw [g1_n v]
      simp (disch := first | assumption | omega) only [hc_ck, hc_gi, hc_gl, hc_gp, ap_I, ap_L, kd_I, kd_L, kd_P, kd_rI, ar_I, ar_L, ar_P, al_I, al_L, al_P, hop_s, cond_true, cond_false, pc_I_I, pc_L_L, pc_P_P, pc_I_L, pc_I_P, pc_L_I, pc_L_P, pc_P_I, pc_P_L, pc_sS_I, pc_sS_L, pc_sS_P, I_rI, L_rI, P_rI, S_rI, cv_r, ci_r, cl_r, o1_b, o1_0, o1_1, lc_e, nI_1, nI_add, if_true, if_false, Nat.reduceEqDiff, Nat.left_eq_add, Nat.add_eq_left, false_and, and_false, true_and, and_true, and_self, eq_self, Lc_k1, e1, e2, cv_e]
      exact QQ_n C
  · rw [g1_n v]
    simp (disch := first | assumption | omega) only [hc_ck, hc_gi, hc_gl, hc_gp, ap_I, ap_L, kd_I, kd_L, kd_P, kd_rI, ar_I, ar_L, ar_P, al_I, al_L, al_P, hop_s, cond_true, cond_false, pc_I_I, pc_L_L, pc_P_P, pc_I_L, pc_I_P, pc_L_I, pc_L_P, pc_P_I, pc_P_L, pc_sS_I, pc_sS_L, pc_sS_P, I_rI, L_rI, P_rI, S_rI, cv_r, ci_r, cl_r, o1_b, o1_0, o1_1, lc_e, nI_1, nI_add, if_true, if_false, Nat.reduceEqDiff, Nat.left_eq_add, Nat.add_eq_left, false_and, and_false, true_and, and_true, and_self, eq_self, Lc_k1, e1, cv_e]
    exact QQ_n C
