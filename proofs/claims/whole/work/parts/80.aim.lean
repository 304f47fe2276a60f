/-! ===== the class's reasons: findAll, aim ===== -/
/-- those that have a say, of those that are on -/
def m_ua (O : o_T) (B U : Nat → Prop) (x y : Nat) : Prop := (∀ k, U k → B k ∧ k < o_A O) ∧ ∀ S : Nat → Prop, (∀ k, S k → B k) → (l_be O S x y ↔ l_be O (fun k => S k ∧ U k) x y)
/-- the question and what is known of it -/
def RsK (h : am_H) (o : Nat) (O : o_T) (B : Nat → Prop) (x y : Nat) : Prop := ∃ (U : Nat → Prop) (so : Bool), RsC h o O x y U ∧ am_I h 74 8 = bo so ∧ (so = true ↔ l_be O B x y) ∧ m_ua O B U x y ∧ (am_I h 74 2 = 0 ∨ (am_I h 74 2 = 1 ∧ ∃ (n : Nat) (r : Nat → Int64), am_I h 74 1 = nI n ∧ (∀ j, j < n → am_L h 75 j = r j) ∧ m_L (fun S => l_be O S x y) U n r))
theorem m_RU {O : o_T} {B U : Nat → Prop} {x y : Nat} (h : m_ua O B U x y) (S : Nat → Prop) : m_R (fun S => l_be O S x y) U S ↔ m_R (fun S => l_be O S x y) B S := by
  constructor
  · rintro ⟨c1, c2⟩
    exact ⟨fun k c => (h.1 k (c1 k c)).1, c2⟩
  · rintro ⟨c1, c2, c3⟩
    refine ⟨fun k hk => ?_, c2, c3⟩
    apply Classical.byContradiction
    intro q
    apply c3 k hk
    exact l_mb (fun j c => ⟨c.1, fun e => q (e ▸ c.2)⟩) ((h.2 S c1).mp c2)
theorem m_LU {O : o_T} {B U : Nat → Prop} {x y n : Nat} {r : Nat → Int64} (h : m_ua O B U x y) (L : m_L (fun S => l_be O S x y) U n r) : m_L (fun S => l_be O S x y) B n r := ⟨L.1, fun i hi => (m_RU h _).mp (L.2.1 i hi), L.2.2.1, fun h4 S hS => L.2.2.2 h4 S ((m_RU h S).mpr hS)⟩
theorem m_uaE {O : o_T} {B U : Nat → Prop} {x y : Nat} (h : m_ua O B U x y) : l_be O B x y ↔ l_be O U x y := by
  rw [h.2 B (fun _ c => c)]
  exact ⟨l_mb (fun k c => c.2), l_mb (fun k c => ⟨(h.1 k c).1, c⟩)⟩
theorem Rs_findAll {h : am_H} {o : Nat} {O : o_T} {B : Nat → Prop} {x y : Nat} (K : RsK h o O B x y) (d : Nat) : ∃ (h' : am_H) (n : Nat) (r : Nat → Int64), f_Rs_findAll (d + 11) h 74 = some (.inr none, h') ∧ fVr h h' ∧ RsK h' o O B x y ∧ (∀ j, 3 ≤ j → am_I h' 74 j = am_I h 74 j) ∧ am_I h' 74 1 = nI n ∧ (∀ j, j < n → am_L h' 75 j = r j) ∧ m_L (fun S => l_be O S x y) B n r := by
  obtain ⟨U, so, C, e8, hso, ua, k2⟩ := K
  have H1 := C.1
  rw [e_Rs_findAll]
  simp (disch := first | assumption | omega) only [hc_ck, hc_gi, hc_gl, hc_gp, ap_I, ap_L, kd_I, kd_L, kd_P, kd_rI, ar_I, ar_L, ar_P, al_I, al_L, al_P, hop_s, cond_true, cond_false, pc_I_I, pc_L_L, pc_P_P, pc_I_L, pc_I_P, pc_L_I, pc_L_P, pc_P_I, pc_P_L, pc_sS_I, pc_sS_L, pc_sS_P, I_rI, L_rI, P_rI, S_rI, cv_r, ci_r, cl_r, o1_b, o1_0, o1_1, lc_e, nI_1, nI_add, if_true, if_false, Nat.reduceEqDiff, Nat.left_eq_add, Nat.add_eq_left, false_and, and_false, true_and, and_true, and_self, eq_self, Lc_k74]
  rcases k2 with k2 | ⟨k2, n, r, k3, k4, k5⟩
  · rw [if_pos k2]
    have q1 : fVr h (am_sI (am_sI h 74 2 1) 74 1 0) := fVr_I (fVr_I (fVr_r _) _ _) _ _
    have C1 : RsC (am_sI (am_sI h 74 2 1) 74 1 0) o O x y U := by
      obtain ⟨c1, c2, c3, c4, c5, c6, c7, c8⟩ := C
      refine ⟨fVr_lc q1 c1, fVr_on q1 c3 c2, c3, c4, ?_, ?_, c7, c8⟩
      · simp only [hc_ck, hc_gi, hc_gl, hc_gp, ap_I, ap_L, kd_I, kd_L, kd_P, kd_rI, ar_I, ar_L, ar_P, al_I, al_L, al_P, hop_s, cond_true, cond_false, pc_I_I, pc_L_L, pc_P_P, pc_I_L, pc_I_P, pc_L_I, pc_L_P, pc_P_I, pc_P_L, pc_sS_I, pc_sS_L, pc_sS_P, I_rI, L_rI, P_rI, S_rI, cv_r, ci_r, cl_r, o1_b, o1_0, o1_1, lc_e, nI_1, nI_add, if_true, if_false, Nat.reduceEqDiff, Nat.left_eq_add, Nat.add_eq_left, false_and, and_false, true_and, and_true, and_self, eq_self]; exact c5
      · simp only [hc_ck, hc_gi, hc_gl, hc_gp, ap_I, ap_L, kd_I, kd_L, kd_P, kd_rI, ar_I, ar_L, ar_P, al_I, al_L, al_P, hop_s, cond_true, cond_false, pc_I_I, pc_L_L, pc_P_P, pc_I_L, pc_I_P, pc_L_I, pc_L_P, pc_P_I, pc_P_L, pc_sS_I, pc_sS_L, pc_sS_P, I_rI, L_rI, P_rI, S_rI, cv_r, ci_r, cl_r, o1_b, o1_0, o1_1, lc_e, nI_1, nI_add, if_true, if_false, Nat.reduceEqDiff, Nat.left_eq_add, Nat.add_eq_left, false_and, and_false, true_and, and_true, and_self, eq_self]; exact c6
    have hv : ∀ v : Int64, v = (if so = true then 0 else -1) → (v = -1 ∧ ((0 : Nat) ≤ 4 → ∀ S, m_R (fun S => l_be O S x y) U S → ∃ j, j < 0 ∧ (0 : Int64) = wL S) ∨ ∃ G : Nat → Prop, v = wL G ∧ (∀ k, G k → k < 32) ∧ (∀ j, j < 0 → ∃ k, bs 0 k ∧ G k) ∧ l_be O (fun k => U k ∧ ¬ G k) x y ∧ (0 : Nat) ≤ 4) := by
      intro v hv
      cases so with
      | true =>
        refine Or.inr ⟨fun _ => False, ?_, fun _ f => f.elim, fun j hj => absurd hj (Nat.not_lt_zero j), ?_, by omega⟩
        · rw [hv, if_pos rfl]
          exact (wL_0.mpr (fun _ _ => id)).symm
        · exact l_mb (fun k c => ⟨c, id⟩) ((m_uaE ua).mp (hso.mp rfl))
      | false =>
        refine Or.inl ⟨by rw [hv]; rfl, fun _ S hS => ?_⟩
        have : l_be O B x y := l_mb (fun k c => (ua.1 k (hS.1 k c)).1) hS.2.1
        exact absurd (hso.mpr this) (by decide)
    have run : ∀ v : Int64, v = (if so = true then 0 else -1) → ∃ (h' : am_H) (n : Nat) (r : Nat → Int64), f_Rs_findAll_35 (d + 11) (am_sI (am_sI h 74 2 1) 74 1 0) 74 v 0 = some (.inr none, h') ∧ fVr h h' ∧ RsK h' o O B x y ∧ (∀ j, 3 ≤ j → am_I h' 74 j = am_I h 74 j) ∧ am_I h' 74 1 = nI n ∧ (∀ j, j < n → am_L h' 75 j = r j) ∧ m_L (fun S => l_be O S x y) B n r := by
      intro v e
      obtain ⟨h', m, u, w1, w2, w3, w4, w5, w6, w7⟩ := Rs_find35 (fun k c => (ua.1 k c).2) d 5 0 rfl (am_sI (am_sI h 74 2 1) 74 1 0) (fun _ => 0) v C1 (by simp only [hc_ck, hc_gi, hc_gl, hc_gp, ap_I, ap_L, kd_I, kd_L, kd_P, kd_rI, ar_I, ar_L, ar_P, al_I, al_L, al_P, hop_s, cond_true, cond_false, pc_I_I, pc_L_L, pc_P_P, pc_I_L, pc_I_P, pc_L_I, pc_L_P, pc_P_I, pc_P_L, pc_sS_I, pc_sS_L, pc_sS_P, I_rI, L_rI, P_rI, S_rI, cv_r, ci_r, cl_r, o1_b, o1_0, o1_1, lc_e, nI_1, nI_add, if_true, if_false, Nat.reduceEqDiff, Nat.left_eq_add, Nat.add_eq_left, false_and, and_false, true_and, and_true, and_self, eq_self]; rfl) (fun j hj => absurd hj (Nat.not_lt_zero j)) (fun j hj => absurd hj (Nat.not_lt_zero j)) (fun a b _ hb => absurd hb (Nat.not_lt_zero b)) (hv v e)
      have eI : ∀ j, 3 ≤ j → am_I h' 74 j = am_I h 74 j := by
        intro j hj
        rw [w4 j (by omega)]
        simp only [hc_ck, hc_gi, hc_gl, hc_gp, ap_I, ap_L, kd_I, kd_L, kd_P, kd_rI, ar_I, ar_L, ar_P, al_I, al_L, al_P, hop_s, cond_true, cond_false, pc_I_I, pc_L_L, pc_P_P, pc_I_L, pc_I_P, pc_L_I, pc_L_P, pc_P_I, pc_P_L, pc_sS_I, pc_sS_L, pc_sS_P, I_rI, L_rI, P_rI, S_rI, cv_r, ci_r, cl_r, o1_b, o1_0, o1_1, lc_e, nI_1, nI_add, if_true, if_false, Nat.reduceEqDiff, Nat.left_eq_add, Nat.add_eq_left, false_and, and_false, true_and, and_true, and_self, eq_self]
        rw [if_neg (by omega), if_neg (by omega)]
      refine ⟨h', m, u, w1, fVr_t q1 w2, ⟨U, so, w3, ?_, hso, ua, Or.inr ⟨?_, m, u, w5, w6, w7⟩⟩, eI, w5, w6, m_LU ua w7⟩
      · rw [eI 8 (by omega)]; exact e8
      · rw [w4 2 (by omega)]
        simp only [hc_ck, hc_gi, hc_gl, hc_gp, ap_I, ap_L, kd_I, kd_L, kd_P, kd_rI, ar_I, ar_L, ar_P, al_I, al_L, al_P, hop_s, cond_true, cond_false, pc_I_I, pc_L_L, pc_P_P, pc_I_L, pc_I_P, pc_L_I, pc_L_P, pc_P_I, pc_P_L, pc_sS_I, pc_sS_L, pc_sS_P, I_rI, L_rI, P_rI, S_rI, cv_r, ci_r, cl_r, o1_b, o1_0, o1_1, lc_e, nI_1, nI_add, if_true, if_false, Nat.reduceEqDiff, Nat.left_eq_add, Nat.add_eq_left, false_and, and_false, true_and, and_true, and_self, eq_self]
    simp (disch := first | assumption | omega) only [hc_ck, hc_gi, hc_gl, hc_gp, ap_I, ap_L, kd_I, kd_L, kd_P, kd_rI, ar_I, ar_L, ar_P, al_I, al_L, al_P, hop_s, cond_true, cond_false, pc_I_I, pc_L_L, pc_P_P, pc_I_L, pc_I_P, pc_L_I, pc_L_P, pc_P_I, pc_P_L, pc_sS_I, pc_sS_L, pc_sS_P, I_rI, L_rI, P_rI, S_rI, cv_r, ci_r, cl_r, o1_b, o1_0, o1_1, lc_e, nI_1, nI_add, if_true, if_false, Nat.reduceEqDiff, Nat.left_eq_add, Nat.add_eq_left, false_and, and_false, true_and, and_true, and_self, eq_self, e8, bo_0]
    cases so with
    | true =>
      simp only [Bool.true_eq_false, if_false]
      exact run 0 rfl
    | false =>
      simp only [if_true]
      exact run (-1) rfl
  · rw [if_neg (by rw [k2]; decide)]
    exact ⟨h, n, r, rfl, fVr_r _, ⟨U, so, C, e8, hso, ua, Or.inr ⟨k2, n, r, k3, k4, k5⟩⟩, fun _ _ => rfl, k3, k4, m_LU ua k5⟩
theorem Rs_aim {h : am_H} {o : Nat} {O : o_T} {B : Nat → Prop} {x y : Nat} (H : LcAt h) (Ho : OnR h o O) (ho : o = 3 ∨ o = 20) (hB : am_L h o 10 = wL B) (hBA : ∀ k, B k → k < o_A O) (hx : x < o_P O) (hy : y < o_P O) (hA : am_I h 74 7 = 0 ∨ (am_I h 74 7 = 1 ∧ ∃ x y, RsK h o O B x y)) (d : Nat) : ∃ h', f_Rs_aim (d + 4) h 74 o (nI x) (nI y) = some (.inr none, h') ∧ fVr h h' ∧ am_I h' 74 7 = 1 ∧ RsK h' o O B x y := by
  have hP := Ho.2.1.2.2.2.1
  have H3 := OnR_at Ho
  have full : ∃ h', f_Rs_aim_24 (d + 4) h 74 o (nI x) (nI y) = some (.inr none, h') ∧ fVr h h' ∧ am_I h' 74 7 = 1 ∧ RsK h' o O B x y := by
    have q1 : fVr h (am_sI (am_sI (am_sP h 74 4 (some o)) 74 5 (nI x)) 74 6 (nI y)) := by
      have q0 : fVr h (am_sP h 74 4 (some o)) := ⟨rfl, rfl, rfl, fun _ _ => ⟨rfl, rfl⟩, fun b j _ p => by rw [pc_P_P, if_neg p]⟩
      exact fVr_I (fVr_I q0 _ _) _ _
    have H1 := fVr_lc q1 H
    have Ho1 := fVr_on q1 ho Ho
    have hB1 : am_L (am_sI (am_sI (am_sP h 74 4 (some o)) 74 5 (nI x)) 74 6 (nI y)) o 10 = wL B := hB
    have p4 : am_P (am_sI (am_sI (am_sP h 74 4 (some o)) 74 5 (nI x)) 74 6 (nI y)) 74 4 = some o := by simp only [hc_ck, hc_gi, hc_gl, hc_gp, ap_I, ap_L, kd_I, kd_L, kd_P, kd_rI, ar_I, ar_L, ar_P, al_I, al_L, al_P, hop_s, cond_true, cond_false, pc_I_I, pc_L_L, pc_P_P, pc_I_L, pc_I_P, pc_L_I, pc_L_P, pc_P_I, pc_P_L, pc_sS_I, pc_sS_L, pc_sS_P, I_rI, L_rI, P_rI, S_rI, cv_r, ci_r, cl_r, o1_b, o1_0, o1_1, lc_e, nI_1, nI_add, if_true, if_false, Nat.reduceEqDiff, Nat.left_eq_add, Nat.add_eq_left, false_and, and_false, true_and, and_true, and_self, eq_self]
    have i5 : am_I (am_sI (am_sI (am_sP h 74 4 (some o)) 74 5 (nI x)) 74 6 (nI y)) 74 5 = nI x := by simp only [hc_ck, hc_gi, hc_gl, hc_gp, ap_I, ap_L, kd_I, kd_L, kd_P, kd_rI, ar_I, ar_L, ar_P, al_I, al_L, al_P, hop_s, cond_true, cond_false, pc_I_I, pc_L_L, pc_P_P, pc_I_L, pc_I_P, pc_L_I, pc_L_P, pc_P_I, pc_P_L, pc_sS_I, pc_sS_L, pc_sS_P, I_rI, L_rI, P_rI, S_rI, cv_r, ci_r, cl_r, o1_b, o1_0, o1_1, lc_e, nI_1, nI_add, if_true, if_false, Nat.reduceEqDiff, Nat.left_eq_add, Nat.add_eq_left, false_and, and_false, true_and, and_true, and_self, eq_self]
    have i6 : am_I (am_sI (am_sI (am_sP h 74 4 (some o)) 74 5 (nI x)) 74 6 (nI y)) 74 6 = nI y := by simp only [hc_ck, hc_gi, hc_gl, hc_gp, ap_I, ap_L, kd_I, kd_L, kd_P, kd_rI, ar_I, ar_L, ar_P, al_I, al_L, al_P, hop_s, cond_true, cond_false, pc_I_I, pc_L_L, pc_P_P, pc_I_L, pc_I_P, pc_L_I, pc_L_P, pc_P_I, pc_P_L, pc_sS_I, pc_sS_L, pc_sS_P, I_rI, L_rI, P_rI, S_rI, cv_r, ci_r, cl_r, o1_b, o1_0, o1_1, lc_e, nI_1, nI_add, if_true, if_false, Nat.reduceEqDiff, Nat.left_eq_add, Nat.add_eq_left, false_and, and_false, true_and, and_true, and_self, eq_self]
    have hne : ¬ o = 74 := by omega
    rw [e_Rs_aim_24]
    simp (disch := first | assumption | omega) only [hc_ck, hc_gi, hc_gl, hc_gp, ap_I, ap_L, kd_I, kd_L, kd_P, kd_rI, ar_I, ar_L, ar_P, al_I, al_L, al_P, hop_s, cond_true, cond_false, pc_I_I, pc_L_L, pc_P_P, pc_I_L, pc_I_P, pc_L_I, pc_L_P, pc_P_I, pc_P_L, pc_sS_I, pc_sS_L, pc_sS_P, I_rI, L_rI, P_rI, S_rI, cv_r, ci_r, cl_r, o1_b, o1_0, o1_1, lc_e, nI_1, nI_add, if_true, if_false, Nat.reduceEqDiff, Nat.left_eq_add, Nat.add_eq_left, false_and, and_false, true_and, and_true, and_self, eq_self, Lc_k74, Lc_p74_3, On_k, hB, hne]
    generalize am_sI (am_sI (am_sP h 74 4 (some o)) 74 5 (nI x)) 74 6 (nI y) = g at *
    have Ht := Lc_t H
    have Ht1 := Lc_t H1
    obtain ⟨u, T, eu, qu, Cu, Du, hST, hTP, hTK⟩ := Sa_saturate Ht1 Ho1 (by omega) B (fun k => k = x) (fun k e => e ▸ hx) d
    have Tx : T x := hST x rfl
    have Hu := fA_lc (Or.inr rfl) qu H1
    have Htu := Lc_t Hu
    obtain ⟨b, eb, hb⟩ := Sa_isBelow Htu (x := x) (y := y) (by omega) (by omega) (Du.2.1 x hx Tx).1 (d + 2)
    have Cv : SaC (am_sI u 74 8 (bo b)) 61 o O B := SaC_J (lo := 74) (hi := 75) (fJ_w (fJ_r _ _ _) (by omega) (by omega) _ _) (by omega) (by omega) Cu
    have Dv : SaD (am_sI u 74 8 (bo b)) 61 O B T (l_A O B) (l_K O B) (fun _ => 0) (fun _ _ => 0) := SaD_L rfl Du
    have eused := Sa_usedAxioms Cv Dv hTP (d + 2)
    have Htv := SaC_at Cv
    rw [wL_b1 (by omega)]
    simp (disch := first | assumption | omega) only [hc_ck, hc_gi, hc_gl, hc_gp, ap_I, ap_L, kd_I, kd_L, kd_P, kd_rI, ar_I, ar_L, ar_P, al_I, al_L, al_P, hop_s, cond_true, cond_false, pc_I_I, pc_L_L, pc_P_P, pc_I_L, pc_I_P, pc_L_I, pc_L_P, pc_P_I, pc_P_L, pc_sS_I, pc_sS_L, pc_sS_P, I_rI, L_rI, P_rI, S_rI, cv_r, ci_r, cl_r, o1_b, o1_0, o1_1, lc_e, nI_1, nI_add, if_true, if_false, Nat.reduceEqDiff, Nat.left_eq_add, Nat.add_eq_left, false_and, and_false, true_and, and_true, and_self, eq_self, Sa_k, eu, Lc_k74, Lc_p74_3, eb, eused]
    have q2 : fVr g (am_sI (am_sI (am_sL (am_sI u 74 8 (bo b)) 74 9 (wL (u_k O B T))) 74 7 1) 74 2 0) := fVr_I (fVr_I (fVr_L (fVr_I (fA_Vr qu) _ _) (Or.inl rfl) _ _) _ _) _ _
    refine ⟨_, rfl, fVr_t q1 q2, by simp only [hc_ck, hc_gi, hc_gl, hc_gp, ap_I, ap_L, kd_I, kd_L, kd_P, kd_rI, ar_I, ar_L, ar_P, al_I, al_L, al_P, hop_s, cond_true, cond_false, pc_I_I, pc_L_L, pc_P_P, pc_I_L, pc_I_P, pc_L_I, pc_L_P, pc_P_I, pc_P_L, pc_sS_I, pc_sS_L, pc_sS_P, I_rI, L_rI, P_rI, S_rI, cv_r, ci_r, cl_r, o1_b, o1_0, o1_1, lc_e, nI_1, nI_add, if_true, if_false, Nat.reduceEqDiff, Nat.left_eq_add, Nat.add_eq_left, false_and, and_false, true_and, and_true, and_self, eq_self], u_k O B T, b, ⟨fVr_lc (fVr_t q1 q2) H, fVr_on (fVr_t q1 q2) ho Ho, ho, ?_, ?_, ?_, ?_, hx, hy⟩, ?_, hb, ⟨fun k c => ⟨c.2.1, c.1⟩, fun S hS => u_be hS hTK Tx⟩, Or.inl ?_⟩
    · simp only [hc_ck, hc_gi, hc_gl, hc_gp, ap_I, ap_L, kd_I, kd_L, kd_P, kd_rI, ar_I, ar_L, ar_P, al_I, al_L, al_P, hop_s, cond_true, cond_false, pc_I_I, pc_L_L, pc_P_P, pc_I_L, pc_I_P, pc_L_I, pc_L_P, pc_P_I, pc_P_L, pc_sS_I, pc_sS_L, pc_sS_P, I_rI, L_rI, P_rI, S_rI, cv_r, ci_r, cl_r, o1_b, o1_0, o1_1, lc_e, nI_1, nI_add, if_true, if_false, Nat.reduceEqDiff, Nat.left_eq_add, Nat.add_eq_left, false_and, and_false, true_and, and_true, and_self, eq_self]
      rw [qu.2.2.2.2 74 4 (by omega)]; exact p4
    · simp only [hc_ck, hc_gi, hc_gl, hc_gp, ap_I, ap_L, kd_I, kd_L, kd_P, kd_rI, ar_I, ar_L, ar_P, al_I, al_L, al_P, hop_s, cond_true, cond_false, pc_I_I, pc_L_L, pc_P_P, pc_I_L, pc_I_P, pc_L_I, pc_L_P, pc_P_I, pc_P_L, pc_sS_I, pc_sS_L, pc_sS_P, I_rI, L_rI, P_rI, S_rI, cv_r, ci_r, cl_r, o1_b, o1_0, o1_1, lc_e, nI_1, nI_add, if_true, if_false, Nat.reduceEqDiff, Nat.left_eq_add, Nat.add_eq_left, false_and, and_false, true_and, and_true, and_self, eq_self]
      rw [(qu.2.2.2.1 74 (by omega)).1]; exact i5
    · simp only [hc_ck, hc_gi, hc_gl, hc_gp, ap_I, ap_L, kd_I, kd_L, kd_P, kd_rI, ar_I, ar_L, ar_P, al_I, al_L, al_P, hop_s, cond_true, cond_false, pc_I_I, pc_L_L, pc_P_P, pc_I_L, pc_I_P, pc_L_I, pc_L_P, pc_P_I, pc_P_L, pc_sS_I, pc_sS_L, pc_sS_P, I_rI, L_rI, P_rI, S_rI, cv_r, ci_r, cl_r, o1_b, o1_0, o1_1, lc_e, nI_1, nI_add, if_true, if_false, Nat.reduceEqDiff, Nat.left_eq_add, Nat.add_eq_left, false_and, and_false, true_and, and_true, and_self, eq_self]
      rw [(qu.2.2.2.1 74 (by omega)).1]; exact i6
    · simp only [hc_ck, hc_gi, hc_gl, hc_gp, ap_I, ap_L, kd_I, kd_L, kd_P, kd_rI, ar_I, ar_L, ar_P, al_I, al_L, al_P, hop_s, cond_true, cond_false, pc_I_I, pc_L_L, pc_P_P, pc_I_L, pc_I_P, pc_L_I, pc_L_P, pc_P_I, pc_P_L, pc_sS_I, pc_sS_L, pc_sS_P, I_rI, L_rI, P_rI, S_rI, cv_r, ci_r, cl_r, o1_b, o1_0, o1_1, lc_e, nI_1, nI_add, if_true, if_false, Nat.reduceEqDiff, Nat.left_eq_add, Nat.add_eq_left, false_and, and_false, true_and, and_true, and_self, eq_self]
    · simp only [hc_ck, hc_gi, hc_gl, hc_gp, ap_I, ap_L, kd_I, kd_L, kd_P, kd_rI, ar_I, ar_L, ar_P, al_I, al_L, al_P, hop_s, cond_true, cond_false, pc_I_I, pc_L_L, pc_P_P, pc_I_L, pc_I_P, pc_L_I, pc_L_P, pc_P_I, pc_P_L, pc_sS_I, pc_sS_L, pc_sS_P, I_rI, L_rI, P_rI, S_rI, cv_r, ci_r, cl_r, o1_b, o1_0, o1_1, lc_e, nI_1, nI_add, if_true, if_false, Nat.reduceEqDiff, Nat.left_eq_add, Nat.add_eq_left, false_and, and_false, true_and, and_true, and_self, eq_self]
    · simp only [hc_ck, hc_gi, hc_gl, hc_gp, ap_I, ap_L, kd_I, kd_L, kd_P, kd_rI, ar_I, ar_L, ar_P, al_I, al_L, al_P, hop_s, cond_true, cond_false, pc_I_I, pc_L_L, pc_P_P, pc_I_L, pc_I_P, pc_L_I, pc_L_P, pc_P_I, pc_P_L, pc_sS_I, pc_sS_L, pc_sS_P, I_rI, L_rI, P_rI, S_rI, cv_r, ci_r, cl_r, o1_b, o1_0, o1_1, lc_e, nI_1, nI_add, if_true, if_false, Nat.reduceEqDiff, Nat.left_eq_add, Nat.add_eq_left, false_and, and_false, true_and, and_true, and_self, eq_self]
  rw [e_Rs_aim]
  simp (disch := first | assumption | omega) only [hc_ck, hc_gi, hc_gl, hc_gp, ap_I, ap_L, kd_I, kd_L, kd_P, kd_rI, ar_I, ar_L, ar_P, al_I, al_L, al_P, hop_s, cond_true, cond_false, pc_I_I, pc_L_L, pc_P_P, pc_I_L, pc_I_P, pc_L_I, pc_L_P, pc_P_I, pc_P_L, pc_sS_I, pc_sS_L, pc_sS_P, I_rI, L_rI, P_rI, S_rI, cv_r, ci_r, cl_r, o1_b, o1_0, o1_1, lc_e, nI_1, nI_add, if_true, if_false, Nat.reduceEqDiff, Nat.left_eq_add, Nat.add_eq_left, false_and, and_false, true_and, and_true, and_self, eq_self, Lc_k74]
  rcases hA with e | ⟨e, x', y', K⟩
  · rw [if_pos e]
    exact full
  · rw [if_neg (by rw [e]; decide)]
    have C := K.choose_spec.choose_spec.1
    rw [C.2.2.2.2.1, C.2.2.2.2.2.1]
    have hx' := C.2.2.2.2.2.2.2.1
    have hy' := C.2.2.2.2.2.2.2.2
    by_cases e1 : x = x'
    · rw [if_pos (by rw [e1])]
      by_cases e2 : y = y'
      · rw [if_pos (by rw [e2])]
        subst e1; subst e2
        exact ⟨h, rfl, fVr_r _, e, K⟩
      · rw [if_neg (by rw [nI_e32 (by omega) (by omega)]; exact e2)]
        exact full
    · rw [if_neg (by rw [nI_e32 (by omega) (by omega)]; exact e1)]
      exact full
