/-! ===== the class: questions ===== -/
def fK (h h' : am_H) : Prop := am_S h' = am_S h ∧ am_G h' = am_G h ∧ am_T h' = am_T h ∧ (∀ b, b ≠ 1 → b < 41 ∨ 76 ≤ b → am_I h' b = am_I h b) ∧ (∀ j, j ≠ 8 → j ≠ 9 → am_I h' 1 j = am_I h 1 j) ∧ (∀ b, b < 42 ∨ 77 ≤ b → am_L h' b = am_L h b) ∧ (∀ b j, b ≠ 42 ∨ j ≠ 0 → b ≠ 61 ∨ j ≠ 0 → b ≠ 74 ∨ j ≠ 4 → am_P h' b j = am_P h b j)
theorem fK_r (h : am_H) : fK h h := ⟨rfl, rfl, rfl, fun _ _ _ => rfl, fun _ _ _ => rfl, fun _ _ => rfl, fun _ _ _ _ _ => rfl⟩
theorem fK_t {a b c : am_H} (h1 : fK a b) (h2 : fK b c) : fK a c := by
  obtain ⟨a1, a2, a3, a4, a5, a6, a7⟩ := h1
  obtain ⟨b1, b2, b3, b4, b5, b6, b7⟩ := h2
  exact ⟨b1.trans a1, b2.trans a2, b3.trans a3, fun b p q => (b4 b p q).trans (a4 b p q), fun j p q => (b5 j p q).trans (a5 j p q), fun b p => (b6 b p).trans (a6 b p), fun b j p q r => (b7 b j p q r).trans (a7 b j p q r)⟩
theorem fQ_K {h h' : am_H} (q : fQ h h') : fK h h' := ⟨q.1, q.2.1, q.2.2.1, fun b p r => q.2.2.2.1 b p (by omega), q.2.2.2.2.1, fun b p => q.2.2.2.2.2.1 b (by omega), fun b j p _ _ => q.2.2.2.2.2.2 b j p⟩
theorem fVr_K {h h' : am_H} (q : fVr h h') : fK h h' := ⟨q.1, q.2.1, q.2.2.1, fun b _ r => (q.2.2.2.1 b (by omega)).1, fun j _ _ => by rw [(q.2.2.2.1 1 (by omega)).1], fun b p => (q.2.2.2.1 b (by omega)).2, fun b j _ p r => q.2.2.2.2 b j (by omega) (by omega)⟩
theorem fJ_K {lo hi : Nat} {h h' : am_H} (q : fJ lo hi h h') (h1 : 41 ≤ lo) (h2 : hi ≤ 76) : fK h h' := ⟨q.2.2.1, q.2.2.2.1, q.2.2.2.2.1, fun b _ r => q.2.2.2.2.2 b (by omega), fun j _ _ => by rw [q.2.2.2.2.2 1 (by omega)], fun b _ => by rw [q.1], fun b j _ _ _ => by rw [q.2.1]⟩
/-- cells that stand -/
def smW (W : Nat → Prop) (h h' : am_H) : Prop := am_S h' = am_S h ∧ ∀ b, W b → am_I h' b = am_I h b ∧ am_L h' b = am_L h b ∧ am_P h' b = am_P h b
theorem SaC_sm {W : Nat → Prop} {s o : Nat} {O : o_T} {B : Nat → Prop} {h h' : am_H} (q : smW W h h') (h1 : ∀ b, s ≤ b → b < s + 12 → W b) (h2 : ∀ b, o ≤ b → b < o + 17 → W b) (H : SaC h s o O B) : SaC h' s o O B := by
  obtain ⟨a3, a⟩ := q
  obtain ⟨c1, c2, c3, c4, c5, c6, c7, c8, c9⟩ := H
  have es : ∀ j, j < 12 → am_I h' (s + j) = am_I h (s + j) := fun j hj => (a _ (h1 _ (by omega) (by omega))).1
  have e0 : am_I h' s = am_I h s := es 0 (by omega)
  have p0 : am_P h' s = am_P h s := (a s (h1 _ (by omega) (by omega))).2.2
  refine ⟨SaAt_of c1 a3 (fun j _ => by rw [p0]), OnR_of c2 a3 (fun j _ => (a _ (h2 _ (by omega) (by omega))).2.2) (fun j hj => (a _ (h2 _ (by omega) (by omega))).1), ?_, ?_, ?_, ?_, ?_, ?_, ?_⟩
  · rw [p0]; exact c3
  · rw [e0]; exact c4
  · rw [e0]; exact c5
  · rw [(a s (h1 _ (by omega) (by omega))).2.1]; exact c6
  · rw [e0, es 1 (by omega), es 2 (by omega)]; exact c7
  · rw [e0, es 3 (by omega)]; exact c8
  · rw [es 4 (by omega)]; exact c9
theorem SaD_sm {W : Nat → Prop} {s : Nat} {O : o_T} {B T : Nat → Prop} {A : Nat → Nat → Prop} {K : Nat → Nat → Nat → Prop} {nA : Nat → Int64} {nK : Nat → Nat → Int64} {h h' : am_H} (q : smW W h h') (h1 : ∀ b, s ≤ b → b < s + 12 → W b) (D : SaD h s O B T A K nA nK) : SaD h' s O B T A K nA nK := by
  have es : ∀ j, j < 12 → am_L h' (s + j) = am_L h (s + j) := fun j hj => (q.2 _ (h1 _ (by omega) (by omega))).2.1
  have e0 : am_L h' s = am_L h s := es 0 (by omega)
  unfold SaD at *
  rw [e0, es 5 (by omega), es 6 (by omega), es 7 (by omega), es 8 (by omega), es 9 (by omega), es 10 (by omega), es 11 (by omega)]
  exact D
theorem HiR_sm {W : Nat → Prop} {y : Nat} {O : o_T} {B : Nat → Prop} {h h' : am_H} (q : smW W h h') (h1 : ∀ b, y ≤ b → b < y + 6 → W b) (D : HiR h y O B) : HiR h' y O B := by
  have es : ∀ j, j < 6 → am_I h' (y + j) = am_I h (y + j) := fun j hj => (q.2 _ (h1 _ (by omega) (by omega))).1
  have e0 : am_I h' y = am_I h y := es 0 (by omega)
  unfold HiR at *
  rw [e0, es 1 (by omega), es 3 (by omega), es 4 (by omega), es 5 (by omega)]
  exact D
theorem LcL_sm {W : Nat → Prop} {o : Nat} {O : o_T} {B : Nat → Prop} {h h' : am_H} (q : smW W h h') (ho : o = 3 ∨ o = 20) (h1 : ∀ b, 1 ≤ b → b < 60 → W b) (D : LcL h o O B) : LcL h' o O B := by
  obtain ⟨k, k1, k2, k3, k4, k5, k6, k7⟩ := D
  refine ⟨k, k1, k2, ?_, SaC_sm q (fun b p r => h1 b (by omega) (by omega)) (fun b p r => h1 b (by omega) (by omega)) k4, SaD_sm q (fun b p r => h1 b (by omega) (by omega)) k5, HiR_sm q (fun b p r => h1 b (by omega) (by omega)) k6, ?_⟩
  · rw [(q.2 1 (h1 1 (by omega) (by omega))).1]; exact k3
  · rw [(q.2 41 (h1 41 (by omega) (by omega))).1]; exact k7
theorem OnR_sm {W : Nat → Prop} {o : Nat} {O : o_T} {h h' : am_H} (q : smW W h h') (h1 : ∀ b, o ≤ b → b < o + 17 → W b) (H : OnR h o O) : OnR h' o O := OnR_of H q.1 (fun j _ => (q.2 _ (h1 _ (by omega) (by omega))).2.2) (fun j hj => (q.2 _ (h1 _ (by omega) (by omega))).1)
theorem RsK_sm {W : Nat → Prop} {o x y : Nat} {O : o_T} {B : Nat → Prop} {h h' : am_H} (q : smW W h h') (H' : LcAt h') (ho : o = 3 ∨ o = 20) (h1 : ∀ b, 3 ≤ b → b < 37 → W b) (h2 : W 74) (h3 : W 75) (K : RsK h o O B x y) : RsK h' o O B x y := by
  obtain ⟨U, so, ⟨c1, c2, c3, c4, c5, c6, c7, c8⟩, k2, k3, k4, k5⟩ := K
  obtain ⟨e1, e2, e3⟩ := q.2 74 h2
  obtain ⟨d1, d2, d3⟩ := q.2 75 h3
  refine ⟨U, so, ⟨H', OnR_sm q (fun b p r => h1 b (by omega) (by omega)) c2, c3, ?_, ?_, ?_, ?_, c8⟩, ?_, k3, k4, ?_⟩
  · rw [e3]; exact c4
  · rw [e1]; exact c5
  · rw [e1]; exact c6
  · rw [e2]; exact c7
  · rw [e1]; exact k2
  · rw [e1, d2]; exact k5
/-- the class between calls: the ontology, what is worked out -/
def CB (h : am_H) (o : Nat) (O : o_T) (B : Nat → Prop) : Prop := LcAt h ∧ am_P h 1 3 = some o ∧ (o = 3 ∨ o = 20) ∧ OnR h o O ∧ OnN h o O ∧ am_L h o 10 = wL B ∧ (∀ k, B k → k < o_A O) ∧ (am_I h 1 8 = 0 ∨ (am_I h 1 8 = 1 ∧ LcL h o O B)) ∧ (am_I h 74 7 = 0 ∨ (am_I h 74 7 = 1 ∧ ∃ x y, RsK h o O B x y))
theorem CB_sm {W : Nat → Prop} {o : Nat} {O : o_T} {B : Nat → Prop} {h h' : am_H} (q : smW W h h') (H' : LcAt h') (h1 : ∀ b, 1 ≤ b → b < 60 → W b) (h2 : W 74) (h3 : W 75) (C : CB h o O B) : CB h' o O B := by
  obtain ⟨c1, c2, c3, c4, c5, c6, c7, c8, c9⟩ := C
  refine ⟨H', ?_, c3, OnR_sm q (fun b p r => h1 b (by omega) (by omega)) c4, ?_, ?_, c7, ?_, ?_⟩
  · rw [(q.2 1 (h1 1 (by omega) (by omega))).2.2]; exact c2
  · intro n hn
    rw [(q.2 _ (h1 (o + 5) (by omega) (by omega))).1]; exact c5 n hn
  · rw [(q.2 _ (h1 o (by omega) (by omega))).2.1]; exact c6
  · rw [(q.2 1 (h1 1 (by omega) (by omega))).1]
    exact c8.imp id (fun e => ⟨e.1, LcL_sm q c3 h1 e.2⟩)
  · rw [(q.2 74 h2).1]
    exact c9.imp id (fun ⟨e, x, y, k⟩ => ⟨e, x, y, RsK_sm q H' c3 (fun b p r => h1 b (by omega) (by omega)) h2 h3 k⟩)
theorem Lc_st {h : am_H} {o : Nat} {O : o_T} {B : Nat → Prop} (C : CB h o O B) (d : Nat) : ∃ h', f_Lc_settle (d + 4) h 1 = some (.inr none, h') ∧ fK h h' ∧ CB h' o O B ∧ LcL h' o O B := by
  obtain ⟨c1, c2, c3, c4, c5, c6, c7, c8, c9⟩ := C
  obtain ⟨g, eg, qg, g8, gL⟩ := Lc_settle c1 c2 c3 c4 c5 c6 c8 d
  have H' := fQ_lc qg c1
  have q : smW (fun b => b ≠ 1 ∧ (b < 41 ∨ 61 ≤ b)) h g := ⟨qg.1, fun b p => ⟨qg.2.2.2.1 b p.1 p.2, qg.2.2.2.2.2.1 b (by omega), by funext j; exact qg.2.2.2.2.2.2 b j (by omega)⟩⟩
  refine ⟨g, eg, fQ_K qg, ⟨H', ?_, c3, fQ_on qg c3 c4, fQ_n qg c3 c5, ?_, c7, Or.inr ⟨g8, gL⟩, ?_⟩, gL⟩
  · rw [qg.2.2.2.2.2.2 1 3 (by omega)]; exact c2
  · rw [qg.2.2.2.2.2.1 o (by omega)]; exact c6
  · rw [qg.2.2.2.1 74 (by omega) (by omega)]
    exact c9.imp id (fun ⟨e, x, y, k⟩ => ⟨e, x, y, RsK_sm q H' c3 (fun b p r => ⟨by omega, by omega⟩) ⟨by omega, by omega⟩ ⟨by omega, by omega⟩ k⟩)
theorem CB_V {h h' : am_H} {o x y : Nat} {O : o_T} {B : Nat → Prop} (C : CB h o O B) (q : fVr h h') (e7 : am_I h' 74 7 = 1) (K : RsK h' o O B x y) : CB h' o O B := by
  obtain ⟨c1, c2, c3, c4, c5, c6, c7, c8, c9⟩ := C
  have H' := fVr_lc q c1
  have q1 : smW (fun b => b < 61) h h' := ⟨q.1, fun b p => ⟨(q.2.2.2.1 b (Or.inl p)).1, (q.2.2.2.1 b (Or.inl p)).2, by funext j; exact q.2.2.2.2 b j (by omega) (by omega)⟩⟩
  refine ⟨H', ?_, c3, fVr_on q c3 c4, ?_, ?_, c7, ?_, Or.inr ⟨e7, x, y, K⟩⟩
  · rw [q.2.2.2.2 1 3 (by omega) (by omega)]; exact c2
  · intro n hn
    rw [(q.2.2.2.1 (o + 5) (by omega)).1]; exact c5 n hn
  · rw [(q.2.2.2.1 o (by omega)).2]; exact c6
  · rw [(q.2.2.2.1 1 (by omega)).1]
    exact c8.imp id (fun e => ⟨e.1, LcL_sm q1 c3 (fun b _ r => by omega) e.2⟩)
theorem Lc_am {h : am_H} {o a b : Nat} {O : o_T} {B : Nat → Prop} (C : CB h o O B) (ha : a < o_N O) (hb : b < o_N O) (d : Nat) : ∃ h', f_Lc_aimReasons (d + 5) h 1 (nI a) (nI b) = some (.inr none, h') ∧ fK h h' ∧ CB h' o O B ∧ am_I h' 74 7 = 1 ∧ RsK h' o O B (o_np O a) (o_np O b) := by
  have H := C.1
  have H3 := OnR_at C.2.2.2.1
  have ok := C.2.2.2.1.2.1
  have okN := ok.1
  have pa := (o_np_s ok ha).1
  have pb := (o_np_s ok hb).1
  obtain ⟨g, eg, qg, g7, K⟩ := Rs_aim C.1 C.2.2.2.1 C.2.2.1 C.2.2.2.2.2.1 C.2.2.2.2.2.2.1 pa pb C.2.2.2.2.2.2.2.2 d
  refine ⟨g, ?_, fVr_K qg, CB_V C qg g7 K, g7, K⟩
  rw [e_Lc_aimReasons]
  simp (disch := first | assumption | omega) only [hc_ck, hc_gi, hc_gl, hc_gp, ap_I, ap_L, kd_I, kd_L, kd_P, kd_rI, ar_I, ar_L, ar_P, al_I, al_L, al_P, hop_s, cond_true, cond_false, pc_I_I, pc_L_L, pc_P_P, pc_I_L, pc_I_P, pc_L_I, pc_L_P, pc_P_I, pc_P_L, pc_sS_I, pc_sS_L, pc_sS_P, I_rI, L_rI, P_rI, S_rI, cv_r, ci_r, cl_r, o1_b, o1_0, o1_1, lc_e, nI_1, nI_add, if_true, if_false, Nat.reduceEqDiff, Nat.left_eq_add, Nat.add_eq_left, false_and, and_false, true_and, and_true, and_self, eq_self, Lc_k1, Lc_k74, Lc_p1_15, C.2.1, On_k, On_p2, On_r5, C.2.2.2.2.1 a ha, C.2.2.2.2.1 b hb, eg]
/-- what is refused -/
def cr (k : Nat) (h : am_H) : am_H := am_gb (am_sI h 77 k (am_I h 77 k + 1))
def vi (n : Nat) (i : Int32) : Prop := ∃ k, k < n ∧ i = nI k
theorem vi_n {n : Nat} (hn : n < 2147483648) {i : Int32} (h : ¬ vi n i) (h0 : ¬ i < 0) : ¬ i < nI n := by
  intro q
  rw [Int32.lt_iff_toInt_lt] at h0 q
  rw [show (0 : Int32).toInt = 0 from rfl] at h0
  rw [nI_toInt hn] at q
  refine h ⟨i.toInt.toNat, by omega, ?_⟩
  apply Int32.toInt_inj.mp
  rw [nI_toInt (by omega)]
  omega
theorem vi_0 {n : Nat} (hn : n < 2147483648) {k : Nat} (hk : k < n) : ¬ nI k < 0 := nI_pos (by omega)
theorem Lc_rf0 {h : am_H} (H : LcAt h) (d : Nat) : f_Lc_refuseNoSuch d h 1 = some (.inl 0, cr 0 h) := by
  rw [e_Lc_refuseNoSuch]
  simp (disch := first | assumption | omega) only [hc_ck, hc_gi, hc_gl, hc_gp, ap_I, ap_L, kd_I, kd_L, kd_P, kd_rI, ar_I, ar_L, ar_P, al_I, al_L, al_P, hop_s, cond_true, cond_false, pc_I_I, pc_L_L, pc_P_P, pc_I_L, pc_I_P, pc_L_I, pc_L_P, pc_P_I, pc_P_L, pc_sS_I, pc_sS_L, pc_sS_P, I_rI, L_rI, P_rI, S_rI, cv_r, ci_r, cl_r, o1_b, o1_0, o1_1, lc_e, nI_1, nI_add, if_true, if_false, Nat.reduceEqDiff, Nat.left_eq_add, Nat.add_eq_left, false_and, and_false, true_and, and_true, and_self, eq_self, Lc_k1, Lc_p1_17, n_0, Lc_r77]
  rfl
theorem Lc_rf1 {h : am_H} (H : LcAt h) (d : Nat) : f_Lc_refuseArgument d h 1 = some (.inl 1, cr 1 h) := by
  rw [e_Lc_refuseArgument]
  simp (disch := first | assumption | omega) only [hc_ck, hc_gi, hc_gl, hc_gp, ap_I, ap_L, kd_I, kd_L, kd_P, kd_rI, ar_I, ar_L, ar_P, al_I, al_L, al_P, hop_s, cond_true, cond_false, pc_I_I, pc_L_L, pc_P_P, pc_I_L, pc_I_P, pc_L_I, pc_L_P, pc_P_I, pc_P_L, pc_sS_I, pc_sS_L, pc_sS_P, I_rI, L_rI, P_rI, S_rI, cv_r, ci_r, cl_r, o1_b, o1_0, o1_1, lc_e, nI_1, nI_add, if_true, if_false, Nat.reduceEqDiff, Nat.left_eq_add, Nat.add_eq_left, false_and, and_false, true_and, and_true, and_self, eq_self, Lc_k1, Lc_p1_17, n_1, Lc_r77]
  rfl
theorem Lc_rf2 {h : am_H} (H : LcAt h) (d : Nat) : f_Lc_refuseState d h 1 = some (.inl 2, cr 2 h) := by
  rw [e_Lc_refuseState]
  simp (disch := first | assumption | omega) only [hc_ck, hc_gi, hc_gl, hc_gp, ap_I, ap_L, kd_I, kd_L, kd_P, kd_rI, ar_I, ar_L, ar_P, al_I, al_L, al_P, hop_s, cond_true, cond_false, pc_I_I, pc_L_L, pc_P_P, pc_I_L, pc_I_P, pc_L_I, pc_L_P, pc_P_I, pc_P_L, pc_sS_I, pc_sS_L, pc_sS_P, I_rI, L_rI, P_rI, S_rI, cv_r, ci_r, cl_r, o1_b, o1_0, o1_1, lc_e, nI_1, nI_add, if_true, if_false, Nat.reduceEqDiff, Nat.left_eq_add, Nat.add_eq_left, false_and, and_false, true_and, and_true, and_self, eq_self, Lc_k1, Lc_p1_17, n_2, Lc_r77]
  rfl
theorem Lc_nP {h : am_H} {o : Nat} {O : o_T} {B : Nat → Prop} (C : CB h o O B) (i : Int32) (d : Nat) : (vi (o_P O) i ∧ f_Lc_needPart (d + 1) h 1 i = some (.inr none, h)) ∨ (¬ vi (o_P O) i ∧ f_Lc_needPart (d + 1) h 1 i = some (.inl 0, cr 0 h)) := by
  have H := C.1
  have Ho := C.2.2.2.1
  have H3 := OnR_at Ho
  have hP := Ho.2.1.2.2.2.1
  rw [e_Lc_needPart]
  by_cases v : vi (o_P O) i
  · refine Or.inl ⟨v, ?_⟩
    obtain ⟨k, hk, rfl⟩ := v
    simp (disch := first | assumption | omega) only [hc_ck, hc_gi, hc_gl, hc_gp, ap_I, ap_L, kd_I, kd_L, kd_P, kd_rI, ar_I, ar_L, ar_P, al_I, al_L, al_P, hop_s, cond_true, cond_false, pc_I_I, pc_L_L, pc_P_P, pc_I_L, pc_I_P, pc_L_I, pc_L_P, pc_P_I, pc_P_L, pc_sS_I, pc_sS_L, pc_sS_P, I_rI, L_rI, P_rI, S_rI, cv_r, ci_r, cl_r, o1_b, o1_0, o1_1, lc_e, nI_1, nI_add, if_true, if_false, Nat.reduceEqDiff, Nat.left_eq_add, Nat.add_eq_left, false_and, and_false, true_and, and_true, and_self, eq_self, vi_0 (show o_P O < 2147483648 by omega) hk, Lc_k1, C.2.1, On_k, OnR_P, n_lt, hk]
  · refine Or.inr ⟨v, ?_⟩
    simp (disch := first | assumption | omega) only [hc_ck, hc_gi, hc_gl, hc_gp, ap_I, ap_L, kd_I, kd_L, kd_P, kd_rI, ar_I, ar_L, ar_P, al_I, al_L, al_P, hop_s, cond_true, cond_false, pc_I_I, pc_L_L, pc_P_P, pc_I_L, pc_I_P, pc_L_I, pc_L_P, pc_P_I, pc_P_L, pc_sS_I, pc_sS_L, pc_sS_P, I_rI, L_rI, P_rI, S_rI, cv_r, ci_r, cl_r, o1_b, o1_0, o1_1, lc_e, nI_1, nI_add, if_true, if_false, Nat.reduceEqDiff, Nat.left_eq_add, Nat.add_eq_left, false_and, and_false, true_and, and_true, and_self, eq_self, Lc_k1, C.2.1, On_k, OnR_P, Lc_rf0, cv_e]
    by_cases c : i < 0
    · rw [if_pos c]
    · rw [if_neg c, if_neg (vi_n (by omega) v c)]
theorem Lc_nN {h : am_H} {o : Nat} {O : o_T} {B : Nat → Prop} (C : CB h o O B) (i : Int32) (d : Nat) : (vi (o_N O) i ∧ f_Lc_needName (d + 1) h 1 i = some (.inr none, h)) ∨ (¬ vi (o_N O) i ∧ f_Lc_needName (d + 1) h 1 i = some (.inl 0, cr 0 h)) := by
  have H := C.1
  have Ho := C.2.2.2.1
  have H3 := OnR_at Ho
  have hP := Ho.2.1.1
  rw [e_Lc_needName]
  by_cases v : vi (o_N O) i
  · refine Or.inl ⟨v, ?_⟩
    obtain ⟨k, hk, rfl⟩ := v
    simp (disch := first | assumption | omega) only [hc_ck, hc_gi, hc_gl, hc_gp, ap_I, ap_L, kd_I, kd_L, kd_P, kd_rI, ar_I, ar_L, ar_P, al_I, al_L, al_P, hop_s, cond_true, cond_false, pc_I_I, pc_L_L, pc_P_P, pc_I_L, pc_I_P, pc_L_I, pc_L_P, pc_P_I, pc_P_L, pc_sS_I, pc_sS_L, pc_sS_P, I_rI, L_rI, P_rI, S_rI, cv_r, ci_r, cl_r, o1_b, o1_0, o1_1, lc_e, nI_1, nI_add, if_true, if_false, Nat.reduceEqDiff, Nat.left_eq_add, Nat.add_eq_left, false_and, and_false, true_and, and_true, and_self, eq_self, vi_0 (show o_N O < 2147483648 by omega) hk, Lc_k1, C.2.1, On_k, On_p0, On_k1, OnR_N, n_lt, hk]
  · refine Or.inr ⟨v, ?_⟩
    simp (disch := first | assumption | omega) only [hc_ck, hc_gi, hc_gl, hc_gp, ap_I, ap_L, kd_I, kd_L, kd_P, kd_rI, ar_I, ar_L, ar_P, al_I, al_L, al_P, hop_s, cond_true, cond_false, pc_I_I, pc_L_L, pc_P_P, pc_I_L, pc_I_P, pc_L_I, pc_L_P, pc_P_I, pc_P_L, pc_sS_I, pc_sS_L, pc_sS_P, I_rI, L_rI, P_rI, S_rI, cv_r, ci_r, cl_r, o1_b, o1_0, o1_1, lc_e, nI_1, nI_add, if_true, if_false, Nat.reduceEqDiff, Nat.left_eq_add, Nat.add_eq_left, false_and, and_false, true_and, and_true, and_self, eq_self, Lc_k1, C.2.1, On_k, On_p0, On_k1, OnR_N, Lc_rf0, cv_e]
    by_cases c : i < 0
    · rw [if_pos c]
    · rw [if_neg c, if_neg (vi_n (by omega) v c)]
theorem Lc_nR {h : am_H} {o : Nat} {O : o_T} {B : Nat → Prop} (C : CB h o O B) (i : Int32) (d : Nat) : (vi (o_R O) i ∧ f_Lc_needRole (d + 1) h 1 i = some (.inr none, h)) ∨ (¬ vi (o_R O) i ∧ f_Lc_needRole (d + 1) h 1 i = some (.inl 0, cr 0 h)) := by
  have H := C.1
  have Ho := C.2.2.2.1
  have H3 := OnR_at Ho
  have hP := Ho.2.1.2.1
  rw [e_Lc_needRole]
  by_cases v : vi (o_R O) i
  · refine Or.inl ⟨v, ?_⟩
    obtain ⟨k, hk, rfl⟩ := v
    simp (disch := first | assumption | omega) only [hc_ck, hc_gi, hc_gl, hc_gp, ap_I, ap_L, kd_I, kd_L, kd_P, kd_rI, ar_I, ar_L, ar_P, al_I, al_L, al_P, hop_s, cond_true, cond_false, pc_I_I, pc_L_L, pc_P_P, pc_I_L, pc_I_P, pc_L_I, pc_L_P, pc_P_I, pc_P_L, pc_sS_I, pc_sS_L, pc_sS_P, I_rI, L_rI, P_rI, S_rI, cv_r, ci_r, cl_r, o1_b, o1_0, o1_1, lc_e, nI_1, nI_add, if_true, if_false, Nat.reduceEqDiff, Nat.left_eq_add, Nat.add_eq_left, false_and, and_false, true_and, and_true, and_self, eq_self, vi_0 (show o_R O < 2147483648 by omega) hk, Lc_k1, C.2.1, On_k, On_p1, On_k3, OnR_R, n_lt, hk]
  · refine Or.inr ⟨v, ?_⟩
    simp (disch := first | assumption | omega) only [hc_ck, hc_gi, hc_gl, hc_gp, ap_I, ap_L, kd_I, kd_L, kd_P, kd_rI, ar_I, ar_L, ar_P, al_I, al_L, al_P, hop_s, cond_true, cond_false, pc_I_I, pc_L_L, pc_P_P, pc_I_L, pc_I_P, pc_L_I, pc_L_P, pc_P_I, pc_P_L, pc_sS_I, pc_sS_L, pc_sS_P, I_rI, L_rI, P_rI, S_rI, cv_r, ci_r, cl_r, o1_b, o1_0, o1_1, lc_e, nI_1, nI_add, if_true, if_false, Nat.reduceEqDiff, Nat.left_eq_add, Nat.add_eq_left, false_and, and_false, true_and, and_true, and_self, eq_self, Lc_k1, C.2.1, On_k, On_p1, On_k3, OnR_R, Lc_rf0, cv_e]
    by_cases c : i < 0
    · rw [if_pos c]
    · rw [if_neg c, if_neg (vi_n (by omega) v c)]
theorem Lc_nA {h : am_H} {o : Nat} {O : o_T} {B : Nat → Prop} (C : CB h o O B) (i : Int32) (d : Nat) : (vi (o_A O) i ∧ f_Lc_needAxiom (d + 1) h 1 i = some (.inr none, h)) ∨ (¬ vi (o_A O) i ∧ f_Lc_needAxiom (d + 1) h 1 i = some (.inl 0, cr 0 h)) := by
  have H := C.1
  have Ho := C.2.2.2.1
  have H3 := OnR_at Ho
  have hP := Ho.2.1.2.2.2.2.1
  rw [e_Lc_needAxiom]
  by_cases v : vi (o_A O) i
  · refine Or.inl ⟨v, ?_⟩
    obtain ⟨k, hk, rfl⟩ := v
    simp (disch := first | assumption | omega) only [hc_ck, hc_gi, hc_gl, hc_gp, ap_I, ap_L, kd_I, kd_L, kd_P, kd_rI, ar_I, ar_L, ar_P, al_I, al_L, al_P, hop_s, cond_true, cond_false, pc_I_I, pc_L_L, pc_P_P, pc_I_L, pc_I_P, pc_L_I, pc_L_P, pc_P_I, pc_P_L, pc_sS_I, pc_sS_L, pc_sS_P, I_rI, L_rI, P_rI, S_rI, cv_r, ci_r, cl_r, o1_b, o1_0, o1_1, lc_e, nI_1, nI_add, if_true, if_false, Nat.reduceEqDiff, Nat.left_eq_add, Nat.add_eq_left, false_and, and_false, true_and, and_true, and_self, eq_self, vi_0 (show o_A O < 2147483648 by omega) hk, Lc_k1, C.2.1, On_k, OnR_A, n_lt, hk]
  · refine Or.inr ⟨v, ?_⟩
    simp (disch := first | assumption | omega) only [hc_ck, hc_gi, hc_gl, hc_gp, ap_I, ap_L, kd_I, kd_L, kd_P, kd_rI, ar_I, ar_L, ar_P, al_I, al_L, al_P, hop_s, cond_true, cond_false, pc_I_I, pc_L_L, pc_P_P, pc_I_L, pc_I_P, pc_L_I, pc_L_P, pc_P_I, pc_P_L, pc_sS_I, pc_sS_L, pc_sS_P, I_rI, L_rI, P_rI, S_rI, cv_r, ci_r, cl_r, o1_b, o1_0, o1_1, lc_e, nI_1, nI_add, if_true, if_false, Nat.reduceEqDiff, Nat.left_eq_add, Nat.add_eq_left, false_and, and_false, true_and, and_true, and_self, eq_self, Lc_k1, C.2.1, On_k, OnR_A, Lc_rf0, cv_e]
    by_cases c : i < 0
    · rw [if_pos c]
    · rw [if_neg c, if_neg (vi_n (by omega) v c)]
theorem Lc_nW {h : am_H} (H : LcAt h) (i : Int32) {n : Nat} (hn : n < 100) (d : Nat) : (vi (n + 1) i ∧ f_Lc_needWhat (d + 1) h 1 i (nI n) = some (.inr none, h)) ∨ (¬ vi (n + 1) i ∧ f_Lc_needWhat (d + 1) h 1 i (nI n) = some (.inl 1, cr 1 h)) := by
  rw [e_Lc_needWhat]
  by_cases v : vi (n + 1) i
  · refine Or.inl ⟨v, ?_⟩
    obtain ⟨k, hk, rfl⟩ := v
    simp (disch := first | assumption | omega) only [hc_ck, hc_gi, hc_gl, hc_gp, ap_I, ap_L, kd_I, kd_L, kd_P, kd_rI, ar_I, ar_L, ar_P, al_I, al_L, al_P, hop_s, cond_true, cond_false, pc_I_I, pc_L_L, pc_P_P, pc_I_L, pc_I_P, pc_L_I, pc_L_P, pc_P_I, pc_P_L, pc_sS_I, pc_sS_L, pc_sS_P, I_rI, L_rI, P_rI, S_rI, cv_r, ci_r, cl_r, o1_b, o1_0, o1_1, lc_e, nI_1, nI_add, if_true, if_false, Nat.reduceEqDiff, Nat.left_eq_add, Nat.add_eq_left, false_and, and_false, true_and, and_true, and_self, eq_self, vi_0 (show n + 1 < 2147483648 by omega) hk, n_le, show k ≤ n by omega]
  · refine Or.inr ⟨v, ?_⟩
    simp (disch := first | assumption | omega) only [hc_ck, hc_gi, hc_gl, hc_gp, ap_I, ap_L, kd_I, kd_L, kd_P, kd_rI, ar_I, ar_L, ar_P, al_I, al_L, al_P, hop_s, cond_true, cond_false, pc_I_I, pc_L_L, pc_P_P, pc_I_L, pc_I_P, pc_L_I, pc_L_P, pc_P_I, pc_P_L, pc_sS_I, pc_sS_L, pc_sS_P, I_rI, L_rI, P_rI, S_rI, cv_r, ci_r, cl_r, o1_b, o1_0, o1_1, lc_e, nI_1, nI_add, if_true, if_false, Nat.reduceEqDiff, Nat.left_eq_add, Nat.add_eq_left, false_and, and_false, true_and, and_true, and_self, eq_self, Lc_k1, Lc_rf1, cv_e]
    by_cases c : i < 0
    · rw [if_pos c]
    · rw [if_neg c, if_neg (fun q => v ?_)]
      rw [Int32.lt_iff_toInt_lt, show (0 : Int32).toInt = 0 from rfl] at c
      rw [Int32.le_iff_toInt_le, nI_toInt (by omega)] at q
      refine ⟨i.toInt.toNat, by omega, Int32.toInt_inj.mp ?_⟩
      rw [nI_toInt (by omega)]
      omega
