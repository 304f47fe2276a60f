/-! ===== feed, fault, turn, undo: both sides ===== -/
theorem CB_gen {h h' : am_H} {o : Nat} {O : o_T} {B : Nat → Prop} (C : CB h o O B) (hS : am_S h' = am_S h) (hP : am_P h' = am_P h) (hL : am_L h' = am_L h) (hI : ∀ b, 3 ≤ b → b ≠ 40 → b < 76 → am_I h' b = am_I h b) (h8 : am_I h' 1 8 = am_I h 1 8) (h9 : am_I h' 1 9 = am_I h 1 9) : CB h' o O B := by
  obtain ⟨c1, c2, c3, c4, c5, c6, c7, c8, c9⟩ := C
  have H' : LcAt h' := LcAt_of c1 hS (fun _ _ _ => by rw [hP])
  have q : smW (fun b => 3 ≤ b ∧ b ≠ 40 ∧ b < 76) h h' := ⟨hS, fun b p => ⟨hI b p.1 p.2.1 p.2.2, by rw [hL], by rw [hP]⟩⟩
  refine ⟨H', by rw [hP]; exact c2, c3, OnR_sm q (fun b p r => by omega) c4, ?_, by rw [hL]; exact c6, c7, ?_, ?_⟩
  · intro n hn
    rw [hI (o + 5) (by omega) (by omega) (by omega)]; exact c5 n hn
  · rw [h8]
    refine c8.imp id (fun e => ⟨e.1, ?_⟩)
    obtain ⟨k, k1, k2, k3, k4, k5, k6, k7⟩ := e.2
    refine ⟨k, k1, k2, ?_, SaC_sm q (fun b p r => by omega) (fun b p r => by omega) k4, SaD_sm q (fun b p r => by omega) k5, HiR_sm q (fun b p r => by omega) k6, ?_⟩
    · rw [h9]; exact k3
    · rw [hI 41 (by omega) (by omega) (by omega)]; exact k7
  · rw [hI 74 (by omega) (by omega) (by omega)]
    exact c9.imp id (fun ⟨e, x, y, k⟩ => ⟨e, x, y, RsK_sm q H' c3 (fun b p r => by omega) (by omega) (by omega) k⟩)
/-- what a feed, a turn leave as it is -/
def fFd (h h' : am_H) : Prop := am_S h' = am_S h ∧ am_G h' = am_G h ∧ am_T h' = am_T h ∧ am_P h' = am_P h ∧ am_L h' = am_L h ∧ (∀ b, b ≠ 1 → b ≠ 2 → am_I h' b = am_I h b) ∧ (∀ j, j ≠ 1 → am_I h' 1 j = am_I h 1 j)
theorem fFd_r (h : am_H) : fFd h h := ⟨rfl, rfl, rfl, rfl, rfl, fun _ _ _ => rfl, fun _ _ => rfl⟩
theorem fFd_t {a b c : am_H} (h1 : fFd a b) (h2 : fFd b c) : fFd a c := ⟨h2.1.trans h1.1, h2.2.1.trans h1.2.1, h2.2.2.1.trans h1.2.2.1, h2.2.2.2.1.trans h1.2.2.2.1, h2.2.2.2.2.1.trans h1.2.2.2.2.1, fun b p q => (h2.2.2.2.2.2.1 b p q).trans (h1.2.2.2.2.2.1 b p q), fun j p => (h2.2.2.2.2.2.2 j p).trans (h1.2.2.2.2.2.2 j p)⟩
theorem fFd_lc {h h' : am_H} (q : fFd h h') (H : LcAt h) : LcAt h' := LcAt_of H q.1 (fun _ _ _ => by rw [q.2.2.2.1])
theorem fFd_CB {h h' : am_H} {o : Nat} {O : o_T} {B : Nat → Prop} (q : fFd h h') (C : CB h o O B) : CB h' o O B := CB_gen C q.1 q.2.2.2.1 q.2.2.2.2.1 (fun b p _ _ => q.2.2.2.2.2.1 b (by omega) (by omega)) (q.2.2.2.2.2.2 8 (by omega)) (q.2.2.2.2.2.2 9 (by omega))
theorem fFd_b (h : am_H) (t : Nat) (v w : Int32) : fFd h (am_sI (am_sI h 2 t v) 1 1 w) := ⟨rfl, rfl, rfl, rfl, rfl, fun b p q => by
  funext j
  rw [pc_I_I, if_neg (by omega), pc_I_I, if_neg (by omega)], fun j p => by rw [pc_I_I, if_neg (by omega), pc_I_I, if_neg (by omega)]⟩
theorem Lc_put1 {h : am_H} {x : XT} {s : Nat} (H : LcAt h) (C : CX h x) (ht : x.2.1 < 400) (hs : s < 32) (v : Int32) (d : Nat) : ∃ h', f_Lc_putBytes_3 d h 1 v (nI s) = f_Lc_putBytes_3 d h' 1 v (nI s + -8) ∧ fFd h h' ∧ CX h' (xb (by8 v s) x) := by
  refine ⟨am_sI (am_sI h 2 x.2.1 (sbt (by8 v s))) 1 1 (nI (x.2.1 + 1)), ?_, fFd_b _ _ _ _, CX_b (by8_lt _ _) ht C⟩
  have h4 : ¬ (400 : Int32) ≤ nI x.2.1 := by
    rw [show (400 : Int32) = nI 400 from rfl, n_le _ _ (by omega) (by omega)]
    omega
  rw [e_Lc_putBytes_3, if_neg (nI_pos (by omega))]
  simp (disch := first | assumption | omega) only [hc_ck, hc_gi, hc_gl, hc_gp, ap_I, ap_L, kd_I, kd_L, kd_P, kd_rI, ar_I, ar_L, ar_P, al_I, al_L, al_P, hop_s, cond_true, cond_false, pc_I_I, pc_L_L, pc_P_P, pc_I_L, pc_I_P, pc_L_I, pc_L_P, pc_P_I, pc_P_L, pc_sS_I, pc_sS_L, pc_sS_P, I_rI, L_rI, P_rI, S_rI, cv_r, ci_r, cl_r, o1_b, o1_0, o1_1, lc_e, nI_1, nI_add, if_true, if_false, Nat.reduceEqDiff, Nat.left_eq_add, Nat.add_eq_left, false_and, and_false, true_and, and_true, and_self, eq_self, Lc_k1, C.2.1, h4, Lc_p1_0, Lc_r2, sb_8 v hs]
def xf (v : Int32) (x : XT) : XT := xb (by8 v 0) (xb (by8 v 8) (xb (by8 v 16) (xb (by8 v 24) x)))
theorem Lc_putBytes {h : am_H} {x : XT} (H : LcAt h) (C : CX h x) (ht : x.2.1 + 4 ≤ 400) (v : Int32) (d : Nat) : ∃ h', f_Lc_putBytes d h 1 v = some (.inr none, h') ∧ fFd h h' ∧ CX h' (xf v x) := by
  obtain ⟨a, ea, qa, Ca⟩ := Lc_put1 H C (by omega) (show 24 < 32 by omega) v d
  obtain ⟨b, eb, qb, Cb⟩ := Lc_put1 (fFd_lc qa H) Ca (show x.2.1 + 1 < 400 by omega) (show 16 < 32 by omega) v d
  have Hb := fFd_lc (fFd_t qa qb) H
  obtain ⟨c, ec, qc, Cc⟩ := Lc_put1 Hb Cb (show x.2.1 + 1 + 1 < 400 by omega) (show 8 < 32 by omega) v d
  obtain ⟨e, ee, qe, Ce⟩ := Lc_put1 (fFd_lc qc Hb) Cc (show x.2.1 + 1 + 1 + 1 < 400 by omega) (show 0 < 32 by omega) v d
  refine ⟨e, ?_, fFd_t (fFd_t qa qb) (fFd_t qc qe), Ce⟩
  rw [e_Lc_putBytes, show (24 : Int32) = nI 24 from rfl, ea, show nI 24 + -8 = nI 16 by decide, eb, show nI 16 + -8 = nI 8 by decide, ec, show nI 8 + -8 = nI 0 by decide, ee, e_Lc_putBytes_3, if_pos (by decide)]
theorem Lc_feed {h : am_H} {x : XT} (H : LcAt h) (C : CX h x) (v1 v2 v3 v4 v5 : Int32) (d : Nat) : (x.2.1 + 20 ≤ 400 ∧ ∃ h', f_Lc_feed (d + 1) h 1 v1 v2 v3 v4 v5 = some (.inr (some (.int (nI (x.2.1 + 20)))), h') ∧ fFd h h' ∧ CX h' (xf v5 (xf v4 (xf v3 (xf v2 (xf v1 x)))))) ∨ (¬ x.2.1 + 20 ≤ 400 ∧ f_Lc_feed (d + 1) h 1 v1 v2 v3 v4 v5 = some (.inr (some (.int (-1))), h)) := by
  have c1 := C.1
  have le : (nI x.2.1 + 20 ≤ 400) = (x.2.1 + 20 ≤ 400) := by
    rw [show (20 : Int32) = nI 20 from rfl, nI_add, show (400 : Int32) = nI 400 from rfl]
    exact n_le _ _ (by omega) (by omega)
  rw [e_Lc_feed, lz_i (Lc_k1 H) C.2.1]
  by_cases c : x.2.1 + 20 ≤ 400
  · refine Or.inl ⟨c, ?_⟩
    obtain ⟨a, ea, qa, Ca⟩ := Lc_putBytes H C (by omega) v1 d
    have Ha := fFd_lc qa H
    obtain ⟨b, eb, qb, Cb⟩ := Lc_putBytes Ha Ca (show x.2.1 + 4 + 4 ≤ 400 by omega) v2 d
    have Hb := fFd_lc qb Ha
    obtain ⟨e, ee, qe, Ce⟩ := Lc_putBytes Hb Cb (show x.2.1 + 4 + 4 + 4 ≤ 400 by omega) v3 d
    have He := fFd_lc qe Hb
    obtain ⟨f, ef, qf, Cf⟩ := Lc_putBytes He Ce (show x.2.1 + 4 + 4 + 4 + 4 ≤ 400 by omega) v4 d
    have Hf := fFd_lc qf He
    obtain ⟨g, eg, qg, Cg⟩ := Lc_putBytes Hf Cf (show x.2.1 + 4 + 4 + 4 + 4 + 4 ≤ 400 by omega) v5 d
    have Hg := fFd_lc qg Hf
    refine ⟨g, ?_, fFd_t qa (fFd_t qb (fFd_t qe (fFd_t qf qg))), Cg⟩
    rw [if_pos (by rw [le]; exact c), lz_k (Lc_k1 H), lz_cv ea, lz_k (Lc_k1 Ha), lz_cv eb, lz_k (Lc_k1 Hb), lz_cv ee, lz_k (Lc_k1 He), lz_cv ef, lz_k (Lc_k1 Hf), lz_cv eg, lz_i (Lc_k1 Hg) Cg.2.1]
    rfl
  · refine Or.inr ⟨c, ?_⟩
    rw [if_neg (by rw [le]; exact c)]
/-- what the reference's feed leaves as it is -/
def fRd (f : Nat) (h h' : am_H) : Prop := am_S h' = am_S h ∧ am_G h' = am_G h ∧ am_T h' = am_T h ∧ am_P h' = am_P h ∧ am_L h' = am_L h ∧ (∀ b, b ≠ f → b ≠ f + 2 → am_I h' b = am_I h b) ∧ (∀ j, j ≠ 2 → am_I h' f j = am_I h f j)
theorem fRd_r (f : Nat) (h : am_H) : fRd f h h := ⟨rfl, rfl, rfl, rfl, rfl, fun _ _ _ => rfl, fun _ _ => rfl⟩
theorem fRd_t {f : Nat} {a b c : am_H} (h1 : fRd f a b) (h2 : fRd f b c) : fRd f a c := ⟨h2.1.trans h1.1, h2.2.1.trans h1.2.1, h2.2.2.1.trans h1.2.2.1, h2.2.2.2.1.trans h1.2.2.2.1, h2.2.2.2.2.1.trans h1.2.2.2.2.1, fun b p q => (h2.2.2.2.2.2.1 b p q).trans (h1.2.2.2.2.2.1 b p q), fun j p => (h2.2.2.2.2.2.2 j p).trans (h1.2.2.2.2.2.2 j p)⟩
theorem RB_gen {h h' : am_H} {f : Nat} {O : o_T} {B : Nat → Prop} (C : RB h f O B) (hS : am_S h' = am_S h) (hP : am_P h' = am_P h) (hL : am_L h' = am_L h) (hI : ∀ b, b = f + 3 ∨ (f + 6 ≤ b ∧ b < f + 1530) → am_I h' b = am_I h b) (hj : ∀ j, j = 14 ∨ j = 15 ∨ j = 26 ∨ j = 34 → am_I h' f j = am_I h f j) : RB h' f O B := by
  obtain ⟨c1, c2, c3, c4, c5, c6⟩ := C
  have hP2 := c2.2.1.2.2.2.1
  refine ⟨RfAt_of c1 hS (fun _ _ _ => by rw [hP]), Rw_of c2 hS (hI _ (by omega)), by rw [hL]; exact c3, c4, ?_, ?_⟩
  · rw [hj 14 (by omega)]
    refine c5.imp id (fun p => ⟨p.1, ?_⟩)
    obtain ⟨k, k1, k2, k3, k4, k5, k6⟩ := p.2
    refine ⟨k, k1, k2, ?_, fun r hr => ?_, fun x hx => ?_, fun x y hx hy => ?_⟩
    · rw [hj 26 (by omega)]; exact k3
    · rw [hI _ (by omega)]; exact k4 r hr
    · rw [hL]; exact k5 x hx
    · rw [hI _ (by omega)]; exact k6 x y hx hy
  · rw [hj 15 (by omega)]
    exact c6.imp id (fun p => ⟨p.1, RfN_i (hj 34 (by omega)) (fun b r s => hI b (by omega)) p.2⟩)
theorem fRd_RB {f : Nat} {h h' : am_H} {O : o_T} {B : Nat → Prop} (q : fRd f h h') (C : RB h f O B) : RB h' f O B := RB_gen C q.1 q.2.2.2.1 q.2.2.2.2.1 (fun b p => q.2.2.2.2.2.1 b (by omega) (by omega)) (fun j p => q.2.2.2.2.2.2 j (by omega))
theorem fRd_b (f : Nat) (h : am_H) (t : Nat) (v w : Int32) : fRd f h (am_sI (am_sI h (f + 2) t v) f 2 w) := ⟨rfl, rfl, rfl, rfl, rfl, fun b p q => by
  funext j
  rw [pc_I_I, if_neg (by omega), pc_I_I, if_neg (by omega)], fun j p => by rw [pc_I_I, if_neg (by omega), pc_I_I, if_neg (by omega)]⟩
def fsel (v1 v2 v3 v4 v5 : Int32) (k : Nat) : Int32 := if k < 4 then v1 else if k < 8 then v2 else if k < 12 then v3 else if k < 16 then v4 else v5
def xs (v1 v2 v3 v4 v5 : Int32) (x : XT) : Nat → XT
  | 0 => x
  | k + 1 => xb (by8 (fsel v1 v2 v3 v4 v5 k) (24 - 8 * (k % 4))) (xs v1 v2 v3 v4 v5 x k)
theorem xs_t (v1 v2 v3 v4 v5 : Int32) (x : XT) : ∀ k, (xs v1 v2 v3 v4 v5 x k).2.1 = x.2.1 + k
  | 0 => rfl
  | k + 1 => by
    show (xs v1 v2 v3 v4 v5 x k).2.1 + 1 = x.2.1 + (k + 1)
    rw [xs_t v1 v2 v3 v4 v5 x k]
    omega
theorem sh_4 : ∀ k, k < 20 → 24 - 8 * am_irem (nI k) 4 = nI (24 - 8 * (k % 4)) := by decide +kernel
theorem Rf_f76 {h : am_H} {f k : Nat} {x : XT} (H : RfAt h f) (C : RX h f x) (ht : x.2.1 < 400) (hk : k < 20) (v1 v2 v3 v4 v5 v : Int32) (d : Nat) : ∃ h', f_Rf_feed_76 d h f v1 v2 v3 v4 v5 (nI k) v = f_Rf_feed_23 d h' f v1 v2 v3 v4 v5 (nI (k + 1)) ∧ fRd f h h' ∧ RX h' f (xb (by8 v (24 - 8 * (k % 4))) x) := by
  refine ⟨am_sI (am_sI h (f + 2) x.2.1 (nI (by8 v (24 - 8 * (k % 4))))) f 2 (nI (x.2.1 + 1)), ?_, fRd_b _ _ _ _ _, RX_b (by8_lt _ _) ht C⟩
  have ne : ¬ f = f + 2 := by omega
  rw [e_Rf_feed_76]
  simp (disch := first | assumption | omega) only [hc_ck, hc_gi, hc_gl, hc_gp, ap_I, ap_L, kd_I, kd_L, kd_P, kd_rI, ar_I, ar_L, ar_P, al_I, al_L, al_P, hop_s, cond_true, cond_false, pc_I_I, pc_L_L, pc_P_P, pc_I_L, pc_I_P, pc_L_I, pc_L_P, pc_P_I, pc_P_L, pc_sS_I, pc_sS_L, pc_sS_P, I_rI, L_rI, P_rI, S_rI, cv_r, ci_r, cl_r, o1_b, o1_0, o1_1, lc_e, nI_1, nI_add, if_true, if_false, Nat.reduceEqDiff, Nat.left_eq_add, Nat.add_eq_left, false_and, and_false, true_and, and_true, and_self, eq_self, Rf_k, Rf_p8, C.2.1, Rf_r2, sh_4 k hk, rb_8 v (show 24 - 8 * (k % 4) < 25 by omega), show ¬ (4 : Int32) = 0 by decide, ne]
theorem Rf_f23 {h : am_H} {f : Nat} {x : XT} (H : RfAt h f) (C : RX h f x) (ht : x.2.1 + 20 ≤ 400) (v1 v2 v3 v4 v5 : Int32) (d : Nat) : ∀ k, k ≤ 20 → ∀ g : am_H, fRd f h g → RX g f (xs v1 v2 v3 v4 v5 x k) → ∃ h', f_Rf_feed_23 d g f v1 v2 v3 v4 v5 (nI k) = some (.inr (some (.int (nI (x.2.1 + 20)))), h') ∧ fRd f h h' ∧ RX h' f (xs v1 v2 v3 v4 v5 x 20) := by
  refine dn ?_ ?_
  · intro g q X
    have Hg : RfAt g f := RfAt_of H q.1 (fun _ _ _ => by rw [q.2.2.2.1])
    refine ⟨g, ?_, q, X⟩
    rw [e_Rf_feed_23, if_pos (by decide), lz_i (Rf_k Hg) X.2.1, xs_t]
  · intro k hk ih g q X
    have Hg : RfAt g f := RfAt_of H q.1 (fun _ _ _ => by rw [q.2.2.2.1])
    obtain ⟨u, eu, qu, Xu⟩ := Rf_f76 Hg X (by rw [xs_t]; omega) hk v1 v2 v3 v4 v5 (fsel v1 v2 v3 v4 v5 k) d
    obtain ⟨z, ez, qz, Xz⟩ := ih u (fRd_t q qu) Xu
    refine ⟨z, ?_, qz, Xz⟩
    rw [← ez, ← eu, e_Rf_feed_23]
    simp (disch := first | assumption | omega) only [show (20 : Int32) = nI 20 from rfl, n_4, n_8, show (12 : Int32) = nI 12 from rfl, show (16 : Int32) = nI 16 from rfl, n_le]
    unfold fsel
    rw [if_neg (by omega)]
    by_cases a1 : k < 4
    · rw [if_neg (by omega), if_pos a1]
    · rw [if_pos (by omega), if_neg a1]
      by_cases a2 : k < 8
      · rw [if_neg (by omega), if_pos a2]
      · rw [if_pos (by omega), if_neg a2]
        by_cases a3 : k < 12
        · rw [if_neg (by omega), if_pos a3]
        · rw [if_pos (by omega), if_neg a3]
          by_cases a4 : k < 16
          · rw [if_neg (by omega), if_pos a4]
          · rw [if_pos (by omega), if_neg a4]
theorem xs_20 (v1 v2 v3 v4 v5 : Int32) (x : XT) : xs v1 v2 v3 v4 v5 x 20 = xf v5 (xf v4 (xf v3 (xf v2 (xf v1 x)))) := rfl
theorem Rf_feed {h : am_H} {f : Nat} {x : XT} {O : o_T} {B : Nat → Prop} (R : RB h f O B) (C : RX h f x) (v1 v2 v3 v4 v5 : Int32) (d : Nat) : (x.2.1 + 20 ≤ 400 ∧ ∃ h', f_Rf_feed d h f v1 v2 v3 v4 v5 = some (.inr (some (.int (nI (x.2.1 + 20)))), h') ∧ fRd f (am_sI h f 0 0) h' ∧ RX h' f (xf v5 (xf v4 (xf v3 (xf v2 (xf v1 x)))))) ∨ (¬ x.2.1 + 20 ≤ 400 ∧ f_Rf_feed d h f v1 v2 v3 v4 v5 = some (.inr (some (.int (-1))), am_sI h f 0 0)) := by
  have H := R.1
  obtain ⟨g, e0, Cg, Wg, z0⟩ := RB_b R
  have Hg := Cg.1
  have Xg := RX_W Wg C
  have c1 := C.1
  have le : (nI x.2.1 + 20 ≤ 400) = (x.2.1 + 20 ≤ 400) := by
    rw [show (20 : Int32) = nI 20 from rfl, nI_add, show (400 : Int32) = nI 400 from rfl]
    exact n_le _ _ (by omega) (by omega)
  rw [e_Rf_feed, lz_k (Rf_k H), e0, lz_i (Rf_k Hg) Xg.2.1]
  by_cases c : x.2.1 + 20 ≤ 400
  · obtain ⟨z, ez, qz, Xz⟩ := Rf_f23 Hg Xg c v1 v2 v3 v4 v5 d 0 (Nat.zero_le _) g (fRd_r _ _) Xg
    refine Or.inl ⟨c, z, ?_, qz, Xz⟩
    rw [if_pos (by rw [le]; exact c)]
    exact ez
  · refine Or.inr ⟨c, ?_⟩
    rw [if_neg (by rw [le]; exact c)]
