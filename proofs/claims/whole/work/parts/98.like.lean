/-! ===== likeness: both sides ===== -/
theorem ct_t {p : Nat → Prop} {m : Nat} : ∀ {n : Nat}, m ≤ n → (∀ k, m ≤ k → k < n → ¬ p k) → ct p n = ct p m
  | 0, h, _ => by rw [show m = 0 by omega]
  | n + 1, h, z => by
    by_cases e : m = n + 1
    · rw [e]
    · rw [ct, if_neg (z n (by omega) (by omega)), ct_t (n := n) (by omega) (fun k h1 h2 => z k h1 (by omega))]
      rfl
theorem nI_m1 (t : Nat) : nI (t + 1) + -1 = nI t := by
  rw [← nI_pred t, Int32.sub_eq_add_neg]
def lowf (m n : Nat) : Nat → Nat
  | 0 => m
  | t + 1 => if t = 0 then m else if m % (t + 1) = 0 ∧ n % (t + 1) = 0 then m / (t + 1) else lowf m n t
theorem low_g : ∀ m, m < 25 → ∀ n, n < 25 → (0 < m ∨ 0 < n) → lowf m n 24 = m / Nat.gcd m n := by decide +kernel
theorem low_r : ∀ m, m < 25 → ∀ t, t < 25 → 0 < t → am_irem (nI m) (nI t) = nI (m % t) := by decide +kernel
theorem low_d : ∀ m, m < 25 → ∀ t, t < 25 → 0 < t → nI m / nI t = nI (m / t) := by decide +kernel
theorem Lc_low3 (h : am_H) {m n : Nat} (hm : m < 25) (hn : n < 25) (d : Nat) : ∀ t, t < 25 → f_Lc_inLowestTerms_3 d h (nI m) (nI n) (nI t) = some (.inr (some (.int (nI (lowf m n t)))), h)
  | 0, _ => by
    rw [e_Lc_inLowestTerms_3, if_pos (by decide)]
    rfl
  | t + 1, ht => by
    rw [e_Lc_inLowestTerms_3, lowf]
    by_cases e : t = 0
    · rw [if_pos e, if_pos (by rw [n_1, n_le _ _ (by omega) (by omega)]; omega)]
    · have e0 : ¬ nI (t + 1) = 0 := fun q => by
        rw [n_0, nI_e32 (by omega) (by omega)] at q
        omega
      rw [if_neg e, if_neg (by rw [n_1, n_le _ _ (by omega) (by omega)]; omega), if_neg e0, if_neg e0, if_neg e0, low_r m hm _ ht (by omega), low_r n hn _ ht (by omega), low_d m hm _ ht (by omega), nI_m1 t, Lc_low3 h hm hn d t (by omega)]
      have z : ∀ k, k < 25 → ((nI k = 0) ↔ k = 0) := fun k hk => by rw [n_0, nI_e32 (by omega) (by omega)]
      have l1 : m % (t + 1) < 25 := by have := Nat.mod_le m (t + 1); omega
      have l2 : n % (t + 1) < 25 := by have := Nat.mod_le n (t + 1); omega
      by_cases c1 : m % (t + 1) = 0
      · rw [if_pos ((z _ l1).mpr c1)]
        by_cases c2 : n % (t + 1) = 0
        · rw [if_pos ((z _ l2).mpr c2), if_pos ⟨c1, c2⟩]
        · rw [if_neg (fun q => c2 ((z _ l2).mp q)), if_neg (fun q => c2 q.2)]
      · rw [if_neg (fun q => c1 ((z _ l1).mp q)), if_neg (fun q => c1 q.1)]
theorem Lc_low (h : am_H) {m n : Nat} (hm : m < 25) (hn : n < 25) (hp : 0 < m ∨ 0 < n) (d : Nat) : f_Lc_inLowestTerms d h (nI m) (nI n) = some (.inr (some (.int (nI (m / Nat.gcd m n)))), h) := by
  rw [e_Lc_inLowestTerms, show (24 : Int32) = nI 24 from rfl, Lc_low3 h hm hn d 24 (by omega), low_g m hm n hn hp]
theorem Rf_div4 (h : am_H) (d : Nat) : ∀ n m, n < 25 → m < 25 → f_Rf_divisor_4 d h (nI m) (nI n) = some (.inr (some (.int (nI (Nat.gcd m n)))), h) := by
  intro n
  induction n using Nat.strongRecOn with
  | ind n ih =>
    intro m hn hm
    rw [e_Rf_divisor_4]
    by_cases e : n = 0
    · subst e
      rw [if_pos (by decide), Nat.gcd_zero_right]
    · have e0 : ¬ nI n = 0 := fun q => by
        rw [n_0, nI_e32 (by omega) (by omega)] at q
        omega
      have l := Nat.mod_lt m (show n > 0 by omega)
      rw [if_neg e0, if_neg e0, low_r m hm n hn (by omega), ih _ l _ (by omega) hn, Nat.gcd_comm m n, Nat.gcd_rec n m, Nat.gcd_comm]
/-- the numbers of common names and of all -/
noncomputable def q_lc (O : o_T) (B : Nat → Prop) (a b : Nat) : Nat := ct (fun c => q_nb O B a c ∧ q_nb O B b c) (o_N O)
noncomputable def q_la (O : o_T) (B : Nat → Prop) (a b : Nat) : Nat := ct (fun c => q_nb O B a c ∨ q_nb O B b c) (o_N O)
noncomputable def q_li (O : o_T) (B : Nat → Prop) (a b : Nat) : Nat → Value
  | 0 => .int (nI (q_lc O B a b / Nat.gcd (q_lc O B a b) (q_la O B a b)))
  | _ => .int (nI (q_la O B a b / Nat.gcd (q_lc O B a b) (q_la O B a b)))
theorem q_l24 {O : o_T} (B : Nat → Prop) (a b : Nat) (ok : o_ok O) : q_lc O B a b < 25 ∧ q_la O B a b < 25 := by
  have := ok.1
  have h1 := ct_le (fun c => q_nb O B a c ∧ q_nb O B b c) (o_N O)
  have h2 := ct_le (fun c => q_nb O B a c ∨ q_nb O B b c) (o_N O)
  unfold q_lc q_la
  omega
theorem q_l1 {O : o_T} (B : Nat → Prop) {a b : Nat} (ha : a < o_N O) : 0 < q_la O B a b := ct_pos ha (Or.inl (Or.inl (l_A0 O B _)))
theorem Lc_over {h : am_H} {o a : Nat} {O : o_T} {B : Nat → Prop} (C : CB h o O B) (L : LcL h o O B) (ha : a < o_N O) (d : Nat) : f_Lc_namesOver (d + 2) h 1 42 (nI (o_np O a)) = some (.inr (some (.int (wI (fun c => c < o_N O ∧ q_nb O B a c)))), h) := by
  have H := C.1
  have Hw := Lc_w H
  have Ho := C.2.2.2.1
  have H3 := OnR_at Ho
  have ok := Ho.2.1
  have hN := ok.1
  have hP := ok.2.2.2.1
  have pa := (o_np_s ok ha).1
  have key : ∀ n, n ≤ o_N O → f_Lc_namesOver_5 (d + 2) h 1 42 (nI (o_np O a)) (wI (fun c => c < n ∧ q_nb O B a c)) (nI n) = some (.inr (some (.int (wI (fun c => c < o_N O ∧ q_nb O B a c)))), h) := by
    refine dn ?_ ?_
    · rw [e_Lc_namesOver_5]
      simp (disch := first | assumption | omega) only [hc_ck, hc_gi, hc_gl, hc_gp, ap_I, ap_L, kd_I, kd_L, kd_P, kd_rI, ar_I, ar_L, ar_P, al_I, al_L, al_P, hop_s, cond_true, cond_false, pc_I_I, pc_L_L, pc_P_P, pc_I_L, pc_I_P, pc_L_I, pc_L_P, pc_P_I, pc_P_L, pc_sS_I, pc_sS_L, pc_sS_P, I_rI, L_rI, P_rI, S_rI, cv_r, ci_r, cl_r, o1_b, o1_0, o1_1, lc_e, nI_1, nI_add, if_true, if_false, Nat.reduceEqDiff, Nat.left_eq_add, Nat.add_eq_left, false_and, and_false, true_and, and_true, and_self, eq_self, Lc_k1, C.2.1, On_k, On_p0, On_k1, OnR_N Ho, n_le, Nat.le_refl]
    · intro n hn ih
      have hn3 : ¬ o_N O ≤ n := by omega
      have pn := (o_np_s ok hn).1
      obtain ⟨b, eb, hb⟩ := Sa_isBelow Hw (show o_np O a < 60 by omega) (show o_np O n < 60 by omega) (LcL_x L pa) d
      rw [e_Lc_namesOver_5]
      simp (disch := first | assumption | omega) only [hc_ck, hc_gi, hc_gl, hc_gp, ap_I, ap_L, kd_I, kd_L, kd_P, kd_rI, ar_I, ar_L, ar_P, al_I, al_L, al_P, hop_s, cond_true, cond_false, pc_I_I, pc_L_L, pc_P_P, pc_I_L, pc_I_P, pc_L_I, pc_L_P, pc_P_I, pc_P_L, pc_sS_I, pc_sS_L, pc_sS_P, I_rI, L_rI, P_rI, S_rI, cv_r, ci_r, cl_r, o1_b, o1_0, o1_1, lc_e, nI_1, nI_add, if_true, if_false, Nat.reduceEqDiff, Nat.left_eq_add, Nat.add_eq_left, false_and, and_false, true_and, and_true, and_self, eq_self, Lc_k1, C.2.1, On_k, On_p0, On_k1, OnR_N Ho, n_le, hn3, On_p2, On_r5, C.2.2.2.2.1 n hn, Sa_k, eb, bo_0]
      cases b with
      | true =>
        simp only [Bool.true_eq_false, if_false]
        rw [wc_y (by omega) (show q_nb O B a n from hb.mp rfl)]
        exact ih
      | false =>
        simp only [if_true]
        rw [wc_n (fun e : q_nb O B a n => absurd (hb.mpr e) (by decide))]
        exact ih
  rw [e_Lc_namesOver, ← key 0 (Nat.zero_le _), wc_0]
  rfl
theorem q_lcn {O : o_T} {B : Nat → Prop} (a b : Nat) (ok : o_ok O) : nbi (wI (fun c => c < o_N O ∧ q_nb O B a c) &&& wI (fun c => c < o_N O ∧ q_nb O B b c)) = q_lc O B a b := by
  have hN := ok.1
  have e : nbi (wI (fun c => c < o_N O ∧ q_nb O B a c) &&& wI (fun c => c < o_N O ∧ q_nb O B b c)) = ct (fun c => c < o_N O ∧ q_nb O B a c ∧ q_nb O B b c) 32 := ct_c (fun k hk => by
    rw [yi_and, Bool.and_eq_true, wI_x, wI_x]
    exact ⟨fun q => ⟨q.1.2.1, q.1.2.2, q.2.2.2⟩, fun q => ⟨⟨hk, q.1, q.2.1⟩, hk, q.1, q.2.2⟩⟩)
  rw [e, ct_t (m := o_N O) (by omega) (fun k h1 _ q => by have := q.1; omega)]
  exact ct_c (fun k hk => ⟨fun q => q.2, fun q => ⟨hk, q⟩⟩)
theorem q_lan {O : o_T} {B : Nat → Prop} (a b : Nat) (ok : o_ok O) : nbi (wI (fun c => c < o_N O ∧ q_nb O B a c) ||| wI (fun c => c < o_N O ∧ q_nb O B b c)) = q_la O B a b := by
  have hN := ok.1
  have e : nbi (wI (fun c => c < o_N O ∧ q_nb O B a c) ||| wI (fun c => c < o_N O ∧ q_nb O B b c)) = ct (fun c => c < o_N O ∧ (q_nb O B a c ∨ q_nb O B b c)) 32 := ct_c (fun k hk => by
    rw [yi_or, Bool.or_eq_true, wI_x, wI_x]
    exact ⟨fun q => q.elim (fun q => ⟨q.2.1, Or.inl q.2.2⟩) (fun q => ⟨q.2.1, Or.inr q.2.2⟩), fun q => q.2.elim (fun p => Or.inl ⟨hk, q.1, p⟩) (fun p => Or.inr ⟨hk, q.1, p⟩)⟩)
  rw [e, ct_t (m := o_N O) (by omega) (fun k h1 _ q => by have := q.1; omega)]
  exact ct_c (fun k hk => ⟨fun q => q.2, fun q => ⟨hk, q⟩⟩)
theorem iv2 {w : Nat} (h : w < 1 + 1) : w = 0 ∨ w = 1 := by omega
theorem Lc_q_likeness {h : am_H} {o : Nat} {O : o_T} {B : Nat → Prop} (C : CB h o O B) (i j k : Int32) (d : Nat) : QQ (f_Lc_likeness (d + 5) h 1 i j k) h o O B (g1 (o_N O) i 0 fun a => g1 (o_N O) j 0 fun b => g1 2 k 1 fun w => .inr (q_li O B a b w)) := by
  have H := C.1
  have ok := C.2.2.2.1.2.1
  have hN := ok.1
  rw [e_Lc_likeness]
  rcases Lc_nN C i (d + 3) with ⟨⟨a, ha, rfl⟩, e1⟩ | ⟨v, e1⟩
  · rw [g1_y (by omega) ha]
    rcases Lc_nN C j (d + 3) with ⟨⟨b, hb, rfl⟩, e2⟩ | ⟨v, e2⟩
    · rw [g1_y (by omega) hb]
      rcases Lc_nW H k (n := 1) (by omega) (d + 3) with ⟨⟨w, hw, rfl⟩, e3⟩ | ⟨v, e3⟩
      · rw [g1_y (by omega) hw]
        rw [← n_1] at e3
        obtain ⟨g, eg, qg, Cg, Lg⟩ := Lc_st C d
        have Hg := Cg.1
        have H3 := OnR_at Cg.2.2.2.1
        have ca := Cg.2.2.2.2.1 a ha
        have cb := Cg.2.2.2.2.1 b hb
        have l := q_l24 B a b ok
        have p := q_l1 (b := b) B ha
        refine ⟨g, qg, Cg, ?_⟩
        simp (disch := first | assumption | omega) only [hc_ck, hc_gi, hc_gl, hc_gp, ap_I, ap_L, kd_I, kd_L, kd_P, kd_rI, ar_I, ar_L, ar_P, al_I, al_L, al_P, hop_s, cond_true, cond_false, pc_I_I, pc_L_L, pc_P_P, pc_I_L, pc_I_P, pc_L_I, pc_L_P, pc_P_I, pc_P_L, pc_sS_I, pc_sS_L, pc_sS_P, I_rI, L_rI, P_rI, S_rI, cv_r, ci_r, cl_r, o1_b, o1_0, o1_1, lc_e, nI_1, nI_add, if_true, if_false, Nat.reduceEqDiff, Nat.left_eq_add, Nat.add_eq_left, false_and, and_false, true_and, and_true, and_self, eq_self, Lc_k1, e1, e2, e3, eg, Lc_p1_11, Cg.2.1, On_k, On_p2, On_r5, ca, cb, Lc_over Cg Lg ha (d + 2), Lc_over Cg Lg hb (d + 2), In_bc, q_lcn a b ok, q_lan a b ok]
        rcases iv2 hw with rfl | rfl
        · rw [if_pos (by decide), Lc_low g l.1 l.2 (Or.inr p)]
          rfl
        · rw [if_neg (by decide), Lc_low g l.2 l.1 (Or.inl p), Nat.gcd_comm]
          rfl
      · rw [g1_n v]
        rw [← n_1] at e3
        simp (disch := first | assumption | omega) only [hc_ck, hc_gi, hc_gl, hc_gp, ap_I, ap_L, kd_I, kd_L, kd_P, kd_rI, ar_I, ar_L, ar_P, al_I, al_L, al_P, hop_s, cond_true, cond_false, pc_I_I, pc_L_L, pc_P_P, pc_I_L, pc_I_P, pc_L_I, pc_L_P, pc_P_I, pc_P_L, pc_sS_I, pc_sS_L, pc_sS_P, I_rI, L_rI, P_rI, S_rI, cv_r, ci_r, cl_r, o1_b, o1_0, o1_1, lc_e, nI_1, nI_add, if_true, if_false, Nat.reduceEqDiff, Nat.left_eq_add, Nat.add_eq_left, false_and, and_false, true_and, and_true, and_self, eq_self, Lc_k1, e1, e2, e3, cv_e]
        exact QQ_n C
    · rw [g1_n v]
      simp (disch := first | assumption | omega) only [hc_ck, hc_gi, hc_gl, hc_gp, ap_I, ap_L, kd_I, kd_L, kd_P, kd_rI, ar_I, ar_L, ar_P, al_I, al_L, al_P, hop_s, cond_true, cond_false, pc_I_I, pc_L_L, pc_P_P, pc_I_L, pc_I_P, pc_L_I, pc_L_P, pc_P_I, pc_P_L, pc_sS_I, pc_sS_L, pc_sS_P, I_rI, L_rI, P_rI, S_rI, cv_r, ci_r, cl_r, o1_b, o1_0, o1_1, lc_e, nI_1, nI_add, if_true, if_false, Nat.reduceEqDiff, Nat.left_eq_add, Nat.add_eq_left, false_and, and_false, true_and, and_true, and_self, eq_self, Lc_k1, e1, e2, cv_e]
      exact QQ_n C
  · rw [g1_n v]
    simp (disch := first | assumption | omega) only [hc_ck, hc_gi, hc_gl, hc_gp, ap_I, ap_L, kd_I, kd_L, kd_P, kd_rI, ar_I, ar_L, ar_P, al_I, al_L, al_P, hop_s, cond_true, cond_false, pc_I_I, pc_L_L, pc_P_P, pc_I_L, pc_I_P, pc_L_I, pc_L_P, pc_P_I, pc_P_L, pc_sS_I, pc_sS_L, pc_sS_P, I_rI, L_rI, P_rI, S_rI, cv_r, ci_r, cl_r, o1_b, o1_0, o1_1, lc_e, nI_1, nI_add, if_true, if_false, Nat.reduceEqDiff, Nat.left_eq_add, Nat.add_eq_left, false_and, and_false, true_and, and_true, and_self, eq_self, Lc_k1, e1, cv_e]
    exact QQ_n C
theorem ct_y {p : Nat → Prop} {n : Nat} (h : p n) : ct p (n + 1) = ct p n + 1 := by rw [ct, if_pos h]
theorem ct_n {p : Nat → Prop} {n : Nat} (h : ¬ p n) : ct p (n + 1) = ct p n := by rw [ct, if_neg h]; rfl
theorem Rf_li73 {h : am_H} {f a b w : Nat} {O : o_T} {B : Nat → Prop} (C : RB h f O B) (L : RfL h f O B) (ha : a < o_N O) (hb : b < o_N O) (hw : w < 1 + 1) (d : Nat) : ∀ n, n ≤ o_N O → f_Rf_likeness_73 (d + 2) h f (nI a) (nI b) (nI w) (nI (ct (fun c => q_nb O B a c ∧ q_nb O B b c) n)) (nI (ct (fun c => q_nb O B a c ∨ q_nb O B b c) n)) (nI n) = some (.inr (some (q_li O B a b w)), h) := by
  have H := C.1
  have R := C.2.1
  have ok := R.2.1
  have hN := ok.1
  have hP := ok.2.2.2.1
  have l := q_l24 B a b ok
  have p := q_l1 (b := b) B ha
  unfold q_lc q_la at *
  refine dn ?_ ?_
  · have gp : 0 < Nat.gcd (ct (fun c => q_nb O B a c ∧ q_nb O B b c) (o_N O)) (ct (fun c => q_nb O B a c ∨ q_nb O B b c) (o_N O)) := Nat.gcd_pos_of_pos_right _ p
    have gl : Nat.gcd (ct (fun c => q_nb O B a c ∧ q_nb O B b c) (o_N O)) (ct (fun c => q_nb O B a c ∨ q_nb O B b c) (o_N O)) < 25 := Nat.lt_of_le_of_lt (Nat.gcd_le_right _ p) l.2
    have e0 : ¬ nI (Nat.gcd (ct (fun c => q_nb O B a c ∧ q_nb O B b c) (o_N O)) (ct (fun c => q_nb O B a c ∨ q_nb O B b c) (o_N O))) = 0 := fun q => by
      rw [n_0, nI_e32 (by omega) (by omega)] at q
      omega
    rw [e_Rf_likeness_73]
    simp (disch := first | assumption | omega) only [hc_ck, hc_gi, hc_gl, hc_gp, ap_I, ap_L, kd_I, kd_L, kd_P, kd_rI, ar_I, ar_L, ar_P, al_I, al_L, al_P, hop_s, cond_true, cond_false, pc_I_I, pc_L_L, pc_P_P, pc_I_L, pc_I_P, pc_L_I, pc_L_P, pc_P_I, pc_P_L, pc_sS_I, pc_sS_L, pc_sS_P, I_rI, L_rI, P_rI, S_rI, cv_r, ci_r, cl_r, o1_b, o1_0, o1_1, lc_e, nI_1, nI_add, if_true, if_false, Nat.reduceEqDiff, Nat.left_eq_add, Nat.add_eq_left, false_and, and_false, true_and, and_true, and_self, eq_self, Rf_k, Rf_p9, Rw_ar0, Rw_N, n_le, Nat.le_refl, e_Rf_divisor, Rf_div4 h (d + 1) _ _ l.2 l.1, e0, low_d _ l.1 _ gl gp, low_d _ l.2 _ gl gp]
    rcases iv2 hw with rfl | rfl
    · rw [if_pos (by decide)]
      rfl
    · rw [if_neg (by decide)]
      rfl
  · intro n hn ih
    have hn3 : ¬ o_N O ≤ n := by omega
    have pa := (o_np_s ok ha).1
    have pb := (o_np_s ok hb).1
    have pn := (o_np_s ok hn).1
    obtain ⟨x, ex, hx⟩ := Rf_isBelow H (show o_np O a < 480 by omega) (show o_np O n < 64 by omega) (RfL_x L pa).1 d
    obtain ⟨y, ey, hy⟩ := Rf_isBelow H (show o_np O b < 480 by omega) (show o_np O n < 64 by omega) (RfL_x L pb).1 d
    have hx2 : x = true ↔ q_nb O B a n := hx
    have hy2 : y = true ↔ q_nb O B b n := hy
    rw [e_Rf_likeness_73]
    simp (disch := first | assumption | omega) only [hc_ck, hc_gi, hc_gl, hc_gp, ap_I, ap_L, kd_I, kd_L, kd_P, kd_rI, ar_I, ar_L, ar_P, al_I, al_L, al_P, hop_s, cond_true, cond_false, pc_I_I, pc_L_L, pc_P_P, pc_I_L, pc_I_P, pc_L_I, pc_L_P, pc_P_I, pc_P_L, pc_sS_I, pc_sS_L, pc_sS_P, I_rI, L_rI, P_rI, S_rI, cv_r, ci_r, cl_r, o1_b, o1_0, o1_1, lc_e, nI_1, nI_add, if_true, if_false, Nat.reduceEqDiff, Nat.left_eq_add, Nat.add_eq_left, false_and, and_false, true_and, and_true, and_self, eq_self, Rf_k, Rf_p9, Rw_ar0, Rw_N, n_le, hn3, Rf_namePart H R ha, Rf_namePart H R hb, Rf_namePart H R hn, ex, ey, bo_0]
    clear hx hy ex ey
    cases x <;> cases y <;> simp only [Bool.true_eq_false, if_true, if_false, bo_t, bo_f]
    · have n1 : ¬ q_nb O B a n := fun q => absurd (hx2.mpr q) (by decide)
      have n2 : ¬ q_nb O B b n := fun q => absurd (hy2.mpr q) (by decide)
      rw [ct_n (fun q => n1 q.1), ct_n (fun q => q.elim n1 n2)] at ih
      rw [e_Rf_likeness_135, if_pos rfl, if_pos rfl, Int32.add_zero, Int32.add_zero, nI_1]
      exact ih
    · have n1 : ¬ q_nb O B a n := fun q => absurd (hx2.mpr q) (by decide)
      have n2 : q_nb O B b n := hy2.mp rfl
      rw [ct_n (fun q => n1 q.1), ct_y (Or.inr n2)] at ih
      rw [e_Rf_likeness_135, if_pos rfl, if_neg (by decide), Int32.add_zero, nI_1, nI_1]
      exact ih
    · have n1 : q_nb O B a n := hx2.mp rfl
      have n2 : ¬ q_nb O B b n := fun q => absurd (hy2.mpr q) (by decide)
      rw [ct_n (fun q => n2 q.2), ct_y (Or.inl n1)] at ih
      rw [e_Rf_likeness_135, if_neg (by decide), Int32.add_zero, nI_1, nI_1]
      exact ih
    · have n1 : q_nb O B a n := hx2.mp rfl
      have n2 : q_nb O B b n := hy2.mp rfl
      rw [ct_y ⟨n1, n2⟩, ct_y (Or.inl n1)] at ih
      rw [e_Rf_likeness_135, if_neg (by decide), nI_1, nI_1, nI_1]
      exact ih
theorem Rf_q_likeness {h : am_H} {f : Nat} {O : o_T} {B : Nat → Prop} (C : RB h f O B) (i j k : Int32) (d : Nat) : RR (f_Rf_likeness (d + 4) h f i j k) h f O B cq2 (.int 0) (g1 (o_N O) i 0 fun a => g1 (o_N O) j 0 fun b => g1 2 k 1 fun w => .inr (q_li O B a b w)) := by
  have H := C.1
  have hN := C.2.1.2.1.1
  obtain ⟨g, e0, Cg, Wg, z0⟩ := RB_b C
  have Hg := Cg.1
  have b1 := Rf_bad1 Hg z0 (c := 1) (by decide) (E := 0) (by omega) (d + 3)
  have b2 := Rf_bad1 Hg z0 (c := 2) (by decide) (E := 1) (by omega) (d + 3)
  rw [← n_0] at b1
  rw [← n_1] at b2
  have ii := vi_inc (n := 1) (by omega) g k (d + 3)
  rw [← n_1] at ii
  rw [e_Rf_likeness]
  simp (disch := first | assumption | omega) only [hc_ck, hc_gi, hc_gl, hc_gp, ap_I, ap_L, kd_I, kd_L, kd_P, kd_rI, ar_I, ar_L, ar_P, al_I, al_L, al_P, hop_s, cond_true, cond_false, pc_I_I, pc_L_L, pc_P_P, pc_I_L, pc_I_P, pc_L_I, pc_L_P, pc_P_I, pc_P_L, pc_sS_I, pc_sS_L, pc_sS_P, I_rI, L_rI, P_rI, S_rI, cv_r, ci_r, cl_r, o1_b, o1_0, o1_1, lc_e, nI_1, nI_add, if_true, if_false, Nat.reduceEqDiff, Nat.left_eq_add, Nat.add_eq_left, false_and, and_false, true_and, and_true, and_self, eq_self, Rf_k, e0, Rf_isN Cg]
  by_cases v1 : vi (o_N O) i
  · obtain ⟨a, ha, rfl⟩ := v1
    rw [g1_y (by omega) ha]
    by_cases v2 : vi (o_N O) j
    · obtain ⟨b, hb, rfl⟩ := v2
      rw [g1_y (by omega) hb]
      simp (disch := first | assumption | omega) only [hc_ck, hc_gi, hc_gl, hc_gp, ap_I, ap_L, kd_I, kd_L, kd_P, kd_rI, ar_I, ar_L, ar_P, al_I, al_L, al_P, hop_s, cond_true, cond_false, pc_I_I, pc_L_L, pc_P_P, pc_I_L, pc_I_P, pc_L_I, pc_L_P, pc_P_I, pc_P_L, pc_sS_I, pc_sS_L, pc_sS_P, I_rI, L_rI, P_rI, S_rI, cv_r, ci_r, cl_r, o1_b, o1_0, o1_1, lc_e, nI_1, nI_add, if_true, if_false, Nat.reduceEqDiff, Nat.left_eq_add, Nat.add_eq_left, false_and, and_false, true_and, and_true, and_self, eq_self, bo_0, pd_t (show vi (o_N O) (nI a) from ⟨a, ha, rfl⟩), pd_t (show vi (o_N O) (nI b) from ⟨b, hb, rfl⟩), Bool.true_eq_false]
      rw [e_Rf_likeness_27]
      simp (disch := first | assumption | omega) only [hc_ck, hc_gi, hc_gl, hc_gp, ap_I, ap_L, kd_I, kd_L, kd_P, kd_rI, ar_I, ar_L, ar_P, al_I, al_L, al_P, hop_s, cond_true, cond_false, pc_I_I, pc_L_L, pc_P_P, pc_I_L, pc_I_P, pc_L_I, pc_L_P, pc_P_I, pc_P_L, pc_sS_I, pc_sS_L, pc_sS_P, I_rI, L_rI, P_rI, S_rI, cv_r, ci_r, cl_r, o1_b, o1_0, o1_1, lc_e, nI_1, nI_add, if_true, if_false, Nat.reduceEqDiff, Nat.left_eq_add, Nat.add_eq_left, false_and, and_false, true_and, and_true, and_self, eq_self, Rf_k, Rf_bad0 Hg z0, ii, Nat.reduceAdd]
      by_cases v3 : vi 2 k
      · obtain ⟨w, hw, rfl⟩ := v3
        rw [g1_y (by omega) hw]
        obtain ⟨u, eu, Wu, Cu, Lu, u0⟩ := Rf_cl Cg d
        refine ⟨u, fW_t Wg Wu, Cu, u0.trans z0, ?_⟩
        simp (disch := first | assumption | omega) only [hc_ck, hc_gi, hc_gl, hc_gp, ap_I, ap_L, kd_I, kd_L, kd_P, kd_rI, ar_I, ar_L, ar_P, al_I, al_L, al_P, hop_s, cond_true, cond_false, pc_I_I, pc_L_L, pc_P_P, pc_I_L, pc_I_P, pc_L_I, pc_L_P, pc_P_I, pc_P_L, pc_sS_I, pc_sS_L, pc_sS_P, I_rI, L_rI, P_rI, S_rI, cv_r, ci_r, cl_r, o1_b, o1_0, o1_1, lc_e, nI_1, nI_add, if_true, if_false, Nat.reduceEqDiff, Nat.left_eq_add, Nat.add_eq_left, false_and, and_false, true_and, and_true, and_self, eq_self, Rf_k, bo_0, pd_t (show vi 2 (nI w) from ⟨w, hw, rfl⟩), Bool.true_eq_false, Rf_bad0 Hg z0, eu]
        exact Rf_li73 Cu Lu ha hb hw (d + 2) 0 (Nat.zero_le _)
      · rw [g1_n v3]
        refine ⟨g, Wg, Cg, z0, ?_⟩
        simp (disch := first | assumption | omega) only [hc_ck, hc_gi, hc_gl, hc_gp, ap_I, ap_L, kd_I, kd_L, kd_P, kd_rI, ar_I, ar_L, ar_P, al_I, al_L, al_P, hop_s, cond_true, cond_false, pc_I_I, pc_L_L, pc_P_P, pc_I_L, pc_I_P, pc_L_I, pc_L_P, pc_P_I, pc_P_L, pc_sS_I, pc_sS_L, pc_sS_P, I_rI, L_rI, P_rI, S_rI, cv_r, ci_r, cl_r, o1_b, o1_0, o1_1, lc_e, nI_1, nI_add, if_true, if_false, Nat.reduceEqDiff, Nat.left_eq_add, Nat.add_eq_left, false_and, and_false, true_and, and_true, and_self, eq_self, Rf_k, bo_0, pd_f v3, b2, show ¬ (1 : Int32) = 0 by decide]
        rfl
    · rw [g1_n v2]
      refine ⟨g, Wg, Cg, z0, ?_⟩
      simp (disch := first | assumption | omega) only [hc_ck, hc_gi, hc_gl, hc_gp, ap_I, ap_L, kd_I, kd_L, kd_P, kd_rI, ar_I, ar_L, ar_P, al_I, al_L, al_P, hop_s, cond_true, cond_false, pc_I_I, pc_L_L, pc_P_P, pc_I_L, pc_I_P, pc_L_I, pc_L_P, pc_P_I, pc_P_L, pc_sS_I, pc_sS_L, pc_sS_P, I_rI, L_rI, P_rI, S_rI, cv_r, ci_r, cl_r, o1_b, o1_0, o1_1, lc_e, nI_1, nI_add, if_true, if_false, Nat.reduceEqDiff, Nat.left_eq_add, Nat.add_eq_left, false_and, and_false, true_and, and_true, and_self, eq_self, bo_0, pd_t (show vi (o_N O) (nI a) from ⟨a, ha, rfl⟩), pd_f v2, Bool.true_eq_false]
      rw [e_Rf_likeness_27]
      simp (disch := first | assumption | omega) only [hc_ck, hc_gi, hc_gl, hc_gp, ap_I, ap_L, kd_I, kd_L, kd_P, kd_rI, ar_I, ar_L, ar_P, al_I, al_L, al_P, hop_s, cond_true, cond_false, pc_I_I, pc_L_L, pc_P_P, pc_I_L, pc_I_P, pc_L_I, pc_L_P, pc_P_I, pc_P_L, pc_sS_I, pc_sS_L, pc_sS_P, I_rI, L_rI, P_rI, S_rI, cv_r, ci_r, cl_r, o1_b, o1_0, o1_1, lc_e, nI_1, nI_add, if_true, if_false, Nat.reduceEqDiff, Nat.left_eq_add, Nat.add_eq_left, false_and, and_false, true_and, and_true, and_self, eq_self, Rf_k, b1, show ¬ (1 : Int32) = 0 by decide]
      rfl
  · rw [g1_n v1]
    refine ⟨g, Wg, Cg, z0, ?_⟩
    simp (disch := first | assumption | omega) only [hc_ck, hc_gi, hc_gl, hc_gp, ap_I, ap_L, kd_I, kd_L, kd_P, kd_rI, ar_I, ar_L, ar_P, al_I, al_L, al_P, hop_s, cond_true, cond_false, pc_I_I, pc_L_L, pc_P_P, pc_I_L, pc_I_P, pc_L_I, pc_L_P, pc_P_I, pc_P_L, pc_sS_I, pc_sS_L, pc_sS_P, I_rI, L_rI, P_rI, S_rI, cv_r, ci_r, cl_r, o1_b, o1_0, o1_1, lc_e, nI_1, nI_add, if_true, if_false, Nat.reduceEqDiff, Nat.left_eq_add, Nat.add_eq_left, false_and, and_false, true_and, and_true, and_self, eq_self, bo_0, pd_f v1]
    rw [e_Rf_likeness_27]
    simp (disch := first | assumption | omega) only [hc_ck, hc_gi, hc_gl, hc_gp, ap_I, ap_L, kd_I, kd_L, kd_P, kd_rI, ar_I, ar_L, ar_P, al_I, al_L, al_P, hop_s, cond_true, cond_false, pc_I_I, pc_L_L, pc_P_P, pc_I_L, pc_I_P, pc_L_I, pc_L_P, pc_P_I, pc_P_L, pc_sS_I, pc_sS_L, pc_sS_P, I_rI, L_rI, P_rI, S_rI, cv_r, ci_r, cl_r, o1_b, o1_0, o1_1, lc_e, nI_1, nI_add, if_true, if_false, Nat.reduceEqDiff, Nat.left_eq_add, Nat.add_eq_left, false_and, and_false, true_and, and_true, and_self, eq_self, Rf_k, b1, show ¬ (1 : Int32) = 0 by decide]
    rfl
