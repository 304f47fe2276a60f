/-! ===== the class's hierarchy ===== -/
noncomputable def o_np (O : o_T) (n : Nat) : Nat := lm (fun p => p < o_P O ∧ o_pk O p = 0 ∧ o_pa O p = n)
theorem o_np_s {O : o_T} (ok : o_ok O) {n : Nat} (hn : n < o_N O) : o_np O n < o_P O ∧ o_pk O (o_np O n) = 0 ∧ o_pa O (o_np O n) = n := by
  obtain ⟨-, -, -, -, -, -, -, -, -, hN, -⟩ := ok
  exact (lm_s (hN n hn)).1
theorem o_np_e {O : o_T} (ok : o_ok O) {p : Nat} (hp : p < o_P O) (hk : o_pk O p = 0) : o_np O (o_pa O p) = p := by
  have hd := ok.2.2.2.2.2.2.2.2.2.2
  refine lm_e ⟨hp, hk, rfl⟩ ?_
  rintro j hj ⟨h1, h2, h3⟩
  have := hd j p h1 hp h2 hk h3
  omega
def q_vo (O : o_T) (B : Nat → Prop) (a : Nat) : Prop := l_A O B (o_np O a) 1
def q_tp (O : o_T) (B : Nat → Prop) (a : Nat) : Prop := l_be O B 0 (o_np O a)
def q_nb (O : o_T) (B : Nat → Prop) (a b : Nat) : Prop := l_be O B (o_np O a) (o_np O b)
theorem q_r (O : o_T) (B : Nat → Prop) (a : Nat) : q_nb O B a a := l_ber O B _
theorem q_t (O : o_T) (B : Nat → Prop) (a b c : Nat) (h1 : q_nb O B a b) (h2 : q_nb O B b c) : q_nb O B a c := l_bet h1 h2
def q_nv (O : o_T) (B : Nat → Prop) (a : Nat) : Prop := h_nv (o_N O) (q_vo O B) (q_tp O B) a
def q_re (O : o_T) (B : Nat → Prop) (a : Nat) : Prop := h_re (o_N O) (q_vo O B) (q_tp O B) (q_nb O B) a
noncomputable def q_no (O : o_T) (B : Nat → Prop) (a : Nat) : Nat := h_no (o_N O) (q_vo O B) (q_tp O B) (q_nb O B) a
noncomputable def q_rp (O : o_T) (B : Nat → Prop) (n : Nat) : Nat := h_rp (o_N O) (q_vo O B) (q_tp O B) (q_nb O B) n
noncomputable def q_M (O : o_T) (B : Nat → Prop) : Nat := h_M (o_N O) (q_vo O B) (q_tp O B) (q_nb O B)
noncomputable def q_ct (O : o_T) (B : Nat → Prop) (k : Nat) : Nat := ct (h_re (o_N O) (q_vo O B) (q_tp O B) (q_nb O B)) k
def q_ov (O : o_T) (B : Nat → Prop) (n m : Nat) : Prop := h_ov (o_N O) (q_vo O B) (q_tp O B) (q_nb O B) n m
def q_pa (O : o_T) (B : Nat → Prop) (n m : Nat) : Prop := h_pa (o_N O) (q_vo O B) (q_tp O B) (q_nb O B) n m
/-- the node of a name, as it is told -/
noncomputable def q_nc (O : o_T) (B : Nat → Prop) (a : Nat) : Int32 := @ite Int32 (q_vo O B a) (Classical.propDecidable _) (-1) (@ite Int32 (q_tp O B a) (Classical.propDecidable _) (-2) (nI (q_no O B a)))
theorem q_nc1 {O : o_T} {B : Nat → Prop} {a : Nat} (h : q_vo O B a) : q_nc O B a = -1 := if_pos h
theorem q_nc2 {O : o_T} {B : Nat → Prop} {a : Nat} (h : ¬ q_vo O B a) (h2 : q_tp O B a) : q_nc O B a = -2 := (if_neg h).trans (if_pos h2)
theorem q_nc3 {O : o_T} {B : Nat → Prop} {a : Nat} (h : q_nv O B a) : q_nc O B a = nI (q_no O B a) := (if_neg h.2.1).trans (if_neg h.2.2)
theorem q_Mle (O : o_T) (B : Nat → Prop) : q_M O B ≤ o_N O := ct_le _ _
theorem q_ctle (O : o_T) (B : Nat → Prop) (k : Nat) : q_ct O B k ≤ k := ct_le _ _
theorem q_nolt {O : o_T} {B : Nat → Prop} {a k : Nat} (h : q_nv O B a) (hk : a < k) : q_no O B a < q_ct O B k := h_no_lt (q_r O B) (q_t O B) h hk
theorem q_rps {O : o_T} {B : Nat → Prop} {n k : Nat} (h : n < q_ct O B k) : q_re O B (q_rp O B n) ∧ q_ct O B (q_rp O B n) = n ∧ q_rp O B n < k := h_rp_s h
def HiAt (h : am_H) (y : Nat) : Prop := am_kd h y 0 = true ∧ am_P h y 2 = some (y + 1) ∧ am_P h y 3 = some (y + 2) ∧ am_P h y 4 = some (y + 3) ∧ am_P h y 5 = some (y + 4) ∧ am_P h y 6 = some (y + 5) ∧ am_P h y 7 = some (y + 6) ∧ ∀ k, 1 ≤ k → k < 7 → (am_S h)[y + k]? = some (9, 24)
theorem Hi_k {h : am_H} {y : Nat} (H : HiAt h y) : am_kd h y 0 = true := H.1
theorem Hi_p2 {h : am_H} {y : Nat} (H : HiAt h y) : am_P h y 2 = some (y + 1) := H.2.1
theorem Hi_p3 {h : am_H} {y : Nat} (H : HiAt h y) : am_P h y 3 = some (y + 2) := H.2.2.1
theorem Hi_p4 {h : am_H} {y : Nat} (H : HiAt h y) : am_P h y 4 = some (y + 3) := H.2.2.2.1
theorem Hi_p5 {h : am_H} {y : Nat} (H : HiAt h y) : am_P h y 5 = some (y + 4) := H.2.2.2.2.1
theorem Hi_p6 {h : am_H} {y : Nat} (H : HiAt h y) : am_P h y 6 = some (y + 5) := H.2.2.2.2.2.1
theorem Hi_p7 {h : am_H} {y : Nat} (H : HiAt h y) : am_P h y 7 = some (y + 6) := H.2.2.2.2.2.2.1
theorem Hi_r1 {h : am_H} {y : Nat} (H : HiAt h y) {k : Nat} (hk : k < 24) (f : Nat → Option am_R) : am_ar h 9 (y + 1) (nI k) f = f k := ar_n (H.2.2.2.2.2.2.2 1 (by omega) (by omega)) hk (by omega) f
theorem Hi_r2 {h : am_H} {y : Nat} (H : HiAt h y) {k : Nat} (hk : k < 24) (f : Nat → Option am_R) : am_ar h 9 (y + 2) (nI k) f = f k := ar_n (H.2.2.2.2.2.2.2 2 (by omega) (by omega)) hk (by omega) f
theorem Hi_r3 {h : am_H} {y : Nat} (H : HiAt h y) {k : Nat} (hk : k < 24) (f : Nat → Option am_R) : am_ar h 9 (y + 3) (nI k) f = f k := ar_n (H.2.2.2.2.2.2.2 3 (by omega) (by omega)) hk (by omega) f
theorem Hi_r4 {h : am_H} {y : Nat} (H : HiAt h y) {k : Nat} (hk : k < 24) (f : Nat → Option am_R) : am_ar h 9 (y + 4) (nI k) f = f k := ar_n (H.2.2.2.2.2.2.2 4 (by omega) (by omega)) hk (by omega) f
theorem Hi_r5 {h : am_H} {y : Nat} (H : HiAt h y) {k : Nat} (hk : k < 24) (f : Nat → Option am_R) : am_ar h 9 (y + 5) (nI k) f = f k := ar_n (H.2.2.2.2.2.2.2 5 (by omega) (by omega)) hk (by omega) f
theorem Hi_r6 {h : am_H} {y : Nat} (H : HiAt h y) {k : Nat} (hk : k < 24) (f : Nat → Option am_R) : am_ar h 9 (y + 6) (nI k) f = f k := ar_n (H.2.2.2.2.2.2.2 6 (by omega) (by omega)) hk (by omega) f
/-- ints alone change, of these cells -/
def fJ (lo hi : Nat) (h h' : am_H) : Prop := am_L h' = am_L h ∧ am_P h' = am_P h ∧ am_S h' = am_S h ∧ am_G h' = am_G h ∧ am_T h' = am_T h ∧ ∀ b, b < lo ∨ hi ≤ b → am_I h' b = am_I h b
theorem fJ_r (lo hi : Nat) (h : am_H) : fJ lo hi h h := ⟨rfl, rfl, rfl, rfl, rfl, fun _ _ => rfl⟩
theorem fJ_t {lo hi : Nat} {a b c : am_H} (h1 : fJ lo hi a b) (h2 : fJ lo hi b c) : fJ lo hi a c := by
  obtain ⟨a1, a2, a3, a4, a5, a6⟩ := h1
  obtain ⟨b1, b2, b3, b4, b5, b6⟩ := h2
  exact ⟨b1.trans a1, b2.trans a2, b3.trans a3, b4.trans a4, b5.trans a5, fun x p => (b6 x p).trans (a6 x p)⟩
theorem fJ_m {lo hi lo' hi' : Nat} {a b : am_H} (h1 : fJ lo hi a b) (p : lo' ≤ lo) (q : hi ≤ hi') : fJ lo' hi' a b := ⟨h1.1, h1.2.1, h1.2.2.1, h1.2.2.2.1, h1.2.2.2.2.1, fun x r => h1.2.2.2.2.2 x (by omega)⟩
theorem fJ_w {lo hi : Nat} {h0 h : am_H} (q : fJ lo hi h0 h) {a : Nat} (h1 : lo ≤ a) (h2 : a < hi) (i : Nat) (v : Int32) : fJ lo hi h0 (am_sI h a i v) := by
  refine fJ_t q ⟨rfl, rfl, rfl, rfl, rfl, fun b p => ?_⟩
  funext j
  rw [pc_I_I, if_neg (by omega)]
theorem HiAt_of {h h' : am_H} {y : Nat} (H : HiAt h y) (hS : am_S h' = am_S h) (hP : am_P h' y = am_P h y) : HiAt h' y := by
  unfold HiAt am_kd at *
  rw [hS, hP]
  exact H
theorem fJ_hi {lo hi y : Nat} {h h' : am_H} (q : fJ lo hi h h') (H : HiAt h y) : HiAt h' y := HiAt_of H q.2.2.1 (by rw [q.2.1])
theorem fJ_sa {lo hi s : Nat} {h h' : am_H} (q : fJ lo hi h h') (H : SaAt h s) : SaAt h' s := SaAt_of H q.2.2.1 (fun j _ => by rw [q.2.1])
theorem fJ_on {lo hi o : Nat} {O : o_T} {h h' : am_H} (q : fJ lo hi h h') (hd : o + 17 ≤ lo ∨ hi ≤ o) (H : OnR h o O) : OnR h' o O := OnR_of H q.2.2.1 (fun j _ => by rw [q.2.1]) (fun j hj => q.2.2.2.2.2 _ (by omega))
/-- where the names' parts stand -/
def OnN (h : am_H) (o : Nat) (O : o_T) : Prop := ∀ n, n < o_N O → am_I h (o + 5) n = nI (o_np O n)
/-- what the class's search has come to -/
def SaL (h : am_H) (s : Nat) (O : o_T) (B : Nat → Prop) : Prop := ∀ x, x < o_P O → am_L h (s + 5) x = wL (l_A O B x)
theorem Hi_place {h : am_H} {y s : Nat} {O : o_T} {B : Nat → Prop} (ok : o_ok O) (H : HiAt h y) (Hs : SaAt h s) (L : SaL h s O B) {a : Nat} (ha : q_nv O B a) (h0 : am_I h y 0 = nI (q_ct O B a)) (h2 : ∀ n, n < q_ct O B a → am_I h (y + 2) n = nI (o_np O (q_rp O B n)))
    (h3 : ∀ n, n < q_ct O B a → am_I h (y + 3) n = wI (fun b => b < a ∧ q_nv O B b ∧ q_no O B b = n)) (d : Nat) :
    ∃ h', f_Hi_place (d + 2) h y s (nI a) (nI (o_np O a)) = some (.inr none, h') ∧ fJ y (y + 7) h h' ∧ am_I h' y 0 = nI (q_ct O B (a + 1)) ∧ am_I h' y 1 = am_I h y 1 ∧ am_I h' (y + 1) a = nI (q_no O B a) ∧ (∀ j, j ≠ a → am_I h' (y + 1) j = am_I h (y + 1) j) ∧ (∀ n, n < q_ct O B (a + 1) → am_I h' (y + 2) n = nI (o_np O (q_rp O B n))) ∧ (∀ n, n < q_ct O B (a + 1) → am_I h' (y + 3) n = wI (fun b => b < a + 1 ∧ q_nv O B b ∧ q_no O B b = n)) := by
  have okN := ok.1
  have okP := ok.2.2.2.1
  have haN : a < o_N O := ha.1
  have hcl := q_ctle O B a
  have hpa := (o_np_s ok haN).1
  have hmu : ∀ n, n < q_ct O B a → (h_mu (q_nb O B) a (q_rp O B n) ↔ q_no O B a = n) := fun n hn => h_no_rp (q_r O B) (q_t O B) ha hn
  -- behind the search
  have fin : ∀ n, n ≤ q_ct O B a → (n < q_ct O B a → q_no O B a = n) → (n = q_ct O B a → ∀ m, m < q_ct O B a → q_no O B a ≠ m) → ∃ h', f_Hi_place_48 (d + 2) h y (nI a) (nI (o_np O a)) (nI n) = some (.inr none, h') ∧ fJ y (y + 7) h h' ∧ am_I h' y 0 = nI (q_ct O B (a + 1)) ∧ am_I h' y 1 = am_I h y 1 ∧ am_I h' (y + 1) a = nI (q_no O B a) ∧ (∀ j, j ≠ a → am_I h' (y + 1) j = am_I h (y + 1) j) ∧ (∀ n, n < q_ct O B (a + 1) → am_I h' (y + 2) n = nI (o_np O (q_rp O B n))) ∧ (∀ n, n < q_ct O B (a + 1) → am_I h' (y + 3) n = wI (fun b => b < a + 1 ∧ q_nv O B b ∧ q_no O B b = n)) := by
    intro n hn hlt heq
    by_cases e : n = q_ct O B a
    · -- a new node
      have hre : q_re O B a := by
        refine ⟨ha, fun b hb hnv hm => ?_⟩
        have h1 := q_nolt (B := B) hnv hb
        exact heq e _ h1 ((h_no_mu (q_r O B) (q_t O B) ha hnv).mpr hm)
      have hct : q_ct O B (a + 1) = q_ct O B a + 1 := ct_s1 hre
      have hno : q_no O B a = q_ct O B a := by
        show ct _ (h_le _ _ _ _ a) = ct _ a
        rw [h_le_re (q_r O B) hre]
      have hrp : q_rp O B (q_ct O B a) = a := h_rp_of hre
      rw [e_Hi_place_48]
      simp (disch := first | assumption | omega) only [hc_ck, hc_gi, hc_gl, hc_gp, ap_I, ap_L, kd_I, kd_L, kd_P, kd_rI, ar_I, ar_L, ar_P, al_I, al_L, al_P, hop_s, cond_true, cond_false, pc_I_I, pc_L_L, pc_P_P, pc_I_L, pc_I_P, pc_L_I, pc_L_P, pc_P_I, pc_P_L, pc_sS_I, pc_sS_L, pc_sS_P, I_rI, L_rI, P_rI, S_rI, cv_r, ci_r, cl_r, o1_b, o1_0, o1_1, lc_e, nI_1, nI_add, if_true, if_false, Nat.reduceEqDiff, Nat.left_eq_add, Nat.add_eq_left, false_and, and_false, true_and, and_true, and_self, eq_self, Hi_k, h0, n_eq, e, Hi_p3, Hi_r2, Hi_p4, Hi_r3, Hi_p2, Hi_r1]
      refine ⟨_, rfl, fJ_w (fJ_w (fJ_w (fJ_w (fJ_w (fJ_r _ _ _) (by omega) (by omega) _ _) (by omega) (by omega) _ _) (by omega) (by omega) _ _) (by omega) (by omega) _ _) (by omega) (by omega) _ _, ?_, ?_, ?_, ?_, ?_, ?_⟩
      · simp only [hc_ck, hc_gi, hc_gl, hc_gp, ap_I, ap_L, kd_I, kd_L, kd_P, kd_rI, ar_I, ar_L, ar_P, al_I, al_L, al_P, hop_s, cond_true, cond_false, pc_I_I, pc_L_L, pc_P_P, pc_I_L, pc_I_P, pc_L_I, pc_L_P, pc_P_I, pc_P_L, pc_sS_I, pc_sS_L, pc_sS_P, I_rI, L_rI, P_rI, S_rI, cv_r, ci_r, cl_r, o1_b, o1_0, o1_1, lc_e, nI_1, nI_add, if_true, if_false, Nat.reduceEqDiff, Nat.left_eq_add, Nat.add_eq_left, false_and, and_false, true_and, and_true, and_self, eq_self, hct]
      · simp only [hc_ck, hc_gi, hc_gl, hc_gp, ap_I, ap_L, kd_I, kd_L, kd_P, kd_rI, ar_I, ar_L, ar_P, al_I, al_L, al_P, hop_s, cond_true, cond_false, pc_I_I, pc_L_L, pc_P_P, pc_I_L, pc_I_P, pc_L_I, pc_L_P, pc_P_I, pc_P_L, pc_sS_I, pc_sS_L, pc_sS_P, I_rI, L_rI, P_rI, S_rI, cv_r, ci_r, cl_r, o1_b, o1_0, o1_1, lc_e, nI_1, nI_add, if_true, if_false, Nat.reduceEqDiff, Nat.left_eq_add, Nat.add_eq_left, false_and, and_false, true_and, and_true, and_self, eq_self]
      · simp only [hc_ck, hc_gi, hc_gl, hc_gp, ap_I, ap_L, kd_I, kd_L, kd_P, kd_rI, ar_I, ar_L, ar_P, al_I, al_L, al_P, hop_s, cond_true, cond_false, pc_I_I, pc_L_L, pc_P_P, pc_I_L, pc_I_P, pc_L_I, pc_L_P, pc_P_I, pc_P_L, pc_sS_I, pc_sS_L, pc_sS_P, I_rI, L_rI, P_rI, S_rI, cv_r, ci_r, cl_r, o1_b, o1_0, o1_1, lc_e, nI_1, nI_add, if_true, if_false, Nat.reduceEqDiff, Nat.left_eq_add, Nat.add_eq_left, false_and, and_false, true_and, and_true, and_self, eq_self, hno]
      · intro j hj
        simp only [hc_ck, hc_gi, hc_gl, hc_gp, ap_I, ap_L, kd_I, kd_L, kd_P, kd_rI, ar_I, ar_L, ar_P, al_I, al_L, al_P, hop_s, cond_true, cond_false, pc_I_I, pc_L_L, pc_P_P, pc_I_L, pc_I_P, pc_L_I, pc_L_P, pc_P_I, pc_P_L, pc_sS_I, pc_sS_L, pc_sS_P, I_rI, L_rI, P_rI, S_rI, cv_r, ci_r, cl_r, o1_b, o1_0, o1_1, lc_e, nI_1, nI_add, if_true, if_false, Nat.reduceEqDiff, Nat.left_eq_add, Nat.add_eq_left, false_and, and_false, true_and, and_true, and_self, eq_self]
        rw [if_neg (by omega)]
      · intro m hm
        simp only [hc_ck, hc_gi, hc_gl, hc_gp, ap_I, ap_L, kd_I, kd_L, kd_P, kd_rI, ar_I, ar_L, ar_P, al_I, al_L, al_P, hop_s, cond_true, cond_false, pc_I_I, pc_L_L, pc_P_P, pc_I_L, pc_I_P, pc_L_I, pc_L_P, pc_P_I, pc_P_L, pc_sS_I, pc_sS_L, pc_sS_P, I_rI, L_rI, P_rI, S_rI, cv_r, ci_r, cl_r, o1_b, o1_0, o1_1, lc_e, nI_1, nI_add, if_true, if_false, Nat.reduceEqDiff, Nat.left_eq_add, Nat.add_eq_left, false_and, and_false, true_and, and_true, and_self, eq_self]
        by_cases e2 : m = q_ct O B a
        · rw [if_pos e2, e2, hrp]
        · rw [if_neg e2]
          exact h2 m (by omega)
      · intro m hm
        simp only [hc_ck, hc_gi, hc_gl, hc_gp, ap_I, ap_L, kd_I, kd_L, kd_P, kd_rI, ar_I, ar_L, ar_P, al_I, al_L, al_P, hop_s, cond_true, cond_false, pc_I_I, pc_L_L, pc_P_P, pc_I_L, pc_I_P, pc_L_I, pc_L_P, pc_P_I, pc_P_L, pc_sS_I, pc_sS_L, pc_sS_P, I_rI, L_rI, P_rI, S_rI, cv_r, ci_r, cl_r, o1_b, o1_0, o1_1, lc_e, nI_1, nI_add, if_true, if_false, Nat.reduceEqDiff, Nat.left_eq_add, Nat.add_eq_left, false_and, and_false, true_and, and_true, and_self, eq_self]
        by_cases e2 : m = q_ct O B a
        · rw [if_pos e2]
          apply wI_of
          intro b hb
          rw [yi_or, yi_0, Bool.false_or, yi_b1 (by omega), decide_eq_true_iff, e2]
          constructor
          · rintro rfl
            exact ⟨by omega, ha, hno⟩
          · rintro ⟨c1, c2, c3⟩
            by_cases e3 : b = a
            · exact e3
            · have := q_nolt (B := B) c2 (show b < a by omega)
              omega
        · rw [if_neg e2, if_neg e2, h3 m (by omega)]
          refine wI_cong (fun b _ => ⟨fun c => ⟨by omega, c.2⟩, fun c => ⟨?_, c.2⟩⟩)
          by_cases e3 : b = a
          · subst e3
            have := c.2.2
            omega
          · omega
    · have hlt' : n < q_ct O B a := by omega
      have hno := hlt hlt'
      have hre : ¬ q_re O B a := by
        intro hre
        have : q_no O B a = q_ct O B a := by
          show ct _ (h_le _ _ _ _ a) = ct _ a
          rw [h_le_re (q_r O B) hre]
        omega
      have hct : q_ct O B (a + 1) = q_ct O B a := ct_s0 hre
      rw [e_Hi_place_48]
      simp (disch := first | assumption | omega) only [hc_ck, hc_gi, hc_gl, hc_gp, ap_I, ap_L, kd_I, kd_L, kd_P, kd_rI, ar_I, ar_L, ar_P, al_I, al_L, al_P, hop_s, cond_true, cond_false, pc_I_I, pc_L_L, pc_P_P, pc_I_L, pc_I_P, pc_L_I, pc_L_P, pc_P_I, pc_P_L, pc_sS_I, pc_sS_L, pc_sS_P, I_rI, L_rI, P_rI, S_rI, cv_r, ci_r, cl_r, o1_b, o1_0, o1_1, lc_e, nI_1, nI_add, if_true, if_false, Nat.reduceEqDiff, Nat.left_eq_add, Nat.add_eq_left, false_and, and_false, true_and, and_true, and_self, eq_self, Hi_k, h0, n_eq, e, Hi_p4, Hi_r3, Hi_p2, Hi_r1]
      refine ⟨_, rfl, fJ_w (fJ_w (fJ_r _ _ _) (by omega) (by omega) _ _) (by omega) (by omega) _ _, ?_, ?_, ?_, ?_, ?_, ?_⟩
      · simp only [hc_ck, hc_gi, hc_gl, hc_gp, ap_I, ap_L, kd_I, kd_L, kd_P, kd_rI, ar_I, ar_L, ar_P, al_I, al_L, al_P, hop_s, cond_true, cond_false, pc_I_I, pc_L_L, pc_P_P, pc_I_L, pc_I_P, pc_L_I, pc_L_P, pc_P_I, pc_P_L, pc_sS_I, pc_sS_L, pc_sS_P, I_rI, L_rI, P_rI, S_rI, cv_r, ci_r, cl_r, o1_b, o1_0, o1_1, lc_e, nI_1, nI_add, if_true, if_false, Nat.reduceEqDiff, Nat.left_eq_add, Nat.add_eq_left, false_and, and_false, true_and, and_true, and_self, eq_self, h0, hct]
      · simp only [hc_ck, hc_gi, hc_gl, hc_gp, ap_I, ap_L, kd_I, kd_L, kd_P, kd_rI, ar_I, ar_L, ar_P, al_I, al_L, al_P, hop_s, cond_true, cond_false, pc_I_I, pc_L_L, pc_P_P, pc_I_L, pc_I_P, pc_L_I, pc_L_P, pc_P_I, pc_P_L, pc_sS_I, pc_sS_L, pc_sS_P, I_rI, L_rI, P_rI, S_rI, cv_r, ci_r, cl_r, o1_b, o1_0, o1_1, lc_e, nI_1, nI_add, if_true, if_false, Nat.reduceEqDiff, Nat.left_eq_add, Nat.add_eq_left, false_and, and_false, true_and, and_true, and_self, eq_self]
      · simp only [hc_ck, hc_gi, hc_gl, hc_gp, ap_I, ap_L, kd_I, kd_L, kd_P, kd_rI, ar_I, ar_L, ar_P, al_I, al_L, al_P, hop_s, cond_true, cond_false, pc_I_I, pc_L_L, pc_P_P, pc_I_L, pc_I_P, pc_L_I, pc_L_P, pc_P_I, pc_P_L, pc_sS_I, pc_sS_L, pc_sS_P, I_rI, L_rI, P_rI, S_rI, cv_r, ci_r, cl_r, o1_b, o1_0, o1_1, lc_e, nI_1, nI_add, if_true, if_false, Nat.reduceEqDiff, Nat.left_eq_add, Nat.add_eq_left, false_and, and_false, true_and, and_true, and_self, eq_self, hno]
      · intro j hj
        simp only [hc_ck, hc_gi, hc_gl, hc_gp, ap_I, ap_L, kd_I, kd_L, kd_P, kd_rI, ar_I, ar_L, ar_P, al_I, al_L, al_P, hop_s, cond_true, cond_false, pc_I_I, pc_L_L, pc_P_P, pc_I_L, pc_I_P, pc_L_I, pc_L_P, pc_P_I, pc_P_L, pc_sS_I, pc_sS_L, pc_sS_P, I_rI, L_rI, P_rI, S_rI, cv_r, ci_r, cl_r, o1_b, o1_0, o1_1, lc_e, nI_1, nI_add, if_true, if_false, Nat.reduceEqDiff, Nat.left_eq_add, Nat.add_eq_left, false_and, and_false, true_and, and_true, and_self, eq_self]
        rw [if_neg (by omega)]
      · intro m hm
        simp only [hc_ck, hc_gi, hc_gl, hc_gp, ap_I, ap_L, kd_I, kd_L, kd_P, kd_rI, ar_I, ar_L, ar_P, al_I, al_L, al_P, hop_s, cond_true, cond_false, pc_I_I, pc_L_L, pc_P_P, pc_I_L, pc_I_P, pc_L_I, pc_L_P, pc_P_I, pc_P_L, pc_sS_I, pc_sS_L, pc_sS_P, I_rI, L_rI, P_rI, S_rI, cv_r, ci_r, cl_r, o1_b, o1_0, o1_1, lc_e, nI_1, nI_add, if_true, if_false, Nat.reduceEqDiff, Nat.left_eq_add, Nat.add_eq_left, false_and, and_false, true_and, and_true, and_self, eq_self]
        exact h2 m (by omega)
      · intro m hm
        simp only [hc_ck, hc_gi, hc_gl, hc_gp, ap_I, ap_L, kd_I, kd_L, kd_P, kd_rI, ar_I, ar_L, ar_P, al_I, al_L, al_P, hop_s, cond_true, cond_false, pc_I_I, pc_L_L, pc_P_P, pc_I_L, pc_I_P, pc_L_I, pc_L_P, pc_P_I, pc_P_L, pc_sS_I, pc_sS_L, pc_sS_P, I_rI, L_rI, P_rI, S_rI, cv_r, ci_r, cl_r, o1_b, o1_0, o1_1, lc_e, nI_1, nI_add, if_true, if_false, Nat.reduceEqDiff, Nat.left_eq_add, Nat.add_eq_left, false_and, and_false, true_and, and_true, and_self, eq_self]
        by_cases e2 : m = n
        · subst e2
          rw [if_pos rfl, h3 m hlt']
          apply wI_of
          intro b hb
          rw [yi_or, Bool.or_eq_true, wI_x, yi_b1 (by omega), decide_eq_true_iff]
          constructor
          · rintro (⟨-, c1, c2⟩ | rfl)
            · exact ⟨by omega, c2⟩
            · exact ⟨by omega, ha, hno⟩
          · rintro ⟨c1, c2⟩
            by_cases e3 : b = a
            · exact Or.inr e3
            · exact Or.inl ⟨hb, by omega, c2⟩
        · rw [if_neg e2, h3 m (by omega)]
          refine wI_cong (fun b _ => ⟨fun c => ⟨by omega, c.2⟩, fun c => ⟨?_, c.2⟩⟩)
          by_cases e3 : b = a
          · subst e3
            have := c.2.2
            omega
          · omega
  have key : ∀ n, n ≤ q_ct O B a → (∀ m, m < n → q_no O B a ≠ m) → ∃ h', f_Hi_place_3 (d + 2) h y s (nI a) (nI (o_np O a)) (nI n) = some (.inr none, h') ∧ fJ y (y + 7) h h' ∧ am_I h' y 0 = nI (q_ct O B (a + 1)) ∧ am_I h' y 1 = am_I h y 1 ∧ am_I h' (y + 1) a = nI (q_no O B a) ∧ (∀ j, j ≠ a → am_I h' (y + 1) j = am_I h (y + 1) j) ∧ (∀ n, n < q_ct O B (a + 1) → am_I h' (y + 2) n = nI (o_np O (q_rp O B n))) ∧ (∀ n, n < q_ct O B (a + 1) → am_I h' (y + 3) n = wI (fun b => b < a + 1 ∧ q_nv O B b ∧ q_no O B b = n)) := by
    refine dn ?_ ?_
    · intro hm
      rw [e_Hi_place_3]
      simp (disch := first | assumption | omega) only [hc_ck, hc_gi, hc_gl, hc_gp, ap_I, ap_L, kd_I, kd_L, kd_P, kd_rI, ar_I, ar_L, ar_P, al_I, al_L, al_P, hop_s, cond_true, cond_false, pc_I_I, pc_L_L, pc_P_P, pc_I_L, pc_I_P, pc_L_I, pc_L_P, pc_P_I, pc_P_L, pc_sS_I, pc_sS_L, pc_sS_P, I_rI, L_rI, P_rI, S_rI, cv_r, ci_r, cl_r, o1_b, o1_0, o1_1, lc_e, nI_1, nI_add, if_true, if_false, Nat.reduceEqDiff, Nat.left_eq_add, Nat.add_eq_left, false_and, and_false, true_and, and_true, and_self, eq_self, Hi_k, h0, n_le, Nat.le_refl]
      exact fin _ (Nat.le_refl _) (fun e => absurd e (Nat.lt_irrefl _)) (fun _ => hm)
    · intro n hn ih hm
      have hn3 : ¬ q_ct O B a ≤ n := by omega
      have hr := (q_rps (B := B) hn).2.2
      have hpr := (o_np_s ok (show q_rp O B n < o_N O by omega)).1
      have e2 := h2 n hn
      obtain ⟨b1, eb1, hb1⟩ := Sa_isBelow Hs (x := o_np O a) (y := o_np O (q_rp O B n)) (by omega) (by omega) (L _ hpa) d
      obtain ⟨b2, eb2, hb2⟩ := Sa_isBelow Hs (x := o_np O (q_rp O B n)) (y := o_np O a) (by omega) (by omega) (L _ hpr) d
      have go : ¬ q_no O B a = n → ∃ h', f_Hi_place_3 (d + 2) h y s (nI a) (nI (o_np O a)) (nI (n + 1)) = some (.inr none, h') ∧ fJ y (y + 7) h h' ∧ am_I h' y 0 = nI (q_ct O B (a + 1)) ∧ am_I h' y 1 = am_I h y 1 ∧ am_I h' (y + 1) a = nI (q_no O B a) ∧ (∀ j, j ≠ a → am_I h' (y + 1) j = am_I h (y + 1) j) ∧ (∀ n, n < q_ct O B (a + 1) → am_I h' (y + 2) n = nI (o_np O (q_rp O B n))) ∧ (∀ n, n < q_ct O B (a + 1) → am_I h' (y + 3) n = wI (fun b => b < a + 1 ∧ q_nv O B b ∧ q_no O B b = n)) := by
        intro c
        refine ih (fun m hm' => ?_)
        by_cases e : m = n
        · subst e; exact c
        · exact hm m (by omega)
      rw [e_Hi_place_3]
      simp (disch := first | assumption | omega) only [hc_ck, hc_gi, hc_gl, hc_gp, ap_I, ap_L, kd_I, kd_L, kd_P, kd_rI, ar_I, ar_L, ar_P, al_I, al_L, al_P, hop_s, cond_true, cond_false, pc_I_I, pc_L_L, pc_P_P, pc_I_L, pc_I_P, pc_L_I, pc_L_P, pc_P_I, pc_P_L, pc_sS_I, pc_sS_L, pc_sS_P, I_rI, L_rI, P_rI, S_rI, cv_r, ci_r, cl_r, o1_b, o1_0, o1_1, lc_e, nI_1, nI_add, if_true, if_false, Nat.reduceEqDiff, Nat.left_eq_add, Nat.add_eq_left, false_and, and_false, true_and, and_true, and_self, eq_self, Hi_k, h0, n_le, hn3, Hi_p3, Hi_r2, e2, Sa_k, eb1, eb2, bo_0]
      cases b1 with
      | false =>
        simp only [if_true]
        refine go (fun c => ?_)
        have := ((hmu n hn).mpr c).1
        exact absurd (hb1.mpr this) (by decide)
      | true =>
        simp only [Bool.true_eq_false, if_false]
        cases b2 with
        | false =>
          simp only [if_true]
          refine go (fun c => ?_)
          have := ((hmu n hn).mpr c).2
          exact absurd (hb2.mpr this) (by decide)
        | true =>
          simp only [Bool.true_eq_false, if_false]
          exact fin n (by omega) (fun _ => (hmu n hn).mp ⟨hb1.mp rfl, hb2.mp rfl⟩) (fun e => by omega)
  rw [e_Hi_place]
  exact key 0 (Nat.zero_le _) (fun m hm => absurd hm (Nat.not_lt_zero m))
