/-! ===== fault, turn, undo: both sides ===== -/
theorem Lc_fault {h : am_H} {x : XT} (H : LcAt h) (C : CX h x) (d : Nat) : f_Lc_fault d h 1 = some (.inr (some (.int x.2.2.1)), h) := by
  rw [e_Lc_fault, lz_i (Lc_k1 H) C.2.2.2.1]
theorem Rf_fault {h : am_H} {f : Nat} {x : XT} {O : o_T} {B : Nat → Prop} (R : RB h f O B) (C : RX h f x) (d : Nat) : f_Rf_fault d h f = some (.inr (some (.int x.2.2.1)), am_sI h f 0 0) := by
  have H := R.1
  obtain ⟨g, e0, Cg, Wg, z0⟩ := RB_b R
  have Xg := RX_W Wg C
  rw [e_Rf_fault, lz_k (Rf_k H), e0, lz_i (Rf_k Cg.1) Xg.2.2.2.1]
/-- an axiom switched -/
def flp (B : Nat → Prop) (k j : Nat) : Prop := (j ≠ k ∧ B j) ∨ (j = k ∧ ¬ B k)
theorem flp_w {B : Nat → Prop} {k : Nat} (hk : k < 64) : wL B ^^^ am_lshl 1 (nI k) = wL (flp B k) := wL_of (fun j hj => by
  rw [xl_xor, xl_b1 hk, xl_pd hj]
  unfold flp
  by_cases e : j = k
  · subst e
    by_cases b : B j
    · rw [pd_t b, decide_eq_true rfl]
      exact ⟨fun q => absurd q (by decide), fun q => q.elim (fun q => absurd rfl q.1) (fun q => absurd b q.2)⟩
    · rw [pd_f b, decide_eq_true rfl]
      exact ⟨fun _ => Or.inr ⟨rfl, b⟩, fun _ => rfl⟩
  · rw [decide_eq_false e, Bool.xor_false]
    by_cases b : B j
    · rw [pd_t b]
      exact ⟨fun _ => Or.inl ⟨e, b⟩, fun _ => rfl⟩
    · rw [pd_f b]
      exact ⟨fun q => absurd q (by decide), fun q => q.elim (fun q => absurd q.2 b) (fun q => absurd q.1 e)⟩)
theorem flp_k (B : Nat → Prop) (k : Nat) : pd (flp B k k) = pd (¬ B k) := pd_c ⟨fun q => q.elim (fun q => absurd rfl q.1) (fun q => q.2), fun q => Or.inr ⟨rfl, q⟩⟩
theorem flp_b {B : Nat → Prop} {k n : Nat} (hk : k < n) (h : ∀ j, B j → j < n) : ∀ j, flp B k j → j < n := fun j q => q.elim (fun q => h j q.2) (fun q => by omega)
/-- what a turn does to what is kept -/
def xt (k : Nat) (x : XT) : XT := (x.1, x.2.1, x.2.2.1, (fun j => if x.2.2.2.2.1 = 20 then (if j < 19 then x.2.2.2.1 (j + 1) else k) else if j < x.2.2.2.2.1 then x.2.2.2.1 j else k), (if x.2.2.2.2.1 = 20 then 20 else x.2.2.2.2.1 + 1), x.2.2.2.2.2)
/-- frame: what turn and undo leave as it is -/
def fTu (o : Nat) (h h' : am_H) : Prop := am_S h' = am_S h ∧ am_G h' = am_G h ∧ am_T h' = am_T h ∧ am_P h' = am_P h ∧ (∀ b, b ≠ o → am_L h' b = am_L h b) ∧ (∀ b, b ≠ 1 → b ≠ 40 → b ≠ 74 → am_I h' b = am_I h b) ∧ (∀ j, j ≠ 7 → j ≠ 8 → am_I h' 1 j = am_I h 1 j)
theorem CB_tu {h h' : am_H} {o : Nat} {O : o_T} {B B' : Nat → Prop} (C : CB h o O B) (q : fTu o h h') (hL : am_L h' o 10 = wL B') (hB : ∀ k, B' k → k < o_A O) (h8 : am_I h' 1 8 = 0) (h7 : am_I h' 74 7 = 0) : CB h' o O B' := by
  obtain ⟨c1, c2, c3, c4, c5, c6, c7, c8, c9⟩ := C
  refine ⟨LcAt_of c1 q.1 (fun _ _ _ => by rw [q.2.2.2.1]), by rw [q.2.2.2.1]; exact c2, c3, OnR_of c4 q.1 (fun j _ => by rw [q.2.2.2.1]) (fun j hj => q.2.2.2.2.2.1 _ (by omega) (by omega) (by omega)), ?_, hL, hB, Or.inl h8, Or.inl h7⟩
  intro n hn
  rw [q.2.2.2.2.2.1 (o + 5) (by omega) (by omega) (by omega)]
  exact c5 n hn
/-- the class's switch, once the row is shifted -/
theorem Lc_tu35 {h : am_H} {o t k : Nat} {O : o_T} {B : Nat → Prop} (C : CB h o O B) (ht : t < 20) (h7 : am_I h 1 7 = nI t) (hk : k < o_A O) (d : Nat) : ∃ h', f_Lc_turn_35 (d + 2) h 1 (nI k) = some (.inr (some (.int (bo (pd (¬ B k))))), h') ∧ fTu o h h' ∧ CB h' o O (flp B k) ∧ am_I h' 1 7 = nI (t + 1) ∧ ∀ j, am_I h' 40 j = if j = t then nI k else am_I h 40 j := by
  have H := C.1
  have ho := C.2.2.1
  have H3 := OnR_at C.2.2.2.1
  have hA := C.2.2.2.1.2.1.2.2.2.2.1
  obtain ⟨h', e'⟩ : ∃ h', h' = am_sI (am_sI (am_sL (am_sI (am_sI h 40 t (nI k)) 1 7 (nI (t + 1))) o 10 (wL (flp B k))) 1 8 0) 74 7 0 := ⟨_, rfl⟩
  have fr : fTu o h h' := by
    rw [e']
    refine ⟨rfl, rfl, rfl, rfl, fun b p => ?_, fun b p q r => ?_, fun j p q => ?_⟩
    · funext j
      show am_L (am_sL (am_sI (am_sI h 40 t (nI k)) 1 7 (nI (t + 1))) o 10 (wL (flp B k))) b j = am_L h b j
      rw [pc_L_L, if_neg (by omega)]
      rfl
    · funext j
      rw [pc_I_I, if_neg (by omega), pc_I_I, if_neg (by omega)]
      show am_I (am_sI (am_sI h 40 t (nI k)) 1 7 (nI (t + 1))) b j = am_I h b j
      rw [pc_I_I, if_neg (by omega), pc_I_I, if_neg (by omega)]
    · rw [pc_I_I, if_neg (by omega), pc_I_I, if_neg (by omega)]
      show am_I (am_sI (am_sI h 40 t (nI k)) 1 7 (nI (t + 1))) 1 j = am_I h 1 j
      rw [pc_I_I, if_neg (by omega), pc_I_I, if_neg (by omega)]
  have eL : am_L h' o 10 = wL (flp B k) := by
    rw [e']
    show am_L (am_sL (am_sI (am_sI h 40 t (nI k)) 1 7 (nI (t + 1))) o 10 (wL (flp B k))) o 10 = _
    rw [pc_L_L, if_pos ⟨rfl, rfl⟩]
  have e8 : am_I h' 1 8 = 0 := by rw [e', pc_I_I, if_neg (by omega), pc_I_I, if_pos ⟨rfl, rfl⟩]
  have e74 : am_I h' 74 7 = 0 := by rw [e', pc_I_I, if_pos ⟨rfl, rfl⟩]
  have C' := CB_tu C fr eL (flp_b hk C.2.2.2.2.2.2.1) e8 e74
  have i1 := Lc_isOn C' (show k < 64 by omega) (d + 1)
  refine ⟨h', ?_, fr, C', ?_, ?_⟩
  · rw [e_Lc_turn_35, ← flp_k]
    have eu : f_Lc_unsettle (d + 1) (am_sL (am_sI (am_sI h 40 t (nI k)) 1 7 (nI (t + 1))) o 10 (wL (flp B k))) 1 = some (.inr none, h') := by
      have Hx : LcAt (am_sL (am_sI (am_sI h 40 t (nI k)) 1 7 (nI (t + 1))) o 10 (wL (flp B k))) := LcAt_of H rfl (fun _ _ _ => rfl)
      rw [e_Lc_unsettle, e']
      simp (disch := first | assumption | omega) only [hc_ck, hc_gi, hc_gl, hc_gp, ap_I, ap_L, kd_I, kd_L, kd_P, kd_rI, ar_I, ar_L, ar_P, al_I, al_L, al_P, hop_s, cond_true, cond_false, pc_I_I, pc_L_L, pc_P_P, pc_I_L, pc_I_P, pc_L_I, pc_L_P, pc_P_I, pc_P_L, pc_sS_I, pc_sS_L, pc_sS_P, I_rI, L_rI, P_rI, S_rI, cv_r, ci_r, cl_r, o1_b, o1_0, o1_1, lc_e, nI_1, nI_add, if_true, if_false, Nat.reduceEqDiff, Nat.left_eq_add, Nat.add_eq_left, false_and, and_false, true_and, and_true, and_self, eq_self, Lc_k1, Lc_p1_15, Lc_k74, e_Rs_forget]
    simp (disch := first | assumption | omega) only [hc_ck, hc_gi, hc_gl, hc_gp, ap_I, ap_L, kd_I, kd_L, kd_P, kd_rI, ar_I, ar_L, ar_P, al_I, al_L, al_P, hop_s, cond_true, cond_false, pc_I_I, pc_L_L, pc_P_P, pc_I_L, pc_I_P, pc_L_I, pc_L_P, pc_P_I, pc_P_L, pc_sS_I, pc_sS_L, pc_sS_P, I_rI, L_rI, P_rI, S_rI, cv_r, ci_r, cl_r, o1_b, o1_0, o1_1, lc_e, nI_1, nI_add, if_true, if_false, Nat.reduceEqDiff, Nat.left_eq_add, Nat.add_eq_left, false_and, and_false, true_and, and_true, and_self, eq_self, Lc_k1, Lc_p1_6, h7, Lc_r40, C.2.1, On_k, C.2.2.2.2.2.1, flp_w (show k < 64 by omega), eu]
    have Hh := C'.1
    simp (disch := first | assumption | omega) only [hc_ck, hc_gi, hc_gl, hc_gp, ap_I, ap_L, kd_I, kd_L, kd_P, kd_rI, ar_I, ar_L, ar_P, al_I, al_L, al_P, hop_s, cond_true, cond_false, pc_I_I, pc_L_L, pc_P_P, pc_I_L, pc_I_P, pc_L_I, pc_L_P, pc_P_I, pc_P_L, pc_sS_I, pc_sS_L, pc_sS_P, I_rI, L_rI, P_rI, S_rI, cv_r, ci_r, cl_r, o1_b, o1_0, o1_1, lc_e, nI_1, nI_add, if_true, if_false, Nat.reduceEqDiff, Nat.left_eq_add, Nat.add_eq_left, false_and, and_false, true_and, and_true, and_self, eq_self, Lc_k1, i1, bo_0]
    cases pd (flp B k k) <;> rfl
  · rw [e', pc_I_I, if_neg (by omega), pc_I_I, if_neg (by omega)]
    show am_I (am_sI (am_sI h 40 t (nI k)) 1 7 (nI (t + 1))) 1 7 = _
    rw [pc_I_I, if_pos ⟨rfl, rfl⟩]
  · intro j
    rw [e', pc_I_I, if_neg (by omega), pc_I_I, if_neg (by omega)]
    show am_I (am_sI (am_sI h 40 t (nI k)) 1 7 (nI (t + 1))) 40 j = _
    rw [pc_I_I, if_neg (by omega), pc_I_I]
    by_cases e : j = t
    · rw [if_pos ⟨rfl, e⟩, if_pos e]
    · rw [if_neg (fun q => e q.2), if_neg e]
theorem Lc_turn {h : am_H} {o : Nat} {O : o_T} {B : Nat → Prop} {x : XT} (C : CB h o O B) (X : CX h x) (i : Int32) (d : Nat) : (∃ k, k < o_A O ∧ i = nI k ∧ ∃ h', f_Lc_turn (d + 3) h 1 i = some (.inr (some (.int (bo (pd (¬ B k))))), h') ∧ fTu o h h' ∧ CB h' o O (flp B k) ∧ CX h' (xt k x)) ∨ (¬ vi (o_A O) i ∧ f_Lc_turn (d + 3) h 1 i = some (.inl 0, cr 0 h)) := by
  have H := C.1
  have ho := C.2.2.1
  rw [e_Lc_turn]
  rcases Lc_nA C i (d + 1) with ⟨⟨k, hk, rfl⟩, e1⟩ | ⟨v, e1⟩
  · refine Or.inl ⟨k, hk, rfl, ?_⟩
    obtain ⟨x1, x2, x3, x4, x5, x6, x7, x8⟩ := X
    have lt : (nI x.2.2.2.2.1 < 20) = (x.2.2.2.2.1 < 20) := by
      rw [show (20 : Int32) = nI 20 from rfl]
      exact n_lt _ _ (by omega) (by omega)
    rw [lz_k (Lc_k1 H), lz_cv e1, lz_i (Lc_k1 H) x6]
    by_cases c : x.2.2.2.2.1 = 20
    · rw [if_neg (by rw [lt]; omega)]
      obtain ⟨g, eg⟩ : ∃ g, g = am_sI (am_rI h 40 (va_cpy (am_I h 40) (am_I h 40) 1 0 19)) 1 7 (nI 19) := ⟨_, rfl⟩
      have g40 : ∀ j, j < 19 → am_I g 40 j = am_I h 40 (j + 1) := fun j hj => by
        rw [eg, pc_I_I, if_neg (by omega), I_rI, if_pos rfl]
        show (if 0 ≤ j ∧ j < 0 + 19 then am_I h 40 (1 + (j - 0)) else am_I h 40 j) = _
        rw [if_pos (by omega), show 1 + (j - 0) = j + 1 by omega]
      have gI : ∀ b, b ≠ 1 → b ≠ 40 → am_I g b = am_I h b := fun b p q => by
        funext j
        rw [eg, pc_I_I, if_neg (by omega), I_rI, if_neg q]
      have g1' : ∀ j, j ≠ 7 → am_I g 1 j = am_I h 1 j := fun j p => by
        rw [eg, pc_I_I, if_neg (by omega), I_rI, if_neg (by omega)]
      have gS : am_S g = am_S h := by rw [eg]; rfl
      have gP : am_P g = am_P h := by rw [eg]; rfl
      have gL : am_L g = am_L h := by rw [eg]; rfl
      have gG : am_G g = am_G h ∧ am_T g = am_T h := by rw [eg]; exact ⟨rfl, rfl⟩
      have Cg : CB g o O B := CB_gen C gS gP gL (fun b p q _ => gI b (by omega) q) (g1' 8 (by omega)) (g1' 9 (by omega))
      have g7 : am_I g 1 7 = nI 19 := by rw [eg, pc_I_I, if_pos ⟨rfl, rfl⟩]
      obtain ⟨u, eu, qu, Cu, u7, u40⟩ := Lc_tu35 Cg (show 19 < 20 by omega) g7 hk (d + 1)
      obtain ⟨q1, q2, q3, q4, q5, q6, q7⟩ := qu
      refine ⟨u, ?_, ⟨q1.trans gS, q2.trans gG.1, q3.trans gG.2, q4.trans gP, fun b p => by rw [q5 b p, gL], fun b p r s => by rw [q6 b p r s, gI b p r], fun j p r => by rw [q7 j p r, g1' j p]⟩, Cu, x1, ?_, ?_, ?_, ?_, ?_, ?_, ?_⟩
      · have ecp : ∀ K, am_cp h 40 1 40 0 19 K = K (am_rI h 40 (va_cpy (am_I h 40) (am_I h 40) 1 0 19)) := fun K => by
          have s40 : (am_S h)[40]? = some (9, 20) := H.2.2.1 (40, 9, 20) (by decide)
          unfold am_cp
          rw [s40]
          rfl
        have Hr : LcAt (am_rI h 40 (va_cpy (am_I h 40) (am_I h 40) 1 0 19)) := LcAt_of H rfl (fun _ _ _ => rfl)
        rw [lz_p (Lc_k1 H) (Lc_p1_6 H), lz_p (Lc_k1 H) (Lc_p1_6 H), ecp, lz_k (Lc_k1 Hr)]
        rw [eg] at eu
        exact eu
      · rw [q7 1 (by omega) (by omega), g1' 1 (by omega)]; exact x2
      · intro j hj
        rw [q6 2 (by omega) (by omega) (by omega), gI 2 (by omega) (by omega)]; exact x3 j hj
      · rw [q7 2 (by omega) (by omega), g1' 2 (by omega)]; exact x4
      · show (if x.2.2.2.2.1 = 20 then 20 else x.2.2.2.2.1 + 1) ≤ 20
        rw [if_pos c]
        exact Nat.le_refl _
      · show am_I u 1 7 = nI (if x.2.2.2.2.1 = 20 then 20 else x.2.2.2.2.1 + 1)
        rw [if_pos c, u7]
      · intro j hj
        have hj2 : j < 20 := by
          have : j < (if x.2.2.2.2.1 = 20 then 20 else x.2.2.2.2.1 + 1) := hj
          rw [if_pos c] at this
          exact this
        show am_I u 40 j = nI (if x.2.2.2.2.1 = 20 then (if j < 19 then x.2.2.2.1 (j + 1) else k) else if j < x.2.2.2.2.1 then x.2.2.2.1 j else k)
        rw [u40 j, if_pos c]
        by_cases e : j = 19
        · rw [if_pos e, if_neg (by omega)]
        · rw [if_neg e, if_pos (by omega), g40 j (by omega)]
          exact x7 (j + 1) (by omega)
      · intro j hj
        rw [q6 77 (by omega) (by omega) (by omega), gI 77 (by omega) (by omega)]; exact x8 j hj
    · rw [if_pos (by rw [lt]; omega)]
      obtain ⟨u, eu, qu, Cu, u7, u40⟩ := Lc_tu35 C (show x.2.2.2.2.1 < 20 by omega) x6 hk (d + 1)
      refine ⟨u, eu, qu, Cu, x1, ?_, ?_, ?_, ?_, ?_, ?_, ?_⟩
      · rw [qu.2.2.2.2.2.2 1 (by omega) (by omega)]; exact x2
      · intro j hj
        rw [qu.2.2.2.2.2.1 2 (by omega) (by omega) (by omega)]; exact x3 j hj
      · rw [qu.2.2.2.2.2.2 2 (by omega) (by omega)]; exact x4
      · show (if x.2.2.2.2.1 = 20 then 20 else x.2.2.2.2.1 + 1) ≤ 20
        rw [if_neg c]
        omega
      · show am_I u 1 7 = nI (if x.2.2.2.2.1 = 20 then 20 else x.2.2.2.2.1 + 1)
        rw [if_neg c, u7]
      · intro j hj
        have hj2 : j < x.2.2.2.2.1 + 1 := by
          have : j < (if x.2.2.2.2.1 = 20 then 20 else x.2.2.2.2.1 + 1) := hj
          rw [if_neg c] at this
          exact this
        show am_I u 40 j = nI (if x.2.2.2.2.1 = 20 then (if j < 19 then x.2.2.2.1 (j + 1) else k) else if j < x.2.2.2.2.1 then x.2.2.2.1 j else k)
        rw [u40 j, if_neg c]
        by_cases e : j = x.2.2.2.2.1
        · rw [if_pos e, if_neg (by omega)]
        · rw [if_neg e, if_pos (by omega)]
          exact x7 j (by omega)
      · intro j hj
        rw [qu.2.2.2.2.2.1 77 (by omega) (by omega) (by omega)]; exact x8 j hj
  · refine Or.inr ⟨v, ?_⟩
    rw [lz_k (Lc_k1 H), e1, cv_e]
/-- what undo does to what is kept -/
def xu (x : XT) : XT := (x.1, x.2.1, x.2.2.1, x.2.2.2.1, x.2.2.2.2.1 - 1, x.2.2.2.2.2)
theorem Lc_undo {h : am_H} {o : Nat} {O : o_T} {B : Nat → Prop} {x : XT} (C : CB h o O B) (X : CX h x) (hT : ∀ k, k < x.2.2.2.2.1 → x.2.2.2.1 k < o_A O) (d : Nat) : (0 < x.2.2.2.2.1 ∧ ∃ h', f_Lc_undo (d + 2) h 1 = some (.inr (some (.int (nI (x.2.2.2.2.1 - 1)))), h') ∧ fTu o h h' ∧ CB h' o O (flp B (x.2.2.2.1 (x.2.2.2.2.1 - 1))) ∧ CX h' (xu x)) ∨ (x.2.2.2.2.1 = 0 ∧ f_Lc_undo (d + 2) h 1 = some (.inr (some (.int (-1))), h)) := by
  have H := C.1
  have ho := C.2.2.1
  have H3 := OnR_at C.2.2.2.1
  have hA := C.2.2.2.1.2.1.2.2.2.2.1
  obtain ⟨x1, x2, x3, x4, x5, x6, x7, x8⟩ := X
  have lt : (0 < nI x.2.2.2.2.1) = (0 < x.2.2.2.2.1) := n_lt 0 _ (by omega) (by omega)
  rw [e_Lc_undo, lz_i (Lc_k1 H) x6]
  by_cases c : x.2.2.2.2.1 = 0
  · refine Or.inr ⟨c, ?_⟩
    rw [if_neg (by rw [lt]; omega)]
  · refine Or.inl ⟨by omega, ?_⟩
    rw [if_pos (by rw [lt]; omega)]
    obtain ⟨t, ht⟩ : ∃ t, x.2.2.2.2.1 = t + 1 := ⟨x.2.2.2.2.1 - 1, by omega⟩
    rw [ht] at x5 x6 x7 hT
    rw [show x.2.2.2.2.1 - 1 = t by omega]
    have hk := hT t (by omega)
    have e40 := x7 t (by omega)
    obtain ⟨k, ek⟩ : ∃ k, x.2.2.2.1 t = k := ⟨_, rfl⟩
    rw [ek] at hk e40
    rw [ek]
    obtain ⟨h', e'⟩ : ∃ h', h' = am_sI (am_sI (am_sL (am_sI h 1 7 (nI t)) o 10 (wL (flp B k))) 1 8 0) 74 7 0 := ⟨_, rfl⟩
    have fr : fTu o h h' := by
      rw [e']
      refine ⟨rfl, rfl, rfl, rfl, fun b p => ?_, fun b p q r => ?_, fun j p q => ?_⟩
      · funext j
        show am_L (am_sL (am_sI h 1 7 (nI t)) o 10 (wL (flp B k))) b j = am_L h b j
        rw [pc_L_L, if_neg (by omega)]
        rfl
      · funext j
        rw [pc_I_I, if_neg (by omega), pc_I_I, if_neg (by omega)]
        show am_I (am_sI h 1 7 (nI t)) b j = am_I h b j
        rw [pc_I_I, if_neg (by omega)]
      · rw [pc_I_I, if_neg (by omega), pc_I_I, if_neg (by omega)]
        show am_I (am_sI h 1 7 (nI t)) 1 j = am_I h 1 j
        rw [pc_I_I, if_neg (by omega)]
    have eL : am_L h' o 10 = wL (flp B k) := by
      rw [e']
      show am_L (am_sL (am_sI h 1 7 (nI t)) o 10 (wL (flp B k))) o 10 = _
      rw [pc_L_L, if_pos ⟨rfl, rfl⟩]
    have e8 : am_I h' 1 8 = 0 := by rw [e', pc_I_I, if_neg (by omega), pc_I_I, if_pos ⟨rfl, rfl⟩]
    have e74 : am_I h' 74 7 = 0 := by rw [e', pc_I_I, if_pos ⟨rfl, rfl⟩]
    have e17 : am_I h' 1 7 = nI t := by
      rw [e', pc_I_I, if_neg (by omega), pc_I_I, if_neg (by omega)]
      show am_I (am_sI h 1 7 (nI t)) 1 7 = _
      rw [pc_I_I, if_pos ⟨rfl, rfl⟩]
    have i40 : am_I h' 40 = am_I h 40 := by
      funext j
      rw [e', pc_I_I, if_neg (by omega), pc_I_I, if_neg (by omega)]
      show am_I (am_sI h 1 7 (nI t)) 40 j = _
      rw [pc_I_I, if_neg (by omega)]
    have C' := CB_tu C fr eL (flp_b hk C.2.2.2.2.2.2.1) e8 e74
    refine ⟨h', ?_, fr, C', x1, ?_, ?_, ?_, ?_, ?_, ?_, ?_⟩
    · have eu : f_Lc_unsettle (d + 1) (am_sL (am_sI h 1 7 (nI t)) o 10 (wL (flp B k))) 1 = some (.inr none, h') := by
        have Hx : LcAt (am_sL (am_sI h 1 7 (nI t)) o 10 (wL (flp B k))) := LcAt_of H rfl (fun _ _ _ => rfl)
        rw [e_Lc_unsettle, e']
        simp (disch := first | assumption | omega) only [hc_ck, hc_gi, hc_gl, hc_gp, ap_I, ap_L, kd_I, kd_L, kd_P, kd_rI, ar_I, ar_L, ar_P, al_I, al_L, al_P, hop_s, cond_true, cond_false, pc_I_I, pc_L_L, pc_P_P, pc_I_L, pc_I_P, pc_L_I, pc_L_P, pc_P_I, pc_P_L, pc_sS_I, pc_sS_L, pc_sS_P, I_rI, L_rI, P_rI, S_rI, cv_r, ci_r, cl_r, o1_b, o1_0, o1_1, lc_e, nI_1, nI_add, if_true, if_false, Nat.reduceEqDiff, Nat.left_eq_add, Nat.add_eq_left, false_and, and_false, true_and, and_true, and_self, eq_self, Lc_k1, Lc_p1_15, Lc_k74, e_Rs_forget]
      simp (disch := first | assumption | omega) only [hc_ck, hc_gi, hc_gl, hc_gp, ap_I, ap_L, kd_I, kd_L, kd_P, kd_rI, ar_I, ar_L, ar_P, al_I, al_L, al_P, hop_s, cond_true, cond_false, pc_I_I, pc_L_L, pc_P_P, pc_I_L, pc_I_P, pc_L_I, pc_L_P, pc_P_I, pc_P_L, pc_sS_I, pc_sS_L, pc_sS_P, I_rI, L_rI, P_rI, S_rI, cv_r, ci_r, cl_r, o1_b, o1_0, o1_1, lc_e, nI_1, nI_add, if_true, if_false, Nat.reduceEqDiff, Nat.left_eq_add, Nat.add_eq_left, false_and, and_false, true_and, and_true, and_self, eq_self, Lc_k1, x6, nI_pred, C.2.1, On_k, C.2.2.2.2.2.1, Lc_p1_6, Lc_r40, e40, flp_w (show k < 64 by omega), eu]
      have Hh := C'.1
      simp (disch := first | assumption | omega) only [hc_ck, hc_gi, hc_gl, hc_gp, ap_I, ap_L, kd_I, kd_L, kd_P, kd_rI, ar_I, ar_L, ar_P, al_I, al_L, al_P, hop_s, cond_true, cond_false, pc_I_I, pc_L_L, pc_P_P, pc_I_L, pc_I_P, pc_L_I, pc_L_P, pc_P_I, pc_P_L, pc_sS_I, pc_sS_L, pc_sS_P, I_rI, L_rI, P_rI, S_rI, cv_r, ci_r, cl_r, o1_b, o1_0, o1_1, lc_e, nI_1, nI_add, if_true, if_false, Nat.reduceEqDiff, Nat.left_eq_add, Nat.add_eq_left, false_and, and_false, true_and, and_true, and_self, eq_self, Lc_k1, e17]
    · rw [fr.2.2.2.2.2.2 1 (by omega) (by omega)]; exact x2
    · intro j hj
      rw [fr.2.2.2.2.2.1 2 (by omega) (by omega) (by omega)]; exact x3 j hj
    · rw [fr.2.2.2.2.2.2 2 (by omega) (by omega)]; exact x4
    · show x.2.2.2.2.1 - 1 ≤ 20
      omega
    · show am_I h' 1 7 = nI (x.2.2.2.2.1 - 1)
      rw [e17, show x.2.2.2.2.1 - 1 = t by omega]
    · intro j hj
      have hj2 : j < x.2.2.2.2.1 - 1 := hj
      rw [i40]
      exact x7 j (by omega)
    · intro j hj
      rw [fr.2.2.2.2.2.1 77 (by omega) (by omega) (by omega)]; exact x8 j hj
