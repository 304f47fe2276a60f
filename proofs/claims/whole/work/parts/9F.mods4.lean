/-! ===== modules: the class's answers ===== -/
theorem f76_K {h h' : am_H} (q : f76 h h') : fK h h' := ⟨q.2.2.1, q.2.2.2.1, q.2.2.2.2.1, fun b _ _ => by rw [q.1], fun j _ _ => by rw [q.1], fun b p => q.2.2.2.2.2 b (by omega), fun b j _ _ _ => by rw [q.2.1]⟩
theorem CB_76 {h h' : am_H} {o : Nat} {O : o_T} {B : Nat → Prop} (C : CB h o O B) (q : f76 h h') : CB h' o O B := CB_sm (W := fun b => b ≠ 76) ⟨q.2.2.1, fun b p => ⟨by rw [q.1], q.2.2.2.2.2 b p, by rw [q.2.1]⟩⟩ (f76_lc q C.1) (fun b _ _ => by omega) (by omega) (by omega) C
noncomputable def q_own (O : o_T) (B : Nat → Prop) (k : Nat) : Int64 := mO O (wL B) false (axn O k) (axr O k)
noncomputable def q_at (O : o_T) (B : Nat → Prop) (k : Nat) : Int32 := @ite _ (B k) (Classical.propDecidable _) (nI (lm (fun j => B j ∧ q_own O B j = q_own O B k))) (-1)
noncomputable def q_dp (O : o_T) (B : Nat → Prop) (k : Nat) : Int64 := @ite _ (B k) (Classical.propDecidable _) (q_own O B k) 0
noncomputable def q_md (O : o_T) (B : Nat → Prop) (i j : Int32) (w : Nat) : Int64 := if w = 2 then tQ O (wL B) i j (tJ O (wL B) i j) else mO O (wL B) (w == 1) i j
def bin (v : Int32) (n : Nat) : Prop := ∀ k, k < 32 → yi v k = true → k < n
theorem iu0 (v : Int32) {n : Nat} (hn : n < 32) : (am_iushr v (nI n) = 0) ↔ bin v n := by
  rw [yi_eq0]
  constructor
  · intro h k hk e
    rcases Nat.lt_or_ge k n with q | q
    · exact q
    · have := h (k - n) (by omega)
      rw [yi_ushr v hn, show n + (k - n) = k by omega, e] at this
      cases this
  · intro h k hk
    rw [yi_ushr v hn]
    cases e : yi v (n + k)
    · rfl
    · have := h _ (yi_lt e) e
      omega
theorem is0 (v : Int32) {n : Nat} (hn : n < 32) : (am_ishr v (nI n) = 0) ↔ bin v n := by
  rw [yi_eq0]
  constructor
  · intro h k hk e
    rcases Nat.lt_or_ge k n with q | q
    · exact q
    · have := h (k - n) (by omega)
      rw [yi_sshr v hn (by omega), if_pos (by omega), show n + (k - n) = k by omega, e] at this
      cases this
  · intro h k hk
    rw [yi_sshr v hn hk]
    by_cases c : n + k < 32
    · rw [if_pos c]
      cases e : yi v (n + k)
      · rfl
      · have := h _ c e
        omega
    · rw [if_neg c]
      cases e : yi v 31
      · rfl
      · have := h _ (by omega) e
        omega
theorem Lc_q_depends {h : am_H} {o : Nat} {O : o_T} {B : Nat → Prop} (C : CB h o O B) (S : OnS h o O) (i : Int32) (d : Nat) : QQ (f_Lc_depends (d + 5) h 1 i) h o O B (g1 (o_A O) i 0 fun k => .inr (.long (q_dp O B k))) := by
  have H := C.1
  have Ho := C.2.2.2.1
  have hA := Ho.2.1.2.2.2.2.1
  rw [e_Lc_depends]
  rcases Lc_nA C i (d + 3) with ⟨⟨k, hk, rfl⟩, e1⟩ | ⟨v, e1⟩
  · rw [g1_y (by omega) hk]
    obtain ⟨u, eu, qu⟩ := Mo_ofAxiom H Ho S C.2.2.2.2.2.1 hk d
    simp (disch := first | assumption | omega) only [hc_ck, hc_gi, hc_gl, hc_gp, ap_I, ap_L, kd_I, kd_L, kd_P, kd_rI, ar_I, ar_L, ar_P, al_I, al_L, al_P, hop_s, cond_true, cond_false, pc_I_I, pc_L_L, pc_P_P, pc_I_L, pc_I_P, pc_L_I, pc_L_P, pc_P_I, pc_P_L, pc_sS_I, pc_sS_L, pc_sS_P, I_rI, L_rI, P_rI, S_rI, cv_r, ci_r, cl_r, o1_b, o1_0, o1_1, lc_e, nI_1, nI_add, if_true, if_false, Nat.reduceEqDiff, Nat.left_eq_add, Nat.add_eq_left, false_and, and_false, true_and, and_true, and_self, eq_self, Lc_k1, e1, Lc_isOn C, bo_0, Lc_p1_16, C.2.1, Lc_k76, eu]
    unfold q_dp
    by_cases b : B k
    · rw [pd_t b, if_neg (by decide), if_pos b]
      exact ⟨u, f76_K qu, CB_76 C qu, rfl⟩
    · rw [pd_f b, if_pos rfl, if_neg b]
      exact ⟨h, fK_r _, C, rfl⟩
  · rw [g1_n v]
    simp (disch := first | assumption | omega) only [hc_ck, hc_gi, hc_gl, hc_gp, ap_I, ap_L, kd_I, kd_L, kd_P, kd_rI, ar_I, ar_L, ar_P, al_I, al_L, al_P, hop_s, cond_true, cond_false, pc_I_I, pc_L_L, pc_P_P, pc_I_L, pc_I_P, pc_L_I, pc_L_P, pc_P_I, pc_P_L, pc_sS_I, pc_sS_L, pc_sS_P, I_rI, L_rI, P_rI, S_rI, cv_r, ci_r, cl_r, o1_b, o1_0, o1_1, lc_e, nI_1, nI_add, if_true, if_false, Nat.reduceEqDiff, Nat.left_eq_add, Nat.add_eq_left, false_and, and_false, true_and, and_true, and_self, eq_self, Lc_k1, e1, cv_e]
    exact QQ_n C
theorem Lc_q_atom {h : am_H} {o : Nat} {O : o_T} {B : Nat → Prop} (C : CB h o O B) (S : OnS h o O) (i : Int32) (d : Nat) : QQ (f_Lc_atom (d + 5) h 1 i) h o O B (g1 (o_A O) i 0 fun k => .inr (.int (q_at O B k))) := by
  have H := C.1
  have Ho := C.2.2.2.1
  have hA := Ho.2.1.2.2.2.2.1
  rw [e_Lc_atom]
  rcases Lc_nA C i (d + 3) with ⟨⟨k, hk, rfl⟩, e1⟩ | ⟨v, e1⟩
  · rw [g1_y (by omega) hk]
    obtain ⟨u, eu, qu⟩ := Mo_ofAxiom H Ho S C.2.2.2.2.2.1 hk d
    simp (disch := first | assumption | omega) only [hc_ck, hc_gi, hc_gl, hc_gp, ap_I, ap_L, kd_I, kd_L, kd_P, kd_rI, ar_I, ar_L, ar_P, al_I, al_L, al_P, hop_s, cond_true, cond_false, pc_I_I, pc_L_L, pc_P_P, pc_I_L, pc_I_P, pc_L_I, pc_L_P, pc_P_I, pc_P_L, pc_sS_I, pc_sS_L, pc_sS_P, I_rI, L_rI, P_rI, S_rI, cv_r, ci_r, cl_r, o1_b, o1_0, o1_1, lc_e, nI_1, nI_add, if_true, if_false, Nat.reduceEqDiff, Nat.left_eq_add, Nat.add_eq_left, false_and, and_false, true_and, and_true, and_self, eq_self, Lc_k1, e1, Lc_isOn C, bo_0, Lc_p1_16, C.2.1, Lc_k76, eu]
    unfold q_at
    by_cases b : B k
    · rw [pd_t b, if_neg (by decide), if_pos b]
      have key : ∀ m, m ≤ k → ∀ g : am_H, f76 h g → (∀ j, j < m → ¬ (B j ∧ q_own O B j = q_own O B k)) → ∃ h', f_Lc_atom_31 (d + 5) g 1 (nI k) (q_own O B k) (nI m) = some (.inr (some (.int (nI (lm (fun j => B j ∧ q_own O B j = q_own O B k))))), h') ∧ f76 h h' := by
        refine dn ?_ ?_
        · intro g q hj
          refine ⟨g, ?_, q⟩
          rw [e_Lc_atom_31, if_pos (Int32.le_refl _), lm_e ⟨b, rfl⟩ hj]
        · intro m hm ih g q hj
          have Cg := CB_76 C q
          have Hg := Cg.1
          have hm3 : ¬ k ≤ m := by omega
          obtain ⟨z, ez, qz⟩ := Mo_ofAxiom Hg Cg.2.2.2.1 (OnS_f q.1 S) Cg.2.2.2.2.2.1 (show m < o_A O by omega) d
          rw [show mO O (wL B) false (axn O m) (axr O m) = q_own O B m from rfl] at ez
          rw [e_Lc_atom_31]
          simp (disch := first | assumption | omega) only [hc_ck, hc_gi, hc_gl, hc_gp, ap_I, ap_L, kd_I, kd_L, kd_P, kd_rI, ar_I, ar_L, ar_P, al_I, al_L, al_P, hop_s, cond_true, cond_false, pc_I_I, pc_L_L, pc_P_P, pc_I_L, pc_I_P, pc_L_I, pc_L_P, pc_P_I, pc_P_L, pc_sS_I, pc_sS_L, pc_sS_P, I_rI, L_rI, P_rI, S_rI, cv_r, ci_r, cl_r, o1_b, o1_0, o1_1, lc_e, nI_1, nI_add, if_true, if_false, Nat.reduceEqDiff, Nat.left_eq_add, Nat.add_eq_left, false_and, and_false, true_and, and_true, and_self, eq_self, n_le, hm3, Lc_k1, Lc_isOn Cg, bo_0, Lc_p1_16, Cg.2.1, Lc_k76, ez]
          by_cases bm : B m
          · rw [pd_t bm, if_neg (by decide)]
            by_cases e : q_own O B m = q_own O B k
            · refine ⟨z, ?_, fX_t q qz⟩
              rw [if_pos e, lm_e ⟨bm, e⟩ hj]
            · rw [if_neg e]
              exact ih z (fX_t q qz) (no_s hj (fun c => e c.2))
          · rw [pd_f bm, if_pos rfl]
            exact ih g q (no_s hj (fun c => bm c.1))
      obtain ⟨z, ez, qz⟩ := key 0 (Nat.zero_le _) u qu (fun j e => absurd e (Nat.not_lt_zero j))
      exact ⟨z, f76_K qz, CB_76 C qz, ez⟩
    · rw [pd_f b, if_pos rfl, if_neg b]
      exact ⟨h, fK_r _, C, rfl⟩
  · rw [g1_n v]
    simp (disch := first | assumption | omega) only [hc_ck, hc_gi, hc_gl, hc_gp, ap_I, ap_L, kd_I, kd_L, kd_P, kd_rI, ar_I, ar_L, ar_P, al_I, al_L, al_P, hop_s, cond_true, cond_false, pc_I_I, pc_L_L, pc_P_P, pc_I_L, pc_I_P, pc_L_I, pc_L_P, pc_P_I, pc_P_L, pc_sS_I, pc_sS_L, pc_sS_P, I_rI, L_rI, P_rI, S_rI, cv_r, ci_r, cl_r, o1_b, o1_0, o1_1, lc_e, nI_1, nI_add, if_true, if_false, Nat.reduceEqDiff, Nat.left_eq_add, Nat.add_eq_left, false_and, and_false, true_and, and_true, and_self, eq_self, Lc_k1, e1, cv_e]
    exact QQ_n C
theorem Lc_m55 {h : am_H} {o w : Nat} {O : o_T} {B : Nat → Prop} (C : CB h o O B) (S : OnS h o O) (i j : Int32) (hw : w < 3) (d : Nat) : ∃ h', f_Lc_module_55 (d + 5) h 1 i j (nI w) = some (.inr (some (.long (q_md O B i j w))), h') ∧ f76 h h' := by
  have H := C.1
  have Ho := C.2.2.2.1
  have H3 := OnR_at Ho
  obtain ⟨u, eu, qu⟩ := Mo_inTurn H Ho S C.2.2.2.2.2.1 C.2.2.2.2.2.2.1 i j d
  obtain ⟨v, ev, qv⟩ := Mo_cut H Ho S (wL B) i j false (d + 1)
  obtain ⟨z, ez, qz⟩ := Mo_cut H Ho S (wL B) i j true (d + 1)
  rw [bo_f] at ev
  rw [bo_t] at ez
  rw [e_Lc_module_55]
  unfold q_md
  rcases iv3 hw with rfl | rfl | rfl
  · refine ⟨v, ?_, qv⟩
    simp +decide (disch := first | assumption | omega) only [hc_ck, hc_gi, hc_gl, hc_gp, ap_I, ap_L, kd_I, kd_L, kd_P, kd_rI, ar_I, ar_L, ar_P, al_I, al_L, al_P, hop_s, cond_true, cond_false, pc_I_I, pc_L_L, pc_P_P, pc_I_L, pc_I_P, pc_L_I, pc_L_P, pc_P_I, pc_P_L, pc_sS_I, pc_sS_L, pc_sS_P, I_rI, L_rI, P_rI, S_rI, cv_r, ci_r, cl_r, o1_b, o1_0, o1_1, lc_e, nI_1, nI_add, if_true, if_false, Nat.reduceEqDiff, Nat.left_eq_add, Nat.add_eq_left, false_and, and_false, true_and, and_true, and_self, eq_self, Lc_k1, Lc_p1_16, C.2.1, On_k, C.2.2.2.2.2.1, Lc_k76, ev]
    rfl
  · refine ⟨z, ?_, qz⟩
    simp +decide (disch := first | assumption | omega) only [hc_ck, hc_gi, hc_gl, hc_gp, ap_I, ap_L, kd_I, kd_L, kd_P, kd_rI, ar_I, ar_L, ar_P, al_I, al_L, al_P, hop_s, cond_true, cond_false, pc_I_I, pc_L_L, pc_P_P, pc_I_L, pc_I_P, pc_L_I, pc_L_P, pc_P_I, pc_P_L, pc_sS_I, pc_sS_L, pc_sS_P, I_rI, L_rI, P_rI, S_rI, cv_r, ci_r, cl_r, o1_b, o1_0, o1_1, lc_e, nI_1, nI_add, if_true, if_false, Nat.reduceEqDiff, Nat.left_eq_add, Nat.add_eq_left, false_and, and_false, true_and, and_true, and_self, eq_self, Lc_k1, Lc_p1_16, C.2.1, On_k, C.2.2.2.2.2.1, Lc_k76, ez]
    rfl
  · refine ⟨u, ?_, qu⟩
    simp +decide (disch := first | assumption | omega) only [hc_ck, hc_gi, hc_gl, hc_gp, ap_I, ap_L, kd_I, kd_L, kd_P, kd_rI, ar_I, ar_L, ar_P, al_I, al_L, al_P, hop_s, cond_true, cond_false, pc_I_I, pc_L_L, pc_P_P, pc_I_L, pc_I_P, pc_L_I, pc_L_P, pc_P_I, pc_P_L, pc_sS_I, pc_sS_L, pc_sS_P, I_rI, L_rI, P_rI, S_rI, cv_r, ci_r, cl_r, o1_b, o1_0, o1_1, lc_e, nI_1, nI_add, if_true, if_false, Nat.reduceEqDiff, Nat.left_eq_add, Nat.add_eq_left, false_and, and_false, true_and, and_true, and_self, eq_self, Lc_k1, Lc_p1_16, C.2.1, Lc_k76, eu]
/-- a module asked for: names and roles that there are -/
noncomputable def q_mz (O : o_T) (B : Nat → Prop) (i j : Int32) (w : Nat) : Nat ⊕ Value := @ite _ (bin i (o_N O) ∧ bin j (o_R O)) (Classical.propDecidable _) (.inr (.long (q_md O B i j w))) (.inl 1)
theorem vi3 {l : Int32} (h : ¬ vi 3 l) (h0 : ¬ l < 0) : 2 < l := by
  have q := vi_n (n := 3) (by omega) h h0
  rw [Int32.lt_iff_toInt_lt] at *
  rw [show (2 : Int32).toInt = 2 from rfl]
  rw [nI_toInt (by omega)] at q
  omega
theorem Lc_q_module {h : am_H} {o : Nat} {O : o_T} {B : Nat → Prop} (C : CB h o O B) (S : OnS h o O) (i j l : Int32) (d : Nat) : QQ (f_Lc_module (d + 5) h 1 i j l) h o O B (g1 3 l 1 fun w => q_mz O B i j w) := by
  have H := C.1
  have Ho := C.2.2.2.1
  have H3 := OnR_at Ho
  have hN := Ho.2.1.1
  have hR := Ho.2.1.2.1
  rw [e_Lc_module]
  simp (disch := first | assumption | omega) only [hc_ck, hc_gi, hc_gl, hc_gp, ap_I, ap_L, kd_I, kd_L, kd_P, kd_rI, ar_I, ar_L, ar_P, al_I, al_L, al_P, hop_s, cond_true, cond_false, pc_I_I, pc_L_L, pc_P_P, pc_I_L, pc_I_P, pc_L_I, pc_L_P, pc_P_I, pc_P_L, pc_sS_I, pc_sS_L, pc_sS_P, I_rI, L_rI, P_rI, S_rI, cv_r, ci_r, cl_r, o1_b, o1_0, o1_1, lc_e, nI_1, nI_add, if_true, if_false, Nat.reduceEqDiff, Nat.left_eq_add, Nat.add_eq_left, false_and, and_false, true_and, and_true, and_self, eq_self, Lc_k1, C.2.1, On_k, On_p0, On_k1, OnR_N, On_p1, On_k3, OnR_R, Lc_rf1, cv_e, z10]
  by_cases v : vi 3 l
  · obtain ⟨w, hw, rfl⟩ := v
    rw [g1_y (by omega) hw]
    have n0 : ¬ nI w < 0 := vi_0 (n := 3) (by omega) hw
    have n2 : ¬ (2 : Int32) < nI w := by
      rw [n_2, n_lt _ _ (by omega) (by omega)]
      omega
    unfold q_mz
    by_cases c1 : bin i (o_N O)
    · rw [if_pos ((iu0 i (by omega)).mpr c1)]
      by_cases c2 : bin j (o_R O)
      · rw [if_pos ((iu0 j (by omega)).mpr c2), if_neg n0, if_neg n2, if_pos ⟨c1, c2⟩]
        obtain ⟨u, eu, qu⟩ := Lc_m55 C S i j hw d
        exact ⟨u, f76_K qu, CB_76 C qu, eu⟩
      · rw [if_neg (fun e => c2 ((iu0 j (by omega)).mp e)), if_neg n0, if_neg n2, if_neg (fun e => c2 e.2)]
        exact QQ_n C
    · rw [if_neg (fun e => c1 ((iu0 i (by omega)).mp e)), if_neg n0, if_neg n2, if_neg (fun e => c1 e.1)]
      exact QQ_n C
  · rw [g1_n v]
    have fin : QQ (some (.inl 1, cr 1 h)) h o O B (.inl 1) := QQ_n C
    by_cases n0 : l < 0
    · simp only [if_pos n0]
      by_cases c1 : am_iushr i (nI (o_N O)) = 0
      · rw [if_pos c1]
        by_cases c2 : am_iushr j (nI (o_R O)) = 0
        · rw [if_pos c2]; exact fin
        · rw [if_neg c2]; exact fin
      · rw [if_neg c1]; exact fin
    · have n2 := vi3 v n0
      simp only [if_neg n0, if_pos n2]
      by_cases c1 : am_iushr i (nI (o_N O)) = 0
      · rw [if_pos c1]
        by_cases c2 : am_iushr j (nI (o_R O)) = 0
        · rw [if_pos c2]; exact fin
        · rw [if_neg c2]; exact fin
      · rw [if_neg c1]; exact fin
