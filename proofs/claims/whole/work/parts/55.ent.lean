/-! ===== saturate, entails ===== -/
theorem wL_b1 {n : Nat} (hn : n < 64) : am_lshl 1 (nI n) = wL (fun k => k = n) := wL_of (fun k _ => by rw [xl_b1 hn, decide_eq_true_iff])
theorem s_SE_l {h : am_H} {s o : Nat} {O : o_T} {B T : Nat → Prop} {A : Nat → Nat → Prop} {K : Nat → Nat → Nat → Prop} (W : SW h s o O B T A K) (E : s_SE O B T A K) {x : Nat} (hx : T x) : (∀ y, A x y ↔ l_A O B x y) ∧ (∀ r y, K x r y ↔ l_K O B x r y) := by
  obtain ⟨-, -, wT, wA, w0, wK, wsA, wsK⟩ := W
  have q := s_least (O := O) (B := B) (T := T) (A := A) (K := K) w0 (fun x r y _ c => (wK x r y c).2) (fun x y hx c => (E x hx).1 y c) (fun x r y hx c => (E x hx).2 r y c)
  exact ⟨fun y => ⟨wsA x y, fun ⟨k, c⟩ => (q k x hx).1 y c⟩, fun r y => ⟨wsK x r y, fun ⟨k, c⟩ => (q k x hx).2 r y c⟩⟩
theorem SW_0 {h : am_H} {s o : Nat} {O : o_T} {B S : Nat → Prop} (H : SaC h s o O B) (hS : ∀ x, S x → x < o_P O) (D : SaD h s O B S (fun x y => S x ∧ (y = x ∨ y = 0)) (fun _ _ _ => False) (fun _ => 0) (fun _ _ => 0)) : SW h s o O B S (fun x y => S x ∧ (y = x ∨ y = 0)) (fun _ _ _ => False) := by
  refine ⟨H, D, hS, fun x y c => c.1, fun x c => ⟨⟨c, Or.inl rfl⟩, ⟨c, Or.inr rfl⟩⟩, fun _ _ _ f => f.elim, ?_, fun _ _ _ f => f.elim⟩
  rintro x y ⟨-, rfl | rfl⟩
  · exact l_A0 O B y
  · exact l_AT O B x
theorem Sa_saturate {h : am_H} {s o : Nat} {O : o_T} (H1 : SaAt h s) (H2 : OnR h o O) (hd : o + 17 ≤ s ∨ s + 12 ≤ o) (B S : Nat → Prop) (hS : ∀ x, S x → x < o_P O) (d : Nat) :
    ∃ (h' : am_H) (T : Nat → Prop), f_Sa_saturate (d + 3) h s o (wL B) (wL S) = some (.inr none, h') ∧ fA s h h' ∧ SaC h' s o O B ∧ SaD h' s O B T (l_A O B) (l_K O B) (fun _ => 0) (fun _ _ => 0) ∧ (∀ x, S x → T x) ∧ (∀ x, T x → x < o_P O) ∧ (∀ x r y, T x → l_K O B x r y → T y) := by
  obtain ⟨g, eg, qg, Hg, Dg⟩ := Sa_begin H1 H2 hd B S hS d
  have key : ∀ n i (u : am_H) (m : Bool) (T : Nat → Prop) (A : Nat → Nat → Prop) (K : Nat → Nat → Nat → Prop), fL s g u → SW u s o O B T A K → (∀ x, S x → T x) → (m = true → i ≤ s_ct A K ∧ 32400 < i + n) → (m = false → s_SE O B T A K) →
      ∃ (h' : am_H) (T : Nat → Prop) (A : Nat → Nat → Prop) (K : Nat → Nat → Nat → Prop), f_Sa_saturate_14 (d + 3) u s (bo m) (nI i) = some (.inr none, h') ∧ fL s g h' ∧ SW h' s o O B T A K ∧ (∀ x, S x → T x) ∧ s_SE O B T A K := by
    intro n
    induction n with
    | zero =>
      intro i u m T A K q W hT h1 h0
      cases m with
      | true =>
        have := h1 rfl
        have := s_ctle A K
        omega
      | false =>
        refine ⟨u, T, A, K, ?_, q, W, hT, h0 rfl⟩
        rw [e_Sa_saturate_14]
        simp only [bo_f, if_true]
    | succ n ih =>
      intro i u m T A K q W hT h1 h0
      cases m with
      | false =>
        refine ⟨u, T, A, K, ?_, q, W, hT, h0 rfl⟩
        rw [e_Sa_saturate_14]
        simp only [bo_f, if_true]
      | true =>
        have h2 := h1 rfl
        have h3 := s_ctle A K
        have h4 : ¬ 40000 ≤ i := by omega
        have H0 := W.1
        have H1 := SaC_at H0
        obtain ⟨v, m', T', A', K', ev, qv, W', hTT, hm1, hm0⟩ := Sa_sweep W d
        rw [e_Sa_saturate_14]
        simp (disch := first | assumption | omega) only [hc_ck, hc_gi, hc_gl, hc_gp, hc_ap, kd_I, kd_L, kd_P, kd_rI, ar_I, ar_L, ar_P, al_I, al_L, al_P, hop_s, cond_true, cond_false, pc_I_I, pc_L_L, pc_P_P, pc_I_L, pc_I_P, pc_L_I, pc_L_P, pc_P_I, pc_P_L, pc_sS_I, pc_sS_L, pc_sS_P, I_rI, L_rI, P_rI, S_rI, cv_r, ci_r, cl_r, o1_b, o1_0, o1_1, lc_e, nI_1, nI_add, if_true, if_false, Nat.reduceEqDiff, Nat.left_eq_add, Nat.add_eq_left, false_and, and_false, true_and, and_true, and_self, eq_self, bo_t, z10, show (40000 : Int32) = nI 40000 from rfl, n_le, h4, Sa_k, ev]
        exact ih (i + 1) v m' T' A' K' (fL_t q qv) W' (fun x hx => hTT x (hT x hx)) (fun e => by have := hm1 e; omega) hm0
  obtain ⟨v, T, A, K, ev, qv, W, hT, E⟩ := key 32401 0 g true S _ _ (fL_r _ _) (SW_0 Hg hS Dg) (fun _ c => c) (fun _ => ⟨Nat.zero_le _, by omega⟩) (fun e => by cases e)
  refine ⟨v, T, ?_, fA_t qg (fL_A qv), W.1, SaD_c W.2.1 (fun _ => Iff.rfl) W.2.2.1 (fun x y hx => (s_SE_l W E hx).1 y) (fun x r y hx => (s_SE_l W E hx).2 r y) (fun _ _ => rfl) (fun _ _ _ => rfl), hT, W.2.2.1, fun x r y hx c => (W.2.2.2.2.2.1 x r y (((s_SE_l W E hx).2 r y).mpr c)).2⟩
  rw [e_Sa_saturate]
  simp (disch := first | assumption | omega) only [hc_ck, hc_gi, hc_gl, hc_gp, hc_ap, kd_I, kd_L, kd_P, kd_rI, ar_I, ar_L, ar_P, al_I, al_L, al_P, hop_s, cond_true, cond_false, pc_I_I, pc_L_L, pc_P_P, pc_I_L, pc_I_P, pc_L_I, pc_L_P, pc_P_I, pc_P_L, pc_sS_I, pc_sS_L, pc_sS_P, I_rI, L_rI, P_rI, S_rI, cv_r, ci_r, cl_r, o1_b, o1_0, o1_1, lc_e, nI_1, nI_add, if_true, if_false, Nat.reduceEqDiff, Nat.left_eq_add, Nat.add_eq_left, false_and, and_false, true_and, and_true, and_self, eq_self, Sa_k, eg]
  exact ev
theorem Sa_entails {h : am_H} {s o : Nat} {O : o_T} (H1 : SaAt h s) (H2 : OnR h o O) (hd : o + 17 ≤ s ∨ s + 12 ≤ o) (B : Nat → Prop) {x y : Nat} (hx : x < o_P O) (hy : y < o_P O) (d : Nat) :
    ∃ (h' : am_H) (b : Bool), f_Sa_entails (d + 3) h s o (wL B) (nI x) (nI y) = some (.inr (some (.int (bo b))), h') ∧ fA s h h' ∧ (b = true ↔ l_be O B x y) := by
  have ok4 := H2.2.1.2.2.2.1
  obtain ⟨g, eg, qg, Hg, Dg⟩ := Sa_begin H1 H2 hd B (fun k => k = x) (fun k e => e ▸ hx) d
  have key : ∀ n i (u : am_H) (m : Bool) (T : Nat → Prop) (A : Nat → Nat → Prop) (K : Nat → Nat → Nat → Prop), fL s g u → SW u s o O B T A K → T x → (m = true → i ≤ s_ct A K ∧ 32400 < i + n) → (m = false → s_SE O B T A K) →
      ∃ (h' : am_H) (b : Bool), f_Sa_entails_16 (d + 3) u s (nI x) (nI y) (bo m) (nI i) = some (.inr (some (.int (bo b))), h') ∧ fL s g h' ∧ (b = true ↔ l_be O B x y) := by
    intro n
    have hf : ∀ i (u : am_H) (T : Nat → Prop) (A : Nat → Nat → Prop) (K : Nat → Nat → Nat → Prop), fL s g u → SW u s o O B T A K → T x → s_SE O B T A K →
        ∃ (h' : am_H) (b : Bool), f_Sa_entails_16 (d + 3) u s (nI x) (nI y) (bo false) (nI i) = some (.inr (some (.int (bo b))), h') ∧ fL s g h' ∧ (b = true ↔ l_be O B x y) := by
      intro i u T A K q W hT h0
      have H0 := W.1
      have H1 := SaC_at H0
      obtain ⟨b, eb, hb⟩ := Sa_isBelow H1 (x := x) (y := y) (by omega) (by omega) (W.2.1.2.1 x hx hT).1 (d + 1)
      refine ⟨u, b, ?_, q, ?_⟩
      · rw [e_Sa_entails_16]
        simp (disch := first | assumption | omega) only [hc_ck, hc_gi, hc_gl, hc_gp, hc_ap, kd_I, kd_L, kd_P, kd_rI, ar_I, ar_L, ar_P, al_I, al_L, al_P, hop_s, cond_true, cond_false, pc_I_I, pc_L_L, pc_P_P, pc_I_L, pc_I_P, pc_L_I, pc_L_P, pc_P_I, pc_P_L, pc_sS_I, pc_sS_L, pc_sS_P, I_rI, L_rI, P_rI, S_rI, cv_r, ci_r, cl_r, o1_b, o1_0, o1_1, lc_e, nI_1, nI_add, if_true, if_false, Nat.reduceEqDiff, Nat.left_eq_add, Nat.add_eq_left, false_and, and_false, true_and, and_true, and_self, eq_self, bo_f, Sa_k, eb]
      · rw [hb]
        exact or_congr ((s_SE_l W h0 hT).1 y) ((s_SE_l W h0 hT).1 1)
    induction n with
    | zero =>
      intro i u m T A K q W hT h1 h0
      cases m with
      | true =>
        have := h1 rfl
        have := s_ctle A K
        omega
      | false => exact hf i u T A K q W hT (h0 rfl)
    | succ n ih =>
      intro i u m T A K q W hT h1 h0
      cases m with
      | false => exact hf i u T A K q W hT (h0 rfl)
      | true =>
        have h2 := h1 rfl
        have h3 := s_ctle A K
        have h4 : ¬ 40000 ≤ i := by omega
        have H0 := W.1
        have H1 := SaC_at H0
        obtain ⟨b, eb, hb⟩ := Sa_isBelow H1 (x := x) (y := y) (by omega) (by omega) (W.2.1.2.1 x hx hT).1 (d + 1)
        obtain ⟨v, m', T', A', K', ev, qv, W', hTT, hm1, hm0⟩ := Sa_sweep W d
        rw [e_Sa_entails_16]
        simp (disch := first | assumption | omega) only [hc_ck, hc_gi, hc_gl, hc_gp, hc_ap, kd_I, kd_L, kd_P, kd_rI, ar_I, ar_L, ar_P, al_I, al_L, al_P, hop_s, cond_true, cond_false, pc_I_I, pc_L_L, pc_P_P, pc_I_L, pc_I_P, pc_L_I, pc_L_P, pc_P_I, pc_P_L, pc_sS_I, pc_sS_L, pc_sS_P, I_rI, L_rI, P_rI, S_rI, cv_r, ci_r, cl_r, o1_b, o1_0, o1_1, lc_e, nI_1, nI_add, if_true, if_false, Nat.reduceEqDiff, Nat.left_eq_add, Nat.add_eq_left, false_and, and_false, true_and, and_true, and_self, eq_self, bo_t, z10, show (40000 : Int32) = nI 40000 from rfl, n_le, h4, Sa_k, eb, bo_0]
        cases b with
        | true =>
          refine ⟨u, true, ?_, q, ?_⟩
          · simp only [Bool.true_eq_false, if_false]
          · exact ⟨fun _ => (hb.mp rfl).imp (W.2.2.2.2.2.2.1 x y) (W.2.2.2.2.2.2.1 x 1), fun _ => rfl⟩
        | false =>
          simp (disch := first | assumption | omega) only [hc_ck, hc_gi, hc_gl, hc_gp, hc_ap, kd_I, kd_L, kd_P, kd_rI, ar_I, ar_L, ar_P, al_I, al_L, al_P, hop_s, cond_true, cond_false, pc_I_I, pc_L_L, pc_P_P, pc_I_L, pc_I_P, pc_L_I, pc_L_P, pc_P_I, pc_P_L, pc_sS_I, pc_sS_L, pc_sS_P, I_rI, L_rI, P_rI, S_rI, cv_r, ci_r, cl_r, o1_b, o1_0, o1_1, lc_e, nI_1, nI_add, if_true, if_false, Nat.reduceEqDiff, Nat.left_eq_add, Nat.add_eq_left, false_and, and_false, true_and, and_true, and_self, eq_self, ev, Sa_k]
          exact ih (i + 1) v m' T' A' K' (fL_t q qv) W' (hTT x hT) (fun e => by have := hm1 e; omega) hm0
  obtain ⟨v, b, ev, qv, hb⟩ := key 32401 0 g true (fun k => k = x) _ _ (fL_r _ _) (SW_0 Hg (fun k (e : k = x) => e ▸ hx) Dg) rfl (fun _ => ⟨Nat.zero_le _, by omega⟩) (fun e => by cases e)
  refine ⟨v, b, ?_, fA_t qg (fL_A qv), hb⟩
  rw [e_Sa_entails, wL_b1 (by omega)]
  simp (disch := first | assumption | omega) only [hc_ck, hc_gi, hc_gl, hc_gp, hc_ap, kd_I, kd_L, kd_P, kd_rI, ar_I, ar_L, ar_P, al_I, al_L, al_P, hop_s, cond_true, cond_false, pc_I_I, pc_L_L, pc_P_P, pc_I_L, pc_I_P, pc_L_I, pc_L_P, pc_P_I, pc_P_L, pc_sS_I, pc_sS_L, pc_sS_P, I_rI, L_rI, P_rI, S_rI, cv_r, ci_r, cl_r, o1_b, o1_0, o1_1, lc_e, nI_1, nI_add, if_true, if_false, Nat.reduceEqDiff, Nat.left_eq_add, Nat.add_eq_left, false_and, and_false, true_and, and_true, and_self, eq_self, Sa_k, eg]
  exact ev
/-! ===== which axioms have a say ===== -/
/-- axioms that can be used among T -/
def u_k (O : o_T) (B T : Nat → Prop) (k : Nat) : Prop := k < o_A O ∧ B k ∧ ((o_ak O k = 0 ∧ ∃ x, T x ∧ l_A O B x (o_a1 O k)) ∨ (o_ak O k = 1 ∧ ∃ x, T x ∧ (l_A O B x (o_a1 O k) ∨ l_A O B x (o_a2 O k))) ∨ (o_ak O k = 2 ∧ ∃ x y q, T x ∧ o_un O B q (o_a1 O k) ∧ l_K O B x q y) ∨ (o_ak O k = 3 ∧ (∃ x y q, T x ∧ o_un O B q (o_a1 O k) ∧ l_K O B x q y) ∧ ∃ x y q, T x ∧ o_un O B q (o_a2 O k) ∧ l_K O B x q y))
theorem u_un {O : o_T} {B T C : Nat → Prop} (hC : ∀ k, C k → B k) {x y q r : Nat} (Tx : T x) (hk : l_K O B x q y) (h : o_un O C q r) : o_un O (fun k => C k ∧ u_k O B T k) q r := by
  obtain ⟨n, h⟩ := h
  induction n generalizing r with
  | zero => exact ⟨0, h⟩
  | succ n ih =>
    obtain ⟨p, h1, k, h2, h3, h4, rfl, rfl⟩ := h
    have i := ih h1
    refine o_un_tr i (o_un_d ⟨k, h2, ⟨h3, h2, hC k h3, Or.inr (Or.inr (Or.inl ⟨h4, x, y, q, Tx, o_un_m hC ⟨n, h1⟩, hk⟩))⟩, h4, rfl, rfl⟩)
theorem u_all {O : o_T} {B T C : Nat → Prop} (hC : ∀ k, C k → B k) (hT : ∀ x r y, T x → l_K O B x r y → T y) : ∀ n x, T x → (∀ y, s_A O C n x y → s_A O (fun k => C k ∧ u_k O B T k) n x y) ∧ (∀ r y, s_K O C n x r y → s_K O (fun k => C k ∧ u_k O B T k) n x r y)
  | 0, _, _ => ⟨fun _ c => c, fun _ _ c => c⟩
  | n + 1, x, Tx => by
    obtain ⟨i1, i2⟩ := u_all hC hT n x Tx
    have lA : ∀ x y, s_A O C n x y → l_A O B x y := fun x y c => l_mA hC ⟨n, c⟩
    have lK : ∀ x r y, s_K O C n x r y → l_K O B x r y := fun x r y c => l_mK hC ⟨n, c⟩
    refine ⟨fun y h => ?_, fun r y h => ?_⟩
    · rcases h with h | h
      · exact Or.inl (i1 y h)
      · refine Or.inr ?_
        rcases h with ⟨c, h1, k, h2, h3, h4⟩ | ⟨p, h1, h2, h3, h4⟩ | ⟨h1, h2, h3, h4⟩ | ⟨h1, h2, z, ⟨r, h3, h4⟩, h5⟩ | ⟨h1, z, ⟨r, h2⟩, h3⟩
        · refine Or.inl ⟨c, i1 c h1, k, h2, ⟨h3, h2, hC k h3, ?_⟩, h4⟩
          rcases h4 with ⟨a, rfl, -⟩ | ⟨a, rfl, -⟩
          · rcases (show o_ak O k = 0 ∨ o_ak O k = 1 by omega) with e | e
            · exact Or.inl ⟨e, x, Tx, lA x _ h1⟩
            · exact Or.inr (Or.inl ⟨e, x, Tx, Or.inl (lA x _ h1)⟩)
          · exact Or.inr (Or.inl ⟨a, x, Tx, Or.inr (lA x _ h1)⟩)
        · exact Or.inr (Or.inl ⟨p, h1, h2, i1 p h3, h4⟩)
        · exact Or.inr (Or.inr (Or.inl ⟨h1, h2, i1 _ h3, i1 _ h4⟩))
        · exact Or.inr (Or.inr (Or.inr (Or.inl ⟨h1, h2, z, ⟨r, u_un hC Tx (lK x r z h4) h3, i2 r z h4⟩, (u_all hC hT n z (hT x r z Tx (lK x r z h4))).1 _ h5⟩)))
        · exact Or.inr (Or.inr (Or.inr (Or.inr ⟨h1, z, ⟨r, i2 r z h2⟩, (u_all hC hT n z (hT x r z Tx (lK x r z h2))).1 _ h3⟩)))
    · rcases h with h | h
      · exact Or.inl (i2 r y h)
      · refine Or.inr ?_
        rcases h with ⟨p, h1, h2, h3, h4⟩ | ⟨k, h1, h2, h3, h4, z, ⟨q, h5, h6⟩, ⟨t, h7, h8⟩⟩
        · exact Or.inl ⟨p, h1, h2, i1 p h3, h4⟩
        · have Tz := hT x q z Tx (lK x q z h6)
          refine Or.inr ⟨k, h1, ⟨h2, h1, hC k h2, Or.inr (Or.inr (Or.inr ⟨h3, ⟨x, z, q, Tx, o_un_m hC h5, lK x q z h6⟩, ⟨z, y, t, Tz, o_un_m hC h7, lK z t y h8⟩⟩))⟩, h3, h4, z, ⟨q, u_un hC Tx (lK x q z h6) h5, i2 q z h6⟩, ⟨t, u_un hC Tz (lK z t y h8) h7, (u_all hC hT n z Tz).2 t y h8⟩⟩
/-- the others have none -/
theorem u_be {O : o_T} {B T C : Nat → Prop} (hC : ∀ k, C k → B k) (hT : ∀ x r y, T x → l_K O B x r y → T y) {x y : Nat} (Tx : T x) : l_be O C x y ↔ l_be O (fun k => C k ∧ u_k O B T k) x y := by
  constructor
  · rintro (⟨n, h⟩ | ⟨n, h⟩)
    · exact Or.inl ⟨n, (u_all hC hT n x Tx).1 y h⟩
    · exact Or.inr ⟨n, (u_all hC hT n x Tx).1 1 h⟩
  · exact l_mb (fun k c => c.1)
