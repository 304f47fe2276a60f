/-! ===== the class settles ===== -/
def fQ (h h' : am_H) : Prop := am_S h' = am_S h ∧ am_G h' = am_G h ∧ am_T h' = am_T h ∧ (∀ b, b ≠ 1 → b < 41 ∨ 61 ≤ b → am_I h' b = am_I h b) ∧ (∀ j, j ≠ 8 → j ≠ 9 → am_I h' 1 j = am_I h 1 j) ∧ (∀ b, b < 42 ∨ 54 ≤ b → am_L h' b = am_L h b) ∧ (∀ b j, b ≠ 42 ∨ j ≠ 0 → am_P h' b j = am_P h b j)
theorem fQ_r (h : am_H) : fQ h h := ⟨rfl, rfl, rfl, fun _ _ _ => rfl, fun _ _ _ => rfl, fun _ _ => rfl, fun _ _ _ => rfl⟩
theorem fQ_t {a b c : am_H} (h1 : fQ a b) (h2 : fQ b c) : fQ a c := by
  obtain ⟨a1, a2, a3, a4, a5, a6, a7⟩ := h1
  obtain ⟨b1, b2, b3, b4, b5, b6, b7⟩ := h2
  exact ⟨b1.trans a1, b2.trans a2, b3.trans a3, fun x p q => (b4 x p q).trans (a4 x p q), fun j p q => (b5 j p q).trans (a5 j p q), fun x p => (b6 x p).trans (a6 x p), fun x j p => (b7 x j p).trans (a7 x j p)⟩
theorem fA_S {h h' : am_H} (q : fA 42 h h') : fQ h h' := ⟨q.1, q.2.1, q.2.2.1, fun b _ p => (q.2.2.2.1 b (by omega)).1, fun j _ _ => by rw [(q.2.2.2.1 1 (by omega)).1], fun b p => (q.2.2.2.1 b (by omega)).2, q.2.2.2.2⟩
theorem fJ_S {lo hi : Nat} {h h' : am_H} (q : fJ lo hi h h') (h1 : 41 ≤ lo) (h2 : hi ≤ 61) : fQ h h' := ⟨q.2.2.1, q.2.2.2.1, q.2.2.2.2.1, fun b _ p => q.2.2.2.2.2 b (by omega), fun j _ _ => by rw [q.2.2.2.2.2 1 (by omega)], fun b _ => by rw [q.1], fun b j _ => by rw [q.2.1]⟩
theorem fQ_f {h0 h : am_H} (q : fQ h0 h) {j : Nat} (hj : j = 8 ∨ j = 9) (v : Int32) : fQ h0 (am_sI h 1 j v) := by
  refine fQ_t q ⟨rfl, rfl, rfl, fun b p _ => ?_, fun i p r => ?_, fun _ _ => rfl, fun _ _ _ => rfl⟩
  · funext i
    rw [pc_I_I, if_neg (by omega)]
  · rw [pc_I_I, if_neg (by omega)]
theorem fQ_lc {h h' : am_H} (q : fQ h h') (H : LcAt h) : LcAt h' := LcAt_of H q.1 (fun b j p => q.2.2.2.2.2.2 b j (by unfold mP at p; omega))
theorem fQ_on {h h' : am_H} {o : Nat} {O : o_T} (q : fQ h h') (ho : o = 3 ∨ o = 20) (H : OnR h o O) : OnR h' o O := OnR_of H q.1 (fun j hj => by funext i; exact q.2.2.2.2.2.2 _ i (by omega)) (fun j hj => q.2.2.2.1 _ (by omega) (by omega))
theorem fQ_n {h h' : am_H} {o : Nat} {O : o_T} (q : fQ h h') (ho : o = 3 ∨ o = 20) (H : OnN h o O) : OnN h' o O := fun n hn => by
  rw [q.2.2.2.1 (o + 5) (by omega) (by omega)]
  exact H n hn
/-- all that follows is worked out -/
def LcL (h : am_H) (o : Nat) (O : o_T) (B : Nat → Prop) : Prop := ∃ k, k ≤ 32400 ∧ s_rds O B k ∧ am_I h 1 9 = nI k ∧ SaC h 42 o O B ∧ SaD h 42 O B (fun x => x < o_P O) (l_A O B) (l_K O B) (fun _ => 0) (fun _ _ => 0) ∧ HiR h 54 O B ∧ ∀ x y, x < o_P O → y < o_P O → am_I h 41 (x * 60 + y) = nI (w_c O B (k + 1) x y)
theorem SaC_J {lo hi s o : Nat} {O : o_T} {B : Nat → Prop} {h h' : am_H} (q : fJ lo hi h h') (h1 : hi ≤ s ∨ s + 12 ≤ lo) (h2 : hi ≤ o ∨ o + 17 ≤ lo) (H : SaC h s o O B) : SaC h' s o O B := by
  obtain ⟨a1, a2, a3, a4, a5, a6⟩ := q
  obtain ⟨c1, c2, c3, c4, c5, c6, c7, c8, c9⟩ := H
  have e0 : am_I h' s = am_I h s := a6 s (by omega)
  refine ⟨SaAt_of c1 a3 (fun j _ => by rw [a2]), OnR_of c2 a3 (fun j _ => by rw [a2]) (fun j hj => a6 _ (by omega)), ?_, ?_, ?_, ?_, ?_, ?_, ?_⟩
  · rw [a2]; exact c3
  · rw [e0]; exact c4
  · rw [e0]; exact c5
  · rw [a1]; exact c6
  · rw [e0, a6 (s + 1) (by omega), a6 (s + 2) (by omega)]; exact c7
  · rw [e0, a6 (s + 3) (by omega)]; exact c8
  · rw [a6 (s + 4) (by omega)]; exact c9
theorem SaC_1 {s o j : Nat} {O : o_T} {B : Nat → Prop} {h : am_H} {v : Int32} (h1 : 1 < s) (h2 : 1 < o) (H : SaC h s o O B) : SaC (am_sI h 1 j v) s o O B := SaC_J (lo := 1) (hi := 2) (fJ_w (fJ_r _ _ _) (by omega) (by omega) _ _) (by omega) (by omega) H
theorem SaD_L {s : Nat} {O : o_T} {B T : Nat → Prop} {A : Nat → Nat → Prop} {K : Nat → Nat → Nat → Prop} {nA : Nat → Int64} {nK : Nat → Nat → Int64} {h h' : am_H} (e : am_L h' = am_L h) (D : SaD h s O B T A K nA nK) : SaD h' s O B T A K nA nK := by
  unfold SaD at *
  rw [e]
  exact D
theorem Lc_settle {h : am_H} {o : Nat} {O : o_T} {B : Nat → Prop} (H : LcAt h) (hc : am_P h 1 3 = some o) (ho : o = 3 ∨ o = 20) (Ho : OnR h o O) (N : OnN h o O) (hB : am_L h o 10 = wL B) (hL : am_I h 1 8 = 0 ∨ (am_I h 1 8 = 1 ∧ LcL h o O B)) (d : Nat) : ∃ h', f_Lc_settle (d + 4) h 1 = some (.inr none, h') ∧ fQ h h' ∧ am_I h' 1 8 = 1 ∧ LcL h' o O B := by
  have ok := Ho.2.1
  have hP := ok.2.2.2.1
  have hP2 := ok.2.2.1
  have hR := ok.2.1
  have H3 := OnR_at Ho
  rcases hL with e8 | ⟨e8, L⟩
  · obtain ⟨k, hk, hr1, hr2⟩ := s_stops B ok
    have hk2 : s_A O B (k + 1) = s_A O B (k + 1) := rfl
    -- what holds between rounds: j rounds are done
    -- the end
    have fin : ∀ u : am_H, fQ h u → am_I u 1 9 = nI (k + 1) → SaC u 42 o O B → SaD u 42 O B (fun x => x < o_P O) (s_A O B (k + 1)) (s_K O B (k + 1)) (fun _ => 0) (fun _ _ => 0) → (∀ x y, x < o_P O → y < o_P O → am_I u 41 (x * 60 + y) = nI (w_c O B (k + 2) x y)) → ∃ h', f_Lc_settle_92 (d + 4) u 1 (bo false) = some (.inr none, h') ∧ fQ h h' ∧ am_I h' 1 8 = 1 ∧ LcL h' o O B := by
      intro u q e9 Cu Du Wu
      have Hu := fQ_lc q H
      have hcu : am_P u 1 3 = some o := by rw [q.2.2.2.2.2.2 1 3 (by omega)]; exact hc
      have q1 : fQ u (am_sI u 1 9 (nI k)) := fQ_f (fQ_r _) (Or.inr rfl) _
      have H1 := fQ_lc q1 Hu
      have Hou := fQ_on q ho Ho
      have Nu := fQ_n q ho N
      have C1 : SaC (am_sI u 1 9 (nI k)) 42 o O B := SaC_1 (by omega) (by omega) Cu
      have D1 : SaD (am_sI u 1 9 (nI k)) 42 O B (fun x => x < o_P O) (l_A O B) (l_K O B) (fun _ => 0) (fun _ _ => 0) := SaD_c (SaD_L rfl Du) (fun _ => Iff.rfl) (fun _ c => c) (fun x y hx => ⟨fun c => ⟨_, c⟩, fun c => Or.inl (((s_all ok hr1 hx).1 y).mp c)⟩) (fun x r y hx => ⟨fun c => ⟨_, c⟩, fun c => Or.inl (((s_all ok hr1 hx).2 r y).mp c)⟩) (fun _ _ => rfl) (fun _ _ _ => rfl)
      obtain ⟨v, ev, qv, Rv⟩ := Hi_build (B := B) (Lc_h H1) (Lc_w H1) (fQ_on q1 ho Hou) (fQ_n q1 ho Nu) (fun x hx => (D1.2.1 x hx hx).1) (by omega) d
      have qv' := fJ_S qv (by omega) (by omega)
      have Hv := fQ_lc qv' H1
      rw [e_Lc_settle_92]
      simp (disch := first | assumption | omega) only [hc_ck, hc_gi, hc_gl, hc_gp, ap_I, ap_L, kd_I, kd_L, kd_P, kd_rI, ar_I, ar_L, ar_P, al_I, al_L, al_P, hop_s, cond_true, cond_false, pc_I_I, pc_L_L, pc_P_P, pc_I_L, pc_I_P, pc_L_I, pc_L_P, pc_P_I, pc_P_L, pc_sS_I, pc_sS_L, pc_sS_P, I_rI, L_rI, P_rI, S_rI, cv_r, ci_r, cl_r, o1_b, o1_0, o1_1, lc_e, nI_1, nI_add, if_true, if_false, Nat.reduceEqDiff, Nat.left_eq_add, Nat.add_eq_left, false_and, and_false, true_and, and_true, and_self, eq_self, bo_f, Lc_k1, e9, nI_pred, Lc_p1_12, Lc_p1_11, hcu, Hi_k (Lc_h H1), Hi_k (Lc_h Hu), ev]
      refine ⟨_, rfl, fQ_f (fQ_t q (fQ_t q1 qv')) (Or.inl rfl) _, ?_, k, hk, ⟨hr1, hr2⟩, ?_, ?_, ?_, ?_, ?_⟩
      · rw [pc_I_I, if_pos ⟨rfl, rfl⟩]
      · rw [pc_I_I, if_neg (by omega), qv.2.2.2.2.2 1 (by omega), pc_I_I, if_pos ⟨rfl, rfl⟩]
      · exact SaC_1 (by omega) (by omega) (SaC_J qv (by omega) (by omega) C1)
      · exact SaD_L (show am_L (am_sI v 1 8 1) = am_L (am_sI u 1 9 (nI k)) from qv.1) D1
      · obtain ⟨b1, b2, b3, b4⟩ := Rv
        refine ⟨?_, ?_, ?_, ?_⟩
        · rw [pc_I_I, if_neg (by omega)]; exact b1
        · rw [pc_I_I, if_neg (by omega)]; exact b2
        · intro a ha
          rw [pc_I_I, if_neg (by omega)]; exact b3 a ha
        · intro n hn
          rw [pc_I_I, if_neg (by omega), pc_I_I, if_neg (by omega), pc_I_I, if_neg (by omega)]; exact b4 n hn
      · intro x y hx hy
        rw [pc_I_I, if_neg (by omega), qv.2.2.2.2.2 41 (by omega), pc_I_I, if_neg (by omega), Wu x y hx hy]
        by_cases c : s_A O B (k + 1) x y
        · rw [w_cs ⟨k, by omega, (hr1 x hx).1 y c⟩]
        · rw [w_cn c]
    have key : ∀ j, j ≤ k → ∀ u : am_H, fQ h u → am_I u 1 9 = nI j → SaC u 42 o O B → SaD u 42 O B (fun x => x < o_P O) (s_A O B j) (s_K O B j) (fun _ => 0) (fun _ _ => 0) → (∀ x y, x < o_P O → y < o_P O → am_I u 41 (x * 60 + y) = nI (w_c O B (j + 1) x y)) → ∃ h', f_Lc_settle_92 (d + 4) u 1 (bo true) = some (.inr none, h') ∧ fQ h h' ∧ am_I h' 1 8 = 1 ∧ LcL h' o O B := by
      -- one round
      have rnd : ∀ j, j ≤ k → ∀ u : am_H, fQ h u → am_I u 1 9 = nI j → SaC u 42 o O B → SaD u 42 O B (fun x => x < o_P O) (s_A O B j) (s_K O B j) (fun _ => 0) (fun _ _ => 0) → (∀ x y, x < o_P O → y < o_P O → am_I u 41 (x * 60 + y) = nI (w_c O B (j + 1) x y)) → ∃ (v : am_H) (m : Bool), f_Lc_settle_92 (d + 4) u 1 (bo true) = f_Lc_settle_92 (d + 4) v 1 (bo m) ∧ fQ h v ∧ am_I v 1 9 = nI (j + 1) ∧ SaC v 42 o O B ∧ SaD v 42 O B (fun x => x < o_P O) (s_A O B (j + 1)) (s_K O B (j + 1)) (fun _ => 0) (fun _ _ => 0) ∧ (∀ x y, x < o_P O → y < o_P O → am_I v 41 (x * 60 + y) = nI (w_c O B (j + 2) x y)) ∧ (m = false ↔ s_end O B j) := by
        intro j hj u q e9 Cu Du Wu
        have Hu := fQ_lc q H
        have hcu : am_P u 1 3 = some o := by rw [q.2.2.2.2.2.2 1 3 (by omega)]; exact hc
        have hj4 : ¬ 40000 ≤ j := by omega
        obtain ⟨v, ev, qv, Dv⟩ := Sa_deriveAll Cu Du (fun x r z c => (s_Kd ok c).2) (d + 1)
        have Cv := SaC_f Cu qv
        have qv' := fA_S (fL_A qv)
        have e9v : am_I v 1 9 = nI j := by rw [qv.1]; exact e9
        -- the notes
        have note : ∀ i, i ≤ o_P O → ∀ w : am_H, fJ 41 42 v w → (∀ x y, x < i → y < o_P O → am_I w 41 (x * 60 + y) = nI (w_c O B (j + 2) x y)) → (∀ x y, i ≤ x → x < o_P O → y < o_P O → am_I w 41 (x * 60 + y) = nI (w_c O B (j + 1) x y)) → ∃ w', f_Lc_settle_115 (d + 4) w 1 (nI i) = f_Lc_settle_115 (d + 4) w' 1 (nI (o_P O)) ∧ fJ 41 42 v w' ∧ (∀ x y, x < o_P O → y < o_P O → am_I w' 41 (x * 60 + y) = nI (w_c O B (j + 2) x y)) := by
          refine dn ?_ ?_
          · intro w qw a1 a2
            exact ⟨w, rfl, qw, a1⟩
          · intro i hi ih w qw a1 a2
            have qw' := fQ_t qv' (fJ_S qw (by omega) (by omega))
            have Hw := fQ_lc qw' Hu
            have hcw : am_P w 1 3 = some o := by rw [qw'.2.2.2.2.2.2 1 3 (by omega)]; exact hcu
            have How := fQ_on (fQ_t q qw') ho Ho
            have H3w := OnR_at How
            have Hsw := Lc_w Hw
            have hi3 : ¬ o_P O ≤ i := by omega
            have e9w : am_I w 1 9 = nI j := by rw [qw.2.2.2.2.2 1 (by omega)]; exact e9v
            have en : am_L w (42 + 10) i = wL (fun y => r_A O B (s_A O B j) (s_K O B j) i y ∧ ¬ s_A O B j i y) := by rw [qw.1]; exact (Dv.2.1 i hi hi).2.2.1
            obtain ⟨z, ez, qz, z1, z2, z3⟩ := Lc_noteRound Hw hcw How ho hi (fun y => r_A O B (s_A O B j) (s_K O B j) i y ∧ ¬ s_A O B j i y) (nI (j + 1)) (d + 3)
            rw [e_Lc_settle_115]
            simp (disch := first | assumption | omega) only [hc_ck, hc_gi, hc_gl, hc_gp, ap_I, ap_L, kd_I, kd_L, kd_P, kd_rI, ar_I, ar_L, ar_P, al_I, al_L, al_P, hop_s, cond_true, cond_false, pc_I_I, pc_L_L, pc_P_P, pc_I_L, pc_I_P, pc_L_I, pc_L_P, pc_P_I, pc_P_L, pc_sS_I, pc_sS_L, pc_sS_P, I_rI, L_rI, P_rI, S_rI, cv_r, ci_r, cl_r, o1_b, o1_0, o1_1, lc_e, nI_1, nI_add, if_true, if_false, Nat.reduceEqDiff, Nat.left_eq_add, Nat.add_eq_left, false_and, and_false, true_and, and_true, and_self, eq_self, Lc_k1, hcw, On_k, OnR_P, n_le, hi3, Lc_p1_11, Sa_k, Sa_p16, Sa_r10, en, e9w, ez]
            refine ih z (fJ_t qw qz) ?_ ?_
            · intro x y hx hy
              by_cases e : x = i
              · subst e
                by_cases c1 : s_A O B j x y
                · rw [z2 y hy (fun c => c.2 c1), a2 x y (Nat.le_refl x) hi hy, w_cs (k := j + 1) ⟨j, by omega, c1⟩]
                · by_cases c2 : r_A O B (s_A O B j) (s_K O B j) x y
                  · rw [z1 y hy ⟨c2, c1⟩, w_ce (k := j + 1) ((s_AS O B j x y).mpr (Or.inr c2)) (fun ⟨i, e1, e2⟩ => c1 (s_Am (by omega) e2))]
                  · rw [z2 y hy (fun c => c2 c.1), a2 x y (Nat.le_refl x) hi hy, w_cn (k := j + 1) (fun c => ((s_AS O B j x y).mp c).elim c1 c2)]
              · rw [z3 _ (by omega)]
                exact a1 x y (by omega) hy
            · intro x y h1 h2 h3
              rw [z3 _ (by omega)]
              exact a2 x y (by omega) h2 h3
        obtain ⟨w, ew, qw, Ww⟩ := note 0 (Nat.zero_le _) v (fJ_r _ _ _) (fun x y hx => absurd hx (Nat.not_lt_zero x)) (fun x y _ hx hy => by rw [qv.1]; exact Wu x y hx hy)
        have qw' := fJ_S qw (by omega) (by omega)
        have Hw := fQ_lc (fQ_t qv' qw') Hu
        have hcw : am_P w 1 3 = some o := by rw [(fQ_t qv' qw').2.2.2.2.2.2 1 3 (by omega)]; exact hcu
        have How := fQ_on (fQ_t q (fQ_t qv' qw')) ho Ho
        have H3w := OnR_at How
        have Hsw := Lc_w Hw
        have Cw : SaC w 42 o O B := SaC_J qw (by omega) (by omega) Cv
        have Dw := SaD_L (h' := w) qw.1 Dv
        obtain ⟨z, m, ez, qz, hm, Dz⟩ := Sa_commitAll (fun x y => r_A O B (s_A O B j) (s_K O B j) x y ∧ ¬ s_A O B j x y) (fun x r y => r_K O B (s_A O B j) (s_K O B j) x r y) Cw Dw (fun x r y c => (r_Kd ok (fun x r y e => (s_Kd ok e).2) c).1) (d + 1)
        have e9z : am_I z 1 9 = nI j := by rw [qz.1, qw.2.2.2.2.2 1 (by omega)]; exact e9v
        have qz' := fA_S (fL_A qz)
        have Hz := fQ_lc qz' Hw
        refine ⟨am_sI z 1 9 (nI (j + 1)), m, ?_, fQ_f (fQ_t q (fQ_t (fQ_t qv' qw') qz')) (Or.inr rfl) _, ?_, SaC_1 (by omega) (by omega) (SaC_f Cw qz), ?_, ?_, ?_⟩
        · have eq1 : f_Lc_settle_92 (d + 4) u 1 (bo true) = f_Lc_settle_115 (d + 4) v 1 0 := by
            have Hsu := Lc_w Hu
            rw [e_Lc_settle_92]
            simp (disch := first | assumption | omega) only [hc_ck, hc_gi, hc_gl, hc_gp, ap_I, ap_L, kd_I, kd_L, kd_P, kd_rI, ar_I, ar_L, ar_P, al_I, al_L, al_P, hop_s, cond_true, cond_false, pc_I_I, pc_L_L, pc_P_P, pc_I_L, pc_I_P, pc_L_I, pc_L_P, pc_P_I, pc_P_L, pc_sS_I, pc_sS_L, pc_sS_P, I_rI, L_rI, P_rI, S_rI, cv_r, ci_r, cl_r, o1_b, o1_0, o1_1, lc_e, nI_1, nI_add, if_true, if_false, Nat.reduceEqDiff, Nat.left_eq_add, Nat.add_eq_left, false_and, and_false, true_and, and_true, and_self, eq_self, bo_t, z10, Lc_k1, e9, show (40000 : Int32) = nI 40000 from rfl, n_le, hj4, Lc_p1_11, Sa_k, ev]
          rw [eq1]
          refine ew.trans ?_
          rw [e_Lc_settle_115]
          simp (disch := first | assumption | omega) only [hc_ck, hc_gi, hc_gl, hc_gp, ap_I, ap_L, kd_I, kd_L, kd_P, kd_rI, ar_I, ar_L, ar_P, al_I, al_L, al_P, hop_s, cond_true, cond_false, pc_I_I, pc_L_L, pc_P_P, pc_I_L, pc_I_P, pc_L_I, pc_L_P, pc_P_I, pc_P_L, pc_sS_I, pc_sS_L, pc_sS_P, I_rI, L_rI, P_rI, S_rI, cv_r, ci_r, cl_r, o1_b, o1_0, o1_1, lc_e, nI_1, nI_add, if_true, if_false, Nat.reduceEqDiff, Nat.left_eq_add, Nat.add_eq_left, false_and, and_false, true_and, and_true, and_self, eq_self, Lc_k1, hcw, On_k, OnR_P, n_le, Nat.le_refl, Lc_p1_11, Sa_k, ez, e9z]
        · rw [pc_I_I, if_pos ⟨rfl, rfl⟩]
        · refine SaD_c (SaD_L (h' := am_sI z 1 9 (nI (j + 1))) rfl Dz) (fun _ => Iff.rfl) (fun _ c => c) (fun x y _ => ⟨fun c => c.elim Or.inl (fun e => Or.inr e.1), fun c => ?_⟩) (fun x r y _ => Iff.rfl) (fun _ _ => rfl) (fun _ _ _ => rfl)
          rcases c with c | c
          · exact Or.inl c
          · by_cases c2 : s_A O B j x y
            · exact Or.inl c2
            · exact Or.inr ⟨c, c2⟩
        · intro x y hx hy
          rw [pc_I_I, if_neg (by omega), qz.1]
          exact Ww x y hx hy
        · constructor
          · intro e x hx
            have hno : ¬ ∃ x, x < o_P O ∧ ((∃ y, y < 64 ∧ (r_A O B (s_A O B j) (s_K O B j) x y ∧ ¬ s_A O B j x y)) ∨ ∃ r, r < o_R O ∧ ∃ y, y < 64 ∧ r_K O B (s_A O B j) (s_K O B j) x r y ∧ ¬ s_K O B j x r y) := by
              intro c
              rw [hm.mpr c] at e
              cases e
            refine ⟨fun y c => ?_, fun r y c => ?_⟩
            · rcases c with c | c
              · exact c
              · apply Classical.byContradiction
                intro c2
                exact hno ⟨x, hx, Or.inl ⟨y, by have := r_Ad ok c; omega, c, c2⟩⟩
            · rcases c with c | c
              · exact c
              · apply Classical.byContradiction
                intro c2
                have hd := r_Kd ok (fun x r y e => (s_Kd ok e).2) c
                exact hno ⟨x, hx, Or.inr ⟨r, hd.1, y, by omega, c, c2⟩⟩
          · intro e
            cases m with
            | false => rfl
            | true =>
              obtain ⟨x, hx, ⟨y, -, c1, c2⟩ | ⟨r, -, y, -, c1, c2⟩⟩ := hm.mp rfl
              · exact absurd ((e x hx).1 y (Or.inr c1)) c2
              · exact absurd ((e x hx).2 r y (Or.inr c1)) c2
      refine dn ?_ ?_
      · intro u q e9 Cu Du Wu
        obtain ⟨v, m, ev, qv, v9, Cv, Dv, Wv, hm⟩ := rnd k (Nat.le_refl _) u q e9 Cu Du Wu
        have : m = false := hm.mpr hr1
        subst this
        rw [ev]
        exact fin v qv v9 Cv Dv Wv
      · intro j hj ih u q e9 Cu Du Wu
        obtain ⟨v, m, ev, qv, v9, Cv, Dv, Wv, hm⟩ := rnd j (by omega) u q e9 Cu Du Wu
        have : m = true := by
          cases m with
          | true => rfl
          | false => exact absurd (hm.mp rfl) (hr2 j hj)
        subst this
        rw [ev]
        exact ih v qv v9 Cv Dv Wv
    -- the first round
    obtain ⟨g, eg, qg, Cg, Dg⟩ := Sa_begin (Lc_w H) Ho (by omega) B (fun x => x < o_P O) (fun _ c => c) (d + 1)
    have qg' := fA_S qg
    have fst : ∀ i, i ≤ o_P O → ∀ u : am_H, fJ 41 42 g u → (∀ x y, x < i → y < o_P O → am_I u 41 (x * 60 + y) = nI (w_c O B 1 x y)) → ∃ h', f_Lc_settle_35 (d + 4) u 1 (nI i) = some (.inr none, h') ∧ fQ h h' ∧ am_I h' 1 8 = 1 ∧ LcL h' o O B := by
      refine dn ?_ ?_
      · intro u q a1
        have q' := fQ_t qg' (fJ_S q (by omega) (by omega))
        have Hu := fQ_lc q' H
        have hcu : am_P u 1 3 = some o := by rw [q'.2.2.2.2.2.2 1 3 (by omega)]; exact hc
        have Hou := fQ_on q' ho Ho
        have H3u := OnR_at Hou
        rw [e_Lc_settle_35]
        simp (disch := first | assumption | omega) only [hc_ck, hc_gi, hc_gl, hc_gp, ap_I, ap_L, kd_I, kd_L, kd_P, kd_rI, ar_I, ar_L, ar_P, al_I, al_L, al_P, hop_s, cond_true, cond_false, pc_I_I, pc_L_L, pc_P_P, pc_I_L, pc_I_P, pc_L_I, pc_L_P, pc_P_I, pc_P_L, pc_sS_I, pc_sS_L, pc_sS_P, I_rI, L_rI, P_rI, S_rI, cv_r, ci_r, cl_r, o1_b, o1_0, o1_1, lc_e, nI_1, nI_add, if_true, if_false, Nat.reduceEqDiff, Nat.left_eq_add, Nat.add_eq_left, false_and, and_false, true_and, and_true, and_self, eq_self, Lc_k1, hcu, On_k, OnR_P, n_le, Nat.le_refl]
        refine key 0 (Nat.zero_le _) _ (fQ_f q' (Or.inr rfl) _) ?_ (SaC_1 (by omega) (by omega) (SaC_J q (by omega) (by omega) Cg)) ?_ ?_
        · rw [pc_I_I, if_pos ⟨rfl, rfl⟩]; rfl
        · refine SaD_c (SaD_L (h' := am_sI u 1 9 0) (show am_L (am_sI u 1 9 0) = am_L g from q.1) Dg) (fun _ => Iff.rfl) (fun _ c => c) (fun x y hx => ⟨And.right, fun c => ⟨hx, c⟩⟩) (fun _ _ _ _ => Iff.rfl) (fun _ _ => rfl) (fun _ _ _ => rfl)
        · intro x y hx hy
          rw [pc_I_I, if_neg (by omega)]
          exact a1 x y hx hy
      · intro i hi ih u q a1
        have q' := fQ_t qg' (fJ_S q (by omega) (by omega))
        have Hu := fQ_lc q' H
        have hcu : am_P u 1 3 = some o := by rw [q'.2.2.2.2.2.2 1 3 (by omega)]; exact hc
        have Hou := fQ_on q' ho Ho
        have H3u := OnR_at Hou
        have hi3 : ¬ o_P O ≤ i := by omega
        obtain ⟨v, ev, qv, v1, v2⟩ := Ar_fillR (n := 3600) (Hu.2.2.1 (41, 9, 3600) (by decide)) (by omega) (show i * 60 ≤ (i + 1) * 60 by omega) (by show (i + 1) * 60 ≤ 3600; omega) (-1) (d + 2)
        have qv' := fQ_t q' (fJ_S qv (by omega) (by omega))
        have Hv := fQ_lc qv' H
        have Hsv := Lc_w Hv
        have hcv : am_P v 1 3 = some o := by rw [qv'.2.2.2.2.2.2 1 3 (by omega)]; exact hc
        have Hov := fQ_on qv' ho Ho
        have ea : am_L v (42 + 5) i = wL (fun y => y = i ∨ y = 0) := by
          rw [qv.1, q.1]
          refine ((Dg.2.1 i hi hi).1).trans (wL_cong (fun y _ => ⟨And.right, fun c => ⟨hi, c⟩⟩))
        obtain ⟨w, ew, qw, w1, w2, w3⟩ := Lc_noteRound Hv hcv Hov ho hi (fun y => y = i ∨ y = 0) 0 (d + 3)
        rw [e_Lc_settle_35]
        simp (disch := first | assumption | omega) only [hc_ck, hc_gi, hc_gl, hc_gp, ap_I, ap_L, kd_I, kd_L, kd_P, kd_rI, ar_I, ar_L, ar_P, al_I, al_L, al_P, hop_s, cond_true, cond_false, pc_I_I, pc_L_L, pc_P_P, pc_I_L, pc_I_P, pc_L_I, pc_L_P, pc_P_I, pc_P_L, pc_sS_I, pc_sS_L, pc_sS_P, I_rI, L_rI, P_rI, S_rI, cv_r, ci_r, cl_r, o1_b, o1_0, o1_1, lc_e, nI_1, nI_add, if_true, if_false, Nat.reduceEqDiff, Nat.left_eq_add, Nat.add_eq_left, false_and, and_false, true_and, and_true, and_self, eq_self, Lc_k1, hcu, On_k, OnR_P, n_le, hi3, Lc_p1_10, n_m60, ev, Lc_p1_11, Sa_k, Sa_p11, Sa_r5, ea, ew]
        refine ih w (fJ_t q (fJ_t qv qw)) ?_
        intro x y hx hy
        by_cases e : x = i
        · subst e
          by_cases c : y = x ∨ y = 0
          · rw [w1 y hy c, w_ce (k := 0) ((s_A0 O B x y).mpr c) (fun ⟨j, e1, _⟩ => absurd e1 (Nat.not_lt_zero j))]
            rfl
          · rw [w2 y hy c, v1 _ (by omega) (by omega), w_cn (k := 0) (fun e => c ((s_A0 O B x y).mp e)), w_c0, lit_m1]
        · rw [w3 _ (by omega), v2 _ (by omega)]
          exact a1 x y (by omega) hy
    have Hsw := Lc_w H
    rw [e_Lc_settle]
    simp (disch := first | assumption | omega) only [hc_ck, hc_gi, hc_gl, hc_gp, ap_I, ap_L, kd_I, kd_L, kd_P, kd_rI, ar_I, ar_L, ar_P, al_I, al_L, al_P, hop_s, cond_true, cond_false, pc_I_I, pc_L_L, pc_P_P, pc_I_L, pc_I_P, pc_L_I, pc_L_P, pc_P_I, pc_P_L, pc_sS_I, pc_sS_L, pc_sS_P, I_rI, L_rI, P_rI, S_rI, cv_r, ci_r, cl_r, o1_b, o1_0, o1_1, lc_e, nI_1, nI_add, if_true, if_false, Nat.reduceEqDiff, Nat.left_eq_add, Nat.add_eq_left, false_and, and_false, true_and, and_true, and_self, eq_self, Lc_k1, e8, hc, Lc_p1_11, On_k, hB, On_allParts, Sa_k, eg]
    exact fst 0 (Nat.zero_le _) g (fJ_r _ _ _) (fun x y hx => absurd hx (Nat.not_lt_zero x))
  · refine ⟨h, ?_, fQ_r _, e8, L⟩
    rw [e_Lc_settle]
    simp (disch := first | assumption | omega) only [hc_ck, hc_gi, hc_gl, hc_gp, ap_I, ap_L, kd_I, kd_L, kd_P, kd_rI, ar_I, ar_L, ar_P, al_I, al_L, al_P, hop_s, cond_true, cond_false, pc_I_I, pc_L_L, pc_P_P, pc_I_L, pc_I_P, pc_L_I, pc_L_P, pc_P_I, pc_P_L, pc_sS_I, pc_sS_L, pc_sS_P, I_rI, L_rI, P_rI, S_rI, cv_r, ci_r, cl_r, o1_b, o1_0, o1_1, lc_e, nI_1, nI_add, if_true, if_false, Nat.reduceEqDiff, Nat.left_eq_add, Nat.add_eq_left, false_and, and_false, true_and, and_true, and_self, eq_self, Lc_k1, e8, z10]
