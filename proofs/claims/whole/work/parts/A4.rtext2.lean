/-! ===== the reference: a text begun, read, taken over ===== -/
def d_0 : DT := ((0, 0, 2, 0, (fun p => if p = 0 then (1, 4294967295, 4294967295) else (2, 4294967295, 4294967295)), fun _ => (0, 0, 0, 0)), fun _ _ => 0, fun _ _ => 0)
theorem d_0w : wfD d_0 no_x := by
  refine ⟨by decide, by decide, by decide, by decide, rfl, rfl, fun p hp => ?_, fun k hk => absurd hk (Nat.not_lt_zero k), fun m hm => absurd hm (Nat.not_lt_zero m), fun p q hp hq kp => ?_, fun k hk => absurd hk (Nat.not_lt_zero k), fun k hk => absurd hk (Nat.not_lt_zero k)⟩
  · have hp2 : p < 2 := hp
    rcases (show p = 0 ∨ p = 1 by omega) with rfl | rfl
    · exact Or.inr (Or.inl ⟨rfl, rfl, rfl, rfl⟩)
    · exact Or.inr (Or.inr (Or.inl ⟨rfl, rfl, rfl, rfl⟩))
  · have hp2 : p < 2 := hp
    exfalso
    rcases (show p = 0 ∨ p = 1 by omega) with rfl | rfl
    · exact absurd kp (by decide)
    · exact absurd kp (by decide)
def fRo (r : Nat) (h h' : am_H) : Prop := am_S h' = am_S h ∧ am_G h' = am_G h ∧ am_T h' = am_T h ∧ am_P h' = am_P h ∧ am_L h' = am_L h ∧ (∀ b, b ≠ r → am_I h' b = am_I h b)
theorem fRo_r (r : Nat) (h : am_H) : fRo r h h := ⟨rfl, rfl, rfl, rfl, rfl, fun _ _ => rfl⟩
theorem fRo_w {r : Nat} {h0 h : am_H} (q : fRo r h0 h) (j : Nat) (v : Int32) : fRo r h0 (am_sI h r j v) := ⟨q.1, q.2.1, q.2.2.1, q.2.2.2.1, q.2.2.2.2.1, fun b p => by
  rw [← q.2.2.2.2.2 b p]
  funext i
  rw [pc_I_I, if_neg (fun e => p e.1)]⟩
theorem Rf_begins {h : am_H} {r : Nat} (hS : (am_S h)[r]? = some (9, 1604)) (d : Nat) : ∃ h', f_Rf_begins (d + 1) h r = some (.inr none, h') ∧ fRo r h h' ∧ RwD h' r d_0 := by
  have ar : ∀ (u : am_H), fRo r h u → ∀ j, j < 1604 → ∀ K, am_ar u 9 r (nI j) K = K j := fun u qu j hj K => ar_n (by rw [qu.1]; exact hS) hj (by omega) K
  have key : ∀ i, i ≤ 1604 → ∀ g : am_H, fRo r h g → (∀ j, j < i → am_I g r j = 0) → ∃ h', f_Rf_begins_2 (d + 1) g r (nI i) = some (.inr none, h') ∧ fRo r h h' ∧ RwD h' r d_0 := by
    refine dn ?_ ?_
    · intro g q z
      obtain ⟨u, eu⟩ : ∃ u, u = am_sI (am_sI (am_sI (am_sI g r 2 2) r 36 1) r 37 (-1)) r 38 (-1) := ⟨_, rfl⟩
      have q2 : fRo r h (am_sI g r 2 2) := fRo_w q _ _
      have qu : fRo r h u := by
        rw [eu]
        exact fRo_w (fRo_w (fRo_w q2 _ _) _ _) _ _
      obtain ⟨v, ev⟩ : ∃ v, v = am_sI (am_sI (am_sI u r 39 2) r 40 (-1)) r 41 (-1) := ⟨_, rfl⟩
      have qv : fRo r h v := by
        rw [ev]
        exact fRo_w (fRo_w (fRo_w qu _ _) _ _) _ _
      have l0 : f_Rf_lays d (am_sI g r 2 2) r 0 1 (-1) (-1) = some (.inr none, u) := by
        rw [e_Rf_lays, show (36 + 3 * 0 : Int32) = nI 36 by decide, ar _ q2 36 (by omega), show (nI 36 + 1 : Int32) = nI 37 by decide, ar _ (fRo_w q2 _ _) 37 (by omega), show (nI 36 + 2 : Int32) = nI 38 by decide, ar _ (fRo_w (fRo_w q2 _ _) _ _) 38 (by omega), eu]
      have l1 : f_Rf_lays d u r 1 2 (-1) (-1) = some (.inr none, v) := by
        rw [e_Rf_lays, show (36 + 3 * 1 : Int32) = nI 39 by decide, ar _ qu 39 (by omega), show (nI 39 + 1 : Int32) = nI 40 by decide, ar _ (fRo_w qu _ _) 40 (by omega), show (nI 39 + 2 : Int32) = nI 41 by decide, ar _ (fRo_w (fRo_w qu _ _) _ _) 41 (by omega), ev]
      have rd : ∀ j, j ≠ 2 → (j < 36 ∨ 42 ≤ j) → j < 1604 → am_I v r j = 0 := fun j a b c => by
        rw [ev, pc_I_I, if_neg (by omega), pc_I_I, if_neg (by omega), pc_I_I, if_neg (by omega), eu, pc_I_I, if_neg (by omega), pc_I_I, if_neg (by omega), pc_I_I, if_neg (by omega), pc_I_I, if_neg (by omega)]
        exact z j c
      refine ⟨v, ?_, qv, by rw [qv.1]; exact hS, by decide, ?_, ?_, ?_, ?_, fun p hp => ?_, fun k hk => absurd hk (Nat.not_lt_zero k), fun k hk => absurd hk (Nat.not_lt_zero k), fun k hk => absurd hk (Nat.not_lt_zero k)⟩
      · rw [e_Rf_begins_2, if_pos (by decide), show am_ar g 9 r 2 (fun j_1 => am_cv (f_Rf_lays d (am_sI g r j_1 2) r 0 1 (-1) (-1)) fun h_2 => am_cv (f_Rf_lays d h_2 r 1 2 (-1) (-1)) fun h_3 => some (Sum.inr none, h_3)) = _ from ar g q 2 (by omega) _, lz_cv l0, lz_cv l1]
      · exact rd 0 (by omega) (by omega) (by omega)
      · exact rd 1 (by omega) (by omega) (by omega)
      · rw [ev, pc_I_I, if_neg (by omega), pc_I_I, if_neg (by omega), pc_I_I, if_neg (by omega), eu, pc_I_I, if_neg (by omega), pc_I_I, if_neg (by omega), pc_I_I, if_neg (by omega), pc_I_I, if_pos ⟨rfl, rfl⟩]
        rfl
      · exact rd 3 (by omega) (by omega) (by omega)
      · have hp2 : p < 2 := hp
        rcases (show p = 0 ∨ p = 1 by omega) with rfl | rfl
        · refine ⟨?_, ?_, ?_⟩
          · show am_I v r 36 = 1
            rw [ev, pc_I_I, if_neg (by omega), pc_I_I, if_neg (by omega), pc_I_I, if_neg (by omega), eu, pc_I_I, if_neg (by omega), pc_I_I, if_neg (by omega), pc_I_I, if_pos ⟨rfl, rfl⟩]
          · show am_I v r 37 = nI 4294967295
            rw [ev, pc_I_I, if_neg (by omega), pc_I_I, if_neg (by omega), pc_I_I, if_neg (by omega), eu, pc_I_I, if_neg (by omega), pc_I_I, if_pos ⟨rfl, rfl⟩, lit_m1]
          · show am_I v r 38 = nI 4294967295
            rw [ev, pc_I_I, if_neg (by omega), pc_I_I, if_neg (by omega), pc_I_I, if_neg (by omega), eu, pc_I_I, if_pos ⟨rfl, rfl⟩, lit_m1]
        · refine ⟨?_, ?_, ?_⟩
          · show am_I v r 39 = 2
            rw [ev, pc_I_I, if_neg (by omega), pc_I_I, if_neg (by omega), pc_I_I, if_pos ⟨rfl, rfl⟩]
          · show am_I v r 40 = nI 4294967295
            rw [ev, pc_I_I, if_neg (by omega), pc_I_I, if_pos ⟨rfl, rfl⟩, lit_m1]
          · show am_I v r 41 = nI 4294967295
            rw [ev, pc_I_I, if_pos ⟨rfl, rfl⟩, lit_m1]
    · intro i hi ih g q z
      rw [e_Rf_begins_2, if_neg (by rw [show (1604 : Int32) = nI 1604 from rfl, n_le _ _ (by omega) (by omega)]; omega), ar g q i hi, nI_1]
      refine ih _ (fRo_w q _ _) (fun j hj => ?_)
      rw [pc_I_I]
      by_cases e : j = i
      · rw [if_pos ⟨rfl, e⟩]
      · rw [if_neg (fun x => e x.2)]
        exact z j (by omega)
  obtain ⟨u, eu, qu⟩ := key 0 (Nat.zero_le _) h (fRo_r r h) (fun j hj => absurd hj (Nat.not_lt_zero j))
  refine ⟨u, ?_, qu⟩
  rw [e_Rf_begins]
  exact eu
theorem Rf_copies {h : am_H} {r s : Nat} (hr : (am_S h)[r]? = some (9, 1604)) (hs : (am_S h)[s]? = some (9, 1604)) (hn : r ≠ s) (d : Nat) : ∃ h', f_Rf_copies d h r s = some (.inr none, h') ∧ fRo s h h' ∧ ∀ j, j < 1604 → am_I h' s j = am_I h r j := by
  have key : ∀ i, i ≤ 1604 → ∀ g : am_H, fRo s h g → (∀ j, j < i → am_I g s j = am_I h r j) → ∃ h', f_Rf_copies_2 d g r s (nI i) = some (.inr none, h') ∧ fRo s h h' ∧ ∀ j, j < 1604 → am_I h' s j = am_I h r j := by
    refine dn ?_ ?_
    · intro g q z
      refine ⟨g, ?_, q, z⟩
      rw [e_Rf_copies_2, if_pos (by decide)]
    · intro i hi ih g q z
      rw [e_Rf_copies_2, if_neg (by rw [show (1604 : Int32) = nI 1604 from rfl, n_le _ _ (by omega) (by omega)]; omega), ar_n (by rw [q.1]; exact hr) hi (by omega), ar_n (by rw [q.1]; exact hs) hi (by omega), nI_1]
      refine ih _ (fRo_w q _ _) (fun j hj => ?_)
      rw [pc_I_I]
      by_cases e : j = i
      · rw [if_pos ⟨rfl, e⟩, q.2.2.2.2.2 r hn, e]
      · rw [if_neg (fun x => e x.2)]
        exact z j (by omega)
  obtain ⟨u, eu, qu⟩ := key 0 (Nat.zero_le _) h (fRo_r s h) (fun j hj => absurd hj (Nat.not_lt_zero j))
  refine ⟨u, ?_, qu⟩
  rw [e_Rf_copies]
  exact eu
theorem RwD_cp {h h' : am_H} {r s : Nat} {D : DT} (H : RwD h r D) (hN : o_N D.1 ≤ 24) (hR : o_R D.1 ≤ 8) (hA : o_A D.1 ≤ 32) (hs : (am_S h')[s]? = some (9, 1604)) (hc : ∀ j, j < 1604 → am_I h' s j = am_I h r j) : RwD h' s D := by
  obtain ⟨h1, h2, h3, h4, h5, h6, h7, h8, h9, h10⟩ := H
  refine ⟨hs, h2, ?_, ?_, ?_, ?_, fun p hp => ?_, fun k hk => ?_, fun k hk => ?_, fun k hk => ?_⟩
  · rw [hc 0 (by omega)]; exact h3
  · rw [hc 1 (by omega)]; exact h4
  · rw [hc 2 (by omega)]; exact h5
  · rw [hc 3 (by omega)]; exact h6
  · rw [hc _ (by omega), hc _ (by omega), hc _ (by omega)]; exact h7 p hp
  · rw [hc _ (by omega), hc _ (by omega), hc _ (by omega), hc _ (by omega)]; exact h8 k hk
  · rw [hc _ (by omega)]; exact h9 k hk
  · rw [hc _ (by omega)]; exact h10 k hk
theorem RwD_R {h : am_H} {r : Nat} {D : DT} (H : RwD h r D) (w : wfD D no_x) (h60 : o_P D.1 ≤ 60) : RwR h r D.1 ∧ RwW h r D.1 D.2.1 D.2.2 := by
  obtain ⟨h1, h2, h3, h4, h5, h6, h7, h8, h9, h10⟩ := H
  refine ⟨⟨h1, wfD_ok w h60, h3, h4, h5, h6, h7, h8⟩, fun k hk => ?_, fun k hk => ?_⟩
  · obtain ⟨m, hm⟩ := w.2.2.2.2.2.2.2.2.2.2.1 k hk
    exact ⟨m, hm, h9 k hk⟩
  · obtain ⟨m, hm⟩ := w.2.2.2.2.2.2.2.2.2.2.2 k hk
    exact ⟨m, hm, h10 k hk⟩
theorem RwR_D {h : am_H} {r : Nat} {O : o_T} {WN WR : Nat → Nat → Nat} (H : RwR h r O) (W : RwW h r O WN WR) : RwD h r (O, WN, WR) ∧ wfD (O, WN, WR) no_x := by
  obtain ⟨h1, ok, h3, h4, h5, h6, h7, h8⟩ := H
  obtain ⟨k1, k2, k3, k4, k5, k6, k7, k8, k9, k10, k11⟩ := ok
  refine ⟨⟨h1, by show o_P O ≤ 480; omega, h3, h4, h5, h6, h7, h8, fun k hk => ?_, fun k hk => ?_⟩, k1, k2, k3, k5, k6, k7, k8, k9, fun n hn _ => k10 n hn, k11, fun k hk => ?_, fun k hk => ?_⟩
  · obtain ⟨m, hm, e⟩ := W.1 k hk
    exact e
  · obtain ⟨m, hm, e⟩ := W.2 k hk
    exact e
  · obtain ⟨m, hm, e⟩ := W.1 k hk
    exact ⟨m, hm⟩
  · obtain ⟨m, hm, e⟩ := W.2 k hk
    exact ⟨m, hm⟩
/-- frame: what a text leaves as it is -/
def fTx (f : Nat) (h h' : am_H) : Prop := am_S h' = am_S h ∧ am_G h' = am_G h ∧ am_T h' = am_T h ∧ am_P h' = am_P h ∧ (∀ b, b ≠ f → am_L h' b = am_L h b) ∧ (∀ b, b ≠ f → b ≠ f + 3 → b ≠ f + 4 → am_I h' b = am_I h b) ∧ (∀ j, j ≠ 0 → j ≠ 2 → j ≠ 3 → j ≠ 4 → j ≠ 5 → j ≠ 6 → j ≠ 7 → j ≠ 13 → j ≠ 14 → j ≠ 15 → j ≠ 16 → j ≠ 17 → j ≠ 42 → j ≠ 43 → am_I h' f j = am_I h f j)
theorem fTx_t {f : Nat} {a b c : am_H} (h1 : fTx f a b) (h2 : fTx f b c) : fTx f a c := ⟨h2.1.trans h1.1, h2.2.1.trans h1.2.1, h2.2.2.1.trans h1.2.2.1, h2.2.2.2.1.trans h1.2.2.2.1, fun b p => (h2.2.2.2.2.1 b p).trans (h1.2.2.2.2.1 b p), fun b p q r => (h2.2.2.2.2.2.1 b p q r).trans (h1.2.2.2.2.2.1 b p q r), fun j a1 a2 a3 a4 a5 a6 a7 a8 a9 a10 a11 a12 a13 a14 => (h2.2.2.2.2.2.2 j a1 a2 a3 a4 a5 a6 a7 a8 a9 a10 a11 a12 a13 a14).trans (h1.2.2.2.2.2.2 j a1 a2 a3 a4 a5 a6 a7 a8 a9 a10 a11 a12 a13 a14)⟩
theorem fPr_Tx {f : Nat} {h h' : am_H} (q : fPr f h h') : fTx f h h' := ⟨q.1, q.2.1, q.2.2.1, q.2.2.2.1, fun b _ => by rw [q.2.2.2.2.1], fun b p _ r => q.2.2.2.2.2.1 b p r, fun j _ _ _ p _ r s _ _ _ t _ _ _ => q.2.2.2.2.2.2 j p r s t⟩
theorem fRo_Tx {f r : Nat} (hr : r = f + 3 ∨ r = f + 4) {h h' : am_H} (q : fRo r h h') : fTx f h h' := ⟨q.1, q.2.1, q.2.2.1, q.2.2.2.1, fun b _ => by rw [q.2.2.2.2.1], fun b p s t => q.2.2.2.2.2 b (by omega), fun j _ _ _ _ _ _ _ _ _ _ _ _ _ _ => by rw [q.2.2.2.2.2 f (by omega)]⟩
theorem fTx_i {f : Nat} (h : am_H) {j : Nat} (hj : j = 0 ∨ j = 2 ∨ j = 3 ∨ j = 4 ∨ j = 5 ∨ j = 6 ∨ j = 7 ∨ j = 13 ∨ j = 14 ∨ j = 15 ∨ j = 16 ∨ j = 17 ∨ j = 42 ∨ j = 43) (v : Int32) : fTx f h (am_sI h f j v) := ⟨rfl, rfl, rfl, rfl, fun _ _ => rfl, fun b p _ _ => by
  funext i
  rw [pc_I_I, if_neg (fun e => p e.1)], fun i a1 a2 a3 a4 a5 a6 a7 a8 a9 a10 a11 a12 a13 a14 => by rw [pc_I_I, if_neg (by omega)]⟩
theorem fTx_at {f : Nat} {h h' : am_H} (q : fTx f h h') (H : RfAt h f) : RfAt h' f := RfAt_of H q.1 (fun _ _ _ => by rw [q.2.2.2.1])
/-- the reader opened -/
theorem Rf_opens {h : am_H} {f n : Nat} {T : Nat → Nat} (H : RfAt h f) (hn : n ≤ 400) (ht : ∀ k, k < n → T k < 256 ∧ am_I h (f + 2) k = nI (T k)) (d : Nat) : ∃ h', f_Rf_opens d h f (nI n) = some (.inr none, h') ∧ fTx f h h' ∧ (∀ b, b ≠ f → am_I h' b = am_I h b) ∧ (∀ j, j ≠ 2 → j ≠ 3 → j ≠ 4 → j ≠ 16 → j ≠ 6 → j ≠ 7 → am_I h' f j = am_I h f j) ∧ am_L h' = am_L h ∧ am_I h' f 2 = 0 ∧ TpR h' f T n ∧ am_I h' f 4 = nI 0 ∧ am_I h' f 6 = 0 ∧ am_I h' f 7 = -1 ∧ am_I h' f 16 = nI 0 := by
  obtain ⟨g, eg⟩ : ∃ g, g = am_sI (am_sI (am_sI (am_sI (am_sI (am_sI h f 2 0) f 3 (nI n)) f 4 0) f 16 0) f 6 0) f 7 (-1) := ⟨_, rfl⟩
  have q : fTx f h g := by
    rw [eg]
    exact fTx_t (fTx_i h (by omega) _) (fTx_t (fTx_i _ (by omega) _) (fTx_t (fTx_i _ (by omega) _) (fTx_t (fTx_i _ (by omega) _) (fTx_t (fTx_i _ (by omega) _) (fTx_i _ (by omega) _)))))
  have gb : ∀ b, b ≠ f → am_I g b = am_I h b := fun b p => by
    funext j
    rw [eg, pc_I_I, if_neg (fun e => p e.1), pc_I_I, if_neg (fun e => p e.1), pc_I_I, if_neg (fun e => p e.1), pc_I_I, if_neg (fun e => p e.1), pc_I_I, if_neg (fun e => p e.1), pc_I_I, if_neg (fun e => p e.1)]
  refine ⟨g, ?_, q, gb, fun j a1 a2 a3 a4 a5 a6 => ?_, by rw [eg]; rfl, ?_, ⟨hn, fun k hk => ?_, ?_⟩, ?_, ?_, ?_, ?_⟩
  · rw [e_Rf_opens, eg]
    simp (disch := first | assumption | omega) only [hc_ck, kd_I, Rf_k H, cond_true]
  · rw [eg, pc_I_I, if_neg (by omega), pc_I_I, if_neg (by omega), pc_I_I, if_neg (by omega), pc_I_I, if_neg (by omega), pc_I_I, if_neg (by omega), pc_I_I, if_neg (by omega)]
  · rw [eg, pc_I_I, if_neg (by omega), pc_I_I, if_neg (by omega), pc_I_I, if_neg (by omega), pc_I_I, if_neg (by omega), pc_I_I, if_neg (by omega), pc_I_I, if_pos ⟨rfl, rfl⟩]
  · rw [gb (f + 2) (by omega)]
    exact ht k hk
  · rw [eg, pc_I_I, if_neg (by omega), pc_I_I, if_neg (by omega), pc_I_I, if_neg (by omega), pc_I_I, if_neg (by omega), pc_I_I, if_pos ⟨rfl, rfl⟩]
  · rw [eg, pc_I_I, if_neg (by omega), pc_I_I, if_neg (by omega), pc_I_I, if_neg (by omega), pc_I_I, if_pos ⟨rfl, rfl⟩]
    rfl
  · rw [eg, pc_I_I, if_neg (by omega), pc_I_I, if_pos ⟨rfl, rfl⟩]
  · rw [eg, pc_I_I, if_pos ⟨rfl, rfl⟩]
  · rw [eg, pc_I_I, if_neg (by omega), pc_I_I, if_neg (by omega), pc_I_I, if_pos ⟨rfl, rfl⟩]
    rfl
