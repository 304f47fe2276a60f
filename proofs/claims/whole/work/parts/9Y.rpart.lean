/-! ===== the reference reads: parts ===== -/
theorem RwD_k {h : am_H} {r : Nat} {D : DT} (H : RwD h r D) {p : Nat} (hp : p < o_P D.1) (d : Nat) : f_Rf_kindOf d h r (nI p) = some (.inr (some (.int (nI (o_pk D.1 p)))), h) ∧ f_Rf_oneOf d h r (nI p) = some (.inr (some (.int (nI (o_pa D.1 p)))), h) ∧ f_Rf_otherOf d h r (nI p) = some (.inr (some (.int (nI (o_pb D.1 p)))), h) := by
  have h4 := H.2.1
  obtain ⟨e1, e2, e3⟩ := H.2.2.2.2.2.2.1 p hp
  refine ⟨?_, ?_, ?_⟩
  · rw [e_Rf_kindOf, n_36, n_3m, nI_add, RwD_ar H (by omega), e1]
  · rw [e_Rf_oneOf, n_36, n_3m, nI_add, nI_1, RwD_ar H (by omega), e2]
  · rw [e_Rf_otherOf, n_36, n_3m, nI_add, n_2, nI_add, RwD_ar H (by omega), e3]
theorem okP_b {O : o_T} {p : Nat} (h : o_okP O p) (hp : p ≤ 480) (h1 : o_N O ≤ 24) (h2 : o_R O ≤ 8) : o_pk O p < 4294967296 ∧ o_pa O p < 4294967296 ∧ o_pb O p < 4294967296 := by
  unfold o_okP at h
  omega
theorem RwD_aP {h : am_H} {r : Nat} {D : DT} (H : RwD h r D) (k x y : Nat) (hp : o_P D.1 < 480) (hN : o_N D.1 ≤ 24) (hR : o_R D.1 ≤ 8) : RwD (am_sI (am_sI (am_sI (am_sI h r (36 + 3 * o_P D.1) (nI k)) r (36 + 3 * o_P D.1 + 1) (nI x)) r (36 + 3 * o_P D.1 + 2) (nI y)) r 2 (nI (o_P D.1 + 1))) r (d_addP D k x y) := by
  obtain ⟨h1, h2, h3, h4, h5, h6, h7, h8, h9, h10⟩ := H
  have rd : ∀ j, j ≠ 2 → j ≠ 36 + 3 * o_P D.1 → j ≠ 36 + 3 * o_P D.1 + 1 → j ≠ 36 + 3 * o_P D.1 + 2 → am_I (am_sI (am_sI (am_sI (am_sI h r (36 + 3 * o_P D.1) (nI k)) r (36 + 3 * o_P D.1 + 1) (nI x)) r (36 + 3 * o_P D.1 + 2) (nI y)) r 2 (nI (o_P D.1 + 1))) r j = am_I h r j := fun j a b c d => by
    rw [pc_I_I, if_neg (by omega), pc_I_I, if_neg (by omega), pc_I_I, if_neg (by omega), pc_I_I, if_neg (by omega)]
  refine ⟨h1, hp, ?_, ?_, ?_, ?_, fun p hq => ?_, fun j hj => ?_, fun j hj => ?_, fun j hj => ?_⟩
  · exact (rd 0 (by omega) (by omega) (by omega) (by omega)).trans h3
  · exact (rd 1 (by omega) (by omega) (by omega) (by omega)).trans h4
  · rw [pc_I_I, if_pos ⟨rfl, rfl⟩]
    rfl
  · exact (rd 3 (by omega) (by omega) (by omega) (by omega)).trans h6
  · have hq2 : p < o_P D.1 + 1 := hq
    by_cases e : p = o_P D.1
    · obtain ⟨e1, e2, e3⟩ := aP_n D.1 k x y
      have f1 : o_pk (d_addP D k x y).1 p = k := by rw [e]; exact e1
      have f2 : o_pa (d_addP D k x y).1 p = x := by rw [e]; exact e2
      have f3 : o_pb (d_addP D k x y).1 p = y := by rw [e]; exact e3
      rw [f1, f2, f3, e]
      refine ⟨?_, ?_, ?_⟩
      · rw [pc_I_I, if_neg (by omega), pc_I_I, if_neg (by omega), pc_I_I, if_neg (by omega), pc_I_I, if_pos ⟨rfl, rfl⟩]
      · rw [pc_I_I, if_neg (by omega), pc_I_I, if_neg (by omega), pc_I_I, if_pos ⟨rfl, rfl⟩]
      · rw [pc_I_I, if_neg (by omega), pc_I_I, if_pos ⟨rfl, rfl⟩]
    · obtain ⟨e1, e2, e3⟩ := aP_o (O := D.1) (k := k) (a := x) (b := y) e
      have f1 : o_pk (d_addP D k x y).1 p = o_pk D.1 p := e1
      have f2 : o_pa (d_addP D k x y).1 p = o_pa D.1 p := e2
      have f3 : o_pb (d_addP D k x y).1 p = o_pb D.1 p := e3
      rw [f1, f2, f3]
      obtain ⟨g1, g2, g3⟩ := h7 p (by omega)
      exact ⟨(rd _ (by omega) (by omega) (by omega) (by omega)).trans g1, (rd _ (by omega) (by omega) (by omega) (by omega)).trans g2, (rd _ (by omega) (by omega) (by omega) (by omega)).trans g3⟩
  · obtain ⟨g1, g2, g3, g4⟩ := h8 j hj
    exact ⟨(rd _ (by omega) (by omega) (by omega) (by omega)).trans g1, (rd _ (by omega) (by omega) (by omega) (by omega)).trans g2, (rd _ (by omega) (by omega) (by omega) (by omega)).trans g3, (rd _ (by omega) (by omega) (by omega) (by omega)).trans g4⟩
  · have hj2 : j < o_N D.1 := hj
    exact (rd _ (by omega) (by omega) (by omega) (by omega)).trans (h9 j hj)
  · have hj2 : j < o_R D.1 := hj
    exact (rd _ (by omega) (by omega) (by omega) (by omega)).trans (h10 j hj)
theorem Rf_part {h : am_H} {f : Nat} {T : Nat → Nat} {n a : Nat} {ak : Bool} {D : DT} {deep : Nat} {x0 : Nat → Prop} (R : RSa h f T n ak D a deep) (w : wfD D x0) (h480 : o_P D.1 < 480) {k x y : Nat} (hk : k < 4294967296) (hx : x < 4294967296) (hy : y < 4294967296) (d : Nat) : ∃ h', f_Rf_partOf (d + 1) h f (nI k) (nI x) (nI y) = some (.inr (some (.int (nI (spP D k x y).2))), h') ∧ fPr f h h' ∧ RSa h' f T n ak (spP D k x y).1 a deep := by
  have RR := R
  obtain ⟨H, Tp, e4, an, e6, e7, e17, e16, Rd⟩ := R
  have n4 := Tp.1
  have key : ∀ j, j ≤ o_P D.1 → (∀ i, i < j → ¬ o_is D.1 k x y i) → ∃ h', f_Rf_partOf_12 (d + 1) h f (nI k) (nI x) (nI y) (nI j) = some (.inr (some (.int (nI (spP D k x y).2))), h') ∧ fPr f h h' ∧ RSa h' f T n ak (spP D k x y).1 a deep := by
    have ar2 : ∀ (z : am_H), am_S z = am_S h → ∀ K, am_ar z 9 (f + 4) 2 K = K 2 := fun z hz K => ar_n (k := 2) (by rw [hz]; exact Rd.1) (by omega) (by omega) K
    refine dn ?_ ?_
    · intro hj
      have no : ∀ i, ¬ o_is D.1 k x y i := fun i q => hj i q.1 q
      rw [spP_n no]
      have R1 := RwD_aP Rd k x y h480 w.1 w.2.1
      obtain ⟨g, eg⟩ : ∃ g, g = am_sI (am_sI (am_sI h (f + 4) (36 + 3 * o_P D.1) (nI k)) (f + 4) (36 + 3 * o_P D.1 + 1) (nI x)) (f + 4) (36 + 3 * o_P D.1 + 2) (nI y) := ⟨_, rfl⟩
      have qg : fPr f h g := by
        rw [eg]
        exact fPr_t (fPr_4 f h _ _) (fPr_t (fPr_4 f _ _ _) (fPr_4 f _ _ _))
      have Hg := fPr_at qg H
      have vg : am_I g (f + 4) 2 = nI (o_P D.1) := by
        rw [eg, pc_I_I, if_neg (by omega), pc_I_I, if_neg (by omega), pc_I_I, if_neg (by omega)]
        exact Rd.2.2.2.2.1
      have lay : f_Rf_lays d h (f + 4) (nI (o_P D.1)) (nI k) (nI x) (nI y) = some (.inr none, g) := by
        rw [e_Rf_lays, n_36, n_3m, nI_add, RwD_ar Rd (by omega), nI_1, ar_I, RwD_ar Rd (by omega), n_2, nI_add, ar_I, ar_I, RwD_ar Rd (by omega), eg]
      rw [← eg] at R1
      have q1 : fPr f h (am_sI g (f + 4) 2 (nI (o_P D.1 + 1))) := fPr_t qg (fPr_4 f g _ _)
      have H1 := fPr_at q1 H
      have fj : ∀ j, am_I (am_sI g (f + 4) 2 (nI (o_P D.1 + 1))) f j = am_I h f j := fun j => by
        rw [pc_I_I, if_neg (by omega), eg, pc_I_I, if_neg (by omega), pc_I_I, if_neg (by omega), pc_I_I, if_neg (by omega)]
      refine ⟨am_sI g (f + 4) 2 (nI (o_P D.1 + 1)), ?_, q1, H1, ⟨Tp.1, fun k hk => ?_, ?_⟩, ?_, an, ?_, ?_, ?_, ?_, R1⟩
      · have v2 : am_I (am_sI g (f + 4) 2 (nI (o_P D.1 + 1))) (f + 4) 2 = nI (o_P D.1 + 1) := by rw [pc_I_I, if_pos ⟨rfl, rfl⟩]
        rw [e_Rf_partOf_12, lz_p (Rf_k H) (Rf_p10 H), ar2 h rfl, Rd.2.2.2.2.1, if_pos (Int32.le_refl _), lz_p (Rf_k H) (Rf_p10 H), lz_p (Rf_k H) (Rf_p10 H), ar2 h rfl, Rd.2.2.2.2.1, lz_cv lay, lz_p (Rf_k Hg) (Rf_p10 Hg), ar2 g qg.1, ar2 g qg.1, vg, nI_1, lz_p (Rf_k H1) (Rf_p10 H1), ar2 _ q1.1, v2, nI_pred]
      · rw [q1.2.2.2.2.2.1 (f + 2) (by omega) (by omega)]
        exact Tp.2.1 k hk
      · rw [fj]; exact Tp.2.2
      · rw [fj]; exact e4
      · rw [fj]; exact e6
      · rw [fj]; exact e7
      · rw [fj]; exact e17
      · rw [fj]; exact e16
    · intro j hj ih hi
      obtain ⟨b1, b2, b3⟩ := okP_b (w.2.2.2.2.2.2.1 j hj) (by omega) w.1 w.2.1
      obtain ⟨k1, k2, k3⟩ := RwD_k Rd hj d
      rw [e_Rf_partOf_12, lz_p (Rf_k H) (Rf_p10 H), ar2 h rfl, Rd.2.2.2.2.1, if_neg (by rw [n_le _ _ (by omega) (by omega)]; omega), lz_p (Rf_k H) (Rf_p10 H), lz_ci k1]
      by_cases c1 : o_pk D.1 j = k
      · rw [if_pos (by rw [c1]), lz_p (Rf_k H) (Rf_p10 H), lz_ci k2]
        by_cases c2 : o_pa D.1 j = x
        · rw [if_pos (by rw [c2]), lz_p (Rf_k H) (Rf_p10 H), lz_ci k3]
          by_cases c3 : o_pb D.1 j = y
          · have y' : o_is D.1 k x y j := ⟨hj, c1, c2, c3⟩
            refine ⟨h, ?_, fPr_r f h, ?_⟩
            · rw [if_pos (by rw [c3]), spP_y y', lm_e y' hi]
            · rw [spP_y y']
              exact RR
          · rw [if_neg (by rw [nI_e32 b3 hy]; exact c3), nI_1]
            exact ih (no_s hi (fun q => c3 q.2.2.2))
        · rw [if_neg (by rw [nI_e32 b2 hx]; exact c2), nI_1]
          exact ih (no_s hi (fun q => c2 q.2.2.1))
      · rw [if_neg (by rw [nI_e32 b1 hk]; exact c1), nI_1]
        exact ih (no_s hi (fun q => c1 q.2.1))
  obtain ⟨u, eu, qu⟩ := key 0 (Nat.zero_le _) (fun i hi => absurd hi (Nat.not_lt_zero i))
  refine ⟨u, ?_, qu⟩
  rw [e_Rf_partOf, lz_k (Rf_k H), lz_ci (Rf_fineY H e6 d), if_neg (by decide)]
  exact eu
/-! once a fault stands nothing more is read -/
theorem Rf_partN {h : am_H} {f : Nat} (H : RfAt h f) (e6 : ¬ am_I h f 6 = 0) (i j k : Int32) (d : Nat) : f_Rf_partOf (d + 1) h f i j k = some (.inr (some (.int (-1))), h) := by
  rw [e_Rf_partOf, lz_k (Rf_k H), lz_ci (Rf_fineN H e6 d), if_pos rfl]
theorem Rf_atomN {h : am_H} {f : Nat} (H : RfAt h f) (e6 : ¬ am_I h f 6 = 0) (d : Nat) : f_Rf_atom (d + 1) h f = some (.inr (some (.int (-1))), h) := by
  rw [e_Rf_atom, lz_k (Rf_k H), lz_ci (Rf_fineN H e6 d), if_pos rfl]
theorem Rf_takN {h : am_H} {f : Nat} (H : RfAt h f) (e6 : ¬ am_I h f 6 = 0) (i : Int32) (d : Nat) : f_Rf_takesSign (d + 1) h f i = some (.inr (some (.int 0)), h) := by
  rw [e_Rf_takesSign, lz_k (Rf_k H), lz_ci (Rf_fineN H e6 d), if_pos rfl, o1_0]
theorem Rf_conN {h : am_H} {f : Nat} (H : RfAt h f) (e6 : ¬ am_I h f 6 = 0) (d : Nat) : f_Rf_concept (d + 2) h f = some (.inr (some (.int (-1))), h) := by
  rw [e_Rf_concept, lz_k (Rf_k H), lz_ci (Rf_atomN H e6 d), e_Rf_concept_5, lz_k (Rf_k H), lz_ci (Rf_takN H e6 38 d), if_pos rfl]
theorem Rf_con5N {h : am_H} {f : Nat} (H : RfAt h f) (e6 : ¬ am_I h f 6 = 0) (i : Int32) (d : Nat) : f_Rf_concept_5 (d + 2) h f i = some (.inr (some (.int i)), h) := by
  rw [e_Rf_concept_5, lz_k (Rf_k H), lz_ci (Rf_takN H e6 38 d), if_pos rfl]
theorem Rf_numN {h : am_H} {f : Nat} (H : RfAt h f) (e6 : ¬ am_I h f 6 = 0) (i j k : Int32) (d : Nat) : f_Rf_numbered (d + 1) h f i j k = some (.inr (some (.int (-1))), h) := by
  rw [e_Rf_numbered, lz_k (Rf_k H), lz_ci (Rf_fineN H e6 d), if_pos rfl]
theorem Rf_roleN {h : am_H} {f : Nat} (H : RfAt h f) (e6 : ¬ am_I h f 6 = 0) (d : Nat) : f_Rf_roleHere (d + 2) h f = some (.inr (some (.int (-1))), h) := by
  rw [e_Rf_roleHere, lz_k (Rf_k H), lz_ci (Rf_numN H e6 _ _ _ d)]
theorem spN_6 {ak r : Bool} {T : Nat → Nat} {n q : Nat} {D : DT} {e : Nat × Nat} (h : spN ak r T n q D = .inl e) : e.1 ≤ 6 := by
  unfold spN at h
  by_cases c1 : tk T n (sk T n q) = 1
  · rw [if_pos c1] at h
    by_cases c2 : 6 < lw T n (sk T n q)
    · rw [if_pos c2] at h
      injection h with h
      subst h
      exact (by decide : (2 : Nat) ≤ 6)
    · rw [if_neg c2] at h
      by_cases c3 : ∃ k, k < d_cn D r ∧ d_ws D r k = wd T n (sk T n q)
      · rw [if_pos c3] at h
        cases h
      · rw [if_neg c3] at h
        by_cases c4 : ak = true
        · rw [if_pos c4] at h
          injection h with h
          subst h
          exact (by decide : (6 : Nat) ≤ 6)
        · rw [if_neg c4] at h
          by_cases c5 : d_cn D r = d_mx r
          · rw [if_pos c5] at h
            injection h with h
            subst h
            exact (by decide : (3 : Nat) ≤ 6)
          · rw [if_neg c5] at h
            cases h
  · rw [if_neg c1] at h
    injection h with h
    subst h
    exact (by decide : (1 : Nat) ≤ 6)
theorem nz6 {k : Nat} (h1 : k ≠ 0) (h2 : k ≤ 6) : ¬ nI k = 0 := by
  rw [n_0, nI_e32 (by omega) (by omega)]
  exact h1
