/-! ===== the reference reads: a number for a word, a part ===== -/
theorem n_27m (a : Nat) : 27 * nI a = nI (27 * a) := pk_mul 27 a
theorem nI_96 {t : Nat} (h : 96 ≤ t) : nI t - 96 = nI (t - 96) := by
  have := nI_dif 96 (t - 96)
  rw [show 96 + (t - 96) = t by omega] at this
  exact this
theorem Rf_n62 {h : am_H} {f : Nat} {T : Nat → Nat} {n p : Nat} {ak : Bool} {D : DT} {deep : Nat} (R : RSa h f T n ak D p deep) (hl : lw T n p ≤ 6) (i1 i2 i3 : Int32) (d : Nat) : ∀ i, i ≤ 6 → f_Rf_numbered_62 (d + 1) h f i1 i2 i3 (nI (lw T n p)) (nI p) (nI (cdw (wd T n p) i)) (nI i) = f_Rf_numbered_122 (d + 1) (am_sI h f 4 (nI (p + lw T n p))) f i1 i2 i3 (nI p) (nI (cdw (wd T n p) 6)) 0 := by
  obtain ⟨H, Tp, e4, pn, -⟩ := R
  have n4 := Tp.1
  refine dn ?_ ?_
  · rw [e_Rf_numbered_62, if_pos (by decide), lz_i (Rf_k H) e4, lz_k (Rf_k H), nI_add]
  · intro i hi ih
    rw [e_Rf_numbered_62, if_neg (by rw [n_6, n_le _ _ (by omega) (by omega)]; omega)]
    by_cases c : lw T n p ≤ i
    · have z : wd T n p i = 0 := if_neg (by omega)
      rw [if_pos (by rw [n_le _ _ (by omega) (by omega)]; exact c), n_27m, Int32.add_zero, nI_1]
      rw [cdw, z, Nat.add_zero, Nat.mul_comm] at ih
      exact ih
    · have w := wd_t (T := T) (n := n) (p := p) (i := i) (by omega)
      obtain ⟨pi, -⟩ := (lw_l T n p).2 i (by omega)
      rw [if_neg (by rw [n_le _ _ (by omega) (by omega)]; exact c), lz_i (Rf_k H) e4, lz_k (Rf_k H), nI_add, lz_ci (Rf_byteAt H Tp (by omega) d)]
      unfold btz
      rw [if_pos pi, nI_96 (by omega), n_27m, nI_add, nI_1, show T (p + i) - 96 = wd T n p i by omega]
      rw [cdw, Nat.mul_comm] at ih
      exact ih
theorem Rf_n122 {h : am_H} {f : Nat} {T : Nat → Nat} {n q p : Nat} {ak : Bool} {D : DT} {deep : Nat} (R : RSa h f T n ak D q deep) (w : wfD D no_x) (r : Bool) {c : Nat → Nat} {m : Nat} (hc : wOK c m) (d : Nat) : ∀ k, k ≤ d_cn D r → (∀ j, j < k → ¬ d_ws D r j = c) → RO (f_Rf_numbered_122 (d + 1) h f (r_i r) (nI (r_w r)) (nI (d_mx r)) (nI p) (nI (cdw c 6)) (nI k)) h f T n ak deep (@ite _ (∃ k, k < d_cn D r ∧ d_ws D r k = c) (Classical.propDecidable _) (.inr (q, D, lm (fun k => k < d_cn D r ∧ d_ws D r k = c))) (if ak = true then .inl (6, p) else if d_cn D r = d_mx r then .inl (3, p) else .inr (q, d_add D r c, d_cn D r))) := by
  have RR := R
  obtain ⟨H, Tp, e4, qn, e6, e7, e17, e16, Rd⟩ := R
  obtain ⟨m1, m2, m3, m4⟩ := wfD_m w r
  obtain ⟨ar, vl⟩ := RwD_c Rd r
  refine dn ?_ ?_
  · intro hj
    have no : ¬ ∃ k, k < d_cn D r ∧ d_ws D r k = c := fun ⟨k, a, b⟩ => hj k a b
    rw [if_neg no, e_Rf_numbered_122, lz_p (Rf_k H) (Rf_p10 H), ar, vl, if_pos (Int32.le_refl _), lz_i (Rf_k H) e17]
    by_cases a : ak = true
    · subst a
      rw [bo_t, if_neg (by decide), if_pos rfl, lz_k (Rf_k H)]
      obtain ⟨u, eu, qu, u6, u7⟩ := Rf_wr H e6 6 p d
      rw [show (6 : Int32) = nI 6 from rfl, lz_ci eu]
      exact ⟨u, _, rfl, qu, u6, u7⟩
    · rw [if_neg a]
      cases ak with
      | true => exact absurd rfl a
      | false =>
        rw [bo_f, if_pos rfl, lz_p (Rf_k H) (Rf_p10 H), ar, vl]
        by_cases b : d_cn D r = d_mx r
        · rw [if_pos b, if_pos (by rw [b]), lz_k (Rf_k H)]
          obtain ⟨u, eu, qu, u6, u7⟩ := Rf_wr H e6 3 p d
          rw [show (3 : Int32) = nI 3 from rfl, lz_ci eu]
          exact ⟨u, _, rfl, qu, u6, u7⟩
        · rw [if_neg b, if_neg (by rw [nI_e32 (by omega) (by omega)]; exact b)]
          have R1 := RwD_add Rd r (by omega) c w.1
          obtain ⟨g, eg⟩ : ∃ g, g = am_sI h (f + 4) (r_w r + d_cn D r) (nI (cdw c 6)) := ⟨_, rfl⟩
          have Hg : RfAt g f := by
            rw [eg]
            exact fPr_at (fPr_4 f h _ _) H
          have arg : ∀ (x : am_H), am_S x = am_S h → ∀ K, am_ar x 9 (f + 4) (r_i r) K = K (if r then 1 else 0) := fun x hx K => by
            have := ar K
            unfold am_ar at this ⊢
            rw [hx]
            exact this
          have vg : am_I g (f + 4) (if r then 1 else 0) = nI (d_cn D r) := by
            rw [eg, pc_I_I, if_neg (fun e => ?_), vl]
            cases r
            · have : 0 = 4 + o_N D.1 := e.2
              omega
            · have : 1 = 28 + o_R D.1 := e.2
              omega
          rw [lz_p (Rf_k H) (Rf_p10 H), lz_p (Rf_k H) (Rf_p10 H), ar, vl, nI_add, RwD_ar Rd (by omega), ← eg, lz_p (Rf_k Hg) (Rf_p10 Hg), arg g (by rw [eg]; rfl), arg g (by rw [eg]; rfl), vg, nI_1]
          rw [← eg] at R1
          have q1 : fPr f h (am_sI g (f + 4) (if r then 1 else 0) (nI (d_cn D r + 1))) := by
            rw [eg]
            exact fPr_t (fPr_4 f h _ _) (fPr_4 f _ _ _)
          have H2 := fPr_at q1 H
          have v2 : am_I (am_sI g (f + 4) (if r then 1 else 0) (nI (d_cn D r + 1))) (f + 4) (if r then 1 else 0) = nI (d_cn D r + 1) := by rw [pc_I_I, if_pos ⟨rfl, rfl⟩]
          rw [lz_p (Rf_k H2) (Rf_p10 H2), arg _ q1.1, v2, nI_pred]
          have fj : ∀ j, am_I (am_sI g (f + 4) (if r then 1 else 0) (nI (d_cn D r + 1))) f j = am_I h f j := fun j => by
            rw [pc_I_I, if_neg (by omega), eg, pc_I_I, if_neg (by omega)]
          refine ⟨_, rfl, q1, H2, ⟨Tp.1, fun k hk => ?_, ?_⟩, ?_, qn, ?_, ?_, ?_, ?_, R1⟩
          · rw [q1.2.2.2.2.2.1 (f + 2) (by omega) (by omega)]
            exact Tp.2.1 k hk
          · rw [fj]; exact Tp.2.2
          · rw [fj]; exact e4
          · rw [fj]; exact e6
          · rw [fj]; exact e7
          · rw [fj]; exact e17
          · rw [fj]; exact e16
  · intro k hk ih hj
    obtain ⟨mk, hmk⟩ := m4 k hk
    have cl := cdw_6 (wOK_26 hc) (Nat.le_refl 6)
    have cl2 := cdw_6 (wOK_26 hmk) (Nat.le_refl 6)
    rw [e_Rf_numbered_122, lz_p (Rf_k H) (Rf_p10 H), ar, vl, if_neg (by rw [n_le _ _ (by omega) (by omega)]; omega), lz_p (Rf_k H) (Rf_p10 H), nI_add, RwD_ar Rd (by omega), RwD_w Rd r hk]
    by_cases e : d_ws D r k = c
    · rw [if_pos (by rw [e]), if_pos ⟨k, hk, e⟩, lm_e ⟨hk, e⟩ (fun j hj2 q => hj j hj2 q.2)]
      exact ⟨h, rfl, fPr_r f h, RR⟩
    · rw [if_neg (by rw [nI_e32 (by omega) (by omega), wOK_cd hmk hc]; exact e), nI_1]
      exact ih (no_s hj e)
theorem Rf_num {h : am_H} {f : Nat} {T : Nat → Nat} {n a : Nat} {ak : Bool} {D : DT} {deep : Nat} (R : RSa h f T n ak D a deep) (w : wfD D no_x) (r : Bool) (d : Nat) : RO (f_Rf_numbered (d + 5) h f (r_i r) (nI (r_w r)) (nI (d_mx r))) h f T n ak deep (spN ak r T n a D) := by
  have RR := R
  obtain ⟨H, Tp, e4, an, e6, e7, e17, e16, Rd⟩ := R
  have n4 := Tp.1
  have sl := sk_le (T := T) an
  have ln := lw_n (T := T) sl
  obtain ⟨g, eg, qg, g4⟩ := Rf_letters H Tp an e4 (d + 2)
  have Rg := RSa_m RR qg g4 sl
  obtain ⟨Hg, Tg, -, -, g6, -⟩ := Rg
  refine RO_f (fat_Pr qg) ?_
  rw [e_Rf_numbered, lz_k (Rf_k H), lz_ci (Rf_fineY H e6 (d + 4)), if_neg (by decide), lz_k (Rf_k H), lz_ci eg, lz_i (Rf_k Hg) g4]
  unfold spN
  by_cases c0 : lw T n (sk T n a) = 0
  · have t1 : ¬ tk T n (sk T n a) = 1 := fun e => by
      have := (tk_14 (T := T) (n := n) (p := sk T n a) (by omega) (by omega)).2
      omega
    obtain ⟨u, eu, qu, u6, u7⟩ := Rf_wr Hg g6 1 (sk T n a) (d + 4)
    rw [if_pos (by rw [c0]; rfl), if_neg t1, lz_k (Rf_k Hg), show (1 : Int32) = nI 1 from rfl, lz_ci eu]
    exact ⟨u, _, rfl, qu, u6, u7⟩
  · rw [if_neg (by rw [n_0, nI_e32 (by omega) (by omega)]; exact c0)]
    obtain ⟨v, ev, qv, v4⟩ := Rf_isOwn Hg Tg sl g4 d
    rw [sk_k] at ev v4
    have Rv := RSa_m (RSa_m RR qg g4 sl) qv v4 sl
    have RvR := Rv
    obtain ⟨Hv, Tv, -, -, v6, -⟩ := Rv
    refine RO_f (fat_Pr qv) ?_
    rw [lz_k (Rf_k Hg), lz_ci ev]
    obtain ⟨w1, w2, -⟩ := tk_w (T := T) (n := n) (p := sk T n a) ((lw_l T n (sk T n a)).2 0 (by omega)).1 (by omega)
    by_cases c1 : tk T n (sk T n a) = 1
    · rw [pd_f (by omega), bo_f, if_pos rfl, if_pos c1]
      by_cases c6 : 6 < lw T n (sk T n a)
      · obtain ⟨u, eu, qu, u6, u7⟩ := Rf_wr Hv v6 2 (sk T n a) (d + 4)
        rw [if_pos c6, if_neg (by rw [n_6, n_le _ _ (by omega) (by omega)]; omega), lz_k (Rf_k Hv), show (2 : Int32) = nI 2 from rfl, lz_ci eu]
        exact ⟨u, _, rfl, qu, u6, u7⟩
      · have l6 : lw T n (sk T n a) ≤ 6 := by omega
        have n62 := Rf_n62 RvR l6 (r_i r) (nI (r_w r)) (nI (d_mx r)) (d + 4) 0 (by omega)
        rw [if_neg c6, if_pos (by rw [n_6, n_le _ _ (by omega) (by omega)]; omega)]
        rw [show (0 : Int32) = nI (cdw (wd T n (sk T n a)) 0) from rfl, show nI (cdw (wd T n (sk T n a)) 0) = nI 0 from rfl, show f_Rf_numbered_62 (d + 5) v f (r_i r) (nI (r_w r)) (nI (d_mx r)) (nI (lw T n (sk T n a))) (nI (sk T n a)) (nI 0) (nI 0) = _ from n62]
        refine RO_f (fPr_f f v (j := 4) (by omega) (nI (sk T n a + lw T n (sk T n a)))) ?_
        exact Rf_n122 (RSa_p RvR ln) w r (wd_ok (by omega) l6) (d + 4) 0 (Nat.zero_le _) (fun j hj => absurd hj (Nat.not_lt_zero j))
    · obtain ⟨u, eu, qu, u6, u7⟩ := Rf_wr Hv v6 1 (sk T n a) (d + 4)
      rw [pd_t (by omega), bo_t, if_neg (by decide), if_neg c1, lz_k (Rf_k Hv), show (1 : Int32) = nI 1 from rfl, lz_ci eu]
      exact ⟨u, _, rfl, qu, u6, u7⟩
theorem Rf_role {h : am_H} {f : Nat} {T : Nat → Nat} {n a : Nat} {ak : Bool} {D : DT} {deep : Nat} (R : RSa h f T n ak D a deep) (w : wfD D no_x) (d : Nat) : RO (f_Rf_roleHere (d + 6) h f) h f T n ak deep (spN ak true T n a D) := by
  have := Rf_num R w true d
  have H := R.1
  rw [e_Rf_roleHere, lz_k (Rf_k H)]
  rw [show f_Rf_numbered (d + 5) h f 1 28 8 = f_Rf_numbered (d + 5) h f (r_i true) (nI (r_w true)) (nI (d_mx true)) from rfl]
  cases e : spN ak true T n a D with
  | inl x =>
    rw [e] at this
    obtain ⟨u, y, e1, e2⟩ := this
    rw [lz_ci e1]
    exact ⟨u, y, rfl, e2⟩
  | inr x =>
    rw [e] at this
    obtain ⟨u, e1, e2⟩ := this
    rw [lz_ci e1]
    exact ⟨u, rfl, e2⟩
theorem Rf_name {h : am_H} {f : Nat} {T : Nat → Nat} {n a : Nat} {ak : Bool} {D : DT} {deep : Nat} (R : RSa h f T n ak D a deep) (w : wfD D no_x) (d : Nat) : RO (f_Rf_nameHere (d + 6) h f) h f T n ak deep (spN ak false T n a D) := by
  have := Rf_num R w false d
  have H := R.1
  rw [e_Rf_nameHere, lz_k (Rf_k H)]
  rw [show f_Rf_numbered (d + 5) h f 0 4 24 = f_Rf_numbered (d + 5) h f (r_i false) (nI (r_w false)) (nI (d_mx false)) from rfl]
  cases e : spN ak false T n a D with
  | inl x =>
    rw [e] at this
    obtain ⟨u, y, e1, e2⟩ := this
    rw [lz_ci e1]
    exact ⟨u, y, rfl, e2⟩
  | inr x =>
    rw [e] at this
    obtain ⟨u, e1, e2⟩ := this
    rw [lz_ci e1]
    exact ⟨u, rfl, e2⟩
