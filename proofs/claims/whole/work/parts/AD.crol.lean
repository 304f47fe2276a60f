/-! ===== the class reads an axiom of roles ===== -/
theorem Wo_fnd {h : am_H} {w n : Nat} (H : WoA h w) (h2 : am_I h w 2 = nI n) (hn : n ≤ 24) (l : Int64) (d : Nat) : ∃ x, f_Wo_find d h w l = some (.inr (some (.int x)), h) := by
  have key : ∀ k, k ≤ n → ∃ x, f_Wo_find_2 d h w l (nI k) = some (.inr (some (.int x)), h) := by
    refine dn ?_ ?_
    · refine ⟨-1, ?_⟩
      rw [e_Wo_find_2, lz_i H.1 h2, if_pos (Int32.le_refl _)]
    · intro k hk ih
      rw [e_Wo_find_2, lz_i H.1 h2, if_neg (by rw [n_le _ _ (by omega) (by omega)]; omega), lz_p H.1 H.2.1, Wo_ar H (by omega)]
      by_cases e : lg_cmp (am_L h (w + 1) k) l = 0
      · rw [if_pos e]
        exact ⟨_, rfl⟩
      · rw [if_neg e, nI_1]
        exact ih
  rw [e_Wo_find]
  exact key 0 (Nat.zero_le _)
theorem Re_nmN {h : am_H} {o : Nat} (H : LcAt h) (ho : o = 3 ∨ o = 20) (e9 : ¬ am_I h 37 9 = 0) (a3 : am_I h 37 3 = 0) (W : WC h o) (d : Nat) : ∃ x h', f_Re_numberOfWord (d + 1) h 37 (o + 3) = some (.inr (some (.int x)), h') ∧ (h' = h ∨ ∃ n v, n < 8 ∧ h' = am_sI (am_sL h (o + 4) n v) (o + 3) 2 (nI (n + 1))) := by
  have H3 := Lc_on H ho
  have WA := On_wo3 H3
  obtain ⟨a, b, ha, hb, w1, w2, w3, w4⟩ := W
  rw [e_Re_numberOfWord, lz_i (Lc_k37 H) rfl]
  by_cases c1 : am_I h 37 5 = 1
  · rw [if_pos c1, lz_i (Lc_k37 H) rfl]
    by_cases c2 : am_I h 37 7 ≤ 6
    · obtain ⟨x, ex⟩ := Wo_fnd WA w4 (by omega) (am_L h 37 8) d
      rw [if_pos c2, lz_l (Lc_k37 H) rfl, lz_k WA.1, lz_ci ex]
      by_cases c3 : x = -1
      · rw [if_pos c3, lz_i (Lc_k37 H) a3, if_pos rfl, e_Re_numberOfWord_73, if_pos c3, lz_l (Lc_k37 H) rfl, lz_k WA.1]
        by_cases c4 : b = 8
        · rw [lz_ci (Wo_addF WA w4 w3 c4 _ d), if_pos rfl, lz_i (Lc_k37 H) rfl, lz_k (Lc_k37 H), lz_cv (Re_flN H e9 _ _ d)]
          exact ⟨_, h, rfl, Or.inl rfl⟩
        · rw [lz_ci (Wo_addY WA w4 w3 (by omega) (by omega) _ d), if_neg (by rw [lit_m1, nI_e32 (by omega) (by omega)]; omega)]
          exact ⟨_, _, rfl, Or.inr ⟨b, _, by omega, rfl⟩⟩
      · rw [if_neg c3, e_Re_numberOfWord_73, if_neg c3]
        exact ⟨_, h, rfl, Or.inl rfl⟩
    · rw [if_neg c2, lz_i (Lc_k37 H) rfl, lz_k (Lc_k37 H), lz_cv (Re_flN H e9 _ _ d)]
      exact ⟨_, h, rfl, Or.inl rfl⟩
  · rw [if_neg c1, lz_i (Lc_k37 H) rfl, lz_k (Lc_k37 H), lz_cv (Re_flN H e9 _ _ d)]
    exact ⟨_, h, rfl, Or.inl rfl⟩
/-- a role read behind a fault -/
theorem Re_roleN {h0 h : am_H} {o : Nat} {T : Nat → Nat} {n : Nat} {e : Nat × Nat} (H0 : LcAt h0) (F : FLT h0 h o T n e) (e1 : e.1 ≠ 0) (e2 : e.1 ≤ 6) (ho : o = 3 ∨ o = 20) (a3 : am_I h0 37 3 = 0) (p2 : am_P h0 37 2 = some o) (d : Nat) : ∃ x h', f_Re_readRole (d + 2) h 37 = some (.inr (some (.int x)), h') ∧ FLT h0 h' o T n e := by
  have F0 := F
  obtain ⟨q, f9, f10, Tp, ⟨p, pn, R⟩, k, hk, f16, fW⟩ := F
  have H := fPc_lc q H0
  have H3 := Lc_on H ho
  have bad : ¬ am_I h 37 9 = 0 := by
    rw [f9]
    exact nz6 e1 e2
  have a3' : am_I h 37 3 = 0 := q.2.2.2.2.2.2.1.trans a3
  obtain ⟨x, z, ez, hz⟩ := Re_nmN H ho bad a3' fW d
  rw [e_Re_readRole, lz_p (Lc_k37 H) (by rw [q.2.2.2.1]; exact p2), lz_p (On_k H3) (On_p1 H3), lz_k (Lc_k37 H), lz_ci ez]
  rcases hz with rfl | ⟨m, v, hm, ez2⟩
  · rw [lz_i (Lc_k37 H) rfl, if_neg bad]
    exact ⟨x, _, rfl, F0⟩
  · have zI : ∀ b, b ≠ o + 3 → am_I z b = am_I h b := fun b r => by
      rw [ez2]
      funext j
      rw [pc_I_I, if_neg (fun s => r s.1)]
      rfl
    have zL : ∀ b, b ≠ o + 4 → am_L z b = am_L h b := fun b r => by
      rw [ez2]
      funext j
      show am_L (am_sL h (o + 4) m v) b j = _
      rw [pc_L_L, if_neg (fun s => r s.1)]
    have qz : fPc o h z := ⟨by rw [ez2]; rfl, by rw [ez2]; rfl, by rw [ez2]; rfl, by rw [ez2]; rfl, fun b _ _ _ r => ⟨zI b (by omega), zL b (by omega)⟩, fun j _ => by rw [zI 37 (by omega)], by rw [zI 37 (by omega)], fun _ r => absurd (a3'.symm.trans r) (by decide)⟩
    have Hz := fPc_lc qz H
    rw [lz_i (Lc_k37 Hz) rfl, if_neg (by rw [zI 37 (by omega)]; exact bad)]
    refine ⟨x, z, rfl, fPc_t q qz, by rw [zI 37 (by omega)]; exact f9, by rw [zI 37 (by omega)]; exact f10, ?_, ⟨p, pn, ?_⟩, k, hk, by rw [zI 37 (by omega)]; exact f16, ?_⟩
    · unfold TpC
      rw [zI 2 (by omega)]
      exact Tp
    · unfold ReT
      rw [zI 37 (by omega), zL 37 (by omega)]
      exact R
    · obtain ⟨a, b, ha, hb, w1, w2, w3, w4⟩ := fW
      refine ⟨a, m + 1, ha, by omega, by rw [zI (o + 1) (by omega)]; exact w1, by rw [zI (o + 1) (by omega)]; exact w2, ?_, ?_⟩
      · rw [ez2, pc_I_I, if_neg (by omega)]
        exact w3
      · rw [ez2, pc_I_I, if_pos ⟨rfl, rfl⟩]
theorem R37_N {h0 h : am_H} {o : Nat} {T : Nat → Nat} {n : Nat} {e : Nat × Nat} (H0 : LcAt h0) (F : FLT h0 h o T n e) (e1 : e.1 ≠ 0) (e2 : e.1 ≤ 6) (ho : o = 3 ∨ o = 20) (a3 : am_I h0 37 3 = 0) (p2 : am_P h0 37 2 = some o) (i1 i2 i3 : Int32) (d : Nat) : ∃ h', f_Re_readRoleAxiom_37 (d + 3) h 37 i1 i2 i3 = some (.inr none, h') ∧ FLT h0 h' o T n e := by
  have H := fPc_lc F.1 H0
  have bad : ¬ am_I h 37 9 = 0 := by
    rw [F.2.1]
    exact nz6 e1 e2
  obtain ⟨x, z, ez, Fz⟩ := Re_roleN H0 F e1 e2 ho a3 p2 d
  have Hz := fPc_lc Fz.1 H0
  have badz : ¬ am_I z 37 9 = 0 := by
    rw [Fz.2.1]
    exact nz6 e1 e2
  refine ⟨z, ?_, Fz⟩
  rw [e_Re_readRoleAxiom_37, lz_k (Lc_k37 H), lz_cv (Re_expN H bad 11 (d + 1)), lz_k (Lc_k37 H), lz_ci ez, lz_k (Lc_k37 Hz), lz_cv (Re_expN Hz badz 12 (d + 1)), lz_i (Lc_k37 Hz) rfl, if_neg badz]
theorem On_addR {h : am_H} {o : Nat} {T : Nat → Nat} {n : Nat} {D : DT} {p deep k : Nat} {K : Nat → Nat × Nat} (B : PB h o T n false D p deep k K) (w : wfD D no_x) (h32 : o_A D.1 < 32) {r s t : Nat} (hr : r < 8) (hs : s < 8) (ht : t < 8 ∨ t = 4294967295) (d : Nat) : ∃ h', f_On_addRoleAxiom (d + 1) h o (nI r) (nI s) (nI t) = some (.inr none, h') ∧ fPc o h h' ∧ PB h' o T n false (d_addA D (if t = 4294967295 then 2 else 3) r s t) p deep k K := by
  have H3 := Lc_on B.1 B.2.2.1
  by_cases c : t = 4294967295
  · rw [if_pos c]
    obtain ⟨n1, n2, n3, n4⟩ := aA_n D.1 2 r s t
    obtain ⟨u, eu, qu, Au⟩ := On_addA (k := 2) (a := r) (b := s) (c := t) (sn := 0) (sr := am_ishl 1 (nI r) ||| am_ishl 1 (nI s)) H3 B.2.2.1 w B.2.2.2.2.2.2.2.2.2.2.1 B.2.2.2.2.1 h32 (by
      unfold axn
      rw [n1, if_neg (by omega)]) (by
      unfold axr
      rw [n1, if_neg (by omega), n2, n3, if_neg (by omega), Int32.or_zero]) d
    obtain ⟨f, Bu⟩ := PB_addA B w qu Au
    refine ⟨u, ?_, f, Bu⟩
    rw [e_On_addRoleAxiom, if_pos (by rw [c]; exact lit_m1.symm), lz_k (On_k H3)]
    rw [c] at eu
    rw [n_2, lit_m1, lz_cv eu]
  · rw [if_neg c]
    obtain ⟨n1, n2, n3, n4⟩ := aA_n D.1 3 r s t
    obtain ⟨u, eu, qu, Au⟩ := On_addA (k := 3) (a := r) (b := s) (c := t) (sn := 0) (sr := (am_ishl 1 (nI r) ||| am_ishl 1 (nI s)) ||| am_ishl 1 (nI t)) H3 B.2.2.1 w B.2.2.2.2.2.2.2.2.2.2.1 B.2.2.2.2.1 h32 (by
      unfold axn
      rw [n1, if_neg (by omega)]) (by
      unfold axr
      rw [n1, if_neg (by omega), n2, n3, if_pos rfl, n4]) d
    obtain ⟨f, Bu⟩ := PB_addA B w qu Au
    refine ⟨u, ?_, f, Bu⟩
    rw [e_On_addRoleAxiom, if_neg (by rw [lit_m1, nI_e32 (by omega) (by omega)]; exact c), lz_k (On_k H3), n_3, lz_cv eu]
theorem R37 {h : am_H} {o : Nat} {T : Nat → Nat} {n : Nat} {D : DT} {q deep k : Nat} {K : Nat → Nat × Nat} (B : PB h o T n false D (sk T n q) deep k K) (w : wfD D no_x) (hq : q ≤ n) (h60 : o_P D.1 ≤ 60) (h32 : o_A D.1 < 32) (hk : k ≤ 400) {r s : Nat} {y : Int32} {ch : Bool} (hr : r < o_R D.1) (hs : ch = true → y = nI s ∧ s < o_R D.1) (d : Nat) : CA (f_Re_readRoleAxiom_37 (d + 5) h 37 (nI r) y (bo ch)) h o T n (spR2 T n ch q D r s) := by
  have H := B.1
  have r8 := w.2.1
  unfold spR2
  rw [e_Re_readRoleAxiom_37, lz_k (Lc_k37 H)]
  rcases Re_exp B w hk (c := 11) (by omega) (d + 1) with ⟨c11, u, eu, qu, Bu⟩ | ⟨c11, u, eu, fu⟩
  · rw [nx_11 c11] at Bu
    have hn := tk_ll.mp c11
    have ro := Re_role Bu w (sk_k T n _) hk (d + 1)
    rw [spN_sk] at ro
    rw [if_pos c11, show f_Re_expect (d + 4) h 37 11 = _ from eu, cv_r, lz_k (Lc_k37 Bu.1)]
    cases e1 : spN false true T n (sk T n q + 2) D with
    | inl e =>
      rw [e1] at ro
      obtain ⟨v, y, ev, fv⟩ := CO_j ro
      have Hv := fPc_lc fv.1 Bu.1
      have bad : ¬ am_I v 37 9 = 0 := by
        rw [fv.2.1]
        exact nz6 (spN_k e1) (spN_6 e1)
      rw [lz_ci ev, lz_k (Lc_k37 Hv), lz_cv (Re_expN Hv bad 12 (d + 3)), lz_i (Lc_k37 Hv) rfl, if_neg bad, pbd_l]
      exact CA_e rfl (FLT_t qu fv)
    | inr z =>
      obtain ⟨q4, D4, t⟩ := z
      rw [e1] at ro
      obtain ⟨v, x, ev, qv, Bv, vv⟩ := CO_i ro
      obtain ⟨a1, a2, a3, a4, a5, a6, a7, a8⟩ := spN_c e1 (by omega)
      have a6' : t < o_R D4.1 := a6
      have wN := wfD_x (spN_w e1 w) (y := no_x) (fun _ _ q => absurd q.1 (by decide))
      have wN8 := wN.2.1
      rw [lz_ci ev, lz_k (Lc_k37 Bv.1), pbd_r]
      rcases Re_exp Bv wN hk (c := 12) (by omega) (d + 1) with ⟨c12, m, em, qm, Bm⟩ | ⟨c12, m, em, fm⟩
      · rw [nx_s (by omega) (by omega)] at Bm
        have Hm3 := Lc_on Bm.1 Bm.2.2.1
        rw [if_pos c12, show f_Re_expect (d + 4) v 37 12 = _ from em, cv_r, lz_i (Lc_k37 Bm.1) Bm.2.2.2.2.2.1, if_pos rfl, vv (by omega)]
        cases ch with
        | false =>
          obtain ⟨u2, eu2, qu2, Bu2⟩ := On_addR Bm wN (by omega) (r := r) (s := t) (t := 4294967295) (by omega) (by omega) (Or.inr rfl) (d + 3)
          rw [if_pos rfl] at Bu2
          rw [bo_f, if_pos rfl, lz_p (Lc_k37 Bm.1) Bm.2.1, lz_k (On_k Hm3), lit_m1, lz_cv eu2]
          exact CA_s rfl (fPc_t qu (fPc_t qv (fPc_t qm qu2))) hk Bu2
        | true =>
          obtain ⟨hy, hs8⟩ := hs rfl
          obtain ⟨u2, eu2, qu2, Bu2⟩ := On_addR Bm wN (by omega) (r := r) (s := s) (t := t) (by omega) (by omega) (Or.inl (by omega)) (d + 3)
          rw [if_neg (by omega)] at Bu2
          rw [bo_t, if_neg (by decide), lz_p (Lc_k37 Bm.1) Bm.2.1, lz_k (On_k Hm3), hy, lz_cv eu2]
          exact CA_s rfl (fPc_t qu (fPc_t qv (fPc_t qm qu2))) hk Bu2
      · have Hm := fPc_lc fm.1 Bv.1
        have bad : ¬ am_I m 37 9 = 0 := by
          rw [fm.2.1]
          exact nz6 (show 1 ≠ 0 by omega) (show 1 ≤ 6 by omega)
        rw [if_neg c12, show f_Re_expect (d + 4) v 37 12 = _ from em, cv_r, lz_i (Lc_k37 Hm) rfl, if_neg bad]
        exact CA_e rfl (FLT_t (fPc_t qu qv) fm)
  · have Hu := fPc_lc fu.1 H
    have bad : ¬ am_I u 37 9 = 0 := by
      rw [fu.2.1]
      exact nz6 (show 1 ≠ 0 by omega) (show 1 ≤ 6 by omega)
    obtain ⟨x, z, ez, Fz⟩ := Re_roleN H fu (show 1 ≠ 0 by omega) (show 1 ≤ 6 by omega) B.2.2.1 B.2.2.2.2.1 B.2.1 (d + 2)
    have Hz := fPc_lc Fz.1 H
    have badz : ¬ am_I z 37 9 = 0 := by
      rw [Fz.2.1]
      exact nz6 (show 1 ≠ 0 by omega) (show 1 ≤ 6 by omega)
    rw [if_neg c11, show f_Re_expect (d + 4) h 37 11 = _ from eu, cv_r, lz_k (Lc_k37 Hu), lz_ci ez, lz_k (Lc_k37 Hz), lz_cv (Re_expN Hz badz 12 (d + 3)), lz_i (Lc_k37 Hz) rfl, if_neg badz]
    exact CA_e rfl Fz
theorem Re_rax {h : am_H} {o : Nat} {T : Nat → Nat} {n : Nat} {D : DT} {q deep k : Nat} {K : Nat → Nat × Nat} (B : PB h o T n false D (sk T n q) deep k K) (w : wfD D no_x) (hq : q ≤ n) (h60 : o_P D.1 ≤ 60) (h32 : o_A D.1 < 32) (hk : k ≤ 400) (d : Nat) : CA (f_Re_readRoleAxiom (d + 5) h 37) h o T n (spR T n q D) := by
  have H := B.1
  have ho := B.2.2.1
  have r8 := w.2.1
  have ro := Re_role B w (sk_k T n _) hk (d + 1)
  rw [spN_sk] at ro
  unfold spR
  rw [e_Re_readRoleAxiom, lz_k (Lc_k37 H)]
  cases e1 : spN false true T n q D with
  | inl e =>
    rw [e1] at ro
    obtain ⟨v, y, ev, fv⟩ := CO_j ro
    have Hv := fPc_lc fv.1 H
    have bad : ¬ am_I v 37 9 = 0 := by
      rw [fv.2.1]
      exact nz6 (spN_k e1) (spN_6 e1)
    rw [lz_ci ev, lz_i (Lc_k37 Hv) rfl, pbd_l]
    by_cases c10 : am_I v 37 5 = 10
    · obtain ⟨x, z, ez, Fz⟩ := Re_roleN H fv (spN_k e1) (spN_6 e1) ho B.2.2.2.2.1 B.2.1 (d + 2)
      obtain ⟨m, em, Fm⟩ := R37_N H Fz (spN_k e1) (spN_6 e1) ho B.2.2.2.2.1 B.2.1 y x 1 (d + 2)
      rw [if_pos c10, if_neg (by decide), lz_k (Lc_k37 Hv), lz_cv (Re_expN Hv bad 10 (d + 3)), lz_k (Lc_k37 Hv), lz_ci ez, em]
      exact CA_e rfl Fm
    · obtain ⟨m, em, Fm⟩ := R37_N H fv (spN_k e1) (spN_6 e1) ho B.2.2.2.2.1 B.2.1 y (-1) 0 (d + 2)
      rw [if_neg c10, if_pos rfl, em]
      exact CA_e rfl Fm
  | inr z =>
    obtain ⟨q2, D2, r⟩ := z
    rw [e1] at ro
    obtain ⟨v, x, ev, qv, Bv, vv⟩ := CO_i ro
    obtain ⟨a1, a2, a3, a4, a5, a6, a7, a8⟩ := spN_c e1 hq
    have a6' : r < o_R D2.1 := a6
    have wN := wfD_x (spN_w e1 w) (y := no_x) (fun _ _ q => absurd q.1 (by decide))
    have t13 := tk_13 T n (sk T n q2)
    rw [lz_ci ev, lz_i (Lc_k37 Bv.1) Bv.2.2.2.2.2.2.2.1.2.2.1, pbd_r, vv (by omega)]
    by_cases c10 : tk T n (sk T n q2) = 10
    · rw [if_pos (by rw [c10]; rfl), if_neg (by decide), if_pos c10, lz_k (Lc_k37 Bv.1)]
      have hn := (tk_5 (T := T) (n := n) (p := sk T n q2) (by omega)).1
      rcases Re_exp Bv wN hk (c := 10) (by omega) (d + 1) with ⟨-, m, em, qm, Bm⟩ | ⟨c, -⟩
      · rw [nx_s (by omega) (by omega)] at Bm
        have ro2 := Re_role Bm wN (sk_k T n _) hk (d + 1)
        rw [spN_sk] at ro2
        rw [show f_Re_expect (d + 4) v 37 10 = _ from em, cv_r, lz_k (Lc_k37 Bm.1)]
        cases e2 : spN false true T n (sk T n q2 + 1) D2 with
        | inl e =>
          rw [e2] at ro2
          obtain ⟨u, y, eu, fu⟩ := CO_j ro2
          obtain ⟨z, ez, Fz⟩ := R37_N H (FLT_t (fPc_t qv qm) fu) (spN_k e2) (spN_6 e2) ho B.2.2.2.2.1 B.2.1 (nI r) y 1 (d + 2)
          rw [lz_ci eu, ez, pbd_l]
          exact CA_e rfl Fz
        | inr z =>
          obtain ⟨q3, D3, s⟩ := z
          rw [e2] at ro2
          obtain ⟨u, y, eu, qu, Bu, vu⟩ := CO_i ro2
          obtain ⟨b1, b2, b3, b4, b5, b6, b7, b8⟩ := spN_c e2 (by omega)
          have b6' : s < o_R D3.1 := b6
          have wN3 := wfD_x (spN_w e2 wN) (y := no_x) (fun _ _ q => absurd q.1 (by decide))
          have Y := R37 Bu wN3 b3 (by omega) (by omega) hk (r := r) (s := s) (y := y) (ch := true) (by omega) (fun _ => ⟨vu (by omega), b6'⟩) d
          rw [lz_ci eu, pbd_r]
          exact CA_t (fPc_t qv (fPc_t qm qu)) Y
      · exact absurd c10 c
    · have Y := R37 Bv wN a3 (by omega) (by omega) hk (r := r) (s := 4294967295) (y := -1) (ch := false) a6' (fun c => absurd c (by decide)) d
      rw [if_neg (by rw [show (10 : Int32) = nI 10 from rfl, nI_e32 (by omega) (by omega)]; exact c10), if_pos rfl, if_neg c10]
      exact CA_t qv Y
