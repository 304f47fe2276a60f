/-! ===== the reference reads axioms of roles, of concepts ===== -/
theorem Rf_or47N {h : am_H} {f : Nat} (H : RfAt h f) (e6 : ¬ am_I h f 6 = 0) (i j : Int32) (ch : Bool) (d : Nat) : ∃ h', f_Rf_ofRoles_47 (d + 4) h f i j (bo ch) = some (.inr none, h') ∧ fPr f h h' ∧ am_I h' f 6 = am_I h f 6 ∧ am_I h' f 7 = am_I h f 7 := by
  obtain ⟨g, eg⟩ : ∃ g, g = am_sI h f 4 (am_I h f 4 + 2) := ⟨_, rfl⟩
  have qg : fPr f h g := by rw [eg]; exact fPr_f f h (by omega) _
  have Hg := fPr_at qg H
  have g6 : am_I g f 6 = am_I h f 6 := by rw [eg, pc_I_I, if_neg (by omega)]
  have g7 : am_I g f 7 = am_I h f 7 := by rw [eg, pc_I_I, if_neg (by omega)]
  have bad : ¬ am_I g f 6 = 0 := by rw [g6]; exact e6
  refine ⟨g, ?_, qg, g6, g7⟩
  rw [e_Rf_ofRoles_47, lz_i (Rf_k H) rfl, lz_k (Rf_k H), ← eg, lz_k (Rf_k Hg), lz_ci (Rf_roleN Hg bad (d + 1)), lz_k (Rf_k Hg), lz_cv (Rf_endsN Hg bad (d + 2))]
  cases ch
  · rw [bo_f, if_pos rfl, if_pos rfl, if_pos rfl, lz_k (Rf_k Hg), lz_cv (Rf_addsN Hg bad _ _ _ _ (d + 2))]
  · rw [bo_t, if_neg (by decide), if_neg (by decide), if_neg (by decide), lz_k (Rf_k Hg), lz_cv (Rf_addsN Hg bad _ _ _ _ (d + 2))]
theorem Rf_or47 {T : Nat → Nat} {n f deep a : Nat} {D : DT} {h : am_H} (R : RSa h f T n false D a deep) (w : wfD D no_x) (hA : o_A D.1 < 32) (hk : sk T n a = a) (c : tk T n a = 11) {r s : Nat} (ch : Bool) (d : Nat) : RV (f_Rf_ofRoles_47 (d + 7) h f (nI r) (nI s) (bo ch)) h f T n false deep (pbd (spN false true T n (a + 2) D) fun q4 D4 t => if tk T n (sk T n q4) = 12 then .inr (sk T n q4 + 1, d_addA D4 (if ch then 3 else 2) r (if ch then s else t) (if ch then t else 4294967295), 0) else .inl (1, sk T n q4)) := by
  obtain ⟨c1, c2, c3, c4⟩ := tk_ll.mp c
  have H := R.1
  have R1 := RSa_p (a' := a + 2) R (by omega)
  have H1 := R1.1
  have ro := Rf_role R1 w d
  have q1 := fPr_f f h (j := 4) (by omega) (nI (a + 2))
  rw [e_Rf_ofRoles_47, lz_i (Rf_k H) R.2.2.1, lz_k (Rf_k H), n_2, nI_add, lz_k (Rf_k H1)]
  cases e1 : spN false true T n (a + 2) D with
  | inl e =>
    rw [e1] at ro
    obtain ⟨u, x, eu, qu, u6, u7⟩ := ro
    have Hu := fPr_at qu H1
    have bad : ¬ am_I u f 6 = 0 := by
      rw [u6]
      exact nz6 (spN_k e1) (spN_6 e1)
    rw [lz_ci eu, lz_k (Rf_k Hu), lz_cv (Rf_endsN Hu bad (d + 5)), pbd_l]
    cases ch
    · rw [bo_f, if_pos rfl, if_pos rfl, if_pos rfl, lz_k (Rf_k Hu), lz_cv (Rf_addsN Hu bad _ _ _ _ (d + 5))]
      exact RV_e rfl (fPr_t q1 qu) u6 u7
    · rw [bo_t, if_neg (by decide), if_neg (by decide), if_neg (by decide), lz_k (Rf_k Hu), lz_cv (Rf_addsN Hu bad _ _ _ _ (d + 5))]
      exact RV_e rfl (fPr_t q1 qu) u6 u7
  | inr y =>
    obtain ⟨q4, D4, t⟩ := y
    rw [e1] at ro
    rw [pbd_r]
    obtain ⟨u, eu, qu, Ru⟩ := ro
    replace eu : _ = some (Sum.inr (some (Value.int (nI t))), u) := eu
    replace Ru : RSa u f T n false D4 q4 deep := Ru
    obtain ⟨a1, a2, a3, a4, a5, a6, a7, a8⟩ := spN_c e1 (by omega)
    have wN := wfD_x (spN_w e1 w) (y := no_x) (fun _ _ q => absurd q.1 (by decide))
    have en := Rf_ends Ru 0 (d + 3)
    rw [lz_ci eu, lz_k (Rf_k Ru.1)]
    by_cases c5 : tk T n (sk T n q4) = 12
    · rw [if_pos c5] at en ⊢
      obtain ⟨v, ev, qv, Rv⟩ := en
      replace Rv : RSa v f T n false D4 (sk T n q4 + 1) deep := Rv
      rw [lz_cv ev]
      cases ch
      · obtain ⟨z, ez, qz, Rz⟩ := Rf_adds Rv wN (by omega) 2 r t 4294967295 (d + 5)
        rw [← lit_m1] at ez
        rw [bo_f, if_pos rfl, if_pos rfl, if_pos rfl, lz_k (Rf_k Rv.1), show f_Rf_adds (d + 6) v f (nI 2) (nI r) (nI t) (-1) = _ from ez, cv_r]
        exact RV_s rfl (fPr_t q1 (fPr_t qu (fPr_t qv qz))) Rz
      · obtain ⟨z, ez, qz, Rz⟩ := Rf_adds Rv wN (by omega) 3 r s t (d + 5)
        rw [bo_t, if_neg (by decide), if_neg (by decide), if_neg (by decide), lz_k (Rf_k Rv.1), show f_Rf_adds (d + 6) v f 3 (nI r) (nI s) (nI t) = _ from ez, cv_r]
        exact RV_s rfl (fPr_t q1 (fPr_t qu (fPr_t qv qz))) Rz
    · rw [if_neg c5] at en ⊢
      obtain ⟨v, ev, qv, v6, v7⟩ := en
      have Hv := fPr_at qv Ru.1
      have bad : ¬ am_I v f 6 = 0 := by
        rw [v6]
        exact nz6 (k := 1) (by omega) (by omega)
      rw [lz_cv ev]
      cases ch
      · rw [bo_f, if_pos rfl, if_pos rfl, if_pos rfl, lz_k (Rf_k Hv), lz_cv (Rf_addsN Hv bad _ _ _ _ (d + 5))]
        exact RV_e rfl (fPr_t q1 (fPr_t qu qv)) v6 v7
      · rw [bo_t, if_neg (by decide), if_neg (by decide), if_neg (by decide), lz_k (Rf_k Hv), lz_cv (Rf_addsN Hv bad _ _ _ _ (d + 5))]
        exact RV_e rfl (fPr_t q1 (fPr_t qu qv)) v6 v7
/-- behind the roles: the double sign, or a fault -/
theorem Rf_orT {T : Nat → Nat} {n f deep a : Nat} {D : DT} {h : am_H} (R : RSa h f T n false D a deep) (w : wfD D no_x) (hA : o_A D.1 < 32) {r s : Nat} (ch : Bool) (d : Nat) : RV (am_ck h f 8 <| am_ci (f_Rf_fine (d + 7) h f) fun x_6 h_5 => if x_6 = 0 then f_Rf_ofRoles_47 (d + 8) h_5 f (nI r) (nI s) (bo ch) else am_ck h_5 f 8 <| am_ci (f_Rf_isTwice (d + 7) h_5 f) fun x_8 h_7 => if x_8 = 0 then am_gi h_7 f 8 4 fun x_9 => am_ck h_7 f 8 <| am_ci (f_Rf_wrong (d + 7) h_7 f 1 x_9) fun _ h_10 => f_Rf_ofRoles_47 (d + 8) h_10 f (nI r) (nI s) (bo ch) else f_Rf_ofRoles_47 (d + 8) h_7 f (nI r) (nI s) (bo ch)) h f T n false deep (spR2 T n ch a D r s) := by
  have H := R.1
  obtain ⟨g, eg, qg, Rg⟩ := Rf_twi R (d + 5)
  rw [lz_k (Rf_k H), lz_ci (Rf_fineY H R.2.2.2.2.1 (d + 7)), if_neg (by decide), lz_k (Rf_k H), lz_ci eg]
  unfold spR2
  refine RV_f qg ?_
  by_cases c : tk T n (sk T n a) = 11
  · rw [pd_t c, bo_t, if_neg (by decide), if_pos c]
    exact Rf_or47 Rg w hA (sk_k T n a) c ch (d + 1)
  · obtain ⟨u, eu, qu, u6, u7⟩ := Rf_wr Rg.1 Rg.2.2.2.2.1 1 (sk T n a) (d + 7)
    have Hu := fPr_at qu Rg.1
    have bad : ¬ am_I u f 6 = 0 := by
      rw [u6]
      exact nz6 (k := 1) (by omega) (by omega)
    obtain ⟨v, ev, qv, v6, v7⟩ := Rf_or47N Hu bad (nI r) (nI s) ch (d + 4)
    rw [pd_f c, bo_f, if_pos rfl, if_neg c, lz_i (Rf_k Rg.1) Rg.2.2.1, lz_k (Rf_k Rg.1), n_1, lz_ci eu]
    exact RV_e ev (fPr_t qu qv) (v6.trans u6) (v7.trans u7)
theorem Rf_ofR {T : Nat → Nat} {n f deep a : Nat} {D : DT} {h : am_H} (R : RSa h f T n false D a deep) (w : wfD D no_x) (hA : o_A D.1 < 32) (d : Nat) : RV (f_Rf_ofRoles (d + 8) h f) h f T n false deep (spR T n a D) := by
  have H := R.1
  have an := R.2.2.2.1
  have ro := Rf_role R w (d + 1)
  rw [e_Rf_ofRoles, lz_k (Rf_k H)]
  unfold spR
  cases e1 : spN false true T n a D with
  | inl e =>
    rw [e1] at ro
    obtain ⟨u, x, eu, qu, u6, u7⟩ := ro
    have Hu := fPr_at qu H
    have bad : ¬ am_I u f 6 = 0 := by
      rw [u6]
      exact nz6 (spN_k e1) (spN_6 e1)
    obtain ⟨v, ev, qv, v6, v7⟩ := Rf_or47N Hu bad x (-1) false (d + 4)
    rw [lz_ci eu, lz_k (Rf_k Hu), lz_ci (Rf_takN Hu bad 42 (d + 6)), if_pos rfl, lz_k (Rf_k Hu), lz_ci (Rf_fineN Hu bad (d + 7)), if_pos rfl, pbd_l]
    exact RV_e ev (fPr_t qu qv) (v6.trans u6) (v7.trans u7)
  | inr y =>
    obtain ⟨q2, D2, r⟩ := y
    rw [e1] at ro
    rw [pbd_r]
    obtain ⟨u, eu, qu, Ru⟩ := ro
    replace eu : _ = some (Sum.inr (some (Value.int (nI r))), u) := eu
    replace Ru : RSa u f T n false D2 q2 deep := Ru
    obtain ⟨a1, a2, a3, a4, a5, a6, a7, a8⟩ := spN_c e1 an
    have wN := wfD_x (spN_w e1 w) (y := no_x) (fun _ _ q => absurd q.1 (by decide))
    rw [lz_ci eu, lz_k (Rf_k Ru.1), show (42 : Int32) = nI 42 from rfl]
    refine RV_f qu ?_
    rcases Rf_tak Ru (c := 42) (by omega) (d + 5) with ⟨t1, t2, g, eg, qg, Rg⟩ | ⟨tn, g, eg, qg, Rg⟩
    · have c : tk T n (sk T n q2) = 10 := tk_st.mpr ⟨t1, t2⟩
      rw [if_pos c, lz_ci eg, if_neg (by decide), lz_k (Rf_k Rg.1)]
      refine RV_f qg ?_
      have ro2 := Rf_role Rg wN (d + 1)
      cases e2 : spN false true T n (sk T n q2 + 1) D2 with
      | inl e =>
        rw [e2] at ro2
        obtain ⟨v, x, ev, qv, v6, v7⟩ := ro2
        have Hv := fPr_at qv Rg.1
        have bad : ¬ am_I v f 6 = 0 := by
          rw [v6]
          exact nz6 (spN_k e2) (spN_6 e2)
        obtain ⟨z, ez, qz, z6, z7⟩ := Rf_or47N Hv bad (nI r) x true (d + 4)
        rw [lz_ci ev, lz_k (Rf_k Hv), lz_ci (Rf_fineN Hv bad (d + 7)), if_pos rfl, pbd_l]
        exact RV_e ez (fPr_t qv qz) (z6.trans v6) (z7.trans v7)
      | inr y =>
        obtain ⟨q3, D3, s⟩ := y
        rw [e2] at ro2
        rw [pbd_r]
        obtain ⟨v, ev, qv, Rv⟩ := ro2
        replace ev : _ = some (Sum.inr (some (Value.int (nI s))), v) := ev
        replace Rv : RSa v f T n false D3 q3 deep := Rv
        obtain ⟨b1, b2, b3, b4, b5, b6, b7, b8⟩ := spN_c e2 (by omega)
        have wM := wfD_x (spN_w e2 wN) (y := no_x) (fun _ _ q => absurd q.1 (by decide))
        rw [lz_ci ev]
        refine RV_f qv ?_
        exact Rf_orT Rv wM (by omega) true d
    · have c : ¬ tk T n (sk T n q2) = 10 := fun e => tn (tk_st.mp e)
      rw [if_neg c, lz_ci eg, if_pos rfl]
      refine RV_f qg ?_
      have es : spR2 T n false q2 D2 r 4294967295 = spR2 T n false (sk T n q2) D2 r 4294967295 := by
        unfold spR2
        rw [sk_k]
      rw [es, lit_m1]
      exact Rf_orT Rg wN (by omega) false d
theorem Rf_oc59 {T : Nat → Nat} {n f a p0 : Nat} {D : DT} {h : am_H} (R : RSa h f T n false D a 0) (w : wfD D no_x) (hA : o_A D.1 < 32) (hcap : o_P D.1 + (n - a) ≤ 460) (han : a < n) {c : Nat} (hc : c < o_P D.1) (sm : Bool) (d : Nat) : RV (f_Rf_ofConcepts_59 (d + 812) h f (nI p0) (nI c) (bo sm)) h f T n false 0 (pbd (spX false T n 1000 1 0 (a + 1) D 0) fun q3 D3 e => if tk T n (sk T n q3) = 12 then (if 60 < o_P D3.1 then .inl (5, p0) else .inr (sk T n q3 + 1, d_addA D3 (if sm then 1 else 0) c e 4294967295, 0)) else .inl (1, sk T n q3)) := by
  have H := R.1
  have w2 := w.2.2.1
  have n4 := R.2.1.1
  have R1 := RSa_p (a' := a + 1) R (by omega)
  have H1 := R1.1
  have co := Rf_con R1 w (by omega) (by omega) d
  have q1 := fPr_f f h (j := 4) (by omega) (nI (a + 1))
  rw [e_Rf_ofConcepts_59, lz_i (Rf_k H) R.2.2.1, lz_k (Rf_k H), nI_1, lz_k (Rf_k H1)]
  have adN : ∀ (v : am_H) (x : Int32), RfAt v f → ¬ am_I v f 6 = 0 → (if bo sm = 0 then am_ck v f 8 <| am_cv (f_Rf_adds (d + 811) v f 0 (nI c) x (-1)) fun h_7 => some (.inr none, h_7) else am_ck v f 8 <| am_cv (f_Rf_adds (d + 811) v f 1 (nI c) x (-1)) fun h_8 => some (.inr none, h_8)) = some (.inr none, v) := fun v x Hv bad => by
    cases sm
    · rw [bo_f, if_pos rfl, lz_k (Rf_k Hv), lz_cv (Rf_addsN Hv bad _ _ _ _ (d + 810))]
    · rw [bo_t, if_neg (by decide), lz_k (Rf_k Hv), lz_cv (Rf_addsN Hv bad _ _ _ _ (d + 810))]
  cases e1 : spX false T n 1000 1 0 (a + 1) D 0 with
  | inl e =>
    rw [e1] at co
    obtain ⟨u, x, eu, qu, u6, u7⟩ := co
    have Hu := fPr_at qu H1
    have bad : ¬ am_I u f 6 = 0 := by
      rw [u6]
      exact nz6 (spX_f 1000 1 0 (a + 1) D 0 e (by omega) (by omega) w (by omega) (by rw [if_pos rfl]; omega) e1) (spX_6 _ _ _ _ _ _ _ (by omega) e1)
    rw [lz_ci eu, lz_k (Rf_k Hu), lz_cv (Rf_endsN Hu bad (d + 810)), lz_k (Rf_k Hu), lz_ci (Rf_fineN Hu bad (d + 811)), if_pos rfl, pbd_l]
    exact RV_e (adN u x Hu bad) (fPr_t q1 qu) u6 u7
  | inr y =>
    obtain ⟨q3, D3, e⟩ := y
    rw [e1] at co
    rw [pbd_r]
    obtain ⟨u, eu, qu, Ru⟩ := co
    replace eu : _ = some (Sum.inr (some (Value.int (nI e))), u) := eu
    replace Ru : RSa u f T n false D3 q3 0 := Ru
    obtain ⟨b1, b2, b3, b4, b5, b6, b7, b8, b9, b10⟩ := spX_c 1000 1 0 (a + 1) D 0 q3 D3 e (by omega) (by omega) w (by omega) e1
    have en := Rf_ends Ru 0 (d + 808)
    rw [lz_ci eu, lz_k (Rf_k Ru.1)]
    by_cases c5 : tk T n (sk T n q3) = 12
    · rw [if_pos c5] at en ⊢
      obtain ⟨v, ev, qv, Rv⟩ := en
      replace Rv : RSa v f T n false D3 (sk T n q3 + 1) 0 := Rv
      have Hv := Rv.1
      have le6 : (nI (o_P D3.1) ≤ 60) = (o_P D3.1 ≤ 60) := n_le _ 60 (by omega) (by omega)
      have ar2 : ∀ K, am_ar v 9 (f + 4) 2 K = K 2 := fun K => RwD_ar Rv.2.2.2.2.2.2.2.2 (k := 2) (by omega) K
      rw [lz_cv ev, lz_k (Rf_k Hv), lz_ci (Rf_fineY Hv Rv.2.2.2.2.1 (d + 811)), if_neg (by decide), lz_p (Rf_k Hv) (Rf_p10 Hv), ar2, Rv.2.2.2.2.2.2.2.2.2.2.2.2.1]
      by_cases c6 : 60 < o_P D3.1
      · obtain ⟨z, ez, qz, z6, z7⟩ := Rf_wr Hv Rv.2.2.2.2.1 5 p0 (d + 811)
        have Hz := fPr_at qz Hv
        have bad : ¬ am_I z f 6 = 0 := by
          rw [z6]
          exact nz6 (k := 5) (by omega) (by omega)
        rw [if_neg (by rw [le6]; omega), if_pos c6, lz_k (Rf_k Hv), n_5, lz_ci ez]
        exact RV_e (adN z (nI e) Hz bad) (fPr_t q1 (fPr_t qu (fPr_t qv qz))) z6 z7
      · rw [if_pos (by rw [le6]; omega), if_neg c6]
        cases sm
        · obtain ⟨z, ez, qz, Rz⟩ := Rf_adds Rv b7 (by omega) 0 c e 4294967295 (d + 810)
          rw [← lit_m1] at ez
          rw [bo_f, if_pos rfl, lz_k (Rf_k Hv), show f_Rf_adds (d + 811) v f 0 (nI c) (nI e) (-1) = _ from ez, cv_r]
          exact RV_s rfl (fPr_t q1 (fPr_t qu (fPr_t qv qz))) Rz
        · obtain ⟨z, ez, qz, Rz⟩ := Rf_adds Rv b7 (by omega) 1 c e 4294967295 (d + 810)
          rw [← lit_m1] at ez
          rw [bo_t, if_neg (by decide), lz_k (Rf_k Hv), show f_Rf_adds (d + 811) v f 1 (nI c) (nI e) (-1) = _ from ez, cv_r]
          exact RV_s rfl (fPr_t q1 (fPr_t qu (fPr_t qv qz))) Rz
    · rw [if_neg c5] at en ⊢
      obtain ⟨v, ev, qv, v6, v7⟩ := en
      have Hv := fPr_at qv Ru.1
      have bad : ¬ am_I v f 6 = 0 := by
        rw [v6]
        exact nz6 (k := 1) (by omega) (by omega)
      rw [lz_cv ev, lz_k (Rf_k Hv), lz_ci (Rf_fineN Hv bad (d + 811)), if_pos rfl]
      exact RV_e (adN v (nI e) Hv bad) (fPr_t q1 (fPr_t qu qv)) v6 v7
