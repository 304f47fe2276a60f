/-! ===== the reference reads: atoms, concepts ===== -/
theorem Rf_tak {h : am_H} {f : Nat} {T : Nat → Nat} {n a : Nat} {ak : Bool} {D : DT} {deep : Nat} (R : RSa h f T n ak D a deep) {c : Nat} (hc : c < 256) (d : Nat) : (sk T n a < n ∧ T (sk T n a) = c ∧ ∃ h', f_Rf_takesSign (d + 2) h f (nI c) = some (.inr (some (.int 1)), h') ∧ fPr f h h' ∧ RSa h' f T n ak D (sk T n a + 1) deep) ∨ (¬ (sk T n a < n ∧ T (sk T n a) = c) ∧ ∃ h', f_Rf_takesSign (d + 2) h f (nI c) = some (.inr (some (.int 0)), h') ∧ fPr f h h' ∧ RSa h' f T n ak D (sk T n a) deep) := by
  have RR := R
  obtain ⟨H, Tp, e4, an, e6, -⟩ := R
  have sl := sk_le (T := T) an
  obtain ⟨g, eg, qg, g4⟩ := Rf_here H Tp an e4 d
  have Rg := RSa_m RR qg g4 sl
  have Hg := Rg.1
  rw [e_Rf_takesSign, lz_k (Rf_k H), lz_ci (Rf_fineY H e6 (d + 1)), if_neg (by decide), lz_k (Rf_k H), lz_ci eg]
  have be := bt_e (T := T) (n := n) (k := sk T n a) (c := c) (fun c => (Tp.2.1 _ c).1) hc
  by_cases q : sk T n a < n ∧ T (sk T n a) = c
  · refine Or.inl ⟨q.1, q.2, am_sI g f 4 (nI (sk T n a + 1)), ?_, fPr_t (fat_Pr qg) (fPr_f f g (by omega) _), RSa_p Rg (by omega)⟩
    rw [if_pos (by rw [be]; exact q), lz_i (Rf_k Hg) g4, lz_k (Rf_k Hg), o1_1, nI_1]
  · refine Or.inr ⟨q, g, ?_, fat_Pr qg, Rg⟩
    rw [if_neg (by rw [be]; exact q), o1_0]
theorem spX_6 {ak : Bool} {T : Nat → Nat} {n : Nat} : ∀ f mode deep q D v e, mode ≤ 2 → spX ak T n f mode deep q D v = .inl e → e.1 ≤ 6
  | 0, mode, _, _, _, _, e, _, h => by
    injection h with h
    subst h
    exact (by decide : (0 : Nat) ≤ 6)
  | f + 1, mode, deep, q, D, v, e, hm, h => by
    rcases (show mode = 0 ∨ mode = 1 ∨ mode = 2 by omega) with rfl | rfl | rfl
    · rw [spX_0] at h
      by_cases c2 : tk T n (sk T n q) = 2
      · rw [if_pos c2] at h
        cases h
      · rw [if_neg c2] at h
        by_cases c3 : tk T n (sk T n q) = 3
        · rw [if_pos c3] at h
          cases h
        · rw [if_neg c3] at h
          by_cases c4 : tk T n (sk T n q) = 4
          · rw [if_pos c4] at h
            rcases pbd_e h with h | ⟨q2, D2, r, e1, h⟩
            · exact spN_6 h
            · rcases pbd_e h with h | ⟨q3, D3, y, e2, h⟩
              · exact spX_6 f 0 deep q2 D2 0 e (by omega) h
              · cases h
          · rw [if_neg c4] at h
            by_cases c5 : tk T n (sk T n q) = 5
            · rw [if_pos c5] at h
              by_cases c6 : deep = 6
              · rw [if_pos c6] at h
                injection h with h
                subst h
                exact (by decide : (4 : Nat) ≤ 6)
              · rw [if_neg c6] at h
                rcases pbd_e h with h | ⟨q2, D2, x, e1, h⟩
                · exact spX_6 f 1 (deep + 1) (sk T n q + 1) D 0 e (by omega) h
                · by_cases c7 : tk T n (sk T n q2) = 6
                  · rw [if_pos c7] at h
                    cases h
                  · rw [if_neg c7] at h
                    injection h with h
                    subst h
                    exact (by decide : (1 : Nat) ≤ 6)
            · rw [if_neg c5] at h
              rcases pbd_e h with h | ⟨q2, D2, a, e1, h⟩
              · exact spN_6 h
              · cases h
    · rw [spX_1] at h
      rcases pbd_e h with h | ⟨q2, D2, y, e1, h⟩
      · exact spX_6 f 0 deep q D 0 e (by omega) h
      · exact spX_6 f 2 deep q2 D2 y e (by omega) h
    · rw [spX_2] at h
      by_cases c7 : tk T n (sk T n q) = 7
      · rw [if_pos c7] at h
        rcases pbd_e h with h | ⟨q2, D2, y, e1, h⟩
        · exact spX_6 f 0 deep (sk T n q + 1) D 0 e (by omega) h
        · exact spX_6 f 2 deep q2 (spP D2 3 v y).1 (spP D2 3 v y).2 e (by omega) h
      · rw [if_neg c7] at h
        cases h
noncomputable def rdF (mode dep : Nat) (h : am_H) (f v : Nat) : Option am_R := if mode = 0 then f_Rf_atom dep h f else if mode = 1 then f_Rf_concept dep h f else f_Rf_concept_5 dep h f (nI v)
theorem RO_e {F : Option am_R} {h : am_H} {f : Nat} {T : Nat → Nat} {n : Nat} {ak : Bool} {deep : Nat} {e : Nat × Nat} {h' : am_H} {x : Int32} (h1 : F = some (.inr (some (.int x)), h')) (h2 : fPr f h h') (h3 : am_I h' f 6 = nI e.1) (h4 : am_I h' f 7 = nI e.2) : RO F h f T n ak deep (.inl e) := ⟨h', x, h1, h2, h3, h4⟩
theorem RO_s {F : Option am_R} {h : am_H} {f : Nat} {T : Nat → Nat} {n : Nat} {ak : Bool} {deep q v : Nat} {D : DT} {h' : am_H} (h1 : F = some (.inr (some (.int (nI v))), h')) (h2 : fPr f h h') (h3 : RSa h' f T n ak D q deep) : RO F h f T n ak deep (.inr (q, D, v)) := ⟨h', h1, h2, h3⟩
theorem Rf_X {ak : Bool} {T : Nat → Nat} {n f : Nat} : ∀ fu mode deep a D v h dep, mode ≤ 2 → RSa h f T n ak D a deep → wfD D no_x → v < o_P D.1 → o_P D.1 + (n - a) ≤ 460 → deep ≤ 6 → 2 * (n - a) + (if mode = 0 then 10 else 11) ≤ dep → (∀ e, spX ak T n fu mode deep a D v = .inl e → e.1 ≠ 0) → RO (rdF mode dep h f v) h f T n ak deep (spX ak T n fu mode deep a D v)
  | 0, mode, deep, a, D, v, h, dep, _, _, _, _, _, _, _, hz => absurd rfl (hz (0, 0) rfl)
  | fu + 1, mode, deep, a, D, v, h, dep, hm, R, w, hv, hcap, hdp, hdep, hz => by
    have RR := R
    obtain ⟨H, Tp, e4, an, e6, e7, e17, e16, Rd⟩ := R
    have n4 := Tp.1
    have g0 := sk_ge T n a
    have sl := sk_le (T := T) an
    have w2 := w.2.2.1
    rcases (show mode = 0 ∨ mode = 1 ∨ mode = 2 by omega) with rfl | rfl | rfl
    · -- an atom
      rw [if_pos rfl] at hdep
      obtain ⟨d, rfl⟩ : ∃ d, dep = d + 10 := ⟨dep - 10, by omega⟩
      have hF : rdF 0 (d + 10) h f v = f_Rf_atom (d + 10) h f := rfl
      rw [hF]
      rw [spX_0] at hz ⊢
      obtain ⟨g1, eg1, qg1, g14⟩ := Rf_isTop H Tp an e4 (d + 6)
      have R1 := RSa_m RR qg1 g14 sl
      have H1 := R1.1
      have T1 := R1.2.1
      obtain ⟨g2, eg2, qg2, g24⟩ := Rf_isNot H1 T1 sl g14 (d + 6)
      rw [sk_k] at eg2 g24
      have R2 := RSa_m R1 qg2 g24 sl
      have H2 := R2.1
      have T2 := R2.2.1
      obtain ⟨g3, eg3, qg3, g34⟩ := Rf_isSom H2 T2 sl g24 (d + 6)
      rw [sk_k] at eg3 g34
      have R3 := RSa_m R2 qg3 g34 sl
      have H3 := R3.1
      have T3 := R3.2.1
      have q01 := fat_Pr qg1
      have q02 := fPr_t q01 (fat_Pr qg2)
      have q03 := fPr_t q02 (fat_Pr qg3)
      rw [e_Rf_atom, lz_k (Rf_k H), lz_ci (Rf_fineY H e6 (d + 9)), if_neg (by decide), lz_k (Rf_k H), lz_ci eg1]
      by_cases c2 : tk T n (sk T n a) = 2
      · rw [if_pos c2]
        obtain ⟨u, eu, qu, u4⟩ := Rf_isTop H1 T1 sl g14 (d + 6)
        rw [sk_k, pd_t c2, bo_t] at eu
        rw [sk_k] at u4
        have Ru := RSa_m R1 qu u4 sl
        obtain ⟨z, ez, qz, z4⟩ := Rf_letters Ru.1 Ru.2.1 sl u4 (d + 7)
        rw [sk_k] at ez z4
        have Rz := RSa_m Ru qz z4 sl
        have ln := lw_n (T := T) sl
        rw [pd_t c2, bo_t, if_neg (by decide), lz_k (Rf_k H1), lz_ci eu, if_neg (by decide), e_Rf_atom_41, lz_i (Rf_k Ru.1) u4, lz_k (Rf_k Ru.1), lz_ci ez, lz_k (Rf_k Rz.1), nI_add, ← nx_w (T := T) (n := n) (p := sk T n a) (by omega) (by omega)]
        exact RO_s rfl (fPr_t q01 (fPr_t (fat_Pr qu) (fPr_t (fat_Pr qz) (fPr_f f z (by omega) _)))) (RSa_p Rz (nx_le sl).1)
      · rw [if_neg c2] at hz ⊢
        rw [pd_f c2, bo_f, if_pos rfl, lz_k (Rf_k H1), lz_ci eg2]
        by_cases c3 : tk T n (sk T n a) = 3
        · rw [if_pos c3]
          obtain ⟨u, eu, qu, u4⟩ := Rf_isTop H2 T2 sl g24 (d + 6)
          rw [sk_k, pd_f c2, bo_f] at eu
          rw [sk_k] at u4
          have Ru := RSa_m R2 qu u4 sl
          obtain ⟨z, ez, qz, z4⟩ := Rf_letters Ru.1 Ru.2.1 sl u4 (d + 7)
          rw [sk_k] at ez z4
          have Rz := RSa_m Ru qz z4 sl
          rw [pd_t c3, bo_t, if_neg (by decide), lz_k (Rf_k H2), lz_ci eu, if_pos rfl, e_Rf_atom_41, lz_i (Rf_k Ru.1) u4, lz_k (Rf_k Ru.1), lz_ci ez, lz_k (Rf_k Rz.1), nI_add, ← nx_w (T := T) (n := n) (p := sk T n a) (by omega) (by omega)]
          exact RO_s rfl (fPr_t q02 (fPr_t (fat_Pr qu) (fPr_t (fat_Pr qz) (fPr_f f z (by omega) _)))) (RSa_p Rz (nx_le sl).1)
        · rw [if_neg c3] at hz ⊢
          rw [pd_f c3, bo_f, if_pos rfl, lz_k (Rf_k H2), lz_ci eg3]
          by_cases c4 : tk T n (sk T n a) = 4
          · rw [if_pos c4] at hz ⊢
            have hw := tk_14 (T := T) (n := n) (p := sk T n a) (by omega) (by omega)
            have ln := lw_n (T := T) (n := n) (p := sk T n a) (by omega)
            have l4 := ((tk_w hw.1 hw.2).2.2.2.2.mp c4).1
            have R4 := RSa_p (a' := sk T n a + 4) R3 (by omega)
            have H4 := R4.1
            have q04 := fPr_t q03 (fPr_f f g3 (j := 4) (by omega) (nI (sk T n a + 4)))
            have ro := Rf_role R4 w (d + 3)
            rw [pd_t c4, bo_t, if_neg (by decide), lz_i (Rf_k H3) g34, lz_k (Rf_k H3), n_4, nI_add, lz_k (Rf_k H4)]
            cases e1 : spN ak true T n (sk T n a + 4) D with
            | inl e =>
              rw [e1] at ro
              obtain ⟨u, x, eu, qu, u6, u7⟩ := ro
              have Hu := fPr_at qu H4
              have bad : ¬ am_I u f 6 = 0 := by
                rw [u6]
                exact nz6 (spN_k e1) (spN_6 e1)
              rw [lz_ci eu, lz_k (Rf_k Hu), lz_ci (Rf_atomN Hu bad (d + 8)), lz_k (Rf_k Hu), lz_ci (Rf_partN Hu bad _ _ _ (d + 8))]
              rw [pbd_l]
              exact RO_e rfl (fPr_t q04 qu) u6 u7
            | inr y =>
              obtain ⟨q2, D2, r⟩ := y
              rw [e1] at ro hz
              rw [pbd_r] at hz ⊢
              obtain ⟨u, eu, qu, Ru⟩ := ro
              replace eu : _ = some (Sum.inr (some (Value.int (nI r))), u) := eu
              replace Ru : RSa u f T n ak D2 q2 deep := Ru
              have Hu := Ru.1
              obtain ⟨a1, a2, a3, a4, a5, a6, a7, a8⟩ := spN_c e1 (by omega)
              have wN := wfD_x (spN_w e1 w) (y := no_x) (fun _ _ q => absurd q.1 (by decide))
              have a4' : o_P D2.1 = o_P D.1 := a4
              rw [lz_ci eu, lz_k (Rf_k Hu)]
              have ih := Rf_X fu 0 deep q2 D2 0 u (d + 9) (by omega) Ru wN (by have := wN.2.2.1; omega) (by omega) hdp (by rw [if_pos rfl]; omega) (fun e he => hz e (by rw [he]; rfl))
              have hF2 : rdF 0 (d + 9) u f 0 = f_Rf_atom (d + 9) u f := rfl
              rw [hF2] at ih
              cases e2 : spX ak T n fu 0 deep q2 D2 0 with
              | inl e =>
                rw [e2] at ih
                obtain ⟨z, x, ez, qz, z6, z7⟩ := ih
                have Hz := fPr_at qz Hu
                have bad : ¬ am_I z f 6 = 0 := by
                  rw [z6]
                  exact nz6 (hz e (by rw [e2]; rfl)) (spX_6 _ _ _ _ _ _ _ (by omega) e2)
                rw [lz_ci ez, lz_k (Rf_k Hz), lz_ci (Rf_partN Hz bad _ _ _ (d + 8)), pbd_l]
                exact RO_e rfl (fPr_t q04 (fPr_t qu qz)) z6 z7
              | inr y =>
                obtain ⟨q3, D3, y⟩ := y
                rw [e2] at ih
                obtain ⟨z, ez, qz, Rz⟩ := ih
                replace ez : _ = some (Sum.inr (some (Value.int (nI y))), z) := ez
                replace Rz : RSa z f T n ak D3 q3 deep := Rz
                obtain ⟨b1, b2, b3, b4, b5, b6, b7, b8, b9, b10⟩ := spX_c fu 0 deep q2 D2 0 q3 D3 y (by omega) a3 wN (by have := wN.2.2.1; omega) e2
                have a6' : r < o_R D2.1 := a6
                have r8 := wN.2.1
                have b7N := b7.2.2.1
                obtain ⟨t, et, qt, Rt⟩ := Rf_part (k := 4) (x := r) (y := y) Rz b7 (by omega) (by omega) (by omega) (by omega) (d + 8)
                rw [lz_ci ez, lz_k (Rf_k Rz.1), lz_ci et, pbd_r]
                exact RO_s rfl (fPr_t q04 (fPr_t qu (fPr_t qz qt))) Rt
          · rw [if_neg c4] at hz ⊢
            obtain ⟨g5, eg5, qg5, g54⟩ := Rf_here H3 T3 sl g34 (d + 8)
            rw [sk_k] at eg5 g54
            have R5 := RSa_m R3 qg5 g54 sl
            have H5 := R5.1
            have T5 := R5.2.1
            have q05 := fPr_t q03 (fat_Pr qg5)
            have be := bt_e (T := T) (n := n) (k := sk T n a) (c := 40) (fun c => (Tp.2.1 _ c).1) (by omega)
            rw [pd_f c4, bo_f, if_pos rfl, lz_k (Rf_k H3), lz_ci eg5]
            by_cases c5 : tk T n (sk T n a) = 5
            · rw [if_pos c5] at hz ⊢
              have pn := (tk_lp.mp c5).1
              rw [if_pos (by rw [show (40 : Int32) = nI 40 from rfl, be]; exact tk_lp.mp c5), lz_i (Rf_k H5) R5.2.2.2.2.2.2.2.1]
              by_cases c6 : deep = 6
              · rw [if_pos c6, if_pos (by rw [c6]; rfl), lz_i (Rf_k H5) g54, lz_k (Rf_k H5)]
                obtain ⟨u, eu, qu, u6, u7⟩ := Rf_wr H5 R5.2.2.2.2.1 4 (sk T n a) (d + 9)
                rw [n_4, lz_ci eu]
                exact RO_e rfl (fPr_t q05 qu) u6 u7
              · rw [if_neg c6] at hz ⊢
                rw [if_neg (by rw [n_6, nI_e32 (by omega) (by omega)]; exact c6), lz_i (Rf_k H5) g54, lz_k (Rf_k H5), nI_1]
                have R6 := RSa_p (a' := sk T n a + 1) R5 (by omega)
                have H6 := R6.1
                rw [lz_i (Rf_k H6) R6.2.2.2.2.2.2.2.1, lz_k (Rf_k H6), nI_1]
                obtain ⟨g7, eg7⟩ : ∃ g7, g7 = am_sI (am_sI g5 f 4 (nI (sk T n a + 1))) f 16 (nI (deep + 1)) := ⟨_, rfl⟩
                have q67 : fPr f (am_sI g5 f 4 (nI (sk T n a + 1))) g7 := by
                  rw [eg7]
                  exact fPr_f f _ (by omega) _
                have H7 := fPr_at q67 H6
                have R7 : RSa g7 f T n ak D (sk T n a + 1) (deep + 1) := by
                  obtain ⟨r1, r2, r3, r4, r5, r6, r7, r8, r9⟩ := R6
                  have fj : ∀ j, j ≠ 16 → am_I g7 f j = am_I (am_sI g5 f 4 (nI (sk T n a + 1))) f j := fun j p => by rw [eg7, pc_I_I, if_neg (by omega)]
                  refine ⟨H7, ⟨r2.1, fun k hk => ?_, ?_⟩, ?_, r4, ?_, ?_, ?_, ?_, RwD_of r9 q67.1 ?_⟩
                  · rw [q67.2.2.2.2.2.1 (f + 2) (by omega) (by omega)]
                    exact r2.2.1 k hk
                  · rw [fj 3 (by omega)]; exact r2.2.2
                  · rw [fj 4 (by omega)]; exact r3
                  · rw [fj 6 (by omega)]; exact r5
                  · rw [fj 7 (by omega)]; exact r6
                  · rw [fj 17 (by omega)]; exact r7
                  · rw [eg7, pc_I_I, if_pos ⟨rfl, rfl⟩]
                  · rw [eg7]
                    funext j
                    rw [pc_I_I, if_neg (by omega)]
                have q07 := fPr_t q05 (fPr_t (fPr_f f g5 (j := 4) (by omega) (nI (sk T n a + 1))) q67)
                rw [← eg7, lz_k (Rf_k H7)]
                have ih := Rf_X fu 1 (deep + 1) (sk T n a + 1) D 0 g7 (d + 9) (by omega) R7 w (by omega) (by omega) (by omega) (by rw [if_neg (by omega)]; omega) (fun e he => hz e (by rw [he]; rfl))
                have hF2 : rdF 1 (d + 9) g7 f 0 = f_Rf_concept (d + 9) g7 f := rfl
                rw [hF2] at ih
                cases e1 : spX ak T n fu 1 (deep + 1) (sk T n a + 1) D 0 with
                | inl e =>
                  rw [e1] at ih
                  obtain ⟨z, x, ez, qz, z6, z7⟩ := ih
                  have Hz := fPr_at qz H7
                  have bad : ¬ am_I z f 6 = 0 := by
                    rw [z6]
                    exact nz6 (hz e (by rw [e1]; rfl)) (spX_6 _ _ _ _ _ _ _ (by omega) e1)
                  have q1z := fPr_f f z (j := 4) (by omega) (am_I z f 4 + 1)
                  have Hz1 := fPr_at q1z Hz
                  rw [lz_ci ez, lz_k (Rf_k Hz), lz_ci (Rf_fineN Hz bad (d + 9)), if_pos rfl, e_Rf_atom_184, lz_i (Rf_k Hz) rfl, lz_k (Rf_k Hz), lz_i (Rf_k Hz1) rfl, lz_k (Rf_k Hz1), pbd_l]
                  refine RO_e rfl (fPr_t q07 (fPr_t qz (fPr_t q1z (fPr_f f _ (j := 16) (by omega) _)))) ?_ ?_
                  · rw [pc_I_I, if_neg (by omega), pc_I_I, if_neg (by omega)]
                    exact z6
                  · rw [pc_I_I, if_neg (by omega), pc_I_I, if_neg (by omega)]
                    exact z7
                | inr y =>
                  obtain ⟨q2, D2, y⟩ := y
                  rw [e1] at ih hz
                  rw [pbd_r] at hz ⊢
                  obtain ⟨z, ez, qz, Rz⟩ := ih
                  replace ez : _ = some (Sum.inr (some (Value.int (nI y))), z) := ez
                  replace Rz : RSa z f T n ak D2 q2 (deep + 1) := Rz
                  have Hz := Rz.1
                  have zn := Rz.2.2.2.1
                  have sl2 := sk_le (T := T) zn
                  obtain ⟨t, et, qt, t4⟩ := Rf_here Hz Rz.2.1 zn Rz.2.2.1 (d + 8)
                  have Rt := RSa_m Rz qt t4 sl2
                  have Ht := Rt.1
                  have be2 := bt_e (T := T) (n := n) (k := sk T n q2) (c := 41) (fun c => (Tp.2.1 _ c).1) (by omega)
                  rw [lz_ci ez, lz_k (Rf_k Hz), lz_ci (Rf_fineY Hz Rz.2.2.2.2.1 (d + 9)), if_neg (by decide), lz_k (Rf_k Hz), lz_ci et]
                  by_cases c7 : tk T n (sk T n q2) = 6
                  · have p2 := (tk_rp.mp c7).1
                    have R8 := RSa_p (a' := sk T n q2 + 1) Rt (by omega)
                    have H8 := R8.1
                    rw [if_pos c7, if_pos (by rw [show (41 : Int32) = nI 41 from rfl, be2]; exact tk_rp.mp c7), e_Rf_atom_184, lz_i (Rf_k Ht) t4, lz_k (Rf_k Ht), nI_1, lz_i (Rf_k H8) R8.2.2.2.2.2.2.2.1, lz_k (Rf_k H8), nI_pred]
                    obtain ⟨g9, eg9⟩ : ∃ g9, g9 = am_sI (am_sI t f 4 (nI (sk T n q2 + 1))) f 16 (nI deep) := ⟨_, rfl⟩
                    have q89 : fPr f (am_sI t f 4 (nI (sk T n q2 + 1))) g9 := by
                      rw [eg9]
                      exact fPr_f f _ (by omega) _
                    have H9 := fPr_at q89 H8
                    have R9 : RSa g9 f T n ak D2 (sk T n q2 + 1) deep := by
                      obtain ⟨r1, r2, r3, r4, r5, r6, r7, r8, r9⟩ := R8
                      have fj : ∀ j, j ≠ 16 → am_I g9 f j = am_I (am_sI t f 4 (nI (sk T n q2 + 1))) f j := fun j p => by rw [eg9, pc_I_I, if_neg (by omega)]
                      refine ⟨H9, ⟨r2.1, fun k hk => ?_, ?_⟩, ?_, r4, ?_, ?_, ?_, ?_, RwD_of r9 q89.1 ?_⟩
                      · rw [q89.2.2.2.2.2.1 (f + 2) (by omega) (by omega)]
                        exact r2.2.1 k hk
                      · rw [fj 3 (by omega)]; exact r2.2.2
                      · rw [fj 4 (by omega)]; exact r3
                      · rw [fj 6 (by omega)]; exact r5
                      · rw [fj 7 (by omega)]; exact r6
                      · rw [fj 17 (by omega)]; exact r7
                      · rw [eg9, pc_I_I, if_pos ⟨rfl, rfl⟩]
                      · rw [eg9]
                        funext j
                        rw [pc_I_I, if_neg (by omega)]
                    rw [← eg9]
                    exact RO_s rfl (fPr_t q07 (fPr_t qz (fPr_t (fat_Pr qt) (fPr_t (fPr_f f t (j := 4) (by omega) (nI (sk T n q2 + 1))) q89)))) R9
                  · rw [if_neg c7, if_neg (by rw [show (41 : Int32) = nI 41 from rfl, be2]; exact fun q => c7 (tk_rp.mpr q)), lz_i (Rf_k Ht) t4, lz_k (Rf_k Ht)]
                    obtain ⟨u, eu, qu, u6, u7⟩ := Rf_wr Ht Rt.2.2.2.2.1 1 (sk T n q2) (d + 9)
                    rw [n_1, lz_ci eu]
                    exact RO_e rfl (fPr_t q07 (fPr_t qz (fPr_t (fat_Pr qt) qu))) u6 u7
            · rw [if_neg c5] at hz ⊢
              have ro := Rf_name R5 w (d + 3)
              rw [if_neg (by rw [show (40 : Int32) = nI 40 from rfl, be]; exact fun q => c5 (tk_lp.mpr q)), lz_k (Rf_k H5)]
              have es : spN ak false T n (sk T n a) D = spN ak false T n a D := by
                unfold spN
                rw [sk_k]
              rw [es] at ro
              cases e1 : spN ak false T n a D with
              | inl e =>
                rw [e1] at ro
                obtain ⟨u, x, eu, qu, u6, u7⟩ := ro
                have Hu := fPr_at qu H5
                have bad : ¬ am_I u f 6 = 0 := by
                  rw [u6]
                  exact nz6 (spN_k e1) (spN_6 e1)
                rw [lz_ci eu, lz_k (Rf_k Hu), lz_ci (Rf_partN Hu bad _ _ _ (d + 8)), pbd_l]
                exact RO_e rfl (fPr_t q05 qu) u6 u7
              | inr y =>
                obtain ⟨q2, D2, x⟩ := y
                rw [e1] at ro
                obtain ⟨u, eu, qu, Ru⟩ := ro
                replace eu : _ = some (Sum.inr (some (Value.int (nI x))), u) := eu
                replace Ru : RSa u f T n ak D2 q2 deep := Ru
                obtain ⟨a1, a2, a3, a4, a5, a6, a7, a8⟩ := spN_c e1 an
                have wN := spN_w e1 w
                have a4' : o_P D2.1 = o_P D.1 := a4
                have a6' : x < o_N D2.1 := a6
                have n24 := wN.1
                obtain ⟨t, et, qt, Rt⟩ := Rf_part (k := 0) (x := x) (y := 4294967295) Ru wN (by omega) (by omega) (by omega) (by omega) (d + 8)
                rw [lz_ci eu, lz_k (Rf_k Ru.1), n_0, lit_m1, lz_ci et, pbd_r]
                exact RO_s rfl (fPr_t q05 (fPr_t qu qt)) Rt
    · -- a concept
      rw [if_neg (by omega)] at hdep
      obtain ⟨d, rfl⟩ : ∃ d, dep = d + 11 := ⟨dep - 11, by omega⟩
      have hF : rdF 1 (d + 11) h f v = f_Rf_concept (d + 11) h f := rfl
      rw [hF]
      rw [spX_1] at hz ⊢
      have ih := Rf_X fu 0 deep a D 0 h (d + 10) (by omega) RR w (by omega) hcap hdp (by rw [if_pos rfl]; omega) (fun e he => hz e (by rw [he]; rfl))
      have hF2 : rdF 0 (d + 10) h f 0 = f_Rf_atom (d + 10) h f := rfl
      rw [hF2] at ih
      rw [e_Rf_concept, lz_k (Rf_k H)]
      cases e1 : spX ak T n fu 0 deep a D 0 with
      | inl e =>
        rw [e1] at ih
        obtain ⟨z, x, ez, qz, z6, z7⟩ := ih
        have Hz := fPr_at qz H
        have bad : ¬ am_I z f 6 = 0 := by
          rw [z6]
          exact nz6 (hz e (by rw [e1]; rfl)) (spX_6 _ _ _ _ _ _ _ (by omega) e1)
        rw [lz_ci ez, pbd_l]
        exact RO_e (Rf_con5N Hz bad _ (d + 9)) qz z6 z7
      | inr y =>
        obtain ⟨q2, D2, y⟩ := y
        rw [e1] at ih hz
        rw [pbd_r] at hz ⊢
        obtain ⟨z, ez, qz, Rz⟩ := ih
        replace ez : _ = some (Sum.inr (some (Value.int (nI y))), z) := ez
        replace Rz : RSa z f T n ak D2 q2 deep := Rz
        obtain ⟨b1, b2, b3, b4, b5, b6, b7, b8, b9, b10⟩ := spX_c fu 0 deep a D 0 q2 D2 y (by omega) an w (by omega) e1
        rw [lz_ci ez]
        refine RO_f qz ?_
        have ih2 := Rf_X fu 2 deep q2 D2 y z (d + 11) (by omega) Rz b7 b6 (by omega) hdp (by rw [if_neg (by omega)]; omega) hz
        exact ih2
    · -- what follows
      rw [if_neg (by omega)] at hdep
      obtain ⟨d, rfl⟩ : ∃ d, dep = d + 11 := ⟨dep - 11, by omega⟩
      have hF : rdF 2 (d + 11) h f v = f_Rf_concept_5 (d + 11) h f (nI v) := rfl
      rw [hF]
      rw [spX_2] at hz ⊢
      rw [e_Rf_concept_5, lz_k (Rf_k H)]
      rcases Rf_tak RR (c := 38) (by omega) (d + 8) with ⟨t1, t2, g, eg, qg, Rg⟩ | ⟨tn, g, eg, qg, Rg⟩
      · have c7 : tk T n (sk T n a) = 7 := tk_an.mpr ⟨t1, t2⟩
        rw [if_pos c7] at hz ⊢
        rw [show (38 : Int32) = nI 38 from rfl, lz_ci eg, if_neg (by decide), lz_k (Rf_k Rg.1)]
        have ih := Rf_X fu 0 deep (sk T n a + 1) D 0 g (d + 10) (by omega) Rg w (by omega) (by omega) hdp (by rw [if_pos rfl]; omega) (fun e he => hz e (by rw [he]; rfl))
        have hF2 : rdF 0 (d + 10) g f 0 = f_Rf_atom (d + 10) g f := rfl
        rw [hF2] at ih
        cases e1 : spX ak T n fu 0 deep (sk T n a + 1) D 0 with
        | inl e =>
          rw [e1] at ih
          obtain ⟨z, x, ez, qz, z6, z7⟩ := ih
          have Hz := fPr_at qz Rg.1
          have bad : ¬ am_I z f 6 = 0 := by
            rw [z6]
            exact nz6 (hz e (by rw [e1]; rfl)) (spX_6 _ _ _ _ _ _ _ (by omega) e1)
          rw [lz_ci ez, lz_k (Rf_k Hz), lz_ci (Rf_partN Hz bad _ _ _ (d + 9)), pbd_l]
          exact RO_e (Rf_con5N Hz bad _ (d + 9)) (fPr_t qg qz) z6 z7
        | inr y =>
          obtain ⟨q2, D2, y⟩ := y
          rw [e1] at ih hz
          rw [pbd_r] at hz ⊢
          obtain ⟨z, ez, qz, Rz⟩ := ih
          replace ez : _ = some (Sum.inr (some (Value.int (nI y))), z) := ez
          replace Rz : RSa z f T n ak D2 q2 deep := Rz
          obtain ⟨b1, b2, b3, b4, b5, b6, b7, b8, b9, b10⟩ := spX_c fu 0 deep (sk T n a + 1) D 0 q2 D2 y (by omega) (by omega) w (by omega) e1
          obtain ⟨p1, p2, p3, p4, p5, p6⟩ := spP_c D2 3 v y
          have b2' := b2 (by omega)
          obtain ⟨t, et, qt, Rt⟩ := Rf_part (k := 3) (x := v) (y := y) Rz b7 (by omega) (by omega) (by omega) (by omega) (d + 9)
          rw [lz_ci ez, lz_k (Rf_k Rz.1), n_3, lz_ci et]
          refine RO_f (fPr_t qg (fPr_t qz qt)) ?_
          exact Rf_X fu 2 deep q2 (spP D2 3 v y).1 (spP D2 3 v y).2 t (d + 11) (by omega) Rt (spP_w b7 (Or.inl ⟨rfl, by omega, b6⟩)) p3 (by omega) hdp (by rw [if_neg (by omega)]; omega) hz
      · have c7 : ¬ tk T n (sk T n a) = 7 := fun e => tn (tk_an.mp e)
        rw [if_neg c7, show (38 : Int32) = nI 38 from rfl, lz_ci eg, if_pos rfl]
        exact RO_s rfl qg Rg
