/-! ===== the reference reads a text ===== -/
theorem Rf_ofC {T : Nat → Nat} {n f a : Nat} {D : DT} {h : am_H} (R : RSa h f T n false D a 0) (w : wfD D no_x) (hA : o_A D.1 < 32) (hcap : o_P D.1 + (n - a) ≤ 460) (d : Nat) : RV (f_Rf_ofConcepts (d + 813) h f (nI (sk T n a))) h f T n false 0 (spC T n a D) := by
  have H := R.1
  have an := R.2.2.2.1
  have Tp := R.2.1
  have n4 := Tp.1
  have w2 := w.2.2.1
  have co := Rf_con R w hcap (by omega) (d + 1)
  rw [e_Rf_ofConcepts, lz_k (Rf_k H)]
  unfold spC
  cases e1 : spX false T n 1000 1 0 a D 0 with
  | inl e =>
    rw [e1] at co
    obtain ⟨u, x, eu, qu, u6, u7⟩ := co
    have Hu := fPr_at qu H
    have bad : ¬ am_I u f 6 = 0 := by
      rw [u6]
      exact nz6 (spX_f 1000 1 0 a D 0 e (by omega) an w (by omega) (by rw [if_pos rfl]; omega) e1) (spX_6 _ _ _ _ _ _ _ (by omega) e1)
    rw [lz_ci eu, lz_k (Rf_k Hu), lz_ci (Rf_fineN Hu bad (d + 812)), if_pos rfl, pbd_l]
    exact RV_e rfl qu u6 u7
  | inr y =>
    obtain ⟨q2, D2, c⟩ := y
    rw [e1] at co
    rw [pbd_r]
    obtain ⟨u, eu, qu, Ru⟩ := co
    replace eu : _ = some (Sum.inr (some (Value.int (nI c))), u) := eu
    replace Ru : RSa u f T n false D2 q2 0 := Ru
    obtain ⟨b1, b2, b3, b4, b5, b6, b7, b8, b9, b10⟩ := spX_c 1000 1 0 a D 0 q2 D2 c (by omega) an w (by omega) e1
    have sl := sk_le (T := T) b3
    have g2 := sk_ge T n q2
    obtain ⟨v, ev, qv, v4⟩ := Rf_here Ru.1 Ru.2.1 b3 Ru.2.2.1 (d + 811)
    have Rv := RSa_m Ru qv v4 sl
    have Hv := Rv.1
    have be := fun (x : Nat) (hx : x < 256) => bt_e (T := T) (n := n) (k := sk T n q2) (c := x) (fun c => (Tp.2.1 _ c).1) hx
    rw [lz_ci eu, lz_k (Rf_k Ru.1), lz_ci (Rf_fineY Ru.1 Ru.2.2.2.2.1 (d + 812)), if_neg (by decide), lz_k (Rf_k Ru.1), lz_ci ev]
    refine RV_f (fPr_t qu (fat_Pr qv)) ?_
    by_cases c9 : tk T n (sk T n q2) = 9
    · have p2 := (tk_eq.mp c9).1
      rw [if_pos (by rw [show (61 : Int32) = nI 61 from rfl, be 61 (by omega)]; exact tk_eq.mp c9), if_neg (by decide), if_pos (Or.inl c9), if_pos c9]
      exact Rf_oc59 Rv b7 (by omega) (by omega) p2 b6 true (d + 1)
    · rw [if_neg (by rw [show (61 : Int32) = nI 61 from rfl, be 61 (by omega)]; exact fun q => c9 (tk_eq.mpr q)), if_pos (by decide)]
      obtain ⟨z, ez, qz, z4⟩ := Rf_here Hv Rv.2.1 sl v4 (d + 811)
      rw [sk_k] at ez z4
      have Rz := RSa_m Rv qz z4 sl
      have Hz := Rz.1
      rw [lz_k (Rf_k Hv), lz_ci ez]
      refine RV_f (fat_Pr qz) ?_
      by_cases c60 : sk T n q2 < n ∧ T (sk T n q2) = 60
      · obtain ⟨t, et, qt, Rt⟩ := Rf_twi Rz (d + 810)
        rw [sk_k] at et Rt
        rw [if_pos (by rw [show (60 : Int32) = nI 60 from rfl, be 60 (by omega)]; exact c60), lz_k (Rf_k Hz), lz_ci et]
        refine RV_f qt ?_
        by_cases c11 : tk T n (sk T n q2) = 11
        · have no : ¬ (tk T n (sk T n q2) = 9 ∨ tk T n (sk T n q2) = 8) := by omega
          obtain ⟨s, es, qs, s6, s7⟩ := Rf_wr Rt.1 Rt.2.2.2.2.1 1 (sk T n q2) (d + 812)
          rw [pd_t c11, bo_t, if_neg (by decide), lz_i (Rf_k Rt.1) Rt.2.2.1, lz_k (Rf_k Rt.1), n_1, lz_ci es, if_neg no]
          exact RV_e rfl qs s6 s7
        · have c8 : tk T n (sk T n q2) = 8 := tk_le.mpr ⟨c60.1, c60.2, fun q => c11 (tk_ll.mpr ⟨c60.1, c60.2, q⟩)⟩
          rw [pd_f c11, bo_f, if_pos rfl, if_pos (Or.inr c8), if_neg c9]
          exact Rf_oc59 Rt b7 (by omega) (by omega) c60.1 b6 false (d + 1)
      · have no : ¬ (tk T n (sk T n q2) = 9 ∨ tk T n (sk T n q2) = 8) := fun e => e.elim c9 (fun e => c60 ⟨(tk_le.mp e).1, (tk_le.mp e).2.1⟩)
        obtain ⟨s, es, qs, s6, s7⟩ := Rf_wr Hz Rz.2.2.2.2.1 1 (sk T n q2) (d + 812)
        rw [if_neg (by rw [show (60 : Int32) = nI 60 from rfl, be 60 (by omega)]; exact c60), lz_i (Rf_k Hz) z4, lz_k (Rf_k Hz), n_1, lz_ci es, if_neg no]
        exact RV_e rfl qs s6 s7
theorem Rf_isR {T : Nat → Nat} {n f p deep : Nat} {ak : Bool} {D : DT} {h : am_H} (R : RSa h f T n ak D p deep) (hk : sk T n p = p) (d : Nat) : ∃ h', f_Rf_isOfRoles (d + 5) h f = some (.inr (some (.int (bo (pd (tk T n p = 1 ∧ (tk T n (sk T n (p + lw T n p)) = 10 ∨ tk T n (sk T n (p + lw T n p)) = 11)))))), h') ∧ fPr f h h' ∧ RSa h' f T n ak D p deep := by
  have H := R.1
  have pn := R.2.2.2.1
  have Tp := R.2.1
  have n4 := Tp.1
  have ln := lw_n (T := T) pn
  obtain ⟨g, eg, qg, g4⟩ := Rf_letters H Tp pn R.2.2.1 (d + 2)
  rw [hk] at eg g4
  have Rg := RSa_m R qg g4 pn
  have Hg := Rg.1
  rw [e_Rf_isOfRoles, lz_i (Rf_k H) R.2.2.1, lz_k (Rf_k H), lz_ci eg]
  by_cases c0 : lw T n p = 0
  · refine ⟨g, ?_, fat_Pr qg, Rg⟩
    rw [if_pos (by rw [c0]; rfl), o1_0, pd_f]
    · rfl
    · intro e
      have := (tk_14 (T := T) (n := n) (p := p) (by omega) (by omega)).2
      omega
  · obtain ⟨u, eu, qu, u4⟩ := Rf_isOwn Hg Rg.2.1 pn g4 d
    rw [hk] at eu u4
    have Ru := RSa_m Rg qu u4 pn
    have Hu := Ru.1
    obtain ⟨w1, w2, -⟩ := tk_w (T := T) (n := n) (p := p) ((lw_l T n p).2 0 (by omega)).1 (by omega)
    rw [if_neg (by rw [n_0, nI_e32 (by omega) (by omega)]; exact c0), lz_k (Rf_k Hg), lz_ci eu]
    by_cases c1 : tk T n p = 1
    · rw [pd_f (by omega), bo_f, if_pos rfl, lz_i (Rf_k Hu) u4, lz_k (Rf_k Hu), nI_add]
      have R1 := RSa_p (a' := p + lw T n p) Ru ln
      have H1 := R1.1
      have sl := sk_le (T := T) ln
      obtain ⟨v, ev, qv, v4⟩ := Rf_here H1 R1.2.1 ln R1.2.2.1 (d + 3)
      have Rv := RSa_m R1 qv v4 sl
      have Hv := Rv.1
      have q0v := fPr_t (fat_Pr qg) (fPr_t (fat_Pr qu) (fPr_t (fPr_f f u (j := 4) (by omega) (nI (p + lw T n p))) (fat_Pr qv)))
      have be := bt_e (T := T) (n := n) (k := sk T n (p + lw T n p)) (c := 42) (fun c => (Tp.2.1 _ c).1) (by omega)
      rw [lz_k (Rf_k H1), lz_ci ev]
      by_cases c10 : tk T n (sk T n (p + lw T n p)) = 10
      · refine ⟨am_sI v f 4 (nI p), ?_, fPr_t q0v (fPr_f f v (by omega) _), RSa_p Rv pn⟩
        rw [if_pos (by rw [show (42 : Int32) = nI 42 from rfl, be]; exact tk_st.mp c10), lz_k (Rf_k Hv), o1_1, pd_t ⟨c1, Or.inl c10⟩]
        rfl
      · obtain ⟨z, ez, qz, Rz⟩ := Rf_twi Rv (d + 2)
        rw [sk_k] at ez Rz
        rw [if_neg (by rw [show (42 : Int32) = nI 42 from rfl, be]; exact fun q => c10 (tk_st.mpr q)), lz_k (Rf_k Hv), lz_ci ez]
        refine ⟨am_sI z f 4 (nI p), ?_, fPr_t q0v (fPr_t qz (fPr_f f z (by omega) _)), RSa_p Rz pn⟩
        by_cases c11 : tk T n (sk T n (p + lw T n p)) = 11
        · rw [pd_t c11, bo_t, if_neg (by decide), lz_k (Rf_k Rz.1), o1_1, pd_t ⟨c1, Or.inr c11⟩]
          rfl
        · rw [pd_f c11, bo_f, if_pos rfl, lz_k (Rf_k Rz.1), o1_0, pd_f (fun e => e.2.elim c10 c11)]
          rfl
    · refine ⟨u, ?_, fPr_t (fat_Pr qg) (fat_Pr qu), Ru⟩
      rw [pd_t (by omega), bo_t, if_neg (by decide), o1_0, pd_f (fun e => c1 e.1)]
      rfl
/-- a text read: to where -/
def TX (F : Option am_R) (d : Nat) (h : am_H) (f : Nat) (T : Nat → Nat) (n : Nat) (r : (Nat × Nat) ⊕ DT) : Prop := match r with
  | .inl e => ∃ h', F = f_Rf_text_180 (d + 814) h' f ∧ fPr f h h' ∧ am_I h' f 6 = nI e.1 ∧ am_I h' f 7 = nI e.2
  | .inr D => ∃ h' a, F = f_Rf_text_180 (d + 814) h' f ∧ fPr f h h' ∧ RSa h' f T n false D a 0
theorem TX_f {F : Option am_R} {d : Nat} {h g : am_H} {f : Nat} {T : Nat → Nat} {n : Nat} {r : (Nat × Nat) ⊕ DT} (q : fPr f h g) (H : TX F d g f T n r) : TX F d h f T n r := by
  cases r with
  | inl e =>
    obtain ⟨u, e1, e2, e3⟩ := H
    exact ⟨u, e1, fPr_t q e2, e3⟩
  | inr D =>
    obtain ⟨u, a, e1, e2, e3⟩ := H
    exact ⟨u, a, e1, fPr_t q e2, e3⟩
theorem Rf_t50 {T : Nat → Nat} {n f : Nat} (d : Nat) : ∀ fu a D h, RSa h f T n false D a 0 → wfD D no_x → o_P D.1 ≤ 60 → n - a < fu → TX (f_Rf_text_50 (d + 814) h f) d h f T n (spT T n fu a D)
  | 0, _, _, _, _, _, _, hf => absurd hf (by omega)
  | fu + 1, a, D, h, R, w, h60, hf => by
    have H := R.1
    have an := R.2.2.2.1
    have Tp := R.2.1
    have n4 := Tp.1
    have w2 := w.2.2.1
    have h32 := w.2.2.2.1
    have sl := sk_le (T := T) an
    have ga := sk_ge T n a
    have ln := lw_n (T := T) sl
    obtain ⟨g, eg, qg, g4⟩ := Rf_here H Tp an R.2.2.1 (d + 812)
    have Rg := RSa_m R qg g4 sl
    have Hg := Rg.1
    have Tg := Rg.2.1
    -- a fault ends it
    have stop : ∀ u, fPr f g u → ∀ k p, k ≠ 0 → k ≤ 6 → am_I u f 6 = nI k → am_I u f 7 = nI p → TX (f_Rf_text_50 (d + 814) u f) d g f T n (.inl (k, p)) := by
      intro u qu k p k1 k2 u6 u7
      have Hu := fPr_at qu Hg
      have bad : ¬ am_I u f 6 = 0 := by
        rw [u6]
        exact nz6 k1 k2
      refine ⟨u, ?_, qu, u6, u7⟩
      rw [e_Rf_text_50, lz_k (Rf_k Hu), lz_ci (Rf_fineN Hu bad (d + 813)), if_pos rfl]
    refine TX_f (fat_Pr qg) ?_
    rw [e_Rf_text_50, lz_k (Rf_k H), lz_ci (Rf_fineY H R.2.2.2.2.1 (d + 813)), if_neg (by decide), lz_k (Rf_k H), lz_ci eg, spT_s]
    by_cases c0 : n ≤ sk T n a
    · rw [if_pos (by rw [bt_1 (fun c => (Tp.2.1 _ c).1)]; exact c0), if_pos (tk_0 c0)]
      exact ⟨g, sk T n a, rfl, fPr_r f g, Rg⟩
    · have t0 : ¬ tk T n (sk T n a) = 0 := fun e => by
        rcases Nat.eq_zero_or_pos (lw T n (sk T n a)) with z | z
        · have := (tk_s (T := T) (n := n) (p := sk T n a) (by omega) z).2
          omega
        · have := (tk_w (T := T) (n := n) (p := sk T n a) (by omega) z).1
          omega
      rw [if_neg (by rw [bt_1 (fun c => (Tp.2.1 _ c).1)]; exact c0), if_neg t0, lz_i (Rf_k Hg) g4, lz_i (Rf_k Hg) g4, lz_k (Rf_k Hg), lz_ci (Rf_byteAt Hg Tg (by omega) (d + 813)), lz_ci (Rf_small (fun c => (Tp.2.1 _ c).1) g (d + 813))]
      have be := bt_e (T := T) (n := n) (k := sk T n a) (c := 40) (fun c => (Tp.2.1 _ c).1) (by omega)
      have go : ∀ s : Bool, (s = true ↔ ¬ 5 < tk T n (sk T n a)) → TX (f_Rf_text_102 (d + 814) g f (nI (sk T n a)) (bo s)) d g f T n (if 5 < tk T n (sk T n a) then .inl (1, sk T n a)
          else if tk T n (sk T n a) = 1 ∧ 6 < lw T n (sk T n a) then .inl (2, sk T n a) else if o_A D.1 = 32 then .inl (3, sk T n a)
          else match (if tk T n (sk T n a) = 1 ∧ (tk T n (sk T n (sk T n a + lw T n (sk T n a))) = 10 ∨ tk T n (sk T n (sk T n a + lw T n (sk T n a))) = 11) then spR T n a D else spC T n a D) with
            | .inl e => .inl e
            | .inr y => spT T n fu y.1 y.2.1) := by
        intro s hs
        rw [e_Rf_text_102]
        cases s with
        | false =>
          have c5 : 5 < tk T n (sk T n a) := Classical.byContradiction (fun q => absurd (hs.mpr q) (by decide))
          obtain ⟨u, eu, qu, u6, u7⟩ := Rf_wr Hg Rg.2.2.2.2.1 1 (sk T n a) (d + 813)
          rw [bo_f, if_pos rfl, lz_k (Rf_k Hg), n_1, lz_ci eu, if_pos c5]
          exact stop u qu 1 _ (by omega) (by omega) u6 u7
        | true =>
          have c5 := hs.mp rfl
          have ar3 : ∀ K, am_ar g 9 (f + 4) 3 K = K 3 := fun K => RwD_ar Rg.2.2.2.2.2.2.2.2 (k := 3) (by omega) K
          have v3 : am_I g (f + 4) 3 = nI (o_A D.1) := Rg.2.2.2.2.2.2.2.2.2.2.2.2.2.1
          rw [bo_t, if_neg (by decide), lz_p (Rf_k Hg) (Rf_p10 Hg), ar3, v3, if_neg c5]
          by_cases cA : o_A D.1 = 32
          · obtain ⟨u, eu, qu, u4⟩ := Rf_letters Hg Tg sl g4 (d + 811)
            rw [sk_k] at eu u4
            have Ru := RSa_m Rg qu u4 sl
            rw [if_pos (by rw [cA]; rfl), lz_k (Rf_k Hg), lz_ci eu]
            by_cases c6 : lw T n (sk T n a) ≤ 6
            · obtain ⟨v, ev, qv, v6, v7⟩ := Rf_wr Ru.1 Ru.2.2.2.2.1 3 (sk T n a) (d + 813)
              rw [if_pos (by rw [n_6, n_le _ _ (by omega) (by omega)]; exact c6), lz_k (Rf_k Ru.1), n_3, lz_ci ev, if_neg (by omega), if_pos cA]
              exact stop v (fPr_t (fat_Pr qu) qv) 3 _ (by omega) (by omega) v6 v7
            · obtain ⟨z, ez, qz, z4⟩ := Rf_isOwn Ru.1 Ru.2.1 sl u4 (d + 809)
              rw [sk_k] at ez z4
              have Rz := RSa_m Ru qz z4 sl
              obtain ⟨w1, w2', -⟩ := tk_w (T := T) (n := n) (p := sk T n a) (by omega) (by omega)
              rw [if_neg (by rw [n_6, n_le _ _ (by omega) (by omega)]; exact c6), lz_k (Rf_k Ru.1), lz_ci ez]
              by_cases c1 : tk T n (sk T n a) = 1
              · obtain ⟨v, ev, qv, v6, v7⟩ := Rf_wr Rz.1 Rz.2.2.2.2.1 2 (sk T n a) (d + 813)
                rw [pd_f (by omega), bo_f, if_pos rfl, lz_k (Rf_k Rz.1), n_2, lz_ci ev, if_pos ⟨c1, by omega⟩]
                exact stop v (fPr_t (fat_Pr qu) (fPr_t (fat_Pr qz) qv)) 2 _ (by omega) (by omega) v6 v7
              · obtain ⟨v, ev, qv, v6, v7⟩ := Rf_wr Rz.1 Rz.2.2.2.2.1 3 (sk T n a) (d + 813)
                rw [pd_t (by omega), bo_t, if_neg (by decide), lz_k (Rf_k Rz.1), n_3, lz_ci ev, if_neg (fun e => c1 e.1), if_pos cA]
                exact stop v (fPr_t (fat_Pr qu) (fPr_t (fat_Pr qz) qv)) 3 _ (by omega) (by omega) v6 v7
          · obtain ⟨u, eu, qu, Ru⟩ := Rf_isR Rg (sk_k T n a) (d + 808)
            have eR : spR T n (sk T n a) D = spR T n a D := by
              unfold spR spN
              rw [sk_k]
            have eX : spX false T n 1000 1 0 (sk T n a) D 0 = spX false T n 1000 1 0 a D 0 := by
              rw [show (1000 : Nat) = 998 + 1 + 1 from rfl, spX_1, spX_1, spX_0, spX_0, sk_k]
              unfold spN
              rw [sk_k]
            have eC : spC T n (sk T n a) D = spC T n a D := by
              unfold spC
              rw [eX, sk_k]
            have oR := Rf_ofR Ru w (by omega) (d + 805)
            have oC := Rf_ofC Ru w (by omega) (by omega) d
            rw [sk_k] at oC
            rw [eR] at oR
            rw [eC] at oC
            rw [if_neg (by rw [show (32 : Int32) = nI 32 from rfl, nI_e32 (by omega) (by omega)]; exact cA), lz_k (Rf_k Hg), lz_ci eu]
            -- a word that is too long is a fault either way
            have long : tk T n (sk T n a) = 1 ∧ 6 < lw T n (sk T n a) → spR T n a D = .inl (2, sk T n a) ∧ spC T n a D = .inl (2, sk T n a) := by
              rintro ⟨q1, q2⟩
              have eN : ∀ r, spN false r T n a D = .inl (2, sk T n a) := fun r => by
                unfold spN
                rw [if_pos q1, if_pos q2]
              refine ⟨?_, ?_⟩
              · unfold spR
                rw [eN]
                rfl
              · unfold spC
                rw [show (1000 : Nat) = 998 + 1 + 1 from rfl, spX_1, spX_0, if_neg (by omega), if_neg (by omega), if_neg (by omega), if_neg (by omega), eN]
                rfl
            have nxt : ∀ r : PRs, (r = spR T n a D ∨ r = spC T n a D) → ∀ F : Option am_R, RV F u f T n false 0 r → TX (am_cv F fun h_17 => f_Rf_text_50 (d + 814) h_17 f) d g f T n (match r with
                | .inl e => .inl e
                | .inr y => spT T n fu y.1 y.2.1) := by
              intro r hr F rv
              cases r with
              | inl e =>
                obtain ⟨v, ev, qv, v6, v7⟩ := rv
                have k2 : e.1 ≠ 0 ∧ e.1 ≤ 6 := by
                  rcases hr with hr | hr
                  · exact spR_k hr.symm
                  · exact spC_k n4 an w hr.symm
                rw [lz_cv ev]
                exact stop v (fPr_t qu qv) e.1 e.2 k2.1 k2.2 v6 v7
              | inr y =>
                obtain ⟨q2, D2, v2⟩ := y
                obtain ⟨v, ev, qv, Rv⟩ := rv
                replace Rv : RSa v f T n false D2 q2 0 := Rv
                rw [lz_cv ev]
                refine TX_f (fPr_t qu qv) ?_
                rcases hr with hr | hr
                · obtain ⟨a1, a2, a3, a4, a5⟩ := spR_c an w (by omega) hr.symm
                  exact Rf_t50 d fu q2 D2 v Rv a3 (by omega) (by omega)
                · obtain ⟨a1, a2, a3, a4, a5⟩ := spC_c an w (by omega) hr.symm
                  exact Rf_t50 d fu q2 D2 v Rv a3 a4 (by omega)
            by_cases c8 : tk T n (sk T n a) = 1 ∧ (tk T n (sk T n (sk T n a + lw T n (sk T n a))) = 10 ∨ tk T n (sk T n (sk T n a + lw T n (sk T n a))) = 11)
            · rw [pd_t c8, bo_t, if_neg (by decide), lz_k (Rf_k Ru.1)]
              have res := nxt _ (Or.inl rfl) _ oR
              by_cases c6 : tk T n (sk T n a) = 1 ∧ 6 < lw T n (sk T n a)
              · rw [(long c6).1] at res
                rw [if_pos c6]
                exact res
              · rw [if_neg c6, if_neg cA, if_pos c8]
                exact res
            · rw [pd_f c8, bo_f, if_pos rfl, lz_k (Rf_k Ru.1)]
              have res := nxt _ (Or.inr rfl) _ oC
              by_cases c6 : tk T n (sk T n a) = 1 ∧ 6 < lw T n (sk T n a)
              · rw [(long c6).2] at res
                rw [if_pos c6]
                exact res
              · rw [if_neg c6, if_neg cA, if_neg c8]
                exact res
      by_cases cs : sk T n a < n ∧ sml (T (sk T n a))
      · have l1 : 0 < lw T n (sk T n a) := by
          rcases Nat.eq_zero_or_pos (lw T n (sk T n a)) with z | z
          · have := (lw_l T n (sk T n a)).1
            rw [z, Nat.add_zero] at this
            exact absurd cs this
          · exact z
        have t4 := (tk_w (T := T) (n := n) (p := sk T n a) (by omega) l1).2.1
        rw [pd_t cs, bo_t, if_neg (by decide)]
        exact go true ⟨fun _ => by omega, fun _ => rfl⟩
      · have l0 : lw T n (sk T n a) = 0 := by
          rcases Nat.eq_zero_or_pos (lw T n (sk T n a)) with z | z
          · exact z
          · have := (lw_l T n (sk T n a)).2 0 z
            rw [Nat.add_zero] at this
            exact absurd this cs
        have t5 := (tk_s (T := T) (n := n) (p := sk T n a) (by omega) l0).2
        rw [pd_f cs, bo_f, if_pos rfl, lz_i (Rf_k Hg) g4, lz_k (Rf_k Hg), lz_ci (Rf_byteAt Hg Tg (by omega) (d + 813))]
        by_cases c40 : sk T n a < n ∧ T (sk T n a) = 40
        · rw [if_pos (by rw [show (40 : Int32) = nI 40 from rfl, be]; exact c40)]
          have := tk_lp.mpr c40
          exact go true ⟨fun _ => by omega, fun _ => rfl⟩
        · rw [if_neg (by rw [show (40 : Int32) = nI 40 from rfl, be]; exact c40)]
          have : ¬ tk T n (sk T n a) = 5 := fun e => c40 (tk_lp.mp e)
          exact go false ⟨fun e => absurd e (by decide), fun e => absurd e (by omega)⟩
