/-! ===== the class reads a concept ===== -/
theorem spN_sk (ak r : Bool) (T : Nat → Nat) (n q : Nat) (D : DT) : spN ak r T n (sk T n q) D = spN ak r T n q D := by
  unfold spN
  rw [sk_k]
theorem spN_ask {r : Bool} {T : Nat → Nat} {n q : Nat} {D : DT} {q' : Nat} {D' : DT} {v : Nat} (h : spN true r T n q D = .inr (q', D', v)) : D' = D := by
  unfold spN at h
  by_cases c1 : tk T n (sk T n q) = 1
  · rw [if_pos c1] at h
    by_cases c2 : 6 < lw T n (sk T n q)
    · rw [if_pos c2] at h
      cases h
    · rw [if_neg c2] at h
      by_cases c3 : ∃ k, k < d_cn D r ∧ d_ws D r k = wd T n (sk T n q)
      · rw [if_pos c3] at h
        exact (inr3 h).2.1.symm
      · rw [if_neg c3, if_pos rfl] at h
        cases h
  · rw [if_neg c1] at h
    cases h
theorem spX_sk (ak : Bool) (T : Nat → Nat) (n deep q : Nat) (D : DT) (v : Nat) : ∀ f, spX ak T n f 0 deep (sk T n q) D v = spX ak T n f 0 deep q D v
  | 0 => rfl
  | f + 1 => by rw [spX_0, spX_0, sk_k, spN_sk]
theorem PB_kp {h : am_H} {o : Nat} {T : Nat → Nat} {n : Nat} {ak : Bool} {D : DT} {p deep k : Nat} {K : Nat → Nat × Nat} {v : Nat × Nat} (B : PB h o T n ak D p deep k (kput K k v)) : PB h o T n ak D p deep k K := by
  obtain ⟨b1, b2, b3, b4, b5, b6, b7, b8, b9, b10, b11, b12, b13, b14⟩ := B
  refine ⟨b1, b2, b3, b4, b5, b6, b7, b8, b9, b10, b11, b12, ⟨b13.1, fun i hi => ?_⟩, b14⟩
  have := b13.2 i hi
  unfold kput at this
  rw [if_neg (by omega)] at this
  exact this
theorem FL_push {h0 h : am_H} {o : Nat} {T : Nat → Nat} {n : Nat} {e : Nat × Nat} (H : LcAt h) (F : FLT h0 h o T n e) (ho : o = 3 ∨ o = 20) (i x : Int32) (d : Nat) : ∃ u, f_Re_pushFrame d h 37 i x = some (.inr none, u) ∧ FLT h0 u o T n e := by
  have F0 := F
  obtain ⟨q, f9, f10, Tp, ⟨p, pn, R⟩, k, hk, f16, fW⟩ := F
  by_cases c4 : k < 400
  · refine ⟨_, Re_pushE H f16 c4 i x d, ?_⟩
    obtain ⟨z, ez⟩ : ∃ z, z = am_sI (am_sI (am_sI h 38 k i) 39 k x) 37 16 (nI (k + 1)) := ⟨_, rfl⟩
    rw [← ez]
    have qz : fPc o h z := by
      rw [ez]
      exact fPc_t (fPc_s h (by omega) _ _) (fPc_t (fPc_s _ (by omega) _ _) (fPc_i _ (by omega) (by omega) _))
    have zb : ∀ b, b ≠ 37 → b ≠ 38 → b ≠ 39 → am_I z b = am_I h b := fun b p1 p2 p3 => by
      rw [ez]
      funext j
      rw [pc_I_I, if_neg (fun e => p1 e.1), pc_I_I, if_neg (fun e => p3 e.1), pc_I_I, if_neg (fun e => p2 e.1)]
    have zj : ∀ j, j ≠ 16 → am_I z 37 j = am_I h 37 j := fun j hj => by
      rw [ez, pc_I_I, if_neg (by omega), pc_I_I, if_neg (by omega), pc_I_I, if_neg (by omega)]
    refine ⟨fPc_t q qz, by rw [zj 9 (by omega)]; exact f9, by rw [zj 10 (by omega)]; exact f10, ?_, ⟨p, pn, ?_⟩, k + 1, by omega, ?_, WC_of fW (zb _ (by omega) (by omega) (by omega)) (zb _ (by omega) (by omega) (by omega))⟩
    · unfold TpC
      rw [zb 2 (by omega) (by omega) (by omega)]
      exact Tp
    · unfold ReT
      rw [zj 1 (by omega), zj 4 (by omega), zj 5 (by omega), zj 6 (by omega), zj 7 (by omega), show am_L z = am_L h from by rw [ez]; rfl]
      exact R
    · rw [ez, pc_I_I, if_pos ⟨rfl, rfl⟩]
  · refine ⟨h, ?_, F0⟩
    have : k = 400 := by omega
    rw [e_Re_pushFrame, lz_i (Lc_k37 H) f16, lz_p (Lc_k37 H) (Lc_p37_14 H), Lc_l38 H, this, if_pos (Int32.le_refl _)]
theorem Re_pln {h : am_H} {o : Nat} {T : Nat → Nat} {n : Nat} {ak : Bool} {D : DT} {q deep k : Nat} {K : Nat → Nat × Nat} (B : PB h o T n ak D (sk T n q) deep k K) (w : wfD D no_x) (k4 : k ≤ 400) (hq : q ≤ n) (c4 : ¬ tk T n (sk T n q) = 4) (c5 : ¬ tk T n (sk T n q) = 5) (fu v d : Nat) : CO (f_Re_readPlain (d + 3) h 37) h o T n ak deep k K (spX ak T n (fu + 1) 0 deep q D v) := by
  have H := B.1
  have H3 := Lc_on H B.2.2.1
  have R := B.2.2.2.2.2.2.2.1
  have t13 := tk_13 T n (sk T n q)
  rw [spX_0, e_Re_readPlain, lz_i (Lc_k37 H) R.2.2.1]
  by_cases c2 : tk T n (sk T n q) = 2
  · obtain ⟨z, ez, qz, Bz⟩ := PB_st B d
    rw [if_pos c2, if_pos (by rw [c2]; rfl), lz_k (Lc_k37 H), lz_cv ez]
    exact ⟨z, _, rfl, qz, Bz, fun _ => rfl⟩
  · rw [if_neg c2, if_neg (by rw [n_2, nI_e32 (by omega) (by omega)]; exact c2), lz_i (Lc_k37 H) R.2.2.1]
    by_cases c3 : tk T n (sk T n q) = 3
    · obtain ⟨z, ez, qz, Bz⟩ := PB_st B d
      rw [if_pos c3, if_pos (by rw [c3]; rfl), lz_k (Lc_k37 H), lz_cv ez]
      exact ⟨z, _, rfl, qz, Bz, fun _ => rfl⟩
    · have nm := Re_num B w (sk_k T n q) k4 false (d + 1)
      rw [if_neg c3, if_neg c4, if_neg c5, if_neg (by rw [n_3, nI_e32 (by omega) (by omega)]; exact c3), lz_p (Lc_k37 H) B.2.1, lz_p (On_k H3) (On_p0 H3), lz_k (Lc_k37 H)]
      rw [spN_sk] at nm
      cases e : spN ak false T n q D with
      | inl x =>
        rw [e] at nm
        obtain ⟨u, y, eu, fu⟩ := nm
        have Hu := fPc_lc fu.1 H
        have bad : ¬ am_I u 37 9 = 0 := by
          rw [fu.2.1]
          exact nz6 (spN_k e) (spN_6 e)
        rw [show f_Re_numberOfWord (d + 2) h 37 (o + 1) = _ from eu, ci_r, lz_i (Lc_k37 Hu) rfl, if_neg bad, pbd_l]
        exact ⟨u, _, rfl, fu⟩
      | inr y =>
        obtain ⟨q', D', a⟩ := y
        rw [e] at nm
        obtain ⟨u, eu, qu, Bu, eq⟩ := nm
        replace eq : q' = nx T n (sk T n q) := eq
        replace Bu : PB u o T n ak D' (sk T n q) deep k K := Bu
        have w' := spN_w e w
        obtain ⟨a1, a2, a3, a4, a5, a6, a7, a8⟩ := spN_c e hq
        have a6' : a < o_N D'.1 := a6
        obtain ⟨b, y, eb, qb, Bb, vb⟩ := Re_bld Bu w' (kk := 0) (a := a) (b := 4294967295) (y1 := nI a) (y2 := -1) (Or.inr (Or.inr ⟨rfl, a6', rfl⟩)) (fun ea _ => by
          subst ea
          have ed := spN_ask e
          rw [ed] at a6' ⊢
          obtain ⟨p, h1, h2, h3⟩ := w.2.2.2.2.2.2.2.2.1 a a6' id
          have okp := w.2.2.2.2.2.2.1 p h1
          unfold o_okP at okp
          exact ⟨p, h1, h2, h3, by omega⟩) (fun _ => rfl) (fun _ => lit_m1) (d + 1)
        obtain ⟨z, ez, qz, Bz⟩ := PB_st Bb d
        rw [show f_Re_numberOfWord (d + 2) h 37 (o + 1) = _ from eu, ci_r, lz_i (Lc_k37 Bu.1) Bu.2.2.2.2.2.1, if_pos rfl, lz_k (Lc_k37 Bu.1), show f_Re_build (d + 2) u 37 0 (nI a) (-1) = _ from eb, ci_r, lz_k (Lc_k37 Bb.1), lz_cv ez, pbd_r]
        subst eq
        exact ⟨z, _, rfl, fPc_t qu (fPc_t qb qz), Bz, vb⟩
theorem Re_opn {h : am_H} {o : Nat} {T : Nat → Nat} {n : Nat} {ak : Bool} {D : DT} {p deep k : Nat} {K : Nat → Nat × Nat} (B : PB h o T n ak D p deep k K) (hk : k < 400) (hd : deep < 6) (d : Nat) : ∃ h', f_Re_openBracket (d + 3) h 37 = some (.inr none, h') ∧ fPc o h h' ∧ PB h' o T n ak D (sk T n (nx T n p)) (deep + 1) (k + 1) (kput K k (5, 4294967295)) := by
  have H := B.1
  have q1 : fPc o h (am_sI h 37 17 (nI (deep + 1))) := fPc_i h (by omega) (by omega) _
  have B1 : PB (am_sI h 37 17 (nI (deep + 1))) o T n ak D p (deep + 1) k K := by
    refine PB_37 B q1 (fun b p1 _ _ => ?_) rfl (fun j p1 p2 => ?_) (StR_of B.2.2.2.2.2.2.2.2.2.2.2.2.1 ?_ ?_ ?_) ?_
    · funext j
      rw [pc_I_I, if_neg (fun e => p1 e.1)]
    · rw [pc_I_I, if_neg (by omega)]
    · rw [pc_I_I, if_neg (by omega)]
    · funext j
      rw [pc_I_I, if_neg (by omega)]
    · funext j
      rw [pc_I_I, if_neg (by omega)]
    · rw [pc_I_I, if_pos ⟨rfl, rfl⟩]
  obtain ⟨u, eu, qu, Bu⟩ := Re_push B1 hk 5 4294967295 (x := -1) (fun _ => lit_m1) (d + 2)
  obtain ⟨z, ez, qz, Bz⟩ := PB_st Bu d
  refine ⟨z, ?_, fPc_t q1 (fPc_t qu qz), Bz⟩
  rw [e_Re_openBracket, lz_i (Lc_k37 H) B.2.2.2.2.2.2.2.2.2.2.2.2.2, if_pos (by rw [n_6, n_lt _ _ (by omega) (by omega)]; exact hd), lz_i (Lc_k37 H) B.2.2.2.2.2.2.2.2.2.2.2.2.2, lz_k (Lc_k37 H), nI_1, lz_k (Lc_k37 B1.1), show f_Re_pushFrame (d + 2) (am_sI h 37 17 (nI (deep + 1))) 37 5 (-1) = _ from eu, cv_r, lz_k (Lc_k37 Bu.1), lz_cv ez]
theorem Re_op6 {h : am_H} {o : Nat} {T : Nat → Nat} {n : Nat} {ak : Bool} {D : DT} {p k : Nat} {K : Nat → Nat × Nat} (B : PB h o T n ak D p 6 k K) (w : wfD D no_x) (hk : k ≤ 400) (d : Nat) : ∃ h', f_Re_openBracket (d + 1) h 37 = some (.inr none, h') ∧ FLT h h' o T n (4, p) := by
  have H := B.1
  obtain ⟨u, eu, fu, u5⟩ := PB_fl B w hk 4 p d
  refine ⟨u, ?_, fu⟩
  rw [e_Re_openBracket, lz_i (Lc_k37 H) B.2.2.2.2.2.2.2.2.2.2.2.2.2, if_neg (by decide), lz_i (Lc_k37 H) B.2.2.2.2.2.2.2.1.2.2.2.1, lz_k (Lc_k37 H), n_4, lz_cv eu]
/-- what comes of reading on: a fault, or a value with what stood on the stack -/
def KX (F : Option am_R) (h : am_H) (o : Nat) (T : Nat → Nat) (n : Nat) (ak : Bool) (deep k : Nat) (K : Nat → Nat × Nat) (d mode : Nat) (r : PRs) : Prop := match r with
  | .inl e => ∃ h' x, F = some (.inr (some (.int x)), h') ∧ FLT h h' o T n e
  | .inr y => ∃ h' x g' gc', F = KK d h' x g' gc' ∧ fPc o h h' ∧ PB h' o T n ak y.2.1 (sk T n y.1) deep k K ∧ (o_P y.2.1.1 ≤ 60 → x = nI y.2.2) ∧ g' + 1 ≤ y.1 ∧ gc' + k ≤ 400 ∧ (1 ≤ mode → tk T n (sk T n y.1) ≠ 7)
theorem KX_s {F : Option am_R} {h : am_H} {o : Nat} {T : Nat → Nat} {n : Nat} {ak : Bool} {deep k : Nat} {K : Nat → Nat × Nat} {d mode q v : Nat} {D : DT} {h' : am_H} {x : Int32} {g' gc' : Nat} (h1 : F = KK d h' x g' gc') (h2 : fPc o h h') (h3 : PB h' o T n ak D (sk T n q) deep k K) (h4 : o_P D.1 ≤ 60 → x = nI v) (h5 : g' + 1 ≤ q) (h6 : gc' + k ≤ 400) (h7 : 1 ≤ mode → tk T n (sk T n q) ≠ 7) : KX F h o T n ak deep k K d mode (.inr (q, D, v)) := ⟨h', x, g', gc', h1, h2, h3, h4, h5, h6, h7⟩
theorem KX_e {F : Option am_R} {h : am_H} {o : Nat} {T : Nat → Nat} {n : Nat} {ak : Bool} {deep k : Nat} {K : Nat → Nat × Nat} {d mode : Nat} {e : Nat × Nat} {h' : am_H} {x : Int32} (h1 : F = some (.inr (some (.int x)), h')) (h2 : FLT h h' o T n e) : KX F h o T n ak deep k K d mode (.inl e) := ⟨h', x, h1, h2⟩
theorem KX_i {F : Option am_R} {h : am_H} {o : Nat} {T : Nat → Nat} {n : Nat} {ak : Bool} {deep k : Nat} {K : Nat → Nat × Nat} {d mode q v : Nat} {D : DT} (X : KX F h o T n ak deep k K d mode (.inr (q, D, v))) : ∃ h' x g' gc', F = KK d h' x g' gc' ∧ fPc o h h' ∧ PB h' o T n ak D (sk T n q) deep k K ∧ (o_P D.1 ≤ 60 → x = nI v) ∧ g' + 1 ≤ q ∧ gc' + k ≤ 400 ∧ (1 ≤ mode → tk T n (sk T n q) ≠ 7) := X
theorem KX_j {F : Option am_R} {h : am_H} {o : Nat} {T : Nat → Nat} {n : Nat} {ak : Bool} {deep k : Nat} {K : Nat → Nat × Nat} {d mode : Nat} {e : Nat × Nat} (X : KX F h o T n ak deep k K d mode (.inl e)) : ∃ h' x, F = some (.inr (some (.int x)), h') ∧ FLT h h' o T n e := X
theorem KX_t {F : Option am_R} {h g : am_H} {o : Nat} {T : Nat → Nat} {n : Nat} {ak : Bool} {deep k : Nat} {K : Nat → Nat × Nat} {d mode mode' : Nat} {r : PRs} (q : fPc o h g) (hm : 1 ≤ mode → 1 ≤ mode') (X : KX F g o T n ak deep k K d mode' r) : KX F h o T n ak deep k K d mode r := by
  cases r with
  | inl e =>
    obtain ⟨h', x, e1, e2⟩ := KX_j X
    exact KX_e e1 (FLT_t q e2)
  | inr y =>
    obtain ⟨q', D, v⟩ := y
    obtain ⟨h', x, g', gc', e1, e2, e3, e4, e5, e6, e7⟩ := KX_i X
    exact KX_s e1 (fPc_t q e2) e3 e4 e5 e6 (fun c => e7 (hm c))
noncomputable def rdC (mode d : Nat) (h : am_H) (x : Int32) (g gc : Nat) : Option am_R := if mode < 2 then f_Re_readConcept_12 (d + 6) h 37 (nI g) else KK d h x g gc
theorem Re_X {ak : Bool} {T : Nat → Nat} {n o d : Nat} : ∀ fu mode deep q D v h k K g gc x, mode ≤ 2 → PB h o T n ak D (sk T n q) deep k K → wfD D no_x → v < o_P D.1 → (mode = 2 → o_P D.1 ≤ 60 → x = nI v) → q ≤ n → k ≤ sk T n q → deep ≤ 6 → (mode < 2 → g ≤ sk T n q) → (mode = 2 → g + 1 ≤ sk T n q ∧ gc + k ≤ 400) → (1 ≤ mode → k = 0 ∨ (K (k - 1)).1 = 5) → (∀ e, spX ak T n fu mode deep q D v = .inl e → e.1 ≠ 0) → KX (rdC mode d h x g gc) h o T n ak deep k K d mode (spX ak T n fu mode deep q D v)
  | 0, mode, deep, q, D, v, h, k, K, g, gc, x, _, _, _, _, _, _, _, _, _, _, _, hz => absurd rfl (hz (0, 0) rfl)
  | fu + 1, mode, deep, q, D, v, h, k, K, g, gc, x, hm, B, w, hv, hx, hq, hk, hdp, hg, hg2, h5, hz => by
    have H := B.1
    have ho := B.2.2.1
    have n4 := B.2.2.2.1.1
    have R := B.2.2.2.2.2.2.2.1
    have g0 := sk_ge T n q
    have sl := sk_le (T := T) hq
    have t13 := tk_13 T n (sk T n q)
    have w2 := w.2.2.1
    rcases (show mode = 0 ∨ mode = 1 ∨ mode = 2 by omega) with rfl | rfl | rfl
    · have hF : rdC 0 d h x g gc = f_Re_readConcept_12 (d + 6) h 37 (nI g) := rfl
      have hg' := hg (by omega)
      rw [hF, e_Re_readConcept_12, if_neg (by rw [show (400 : Int32) = nI 400 from rfl, n_lt _ _ (by omega) (by omega)]; omega), lz_i (Lc_k37 H) B.2.2.2.2.2.1, if_pos rfl, lz_i (Lc_k37 H) R.2.2.1]
      by_cases c4 : tk T n (sk T n q) = 4
      · have es : spX ak T n (fu + 1) 0 deep q D v = pbd (spN ak true T n (sk T n q + 4) D) fun q2 D2 r => pbd (spX ak T n fu 0 deep q2 D2 0) fun q3 D3 v => .inr (q3, (spP D3 4 r v).1, (spP D3 4 r v).2) := by rw [spX_0, if_neg (by omega), if_neg (by omega), if_pos c4]
        rw [es] at hz ⊢
        have hw := tk_14 (T := T) (n := n) (p := sk T n q) (by omega) (by omega)
        have l4 := ((tk_w hw.1 hw.2).2.2.2.2.mp c4).1
        have ln := lw_n (T := T) (n := n) (p := sk T n q) (by omega)
        have nxe : nx T n (sk T n q) = sk T n q + 4 := by rw [nx_w (by omega) (by omega), l4]
        obtain ⟨z, ez, qz, Bz⟩ := PB_st B (d + 3)
        rw [nxe] at Bz
        have ro := Re_role Bz w (sk_k T n _) (by omega) (d + 2)
        rw [spN_sk] at ro
        rw [if_pos (by rw [c4]; rfl), lz_k (Lc_k37 H), lz_cv ez, lz_k (Lc_k37 Bz.1)]
        cases e1 : spN ak true T n (sk T n q + 4) D with
        | inl e =>
          rw [e1] at ro
          obtain ⟨u, y, eu, fl⟩ := ro
          have Hu := fPc_lc fl.1 Bz.1
          obtain ⟨t, et, ft⟩ := FL_push Hu (FLT_t qz fl) ho 4 y (d + 5)
          have Ht := fPc_lc ft.1 H
          have bad : ¬ am_I t 37 9 = 0 := by
            rw [ft.2.1]
            exact nz6 (spN_k e1) (spN_6 e1)
          rw [lz_ci eu, lz_k (Lc_k37 Hu), lz_cv et, LP_N Ht bad _ (d + 5), pbd_l]
          exact KX_e rfl ft
        | inr y =>
          obtain ⟨q2, D2, r⟩ := y
          rw [e1] at ro hz
          rw [pbd_r] at hz ⊢
          obtain ⟨u, y, eu, qu, Bu, vu⟩ := ro
          replace Bu : PB u o T n ak D2 (sk T n q2) deep k K := Bu
          replace vu : o_P D2.1 ≤ 60 → y = nI r := vu
          obtain ⟨a1, a2, a3, a4, a5, a6, a7, a8⟩ := spN_c e1 (by omega)
          have a6' : r < o_R D2.1 := a6
          have wN := wfD_x (spN_w e1 w) (y := no_x) (fun _ _ q => absurd q.1 (by decide))
          have wN2 := wN.2.2.1
          have sg2 := sk_ge T n q2
          obtain ⟨t, et, qt, Bt⟩ := Re_push Bu (by omega) 4 r vu (d + 5)
          have kk : kput K k (4, r) k = (4, r) := if_pos rfl
          have ih := Re_X (d := d) fu 0 deep q2 D2 0 t (k + 1) (kput K k (4, r)) (g + 1) 0 0 (by omega) Bt wN (by omega) (fun c => absurd c (by omega)) a3 (by omega) hdp (fun _ => by omega) (fun c => absurd c (by omega)) (fun c => absurd c (by omega)) (fun e he => hz e (by rw [he]; rfl))
          have hF2 : rdC 0 d t 0 (g + 1) 0 = f_Re_readConcept_12 (d + 6) t 37 (nI (g + 1)) := rfl
          rw [hF2] at ih
          rw [lz_ci eu, lz_k (Lc_k37 Bu.1), show f_Re_pushFrame (d + 5) u 37 4 y = _ from et, cv_r, nI_1]
          cases e2 : spX ak T n fu 0 deep q2 D2 0 with
          | inl e =>
            rw [e2] at ih
            obtain ⟨m, y, em, fm⟩ := KX_j ih
            rw [em, pbd_l]
            exact KX_e rfl (FLT_t (fPc_t qz (fPc_t qu qt)) fm)
          | inr y =>
            obtain ⟨q3, D3, v3⟩ := y
            rw [e2] at ih
            obtain ⟨m, y, g', gc', em, qm, Bm, vm, hg3, hgc, -⟩ := KX_i ih
            obtain ⟨b1, b2, b3, b4, b5, b6, b7, b8, b9, b10⟩ := spX_c fu 0 deep q2 D2 0 q3 D3 v3 (by omega) a3 wN (by omega) e2
            obtain ⟨m2, y2, em2, qm2, Bm2, vm2⟩ := KK_b Bm b7 (by omega) (gc := gc') (by omega) vm (kk := 4) (Or.inl ⟨by rw [kk], rfl, by rw [kk]; show r < _; omega, b6⟩) g' d
            rw [kk] at Bm2 vm2
            rw [em, em2, pbd_r]
            exact KX_s rfl (fPc_t qz (fPc_t qu (fPc_t qt (fPc_t qm qm2)))) (PB_kp Bm2) vm2 hg3 (by omega) (fun c => absurd c (by omega))
      · rw [if_neg (by rw [n_4, nI_e32 (by omega) (by omega)]; exact c4), lz_i (Lc_k37 H) R.2.2.1]
        by_cases c5 : tk T n (sk T n q) = 5
        · have es : spX ak T n (fu + 1) 0 deep q D v = (if deep = 6 then .inl (4, sk T n q) else pbd (spX ak T n fu 1 (deep + 1) (sk T n q + 1) D 0) fun q2 D2 v => if tk T n (sk T n q2) = 6 then .inr (sk T n q2 + 1, D2, v) else .inl (1, sk T n q2)) := by rw [spX_0, if_neg (by omega), if_neg (by omega), if_neg c4, if_pos c5]
          rw [es] at hz ⊢
          have hn := (tk_5 (T := T) (n := n) (p := sk T n q) (by omega)).1
          rw [if_pos (by rw [c5]; rfl), lz_k (Lc_k37 H)]
          by_cases c6 : deep = 6
          · subst c6
            obtain ⟨u, eu, fl⟩ := Re_op6 B w (by omega) (d + 4)
            have Hu := fPc_lc fl.1 H
            have bad : ¬ am_I u 37 9 = 0 := by
              rw [fl.2.1]
              exact nz6 (show 4 ≠ 0 by omega) (show 4 ≤ 6 by omega)
            rw [if_pos rfl, lz_cv eu, LP_N Hu bad _ (d + 5)]
            exact KX_e rfl fl
          · rw [if_neg c6] at hz ⊢
            obtain ⟨z, ez, qz, Bz⟩ := Re_opn B (by omega) (by omega) (d + 2)
            rw [nx_s (by omega) (by omega)] at Bz
            have kk : (kput K k (5, 4294967295) (k + 1 - 1)).1 = 5 := by
              rw [Nat.add_sub_cancel]
              unfold kput
              rw [if_pos rfl]
            have sg1 := sk_ge T n (sk T n q + 1)
            have ih := Re_X (d := d) fu 1 (deep + 1) (sk T n q + 1) D 0 z (k + 1) (kput K k (5, 4294967295)) (g + 1) 0 0 (by omega) Bz w (by omega) (fun c => absurd c (by omega)) (by omega) (by omega) (by omega) (fun _ => by omega) (fun c => absurd c (by omega)) (fun _ => Or.inr kk) (fun e he => hz e (by rw [he]; rfl))
            have hF2 : rdC 1 d z 0 (g + 1) 0 = f_Re_readConcept_12 (d + 6) z 37 (nI (g + 1)) := rfl
            rw [hF2] at ih
            rw [lz_cv ez, nI_1]
            cases e2 : spX ak T n fu 1 (deep + 1) (sk T n q + 1) D 0 with
            | inl e =>
              rw [e2] at ih
              obtain ⟨m, y, em, fm⟩ := KX_j ih
              rw [em, pbd_l]
              exact KX_e rfl (FLT_t qz fm)
            | inr y =>
              obtain ⟨q3, D3, v3⟩ := y
              rw [e2] at ih
              obtain ⟨m, y, g', gc', em, qm, Bm, vm, hg3, hgc, h7⟩ := KX_i ih
              obtain ⟨b1, b2, b3, b4, b5, b6, b7, b8, b9, b10⟩ := spX_c fu 1 (deep + 1) (sk T n q + 1) D 0 q3 D3 v3 (by omega) (by omega) w (by omega) e2
              rw [Nat.add_sub_cancel] at kk
              have sg3 := sk_ge T n q3
              rw [em, pbd_r]
              by_cases d6 : tk T n (sk T n q3) = 6
              · obtain ⟨m2, em2, qm2, Bm2⟩ := KK_o Bm (by omega) (gc := gc') (by omega) y kk d6 g' d
                rw [nx_s (by omega) (by omega)] at Bm2
                rw [if_pos d6, em2]
                exact KX_s rfl (fPc_t qz (fPc_t qm qm2)) (PB_kp Bm2) vm (by omega) (by omega) (fun c => absurd c (by omega))
              · obtain ⟨m2, em2, fm2⟩ := KK_of Bm b7 (by omega) (gc := gc') (by omega) y kk d6 (h7 (by omega)) (tk_13 T n _) g' d
                rw [if_neg d6, em2]
                exact KX_e rfl (FLT_t (fPc_t qz qm) fm2)
        · have pl := Re_pln B w (by omega) hq c4 c5 fu v (d + 2)
          rw [if_neg (by rw [show (5 : Int32) = nI 5 from rfl, nI_e32 (by omega) (by omega)]; exact c5), lz_k (Lc_k37 H)]
          cases e1 : spX ak T n (fu + 1) 0 deep q D v with
          | inl e =>
            rw [e1] at pl
            obtain ⟨u, y, eu, fl⟩ := pl
            have Hu := fPc_lc fl.1 H
            obtain ⟨m, y2, em, fm⟩ := KK_N Hu fl (hz e e1) (spX_6 _ _ _ _ _ _ _ (by omega) e1) ho y g 0 d
            rw [lz_ci eu, lz_k (Lc_k37 Hu), e_Re_closeFrames]
            exact KX_e em fm
          | inr y =>
            obtain ⟨q2, D2, v2⟩ := y
            rw [e1] at pl
            obtain ⟨u, y, eu, qu, Bu, vu⟩ := pl
            have lt := (spX_c (fu + 1) 0 deep (sk T n q) D v q2 D2 v2 (by omega) sl w hv (by rw [spX_sk]; exact e1)).2.1 (by omega)
            rw [lz_ci eu, lz_k (Lc_k37 Bu.1), e_Re_closeFrames]
            exact KX_s (g' := g) (gc' := 0) rfl qu Bu vu (by omega) (by omega) (fun c => absurd c (by omega))
    · have hg' := hg (by omega)
      rw [spX_1] at hz ⊢
      have ih := Re_X (d := d) fu 0 deep q D 0 h k K g 0 0 (by omega) B w (by omega) (fun c => absurd c (by omega)) hq hk hdp (fun _ => hg') (fun c => absurd c (by omega)) (fun c => absurd c (by omega)) (fun e he => hz e (by rw [he]; rfl))
      have hF : rdC 1 d h x g gc = rdC 0 d h 0 g 0 := rfl
      rw [hF]
      cases e1 : spX ak T n fu 0 deep q D 0 with
      | inl e =>
        rw [e1] at ih
        obtain ⟨m, y, em, fm⟩ := KX_j ih
        exact KX_e em fm
      | inr y =>
        obtain ⟨q2, D2, v2⟩ := y
        rw [e1] at ih hz
        rw [pbd_r] at hz ⊢
        obtain ⟨m, y, g', gc', em, qm, Bm, vm, hg3, hgc, -⟩ := KX_i ih
        obtain ⟨b1, b2, b3, b4, b5, b6, b7, b8, b9, b10⟩ := spX_c fu 0 deep (sk T n q) D 0 q2 D2 v2 (by omega) sl w (by omega) (by rw [spX_sk]; exact e1)
        have sg2 := sk_ge T n q2
        have ih2 := Re_X (d := d) fu 2 deep q2 D2 v2 m k K g' gc' y (by omega) Bm b7 b6 (fun _ => vm) b3 (by omega) hdp (fun c => absurd c (by omega)) (fun _ => ⟨by omega, hgc⟩) (fun _ => h5 (by omega)) hz
        have hF2 : rdC 2 d m y g' gc' = KK d m y g' gc' := rfl
        rw [hF2] at ih2
        rw [em]
        exact KX_t qm (fun _ => by omega) ih2
    · obtain ⟨hg3, hgc⟩ := hg2 rfl
      have hF : rdC 2 d h x g gc = KK d h x g gc := rfl
      rw [hF]
      rw [spX_2] at hz ⊢
      by_cases c7 : tk T n (sk T n q) = 7
      · have hn := (tk_5 (T := T) (n := n) (p := sk T n q) (by omega)).1
        rw [if_pos c7] at hz ⊢
        obtain ⟨z, ez, qz, Bz⟩ := KK_7 B (by omega) (gc := gc) (by omega) (hx rfl) (h5 (by omega)) c7 g d
        rw [nx_s (by omega) (by omega)] at Bz
        have sg1 := sk_ge T n (sk T n q + 1)
        have kk : kput K k (7, v) k = (7, v) := if_pos rfl
        have ih := Re_X (d := d) fu 0 deep (sk T n q + 1) D 0 z (k + 1) (kput K k (7, v)) (g + 1) 0 0 (by omega) Bz w (by omega) (fun c => absurd c (by omega)) (by omega) (by omega) hdp (fun _ => by omega) (fun c => absurd c (by omega)) (fun c => absurd c (by omega)) (fun e he => hz e (by rw [he]; rfl))
        have hF2 : rdC 0 d z 0 (g + 1) 0 = f_Re_readConcept_12 (d + 6) z 37 (nI (g + 1)) := rfl
        rw [hF2] at ih
        rw [ez]
        cases e2 : spX ak T n fu 0 deep (sk T n q + 1) D 0 with
        | inl e =>
          rw [e2] at ih
          obtain ⟨m, y, em, fm⟩ := KX_j ih
          rw [em, pbd_l]
          exact KX_e rfl (FLT_t qz fm)
        | inr y =>
          obtain ⟨q3, D3, v3⟩ := y
          rw [e2] at ih hz
          rw [pbd_r] at hz ⊢
          obtain ⟨m, y, g', gc', em, qm, Bm, vm, hg4, hgc4, -⟩ := KX_i ih
          obtain ⟨b1, b2, b3, b4, b5, b6, b7, b8, b9, b10⟩ := spX_c fu 0 deep (sk T n q + 1) D 0 q3 D3 v3 (by omega) (by omega) w (by omega) e2
          have sg3 := sk_ge T n q3
          obtain ⟨m2, y2, em2, qm2, Bm2, vm2⟩ := KK_b Bm b7 (by omega) (gc := gc') (by omega) vm (kk := 3) (Or.inr ⟨by rw [kk], rfl, by rw [kk]; show v < _; omega, b6⟩) g' d
          rw [kk] at Bm2 vm2
          obtain ⟨s1, s2, s3, s4, s5, s6⟩ := spP_c D3 3 v v3
          have wP := spP_w b7 (k := 3) (a := v) (b := v3) (Or.inl ⟨rfl, by omega, b6⟩)
          have ih2 := Re_X (d := d) fu 2 deep q3 (spP D3 3 v v3).1 (spP D3 3 v v3).2 m2 k K g' (gc' + 1) y2 (by omega) (PB_kp Bm2) wP s3 (fun _ => vm2) b3 (by omega) hdp (fun c => absurd c (by omega)) (fun _ => ⟨by omega, by omega⟩) (fun _ => h5 (by omega)) hz
          have hF3 : rdC 2 d m2 y2 g' (gc' + 1) = KK d m2 y2 g' (gc' + 1) := rfl
          rw [hF3] at ih2
          rw [em, em2]
          exact KX_t (fPc_t qz (fPc_t qm qm2)) (fun _ => by omega) ih2
      · rw [if_neg c7]
        exact KX_s rfl (fPc_r o h) (by rw [sk_k]; exact B) (hx rfl) hg3 hgc (fun _ => by rw [sk_k]; exact c7)
