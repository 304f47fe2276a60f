/-! ===== the reference: text ===== -/
def xe (p : Int32) (x : XT) : XT := (x.1, 0, p, x.2.2.2.1, x.2.2.2.2.1, x.2.2.2.2.2)
def xn (x : XT) : XT := (x.1, 0, -1, x.2.2.2.1, 0, x.2.2.2.2.2)
/-- what must stand around reading -/
theorem RX_e {h h' : am_H} {f : Nat} {x : XT} {p : Int32} (X : RX h f x) (q : fTx f h h') (e2 : am_I h' f 2 = 0) (e5 : am_I h' f 5 = p) (e13 : am_I h' f 13 = am_I h f 13) : RX h' f (xe p x) := by
  obtain ⟨x1, x2, x3, x4, x5, x6, x7, x8⟩ := X
  refine ⟨Nat.zero_le _, e2, fun k hk => absurd hk (Nat.not_lt_zero k), e5, x5, e13.trans x6, fun k hk => ?_, fun k hk => ?_⟩
  · rw [q.2.2.2.2.2.1 (f + 5) (by omega) (by omega) (by omega)]; exact x7 k hk
  · rw [q.2.2.2.2.2.1 (f + 1) (by omega) (by omega) (by omega)]; exact x8 k hk
theorem RX_n {h h' : am_H} {f : Nat} {x : XT} (X : RX h f x) (q : fTx f h h') (e2 : am_I h' f 2 = 0) (e5 : am_I h' f 5 = -1) (e13 : am_I h' f 13 = 0) : RX h' f (xn x) := by
  obtain ⟨x1, x2, x3, x4, x5, x6, x7, x8⟩ := X
  refine ⟨Nat.zero_le _, e2, fun k hk => absurd hk (Nat.not_lt_zero k), e5, Nat.zero_le _, e13, fun k hk => absurd hk (Nat.not_lt_zero k), fun k hk => ?_⟩
  rw [q.2.2.2.2.2.1 (f + 1) (by omega) (by omega) (by omega)]; exact x8 k hk
theorem RwW_of {h h' : am_H} {r : Nat} {O : o_T} {WN WR : Nat → Nat → Nat} (q : am_I h' r = am_I h r) (W : RwW h r O WN WR) : RwW h' r O WN WR := by
  unfold RwW at *
  rw [q]
  exact W
theorem Rf_t180e {h : am_H} {f k p : Nat} (H : RfAt h f) (hk : k ≠ 0) (h6 : k ≤ 6) (e6 : am_I h f 6 = nI k) (e7 : am_I h f 7 = nI p) (d : Nat) : f_Rf_text_180 (d + 1) h f = some (.inr (some (.int (nI k - 10))), am_sI h f 5 (nI p)) := by
  have H1 : RfAt (am_sI h f 5 (nI p)) f := RfAt_of H rfl (fun _ _ _ => rfl)
  have f6 : am_I (am_sI h f 5 (nI p)) f 6 = nI k := by rw [pc_I_I, if_neg (by omega)]; exact e6
  have bad : ¬ am_I (am_sI h f 5 (nI p)) f 6 = 0 := by
    rw [f6]
    exact nz6 hk h6
  rw [e_Rf_text_180, lz_i (Rf_k H) e7, lz_k (Rf_k H), lz_k (Rf_k H1), lz_ci (Rf_fineN H1 bad d), if_pos rfl, lz_i (Rf_k H1) f6]
theorem Rf_t180s {h : am_H} {f n a : Nat} {T : Nat → Nat} {D : DT} (R : RSa h f T n false D a 0) (w : wfD D no_x) (h60 : o_P D.1 ≤ 60) (d : Nat) : ∃ h', f_Rf_text_180 (d + 1) h f = some (.inr (some (.int (nI (o_A D.1)))), h') ∧ fTx f h h' ∧ RB h' f D.1 (fun k => k < o_A D.1) ∧ RwW h' (f + 3) D.1 D.2.1 D.2.2 ∧ am_I h' f 2 = am_I h f 2 ∧ am_I h' f 5 = -1 ∧ am_I h' f 13 = 0 ∧ am_I h' f 0 = am_I h f 0 := by
  obtain ⟨H, Tp, e4, an, e6, e7, e17, e16, Rd⟩ := R
  have hA := w.2.2.2.1
  obtain ⟨g, eg⟩ : ∃ g, g = am_sI h f 5 (-1) := ⟨_, rfl⟩
  have qg : fTx f h g := by rw [eg]; exact fTx_i h (by omega) _
  have Hg := fTx_at qg H
  have gf : ∀ j, j ≠ 5 → am_I g f j = am_I h f j := fun j p => by rw [eg, pc_I_I, if_neg (by omega)]
  have g5 : am_I g f 5 = -1 := by rw [eg, pc_I_I, if_pos ⟨rfl, rfl⟩]
  have s3 : (am_S g)[f + 3]? = some (9, 1604) := Hg.2.2.1 (3, 9, 1604) (by decide)
  have s4 : (am_S g)[f + 4]? = some (9, 1604) := Hg.2.2.1 (4, 9, 1604) (by decide)
  obtain ⟨u, eu, qu, cu⟩ := Rf_copies s4 s3 (by omega) d
  have Ru : RwD u (f + 3) D := RwD_cp (RwD_of Rd qg.1 (by
    rw [eg]
    funext j
    rw [pc_I_I, if_neg (by omega)])) w.1 w.2.1 w.2.2.2.1 (by rw [qu.1]; exact s3) cu
  have Hu : RfAt u f := RfAt_of Hg qu.1 (fun _ _ _ => by rw [qu.2.2.2.1])
  have ar3 : ∀ (v : am_H), am_S v = am_S u → ∀ K, am_ar v 9 (f + 3) 3 K = K 3 := fun v hv K => ar_n (k := 3) (by rw [hv]; exact Ru.1) (by omega) (by omega) K
  have v3 : am_I u (f + 3) 3 = nI (o_A D.1) := Ru.2.2.2.2.2.1
  have eL : am_lshl 1 (nI (o_A D.1)) - 1 = wL (fun k => k < o_A D.1) := wL_of (fun k _ => by rw [xl_all (by omega), decide_eq_true_iff])
  obtain ⟨z, ez⟩ : ∃ z, z = am_sI (am_sI (am_sI (am_sL u f 11 (wL (fun k => k < o_A D.1))) f 13 0) f 14 0) f 15 0 := ⟨_, rfl⟩
  have rI : ∀ b j, am_I (am_sL u f 11 (wL (fun k => k < o_A D.1))) b j = am_I u b j := fun _ _ => rfl
  have zb : ∀ b, b ≠ f → am_I z b = am_I u b := fun b p => by
    funext j
    rw [ez, pc_I_I, if_neg (fun e => p e.1), pc_I_I, if_neg (fun e => p e.1), pc_I_I, if_neg (fun e => p e.1), rI]
  have zf : ∀ j, j ≠ 13 → j ≠ 14 → j ≠ 15 → am_I z f j = am_I u f j := fun j a b c => by
    rw [ez, pc_I_I, if_neg (by omega), pc_I_I, if_neg (by omega), pc_I_I, if_neg (by omega), rI]
  have uf : am_I u f = am_I g f := qu.2.2.2.2.2 f (by omega)
  have Hz : RfAt z f := by rw [ez]; exact RfAt_of Hu rfl (fun _ _ _ => rfl)
  have qz : fTx f u z := by
    rw [ez]
    refine ⟨rfl, rfl, rfl, rfl, fun b p => ?_, fun b p _ _ => ?_, fun j _ _ _ _ _ _ _ a8 a9 a10 _ _ _ _ => ?_⟩
    · funext j
      show am_L (am_sL u f 11 (wL (fun k => k < o_A D.1))) b j = am_L u b j
      rw [pc_L_L, if_neg (fun e => p e.1)]
    · rw [← ez]
      exact zb b p
    · rw [← ez]
      exact zf j a8 a9 a10
  have qq := fTx_t qg (fTx_t (fRo_Tx (Or.inl rfl) qu) qz)
  have Rz : RwD z (f + 3) D := RwD_of Ru (by rw [ez]; rfl) (zb (f + 3) (by omega))
  obtain ⟨RzR, RzW⟩ := RwD_R Rz w h60
  refine ⟨z, ?_, qq, ⟨Hz, RzR, ?_, fun k hk => hk, Or.inl ?_, Or.inl ?_⟩, RzW, ?_, ?_, ?_, ?_⟩
  · have gp : ∀ (v : am_H), am_S v = am_S u → am_P v = am_P u → ∀ K, am_gp v f 8 9 K = K (f + 3) := fun v hS hP K => by
      have Hv : RfAt v f := RfAt_of Hu hS (fun _ _ _ => by rw [hP])
      exact lz_p (Rf_k Hv) (Rf_p9 Hv) K
    have ck : ∀ (v : am_H), am_S v = am_S u → am_P v = am_P u → ∀ K, am_ck v f 8 K = K := fun v hS hP K => by
      have Hv : RfAt v f := RfAt_of Hu hS (fun _ _ _ => by rw [hP])
      exact lz_k (Rf_k Hv) K
    rw [e_Rf_text_180, lz_i (Rf_k H) e7, lz_k (Rf_k H), ← eg, lz_k (Rf_k Hg), lz_ci (Rf_fineY Hg (by rw [gf 6 (by omega)]; exact e6) d), if_neg (by decide), lz_p (Rf_k Hg) (Rf_p10 Hg), lz_p (Rf_k Hg) (Rf_p9 Hg), lz_cv eu, lz_p (Rf_k Hu) (Rf_p9 Hu), ar3 u rfl, v3, eL, lz_k (Rf_k Hu)]
    rw [ck (am_sL u f 11 (wL (fun k => k < o_A D.1))) rfl rfl, o1_0, ck (am_sI (am_sL u f 11 (wL (fun k => k < o_A D.1))) f 13 0) rfl rfl, o1_0, ck (am_sI (am_sI (am_sL u f 11 (wL (fun k => k < o_A D.1))) f 13 0) f 14 0) rfl rfl, ← ez, gp z (by rw [ez]; rfl) (by rw [ez]; rfl), ar3 z (by rw [ez]; rfl), zb (f + 3) (by omega), v3]
  · rw [ez]
    show am_L (am_sL u f 11 (wL (fun k => k < o_A D.1))) f 11 = _
    rw [pc_L_L, if_pos ⟨rfl, rfl⟩]
  · rw [ez, pc_I_I, if_neg (by omega), pc_I_I, if_pos ⟨rfl, rfl⟩]
  · rw [ez, pc_I_I, if_pos ⟨rfl, rfl⟩]
  · rw [zf 2 (by omega) (by omega) (by omega), uf, gf 2 (by omega)]
  · rw [zf 5 (by omega) (by omega) (by omega), uf, g5]
  · rw [ez, pc_I_I, if_neg (by omega), pc_I_I, if_neg (by omega), pc_I_I, if_pos ⟨rfl, rfl⟩]
  · rw [zf 0 (by omega) (by omega) (by omega), uf, gf 0 (by omega)]
theorem Rf_text {h : am_H} {f : Nat} {O : o_T} {B : Nat → Prop} {x : XT} {WN WR : Nat → Nat → Nat} (C : RB h f O B) (X : RX h f x) (W : RwW h (f + 3) O WN WR) (i : Int32) (d : Nat) : (¬ vi (x.2.1 + 1) i ∧ f_Rf_text (d + 814) h f i = some (.inr (some (.int 0)), rr f 1 1 (am_sI h f 0 0))) ∨ (∃ n, n ≤ x.2.1 ∧ i = nI n ∧ ((∃ e, spT x.1 n 1000 0 d_0 = .inl e ∧ ∃ h', f_Rf_text (d + 814) h f i = some (.inr (some (.int (nI e.1 - 10))), h') ∧ fTx f h h' ∧ RB h' f O B ∧ RX h' f (xe (nI e.2) x) ∧ RwW h' (f + 3) O WN WR ∧ am_I h' f 0 = 0) ∨ (∃ D, spT x.1 n 1000 0 d_0 = .inr D ∧ ∃ h', f_Rf_text (d + 814) h f i = some (.inr (some (.int (nI (o_A D.1)))), h') ∧ fTx f h h' ∧ RB h' f D.1 (fun k => k < o_A D.1) ∧ RX h' f (xn x) ∧ RwW h' (f + 3) D.1 D.2.1 D.2.2 ∧ am_I h' f 0 = 0))) := by
  have H := C.1
  obtain ⟨g, e0, Cg, Wg, z0⟩ := RB_b C
  have Hg := Cg.1
  have Xg := RX_W Wg X
  obtain ⟨x1, x2, x3, x4, x5, x6, x7, x8⟩ := Xg
  have b1 := Rf_bad1 Hg z0 (c := 1) (by decide) (E := 1) (by omega) (d + 813)
  rw [← n_1] at b1
  have ii := vi_in (n := x.2.1 + 1) (by omega) g i (d + 813)
  rw [nI_pred] at ii
  have q0 : fTx f h g := by
    rw [← e0]
    exact fTx_i h (by omega) _
  rw [e_Rf_text, lz_k (Rf_k H), e0, lz_i (Rf_k Hg) x2, lz_ci ii]
  by_cases v : vi (x.2.1 + 1) i
  · refine Or.inr ?_
    rw [pd_t v, bo_t, if_neg (by decide), lz_k (Rf_k Hg), lz_ci (Rf_bad0 Hg z0 1 1 (d + 813)), if_pos rfl, lz_k (Rf_k Hg)]
    obtain ⟨n, hn, rfl⟩ := v
    refine ⟨n, by omega, rfl, ?_⟩
    obtain ⟨u, eu, qu, ub, uf, uL, u2, Tu, u4, u6, u7, u16⟩ := Rf_opens (n := n) (T := x.1) Hg (by omega) (fun k hk => x3 k (by omega)) (d + 813)
    have Hu := fTx_at qu Hg
    obtain ⟨v, ev⟩ : ∃ v, v = am_sI u f 17 0 := ⟨_, rfl⟩
    have qv : fTx f u v := by rw [ev]; exact fTx_i u (by omega) _
    have Hv := fTx_at qv Hu
    have vf : ∀ j, j ≠ 17 → am_I v f j = am_I u f j := fun j p => by rw [ev, pc_I_I, if_neg (by omega)]
    have vb : ∀ b, b ≠ f → am_I v b = am_I u b := fun b p => by
      rw [ev]
      funext j
      rw [pc_I_I, if_neg (fun e => p e.1)]
    have s4 : (am_S v)[f + 4]? = some (9, 1604) := Hv.2.2.1 (4, 9, 1604) (by decide)
    obtain ⟨t, et, qt, Rt⟩ := Rf_begins s4 (d + 812)
    have Ht : RfAt t f := RfAt_of Hv qt.1 (fun _ _ _ => by rw [qt.2.2.2.1])
    have tf : am_I t f = am_I v f := qt.2.2.2.2.2 f (by omega)
    have Rs : RSa t f x.1 n false d_0 0 0 := by
      refine ⟨Ht, ⟨Tu.1, fun k hk => ?_, ?_⟩, ?_, Nat.zero_le _, ?_, ?_, ?_, ?_, Rt⟩
      · rw [qt.2.2.2.2.2 (f + 2) (by omega), vb (f + 2) (by omega)]
        exact Tu.2.1 k hk
      · rw [tf, vf 3 (by omega)]; exact Tu.2.2
      · rw [tf, vf 4 (by omega)]; exact u4
      · rw [tf, vf 6 (by omega)]; exact u6
      · rw [tf, vf 7 (by omega)]; exact u7
      · rw [tf, ev, pc_I_I, if_pos ⟨rfl, rfl⟩]
        rfl
      · rw [tf, vf 16 (by omega)]; exact u16
    have q1 := fTx_t q0 (fTx_t qu (fTx_t qv (fRo_Tx (Or.inr rfl) qt)))
    have keep : ∀ j, j ≠ 0 → j ≠ 2 → j ≠ 3 → j ≠ 4 → j ≠ 16 → j ≠ 6 → j ≠ 7 → j ≠ 17 → am_I t f j = am_I g f j := fun j a0 a1 a2 a3 a4 a5 a6 a7 => by
      rw [tf, vf j a7, uf j a1 a2 a3 a4 a5 a6]
    have t0 : am_I t f 0 = 0 := by
      rw [tf, vf 0 (by omega), uf 0 (by omega) (by omega) (by omega) (by omega) (by omega) (by omega)]
      exact z0
    have t2 : am_I t f 2 = 0 := by
      rw [tf, vf 2 (by omega)]
      exact u2
    have tb : ∀ b, b ≠ f → b ≠ f + 4 → am_I t b = am_I g b := fun b p r => by
      rw [qt.2.2.2.2.2 b r, vb b p, ub b p]
    have tL : am_L t = am_L g := by
      rw [qt.2.2.2.2.1, ev]
      exact uL
    rw [lz_cv eu, o1_0, lz_k (Rf_k Hu), ← ev, lz_p (Rf_k Hv) (Rf_p10 Hv), lz_cv et]
    have tx := Rf_t50 d 1000 0 d_0 t Rs d_0w (by decide) (by omega)
    have okr := spT_c (T := x.1) (n := n) (by omega) 1000 0 d_0 (Nat.zero_le _) (by omega) d_0w (by decide)
    cases es : spT x.1 n 1000 0 d_0 with
    | inl e =>
      rw [es] at tx okr
      obtain ⟨y, ey, qy, y6, y7⟩ := tx
      have Hy := fPr_at qy Ht
      have fin := Rf_t180e Hy okr.1 okr.2 y6 y7 (d + 813)
      refine Or.inl ⟨e, rfl, am_sI y f 5 (nI e.2), ?_, fTx_t q1 (fTx_t (fPr_Tx qy) (fTx_i y (by omega) _)), ?_, ?_, ?_, ?_⟩
      · rw [ey]
        exact fin
      · refine RB_gen Cg ?_ ?_ ?_ (fun b p => ?_) (fun j p => ?_)
        · show am_S y = _
          rw [qy.1, qt.1, qv.1, qu.1]
        · show am_P y = _
          rw [qy.2.2.2.1, qt.2.2.2.1, qv.2.2.2.1, qu.2.2.2.1]
        · show am_L y = _
          rw [qy.2.2.2.2.1, tL]
        · show am_I (am_sI y f 5 (nI e.2)) b = _
          funext j
          rw [pc_I_I, if_neg (by omega), qy.2.2.2.2.2.1 b (by omega) (by omega), tb b (by omega) (by omega)]
        · rw [pc_I_I, if_neg (by omega), qy.2.2.2.2.2.2 j (by omega) (by omega) (by omega) (by omega), keep j (by omega) (by omega) (by omega) (by omega) (by omega) (by omega) (by omega) (by omega)]
      · refine RX_e X (fTx_t q1 (fTx_t (fPr_Tx qy) (fTx_i y (by omega) _))) ?_ ?_ ?_
        · rw [pc_I_I, if_neg (by omega), qy.2.2.2.2.2.2 2 (by omega) (by omega) (by omega) (by omega)]
          exact t2
        · rw [pc_I_I, if_pos ⟨rfl, rfl⟩]
        · rw [pc_I_I, if_neg (by omega), qy.2.2.2.2.2.2 13 (by omega) (by omega) (by omega) (by omega), keep 13 (by omega) (by omega) (by omega) (by omega) (by omega) (by omega) (by omega) (by omega), ← e0, pc_I_I, if_neg (by omega)]
      · refine RwW_of ?_ W
        funext j
        rw [pc_I_I, if_neg (by omega), qy.2.2.2.2.2.1 (f + 3) (by omega) (by omega), tb (f + 3) (by omega) (by omega), ← e0, pc_I_I, if_neg (by omega)]
      · rw [pc_I_I, if_neg (by omega), qy.2.2.2.2.2.2 0 (by omega) (by omega) (by omega) (by omega)]
        exact t0
    | inr D =>
      rw [es] at tx okr
      obtain ⟨y, a, ey, qy, Ry⟩ := tx
      obtain ⟨s, e1, qs, Bs, Ws, s2, s5, s13, s0⟩ := Rf_t180s Ry okr.1 okr.2 (d + 813)
      have qq := fTx_t q1 (fTx_t (fPr_Tx qy) qs)
      refine Or.inr ⟨D, rfl, s, ?_, qq, Bs, ?_, Ws, ?_⟩
      · rw [ey]
        exact e1
      · refine RX_n X qq ?_ s5 s13
        rw [s2, qy.2.2.2.2.2.2 2 (by omega) (by omega) (by omega) (by omega)]
        exact t2
      · rw [s0, qy.2.2.2.2.2.2 0 (by omega) (by omega) (by omega) (by omega)]
        exact t0
  · refine Or.inl ⟨v, ?_⟩
    rw [pd_f v, bo_f, if_pos rfl, lz_k (Rf_k Hg), lz_ci b1, if_neg (by decide)]
