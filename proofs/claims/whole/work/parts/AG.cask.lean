/-! ===== questions read ===== -/
/-- longer by parts of and, some alone -/
def xD (D D' : DT) : Prop := o_N D'.1 = o_N D.1 ∧ o_R D'.1 = o_R D.1 ∧ o_A D'.1 = o_A D.1 ∧ (∀ k, o_ak D'.1 k = o_ak D.1 k ∧ o_a1 D'.1 k = o_a1 D.1 k ∧ o_a2 D'.1 k = o_a2 D.1 k ∧ o_a3 D'.1 k = o_a3 D.1 k) ∧ D'.2 = D.2 ∧ o_P D.1 ≤ o_P D'.1 ∧ (∀ p, p < o_P D.1 → o_pk D'.1 p = o_pk D.1 p ∧ o_pa D'.1 p = o_pa D.1 p ∧ o_pb D'.1 p = o_pb D.1 p) ∧ (∀ p, o_P D.1 ≤ p → p < o_P D'.1 → o_pk D'.1 p = 3 ∨ o_pk D'.1 p = 4)
theorem xD_r (D : DT) : xD D D := ⟨rfl, rfl, rfl, fun _ => ⟨rfl, rfl, rfl, rfl⟩, rfl, Nat.le_refl _, fun _ _ => ⟨rfl, rfl, rfl⟩, fun p h1 h2 => absurd h2 (Nat.not_lt.mpr h1)⟩
theorem xD_t {A B C : DT} (h1 : xD A B) (h2 : xD B C) : xD A C := by
  obtain ⟨a1, a2, a3, a4, a5, a6, a7, a8⟩ := h1
  obtain ⟨b1, b2, b3, b4, b5, b6, b7, b8⟩ := h2
  refine ⟨b1.trans a1, b2.trans a2, b3.trans a3, fun k => ⟨(b4 k).1.trans (a4 k).1, (b4 k).2.1.trans (a4 k).2.1, (b4 k).2.2.1.trans (a4 k).2.2.1, (b4 k).2.2.2.trans (a4 k).2.2.2⟩, b5.trans a5, by omega, fun p hp => ?_, fun p h1 h2 => ?_⟩
  · have x := b7 p (by omega)
    have y := a7 p hp
    exact ⟨x.1.trans y.1, x.2.1.trans y.2.1, x.2.2.trans y.2.2⟩
  · by_cases c : p < o_P B.1
    · rw [(b7 p c).1]
      exact a8 p h1 c
    · exact b8 p (by omega) h2
theorem spP_xD (D : DT) {k a b : Nat} (hk : (k = 3 ∨ k = 4) ∨ ∃ j, o_is D.1 k a b j) : xD D (spP D k a b).1 := by
  by_cases c : ∃ j, o_is D.1 k a b j
  · obtain ⟨j, y⟩ := c
    rw [spP_y y]
    exact xD_r D
  · rw [spP_n (fun j q => c ⟨j, q⟩)]
    refine ⟨rfl, rfl, rfl, fun _ => ⟨rfl, rfl, rfl, rfl⟩, rfl, Nat.le_succ _, fun p hp => aP_o (by omega), fun p h1 h2 => ?_⟩
    have h2' : p < o_P D.1 + 1 := h2
    have e : p = o_P D.1 := by omega
    subst e
    rw [show o_pk (d_addP D k a b).1 (o_P D.1) = k from (aP_n D.1 k a b).1]
    exact hk.elim id (fun q => absurd q c)
theorem spX_xD {T : Nat → Nat} {n : Nat} : ∀ f mode deep q D v q' D' v', mode ≤ 2 → q ≤ n → wfD D no_x → v < o_P D.1 → spX true T n f mode deep q D v = .inr (q', D', v') → xD D D'
  | 0, _, _, _, _, _, _, _, _, _, _, _, _, h => by cases h
  | f + 1, mode, deep, q, D, v, q', D', v', hm, hq, w, hv, h => by
    have g := sk_ge T n q
    have l := sk_le (T := T) hq
    have w2 := w.2.2.1
    rcases (show mode = 0 ∨ mode = 1 ∨ mode = 2 by omega) with rfl | rfl | rfl
    · rw [spX_0] at h
      by_cases c2 : tk T n (sk T n q) = 2
      · rw [if_pos c2] at h
        obtain ⟨rfl, rfl, rfl⟩ := inr3 h
        exact xD_r _
      · rw [if_neg c2] at h
        by_cases c3 : tk T n (sk T n q) = 3
        · rw [if_pos c3] at h
          obtain ⟨rfl, rfl, rfl⟩ := inr3 h
          exact xD_r _
        · rw [if_neg c3] at h
          by_cases c4 : tk T n (sk T n q) = 4
          · rw [if_pos c4] at h
            have hw := tk_14 (T := T) (n := n) (p := sk T n q) (by omega) (by omega)
            have ln := lw_n (T := T) (n := n) (p := sk T n q) (by omega)
            have l4 := ((tk_w hw.1 hw.2).2.2.2.2.mp c4).1
            obtain ⟨q2, D2, r, e1, h2⟩ := pbd_i h
            obtain ⟨q3, D3, y, e2, h3⟩ := pbd_i h2
            obtain ⟨a1, a2, a3, a4, a5, a6, a7, a8⟩ := spN_c e1 (by omega)
            rw [spN_ask e1] at e2
            have x := spX_xD f 0 deep q2 D 0 q3 D3 y (by omega) a3 w (by omega) e2
            obtain ⟨rfl, rfl, rfl⟩ := inr3 h3
            exact xD_t x (spP_xD D3 (Or.inl (Or.inr rfl)))
          · rw [if_neg c4] at h
            by_cases c5 : tk T n (sk T n q) = 5
            · rw [if_pos c5] at h
              have y := tk_lt (T := T) (n := n) (p := sk T n q) (by omega)
              by_cases c6 : deep = 6
              · rw [if_pos c6] at h
                cases h
              · rw [if_neg c6] at h
                obtain ⟨q2, D2, x, e1, h⟩ := pbd_i h
                have xx := spX_xD f 1 (deep + 1) (sk T n q + 1) D 0 q2 D2 x (by omega) (by omega) w (by omega) e1
                by_cases c7 : tk T n (sk T n q2) = 6
                · rw [if_pos c7] at h
                  obtain ⟨rfl, rfl, rfl⟩ := inr3 h
                  exact xx
                · rw [if_neg c7] at h
                  cases h
            · rw [if_neg c5] at h
              obtain ⟨q2, D2, a, e1, h2⟩ := pbd_i h
              obtain ⟨a1, a2, a3, a4, a5, a6, a7, a8⟩ := spN_c e1 hq
              have ed := spN_ask e1
              have a6' : a < o_N D2.1 := a6
              rw [ed] at a6' h2
              obtain ⟨rfl, rfl, rfl⟩ := inr3 h2
              refine spP_xD D (Or.inr ?_)
              obtain ⟨p, h1, h2, h3⟩ := w.2.2.2.2.2.2.2.2.1 a a6' id
              have okp := w.2.2.2.2.2.2.1 p h1
              unfold o_okP at okp
              exact ⟨p, h1, h2, h3, by omega⟩
    · rw [spX_1] at h
      obtain ⟨q2, D2, y, e1, h⟩ := pbd_i h
      obtain ⟨b1, b2, b3, b4, b5, b6, b7, b8, b9, b10⟩ := spX_c f 0 deep q D 0 q2 D2 y (by omega) hq w (by omega) e1
      exact xD_t (spX_xD f 0 deep q D 0 q2 D2 y (by omega) hq w (by omega) e1) (spX_xD f 2 deep q2 D2 y q' D' v' (by omega) b3 b7 b6 h)
    · rw [spX_2] at h
      by_cases c7 : tk T n (sk T n q) = 7
      · rw [if_pos c7] at h
        have y7 := tk_lt (T := T) (n := n) (p := sk T n q) (by omega)
        obtain ⟨q2, D2, y, e1, h⟩ := pbd_i h
        obtain ⟨b1, b2, b3, b4, b5, b6, b7, b8, b9, b10⟩ := spX_c f 0 deep (sk T n q + 1) D 0 q2 D2 y (by omega) (by omega) w (by omega) e1
        obtain ⟨p1, p2, p3, p4, p5, p6⟩ := spP_c D2 3 v y
        exact xD_t (spX_xD f 0 deep (sk T n q + 1) D 0 q2 D2 y (by omega) (by omega) w (by omega) e1) (xD_t (spP_xD D2 (Or.inl (Or.inl rfl))) (spX_xD f 2 deep q2 (spP D2 3 v y).1 (spP D2 3 v y).2 q' D' v' (by omega) b3 (spP_w b7 (Or.inl ⟨rfl, by omega, b6⟩)) p3 h))
      · rw [if_neg c7] at h
        obtain ⟨rfl, rfl, rfl⟩ := inr3 h
        exact xD_r _
abbrev QRs : Type := (Nat × Nat) ⊕ (DT × Nat × Nat)
noncomputable def spAe (T : Nat → Nat) (n q : Nat) (D : DT) (c e : Nat) : QRs := if tk T n (sk T n q) = 0 then (if 60 < o_P D.1 then .inl (5, 0) else .inr (D, c, e)) else .inl (1, sk T n q)
/-- a question: one concept, or two with a sign between -/
noncomputable def spA (two : Bool) (T : Nat → Nat) (n : Nat) (D : DT) : QRs := match spX true T n 1000 1 0 0 D 0 with
  | .inl e => .inl e
  | .inr y => if two = true then (if tk T n (sk T n y.1) = 8 then (match spX true T n 1000 1 0 (sk T n y.1 + 1) y.2.1 0 with
      | .inl e => .inl e
      | .inr z => spAe T n z.1 z.2.1 y.2.2 z.2.2) else .inl (1, sk T n y.1)) else spAe T n y.1 y.2.1 y.2.2 0
/-- what is so of an answer -/
def okQ (D : DT) (r : QRs) : Prop := match r with
  | .inl e => e.1 ≠ 0 ∧ e.1 ≤ 6
  | .inr y => wfD y.1 no_x ∧ o_P y.1.1 ≤ 60 ∧ y.2.1 < o_P y.1.1 ∧ y.2.2 < o_P y.1.1 ∧ xD D y.1
theorem spAe_k {T : Nat → Nat} {n q : Nat} {D0 D : DT} {c e : Nat} (w : wfD D no_x) (hc : c < o_P D.1) (he : e < o_P D.1) (x : xD D0 D) : okQ D0 (spAe T n q D c e) := by
  unfold spAe
  by_cases c0 : tk T n (sk T n q) = 0
  · rw [if_pos c0]
    by_cases c6 : 60 < o_P D.1
    · rw [if_pos c6]
      exact (by decide : (5 : Nat) ≠ 0 ∧ (5 : Nat) ≤ 6)
    · rw [if_neg c6]
      exact ⟨w, Nat.not_lt.mp c6, hc, he, x⟩
  · rw [if_neg c0]
    exact (by decide : (1 : Nat) ≠ 0 ∧ (1 : Nat) ≤ 6)
theorem spA_k {two : Bool} {T : Nat → Nat} {n : Nat} {D : DT} (hn : n ≤ 400) (w : wfD D no_x) : okQ D (spA two T n D) := by
  have w2 := w.2.2.1
  unfold spA
  cases e1 : spX true T n 1000 1 0 0 D 0 with
  | inl e => exact ⟨spX_f 1000 1 0 0 D 0 e (by omega) (Nat.zero_le n) w (by omega) (by rw [if_pos rfl]; omega) e1, spX_6 _ _ _ _ _ _ _ (by omega) e1⟩
  | inr y =>
    obtain ⟨q2, D2, c⟩ := y
    obtain ⟨b1, b2, b3, b4, b5, b6, b7, b8, b9, b10⟩ := spX_c 1000 1 0 0 D 0 q2 D2 c (by omega) (Nat.zero_le n) w (by omega) e1
    have x1 := spX_xD 1000 1 0 0 D 0 q2 D2 c (by omega) (Nat.zero_le n) w (by omega) e1
    show okQ D (if two = true then (if tk T n (sk T n q2) = 8 then (match spX true T n 1000 1 0 (sk T n q2 + 1) D2 0 with
      | .inl e => .inl e
      | .inr z => spAe T n z.1 z.2.1 c z.2.2) else .inl (1, sk T n q2)) else spAe T n q2 D2 c 0)
    by_cases t : two = true
    · rw [if_pos t]
      by_cases c8 : tk T n (sk T n q2) = 8
      · rw [if_pos c8]
        have y2 := tk_lt (T := T) (n := n) (p := sk T n q2) (by omega)
        cases e2 : spX true T n 1000 1 0 (sk T n q2 + 1) D2 0 with
        | inl e => exact ⟨spX_f 1000 1 0 (sk T n q2 + 1) D2 0 e (by omega) (by omega) b7 (by omega) (by rw [if_pos rfl]; omega) e2, spX_6 _ _ _ _ _ _ _ (by omega) e2⟩
        | inr z =>
          obtain ⟨q3, D3, e⟩ := z
          obtain ⟨d1, d2, d3, d4, d5, d6, d7, d8, d9, d10⟩ := spX_c 1000 1 0 (sk T n q2 + 1) D2 0 q3 D3 e (by omega) (by omega) b7 (by omega) e2
          have x2 := spX_xD 1000 1 0 (sk T n q2 + 1) D2 0 q3 D3 e (by omega) (by omega) b7 (by omega) e2
          exact spAe_k d7 (show c < o_P D3.1 by omega) d6 (xD_t x1 x2)
      · rw [if_neg c8]
        exact (by decide : (1 : Nat) ≠ 0 ∧ (1 : Nat) ≤ 6)
    · rw [if_neg t]
      exact spAe_k b7 b6 (by omega) x1
/-! the class reads it -/
def fQc (o : Nat) (h h' : am_H) : Prop := am_S h' = am_S h ∧ am_G h' = am_G h ∧ am_T h' = am_T h ∧ am_P h' = am_P h ∧ (∀ b, b ≠ 37 → b ≠ 38 → b ≠ 39 → (b < o ∨ o + 17 ≤ b) → am_I h' b = am_I h b ∧ am_L h' b = am_L h b) ∧ am_I h' 37 3 = am_I h 37 3 ∧ fAs o h h'
theorem fPc_Qc {o : Nat} {h h' : am_H} (q : fPc o h h') : fQc o h h' := ⟨q.1, q.2.1, q.2.2.1, q.2.2.2.1, q.2.2.2.2.1, q.2.2.2.2.2.2.1, q.2.2.2.2.2.2.2⟩
theorem fQc_t {o : Nat} {a b c : am_H} (h1 : fQc o a b) (h2 : fQc o b c) : fQc o a c := ⟨h2.1.trans h1.1, h2.2.1.trans h1.2.1, h2.2.2.1.trans h1.2.2.1, h2.2.2.2.1.trans h1.2.2.2.1, fun b p q r s => ⟨(h2.2.2.2.2.1 b p q r s).1.trans (h1.2.2.2.2.1 b p q r s).1, (h2.2.2.2.2.1 b p q r s).2.trans (h1.2.2.2.2.1 b p q r s).2⟩, h2.2.2.2.2.2.1.trans h1.2.2.2.2.2.1, fAs_t h1.2.2.2.2.2.1 h1.2.2.2.2.2.2 h2.2.2.2.2.2.2⟩
theorem fQc_i {o : Nat} (h : am_H) {j : Nat} (h3 : j ≠ 3) (v : Int32) : fQc o h (am_sI h 37 j v) := ⟨rfl, rfl, rfl, rfl, fun b p _ _ _ => ⟨by
  funext i
  rw [pc_I_I, if_neg (fun e => p e.1)], rfl⟩, by rw [pc_I_I, if_neg (by omega)], fAs_o (fun b p _ _ => by
  funext i
  rw [pc_I_I, if_neg (fun e => p e.1)]) (fun _ _ => rfl)⟩
theorem fQc_lc {o : Nat} {h h' : am_H} (q : fQc o h h') (H : LcAt h) : LcAt h' := LcAt_of H q.1 (fun _ _ _ => by rw [q.2.2.2.1])
def FLq (h h' : am_H) (o : Nat) (e : Nat × Nat) : Prop := fQc o h h' ∧ am_I h' 37 9 = nI e.1 ∧ am_I h' 37 10 = nI e.2 ∧ ∃ k, k ≤ 400 ∧ am_I h' 37 16 = nI k
theorem FLq_o {h h' : am_H} {o : Nat} {T : Nat → Nat} {n : Nat} {e : Nat × Nat} (F : FLT h h' o T n e) : FLq h h' o e := by
  obtain ⟨q, f9, f10, Tp, -, k, hk, f16, fW⟩ := F
  exact ⟨fPc_Qc q, f9, f10, k, hk, f16⟩
theorem FLq_t {h g h' : am_H} {o : Nat} {e : Nat × Nat} (q : fQc o h g) (F : FLq g h' o e) : FLq h h' o e := ⟨fQc_t q F.1, F.2⟩
theorem FLq_s {h h' : am_H} {o : Nat} {e : Nat × Nat} (F : FLq h h' o e) {j : Nat} (hj : j = 12 ∨ j = 13) (v : Int32) : FLq h (am_sI h' 37 j v) o e := by
  obtain ⟨q, f9, f10, k, hk, f16⟩ := F
  have r : ∀ i, i ≠ j → am_I (am_sI h' 37 j v) 37 i = am_I h' 37 i := fun i p => by rw [pc_I_I, if_neg (fun e => p e.2)]
  exact ⟨fQc_t q (fQc_i h' (by omega) v), (r 9 (by omega)).trans f9, (r 10 (by omega)).trans f10, k, hk, (r 16 (by omega)).trans f16⟩
theorem PB_s {h : am_H} {o : Nat} {T : Nat → Nat} {n : Nat} {ak : Bool} {D : DT} {p deep k : Nat} {K : Nat → Nat × Nat} (B : PB h o T n ak D p deep k K) {j : Nat} (hj : j = 12 ∨ j = 13) (v : Int32) : PB (am_sI h 37 j v) o T n ak D p deep k K := by
  have r : ∀ i, i ≠ j → am_I (am_sI h 37 j v) 37 i = am_I h 37 i := fun i p => by rw [pc_I_I, if_neg (fun e => p e.2)]
  have hI : ∀ b, b ≠ 37 → am_I (am_sI h 37 j v) b = am_I h b := fun b p => by
    funext i
    rw [pc_I_I, if_neg (fun e => p e.1)]
  obtain ⟨b1, b2, b3, b4, b5, b6, b7, b8, b9, b10, b11, b12, b13, b14⟩ := B
  refine ⟨LcAt_of b1 rfl (fun _ _ _ => rfl), b2, b3, ?_, ?_, ?_, ?_, ?_, b9, OnDW_of b10 (hI _ (by omega)) (hI _ (by omega)) rfl rfl, OnDA_of b11 (by rw [hI o (by omega)]) (fun j _ _ => hI _ (by omega)) (r 3 (by omega)) rfl, ?_, StR_of b13 (r 16 (by omega)) (hI 38 (by omega)) (hI 39 (by omega)), ?_⟩
  · unfold TpC
    rw [hI 2 (by omega)]
    exact b4
  · rw [r 3 (by omega)]; exact b5
  · rw [r 9 (by omega)]; exact b6
  · rw [r 10 (by omega)]; exact b7
  · unfold ReT
    rw [r 1 (by omega), r 4 (by omega), r 5 (by omega), r 6 (by omega), r 7 (by omega)]
    exact b8
  · unfold CDp
    rw [r 11 (by omega)]
    exact b12.imp (fun e => ⟨e.1, e.2.1, OnDP_of e.2.2 (by rw [hI o (by omega)]) (fun j _ _ => hI _ (by omega))⟩) id
  · rw [r 17 (by omega)]; exact b14
theorem Re_qe {h : am_H} {o : Nat} {T : Nat → Nat} {n : Nat} {D : DT} {q : Nat} {K : Nat → Nat × Nat} (B : PB h o T n true D (sk T n q) 0 0 K) (w : wfD D no_x) (c e d : Nat) : (∃ r, spAe T n q D c e = .inl r ∧ ∃ h', (am_cv (f_Re_expect (d + 6) h 37 0) fun h_7 => am_ck h_7 37 3 <| am_cv (f_Re_failIfTooManyParts (d + 6) h_7 37 0) fun h_8 => some (.inr none, h_8)) = some (.inr none, h') ∧ FLT h h' o T n r) ∨ (spAe T n q D c e = .inr (D, c, e) ∧ o_P D.1 ≤ 60 ∧ ∃ h', (am_cv (f_Re_expect (d + 6) h 37 0) fun h_7 => am_ck h_7 37 3 <| am_cv (f_Re_failIfTooManyParts (d + 6) h_7 37 0) fun h_8 => some (.inr none, h_8)) = some (.inr none, h') ∧ fPc o h h' ∧ ∃ p, PB h' o T n true D p 0 0 K) := by
  have H := B.1
  unfold spAe
  rcases Re_exp B w (by omega) (c := 0) (by omega) (d + 3) with ⟨c0, z, ez, qz, Bz⟩ | ⟨c0, z, ez, fz⟩
  · rw [show f_Re_expect (d + 6) h 37 0 = _ from ez, cv_r, lz_k (Lc_k37 Bz.1), if_pos c0]
    rcases Re_tm Bz w (by omega) 0 (d + 5) with ⟨c60, et⟩ | ⟨c60, t, et, ft⟩
    · refine Or.inr ⟨by rw [if_neg (by omega)], c60, z, ?_, qz, _, Bz⟩
      rw [show f_Re_failIfTooManyParts (d + 6) z 37 0 = _ from et, cv_r]
    · refine Or.inl ⟨(5, 0), by rw [if_pos c60], t, ?_, FLT_t qz ft⟩
      rw [show f_Re_failIfTooManyParts (d + 6) z 37 0 = _ from et, cv_r]
  · have Hz := fPc_lc fz.1 H
    have bad : ¬ am_I z 37 9 = 0 := by
      rw [fz.2.1]
      exact nz6 (show 1 ≠ 0 by omega) (show 1 ≤ 6 by omega)
    refine Or.inl ⟨(1, sk T n q), by rw [if_neg c0], z, ?_, fz⟩
    rw [show f_Re_expect (d + 6) h 37 0 = _ from ez, cv_r, lz_k (Lc_k37 Hz), lz_cv (Re_tmN Hz bad _ (d + 5))]
theorem Re_qeN {h : am_H} (H : LcAt h) (bad : ¬ am_I h 37 9 = 0) (d : Nat) : (am_cv (f_Re_expect (d + 6) h 37 0) fun h_7 => am_ck h_7 37 3 <| am_cv (f_Re_failIfTooManyParts (d + 6) h_7 37 0) fun h_8 => some (.inr none, h_8)) = some (.inr none, h) := by
  rw [lz_cv (Re_expN H bad 0 (d + 5)), lz_k (Lc_k37 H), lz_cv (Re_tmN H bad 0 (d + 5))]
/-- how a question is read by the class -/
def CQ (F : Option am_R) (h : am_H) (o : Nat) (T : Nat → Nat) (n : Nat) (two : Bool) (r : QRs) : Prop := match r with
  | .inl e => ∃ h', F = some (.inr none, h') ∧ FLq h h' o e
  | .inr y => ∃ h', F = some (.inr none, h') ∧ fQc o h h' ∧ (∃ p K, PB h' o T n true y.1 p 0 0 K) ∧ am_I h' 37 12 = nI y.2.1 ∧ (two = true → am_I h' 37 13 = nI y.2.2)
noncomputable def f_rdQ (two : Bool) (d : Nat) (h : am_H) : Option am_R := if two = true then f_Re_readQuestion d h 37 else f_Re_readSingle d h 37
theorem s12 (h : am_H) (j : Nat) (v : Int32) : am_I (am_sI h 37 j v) 37 j = v := by rw [pc_I_I, if_pos ⟨rfl, rfl⟩]
theorem s12n (h : am_H) {i j : Nat} (p : i ≠ j) (v : Int32) : am_I (am_sI h 37 j v) 37 i = am_I h 37 i := by rw [pc_I_I, if_neg (fun e => p e.2)]
theorem lcs37 (h : am_H) (H : LcAt h) (j : Nat) (v : Int32) : LcAt (am_sI h 37 j v) := LcAt_of H rfl (fun _ _ _ => rfl)
theorem Re_que {h : am_H} {o : Nat} {T : Nat → Nat} {n : Nat} {D : DT} {deep k : Nat} {K : Nat → Nat × Nat} (B : PB h o T n true D (sk T n 0) deep k K) (w : wfD D no_x) (two : Bool) (d : Nat) : CQ (f_rdQ two (d + 7) h) h o T n two (spA two T n D) := by
  have H := B.1
  have n4 := B.2.2.2.1.1
  have w2 := w.2.2.1
  have X := Re_con B w (Nat.zero_le n) d
  unfold f_rdQ spA
  cases e1 : spX true T n 1000 1 0 0 D 0 with
  | inl e =>
    rw [e1] at X
    obtain ⟨u, x, eu, fu⟩ := CO_j X
    have Hu := fPc_lc fu.1 H
    have h0 : e.1 ≠ 0 := spX_f 1000 1 0 0 D 0 e (by omega) (Nat.zero_le n) w (by omega) (by rw [if_pos rfl]; omega) e1
    have h6 : e.1 ≤ 6 := spX_6 _ _ _ _ _ _ _ (by omega) e1
    have F1 := FLq_s (FLq_o fu) (Or.inl rfl) x
    have H1 := lcs37 u Hu 12 x
    have bad1 : ¬ am_I (am_sI u 37 12 x) 37 9 = 0 := by
      rw [F1.2.1]
      exact nz6 h0 h6
    cases two with
    | true =>
      rw [if_pos rfl, e_Re_readQuestion, lz_k (Lc_k37 H), lz_ci eu, lz_k (Lc_k37 Hu), lz_k (Lc_k37 H1), lz_cv (Re_expN H1 bad1 8 (d + 5)), lz_i (Lc_k37 H1) rfl, if_neg bad1, lz_k (Lc_k37 H1)]
      have F2 := FLq_s F1 (Or.inr rfl) (-1)
      have H2 := lcs37 _ H1 13 (-1)
      have bad2 : ¬ am_I (am_sI (am_sI u 37 12 x) 37 13 (-1)) 37 9 = 0 := by
        rw [F2.2.1]
        exact nz6 h0 h6
      rw [lz_k (Lc_k37 H2), Re_qeN H2 bad2 d]
      exact ⟨_, rfl, F2⟩
    | false =>
      rw [if_neg (by decide), e_Re_readSingle, lz_k (Lc_k37 H), lz_ci eu, lz_k (Lc_k37 Hu), lz_k (Lc_k37 H1), Re_qeN H1 bad1 d]
      exact ⟨_, rfl, F1⟩
  | inr y =>
    obtain ⟨q2, D2, c⟩ := y
    rw [e1] at X
    obtain ⟨u, x, eu, qu, Bu, vu⟩ := CO_i X
    obtain ⟨b1, b2, b3, b4, b5, b6, b7, b8, b9, b10⟩ := spX_c 1000 1 0 0 D 0 q2 D2 c (by omega) (Nat.zero_le n) w (by omega) e1
    have B1 := PB_s Bu (Or.inl rfl) x
    have q1 : fQc o h (am_sI u 37 12 x) := fQc_t (fPc_Qc qu) (fQc_i u (by omega) x)
    have v12 := s12 u 12 x
    obtain ⟨t, et⟩ : ∃ t, t = am_sI u 37 12 x := ⟨_, rfl⟩
    show CQ (if two = true then f_Re_readQuestion (d + 7) h 37 else f_Re_readSingle (d + 7) h 37) h o T n two (if two = true then (if tk T n (sk T n q2) = 8 then (match spX true T n 1000 1 0 (sk T n q2 + 1) D2 0 with
      | .inl e => .inl e
      | .inr z => spAe T n z.1 z.2.1 c z.2.2) else .inl (1, sk T n q2)) else spAe T n q2 D2 c 0)
    rw [← et] at B1 q1 v12
    cases two with
    | true =>
      rw [if_pos rfl, if_pos rfl, e_Re_readQuestion, lz_k (Lc_k37 H), lz_ci eu, lz_k (Lc_k37 Bu.1), ← et, lz_k (Lc_k37 B1.1)]
      rcases Re_exp B1 b7 (by omega) (c := 8) (by omega) (d + 3) with ⟨c8, z, ez, qz, Bz⟩ | ⟨c8, z, ez, fz⟩
      · have y2 := tk_lt (T := T) (n := n) (p := sk T n q2) (by omega)
        rw [nx_s (by omega) (by omega)] at Bz
        have Y := Re_con Bz b7 (by omega) d
        rw [if_pos c8, show f_Re_expect (d + 6) t 37 8 = _ from ez, cv_r, lz_i (Lc_k37 Bz.1) Bz.2.2.2.2.2.1, if_pos rfl, lz_k (Lc_k37 Bz.1)]
        have z12 : am_I z 37 12 = x := (qz.2.2.2.2.2.1 12 (by omega)).trans v12
        cases e2 : spX true T n 1000 1 0 (sk T n q2 + 1) D2 0 with
        | inl e =>
          rw [e2] at Y
          obtain ⟨v, y, ev, fv⟩ := CO_j Y
          have Hv := fPc_lc fv.1 Bz.1
          have h0 : e.1 ≠ 0 := spX_f 1000 1 0 (sk T n q2 + 1) D2 0 e (by omega) (by omega) b7 (by omega) (by rw [if_pos rfl]; omega) e2
          have h6 : e.1 ≤ 6 := spX_6 _ _ _ _ _ _ _ (by omega) e2
          have F1 := FLq_s (FLq_t (fQc_t q1 (fPc_Qc qz)) (FLq_o fv)) (Or.inr rfl) y
          have H1 := lcs37 v Hv 13 y
          have bad1 : ¬ am_I (am_sI v 37 13 y) 37 9 = 0 := by
            rw [F1.2.1]
            exact nz6 h0 h6
          rw [lz_ci ev, lz_k (Lc_k37 Hv), lz_k (Lc_k37 H1), Re_qeN H1 bad1 d]
          exact ⟨_, rfl, F1⟩
        | inr y =>
          obtain ⟨q3, D3, e⟩ := y
          rw [e2] at Y
          obtain ⟨v, y, ev, qv, Bv, vv⟩ := CO_i Y
          obtain ⟨d1, d2, d3, d4, d5, d6, d7, d8, d9, d10⟩ := spX_c 1000 1 0 (sk T n q2 + 1) D2 0 q3 D3 e (by omega) (by omega) b7 (by omega) e2
          have B3 := PB_s Bv (Or.inr rfl) y
          have v13 := s12 v 13 y
          have w12 : am_I (am_sI v 37 13 y) 37 12 = x := by
            rw [s12n v (by omega)]
            exact (qv.2.2.2.2.2.1 12 (by omega)).trans z12
          obtain ⟨r, er⟩ : ∃ r, r = am_sI v 37 13 y := ⟨_, rfl⟩
          have q3' : fQc o h r := by
            rw [er]
            exact fQc_t q1 (fQc_t (fPc_Qc qz) (fQc_t (fPc_Qc qv) (fQc_i v (by omega) y)))
          rw [← er] at B3 v13 w12
          rw [lz_ci ev, lz_k (Lc_k37 Bv.1), ← er, lz_k (Lc_k37 B3.1)]
          show CQ _ h o T n true (spAe T n q3 D3 c e)
          rcases Re_qe B3 d7 c e d with ⟨f, es, m, em, fm⟩ | ⟨es, c60, m, em, qm, p, Bm⟩
          · rw [es, em]
            exact ⟨m, rfl, FLq_t q3' (FLq_o fm)⟩
          · rw [es, em]
            exact ⟨m, rfl, fQc_t q3' (fPc_Qc qm), ⟨p, K, Bm⟩, (qm.2.2.2.2.2.1 12 (by omega)).trans (w12.trans (vu (by omega))), fun _ => (qm.2.2.2.2.2.1 13 (by omega)).trans (v13.trans (vv c60))⟩
      · have Hz := fPc_lc fz.1 B1.1
        have bad : ¬ am_I z 37 9 = 0 := by
          rw [fz.2.1]
          exact nz6 (show 1 ≠ 0 by omega) (show 1 ≤ 6 by omega)
        have F2 := FLq_s (FLq_t q1 (FLq_o fz)) (Or.inr rfl) (-1)
        have H2 := lcs37 z Hz 13 (-1)
        have bad2 : ¬ am_I (am_sI z 37 13 (-1)) 37 9 = 0 := by
          rw [F2.2.1]
          exact nz6 (show 1 ≠ 0 by omega) (show 1 ≤ 6 by omega)
        rw [if_neg c8, show f_Re_expect (d + 6) t 37 8 = _ from ez, cv_r, lz_i (Lc_k37 Hz) rfl, if_neg bad, lz_k (Lc_k37 Hz), lz_k (Lc_k37 H2), Re_qeN H2 bad2 d]
        exact ⟨_, rfl, F2⟩
    | false =>
      rw [if_neg (by decide), if_neg (by decide), e_Re_readSingle, lz_k (Lc_k37 H), lz_ci eu, lz_k (Lc_k37 Bu.1), ← et, lz_k (Lc_k37 B1.1)]
      rcases Re_qe B1 b7 c 0 d with ⟨f, es, m, em, fm⟩ | ⟨es, c60, m, em, qm, p, Bm⟩
      · rw [es, em]
        exact ⟨m, rfl, FLq_t q1 (FLq_o fm)⟩
      · rw [es, em]
        exact ⟨m, rfl, fQc_t q1 (fPc_Qc qm), ⟨p, K, Bm⟩, (qm.2.2.2.2.2.1 12 (by omega)).trans (v12.trans (vu c60)), fun c => absurd c (by decide)⟩
