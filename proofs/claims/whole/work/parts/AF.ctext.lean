/-! ===== the class's text ===== -/
theorem CB_o {h h' : am_H} {o : Nat} {O : o_T} {B : Nat → Prop} (C : CB h o O B) (H' : LcAt h') (hS : am_S h' = am_S h) (hR : OnR h' o O) (hN : OnN h' o O) (hL : am_L h' o 10 = am_L h o 10) (hW : ∀ b, (41 ≤ b ∧ b < 61) ∨ b = 74 ∨ b = 75 → am_I h' b = am_I h b ∧ am_L h' b = am_L h b ∧ am_P h' b = am_P h b) (p3 : am_P h' 1 3 = some o) (h8 : am_I h' 1 8 = am_I h 1 8) (h9 : am_I h' 1 9 = am_I h 1 9) : CB h' o O B := by
  obtain ⟨c1, c2, c3, c4, c5, c6, c7, c8, c9⟩ := C
  have q : smW (fun b => (41 ≤ b ∧ b < 61) ∨ b = 74 ∨ b = 75) h h' := ⟨hS, hW⟩
  refine ⟨H', p3, c3, hR, hN, hL.trans c6, c7, ?_, ?_⟩
  · rw [h8]
    refine c8.imp id (fun e => ⟨e.1, ?_⟩)
    obtain ⟨k, k1, k2, k3, k4, k5, k6, k7⟩ := e.2
    refine ⟨k, k1, k2, ?_, ?_, SaD_sm q (fun b p r => by omega) k5, HiR_sm q (fun b p r => by omega) k6, ?_⟩
    · rw [h9]; exact k3
    · obtain ⟨d1, d2, d3, d4, d5, d6, d7, d8, d9⟩ := k4
      obtain ⟨x1, x2, x3⟩ := hW 42 (by omega)
      refine ⟨SaAt_of d1 hS (fun j _ => by rw [x3]), hR, by rw [x3]; exact d3, by rw [x1]; exact d4, by rw [x1]; exact d5, by rw [x2]; exact d6, ?_, ?_, ?_⟩
      · rw [x1, (hW (42 + 1) (by omega)).1, (hW (42 + 2) (by omega)).1]; exact d7
      · rw [x1, (hW (42 + 3) (by omega)).1]; exact d8
      · rw [(hW (42 + 4) (by omega)).1]; exact d9
    · rw [(hW 41 (by omega)).1]; exact k7
  · rw [(hW 74 (by omega)).1]
    refine c9.imp id (fun ⟨e, x, y, K⟩ => ⟨e, x, y, ?_⟩)
    obtain ⟨U, so, ⟨d1, d2, d3, d4, d5, d6, d7, d8⟩, k2, k3, k4, k5⟩ := K
    obtain ⟨e1, e2, e3⟩ := hW 74 (by omega)
    obtain ⟨f1, f2, f3⟩ := hW 75 (by omega)
    refine ⟨U, so, ⟨H', hR, d3, ?_, ?_, ?_, ?_, d8⟩, ?_, k3, k4, ?_⟩
    · rw [e3]; exact d4
    · rw [e1]; exact d5
    · rw [e1]; exact d6
    · rw [e2]; exact d7
    · rw [e1]; exact k2
    · rw [e1, f2]; exact k5
/-- what stands of the axioms -/
def AxA (h : am_H) (o : Nat) (O : o_T) : Prop := am_I h o 9 = nI (o_A O) ∧ (∀ k, k < o_A O → am_I h (o + 11) k = nI (o_ak O k) ∧ am_I h (o + 12) k = nI (o_a1 O k) ∧ am_I h (o + 13) k = nI (o_a2 O k) ∧ am_I h (o + 14) k = nI (o_a3 O k) ∧ am_I h (o + 15) k = axn O k ∧ am_I h (o + 16) k = axr O k)
theorem On_mk {h : am_H} {o : Nat} {D : DT} (H : OnAt h o) (w : wfD D no_x) (h60 : o_P D.1 ≤ 60) (W : OnDW h o D) (P : OnDP h o D) (A : AxA h o D.1) : OnR h o D.1 ∧ OnN h o D.1 ∧ OnS h o D.1 ∧ OnW h o D.1 D.2.1 D.2.2 := by
  have ok := wfD_ok w h60
  refine ⟨⟨H, ok, P.1, A.1, W.2.1, W.2.2.2.1, fun p hp => ⟨(P.2.1 p hp).1, (P.2.1 p hp).2.1, (P.2.1 p hp).2.2.1⟩, fun k hk => ⟨(A.2 k hk).1, (A.2 k hk).2.1, (A.2 k hk).2.2.1, (A.2 k hk).2.2.2.1⟩⟩, fun m hm => ?_, ⟨fun k hk => ⟨(A.2 k hk).2.2.2.2.1, (A.2 k hk).2.2.2.2.2⟩, fun p hp => ⟨(P.2.1 p hp).2.2.2.1, (P.2.1 p hp).2.2.2.2⟩⟩, W.2.2.2.2.1, W.2.2.2.2.2⟩
  obtain ⟨a1, a2, a3⟩ := o_np_s ok hm
  have := P.2.2 _ a1 a2
  rw [a3] at this
  exact this
/-- all that stands of the class between calls -/
def CT (h : am_H) (o : Nat) (O : o_T) (B : Nat → Prop) (x : XT) (WN WR : Nat → Nat → Nat) : Prop := CB h o O B ∧ CX h x ∧ OnS h o O ∧ OnW h o O WN WR ∧ am_P h 1 4 = some (23 - o) ∧ WC h 3 ∧ WC h 20 ∧ (∃ k, k ≤ 400 ∧ am_I h 37 16 = nI k) ∧ wfD (O, WN, WR) no_x
theorem CT_D {h : am_H} {o : Nat} {O : o_T} {B : Nat → Prop} {x : XT} {WN WR : Nat → Nat → Nat} (C : CT h o O B x WN WR) : OnDW h o (O, WN, WR) ∧ OnDP h o (O, WN, WR) ∧ AxA h o O ∧ o_P O ≤ 60 := by
  obtain ⟨cB, cX, cS, cW, cP, w3, w20, ck, w⟩ := C
  obtain ⟨c1, c2, c3, c4, c5, c6, c7, c8, c9⟩ := cB
  obtain ⟨r1, ok, r3, r4, r5, r6, r7, r8⟩ := c4
  have wc : WC h o := by
    rcases c3 with rfl | rfl
    · exact w3
    · exact w20
  obtain ⟨a, b, ha, hb, v1, v2, v3, v4⟩ := wc
  refine ⟨⟨v1, r5, v3, r6, cW.1, cW.2⟩, ⟨r3, fun p hp => ⟨(r7 p hp).1, (r7 p hp).2.1, (r7 p hp).2.2, (cS.2 p hp).1, (cS.2 p hp).2⟩, fun p hp kp => ?_⟩, ⟨r4, fun k hk => ⟨(r8 k hk).1, (r8 k hk).2.1, (r8 k hk).2.2.1, (r8 k hk).2.2.2, (cS.1 k hk).1, (cS.1 k hk).2⟩⟩, ok.2.2.2.1⟩
  have hp' : p < o_P O := hp
  have kp' : o_pk O p = 0 := kp
  have okp := w.2.2.2.2.2.2.1 p hp
  unfold o_okP at okp
  have lt : o_pa O p < o_N O := by
    have e : o_pk (O, WN, WR).1 p = 0 := kp
    have : o_pa (O, WN, WR).1 p < o_N (O, WN, WR).1 := by omega
    exact this
  have := c5 (o_pa O p) lt
  rw [o_np_e ok hp' kp'] at this
  exact this
/-- nothing of the reference changes -/
def gC (h h' : am_H) : Prop := am_S h' = am_S h ∧ am_G h' = am_G h ∧ am_T h' = am_T h ∧ ∀ b, 78 ≤ b ∨ b = 0 → am_I h' b = am_I h b ∧ am_L h' b = am_L h b ∧ am_P h' b = am_P h b
theorem gC_t {a b c : am_H} (h1 : gC a b) (h2 : gC b c) : gC a c := ⟨h2.1.trans h1.1, h2.2.1.trans h1.2.1, h2.2.2.1.trans h1.2.2.1, fun b' p => ⟨(h2.2.2.2 b' p).1.trans (h1.2.2.2 b' p).1, (h2.2.2.2 b' p).2.1.trans (h1.2.2.2 b' p).2.1, (h2.2.2.2 b' p).2.2.trans (h1.2.2.2 b' p).2.2⟩⟩
theorem Lc_nb {h : am_H} {x : XT} (H : LcAt h) (X : CX h x) (i : Int32) (d : Nat) : (∃ n, n ≤ x.2.1 ∧ i = nI n ∧ f_Lc_needBytes (d + 1) h 1 i = some (.inr none, h)) ∨ (¬ vi (x.2.1 + 1) i ∧ f_Lc_needBytes (d + 1) h 1 i = some (.inl 1, cr 1 h)) := by
  have n4 := X.1
  rw [e_Lc_needBytes]
  by_cases v : vi (x.2.1 + 1) i
  · obtain ⟨n, hn, rfl⟩ := v
    refine Or.inl ⟨n, by omega, rfl, ?_⟩
    rw [if_neg (nI_pos (by omega)), lz_i (Lc_k1 H) X.2.1, if_pos (by rw [n_le _ _ (by omega) (by omega)]; omega)]
  · refine Or.inr ⟨v, ?_⟩
    by_cases c : i < 0
    · rw [if_pos c, lz_k (Lc_k1 H), Lc_rf1 H d, cv_e]
    · have c2 := vi_n (by omega) v c
      rw [if_neg c, lz_i (Lc_k1 H) X.2.1, if_neg (fun q => c2 (by
        rw [Int32.le_iff_toInt_le, nI_toInt (by omega)] at q
        rw [Int32.lt_iff_toInt_lt, nI_toInt (by omega)]
        omega)), lz_k (Lc_k1 H), Lc_rf1 H d, cv_e]
/-- what reading may change -/
def fRe (o : Nat) (h h' : am_H) : Prop := am_S h' = am_S h ∧ am_G h' = am_G h ∧ am_T h' = am_T h ∧ (∀ b, b ≠ 37 → b ≠ 38 → b ≠ 39 → (b < o ∨ o + 17 ≤ b) → am_I h' b = am_I h b ∧ am_L h' b = am_L h b) ∧ (∀ b j, ¬ (b = 37 ∧ j = 2) → am_P h' b j = am_P h b j)
theorem fRe_t {o : Nat} {a b c : am_H} (h1 : fRe o a b) (h2 : fRe o b c) : fRe o a c := ⟨h2.1.trans h1.1, h2.2.1.trans h1.2.1, h2.2.2.1.trans h1.2.2.1, fun b' p q r s => ⟨(h2.2.2.2.1 b' p q r s).1.trans (h1.2.2.2.1 b' p q r s).1, (h2.2.2.2.1 b' p q r s).2.trans (h1.2.2.2.1 b' p q r s).2⟩, fun b' j p => (h2.2.2.2.2 b' j p).trans (h1.2.2.2.2 b' j p)⟩
theorem fCw_Re {o : Nat} {h h' : am_H} (q : fCw o h h') : fRe o h h' := ⟨q.1, q.2.1, q.2.2.1, fun b _ _ _ s => q.2.2.2.2 b s, fun _ _ _ => by rw [q.2.2.2.1]⟩
theorem fOp_Re {o : Nat} {h h' : am_H} (q : fOp h h') : fRe o h h' := ⟨q.1, q.2.1, q.2.2.1, fun b p _ _ _ => ⟨(q.2.2.2.1 b p).1, (q.2.2.2.1 b p).2.1⟩, fun b j p => by
  by_cases e : b = 37
  · subst e
    exact q.2.2.2.2 j (fun e => p ⟨rfl, e⟩)
  · rw [(q.2.2.2.1 b e).2.2]⟩
theorem fPc_Re {o : Nat} {h h' : am_H} (q : fPc o h h') : fRe o h h' := ⟨q.1, q.2.1, q.2.2.1, q.2.2.2.2.1, fun _ _ _ => by rw [q.2.2.2.1]⟩
theorem fRe_lc {o : Nat} {h h' : am_H} (q : fRe o h h') (H : LcAt h) : LcAt h' := LcAt_of H q.1 (fun b j p => q.2.2.2.2 b j (fun e => p (Or.inr (Or.inl e))))
theorem d_0ok : wfD d_0 no_x := d_0w
/-- a text read into the other ontology -/
theorem Lc_rtx {h : am_H} {o : Nat} {O : o_T} {B : Nat → Prop} {x : XT} {WN WR : Nat → Nat → Nat} (C : CT h o O B x WN WR) {n : Nat} (hn : n ≤ x.2.1) (d : Nat) : ∃ u v z, f_On_clear (d + 10) h (23 - o) = some (.inr none, u) ∧ f_Re_open (d + 10) u 37 (nI n) (23 - o) 0 = some (.inr none, v) ∧ f_Re_readAxioms (d + 10) v 37 = some (.inr none, z) ∧ fRe (23 - o) h u ∧ fRe (23 - o) h v ∧ fRe (23 - o) h z ∧ ((∃ e, spT x.1 n 1000 0 d_0 = .inl e ∧ FLT v z (23 - o) x.1 n e) ∨ (∃ D, spT x.1 n 1000 0 d_0 = .inr D ∧ ∃ p deep k K, k ≤ 400 ∧ PB z (23 - o) x.1 n false D p deep k K)) := by
  obtain ⟨cB, cX, cS, cW, cP, w3, w20, ck, w⟩ := C
  have H := cB.1
  have ho := cB.2.2.1
  have ho' : 23 - o = 3 ∨ 23 - o = 20 := by omega
  have n4 := cX.1
  have wc : WC h (23 - o) := by
    rcases ho' with e | e
    · rw [e]; exact w3
    · rw [e]; exact w20
  obtain ⟨-, -, -, -, v1, -, v3, -⟩ := wc
  obtain ⟨u, eu, qu, Wu, Pu, u9, u10⟩ := On_clr (Lc_on H ho') ⟨v1, v3⟩ (d + 9)
  have ru : fRe (23 - o) h u := fCw_Re qu
  have Hu := fRe_lc ru H
  obtain ⟨k, k4, e16⟩ := ck
  obtain ⟨v, ev, qv, deep, k', K, hk', Bv⟩ := Re_opens Hu ho' (n := n) (T := x.1) (D := d_0) (by omega) (fun i hi => by
    rw [(ru.2.2.2.1 2 (by omega) (by omega) (by omega) (by omega)).1]
    exact cX.2.2.1 i (by omega)) false Wu Pu (by decide) ⟨u9, fun i hi => absurd hi (Nat.not_lt_zero i), fun _ => u10.trans (wL_0.mpr (fun i _ c => Nat.not_lt_zero i c)).symm⟩ ⟨k, k4, by rw [(qu.2.2.2.2 37 (by omega)).1]; exact e16⟩ (d + 7)
  have rv : fRe (23 - o) h v := fRe_t ru (fOp_Re qv)
  have X := Re_ra (d + 2) 1000 0 d_0 v deep k' K Bv hk' d_0ok (Nat.zero_le n) (by decide) (by omega)
  have ce : f_Re_readAxioms (d + 10) v 37 = f_Re_readAxioms_2 (d + 2 + 8) v 37 (nI (o_A d_0.1)) := by
    rw [e_Re_readAxioms]
    rfl
  cases e : spT x.1 n 1000 0 d_0 with
  | inl r =>
    rw [e] at X
    obtain ⟨z, ez, fz⟩ := X
    exact ⟨u, v, z, eu, ev, ce.trans ez, ru, rv, fRe_t rv (fPc_Re fz.1), Or.inl ⟨r, rfl, fz⟩⟩
  | inr D =>
    rw [e] at X
    obtain ⟨z, ez, qz, p, X⟩ := X
    exact ⟨u, v, z, eu, ev, ce.trans ez, ru, rv, fRe_t rv (fPc_Re qz), Or.inr ⟨D, rfl, p, X⟩⟩
theorem CX_xe {h h' : am_H} {x : XT} (C : CX h x) {p : Int32} (h1 : am_I h' 1 1 = 0) (h2 : am_I h' 1 2 = p) (h7 : am_I h' 1 7 = am_I h 1 7) (hI : am_I h' 40 = am_I h 40 ∧ am_I h' 77 = am_I h 77) : CX h' (xe p x) := by
  obtain ⟨c1, c2, c3, c4, c5, c6, c7, c8⟩ := C
  refine ⟨Nat.zero_le 400, h1, fun k hk => absurd hk (Nat.not_lt_zero k), h2, c5, h7.trans c6, ?_, ?_⟩
  · rw [hI.1]; exact c7
  · rw [hI.2]; exact c8
theorem Lc_text {h : am_H} {o : Nat} {O : o_T} {B : Nat → Prop} {x : XT} {WN WR : Nat → Nat → Nat} (C : CT h o O B x WN WR) (i : Int32) (d : Nat) : (¬ vi (x.2.1 + 1) i ∧ f_Lc_text (d + 11) h 1 i = some (.inl 1, cr 1 h)) ∨ (∃ n, n ≤ x.2.1 ∧ i = nI n ∧ ((∃ e, spT x.1 n 1000 0 d_0 = .inl e ∧ ∃ h', f_Lc_text (d + 11) h 1 i = some (.inr (some (.int (nI e.1 - 10))), h') ∧ gC h h' ∧ CT h' o O B (xe (nI e.2) x) WN WR) ∨ (∃ D, spT x.1 n 1000 0 d_0 = .inr D ∧ ∃ h', f_Lc_text (d + 11) h 1 i = some (.inr (some (.int (nI (o_A D.1)))), h') ∧ gC h h' ∧ CT h' (23 - o) D.1 (fun k => k < o_A D.1) (xn x) D.2.1 D.2.2))) := by
  have CC := C
  obtain ⟨cB, cX, cS, cW, cP, w3, w20, ck, w⟩ := C
  have H := cB.1
  have ho := cB.2.2.1
  have ho' : 23 - o = 3 ∨ 23 - o = 20 := by omega
  have n4 := cX.1
  rw [e_Lc_text, lz_k (Lc_k1 H)]
  rcases Lc_nb H cX i (d + 9) with ⟨n, hn, ei, en⟩ | ⟨hv, en⟩
  · refine Or.inr ⟨n, hn, ei, ?_⟩
    obtain ⟨u, v, z, eu, ev, ez, ru, rv, rz, X⟩ := Lc_rtx CC hn d
    have Hu := fRe_lc ru H
    have Hv := fRe_lc rv H
    have Hz := fRe_lc rz H
    have pu : ∀ j, am_P u 1 j = am_P h 1 j := fun j => ru.2.2.2.2 1 j (by omega)
    have zI : ∀ b, b ≠ 37 → b ≠ 38 → b ≠ 39 → (b < 23 - o ∨ 23 - o + 17 ≤ b) → am_I z b = am_I h b ∧ am_L z b = am_L h b := rz.2.2.2.1
    have zP : ∀ b j, ¬ (b = 37 ∧ j = 2) → am_P z b j = am_P h b j := rz.2.2.2.2
    obtain ⟨s1, e1⟩ : ∃ s, s = am_sI z 1 1 0 := ⟨_, rfl⟩
    obtain ⟨s2, e2⟩ : ∃ s, s = am_sI s1 1 2 (am_I z 37 10) := ⟨_, rfl⟩
    have H1 : LcAt s1 := LcAt_of Hz (by rw [e1]; rfl) (fun _ _ _ => by rw [e1]; rfl)
    have H2 : LcAt s2 := LcAt_of H1 (by rw [e2]; rfl) (fun _ _ _ => by rw [e2]; rfl)
    have P2 : am_P s2 = am_P z := by rw [e2, e1]; rfl
    have L2 : am_L s2 = am_L z := by rw [e2, e1]; rfl
    have S2 : am_S s2 = am_S h ∧ am_G s2 = am_G h ∧ am_T s2 = am_T h := by
      rw [e2, e1]
      exact ⟨rz.1, rz.2.1, rz.2.2.1⟩
    have I1 : ∀ b j, b ≠ 1 ∨ j ≠ 1 → am_I s1 b j = am_I z b j := fun b j q => by rw [e1, pc_I_I, if_neg (by omega)]
    have I2 : ∀ b j, b ≠ 1 ∨ (j ≠ 1 ∧ j ≠ 2) → am_I s2 b j = am_I z b j := fun b j q => by rw [e2, pc_I_I, if_neg (by omega), I1 b j (by omega)]
    have I2b : ∀ b, b ≠ 1 → am_I s2 b = am_I z b := fun b q => by
      funext j
      exact I2 b j (Or.inl q)
    have v11 : am_I s2 1 1 = 0 := by rw [e2, pc_I_I, if_neg (by omega), e1, pc_I_I, if_pos ⟨rfl, rfl⟩]
    have v12 : am_I s2 1 2 = am_I z 37 10 := by rw [e2, pc_I_I, if_pos ⟨rfl, rfl⟩]
    have p15 : am_P s1 1 5 = some 37 := Lc_p1_5 H1
    rw [ei] at en ⊢
    rw [lz_cv en, lz_p (Lc_k1 H) cP, lz_k (On_k (Lc_on H ho')), lz_cv eu, lz_p (Lc_k1 Hu) (Lc_p1_5 Hu), lz_p (Lc_k1 Hu) (by rw [pu]; exact cP), lz_k (Lc_k37 Hu), lz_cv ev, lz_p (Lc_k1 Hv) (Lc_p1_5 Hv), lz_k (Lc_k37 Hv), lz_cv ez, lz_k (Lc_k1 Hz), ← e1, lz_p (Lc_k1 H1) (Lc_p1_5 H1), lz_i (Lc_k37 H1) (I1 37 10 (by omega)), lz_k (Lc_k1 H1), ← e2, lz_p (Lc_k1 H2) (Lc_p1_5 H2)]
    rcases X with ⟨e, es, F⟩ | ⟨D, es, p, deep, k, K, hk, Bz⟩
    · have oke := spT_c (T := x.1) (n := n) (by omega) 1000 0 d_0 (Nat.zero_le n) (by omega) d_0ok (by decide)
      rw [es] at oke
      refine Or.inl ⟨e, es, s2, ?_, ⟨S2.1, S2.2.1, S2.2.2, fun b q => ⟨?_, ?_, ?_⟩⟩, ?_, ?_, ?_, ?_, ?_, ?_, ?_, ?_, w⟩
      · have e9 : am_I s2 37 9 = nI e.1 := by rw [I2 37 9 (by omega)]; exact F.2.1
        rw [lz_i (Lc_k37 H2) e9, if_neg (nz6 oke.1 oke.2), lz_p (Lc_k1 H2) (Lc_p1_5 H2), lz_i (Lc_k37 H2) e9]
      · rw [I2b b (by omega), (zI b (by omega) (by omega) (by omega) (by omega)).1]
      · rw [L2, (zI b (by omega) (by omega) (by omega) (by omega)).2]
      · rw [P2]
        funext j
        exact zP b j (by omega)
      · have oI : ∀ b, o ≤ b → b < o + 17 → am_I s2 b = am_I h b := fun b q r => by rw [I2b b (by omega), (zI b (by omega) (by omega) (by omega) (by omega)).1]
        refine CB_o cB H2 S2.1 (OnR_of cB.2.2.2.1 S2.1 (fun j _ => ?_) (fun j hj => oI _ (by omega) (by omega))) (fun m hm => ?_) ?_ (fun b q => ⟨?_, ?_, ?_⟩) ?_ ?_ ?_
        · rw [P2]
          funext j'
          exact zP _ j' (by omega)
        · rw [oI (o + 5) (by omega) (by omega)]
          exact cB.2.2.2.2.1 m hm
        · rw [L2, (zI o (by omega) (by omega) (by omega) (by omega)).2]
        · rw [I2b b (by omega), (zI b (by omega) (by omega) (by omega) (by omega)).1]
        · rw [L2, (zI b (by omega) (by omega) (by omega) (by omega)).2]
        · rw [P2]
          funext j'
          exact zP _ j' (by omega)
        · rw [P2, zP 1 3 (by omega)]
          exact cB.2.1
        · rw [I2 1 8 (by omega), (zI 1 (by omega) (by omega) (by omega) (by omega)).1]
        · rw [I2 1 9 (by omega), (zI 1 (by omega) (by omega) (by omega) (by omega)).1]
      · exact CX_xe cX v11 (v12.trans F.2.2.1) (by rw [I2 1 7 (by omega), (zI 1 (by omega) (by omega) (by omega) (by omega)).1]) ⟨by rw [I2b 40 (by omega), (zI 40 (by omega) (by omega) (by omega) (by omega)).1], by rw [I2b 77 (by omega), (zI 77 (by omega) (by omega) (by omega) (by omega)).1]⟩
      · have oI : ∀ b, o ≤ b → b < o + 17 → am_I s2 b = am_I h b := fun b q r => by rw [I2b b (by omega), (zI b (by omega) (by omega) (by omega) (by omega)).1]
        unfold OnS
        rw [oI _ (by omega) (by omega), oI _ (by omega) (by omega), oI _ (by omega) (by omega), oI _ (by omega) (by omega)]
        exact cS
      · have oL : ∀ b, o ≤ b → b < o + 17 → am_L s2 b = am_L h b := fun b q r => by rw [L2, (zI b (by omega) (by omega) (by omega) (by omega)).2]
        unfold OnW WoR
        rw [oL _ (by omega) (by omega), oL _ (by omega) (by omega)]
        exact cW
      · rw [P2, zP 1 4 (by omega)]
        exact cP
      · have key : ∀ b, b = 3 ∨ b = 20 → WC h b → WC s2 b := fun b q wb => by
          by_cases c : b = o
          · exact WC_of wb (by rw [I2b _ (by omega), (zI _ (by omega) (by omega) (by omega) (by omega)).1]) (by rw [I2b _ (by omega), (zI _ (by omega) (by omega) (by omega) (by omega)).1])
          · have eb : b = 23 - o := by omega
            have fw := F.2.2.2.2.2
            obtain ⟨-, -, -, fw⟩ := fw
            rw [eb]
            exact WC_of fw (I2b _ (by omega)) (I2b _ (by omega))
        exact key 3 (Or.inl rfl) w3
      · have key : ∀ b, b = 3 ∨ b = 20 → WC h b → WC s2 b := fun b q wb => by
          by_cases c : b = o
          · exact WC_of wb (by rw [I2b _ (by omega), (zI _ (by omega) (by omega) (by omega) (by omega)).1]) (by rw [I2b _ (by omega), (zI _ (by omega) (by omega) (by omega) (by omega)).1])
          · have eb : b = 23 - o := by omega
            have fw := F.2.2.2.2.2
            obtain ⟨-, -, -, fw⟩ := fw
            rw [eb]
            exact WC_of fw (I2b _ (by omega)) (I2b _ (by omega))
        exact key 20 (Or.inr rfl) w20
      · obtain ⟨k, hk, f16, -⟩ := F.2.2.2.2.2
        exact ⟨k, hk, by rw [I2 37 16 (by omega)]; exact f16⟩
    · have okD := spT_c (T := x.1) (n := n) (by omega) 1000 0 d_0 (Nat.zero_le n) (by omega) d_0ok (by decide)
      rw [es] at okD
      obtain ⟨wD, D60⟩ := okD
      obtain ⟨s3, e3⟩ : ∃ s, s = am_sP s2 1 3 (some (23 - o)) := ⟨_, rfl⟩
      obtain ⟨s4, e4⟩ : ∃ s, s = am_sP s3 1 4 (some o) := ⟨_, rfl⟩
      obtain ⟨s5, e5⟩ : ∃ s, s = am_sI s4 1 7 0 := ⟨_, rfl⟩
      obtain ⟨s6, e6⟩ : ∃ s, s = am_sI (am_sI s5 1 8 0) 74 7 0 := ⟨_, rfl⟩
      have H3 : LcAt s3 := LcAt_of H2 (by rw [e3]; rfl) (fun b j q => by
        rw [e3, pc_P_P, if_neg]
        rintro ⟨rfl, rfl⟩
        exact q (Or.inl ⟨rfl, Or.inl rfl⟩))
      have H4 : LcAt s4 := LcAt_of H3 (by rw [e4]; rfl) (fun b j q => by
        rw [e4, pc_P_P, if_neg]
        rintro ⟨rfl, rfl⟩
        exact q (Or.inl ⟨rfl, Or.inr rfl⟩))
      have H5 : LcAt s5 := LcAt_of H4 (by rw [e5]; rfl) (fun _ _ _ => by rw [e5]; rfl)
      have H5b : LcAt (am_sI s5 1 8 0) := LcAt_of H5 rfl (fun _ _ _ => rfl)
      have H6 : LcAt s6 := LcAt_of H5b (by rw [e6]; rfl) (fun _ _ _ => by rw [e6]; rfl)
      have I6 : ∀ b j, (b ≠ 1 ∨ (j ≠ 1 ∧ j ≠ 2 ∧ j ≠ 7 ∧ j ≠ 8)) → (b ≠ 74 ∨ j ≠ 7) → am_I s6 b j = am_I z b j := fun b j q r => by
        rw [e6, pc_I_I, if_neg (by omega), pc_I_I, if_neg (by omega), e5, pc_I_I, if_neg (by omega), e4, show am_I (am_sP s3 1 4 (some o)) b j = am_I s3 b j from rfl, e3, show am_I (am_sP s2 1 3 (some (23 - o))) b j = am_I s2 b j from rfl, I2 b j (by omega)]
      have I6b : ∀ b, b ≠ 1 → b ≠ 74 → am_I s6 b = am_I z b := fun b q r => by
        funext j
        exact I6 b j (Or.inl q) (Or.inl r)
      have L6 : am_L s6 = am_L z := by rw [e6, e5, e4, e3, show am_L (am_sI (am_sI (am_sI (am_sP (am_sP s2 1 3 (some (23 - o))) 1 4 (some o)) 1 7 0) 1 8 0) 74 7 0) = am_L s2 from rfl, L2]
      have P6 : ∀ b j, am_P s6 b j = if b = 1 ∧ j = 4 then some o else if b = 1 ∧ j = 3 then some (23 - o) else am_P z b j := fun b j => by
        rw [e6, show am_P (am_sI (am_sI s5 1 8 0) 74 7 0) b j = am_P s5 b j from rfl, e5, show am_P (am_sI s4 1 7 0) b j = am_P s4 b j from rfl, e4, pc_P_P, e3, pc_P_P, P2]
      have S6 : am_S s6 = am_S h ∧ am_G s6 = am_G h ∧ am_T s6 = am_T h := by
        rw [e6, e5, e4, e3]
        exact S2
      have a11 : am_I s6 1 1 = 0 := by
        rw [e6, pc_I_I, if_neg (by omega), pc_I_I, if_neg (by omega), e5, pc_I_I, if_neg (by omega), e4, show am_I (am_sP s3 1 4 (some o)) 1 1 = am_I s3 1 1 from rfl, e3, show am_I (am_sP s2 1 3 (some (23 - o))) 1 1 = am_I s2 1 1 from rfl]
        exact v11
      have a12 : am_I s6 1 2 = -1 := by
        rw [e6, pc_I_I, if_neg (by omega), pc_I_I, if_neg (by omega), e5, pc_I_I, if_neg (by omega), e4, show am_I (am_sP s3 1 4 (some o)) 1 2 = am_I s3 1 2 from rfl, e3, show am_I (am_sP s2 1 3 (some (23 - o))) 1 2 = am_I s2 1 2 from rfl]
        exact v12.trans Bz.2.2.2.2.2.2.1
      have a17 : am_I s6 1 7 = 0 := by rw [e6, pc_I_I, if_neg (by omega), pc_I_I, if_neg (by omega), e5, pc_I_I, if_pos ⟨rfl, rfl⟩]
      have a18 : am_I s6 1 8 = 0 := by rw [e6, pc_I_I, if_neg (by omega), pc_I_I, if_pos ⟨rfl, rfl⟩]
      have a74 : am_I s6 74 7 = 0 := by rw [e6, pc_I_I, if_pos ⟨rfl, rfl⟩]
      have zP' : OnDP z (23 - o) D := by
        rcases Bz.2.2.2.2.2.2.2.2.2.2.2.1 with c | c
        · exact c.2.2
        · exact absurd c.1 (by omega)
      have zW := Bz.2.2.2.2.2.2.2.2.2.1
      have zA := Bz.2.2.2.2.2.2.2.2.2.2.1
      obtain ⟨r1, r2, r3, r4⟩ := On_mk (h := s6) (o := 23 - o) (D := D) (Lc_on H6 ho') wD D60 (OnDW_of zW (I6b _ (by omega) (by omega)) (I6b _ (by omega) (by omega)) (by rw [L6]) (by rw [L6])) (OnDP_of zP' (by rw [I6b _ (by omega) (by omega)]) (fun j _ _ => I6b _ (by omega) (by omega))) ⟨by rw [I6b _ (by omega) (by omega)]; exact zA.1, fun i hi => by
        rw [I6b _ (by omega) (by omega), I6b _ (by omega) (by omega), I6b _ (by omega) (by omega), I6b _ (by omega) (by omega), I6b _ (by omega) (by omega), I6b _ (by omega) (by omega)]
        exact zA.2.1 i hi⟩
      have p3 : am_P s6 1 3 = some (23 - o) := by rw [P6, if_neg (by omega), if_pos ⟨rfl, rfl⟩]
      have eun : f_Lc_unsettle (d + 10) s5 1 = some (.inr none, s6) := by
        rw [e_Lc_unsettle, o1_0, lz_k (Lc_k1 H5), lz_p (Lc_k1 H5b) (Lc_p1_15 H5b), lz_k (Lc_k74 H5b), e_Rs_forget, o1_0, lz_k (Lc_k74 H5b), cv_r, e6]
      refine Or.inr ⟨D, es, s6, ?_, ⟨S6.1, S6.2.1, S6.2.2, fun b q => ⟨?_, ?_, ?_⟩⟩, ⟨H6, p3, ho', r1, r2, ?_, fun _ c => c, Or.inl a18, Or.inl a74⟩, ⟨Nat.zero_le 400, a11, fun k hk => absurd hk (Nat.not_lt_zero k), a12, Nat.zero_le 20, a17, fun k hk => absurd hk (Nat.not_lt_zero k), ?_⟩, r3, r4, ?_, ?_, ?_, ⟨k, hk, ?_⟩, wD⟩
      · rw [lz_i (Lc_k37 H2) ((I2 37 9 (by omega)).trans Bz.2.2.2.2.2.1), if_pos rfl, lz_p (Lc_k1 H2) (by rw [P2, zP 1 3 (by omega)]; exact cB.2.1), lz_p (Lc_k1 H2) (by rw [P2, zP 1 4 (by omega)]; exact cP), lz_k (Lc_k1 H2), ← e3, lz_k (Lc_k1 H3), ← e4, lz_k (Lc_k1 H4), ← e5, lz_k (Lc_k1 H5), lz_cv eun, lz_p (Lc_k1 H6) p3, lz_i (On_k (Lc_on H6 ho')) r1.2.2.2.1]
      · rw [I6b b (by omega) (by omega), (zI b (by omega) (by omega) (by omega) (by omega)).1]
      · rw [L6, (zI b (by omega) (by omega) (by omega) (by omega)).2]
      · funext j
        rw [P6, if_neg (by omega), if_neg (by omega)]
        exact zP b j (by omega)
      · rw [L6]
        exact zA.2.2 Bz.2.2.2.2.1
      · rw [I6b 77 (by omega) (by omega), (zI 77 (by omega) (by omega) (by omega) (by omega)).1]
        exact cX.2.2.2.2.2.2.2
      · rw [P6, if_pos ⟨rfl, rfl⟩]
        exact congrArg some (by omega)
      · by_cases c : 3 = o
        · exact WC_of w3 (by rw [I6b _ (by omega) (by omega), (zI _ (by omega) (by omega) (by omega) (by omega)).1]) (by rw [I6b _ (by omega) (by omega), (zI _ (by omega) (by omega) (by omega) (by omega)).1])
        · have e : 3 = 23 - o := by omega
          rw [e]
          exact WC_of (WC_D zW wD) (I6b _ (by omega) (by omega)) (I6b _ (by omega) (by omega))
      · by_cases c : 20 = o
        · exact WC_of w20 (by rw [I6b _ (by omega) (by omega), (zI _ (by omega) (by omega) (by omega) (by omega)).1]) (by rw [I6b _ (by omega) (by omega), (zI _ (by omega) (by omega) (by omega) (by omega)).1])
        · have e : 20 = 23 - o := by omega
          rw [e]
          exact WC_of (WC_D zW wD) (I6b _ (by omega) (by omega)) (I6b _ (by omega) (by omega))
      · rw [I6 37 16 (by omega) (by omega)]
        exact Bz.2.2.2.2.2.2.2.2.2.2.2.2.1.1
  · refine Or.inl ⟨hv, ?_⟩
    rw [en, cv_e]
