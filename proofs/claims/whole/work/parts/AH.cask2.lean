/-! ===== the class asked: what it reads, what stands behind ===== -/
def fAq (o P : Nat) (h h' : am_H) : Prop := am_S h' = am_S h ∧ am_G h' = am_G h ∧ am_T h' = am_T h ∧ (∀ b p, o + 6 ≤ b → b ≤ o + 10 → p < P → am_I h' b p = am_I h b p) ∧ (∀ b, o < b → b < o + 17 → (b < o + 6 ∨ o + 10 < b) → am_I h' b = am_I h b) ∧ (∀ b, o ≤ b → b < o + 17 → am_L h' b = am_L h b) ∧ (∀ j, j ≠ 3 → am_I h' o j = am_I h o j) ∧ (∀ b, b ≠ 1 → b ≠ 37 → b ≠ 38 → b ≠ 39 → (b < o ∨ o + 17 ≤ b) → (b < 61 ∨ 74 ≤ b) → am_I h' b = am_I h b ∧ am_L h' b = am_L h b) ∧ (∀ b j, ¬ (b = 37 ∧ j = 2) → ¬ (b = 61 ∧ j = 0) → am_P h' b j = am_P h b j) ∧ (∀ j, j ≠ 1 → j ≠ 2 → am_I h' 1 j = am_I h 1 j)
theorem fAq_lc {o P : Nat} {h h' : am_H} (q : fAq o P h h') (H : LcAt h) : LcAt h' := LcAt_of H q.1 (fun b j p => q.2.2.2.2.2.2.2.2.1 b j (fun e => p (Or.inr (Or.inl e))) (fun e => p (Or.inr (Or.inr (Or.inr (Or.inl e))))))
theorem fAq_t {o P : Nat} {a b c : am_H} (h1 : fAq o P a b) (h2 : fAq o P b c) : fAq o P a c := by
  obtain ⟨a1, a2, a3, a4, a5, a6, a7, a8, a9, a10⟩ := h1
  obtain ⟨b1, b2, b3, b4, b5, b6, b7, b8, b9, b10⟩ := h2
  exact ⟨b1.trans a1, b2.trans a2, b3.trans a3, fun b p r s t => (b4 b p r s t).trans (a4 b p r s t), fun b r s t => (b5 b r s t).trans (a5 b r s t), fun b r s => (b6 b r s).trans (a6 b r s), fun j p => (b7 j p).trans (a7 j p), fun b p q r s t u => ⟨(b8 b p q r s t u).1.trans (a8 b p q r s t u).1, (b8 b p q r s t u).2.trans (a8 b p q r s t u).2⟩, fun b j p q => (b9 b j p q).trans (a9 b j p q), fun j p q => (b10 j p q).trans (a10 j p q)⟩
/-- cells of the trial saturation and the extents alone -/
def fSx (h h' : am_H) : Prop := am_S h' = am_S h ∧ am_G h' = am_G h ∧ am_T h' = am_T h ∧ (∀ b, b < 61 ∨ 74 ≤ b → am_I h' b = am_I h b ∧ am_L h' b = am_L h b) ∧ (∀ b j, ¬ (b = 61 ∧ j = 0) → am_P h' b j = am_P h b j)
theorem fSx_r (h : am_H) : fSx h h := ⟨rfl, rfl, rfl, fun _ _ => ⟨rfl, rfl⟩, fun _ _ _ => rfl⟩
theorem fSx_t {a b c : am_H} (h1 : fSx a b) (h2 : fSx b c) : fSx a c := ⟨h2.1.trans h1.1, h2.2.1.trans h1.2.1, h2.2.2.1.trans h1.2.2.1, fun b p => ⟨(h2.2.2.2.1 b p).1.trans (h1.2.2.2.1 b p).1, (h2.2.2.2.1 b p).2.trans (h1.2.2.2.1 b p).2⟩, fun b j p => (h2.2.2.2.2 b j p).trans (h1.2.2.2.2 b j p)⟩
theorem fA_Sx {h h' : am_H} (q : fA 61 h h') : fSx h h' := ⟨q.1, q.2.1, q.2.2.1, fun b p => q.2.2.2.1 b (by omega), fun b j p => q.2.2.2.2 b j (by omega)⟩
theorem fSx_lc {h h' : am_H} (q : fSx h h') (H : LcAt h) : LcAt h' := LcAt_of H q.1 (fun b j p => q.2.2.2.2 b j (fun e => p (Or.inr (Or.inr (Or.inr (Or.inl e))))))
theorem fSx_q {o : Nat} (ho : o = 3 ∨ o = 20) (P : Nat) {h h' : am_H} (q : fSx h h') : fAq o P h h' := ⟨q.1, q.2.1, q.2.2.1, fun b p r s _ => by rw [(q.2.2.2.1 b (by omega)).1], fun b r s _ => (q.2.2.2.1 b (by omega)).1, fun b r s => (q.2.2.2.1 b (by omega)).2, fun j _ => by rw [(q.2.2.2.1 o (by omega)).1], fun b _ _ _ _ _ t => q.2.2.2.1 b t, fun b j _ t => q.2.2.2.2 b j t, fun j _ _ => by rw [(q.2.2.2.1 1 (by omega)).1]⟩
theorem fSx_on {o : Nat} (ho : o = 3 ∨ o = 20) {O : o_T} {h h' : am_H} (q : fSx h h') (H : OnR h o O) : OnR h' o O := OnR_of H q.1 (fun j hj => by funext i; exact q.2.2.2.2 _ i (by omega)) (fun j hj => (q.2.2.2.1 _ (by omega)).1)
/-- the count of parts as it was: all is as it was -/
theorem CT_back {h h' : am_H} {o : Nat} {O : o_T} {B : Nat → Prop} {x : XT} {WN WR : Nat → Nat → Nat} (C : CT h o O B x WN WR) (q : fAq o (o_P O) h h') (e3 : am_I h' o 3 = nI (o_P O)) {p : Int32} (v11 : am_I h' 1 1 = 0) (v12 : am_I h' 1 2 = p) (k16 : ∃ k, k ≤ 400 ∧ am_I h' 37 16 = nI k) : gC h h' ∧ CT h' o O B (xe p x) WN WR := by
  have CC := C
  obtain ⟨cB, cX, cS, cW, cP, w3, w20, ck, w⟩ := C
  have H' := fAq_lc q cB.1
  obtain ⟨q1, q2, q3, q4, q5, q6, q7, q8, q9, q10⟩ := q
  have ho := cB.2.2.1
  obtain ⟨r1, ok, r3, r4, r5, r6, r7, r8⟩ := cB.2.2.2.1
  have hR : OnR h' o O := by
    refine ⟨Lc_on H' ho, ok, e3, by rw [q7 9 (by omega)]; exact r4, by rw [q5 (o + 1) (by omega) (by omega) (by omega)]; exact r5, by rw [q5 (o + 3) (by omega) (by omega) (by omega)]; exact r6, fun i hi => ?_, fun k hk => ?_⟩
    · rw [q4 (o + 6) i (by omega) (by omega) hi, q4 (o + 7) i (by omega) (by omega) hi, q4 (o + 8) i (by omega) (by omega) hi]
      exact r7 i hi
    · rw [q5 (o + 11) (by omega) (by omega) (by omega), q5 (o + 12) (by omega) (by omega) (by omega), q5 (o + 13) (by omega) (by omega) (by omega), q5 (o + 14) (by omega) (by omega) (by omega)]
      exact r8 k hk
  have wc : ∀ b, b = 3 ∨ b = 20 → WC h b → WC h' b := fun b hb wb => by
    by_cases c : b = o
    · exact WC_of wb (q5 _ (by omega) (by omega) (by omega)) (q5 _ (by omega) (by omega) (by omega))
    · exact WC_of wb (q8 _ (by omega) (by omega) (by omega) (by omega) (by omega) (by omega)).1 (q8 _ (by omega) (by omega) (by omega) (by omega) (by omega) (by omega)).1
  refine ⟨⟨q1, q2, q3, fun b hb => ⟨(q8 b (by omega) (by omega) (by omega) (by omega) (by omega) (by omega)).1, (q8 b (by omega) (by omega) (by omega) (by omega) (by omega) (by omega)).2, by funext j; exact q9 b j (by omega) (by omega)⟩⟩, ?_, ?_, ?_, ?_, ?_, wc 3 (Or.inl rfl) w3, wc 20 (Or.inr rfl) w20, k16, w⟩
  · refine CB_o cB H' q1 hR (fun m hm => ?_) ?_ (fun b hb => ⟨?_, ?_, ?_⟩) ?_ ?_ ?_
    · rw [q5 (o + 5) (by omega) (by omega) (by omega)]
      exact cB.2.2.2.2.1 m hm
    · rw [q6 o (by omega) (by omega)]
    · exact (q8 b (by omega) (by omega) (by omega) (by omega) (by omega) (by omega)).1
    · exact (q8 b (by omega) (by omega) (by omega) (by omega) (by omega) (by omega)).2
    · funext j
      exact q9 b j (by omega) (by omega)
    · rw [q9 1 3 (by omega) (by omega)]
      exact cB.2.1
    · exact q10 8 (by omega) (by omega)
    · exact q10 9 (by omega) (by omega)
  · exact CX_xe cX v11 v12 (q10 7 (by omega) (by omega)) ⟨(q8 40 (by omega) (by omega) (by omega) (by omega) (by omega) (by omega)).1, (q8 77 (by omega) (by omega) (by omega) (by omega) (by omega) (by omega)).1⟩
  · refine ⟨fun k hk => ?_, fun i hi => ?_⟩
    · rw [q5 (o + 15) (by omega) (by omega) (by omega), q5 (o + 16) (by omega) (by omega) (by omega)]
      exact cS.1 k hk
    · rw [q4 (o + 9) i (by omega) (by omega) hi, q4 (o + 10) i (by omega) (by omega) hi]
      exact cS.2 i hi
  · unfold OnW WoR
    rw [q6 (o + 1 + 1) (by omega) (by omega), q6 (o + 3 + 1) (by omega) (by omega)]
    exact cW
  · rw [q9 1 4 (by omega) (by omega)]
    exact cP
theorem Lc_asked {h : am_H} {o : Nat} {O : o_T} {B : Nat → Prop} {x : XT} {WN WR : Nat → Nat → Nat} (C : CT h o O B x WN WR) {n : Nat} (hn : n ≤ x.2.1) (two : Bool) (d : Nat) : ∃ v z s, f_Re_open (d + 10) h 37 (nI n) o 1 = some (.inr none, v) ∧ f_rdQ two (d + 10) v = some (.inr none, z) ∧ f_Lc_takeQuestion (d + 10) z 1 = some (.inr none, s) ∧ LcAt v ∧ LcAt z ∧ fAq o (o_P O) h s ∧ am_I s 1 1 = 0 ∧ am_I s 1 2 = am_I s 37 10 ∧ (∃ k, k ≤ 400 ∧ am_I s 37 16 = nI k) ∧ ((∃ e, spA two x.1 n (O, WN, WR) = .inl e ∧ am_I s 37 9 = nI e.1 ∧ am_I s 37 10 = nI e.2) ∨ (∃ D c e, spA two x.1 n (O, WN, WR) = .inr (D, c, e) ∧ am_I s 37 9 = 0 ∧ am_I s 37 10 = -1 ∧ OnR s o D.1 ∧ OnN s o D.1 ∧ am_I s 37 12 = nI c ∧ (two = true → am_I s 37 13 = nI e))) := by
  obtain ⟨dW, dP, dA, d60⟩ := CT_D C
  obtain ⟨cB, cX, cS, cW, cP, w3, w20, ck, w⟩ := C
  have H := cB.1
  have ho := cB.2.2.1
  have n4 := cX.1
  obtain ⟨v, ev, qv, deep, k, K, hk, Bv⟩ := Re_opens H ho (n := n) (T := x.1) (D := (O, WN, WR)) (by omega) (fun i hi => cX.2.2.1 i (by omega)) true dW dP d60 ⟨dA.1, dA.2, fun c => absurd c (by decide)⟩ ck (d + 7)
  have X := Re_que Bv w two (d + 3)
  have Hv := Bv.1
  have okq := spA_k (two := two) (T := x.1) (n := n) (by omega) w
  have v3 : am_I v 37 3 = 1 := Bv.2.2.2.2.1
  have fin : ∀ z, f_rdQ two (d + 10) v = some (.inr none, z) → fQc o v z → (∃ k, k ≤ 400 ∧ am_I z 37 16 = nI k) → ∃ s, s = am_sI (am_sI z 1 1 0) 1 2 (am_I z 37 10) ∧ f_Lc_takeQuestion (d + 10) z 1 = some (.inr none, s) ∧ LcAt z ∧ fAq o (o_P O) h s ∧ am_I s 1 1 = 0 ∧ am_I s 1 2 = am_I s 37 10 ∧ (∃ k, k ≤ 400 ∧ am_I s 37 16 = nI k) ∧ (∀ b, b ≠ 1 → am_I s b = am_I z b) ∧ am_L s = am_L z ∧ am_P s = am_P z ∧ am_S s = am_S z := by
    intro z ez qz kz
    have Hz := fQc_lc qz Hv
    have H1 : LcAt (am_sI z 1 1 0) := LcAt_of Hz rfl (fun _ _ _ => rfl)
    obtain ⟨s, es⟩ : ∃ s, s = am_sI (am_sI z 1 1 0) 1 2 (am_I z 37 10) := ⟨_, rfl⟩
    have sb : ∀ b, b ≠ 1 → am_I s b = am_I z b := fun b p => by
      rw [es]
      funext j
      rw [pc_I_I, if_neg (fun e => p e.1), pc_I_I, if_neg (fun e => p e.1)]
    have sj : ∀ j, j ≠ 1 → j ≠ 2 → am_I s 1 j = am_I z 1 j := fun j p r => by rw [es, pc_I_I, if_neg (by omega), pc_I_I, if_neg (by omega)]
    have sL : am_L s = am_L z := by rw [es]; rfl
    have sP : am_P s = am_P z := by rw [es]; rfl
    obtain ⟨f1, f2, f3, f4⟩ := qz.2.2.2.2.2.2 ho v3
    have vb : ∀ b, b ≠ 37 → am_I v b = am_I h b ∧ am_L v b = am_L h b ∧ am_P v b = am_P h b := qv.2.2.2.1
    have vo3 : am_I v o 3 = nI (o_P O) := by rw [(vb o (by omega)).1]; exact dP.1
    obtain ⟨-, g1⟩ := f1 (o_P O) d60 vo3
    refine ⟨s, es, ?_, Hz, ⟨?_, ?_, ?_, fun b p r t u => ?_, fun b r t u => ?_, fun b r t => ?_, fun j p => ?_, fun b p1 p2 p3 p4 p5 p6 => ⟨?_, ?_⟩, fun b j p1 p2 => ?_, fun j p1 p2 => ?_⟩, ?_, ?_, ?_, sb, sL, sP, by rw [es]; rfl⟩
    · rw [e_Lc_takeQuestion, lz_k (Lc_k1 Hz), lz_p (Lc_k1 H1) (Lc_p1_5 H1), lz_i (v := am_I z 37 10) (Lc_k37 H1) (by rw [pc_I_I, if_neg (by omega)]), lz_k (Lc_k1 H1), es]
    · rw [es]; exact qz.1.trans qv.1
    · rw [es]; exact qz.2.1.trans qv.2.1
    · rw [es]; exact qz.2.2.1.trans qv.2.2.1
    · rw [sb b (by omega), g1 b p r t u, (vb b (by omega)).1]
    · rw [sb b (by omega), f2 b r t u, (vb b (by omega)).1]
    · rw [sL, f3 b r t, (vb b (by omega)).2.1]
    · rw [sb o (by omega), f4 j p, (vb o (by omega)).1]
    · rw [sb b p1, (qz.2.2.2.2.1 b p2 p3 p4 p5).1, (vb b p2).1]
    · rw [sL, (qz.2.2.2.2.1 b p2 p3 p4 p5).2, (vb b p2).2.1]
    · rw [sP, qz.2.2.2.1]
      by_cases e : b = 37
      · subst e
        exact qv.2.2.2.2 j (fun e => p1 ⟨rfl, e⟩)
      · rw [(vb b e).2.2]
    · rw [sj j p1 p2, (qz.2.2.2.2.1 1 (by omega) (by omega) (by omega) (by omega)).1, (vb 1 (by omega)).1]
    · rw [es, pc_I_I, if_neg (by omega), pc_I_I, if_pos ⟨rfl, rfl⟩]
    · rw [sb 37 (by omega), es, pc_I_I, if_pos ⟨rfl, rfl⟩]
    · rw [sb 37 (by omega)]
      exact kz
  cases e : spA two x.1 n (O, WN, WR) with
  | inl r =>
    rw [e] at X
    obtain ⟨z, ez, fz⟩ := X
    obtain ⟨s, es, t1, t2, t3, t4, t5, t6, sb, sL, sP, sS⟩ := fin z ez fz.1 fz.2.2.2
    exact ⟨v, z, s, ev, ez, t1, Hv, t2, t3, t4, t5, t6, Or.inl ⟨r, rfl, by rw [sb 37 (by omega)]; exact fz.2.1, by rw [sb 37 (by omega)]; exact fz.2.2.1⟩⟩
  | inr y =>
    obtain ⟨D, c, e'⟩ := y
    rw [e] at X okq
    obtain ⟨z, ez, qz, ⟨p, K', Bz⟩, z12, z13⟩ := X
    replace Bz : PB z o x.1 n true D p 0 0 K' := Bz
    obtain ⟨s, es, t1, t2, t3, t4, t5, t6, sb, sL, sP, sS⟩ := fin z ez qz ⟨0, by omega, Bz.2.2.2.2.2.2.2.2.2.2.2.2.1.1⟩
    obtain ⟨wD, D60, -, -, -⟩ := okq
    replace wD : wfD D no_x := wD
    replace D60 : o_P D.1 ≤ 60 := D60
    have zP : OnDP z o D := by
      rcases Bz.2.2.2.2.2.2.2.2.2.2.2.1 with c | c
      · exact c.2.2
      · exact absurd c.1 (by omega)
    have zA := Bz.2.2.2.2.2.2.2.2.2.2.1
    have Hs := fAq_lc t3 H
    obtain ⟨r1, r2, -, -⟩ := On_mk (h := s) (o := o) (D := D) (Lc_on Hs ho) wD D60 (OnDW_of Bz.2.2.2.2.2.2.2.2.2.1 (sb _ (by omega)) (sb _ (by omega)) (by rw [sL]) (by rw [sL])) (OnDP_of zP (by rw [sb _ (by omega)]) (fun j _ _ => sb _ (by omega))) ⟨by rw [sb _ (by omega)]; exact zA.1, fun i hi => by
      rw [sb _ (by omega), sb _ (by omega), sb _ (by omega), sb _ (by omega), sb _ (by omega), sb _ (by omega)]
      exact zA.2.1 i hi⟩
    exact ⟨v, z, s, ev, ez, t1, Hv, t2, t3, t4, t5, t6, Or.inr ⟨D, c, e', rfl, by rw [sb 37 (by omega)]; exact Bz.2.2.2.2.2.1, by rw [sb 37 (by omega)]; exact Bz.2.2.2.2.2.2.1, r1, r2, by rw [sb 37 (by omega)]; exact z12, fun c => by rw [sb 37 (by omega)]; exact z13 c⟩⟩
/-- the place that a question leaves -/
def q_pl (r : QRs) : Int32 := match r with
  | .inl e => nI e.2
  | .inr _ => -1
noncomputable def q_ask (B : Nat → Prop) (r : QRs) : Value := match r with
  | .inl e => .int (nI e.1 - 10)
  | .inr y => .int (bo (pd (l_be y.1.1 B y.2.1 y.2.2)))
/-- the count set back -/
theorem CT_3 {h s : am_H} {o : Nat} {O : o_T} {B : Nat → Prop} {x : XT} {WN WR : Nat → Nat → Nat} (C : CT h o O B x WN WR) (q : fAq o (o_P O) h s) {p : Int32} (v11 : am_I s 1 1 = 0) (v12 : am_I s 1 2 = p) (k16 : ∃ k, k ≤ 400 ∧ am_I s 37 16 = nI k) : gC h (am_sI s o 3 (nI (o_P O))) ∧ CT (am_sI s o 3 (nI (o_P O))) o O B (xe p x) WN WR := by
  have ho := C.1.2.2.1
  have sb : ∀ b j, b ≠ o → am_I (am_sI s o 3 (nI (o_P O))) b j = am_I s b j := fun b j p => by rw [pc_I_I, if_neg (fun e => p e.1)]
  have q2 : fAq o (o_P O) s (am_sI s o 3 (nI (o_P O))) := ⟨rfl, rfl, rfl, fun b i p r _ => sb b i (by omega), fun b p _ _ => by funext j; exact sb b j (by omega), fun _ _ _ => rfl, fun j p => by rw [pc_I_I, if_neg (by omega)], fun b _ _ _ _ p _ => ⟨by funext j; exact sb b j (by omega), rfl⟩, fun _ _ _ _ => rfl, fun j _ _ => sb 1 j (by omega)⟩
  exact CT_back C (fAq_t q q2) (by rw [pc_I_I, if_pos ⟨rfl, rfl⟩]) ((sb 1 1 (by omega)).trans v11) ((sb 1 2 (by omega)).trans v12) (by
    obtain ⟨k, hk, e⟩ := k16
    exact ⟨k, hk, (sb 37 16 (by omega)).trans e⟩)
theorem Lc_ask {h : am_H} {o : Nat} {O : o_T} {B : Nat → Prop} {x : XT} {WN WR : Nat → Nat → Nat} (C : CT h o O B x WN WR) (i : Int32) (d : Nat) : (¬ vi (x.2.1 + 1) i ∧ f_Lc_ask (d + 11) h 1 i = some (.inl 1, cr 1 h)) ∨ (∃ n, n ≤ x.2.1 ∧ i = nI n ∧ ∃ h', f_Lc_ask (d + 11) h 1 i = some (.inr (some (q_ask B (spA true x.1 n (O, WN, WR)))), h') ∧ gC h h' ∧ CT h' o O B (xe (q_pl (spA true x.1 n (O, WN, WR))) x) WN WR) := by
  have cB := C.1
  have H := cB.1
  have ho := cB.2.2.1
  have n4 := C.2.1.1
  rw [e_Lc_ask, lz_k (Lc_k1 H)]
  rcases Lc_nb H C.2.1 i (d + 9) with ⟨n, hn, ei, en⟩ | ⟨hv, en⟩
  · refine Or.inr ⟨n, hn, ei, ?_⟩
    obtain ⟨v, z, s, ev, ez, es, Hv, Hz, qs, s11, s12, k16, X⟩ := Lc_asked C hn true d
    have okq := spA_k (two := true) (T := x.1) (n := n) (by omega) C.2.2.2.2.2.2.2.2
    have Hs := fAq_lc qs H
    have ps : ∀ j, am_P s 1 j = am_P h 1 j := fun j => qs.2.2.2.2.2.2.2.2.1 1 j (by omega) (by omega)
    have ez' : f_Re_readQuestion (d + 10) v 37 = some (.inr none, z) := ez
    rw [ei] at en ⊢
    rw [lz_cv en, lz_p (Lc_k1 H) cB.2.1, lz_i (On_k (Lc_on H ho)) cB.2.2.2.1.2.2.1, lz_p (Lc_k1 H) (Lc_p1_5 H), lz_p (Lc_k1 H) cB.2.1, lz_k (Lc_k37 H), lz_cv ev, lz_p (Lc_k1 Hv) (Lc_p1_5 Hv), lz_k (Lc_k37 Hv), lz_cv ez', lz_k (Lc_k1 Hz), lz_cv es, lz_p (Lc_k1 Hs) (Lc_p1_5 Hs)]
    rcases X with ⟨e, ee, e9, e10⟩ | ⟨D, c, e, ee, e9, e10, oR, oN, e12, e13⟩
    · rw [ee] at okq ⊢
      obtain ⟨g, c⟩ := CT_3 C qs s11 (s12.trans e10) k16
      refine ⟨am_sI s o 3 (nI (o_P O)), ?_, g, c⟩
      rw [lz_i (Lc_k37 Hs) e9, lz_p (Lc_k1 Hs) (Lc_p1_5 Hs), lz_i (Lc_k37 Hs) e9, if_neg (nz6 okq.1 okq.2), lz_p (Lc_k1 Hs) ((ps 3).trans cB.2.1), lz_k (On_k (Lc_on Hs ho))]
      rfl
    · rw [ee] at okq ⊢
      obtain ⟨wD, D60, hc, he, xx⟩ := okq
      replace hc : c < o_P D.1 := hc
      replace he : e < o_P D.1 := he
      have sL : am_L s o 10 = wL B := by
        rw [qs.2.2.2.2.2.1 o (by omega) (by omega)]
        exact cB.2.2.2.2.2.1
      obtain ⟨m, b, em, qm, hb⟩ := Sa_entails (s := 61) (o := o) (O := D.1) (Lc_t Hs) oR (by omega) B hc he (d + 7)
      have qx := fA_Sx qm
      have Hm := fSx_lc qx Hs
      obtain ⟨g, c'⟩ := CT_3 (p := -1) C (fAq_t qs (fSx_q ho _ qx)) (by rw [(qx.2.2.2.1 1 (by omega)).1]; exact s11) (by rw [(qx.2.2.2.1 1 (by omega)).1]; exact s12.trans e10) (by
        rw [(qx.2.2.2.1 37 (by omega)).1]
        exact k16)
      have pm : am_P m 1 3 = some o := (qx.2.2.2.2 1 3 (by omega)).trans ((ps 3).trans cB.2.1)
      refine ⟨am_sI m o 3 (nI (o_P O)), ?_, g, c'⟩
      have p13 : am_P s 1 13 = some 61 := Lc_p1_13 Hs
      rw [lz_i (Lc_k37 Hs) e9, lz_p (Lc_k1 Hs) (Lc_p1_5 Hs), lz_i (Lc_k37 Hs) e9, if_pos rfl, lz_p (Lc_k1 Hs) p13, lz_p (Lc_k1 Hs) ((ps 3).trans cB.2.1), lz_p (Lc_k1 Hs) ((ps 3).trans cB.2.1), lz_l (On_k (Lc_on Hs ho)) sL, lz_p (Lc_k1 Hs) (Lc_p1_5 Hs), lz_i (Lc_k37 Hs) e12, lz_p (Lc_k1 Hs) (Lc_p1_5 Hs), lz_i (Lc_k37 Hs) (e13 rfl), lz_k (Sa_k (Lc_t Hs)), lz_ci em]
      show _ = some (Sum.inr (some (Value.int (bo (pd (l_be D.1 B c e))))), am_sI m o 3 (nI (o_P O)))
      rw [← pd_e hb]
      cases b with
      | true => rw [bo_t, if_neg (by decide), lz_p (Lc_k1 Hm) pm, lz_k (On_k (Lc_on Hm ho))]
      | false => rw [bo_f, if_pos rfl, lz_p (Lc_k1 Hm) pm, lz_k (On_k (Lc_on Hm ho))]
  · refine Or.inl ⟨hv, ?_⟩
    rw [en, cv_e]
