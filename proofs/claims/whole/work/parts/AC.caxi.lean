/-! ===== the class reads an axiom of concepts ===== -/
theorem Re_con {h : am_H} {o : Nat} {T : Nat → Nat} {n : Nat} {ak : Bool} {D : DT} {q deep k : Nat} {K : Nat → Nat × Nat} (B : PB h o T n ak D (sk T n q) deep k K) (w : wfD D no_x) (hq : q ≤ n) (d : Nat) : CO (f_Re_readConcept (d + 6) h 37) h o T n ak 0 0 K (spX ak T n 1000 1 0 q D 0) := by
  have H := B.1
  have n4 := B.2.2.2.1.1
  have w2 := w.2.2.1
  obtain ⟨z, ez⟩ : ∃ z, z = am_sI (am_sI h 37 16 0) 37 17 0 := ⟨_, rfl⟩
  have qz : fPc o h z := by
    rw [ez]
    exact fPc_t (fPc_i h (by omega) (by omega) _) (fPc_i _ (by omega) (by omega) _)
  have Bz : PB z o T n ak D (sk T n q) 0 0 K := by
    refine PB_37 B qz (fun b p1 _ _ => ?_) (by rw [ez]; rfl) (fun j p1 p2 => ?_) ⟨?_, fun i hi => absurd hi (Nat.not_lt_zero i)⟩ ?_
    · rw [ez]
      funext j
      rw [pc_I_I, if_neg (fun e => p1 e.1), pc_I_I, if_neg (fun e => p1 e.1)]
    · rw [ez, pc_I_I, if_neg (by omega), pc_I_I, if_neg (by omega)]
    · rw [ez, pc_I_I, if_neg (by omega), pc_I_I, if_pos ⟨rfl, rfl⟩]
      rfl
    · rw [ez, pc_I_I, if_pos ⟨rfl, rfl⟩]
      rfl
  have X := Re_X (ak := ak) (T := T) (n := n) (o := o) (d := d) 1000 1 0 q D 0 z 0 K 0 0 0 (by omega) Bz w (by omega) (fun c => absurd c (by omega)) hq (by omega) (by omega) (fun _ => by omega) (fun c => absurd c (by omega)) (fun _ => Or.inl rfl) (fun e he => spX_f 1000 1 0 q D 0 e (by omega) hq w (by omega) (by rw [if_pos rfl]; omega) he)
  have hF : rdC 1 d z 0 0 0 = f_Re_readConcept_12 (d + 6) z 37 (nI 0) := rfl
  have H1 : LcAt (am_sI h 37 16 0) := LcAt_of H rfl (fun _ _ _ => rfl)
  rw [hF] at X
  rw [e_Re_readConcept, lz_k (Lc_k37 H), lz_k (Lc_k37 H1), ← ez, show (0 : Int32) = nI 0 from rfl]
  cases e : spX ak T n 1000 1 0 q D 0 with
  | inl x =>
    rw [e] at X
    obtain ⟨u, y, eu, fu⟩ := KX_j X
    exact ⟨u, y, eu, FLT_t qz fu⟩
  | inr y =>
    obtain ⟨q', D', v⟩ := y
    rw [e] at X
    obtain ⟨u, y, g', gc', eu, qu, Bu, vu, hg, hgc, h7⟩ := KX_i X
    rw [eu, KK_e Bu (by omega) y (h7 (by omega)) (tk_13 T n _) g' d]
    exact ⟨u, y, rfl, fPc_t qz qu, Bu, vu⟩
theorem Re_exp {h : am_H} {o : Nat} {T : Nat → Nat} {n : Nat} {ak : Bool} {D : DT} {p deep k : Nat} {K : Nat → Nat × Nat} (B : PB h o T n ak D p deep k K) (w : wfD D no_x) (hk : k ≤ 400) {c : Nat} (hc : c ≤ 13) (d : Nat) : (tk T n p = c ∧ ∃ h', f_Re_expect (d + 3) h 37 (nI c) = some (.inr none, h') ∧ fPc o h h' ∧ PB h' o T n ak D (sk T n (nx T n p)) deep k K) ∨ (¬ tk T n p = c ∧ ∃ h', f_Re_expect (d + 3) h 37 (nI c) = some (.inr none, h') ∧ FLT h h' o T n (1, p)) := by
  have H := B.1
  have R := B.2.2.2.2.2.2.2.1
  have t13 := tk_13 T n p
  by_cases e : tk T n p = c
  · refine Or.inl ⟨e, ?_⟩
    obtain ⟨z, ez, qz, Bz⟩ := PB_st B d
    refine ⟨z, ?_, qz, Bz⟩
    rw [e_Re_expect, lz_i (Lc_k37 H) R.2.2.1, if_pos (by rw [e]), lz_i (Lc_k37 H) B.2.2.2.2.2.1, if_pos rfl, lz_k (Lc_k37 H), lz_cv ez]
  · refine Or.inr ⟨e, ?_⟩
    obtain ⟨z, ez, fz, -⟩ := PB_fl B w hk 1 p (d + 2)
    refine ⟨z, ?_, fz⟩
    rw [e_Re_expect, lz_i (Lc_k37 H) R.2.2.1, if_neg (by rw [nI_e32 (by omega) (by omega)]; exact e), lz_i (Lc_k37 H) R.2.2.2.1, lz_k (Lc_k37 H), n_1, lz_cv ez]
theorem Re_expN {h : am_H} (H : LcAt h) (e9 : ¬ am_I h 37 9 = 0) (i : Int32) (d : Nat) : f_Re_expect (d + 1) h 37 i = some (.inr none, h) := by
  rw [e_Re_expect, lz_i (Lc_k37 H) rfl]
  by_cases c : am_I h 37 5 = i
  · rw [if_pos c, lz_i (Lc_k37 H) rfl, if_neg e9]
  · rw [if_neg c, lz_i (Lc_k37 H) rfl, lz_k (Lc_k37 H), lz_cv (Re_flN H e9 _ _ d)]
theorem Re_tmN {h : am_H} (H : LcAt h) (e9 : ¬ am_I h 37 9 = 0) (i : Int32) (d : Nat) : f_Re_failIfTooManyParts (d + 1) h 37 i = some (.inr none, h) := by
  rw [e_Re_failIfTooManyParts, lz_i (Lc_k37 H) rfl]
  by_cases c : am_I h 37 11 = 0
  · rw [if_pos c]
  · rw [if_neg c, lz_k (Lc_k37 H), lz_cv (Re_flN H e9 _ _ d)]
theorem Re_tm {h : am_H} {o : Nat} {T : Nat → Nat} {n : Nat} {ak : Bool} {D : DT} {p deep k : Nat} {K : Nat → Nat × Nat} (B : PB h o T n ak D p deep k K) (w : wfD D no_x) (hk : k ≤ 400) (p0 d : Nat) : (o_P D.1 ≤ 60 ∧ f_Re_failIfTooManyParts (d + 1) h 37 (nI p0) = some (.inr none, h)) ∨ (60 < o_P D.1 ∧ ∃ h', f_Re_failIfTooManyParts (d + 1) h 37 (nI p0) = some (.inr none, h') ∧ FLT h h' o T n (5, p0)) := by
  have H := B.1
  rcases B.2.2.2.2.2.2.2.2.2.2.2.1 with ⟨a, b, -⟩ | ⟨a, b⟩
  · refine Or.inl ⟨a, ?_⟩
    rw [e_Re_failIfTooManyParts, lz_i (Lc_k37 H) b, if_pos rfl]
  · refine Or.inr ⟨a, ?_⟩
    obtain ⟨z, ez, fz, -⟩ := PB_fl B w hk 5 p0 d
    refine ⟨z, ?_, fz⟩
    rw [e_Re_failIfTooManyParts, lz_i (Lc_k37 H) b, if_neg (by decide), lz_k (Lc_k37 H), show (5 : Int32) = nI 5 from rfl, lz_cv ez]
/-- an axiom added -/
def fAd (o : Nat) (h h' : am_H) : Prop := am_S h' = am_S h ∧ am_G h' = am_G h ∧ am_T h' = am_T h ∧ am_P h' = am_P h ∧ (∀ b, b ≠ o → am_L h' b = am_L h b) ∧ (∀ b, b ≠ o → (b < o + 11 ∨ o + 17 ≤ b) → am_I h' b = am_I h b) ∧ (∀ j, j ≠ 9 → am_I h' o j = am_I h o j)
theorem On_addA {h : am_H} {o : Nat} {D : DT} {x : Nat → Prop} (H : OnAt h o) (ho : o = 3 ∨ o = 20) (w : wfD D x) (A : OnDA h o D) (a3 : am_I h 37 3 = 0) (h32 : o_A D.1 < 32) {k a b c : Nat} {sn sr : Int32} (hn : axn (o_addA D.1 k a b c) (o_A D.1) = sn) (hr : axr (o_addA D.1 k a b c) (o_A D.1) = sr) (d : Nat) : ∃ h', f_On_addAxiom d h o (nI k) (nI a) (nI b) (nI c) sn sr = some (.inr none, h') ∧ fAd o h h' ∧ OnDA h' o (d_addA D k a b c) := by
  obtain ⟨A1, A2, A3⟩ := A
  obtain ⟨s1, e1⟩ : ∃ s, s = am_sI h (o + 11) (o_A D.1) (nI k) := ⟨_, rfl⟩
  obtain ⟨s2, e2⟩ : ∃ s, s = am_sI s1 (o + 12) (o_A D.1) (nI a) := ⟨_, rfl⟩
  obtain ⟨s3, e3⟩ : ∃ s, s = am_sI s2 (o + 13) (o_A D.1) (nI b) := ⟨_, rfl⟩
  obtain ⟨s4, e4⟩ : ∃ s, s = am_sI s3 (o + 14) (o_A D.1) (nI c) := ⟨_, rfl⟩
  obtain ⟨s5, e5⟩ : ∃ s, s = am_sI s4 (o + 15) (o_A D.1) sn := ⟨_, rfl⟩
  obtain ⟨s6, e6⟩ : ∃ s, s = am_sI s5 (o + 16) (o_A D.1) sr := ⟨_, rfl⟩
  obtain ⟨s7, e7⟩ : ∃ s, s = am_sL s6 o 10 (am_L h o 10 ||| am_lshl 1 (nI (o_A D.1))) := ⟨_, rfl⟩
  have H1 : OnAt s1 o := by rw [e1]; exact H
  have H2 : OnAt s2 o := by rw [e2]; exact H1
  have H3 : OnAt s3 o := by rw [e3]; exact H2
  have H4 : OnAt s4 o := by rw [e4]; exact H3
  have H5 : OnAt s5 o := by rw [e5]; exact H4
  have H6 : OnAt s6 o := by rw [e6]; exact H5
  have H7 : OnAt s7 o := by rw [e7]; exact H6
  have r1 : ∀ b j, b ≠ o + 11 → am_I s1 b j = am_I h b j := fun b j q => by rw [e1, pc_I_I, if_neg (fun e => q e.1)]
  have r2 : ∀ b j, b ≠ o + 12 → am_I s2 b j = am_I s1 b j := fun b j q => by rw [e2, pc_I_I, if_neg (fun e => q e.1)]
  have r3 : ∀ b j, b ≠ o + 13 → am_I s3 b j = am_I s2 b j := fun b j q => by rw [e3, pc_I_I, if_neg (fun e => q e.1)]
  have r4 : ∀ b j, b ≠ o + 14 → am_I s4 b j = am_I s3 b j := fun b j q => by rw [e4, pc_I_I, if_neg (fun e => q e.1)]
  have r5 : ∀ b j, b ≠ o + 15 → am_I s5 b j = am_I s4 b j := fun b j q => by rw [e5, pc_I_I, if_neg (fun e => q e.1)]
  have r6 : ∀ b j, b ≠ o + 16 → am_I s6 b j = am_I s5 b j := fun b j q => by rw [e6, pc_I_I, if_neg (fun e => q e.1)]
  have r7 : ∀ b j, am_I s7 b j = am_I s6 b j := fun b j => by rw [e7]; rfl
  have v1 : am_I s1 o 9 = nI (o_A D.1) := by rw [r1 _ _ (by omega)]; exact A1
  have v2 : am_I s2 o 9 = nI (o_A D.1) := by rw [r2 _ _ (by omega)]; exact v1
  have v3 : am_I s3 o 9 = nI (o_A D.1) := by rw [r3 _ _ (by omega)]; exact v2
  have v4 : am_I s4 o 9 = nI (o_A D.1) := by rw [r4 _ _ (by omega)]; exact v3
  have v5 : am_I s5 o 9 = nI (o_A D.1) := by rw [r5 _ _ (by omega)]; exact v4
  have v6 : am_I s6 o 9 = nI (o_A D.1) := by rw [r6 _ _ (by omega)]; exact v5
  have v7 : am_I s7 o 9 = nI (o_A D.1) := by rw [r7]; exact v6
  have l6 : am_L s6 = am_L h := by rw [e6, show am_L (am_sI s5 (o + 16) (o_A D.1) sr) = am_L s5 from rfl, e5, show am_L (am_sI s4 (o + 15) (o_A D.1) sn) = am_L s4 from rfl, e4, show am_L (am_sI s3 (o + 14) (o_A D.1) (nI c)) = am_L s3 from rfl, e3, show am_L (am_sI s2 (o + 13) (o_A D.1) (nI b)) = am_L s2 from rfl, e2, show am_L (am_sI s1 (o + 12) (o_A D.1) (nI a)) = am_L s1 from rfl, e1]; rfl
  have tot : ∀ b j, b ≠ o + 11 → b ≠ o + 12 → b ≠ o + 13 → b ≠ o + 14 → b ≠ o + 15 → b ≠ o + 16 → am_I s7 b j = am_I h b j := fun b j p1 p2 p3 p4 p5 p6 => by rw [r7, r6 _ _ p6, r5 _ _ p5, r4 _ _ p4, r3 _ _ p3, r2 _ _ p2, r1 _ _ p1]
  have col : ∀ (s : am_H) (b i A : Nat) (v : Int32), am_I (am_sI s b A v) b i = if i = A then v else am_I s b i := fun s b i A v => by
    rw [pc_I_I]
    by_cases e : i = A
    · rw [if_pos ⟨rfl, e⟩, if_pos e]
    · rw [if_neg (fun q => e q.2), if_neg e]
  have c11 : ∀ i, am_I s7 (o + 11) i = if i = o_A D.1 then nI k else am_I h (o + 11) i := fun i => by rw [r7, r6 _ _ (by omega), r5 _ _ (by omega), r4 _ _ (by omega), r3 _ _ (by omega), r2 _ _ (by omega), e1, col]
  have c12 : ∀ i, am_I s7 (o + 12) i = if i = o_A D.1 then nI a else am_I h (o + 12) i := fun i => by rw [r7, r6 _ _ (by omega), r5 _ _ (by omega), r4 _ _ (by omega), r3 _ _ (by omega), e2, col, r1 _ _ (by omega)]
  have c13 : ∀ i, am_I s7 (o + 13) i = if i = o_A D.1 then nI b else am_I h (o + 13) i := fun i => by rw [r7, r6 _ _ (by omega), r5 _ _ (by omega), r4 _ _ (by omega), e3, col, r2 _ _ (by omega), r1 _ _ (by omega)]
  have c14 : ∀ i, am_I s7 (o + 14) i = if i = o_A D.1 then nI c else am_I h (o + 14) i := fun i => by rw [r7, r6 _ _ (by omega), r5 _ _ (by omega), e4, col, r3 _ _ (by omega), r2 _ _ (by omega), r1 _ _ (by omega)]
  have c15 : ∀ i, am_I s7 (o + 15) i = if i = o_A D.1 then sn else am_I h (o + 15) i := fun i => by rw [r7, r6 _ _ (by omega), e5, col, r4 _ _ (by omega), r3 _ _ (by omega), r2 _ _ (by omega), r1 _ _ (by omega)]
  have c16 : ∀ i, am_I s7 (o + 16) i = if i = o_A D.1 then sr else am_I h (o + 16) i := fun i => by rw [r7, e6, col, r5 _ _ (by omega), r4 _ _ (by omega), r3 _ _ (by omega), r2 _ _ (by omega), r1 _ _ (by omega)]
  have fr : ∀ b, b ≠ o → ∀ j, am_I (am_sI s7 o 9 (nI (o_A D.1 + 1))) b j = am_I s7 b j := fun b q j => by rw [pc_I_I, if_neg (fun e => q e.1)]
  have s7S : am_S s7 = am_S h ∧ am_G s7 = am_G h ∧ am_T s7 = am_T h ∧ am_P s7 = am_P h := by
    rw [e7, e6, e5, e4, e3, e2, e1]
    exact ⟨rfl, rfl, rfl, rfl⟩
  refine ⟨am_sI s7 o 9 (nI (o_A D.1 + 1)), ?_, ⟨s7S.1, s7S.2.1, s7S.2.2.1, s7S.2.2.2, fun b p => ?_, fun b p q => ?_, fun j p => ?_⟩, ?_, fun i hi => ?_, fun _ => ?_⟩
  · rw [e_On_addAxiom, lz_i (On_k H) A1, if_pos (by rw [show (32 : Int32) = nI 32 from rfl, n_lt _ _ (by omega) (by omega)]; exact h32), lz_p (On_k H) (On_p11 H), lz_i (On_k H) A1, On_r11 H h32, ← e1, lz_p (On_k H1) (On_p12 H1), lz_i (On_k H1) v1, On_r12 H1 h32, ← e2, lz_p (On_k H2) (On_p13 H2), lz_i (On_k H2) v2, On_r13 H2 h32, ← e3, lz_p (On_k H3) (On_p14 H3), lz_i (On_k H3) v3, On_r14 H3 h32, ← e4, lz_p (On_k H4) (On_p15 H4), lz_i (On_k H4) v4, On_r15 H4 h32, ← e5, lz_p (On_k H5) (On_p16 H5), lz_i (On_k H5) v5, On_r16 H5 h32, ← e6, lz_l (On_k H6) (show am_L s6 o 10 = am_L h o 10 by rw [l6]), lz_i (On_k H6) v6, lz_k (On_k H6), ← e7, lz_i (On_k H7) v7, lz_k (On_k H7), nI_1]
  · show am_L s7 b = am_L h b
    rw [e7]
    funext j
    rw [pc_L_L, if_neg (fun e => p e.1), l6]
  · funext j
    rw [fr b p, tot b j (by omega) (by omega) (by omega) (by omega) (by omega) (by omega)]
  · rw [pc_I_I, if_neg (by omega), tot o j (by omega) (by omega) (by omega) (by omega) (by omega) (by omega)]
  · rw [pc_I_I, if_pos ⟨rfl, rfl⟩]
    rfl
  · have hi2 : i < o_A D.1 + 1 := hi
    rw [fr _ (by omega), fr _ (by omega), fr _ (by omega), fr _ (by omega), fr _ (by omega), fr _ (by omega), c11, c12, c13, c14, c15, c16]
    show _ = nI (o_ak (o_addA D.1 k a b c) i) ∧ _ = nI (o_a1 (o_addA D.1 k a b c) i) ∧ _ = nI (o_a2 (o_addA D.1 k a b c) i) ∧ _ = nI (o_a3 (o_addA D.1 k a b c) i) ∧ _ = axn (o_addA D.1 k a b c) i ∧ _ = axr (o_addA D.1 k a b c) i
    by_cases e : i = o_A D.1
    · obtain ⟨n1, n2, n3, n4⟩ := aA_n D.1 k a b c
      rw [if_pos e, if_pos e, if_pos e, if_pos e, if_pos e, if_pos e, e, n1, n2, n3, n4, hn, hr]
      exact ⟨rfl, rfl, rfl, rfl, rfl, rfl⟩
    · have ea := aA_o (O := D.1) (k := k) (a := a) (b := b) (c := c) (p := i) e
      have lt : i < o_A D.1 := by omega
      obtain ⟨x1, x2⟩ := ax_e (O := D.1) (O' := o_addA D.1 k a b c) (P := o_P D.1) w.2.2.2.2.2.2.1 (fun p _ => ⟨rfl, rfl, rfl⟩) (k := i) ea (fun cc => by
        have := w.2.2.2.2.2.2.2.1 i lt
        unfold o_okA at this
        omega)
      rw [if_neg e, if_neg e, if_neg e, if_neg e, if_neg e, if_neg e, ea.1, ea.2.1, ea.2.2.1, ea.2.2.2, x1, x2]
      exact A2 i lt
  · show am_L s7 o 10 = wL (fun i => i < o_A D.1 + 1)
    rw [e7, pc_L_L, if_pos ⟨rfl, rfl⟩, A3 a3, wL_put (by omega)]
    exact wL_cong (fun i _ => by omega)
theorem PB_addA {h h' : am_H} {o : Nat} {T : Nat → Nat} {n : Nat} {D : DT} {p deep k : Nat} {K : Nat → Nat × Nat} {x : Nat → Prop} (B : PB h o T n false D p deep k K) (w : wfD D x) (q : fAd o h h') {k1 a b c : Nat} (A : OnDA h' o (d_addA D k1 a b c)) : fPc o h h' ∧ PB h' o T n false (d_addA D k1 a b c) p deep k K := by
  obtain ⟨b1, b2, b3, b4, b5, b6, b7, b8, b9, b10, b11, b12, b13, b14⟩ := B
  obtain ⟨q1, q2, q3, q4, q5, q6, q7⟩ := q
  have qI : ∀ b, b ≠ o → (b < o + 11 ∨ o + 17 ≤ b) → am_I h' b = am_I h b := q6
  have f : fPc o h h' := ⟨q1, q2, q3, q4, fun b _ _ _ r => ⟨qI b (by omega) (by omega), q5 b (by omega)⟩, fun j _ => by rw [qI 37 (by omega) (by omega)], by rw [qI 37 (by omega) (by omega)], fun _ z => absurd (b5.symm.trans z) (by decide)⟩
  refine ⟨f, fPc_lc f b1, by rw [q4]; exact b2, b3, ?_, ?_, ?_, ?_, ?_, b9, OnDW_of b10 (qI _ (by omega) (by omega)) (qI _ (by omega) (by omega)) (q5 _ (by omega)) (q5 _ (by omega)), A, ?_, StR_of b13 (by rw [qI 37 (by omega) (by omega)]) (qI 38 (by omega) (by omega)) (qI 39 (by omega) (by omega)), ?_⟩
  · unfold TpC
    rw [qI 2 (by omega) (by omega)]
    exact b4
  · rw [qI 37 (by omega) (by omega)]; exact b5
  · rw [qI 37 (by omega) (by omega)]; exact b6
  · rw [qI 37 (by omega) (by omega)]; exact b7
  · unfold ReT
    rw [qI 37 (by omega) (by omega), q5 37 (by omega)]
    exact b8
  · unfold CDp
    rw [qI 37 (by omega) (by omega)]
    refine b12.imp (fun e => ⟨e.1, e.2.1, ?_⟩) id
    obtain ⟨p1, p2, p3⟩ := OnDP_of e.2.2 (h' := h') (q7 3 (by omega)) (fun j _ _ => qI _ (by omega) (by omega))
    refine ⟨p1, fun i hi => ?_, p3⟩
    obtain ⟨g1, g2⟩ := sgo_e (O := D.1) (O' := (d_addA D k1 a b c).1) (P := o_P D.1) w.2.2.2.2.2.2.1 (fun q _ => ⟨rfl, rfl, rfl⟩) hi
    rw [g1, g2]
    exact p2 i hi
  · rw [qI 37 (by omega) (by omega)]; exact b14
/-- an axiom read, or a fault -/
def CA (F : Option am_R) (h : am_H) (o : Nat) (T : Nat → Nat) (n : Nat) (r : PRs) : Prop := match r with
  | .inl e => ∃ h', F = some (.inr none, h') ∧ FLT h h' o T n e
  | .inr y => ∃ h', F = some (.inr none, h') ∧ fPc o h h' ∧ ∃ deep k K, k ≤ 400 ∧ PB h' o T n false y.2.1 (sk T n y.1) deep k K
theorem CA_e {F : Option am_R} {h : am_H} {o : Nat} {T : Nat → Nat} {n : Nat} {e : Nat × Nat} {h' : am_H} (h1 : F = some (.inr none, h')) (h2 : FLT h h' o T n e) : CA F h o T n (.inl e) := ⟨h', h1, h2⟩
theorem CA_s {F : Option am_R} {h : am_H} {o : Nat} {T : Nat → Nat} {n q v deep k : Nat} {K : Nat → Nat × Nat} {D : DT} {h' : am_H} (h1 : F = some (.inr none, h')) (h2 : fPc o h h') (hk : k ≤ 400) (h3 : PB h' o T n false D (sk T n q) deep k K) : CA F h o T n (.inr (q, D, v)) := ⟨h', h1, h2, deep, k, K, hk, h3⟩
theorem CA_t {F : Option am_R} {h g : am_H} {o : Nat} {T : Nat → Nat} {n : Nat} {r : PRs} (q : fPc o h g) (X : CA F g o T n r) : CA F h o T n r := by
  cases r with
  | inl e =>
    obtain ⟨h', e1, e2⟩ := X
    exact ⟨h', e1, FLT_t q e2⟩
  | inr y =>
    obtain ⟨h', e1, e2, e3⟩ := X
    exact ⟨h', e1, fPc_t q e2, e3⟩
theorem CO_i {F : Option am_R} {h : am_H} {o : Nat} {T : Nat → Nat} {n : Nat} {ak : Bool} {deep k : Nat} {K : Nat → Nat × Nat} {q v : Nat} {D : DT} (X : CO F h o T n ak deep k K (.inr (q, D, v))) : ∃ h' x, F = some (.inr (some (.int x)), h') ∧ fPc o h h' ∧ PB h' o T n ak D (sk T n q) deep k K ∧ (o_P D.1 ≤ 60 → x = nI v) := X
theorem CO_j {F : Option am_R} {h : am_H} {o : Nat} {T : Nat → Nat} {n : Nat} {ak : Bool} {deep k : Nat} {K : Nat → Nat × Nat} {e : Nat × Nat} (X : CO F h o T n ak deep k K (.inl e)) : ∃ h' x, F = some (.inr (some (.int x)), h') ∧ FLT h h' o T n e := X
theorem R38_N {h : am_H} (H : LcAt h) (e9 : ¬ am_I h 37 9 = 0) (i1 i2 i3 s1 : Int32) (d : Nat) : f_Re_readConceptAxiom_38 (d + 2) h 37 i1 i2 i3 37 s1 = some (.inr none, h) := by
  rw [e_Re_readConceptAxiom_38, lz_k (Lc_k37 H), lz_cv (Re_expN H e9 s1 d), lz_i (Lc_k37 H) rfl, if_neg e9, lz_k (Lc_k37 H), lz_cv (Re_expN H e9 12 d), lz_k (Lc_k37 H), lz_cv (Re_tmN H e9 i1 d), lz_i (Lc_k37 H) rfl, if_neg e9]
theorem On_addC {h : am_H} {o : Nat} {T : Nat → Nat} {n : Nat} {D : DT} {p deep k : Nat} {K : Nat → Nat × Nat} (B : PB h o T n false D p deep k K) (w : wfD D no_x) (h60 : o_P D.1 ≤ 60) (h32 : o_A D.1 < 32) {kk a b : Nat} (hk : kk ≤ 1) (ha : a < o_P D.1) (hb : b < o_P D.1) (d : Nat) : ∃ h', f_On_addConceptAxiom (d + 1) h o (nI kk) (nI a) (nI b) = some (.inr none, h') ∧ fPc o h h' ∧ PB h' o T n false (d_addA D kk a b 4294967295) p deep k K := by
  have H3 := Lc_on B.1 B.2.2.1
  have P : OnDP h o D := by
    rcases B.2.2.2.2.2.2.2.2.2.2.2.1 with c | c
    · exact c.2.2
    · exact absurd c.1 (by omega)
  obtain ⟨-, -, -, a9, a10⟩ := P.2.1 a ha
  obtain ⟨-, -, -, b9, b10⟩ := P.2.1 b hb
  have g := fun i (hi : i < o_P D.1) => sgo_e (O := D.1) (O' := o_addA D.1 kk a b 4294967295) (P := o_P D.1) w.2.2.2.2.2.2.1 (fun q _ => ⟨rfl, rfl, rfl⟩) hi
  obtain ⟨n1, n2, n3, n4⟩ := aA_n D.1 kk a b 4294967295
  obtain ⟨u, eu, qu, Au⟩ := On_addA (k := kk) (a := a) (b := b) (c := 4294967295) (sn := sgnm D.1 a ||| sgnm D.1 b) (sr := sgrl D.1 a ||| sgrl D.1 b) H3 B.2.2.1 w B.2.2.2.2.2.2.2.2.2.2.1 B.2.2.2.2.1 h32 (by
    unfold axn
    rw [n1, if_pos hk, n2, n3, (g a ha).1, (g b hb).1]) (by
    unfold axr
    rw [n1, if_pos hk, n2, n3, (g a ha).2, (g b hb).2]) d
  obtain ⟨f, Bu⟩ := PB_addA B w qu Au
  refine ⟨u, ?_, f, Bu⟩
  rw [e_On_addConceptAxiom, lz_p (On_k H3) (On_p7 H3), On_r9 H3 (show a < 60 by omega), lz_p (On_k H3) (On_p7 H3), On_r9 H3 (show b < 60 by omega), lz_p (On_k H3) (On_p8 H3), On_r10 H3 (show a < 60 by omega), lz_p (On_k H3) (On_p8 H3), On_r10 H3 (show b < 60 by omega), a9, b9, a10, b10, lz_k (On_k H3), lit_m1, lz_cv eu]
theorem R38 {h : am_H} {o : Nat} {T : Nat → Nat} {n : Nat} {D : DT} {q2 : Nat} {K : Nat → Nat × Nat} (B : PB h o T n false D (sk T n q2) 0 0 K) (w : wfD D no_x) (hq : q2 ≤ n) (h32 : o_A D.1 < 32) {p0 c kk s : Nat} {x : Int32} (hx : o_P D.1 ≤ 60 → x = nI c) (hc : c < o_P D.1) (hs : s = 8 ∨ s = 9) (hk : kk ≤ 1) (d : Nat) : CA (f_Re_readConceptAxiom_38 (d + 7) h 37 (nI p0) x (nI kk) 37 (nI s)) h o T n (if tk T n (sk T n q2) = s then pbd (spX false T n 1000 1 0 (sk T n q2 + 1) D 0) fun q3 D3 e => if tk T n (sk T n q3) = 12 then (if 60 < o_P D3.1 then .inl (5, p0) else .inr (sk T n q3 + 1, d_addA D3 kk c e 4294967295, 0)) else .inl (1, sk T n q3) else .inl (1, sk T n q2)) := by
  have H := B.1
  have n4 := B.2.2.2.1.1
  have w2 := w.2.2.1
  have g0 := sk_ge T n q2
  rw [e_Re_readConceptAxiom_38, lz_k (Lc_k37 H)]
  rcases Re_exp B w (by omega) (c := s) (by omega) (d + 3) with ⟨c8, u, eu, qu, Bu⟩ | ⟨c8, u, eu, fu⟩
  · have hn := (tk_5 (T := T) (n := n) (p := sk T n q2) (by omega)).1
    rw [nx_s (by omega) (by omega)] at Bu
    have X := Re_con Bu w (by omega) d
    rw [if_pos c8, lz_cv eu, lz_i (Lc_k37 Bu.1) Bu.2.2.2.2.2.1, if_pos rfl, lz_k (Lc_k37 Bu.1)]
    cases e1 : spX false T n 1000 1 0 (sk T n q2 + 1) D 0 with
    | inl e =>
      rw [e1] at X
      obtain ⟨v, y, ev, fv⟩ := CO_j X
      have Hv := fPc_lc fv.1 Bu.1
      have bad : ¬ am_I v 37 9 = 0 := by
        rw [fv.2.1]
        exact nz6 (spX_f 1000 1 0 (sk T n q2 + 1) D 0 e (by omega) (by omega) w (by omega) (by rw [if_pos rfl]; omega) e1) (spX_6 _ _ _ _ _ _ _ (by omega) e1)
      rw [lz_ci ev, lz_k (Lc_k37 Hv), lz_cv (Re_expN Hv bad 12 (d + 5)), lz_k (Lc_k37 Hv), lz_cv (Re_tmN Hv bad _ (d + 5)), lz_i (Lc_k37 Hv) rfl, if_neg bad, pbd_l]
      exact CA_e rfl (FLT_t qu fv)
    | inr y =>
      obtain ⟨q3, D3, e⟩ := y
      rw [e1] at X
      obtain ⟨v, y, ev, qv, Bv, vv⟩ := CO_i X
      obtain ⟨b1, b2, b3, b4, b5, b6, b7, b8, b9, b10⟩ := spX_c 1000 1 0 (sk T n q2 + 1) D 0 q3 D3 e (by omega) (by omega) w (by omega) e1
      rw [lz_ci ev, lz_k (Lc_k37 Bv.1), pbd_r]
      rcases Re_exp Bv b7 (by omega) (c := 12) (by omega) (d + 3) with ⟨c12, z, ez, qz, Bz⟩ | ⟨c12, z, ez, fz⟩
      · rw [nx_s (by omega) (by omega)] at Bz
        rw [if_pos c12, show f_Re_expect (d + 6) v 37 12 = _ from ez, cv_r, lz_k (Lc_k37 Bz.1)]
        rcases Re_tm Bz b7 (by omega) p0 (d + 5) with ⟨c60, et⟩ | ⟨c60, t, et, ft⟩
        · obtain ⟨m, em, qm, Bm⟩ := On_addC Bz b7 c60 (by omega) (kk := kk) (a := c) (b := e) hk (by omega) b6 (d + 5)
          rw [if_neg (by omega), lz_cv et, lz_i (Lc_k37 Bz.1) Bz.2.2.2.2.2.1, if_pos rfl, lz_p (Lc_k37 Bz.1) Bz.2.1, lz_k (On_k (Lc_on Bz.1 Bz.2.2.1)), hx (by omega), vv c60, lz_cv em]
          exact CA_s rfl (fPc_t qu (fPc_t qv (fPc_t qz qm))) (by omega) Bm
        · have Ht := fPc_lc ft.1 Bz.1
          have bad : ¬ am_I t 37 9 = 0 := by
            rw [ft.2.1]
            exact nz6 (show 5 ≠ 0 by omega) (show 5 ≤ 6 by omega)
          rw [if_pos c60, lz_cv et, lz_i (Lc_k37 Ht) rfl, if_neg bad]
          exact CA_e rfl (FLT_t (fPc_t qu (fPc_t qv qz)) ft)
      · have Hz := fPc_lc fz.1 Bv.1
        have bad : ¬ am_I z 37 9 = 0 := by
          rw [fz.2.1]
          exact nz6 (show 1 ≠ 0 by omega) (show 1 ≤ 6 by omega)
        rw [if_neg c12, show f_Re_expect (d + 6) v 37 12 = _ from ez, cv_r, lz_k (Lc_k37 Hz), lz_cv (Re_tmN Hz bad _ (d + 5)), lz_i (Lc_k37 Hz) rfl, if_neg bad]
        exact CA_e rfl (FLT_t (fPc_t qu qv) fz)
  · have Hu := fPc_lc fu.1 H
    have bad : ¬ am_I u 37 9 = 0 := by
      rw [fu.2.1]
      exact nz6 (show 1 ≠ 0 by omega) (show 1 ≤ 6 by omega)
    rw [if_neg c8, lz_cv eu, lz_i (Lc_k37 Hu) rfl, if_neg bad, lz_k (Lc_k37 Hu), lz_cv (Re_expN Hu bad 12 (d + 5)), lz_k (Lc_k37 Hu), lz_cv (Re_tmN Hu bad _ (d + 5)), lz_i (Lc_k37 Hu) rfl, if_neg bad]
    exact CA_e rfl fu
theorem Re_cax {h : am_H} {o : Nat} {T : Nat → Nat} {n : Nat} {D : DT} {q deep k : Nat} {K : Nat → Nat × Nat} (B : PB h o T n false D (sk T n q) deep k K) (w : wfD D no_x) (hq : q ≤ n) (h32 : o_A D.1 < 32) (d : Nat) : CA (f_Re_readConceptAxiom (d + 7) h 37) h o T n (spC T n q D) := by
  have H := B.1
  have n4 := B.2.2.2.1.1
  have w2 := w.2.2.1
  have R := B.2.2.2.2.2.2.2.1
  have X := Re_con B w hq d
  unfold spC
  rw [e_Re_readConceptAxiom, lz_i (Lc_k37 H) R.2.2.2.1, lz_k (Lc_k37 H)]
  cases e1 : spX false T n 1000 1 0 q D 0 with
  | inl e =>
    rw [e1] at X
    obtain ⟨v, y, ev, fv⟩ := CO_j X
    have Hv := fPc_lc fv.1 H
    have bad : ¬ am_I v 37 9 = 0 := by
      rw [fv.2.1]
      exact nz6 (spX_f 1000 1 0 q D 0 e (by omega) hq w (by omega) (by rw [if_pos rfl]; omega) e1) (spX_6 _ _ _ _ _ _ _ (by omega) e1)
    rw [lz_ci ev, lz_i (Lc_k37 Hv) rfl, pbd_l]
    by_cases c9 : am_I v 37 5 = 9
    · rw [if_pos c9, if_pos rfl, R38_N Hv bad _ _ _ _ (d + 5)]
      exact CA_e rfl fv
    · rw [if_neg c9, if_neg (by decide), R38_N Hv bad _ _ _ _ (d + 5)]
      exact CA_e rfl fv
  | inr y =>
    obtain ⟨q2, D2, c⟩ := y
    rw [e1] at X
    obtain ⟨v, y, ev, qv, Bv, vv⟩ := CO_i X
    obtain ⟨b1, b2, b3, b4, b5, b6, b7, b8, b9, b10⟩ := spX_c 1000 1 0 q D 0 q2 D2 c (by omega) hq w (by omega) e1
    have t13 := tk_13 T n (sk T n q2)
    rw [lz_ci ev, lz_i (Lc_k37 Bv.1) Bv.2.2.2.2.2.2.2.1.2.2.1, pbd_r]
    by_cases c9 : tk T n (sk T n q2) = 9
    · have Y := R38 Bv b7 b3 (by omega) (p0 := sk T n q) (c := c) (kk := 1) (s := 9) vv b6 (by omega) (by omega) d
      rw [if_pos c9] at Y
      rw [if_pos (by rw [c9]; rfl), if_pos rfl, if_pos (Or.inl c9), if_pos c9]
      exact CA_t qv Y
    · have Y := R38 Bv b7 b3 (by omega) (p0 := sk T n q) (c := c) (kk := 0) (s := 8) vv b6 (by omega) (by omega) d
      rw [if_neg (by rw [show (9 : Int32) = nI 9 from rfl, nI_e32 (by omega) (by omega)]; exact c9), if_neg (by decide)]
      by_cases c8 : tk T n (sk T n q2) = 8
      · rw [if_pos c8] at Y
        rw [if_pos (Or.inr c8), if_neg c9]
        exact CA_t qv Y
      · rw [if_neg c8] at Y
        rw [if_neg (fun e => e.elim c9 c8)]
        exact CA_t qv Y
