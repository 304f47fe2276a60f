/-! ===== the class reads: its state; faults, steps, words, parts ===== -/
/-- while it asks: what stood of the ontology stands -/
def fAs (o : Nat) (h h' : am_H) : Prop := o = 3 ∨ o = 20 → am_I h 37 3 = 1 → (∀ m, m ≤ 60 → am_I h o 3 = nI m → (∃ m', m ≤ m' ∧ m' ≤ 60 ∧ am_I h' o 3 = nI m') ∧ ∀ b p, o + 6 ≤ b → b ≤ o + 10 → p < m → am_I h' b p = am_I h b p) ∧ (∀ b, o < b → b < o + 17 → (b < o + 6 ∨ o + 10 < b) → am_I h' b = am_I h b) ∧ (∀ b, o ≤ b → b < o + 17 → am_L h' b = am_L h b) ∧ (∀ j, j ≠ 3 → am_I h' o j = am_I h o j)
theorem fAs_o {o : Nat} {h h' : am_H} (hI : ∀ b, b ≠ 37 → b ≠ 38 → b ≠ 39 → am_I h' b = am_I h b) (hL : ∀ b, b ≠ 37 → am_L h' b = am_L h b) : fAs o h h' := by
  intro ho _
  refine ⟨fun m hm e => ⟨⟨m, Nat.le_refl _, hm, ?_⟩, fun b p h1 h2 _ => ?_⟩, fun b h1 h2 _ => hI b (by omega) (by omega) (by omega), fun b h1 h2 => hL b (by omega), fun j _ => ?_⟩
  · rw [hI o (by omega) (by omega) (by omega)]
    exact e
  · rw [hI b (by omega) (by omega) (by omega)]
  · rw [hI o (by omega) (by omega) (by omega)]
theorem fAs_t {o : Nat} {a b c : am_H} (e3 : am_I b 37 3 = am_I a 37 3) (h1 : fAs o a b) (h2 : fAs o b c) : fAs o a c := by
  intro ho ha
  obtain ⟨p1, p2, p3, p4⟩ := h1 ho ha
  obtain ⟨q1, q2, q3, q4⟩ := h2 ho (e3.trans ha)
  refine ⟨fun m hm e => ?_, fun b' r s t => (q2 b' r s t).trans (p2 b' r s t), fun b' r s => (q3 b' r s).trans (p3 b' r s), fun j hj => (q4 j hj).trans (p4 j hj)⟩
  obtain ⟨⟨m1, l1, l2, e1⟩, f1⟩ := p1 m hm e
  obtain ⟨⟨m2, l3, l4, e2⟩, f2⟩ := q1 m1 l2 e1
  exact ⟨⟨m2, by omega, l4, e2⟩, fun b' p r s t => (f2 b' p r s (by omega)).trans (f1 b' p r s t)⟩
def fPc (o : Nat) (h h' : am_H) : Prop := am_S h' = am_S h ∧ am_G h' = am_G h ∧ am_T h' = am_T h ∧ am_P h' = am_P h ∧ (∀ b, b ≠ 37 → b ≠ 38 → b ≠ 39 → (b < o ∨ o + 17 ≤ b) → am_I h' b = am_I h b ∧ am_L h' b = am_L h b) ∧ (∀ j, j = 1 ∨ j = 12 ∨ j = 13 → am_I h' 37 j = am_I h 37 j) ∧ am_I h' 37 3 = am_I h 37 3 ∧ fAs o h h'
theorem fPc_r (o : Nat) (h : am_H) : fPc o h h := ⟨rfl, rfl, rfl, rfl, fun _ _ _ _ _ => ⟨rfl, rfl⟩, fun _ _ => rfl, rfl, fAs_o (fun _ _ _ _ => rfl) (fun _ _ => rfl)⟩
theorem fPc_t {o : Nat} {a b c : am_H} (h1 : fPc o a b) (h2 : fPc o b c) : fPc o a c := ⟨h2.1.trans h1.1, h2.2.1.trans h1.2.1, h2.2.2.1.trans h1.2.2.1, h2.2.2.2.1.trans h1.2.2.2.1, fun b p q r s => ⟨(h2.2.2.2.2.1 b p q r s).1.trans (h1.2.2.2.2.1 b p q r s).1, (h2.2.2.2.2.1 b p q r s).2.trans (h1.2.2.2.2.1 b p q r s).2⟩, fun j p => (h2.2.2.2.2.2.1 j p).trans (h1.2.2.2.2.2.1 j p), h2.2.2.2.2.2.2.1.trans h1.2.2.2.2.2.2.1, fAs_t h1.2.2.2.2.2.2.1 h1.2.2.2.2.2.2.2 h2.2.2.2.2.2.2.2⟩
theorem fPc_lc {o : Nat} {h h' : am_H} (q : fPc o h h') (H : LcAt h) : LcAt h' := LcAt_of H q.1 (fun _ _ _ => by rw [q.2.2.2.1])
theorem fSt_Pc {o : Nat} {h h' : am_H} (q : fSt h h') : fPc o h h' := ⟨q.1, q.2.1, q.2.2.1, q.2.2.2.1, fun b p _ _ _ => ⟨q.2.2.2.2.1 b p, q.2.2.2.2.2.1 b p⟩, fun j _ => q.2.2.2.2.2.2 j (by omega) (by omega) (by omega) (by omega), q.2.2.2.2.2.2 3 (by omega) (by omega) (by omega) (by omega), fAs_o (fun b p _ _ => q.2.2.2.2.1 b p) (fun b p => q.2.2.2.2.2.1 b p)⟩
theorem fPc_i {o : Nat} (h : am_H) {j : Nat} (h1 : j ≠ 1 ∧ j ≠ 12 ∧ j ≠ 13) (h3 : j ≠ 3) (v : Int32) : fPc o h (am_sI h 37 j v) := ⟨rfl, rfl, rfl, rfl, fun b p _ _ _ => ⟨by
  funext i
  rw [pc_I_I, if_neg (fun e => p e.1)], rfl⟩, fun i _ => by rw [pc_I_I, if_neg (by omega)], by rw [pc_I_I, if_neg (by omega)], fAs_o (fun b p _ _ => by
  funext i
  rw [pc_I_I, if_neg (fun e => p e.1)]) (fun _ _ => rfl)⟩
theorem fPc_s {o : Nat} (h : am_H) {a : Nat} (ha : a = 38 ∨ a = 39) (j : Nat) (v : Int32) : fPc o h (am_sI h a j v) := ⟨rfl, rfl, rfl, rfl, fun b _ p q _ => ⟨by
  funext i
  rw [pc_I_I, if_neg (fun e => by omega)], rfl⟩, fun i _ => by rw [pc_I_I, if_neg (by omega)], by rw [pc_I_I, if_neg (by omega)], fAs_o (fun b _ p q => by
  funext i
  rw [pc_I_I, if_neg (fun e => by omega)]) (fun _ _ => rfl)⟩
theorem fOn_Pc {o : Nat} (ho : o = 3 ∨ o = 20) {h h' : am_H} (q : fOn o h h') (a : fAs o h h') : fPc o h h' := ⟨q.1, q.2.1, q.2.2.1, q.2.2.2.1, fun b _ _ _ s => ⟨q.2.2.2.2.2.1 b (by omega) (by omega), by rw [q.2.2.2.2.1]⟩, fun j _ => by rw [q.2.2.2.2.2.1 37 (by omega) (by omega)], by rw [q.2.2.2.2.2.1 37 (by omega) (by omega)], a⟩
def CDp (h : am_H) (o : Nat) (D : DT) : Prop := (o_P D.1 ≤ 60 ∧ am_I h 37 11 = 0 ∧ OnDP h o D) ∨ (60 < o_P D.1 ∧ am_I h 37 11 = 1)
def StR (h : am_H) (D : DT) (k : Nat) (K : Nat → Nat × Nat) : Prop := am_I h 37 16 = nI k ∧ ∀ i, i < k → am_I h 38 i = nI (K i).1 ∧ (o_P D.1 ≤ 60 → am_I h 39 i = nI (K i).2)
/-- the class while it reads: the token at p stands -/
def PB (h : am_H) (o : Nat) (T : Nat → Nat) (n : Nat) (ak : Bool) (D : DT) (p deep k : Nat) (K : Nat → Nat × Nat) : Prop := LcAt h ∧ am_P h 37 2 = some o ∧ (o = 3 ∨ o = 20) ∧ TpC h T n ∧ am_I h 37 3 = bo ak ∧ am_I h 37 9 = 0 ∧ am_I h 37 10 = -1 ∧ ReT h T n p ∧ p ≤ n ∧ OnDW h o D ∧ OnDA h o D ∧ CDp h o D ∧ StR h D k K ∧ am_I h 37 17 = nI deep
theorem StR_w {h : am_H} {D D' : DT} {k : Nat} {K : Nat → Nat × Nat} (S : StR h D k K) (e : o_P D.1 ≤ o_P D'.1) : StR h D' k K := ⟨S.1, fun i hi => ⟨(S.2 i hi).1, fun q => (S.2 i hi).2 (by omega)⟩⟩
theorem StR_of {h h' : am_H} {D : DT} {k : Nat} {K : Nat → Nat × Nat} (S : StR h D k K) (h1 : am_I h' 37 16 = am_I h 37 16) (h2 : am_I h' 38 = am_I h 38) (h3 : am_I h' 39 = am_I h 39) : StR h' D k K := by
  unfold StR at *
  rw [h1, h2, h3]
  exact S
/-- nothing but the token moves -/
theorem PB_m {h h' : am_H} {o : Nat} {T : Nat → Nat} {n : Nat} {ak : Bool} {D : DT} {p p' deep k : Nat} {K : Nat → Nat × Nat} (B : PB h o T n ak D p deep k K) (q : fSt h h') (R : ReT h' T n p') (hp : p' ≤ n) : PB h' o T n ak D p' deep k K := by
  obtain ⟨b1, b2, b3, b4, b5, b6, b7, b8, b9, b10, b11, b12, b13, b14⟩ := B
  have f : ∀ j, j ≠ 4 → j ≠ 5 → j ≠ 6 → j ≠ 7 → am_I h' 37 j = am_I h 37 j := q.2.2.2.2.2.2
  have c : ∀ b, b ≠ 37 → am_I h' b = am_I h b := q.2.2.2.2.1
  refine ⟨fSt_lc q b1, by rw [q.2.2.2.1]; exact b2, b3, fSt_tp q b4, ?_, ?_, ?_, R, hp, OnDW_of b10 (c _ (by omega)) (c _ (by omega)) (q.2.2.2.2.2.1 _ (by omega)) (q.2.2.2.2.2.1 _ (by omega)), OnDA_of b11 (by rw [c o (by omega)]) (fun j _ _ => c _ (by omega)) (f 3 (by omega) (by omega) (by omega) (by omega)) (q.2.2.2.2.2.1 _ (by omega)), ?_, StR_of b13 (f 16 (by omega) (by omega) (by omega) (by omega)) (c 38 (by omega)) (c 39 (by omega)), ?_⟩
  · rw [f 3 (by omega) (by omega) (by omega) (by omega)]; exact b5
  · rw [f 9 (by omega) (by omega) (by omega) (by omega)]; exact b6
  · rw [f 10 (by omega) (by omega) (by omega) (by omega)]; exact b7
  · unfold CDp
    rw [f 11 (by omega) (by omega) (by omega) (by omega)]
    exact b12.imp (fun e => ⟨e.1, e.2.1, OnDP_of e.2.2 (by rw [c o (by omega)]) (fun j _ _ => c _ (by omega))⟩) id
  · rw [f 17 (by omega) (by omega) (by omega) (by omega)]; exact b14
theorem PB_st {h : am_H} {o : Nat} {T : Nat → Nat} {n : Nat} {ak : Bool} {D : DT} {p deep k : Nat} {K : Nat → Nat × Nat} (B : PB h o T n ak D p deep k K) (d : Nat) : ∃ h', f_Re_step (d + 2) h 37 = some (.inr none, h') ∧ fPc o h h' ∧ PB h' o T n ak D (sk T n (nx T n p)) deep k K := by
  have BB := B
  obtain ⟨b1, b2, b3, b4, b5, b6, b7, b8, b9, -⟩ := B
  have x := nx_le (T := T) b9
  obtain ⟨g, eg, qg, Rg⟩ := Re_step b1 b4 b8.1 b8.2.1 x.1 d
  exact ⟨g, eg, fSt_Pc qg, PB_m BB qg Rg (sk_le x.1)⟩
theorem Re_fl {h : am_H} (H : LcAt h) (e9 : am_I h 37 9 = 0) (k p o d : Nat) : ∃ h', f_Re_fail d h 37 (nI k) (nI p) = some (.inr none, h') ∧ fPc o h h' ∧ am_I h' 37 9 = nI k ∧ am_I h' 37 10 = nI p ∧ am_I h' 37 5 = am_I h 37 5 ∧ (∀ b, b ≠ 37 → am_I h' b = am_I h b) ∧ am_L h' = am_L h ∧ (∀ j, j ≠ 9 → j ≠ 10 → am_I h' 37 j = am_I h 37 j) := by
  have H1 : LcAt (am_sI h 37 9 (nI k)) := fPc_lc (o := o) (fPc_i h (by omega) (by omega) _) H
  refine ⟨am_sI (am_sI h 37 9 (nI k)) 37 10 (nI p), ?_, fPc_t (fPc_i h (by omega) (by omega) _) (fPc_i _ (by omega) (by omega) _), ?_, ?_, ?_, fun b q => ?_, rfl, fun j q r => ?_⟩
  · rw [e_Re_fail, lz_i (Lc_k37 H) e9, if_pos rfl, lz_k (Lc_k37 H), lz_k (Lc_k37 H1)]
  · rw [pc_I_I, if_neg (by omega), pc_I_I, if_pos ⟨rfl, rfl⟩]
  · rw [pc_I_I, if_pos ⟨rfl, rfl⟩]
  · rw [pc_I_I, if_neg (by omega), pc_I_I, if_neg (by omega)]
  · funext i
    rw [pc_I_I, if_neg (fun e => q e.1), pc_I_I, if_neg (fun e => q e.1)]
  · rw [pc_I_I, if_neg (by omega), pc_I_I, if_neg (by omega)]
def WC (h : am_H) (o : Nat) : Prop := ∃ a b, a ≤ 24 ∧ b ≤ 8 ∧ am_I h (o + 1) 0 = nI 24 ∧ am_I h (o + 1) 2 = nI a ∧ am_I h (o + 3) 0 = nI 8 ∧ am_I h (o + 3) 2 = nI b
theorem WC_of {h h' : am_H} {o : Nat} (W : WC h o) (h1 : am_I h' (o + 1) = am_I h (o + 1)) (h3 : am_I h' (o + 3) = am_I h (o + 3)) : WC h' o := by
  unfold WC
  rw [h1, h3]
  exact W
theorem WC_D {h : am_H} {o : Nat} {D : DT} {x : Nat → Prop} (W : OnDW h o D) (w : wfD D x) : WC h o := ⟨o_N D.1, o_R D.1, w.1, w.2.1, W.1, W.2.1, W.2.2.1, W.2.2.2.1⟩
/-- a fault stands; all else is as it must be for going on -/
def FLT (h h' : am_H) (o : Nat) (T : Nat → Nat) (n : Nat) (e : Nat × Nat) : Prop := fPc o h h' ∧ am_I h' 37 9 = nI e.1 ∧ am_I h' 37 10 = nI e.2 ∧ TpC h' T n ∧ (∃ p, p ≤ n ∧ ReT h' T n p) ∧ ∃ k, k ≤ 400 ∧ am_I h' 37 16 = nI k ∧ WC h' o
theorem FLT_t {h g h' : am_H} {o : Nat} {T : Nat → Nat} {n : Nat} {e : Nat × Nat} (q : fPc o h g) (F : FLT g h' o T n e) : FLT h h' o T n e := ⟨fPc_t q F.1, F.2⟩
theorem PB_fl {h : am_H} {o : Nat} {T : Nat → Nat} {n : Nat} {ak : Bool} {D : DT} {p deep k : Nat} {K : Nat → Nat × Nat} {x : Nat → Prop} (B : PB h o T n ak D p deep k K) (w : wfD D x) (hk : k ≤ 400) (i q d : Nat) : ∃ h', f_Re_fail d h 37 (nI i) (nI q) = some (.inr none, h') ∧ FLT h h' o T n (i, q) ∧ am_I h' 37 5 = am_I h 37 5 := by
  obtain ⟨H, b2, ho, Tp, b5, b6, b7, R, pn, bW, bA, bC, bS, b14⟩ := B
  obtain ⟨u, eu, qu, u9, u10, u5, uI, uL, uj⟩ := Re_fl H b6 i q o d
  refine ⟨u, eu, ⟨qu, u9, u10, ?_, ⟨p, pn, ?_⟩, k, hk, ?_, WC_of (WC_D bW w) (uI _ (by omega)) (uI _ (by omega))⟩, u5⟩
  · unfold TpC
    rw [uI 2 (by omega)]
    exact Tp
  · unfold ReT
    rw [uj 1 (by omega) (by omega), uj 4 (by omega) (by omega), uj 5 (by omega) (by omega), uj 6 (by omega) (by omega), uj 7 (by omega) (by omega), uL]
    exact R
  · rw [uj 16 (by omega) (by omega)]
    exact bS.1
theorem Re_flN {h : am_H} (H : LcAt h) (e9 : ¬ am_I h 37 9 = 0) (i j : Int32) (d : Nat) : f_Re_fail d h 37 i j = some (.inr none, h) := by
  rw [e_Re_fail, lz_i (Lc_k37 H) rfl, if_neg e9]
def w_o (r : Bool) : Nat := if r then 3 else 1
theorem PB_wo {h : am_H} {o : Nat} {T : Nat → Nat} {n : Nat} {ak : Bool} {D : DT} {p deep k : Nat} {K : Nat → Nat × Nat} (B : PB h o T n ak D p deep k K) (r : Bool) : WoA h (o + w_o r) ∧ am_I h (o + w_o r) 0 = nI (d_mx r) ∧ am_I h (o + w_o r) 2 = nI (d_cn D r) ∧ WoR h (o + w_o r) (d_cn D r) (d_ws D r) := by
  have H3 := Lc_on B.1 B.2.2.1
  obtain ⟨w1, w2, w3, w4, w5, w6⟩ := B.2.2.2.2.2.2.2.2.2.1
  cases r
  · exact ⟨On_wo1 H3, w1, w2, w5⟩
  · exact ⟨On_wo3 H3, w3, w4, w6⟩
/-- a word added -/
theorem OnDW_add {h : am_H} {o : Nat} {D : DT} (W : OnDW h o D) (r : Bool) {c : Nat → Nat} {m : Nat} (hc : wOK c m) : OnDW (am_sI (am_sL h (o + w_o r + 1) (d_cn D r) (lN (pkN c m))) (o + w_o r) 2 (nI (d_cn D r + 1))) o (d_add D r c) := by
  obtain ⟨w1, w2, w3, w4, w5, w6⟩ := W
  cases r
  · refine ⟨?_, ?_, ?_, ?_, fun k hk => ?_, fun k hk => ?_⟩
    · show am_I (am_sI (am_sL h (o + 1 + 1) (o_N D.1) (lN (pkN c m))) (o + 1) 2 (nI (o_N D.1 + 1))) (o + 1) 0 = nI 24
      rw [pc_I_I, if_neg (by omega)]; exact w1
    · show am_I (am_sI (am_sL h (o + 1 + 1) (o_N D.1) (lN (pkN c m))) (o + 1) 2 (nI (o_N D.1 + 1))) (o + 1) 2 = nI (o_N D.1 + 1)
      rw [pc_I_I, if_pos ⟨rfl, rfl⟩]
    · show am_I (am_sI (am_sL h (o + 1 + 1) (o_N D.1) (lN (pkN c m))) (o + 1) 2 (nI (o_N D.1 + 1))) (o + 3) 0 = nI 8
      rw [pc_I_I, if_neg (by omega)]; exact w3
    · show am_I (am_sI (am_sL h (o + 1 + 1) (o_N D.1) (lN (pkN c m))) (o + 1) 2 (nI (o_N D.1 + 1))) (o + 3) 2 = nI (o_R D.1)
      rw [pc_I_I, if_neg (by omega)]; exact w4
    · have hk2 : k < o_N D.1 + 1 := hk
      show ∃ m', wOK (if k = o_N D.1 then c else D.2.1 k) m' ∧ am_L (am_sL h (o + 1 + 1) (o_N D.1) (lN (pkN c m))) (o + 1 + 1) k = lN (pkN (if k = o_N D.1 then c else D.2.1 k) m')
      by_cases e : k = o_N D.1
      · rw [if_pos e]
        exact ⟨m, hc, by rw [pc_L_L, if_pos ⟨rfl, e⟩]⟩
      · rw [if_neg e]
        obtain ⟨m', a, b⟩ := w5 k (by omega)
        exact ⟨m', a, by rw [pc_L_L, if_neg (fun q => e q.2)]; exact b⟩
    · obtain ⟨m', a, b⟩ := w6 k hk
      refine ⟨m', a, ?_⟩
      show am_L (am_sL h (o + 1 + 1) (o_N D.1) (lN (pkN c m))) (o + 3 + 1) k = _
      rw [pc_L_L, if_neg (by omega)]
      exact b
  · refine ⟨?_, ?_, ?_, ?_, fun k hk => ?_, fun k hk => ?_⟩
    · show am_I (am_sI (am_sL h (o + 3 + 1) (o_R D.1) (lN (pkN c m))) (o + 3) 2 (nI (o_R D.1 + 1))) (o + 1) 0 = nI 24
      rw [pc_I_I, if_neg (by omega)]; exact w1
    · show am_I (am_sI (am_sL h (o + 3 + 1) (o_R D.1) (lN (pkN c m))) (o + 3) 2 (nI (o_R D.1 + 1))) (o + 1) 2 = nI (o_N D.1)
      rw [pc_I_I, if_neg (by omega)]; exact w2
    · show am_I (am_sI (am_sL h (o + 3 + 1) (o_R D.1) (lN (pkN c m))) (o + 3) 2 (nI (o_R D.1 + 1))) (o + 3) 0 = nI 8
      rw [pc_I_I, if_neg (by omega)]; exact w3
    · show am_I (am_sI (am_sL h (o + 3 + 1) (o_R D.1) (lN (pkN c m))) (o + 3) 2 (nI (o_R D.1 + 1))) (o + 3) 2 = nI (o_R D.1 + 1)
      rw [pc_I_I, if_pos ⟨rfl, rfl⟩]
    · obtain ⟨m', a, b⟩ := w5 k hk
      refine ⟨m', a, ?_⟩
      show am_L (am_sL h (o + 3 + 1) (o_R D.1) (lN (pkN c m))) (o + 1 + 1) k = _
      rw [pc_L_L, if_neg (by omega)]
      exact b
    · have hk2 : k < o_R D.1 + 1 := hk
      show ∃ m', wOK (if k = o_R D.1 then c else D.2.2 k) m' ∧ am_L (am_sL h (o + 3 + 1) (o_R D.1) (lN (pkN c m))) (o + 3 + 1) k = lN (pkN (if k = o_R D.1 then c else D.2.2 k) m')
      by_cases e : k = o_R D.1
      · rw [if_pos e]
        exact ⟨m, hc, by rw [pc_L_L, if_pos ⟨rfl, e⟩]⟩
      · rw [if_neg e]
        obtain ⟨m', a, b⟩ := w6 k (by omega)
        exact ⟨m', a, by rw [pc_L_L, if_neg (fun q => e q.2)]; exact b⟩
theorem d_add_p (D : DT) (r : Bool) (c : Nat → Nat) : o_P (d_add D r c).1 = o_P D.1 ∧ o_A (d_add D r c).1 = o_A D.1 ∧ (∀ p, o_pk (d_add D r c).1 p = o_pk D.1 p ∧ o_pa (d_add D r c).1 p = o_pa D.1 p ∧ o_pb (d_add D r c).1 p = o_pb D.1 p) ∧ (∀ k, o_ak (d_add D r c).1 k = o_ak D.1 k ∧ o_a1 (d_add D r c).1 k = o_a1 D.1 k ∧ o_a2 (d_add D r c).1 k = o_a2 D.1 k ∧ o_a3 (d_add D r c).1 k = o_a3 D.1 k) := by
  cases r
  · exact ⟨rfl, rfl, fun _ => ⟨rfl, rfl, rfl⟩, fun _ => ⟨rfl, rfl, rfl, rfl⟩⟩
  · exact ⟨rfl, rfl, fun _ => ⟨rfl, rfl, rfl⟩, fun _ => ⟨rfl, rfl, rfl, rfl⟩⟩
/-- what comes of reading a number: a fault, or the number; the token stays -/
def CN (F : Option am_R) (h : am_H) (o : Nat) (T : Nat → Nat) (n : Nat) (ak : Bool) (p deep k : Nat) (K : Nat → Nat × Nat) (r : PRs) : Prop := match r with
  | .inl e => ∃ h' x, F = some (.inr (some (.int x)), h') ∧ FLT h h' o T n e
  | .inr y => ∃ h', F = some (.inr (some (.int (nI y.2.2))), h') ∧ fPc o h h' ∧ PB h' o T n ak y.2.1 p deep k K ∧ y.1 = nx T n p
theorem Re_num {h : am_H} {o : Nat} {T : Nat → Nat} {n : Nat} {ak : Bool} {D : DT} {p deep k : Nat} {K : Nat → Nat × Nat} (B : PB h o T n ak D p deep k K) (w : wfD D no_x) (hk : sk T n p = p) (k4 : k ≤ 400) (r : Bool) (d : Nat) : CN (f_Re_numberOfWord (d + 1) h 37 (o + w_o r)) h o T n ak p deep k K (spN ak r T n p D) := by
  have BB := B
  obtain ⟨WA, W0, W2, WW⟩ := PB_wo B r
  obtain ⟨H, b2, ho, Tp, b5, b6, b7, R, pn, bW, bA, bC, bS, b14⟩ := B
  have n4 := Tp.1
  obtain ⟨m1, m2, m3, m4⟩ := wfD_m w r
  have ln := lw_n (T := T) pn
  unfold spN
  rw [hk, e_Re_numberOfWord, lz_i (Lc_k37 H) R.2.2.1]
  have t13 : tk T n p ≤ 13 := by
    unfold tk
    by_cases c : n ≤ p
    · rw [if_pos c]; omega
    · rw [if_neg c]
      by_cases c2 : 0 < lw T n p
      · have := (tk_w (T := T) (n := n) (p := p) (by omega) c2).2.1
        unfold tk at this
        rw [if_neg c, if_pos c2] at this
        rw [if_pos c2]
        omega
      · rw [if_neg c2]
        have := sgk_13 (T p)
        split <;> omega
  by_cases c1 : tk T n p = 1
  · obtain ⟨h1, h2⟩ := tk_14 (T := T) (n := n) (p := p) (by omega) (by omega)
    obtain ⟨e7, e8⟩ := R.2.2.2.2 h1
    rw [if_pos (by rw [c1]; rfl), if_pos c1, lz_i (Lc_k37 H) e7]
    by_cases c6 : 6 < lw T n p
    · obtain ⟨u, eu, fu, u5⟩ := PB_fl BB w k4 2 p d
      rw [if_pos c6, if_neg (by rw [n_6, n_le _ _ (by omega) (by omega)]; omega), lz_i (Lc_k37 H) R.2.2.2.1, lz_k (Lc_k37 H), n_2, lz_cv eu]
      exact ⟨u, _, rfl, fu⟩
    · have wk := wd_ok h2 (show lw T n p ≤ 6 by omega)
      have pl : pkL T p (lw T n p) = lN (pkN (wd T n p) (lw T n p)) := by
        have := (pkL_s (T := T) (p := p) (lw T n p) (by omega) (fun j hj => ((lw_l T n p).2 j hj).2) (wd T n p) (fun j hj => wd_t hj) (wd_26 T n p))
        apply un_ext
        rw [this.1, un_lN (by omega)]
      have fd := Wo_find WA W2 (by omega) WW wk d
      rw [if_neg c6, if_pos (by rw [n_6, n_le _ _ (by omega) (by omega)]; omega), lz_l (Lc_k37 H) (e8 h2), lz_k WA.1, pl, lz_ci fd]
      by_cases c3 : ∃ j, j < d_cn D r ∧ d_ws D r j = wd T n p
      · have lv := (lm_s c3).1.1
        rw [if_pos c3, if_neg (by rw [lit_m1, nI_e32 (by omega) (by omega)]; omega), e_Re_numberOfWord_73, if_neg (by rw [lit_m1, nI_e32 (by omega) (by omega)]; omega)]
        exact ⟨h, rfl, fPc_r o h, BB, (nx_w (by omega) (by omega)).symm⟩
      · rw [if_neg c3, lm_n (P := fun j => j < d_cn D r ∧ d_ws D r j = wd T n p) (fun j q => c3 ⟨j, q⟩), ← lit_m1, if_pos rfl, lz_i (Lc_k37 H) b5]
        by_cases a : ak = true
        · subst a
          obtain ⟨u, eu, fu, u5⟩ := PB_fl BB w k4 6 p d
          rw [if_pos rfl, bo_t, if_neg (by decide), lz_i (Lc_k37 H) R.2.2.2.1, lz_k (Lc_k37 H), n_6, lz_cv eu]
          exact ⟨u, _, rfl, fu⟩
        · rw [if_neg a]
          cases ak with
          | true => exact absurd rfl a
          | false =>
            rw [bo_f, if_pos rfl, e_Re_numberOfWord_73, if_pos rfl, lz_l (Lc_k37 H) (e8 h2), lz_k WA.1, pl]
            by_cases b : d_cn D r = d_mx r
            · obtain ⟨u, eu, fu, u5⟩ := PB_fl BB w k4 3 p d
              rw [if_pos b, lz_ci (Wo_addF WA W2 W0 b _ d), if_pos rfl, lz_i (Lc_k37 H) R.2.2.2.1, lz_k (Lc_k37 H), n_3, lz_cv eu]
              exact ⟨u, _, rfl, fu⟩
            · have lt : d_cn D r < d_mx r := by omega
              rw [if_neg b, lz_ci (Wo_addY WA W2 W0 lt (by omega) _ d), if_neg (by rw [lit_m1, nI_e32 (by omega) (by omega)]; omega)]
              obtain ⟨z, ez⟩ : ∃ z, z = am_sI (am_sL h (o + w_o r + 1) (d_cn D r) (lN (pkN (wd T n p) (lw T n p)))) (o + w_o r) 2 (nI (d_cn D r + 1)) := ⟨_, rfl⟩
              have wo4 : w_o r = 1 ∨ w_o r = 3 := by cases r <;> simp [w_o]
              have zI : ∀ b', b' ≠ o + w_o r → am_I z b' = am_I h b' := fun b' q => by
                rw [ez]
                funext j
                rw [pc_I_I, if_neg (fun e => q e.1)]
                rfl
              have zL : ∀ b', b' ≠ o + w_o r + 1 → am_L z b' = am_L h b' := fun b' q => by
                rw [ez]
                funext j
                show am_L (am_sL h (o + w_o r + 1) (d_cn D r) _) b' j = _
                rw [pc_L_L, if_neg (fun e => q e.1)]
              have qz : fPc o h z := ⟨by rw [ez]; rfl, by rw [ez]; rfl, by rw [ez]; rfl, by rw [ez]; rfl, fun b' _ _ _ q => ⟨zI b' (by omega), zL b' (by omega)⟩, fun j _ => by rw [zI 37 (by omega)], by rw [zI 37 (by omega)], fun _ q => absurd (b5.symm.trans q) (by decide)⟩
              obtain ⟨dp, da, dq, dx⟩ := d_add_p D r (wd T n p)
              rw [← ez]
              refine ⟨z, rfl, qz, ⟨fPc_lc qz H, by rw [qz.2.2.2.1]; exact b2, ho, ?_, ?_, ?_, ?_, ?_, pn, ?_, ?_, ?_, ?_, ?_⟩, (nx_w (by omega) (by omega)).symm⟩
              · unfold TpC
                rw [zI 2 (by omega)]
                exact Tp
              · rw [zI 37 (by omega)]; exact b5
              · rw [zI 37 (by omega)]; exact b6
              · rw [zI 37 (by omega)]; exact b7
              · unfold ReT
                rw [zI 37 (by omega), zL 37 (by omega)]
                exact R
              · rw [ez]
                exact OnDW_add bW r wk
              · exact OnDA_x w (OnDA_of bA (by rw [zI o (by omega)]) (fun j _ _ => zI _ (by omega)) (by rw [zI 37 (by omega)]) (zL o (by omega))) da (fun q _ => dq q) dx
              · unfold CDp
                rw [dp, zI 37 (by omega)]
                refine bC.imp (fun e => ⟨e.1, e.2.1, ?_⟩) id
                obtain ⟨p1, p2, p3⟩ := OnDP_of e.2.2 (h' := z) (by rw [zI o (by omega)]) (fun j _ _ => zI _ (by omega))
                refine ⟨by rw [dp]; exact p1, fun q hq => ?_, fun q hq => ?_⟩
                · rw [dp] at hq
                  obtain ⟨g1, g2⟩ := sgo_e (O := D.1) (O' := (d_add D r (wd T n p)).1) w.2.2.2.2.2.2.1 (fun q _ => dq q) hq
                  rw [(dq q).1, (dq q).2.1, (dq q).2.2, g1, g2]
                  exact p2 q hq
                · rw [dp] at hq
                  rw [(dq q).1, (dq q).2.1]
                  exact p3 q hq
              · exact StR_w (StR_of bS (by rw [zI 37 (by omega)]) (zI 38 (by omega)) (zI 39 (by omega))) (by rw [dp]; exact Nat.le_refl _)
              · rw [zI 37 (by omega)]; exact b14
  · obtain ⟨u, eu, fu, u5⟩ := PB_fl BB w k4 1 p d
    rw [if_neg (by rw [n_1, nI_e32 (by omega) (by omega)]; exact c1), if_neg c1, lz_i (Lc_k37 H) R.2.2.2.1, lz_k (Lc_k37 H), n_1, lz_cv eu]
    exact ⟨u, _, rfl, fu⟩
