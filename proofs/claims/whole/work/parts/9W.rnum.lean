/-! ===== the reference reads: names, roles, parts ===== -/
def RwD (h : am_H) (r : Nat) (D : DT) : Prop := (am_S h)[r]? = some (9, 1604) ∧ o_P D.1 ≤ 480 ∧ am_I h r 0 = nI (o_N D.1) ∧ am_I h r 1 = nI (o_R D.1) ∧ am_I h r 2 = nI (o_P D.1) ∧ am_I h r 3 = nI (o_A D.1) ∧ (∀ p, p < o_P D.1 → am_I h r (36 + 3 * p) = nI (o_pk D.1 p) ∧ am_I h r (36 + 3 * p + 1) = nI (o_pa D.1 p) ∧ am_I h r (36 + 3 * p + 2) = nI (o_pb D.1 p)) ∧ (∀ k, k < o_A D.1 → am_I h r (1476 + 4 * k) = nI (o_ak D.1 k) ∧ am_I h r (1476 + 4 * k + 1) = nI (o_a1 D.1 k) ∧ am_I h r (1476 + 4 * k + 2) = nI (o_a2 D.1 k) ∧ am_I h r (1476 + 4 * k + 3) = nI (o_a3 D.1 k)) ∧ (∀ k, k < o_N D.1 → am_I h r (4 + k) = nI (cdw (D.2.1 k) 6)) ∧ (∀ k, k < o_R D.1 → am_I h r (28 + k) = nI (cdw (D.2.2 k) 6))
theorem RwD_ar {h : am_H} {r : Nat} {D : DT} (H : RwD h r D) {k : Nat} (hk : k < 1604) (g : Nat → Option am_R) : am_ar h 9 r (nI k) g = g k := ar_n H.1 hk (by omega) g
theorem RwD_of {h h' : am_H} {r : Nat} {D : DT} (H : RwD h r D) (hS : am_S h' = am_S h) (hI : am_I h' r = am_I h r) : RwD h' r D := by
  unfold RwD at *
  rw [hS, hI]
  exact H
/-- the reference while it reads: it stands at a -/
def RSa (h : am_H) (f : Nat) (T : Nat → Nat) (n : Nat) (ak : Bool) (D : DT) (a deep : Nat) : Prop := RfAt h f ∧ TpR h f T n ∧ am_I h f 4 = nI a ∧ a ≤ n ∧ am_I h f 6 = 0 ∧ am_I h f 7 = -1 ∧ am_I h f 17 = bo ak ∧ am_I h f 16 = nI deep ∧ RwD h (f + 4) D
def fPr (f : Nat) (h h' : am_H) : Prop := am_S h' = am_S h ∧ am_G h' = am_G h ∧ am_T h' = am_T h ∧ am_P h' = am_P h ∧ am_L h' = am_L h ∧ (∀ b, b ≠ f → b ≠ f + 4 → am_I h' b = am_I h b) ∧ (∀ j, j ≠ 4 → j ≠ 6 → j ≠ 7 → j ≠ 16 → am_I h' f j = am_I h f j)
theorem fPr_r (f : Nat) (h : am_H) : fPr f h h := ⟨rfl, rfl, rfl, rfl, rfl, fun _ _ _ => rfl, fun _ _ _ _ _ => rfl⟩
theorem fPr_t {f : Nat} {a b c : am_H} (h1 : fPr f a b) (h2 : fPr f b c) : fPr f a c := ⟨h2.1.trans h1.1, h2.2.1.trans h1.2.1, h2.2.2.1.trans h1.2.2.1, h2.2.2.2.1.trans h1.2.2.2.1, h2.2.2.2.2.1.trans h1.2.2.2.2.1, fun b p q => (h2.2.2.2.2.2.1 b p q).trans (h1.2.2.2.2.2.1 b p q), fun j p q r s => (h2.2.2.2.2.2.2 j p q r s).trans (h1.2.2.2.2.2.2 j p q r s)⟩
theorem fat_Pr {f : Nat} {h h' : am_H} (q : fat f h h') : fPr f h h' := ⟨q.1, q.2.1, q.2.2.1, q.2.2.2.1, q.2.2.2.2.1, fun b p _ => q.2.2.2.2.2.1 b p, fun j p _ _ _ => q.2.2.2.2.2.2 j p⟩
theorem fPr_at {f : Nat} {h h' : am_H} (q : fPr f h h') (H : RfAt h f) : RfAt h' f := RfAt_of H q.1 (fun _ _ _ => by rw [q.2.2.2.1])
theorem fPr_f (f : Nat) (h : am_H) {j : Nat} (hj : j = 4 ∨ j = 6 ∨ j = 7 ∨ j = 16) (v : Int32) : fPr f h (am_sI h f j v) := ⟨rfl, rfl, rfl, rfl, rfl, fun b p _ => by
  funext i
  rw [pc_I_I, if_neg (by omega)], fun i p q r s => by rw [pc_I_I, if_neg (by omega)]⟩
theorem fPr_4 (f : Nat) (h : am_H) (j : Nat) (v : Int32) : fPr f h (am_sI h (f + 4) j v) := ⟨rfl, rfl, rfl, rfl, rfl, fun b _ p => by
  funext i
  rw [pc_I_I, if_neg (by omega)], fun i p q r s => by rw [pc_I_I, if_neg (by omega)]⟩
theorem RSa_m {h h' : am_H} {f : Nat} {T : Nat → Nat} {n : Nat} {ak : Bool} {D : DT} {a a' deep : Nat} (R : RSa h f T n ak D a deep) (q : fat f h h') (e4 : am_I h' f 4 = nI a') (ha : a' ≤ n) : RSa h' f T n ak D a' deep := by
  obtain ⟨r1, r2, r3, r4, r5, r6, r7, r8, r9⟩ := R
  refine ⟨fat_at q r1, fat_tp q r2, e4, ha, ?_, ?_, ?_, ?_, RwD_of r9 q.1 (q.2.2.2.2.2.1 _ (by omega))⟩
  · rw [q.2.2.2.2.2.2 6 (by omega)]; exact r5
  · rw [q.2.2.2.2.2.2 7 (by omega)]; exact r6
  · rw [q.2.2.2.2.2.2 17 (by omega)]; exact r7
  · rw [q.2.2.2.2.2.2 16 (by omega)]; exact r8
theorem RSa_p {h : am_H} {f : Nat} {T : Nat → Nat} {n : Nat} {ak : Bool} {D : DT} {a a' deep : Nat} (R : RSa h f T n ak D a deep) (ha : a' ≤ n) : RSa (am_sI h f 4 (nI a')) f T n ak D a' deep := RSa_m R (fat_s f h _) (by rw [pc_I_I, if_pos ⟨rfl, rfl⟩]) ha
/-- what comes of reading: a fault, or a number -/
def RO (F : Option am_R) (h : am_H) (f : Nat) (T : Nat → Nat) (n : Nat) (ak : Bool) (deep : Nat) (r : PRs) : Prop := match r with
  | .inl e => ∃ h' x, F = some (.inr (some (.int x)), h') ∧ fPr f h h' ∧ am_I h' f 6 = nI e.1 ∧ am_I h' f 7 = nI e.2
  | .inr y => ∃ h', F = some (.inr (some (.int (nI y.2.2))), h') ∧ fPr f h h' ∧ RSa h' f T n ak y.2.1 y.1 deep
theorem RO_f {F : Option am_R} {h g : am_H} {f : Nat} {T : Nat → Nat} {n : Nat} {ak : Bool} {deep : Nat} {r : PRs} (q : fPr f h g) (H : RO F g f T n ak deep r) : RO F h f T n ak deep r := by
  cases r with
  | inl e =>
    obtain ⟨u, x, e1, e2, e3⟩ := H
    exact ⟨u, x, e1, fPr_t q e2, e3⟩
  | inr y =>
    obtain ⟨u, e1, e2, e3⟩ := H
    exact ⟨u, e1, fPr_t q e2, e3⟩
theorem Rf_fineY {h : am_H} {f : Nat} (H : RfAt h f) (e6 : am_I h f 6 = 0) (d : Nat) : f_Rf_fine d h f = some (.inr (some (.int 1)), h) := by
  rw [e_Rf_fine, lz_i (Rf_k H) e6, if_pos rfl, o1_1]
theorem Rf_fineN {h : am_H} {f : Nat} (H : RfAt h f) (e6 : ¬ am_I h f 6 = 0) (d : Nat) : f_Rf_fine d h f = some (.inr (some (.int 0)), h) := by
  rw [e_Rf_fine, lz_i (Rf_k H) rfl, if_neg e6, o1_0]
theorem Rf_wr {h : am_H} {f : Nat} (H : RfAt h f) (e6 : am_I h f 6 = 0) (k p : Nat) (d : Nat) : ∃ h', f_Rf_wrong d h f (nI k) (nI p) = some (.inr (some (.int (-1))), h') ∧ fPr f h h' ∧ am_I h' f 6 = nI k ∧ am_I h' f 7 = nI p := by
  have H1 : RfAt (am_sI h f 6 (nI k)) f := fPr_at (fPr_f f h (by omega) _) H
  refine ⟨am_sI (am_sI h f 6 (nI k)) f 7 (nI p), ?_, fPr_t (fPr_f f h (by omega) _) (fPr_f f _ (by omega) _), ?_, ?_⟩
  · rw [e_Rf_wrong, lz_i (Rf_k H) e6, if_pos rfl, lz_k (Rf_k H), lz_k (Rf_k H1)]
  · rw [pc_I_I, if_neg (by omega), pc_I_I, if_pos ⟨rfl, rfl⟩]
  · rw [pc_I_I, if_pos ⟨rfl, rfl⟩]
def r_i (r : Bool) : Int32 := if r then 1 else 0
def r_w (r : Bool) : Nat := if r then 28 else 4
theorem RwD_c {h : am_H} {r : Nat} {D : DT} (H : RwD h r D) (b : Bool) : (∀ g, am_ar h 9 r (r_i b) g = g (if b then 1 else 0)) ∧ am_I h r (if b then 1 else 0) = nI (d_cn D b) := by
  cases b
  · exact ⟨fun g => RwD_ar H (k := 0) (by omega) g, H.2.2.1⟩
  · exact ⟨fun g => RwD_ar H (k := 1) (by omega) g, H.2.2.2.1⟩
theorem RwD_w {h : am_H} {r : Nat} {D : DT} (H : RwD h r D) (b : Bool) {k : Nat} (hk : k < d_cn D b) : am_I h r (r_w b + k) = nI (cdw (d_ws D b k) 6) := by
  cases b
  · exact H.2.2.2.2.2.2.2.2.1 k hk
  · exact H.2.2.2.2.2.2.2.2.2 k hk
theorem wfD_m {D : DT} {x : Nat → Prop} (w : wfD D x) (b : Bool) : d_cn D b ≤ d_mx b ∧ d_mx b ≤ 24 ∧ r_w b + d_mx b ≤ 36 ∧ ∀ k, k < d_cn D b → ∃ m, wOK (d_ws D b k) m := by
  cases b
  · exact ⟨w.1, by decide, by decide, w.2.2.2.2.2.2.2.2.2.2.1⟩
  · exact ⟨w.2.1, by decide, by decide, w.2.2.2.2.2.2.2.2.2.2.2⟩
/-- a word added to the row -/
theorem RwD_add {h : am_H} {r : Nat} {D : DT} (H : RwD h r D) (b : Bool) (hc : d_cn D b < d_mx b) (c : Nat → Nat) (hN : o_N D.1 ≤ 24) : RwD (am_sI (am_sI h r (r_w b + d_cn D b) (nI (cdw c 6))) r (if b then 1 else 0) (nI (d_cn D b + 1))) r (d_add D b c) := by
  obtain ⟨h1, h2, h3, h4, h5, h6, h7, h8, h9, h10⟩ := H
  have rd : ∀ j, j ≠ r_w b + d_cn D b → j ≠ (if b then 1 else 0) → am_I (am_sI (am_sI h r (r_w b + d_cn D b) (nI (cdw c 6))) r (if b then 1 else 0) (nI (d_cn D b + 1))) r j = am_I h r j := fun j p q => by
    rw [pc_I_I, if_neg (fun e => q e.2), pc_I_I, if_neg (fun e => p e.2)]
  have rn : am_I (am_sI (am_sI h r (r_w b + d_cn D b) (nI (cdw c 6))) r (if b then 1 else 0) (nI (d_cn D b + 1))) r (if b then 1 else 0) = nI (d_cn D b + 1) := by
    rw [pc_I_I, if_pos ⟨rfl, rfl⟩]
  have rw' : am_I (am_sI (am_sI h r (r_w b + d_cn D b) (nI (cdw c 6))) r (if b then 1 else 0) (nI (d_cn D b + 1))) r (r_w b + d_cn D b) = nI (cdw c 6) := by
    rw [pc_I_I, if_neg (fun e => ?_), pc_I_I, if_pos ⟨rfl, rfl⟩]
    cases b
    · have : 4 + o_N D.1 = 0 := e.2
      omega
    · have : 28 + o_R D.1 = 1 := e.2
      omega
  cases b
  · have hc2 : o_N D.1 < 24 := hc
    have rd2 : ∀ j, j ≠ 4 + o_N D.1 → j ≠ 0 → am_I (am_sI (am_sI h r (4 + o_N D.1) (nI (cdw c 6))) r 0 (nI (o_N D.1 + 1))) r j = am_I h r j := rd
    refine ⟨h1, h2, rn, ?_, ?_, ?_, fun p hp => ?_, fun k hk => ?_, fun k hk => ?_, fun k hk => ?_⟩
    · exact (rd2 1 (by omega) (by omega)).trans h4
    · exact (rd2 2 (by omega) (by omega)).trans h5
    · exact (rd2 3 (by omega) (by omega)).trans h6
    · exact ⟨(rd2 _ (by omega) (by omega)).trans (h7 p hp).1, (rd2 _ (by omega) (by omega)).trans (h7 p hp).2.1, (rd2 _ (by omega) (by omega)).trans (h7 p hp).2.2⟩
    · exact ⟨(rd2 _ (by omega) (by omega)).trans (h8 k hk).1, (rd2 _ (by omega) (by omega)).trans (h8 k hk).2.1, (rd2 _ (by omega) (by omega)).trans (h8 k hk).2.2.1, (rd2 _ (by omega) (by omega)).trans (h8 k hk).2.2.2⟩
    · have hk2 : k < o_N D.1 + 1 := hk
      show am_I _ r (4 + k) = nI (cdw ((if k = o_N D.1 then c else D.2.1 k)) 6)
      by_cases e : k = o_N D.1
      · rw [if_pos e, e]
        exact rw'
      · rw [if_neg e]
        exact (rd2 _ (by omega) (by omega)).trans (h9 k (by omega))
    · have hk2 : k < o_R D.1 := hk
      exact (rd2 _ (by omega) (by omega)).trans (h10 k hk2)
  · have hc2 : o_R D.1 < 8 := hc
    have rd2 : ∀ j, j ≠ 28 + o_R D.1 → j ≠ 1 → am_I (am_sI (am_sI h r (28 + o_R D.1) (nI (cdw c 6))) r 1 (nI (o_R D.1 + 1))) r j = am_I h r j := rd
    refine ⟨h1, h2, ?_, rn, ?_, ?_, fun p hp => ?_, fun k hk => ?_, fun k hk => ?_, fun k hk => ?_⟩
    · exact (rd2 0 (by omega) (by omega)).trans h3
    · exact (rd2 2 (by omega) (by omega)).trans h5
    · exact (rd2 3 (by omega) (by omega)).trans h6
    · exact ⟨(rd2 _ (by omega) (by omega)).trans (h7 p hp).1, (rd2 _ (by omega) (by omega)).trans (h7 p hp).2.1, (rd2 _ (by omega) (by omega)).trans (h7 p hp).2.2⟩
    · exact ⟨(rd2 _ (by omega) (by omega)).trans (h8 k hk).1, (rd2 _ (by omega) (by omega)).trans (h8 k hk).2.1, (rd2 _ (by omega) (by omega)).trans (h8 k hk).2.2.1, (rd2 _ (by omega) (by omega)).trans (h8 k hk).2.2.2⟩
    · have hk2 : k < o_N D.1 := hk
      exact (rd2 _ (by omega) (by omega)).trans (h9 k hk2)
    · have hk2 : k < o_R D.1 + 1 := hk
      show am_I _ r (28 + k) = nI (cdw ((if k = o_R D.1 then c else D.2.2 k)) 6)
      by_cases e : k = o_R D.1
      · rw [if_pos e, e]
        exact rw'
      · rw [if_neg e]
        exact (rd2 _ (by omega) (by omega)).trans (h10 k (by omega))
