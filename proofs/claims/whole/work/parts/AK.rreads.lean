/-! ===== the reference: a question read ===== -/
def fRq (f : Nat) (h h' : am_H) : Prop := am_S h' = am_S h ∧ am_G h' = am_G h ∧ am_T h' = am_T h ∧ am_P h' = am_P h ∧ am_L h' = am_L h ∧ (∀ b, b ≠ f → b ≠ f + 4 → am_I h' b = am_I h b) ∧ (∀ j, j ≠ 3 → j ≠ 4 → j ≠ 5 → j ≠ 6 → j ≠ 7 → j ≠ 16 → j ≠ 17 → j ≠ 42 → j ≠ 43 → am_I h' f j = am_I h f j)
theorem fRq_t {f : Nat} {a b c : am_H} (h1 : fRq f a b) (h2 : fRq f b c) : fRq f a c := ⟨h2.1.trans h1.1, h2.2.1.trans h1.2.1, h2.2.2.1.trans h1.2.2.1, h2.2.2.2.1.trans h1.2.2.2.1, h2.2.2.2.2.1.trans h1.2.2.2.2.1, fun b p q => (h2.2.2.2.2.2.1 b p q).trans (h1.2.2.2.2.2.1 b p q), fun j a1 a2 a3 a4 a5 a6 a7 a8 a9 => (h2.2.2.2.2.2.2 j a1 a2 a3 a4 a5 a6 a7 a8 a9).trans (h1.2.2.2.2.2.2 j a1 a2 a3 a4 a5 a6 a7 a8 a9)⟩
theorem fPr_Rq {f : Nat} {h h' : am_H} (q : fPr f h h') : fRq f h h' := ⟨q.1, q.2.1, q.2.2.1, q.2.2.2.1, q.2.2.2.2.1, q.2.2.2.2.2.1, fun j _ a4 _ a6 a7 a16 _ _ _ => q.2.2.2.2.2.2 j a4 a6 a7 a16⟩
theorem fRq_i {f : Nat} (h : am_H) {j : Nat} (hj : j = 3 ∨ j = 4 ∨ j = 5 ∨ j = 6 ∨ j = 7 ∨ j = 16 ∨ j = 17 ∨ j = 42 ∨ j = 43) (v : Int32) : fRq f h (am_sI h f j v) := ⟨rfl, rfl, rfl, rfl, rfl, fun b p _ => by
  funext i
  rw [pc_I_I, if_neg (fun e => p e.1)], fun i a1 a2 a3 a4 a5 a6 a7 a8 a9 => by rw [pc_I_I, if_neg (by omega)]⟩
theorem fRq_at {f : Nat} {h h' : am_H} (q : fRq f h h') (H : RfAt h f) : RfAt h' f := RfAt_of H q.1 (fun _ _ _ => by rw [q.2.2.2.1])
theorem fRq_RB {f : Nat} {h h' : am_H} {O : o_T} {B : Nat → Prop} (q : fRq f h h') (C : RB h f O B) : RB h' f O B := RB_gen C q.1 q.2.2.2.1 q.2.2.2.2.1 (fun b p => q.2.2.2.2.2.1 b (by omega) (by omega)) (fun j p => q.2.2.2.2.2.2 j (by omega) (by omega) (by omega) (by omega) (by omega) (by omega) (by omega) (by omega) (by omega))
theorem RSa_j {h : am_H} {f n a deep : Nat} {T : Nat → Nat} {ak : Bool} {D : DT} (R : RSa h f T n ak D a deep) {j : Nat} (hj : j = 42 ∨ j = 43) (v : Int32) : RSa (am_sI h f j v) f T n ak D a deep := by
  obtain ⟨r1, ⟨t1, t2, t3⟩, r3, r4, r5, r6, r7, r8, r9⟩ := R
  have e : ∀ i, i ≠ j → am_I (am_sI h f j v) f i = am_I h f i := fun i p => by rw [pc_I_I, if_neg (fun q => p q.2)]
  have eb : ∀ b, b ≠ f → am_I (am_sI h f j v) b = am_I h b := fun b p => by
    funext i
    rw [pc_I_I, if_neg (fun q => p q.1)]
  refine ⟨RfAt_of r1 rfl (fun _ _ _ => rfl), ⟨t1, fun k hk => ?_, (e 3 (by omega)).trans t3⟩, (e 4 (by omega)).trans r3, r4, (e 6 (by omega)).trans r5, (e 7 (by omega)).trans r6, (e 17 (by omega)).trans r7, (e 16 (by omega)).trans r8, RwD_of r9 rfl (eb _ (by omega))⟩
  rw [eb (f + 2) (by omega)]
  exact t2 k hk
theorem tk_z {T : Nat → Nat} {n p : Nat} : tk T n p = 0 ↔ n ≤ p := by
  refine ⟨fun e => ?_, tk_0⟩
  rcases Nat.lt_or_ge p n with c | c
  · by_cases l : 0 < lw T n p
    · have := (tk_w c l).1
      omega
    · have := (tk_s (T := T) c (by omega)).2
      omega
  · exact c
theorem Rf_109N {h : am_H} {f k p : Nat} (H : RfAt h f) (hk : k ≠ 0) (h6 : k ≤ 6) (e6 : am_I h f 6 = nI k) (e7 : am_I h f 7 = nI p) (d : Nat) : f_Rf_reads_109 (d + 1) h f = some (.inr (some (.int 0)), am_sI h f 5 (nI p)) := by
  have H1 : RfAt (am_sI h f 5 (nI p)) f := RfAt_of H rfl (fun _ _ _ => rfl)
  have bad : ¬ am_I h f 6 = 0 := by
    rw [e6]
    exact nz6 hk h6
  have bad1 : ¬ am_I (am_sI h f 5 (nI p)) f 6 = 0 := by
    rw [pc_I_I, if_neg (by omega)]
    exact bad
  rw [e_Rf_reads_109, lz_k (Rf_k H), lz_ci (Rf_fineN H bad d), if_pos rfl, lz_i (Rf_k H) e7, lz_k (Rf_k H), lz_k (Rf_k H1), lz_ci (Rf_fineN H1 bad1 d), o1_0]
theorem Rf_109Y {h : am_H} {f n a : Nat} {T : Nat → Nat} {D : DT} (R : RSa h f T n true D a 0) (h60 : o_P D.1 ≤ 60) (d : Nat) : f_Rf_reads_109 (d + 1) h f = some (.inr (some (.int 1)), am_sI h f 5 (-1)) := by
  have H := R.1
  have H1 : RfAt (am_sI h f 5 (-1)) f := RfAt_of H rfl (fun _ _ _ => rfl)
  have e6 := R.2.2.2.2.1
  have ar2 : ∀ K, am_ar h 9 (f + 4) 2 K = K 2 := fun K => RwD_ar R.2.2.2.2.2.2.2.2 (k := 2) (by omega) K
  have le6 : (nI (o_P D.1) ≤ 60) = (o_P D.1 ≤ 60) := n_le _ 60 (by omega) (by omega)
  have e1 : am_I (am_sI h f 5 (-1)) f 6 = 0 := by
    rw [pc_I_I, if_neg (by omega)]
    exact e6
  rw [e_Rf_reads_109, lz_k (Rf_k H), lz_ci (Rf_fineY H e6 d), if_neg (by decide), lz_p (Rf_k H) (Rf_p10 H), ar2, R.2.2.2.2.2.2.2.2.2.2.2.2.1, if_pos (by rw [le6]; exact h60), lz_i (Rf_k H) R.2.2.2.2.2.1, lz_k (Rf_k H), lz_k (Rf_k H1), lz_ci (Rf_fineY H1 e1 d), o1_1]
theorem Rf_109M {h : am_H} {f n a : Nat} {T : Nat → Nat} {D : DT} (R : RSa h f T n true D a 0) (h60 : 60 < o_P D.1) (d : Nat) : ∃ h', f_Rf_reads_109 (d + 1) h f = some (.inr (some (.int 0)), h') ∧ fRq f h h' ∧ am_I h' f 6 = nI 5 ∧ am_I h' f 5 = nI 0 := by
  have H := R.1
  have e6 := R.2.2.2.2.1
  have hP := R.2.2.2.2.2.2.2.2.2.1
  have ar2 : ∀ K, am_ar h 9 (f + 4) 2 K = K 2 := fun K => RwD_ar R.2.2.2.2.2.2.2.2 (k := 2) (by omega) K
  have le6 : (nI (o_P D.1) ≤ 60) = (o_P D.1 ≤ 60) := n_le _ 60 (by omega) (by omega)
  obtain ⟨z, ez, qz, z6, z7⟩ := Rf_wr H e6 5 0 d
  have Hz := fPr_at qz H
  have H1 : RfAt (am_sI z f 5 (nI 0)) f := RfAt_of Hz rfl (fun _ _ _ => rfl)
  have z61 : am_I (am_sI z f 5 (nI 0)) f 6 = nI 5 := by
    rw [pc_I_I, if_neg (by omega)]
    exact z6
  have bad1 : ¬ am_I (am_sI z f 5 (nI 0)) f 6 = 0 := by
    rw [z61]
    exact nz6 (by omega) (by omega)
  have ez' : f_Rf_wrong d h f 5 0 = some (.inr (some (.int (-1))), z) := ez
  refine ⟨am_sI z f 5 (nI 0), ?_, fRq_t (fPr_Rq qz) (fRq_i z (by omega) _), z61, by rw [pc_I_I, if_pos ⟨rfl, rfl⟩]⟩
  rw [e_Rf_reads_109, lz_k (Rf_k H), lz_ci (Rf_fineY H e6 d), if_neg (by decide), lz_p (Rf_k H) (Rf_p10 H), ar2, R.2.2.2.2.2.2.2.2.2.2.2.2.1, if_neg (by rw [le6]; omega), lz_k (Rf_k H), lz_ci ez', lz_i (Rf_k Hz) z7, lz_k (Rf_k Hz), lz_k (Rf_k H1), lz_ci (Rf_fineN H1 bad1 d), o1_0]
/-- the end of a question -/
noncomputable def f_rdE (d : Nat) (h : am_H) (f : Nat) : Option am_R := am_ck h f 8 <| am_ci (f_Rf_fine d h f) fun x_8 h_7 => if x_8 = 0 then f_Rf_reads_109 (d + 1) h_7 f else am_ck h_7 f 8 <| am_ci (f_Rf_here d h_7 f) fun x_10 h_9 => if x_10 = (-1) then f_Rf_reads_109 (d + 1) h_9 f else am_gi h_9 f 8 4 fun x_11 => am_ck h_9 f 8 <| am_ci (f_Rf_wrong d h_9 f 1 x_11) fun _ h_12 => f_Rf_reads_109 (d + 1) h_12 f
theorem Rf_endN {h : am_H} {f k p : Nat} (H : RfAt h f) (hk : k ≠ 0) (h6 : k ≤ 6) (e6 : am_I h f 6 = nI k) (e7 : am_I h f 7 = nI p) (d : Nat) : f_rdE d h f = some (.inr (some (.int 0)), am_sI h f 5 (nI p)) := by
  have bad : ¬ am_I h f 6 = 0 := by
    rw [e6]
    exact nz6 hk h6
  unfold f_rdE
  rw [lz_k (Rf_k H), lz_ci (Rf_fineN H bad d), if_pos rfl, Rf_109N H hk h6 e6 e7 d]
theorem Rf_end {h : am_H} {f n q : Nat} {T : Nat → Nat} {D : DT} (R : RSa h f T n true D q 0) (c e d : Nat) : (∃ r, spAe T n q D c e = .inl r ∧ ∃ h', f_rdE (d + 1) h f = some (.inr (some (.int 0)), h') ∧ fRq f h h' ∧ am_I h' f 6 = nI r.1 ∧ am_I h' f 5 = nI r.2) ∨ (spAe T n q D c e = .inr (D, c, e) ∧ ∃ h', f_rdE (d + 1) h f = some (.inr (some (.int 1)), h') ∧ fRq f h h' ∧ am_I h' f 5 = -1 ∧ RwD h' (f + 4) D ∧ am_I h' f 42 = am_I h f 42 ∧ am_I h' f 43 = am_I h f 43) := by
  have H := R.1
  have Tp := R.2.1
  have an := R.2.2.2.1
  have sl := sk_le (T := T) an
  obtain ⟨v, ev, qv, v4⟩ := Rf_here H Tp an R.2.2.1 d
  have Rv := RSa_m R qv v4 sl
  have Hv := Rv.1
  have b1 := bt_1 (T := T) (n := n) (k := sk T n q) (fun c => (Tp.2.1 _ c).1)
  unfold f_rdE
  rw [lz_k (Rf_k H), lz_ci (Rf_fineY H R.2.2.2.2.1 (d + 1)), if_neg (show ¬ (1 : Int32) = 0 by decide), lz_k (Rf_k H), lz_ci ev]
  unfold spAe
  by_cases c0 : tk T n (sk T n q) = 0
  · rw [if_pos (b1.mpr (tk_z.mp c0)), if_pos c0]
    by_cases c6 : 60 < o_P D.1
    · rw [if_pos c6]
      obtain ⟨z, ez, qz, z6, z5⟩ := Rf_109M Rv c6 (d + 1)
      exact Or.inl ⟨(5, 0), rfl, z, ez, fRq_t (fPr_Rq (fat_Pr qv)) qz, z6, z5⟩
    · rw [if_neg c6]
      have eb : ∀ b, b ≠ f → am_I (am_sI v f 5 (-1)) b = am_I v b := fun b p => by
        funext i
        rw [pc_I_I, if_neg (fun q => p q.1)]
      refine Or.inr ⟨rfl, am_sI v f 5 (-1), Rf_109Y Rv (by omega) (d + 1), fRq_t (fPr_Rq (fat_Pr qv)) (fRq_i v (by omega) _), by rw [pc_I_I, if_pos ⟨rfl, rfl⟩], RwD_of Rv.2.2.2.2.2.2.2.2 rfl (eb _ (by omega)), ?_, ?_⟩
      · rw [pc_I_I, if_neg (by omega)]
        exact qv.2.2.2.2.2.2 42 (by omega)
      · rw [pc_I_I, if_neg (by omega)]
        exact qv.2.2.2.2.2.2 43 (by omega)
  · obtain ⟨z, ez, qz, z6, z7⟩ := Rf_wr Hv Rv.2.2.2.2.1 1 (sk T n q) (d + 1)
    have Hz := fPr_at qz Hv
    have ez' : f_Rf_wrong (d + 1) v f 1 (nI (sk T n q)) = some (.inr (some (.int (-1))), z) := ez
    rw [if_neg (fun x => c0 (tk_z.mpr (b1.mp x))), if_neg c0, lz_i (Rf_k Hv) v4, lz_k (Rf_k Hv), lz_ci ez']
    refine Or.inl ⟨(1, sk T n q), rfl, am_sI z f 5 (nI (sk T n q)), Rf_109N Hz (by omega) (by omega) z6 z7 (d + 1), fRq_t (fPr_Rq (fat_Pr qv)) (fRq_t (fPr_Rq qz) (fRq_i z (by omega) _)), ?_, ?_⟩
    · rw [pc_I_I, if_neg (by omega)]
      exact z6
    · rw [pc_I_I, if_pos ⟨rfl, rfl⟩]
theorem e_66 (d : Nat) (h : am_H) (f : Nat) : f_Rf_reads_66 (d + 1) h f = am_gi h f 8 4 fun x_1 => am_ck h f 8 <| am_ck (am_sI h f 4 (x_1 + 1)) f 8 <| am_ci (f_Rf_concept d (am_sI h f 4 (x_1 + 1)) f) fun x_3 h_2 => am_ck h_2 f 8 <| f_rdE d (am_sI h_2 f 43 x_3) f := e_Rf_reads_66 d h f
theorem Rf_66N {h : am_H} {f k p : Nat} (H : RfAt h f) (hk : k ≠ 0) (h6 : k ≤ 6) (e6 : am_I h f 6 = nI k) (e7 : am_I h f 7 = nI p) (d : Nat) : ∃ h', f_Rf_reads_66 (d + 3) h f = some (.inr (some (.int 0)), h') ∧ fRq f h h' ∧ am_I h' f 6 = nI k ∧ am_I h' f 5 = nI p := by
  obtain ⟨v, ev⟩ : ∃ v, v = am_sI h f 4 (am_I h f 4 + 1) := ⟨_, rfl⟩
  have qv : fRq f h v := by rw [ev]; exact fRq_i h (by omega) _
  have Hv := fRq_at qv H
  obtain ⟨u, eu⟩ : ∃ u, u = am_sI v f 43 (-1) := ⟨_, rfl⟩
  have qu : fRq f v u := by rw [eu]; exact fRq_i v (by omega) _
  have Hu := fRq_at qu Hv
  have v6 : am_I v f 6 = nI k := by
    rw [ev, pc_I_I, if_neg (by omega)]
    exact e6
  have u6 : am_I u f 6 = nI k := by
    rw [eu, pc_I_I, if_neg (by omega)]
    exact v6
  have u7 : am_I u f 7 = nI p := by
    rw [eu, pc_I_I, if_neg (by omega), ev, pc_I_I, if_neg (by omega)]
    exact e7
  have bad : ¬ am_I v f 6 = 0 := by
    rw [v6]
    exact nz6 hk h6
  refine ⟨am_sI u f 5 (nI p), ?_, fRq_t qv (fRq_t qu (fRq_i u (by omega) _)), by rw [pc_I_I, if_neg (by omega)]; exact u6, by rw [pc_I_I, if_pos ⟨rfl, rfl⟩]⟩
  rw [e_66, lz_i (Rf_k H) rfl, lz_k (Rf_k H), ← ev, lz_k (Rf_k Hv), lz_ci (Rf_conN Hv bad d), lz_k (Rf_k Hv), ← eu, Rf_endN Hu hk h6 u6 u7 (d + 2)]
/-- how a question is read by the reference -/
def RdR (F : Option am_R) (h : am_H) (f : Nat) (two : Bool) (r : QRs) : Prop := match r with
  | .inl e => ∃ h', F = some (.inr (some (.int 0)), h') ∧ fRq f h h' ∧ am_I h' f 6 = nI e.1 ∧ am_I h' f 5 = nI e.2
  | .inr y => ∃ h', F = some (.inr (some (.int 1)), h') ∧ fRq f h h' ∧ am_I h' f 5 = -1 ∧ RwD h' (f + 4) y.1 ∧ am_I h' f 42 = nI y.2.1 ∧ (two = true → am_I h' f 43 = nI y.2.2)
theorem RdR_f {F : Option am_R} {h g : am_H} {f : Nat} {two : Bool} {r : QRs} (q : fRq f h g) (H : RdR F g f two r) : RdR F h f two r := by
  cases r with
  | inl e =>
    obtain ⟨u, e1, e2, e3⟩ := H
    exact ⟨u, e1, fRq_t q e2, e3⟩
  | inr y =>
    obtain ⟨u, e1, e2, e3⟩ := H
    exact ⟨u, e1, fRq_t q e2, e3⟩
theorem RdR_e {F : Option am_R} {h : am_H} {f : Nat} {two : Bool} {e : Nat × Nat} {h' : am_H} (h1 : F = some (.inr (some (.int 0)), h')) (h2 : fRq f h h') (h3 : am_I h' f 6 = nI e.1) (h4 : am_I h' f 5 = nI e.2) : RdR F h f two (.inl e) := ⟨h', h1, h2, h3, h4⟩
theorem RdR_s {F : Option am_R} {h : am_H} {f : Nat} {two : Bool} {D : DT} {c e : Nat} {h' : am_H} (h1 : F = some (.inr (some (.int 1)), h')) (h2 : fRq f h h') (h3 : am_I h' f 5 = -1) (h4 : RwD h' (f + 4) D) (h5 : am_I h' f 42 = nI c) (h6 : two = true → am_I h' f 43 = nI e) : RdR F h f two (.inr (D, c, e)) := ⟨h', h1, h2, h3, h4, h5, h6⟩
/-- the second concept -/
theorem Rf_66 {h : am_H} {f n a c : Nat} {T : Nat → Nat} {D : DT} (R : RSa h f T n true D a 0) (w : wfD D no_x) (hcap : o_P D.1 + (n - a) ≤ 460) (han : a < n) (e42 : am_I h f 42 = nI c) (d : Nat) : RdR (f_Rf_reads_66 (d + 812) h f) h f true (match spX true T n 1000 1 0 (a + 1) D 0 with
      | .inl e => .inl e
      | .inr z => spAe T n z.1 z.2.1 c z.2.2) := by
  have H := R.1
  have w2 := w.2.2.1
  have n4 := R.2.1.1
  have R1 := RSa_p (a' := a + 1) R (by omega)
  have H1 := R1.1
  have co := Rf_con R1 w (by omega) (by omega) d
  have q1 : fRq f h (am_sI h f 4 (nI (a + 1))) := fRq_i h (by omega) _
  rw [e_66, lz_i (Rf_k H) R.2.2.1, lz_k (Rf_k H), nI_1, lz_k (Rf_k H1)]
  refine RdR_f q1 ?_
  have k42 : am_I (am_sI h f 4 (nI (a + 1))) f 42 = nI c := by
    rw [pc_I_I, if_neg (by omega)]
    exact e42
  cases e1 : spX true T n 1000 1 0 (a + 1) D 0 with
  | inl e =>
    rw [e1] at co
    obtain ⟨u, x, eu, qu, u6, u7⟩ := co
    have Hu := fPr_at qu H1
    have qs : fRq f u (am_sI u f 43 x) := fRq_i u (by omega) _
    have Hs := fRq_at qs Hu
    have s6 : am_I (am_sI u f 43 x) f 6 = nI e.1 := by
      rw [pc_I_I, if_neg (by omega)]
      exact u6
    have s7 : am_I (am_sI u f 43 x) f 7 = nI e.2 := by
      rw [pc_I_I, if_neg (by omega)]
      exact u7
    have n0 := spX_f 1000 1 0 (a + 1) D 0 e (by omega) (by omega) w (by omega) (by rw [if_pos rfl]; omega) e1
    have n6 := spX_6 _ _ _ _ _ _ _ (by omega) e1
    rw [lz_ci eu, lz_k (Rf_k Hu), Rf_endN Hs n0 n6 s6 s7 (d + 811)]
    refine RdR_e rfl (fRq_t (fPr_Rq qu) (fRq_t qs (fRq_i _ (by omega) _))) ?_ ?_
    · rw [pc_I_I, if_neg (by omega)]
      exact s6
    · rw [pc_I_I, if_pos ⟨rfl, rfl⟩]
  | inr y =>
    obtain ⟨q3, D3, e⟩ := y
    rw [e1] at co
    obtain ⟨u, eu, qu, Ru⟩ := co
    replace eu : _ = some (Sum.inr (some (Value.int (nI e))), u) := eu
    replace Ru : RSa u f T n true D3 q3 0 := Ru
    have Rs := RSa_j Ru (j := 43) (by omega) (nI e)
    have qs : fRq f u (am_sI u f 43 (nI e)) := fRq_i u (by omega) _
    have s42 : am_I (am_sI u f 43 (nI e)) f 42 = nI c := by
      rw [pc_I_I, if_neg (by omega), qu.2.2.2.2.2.2 42 (by omega) (by omega) (by omega) (by omega)]
      exact k42
    have s43 : am_I (am_sI u f 43 (nI e)) f 43 = nI e := by rw [pc_I_I, if_pos ⟨rfl, rfl⟩]
    rw [lz_ci eu, lz_k (Rf_k Ru.1)]
    show RdR _ _ f true (spAe T n q3 D3 c e)
    rcases Rf_end Rs c e (d + 810) with ⟨r, er, z, ez, qz, z6, z5⟩ | ⟨er, z, ez, qz, z5, zR, z42, z43⟩
    · rw [er]
      exact RdR_e ez (fRq_t (fPr_Rq qu) (fRq_t qs qz)) z6 z5
    · rw [er]
      exact RdR_s ez (fRq_t (fPr_Rq qu) (fRq_t qs qz)) z5 zR (z42.trans s42) (fun _ => z43.trans s43)
theorem Rf_reads {h : am_H} {f : Nat} {O : o_T} {B : Nat → Prop} {x : XT} {WN WR : Nat → Nat → Nat} (C : RB h f O B) (X : RX h f x) (W : RwW h (f + 3) O WN WR) {n : Nat} (hn : n ≤ x.2.1) (two : Bool) (d : Nat) : RdR (f_Rf_reads (d + 812) h f (nI n) (bo two)) (am_sI h f 2 0) f two (spA two x.1 n (O, WN, WR)) := by
  have H := C.1
  obtain ⟨x1, x2, x3, x4, x5, x6, x7, x8⟩ := X
  have hP := C.2.1.2.1.2.2.2.1
  obtain ⟨Rh, w⟩ := RwR_D C.2.1 W
  have w2 := w.2.2.1
  obtain ⟨u, eu, qu, ub, uf, uL, u2, Tu, u4, u6, u7, u16⟩ := Rf_opens (n := n) (T := x.1) H (by omega) (fun k hk => x3 k (by omega)) (d + 811)
  have Hu := fTx_at qu H
  have qu' : fRq f (am_sI h f 2 0) u := ⟨qu.1, qu.2.1, qu.2.2.1, qu.2.2.2.1, uL, fun b p _ => by
    rw [ub b p]
    funext i
    rw [pc_I_I, if_neg (fun e => p e.1)], fun j a3 a4 _ a6 a7 a16 _ _ _ => by
    rw [pc_I_I]
    by_cases c : j = 2
    · rw [if_pos ⟨rfl, c⟩, c]
      exact u2
    · rw [if_neg (fun e => c e.2)]
      exact uf j c a3 a4 a16 a6 a7⟩
  obtain ⟨v, ev⟩ : ∃ v, v = am_sI u f 17 1 := ⟨_, rfl⟩
  have qv : fRq f u v := by rw [ev]; exact fRq_i u (by omega) _
  have Hv := fRq_at qv Hu
  have vf : ∀ j, j ≠ 17 → am_I v f j = am_I u f j := fun j p => by rw [ev, pc_I_I, if_neg (by omega)]
  have vb : ∀ b, b ≠ f → am_I v b = am_I u b := fun b p => by
    rw [ev]
    funext j
    rw [pc_I_I, if_neg (fun e => p e.1)]
  have s3 : (am_S v)[f + 3]? = some (9, 1604) := Hv.2.2.1 (3, 9, 1604) (by decide)
  have s4 : (am_S v)[f + 4]? = some (9, 1604) := Hv.2.2.1 (4, 9, 1604) (by decide)
  obtain ⟨t, et, qt, ct⟩ := Rf_copies s3 s4 (by omega) (d + 811)
  have qt' : fRq f v t := ⟨qt.1, qt.2.1, qt.2.2.1, qt.2.2.2.1, qt.2.2.2.2.1, fun b _ p => qt.2.2.2.2.2 b p, fun j _ _ _ _ _ _ _ _ _ => by rw [qt.2.2.2.2.2 f (by omega)]⟩
  have Ht := fRq_at qt' Hv
  have tf : am_I t f = am_I v f := qt.2.2.2.2.2 f (by omega)
  have Rv3 : RwD v (f + 3) (O, WN, WR) := RwD_of Rh (qv.1.trans qu.1) (by rw [vb _ (by omega), ub _ (by omega)])
  have Rt4 : RwD t (f + 4) (O, WN, WR) := RwD_cp Rv3 w.1 w.2.1 w.2.2.2.1 (by rw [qt.1]; exact s4) ct
  have Rs : RSa t f x.1 n true (O, WN, WR) 0 0 := by
    refine ⟨Ht, ⟨Tu.1, fun k hk => ?_, ?_⟩, ?_, Nat.zero_le _, ?_, ?_, ?_, ?_, Rt4⟩
    · rw [qt.2.2.2.2.2 (f + 2) (by omega), vb (f + 2) (by omega)]
      exact Tu.2.1 k hk
    · rw [tf, vf 3 (by omega)]; exact Tu.2.2
    · rw [tf, vf 4 (by omega)]; exact u4
    · rw [tf, vf 6 (by omega)]; exact u6
    · rw [tf, vf 7 (by omega)]; exact u7
    · rw [tf, ev, pc_I_I, if_pos ⟨rfl, rfl⟩]
      rfl
    · rw [tf, vf 16 (by omega)]; exact u16
  have q1 : fRq f (am_sI h f 2 0) t := fRq_t qu' (fRq_t qv qt')
  have co := Rf_con Rs w (show o_P O + (n - 0) ≤ 460 by omega) (by omega) d
  rw [e_Rf_reads, lz_k (Rf_k H), lz_cv eu, o1_1, lz_k (Rf_k Hu), ← ev, lz_p (Rf_k Hv) (Rf_p9 Hv), lz_p (Rf_k Hv) (Rf_p10 Hv), lz_cv et, lz_k (Rf_k Ht)]
  refine RdR_f q1 ?_
  unfold spA
  cases e1 : spX true x.1 n 1000 1 0 0 (O, WN, WR) 0 with
  | inl e =>
    rw [e1] at co
    obtain ⟨s, y, es, qs, s6, s7⟩ := co
    have Hs := fPr_at qs Ht
    have n0 := spX_f 1000 1 0 0 (O, WN, WR) 0 e (by omega) (Nat.zero_le n) w (by omega) (by rw [if_pos rfl]; omega) e1
    have n6 := spX_6 _ _ _ _ _ _ _ (by omega) e1
    have qz : fRq f s (am_sI s f 42 y) := fRq_i s (by omega) _
    have Hz := fRq_at qz Hs
    have z6 : am_I (am_sI s f 42 y) f 6 = nI e.1 := by
      rw [pc_I_I, if_neg (by omega)]
      exact s6
    have z7 : am_I (am_sI s f 42 y) f 7 = nI e.2 := by
      rw [pc_I_I, if_neg (by omega)]
      exact s7
    rw [lz_ci es, lz_k (Rf_k Hs)]
    cases two with
    | false =>
      rw [bo_f, if_pos rfl]
      refine RdR_e (Rf_endN Hz n0 n6 z6 z7 (d + 811)) (fRq_t (fPr_Rq qs) (fRq_t qz (fRq_i _ (by omega) _))) ?_ ?_
      · rw [pc_I_I, if_neg (by omega)]
        exact z6
      · rw [pc_I_I, if_pos ⟨rfl, rfl⟩]
    | true =>
      have bad : ¬ am_I (am_sI s f 42 y) f 6 = 0 := by
        rw [z6]
        exact nz6 n0 n6
      obtain ⟨r, er, qr, r6, r5⟩ := Rf_66N Hz n0 n6 z6 z7 (d + 809)
      rw [bo_t, if_neg (by decide), lz_k (Rf_k Hz), lz_ci (Rf_fineN Hz bad (d + 811)), if_pos rfl]
      exact RdR_e er (fRq_t (fPr_Rq qs) (fRq_t qz qr)) r6 r5
  | inr y =>
    obtain ⟨q2, D2, c⟩ := y
    rw [e1] at co
    obtain ⟨s, es, qs, Rs2⟩ := co
    replace es : _ = some (Sum.inr (some (Value.int (nI c))), s) := es
    replace Rs2 : RSa s f x.1 n true D2 q2 0 := Rs2
    obtain ⟨b1, b2, b3, b4, b5, b6, b7, b8, b9, b10⟩ := spX_c 1000 1 0 0 (O, WN, WR) 0 q2 D2 c (by omega) (Nat.zero_le n) w (by omega) e1
    replace b5 : o_P D2.1 + 0 ≤ o_P O + q2 := b5
    have Rz := RSa_j Rs2 (j := 42) (by omega) (nI c)
    have qz : fRq f s (am_sI s f 42 (nI c)) := fRq_i s (by omega) _
    have z42 : am_I (am_sI s f 42 (nI c)) f 42 = nI c := by rw [pc_I_I, if_pos ⟨rfl, rfl⟩]
    obtain ⟨z, ez⟩ : ∃ z, z = am_sI s f 42 (nI c) := ⟨_, rfl⟩
    rw [lz_ci es, lz_k (Rf_k Rs2.1), ← ez]
    rw [← ez] at Rz qz z42
    refine RdR_f (fRq_t (fPr_Rq qs) qz) ?_
    have Hz := Rz.1
    have Tp := Rz.2.1
    cases two with
    | false =>
      rw [bo_f, if_pos rfl]
      show RdR (f_rdE (d + 811) z f) z f false (spAe x.1 n q2 D2 c 0)
      rcases Rf_end Rz c 0 (d + 810) with ⟨r, er, y, ey, qy, y6, y5⟩ | ⟨er, y, ey, qy, y5, yR, y42, y43⟩
      · rw [er]
        exact RdR_e ey qy y6 y5
      · rw [er]
        exact RdR_s ey qy y5 yR (y42.trans z42) (fun c => absurd c (by decide))
    | true =>
      have sl := sk_le (T := x.1) b3
      have g2 := sk_ge x.1 n q2
      obtain ⟨v, ev, qv, v4⟩ := Rf_here Hz Tp b3 Rz.2.2.1 (d + 810)
      have Rv := RSa_m Rz qv v4 sl
      have Hv := Rv.1
      have be := fun (y : Nat) (hy : y < 256) => bt_e (T := x.1) (n := n) (k := sk x.1 n q2) (c := y) (fun c => (Tp.2.1 _ c).1) hy
      have v42 : am_I v f 42 = nI c := (qv.2.2.2.2.2.2 42 (by omega)).trans z42
      rw [bo_t, if_neg (by decide), lz_k (Rf_k Hz), lz_ci (Rf_fineY Hz Rz.2.2.2.2.1 (d + 811)), if_neg (by decide), lz_k (Rf_k Hz), lz_ci ev]
      refine RdR_f (fPr_Rq (fat_Pr qv)) ?_
      show RdR _ v f true (if tk x.1 n (sk x.1 n q2) = 8 then (match spX true x.1 n 1000 1 0 (sk x.1 n q2 + 1) D2 0 with
      | .inl e => .inl e
      | .inr z => spAe x.1 n z.1 z.2.1 c z.2.2) else .inl (1, sk x.1 n q2))
      by_cases c60 : sk x.1 n q2 < n ∧ x.1 (sk x.1 n q2) = 60
      · obtain ⟨t, et, qt, Rt⟩ := Rf_twi Rv (d + 809)
        rw [sk_k] at et Rt
        rw [if_pos (by rw [show (60 : Int32) = nI 60 from rfl, be 60 (by omega)]; exact c60), lz_k (Rf_k Hv), lz_ci et]
        refine RdR_f (fPr_Rq qt) ?_
        by_cases c11 : tk x.1 n (sk x.1 n q2) = 11
        · obtain ⟨r, er, qr, r6, r7⟩ := Rf_wr Rt.1 Rt.2.2.2.2.1 1 (sk x.1 n q2) (d + 811)
          have Hr := fPr_at qr Rt.1
          obtain ⟨y, ey, qy, y6, y5⟩ := Rf_66N Hr (k := 1) (by omega) (by omega) r6 r7 (d + 809)
          rw [pd_t c11, bo_t, if_neg (by decide), lz_i (Rf_k Rt.1) Rt.2.2.1, lz_k (Rf_k Rt.1), n_1, lz_ci er, if_neg (show ¬ tk x.1 n (sk x.1 n q2) = 8 by omega)]
          exact RdR_e ey (fRq_t (fPr_Rq qr) qy) y6 y5
        · have c8 : tk x.1 n (sk x.1 n q2) = 8 := tk_le.mpr ⟨c60.1, c60.2, fun q => c11 (tk_ll.mpr ⟨c60.1, c60.2, q⟩)⟩
          rw [pd_f c11, bo_f, if_pos rfl, if_pos c8]
          exact Rf_66 Rt b7 (by omega) c60.1 ((qt.2.2.2.2.2.2 42 (by omega) (by omega) (by omega) (by omega)).trans v42) d
      · have no : ¬ tk x.1 n (sk x.1 n q2) = 8 := fun e => c60 ⟨(tk_le.mp e).1, (tk_le.mp e).2.1⟩
        obtain ⟨r, er, qr, r6, r7⟩ := Rf_wr Hv Rv.2.2.2.2.1 1 (sk x.1 n q2) (d + 811)
        have Hr := fPr_at qr Hv
        obtain ⟨y, ey, qy, y6, y5⟩ := Rf_66N Hr (k := 1) (by omega) (by omega) r6 r7 (d + 809)
        rw [if_neg (by rw [show (60 : Int32) = nI 60 from rfl, be 60 (by omega)]; exact c60), lz_i (Rf_k Hv) v4, lz_k (Rf_k Hv), n_1, lz_ci er, if_neg no]
        exact RdR_e ey (fRq_t (fPr_Rq qr) qy) y6 y5
