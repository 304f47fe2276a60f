/-! ===== the class reads: frames, the loop's steps ===== -/
def kput (K : Nat → Nat × Nat) (k : Nat) (v : Nat × Nat) (i : Nat) : Nat × Nat := if i = k then v else K i
/-- only what stands in 38, 39 and some of 37 changes -/
theorem PB_37 {h h' : am_H} {o : Nat} {T : Nat → Nat} {n : Nat} {ak : Bool} {D : DT} {p deep deep' k k' : Nat} {K K' : Nat → Nat × Nat} (B : PB h o T n ak D p deep k K) (q : fPc o h h') (hI : ∀ b, b ≠ 37 → b ≠ 38 → b ≠ 39 → am_I h' b = am_I h b) (hL : am_L h' = am_L h) (hj : ∀ j, j ≠ 16 → j ≠ 17 → am_I h' 37 j = am_I h 37 j) (S : StR h' D k' K') (hd : am_I h' 37 17 = nI deep') : PB h' o T n ak D p deep' k' K' := by
  obtain ⟨b1, b2, b3, b4, b5, b6, b7, b8, b9, b10, b11, b12, b13, b14⟩ := B
  refine ⟨fPc_lc q b1, by rw [q.2.2.2.1]; exact b2, b3, ?_, ?_, ?_, ?_, ?_, b9, OnDW_of b10 (hI _ (by omega) (by omega) (by omega)) (hI _ (by omega) (by omega) (by omega)) (by rw [hL]) (by rw [hL]), OnDA_of b11 (by rw [hI o (by omega) (by omega) (by omega)]) (fun j _ _ => hI _ (by omega) (by omega) (by omega)) (hj 3 (by omega) (by omega)) (by rw [hL]), ?_, S, hd⟩
  · unfold TpC
    rw [hI 2 (by omega) (by omega) (by omega)]
    exact b4
  · rw [hj 3 (by omega) (by omega)]; exact b5
  · rw [hj 9 (by omega) (by omega)]; exact b6
  · rw [hj 10 (by omega) (by omega)]; exact b7
  · unfold ReT
    rw [hj 1 (by omega) (by omega), hj 4 (by omega) (by omega), hj 5 (by omega) (by omega), hj 6 (by omega) (by omega), hj 7 (by omega) (by omega), hL]
    exact b8
  · unfold CDp
    rw [hj 11 (by omega) (by omega)]
    exact b12.imp (fun e => ⟨e.1, e.2.1, OnDP_of e.2.2 (by rw [hI o (by omega) (by omega) (by omega)]) (fun j _ _ => hI _ (by omega) (by omega) (by omega))⟩) id
theorem Re_pushE {h : am_H} {k : Nat} (H : LcAt h) (e16 : am_I h 37 16 = nI k) (hk : k < 400) (i x : Int32) (d : Nat) : f_Re_pushFrame d h 37 i x = some (.inr none, am_sI (am_sI (am_sI h 38 k i) 39 k x) 37 16 (nI (k + 1))) := by
  have c : ¬ nI 400 ≤ nI k := by
    rw [n_le _ _ (by omega) (by omega)]
    omega
  rw [e_Re_pushFrame]
  simp (disch := first | assumption | omega) only [hc_ck, hc_gi, hc_gl, hc_gp, ap_I, ap_L, kd_I, kd_L, kd_P, kd_rI, ar_I, ar_L, ar_P, al_I, al_L, al_P, hop_s, cond_true, cond_false, pc_I_I, pc_L_L, pc_P_P, pc_I_L, pc_I_P, pc_L_I, pc_L_P, pc_P_I, pc_P_L, pc_sS_I, pc_sS_L, pc_sS_P, I_rI, L_rI, P_rI, S_rI, cv_r, ci_r, cl_r, o1_b, o1_0, o1_1, lc_e, nI_1, nI_add, if_true, if_false, Nat.reduceEqDiff, Nat.left_eq_add, Nat.add_eq_left, false_and, and_false, true_and, and_true, and_self, eq_self, Lc_k37, e16, Lc_p37_14, Lc_p37_15, Lc_l38, Lc_l39, c, Lc_r38, Lc_r39]
theorem Re_push {h : am_H} {o : Nat} {T : Nat → Nat} {n : Nat} {ak : Bool} {D : DT} {p deep k : Nat} {K : Nat → Nat × Nat} (B : PB h o T n ak D p deep k K) (hk : k < 400) (kd v : Nat) {x : Int32} (hx : o_P D.1 ≤ 60 → x = nI v) (d : Nat) : ∃ h', f_Re_pushFrame d h 37 (nI kd) x = some (.inr none, h') ∧ fPc o h h' ∧ PB h' o T n ak D p deep (k + 1) (kput K k (kd, v)) := by
  have BB := B
  obtain ⟨H, b2, ho, Tp, b5, b6, b7, R, pn, bW, bA, bC, bS, b14⟩ := B
  obtain ⟨z, ez⟩ : ∃ z, z = am_sI (am_sI (am_sI h 38 k (nI kd)) 39 k x) 37 16 (nI (k + 1)) := ⟨_, rfl⟩
  have qz : fPc o h z := by
    rw [ez]
    exact fPc_t (fPc_s h (by omega) _ _) (fPc_t (fPc_s _ (by omega) _ _) (fPc_i _ (by omega) (by omega) _))
  refine ⟨z, by rw [ez]; exact Re_pushE H bS.1 hk (nI kd) x d, qz, PB_37 BB qz (fun b p1 p2 p3 => ?_) (by rw [ez]; rfl) (fun j p1 p2 => ?_) ⟨?_, fun i hi => ?_⟩ ?_⟩
  · rw [ez]
    funext j
    rw [pc_I_I, if_neg (fun e => p1 e.1), pc_I_I, if_neg (fun e => p3 e.1), pc_I_I, if_neg (fun e => p2 e.1)]
  · rw [ez, pc_I_I, if_neg (by omega), pc_I_I, if_neg (by omega), pc_I_I, if_neg (by omega)]
  · rw [ez, pc_I_I, if_pos ⟨rfl, rfl⟩]
  · have e38 : am_I z 38 i = if i = k then nI kd else am_I h 38 i := by
      rw [ez, pc_I_I, if_neg (by omega), pc_I_I, if_neg (by omega), pc_I_I]
      by_cases e : i = k
      · rw [if_pos ⟨rfl, e⟩, if_pos e]
      · rw [if_neg (fun q => e q.2), if_neg e]
    have e39 : am_I z 39 i = if i = k then x else am_I h 39 i := by
      rw [ez, pc_I_I, if_neg (by omega), pc_I_I]
      by_cases e : i = k
      · rw [if_pos ⟨rfl, e⟩, if_pos e]
      · rw [if_neg (fun q => e q.2), if_neg e, pc_I_I, if_neg (by omega)]
    unfold kput
    rw [e38, e39]
    by_cases e : i = k
    · rw [if_pos e, if_pos e, if_pos e]
      exact ⟨rfl, hx⟩
    · rw [if_neg e, if_neg e, if_neg e]
      exact bS.2 i (by omega)
  · rw [ez, pc_I_I, if_neg (by omega), pc_I_I, if_neg (by omega), pc_I_I, if_neg (by omega)]
    exact b14
theorem PB_pop {h : am_H} {o : Nat} {T : Nat → Nat} {n : Nat} {ak : Bool} {D : DT} {p deep k : Nat} {K : Nat → Nat × Nat} (B : PB h o T n ak D p deep (k + 1) K) : fPc o h (am_sI h 37 16 (nI k)) ∧ PB (am_sI h 37 16 (nI k)) o T n ak D p deep k K := by
  have q : fPc o h (am_sI h 37 16 (nI k)) := fPc_i h (by omega) (by omega) _
  refine ⟨q, PB_37 B q (fun b p1 _ _ => ?_) rfl (fun j p1 p2 => ?_) ⟨?_, fun i hi => ?_⟩ ?_⟩
  · funext j
    rw [pc_I_I, if_neg (fun e => p1 e.1)]
  · rw [pc_I_I, if_neg (by omega)]
  · rw [pc_I_I, if_pos ⟨rfl, rfl⟩]
  · rw [pc_I_I, if_neg (by omega), pc_I_I, if_neg (by omega)]
    exact B.2.2.2.2.2.2.2.2.2.2.2.2.1.2 i (by omega)
  · rw [pc_I_I, if_neg (by omega)]
    exact B.2.2.2.2.2.2.2.2.2.2.2.2.2
noncomputable def KK (d : Nat) (h : am_H) (x : Int32) (g gc : Nat) : Option am_R := am_ci (f_Re_closeFrames_4 (d + 5) h 37 x (nI gc)) fun x_12 h_11 => am_gi h_11 37 3 5 fun x_13 => if x_13 = 7 then am_ck h_11 37 3 <| am_cv (f_Re_pushFrame (d + 5) h_11 37 7 x_12) fun h_14 => am_ck h_14 37 3 <| am_cv (f_Re_step (d + 5) h_14 37) fun h_15 => f_Re_readConcept_12 (d + 6) h_15 37 (nI g + 1) else some (.inr (some (.int x_12)), h_11)
/-- the top frame, as the loop sees it -/
theorem Re_top {h : am_H} {o : Nat} {T : Nat → Nat} {n : Nat} {ak : Bool} {D : DT} {p deep k : Nat} {K : Nat → Nat × Nat} (B : PB h o T n ak D p deep (k + 1) K) (hk : k < 400) {gc : Nat} (hg : gc ≤ 400) (x : Int32) (d : Nat) : f_Re_closeFrames_4 (d + 5) h 37 x (nI gc) = (if nI (K k).1 = 4 then am_ci (f_Re_build (d + 4) h 37 4 (am_I h 39 k) x) fun x_10 h_9 => f_Re_closeFrames_134 (d + 5) h_9 37 x_10 (nI gc) else if nI (K k).1 = 7 then am_ci (f_Re_build (d + 4) h 37 3 (am_I h 39 k) x) fun x_12 h_11 => f_Re_closeFrames_134 (d + 5) h_11 37 x_12 (nI gc) else if nI (tk T n p) = 6 then am_cv (f_Re_step (d + 4) (am_sI h 37 17 (nI deep - 1)) 37) fun h_15 => f_Re_closeFrames_134 (d + 5) h_15 37 x (nI gc) else if nI (tk T n p) = 7 then some (.inr (some (.int x)), h) else am_cv (f_Re_fail (d + 4) h 37 1 (nI p)) fun h_18 => some (.inr (some (.int x)), h_18)) := by
  obtain ⟨H, b2, ho, Tp, b5, b6, b7, R, pn, bW, bA, bC, bS, b14⟩ := B
  have H1 : LcAt (am_sI h 37 17 (nI deep - 1)) := LcAt_of H rfl (fun _ _ _ => rfl)
  rw [e_Re_closeFrames_4, if_neg (by rw [show (400 : Int32) = nI 400 from rfl, n_lt _ _ (by omega) (by omega)]; omega), lz_i (Lc_k37 H) bS.1, if_neg (by rw [n_le0 _ (by omega)]; omega), lz_i (Lc_k37 H) b6, if_pos rfl, lz_p (Lc_k37 H) (Lc_p37_14 H), lz_i (Lc_k37 H) bS.1, nI_pred, Lc_r38 H hk, lz_p (Lc_k37 H) (Lc_p37_15 H), lz_i (Lc_k37 H) bS.1, nI_pred, Lc_r39 H hk, (bS.2 k (by omega)).1, lz_k (Lc_k37 H), lz_k (Lc_k37 H), lz_i (Lc_k37 H) R.2.2.1, lz_i (Lc_k37 H) b14, lz_k (Lc_k37 H), lz_k (Lc_k37 H1), lz_i (Lc_k37 H) R.2.2.1, lz_i (Lc_k37 H) R.2.2.2.1, lz_k (Lc_k37 H)]
theorem Re_134 {h : am_H} {o : Nat} {T : Nat → Nat} {n : Nat} {ak : Bool} {D : DT} {p deep k : Nat} {K : Nat → Nat × Nat} (B : PB h o T n ak D p deep (k + 1) K) (x : Int32) (gc d : Nat) : f_Re_closeFrames_134 (d + 5) h 37 x (nI gc) = f_Re_closeFrames_4 (d + 5) (am_sI h 37 16 (nI k)) 37 x (nI (gc + 1)) := by
  have H := B.1
  rw [e_Re_closeFrames_134, lz_i (Lc_k37 H) B.2.2.2.2.2.2.2.2.2.2.2.2.1.1, lz_k (Lc_k37 H), nI_pred, nI_1]
/-- a frame that waits for a part is closed -/
theorem KK_b {h : am_H} {o : Nat} {T : Nat → Nat} {n : Nat} {ak : Bool} {D : DT} {p deep k : Nat} {K : Nat → Nat × Nat} (B : PB h o T n ak D p deep (k + 1) K) (w : wfD D no_x) (hk : k < 400) {gc : Nat} (hg : gc ≤ 400) {x : Int32} {v : Nat} (hx : o_P D.1 ≤ 60 → x = nI v) {kk : Nat} (hf : ((K k).1 = 4 ∧ kk = 4 ∧ (K k).2 < o_R D.1 ∧ v < o_P D.1) ∨ ((K k).1 = 7 ∧ kk = 3 ∧ (K k).2 < o_P D.1 ∧ v < o_P D.1)) (g d : Nat) : ∃ h' x', KK d h x g gc = KK d h' x' g (gc + 1) ∧ fPc o h h' ∧ PB h' o T n ak (spP D kk (K k).2 v).1 p deep k K ∧ (o_P (spP D kk (K k).2 v).1.1 ≤ 60 → x' = nI (spP D kk (K k).2 v).2) := by
  have v39 := (B.2.2.2.2.2.2.2.2.2.2.2.2.1.2 k (by omega)).2
  obtain ⟨u, y, eu, qu, Bu, vu⟩ := Re_bld (x := no_x) B w (kk := kk) (a := (K k).2) (b := v) (y1 := am_I h 39 k) (y2 := x) (by
    rcases hf with ⟨_, c, c2, c3⟩ | ⟨_, c, c2, c3⟩
    · exact Or.inr (Or.inl ⟨c, c2, c3⟩)
    · exact Or.inl ⟨c, c2, c3⟩) (fun _ e => by omega) v39 hx (d + 3)
  obtain ⟨q1, B1⟩ := PB_pop Bu
  refine ⟨am_sI u 37 16 (nI k), y, ?_, fPc_t qu q1, B1, vu⟩
  unfold KK
  rw [Re_top B hk hg x d]
  rcases hf with ⟨e, rfl, -⟩ | ⟨e, rfl, -⟩
  · rw [e, if_pos (by decide), show f_Re_build (d + 4) h 37 4 (am_I h 39 k) x = _ from eu, ci_r, Re_134 Bu]
  · rw [e, if_neg (by decide), if_pos (by decide), show f_Re_build (d + 4) h 37 3 (am_I h 39 k) x = _ from eu, ci_r, Re_134 Bu]
/-- a bracket closed -/
theorem KK_o {h : am_H} {o : Nat} {T : Nat → Nat} {n : Nat} {ak : Bool} {D : DT} {p deep k : Nat} {K : Nat → Nat × Nat} (B : PB h o T n ak D p (deep + 1) (k + 1) K) (hk : k < 400) {gc : Nat} (hg : gc ≤ 400) (x : Int32) (h5 : (K k).1 = 5) (c : tk T n p = 6) (g d : Nat) : ∃ h', KK d h x g gc = KK d h' x g (gc + 1) ∧ fPc o h h' ∧ PB h' o T n ak D (sk T n (nx T n p)) deep k K := by
  have q1 : fPc o h (am_sI h 37 17 (nI deep)) := fPc_i h (by omega) (by omega) _
  have B1 : PB (am_sI h 37 17 (nI deep)) o T n ak D p deep (k + 1) K := by
    refine PB_37 B q1 (fun b p1 _ _ => ?_) rfl (fun j p1 p2 => ?_) (StR_of B.2.2.2.2.2.2.2.2.2.2.2.2.1 ?_ ?_ ?_) ?_
    · funext j
      rw [pc_I_I, if_neg (fun e => p1 e.1)]
    · rw [pc_I_I, if_neg (by omega)]
    · rw [pc_I_I, if_neg (by omega)]
    · funext j
      rw [pc_I_I, if_neg (by omega)]
    · funext j
      rw [pc_I_I, if_neg (by omega)]
    · rw [pc_I_I, if_pos ⟨rfl, rfl⟩]
  obtain ⟨u, eu, qu, Bu⟩ := PB_st B1 (d + 2)
  obtain ⟨q2, B2⟩ := PB_pop Bu
  refine ⟨am_sI u 37 16 (nI k), ?_, fPc_t q1 (fPc_t qu q2), B2⟩
  unfold KK
  rw [Re_top B hk hg x d, h5, if_neg (by decide), if_neg (by decide), c, if_pos (by decide), nI_pred, lz_cv eu, Re_134 Bu]
theorem KK_of {h : am_H} {o : Nat} {T : Nat → Nat} {n : Nat} {ak : Bool} {D : DT} {p deep k : Nat} {K : Nat → Nat × Nat} (B : PB h o T n ak D p deep (k + 1) K) (w : wfD D no_x) (hk : k < 400) {gc : Nat} (hg : gc ≤ 400) (x : Int32) (h5 : (K k).1 = 5) (c6 : ¬ tk T n p = 6) (c7 : ¬ tk T n p = 7) (t13 : tk T n p ≤ 13) (g d : Nat) : ∃ h', KK d h x g gc = some (.inr (some (.int x)), h') ∧ FLT h h' o T n (1, p) := by
  obtain ⟨u, eu, fu, u5⟩ := PB_fl B w (by omega) 1 p (d + 4)
  have Hu := fPc_lc fu.1 B.1
  refine ⟨u, ?_, fu⟩
  unfold KK
  have n6 : ¬ nI (tk T n p) = 6 := by
    rw [n_6, nI_e32 (by omega) (by omega)]
    exact c6
  have n7 : ¬ nI (tk T n p) = 7 := by
    rw [show (7 : Int32) = nI 7 from rfl, nI_e32 (by omega) (by omega)]
    exact c7
  rw [Re_top B hk hg x d, h5, if_neg (by decide), if_neg (by decide), if_neg n6, if_neg n7, n_1, lz_cv eu, ci_r, lz_i (Lc_k37 Hu) (u5.trans B.2.2.2.2.2.2.2.1.2.2.1), if_neg n7]
/-- no frame that could be closed: it goes on behind an and -/
theorem Re_cl0 {h : am_H} {o : Nat} {T : Nat → Nat} {n : Nat} {ak : Bool} {D : DT} {p deep k : Nat} {K : Nat → Nat × Nat} (B : PB h o T n ak D p deep k K) (hk : k ≤ 400) {gc : Nat} (hg : gc ≤ 400) (x : Int32) (h5 : k = 0 ∨ ((K (k - 1)).1 = 5 ∧ tk T n p = 7)) (d : Nat) : f_Re_closeFrames_4 (d + 5) h 37 x (nI gc) = some (.inr (some (.int x)), h) := by
  by_cases c : k = 0
  · subst c
    obtain ⟨H, b2, ho, Tp, b5, b6, b7, R, pn, bW, bA, bC, bS, b14⟩ := B
    rw [e_Re_closeFrames_4, if_neg (by rw [show (400 : Int32) = nI 400 from rfl, n_lt _ _ (by omega) (by omega)]; omega), lz_i (Lc_k37 H) bS.1, if_pos (by decide)]
  · obtain ⟨m, rfl⟩ : ∃ m, k = m + 1 := ⟨k - 1, by omega⟩
    rcases h5 with h5 | ⟨h5, c7⟩
    · omega
    · rw [Nat.add_sub_cancel] at h5
      rw [Re_top B (by omega) hg x d, h5, if_neg (by decide), if_neg (by decide), c7, if_neg (by decide), if_pos (by decide)]
theorem KK_7 {h : am_H} {o : Nat} {T : Nat → Nat} {n : Nat} {ak : Bool} {D : DT} {p deep k : Nat} {K : Nat → Nat × Nat} (B : PB h o T n ak D p deep k K) (hk : k < 400) {gc : Nat} (hg : gc ≤ 400) {x : Int32} {v : Nat} (hx : o_P D.1 ≤ 60 → x = nI v) (h5 : k = 0 ∨ (K (k - 1)).1 = 5) (c : tk T n p = 7) (g d : Nat) : ∃ h', KK d h x g gc = f_Re_readConcept_12 (d + 6) h' 37 (nI (g + 1)) ∧ fPc o h h' ∧ PB h' o T n ak D (sk T n (nx T n p)) deep (k + 1) (kput K k (7, v)) := by
  obtain ⟨u, eu, qu, Bu⟩ := Re_push B hk 7 v hx (d + 5)
  obtain ⟨z, ez, qz, Bz⟩ := PB_st Bu (d + 3)
  refine ⟨z, ?_, fPc_t qu qz, Bz⟩
  unfold KK
  rw [Re_cl0 B (by omega) hg x (h5.imp id (fun e => ⟨e, c⟩)) d, ci_r, lz_i (Lc_k37 B.1) B.2.2.2.2.2.2.2.1.2.2.1, c, if_pos (by decide), lz_k (Lc_k37 B.1), show f_Re_pushFrame (d + 5) h 37 7 x = _ from eu, cv_r, lz_k (Lc_k37 Bu.1), lz_cv ez, nI_1]
theorem KK_e {h : am_H} {o : Nat} {T : Nat → Nat} {n : Nat} {ak : Bool} {D : DT} {p deep : Nat} {K : Nat → Nat × Nat} (B : PB h o T n ak D p deep 0 K) {gc : Nat} (hg : gc ≤ 400) (x : Int32) (c : ¬ tk T n p = 7) (t13 : tk T n p ≤ 13) (g d : Nat) : KK d h x g gc = some (.inr (some (.int x)), h) := by
  unfold KK
  rw [Re_cl0 B (by omega) hg x (Or.inl rfl) d, ci_r, lz_i (Lc_k37 B.1) B.2.2.2.2.2.2.2.1.2.2.1, if_neg (by rw [show (7 : Int32) = nI 7 from rfl, nI_e32 (by omega) (by omega)]; exact c)]
theorem LP_N {h : am_H} (H : LcAt h) (e9 : ¬ am_I h 37 9 = 0) (i : Int32) (d : Nat) : f_Re_readConcept_12 (d + 1) h 37 i = some (.inr (some (.int (-1))), h) := by
  rw [e_Re_readConcept_12]
  by_cases c : 400 < i
  · rw [if_pos c]
  · rw [if_neg c, lz_i (Lc_k37 H) rfl, if_neg e9]
theorem tk_13 (T : Nat → Nat) (n p : Nat) : tk T n p ≤ 13 := by
  rcases Nat.lt_or_ge p n with c | c
  · rcases Nat.eq_zero_or_pos (lw T n p) with z | z
    · rw [(tk_s c z).1]
      have := sgk_13 (T p)
      split <;> omega
    · have := (tk_w c z).2.1
      omega
  · rw [tk_0 c]
    omega
/-- behind a fault nothing more is read -/
theorem KK_N {h0 h : am_H} {o : Nat} {T : Nat → Nat} {n : Nat} {e : Nat × Nat} (H : LcAt h) (F : FLT h0 h o T n e) (e1 : e.1 ≠ 0) (e2 : e.1 ≤ 6) (ho : o = 3 ∨ o = 20) (x : Int32) (g gc d : Nat) : ∃ h' x', KK d h x g gc = some (.inr (some (.int x')), h') ∧ FLT h0 h' o T n e := by
  have F0 := F
  obtain ⟨q, f9, f10, Tp, ⟨p, pn, R⟩, k, hk, f16, fW⟩ := F
  have bad : ¬ am_I h 37 9 = 0 := by
    rw [f9]
    exact nz6 e1 e2
  have t13 := tk_13 T n p
  have cl : f_Re_closeFrames_4 (d + 5) h 37 x (nI gc) = some (.inr (some (.int x)), h) := by
    rw [e_Re_closeFrames_4]
    by_cases c : (400 : Int32) < nI gc
    · rw [if_pos c]
    · rw [if_neg c, lz_i (Lc_k37 H) f16]
      by_cases c2 : nI k ≤ 0
      · rw [if_pos c2]
      · rw [if_neg c2, lz_i (Lc_k37 H) rfl, if_neg bad]
  unfold KK
  rw [cl, ci_r, lz_i (Lc_k37 H) R.2.2.1]
  by_cases c7 : tk T n p = 7
  · have pu : ∃ u, f_Re_pushFrame (d + 5) h 37 7 x = some (.inr none, u) ∧ fPc o h u ∧ (∀ j, j ≠ 16 → am_I u 37 j = am_I h 37 j) ∧ (∀ b, b ≠ 37 → b ≠ 38 → b ≠ 39 → am_I u b = am_I h b) ∧ am_L u = am_L h ∧ ∃ k', k' ≤ 400 ∧ am_I u 37 16 = nI k' := by
      by_cases c4 : k < 400
      · refine ⟨_, Re_pushE H f16 c4 7 x (d + 5), fPc_t (fPc_s h (by omega) _ _) (fPc_t (fPc_s _ (by omega) _ _) (fPc_i _ (by omega) (by omega) _)), fun j hj => ?_, fun b p1 p2 p3 => ?_, rfl, k + 1, by omega, ?_⟩
        · rw [pc_I_I, if_neg (by omega), pc_I_I, if_neg (by omega), pc_I_I, if_neg (by omega)]
        · funext j
          rw [pc_I_I, if_neg (fun e => p1 e.1), pc_I_I, if_neg (fun e => p3 e.1), pc_I_I, if_neg (fun e => p2 e.1)]
        · rw [pc_I_I, if_pos ⟨rfl, rfl⟩]
      · refine ⟨h, ?_, fPc_r o h, fun _ _ => rfl, fun _ _ _ _ => rfl, rfl, k, hk, f16⟩
        have : k = 400 := by omega
        rw [e_Re_pushFrame, lz_i (Lc_k37 H) f16, lz_p (Lc_k37 H) (Lc_p37_14 H), Lc_l38 H, this, if_pos (Int32.le_refl _)]
    obtain ⟨u, eu, qu, uj, u2, uL, k', hk', u16⟩ := pu
    have Hu := fPc_lc qu H
    have Tu : TpC u T n := by
      unfold TpC
      rw [u2 2 (by omega) (by omega) (by omega)]
      exact Tp
    have x := nx_le (T := T) pn
    obtain ⟨z, ez, qz, Rz⟩ := Re_step Hu Tu (by rw [uj 1 (by omega)]; exact R.1) (by rw [uj 4 (by omega)]; exact R.2.1) x.1 (d + 3)
    have Hz := fSt_lc qz Hu
    have z9 : am_I z 37 9 = nI e.1 := by
      rw [qz.2.2.2.2.2.2 9 (by omega) (by omega) (by omega) (by omega), uj 9 (by omega)]
      exact f9
    have bz : ¬ am_I z 37 9 = 0 := by
      rw [z9]
      exact nz6 e1 e2
    refine ⟨z, -1, ?_, fPc_t q (fPc_t qu (fSt_Pc qz)), z9, ?_, fSt_tp qz Tu, ⟨_, sk_le x.1, Rz⟩, k', hk', ?_, WC_of fW (by rw [qz.2.2.2.2.1 _ (by omega), u2 _ (by omega) (by omega) (by omega)]) (by rw [qz.2.2.2.2.1 _ (by omega), u2 _ (by omega) (by omega) (by omega)])⟩
    · rw [c7, if_pos (by decide), lz_k (Lc_k37 H), eu, cv_r, lz_k (Lc_k37 Hu), lz_cv ez]
      exact LP_N Hz bz _ (d + 5)
    · rw [qz.2.2.2.2.2.2 10 (by omega) (by omega) (by omega) (by omega), uj 10 (by omega)]
      exact f10
    · rw [qz.2.2.2.2.2.2 16 (by omega) (by omega) (by omega) (by omega)]
      exact u16
  · refine ⟨h, x, ?_, F0⟩
    rw [if_neg (by rw [show (7 : Int32) = nI 7 from rfl, nI_e32 (by omega) (by omega)]; exact c7)]
