/-! ===== the class reads: parts, roles, frames ===== -/
theorem PB_big {h : am_H} {o : Nat} {T : Nat → Nat} {n : Nat} {ak : Bool} {D : DT} {p deep k : Nat} {K : Nat → Nat × Nat} {x : Nat → Prop} (B : PB h o T n ak D p deep k K) (w : wfD D x) (hb : 60 < o_P D.1) (kk a b : Nat) : PB h o T n ak (spP D kk a b).1 p deep k K ∧ 60 < o_P (spP D kk a b).1.1 := by
  by_cases c : ∃ j, o_is D.1 kk a b j
  · obtain ⟨j, y⟩ := c
    rw [spP_y y]
    exact ⟨B, hb⟩
  · rw [spP_n (fun j q => c ⟨j, q⟩)]
    obtain ⟨b1, b2, b3, b4, b5, b6, b7, b8, b9, b10, b11, b12, b13, b14⟩ := B
    have hb2 : 60 < o_P (d_addP D kk a b).1 := by show 60 < o_P D.1 + 1; omega
    refine ⟨⟨b1, b2, b3, b4, b5, b6, b7, b8, b9, b10, OnDA_x w b11 rfl (fun q hq => aP_o (by omega)) (fun _ => ⟨rfl, rfl, rfl, rfl⟩), Or.inr ⟨hb2, ?_⟩, StR_w b13 (by show o_P D.1 ≤ o_P D.1 + 1; omega), b14⟩, hb2⟩
    rcases b12 with e | e
    · exact absurd e.1 (by omega)
    · exact e.2
/-- a part built -/
theorem Re_bld {h : am_H} {o : Nat} {T : Nat → Nat} {n : Nat} {ak : Bool} {D : DT} {p deep k : Nat} {K : Nat → Nat × Nat} {x : Nat → Prop} (B : PB h o T n ak D p deep k K) (w : wfD D x) {kk a b : Nat} {y1 y2 : Int32} (hk : (kk = 3 ∧ a < o_P D.1 ∧ b < o_P D.1) ∨ (kk = 4 ∧ a < o_R D.1 ∧ b < o_P D.1) ∨ (kk = 0 ∧ a < o_N D.1 ∧ b = 4294967295)) (ha : ak = true → kk = 0 → ∃ j, o_is D.1 kk a b j) (v1 : o_P D.1 ≤ 60 → y1 = nI a) (v2 : o_P D.1 ≤ 60 → y2 = nI b) (d : Nat) : ∃ h' y, f_Re_build (d + 1) h 37 (nI kk) y1 y2 = some (.inr (some (.int y)), h') ∧ fPc o h h' ∧ PB h' o T n ak (spP D kk a b).1 p deep k K ∧ (o_P (spP D kk a b).1.1 ≤ 60 → y = nI (spP D kk a b).2) := by
  have BB := B
  obtain ⟨H, b2, ho, Tp, b5, b6, b7, R, pn, bW, bA, bC, bS, b14⟩ := B
  have H3 := Lc_on H ho
  rw [e_Re_build]
  rcases bC with ⟨c60, c11, cP⟩ | ⟨c60, c11⟩
  · rw [lz_i (Lc_k37 H) c11, if_pos rfl, lz_i (Lc_k37 H) b6, if_pos rfl, lz_p (Lc_k37 H) b2, lz_k (On_k H3), v1 c60, v2 c60]
    have w1 := w.1
    have w2 := w.2.1
    rcases On_int H3 w.2.2.2.2.2.2.1 w1 w2 cP c60 (k := kk) (a := a) (b := b) (by
      rcases hk with c | c | c
      · exact Or.inl c
      · exact Or.inr (Or.inl ⟨c.1, by omega, c.2.2⟩)
      · exact Or.inr (Or.inr (Or.inl ⟨c.1, by omega, c.2.2⟩))) d with ⟨j, y, e⟩ | ⟨no, e60, e⟩ | ⟨no, lt, z, ez, qz, Pz, z5⟩
    · have l := (lm_s ⟨j, y⟩).1.1
      rw [spP_y y, lz_ci e, if_neg (by rw [lit_m1, nI_e32 (by omega) (by omega)]; omega), o1_0, lz_k (Lc_k37 H)]
      refine ⟨am_sI h 37 11 0, _, rfl, fPc_i h (by omega) (by omega) _, ?_, fun _ => rfl⟩
      have f : ∀ j, am_I (am_sI h 37 11 0) 37 j = am_I h 37 j := fun j => by
        rw [pc_I_I]
        by_cases q : j = 11
        · rw [if_pos ⟨rfl, q⟩, q, c11]
        · rw [if_neg (fun s => q s.2)]
      have c : ∀ b', am_I (am_sI h 37 11 0) b' = am_I h b' := fun b' => by
        funext j
        by_cases q : b' = 37
        · rw [q]; exact f j
        · rw [pc_I_I, if_neg (fun s => q s.1)]
      have ce : am_I (am_sI h 37 11 0) = am_I h := by
        funext b'
        exact c b'
      refine ⟨LcAt_of H rfl (fun _ _ _ => rfl), b2, ho, ?_, ?_, ?_, ?_, ?_, pn, OnDW_of bW (c _) (c _) rfl rfl, OnDA_of bA (by rw [c o]) (fun j _ _ => c _) (f 3) rfl, Or.inl ⟨c60, ?_, OnDP_of cP (by rw [c o]) (fun j _ _ => c _)⟩, StR_of bS (f 16) (c 38) (c 39), ?_⟩
      · unfold TpC
        rw [ce]
        exact Tp
      · rw [f]; exact b5
      · rw [f]; exact b6
      · rw [f]; exact b7
      · unfold ReT
        rw [ce]
        exact R
      · rw [f]; exact c11
      · rw [f]; exact b14
    · rw [spP_n no, lz_ci e, if_pos rfl, o1_1, lz_k (Lc_k37 H)]
      have c : ∀ b', b' ≠ 37 → am_I (am_sI h 37 11 1) b' = am_I h b' := fun b' q => by
        funext j
        rw [pc_I_I, if_neg (fun s => q s.1)]
      have f : ∀ j, j ≠ 11 → am_I (am_sI h 37 11 1) 37 j = am_I h 37 j := fun j q => by rw [pc_I_I, if_neg (by omega)]
      have hb2 : 60 < o_P (d_addP D kk a b).1 := by show 60 < o_P D.1 + 1; omega
      refine ⟨am_sI h 37 11 1, _, rfl, fPc_i h (by omega) (by omega) _, ⟨LcAt_of H rfl (fun _ _ _ => rfl), b2, ho, ?_, ?_, ?_, ?_, ?_, pn, OnDW_of bW (c _ (by omega)) (c _ (by omega)) rfl rfl, OnDA_x w (OnDA_of bA (by rw [c o (by omega)]) (fun j _ _ => c _ (by omega)) (f 3 (by omega)) rfl) rfl (fun q hq => aP_o (by omega)) (fun _ => ⟨rfl, rfl, rfl, rfl⟩), Or.inr ⟨hb2, ?_⟩, StR_w (StR_of bS (f 16 (by omega)) (c 38 (by omega)) (c 39 (by omega))) (by show o_P D.1 ≤ o_P D.1 + 1; omega), ?_⟩, fun q => absurd hb2 (Nat.not_lt.mpr q)⟩
      · unfold TpC
        rw [c 2 (by omega)]
        exact Tp
      · rw [f 3 (by omega)]; exact b5
      · rw [f 9 (by omega)]; exact b6
      · rw [f 10 (by omega)]; exact b7
      · unfold ReT
        rw [f 1 (by omega), f 4 (by omega), f 5 (by omega), f 6 (by omega), f 7 (by omega)]
        exact R
      · rw [pc_I_I, if_pos ⟨rfl, rfl⟩]
      · rw [f 17 (by omega)]; exact b14
    · have qa : fAs o h z := by
        intro _ ask
        have at' : ak = true := by
          cases ak with
          | true => rfl
          | false => exact absurd (b5.symm.trans ask) (by decide)
        have k0 : kk ≠ 0 := fun e => (ha at' e).elim no
        refine ⟨fun m hm e => ?_, fun b' p1 p2 p3 => ?_, fun b' _ _ => by rw [qz.2.2.2.2.1], fun j hj => qz.2.2.2.2.2.2 j hj⟩
        · have em : m = o_P D.1 := by
            have := e.symm.trans cP.1
            rw [nI_e32 (by omega) (by omega)] at this
            exact this
          refine ⟨⟨o_P D.1 + 1, by omega, by omega, Pz.1⟩, fun b' q r s t => ?_⟩
          have t1 : q < o_P D.1 := by omega
          obtain ⟨x1, x2, x3, x4, x5⟩ := cP.2.1 q t1
          obtain ⟨z1, z2, z3, z4, z5'⟩ := Pz.2.1 q (by show q < o_P D.1 + 1; omega)
          obtain ⟨g1, g2⟩ := sgo_e (O := D.1) (O' := (d_addP D kk a b).1) w.2.2.2.2.2.2.1 (fun q hq => aP_o (by omega)) t1
          obtain ⟨y1', y2', y3'⟩ := aP_o (O := D.1) (k := kk) (a := a) (b := b) (p := q) (by omega)
          have : b' = o + 6 ∨ b' = o + 7 ∨ b' = o + 8 ∨ b' = o + 9 ∨ b' = o + 10 := by omega
          rcases this with rfl | rfl | rfl | rfl | rfl
          · rw [z1, x1]; exact congrArg nI y1'
          · rw [z2, x2]; exact congrArg nI y2'
          · rw [z3, x3]; exact congrArg nI y3'
          · rw [z4, x4]; exact g1
          · rw [z5', x5]; exact g2
        · by_cases e5 : b' = o + 5
          · rw [e5]
            exact z5 k0
          · exact qz.2.2.2.2.2.1 b' (by omega) (by omega)
      have qc := fOn_Pc ho qz qa
      have Hz := fPc_lc qc H
      have z37 : am_I z 37 = am_I h 37 := qz.2.2.2.2.2.1 37 (by omega) (by omega)
      rw [spP_n no, lz_ci ez, if_neg (by rw [lit_m1, nI_e32 (by omega) (by omega)]; omega), o1_0, lz_k (Lc_k37 Hz)]
      have f : ∀ j, am_I (am_sI z 37 11 0) 37 j = am_I h 37 j := fun j => by
        rw [pc_I_I]
        by_cases q : j = 11
        · rw [if_pos ⟨rfl, q⟩, q, c11]
        · rw [if_neg (fun s => q s.2), z37]
      have c : ∀ b', b' ≠ 37 → am_I (am_sI z 37 11 0) b' = am_I z b' := fun b' q => by
        funext j
        rw [pc_I_I, if_neg (fun s => q s.1)]
      have zb : ∀ b', b' ≠ o → (b' < o + 5 ∨ o + 11 ≤ b') → am_I z b' = am_I h b' := qz.2.2.2.2.2.1
      have hp2 : o_P (d_addP D kk a b).1 ≤ 60 := by show o_P D.1 + 1 ≤ 60; omega
      refine ⟨am_sI z 37 11 0, _, rfl, fPc_t qc (fPc_i z (by omega) (by omega) _), ⟨LcAt_of Hz rfl (fun _ _ _ => rfl), by show am_P z 37 2 = _; rw [qz.2.2.2.1]; exact b2, ho, ?_, ?_, ?_, ?_, ?_, pn, OnDW_of bW ?_ ?_ ?_ ?_, OnDA_x w (OnDA_of bA ?_ (fun j _ _ => ?_) (f 3) (by show am_L z o = _; rw [qz.2.2.2.2.1])) rfl (fun q hq => aP_o (by omega)) (fun _ => ⟨rfl, rfl, rfl, rfl⟩), Or.inl ⟨hp2, ?_, OnDP_of Pz (by rw [c o (by omega)]) (fun j _ _ => c _ (by omega))⟩, StR_w (StR_of bS (f 16) ?_ ?_) (by show o_P D.1 ≤ o_P D.1 + 1; omega), ?_⟩, fun _ => rfl⟩
      · unfold TpC
        rw [c 2 (by omega), zb 2 (by omega) (by omega)]
        exact Tp
      · rw [f]; exact b5
      · rw [f]; exact b6
      · rw [f]; exact b7
      · unfold ReT
        rw [f, f, f, f, f, show am_L (am_sI z 37 11 0) 37 8 = am_L h 37 8 from by rw [← qz.2.2.2.2.1]; rfl]
        exact R
      · rw [c _ (by omega), zb _ (by omega) (by omega)]
      · rw [c _ (by omega), zb _ (by omega) (by omega)]
      · show am_L z _ = _
        rw [qz.2.2.2.2.1]
      · show am_L z _ = _
        rw [qz.2.2.2.2.1]
      · rw [c o (by omega), qz.2.2.2.2.2.2 9 (by omega)]
      · rw [c _ (by omega), zb _ (by omega) (by omega)]
      · rw [f]; exact c11
      · rw [c _ (by omega), zb _ (by omega) (by omega)]
      · rw [c _ (by omega), zb _ (by omega) (by omega)]
      · rw [f]; exact b14
  · obtain ⟨P1, P2⟩ := PB_big BB w c60 kk a b
    refine ⟨h, -1, ?_, fPc_r o h, P1, fun q => absurd P2 (Nat.not_lt.mpr q)⟩
    rw [lz_i (Lc_k37 H) c11, if_neg (by decide)]
/-- a value read, the token moved on -/
def CO (F : Option am_R) (h : am_H) (o : Nat) (T : Nat → Nat) (n : Nat) (ak : Bool) (deep k : Nat) (K : Nat → Nat × Nat) (r : PRs) : Prop := match r with
  | .inl e => ∃ h' x, F = some (.inr (some (.int x)), h') ∧ FLT h h' o T n e
  | .inr y => ∃ h' x, F = some (.inr (some (.int x)), h') ∧ fPc o h h' ∧ PB h' o T n ak y.2.1 (sk T n y.1) deep k K ∧ (o_P y.2.1.1 ≤ 60 → x = nI y.2.2)
theorem Re_role {h : am_H} {o : Nat} {T : Nat → Nat} {n : Nat} {ak : Bool} {D : DT} {p deep k : Nat} {K : Nat → Nat × Nat} (B : PB h o T n ak D p deep k K) (w : wfD D no_x) (hk : sk T n p = p) (k4 : k ≤ 400) (d : Nat) : CO (f_Re_readRole (d + 3) h 37) h o T n ak deep k K (spN ak true T n p D) := by
  have H := B.1
  have H3 := Lc_on H B.2.2.1
  have nm := Re_num B w hk k4 true (d + 1)
  rw [e_Re_readRole, lz_p (Lc_k37 H) B.2.1, lz_p (On_k H3) (On_p1 H3), lz_k (Lc_k37 H)]
  cases e : spN ak true T n p D with
  | inl x =>
    rw [e] at nm
    obtain ⟨u, y, eu, fu⟩ := nm
    have Hu := fPc_lc fu.1 H
    have bad : ¬ am_I u 37 9 = 0 := by
      rw [fu.2.1]
      exact nz6 (spN_k e) (spN_6 e)
    rw [show f_Re_numberOfWord (d + 2) h 37 (o + 3) = _ from eu, ci_r, lz_i (Lc_k37 Hu) rfl, if_neg bad]
    exact ⟨u, y, rfl, fu⟩
  | inr y =>
    obtain ⟨q', D', v⟩ := y
    rw [e] at nm
    obtain ⟨u, eu, qu, Bu, eq⟩ := nm
    replace eq : q' = nx T n p := eq
    obtain ⟨z, ez, qz, Bz⟩ := PB_st Bu d
    rw [show f_Re_numberOfWord (d + 2) h 37 (o + 3) = _ from eu, ci_r, lz_i (Lc_k37 Bu.1) Bu.2.2.2.2.2.1, if_pos rfl, lz_k (Lc_k37 Bu.1), lz_cv ez]
    subst eq
    exact ⟨z, _, rfl, fPc_t qu qz, Bz, fun _ => rfl⟩
