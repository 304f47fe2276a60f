/-! ===== the reference reads axioms ===== -/
def RV (F : Option am_R) (h : am_H) (f : Nat) (T : Nat → Nat) (n : Nat) (ak : Bool) (deep : Nat) (r : PRs) : Prop := match r with
  | .inl e => ∃ h', F = some (.inr none, h') ∧ fPr f h h' ∧ am_I h' f 6 = nI e.1 ∧ am_I h' f 7 = nI e.2
  | .inr y => ∃ h', F = some (.inr none, h') ∧ fPr f h h' ∧ RSa h' f T n ak y.2.1 y.1 deep
theorem RV_f {F : Option am_R} {h g : am_H} {f : Nat} {T : Nat → Nat} {n : Nat} {ak : Bool} {deep : Nat} {r : PRs} (q : fPr f h g) (H : RV F g f T n ak deep r) : RV F h f T n ak deep r := by
  cases r with
  | inl e =>
    obtain ⟨u, e1, e2, e3⟩ := H
    exact ⟨u, e1, fPr_t q e2, e3⟩
  | inr y =>
    obtain ⟨u, e1, e2, e3⟩ := H
    exact ⟨u, e1, fPr_t q e2, e3⟩
theorem RV_e {F : Option am_R} {h : am_H} {f : Nat} {T : Nat → Nat} {n : Nat} {ak : Bool} {deep : Nat} {e : Nat × Nat} {h' : am_H} (h1 : F = some (.inr none, h')) (h2 : fPr f h h') (h3 : am_I h' f 6 = nI e.1) (h4 : am_I h' f 7 = nI e.2) : RV F h f T n ak deep (.inl e) := ⟨h', h1, h2, h3, h4⟩
theorem RV_s {F : Option am_R} {h : am_H} {f : Nat} {T : Nat → Nat} {n : Nat} {ak : Bool} {deep q v : Nat} {D : DT} {h' : am_H} (h1 : F = some (.inr none, h')) (h2 : fPr f h h') (h3 : RSa h' f T n ak D q deep) : RV F h f T n ak deep (.inr (q, D, v)) := ⟨h', h1, h2, h3⟩
theorem Rf_con {ak : Bool} {T : Nat → Nat} {n f deep a : Nat} {D : DT} {h : am_H} (R : RSa h f T n ak D a deep) (w : wfD D no_x) (hc : o_P D.1 + (n - a) ≤ 460) (hd : deep ≤ 6) (d : Nat) : RO (f_Rf_concept (d + 811) h f) h f T n ak deep (spX ak T n 1000 1 deep a D 0) := by
  have n4 := R.2.1.1
  have an := R.2.2.2.1
  have w2 := w.2.2.1
  exact Rf_X 1000 1 deep a D 0 h (d + 811) (by omega) R w (by omega) hc hd (by rw [if_neg (by omega)]; omega) (fun e he => spX_f 1000 1 deep a D 0 e (by omega) an w (by omega) (by rw [if_pos rfl]; omega) he)
theorem Rf_twi {ak : Bool} {T : Nat → Nat} {n f deep a : Nat} {D : DT} {h : am_H} (R : RSa h f T n ak D a deep) (d : Nat) : ∃ h', f_Rf_isTwice (d + 2) h f = some (.inr (some (.int (bo (pd (tk T n (sk T n a) = 11))))), h') ∧ fPr f h h' ∧ RSa h' f T n ak D (sk T n a) deep := by
  have RR := R
  obtain ⟨H, Tp, e4, an, e6, -⟩ := R
  have n4 := Tp.1
  have sl := sk_le (T := T) an
  obtain ⟨g, eg, qg, g4⟩ := Rf_here H Tp an e4 d
  have Rg := RSa_m RR qg g4 sl
  have Hg := Rg.1
  have be := bt_e (T := T) (n := n) (k := sk T n a) (c := 60) (fun c => (Tp.2.1 _ c).1) (by omega)
  have be1 := bt_e (T := T) (n := n) (k := sk T n a + 1) (c := 60) (fun c => (Tp.2.1 _ c).1) (by omega)
  refine ⟨g, ?_, fat_Pr qg, Rg⟩
  rw [e_Rf_isTwice, lz_k (Rf_k H), lz_ci eg, show (60 : Int32) = nI 60 from rfl]
  by_cases c : sk T n a < n ∧ T (sk T n a) = 60
  · rw [if_pos (by rw [be]; exact c), lz_i (Rf_k Hg) g4, lz_k (Rf_k Hg), nI_1, lz_ci (Rf_byteAt Hg Rg.2.1 (by omega) (d + 1))]
    by_cases c2 : sk T n a + 1 < n ∧ T (sk T n a + 1) = 60
    · rw [if_pos (by rw [be1]; exact c2), o1_1, pd_t (tk_ll.mpr ⟨c.1, c.2, c2⟩)]
      rfl
    · rw [if_neg (by rw [be1]; exact c2), o1_0, pd_f (fun e => c2 (tk_ll.mp e).2.2)]
      rfl
  · rw [if_neg (by rw [be]; exact c), o1_0, pd_f (fun e => c ⟨(tk_ll.mp e).1, (tk_ll.mp e).2.1⟩)]
    rfl
theorem Rf_ends {ak : Bool} {T : Nat → Nat} {n f deep a : Nat} {D : DT} {h : am_H} (R : RSa h f T n ak D a deep) (v d : Nat) : RV (f_Rf_ends (d + 3) h f) h f T n ak deep (if tk T n (sk T n a) = 12 then .inr (sk T n a + 1, D, v) else .inl (1, sk T n a)) := by
  have RR := R
  obtain ⟨H, Tp, e4, an, e6, -⟩ := R
  rw [e_Rf_ends, lz_k (Rf_k H), lz_ci (Rf_fineY H e6 (d + 2)), if_neg (by decide), lz_k (Rf_k H), show (59 : Int32) = nI 59 from rfl]
  rcases Rf_tak RR (c := 59) (by omega) d with ⟨t1, t2, g, eg, qg, Rg⟩ | ⟨tn, g, eg, qg, Rg⟩
  · rw [if_pos (tk_se.mpr ⟨t1, t2⟩), lz_ci eg, if_neg (by decide)]
    exact RV_s rfl qg Rg
  · rw [if_neg (fun e => tn (tk_se.mp e)), lz_ci eg, if_pos rfl, lz_i (Rf_k Rg.1) Rg.2.2.1, lz_k (Rf_k Rg.1)]
    obtain ⟨u, eu, qu, u6, u7⟩ := Rf_wr Rg.1 Rg.2.2.2.2.1 1 (sk T n a) (d + 2)
    rw [n_1, lz_ci eu]
    exact RV_e rfl (fPr_t qg qu) u6 u7
theorem Rf_endsN {h : am_H} {f : Nat} (H : RfAt h f) (e6 : ¬ am_I h f 6 = 0) (d : Nat) : f_Rf_ends (d + 1) h f = some (.inr none, h) := by
  rw [e_Rf_ends, lz_k (Rf_k H), lz_ci (Rf_fineN H e6 d), if_pos rfl]
theorem Rf_addsN {h : am_H} {f : Nat} (H : RfAt h f) (e6 : ¬ am_I h f 6 = 0) (i j k l : Int32) (d : Nat) : f_Rf_adds (d + 1) h f i j k l = some (.inr none, h) := by
  rw [e_Rf_adds, lz_k (Rf_k H), lz_ci (Rf_fineN H e6 d), if_pos rfl]
theorem RwD_aA {h : am_H} {r : Nat} {D : DT} (H : RwD h r D) (k x y z : Nat) (hA : o_A D.1 < 32) (hN : o_N D.1 ≤ 24) (hR : o_R D.1 ≤ 8) : RwD (am_sI (am_sI (am_sI (am_sI (am_sI h r (1476 + 4 * o_A D.1) (nI k)) r (1476 + 4 * o_A D.1 + 1) (nI x)) r (1476 + 4 * o_A D.1 + 2) (nI y)) r (1476 + 4 * o_A D.1 + 3) (nI z)) r 3 (nI (o_A D.1 + 1))) r (d_addA D k x y z) := by
  obtain ⟨h1, h2, h3, h4, h5, h6, h7, h8, h9, h10⟩ := H
  have rd : ∀ j, j ≠ 3 → (j < 1476 + 4 * o_A D.1 ∨ 1476 + 4 * o_A D.1 + 4 ≤ j) → am_I (am_sI (am_sI (am_sI (am_sI (am_sI h r (1476 + 4 * o_A D.1) (nI k)) r (1476 + 4 * o_A D.1 + 1) (nI x)) r (1476 + 4 * o_A D.1 + 2) (nI y)) r (1476 + 4 * o_A D.1 + 3) (nI z)) r 3 (nI (o_A D.1 + 1))) r j = am_I h r j := fun j a b => by
    rw [pc_I_I, if_neg (by omega), pc_I_I, if_neg (by omega), pc_I_I, if_neg (by omega), pc_I_I, if_neg (by omega), pc_I_I, if_neg (by omega)]
  refine ⟨h1, h2, ?_, ?_, ?_, ?_, fun p hq => ?_, fun j hj => ?_, fun j hj => ?_, fun j hj => ?_⟩
  · exact (rd 0 (by omega) (by omega)).trans h3
  · exact (rd 1 (by omega) (by omega)).trans h4
  · exact (rd 2 (by omega) (by omega)).trans h5
  · rw [pc_I_I, if_pos ⟨rfl, rfl⟩]
    rfl
  · have hq2 : p < o_P D.1 := hq
    obtain ⟨g1, g2, g3⟩ := h7 p hq2
    exact ⟨(rd _ (by omega) (by omega)).trans g1, (rd _ (by omega) (by omega)).trans g2, (rd _ (by omega) (by omega)).trans g3⟩
  · have hj2 : j < o_A D.1 + 1 := hj
    by_cases e : j = o_A D.1
    · obtain ⟨e1, e2, e3, e4⟩ := aA_n D.1 k x y z
      have f1 : o_ak (d_addA D k x y z).1 j = k := by rw [e]; exact e1
      have f2 : o_a1 (d_addA D k x y z).1 j = x := by rw [e]; exact e2
      have f3 : o_a2 (d_addA D k x y z).1 j = y := by rw [e]; exact e3
      have f4 : o_a3 (d_addA D k x y z).1 j = z := by rw [e]; exact e4
      rw [f1, f2, f3, f4, e]
      refine ⟨?_, ?_, ?_, ?_⟩
      · rw [pc_I_I, if_neg (by omega), pc_I_I, if_neg (by omega), pc_I_I, if_neg (by omega), pc_I_I, if_neg (by omega), pc_I_I, if_pos ⟨rfl, rfl⟩]
      · rw [pc_I_I, if_neg (by omega), pc_I_I, if_neg (by omega), pc_I_I, if_neg (by omega), pc_I_I, if_pos ⟨rfl, rfl⟩]
      · rw [pc_I_I, if_neg (by omega), pc_I_I, if_neg (by omega), pc_I_I, if_pos ⟨rfl, rfl⟩]
      · rw [pc_I_I, if_neg (by omega), pc_I_I, if_pos ⟨rfl, rfl⟩]
    · obtain ⟨e1, e2, e3, e4⟩ := aA_o (O := D.1) (k := k) (a := x) (b := y) (c := z) e
      have f1 : o_ak (d_addA D k x y z).1 j = o_ak D.1 j := e1
      have f2 : o_a1 (d_addA D k x y z).1 j = o_a1 D.1 j := e2
      have f3 : o_a2 (d_addA D k x y z).1 j = o_a2 D.1 j := e3
      have f4 : o_a3 (d_addA D k x y z).1 j = o_a3 D.1 j := e4
      rw [f1, f2, f3, f4]
      obtain ⟨g1, g2, g3, g4⟩ := h8 j (by omega)
      exact ⟨(rd _ (by omega) (by omega)).trans g1, (rd _ (by omega) (by omega)).trans g2, (rd _ (by omega) (by omega)).trans g3, (rd _ (by omega) (by omega)).trans g4⟩
  · have hj2 : j < o_N D.1 := hj
    exact (rd _ (by omega) (by omega)).trans (h9 j hj)
  · have hj2 : j < o_R D.1 := hj
    exact (rd _ (by omega) (by omega)).trans (h10 j hj)
theorem Rf_adds {ak : Bool} {T : Nat → Nat} {n f deep a : Nat} {D : DT} {h : am_H} (R : RSa h f T n ak D a deep) (w : wfD D no_x) (hA : o_A D.1 < 32) (k x y z d : Nat) : ∃ h', f_Rf_adds (d + 1) h f (nI k) (nI x) (nI y) (nI z) = some (.inr none, h') ∧ fPr f h h' ∧ RSa h' f T n ak (d_addA D k x y z) a deep := by
  obtain ⟨H, Tp, e4, an, e6, e7, e17, e16, Rd⟩ := R
  have R1 := RwD_aA Rd k x y z hA w.1 w.2.1
  obtain ⟨g, eg⟩ : ∃ g, g = am_sI (am_sI (am_sI (am_sI h (f + 4) (1476 + 4 * o_A D.1) (nI k)) (f + 4) (1476 + 4 * o_A D.1 + 1) (nI x)) (f + 4) (1476 + 4 * o_A D.1 + 2) (nI y)) (f + 4) (1476 + 4 * o_A D.1 + 3) (nI z) := ⟨_, rfl⟩
  have qg : fPr f h g := by
    rw [eg]
    exact fPr_t (fPr_4 f h _ _) (fPr_t (fPr_4 f _ _ _) (fPr_t (fPr_4 f _ _ _) (fPr_4 f _ _ _)))
  have q1 : fPr f h (am_sI g (f + 4) 3 (nI (o_A D.1 + 1))) := fPr_t qg (fPr_4 f g _ _)
  have H1 := fPr_at q1 H
  have ar : ∀ (u : am_H), am_S u = am_S h → ∀ j, j < 1604 → ∀ K, am_ar u 9 (f + 4) (nI j) K = K j := fun u hu j hj K => ar_n (by rw [hu]; exact Rd.1) hj (by omega) K
  have ar3 : ∀ (u : am_H), am_S u = am_S h → ∀ K, am_ar u 9 (f + 4) 3 K = K 3 := fun u hu K => ar u hu 3 (by omega) K
  have vg : am_I g (f + 4) 3 = nI (o_A D.1) := by
    rw [eg, pc_I_I, if_neg (by omega), pc_I_I, if_neg (by omega), pc_I_I, if_neg (by omega), pc_I_I, if_neg (by omega)]
    exact Rd.2.2.2.2.2.1
  rw [← eg] at R1
  have fj : ∀ j, am_I (am_sI g (f + 4) 3 (nI (o_A D.1 + 1))) f j = am_I h f j := fun j => by
    rw [pc_I_I, if_neg (by omega), eg, pc_I_I, if_neg (by omega), pc_I_I, if_neg (by omega), pc_I_I, if_neg (by omega), pc_I_I, if_neg (by omega)]
  refine ⟨am_sI g (f + 4) 3 (nI (o_A D.1 + 1)), ?_, q1, H1, ⟨Tp.1, fun k hk => ?_, ?_⟩, ?_, an, ?_, ?_, ?_, ?_, R1⟩
  · have pkh : ∀ K, am_gp h f 8 10 K = K (f + 4) := fun K => lz_p (Rf_k H) (Rf_p10 H) K
    have gpI : ∀ (u : am_H) (a i : Nat) (v : Int32) (r k j : Nat) (K : Nat → Option am_R), am_gp (am_sI u a i v) r k j K = am_gp u r k j K := fun _ _ _ _ _ _ _ _ => rfl
    rw [e_Rf_adds, lz_k (Rf_k H), lz_ci (Rf_fineY H e6 d), if_neg (by decide)]
    simp only [gpI, ar_I, pkh]
    rw [ar3 h rfl, Rd.2.2.2.2.2.1, n_1476, n_4m, nI_add, ar h rfl _ (by omega), nI_1, ar h rfl _ (by omega), n_2, nI_add, ar h rfl _ (by omega), n_3, nI_add, ar h rfl _ (by omega), ← eg, ar h rfl 3 (by omega), ar h rfl 3 (by omega), vg, nI_1]
  · rw [q1.2.2.2.2.2.1 (f + 2) (by omega) (by omega)]
    exact Tp.2.1 k hk
  · rw [fj]; exact Tp.2.2
  · rw [fj]; exact e4
  · rw [fj]; exact e6
  · rw [fj]; exact e7
  · rw [fj]; exact e17
  · rw [fj]; exact e16
