/-! ===== the class reads all of a text; clears, opens ===== -/
theorem nI_sur (x : Int32) : ∃ m, x = nI m := ⟨x.toBitVec.toNat, Int32.toBitVec_inj.mp (by rw [show (nI x.toBitVec.toNat).toBitVec = BitVec.ofNat 32 x.toBitVec.toNat from rfl, BitVec.ofNat_toNat, BitVec.setWidth_eq])⟩
theorem Re_cb {h : am_H} {T : Nat → Nat} {n p : Nat} (H : LcAt h) (R : ReT h T n p) (d : Nat) : f_Re_canBegin d h 37 = some (.inr (some (.int (bo (decide (1 ≤ tk T n p ∧ tk T n p ≤ 5))))), h) := by
  have t13 := tk_13 T n p
  have e5 := R.2.2.1
  have ne : ∀ c, c < 14 → ¬ tk T n p = c → ¬ nI (tk T n p) = nI c := fun c hc q => by
    rw [nI_e32 (by omega) (by omega)]
    exact q
  rw [e_Re_canBegin, lz_i (Lc_k37 H) e5]
  by_cases c1 : tk T n p = 1
  · rw [if_pos (by rw [c1]; rfl), o1_1, decide_eq_true (by omega), bo_t]
  · rw [if_neg (show ¬ nI (tk T n p) = (1 : Int32) from ne 1 (by omega) c1), lz_i (Lc_k37 H) e5]
    by_cases c2 : tk T n p = 2
    · rw [if_pos (by rw [c2]; rfl), o1_1, decide_eq_true (by omega), bo_t]
    · rw [if_neg (show ¬ nI (tk T n p) = (2 : Int32) from ne 2 (by omega) c2), lz_i (Lc_k37 H) e5]
      by_cases c3 : tk T n p = 3
      · rw [if_pos (by rw [c3]; rfl), o1_1, decide_eq_true (by omega), bo_t]
      · rw [if_neg (show ¬ nI (tk T n p) = (3 : Int32) from ne 3 (by omega) c3), lz_i (Lc_k37 H) e5]
        by_cases c4 : tk T n p = 4
        · rw [if_pos (by rw [c4]; rfl), o1_1, decide_eq_true (by omega), bo_t]
        · rw [if_neg (show ¬ nI (tk T n p) = (4 : Int32) from ne 4 (by omega) c4), lz_i (Lc_k37 H) e5]
          by_cases c5 : tk T n p = 5
          · rw [if_pos (by rw [c5]; rfl), o1_1, decide_eq_true (by omega), bo_t]
          · rw [if_neg (show ¬ nI (tk T n p) = (5 : Int32) from ne 5 (by omega) c5), o1_0, decide_eq_false (by omega), bo_f]
theorem Re_rsf {h : am_H} {T : Nat → Nat} {n p : Nat} (H : LcAt h) (Tp : TpC h T n) (R : ReT h T n p) (hp : p ≤ n) (d : Nat) : f_Re_roleSignFollows (d + 1) h 37 = some (.inr (some (.int (bo (pd (tk T n (sk T n (nx T n p)) = 10 ∨ tk T n (sk T n (nx T n p)) = 11))))), h) := by
  have x := nx_le (T := T) hp
  have sl := sk_le (T := T) x.1
  rw [e_Re_roleSignFollows, lz_i (Lc_k37 H) R.2.1, lz_k (Lc_k37 H), lz_ci (Re_bb H Tp R.1 x.1 d), lz_k (Lc_k37 H), show (42 : Int32) = nI 42 from rfl, lz_ci (Re_sg H Tp R.1 (by omega) (show 42 < 128 by omega) d)]
  by_cases c1 : sk T n (nx T n p) < n ∧ T (sk T n (nx T n p)) = 42
  · rw [decide_eq_true c1, bo_t, if_neg (by decide), o1_1, pd_t (Or.inl (tk_st.mpr c1)), bo_t]
  · rw [decide_eq_false c1, bo_f, if_pos rfl, lz_k (Lc_k37 H), show (60 : Int32) = nI 60 from rfl, lz_ci (Re_sg H Tp R.1 (by omega) (show 60 < 128 by omega) d)]
    by_cases c2 : sk T n (nx T n p) < n ∧ T (sk T n (nx T n p)) = 60
    · rw [decide_eq_true c2, bo_t, if_neg (by decide), lz_k (Lc_k37 H), nI_1, lz_ci (Re_sg H Tp R.1 (by omega) (show 60 < 128 by omega) d)]
      by_cases c3 : sk T n (nx T n p) + 1 < n ∧ T (sk T n (nx T n p) + 1) = 60
      · rw [decide_eq_true c3, bo_t, if_neg (by decide), o1_1, pd_t (Or.inr (tk_ll.mpr ⟨c2.1, c2.2, c3⟩)), bo_t]
      · rw [decide_eq_false c3, bo_f, if_pos rfl, o1_0, pd_f (fun q => q.elim (fun q => c1 (tk_st.mp q)) (fun q => c3 (tk_ll.mp q).2.2)), bo_f]
    · rw [decide_eq_false c2, bo_f, if_pos rfl, o1_0, pd_f (fun q => q.elim (fun q => c1 (tk_st.mp q)) (fun q => c2 ⟨(tk_ll.mp q).1, (tk_ll.mp q).2.1⟩)), bo_f]
theorem RA_N {h : am_H} (H : LcAt h) (e9 : ¬ am_I h 37 9 = 0) (i : Int32) (d : Nat) : f_Re_readAxioms_2 (d + 1) h 37 i = some (.inr none, h) := by
  rw [e_Re_readAxioms_2]
  by_cases c : 32 < i
  · rw [if_pos c]
  · rw [if_neg c, lz_i (Lc_k37 H) rfl, if_neg e9]
/-- all read, or a fault -/
def TC (F : Option am_R) (h : am_H) (o : Nat) (T : Nat → Nat) (n : Nat) (r : (Nat × Nat) ⊕ DT) : Prop := match r with
  | .inl e => ∃ h', F = some (.inr none, h') ∧ FLT h h' o T n e
  | .inr D => ∃ h', F = some (.inr none, h') ∧ fPc o h h' ∧ ∃ p deep k K, k ≤ 400 ∧ PB h' o T n false D p deep k K
theorem TC_e {F : Option am_R} {h : am_H} {o : Nat} {T : Nat → Nat} {n : Nat} {e : Nat × Nat} {h' : am_H} (h1 : F = some (.inr none, h')) (h2 : FLT h h' o T n e) : TC F h o T n (.inl e) := ⟨h', h1, h2⟩
theorem TC_t {F : Option am_R} {h g : am_H} {o : Nat} {T : Nat → Nat} {n : Nat} {r : (Nat × Nat) ⊕ DT} (q : fPc o h g) (X : TC F g o T n r) : TC F h o T n r := by
  cases r with
  | inl e =>
    obtain ⟨h', e1, e2⟩ := X
    exact ⟨h', e1, FLT_t q e2⟩
  | inr D =>
    obtain ⟨h', e1, e2, e3⟩ := X
    exact ⟨h', e1, fPc_t q e2, e3⟩
theorem Re_ra {o : Nat} {T : Nat → Nat} {n : Nat} (d : Nat) : ∀ fu q D h deep k K, PB h o T n false D (sk T n q) deep k K → k ≤ 400 → wfD D no_x → q ≤ n → o_P D.1 ≤ 60 → n - q < fu → TC (f_Re_readAxioms_2 (d + 8) h 37 (nI (o_A D.1))) h o T n (spT T n fu q D)
  | 0, q, D, h, deep, k, K, _, _, _, _, _, hf => absurd hf (by omega)
  | fu + 1, q, D, h, deep, k, K, B, hk, w, hq, h60, hf => by
    have H := B.1
    have ho := B.2.2.1
    have n4 := B.2.2.2.1.1
    have Tp := B.2.2.2.1
    have R := B.2.2.2.2.2.2.2.1
    have a32 := w.2.2.2.1
    have t13 := tk_13 T n (sk T n q)
    have g0 := sk_ge T n q
    have sl := sk_le (T := T) hq
    have H3 := Lc_on H ho
    have fl : ∀ i e, i = nI e → e ≠ 0 → e ≤ 6 → TC (am_cv (f_Re_fail (d + 7) h 37 i (nI (sk T n q))) fun h_6 => f_Re_readAxioms_2 (d + 8) h_6 37 (nI (o_A D.1) + 1)) h o T n (.inl (e, sk T n q)) := by
      intro i e ei e0 e6
      obtain ⟨u, eu, fu, -⟩ := PB_fl B w hk e (sk T n q) (d + 7)
      have Hu := fPc_lc fu.1 H
      have bad : ¬ am_I u 37 9 = 0 := by
        rw [fu.2.1]
        exact nz6 e0 e6
      rw [ei, lz_cv eu, RA_N Hu bad _ (d + 7)]
      exact TC_e rfl fu
    have ax : ∀ (F : Option am_R) (r : PRs), CA F h o T n r → (∀ e, r = .inl e → e.1 ≠ 0 ∧ e.1 ≤ 6) → (∀ q2 D2 v, r = .inr (q2, D2, v) → q < q2 ∧ q2 ≤ n ∧ wfD D2 no_x ∧ o_P D2.1 ≤ 60 ∧ o_A D2.1 = o_A D.1 + 1) → TC (am_cv F fun h_6 => f_Re_readAxioms_2 (d + 8) h_6 37 (nI (o_A D.1) + 1)) h o T n (match r with | .inl e => .inl e | .inr y => spT T n fu y.1 y.2.1) := by
      intro F r X he hr
      cases r with
      | inl e =>
        obtain ⟨u, eu, fu⟩ := X
        have Hu := fPc_lc fu.1 H
        have bad : ¬ am_I u 37 9 = 0 := by
          rw [fu.2.1]
          exact nz6 (he e rfl).1 (he e rfl).2
        rw [lz_cv eu, RA_N Hu bad _ (d + 7)]
        exact TC_e rfl fu
      | inr y =>
        obtain ⟨q2, D2, v⟩ := y
        obtain ⟨u, eu, qu, deep', k', K', hk', Bu⟩ := X
        obtain ⟨a1, a2, a3, a4, a5⟩ := hr q2 D2 v rfl
        have ih := Re_ra d fu q2 D2 u deep' k' K' Bu hk' a3 a2 a4 (by omega)
        rw [a5] at ih
        rw [lz_cv eu, nI_1]
        exact TC_t qu ih
    rw [spT_s, e_Re_readAxioms_2, if_neg (by rw [show (32 : Int32) = nI 32 from rfl, n_lt _ _ (by omega) (by omega)]; omega), lz_i (Lc_k37 H) B.2.2.2.2.2.1, if_pos rfl, lz_i (Lc_k37 H) R.2.2.1]
    by_cases c0 : tk T n (sk T n q) = 0
    · rw [if_pos c0, if_pos (by rw [c0]; rfl)]
      exact ⟨h, rfl, fPc_r o h, _, deep, k, K, hk, B⟩
    · rw [if_neg c0, if_neg (by rw [show (0 : Int32) = nI 0 from rfl, nI_e32 (by omega) (by omega)]; exact c0), lz_k (Lc_k37 H), lz_ci (Re_cb H R (d + 7))]
      by_cases c5 : 5 < tk T n (sk T n q)
      · rw [if_pos c5, decide_eq_false (by omega), bo_f, if_pos rfl, lz_i (Lc_k37 H) R.2.2.2.1, lz_k (Lc_k37 H)]
        exact fl 1 1 rfl (by omega) (by omega)
      · have pn := tk_lt (T := T) (n := n) (p := sk T n q) (by omega)
        obtain ⟨e7, e8⟩ := R.2.2.2.2 pn
        have ln := lw_n (T := T) (n := n) (p := sk T n q) (by omega)
        rw [if_neg c5, decide_eq_true (by omega), bo_t, if_neg (by decide), lz_i (Lc_k37 H) R.2.2.1]
        have goal70 : ¬ (tk T n (sk T n q) = 1 ∧ 6 < lw T n (sk T n q)) → TC (f_Re_readAxioms_70 (d + 8) h 37 (nI (o_A D.1))) h o T n (if o_A D.1 = 32 then .inl (3, sk T n q) else match (if tk T n (sk T n q) = 1 ∧ (tk T n (sk T n (sk T n q + lw T n (sk T n q))) = 10 ∨ tk T n (sk T n (sk T n q + lw T n (sk T n q))) = 11) then spR T n q D else spC T n q D) with
      | .inl e => .inl e
      | .inr y => spT T n fu y.1 y.2.1) := by
          intro c6
          rw [e_Re_readAxioms_70, lz_p (Lc_k37 H) B.2.1, lz_i (On_k H3) B.2.2.2.2.2.2.2.2.2.2.1.1]
          by_cases c7 : o_A D.1 = 32
          · rw [if_pos c7, if_neg (by rw [c7]; decide), lz_i (Lc_k37 H) R.2.2.2.1, lz_k (Lc_k37 H)]
            exact fl 3 3 rfl (by omega) (by omega)
          · have cax := ax (f_Re_readConceptAxiom (d + 7) h 37) (spC T n q D) (Re_cax B w hq (by omega) d) (fun e he => spC_k n4 hq w he) (fun q2 D2 v he => spC_c hq w (by omega) he)
            rw [if_neg c7, if_pos (by rw [show (32 : Int32) = nI 32 from rfl, n_lt _ _ (by omega) (by omega)]; omega), lz_i (Lc_k37 H) R.2.2.1]
            by_cases c1 : tk T n (sk T n q) = 1
            · rw [if_pos (by rw [c1]; rfl), lz_k (Lc_k37 H), lz_ci (Re_rsf H Tp R sl (d + 6)), nx_w (T := T) (n := n) (p := sk T n q) (by omega) (by omega)]
              by_cases c8 : tk T n (sk T n (sk T n q + lw T n (sk T n q))) = 10 ∨ tk T n (sk T n (sk T n q + lw T n (sk T n q))) = 11
              · rw [pd_t c8, bo_t, if_neg (by decide), if_pos ⟨c1, c8⟩, lz_k (Lc_k37 H)]
                exact ax (f_Re_readRoleAxiom (d + 7) h 37) (spR T n q D) (Re_rax B w hq h60 (by omega) hk (d + 2)) (fun e he => spR_k he) (fun q2 D2 v he => by
                  obtain ⟨a1, a2, a3, a4, a5⟩ := spR_c hq w (by omega) he
                  exact ⟨a1, a2, a3, by omega, a5⟩)
              · rw [pd_f c8, bo_f, if_pos rfl, if_neg (fun e => c8 e.2), lz_k (Lc_k37 H)]
                exact cax
            · rw [if_neg (by rw [n_1, nI_e32 (by omega) (by omega)]; exact c1), if_neg (fun e => c1 e.1), lz_k (Lc_k37 H)]
              exact cax
        by_cases c1 : tk T n (sk T n q) = 1
        · rw [if_pos (by rw [c1]; rfl), lz_i (Lc_k37 H) e7]
          by_cases c6 : 6 < lw T n (sk T n q)
          · rw [if_neg (by rw [n_6, n_le _ _ (by omega) (by omega)]; omega), lz_i (Lc_k37 H) R.2.2.2.1, lz_k (Lc_k37 H), if_pos ⟨c1, c6⟩]
            exact fl 2 2 rfl (by omega) (by omega)
          · rw [if_pos (by rw [n_6, n_le _ _ (by omega) (by omega)]; omega), if_neg (fun e => c6 e.2)]
            exact goal70 (fun e => c6 e.2)
        · rw [if_neg (by rw [n_1, nI_e32 (by omega) (by omega)]; exact c1), if_neg (fun e => c1 e.1)]
          exact goal70 (fun e => c1 e.1)
/-! cleared -/
def fCw (o : Nat) (h h' : am_H) : Prop := am_S h' = am_S h ∧ am_G h' = am_G h ∧ am_T h' = am_T h ∧ am_P h' = am_P h ∧ ∀ b, b < o ∨ o + 17 ≤ b → am_I h' b = am_I h b ∧ am_L h' b = am_L h b
theorem OnDP_x {h : am_H} {o : Nat} {D D' : DT} (okp : ∀ p, p < o_P D.1 → o_okP D.1 p) (H : OnDP h o D) (eP : o_P D'.1 = o_P D.1) (e : ∀ p, p < o_P D.1 → o_pk D'.1 p = o_pk D.1 p ∧ o_pa D'.1 p = o_pa D.1 p ∧ o_pb D'.1 p = o_pb D.1 p) : OnDP h o D' := by
  obtain ⟨h1, h2, h3⟩ := H
  refine ⟨by rw [eP]; exact h1, fun p hp => ?_, fun p hp => ?_⟩
  · rw [eP] at hp
    obtain ⟨e1, e2, e3⟩ := e p hp
    obtain ⟨g1, g2⟩ := sgo_e okp e hp
    rw [e1, e2, e3, g1, g2]
    exact h2 p hp
  · rw [eP] at hp
    obtain ⟨e1, e2, e3⟩ := e p hp
    rw [e1, e2]
    exact h3 p hp
def d_00 : DT := ((0, 0, 0, 0, (fun _ => (0, 0, 0)), fun _ => (0, 0, 0, 0)), fun _ _ => 0, fun _ _ => 0)
def d_01 : DT := d_addP d_00 1 4294967295 4294967295
def d_02 : DT := d_addP d_01 2 4294967295 4294967295
theorem On_clr {h : am_H} {o : Nat} (H : OnAt h o) (W : am_I h (o + 1) 0 = nI 24 ∧ am_I h (o + 3) 0 = nI 8) (d : Nat) : ∃ h', f_On_clear (d + 1) h o = some (.inr none, h') ∧ fCw o h h' ∧ OnDW h' o d_0 ∧ OnDP h' o d_0 ∧ am_I h' o 9 = nI 0 ∧ am_L h' o 10 = 0 := by
  obtain ⟨s1, e1⟩ : ∃ s, s = am_sI h (o + 1) 2 0 := ⟨_, rfl⟩
  obtain ⟨s2, e2⟩ : ∃ s, s = am_sI s1 (o + 3) 2 0 := ⟨_, rfl⟩
  obtain ⟨s3, e3⟩ : ∃ s, s = am_sI s2 o 9 0 := ⟨_, rfl⟩
  obtain ⟨s4, e4⟩ : ∃ s, s = am_sL s3 o 10 0 := ⟨_, rfl⟩
  obtain ⟨s5, e5⟩ : ∃ s, s = am_sI s4 o 3 0 := ⟨_, rfl⟩
  have H1 : OnAt s1 o := by rw [e1]; exact H
  have H2 : OnAt s2 o := by rw [e2]; exact H1
  have H3 : OnAt s3 o := by rw [e3]; exact H2
  have H4 : OnAt s4 o := by rw [e4]; exact H3
  have H5 : OnAt s5 o := by rw [e5]; exact H4
  have hs : (am_S s5)[o + 5]? = some (9, 24) := H5.2.2.2.2.2.2.2.2.2.2.2.2.2.2.2.2.2.2.2.2.2.1
  obtain ⟨u, eu, qu, hu⟩ := Ar_fillI hs (by omega) (-1) d
  have Hu : OnAt u o := OnAt_of H5 qu.2.2.1 (by rw [qu.2.1]) (by rw [qu.2.1]) (by rw [qu.2.1])
  have S5 : am_S s5 = am_S h ∧ am_G s5 = am_G h ∧ am_T s5 = am_T h ∧ am_P s5 = am_P h := by
    rw [e5, e4, e3, e2, e1]
    exact ⟨rfl, rfl, rfl, rfl⟩
  have I5 : ∀ b, b ≠ o → b ≠ o + 1 → b ≠ o + 3 → am_I s5 b = am_I h b := fun b p1 p2 p3 => by
    funext j
    rw [e5, pc_I_I, if_neg (fun e => p1 e.1), e4, show am_I (am_sL s3 o 10 0) b j = am_I s3 b j from rfl, e3, pc_I_I, if_neg (fun e => p1 e.1), e2, pc_I_I, if_neg (fun e => p3 e.1), e1, pc_I_I, if_neg (fun e => p2 e.1)]
  have L5 : ∀ b j, am_L s5 b j = if b = o ∧ j = 10 then 0 else am_L h b j := fun b j => by
    rw [e5, show am_L (am_sI s4 o 3 0) b j = am_L s4 b j from rfl, e4, pc_L_L, e3, show am_L (am_sI s2 o 9 0) = am_L s2 from rfl, e2, show am_L (am_sI s1 (o + 3) 2 0) = am_L s1 from rfl, e1]
    rfl
  have i3 : am_I s5 o 3 = 0 := by rw [e5, pc_I_I, if_pos ⟨rfl, rfl⟩]
  have i9 : am_I s5 o 9 = 0 := by rw [e5, pc_I_I, if_neg (by omega), e4, show am_I (am_sL s3 o 10 0) o 9 = am_I s3 o 9 from rfl, e3, pc_I_I, if_pos ⟨rfl, rfl⟩]
  have i1 : ∀ j, am_I s5 (o + 1) j = if j = 2 then 0 else am_I h (o + 1) j := fun j => by
    rw [e5, pc_I_I, if_neg (by omega), e4, show am_I (am_sL s3 o 10 0) (o + 1) j = am_I s3 (o + 1) j from rfl, e3, pc_I_I, if_neg (by omega), e2, pc_I_I, if_neg (by omega), e1, pc_I_I]
    by_cases e : j = 2
    · rw [if_pos ⟨rfl, e⟩, if_pos e]
    · rw [if_neg (fun q => e q.2), if_neg e]
  have i33 : ∀ j, am_I s5 (o + 3) j = if j = 2 then 0 else am_I h (o + 3) j := fun j => by
    rw [e5, pc_I_I, if_neg (by omega), e4, show am_I (am_sL s3 o 10 0) (o + 3) j = am_I s3 (o + 3) j from rfl, e3, pc_I_I, if_neg (by omega), e2, pc_I_I]
    by_cases e : j = 2
    · rw [if_pos ⟨rfl, e⟩, if_pos e]
    · rw [if_neg (fun q => e q.2), if_neg e, e1, pc_I_I, if_neg (by omega)]
  have P0 : OnDP u o d_00 := ⟨by rw [qu.2.2.2.2.2 o (by omega), i3]; rfl, fun p hp => absurd hp (Nat.not_lt_zero p), fun p hp => absurd hp (Nat.not_lt_zero p)⟩
  have ok1 : ∀ p, p < o_P d_01.1 → o_okP d_01.1 p := fun p hp => by
    have : p < 1 := hp
    have : p = 0 := by omega
    subst this
    exact Or.inr (Or.inl ⟨rfl, rfl, rfl, rfl⟩)
  have ok2 : ∀ p, p < o_P d_02.1 → o_okP d_02.1 p := fun p hp => by
    have : p < 2 := hp
    rcases (show p = 0 ∨ p = 1 by omega) with rfl | rfl
    · exact Or.inr (Or.inl ⟨rfl, rfl, rfl, rfl⟩)
    · exact Or.inr (Or.inr (Or.inl ⟨rfl, rfl, rfl, rfl⟩))
  have t1 : ∃ v, f_On_intern d u o 1 (-1) (-1) = some (.inr (some (.int (nI 0))), v) ∧ fOn o u v ∧ OnDP v o d_01 := by
    rcases On_int Hu (D := d_00) (fun p hp => absurd hp (Nat.not_lt_zero p)) (by decide) (by decide) P0 (by decide) (k := 1) (a := 4294967295) (b := 4294967295) (Or.inr (Or.inr (Or.inr ⟨Or.inl rfl, rfl, rfl⟩))) d with ⟨j, y, -⟩ | ⟨-, e60, -⟩ | ⟨-, -, v, ev, qv, Pv, -⟩
    · exact absurd y.1 (Nat.not_lt_zero j)
    · exact absurd e60 (by decide)
    · refine ⟨v, ?_, qv, Pv⟩
      rw [lit_m1]
      exact ev
  obtain ⟨v, ev, qv, Pv⟩ := t1
  have Hv : OnAt v o := OnAt_of Hu qv.1 (by rw [qv.2.2.2.1]) (by rw [qv.2.2.2.1]) (by rw [qv.2.2.2.1])
  have t2 : ∃ z, f_On_intern d v o 2 (-1) (-1) = some (.inr (some (.int (nI 1))), z) ∧ fOn o v z ∧ OnDP z o d_02 := by
    rcases On_int Hv (D := d_01) ok1 (by decide) (by decide) Pv (by decide) (k := 2) (a := 4294967295) (b := 4294967295) (Or.inr (Or.inr (Or.inr ⟨Or.inr rfl, rfl, rfl⟩))) d with ⟨j, y, -⟩ | ⟨-, e60, -⟩ | ⟨-, -, z, ez, qz, Pz, -⟩
    · exfalso
      have : j < 1 := y.1
      have : j = 0 := by omega
      subst this
      exact absurd y.2.1 (by decide)
    · exact absurd e60 (by decide)
    · refine ⟨z, ?_, qz, Pz⟩
      rw [lit_m1]
      exact ez
  obtain ⟨z, ez, qz, Pz⟩ := t2
  have zI : ∀ b, b ≠ o → (b < o + 5 ∨ o + 11 ≤ b) → am_I z b = am_I s5 b := fun b p1 p2 => by rw [qz.2.2.2.2.2.1 b p1 p2, qv.2.2.2.2.2.1 b p1 p2, qu.2.2.2.2.2 b (by omega)]
  have zL : am_L z = am_L s5 := by rw [qz.2.2.2.2.1, qv.2.2.2.2.1, qu.1]
  refine ⟨z, ?_, ⟨by rw [qz.1, qv.1, qu.2.2.1, S5.1], by rw [qz.2.1, qv.2.1, qu.2.2.2.1, S5.2.1], by rw [qz.2.2.1, qv.2.2.1, qu.2.2.2.2.1, S5.2.2.1], by rw [qz.2.2.2.1, qv.2.2.2.1, qu.2.1, S5.2.2.2], fun b p => ⟨by rw [zI b (by omega) (by omega), I5 b (by omega) (by omega) (by omega)], ?_⟩⟩, ⟨?_, ?_, ?_, ?_, fun k hk => absurd hk (Nat.not_lt_zero k), fun k hk => absurd hk (Nat.not_lt_zero k)⟩, ?_, ?_, ?_⟩
  · rw [e_On_clear, lz_p (On_k H) (On_p0 H), lz_k (On_k1 H), ← e1, lz_p (On_k H1) (On_p1 H1), lz_k (On_k3 H1), ← e2, lz_k (On_k H2), ← e3, lz_k (On_k H3), ← e4, lz_k (On_k H4), ← e5, lz_p (On_k H5) (On_p2 H5), lz_cv eu, lz_k (On_k Hu), lz_ci ev, lz_k (On_k Hv), lz_ci ez]
  · rw [zL]
    funext j
    rw [L5, if_neg (by omega)]
  · rw [zI _ (by omega) (by omega), i1, if_neg (by omega)]
    exact W.1
  · rw [zI _ (by omega) (by omega), i1, if_pos rfl]
    rfl
  · rw [zI _ (by omega) (by omega), i33, if_neg (by omega)]
    exact W.2
  · rw [zI _ (by omega) (by omega), i33, if_pos rfl]
    rfl
  · refine OnDP_x ok2 Pz rfl (fun p hp => ?_)
    have : p < 2 := hp
    rcases (show p = 0 ∨ p = 1 by omega) with rfl | rfl
    · exact ⟨rfl, rfl, rfl⟩
    · exact ⟨rfl, rfl, rfl⟩
  · rw [qz.2.2.2.2.2.2 9 (by omega), qv.2.2.2.2.2.2 9 (by omega), qu.2.2.2.2.2 o (by omega), i9]
    rfl
  · rw [zL, L5, if_pos ⟨rfl, rfl⟩]
/-! opened -/
def fOp (h h' : am_H) : Prop := am_S h' = am_S h ∧ am_G h' = am_G h ∧ am_T h' = am_T h ∧ (∀ b, b ≠ 37 → am_I h' b = am_I h b ∧ am_L h' b = am_L h b ∧ am_P h' b = am_P h b) ∧ (∀ j, j ≠ 2 → am_P h' 37 j = am_P h 37 j)
theorem Re_opens {h : am_H} {o : Nat} {T : Nat → Nat} {n : Nat} {D : DT} (H : LcAt h) (ho : o = 3 ∨ o = 20) (hn : n ≤ 400) (ht : ∀ k, k < n → T k < 256 ∧ am_I h 2 k = sbt (T k)) (ak : Bool) (W : OnDW h o D) (P : OnDP h o D) (h60 : o_P D.1 ≤ 60) (A : am_I h o 9 = nI (o_A D.1) ∧ (∀ k, k < o_A D.1 → am_I h (o + 11) k = nI (o_ak D.1 k) ∧ am_I h (o + 12) k = nI (o_a1 D.1 k) ∧ am_I h (o + 13) k = nI (o_a2 D.1 k) ∧ am_I h (o + 14) k = nI (o_a3 D.1 k) ∧ am_I h (o + 15) k = axn D.1 k ∧ am_I h (o + 16) k = axr D.1 k) ∧ (ak = false → am_L h o 10 = wL (fun k => k < o_A D.1))) (hk : ∃ k, k ≤ 400 ∧ am_I h 37 16 = nI k) (d : Nat) : ∃ h', f_Re_open (d + 3) h 37 (nI n) o (bo ak) = some (.inr none, h') ∧ fOp h h' ∧ ∃ deep k K, k ≤ 400 ∧ PB h' o T n ak D (sk T n 0) deep k K := by
  obtain ⟨k, k4, e16⟩ := hk
  obtain ⟨deep, e17⟩ := nI_sur (am_I h 37 17)
  have bo01 : ∀ f, am_01 (bo ak) f = f := fun f => by cases ak <;> rfl
  obtain ⟨s1, e1⟩ : ∃ s, s = am_sI h 37 1 (nI n) := ⟨_, rfl⟩
  obtain ⟨s2, e2⟩ : ∃ s, s = am_sP s1 37 2 (some o) := ⟨_, rfl⟩
  obtain ⟨s3, e3⟩ : ∃ s, s = am_sI s2 37 3 (bo ak) := ⟨_, rfl⟩
  obtain ⟨s4, e4⟩ : ∃ s, s = am_sI s3 37 4 0 := ⟨_, rfl⟩
  obtain ⟨s5, e5⟩ : ∃ s, s = am_sI s4 37 9 0 := ⟨_, rfl⟩
  obtain ⟨s6, e6⟩ : ∃ s, s = am_sI s5 37 10 (-1) := ⟨_, rfl⟩
  obtain ⟨s7, e7⟩ : ∃ s, s = am_sI s6 37 11 0 := ⟨_, rfl⟩
  have mp : ∀ b j, ¬ mP b j → am_P s2 b j = am_P s1 b j := fun b j q => by
    rw [e2, pc_P_P, if_neg]
    rintro ⟨rfl, rfl⟩
    exact q (Or.inr (Or.inl ⟨rfl, rfl⟩))
  have H1 : LcAt s1 := LcAt_of H (by rw [e1]; rfl) (fun _ _ _ => by rw [e1]; rfl)
  have H2 : LcAt s2 := LcAt_of H1 (by rw [e2]; rfl) mp
  have H3 : LcAt s3 := LcAt_of H2 (by rw [e3]; rfl) (fun _ _ _ => by rw [e3]; rfl)
  have H4 : LcAt s4 := LcAt_of H3 (by rw [e4]; rfl) (fun _ _ _ => by rw [e4]; rfl)
  have H5 : LcAt s5 := LcAt_of H4 (by rw [e5]; rfl) (fun _ _ _ => by rw [e5]; rfl)
  have H6 : LcAt s6 := LcAt_of H5 (by rw [e6]; rfl) (fun _ _ _ => by rw [e6]; rfl)
  have H7 : LcAt s7 := LcAt_of H6 (by rw [e7]; rfl) (fun _ _ _ => by rw [e7]; rfl)
  have S7 : am_S s7 = am_S h ∧ am_G s7 = am_G h ∧ am_T s7 = am_T h ∧ am_L s7 = am_L h := by
    rw [e7, e6, e5, e4, e3, e2, e1]
    exact ⟨rfl, rfl, rfl, rfl⟩
  have P7 : ∀ b j, am_P s7 b j = if b = 37 ∧ j = 2 then some o else am_P h b j := fun b j => by
    rw [e7, e6, e5, e4, e3, show am_P (am_sI (am_sI (am_sI (am_sI (am_sI s2 37 3 (bo ak)) 37 4 0) 37 9 0) 37 10 (-1)) 37 11 0) b j = am_P s2 b j from rfl, e2, pc_P_P, e1]
    rfl
  have I7 : ∀ b j, am_I s7 b j = if b = 37 ∧ j = 11 then 0 else if b = 37 ∧ j = 10 then -1 else if b = 37 ∧ j = 9 then 0 else if b = 37 ∧ j = 4 then 0 else if b = 37 ∧ j = 3 then bo ak else if b = 37 ∧ j = 1 then nI n else am_I h b j := fun b j => by
    rw [e7, pc_I_I, e6, pc_I_I, e5, pc_I_I, e4, pc_I_I, e3, pc_I_I, e2, show am_I (am_sP s1 37 2 (some o)) b j = am_I s1 b j from rfl, e1, pc_I_I]
  have Ib : ∀ b, b ≠ 37 → am_I s7 b = am_I h b := fun b q => by
    funext j
    rw [I7, if_neg (fun e => q e.1), if_neg (fun e => q e.1), if_neg (fun e => q e.1), if_neg (fun e => q e.1), if_neg (fun e => q e.1), if_neg (fun e => q e.1)]
  have Ij : ∀ j, j ≠ 11 → j ≠ 10 → j ≠ 9 → j ≠ 4 → j ≠ 3 → j ≠ 1 → am_I s7 37 j = am_I h 37 j := fun j a b c d e f => by
    rw [I7, if_neg (fun q => a q.2), if_neg (fun q => b q.2), if_neg (fun q => c q.2), if_neg (fun q => d q.2), if_neg (fun q => e q.2), if_neg (fun q => f q.2)]
  have j1 : am_I s7 37 1 = nI n := by rw [I7, if_neg (by omega), if_neg (by omega), if_neg (by omega), if_neg (by omega), if_neg (by omega), if_pos ⟨rfl, rfl⟩]
  have j3 : am_I s7 37 3 = bo ak := by rw [I7, if_neg (by omega), if_neg (by omega), if_neg (by omega), if_neg (by omega), if_pos ⟨rfl, rfl⟩]
  have j4 : am_I s7 37 4 = nI 0 := by
    rw [I7, if_neg (by omega), if_neg (by omega), if_neg (by omega), if_pos ⟨rfl, rfl⟩]
    rfl
  have j9 : am_I s7 37 9 = 0 := by rw [I7, if_neg (by omega), if_neg (by omega), if_pos ⟨rfl, rfl⟩]
  have j10 : am_I s7 37 10 = -1 := by rw [I7, if_neg (by omega), if_pos ⟨rfl, rfl⟩]
  have j11 : am_I s7 37 11 = 0 := by rw [I7, if_pos ⟨rfl, rfl⟩]
  have T7 : TpC s7 T n := ⟨hn, fun i hi => ⟨(ht i hi).1, by rw [Ib 2 (by omega)]; exact (ht i hi).2⟩⟩
  obtain ⟨z, ez, qz, Rz⟩ := Re_step H7 T7 j1 j4 (Nat.zero_le n) d
  have zb : ∀ b, b ≠ 37 → am_I z b = am_I h b := fun b q => (qz.2.2.2.2.1 b q).trans (Ib b q)
  have zL : ∀ b, b ≠ 37 → am_L z b = am_L h b := fun b q => (qz.2.2.2.2.2.1 b q).trans (by rw [S7.2.2.2])
  have zj : ∀ j, j ≠ 4 → j ≠ 5 → j ≠ 6 → j ≠ 7 → am_I z 37 j = am_I s7 37 j := qz.2.2.2.2.2.2
  have z3 : am_I z 37 3 = bo ak := (zj 3 (by omega) (by omega) (by omega) (by omega)).trans j3
  refine ⟨z, ?_, ⟨by rw [qz.1, S7.1], by rw [qz.2.1, S7.2.1], by rw [qz.2.2.1, S7.2.2.1], fun b q => ⟨zb b q, zL b q, ?_⟩, fun j q => ?_⟩, deep, k, fun i => (Classical.choose (nI_sur (am_I h 38 i)), Classical.choose (nI_sur (am_I h 39 i))), k4, ⟨fSt_lc qz H7, ?_, ho, fSt_tp qz T7, z3, ?_, ?_, Rz, sk_le (Nat.zero_le n), ?_, ?_, ?_, ?_, ?_⟩⟩
  · have fin : ∀ f : am_H → Option am_R, (am_ck h 37 3 <| am_ck (am_sI h 37 1 (nI n)) 37 3 <| am_01 (bo ak) <| am_ck (am_sP (am_sI h 37 1 (nI n)) 37 2 (some o)) 37 3 <| am_ck (am_sI (am_sP (am_sI h 37 1 (nI n)) 37 2 (some o)) 37 3 (bo ak)) 37 3 <| am_ck (am_sI (am_sI (am_sP (am_sI h 37 1 (nI n)) 37 2 (some o)) 37 3 (bo ak)) 37 4 0) 37 3 <| am_ck (am_sI (am_sI (am_sI (am_sP (am_sI h 37 1 (nI n)) 37 2 (some o)) 37 3 (bo ak)) 37 4 0) 37 9 0) 37 3 <| am_01 0 <| am_ck (am_sI (am_sI (am_sI (am_sI (am_sP (am_sI h 37 1 (nI n)) 37 2 (some o)) 37 3 (bo ak)) 37 4 0) 37 9 0) 37 10 (-1)) 37 3 <| am_ck (am_sI (am_sI (am_sI (am_sI (am_sI (am_sP (am_sI h 37 1 (nI n)) 37 2 (some o)) 37 3 (bo ak)) 37 4 0) 37 9 0) 37 10 (-1)) 37 11 0) 37 3 <| am_cv (f_Re_step (d + 2) (am_sI (am_sI (am_sI (am_sI (am_sI (am_sP (am_sI h 37 1 (nI n)) 37 2 (some o)) 37 3 (bo ak)) 37 4 0) 37 9 0) 37 10 (-1)) 37 11 0) 37) f) = f z := by
      intro f
      rw [lz_k (Lc_k37 H), ← e1, lz_k (Lc_k37 H1), bo01, ← e2, lz_k (Lc_k37 H2), ← e3, lz_k (Lc_k37 H3), ← e4, lz_k (Lc_k37 H4), ← e5, lz_k (Lc_k37 H5), o1_0, ← e6, lz_k (Lc_k37 H6), ← e7, lz_k (Lc_k37 H7), lz_cv ez]
    rw [e_Re_open, lz_p (Lc_k37 H) (Lc_p37_0 H), Lc_l2 H]
    by_cases c : nI 400 ≤ nI n
    · have e400 : n = 400 := by
        rw [n_le _ _ (by omega) (by omega)] at c
        omega
      rw [if_pos c, lz_p (Lc_k37 H) (Lc_p37_0 H), Lc_l2 H, show nI 400 = nI n by rw [e400]]
      exact fin _
    · rw [if_neg c]
      exact fin _
  · funext j
    rw [qz.2.2.2.1, P7, if_neg (fun e => q e.1)]
  · rw [qz.2.2.2.1, P7, if_neg (fun e => q e.2)]
  · rw [qz.2.2.2.1, P7, if_pos ⟨rfl, rfl⟩]
  · rw [zj 9 (by omega) (by omega) (by omega) (by omega)]; exact j9
  · rw [zj 10 (by omega) (by omega) (by omega) (by omega)]; exact j10
  · exact OnDW_of W (zb _ (by omega)) (zb _ (by omega)) (zL _ (by omega)) (zL _ (by omega))
  · refine ⟨by rw [zb o (by omega)]; exact A.1, fun i hi => ?_, fun q => ?_⟩
    · rw [zb _ (by omega), zb _ (by omega), zb _ (by omega), zb _ (by omega), zb _ (by omega), zb _ (by omega)]
      exact A.2.1 i hi
    · rw [zL o (by omega)]
      refine A.2.2 ?_
      cases ak with
      | false => rfl
      | true => exact absurd (z3.symm.trans q) (by decide)
  · refine Or.inl ⟨h60, (zj 11 (by omega) (by omega) (by omega) (by omega)).trans j11, OnDP_of P (by rw [zb o (by omega)]) (fun j _ _ => zb _ (by omega))⟩
  · refine ⟨by rw [zj 16 (by omega) (by omega) (by omega) (by omega), Ij 16 (by omega) (by omega) (by omega) (by omega) (by omega) (by omega)]; exact e16, fun i _ => ⟨?_, fun _ => ?_⟩⟩
    · rw [zb 38 (by omega)]
      exact Classical.choose_spec (nI_sur (am_I h 38 i))
    · rw [zb 39 (by omega)]
      exact Classical.choose_spec (nI_sur (am_I h 39 i))
  · rw [zj 17 (by omega) (by omega) (by omega) (by omega), Ij 17 (by omega) (by omega) (by omega) (by omega) (by omega) (by omega)]
    exact e17
