/-! ===== sets that meet all reasons: the fewest, the least ===== -/
def m_hi (F : Nat → Nat → Prop) (Q : Nat → Prop) (i : Nat) : Prop := ∃ k, F i k ∧ Q k
/-- what comes of Q by at most so many more, each out of the first set that isn't met -/
def m_cr (F : Nat → Nat → Prop) (c : Nat) : Nat → (Nat → Prop) → (Nat → Prop) → Prop
  | 0, Q, G => (∀ i, i < c → m_hi F Q i) ∧ G = Q
  | l + 1, Q, G => ((∀ i, i < c → m_hi F Q i) ∧ G = Q) ∨ ∃ i e, i < c ∧ ¬ m_hi F Q i ∧ (∀ j, j < i → m_hi F Q j) ∧ F i e ∧ m_cr F c l (fun j => Q j ∨ j = e) G
def m_cw (F : Nat → Nat → Prop) (c l : Nat) (Q : Nat → Prop) (v : Int64) : Prop := ∃ G, m_cr F c l Q G ∧ v = wL G
/-- the least of these, or none -/
def m_lv (W : Int64 → Prop) (v : Int64) : Prop := (v = -1 ∧ ∀ u, ¬ W u) ∨ (W v ∧ v ≠ -1 ∧ ∀ u, W u → ¬ u < v)
theorem m_lv1 {W : Int64 → Prop} {u v : Int64} (h1 : m_lv W u) (h2 : m_lv W v) : u = v := by
  rcases h1 with ⟨a, b⟩ | ⟨a, b, c⟩
  · rcases h2 with ⟨a', b'⟩ | ⟨a', b', c'⟩
    · rw [a, a']
    · exact absurd a' (b v)
  · rcases h2 with ⟨a', b'⟩ | ⟨a', b', c'⟩
    · exact absurd a (b' u)
    · apply Classical.byContradiction
      intro e
      exact c' u a (il_of (c v a') (fun q => e q.symm))
theorem m_crQ {F : Nat → Nat → Prop} {c : Nat} (hF : ∀ i k, i < c → F i k → k < 32) : ∀ {l : Nat} {Q G : Nat → Prop}, (∀ k, Q k → k < 32) → m_cr F c l Q G → ∀ k, G k → k < 32
  | 0, Q, G, hQ, h => by
    rw [h.2]; exact hQ
  | l + 1, Q, G, hQ, h => by
    rcases h with h | ⟨i, e, h1, h2, h3, h4, h5⟩
    · rw [h.2]; exact hQ
    · exact m_crQ hF (fun k q => q.elim (hQ k) (fun q => q ▸ hF i e h1 h4)) h5
theorem m_cr_all {F : Nat → Nat → Prop} {c l : Nat} {Q G : Nat → Prop} (h : ∀ i, i < c → m_hi F Q i) : m_cr F c l Q G ↔ G = Q := by
  cases l with
  | zero => exact ⟨And.right, fun e => ⟨h, e⟩⟩
  | succ l =>
    constructor
    · rintro (q | ⟨i, e, h1, h2, -⟩)
      · exact q.2
      · exact absurd (h i h1) h2
    · exact fun e => Or.inl ⟨h, e⟩
theorem m_cr_0 {F : Nat → Nat → Prop} {c i : Nat} {Q G : Nat → Prop} (hi : i < c) (h : ¬ m_hi F Q i) : ¬ m_cr F c 0 Q G := fun q => h (q.1 i hi)
theorem m_cr_s {F : Nat → Nat → Prop} {c l i : Nat} {Q G : Nat → Prop} (hi : i < c) (h : ¬ m_hi F Q i) (hl : ∀ j, j < i → m_hi F Q j) : m_cr F c (l + 1) Q G ↔ ∃ e, F i e ∧ m_cr F c l (fun j => Q j ∨ j = e) G := by
  constructor
  · rintro (q | ⟨j, e, h1, h2, h3, h4, h5⟩)
    · exact absurd (q.1 i hi) h
    · have : j = i := by
        rcases Nat.lt_trichotomy i j with c | c | c
        · exact absurd (h3 i c) h
        · exact c.symm
        · exact absurd (hl j c) h2
      subst this
      exact ⟨e, h4, h5⟩
  · rintro ⟨e, h4, h5⟩
    exact Or.inr ⟨i, e, hi, h, hl, h4, h5⟩
/-- with as many as there are sets there is one -/
theorem m_cr_ex {F : Nat → Nat → Prop} {c : Nat} (hne : ∀ i, i < c → ∃ k, F i k) : ∀ l Q, ct (fun i => ¬ m_hi F Q i) c ≤ l → ∃ G, m_cr F c l Q G := by
  intro l
  induction l with
  | zero =>
    intro Q h
    refine ⟨Q, (m_cr_all (fun i hi => ?_)).mpr rfl⟩
    apply Classical.byContradiction
    intro q
    have := ct_pos (p := fun i => ¬ m_hi F Q i) hi q
    omega
  | succ l ih =>
    intro Q h
    by_cases a : ∀ i, i < c → m_hi F Q i
    · exact ⟨Q, (m_cr_all a).mpr rfl⟩
    · have ex : ∃ i, i < c ∧ ¬ m_hi F Q i := by
        apply Classical.byContradiction
        intro q
        exact a (fun i hi => Classical.byContradiction (fun b => q ⟨i, hi, b⟩))
      obtain ⟨i, ⟨h1, h2⟩, h3⟩ := pk_least _ ex
      obtain ⟨e, he⟩ := hne i h1
      have hl : ∀ j, j < i → m_hi F Q j := fun j hj => Classical.byContradiction (fun b => h3 j hj ⟨by omega, b⟩)
      have hlt : ct (fun j => ¬ m_hi F (fun k => Q k ∨ k = e) j) c < ct (fun j => ¬ m_hi F Q j) c := ct_lt (fun j _ q r => q (by
        obtain ⟨k, a, b⟩ := r
        exact ⟨k, a, Or.inl b⟩)) ⟨i, h1, h2, fun q => q ⟨e, he, Or.inr rfl⟩⟩
      obtain ⟨G, hG⟩ := ih (fun k => Q k ∨ k = e) (by omega)
      exact ⟨G, (m_cr_s h1 h2 hl).mpr ⟨e, he, hG⟩⟩
/-- the repair: the least of the fewest -/
def m_re (F : Nat → Nat → Prop) (c : Nat) (v : Int64) : Prop := ∃ s, 1 ≤ s ∧ (∀ t, 1 ≤ t → t < s → ∀ u, ¬ m_cw F c t (fun _ => False) u) ∧ m_cw F c s (fun _ => False) v ∧ ∀ u, m_cw F c s (fun _ => False) u → ¬ u < v
theorem m_re1 {F : Nat → Nat → Prop} {c : Nat} {u v : Int64} (h1 : m_re F c u) (h2 : m_re F c v) : u = v := by
  obtain ⟨s, a1, a2, a3, a4⟩ := h1
  obtain ⟨t, b1, b2, b3, b4⟩ := h2
  have : s = t := by
    rcases Nat.lt_trichotomy s t with c | c | c
    · exact absurd a3 (b2 s a1 c u)
    · exact c
    · exact absurd b3 (a2 t b1 c v)
  subst this
  apply Classical.byContradiction
  intro e
  exact b4 u a3 (il_of (a4 v b3) (fun q => e q.symm))
theorem Rs_cutOf {o : Nat} {O : o_T} {x y c : Nat} {U : Nat → Prop} {F : Nat → Nat → Prop} {h : am_H} (hc : c ≤ 5) (hFA : ∀ i k, i < c → F i k → k < o_A O) (C : RsC h o O x y U) (R : RsF h c F) (d : Nat) : ∀ m l s (Q : Nat → Prop), c - l ≤ m → l ≤ c → s ≤ 4 → (∀ k, Q k → k < 32) → (∀ i, i < l → m_hi F Q i) → ∃ v, f_Rs_cutOf (d + 1 + m) h 74 (nI l) (nI s) (wL Q) = some (.inr (some (.long v)), h) ∧ m_lv (m_cw F c s Q) v := by
  have H1 := C.1
  have H2 := C.2.1
  have H3 := OnR_at H2
  have okA := C.2.1.2.1.2.2.2.2.1
  intro m
  have stop : ∀ l s e (Q : Nat → Prop), c ≤ l → l ≤ 5 → (∀ k, Q k → k < 32) → (∀ i, i < c → m_hi F Q i) → ∃ v, f_Rs_cutOf (e + 1) h 74 (nI l) (nI s) (wL Q) = some (.inr (some (.long v)), h) ∧ m_lv (m_cw F c s Q) v := by
    intro l s e Q hl hl5 hQ hh
    refine ⟨wL Q, ?_, Or.inr ⟨⟨Q, (m_cr_all hh).mpr rfl, rfl⟩, wL_m1 hQ, ?_⟩⟩
    · rw [e_Rs_cutOf]
      simp (disch := first | assumption | omega) only [hc_ck, hc_gi, hc_gl, hc_gp, ap_I, ap_L, kd_I, kd_L, kd_P, kd_rI, ar_I, ar_L, ar_P, al_I, al_L, al_P, hop_s, cond_true, cond_false, pc_I_I, pc_L_L, pc_P_P, pc_I_L, pc_I_P, pc_L_I, pc_L_P, pc_P_I, pc_P_L, pc_sS_I, pc_sS_L, pc_sS_P, I_rI, L_rI, P_rI, S_rI, cv_r, ci_r, cl_r, o1_b, o1_0, o1_1, lc_e, nI_1, nI_add, if_true, if_false, Nat.reduceEqDiff, Nat.left_eq_add, Nat.add_eq_left, false_and, and_false, true_and, and_true, and_self, eq_self, Lc_k74, R.1, n_lt, show ¬ l < c by omega]
    · rintro u ⟨G, g1, rfl⟩
      rw [(m_cr_all hh).mp g1]
      exact il_ir _
  induction m with
  | zero =>
    intro l s Q hm hl hs hQ hh
    exact stop l s d Q (by omega) (by omega) hQ (fun i hi => hh i (by omega))
  | succ m ih =>
    intro l s Q hm hl hs hQ hh
    by_cases hlc : l < c
    · rw [show d + 1 + (m + 1) = d + 1 + m + 1 by omega, e_Rs_cutOf]
      simp (disch := first | assumption | omega) only [hc_ck, hc_gi, hc_gl, hc_gp, ap_I, ap_L, kd_I, kd_L, kd_P, kd_rI, ar_I, ar_L, ar_P, al_I, al_L, al_P, hop_s, cond_true, cond_false, pc_I_I, pc_L_L, pc_P_P, pc_I_L, pc_I_P, pc_L_I, pc_L_P, pc_P_I, pc_P_L, pc_sS_I, pc_sS_L, pc_sS_P, I_rI, L_rI, P_rI, S_rI, cv_r, ci_r, cl_r, o1_b, o1_0, o1_1, lc_e, nI_1, nI_add, if_true, if_false, Nat.reduceEqDiff, Nat.left_eq_add, Nat.add_eq_left, false_and, and_false, true_and, and_true, and_self, eq_self, Lc_k74, R.1, n_lt, hlc, Lc_p74_0, Lc_r75, R.2 l hlc]
      by_cases hit : m_hi F Q l
      · rw [if_neg (by
          rw [wL_a0]
          obtain ⟨k, a, b⟩ := hit
          exact fun e => e ⟨k, by have := hQ k b; omega, a, b⟩)]
        obtain ⟨v, ev, hv⟩ := ih (l + 1) s Q (by omega) (by omega) hs hQ (fun i hi => by
          by_cases e : i = l
          · exact e ▸ hit
          · exact hh i (by omega))
        refine ⟨v, ?_, hv⟩
        rw [ev]
        rfl
      · rw [if_pos (by
          rw [wL_a0]
          rintro ⟨k, -, a, b⟩
          exact hit ⟨k, a, b⟩)]
        have hl' : ∀ j, j < l → m_hi F Q j := hh
        cases s with
        | zero =>
          refine ⟨-1, ?_, Or.inl ⟨rfl, ?_⟩⟩
          · rw [e_Rs_cutOf_41]
            simp (disch := first | assumption | omega) only [n_le0, Nat.le_refl, if_true]
          · rintro u ⟨G, g, -⟩
            exact m_cr_0 hlc hit g
        | succ s =>
          have key : ∀ k, k ≤ o_A O → ∀ b : Int64, m_lv (fun u => ∃ e, e < k ∧ F l e ∧ m_cw F c s (fun j => Q j ∨ j = e) u) b → ∃ v, f_Rs_cutOf_41 (d + 1 + m + 1) h 74 (nI l) (nI (s + 1)) (wL Q) b (nI k) = some (.inr (some (.long v)), h) ∧ m_lv (m_cw F c (s + 1) Q) v := by
            have hs0 : ¬ s + 1 ≤ 0 := by omega
            refine dn ?_ ?_
            · intro b hb
              refine ⟨b, ?_, ?_⟩
              · rw [e_Rs_cutOf_41]
                simp (disch := first | assumption | omega) only [hc_ck, hc_gi, hc_gl, hc_gp, ap_I, ap_L, kd_I, kd_L, kd_P, kd_rI, ar_I, ar_L, ar_P, al_I, al_L, al_P, hop_s, cond_true, cond_false, pc_I_I, pc_L_L, pc_P_P, pc_I_L, pc_I_P, pc_L_I, pc_L_P, pc_P_I, pc_P_L, pc_sS_I, pc_sS_L, pc_sS_P, I_rI, L_rI, P_rI, S_rI, cv_r, ci_r, cl_r, o1_b, o1_0, o1_1, lc_e, nI_1, nI_add, if_true, if_false, Nat.reduceEqDiff, Nat.left_eq_add, Nat.add_eq_left, false_and, and_false, true_and, and_true, and_self, eq_self, n_le0, hs0, Lc_k74, C.2.2.2.1, On_k, OnR_A, n_le, Nat.le_refl]
              · have eq : ∀ u, (∃ e, e < o_A O ∧ F l e ∧ m_cw F c s (fun j => Q j ∨ j = e) u) ↔ m_cw F c (s + 1) Q u := by
                  intro u
                  constructor
                  · rintro ⟨e, -, e2, G, e3, e4⟩
                    exact ⟨G, (m_cr_s hlc hit hl').mpr ⟨e, e2, e3⟩, e4⟩
                  · rintro ⟨G, e3, e4⟩
                    obtain ⟨e, e1, e2⟩ := (m_cr_s hlc hit hl').mp e3
                    exact ⟨e, hFA l e hlc e1, e1, G, e2, e4⟩
                rcases hb with ⟨b1, b2⟩ | ⟨b1, b2, b3⟩
                · exact Or.inl ⟨b1, fun u q => b2 u ((eq u).mpr q)⟩
                · exact Or.inr ⟨(eq b).mp b1, b2, fun u q => b3 u ((eq u).mpr q)⟩
            · intro k hk ih2 b hb
              have hk3 : ¬ o_A O ≤ k := by omega
              have skip : (∀ u, F l k → ¬ m_cw F c s (fun j => Q j ∨ j = k) u) → m_lv (fun u => ∃ e, e < k + 1 ∧ F l e ∧ m_cw F c s (fun j => Q j ∨ j = e) u) b := by
                intro hn
                have eq : ∀ u, (∃ e, e < k ∧ F l e ∧ m_cw F c s (fun j => Q j ∨ j = e) u) ↔ (∃ e, e < k + 1 ∧ F l e ∧ m_cw F c s (fun j => Q j ∨ j = e) u) := by
                  intro u
                  constructor
                  · rintro ⟨e, e1, e2⟩
                    exact ⟨e, by omega, e2⟩
                  · rintro ⟨e, e1, e2, e3⟩
                    by_cases q : e = k
                    · subst q; exact absurd e3 (hn u e2)
                    · exact ⟨e, by omega, e2, e3⟩
                rcases hb with ⟨b1, b2⟩ | ⟨b1, b2, b3⟩
                · exact Or.inl ⟨b1, fun u q => b2 u ((eq u).mpr q)⟩
                · exact Or.inr ⟨(eq b).mp b1, b2, fun u q => b3 u ((eq u).mpr q)⟩
              rw [e_Rs_cutOf_41]
              simp (disch := first | assumption | omega) only [hc_ck, hc_gi, hc_gl, hc_gp, ap_I, ap_L, kd_I, kd_L, kd_P, kd_rI, ar_I, ar_L, ar_P, al_I, al_L, al_P, hop_s, cond_true, cond_false, pc_I_I, pc_L_L, pc_P_P, pc_I_L, pc_I_P, pc_L_I, pc_L_P, pc_P_I, pc_P_L, pc_sS_I, pc_sS_L, pc_sS_P, I_rI, L_rI, P_rI, S_rI, cv_r, ci_r, cl_r, o1_b, o1_0, o1_1, lc_e, nI_1, nI_add, if_true, if_false, Nat.reduceEqDiff, Nat.left_eq_add, Nat.add_eq_left, false_and, and_false, true_and, and_true, and_self, eq_self, n_le0, hs0, Lc_k74, C.2.2.2.1, On_k, OnR_A, n_le, hk3, Lc_p74_0, Lc_r75, R.2 l hlc, xl_t0]
              by_cases f : F l k
              · simp (disch := first | assumption | omega) only [xl_wt (P := F l) (show k < 64 by omega) f, Bool.true_eq_false, if_false, nI_pred, wL_put]
                obtain ⟨v, ev, hv⟩ := ih (l + 1) s (fun j => Q j ∨ j = k) (by omega) (by omega) (by omega) (fun j q => q.elim (hQ j) (fun e => by omega)) (fun i hi => by
                  by_cases e : i = l
                  · exact e ▸ ⟨k, f, Or.inr rfl⟩
                  · obtain ⟨j, a, b⟩ := hh i (by omega)
                    exact ⟨j, a, Or.inl b⟩)
                rw [ev]
                simp only [cl_r, lc_e, lc_geq]
                rcases hv with ⟨v1, v2⟩ | ⟨v1, v2, v3⟩
                · rw [if_pos v1]
                  exact ih2 b (skip (fun u _ => v2 u))
                · rw [if_neg v2]
                  rcases hb with ⟨b1, b2⟩ | ⟨b1, b2, b3⟩
                  · rw [if_pos b1]
                    refine ih2 v (Or.inr ⟨⟨k, by omega, f, v1⟩, v2, ?_⟩)
                    rintro u ⟨e, e1, e2, e3⟩
                    by_cases q : e = k
                    · subst q; exact v3 u e3
                    · exact absurd ⟨e, by omega, e2, e3⟩ (b2 u)
                  · rw [if_neg b2]
                    by_cases lt : v < b
                    · rw [if_neg (fun q => q lt)]
                      refine ih2 v (Or.inr ⟨⟨k, by omega, f, v1⟩, v2, ?_⟩)
                      rintro u ⟨e, e1, e2, e3⟩
                      by_cases q : e = k
                      · subst q; exact v3 u e3
                      · exact fun q2 => b3 u ⟨e, by omega, e2, e3⟩ (il_tr q2 lt)
                    · rw [if_pos lt]
                      refine ih2 b (Or.inr ⟨?_, b2, ?_⟩)
                      · obtain ⟨e, e1, e2⟩ := b1
                        exact ⟨e, by omega, e2⟩
                      · rintro u ⟨e, e1, e2, e3⟩
                        by_cases q : e = k
                        · subst q
                          intro ub
                          by_cases e5 : u = v
                          · subst e5; exact lt ub
                          · exact lt (il_tr (il_of (v3 u e3) e5) ub)
                        · exact b3 u ⟨e, by omega, e2, e3⟩
              · simp only [xl_wf (P := F l) (show k < 64 by omega) f, if_true]
                exact ih2 b (skip (fun u q => absurd q f))
          exact key 0 (Nat.zero_le _) (-1) (Or.inl ⟨rfl, fun u ⟨e, q, _⟩ => absurd q (Nat.not_lt_zero e)⟩)
    · exact stop l s (d + 1 + m) Q (by omega) (by omega) hQ (fun i hi => hh i (by omega))
theorem Rs_leastCut {o : Nat} {O : o_T} {x y c : Nat} {U : Nat → Prop} {F : Nat → Nat → Prop} {h : am_H} (hc : c ≤ 4) (hc1 : 1 ≤ c) (hFA : ∀ i k, i < c → F i k → k < o_A O) (hne : ∀ i, i < c → ∃ k, F i k) (C : RsC h o O x y U) (R : RsF h c F) (d : Nat) : ∃ v, f_Rs_leastCut (d + 7) h 74 = some (.inr (some (.long v)), h) ∧ m_re F c v := by
  have H1 := C.1
  have key : ∀ n s, s + n = c → 1 ≤ s → (∀ t, 1 ≤ t → t < s → ∀ u, ¬ m_cw F c t (fun _ => False) u) → ∃ v, f_Rs_leastCut_2 (d + 7) h 74 (nI s) = some (.inr (some (.long v)), h) ∧ m_re F c v := by
    intro n
    have one : ∀ s, s ≤ c → ∃ v, f_Rs_cutOf (d + 6) h 74 0 (nI s) 0 = some (.inr (some (.long v)), h) ∧ m_lv (m_cw F c s (fun _ => False)) v := by
      intro s hs
      obtain ⟨v, ev, hv⟩ := Rs_cutOf (by omega) hFA C R d 5 0 s (fun _ => False) (by omega) (by omega) (by omega) (fun _ f => f.elim) (fun i hi => absurd hi (Nat.not_lt_zero i))
      refine ⟨v, ?_, hv⟩
      rw [show wL (fun _ => False) = 0 from wL_0.mpr (fun _ _ => id)] at ev
      exact ev
    induction n with
    | zero =>
      intro s hs h1 hb
      have : s = c := by omega
      subst this
      obtain ⟨v, ev, hv⟩ := one s (Nat.le_refl _)
      obtain ⟨G, hG⟩ := m_cr_ex (c := s) hne s (fun _ => False) (ct_le _ _)
      rcases hv with ⟨-, v2⟩ | ⟨v1, v2, v3⟩
      · exact absurd ⟨G, hG, rfl⟩ (v2 _)
      · refine ⟨v, ?_, s, h1, hb, v1, v3⟩
        rw [e_Rs_leastCut_2]
        simp (disch := first | assumption | omega) only [hc_ck, hc_gi, hc_gl, hc_gp, ap_I, ap_L, kd_I, kd_L, kd_P, kd_rI, ar_I, ar_L, ar_P, al_I, al_L, al_P, hop_s, cond_true, cond_false, pc_I_I, pc_L_L, pc_P_P, pc_I_L, pc_I_P, pc_L_I, pc_L_P, pc_P_I, pc_P_L, pc_sS_I, pc_sS_L, pc_sS_P, I_rI, L_rI, P_rI, S_rI, cv_r, ci_r, cl_r, o1_b, o1_0, o1_1, lc_e, nI_1, nI_add, if_true, if_false, Nat.reduceEqDiff, Nat.left_eq_add, Nat.add_eq_left, false_and, and_false, true_and, and_true, and_self, eq_self, n_4, n_lt, show ¬ 4 < s by omega, Lc_k74, ev, if_neg v2]
    | succ n ih =>
      intro s hs h1 hb
      obtain ⟨v, ev, hv⟩ := one s (by omega)
      rcases hv with ⟨v1, v2⟩ | ⟨v1, v2, v3⟩
      · rw [e_Rs_leastCut_2]
        simp (disch := first | assumption | omega) only [hc_ck, hc_gi, hc_gl, hc_gp, ap_I, ap_L, kd_I, kd_L, kd_P, kd_rI, ar_I, ar_L, ar_P, al_I, al_L, al_P, hop_s, cond_true, cond_false, pc_I_I, pc_L_L, pc_P_P, pc_I_L, pc_I_P, pc_L_I, pc_L_P, pc_P_I, pc_P_L, pc_sS_I, pc_sS_L, pc_sS_P, I_rI, L_rI, P_rI, S_rI, cv_r, ci_r, cl_r, o1_b, o1_0, o1_1, lc_e, nI_1, nI_add, if_true, if_false, Nat.reduceEqDiff, Nat.left_eq_add, Nat.add_eq_left, false_and, and_false, true_and, and_true, and_self, eq_self, n_4, n_lt, show ¬ 4 < s by omega, Lc_k74, ev, if_pos v1]
        refine ih (s + 1) (by omega) (by omega) (fun t t1 t2 => ?_)
        by_cases e : t = s
        · exact e ▸ v2
        · exact hb t t1 (by omega)
      · refine ⟨v, ?_, s, h1, hb, v1, v3⟩
        rw [e_Rs_leastCut_2]
        simp (disch := first | assumption | omega) only [hc_ck, hc_gi, hc_gl, hc_gp, ap_I, ap_L, kd_I, kd_L, kd_P, kd_rI, ar_I, ar_L, ar_P, al_I, al_L, al_P, hop_s, cond_true, cond_false, pc_I_I, pc_L_L, pc_P_P, pc_I_L, pc_I_P, pc_L_I, pc_L_P, pc_P_I, pc_P_L, pc_sS_I, pc_sS_L, pc_sS_P, I_rI, L_rI, P_rI, S_rI, cv_r, ci_r, cl_r, o1_b, o1_0, o1_1, lc_e, nI_1, nI_add, if_true, if_false, Nat.reduceEqDiff, Nat.left_eq_add, Nat.add_eq_left, false_and, and_false, true_and, and_true, and_self, eq_self, n_4, n_lt, show ¬ 4 < s by omega, Lc_k74, ev, if_neg v2]
  rw [e_Rs_leastCut]
  exact key (c - 1) 1 (by omega) (Nat.le_refl _) (fun t t1 t2 => by omega)
