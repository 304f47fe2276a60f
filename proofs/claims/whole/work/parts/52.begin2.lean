/-! ===== the class's saturation: sortAxioms, begin ===== -/
theorem Sa_sort171 {o : Nat} {O : o_T} {B : Nat → Prop} {s : Nat} (d : Nat) : ∀ p, p ≤ 9 → ∀ (h : am_H) (b : Bool) (U : Nat → Nat → Prop), SaB h s o O B → (∀ r, r < o_R O → am_I h (s + 4) r = wI (U r)) → (∀ r, r < o_R O → U r r) → (∀ r q, r < o_R O → U r q → o_un O B r q) → (b = false → ∀ r x q, r < o_R O → U r x → o_di O B x q → U r q) → (∀ m r q, m ≤ p → r < o_R O → o_us O B m r q → U r q) →
    ∃ h', f_Sa_sortAxioms_171 (d + 1) h s (bo b) (nI p) = some (.inr none, h') ∧ fI s h h' ∧ (∀ c, c ≠ s + 4 → am_I h' c = am_I h c) ∧ ∀ r, r < o_R O → am_I h' (s + 4) r = wI (o_un O B r) := by
  have stop : ∀ (h : am_H) (b : Bool) (U : Nat → Nat → Prop), SaB h s o O B → (∀ r, r < o_R O → am_I h (s + 4) r = wI (U r)) → (∀ r, r < o_R O → U r r) → (∀ r q, r < o_R O → U r q → o_un O B r q) → (b = false → ∀ r x q, r < o_R O → U r x → o_di O B x q → U r q) → b = false → ∀ r, r < o_R O → am_I h (s + 4) r = wI (o_un O B r) := by
    intro h b U H hU hr hs hc hb r hr'
    rw [hU r hr']
    refine wI_cong (fun q _ => ⟨hs r q hr', ?_⟩)
    rintro ⟨n, hn⟩
    induction n generalizing q with
    | zero => exact hn ▸ hr r hr'
    | succ n ih =>
      obtain ⟨x, h1, h2⟩ := hn
      have hx := (o_dd H.2.1.2.1 h2).1
      have hR := H.2.1.2.1.2.1
      exact hc hb r x q hr' (ih x (by omega) h1) h2
  refine dn ?_ ?_
  · intro h b U H hU hr hs hc hp
    have H1 := SaB_at H
    refine ⟨h, ?_, fI_r _ _, fun _ _ => rfl, ?_⟩
    · rw [e_Sa_sortAxioms_171]
      simp (disch := first | assumption | omega) only [hc_ck, hc_gi, hc_gl, hc_gp, hc_ap, kd_I, kd_L, kd_P, kd_rI, ar_I, ar_L, ar_P, al_I, al_L, al_P, hop_s, cond_true, cond_false, pc_I_I, pc_L_L, pc_P_P, pc_I_L, pc_I_P, pc_L_I, pc_L_P, pc_P_I, pc_P_L, pc_sS_I, pc_sS_L, pc_sS_P, I_rI, L_rI, P_rI, S_rI, cv_r, ci_r, cl_r, o1_b, o1_0, o1_1, lc_e, nI_1, nI_add, if_true, if_false, Nat.reduceEqDiff, Nat.left_eq_add, Nat.add_eq_left, false_and, and_false, true_and, and_true, and_self, eq_self, n_8, n_lt, show (8 : Nat) < 9 from by omega, ite_self]
    · intro r hr'
      rw [hU r hr']
      refine wI_cong (fun q _ => ⟨hs r q hr', fun g => ?_⟩)
      obtain ⟨m, h1, h2⟩ := o_un_7 H.2.1.2.1 hr' g
      exact hp m r q (by omega) hr' h2
  · intro p hp9 ih h b U H hU hr hs hc hp
    have H1 := SaB_at H
    have hp3 : ¬ 8 < p := by omega
    rw [e_Sa_sortAxioms_171]
    cases b with
    | false =>
      refine ⟨h, ?_, fI_r _ _, fun _ _ => rfl, stop h false U H hU hr hs hc rfl⟩
      simp only [bo_f, if_true]
    | true =>
      simp (disch := first | assumption | omega) only [hc_ck, hc_gi, hc_gl, hc_gp, hc_ap, kd_I, kd_L, kd_P, kd_rI, ar_I, ar_L, ar_P, al_I, al_L, al_P, hop_s, cond_true, cond_false, pc_I_I, pc_L_L, pc_P_P, pc_I_L, pc_I_P, pc_L_I, pc_L_P, pc_P_I, pc_P_L, pc_sS_I, pc_sS_L, pc_sS_P, I_rI, L_rI, P_rI, S_rI, cv_r, ci_r, cl_r, o1_b, o1_0, o1_1, lc_e, nI_1, nI_add, if_true, if_false, Nat.reduceEqDiff, Nat.left_eq_add, Nat.add_eq_left, false_and, and_false, true_and, and_true, and_self, eq_self, bo_t, z10, n_8, n_lt, hp3, Sa_k]
      obtain ⟨g, m, V, eg, qg, qb, gV, hUV, hVs, hst, hm⟩ := Sa_spreadUnder H U hU hr hs d
      rw [eg]
      simp only [ci_r, nI_1]
      obtain ⟨v, ev, qv, qvb, hv⟩ := ih g m V (SaB_f H qg) gV (fun r hr' => hUV r r hr' (hr r hr')) hVs (fun hm' r x q hr' h1 h2 => hst r x q hr' (hm hm' r x hr' h1) h2) (fun n r q hn hr' h1 => by
        cases n with
        | zero => exact hUV r q hr' (h1 ▸ hr r hr')
        | succ n =>
          obtain ⟨x, h2, h3⟩ := h1
          exact hst r x q hr' (hp n r x (by omega) hr' h2) h3)
      exact ⟨v, ev, fI_t qg qv, fun c hc' => (qvb c hc').trans (qb c hc'), hv⟩
theorem Sa_sort146 {h : am_H} {s o : Nat} {O : o_T} {B : Nat → Prop} (H : SaB h s o O B) (b : Bool) (hb : b = true ↔ ∃ k, k < o_A O ∧ B k ∧ o_ak O k = 2) (d : Nat) :
    ∃ h', f_Sa_sortAxioms_146 (d + 1) h s (bo b) 0 = some (.inr none, h') ∧ fI s h h' ∧ (∀ c, c ≠ s + 4 → am_I h' c = am_I h c) ∧ ∀ r, r < o_R O → am_I h' (s + 4) r = wI (o_un O B r) := by
  have ok : o_ok O := H.2.1.2.1
  obtain ⟨-, ok2, ok3, ok4, ok5, -, -, -, okA, -⟩ := ok
  have key : ∀ i, i ≤ o_R O → ∀ u : am_H, fI s h u → (∀ c, c ≠ s + 4 → am_I u c = am_I h c) → (∀ r, r < i → am_I u (s + 4) r = wI (fun q => q = r)) →
      ∃ h', f_Sa_sortAxioms_146 (d + 1) u s (bo b) (nI i) = some (.inr none, h') ∧ fI s h h' ∧ (∀ c, c ≠ s + 4 → am_I h' c = am_I h c) ∧ ∀ r, r < o_R O → am_I h' (s + 4) r = wI (o_un O B r) := by
    refine dn ?_ ?_
    · intro u q qc hu
      have Hu := SaB_f H q
      have H1 := SaB_at Hu
      rw [e_Sa_sortAxioms_146]
      simp (disch := first | assumption | omega) only [hc_ck, hc_gi, hc_gl, hc_gp, hc_ap, kd_I, kd_L, kd_P, kd_rI, ar_I, ar_L, ar_P, al_I, al_L, al_P, hop_s, cond_true, cond_false, pc_I_I, pc_L_L, pc_P_P, pc_I_L, pc_I_P, pc_L_I, pc_L_P, pc_P_I, pc_P_L, pc_sS_I, pc_sS_L, pc_sS_P, I_rI, L_rI, P_rI, S_rI, cv_r, ci_r, cl_r, o1_b, o1_0, o1_1, lc_e, nI_1, nI_add, if_true, if_false, Nat.reduceEqDiff, Nat.left_eq_add, Nat.add_eq_left, false_and, and_false, true_and, and_true, and_self, eq_self, Sa_k, SaB_R, n_le, Nat.le_refl]
      obtain ⟨v, ev, qv, qvb, hv⟩ := Sa_sort171 d 0 (by omega) u b (fun r q => q = r) Hu hu (fun _ _ => rfl) (fun r q _ e => e ▸ o_un_r O B r) (fun e r x q hr e1 ⟨k, h2, h3, h4, _⟩ => by
        rw [hb.mpr ⟨k, h2, h3, h4⟩] at e
        cases e) (fun m r q hm hr h1 => by
        have : m = 0 := by omega
        subst this
        exact h1.symm)
      exact ⟨v, ev, fI_t q qv, fun c hc => (qvb c hc).trans (qc c hc), hv⟩
    · intro i hi ih u q qc hu
      have Hu := SaB_f H q
      have H1 := SaB_at Hu
      have hi3 : ¬ o_R O ≤ i := by omega
      rw [e_Sa_sortAxioms_146]
      simp (disch := first | assumption | omega) only [hc_ck, hc_gi, hc_gl, hc_gp, hc_ap, kd_I, kd_L, kd_P, kd_rI, ar_I, ar_L, ar_P, al_I, al_L, al_P, hop_s, cond_true, cond_false, pc_I_I, pc_L_L, pc_P_P, pc_I_L, pc_I_P, pc_L_I, pc_L_P, pc_P_I, pc_P_L, pc_sS_I, pc_sS_L, pc_sS_P, I_rI, L_rI, P_rI, S_rI, cv_r, ci_r, cl_r, o1_b, o1_0, o1_1, lc_e, nI_1, nI_add, if_true, if_false, Nat.reduceEqDiff, Nat.left_eq_add, Nat.add_eq_left, false_and, and_false, true_and, and_true, and_self, eq_self, Sa_k, SaB_R, n_le, hi3, Sa_p10, Sa_r4]
      refine ih _ (fI_w q (by omega) (by omega) _ _) ?_ ?_
      · intro c hc
        funext j
        rw [pc_I_I, if_neg (by omega), qc c hc]
      · intro r hr
        rw [pc_I_I]
        by_cases e : r = i
        · subst e
          rw [if_pos ⟨rfl, rfl⟩]
          apply wI_of
          intro q' hq
          rw [yi_b1 (by omega), decide_eq_true_iff]
        · rw [if_neg (by omega)]
          exact hu r (by omega)
  exact key 0 (Nat.zero_le _) h (fI_r _ _) (fun _ _ => rfl) (fun r hr => absurd hr (Nat.not_lt_zero r))
/-- c below d by one of the first k axioms -/
def o_imk (O : o_T) (B : Nat → Prop) (n c d : Nat) : Prop := ∃ k, k < n ∧ B k ∧ ((o_ak O k ≤ 1 ∧ o_a1 O k = c ∧ o_a2 O k = d) ∨ (o_ak O k = 1 ∧ o_a2 O k = c ∧ o_a1 O k = d))
def st_ok (h : am_H) (s k : Nat) (O : o_T) (B : Nat → Prop) : Prop := ∃ (n : Nat) (f t : Nat → Nat), n ≤ 2 * k ∧ am_I h s 5 = nI n ∧ (∀ k, k < n → am_I h (s + 1) k = nI (f k) ∧ am_I h (s + 2) k = nI (t k) ∧ f k < 60 ∧ t k < 60) ∧ ∀ c d, (∃ k, k < n ∧ f k = c ∧ t k = d) ↔ o_imk O B k c d
def ch_ok (h : am_H) (s k : Nat) (O : o_T) (B : Nat → Prop) : Prop := ∃ (m : Nat) (g : Nat → Nat), m ≤ k ∧ am_I h s 8 = nI m ∧ (∀ k, k < m → am_I h (s + 3) k = nI (g k)) ∧ ∀ c, (∃ k, k < m ∧ g k = c) ↔ (c < k ∧ B c ∧ o_ak O c = 3)
theorem st_put {h : am_H} {s n : Nat} {f t : Nat → Nat} {a b : Nat} (hf : ∀ k, k < n → am_I h (s + 1) k = nI (f k) ∧ am_I h (s + 2) k = nI (t k) ∧ f k < 60 ∧ t k < 60) (ha : a < 60) (hb : b < 60) : ∀ k, k < n + 1 → am_I (am_sI (am_sI (am_sI h (s + 1) n (nI a)) (s + 2) n (nI b)) s 5 (nI (n + 1))) (s + 1) k = nI (if k = n then a else f k) ∧ am_I (am_sI (am_sI (am_sI h (s + 1) n (nI a)) (s + 2) n (nI b)) s 5 (nI (n + 1))) (s + 2) k = nI (if k = n then b else t k) ∧ (if k = n then a else f k) < 60 ∧ (if k = n then b else t k) < 60 := by
  intro k hk
  simp only [hc_ck, hc_gi, hc_gl, hc_gp, hc_ap, kd_I, kd_L, kd_P, kd_rI, ar_I, ar_L, ar_P, al_I, al_L, al_P, hop_s, cond_true, cond_false, pc_I_I, pc_L_L, pc_P_P, pc_I_L, pc_I_P, pc_L_I, pc_L_P, pc_P_I, pc_P_L, pc_sS_I, pc_sS_L, pc_sS_P, I_rI, L_rI, P_rI, S_rI, cv_r, ci_r, cl_r, o1_b, o1_0, o1_1, lc_e, nI_1, nI_add, if_true, if_false, Nat.reduceEqDiff, Nat.left_eq_add, Nat.add_eq_left, false_and, and_false, true_and, and_true, and_self, eq_self]
  by_cases e : k = n
  · subst e
    simp only [if_true]
    exact ⟨trivial, trivial, ha, hb⟩
  · simp only [e, if_false]
    exact hf k (by omega)
def pr_ok (b : Bool) (k : Nat) (O : o_T) (B : Nat → Prop) : Prop := b = true ↔ ∃ j, j < k ∧ B j ∧ o_ak O j = 2
theorem st_iff1 {O : o_T} {B : Nat → Prop} {n k : Nat} {f t : Nat → Nat} (a4 : ∀ c d, (∃ j, j < n ∧ f j = c ∧ t j = d) ↔ o_imk O B k c d) (hB : B k) (e0 : o_ak O k = 0) : ∀ c d, (∃ j, j < n + 1 ∧ (if j = n then o_a1 O k else f j) = c ∧ (if j = n then o_a2 O k else t j) = d) ↔ o_imk O B (k + 1) c d := by
  intro c d
  constructor
  · rintro ⟨j, h1, h2, h3⟩
    by_cases e : j = n
    · rw [if_pos e] at h2 h3
      exact ⟨k, by omega, hB, Or.inl ⟨by omega, h2, h3⟩⟩
    · rw [if_neg e] at h2 h3
      obtain ⟨i, h4, h5⟩ := (a4 c d).mp ⟨j, by omega, h2, h3⟩
      exact ⟨i, by omega, h5⟩
  · rintro ⟨i, h1, h2, h3⟩
    by_cases e : i = k
    · subst e
      rcases h3 with ⟨-, h3, h4⟩ | ⟨h3, -⟩
      · exact ⟨n, by omega, by rw [if_pos rfl]; exact h3, by rw [if_pos rfl]; exact h4⟩
      · omega
    · obtain ⟨j, h4, h5, h6⟩ := (a4 c d).mpr ⟨i, by omega, h2, h3⟩
      exact ⟨j, by omega, by rw [if_neg (by omega)]; exact h5, by rw [if_neg (by omega)]; exact h6⟩
theorem st_iff2 {O : o_T} {B : Nat → Prop} {n k : Nat} {f t : Nat → Nat} (a4 : ∀ c d, (∃ j, j < n ∧ f j = c ∧ t j = d) ↔ o_imk O B k c d) (hB : B k) (e1 : o_ak O k = 1) : ∀ c d, (∃ j, j < n + 1 + 1 ∧ (if j = n + 1 then o_a2 O k else if j = n then o_a1 O k else f j) = c ∧ (if j = n + 1 then o_a1 O k else if j = n then o_a2 O k else t j) = d) ↔ o_imk O B (k + 1) c d := by
  intro c d
  constructor
  · rintro ⟨j, h1, h2, h3⟩
    by_cases e' : j = n + 1
    · rw [if_pos e'] at h2 h3
      exact ⟨k, by omega, hB, Or.inr ⟨e1, h2, h3⟩⟩
    · rw [if_neg e'] at h2 h3
      by_cases e : j = n
      · rw [if_pos e] at h2 h3
        exact ⟨k, by omega, hB, Or.inl ⟨by omega, h2, h3⟩⟩
      · rw [if_neg e] at h2 h3
        obtain ⟨i, h4, h5⟩ := (a4 c d).mp ⟨j, by omega, h2, h3⟩
        exact ⟨i, by omega, h5⟩
  · rintro ⟨i, h1, h2, h3⟩
    by_cases e : i = k
    · subst e
      rcases h3 with ⟨-, h3, h4⟩ | ⟨-, h3, h4⟩
      · exact ⟨n, by omega, by rw [if_neg (by omega), if_pos rfl]; exact h3, by rw [if_neg (by omega), if_pos rfl]; exact h4⟩
      · exact ⟨n + 1, by omega, by rw [if_pos rfl]; exact h3, by rw [if_pos rfl]; exact h4⟩
    · obtain ⟨j, h4, h5, h6⟩ := (a4 c d).mpr ⟨i, by omega, h2, h3⟩
      exact ⟨j, by omega, by rw [if_neg (by omega), if_neg (by omega)]; exact h5, by rw [if_neg (by omega), if_neg (by omega)]; exact h6⟩
theorem Sa_sortAxioms {h : am_H} {s o : Nat} {O : o_T} {B : Nat → Prop} (H : SaB h s o O B) (d : Nat) : ∃ h', f_Sa_sortAxioms (d + 1) h s = some (.inr none, h') ∧ fI s h h' ∧ SaC h' s o O B := by
  have ok : o_ok O := H.2.1.2.1
  obtain ⟨-, ok2, ok3, ok4, ok5, -, -, -, okA, -⟩ := ok
  have H1 := SaB_at H
  have key : ∀ k, k ≤ o_A O → ∀ (u : am_H) (b : Bool), fI s h u → st_ok u s k O B → ch_ok u s k O B → pr_ok b k O B →
      ∃ h', f_Sa_sortAxioms_14 (d + 1) u s (bo b) (nI k) = some (.inr none, h') ∧ fI s h h' ∧ SaC h' s o O B := by
    refine dn ?_ ?_
    · intro u b q hst hch hb
      have Hu := SaB_f H q
      have H1 := SaB_at Hu
      have H2 := SaB_on Hu
      have H3 := OnR_at H2
      rw [e_Sa_sortAxioms_14]
      simp (disch := first | assumption | omega) only [hc_ck, hc_gi, hc_gl, hc_gp, hc_ap, kd_I, kd_L, kd_P, kd_rI, ar_I, ar_L, ar_P, al_I, al_L, al_P, hop_s, cond_true, cond_false, pc_I_I, pc_L_L, pc_P_P, pc_I_L, pc_I_P, pc_L_I, pc_L_P, pc_P_I, pc_P_L, pc_sS_I, pc_sS_L, pc_sS_P, I_rI, L_rI, P_rI, S_rI, cv_r, ci_r, cl_r, o1_b, o1_0, o1_1, lc_e, nI_1, nI_add, if_true, if_false, Nat.reduceEqDiff, Nat.left_eq_add, Nat.add_eq_left, false_and, and_false, true_and, and_true, and_self, eq_self, Sa_k, SaB_o, On_k, OnR_A, n_le, Nat.le_refl]
      obtain ⟨v, ev, qv, qc, hv⟩ := Sa_sort146 Hu b hb d
      have Hv := SaB_f Hu qv
      refine ⟨v, ev, fI_t q qv, Hv.1, Hv.2.1, Hv.2.2.1, Hv.2.2.2.1, Hv.2.2.2.2.1, Hv.2.2.2.2.2.1, ?_, ?_, hv⟩
      · obtain ⟨n, f, t, a1, a2, a3, a4⟩ := hst
        rw [qc s (by omega), qc (s + 1) (by omega), qc (s + 2) (by omega)]
        exact ⟨n, f, t, by omega, a2, a3, a4⟩
      · obtain ⟨m, g, a1, a2, a3, a4⟩ := hch
        rw [qc s (by omega), qc (s + 3) (by omega)]
        exact ⟨m, g, by omega, a2, a3, a4⟩
    · intro k hk ih u b q hst hch hb
      have Hu := SaB_f H q
      have H1 := SaB_at Hu
      have H2 := SaB_on Hu
      have H3 := OnR_at H2
      have hk3 : ¬ o_A O ≤ k := by omega
      have okk := okA k hk
      unfold o_okA at okk
      -- an axiom that brings no step
      have hs0 : ¬ (B k ∧ o_ak O k ≤ 1) → ∀ c e, o_imk O B k c e ↔ o_imk O B (k + 1) c e := by
        intro hn c e
        constructor
        · rintro ⟨j, a, r⟩
          exact ⟨j, by omega, r⟩
        · rintro ⟨j, a, r, r2⟩
          by_cases ej : j = k
          · subst ej
            exact absurd ⟨r, by omega⟩ hn
          · exact ⟨j, by omega, r, r2⟩
      have hs1 : ¬ (B k ∧ o_ak O k ≤ 1) → ∀ u' : am_H, am_I u' s 5 = am_I u s 5 → am_I u' (s + 1) = am_I u (s + 1) → am_I u' (s + 2) = am_I u (s + 2) → st_ok u' s (k + 1) O B := by
        intro hn u' e1 e2 e3
        obtain ⟨n, f, t, a1, a2, a3, a4⟩ := hst
        refine ⟨n, f, t, by omega, e1.trans a2, ?_, fun c e => (a4 c e).trans (hs0 hn c e)⟩
        rw [e2, e3]
        exact a3
      have hc0 : ¬ (B k ∧ o_ak O k = 3) → ∀ u' : am_H, am_I u' s 8 = am_I u s 8 → am_I u' (s + 3) = am_I u (s + 3) → ch_ok u' s (k + 1) O B := by
        intro hn u' e1 e2
        obtain ⟨m, g, a1, a2, a3, a4⟩ := hch
        refine ⟨m, g, by omega, e1.trans a2, ?_, fun c => (a4 c).trans ⟨fun p => ⟨by omega, p.2⟩, fun p => ⟨?_, p.2⟩⟩⟩
        · rw [e2]
          exact a3
        · by_cases e : c = k
          · subst e
            exact absurd p.2 hn
          · omega
      have hb0 : ¬ (B k ∧ o_ak O k = 2) → pr_ok b (k + 1) O B := by
        intro hn
        unfold pr_ok at hb ⊢
        rw [hb]
        constructor
        · rintro ⟨j, a, r⟩
          exact ⟨j, by omega, r⟩
        · rintro ⟨j, a, r⟩
          by_cases e : j = k
          · subst e; exact absurd r hn
          · exact ⟨j, by omega, r⟩
      rw [e_Sa_sortAxioms_14]
      simp (disch := first | assumption | omega) only [hc_ck, hc_gi, hc_gl, hc_gp, hc_ap, kd_I, kd_L, kd_P, kd_rI, ar_I, ar_L, ar_P, al_I, al_L, al_P, hop_s, cond_true, cond_false, pc_I_I, pc_L_L, pc_P_P, pc_I_L, pc_I_P, pc_L_I, pc_L_P, pc_P_I, pc_P_L, pc_sS_I, pc_sS_L, pc_sS_P, I_rI, L_rI, P_rI, S_rI, cv_r, ci_r, cl_r, o1_b, o1_0, o1_1, lc_e, nI_1, nI_add, if_true, if_false, Nat.reduceEqDiff, Nat.left_eq_add, Nat.add_eq_left, false_and, and_false, true_and, and_true, and_self, eq_self, Sa_k, SaB_o, SaB_B, On_k, OnR_A, n_le, hk3, xl_t0, On_p11, On_r11, OnR_ak, n_2, n_3, n_e1, n_eq, e_Sa_sortAxioms_138]
      by_cases hB : B k
      · simp only [show xl (wL B) k = true from wL_x.mpr ⟨by omega, hB⟩, Bool.true_eq_false, if_false]
        by_cases e3 : o_ak O k = 3
        · rw [if_pos e3]
          have hch' := hch
          obtain ⟨m, g, a1, a2, a3, a4⟩ := hch'
          simp (disch := first | assumption | omega) only [hc_ck, hc_gi, hc_gl, hc_gp, hc_ap, kd_I, kd_L, kd_P, kd_rI, ar_I, ar_L, ar_P, al_I, al_L, al_P, hop_s, cond_true, cond_false, pc_I_I, pc_L_L, pc_P_P, pc_I_L, pc_I_P, pc_L_I, pc_L_P, pc_P_I, pc_P_L, pc_sS_I, pc_sS_L, pc_sS_P, I_rI, L_rI, P_rI, S_rI, cv_r, ci_r, cl_r, o1_b, o1_0, o1_1, lc_e, nI_1, nI_add, if_true, if_false, Nat.reduceEqDiff, Nat.left_eq_add, Nat.add_eq_left, false_and, and_false, true_and, and_true, and_self, eq_self, Sa_k, Sa_p9, Sa_r3, a2]
          refine ih _ b (fI_f (fI_w q (by omega) (by omega) _ _) (by omega) (by omega) _) (hs1 (by omega) _ ?_ ?_ ?_) ?_ (hb0 (by omega))
          · simp only [hc_ck, hc_gi, hc_gl, hc_gp, hc_ap, kd_I, kd_L, kd_P, kd_rI, ar_I, ar_L, ar_P, al_I, al_L, al_P, hop_s, cond_true, cond_false, pc_I_I, pc_L_L, pc_P_P, pc_I_L, pc_I_P, pc_L_I, pc_L_P, pc_P_I, pc_P_L, pc_sS_I, pc_sS_L, pc_sS_P, I_rI, L_rI, P_rI, S_rI, cv_r, ci_r, cl_r, o1_b, o1_0, o1_1, lc_e, nI_1, nI_add, if_true, if_false, Nat.reduceEqDiff, Nat.left_eq_add, Nat.add_eq_left, false_and, and_false, true_and, and_true, and_self, eq_self]
          · funext j; simp only [hc_ck, hc_gi, hc_gl, hc_gp, hc_ap, kd_I, kd_L, kd_P, kd_rI, ar_I, ar_L, ar_P, al_I, al_L, al_P, hop_s, cond_true, cond_false, pc_I_I, pc_L_L, pc_P_P, pc_I_L, pc_I_P, pc_L_I, pc_L_P, pc_P_I, pc_P_L, pc_sS_I, pc_sS_L, pc_sS_P, I_rI, L_rI, P_rI, S_rI, cv_r, ci_r, cl_r, o1_b, o1_0, o1_1, lc_e, nI_1, nI_add, if_true, if_false, Nat.reduceEqDiff, Nat.left_eq_add, Nat.add_eq_left, false_and, and_false, true_and, and_true, and_self, eq_self]
          · funext j; simp only [hc_ck, hc_gi, hc_gl, hc_gp, hc_ap, kd_I, kd_L, kd_P, kd_rI, ar_I, ar_L, ar_P, al_I, al_L, al_P, hop_s, cond_true, cond_false, pc_I_I, pc_L_L, pc_P_P, pc_I_L, pc_I_P, pc_L_I, pc_L_P, pc_P_I, pc_P_L, pc_sS_I, pc_sS_L, pc_sS_P, I_rI, L_rI, P_rI, S_rI, cv_r, ci_r, cl_r, o1_b, o1_0, o1_1, lc_e, nI_1, nI_add, if_true, if_false, Nat.reduceEqDiff, Nat.left_eq_add, Nat.add_eq_left, false_and, and_false, true_and, and_true, and_self, eq_self]
          · refine ⟨m + 1, fun j => if j = m then k else g j, by omega, ?_, ?_, ?_⟩
            · simp only [hc_ck, hc_gi, hc_gl, hc_gp, hc_ap, kd_I, kd_L, kd_P, kd_rI, ar_I, ar_L, ar_P, al_I, al_L, al_P, hop_s, cond_true, cond_false, pc_I_I, pc_L_L, pc_P_P, pc_I_L, pc_I_P, pc_L_I, pc_L_P, pc_P_I, pc_P_L, pc_sS_I, pc_sS_L, pc_sS_P, I_rI, L_rI, P_rI, S_rI, cv_r, ci_r, cl_r, o1_b, o1_0, o1_1, lc_e, nI_1, nI_add, if_true, if_false, Nat.reduceEqDiff, Nat.left_eq_add, Nat.add_eq_left, false_and, and_false, true_and, and_true, and_self, eq_self]
            · intro j hj
              simp only [hc_ck, hc_gi, hc_gl, hc_gp, hc_ap, kd_I, kd_L, kd_P, kd_rI, ar_I, ar_L, ar_P, al_I, al_L, al_P, hop_s, cond_true, cond_false, pc_I_I, pc_L_L, pc_P_P, pc_I_L, pc_I_P, pc_L_I, pc_L_P, pc_P_I, pc_P_L, pc_sS_I, pc_sS_L, pc_sS_P, I_rI, L_rI, P_rI, S_rI, cv_r, ci_r, cl_r, o1_b, o1_0, o1_1, lc_e, nI_1, nI_add, if_true, if_false, Nat.reduceEqDiff, Nat.left_eq_add, Nat.add_eq_left, false_and, and_false, true_and, and_true, and_self, eq_self]
              by_cases e : j = m
              · simp only [e, if_true]
              · simp only [e, if_false]
                exact a3 j (by omega)
            · intro c
              constructor
              · rintro ⟨j, b1, b2⟩
                by_cases e : j = m
                · replace b2 : k = c := (if_pos e).symm.trans b2
                  subst b2
                  exact ⟨by omega, hB, e3⟩
                · replace b2 : g j = c := (if_neg e).symm.trans b2
                  have := (a4 c).mp ⟨j, by omega, b2⟩
                  exact ⟨by omega, this.2⟩
              · rintro ⟨b1, b2⟩
                by_cases e : c = k
                · exact ⟨m, by omega, (if_pos rfl).trans e.symm⟩
                · obtain ⟨j, c1, c2⟩ := (a4 c).mpr ⟨by omega, b2⟩
                  exact ⟨j, by omega, (if_neg (by omega)).trans c2⟩
        · rw [if_neg e3]
          by_cases e2 : o_ak O k = 2
          · rw [if_pos e2]
            refine ih u true q (hs1 (by omega) u rfl rfl rfl) (hc0 (by omega) u rfl rfl) ?_
            exact ⟨fun _ => ⟨k, by omega, hB, e2⟩, fun _ => rfl⟩
          · rw [if_neg e2]
            have hst' := hst
            obtain ⟨n, f, t, a1, a2, a3, a4⟩ := hst'
            have f1 : o_a1 O k < 60 := by omega
            have f2 : o_a2 O k < 60 := by omega
            simp (disch := first | assumption | omega) only [hc_ck, hc_gi, hc_gl, hc_gp, hc_ap, kd_I, kd_L, kd_P, kd_rI, ar_I, ar_L, ar_P, al_I, al_L, al_P, hop_s, cond_true, cond_false, pc_I_I, pc_L_L, pc_P_P, pc_I_L, pc_I_P, pc_L_I, pc_L_P, pc_P_I, pc_P_L, pc_sS_I, pc_sS_L, pc_sS_P, I_rI, L_rI, P_rI, S_rI, cv_r, ci_r, cl_r, o1_b, o1_0, o1_1, lc_e, nI_1, nI_add, if_true, if_false, Nat.reduceEqDiff, Nat.left_eq_add, Nat.add_eq_left, false_and, and_false, true_and, and_true, and_self, eq_self, Sa_k, SaB_o, On_k, On_p12, On_p13, On_r12, On_r13, OnR_a1, OnR_a2]
            rw [Sa_addStep H1 a2 (by omega) d]
            simp only [cv_r]
            have q2 : fI s h (am_sI (am_sI (am_sI u (s + 1) n (nI (o_a1 O k))) (s + 2) n (nI (o_a2 O k))) s 5 (nI (n + 1))) := fI_f (fI_w (fI_w q (by omega) (by omega) _ _) (by omega) (by omega) _ _) (by omega) (by omega) _
            have p2 := st_put a3 f1 f2
            by_cases e1 : o_ak O k = 1
            · rw [if_pos e1]
              have Hw := SaB_f H q2
              have H1w := SaB_at Hw
              have H2w := SaB_on Hw
              have H3w := OnR_at H2w
              have a2w : am_I (am_sI (am_sI (am_sI u (s + 1) n (nI (o_a1 O k))) (s + 2) n (nI (o_a2 O k))) s 5 (nI (n + 1))) s 5 = nI (n + 1) := by
                rw [pc_I_I, if_pos ⟨rfl, rfl⟩]
              have w8 : am_I (am_sI (am_sI (am_sI u (s + 1) n (nI (o_a1 O k))) (s + 2) n (nI (o_a2 O k))) s 5 (nI (n + 1))) s 8 = am_I u s 8 := by simp only [hc_ck, hc_gi, hc_gl, hc_gp, hc_ap, kd_I, kd_L, kd_P, kd_rI, ar_I, ar_L, ar_P, al_I, al_L, al_P, hop_s, cond_true, cond_false, pc_I_I, pc_L_L, pc_P_P, pc_I_L, pc_I_P, pc_L_I, pc_L_P, pc_P_I, pc_P_L, pc_sS_I, pc_sS_L, pc_sS_P, I_rI, L_rI, P_rI, S_rI, cv_r, ci_r, cl_r, o1_b, o1_0, o1_1, lc_e, nI_1, nI_add, if_true, if_false, Nat.reduceEqDiff, Nat.left_eq_add, Nat.add_eq_left, false_and, and_false, true_and, and_true, and_self, eq_self]
              have w3 : am_I (am_sI (am_sI (am_sI u (s + 1) n (nI (o_a1 O k))) (s + 2) n (nI (o_a2 O k))) s 5 (nI (n + 1))) (s + 3) = am_I u (s + 3) := by funext j; simp only [hc_ck, hc_gi, hc_gl, hc_gp, hc_ap, kd_I, kd_L, kd_P, kd_rI, ar_I, ar_L, ar_P, al_I, al_L, al_P, hop_s, cond_true, cond_false, pc_I_I, pc_L_L, pc_P_P, pc_I_L, pc_I_P, pc_L_I, pc_L_P, pc_P_I, pc_P_L, pc_sS_I, pc_sS_L, pc_sS_P, I_rI, L_rI, P_rI, S_rI, cv_r, ci_r, cl_r, o1_b, o1_0, o1_1, lc_e, nI_1, nI_add, if_true, if_false, Nat.reduceEqDiff, Nat.left_eq_add, Nat.add_eq_left, false_and, and_false, true_and, and_true, and_self, eq_self]
              generalize am_sI (am_sI (am_sI u (s + 1) n (nI (o_a1 O k))) (s + 2) n (nI (o_a2 O k))) s 5 (nI (n + 1)) = w at *
              simp (disch := first | assumption | omega) only [hc_ck, hc_gi, hc_gl, hc_gp, hc_ap, kd_I, kd_L, kd_P, kd_rI, ar_I, ar_L, ar_P, al_I, al_L, al_P, hop_s, cond_true, cond_false, pc_I_I, pc_L_L, pc_P_P, pc_I_L, pc_I_P, pc_L_I, pc_L_P, pc_P_I, pc_P_L, pc_sS_I, pc_sS_L, pc_sS_P, I_rI, L_rI, P_rI, S_rI, cv_r, ci_r, cl_r, o1_b, o1_0, o1_1, lc_e, nI_1, nI_add, if_true, if_false, Nat.reduceEqDiff, Nat.left_eq_add, Nat.add_eq_left, false_and, and_false, true_and, and_true, and_self, eq_self, Sa_k, SaB_o, On_k, On_p12, On_p13, On_r12, On_r13, OnR_a1, OnR_a2]
              rw [Sa_addStep H1w a2w (by omega) d]
              simp only [cv_r]
              refine ih _ b (fI_f (fI_w (fI_w q2 (by omega) (by omega) _ _) (by omega) (by omega) _ _) (by omega) (by omega) _) ⟨n + 1 + 1, _, _, by omega, ?_, st_put p2 f2 f1, st_iff2 a4 hB e1⟩ (hc0 (by omega) _ ?_ ?_) (hb0 (by omega))
              · rw [pc_I_I, if_pos ⟨rfl, rfl⟩]
              · simp only [hc_ck, hc_gi, hc_gl, hc_gp, hc_ap, kd_I, kd_L, kd_P, kd_rI, ar_I, ar_L, ar_P, al_I, al_L, al_P, hop_s, cond_true, cond_false, pc_I_I, pc_L_L, pc_P_P, pc_I_L, pc_I_P, pc_L_I, pc_L_P, pc_P_I, pc_P_L, pc_sS_I, pc_sS_L, pc_sS_P, I_rI, L_rI, P_rI, S_rI, cv_r, ci_r, cl_r, o1_b, o1_0, o1_1, lc_e, nI_1, nI_add, if_true, if_false, Nat.reduceEqDiff, Nat.left_eq_add, Nat.add_eq_left, false_and, and_false, true_and, and_true, and_self, eq_self]; exact w8
              · funext j; simp only [hc_ck, hc_gi, hc_gl, hc_gp, hc_ap, kd_I, kd_L, kd_P, kd_rI, ar_I, ar_L, ar_P, al_I, al_L, al_P, hop_s, cond_true, cond_false, pc_I_I, pc_L_L, pc_P_P, pc_I_L, pc_I_P, pc_L_I, pc_L_P, pc_P_I, pc_P_L, pc_sS_I, pc_sS_L, pc_sS_P, I_rI, L_rI, P_rI, S_rI, cv_r, ci_r, cl_r, o1_b, o1_0, o1_1, lc_e, nI_1, nI_add, if_true, if_false, Nat.reduceEqDiff, Nat.left_eq_add, Nat.add_eq_left, false_and, and_false, true_and, and_true, and_self, eq_self]; rw [w3]
            · rw [if_neg e1]
              refine ih _ b q2 ⟨n + 1, _, _, by omega, ?_, p2, st_iff1 a4 hB (by omega)⟩ (hc0 (by omega) _ ?_ ?_) (hb0 (by omega))
              · rw [pc_I_I, if_pos ⟨rfl, rfl⟩]
              · simp only [hc_ck, hc_gi, hc_gl, hc_gp, hc_ap, kd_I, kd_L, kd_P, kd_rI, ar_I, ar_L, ar_P, al_I, al_L, al_P, hop_s, cond_true, cond_false, pc_I_I, pc_L_L, pc_P_P, pc_I_L, pc_I_P, pc_L_I, pc_L_P, pc_P_I, pc_P_L, pc_sS_I, pc_sS_L, pc_sS_P, I_rI, L_rI, P_rI, S_rI, cv_r, ci_r, cl_r, o1_b, o1_0, o1_1, lc_e, nI_1, nI_add, if_true, if_false, Nat.reduceEqDiff, Nat.left_eq_add, Nat.add_eq_left, false_and, and_false, true_and, and_true, and_self, eq_self]
              · funext j; simp only [hc_ck, hc_gi, hc_gl, hc_gp, hc_ap, kd_I, kd_L, kd_P, kd_rI, ar_I, ar_L, ar_P, al_I, al_L, al_P, hop_s, cond_true, cond_false, pc_I_I, pc_L_L, pc_P_P, pc_I_L, pc_I_P, pc_L_I, pc_L_P, pc_P_I, pc_P_L, pc_sS_I, pc_sS_L, pc_sS_P, I_rI, L_rI, P_rI, S_rI, cv_r, ci_r, cl_r, o1_b, o1_0, o1_1, lc_e, nI_1, nI_add, if_true, if_false, Nat.reduceEqDiff, Nat.left_eq_add, Nat.add_eq_left, false_and, and_false, true_and, and_true, and_self, eq_self]
      · simp only [show xl (wL B) k = false from cast (wL_f (by omega)).symm hB, if_true]
        exact ih u b q (hs1 (fun p => hB p.1) u rfl rfl rfl) (hc0 (fun p => hB p.1) u rfl rfl) (hb0 (fun p => hB p.1))
  rw [e_Sa_sortAxioms]
  simp (disch := first | assumption | omega) only [hc_ck, hc_gi, hc_gl, hc_gp, hc_ap, kd_I, kd_L, kd_P, kd_rI, ar_I, ar_L, ar_P, al_I, al_L, al_P, hop_s, cond_true, cond_false, pc_I_I, pc_L_L, pc_P_P, pc_I_L, pc_I_P, pc_L_I, pc_L_P, pc_P_I, pc_P_L, pc_sS_I, pc_sS_L, pc_sS_P, I_rI, L_rI, P_rI, S_rI, cv_r, ci_r, cl_r, o1_b, o1_0, o1_1, lc_e, nI_1, nI_add, if_true, if_false, Nat.reduceEqDiff, Nat.left_eq_add, Nat.add_eq_left, false_and, and_false, true_and, and_true, and_self, eq_self, Sa_k]
  refine key 0 (Nat.zero_le _) _ false (fI_f (fI_f (fI_r _ _) (by omega) (by omega) _) (by omega) (by omega) _) ⟨0, fun _ => 0, fun _ => 0, by omega, ?_, fun k hk => absurd hk (Nat.not_lt_zero k), ?_⟩ ⟨0, fun _ => 0, by omega, ?_, fun k hk => absurd hk (Nat.not_lt_zero k), ?_⟩ ?_
  · simp only [hc_ck, hc_gi, hc_gl, hc_gp, hc_ap, kd_I, kd_L, kd_P, kd_rI, ar_I, ar_L, ar_P, al_I, al_L, al_P, hop_s, cond_true, cond_false, pc_I_I, pc_L_L, pc_P_P, pc_I_L, pc_I_P, pc_L_I, pc_L_P, pc_P_I, pc_P_L, pc_sS_I, pc_sS_L, pc_sS_P, I_rI, L_rI, P_rI, S_rI, cv_r, ci_r, cl_r, o1_b, o1_0, o1_1, lc_e, nI_1, nI_add, if_true, if_false, Nat.reduceEqDiff, Nat.left_eq_add, Nat.add_eq_left, false_and, and_false, true_and, and_true, and_self, eq_self]; rfl
  · exact fun c e => ⟨fun ⟨j, a, _⟩ => absurd a (Nat.not_lt_zero j), fun ⟨j, a, _⟩ => absurd a (Nat.not_lt_zero j)⟩
  · simp only [hc_ck, hc_gi, hc_gl, hc_gp, hc_ap, kd_I, kd_L, kd_P, kd_rI, ar_I, ar_L, ar_P, al_I, al_L, al_P, hop_s, cond_true, cond_false, pc_I_I, pc_L_L, pc_P_P, pc_I_L, pc_I_P, pc_L_I, pc_L_P, pc_P_I, pc_P_L, pc_sS_I, pc_sS_L, pc_sS_P, I_rI, L_rI, P_rI, S_rI, cv_r, ci_r, cl_r, o1_b, o1_0, o1_1, lc_e, nI_1, nI_add, if_true, if_false, Nat.reduceEqDiff, Nat.left_eq_add, Nat.add_eq_left, false_and, and_false, true_and, and_true, and_self, eq_self]; rfl
  · exact fun c => ⟨fun ⟨j, a, _⟩ => absurd a (Nat.not_lt_zero j), fun a => absurd a.1 (Nat.not_lt_zero c)⟩
  · exact ⟨fun a => absurd a (by decide), fun ⟨j, a, _⟩ => absurd a (Nat.not_lt_zero j)⟩
