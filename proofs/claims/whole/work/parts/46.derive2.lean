/-! ===== words up to a place; chains; derive ===== -/
theorem wk_s {Q : Nat → Nat → Prop} {k : Nat} {v : Int64} (h : ∀ y, y < 64 → (xl v y = true ↔ Q k y)) : wL (fun y => ∃ p, p < k ∧ Q p y) ||| v = wL (fun y => ∃ p, p < k + 1 ∧ Q p y) := by
  apply wL_of
  intro y hy
  rw [xl_or, Bool.or_eq_true, wL_x, h y hy]
  constructor
  · rintro (⟨-, p, h1, h2⟩ | h1)
    · exact ⟨p, by omega, h2⟩
    · exact ⟨k, by omega, h1⟩
  · rintro ⟨p, h1, h2⟩
    by_cases e : p = k
    · subst e; exact Or.inr h2
    · exact Or.inl ⟨hy, p, by omega, h2⟩
theorem wk_n {Q : Nat → Nat → Prop} {k : Nat} (h : ∀ y, y < 64 → ¬ Q k y) : wL (fun y => ∃ p, p < k ∧ Q p y) = wL (fun y => ∃ p, p < k + 1 ∧ Q p y) := by
  apply wL_cong
  intro y hy
  constructor
  · rintro ⟨p, h1, h2⟩
    exact ⟨p, by omega, h2⟩
  · rintro ⟨p, h1, h2⟩
    by_cases e : p = k
    · subst e; exact absurd h2 (h y hy)
    · exact ⟨p, by omega, h2⟩
theorem wk_0 {Q : Nat → Nat → Prop} : wL (fun y => ∃ p, p < 0 ∧ Q p y) = 0 := wL_0.mpr (fun k _ => fun ⟨i, h, _⟩ => absurd h (Nat.not_lt_zero i))
theorem wk_sI {Q : Nat → Nat → Prop} {k : Nat} {v : Int32} (h : ∀ y, y < 32 → (yi v y = true ↔ Q k y)) : wI (fun y => ∃ p, p < k ∧ Q p y) ||| v = wI (fun y => ∃ p, p < k + 1 ∧ Q p y) := by
  apply wI_of
  intro y hy
  rw [yi_or, Bool.or_eq_true, wI_x, h y hy]
  constructor
  · rintro (⟨-, p, h1, h2⟩ | h1)
    · exact ⟨p, by omega, h2⟩
    · exact ⟨k, by omega, h1⟩
  · rintro ⟨p, h1, h2⟩
    by_cases e : p = k
    · subst e; exact Or.inr h2
    · exact Or.inl ⟨hy, p, by omega, h2⟩
theorem wk_nI {Q : Nat → Nat → Prop} {k : Nat} (h : ∀ y, y < 32 → ¬ Q k y) : wI (fun y => ∃ p, p < k ∧ Q p y) = wI (fun y => ∃ p, p < k + 1 ∧ Q p y) := by
  apply wI_cong
  intro y hy
  constructor
  · rintro ⟨p, h1, h2⟩
    exact ⟨p, by omega, h2⟩
  · rintro ⟨p, h1, h2⟩
    by_cases e : p = k
    · subst e; exact absurd h2 (h y hy)
    · exact ⟨p, by omega, h2⟩
theorem wI_0 {P : Nat → Prop} : wI P = 0 ↔ ∀ k, k < 32 → ¬ P k := by
  rw [yi_eq0]
  constructor
  · intro h k hk q
    have := h k hk
    rw [wI_x.mpr ⟨hk, q⟩] at this
    cases this
  · intro h k hk
    cases e : yi (wI P) k
    · rfl
    · exact absurd (wI_x.mp e).2 (h k hk)
theorem wk_0I {Q : Nat → Nat → Prop} : wI (fun y => ∃ p, p < 0 ∧ Q p y) = 0 := wI_0.mpr (fun k _ => fun ⟨i, h, _⟩ => absurd h (Nat.not_lt_zero i))
theorem wI_f {P : Nat → Prop} {k : Nat} (hk : k < 32) : (yi (wI P) k = false) = ¬ P k := by
  apply propext
  rw [← Bool.not_eq_true, wI_x]
  exact ⟨fun h q => h ⟨hk, q⟩, fun h q => h q.2⟩
theorem wL_or (P Q : Nat → Prop) : wL P ||| wL Q = wL (fun k => P k ∨ Q k) := wL_of (fun k hk => by
  rw [xl_or, Bool.or_eq_true, wL_x, wL_x]
  exact ⟨fun h => h.imp And.right And.right, fun h => h.imp (fun q => ⟨hk, q⟩) (fun q => ⟨hk, q⟩)⟩)
theorem wL_and (P Q : Nat → Prop) : wL P &&& wL Q = wL (fun k => P k ∧ Q k) := wL_of (fun k hk => by
  rw [xl_and, Bool.and_eq_true, wL_x, wL_x]
  exact ⟨fun h => ⟨h.1.2, h.2.2⟩, fun h => ⟨⟨hk, h.1⟩, ⟨hk, h.2⟩⟩⟩)
theorem wL_an (P Q : Nat → Prop) : wL P &&& (wL Q ^^^ (-1)) = wL (fun k => P k ∧ ¬ Q k) := wL_of (fun k hk => by
  rw [xl_and, Bool.and_eq_true, wL_x, xl_not _ hk, Bool.not_eq_true']
  rw [wL_f hk]
  exact ⟨fun h => ⟨h.1.2, h.2⟩, fun h => ⟨⟨hk, h.1⟩, h.2⟩⟩)
theorem wL_2 (P : Nat → Prop) : wL P ||| 2 = wL (fun k => P k ∨ k = 1) := wL_of (fun k hk => by
  rw [xl_or, Bool.or_eq_true, wL_x, xl_2, decide_eq_true_iff]
  exact ⟨fun h => h.imp And.right id, fun h => h.imp (fun q => ⟨hk, q⟩) id⟩)
theorem wL_e {P Q : Nat → Prop} (h : wL P = wL Q) {k : Nat} (hk : k < 64) : P k ↔ Q k := by
  have e : xl (wL P) k = true ↔ xl (wL Q) k = true := by rw [h]
  rw [wL_x, wL_x] at e
  exact ⟨fun q => (e.mp ⟨hk, q⟩).2, fun q => (e.mpr ⟨hk, q⟩).2⟩
/-- links that the chains bring, of the first i -/
theorem Sa_byChains {h : am_H} {s o : Nat} {O : o_T} {B T : Nat → Prop} {A : Nat → Nat → Prop} {K : Nat → Nat → Nat → Prop} (H : SaC h s o O B) {x : Nat} (hx : x < o_P O) (hT : ∀ r z, K x r z → T z ∧ z < o_P O)
    (hre : ∀ z, z < o_P O → T z → ∀ r, r < o_R O → am_L h (s + 8) (z * 8 + r) = wL (fun y => ∃ q, o_un O B q r ∧ K z q y)) (Tx : T x) (N : Nat → Nat → Prop) (hN : ∀ r, r < o_R O → am_L h (s + 11) (x * 8 + r) = wL (N r)) (d : Nat) :
    ∃ h', f_Sa_byChains d h s (nI x) = some (.inr none, h') ∧ fX (fun b => b = s + 11) h h' ∧ (∀ r, r < o_R O → am_L h' (s + 11) (x * 8 + r) = wL (fun y => N r y ∨ ∃ k, k < o_A O ∧ B k ∧ o_ak O k = 3 ∧ o_a3 O k = r ∧ ∃ z, (∃ q, o_un O B q (o_a1 O k) ∧ K x q z) ∧ (∃ q, o_un O B q (o_a2 O k) ∧ K z q y))) ∧ (∀ j, j < x * 8 ∨ x * 8 + 8 ≤ j → am_L h' (s + 11) j = am_L h (s + 11) j) := by
  have ok : o_ok O := H.2.1.2.1
  obtain ⟨-, ok2, ok3, ok4, ok5, -, -, -, okA, -⟩ := ok
  obtain ⟨m, g, hm, e8, eg, ei⟩ := H.2.2.2.2.2.2.2.1
  have key : ∀ i, i ≤ m → ∀ (u : am_H), fX (fun b => b = s + 11) h u → (∀ r, r < o_R O → am_L u (s + 11) (x * 8 + r) = wL (fun y => N r y ∨ ∃ j, j < i ∧ o_a3 O (g j) = r ∧ ∃ z, (∃ q, o_un O B q (o_a1 O (g j)) ∧ K x q z) ∧ (∃ q, o_un O B q (o_a2 O (g j)) ∧ K z q y))) → (∀ j, j < x * 8 ∨ x * 8 + 8 ≤ j → am_L u (s + 11) j = am_L h (s + 11) j) →
      ∃ h', f_Sa_byChains_2 d u s (nI x) (nI i) = some (.inr none, h') ∧ fX (fun b => b = s + 11) h h' ∧ (∀ r, r < o_R O → am_L h' (s + 11) (x * 8 + r) = wL (fun y => N r y ∨ ∃ k, k < o_A O ∧ B k ∧ o_ak O k = 3 ∧ o_a3 O k = r ∧ ∃ z, (∃ q, o_un O B q (o_a1 O k) ∧ K x q z) ∧ (∃ q, o_un O B q (o_a2 O k) ∧ K z q y))) ∧ (∀ j, j < x * 8 ∨ x * 8 + 8 ≤ j → am_L h' (s + 11) j = am_L h (s + 11) j) := by
    refine dn ?_ ?_
    · intro u q hr hj
      have Hu := SaC_f H (fX_L q (fun b hb => by omega))
      have H1 := SaC_at Hu
      have e8' : am_I u s 8 = nI m := by rw [q.1]; exact e8
      refine ⟨u, ?_, q, ?_, hj⟩
      · rw [e_Sa_byChains_2]
        simp (disch := first | assumption | omega) only [hc_ck, hc_gi, hc_gl, hc_gp, hc_ap, kd_I, kd_L, kd_P, kd_rI, ar_I, ar_L, ar_P, al_I, al_L, al_P, hop_s, cond_true, cond_false, pc_I_I, pc_L_L, pc_P_P, pc_I_L, pc_I_P, pc_L_I, pc_L_P, pc_P_I, pc_P_L, pc_sS_I, pc_sS_L, pc_sS_P, I_rI, L_rI, P_rI, S_rI, cv_r, ci_r, cl_r, o1_b, o1_0, o1_1, lc_e, nI_1, nI_add, if_true, if_false, Nat.reduceEqDiff, Nat.left_eq_add, Nat.add_eq_left, false_and, and_false, true_and, and_true, and_self, eq_self, Sa_k, e8', n_le, Nat.le_refl]
      · intro r hr'
        rw [hr r hr']
        apply wL_cong
        intro y hy
        constructor
        · rintro (h1 | ⟨j, h1, h2, h3⟩)
          · exact Or.inl h1
          · obtain ⟨a, b, c⟩ := (ei (g j)).mp ⟨j, h1, rfl⟩
            exact Or.inr ⟨g j, a, b, c, h2, h3⟩
        · rintro (h1 | ⟨k, h1, h2, h3, h4⟩)
          · exact Or.inl h1
          · obtain ⟨j, h5, rfl⟩ := (ei k).mpr ⟨h1, h2, h3⟩
            exact Or.inr ⟨j, h5, h4⟩
    · intro i hi ih u q hr hj
      have Hu := SaC_f H (fX_L q (fun b hb => by omega))
      have H1 := SaC_at Hu
      have H2 := SaC_on Hu
      have H3 := OnR_at H2
      have e8' : am_I u s 8 = nI m := by rw [q.1]; exact e8
      have eg' : am_I u (s + 3) i = nI (g i) := by rw [q.1]; exact eg i hi
      obtain ⟨gA, gB, g3⟩ := (ei (g i)).mp ⟨i, hi, rfl⟩
      have okk := okA (g i) gA
      unfold o_okA at okk
      have hi3 : ¬ m ≤ i := by omega
      have er : ∀ z, z < o_P O → T z → ∀ r, r < o_R O → am_L u (s + 8) (z * 8 + r) = wL (fun y => ∃ q, o_un O B q r ∧ K z q y) := by
        intro z h1 h2 r h3
        rw [q.2.2.2.2.2 (s + 8) (by omega)]
        exact hre z h1 h2 r h3
      have h1 : o_a1 O (g i) < o_R O := by omega
      have h2 : o_a2 O (g i) < o_R O := by omega
      have h3 : o_a3 O (g i) < o_R O := by omega
      -- the ends
      have fin : ∀ (l7 : Int64), l7 = wL (fun y => ∃ z, (∃ q, o_un O B q (o_a1 O (g i)) ∧ K x q z) ∧ (∃ q, o_un O B q (o_a2 O (g i)) ∧ K z q y)) →
          ∃ h', f_Sa_byChains_2 d (am_sL u (s + 11) (x * 8 + o_a3 O (g i)) ((am_L u (s + 11) (x * 8 + o_a3 O (g i))) ||| l7)) s (nI x) (nI (i + 1)) = some (.inr none, h') ∧ fX (fun b => b = s + 11) h h' ∧ (∀ r, r < o_R O → am_L h' (s + 11) (x * 8 + r) = wL (fun y => N r y ∨ ∃ k, k < o_A O ∧ B k ∧ o_ak O k = 3 ∧ o_a3 O k = r ∧ ∃ z, (∃ q, o_un O B q (o_a1 O k) ∧ K x q z) ∧ (∃ q, o_un O B q (o_a2 O k) ∧ K z q y))) ∧ (∀ j, j < x * 8 ∨ x * 8 + 8 ≤ j → am_L h' (s + 11) j = am_L h (s + 11) j) := by
        intro l7 hl
        refine ih _ (fX_w q rfl _ _) ?_ ?_
        · intro r hr'
          simp only [pc_L_L, true_and]
          by_cases e : r = o_a3 O (g i)
          · subst e
            rw [if_pos rfl, hr _ h3, hl, wL_or]
            apply wL_cong
            intro y hy
            constructor
            · rintro ((a | ⟨j, a, b⟩) | a)
              · exact Or.inl a
              · exact Or.inr ⟨j, by omega, b⟩
              · exact Or.inr ⟨i, by omega, rfl, a⟩
            · rintro (a | ⟨j, a, b⟩)
              · exact Or.inl (Or.inl a)
              · by_cases e : j = i
                · subst e; exact Or.inr b.2
                · exact Or.inl (Or.inr ⟨j, by omega, b⟩)
          · rw [if_neg (by omega), hr r hr']
            apply wL_cong
            intro y hy
            constructor
            · rintro (a | ⟨j, a, b⟩)
              · exact Or.inl a
              · exact Or.inr ⟨j, by omega, b⟩
            · rintro (a | ⟨j, a, b⟩)
              · exact Or.inl a
              · by_cases e' : j = i
                · subst e'; exact absurd b.1.symm e
                · exact Or.inr ⟨j, by omega, b⟩
        · intro j hj'
          simp only [pc_L_L, true_and]
          rw [if_neg (by omega)]
          exact hj j hj'
      have inner : ∀ k, k ≤ o_P O → ∀ (l7 : Int64), l7 = wL (fun y => ∃ z, z < k ∧ ((∃ q, o_un O B q (o_a1 O (g i)) ∧ K x q z) ∧ (∃ q, o_un O B q (o_a2 O (g i)) ∧ K z q y))) →
          ∃ h', f_Sa_byChains_55 d u s (nI x) (nI i) (nI (g i)) (wL (fun y => ∃ q, o_un O B q (o_a1 O (g i)) ∧ K x q y)) (nI (o_a2 O (g i))) l7 (nI k) = some (.inr none, h') ∧ fX (fun b => b = s + 11) h h' ∧ (∀ r, r < o_R O → am_L h' (s + 11) (x * 8 + r) = wL (fun y => N r y ∨ ∃ k, k < o_A O ∧ B k ∧ o_ak O k = 3 ∧ o_a3 O k = r ∧ ∃ z, (∃ q, o_un O B q (o_a1 O k) ∧ K x q z) ∧ (∃ q, o_un O B q (o_a2 O k) ∧ K z q y))) ∧ (∀ j, j < x * 8 ∨ x * 8 + 8 ≤ j → am_L h' (s + 11) j = am_L h (s + 11) j) := by
        refine dn ?_ ?_
        · intro l7 hl
          have hfin := fin l7 (by
            rw [hl]
            apply wL_cong
            intro y hy
            constructor
            · rintro ⟨z, -, a⟩
              exact ⟨z, a⟩
            · rintro ⟨z, ⟨q', a1, a2⟩, b⟩
              exact ⟨z, (hT _ _ a2).2, ⟨q', a1, a2⟩, b⟩)
          rw [e_Sa_byChains_55]
          simp (disch := first | assumption | omega) only [hc_ck, hc_gi, hc_gl, hc_gp, hc_ap, kd_I, kd_L, kd_P, kd_rI, ar_I, ar_L, ar_P, al_I, al_L, al_P, hop_s, cond_true, cond_false, pc_I_I, pc_L_L, pc_P_P, pc_I_L, pc_I_P, pc_L_I, pc_L_P, pc_P_I, pc_P_L, pc_sS_I, pc_sS_L, pc_sS_P, I_rI, L_rI, P_rI, S_rI, cv_r, ci_r, cl_r, o1_b, o1_0, o1_1, lc_e, nI_1, nI_add, if_true, if_false, Nat.reduceEqDiff, Nat.left_eq_add, Nat.add_eq_left, false_and, and_false, true_and, and_true, and_self, eq_self, Sa_k, SaC_P, SaC_o, On_k, On_p14, On_r14, OnR_a3, Sa_p17, Sa_r11, n_m8, n_le, Nat.le_refl, ite_self]
          exact hfin
        · intro k hk ih2 l7 hl
          have hk3 : ¬ o_P O ≤ k := by omega
          rw [e_Sa_byChains_55]
          simp (disch := first | assumption | omega) only [hc_ck, hc_gi, hc_gl, hc_gp, hc_ap, kd_I, kd_L, kd_P, kd_rI, ar_I, ar_L, ar_P, al_I, al_L, al_P, hop_s, cond_true, cond_false, pc_I_I, pc_L_L, pc_P_P, pc_I_L, pc_I_P, pc_L_I, pc_L_P, pc_P_I, pc_P_L, pc_sS_I, pc_sS_L, pc_sS_P, I_rI, L_rI, P_rI, S_rI, cv_r, ci_r, cl_r, o1_b, o1_0, o1_1, lc_e, nI_1, nI_add, if_true, if_false, Nat.reduceEqDiff, Nat.left_eq_add, Nat.add_eq_left, false_and, and_false, true_and, and_true, and_self, eq_self, Sa_k, SaC_P, SaC_o, On_k, On_p14, On_r14, OnR_a3, Sa_p17, Sa_r11, Sa_p14, n_m8, n_le, hk3, xl_t0]
          by_cases e0 : wL (fun y => ∃ q, o_un O B q (o_a1 O (g i)) ∧ K x q y) = 0
          · rw [if_pos e0]
            apply fin
            rw [hl]
            have e0' := wL_0.mp e0
            apply wL_cong
            intro y hy
            constructor
            · rintro ⟨z, h5, h6, -⟩
              exact absurd h6 (e0' z (by omega))
            · rintro ⟨z, ⟨q', a1, a2⟩, -⟩
              exact absurd ⟨q', a1, a2⟩ (e0' z (by have := (hT _ _ a2).2; omega))
          · rw [if_neg e0]
            by_cases hz : ∃ q, o_un O B q (o_a1 O (g i)) ∧ K x q k
            · have Tk : T k := by
                obtain ⟨q', a1, a2⟩ := hz
                exact (hT _ _ a2).1
              simp (disch := first | assumption | omega) only [show xl (wL (fun y => ∃ q, o_un O B q (o_a1 O (g i)) ∧ K x q y)) k = true from wL_x.mpr ⟨by omega, hz⟩, Bool.true_eq_false, if_false, Sa_r8]
              apply ih2
              rw [hl, er k hk Tk _ h2]
              apply wk_s
              intro y hy
              rw [wL_x]
              exact ⟨fun a => ⟨hz, a.2⟩, fun a => ⟨hy, a.2⟩⟩
            · simp only [show xl (wL (fun y => ∃ q, o_un O B q (o_a1 O (g i)) ∧ K x q y)) k = false from cast (wL_f (by omega)).symm hz, if_true]
              apply ih2
              rw [hl]
              apply wk_n
              intro y hy a
              exact hz a.1
      rw [e_Sa_byChains_2]
      simp (disch := first | assumption | omega) only [hc_ck, hc_gi, hc_gl, hc_gp, hc_ap, kd_I, kd_L, kd_P, kd_rI, ar_I, ar_L, ar_P, al_I, al_L, al_P, hop_s, cond_true, cond_false, pc_I_I, pc_L_L, pc_P_P, pc_I_L, pc_I_P, pc_L_I, pc_L_P, pc_P_I, pc_P_L, pc_sS_I, pc_sS_L, pc_sS_P, I_rI, L_rI, P_rI, S_rI, cv_r, ci_r, cl_r, o1_b, o1_0, o1_1, lc_e, nI_1, nI_add, if_true, if_false, Nat.reduceEqDiff, Nat.left_eq_add, Nat.add_eq_left, false_and, and_false, true_and, and_true, and_self, eq_self, Sa_k, e8', eg', n_le, hi3, Sa_p9, Sa_r3, Sa_p14, SaC_o, On_k, On_p12, On_r12, On_p13, On_r13, OnR_a1, OnR_a2, n_m8, Sa_r8]
      rw [er x hx Tx _ h1]
      exact inner 0 (Nat.zero_le _) 0 wk_0.symm
  rw [e_Sa_byChains]
  refine key 0 (Nat.zero_le _) h (fX_r _ _) ?_ (fun _ _ => rfl)
  intro r hr
  rw [hN r hr]
  apply wL_cong
  intro y hy
  exact ⟨Or.inl, fun a => a.elim id (fun ⟨j, a, _⟩ => absurd a (Nat.not_lt_zero j))⟩
/-- derive: what the next round brings of x waits in nA, nK -/
theorem Sa_derive {h : am_H} {s o : Nat} {O : o_T} {B T : Nat → Prop} {A : Nat → Nat → Prop} {K : Nat → Nat → Nat → Prop} {nA : Nat → Int64} {nK : Nat → Nat → Int64} (H : SaC h s o O B) (D : SaD h s O B T A K nA nK) {x : Nat} (hx : x < o_P O) (Tx : T x) (hT : ∀ r z, K x r z → T z ∧ z < o_P O) (hz : ∀ r, r < o_R O → nK x r = 0) (d : Nat) :
    ∃ h', f_Sa_derive (d + 1) h s (nI x) = some (.inr none, h') ∧ fX (fun b => b = s + 10 ∨ b = s + 11) h h' ∧ (am_L h' (s + 10) x = wL (fun y => r_A O B A K x y ∧ ¬ A x y)) ∧ (∀ j, j ≠ x → am_L h' (s + 10) j = am_L h (s + 10) j) ∧ (∀ r, r < o_R O → am_L h' (s + 11) (x * 8 + r) = wL (r_K O B A K x r)) ∧ (∀ j, j < x * 8 ∨ x * 8 + 8 ≤ j → am_L h' (s + 11) j = am_L h (s + 11) j) := by
  have ok : o_ok O := H.2.1.2.1
  obtain ⟨-, ok2, ok3, ok4, ok5, -, -, -, okA, -⟩ := ok
  obtain ⟨g, eg, qg, hr, hj⟩ := Sa_byParts H D hx Tx hT hz d
  have H1 := SaC_at H
  have Hg := SaC_f H (fX_L qg (fun b hb => by omega))
  have H1g := SaC_at Hg
  obtain ⟨-, D2, D3⟩ := D
  obtain ⟨DA, Dl, -, DR⟩ := D2 x hx Tx
  have eA : am_L g (s + 5) x = wL (A x) := by rw [qg.2.2.2.2.2 (s + 5) (by omega)]; exact DA
  have el : am_L g (s + 9) x = wL (fun y => ∃ r, K x r y) := by rw [qg.2.2.2.2.2 (s + 9) (by omega)]; exact Dl
  have eh : am_L g (s + 6) 1 = wL (fun x => T x ∧ A x 1) := by rw [qg.2.2.2.2.2 (s + 6) (by omega)]; exact D3 1 (by omega)
  -- the end, for the word that waits
  have fin : ∀ w : Int64, w = wL (fun y => r_A O B A K x y ∧ ¬ A x y) →
      ∃ h', (if wL (fun y => ∃ r, K x r y) = 0 then some (.inr none, am_sL g (s + 10) x w) else am_cv (f_Sa_byChains d (am_sL g (s + 10) x w) s (nI x)) fun h_19 => some (.inr none, h_19)) = some (.inr none, h') ∧ fX (fun b => b = s + 10 ∨ b = s + 11) h h' ∧ (am_L h' (s + 10) x = wL (fun y => r_A O B A K x y ∧ ¬ A x y)) ∧ (∀ j, j ≠ x → am_L h' (s + 10) j = am_L h (s + 10) j) ∧ (∀ r, r < o_R O → am_L h' (s + 11) (x * 8 + r) = wL (r_K O B A K x r)) ∧ (∀ j, j < x * 8 ∨ x * 8 + 8 ≤ j → am_L h' (s + 11) j = am_L h (s + 11) j) := by
    intro w hw
    have q2 : fX (fun b => b = s + 10 ∨ b = s + 11) h (am_sL g (s + 10) x w) := fX_w (W := fun b => b = s + 10 ∨ b = s + 11) (fX_m qg (fun b hb => Or.inr hb)) (Or.inl rfl) _ _
    have a1 : am_L (am_sL g (s + 10) x w) (s + 10) x = wL (fun y => r_A O B A K x y ∧ ¬ A x y) := by rw [pc_L_L, if_pos ⟨rfl, rfl⟩]; exact hw
    have a2 : ∀ j, j ≠ x → am_L (am_sL g (s + 10) x w) (s + 10) j = am_L h (s + 10) j := by
      intro j hj
      rw [pc_L_L, if_neg (by omega), qg.2.2.2.2.2 (s + 10) (by omega)]
    have a3 : ∀ j, am_L (am_sL g (s + 10) x w) (s + 11) j = am_L g (s + 11) j := by
      intro j
      rw [pc_L_L, if_neg (by omega)]
    by_cases e0 : wL (fun y => ∃ r, K x r y) = 0
    · rw [if_pos e0]
      have e0' := wL_0.mp e0
      refine ⟨_, rfl, q2, a1, a2, ?_, ?_⟩
      · intro r hr'
        rw [a3, hr r hr']
        apply wL_cong
        intro y hy
        constructor
        · rintro ⟨p, b1, b2, b3, b4, b5⟩
          exact Or.inl ⟨p, b1, b2, b3, b4, b5⟩
        · rintro (⟨p, b1, b2, b3, b4, b5⟩ | ⟨k, -, -, -, -, z, ⟨q', -, b⟩, -⟩)
          · exact ⟨p, b1, b2, b3, b4, b5⟩
          · exact absurd ⟨q', b⟩ (e0' z (by have := (hT _ _ b).2; omega))
      · intro j hj'
        rw [a3]
        exact hj j hj'
    · rw [if_neg e0]
      have Hw := SaC_f H (fX_L q2 (fun b hb => by omega))
      obtain ⟨u, eu, qu, ur, uj⟩ := Sa_byChains (T := T) (A := A) (K := K) Hw hx hT (fun z h1 h2 r h3 => by
        rw [pc_L_L, if_neg (by omega), qg.2.2.2.2.2 (s + 8) (by omega)]
        exact ((D2 z h1 h2).2.2.2 r h3).2.1) Tx (fun r y => ∃ p, p < o_P O ∧ c_N O A x p r y) (fun r hr' => by rw [a3]; exact hr r hr') d
      rw [eu]
      refine ⟨u, rfl, fX_t q2 (fX_m qu (fun b hb => Or.inr hb)), ?_, ?_, ?_, ?_⟩
      · rw [qu.2.2.2.2.2 (s + 10) (by omega)]; exact a1
      · intro j hj'
        rw [qu.2.2.2.2.2 (s + 10) (by omega)]; exact a2 j hj'
      · intro r hr'
        rw [ur r hr']
        apply wL_cong
        intro y hy
        constructor
        · rintro (⟨p, b1, b2, b3, b4, b5⟩ | b)
          · exact Or.inl ⟨p, b1, b2, b3, b4, b5⟩
          · exact Or.inr b
        · rintro (⟨p, b1, b2, b3, b4, b5⟩ | b)
          · exact Or.inl ⟨p, b1, b2, b3, b4, b5⟩
          · exact Or.inr b
      · intro j hj'
        rw [uj j hj', a3]
        exact hj j hj'
  -- what the rules bring
  have rules : ∀ y, y < 64 → ((((∃ c, xl (wL (A x)) c = true ∧ o_im O B c y) ∨ (∃ p, p < o_P O ∧ c_P O B A K x p y)) ∨ (y = 1 ∧ ∃ z, (∃ r, K x r z) ∧ A z 1)) ∧ ¬ A x y ↔ r_A O B A K x y ∧ ¬ A x y) := by
    intro y hy
    constructor
    · rintro ⟨((⟨c, h1, h2⟩ | ⟨p, h1, h2⟩) | h1), h3⟩
      · exact ⟨Or.inl ⟨c, (wL_x.mp h1).2, h2⟩, h3⟩
      · rcases h2 with ⟨a, b, c⟩ | ⟨a, -, b, rfl⟩ | ⟨a, -, b, rfl⟩
        · exact ⟨Or.inr (Or.inl ⟨p, h1, a, b, c⟩), h3⟩
        · exact ⟨Or.inr (Or.inr (Or.inl ⟨h1, a, b⟩)), h3⟩
        · exact ⟨Or.inr (Or.inr (Or.inr (Or.inl ⟨h1, a, b⟩))), h3⟩
      · exact ⟨Or.inr (Or.inr (Or.inr (Or.inr h1))), h3⟩
    · rintro ⟨⟨c, h1, h2⟩ | ⟨p, h1, a, b, c⟩ | ⟨h1, a, b⟩ | ⟨h1, a, b⟩ | h1, h3⟩
      · exact ⟨Or.inl (Or.inl ⟨c, wL_x.mpr ⟨by have := (o_imd H.2.1.2.1 h2).1; omega, h1⟩, h2⟩), h3⟩
      · exact ⟨Or.inl (Or.inr ⟨p, h1, Or.inl ⟨a, b, c⟩⟩), h3⟩
      · exact ⟨Or.inl (Or.inr ⟨y, h1, Or.inr (Or.inl ⟨a, h3, b, rfl⟩)⟩), h3⟩
      · exact ⟨Or.inl (Or.inr ⟨y, h1, Or.inr (Or.inr ⟨a, h3, b, rfl⟩)⟩), h3⟩
      · exact ⟨Or.inr h1, h3⟩
  rw [e_Sa_derive]
  simp (disch := first | assumption | omega) only [hc_ck, hc_gi, hc_gl, hc_gp, hc_ap, kd_I, kd_L, kd_P, kd_rI, ar_I, ar_L, ar_P, al_I, al_L, al_P, hop_s, cond_true, cond_false, pc_I_I, pc_L_L, pc_P_P, pc_I_L, pc_I_P, pc_L_I, pc_L_P, pc_P_I, pc_P_L, pc_sS_I, pc_sS_L, pc_sS_P, I_rI, L_rI, P_rI, S_rI, cv_r, ci_r, cl_r, o1_b, o1_0, o1_1, lc_e, nI_1, nI_add, if_true, if_false, Nat.reduceEqDiff, Nat.left_eq_add, Nat.add_eq_left, false_and, and_false, true_and, and_true, and_self, eq_self, Sa_k, Sa_p11, Sa_r5, DA]
  rw [Sa_byAxioms H d]
  simp (disch := first | assumption | omega) only [hc_ck, hc_gi, hc_gl, hc_gp, hc_ap, kd_I, kd_L, kd_P, kd_rI, ar_I, ar_L, ar_P, al_I, al_L, al_P, hop_s, cond_true, cond_false, pc_I_I, pc_L_L, pc_P_P, pc_I_L, pc_I_P, pc_L_I, pc_L_P, pc_P_I, pc_P_L, pc_sS_I, pc_sS_L, pc_sS_P, I_rI, L_rI, P_rI, S_rI, cv_r, ci_r, cl_r, o1_b, o1_0, o1_1, lc_e, nI_1, nI_add, if_true, if_false, Nat.reduceEqDiff, Nat.left_eq_add, Nat.add_eq_left, false_and, and_false, true_and, and_true, and_self, eq_self, Sa_k, Sa_p11, Sa_r5, DA]
  rw [eg]
  simp (disch := first | assumption | omega) only [hc_ck, hc_gi, hc_gl, hc_gp, hc_ap, kd_I, kd_L, kd_P, kd_rI, ar_I, ar_L, ar_P, al_I, al_L, al_P, hop_s, cond_true, cond_false, pc_I_I, pc_L_L, pc_P_P, pc_I_L, pc_I_P, pc_L_I, pc_L_P, pc_P_I, pc_P_L, pc_sS_I, pc_sS_L, pc_sS_P, I_rI, L_rI, P_rI, S_rI, cv_r, ci_r, cl_r, o1_b, o1_0, o1_1, lc_e, nI_1, nI_add, if_true, if_false, Nat.reduceEqDiff, Nat.left_eq_add, Nat.add_eq_left, false_and, and_false, true_and, and_true, and_self, eq_self, Sa_k, Sa_p11, Sa_p15, Sa_p12, Sa_p16, Sa_r5, Sa_r9, Sa_r6, Sa_r10, n_1, el, eh, eA, show x < 60 from by omega]
  by_cases hv : ∃ z, (∃ r, K x r z) ∧ A z 1
  · rw [if_neg (by
      rw [wL_a0]
      obtain ⟨z, ⟨r, a⟩, b⟩ := hv
      have := hT r z a
      exact fun h => h ⟨z, by omega, ⟨r, a⟩, this.1, b⟩)]
    have hf := fin _ ((by
      rw [wL_or, wL_2, wL_an]
      exact wL_cong (fun y hy => Iff.trans ⟨fun ⟨a, b⟩ => ⟨a.elim Or.inl (fun e => Or.inr ⟨e, hv⟩), b⟩, fun ⟨a, b⟩ => ⟨a.elim Or.inl (fun e => Or.inr e.1), b⟩⟩ (rules y hy))) : ((wL (fun y => ∃ c, xl (wL (A x)) c = true ∧ o_im O B c y) ||| wL (fun y => ∃ p, p < o_P O ∧ c_P O B A K x p y)) ||| 2) &&& (wL (A x) ^^^ (-1)) = wL (fun y => r_A O B A K x y ∧ ¬ A x y))
    exact hf
  · rw [if_pos (by
      rw [wL_a0]
      rintro ⟨z, -, a, -, b⟩
      exact hv ⟨z, a, b⟩)]
    have hf := fin _ ((by
      rw [wL_or, wL_an]
      exact wL_cong (fun y hy => Iff.trans ⟨fun ⟨a, b⟩ => ⟨Or.inl a, b⟩, fun ⟨a, b⟩ => ⟨a.elim id (fun e => absurd e.2 hv), b⟩⟩ (rules y hy))) : (wL (fun y => ∃ c, xl (wL (A x)) c = true ∧ o_im O B c y) ||| wL (fun y => ∃ p, p < o_P O ∧ c_P O B A K x p y)) &&& (wL (A x) ^^^ (-1)) = wL (fun y => r_A O B A K x y ∧ ¬ A x y))
    exact hf
