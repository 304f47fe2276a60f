/-! ===== rows put in order ===== -/
theorem il_lt {a b : Int64} : a < b ↔ a.toInt < b.toInt := Int64.lt_iff_toInt_lt
theorem il_tr {a b c : Int64} (h1 : a < b) (h2 : b < c) : a < c := by
  rw [il_lt] at *
  omega
theorem il_ir (a : Int64) : ¬ a < a := by
  rw [il_lt]
  omega
theorem il_of {a b : Int64} (h : ¬ a < b) (h2 : a ≠ b) : b < a := by
  rw [il_lt] at *
  have : a.toInt ≠ b.toInt := fun e => h2 (Int64.toInt_inj.mp e)
  omega
theorem lc_geq (a b : Int64) : (0 ≤ lg_cmp a b) = ¬ a < b := by
  apply propext
  rw [lg_cmp_ge, il_lt, Int64.le_iff_toInt_le]
  omega
def m_sp (c : Nat) (r u : Nat → Int64) : Prop := (∀ i, i < c → ∃ j, j < c ∧ u i = r j) ∧ (∀ j, j < c → ∃ i, i < c ∧ u i = r j) ∧ (∀ i j, i < j → j < c → u i ≠ u j)
def m_sw (u : Nat → Int64) (i t : Nat) : Int64 := if t = i then u (i + 1) else if t = i + 1 then u i else u t
def m_so (k : Nat) (u : Nat → Int64) : Prop := ∀ a b, a < b → b < k → u a < u b
def m_si (k i : Nat) (u : Nat → Int64) : Prop := ∀ a b, a < b → b < k + 1 → b ≠ i → u a < u b
theorem n_le0 (a : Nat) (ha : a < 2147483648) : (nI a ≤ 0) = (a ≤ 0) := n_le a 0 ha (by omega)
theorem m_swl (u : Nat → Int64) (i : Nat) : m_sw u i i = u (i + 1) := if_pos rfl
theorem m_swr (u : Nat → Int64) (i : Nat) : m_sw u i (i + 1) = u i := (if_neg (by omega)).trans (if_pos rfl)
theorem m_swo (u : Nat → Int64) {i t : Nat} (h1 : t ≠ i) (h2 : t ≠ i + 1) : m_sw u i t = u t := (if_neg h1).trans (if_neg h2)
theorem m_sp_r {c : Nat} {r : Nat → Int64} (h : ∀ i j, i < j → j < c → r i ≠ r j) : m_sp c r r := ⟨fun i hi => ⟨i, hi, rfl⟩, fun j hj => ⟨j, hj, rfl⟩, h⟩
theorem m_sp_s {c i : Nat} {r u : Nat → Int64} (hi : i + 1 < c) (h : m_sp c r u) : m_sp c r (m_sw u i) := by
  obtain ⟨h1, h2, h3⟩ := h
  have ne : ∀ a b, a ≠ b → a < c → b < c → u a ≠ u b := fun a b e ha hb => by
    rcases Nat.lt_or_ge a b with q | q
    · exact h3 a b q hb
    · exact fun e' => h3 b a (by omega) ha e'.symm
  refine ⟨fun t ht => ?_, fun j hj => ?_, fun a b hab hb => ?_⟩
  · by_cases e1 : t = i
    · subst e1; rw [m_swl]; exact h1 _ hi
    · by_cases e2 : t = i + 1
      · subst e2; rw [m_swr]; exact h1 _ (by omega)
      · rw [m_swo u e1 e2]; exact h1 t ht
  · obtain ⟨t, ht, e⟩ := h2 j hj
    by_cases e1 : t = i
    · subst e1; exact ⟨t + 1, hi, by rw [m_swr]; exact e⟩
    · by_cases e2 : t = i + 1
      · subst e2; exact ⟨i, by omega, by rw [m_swl]; exact e⟩
      · exact ⟨t, ht, by rw [m_swo u e1 e2]; exact e⟩
  · by_cases a1 : a = i
    · subst a1
      rw [m_swl]
      by_cases b2 : b = a + 1
      · subst b2; rw [m_swr]; exact ne _ _ (by omega) (by omega) (by omega)
      · rw [m_swo u (by omega) b2]; exact ne _ _ (by omega) (by omega) (by omega)
    · by_cases a2 : a = i + 1
      · subst a2
        rw [m_swr, m_swo u (by omega) (by omega)]; exact ne _ _ (by omega) (by omega) (by omega)
      · rw [m_swo u a1 a2]
        by_cases b1 : b = i
        · subst b1; rw [m_swl]; exact ne _ _ (by omega) (by omega) (by omega)
        · by_cases b2 : b = i + 1
          · subst b2; rw [m_swr]; exact ne _ _ (by omega) (by omega) (by omega)
          · rw [m_swo u b1 b2]; exact ne _ _ (by omega) (by omega) (by omega)
theorem m_si_b {k : Nat} {u : Nat → Int64} (h : m_so k u) : m_si k k u := fun a b hab hb hne => h a b hab (by omega)
theorem m_si_0 {k : Nat} {u : Nat → Int64} (h : m_si k 0 u) : m_so (k + 1) u := fun a b hab hb => h a b hab hb (by omega)
theorem m_si_e {k i : Nat} {u : Nat → Int64} (hi : i + 1 ≤ k) (h : m_si k (i + 1) u) (h2 : u i < u (i + 1)) : m_so (k + 1) u := by
  intro a b hab hb
  by_cases e : b = i + 1
  · subst e
    by_cases e2 : a = i
    · subst e2; exact h2
    · exact il_tr (h a i (by omega) (by omega) (by omega)) h2
  · exact h a b hab hb e
theorem m_si_s {k i : Nat} {u : Nat → Int64} (hi : i + 1 ≤ k) (h : m_si k (i + 1) u) (h2 : u (i + 1) < u i) : m_si k i (m_sw u i) := by
  intro a b hab hb hne
  by_cases a1 : a = i
  · subst a1
    rw [m_swl]
    by_cases b2 : b = a + 1
    · subst b2; rw [m_swr]; exact h2
    · rw [m_swo u (by omega) b2]
      exact h _ _ (by omega) hb (by omega)
  · by_cases a2 : a = i + 1
    · subst a2
      rw [m_swr, m_swo u (by omega) (by omega)]
      exact h _ _ (by omega) hb (by omega)
    · rw [m_swo u a1 a2]
      by_cases b2 : b = i + 1
      · subst b2
        rw [m_swr]
        exact h _ _ (by omega) (by omega) (by omega)
      · rw [m_swo u hne b2]
        exact h _ _ hab hb b2
/-- all reasons, or five of them, in order -/
def m_L (E : (Nat → Prop) → Prop) (B : Nat → Prop) (n : Nat) (r : Nat → Int64) : Prop := n ≤ 5 ∧ (∀ i, i < n → m_R E B (bs (r i))) ∧ m_so n r ∧ (n ≤ 4 → ∀ S, m_R E B S → ∃ i, i < n ∧ r i = wL S)
theorem m_so_in {n m : Nat} {r q : Nat → Int64} (hr : m_so n r) (hq : m_so m q) (h : ∀ i, i < m → ∃ k, k < n ∧ q i = r k) : ∀ i, i < m → ∃ k, i ≤ k ∧ k < n ∧ q i = r k := by
  intro i
  induction i with
  | zero =>
    intro hi
    obtain ⟨k, h1, h2⟩ := h 0 hi
    exact ⟨k, Nat.zero_le _, h1, h2⟩
  | succ i ih =>
    intro hi
    obtain ⟨k, h1, h2⟩ := h (i + 1) hi
    obtain ⟨j, j1, j2, j3⟩ := ih (by omega)
    refine ⟨k, ?_, h1, h2⟩
    rcases Nat.lt_or_ge k (i + 1) with c | c
    · have hlt := hq i (i + 1) (by omega) hi
      rw [h2, j3] at hlt
      rcases Nat.lt_or_ge j k with e | e
      · omega
      · by_cases e2 : j = k
        · subst e2; exact absurd hlt (il_ir _)
        · exact absurd (il_tr hlt (hr k j (by omega) j2)) (il_ir _)
    · exact c
theorem m_L1 {E : (Nat → Prop) → Prop} {B : Nat → Prop} (hB : ∀ k, B k → k < 64) {n m : Nat} {r q : Nat → Int64} (h1 : m_L E B n r) (h2 : m_L E B m q) : n = m ∧ (n ≤ 4 → ∀ i, i < n → r i = q i) := by
  obtain ⟨a1, a2, a3, a4⟩ := h1
  obtain ⟨b1, b2, b3, b4⟩ := h2
  have inr : n ≤ 4 → ∀ i, i < m → ∃ k, k < n ∧ q i = r k := fun hn i hi => by
    obtain ⟨k, c1, c2⟩ := a4 hn _ (b2 i hi)
    rw [bs_w] at c2
    exact ⟨k, c1, c2.symm⟩
  have inq : m ≤ 4 → ∀ i, i < n → ∃ k, k < m ∧ r i = q k := fun hn i hi => by
    obtain ⟨k, c1, c2⟩ := b4 hn _ (a2 i hi)
    rw [bs_w] at c2
    exact ⟨k, c1, c2.symm⟩
  have le1 : n ≤ 4 → m ≤ n := fun hn => by
    rcases Nat.eq_zero_or_pos m with e | e
    · omega
    · obtain ⟨k, c1, c2, -⟩ := m_so_in a3 b3 (inr hn) (m - 1) (by omega)
      omega
  have le2 : m ≤ 4 → n ≤ m := fun hn => by
    rcases Nat.eq_zero_or_pos n with e | e
    · omega
    · obtain ⟨k, c1, c2, -⟩ := m_so_in b3 a3 (inq hn) (n - 1) (by omega)
      omega
  have e : n = m := by
    rcases Nat.lt_or_ge 4 n with c | c
    · rcases Nat.lt_or_ge 4 m with c' | c'
      · omega
      · have := le2 c'; omega
    · have := le1 c
      have := le2 (by omega)
      omega
  refine ⟨e, fun hn i hi => ?_⟩
  subst e
  obtain ⟨k, c1, c2, c3⟩ := m_so_in a3 b3 (inr hn) i hi
  obtain ⟨j, d1, d2, d3⟩ := m_so_in b3 a3 (inq hn) i hi
  by_cases e1 : k = i
  · subst e1; exact c3.symm
  · by_cases e2 : j = i
    · subst e2; exact d3
    · have l1 : r i < r k := a3 i k (by omega) c2
      have l2 : q i < q j := b3 i j (by omega) d2
      rw [← c3] at l1
      rw [← d3] at l2
      exact absurd (il_tr l1 l2) (il_ir _)
theorem Rs_sortFound {h : am_H} (H : LcAt h) {c : Nat} (hc : c ≤ 5) (h1 : am_I h 74 1 = nI c) (r : Nat → Int64) (hr : ∀ i, i < c → am_L h 75 i = r i) (hne : ∀ i j, i < j → j < c → r i ≠ r j) (d : Nat) : ∃ (h' : am_H) (u : Nat → Int64), f_Rs_sortFound d h 74 = some (.inr none, h') ∧ fX (fun b => b = 75) h h' ∧ (∀ i, i < c → am_L h' 75 i = u i) ∧ m_sp c r u ∧ m_so c u := by
  have at_ : ∀ g, fX (fun b => b = 75) h g → LcAt g ∧ am_I g 74 1 = nI c := fun g q => ⟨LcAt_of H q.2.2.1 (fun b j _ => by rw [q.2.1]), by rw [q.1]; exact h1⟩
  have key : ∀ n k, k + n = c + 1 → 1 ≤ k → ∀ (g : am_H) (u : Nat → Int64), fX (fun b => b = 75) h g → (∀ i, i < c → am_L g 75 i = u i) → m_sp c r u → m_so (if k ≤ c then k else c) u → ∃ (h' : am_H) (u : Nat → Int64), f_Rs_sortFound_2 d g 74 (nI k) = some (.inr none, h') ∧ fX (fun b => b = 75) h h' ∧ (∀ i, i < c → am_L h' 75 i = u i) ∧ m_sp c r u ∧ m_so c u := by
    intro n
    induction n with
    | zero =>
      intro k hk hk1 g u q hu hp hs
      obtain ⟨Hg, e1⟩ := at_ g q
      rw [if_neg (by omega)] at hs
      refine ⟨g, u, ?_, q, hu, hp, hs⟩
      rw [e_Rs_sortFound_2]
      simp (disch := first | assumption | omega) only [hc_ck, hc_gi, hc_gl, hc_gp, ap_I, ap_L, kd_I, kd_L, kd_P, kd_rI, ar_I, ar_L, ar_P, al_I, al_L, al_P, hop_s, cond_true, cond_false, pc_I_I, pc_L_L, pc_P_P, pc_I_L, pc_I_P, pc_L_I, pc_L_P, pc_P_I, pc_P_L, pc_sS_I, pc_sS_L, pc_sS_P, I_rI, L_rI, P_rI, S_rI, cv_r, ci_r, cl_r, o1_b, o1_0, o1_1, lc_e, nI_1, nI_add, if_true, if_false, Nat.reduceEqDiff, Nat.left_eq_add, Nat.add_eq_left, false_and, and_false, true_and, and_true, and_self, eq_self, Lc_k74, e1, n_le, show c ≤ k by omega]
    | succ n ih =>
      intro k hk hk1 g u q hu hp hs
      obtain ⟨Hg, e1⟩ := at_ g q
      rw [if_pos (by omega)] at hs
      by_cases hkc : c ≤ k
      · have : k = c := by omega
        subst this
        refine ⟨g, u, ?_, q, hu, hp, hs⟩
        rw [e_Rs_sortFound_2]
        simp (disch := first | assumption | omega) only [hc_ck, hc_gi, hc_gl, hc_gp, ap_I, ap_L, kd_I, kd_L, kd_P, kd_rI, ar_I, ar_L, ar_P, al_I, al_L, al_P, hop_s, cond_true, cond_false, pc_I_I, pc_L_L, pc_P_P, pc_I_L, pc_I_P, pc_L_I, pc_L_P, pc_P_I, pc_P_L, pc_sS_I, pc_sS_L, pc_sS_P, I_rI, L_rI, P_rI, S_rI, cv_r, ci_r, cl_r, o1_b, o1_0, o1_1, lc_e, nI_1, nI_add, if_true, if_false, Nat.reduceEqDiff, Nat.left_eq_add, Nat.add_eq_left, false_and, and_false, true_and, and_true, and_self, eq_self, Lc_k74, e1, n_le, Nat.le_refl]
      · have inner : ∀ i, i ≤ k → ∀ (g : am_H) (u : Nat → Int64), fX (fun b => b = 75) h g → (∀ i, i < c → am_L g 75 i = u i) → m_sp c r u → m_si k i u → ∃ (h' : am_H) (u : Nat → Int64), f_Rs_sortFound_12 d g 74 (nI k) (nI i) = some (.inr none, h') ∧ fX (fun b => b = 75) h h' ∧ (∀ i, i < c → am_L h' 75 i = u i) ∧ m_sp c r u ∧ m_so c u := by
          intro i
          induction i with
          | zero =>
            intro _ g u q hu hp hs
            rw [e_Rs_sortFound_12]
            simp (disch := first | assumption | omega) only [hc_ck, hc_gi, hc_gl, hc_gp, ap_I, ap_L, kd_I, kd_L, kd_P, kd_rI, ar_I, ar_L, ar_P, al_I, al_L, al_P, hop_s, cond_true, cond_false, pc_I_I, pc_L_L, pc_P_P, pc_I_L, pc_I_P, pc_L_I, pc_L_P, pc_P_I, pc_P_L, pc_sS_I, pc_sS_L, pc_sS_P, I_rI, L_rI, P_rI, S_rI, cv_r, ci_r, cl_r, o1_b, o1_0, o1_1, lc_e, nI_1, nI_add, if_true, if_false, Nat.reduceEqDiff, Nat.left_eq_add, Nat.add_eq_left, false_and, and_false, true_and, and_true, and_self, eq_self, n_0, n_le, Nat.le_refl]
            refine ih (k + 1) (by omega) (by omega) g u q hu hp ?_
            rw [if_pos (by omega)]
            exact m_si_0 hs
          | succ i ih2 =>
            intro hi g u q hu hp hs
            obtain ⟨Hg, e1⟩ := at_ g q
            have hi0 : ¬ i + 1 ≤ 0 := by omega
            rw [e_Rs_sortFound_12]
            simp (disch := first | assumption | omega) only [hc_ck, hc_gi, hc_gl, hc_gp, ap_I, ap_L, kd_I, kd_L, kd_P, kd_rI, ar_I, ar_L, ar_P, al_I, al_L, al_P, hop_s, cond_true, cond_false, pc_I_I, pc_L_L, pc_P_P, pc_I_L, pc_I_P, pc_L_I, pc_L_P, pc_P_I, pc_P_L, pc_sS_I, pc_sS_L, pc_sS_P, I_rI, L_rI, P_rI, S_rI, cv_r, ci_r, cl_r, o1_b, o1_0, o1_1, lc_e, nI_1, nI_add, if_true, if_false, Nat.reduceEqDiff, Nat.left_eq_add, Nat.add_eq_left, false_and, and_false, true_and, and_true, and_self, eq_self, n_le0, hi0, Lc_k74, Lc_p74_0, nI_pred, pk_m1, Lc_r75, hu (i + 1) (by omega), hu i (by omega), lc_geq]
            by_cases c1 : u (i + 1) < u i
            · rw [if_neg (fun e => e c1)]
              refine ih2 (by omega) _ (m_sw u i) (fX_w (fX_w q rfl _ _) rfl _ _) ?_ (m_sp_s (by omega) hp) (m_si_s hi hs c1)
              intro t ht
              rw [pc_L_L, pc_L_L]
              by_cases t2 : t = i + 1
              · rw [if_pos ⟨rfl, t2⟩, t2, m_swr]
              · rw [if_neg (by omega)]
                by_cases t1 : t = i
                · rw [if_pos ⟨rfl, t1⟩, t1, m_swl]
                · rw [if_neg (by omega), m_swo u t1 t2]
                  exact hu t ht
            · rw [if_pos c1]
              refine ih (k + 1) (by omega) (by omega) g u q hu hp ?_
              rw [if_pos (by omega)]
              exact m_si_e hi hs (il_of c1 (fun e => hp.2.2 i (i + 1) (by omega) (by omega) e.symm))
        rw [e_Rs_sortFound_2]
        simp (disch := first | assumption | omega) only [hc_ck, hc_gi, hc_gl, hc_gp, ap_I, ap_L, kd_I, kd_L, kd_P, kd_rI, ar_I, ar_L, ar_P, al_I, al_L, al_P, hop_s, cond_true, cond_false, pc_I_I, pc_L_L, pc_P_P, pc_I_L, pc_I_P, pc_L_I, pc_L_P, pc_P_I, pc_P_L, pc_sS_I, pc_sS_L, pc_sS_P, I_rI, L_rI, P_rI, S_rI, cv_r, ci_r, cl_r, o1_b, o1_0, o1_1, lc_e, nI_1, nI_add, if_true, if_false, Nat.reduceEqDiff, Nat.left_eq_add, Nat.add_eq_left, false_and, and_false, true_and, and_true, and_self, eq_self, Lc_k74, e1, n_le, hkc]
        exact inner k (Nat.le_refl _) g u q hu hp (m_si_b hs)
  rw [e_Rs_sortFound]
  refine key c 1 (by omega) (Nat.le_refl _) h r (fX_r _ _) hr (m_sp_r hne) ?_
  intro a b hab hb
  split at hb <;> omega
