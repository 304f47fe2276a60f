/-! ===== the text read: places, counts, enough of steps ===== -/
theorem pbd_i {r : PRs} {f : Nat → DT → Nat → PRs} {y : Nat × DT × Nat} (h : pbd r f = .inr y) : ∃ q D v, r = .inr (q, D, v) ∧ f q D v = .inr y := by
  cases r with
  | inl e => cases h
  | inr x => exact ⟨x.1, x.2.1, x.2.2, rfl, h⟩
theorem pbd_e {r : PRs} {f : Nat → DT → Nat → PRs} {e : Nat × Nat} (h : pbd r f = .inl e) : r = .inl e ∨ ∃ q D v, r = .inr (q, D, v) ∧ f q D v = .inl e := by
  cases r with
  | inl e' => exact Or.inl h
  | inr x => exact Or.inr ⟨x.1, x.2.1, x.2.2, rfl, h⟩
theorem inr3 {q q' : Nat} {D D' : DT} {v v' : Nat} (h : (Sum.inr (q, D, v) : PRs) = .inr (q', D', v')) : q = q' ∧ D = D' ∧ v = v' := by
  injection h with h
  obtain ⟨e1, e2⟩ := Prod.mk.inj h
  obtain ⟨e2, e3⟩ := Prod.mk.inj e2
  exact ⟨e1, e2, e3⟩
theorem spX_c {ak : Bool} {T : Nat → Nat} {n : Nat} : ∀ f mode deep q D v q' D' v', mode ≤ 2 → q ≤ n → wfD D no_x → v < o_P D.1 → spX ak T n f mode deep q D v = .inr (q', D', v') → q ≤ q' ∧ (mode < 2 → q < q') ∧ q' ≤ n ∧ o_P D.1 ≤ o_P D'.1 ∧ o_P D'.1 + q ≤ o_P D.1 + q' ∧ v' < o_P D'.1 ∧ wfD D' no_x ∧ o_A D'.1 = o_A D.1 ∧ o_N D.1 ≤ o_N D'.1 ∧ o_R D.1 ≤ o_R D'.1
  | 0, _, _, _, _, _, _, _, _, _, _, _, _, h => by cases h
  | f + 1, mode, deep, q, D, v, q', D', v', hm, hq, w, hv, h => by
    have g := sk_ge T n q
    have l := sk_le (T := T) hq
    have w2 := w.2.2.1
    rcases (show mode = 0 ∨ mode = 1 ∨ mode = 2 by omega) with rfl | rfl | rfl
    · rw [spX_0] at h
      by_cases c2 : tk T n (sk T n q) = 2
      · rw [if_pos c2] at h
        obtain ⟨rfl, rfl, rfl⟩ := inr3 h
        have x := nx_le (T := T) l
        have y := tk_lt (T := T) (n := n) (p := sk T n q) (by omega)
        have := x.2.2 y
        exact ⟨by omega, fun _ => by omega, x.1, Nat.le_refl _, by omega, by omega, w, rfl, Nat.le_refl _, Nat.le_refl _⟩
      · rw [if_neg c2] at h
        by_cases c3 : tk T n (sk T n q) = 3
        · rw [if_pos c3] at h
          obtain ⟨rfl, rfl, rfl⟩ := inr3 h
          have x := nx_le (T := T) l
          have y := tk_lt (T := T) (n := n) (p := sk T n q) (by omega)
          have := x.2.2 y
          exact ⟨by omega, fun _ => by omega, x.1, Nat.le_refl _, by omega, by omega, w, rfl, Nat.le_refl _, Nat.le_refl _⟩
        · rw [if_neg c3] at h
          by_cases c4 : tk T n (sk T n q) = 4
          · rw [if_pos c4] at h
            have hw := tk_14 (T := T) (n := n) (p := sk T n q) (by omega) (by omega)
            have ln := lw_n (T := T) (n := n) (p := sk T n q) (by omega)
            have l4 := ((tk_w hw.1 hw.2).2.2.2.2.mp c4).1
            obtain ⟨q2, D2, r, e1, h⟩ := pbd_i h
            obtain ⟨q3, D3, y, e2, h⟩ := pbd_i h
            obtain ⟨a1, a2, a3, a4, a5, a6, a7, a8⟩ := spN_c e1 (by omega)
            have wN := wfD_x (spN_w e1 w) (y := no_x) (fun _ _ q => absurd q.1 (by decide))
            obtain ⟨b1, b2, b3, b4, b5, b6, b7, b8, b9, b10⟩ := spX_c f 0 deep q2 D2 0 q3 D3 y (by omega) a3 wN (by have := wN.2.2.1; omega) e2
            have a6' : r < o_R D2.1 := a6
            have hr : r < o_R D3.1 := Nat.lt_of_lt_of_le a6' b10
            obtain ⟨rfl, rfl, rfl⟩ := inr3 h
            obtain ⟨p1, p2, p3, p4, p5, p6⟩ := spP_c D3 4 r y
            have b2' := b2 (by omega)
            exact ⟨by omega, fun _ => by omega, b3, by omega, by omega, p3, spP_w b7 (Or.inr ⟨rfl, hr, b6⟩), by omega, by omega, by omega⟩
          · rw [if_neg c4] at h
            by_cases c5 : tk T n (sk T n q) = 5
            · rw [if_pos c5] at h
              have y := tk_lt (T := T) (n := n) (p := sk T n q) (by omega)
              by_cases c6 : deep = 6
              · rw [if_pos c6] at h
                cases h
              · rw [if_neg c6] at h
                obtain ⟨q2, D2, x, e1, h⟩ := pbd_i h
                obtain ⟨b1, b2, b3, b4, b5, b6, b7, b8, b9, b10⟩ := spX_c f 1 (deep + 1) (sk T n q + 1) D 0 q2 D2 x (by omega) (by omega) w (by omega) e1
                by_cases c7 : tk T n (sk T n q2) = 6
                · rw [if_pos c7] at h
                  obtain ⟨rfl, rfl, rfl⟩ := inr3 h
                  have y2 := tk_lt (T := T) (n := n) (p := sk T n q2) (by omega)
                  have g2 := sk_ge T n q2
                  exact ⟨by omega, fun _ => by omega, by omega, b4, by omega, b6, b7, b8, b9, b10⟩
                · rw [if_neg c7] at h
                  cases h
            · rw [if_neg c5] at h
              obtain ⟨q2, D2, a, e1, h⟩ := pbd_i h
              obtain ⟨a1, a2, a3, a4, a5, a6, a7, a8⟩ := spN_c e1 hq
              have wN := wfD_x (spN_w e1 w) (y := fun m => m = a) (fun _ _ q => q.2)
              have a6' : a < o_N D2.1 := a6
              obtain ⟨rfl, rfl, rfl⟩ := inr3 h
              obtain ⟨p1, p2, p3, p4, p5, p6⟩ := spP_c D2 0 a 4294967295
              exact ⟨by omega, fun _ => by omega, a3, by omega, by omega, p3, spP_w0 wN a6', by omega, by omega, by omega⟩
    · rw [spX_1] at h
      obtain ⟨q2, D2, y, e1, h⟩ := pbd_i h
      obtain ⟨b1, b2, b3, b4, b5, b6, b7, b8, b9, b10⟩ := spX_c f 0 deep q D 0 q2 D2 y (by omega) hq w (by omega) e1
      obtain ⟨d1, d2, d3, d4, d5, d6, d7, d8, d9, d10⟩ := spX_c f 2 deep q2 D2 y q' D' v' (by omega) b3 b7 b6 h
      have b2' := b2 (by omega)
      exact ⟨by omega, fun _ => by omega, d3, by omega, by omega, d6, d7, by omega, by omega, by omega⟩
    · rw [spX_2] at h
      by_cases c7 : tk T n (sk T n q) = 7
      · rw [if_pos c7] at h
        have y7 := tk_lt (T := T) (n := n) (p := sk T n q) (by omega)
        obtain ⟨q2, D2, y, e1, h⟩ := pbd_i h
        obtain ⟨b1, b2, b3, b4, b5, b6, b7, b8, b9, b10⟩ := spX_c f 0 deep (sk T n q + 1) D 0 q2 D2 y (by omega) (by omega) w (by omega) e1
        obtain ⟨p1, p2, p3, p4, p5, p6⟩ := spP_c D2 3 v y
        obtain ⟨d1, d2, d3, d4, d5, d6, d7, d8, d9, d10⟩ := spX_c f 2 deep q2 (spP D2 3 v y).1 (spP D2 3 v y).2 q' D' v' (by omega) b3 (spP_w b7 (Or.inl ⟨rfl, by omega, b6⟩)) p3 h
        exact ⟨by omega, fun e => absurd e (by omega), d3, by omega, by omega, d6, d7, by omega, by omega, by omega⟩
      · rw [if_neg c7] at h
        obtain ⟨rfl, rfl, rfl⟩ := inr3 h
        exact ⟨g, fun e => absurd e (by omega), l, Nat.le_refl _, by omega, hv, w, rfl, Nat.le_refl _, Nat.le_refl _⟩
theorem spN_k {ak r : Bool} {T : Nat → Nat} {n q : Nat} {D : DT} {e : Nat × Nat} (h : spN ak r T n q D = .inl e) : e.1 ≠ 0 := by
  unfold spN at h
  by_cases c1 : tk T n (sk T n q) = 1
  · rw [if_pos c1] at h
    by_cases c2 : 6 < lw T n (sk T n q)
    · rw [if_pos c2] at h
      injection h with h
      subst h
      exact (by decide : (2 : Nat) ≠ 0)
    · rw [if_neg c2] at h
      by_cases c3 : ∃ k, k < d_cn D r ∧ d_ws D r k = wd T n (sk T n q)
      · rw [if_pos c3] at h
        cases h
      · rw [if_neg c3] at h
        by_cases c4 : ak = true
        · rw [if_pos c4] at h
          injection h with h
          subst h
          exact (by decide : (6 : Nat) ≠ 0)
        · rw [if_neg c4] at h
          by_cases c5 : d_cn D r = d_mx r
          · rw [if_pos c5] at h
            injection h with h
            subst h
            exact (by decide : (3 : Nat) ≠ 0)
          · rw [if_neg c5] at h
            cases h
  · rw [if_neg c1] at h
    injection h with h
    subst h
    exact (by decide : (1 : Nat) ≠ 0)
/-- so many steps are enough -/
theorem spX_f {ak : Bool} {T : Nat → Nat} {n : Nat} : ∀ f mode deep q D v e, mode ≤ 2 → q ≤ n → wfD D no_x → v < o_P D.1 → 2 * (n - q) + (if mode = 1 then 2 else 1) ≤ f → spX ak T n f mode deep q D v = .inl e → e.1 ≠ 0
  | 0, mode, _, q, _, _, _, _, _, _, _, hf, _ => by
    exfalso
    by_cases c : mode = 1
    · rw [if_pos c] at hf
      omega
    · rw [if_neg c] at hf
      omega
  | f + 1, mode, deep, q, D, v, e, hm, hq, w, hv, hf, h => by
    have g := sk_ge T n q
    have l := sk_le (T := T) hq
    have w2 := w.2.2.1
    rcases (show mode = 0 ∨ mode = 1 ∨ mode = 2 by omega) with rfl | rfl | rfl
    · rw [if_neg (by omega)] at hf
      rw [spX_0] at h
      by_cases c2 : tk T n (sk T n q) = 2
      · rw [if_pos c2] at h
        cases h
      · rw [if_neg c2] at h
        by_cases c3 : tk T n (sk T n q) = 3
        · rw [if_pos c3] at h
          cases h
        · rw [if_neg c3] at h
          by_cases c4 : tk T n (sk T n q) = 4
          · rw [if_pos c4] at h
            have hw := tk_14 (T := T) (n := n) (p := sk T n q) (by omega) (by omega)
            have ln := lw_n (T := T) (n := n) (p := sk T n q) (by omega)
            have l4 := ((tk_w hw.1 hw.2).2.2.2.2.mp c4).1
            rcases pbd_e h with h | ⟨q2, D2, r, e1, h⟩
            · exact spN_k h
            · obtain ⟨a1, a2, a3, a4, a5, a6, a7, a8⟩ := spN_c e1 (by omega)
              have wN := wfD_x (spN_w e1 w) (y := no_x) (fun _ _ q => absurd q.1 (by decide))
              rcases pbd_e h with h | ⟨q3, D3, y, e2, h⟩
              · exact spX_f f 0 deep q2 D2 0 e (by omega) a3 wN (by have := wN.2.2.1; omega) (by rw [if_neg (by omega)]; omega) h
              · cases h
          · rw [if_neg c4] at h
            by_cases c5 : tk T n (sk T n q) = 5
            · rw [if_pos c5] at h
              have y := tk_lt (T := T) (n := n) (p := sk T n q) (by omega)
              by_cases c6 : deep = 6
              · rw [if_pos c6] at h
                injection h with h
                subst h
                exact (by decide : (4 : Nat) ≠ 0)
              · rw [if_neg c6] at h
                rcases pbd_e h with h | ⟨q2, D2, x, e1, h⟩
                · exact spX_f f 1 (deep + 1) (sk T n q + 1) D 0 e (by omega) (by omega) w (by omega) (by rw [if_pos rfl]; omega) h
                · by_cases c7 : tk T n (sk T n q2) = 6
                  · rw [if_pos c7] at h
                    cases h
                  · rw [if_neg c7] at h
                    injection h with h
                    subst h
                    exact (by decide : (1 : Nat) ≠ 0)
            · rw [if_neg c5] at h
              rcases pbd_e h with h | ⟨q2, D2, a, e1, h⟩
              · exact spN_k h
              · cases h
    · rw [if_pos rfl] at hf
      rw [spX_1] at h
      rcases pbd_e h with h | ⟨q2, D2, y, e1, h⟩
      · exact spX_f f 0 deep q D 0 e (by omega) hq w (by omega) (by rw [if_neg (by omega)]; omega) h
      · obtain ⟨b1, b2, b3, b4, b5, b6, b7, b8, b9, b10⟩ := spX_c f 0 deep q D 0 q2 D2 y (by omega) hq w (by omega) e1
        have b2' := b2 (by omega)
        exact spX_f f 2 deep q2 D2 y e (by omega) b3 b7 b6 (by rw [if_neg (by omega)]; omega) h
    · rw [if_neg (by omega)] at hf
      rw [spX_2] at h
      by_cases c7 : tk T n (sk T n q) = 7
      · rw [if_pos c7] at h
        have y7 := tk_lt (T := T) (n := n) (p := sk T n q) (by omega)
        rcases pbd_e h with h | ⟨q2, D2, y, e1, h⟩
        · exact spX_f f 0 deep (sk T n q + 1) D 0 e (by omega) (by omega) w (by omega) (by rw [if_neg (by omega)]; omega) h
        · obtain ⟨b1, b2, b3, b4, b5, b6, b7, b8, b9, b10⟩ := spX_c f 0 deep (sk T n q + 1) D 0 q2 D2 y (by omega) (by omega) w (by omega) e1
          obtain ⟨p1, p2, p3, p4, p5, p6⟩ := spP_c D2 3 v y
          have b2' := b2 (by omega)
          exact spX_f f 2 deep q2 (spP D2 3 v y).1 (spP D2 3 v y).2 e (by omega) b3 (spP_w b7 (Or.inl ⟨rfl, by omega, b6⟩)) p3 (by rw [if_neg (by omega)]; omega) h
      · rw [if_neg c7] at h
        cases h
