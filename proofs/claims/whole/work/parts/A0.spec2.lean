/-! ===== a text's axioms: what they say ===== -/
theorem wfD_A {D : DT} {x : Nat → Prop} {k a b c : Nat} (h : wfD D x) (h32 : o_A D.1 < 32) (hk : (k ≤ 1 ∧ a < o_P D.1 ∧ b < o_P D.1 ∧ c = 4294967295) ∨ (k = 2 ∧ a < o_R D.1 ∧ b < o_R D.1 ∧ c = 4294967295) ∨ (k = 3 ∧ a < o_R D.1 ∧ b < o_R D.1 ∧ c < o_R D.1)) : wfD (d_addA D k a b c) x := by
  obtain ⟨h1, h2, h3, h4, h5, h6, h7, h8, h9, h10, h11, h12⟩ := h
  refine ⟨h1, h2, h3, h32, h5, h6, h7, fun j hj => ?_, h9, h10, h11, h12⟩
  have hj2 : j < o_A D.1 + 1 := hj
  show o_okA (o_addA D.1 k a b c) j
  by_cases e : j = o_A D.1
  · obtain ⟨e1, e2, e3, e4⟩ := aA_n D.1 k a b c
    unfold o_okA
    rw [e, e1, e2, e3, e4]
    exact hk
  · obtain ⟨e1, e2, e3, e4⟩ := aA_o (O := D.1) (k := k) (a := a) (b := b) (c := c) e
    have q := h8 j (by omega)
    unfold o_okA at *
    rw [e1, e2, e3, e4]
    exact q
noncomputable def spR2 (T : Nat → Nat) (n : Nat) (ch : Bool) (q : Nat) (D : DT) (r s : Nat) : PRs :=
  if tk T n (sk T n q) = 11 then pbd (spN false true T n (sk T n q + 2) D) fun q4 D4 t => if tk T n (sk T n q4) = 12 then .inr (sk T n q4 + 1, d_addA D4 (if ch then 3 else 2) r (if ch then s else t) (if ch then t else 4294967295), 0) else .inl (1, sk T n q4)
  else .inl (1, sk T n q)
/-- an axiom of roles -/
noncomputable def spR (T : Nat → Nat) (n q : Nat) (D : DT) : PRs := pbd (spN false true T n q D) fun q2 D2 r =>
  if tk T n (sk T n q2) = 10 then pbd (spN false true T n (sk T n q2 + 1) D2) fun q3 D3 s => spR2 T n true q3 D3 r s else spR2 T n false q2 D2 r 4294967295
/-- an axiom of concepts -/
noncomputable def spC (T : Nat → Nat) (n q : Nat) (D : DT) : PRs := pbd (spX false T n 1000 1 0 q D 0) fun q2 D2 c =>
  if tk T n (sk T n q2) = 9 ∨ tk T n (sk T n q2) = 8 then pbd (spX false T n 1000 1 0 (sk T n q2 + 1) D2 0) fun q3 D3 e =>
    if tk T n (sk T n q3) = 12 then (if 60 < o_P D3.1 then .inl (5, sk T n q) else .inr (sk T n q3 + 1, d_addA D3 (if tk T n (sk T n q2) = 9 then 1 else 0) c e 4294967295, 0)) else .inl (1, sk T n q3)
  else .inl (1, sk T n q2)
/-- all of a text -/
noncomputable def spT (T : Nat → Nat) (n : Nat) : Nat → Nat → DT → (Nat × Nat) ⊕ DT
  | 0, _, _ => .inl (0, 0)
  | f + 1, q, D =>
    if tk T n (sk T n q) = 0 then .inr D else if 5 < tk T n (sk T n q) then .inl (1, sk T n q)
    else if tk T n (sk T n q) = 1 ∧ 6 < lw T n (sk T n q) then .inl (2, sk T n q) else if o_A D.1 = 32 then .inl (3, sk T n q)
    else match (if tk T n (sk T n q) = 1 ∧ (tk T n (sk T n (sk T n q + lw T n (sk T n q))) = 10 ∨ tk T n (sk T n (sk T n q + lw T n (sk T n q))) = 11) then spR T n q D else spC T n q D) with
      | .inl e => .inl e
      | .inr y => spT T n f y.1 y.2.1
theorem spT_s (T : Nat → Nat) (n f q : Nat) (D : DT) : spT T n (f + 1) q D = (if tk T n (sk T n q) = 0 then .inr D else if 5 < tk T n (sk T n q) then .inl (1, sk T n q)
    else if tk T n (sk T n q) = 1 ∧ 6 < lw T n (sk T n q) then .inl (2, sk T n q) else if o_A D.1 = 32 then .inl (3, sk T n q)
    else match (if tk T n (sk T n q) = 1 ∧ (tk T n (sk T n (sk T n q + lw T n (sk T n q))) = 10 ∨ tk T n (sk T n (sk T n q + lw T n (sk T n q))) = 11) then spR T n q D else spC T n q D) with
      | .inl e => .inl e
      | .inr y => spT T n f y.1 y.2.1) := rfl
/-- between axioms -/
def wfT (D : DT) (q : Nat) : Prop := wfD D no_x ∧ o_P D.1 ≤ 60
theorem spR2_c {T : Nat → Nat} {n : Nat} {ch : Bool} {q : Nat} {D : DT} {r s q' : Nat} {D' : DT} {v' : Nat} (hq : q ≤ n) (w : wfD D no_x) (h32 : o_A D.1 < 32) (hr : r < o_R D.1) (hs : ch = true → s < o_R D.1) (h : spR2 T n ch q D r s = .inr (q', D', v')) : q < q' ∧ q' ≤ n ∧ wfD D' no_x ∧ o_P D'.1 = o_P D.1 ∧ o_A D'.1 = o_A D.1 + 1 := by
  have g := sk_ge T n q
  unfold spR2 at h
  by_cases c : tk T n (sk T n q) = 11
  · rw [if_pos c] at h
    obtain ⟨h1, h2, h3, h4⟩ := tk_ll.mp c
    obtain ⟨q4, D4, t, e1, h⟩ := pbd_i h
    obtain ⟨a1, a2, a3, a4, a5, a6, a7, a8⟩ := spN_c e1 (by omega)
    have wN := wfD_x (spN_w e1 w) (y := no_x) (fun _ _ q => absurd q.1 (by decide))
    have a6' : t < o_R D4.1 := a6
    by_cases c2 : tk T n (sk T n q4) = 12
    · rw [if_pos c2] at h
      obtain ⟨rfl, rfl, rfl⟩ := inr3 h
      have g4 := sk_ge T n q4
      have p4 := (tk_se.mp c2).1
      refine ⟨by omega, by omega, wfD_A wN (by omega) ?_, a4, ?_⟩
      · cases ch
        · exact Or.inr (Or.inl ⟨rfl, by omega, a6', rfl⟩)
        · have := hs rfl
          exact Or.inr (Or.inr ⟨rfl, by omega, by show s < _; omega, a6'⟩)
      · show o_A D4.1 + 1 = o_A D.1 + 1
        omega
    · rw [if_neg c2] at h
      cases h
  · rw [if_neg c] at h
    cases h
theorem spR_c {T : Nat → Nat} {n q : Nat} {D : DT} {q' : Nat} {D' : DT} {v' : Nat} (hq : q ≤ n) (w : wfD D no_x) (h32 : o_A D.1 < 32) (h : spR T n q D = .inr (q', D', v')) : q < q' ∧ q' ≤ n ∧ wfD D' no_x ∧ o_P D'.1 = o_P D.1 ∧ o_A D'.1 = o_A D.1 + 1 := by
  unfold spR at h
  obtain ⟨q2, D2, r, e1, h⟩ := pbd_i h
  obtain ⟨a1, a2, a3, a4, a5, a6, a7, a8⟩ := spN_c e1 hq
  have wN := wfD_x (spN_w e1 w) (y := no_x) (fun _ _ q => absurd q.1 (by decide))
  have a6' : r < o_R D2.1 := a6
  by_cases c : tk T n (sk T n q2) = 10
  · rw [if_pos c] at h
    have p2 := (tk_st.mp c).1
    have g2 := sk_ge T n q2
    obtain ⟨q3, D3, s, e2, h⟩ := pbd_i h
    obtain ⟨b1, b2, b3, b4, b5, b6, b7, b8⟩ := spN_c e2 (by omega)
    have wM := wfD_x (spN_w e2 wN) (y := no_x) (fun _ _ q => absurd q.1 (by decide))
    have b6' : s < o_R D3.1 := b6
    obtain ⟨d1, d2, d3, d4, d5⟩ := spR2_c b3 wM (by omega) (by omega) (fun _ => b6') h
    exact ⟨by omega, d2, d3, by omega, by omega⟩
  · rw [if_neg c] at h
    obtain ⟨d1, d2, d3, d4, d5⟩ := spR2_c a3 wN (by omega) a6' (fun e => absurd e (by decide)) h
    exact ⟨by omega, d2, d3, by omega, by omega⟩
theorem spC_c {T : Nat → Nat} {n q : Nat} {D : DT} {q' : Nat} {D' : DT} {v' : Nat} (hq : q ≤ n) (w : wfD D no_x) (h32 : o_A D.1 < 32) (h : spC T n q D = .inr (q', D', v')) : q < q' ∧ q' ≤ n ∧ wfD D' no_x ∧ o_P D'.1 ≤ 60 ∧ o_A D'.1 = o_A D.1 + 1 := by
  have w2 := w.2.2.1
  unfold spC at h
  obtain ⟨q2, D2, c, e1, h⟩ := pbd_i h
  obtain ⟨b1, b2, b3, b4, b5, b6, b7, b8, b9, b10⟩ := spX_c 1000 1 0 q D 0 q2 D2 c (by omega) hq w (by omega) e1
  by_cases c1 : tk T n (sk T n q2) = 9 ∨ tk T n (sk T n q2) = 8
  · rw [if_pos c1] at h
    have p2 := tk_lt (T := T) (n := n) (p := sk T n q2) (by omega)
    have g2 := sk_ge T n q2
    obtain ⟨q3, D3, e, e2, h⟩ := pbd_i h
    obtain ⟨d1, d2, d3, d4, d5, d6, d7, d8, d9, d10⟩ := spX_c 1000 1 0 (sk T n q2 + 1) D2 0 q3 D3 e (by omega) (by omega) b7 (by omega) e2
    by_cases c2 : tk T n (sk T n q3) = 12
    · rw [if_pos c2] at h
      by_cases c3 : 60 < o_P D3.1
      · rw [if_pos c3] at h
        cases h
      · rw [if_neg c3] at h
        obtain ⟨rfl, rfl, rfl⟩ := inr3 h
        have p3 := (tk_se.mp c2).1
        have g3 := sk_ge T n q3
        have b2' := b2 (by omega)
        refine ⟨by omega, by omega, wfD_A d7 (by omega) (Or.inl ⟨by split <;> omega, by omega, d6, rfl⟩), by show o_P D3.1 ≤ 60; omega, ?_⟩
        show o_A D3.1 + 1 = o_A D.1 + 1
        omega
    · rw [if_neg c2] at h
      cases h
  · rw [if_neg c1] at h
    cases h
theorem spR_k {T : Nat → Nat} {n q : Nat} {D : DT} {e : Nat × Nat} (h : spR T n q D = .inl e) : e.1 ≠ 0 ∧ e.1 ≤ 6 := by
  have r2 : ∀ ch q D r s e, spR2 T n ch q D r s = .inl e → e.1 ≠ 0 ∧ e.1 ≤ 6 := by
    intro ch q D r s e h
    unfold spR2 at h
    by_cases c : tk T n (sk T n q) = 11
    · rw [if_pos c] at h
      rcases pbd_e h with h | ⟨q4, D4, t, e1, h⟩
      · exact ⟨spN_k h, spN_6 h⟩
      · by_cases c2 : tk T n (sk T n q4) = 12
        · rw [if_pos c2] at h
          cases h
        · rw [if_neg c2] at h
          injection h with h
          subst h
          exact (by decide : (1 : Nat) ≠ 0 ∧ (1 : Nat) ≤ 6)
    · rw [if_neg c] at h
      injection h with h
      subst h
      exact (by decide : (1 : Nat) ≠ 0 ∧ (1 : Nat) ≤ 6)
  unfold spR at h
  rcases pbd_e h with h | ⟨q2, D2, r, e1, h⟩
  · exact ⟨spN_k h, spN_6 h⟩
  · by_cases c : tk T n (sk T n q2) = 10
    · rw [if_pos c] at h
      rcases pbd_e h with h | ⟨q3, D3, s, e2, h⟩
      · exact ⟨spN_k h, spN_6 h⟩
      · exact r2 _ _ _ _ _ _ h
    · rw [if_neg c] at h
      exact r2 _ _ _ _ _ _ h
theorem spC_k {T : Nat → Nat} {n q : Nat} {D : DT} {e : Nat × Nat} (hn : n ≤ 400) (hq : q ≤ n) (w : wfD D no_x) (h : spC T n q D = .inl e) : e.1 ≠ 0 ∧ e.1 ≤ 6 := by
  have w2 := w.2.2.1
  unfold spC at h
  rcases pbd_e h with h | ⟨q2, D2, c, e1, h⟩
  · exact ⟨spX_f 1000 1 0 q D 0 e (by omega) hq w (by omega) (by rw [if_pos rfl]; omega) h, spX_6 _ _ _ _ _ _ _ (by omega) h⟩
  · obtain ⟨b1, b2, b3, b4, b5, b6, b7, b8, b9, b10⟩ := spX_c 1000 1 0 q D 0 q2 D2 c (by omega) hq w (by omega) e1
    by_cases c1 : tk T n (sk T n q2) = 9 ∨ tk T n (sk T n q2) = 8
    · rw [if_pos c1] at h
      have p2 := tk_lt (T := T) (n := n) (p := sk T n q2) (by omega)
      rcases pbd_e h with h | ⟨q3, D3, y, e2, h⟩
      · exact ⟨spX_f 1000 1 0 (sk T n q2 + 1) D2 0 e (by omega) (by omega) b7 (by omega) (by rw [if_pos rfl]; omega) h, spX_6 _ _ _ _ _ _ _ (by omega) h⟩
      · by_cases c2 : tk T n (sk T n q3) = 12
        · rw [if_pos c2] at h
          by_cases c3 : 60 < o_P D3.1
          · rw [if_pos c3] at h
            injection h with h
            subst h
            exact (by decide : (5 : Nat) ≠ 0 ∧ (5 : Nat) ≤ 6)
          · rw [if_neg c3] at h
            cases h
        · rw [if_neg c2] at h
          injection h with h
          subst h
          exact (by decide : (1 : Nat) ≠ 0 ∧ (1 : Nat) ≤ 6)
    · rw [if_neg c1] at h
      injection h with h
      subst h
      exact (by decide : (1 : Nat) ≠ 0 ∧ (1 : Nat) ≤ 6)
/-- a text: faults, or a well formed ontology -/
def okT (r : (Nat × Nat) ⊕ DT) : Prop := match r with
  | .inl e => e.1 ≠ 0 ∧ e.1 ≤ 6
  | .inr D' => wfD D' no_x ∧ o_P D'.1 ≤ 60
theorem spT_c {T : Nat → Nat} {n : Nat} (hn : n ≤ 400) : ∀ f q D, q ≤ n → n - q < f → wfD D no_x → o_P D.1 ≤ 60 → okT (spT T n f q D)
  | 0, q, D, _, hf, _, _ => absurd hf (by omega)
  | f + 1, q, D, hq, hf, w, h60 => by
    rw [spT_s]
    by_cases c0 : tk T n (sk T n q) = 0
    · rw [if_pos c0]
      exact ⟨w, h60⟩
    · rw [if_neg c0]
      by_cases c5 : 5 < tk T n (sk T n q)
      · rw [if_pos c5]
        exact (by decide : (1 : Nat) ≠ 0 ∧ (1 : Nat) ≤ 6)
      · rw [if_neg c5]
        by_cases c6 : tk T n (sk T n q) = 1 ∧ 6 < lw T n (sk T n q)
        · rw [if_pos c6]
          exact (by decide : (2 : Nat) ≠ 0 ∧ (2 : Nat) ≤ 6)
        · rw [if_neg c6]
          by_cases c7 : o_A D.1 = 32
          · rw [if_pos c7]
            exact (by decide : (3 : Nat) ≠ 0 ∧ (3 : Nat) ≤ 6)
          · rw [if_neg c7]
            have h32 := w.2.2.2.1
            by_cases c8 : tk T n (sk T n q) = 1 ∧ (tk T n (sk T n (sk T n q + lw T n (sk T n q))) = 10 ∨ tk T n (sk T n (sk T n q + lw T n (sk T n q))) = 11)
            · rw [if_pos c8]
              cases e : spR T n q D with
              | inl x => exact spR_k e
              | inr y =>
                obtain ⟨q2, D2, v⟩ := y
                obtain ⟨a1, a2, a3, a4, a5⟩ := spR_c hq w (by omega) e
                exact spT_c hn f q2 D2 a2 (by omega) a3 (by omega)
            · rw [if_neg c8]
              cases e : spC T n q D with
              | inl x => exact spC_k hn hq w e
              | inr y =>
                obtain ⟨q2, D2, v⟩ := y
                obtain ⟨a1, a2, a3, a4, a5⟩ := spC_c hq w (by omega) e
                exact spT_c hn f q2 D2 a2 (by omega) a3 a4
