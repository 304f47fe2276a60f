/-! ===== the text read: what comes of it is well formed ===== -/
theorem aP_o {O : o_T} {k a b p : Nat} (h : p ≠ o_P O) : o_pk (o_addP O k a b) p = o_pk O p ∧ o_pa (o_addP O k a b) p = o_pa O p ∧ o_pb (o_addP O k a b) p = o_pb O p := by
  have e : (o_addP O k a b).2.2.2.2.1 p = O.2.2.2.2.1 p := if_neg h
  unfold o_pk o_pa o_pb
  rw [e]
  exact ⟨rfl, rfl, rfl⟩
theorem aP_n (O : o_T) (k a b : Nat) : o_pk (o_addP O k a b) (o_P O) = k ∧ o_pa (o_addP O k a b) (o_P O) = a ∧ o_pb (o_addP O k a b) (o_P O) = b := by
  have e : (o_addP O k a b).2.2.2.2.1 (o_P O) = (k, a, b) := if_pos rfl
  unfold o_pk o_pa o_pb
  rw [e]
  exact ⟨rfl, rfl, rfl⟩
theorem aA_o {O : o_T} {k a b c p : Nat} (h : p ≠ o_A O) : o_ak (o_addA O k a b c) p = o_ak O p ∧ o_a1 (o_addA O k a b c) p = o_a1 O p ∧ o_a2 (o_addA O k a b c) p = o_a2 O p ∧ o_a3 (o_addA O k a b c) p = o_a3 O p := by
  have e : (o_addA O k a b c).2.2.2.2.2 p = O.2.2.2.2.2 p := if_neg h
  unfold o_ak o_a1 o_a2 o_a3
  rw [e]
  exact ⟨rfl, rfl, rfl, rfl⟩
theorem aA_n (O : o_T) (k a b c : Nat) : o_ak (o_addA O k a b c) (o_A O) = k ∧ o_a1 (o_addA O k a b c) (o_A O) = a ∧ o_a2 (o_addA O k a b c) (o_A O) = b ∧ o_a3 (o_addA O k a b c) (o_A O) = c := by
  have e : (o_addA O k a b c).2.2.2.2.2 (o_A O) = (k, a, b, c) := if_pos rfl
  unfold o_ak o_a1 o_a2 o_a3
  rw [e]
  exact ⟨rfl, rfl, rfl, rfl⟩
/-- well formed; x: names that need no part yet -/
def wfD (D : DT) (x : Nat → Prop) : Prop := o_N D.1 ≤ 24 ∧ o_R D.1 ≤ 8 ∧ 2 ≤ o_P D.1 ∧ o_A D.1 ≤ 32 ∧ o_pk D.1 0 = 1 ∧ o_pk D.1 1 = 2 ∧ (∀ p, p < o_P D.1 → o_okP D.1 p) ∧ (∀ k, k < o_A D.1 → o_okA D.1 k) ∧ (∀ n, n < o_N D.1 → ¬ x n → ∃ p, p < o_P D.1 ∧ o_pk D.1 p = 0 ∧ o_pa D.1 p = n) ∧ (∀ p q, p < o_P D.1 → q < o_P D.1 → o_pk D.1 p = 0 → o_pk D.1 q = 0 → o_pa D.1 p = o_pa D.1 q → p = q) ∧ (∀ k, k < o_N D.1 → ∃ m, wOK (D.2.1 k) m) ∧ (∀ k, k < o_R D.1 → ∃ m, wOK (D.2.2 k) m)
def no_x (_ : Nat) : Prop := False
theorem wfD_ok {D : DT} (h : wfD D no_x) (h60 : o_P D.1 ≤ 60) : o_ok D.1 := ⟨h.1, h.2.1, h.2.2.1, h60, h.2.2.2.1, h.2.2.2.2.1, h.2.2.2.2.2.1, h.2.2.2.2.2.2.1, h.2.2.2.2.2.2.2.1, fun n hn => h.2.2.2.2.2.2.2.2.1 n hn id, h.2.2.2.2.2.2.2.2.2.1⟩
theorem wfD_P {D : DT} {x : Nat → Prop} {k a b : Nat} (h : wfD D x) (hk : (k = 3 ∧ a < o_P D.1 ∧ b < o_P D.1) ∨ (k = 4 ∧ a < o_R D.1 ∧ b < o_P D.1) ∨ (k = 0 ∧ a < o_N D.1 ∧ b = 4294967295 ∧ ∀ p, p < o_P D.1 → o_pk D.1 p = 0 → o_pa D.1 p ≠ a)) : wfD (d_addP D k a b) (fun n => x n ∧ ¬ (k = 0 ∧ n = a)) := by
  obtain ⟨h1, h2, h3, h4, h5, h6, h7, h8, h9, h10, h11, h12⟩ := h
  have eo : ∀ p, p < o_P D.1 → o_pk (o_addP D.1 k a b) p = o_pk D.1 p ∧ o_pa (o_addP D.1 k a b) p = o_pa D.1 p ∧ o_pb (o_addP D.1 k a b) p = o_pb D.1 p := fun p hp => aP_o (by omega)
  have en := aP_n D.1 k a b
  refine ⟨h1, h2, Nat.le_succ_of_le h3, h4, ?_, ?_, ?_, ?_, ?_, ?_, h11, h12⟩
  · exact (eo 0 (by omega)).1.trans h5
  · exact (eo 1 (by omega)).1.trans h6
  · intro p hp
    have hp2 : p < o_P D.1 + 1 := hp
    show o_okP (o_addP D.1 k a b) p
    by_cases e : p = o_P D.1
    · unfold o_okP
      rw [e, en.1, en.2.1, en.2.2]
      rcases hk with ⟨c1, c2, c3⟩ | ⟨c1, c2, c3⟩ | ⟨c1, c2, c3, -⟩
      · exact Or.inr (Or.inr (Or.inr (Or.inl ⟨c1, c2, c3⟩)))
      · exact Or.inr (Or.inr (Or.inr (Or.inr ⟨c1, c2, c3⟩)))
      · exact Or.inl ⟨c1, c2, c3⟩
    · have q := h7 p (by omega)
      obtain ⟨e1, e2, e3⟩ := eo p (by omega)
      unfold o_okP at *
      rw [e1, e2, e3]
      exact q
  · intro j hj
    have q := h8 j hj
    show o_okA (o_addP D.1 k a b) j
    unfold o_okA at *
    rcases q with ⟨c1, c2, c3, c4⟩ | c | c
    · exact Or.inl ⟨c1, Nat.lt_succ_of_lt c2, Nat.lt_succ_of_lt c3, c4⟩
    · exact Or.inr (Or.inl c)
    · exact Or.inr (Or.inr c)
  · intro n hn hx
    show ∃ p, p < o_P D.1 + 1 ∧ o_pk (o_addP D.1 k a b) p = 0 ∧ o_pa (o_addP D.1 k a b) p = n
    by_cases e : k = 0 ∧ n = a
    · exact ⟨o_P D.1, by omega, en.1.trans e.1, en.2.1.trans e.2.symm⟩
    · obtain ⟨p, p1, p2, p3⟩ := h9 n hn (fun q => hx ⟨q, e⟩)
      obtain ⟨e1, e2, e3⟩ := eo p p1
      exact ⟨p, by omega, e1.trans p2, e2.trans p3⟩
  · intro p q hp hq kp kq
    have hp2 : p < o_P D.1 + 1 := hp
    have hq2 : q < o_P D.1 + 1 := hq
    show o_pa (o_addP D.1 k a b) p = o_pa (o_addP D.1 k a b) q → p = q
    have kp2 : o_pk (o_addP D.1 k a b) p = 0 := kp
    have kq2 : o_pk (o_addP D.1 k a b) q = 0 := kq
    by_cases ep : p = o_P D.1
    · by_cases eq : q = o_P D.1
      · intro _
        omega
      · obtain ⟨e1, e2, e3⟩ := eo q (by omega)
        rw [ep, en.1] at kp2
        rw [e1] at kq2
        rw [ep, en.2.1, e2]
        intro e
        rcases hk with ⟨c1, _⟩ | ⟨c1, _⟩ | ⟨c1, c2, c3, c4⟩
        · omega
        · omega
        · exact absurd e.symm (c4 q (by omega) kq2)
    · obtain ⟨e1, e2, e3⟩ := eo p (by omega)
      by_cases eq : q = o_P D.1
      · rw [eq, en.1] at kq2
        rw [e1] at kp2
        rw [eq, en.2.1, e2]
        intro e
        rcases hk with ⟨c1, _⟩ | ⟨c1, _⟩ | ⟨c1, c2, c3, c4⟩
        · omega
        · omega
        · exact absurd e (c4 p (by omega) kp2)
      · obtain ⟨f1, f2, f3⟩ := eo q (by omega)
        rw [e1] at kp2
        rw [f1] at kq2
        rw [e2, f2]
        exact h10 p q (by omega) (by omega) kp2 kq2
theorem wfD_x {D : DT} {x y : Nat → Prop} (h : wfD D x) (e : ∀ n, n < o_N D.1 → x n → y n) : wfD D y := ⟨h.1, h.2.1, h.2.2.1, h.2.2.2.1, h.2.2.2.2.1, h.2.2.2.2.2.1, h.2.2.2.2.2.2.1, h.2.2.2.2.2.2.2.1, fun n hn hx => h.2.2.2.2.2.2.2.2.1 n hn (fun q => hx (e n hn q)), h.2.2.2.2.2.2.2.2.2⟩
theorem spP_y {D : DT} {k a b j : Nat} (h : o_is D.1 k a b j) : spP D k a b = (D, lm (o_is D.1 k a b)) := if_pos ⟨j, h⟩
theorem spP_n {D : DT} {k a b : Nat} (h : ∀ j, ¬ o_is D.1 k a b j) : spP D k a b = (d_addP D k a b, o_P D.1) := if_neg (fun ⟨j, q⟩ => h j q)
/-- a part made: counts -/
theorem spP_c (D : DT) (k a b : Nat) : o_P D.1 ≤ o_P (spP D k a b).1.1 ∧ o_P (spP D k a b).1.1 ≤ o_P D.1 + 1 ∧ (spP D k a b).2 < o_P (spP D k a b).1.1 ∧ o_N (spP D k a b).1.1 = o_N D.1 ∧ o_R (spP D k a b).1.1 = o_R D.1 ∧ o_A (spP D k a b).1.1 = o_A D.1 := by
  by_cases c : ∃ j, o_is D.1 k a b j
  · obtain ⟨j, h⟩ := c
    have l := (lm_s ⟨j, h⟩).1.1
    rw [spP_y h]
    exact ⟨Nat.le_refl _, Nat.le_succ _, l, rfl, rfl, rfl⟩
  · rw [spP_n (fun j q => c ⟨j, q⟩)]
    exact ⟨Nat.le_succ _, Nat.le_refl _, Nat.lt_succ_self _, rfl, rfl, rfl⟩
theorem spP_w {D : DT} {x : Nat → Prop} {k a b : Nat} (h : wfD D x) (hk : (k = 3 ∧ a < o_P D.1 ∧ b < o_P D.1) ∨ (k = 4 ∧ a < o_R D.1 ∧ b < o_P D.1)) : wfD (spP D k a b).1 x := by
  by_cases c : ∃ j, o_is D.1 k a b j
  · obtain ⟨j, q⟩ := c
    rw [spP_y q]
    exact h
  · rw [spP_n (fun j q => c ⟨j, q⟩)]
    exact wfD_x (wfD_P h (hk.imp id Or.inl)) (fun n _ q => q.1)
theorem spP_w0 {D : DT} {a : Nat} (h : wfD D (fun n => n = a)) (ha : a < o_N D.1) : wfD (spP D 0 a 4294967295).1 no_x := by
  by_cases c : ∃ j, o_is D.1 0 a 4294967295 j
  · obtain ⟨j, q⟩ := c
    rw [spP_y q]
    obtain ⟨h1, h2, h3, h4, h5, h6, h7, h8, h9, h10, h11, h12⟩ := h
    refine ⟨h1, h2, h3, h4, h5, h6, h7, h8, fun n hn _ => ?_, h10, h11, h12⟩
    by_cases e : n = a
    · exact ⟨j, q.1, q.2.1, q.2.2.1.trans e.symm⟩
    · exact h9 n hn e
  · rw [spP_n (fun j q => c ⟨j, q⟩)]
    refine wfD_x (wfD_P h (Or.inr (Or.inr ⟨rfl, ha, rfl, fun p p1 p2 p3 => c ⟨p, p1, p2, p3, ?_⟩⟩))) (fun n _ q => q.2 ⟨rfl, q.1⟩)
    have := h.2.2.2.2.2.2.1 p p1
    unfold o_okP at this
    omega
/-- a word made a number -/
theorem spN_c {ak r : Bool} {T : Nat → Nat} {n q : Nat} {D : DT} {q' : Nat} {D' : DT} {v : Nat} (h : spN ak r T n q D = .inr (q', D', v)) (hq : q ≤ n) : q < q' ∧ sk T n q < q' ∧ q' ≤ n ∧ o_P D'.1 = o_P D.1 ∧ o_A D'.1 = o_A D.1 ∧ v < d_cn D' r ∧ o_N D.1 ≤ o_N D'.1 ∧ o_R D.1 ≤ o_R D'.1 := by
  have g := sk_ge T n q
  have l := sk_le (T := T) hq
  unfold spN at h
  by_cases c1 : tk T n (sk T n q) = 1
  · rw [if_pos c1] at h
    obtain ⟨h1, h2⟩ := tk_14 (T := T) (n := n) (p := sk T n q) (by omega) (by omega)
    have ln := lw_n (T := T) (n := n) (p := sk T n q) (by omega)
    by_cases c2 : 6 < lw T n (sk T n q)
    · rw [if_pos c2] at h
      cases h
    · rw [if_neg c2] at h
      by_cases c3 : ∃ k, k < d_cn D r ∧ d_ws D r k = wd T n (sk T n q)
      · rw [if_pos c3] at h
        have lv := (lm_s c3).1.1
        injection h with h
        obtain ⟨e1, e2⟩ := Prod.mk.inj h
        obtain ⟨e2, e3⟩ := Prod.mk.inj e2
        subst e1 e2 e3
        exact ⟨by omega, by omega, ln, rfl, rfl, lv, Nat.le_refl _, Nat.le_refl _⟩
      · rw [if_neg c3] at h
        by_cases c4 : ak = true
        · rw [if_pos c4] at h
          cases h
        · rw [if_neg c4] at h
          by_cases c5 : d_cn D r = d_mx r
          · rw [if_pos c5] at h
            cases h
          · rw [if_neg c5] at h
            injection h with h
            obtain ⟨e1, e2⟩ := Prod.mk.inj h
            obtain ⟨e2, e3⟩ := Prod.mk.inj e2
            subst e1 e2 e3
            refine ⟨by omega, by omega, ln, ?_⟩
            cases r
            · exact ⟨rfl, rfl, Nat.lt_succ_self _, Nat.le_succ _, Nat.le_refl _⟩
            · exact ⟨rfl, rfl, Nat.lt_succ_self _, Nat.le_refl _, Nat.le_succ _⟩
  · rw [if_neg c1] at h
    cases h
theorem spN_w {ak r : Bool} {T : Nat → Nat} {n q : Nat} {D : DT} {q' : Nat} {D' : DT} {v : Nat} (h : spN ak r T n q D = .inr (q', D', v)) (w : wfD D no_x) : wfD D' (fun m => r = false ∧ m = v) := by
  unfold spN at h
  by_cases c1 : tk T n (sk T n q) = 1
  · rw [if_pos c1] at h
    obtain ⟨h1, h2⟩ := tk_14 (T := T) (n := n) (p := sk T n q) (by omega) (by omega)
    by_cases c2 : 6 < lw T n (sk T n q)
    · rw [if_pos c2] at h
      cases h
    · rw [if_neg c2] at h
      by_cases c3 : ∃ k, k < d_cn D r ∧ d_ws D r k = wd T n (sk T n q)
      · rw [if_pos c3] at h
        injection h with h
        obtain ⟨e1, e2⟩ := Prod.mk.inj h
        obtain ⟨e2, e3⟩ := Prod.mk.inj e2
        subst e1 e2 e3
        exact wfD_x w (fun _ _ q => q.elim)
      · rw [if_neg c3] at h
        by_cases c4 : ak = true
        · rw [if_pos c4] at h
          cases h
        · rw [if_neg c4] at h
          by_cases c5 : d_cn D r = d_mx r
          · rw [if_pos c5] at h
            cases h
          · rw [if_neg c5] at h
            injection h with h
            obtain ⟨e1, e2⟩ := Prod.mk.inj h
            obtain ⟨e2, e3⟩ := Prod.mk.inj e2
            subst e1 e2 e3
            have wk := wd_ok h2 (show lw T n (sk T n q) ≤ 6 by omega)
            obtain ⟨w1, w2, w3, w4, w5, w6, w7, w8, w9, w10, w11, w12⟩ := w
            cases r
            · have lt : o_N D.1 < 24 := by
                have : ¬ o_N D.1 = 24 := c5
                omega
              refine ⟨lt, w2, w3, w4, w5, w6, fun p hp => ?_, w8, fun m hm hx => ?_, w10, fun k hk => ?_, w12⟩
              · have := w7 p hp
                show o_okP (o_N D.1 + 1, D.1.2) p
                unfold o_okP at *
                rcases this with ⟨a1, a2, a3⟩ | c | c | c | c
                · exact Or.inl ⟨a1, Nat.lt_succ_of_lt a2, a3⟩
                · exact Or.inr (Or.inl c)
                · exact Or.inr (Or.inr (Or.inl c))
                · exact Or.inr (Or.inr (Or.inr (Or.inl c)))
                · exact Or.inr (Or.inr (Or.inr (Or.inr c)))
              · have hm2 : m < o_N D.1 + 1 := hm
                have : ¬ m = o_N D.1 := fun e => hx ⟨rfl, e⟩
                exact w9 m (by omega) id
              · have hk2 : k < o_N D.1 + 1 := hk
                show ∃ m, wOK ((fun i => if i = o_N D.1 then wd T n (sk T n q) else D.2.1 i) k) m
                by_cases e : k = o_N D.1
                · exact ⟨_, by
                    show wOK (if k = o_N D.1 then wd T n (sk T n q) else D.2.1 k) _
                    rw [if_pos e]
                    exact wk⟩
                · obtain ⟨m, hm⟩ := w11 k (by omega)
                  exact ⟨m, by
                    show wOK (if k = o_N D.1 then wd T n (sk T n q) else D.2.1 k) m
                    rw [if_neg e]
                    exact hm⟩
            · have lt : o_R D.1 < 8 := by
                have : ¬ o_R D.1 = 8 := c5
                omega
              refine ⟨w1, lt, w3, w4, w5, w6, fun p hp => ?_, fun k hk => ?_, fun m hm _ => w9 m hm id, w10, w11, fun k hk => ?_⟩
              · have := w7 p hp
                show o_okP (o_N D.1, o_R D.1 + 1, D.1.2.2) p
                unfold o_okP at *
                rcases this with c | c | c | c | ⟨a1, a2, a3⟩
                · exact Or.inl c
                · exact Or.inr (Or.inl c)
                · exact Or.inr (Or.inr (Or.inl c))
                · exact Or.inr (Or.inr (Or.inr (Or.inl c)))
                · exact Or.inr (Or.inr (Or.inr (Or.inr ⟨a1, Nat.lt_succ_of_lt a2, a3⟩)))
              · have := w8 k hk
                show o_okA (o_N D.1, o_R D.1 + 1, D.1.2.2) k
                unfold o_okA at *
                rcases this with c | ⟨a1, a2, a3, a4⟩ | ⟨a1, a2, a3, a4⟩
                · exact Or.inl c
                · exact Or.inr (Or.inl ⟨a1, Nat.lt_succ_of_lt a2, Nat.lt_succ_of_lt a3, a4⟩)
                · exact Or.inr (Or.inr ⟨a1, Nat.lt_succ_of_lt a2, Nat.lt_succ_of_lt a3, Nat.lt_succ_of_lt a4⟩)
              · have hk2 : k < o_R D.1 + 1 := hk
                show ∃ m, wOK ((fun i => if i = o_R D.1 then wd T n (sk T n q) else D.2.2 i) k) m
                by_cases e : k = o_R D.1
                · exact ⟨_, by
                    show wOK (if k = o_R D.1 then wd T n (sk T n q) else D.2.2 k) _
                    rw [if_pos e]
                    exact wk⟩
                · obtain ⟨m, hm⟩ := w12 k (by omega)
                  exact ⟨m, by
                    show wOK (if k = o_R D.1 then wd T n (sk T n q) else D.2.2 k) m
                    rw [if_neg e]
                    exact hm⟩
  · rw [if_neg c1] at h
    cases h
