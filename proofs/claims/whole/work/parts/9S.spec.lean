/-! ===== the text read: what it says ===== -/
abbrev DT : Type := o_T × (Nat → Nat → Nat) × (Nat → Nat → Nat)
abbrev PRs : Type := (Nat × Nat) ⊕ (Nat × DT × Nat)
def o_addP (O : o_T) (k a b : Nat) : o_T := (o_N O, o_R O, o_P O + 1, o_A O, (fun p => if p = o_P O then (k, a, b) else O.2.2.2.2.1 p), O.2.2.2.2.2)
def o_addA (O : o_T) (k a b c : Nat) : o_T := (o_N O, o_R O, o_P O, o_A O + 1, O.2.2.2.2.1, (fun p => if p = o_A O then (k, a, b, c) else O.2.2.2.2.2 p))
def d_addP (D : DT) (k a b : Nat) : DT := (o_addP D.1 k a b, D.2.1, D.2.2)
def d_addA (D : DT) (k a b c : Nat) : DT := (o_addA D.1 k a b c, D.2.1, D.2.2)
def d_addN (D : DT) (c : Nat → Nat) : DT := ((o_N D.1 + 1, D.1.2), (fun i => if i = o_N D.1 then c else D.2.1 i), D.2.2)
def d_addR (D : DT) (c : Nat → Nat) : DT := ((o_N D.1, o_R D.1 + 1, D.1.2.2), D.2.1, (fun i => if i = o_R D.1 then c else D.2.2 i))
def d_cn (D : DT) (r : Bool) : Nat := if r then o_R D.1 else o_N D.1
def d_ws (D : DT) (r : Bool) : Nat → Nat → Nat := if r then D.2.2 else D.2.1
def d_mx (r : Bool) : Nat := if r then 8 else 24
def d_add (D : DT) (r : Bool) (c : Nat → Nat) : DT := if r then d_addR D c else d_addN D c
/-- a word that must be a name (a role): its number -/
noncomputable def spN (ak r : Bool) (T : Nat → Nat) (n q : Nat) (D : DT) : PRs :=
  if tk T n (sk T n q) = 1 then
    if 6 < lw T n (sk T n q) then .inl (2, sk T n q) else
    @ite _ (∃ k, k < d_cn D r ∧ d_ws D r k = wd T n (sk T n q)) (Classical.propDecidable _) (.inr (sk T n q + lw T n (sk T n q), D, lm (fun k => k < d_cn D r ∧ d_ws D r k = wd T n (sk T n q))))
      (if ak = true then .inl (6, sk T n q) else if d_cn D r = d_mx r then .inl (3, sk T n q) else .inr (sk T n q + lw T n (sk T n q), d_add D r (wd T n (sk T n q)), d_cn D r))
  else .inl (1, sk T n q)
def o_is (O : o_T) (k a b j : Nat) : Prop := j < o_P O ∧ o_pk O j = k ∧ o_pa O j = a ∧ o_pb O j = b
/-- a part: the one that is so, or a new one -/
noncomputable def spP (D : DT) (k a b : Nat) : DT × Nat := @ite _ (∃ j, o_is D.1 k a b j) (Classical.propDecidable _) (D, lm (o_is D.1 k a b)) (d_addP D k a b, o_P D.1)
def pbd (r : PRs) (f : Nat → DT → Nat → PRs) : PRs := match r with
  | .inl e => .inl e
  | .inr x => f x.1 x.2.1 x.2.2
theorem pbd_l (e : Nat × Nat) (f : Nat → DT → Nat → PRs) : pbd (.inl e) f = .inl e := rfl
theorem pbd_r (q : Nat) (D : DT) (v : Nat) (f : Nat → DT → Nat → PRs) : pbd (.inr (q, D, v)) f = f q D v := rfl
/-- atoms (mode 0), concepts (1), what follows in a concept (2) -/
noncomputable def spX (ak : Bool) (T : Nat → Nat) (n : Nat) : Nat → Nat → Nat → Nat → DT → Nat → PRs
  | 0, _, _, _, _, _ => .inl (0, 0)
  | f + 1, 0, deep, q, D, _ =>
    if tk T n (sk T n q) = 2 then .inr (nx T n (sk T n q), D, 0)
    else if tk T n (sk T n q) = 3 then .inr (nx T n (sk T n q), D, 1)
    else if tk T n (sk T n q) = 4 then pbd (spN ak true T n (sk T n q + 4) D) fun q2 D2 r => pbd (spX ak T n f 0 deep q2 D2 0) fun q3 D3 v => .inr (q3, (spP D3 4 r v).1, (spP D3 4 r v).2)
    else if tk T n (sk T n q) = 5 then (if deep = 6 then .inl (4, sk T n q) else pbd (spX ak T n f 1 (deep + 1) (sk T n q + 1) D 0) fun q2 D2 v => if tk T n (sk T n q2) = 6 then .inr (sk T n q2 + 1, D2, v) else .inl (1, sk T n q2))
    else pbd (spN ak false T n q D) fun q2 D2 a => .inr (q2, (spP D2 0 a 4294967295).1, (spP D2 0 a 4294967295).2)
  | f + 1, 1, deep, q, D, _ => pbd (spX ak T n f 0 deep q D 0) fun q2 D2 v => spX ak T n f 2 deep q2 D2 v
  | f + 1, _ + 2, deep, q, D, v => if tk T n (sk T n q) = 7 then pbd (spX ak T n f 0 deep (sk T n q + 1) D 0) fun q2 D2 w => spX ak T n f 2 deep q2 (spP D2 3 v w).1 (spP D2 3 v w).2 else .inr (sk T n q, D, v)
theorem spX_0 (ak : Bool) (T : Nat → Nat) (n f deep q : Nat) (D : DT) (v : Nat) : spX ak T n (f + 1) 0 deep q D v = (if tk T n (sk T n q) = 2 then .inr (nx T n (sk T n q), D, 0)
    else if tk T n (sk T n q) = 3 then .inr (nx T n (sk T n q), D, 1)
    else if tk T n (sk T n q) = 4 then pbd (spN ak true T n (sk T n q + 4) D) fun q2 D2 r => pbd (spX ak T n f 0 deep q2 D2 0) fun q3 D3 v => .inr (q3, (spP D3 4 r v).1, (spP D3 4 r v).2)
    else if tk T n (sk T n q) = 5 then (if deep = 6 then .inl (4, sk T n q) else pbd (spX ak T n f 1 (deep + 1) (sk T n q + 1) D 0) fun q2 D2 v => if tk T n (sk T n q2) = 6 then .inr (sk T n q2 + 1, D2, v) else .inl (1, sk T n q2))
    else pbd (spN ak false T n q D) fun q2 D2 a => .inr (q2, (spP D2 0 a 4294967295).1, (spP D2 0 a 4294967295).2)) := rfl
theorem spX_1 (ak : Bool) (T : Nat → Nat) (n f deep q : Nat) (D : DT) (v : Nat) : spX ak T n (f + 1) 1 deep q D v = pbd (spX ak T n f 0 deep q D 0) fun q2 D2 v => spX ak T n f 2 deep q2 D2 v := rfl
theorem spX_2 (ak : Bool) (T : Nat → Nat) (n f deep q : Nat) (D : DT) (v : Nat) : spX ak T n (f + 1) 2 deep q D v = (if tk T n (sk T n q) = 7 then pbd (spX ak T n f 0 deep (sk T n q + 1) D 0) fun q2 D2 w => spX ak T n f 2 deep q2 (spP D2 3 v w).1 (spP D2 3 v w).2 else .inr (sk T n q, D, v)) := rfl
/-! what tokens tell -/
theorem tk_lt {T : Nat → Nat} {n p : Nat} (h : 0 < tk T n p) : p < n := by
  unfold tk at h
  by_cases c : n ≤ p
  · rw [if_pos c] at h
    omega
  · omega
theorem tk_w {T : Nat → Nat} {n p : Nat} (h1 : p < n) (h2 : 0 < lw T n p) : 1 ≤ tk T n p ∧ tk T n p ≤ 4 ∧ (tk T n p = 2 ↔ w_top T n p (lw T n p)) ∧ (tk T n p = 3 ↔ w_not T n p (lw T n p)) ∧ (tk T n p = 4 ↔ w_som T n p (lw T n p)) := by
  have tw : tk T n p = @ite _ (w_top T n p (lw T n p)) (Classical.propDecidable _) 2 (@ite _ (w_not T n p (lw T n p)) (Classical.propDecidable _) 3 (@ite _ (w_som T n p (lw T n p)) (Classical.propDecidable _) 4 1)) := by
    unfold tk
    rw [if_neg (show ¬ n ≤ p by omega), if_pos h2]
  by_cases c1 : w_top T n p (lw T n p)
  · rw [if_pos c1] at tw
    rw [tw]
    refine ⟨by omega, by omega, ⟨fun _ => c1, fun _ => rfl⟩, ⟨fun e => by omega, fun e => ?_⟩, ⟨fun e => by omega, fun e => ?_⟩⟩
    · have := c1.1
      have := e.1
      omega
    · have := c1.1
      have := e.1
      omega
  · rw [if_neg c1] at tw
    by_cases c2 : w_not T n p (lw T n p)
    · rw [if_pos c2] at tw
      rw [tw]
      refine ⟨by omega, by omega, ⟨fun e => by omega, fun e => absurd e c1⟩, ⟨fun _ => c2, fun _ => rfl⟩, ⟨fun e => by omega, fun e => ?_⟩⟩
      have := c2.1
      have := e.1
      omega
    · rw [if_neg c2] at tw
      by_cases c3 : w_som T n p (lw T n p)
      · rw [if_pos c3] at tw
        rw [tw]
        exact ⟨by omega, by omega, ⟨fun e => by omega, fun e => absurd e c1⟩, ⟨fun e => by omega, fun e => absurd e c2⟩, ⟨fun _ => c3, fun _ => rfl⟩⟩
      · rw [if_neg c3] at tw
        rw [tw]
        exact ⟨by omega, by omega, ⟨fun e => by omega, fun e => absurd e c1⟩, ⟨fun e => by omega, fun e => absurd e c2⟩, ⟨fun e => by omega, fun e => absurd e c3⟩⟩
theorem sgk_5 (t : Nat) : 5 ≤ sgk t := by
  unfold sgk
  repeat' split
  all_goals omega
theorem tk_s {T : Nat → Nat} {n p : Nat} (h1 : p < n) (h2 : lw T n p = 0) : tk T n p = (if T p = 60 ∧ p + 1 < n ∧ T (p + 1) = 60 then 11 else sgk (T p)) ∧ 5 ≤ tk T n p := by
  have e : tk T n p = (if T p = 60 ∧ p + 1 < n ∧ T (p + 1) = 60 then 11 else sgk (T p)) := by
    unfold tk
    rw [if_neg (show ¬ n ≤ p by omega), if_neg (show ¬ 0 < lw T n p by omega)]
  refine ⟨e, ?_⟩
  rw [e]
  have := sgk_5 (T p)
  split <;> omega
theorem tk_0 {T : Nat → Nat} {n p : Nat} (h : n ≤ p) : tk T n p = 0 := by
  unfold tk
  rw [if_pos h]
/-- a word's token: letters stand there -/
theorem tk_14 {T : Nat → Nat} {n p : Nat} (h1 : 1 ≤ tk T n p) (h4 : tk T n p ≤ 4) : p < n ∧ 0 < lw T n p := by
  have hp := tk_lt (T := T) (n := n) (p := p) (by omega)
  refine ⟨hp, ?_⟩
  rcases Nat.eq_zero_or_pos (lw T n p) with z | z
  · have := (tk_s hp z).2
    omega
  · exact z
theorem tk_5 {T : Nat → Nat} {n p : Nat} (h : 5 ≤ tk T n p) : p < n ∧ lw T n p = 0 := by
  have hp := tk_lt (T := T) (n := n) (p := p) (by omega)
  refine ⟨hp, ?_⟩
  rcases Nat.eq_zero_or_pos (lw T n p) with z | z
  · exact z
  · have := (tk_w hp z).2.1
    omega
/-- a sign's token by its sign -/
theorem tk_c {T : Nat → Nat} {n p t c : Nat} (hc : ∀ x, sgk x = t ↔ x = c) (h11 : t ≠ 11) (h60 : c ≠ 60) (ht : 5 ≤ t) (ns : ¬ sml c) : tk T n p = t ↔ p < n ∧ T p = c := by
  constructor
  · intro h
    obtain ⟨h1, h2⟩ := tk_5 (T := T) (n := n) (p := p) (by omega)
    refine ⟨h1, ?_⟩
    have e := (tk_s h1 h2).1
    rw [h] at e
    by_cases q : T p = 60 ∧ p + 1 < n ∧ T (p + 1) = 60
    · rw [if_pos q] at e
      exact absurd e h11
    · rw [if_neg q] at e
      exact (hc _).mp e.symm
  · rintro ⟨h1, h2⟩
    have z : lw T n p = 0 := by
      rcases Nat.eq_zero_or_pos (lw T n p) with z | z
      · exact z
      · have := ((lw_l T n p).2 0 z).2
        rw [Nat.add_zero, h2] at this
        exact absurd this ns
    rw [(tk_s h1 z).1, if_neg (fun q => h60 (h2.symm.trans q.1)), h2]
    exact (hc _).mpr rfl
theorem sgk_e {x t c : Nat} (ht : t ≠ 13) (h : sgk c = t) (hu : ∀ y, y < 62 → sgk y = t → y = c) : sgk x = t ↔ x = c := by
  constructor
  · intro e
    refine hu x ?_ e
    rcases Nat.lt_or_ge x 62 with q | q
    · exact q
    · exfalso
      unfold sgk at e
      rw [if_neg (by omega), if_neg (by omega), if_neg (by omega), if_neg (by omega), if_neg (by omega), if_neg (by omega), if_neg (by omega)] at e
      exact ht e.symm
  · intro e
    rw [e]
    exact h
theorem tk_lp {T : Nat → Nat} {n p : Nat} : tk T n p = 5 ↔ p < n ∧ T p = 40 := tk_c (fun x => sgk_e (by omega) rfl (by decide)) (by omega) (by omega) (by omega) (by unfold sml; omega)
theorem tk_rp {T : Nat → Nat} {n p : Nat} : tk T n p = 6 ↔ p < n ∧ T p = 41 := tk_c (fun x => sgk_e (by omega) rfl (by decide)) (by omega) (by omega) (by omega) (by unfold sml; omega)
theorem tk_an {T : Nat → Nat} {n p : Nat} : tk T n p = 7 ↔ p < n ∧ T p = 38 := tk_c (fun x => sgk_e (by omega) rfl (by decide)) (by omega) (by omega) (by omega) (by unfold sml; omega)
theorem tk_eq {T : Nat → Nat} {n p : Nat} : tk T n p = 9 ↔ p < n ∧ T p = 61 := tk_c (fun x => sgk_e (by omega) rfl (by decide)) (by omega) (by omega) (by omega) (by unfold sml; omega)
theorem tk_st {T : Nat → Nat} {n p : Nat} : tk T n p = 10 ↔ p < n ∧ T p = 42 := tk_c (fun x => sgk_e (by omega) rfl (by decide)) (by omega) (by omega) (by omega) (by unfold sml; omega)
theorem tk_se {T : Nat → Nat} {n p : Nat} : tk T n p = 12 ↔ p < n ∧ T p = 59 := tk_c (fun x => sgk_e (by omega) rfl (by decide)) (by omega) (by omega) (by omega) (by unfold sml; omega)
theorem sgk_11 (t : Nat) : sgk t ≠ 11 := by
  unfold sgk
  repeat' split
  all_goals omega
theorem lw_60 {T : Nat → Nat} {n p : Nat} (h : T p = 60) : lw T n p = 0 := by
  rcases Nat.eq_zero_or_pos (lw T n p) with z | z
  · exact z
  · have := ((lw_l T n p).2 0 z).2
    rw [Nat.add_zero, h] at this
    unfold sml at this
    omega
theorem tk_ll {T : Nat → Nat} {n p : Nat} : tk T n p = 11 ↔ p < n ∧ T p = 60 ∧ p + 1 < n ∧ T (p + 1) = 60 := by
  constructor
  · intro h
    obtain ⟨h1, h2⟩ := tk_5 (T := T) (n := n) (p := p) (by omega)
    have e := (tk_s h1 h2).1
    rw [h] at e
    by_cases q : T p = 60 ∧ p + 1 < n ∧ T (p + 1) = 60
    · exact ⟨h1, q⟩
    · rw [if_neg q] at e
      exact absurd e.symm (sgk_11 _)
  · rintro ⟨h1, h2⟩
    rw [(tk_s h1 (lw_60 h2.1)).1, if_pos h2]
theorem tk_le {T : Nat → Nat} {n p : Nat} : tk T n p = 8 ↔ p < n ∧ T p = 60 ∧ ¬ (p + 1 < n ∧ T (p + 1) = 60) := by
  constructor
  · intro h
    obtain ⟨h1, h2⟩ := tk_5 (T := T) (n := n) (p := p) (by omega)
    have e := (tk_s h1 h2).1
    rw [h] at e
    by_cases q : T p = 60 ∧ p + 1 < n ∧ T (p + 1) = 60
    · rw [if_pos q] at e
      omega
    · rw [if_neg q] at e
      have := (sgk_8 _).mp e.symm
      exact ⟨h1, this, fun x => q ⟨this, x⟩⟩
  · rintro ⟨h1, h2, h3⟩
    rw [(tk_s h1 (lw_60 h2)).1, if_neg (fun q => h3 q.2), h2]
    rfl
theorem nx_s {T : Nat → Nat} {n p : Nat} (h : 5 ≤ tk T n p) (h11 : tk T n p ≠ 11) : nx T n p = p + 1 := by
  obtain ⟨h1, h2⟩ := tk_5 h
  unfold nx
  rw [if_neg (show ¬ n ≤ p by omega), if_neg (show ¬ 0 < lw T n p by omega), if_neg]
  intro q
  exact h11 (tk_ll.mpr ⟨h1, q⟩)
theorem nx_11 {T : Nat → Nat} {n p : Nat} (h : tk T n p = 11) : nx T n p = p + 2 := by
  obtain ⟨h1, h2⟩ := tk_5 (T := T) (n := n) (p := p) (by omega)
  unfold nx
  rw [if_neg (show ¬ n ≤ p by omega), if_neg (show ¬ 0 < lw T n p by omega), if_pos (tk_ll.mp h).2]
theorem nx_w {T : Nat → Nat} {n p : Nat} (h1 : 1 ≤ tk T n p) (h4 : tk T n p ≤ 4) : nx T n p = p + lw T n p := by
  obtain ⟨h1, h2⟩ := tk_14 h1 h4
  unfold nx
  rw [if_neg (show ¬ n ≤ p by omega), if_pos h2]
