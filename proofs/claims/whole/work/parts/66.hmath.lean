/-! ===== the hierarchy of names as numbers ===== -/
theorem l_tr {O : o_T} {B : Nat → Prop} {x y : Nat} (h : l_A O B x y) : ∀ k, (∀ z, s_A O B k y z → l_A O B x z) ∧ (∀ r z, s_K O B k y r z → l_K O B x r z)
  | 0 => ⟨fun z c => by
      rcases c with rfl | rfl
      · exact h
      · exact l_AT O B x, fun _ _ c => absurd c (by intro q; exact q)⟩
  | k + 1 => by
    obtain ⟨i1, i2⟩ := l_tr h k
    refine ⟨fun z c => ?_, fun r z c => ?_⟩
    · rcases c with c | c
      · exact i1 z c
      · apply l_cA
        rcases c with ⟨c, h1, h2⟩ | ⟨p, h1, h2, h3, h4⟩ | ⟨h1, h2, h3, h4⟩ | ⟨h1, h2, w, ⟨r, h3, h4⟩, h5⟩ | ⟨h1, w, ⟨r, h2⟩, h3⟩
        · exact Or.inl ⟨c, i1 c h1, h2⟩
        · exact Or.inr (Or.inl ⟨p, h1, h2, i1 p h3, h4⟩)
        · exact Or.inr (Or.inr (Or.inl ⟨h1, h2, i1 _ h3, i1 _ h4⟩))
        · exact Or.inr (Or.inr (Or.inr (Or.inl ⟨h1, h2, w, ⟨r, h3, i2 r w h4⟩, ⟨k, h5⟩⟩)))
        · exact Or.inr (Or.inr (Or.inr (Or.inr ⟨h1, w, ⟨r, i2 r w h2⟩, ⟨k, h3⟩⟩)))
    · rcases c with c | c
      · exact i2 r z c
      · apply l_cK
        rcases c with ⟨p, h1, h2, h3, h4⟩ | ⟨j, h1, h2, h3, h4, w, ⟨q, h5, h6⟩, ⟨t, h7, h8⟩⟩
        · exact Or.inl ⟨p, h1, h2, i1 p h3, h4⟩
        · exact Or.inr ⟨j, h1, h2, h3, h4, w, ⟨q, h5, i2 q w h6⟩, ⟨t, h7, ⟨k, h8⟩⟩⟩
theorem l_trA {O : o_T} {B : Nat → Prop} {x y z : Nat} (h1 : l_A O B x y) (h2 : l_A O B y z) : l_A O B x z := by
  obtain ⟨k, h2⟩ := h2
  exact (l_tr h1 k).1 z h2
theorem l_bet {O : o_T} {B : Nat → Prop} {x y z : Nat} (h1 : l_be O B x y) (h2 : l_be O B y z) : l_be O B x z := by
  rcases h1 with h1 | h1
  · rcases h2 with h2 | h2
    · exact Or.inl (l_trA h1 h2)
    · exact Or.inr (l_trA h1 h2)
  · exact Or.inr h1
theorem l_ber (O : o_T) (B : Nat → Prop) (x : Nat) : l_be O B x x := Or.inl (l_A0 O B x)
/-- names of no node of their own: void, below all; the rest; those that are each below the other; the first ones -/
def h_nv (N : Nat) (vo tp : Nat → Prop) (a : Nat) : Prop := a < N ∧ ¬ vo a ∧ ¬ tp a
def h_mu (nb : Nat → Nat → Prop) (a b : Nat) : Prop := nb a b ∧ nb b a
def h_re (N : Nat) (vo tp : Nat → Prop) (nb : Nat → Nat → Prop) (a : Nat) : Prop := h_nv N vo tp a ∧ ∀ b, b < a → h_nv N vo tp b → ¬ h_mu nb a b
/-- the least name of a name's node; a node's number; the first name of a node; how many nodes -/
noncomputable def h_le (N : Nat) (vo tp : Nat → Prop) (nb : Nat → Nat → Prop) (a : Nat) : Nat := lm (fun b => h_nv N vo tp b ∧ h_mu nb a b)
noncomputable def h_no (N : Nat) (vo tp : Nat → Prop) (nb : Nat → Nat → Prop) (a : Nat) : Nat := ct (h_re N vo tp nb) (h_le N vo tp nb a)
noncomputable def h_rp (N : Nat) (vo tp : Nat → Prop) (nb : Nat → Nat → Prop) (n : Nat) : Nat := lm (fun a => h_re N vo tp nb a ∧ ct (h_re N vo tp nb) a = n)
noncomputable def h_M (N : Nat) (vo tp : Nat → Prop) (nb : Nat → Nat → Prop) : Nat := ct (h_re N vo tp nb) N
theorem ct_mn {p : Nat → Prop} : ∀ {m n : Nat}, m ≤ n → ct p m ≤ ct p n
  | m, n, h => by
    induction h with
    | refl => exact Nat.le_refl _
    | step _ ih => exact Nat.le_trans ih (by rw [ct]; omega)
theorem ct_s1 {p : Nat → Prop} {m : Nat} (h : p m) : ct p (m + 1) = ct p m + 1 := by rw [ct, if_pos h]
theorem ct_s0 {p : Nat → Prop} {m : Nat} (h : ¬ p m) : ct p (m + 1) = ct p m := by rw [ct, if_neg h, Nat.add_zero]
theorem ct_inj {p : Nat → Prop} {a b : Nat} (ha : p a) (hb : p b) (e : ct p a = ct p b) : a = b := by
  rcases Nat.lt_trichotomy a b with h | h | h
  · have := ct_mn (p := p) (show a + 1 ≤ b from h)
    rw [ct_s1 ha] at this
    omega
  · exact h
  · have := ct_mn (p := p) (show b + 1 ≤ a from h)
    rw [ct_s1 hb] at this
    omega
theorem ct_ex {p : Nat → Prop} : ∀ {N n : Nat}, n < ct p N → ∃ a, a < N ∧ p a ∧ ct p a = n
  | 0, n, h => absurd h (Nat.not_lt_zero n)
  | N + 1, n, h => by
    by_cases q : p N
    · rw [ct_s1 q] at h
      by_cases e : n = ct p N
      · exact ⟨N, by omega, q, e.symm⟩
      · obtain ⟨a, h1, h2⟩ := ct_ex (p := p) (N := N) (n := n) (by omega)
        exact ⟨a, by omega, h2⟩
    · rw [ct_s0 q] at h
      obtain ⟨a, h1, h2⟩ := ct_ex (p := p) (N := N) (n := n) h
      exact ⟨a, by omega, h2⟩
theorem h_rp_of {N : Nat} {vo tp : Nat → Prop} {nb : Nat → Nat → Prop} {a : Nat} (h : h_re N vo tp nb a) : h_rp N vo tp nb (ct (h_re N vo tp nb) a) = a := by
  refine lm_e ⟨h, rfl⟩ ?_
  rintro j hj ⟨h1, h2⟩
  have := ct_inj h1 h h2
  omega
theorem h_rp_s {N : Nat} {vo tp : Nat → Prop} {nb : Nat → Nat → Prop} {n k : Nat} (h : n < ct (h_re N vo tp nb) k) : h_re N vo tp nb (h_rp N vo tp nb n) ∧ ct (h_re N vo tp nb) (h_rp N vo tp nb n) = n ∧ h_rp N vo tp nb n < k := by
  obtain ⟨a, h1, h2, rfl⟩ := ct_ex h
  rw [h_rp_of h2]
  exact ⟨h2, rfl, h1⟩
theorem h_le_s {N : Nat} {vo tp : Nat → Prop} {nb : Nat → Nat → Prop} (hr : ∀ a, nb a a) (ht : ∀ a b c, nb a b → nb b c → nb a c) {a : Nat} (h : h_nv N vo tp a) : h_re N vo tp nb (h_le N vo tp nb a) ∧ h_mu nb a (h_le N vo tp nb a) ∧ h_le N vo tp nb a ≤ a := by
  have q := lm_s (P := fun b => h_nv N vo tp b ∧ h_mu nb a b) ⟨a, h, hr a, hr a⟩
  refine ⟨⟨q.1.1, fun b hb hnv hmu => ?_⟩, q.1.2, ?_⟩
  · exact q.2 b hb ⟨hnv, ht _ _ _ q.1.2.1 hmu.1, ht _ _ _ hmu.2 q.1.2.2⟩
  · rcases Nat.lt_or_ge a (lm (fun b => h_nv N vo tp b ∧ h_mu nb a b)) with c | c
    · exact absurd ⟨h, hr a, hr a⟩ (q.2 a c)
    · exact c
theorem h_le_re {N : Nat} {vo tp : Nat → Prop} {nb : Nat → Nat → Prop} (hr : ∀ a, nb a a) {a : Nat} (h : h_re N vo tp nb a) : h_le N vo tp nb a = a := lm_e ⟨h.1, hr a, hr a⟩ (fun b hb c => h.2 b hb c.1 c.2)
theorem h_rp_no {N : Nat} {vo tp : Nat → Prop} {nb : Nat → Nat → Prop} (hr : ∀ a, nb a a) (ht : ∀ a b c, nb a b → nb b c → nb a c) {a : Nat} (h : h_nv N vo tp a) : h_rp N vo tp nb (h_no N vo tp nb a) = h_le N vo tp nb a := h_rp_of (h_le_s hr ht h).1
theorem h_no_lt {N : Nat} {vo tp : Nat → Prop} {nb : Nat → Nat → Prop} (hr : ∀ a, nb a a) (ht : ∀ a b c, nb a b → nb b c → nb a c) {a k : Nat} (h : h_nv N vo tp a) (hk : a < k) : h_no N vo tp nb a < ct (h_re N vo tp nb) k := by
  obtain ⟨h1, -, h3⟩ := h_le_s (nb := nb) hr ht h
  have := ct_mn (p := h_re N vo tp nb) (show h_le N vo tp nb a + 1 ≤ k by omega)
  rw [ct_s1 h1] at this
  exact this
theorem h_no_mu {N : Nat} {vo tp : Nat → Prop} {nb : Nat → Nat → Prop} (hr : ∀ a, nb a a) (ht : ∀ a b c, nb a b → nb b c → nb a c) {a b : Nat} (h : h_nv N vo tp a) (h2 : h_nv N vo tp b) : h_no N vo tp nb a = h_no N vo tp nb b ↔ h_mu nb a b := by
  obtain ⟨a1, a2, a3⟩ := h_le_s (nb := nb) hr ht h
  obtain ⟨b1, b2, b3⟩ := h_le_s (nb := nb) hr ht h2
  constructor
  · intro e
    have e2 := ct_inj a1 b1 e
    rw [← e2] at b2
    exact ⟨ht _ _ _ a2.1 b2.2, ht _ _ _ b2.1 a2.2⟩
  · intro e
    have e2 : h_le N vo tp nb a = h_le N vo tp nb b := lm_c (fun c => and_congr_right (fun _ => ⟨fun q => ⟨ht _ _ _ e.2 q.1, ht _ _ _ q.2 e.1⟩, fun q => ⟨ht _ _ _ e.1 q.1, ht _ _ _ q.2 e.2⟩⟩))
    unfold h_no
    rw [e2]
/-- node n is the node of a -/
theorem h_no_rp {N : Nat} {vo tp : Nat → Prop} {nb : Nat → Nat → Prop} (hr : ∀ a, nb a a) (ht : ∀ a b c, nb a b → nb b c → nb a c) {a n k : Nat} (h : h_nv N vo tp a) (hn : n < ct (h_re N vo tp nb) k) : h_mu nb a (h_rp N vo tp nb n) ↔ h_no N vo tp nb a = n := by
  obtain ⟨r1, r2, r3⟩ := h_rp_s hn
  rw [← h_no_mu hr ht h r1.1]
  have : h_no N vo tp nb (h_rp N vo tp nb n) = n := by
    unfold h_no
    rw [h_le_re hr r1, r2]
  rw [this]
/-- a node below another one; its parents -/
def h_ov (N : Nat) (vo tp : Nat → Prop) (nb : Nat → Nat → Prop) (n m : Nat) : Prop := n < h_M N vo tp nb ∧ m < h_M N vo tp nb ∧ m ≠ n ∧ nb (h_rp N vo tp nb n) (h_rp N vo tp nb m)
def h_pa (N : Nat) (vo tp : Nat → Prop) (nb : Nat → Nat → Prop) (n m : Nat) : Prop := h_ov N vo tp nb n m ∧ ¬ ∃ q, h_ov N vo tp nb n q ∧ h_ov N vo tp nb q m
theorem h_ovt {N : Nat} {vo tp : Nat → Prop} {nb : Nat → Nat → Prop} (ht : ∀ a b c, nb a b → nb b c → nb a c) {a b c : Nat} (h1 : h_ov N vo tp nb a b) (h2 : h_ov N vo tp nb b c) : h_ov N vo tp nb a c := by
  obtain ⟨a1, a2, a3, a4⟩ := h1
  obtain ⟨b1, b2, b3, b4⟩ := h2
  refine ⟨a1, b2, ?_, ht _ _ _ a4 b4⟩
  rintro rfl
  obtain ⟨r1, r2, -⟩ := h_rp_s (vo := vo) (tp := tp) (nb := nb) b2
  obtain ⟨s1, s2, -⟩ := h_rp_s (vo := vo) (tp := tp) (nb := nb) b1
  rcases Nat.lt_trichotomy (h_rp N vo tp nb c) (h_rp N vo tp nb b) with e | e | e
  · exact s1.2 _ e r1.1 ⟨b4, a4⟩
  · rw [e, s2] at r2
    exact a3 r2
  · exact r1.2 _ e s1.1 ⟨a4, b4⟩
/-- nodes that a name is below, its own too -/
def h_ab (N : Nat) (vo tp : Nat → Prop) (nb : Nat → Nat → Prop) (a n : Nat) : Prop := h_nv N vo tp a ∧ (n = h_no N vo tp nb a ∨ h_ov N vo tp nb (h_no N vo tp nb a) n)
theorem h_common {N : Nat} {vo tp : Nat → Prop} {nb : Nat → Nat → Prop} (ht : ∀ a b c, nb a b → nb b c → nb a c) {a b n : Nat} : (∃ q, (h_ab N vo tp nb a q ∧ h_ab N vo tp nb b q) ∧ h_ov N vo tp nb q n) ↔ ∃ q, (h_ab N vo tp nb a q ∧ h_ab N vo tp nb b q) ∧ h_pa N vo tp nb q n := by
  constructor
  · have up : ∀ a q m, h_ab N vo tp nb a q → h_ov N vo tp nb q m → h_ab N vo tp nb a m := by
      rintro a q m ⟨h1, rfl | h2⟩ h3
      · exact ⟨h1, Or.inr h3⟩
      · exact ⟨h1, Or.inr (h_ovt ht h2 h3)⟩
    have key : ∀ c q, ct (fun m => h_ov N vo tp nb q m ∧ h_ov N vo tp nb m n) (h_M N vo tp nb) ≤ c → (h_ab N vo tp nb a q ∧ h_ab N vo tp nb b q) → h_ov N vo tp nb q n → ∃ q, (h_ab N vo tp nb a q ∧ h_ab N vo tp nb b q) ∧ h_pa N vo tp nb q n := by
      intro c
      induction c with
      | zero =>
        intro q hc h1 h2
        refine ⟨q, h1, h2, ?_⟩
        rintro ⟨m, h3, h4⟩
        have := ct_pos (p := fun m => h_ov N vo tp nb q m ∧ h_ov N vo tp nb m n) h3.2.1 ⟨h3, h4⟩
        omega
      | succ c ih =>
        intro q hc h1 h2
        by_cases e : ∃ m, h_ov N vo tp nb q m ∧ h_ov N vo tp nb m n
        · obtain ⟨m, h3, h4⟩ := e
          refine ih m ?_ ⟨up _ _ _ h1.1 h3, up _ _ _ h1.2 h3⟩ h4
          have := ct_lt (p := fun x => h_ov N vo tp nb m x ∧ h_ov N vo tp nb x n) (q := fun x => h_ov N vo tp nb q x ∧ h_ov N vo tp nb x n) (n := h_M N vo tp nb) (fun k _ c => ⟨h_ovt ht h3 c.1, c.2⟩) ⟨m, h3.2.1, ⟨h3, h4⟩, fun c => c.1.2.2.1 rfl⟩
          omega
        · exact ⟨q, h1, h2, e⟩
    rintro ⟨q, h1, h2⟩
    exact key _ q (Nat.le_refl _) h1 h2
  · rintro ⟨q, h1, h2⟩
    exact ⟨q, h1, h2.1⟩
/-- depths, as both work them out -/
noncomputable def h_d1 (pa : Nat → Nat → Prop) (n m : Nat) (v : Nat → Nat) (i : Nat) : Nat := @ite Nat (pa n m ∧ i = n ∧ v n ≤ v m) (Classical.propDecidable _) (v m + 1) (v i)
noncomputable def h_dM (pa : Nat → Nat → Prop) (n : Nat) : Nat → (Nat → Nat) → Nat → Nat
  | 0, v => v
  | m + 1, v => h_d1 pa n m (h_dM pa n m v)
noncomputable def h_dN (pa : Nat → Nat → Prop) (M : Nat) : Nat → (Nat → Nat) → Nat → Nat
  | 0, v => v
  | n + 1, v => h_dM pa n M (h_dN pa M n v)
noncomputable def h_dP (pa : Nat → Nat → Prop) (M : Nat) : Nat → (Nat → Nat) → Nat → Nat
  | 0, v => v
  | p + 1, v => h_dN pa M M (h_dP pa M p v)
theorem h_d1b {pa : Nat → Nat → Prop} {n m c : Nat} {v : Nat → Nat} (h : ∀ i, v i ≤ c) (i : Nat) : h_d1 pa n m v i ≤ c + 1 := by
  unfold h_d1
  have := h m
  have := h i
  split <;> omega
theorem h_dMb {pa : Nat → Nat → Prop} {n c : Nat} {v : Nat → Nat} (h : ∀ i, v i ≤ c) : ∀ m i, h_dM pa n m v i ≤ c + m
  | 0, i => h i
  | m + 1, i => h_d1b (h_dMb h m) i
theorem h_dNb {pa : Nat → Nat → Prop} {M c : Nat} {v : Nat → Nat} (h : ∀ i, v i ≤ c) : ∀ n i, h_dN pa M n v i ≤ c + n * M
  | 0, i => by rw [Nat.zero_mul]; exact h i
  | n + 1, i => by
    have := h_dMb (pa := pa) (n := n) (h_dNb (pa := pa) (M := M) h n) M i
    rw [Nat.succ_mul]
    exact Nat.le_trans this (by omega)
theorem h_dPb {pa : Nat → Nat → Prop} {M c : Nat} {v : Nat → Nat} (h : ∀ i, v i ≤ c) : ∀ p i, h_dP pa M p v i ≤ c + p * (M * M)
  | 0, i => by rw [Nat.zero_mul]; exact h i
  | p + 1, i => by
    have := h_dNb (pa := pa) (M := M) (h_dPb (pa := pa) (M := M) h p) M i
    rw [Nat.succ_mul]
    exact Nat.le_trans this (by omega)
