/-! ===== the ontology as numbers, the rounds, what they come to ===== -/
/-- how many names, roles, parts, axioms; the parts (kind, one, other); the axioms (kind, a, b, c) -/
abbrev o_T : Type := Nat × Nat × Nat × Nat × (Nat → Nat × Nat × Nat) × (Nat → Nat × Nat × Nat × Nat)
def o_N (O : o_T) : Nat := O.1
def o_R (O : o_T) : Nat := O.2.1
def o_P (O : o_T) : Nat := O.2.2.1
def o_A (O : o_T) : Nat := O.2.2.2.1
def o_pk (O : o_T) (p : Nat) : Nat := (O.2.2.2.2.1 p).1
def o_pa (O : o_T) (p : Nat) : Nat := (O.2.2.2.2.1 p).2.1
def o_pb (O : o_T) (p : Nat) : Nat := (O.2.2.2.2.1 p).2.2
def o_ak (O : o_T) (k : Nat) : Nat := (O.2.2.2.2.2 k).1
def o_a1 (O : o_T) (k : Nat) : Nat := (O.2.2.2.2.2 k).2.1
def o_a2 (O : o_T) (k : Nat) : Nat := (O.2.2.2.2.2 k).2.2.1
def o_a3 (O : o_T) (k : Nat) : Nat := (O.2.2.2.2.2 k).2.2.2
/-- what a part, an axiom may be -/
def o_okP (O : o_T) (p : Nat) : Prop := (o_pk O p = 0 ∧ o_pa O p < o_N O ∧ o_pb O p = 4294967295) ∨ (p = 0 ∧ o_pk O p = 1 ∧ o_pa O p = 4294967295 ∧ o_pb O p = 4294967295) ∨ (p = 1 ∧ o_pk O p = 2 ∧ o_pa O p = 4294967295 ∧ o_pb O p = 4294967295) ∨ (o_pk O p = 3 ∧ o_pa O p < p ∧ o_pb O p < p) ∨ (o_pk O p = 4 ∧ o_pa O p < o_R O ∧ o_pb O p < p)
def o_okA (O : o_T) (k : Nat) : Prop := (o_ak O k ≤ 1 ∧ o_a1 O k < o_P O ∧ o_a2 O k < o_P O ∧ o_a3 O k = 4294967295) ∨ (o_ak O k = 2 ∧ o_a1 O k < o_R O ∧ o_a2 O k < o_R O ∧ o_a3 O k = 4294967295) ∨ (o_ak O k = 3 ∧ o_a1 O k < o_R O ∧ o_a2 O k < o_R O ∧ o_a3 O k < o_R O)
def o_ok (O : o_T) : Prop := o_N O ≤ 24 ∧ o_R O ≤ 8 ∧ 2 ≤ o_P O ∧ o_P O ≤ 60 ∧ o_A O ≤ 32 ∧ o_pk O 0 = 1 ∧ o_pk O 1 = 2 ∧ (∀ p, p < o_P O → o_okP O p) ∧ (∀ k, k < o_A O → o_okA O k) ∧ (∀ n, n < o_N O → ∃ p, p < o_P O ∧ o_pk O p = 0 ∧ o_pa O p = n) ∧ (∀ p q, p < o_P O → q < o_P O → o_pk O p = 0 → o_pk O q = 0 → o_pa O p = o_pa O q → p = q)
/-- c below d by an axiom -/
def o_im (O : o_T) (B : Nat → Prop) (c d : Nat) : Prop := ∃ k, k < o_A O ∧ B k ∧ ((o_ak O k ≤ 1 ∧ o_a1 O k = c ∧ o_a2 O k = d) ∨ (o_ak O k = 1 ∧ o_a2 O k = c ∧ o_a1 O k = d))
def o_di (O : o_T) (B : Nat → Prop) (r s : Nat) : Prop := ∃ k, k < o_A O ∧ B k ∧ o_ak O k = 2 ∧ o_a1 O k = r ∧ o_a2 O k = s
/-- r under s, in so many steps -/
def o_us (O : o_T) (B : Nat → Prop) : Nat → Nat → Nat → Prop
  | 0, r, s => r = s
  | n + 1, r, s => ∃ q, o_us O B n r q ∧ o_di O B q s
def o_un (O : o_T) (B : Nat → Prop) (r s : Nat) : Prop := ∃ n, o_us O B n r s
/-- what one round brings, by its five rules; the links -/
def r_A (O : o_T) (B : Nat → Prop) (A : Nat → Nat → Prop) (K : Nat → Nat → Nat → Prop) (x y : Nat) : Prop :=
  (∃ c, A x c ∧ o_im O B c y) ∨
  (∃ p, p < o_P O ∧ o_pk O p = 3 ∧ A x p ∧ (o_pa O p = y ∨ o_pb O p = y)) ∨
  (y < o_P O ∧ o_pk O y = 3 ∧ A x (o_pa O y) ∧ A x (o_pb O y)) ∨
  (y < o_P O ∧ o_pk O y = 4 ∧ ∃ z, (∃ r, o_un O B r (o_pa O y) ∧ K x r z) ∧ A z (o_pb O y)) ∨
  (y = 1 ∧ ∃ z, (∃ r, K x r z) ∧ A z 1)
def r_K (O : o_T) (B : Nat → Prop) (A : Nat → Nat → Prop) (K : Nat → Nat → Nat → Prop) (x r y : Nat) : Prop :=
  (∃ p, p < o_P O ∧ o_pk O p = 4 ∧ A x p ∧ o_pa O p = r ∧ o_pb O p = y) ∨
  (∃ k, k < o_A O ∧ B k ∧ o_ak O k = 3 ∧ o_a3 O k = r ∧ ∃ z, (∃ q, o_un O B q (o_a1 O k) ∧ K x q z) ∧ (∃ q, o_un O B q (o_a2 O k) ∧ K z q y))
def s_AK (O : o_T) (B : Nat → Prop) : Nat → (Nat → Nat → Prop) × (Nat → Nat → Nat → Prop)
  | 0 => (fun x y => y = x ∨ y = 0, fun _ _ _ => False)
  | k + 1 => (fun x y => (s_AK O B k).1 x y ∨ r_A O B (s_AK O B k).1 (s_AK O B k).2 x y, fun x r y => (s_AK O B k).2 x r y ∨ r_K O B (s_AK O B k).1 (s_AK O B k).2 x r y)
def s_A (O : o_T) (B : Nat → Prop) (k x y : Nat) : Prop := (s_AK O B k).1 x y
def s_K (O : o_T) (B : Nat → Prop) (k x r y : Nat) : Prop := (s_AK O B k).2 x r y
theorem s_A0 (O : o_T) (B : Nat → Prop) (x y : Nat) : s_A O B 0 x y ↔ (y = x ∨ y = 0) := Iff.rfl
theorem s_K0 (O : o_T) (B : Nat → Prop) (x r y : Nat) : s_K O B 0 x r y ↔ False := Iff.rfl
theorem s_AS (O : o_T) (B : Nat → Prop) (k x y : Nat) : s_A O B (k + 1) x y ↔ (s_A O B k x y ∨ r_A O B (s_A O B k) (s_K O B k) x y) := Iff.rfl
theorem s_KS (O : o_T) (B : Nat → Prop) (k x r y : Nat) : s_K O B (k + 1) x r y ↔ (s_K O B k x r y ∨ r_K O B (s_A O B k) (s_K O B k) x r y) := Iff.rfl
/-- what they come to -/
def l_A (O : o_T) (B : Nat → Prop) (x y : Nat) : Prop := ∃ k, s_A O B k x y
def l_K (O : o_T) (B : Nat → Prop) (x r y : Nat) : Prop := ∃ k, s_K O B k x r y
def l_be (O : o_T) (B : Nat → Prop) (x y : Nat) : Prop := l_A O B x y ∨ l_A O B x 1
theorem s_Am {O : o_T} {B : Nat → Prop} {k j x y : Nat} (h : k ≤ j) (q : s_A O B k x y) : s_A O B j x y := by
  induction h with
  | refl => exact q
  | step _ ih => exact Or.inl ih
theorem s_Km {O : o_T} {B : Nat → Prop} {k j x r y : Nat} (h : k ≤ j) (q : s_K O B k x r y) : s_K O B j x r y := by
  induction h with
  | refl => exact q
  | step _ ih => exact Or.inl ih
/-- a round of less brings less -/
theorem r_Am {O : o_T} {B B' : Nat → Prop} {A A' : Nat → Nat → Prop} {K K' : Nat → Nat → Nat → Prop} (hB : ∀ k, B k → B' k) {x : Nat} (hA : ∀ y, A x y → A' x y) (hK : ∀ r y, K x r y → K' x r y) (hz : ∀ r z, K x r z → ∀ y, A z y → A' z y) {y : Nat} (h : r_A O B A K x y) : r_A O B' A' K' x y := by
  have hu : ∀ n r s, o_us O B n r s → o_us O B' n r s := by
    intro n
    induction n with
    | zero => intro r s e; exact e
    | succ n ih =>
      rintro r s ⟨q, h1, k, h2, h3, h4⟩
      exact ⟨q, ih r q h1, k, h2, hB k h3, h4⟩
  rcases h with ⟨c, h1, k, h2, h3, h4⟩ | ⟨p, h1, h2, h3, h4⟩ | ⟨h1, h2, h3, h4⟩ | ⟨h1, h2, z, ⟨r, ⟨n, h3⟩, h4⟩, h5⟩ | ⟨h1, z, ⟨r, h2⟩, h3⟩
  · exact Or.inl ⟨c, hA c h1, k, h2, hB k h3, h4⟩
  · exact Or.inr (Or.inl ⟨p, h1, h2, hA p h3, h4⟩)
  · exact Or.inr (Or.inr (Or.inl ⟨h1, h2, hA _ h3, hA _ h4⟩))
  · exact Or.inr (Or.inr (Or.inr (Or.inl ⟨h1, h2, z, ⟨r, ⟨n, hu n r _ h3⟩, hK r z h4⟩, hz r z h4 _ h5⟩)))
  · exact Or.inr (Or.inr (Or.inr (Or.inr ⟨h1, z, ⟨r, hK r z h2⟩, hz r z h2 _ h3⟩)))
theorem r_Km {O : o_T} {B B' : Nat → Prop} {A A' : Nat → Nat → Prop} {K K' : Nat → Nat → Nat → Prop} (hB : ∀ k, B k → B' k) {x : Nat} (hA : ∀ y, A x y → A' x y) (hK : ∀ r y, K x r y → K' x r y) (hz : ∀ r z, K x r z → ∀ s y, K z s y → K' z s y) {r y : Nat} (h : r_K O B A K x r y) : r_K O B' A' K' x r y := by
  have hu : ∀ n r s, o_us O B n r s → o_us O B' n r s := by
    intro n
    induction n with
    | zero => intro r s e; exact e
    | succ n ih =>
      rintro r s ⟨q, h1, k, h2, h3, h4⟩
      exact ⟨q, ih r q h1, k, h2, hB k h3, h4⟩
  rcases h with ⟨p, h1, h2, h3, h4⟩ | ⟨k, h1, h2, h3, h4, z, ⟨q, ⟨n, h5⟩, h6⟩, ⟨t, ⟨m, h7⟩, h8⟩⟩
  · exact Or.inl ⟨p, h1, h2, hA p h3, h4⟩
  · exact Or.inr ⟨k, h1, hB k h2, h3, h4, z, ⟨q, ⟨n, hu n _ _ h5⟩, hK q z h6⟩, ⟨t, ⟨m, hu m _ _ h7⟩, hz q z h6 t y h8⟩⟩
theorem s_mB {O : o_T} {B B' : Nat → Prop} (hB : ∀ k, B k → B' k) : ∀ k x, (∀ y, s_A O B k x y → s_A O B' k x y) ∧ (∀ r y, s_K O B k x r y → s_K O B' k x r y)
  | 0, x => ⟨fun _ h => h, fun _ _ h => h⟩
  | k + 1, x => by
    obtain ⟨i1, i2⟩ := s_mB hB k x
    refine ⟨fun y h => ?_, fun r y h => ?_⟩
    · rcases h with h | h
      · exact Or.inl (i1 y h)
      · exact Or.inr (r_Am hB i1 i2 (fun r z _ => (s_mB hB k z).1) h)
    · rcases h with h | h
      · exact Or.inl (i2 r y h)
      · exact Or.inr (r_Km hB i1 i2 (fun r z _ => (s_mB hB k z).2) h)
theorem l_mA {O : o_T} {B B' : Nat → Prop} (hB : ∀ k, B k → B' k) {x y : Nat} (h : l_A O B x y) : l_A O B' x y := by
  obtain ⟨k, hk⟩ := h
  exact ⟨k, (s_mB hB k x).1 y hk⟩
theorem l_mK {O : o_T} {B B' : Nat → Prop} (hB : ∀ k, B k → B' k) {x r y : Nat} (h : l_K O B x r y) : l_K O B' x r y := by
  obtain ⟨k, hk⟩ := h
  exact ⟨k, (s_mB hB k x).2 r y hk⟩
theorem l_mb {O : o_T} {B B' : Nat → Prop} (hB : ∀ k, B k → B' k) {x y : Nat} (h : l_be O B x y) : l_be O B' x y := h.imp (l_mA hB) (l_mA hB)
/-- what they come to is closed -/
theorem l_cA {O : o_T} {B : Nat → Prop} {x y : Nat} (h : r_A O B (l_A O B) (l_K O B) x y) : l_A O B x y := by
  rcases h with ⟨c, ⟨k, h1⟩, h2⟩ | ⟨p, h1, h2, ⟨k, h3⟩, h4⟩ | ⟨h1, h2, ⟨k, h3⟩, ⟨j, h4⟩⟩ | ⟨h1, h2, z, ⟨r, h3, ⟨k, h4⟩⟩, ⟨j, h5⟩⟩ | ⟨h1, z, ⟨r, ⟨k, h2⟩⟩, ⟨j, h3⟩⟩
  · exact ⟨k + 1, Or.inr (Or.inl ⟨c, h1, h2⟩)⟩
  · exact ⟨k + 1, Or.inr (Or.inr (Or.inl ⟨p, h1, h2, h3, h4⟩))⟩
  · exact ⟨k + j + 1, Or.inr (Or.inr (Or.inr (Or.inl ⟨h1, h2, s_Am (by omega) h3, s_Am (by omega) h4⟩)))⟩
  · exact ⟨k + j + 1, Or.inr (Or.inr (Or.inr (Or.inr (Or.inl ⟨h1, h2, z, ⟨r, h3, s_Km (by omega) h4⟩, s_Am (by omega) h5⟩))))⟩
  · exact ⟨k + j + 1, Or.inr (Or.inr (Or.inr (Or.inr (Or.inr ⟨h1, z, ⟨r, s_Km (by omega) h2⟩, s_Am (by omega) h3⟩))))⟩
theorem l_cK {O : o_T} {B : Nat → Prop} {x r y : Nat} (h : r_K O B (l_A O B) (l_K O B) x r y) : l_K O B x r y := by
  rcases h with ⟨p, h1, h2, ⟨k, h3⟩, h4⟩ | ⟨k, h1, h2, h3, h4, z, ⟨q, h5, ⟨i, h6⟩⟩, ⟨t, h7, ⟨j, h8⟩⟩⟩
  · exact ⟨k + 1, Or.inr (Or.inl ⟨p, h1, h2, h3, h4⟩)⟩
  · exact ⟨i + j + 1, Or.inr (Or.inr ⟨k, h1, h2, h3, h4, z, ⟨q, h5, s_Km (by omega) h6⟩, ⟨t, h7, s_Km (by omega) h8⟩⟩)⟩
theorem l_A0 (O : o_T) (B : Nat → Prop) (x : Nat) : l_A O B x x := ⟨0, Or.inl rfl⟩
theorem l_AT (O : o_T) (B : Nat → Prop) (x : Nat) : l_A O B x 0 := ⟨0, Or.inr rfl⟩
/-- what is closed over some parts, and over what they are linked to, holds all -/
theorem s_least {O : o_T} {B : Nat → Prop} {T : Nat → Prop} {A : Nat → Nat → Prop} {K : Nat → Nat → Nat → Prop} (h0 : ∀ x, T x → A x x ∧ A x 0) (hT : ∀ x r y, T x → K x r y → T y) (hA : ∀ x y, T x → r_A O B A K x y → A x y) (hK : ∀ x r y, T x → r_K O B A K x r y → K x r y) : ∀ k x, T x → (∀ y, s_A O B k x y → A x y) ∧ (∀ r y, s_K O B k x r y → K x r y)
  | 0, x, hx => ⟨fun y h => by
      rcases h with rfl | rfl
      · exact (h0 _ hx).1
      · exact (h0 _ hx).2, fun _ _ h => absurd h (by intro q; exact q)⟩
  | k + 1, x, hx => by
    obtain ⟨i1, i2⟩ := s_least h0 hT hA hK k x hx
    refine ⟨fun y h => ?_, fun r y h => ?_⟩
    · rcases h with h | h
      · exact i1 y h
      · exact hA x y hx (r_Am (fun _ q => q) i1 i2 (fun r z q => (s_least h0 hT hA hK k z (hT x r z hx (i2 r z q))).1) h)
    · rcases h with h | h
      · exact i2 r y h
      · exact hK x r y hx (r_Km (fun _ q => q) i1 i2 (fun r z q => (s_least h0 hT hA hK k z (hT x r z hx (i2 r z q))).2) h)
/-- within the parts -/
theorem o_imd {O : o_T} {B : Nat → Prop} (ok : o_ok O) {c d : Nat} (h : o_im O B c d) : c < o_P O ∧ d < o_P O := by
  obtain ⟨-, -, -, -, -, -, -, -, hA, -⟩ := ok
  obtain ⟨k, hk, -, h⟩ := h
  have q := hA k hk
  unfold o_okA at q
  omega
theorem o_dd {O : o_T} {B : Nat → Prop} (ok : o_ok O) {c d : Nat} (h : o_di O B c d) : c < o_R O ∧ d < o_R O := by
  obtain ⟨-, -, -, -, -, -, -, -, hA, -⟩ := ok
  obtain ⟨k, hk, -, h⟩ := h
  have q := hA k hk
  unfold o_okA at q
  omega
theorem o_usd {O : o_T} {B : Nat → Prop} (ok : o_ok O) {n r s : Nat} (h : o_us O B n r s) (hr : r < o_R O) : s < o_R O := by
  cases n with
  | zero => exact h ▸ hr
  | succ n =>
    obtain ⟨q, -, h⟩ := h
    exact (o_dd ok h).2
theorem o_uns {O : o_T} {B : Nat → Prop} (ok : o_ok O) {r s : Nat} (h : o_un O B r s) (hs : s < o_R O) : r < o_R O := by
  obtain ⟨n, h⟩ := h
  induction n generalizing s with
  | zero => exact h ▸ hs
  | succ n ih =>
    obtain ⟨q, h1, h2⟩ := h
    exact ih (o_dd ok h2).1 h1
theorem r_Ad {O : o_T} {B : Nat → Prop} (ok : o_ok O) {A : Nat → Nat → Prop} {K : Nat → Nat → Nat → Prop} {x y : Nat} (h : r_A O B A K x y) : y < o_P O := by
  rcases h with ⟨c, -, h⟩ | ⟨p, h1, h2, -, h4⟩ | ⟨h, -⟩ | ⟨h, -⟩ | ⟨h, -⟩
  · exact (o_imd ok h).2
  · obtain ⟨-, -, -, -, -, -, -, hP, -, -⟩ := ok
    have q := hP p h1
    unfold o_okP at q
    omega
  · exact h
  · exact h
  · obtain ⟨-, -, h2, -⟩ := ok
    omega
theorem r_Kd {O : o_T} {B : Nat → Prop} (ok : o_ok O) {A : Nat → Nat → Prop} {K : Nat → Nat → Nat → Prop} {x r y : Nat} (hK : ∀ x r y, K x r y → y < o_P O) (h : r_K O B A K x r y) : r < o_R O ∧ y < o_P O := by
  rcases h with ⟨p, h1, h2, -, h4⟩ | ⟨k, h1, h2, h3, h4, z, -, ⟨t, h7, h8⟩⟩
  · obtain ⟨-, -, -, -, -, -, -, hP, -, -⟩ := ok
    have q := hP p h1
    unfold o_okP at q
    omega
  · obtain ⟨-, -, -, -, -, -, -, -, hA, -⟩ := ok
    have q := hA k h1
    unfold o_okA at q
    have := hK _ _ _ h8
    omega
theorem s_Kd {O : o_T} {B : Nat → Prop} (ok : o_ok O) : ∀ {k x r y : Nat}, s_K O B k x r y → r < o_R O ∧ y < o_P O
  | 0, _, _, _, h => absurd h (by intro q; exact q)
  | k + 1, x, r, y, h => by
    rcases h with h | h
    · exact s_Kd ok h
    · exact r_Kd ok (fun x r y q => (s_Kd ok (k := k) q).2) h
theorem s_Ad {O : o_T} {B : Nat → Prop} (ok : o_ok O) : ∀ {k x y : Nat}, x < o_P O → s_A O B k x y → y < o_P O
  | 0, x, y, hx, h => by
    have h2 := ok.2.2.1
    rcases h with rfl | rfl
    · exact hx
    · omega
  | k + 1, x, y, hx, h => by
    rcases h with h | h
    · exact s_Ad ok hx h
    · exact r_Ad ok h
theorem l_Ad {O : o_T} {B : Nat → Prop} (ok : o_ok O) {x y : Nat} (hx : x < o_P O) (h : l_A O B x y) : y < o_P O := by
  obtain ⟨k, h⟩ := h
  exact s_Ad ok hx h
theorem l_Kd {O : o_T} {B : Nat → Prop} (ok : o_ok O) {x r y : Nat} (h : l_K O B x r y) : r < o_R O ∧ y < o_P O := by
  obtain ⟨k, h⟩ := h
  exact s_Kd ok h
/-- round k + 1 brings nothing -/
def s_end (O : o_T) (B : Nat → Prop) (k : Nat) : Prop := ∀ x, x < o_P O → (∀ y, s_A O B (k + 1) x y → s_A O B k x y) ∧ (∀ r y, s_K O B (k + 1) x r y → s_K O B k x r y)
/-- there are k rounds -/
def s_rds (O : o_T) (B : Nat → Prop) (k : Nat) : Prop := s_end O B k ∧ ∀ j, j < k → ¬ s_end O B j
theorem s_rds1 {O : o_T} {B : Nat → Prop} {k j : Nat} (h1 : s_rds O B k) (h2 : s_rds O B j) : k = j := by
  rcases Nat.lt_trichotomy k j with h | h | h
  · exact absurd h1.1 (h2.2 k h)
  · exact h
  · exact absurd h2.1 (h1.2 j h)
theorem s_all {O : o_T} {B : Nat → Prop} (ok : o_ok O) {k : Nat} (h : s_end O B k) {x : Nat} (hx : x < o_P O) : (∀ y, l_A O B x y ↔ s_A O B k x y) ∧ (∀ r y, l_K O B x r y ↔ s_K O B k x r y) := by
  have q : ∀ j x, x < o_P O → (∀ y, s_A O B j x y → s_A O B k x y) ∧ (∀ r y, s_K O B j x r y → s_K O B k x r y) :=
    s_least (T := fun x => x < o_P O) (fun x _ => ⟨s_Am (Nat.zero_le k) (Or.inl rfl), s_Am (Nat.zero_le k) (Or.inr rfl)⟩) (fun x r y _ h => (s_Kd ok h).2) (fun x y hx h' => (h x hx).1 y (Or.inr h')) (fun x r y hx h' => (h x hx).2 r y (Or.inr h'))
  exact ⟨fun y => ⟨fun ⟨j, hj⟩ => (q j x hx).1 y hj, fun h => ⟨k, h⟩⟩, fun r y => ⟨fun ⟨j, hj⟩ => (q j x hx).2 r y hj, fun h => ⟨k, h⟩⟩⟩
