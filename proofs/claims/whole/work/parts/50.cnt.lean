/-! ===== counting; chains of growing sets; under ===== -/
noncomputable def ct (p : Nat → Prop) : Nat → Nat
  | 0 => 0
  | n + 1 => ct p n + @ite Nat (p n) (Classical.propDecidable _) 1 0
theorem ct_le (p : Nat → Prop) : ∀ n, ct p n ≤ n
  | 0 => Nat.le_refl 0
  | n + 1 => by
    have := ct_le p n
    rw [ct]
    split <;> omega
theorem ct_mono {p q : Nat → Prop} : ∀ {n : Nat}, (∀ k, k < n → p k → q k) → ct p n ≤ ct q n
  | 0, _ => Nat.le_refl 0
  | n + 1, h => by
    have i := ct_mono (n := n) (fun k hk => h k (by omega))
    have j := h n (by omega)
    rw [ct, ct]
    by_cases hp : p n
    · rw [if_pos hp, if_pos (j hp)]; omega
    · rw [if_neg hp]; omega
theorem ct_lt {p q : Nat → Prop} : ∀ {n : Nat}, (∀ k, k < n → p k → q k) → (∃ k, k < n ∧ q k ∧ ¬ p k) → ct p n < ct q n
  | 0, _, ⟨k, h, _⟩ => absurd h (Nat.not_lt_zero k)
  | n + 1, h, ⟨k, h1, h2, h3⟩ => by
    have i := ct_mono (n := n) (fun k hk => h k (by omega))
    have j := h n (by omega)
    rw [ct, ct]
    by_cases e : k = n
    · subst e
      rw [if_neg h3, if_pos h2]; omega
    · have i2 := ct_lt (n := n) (fun k hk => h k (by omega)) ⟨k, by omega, h2, h3⟩
      by_cases hp : p n
      · rw [if_pos hp, if_pos (j hp)]; omega
      · rw [if_neg hp]; omega
theorem ct_chain {N : Nat} (P : Nat → Nat → Prop) (mono : ∀ n k, P n k → P (n + 1) k) : ∀ M, (∀ n, n < M → ∃ k, k < N ∧ P (n + 1) k ∧ ¬ P n k) → ct (P 0) N + M ≤ ct (P M) N
  | 0, _ => Nat.le_refl _
  | M + 1, h => by
    have i := ct_chain P mono M (fun n hn => h n (by omega))
    have j := ct_lt (fun k _ => mono M k) (h M (by omega))
    omega
/-- a chain of growing sets within N comes to a stand by its N-th step -/
theorem ct_stand {N : Nat} (P : Nat → Nat → Prop) (mono : ∀ n k, P n k → P (n + 1) k) : ∃ n, n ≤ N - ct (P 0) N ∧ ∀ k, k < N → P (n + 1) k → P n k := by
  apply Classical.byContradiction
  intro h
  have q := ct_chain P mono (N - ct (P 0) N + 1) (fun n hn => by
    apply Classical.byContradiction
    intro g
    exact h ⟨n, by omega, fun k hk a => Classical.byContradiction (fun b => g ⟨k, hk, a, b⟩)⟩)
  have := ct_le (P (N - ct (P 0) N + 1)) N
  have := ct_le (P 0) N
  omega
theorem ct_pos {p : Nat → Prop} {n k : Nat} (hk : k < n) (h : p k) : 0 < ct p n := by
  have q : ct (fun _ => False) n < ct p n := ct_lt (fun _ _ f => f.elim) ⟨k, hk, h, id⟩
  omega
theorem o_us_tr {O : o_T} {B : Nat → Prop} {n m a b c : Nat} (h1 : o_us O B n a b) (h2 : o_us O B m b c) : o_us O B (n + m) a c := by
  induction m generalizing c with
  | zero => exact h2 ▸ h1
  | succ m ih =>
    obtain ⟨q, h3, h4⟩ := h2
    exact ⟨q, ih h3, h4⟩
theorem o_un_tr {O : o_T} {B : Nat → Prop} {a b c : Nat} (h1 : o_un O B a b) (h2 : o_un O B b c) : o_un O B a c := by
  obtain ⟨n, h1⟩ := h1
  obtain ⟨m, h2⟩ := h2
  exact ⟨n + m, o_us_tr h1 h2⟩
theorem o_un_r (O : o_T) (B : Nat → Prop) (a : Nat) : o_un O B a a := ⟨0, rfl⟩
theorem o_un_d {O : o_T} {B : Nat → Prop} {a b : Nat} (h : o_di O B a b) : o_un O B a b := ⟨1, a, rfl, h⟩
theorem o_un_m {O : o_T} {B B' : Nat → Prop} (hB : ∀ k, B k → B' k) {r s : Nat} (h : o_un O B r s) : o_un O B' r s := by
  obtain ⟨n, h⟩ := h
  refine ⟨n, ?_⟩
  induction n generalizing s with
  | zero => exact h
  | succ n ih =>
    obtain ⟨q, h1, k, h2, h3, h4⟩ := h
    exact ⟨q, ih h1, k, h2, hB k h3, h4⟩
/-- seven steps are enough -/
theorem o_un_7 {O : o_T} {B : Nat → Prop} (ok : o_ok O) {r s : Nat} (hr : r < o_R O) (h : o_un O B r s) : ∃ n, n ≤ 7 ∧ o_us O B n r s := by
  have hR := ok.2.1
  obtain ⟨n, hn, hst⟩ := ct_stand (N := 8) (fun n q => ∃ m, m ≤ n ∧ o_us O B m r q) (fun n k ⟨m, h1, h2⟩ => ⟨m, by omega, h2⟩)
  have h0 : 0 < ct (fun q => ∃ m, m ≤ 0 ∧ o_us O B m r q) 8 := ct_pos (k := r) (by omega) ⟨0, Nat.le_refl 0, rfl⟩
  have key : ∀ k q, o_us O B k r q → ∃ m, m ≤ n ∧ o_us O B m r q := by
    intro k
    induction k with
    | zero => intro q e; exact ⟨0, Nat.zero_le _, e⟩
    | succ k ih =>
      rintro q ⟨p, h1, h2⟩
      obtain ⟨m, h3, h4⟩ := ih p h1
      have hq := (o_dd ok h2).2
      exact hst q (by omega) ⟨m + 1, by omega, p, h4, h2⟩
  obtain ⟨k, h⟩ := h
  obtain ⟨m, h1, h2⟩ := key k s h
  exact ⟨m, by omega, h2⟩
/-- facts as one row of numbers -/
def s_f (A : Nat → Nat → Prop) (K : Nat → Nat → Nat → Prop) (i : Nat) : Prop := (i < 3600 ∧ A (i / 60) (i % 60)) ∨ (3600 ≤ i ∧ K ((i - 3600) / 480) ((i - 3600) / 60 % 8) ((i - 3600) % 60))
theorem s_fA {A : Nat → Nat → Prop} {K : Nat → Nat → Nat → Prop} {x y : Nat} (hx : x < 60) (hy : y < 60) : s_f A K (x * 60 + y) ↔ A x y := by
  have e1 : (x * 60 + y) / 60 = x := by omega
  have e2 : (x * 60 + y) % 60 = y := by omega
  unfold s_f
  rw [e1, e2]
  exact ⟨fun h => h.elim And.right (fun q => by omega), fun h => Or.inl ⟨by omega, h⟩⟩
theorem s_fK {A : Nat → Nat → Prop} {K : Nat → Nat → Nat → Prop} {x r y : Nat} (hx : x < 60) (hr : r < 8) (hy : y < 60) : s_f A K (3600 + (x * 8 + r) * 60 + y) ↔ K x r y := by
  have e1 : (3600 + (x * 8 + r) * 60 + y - 3600) / 480 = x := by omega
  have e2 : (3600 + (x * 8 + r) * 60 + y - 3600) / 60 % 8 = r := by omega
  have e3 : (3600 + (x * 8 + r) * 60 + y - 3600) % 60 = y := by omega
  unfold s_f
  rw [e1, e2, e3]
  exact ⟨fun h => h.elim (fun q => by omega) And.right, fun h => Or.inr ⟨by omega, h⟩⟩
theorem s_fm {A A' : Nat → Nat → Prop} {K K' : Nat → Nat → Nat → Prop} (hA : ∀ x y, A x y → A' x y) (hK : ∀ x r y, K x r y → K' x r y) (i : Nat) : s_f A K i → s_f A' K' i := fun h => h.imp (fun q => ⟨q.1, hA _ _ q.2⟩) (fun q => ⟨q.1, hK _ _ _ q.2⟩)
/-- how many facts there are -/
noncomputable def s_ct (A : Nat → Nat → Prop) (K : Nat → Nat → Nat → Prop) : Nat := ct (s_f A K) 32400
theorem s_ctle (A : Nat → Nat → Prop) (K : Nat → Nat → Nat → Prop) : s_ct A K ≤ 32400 := ct_le _ _
theorem s_ctm {A A' : Nat → Nat → Prop} {K K' : Nat → Nat → Nat → Prop} (hA : ∀ x y, A x y → A' x y) (hK : ∀ x r y, K x r y → K' x r y) : s_ct A K ≤ s_ct A' K' := ct_mono (fun i _ => s_fm hA hK i)
theorem s_ctA {A A' : Nat → Nat → Prop} {K K' : Nat → Nat → Nat → Prop} (hA : ∀ x y, A x y → A' x y) (hK : ∀ x r y, K x r y → K' x r y) {x y : Nat} (hx : x < 60) (hy : y < 60) (h1 : A' x y) (h2 : ¬ A x y) : s_ct A K < s_ct A' K' := ct_lt (fun i _ => s_fm hA hK i) ⟨x * 60 + y, by omega, (s_fA hx hy).mpr h1, fun q => h2 ((s_fA hx hy).mp q)⟩
theorem s_ctK {A A' : Nat → Nat → Prop} {K K' : Nat → Nat → Nat → Prop} (hA : ∀ x y, A x y → A' x y) (hK : ∀ x r y, K x r y → K' x r y) {x r y : Nat} (hx : x < 60) (hr : r < 8) (hy : y < 60) (h1 : K' x r y) (h2 : ¬ K x r y) : s_ct A K < s_ct A' K' := ct_lt (fun i _ => s_fm hA hK i) ⟨3600 + (x * 8 + r) * 60 + y, by omega, (s_fK hx hr hy).mpr h1, fun q => h2 ((s_fK hx hr hy).mp q)⟩
/-- the rounds end -/
theorem s_stops {O : o_T} (B : Nat → Prop) (ok : o_ok O) : ∃ k, k ≤ 32400 ∧ s_rds O B k := by
  obtain ⟨n, hn, hst⟩ := ct_stand (N := 32400) (fun n => s_f (s_A O B n) (s_K O B n)) (fun n k => s_fm (fun x y => s_Am (by omega)) (fun x r y => s_Km (by omega)) k)
  have hP := ok.2.2.2.1
  have hR := ok.2.1
  have he : s_end O B n := by
    intro x hx
    refine ⟨fun y h => ?_, fun r y h => ?_⟩
    · have hy := s_Ad ok hx h
      exact (s_fA (by omega) (by omega)).mp (hst (x * 60 + y) (by omega) ((s_fA (by omega) (by omega)).mpr h))
    · have hy := s_Kd ok h
      exact (s_fK (by omega) (by omega) (by omega)).mp (hst (3600 + (x * 8 + r) * 60 + y) (by omega) ((s_fK (by omega) (by omega) (by omega)).mpr h))
  obtain ⟨k, h1, h2⟩ := pk_least (fun k => s_end O B k) ⟨n, he⟩
  refine ⟨k, ?_, h1, h2⟩
  have := ct_le (fun i => s_f (s_A O B 0) (s_K O B 0) i) 32400
  rcases Nat.lt_or_ge n k with q | q
  · exact absurd he (h2 n q)
  · omega
