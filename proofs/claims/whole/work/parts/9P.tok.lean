/-! ===== the text: blanks, letters, tokens ===== -/
noncomputable def sk (T : Nat → Nat) (n p : Nat) : Nat := p + lm (fun k => ¬ (p + k < n ∧ T (p + k) = 32))
noncomputable def lw (T : Nat → Nat) (n p : Nat) : Nat := lm (fun k => ¬ (p + k < n ∧ 97 ≤ T (p + k) ∧ T (p + k) ≤ 122))
theorem sk_l (T : Nat → Nat) (n p : Nat) : ¬ (sk T n p < n ∧ T (sk T n p) = 32) ∧ ∀ j, j < sk T n p - p → p + j < n ∧ T (p + j) = 32 := by
  have e : ∃ k, ¬ (p + k < n ∧ T (p + k) = 32) := ⟨n, fun q => by omega⟩
  obtain ⟨l1, l2⟩ := lm_s e
  refine ⟨l1, fun j hj => ?_⟩
  have hj2 : j < lm (fun k => ¬ (p + k < n ∧ T (p + k) = 32)) := by
    unfold sk at hj
    omega
  exact Classical.byContradiction (fun q => l2 j hj2 q)
theorem sk_ge (T : Nat → Nat) (n p : Nat) : p ≤ sk T n p := Nat.le_add_right _ _
theorem sk_in {T : Nat → Nat} {n p j : Nat} (h1 : p ≤ j) (h2 : j < sk T n p) : j < n ∧ T j = 32 := by
  have := (sk_l T n p).2 (j - p) (by omega)
  rw [show p + (j - p) = j by omega] at this
  exact this
theorem sk_le {T : Nat → Nat} {n p : Nat} (h : p ≤ n) : sk T n p ≤ n := by
  rcases Nat.lt_or_ge n (sk T n p) with q | q
  · have := (sk_in h q).1
    omega
  · exact q
theorem sk_u {T : Nat → Nat} {n p a : Nat} (h1 : p ≤ a) (h2 : ∀ j, p ≤ j → j < a → j < n ∧ T j = 32) (h3 : ¬ (a < n ∧ T a = 32)) : sk T n p = a := by
  rcases Nat.lt_trichotomy (sk T n p) a with q | q | q
  · exact absurd (h2 _ (sk_ge T n p) q) (sk_l T n p).1
  · exact q
  · exact absurd (sk_in h1 q) h3
theorem sk_m {T : Nat → Nat} {n p a : Nat} (h1 : p ≤ a) (h2 : a ≤ sk T n p) : sk T n a = sk T n p := sk_u h2 (fun j q r => sk_in (by omega) r) (sk_l T n p).1
theorem sk_k (T : Nat → Nat) (n p : Nat) : sk T n (sk T n p) = sk T n p := sk_m (sk_ge T n p) (Nat.le_refl _)
def sml (t : Nat) : Prop := 97 ≤ t ∧ t ≤ 122
theorem lw_l (T : Nat → Nat) (n p : Nat) : ¬ (p + lw T n p < n ∧ sml (T (p + lw T n p))) ∧ ∀ j, j < lw T n p → p + j < n ∧ sml (T (p + j)) := by
  have e : ∃ k, ¬ (p + k < n ∧ 97 ≤ T (p + k) ∧ T (p + k) ≤ 122) := ⟨n, fun q => by omega⟩
  obtain ⟨l1, l2⟩ := lm_s e
  exact ⟨l1, fun j hj => Classical.byContradiction (fun q => l2 j hj q)⟩
theorem lw_0 {T : Nat → Nat} {n p : Nat} (h : n ≤ p) : lw T n p = 0 := by
  rcases Nat.eq_zero_or_pos (lw T n p) with q | q
  · exact q
  · have := ((lw_l T n p).2 0 q).1
    omega
theorem lw_n {T : Nat → Nat} {n p : Nat} (h : p ≤ n) : p + lw T n p ≤ n := by
  rcases Nat.eq_zero_or_pos (lw T n p) with q | q
  · omega
  · have := ((lw_l T n p).2 (lw T n p - 1) (by omega)).1
    omega
/-- the word that stands at p -/
noncomputable def wd (T : Nat → Nat) (n p i : Nat) : Nat := if i < lw T n p then T (p + i) - 96 else 0
theorem wd_26 (T : Nat → Nat) (n p i : Nat) : wd T n p i ≤ 26 := by
  unfold wd
  by_cases c : i < lw T n p
  · have := ((lw_l T n p).2 i c).2
    unfold sml at this
    rw [if_pos c]
    omega
  · rw [if_neg c]
    omega
theorem wd_t {T : Nat → Nat} {n p i : Nat} (h : i < lw T n p) : wd T n p i + 96 = T (p + i) := by
  have := ((lw_l T n p).2 i h).2
  unfold sml at this
  unfold wd
  rw [if_pos h]
  omega
theorem wd_ok {T : Nat → Nat} {n p : Nat} (h1 : 0 < lw T n p) (h2 : lw T n p ≤ 6) : wOK (wd T n p) (lw T n p) := ⟨h1, h2, fun j hj => by
  have := wd_t hj
  have := ((lw_l T n p).2 j hj).2
  unfold sml at this
  omega, fun j hj => if_neg (by omega)⟩
def w_top (T : Nat → Nat) (n p : Nat) (L : Nat) : Prop := L = 3 ∧ T p = 116 ∧ T (p + 1) = 111 ∧ T (p + 2) = 112
def w_not (T : Nat → Nat) (n p : Nat) (L : Nat) : Prop := L = 7 ∧ T p = 110 ∧ T (p + 1) = 111 ∧ T (p + 2) = 116 ∧ T (p + 3) = 104 ∧ T (p + 4) = 105 ∧ T (p + 5) = 110 ∧ T (p + 6) = 103
def w_som (T : Nat → Nat) (n p : Nat) (L : Nat) : Prop := L = 4 ∧ T p = 115 ∧ T (p + 1) = 111 ∧ T (p + 2) = 109 ∧ T (p + 3) = 101
def sgk (c : Nat) : Nat := if c = 38 then 7 else if c = 40 then 5 else if c = 41 then 6 else if c = 42 then 10 else if c = 59 then 12 else if c = 60 then 8 else if c = 61 then 9 else 13
/-- the token that stands at p; where the text goes on behind it -/
noncomputable def tk (T : Nat → Nat) (n p : Nat) : Nat :=
  if n ≤ p then 0 else if 0 < lw T n p then @ite _ (w_top T n p (lw T n p)) (Classical.propDecidable _) 2 (@ite _ (w_not T n p (lw T n p)) (Classical.propDecidable _) 3 (@ite _ (w_som T n p (lw T n p)) (Classical.propDecidable _) 4 1)) else if T p = 60 ∧ p + 1 < n ∧ T (p + 1) = 60 then 11 else sgk (T p)
noncomputable def nx (T : Nat → Nat) (n p : Nat) : Nat := if n ≤ p then p else if 0 < lw T n p then p + lw T n p else if T p = 60 ∧ p + 1 < n ∧ T (p + 1) = 60 then p + 2 else p + 1
theorem nx_le {T : Nat → Nat} {n p : Nat} (h : p ≤ n) : nx T n p ≤ n ∧ p ≤ nx T n p ∧ (p < n → p < nx T n p) := by
  have := lw_n (T := T) h
  unfold nx
  by_cases c : n ≤ p
  · rw [if_pos c]
    omega
  · rw [if_neg c]
    by_cases c2 : 0 < lw T n p
    · rw [if_pos c2]
      omega
    · rw [if_neg c2]
      by_cases c3 : T p = 60 ∧ p + 1 < n ∧ T (p + 1) = 60
      · rw [if_pos c3]
        omega
      · rw [if_neg c3]
        omega
/-! signed bytes -/
theorem sb_lo : ∀ t, t < 128 → sbt t = nI t := by decide +kernel
theorem sb_hi : ∀ t, t < 128 → sbt (t + 128) = nI (t + 4294967168) := by decide +kernel
theorem sb_eq {t c : Nat} (ht : t < 256) (hc : c < 128) : (sbt t = nI c) = (t = c) := by
  apply propext
  rcases Nat.lt_or_ge t 128 with q | q
  · rw [sb_lo t q, nI_e32 (by omega) (by omega)]
  · obtain ⟨u, rfl⟩ : ∃ u, t = u + 128 := ⟨t - 128, by omega⟩
    rw [sb_hi u (by omega), nI_e32 (by omega) (by omega)]
    omega
theorem sb_lt : ∀ t, t < 256 → ((sbt t < 97) ↔ (t < 97 ∨ 128 ≤ t)) := by decide +kernel
theorem sb_gt : ∀ t, t < 256 → ((122 < sbt t) ↔ (122 < t ∧ t < 128)) := by decide +kernel
theorem Re_kS (h : am_H) {t : Nat} (ht : t < 256) (d : Nat) : f_Re_kindOfSign d h (sbt t) = some (.inr (some (.int (nI (sgk t)))), h) := by
  have key : ∀ c, c < 128 → ¬ t = c → ¬ sbt t = nI c := fun c hc e => by
    rw [sb_eq ht hc]
    exact e
  rw [e_Re_kindOfSign]
  by_cases e38 : t = 38
  · rw [if_pos (show sbt t = 38 from by rw [e38]; decide), e38]
    rfl
  rw [if_neg (show ¬ sbt t = 38 from key 38 (by omega) e38)]
  by_cases e39 : t = 39
  · rw [if_pos (show sbt t = 39 from by rw [e39]; decide), e39]
    rfl
  rw [if_neg (show ¬ sbt t = 39 from key 39 (by omega) e39)]
  by_cases e40 : t = 40
  · rw [if_pos (show sbt t = 40 from by rw [e40]; decide), e40]
    rfl
  rw [if_neg (show ¬ sbt t = 40 from key 40 (by omega) e40)]
  by_cases e41 : t = 41
  · rw [if_pos (show sbt t = 41 from by rw [e41]; decide), e41]
    rfl
  rw [if_neg (show ¬ sbt t = 41 from key 41 (by omega) e41)]
  by_cases e42 : t = 42
  · rw [if_pos (show sbt t = 42 from by rw [e42]; decide), e42]
    rfl
  rw [if_neg (show ¬ sbt t = 42 from key 42 (by omega) e42)]
  by_cases e43 : t = 43
  · rw [if_pos (show sbt t = 43 from by rw [e43]; decide), e43]
    rfl
  rw [if_neg (show ¬ sbt t = 43 from key 43 (by omega) e43)]
  by_cases e44 : t = 44
  · rw [if_pos (show sbt t = 44 from by rw [e44]; decide), e44]
    rfl
  rw [if_neg (show ¬ sbt t = 44 from key 44 (by omega) e44)]
  by_cases e45 : t = 45
  · rw [if_pos (show sbt t = 45 from by rw [e45]; decide), e45]
    rfl
  rw [if_neg (show ¬ sbt t = 45 from key 45 (by omega) e45)]
  by_cases e46 : t = 46
  · rw [if_pos (show sbt t = 46 from by rw [e46]; decide), e46]
    rfl
  rw [if_neg (show ¬ sbt t = 46 from key 46 (by omega) e46)]
  by_cases e47 : t = 47
  · rw [if_pos (show sbt t = 47 from by rw [e47]; decide), e47]
    rfl
  rw [if_neg (show ¬ sbt t = 47 from key 47 (by omega) e47)]
  by_cases e48 : t = 48
  · rw [if_pos (show sbt t = 48 from by rw [e48]; decide), e48]
    rfl
  rw [if_neg (show ¬ sbt t = 48 from key 48 (by omega) e48)]
  by_cases e49 : t = 49
  · rw [if_pos (show sbt t = 49 from by rw [e49]; decide), e49]
    rfl
  rw [if_neg (show ¬ sbt t = 49 from key 49 (by omega) e49)]
  by_cases e50 : t = 50
  · rw [if_pos (show sbt t = 50 from by rw [e50]; decide), e50]
    rfl
  rw [if_neg (show ¬ sbt t = 50 from key 50 (by omega) e50)]
  by_cases e51 : t = 51
  · rw [if_pos (show sbt t = 51 from by rw [e51]; decide), e51]
    rfl
  rw [if_neg (show ¬ sbt t = 51 from key 51 (by omega) e51)]
  by_cases e52 : t = 52
  · rw [if_pos (show sbt t = 52 from by rw [e52]; decide), e52]
    rfl
  rw [if_neg (show ¬ sbt t = 52 from key 52 (by omega) e52)]
  by_cases e53 : t = 53
  · rw [if_pos (show sbt t = 53 from by rw [e53]; decide), e53]
    rfl
  rw [if_neg (show ¬ sbt t = 53 from key 53 (by omega) e53)]
  by_cases e54 : t = 54
  · rw [if_pos (show sbt t = 54 from by rw [e54]; decide), e54]
    rfl
  rw [if_neg (show ¬ sbt t = 54 from key 54 (by omega) e54)]
  by_cases e55 : t = 55
  · rw [if_pos (show sbt t = 55 from by rw [e55]; decide), e55]
    rfl
  rw [if_neg (show ¬ sbt t = 55 from key 55 (by omega) e55)]
  by_cases e56 : t = 56
  · rw [if_pos (show sbt t = 56 from by rw [e56]; decide), e56]
    rfl
  rw [if_neg (show ¬ sbt t = 56 from key 56 (by omega) e56)]
  by_cases e57 : t = 57
  · rw [if_pos (show sbt t = 57 from by rw [e57]; decide), e57]
    rfl
  rw [if_neg (show ¬ sbt t = 57 from key 57 (by omega) e57)]
  by_cases e58 : t = 58
  · rw [if_pos (show sbt t = 58 from by rw [e58]; decide), e58]
    rfl
  rw [if_neg (show ¬ sbt t = 58 from key 58 (by omega) e58)]
  by_cases e59 : t = 59
  · rw [if_pos (show sbt t = 59 from by rw [e59]; decide), e59]
    rfl
  rw [if_neg (show ¬ sbt t = 59 from key 59 (by omega) e59)]
  by_cases e60 : t = 60
  · rw [if_pos (show sbt t = 60 from by rw [e60]; decide), e60]
    rfl
  rw [if_neg (show ¬ sbt t = 60 from key 60 (by omega) e60)]
  by_cases e61 : t = 61
  · rw [if_pos (show sbt t = 61 from by rw [e61]; decide), e61]
    rfl
  rw [if_neg (show ¬ sbt t = 61 from key 61 (by omega) e61)]
  unfold sgk
  rw [if_neg e38, if_neg e40, if_neg e41, if_neg e42, if_neg e59, if_neg e60, if_neg e61]
  rfl
/-! letters packed -/
theorem un_shl (w : Int64) {s : Nat} (hs : s < 64) : un (am_lshl w (nI s)) = un w * 2 ^ s % 18446744073709551616 := by
  unfold un am_lshl
  rw [wc_c s hs, Int64.toBitVec_shiftLeft]
  show (w.toBitVec <<< ((lN s).toBitVec.smod 64).toNat).toNat = _
  rw [wc_sm s hs, BitVec.toNat_shiftLeft, Nat.shiftLeft_eq]
theorem un_or (a b : Int64) : un (a ||| b) = un a ||| un b := by
  unfold un
  rw [Int64.toBitVec_or, BitVec.toNat_or]
theorem un_b : ∀ b, b < 128 → un (Int32.toInt64 (nI b)) = b := by decide +kernel
theorem un_pk (w : Int64) {b : Nat} (hb : b < 128) : un (am_lshl w 8 ||| Int32.toInt64 (sbt b)) = (un w * 256 + b) % 18446744073709551616 := by
  have e : un w * 2 ^ 8 % 18446744073709551616 = (un w % 72057594037927936) <<< 8 := by
    rw [Nat.shiftLeft_eq]
    omega
  rw [un_or, show (8 : Int32) = nI 8 from rfl, un_shl w (by omega), sb_lo b hb, un_b b hb, e, ← Nat.shiftLeft_add_eq_or_of_lt (show b < 2 ^ 8 by omega), ← e]
  omega
/-- the letters from p on, packed as the class packs them -/
def pkL (T : Nat → Nat) (p : Nat) : Nat → Int64
  | 0 => 0
  | i + 1 => am_lshl (pkL T p i) 8 ||| Int32.toInt64 (sbt (T (p + i)))
theorem pkL_s {T : Nat → Nat} {p : Nat} : ∀ i, i ≤ 7 → (∀ j, j < i → sml (T (p + j))) → ∀ c : Nat → Nat, (∀ j, j < i → c j + 96 = T (p + j)) → (∀ j, c j ≤ 26) → un (pkL T p i) = pkN c i ∧ pkN c i < 72057594037927936
  | 0, _, _, c, _, _ => ⟨rfl, by show (0 : Nat) < _; omega⟩
  | i + 1, h, hs, c, hc, hm => by
    obtain ⟨e, l⟩ := pkL_s i (by omega) (fun j hj => hs j (by omega)) c (fun j hj => hc j (by omega)) hm
    have h1 := hs i (by omega)
    have h2 := hc i (by omega)
    have h3 := hm i
    have pl := pkN_l hm i
    have pe : (256 : Nat) ^ i ≤ 256 ^ 6 := Nat.pow_le_pow_right (by omega) (by omega)
    rw [show (256 : Nat) ^ 6 = 281474976710656 from rfl] at pe
    unfold sml at h1
    rw [pkL, un_pk _ (by omega), e, pkN]
    omega
/-- of eight letters or more the highest byte is one of them -/
theorem pkL_8 {T : Nat → Nat} {p : Nat} : ∀ k, (∀ j, j < 8 + k → sml (T (p + j))) → ∀ m, m ≤ 8 → ∃ r, r < 256 ^ m ∧ (un (pkL T p (k + m)) = (un (pkL T p k) * 256 ^ m + r) % 18446744073709551616) ∧ (0 < m → 97 * 256 ^ (m - 1) ≤ r)
  | k, hs, 0, _ => ⟨0, by omega, by
      have := un_lt (pkL T p k)
      rw [Nat.pow_zero, Nat.mul_one, Nat.add_zero, Nat.add_zero, Nat.mod_eq_of_lt this], fun h => absurd h (Nat.lt_irrefl 0)⟩
  | k, hs, m + 1, h => by
    obtain ⟨r, r1, r2, r3⟩ := pkL_8 k hs m (by omega)
    have h1 := hs (k + m) (by omega)
    unfold sml at h1
    refine ⟨r * 256 + T (p + (k + m)), ?_, ?_, fun _ => ?_⟩
    · rw [Nat.pow_succ]
      omega
    · rw [← Nat.add_assoc k m 1, pkL, un_pk _ (by omega), r2, Nat.pow_succ, Nat.add_mod, Nat.mul_mod, Nat.mod_mod, ← Nat.mul_mod, ← Nat.add_mod, Nat.add_mul, Nat.mul_assoc, Nat.add_assoc]
    · rcases Nat.eq_zero_or_pos m with z | z
      · subst z
        rw [show 0 + 1 - 1 = 0 from rfl, Nat.pow_zero]
        omega
      · have := r3 z
        obtain ⟨t, rfl⟩ : ∃ t, m = t + 1 := ⟨m - 1, by omega⟩
        rw [show t + 1 + 1 - 1 = t + 1 from rfl, Nat.pow_succ]
        rw [show t + 1 - 1 = t from rfl] at this
        omega
theorem pkL_b {T : Nat → Nat} {p i : Nat} (h : 8 ≤ i) (hs : ∀ j, j < i → sml (T (p + j))) : 6989586621679009792 ≤ un (pkL T p i) := by
  obtain ⟨k, rfl⟩ : ∃ k, i = k + 8 := ⟨i - 8, by omega⟩
  obtain ⟨r, r1, r2, r3⟩ := pkL_8 (p := p) k (fun j hj => hs j (by omega)) 8 (Nat.le_refl _)
  have r4 := r3 (by omega)
  rw [show (256 : Nat) ^ 8 = 18446744073709551616 from rfl] at r1 r2
  rw [show (256 : Nat) ^ (8 - 1) = 72057594037927936 from rfl] at r4
  rw [r2, Nat.mul_comm, Nat.mul_add_mod, Nat.mod_eq_of_lt r1]
  omega
