/-! ===== words: letters, packed and coded ===== -/
def pkN (c : Nat → Nat) : Nat → Nat
  | 0 => 0
  | i + 1 => pkN c i * 256 + (c i + 96)
def cdw (c : Nat → Nat) : Nat → Nat
  | 0 => 0
  | i + 1 => cdw c i * 27 + c i
def wOK (c : Nat → Nat) (m : Nat) : Prop := 1 ≤ m ∧ m ≤ 6 ∧ (∀ j, j < m → 1 ≤ c j ∧ c j ≤ 26) ∧ ∀ j, m ≤ j → c j = 0
noncomputable def wlf (c : Nat → Nat) : Nat := lm (fun m => c m = 0)
theorem wOK_l {c : Nat → Nat} {m : Nat} (h : wOK c m) : wlf c = m := lm_e (h.2.2.2 m (Nat.le_refl _)) (fun j hj e => by
  have := (h.2.2.1 j hj).1
  omega)
theorem wOK_26 {c : Nat → Nat} {m : Nat} (h : wOK c m) (j : Nat) : c j ≤ 26 := by
  rcases Nat.lt_or_ge j m with q | q
  · exact (h.2.2.1 j q).2
  · rw [h.2.2.2 j q]
    omega
theorem pkN_d {c : Nat → Nat} (hc : ∀ j, c j ≤ 26) (m : Nat) : ∀ j, j ≤ m → pkN c m / 256 ^ j = pkN c (m - j)
  | 0, _ => by rw [Nat.pow_zero, Nat.div_one, Nat.sub_zero]
  | j + 1, h => by
    rw [Nat.pow_succ, ← Nat.div_div_eq_div_mul, pkN_d hc m j (by omega)]
    obtain ⟨t, ht⟩ : ∃ t, m - j = t + 1 := ⟨m - j - 1, by omega⟩
    rw [ht, show m - (j + 1) = t by omega, pkN]
    have := hc t
    omega
theorem pkN_m {c : Nat → Nat} (hc : ∀ j, c j ≤ 26) (t : Nat) : pkN c (t + 1) % 256 = c t + 96 := by
  rw [pkN]
  have := hc t
  omega
theorem pkN_l {c : Nat → Nat} (hc : ∀ j, c j ≤ 26) : ∀ m, pkN c m < 256 ^ m
  | 0 => Nat.zero_lt_one
  | m + 1 => by
    have := pkN_l hc m
    have := hc m
    rw [pkN, Nat.pow_succ]
    omega
theorem pkN_6 {c : Nat → Nat} (hc : ∀ j, c j ≤ 26) {m : Nat} (hm : m ≤ 6) : pkN c m < 281474976710656 := Nat.lt_of_lt_of_le (pkN_l hc m) (by
  rw [show (281474976710656 : Nat) = 256 ^ 6 from rfl]
  exact Nat.pow_le_pow_right (by omega) hm)
theorem pkN_p (c : Nat → Nat) {m : Nat} (h : 0 < m) : 0 < pkN c m := by
  obtain ⟨t, rfl⟩ : ∃ t, m = t + 1 := ⟨m - 1, by omega⟩
  rw [pkN]
  omega
theorem cdw_l {c : Nat → Nat} (hc : ∀ j, c j ≤ 26) : ∀ m, cdw c m < 27 ^ m
  | 0 => Nat.zero_lt_one
  | m + 1 => by
    have := cdw_l hc m
    have := hc m
    rw [cdw, Nat.pow_succ]
    omega
theorem cdw_6 {c : Nat → Nat} (hc : ∀ j, c j ≤ 26) {m : Nat} (hm : m ≤ 6) : cdw c m < 387420489 := Nat.lt_of_lt_of_le (cdw_l hc m) (by
  rw [show (387420489 : Nat) = 27 ^ 6 from rfl]
  exact Nat.pow_le_pow_right (by omega) hm)
/-- both tell words apart -/
theorem cdw_i {c e : Nat → Nat} (hc : ∀ j, c j ≤ 26) (he : ∀ j, e j ≤ 26) : ∀ m, cdw c m = cdw e m → ∀ j, j < m → c j = e j
  | 0, _, j, hj => absurd hj (Nat.not_lt_zero j)
  | m + 1, h, j, hj => by
    rw [cdw, cdw] at h
    have h1 := hc m
    have h2 := he m
    by_cases q : j = m
    · subst q
      omega
    · exact cdw_i hc he m (by omega) j (by omega)
theorem pkN_i {c e : Nat → Nat} (hc : ∀ j, c j ≤ 26) (he : ∀ j, e j ≤ 26) : ∀ m n, pkN c m = pkN e n → m = n ∧ ∀ j, j < m → c j = e j
  | 0, 0, _ => ⟨rfl, fun j hj => absurd hj (Nat.not_lt_zero j)⟩
  | 0, n + 1, h => by
    rw [pkN, pkN] at h
    omega
  | m + 1, 0, h => by
    rw [pkN, pkN] at h
    omega
  | m + 1, n + 1, h => by
    rw [pkN, pkN] at h
    have h1 := hc m
    have h2 := he n
    obtain ⟨e1, e2⟩ := pkN_i hc he m n (by omega)
    subst e1
    refine ⟨rfl, fun j hj => ?_⟩
    by_cases q : j = m
    · subst q
      omega
    · exact e2 j (by omega)
theorem wOK_e {c e : Nat → Nat} {m n : Nat} (hc : wOK c m) (he : wOK e n) (h : ∀ j, j < 6 → c j = e j) : c = e := by
  funext j
  rcases Nat.lt_or_ge j 6 with q | q
  · exact h j q
  · have := hc.2.1
    have := he.2.1
    rw [hc.2.2.2 j (by omega), he.2.2.2 j (by omega)]
theorem wOK_cd {c e : Nat → Nat} {m n : Nat} (hc : wOK c m) (he : wOK e n) : cdw c 6 = cdw e 6 ↔ c = e := ⟨fun h => wOK_e hc he (cdw_i (wOK_26 hc) (wOK_26 he) 6 h), fun h => by rw [h]⟩
theorem wOK_pk {c e : Nat → Nat} {m n : Nat} (hc : wOK c m) (he : wOK e n) : pkN c m = pkN e n ↔ c = e := by
  constructor
  · intro h
    obtain ⟨e1, e2⟩ := pkN_i (wOK_26 hc) (wOK_26 he) m n h
    subst e1
    refine wOK_e hc he (fun j hj => ?_)
    rcases Nat.lt_or_ge j m with q | q
    · exact e2 j q
    · rw [hc.2.2.2 j q, he.2.2.2 j q]
  · intro h
    subst h
    rw [← wOK_l hc, ← wOK_l he]
theorem un_lN {n : Nat} (h : n < 18446744073709551616) : un (lN n) = n := by
  show (BitVec.ofNat 64 n).toNat = n
  rw [BitVec.toNat_ofNat]
  exact Nat.mod_eq_of_lt h
theorem un_0 {w : Int64} : w = 0 ↔ un w = 0 := ⟨fun h => by rw [h]; rfl, fun h => Int64.toBitVec_inj.mp (BitVec.eq_of_toNat_eq h)⟩
theorem un_ext {a b : Int64} (h : un a = un b) : a = b := Int64.toBitVec_inj.mp (BitVec.eq_of_toNat_eq h)
theorem lN_e {a b : Nat} (ha : a < 18446744073709551616) (hb : b < 18446744073709551616) : lN a = lN b ↔ a = b := ⟨fun h => by rw [← un_lN ha, ← un_lN hb, h], fun h => by rw [h]⟩
theorem n_and255 (x : Nat) : x &&& 255 = x % 256 := Nat.and_two_pow_sub_one_eq_mod x 8
theorem n_8m (a : Nat) : 8 * nI a = nI (8 * a) := pk_mul 8 a
/-- the words of the class's row of words at w: numbers n, words W -/
def WoR (h : am_H) (w n : Nat) (W : Nat → Nat → Nat) : Prop := ∀ k, k < n → ∃ m, wOK (W k) m ∧ am_L h (w + 1) k = lN (pkN (W k) m)
def WoA (h : am_H) (w : Nat) : Prop := am_kd h w 6 = true ∧ am_P h w 1 = some (w + 1) ∧ (am_S h)[w + 1]? = some (10, 24)
theorem Wo_ar {h : am_H} {w : Nat} (H : WoA h w) {k : Nat} (hk : k < 24) (f : Nat → Option am_R) : am_ar h 10 (w + 1) (nI k) f = f k := ar_n H.2.2 hk (by omega) f
theorem sh_m : ∀ m, m < 7 → ∀ i, i < m → 8 * ((nI m - 1) - nI i) = nI (8 * (m - 1 - i)) := by decide +kernel
theorem Wo_letter {h : am_H} {w n k : Nat} {W : Nat → Nat → Nat} (H : WoA h w) (h2 : am_I h w 2 = nI n) (hn : n ≤ 24) (R : WoR h w n W) (hk : k < n) (i : Int32) (d : Nat) : f_Wo_letterAt d h w (nI k) i = some (.inr (some (.int (@ite _ (vi (wlf (W k)) i) (Classical.propDecidable _) (nI (W k i.toNatClampNeg + 96)) (-1)))), h) := by
  obtain ⟨m, hm, eL⟩ := R k hk
  have c26 := wOK_26 hm
  have p6 := pkN_6 c26 hm.2.1
  have hm6 := hm.2.1
  rw [wOK_l hm]
  have sh : ∀ L, L < 7 → un (am_lushr (lN (pkN (W k) m)) (8 * nI L)) = pkN (W k) m / 256 ^ L := fun L hL => by
    rw [n_8m, un_shr _ _ (by omega), un_lN (by omega), Nat.pow_mul]
  have fin : f_Wo_letterAt_26 d h w (nI k) i (nI m) = some (.inr (some (.int (@ite _ (vi m i) (Classical.propDecidable _) (nI (W k i.toNatClampNeg + 96)) (-1)))), h) ∨ ¬ (∃ t, t < 6 ∧ i = nI t) := by
    by_cases vt : ∃ t, t < 6 ∧ i = nI t
    · refine Or.inl ?_
      obtain ⟨t, ht, rfl⟩ := vt
      have z0 : am_lushr (lN (pkN (W k) m)) (8 * nI m) = 0 := by
        rw [un_0, sh m (by omega), pkN_d c26 m m (Nat.le_refl _), Nat.sub_self]
        rfl
      have val : t < m → (Int64.toInt32 (am_lushr (lN (pkN (W k) m)) (8 * ((nI m - 1) - nI t)))) &&& 255 = nI (W k t + 96) := fun q => by
        have := c26 t
        apply ui_ext
        rw [ui_and, un_toI, show ui 255 = 255 from by decide, n_and255, Nat.mod_mod_of_dvd _ (by decide : 256 ∣ 4294967296), sh_m m (by omega) t q, ← n_8m, sh (m - 1 - t) (by omega), pkN_d c26 m _ (by omega), show m - (m - 1 - t) = t + 1 by omega, pkN_m c26]
        show _ = (nI (W k t + 96)).toBitVec.toNat
        rw [pk_tn (by omega)]
      rw [e_Wo_letterAt_26]
      simp (disch := first | assumption | omega) only [hc_gp, H.1, cond_true, H.2.1, hop_s, Wo_ar H, eL, lc_e, z0, if_true]
      have e1 : (if nI t < nI m then some (Sum.inr (some (Value.int (Int64.toInt32 (am_lushr (lN (pkN (W k) m)) (8 * (nI m - 1 - nI t))) &&& 255))), h) else some (Sum.inr (some (Value.int (-1))), h)) = (some (.inr (some (.int (@ite _ (vi m (nI t)) (Classical.propDecidable _) (nI (W k (nI t).toNatClampNeg + 96)) (-1)))), h) : Option am_R) := by
        by_cases q : t < m
        · rw [if_pos (by rw [n_lt _ _ (by omega) (by omega)]; exact q), if_pos ⟨t, q, rfl⟩, val q, nI_clamp (by omega)]
        · rw [if_neg (by rw [n_lt _ _ (by omega) (by omega)]; exact q), if_neg]
          rintro ⟨j, hj, ej⟩
          rw [nI_e32 (by omega) (by omega)] at ej
          omega
      by_cases c : (6 : Int32) ≤ nI m
      · rw [if_pos c]
        exact e1
      · rw [if_neg c]
        exact e1
    · exact Or.inr vt
  have lp : ∀ L, L ≤ m → f_Wo_letterAt_26 d h w (nI k) i (nI L) = f_Wo_letterAt_26 d h w (nI k) i (nI m) := by
    refine dn rfl ?_
    intro L hL ih
    have h6 : ¬ (6 : Int32) ≤ nI L := by
      rw [n_6, n_le _ _ (by omega) (by omega)]
      omega
    have nz : ¬ am_lushr (lN (pkN (W k) m)) (8 * nI L) = 0 := by
      rw [un_0, sh L (by omega), pkN_d c26 m L (by omega)]
      have := pkN_p (W k) (show 0 < m - L by omega)
      omega
    rw [e_Wo_letterAt_26]
    simp (disch := first | assumption | omega) only [h6, if_false, hc_gp, H.1, cond_true, H.2.1, hop_s, Wo_ar H, eL, lc_e, nz, nI_1]
    exact ih
  rw [e_Wo_letterAt, if_neg (nI_pos (by omega)), lz_i H.1 h2, if_neg (by rw [n_le _ _ (by omega) (by omega)]; omega)]
  by_cases vt : ∃ t, t < 6 ∧ i = nI t
  · rcases fin with e | e
    · have l0 := lp 0 (Nat.zero_le _)
      obtain ⟨t, ht, rfl⟩ := vt
      rw [if_neg (nI_pos (by omega)), if_pos (by rw [n_6, n_lt _ _ (by omega) (by omega)]; exact ht)]
      exact l0.trans e
    · exact absurd vt e
  · have no : ¬ vi m i := fun ⟨t, a, b⟩ => vt ⟨t, by omega, b⟩
    rw [if_neg no]
    by_cases c : i < 0
    · rw [if_pos c]
    · have := vi_n (n := 6) (by omega) (fun ⟨t, a, b⟩ => vt ⟨t, a, b⟩) c
      rw [if_neg c, n_6, if_neg this]
