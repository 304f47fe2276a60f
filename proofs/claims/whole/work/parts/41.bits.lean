/-! ===== bits of longs (xl) and ints (yi); words made of a predicate (wL, wI) ===== -/
theorem wc_c : ∀ k, k < 64 → ((nI k).toInt64 &&& 63) = lN k := by decide +kernel
theorem wc_cu : ∀ k, k < 64 → ((nI k).toInt64.toUInt64 &&& Int64.toUInt64 63) = UInt64.ofNat k := by decide +kernel
theorem wc_sm : ∀ k, k < 64 → ((lN k).toBitVec.smod 64).toNat = k := by decide +kernel
theorem wc_um : ∀ k, k < 64 → ((UInt64.ofNat k).toBitVec % 64).toNat = k := by decide +kernel
theorem wc_sl : ∀ n, n < 32 → ((nI n &&& 31).toBitVec.smod 32).toNat = n := by decide +kernel
theorem wc_su : ∀ n, n < 32 → (((nI n).toUInt32 &&& Int32.toUInt32 31).toBitVec % 32).toNat = n := by decide +kernel
def xl (w : Int64) (k : Nat) : Bool := w.toBitVec.getLsbD k
def yi (w : Int32) (k : Nat) : Bool := w.toBitVec.getLsbD k
theorem xl_ext {a b : Int64} (h : ∀ k, k < 64 → xl a k = xl b k) : a = b := Int64.toBitVec_inj.mp (BitVec.eq_of_getLsbD_eq (fun i hi => h i hi))
theorem yi_ext {a b : Int32} (h : ∀ k, k < 32 → yi a k = yi b k) : a = b := Int32.toBitVec_inj.mp (BitVec.eq_of_getLsbD_eq (fun i hi => h i hi))
theorem xl_or (a b : Int64) (k : Nat) : xl (a ||| b) k = (xl a k || xl b k) := by unfold xl; rw [Int64.toBitVec_or, BitVec.getLsbD_or]
theorem yi_or (a b : Int32) (k : Nat) : yi (a ||| b) k = (yi a k || yi b k) := by unfold yi; rw [Int32.toBitVec_or, BitVec.getLsbD_or]
theorem xl_and (a b : Int64) (k : Nat) : xl (a &&& b) k = (xl a k && xl b k) := by unfold xl; rw [Int64.toBitVec_and, BitVec.getLsbD_and]
theorem yi_and (a b : Int32) (k : Nat) : yi (a &&& b) k = (yi a k && yi b k) := by unfold yi; rw [Int32.toBitVec_and, BitVec.getLsbD_and]
theorem xl_xor (a b : Int64) (k : Nat) : xl (a ^^^ b) k = (xl a k ^^ xl b k) := by unfold xl; rw [Int64.toBitVec_xor, BitVec.getLsbD_xor]
theorem yi_xor (a b : Int32) (k : Nat) : yi (a ^^^ b) k = (yi a k ^^ yi b k) := by unfold yi; rw [Int32.toBitVec_xor, BitVec.getLsbD_xor]
theorem xl_big {w : Int64} {k : Nat} (h : 64 ≤ k) : xl w k = false := BitVec.getLsbD_of_ge _ _ h
theorem yi_big {w : Int32} {k : Nat} (h : 32 ≤ k) : yi w k = false := BitVec.getLsbD_of_ge _ _ h
theorem xl_lt {w : Int64} {k : Nat} (h : xl w k = true) : k < 64 := by
  rcases Nat.lt_or_ge k 64 with q | q
  · exact q
  · rw [xl_big q] at h; cases h
theorem yi_lt {w : Int32} {k : Nat} (h : yi w k = true) : k < 32 := by
  rcases Nat.lt_or_ge k 32 with q | q
  · exact q
  · rw [yi_big q] at h; cases h
theorem xl_0 (k : Nat) : xl 0 k = false := BitVec.getLsbD_zero
theorem yi_0 (k : Nat) : yi 0 k = false := BitVec.getLsbD_zero
theorem xl_m1 : ∀ k, k < 64 → xl (-1) k = true := by decide +kernel
theorem yi_m1 : ∀ k, k < 32 → yi (-1) k = true := by decide +kernel
theorem xl_not (w : Int64) {k : Nat} (h : k < 64) : xl (w ^^^ (-1)) k = !xl w k := by rw [xl_xor, xl_m1 k h, Bool.xor_true]
theorem yi_not (w : Int32) {k : Nat} (h : k < 32) : yi (w ^^^ (-1)) k = !yi w k := by rw [yi_xor, yi_m1 k h, Bool.xor_true]
theorem xl_1 (k : Nat) : xl 1 k = decide (k = 0) := by
  rcases Nat.lt_or_ge k 64 with h | h
  · exact (by decide +kernel : ∀ i, i < 64 → xl 1 i = decide (i = 0)) k h
  · rw [xl_big h, decide_eq_false (by omega)]
theorem xl_2 (k : Nat) : xl 2 k = decide (k = 1) := by
  rcases Nat.lt_or_ge k 64 with h | h
  · exact (by decide +kernel : ∀ i, i < 64 → xl 2 i = decide (i = 1)) k h
  · rw [xl_big h, decide_eq_false (by omega)]
theorem yi_1 (k : Nat) : yi 1 k = decide (k = 0) := by
  rcases Nat.lt_or_ge k 32 with h | h
  · exact (by decide +kernel : ∀ i, i < 32 → yi 1 i = decide (i = 0)) k h
  · rw [yi_big h, decide_eq_false (by omega)]
theorem xl_eq0 {w : Int64} : w = 0 ↔ ∀ k, k < 64 → xl w k = false := ⟨fun h k _ => by rw [h, xl_0], fun h => xl_ext (fun k hk => by rw [h k hk, xl_0])⟩
theorem yi_eq0 {w : Int32} : w = 0 ↔ ∀ k, k < 32 → yi w k = false := ⟨fun h k _ => by rw [h, yi_0], fun h => yi_ext (fun k hk => by rw [h k hk, yi_0])⟩
theorem xl_ne0 {w : Int64} : ¬ w = 0 ↔ ∃ k, k < 64 ∧ xl w k = true := by
  constructor
  · intro h
    apply Classical.byContradiction
    intro q
    exact h (xl_eq0.mpr (fun k hk => by
      cases e : xl w k
      · rfl
      · exact absurd ⟨k, hk, e⟩ q))
  · intro ⟨k, hk, e⟩ h
    rw [xl_eq0.mp h k hk] at e
    cases e
theorem xl_shl (w : Int64) {n : Nat} (hn : n < 64) (k : Nat) : xl (am_lshl w (nI n)) k = (decide (k < 64) && (decide (n ≤ k) && xl w (k - n))) := by
  unfold xl am_lshl
  rw [wc_c n hn, Int64.toBitVec_shiftLeft]
  show (w.toBitVec <<< ((lN n).toBitVec.smod 64).toNat).getLsbD k = _
  rw [wc_sm n hn, BitVec.getLsbD_shiftLeft]
  rcases Nat.lt_or_ge k n with h | h
  · simp [h, Nat.not_le.mpr h]
  · simp [h, Nat.not_lt.mpr h]
theorem yi_shl (w : Int32) {n : Nat} (hn : n < 32) (k : Nat) : yi (am_ishl w (nI n)) k = (decide (k < 32) && (decide (n ≤ k) && yi w (k - n))) := by
  unfold yi am_ishl
  rw [Int32.toBitVec_shiftLeft]
  show (w.toBitVec <<< ((nI n &&& 31).toBitVec.smod 32).toNat).getLsbD k = _
  rw [wc_sl n hn, BitVec.getLsbD_shiftLeft]
  rcases Nat.lt_or_ge k n with h | h
  · simp [h, Nat.not_le.mpr h]
  · simp [h, Nat.not_lt.mpr h]
theorem xl_ushr (w : Int64) {n : Nat} (hn : n < 64) (k : Nat) : xl (am_lushr w (nI n)) k = xl w (n + k) := by
  unfold am_lushr
  rw [wc_cu n hn]
  show (w.toUInt64 >>> UInt64.ofNat n).toBitVec.getLsbD k = w.toUInt64.toBitVec.getLsbD (n + k)
  rw [UInt64.toBitVec_shiftRight]
  show (w.toUInt64.toBitVec >>> ((UInt64.ofNat n).toBitVec % 64).toNat).getLsbD k = _
  rw [wc_um n hn, BitVec.getLsbD_ushiftRight]
theorem yi_ushr (w : Int32) {n : Nat} (hn : n < 32) (k : Nat) : yi (am_iushr w (nI n)) k = yi w (n + k) := by
  unfold am_iushr
  show (w.toUInt32 >>> ((nI n).toUInt32 &&& Int32.toUInt32 31)).toBitVec.getLsbD k = w.toUInt32.toBitVec.getLsbD (n + k)
  rw [UInt32.toBitVec_shiftRight]
  show (w.toUInt32.toBitVec >>> (((nI n).toUInt32 &&& Int32.toUInt32 31).toBitVec % 32).toNat).getLsbD k = _
  rw [wc_su n hn, BitVec.getLsbD_ushiftRight]
theorem xl_sshr (w : Int64) {n : Nat} (hn : n < 64) {k : Nat} (hk : k < 64) : xl (am_lshr w (nI n)) k = if n + k < 64 then xl w (n + k) else xl w 63 := by
  unfold xl am_lshr
  rw [wc_c n hn, Int64.toBitVec_shiftRight]
  show (w.toBitVec.sshiftRight ((lN n).toBitVec.smod 64).toNat).getLsbD k = _
  rw [wc_sm n hn, BitVec.getLsbD_sshiftRight, BitVec.msb_eq_getLsbD_last]
  simp [hk]
theorem yi_sshr (w : Int32) {n : Nat} (hn : n < 32) {k : Nat} (hk : k < 32) : yi (am_ishr w (nI n)) k = if n + k < 32 then yi w (n + k) else yi w 31 := by
  unfold yi am_ishr
  rw [Int32.toBitVec_shiftRight]
  show (w.toBitVec.sshiftRight ((nI n &&& 31).toBitVec.smod 32).toNat).getLsbD k = _
  rw [wc_sl n hn, BitVec.getLsbD_sshiftRight, BitVec.msb_eq_getLsbD_last]
  simp [hk]
theorem xl_t0 (w : Int64) {n : Nat} (hn : n < 64) : (am_lushr w (nI n) &&& 1 = 0) ↔ xl w n = false := by
  rw [xl_eq0]
  constructor
  · intro h
    have q := h 0 (by omega)
    rw [xl_and, xl_ushr w hn, xl_1] at q
    simpa using q
  · intro h k hk
    rw [xl_and, xl_ushr w hn, xl_1]
    by_cases e : k = 0
    · subst e; simp [h]
    · simp [e]
theorem yi_t0 (w : Int32) {n : Nat} (hn : n < 32) : (am_iushr w (nI n) &&& 1 = 0) ↔ yi w n = false := by
  rw [yi_eq0]
  constructor
  · intro h
    have q := h 0 (by omega)
    rw [yi_and, yi_ushr w hn, yi_1] at q
    simpa using q
  · intro h k hk
    rw [yi_and, yi_ushr w hn, yi_1]
    by_cases e : k = 0
    · subst e; simp [h]
    · simp [e]
theorem xl_t2 (w u : Int64) {n m : Nat} (hn : n < 64) (hm : m < 64) : ((am_lushr w (nI n) &&& am_lushr u (nI m)) &&& 1 = 0) ↔ (xl w n && xl u m) = false := by
  rw [xl_eq0]
  constructor
  · intro h
    have q := h 0 (by omega)
    rw [xl_and, xl_and, xl_ushr w hn, xl_ushr u hm, xl_1] at q
    simpa using q
  · intro h k hk
    rw [xl_and, xl_and, xl_ushr w hn, xl_ushr u hm, xl_1]
    by_cases e : k = 0
    · subst e; simpa using h
    · simp [e]
theorem yi_t2 (w u : Int32) {n m : Nat} (hn : n < 32) (hm : m < 32) : ((am_iushr w (nI n) &&& am_iushr u (nI m)) &&& 1 = 0) ↔ (yi w n && yi u m) = false := by
  rw [yi_eq0]
  constructor
  · intro h
    have q := h 0 (by omega)
    rw [yi_and, yi_and, yi_ushr w hn, yi_ushr u hm, yi_1] at q
    simpa using q
  · intro h k hk
    rw [yi_and, yi_and, yi_ushr w hn, yi_ushr u hm, yi_1]
    by_cases e : k = 0
    · subst e; simpa using h
    · simp [e]
theorem xl_t1 (w : Int64) {n : Nat} (hn : n < 64) : (am_lshr w (nI n) &&& 1 = 1) ↔ xl w n = true := by
  constructor
  · intro h
    have q : xl (am_lshr w (nI n) &&& 1) 0 = xl 1 0 := by rw [h]
    rw [xl_and, xl_sshr w hn (by omega), xl_1] at q
    simpa [hn] using q
  · intro h
    apply xl_ext
    intro k hk
    rw [xl_and, xl_sshr w hn hk, xl_1]
    by_cases e : k = 0
    · subst e; simp [hn, h]
    · simp [e]
theorem xl_b1 {n : Nat} (hn : n < 64) (k : Nat) : xl (am_lshl 1 (nI n)) k = decide (k = n) := by
  rw [xl_shl 1 hn, xl_1]
  by_cases e : k = n
  · subst e; simp [hn]
  · by_cases q : n ≤ k
    · have : ¬ k - n = 0 := by omega
      simp [e, this]
    · simp [e, q]
theorem yi_b1 {n : Nat} (hn : n < 32) (k : Nat) : yi (am_ishl 1 (nI n)) k = decide (k = n) := by
  rw [yi_shl 1 hn, yi_1]
  by_cases e : k = n
  · subst e; simp [hn]
  · by_cases q : n ≤ k
    · have : ¬ k - n = 0 := by omega
      simp [e, this]
    · simp [e, q]
theorem xl_mv (w : Int64) {n m : Nat} (hn : n < 64) (hm : m < 64) (k : Nat) : xl (am_lshl (am_lushr w (nI n) &&& 1) (nI m)) k = (xl w n && decide (k = m)) := by
  rw [xl_shl _ hm, xl_and, xl_ushr w hn, xl_1]
  by_cases e : k = m
  · subst e; simp [hm]
  · by_cases q : m ≤ k
    · have : ¬ k - m = 0 := by omega
      simp [e, this]
    · simp [e, q]
theorem yi_mv (w : Int32) {n m : Nat} (hn : n < 32) (hm : m < 32) (k : Nat) : yi (am_ishl (am_iushr w (nI n) &&& 1) (nI m)) k = (yi w n && decide (k = m)) := by
  rw [yi_shl _ hm, yi_and, yi_ushr w hn, yi_1]
  by_cases e : k = m
  · subst e; simp [hm]
  · by_cases q : m ≤ k
    · have : ¬ k - m = 0 := by omega
      simp [e, this]
    · simp [e, q]
theorem xl_all {n : Nat} (hn : n < 64) (k : Nat) : xl (am_lshl 1 (nI n) - 1) k = decide (k < n) := by
  rcases Nat.lt_or_ge k 64 with h | h
  · exact (by decide +kernel : ∀ n, n < 64 → ∀ k, k < 64 → xl (am_lshl 1 (nI n) - 1) k = decide (k < n)) n hn k h
  · rw [xl_big h, decide_eq_false (by omega)]
theorem xl_i (v : Int32) {k : Nat} (hk : k < 32) : xl v.toInt64 k = yi v k := by
  unfold xl yi
  rw [Int32.toBitVec_toInt64, BitVec.getLsbD_signExtend]
  simp [hk, show k < 64 by omega]
theorem yi_l (w : Int64) {k : Nat} (hk : k < 32) : yi w.toInt32 k = xl w k := by
  unfold xl yi
  rw [Int64.toBitVec_toInt32, BitVec.getLsbD_signExtend]
  simp [hk, show k < 64 by omega]
theorem wL_ex (P : Nat → Prop) : ∀ n, n ≤ 64 → ∃ w : Int64, ∀ k, xl w k = true ↔ k < n ∧ P k
  | 0, _ => ⟨0, fun k => by rw [xl_0]; exact ⟨fun h => absurd h (by decide), fun h => absurd h.1 (Nat.not_lt_zero k)⟩⟩
  | n + 1, h => by
    obtain ⟨w, hw⟩ := wL_ex P n (by omega)
    by_cases q : P n
    · refine ⟨w ||| am_lshl 1 (nI n), fun k => ?_⟩
      rw [xl_or, xl_b1 (by omega), Bool.or_eq_true, hw, decide_eq_true_iff]
      constructor
      · rintro (⟨a, b⟩ | rfl)
        · exact ⟨by omega, b⟩
        · exact ⟨by omega, q⟩
      · rintro ⟨a, b⟩
        by_cases e : k = n
        · exact Or.inr e
        · exact Or.inl ⟨by omega, b⟩
    · refine ⟨w, fun k => ?_⟩
      rw [hw]
      constructor
      · rintro ⟨a, b⟩
        exact ⟨by omega, b⟩
      · rintro ⟨a, b⟩
        by_cases e : k = n
        · subst e; exact absurd b q
        · exact ⟨by omega, b⟩
theorem wI_ex (P : Nat → Prop) : ∀ n, n ≤ 32 → ∃ w : Int32, ∀ k, yi w k = true ↔ k < n ∧ P k
  | 0, _ => ⟨0, fun k => by rw [yi_0]; exact ⟨fun h => absurd h (by decide), fun h => absurd h.1 (Nat.not_lt_zero k)⟩⟩
  | n + 1, h => by
    obtain ⟨w, hw⟩ := wI_ex P n (by omega)
    by_cases q : P n
    · refine ⟨w ||| am_ishl 1 (nI n), fun k => ?_⟩
      rw [yi_or, yi_b1 (by omega), Bool.or_eq_true, hw, decide_eq_true_iff]
      constructor
      · rintro (⟨a, b⟩ | rfl)
        · exact ⟨by omega, b⟩
        · exact ⟨by omega, q⟩
      · rintro ⟨a, b⟩
        by_cases e : k = n
        · exact Or.inr e
        · exact Or.inl ⟨by omega, b⟩
    · refine ⟨w, fun k => ?_⟩
      rw [hw]
      constructor
      · rintro ⟨a, b⟩
        exact ⟨by omega, b⟩
      · rintro ⟨a, b⟩
        by_cases e : k = n
        · subst e; exact absurd b q
        · exact ⟨by omega, b⟩
/-- the word whose bits are P -/
noncomputable def wL (P : Nat → Prop) : Int64 := Classical.choose (wL_ex P 64 (Nat.le_refl _))
noncomputable def wI (P : Nat → Prop) : Int32 := Classical.choose (wI_ex P 32 (Nat.le_refl _))
theorem wL_x {P : Nat → Prop} {k : Nat} : xl (wL P) k = true ↔ k < 64 ∧ P k := Classical.choose_spec (wL_ex P 64 (Nat.le_refl _)) k
theorem wI_x {P : Nat → Prop} {k : Nat} : yi (wI P) k = true ↔ k < 32 ∧ P k := Classical.choose_spec (wI_ex P 32 (Nat.le_refl _)) k
theorem wL_of {w : Int64} {P : Nat → Prop} (h : ∀ k, k < 64 → (xl w k = true ↔ P k)) : w = wL P := xl_ext (fun k hk => by
  rw [Bool.eq_iff_iff, h k hk, wL_x]
  exact ⟨fun q => ⟨hk, q⟩, fun q => q.2⟩)
theorem wI_of {w : Int32} {P : Nat → Prop} (h : ∀ k, k < 32 → (yi w k = true ↔ P k)) : w = wI P := yi_ext (fun k hk => by
  rw [Bool.eq_iff_iff, h k hk, wI_x]
  exact ⟨fun q => ⟨hk, q⟩, fun q => q.2⟩)
theorem wL_cong {P Q : Nat → Prop} (h : ∀ k, k < 64 → (P k ↔ Q k)) : wL P = wL Q := wL_of (fun k hk => by
  rw [wL_x]
  exact ⟨fun q => (h k hk).mp q.2, fun q => ⟨hk, (h k hk).mpr q⟩⟩)
theorem wI_cong {P Q : Nat → Prop} (h : ∀ k, k < 32 → (P k ↔ Q k)) : wI P = wI Q := wI_of (fun k hk => by
  rw [wI_x]
  exact ⟨fun q => (h k hk).mp q.2, fun q => ⟨hk, (h k hk).mpr q⟩⟩)
theorem wL_0 {P : Nat → Prop} : wL P = 0 ↔ ∀ k, k < 64 → ¬ P k := by
  rw [xl_eq0]
  constructor
  · intro h k hk q
    have := h k hk
    rw [wL_x.mpr ⟨hk, q⟩] at this
    cases this
  · intro h k hk
    cases e : xl (wL P) k
    · rfl
    · exact absurd (wL_x.mp e).2 (h k hk)
/-- a boolean as the machine has it -/
def bo (b : Bool) : Int32 := if b then 1 else 0
theorem bo_t : bo true = 1 := rfl
theorem bo_f : bo false = 0 := rfl
theorem bo_0 (b : Bool) : (bo b = 0) ↔ b = false := by cases b <;> decide
theorem bo_1 (b : Bool) : (bo b = 1) ↔ b = true := by cases b <;> decide
theorem bo_or (a b : Bool) : bo a ||| bo b = bo (a || b) := by cases a <;> cases b <;> decide
theorem lit_m1 : (-1 : Int32) = nI 4294967295 := by decide
theorem nI_e32 {a b : Nat} (ha : a < 4294967296) (hb : b < 4294967296) : nI a = nI b ↔ a = b := by
  constructor
  · intro h
    have e : (nI a).toBitVec.toNat = (nI b).toBitVec.toNat := by rw [h]
    rw [pk_tn ha, pk_tn hb] at e
    exact e
  · intro h; rw [h]
theorem lc_e (a b : Int64) : (lg_cmp a b = 0) = (a = b) := propext (lg_cmp_eq a b)
