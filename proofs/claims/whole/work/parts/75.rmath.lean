/-! ===== the lowest bit; what is left of a set; sets that meet others ===== -/
theorem nb_low : ∀ n : Nat, 0 < n → ∀ k, (n &&& (n - 1)).testBit k = true ↔ (n.testBit k = true ∧ ∃ j, j < k ∧ n.testBit j = true)
  | n, hn, k => by
    rcases Nat.mod_two_eq_zero_or_one n with e | e
    · -- even
      have hm : 0 < n / 2 := by omega
      have ih := nb_low (n / 2) hm
      rw [Nat.testBit_and, Bool.and_eq_true]
      have e1 : (n - 1) / 2 = n / 2 - 1 := by omega
      cases k with
      | zero =>
        have : n.testBit 0 = false := by rw [Nat.testBit_zero]; simp [e]
        rw [this]
        constructor
        · rintro ⟨c, -⟩; cases c
        · rintro ⟨c, -⟩; cases c
      | succ k =>
        have i := ih k
        rw [Nat.testBit_and, Bool.and_eq_true] at i
        rw [Nat.testBit_succ, Nat.testBit_succ, e1, i]
        constructor
        · rintro ⟨c1, j, c2, c3⟩
          exact ⟨c1, j + 1, by omega, by rw [Nat.testBit_succ]; exact c3⟩
        · rintro ⟨c1, j, c2, c3⟩
          cases j with
          | zero => rw [Nat.testBit_zero] at c3; simp [e] at c3
          | succ j => exact ⟨c1, j, by omega, by rw [Nat.testBit_succ] at c3; exact c3⟩
    · rw [Nat.testBit_and, Bool.and_eq_true]
      have e0 : n.testBit 0 = true := by rw [Nat.testBit_zero]; simp [e]
      cases k with
      | zero =>
        have : (n - 1).testBit 0 = false := by
          rw [Nat.testBit_zero]
          have : (n - 1) % 2 = 0 := by omega
          simp [this]
        rw [this]
        constructor
        · rintro ⟨-, c⟩; cases c
        · rintro ⟨-, j, c, -⟩; exact absurd c (Nat.not_lt_zero j)
      | succ k =>
        have e1 : (n - 1) / 2 = n / 2 := by omega
        rw [Nat.testBit_succ, Nat.testBit_succ, e1]
        exact ⟨fun c => ⟨c.1, 0, by omega, e0⟩, fun c => ⟨c.1, c.1⟩⟩
termination_by n => n
theorem xl_nat (w : Int64) (k : Nat) : xl w k = w.toBitVec.toNat.testBit k := by
  unfold xl
  rw [BitVec.testBit_toNat]
theorem xl_low {w : Int64} (h : ¬ w = 0) (k : Nat) : xl (w &&& (w - 1)) k = true ↔ (xl w k = true ∧ ∃ j, j < k ∧ xl w j = true) := by
  have hpos : 0 < w.toBitVec.toNat := by
    rcases Nat.eq_zero_or_pos w.toBitVec.toNat with e | e
    · exact absurd (Int64.toBitVec_inj.mp (BitVec.eq_of_toNat_eq e)) h
    · exact e
  have hlt := w.toBitVec.isLt
  have e1 : (w - 1).toBitVec.toNat = w.toBitVec.toNat - 1 := by
    rw [Int64.toBitVec_sub, BitVec.toNat_sub]
    have : (1 : Int64).toBitVec.toNat = 1 := by decide
    rw [this]
    omega
  have e2 : (w &&& (w - 1)).toBitVec.toNat = w.toBitVec.toNat &&& (w.toBitVec.toNat - 1) := by
    rw [Int64.toBitVec_and, BitVec.toNat_and, e1]
  rw [xl_nat, e2, nb_low _ hpos, xl_nat]
  simp only [xl_nat]
theorem xl_one {w : Int64} : (w &&& (w - 1) = 0) ↔ ∀ i j, xl w i = true → xl w j = true → i = j := by
  by_cases h : w = 0
  · subst h
    exact ⟨fun _ i j c => absurd c (by rw [xl_0]; decide), fun _ => by decide⟩
  · rw [xl_eq0]
    constructor
    · intro q i j hi hj
      rcases Nat.lt_trichotomy i j with e | e | e
      · have := (xl_low h j).mpr ⟨hj, i, e, hi⟩
        rw [q j (xl_lt hj)] at this
        cases this
      · exact e
      · have := (xl_low h i).mpr ⟨hi, j, e, hj⟩
        rw [q i (xl_lt hi)] at this
        cases this
    · intro q k hk
      cases e : xl (w &&& (w - 1)) k
      · rfl
      · obtain ⟨c1, j, c2, c3⟩ := (xl_low h k).mp e
        have := q k j c1 c3
        omega
/-- sets of axioms; one left out; one by one left out -/
def m_rm (S : Nat → Prop) (k j : Nat) : Prop := S j ∧ j ≠ k
def m_mo (E : (Nat → Prop) → Prop) : Prop := ∀ S T : Nat → Prop, (∀ k, S k → T k) → E S → E T
def m_sh (E : (Nat → Prop) → Prop) : Nat → (Nat → Prop) → Nat → Prop
  | 0, S, j => S j
  | k + 1, S, j => m_sh E k S j ∧ ¬ (j = k ∧ E (m_rm (m_sh E k S) k))
theorem m_shs {E : (Nat → Prop) → Prop} {S : Nat → Prop} : ∀ {k j : Nat}, m_sh E k S j → S j
  | 0, _, h => h
  | k + 1, _, h => m_shs (k := k) h.1
theorem m_shE {E : (Nat → Prop) → Prop} (hE : m_mo E) {S : Nat → Prop} (h : E S) : ∀ k, E (m_sh E k S)
  | 0 => h
  | k + 1 => by
    by_cases c : E (m_rm (m_sh E k S) k)
    · exact hE _ _ (fun j q => ⟨q.1, fun e => q.2 e.1⟩) c
    · exact hE _ _ (fun j q => ⟨q, fun e => c e.2⟩) (m_shE hE h k)
theorem m_shm {E : (Nat → Prop) → Prop} (hE : m_mo E) {S : Nat → Prop} : ∀ {k j : Nat}, j < k → m_sh E k S j → ¬ E (m_rm (m_sh E k S) j)
  | 0, j, h, _ => absurd h (Nat.not_lt_zero j)
  | k + 1, j, h, hj => by
    intro c
    by_cases e : j = k
    · subst e
      exact hj.2 ⟨rfl, hE _ _ (fun i q => ⟨q.1.1, q.2⟩) c⟩
    · exact m_shm hE (show j < k by omega) hj.1 (hE _ _ (fun i q => ⟨q.1.1, q.2⟩) c)
theorem m_shc {E : (Nat → Prop) → Prop} {S T : Nat → Prop} (h : ∀ j, S j ↔ T j) (k : Nat) : m_sh E k S = m_sh E k T := by
  have : S = T := funext (fun j => propext (h j))
  rw [this]
/-- what is left of all that are on is what is left of those that have a say -/
theorem m_rel {E : (Nat → Prop) → Prop} (hE : m_mo E) {B U : Nat → Prop} (hU : ∀ k, U k → B k) (hr : ∀ S : Nat → Prop, (∀ k, S k → B k) → (E S ↔ E (fun k => S k ∧ U k))) (h : E B) : ∀ k, (∀ j, m_sh E k U j ↔ m_sh E k B j ∧ U j) ∧ (∀ j, j < k → m_sh E k B j → U j)
  | 0 => ⟨fun j => ⟨fun c => ⟨hU j c, c⟩, And.right⟩, fun j hj => absurd hj (Nat.not_lt_zero j)⟩
  | k + 1 => by
    obtain ⟨i1, i2⟩ := m_rel hE hU hr h k
    have hB : ∀ j, m_sh E k B j → B j := fun j => m_shs
    have eE : E (m_sh E k B) := m_shE hE h k
    have e1 : E (m_rm (m_sh E k B) k) ↔ E (m_rm (m_sh E k U) k) := by
      rw [hr _ (fun j c => hB j c.1)]
      constructor
      · exact hE _ _ (fun j c => ⟨(i1 j).mpr ⟨c.1.1, c.2⟩, c.1.2⟩)
      · exact hE _ _ (fun j c => ⟨⟨((i1 j).mp c.1).1, c.2⟩, ((i1 j).mp c.1).2⟩)
    refine ⟨fun j => ?_, fun j hj c => ?_⟩
    · constructor
      · rintro ⟨c1, c2⟩
        have c3 := (i1 j).mp c1
        exact ⟨⟨c3.1, fun c => c2 ⟨c.1, e1.mp c.2⟩⟩, c3.2⟩
      · rintro ⟨⟨c1, c2⟩, c3⟩
        exact ⟨(i1 j).mpr ⟨c1, c3⟩, fun c => c2 ⟨c.1, e1.mpr c.2⟩⟩
    · by_cases e : j = k
      · subst e
        apply Classical.byContradiction
        intro c3
        apply c.2
        refine ⟨rfl, ?_⟩
        rw [hr _ (fun i c => hB i c.1)]
        have := (hr (m_sh E j B) hB).mp eE
        exact hE _ _ (fun i q => ⟨⟨q.1, fun e => c3 (e ▸ q.2)⟩, q.2⟩) this
      · exact i2 j (by omega) c.1
/-- a reason among the axioms B -/
def m_R (E : (Nat → Prop) → Prop) (B S : Nat → Prop) : Prop := (∀ k, S k → B k) ∧ E S ∧ ∀ k, S k → ¬ E (m_rm S k)
theorem m_Rs {E : (Nat → Prop) → Prop} (hE : m_mo E) {B S : Nat → Prop} {n : Nat} (hn : ∀ k, S k → k < n) (hS : ∀ k, S k → B k) (h : E S) : m_R E B (m_sh E n S) := ⟨fun k c => hS k (m_shs c), m_shE hE h n, fun k c => m_shm hE (hn k (m_shs c)) c⟩
/-- one within the other is the same -/
theorem m_Re {E : (Nat → Prop) → Prop} (hE : m_mo E) {B S T : Nat → Prop} (hS : E S) (hT : m_R E B T) (h : ∀ k, S k → T k) : ∀ k, T k → S k := by
  intro k hk
  apply Classical.byContradiction
  intro c
  exact hT.2.2 k hk (hE S _ (fun j q => ⟨h j q, fun e => c (e ▸ q)⟩) hS)
/-- within what meets all there is what meets all and is of use -/
theorem m_hit (F : Nat → Nat → Prop) (c : Nat) (H : Nat → Prop) (hn : ∀ k, H k → k < 32) (hH : ∀ i, i < c → ∃ k, F i k ∧ H k) : ∃ G : Nat → Prop, (∀ k, G k → H k) ∧ (∀ i, i < c → ∃ k, F i k ∧ G k) ∧ ∀ k, G k → ∃ i, i < c ∧ F i k ∧ ∀ j, F i j → G j → j = k := by
  have mono : m_mo (fun S => ∀ i, i < c → ∃ k, F i k ∧ S k) := fun S T h q i hi => by
    obtain ⟨k, a, b⟩ := q i hi
    exact ⟨k, a, h k b⟩
  refine ⟨m_sh (fun S => ∀ i, i < c → ∃ k, F i k ∧ S k) 32 H, fun k => m_shs, m_shE mono hH 32, fun k hk => ?_⟩
  have hm := m_shm mono (hn k (m_shs hk)) hk
  apply Classical.byContradiction
  intro q
  apply hm
  intro i hi
  obtain ⟨j, a, b⟩ := m_shE mono hH 32 i hi
  by_cases e : j = k
  · subst e
    apply Classical.byContradiction
    intro q2
    apply q
    refine ⟨i, hi, a, fun l hl hl2 => ?_⟩
    apply Classical.byContradiction
    intro ne
    exact q2 ⟨l, hl, hl2, ne⟩
  · exact ⟨j, a, b, e⟩
def bs (w : Int64) (k : Nat) : Prop := xl w k = true
theorem bs_w (w : Int64) : wL (bs w) = w := (wL_of (fun _ _ => Iff.rfl)).symm
theorem bs_L {P : Nat → Prop} (hP : ∀ k, P k → k < 64) : bs (wL P) = P := funext (fun k => propext ⟨fun c => (wL_x.mp c).2, fun c => wL_x.mpr ⟨hP k c, c⟩⟩)
theorem bs_e {v w : Int64} (h : ∀ k, bs v k ↔ bs w k) : v = w := xl_ext (fun k _ => Bool.eq_iff_iff.mpr (h k))
