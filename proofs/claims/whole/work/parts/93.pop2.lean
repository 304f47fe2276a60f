/-! ===== bits counted one by one ===== -/
/-- counted bit by bit -/
theorem ct_c {p q : Nat → Prop} {n : Nat} (h : ∀ k, k < n → (p k ↔ q k)) : ct p n = ct q n := Nat.le_antisymm (ct_mono (fun k hk => (h k hk).mp)) (ct_mono (fun k hk => (h k hk).mpr))
theorem ct_add (p : Nat → Prop) (m : Nat) : ∀ n, ct p (m + n) = ct p m + ct (fun k => p (k + m)) n
  | 0 => rfl
  | n + 1 => by
    rw [← Nat.add_assoc, ct, ct, ct_add p m n, Nat.add_assoc, Nat.add_comm n m]
theorem ct_1 (b : Prop) (c : Nat) (h : b ↔ c % 2 = 1) : @ite Nat b (Classical.propDecidable _) 1 0 = c % 2 := by
  by_cases q : b
  · rw [if_pos q, h.mp q]
  · rw [if_neg q]
    have hn : ¬ c % 2 = 1 := fun e => q (h.mpr e)
    omega
theorem t_bc (x : Nat) : t_b (x % 256) = ct (fun k => x.testBit k = true) 8 := by
  have e : ∀ k, k < 8 → (x.testBit k = true ↔ x % 256 / 2 ^ k % 2 = 1) := fun k hk => by
    have : x.testBit k = (x % 2 ^ 8).testBit k := by rw [Nat.testBit_mod_two_pow, decide_eq_true hk, Bool.true_and]
    rw [this, Nat.testBit_eq_decide_div_mod_eq, decide_eq_true_iff]
  simp only [ct]
  rw [ct_1 _ _ (e 0 (by omega)), ct_1 _ _ (e 1 (by omega)), ct_1 _ _ (e 2 (by omega)), ct_1 _ _ (e 3 (by omega)), ct_1 _ _ (e 4 (by omega)), ct_1 _ _ (e 5 (by omega)), ct_1 _ _ (e 6 (by omega)), ct_1 _ _ (e 7 (by omega))]
  unfold t_b
  omega
theorem t_Cc : ∀ n x, t_C n x = ct (fun k => x.testBit k = true) (8 * n)
  | 0, x => rfl
  | n + 1, x => by
    rw [show 8 * (n + 1) = 8 + 8 * n by omega, ct_add, t_C, t_Cc n, t_bc, Nat.add_comm]
    congr 1
    apply ct_c
    intro k _
    rw [show (256 : Nat) = 2 ^ 8 from rfl, Nat.testBit_div_two_pow, Nat.add_comm]
