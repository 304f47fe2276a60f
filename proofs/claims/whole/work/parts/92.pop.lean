/-! ===== the number of bits, as the class counts it ===== -/
theorem na_dm (x m k : Nat) (hk : k < 256) : x &&& (256 * m + k) = 256 * ((x / 256) &&& m) + ((x % 256) &&& k) := by
  have h1 : (x &&& (256 * m + k)) / 2 ^ 8 = (x / 2 ^ 8) &&& ((256 * m + k) / 2 ^ 8) := Nat.and_div_two_pow
  have h2 : (x &&& (256 * m + k)) % 2 ^ 8 = (x % 2 ^ 8) &&& ((256 * m + k) % 2 ^ 8) := Nat.and_mod_two_pow
  rw [show (256 * m + k) / 2 ^ 8 = m by omega] at h1
  rw [show (256 * m + k) % 2 ^ 8 = k by omega] at h2
  rw [show (2 : Nat) ^ 8 = 256 from rfl] at h1 h2
  omega
def b_m (k : Nat) : Nat → Nat
  | 0 => 0
  | n + 1 => 256 * b_m k n + k
def b_1 (n x : Nat) : Nat := x - ((x / 2) &&& b_m 85 n)
def b_2 (n x : Nat) : Nat := (x &&& b_m 51 n) + ((x / 4) &&& b_m 51 n)
def b_3 (n x : Nat) : Nat := (x + x / 16) &&& b_m 15 n
def t_1 (b : Nat) : Nat := b - ((b / 2) &&& 85)
def t_2 (b : Nat) : Nat := (b &&& 51) + ((b / 4) &&& 51)
def t_b (l : Nat) : Nat := l % 2 + l / 2 % 2 + l / 4 % 2 + l / 8 % 2 + l / 16 % 2 + l / 32 % 2 + l / 64 % 2 + l / 128 % 2
theorem t_f1 : ∀ b, b < 2 → ∀ l, l < 256 → (128 * b + l / 2) &&& 85 = (l / 2) &&& 85 := by decide +kernel
theorem t_f2 : ∀ b, b < 4 → ∀ l, l < 256 → (64 * b + l / 4) &&& 51 = (l / 4) &&& 51 := by decide +kernel
theorem t_f3 : ∀ l, l < 256 → t_1 l < 256 ∧ t_2 (t_1 l) ≤ 68 ∧ t_2 (t_1 l) % 16 ≤ 4 := by decide +kernel
theorem t_f4 : ∀ a, a < 5 → ∀ l, l < 256 → (16 * a + t_2 (t_1 l) + t_2 (t_1 l) / 16) &&& 15 = t_b l := by decide +kernel
theorem b_1s (n x : Nat) : b_1 (n + 1) x = 256 * b_1 n (x / 256) + t_1 (x % 256) := by
  have e := na_dm (x / 2) (b_m 85 n) 85 (by omega)
  rw [show x / 2 / 256 = x / 256 / 2 by omega, show x / 2 % 256 = 128 * (x / 256 % 2) + x % 256 / 2 by omega, t_f1 _ (by omega) _ (by omega)] at e
  have l1 : (x / 256 / 2) &&& b_m 85 n ≤ x / 256 / 2 := Nat.and_le_left
  have l2 : (x % 256 / 2) &&& 85 ≤ x % 256 / 2 := Nat.and_le_left
  unfold b_1 t_1
  rw [show b_m 85 (n + 1) = 256 * b_m 85 n + 85 from rfl, e]
  omega
theorem b_2s (n x : Nat) : b_2 (n + 1) x = 256 * b_2 n (x / 256) + t_2 (x % 256) := by
  have e := na_dm x (b_m 51 n) 51 (by omega)
  have e2 := na_dm (x / 4) (b_m 51 n) 51 (by omega)
  rw [show x / 4 / 256 = x / 256 / 4 by omega, show x / 4 % 256 = 64 * (x / 256 % 4) + x % 256 / 4 by omega, t_f2 _ (by omega) _ (by omega)] at e2
  unfold b_2 t_2
  rw [show b_m 51 (n + 1) = 256 * b_m 51 n + 51 from rfl, e, e2]
  omega
theorem b_12 (n x : Nat) : b_2 (n + 1) (b_1 (n + 1) x) = 256 * b_2 n (b_1 n (x / 256)) + t_2 (t_1 (x % 256)) := by
  have l := (t_f3 (x % 256) (by omega)).1
  rw [b_2s, b_1s, show (256 * b_1 n (x / 256) + t_1 (x % 256)) / 256 = b_1 n (x / 256) by omega, show (256 * b_1 n (x / 256) + t_1 (x % 256)) % 256 = t_1 (x % 256) by omega]
theorem b_12m (n x : Nat) : b_2 n (b_1 n x) % 16 < 5 := by
  cases n with
  | zero =>
    unfold b_2
    rw [show b_m 51 0 = 0 from rfl, Nat.and_zero, Nat.and_zero]
    decide
  | succ n =>
    have l := (t_f3 (x % 256) (by omega)).2.2
    rw [b_12]
    omega
def t_B : Nat → Nat → Nat
  | 0, _ => 0
  | n + 1, x => 256 * t_B n (x / 256) + t_b (x % 256)
theorem b_123 : ∀ n x, b_3 n (b_2 n (b_1 n x)) = t_B n x
  | 0, x => by
    unfold b_3
    rw [show b_m 15 0 = 0 from rfl, Nat.and_zero]
    rfl
  | n + 1, x => by
    have ih := b_123 n (x / 256)
    have l := t_f3 (x % 256) (by omega)
    have m := b_12m n (x / 256)
    have q := t_f4 _ m (x % 256) (by omega)
    unfold b_3 at *
    rw [b_12]
    generalize b_2 n (b_1 n (x / 256)) = Y at *
    generalize t_2 (t_1 (x % 256)) = e at *
    rw [show b_m 15 (n + 1) = 256 * b_m 15 n + 15 from rfl, na_dm _ _ _ (by omega), show (256 * Y + e + (256 * Y + e) / 16) / 256 = Y + Y / 16 by omega, show (256 * Y + e + (256 * Y + e) / 16) % 256 = 16 * (Y % 16) + e + e / 16 by omega, ih, q]
    rfl
theorem t_b8 (l : Nat) : t_b l ≤ 8 := by
  unfold t_b
  omega
def t_C : Nat → Nat → Nat
  | 0, _ => 0
  | n + 1, x => t_C n (x / 256) + t_b (x % 256)
