/-! ===== the class's and the reference's counts of bits are the number of bits ===== -/
theorem t_d1 {c0 y y1 : Nat} (h0 : c0 ≤ 8) (e0 : y = 256 * y1 + c0) : y / 256 = y1 := by omega
theorem t_d2 {c0 c1 c2 y y1 y2 y3 : Nat} (h0 : c0 ≤ 8) (h1 : c1 ≤ 8) (h2 : c2 ≤ 8) (e0 : y = 256 * y1 + c0) (e1 : y1 = 256 * y2 + c1) (e2 : y2 = 256 * y3 + c2) : (y + y1) / 65536 = y2 + y3 := by
  have : y + y1 = (c0 + c1 + 256 * (c1 + c2)) + 65536 * (y2 + y3) := by omega
  rw [this, Nat.add_mul_div_left _ _ (by omega), Nat.div_eq_of_lt (by omega), Nat.zero_add]
theorem t_d3 {c0 c1 c2 c3 c4 c5 c6 y y1 y2 y3 y4 y5 y6 y7 : Nat} (h0 : c0 ≤ 8) (h1 : c1 ≤ 8) (h2 : c2 ≤ 8) (h3 : c3 ≤ 8) (h4 : c4 ≤ 8) (h5 : c5 ≤ 8) (h6 : c6 ≤ 8) (e0 : y = 256 * y1 + c0) (e1 : y1 = 256 * y2 + c1) (e2 : y2 = 256 * y3 + c2) (e3 : y3 = 256 * y4 + c3) (e4 : y4 = 256 * y5 + c4) (e5 : y5 = 256 * y6 + c5) (e6 : y6 = 256 * y7 + c6) : (y + y1 + (y2 + y3)) / 4294967296 = y4 + y5 + (y6 + y7) := by
  have a0 : y = (c0 + 256 * c1 + 65536 * c2 + 16777216 * c3) + 4294967296 * y4 := by omega
  have a1 : y1 = (c1 + 256 * c2 + 65536 * c3 + 16777216 * c4) + 4294967296 * y5 := by omega
  have a2 : y2 = (c2 + 256 * c3 + 65536 * c4 + 16777216 * c5) + 4294967296 * y6 := by omega
  have a3 : y3 = (c3 + 256 * c4 + 65536 * c5 + 16777216 * c6) + 4294967296 * y7 := by omega
  clear e0 e1 e2 e3 e4 e5 e6
  have : y + y1 + (y2 + y3) = ((c0 + 256 * c1 + 65536 * c2 + 16777216 * c3) + (c1 + 256 * c2 + 65536 * c3 + 16777216 * c4) + (c2 + 256 * c3 + 65536 * c4 + 16777216 * c5) + (c3 + 256 * c4 + 65536 * c5 + 16777216 * c6)) + 4294967296 * (y4 + y5 + (y6 + y7)) := by
    rw [a0, a1, a2, a3]
    omega
  rw [this, Nat.add_mul_div_left _ _ (by omega), Nat.div_eq_of_lt (by omega), Nat.zero_add]
/-- the last of the class's steps, in numbers: over eight bytes, over four -/
def p_8 (y : Nat) : Nat := (y + y / 256 + (y + y / 256) / 65536) + (y + y / 256 + (y + y / 256) / 65536) / 4294967296
def p_4 (y : Nat) : Nat := y + y / 256 + (y + y / 256) / 65536
theorem t_s8 (x : Nat) : p_8 (t_B 8 x) % 128 = t_C 8 x := by
  have e0 : t_B 8 x = 256 * t_B 7 (x / 256) + t_b (x % 256) := rfl
  have e1 : t_B 7 (x / 256) = 256 * t_B 6 (x / 256 / 256) + t_b (x / 256 % 256) := rfl
  have e2 : t_B 6 (x / 256 / 256) = 256 * t_B 5 (x / 256 / 256 / 256) + t_b (x / 256 / 256 % 256) := rfl
  have e3 : t_B 5 (x / 256 / 256 / 256) = 256 * t_B 4 (x / 256 / 256 / 256 / 256) + t_b (x / 256 / 256 / 256 % 256) := rfl
  have e4 : t_B 4 (x / 256 / 256 / 256 / 256) = 256 * t_B 3 (x / 256 / 256 / 256 / 256 / 256) + t_b (x / 256 / 256 / 256 / 256 % 256) := rfl
  have e5 : t_B 3 (x / 256 / 256 / 256 / 256 / 256) = 256 * t_B 2 (x / 256 / 256 / 256 / 256 / 256 / 256) + t_b (x / 256 / 256 / 256 / 256 / 256 % 256) := rfl
  have e6 : t_B 2 (x / 256 / 256 / 256 / 256 / 256 / 256) = 256 * t_B 1 (x / 256 / 256 / 256 / 256 / 256 / 256 / 256) + t_b (x / 256 / 256 / 256 / 256 / 256 / 256 % 256) := rfl
  have e7 : t_B 1 (x / 256 / 256 / 256 / 256 / 256 / 256 / 256) = t_b (x / 256 / 256 / 256 / 256 / 256 / 256 / 256 % 256) := Nat.zero_add _
  have e8 : t_C 8 x = 0 + t_b (x / 256 / 256 / 256 / 256 / 256 / 256 / 256 % 256) + t_b (x / 256 / 256 / 256 / 256 / 256 / 256 % 256) + t_b (x / 256 / 256 / 256 / 256 / 256 % 256) + t_b (x / 256 / 256 / 256 / 256 % 256) + t_b (x / 256 / 256 / 256 % 256) + t_b (x / 256 / 256 % 256) + t_b (x / 256 % 256) + t_b (x % 256) := rfl
  have h0 := t_b8 (x % 256)
  have h1 := t_b8 (x / 256 % 256)
  have h2 := t_b8 (x / 256 / 256 % 256)
  have h3 := t_b8 (x / 256 / 256 / 256 % 256)
  have h4 := t_b8 (x / 256 / 256 / 256 / 256 % 256)
  have h5 := t_b8 (x / 256 / 256 / 256 / 256 / 256 % 256)
  have h6 := t_b8 (x / 256 / 256 / 256 / 256 / 256 / 256 % 256)
  have h7 := t_b8 (x / 256 / 256 / 256 / 256 / 256 / 256 / 256 % 256)
  rw [e8]
  generalize t_b (x / 256 / 256 / 256 / 256 / 256 / 256 / 256 % 256) = c7 at *
  generalize t_b (x / 256 / 256 / 256 / 256 / 256 / 256 % 256) = c6 at *
  generalize t_b (x / 256 / 256 / 256 / 256 / 256 % 256) = c5 at *
  generalize t_b (x / 256 / 256 / 256 / 256 % 256) = c4 at *
  generalize t_b (x / 256 / 256 / 256 % 256) = c3 at *
  generalize t_b (x / 256 / 256 % 256) = c2 at *
  generalize t_b (x / 256 % 256) = c1 at *
  generalize t_b (x % 256) = c0 at *
  generalize t_B 1 (x / 256 / 256 / 256 / 256 / 256 / 256 / 256) = y7 at *
  generalize t_B 2 (x / 256 / 256 / 256 / 256 / 256 / 256) = y6 at *
  generalize t_B 3 (x / 256 / 256 / 256 / 256 / 256) = y5 at *
  generalize t_B 4 (x / 256 / 256 / 256 / 256) = y4 at *
  generalize t_B 5 (x / 256 / 256 / 256) = y3 at *
  generalize t_B 6 (x / 256 / 256) = y2 at *
  generalize t_B 7 (x / 256) = y1 at *
  generalize t_B 8 x = y at *
  unfold p_8
  rw [t_d1 h0 e0, t_d2 h0 h1 h2 e0 e1 e2, t_d3 h0 h1 h2 h3 h4 h5 h6 e0 e1 e2 e3 e4 e5 e6]
  have : y + y1 + (y2 + y3) + (y4 + y5 + (y6 + y7)) = (0 + c7 + c6 + c5 + c4 + c3 + c2 + c1 + c0) + 128 * (2 * (y1 + y2 + y3 + y4 + y5 + y6 + y7)) := by
    clear e8
    omega
  rw [this, Nat.add_mul_mod_self_left]
  exact Nat.mod_eq_of_lt (by omega)
theorem t_s4 (x : Nat) : p_4 (t_B 4 x) % 64 = t_C 4 x := by
  have e0 : t_B 4 x = 256 * t_B 3 (x / 256) + t_b (x % 256) := rfl
  have e1 : t_B 3 (x / 256) = 256 * t_B 2 (x / 256 / 256) + t_b (x / 256 % 256) := rfl
  have e2 : t_B 2 (x / 256 / 256) = 256 * t_B 1 (x / 256 / 256 / 256) + t_b (x / 256 / 256 % 256) := rfl
  have e3 : t_B 1 (x / 256 / 256 / 256) = t_b (x / 256 / 256 / 256 % 256) := Nat.zero_add _
  have e8 : t_C 4 x = 0 + t_b (x / 256 / 256 / 256 % 256) + t_b (x / 256 / 256 % 256) + t_b (x / 256 % 256) + t_b (x % 256) := rfl
  have h0 := t_b8 (x % 256)
  have h1 := t_b8 (x / 256 % 256)
  have h2 := t_b8 (x / 256 / 256 % 256)
  have h3 := t_b8 (x / 256 / 256 / 256 % 256)
  rw [e8]
  generalize t_b (x / 256 / 256 / 256 % 256) = c3 at *
  generalize t_b (x / 256 / 256 % 256) = c2 at *
  generalize t_b (x / 256 % 256) = c1 at *
  generalize t_b (x % 256) = c0 at *
  generalize t_B 1 (x / 256 / 256 / 256) = y3 at *
  generalize t_B 2 (x / 256 / 256) = y2 at *
  generalize t_B 3 (x / 256) = y1 at *
  generalize t_B 4 x = y at *
  unfold p_4
  rw [t_d1 h0 e0, t_d2 h0 h1 h2 e0 e1 e2]
  have : y + y1 + (y2 + y3) = (0 + c3 + c2 + c1 + c0) + 64 * (4 * (y1 + y2 + y3)) := by
    clear e8
    omega
  rw [this, Nat.add_mul_mod_self_left]
  exact Nat.mod_eq_of_lt (by omega)
/-! words as numbers -/
def un (w : Int64) : Nat := w.toBitVec.toNat
def ui (w : Int32) : Nat := w.toBitVec.toNat
theorem un_lt (w : Int64) : un w < 18446744073709551616 := w.toBitVec.isLt
theorem ui_lt (w : Int32) : ui w < 4294967296 := w.toBitVec.isLt
theorem ui_ext {a b : Int32} (h : ui a = ui b) : a = b := Int32.toBitVec_inj.mp (BitVec.eq_of_toNat_eq h)
theorem un_and (a b : Int64) : un (a &&& b) = un a &&& un b := by
  unfold un
  rw [Int64.toBitVec_and, BitVec.toNat_and]
theorem ui_and (a b : Int32) : ui (a &&& b) = ui a &&& ui b := by
  unfold ui
  rw [Int32.toBitVec_and, BitVec.toNat_and]
theorem un_add (a b : Int64) (h : un a + un b < 18446744073709551616) : un (a + b) = un a + un b := by
  unfold un at *
  rw [Int64.toBitVec_add, BitVec.toNat_add]
  exact Nat.mod_eq_of_lt h
theorem ui_add (a b : Int32) (h : ui a + ui b < 4294967296) : ui (a + b) = ui a + ui b := by
  unfold ui at *
  rw [Int32.toBitVec_add, BitVec.toNat_add]
  exact Nat.mod_eq_of_lt h
theorem un_sub (a b : Int64) (h : un b ≤ un a) : un (a - b) = un a - un b := by
  have := un_lt a
  have := un_lt b
  unfold un at *
  rw [Int64.toBitVec_sub, BitVec.toNat_sub]
  omega
theorem ui_sub (a b : Int32) (h : ui b ≤ ui a) : ui (a - b) = ui a - ui b := by
  have := ui_lt a
  have := ui_lt b
  unfold ui at *
  rw [Int32.toBitVec_sub, BitVec.toNat_sub]
  omega
theorem un_shr (w : Int64) (n : Nat) (hn : n < 64) : un (am_lushr w (nI n)) = un w / 2 ^ n := by
  apply Nat.eq_of_testBit_eq
  intro k
  rw [Nat.testBit_div_two_pow]
  have := xl_ushr w hn k
  rw [xl_nat, xl_nat, Nat.add_comm] at this
  exact this
theorem yi_nat (w : Int32) (k : Nat) : yi w k = w.toBitVec.toNat.testBit k := rfl
theorem ui_shr (w : Int32) (n : Nat) (hn : n < 32) : ui (am_iushr w (nI n)) = ui w / 2 ^ n := by
  apply Nat.eq_of_testBit_eq
  intro k
  rw [Nat.testBit_div_two_pow]
  have := yi_ushr w hn k
  rw [yi_nat, yi_nat, Nat.add_comm] at this
  exact this
theorem un_toI (w : Int64) : ui (Int64.toInt32 w) = un w % 4294967296 := by
  unfold ui un
  rw [Int64.toBitVec_toInt32, BitVec.toNat_signExtend]
  have := w.toBitVec.isLt
  simp
theorem n_and127 (x : Nat) : x &&& 127 = x % 128 := Nat.and_two_pow_sub_one_eq_mod x 7
theorem n_and63 (x : Nat) : x &&& 63 = x % 64 := Nat.and_two_pow_sub_one_eq_mod x 6
