/-! ===== a calculus over the equations: reading and writing at known shapes ===== -/
theorem pc_kd {h : am_H} {o c n : Nat} (hs : (am_S h)[o]? = some (c, n)) : am_kd h o c = true := by
  unfold am_kd
  rw [hs]
  simp
theorem pc_ck {h : am_H} {o c n : Nat} (hs : (am_S h)[o]? = some (c, n)) (k : Option am_R) : am_ck h o c k = k := by
  unfold am_ck
  rw [pc_kd hs]
  rfl
theorem pc_gi {h : am_H} {o c n : Nat} (hs : (am_S h)[o]? = some (c, n)) (b : Nat) (k : Int32 → Option am_R) : am_gi h o c b k = k (am_I h o b) := by
  unfold am_gi
  rw [pc_kd hs]
  rfl
theorem pc_gl {h : am_H} {o c n : Nat} (hs : (am_S h)[o]? = some (c, n)) (b : Nat) (k : Int64 → Option am_R) : am_gl h o c b k = k (am_L h o b) := by
  unfold am_gl
  rw [pc_kd hs]
  rfl
theorem pc_gp {h : am_H} {o c n p b : Nat} (hs : (am_S h)[o]? = some (c, n)) (hp : am_P h o b = some p) (k : Nat → Option am_R) : am_gp h o c b k = k p := by
  unfold am_gp
  rw [pc_kd hs, hp]
  rfl
theorem pc_ar {h : am_H} {a c n : Nat} {i : Int32} (hs : (am_S h)[a]? = some (c, n)) (h0 : ¬ i < 0) (h1 : i.toNatClampNeg < n) (k : Nat → Option am_R) : am_ar h c a i k = k i.toNatClampNeg := by
  unfold am_ar
  rw [hs]
  have e : Nat.ble n i.toNatClampNeg = false := by
    cases hb : Nat.ble n i.toNatClampNeg with
    | false => rfl
    | true => exact absurd (Nat.le_of_ble_eq_true hb) (Nat.not_le.mpr h1)
  simp [h0, e]
theorem pc_al {h : am_H} {o c n : Nat} (hs : (am_S h)[o]? = some (c, n)) (hc : 9 ≤ c) (k : Int32 → Option am_R) : am_al h o k = k (Int32.ofNat n) := by
  unfold am_al
  rw [hs]
  have e : Nat.ble 9 c = true := Nat.ble_eq_true_of_le hc
  simp [e]
theorem pc_sS_I (h : am_H) (a i : Nat) (v : Int32) : am_S (am_sI h a i v) = am_S h := rfl
theorem pc_sS_L (h : am_H) (a i : Nat) (v : Int64) : am_S (am_sL h a i v) = am_S h := rfl
theorem pc_sS_P (h : am_H) (a i : Nat) (v : Option Nat) : am_S (am_sP h a i v) = am_S h := rfl
theorem pc_I_I (h : am_H) (a i b j : Nat) (v : Int32) : am_I (am_sI h a i v) b j = if b = a ∧ j = i then v else am_I h b j := rfl
theorem pc_L_L (h : am_H) (a i b j : Nat) (v : Int64) : am_L (am_sL h a i v) b j = if b = a ∧ j = i then v else am_L h b j := rfl
theorem pc_P_P (h : am_H) (a i b j : Nat) (v : Option Nat) : am_P (am_sP h a i v) b j = if b = a ∧ j = i then v else am_P h b j := rfl
theorem pc_I_L (h : am_H) (a i : Nat) (v : Int64) : am_I (am_sL h a i v) = am_I h := rfl
theorem pc_I_P (h : am_H) (a i : Nat) (v : Option Nat) : am_I (am_sP h a i v) = am_I h := rfl
theorem pc_L_I (h : am_H) (a i : Nat) (v : Int32) : am_L (am_sI h a i v) = am_L h := rfl
theorem pc_L_P (h : am_H) (a i : Nat) (v : Option Nat) : am_L (am_sP h a i v) = am_L h := rfl
theorem pc_P_I (h : am_H) (a i : Nat) (v : Int32) : am_P (am_sI h a i v) = am_P h := rfl
theorem pc_P_L (h : am_H) (a i : Nat) (v : Int64) : am_P (am_sL h a i v) = am_P h := rfl
