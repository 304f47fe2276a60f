/-! ===== bitCount both ways ===== -/
/-- the number of a word's bits -/
noncomputable def nb (w : Int64) : Nat := ct (fun k => xl w k = true) 64
noncomputable def nbi (w : Int32) : Nat := ct (fun k => yi w k = true) 32
theorem nb_le (w : Int64) : nb w ≤ 64 := ct_le _ _
theorem nbi_le (w : Int32) : nbi w ≤ 32 := ct_le _ _
theorem bm85 : b_m 85 8 = 6148914691236517205 := by decide
theorem bm51 : b_m 51 8 = 3689348814741910323 := by decide
theorem bm15 : b_m 15 8 = 1085102592571150095 := by decide
theorem bn85 : b_m 85 4 = 1431655765 := by decide
theorem bn51 : b_m 51 4 = 858993459 := by decide
theorem bn15 : b_m 15 4 = 252645135 := by decide
theorem Lo_1 (w : Int64) : un (w - (am_lushr w 1 &&& 6148914691236517205)) = b_1 8 (un w) := by
  have e : un (am_lushr w 1 &&& 6148914691236517205) = (un w / 2) &&& b_m 85 8 := by
    rw [un_and, show (1 : Int32) = nI 1 from by decide, un_shr w 1 (by omega), bm85]
    rfl
  have l : (un w / 2) &&& b_m 85 8 ≤ un w / 2 := Nat.and_le_left
  rw [un_sub _ _ (by rw [e]; omega), e]
  rfl
theorem Lo_2 (w : Int64) : un ((w &&& 3689348814741910323) + (am_lushr w 2 &&& 3689348814741910323)) = b_2 8 (un w) ∧ b_2 8 (un w) ≤ 7378697629483820646 := by
  have e : un (am_lushr w 2 &&& 3689348814741910323) = (un w / 4) &&& b_m 51 8 := by
    rw [un_and, show (2 : Int32) = nI 2 from by decide, un_shr w 2 (by omega), bm51]
    rfl
  have e1 : un (w &&& 3689348814741910323) = un w &&& b_m 51 8 := by
    rw [un_and, bm51]
    rfl
  have l : (un w / 4) &&& b_m 51 8 ≤ b_m 51 8 := Nat.and_le_right
  have l1 : un w &&& b_m 51 8 ≤ b_m 51 8 := Nat.and_le_right
  have l2 := bm51
  refine ⟨?_, by unfold b_2; omega⟩
  rw [un_add _ _ (by rw [e, e1]; omega), e, e1]
  rfl
theorem Lo_3 (w : Int64) (hw : un w ≤ 7378697629483820646) : un ((w + am_lushr w 4) &&& 1085102592571150095) = b_3 8 (un w) ∧ b_3 8 (un w) ≤ 1085102592571150095 := by
  have e : un (am_lushr w 4) = un w / 16 := by
    rw [show (4 : Int32) = nI 4 from by decide, un_shr w 4 (by omega)]
  have l : (un w + un w / 16) &&& b_m 15 8 ≤ b_m 15 8 := Nat.and_le_right
  have l2 := bm15
  refine ⟨?_, by unfold b_3; omega⟩
  rw [un_and, un_add _ _ (by rw [e]; omega), e]
  unfold b_3
  rw [bm15]
  rfl
theorem Lo_4 (w : Int64) (hw : un w ≤ 1085102592571150095) : un ((w + am_lushr w 8 + am_lushr (w + am_lushr w 8) 16) + am_lushr (w + am_lushr w 8 + am_lushr (w + am_lushr w 8) 16) 32) = p_8 (un w) := by
  have s8 : ∀ v, un (am_lushr v 8) = un v / 256 := fun v => by rw [show (8 : Int32) = nI 8 from by decide, un_shr v 8 (by omega)]
  have s16 : ∀ v, un (am_lushr v 16) = un v / 65536 := fun v => by rw [show (16 : Int32) = nI 16 from by decide, un_shr v 16 (by omega)]
  have s32 : ∀ v, un (am_lushr v 32) = un v / 4294967296 := fun v => by rw [show (32 : Int32) = nI 32 from by decide, un_shr v 32 (by omega)]
  have a1 : un (w + am_lushr w 8) = un w + un w / 256 := by rw [un_add _ _ (by rw [s8]; omega), s8]
  have l1 : un (w + am_lushr w 8) ≤ 2 * 1085102592571150095 := by rw [a1]; omega
  generalize w + am_lushr w 8 = u at *
  have a2 : un (u + am_lushr u 16) = un u + un u / 65536 := by rw [un_add _ _ (by rw [s16]; omega), s16]
  have l2 : un (u + am_lushr u 16) ≤ 4 * 1085102592571150095 := by rw [a2]; omega
  generalize u + am_lushr u 16 = v at *
  rw [un_add _ _ (by rw [s32]; omega), s32, a2, a1]
  rfl
theorem Lo_bc (d : Nat) (h : am_H) (w : Int64) : f_Lo_bitCount d h w = some (.inr (some (.int (nI (nb w)))), h) := by
  rw [e_Lo_bitCount]
  have a1 := Lo_1 w
  generalize w - (am_lushr w 1 &&& 6148914691236517205) = A at *
  obtain ⟨a2, l2⟩ := Lo_2 A
  generalize (A &&& 3689348814741910323) + (am_lushr A 2 &&& 3689348814741910323) = C at *
  obtain ⟨a3, l3⟩ := Lo_3 C (by rw [a2]; exact l2)
  generalize (C + am_lushr C 4) &&& 1085102592571150095 = D at *
  have a4 := Lo_4 D (by rw [a3]; exact l3)
  generalize (D + am_lushr D 8 + am_lushr (D + am_lushr D 8) 16) + am_lushr (D + am_lushr D 8 + am_lushr (D + am_lushr D 8) 16) 32 = E at *
  rw [a3, a2, a1, b_123] at a4
  have t := t_s8 (un w)
  rw [← a4, t_Cc] at t
  have q : Int64.toInt32 E &&& 127 = nI (nb w) := by
    apply ui_ext
    have b := nb_le w
    rw [ui_and, un_toI, show ui 127 = 127 from by decide, n_and127, Nat.mod_mod_of_dvd _ (by decide : 128 ∣ 4294967296), t]
    show _ = (nI (nb w)).toBitVec.toNat
    rw [pk_tn (by omega)]
    exact ct_c (fun k _ => by rw [xl_nat]; exact Iff.rfl)
  rw [q]
theorem In_1 (w : Int32) : ui (w - (am_iushr w 1 &&& 1431655765)) = b_1 4 (ui w) := by
  have e : ui (am_iushr w 1 &&& 1431655765) = (ui w / 2) &&& b_m 85 4 := by
    rw [ui_and, show (1 : Int32) = nI 1 from by decide, ui_shr w 1 (by omega), bn85]
    rfl
  have l : (ui w / 2) &&& b_m 85 4 ≤ ui w / 2 := Nat.and_le_left
  rw [ui_sub _ _ (by rw [e]; omega), e]
  rfl
theorem In_2 (w : Int32) : ui ((w &&& 858993459) + (am_iushr w 2 &&& 858993459)) = b_2 4 (ui w) ∧ b_2 4 (ui w) ≤ 1717986918 := by
  have e : ui (am_iushr w 2 &&& 858993459) = (ui w / 4) &&& b_m 51 4 := by
    rw [ui_and, show (2 : Int32) = nI 2 from by decide, ui_shr w 2 (by omega), bn51]
    rfl
  have e1 : ui (w &&& 858993459) = ui w &&& b_m 51 4 := by
    rw [ui_and, bn51]
    rfl
  have l : (ui w / 4) &&& b_m 51 4 ≤ b_m 51 4 := Nat.and_le_right
  have l1 : ui w &&& b_m 51 4 ≤ b_m 51 4 := Nat.and_le_right
  have l2 := bn51
  refine ⟨?_, by unfold b_2; omega⟩
  rw [ui_add _ _ (by rw [e, e1]; omega), e, e1]
  rfl
theorem In_3 (w : Int32) (hw : ui w ≤ 1717986918) : ui ((w + am_iushr w 4) &&& 252645135) = b_3 4 (ui w) ∧ b_3 4 (ui w) ≤ 252645135 := by
  have e : ui (am_iushr w 4) = ui w / 16 := by
    rw [show (4 : Int32) = nI 4 from by decide, ui_shr w 4 (by omega)]
  have l : (ui w + ui w / 16) &&& b_m 15 4 ≤ b_m 15 4 := Nat.and_le_right
  have l2 := bn15
  refine ⟨?_, by unfold b_3; omega⟩
  rw [ui_and, ui_add _ _ (by rw [e]; omega), e]
  unfold b_3
  rw [bn15]
  rfl
theorem In_4 (w : Int32) (hw : ui w ≤ 252645135) : ui (w + am_iushr w 8 + am_iushr (w + am_iushr w 8) 16) = p_4 (ui w) := by
  have s8 : ∀ v, ui (am_iushr v 8) = ui v / 256 := fun v => by rw [show (8 : Int32) = nI 8 from by decide, ui_shr v 8 (by omega)]
  have s16 : ∀ v, ui (am_iushr v 16) = ui v / 65536 := fun v => by rw [show (16 : Int32) = nI 16 from by decide, ui_shr v 16 (by omega)]
  have a1 : ui (w + am_iushr w 8) = ui w + ui w / 256 := by rw [ui_add _ _ (by rw [s8]; omega), s8]
  have l1 : ui (w + am_iushr w 8) ≤ 2 * 252645135 := by rw [a1]; omega
  generalize w + am_iushr w 8 = u at *
  rw [ui_add _ _ (by rw [s16]; omega), s16, a1]
  rfl
theorem In_bc (d : Nat) (h : am_H) (w : Int32) : f_In_bitCount d h w = some (.inr (some (.int (nI (nbi w)))), h) := by
  rw [e_In_bitCount]
  have a1 := In_1 w
  generalize w - (am_iushr w 1 &&& 1431655765) = A at *
  obtain ⟨a2, l2⟩ := In_2 A
  generalize (A &&& 858993459) + (am_iushr A 2 &&& 858993459) = C at *
  obtain ⟨a3, l3⟩ := In_3 C (by rw [a2]; exact l2)
  generalize (C + am_iushr C 4) &&& 252645135 = D at *
  have a4 := In_4 D (by rw [a3]; exact l3)
  generalize D + am_iushr D 8 + am_iushr (D + am_iushr D 8) 16 = E at *
  rw [a3, a2, a1, b_123] at a4
  have t := t_s4 (ui w)
  rw [← a4, t_Cc] at t
  have q : E &&& 63 = nI (nbi w) := by
    apply ui_ext
    have b := nbi_le w
    rw [ui_and, show ui 63 = 63 from by decide, n_and63, t]
    show _ = (nI (nbi w)).toBitVec.toNat
    rw [pk_tn (by omega)]
    rfl
  rw [q]
/-- taking the lowest bit away -/
theorem ct_low {p q : Nat → Prop} : ∀ {n m : Nat}, m < n → p m → (∀ k, k < n → (q k ↔ p k ∧ ¬ k = m)) → ct p n = ct q n + 1
  | 0, m, hm, _, _ => absurd hm (Nat.not_lt_zero m)
  | n + 1, m, hm, h1, h2 => by
    rw [ct, ct]
    by_cases e : m = n
    · subst e
      have : ct p m = ct q m := ct_c (fun k hk => by rw [h2 k (by omega)]; exact ⟨fun a => ⟨a, by omega⟩, fun a => a.1⟩)
      rw [if_pos h1, if_neg (fun a => ((h2 m (by omega)).mp a).2 rfl), this]
    · have i := ct_low (n := n) (m := m) (by omega) h1 (fun k hk => h2 k (by omega))
      rw [i]
      by_cases a : p n
      · rw [if_pos a, if_pos ((h2 n (by omega)).mpr ⟨a, fun x => e x.symm⟩)]
      · rw [if_neg a, if_neg (fun x => a ((h2 n (by omega)).mp x).1)]
theorem nb_0 : nb 0 = 0 := by
  have : ct (fun k => xl 0 k = true) 64 = ct (fun _ => False) 64 := ct_c (fun k _ => by rw [xl_0]; simp)
  show ct (fun k => xl 0 k = true) 64 = 0
  rw [this]
  have : ∀ n, ct (fun _ => False) n = 0 := by
    intro n
    induction n with
    | zero => rfl
    | succ n ih => rw [ct, ih, if_neg id]
  exact this 64
theorem nbl_ {w : Int64} (h : ¬ w = 0) : nb w = nb (w &&& (w - 1)) + 1 := by
  obtain ⟨m, ⟨hm, hx⟩, hl⟩ := pk_least (fun k => k < 64 ∧ xl w k = true) (xl_ne0.mp h)
  refine ct_low hm hx (fun k hk => ?_)
  rw [xl_low h]
  constructor
  · rintro ⟨a, j, b, c⟩
    refine ⟨a, fun e => ?_⟩
    subst e
    exact hl j b ⟨by omega, c⟩
  · rintro ⟨a, b⟩
    refine ⟨a, m, ?_, hx⟩
    rcases Nat.lt_or_ge m k with q | q
    · exact q
    · exact absurd ⟨hk, a⟩ (hl k (by omega))
theorem Rf_bits4 (d : Nat) (h : am_H) : ∀ n w, nb w = n → ∀ i, f_Rf_bits_4 d h (nI i) w = some (.inr (some (.int (nI (i + nb w)))), h)
  | 0, w, hw, i => by
    have e : w = 0 := Classical.byContradiction (fun q => by have := nbl_ q; omega)
    rw [e_Rf_bits_4, if_pos (by rw [lc_e]; exact e), hw]
    rfl
  | n + 1, w, hw, i => by
    have e : ¬ w = 0 := fun q => by rw [q, nb_0] at hw; omega
    have q := nbl_ e
    rw [e_Rf_bits_4, if_neg (by rw [lc_e]; exact e), nI_1, Rf_bits4 d h n _ (by omega) (i + 1), q, Nat.add_assoc, Nat.add_comm 1]
theorem Rf_bits (d : Nat) (h : am_H) (w : Int64) : f_Rf_bits d h w = some (.inr (some (.int (nI (nb w)))), h) := by
  rw [e_Rf_bits]
  have := Rf_bits4 d h _ w rfl 0
  rw [Nat.zero_add] at this
  exact this
