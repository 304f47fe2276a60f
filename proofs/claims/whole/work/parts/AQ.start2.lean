/-! ===== the start of the law's loop ===== -/
theorem zl_t9 : ∀ x, x < 480 → zl_t[9 + x]? = some (10, 8) := by decide +kernel
theorem zl_t490 : ∀ x, x < 480 → zl_t[490 + x]? = some (10, 8) := by decide +kernel
theorem zl_t971 : ∀ x, x < 480 → zl_t[971 + x]? = some (10, 8) := by decide +kernel
theorem zl_t1452 : ∀ x, x < 8 → zl_t[1452 + x]? = some (10, 480) := by decide +kernel
theorem zl_t1462 : ∀ x, x < 60 → zl_t[1462 + x]? = some (9, 60) := by decide +kernel
theorem zl_tss : ∀ q ∈ rf_ss, zl_t[q.1]? = some (q.2.1, q.2.2) := by decide +kernel
theorem zl_t0 : zl_t[0]? = some (8, 45) := by decide +kernel
def zl_pE (P : Nat → Nat → Option Nat) : Nat → Nat → Option Nat := zc_p 78 P zl_E
set_option maxRecDepth 100000 in
theorem zl_ps (P : Nat → Nat → Option Nat) : ∀ q ∈ rf_ps, zl_pE P 78 q.1 = some (78 + q.2) := by
  intro q hq
  simp only [rf_ps, List.mem_cons, List.not_mem_nil, or_false] at hq
  rcases hq with rfl | rfl | rfl | rfl | rfl | rfl | rfl | rfl | rfl | rfl | rfl | rfl | rfl | rfl | rfl | rfl | rfl | rfl | rfl | rfl | rfl | rfl | rfl | rfl | rfl | rfl
  all_goals rfl
theorem zl_bl {a b : Nat} (h : a < b) {α : Type} (x y : α) : (bif Nat.ble (a + 1) b then x else y) = x := by
  rw [Nat.ble_eq_true_of_le h]
  rfl
set_option maxRecDepth 100000 in
theorem Rf_mA {h : am_H} {P : Nat → Nat → Option Nat} {L : Nat} {t : List (Nat × Nat)} (hP : ∀ b, b < 1613 → am_P h b = zl_pE P b) (hS : am_S h = ((15, L) :: zl_s) ++ (zl_t ++ t)) : RfAt h 78 := by
  have hl : ((15, L) :: zl_s).length = 78 := by rw [List.length_cons, zl_sl]
  have sh : ∀ b q, zl_t[b]? = some q → (am_S h)[78 + b]? = some q := fun b q e => by
    rw [hS, List.getElem?_append_right (by omega), hl, Nat.add_sub_cancel_left, List.getElem?_append_left (List.getElem?_eq_some_iff.mp e).1]
    exact e
  refine ⟨?_, fun q hq => ?_, fun q hq => sh _ _ (zl_tss q hq), fun x hx => ⟨?_, ?_⟩, fun x hx => ⟨?_, ?_⟩, fun x hx => ⟨?_, ?_⟩, fun x hx => ⟨?_, ?_⟩, fun x hx => ⟨?_, ?_⟩⟩
  · unfold am_kd
    rw [show (am_S h)[78]? = some (8, 45) from sh 0 _ zl_t0]
    rfl
  · rw [hP 78 (by omega)]
    exact zl_ps P q hq
  · rw [hP (78 + 8) (by omega)]
    exact zl_bl hx (some (78 + 9 + x)) none
  · rw [show 78 + 9 + x = 78 + (9 + x) by omega]
    exact sh _ _ (zl_t9 x hx)
  · rw [hP (78 + 489) (by omega)]
    exact zl_bl hx (some (78 + 490 + x)) none
  · rw [show 78 + 490 + x = 78 + (490 + x) by omega]
    exact sh _ _ (zl_t490 x hx)
  · rw [hP (78 + 970) (by omega)]
    exact zl_bl hx (some (78 + 971 + x)) none
  · rw [show 78 + 971 + x = 78 + (971 + x) by omega]
    exact sh _ _ (zl_t971 x hx)
  · rw [hP (78 + 1451) (by omega)]
    exact zl_bl hx (some (78 + 1452 + x)) none
  · rw [show 78 + 1452 + x = 78 + (1452 + x) by omega]
    exact sh _ _ (zl_t1452 x hx)
  · rw [hP (78 + 1461) (by omega)]
    exact zl_bl hx (some (78 + 1462 + x)) none
  · rw [show 78 + 1462 + x = 78 + (1462 + x) by omega]
    exact sh _ _ (zl_t1462 x hx)
/-- the shapes while the law runs -/
def sh_L (L : Nat) : List (Nat × Nat) := ((15, L) :: zl_s) ++ (zl_t ++ [(10, 1)])
/-- what holds at each round of the law -/
def LI (h : am_H) (L : Nat) (xs : Nat → Int32) (g : Nat) : Prop := ∃ o O B x WN WR, CT h o O B x WN WR ∧ RT h 78 O B x WN WR ∧ (∀ k, k < x.2.2.2.2.1 → x.2.2.2.1 k < o_A O) ∧ am_I h 0 = xs ∧ am_S h = sh_L L ∧ am_G h ≤ g ∧ am_T h = 6 * am_G h
def x_0 : XT := (fun _ => 0, 0, -1, fun _ => 0, 0, fun _ => 0)
set_option maxRecDepth 100000 in
theorem Lw_begin (L : Nat) (xs : Nat → Int32) (d : Nat) : ∃ h, f_Lw_law (d + 4) (sg_h L xs) 0 = f_Lw_law_23 (d + 4) h 0 1 78 1613 0 ∧ LI h L xs 0 := by
  obtain ⟨u1, u2, hC, P, e1, eC, S2, G2, T2, P2, ⟨W1, D1, n1, m1⟩, st, W2, i0, i11, i12⟩ := Lc_made L xs d
  have l2 : (am_S u2).length = 37 := by rw [S2, List.length_append, List.length_append, zl_Al, zl_Bl]; rfl
  have SC : am_S hC = (15, L) :: zl_s := by
    rw [eC, zc_Sh, S2]
    simp only [zl_s, List.cons_append, List.nil_append]
  have GC : am_G hC = 0 := by rw [eC, (zc_Gr _ _).1]; exact G2
  have TC : am_T hC = 0 := by rw [eC, (zc_Gr _ _).2]; exact T2
  have PC : am_P hC = zl_pD P := by
    rw [eC, zc_pe zl_D u2 37 l2, P2]
    rfl
  have IC : am_I hC = zc_i 37 (am_I u2) zl_D := by rw [eC]; exact zc_ie zl_D u2 37 l2
  have lC : (am_S hC).length = 78 := by rw [SC, List.length_cons, zl_sl]
  obtain ⟨hD, eD⟩ : ∃ hD, hD = zc_R hC zl_E := ⟨_, rfl⟩
  have SD : am_S hD = ((15, L) :: zl_s) ++ zl_t := by
    rw [eD, zc_Sh, SC]
    rfl
  have GD : am_G hD = 0 := by rw [eD, (zc_Gr _ _).1]; exact GC
  have TD : am_T hD = 0 := by rw [eD, (zc_Gr _ _).2]; exact TC
  have PD : am_P hD = zl_pE (zl_pD P) := by
    rw [eD, zc_pe zl_E hC 78 lC, PC]
    rfl
  have ID : am_I hD = zc_i 78 (am_I hC) zl_E := by rw [eD]; exact zc_ie zl_E hC 78 lC
  have LD : am_L hD = zc_l 78 (am_L hC) zl_E := by rw [eD]; exact zc_le zl_E hC 78 lC
  have alE : ∀ b, b < 78 → zl_E.all (zc_t1 b) = true := by decide +kernel
  have kD : ∀ b, b < 78 → am_I hD b = am_I hC b ∧ am_L hD b = am_L hC b ∧ am_P hD b = am_P hC b := fun b hb => by
    rw [eD]
    exact zc_kp zl_E hC b (by omega) (alE b hb)
  have HD : RfAt hD 78 := Rf_mA (t := []) (P := zl_pD P) (L := L) (fun b _ => by rw [PD]) (by rw [SD, List.append_nil])
  obtain ⟨u3, e3, q3, R3⟩ := Rf_begins (h := hD) (r := 81) (HD.2.2.1 (3, 9, 1604) (by decide)) (d + 1)
  have lD : (am_S hD).length = 1613 := by rw [SD, List.length_append, List.length_cons, zl_sl, zl_tl]
  have l3 : (am_S u3).length = 1613 := by rw [q3.1]; exact lD
  have G3 : am_G u3 = 0 := q3.2.1.trans GD
  obtain ⟨hE, eE⟩ : ∃ hE, hE = am_nw u3 (10, 1) := ⟨_, rfl⟩
  have SE : am_S hE = sh_L L := by
    rw [eE]
    show am_S u3 ++ [(10, 1)] = sh_L L
    rw [q3.1, SD, List.append_assoc]
    rfl
  have kE : ∀ b, b < 1613 → am_I hE b = am_I u3 b ∧ am_L hE b = am_L u3 b ∧ am_P hE b = am_P u3 b := fun b hb => by
    rw [eE]
    refine ⟨?_, ?_, ?_⟩
    · funext j
      exact if_neg (by omega)
    · funext j
      exact if_neg (by omega)
    · funext j
      exact if_neg (by omega)
  have k78 : ∀ b, b < 78 → am_I hE b = am_I hC b ∧ am_L hE b = am_L hC b ∧ am_P hE b = am_P hC b := fun b hb => by
    obtain ⟨a1, a2, a3⟩ := kE b (by omega)
    obtain ⟨b1, b2, b3⟩ := kD b hb
    rw [a1, a2, a3, q3.2.2.2.2.2 b (by omega), q3.2.2.2.2.1, q3.2.2.2.1]
    exact ⟨b1, b2, b3⟩
  have HE : LcAt hE := Lc_mA (P := P) (L := L) (t := zl_t ++ [(10, 1)]) (fun b hb => by rw [(k78 b hb).2.2, PC]) SE
  have RE : RfAt hE 78 := Rf_mA (P := zl_pD P) (L := L) (t := [(10, 1)]) (fun b hb => by rw [(kE b hb).2.2, q3.2.2.2.1, PD]) SE
  have alD : ∀ b, b < 37 → 3 ≤ b → zl_D.all (zc_t1 b) = true := by decide +kernel
  have kC : ∀ b, 3 ≤ b → b < 37 → am_I hC b = am_I u2 b ∧ am_L hC b = am_L u2 b := fun b h1 h2 => by
    have := zc_kp zl_D u2 b (by omega) (alD b h2 h1)
    rw [eC]
    exact ⟨this.1, this.2.1⟩
  have k3 : ∀ b, 3 ≤ b → b < 20 → am_I hE b = am_I u1 b ∧ am_L hE b = am_L u1 b := fun b h1 h2 => by
    obtain ⟨a1, a2, -⟩ := k78 b (by omega)
    obtain ⟨b1, b2⟩ := kC b h1 (by omega)
    obtain ⟨c1, c2⟩ := st b h1 h2
    exact ⟨a1.trans (b1.trans c1), a2.trans (b2.trans c2)⟩
  have WE : OnDW hE 3 d_0 := OnDW_of W1 (k3 _ (by omega) (by omega)).1 (k3 _ (by omega) (by omega)).1 (k3 _ (by omega) (by omega)).2 (k3 _ (by omega) (by omega)).2
  have DE : OnDP hE 3 d_0 := OnDP_of D1 (by rw [(k3 3 (by omega) (by omega)).1]) (fun j h1 h2 => (k3 _ (by omega) (by omega)).1)
  obtain ⟨r1, r2, r3, r4⟩ := On_mk (h := hE) (o := 3) (D := d_0) (Lc_on HE (Or.inl rfl)) d_0w (by decide) WE DE ⟨by rw [(k3 3 (by omega) (by omega)).1]; exact n1, fun k hk => absurd hk (Nat.not_lt_zero k)⟩
  have W20 : WC hE 20 := WC_of (WC_D W2 d_0w) (by rw [(k78 _ (by omega)).1, (kC _ (by omega) (by omega)).1]) (by rw [(k78 _ (by omega)).1, (kC _ (by omega) (by omega)).1])
  have L3 : am_L hE 3 10 = wL (fun _ => False) := by
    rw [(k3 3 (by omega) (by omega)).2, m1]
    exact (wL_0.mpr (fun _ _ e => e)).symm
  have RE3 : RwD hE 81 d_0 := by
    obtain ⟨a1, a2, a3⟩ := R3
    have e := (kE 81 (by omega)).1
    refine ⟨?_, a2, ?_⟩
    · exact RE.2.2.1 (3, 9, 1604) (by decide)
    · rw [e]
      exact a3
  obtain ⟨w1, w2⟩ := RwD_R RE3 d_0w (by decide)
  have fI : ∀ j, am_I hE 78 j = zc_i 78 (am_I hC) zl_E 78 j := fun j => by rw [(kE 78 (by omega)).1, q3.2.2.2.2.2 78 (by omega), ID]
  have f1 : ∀ j, am_I hE 79 j = zc_i 78 (am_I hC) zl_E 79 j := fun j => by rw [(kE 79 (by omega)).1, q3.2.2.2.2.2 79 (by omega), ID]
  have fL : ∀ j, am_L hE 78 j = zc_l 78 (am_L hC) zl_E 78 j := fun j => by rw [(kE 78 (by omega)).2.1, q3.2.2.2.2.1, LD]
  refine ⟨hE, ?_, 3, d_0.1, fun _ => False, x_0, d_0.2.1, d_0.2.2, ⟨⟨HE, ?_, Or.inl rfl, r1, r2, L3, fun k e => e.elim, Or.inl ?_, Or.inl ?_⟩, ⟨Nat.zero_le _, ?_, fun k hk => absurd hk (Nat.not_lt_zero k), ?_, Nat.zero_le _, ?_, fun k hk => absurd hk (Nat.not_lt_zero k), fun k hk => ?_⟩, r3, r4, ?_, WC_D WE d_0w, W20, ⟨0, by omega, ?_⟩, d_0w⟩, ⟨⟨RE, w1, ?_, fun k e => e.elim, Or.inl ?_, Or.inl ?_⟩, ⟨Nat.zero_le _, ?_, fun k hk => absurd hk (Nat.not_lt_zero k), ?_, Nat.zero_le _, ?_, fun k hk => absurd hk (Nat.not_lt_zero k), fun k hk => ?_⟩, w2⟩, fun k hk => absurd hk (Nat.not_lt_zero k), ?_, SE, ?_, ?_⟩
  · have ok : am_kd hC 1 7 = true := by
      unfold am_kd
      rw [SC]
      rfl
    have ri : f_Rf_init (d + 3) (am_nw hC (8, 45)) 78 = some (.inr none, u3) := by
      rw [i_Rf78_0 (d + 3) (h := am_nw hC (8, 45)) GC (zc_kk lC) (zc_lw lC)]
      show f_Rf_init_249 (d + 2 + 1) (zc_R (am_nw hC (8, 45)) zl_Rf78) 78 = _
      rw [show zc_R (am_nw hC (8, 45)) zl_Rf78 = hD by rw [eD]; exact (zc_Ra [zc_N 8 45] zl_Rf78 hC).symm, e_Rf_init_249, lz_p (Rf_k HD) (Rf_p9 HD), lz_cv e3]
    have l0 : (am_S (sg_h L xs)).length = 1 := rfl
    rw [e_Lw_law, zc_ob (h := sg_h L xs) rfl, l0, lz_k (zc_kk (h := sg_h L xs) l0), lz_cv e1, zc_ob GC, lC, lz_k (zc_kk lC), lz_cv ri, l3, G3]
    show f_Lw_law_23 (d + 4) (am_nw u3 (10, 1)) 0 1 78 1613 0 = _
    rw [eE]
  · rw [(k78 1 (by omega)).2.2, PC]
    rfl
  · rw [(k78 1 (by omega)).1, IC]
    rfl
  · rw [(k78 74 (by omega)).1, IC]
    rfl
  · rw [(k78 1 (by omega)).1, IC, show zc_i 37 (am_I u2) zl_D 1 1 = am_I u2 1 1 from rfl, i11]
    rfl
  · rw [(k78 1 (by omega)).1, IC, show zc_i 37 (am_I u2) zl_D 1 2 = am_I u2 1 2 from rfl, i12]
    rfl
  · rw [(k78 1 (by omega)).1, IC]
    rfl
  · rw [(k78 77 (by omega)).1, IC]
    rfl
  · rw [(k78 1 (by omega)).2.2, PC]
    rfl
  · rw [(k78 37 (by omega)).1, IC]
    rfl
  · rw [fL 11]
    exact (wL_0.mpr (fun _ _ e => e)).symm
  · rw [fI 14]
    rfl
  · rw [fI 15]
    rfl
  · rw [fI 2]
    rfl
  · rw [fI 5]
    rfl
  · rw [fI 13]
    rfl
  · rw [f1 k]
    rfl
  · rw [(k78 0 (by omega)).1, eC, (zc_kp zl_D u2 0 (by omega) (by decide +kernel)).1, i0]
  · rw [eE]
    show am_G u3 ≤ 0
    rw [G3]
    exact Nat.le_refl 0
  · rw [eE]
    show am_T u3 = 6 * am_G u3
    rw [G3, q3.2.2.1, TD]
