/-! ===== both made: what stands at the start of the law's loop ===== -/
def zl_A : List zc_T := [zc_N 11 400, zc_P 1 0 (some 2), zc_I 1 1 0, zc_I 1 2 (-1), zc_N 2 17] ++ zl_On3
def zl_B : List zc_T := [zc_P 1 3 (some 3), zc_N 2 17] ++ zl_On20
def zl_D : List zc_T := zc_P 1 4 (some 20) :: zl_C
def zl_E : List zc_T := zc_N 8 45 :: zl_Rf78
/-- the shapes of the class's cells behind the script -/
def zl_s : List (Nat × Nat) := [(7, 18)] ++ zc_S zl_A ++ zc_S zl_B ++ zc_S zl_D
def zl_t : List (Nat × Nat) := zc_S zl_E
theorem zl_Al : (zc_S zl_A).length = 18 := by decide +kernel
theorem zl_Bl : (zc_S zl_B).length = 17 := by decide +kernel
theorem zl_sl : zl_s.length = 77 := by decide +kernel
theorem zl_tl : zl_t.length = 1535 := by decide +kernel
/-- references, from what stood before -/
def zl_pA (P : Nat → Nat → Option Nat) : Nat → Nat → Option Nat := zc_p 2 P zl_A
def zl_pB (P : Nat → Nat → Option Nat) : Nat → Nat → Option Nat := zc_p 20 (zl_pA P) zl_B
def zl_pD (P : Nat → Nat → Option Nat) : Nat → Nat → Option Nat := zc_p 37 (zl_pB P) zl_D
theorem On_3A {h : am_H} {P : Nat → Nat → Option Nat} {L : Nat} (hP : am_P h = zl_pA P) (hS : am_S h = ((15, L) :: [(7, 18)]) ++ zc_S zl_A) : OnAt h 3 := by
  unfold OnAt am_kd
  rw [hP, hS]
  repeat' refine And.intro ?_ ?_
  all_goals rfl
theorem On_20B {h : am_H} {P : Nat → Nat → Option Nat} {L : Nat} (hP : am_P h = zl_pB P) (hS : am_S h = (((15, L) :: [(7, 18)]) ++ zc_S zl_A) ++ zc_S zl_B) : OnAt h 20 := by
  unfold OnAt am_kd
  rw [hP, hS]
  repeat' refine And.intro ?_ ?_
  all_goals rfl
theorem Lc_made (L : Nat) (xs : Nat → Int32) (d : Nat) : ∃ (u1 u2 h : am_H) (P : Nat → Nat → Option Nat), f_Lc_init (d + 3) (am_nw (sg_h L xs) (7, 18)) 1 = some (.inr none, h) ∧ h = zc_R u2 zl_D ∧ am_S u2 = (((15, L) :: [(7, 18)]) ++ zc_S zl_A) ++ zc_S zl_B ∧ am_G u2 = 0 ∧ am_T u2 = 0 ∧ am_P u2 = zl_pB P ∧ (OnDW u1 3 d_0 ∧ OnDP u1 3 d_0 ∧ am_I u1 3 9 = nI 0 ∧ am_L u1 3 10 = 0) ∧ (∀ b, 3 ≤ b → b < 20 → am_I u2 b = am_I u1 b ∧ am_L u2 b = am_L u1 b) ∧ OnDW u2 20 d_0 ∧ am_I u2 0 = xs ∧ am_I u2 1 1 = 0 ∧ am_I u2 1 2 = -1 := by
  obtain ⟨h0, e0⟩ : ∃ h0, h0 = am_nw (sg_h L xs) (7, 18) := ⟨_, rfl⟩
  have S0 : am_S h0 = (15, L) :: [(7, 18)] := by rw [e0]; rfl
  have G0 : am_G h0 = 0 := by rw [e0]; rfl
  have T0 : am_T h0 = 0 := by rw [e0]; rfl
  have I0 : am_I h0 0 = xs := by
    rw [e0]
    rfl
  have K0 : am_kd h0 1 7 = true := by
    unfold am_kd
    rw [S0]
    rfl
  have l0 : (am_S h0).length = 2 := by rw [S0]; rfl
  rw [← e0]
  obtain ⟨a1, ea⟩ : ∃ a1, a1 = am_sI (am_sI (am_sP (am_nw h0 (11, 400)) 1 0 (some 2)) 1 1 0) 1 2 (-1) := ⟨_, rfl⟩
  have Ga : am_G a1 = 0 := by rw [ea]; exact G0
  have Ka : am_kd a1 1 7 = true := by rw [ea]; exact zc_kP (q := (11, 400)) (b := 1) (j := 0) (v := some 2) K0
  have la : (am_S a1).length = 3 := by rw [ea]; exact zc_ln (q := (11, 400)) (b := 1) (j := 0) (v := some 2) l0
  obtain ⟨hA, eA⟩ : ∃ hA, hA = zc_R h0 zl_A := ⟨_, rfl⟩
  have PA : am_P hA = zl_pA (am_P h0) := by rw [eA]; exact zc_pe zl_A h0 2 l0
  have SA : am_S hA = ((15, L) :: [(7, 18)]) ++ zc_S zl_A := by rw [eA, zc_Sh, S0]
  have GA : am_G hA = 0 := by rw [eA, (zc_Gr _ _).1]; exact G0
  have TA : am_T hA = 0 := by rw [eA, (zc_Gr _ _).2]; exact T0
  have IA : am_I hA = zc_i 2 (am_I h0) zl_A := by rw [eA]; exact zc_ie zl_A h0 2 l0
  have KA : am_kd hA 1 7 = true := by rw [eA]; exact zc_kR K0
  have OA : OnAt hA 3 := On_3A PA SA
  have lA : (am_S hA).length = 20 := by rw [SA, List.length_append, zl_Al]; rfl
  obtain ⟨u1, c1, q1, W1, D1, n1, m1⟩ := On_clr OA ⟨by rw [IA]; rfl, by rw [IA]; rfl⟩ d
  have o1 : f_On_init (d + 2) (am_nw a1 (2, 17)) 3 = some (.inr none, u1) := by
    rw [i_On3_0 (d + 1) (h := am_nw a1 (2, 17)) Ga (zc_kk la) (zc_lw la)]
    show f_On_init_141 (d + 1 + 1) (zc_R (am_nw a1 (2, 17)) zl_On3) 3 = _
    rw [show zc_R (am_nw a1 (2, 17)) zl_On3 = hA by rw [eA, ea]; exact (zc_Ra [zc_N 11 400, zc_P 1 0 (some 2), zc_I 1 1 0, zc_I 1 2 (-1), zc_N 2 17] zl_On3 h0).symm, e_On_init_141, lz_k (On_k OA), lz_cv c1]
  have K1 : am_kd u1 1 7 = true := by
    have := KA
    unfold am_kd at *
    rw [q1.1]
    exact this
  have G1 : am_G u1 = 0 := q1.2.1.trans GA
  obtain ⟨b1, eb⟩ : ∃ b1, b1 = am_sP u1 1 3 (some 3) := ⟨_, rfl⟩
  have Kb : am_kd b1 1 7 = true := by rw [eb]; exact K1
  have Gb : am_G b1 = 0 := by rw [eb]; exact G1
  have lu : (am_S u1).length = 20 := by rw [q1.1]; exact lA
  have lb : (am_S b1).length = 20 := by rw [eb]; exact lu
  obtain ⟨hB, eB⟩ : ∃ hB, hB = zc_R u1 zl_B := ⟨_, rfl⟩
  have PB' : am_P hB = zl_pB (am_P h0) := by
    rw [eB, zc_pe zl_B u1 20 lu, q1.2.2.2.1, PA]
    rfl
  have SB : am_S hB = (((15, L) :: [(7, 18)]) ++ zc_S zl_A) ++ zc_S zl_B := by rw [eB, zc_Sh, q1.1, SA]
  have GB : am_G hB = 0 := by rw [eB, (zc_Gr _ _).1]; exact G1
  have TB : am_T hB = 0 := by rw [eB, (zc_Gr _ _).2]; exact q1.2.2.1.trans TA
  have IB : am_I hB = zc_i 20 (am_I u1) zl_B := by rw [eB]; exact zc_ie zl_B u1 20 lu
  have KB : am_kd hB 1 7 = true := by rw [eB]; exact zc_kR K1
  have OB : OnAt hB 20 := On_20B PB' SB
  obtain ⟨u2, c2, q2, W2, D2, n2, m2⟩ := On_clr OB ⟨by rw [IB]; rfl, by rw [IB]; rfl⟩ d
  have o2 : f_On_init (d + 2) (am_nw b1 (2, 17)) 20 = some (.inr none, u2) := by
    rw [i_On20_0 (d + 1) (h := am_nw b1 (2, 17)) Gb (zc_kk lb) (zc_lw lb)]
    show f_On_init_141 (d + 1 + 1) (zc_R (am_nw b1 (2, 17)) zl_On20) 20 = _
    rw [show zc_R (am_nw b1 (2, 17)) zl_On20 = hB by rw [eB, eb]; exact (zc_Ra [zc_P 1 3 (some 3), zc_N 2 17] zl_On20 u1).symm, e_On_init_141, lz_k (On_k OB), lz_cv c2]
  have K2 : am_kd u2 1 7 = true := by
    have := KB
    unfold am_kd at *
    rw [q2.1]
    exact this
  have G2 : am_G u2 = 0 := q2.2.1.trans GB
  have l2 : (am_S u2).length = 37 := by rw [q2.1, SB, List.length_append, List.length_append, zl_Al, zl_Bl]; rfl
  have P2 : am_P u2 = zl_pB (am_P h0) := q2.2.2.2.1.trans PB'
  have ni : f_Lc_init_45 (d + 2 + 1) (am_sP u2 1 4 (some 20)) 1 = some (.inr none, zc_R (am_sP u2 1 4 (some 20)) zl_C) := i_Lc_45 (d + 2) (h := am_sP u2 1 4 (some 20)) G2 K2 l2 (zc_pn (by omega) (by rw [P2]; rfl)) (zc_pn (by omega) (by rw [P2]; rfl)) (zc_pq rfl)
  have st : ∀ b, 3 ≤ b → b < 20 → am_I u2 b = am_I u1 b ∧ am_L u2 b = am_L u1 b := fun b h1 h2 => by
    have al : ∀ b, b < 20 → 3 ≤ b → zl_B.all (zc_t1 b) = true := by decide +kernel
    have k := zc_kp zl_B u1 b (by omega) (al b h2 h1)
    have f := q2.2.2.2.2 b (by omega)
    rw [f.1, f.2, eB]
    exact ⟨k.1, k.2.1⟩
  refine ⟨u1, u2, zc_R u2 zl_D, am_P h0, ?_, rfl, q2.1.trans SB, G2, q2.2.2.1.trans TB, P2, ⟨W1, D1, n1, m1⟩, st, W2, ?_, ?_, ?_⟩
  · rw [e_Lc_init, tn_400, zc_al G0 K0 (by decide) (by decide), l0, e_Lc_init_13, lz_k (zc_kP (q := (11, 400)) (b := 1) (j := 0) (v := some 2) K0), e_Lc_init_18, lz_k (show am_kd (am_sI (am_sP (am_nw h0 (11, 400)) 1 0 (some 2)) 1 1 0) 1 7 = true from zc_kP (q := (11, 400)) (b := 1) (j := 0) (v := some 2) K0), ← ea, e_Lc_init_23, zc_ob Ga, la, lz_k (zc_kk la), lz_cv o1, lz_k K1, ← eb, e_Lc_init_34, zc_ob Gb, lb, lz_k (zc_kk lb), lz_cv o2, lz_k K2]
    rw [show zc_R u2 zl_D = zc_R (am_sP u2 1 4 (some 20)) zl_C from zc_cP u2 1 4 (some 20) zl_C]
    exact ni
  · rw [(q2.2.2.2.2 0 (by omega)).1, eB, (zc_kp zl_B u1 0 (by omega) (by decide +kernel)).1, (q1.2.2.2.2 0 (by omega)).1, eA, (zc_kp zl_A h0 0 (by omega) (by decide +kernel)).1, I0]
  · rw [(q2.2.2.2.2 1 (by omega)).1, IB, show zc_i 20 (am_I u1) zl_B 1 1 = am_I u1 1 1 from rfl, (q1.2.2.2.2 1 (by omega)).1, IA]
    rfl
  · rw [(q2.2.2.2.2 1 (by omega)).1, IB, show zc_i 20 (am_I u1) zl_B 1 2 = am_I u1 1 2 from rfl, (q1.2.2.2.2 1 (by omega)).1, IA]
    rfl
/-- cells added behind: what stood stands -/
theorem zc_S_ap {h h' : am_H} {t : List (Nat × Nat)} {b : Nat} {q : Nat × Nat} (hs : am_S h' = am_S h ++ t) (e : (am_S h)[b]? = some q) : (am_S h')[b]? = some q := by
  rw [hs, List.getElem?_append_left (List.getElem?_eq_some_iff.mp e).1]
  exact e
set_option maxRecDepth 100000 in
theorem Lc_mA {h : am_H} {P : Nat → Nat → Option Nat} {L : Nat} {t : List (Nat × Nat)} (hP : ∀ b, b < 78 → am_P h b = zl_pD P b) (hS : am_S h = ((15, L) :: zl_s) ++ t) : LcAt h := by
  refine ⟨?_, ?_, ?_, ?_, ?_, ?_, ?_, ?_⟩
  · intro q hq
    unfold am_kd
    rw [hS]
    simp only [lc_k, List.mem_cons, List.not_mem_nil, or_false] at hq
    rcases hq with rfl | rfl | rfl | rfl
    all_goals rfl
  · intro q hq
    have lt : ∀ q ∈ lc_p, q.1 < 78 := by decide
    rw [hP _ (lt q hq)]
    simp only [lc_p, List.mem_cons, List.not_mem_nil, or_false] at hq
    rcases hq with rfl | rfl | rfl | rfl | rfl | rfl | rfl | rfl | rfl | rfl | rfl | rfl | rfl | rfl | rfl | rfl
    all_goals rfl
  · intro q hq
    rw [hS]
    simp only [lc_s, List.mem_cons, List.not_mem_nil, or_false] at hq
    rcases hq with rfl | rfl | rfl | rfl | rfl | rfl | rfl | rfl
    all_goals rfl
  · unfold SaAt am_kd
    rw [hP 42 (by omega), hS]
    repeat' refine And.intro ?_ ?_
    all_goals rfl
  · unfold SaAt am_kd
    rw [hP 61 (by omega), hS]
    repeat' refine And.intro ?_ ?_
    all_goals rfl
  · unfold HiAt am_kd
    rw [hP 54 (by omega), hS]
    refine ⟨rfl, rfl, rfl, rfl, rfl, rfl, rfl, fun k h1 h7 => ?_⟩
    rcases (show k = 1 ∨ k = 2 ∨ k = 3 ∨ k = 4 ∨ k = 5 ∨ k = 6 by omega) with rfl | rfl | rfl | rfl | rfl | rfl
    all_goals rfl
  · unfold OnAt am_kd
    rw [hP 3 (by omega), hP (3 + 1) (by omega), hP (3 + 3) (by omega), hS]
    repeat' refine And.intro ?_ ?_
    all_goals rfl
  · unfold OnAt am_kd
    rw [hP 20 (by omega), hP (20 + 1) (by omega), hP (20 + 3) (by omega), hS]
    repeat' refine And.intro ?_ ?_
    all_goals rfl
