/-! ===== the law: questions, through the wrappers and in its round ===== -/
def c1c (_ : Nat) : Int32 := 1
theorem nI_i {a b : Nat} (ha : a < 4294967296) (hb : b < 4294967296) (e : nI a = nI b) : a = b := (nI_e32 ha hb).mp e
theorem lw_al {h : am_H} {L : Nat} (hS : am_S h = sh_L L) (K : Int32 → Option am_R) : am_al h 0 K = K (nI L) := al_n (c := 15) (sh_0 hS) (by omega) K
theorem lw_sub {L : Nat} (hL : L ≤ 3072) : (nI L - 6 : Int32).toInt = (L : Int) - 6 := by
  rw [Int32.toInt_sub, nI_toInt (by omega), show (6 : Int32).toInt = 6 from rfl]
  exact Int.bmod_eq_of_le (by omega) (by omega)
theorem lw_lt {n L : Nat} (hn : n + 6 ≤ L) (hL : L ≤ 3072) : ¬ (nI L - 6 : Int32) < nI n := by
  rw [Int32.lt_iff_toInt_lt, lw_sub hL, nI_toInt (by omega)]
  omega
theorem lw_ge {n L : Nat} (hn : L < n + 6) (hL : L ≤ 3072) (h3 : n ≤ 4000) : (nI L - 6 : Int32) < nI n := by
  rw [Int32.lt_iff_toInt_lt, lw_sub hL, nI_toInt (by omega)]
  omega
theorem xa_t {a : Nat ⊕ Value} {x : XT} {m : Nat} (hT : ∀ k, k < x.2.2.2.2.1 → x.2.2.2.1 k < m) : ∀ k, k < (xa a x).2.2.2.2.1 → (xa a x).2.2.2.1 k < m := by
  cases a with
  | inl E => exact hT
  | inr v => exact hT
theorem LI_n {h h' : am_H} {L g o : Nat} {xs : Nat → Int32} {O : o_T} {B : Nat → Prop} {x : XT} {WN WR : Nat → Nat → Nat} (N : LN h h' (fun h => CT h o O B x WN WR) (fun h => RT h 78 O B x WN WR)) (hT : ∀ k, k < x.2.2.2.2.1 → x.2.2.2.1 k < o_A O) (hX : am_I h 0 = xs) (hS : am_S h = sh_L L) (hG : am_G h ≤ g) (hTT : am_T h = 6 * am_G h) : LI h' L xs (g + 1) := by
  obtain ⟨e, h1, he, g1, g2, c1, r2⟩ := N
  refine ⟨o, O, B, x, WN, WR, CT_R c1 g2, r2, hT, ?_, ?_, ?_, ?_⟩
  · rw [(g2.2.2.2.2 0 (by omega)).1, (g1.2.2.2 0 (Or.inr rfl)).1]
    exact hX
  · exact g2.1.trans (g1.1.trans hS)
  · rw [g2.2.1, g1.2.1]
    omega
  · rw [g2.2.2.1, g2.2.1, g1.2.1, g1.2.2.1, hTT]
    omega
noncomputable def a_told (O : o_T) (B : Nat → Prop) (x : XT) (WN WR : Nat → Nat → Nat) (i : Int32) : Nat ⊕ Value := g1 12 i 1 fun w => .inr (q_to O B (nI x.2.1) (nI x.2.2.2.2.1) w)
theorem sp_told (O : o_T) (B : Nat → Prop) (x : XT) (WN WR : Nat → Nat → Nat) (i : Int32) : shI [1] (a_told O B x WN WR i) := shI_g (by decide) fun w => by
  unfold q_to
  show ∃ y, _
  split <;> exact ⟨_, rfl⟩
theorem w_told {h : am_H} {L : Nat} {o : Nat} {O : o_T} {B : Nat → Prop} {x : XT} {WN WR : Nat → Nat → Nat} (hS : am_S h = sh_L L) (C : CT h o O B x WN WR) (i : Int32) (d : Nat) : WO (f_Lw_told (d + 820) h 1 i 1613) h c1c (a_told O B x WN WR i) (fun h => CT h o O B (xa (a_told O B x WN WR i) x) WN WR) := by
  have Q : QQ (f_Lc_told (d + 819) h 1 i) h o O B (a_told O B x WN WR i) := by
    have Q := Lc_q_told C.1 i (d + 813)
    rw [C.2.1.2.1, C.2.1.2.2.2.2.2.1] at Q
    exact Q
  exact WO_Q hS C Q (sp_told O B x WN WR i) (by decide) (fun E hE h2 er => by
    obtain rfl : E = 1 := List.mem_singleton.mp hE
    exact (e_Lw_told_x1 (d + 819) h h2 1 i 1613 er).trans (by rw [e_Lw_told_13]; rfl)) (fun v h2 er => e_Lw_told_v (d + 819) h h2 1 i 1613 v er)
theorem v_told {h : am_H} {O : o_T} {B : Nat → Prop} {x : XT} {WN WR : Nat → Nat → Nat} (D : RT h 78 O B x WN WR) (i : Int32) (d : Nat) : RP (f_Rf_told (d + 820) h 78 i) h c1c (.int 0) (a_told O B x WN WR i) (fun h => RT h 78 O B (xa (a_told O B x WN WR i) x) WN WR) := by
  have Q : RR (f_Rf_told (d + 820) h 78 i) h 78 O B c1c (.int 0) (a_told O B x WN WR i) := by
    have Q := Rf_q_told D.1 i (d + 815)
    rw [D.2.1.2.1, D.2.1.2.2.2.2.2.1] at Q
    exact Q
  exact RP_R (fun E e => by
    have s := sp_told O B x WN WR i
    rw [e] at s
    exact (by decide : ∀ E, E ∈ [1] → E < 3) E s) D Q
theorem r_told {h : am_H} {L n g : Nat} {xs : Nat → Int32} (I : LI h L xs g) (hn : n + 6 ≤ L) (hL : L ≤ 3072) (hs : xs n &&& 31 = 5) (d : Nat) : ∃ h', f_Lw_law_23 (d + 821) h 0 1 78 1613 (nI n) = f_Lw_law_2062 (d + 821) h' 0 1 78 1613 (nI n) ∧ LI h' L xs (g + 1) := by
  obtain ⟨o, O, B, x, WN, WR, C, D, hT, hX, hS, hG, hTT⟩ := I
  obtain ⟨h', e, N⟩ := ln1I (d := d + 820) (n := n) (F := fun h i => f_Lw_told (d + 820) h 1 i 1613) (R := fun h i => f_Rf_told (d + 820) h 78 i) (K := fun h => f_Lw_law_2062 (d + 821) h 0 1 78 1613 (nI n)) (Z := fun h => am_01 0 (some (.inr (some (.int 0)), h))) (c := c1c) (a := a_told O B x WN WR (xs (n + 1))) hS hX hn hL D.1.1 (by decide) (sp_told O B x WN WR (xs (n + 1))) (w_told hS C (xs (n + 1)) d) (fun e h' g => v_told (RT_X D g) (xs (n + 1)) d)
  refine ⟨h', ?_, LI_n N (xa_t hT) hX hS hG hTT⟩
  rw [e_Lw_law_23, lw_al hS, if_neg (lw_lt hn hL), sc_r hS hX (by omega) hL, hX, hs, if_neg (show ¬ (5 : Int32) = 0 by decide), if_neg (show ¬ (5 : Int32) = 1 by decide), if_neg (show ¬ (5 : Int32) = 2 by decide), if_neg (show ¬ (5 : Int32) = 3 by decide), if_neg (show ¬ (5 : Int32) = 4 by decide), if_pos rfl, ← hX]
  exact e
noncomputable def a_axiom (O : o_T) (B : Nat → Prop) (x : XT) (WN WR : Nat → Nat → Nat) (i j : Int32) : Nat ⊕ Value := g1 (o_A O) i 0 fun k => g1 5 j 1 fun w => .inr (q_ax O B k w)
theorem sp_axiom (O : o_T) (B : Nat → Prop) (x : XT) (WN WR : Nat → Nat → Nat) (i j : Int32) : shI [0, 1] (a_axiom O B x WN WR i j) := shI_g (by decide) fun k => shI_g (by decide) fun w => by
  unfold q_ax
  show ∃ y, _
  split <;> exact ⟨_, rfl⟩
theorem w_axiom {h : am_H} {L : Nat} {o : Nat} {O : o_T} {B : Nat → Prop} {x : XT} {WN WR : Nat → Nat → Nat} (hS : am_S h = sh_L L) (C : CT h o O B x WN WR) (i j : Int32) (d : Nat) : WO (f_Lw_axiom (d + 820) h 1 i j 1613) h cq2 (a_axiom O B x WN WR i j) (fun h => CT h o O B (xa (a_axiom O B x WN WR i j) x) WN WR) := by
  have Q : QQ (f_Lc_axiom (d + 819) h 1 i j) h o O B (a_axiom O B x WN WR i j) := Lc_q_axiom C.1 i j (d + 817)
  exact WO_Q hS C Q (sp_axiom O B x WN WR i j) (by decide) (fun E hE h2 er => by
    rcases (show E = 0 ∨ E = 1 by simpa using hE) with rfl | rfl
    · exact (e_Lw_axiom_x0 (d + 819) h h2 1 i j 1613 er).trans (by rw [e_Lw_axiom_15]; rfl)
    · exact (e_Lw_axiom_x1 (d + 819) h h2 1 i j 1613 er).trans (by rw [e_Lw_axiom_19]; rfl)) (fun v h2 er => e_Lw_axiom_v (d + 819) h h2 1 i j 1613 v er)
theorem v_axiom {h : am_H} {O : o_T} {B : Nat → Prop} {x : XT} {WN WR : Nat → Nat → Nat} (D : RT h 78 O B x WN WR) (i j : Int32) (d : Nat) : RP (f_Rf_axiom (d + 820) h 78 i j) h cq2 (.int 0) (a_axiom O B x WN WR i j) (fun h => RT h 78 O B (xa (a_axiom O B x WN WR i j) x) WN WR) := by
  have Q : RR (f_Rf_axiom (d + 820) h 78 i j) h 78 O B cq2 (.int 0) (a_axiom O B x WN WR i j) := Rf_q_axiom D.1 i j (d + 818)
  exact RP_R (fun E e => by
    have s := sp_axiom O B x WN WR i j
    rw [e] at s
    exact (by decide : ∀ E, E ∈ [0, 1] → E < 3) E s) D Q
theorem r_axiom {h : am_H} {L n g : Nat} {xs : Nat → Int32} (I : LI h L xs g) (hn : n + 6 ≤ L) (hL : L ≤ 3072) (hs : xs n &&& 31 = 6) (d : Nat) : ∃ h', f_Lw_law_23 (d + 821) h 0 1 78 1613 (nI n) = f_Lw_law_2062 (d + 821) h' 0 1 78 1613 (nI n) ∧ LI h' L xs (g + 1) := by
  obtain ⟨o, O, B, x, WN, WR, C, D, hT, hX, hS, hG, hTT⟩ := I
  obtain ⟨h', e, N⟩ := ln2I (d := d + 820) (n := n) (F := fun h i j => f_Lw_axiom (d + 820) h 1 i j 1613) (R := fun h i j => f_Rf_axiom (d + 820) h 78 i j) (K := fun h => f_Lw_law_2062 (d + 821) h 0 1 78 1613 (nI n)) (Z := fun h => am_01 0 (some (.inr (some (.int 0)), h))) (c := cq2) (a := a_axiom O B x WN WR (xs (n + 1)) (xs (n + 2))) hS hX hn hL D.1.1 (by decide) (sp_axiom O B x WN WR (xs (n + 1)) (xs (n + 2))) (w_axiom hS C (xs (n + 1)) (xs (n + 2)) d) (fun e h' g => v_axiom (RT_X D g) (xs (n + 1)) (xs (n + 2)) d)
  refine ⟨h', ?_, LI_n N (xa_t hT) hX hS hG hTT⟩
  rw [e_Lw_law_23, lw_al hS, if_neg (lw_lt hn hL), sc_r hS hX (by omega) hL, hX, hs, if_neg (show ¬ (6 : Int32) = 0 by decide), if_neg (show ¬ (6 : Int32) = 1 by decide), if_neg (show ¬ (6 : Int32) = 2 by decide), if_neg (show ¬ (6 : Int32) = 3 by decide), if_neg (show ¬ (6 : Int32) = 4 by decide), if_neg (show ¬ (6 : Int32) = 5 by decide), if_pos rfl, ← hX]
  exact e
noncomputable def a_part (O : o_T) (B : Nat → Prop) (x : XT) (WN WR : Nat → Nat → Nat) (i j : Int32) : Nat ⊕ Value := g1 (o_P O) i 0 fun k => g1 3 j 1 fun w => .inr (q_pt O k w)
theorem sp_part (O : o_T) (B : Nat → Prop) (x : XT) (WN WR : Nat → Nat → Nat) (i j : Int32) : shI [0, 1] (a_part O B x WN WR i j) := shI_g (by decide) fun k => shI_g (by decide) fun w => by
  unfold q_pt
  show ∃ y, _
  split <;> exact ⟨_, rfl⟩
theorem w_part {h : am_H} {L : Nat} {o : Nat} {O : o_T} {B : Nat → Prop} {x : XT} {WN WR : Nat → Nat → Nat} (hS : am_S h = sh_L L) (C : CT h o O B x WN WR) (i j : Int32) (d : Nat) : WO (f_Lw_part (d + 820) h 1 i j 1613) h cq2 (a_part O B x WN WR i j) (fun h => CT h o O B (xa (a_part O B x WN WR i j) x) WN WR) := by
  have Q : QQ (f_Lc_part (d + 819) h 1 i j) h o O B (a_part O B x WN WR i j) := Lc_q_part C.1 i j (d + 817)
  exact WO_Q hS C Q (sp_part O B x WN WR i j) (by decide) (fun E hE h2 er => by
    rcases (show E = 0 ∨ E = 1 by simpa using hE) with rfl | rfl
    · exact (e_Lw_part_x0 (d + 819) h h2 1 i j 1613 er).trans (by rw [e_Lw_part_15]; rfl)
    · exact (e_Lw_part_x1 (d + 819) h h2 1 i j 1613 er).trans (by rw [e_Lw_part_19]; rfl)) (fun v h2 er => e_Lw_part_v (d + 819) h h2 1 i j 1613 v er)
theorem v_part {h : am_H} {O : o_T} {B : Nat → Prop} {x : XT} {WN WR : Nat → Nat → Nat} (D : RT h 78 O B x WN WR) (i j : Int32) (d : Nat) : RP (f_Rf_part (d + 820) h 78 i j) h cq2 (.int 0) (a_part O B x WN WR i j) (fun h => RT h 78 O B (xa (a_part O B x WN WR i j) x) WN WR) := by
  have Q : RR (f_Rf_part (d + 820) h 78 i j) h 78 O B cq2 (.int 0) (a_part O B x WN WR i j) := Rf_q_part D.1 i j (d + 818)
  exact RP_R (fun E e => by
    have s := sp_part O B x WN WR i j
    rw [e] at s
    exact (by decide : ∀ E, E ∈ [0, 1] → E < 3) E s) D Q
theorem r_part {h : am_H} {L n g : Nat} {xs : Nat → Int32} (I : LI h L xs g) (hn : n + 6 ≤ L) (hL : L ≤ 3072) (hs : xs n &&& 31 = 7) (d : Nat) : ∃ h', f_Lw_law_23 (d + 821) h 0 1 78 1613 (nI n) = f_Lw_law_2062 (d + 821) h' 0 1 78 1613 (nI n) ∧ LI h' L xs (g + 1) := by
  obtain ⟨o, O, B, x, WN, WR, C, D, hT, hX, hS, hG, hTT⟩ := I
  obtain ⟨h', e, N⟩ := ln2I (d := d + 820) (n := n) (F := fun h i j => f_Lw_part (d + 820) h 1 i j 1613) (R := fun h i j => f_Rf_part (d + 820) h 78 i j) (K := fun h => f_Lw_law_2062 (d + 821) h 0 1 78 1613 (nI n)) (Z := fun h => am_01 0 (some (.inr (some (.int 0)), h))) (c := cq2) (a := a_part O B x WN WR (xs (n + 1)) (xs (n + 2))) hS hX hn hL D.1.1 (by decide) (sp_part O B x WN WR (xs (n + 1)) (xs (n + 2))) (w_part hS C (xs (n + 1)) (xs (n + 2)) d) (fun e h' g => v_part (RT_X D g) (xs (n + 1)) (xs (n + 2)) d)
  refine ⟨h', ?_, LI_n N (xa_t hT) hX hS hG hTT⟩
  rw [e_Lw_law_23, lw_al hS, if_neg (lw_lt hn hL), sc_r hS hX (by omega) hL, hX, hs, if_neg (show ¬ (7 : Int32) = 0 by decide), if_neg (show ¬ (7 : Int32) = 1 by decide), if_neg (show ¬ (7 : Int32) = 2 by decide), if_neg (show ¬ (7 : Int32) = 3 by decide), if_neg (show ¬ (7 : Int32) = 4 by decide), if_neg (show ¬ (7 : Int32) = 5 by decide), if_neg (show ¬ (7 : Int32) = 6 by decide), if_pos rfl, ← hX]
  exact e
noncomputable def a_letter (O : o_T) (B : Nat → Prop) (x : XT) (WN WR : Nat → Nat → Nat) (i j l : Int32) : Nat ⊕ Value := q_le O WN WR i j l
theorem sp_letter (O : o_T) (B : Nat → Prop) (x : XT) (WN WR : Nat → Nat → Nat) (i j l : Int32) : shI [0] (a_letter O B x WN WR i j l) := by
  unfold a_letter q_le
  exact shI_g (by decide) fun w => shI_g (by decide) fun k => shI_g (by decide) fun t => ⟨_, rfl⟩
theorem w_letter {h : am_H} {L : Nat} {o : Nat} {O : o_T} {B : Nat → Prop} {x : XT} {WN WR : Nat → Nat → Nat} (hS : am_S h = sh_L L) (C : CT h o O B x WN WR) (i j l : Int32) (d : Nat) : WO (f_Lw_letter (d + 820) h 1 i j l 1613) h c1c (a_letter O B x WN WR i j l) (fun h => CT h o O B (xa (a_letter O B x WN WR i j l) x) WN WR) := by
  have Q : QQ (f_Lc_letter (d + 819) h 1 i j l) h o O B (a_letter O B x WN WR i j l) := Lc_q_letter C.1 C.2.2.2.1 i j l (d + 818)
  exact WO_Q hS C Q (sp_letter O B x WN WR i j l) (by decide) (fun E hE h2 er => by
    obtain rfl : E = 0 := List.mem_singleton.mp hE
    exact (e_Lw_letter_x0 (d + 819) h h2 1 i j l 1613 er).trans (by rw [e_Lw_letter_17]; rfl)) (fun v h2 er => e_Lw_letter_v (d + 819) h h2 1 i j l 1613 v er)
theorem v_letter {h : am_H} {O : o_T} {B : Nat → Prop} {x : XT} {WN WR : Nat → Nat → Nat} (D : RT h 78 O B x WN WR) (i j l : Int32) (d : Nat) : RP (f_Rf_letter (d + 820) h 78 i j l) h c1c (.int 0) (a_letter O B x WN WR i j l) (fun h => RT h 78 O B (xa (a_letter O B x WN WR i j l) x) WN WR) := by
  have Q : RR (f_Rf_letter (d + 820) h 78 i j l) h 78 O B c1c (.int 0) (a_letter O B x WN WR i j l) := Rf_q_letter D.1 D.2.2 i j l (d + 818)
  exact RP_R (fun E e => by
    have s := sp_letter O B x WN WR i j l
    rw [e] at s
    exact (by decide : ∀ E, E ∈ [0] → E < 3) E s) D Q
theorem r_letter {h : am_H} {L n g : Nat} {xs : Nat → Int32} (I : LI h L xs g) (hn : n + 6 ≤ L) (hL : L ≤ 3072) (hs : xs n &&& 31 = 8) (d : Nat) : ∃ h', f_Lw_law_23 (d + 821) h 0 1 78 1613 (nI n) = f_Lw_law_2062 (d + 821) h' 0 1 78 1613 (nI n) ∧ LI h' L xs (g + 1) := by
  obtain ⟨o, O, B, x, WN, WR, C, D, hT, hX, hS, hG, hTT⟩ := I
  obtain ⟨h', e, N⟩ := ln3I (d := d + 820) (n := n) (F := fun h i j l => f_Lw_letter (d + 820) h 1 i j l 1613) (R := fun h i j l => f_Rf_letter (d + 820) h 78 i j l) (K := fun h => f_Lw_law_2062 (d + 821) h 0 1 78 1613 (nI n)) (Z := fun h => am_01 0 (some (.inr (some (.int 0)), h))) (c := c1c) (a := a_letter O B x WN WR (xs (n + 1)) (xs (n + 2)) (xs (n + 3))) hS hX hn hL D.1.1 (by decide) (sp_letter O B x WN WR (xs (n + 1)) (xs (n + 2)) (xs (n + 3))) (w_letter hS C (xs (n + 1)) (xs (n + 2)) (xs (n + 3)) d) (fun e h' g => v_letter (RT_X D g) (xs (n + 1)) (xs (n + 2)) (xs (n + 3)) d)
  refine ⟨h', ?_, LI_n N (xa_t hT) hX hS hG hTT⟩
  rw [e_Lw_law_23, lw_al hS, if_neg (lw_lt hn hL), sc_r hS hX (by omega) hL, hX, hs, if_neg (show ¬ (8 : Int32) = 0 by decide), if_neg (show ¬ (8 : Int32) = 1 by decide), if_neg (show ¬ (8 : Int32) = 2 by decide), if_neg (show ¬ (8 : Int32) = 3 by decide), if_neg (show ¬ (8 : Int32) = 4 by decide), if_neg (show ¬ (8 : Int32) = 5 by decide), if_neg (show ¬ (8 : Int32) = 6 by decide), if_neg (show ¬ (8 : Int32) = 7 by decide), if_pos rfl, ← hX]
  exact e
noncomputable def a_named (O : o_T) (B : Nat → Prop) (x : XT) (WN WR : Nat → Nat → Nat) (i : Int32) : Nat ⊕ Value := g1 (o_N O) i 0 fun a => .inr (.int (nI (o_np O a)))
theorem sp_named (O : o_T) (B : Nat → Prop) (x : XT) (WN WR : Nat → Nat → Nat) (i : Int32) : shI [0] (a_named O B x WN WR i) := shI_g (by decide) fun _ => ⟨_, rfl⟩
theorem w_named {h : am_H} {L : Nat} {o : Nat} {O : o_T} {B : Nat → Prop} {x : XT} {WN WR : Nat → Nat → Nat} (hS : am_S h = sh_L L) (C : CT h o O B x WN WR) (i : Int32) (d : Nat) : WO (f_Lw_named (d + 820) h 1 i 1613) h c1c (a_named O B x WN WR i) (fun h => CT h o O B (xa (a_named O B x WN WR i) x) WN WR) := by
  have Q : QQ (f_Lc_named (d + 819) h 1 i) h o O B (a_named O B x WN WR i) := Lc_q_named C.1 i (d + 817)
  exact WO_Q hS C Q (sp_named O B x WN WR i) (by decide) (fun E hE h2 er => by
    obtain rfl : E = 0 := List.mem_singleton.mp hE
    exact (e_Lw_named_x0 (d + 819) h h2 1 i 1613 er).trans (by rw [e_Lw_named_13]; rfl)) (fun v h2 er => e_Lw_named_v (d + 819) h h2 1 i 1613 v er)
theorem v_named {h : am_H} {O : o_T} {B : Nat → Prop} {x : XT} {WN WR : Nat → Nat → Nat} (D : RT h 78 O B x WN WR) (i : Int32) (d : Nat) : RP (f_Rf_named (d + 820) h 78 i) h c1c (.int 0) (a_named O B x WN WR i) (fun h => RT h 78 O B (xa (a_named O B x WN WR i) x) WN WR) := by
  have Q : RR (f_Rf_named (d + 820) h 78 i) h 78 O B c1c (.int 0) (a_named O B x WN WR i) := Rf_q_named D.1 i (d + 818)
  exact RP_R (fun E e => by
    have s := sp_named O B x WN WR i
    rw [e] at s
    exact (by decide : ∀ E, E ∈ [0] → E < 3) E s) D Q
theorem r_named {h : am_H} {L n g : Nat} {xs : Nat → Int32} (I : LI h L xs g) (hn : n + 6 ≤ L) (hL : L ≤ 3072) (hs : xs n &&& 31 = 9) (d : Nat) : ∃ h', f_Lw_law_23 (d + 821) h 0 1 78 1613 (nI n) = f_Lw_law_2062 (d + 821) h' 0 1 78 1613 (nI n) ∧ LI h' L xs (g + 1) := by
  obtain ⟨o, O, B, x, WN, WR, C, D, hT, hX, hS, hG, hTT⟩ := I
  obtain ⟨h', e, N⟩ := ln1I (d := d + 820) (n := n) (F := fun h i => f_Lw_named (d + 820) h 1 i 1613) (R := fun h i => f_Rf_named (d + 820) h 78 i) (K := fun h => f_Lw_law_2062 (d + 821) h 0 1 78 1613 (nI n)) (Z := fun h => am_01 0 (some (.inr (some (.int 0)), h))) (c := c1c) (a := a_named O B x WN WR (xs (n + 1))) hS hX hn hL D.1.1 (by decide) (sp_named O B x WN WR (xs (n + 1))) (w_named hS C (xs (n + 1)) d) (fun e h' g => v_named (RT_X D g) (xs (n + 1)) d)
  refine ⟨h', ?_, LI_n N (xa_t hT) hX hS hG hTT⟩
  rw [e_Lw_law_23, lw_al hS, if_neg (lw_lt hn hL), sc_r hS hX (by omega) hL, hX, hs, if_neg (show ¬ (9 : Int32) = 0 by decide), if_neg (show ¬ (9 : Int32) = 1 by decide), if_neg (show ¬ (9 : Int32) = 2 by decide), if_neg (show ¬ (9 : Int32) = 3 by decide), if_neg (show ¬ (9 : Int32) = 4 by decide), if_neg (show ¬ (9 : Int32) = 5 by decide), if_neg (show ¬ (9 : Int32) = 6 by decide), if_neg (show ¬ (9 : Int32) = 7 by decide), if_neg (show ¬ (9 : Int32) = 8 by decide), if_pos rfl, ← hX]
  exact e
noncomputable def a_below (O : o_T) (B : Nat → Prop) (x : XT) (WN WR : Nat → Nat → Nat) (i j : Int32) : Nat ⊕ Value := g1 (o_P O) i 0 fun x => g1 (o_P O) j 0 fun y => .inr (.int (bo (pd (l_be O B x y))))
theorem sp_below (O : o_T) (B : Nat → Prop) (x : XT) (WN WR : Nat → Nat → Nat) (i j : Int32) : shB [0] (a_below O B x WN WR i j) := shB_g (by decide) fun _ => shB_g (by decide) fun _ => ⟨_, rfl⟩
theorem w_below {h : am_H} {L : Nat} {o : Nat} {O : o_T} {B : Nat → Prop} {x : XT} {WN WR : Nat → Nat → Nat} (hS : am_S h = sh_L L) (C : CT h o O B x WN WR) (i j : Int32) (d : Nat) : WO (f_Lw_below (d + 820) h 1 i j 1613) h c1c (a_below O B x WN WR i j) (fun h => CT h o O B (xa (a_below O B x WN WR i j) x) WN WR) := by
  have Q : QQ (f_Lc_below (d + 819) h 1 i j) h o O B (a_below O B x WN WR i j) := Lc_q_below C.1 i j (d + 814)
  exact WO_QB hS C Q (sp_below O B x WN WR i j) (by decide) (fun E hE h2 er => by
    obtain rfl : E = 0 := List.mem_singleton.mp hE
    exact (e_Lw_below_x0 (d + 819) h h2 1 i j 1613 er).trans (by rw [e_Lw_below_22]; rfl)) (fun v h2 er => e_Lw_below_v (d + 819) h h2 1 i j 1613 v er)
theorem v_below {h : am_H} {O : o_T} {B : Nat → Prop} {x : XT} {WN WR : Nat → Nat → Nat} (D : RT h 78 O B x WN WR) (i j : Int32) (d : Nat) : RP (f_Rf_below (d + 820) h 78 i j) h c1c (.int 0) (a_below O B x WN WR i j) (fun h => RT h 78 O B (xa (a_below O B x WN WR i j) x) WN WR) := by
  have Q : RR (f_Rf_below (d + 820) h 78 i j) h 78 O B c1c (.int 0) (a_below O B x WN WR i j) := Rf_q_below D.1 i j (d + 816)
  exact RP_R (fun E e => by
    have s := sp_below O B x WN WR i j
    rw [e] at s
    exact (by decide : ∀ E, E ∈ [0] → E < 3) E s) D Q
theorem r_below {h : am_H} {L n g : Nat} {xs : Nat → Int32} (I : LI h L xs g) (hn : n + 6 ≤ L) (hL : L ≤ 3072) (hs : xs n &&& 31 = 10) (d : Nat) : ∃ h', f_Lw_law_23 (d + 821) h 0 1 78 1613 (nI n) = f_Lw_law_2062 (d + 821) h' 0 1 78 1613 (nI n) ∧ LI h' L xs (g + 1) := by
  obtain ⟨o, O, B, x, WN, WR, C, D, hT, hX, hS, hG, hTT⟩ := I
  obtain ⟨h', e, N⟩ := ln2B (d := d + 820) (n := n) (F := fun h i j => f_Lw_below (d + 820) h 1 i j 1613) (R := fun h i j => f_Rf_below (d + 820) h 78 i j) (K := fun h => f_Lw_law_2062 (d + 821) h 0 1 78 1613 (nI n)) (Z := fun h => am_01 0 (some (.inr (some (.int 0)), h))) (c := c1c) (a := a_below O B x WN WR (xs (n + 1)) (xs (n + 2))) hS hX hn hL D.1.1 (by decide) (sp_below O B x WN WR (xs (n + 1)) (xs (n + 2))) (w_below hS C (xs (n + 1)) (xs (n + 2)) d) (fun e h' g => v_below (RT_X D g) (xs (n + 1)) (xs (n + 2)) d)
  refine ⟨h', ?_, LI_n N (xa_t hT) hX hS hG hTT⟩
  rw [e_Lw_law_23, lw_al hS, if_neg (lw_lt hn hL), sc_r hS hX (by omega) hL, hX, hs, if_neg (show ¬ (10 : Int32) = 0 by decide), if_neg (show ¬ (10 : Int32) = 1 by decide), if_neg (show ¬ (10 : Int32) = 2 by decide), if_neg (show ¬ (10 : Int32) = 3 by decide), if_neg (show ¬ (10 : Int32) = 4 by decide), if_neg (show ¬ (10 : Int32) = 5 by decide), if_neg (show ¬ (10 : Int32) = 6 by decide), if_neg (show ¬ (10 : Int32) = 7 by decide), if_neg (show ¬ (10 : Int32) = 8 by decide), if_neg (show ¬ (10 : Int32) = 9 by decide), if_pos rfl, ← hX]
  exact e
noncomputable def a_when (O : o_T) (B : Nat → Prop) (x : XT) (WN WR : Nat → Nat → Nat) (i j : Int32) : Nat ⊕ Value := g1 (o_P O) i 0 fun x => g1 (o_P O) j 0 fun y => .inr (.int (q_wh O B x y))
theorem sp_when (O : o_T) (B : Nat → Prop) (x : XT) (WN WR : Nat → Nat → Nat) (i j : Int32) : shI [0] (a_when O B x WN WR i j) := shI_g (by decide) fun _ => shI_g (by decide) fun _ => ⟨_, rfl⟩
theorem w_when {h : am_H} {L : Nat} {o : Nat} {O : o_T} {B : Nat → Prop} {x : XT} {WN WR : Nat → Nat → Nat} (hS : am_S h = sh_L L) (C : CT h o O B x WN WR) (i j : Int32) (d : Nat) : WO (f_Lw_when (d + 820) h 1 i j 1613) h c1c (a_when O B x WN WR i j) (fun h => CT h o O B (xa (a_when O B x WN WR i j) x) WN WR) := by
  have Q : QQ (f_Lc_when (d + 819) h 1 i j) h o O B (a_when O B x WN WR i j) := Lc_q_when C.1 i j (d + 814)
  exact WO_Q hS C Q (sp_when O B x WN WR i j) (by decide) (fun E hE h2 er => by
    obtain rfl : E = 0 := List.mem_singleton.mp hE
    exact (e_Lw_when_x0 (d + 819) h h2 1 i j 1613 er).trans (by rw [e_Lw_when_15]; rfl)) (fun v h2 er => e_Lw_when_v (d + 819) h h2 1 i j 1613 v er)
theorem v_when {h : am_H} {O : o_T} {B : Nat → Prop} {x : XT} {WN WR : Nat → Nat → Nat} (D : RT h 78 O B x WN WR) (i j : Int32) (d : Nat) : RP (f_Rf_when (d + 820) h 78 i j) h c1c (.int 0) (a_when O B x WN WR i j) (fun h => RT h 78 O B (xa (a_when O B x WN WR i j) x) WN WR) := by
  have Q : RR (f_Rf_when (d + 820) h 78 i j) h 78 O B c1c (.int 0) (a_when O B x WN WR i j) := Rf_q_when D.1 i j (d + 816)
  exact RP_R (fun E e => by
    have s := sp_when O B x WN WR i j
    rw [e] at s
    exact (by decide : ∀ E, E ∈ [0] → E < 3) E s) D Q
theorem r_when {h : am_H} {L n g : Nat} {xs : Nat → Int32} (I : LI h L xs g) (hn : n + 6 ≤ L) (hL : L ≤ 3072) (hs : xs n &&& 31 = 11) (d : Nat) : ∃ h', f_Lw_law_23 (d + 821) h 0 1 78 1613 (nI n) = f_Lw_law_2062 (d + 821) h' 0 1 78 1613 (nI n) ∧ LI h' L xs (g + 1) := by
  obtain ⟨o, O, B, x, WN, WR, C, D, hT, hX, hS, hG, hTT⟩ := I
  obtain ⟨h', e, N⟩ := ln2I (d := d + 820) (n := n) (F := fun h i j => f_Lw_when (d + 820) h 1 i j 1613) (R := fun h i j => f_Rf_when (d + 820) h 78 i j) (K := fun h => f_Lw_law_2062 (d + 821) h 0 1 78 1613 (nI n)) (Z := fun h => am_01 0 (some (.inr (some (.int 0)), h))) (c := c1c) (a := a_when O B x WN WR (xs (n + 1)) (xs (n + 2))) hS hX hn hL D.1.1 (by decide) (sp_when O B x WN WR (xs (n + 1)) (xs (n + 2))) (w_when hS C (xs (n + 1)) (xs (n + 2)) d) (fun e h' g => v_when (RT_X D g) (xs (n + 1)) (xs (n + 2)) d)
  refine ⟨h', ?_, LI_n N (xa_t hT) hX hS hG hTT⟩
  rw [e_Lw_law_23, lw_al hS, if_neg (lw_lt hn hL), sc_r hS hX (by omega) hL, hX, hs, if_neg (show ¬ (11 : Int32) = 0 by decide), if_neg (show ¬ (11 : Int32) = 1 by decide), if_neg (show ¬ (11 : Int32) = 2 by decide), if_neg (show ¬ (11 : Int32) = 3 by decide), if_neg (show ¬ (11 : Int32) = 4 by decide), if_neg (show ¬ (11 : Int32) = 5 by decide), if_neg (show ¬ (11 : Int32) = 6 by decide), if_neg (show ¬ (11 : Int32) = 7 by decide), if_neg (show ¬ (11 : Int32) = 8 by decide), if_neg (show ¬ (11 : Int32) = 9 by decide), if_neg (show ¬ (11 : Int32) = 10 by decide), if_pos rfl, ← hX]
  exact e
noncomputable def a_why (O : o_T) (B : Nat → Prop) (x : XT) (WN WR : Nat → Nat → Nat) (i j l : Int32) : Nat ⊕ Value := g1 (o_P O) i 0 fun x => g1 (o_P O) j 0 fun y => g1 2 l 1 fun w => .inr (q_wy O B x y w)
theorem sp_why (O : o_T) (B : Nat → Prop) (x : XT) (WN WR : Nat → Nat → Nat) (i j l : Int32) : shI [0, 1] (a_why O B x WN WR i j l) := shI_g (by decide) fun x => shI_g (by decide) fun y => shI_g (by decide) fun w => by
  unfold q_wy
  show ∃ y, _
  split
  · exact ⟨_, rfl⟩
  · split
    · split <;> exact ⟨_, rfl⟩
    · split <;> exact ⟨_, rfl⟩
theorem w_why {h : am_H} {L : Nat} {o : Nat} {O : o_T} {B : Nat → Prop} {x : XT} {WN WR : Nat → Nat → Nat} (hS : am_S h = sh_L L) (C : CT h o O B x WN WR) (i j l : Int32) (d : Nat) : WO (f_Lw_why (d + 820) h 1 i j l 1613) h cq2 (a_why O B x WN WR i j l) (fun h => CT h o O B (xa (a_why O B x WN WR i j l) x) WN WR) := by
  have Q : QQ (f_Lc_why (d + 819) h 1 i j l) h o O B (a_why O B x WN WR i j l) := Lc_q_why C.1 i j l (d + 814)
  exact WO_Q hS C Q (sp_why O B x WN WR i j l) (by decide) (fun E hE h2 er => by
    rcases (show E = 0 ∨ E = 1 by simpa using hE) with rfl | rfl
    · exact (e_Lw_why_x0 (d + 819) h h2 1 i j l 1613 er).trans (by rw [e_Lw_why_17]; rfl)
    · exact (e_Lw_why_x1 (d + 819) h h2 1 i j l 1613 er).trans (by rw [e_Lw_why_21]; rfl)) (fun v h2 er => e_Lw_why_v (d + 819) h h2 1 i j l 1613 v er)
theorem v_why {h : am_H} {O : o_T} {B : Nat → Prop} {x : XT} {WN WR : Nat → Nat → Nat} (D : RT h 78 O B x WN WR) (i j l : Int32) (d : Nat) : RP (f_Rf_why (d + 820) h 78 i j l) h cq2 (.int 0) (a_why O B x WN WR i j l) (fun h => RT h 78 O B (xa (a_why O B x WN WR i j l) x) WN WR) := by
  have Q : RR (f_Rf_why (d + 820) h 78 i j l) h 78 O B cq2 (.int 0) (a_why O B x WN WR i j l) := Rf_q_why D.1 i j l (d + 816)
  exact RP_R (fun E e => by
    have s := sp_why O B x WN WR i j l
    rw [e] at s
    exact (by decide : ∀ E, E ∈ [0, 1] → E < 3) E s) D Q
theorem r_why {h : am_H} {L n g : Nat} {xs : Nat → Int32} (I : LI h L xs g) (hn : n + 6 ≤ L) (hL : L ≤ 3072) (hs : xs n &&& 31 = 12) (d : Nat) : ∃ h', f_Lw_law_23 (d + 821) h 0 1 78 1613 (nI n) = f_Lw_law_2062 (d + 821) h' 0 1 78 1613 (nI n) ∧ LI h' L xs (g + 1) := by
  obtain ⟨o, O, B, x, WN, WR, C, D, hT, hX, hS, hG, hTT⟩ := I
  obtain ⟨h', e, N⟩ := ln3I (d := d + 820) (n := n) (F := fun h i j l => f_Lw_why (d + 820) h 1 i j l 1613) (R := fun h i j l => f_Rf_why (d + 820) h 78 i j l) (K := fun h => f_Lw_law_2062 (d + 821) h 0 1 78 1613 (nI n)) (Z := fun h => am_01 0 (some (.inr (some (.int 0)), h))) (c := cq2) (a := a_why O B x WN WR (xs (n + 1)) (xs (n + 2)) (xs (n + 3))) hS hX hn hL D.1.1 (by decide) (sp_why O B x WN WR (xs (n + 1)) (xs (n + 2)) (xs (n + 3))) (w_why hS C (xs (n + 1)) (xs (n + 2)) (xs (n + 3)) d) (fun e h' g => v_why (RT_X D g) (xs (n + 1)) (xs (n + 2)) (xs (n + 3)) d)
  refine ⟨h', ?_, LI_n N (xa_t hT) hX hS hG hTT⟩
  rw [e_Lw_law_23, lw_al hS, if_neg (lw_lt hn hL), sc_r hS hX (by omega) hL, hX, hs, if_neg (show ¬ (12 : Int32) = 0 by decide), if_neg (show ¬ (12 : Int32) = 1 by decide), if_neg (show ¬ (12 : Int32) = 2 by decide), if_neg (show ¬ (12 : Int32) = 3 by decide), if_neg (show ¬ (12 : Int32) = 4 by decide), if_neg (show ¬ (12 : Int32) = 5 by decide), if_neg (show ¬ (12 : Int32) = 6 by decide), if_neg (show ¬ (12 : Int32) = 7 by decide), if_neg (show ¬ (12 : Int32) = 8 by decide), if_neg (show ¬ (12 : Int32) = 9 by decide), if_neg (show ¬ (12 : Int32) = 10 by decide), if_neg (show ¬ (12 : Int32) = 11 by decide), if_pos rfl, ← hX]
  exact e
noncomputable def a_link (O : o_T) (B : Nat → Prop) (x : XT) (WN WR : Nat → Nat → Nat) (i j l : Int32) : Nat ⊕ Value := g1 (o_P O) i 0 fun x => g1 (o_R O) j 0 fun r => g1 (o_P O) l 0 fun y => .inr (.int (bo (pd (l_K O B x r y))))
theorem sp_link (O : o_T) (B : Nat → Prop) (x : XT) (WN WR : Nat → Nat → Nat) (i j l : Int32) : shB [0] (a_link O B x WN WR i j l) := shB_g (by decide) fun _ => shB_g (by decide) fun _ => shB_g (by decide) fun _ => ⟨_, rfl⟩
theorem w_link {h : am_H} {L : Nat} {o : Nat} {O : o_T} {B : Nat → Prop} {x : XT} {WN WR : Nat → Nat → Nat} (hS : am_S h = sh_L L) (C : CT h o O B x WN WR) (i j l : Int32) (d : Nat) : WO (f_Lw_link (d + 820) h 1 i j l 1613) h c1c (a_link O B x WN WR i j l) (fun h => CT h o O B (xa (a_link O B x WN WR i j l) x) WN WR) := by
  have Q : QQ (f_Lc_link (d + 819) h 1 i j l) h o O B (a_link O B x WN WR i j l) := Lc_q_link C.1 i j l (d + 814)
  exact WO_QB hS C Q (sp_link O B x WN WR i j l) (by decide) (fun E hE h2 er => by
    obtain rfl : E = 0 := List.mem_singleton.mp hE
    exact (e_Lw_link_x0 (d + 819) h h2 1 i j l 1613 er).trans (by rw [e_Lw_link_24]; rfl)) (fun v h2 er => e_Lw_link_v (d + 819) h h2 1 i j l 1613 v er)
theorem v_link {h : am_H} {O : o_T} {B : Nat → Prop} {x : XT} {WN WR : Nat → Nat → Nat} (D : RT h 78 O B x WN WR) (i j l : Int32) (d : Nat) : RP (f_Rf_link (d + 820) h 78 i j l) h c1c (.int 0) (a_link O B x WN WR i j l) (fun h => RT h 78 O B (xa (a_link O B x WN WR i j l) x) WN WR) := by
  have Q : RR (f_Rf_link (d + 820) h 78 i j l) h 78 O B c1c (.int 0) (a_link O B x WN WR i j l) := Rf_q_link D.1 i j l (d + 816)
  exact RP_R (fun E e => by
    have s := sp_link O B x WN WR i j l
    rw [e] at s
    exact (by decide : ∀ E, E ∈ [0] → E < 3) E s) D Q
theorem r_link {h : am_H} {L n g : Nat} {xs : Nat → Int32} (I : LI h L xs g) (hn : n + 6 ≤ L) (hL : L ≤ 3072) (hs : xs n &&& 31 = 13) (d : Nat) : ∃ h', f_Lw_law_23 (d + 821) h 0 1 78 1613 (nI n) = f_Lw_law_2062 (d + 821) h' 0 1 78 1613 (nI n) ∧ LI h' L xs (g + 1) := by
  obtain ⟨o, O, B, x, WN, WR, C, D, hT, hX, hS, hG, hTT⟩ := I
  obtain ⟨h', e, N⟩ := ln3B (d := d + 820) (n := n) (F := fun h i j l => f_Lw_link (d + 820) h 1 i j l 1613) (R := fun h i j l => f_Rf_link (d + 820) h 78 i j l) (K := fun h => f_Lw_law_2062 (d + 821) h 0 1 78 1613 (nI n)) (Z := fun h => am_01 0 (some (.inr (some (.int 0)), h))) (c := c1c) (a := a_link O B x WN WR (xs (n + 1)) (xs (n + 2)) (xs (n + 3))) hS hX hn hL D.1.1 (by decide) (sp_link O B x WN WR (xs (n + 1)) (xs (n + 2)) (xs (n + 3))) (w_link hS C (xs (n + 1)) (xs (n + 2)) (xs (n + 3)) d) (fun e h' g => v_link (RT_X D g) (xs (n + 1)) (xs (n + 2)) (xs (n + 3)) d)
  refine ⟨h', ?_, LI_n N (xa_t hT) hX hS hG hTT⟩
  rw [e_Lw_law_23, lw_al hS, if_neg (lw_lt hn hL), sc_r hS hX (by omega) hL, hX, hs, if_neg (show ¬ (13 : Int32) = 0 by decide), if_neg (show ¬ (13 : Int32) = 1 by decide), if_neg (show ¬ (13 : Int32) = 2 by decide), if_neg (show ¬ (13 : Int32) = 3 by decide), if_neg (show ¬ (13 : Int32) = 4 by decide), if_neg (show ¬ (13 : Int32) = 5 by decide), if_neg (show ¬ (13 : Int32) = 6 by decide), if_neg (show ¬ (13 : Int32) = 7 by decide), if_neg (show ¬ (13 : Int32) = 8 by decide), if_neg (show ¬ (13 : Int32) = 9 by decide), if_neg (show ¬ (13 : Int32) = 10 by decide), if_neg (show ¬ (13 : Int32) = 11 by decide), if_neg (show ¬ (13 : Int32) = 12 by decide), if_pos rfl, ← hX]
  exact e
noncomputable def a_under (O : o_T) (B : Nat → Prop) (x : XT) (WN WR : Nat → Nat → Nat) (i : Int32) : Nat ⊕ Value := g1 (o_R O) i 0 fun r => .inr (.int (wI (o_un O B r)))
theorem sp_under (O : o_T) (B : Nat → Prop) (x : XT) (WN WR : Nat → Nat → Nat) (i : Int32) : shI [0] (a_under O B x WN WR i) := shI_g (by decide) fun _ => ⟨_, rfl⟩
theorem w_under {h : am_H} {L : Nat} {o : Nat} {O : o_T} {B : Nat → Prop} {x : XT} {WN WR : Nat → Nat → Nat} (hS : am_S h = sh_L L) (C : CT h o O B x WN WR) (i : Int32) (d : Nat) : WO (f_Lw_under (d + 820) h 1 i 1613) h c1c (a_under O B x WN WR i) (fun h => CT h o O B (xa (a_under O B x WN WR i) x) WN WR) := by
  have Q : QQ (f_Lc_under (d + 819) h 1 i) h o O B (a_under O B x WN WR i) := Lc_q_under C.1 i (d + 814)
  exact WO_Q hS C Q (sp_under O B x WN WR i) (by decide) (fun E hE h2 er => by
    obtain rfl : E = 0 := List.mem_singleton.mp hE
    exact (e_Lw_under_x0 (d + 819) h h2 1 i 1613 er).trans (by rw [e_Lw_under_13]; rfl)) (fun v h2 er => e_Lw_under_v (d + 819) h h2 1 i 1613 v er)
theorem v_under {h : am_H} {O : o_T} {B : Nat → Prop} {x : XT} {WN WR : Nat → Nat → Nat} (D : RT h 78 O B x WN WR) (i : Int32) (d : Nat) : RP (f_Rf_under (d + 820) h 78 i) h c1c (.int 0) (a_under O B x WN WR i) (fun h => RT h 78 O B (xa (a_under O B x WN WR i) x) WN WR) := by
  have Q : RR (f_Rf_under (d + 820) h 78 i) h 78 O B c1c (.int 0) (a_under O B x WN WR i) := Rf_q_under D.1 i (d + 816)
  exact RP_R (fun E e => by
    have s := sp_under O B x WN WR i
    rw [e] at s
    exact (by decide : ∀ E, E ∈ [0] → E < 3) E s) D Q
theorem r_under {h : am_H} {L n g : Nat} {xs : Nat → Int32} (I : LI h L xs g) (hn : n + 6 ≤ L) (hL : L ≤ 3072) (hs : xs n &&& 31 = 14) (d : Nat) : ∃ h', f_Lw_law_23 (d + 821) h 0 1 78 1613 (nI n) = f_Lw_law_2062 (d + 821) h' 0 1 78 1613 (nI n) ∧ LI h' L xs (g + 1) := by
  obtain ⟨o, O, B, x, WN, WR, C, D, hT, hX, hS, hG, hTT⟩ := I
  obtain ⟨h', e, N⟩ := ln1I (d := d + 820) (n := n) (F := fun h i => f_Lw_under (d + 820) h 1 i 1613) (R := fun h i => f_Rf_under (d + 820) h 78 i) (K := fun h => f_Lw_law_2062 (d + 821) h 0 1 78 1613 (nI n)) (Z := fun h => am_01 0 (some (.inr (some (.int 0)), h))) (c := c1c) (a := a_under O B x WN WR (xs (n + 1))) hS hX hn hL D.1.1 (by decide) (sp_under O B x WN WR (xs (n + 1))) (w_under hS C (xs (n + 1)) d) (fun e h' g => v_under (RT_X D g) (xs (n + 1)) d)
  refine ⟨h', ?_, LI_n N (xa_t hT) hX hS hG hTT⟩
  rw [e_Lw_law_23, lw_al hS, if_neg (lw_lt hn hL), sc_r hS hX (by omega) hL, hX, hs, if_neg (show ¬ (14 : Int32) = 0 by decide), if_neg (show ¬ (14 : Int32) = 1 by decide), if_neg (show ¬ (14 : Int32) = 2 by decide), if_neg (show ¬ (14 : Int32) = 3 by decide), if_neg (show ¬ (14 : Int32) = 4 by decide), if_neg (show ¬ (14 : Int32) = 5 by decide), if_neg (show ¬ (14 : Int32) = 6 by decide), if_neg (show ¬ (14 : Int32) = 7 by decide), if_neg (show ¬ (14 : Int32) = 8 by decide), if_neg (show ¬ (14 : Int32) = 9 by decide), if_neg (show ¬ (14 : Int32) = 10 by decide), if_neg (show ¬ (14 : Int32) = 11 by decide), if_neg (show ¬ (14 : Int32) = 12 by decide), if_neg (show ¬ (14 : Int32) = 13 by decide), if_pos rfl, ← hX]
  exact e
noncomputable def a_node (O : o_T) (B : Nat → Prop) (x : XT) (WN WR : Nat → Nat → Nat) (i : Int32) : Nat ⊕ Value := g1 (o_N O) i 0 fun a => .inr (.int (q_nc O B a))
theorem sp_node (O : o_T) (B : Nat → Prop) (x : XT) (WN WR : Nat → Nat → Nat) (i : Int32) : shI [0] (a_node O B x WN WR i) := shI_g (by decide) fun _ => ⟨_, rfl⟩
theorem w_node {h : am_H} {L : Nat} {o : Nat} {O : o_T} {B : Nat → Prop} {x : XT} {WN WR : Nat → Nat → Nat} (hS : am_S h = sh_L L) (C : CT h o O B x WN WR) (i : Int32) (d : Nat) : WO (f_Lw_node (d + 820) h 1 i 1613) h c1c (a_node O B x WN WR i) (fun h => CT h o O B (xa (a_node O B x WN WR i) x) WN WR) := by
  have Q : QQ (f_Lc_node (d + 819) h 1 i) h o O B (a_node O B x WN WR i) := Lc_q_node C.1 i (d + 814)
  exact WO_Q hS C Q (sp_node O B x WN WR i) (by decide) (fun E hE h2 er => by
    obtain rfl : E = 0 := List.mem_singleton.mp hE
    exact (e_Lw_node_x0 (d + 819) h h2 1 i 1613 er).trans (by rw [e_Lw_node_13]; rfl)) (fun v h2 er => e_Lw_node_v (d + 819) h h2 1 i 1613 v er)
theorem v_node {h : am_H} {O : o_T} {B : Nat → Prop} {x : XT} {WN WR : Nat → Nat → Nat} (D : RT h 78 O B x WN WR) (i : Int32) (d : Nat) : RP (f_Rf_node (d + 820) h 78 i) h c1c (.int 0) (a_node O B x WN WR i) (fun h => RT h 78 O B (xa (a_node O B x WN WR i) x) WN WR) := by
  have Q : RR (f_Rf_node (d + 820) h 78 i) h 78 O B c1c (.int 0) (a_node O B x WN WR i) := Rf_q_node D.1 i (d + 815)
  exact RP_R (fun E e => by
    have s := sp_node O B x WN WR i
    rw [e] at s
    exact (by decide : ∀ E, E ∈ [0] → E < 3) E s) D Q
theorem r_node {h : am_H} {L n g : Nat} {xs : Nat → Int32} (I : LI h L xs g) (hn : n + 6 ≤ L) (hL : L ≤ 3072) (hs : xs n &&& 31 = 15) (d : Nat) : ∃ h', f_Lw_law_23 (d + 821) h 0 1 78 1613 (nI n) = f_Lw_law_2062 (d + 821) h' 0 1 78 1613 (nI n) ∧ LI h' L xs (g + 1) := by
  obtain ⟨o, O, B, x, WN, WR, C, D, hT, hX, hS, hG, hTT⟩ := I
  obtain ⟨h', e, N⟩ := ln1I (d := d + 820) (n := n) (F := fun h i => f_Lw_node (d + 820) h 1 i 1613) (R := fun h i => f_Rf_node (d + 820) h 78 i) (K := fun h => f_Lw_law_2062 (d + 821) h 0 1 78 1613 (nI n)) (Z := fun h => am_01 0 (some (.inr (some (.int 0)), h))) (c := c1c) (a := a_node O B x WN WR (xs (n + 1))) hS hX hn hL D.1.1 (by decide) (sp_node O B x WN WR (xs (n + 1))) (w_node hS C (xs (n + 1)) d) (fun e h' g => v_node (RT_X D g) (xs (n + 1)) d)
  refine ⟨h', ?_, LI_n N (xa_t hT) hX hS hG hTT⟩
  rw [e_Lw_law_23, lw_al hS, if_neg (lw_lt hn hL), sc_r hS hX (by omega) hL, hX, hs, if_neg (show ¬ (15 : Int32) = 0 by decide), if_neg (show ¬ (15 : Int32) = 1 by decide), if_neg (show ¬ (15 : Int32) = 2 by decide), if_neg (show ¬ (15 : Int32) = 3 by decide), if_neg (show ¬ (15 : Int32) = 4 by decide), if_neg (show ¬ (15 : Int32) = 5 by decide), if_neg (show ¬ (15 : Int32) = 6 by decide), if_neg (show ¬ (15 : Int32) = 7 by decide), if_neg (show ¬ (15 : Int32) = 8 by decide), if_neg (show ¬ (15 : Int32) = 9 by decide), if_neg (show ¬ (15 : Int32) = 10 by decide), if_neg (show ¬ (15 : Int32) = 11 by decide), if_neg (show ¬ (15 : Int32) = 12 by decide), if_neg (show ¬ (15 : Int32) = 13 by decide), if_neg (show ¬ (15 : Int32) = 14 by decide), if_pos rfl, ← hX]
  exact e
noncomputable def a_nodeOf (O : o_T) (B : Nat → Prop) (x : XT) (WN WR : Nat → Nat → Nat) (i j : Int32) : Nat ⊕ Value := g1 (q_M O B) i 0 fun n => g1 6 j 1 fun w => .inr (q_nO O B n w)
theorem sp_nodeOf (O : o_T) (B : Nat → Prop) (x : XT) (WN WR : Nat → Nat → Nat) (i j : Int32) : shI [0, 1] (a_nodeOf O B x WN WR i j) := shI_g (by decide) fun k => shI_g (by decide) fun w => by
  unfold q_nO
  show ∃ y, _
  split <;> exact ⟨_, rfl⟩
theorem w_nodeOf {h : am_H} {L : Nat} {o : Nat} {O : o_T} {B : Nat → Prop} {x : XT} {WN WR : Nat → Nat → Nat} (hS : am_S h = sh_L L) (C : CT h o O B x WN WR) (i j : Int32) (d : Nat) : WO (f_Lw_nodeOf (d + 820) h 1 i j 1613) h cq2 (a_nodeOf O B x WN WR i j) (fun h => CT h o O B (xa (a_nodeOf O B x WN WR i j) x) WN WR) := by
  have Q : QQ (f_Lc_nodeOf (d + 819) h 1 i j) h o O B (a_nodeOf O B x WN WR i j) := Lc_q_nodeOf C.1 i j (d + 814)
  exact WO_Q hS C Q (sp_nodeOf O B x WN WR i j) (by decide) (fun E hE h2 er => by
    rcases (show E = 0 ∨ E = 1 by simpa using hE) with rfl | rfl
    · exact (e_Lw_nodeOf_x0 (d + 819) h h2 1 i j 1613 er).trans (by rw [e_Lw_nodeOf_15]; rfl)
    · exact (e_Lw_nodeOf_x1 (d + 819) h h2 1 i j 1613 er).trans (by rw [e_Lw_nodeOf_19]; rfl)) (fun v h2 er => e_Lw_nodeOf_v (d + 819) h h2 1 i j 1613 v er)
theorem v_nodeOf {h : am_H} {O : o_T} {B : Nat → Prop} {x : XT} {WN WR : Nat → Nat → Nat} (D : RT h 78 O B x WN WR) (i j : Int32) (d : Nat) : RP (f_Rf_nodeOf (d + 820) h 78 i j) h cq2 (.int 0) (a_nodeOf O B x WN WR i j) (fun h => RT h 78 O B (xa (a_nodeOf O B x WN WR i j) x) WN WR) := by
  have Q : RR (f_Rf_nodeOf (d + 820) h 78 i j) h 78 O B cq2 (.int 0) (a_nodeOf O B x WN WR i j) := Rf_q_nodeOf D.1 i j (d + 815)
  exact RP_R (fun E e => by
    have s := sp_nodeOf O B x WN WR i j
    rw [e] at s
    exact (by decide : ∀ E, E ∈ [0, 1] → E < 3) E s) D Q
theorem r_nodeOf {h : am_H} {L n g : Nat} {xs : Nat → Int32} (I : LI h L xs g) (hn : n + 6 ≤ L) (hL : L ≤ 3072) (hs : xs n &&& 31 = 16) (d : Nat) : ∃ h', f_Lw_law_23 (d + 821) h 0 1 78 1613 (nI n) = f_Lw_law_2062 (d + 821) h' 0 1 78 1613 (nI n) ∧ LI h' L xs (g + 1) := by
  obtain ⟨o, O, B, x, WN, WR, C, D, hT, hX, hS, hG, hTT⟩ := I
  obtain ⟨h', e, N⟩ := ln2I (d := d + 820) (n := n) (F := fun h i j => f_Lw_nodeOf (d + 820) h 1 i j 1613) (R := fun h i j => f_Rf_nodeOf (d + 820) h 78 i j) (K := fun h => f_Lw_law_2062 (d + 821) h 0 1 78 1613 (nI n)) (Z := fun h => am_01 0 (some (.inr (some (.int 0)), h))) (c := cq2) (a := a_nodeOf O B x WN WR (xs (n + 1)) (xs (n + 2))) hS hX hn hL D.1.1 (by decide) (sp_nodeOf O B x WN WR (xs (n + 1)) (xs (n + 2))) (w_nodeOf hS C (xs (n + 1)) (xs (n + 2)) d) (fun e h' g => v_nodeOf (RT_X D g) (xs (n + 1)) (xs (n + 2)) d)
  refine ⟨h', ?_, LI_n N (xa_t hT) hX hS hG hTT⟩
  rw [e_Lw_law_23, lw_al hS, if_neg (lw_lt hn hL), sc_r hS hX (by omega) hL, hX, hs, if_neg (show ¬ (16 : Int32) = 0 by decide), if_neg (show ¬ (16 : Int32) = 1 by decide), if_neg (show ¬ (16 : Int32) = 2 by decide), if_neg (show ¬ (16 : Int32) = 3 by decide), if_neg (show ¬ (16 : Int32) = 4 by decide), if_neg (show ¬ (16 : Int32) = 5 by decide), if_neg (show ¬ (16 : Int32) = 6 by decide), if_neg (show ¬ (16 : Int32) = 7 by decide), if_neg (show ¬ (16 : Int32) = 8 by decide), if_neg (show ¬ (16 : Int32) = 9 by decide), if_neg (show ¬ (16 : Int32) = 10 by decide), if_neg (show ¬ (16 : Int32) = 11 by decide), if_neg (show ¬ (16 : Int32) = 12 by decide), if_neg (show ¬ (16 : Int32) = 13 by decide), if_neg (show ¬ (16 : Int32) = 14 by decide), if_neg (show ¬ (16 : Int32) = 15 by decide), if_pos rfl, ← hX]
  exact e
noncomputable def a_common (O : o_T) (B : Nat → Prop) (x : XT) (WN WR : Nat → Nat → Nat) (i j : Int32) : Nat ⊕ Value := g1 (o_N O) i 0 fun a => g1 (o_N O) j 0 fun b => q_co O B a b
theorem sp_common (O : o_T) (B : Nat → Prop) (x : XT) (WN WR : Nat → Nat → Nat) (i j : Int32) : shI [0, 2] (a_common O B x WN WR i j) := shI_g (by decide) fun a => shI_g (by decide) fun b => by
  unfold q_co
  by_cases c : q_vo O B a ∨ q_vo O B b
  · rw [if_pos c]
    show 2 ∈ [0, 2]
    decide
  · rw [if_neg c]
    exact ⟨_, rfl⟩
theorem w_common {h : am_H} {L : Nat} {o : Nat} {O : o_T} {B : Nat → Prop} {x : XT} {WN WR : Nat → Nat → Nat} (hS : am_S h = sh_L L) (C : CT h o O B x WN WR) (i j : Int32) (d : Nat) : WO (f_Lw_common (d + 820) h 1 i j 1613) h cq2 (a_common O B x WN WR i j) (fun h => CT h o O B (xa (a_common O B x WN WR i j) x) WN WR) := by
  have Q : QQ (f_Lc_common (d + 819) h 1 i j) h o O B (a_common O B x WN WR i j) := Lc_q_common C.1 i j (d + 814)
  exact WO_Q hS C Q (sp_common O B x WN WR i j) (by decide) (fun E hE h2 er => by
    rcases (show E = 0 ∨ E = 2 by simpa using hE) with rfl | rfl
    · exact (e_Lw_common_x0 (d + 819) h h2 1 i j 1613 er).trans (by rw [e_Lw_common_15]; rfl)
    · exact (e_Lw_common_x2 (d + 819) h h2 1 i j 1613 er).trans (by rw [e_Lw_common_19]; rfl)) (fun v h2 er => e_Lw_common_v (d + 819) h h2 1 i j 1613 v er)
theorem v_common {h : am_H} {O : o_T} {B : Nat → Prop} {x : XT} {WN WR : Nat → Nat → Nat} (D : RT h 78 O B x WN WR) (i j : Int32) (d : Nat) : RP (f_Rf_common (d + 820) h 78 i j) h cq2 (.int 0) (a_common O B x WN WR i j) (fun h => RT h 78 O B (xa (a_common O B x WN WR i j) x) WN WR) := by
  have Q : RR (f_Rf_common (d + 820) h 78 i j) h 78 O B cq2 (.int 0) (a_common O B x WN WR i j) := Rf_q_common D.1 i j (d + 815)
  exact RP_R (fun E e => by
    have s := sp_common O B x WN WR i j
    rw [e] at s
    exact (by decide : ∀ E, E ∈ [0, 2] → E < 3) E s) D Q
theorem r_common {h : am_H} {L n g : Nat} {xs : Nat → Int32} (I : LI h L xs g) (hn : n + 6 ≤ L) (hL : L ≤ 3072) (hs : xs n &&& 31 = 18) (d : Nat) : ∃ h', f_Lw_law_23 (d + 821) h 0 1 78 1613 (nI n) = f_Lw_law_2062 (d + 821) h' 0 1 78 1613 (nI n) ∧ LI h' L xs (g + 1) := by
  obtain ⟨o, O, B, x, WN, WR, C, D, hT, hX, hS, hG, hTT⟩ := I
  obtain ⟨h', e, N⟩ := ln2I (d := d + 820) (n := n) (F := fun h i j => f_Lw_common (d + 820) h 1 i j 1613) (R := fun h i j => f_Rf_common (d + 820) h 78 i j) (K := fun h => f_Lw_law_2062 (d + 821) h 0 1 78 1613 (nI n)) (Z := fun h => am_01 0 (some (.inr (some (.int 0)), h))) (c := cq2) (a := a_common O B x WN WR (xs (n + 1)) (xs (n + 2))) hS hX hn hL D.1.1 (by decide) (sp_common O B x WN WR (xs (n + 1)) (xs (n + 2))) (w_common hS C (xs (n + 1)) (xs (n + 2)) d) (fun e h' g => v_common (RT_X D g) (xs (n + 1)) (xs (n + 2)) d)
  refine ⟨h', ?_, LI_n N (xa_t hT) hX hS hG hTT⟩
  rw [e_Lw_law_23, lw_al hS, if_neg (lw_lt hn hL), sc_r hS hX (by omega) hL, hX, hs, if_neg (show ¬ (18 : Int32) = 0 by decide), if_neg (show ¬ (18 : Int32) = 1 by decide), if_neg (show ¬ (18 : Int32) = 2 by decide), if_neg (show ¬ (18 : Int32) = 3 by decide), if_neg (show ¬ (18 : Int32) = 4 by decide), if_neg (show ¬ (18 : Int32) = 5 by decide), if_neg (show ¬ (18 : Int32) = 6 by decide), if_neg (show ¬ (18 : Int32) = 7 by decide), if_neg (show ¬ (18 : Int32) = 8 by decide), if_neg (show ¬ (18 : Int32) = 9 by decide), if_neg (show ¬ (18 : Int32) = 10 by decide), if_neg (show ¬ (18 : Int32) = 11 by decide), if_neg (show ¬ (18 : Int32) = 12 by decide), if_neg (show ¬ (18 : Int32) = 13 by decide), if_neg (show ¬ (18 : Int32) = 14 by decide), if_neg (show ¬ (18 : Int32) = 15 by decide), if_neg (show ¬ (18 : Int32) = 16 by decide), if_neg (show ¬ (18 : Int32) = 17 by decide), if_pos rfl, ← hX]
  exact e
noncomputable def a_needed (O : o_T) (B : Nat → Prop) (x : XT) (WN WR : Nat → Nat → Nat) (i j : Int32) : Nat ⊕ Value := g1 (o_N O) i 0 fun a => g1 (o_N O) j 0 fun b => .inr (.long (q_need O B (o_np O a) (o_np O b)))
theorem sp_needed (O : o_T) (B : Nat → Prop) (x : XT) (WN WR : Nat → Nat → Nat) (i j : Int32) : shJ [0] (a_needed O B x WN WR i j) := shJ_g (by decide) fun _ => shJ_g (by decide) fun _ => ⟨_, rfl⟩
theorem w_needed {h : am_H} {L : Nat} {o : Nat} {O : o_T} {B : Nat → Prop} {x : XT} {WN WR : Nat → Nat → Nat} (hS : am_S h = sh_L L) (C : CT h o O B x WN WR) (i j : Int32) (d : Nat) : WO (f_Lw_needed (d + 820) h 1 i j 1613) h c1c (a_needed O B x WN WR i j) (fun h => CT h o O B (xa (a_needed O B x WN WR i j) x) WN WR) := by
  have Q : QQ (f_Lc_needed (d + 819) h 1 i j) h o O B (a_needed O B x WN WR i j) := Lc_q_needed C.1 i j (d + 813)
  exact WO_QJ hS C Q (sp_needed O B x WN WR i j) (by decide) (fun E hE h2 er => by
    obtain rfl : E = 0 := List.mem_singleton.mp hE
    exact (e_Lw_needed_x0 (d + 819) h h2 1 i j 1613 er).trans (by rw [e_Lw_needed_14]; rfl)) (fun v h2 er => e_Lw_needed_v (d + 819) h h2 1 i j 1613 v er)
theorem v_needed {h : am_H} {O : o_T} {B : Nat → Prop} {x : XT} {WN WR : Nat → Nat → Nat} (D : RT h 78 O B x WN WR) (i j : Int32) (d : Nat) : RP (f_Rf_needed (d + 820) h 78 i j) h c1c (.long 0) (a_needed O B x WN WR i j) (fun h => RT h 78 O B (xa (a_needed O B x WN WR i j) x) WN WR) := by
  have Q : RR (f_Rf_needed (d + 820) h 78 i j) h 78 O B c1c (.long 0) (a_needed O B x WN WR i j) := Rf_q_needed D.1 i j (d + 814)
  exact RP_R (fun E e => by
    have s := sp_needed O B x WN WR i j
    rw [e] at s
    exact (by decide : ∀ E, E ∈ [0] → E < 3) E s) D Q
theorem r_needed {h : am_H} {L n g : Nat} {xs : Nat → Int32} (I : LI h L xs g) (hn : n + 6 ≤ L) (hL : L ≤ 3072) (hs : xs n &&& 31 = 19) (d : Nat) : ∃ h', f_Lw_law_23 (d + 821) h 0 1 78 1613 (nI n) = f_Lw_law_2062 (d + 821) h' 0 1 78 1613 (nI n) ∧ LI h' L xs (g + 1) := by
  obtain ⟨o, O, B, x, WN, WR, C, D, hT, hX, hS, hG, hTT⟩ := I
  obtain ⟨h', e, N⟩ := ln2J (d := d + 820) (n := n) (F := fun h i j => f_Lw_needed (d + 820) h 1 i j 1613) (R := fun h i j => f_Rf_needed (d + 820) h 78 i j) (K := fun h => f_Lw_law_2062 (d + 821) h 0 1 78 1613 (nI n)) (Z := fun h => am_01 0 (some (.inr (some (.int 0)), h))) (c := c1c) (a := a_needed O B x WN WR (xs (n + 1)) (xs (n + 2))) hS hX hn hL D.1.1 (by decide) (sp_needed O B x WN WR (xs (n + 1)) (xs (n + 2))) (w_needed hS C (xs (n + 1)) (xs (n + 2)) d) (fun e h' g => v_needed (RT_X D g) (xs (n + 1)) (xs (n + 2)) d)
  refine ⟨h', ?_, LI_n N (xa_t hT) hX hS hG hTT⟩
  rw [e_Lw_law_23, lw_al hS, if_neg (lw_lt hn hL), sc_r hS hX (by omega) hL, hX, hs, if_neg (show ¬ (19 : Int32) = 0 by decide), if_neg (show ¬ (19 : Int32) = 1 by decide), if_neg (show ¬ (19 : Int32) = 2 by decide), if_neg (show ¬ (19 : Int32) = 3 by decide), if_neg (show ¬ (19 : Int32) = 4 by decide), if_neg (show ¬ (19 : Int32) = 5 by decide), if_neg (show ¬ (19 : Int32) = 6 by decide), if_neg (show ¬ (19 : Int32) = 7 by decide), if_neg (show ¬ (19 : Int32) = 8 by decide), if_neg (show ¬ (19 : Int32) = 9 by decide), if_neg (show ¬ (19 : Int32) = 10 by decide), if_neg (show ¬ (19 : Int32) = 11 by decide), if_neg (show ¬ (19 : Int32) = 12 by decide), if_neg (show ¬ (19 : Int32) = 13 by decide), if_neg (show ¬ (19 : Int32) = 14 by decide), if_neg (show ¬ (19 : Int32) = 15 by decide), if_neg (show ¬ (19 : Int32) = 16 by decide), if_neg (show ¬ (19 : Int32) = 17 by decide), if_neg (show ¬ (19 : Int32) = 18 by decide), if_pos rfl, ← hX]
  exact e
noncomputable def a_enough (O : o_T) (B : Nat → Prop) (x : XT) (WN WR : Nat → Nat → Nat) (i j : Int32) : Nat ⊕ Value := g1 (o_N O) i 0 fun a => g1 (o_N O) j 0 fun b => .inr (.long (q_en O B (o_np O a) (o_np O b)))
theorem sp_enough (O : o_T) (B : Nat → Prop) (x : XT) (WN WR : Nat → Nat → Nat) (i j : Int32) : shJ [0] (a_enough O B x WN WR i j) := shJ_g (by decide) fun _ => shJ_g (by decide) fun _ => ⟨_, rfl⟩
theorem w_enough {h : am_H} {L : Nat} {o : Nat} {O : o_T} {B : Nat → Prop} {x : XT} {WN WR : Nat → Nat → Nat} (hS : am_S h = sh_L L) (C : CT h o O B x WN WR) (i j : Int32) (d : Nat) : WO (f_Lw_enough (d + 820) h 1 i j 1613) h c1c (a_enough O B x WN WR i j) (fun h => CT h o O B (xa (a_enough O B x WN WR i j) x) WN WR) := by
  have Q : QQ (f_Lc_enough (d + 819) h 1 i j) h o O B (a_enough O B x WN WR i j) := Lc_q_enough C.1 i j (d + 813)
  exact WO_QJ hS C Q (sp_enough O B x WN WR i j) (by decide) (fun E hE h2 er => by
    obtain rfl : E = 0 := List.mem_singleton.mp hE
    exact (e_Lw_enough_x0 (d + 819) h h2 1 i j 1613 er).trans (by rw [e_Lw_enough_14]; rfl)) (fun v h2 er => e_Lw_enough_v (d + 819) h h2 1 i j 1613 v er)
theorem v_enough {h : am_H} {O : o_T} {B : Nat → Prop} {x : XT} {WN WR : Nat → Nat → Nat} (D : RT h 78 O B x WN WR) (i j : Int32) (d : Nat) : RP (f_Rf_enough (d + 820) h 78 i j) h c1c (.long 0) (a_enough O B x WN WR i j) (fun h => RT h 78 O B (xa (a_enough O B x WN WR i j) x) WN WR) := by
  have Q : RR (f_Rf_enough (d + 820) h 78 i j) h 78 O B c1c (.long 0) (a_enough O B x WN WR i j) := Rf_q_enough D.1 i j (d + 814)
  exact RP_R (fun E e => by
    have s := sp_enough O B x WN WR i j
    rw [e] at s
    exact (by decide : ∀ E, E ∈ [0] → E < 3) E s) D Q
theorem r_enough {h : am_H} {L n g : Nat} {xs : Nat → Int32} (I : LI h L xs g) (hn : n + 6 ≤ L) (hL : L ≤ 3072) (hs : xs n &&& 31 = 20) (d : Nat) : ∃ h', f_Lw_law_23 (d + 821) h 0 1 78 1613 (nI n) = f_Lw_law_2062 (d + 821) h' 0 1 78 1613 (nI n) ∧ LI h' L xs (g + 1) := by
  obtain ⟨o, O, B, x, WN, WR, C, D, hT, hX, hS, hG, hTT⟩ := I
  obtain ⟨h', e, N⟩ := ln2J (d := d + 820) (n := n) (F := fun h i j => f_Lw_enough (d + 820) h 1 i j 1613) (R := fun h i j => f_Rf_enough (d + 820) h 78 i j) (K := fun h => f_Lw_law_2062 (d + 821) h 0 1 78 1613 (nI n)) (Z := fun h => am_01 0 (some (.inr (some (.int 0)), h))) (c := c1c) (a := a_enough O B x WN WR (xs (n + 1)) (xs (n + 2))) hS hX hn hL D.1.1 (by decide) (sp_enough O B x WN WR (xs (n + 1)) (xs (n + 2))) (w_enough hS C (xs (n + 1)) (xs (n + 2)) d) (fun e h' g => v_enough (RT_X D g) (xs (n + 1)) (xs (n + 2)) d)
  refine ⟨h', ?_, LI_n N (xa_t hT) hX hS hG hTT⟩
  rw [e_Lw_law_23, lw_al hS, if_neg (lw_lt hn hL), sc_r hS hX (by omega) hL, hX, hs, if_neg (show ¬ (20 : Int32) = 0 by decide), if_neg (show ¬ (20 : Int32) = 1 by decide), if_neg (show ¬ (20 : Int32) = 2 by decide), if_neg (show ¬ (20 : Int32) = 3 by decide), if_neg (show ¬ (20 : Int32) = 4 by decide), if_neg (show ¬ (20 : Int32) = 5 by decide), if_neg (show ¬ (20 : Int32) = 6 by decide), if_neg (show ¬ (20 : Int32) = 7 by decide), if_neg (show ¬ (20 : Int32) = 8 by decide), if_neg (show ¬ (20 : Int32) = 9 by decide), if_neg (show ¬ (20 : Int32) = 10 by decide), if_neg (show ¬ (20 : Int32) = 11 by decide), if_neg (show ¬ (20 : Int32) = 12 by decide), if_neg (show ¬ (20 : Int32) = 13 by decide), if_neg (show ¬ (20 : Int32) = 14 by decide), if_neg (show ¬ (20 : Int32) = 15 by decide), if_neg (show ¬ (20 : Int32) = 16 by decide), if_neg (show ¬ (20 : Int32) = 17 by decide), if_neg (show ¬ (20 : Int32) = 18 by decide), if_neg (show ¬ (20 : Int32) = 19 by decide), if_pos rfl, ← hX]
  exact e
noncomputable def a_reason (O : o_T) (B : Nat → Prop) (x : XT) (WN WR : Nat → Nat → Nat) (i j l : Int32) : Nat ⊕ Value := g1 (o_N O) i 0 fun a => g1 (o_N O) j 0 fun b => .inr (.long (q_rs O B (o_np O a) (o_np O b) l))
theorem sp_reason (O : o_T) (B : Nat → Prop) (x : XT) (WN WR : Nat → Nat → Nat) (i j l : Int32) : shJ [0] (a_reason O B x WN WR i j l) := shJ_g (by decide) fun _ => shJ_g (by decide) fun _ => ⟨_, rfl⟩
theorem w_reason {h : am_H} {L : Nat} {o : Nat} {O : o_T} {B : Nat → Prop} {x : XT} {WN WR : Nat → Nat → Nat} (hS : am_S h = sh_L L) (C : CT h o O B x WN WR) (i j l : Int32) (d : Nat) : WO (f_Lw_reason (d + 820) h 1 i j l 1613) h c1c (a_reason O B x WN WR i j l) (fun h => CT h o O B (xa (a_reason O B x WN WR i j l) x) WN WR) := by
  have Q : QQ (f_Lc_reason (d + 819) h 1 i j l) h o O B (a_reason O B x WN WR i j l) := Lc_q_reason C.1 i j l (d + 807)
  exact WO_QJ hS C Q (sp_reason O B x WN WR i j l) (by decide) (fun E hE h2 er => by
    obtain rfl : E = 0 := List.mem_singleton.mp hE
    exact (e_Lw_reason_x0 (d + 819) h h2 1 i j l 1613 er).trans (by rw [e_Lw_reason_16]; rfl)) (fun v h2 er => e_Lw_reason_v (d + 819) h h2 1 i j l 1613 v er)
theorem v_reason {h : am_H} {O : o_T} {B : Nat → Prop} {x : XT} {WN WR : Nat → Nat → Nat} (D : RT h 78 O B x WN WR) (i j l : Int32) (d : Nat) : RP (f_Rf_reason (d + 820) h 78 i j l) h c1c (.long 0) (a_reason O B x WN WR i j l) (fun h => RT h 78 O B (xa (a_reason O B x WN WR i j l) x) WN WR) := by
  have Q : RR (f_Rf_reason (d + 820) h 78 i j l) h 78 O B c1c (.long 0) (a_reason O B x WN WR i j l) := Rf_q_reason D.1 i j l (d + 779)
  exact RP_R (fun E e => by
    have s := sp_reason O B x WN WR i j l
    rw [e] at s
    exact (by decide : ∀ E, E ∈ [0] → E < 3) E s) D Q
theorem r_reason {h : am_H} {L n g : Nat} {xs : Nat → Int32} (I : LI h L xs g) (hn : n + 6 ≤ L) (hL : L ≤ 3072) (hs : xs n &&& 31 = 21) (d : Nat) : ∃ h', f_Lw_law_23 (d + 821) h 0 1 78 1613 (nI n) = f_Lw_law_2062 (d + 821) h' 0 1 78 1613 (nI n) ∧ LI h' L xs (g + 1) := by
  obtain ⟨o, O, B, x, WN, WR, C, D, hT, hX, hS, hG, hTT⟩ := I
  obtain ⟨h', e, N⟩ := ln3J (d := d + 820) (n := n) (F := fun h i j l => f_Lw_reason (d + 820) h 1 i j l 1613) (R := fun h i j l => f_Rf_reason (d + 820) h 78 i j l) (K := fun h => f_Lw_law_2062 (d + 821) h 0 1 78 1613 (nI n)) (Z := fun h => am_01 0 (some (.inr (some (.int 0)), h))) (c := c1c) (a := a_reason O B x WN WR (xs (n + 1)) (xs (n + 2)) (xs (n + 3))) hS hX hn hL D.1.1 (by decide) (sp_reason O B x WN WR (xs (n + 1)) (xs (n + 2)) (xs (n + 3))) (w_reason hS C (xs (n + 1)) (xs (n + 2)) (xs (n + 3)) d) (fun e h' g => v_reason (RT_X D g) (xs (n + 1)) (xs (n + 2)) (xs (n + 3)) d)
  refine ⟨h', ?_, LI_n N (xa_t hT) hX hS hG hTT⟩
  rw [e_Lw_law_23, lw_al hS, if_neg (lw_lt hn hL), sc_r hS hX (by omega) hL, hX, hs, if_neg (show ¬ (21 : Int32) = 0 by decide), if_neg (show ¬ (21 : Int32) = 1 by decide), if_neg (show ¬ (21 : Int32) = 2 by decide), if_neg (show ¬ (21 : Int32) = 3 by decide), if_neg (show ¬ (21 : Int32) = 4 by decide), if_neg (show ¬ (21 : Int32) = 5 by decide), if_neg (show ¬ (21 : Int32) = 6 by decide), if_neg (show ¬ (21 : Int32) = 7 by decide), if_neg (show ¬ (21 : Int32) = 8 by decide), if_neg (show ¬ (21 : Int32) = 9 by decide), if_neg (show ¬ (21 : Int32) = 10 by decide), if_neg (show ¬ (21 : Int32) = 11 by decide), if_neg (show ¬ (21 : Int32) = 12 by decide), if_neg (show ¬ (21 : Int32) = 13 by decide), if_neg (show ¬ (21 : Int32) = 14 by decide), if_neg (show ¬ (21 : Int32) = 15 by decide), if_neg (show ¬ (21 : Int32) = 16 by decide), if_neg (show ¬ (21 : Int32) = 17 by decide), if_neg (show ¬ (21 : Int32) = 18 by decide), if_neg (show ¬ (21 : Int32) = 19 by decide), if_neg (show ¬ (21 : Int32) = 20 by decide), if_pos rfl, ← hX]
  exact e
noncomputable def a_repair (O : o_T) (B : Nat → Prop) (x : XT) (WN WR : Nat → Nat → Nat) (i j : Int32) : Nat ⊕ Value := g1 (o_N O) i 0 fun a => g1 (o_N O) j 0 fun b => .inr (.long (q_fix O B (o_np O a) (o_np O b)))
theorem sp_repair (O : o_T) (B : Nat → Prop) (x : XT) (WN WR : Nat → Nat → Nat) (i j : Int32) : shJ [0] (a_repair O B x WN WR i j) := shJ_g (by decide) fun _ => shJ_g (by decide) fun _ => ⟨_, rfl⟩
theorem w_repair {h : am_H} {L : Nat} {o : Nat} {O : o_T} {B : Nat → Prop} {x : XT} {WN WR : Nat → Nat → Nat} (hS : am_S h = sh_L L) (C : CT h o O B x WN WR) (i j : Int32) (d : Nat) : WO (f_Lw_repair (d + 820) h 1 i j 1613) h c1c (a_repair O B x WN WR i j) (fun h => CT h o O B (xa (a_repair O B x WN WR i j) x) WN WR) := by
  have Q : QQ (f_Lc_repair (d + 819) h 1 i j) h o O B (a_repair O B x WN WR i j) := Lc_q_repair C.1 i j (d + 807)
  exact WO_QJ hS C Q (sp_repair O B x WN WR i j) (by decide) (fun E hE h2 er => by
    obtain rfl : E = 0 := List.mem_singleton.mp hE
    exact (e_Lw_repair_x0 (d + 819) h h2 1 i j 1613 er).trans (by rw [e_Lw_repair_14]; rfl)) (fun v h2 er => e_Lw_repair_v (d + 819) h h2 1 i j 1613 v er)
theorem v_repair {h : am_H} {O : o_T} {B : Nat → Prop} {x : XT} {WN WR : Nat → Nat → Nat} (D : RT h 78 O B x WN WR) (i j : Int32) (d : Nat) : RP (f_Rf_repair (d + 820) h 78 i j) h c1c (.long 0) (a_repair O B x WN WR i j) (fun h => RT h 78 O B (xa (a_repair O B x WN WR i j) x) WN WR) := by
  have Q : RR (f_Rf_repair (d + 820) h 78 i j) h 78 O B c1c (.long 0) (a_repair O B x WN WR i j) := Rf_q_repair D.1 i j (d + 779)
  exact RP_R (fun E e => by
    have s := sp_repair O B x WN WR i j
    rw [e] at s
    exact (by decide : ∀ E, E ∈ [0] → E < 3) E s) D Q
theorem r_repair {h : am_H} {L n g : Nat} {xs : Nat → Int32} (I : LI h L xs g) (hn : n + 6 ≤ L) (hL : L ≤ 3072) (hs : xs n &&& 31 = 22) (d : Nat) : ∃ h', f_Lw_law_23 (d + 821) h 0 1 78 1613 (nI n) = f_Lw_law_2062 (d + 821) h' 0 1 78 1613 (nI n) ∧ LI h' L xs (g + 1) := by
  obtain ⟨o, O, B, x, WN, WR, C, D, hT, hX, hS, hG, hTT⟩ := I
  obtain ⟨h', e, N⟩ := ln2J (d := d + 820) (n := n) (F := fun h i j => f_Lw_repair (d + 820) h 1 i j 1613) (R := fun h i j => f_Rf_repair (d + 820) h 78 i j) (K := fun h => f_Lw_law_2062 (d + 821) h 0 1 78 1613 (nI n)) (Z := fun h => am_01 0 (some (.inr (some (.int 0)), h))) (c := c1c) (a := a_repair O B x WN WR (xs (n + 1)) (xs (n + 2))) hS hX hn hL D.1.1 (by decide) (sp_repair O B x WN WR (xs (n + 1)) (xs (n + 2))) (w_repair hS C (xs (n + 1)) (xs (n + 2)) d) (fun e h' g => v_repair (RT_X D g) (xs (n + 1)) (xs (n + 2)) d)
  refine ⟨h', ?_, LI_n N (xa_t hT) hX hS hG hTT⟩
  rw [e_Lw_law_23, lw_al hS, if_neg (lw_lt hn hL), sc_r hS hX (by omega) hL, hX, hs, if_neg (show ¬ (22 : Int32) = 0 by decide), if_neg (show ¬ (22 : Int32) = 1 by decide), if_neg (show ¬ (22 : Int32) = 2 by decide), if_neg (show ¬ (22 : Int32) = 3 by decide), if_neg (show ¬ (22 : Int32) = 4 by decide), if_neg (show ¬ (22 : Int32) = 5 by decide), if_neg (show ¬ (22 : Int32) = 6 by decide), if_neg (show ¬ (22 : Int32) = 7 by decide), if_neg (show ¬ (22 : Int32) = 8 by decide), if_neg (show ¬ (22 : Int32) = 9 by decide), if_neg (show ¬ (22 : Int32) = 10 by decide), if_neg (show ¬ (22 : Int32) = 11 by decide), if_neg (show ¬ (22 : Int32) = 12 by decide), if_neg (show ¬ (22 : Int32) = 13 by decide), if_neg (show ¬ (22 : Int32) = 14 by decide), if_neg (show ¬ (22 : Int32) = 15 by decide), if_neg (show ¬ (22 : Int32) = 16 by decide), if_neg (show ¬ (22 : Int32) = 17 by decide), if_neg (show ¬ (22 : Int32) = 18 by decide), if_neg (show ¬ (22 : Int32) = 19 by decide), if_neg (show ¬ (22 : Int32) = 20 by decide), if_neg (show ¬ (22 : Int32) = 21 by decide), if_pos rfl, ← hX]
  exact e
noncomputable def a_likeness (O : o_T) (B : Nat → Prop) (x : XT) (WN WR : Nat → Nat → Nat) (i j l : Int32) : Nat ⊕ Value := g1 (o_N O) i 0 fun a => g1 (o_N O) j 0 fun b => g1 2 l 1 fun w => .inr (q_li O B a b w)
theorem sp_likeness (O : o_T) (B : Nat → Prop) (x : XT) (WN WR : Nat → Nat → Nat) (i j l : Int32) : shI [0, 1] (a_likeness O B x WN WR i j l) := shI_g (by decide) fun a => shI_g (by decide) fun b => shI_g (by decide) fun w => by
  unfold q_li
  show ∃ y, _
  split <;> exact ⟨_, rfl⟩
theorem w_likeness {h : am_H} {L : Nat} {o : Nat} {O : o_T} {B : Nat → Prop} {x : XT} {WN WR : Nat → Nat → Nat} (hS : am_S h = sh_L L) (C : CT h o O B x WN WR) (i j l : Int32) (d : Nat) : WO (f_Lw_likeness (d + 820) h 1 i j l 1613) h cq2 (a_likeness O B x WN WR i j l) (fun h => CT h o O B (xa (a_likeness O B x WN WR i j l) x) WN WR) := by
  have Q : QQ (f_Lc_likeness (d + 819) h 1 i j l) h o O B (a_likeness O B x WN WR i j l) := Lc_q_likeness C.1 i j l (d + 814)
  exact WO_Q hS C Q (sp_likeness O B x WN WR i j l) (by decide) (fun E hE h2 er => by
    rcases (show E = 0 ∨ E = 1 by simpa using hE) with rfl | rfl
    · exact (e_Lw_likeness_x0 (d + 819) h h2 1 i j l 1613 er).trans (by rw [e_Lw_likeness_17]; rfl)
    · exact (e_Lw_likeness_x1 (d + 819) h h2 1 i j l 1613 er).trans (by rw [e_Lw_likeness_21]; rfl)) (fun v h2 er => e_Lw_likeness_v (d + 819) h h2 1 i j l 1613 v er)
theorem v_likeness {h : am_H} {O : o_T} {B : Nat → Prop} {x : XT} {WN WR : Nat → Nat → Nat} (D : RT h 78 O B x WN WR) (i j l : Int32) (d : Nat) : RP (f_Rf_likeness (d + 820) h 78 i j l) h cq2 (.int 0) (a_likeness O B x WN WR i j l) (fun h => RT h 78 O B (xa (a_likeness O B x WN WR i j l) x) WN WR) := by
  have Q : RR (f_Rf_likeness (d + 820) h 78 i j l) h 78 O B cq2 (.int 0) (a_likeness O B x WN WR i j l) := Rf_q_likeness D.1 i j l (d + 816)
  exact RP_R (fun E e => by
    have s := sp_likeness O B x WN WR i j l
    rw [e] at s
    exact (by decide : ∀ E, E ∈ [0, 1] → E < 3) E s) D Q
theorem r_likeness {h : am_H} {L n g : Nat} {xs : Nat → Int32} (I : LI h L xs g) (hn : n + 6 ≤ L) (hL : L ≤ 3072) (hs : xs n &&& 31 = 23) (d : Nat) : ∃ h', f_Lw_law_23 (d + 821) h 0 1 78 1613 (nI n) = f_Lw_law_2062 (d + 821) h' 0 1 78 1613 (nI n) ∧ LI h' L xs (g + 1) := by
  obtain ⟨o, O, B, x, WN, WR, C, D, hT, hX, hS, hG, hTT⟩ := I
  obtain ⟨h', e, N⟩ := ln3I (d := d + 820) (n := n) (F := fun h i j l => f_Lw_likeness (d + 820) h 1 i j l 1613) (R := fun h i j l => f_Rf_likeness (d + 820) h 78 i j l) (K := fun h => f_Lw_law_2062 (d + 821) h 0 1 78 1613 (nI n)) (Z := fun h => am_01 0 (some (.inr (some (.int 0)), h))) (c := cq2) (a := a_likeness O B x WN WR (xs (n + 1)) (xs (n + 2)) (xs (n + 3))) hS hX hn hL D.1.1 (by decide) (sp_likeness O B x WN WR (xs (n + 1)) (xs (n + 2)) (xs (n + 3))) (w_likeness hS C (xs (n + 1)) (xs (n + 2)) (xs (n + 3)) d) (fun e h' g => v_likeness (RT_X D g) (xs (n + 1)) (xs (n + 2)) (xs (n + 3)) d)
  refine ⟨h', ?_, LI_n N (xa_t hT) hX hS hG hTT⟩
  rw [e_Lw_law_23, lw_al hS, if_neg (lw_lt hn hL), sc_r hS hX (by omega) hL, hX, hs, if_neg (show ¬ (23 : Int32) = 0 by decide), if_neg (show ¬ (23 : Int32) = 1 by decide), if_neg (show ¬ (23 : Int32) = 2 by decide), if_neg (show ¬ (23 : Int32) = 3 by decide), if_neg (show ¬ (23 : Int32) = 4 by decide), if_neg (show ¬ (23 : Int32) = 5 by decide), if_neg (show ¬ (23 : Int32) = 6 by decide), if_neg (show ¬ (23 : Int32) = 7 by decide), if_neg (show ¬ (23 : Int32) = 8 by decide), if_neg (show ¬ (23 : Int32) = 9 by decide), if_neg (show ¬ (23 : Int32) = 10 by decide), if_neg (show ¬ (23 : Int32) = 11 by decide), if_neg (show ¬ (23 : Int32) = 12 by decide), if_neg (show ¬ (23 : Int32) = 13 by decide), if_neg (show ¬ (23 : Int32) = 14 by decide), if_neg (show ¬ (23 : Int32) = 15 by decide), if_neg (show ¬ (23 : Int32) = 16 by decide), if_neg (show ¬ (23 : Int32) = 17 by decide), if_neg (show ¬ (23 : Int32) = 18 by decide), if_neg (show ¬ (23 : Int32) = 19 by decide), if_neg (show ¬ (23 : Int32) = 20 by decide), if_neg (show ¬ (23 : Int32) = 21 by decide), if_neg (show ¬ (23 : Int32) = 22 by decide), if_pos rfl, ← hX]
  exact e
noncomputable def a_atom (O : o_T) (B : Nat → Prop) (x : XT) (WN WR : Nat → Nat → Nat) (i : Int32) : Nat ⊕ Value := g1 (o_A O) i 0 fun k => .inr (.int (q_at O B k))
theorem sp_atom (O : o_T) (B : Nat → Prop) (x : XT) (WN WR : Nat → Nat → Nat) (i : Int32) : shI [0] (a_atom O B x WN WR i) := shI_g (by decide) fun _ => ⟨_, rfl⟩
theorem w_atom {h : am_H} {L : Nat} {o : Nat} {O : o_T} {B : Nat → Prop} {x : XT} {WN WR : Nat → Nat → Nat} (hS : am_S h = sh_L L) (C : CT h o O B x WN WR) (i : Int32) (d : Nat) : WO (f_Lw_atom (d + 820) h 1 i 1613) h c1c (a_atom O B x WN WR i) (fun h => CT h o O B (xa (a_atom O B x WN WR i) x) WN WR) := by
  have Q : QQ (f_Lc_atom (d + 819) h 1 i) h o O B (a_atom O B x WN WR i) := Lc_q_atom C.1 C.2.2.1 i (d + 814)
  exact WO_Q hS C Q (sp_atom O B x WN WR i) (by decide) (fun E hE h2 er => by
    obtain rfl : E = 0 := List.mem_singleton.mp hE
    exact (e_Lw_atom_x0 (d + 819) h h2 1 i 1613 er).trans (by rw [e_Lw_atom_13]; rfl)) (fun v h2 er => e_Lw_atom_v (d + 819) h h2 1 i 1613 v er)
theorem v_atom {h : am_H} {O : o_T} {B : Nat → Prop} {x : XT} {WN WR : Nat → Nat → Nat} (D : RT h 78 O B x WN WR) (i : Int32) (d : Nat) : RP (f_Rf_atom_1 (d + 820) h 78 i) h c1c (.int 0) (a_atom O B x WN WR i) (fun h => RT h 78 O B (xa (a_atom O B x WN WR i) x) WN WR) := by
  have Q : RR (f_Rf_atom_1 (d + 820) h 78 i) h 78 O B c1c (.int 0) (a_atom O B x WN WR i) := Rf_q_atom D.1 i (d + 816)
  exact RP_R (fun E e => by
    have s := sp_atom O B x WN WR i
    rw [e] at s
    exact (by decide : ∀ E, E ∈ [0] → E < 3) E s) D Q
theorem r_atom {h : am_H} {L n g : Nat} {xs : Nat → Int32} (I : LI h L xs g) (hn : n + 6 ≤ L) (hL : L ≤ 3072) (hs : xs n &&& 31 = 24) (d : Nat) : ∃ h', f_Lw_law_23 (d + 821) h 0 1 78 1613 (nI n) = f_Lw_law_2062 (d + 821) h' 0 1 78 1613 (nI n) ∧ LI h' L xs (g + 1) := by
  obtain ⟨o, O, B, x, WN, WR, C, D, hT, hX, hS, hG, hTT⟩ := I
  obtain ⟨h', e, N⟩ := ln1I (d := d + 820) (n := n) (F := fun h i => f_Lw_atom (d + 820) h 1 i 1613) (R := fun h i => f_Rf_atom_1 (d + 820) h 78 i) (K := fun h => f_Lw_law_2062 (d + 821) h 0 1 78 1613 (nI n)) (Z := fun h => am_01 0 (some (.inr (some (.int 0)), h))) (c := c1c) (a := a_atom O B x WN WR (xs (n + 1))) hS hX hn hL D.1.1 (by decide) (sp_atom O B x WN WR (xs (n + 1))) (w_atom hS C (xs (n + 1)) d) (fun e h' g => v_atom (RT_X D g) (xs (n + 1)) d)
  refine ⟨h', ?_, LI_n N (xa_t hT) hX hS hG hTT⟩
  rw [e_Lw_law_23, lw_al hS, if_neg (lw_lt hn hL), sc_r hS hX (by omega) hL, hX, hs, if_neg (show ¬ (24 : Int32) = 0 by decide), if_neg (show ¬ (24 : Int32) = 1 by decide), if_neg (show ¬ (24 : Int32) = 2 by decide), if_neg (show ¬ (24 : Int32) = 3 by decide), if_neg (show ¬ (24 : Int32) = 4 by decide), if_neg (show ¬ (24 : Int32) = 5 by decide), if_neg (show ¬ (24 : Int32) = 6 by decide), if_neg (show ¬ (24 : Int32) = 7 by decide), if_neg (show ¬ (24 : Int32) = 8 by decide), if_neg (show ¬ (24 : Int32) = 9 by decide), if_neg (show ¬ (24 : Int32) = 10 by decide), if_neg (show ¬ (24 : Int32) = 11 by decide), if_neg (show ¬ (24 : Int32) = 12 by decide), if_neg (show ¬ (24 : Int32) = 13 by decide), if_neg (show ¬ (24 : Int32) = 14 by decide), if_neg (show ¬ (24 : Int32) = 15 by decide), if_neg (show ¬ (24 : Int32) = 16 by decide), if_neg (show ¬ (24 : Int32) = 17 by decide), if_neg (show ¬ (24 : Int32) = 18 by decide), if_neg (show ¬ (24 : Int32) = 19 by decide), if_neg (show ¬ (24 : Int32) = 20 by decide), if_neg (show ¬ (24 : Int32) = 21 by decide), if_neg (show ¬ (24 : Int32) = 22 by decide), if_neg (show ¬ (24 : Int32) = 23 by decide), if_pos rfl, ← hX]
  exact e
noncomputable def a_depends (O : o_T) (B : Nat → Prop) (x : XT) (WN WR : Nat → Nat → Nat) (i : Int32) : Nat ⊕ Value := g1 (o_A O) i 0 fun k => .inr (.long (q_dp O B k))
theorem sp_depends (O : o_T) (B : Nat → Prop) (x : XT) (WN WR : Nat → Nat → Nat) (i : Int32) : shJ [0] (a_depends O B x WN WR i) := shJ_g (by decide) fun _ => ⟨_, rfl⟩
theorem w_depends {h : am_H} {L : Nat} {o : Nat} {O : o_T} {B : Nat → Prop} {x : XT} {WN WR : Nat → Nat → Nat} (hS : am_S h = sh_L L) (C : CT h o O B x WN WR) (i : Int32) (d : Nat) : WO (f_Lw_depends (d + 820) h 1 i 1613) h c1c (a_depends O B x WN WR i) (fun h => CT h o O B (xa (a_depends O B x WN WR i) x) WN WR) := by
  have Q : QQ (f_Lc_depends (d + 819) h 1 i) h o O B (a_depends O B x WN WR i) := Lc_q_depends C.1 C.2.2.1 i (d + 814)
  exact WO_QJ hS C Q (sp_depends O B x WN WR i) (by decide) (fun E hE h2 er => by
    obtain rfl : E = 0 := List.mem_singleton.mp hE
    exact (e_Lw_depends_x0 (d + 819) h h2 1 i 1613 er).trans (by rw [e_Lw_depends_12]; rfl)) (fun v h2 er => e_Lw_depends_v (d + 819) h h2 1 i 1613 v er)
theorem v_depends {h : am_H} {O : o_T} {B : Nat → Prop} {x : XT} {WN WR : Nat → Nat → Nat} (D : RT h 78 O B x WN WR) (i : Int32) (d : Nat) : RP (f_Rf_depends (d + 820) h 78 i) h c1c (.long 0) (a_depends O B x WN WR i) (fun h => RT h 78 O B (xa (a_depends O B x WN WR i) x) WN WR) := by
  have Q : RR (f_Rf_depends (d + 820) h 78 i) h 78 O B c1c (.long 0) (a_depends O B x WN WR i) := Rf_q_depends D.1 i (d + 816)
  exact RP_R (fun E e => by
    have s := sp_depends O B x WN WR i
    rw [e] at s
    exact (by decide : ∀ E, E ∈ [0] → E < 3) E s) D Q
theorem r_depends {h : am_H} {L n g : Nat} {xs : Nat → Int32} (I : LI h L xs g) (hn : n + 6 ≤ L) (hL : L ≤ 3072) (hs : xs n &&& 31 = 25) (d : Nat) : ∃ h', f_Lw_law_23 (d + 821) h 0 1 78 1613 (nI n) = f_Lw_law_2062 (d + 821) h' 0 1 78 1613 (nI n) ∧ LI h' L xs (g + 1) := by
  obtain ⟨o, O, B, x, WN, WR, C, D, hT, hX, hS, hG, hTT⟩ := I
  obtain ⟨h', e, N⟩ := ln1J (d := d + 820) (n := n) (F := fun h i => f_Lw_depends (d + 820) h 1 i 1613) (R := fun h i => f_Rf_depends (d + 820) h 78 i) (K := fun h => f_Lw_law_2062 (d + 821) h 0 1 78 1613 (nI n)) (Z := fun h => am_01 0 (some (.inr (some (.int 0)), h))) (c := c1c) (a := a_depends O B x WN WR (xs (n + 1))) hS hX hn hL D.1.1 (by decide) (sp_depends O B x WN WR (xs (n + 1))) (w_depends hS C (xs (n + 1)) d) (fun e h' g => v_depends (RT_X D g) (xs (n + 1)) d)
  refine ⟨h', ?_, LI_n N (xa_t hT) hX hS hG hTT⟩
  rw [e_Lw_law_23, lw_al hS, if_neg (lw_lt hn hL), sc_r hS hX (by omega) hL, hX, hs, if_neg (show ¬ (25 : Int32) = 0 by decide), if_neg (show ¬ (25 : Int32) = 1 by decide), if_neg (show ¬ (25 : Int32) = 2 by decide), if_neg (show ¬ (25 : Int32) = 3 by decide), if_neg (show ¬ (25 : Int32) = 4 by decide), if_neg (show ¬ (25 : Int32) = 5 by decide), if_neg (show ¬ (25 : Int32) = 6 by decide), if_neg (show ¬ (25 : Int32) = 7 by decide), if_neg (show ¬ (25 : Int32) = 8 by decide), if_neg (show ¬ (25 : Int32) = 9 by decide), if_neg (show ¬ (25 : Int32) = 10 by decide), if_neg (show ¬ (25 : Int32) = 11 by decide), if_neg (show ¬ (25 : Int32) = 12 by decide), if_neg (show ¬ (25 : Int32) = 13 by decide), if_neg (show ¬ (25 : Int32) = 14 by decide), if_neg (show ¬ (25 : Int32) = 15 by decide), if_neg (show ¬ (25 : Int32) = 16 by decide), if_neg (show ¬ (25 : Int32) = 17 by decide), if_neg (show ¬ (25 : Int32) = 18 by decide), if_neg (show ¬ (25 : Int32) = 19 by decide), if_neg (show ¬ (25 : Int32) = 20 by decide), if_neg (show ¬ (25 : Int32) = 21 by decide), if_neg (show ¬ (25 : Int32) = 22 by decide), if_neg (show ¬ (25 : Int32) = 23 by decide), if_neg (show ¬ (25 : Int32) = 24 by decide), if_pos rfl, ← hX]
  exact e
noncomputable def a_module (O : o_T) (B : Nat → Prop) (x : XT) (WN WR : Nat → Nat → Nat) (i j l : Int32) : Nat ⊕ Value := g1 3 l 1 fun w => q_mz O B i j w
theorem sp_module (O : o_T) (B : Nat → Prop) (x : XT) (WN WR : Nat → Nat → Nat) (i j l : Int32) : shJ [1] (a_module O B x WN WR i j l) := shJ_g (by decide) fun w => by
  unfold q_mz
  by_cases c : bin i (o_N O) ∧ bin j (o_R O)
  · rw [if_pos c]
    exact ⟨_, rfl⟩
  · rw [if_neg c]
    show 1 ∈ [1]
    decide
theorem w_module {h : am_H} {L : Nat} {o : Nat} {O : o_T} {B : Nat → Prop} {x : XT} {WN WR : Nat → Nat → Nat} (hS : am_S h = sh_L L) (C : CT h o O B x WN WR) (i j l : Int32) (d : Nat) : WO (f_Lw_module (d + 820) h 1 i j l 1613) h c1c (a_module O B x WN WR i j l) (fun h => CT h o O B (xa (a_module O B x WN WR i j l) x) WN WR) := by
  have Q : QQ (f_Lc_module (d + 819) h 1 i j l) h o O B (a_module O B x WN WR i j l) := Lc_q_module C.1 C.2.2.1 i j l (d + 814)
  exact WO_QJ hS C Q (sp_module O B x WN WR i j l) (by decide) (fun E hE h2 er => by
    obtain rfl : E = 1 := List.mem_singleton.mp hE
    exact (e_Lw_module_x1 (d + 819) h h2 1 i j l 1613 er).trans (by rw [e_Lw_module_16]; rfl)) (fun v h2 er => e_Lw_module_v (d + 819) h h2 1 i j l 1613 v er)
theorem v_module {h : am_H} {O : o_T} {B : Nat → Prop} {x : XT} {WN WR : Nat → Nat → Nat} (D : RT h 78 O B x WN WR) (i j l : Int32) (d : Nat) : RP (f_Rf_module (d + 820) h 78 i j l) h c1c (.long 0) (a_module O B x WN WR i j l) (fun h => RT h 78 O B (xa (a_module O B x WN WR i j l) x) WN WR) := by
  have Q : RR (f_Rf_module (d + 820) h 78 i j l) h 78 O B c1c (.long 0) (a_module O B x WN WR i j l) := Rf_q_module D.1 i j l (d + 816)
  exact RP_R (fun E e => by
    have s := sp_module O B x WN WR i j l
    rw [e] at s
    exact (by decide : ∀ E, E ∈ [1] → E < 3) E s) D Q
theorem r_module {h : am_H} {L n g : Nat} {xs : Nat → Int32} (I : LI h L xs g) (hn : n + 6 ≤ L) (hL : L ≤ 3072) (hs : xs n &&& 31 = 26) (d : Nat) : ∃ h', f_Lw_law_23 (d + 821) h 0 1 78 1613 (nI n) = f_Lw_law_2062 (d + 821) h' 0 1 78 1613 (nI n) ∧ LI h' L xs (g + 1) := by
  obtain ⟨o, O, B, x, WN, WR, C, D, hT, hX, hS, hG, hTT⟩ := I
  obtain ⟨h', e, N⟩ := ln3J (d := d + 820) (n := n) (F := fun h i j l => f_Lw_module (d + 820) h 1 i j l 1613) (R := fun h i j l => f_Rf_module (d + 820) h 78 i j l) (K := fun h => f_Lw_law_2062 (d + 821) h 0 1 78 1613 (nI n)) (Z := fun h => am_01 0 (some (.inr (some (.int 0)), h))) (c := c1c) (a := a_module O B x WN WR (xs (n + 1)) (xs (n + 2)) (xs (n + 3))) hS hX hn hL D.1.1 (by decide) (sp_module O B x WN WR (xs (n + 1)) (xs (n + 2)) (xs (n + 3))) (w_module hS C (xs (n + 1)) (xs (n + 2)) (xs (n + 3)) d) (fun e h' g => v_module (RT_X D g) (xs (n + 1)) (xs (n + 2)) (xs (n + 3)) d)
  refine ⟨h', ?_, LI_n N (xa_t hT) hX hS hG hTT⟩
  rw [e_Lw_law_23, lw_al hS, if_neg (lw_lt hn hL), sc_r hS hX (by omega) hL, hX, hs, if_neg (show ¬ (26 : Int32) = 0 by decide), if_neg (show ¬ (26 : Int32) = 1 by decide), if_neg (show ¬ (26 : Int32) = 2 by decide), if_neg (show ¬ (26 : Int32) = 3 by decide), if_neg (show ¬ (26 : Int32) = 4 by decide), if_neg (show ¬ (26 : Int32) = 5 by decide), if_neg (show ¬ (26 : Int32) = 6 by decide), if_neg (show ¬ (26 : Int32) = 7 by decide), if_neg (show ¬ (26 : Int32) = 8 by decide), if_neg (show ¬ (26 : Int32) = 9 by decide), if_neg (show ¬ (26 : Int32) = 10 by decide), if_neg (show ¬ (26 : Int32) = 11 by decide), if_neg (show ¬ (26 : Int32) = 12 by decide), if_neg (show ¬ (26 : Int32) = 13 by decide), if_neg (show ¬ (26 : Int32) = 14 by decide), if_neg (show ¬ (26 : Int32) = 15 by decide), if_neg (show ¬ (26 : Int32) = 16 by decide), if_neg (show ¬ (26 : Int32) = 17 by decide), if_neg (show ¬ (26 : Int32) = 18 by decide), if_neg (show ¬ (26 : Int32) = 19 by decide), if_neg (show ¬ (26 : Int32) = 20 by decide), if_neg (show ¬ (26 : Int32) = 21 by decide), if_neg (show ¬ (26 : Int32) = 22 by decide), if_neg (show ¬ (26 : Int32) = 23 by decide), if_neg (show ¬ (26 : Int32) = 24 by decide), if_neg (show ¬ (26 : Int32) = 25 by decide), if_pos rfl, ← hX]
  exact e
