/-! ===== the law: calls that change something ===== -/
theorem WO_iv {F : Option am_R} {h h2 : am_H} {L : Nat} {v : Int32} {c : Nat → Int32} {p : am_H → Prop} (hS : am_S h = sh_L L) (k1 : am_kd h 1 7 = true) (g : gX 0 h h2) (hF : F = am_ck h 1 7 (am_ar h2 10 1613 0 fun j => some (.inr (some (.int 0)), am_sL h2 1613 j (Int32.toInt64 v)))) (hp : p (am_sL h2 1613 0 (Int32.toInt64 v))) : WO F h c (.inr (.int v)) p := by
  rw [lz_k k1, ar_o (g.1.trans hS)] at hF
  exact ⟨_, hF, gX_0 g (gX_o h2 0 _), hp, by rw [pc_L_L, if_pos ⟨rfl, rfl⟩]; rfl⟩
theorem WO_jv {F : Option am_R} {h h2 : am_H} {L : Nat} {v : Int64} {c : Nat → Int32} {p : am_H → Prop} (hS : am_S h = sh_L L) (k1 : am_kd h 1 7 = true) (g : gX 0 h h2) (hF : F = am_ck h 1 7 (am_ar h2 10 1613 0 fun j => some (.inr (some (.int 0)), am_sL h2 1613 j v))) (hp : p (am_sL h2 1613 0 v)) : WO F h c (.inr (.long v)) p := by
  rw [lz_k k1, ar_o (g.1.trans hS)] at hF
  exact ⟨_, hF, gX_0 g (gX_o h2 0 _), hp, by rw [pc_L_L, if_pos ⟨rfl, rfl⟩]; rfl⟩
theorem WO_ev {F : Option am_R} {h : am_H} {E : Nat} {c : Nat → Int32} {p : am_H → Prop} (k1 : am_kd h 1 7 = true) (hF : F = am_ck h 1 7 (some (.inr (some (.int (c E))), cr E h))) (hp : p (cr E h)) : WO F h c (.inl E) p := by
  rw [lz_k k1] at hF
  exact ⟨_, hF, gX_cr E h, hp⟩
theorem gR_T {h h' : am_H} (q : fTx 78 h h') : gR 78 h h' := ⟨q.1, q.2.1, q.2.2.1, q.2.2.2.1, fun b p => ⟨q.2.2.2.2.2.1 b (by omega) (by omega) (by omega), q.2.2.2.2.1 b (by omega)⟩⟩
theorem gR_Rt {h h' : am_H} (q : fRt 78 h h') : gR 78 h h' := ⟨q.1, q.2.1, q.2.2.1, q.2.2.2.1, fun b p => ⟨q.2.2.2.2.2.1 b (by omega) (by omega), q.2.2.2.2.1 b (by omega)⟩⟩
theorem gR_Rd {h h' : am_H} (q : fRd 78 h h') : gR 78 h h' := ⟨q.1, q.2.1, q.2.2.1, q.2.2.2.1, fun b p => ⟨q.2.2.2.2.2.1 b (by omega) (by omega), by rw [q.2.2.2.2.1]⟩⟩
theorem RT_0 {h : am_H} {O : o_T} {B : Nat → Prop} {x : XT} {WN WR : Nat → Nat → Nat} (D : RT h 78 O B x WN WR) : RT (am_sI h 78 0 0) 78 O B x WN WR := RT_W D (RB_0 D.1 0).2 (RB_0 D.1 0).1
theorem gX_Tu {o : Nat} (ho : o = 3 ∨ o = 20) {h h' : am_H} (q : fTu o h h') : gX 0 h h' := ⟨q.1, q.2.1, q.2.2.1, fun b p => ⟨q.2.2.2.2.2.1 b (by omega) (by omega) (by omega), q.2.2.2.2.1 b (by omega), by rw [q.2.2.2.1]⟩⟩
theorem gX_Fd {h h' : am_H} (q : fFd h h') : gX 0 h h' := ⟨q.1, q.2.1, q.2.2.1, fun b p => ⟨q.2.2.2.2.2.1 b (by omega) (by omega), by rw [q.2.2.2.2.1], by rw [q.2.2.2.1]⟩⟩
theorem CT_tu {h h' : am_H} {o : Nat} {O : o_T} {B B' : Nat → Prop} {x x' : XT} {WN WR : Nat → Nat → Nat} (C : CT h o O B x WN WR) (q : fTu o h h') (cB' : CB h' o O B') (cX' : CX h' x') : CT h' o O B' x' WN WR := by
  obtain ⟨cB, cX, cS, cW, cP, w3, w20, ck, w⟩ := C
  have ho := cB.2.2.1
  have I : ∀ b, b ≠ 1 → b ≠ 40 → b ≠ 74 → am_I h' b = am_I h b := q.2.2.2.2.2.1
  refine ⟨cB', cX', ?_, ?_, by rw [q.2.2.2.1]; exact cP, WC_of w3 (I _ (by omega) (by omega) (by omega)) (I _ (by omega) (by omega) (by omega)), WC_of w20 (I _ (by omega) (by omega) (by omega)) (I _ (by omega) (by omega) (by omega)), by rw [I 37 (by omega) (by omega) (by omega)]; exact ck, w⟩
  · unfold OnS
    rw [I _ (by omega) (by omega) (by omega), I _ (by omega) (by omega) (by omega), I _ (by omega) (by omega) (by omega), I _ (by omega) (by omega) (by omega)]
    exact cS
  · unfold OnW WoR
    rw [q.2.2.2.2.1 _ (by omega), q.2.2.2.2.1 _ (by omega)]
    exact cW
theorem CT_fd {h h' : am_H} {o : Nat} {O : o_T} {B : Nat → Prop} {x x' : XT} {WN WR : Nat → Nat → Nat} (C : CT h o O B x WN WR) (q : fFd h h') (cX' : CX h' x') : CT h' o O B x' WN WR := by
  obtain ⟨cB, cX, cS, cW, cP, w3, w20, ck, w⟩ := C
  have ho := cB.2.2.1
  have I : ∀ b, b ≠ 1 → b ≠ 2 → am_I h' b = am_I h b := q.2.2.2.2.2.1
  refine ⟨fFd_CB q cB, cX', ?_, ?_, by rw [q.2.2.2.1]; exact cP, WC_of w3 (I _ (by omega) (by omega)) (I _ (by omega) (by omega)), WC_of w20 (I _ (by omega) (by omega)) (I _ (by omega) (by omega)), by rw [I 37 (by omega) (by omega)]; exact ck, w⟩
  · unfold OnS
    rw [I _ (by omega) (by omega), I _ (by omega) (by omega), I _ (by omega) (by omega), I _ (by omega) (by omega)]
    exact cS
  · unfold OnW WoR
    rw [q.2.2.2.2.1]
    exact cW
theorem RT_rf {h : am_H} {O : o_T} {B : Nat → Prop} {x : XT} {WN WR : Nat → Nat → Nat} {F : Option am_R} {z : Value} {E : Nat} (hE : E < 3) (D : RT h 78 O B x WN WR) (e : F = some (.inr (some z), rr 78 E 1 (am_sI h 78 0 0))) : RP F h c1c z (.inl E) (fun h => RT h 78 O B (xr E x) WN WR) := ⟨_, e, gR_t (gR_i h (Nat.le_refl 78) (by omega) 0 0) (gR_rr E 1 _), RT_rr hE (RT_0 D), rr_0 _ _ _ _⟩
theorem m1_1 : (1 : Nat) ∈ [1] := by decide
theorem m0_0 : (0 : Nat) ∈ [0] := by decide
theorem r_fault {h : am_H} {L n g : Nat} {xs : Nat → Int32} (I : LI h L xs g) (hn : n + 6 ≤ L) (hL : L ≤ 3072) (hs : xs n &&& 31 = 2) (d : Nat) : ∃ h', f_Lw_law_23 (d + 821) h 0 1 78 1613 (nI n) = f_Lw_law_2062 (d + 821) h' 0 1 78 1613 (nI n) ∧ LI h' L xs (g + 1) := by
  obtain ⟨o, O, B, x, WN, WR, C, D, hT, hX, hS, hG, hTT⟩ := I
  have k1 := Lc_k1 C.1.1
  have k8 := Rf_k D.1.1
  have n4 := C.2.1.1
  refine ⟨am_sI h 78 0 0, ?_, LI_n (o := o) (O := O) (B := B) (x := x) (WN := WN) (WR := WR) ⟨0, h, by omega, gX_r h, gR_i h (Nat.le_refl 78) (by omega) 0 0, C, RT_0 D⟩ hT hX hS hG hTT⟩
  rw [e_Lw_law_23, lw_al hS, if_neg (lw_lt hn hL), sc_r hS hX (by omega) hL, hX, hs, if_neg (show ¬ (2 : Int32) = 0 by decide), if_neg (show ¬ (2 : Int32) = 1 by decide), if_pos rfl, lz_k k1, lz_ci (Lc_fault C.1.1 C.2.1 (d + 820)), lz_k k8, lz_ci (Rf_fault D.1 D.2.1 (d + 820)), if_pos rfl]
  try rfl
theorem r_nothing {h : am_H} {L n g : Nat} {xs : Nat → Int32} (I : LI h L xs g) (hn : n + 6 ≤ L) (hL : L ≤ 3072) (hs : xs n &&& 31 = 17) (d : Nat) : ∃ h', f_Lw_law_23 (d + 821) h 0 1 78 1613 (nI n) = f_Lw_law_2062 (d + 821) h' 0 1 78 1613 (nI n) ∧ LI h' L xs (g + 1) := by
  obtain ⟨o, O, B, x, WN, WR, C, D, hT, hX, hS, hG, hTT⟩ := I
  have k1 := Lc_k1 C.1.1
  have k8 := Rf_k D.1.1
  have n4 := C.2.1.1
  obtain ⟨h1, q1, C1, e1⟩ : QQ (f_Lc_nothing (d + 820) h 1) h o O B (.inr (.int (wI (fun a => a < o_N O ∧ q_vo O B a)))) := Lc_q_nothing C.1 (d + 815)
  have D1 := RT_X D (gX_K q1)
  obtain ⟨h2, q2, D2, z2, e2⟩ : RR (f_Rf_nothing (d + 820) h1 78) h1 78 O B (fun _ => 1) (.int 0) (.inr (.int (wI (fun a => a < o_N O ∧ q_vo O B a)))) := Rf_q_nothing D1.1 (d + 816)
  refine ⟨h2, ?_, LI_n (o := o) (O := O) (B := B) (x := x) (WN := WN) (WR := WR) ⟨0, h1, by omega, gX_K q1, gR_W q2, CT_K C q1 C1, RT_W D1 q2 D2⟩ hT hX hS hG hTT⟩
  rw [e_Lw_law_23, lw_al hS, if_neg (lw_lt hn hL), sc_r hS hX (by omega) hL, hX, hs, if_neg (show ¬ (17 : Int32) = 0 by decide), if_neg (show ¬ (17 : Int32) = 1 by decide), if_neg (show ¬ (17 : Int32) = 2 by decide), if_neg (show ¬ (17 : Int32) = 3 by decide), if_neg (show ¬ (17 : Int32) = 4 by decide), if_neg (show ¬ (17 : Int32) = 5 by decide), if_neg (show ¬ (17 : Int32) = 6 by decide), if_neg (show ¬ (17 : Int32) = 7 by decide), if_neg (show ¬ (17 : Int32) = 8 by decide), if_neg (show ¬ (17 : Int32) = 9 by decide), if_neg (show ¬ (17 : Int32) = 10 by decide), if_neg (show ¬ (17 : Int32) = 11 by decide), if_neg (show ¬ (17 : Int32) = 12 by decide), if_neg (show ¬ (17 : Int32) = 13 by decide), if_neg (show ¬ (17 : Int32) = 14 by decide), if_neg (show ¬ (17 : Int32) = 15 by decide), if_neg (show ¬ (17 : Int32) = 16 by decide), if_pos rfl, lz_k k1, lz_ci (show f_Lc_nothing (d + 820) h 1 = some (.inr (some (.int (wI (fun a => a < o_N O ∧ q_vo O B a)))), h1) from e1), lz_k (Rf_k D1.1.1), lz_ci (show f_Rf_nothing (d + 820) h1 78 = some (.inr (some (.int (wI (fun a => a < o_N O ∧ q_vo O B a)))), h2) from e2), if_pos rfl]
  try rfl
theorem r_print {h : am_H} {L n g : Nat} {xs : Nat → Int32} (I : LI h L xs g) (hn : n + 6 ≤ L) (hL : L ≤ 3072) (hs : xs n &&& 31 = 30) (d : Nat) : ∃ h', f_Lw_law_23 (d + 821) h 0 1 78 1613 (nI n) = f_Lw_law_2062 (d + 821) h' 0 1 78 1613 (nI n) ∧ LI h' L xs (g + 1) := by
  obtain ⟨o, O, B, x, WN, WR, C, D, hT, hX, hS, hG, hTT⟩ := I
  have k1 := Lc_k1 C.1.1
  have k8 := Rf_k D.1.1
  have n4 := C.2.1.1
  obtain ⟨h1, q1, C1, e1⟩ : QQ (f_Lc_print (d + 820) h 1) h o O B (.inr (.long (q_pr O B (o_P O)))) := Lc_q_print C.1 (d + 815)
  have D1 := RT_X D (gX_K q1)
  obtain ⟨h2, q2, D2, z2, e2⟩ : RR (f_Rf_print (d + 820) h1 78) h1 78 O B (fun _ => 1) (.long 0) (.inr (.long (q_pr O B (o_P O)))) := Rf_q_print D1.1 (d + 816)
  refine ⟨h2, ?_, LI_n (o := o) (O := O) (B := B) (x := x) (WN := WN) (WR := WR) ⟨0, h1, by omega, gX_K q1, gR_W q2, CT_K C q1 C1, RT_W D1 q2 D2⟩ hT hX hS hG hTT⟩
  rw [e_Lw_law_23, lw_al hS, if_neg (lw_lt hn hL), sc_r hS hX (by omega) hL, hX, hs, if_neg (show ¬ (30 : Int32) = 0 by decide), if_neg (show ¬ (30 : Int32) = 1 by decide), if_neg (show ¬ (30 : Int32) = 2 by decide), if_neg (show ¬ (30 : Int32) = 3 by decide), if_neg (show ¬ (30 : Int32) = 4 by decide), if_neg (show ¬ (30 : Int32) = 5 by decide), if_neg (show ¬ (30 : Int32) = 6 by decide), if_neg (show ¬ (30 : Int32) = 7 by decide), if_neg (show ¬ (30 : Int32) = 8 by decide), if_neg (show ¬ (30 : Int32) = 9 by decide), if_neg (show ¬ (30 : Int32) = 10 by decide), if_neg (show ¬ (30 : Int32) = 11 by decide), if_neg (show ¬ (30 : Int32) = 12 by decide), if_neg (show ¬ (30 : Int32) = 13 by decide), if_neg (show ¬ (30 : Int32) = 14 by decide), if_neg (show ¬ (30 : Int32) = 15 by decide), if_neg (show ¬ (30 : Int32) = 16 by decide), if_neg (show ¬ (30 : Int32) = 17 by decide), if_neg (show ¬ (30 : Int32) = 18 by decide), if_neg (show ¬ (30 : Int32) = 19 by decide), if_neg (show ¬ (30 : Int32) = 20 by decide), if_neg (show ¬ (30 : Int32) = 21 by decide), if_neg (show ¬ (30 : Int32) = 22 by decide), if_neg (show ¬ (30 : Int32) = 23 by decide), if_neg (show ¬ (30 : Int32) = 24 by decide), if_neg (show ¬ (30 : Int32) = 25 by decide), if_neg (show ¬ (30 : Int32) = 26 by decide), if_neg (show ¬ (30 : Int32) = 27 by decide), if_neg (show ¬ (30 : Int32) = 28 by decide), if_neg (show ¬ (30 : Int32) = 29 by decide), if_pos rfl, lz_k k1, lz_cl (show f_Lc_print (d + 820) h 1 = some (.inr (some (.long (q_pr O B (o_P O)))), h1) from e1), lz_k (Rf_k D1.1.1), lz_cl (show f_Rf_print (d + 820) h1 78 = some (.inr (some (.long (q_pr O B (o_P O)))), h2) from e2), if_pos ((lg_cmp_eq _ _).mpr rfl)]
  try rfl
theorem r_status {h : am_H} {L n g : Nat} {xs : Nat → Int32} (I : LI h L xs g) (hn : n + 6 ≤ L) (hL : L ≤ 3072) (hs : xs n &&& 31 = 31) (d : Nat) : ∃ h', f_Lw_law_23 (d + 821) h 0 1 78 1613 (nI n) = f_Lw_law_2062 (d + 821) h' 0 1 78 1613 (nI n) ∧ LI h' L xs (g + 1) := by
  obtain ⟨o, O, B, x, WN, WR, C, D, hT, hX, hS, hG, hTT⟩ := I
  have k1 := Lc_k1 C.1.1
  have k8 := Rf_k D.1.1
  have n4 := C.2.1.1
  refine ⟨am_sI h 78 0 0, ?_, LI_n (o := o) (O := O) (B := B) (x := x) (WN := WN) (WR := WR) ⟨0, h, by omega, gX_r h, gR_i h (Nat.le_refl 78) (by omega) 0 0, C, RT_0 D⟩ hT hX hS hG hTT⟩
  rw [e_Lw_law_23, lw_al hS, if_neg (lw_lt hn hL), sc_r hS hX (by omega) hL, hX, hs, if_neg (show ¬ (31 : Int32) = 0 by decide), if_neg (show ¬ (31 : Int32) = 1 by decide), if_neg (show ¬ (31 : Int32) = 2 by decide), if_neg (show ¬ (31 : Int32) = 3 by decide), if_neg (show ¬ (31 : Int32) = 4 by decide), if_neg (show ¬ (31 : Int32) = 5 by decide), if_neg (show ¬ (31 : Int32) = 6 by decide), if_neg (show ¬ (31 : Int32) = 7 by decide), if_neg (show ¬ (31 : Int32) = 8 by decide), if_neg (show ¬ (31 : Int32) = 9 by decide), if_neg (show ¬ (31 : Int32) = 10 by decide), if_neg (show ¬ (31 : Int32) = 11 by decide), if_neg (show ¬ (31 : Int32) = 12 by decide), if_neg (show ¬ (31 : Int32) = 13 by decide), if_neg (show ¬ (31 : Int32) = 14 by decide), if_neg (show ¬ (31 : Int32) = 15 by decide), if_neg (show ¬ (31 : Int32) = 16 by decide), if_neg (show ¬ (31 : Int32) = 17 by decide), if_neg (show ¬ (31 : Int32) = 18 by decide), if_neg (show ¬ (31 : Int32) = 19 by decide), if_neg (show ¬ (31 : Int32) = 20 by decide), if_neg (show ¬ (31 : Int32) = 21 by decide), if_neg (show ¬ (31 : Int32) = 22 by decide), if_neg (show ¬ (31 : Int32) = 23 by decide), if_neg (show ¬ (31 : Int32) = 24 by decide), if_neg (show ¬ (31 : Int32) = 25 by decide), if_neg (show ¬ (31 : Int32) = 26 by decide), if_neg (show ¬ (31 : Int32) = 27 by decide), if_neg (show ¬ (31 : Int32) = 28 by decide), if_neg (show ¬ (31 : Int32) = 29 by decide), if_neg (show ¬ (31 : Int32) = 30 by decide), if_pos rfl, ← hX, show nI n + 1 = nI (n + 1) from nI_k n 1, sc_r hS hX (by omega) hL, lz_k k1, lz_ci (Lc_status C.1.1 C.2.1 _ (d + 820)), sc_r hS hX (by omega) hL, lz_k k8, lz_ci (Rf_status D.1 D.2.1 _ (d + 819)), if_pos rfl]
  try rfl
theorem r_undo {h : am_H} {L n g : Nat} {xs : Nat → Int32} (I : LI h L xs g) (hn : n + 6 ≤ L) (hL : L ≤ 3072) (hs : xs n &&& 31 = 4) (d : Nat) : ∃ h', f_Lw_law_23 (d + 821) h 0 1 78 1613 (nI n) = f_Lw_law_2062 (d + 821) h' 0 1 78 1613 (nI n) ∧ LI h' L xs (g + 1) := by
  obtain ⟨o, O, B, x, WN, WR, C, D, hT, hX, hS, hG, hTT⟩ := I
  have k1 := Lc_k1 C.1.1
  have k8 := Rf_k D.1.1
  have n4 := C.2.1.1
  have ho := C.1.2.2.1
  rcases Lc_undo C.1 C.2.1 hT (d + 818) with ⟨hp, h1, e1, q1, B1, X1⟩ | ⟨hz, e1⟩
  · have D1 := RT_X D (gX_Tu ho q1)
    rcases Rf_undo D1.1 D1.2.1 hT (d + 819) with ⟨_, h2, e2, q2, B2, z2, X2⟩ | ⟨hz, _⟩
    · refine ⟨h2, ?_, LI_n (o := o) (O := O) (B := flp B (x.2.2.2.1 (x.2.2.2.2.1 - 1))) (x := xu x) (WN := WN) (WR := WR) ⟨0, h1, by omega, gX_Tu ho q1, gR_Rt q2, CT_tu C q1 B1 X1, ⟨B2, X2, RwW_of (q2.2.2.2.2.2.1 _ (by omega) (by omega)) D1.2.2⟩⟩ (fun k hk => hT k (by
        have : k < x.2.2.2.2.1 - 1 := hk
        omega)) hX hS hG hTT⟩
      rw [e_Lw_law_23, lw_al hS, if_neg (lw_lt hn hL), sc_r hS hX (by omega) hL, hX, hs, if_neg (show ¬ (4 : Int32) = 0 by decide), if_neg (show ¬ (4 : Int32) = 1 by decide), if_neg (show ¬ (4 : Int32) = 2 by decide), if_neg (show ¬ (4 : Int32) = 3 by decide), if_pos rfl, lz_k k1, show f_Lc_undo (d + 820) h 1 = _ from e1, ci_r, lz_k (Rf_k D1.1.1), show f_Rf_undo (d + 820) h1 78 = _ from e2, ci_r, if_pos rfl]
      try rfl
    · omega
  · rcases Rf_undo D.1 D.2.1 hT (d + 819) with ⟨hp, _⟩ | ⟨_, e2⟩
    · omega
    · refine ⟨am_sI h 78 0 0, ?_, LI_n (o := o) (O := O) (B := B) (x := x) (WN := WN) (WR := WR) ⟨0, h, by omega, gX_r h, gR_i h (Nat.le_refl 78) (by omega) 0 0, C, RT_0 D⟩ hT hX hS hG hTT⟩
      rw [e_Lw_law_23, lw_al hS, if_neg (lw_lt hn hL), sc_r hS hX (by omega) hL, hX, hs, if_neg (show ¬ (4 : Int32) = 0 by decide), if_neg (show ¬ (4 : Int32) = 1 by decide), if_neg (show ¬ (4 : Int32) = 2 by decide), if_neg (show ¬ (4 : Int32) = 3 by decide), if_pos rfl, lz_k k1, show f_Lc_undo (d + 820) h 1 = _ from e1, ci_r, lz_k k8, show f_Rf_undo (d + 820) h 78 = _ from e2, ci_r, if_pos rfl]
      try rfl
theorem r_feed {h : am_H} {L n g : Nat} {xs : Nat → Int32} (I : LI h L xs g) (hn : n + 6 ≤ L) (hL : L ≤ 3072) (hs : xs n &&& 31 = 0) (d : Nat) : ∃ h', f_Lw_law_23 (d + 821) h 0 1 78 1613 (nI n) = f_Lw_law_2062 (d + 821) h' 0 1 78 1613 (nI n) ∧ LI h' L xs (g + 1) := by
  obtain ⟨o, O, B, x, WN, WR, C, D, hT, hX, hS, hG, hTT⟩ := I
  have k1 := Lc_k1 C.1.1
  have k8 := Rf_k D.1.1
  have n4 := C.2.1.1
  rcases Lc_feed C.1.1 C.2.1 (xs (n + 1)) (xs (n + 2)) (xs (n + 3)) (xs (n + 4)) (xs (n + 5)) (d + 819) with ⟨hf, h1, e1, q1, X1⟩ | ⟨hf, e1⟩
  · have g1 := gX_Fd q1
    have D1 := RT_X D g1
    have s1 : am_S h1 = sh_L L := q1.1.trans hS
    have x1 : am_I h1 0 = xs := (g1.2.2.2 0 (Or.inr rfl)).1.trans hX
    rcases Rf_feed D1.1 D1.2.1 (xs (n + 1)) (xs (n + 2)) (xs (n + 3)) (xs (n + 4)) (xs (n + 5)) (d + 820) with ⟨_, h2, e2, q2, X2⟩ | ⟨hf', _⟩
    · have b0 := RB_0 D1.1 0
      refine ⟨h2, ?_, LI_n (o := o) (O := O) (B := B) (x := xf (xs (n + 5)) (xf (xs (n + 4)) (xf (xs (n + 3)) (xf (xs (n + 2)) (xf (xs (n + 1)) x))))) (WN := WN) (WR := WR) ⟨0, h1, by omega, g1, gR_t (gR_i h1 (Nat.le_refl 78) (by omega) 0 0) (gR_Rd q2), CT_fd C q1 X1, ⟨fRd_RB q2 b0.1, X2, RwW_of (q2.2.2.2.2.2.1 _ (by omega) (by omega)) (RT_0 D1).2.2⟩⟩ hT hX hS hG hTT⟩
      rw [e_Lw_law_23, lw_al hS, if_neg (lw_lt hn hL), sc_r hS hX (by omega) hL, hX, hs, if_pos rfl, ← hX, show nI n + 1 = nI (n + 1) from nI_k n 1, sc_r hS hX (by omega) hL, show nI n + 2 = nI (n + 2) from nI_k n 2, sc_r hS hX (by omega) hL, show nI n + 3 = nI (n + 3) from nI_k n 3, sc_r hS hX (by omega) hL, show nI n + 4 = nI (n + 4) from nI_k n 4, sc_r hS hX (by omega) hL, show nI n + 5 = nI (n + 5) from nI_k n 5, sc_r hS hX (by omega) hL, hX, lz_k k1, show f_Lc_feed (d + 820) h 1 (xs (n + 1)) (xs (n + 2)) (xs (n + 3)) (xs (n + 4)) (xs (n + 5)) = _ from e1, ci_r, sc_r s1 x1 (by omega) hL, sc_r s1 x1 (by omega) hL, sc_r s1 x1 (by omega) hL, sc_r s1 x1 (by omega) hL, sc_r s1 x1 (by omega) hL, x1, lz_k (Rf_k D1.1.1), lz_ci e2, if_pos rfl]
      try rfl
    · exact absurd hf hf'
  · rcases Rf_feed D.1 D.2.1 (xs (n + 1)) (xs (n + 2)) (xs (n + 3)) (xs (n + 4)) (xs (n + 5)) (d + 820) with ⟨hf', _⟩ | ⟨_, e2⟩
    · exact absurd hf' hf
    · refine ⟨am_sI h 78 0 0, ?_, LI_n (o := o) (O := O) (B := B) (x := x) (WN := WN) (WR := WR) ⟨0, h, by omega, gX_r h, gR_i h (Nat.le_refl 78) (by omega) 0 0, C, RT_0 D⟩ hT hX hS hG hTT⟩
      rw [e_Lw_law_23, lw_al hS, if_neg (lw_lt hn hL), sc_r hS hX (by omega) hL, hX, hs, if_pos rfl, ← hX, show nI n + 1 = nI (n + 1) from nI_k n 1, sc_r hS hX (by omega) hL, show nI n + 2 = nI (n + 2) from nI_k n 2, sc_r hS hX (by omega) hL, show nI n + 3 = nI (n + 3) from nI_k n 3, sc_r hS hX (by omega) hL, show nI n + 4 = nI (n + 4) from nI_k n 4, sc_r hS hX (by omega) hL, show nI n + 5 = nI (n + 5) from nI_k n 5, sc_r hS hX (by omega) hL, hX, lz_k k1, show f_Lc_feed (d + 820) h 1 (xs (n + 1)) (xs (n + 2)) (xs (n + 3)) (xs (n + 4)) (xs (n + 5)) = _ from e1, ci_r, sc_r hS hX (by omega) hL, sc_r hS hX (by omega) hL, sc_r hS hX (by omega) hL, sc_r hS hX (by omega) hL, sc_r hS hX (by omega) hL, hX, lz_k k8, lz_ci e2, if_pos rfl]
      try rfl
theorem r_text {h : am_H} {L n g : Nat} {xs : Nat → Int32} (I : LI h L xs g) (hn : n + 6 ≤ L) (hL : L ≤ 3072) (hs : xs n &&& 31 = 1) (d : Nat) : ∃ h', f_Lw_law_23 (d + 821) h 0 1 78 1613 (nI n) = f_Lw_law_2062 (d + 821) h' 0 1 78 1613 (nI n) ∧ LI h' L xs (g + 1) := by
  obtain ⟨o, O, B, x, WN, WR, C, D, hT, hX, hS, hG, hTT⟩ := I
  have k1 := Lc_k1 C.1.1
  have k8 := Rf_k D.1.1
  have n4 := C.2.1.1
  have ho := C.1.2.2.1
  have main : ∃ (a : Nat ⊕ Value) (o' : Nat) (O' : o_T) (B' : Nat → Prop) (x' : XT) (WN' WR' : Nat → Nat → Nat), shI [1] a ∧ (∀ k, k < x'.2.2.2.2.1 → x'.2.2.2.1 k < o_A O') ∧ WO (f_Lw_text (d + 820) h 1 (xs (n + 1)) 1613) h c1c a (fun h => CT h o' O' B' x' WN' WR') ∧ ∀ e h', gX e h h' → RP (f_Rf_text (d + 820) h' 78 (xs (n + 1))) h' c1c (.int 0) a (fun h => RT h 78 O' B' x' WN' WR') := by
    rcases Lc_text C (xs (n + 1)) (d + 808) with ⟨nv, e⟩ | ⟨m, hm, em, X⟩
    · refine ⟨.inl 1, o, O, B, xr 1 x, WN, WR, m1_1, hT, WO_ev k1 ((e_Lw_text_x1 (d + 819) h _ 1 _ 1613 e).trans (by rw [e_Lw_text_13]; rfl)) (CT_cr (by omega) C), fun e' h' g => ?_⟩
      have D2 := RT_X D g
      rcases Rf_text D2.1 D2.2.1 D2.2.2 (xs (n + 1)) (d + 6) with ⟨_, q⟩ | ⟨m, hm, em, _⟩
      · exact RT_rf (by omega) D2 q
      · exact absurd ⟨m, by omega, em⟩ nv
    · rcases X with ⟨r, er, h2, e, gc, C2⟩ | ⟨D', er, h2, e, gc, C2⟩
      · refine ⟨.inr (.int (nI r.1 - 10)), o, O, B, xe (nI r.2) x, WN, WR, ⟨_, rfl⟩, hT, WO_iv hS k1 (gC_X gc) (e_Lw_text_v (d + 819) h h2 1 _ 1613 _ e) (CT_o C2 0 _), fun e' h' g => ?_⟩
        have D2 := RT_X D g
        rcases Rf_text D2.1 D2.2.1 D2.2.2 (xs (n + 1)) (d + 6) with ⟨nv, _⟩ | ⟨m', hm', em', X⟩
        · exact absurd ⟨m, by omega, em⟩ nv
        · have em2 : m = m' := nI_i (by omega) (by omega) (em.symm.trans em')
          subst em2
          rcases X with ⟨r', er', h3, e3, q3, B3, X3, W3, z3⟩ | ⟨D'', er', _⟩
          · rw [er] at er'
            cases er'
            exact ⟨h3, e3, gR_T q3, ⟨B3, X3, W3⟩, z3⟩
          · rw [er] at er'
            cases er'
      · refine ⟨.inr (.int (nI (o_A D'.1))), 23 - o, D'.1, fun k => k < o_A D'.1, xn x, D'.2.1, D'.2.2, ⟨_, rfl⟩, fun k hk => absurd hk (Nat.not_lt_zero k), WO_iv hS k1 (gC_X gc) (e_Lw_text_v (d + 819) h h2 1 _ 1613 _ e) (CT_o C2 0 _), fun e' h' g => ?_⟩
        have D2 := RT_X D g
        rcases Rf_text D2.1 D2.2.1 D2.2.2 (xs (n + 1)) (d + 6) with ⟨nv, _⟩ | ⟨m', hm', em', X⟩
        · exact absurd ⟨m, by omega, em⟩ nv
        · have em2 : m = m' := nI_i (by omega) (by omega) (em.symm.trans em')
          subst em2
          rcases X with ⟨r', er', _⟩ | ⟨D'', er', h3, e3, q3, B3, X3, W3, z3⟩
          · rw [er] at er'
            cases er'
          · rw [er] at er'
            cases er'
            exact ⟨h3, e3, gR_T q3, ⟨B3, X3, W3⟩, z3⟩
  obtain ⟨a, o', O', B', x', WN', WR', sh, hT', hW, hR⟩ := main
  obtain ⟨h', e, N⟩ := ln1I (d := d + 820) (n := n) (F := fun h i => f_Lw_text (d + 820) h 1 i 1613) (R := fun h i => f_Rf_text (d + 820) h 78 i) (K := fun h => f_Lw_law_2062 (d + 821) h 0 1 78 1613 (nI n)) (Z := fun h => am_01 0 (some (.inr (some (.int 0)), h))) (c := c1c) (a := a) (S := [1]) hS hX hn hL D.1.1 (by decide) sh hW hR
  refine ⟨h', ?_, LI_n N hT' hX hS hG hTT⟩
  rw [e_Lw_law_23, lw_al hS, if_neg (lw_lt hn hL), sc_r hS hX (by omega) hL, hX, hs, if_neg (show ¬ (1 : Int32) = 0 by decide), if_pos rfl, ← hX]
  exact e
theorem xt_t {k m : Nat} {x : XT} (hk : k < m) (hc : x.2.2.2.2.1 ≤ 20) (hT : ∀ j, j < x.2.2.2.2.1 → x.2.2.2.1 j < m) : ∀ j, j < (xt k x).2.2.2.2.1 → (xt k x).2.2.2.1 j < m := by
  intro j hj
  replace hj : j < (if x.2.2.2.2.1 = 20 then 20 else x.2.2.2.2.1 + 1) := hj
  show (if x.2.2.2.2.1 = 20 then (if j < 19 then x.2.2.2.1 (j + 1) else k) else if j < x.2.2.2.2.1 then x.2.2.2.1 j else k) < m
  by_cases c : x.2.2.2.2.1 = 20
  · rw [if_pos c] at hj ⊢
    by_cases c2 : j < 19
    · rw [if_pos c2]
      exact hT _ (by omega)
    · rw [if_neg c2]
      exact hk
  · rw [if_neg c] at hj ⊢
    by_cases c2 : j < x.2.2.2.2.1
    · rw [if_pos c2]
      exact hT _ c2
    · rw [if_neg c2]
      exact hk
theorem r_turn {h : am_H} {L n g : Nat} {xs : Nat → Int32} (I : LI h L xs g) (hn : n + 6 ≤ L) (hL : L ≤ 3072) (hs : xs n &&& 31 = 3) (d : Nat) : ∃ h', f_Lw_law_23 (d + 821) h 0 1 78 1613 (nI n) = f_Lw_law_2062 (d + 821) h' 0 1 78 1613 (nI n) ∧ LI h' L xs (g + 1) := by
  obtain ⟨o, O, B, x, WN, WR, C, D, hT, hX, hS, hG, hTT⟩ := I
  have k1 := Lc_k1 C.1.1
  have k8 := Rf_k D.1.1
  have n4 := C.2.1.1
  have ho := C.1.2.2.1
  have main : ∃ (a : Nat ⊕ Value) (o' : Nat) (O' : o_T) (B' : Nat → Prop) (x' : XT) (WN' WR' : Nat → Nat → Nat), shI [0] a ∧ (∀ k, k < x'.2.2.2.2.1 → x'.2.2.2.1 k < o_A O') ∧ WO (f_Lw_turn (d + 820) h 1 (xs (n + 1)) 1613) h c1c a (fun h => CT h o' O' B' x' WN' WR') ∧ ∀ e h', gX e h h' → RP (f_Rf_turn (d + 820) h' 78 (xs (n + 1))) h' c1c (.int 0) a (fun h => RT h 78 O' B' x' WN' WR') := by
    have okA := C.1.2.2.2.1.2.1.2.2.2.2.1
    rcases Lc_turn C.1 C.2.1 (xs (n + 1)) (d + 816) with ⟨k, hk, ek, h2, e, q, B2, X2⟩ | ⟨nv, e⟩
    · refine ⟨.inr (.int (bo (pd (¬ B k)))), o, O, flp B k, xt k x, WN, WR, ⟨_, rfl⟩, xt_t hk C.2.1.2.2.2.2.1 hT, WO_iv hS k1 (gX_Tu ho q) (e_Lw_turn_v (d + 819) h h2 1 _ 1613 _ e) (CT_o (CT_tu C q B2 X2) 0 _), fun e' h' g => ?_⟩
      have D2 := RT_X D g
      rcases Rf_turn D2.1 D2.2.1 (xs (n + 1)) (d + 818) with ⟨k', hk', ek', h3, e3, q3, B3, z3, X3⟩ | ⟨nv, _⟩
      · have ek2 : k = k' := nI_i (by omega) (by omega) (ek.symm.trans ek')
        subst ek2
        exact ⟨h3, e3, gR_Rt q3, ⟨B3, X3, RwW_of (q3.2.2.2.2.2.1 _ (by omega) (by omega)) D2.2.2⟩, z3⟩
      · exact absurd ⟨k, hk, ek⟩ nv
    · refine ⟨.inl 0, o, O, B, xr 0 x, WN, WR, m0_0, hT, WO_ev k1 ((e_Lw_turn_x0 (d + 819) h _ 1 _ 1613 e).trans (by rw [e_Lw_turn_13]; rfl)) (CT_cr (by omega) C), fun e' h' g => ?_⟩
      have D2 := RT_X D g
      rcases Rf_turn D2.1 D2.2.1 (xs (n + 1)) (d + 818) with ⟨k, hk, ek, _⟩ | ⟨_, q⟩
      · exact absurd ⟨k, hk, ek⟩ nv
      · exact RT_rf (by omega) D2 q
  obtain ⟨a, o', O', B', x', WN', WR', sh, hT', hW, hR⟩ := main
  obtain ⟨h', e, N⟩ := ln1I (d := d + 820) (n := n) (F := fun h i => f_Lw_turn (d + 820) h 1 i 1613) (R := fun h i => f_Rf_turn (d + 820) h 78 i) (K := fun h => f_Lw_law_2062 (d + 821) h 0 1 78 1613 (nI n)) (Z := fun h => am_01 0 (some (.inr (some (.int 0)), h))) (c := c1c) (a := a) (S := [0]) hS hX hn hL D.1.1 (by decide) sh hW hR
  refine ⟨h', ?_, LI_n N hT' hX hS hG hTT⟩
  rw [e_Lw_law_23, lw_al hS, if_neg (lw_lt hn hL), sc_r hS hX (by omega) hL, hX, hs, if_neg (show ¬ (3 : Int32) = 0 by decide), if_neg (show ¬ (3 : Int32) = 1 by decide), if_neg (show ¬ (3 : Int32) = 2 by decide), if_pos rfl, ← hX]
  exact e
theorem q_ask_i (B : Nat → Prop) (r : QRs) : ∃ y, q_ask B r = .int y := by
  cases r with
  | inl e => exact ⟨_, rfl⟩
  | inr y => exact ⟨_, rfl⟩
theorem q_of_i (B : Nat → Prop) (w : Nat) (r : QRs) : ∃ y, q_of B w r = .int y := by
  cases r with
  | inl e => exact ⟨_, rfl⟩
  | inr y =>
    unfold q_of
    by_cases c : w = 2
    · exact ⟨_, if_pos c⟩
    · by_cases c1 : w = 1
      · exact ⟨_, (if_neg c).trans (if_pos c1)⟩
      · exact ⟨_, (if_neg c).trans (if_neg c1)⟩
theorem q_mo_i (O : o_T) (B : Nat → Prop) (r : QRs) : ∃ y, q_mo O B r = .long y := by
  cases r with
  | inl e => exact ⟨_, rfl⟩
  | inr y => exact ⟨_, rfl⟩
theorem r_ask {h : am_H} {L n g : Nat} {xs : Nat → Int32} (I : LI h L xs g) (hn : n + 6 ≤ L) (hL : L ≤ 3072) (hs : xs n &&& 31 = 27) (d : Nat) : ∃ h', f_Lw_law_23 (d + 821) h 0 1 78 1613 (nI n) = f_Lw_law_2062 (d + 821) h' 0 1 78 1613 (nI n) ∧ LI h' L xs (g + 1) := by
  obtain ⟨o, O, B, x, WN, WR, C, D, hT, hX, hS, hG, hTT⟩ := I
  have k1 := Lc_k1 C.1.1
  have k8 := Rf_k D.1.1
  have n4 := C.2.1.1
  have ho := C.1.2.2.1
  have main : ∃ (a : Nat ⊕ Value) (o' : Nat) (O' : o_T) (B' : Nat → Prop) (x' : XT) (WN' WR' : Nat → Nat → Nat), shI [1] a ∧ (∀ k, k < x'.2.2.2.2.1 → x'.2.2.2.1 k < o_A O') ∧ WO (f_Lw_ask (d + 820) h 1 (xs (n + 1)) 1613) h c1c a (fun h => CT h o' O' B' x' WN' WR') ∧ ∀ e h', gX e h h' → RP (f_Rf_ask (d + 820) h' 78 (xs (n + 1))) h' c1c (.int 0) a (fun h => RT h 78 O' B' x' WN' WR') := by
    rcases Lc_ask C (xs (n + 1)) (d + 808) with ⟨nv, e⟩ | ⟨m, hm, em, h2, e, gc, C2⟩
    · refine ⟨.inl 1, o, O, B, xr 1 x, WN, WR, m1_1, hT, WO_ev k1 ((e_Lw_ask_x1 (d + 819) h _ 1 _ 1613 e).trans (by rw [e_Lw_ask_13]; rfl)) (CT_cr (by omega) C), fun e' h' g => ?_⟩
      have D2 := RT_X D g
      rcases Rf_ask' D2 (xs (n + 1)) (d + 7) with ⟨_, q⟩ | ⟨m, hm, em, _⟩
      · exact RT_rf (by omega) D2 q
      · exact absurd ⟨m, by omega, em⟩ nv
    · obtain ⟨y, hy⟩ := q_ask_i B (spA true x.1 m (O, WN, WR))
      rw [hy] at e
      refine ⟨.inr (.int y), o, O, B, xe (q_pl (spA true x.1 m (O, WN, WR))) x, WN, WR, ⟨_, rfl⟩, hT, WO_iv hS k1 (gC_X gc) (e_Lw_ask_v (d + 819) h h2 1 _ 1613 _ e) (CT_o C2 0 _), fun e' h' g => ?_⟩
      have D2 := RT_X D g
      rcases Rf_ask' D2 (xs (n + 1)) (d + 7) with ⟨nv, _⟩ | ⟨m', hm', em', h3, e3, q3, T3, z3⟩
      · exact absurd ⟨m, by omega, em⟩ nv
      · have em2 : m = m' := nI_i (by omega) (by omega) (em.symm.trans em')
        subst em2
        rw [hy] at e3
        exact ⟨h3, e3, q3, T3, z3⟩
  obtain ⟨a, o', O', B', x', WN', WR', sh, hT', hW, hR⟩ := main
  obtain ⟨h', e, N⟩ := ln1I (d := d + 820) (n := n) (F := fun h i => f_Lw_ask (d + 820) h 1 i 1613) (R := fun h i => f_Rf_ask (d + 820) h 78 i) (K := fun h => f_Lw_law_2062 (d + 821) h 0 1 78 1613 (nI n)) (Z := fun h => am_01 0 (some (.inr (some (.int 0)), h))) (c := c1c) (a := a) (S := [1]) hS hX hn hL D.1.1 (by decide) sh hW hR
  refine ⟨h', ?_, LI_n N hT' hX hS hG hTT⟩
  rw [e_Lw_law_23, lw_al hS, if_neg (lw_lt hn hL), sc_r hS hX (by omega) hL, hX, hs, if_neg (show ¬ (27 : Int32) = 0 by decide), if_neg (show ¬ (27 : Int32) = 1 by decide), if_neg (show ¬ (27 : Int32) = 2 by decide), if_neg (show ¬ (27 : Int32) = 3 by decide), if_neg (show ¬ (27 : Int32) = 4 by decide), if_neg (show ¬ (27 : Int32) = 5 by decide), if_neg (show ¬ (27 : Int32) = 6 by decide), if_neg (show ¬ (27 : Int32) = 7 by decide), if_neg (show ¬ (27 : Int32) = 8 by decide), if_neg (show ¬ (27 : Int32) = 9 by decide), if_neg (show ¬ (27 : Int32) = 10 by decide), if_neg (show ¬ (27 : Int32) = 11 by decide), if_neg (show ¬ (27 : Int32) = 12 by decide), if_neg (show ¬ (27 : Int32) = 13 by decide), if_neg (show ¬ (27 : Int32) = 14 by decide), if_neg (show ¬ (27 : Int32) = 15 by decide), if_neg (show ¬ (27 : Int32) = 16 by decide), if_neg (show ¬ (27 : Int32) = 17 by decide), if_neg (show ¬ (27 : Int32) = 18 by decide), if_neg (show ¬ (27 : Int32) = 19 by decide), if_neg (show ¬ (27 : Int32) = 20 by decide), if_neg (show ¬ (27 : Int32) = 21 by decide), if_neg (show ¬ (27 : Int32) = 22 by decide), if_neg (show ¬ (27 : Int32) = 23 by decide), if_neg (show ¬ (27 : Int32) = 24 by decide), if_neg (show ¬ (27 : Int32) = 25 by decide), if_neg (show ¬ (27 : Int32) = 26 by decide), if_pos rfl, ← hX]
  exact e
theorem r_model {h : am_H} {L n g : Nat} {xs : Nat → Int32} (I : LI h L xs g) (hn : n + 6 ≤ L) (hL : L ≤ 3072) (hs : xs n &&& 31 = 29) (d : Nat) : ∃ h', f_Lw_law_23 (d + 821) h 0 1 78 1613 (nI n) = f_Lw_law_2062 (d + 821) h' 0 1 78 1613 (nI n) ∧ LI h' L xs (g + 1) := by
  obtain ⟨o, O, B, x, WN, WR, C, D, hT, hX, hS, hG, hTT⟩ := I
  have k1 := Lc_k1 C.1.1
  have k8 := Rf_k D.1.1
  have n4 := C.2.1.1
  have ho := C.1.2.2.1
  have main : ∃ (a : Nat ⊕ Value) (o' : Nat) (O' : o_T) (B' : Nat → Prop) (x' : XT) (WN' WR' : Nat → Nat → Nat), shJ [1] a ∧ (∀ k, k < x'.2.2.2.2.1 → x'.2.2.2.1 k < o_A O') ∧ WO (f_Lw_model (d + 820) h 1 (xs (n + 1)) 1613) h c1c a (fun h => CT h o' O' B' x' WN' WR') ∧ ∀ e h', gX e h h' → RP (f_Rf_model (d + 820) h' 78 (xs (n + 1))) h' c1c (.long 0) a (fun h => RT h 78 O' B' x' WN' WR') := by
    rcases Lc_model' C (xs (n + 1)) (d + 807) with ⟨nv, e⟩ | ⟨m, hm, em, h2, e, gc, C2⟩
    · refine ⟨.inl 1, o, O, B, xr 1 x, WN, WR, m1_1, hT, WO_ev k1 ((e_Lw_model_x1 (d + 819) h _ 1 _ 1613 e).trans (by rw [e_Lw_model_12]; rfl)) (CT_cr (by omega) C), fun e' h' g => ?_⟩
      have D2 := RT_X D g
      rcases Rf_model' D2 (xs (n + 1)) (d + 7) with ⟨_, q⟩ | ⟨m, hm, em, _⟩
      · exact RT_rf (by omega) D2 q
      · exact absurd ⟨m, by omega, em⟩ nv
    · obtain ⟨y, hy⟩ := q_mo_i O B (spA false x.1 m (O, WN, WR))
      rw [hy] at e
      refine ⟨.inr (.long y), o, O, B, xe (q_pl (spA false x.1 m (O, WN, WR))) x, WN, WR, ⟨_, rfl⟩, hT, WO_jv hS k1 (gC_X gc) (e_Lw_model_v (d + 819) h h2 1 _ 1613 _ e) (CT_o C2 0 _), fun e' h' g => ?_⟩
      have D2 := RT_X D g
      rcases Rf_model' D2 (xs (n + 1)) (d + 7) with ⟨nv, _⟩ | ⟨m', hm', em', h3, e3, q3, T3, z3⟩
      · exact absurd ⟨m, by omega, em⟩ nv
      · have em2 : m = m' := nI_i (by omega) (by omega) (em.symm.trans em')
        subst em2
        rw [hy] at e3
        exact ⟨h3, e3, q3, T3, z3⟩
  obtain ⟨a, o', O', B', x', WN', WR', sh, hT', hW, hR⟩ := main
  obtain ⟨h', e, N⟩ := ln1J (d := d + 820) (n := n) (F := fun h i => f_Lw_model (d + 820) h 1 i 1613) (R := fun h i => f_Rf_model (d + 820) h 78 i) (K := fun h => f_Lw_law_2062 (d + 821) h 0 1 78 1613 (nI n)) (Z := fun h => am_01 0 (some (.inr (some (.int 0)), h))) (c := c1c) (a := a) (S := [1]) hS hX hn hL D.1.1 (by decide) sh hW hR
  refine ⟨h', ?_, LI_n N hT' hX hS hG hTT⟩
  rw [e_Lw_law_23, lw_al hS, if_neg (lw_lt hn hL), sc_r hS hX (by omega) hL, hX, hs, if_neg (show ¬ (29 : Int32) = 0 by decide), if_neg (show ¬ (29 : Int32) = 1 by decide), if_neg (show ¬ (29 : Int32) = 2 by decide), if_neg (show ¬ (29 : Int32) = 3 by decide), if_neg (show ¬ (29 : Int32) = 4 by decide), if_neg (show ¬ (29 : Int32) = 5 by decide), if_neg (show ¬ (29 : Int32) = 6 by decide), if_neg (show ¬ (29 : Int32) = 7 by decide), if_neg (show ¬ (29 : Int32) = 8 by decide), if_neg (show ¬ (29 : Int32) = 9 by decide), if_neg (show ¬ (29 : Int32) = 10 by decide), if_neg (show ¬ (29 : Int32) = 11 by decide), if_neg (show ¬ (29 : Int32) = 12 by decide), if_neg (show ¬ (29 : Int32) = 13 by decide), if_neg (show ¬ (29 : Int32) = 14 by decide), if_neg (show ¬ (29 : Int32) = 15 by decide), if_neg (show ¬ (29 : Int32) = 16 by decide), if_neg (show ¬ (29 : Int32) = 17 by decide), if_neg (show ¬ (29 : Int32) = 18 by decide), if_neg (show ¬ (29 : Int32) = 19 by decide), if_neg (show ¬ (29 : Int32) = 20 by decide), if_neg (show ¬ (29 : Int32) = 21 by decide), if_neg (show ¬ (29 : Int32) = 22 by decide), if_neg (show ¬ (29 : Int32) = 23 by decide), if_neg (show ¬ (29 : Int32) = 24 by decide), if_neg (show ¬ (29 : Int32) = 25 by decide), if_neg (show ¬ (29 : Int32) = 26 by decide), if_neg (show ¬ (29 : Int32) = 27 by decide), if_neg (show ¬ (29 : Int32) = 28 by decide), if_pos rfl, ← hX]
  exact e
theorem r_of {h : am_H} {L n g : Nat} {xs : Nat → Int32} (I : LI h L xs g) (hn : n + 6 ≤ L) (hL : L ≤ 3072) (hs : xs n &&& 31 = 28) (d : Nat) : ∃ h', f_Lw_law_23 (d + 821) h 0 1 78 1613 (nI n) = f_Lw_law_2062 (d + 821) h' 0 1 78 1613 (nI n) ∧ LI h' L xs (g + 1) := by
  obtain ⟨o, O, B, x, WN, WR, C, D, hT, hX, hS, hG, hTT⟩ := I
  have k1 := Lc_k1 C.1.1
  have k8 := Rf_k D.1.1
  have n4 := C.2.1.1
  have ho := C.1.2.2.1
  have main : ∃ (a : Nat ⊕ Value) (o' : Nat) (O' : o_T) (B' : Nat → Prop) (x' : XT) (WN' WR' : Nat → Nat → Nat), shI [1] a ∧ (∀ k, k < x'.2.2.2.2.1 → x'.2.2.2.1 k < o_A O') ∧ WO (f_Lw_of (d + 820) h 1 (xs (n + 1)) (xs (n + 2)) 1613) h c1c a (fun h => CT h o' O' B' x' WN' WR') ∧ ∀ e h', gX e h h' → RP (f_Rf_of (d + 820) h' 78 (xs (n + 1)) (xs (n + 2))) h' c1c (.int 0) a (fun h => RT h 78 O' B' x' WN' WR') := by
    rcases Lc_of' C (xs (n + 1)) (xs (n + 2)) (d + 807) with ⟨nv, e⟩ | ⟨w, m, hw, ew, hm, em, h2, e, gc, C2⟩
    · refine ⟨.inl 1, o, O, B, xr 1 x, WN, WR, m1_1, hT, WO_ev k1 ((e_Lw_of_x1 (d + 819) h _ 1 _ _ 1613 e).trans (by rw [e_Lw_of_15]; rfl)) (CT_cr (by omega) C), fun e' h' g => ?_⟩
      have D2 := RT_X D g
      rcases Rf_of' D2 (xs (n + 1)) (xs (n + 2)) (d + 7) with ⟨_, q⟩ | ⟨w, m, hw, ew, hm, em, _⟩
      · exact RT_rf (by omega) D2 q
      · exact absurd ⟨⟨w, hw, ew⟩, ⟨m, by omega, em⟩⟩ nv
    · obtain ⟨y, hy⟩ := q_of_i B w (spA false x.1 m (O, WN, WR))
      rw [hy] at e
      refine ⟨.inr (.int y), o, O, B, xe (q_pl (spA false x.1 m (O, WN, WR))) x, WN, WR, ⟨_, rfl⟩, hT, WO_iv hS k1 (gC_X gc) (e_Lw_of_v (d + 819) h h2 1 _ _ 1613 _ e) (CT_o C2 0 _), fun e' h' g => ?_⟩
      have D2 := RT_X D g
      rcases Rf_of' D2 (xs (n + 1)) (xs (n + 2)) (d + 7) with ⟨nv, _⟩ | ⟨w', m', hw', ew', hm', em', h3, e3, q3, T3, z3⟩
      · exact absurd ⟨⟨w, hw, ew⟩, ⟨m, by omega, em⟩⟩ nv
      · have em2 : m = m' := nI_i (by omega) (by omega) (em.symm.trans em')
        have ew2 : w = w' := nI_i (by omega) (by omega) (ew.symm.trans ew')
        subst em2
        subst ew2
        rw [hy] at e3
        exact ⟨h3, e3, q3, T3, z3⟩
  obtain ⟨a, o', O', B', x', WN', WR', sh, hT', hW, hR⟩ := main
  obtain ⟨h', e, N⟩ := ln2I (d := d + 820) (n := n) (F := fun h i j => f_Lw_of (d + 820) h 1 i j 1613) (R := fun h i j => f_Rf_of (d + 820) h 78 i j) (K := fun h => f_Lw_law_2062 (d + 821) h 0 1 78 1613 (nI n)) (Z := fun h => am_01 0 (some (.inr (some (.int 0)), h))) (c := c1c) (a := a) (S := [1]) hS hX hn hL D.1.1 (by decide) sh hW hR
  refine ⟨h', ?_, LI_n N hT' hX hS hG hTT⟩
  rw [e_Lw_law_23, lw_al hS, if_neg (lw_lt hn hL), sc_r hS hX (by omega) hL, hX, hs, if_neg (show ¬ (28 : Int32) = 0 by decide), if_neg (show ¬ (28 : Int32) = 1 by decide), if_neg (show ¬ (28 : Int32) = 2 by decide), if_neg (show ¬ (28 : Int32) = 3 by decide), if_neg (show ¬ (28 : Int32) = 4 by decide), if_neg (show ¬ (28 : Int32) = 5 by decide), if_neg (show ¬ (28 : Int32) = 6 by decide), if_neg (show ¬ (28 : Int32) = 7 by decide), if_neg (show ¬ (28 : Int32) = 8 by decide), if_neg (show ¬ (28 : Int32) = 9 by decide), if_neg (show ¬ (28 : Int32) = 10 by decide), if_neg (show ¬ (28 : Int32) = 11 by decide), if_neg (show ¬ (28 : Int32) = 12 by decide), if_neg (show ¬ (28 : Int32) = 13 by decide), if_neg (show ¬ (28 : Int32) = 14 by decide), if_neg (show ¬ (28 : Int32) = 15 by decide), if_neg (show ¬ (28 : Int32) = 16 by decide), if_neg (show ¬ (28 : Int32) = 17 by decide), if_neg (show ¬ (28 : Int32) = 18 by decide), if_neg (show ¬ (28 : Int32) = 19 by decide), if_neg (show ¬ (28 : Int32) = 20 by decide), if_neg (show ¬ (28 : Int32) = 21 by decide), if_neg (show ¬ (28 : Int32) = 22 by decide), if_neg (show ¬ (28 : Int32) = 23 by decide), if_neg (show ¬ (28 : Int32) = 24 by decide), if_neg (show ¬ (28 : Int32) = 25 by decide), if_neg (show ¬ (28 : Int32) = 26 by decide), if_neg (show ¬ (28 : Int32) = 27 by decide), if_pos rfl, ← hX]
  exact e
/-! ===== the law's loop, its end ===== -/
theorem sel_32 (v : Int32) : ∃ s, s < 32 ∧ v &&& 31 = nI s := by
  refine ⟨ui v % 32, Nat.mod_lt _ (by omega), ?_⟩
  have b : ui v % 32 < 32 := Nat.mod_lt _ (by omega)
  apply yi_ext
  intro k hk
  rw [yi_and, yi_nI (by omega), show (31 : Int32) = nI 31 from rfl, yi_nI (by omega), show (31 : Nat) = 2 ^ 5 - 1 from rfl, Nat.testBit_two_pow_sub_one, show (32 : Nat) = 2 ^ 5 from rfl, Nat.testBit_mod_two_pow, Bool.and_comm, yi_nat]
  rfl
theorem Lw_round {h : am_H} {L n g : Nat} {xs : Nat → Int32} (I : LI h L xs g) (hn : n + 6 ≤ L) (hL : L ≤ 3072) (d : Nat) : ∃ h', f_Lw_law_23 (d + 821) h 0 1 78 1613 (nI n) = f_Lw_law_2062 (d + 821) h' 0 1 78 1613 (nI n) ∧ LI h' L xs (g + 1) := by
  obtain ⟨s, hs, e⟩ := sel_32 (xs n)
  match s, hs, e with
  | 0, _, e => exact r_feed I hn hL e d
  | 1, _, e => exact r_text I hn hL e d
  | 2, _, e => exact r_fault I hn hL e d
  | 3, _, e => exact r_turn I hn hL e d
  | 4, _, e => exact r_undo I hn hL e d
  | 5, _, e => exact r_told I hn hL e d
  | 6, _, e => exact r_axiom I hn hL e d
  | 7, _, e => exact r_part I hn hL e d
  | 8, _, e => exact r_letter I hn hL e d
  | 9, _, e => exact r_named I hn hL e d
  | 10, _, e => exact r_below I hn hL e d
  | 11, _, e => exact r_when I hn hL e d
  | 12, _, e => exact r_why I hn hL e d
  | 13, _, e => exact r_link I hn hL e d
  | 14, _, e => exact r_under I hn hL e d
  | 15, _, e => exact r_node I hn hL e d
  | 16, _, e => exact r_nodeOf I hn hL e d
  | 17, _, e => exact r_nothing I hn hL e d
  | 18, _, e => exact r_common I hn hL e d
  | 19, _, e => exact r_needed I hn hL e d
  | 20, _, e => exact r_enough I hn hL e d
  | 21, _, e => exact r_reason I hn hL e d
  | 22, _, e => exact r_repair I hn hL e d
  | 23, _, e => exact r_likeness I hn hL e d
  | 24, _, e => exact r_atom I hn hL e d
  | 25, _, e => exact r_depends I hn hL e d
  | 26, _, e => exact r_module I hn hL e d
  | 27, _, e => exact r_ask I hn hL e d
  | 28, _, e => exact r_of I hn hL e d
  | 29, _, e => exact r_model I hn hL e d
  | 30, _, e => exact r_print I hn hL e d
  | 31, _, e => exact r_status I hn hL e d
  | s + 32, hs, _ => exact absurd hs (by omega)
theorem Lw_loop {L : Nat} {xs : Nat → Int32} (hL : L ≤ 3072) (d : Nat) : ∀ m k h, L < 6 * (k + m) + 6 → 6 * k ≤ L → LI h L xs k → ∃ h' g, f_Lw_law_23 (d + 821) h 0 1 78 1613 (nI (6 * k)) = some (.inr (some (.int 1)), h') ∧ LI h' L xs g ∧ 6 * g ≤ L
  | 0, k, h, hm, hk, I => by
    have hS := I
    obtain ⟨o, O, B, x, WN, WR, C, D, hT, hX, hS, hG, hTT⟩ := hS
    refine ⟨h, k, ?_, I, hk⟩
    rw [e_Lw_law_23, lw_al hS, if_pos (lw_ge (by omega) hL (by omega)), o1_1]
  | m + 1, k, h, hm, hk, I => by
    by_cases c : 6 * k + 6 ≤ L
    · obtain ⟨h1, e1, I1⟩ := Lw_round I c hL d
      obtain ⟨h', g, e2, I2, hg⟩ := Lw_loop hL d m (k + 1) h1 (by omega) (by omega) I1
      refine ⟨h', g, ?_, I2, hg⟩
      rw [e1, e_Lw_law_2062, show (6 : Int32) = nI 6 from rfl, nI_add]
      exact e2
    · have hS := I
      obtain ⟨o, O, B, x, WN, WR, C, D, hT, hX, hS, hG, hTT⟩ := hS
      refine ⟨h, k, ?_, I, hk⟩
      rw [e_Lw_law_23, lw_al hS, if_pos (lw_ge (by omega) hL (by omega)), o1_1]
theorem zl_ss : (zl_s.map fun q => q.2).sum ≤ 100000 := by decide +kernel
theorem zl_st : (zl_t.map fun q => q.2).sum ≤ 100000 := by decide +kernel
theorem pure_1 : sg_pure := by
  intro L xs hL
  obtain ⟨h0, e0, I0⟩ := Lw_begin L xs 817
  obtain ⟨h, g, e, I, hg⟩ := Lw_loop hL 0 513 0 h0 (by omega) (by omega) I0
  obtain ⟨o, O, B, x, WN, WR, C, D, hT, hX, hS, hG, hTT⟩ := I
  refine ⟨821, h, by omega, ?_, ?_, ?_⟩
  · exact e0.trans e
  · unfold am_nc
    rw [hS]
    unfold sh_L
    rw [List.length_append, List.length_append, List.length_cons, zl_sl, zl_tl]
    show 77 + 1 + (1535 + 1) + am_G h ≤ 1 + 601024
    omega
  · unfold am_ns
    rw [hS, hTT]
    unfold sh_L
    have a := zl_ss
    have b := zl_st
    have c : (List.map (fun q : Nat × Nat => q.2) [(10, 1)]).sum = 1 := rfl
    rw [List.map_append, List.map_append, List.sum_append, List.sum_append, List.map_cons, List.sum_cons, c]
    obtain ⟨x1, e1⟩ : ∃ A, A = (List.map (fun q : Nat × Nat => q.2) zl_s).sum := ⟨_, rfl⟩
    obtain ⟨x2, e2⟩ : ∃ A, A = (List.map (fun q : Nat × Nat => q.2) zl_t).sum := ⟨_, rfl⟩
    rw [← e1] at a ⊢
    rw [← e2] at b ⊢
    show L + x1 + (x2 + 1) + 6 * am_G h ≤ L + 7293034
    omega
theorem i_vc : Claimed_1_1 ∧ Claimed_1_2 := whole_of_pure pure_1
