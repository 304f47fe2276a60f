/-! ===== the class reads: what it keeps of the text ===== -/
theorem okP_ch {O : o_T} {p : Nat} (h : o_okP O p) : (o_pk O p = 3 → o_pa O p < p ∧ o_pb O p < p) ∧ (o_pk O p = 4 → o_pa O p < o_R O ∧ o_pb O p < p) ∧ (o_pk O p = 0 → o_pa O p < o_N O) ∧ o_pk O p < 5 := by
  unfold o_okP at h
  omega
/-- signs depend on the parts that stand below alone -/
theorem sgo_g {O O' : o_T} {P : Nat} (okp : ∀ p, p < P → o_okP O p) (e : ∀ p, p < P → o_pk O' p = o_pk O p ∧ o_pa O' p = o_pa O p ∧ o_pb O' p = o_pb O p) : ∀ n m p, p < P → p < n → p < m → sgN O' n p = sgN O m p ∧ sgR O' n p = sgR O m p
  | 0, _, p, _, h, _ => absurd h (Nat.not_lt_zero p)
  | n + 1, 0, p, _, _, h => absurd h (Nat.not_lt_zero p)
  | n + 1, m + 1, p, hp, h1, h2 => by
    obtain ⟨c3, c4, c0, -⟩ := okP_ch (okp p hp)
    obtain ⟨e1, e2, e3⟩ := e p hp
    rw [sgN, sgN, sgR, sgR, e1, e2, e3]
    by_cases k3 : o_pk O p = 3
    · have := c3 k3
      obtain ⟨a1, a2⟩ := sgo_g okp e n m (o_pa O p) (by omega) (by omega) (by omega)
      obtain ⟨b1, b2⟩ := sgo_g okp e n m (o_pb O p) (by omega) (by omega) (by omega)
      rw [a1, a2, b1, b2]
      exact ⟨rfl, rfl⟩
    · by_cases k4 : o_pk O p = 4
      · have := c4 k4
        obtain ⟨b1, b2⟩ := sgo_g okp e n m (o_pb O p) (by omega) (by omega) (by omega)
        rw [if_neg k3, if_neg k3, if_neg k3, if_neg k3, b1, b2]
        exact ⟨rfl, rfl⟩
      · rw [if_neg k3, if_neg k3, if_neg k3, if_neg k3, if_neg k4, if_neg k4, if_neg k4, if_neg k4]
        exact ⟨rfl, rfl⟩
theorem sgo_e {O O' : o_T} {P : Nat} (okp : ∀ p, p < P → o_okP O p) (e : ∀ p, p < P → o_pk O' p = o_pk O p ∧ o_pa O' p = o_pa O p ∧ o_pb O' p = o_pb O p) {p : Nat} (hp : p < P) : sgnm O' p = sgnm O p ∧ sgrl O' p = sgrl O p := sgo_g okp e (p + 1) (p + 1) p hp (by omega) (by omega)
theorem ax_e {O O' : o_T} {P : Nat} (okp : ∀ p, p < P → o_okP O p) (e : ∀ p, p < P → o_pk O' p = o_pk O p ∧ o_pa O' p = o_pa O p ∧ o_pb O' p = o_pb O p) {k : Nat} (ea : o_ak O' k = o_ak O k ∧ o_a1 O' k = o_a1 O k ∧ o_a2 O' k = o_a2 O k ∧ o_a3 O' k = o_a3 O k) (hk : o_ak O k ≤ 1 → o_a1 O k < P ∧ o_a2 O k < P) : axn O' k = axn O k ∧ axr O' k = axr O k := by
  obtain ⟨e1, e2, e3, e4⟩ := ea
  unfold axn axr
  rw [e1, e2, e3, e4]
  by_cases c : o_ak O k ≤ 1
  · obtain ⟨h1, h2⟩ := hk c
    rw [if_pos c, if_pos c, if_pos c, if_pos c, (sgo_e okp e h1).1, (sgo_e okp e h2).1, (sgo_e okp e h1).2, (sgo_e okp e h2).2]
    exact ⟨rfl, rfl⟩
  · rw [if_neg c, if_neg c, if_neg c, if_neg c]
    exact ⟨rfl, rfl⟩
/-- words, parts, axioms as the class keeps them -/
def OnDW (h : am_H) (o : Nat) (D : DT) : Prop := am_I h (o + 1) 0 = nI 24 ∧ am_I h (o + 1) 2 = nI (o_N D.1) ∧ am_I h (o + 3) 0 = nI 8 ∧ am_I h (o + 3) 2 = nI (o_R D.1) ∧ WoR h (o + 1) (o_N D.1) D.2.1 ∧ WoR h (o + 3) (o_R D.1) D.2.2
def OnDP (h : am_H) (o : Nat) (D : DT) : Prop := am_I h o 3 = nI (o_P D.1) ∧ (∀ p, p < o_P D.1 → am_I h (o + 6) p = nI (o_pk D.1 p) ∧ am_I h (o + 7) p = nI (o_pa D.1 p) ∧ am_I h (o + 8) p = nI (o_pb D.1 p) ∧ am_I h (o + 9) p = sgnm D.1 p ∧ am_I h (o + 10) p = sgrl D.1 p) ∧ (∀ p, p < o_P D.1 → o_pk D.1 p = 0 → am_I h (o + 5) (o_pa D.1 p) = nI p)
def OnDA (h : am_H) (o : Nat) (D : DT) : Prop := am_I h o 9 = nI (o_A D.1) ∧ (∀ k, k < o_A D.1 → am_I h (o + 11) k = nI (o_ak D.1 k) ∧ am_I h (o + 12) k = nI (o_a1 D.1 k) ∧ am_I h (o + 13) k = nI (o_a2 D.1 k) ∧ am_I h (o + 14) k = nI (o_a3 D.1 k) ∧ am_I h (o + 15) k = axn D.1 k ∧ am_I h (o + 16) k = axr D.1 k) ∧ (am_I h 37 3 = 0 → am_L h o 10 = wL (fun k => k < o_A D.1))
theorem OnDW_of {h h' : am_H} {o : Nat} {D : DT} (H : OnDW h o D) (h1 : am_I h' (o + 1) = am_I h (o + 1)) (h3 : am_I h' (o + 3) = am_I h (o + 3)) (h2 : am_L h' (o + 2) = am_L h (o + 2)) (h4 : am_L h' (o + 4) = am_L h (o + 4)) : OnDW h' o D := by
  unfold OnDW WoR at *
  rw [h1, h3, show o + 1 + 1 = o + 2 from rfl, show o + 3 + 1 = o + 4 from rfl, h2, h4]
  exact H
theorem OnDP_of {h h' : am_H} {o : Nat} {D : DT} (H : OnDP h o D) (h0 : am_I h' o 3 = am_I h o 3) (hI : ∀ j, 5 ≤ j → j ≤ 10 → am_I h' (o + j) = am_I h (o + j)) : OnDP h' o D := by
  unfold OnDP at *
  rw [h0, hI 5 (by omega) (by omega), hI 6 (by omega) (by omega), hI 7 (by omega) (by omega), hI 8 (by omega) (by omega), hI 9 (by omega) (by omega), hI 10 (by omega) (by omega)]
  exact H
theorem OnDA_of {h h' : am_H} {o : Nat} {D : DT} (H : OnDA h o D) (h0 : am_I h' o 9 = am_I h o 9) (hI : ∀ j, 11 ≤ j → j ≤ 16 → am_I h' (o + j) = am_I h (o + j)) (h3 : am_I h' 37 3 = am_I h 37 3) (hL : am_L h' o = am_L h o) : OnDA h' o D := by
  unfold OnDA at *
  rw [h3, hL, h0, hI 11 (by omega) (by omega), hI 12 (by omega) (by omega), hI 13 (by omega) (by omega), hI 14 (by omega) (by omega), hI 15 (by omega) (by omega), hI 16 (by omega) (by omega)]
  exact H
theorem OnDA_x {h : am_H} {o : Nat} {D D' : DT} {x : Nat → Prop} (w : wfD D x) (H : OnDA h o D) (eA : o_A D'.1 = o_A D.1) (e : ∀ p, p < o_P D.1 → o_pk D'.1 p = o_pk D.1 p ∧ o_pa D'.1 p = o_pa D.1 p ∧ o_pb D'.1 p = o_pb D.1 p) (ea : ∀ k, o_ak D'.1 k = o_ak D.1 k ∧ o_a1 D'.1 k = o_a1 D.1 k ∧ o_a2 D'.1 k = o_a2 D.1 k ∧ o_a3 D'.1 k = o_a3 D.1 k) : OnDA h o D' := by
  obtain ⟨h1, h2, h3⟩ := H
  refine ⟨h1.trans (by rw [eA]), fun k hk => ?_, fun z => (h3 z).trans (by rw [eA])⟩
  rw [eA] at hk
  obtain ⟨a1, a2⟩ := ax_e w.2.2.2.2.2.2.1 e (ea k) (fun c => by
    have := w.2.2.2.2.2.2.2.1 k hk
    unfold o_okA at this
    omega)
  rw [(ea k).1, (ea k).2.1, (ea k).2.2.1, (ea k).2.2.2, a1, a2]
  exact h2 k hk
/-- words: found, added -/
theorem Wo_find {h : am_H} {w n : Nat} {W : Nat → Nat → Nat} (H : WoA h w) (h2 : am_I h w 2 = nI n) (hn : n ≤ 24) (R : WoR h w n W) {c : Nat → Nat} {m : Nat} (hc : wOK c m) (d : Nat) : f_Wo_find d h w (lN (pkN c m)) = some (.inr (some (.int (nI (lm (fun k => k < n ∧ W k = c))))), h) := by
  have cl := pkN_6 (wOK_26 hc) hc.2.1
  have key : ∀ k, k ≤ n → (∀ j, j < k → ¬ (j < n ∧ W j = c)) → f_Wo_find_2 d h w (lN (pkN c m)) (nI k) = some (.inr (some (.int (nI (lm (fun k => k < n ∧ W k = c))))), h) := by
    refine dn ?_ ?_
    · intro hj
      rw [e_Wo_find_2, lz_i H.1 h2, if_pos (Int32.le_refl _), lm_n (fun k q => hj k q.1 q), ← lit_m1]
    · intro k hk ih hj
      obtain ⟨mk, hmk, eL⟩ := R k hk
      have cl2 := pkN_6 (wOK_26 hmk) hmk.2.1
      rw [e_Wo_find_2, lz_i H.1 h2, if_neg (by rw [n_le _ _ (by omega) (by omega)]; omega), lz_p H.1 H.2.1, Wo_ar H (by omega), eL]
      by_cases e : W k = c
      · rw [if_pos (by rw [lc_e, lN_e (by omega) (by omega), wOK_pk hmk hc]; exact e), lm_e ⟨hk, e⟩ hj]
      · rw [if_neg (by rw [lc_e, lN_e (by omega) (by omega), wOK_pk hmk hc]; exact e), nI_1]
        exact ih (no_s hj (fun q => e q.2))
  rw [e_Wo_find]
  exact key 0 (Nat.zero_le _) (fun j hj => absurd hj (Nat.not_lt_zero j))
theorem Wo_addF {h : am_H} {w n mx : Nat} (H : WoA h w) (h2 : am_I h w 2 = nI n) (h0 : am_I h w 0 = nI mx) (hn : n = mx) (v : Int64) (d : Nat) : f_Wo_add d h w v = some (.inr (some (.int (-1))), h) := by
  rw [e_Wo_add, lz_i H.1 h2, lz_i H.1 h0, if_neg (by rw [hn]; exact fun e => Int32.lt_irrefl e)]
theorem Wo_addY {h : am_H} {w n mx : Nat} (H : WoA h w) (h2 : am_I h w 2 = nI n) (h0 : am_I h w 0 = nI mx) (hn : n < mx) (hm : mx ≤ 24) (v : Int64) (d : Nat) : f_Wo_add d h w v = some (.inr (some (.int (nI n))), am_sI (am_sL h (w + 1) n v) w 2 (nI (n + 1))) := by
  have H1 : WoA (am_sL h (w + 1) n v) w := H
  have H2 : WoA (am_sI (am_sL h (w + 1) n v) w 2 (nI (n + 1))) w := H
  rw [e_Wo_add, lz_i H.1 h2, lz_i H.1 h0, if_pos (by rw [n_lt _ _ (by omega) (by omega)]; exact hn), lz_p H.1 H.2.1, lz_i H.1 h2, Wo_ar H (by omega), lz_i (v := nI n) H1.1 h2, lz_k H1.1, nI_1, lz_i (v := nI (n + 1)) H2.1 (by rw [pc_I_I, if_pos ⟨rfl, rfl⟩]), nI_pred]
