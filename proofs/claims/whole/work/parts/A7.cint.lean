/-! ===== the class reads: parts made ===== -/
def fOn (o : Nat) (h h' : am_H) : Prop := am_S h' = am_S h ∧ am_G h' = am_G h ∧ am_T h' = am_T h ∧ am_P h' = am_P h ∧ am_L h' = am_L h ∧ (∀ b, b ≠ o → (b < o + 5 ∨ o + 11 ≤ b) → am_I h' b = am_I h b) ∧ (∀ j, j ≠ 3 → am_I h' o j = am_I h o j)
theorem OnDP_add {h z : am_H} {o : Nat} {D : DT} {k a b : Nat} {sn sr : Int32} (okp : ∀ p, p < o_P D.1 → o_okP D.1 p) (P : OnDP h o D) (hn : sgnm (o_addP D.1 k a b) (o_P D.1) = sn) (hr : sgrl (o_addP D.1 k a b) (o_P D.1) = sr) (z3 : am_I z o 3 = nI (o_P D.1 + 1)) (z6 : ∀ p, am_I z (o + 6) p = if p = o_P D.1 then nI k else am_I h (o + 6) p) (z7 : ∀ p, am_I z (o + 7) p = if p = o_P D.1 then nI a else am_I h (o + 7) p) (z8 : ∀ p, am_I z (o + 8) p = if p = o_P D.1 then nI b else am_I h (o + 8) p) (z9 : ∀ p, am_I z (o + 9) p = if p = o_P D.1 then sn else am_I h (o + 9) p) (z10 : ∀ p, am_I z (o + 10) p = if p = o_P D.1 then sr else am_I h (o + 10) p) (z5 : ∀ j, am_I z (o + 5) j = if k = 0 ∧ j = a then nI (o_P D.1) else am_I h (o + 5) j) (hu : k = 0 → ∀ p, p < o_P D.1 → o_pk D.1 p = 0 → o_pa D.1 p ≠ a) : OnDP z o (d_addP D k a b) := by
  have eo : ∀ p, p < o_P D.1 → o_pk (o_addP D.1 k a b) p = o_pk D.1 p ∧ o_pa (o_addP D.1 k a b) p = o_pa D.1 p ∧ o_pb (o_addP D.1 k a b) p = o_pb D.1 p := fun p hp => aP_o (by omega)
  obtain ⟨n1, n2, n3⟩ := aP_n D.1 k a b
  refine ⟨z3, fun p hp => ?_, fun p hp => ?_⟩
  · have hp2 : p < o_P D.1 + 1 := hp
    show am_I z (o + 6) p = nI (o_pk (o_addP D.1 k a b) p) ∧ am_I z (o + 7) p = nI (o_pa (o_addP D.1 k a b) p) ∧ am_I z (o + 8) p = nI (o_pb (o_addP D.1 k a b) p) ∧ am_I z (o + 9) p = sgnm (o_addP D.1 k a b) p ∧ am_I z (o + 10) p = sgrl (o_addP D.1 k a b) p
    rw [z6, z7, z8, z9, z10]
    by_cases e : p = o_P D.1
    · rw [if_pos e, if_pos e, if_pos e, if_pos e, if_pos e, e, n1, n2, n3, hn, hr]
      exact ⟨rfl, rfl, rfl, rfl, rfl⟩
    · obtain ⟨e1, e2, e3⟩ := eo p (by omega)
      obtain ⟨g1, g2⟩ := sgo_e okp eo (show p < o_P D.1 by omega)
      rw [if_neg e, if_neg e, if_neg e, if_neg e, if_neg e, e1, e2, e3, g1, g2]
      exact P.2.1 p (by omega)
  · have hp2 : p < o_P D.1 + 1 := hp
    show o_pk (o_addP D.1 k a b) p = 0 → am_I z (o + 5) (o_pa (o_addP D.1 k a b) p) = nI p
    intro kp
    rw [z5]
    by_cases e : p = o_P D.1
    · rw [e, n1] at kp
      rw [e, n2, if_pos ⟨kp, rfl⟩]
    · obtain ⟨e1, e2, e3⟩ := eo p (by omega)
      rw [e1] at kp
      rw [e2, if_neg (fun q => hu q.1 p (by omega) kp q.2)]
      exact P.2.2 p (by omega) kp
theorem On_int {h : am_H} {o : Nat} {D : DT} (H : OnAt h o) (okp : ∀ p, p < o_P D.1 → o_okP D.1 p) (hN : o_N D.1 ≤ 24) (hR : o_R D.1 ≤ 8) (P : OnDP h o D) (h60 : o_P D.1 ≤ 60) {k a b : Nat} (hk : (k = 3 ∧ a < o_P D.1 ∧ b < o_P D.1) ∨ (k = 4 ∧ a < 8 ∧ b < o_P D.1) ∨ (k = 0 ∧ a < 24 ∧ b = 4294967295) ∨ ((k = 1 ∨ k = 2) ∧ a = 4294967295 ∧ b = 4294967295)) (d : Nat) : (∃ j, o_is D.1 k a b j ∧ f_On_intern d h o (nI k) (nI a) (nI b) = some (.inr (some (.int (nI (lm (o_is D.1 k a b))))), h)) ∨ ((∀ j, ¬ o_is D.1 k a b j) ∧ o_P D.1 = 60 ∧ f_On_intern d h o (nI k) (nI a) (nI b) = some (.inr (some (.int (-1))), h)) ∨ ((∀ j, ¬ o_is D.1 k a b j) ∧ o_P D.1 < 60 ∧ ∃ h', f_On_intern d h o (nI k) (nI a) (nI b) = some (.inr (some (.int (nI (o_P D.1)))), h') ∧ fOn o h h' ∧ OnDP h' o (d_addP D k a b) ∧ (k ≠ 0 → am_I h' (o + 5) = am_I h (o + 5))) := by
  have key : ∀ j, j ≤ o_P D.1 → (∀ i, i < j → ¬ o_is D.1 k a b i) → (∃ j, o_is D.1 k a b j ∧ f_On_intern_3 d h o (nI k) (nI a) (nI b) (nI j) = f_On_intern_3 d h o (nI k) (nI a) (nI b) (nI j)) ∨ True := fun _ _ _ => Or.inr trivial
  have walk : ∀ j, j ≤ o_P D.1 → (∀ i, i < j → ¬ o_is D.1 k a b i) → (∃ i, o_is D.1 k a b i ∧ f_On_intern_3 d h o (nI k) (nI a) (nI b) (nI j) = some (.inr (some (.int (nI (lm (o_is D.1 k a b))))), h)) ∨ ((∀ i, ¬ o_is D.1 k a b i) ∧ f_On_intern_3 d h o (nI k) (nI a) (nI b) (nI j) = f_On_intern_3 d h o (nI k) (nI a) (nI b) (nI (o_P D.1))) := by
    refine dn ?_ ?_
    · intro hi
      exact Or.inr ⟨fun i q => hi i q.1 q, rfl⟩
    · intro j hj ih hi
      obtain ⟨p1, p2, p3, -⟩ := P.2.1 j hj
      obtain ⟨b1, b2, b3⟩ := okP_b (okp j hj) (by omega) hN hR
      have st : ¬ o_is D.1 k a b j → f_On_intern_3 d h o (nI k) (nI a) (nI b) (nI j) = f_On_intern_3 d h o (nI k) (nI a) (nI b) (nI (j + 1)) := by
        intro no
        rw [e_On_intern_3, lz_i (On_k H) P.1, if_neg (by rw [n_le _ _ (by omega) (by omega)]; omega), lz_p (On_k H) (On_p4 H), On_r6 H (by omega), p1]
        by_cases c1 : o_pk D.1 j = k
        · rw [if_pos (by rw [c1]), lz_p (On_k H) (On_p5 H), On_r7 H (by omega), p2]
          by_cases c2 : o_pa D.1 j = a
          · rw [if_pos (by rw [c2]), lz_p (On_k H) (On_p6 H), On_r8 H (by omega), p3]
            rw [if_neg (by rw [nI_e32 b3 (by omega)]; exact fun c3 => no ⟨hj, c1, c2, c3⟩), nI_1]
          · rw [if_neg (by rw [nI_e32 b2 (by omega)]; exact c2), nI_1]
        · rw [if_neg (by rw [nI_e32 b1 (by omega)]; exact c1), nI_1]
      by_cases y : o_is D.1 k a b j
      · refine Or.inl ⟨j, y, ?_⟩
        rw [e_On_intern_3, lz_i (On_k H) P.1, if_neg (by rw [n_le _ _ (by omega) (by omega)]; omega), lz_p (On_k H) (On_p4 H), On_r6 H (by omega), p1, if_pos (by rw [y.2.1]), lz_p (On_k H) (On_p5 H), On_r7 H (by omega), p2, if_pos (by rw [y.2.2.1]), lz_p (On_k H) (On_p6 H), On_r8 H (by omega), p3, if_pos (by rw [y.2.2.2]), lm_e y hi]
      · rw [st y]
        exact ih (no_s hi y)
  rw [e_On_intern]
  rcases walk 0 (Nat.zero_le _) (fun i hi => absurd hi (Nat.not_lt_zero i)) with ⟨i, y, e⟩ | ⟨no, e⟩
  · exact Or.inl ⟨i, y, e⟩
  · refine Or.inr ?_
    rw [show f_On_intern_3 d h o (nI k) (nI a) (nI b) 0 = _ from e, e_On_intern_3, lz_i (On_k H) P.1, if_pos (Int32.le_refl _), lz_i (On_k H) P.1]
    by_cases c : o_P D.1 = 60
    · refine Or.inl ⟨no, c, ?_⟩
      rw [if_neg (by rw [c]; decide)]
    · refine Or.inr ⟨no, by omega, ?_⟩
      rw [if_pos (by rw [show (60 : Int32) = nI 60 from rfl, n_lt _ _ (by omega) (by omega)]; omega), lz_i (On_k H) P.1]
      obtain ⟨s, es⟩ : ∃ s, s = am_sI (am_sI (am_sI (am_sI (am_sI h (o + 6) (o_P D.1) (nI k)) (o + 7) (o_P D.1) (nI a)) (o + 8) (o_P D.1) (nI b)) (o + 9) (o_P D.1) 0) (o + 10) (o_P D.1) 0 := ⟨_, rfl⟩
      have Hs : OnAt s o := by rw [es]; exact H
      have hp6 : o_P D.1 < 60 := by omega
      rw [lz_p (On_k H) (On_p4 H), On_r6 H hp6]
      have H1 : OnAt (am_sI h (o + 6) (o_P D.1) (nI k)) o := H
      rw [lz_p (On_k H1) (On_p5 H1), On_r7 H1 hp6]
      have H2 : OnAt (am_sI (am_sI h (o + 6) (o_P D.1) (nI k)) (o + 7) (o_P D.1) (nI a)) o := H
      rw [lz_p (On_k H2) (On_p6 H2), On_r8 H2 hp6]
      have H3 : OnAt (am_sI (am_sI (am_sI h (o + 6) (o_P D.1) (nI k)) (o + 7) (o_P D.1) (nI a)) (o + 8) (o_P D.1) (nI b)) o := H
      rw [lz_p (On_k H3) (On_p7 H3), On_r9 H3 hp6]
      have H4 : OnAt (am_sI (am_sI (am_sI (am_sI h (o + 6) (o_P D.1) (nI k)) (o + 7) (o_P D.1) (nI a)) (o + 8) (o_P D.1) (nI b)) (o + 9) (o_P D.1) 0) o := H
      rw [lz_p (On_k H4) (On_p8 H4), On_r10 H4 hp6, ← es]
      have sb : ∀ b', b' ≠ o + 6 → b' ≠ o + 7 → b' ≠ o + 8 → b' ≠ o + 9 → b' ≠ o + 10 → ∀ j, am_I s b' j = am_I h b' j := fun b' a1 a2 a3 a4 a5 j => by
        rw [es, pc_I_I, if_neg (fun e => a5 e.1), pc_I_I, if_neg (fun e => a4 e.1), pc_I_I, if_neg (fun e => a3 e.1), pc_I_I, if_neg (fun e => a2 e.1), pc_I_I, if_neg (fun e => a1 e.1)]
      have s6 : ∀ p, am_I s (o + 6) p = if p = o_P D.1 then nI k else am_I h (o + 6) p := fun p => by
        rw [es, pc_I_I, if_neg (by omega), pc_I_I, if_neg (by omega), pc_I_I, if_neg (by omega), pc_I_I, if_neg (by omega), pc_I_I]
        by_cases e : p = o_P D.1
        · rw [if_pos ⟨rfl, e⟩, if_pos e]
        · rw [if_neg (fun q => e q.2), if_neg e]
      have s7 : ∀ p, am_I s (o + 7) p = if p = o_P D.1 then nI a else am_I h (o + 7) p := fun p => by
        rw [es, pc_I_I, if_neg (by omega), pc_I_I, if_neg (by omega), pc_I_I, if_neg (by omega), pc_I_I]
        by_cases e : p = o_P D.1
        · rw [if_pos ⟨rfl, e⟩, if_pos e]
        · rw [if_neg (fun q => e q.2), if_neg e, pc_I_I, if_neg (by omega)]
      have s8 : ∀ p, am_I s (o + 8) p = if p = o_P D.1 then nI b else am_I h (o + 8) p := fun p => by
        rw [es, pc_I_I, if_neg (by omega), pc_I_I, if_neg (by omega), pc_I_I]
        by_cases e : p = o_P D.1
        · rw [if_pos ⟨rfl, e⟩, if_pos e]
        · rw [if_neg (fun q => e q.2), if_neg e, pc_I_I, if_neg (by omega), pc_I_I, if_neg (by omega)]
      have s9 : ∀ p, am_I s (o + 9) p = if p = o_P D.1 then 0 else am_I h (o + 9) p := fun p => by
        rw [es, pc_I_I, if_neg (by omega), pc_I_I]
        by_cases e : p = o_P D.1
        · rw [if_pos ⟨rfl, e⟩, if_pos e]
        · rw [if_neg (fun q => e q.2), if_neg e, pc_I_I, if_neg (by omega), pc_I_I, if_neg (by omega), pc_I_I, if_neg (by omega)]
      have s10 : ∀ p, am_I s (o + 10) p = if p = o_P D.1 then 0 else am_I h (o + 10) p := fun p => by
        rw [es, pc_I_I]
        by_cases e : p = o_P D.1
        · rw [if_pos ⟨rfl, e⟩, if_pos e]
        · rw [if_neg (fun q => e q.2), if_neg e, pc_I_I, if_neg (by omega), pc_I_I, if_neg (by omega), pc_I_I, if_neg (by omega), pc_I_I, if_neg (by omega)]
      -- the last: the count; what stands then
      have fin : ∀ (y : am_H) (sn sr : Int32), OnAt y o → (am_S y = am_S s ∧ am_G y = am_G s ∧ am_T y = am_T s ∧ am_P y = am_P s ∧ am_L y = am_L s) → sgnm (o_addP D.1 k a b) (o_P D.1) = sn → sgrl (o_addP D.1 k a b) (o_P D.1) = sr → (∀ b', b' ≠ o + 5 → b' ≠ o + 9 → b' ≠ o + 10 → ∀ j, am_I y b' j = am_I s b' j) → (∀ p, am_I y (o + 9) p = if p = o_P D.1 then sn else am_I h (o + 9) p) → (∀ p, am_I y (o + 10) p = if p = o_P D.1 then sr else am_I h (o + 10) p) → (∀ j, am_I y (o + 5) j = if k = 0 ∧ j = a then nI (o_P D.1) else am_I h (o + 5) j) → ∃ h', f_On_intern_219 d y o (nI (o_P D.1)) = some (.inr (some (.int (nI (o_P D.1)))), h') ∧ fOn o h h' ∧ OnDP h' o (d_addP D k a b) ∧ (k ≠ 0 → am_I h' (o + 5) = am_I h (o + 5)) := by
        intro y sn sr Hy ys hn hr yb y9 y10 y5
        have y3 : am_I y o 3 = nI (o_P D.1) := by
          rw [yb o (by omega) (by omega) (by omega), sb o (by omega) (by omega) (by omega) (by omega) (by omega)]
          exact P.1
        have rd : ∀ b', b' ≠ o → ∀ j, am_I (am_sI y o 3 (nI (o_P D.1 + 1))) b' j = am_I y b' j := fun b' p j => by rw [pc_I_I, if_neg (fun e => p e.1)]
        refine ⟨am_sI y o 3 (nI (o_P D.1 + 1)), ?_, ?_, ?_, fun k0 => ?_⟩
        · rw [e_On_intern_219, lz_i (On_k Hy) y3, lz_k (On_k Hy), nI_1]
        · refine ⟨by show am_S y = _; rw [ys.1, es]; rfl, by show am_G y = _; rw [ys.2.1, es]; rfl, by show am_T y = _; rw [ys.2.2.1, es]; rfl, by show am_P y = _; rw [ys.2.2.2.1, es]; rfl, by show am_L y = _; rw [ys.2.2.2.2, es]; rfl, fun b' p q => ?_, fun j p => ?_⟩
          · funext j
            rw [rd b' p, yb b' (by omega) (by omega) (by omega), sb b' (by omega) (by omega) (by omega) (by omega) (by omega)]
          · rw [pc_I_I, if_neg (by omega), yb o (by omega) (by omega) (by omega), sb o (by omega) (by omega) (by omega) (by omega) (by omega)]
        · refine OnDP_add okp P hn hr (by rw [pc_I_I, if_pos ⟨rfl, rfl⟩]) (fun p => ?_) (fun p => ?_) (fun p => ?_) (fun p => ?_) (fun p => ?_) (fun j => ?_) (fun k0 p hp kp pa => ?_)
          · rw [rd _ (by omega), yb _ (by omega) (by omega) (by omega), s6]
          · rw [rd _ (by omega), yb _ (by omega) (by omega) (by omega), s7]
          · rw [rd _ (by omega), yb _ (by omega) (by omega) (by omega), s8]
          · rw [rd _ (by omega), y9]
          · rw [rd _ (by omega), y10]
          · rw [rd _ (by omega), y5]
          · have := okp p hp
            unfold o_okP at this
            exact no p ⟨hp, kp.trans k0.symm, pa, by omega⟩
        · funext j
          rw [rd _ (by omega), y5, if_neg (fun e => k0 e.1)]
      have eo : ∀ p, p < o_P D.1 → o_pk (o_addP D.1 k a b) p = o_pk D.1 p ∧ o_pa (o_addP D.1 k a b) p = o_pa D.1 p ∧ o_pb (o_addP D.1 k a b) p = o_pb D.1 p := fun p hp => aP_o (by omega)
      obtain ⟨n1, n2, n3⟩ := aP_n D.1 k a b
      have gN : sgnm (o_addP D.1 k a b) (o_P D.1) = (if k = 0 then am_ishl 1 (nI a) else if k = 3 then sgN (o_addP D.1 k a b) (o_P D.1) a ||| sgN (o_addP D.1 k a b) (o_P D.1) b else if k = 4 then sgN (o_addP D.1 k a b) (o_P D.1) b else 0) := by
        unfold sgnm
        rw [sgN, n1, n2, n3]
      have gR : sgrl (o_addP D.1 k a b) (o_P D.1) = (if k = 3 then sgR (o_addP D.1 k a b) (o_P D.1) a ||| sgR (o_addP D.1 k a b) (o_P D.1) b else if k = 4 then am_ishl 1 (nI a) ||| sgR (o_addP D.1 k a b) (o_P D.1) b else 0) := by
        unfold sgrl
        rw [sgR, n1, n2, n3]
      have ch : ∀ c, c < o_P D.1 → sgN (o_addP D.1 k a b) (o_P D.1) c = sgnm D.1 c ∧ sgR (o_addP D.1 k a b) (o_P D.1) c = sgrl D.1 c := fun c hc => sgo_g okp eo _ _ c hc hc (by omega)
      have st : am_S s = am_S s ∧ am_G s = am_G s ∧ am_T s = am_T s ∧ am_P s = am_P s ∧ am_L s = am_L s := ⟨rfl, rfl, rfl, rfl, rfl⟩
      rcases hk with ⟨rfl, ha, hb⟩ | ⟨rfl, ha, hb⟩ | ⟨rfl, ha, hb⟩ | ⟨hk, ha, hb⟩
      · -- and
        obtain ⟨-, -, -, a9, a10⟩ := P.2.1 a ha
        obtain ⟨-, -, -, b9, b10⟩ := P.2.1 b hb
        have va : am_I s (o + 9) a = sgnm D.1 a := by rw [s9, if_neg (by omega)]; exact a9
        have vb : am_I s (o + 9) b = sgnm D.1 b := by rw [s9, if_neg (by omega)]; exact b9
        rw [if_neg (by decide), if_pos (by decide), lz_p (On_k Hs) (On_p7 Hs), lz_p (On_k Hs) (On_p7 Hs), On_r9 Hs (show a < 60 by omega), lz_p (On_k Hs) (On_p7 Hs), On_r9 Hs (show b < 60 by omega), On_r9 Hs hp6, va, vb]
        obtain ⟨t, et⟩ : ∃ t, t = am_sI s (o + 9) (o_P D.1) (sgnm D.1 a ||| sgnm D.1 b) := ⟨_, rfl⟩
        have Ht : OnAt t o := by rw [et]; exact Hs
        have wa : am_I t (o + 10) a = sgrl D.1 a := by rw [et, pc_I_I, if_neg (by omega), s10, if_neg (by omega)]; exact a10
        have wb : am_I t (o + 10) b = sgrl D.1 b := by rw [et, pc_I_I, if_neg (by omega), s10, if_neg (by omega)]; exact b10
        rw [← et, lz_p (On_k Ht) (On_p8 Ht), lz_p (On_k Ht) (On_p8 Ht), On_r10 Ht (show a < 60 by omega), lz_p (On_k Ht) (On_p8 Ht), On_r10 Ht (show b < 60 by omega), On_r10 Ht hp6, wa, wb]
        refine fin _ (sgnm D.1 a ||| sgnm D.1 b) (sgrl D.1 a ||| sgrl D.1 b) Ht (by rw [et]; exact st) ?_ ?_ (fun b' a1 a2 a3 j => ?_) (fun p => ?_) (fun p => ?_) (fun j => ?_)
        · rw [gN, if_neg (by omega), if_pos rfl, (ch a ha).1, (ch b hb).1]
        · rw [gR, if_pos rfl, (ch a ha).2, (ch b hb).2]
        · rw [pc_I_I, if_neg (fun e => a3 e.1), et, pc_I_I, if_neg (fun e => a2 e.1)]
        · rw [pc_I_I, if_neg (by omega), et, pc_I_I]
          by_cases e : p = o_P D.1
          · rw [if_pos ⟨rfl, e⟩, if_pos e]
          · rw [if_neg (fun q => e q.2), if_neg e, s9, if_neg e]
        · rw [pc_I_I]
          by_cases e : p = o_P D.1
          · rw [if_pos ⟨rfl, e⟩, if_pos e]
          · rw [if_neg (fun q => e q.2), if_neg e, et, pc_I_I, if_neg (by omega), s10, if_neg e]
        · rw [pc_I_I, if_neg (by omega), et, pc_I_I, if_neg (by omega), if_neg (by omega), sb _ (by omega) (by omega) (by omega) (by omega) (by omega)]
      · -- some
        obtain ⟨-, -, -, b9, b10⟩ := P.2.1 b hb
        have vb : am_I s (o + 9) b = sgnm D.1 b := by rw [s9, if_neg (by omega)]; exact b9
        rw [if_neg (by decide), if_neg (by decide), if_pos (by decide), lz_p (On_k Hs) (On_p7 Hs), lz_p (On_k Hs) (On_p7 Hs), On_r9 Hs (show b < 60 by omega), On_r9 Hs hp6, vb]
        obtain ⟨t, et⟩ : ∃ t, t = am_sI s (o + 9) (o_P D.1) (sgnm D.1 b) := ⟨_, rfl⟩
        have Ht : OnAt t o := by rw [et]; exact Hs
        have wb : am_I t (o + 10) b = sgrl D.1 b := by rw [et, pc_I_I, if_neg (by omega), s10, if_neg (by omega)]; exact b10
        rw [← et, lz_p (On_k Ht) (On_p8 Ht), lz_p (On_k Ht) (On_p8 Ht), On_r10 Ht (show b < 60 by omega), On_r10 Ht hp6, wb]
        refine fin _ (sgnm D.1 b) (sgrl D.1 b ||| am_ishl 1 (nI a)) Ht (by rw [et]; exact st) ?_ ?_ (fun b' a1 a2 a3 j => ?_) (fun p => ?_) (fun p => ?_) (fun j => ?_)
        · rw [gN, if_neg (by omega), if_neg (by omega), if_pos rfl, (ch b hb).1]
        · rw [gR, if_neg (by omega), if_pos rfl, (ch b hb).2, Int32.or_comm]
        · rw [pc_I_I, if_neg (fun e => a3 e.1), et, pc_I_I, if_neg (fun e => a2 e.1)]
        · rw [pc_I_I, if_neg (by omega), et, pc_I_I]
          by_cases e : p = o_P D.1
          · rw [if_pos ⟨rfl, e⟩, if_pos e]
          · rw [if_neg (fun q => e q.2), if_neg e, s9, if_neg e]
        · rw [pc_I_I]
          by_cases e : p = o_P D.1
          · rw [if_pos ⟨rfl, e⟩, if_pos e]
          · rw [if_neg (fun q => e q.2), if_neg e, et, pc_I_I, if_neg (by omega), s10, if_neg e]
        · rw [pc_I_I, if_neg (by omega), et, pc_I_I, if_neg (by omega), if_neg (by omega), sb _ (by omega) (by omega) (by omega) (by omega) (by omega)]
      · -- a name
        rw [if_pos (by decide), lz_p (On_k Hs) (On_p2 Hs), On_r5 Hs ha]
        obtain ⟨t, et⟩ : ∃ t, t = am_sI s (o + 5) a (nI (o_P D.1)) := ⟨_, rfl⟩
        have Ht : OnAt t o := by rw [et]; exact Hs
        rw [← et, lz_p (On_k Ht) (On_p7 Ht), On_r9 Ht hp6]
        refine fin _ (am_ishl 1 (nI a)) 0 Ht (by rw [et]; exact st) ?_ ?_ (fun b' a1 a2 a3 j => ?_) (fun p => ?_) (fun p => ?_) (fun j => ?_)
        · rw [gN, if_pos rfl]
        · rw [gR, if_neg (by omega), if_neg (by omega)]
        · rw [pc_I_I, if_neg (fun e => a2 e.1), et, pc_I_I, if_neg (fun e => a1 e.1)]
        · rw [pc_I_I]
          by_cases e : p = o_P D.1
          · rw [if_pos ⟨rfl, e⟩, if_pos e]
          · rw [if_neg (fun q => e q.2), if_neg e, et, pc_I_I, if_neg (by omega), s9, if_neg e]
        · rw [pc_I_I, if_neg (by omega), et, pc_I_I, if_neg (by omega), s10]
        · rw [pc_I_I, if_neg (by omega), et, pc_I_I]
          by_cases e : j = a
          · rw [if_pos ⟨rfl, e⟩, if_pos ⟨rfl, e⟩]
          · rw [if_neg (fun q => e q.2), if_neg (fun q => e q.2), sb _ (by omega) (by omega) (by omega) (by omega) (by omega)]
      · -- all, nothing
        rw [if_neg (by rcases hk with rfl | rfl <;> decide), if_neg (by rcases hk with rfl | rfl <;> decide), if_neg (by rcases hk with rfl | rfl <;> decide)]
        refine fin s 0 0 Hs st ?_ ?_ (fun b' a1 a2 a3 j => rfl) s9 s10 (fun j => ?_)
        · rw [gN, if_neg (by omega), if_neg (by omega), if_neg (by omega)]
        · rw [gR, if_neg (by omega), if_neg (by omega)]
        · rw [if_neg (by omega), sb _ (by omega) (by omega) (by omega) (by omega) (by omega)]
