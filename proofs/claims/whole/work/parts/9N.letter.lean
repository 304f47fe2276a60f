/-! ===== letter: both sides ===== -/
def OnW (h : am_H) (o : Nat) (O : o_T) (WN WR : Nat → Nat → Nat) : Prop := WoR h (o + 1) (o_N O) WN ∧ WoR h (o + 3) (o_R O) WR
def RwW (h : am_H) (r : Nat) (O : o_T) (WN WR : Nat → Nat → Nat) : Prop := (∀ k, k < o_N O → ∃ m, wOK (WN k) m ∧ am_I h r (4 + k) = nI (cdw (WN k) 6)) ∧ (∀ k, k < o_R O → ∃ m, wOK (WR k) m ∧ am_I h r (28 + k) = nI (cdw (WR k) 6))
def q_wd (WN WR : Nat → Nat → Nat) (w : Nat) : Nat → Nat → Nat := if w = 0 then WN else WR
def q_wn (O : o_T) (w : Nat) : Nat := if w = 0 then o_N O else o_R O
noncomputable def q_le (O : o_T) (WN WR : Nat → Nat → Nat) (i j l : Int32) : Nat ⊕ Value := g1 2 i 0 fun w => g1 (q_wn O w) j 0 fun k => g1 (wlf (q_wd WN WR w k)) l 0 fun t => .inr (.int (nI (q_wd WN WR w k t + 96)))
theorem Wo_letn {h : am_H} {w n : Nat} (H : WoA h w) (h2 : am_I h w 2 = nI n) (hn : n ≤ 24) {k : Int32} (hk : ¬ vi n k) (i : Int32) (d : Nat) : f_Wo_letterAt d h w k i = some (.inr (some (.int (-1))), h) := by
  rw [e_Wo_letterAt]
  by_cases c : k < 0
  · rw [if_pos c]
  · have := vi_n (by omega) hk c
    rw [if_neg c, lz_i H.1 h2, if_pos]
    rw [Int32.lt_iff_toInt_lt] at this
    rw [Int32.le_iff_toInt_le]
    omega
theorem On_wo1 {h : am_H} {o : Nat} (H : OnAt h o) : WoA h (o + 1) := ⟨On_k1 H, On_q1 H, H.2.2.2.2.2.2.2.2.2.2.2.2.2.2.2.2.2.1⟩
theorem On_wo3 {h : am_H} {o : Nat} (H : OnAt h o) : WoA h (o + 3) := ⟨On_k3 H, On_q3 H, H.2.2.2.2.2.2.2.2.2.2.2.2.2.2.2.2.2.2.2.2.1⟩
theorem Lc_q_letter {h : am_H} {o : Nat} {O : o_T} {B : Nat → Prop} {WN WR : Nat → Nat → Nat} (C : CB h o O B) (W : OnW h o O WN WR) (i j l : Int32) (d : Nat) : QQ (f_Lc_letter (d + 1) h 1 i j l) h o O B (q_le O WN WR i j l) := by
  have H := C.1
  have Ho := C.2.2.2.1
  have H3 := OnR_at Ho
  have hN := Ho.2.1.1
  have hR := Ho.2.1.2.1
  have no : QQ (some (.inl 0, cr 0 h)) h o O B (.inl 0) := QQ_n C
  have key : ∀ (w n : Nat) (V : Nat → Nat → Nat), WoA h w → am_I h w 2 = nI n → n ≤ 24 → WoR h w n V → QQ (am_ci (f_Wo_letterAt d h w j l) fun x_4 h_3 => if x_4 = -1 then am_ck h_3 1 7 <| am_cv (f_Lc_refuseNoSuch d h_3 1) fun h_5 => some (.inr (some (.int x_4)), h_5) else some (.inr (some (.int x_4)), h_3)) h o O B (g1 n j 0 fun k => g1 (wlf (V k)) l 0 fun t => .inr (.int (nI (V k t + 96)))) := by
    intro w n V Hw h2 hn R
    by_cases v : vi n j
    · obtain ⟨k, hk, rfl⟩ := v
      rw [g1_y (by omega) hk, lz_ci (Wo_letter Hw h2 hn R hk l d)]
      obtain ⟨m, hm, -⟩ := R k hk
      have hm6 := hm.2.1
      rw [wOK_l hm]
      by_cases v2 : vi m l
      · obtain ⟨t, ht, rfl⟩ := v2
        have := wOK_26 hm t
        rw [g1_y (by omega) ht, if_pos (show vi m (nI t) from ⟨t, ht, rfl⟩), nI_clamp (by omega), if_neg (by rw [lit_m1, nI_e32 (by omega) (by omega)]; omega)]
        exact ⟨h, fK_r _, C, rfl⟩
      · rw [g1_n v2, if_neg v2, if_pos rfl, lz_k (Lc_k1 H), Lc_rf0 H, cv_e]
        exact no
    · rw [g1_n v, lz_ci (Wo_letn Hw h2 hn v l d), if_pos rfl, lz_k (Lc_k1 H), Lc_rf0 H, cv_e]
      exact no
  have k0 := key (o + 1) (o_N O) WN (On_wo1 H3) (OnR_N Ho) hN W.1
  have k1 := key (o + 3) (o_R O) WR (On_wo3 H3) (OnR_R Ho) (by omega) W.2
  unfold q_le
  rw [e_Lc_letter]
  by_cases v : vi 2 i
  · obtain ⟨w, hw, rfl⟩ := v
    rw [g1_y (by omega) hw]
    rcases iv2 hw with rfl | rfl
    · rw [if_pos (by decide), e_Lc_letter_13, if_pos (by decide), lz_p (Lc_k1 H) C.2.1, lz_p (On_k H3) (On_p0 H3), lz_k (On_k1 H3)]
      exact k0
    · rw [if_neg (by decide), if_pos (by decide), e_Lc_letter_13, if_neg (by decide), lz_p (Lc_k1 H) C.2.1, lz_p (On_k H3) (On_p1 H3), lz_k (On_k3 H3)]
      exact k1
  · rw [g1_n v, if_neg (fun e : i = 0 => v ⟨0, by omega, e⟩), if_neg (fun e : i = 1 => v ⟨1, by omega, e⟩), lz_k (Lc_k1 H), Lc_rf0 H, cv_e]
    exact no
theorem n_div {a b : Nat} (ha : a < 2147483648) (hb : 0 < b) (hb2 : b < 2147483648) : nI a / nI b = nI (a / b) := by
  have l := Nat.div_le_self a b
  apply Int32.toInt_inj.mp
  rw [Int32.toInt_div, nI_toInt ha, nI_toInt hb2, nI_toInt (by omega), show ((a : Int).tdiv (b : Int)) = ((a / b : Nat) : Int) from (Int.ofNat_tdiv a b).symm]
  generalize a / b = q at *
  exact Int.bmod_eq_of_le (by omega) (by omega)
theorem n_rem {a b : Nat} (ha : a < 2147483648) (hb : 0 < b) (hb2 : b < 2147483648) : am_irem (nI a) (nI b) = nI (a % b) := by
  unfold am_irem
  rw [n_div ha hb hb2, show nI (a / b) * nI b = nI (a / b * b) from pk_mul _ _]
  have e := Nat.div_add_mod a b
  rw [Nat.mul_comm] at e
  have : nI (a / b * b) + nI (a % b) = nI a := by rw [nI_add, e]
  rw [← this, Int32.add_comm, Int32.sub_eq_add_neg, Int32.add_assoc, ← Int32.sub_eq_add_neg, Int32.sub_self, Int32.add_zero]
noncomputable def lch (c : Nat → Nat) (l : Int32) (n : Nat) : Int32 := @ite _ (∃ t, n ≤ t ∧ t < 6 ∧ l = nI t) (Classical.propDecidable _) (nI (c l.toNatClampNeg)) 0
theorem Rf_l82 {h : am_H} {f m : Nat} {O : o_T} {B : Nat → Prop} {c : Nat → Nat} (C : RB h f O B) (z0 : am_I h f 0 = 0) (hc : wOK c m) (l : Int32) (d : Nat) : ∀ n, n ≤ 6 → f_Rf_letter_82 (d + 1) h f l (nI (cdw c n)) (nI (m - n)) (lch c l n) (nI n + -1) = (if pd (vi m l) = true then some (.inr (some (.int (nI (c l.toNatClampNeg + 96)))), h) else some (.inr (some (.int 0)), rr f 0 1 h))
  | 0, _ => by
    have H := C.1
    have hm6 := hc.2.1
    have b1 := Rf_bad1 H z0 (c := 1) (by decide) (E := 0) (by omega) d
    rw [← n_0] at b1
    rw [e_Rf_letter_82, if_pos (by decide), Nat.sub_zero, lz_ci (vi_in (n := m) (by omega) h l d)]
    by_cases v : vi m l
    · rw [pd_t v, bo_t, if_neg (by decide), lz_k (Rf_k H), lz_ci (Rf_bad0 H z0 1 0 d), if_pos rfl, if_pos rfl]
      obtain ⟨t, ht, rfl⟩ := v
      unfold lch
      rw [if_pos ⟨t, Nat.zero_le _, by omega, rfl⟩, show (96 : Int32) = nI 96 from rfl, nI_add, Nat.add_comm]
    · rw [pd_f v, bo_f, if_pos rfl, lz_k (Rf_k H), lz_ci b1, if_neg (by decide), if_neg (by decide)]
  | n + 1, hn => by
    have hm6 := hc.2.1
    have c26 := wOK_26 hc
    have cn := c26 n
    have b1 := cdw_6 c26 (show n + 1 ≤ 6 by omega)
    have ih := Rf_l82 C z0 hc l d n (by omega)
    have e1 : am_irem (nI (cdw c (n + 1))) 27 = nI (c n) := by
      rw [show (27 : Int32) = nI 27 from rfl, n_rem (by omega) (by omega) (by omega), show cdw c (n + 1) % 27 = c n by rw [cdw]; omega]
    have e2 : nI (cdw c (n + 1)) / 27 = nI (cdw c n) := by
      rw [show (27 : Int32) = nI 27 from rfl, n_div (by omega) (by omega) (by omega), show cdw c (n + 1) / 27 = cdw c n by rw [cdw]; omega]
    have le0 : (nI (c n) ≤ 0) = (c n ≤ 0) := n_le0 _ (by omega)
    have ch : (if nI n = l then nI (c n) else lch c l (n + 1)) = lch c l n := by
      unfold lch
      by_cases e : nI n = l
      · subst e
        rw [if_pos rfl, if_pos ⟨n, by omega, by omega, rfl⟩, nI_clamp (by omega)]
      · rw [if_neg e]
        by_cases q : ∃ t, n + 1 ≤ t ∧ t < 6 ∧ l = nI t
        · rw [if_pos q, if_pos (q.elim (fun t p => ⟨t, by omega, p.2⟩))]
        · rw [if_neg q, if_neg]
          rintro ⟨t, p1, p2, p3⟩
          by_cases tn : t = n
          · subst tn
            exact e p3.symm
          · exact q ⟨t, by omega, p2, p3⟩
    rw [nI_m1, e_Rf_letter_82, if_neg (nI_pos (by omega)), if_neg (by decide), if_neg (by decide), e1, e2]
    rcases Nat.lt_or_ge n m with q | q
    · have nz : ¬ nI (c n) ≤ 0 := by
        rw [le0]
        have := (hc.2.2.1 n q).1
        omega
      rw [if_neg nz, show nI (m - (n + 1)) + 1 = nI (m - n) by rw [nI_1, show m - (n + 1) + 1 = m - n by omega]]
      by_cases e : nI n = l
      · rw [if_pos e]
        rw [if_pos e] at ch
        rw [ch]
        exact ih
      · rw [if_neg e]
        rw [if_neg e] at ch
        rw [ch]
        exact ih
    · have zz : nI (c n) ≤ 0 := by
        rw [le0, hc.2.2.2 n q]
        exact Nat.le_refl _
      rw [if_pos zz, Int32.add_zero, show m - (n + 1) = m - n by omega]
      by_cases e : nI n = l
      · rw [if_pos e]
        rw [if_pos e] at ch
        rw [ch]
        exact ih
      · rw [if_neg e]
        rw [if_neg e] at ch
        rw [ch]
        exact ih
theorem Rf_q_letter {h : am_H} {f : Nat} {O : o_T} {B : Nat → Prop} {WN WR : Nat → Nat → Nat} (C : RB h f O B) (W : RwW h (f + 3) O WN WR) (i j l : Int32) (d : Nat) : RR (f_Rf_letter (d + 2) h f i j l) h f O B (fun _ => 1) (.int 0) (q_le O WN WR i j l) := by
  have H := C.1
  have hN := C.2.1.2.1.1
  have hR := C.2.1.2.1.2.1
  obtain ⟨g, e0, Cg, Wg, z0⟩ := RB_b C
  have Hg := Cg.1
  have Rg := Cg.2.1
  have b1 := Rf_bad1 Hg z0 (c := 1) (by decide) (E := 0) (by omega) (d + 1)
  rw [← n_0] at b1
  have ii := vi_inc (n := 1) (by omega) g i (d + 1)
  rw [← n_1] at ii
  have g3 : am_I g (f + 3) = am_I h (f + 3) := (Wg.2.2.2.2.1 (f + 3) (by omega) (by omega)).1
  have no44 : f_Rf_letter_44 (d + 2) g f i j l f 1 = some (.inr (some (.int 0)), rr f 0 1 g) := by
    rw [e_Rf_letter_44, lz_k (Rf_k Hg), lz_ci b1, if_neg (by decide)]
  have no : RR (some (.inr (some (.int 0)), rr f 0 1 g)) h f O B (fun _ => 1) (.int 0) (.inl 0) := ⟨g, Wg, Cg, z0, rfl⟩
  have fin : ∀ (c : Nat → Nat) (m : Nat), wOK c m → RR (f_Rf_letter_82 (d + 2) g f l (nI (cdw c 6)) 0 0 5) h f O B (fun _ => 1) (.int 0) (g1 (wlf c) l 0 fun t => .inr (.int (nI (c t + 96)))) := by
    intro c m hc
    have hm6 := hc.2.1
    have l6 := Rf_l82 Cg z0 hc l (d + 1) 6 (Nat.le_refl _)
    rw [show m - 6 = 0 by omega, show lch c l 6 = 0 from if_neg (fun ⟨t, a, b, _⟩ => by omega), show nI 6 + -1 = (5 : Int32) by decide, show nI 0 = (0 : Int32) from rfl] at l6
    rw [l6, wOK_l hc]
    by_cases v : vi m l
    · rw [pd_t v, if_pos rfl]
      obtain ⟨t, ht, rfl⟩ := v
      rw [g1_y (by omega) ht, nI_clamp (by omega)]
      exact ⟨g, Wg, Cg, z0, rfl⟩
    · rw [pd_f v, if_neg (by decide), g1_n v]
      exact no
  unfold q_le
  rw [e_Rf_letter, lz_k (Rf_k H), e0, lz_ci ii]
  by_cases v : vi 2 i
  · rw [show pd (vi (1 + 1) i) = true from pd_t v, bo_t, if_neg (by decide)]
    obtain ⟨w, hw, rfl⟩ := v
    rw [g1_y (by omega) hw]
    have im : f_Rf_more (d + 1) g 0 (nI w) = some (.inr (some (.int (nI w))), g) := by
      rw [e_Rf_more, if_pos (by rw [n_0, n_le _ _ (by omega) (by omega)]; omega)]
    have il : f_Rf_less (d + 1) g 1 (nI w) = some (.inr (some (.int (nI w))), g) := by
      rw [e_Rf_less, if_pos (by rw [n_1, n_le _ _ (by omega) (by omega)]; omega)]
    rw [lz_p (Rf_k Hg) (Rf_p9 Hg), lz_ci im, lz_ci il, Rw_ar Rg (k := w) (by omega)]
    have nn : am_I g (f + 3) w = nI (q_wn O w) := by
      rcases iv2 hw with rfl | rfl
      · exact Rw_N Rg
      · exact Rw_R Rg
    have nl : q_wn O w ≤ 24 := by
      unfold q_wn
      split <;> omega
    rw [nn, lz_ci (vi_in (n := q_wn O w) (by omega) g j (d + 1))]
    by_cases v2 : vi (q_wn O w) j
    · rw [pd_t v2, bo_t, if_neg (by decide)]
      obtain ⟨k, hk, rfl⟩ := v2
      rw [g1_y (by omega) hk, e_Rf_letter_44, lz_k (Rf_k Hg), lz_ci (Rf_bad0 Hg z0 1 0 (d + 1)), if_pos rfl, lz_p (Rf_k Hg) (Rf_p9 Hg)]
      rcases iv2 hw with rfl | rfl
      · obtain ⟨m, hm, em⟩ := W.1 k hk
        have hk2 : k < o_N O := hk
        rw [if_pos (by decide), n_4, nI_add, Rw_ar Rg (by omega), g3, em]
        exact fin _ m hm
      · obtain ⟨m, hm, em⟩ := W.2 k hk
        have hk2 : k < o_R O := hk
        rw [if_neg (by decide), show (28 : Int32) = nI 28 from rfl, nI_add, Rw_ar Rg (by omega), g3, em]
        exact fin _ m hm
    · rw [pd_f v2, bo_f, if_pos rfl, g1_n v2]
      rw [e_Rf_letter_44, lz_k (Rf_k Hg), lz_ci b1, if_neg (by decide)]
      exact no
  · rw [show pd (vi (1 + 1) i) = false from pd_f v, bo_f, if_pos rfl, g1_n v, no44]
    exact no
