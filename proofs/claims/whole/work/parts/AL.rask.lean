/-! ===== the reference: ask, of ===== -/
/-- all that stands of the reference between calls -/
def RT (h : am_H) (f : Nat) (O : o_T) (B : Nat → Prop) (x : XT) (WN WR : Nat → Nat → Nat) : Prop := RB h f O B ∧ RX h f x ∧ RwW h (f + 3) O WN WR
/-- nothing else changes -/
def gR (f : Nat) (h h' : am_H) : Prop := am_S h' = am_S h ∧ am_G h' = am_G h ∧ am_T h' = am_T h ∧ am_P h' = am_P h ∧ ∀ b, b < f ∨ f + 1535 ≤ b → am_I h' b = am_I h b ∧ am_L h' b = am_L h b
theorem gR_r (f : Nat) (h : am_H) : gR f h h := ⟨rfl, rfl, rfl, rfl, fun _ _ => ⟨rfl, rfl⟩⟩
theorem gR_t {f : Nat} {a b c : am_H} (h1 : gR f a b) (h2 : gR f b c) : gR f a c := ⟨h2.1.trans h1.1, h2.2.1.trans h1.2.1, h2.2.2.1.trans h1.2.2.1, h2.2.2.2.1.trans h1.2.2.2.1, fun b p => ⟨(h2.2.2.2.2 b p).1.trans (h1.2.2.2.2 b p).1, (h2.2.2.2.2 b p).2.trans (h1.2.2.2.2 b p).2⟩⟩
theorem gR_i {f : Nat} (h : am_H) {b : Nat} (h1 : f ≤ b) (h2 : b < f + 1535) (j : Nat) (v : Int32) : gR f h (am_sI h b j v) := ⟨rfl, rfl, rfl, rfl, fun c p => ⟨by
  funext i
  rw [pc_I_I, if_neg (by omega)], rfl⟩⟩
theorem gR_W {f : Nat} {h h' : am_H} (q : fW f h h') : gR f h h' := ⟨q.2.1, q.2.2.1, q.2.2.2.1, q.1, fun b p => q.2.2.2.2.1 b (by omega) (by omega)⟩
theorem gR_q {f : Nat} {h h' : am_H} (q : fRq f h h') : gR f h h' := ⟨q.1, q.2.1, q.2.2.1, q.2.2.2.1, fun b p => ⟨q.2.2.2.2.2.1 b (by omega) (by omega), by rw [q.2.2.2.2.1]⟩⟩
theorem gR_rr {f : Nat} (E : Nat) (c : Int32) (h : am_H) : gR f h (rr f E c h) := gR_t (gR_i h (Nat.le_refl f) (by omega) 0 c) (gR_i (am_sI h f 0 c) (b := f + 1) (by omega) (by omega) E _)
theorem RT_q {g s : am_H} {f : Nat} {O : o_T} {B : Nat → Prop} {x : XT} {WN WR : Nat → Nat → Nat} {p : Int32} (C : RB g f O B) (X : RX g f x) (W : RwW g (f + 3) O WN WR) (q : fRq f (am_sI g f 2 0) s) (e5 : am_I s f 5 = p) : RT s f O B (xe p x) WN WR ∧ gR f g s ∧ am_I s f 0 = am_I g f 0 := by
  have eb : ∀ b, b ≠ f → am_I (am_sI g f 2 0) b = am_I g b := fun b p => by
    funext i
    rw [pc_I_I, if_neg (fun e => p e.1)]
  have ej : ∀ j, j ≠ 2 → am_I (am_sI g f 2 0) f j = am_I g f j := fun j p => by rw [pc_I_I, if_neg (fun e => p e.2)]
  have C1 : RB (am_sI g f 2 0) f O B := RB_gen C rfl rfl rfl (fun b p => eb b (by omega)) (fun j p => ej j (by omega))
  have sb : ∀ b, b ≠ f → b ≠ f + 4 → am_I s b = am_I g b := fun b p r => (q.2.2.2.2.2.1 b p r).trans (eb b p)
  have sj : ∀ j, j = 0 ∨ j = 13 → am_I s f j = am_I g f j := fun j p => (q.2.2.2.2.2.2 j (by omega) (by omega) (by omega) (by omega) (by omega) (by omega) (by omega) (by omega) (by omega)).trans (ej j (by omega))
  have s2 : am_I s f 2 = 0 := (q.2.2.2.2.2.2 2 (by omega) (by omega) (by omega) (by omega) (by omega) (by omega) (by omega) (by omega) (by omega)).trans (by rw [pc_I_I, if_pos ⟨rfl, rfl⟩])
  obtain ⟨x1, x2, x3, x4, x5, x6, x7, x8⟩ := X
  refine ⟨⟨fRq_RB q C1, ⟨Nat.zero_le _, s2, fun k hk => absurd hk (Nat.not_lt_zero k), e5, x5, (sj 13 (by omega)).trans x6, fun k hk => ?_, fun k hk => ?_⟩, RwW_of (sb _ (by omega) (by omega)) W⟩, gR_t (gR_i g (Nat.le_refl f) (by omega) 2 0) (gR_q q), sj 0 (by omega)⟩
  · rw [sb (f + 5) (by omega) (by omega)]; exact x7 k hk
  · rw [sb (f + 1) (by omega) (by omega)]; exact x8 k hk
theorem RT_c {s m : am_H} {f : Nat} {O : o_T} {B : Nat → Prop} {x : XT} {WN WR : Nat → Nat → Nat} (C : RT s f O B x WN WR) (q : fCl f s m) (z : am_I m f 14 = 0) : RT m f O B x WN WR ∧ gR f s m ∧ am_I m f 0 = am_I s f 0 := ⟨⟨RB_Rr C.1 (fCl_Rr q (Or.inl z)), RX_W (fCl_W q) C.2.1, RwW_of (q.2.2.2.2.1 _ (by omega) (by omega) (by omega)) C.2.2⟩, gR_W (fCl_W q), q.2.2.2.2.2.1 0 (by omega) (by omega)⟩
theorem Rf_ask' {h : am_H} {f : Nat} {O : o_T} {B : Nat → Prop} {x : XT} {WN WR : Nat → Nat → Nat} (C : RT h f O B x WN WR) (i : Int32) (d : Nat) : (¬ vi (x.2.1 + 1) i ∧ f_Rf_ask (d + 813) h f i = some (.inr (some (.int 0)), rr f 1 1 (am_sI h f 0 0))) ∨ (∃ n, n ≤ x.2.1 ∧ i = nI n ∧ ∃ h', f_Rf_ask (d + 813) h f i = some (.inr (some (q_ask B (spA true x.1 n (O, WN, WR)))), h') ∧ gR f h h' ∧ RT h' f O B (xe (q_pl (spA true x.1 n (O, WN, WR))) x) WN WR ∧ am_I h' f 0 = 0) := by
  obtain ⟨cB, cX, cW⟩ := C
  have H := cB.1
  obtain ⟨g, e0, Cg, Wg, z0⟩ := RB_b cB
  have Hg := Cg.1
  have Xg := RX_W Wg cX
  have Wg3 : RwW g (f + 3) O WN WR := RwW_of (Wg.2.2.2.2.1 (f + 3) (by omega) (by omega)).1 cW
  have n4 := Xg.1
  have x2 := Xg.2.1
  have b1 := Rf_bad1 Hg z0 (c := 1) (by decide) (E := 1) (by omega) (d + 812)
  rw [← n_1] at b1
  have ii := vi_in (n := x.2.1 + 1) (by omega) g i (d + 812)
  rw [nI_pred] at ii
  rw [e_Rf_ask, lz_k (Rf_k H), e0, lz_i (Rf_k Hg) x2, lz_ci ii]
  by_cases v : vi (x.2.1 + 1) i
  · refine Or.inr ?_
    rw [pd_t v, bo_t, if_neg (by decide)]
    obtain ⟨n, hn, rfl⟩ := v
    refine ⟨n, by omega, rfl, ?_⟩
    have okq := spA_k (two := true) (T := x.1) (n := n) (by omega) (RwR_D Cg.2.1 Wg3).2
    have X := Rf_reads Cg Xg Wg3 (n := n) (by omega) true d
    rw [bo_t] at X
    rw [e_Rf_ask_23, lz_k (Rf_k Hg), lz_ci (Rf_bad0 Hg z0 1 1 (d + 812)), if_pos rfl, lz_k (Rf_k Hg)]
    cases e : spA true x.1 n (O, WN, WR) with
    | inl r =>
      rw [e] at X okq
      obtain ⟨s, es, qs, s6, s5⟩ := X
      obtain ⟨Ts, gs, s0⟩ := RT_q Cg Xg Wg3 qs s5
      refine ⟨s, ?_, gR_t (gR_W Wg) gs, Ts, s0.trans z0⟩
      rw [lz_ci es, if_pos rfl, lz_i (Rf_k Ts.1.1) s6]
      rfl
    | inr y =>
      obtain ⟨D, c, e'⟩ := y
      rw [e] at X okq
      obtain ⟨s, es, qs, s5, sR, s42, s43⟩ := X
      obtain ⟨wD, D60, hc, he, -⟩ := okq
      replace hc : c < o_P D.1 := hc
      replace he : e' < o_P D.1 := he
      replace D60 : o_P D.1 ≤ 60 := D60
      replace wD : wfD D no_x := wD
      replace sR : RwD s (f + 4) D := sR
      replace s42 : am_I s f 42 = nI c := s42
      replace s43 : am_I s f 43 = nI e' := s43 rfl
      obtain ⟨Ts, gs, s0⟩ := RT_q Cg Xg Wg3 qs s5
      have Hs := Ts.1.1
      obtain ⟨m, k, em, qm, m14, mU, mS⟩ := Rf_goesAll Hs (RwD_R sR wD D60).1 (Or.inr rfl) B (d + 809)
      obtain ⟨Tm, gm, m0⟩ := RT_c Ts qm m14
      have Hm := Tm.1.1
      obtain ⟨b, eb, hb⟩ := Rf_isBelow Hm (show c < 480 by omega) (show e' < 64 by omega) (mS c hc).1 (d + 811)
      refine ⟨m, ?_, gR_t (gR_W Wg) (gR_t gs gm), Tm, m0.trans (s0.trans z0)⟩
      rw [lz_ci es, if_neg (by decide), lz_p (Rf_k Hs) (Rf_p10 Hs), lz_l (Rf_k Hs) Ts.1.2.2.1, lz_k (Rf_k Hs), lz_ci em, lz_i (Rf_k Hm) ((qm.2.2.2.2.2.1 42 (by omega) (by omega)).trans s42), lz_i (Rf_k Hm) ((qm.2.2.2.2.2.1 43 (by omega) (by omega)).trans s43), lz_k (Rf_k Hm), lz_ci eb]
      show _ = some (Sum.inr (some (Value.int (bo (pd (l_be D.1 B c e'))))), m)
      rw [← pd_e (show b = true ↔ l_be D.1 B c e' from hb)]
      cases b with
      | true => rw [bo_t, if_neg (by decide)]
      | false => rw [bo_f, if_pos rfl]
  · refine Or.inl ⟨v, ?_⟩
    rw [pd_f v, bo_f, if_pos rfl, e_Rf_ask_23, lz_k (Rf_k Hg), lz_ci b1, if_neg (by decide)]
/-- over which names, under which -/
theorem Rf_of0 {h : am_H} {f c : Nat} {O D : o_T} {B : Nat → Prop} (H : RfAt h f) (R : RwR h (f + 3) O) (hc : c < 60) (hP : ∀ a, a < o_N O → o_np O a < o_P D) (S : ∀ x, x < o_P D → am_L h (f + 6) x = wL (l_A D B x)) (e42 : am_I h f 42 = nI c) (d : Nat) : f_Rf_of_100 (d + 3) h f 0 0 0 = some (.inr (some (.int (wI (fun a => a < o_N O ∧ l_be D B (o_np O a) c)))), h) := by
  have ok := R.2.1
  have hN := ok.1
  have hP60 := ok.2.2.2.1
  have key : ∀ n, n ≤ o_N O → f_Rf_of_100 (d + 3) h f 0 (wI (fun a => a < n ∧ l_be D B (o_np O a) c)) (nI n) = some (.inr (some (.int (wI (fun a => a < o_N O ∧ l_be D B (o_np O a) c)))), h) := by
    refine dn ?_ ?_
    · rw [e_Rf_of_100, lz_p (Rf_k H) (Rf_p9 H), Rw_ar0 R, Rw_N R, if_pos (by rw [n_le _ _ (by omega) (by omega)]; omega)]
    · intro n hn ih
      have pn := (o_np_s ok hn).1
      obtain ⟨b, eb, hb⟩ := Rf_isBelow H (show o_np O n < 480 by omega) (show c < 64 by omega) (S _ (hP n hn)) (d + 1)
      rw [e_Rf_of_100, lz_p (Rf_k H) (Rf_p9 H), Rw_ar0 R, Rw_N R, if_neg (by rw [n_le _ _ (by omega) (by omega)]; omega), if_pos rfl, lz_k (Rf_k H), lz_ci (Rf_namePart H R hn (d + 1)), lz_i (Rf_k H) e42, lz_k (Rf_k H), lz_ci eb, nI_1]
      cases b with
      | true =>
        rw [bo_t, if_neg (by decide), wc_y (Q := fun a => l_be D B (o_np O a) c) (by omega) (hb.mp rfl)]
        exact ih
      | false =>
        rw [bo_f, if_pos rfl, Int32.or_zero, wc_n (Q := fun a => l_be D B (o_np O a) c) (fun e => absurd (hb.mpr e) (by decide))]
        exact ih
  rw [← key 0 (Nat.zero_le _), wc_0]
  rfl
theorem Rf_of1 {h : am_H} {f c : Nat} {O D : o_T} {B : Nat → Prop} (H : RfAt h f) (R : RwR h (f + 3) O) (hc : c < 60) (hcD : c < o_P D) (S : ∀ x, x < o_P D → am_L h (f + 6) x = wL (l_A D B x)) (e42 : am_I h f 42 = nI c) (d : Nat) : f_Rf_of_100 (d + 3) h f 1 0 0 = some (.inr (some (.int (wI (fun a => a < o_N O ∧ l_be D B c (o_np O a))))), h) := by
  have ok := R.2.1
  have hN := ok.1
  have hP60 := ok.2.2.2.1
  have key : ∀ n, n ≤ o_N O → f_Rf_of_100 (d + 3) h f 1 (wI (fun a => a < n ∧ l_be D B c (o_np O a))) (nI n) = some (.inr (some (.int (wI (fun a => a < o_N O ∧ l_be D B c (o_np O a))))), h) := by
    refine dn ?_ ?_
    · rw [e_Rf_of_100, lz_p (Rf_k H) (Rf_p9 H), Rw_ar0 R, Rw_N R, if_pos (by rw [n_le _ _ (by omega) (by omega)]; omega)]
    · intro n hn ih
      have pn := (o_np_s ok hn).1
      obtain ⟨b, eb, hb⟩ := Rf_isBelow H (show c < 480 by omega) (show o_np O n < 64 by omega) (S c hcD) (d + 1)
      rw [e_Rf_of_100, lz_p (Rf_k H) (Rf_p9 H), Rw_ar0 R, Rw_N R, if_neg (by rw [n_le _ _ (by omega) (by omega)]; omega), if_neg (by decide), lz_i (Rf_k H) e42, lz_k (Rf_k H), lz_ci (Rf_namePart H R hn (d + 1)), lz_k (Rf_k H), lz_ci eb, nI_1]
      cases b with
      | true =>
        rw [bo_t, if_neg (by decide), wc_y (Q := fun a => l_be D B c (o_np O a)) (by omega) (hb.mp rfl)]
        exact ih
      | false =>
        rw [bo_f, if_pos rfl, Int32.or_zero, wc_n (Q := fun a => l_be D B c (o_np O a)) (fun e => absurd (hb.mpr e) (by decide))]
        exact ih
  rw [← key 0 (Nat.zero_le _), wc_0]
  rfl
theorem Rf_of' {h : am_H} {f : Nat} {O : o_T} {B : Nat → Prop} {x : XT} {WN WR : Nat → Nat → Nat} (C : RT h f O B x WN WR) (i j : Int32) (d : Nat) : (¬ (vi 3 i ∧ vi (x.2.1 + 1) j) ∧ f_Rf_of (d + 813) h f i j = some (.inr (some (.int 0)), rr f 1 1 (am_sI h f 0 0))) ∨ (∃ w n, w < 3 ∧ i = nI w ∧ n ≤ x.2.1 ∧ j = nI n ∧ ∃ h', f_Rf_of (d + 813) h f i j = some (.inr (some (q_of B w (spA false x.1 n (O, WN, WR)))), h') ∧ gR f h h' ∧ RT h' f O B (xe (q_pl (spA false x.1 n (O, WN, WR))) x) WN WR ∧ am_I h' f 0 = 0) := by
  obtain ⟨cB, cX, cW⟩ := C
  have H := cB.1
  obtain ⟨g, e0, Cg, Wg, z0⟩ := RB_b cB
  have Hg := Cg.1
  have Xg := RX_W Wg cX
  have Wg3 : RwW g (f + 3) O WN WR := RwW_of (Wg.2.2.2.2.1 (f + 3) (by omega) (by omega)).1 cW
  have n4 := Xg.1
  have x2 := Xg.2.1
  have b1 := Rf_bad1 Hg z0 (c := 1) (by decide) (E := 1) (by omega) (d + 812)
  rw [← n_1] at b1
  have i1 := vi_inc (n := 2) (by omega) g i (d + 812)
  rw [← n_2] at i1
  have ii := vi_in (n := x.2.1 + 1) (by omega) g j (d + 812)
  rw [nI_pred] at ii
  rw [e_Rf_of, lz_k (Rf_k H), e0, lz_ci i1]
  by_cases v1 : vi (2 + 1) i
  · rw [pd_t v1, bo_t, if_neg (by decide), lz_i (Rf_k Hg) x2, lz_ci ii]
    by_cases v : vi (x.2.1 + 1) j
    · refine Or.inr ?_
      rw [pd_t v, bo_t, if_neg (by decide)]
      obtain ⟨n, hn, ej⟩ := v
      obtain ⟨w, hw, ew⟩ := v1
      refine ⟨w, n, hw, ew, by omega, ej, ?_⟩
      have w0 := (RwR_D Cg.2.1 Wg3).2
      have okq := spA_k (two := false) (T := x.1) (n := n) (by omega) w0
      have X := Rf_reads Cg Xg Wg3 (n := n) (by omega) false d
      rw [bo_f, ← ej] at X
      rw [e_Rf_of_32, lz_k (Rf_k Hg), lz_ci (Rf_bad0 Hg z0 1 1 (d + 812)), if_pos rfl, lz_k (Rf_k Hg)]
      cases e : spA false x.1 n (O, WN, WR) with
      | inl r =>
        rw [e] at X okq
        obtain ⟨s, es, qs, s6, s5⟩ := X
        obtain ⟨Ts, gs, s0⟩ := RT_q Cg Xg Wg3 qs s5
        refine ⟨s, ?_, gR_t (gR_W Wg) gs, Ts, s0.trans z0⟩
        rw [lz_ci es, if_pos rfl, lz_i (Rf_k Ts.1.1) s6]
        rfl
      | inr y =>
        obtain ⟨D, c, e'⟩ := y
        rw [e] at X okq
        obtain ⟨s, es, qs, s5, sR, s42, -⟩ := X
        obtain ⟨wD, D60, hc, he, xx⟩ := okq
        replace hc : c < o_P D.1 := hc
        replace D60 : o_P D.1 ≤ 60 := D60
        replace wD : wfD D no_x := wD
        replace sR : RwD s (f + 4) D := sR
        replace s42 : am_I s f 42 = nI c := s42
        replace xx : xD (O, WN, WR) D := xx
        have xo := xD_O xx
        have ok := Cg.2.1.2.1
        have okD := wfD_ok wD D60
        obtain ⟨Ts, gs, s0⟩ := RT_q Cg Xg Wg3 qs s5
        have Hs := Ts.1.1
        obtain ⟨m, k, em, qm, m14, mU, mS⟩ := Rf_goesAll Hs (RwD_R sR wD D60).1 (Or.inr rfl) B (d + 809)
        obtain ⟨Tm, gm, m0⟩ := RT_c Ts qm m14
        have Hm := Tm.1.1
        have Rm := Tm.1.2.1
        have m42 := (qm.2.2.2.2.2.1 42 (by omega) (by omega)).trans s42
        refine ⟨m, ?_, gR_t (gR_W Wg) (gR_t gs gm), Tm, m0.trans (s0.trans z0)⟩
        rw [lz_ci es, if_neg (by decide), lz_p (Rf_k Hs) (Rf_p10 Hs), lz_l (Rf_k Hs) Ts.1.2.2.1, lz_k (Rf_k Hs), lz_ci em, ew]
        show _ = some (Sum.inr (some (if w = 2 then Value.int (bo (pd (l_A D.1 B c 1))) else if w = 1 then Value.int (wI (fun a => a < o_N D.1 ∧ l_be D.1 B c (o_np D.1 a))) else Value.int (wI (fun a => a < o_N D.1 ∧ l_be D.1 B (o_np D.1 a) c)))), m)
        have np : ∀ a, a < o_N O → o_np D.1 a = o_np O a := fun a ha => xO_np xo ok okD ha
        have eN : o_N D.1 = o_N O := xo.2.2.2.2.2.1
        rcases iw3 hw with rfl | rfl | rfl
        · rw [if_neg (by decide), if_neg (by decide), if_neg (by decide), show f_Rf_of_100 (d + 812 + 1) m f (nI 0) 0 0 = _ from Rf_of0 (D := D.1) Hm Rm (by omega) (fun a ha => Nat.lt_of_lt_of_le (o_np_s ok ha).1 xo.2.2.2.1) (fun x hx => (mS x hx).1) m42 (d + 810)]
          refine ri_e (wI_cong (fun a _ => ?_))
          rw [eN]
          exact ⟨fun q => ⟨q.1, by rw [np a q.1]; exact q.2⟩, fun q => ⟨q.1, by rw [← np a q.1]; exact q.2⟩⟩
        · rw [if_neg (by decide), if_neg (by decide), if_pos rfl, show f_Rf_of_100 (d + 812 + 1) m f (nI 1) 0 0 = _ from Rf_of1 (D := D.1) Hm Rm (by omega) hc (fun x hx => (mS x hx).1) m42 (d + 810)]
          refine ri_e (wI_cong (fun a _ => ?_))
          rw [eN]
          exact ⟨fun q => ⟨q.1, by rw [np a q.1]; exact q.2⟩, fun q => ⟨q.1, by rw [← np a q.1]; exact q.2⟩⟩
        · obtain ⟨b, eb, hb⟩ := Rf_isVoid Hm (show c < 480 by omega) (mS c hc).1 (d + 811)
          rw [if_pos (by decide), if_pos rfl, lz_i (Rf_k Hm) m42, lz_k (Rf_k Hm), lz_ci eb, ← pd_e hb]
          cases b with
          | true => rw [bo_t, if_neg (by decide)]
          | false => rw [bo_f, if_pos rfl]
    · refine Or.inl ⟨fun q => v q.2, ?_⟩
      rw [pd_f v, bo_f, if_pos rfl, e_Rf_of_32, lz_k (Rf_k Hg), lz_ci b1, if_neg (by decide)]
  · refine Or.inl ⟨fun q => v1 q.1, ?_⟩
    rw [pd_f v1, bo_f, if_pos rfl, e_Rf_of_32, lz_k (Rf_k Hg), lz_ci b1, if_neg (by decide)]
