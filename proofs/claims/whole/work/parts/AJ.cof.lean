/-! ===== the class: of, model ===== -/
theorem Lc_nmO {h : am_H} {o c : Nat} {O : o_T} {B : Nat → Prop} (H : LcAt h) (p3 : am_P h 1 3 = some o) (Ho : OnR h o O) (hn : OnN h o O) (hA : ∀ x, x < o_P O → am_L h (61 + 5) x = wL (l_A O B x)) (hc : c < o_P O) (d : Nat) : f_Lc_namesOver (d + 2) h 1 61 (nI c) = some (.inr (some (.int (wI (fun a => a < o_N O ∧ l_be O B c (o_np O a))))), h) := by
  have Ht := Lc_t H
  have H3 := OnR_at Ho
  have ok := Ho.2.1
  have hN := ok.1
  have hP := ok.2.2.2.1
  have key : ∀ n, n ≤ o_N O → f_Lc_namesOver_5 (d + 2) h 1 61 (nI c) (wI (fun a => a < n ∧ l_be O B c (o_np O a))) (nI n) = some (.inr (some (.int (wI (fun a => a < o_N O ∧ l_be O B c (o_np O a))))), h) := by
    refine dn ?_ ?_
    · rw [e_Lc_namesOver_5, lz_p (Lc_k1 H) p3, lz_p (On_k H3) (On_p0 H3), lz_i (On_k1 H3) (OnR_N Ho), if_pos (by rw [n_le _ _ (by omega) (by omega)]; omega)]
    · intro n hn' ih
      have pn := (o_np_s ok hn').1
      obtain ⟨b, eb, hb⟩ := Sa_isBelow Ht (show c < 60 by omega) (show o_np O n < 60 by omega) (hA c hc) d
      rw [e_Lc_namesOver_5, lz_p (Lc_k1 H) p3, lz_p (On_k H3) (On_p0 H3), lz_i (On_k1 H3) (OnR_N Ho), if_neg (by rw [n_le _ _ (by omega) (by omega)]; omega), lz_p (Lc_k1 H) p3, lz_p (On_k H3) (On_p2 H3), On_r5 H3 (by omega), hn n hn', lz_k (Sa_k Ht), lz_ci eb, nI_1]
      cases b with
      | true =>
        rw [bo_t, if_neg (by decide), wc_y (Q := fun a => l_be O B c (o_np O a)) (by omega) (hb.mp rfl)]
        exact ih
      | false =>
        rw [bo_f, if_pos rfl, wc_n (Q := fun a => l_be O B c (o_np O a)) (fun e => absurd (hb.mpr e) (by decide))]
        exact ih
  rw [e_Lc_namesOver, ← key 0 (Nat.zero_le _), wc_0]
  rfl
theorem Lc_nmU {h : am_H} {o c : Nat} {O : o_T} {B : Nat → Prop} (H : LcAt h) (p3 : am_P h 1 3 = some o) (Ho : OnR h o O) (hn : OnN h o O) (hA : ∀ x, x < o_P O → am_L h (61 + 5) x = wL (l_A O B x)) (hc : c < o_P O) (d : Nat) : f_Lc_namesUnder (d + 2) h 1 61 (nI c) = some (.inr (some (.int (wI (fun a => a < o_N O ∧ l_be O B (o_np O a) c)))), h) := by
  have Ht := Lc_t H
  have H3 := OnR_at Ho
  have ok := Ho.2.1
  have hN := ok.1
  have hP := ok.2.2.2.1
  have key : ∀ n, n ≤ o_N O → f_Lc_namesUnder_5 (d + 2) h 1 61 (nI c) (wI (fun a => a < n ∧ l_be O B (o_np O a) c)) (nI n) = some (.inr (some (.int (wI (fun a => a < o_N O ∧ l_be O B (o_np O a) c)))), h) := by
    refine dn ?_ ?_
    · rw [e_Lc_namesUnder_5, lz_p (Lc_k1 H) p3, lz_p (On_k H3) (On_p0 H3), lz_i (On_k1 H3) (OnR_N Ho), if_pos (by rw [n_le _ _ (by omega) (by omega)]; omega)]
    · intro n hn' ih
      have pn := (o_np_s ok hn').1
      obtain ⟨b, eb, hb⟩ := Sa_isBelow Ht (show o_np O n < 60 by omega) (show c < 60 by omega) (hA _ pn) d
      rw [e_Lc_namesUnder_5, lz_p (Lc_k1 H) p3, lz_p (On_k H3) (On_p0 H3), lz_i (On_k1 H3) (OnR_N Ho), if_neg (by rw [n_le _ _ (by omega) (by omega)]; omega), lz_p (Lc_k1 H) p3, lz_p (On_k H3) (On_p2 H3), On_r5 H3 (by omega), hn n hn', lz_k (Sa_k Ht), lz_ci eb, nI_1]
      cases b with
      | true =>
        rw [bo_t, if_neg (by decide), wc_y (Q := fun a => l_be O B (o_np O a) c) (by omega) (hb.mp rfl)]
        exact ih
      | false =>
        rw [bo_f, if_pos rfl, wc_n (Q := fun a => l_be O B (o_np O a) c) (fun e => absurd (hb.mpr e) (by decide))]
        exact ih
  rw [e_Lc_namesUnder, ← key 0 (Nat.zero_le _), wc_0]
  rfl
theorem Sa_r6_1 {h : am_H} {s : Nat} (H : SaAt h s) (g : Nat → Option am_R) : am_ar h 10 (s + 6) 1 g = g 1 := Sa_r6 H (k := 1) (by omega) g
/-- an extent, those of lesser parts being known -/
theorem Lc_ex1 {h : am_H} {o p : Nat} {O : o_T} {B T : Nat → Prop} (H : LcAt h) (p3 : am_P h 1 3 = some o) (Ho : OnR h o O) (D : SaD h 61 O B T (l_A O B) (l_K O B) (fun _ => 0) (fun _ _ => 0)) (hT : ∀ x, x < o_P O → T x) (hp : p < o_P O) (hx : ∀ q, q < p → am_L h 73 q = wL (e_E O O B q)) (d : Nat) : f_Lc_extentOfOne (d + 1) h 1 (nI p) = some (.inr (some (.long (wL (e_E O O B p)))), h) := by
  have Ht := Lc_t H
  have H3 := OnR_at Ho
  have ok := Ho.2.1
  have hR := ok.2.1
  have hP := ok.2.2.2.1
  have h2 := ok.2.2.1
  have okp := ok.2.2.2.2.2.2.2.1 p hp
  obtain ⟨-, D2, D3⟩ := D
  have lv : wL (fun x => x < o_P O) &&& (am_L h (61 + 6) 1 ^^^ (-1)) = wL (fun x => x < o_P O ∧ ¬ l_A O B x 1) := by
    rw [D3 1 (by omega), wL_an]
    exact wL_cong (fun k _ => ⟨fun q => ⟨q.1, fun e => q.2 ⟨hT k q.1, e⟩⟩, fun q => ⟨q.1, fun e => q.2 e.2⟩⟩)
  rw [e_Lc_extentOfOne, lz_p (Lc_k1 H) p3, lz_k (On_k H3), lz_cl (On_allParts Ho d), lz_p (Lc_k1 H) (Lc_p1_13 H), lz_p (Sa_k Ht) (Sa_p12 Ht), Sa_r6_1 Ht, lz_p (Lc_k1 H) p3, lz_p (On_k H3) (On_p5 H3), On_r7 H3 (by omega), lz_p (Lc_k1 H) p3, lz_p (On_k H3) (On_p6 H3), On_r8 H3 (by omega), lz_p (Lc_k1 H) p3, lz_p (On_k H3) (On_p4 H3), On_r6 H3 (by omega), OnR_pk Ho hp, OnR_pa Ho hp, OnR_pb Ho hp, lv]
  rcases okp with k | k | k | k | k
  · rw [k.1, if_pos (by decide), lz_p (Lc_k1 H) (Lc_p1_13 H), lz_p (Sa_k Ht) (Sa_p12 Ht), Sa_r6 Ht (by omega), D3 p hp, wL_and]
    refine rl_e (wL_cong (fun x _ => ?_))
    rw [e_Ei, k.1]
    constructor
    · rintro ⟨⟨a, b⟩, c, e⟩
      exact ⟨c, e, Or.inr (Or.inl ⟨rfl, b⟩)⟩
    · rintro ⟨c, e, q | q | q | q⟩
      · omega
      · exact ⟨⟨hT x c, q.2⟩, c, e⟩
      · have := q.1; omega
      · have := q.1; omega
  · rw [k.2.1, if_neg (by decide), if_pos (by decide)]
    refine rl_e (wL_cong (fun x _ => ?_))
    rw [e_Ei, k.2.1]
    exact ⟨fun q => ⟨q.1, q.2, Or.inl rfl⟩, fun q => ⟨q.1, q.2.1⟩⟩
  · rw [k.2.1, if_neg (by decide), if_neg (by decide), if_pos (by decide)]
    refine rl_e (wL_0.mpr (fun x _ q => ?_)).symm
    have q2 := ((e_Ei p x).mp q).2.2
    rw [k.2.1] at q2
    rcases q2 with q | q | q | q
    · omega
    · have := q.1; omega
    · have := q.1; omega
    · have := q.1; omega
  · rw [k.1, if_neg (by decide), if_neg (by decide), if_neg (by decide), if_pos (by decide), lz_p (Lc_k1 H) (Lc_p1_14 H), Lc_r73 H (by omega), lz_p (Lc_k1 H) (Lc_p1_14 H), Lc_r73 H (by omega), hx _ k.2.1, hx _ k.2.2, wL_and]
    refine rl_e (wL_cong (fun x _ => ?_))
    rw [e_Ei (O' := O) p x, k.1]
    constructor
    · rintro ⟨a, b⟩
      exact ⟨(e_El a).1, (e_El a).2, Or.inr (Or.inr (Or.inl ⟨rfl, a, b⟩))⟩
    · rintro ⟨c, e, q | q | q | q⟩
      · omega
      · have := q.1; omega
      · exact ⟨q.2.1, q.2.2⟩
      · have := q.1; omega
  · rw [k.1, if_neg (by decide), if_neg (by decide), if_neg (by decide), if_neg (by decide)]
    have key : ∀ n, n ≤ o_P O → f_Lc_extentOfOne_122 (d + 1) h 1 (wL (fun x => x < o_P O ∧ ¬ l_A O B x 1)) (nI (o_pa O p)) (nI (o_pb O p)) (wL (fun x => x < n ∧ ∃ y, e_E O O B (o_pb O p) y ∧ ∃ q, o_un O B q (o_pa O p) ∧ l_K O B x q y)) (nI n) = some (.inr (some (.long (wL (e_E O O B p)))), h) := by
      refine dn ?_ ?_
      · rw [e_Lc_extentOfOne_122, lz_p (Lc_k1 H) p3, lz_i (On_k H3) (OnR_P Ho), if_pos (by rw [n_le _ _ (by omega) (by omega)]; omega), wL_and]
        refine rl_e (wL_cong (fun x _ => ?_))
        rw [e_Ei (O' := O) p x, k.1]
        constructor
        · rintro ⟨⟨_, a⟩, b, c⟩
          exact ⟨b, c, Or.inr (Or.inr (Or.inr ⟨rfl, a⟩))⟩
        · rintro ⟨c, e, q | q | q | q⟩
          · omega
          · have := q.1; omega
          · have := q.1; omega
          · exact ⟨⟨c, q.2⟩, c, e⟩
      · intro n hn ih
        have ex : wL (fun y => ∃ q, o_un O B q (o_pa O p) ∧ l_K O B n q y) &&& wL (e_E O O B (o_pb O p)) = 0 ↔ ¬ ∃ y, e_E O O B (o_pb O p) y ∧ ∃ q, o_un O B q (o_pa O p) ∧ l_K O B n q y := by
          rw [wL_a0]
          exact not_congr ⟨fun ⟨y, _, a, b⟩ => ⟨y, b, a⟩, fun ⟨y, a, b⟩ => ⟨y, by have := (e_El a).1; omega, b, a⟩⟩
        rw [e_Lc_extentOfOne_122, lz_p (Lc_k1 H) p3, lz_i (On_k H3) (OnR_P Ho), if_neg (by rw [n_le _ _ (by omega) (by omega)]; omega), lz_p (Lc_k1 H) (Lc_p1_13 H), lz_p (Sa_k Ht) (Sa_p14 Ht), n_m8, nI_add, Sa_r8 Ht (by omega), lz_p (Lc_k1 H) (Lc_p1_14 H), Lc_r73 H (by omega), hx _ k.2.2, ((D2 n hn (hT n hn)).2.2.2 _ k.2.1).2.1, nI_1]
        by_cases c : ∃ y, e_E O O B (o_pb O p) y ∧ ∃ q, o_un O B q (o_pa O p) ∧ l_K O B n q y
        · rw [if_neg (fun e => ex.mp ((lg_cmp_eq _ _).mp e) c), wd_y (Q := fun x => ∃ y, e_E O O B (o_pb O p) y ∧ ∃ q, o_un O B q (o_pa O p) ∧ l_K O B x q y) (by omega) c]
          exact ih
        · rw [if_pos ((lg_cmp_eq _ _).mpr (ex.mpr c)), wd_n (Q := fun x => ∃ y, e_E O O B (o_pb O p) y ∧ ∃ q, o_un O B q (o_pa O p) ∧ l_K O B x q y) c]
          exact ih
    rw [← key 0 (Nat.zero_le _), wd_0]
    rfl
def fE (h h' : am_H) : Prop := am_I h' = am_I h ∧ am_P h' = am_P h ∧ am_S h' = am_S h ∧ am_G h' = am_G h ∧ am_T h' = am_T h ∧ ∀ b, b ≠ 73 → am_L h' b = am_L h b
theorem fE_Sx {h h' : am_H} (q : fE h h') : fSx h h' := ⟨q.2.2.1, q.2.2.2.1, q.2.2.2.2.1, fun b p => ⟨by rw [q.1], q.2.2.2.2.2 b (by omega)⟩, fun b j _ => by rw [q.2.1]⟩
theorem SaD_E {h h' : am_H} {O : o_T} {B T : Nat → Prop} {A : Nat → Nat → Prop} {K : Nat → Nat → Nat → Prop} {nA : Nat → Int64} {nK : Nat → Nat → Int64} (q : fE h h') (D : SaD h 61 O B T A K nA nK) : SaD h' 61 O B T A K nA nK := by
  have es : ∀ j, j < 12 → am_L h' (61 + j) = am_L h (61 + j) := fun j hj => q.2.2.2.2.2 _ (by omega)
  have e0 : am_L h' 61 = am_L h 61 := es 0 (by omega)
  unfold SaD at *
  rw [e0, es 5 (by omega), es 6 (by omega), es 7 (by omega), es 8 (by omega), es 9 (by omega), es 10 (by omega), es 11 (by omega)]
  exact D
theorem Lc_ext {h : am_H} {o c : Nat} {O : o_T} {B : Nat → Prop} (H : LcAt h) (ho : o = 3 ∨ o = 20) (p3 : am_P h 1 3 = some o) (Ho : OnR h o O) (hL : am_L h o 10 = wL B) (hc : c < o_P O) (d : Nat) : ∃ h', f_Lc_extentOf (d + 4) h 1 (nI c) = some (.inr (some (.long (wL (e_E O O B c)))), h') ∧ fSx h h' := by
  have H3 := OnR_at Ho
  have hP := Ho.2.1.2.2.2.1
  obtain ⟨g, T, eg, qg, Cg, Dg, hT, -, -⟩ := Sa_saturate (s := 61) (o := o) (O := O) (Lc_t H) Ho (by omega) B (fun x => x < o_P O) (fun _ e => e) d
  have qx := fA_Sx qg
  have Hg := fSx_lc qx H
  have Hog := fSx_on ho qx Ho
  have gp3 : am_P g 1 3 = some o := (qx.2.2.2.2 1 3 (by omega)).trans p3
  have key : ∀ n, n ≤ c + 1 → ∀ u, fE g u → (∀ q, q < n → am_L u 73 q = wL (e_E O O B q)) → ∃ h', f_Lc_extentOf_27 (d + 4) u 1 (nI c) (nI n) = some (.inr (some (.long (wL (e_E O O B c)))), h') ∧ fE g h' := by
    refine dn ?_ ?_
    · intro u q hu
      have Hu : LcAt u := fSx_lc (fE_Sx q) Hg
      refine ⟨u, ?_, q⟩
      rw [e_Lc_extentOf_27, if_pos (by rw [n_lt _ _ (by omega) (by omega)]; omega), lz_p (Lc_k1 Hu) (Lc_p1_14 Hu), Lc_r73 Hu (by omega), hu c (by omega)]
    · intro n hn ih u q hu
      have Hu : LcAt u := fSx_lc (fE_Sx q) Hg
      have e1 := Lc_ex1 (p := n) Hu (by rw [q.2.1]; exact gp3) (fSx_on ho (fE_Sx q) Hog) (SaD_E q Dg) hT (by omega) (fun j hj => hu j hj) (d + 2)
      rw [e_Lc_extentOf_27, if_neg (by rw [n_lt _ _ (by omega) (by omega)]; omega), lz_p (Lc_k1 Hu) (Lc_p1_14 Hu), lz_k (Lc_k1 Hu), show f_Lc_extentOfOne (d + 3) u 1 (nI n) = _ from e1, cl_r, Lc_r73 Hu (by omega), nI_1]
      refine ih _ ⟨q.1, q.2.1, q.2.2.1, q.2.2.2.1, q.2.2.2.2.1, fun b hb => ?_⟩ (fun j hj => ?_)
      · rw [← q.2.2.2.2.2 b hb]
        funext i
        rw [pc_L_L, if_neg (fun e => hb e.1)]
      · rw [pc_L_L]
        by_cases e : j = n
        · rw [if_pos ⟨rfl, e⟩, e]
        · rw [if_neg (fun x => e x.2)]
          exact hu j (by omega)
  obtain ⟨u, eu, qu⟩ := key 0 (Nat.zero_le _) g ⟨rfl, rfl, rfl, rfl, rfl, fun _ _ => rfl⟩ (fun j hj => absurd hj (Nat.not_lt_zero j))
  refine ⟨u, ?_, fSx_t qx (fE_Sx qu)⟩
  rw [e_Lc_extentOf, lz_p (Lc_k1 H) (Lc_p1_13 H), lz_p (Lc_k1 H) p3, lz_p (Lc_k1 H) p3, lz_l (On_k H3) hL, lz_p (Lc_k1 H) p3, lz_k (On_k H3), lz_cl (On_allParts Ho (d + 3)), lz_k (Sa_k (Lc_t H)), lz_cv eg]
  exact eu
noncomputable def q_of (B : Nat → Prop) (w : Nat) (r : QRs) : Value := match r with
  | .inl e => .int (nI e.1 - 10)
  | .inr y => if w = 2 then .int (bo (pd (l_A y.1.1 B y.2.1 1))) else if w = 1 then .int (wI (fun a => a < o_N y.1.1 ∧ l_be y.1.1 B y.2.1 (o_np y.1.1 a))) else .int (wI (fun a => a < o_N y.1.1 ∧ l_be y.1.1 B (o_np y.1.1 a) y.2.1))
noncomputable def q_mo (O : o_T) (B : Nat → Prop) (r : QRs) : Value := match r with
  | .inl e => .long (Int32.toInt64 (nI e.1 - 10))
  | .inr y => .long (wL (e_E O y.1.1 B y.2.1))
theorem iw3 {w : Nat} (h : w < 2 + 1) : w = 0 ∨ w = 1 ∨ w = 2 := by omega
theorem Lc_ans {h : am_H} {o c w : Nat} {O : o_T} {B : Nat → Prop} (H : LcAt h) (ho : o = 3 ∨ o = 20) (p3 : am_P h 1 3 = some o) (Ho : OnR h o O) (hn : OnN h o O) (hL : am_L h o 10 = wL B) (hc : c < o_P O) (hw : w < 3) (d : Nat) : ∃ h', f_Lc_answerOf (d + 4) h 1 (nI w) (nI c) = some (.inr (some (if w = 2 then .int (bo (pd (l_A O B c 1))) else if w = 1 then .int (wI (fun a => a < o_N O ∧ l_be O B c (o_np O a))) else .int (wI (fun a => a < o_N O ∧ l_be O B (o_np O a) c)))), h') ∧ fSx h h' := by
  have H3 := OnR_at Ho
  have hP := Ho.2.1.2.2.2.1
  obtain ⟨g, T, eg, qg, Cg, Dg, hT, -, -⟩ := Sa_saturate (s := 61) (o := o) (O := O) (Lc_t H) Ho (by omega) B (fun x => x < o_P O) (fun _ e => e) d
  have qx := fA_Sx qg
  have Hg := fSx_lc qx H
  have Hog := fSx_on ho qx Ho
  have gp3 : am_P g 1 3 = some o := (qx.2.2.2.2 1 3 (by omega)).trans p3
  have gn : OnN g o O := fun a ha => by
    rw [(qx.2.2.2.1 (o + 5) (by omega)).1]
    exact hn a ha
  have gA : ∀ x, x < o_P O → am_L g (61 + 5) x = wL (l_A O B x) := fun x hx => (Dg.2.1 x hx (hT x hx)).1
  refine ⟨g, ?_, qx⟩
  rw [e_Lc_answerOf, lz_p (Lc_k1 H) (Lc_p1_13 H), lz_p (Lc_k1 H) p3, lz_p (Lc_k1 H) p3, lz_l (On_k H3) hL, lz_p (Lc_k1 H) p3, lz_k (On_k H3), lz_cl (On_allParts Ho (d + 3)), lz_k (Sa_k (Lc_t H)), lz_cv eg]
  rcases iw3 hw with rfl | rfl | rfl
  · rw [if_neg (by decide), if_neg (by decide), lz_p (Lc_k1 Hg) (Lc_p1_13 Hg), lz_k (Lc_k1 Hg), lz_ci (Lc_nmU Hg gp3 Hog gn gA hc (d + 1))]
    rfl
  · rw [if_neg (by decide), if_pos (by decide), lz_p (Lc_k1 Hg) (Lc_p1_13 Hg), lz_k (Lc_k1 Hg), lz_ci (Lc_nmO Hg gp3 Hog gn gA hc (d + 1))]
    rfl
  · obtain ⟨b, eb, hb⟩ := Sa_isVoid (Lc_t Hg) (show c < 60 by omega) (gA c hc) (d + 3)
    rw [if_pos (by decide), lz_p (Lc_k1 Hg) (Lc_p1_13 Hg), lz_k (Sa_k (Lc_t Hg)), lz_ci eb, if_pos rfl, ← pd_e hb]
    cases b with
    | true => rw [bo_t, if_neg (by decide)]
    | false => rw [bo_f, if_pos rfl]
theorem Lc_one {h : am_H} {o : Nat} {O : o_T} {B : Nat → Prop} {x : XT} {WN WR : Nat → Nat → Nat} (C : CT h o O B x WN WR) {n : Nat} (hn : n ≤ x.2.1) (d : Nat) : ∃ s, f_Lc_readOneConcept (d + 11) h 1 (nI n) = some (.inr none, s) ∧ fAq o (o_P O) h s ∧ am_I s 1 1 = 0 ∧ am_I s 1 2 = am_I s 37 10 ∧ (∃ k, k ≤ 400 ∧ am_I s 37 16 = nI k) ∧ ((∃ e, spA false x.1 n (O, WN, WR) = .inl e ∧ am_I s 37 9 = nI e.1 ∧ am_I s 37 10 = nI e.2) ∨ (∃ D c e, spA false x.1 n (O, WN, WR) = .inr (D, c, e) ∧ am_I s 37 9 = 0 ∧ am_I s 37 10 = -1 ∧ OnR s o D.1 ∧ OnN s o D.1 ∧ am_I s 37 12 = nI c)) := by
  have cB := C.1
  have H := cB.1
  obtain ⟨v, z, s, ev, ez, es, Hv, Hz, qs, s11, s12, k16, X⟩ := Lc_asked C hn false d
  have ez' : f_Re_readSingle (d + 10) v 37 = some (.inr none, z) := ez
  refine ⟨s, ?_, qs, s11, s12, k16, X.imp id (fun ⟨D, c, e, a1, a2, a3, a4, a5, a6, _⟩ => ⟨D, c, e, a1, a2, a3, a4, a5, a6⟩)⟩
  rw [e_Lc_readOneConcept, lz_p (Lc_k1 H) (Lc_p1_5 H), lz_p (Lc_k1 H) cB.2.1, lz_k (Lc_k37 H), lz_cv ev, lz_p (Lc_k1 Hv) (Lc_p1_5 Hv), lz_k (Lc_k37 Hv), lz_cv ez', lz_k (Lc_k1 Hz), lz_cv es]
theorem Lc_of' {h : am_H} {o : Nat} {O : o_T} {B : Nat → Prop} {x : XT} {WN WR : Nat → Nat → Nat} (C : CT h o O B x WN WR) (i j : Int32) (d : Nat) : (¬ (vi 3 i ∧ vi (x.2.1 + 1) j) ∧ f_Lc_of (d + 12) h 1 i j = some (.inl 1, cr 1 h)) ∨ (∃ w n, w < 3 ∧ i = nI w ∧ n ≤ x.2.1 ∧ j = nI n ∧ ∃ h', f_Lc_of (d + 12) h 1 i j = some (.inr (some (q_of B w (spA false x.1 n (O, WN, WR)))), h') ∧ gC h h' ∧ CT h' o O B (xe (q_pl (spA false x.1 n (O, WN, WR))) x) WN WR) := by
  have cB := C.1
  have H := cB.1
  have ho := cB.2.2.1
  have n4 := C.2.1.1
  rw [e_Lc_of, lz_k (Lc_k1 H)]
  rcases Lc_nW H i (n := 2) (by omega) (d + 10) with ⟨⟨w, hw, ew⟩, en1⟩ | ⟨hv, en1⟩
  · rw [← n_2] at en1
    rw [lz_cv en1, lz_k (Lc_k1 H)]
    rcases Lc_nb H C.2.1 j (d + 10) with ⟨n, hn, ei, en⟩ | ⟨hv, en⟩
    · refine Or.inr ⟨w, n, hw, ew, hn, ei, ?_⟩
      obtain ⟨s, es, qs, s11, s12, k16, X⟩ := Lc_one C hn d
      have okq := spA_k (two := false) (T := x.1) (n := n) (by omega) C.2.2.2.2.2.2.2.2
      have Hs := fAq_lc qs H
      have ps : ∀ j, am_P s 1 j = am_P h 1 j := fun j => qs.2.2.2.2.2.2.2.2.1 1 j (by omega) (by omega)
      rw [ei] at en ⊢
      rw [lz_cv en, lz_p (Lc_k1 H) cB.2.1, lz_i (On_k (Lc_on H ho)) cB.2.2.2.1.2.2.1, lz_k (Lc_k1 H), lz_cv es, lz_p (Lc_k1 Hs) (Lc_p1_5 Hs)]
      rcases X with ⟨e, ee, e9, e10⟩ | ⟨D, c, e, ee, e9, e10, oR, oN, e12⟩
      · rw [ee] at okq ⊢
        obtain ⟨g, c⟩ := CT_3 C qs s11 (s12.trans e10) k16
        refine ⟨am_sI s o 3 (nI (o_P O)), ?_, g, c⟩
        rw [lz_i (Lc_k37 Hs) e9, lz_p (Lc_k1 Hs) (Lc_p1_5 Hs), lz_i (Lc_k37 Hs) e9, if_neg (nz6 okq.1 okq.2), lz_p (Lc_k1 Hs) ((ps 3).trans cB.2.1), lz_k (On_k (Lc_on Hs ho))]
        rfl
      · rw [ee] at okq ⊢
        obtain ⟨wD, D60, hc, he, xx⟩ := okq
        replace hc : c < o_P D.1 := hc
        have sL : am_L s o 10 = wL B := by
          rw [qs.2.2.2.2.2.1 o (by omega) (by omega)]
          exact cB.2.2.2.2.2.1
        obtain ⟨m, em, qx⟩ := Lc_ans Hs ho ((ps 3).trans cB.2.1) oR oN sL hc hw (d + 7)
        have Hm := fSx_lc qx Hs
        obtain ⟨g, c'⟩ := CT_3 (p := -1) C (fAq_t qs (fSx_q ho _ qx)) (by rw [(qx.2.2.2.1 1 (by omega)).1]; exact s11) (by rw [(qx.2.2.2.1 1 (by omega)).1]; exact s12.trans e10) (by
          rw [(qx.2.2.2.1 37 (by omega)).1]
          exact k16)
        have pm : am_P m 1 3 = some o := (qx.2.2.2.2 1 3 (by omega)).trans ((ps 3).trans cB.2.1)
        refine ⟨am_sI m o 3 (nI (o_P O)), ?_, g, c'⟩
        rw [← ew] at em
        rw [lz_i (Lc_k37 Hs) e9, lz_p (Lc_k1 Hs) (Lc_p1_5 Hs), lz_i (Lc_k37 Hs) e9, if_pos rfl, lz_p (Lc_k1 Hs) (Lc_p1_5 Hs), lz_i (Lc_k37 Hs) e12, lz_k (Lc_k1 Hs)]
        show am_ci (f_Lc_answerOf (d + 7 + 4) s 1 i (nI c)) _ = some (Sum.inr (some (if w = 2 then Value.int (bo (pd (l_A D.1 B c 1))) else if w = 1 then Value.int (wI (fun a => a < o_N D.1 ∧ l_be D.1 B c (o_np D.1 a))) else Value.int (wI (fun a => a < o_N D.1 ∧ l_be D.1 B (o_np D.1 a) c)))), am_sI m o 3 (nI (o_P O)))
        rw [em]
        by_cases w2 : w = 2
        · rw [if_pos w2, ci_r, lz_p (Lc_k1 Hm) pm, lz_k (On_k (Lc_on Hm ho))]
        · rw [if_neg w2]
          by_cases w1 : w = 1
          · rw [if_pos w1, ci_r, lz_p (Lc_k1 Hm) pm, lz_k (On_k (Lc_on Hm ho))]
          · rw [if_neg w1, ci_r, lz_p (Lc_k1 Hm) pm, lz_k (On_k (Lc_on Hm ho))]
    · refine Or.inl ⟨fun q => hv q.2, ?_⟩
      rw [en, cv_e]
  · refine Or.inl ⟨fun q => hv q.1, ?_⟩
    rw [← n_2] at en1
    rw [en1, cv_e]
theorem Lc_model' {h : am_H} {o : Nat} {O : o_T} {B : Nat → Prop} {x : XT} {WN WR : Nat → Nat → Nat} (C : CT h o O B x WN WR) (i : Int32) (d : Nat) : (¬ vi (x.2.1 + 1) i ∧ f_Lc_model (d + 12) h 1 i = some (.inl 1, cr 1 h)) ∨ (∃ n, n ≤ x.2.1 ∧ i = nI n ∧ ∃ h', f_Lc_model (d + 12) h 1 i = some (.inr (some (q_mo O B (spA false x.1 n (O, WN, WR)))), h') ∧ gC h h' ∧ CT h' o O B (xe (q_pl (spA false x.1 n (O, WN, WR))) x) WN WR) := by
  have cB := C.1
  have H := cB.1
  have ho := cB.2.2.1
  have n4 := C.2.1.1
  rw [e_Lc_model, lz_k (Lc_k1 H)]
  rcases Lc_nb H C.2.1 i (d + 10) with ⟨n, hn, ei, en⟩ | ⟨hv, en⟩
  · refine Or.inr ⟨n, hn, ei, ?_⟩
    obtain ⟨s, es, qs, s11, s12, k16, X⟩ := Lc_one C hn d
    have okq := spA_k (two := false) (T := x.1) (n := n) (by omega) C.2.2.2.2.2.2.2.2
    have Hs := fAq_lc qs H
    have ps : ∀ j, am_P s 1 j = am_P h 1 j := fun j => qs.2.2.2.2.2.2.2.2.1 1 j (by omega) (by omega)
    rw [ei] at en ⊢
    rw [lz_cv en, lz_p (Lc_k1 H) cB.2.1, lz_i (On_k (Lc_on H ho)) cB.2.2.2.1.2.2.1, lz_p (Lc_k1 H) cB.2.1, lz_k (On_k (Lc_on H ho)), lz_cl (On_allParts cB.2.2.2.1 (d + 11)), lz_k (Lc_k1 H), lz_cv es, lz_p (Lc_k1 Hs) (Lc_p1_5 Hs)]
    rcases X with ⟨e, ee, e9, e10⟩ | ⟨D, c, e, ee, e9, e10, oR, oN, e12⟩
    · rw [ee] at okq ⊢
      obtain ⟨g, c⟩ := CT_3 C qs s11 (s12.trans e10) k16
      refine ⟨am_sI s o 3 (nI (o_P O)), ?_, g, c⟩
      rw [lz_i (Lc_k37 Hs) e9, lz_p (Lc_k1 Hs) (Lc_p1_5 Hs), lz_i (Lc_k37 Hs) e9, if_neg (nz6 okq.1 okq.2), lz_p (Lc_k1 Hs) ((ps 3).trans cB.2.1), lz_k (On_k (Lc_on Hs ho))]
      rfl
    · rw [ee] at okq ⊢
      obtain ⟨wD, D60, hc, he, xx⟩ := okq
      replace hc : c < o_P D.1 := hc
      replace xx : xD (O, WN, WR) D := xx
      have sL : am_L s o 10 = wL B := by
        rw [qs.2.2.2.2.2.1 o (by omega) (by omega)]
        exact cB.2.2.2.2.2.1
      obtain ⟨m, em, qx⟩ := Lc_ext Hs ho ((ps 3).trans cB.2.1) oR sL hc (d + 7)
      have Hm := fSx_lc qx Hs
      obtain ⟨g, c'⟩ := CT_3 (p := -1) C (fAq_t qs (fSx_q ho _ qx)) (by rw [(qx.2.2.2.1 1 (by omega)).1]; exact s11) (by rw [(qx.2.2.2.1 1 (by omega)).1]; exact s12.trans e10) (by
        rw [(qx.2.2.2.1 37 (by omega)).1]
        exact k16)
      have pm : am_P m 1 3 = some o := (qx.2.2.2.2 1 3 (by omega)).trans ((ps 3).trans cB.2.1)
      refine ⟨am_sI m o 3 (nI (o_P O)), ?_, g, c'⟩
      rw [lz_i (Lc_k37 Hs) e9, lz_p (Lc_k1 Hs) (Lc_p1_5 Hs), lz_i (Lc_k37 Hs) e9, if_pos rfl, lz_p (Lc_k1 Hs) (Lc_p1_5 Hs), lz_i (Lc_k37 Hs) e12, lz_k (Lc_k1 Hs), lz_cl em, lz_p (Lc_k1 Hm) pm, lz_k (On_k (Lc_on Hm ho)), wL_and]
      show _ = some (Sum.inr (some (Value.long (wL (e_E O D.1 B c)))), am_sI m o 3 (nI (o_P O)))
      rw [wL_cong (fun k _ => e_both (xD_O xx) cB.2.2.2.1.2.1 oR.2.1 hc k)]
  · refine Or.inl ⟨hv, ?_⟩
    rw [en, cv_e]
