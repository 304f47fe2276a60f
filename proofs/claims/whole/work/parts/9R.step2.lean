/-! ===== the class's reader: a step, all of it ===== -/
theorem Re_s47 {g0 : am_H} {T : Nat → Nat} {n p : Nat} (H : LcAt g0) (Tp : TpC g0 T n) (h1 : am_I g0 37 1 = nI n) (hp : p ≤ n) (d : Nat) : ∀ i, i ≤ lw T n p → ∀ g : am_H, fSt g0 g → am_I g 37 4 = nI (p + i) → am_I g 37 6 = nI p → am_L g 37 8 = pkL T p i → ∃ h', f_Re_step_47 d g 37 = f_Re_step_121 d h' 37 ∧ fSt g0 h' ∧ am_I h' 37 4 = nI (p + lw T n p) ∧ am_I h' 37 6 = nI p ∧ am_L h' 37 8 = pkL T p (lw T n p) := by
  have n4 := Tp.1
  have ln := lw_n (T := T) hp
  refine dn ?_ ?_
  · intro g q e4 e6 e8
    have Hg := fSt_lc q H
    have g1 : am_I g 37 1 = nI n := by rw [q.2.2.2.2.2.2 1 (by omega) (by omega) (by omega) (by omega)]; exact h1
    refine ⟨g, ?_, q, e4, e6, e8⟩
    rw [e_Re_step_47, lz_i (Lc_k37 Hg) e4, lz_i (Lc_k37 Hg) g1]
    by_cases c : n ≤ p + lw T n p
    · rw [if_pos (by rw [n_le _ _ (by omega) (by omega)]; exact c)]
    · have t := (fSt_tp q Tp).2 (p + lw T n p) (by omega)
      have ns : ¬ sml (T (p + lw T n p)) := fun e => (lw_l T n p).1 ⟨by omega, e⟩
      unfold sml at ns
      rw [if_neg (by rw [n_le _ _ (by omega) (by omega)]; exact c), lz_p (Lc_k37 Hg) (Lc_p37_0 Hg), lz_i (Lc_k37 Hg) e4, Lc_r2 Hg (by omega), t.2]
      by_cases c2 : sbt (T (p + lw T n p)) < 97
      · rw [if_pos c2]
      · have x1 : ¬ (T (p + lw T n p) < 97 ∨ 128 ≤ T (p + lw T n p)) := fun e => c2 ((sb_lt _ t.1).mpr e)
        rw [if_neg c2, lz_p (Lc_k37 Hg) (Lc_p37_0 Hg), lz_i (Lc_k37 Hg) e4, Lc_r2 Hg (by omega), t.2, if_pos ((sb_gt _ t.1).mpr (by omega))]
  · intro i hi ih g q e4 e6 e8
    have Hg := fSt_lc q H
    have g1 : am_I g 37 1 = nI n := by rw [q.2.2.2.2.2.2 1 (by omega) (by omega) (by omega) (by omega)]; exact h1
    obtain ⟨pn, ps⟩ := (lw_l T n p).2 i hi
    have t := (fSt_tp q Tp).2 (p + i) pn
    unfold sml at ps
    have c1 : ¬ nI n ≤ nI (p + i) := by rw [n_le _ _ (by omega) (by omega)]; omega
    have c2 : ¬ sbt (T (p + i)) < 97 := fun e => by
      have := (sb_lt _ t.1).mp e
      omega
    have c3 : ¬ 122 < sbt (T (p + i)) := fun e => by
      have := (sb_gt _ t.1).mp e
      omega
    obtain ⟨u, eu⟩ : ∃ u, u = am_sI (am_sL g 37 8 (pkL T p (i + 1))) 37 4 (nI (p + (i + 1))) := ⟨_, rfl⟩
    have H1 : LcAt (am_sL g 37 8 (pkL T p (i + 1))) := fSt_lc (fSt_l (fSt_r g) _ _) Hg
    obtain ⟨z, ez, qz⟩ := ih u (by rw [eu]; exact fSt_i (fSt_l q _ _) (Or.inl rfl) _) (by rw [eu, pc_I_I, if_pos ⟨rfl, rfl⟩]) (by
      rw [eu, pc_I_I, if_neg (by omega)]
      exact e6) (by
      rw [eu]
      show am_L (am_sL g 37 8 (pkL T p (i + 1))) 37 8 = _
      rw [pc_L_L, if_pos ⟨rfl, rfl⟩])
    refine ⟨z, ?_, qz⟩
    rw [← ez, eu, e_Re_step_47, lz_i (Lc_k37 Hg) e4, lz_i (Lc_k37 Hg) g1, if_neg c1, lz_p (Lc_k37 Hg) (Lc_p37_0 Hg), lz_i (Lc_k37 Hg) e4, Lc_r2 Hg (by omega), t.2, if_neg c2, lz_p (Lc_k37 Hg) (Lc_p37_0 Hg), lz_i (Lc_k37 Hg) e4, Lc_r2 Hg (by omega), t.2, if_neg c3, lz_l (Lc_k37 Hg) e8, lz_p (Lc_k37 Hg) (Lc_p37_0 Hg), lz_i (Lc_k37 Hg) e4, Lc_r2 Hg (by omega), t.2, lz_k (Lc_k37 Hg)]
    rw [show am_lshl (pkL T p i) 8 ||| Int32.toInt64 (sbt (T (p + i))) = pkL T p (i + 1) from rfl, lz_i (v := nI (p + i)) (Lc_k37 H1) e4, lz_k (Lc_k37 H1), nI_1]
    rfl
theorem sgk_8 (t : Nat) : sgk t = 8 ↔ t = 60 := by
  unfold sgk
  constructor
  · intro h
    repeat' split at h
    all_goals first | omega | assumption
  · intro h
    subst h
    rfl
theorem sgk_13 (t : Nat) : sgk t ≤ 13 := by
  unfold sgk
  repeat' split
  all_goals omega
theorem Re_s121 {g : am_H} {T : Nat → Nat} {n p : Nat} (H : LcAt g) (Tp : TpC g T n) (h1 : am_I g 37 1 = nI n) (hp : p < n) (e4 : am_I g 37 4 = nI (p + lw T n p)) (e6 : am_I g 37 6 = nI p) (e8 : am_L g 37 8 = pkL T p (lw T n p)) (d : Nat) : ∃ h', f_Re_step_121 (d + 1) g 37 = some (.inr none, h') ∧ fSt g h' ∧ ReT h' T n p := by
  have n4 := Tp.1
  have ln := lw_n (T := T) (show p ≤ n by omega)
  obtain ⟨x, ex⟩ : ∃ x, x = am_sI g 37 7 (nI (lw T n p)) := ⟨_, rfl⟩
  have qx : fSt g x := by rw [ex]; exact fSt_i (fSt_r g) (by omega) _
  have Hx := fSt_lc qx H
  have x7 : am_I x 37 7 = nI (lw T n p) := by rw [ex, pc_I_I, if_pos ⟨rfl, rfl⟩]
  have x4 : am_I x 37 4 = nI (p + lw T n p) := by rw [ex, pc_I_I, if_neg (by omega)]; exact e4
  have x6 : am_I x 37 6 = nI p := by rw [ex, pc_I_I, if_neg (by omega)]; exact e6
  have x1 : am_I x 37 1 = nI n := by rw [qx.2.2.2.2.2.2 1 (by omega) (by omega) (by omega) (by omega)]; exact h1
  have x8 : am_L x 37 8 = pkL T p (lw T n p) := by rw [ex]; exact e8
  rw [e_Re_step_121, lz_i (Lc_k37 H) e4, lz_i (Lc_k37 H) e6, lz_k (Lc_k37 H), nI_dif, ← ex, lz_i (Lc_k37 Hx) x7]
  by_cases c : lw T n p = 0
  · rw [if_pos (by rw [c]; decide), lz_i (Lc_k37 Hx) x4, lz_k (Lc_k37 Hx), c, Nat.add_zero, nI_1]
    obtain ⟨y, ey⟩ : ∃ y, y = am_sI x 37 4 (nI (p + 1)) := ⟨_, rfl⟩
    have qy : fSt g y := by rw [ey]; exact fSt_i qx (by omega) _
    have Hy := fSt_lc qy H
    have y6 : am_I y 37 6 = nI p := by rw [ey, pc_I_I, if_neg (by omega)]; exact x6
    have y7 : am_I y 37 7 = nI (lw T n p) := by rw [ey, pc_I_I, if_neg (by omega)]; exact x7
    have y4 : am_I y 37 4 = nI (p + 1) := by rw [ey, pc_I_I, if_pos ⟨rfl, rfl⟩]
    have y1 : am_I y 37 1 = nI n := by rw [qy.2.2.2.2.2.2 1 (by omega) (by omega) (by omega) (by omega)]; exact h1
    have y8 : am_L y 37 8 = pkL T p (lw T n p) := by rw [ey]; exact x8
    have t := (fSt_tp qy Tp).2 p hp
    rw [← ey, lz_p (Lc_k37 Hy) (Lc_p37_0 Hy), lz_i (Lc_k37 Hy) y6, Lc_r2 Hy (by omega), t.2, lz_ci (Re_kS y t.1 d), lz_k (Lc_k37 Hy)]
    obtain ⟨z, ez⟩ : ∃ z, z = am_sI y 37 5 (nI (sgk (T p))) := ⟨_, rfl⟩
    have qz : fSt g z := by rw [ez]; exact fSt_i qy (by omega) _
    have Hz := fSt_lc qz H
    have z6 : am_I z 37 6 = nI p := by rw [ez, pc_I_I, if_neg (by omega)]; exact y6
    have z7 : am_I z 37 7 = nI (lw T n p) := by rw [ez, pc_I_I, if_neg (by omega)]; exact y7
    have z4 : am_I z 37 4 = nI (p + 1) := by rw [ez, pc_I_I, if_neg (by omega)]; exact y4
    have z5 : am_I z 37 5 = nI (sgk (T p)) := by rw [ez, pc_I_I, if_pos ⟨rfl, rfl⟩]
    have z1 : am_I z 37 1 = nI n := by rw [qz.2.2.2.2.2.2 1 (by omega) (by omega) (by omega) (by omega)]; exact h1
    have z8 : am_L z 37 8 = pkL T p (lw T n p) := by rw [ez]; exact y8
    have k13 := sgk_13 (T p)
    rw [← ez, lz_i (Lc_k37 Hz) z5]
    have fin : ¬ (T p = 60 ∧ p + 1 < n ∧ T (p + 1) = 60) → ReT z T n p := fun no => by
      refine ⟨z1, ?_, ?_, z6, fun _ => ⟨z7, fun e => absurd e (by omega)⟩⟩
      · unfold nx
        rw [if_neg (by omega), if_neg (by omega), if_neg no]
        exact z4
      · unfold tk
        rw [if_neg (show ¬ n ≤ p by omega), if_neg (show ¬ 0 < lw T n p by omega), if_neg no]
        exact z5
    by_cases c8 : T p = 60
    · have sg := Re_sg (p := p + 1) (c := 60) Hz (fSt_tp qz Tp) z1 (by omega) (by omega) d
      rw [show nI 60 = (60 : Int32) from rfl] at sg
      rw [if_pos (by rw [(sgk_8 _).mpr c8]; rfl), lz_i (Lc_k37 Hz) z4, lz_k (Lc_k37 Hz), lz_ci sg]
      by_cases c9 : p + 1 < n ∧ T (p + 1) = 60
      · rw [decide_eq_true c9, bo_t, if_neg (by decide), lz_i (Lc_k37 Hz) z4, lz_k (Lc_k37 Hz), nI_1]
        have qv : fSt g (am_sI z 37 4 (nI (p + 1 + 1))) := fSt_i qz (by omega) _
        have Hv := fSt_lc qv H
        rw [lz_k (Lc_k37 Hv)]
        refine ⟨_, rfl, fSt_i qv (by omega) _, ?_, ?_, ?_, ?_, fun _ => ⟨?_, fun e => absurd e (by omega)⟩⟩
        · rw [pc_I_I, if_neg (by omega), pc_I_I, if_neg (by omega)]; exact z1
        · unfold nx
          rw [if_neg (show ¬ n ≤ p by omega), if_neg (show ¬ 0 < lw T n p by omega), if_pos ⟨c8, c9⟩, pc_I_I, if_neg (by omega), pc_I_I, if_pos ⟨rfl, rfl⟩]
        · unfold tk
          rw [if_neg (show ¬ n ≤ p by omega), if_neg (show ¬ 0 < lw T n p by omega), if_pos ⟨c8, c9⟩, pc_I_I, if_pos ⟨rfl, rfl⟩]
          rfl
        · rw [pc_I_I, if_neg (by omega), pc_I_I, if_neg (by omega)]; exact z6
        · rw [pc_I_I, if_neg (by omega), pc_I_I, if_neg (by omega)]; exact z7
      · rw [decide_eq_false c9, bo_f, if_pos rfl]
        exact ⟨z, rfl, qz, fin (fun e => c9 e.2)⟩
    · rw [if_neg (by rw [show (8 : Int32) = nI 8 from rfl, nI_e32 (by omega) (by omega), sgk_8]; exact c8)]
      exact ⟨z, rfl, qz, fin (fun e => c8 e.1)⟩
  · rw [if_neg (by rw [n_le0 _ (by omega)]; omega), lz_k (Lc_k37 Hx), lz_ci (Re_kW Hx hp (by omega) x8 d), lz_k (Lc_k37 Hx)]
    refine ⟨_, rfl, fSt_i qx (by omega) _, ?_, ?_, ?_, ?_, fun _ => ⟨?_, fun _ => ?_⟩⟩
    · rw [pc_I_I, if_neg (by omega)]; exact x1
    · unfold nx
      rw [if_neg (show ¬ n ≤ p by omega), if_pos (show 0 < lw T n p by omega), pc_I_I, if_neg (by omega)]
      exact x4
    · rw [pc_I_I, if_pos ⟨rfl, rfl⟩]
    · rw [pc_I_I, if_neg (by omega)]; exact x6
    · rw [pc_I_I, if_neg (by omega)]; exact x7
    · exact x8
theorem Re_step {h : am_H} {T : Nat → Nat} {n q : Nat} (H : LcAt h) (Tp : TpC h T n) (h1 : am_I h 37 1 = nI n) (h4 : am_I h 37 4 = nI q) (hq : q ≤ n) (d : Nat) : ∃ h', f_Re_step (d + 2) h 37 = some (.inr none, h') ∧ fSt h h' ∧ ReT h' T n (sk T n q) := by
  have n4 := Tp.1
  have sl := sk_le (T := T) hq
  obtain ⟨p, ep⟩ : ∃ p, p = sk T n q := ⟨_, rfl⟩
  rw [← ep] at sl ⊢
  obtain ⟨a, ea⟩ : ∃ a, a = am_sI h 37 4 (nI p) := ⟨_, rfl⟩
  have qa : fSt h a := by rw [ea]; exact fSt_i (fSt_r h) (by omega) _
  have Ha := fSt_lc qa H
  have a4 : am_I a 37 4 = nI p := by rw [ea, pc_I_I, if_pos ⟨rfl, rfl⟩]
  obtain ⟨b, eb⟩ : ∃ b, b = am_sI (am_sI a 37 6 (nI p)) 37 7 0 := ⟨_, rfl⟩
  have qa6 : fSt h (am_sI a 37 6 (nI p)) := fSt_i qa (by omega) _
  have Ha6 := fSt_lc qa6 H
  have qb : fSt h b := by rw [eb]; exact fSt_i qa6 (by omega) _
  have Hb := fSt_lc qb H
  have b4 : am_I b 37 4 = nI p := by rw [eb, pc_I_I, if_neg (by omega), pc_I_I, if_neg (by omega)]; exact a4
  have b6 : am_I b 37 6 = nI p := by rw [eb, pc_I_I, if_neg (by omega), pc_I_I, if_pos ⟨rfl, rfl⟩]
  have b1 : am_I b 37 1 = nI n := by rw [qb.2.2.2.2.2.2 1 (by omega) (by omega) (by omega) (by omega)]; exact h1
  rw [e_Re_step, lz_i (Lc_k37 H) h4, lz_k (Lc_k37 H), lz_ci (Re_bb H Tp h1 hq (d + 1)), lz_k (Lc_k37 H), ← ep, ← ea, lz_i (Lc_k37 Ha) a4, lz_k (Lc_k37 Ha), lz_k (Lc_k37 Ha6), ← eb, lz_i (Lc_k37 Hb) b4, lz_i (Lc_k37 Hb) b1]
  by_cases c : p < n
  · rw [if_pos (by rw [n_lt _ _ (by omega) (by omega)]; exact c), lz_k (Lc_k37 Hb)]
    have qc : fSt h (am_sL b 37 8 0) := fSt_l qb _ _
    have Hc := fSt_lc qc H
    have c1 : am_I (am_sL b 37 8 0) 37 1 = nI n := b1
    obtain ⟨u, eu, qu, u4, u6, u8⟩ := Re_s47 Hc (fSt_tp qc Tp) c1 sl (d + 2) 0 (Nat.zero_le _) (am_sL b 37 8 0) (fSt_r _) b4 b6 (by rw [pc_L_L, if_pos ⟨rfl, rfl⟩]; rfl)
    have qu2 := fSt_t qc qu
    have u1 : am_I u 37 1 = nI n := by rw [qu2.2.2.2.2.2.2 1 (by omega) (by omega) (by omega) (by omega)]; exact h1
    obtain ⟨z, ez, qz, Rz⟩ := Re_s121 (fSt_lc qu2 H) (fSt_tp qu2 Tp) u1 c u4 u6 u8 (d + 1)
    exact ⟨z, eu.trans ez, fSt_t qu2 qz, Rz⟩
  · rw [if_neg (by rw [n_lt _ _ (by omega) (by omega)]; exact c), lz_k (Lc_k37 Hb)]
    refine ⟨_, rfl, fSt_i qb (by omega) _, ?_, ?_, ?_, ?_, fun e => absurd e c⟩
    · rw [pc_I_I, if_neg (by omega)]; exact b1
    · unfold nx
      rw [if_pos (by omega), pc_I_I, if_neg (by omega)]
      exact b4
    · unfold tk
      rw [if_pos (by omega), pc_I_I, if_pos ⟨rfl, rfl⟩]
      rfl
    · rw [pc_I_I, if_neg (by omega)]; exact b6
