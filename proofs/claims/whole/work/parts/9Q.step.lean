/-! ===== the class's reader: a step ===== -/
def TpC (h : am_H) (T : Nat → Nat) (n : Nat) : Prop := n ≤ 400 ∧ ∀ k, k < n → T k < 256 ∧ am_I h 2 k = sbt (T k)
def ReT (h : am_H) (T : Nat → Nat) (n p : Nat) : Prop := am_I h 37 1 = nI n ∧ am_I h 37 4 = nI (nx T n p) ∧ am_I h 37 5 = nI (tk T n p) ∧ am_I h 37 6 = nI p ∧ (p < n → am_I h 37 7 = nI (lw T n p) ∧ (0 < lw T n p → am_L h 37 8 = pkL T p (lw T n p)))
def fSt (h h' : am_H) : Prop := am_S h' = am_S h ∧ am_G h' = am_G h ∧ am_T h' = am_T h ∧ am_P h' = am_P h ∧ (∀ b, b ≠ 37 → am_I h' b = am_I h b) ∧ (∀ b, b ≠ 37 → am_L h' b = am_L h b) ∧ (∀ j, j ≠ 4 → j ≠ 5 → j ≠ 6 → j ≠ 7 → am_I h' 37 j = am_I h 37 j)
theorem fSt_r (h : am_H) : fSt h h := ⟨rfl, rfl, rfl, rfl, fun _ _ => rfl, fun _ _ => rfl, fun _ _ _ _ _ => rfl⟩
theorem fSt_t {a b c : am_H} (h1 : fSt a b) (h2 : fSt b c) : fSt a c := ⟨h2.1.trans h1.1, h2.2.1.trans h1.2.1, h2.2.2.1.trans h1.2.2.1, h2.2.2.2.1.trans h1.2.2.2.1, fun b p => (h2.2.2.2.2.1 b p).trans (h1.2.2.2.2.1 b p), fun b p => (h2.2.2.2.2.2.1 b p).trans (h1.2.2.2.2.2.1 b p), fun j p q r s => (h2.2.2.2.2.2.2 j p q r s).trans (h1.2.2.2.2.2.2 j p q r s)⟩
theorem fSt_i {h0 h : am_H} (q : fSt h0 h) {j : Nat} (hj : j = 4 ∨ j = 5 ∨ j = 6 ∨ j = 7) (v : Int32) : fSt h0 (am_sI h 37 j v) := fSt_t q ⟨rfl, rfl, rfl, rfl, fun b p => by
  funext i
  rw [pc_I_I, if_neg (by omega)], fun _ _ => rfl, fun i p1 p2 p3 p4 => by rw [pc_I_I, if_neg (by omega)]⟩
theorem fSt_l {h0 h : am_H} (q : fSt h0 h) (j : Nat) (v : Int64) : fSt h0 (am_sL h 37 j v) := fSt_t q ⟨rfl, rfl, rfl, rfl, fun _ _ => rfl, fun b p => by
  funext i
  rw [pc_L_L, if_neg (by omega)], fun _ _ _ _ _ => rfl⟩
theorem fSt_lc {h h' : am_H} (q : fSt h h') (H : LcAt h) : LcAt h' := LcAt_of H q.1 (fun _ _ _ => by rw [q.2.2.2.1])
theorem fSt_tp {h h' : am_H} {T : Nat → Nat} {n : Nat} (q : fSt h h') (H : TpC h T n) : TpC h' T n := by
  unfold TpC at *
  rw [q.2.2.2.2.1 2 (by omega)]
  exact H
theorem Re_bb {h : am_H} {T : Nat → Nat} {n q : Nat} (H : LcAt h) (Tp : TpC h T n) (h1 : am_I h 37 1 = nI n) (hq : q ≤ n) (d : Nat) : f_Re_behindBlanks d h 37 (nI q) = some (.inr (some (.int (nI (sk T n q)))), h) := by
  obtain ⟨n4, tp⟩ := Tp
  have sl := sk_le (T := T) hq
  have key : ∀ a, a ≤ sk T n q → q ≤ a → f_Re_behindBlanks_2 d h 37 (nI a) = some (.inr (some (.int (nI (sk T n q)))), h) := by
    refine dn ?_ ?_
    · intro _
      rw [e_Re_behindBlanks_2, lz_i (Lc_k37 H) h1]
      by_cases c : n ≤ sk T n q
      · rw [if_pos (by rw [n_le _ _ (by omega) (by omega)]; exact c)]
      · have t := tp (sk T n q) (by omega)
        rw [if_neg (by rw [n_le _ _ (by omega) (by omega)]; exact c), lz_p (Lc_k37 H) (Lc_p37_0 H), Lc_r2 H (by omega), t.2, if_neg]
        rw [show (32 : Int32) = nI 32 from rfl, sb_eq t.1 (by omega)]
        exact fun e => (sk_l T n q).1 ⟨by omega, e⟩
    · intro a ha ih h2
      obtain ⟨an, a32⟩ := sk_in h2 ha
      have t := tp a an
      rw [e_Re_behindBlanks_2, lz_i (Lc_k37 H) h1, if_neg (by rw [n_le _ _ (by omega) (by omega)]; omega), lz_p (Lc_k37 H) (Lc_p37_0 H), Lc_r2 H (by omega), t.2, if_pos (by rw [a32]; decide), nI_1]
      exact ih (by omega)
  rw [e_Re_behindBlanks]
  exact key q (sk_ge T n q) (Nat.le_refl _)
theorem nI_dif (a b : Nat) : nI (a + b) - nI a = nI b := by
  rw [← nI_add, Int32.add_comm, Int32.sub_eq_add_neg, Int32.add_assoc, ← Int32.sub_eq_add_neg, Int32.sub_self, Int32.add_zero]
/-- an own word, by its packed letters -/
theorem own_e {T : Nat → Nat} {n p m K : Nat} (hm : m ≤ 7) (cw : Nat → Nat) (hc : ∀ j, cw j ≤ 26) (hK : pkN cw m = K) (hK2 : K < 72057594037927936) (v : Int64) (hv : un v = K) : (pkL T p (lw T n p) = v) ↔ (lw T n p = m ∧ ∀ j, j < m → T (p + j) = cw j + 96) := by
  have ls := (lw_l T n p).2
  rcases Nat.lt_or_ge (lw T n p) 8 with c | c
  · obtain ⟨e, -⟩ := pkL_s (T := T) (p := p) (lw T n p) (by omega) (fun j hj => (ls j hj).2) (wd T n p) (fun j hj => wd_t hj) (wd_26 T n p)
    constructor
    · intro q
      rw [q, hv, ← hK] at e
      obtain ⟨e1, e2⟩ := pkN_i hc (wd_26 T n p) _ _ e
      exact ⟨e1.symm, fun j hj => by rw [e2 j hj, wd_t (by omega)]⟩
    · rintro ⟨q1, q2⟩
      apply un_ext
      rw [hv, ← hK, e, q1]
      have : ∀ i, i ≤ m → pkN (wd T n p) i = pkN cw i := by
        intro i
        induction i with
        | zero => intro _; rfl
        | succ i ih =>
          intro hi
          rw [pkN, pkN, ih (by omega), wd_t (by omega), q2 i (by omega)]
      exact this m (Nat.le_refl _)
  · have b := pkL_b (T := T) (p := p) c (fun j hj => (ls j hj).2)
    constructor
    · intro q
      rw [q, hv] at b
      omega
    · intro q
      omega
def c_top (j : Nat) : Nat := if j = 0 then 20 else if j = 1 then 15 else if j = 2 then 16 else 0
def c_not (j : Nat) : Nat := if j = 0 then 14 else if j = 1 then 15 else if j = 2 then 20 else if j = 3 then 8 else if j = 4 then 9 else if j = 5 then 14 else if j = 6 then 7 else 0
def c_som (j : Nat) : Nat := if j = 0 then 19 else if j = 1 then 15 else if j = 2 then 13 else if j = 3 then 5 else 0
theorem c_top26 (j : Nat) : c_top j ≤ 26 := by
  unfold c_top
  repeat' split
  all_goals omega
theorem c_not26 (j : Nat) : c_not j ≤ 26 := by
  unfold c_not
  repeat' split
  all_goals omega
theorem c_som26 (j : Nat) : c_som j ≤ 26 := by
  unfold c_som
  repeat' split
  all_goals omega
theorem own_top {T : Nat → Nat} {n p : Nat} : (pkL T p (lw T n p) = 7630704) ↔ w_top T n p (lw T n p) := by
  rw [own_e (m := 3) (K := 7630704) (by omega) c_top c_top26 (by decide) (by omega) 7630704 (by decide)]
  unfold w_top
  constructor
  · rintro ⟨a, b⟩
    exact ⟨a, b 0 (by omega), b 1 (by omega), b 2 (by omega)⟩
  · rintro ⟨a, b0, b1, b2⟩
    refine ⟨a, fun j hj => ?_⟩
    rcases (show j = 0 ∨ j = 1 ∨ j = 2 by omega) with rfl | rfl | rfl
    · exact b0
    · exact b1
    · exact b2
theorem own_not {T : Nat → Nat} {n p : Nat} : (pkL T p (lw T n p) = 31084793196801639) ↔ w_not T n p (lw T n p) := by
  rw [own_e (m := 7) (K := 31084793196801639) (by omega) c_not c_not26 (by decide) (by omega) 31084793196801639 (by decide)]
  unfold w_not
  constructor
  · rintro ⟨a, b⟩
    exact ⟨a, b 0 (by omega), b 1 (by omega), b 2 (by omega), b 3 (by omega), b 4 (by omega), b 5 (by omega), b 6 (by omega)⟩
  · rintro ⟨a, b0, b1, b2, b3, b4, b5, b6⟩
    refine ⟨a, fun j hj => ?_⟩
    rcases (show j = 0 ∨ j = 1 ∨ j = 2 ∨ j = 3 ∨ j = 4 ∨ j = 5 ∨ j = 6 by omega) with rfl | rfl | rfl | rfl | rfl | rfl | rfl
    · exact b0
    · exact b1
    · exact b2
    · exact b3
    · exact b4
    · exact b5
    · exact b6
theorem own_som {T : Nat → Nat} {n p : Nat} : (pkL T p (lw T n p) = 1936682341) ↔ w_som T n p (lw T n p) := by
  rw [own_e (m := 4) (K := 1936682341) (by omega) c_som c_som26 (by decide) (by omega) 1936682341 (by decide)]
  unfold w_som
  constructor
  · rintro ⟨a, b⟩
    exact ⟨a, b 0 (by omega), b 1 (by omega), b 2 (by omega), b 3 (by omega)⟩
  · rintro ⟨a, b0, b1, b2, b3⟩
    refine ⟨a, fun j hj => ?_⟩
    rcases (show j = 0 ∨ j = 1 ∨ j = 2 ∨ j = 3 by omega) with rfl | rfl | rfl | rfl
    · exact b0
    · exact b1
    · exact b2
    · exact b3
theorem Re_kW {h : am_H} {T : Nat → Nat} {n p : Nat} (H : LcAt h) (hp : p < n) (hl : 0 < lw T n p) (e : am_L h 37 8 = pkL T p (lw T n p)) (d : Nat) : f_Re_kindOfWord d h 37 = some (.inr (some (.int (nI (tk T n p)))), h) := by
  have tw : tk T n p = @ite _ (w_top T n p (lw T n p)) (Classical.propDecidable _) 2 (@ite _ (w_not T n p (lw T n p)) (Classical.propDecidable _) 3 (@ite _ (w_som T n p (lw T n p)) (Classical.propDecidable _) 4 1)) := by
    unfold tk
    rw [if_neg (show ¬ n ≤ p by omega), if_pos hl]
  rw [e_Re_kindOfWord, lz_l (Lc_k37 H) e, tw]
  by_cases c1 : w_top T n p (lw T n p)
  · rw [if_pos (by rw [lc_e]; exact own_top.mpr c1), if_pos c1]
    rfl
  · rw [if_neg (by rw [lc_e]; exact fun q => c1 (own_top.mp q)), if_neg c1, lz_l (Lc_k37 H) e]
    by_cases c2 : w_not T n p (lw T n p)
    · rw [if_pos (by rw [lc_e]; exact own_not.mpr c2), if_pos c2]
      rfl
    · rw [if_neg (by rw [lc_e]; exact fun q => c2 (own_not.mp q)), if_neg c2, lz_l (Lc_k37 H) e]
      by_cases c3 : w_som T n p (lw T n p)
      · rw [if_pos (by rw [lc_e]; exact own_som.mpr c3), if_pos c3]
        rfl
      · rw [if_neg (by rw [lc_e]; exact fun q => c3 (own_som.mp q)), if_neg c3]
        rfl
theorem Re_sg {h : am_H} {T : Nat → Nat} {n p c : Nat} (H : LcAt h) (Tp : TpC h T n) (h1 : am_I h 37 1 = nI n) (hp : p ≤ n + 1) (hc : c < 128) (d : Nat) : f_Re_isSign d h 37 (nI p) (nI c) = some (.inr (some (.int (bo (decide (p < n ∧ T p = c))))), h) := by
  obtain ⟨n4, tp⟩ := Tp
  rw [e_Re_isSign, if_neg (nI_pos (by omega)), lz_i (Lc_k37 H) h1]
  by_cases q : p < n
  · have t := tp p q
    rw [if_neg (by rw [n_le _ _ (by omega) (by omega)]; omega), lz_p (Lc_k37 H) (Lc_p37_0 H), Lc_r2 H (by omega), t.2]
    by_cases e : T p = c
    · rw [if_pos (by rw [sb_eq t.1 hc]; exact e), decide_eq_true ⟨q, e⟩, o1_1]
      rfl
    · rw [if_neg (by rw [sb_eq t.1 hc]; exact e), decide_eq_false (fun x => e x.2), o1_0]
      rfl
  · rw [if_pos (by rw [n_le _ _ (by omega) (by omega)]; omega), decide_eq_false (fun x => q x.1), o1_0]
    rfl
