/-! ===== tape, turned, refused: both sides; status, fault, feed ===== -/
def sbt (n : Nat) : Int32 := Int8.toInt32 (Int32.toInt8 (nI n))
abbrev XT : Type := (Nat → Nat) × Nat × Int32 × (Nat → Nat) × Nat × (Nat → Int32)
def CX (h : am_H) (x : XT) : Prop := x.2.1 ≤ 400 ∧ am_I h 1 1 = nI x.2.1 ∧ (∀ k, k < x.2.1 → x.1 k < 256 ∧ am_I h 2 k = sbt (x.1 k)) ∧ am_I h 1 2 = x.2.2.1 ∧ x.2.2.2.2.1 ≤ 20 ∧ am_I h 1 7 = nI x.2.2.2.2.1 ∧ (∀ k, k < x.2.2.2.2.1 → am_I h 40 k = nI (x.2.2.2.1 k)) ∧ (∀ k, k < 3 → am_I h 77 k = x.2.2.2.2.2 k)
def RX (h : am_H) (f : Nat) (x : XT) : Prop := x.2.1 ≤ 400 ∧ am_I h f 2 = nI x.2.1 ∧ (∀ k, k < x.2.1 → x.1 k < 256 ∧ am_I h (f + 2) k = nI (x.1 k)) ∧ am_I h f 5 = x.2.2.1 ∧ x.2.2.2.2.1 ≤ 20 ∧ am_I h f 13 = nI x.2.2.2.2.1 ∧ (∀ k, k < x.2.2.2.2.1 → am_I h (f + 5) k = nI (x.2.2.2.1 k)) ∧ (∀ k, k < 3 → am_I h (f + 1) k = x.2.2.2.2.2 k)
theorem CX_K {h h' : am_H} {x : XT} (q : fK h h') (C : CX h x) : CX h' x := by
  obtain ⟨c1, c2, c3, c4, c5, c6, c7, c8⟩ := C
  obtain ⟨-, -, -, q4, q5, -, -⟩ := q
  refine ⟨c1, ?_, ?_, ?_, c5, ?_, ?_, ?_⟩
  · rw [q5 1 (by omega) (by omega)]; exact c2
  · rw [q4 2 (by omega) (by omega)]; exact c3
  · rw [q5 2 (by omega) (by omega)]; exact c4
  · rw [q5 7 (by omega) (by omega)]; exact c6
  · rw [q4 40 (by omega) (by omega)]; exact c7
  · rw [q4 77 (by omega) (by omega)]; exact c8
theorem RX_W {h h' : am_H} {f : Nat} {x : XT} (q : fW f h h') (C : RX h f x) : RX h' f x := by
  obtain ⟨c1, c2, c3, c4, c5, c6, c7, c8⟩ := C
  obtain ⟨-, -, -, -, q5, q6, -⟩ := q
  refine ⟨c1, ?_, ?_, ?_, c5, ?_, ?_, ?_⟩
  · rw [q6 2 (by omega) (by omega) (by omega) (by omega) (by omega) (by omega)]; exact c2
  · rw [(q5 (f + 2) (by omega) (by omega)).1]; exact c3
  · rw [q6 5 (by omega) (by omega) (by omega) (by omega) (by omega) (by omega)]; exact c4
  · rw [q6 13 (by omega) (by omega) (by omega) (by omega) (by omega) (by omega)]; exact c6
  · rw [(q5 (f + 5) (by omega) (by omega)).1]; exact c7
  · rw [(q5 (f + 1) (by omega) (by omega)).1]; exact c8
/-- one refusal more -/
def xr (E : Nat) (x : XT) : XT := (x.1, x.2.1, x.2.2.1, x.2.2.2.1, x.2.2.2.2.1, fun k => if k = E then x.2.2.2.2.2 k + 1 else x.2.2.2.2.2 k)
theorem CX_cr {h : am_H} {x : XT} {E : Nat} (hE : E < 3) (C : CX h x) : CX (cr E h) (xr E x) := by
  obtain ⟨c1, c2, c3, c4, c5, c6, c7, c8⟩ := C
  have e : ∀ b, b ≠ 77 → am_I (cr E h) b = am_I h b := fun b hb => by
    show am_I (am_sI h 77 E _) b = _
    funext j
    rw [pc_I_I, if_neg (by omega)]
  refine ⟨c1, ?_, ?_, ?_, c5, ?_, ?_, ?_⟩
  · rw [e 1 (by omega)]; exact c2
  · rw [e 2 (by omega)]; exact c3
  · rw [e 1 (by omega)]; exact c4
  · rw [e 1 (by omega)]; exact c6
  · rw [e 40 (by omega)]; exact c7
  · intro k hk
    show am_I (am_sI h 77 E (am_I h 77 E + 1)) 77 k = if k = E then x.2.2.2.2.2 k + 1 else x.2.2.2.2.2 k
    rw [pc_I_I]
    by_cases e : k = E
    · rw [if_pos ⟨rfl, e⟩, if_pos e, c8 E hE, e]
    · rw [if_neg (fun q => e q.2), if_neg e, c8 k hk]
theorem CB_cr {h : am_H} {o E : Nat} {O : o_T} {B : Nat → Prop} (C : CB h o O B) : CB (cr E h) o O B := by
  have H' : LcAt (cr E h) := LcAt_of C.1 rfl (fun _ _ _ => rfl)
  refine CB_sm (h := h) (h' := cr E h) (W := fun b => b ≠ 77) ⟨rfl, fun b p => ⟨?_, rfl, rfl⟩⟩ H' (fun b _ _ => by omega) (by omega) (by omega) C
  show am_I (am_sI h 77 E _) b = _
  funext j
  rw [pc_I_I, if_neg (fun e => p e.1)]
theorem RX_rr {h : am_H} {f E : Nat} {c : Int32} {x : XT} (hE : E < 3) (C : RX h f x) : RX (rr f E c h) f (xr E x) := by
  obtain ⟨c1, c2, c3, c4, c5, c6, c7, c8⟩ := C
  have e : ∀ b, b ≠ f → b ≠ f + 1 → am_I (rr f E c h) b = am_I h b := fun b h1 h2 => by
    show am_I (am_sI (am_sI h f 0 c) (f + 1) E _) b = _
    funext j
    rw [pc_I_I, if_neg (by omega), pc_I_I, if_neg (by omega)]
  have ef : ∀ j, j ≠ 0 → am_I (rr f E c h) f j = am_I h f j := fun j hj => by
    show am_I (am_sI (am_sI h f 0 c) (f + 1) E _) f j = _
    rw [pc_I_I, if_neg (by omega), pc_I_I, if_neg (by omega)]
  refine ⟨c1, ?_, ?_, ?_, c5, ?_, ?_, ?_⟩
  · rw [ef 2 (by omega)]; exact c2
  · rw [e (f + 2) (by omega) (by omega)]; exact c3
  · rw [ef 5 (by omega)]; exact c4
  · rw [ef 13 (by omega)]; exact c6
  · rw [e (f + 5) (by omega) (by omega)]; exact c7
  · intro k hk
    show am_I (am_sI (am_sI h f 0 c) (f + 1) E (am_I h (f + 1) E + 1)) (f + 1) k = if k = E then x.2.2.2.2.2 k + 1 else x.2.2.2.2.2 k
    rw [pc_I_I]
    by_cases e : k = E
    · rw [if_pos ⟨rfl, e⟩, if_pos e, c8 E hE, e]
    · rw [if_neg (fun q => e q.2), if_neg e, pc_I_I, if_neg (by omega), c8 k hk]
theorem RB_rr {h : am_H} {f E : Nat} {c : Int32} {O : o_T} {B : Nat → Prop} (C : RB h f O B) : RB (rr f E c h) f O B := by
  obtain ⟨c1, c2, c3, c4, c5, c6⟩ := (RB_0 C c).1
  have eb : ∀ b, b ≠ f + 1 → am_I (rr f E c h) b = am_I (am_sI h f 0 c) b := fun b p => by
    show am_I (am_sI (am_sI h f 0 c) (f + 1) E _) b = _
    funext i
    rw [pc_I_I, if_neg (by omega)]
  have ef := eb f (by omega)
  have hP := c2.2.1.2.2.2.1
  refine ⟨RfAt_of c1 rfl (fun _ _ _ => rfl), Rw_of c2 rfl (eb _ (by omega)), c3, c4, ?_, ?_⟩
  · rw [ef]
    refine c5.imp id (fun p => ⟨p.1, ?_⟩)
    obtain ⟨k, k1, k2, k3, k4, k5, k6⟩ := p.2
    refine ⟨k, k1, k2, ?_, fun r hr => ?_, k5, fun x y hx hy => ?_⟩
    · rw [ef]; exact k3
    · rw [eb _ (by omega)]; exact k4 r hr
    · rw [eb _ (by omega)]; exact k6 x y hx hy
  · rw [ef]
    exact c6.imp id (fun p => ⟨p.1, RfN_i (by rw [ef]) (fun b r s => eb b (by omega)) p.2⟩)
theorem Lc_status {h : am_H} {x : XT} (H : LcAt h) (C : CX h x) (i : Int32) (d : Nat) : f_Lc_status d h 1 i = some (.inr (some (.int (@ite _ (vi 3 i) (Classical.propDecidable _) (x.2.2.2.2.2 i.toNatClampNeg) (-1)))), h) := by
  rw [e_Lc_status]
  by_cases v : vi 3 i
  · rw [if_pos v]
    obtain ⟨k, hk, rfl⟩ := v
    rw [if_neg (vi_0 (n := 3) (by omega) hk), if_pos (by rw [n_2, n_le _ _ (by omega) (by omega)]; omega), nI_clamp (by omega), ← C.2.2.2.2.2.2.2 k hk]
    simp (disch := first | assumption | omega) only [hc_ck, hc_gi, hc_gl, hc_gp, ap_I, ap_L, kd_I, kd_L, kd_P, kd_rI, ar_I, ar_L, ar_P, al_I, al_L, al_P, hop_s, cond_true, cond_false, pc_I_I, pc_L_L, pc_P_P, pc_I_L, pc_I_P, pc_L_I, pc_L_P, pc_P_I, pc_P_L, pc_sS_I, pc_sS_L, pc_sS_P, I_rI, L_rI, P_rI, S_rI, cv_r, ci_r, cl_r, o1_b, o1_0, o1_1, lc_e, nI_1, nI_add, if_true, if_false, Nat.reduceEqDiff, Nat.left_eq_add, Nat.add_eq_left, false_and, and_false, true_and, and_true, and_self, eq_self, Lc_k1, Lc_p1_17, Lc_r77]
  · rw [if_neg v]
    by_cases c : i < 0
    · rw [if_pos c]
    · rw [if_neg c, if_neg]
      have := vi3 v c
      rw [Int32.lt_iff_toInt_lt] at this
      rw [Int32.le_iff_toInt_le]
      omega
theorem Rf_status {h : am_H} {f : Nat} {x : XT} {O : o_T} {B : Nat → Prop} (R : RB h f O B) (C : RX h f x) (i : Int32) (d : Nat) : f_Rf_status (d + 1) h f i = some (.inr (some (.int (@ite _ (vi 3 i) (Classical.propDecidable _) (x.2.2.2.2.2 i.toNatClampNeg) (-1)))), am_sI h f 0 0) := by
  have H := R.1
  obtain ⟨g, e0, Cg, Wg, z0⟩ := RB_b R
  have Hg := Cg.1
  have Xg := RX_W Wg C
  have ii := vi_inc (n := 2) (by omega) g i d
  rw [← n_2] at ii
  rw [e_Rf_status, e0]
  simp (disch := first | assumption | omega) only [hc_ck, hc_gi, hc_gl, hc_gp, ap_I, ap_L, kd_I, kd_L, kd_P, kd_rI, ar_I, ar_L, ar_P, al_I, al_L, al_P, hop_s, cond_true, cond_false, pc_I_I, pc_L_L, pc_P_P, pc_I_L, pc_I_P, pc_L_I, pc_L_P, pc_P_I, pc_P_L, pc_sS_I, pc_sS_L, pc_sS_P, I_rI, L_rI, P_rI, S_rI, cv_r, ci_r, cl_r, o1_b, o1_0, o1_1, lc_e, nI_1, nI_add, if_true, if_false, Nat.reduceEqDiff, Nat.left_eq_add, Nat.add_eq_left, false_and, and_false, true_and, and_true, and_self, eq_self, Rf_k, ii, Nat.reduceAdd, bo_0]
  by_cases v : vi 3 i
  · rw [pd_t v, if_neg (by decide), if_pos v]
    obtain ⟨k, hk, rfl⟩ := v
    rw [nI_clamp (by omega), ← Xg.2.2.2.2.2.2.2 k hk]
    simp (disch := first | assumption | omega) only [hc_ck, hc_gi, hc_gl, hc_gp, ap_I, ap_L, kd_I, kd_L, kd_P, kd_rI, ar_I, ar_L, ar_P, al_I, al_L, al_P, hop_s, cond_true, cond_false, pc_I_I, pc_L_L, pc_P_P, pc_I_L, pc_I_P, pc_L_I, pc_L_P, pc_P_I, pc_P_L, pc_sS_I, pc_sS_L, pc_sS_P, I_rI, L_rI, P_rI, S_rI, cv_r, ci_r, cl_r, o1_b, o1_0, o1_1, lc_e, nI_1, nI_add, if_true, if_false, Nat.reduceEqDiff, Nat.left_eq_add, Nat.add_eq_left, false_and, and_false, true_and, and_true, and_self, eq_self, Rf_k, Rf_p1, Rf_r1]
  · rw [pd_f v, if_pos rfl, if_neg v]
/-! bytes -/
def by8 (v : Int32) (s : Nat) : Nat := ui v / 2 ^ s % 256
theorem by8_lt (v : Int32) (s : Nat) : by8 v s < 256 := Nat.mod_lt _ (by omega)
theorem by8_t (v : Int32) (s : Nat) {i : Nat} (hi : i < 8) : (by8 v s).testBit i = yi v (s + i) := by
  unfold by8
  rw [show (256 : Nat) = 2 ^ 8 from rfl, Nat.testBit_mod_two_pow, decide_eq_true hi, Bool.true_and, Nat.testBit_div_two_pow, yi_nat, Nat.add_comm]
  rfl
theorem yi_nI {n : Nat} (hn : n < 4294967296) (k : Nat) : yi (nI n) k = n.testBit k := by
  rw [yi_nat, pk_tn hn]
theorem nar_y (z : Int8) : vp_nar .byte (Int8.toInt32 z) = Int8.toInt32 z := by
  show (Int8.toInt32 z).toInt8.toInt32 = Int8.toInt32 z
  rw [Int8.toInt8_toInt32]
theorem sb_8 (v : Int32) {s : Nat} (hs : s < 32) : vp_nar .byte (Int8.toInt32 (Int32.toInt8 (am_iushr v (nI s)))) = sbt (by8 v s) := by
  rw [nar_y]
  unfold sbt
  congr 1
  apply Int8.toBitVec_inj.mp
  rw [Int32.toBitVec_toInt8, Int32.toBitVec_toInt8]
  apply BitVec.eq_of_getLsbD_eq
  intro i hi
  rw [BitVec.getLsbD_signExtend, BitVec.getLsbD_signExtend]
  have e : (am_iushr v (nI s)).toBitVec.getLsbD i = (nI (by8 v s)).toBitVec.getLsbD i := by
    show yi (am_iushr v (nI s)) i = yi (nI (by8 v s)) i
    have := by8_lt v s
    rw [yi_ushr v hs, yi_nI (by omega), by8_t v s hi]
  simp only [hi, show i < 32 by omega, decide_true, if_true, e]
theorem rb_8 (v : Int32) {s : Nat} (hs : s < 25) : am_ishr v (nI s) &&& 255 = nI (by8 v s) := by
  apply yi_ext
  intro k hk
  have b := by8_lt v s
  rw [yi_and, yi_sshr v (by omega) hk, yi_nI (by omega), show (255 : Int32) = nI 255 from rfl, yi_nI (by omega)]
  by_cases c : k < 8
  · rw [if_pos (by omega), by8_t v s c, show (255 : Nat) = 2 ^ 8 - 1 from rfl, Nat.testBit_two_pow_sub_one, decide_eq_true c, Bool.and_true]
  · rw [show (255 : Nat) = 2 ^ 8 - 1 from rfl, Nat.testBit_two_pow_sub_one, decide_eq_false c, Bool.and_false]
    exact (Nat.testBit_lt_two_pow (Nat.lt_of_lt_of_le b (by
      rw [show (256 : Nat) = 2 ^ 8 from rfl]
      exact Nat.pow_le_pow_right (by omega) (by omega)))).symm
/-- a byte more -/
def xb (b : Nat) (x : XT) : XT := (fun k => if k < x.2.1 then x.1 k else b, x.2.1 + 1, x.2.2)
theorem CX_b {h : am_H} {x : XT} {b : Nat} (hb : b < 256) (ht : x.2.1 < 400) (C : CX h x) : CX (am_sI (am_sI h 2 x.2.1 (sbt b)) 1 1 (nI (x.2.1 + 1))) (xb b x) := by
  obtain ⟨c1, c2, c3, c4, c5, c6, c7, c8⟩ := C
  have e1 : ∀ j, j ≠ 1 → am_I (am_sI (am_sI h 2 x.2.1 (sbt b)) 1 1 (nI (x.2.1 + 1))) 1 j = am_I h 1 j := fun j hj => by
    rw [pc_I_I, if_neg (by omega), pc_I_I, if_neg (by omega)]
  have e2 : ∀ c, c ≠ 1 → c ≠ 2 → am_I (am_sI (am_sI h 2 x.2.1 (sbt b)) 1 1 (nI (x.2.1 + 1))) c = am_I h c := fun c h1 h2 => by
    funext j
    rw [pc_I_I, if_neg (by omega), pc_I_I, if_neg (by omega)]
  refine ⟨ht, ?_, ?_, ?_, c5, ?_, ?_, ?_⟩
  · rw [pc_I_I, if_pos ⟨rfl, rfl⟩]; rfl
  · intro k hk
    have hk2 : k < x.2.1 + 1 := hk
    by_cases e : k = x.2.1
    · have v1 : am_I (am_sI (am_sI h 2 x.2.1 (sbt b)) 1 1 (nI (x.2.1 + 1))) 2 k = sbt b := by rw [pc_I_I, if_neg (by omega), pc_I_I, if_pos ⟨rfl, e⟩]
      rw [show (xb b x).1 k = b from if_neg (by omega)]
      exact ⟨hb, v1⟩
    · have v1 : am_I (am_sI (am_sI h 2 x.2.1 (sbt b)) 1 1 (nI (x.2.1 + 1))) 2 k = am_I h 2 k := by rw [pc_I_I, if_neg (by omega), pc_I_I, if_neg (by omega)]
      rw [show (xb b x).1 k = x.1 k from if_pos (by omega), v1]
      exact c3 k (by omega)
  · rw [e1 2 (by omega)]; exact c4
  · rw [e1 7 (by omega)]; exact c6
  · rw [e2 40 (by omega) (by omega)]; exact c7
  · rw [e2 77 (by omega) (by omega)]; exact c8
theorem RX_b {h : am_H} {f : Nat} {x : XT} {b : Nat} (hb : b < 256) (ht : x.2.1 < 400) (C : RX h f x) : RX (am_sI (am_sI h (f + 2) x.2.1 (nI b)) f 2 (nI (x.2.1 + 1))) f (xb b x) := by
  obtain ⟨c1, c2, c3, c4, c5, c6, c7, c8⟩ := C
  have e1 : ∀ j, j ≠ 2 → am_I (am_sI (am_sI h (f + 2) x.2.1 (nI b)) f 2 (nI (x.2.1 + 1))) f j = am_I h f j := fun j hj => by
    rw [pc_I_I, if_neg (by omega), pc_I_I, if_neg (by omega)]
  have e2 : ∀ c, c ≠ f → c ≠ f + 2 → am_I (am_sI (am_sI h (f + 2) x.2.1 (nI b)) f 2 (nI (x.2.1 + 1))) c = am_I h c := fun c h1 h2 => by
    funext j
    rw [pc_I_I, if_neg (by omega), pc_I_I, if_neg (by omega)]
  refine ⟨ht, ?_, ?_, ?_, c5, ?_, ?_, ?_⟩
  · rw [pc_I_I, if_pos ⟨rfl, rfl⟩]; rfl
  · intro k hk
    have hk2 : k < x.2.1 + 1 := hk
    by_cases e : k = x.2.1
    · have v1 : am_I (am_sI (am_sI h (f + 2) x.2.1 (nI b)) f 2 (nI (x.2.1 + 1))) (f + 2) k = nI b := by rw [pc_I_I, if_neg (by omega), pc_I_I, if_pos ⟨rfl, e⟩]
      rw [show (xb b x).1 k = b from if_neg (by omega)]
      exact ⟨hb, v1⟩
    · have v1 : am_I (am_sI (am_sI h (f + 2) x.2.1 (nI b)) f 2 (nI (x.2.1 + 1))) (f + 2) k = am_I h (f + 2) k := by rw [pc_I_I, if_neg (by omega), pc_I_I, if_neg (by omega)]
      rw [show (xb b x).1 k = x.1 k from if_pos (by omega), v1]
      exact c3 k (by omega)
  · rw [e1 5 (by omega)]; exact c4
  · rw [e1 13 (by omega)]; exact c6
  · rw [e2 (f + 5) (by omega) (by omega)]; exact c7
  · rw [e2 (f + 1) (by omega) (by omega)]; exact c8
