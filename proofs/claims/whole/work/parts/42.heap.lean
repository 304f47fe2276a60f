/-! ===== the calculus of heaps: what is written and what stays ===== -/
def am_op (o : Option Nat) (k : Nat → Option am_R) : Option am_R := match o with
  | some p => k p
  | none => none
theorem hop_s (p : Nat) (k : Nat → Option am_R) : am_op (some p) k = k p := rfl
theorem hc_ck (h : am_H) (o c : Nat) (k : Option am_R) : am_ck h o c k = bif am_kd h o c then k else none := rfl
theorem hc_gi (h : am_H) (o c b : Nat) (k : Int32 → Option am_R) : am_gi h o c b k = bif am_kd h o c then k (am_I h o b) else none := rfl
theorem hc_gl (h : am_H) (o c b : Nat) (k : Int64 → Option am_R) : am_gl h o c b k = bif am_kd h o c then k (am_L h o b) else none := rfl
theorem hc_gp (h : am_H) (o c b : Nat) (k : Nat → Option am_R) : am_gp h o c b k = bif am_kd h o c then am_op (am_P h o b) k else none := rfl
theorem hc_ap (h : am_H) (c a : Nat) (i : Int32) (k : Nat → Option am_R) : am_ap h c a i k = am_ar h c a i (fun j => am_op (am_P h a j) k) := rfl
theorem kd_I (h : am_H) (a i : Nat) (v : Int32) (o c : Nat) : am_kd (am_sI h a i v) o c = am_kd h o c := rfl
theorem kd_L (h : am_H) (a i : Nat) (v : Int64) (o c : Nat) : am_kd (am_sL h a i v) o c = am_kd h o c := rfl
theorem kd_P (h : am_H) (a i : Nat) (v : Option Nat) (o c : Nat) : am_kd (am_sP h a i v) o c = am_kd h o c := rfl
theorem kd_rI (h : am_H) (a : Nat) (g : Nat → Int32) (o c : Nat) : am_kd (am_rI h a g) o c = am_kd h o c := rfl
theorem ar_I (h : am_H) (a i : Nat) (v : Int32) (c b : Nat) (j : Int32) (k : Nat → Option am_R) : am_ar (am_sI h a i v) c b j k = am_ar h c b j k := rfl
theorem ar_L (h : am_H) (a i : Nat) (v : Int64) (c b : Nat) (j : Int32) (k : Nat → Option am_R) : am_ar (am_sL h a i v) c b j k = am_ar h c b j k := rfl
theorem ar_P (h : am_H) (a i : Nat) (v : Option Nat) (c b : Nat) (j : Int32) (k : Nat → Option am_R) : am_ar (am_sP h a i v) c b j k = am_ar h c b j k := rfl
theorem al_I (h : am_H) (a i : Nat) (v : Int32) (b : Nat) (k : Int32 → Option am_R) : am_al (am_sI h a i v) b k = am_al h b k := rfl
theorem al_L (h : am_H) (a i : Nat) (v : Int64) (b : Nat) (k : Int32 → Option am_R) : am_al (am_sL h a i v) b k = am_al h b k := rfl
theorem al_P (h : am_H) (a i : Nat) (v : Option Nat) (b : Nat) (k : Int32 → Option am_R) : am_al (am_sP h a i v) b k = am_al h b k := rfl
theorem I_rI (h : am_H) (a : Nat) (g : Nat → Int32) (b j : Nat) : am_I (am_rI h a g) b j = if b = a then g j else am_I h b j := rfl
theorem L_rI (h : am_H) (a : Nat) (g : Nat → Int32) : am_L (am_rI h a g) = am_L h := rfl
theorem P_rI (h : am_H) (a : Nat) (g : Nat → Int32) : am_P (am_rI h a g) = am_P h := rfl
theorem S_rI (h : am_H) (a : Nat) (g : Nat → Int32) : am_S (am_rI h a g) = am_S h := rfl
theorem ar_n {h : am_H} {a c n k : Nat} (hs : (am_S h)[a]? = some (c, n)) (hk : k < n) (hn : n < 2147483648) (f : Nat → Option am_R) : am_ar h c a (nI k) f = f k := by
  have h0 : ¬ nI k < 0 := nI_pos (Nat.lt_trans hk hn)
  have e : (nI k).toNatClampNeg = k := nI_clamp (Nat.lt_trans hk hn)
  rw [pc_ar hs h0 (by rw [e]; exact hk), e]
theorem al_n {h : am_H} {a c n : Nat} (hs : (am_S h)[a]? = some (c, n)) (hc : 9 ≤ c) (f : Int32 → Option am_R) : am_al h a f = f (nI n) := pc_al hs hc f
theorem o1_b (b : Bool) (k : Option am_R) : am_01 (bo b) k = k := by cases b <;> rfl
theorem o1_0 (k : Option am_R) : am_01 0 k = k := rfl
theorem o1_1 (k : Option am_R) : am_01 1 k = k := rfl
theorem cv_r (h : am_H) (k : am_H → Option am_R) : am_cv (some (.inr none, h)) k = k h := rfl
theorem ci_r (x : Int32) (h : am_H) (k : Int32 → am_H → Option am_R) : am_ci (some (.inr (some (.int x)), h)) k = k x h := rfl
theorem cl_r (x : Int64) (h : am_H) (k : Int64 → am_H → Option am_R) : am_cl (some (.inr (some (.long x)), h)) k = k x h := rfl
theorem cv_e (E : Nat) (h : am_H) (k : am_H → Option am_R) : am_cv (some (.inl E, h)) k = some (.inl E, h) := rfl
theorem ci_e (E : Nat) (h : am_H) (k : Int32 → am_H → Option am_R) : am_ci (some (.inl E, h)) k = some (.inl E, h) := rfl
theorem cl_e (E : Nat) (h : am_H) (k : Int64 → am_H → Option am_R) : am_cl (some (.inl E, h)) k = some (.inl E, h) := rfl
/-- ints as numbers -/
theorem n_0 : (0 : Int32) = nI 0 := rfl
theorem n_1 : (1 : Int32) = nI 1 := rfl
theorem n_2 : (2 : Int32) = nI 2 := rfl
theorem n_3 : (3 : Int32) = nI 3 := rfl
theorem n_4 : (4 : Int32) = nI 4 := rfl
theorem n_5 : (5 : Int32) = nI 5 := rfl
theorem n_8 : (8 : Int32) = nI 8 := rfl
theorem n_m8 (a : Nat) : nI a * 8 = nI (a * 8) := pk_mul a 8
theorem n_m60 (a : Nat) : nI a * 60 = nI (a * 60) := pk_mul a 60
theorem n_3m (a : Nat) : 3 * nI a = nI (3 * a) := pk_mul 3 a
theorem n_4m (a : Nat) : 4 * nI a = nI (4 * a) := pk_mul 4 a
theorem n_le (a b : Nat) (ha : a < 2147483648) (hb : b < 2147483648) : (nI a ≤ nI b) = (a ≤ b) := propext (nI_leI ha hb)
theorem n_lt (a b : Nat) (ha : a < 2147483648) (hb : b < 2147483648) : (nI a < nI b) = (a < b) := propext (nI_ltI ha hb)
theorem n_eq (a b : Nat) (ha : a < 4294967296) (hb : b < 4294967296) : (nI a = nI b) = (a = b) := propext (nI_e32 ha hb)
/-- a loop that counts up -/
theorem dn {n : Nat} {P : Nat → Prop} (h0 : P n) (hs : ∀ k, k < n → P (k + 1) → P k) : ∀ k, k ≤ n → P k := by
  intro k hk
  have q : ∀ m k, k + m = n → P k := by
    intro m
    induction m with
    | zero => intro k e; exact (show k = n by omega) ▸ h0
    | succ m ih => intro k e; exact hs k (by omega) (ih (k + 1) (by omega))
  exact q (n - k) k (by omega)
/-- outside of W nothing changes -/
def fm (W : Nat → Prop) (h h' : am_H) : Prop := am_S h' = am_S h ∧ am_G h' = am_G h ∧ am_T h' = am_T h ∧ ∀ b, ¬ W b → am_I h' b = am_I h b ∧ am_L h' b = am_L h b ∧ am_P h' b = am_P h b
theorem fm_r (W : Nat → Prop) (h : am_H) : fm W h h := ⟨rfl, rfl, rfl, fun _ _ => ⟨rfl, rfl, rfl⟩⟩
theorem fm_t {W : Nat → Prop} {a b c : am_H} (h1 : fm W a b) (h2 : fm W b c) : fm W a c := by
  obtain ⟨s1, g1, t1, k1⟩ := h1
  obtain ⟨s2, g2, t2, k2⟩ := h2
  refine ⟨s2.trans s1, g2.trans g1, t2.trans t1, fun b hb => ?_⟩
  obtain ⟨x1, x2, x3⟩ := k1 b hb
  obtain ⟨y1, y2, y3⟩ := k2 b hb
  exact ⟨y1.trans x1, y2.trans x2, y3.trans x3⟩
theorem fm_m {W V : Nat → Prop} {a b : am_H} (h1 : fm W a b) (h : ∀ b, W b → V b) : fm V a b := ⟨h1.1, h1.2.1, h1.2.2.1, fun b hb => h1.2.2.2 b (fun q => hb (h b q))⟩
theorem fm_I {W : Nat → Prop} {h0 h : am_H} (q : fm W h0 h) {a : Nat} (ha : W a) (i : Nat) (v : Int32) : fm W h0 (am_sI h a i v) := by
  refine fm_t q ⟨rfl, rfl, rfl, fun b hb => ⟨?_, rfl, rfl⟩⟩
  funext j
  rw [pc_I_I, if_neg]
  rintro ⟨rfl, -⟩
  exact hb ha
theorem fm_L {W : Nat → Prop} {h0 h : am_H} (q : fm W h0 h) {a : Nat} (ha : W a) (i : Nat) (v : Int64) : fm W h0 (am_sL h a i v) := by
  refine fm_t q ⟨rfl, rfl, rfl, fun b hb => ⟨rfl, ?_, rfl⟩⟩
  funext j
  rw [pc_L_L, if_neg]
  rintro ⟨rfl, -⟩
  exact hb ha
theorem fm_P {W : Nat → Prop} {h0 h : am_H} (q : fm W h0 h) {a : Nat} (ha : W a) (i : Nat) (v : Option Nat) : fm W h0 (am_sP h a i v) := by
  refine fm_t q ⟨rfl, rfl, rfl, fun b hb => ⟨rfl, rfl, ?_⟩⟩
  funext j
  rw [pc_P_P, if_neg]
  rintro ⟨rfl, -⟩
  exact hb ha
theorem fm_rI {W : Nat → Prop} {h0 h : am_H} (q : fm W h0 h) {a : Nat} (ha : W a) (g : Nat → Int32) : fm W h0 (am_rI h a g) := by
  refine fm_t q ⟨rfl, rfl, rfl, fun b hb => ⟨?_, rfl, rfl⟩⟩
  funext j
  rw [I_rI, if_neg]
  rintro rfl
  exact hb ha
