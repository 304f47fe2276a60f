/-! ===== the reference reads: bytes, letters, words ===== -/
def TpR (h : am_H) (f : Nat) (T : Nat → Nat) (n : Nat) : Prop := n ≤ 400 ∧ (∀ k, k < n → T k < 256 ∧ am_I h (f + 2) k = nI (T k)) ∧ am_I h f 3 = nI n
def btz (T : Nat → Nat) (n k : Nat) : Int32 := if k < n then nI (T k) else -1
def fat (f : Nat) (h h' : am_H) : Prop := am_S h' = am_S h ∧ am_G h' = am_G h ∧ am_T h' = am_T h ∧ am_P h' = am_P h ∧ am_L h' = am_L h ∧ (∀ b, b ≠ f → am_I h' b = am_I h b) ∧ (∀ j, j ≠ 4 → am_I h' f j = am_I h f j)
theorem fat_r (f : Nat) (h : am_H) : fat f h h := ⟨rfl, rfl, rfl, rfl, rfl, fun _ _ => rfl, fun _ _ => rfl⟩
theorem fat_t {f : Nat} {a b c : am_H} (h1 : fat f a b) (h2 : fat f b c) : fat f a c := ⟨h2.1.trans h1.1, h2.2.1.trans h1.2.1, h2.2.2.1.trans h1.2.2.1, h2.2.2.2.1.trans h1.2.2.2.1, h2.2.2.2.2.1.trans h1.2.2.2.2.1, fun b p => (h2.2.2.2.2.2.1 b p).trans (h1.2.2.2.2.2.1 b p), fun j p => (h2.2.2.2.2.2.2 j p).trans (h1.2.2.2.2.2.2 j p)⟩
theorem fat_s (f : Nat) (h : am_H) (v : Int32) : fat f h (am_sI h f 4 v) := ⟨rfl, rfl, rfl, rfl, rfl, fun b p => by
  funext i
  rw [pc_I_I, if_neg (by omega)], fun j p => by rw [pc_I_I, if_neg (by omega)]⟩
theorem fat_at {f : Nat} {h h' : am_H} (q : fat f h h') (H : RfAt h f) : RfAt h' f := RfAt_of H q.1 (fun _ _ _ => by rw [q.2.2.2.1])
theorem fat_tp {f : Nat} {h h' : am_H} {T : Nat → Nat} {n : Nat} (q : fat f h h') (H : TpR h f T n) : TpR h' f T n := by
  unfold TpR at *
  rw [q.2.2.2.2.2.1 (f + 2) (by omega), q.2.2.2.2.2.2 3 (by omega)]
  exact H
theorem Rf_byteAt {h : am_H} {f k : Nat} {T : Nat → Nat} {n : Nat} (H : RfAt h f) (Tp : TpR h f T n) (hk : k < 2147483648) (d : Nat) : f_Rf_byteAt d h f (nI k) = some (.inr (some (.int (btz T n k))), h) := by
  obtain ⟨n4, tp, e3⟩ := Tp
  rw [e_Rf_byteAt, lz_i (Rf_k H) e3]
  unfold btz
  by_cases c : k < n
  · rw [if_pos (by rw [n_lt _ _ hk (by omega)]; exact c), lz_p (Rf_k H) (Rf_p8 H), Rf_r2 H (by omega), (tp k c).2, if_pos c]
  · rw [if_neg (by rw [n_lt _ _ hk (by omega)]; exact c), if_neg c]
theorem bt_e {T : Nat → Nat} {n k c : Nat} (ht : k < n → T k < 256) (hc : c < 256) : (btz T n k = nI c) = (k < n ∧ T k = c) := by
  apply propext
  unfold btz
  by_cases q : k < n
  · have := ht q
    rw [if_pos q, nI_e32 (by omega) (by omega)]
    exact ⟨fun e => ⟨q, e⟩, fun e => e.2⟩
  · rw [if_neg q, lit_m1, nI_e32 (by omega) (by omega)]
    exact ⟨fun e => by omega, fun e => absurd e.1 q⟩
theorem bt_1 {T : Nat → Nat} {n k : Nat} (ht : k < n → T k < 256) : (btz T n k = -1) = (n ≤ k) := by
  apply propext
  unfold btz
  by_cases q : k < n
  · have := ht q
    rw [if_pos q, lit_m1, nI_e32 (by omega) (by omega)]
    exact ⟨fun e => by omega, fun e => by omega⟩
  · rw [if_neg q]
    exact ⟨fun _ => by omega, fun _ => rfl⟩
theorem Rf_here0 {h : am_H} {f a : Nat} {T : Nat → Nat} {n : Nat} (H : RfAt h f) (Tp : TpR h f T n) (ha : a ≤ n) (d : Nat) : ∀ b, b ≤ sk T n a → a ≤ b → ∀ g : am_H, fat f h g → am_I g f 4 = nI b → ∃ h', f_Rf_here_0 (d + 1) g f = some (.inr (some (.int (btz T n (sk T n a)))), h') ∧ fat f h h' ∧ am_I h' f 4 = nI (sk T n a) := by
  have sl := sk_le (T := T) ha
  have n4 := Tp.1
  refine dn ?_ ?_
  · intro _ g q e4
    have Hg := fat_at q H
    have Tg := fat_tp q Tp
    refine ⟨g, ?_, q, e4⟩
    rw [e_Rf_here_0, lz_i (Rf_k Hg) e4, lz_k (Rf_k Hg), lz_ci (Rf_byteAt Hg Tg (by omega) d), if_neg, lz_i (Rf_k Hg) e4, lz_k (Rf_k Hg), lz_ci (Rf_byteAt Hg Tg (by omega) d)]
    rw [show (32 : Int32) = nI 32 from rfl, bt_e (fun c => (Tp.2.1 _ c).1) (by omega)]
    exact (sk_l T n a).1
  · intro b hb ih h2 g q e4
    have Hg := fat_at q H
    have Tg := fat_tp q Tp
    obtain ⟨z, ez, qz⟩ := ih (by omega) (am_sI g f 4 (nI (b + 1))) (fat_t q (fat_s f g _)) (by rw [pc_I_I, if_pos ⟨rfl, rfl⟩])
    refine ⟨z, ?_, qz⟩
    rw [← ez, e_Rf_here_0, lz_i (Rf_k Hg) e4, lz_k (Rf_k Hg), lz_ci (Rf_byteAt Hg Tg (by omega) d), if_pos, lz_i (Rf_k Hg) e4, lz_k (Rf_k Hg), nI_1]
    rw [show (32 : Int32) = nI 32 from rfl, bt_e (fun c => (Tp.2.1 _ c).1) (by omega)]
    exact sk_in h2 hb
theorem Rf_here {h : am_H} {f a : Nat} {T : Nat → Nat} {n : Nat} (H : RfAt h f) (Tp : TpR h f T n) (ha : a ≤ n) (e4 : am_I h f 4 = nI a) (d : Nat) : ∃ h', f_Rf_here (d + 1) h f = some (.inr (some (.int (btz T n (sk T n a)))), h') ∧ fat f h h' ∧ am_I h' f 4 = nI (sk T n a) := by
  have := Rf_here0 H Tp ha d a (sk_ge T n a) (Nat.le_refl _) h (fat_r f h) e4
  rw [e_Rf_here_0] at this
  rw [e_Rf_here]
  exact this
theorem Rf_small {T : Nat → Nat} {n k : Nat} (ht : k < n → T k < 256) (h : am_H) (d : Nat) : f_Rf_isSmall d h (btz T n k) = some (.inr (some (.int (bo (pd (k < n ∧ sml (T k)))))), h) := by
  rw [e_Rf_isSmall]
  unfold btz
  by_cases c : k < n
  · have t := ht c
    rw [if_pos c, show (97 : Int32) = nI 97 from rfl, show (122 : Int32) = nI 122 from rfl]
    by_cases s : sml (T k)
    · rw [pd_t ⟨c, s⟩]
      unfold sml at s
      rw [if_neg (by rw [n_lt _ _ (by omega) (by omega)]; omega), if_neg (by rw [n_lt _ _ (by omega) (by omega)]; omega), o1_1]
      rfl
    · rw [pd_f (fun e => s e.2)]
      unfold sml at s
      by_cases s2 : T k < 97
      · rw [if_pos (by rw [n_lt _ _ (by omega) (by omega)]; exact s2), o1_0]
        rfl
      · rw [if_neg (by rw [n_lt _ _ (by omega) (by omega)]; exact s2), if_pos (by rw [n_lt _ _ (by omega) (by omega)]; omega), o1_0]
        rfl
  · rw [if_neg c, pd_f (fun e => c e.1), if_pos (by decide), o1_0]
    rfl
theorem Rf_letters {h : am_H} {f a : Nat} {T : Nat → Nat} {n : Nat} (H : RfAt h f) (Tp : TpR h f T n) (ha : a ≤ n) (e4 : am_I h f 4 = nI a) (d : Nat) : ∃ h', f_Rf_letters (d + 2) h f = some (.inr (some (.int (nI (lw T n (sk T n a))))), h') ∧ fat f h h' ∧ am_I h' f 4 = nI (sk T n a) := by
  have n4 := Tp.1
  have sl := sk_le (T := T) ha
  have ln := lw_n (T := T) sl
  obtain ⟨g, eg, qg, g4⟩ := Rf_here H Tp ha e4 d
  have Hg := fat_at qg H
  have Tg := fat_tp qg Tp
  have key : ∀ i, i ≤ lw T n (sk T n a) → f_Rf_letters_7 (d + 2) g f (nI i) = some (.inr (some (.int (nI (lw T n (sk T n a))))), g) := by
    refine dn ?_ ?_
    · rw [e_Rf_letters_7, lz_i (Rf_k Hg) g4, lz_k (Rf_k Hg), nI_add, lz_ci (Rf_byteAt Hg Tg (by omega) (d + 1)), lz_ci (Rf_small (fun c => (Tp.2.1 _ c).1) g (d + 1)), pd_f (lw_l T n (sk T n a)).1, bo_f, if_pos rfl]
    · intro i hi ih
      rw [e_Rf_letters_7, lz_i (Rf_k Hg) g4, lz_k (Rf_k Hg), nI_add, lz_ci (Rf_byteAt Hg Tg (by omega) (d + 1)), lz_ci (Rf_small (fun c => (Tp.2.1 _ c).1) g (d + 1)), pd_t ((lw_l T n (sk T n a)).2 i hi), bo_t, if_neg (by decide), nI_1]
      exact ih
  refine ⟨g, ?_, qg, g4⟩
  rw [e_Rf_letters, lz_k (Rf_k H), lz_ci eg]
  exact key 0 (Nat.zero_le _)
theorem Rf_isW {h : am_H} {f a L r : Nat} {T : Nat → Nat} {n : Nat} (H : RfAt h f) (Tp : TpR h f T n) (ha : a ≤ n) (e4 : am_I h f 4 = nI a) (cw : Nat → Nat) (hL : L ≤ 7) (hc : ∀ j, cw j ≤ 26) (htl : ∀ K, am_tl r K = K (nI L)) (htc : ∀ j, j < L → ∀ K, am_tc r (nI j) K = K (nI (cw j + 96))) (d : Nat) : ∃ h', f_Rf_isWord (d + 3) h f r = some (.inr (some (.int (bo (pd (lw T n (sk T n a) = L ∧ ∀ j, j < L → T (sk T n a + j) = cw j + 96))))), h') ∧ fat f h h' ∧ am_I h' f 4 = nI (sk T n a) := by
  have n4 := Tp.1
  have sl := sk_le (T := T) ha
  have ln := lw_n (T := T) sl
  obtain ⟨g, eg, qg, g4⟩ := Rf_letters H Tp ha e4 d
  have Hg := fat_at qg H
  have Tg := fat_tp qg Tp
  obtain ⟨p, ep⟩ : ∃ p, p = sk T n a := ⟨_, rfl⟩
  rw [← ep] at sl ln eg g4 ⊢
  have key : ∀ i, i ≤ L → f_Rf_isWord_19 (d + 3) g f r (bo (pd (lw T n p = L ∧ ∀ j, j < i → T (p + j) = cw j + 96))) (nI i) = some (.inr (some (.int (bo (pd (lw T n p = L ∧ ∀ j, j < L → T (p + j) = cw j + 96))))), g) := by
    refine dn ?_ ?_
    · rw [e_Rf_isWord_19, htl, if_pos (Int32.le_refl _), o1_b]
    · intro i hi ih
      rw [e_Rf_isWord_19, htl, if_neg (by rw [n_le _ _ (by omega) (by omega)]; omega)]
      by_cases c : lw T n p = L ∧ ∀ j, j < i → T (p + j) = cw j + 96
      · have ci := hc i
        have pn := ((lw_l T n p).2 i (by omega)).1
        have t := (Tp.2.1 _ pn).1
        rw [pd_t c, bo_t, if_neg (by decide), lz_i (Rf_k Hg) g4, lz_k (Rf_k Hg), nI_add, lz_ci (Rf_byteAt Hg Tg (by omega) (d + 2)), htc i hi, nI_1]
        by_cases e : T (p + i) = cw i + 96
        · have y : lw T n p = L ∧ ∀ j, j < i + 1 → T (p + j) = cw j + 96 := ⟨c.1, fun j hj => by
            by_cases q : j = i
            · rw [q]; exact e
            · exact c.2 j (by omega)⟩
          rw [pd_t y, bo_t] at ih
          rw [if_pos (by rw [bt_e (fun c => (Tp.2.1 _ c).1) (by omega)]; exact ⟨pn, e⟩)]
          exact ih
        · have y : ¬ (lw T n p = L ∧ ∀ j, j < i + 1 → T (p + j) = cw j + 96) := fun q => e (q.2 i (by omega))
          rw [pd_f y, bo_f] at ih
          rw [if_neg (by rw [bt_e (fun c => (Tp.2.1 _ c).1) (by omega)]; exact fun q => e q.2)]
          exact ih
      · have no : ¬ (lw T n p = L ∧ ∀ j, j < L → T (p + j) = cw j + 96) := fun q => c ⟨q.1, fun j hj => q.2 j (by omega)⟩
        rw [pd_f c, pd_f no, bo_f, if_pos rfl, o1_0]
  refine ⟨g, ?_, qg, g4⟩
  have k0 := key 0 (Nat.zero_le _)
  rw [e_Rf_isWord, lz_k (Rf_k H), lz_ci eg, htl]
  by_cases c : lw T n p = L
  · rw [pd_t (show lw T n p = L ∧ ∀ j, j < 0 → T (p + j) = cw j + 96 from ⟨c, fun j hj => absurd hj (Nat.not_lt_zero j)⟩), bo_t] at k0
    rw [if_pos (by rw [c])]
    exact k0
  · rw [pd_f (show ¬ (lw T n p = L ∧ ∀ j, j < 0 → T (p + j) = cw j + 96) from fun q => c q.1), bo_f] at k0
    rw [if_neg (by rw [nI_e32 (by omega) (by omega)]; exact c)]
    exact k0
theorem w_topi {T : Nat → Nat} {n p : Nat} : (lw T n p = 3 ∧ ∀ j, j < 3 → T (p + j) = c_top j + 96) ↔ w_top T n p (lw T n p) := (own_e (m := 3) (K := 7630704) (by omega) c_top c_top26 (by decide) (by omega) 7630704 (by decide)).symm.trans own_top
theorem w_noti {T : Nat → Nat} {n p : Nat} : (lw T n p = 7 ∧ ∀ j, j < 7 → T (p + j) = c_not j + 96) ↔ w_not T n p (lw T n p) := (own_e (m := 7) (K := 31084793196801639) (by omega) c_not c_not26 (by decide) (by omega) 31084793196801639 (by decide)).symm.trans own_not
theorem w_somi {T : Nat → Nat} {n p : Nat} : (lw T n p = 4 ∧ ∀ j, j < 4 → T (p + j) = c_som j + 96) ↔ w_som T n p (lw T n p) := (own_e (m := 4) (K := 1936682341) (by omega) c_som c_som26 (by decide) (by omega) 1936682341 (by decide)).symm.trans own_som
theorem Rf_isTop {h : am_H} {f a : Nat} {T : Nat → Nat} {n : Nat} (H : RfAt h f) (Tp : TpR h f T n) (ha : a ≤ n) (e4 : am_I h f 4 = nI a) (d : Nat) : ∃ h', f_Rf_isWord (d + 3) h f 1000000 = some (.inr (some (.int (bo (pd (tk T n (sk T n a) = 2))))), h') ∧ fat f h h' ∧ am_I h' f 4 = nI (sk T n a) := by
  obtain ⟨g, eg, qg⟩ := Rf_isW (L := 3) (r := 1000000) H Tp ha e4 c_top (by omega) c_top26 (fun _ => rfl) (fun j hj K => by
    rcases (show j = 0 ∨ j = 1 ∨ j = 2 by omega) with rfl | rfl | rfl
    · rfl
    · rfl
    · rfl) d
  refine ⟨g, ?_, qg⟩
  rw [eg]
  congr 6
  refine pd_c (w_topi.trans ?_)
  constructor
  · intro c
    have h2 : 0 < lw T n (sk T n a) := by have := c.1; omega
    exact (tk_w ((lw_l T n (sk T n a)).2 0 h2).1 h2).2.2.1.mpr c
  · intro c
    obtain ⟨h1, h2⟩ := tk_14 (T := T) (n := n) (p := sk T n a) (by omega) (by omega)
    exact (tk_w h1 h2).2.2.1.mp c
theorem Rf_isNot {h : am_H} {f a : Nat} {T : Nat → Nat} {n : Nat} (H : RfAt h f) (Tp : TpR h f T n) (ha : a ≤ n) (e4 : am_I h f 4 = nI a) (d : Nat) : ∃ h', f_Rf_isWord (d + 3) h f 1000001 = some (.inr (some (.int (bo (pd (tk T n (sk T n a) = 3))))), h') ∧ fat f h h' ∧ am_I h' f 4 = nI (sk T n a) := by
  obtain ⟨g, eg, qg⟩ := Rf_isW (L := 7) (r := 1000001) H Tp ha e4 c_not (by omega) c_not26 (fun _ => rfl) (fun j hj K => by
    rcases (show j = 0 ∨ j = 1 ∨ j = 2 ∨ j = 3 ∨ j = 4 ∨ j = 5 ∨ j = 6 by omega) with rfl | rfl | rfl | rfl | rfl | rfl | rfl
    · rfl
    · rfl
    · rfl
    · rfl
    · rfl
    · rfl
    · rfl) d
  refine ⟨g, ?_, qg⟩
  rw [eg]
  congr 6
  refine pd_c (w_noti.trans ?_)
  constructor
  · intro c
    have h2 : 0 < lw T n (sk T n a) := by have := c.1; omega
    exact (tk_w ((lw_l T n (sk T n a)).2 0 h2).1 h2).2.2.2.1.mpr c
  · intro c
    obtain ⟨h1, h2⟩ := tk_14 (T := T) (n := n) (p := sk T n a) (by omega) (by omega)
    exact (tk_w h1 h2).2.2.2.1.mp c
theorem Rf_isSom {h : am_H} {f a : Nat} {T : Nat → Nat} {n : Nat} (H : RfAt h f) (Tp : TpR h f T n) (ha : a ≤ n) (e4 : am_I h f 4 = nI a) (d : Nat) : ∃ h', f_Rf_isWord (d + 3) h f 1000002 = some (.inr (some (.int (bo (pd (tk T n (sk T n a) = 4))))), h') ∧ fat f h h' ∧ am_I h' f 4 = nI (sk T n a) := by
  obtain ⟨g, eg, qg⟩ := Rf_isW (L := 4) (r := 1000002) H Tp ha e4 c_som (by omega) c_som26 (fun _ => rfl) (fun j hj K => by
    rcases (show j = 0 ∨ j = 1 ∨ j = 2 ∨ j = 3 by omega) with rfl | rfl | rfl | rfl
    · rfl
    · rfl
    · rfl
    · rfl) d
  refine ⟨g, ?_, qg⟩
  rw [eg]
  congr 6
  refine pd_c (w_somi.trans ?_)
  constructor
  · intro c
    have h2 : 0 < lw T n (sk T n a) := by have := c.1; omega
    exact (tk_w ((lw_l T n (sk T n a)).2 0 h2).1 h2).2.2.2.2.mpr c
  · intro c
    obtain ⟨h1, h2⟩ := tk_14 (T := T) (n := n) (p := sk T n a) (by omega) (by omega)
    exact (tk_w h1 h2).2.2.2.2.mp c
theorem Rf_isOwn {h : am_H} {f a : Nat} {T : Nat → Nat} {n : Nat} (H : RfAt h f) (Tp : TpR h f T n) (ha : a ≤ n) (e4 : am_I h f 4 = nI a) (d : Nat) : ∃ h', f_Rf_isOwn (d + 4) h f = some (.inr (some (.int (bo (pd (tk T n (sk T n a) = 2 ∨ tk T n (sk T n a) = 3 ∨ tk T n (sk T n a) = 4))))), h') ∧ fat f h h' ∧ am_I h' f 4 = nI (sk T n a) := by
  have sl := sk_le (T := T) ha
  obtain ⟨g, eg, qg, g4⟩ := Rf_isTop H Tp ha e4 d
  have Hg := fat_at qg H
  rw [e_Rf_isOwn, lz_k (Rf_k H), lz_ci eg]
  by_cases c2 : tk T n (sk T n a) = 2
  · refine ⟨g, ?_, qg, g4⟩
    rw [pd_t c2, pd_t (Or.inl c2), bo_t, if_neg (by decide), o1_1]
  · obtain ⟨u, eu, qu, u4⟩ := Rf_isNot Hg (fat_tp qg Tp) sl g4 d
    have Hu := fat_at qu Hg
    rw [sk_k] at eu u4
    rw [pd_f c2, bo_f, if_pos rfl, lz_k (Rf_k Hg), lz_ci eu]
    by_cases c3 : tk T n (sk T n a) = 3
    · refine ⟨u, ?_, fat_t qg qu, u4⟩
      rw [pd_t c3, pd_t (Or.inr (Or.inl c3)), bo_t, if_neg (by decide), o1_1]
    · obtain ⟨v, ev, qv, v4⟩ := Rf_isSom Hu (fat_tp qu (fat_tp qg Tp)) sl u4 d
      rw [sk_k] at ev v4
      rw [pd_f c3, bo_f, if_pos rfl, lz_k (Rf_k Hu), lz_ci ev]
      refine ⟨v, ?_, fat_t qg (fat_t qu qv), v4⟩
      by_cases c4 : tk T n (sk T n a) = 4
      · rw [pd_t c4, pd_t (Or.inr (Or.inr c4)), bo_t, if_neg (by decide), o1_1]
      · rw [pd_f c4, pd_f (fun e => e.elim c2 (fun e => e.elim c3 c4)), bo_f, if_pos rfl, o1_0]
