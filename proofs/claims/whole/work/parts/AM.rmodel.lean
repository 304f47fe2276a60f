/-! ===== the reference: model ===== -/
def fMd (f : Nat) (h h' : am_H) : Prop := am_I h' = am_I h ∧ am_P h' = am_P h ∧ am_S h' = am_S h ∧ am_G h' = am_G h ∧ am_T h' = am_T h ∧ ∀ b, b ≠ f + 1534 → am_L h' b = am_L h b
theorem fMd_r (f : Nat) (h : am_H) : fMd f h h := ⟨rfl, rfl, rfl, rfl, rfl, fun _ _ => rfl⟩
theorem fMd_w {f : Nat} {h0 h : am_H} (q : fMd f h0 h) (j : Nat) (v : Int64) : fMd f h0 (am_sL h (f + 1534) j v) := ⟨q.1, q.2.1, q.2.2.1, q.2.2.2.1, q.2.2.2.2.1, fun b p => by
  rw [← q.2.2.2.2.2 b p]
  funext i
  rw [pc_L_L, if_neg (fun e => p e.1)]⟩
theorem fMd_W {f : Nat} {h h' : am_H} (q : fMd f h h') : fW f h h' := ⟨q.2.1, q.2.2.1, q.2.2.2.1, q.2.2.2.2.1, fun b p r => ⟨by rw [q.1], q.2.2.2.2.2 b (by omega)⟩, fun _ _ _ _ _ _ _ => by rw [q.1], fun _ _ => by rw [q.2.2.2.2.2 f (by omega)]⟩
theorem fMd_at {f : Nat} {h h' : am_H} (q : fMd f h h') (H : RfAt h f) : RfAt h' f := RfAt_of H q.2.2.1 (fun _ _ _ => by rw [q.2.1])
theorem RB_Md {f : Nat} {h h' : am_H} {O : o_T} {B : Nat → Prop} (q : fMd f h h') (C : RB h f O B) : RB h' f O B := by
  obtain ⟨c1, c2, c3, c4, c5, c6⟩ := C
  have hP2 := c2.2.1.2.2.2.1
  refine ⟨fMd_at q c1, Rw_of c2 q.2.2.1 (by rw [q.1]), by rw [q.2.2.2.2.2 f (by omega)]; exact c3, c4, ?_, ?_⟩
  · rw [q.1]
    refine c5.imp id (fun p => ⟨p.1, ?_⟩)
    obtain ⟨k, k1, k2, k3, k4, k5, k6⟩ := p.2
    refine ⟨k, k1, k2, by rw [q.1]; exact k3, fun r hr => by rw [q.1]; exact k4 r hr, fun x hx => ?_, fun x y hx hy => by rw [q.1]; exact k6 x y hx hy⟩
    rw [q.2.2.2.2.2 (f + 6) (by omega), q.2.2.2.2.2 (f + 9 + x) (by omega)]
    exact k5 x hx
  · rw [q.1]
    exact c6.imp id (fun p => ⟨p.1, RfN_i (by rw [q.1]) (fun b _ _ => by rw [q.1]) p.2⟩)
/-- a part that isn't some: nothing more is looked for -/
theorem Rf_242n {u : am_H} {f : Nat} {O : o_T} (H : RfAt u f) (R : RwR u (f + 3) O) {kd : Int32} (hk : ¬ kd = 4) (l : Int64) (p a b x i9 : Int32) (d : Nat) : f_Rf_model_242 (d + 1) u f l p kd a b x i9 0 = f_Rf_model_305 (d + 1) u f l p kd a b x i9 := by
  have h2 := R.2.1.2.2.1
  have hP := R.2.1.2.2.2.1
  rw [e_Rf_model_242, lz_p (Rf_k H) (Rf_p9 H), Rw_ar2 R, Rw_P R, if_neg (by rw [n_0, n_le _ _ (by omega) (by omega)]; omega), if_neg hk]
theorem Rf_242s {u : am_H} {f : Nat} {O : o_T} {B E : Nat → Prop} (H : RfAt u f) (R : RwR u (f + 3) O) (U : RfU u f O B) (S : RfS u f (o_P O) (l_A O B) (l_K O B)) {x a b : Nat} (hx : x < o_P O) (ha : a < 8) (hb : b < 480) (hE : am_L u (f + 1534) b = wL E) (l : Int64) (p : Int32) (d : Nat) : f_Rf_model_242 (d + 2) u f l p 4 (nI a) (nI b) (nI x) 0 0 = f_Rf_model_305 (d + 2) u f l p 4 (nI a) (nI b) (nI x) (bo (pd (∃ y, y < o_P O ∧ E y ∧ ∃ r, r < 8 ∧ o_un O B r a ∧ l_K O B x r y))) := by
  have h2 := R.2.1.2.2.1
  have hP := R.2.1.2.2.2.1
  have one : ∀ z, z ≤ o_P O → f_Rf_model_242 (d + 2) u f l p 4 (nI a) (nI b) (nI x) 1 (nI z) = f_Rf_model_305 (d + 2) u f l p 4 (nI a) (nI b) (nI x) 1 := fun z hz => by
    rw [e_Rf_model_242, lz_p (Rf_k H) (Rf_p9 H), Rw_ar2 R, Rw_P R]
    by_cases c : o_P O ≤ z
    · rw [if_pos (by rw [n_le _ _ (by omega) (by omega)]; exact c)]
    · rw [if_neg (by rw [n_le _ _ (by omega) (by omega)]; exact c), if_pos rfl, if_neg (by decide)]
  have key : ∀ z, z ≤ o_P O → (∀ y, y < z → ¬ (E y ∧ ∃ r, r < 8 ∧ o_un O B r a ∧ l_K O B x r y)) → f_Rf_model_242 (d + 2) u f l p 4 (nI a) (nI b) (nI x) 0 (nI z) = f_Rf_model_305 (d + 2) u f l p 4 (nI a) (nI b) (nI x) (bo (pd (∃ y, y < o_P O ∧ E y ∧ ∃ r, r < 8 ∧ o_un O B r a ∧ l_K O B x r y))) := by
    refine dn ?_ ?_
    · intro no
      rw [e_Rf_model_242, lz_p (Rf_k H) (Rf_p9 H), Rw_ar2 R, Rw_P R, if_pos (by rw [n_le _ _ (by omega) (by omega)]; omega), pd_f (fun ⟨y, h1, h2⟩ => no y h1 h2), bo_f]
    · intro z hz ih no
      rw [e_Rf_model_242, lz_p (Rf_k H) (Rf_p9 H), Rw_ar2 R, Rw_P R, if_neg (by rw [n_le _ _ (by omega) (by omega)]; omega), if_pos rfl, if_pos rfl, lz_p (Rf_k H) (Rf_p44 H), Rf_r1534 H hb, hE, lz_ci (Rf_has u (wL E) (k := z) (by omega) (d + 1)), xl_pd (by omega), nI_1]
      by_cases c1 : E z
      · rw [pd_t c1, bo_t, if_neg (by decide), lz_k (Rf_k H), lz_ci (Rf_goesBy H U S hP hx (by omega) (show z < 64 by omega) d)]
        by_cases c2 : ∃ r, r < 8 ∧ o_un O B r a ∧ l_K O B x r z
        · rw [pd_t c2, bo_t, if_neg (by decide), one _ (by omega), pd_t (show ∃ y, y < o_P O ∧ E y ∧ ∃ r, r < 8 ∧ o_un O B r a ∧ l_K O B x r y from ⟨z, hz, c1, c2⟩), bo_t]
        · rw [pd_f c2, bo_f, if_pos rfl]
          exact ih (no_s no (fun q => c2 q.2))
      · rw [pd_f c1, bo_f, if_pos rfl]
        exact ih (no_s no (fun q => c1 q.1))
  exact key 0 (Nat.zero_le _) (fun y hy => absurd hy (Nat.not_lt_zero y))
/-- what a part holds at, beside what it begins with -/
def mdG (O O' : o_T) (B : Nat → Prop) (p y : Nat) : Prop := (o_pk O' p = 0 ∧ l_A O B y p) ∨ (o_pk O' p = 4 ∧ ∃ z, z < o_P O ∧ e_E O O' B (o_pb O' p) z ∧ ∃ r, r < 8 ∧ o_un O B r (o_pa O' p) ∧ l_K O B y r z)
theorem Rf_189 {g : am_H} {f : Nat} {O : o_T} {D : DT} {B : Nat → Prop} (H : RfAt g f) (R : RwR g (f + 3) O) (U : RfU g f O B) (S : RfS g f (o_P O) (l_A O B) (l_K O B)) (okD : o_ok D.1) (eR : o_R D.1 = o_R O) {p : Nat} (hp : p < o_P D.1) (I0 : Nat → Prop) (d : Nat) : ∀ x, x ≤ o_P O → ∀ u, fMd f g u → (∀ q, q < p → am_L u (f + 1534) q = wL (e_E O D.1 B q)) → am_L u (f + 1534) p = wL (fun y => I0 y ∨ (y < x ∧ ¬ l_A O B y 1 ∧ mdG O D.1 B p y)) → ∃ u', f_Rf_model_189 (d + 2) u f (wL (fun y => y < o_P O ∧ ¬ l_A O B y 1)) (nI p) (nI (o_pk D.1 p)) (nI (o_pa D.1 p)) (nI (o_pb D.1 p)) (nI x) = f_Rf_model_100 (d + 2) u' f (wL (fun y => y < o_P O ∧ ¬ l_A O B y 1)) (nI (p + 1)) ∧ fMd f g u' ∧ (∀ q, q < p → am_L u' (f + 1534) q = wL (e_E O D.1 B q)) ∧ am_L u' (f + 1534) p = wL (fun y => I0 y ∨ (y < o_P O ∧ ¬ l_A O B y 1 ∧ mdG O D.1 B p y)) := by
  have hP := R.2.1.2.2.2.1
  have hR8 := R.2.1.2.1
  have hPD := okD.2.2.2.1
  have okp := okD.2.2.2.2.2.2.2.1 p hp
  refine dn ?_ ?_
  · intro u q hq hI
    have Hu := fMd_at q H
    have Ru : RwR u (f + 3) O := Rw_of R q.2.2.1 (by rw [q.1])
    refine ⟨u, ?_, q, hq, hI⟩
    rw [e_Rf_model_189, lz_p (Rf_k Hu) (Rf_p9 Hu), Rw_ar2 Ru, Rw_P Ru, if_pos (by rw [n_le _ _ (by omega) (by omega)]; omega), nI_1]
  · intro x hx ih u q hq hI
    have Hu := fMd_at q H
    have Ru : RwR u (f + 3) O := Rw_of R q.2.2.1 (by rw [q.1])
    have Uu : RfU u f O B := fun r hr => by rw [q.1]; exact U r hr
    have Su : RfS u f (o_P O) (l_A O B) (l_K O B) := fun y hy => by
      rw [q.2.2.2.2.2 (f + 6) (by omega), q.2.2.2.2.2 (f + 9 + y) (by omega)]
      exact S y hy
    rw [e_Rf_model_189, lz_p (Rf_k Hu) (Rf_p9 Hu), Rw_ar2 Ru, Rw_P Ru, if_neg (by rw [n_le _ _ (by omega) (by omega)]; omega), lz_ci (Rf_has u _ (k := x) (by omega) (d + 1)), xl_pd (by omega), nI_1]
    have skip : ¬ (¬ l_A O B x 1 ∧ mdG O D.1 B p x) → wL (fun y => I0 y ∨ (y < x ∧ ¬ l_A O B y 1 ∧ mdG O D.1 B p y)) = wL (fun y => I0 y ∨ (y < x + 1 ∧ ¬ l_A O B y 1 ∧ mdG O D.1 B p y)) := fun c => wL_cong (fun y _ => or_congr Iff.rfl ⟨fun e => ⟨by omega, e.2⟩, fun e => ⟨by
      rcases Nat.lt_or_ge y x with c2 | c2
      · exact c2
      · have : y = x := by omega
        exact absurd (this ▸ e.2) c, e.2⟩⟩)
    by_cases lv : x < o_P O ∧ ¬ l_A O B x 1
    · rw [pd_t lv, bo_t, if_neg (by decide)]
      have fin : f_Rf_model_305 (d + 2) u f (wL (fun y => y < o_P O ∧ ¬ l_A O B y 1)) (nI p) (nI (o_pk D.1 p)) (nI (o_pa D.1 p)) (nI (o_pb D.1 p)) (nI x) (bo (pd (mdG O D.1 B p x))) = f_Rf_model_189 (d + 2) (if pd (mdG O D.1 B p x) = true then am_sL u (f + 1534) p (wL (fun y => I0 y ∨ (y < x + 1 ∧ ¬ l_A O B y 1 ∧ mdG O D.1 B p y))) else u) f (wL (fun y => y < o_P O ∧ ¬ l_A O B y 1)) (nI p) (nI (o_pk D.1 p)) (nI (o_pa D.1 p)) (nI (o_pb D.1 p)) (nI (x + 1)) := by
        by_cases c : mdG O D.1 B p x
        · rw [pd_t c, bo_t, if_pos rfl, e_Rf_model_305, if_neg (by decide), lz_p (Rf_k Hu) (Rf_p44 Hu), Rf_r1534 Hu (by omega), Rf_r1534 Hu (by omega), hI, nI_1, wL_b1 (by omega), wL_or]
          rw [wL_cong (fun y _ => (⟨fun e => e.elim (fun e => e.imp id (fun e => ⟨by omega, e.2⟩)) (fun e => Or.inr ⟨by omega, by rw [e]; exact lv.2, by rw [e]; exact c⟩), fun e => e.elim (fun e => Or.inl (Or.inl e)) (fun e => by
            by_cases c2 : y = x
            · exact Or.inr c2
            · exact Or.inl (Or.inr ⟨by omega, e.2⟩))⟩ : ((I0 y ∨ (y < x ∧ ¬ l_A O B y 1 ∧ mdG O D.1 B p y)) ∨ y = x) ↔ (I0 y ∨ (y < x + 1 ∧ ¬ l_A O B y 1 ∧ mdG O D.1 B p y))))]
        · rw [pd_f c, bo_f, if_neg (by decide), e_Rf_model_305, if_pos rfl, nI_1]
      have go : ∃ u', f_Rf_model_305 (d + 2) u f (wL (fun y => y < o_P O ∧ ¬ l_A O B y 1)) (nI p) (nI (o_pk D.1 p)) (nI (o_pa D.1 p)) (nI (o_pb D.1 p)) (nI x) (bo (pd (mdG O D.1 B p x))) = f_Rf_model_100 (d + 2) u' f (wL (fun y => y < o_P O ∧ ¬ l_A O B y 1)) (nI (p + 1)) ∧ fMd f g u' ∧ (∀ q, q < p → am_L u' (f + 1534) q = wL (e_E O D.1 B q)) ∧ am_L u' (f + 1534) p = wL (fun y => I0 y ∨ (y < o_P O ∧ ¬ l_A O B y 1 ∧ mdG O D.1 B p y)) := by
        rw [fin]
        by_cases c : mdG O D.1 B p x
        · rw [pd_t c, if_pos rfl]
          refine ih _ (fMd_w q p _) (fun j hj => ?_) ?_
          · rw [pc_L_L, if_neg (by omega)]
            exact hq j hj
          · rw [pc_L_L, if_pos ⟨rfl, rfl⟩]
        · rw [pd_f c, if_neg (by decide)]
          exact ih u q hq (hI.trans (skip (fun e => c e.2)))
      unfold o_okP at okp
      rcases (show o_pk D.1 p = 0 ∨ o_pk D.1 p = 4 ∨ (o_pk D.1 p ≠ 0 ∧ o_pk D.1 p ≠ 4) by omega) with k | k | k
      · have hG : (mdG O D.1 B p x) ↔ l_A O B x p := ⟨fun e => e.elim (fun e => e.2) (fun e => by have := e.1; omega), fun e => Or.inl ⟨k, e⟩⟩
        rw [pd_c hG] at go
        rw [k] at go ⊢
        rw [if_pos (by decide), lz_p (Rf_k Hu) (Rf_p18 Hu), Rf_r6 Hu (by omega), (Su x hx).1, lz_ci (Rf_has u _ (k := p) (by omega) (d + 1)), xl_pd (by omega)]
        have n4 : ¬ (nI 0 : Int32) = 4 := by decide
        by_cases c : l_A O B x p
        · rw [pd_t c, bo_t] at go ⊢
          rw [if_neg (by decide), Rf_242n Hu Ru n4]
          exact go
        · rw [pd_f c, bo_f] at go ⊢
          rw [if_pos rfl, Rf_242n Hu Ru n4]
          exact go
      · have la : o_pa D.1 p < 8 := by omega
        have lb : o_pb D.1 p < p := by omega
        have hG : (mdG O D.1 B p x) ↔ (∃ y, y < o_P O ∧ e_E O D.1 B (o_pb D.1 p) y ∧ ∃ r, r < 8 ∧ o_un O B r (o_pa D.1 p) ∧ l_K O B x r y) := ⟨fun e => e.elim (fun e => by have := e.1; omega) (fun e => e.2), fun e => Or.inr ⟨k, e⟩⟩
        rw [pd_c hG] at go
        rw [k] at go ⊢
        rw [if_neg (by decide)]
        have s := Rf_242s Hu Ru Uu Su hx la (show o_pb D.1 p < 480 by omega) (hq _ lb) (wL (fun y => y < o_P O ∧ ¬ l_A O B y 1)) (nI p) d
        rw [show f_Rf_model_242 (d + 1 + 1) u f (wL (fun y => y < o_P O ∧ ¬ l_A O B y 1)) (nI p) (nI 4) (nI (o_pa D.1 p)) (nI (o_pb D.1 p)) (nI x) 0 0 = _ from s]
        exact go
      · have hG : ¬ mdG O D.1 B p x := fun e => e.elim (fun e => k.1 e.1) (fun e => k.2 e.1)
        have n0 : ¬ nI (o_pk D.1 p) = 0 := fun e => k.1 (by
          rw [n_0, nI_e32 (by omega) (by omega)] at e
          exact e)
        have n4 : ¬ nI (o_pk D.1 p) = 4 := fun e => k.2 (by
          rw [n_4, nI_e32 (by omega) (by omega)] at e
          exact e)
        rw [pd_f hG, bo_f] at go
        rw [if_neg n0, Rf_242n Hu Ru n4]
        exact go
    · rw [pd_f lv, bo_f, if_pos rfl]
      exact ih u q hq (hI.trans (skip (fun e => lv ⟨hx, e.1⟩)))
theorem Rf_100 {g : am_H} {f c : Nat} {O : o_T} {D : DT} {B : Nat → Prop} (H : RfAt g f) (R : RwR g (f + 3) O) (RD : RwD g (f + 4) D) (U : RfU g f O B) (S : RfS g f (o_P O) (l_A O B) (l_K O B)) (okD : o_ok D.1) (eR : o_R D.1 = o_R O) (hc : c < o_P D.1) (e42 : am_I g f 42 = nI c) (d : Nat) : ∀ p, p ≤ o_P D.1 → ∀ u, fMd f g u → (∀ q, q < p → am_L u (f + 1534) q = wL (e_E O D.1 B q)) → ∃ u', f_Rf_model_100 (d + 2) u f (wL (fun y => y < o_P O ∧ ¬ l_A O B y 1)) (nI p) = some (.inr (some (.long (wL (e_E O D.1 B c)))), u') ∧ fMd f g u' := by
  have hPD := okD.2.2.2.1
  have hP := R.2.1.2.2.2.1
  have hR8 := R.2.1.2.1
  refine dn ?_ ?_
  · intro u q hq
    have Hu := fMd_at q H
    have RDu : RwD u (f + 4) D := RwD_of RD q.2.2.1 (by rw [q.1])
    have ar2 : ∀ K, am_ar u 9 (f + 4) 2 K = K 2 := fun K => RwD_ar RDu (k := 2) (by omega) K
    refine ⟨u, ?_, q⟩
    rw [e_Rf_model_100, lz_p (Rf_k Hu) (Rf_p10 Hu), ar2, RDu.2.2.2.2.1, if_pos (by rw [n_le _ _ (by omega) (by omega)]; omega), lz_p (Rf_k Hu) (Rf_p44 Hu), lz_i (Rf_k Hu) (show am_I u f 42 = nI c by rw [q.1]; exact e42), Rf_r1534 Hu (by omega), hq c hc]
  · intro p hp ih u q hq
    have Hu := fMd_at q H
    have RDu : RwD u (f + 4) D := RwD_of RD q.2.2.1 (by rw [q.1])
    have ar2 : ∀ K, am_ar u 9 (f + 4) 2 K = K 2 := fun K => RwD_ar RDu (k := 2) (by omega) K
    obtain ⟨k1, k2, k3⟩ := RwD_k RDu hp (d + 1)
    have okp := okD.2.2.2.2.2.2.2.1 p hp
    have step : ∀ (v : Int64) (I0 : Nat → Prop), v = wL I0 → (∀ y, (I0 y ∨ (y < o_P O ∧ ¬ l_A O B y 1 ∧ mdG O D.1 B p y)) ↔ e_E O D.1 B p y) → ∃ u', f_Rf_model_189 (d + 2) (am_sL u (f + 1534) p v) f (wL (fun y => y < o_P O ∧ ¬ l_A O B y 1)) (nI p) (nI (o_pk D.1 p)) (nI (o_pa D.1 p)) (nI (o_pb D.1 p)) (nI 0) = some (.inr (some (.long (wL (e_E O D.1 B c)))), u') ∧ fMd f g u' := by
      intro v I0 hv hI
      obtain ⟨w, ew, qw, hw, hwp⟩ := Rf_189 (D := D) H R U S okD eR hp I0 d 0 (Nat.zero_le _) (am_sL u (f + 1534) p v) (fMd_w q p v) (fun j hj => by
        rw [pc_L_L, if_neg (by omega)]
        exact hq j hj) (by
        rw [pc_L_L, if_pos ⟨rfl, rfl⟩, hv]
        exact wL_cong (fun y _ => ⟨Or.inl, fun e => e.elim id (fun e => absurd e.1 (Nat.not_lt_zero y))⟩))
      rw [ew]
      refine ih w qw (fun j hj => ?_)
      by_cases e : j = p
      · rw [e, hwp]
        exact wL_cong (fun y _ => hI y)
      · exact hw j (by omega)
    rw [e_Rf_model_100, lz_p (Rf_k Hu) (Rf_p10 Hu), ar2, RDu.2.2.2.2.1, if_neg (by rw [n_le _ _ (by omega) (by omega)]; omega), lz_p (Rf_k Hu) (Rf_p10 Hu), lz_ci k1, lz_p (Rf_k Hu) (Rf_p10 Hu), lz_ci k2, lz_p (Rf_k Hu) (Rf_p10 Hu), lz_ci k3, lz_p (Rf_k Hu) (Rf_p44 Hu)]
    rcases okp with k | k | k | k | k
    · rw [if_neg (by rw [k.1]; decide), if_neg (by rw [k.1]; decide), Rf_r1534 Hu (by omega)]
      refine step 0 (fun _ => False) (wL_0.mpr (fun _ _ e => e)).symm (fun y => ?_)
      rw [e_Ei]
      constructor
      · rintro (e | ⟨a, b, e | e⟩)
        · exact e.elim
        · exact ⟨a, b, Or.inr (Or.inl e)⟩
        · have := e.1; omega
      · rintro ⟨a, b, e | e | e | e⟩
        · omega
        · exact Or.inr ⟨a, b, Or.inl e⟩
        · have := e.1; omega
        · have := e.1; omega
    · rw [if_pos (by rw [k.2.1]; decide), Rf_r1534 Hu (by omega)]
      refine step _ (fun y => y < o_P O ∧ ¬ l_A O B y 1) rfl (fun y => ?_)
      rw [e_Ei]
      exact ⟨fun e => e.elim (fun e => ⟨e.1, e.2, Or.inl k.2.1⟩) (fun e => ⟨e.1, e.2.1, Or.inl k.2.1⟩), fun e => Or.inl ⟨e.1, e.2.1⟩⟩
    · rw [if_neg (by rw [k.2.1]; decide), if_neg (by rw [k.2.1]; decide), Rf_r1534 Hu (by omega)]
      refine step 0 (fun _ => False) (wL_0.mpr (fun _ _ e => e)).symm (fun y => ?_)
      rw [e_Ei]
      have kk := k.2.1
      constructor
      · rintro (e | ⟨a, b, e | e⟩)
        · exact e.elim
        · have := e.1; omega
        · have := e.1; omega
      · rintro ⟨a, b, e | e | e | e⟩
        · omega
        · have := e.1; omega
        · have := e.1; omega
        · have := e.1; omega
    · rw [if_neg (by rw [k.1]; decide), if_pos (by rw [k.1]; decide), lz_p (Rf_k Hu) (Rf_p44 Hu), Rf_r1534 Hu (by omega), lz_p (Rf_k Hu) (Rf_p44 Hu), Rf_r1534 Hu (by omega), Rf_r1534 Hu (by omega)]
      refine step _ (fun y => e_E O D.1 B (o_pa D.1 p) y ∧ e_E O D.1 B (o_pb D.1 p) y) (by rw [hq _ k.2.1, hq _ k.2.2, wL_and]) (fun y => ?_)
      rw [e_Ei p y]
      have kk := k.1
      constructor
      · rintro (e | ⟨a, b, e | e⟩)
        · exact ⟨(e_El e.1).1, (e_El e.1).2, Or.inr (Or.inr (Or.inl ⟨kk, e⟩))⟩
        · have := e.1; omega
        · have := e.1; omega
      · rintro ⟨a, b, e | e | e | e⟩
        · omega
        · have := e.1; omega
        · exact Or.inl e.2
        · have := e.1; omega
    · rw [if_neg (by rw [k.1]; decide), if_neg (by rw [k.1]; decide), Rf_r1534 Hu (by omega)]
      refine step 0 (fun _ => False) (wL_0.mpr (fun _ _ e => e)).symm (fun y => ?_)
      rw [e_Ei p y]
      have kk := k.1
      constructor
      · rintro (e | ⟨a, b, e | ⟨e1, z, e2, e3, r, e4, e5, e6⟩⟩)
        · exact e.elim
        · have := e.1; omega
        · exact ⟨a, b, Or.inr (Or.inr (Or.inr ⟨kk, z, e3, r, e5, e6⟩))⟩
      · rintro ⟨a, b, e | e | e | ⟨e1, z, e2, r, e3, e4⟩⟩
        · omega
        · have := e.1; omega
        · have := e.1; omega
        · have l := l_Kd R.2.1 e4
          exact Or.inr ⟨a, b, Or.inr ⟨kk, z, l.2, e2, r, by omega, e3, e4⟩⟩
theorem Rf_60 {g : am_H} {f : Nat} {O : o_T} {B : Nat → Prop} (H : RfAt g f) (R : RwR g (f + 3) O) (S : RfS g f (o_P O) (l_A O B) (l_K O B)) (d : Nat) : f_Rf_model_60 (d + 2) g f 0 0 = f_Rf_model_100 (d + 2) g f (wL (fun y => y < o_P O ∧ ¬ l_A O B y 1)) (nI 0) := by
  have hP := R.2.1.2.2.2.1
  have key : ∀ n, n ≤ o_P O → f_Rf_model_60 (d + 2) g f (wL (fun y => y < n ∧ ¬ l_A O B y 1)) (nI n) = f_Rf_model_100 (d + 2) g f (wL (fun y => y < o_P O ∧ ¬ l_A O B y 1)) (nI 0) := by
    refine dn ?_ ?_
    · rw [e_Rf_model_60, lz_p (Rf_k H) (Rf_p9 H), Rw_ar2 R, Rw_P R, if_pos (by rw [n_le _ _ (by omega) (by omega)]; omega)]
      rfl
    · intro n hn ih
      obtain ⟨b, eb, hb⟩ := Rf_isVoid H (show n < 480 by omega) (S n hn).1 d
      rw [e_Rf_model_60, lz_p (Rf_k H) (Rf_p9 H), Rw_ar2 R, Rw_P R, if_neg (by rw [n_le _ _ (by omega) (by omega)]; omega), lz_k (Rf_k H), lz_ci eb, nI_1]
      cases b with
      | true =>
        rw [bo_t, if_neg (by decide), Int64.or_zero, wd_n (Q := fun y => ¬ l_A O B y 1) (fun e => e (hb.mp rfl))]
        exact ih
      | false =>
        rw [bo_f, if_pos rfl, wd_y (Q := fun y => ¬ l_A O B y 1) (by omega) (fun e => absurd (hb.mpr e) (by decide))]
        exact ih
  rw [← key 0 (Nat.zero_le _), wd_0]
  rfl
theorem Rf_model' {h : am_H} {f : Nat} {O : o_T} {B : Nat → Prop} {x : XT} {WN WR : Nat → Nat → Nat} (C : RT h f O B x WN WR) (i : Int32) (d : Nat) : (¬ vi (x.2.1 + 1) i ∧ f_Rf_model (d + 813) h f i = some (.inr (some (.long 0)), rr f 1 1 (am_sI h f 0 0))) ∨ (∃ n, n ≤ x.2.1 ∧ i = nI n ∧ ∃ h', f_Rf_model (d + 813) h f i = some (.inr (some (q_mo O B (spA false x.1 n (O, WN, WR)))), h') ∧ gR f h h' ∧ RT h' f O B (xe (q_pl (spA false x.1 n (O, WN, WR))) x) WN WR ∧ am_I h' f 0 = 0) := by
  obtain ⟨cB, cX, cW⟩ := C
  have H := cB.1
  obtain ⟨g, e0, Cg, Wg, z0⟩ := RB_b cB
  have Hg := Cg.1
  have Xg := RX_W Wg cX
  have Wg3 : RwW g (f + 3) O WN WR := RwW_of (Wg.2.2.2.2.1 (f + 3) (by omega) (by omega)).1 cW
  have n4 := Xg.1
  have x2 := Xg.2.1
  have b1 := Rf_bad1 Hg z0 (c := 1) (by decide) (E := 1) (by omega) (d + 812)
  rw [← n_1] at b1
  have ii := vi_in (n := x.2.1 + 1) (by omega) g i (d + 812)
  rw [nI_pred] at ii
  rw [e_Rf_model, lz_k (Rf_k H), e0, lz_i (Rf_k Hg) x2, lz_ci ii]
  by_cases v : vi (x.2.1 + 1) i
  · refine Or.inr ?_
    rw [pd_t v, bo_t, if_neg (by decide)]
    obtain ⟨n, hn, rfl⟩ := v
    refine ⟨n, by omega, rfl, ?_⟩
    have okq := spA_k (two := false) (T := x.1) (n := n) (by omega) (RwR_D Cg.2.1 Wg3).2
    have X := Rf_reads Cg Xg Wg3 (n := n) (by omega) false d
    rw [bo_f] at X
    rw [lz_k (Rf_k Hg), lz_ci (Rf_bad0 Hg z0 1 1 (d + 812)), if_pos rfl, lz_k (Rf_k Hg)]
    cases e : spA false x.1 n (O, WN, WR) with
    | inl r =>
      rw [e] at X okq
      obtain ⟨s, es, qs, s6, s5⟩ := X
      obtain ⟨Ts, gs, s0⟩ := RT_q Cg Xg Wg3 qs s5
      refine ⟨s, ?_, gR_t (gR_W Wg) gs, Ts, s0.trans z0⟩
      rw [lz_ci es, if_pos rfl, lz_i (Rf_k Ts.1.1) s6]
      rfl
    | inr y =>
      obtain ⟨D, c, e'⟩ := y
      rw [e] at X okq
      obtain ⟨s, es, qs, s5, sR, s42, -⟩ := X
      obtain ⟨wD, D60, hc, he, xx⟩ := okq
      replace hc : c < o_P D.1 := hc
      replace D60 : o_P D.1 ≤ 60 := D60
      replace wD : wfD D no_x := wD
      replace sR : RwD s (f + 4) D := sR
      replace s42 : am_I s f 42 = nI c := s42
      replace xx : xD (O, WN, WR) D := xx
      obtain ⟨Ts, gs, s0⟩ := RT_q Cg Xg Wg3 qs s5
      have Hs := Ts.1.1
      obtain ⟨m, em, qm, Cm, Lm, m0⟩ := Rf_cl Ts.1 (d + 809)
      have Hm := Cm.1
      have Rm := Cm.2.1
      have mR : RwD m (f + 4) D := RwD_of sR qm.2.1 (qm.2.2.2.2.1 (f + 4) (by omega) (by omega)).1
      have m42 : am_I m f 42 = nI c := (qm.2.2.2.2.2.1 42 (by omega) (by omega) (by omega) (by omega) (by omega) (by omega)).trans s42
      obtain ⟨k, k1, k2, k3, k4, k5, k6⟩ := Lm
      obtain ⟨u, eu, qu⟩ := Rf_100 Hm Rm mR k4 k5 (wfD_ok wD D60) (xD_O xx).1 hc m42 (d + 811) 0 (Nat.zero_le _) m (fMd_r f m) (fun j hj => absurd hj (Nat.not_lt_zero j))
      have qw := fMd_W qu
      refine ⟨u, ?_, gR_t (gR_W Wg) (gR_t gs (gR_t (gR_W qm) (gR_W qw))), ⟨RB_Md qu Cm, RX_W qw (RX_W qm Ts.2.1), RwW_of (by rw [(qw.2.2.2.2.1 (f + 3) (by omega) (by omega)).1, (qm.2.2.2.2.1 (f + 3) (by omega) (by omega)).1]) Ts.2.2⟩, by rw [qu.1]; exact m0.trans (s0.trans z0)⟩
      rw [lz_ci es, if_neg (by decide), lz_k (Rf_k Hs), lz_cv em, Rf_60 Hm Rm k5 (d + 811)]
      exact eu
  · refine Or.inl ⟨v, ?_⟩
    rw [pd_f v, bo_f, if_pos rfl, lz_k (Rf_k Hg), lz_ci b1, if_neg (by decide)]
