/-! ===== the law: what a call leaves, both sides ===== -/
def vl (v : Value) : Int64 := match v with
  | .int x => Int32.toInt64 x
  | .long y => y
  | _ => 0
/-- what a call of the class may change: e exceptions made -/
def gX (e : Nat) (h h' : am_H) : Prop := am_S h' = am_S h ∧ am_G h' = am_G h + e ∧ am_T h' = am_T h + 6 * e ∧ ∀ b, (78 ≤ b ∧ b < 1613) ∨ b = 0 → am_I h' b = am_I h b ∧ am_L h' b = am_L h b ∧ am_P h' b = am_P h b
theorem gC_X {h h' : am_H} (q : gC h h') : gX 0 h h' := ⟨q.1, q.2.1, q.2.2.1, fun b p => q.2.2.2 b (by omega)⟩
theorem gX_r (h : am_H) : gX 0 h h := ⟨rfl, rfl, rfl, fun _ _ => ⟨rfl, rfl, rfl⟩⟩
theorem gX_0 {e : Nat} {a b c : am_H} (h1 : gX 0 a b) (h2 : gX e b c) : gX e a c := ⟨h2.1.trans h1.1, by rw [h2.2.1, h1.2.1]; rfl, by rw [h2.2.2.1, h1.2.2.1]; rfl, fun b p => ⟨(h2.2.2.2 b p).1.trans (h1.2.2.2 b p).1, (h2.2.2.2 b p).2.1.trans (h1.2.2.2 b p).2.1, (h2.2.2.2 b p).2.2.trans (h1.2.2.2 b p).2.2⟩⟩
theorem gX_cr (E : Nat) (h : am_H) : gX 1 h (cr E h) := ⟨rfl, rfl, rfl, fun b p => ⟨by
  funext j
  show am_I (am_sI h 77 E _) b j = am_I h b j
  rw [pc_I_I, if_neg (by omega)], rfl, rfl⟩⟩
theorem gX_o (h : am_H) (j : Nat) (v : Int64) : gX 0 h (am_sL h 1613 j v) := ⟨rfl, rfl, rfl, fun b p => ⟨rfl, by
  funext i
  rw [pc_L_L, if_neg (by omega)], rfl⟩⟩
theorem gX_K {h h' : am_H} (q : fK h h') : gX 0 h h' := ⟨q.1, q.2.1, q.2.2.1, fun b p => ⟨q.2.2.2.1 b (by omega) (by omega), q.2.2.2.2.2.1 b (by omega), by
  funext j
  exact q.2.2.2.2.2.2 b j (by omega) (by omega) (by omega)⟩⟩
/-- the class: what stands -/
theorem CT_K {h h' : am_H} {o : Nat} {O : o_T} {B : Nat → Prop} {x : XT} {WN WR : Nat → Nat → Nat} (C : CT h o O B x WN WR) (q : fK h h') (D : CB h' o O B) : CT h' o O B x WN WR := by
  obtain ⟨cB, cX, cS, cW, cP, w3, w20, ck, w⟩ := C
  have ho := cB.2.2.1
  have I : ∀ b, b ≠ 1 → b < 41 → am_I h' b = am_I h b := fun b p r => q.2.2.2.1 b p (by omega)
  refine ⟨D, CX_K q cX, ?_, ?_, ?_, WC_of w3 (I _ (by omega) (by omega)) (I _ (by omega) (by omega)), WC_of w20 (I _ (by omega) (by omega)) (I _ (by omega) (by omega)), ?_, w⟩
  · unfold OnS
    rw [I _ (by omega) (by omega), I _ (by omega) (by omega), I _ (by omega) (by omega), I _ (by omega) (by omega)]
    exact cS
  · unfold OnW WoR
    rw [q.2.2.2.2.2.1 _ (by omega), q.2.2.2.2.2.1 _ (by omega)]
    exact cW
  · rw [q.2.2.2.2.2.2 1 4 (by omega) (by omega) (by omega)]
    exact cP
  · rw [I 37 (by omega) (by omega)]
    exact ck
/-- cells of the class as they were -/
theorem CT_same {h h' : am_H} {o : Nat} {O : o_T} {B : Nat → Prop} {x : XT} {WN WR : Nat → Nat → Nat} (C : CT h o O B x WN WR) (hS : am_S h' = am_S h) (hP : am_P h' = am_P h) (q : ∀ b, b < 78 → am_I h' b = am_I h b ∧ am_L h' b = am_L h b) : CT h' o O B x WN WR := by
  obtain ⟨cB, cX, cS, cW, cP, w3, w20, ck, w⟩ := C
  have ho := cB.2.2.1
  have H' : LcAt h' := LcAt_of cB.1 hS (fun b j _ => by rw [hP])
  obtain ⟨x1, x2, x3, x4, x5, x6, x7, x8⟩ := cX
  refine ⟨CB_sm (W := fun b => b < 78) ⟨hS, fun b p => ⟨(q b p).1, (q b p).2, by rw [hP]⟩⟩ H' (fun b _ _ => by omega) (by omega) (by omega) cB, ⟨x1, ?_, ?_, ?_, x5, ?_, ?_, ?_⟩, ?_, ?_, ?_, WC_of w3 (q _ (by omega)).1 (q _ (by omega)).1, WC_of w20 (q _ (by omega)).1 (q _ (by omega)).1, ?_, w⟩
  · rw [(q 1 (by omega)).1]; exact x2
  · rw [(q 2 (by omega)).1]; exact x3
  · rw [(q 1 (by omega)).1]; exact x4
  · rw [(q 1 (by omega)).1]; exact x6
  · rw [(q 40 (by omega)).1]; exact x7
  · rw [(q 77 (by omega)).1]; exact x8
  · unfold OnS
    rw [(q _ (by omega)).1, (q _ (by omega)).1, (q _ (by omega)).1, (q _ (by omega)).1]
    exact cS
  · unfold OnW WoR
    rw [(q _ (by omega)).2, (q _ (by omega)).2]
    exact cW
  · rw [hP]
    exact cP
  · rw [(q 37 (by omega)).1]
    exact ck
theorem CT_cr {h : am_H} {o E : Nat} {O : o_T} {B : Nat → Prop} {x : XT} {WN WR : Nat → Nat → Nat} (hE : E < 3) (C : CT h o O B x WN WR) : CT (cr E h) o O B (xr E x) WN WR := by
  obtain ⟨cB, cX, cS, cW, cP, w3, w20, ck, w⟩ := C
  have ho := cB.2.2.1
  have e : ∀ b, b ≠ 77 → am_I (cr E h) b = am_I h b := fun b hb => by
    show am_I (am_sI h 77 E _) b = _
    funext j
    rw [pc_I_I, if_neg (by omega)]
  refine ⟨CB_cr cB, CX_cr hE cX, ?_, cW, cP, WC_of w3 (e _ (by omega)) (e _ (by omega)), WC_of w20 (e _ (by omega)) (e _ (by omega)), ?_, w⟩
  · unfold OnS
    rw [e _ (by omega), e _ (by omega), e _ (by omega), e _ (by omega)]
    exact cS
  · rw [e 37 (by omega)]
    exact ck
theorem CT_o {h : am_H} {o : Nat} {O : o_T} {B : Nat → Prop} {x : XT} {WN WR : Nat → Nat → Nat} (C : CT h o O B x WN WR) (j : Nat) (v : Int64) : CT (am_sL h 1613 j v) o O B x WN WR := CT_same C rfl rfl (fun b p => ⟨rfl, by
  funext i
  rw [pc_L_L, if_neg (by omega)]⟩)
theorem CT_R {h h' : am_H} {o : Nat} {O : o_T} {B : Nat → Prop} {x : XT} {WN WR : Nat → Nat → Nat} (C : CT h o O B x WN WR) (q : gR 78 h h') : CT h' o O B x WN WR := CT_same C q.1 q.2.2.2.1 (fun b p => q.2.2.2.2 b (Or.inl p))
/-- the reference: what stands -/
theorem RT_X {h h' : am_H} {e : Nat} {O : o_T} {B : Nat → Prop} {x : XT} {WN WR : Nat → Nat → Nat} (C : RT h 78 O B x WN WR) (q : gX e h h') : RT h' 78 O B x WN WR := by
  obtain ⟨⟨c1, c2, c3, c4, c5, c6⟩, cX, cW⟩ := C
  have I : ∀ b, 78 ≤ b → b < 1613 → am_I h' b = am_I h b := fun b p r => (q.2.2.2 b (by omega)).1
  have L : ∀ b, 78 ≤ b → b < 1613 → am_L h' b = am_L h b := fun b p r => (q.2.2.2 b (by omega)).2.1
  have hP2 := c2.2.1.2.2.2.1
  obtain ⟨x1, x2, x3, x4, x5, x6, x7, x8⟩ := cX
  refine ⟨⟨RfAt_of c1 q.1 (fun b p r => (q.2.2.2 b (by omega)).2.2), Rw_of c2 q.1 (I _ (by omega) (by omega)), by rw [L 78 (by omega) (by omega)]; exact c3, c4, ?_, ?_⟩, ⟨x1, ?_, ?_, ?_, x5, ?_, ?_, ?_⟩, RwW_of (I _ (by omega) (by omega)) cW⟩
  · rw [I 78 (by omega) (by omega)]
    refine c5.imp id (fun p => ⟨p.1, ?_⟩)
    obtain ⟨k, k1, k2, k3, k4, k5, k6⟩ := p.2
    refine ⟨k, k1, k2, by rw [I 78 (by omega) (by omega)]; exact k3, fun r hr => by rw [I _ (by omega) (by omega)]; exact k4 r hr, fun y hy => ?_, fun y z hy hz => by rw [I _ (by omega) (by omega)]; exact k6 y z hy hz⟩
    rw [L (78 + 6) (by omega) (by omega), L (78 + 9 + y) (by omega) (by omega)]
    exact k5 y hy
  · rw [I 78 (by omega) (by omega)]
    exact c6.imp id (fun p => ⟨p.1, RfN_i (by rw [I 78 (by omega) (by omega)]) (fun b r s => I b (by omega) (by omega)) p.2⟩)
  · rw [I 78 (by omega) (by omega)]; exact x2
  · rw [I (78 + 2) (by omega) (by omega)]; exact x3
  · rw [I 78 (by omega) (by omega)]; exact x4
  · rw [I 78 (by omega) (by omega)]; exact x6
  · rw [I (78 + 5) (by omega) (by omega)]; exact x7
  · rw [I (78 + 1) (by omega) (by omega)]; exact x8
theorem RT_W {h h' : am_H} {f : Nat} {O : o_T} {B : Nat → Prop} {x : XT} {WN WR : Nat → Nat → Nat} (C : RT h f O B x WN WR) (q : fW f h h') (D : RB h' f O B) : RT h' f O B x WN WR := ⟨D, RX_W q C.2.1, RwW_of (q.2.2.2.2.1 _ (by omega) (by omega)).1 C.2.2⟩
theorem RT_rr {h : am_H} {f E : Nat} {c : Int32} {O : o_T} {B : Nat → Prop} {x : XT} {WN WR : Nat → Nat → Nat} (hE : E < 3) (C : RT h f O B x WN WR) : RT (rr f E c h) f O B (xr E x) WN WR := ⟨RB_rr C.1, RX_rr hE C.2.1, RwW_of (by
  show am_I (am_sI (am_sI h f 0 c) (f + 1) E _) (f + 3) = _
  funext j
  rw [pc_I_I, if_neg (by omega), pc_I_I, if_neg (by omega)]) C.2.2⟩
theorem rr_0 (f E : Nat) (c : Int32) (h : am_H) : am_I (rr f E c h) f 0 = c := by
  show am_I (am_sI (am_sI h f 0 c) (f + 1) E _) f 0 = c
  rw [pc_I_I, if_neg (by omega), pc_I_I, if_pos ⟨rfl, rfl⟩]
/-- how an answer looks -/
def shI (S : List Nat) (a : Nat ⊕ Value) : Prop := match a with
  | .inl E => E ∈ S
  | .inr v => ∃ y, v = .int y
def shJ (S : List Nat) (a : Nat ⊕ Value) : Prop := match a with
  | .inl E => E ∈ S
  | .inr v => ∃ y, v = .long y
def shB (S : List Nat) (a : Nat ⊕ Value) : Prop := match a with
  | .inl E => E ∈ S
  | .inr v => ∃ b, v = .int (bo b)
theorem shI_g {S : List Nat} {n E : Nat} {i : Int32} {F : Nat → Nat ⊕ Value} (hE : E ∈ S) (hF : ∀ k, shI S (F k)) : shI S (g1 n i E F) := by
  unfold g1
  by_cases c : vi n i
  · rw [if_pos c]; exact hF _
  · rw [if_neg c]; exact hE
theorem shJ_g {S : List Nat} {n E : Nat} {i : Int32} {F : Nat → Nat ⊕ Value} (hE : E ∈ S) (hF : ∀ k, shJ S (F k)) : shJ S (g1 n i E F) := by
  unfold g1
  by_cases c : vi n i
  · rw [if_pos c]; exact hF _
  · rw [if_neg c]; exact hE
theorem shB_g {S : List Nat} {n E : Nat} {i : Int32} {F : Nat → Nat ⊕ Value} (hE : E ∈ S) (hF : ∀ k, shB S (F k)) : shB S (g1 n i E F) := by
  unfold g1
  by_cases c : vi n i
  · rw [if_pos c]; exact hF _
  · rw [if_neg c]; exact hE
/-- a call through the law's wrapper -/
def WO (F : Option am_R) (h : am_H) (c : Nat → Int32) (a : Nat ⊕ Value) (p : am_H → Prop) : Prop := match a with
  | .inl E => ∃ h', F = some (.inr (some (.int (c E))), h') ∧ gX 1 h h' ∧ p h'
  | .inr v => ∃ h', F = some (.inr (some (.int 0)), h') ∧ gX 0 h h' ∧ p h' ∧ am_L h' 1613 0 = vl v
/-- a call of the reference -/
def RP (F : Option am_R) (h : am_H) (c : Nat → Int32) (z : Value) (a : Nat ⊕ Value) (p : am_H → Prop) : Prop := match a with
  | .inl E => ∃ h', F = some (.inr (some z), h') ∧ gR 78 h h' ∧ p h' ∧ am_I h' 78 0 = c E
  | .inr v => ∃ h', F = some (.inr (some v), h') ∧ gR 78 h h' ∧ p h' ∧ am_I h' 78 0 = 0
def xa (a : Nat ⊕ Value) (x : XT) : XT := match a with
  | .inl E => xr E x
  | .inr _ => x
theorem RP_R {F : Option am_R} {h : am_H} {O : o_T} {B : Nat → Prop} {x : XT} {WN WR : Nat → Nat → Nat} {c : Nat → Int32} {z : Value} {a : Nat ⊕ Value} (h3 : ∀ E, a = .inl E → E < 3) (C : RT h 78 O B x WN WR) (R : RR F h 78 O B c z a) : RP F h c z a (fun h => RT h 78 O B (xa a x) WN WR) := by
  obtain ⟨h', q, D, z0, e⟩ := R
  cases a with
  | inl E => exact ⟨_, e, gR_t (gR_W q) (gR_rr E (c E) h'), RT_rr (h3 E rfl) (RT_W C q D), rr_0 _ _ _ _⟩
  | inr v => exact ⟨h', e, gR_W q, RT_W C q D, z0⟩
theorem sh_o {h : am_H} {L : Nat} (hS : am_S h = sh_L L) : (am_S h)[1613]? = some (10, 1) := by
  have hl : ((15, L) :: zl_s).length = 78 := by rw [List.length_cons, zl_sl]
  rw [hS]
  unfold sh_L
  rw [List.getElem?_append_right (by omega), hl, List.getElem?_append_right (by rw [zl_tl]; omega), zl_tl]
  rfl
theorem sh_0 {h : am_H} {L : Nat} (hS : am_S h = sh_L L) : (am_S h)[0]? = some (15, L) := by
  rw [hS]
  rfl
theorem ar_o {h : am_H} {L : Nat} (hS : am_S h = sh_L L) (K : Nat → Option am_R) : am_ar h 10 1613 0 K = K 0 := ar_n (k := 0) (sh_o hS) (by omega) (by omega) K
/-- out of a question to the class -/
theorem WO_Q {r F : Option am_R} {h : am_H} {o L : Nat} {O : o_T} {B : Nat → Prop} {x : XT} {WN WR : Nat → Nat → Nat} {c : Nat → Int32} {S : List Nat} {a : Nat ⊕ Value} (hS : am_S h = sh_L L) (C : CT h o O B x WN WR) (Q : QQ r h o O B a) (sh : shI S a) (h3 : ∀ E, E ∈ S → E < 3) (hx : ∀ E, E ∈ S → ∀ h2, r = some (.inl E, h2) → F = am_ck h 1 7 (some (.inr (some (.int (c E))), h2))) (hv : ∀ v h2, r = some (.inr (some (.int v)), h2) → F = am_ck h 1 7 (am_ar h2 10 1613 0 fun j => some (.inr (some (.int 0)), am_sL h2 1613 j (Int32.toInt64 v)))) : WO F h c a (fun h => CT h o O B (xa a x) WN WR) := by
  obtain ⟨h', q, D, e⟩ := Q
  have k1 := Lc_k1 C.1.1
  cases a with
  | inl E => exact ⟨cr E h', (hx E sh _ e).trans (lz_k k1 _), gX_0 (gX_K q) (gX_cr E h'), CT_cr (h3 E sh) (CT_K C q D)⟩
  | inr v =>
    obtain ⟨y, rfl⟩ := sh
    have e2 := hv y h' e
    rw [lz_k k1, ar_o (q.1.trans hS)] at e2
    exact ⟨am_sL h' 1613 0 (Int32.toInt64 y), e2, gX_0 (gX_K q) (gX_o h' 0 _), CT_o (CT_K C q D) 0 _, by rw [pc_L_L, if_pos ⟨rfl, rfl⟩]; rfl⟩
theorem WO_QJ {r F : Option am_R} {h : am_H} {o L : Nat} {O : o_T} {B : Nat → Prop} {x : XT} {WN WR : Nat → Nat → Nat} {c : Nat → Int32} {S : List Nat} {a : Nat ⊕ Value} (hS : am_S h = sh_L L) (C : CT h o O B x WN WR) (Q : QQ r h o O B a) (sh : shJ S a) (h3 : ∀ E, E ∈ S → E < 3) (hx : ∀ E, E ∈ S → ∀ h2, r = some (.inl E, h2) → F = am_ck h 1 7 (some (.inr (some (.int (c E))), h2))) (hv : ∀ v h2, r = some (.inr (some (.long v)), h2) → F = am_ck h 1 7 (am_ar h2 10 1613 0 fun j => some (.inr (some (.int 0)), am_sL h2 1613 j v))) : WO F h c a (fun h => CT h o O B (xa a x) WN WR) := by
  obtain ⟨h', q, D, e⟩ := Q
  have k1 := Lc_k1 C.1.1
  cases a with
  | inl E => exact ⟨cr E h', (hx E sh _ e).trans (lz_k k1 _), gX_0 (gX_K q) (gX_cr E h'), CT_cr (h3 E sh) (CT_K C q D)⟩
  | inr v =>
    obtain ⟨y, rfl⟩ := sh
    have e2 := hv y h' e
    rw [lz_k k1, ar_o (q.1.trans hS)] at e2
    exact ⟨am_sL h' 1613 0 y, e2, gX_0 (gX_K q) (gX_o h' 0 _), CT_o (CT_K C q D) 0 _, by rw [pc_L_L, if_pos ⟨rfl, rfl⟩]; rfl⟩
theorem WO_QB {r F : Option am_R} {h : am_H} {o L : Nat} {O : o_T} {B : Nat → Prop} {x : XT} {WN WR : Nat → Nat → Nat} {c : Nat → Int32} {S : List Nat} {a : Nat ⊕ Value} (hS : am_S h = sh_L L) (C : CT h o O B x WN WR) (Q : QQ r h o O B a) (sh : shB S a) (h3 : ∀ E, E ∈ S → E < 3) (hx : ∀ E, E ∈ S → ∀ h2, r = some (.inl E, h2) → F = am_ck h 1 7 (some (.inr (some (.int (c E))), h2))) (hv : ∀ v h2, r = some (.inr (some (.int v)), h2) → F = am_ck h 1 7 (if v = 0 then am_ar h2 10 1613 0 fun j => some (.inr (some (.int 0)), am_sL h2 1613 j 0) else am_ar h2 10 1613 0 fun j => some (.inr (some (.int 0)), am_sL h2 1613 j 1))) : WO F h c a (fun h => CT h o O B (xa a x) WN WR) := by
  obtain ⟨h', q, D, e⟩ := Q
  have k1 := Lc_k1 C.1.1
  cases a with
  | inl E => exact ⟨cr E h', (hx E sh _ e).trans (lz_k k1 _), gX_0 (gX_K q) (gX_cr E h'), CT_cr (h3 E sh) (CT_K C q D)⟩
  | inr v =>
    obtain ⟨b, rfl⟩ := sh
    have e2 := hv _ h' e
    rw [lz_k k1, ar_o (q.1.trans hS), ar_o (q.1.trans hS)] at e2
    cases b with
    | true => exact ⟨am_sL h' 1613 0 1, e2, gX_0 (gX_K q) (gX_o h' 0 _), CT_o (CT_K C q D) 0 _, by rw [pc_L_L, if_pos ⟨rfl, rfl⟩]; rfl⟩
    | false => exact ⟨am_sL h' 1613 0 0, e2, gX_0 (gX_K q) (gX_o h' 0 _), CT_o (CT_K C q D) 0 _, by rw [pc_L_L, if_pos ⟨rfl, rfl⟩]; rfl⟩
/-- the law's comparison behind both calls -/
noncomputable def tlI (d : Nat) (x y : Int32) (h : am_H) (K Z : am_H → Option am_R) : Option am_R := am_ck h 78 8 <| am_ci (f_Rf_thrown d h 78) fun t h2 => if t = x then (if x = 0 then am_ar h2 10 1613 0 fun j => if (lg_cmp (am_L h2 1613 j) (Int32.toInt64 y)) = 0 then K h2 else Z h2 else K h2) else Z h2
noncomputable def tlJ (d : Nat) (x : Int32) (y : Int64) (h : am_H) (K Z : am_H → Option am_R) : Option am_R := am_ck h 78 8 <| am_ci (f_Rf_thrown d h 78) fun t h2 => if t = x then (if x = 0 then am_ar h2 10 1613 0 fun j => if (lg_cmp (am_L h2 1613 j) y) = 0 then K h2 else Z h2 else K h2) else Z h2
noncomputable def tlB (d : Nat) (x y : Int32) (h : am_H) (K Z : am_H → Option am_R) : Option am_R := am_ck h 78 8 <| am_ci (f_Rf_thrown d h 78) fun t h2 => if t = x then (if x = 0 then am_ar h2 10 1613 0 fun j => if y = 0 then (if (lg_cmp (am_L h2 1613 j) 0) = 0 then K h2 else Z h2) else (if (lg_cmp (am_L h2 1613 j) 1) = 0 then K h2 else Z h2) else K h2) else Z h2
theorem Rf_th {h : am_H} (H : RfAt h 78) {c : Int32} (e : am_I h 78 0 = c) (d : Nat) : f_Rf_thrown d h 78 = some (.inr (some (.int c)), h) := by
  rw [e_Rf_thrown, lz_i (Rf_k H) e]
theorem tlI_e {h : am_H} (H : RfAt h 78) {c : Int32} (hc : ¬ c = 0) (e : am_I h 78 0 = c) (d : Nat) (y : Int32) (K Z : am_H → Option am_R) : tlI d c y h K Z = K h := by
  unfold tlI
  rw [lz_k (Rf_k H), lz_ci (Rf_th H e d), if_pos rfl, if_neg hc]
theorem tlI_v {h : am_H} {L : Nat} (H : RfAt h 78) (hS : am_S h = sh_L L) (e : am_I h 78 0 = 0) {y : Int32} (w : am_L h 1613 0 = Int32.toInt64 y) (d : Nat) (K Z : am_H → Option am_R) : tlI d 0 y h K Z = K h := by
  unfold tlI
  rw [lz_k (Rf_k H), lz_ci (Rf_th H e d), if_pos rfl, if_pos rfl, ar_o hS, w, if_pos ((lg_cmp_eq _ _).mpr rfl)]
theorem tlJ_e {h : am_H} (H : RfAt h 78) {c : Int32} (hc : ¬ c = 0) (e : am_I h 78 0 = c) (d : Nat) (y : Int64) (K Z : am_H → Option am_R) : tlJ d c y h K Z = K h := by
  unfold tlJ
  rw [lz_k (Rf_k H), lz_ci (Rf_th H e d), if_pos rfl, if_neg hc]
theorem tlJ_v {h : am_H} {L : Nat} (H : RfAt h 78) (hS : am_S h = sh_L L) (e : am_I h 78 0 = 0) {y : Int64} (w : am_L h 1613 0 = y) (d : Nat) (K Z : am_H → Option am_R) : tlJ d 0 y h K Z = K h := by
  unfold tlJ
  rw [lz_k (Rf_k H), lz_ci (Rf_th H e d), if_pos rfl, if_pos rfl, ar_o hS, w, if_pos ((lg_cmp_eq _ _).mpr rfl)]
theorem tlB_e {h : am_H} (H : RfAt h 78) {c : Int32} (hc : ¬ c = 0) (e : am_I h 78 0 = c) (d : Nat) (y : Int32) (K Z : am_H → Option am_R) : tlB d c y h K Z = K h := by
  unfold tlB
  rw [lz_k (Rf_k H), lz_ci (Rf_th H e d), if_pos rfl, if_neg hc]
theorem tlB_v {h : am_H} {L : Nat} (H : RfAt h 78) (hS : am_S h = sh_L L) (e : am_I h 78 0 = 0) {b : Bool} (w : am_L h 1613 0 = Int32.toInt64 (bo b)) (d : Nat) (K Z : am_H → Option am_R) : tlB d 0 (bo b) h K Z = K h := by
  unfold tlB
  rw [lz_k (Rf_k H), lz_ci (Rf_th H e d), if_pos rfl, if_pos rfl, ar_o hS, w]
  cases b with
  | true => rw [bo_t, if_neg (by decide), if_pos (by decide)]
  | false => rw [bo_f, if_pos rfl, if_pos (by decide)]
/-- what the law's round ends with -/
def LN (h h' : am_H) (p q : am_H → Prop) : Prop := ∃ e h1, e ≤ 1 ∧ gX e h h1 ∧ gR 78 h1 h' ∧ p h1 ∧ q h'
theorem sc_r {h : am_H} {L : Nat} {xs : Nat → Int32} (hS : am_S h = sh_L L) (hX : am_I h 0 = xs) {n : Nat} (hn : n < L) (hL : L ≤ 3072) (K : Nat → Option am_R) : am_ar h 15 0 (nI n) K = K n := ar_n (sh_0 hS) hn (by omega) K
theorem nI_k (k c : Nat) : nI k + nI c = nI (k + c) := nI_add k c
theorem ln1I {d n L : Nat} {xs : Nat → Int32} {h : am_H} {F R : am_H → Int32 → Option am_R} {K Z : am_H → Option am_R} {S : List Nat} {c : Nat → Int32} {a : Nat ⊕ Value} {p q : am_H → Prop} (hS : am_S h = sh_L L) (hX : am_I h 0 = xs) (hn : n + 6 ≤ L) (hL : L ≤ 3072) (hR : RfAt h 78) (hc : ∀ E, E ∈ S → ¬ c E = 0) (sh : shI S a) (hF : WO (F h (xs (n + 1))) h c a p) (hG : ∀ e h', gX e h h' → RP (R h' (xs (n + 1))) h' c (.int 0) a q) : ∃ h', (am_ar h 15 0 (nI n + 1) fun j1 => am_ci (F h (am_I h 0 j1)) fun x h2 => am_ar h2 15 0 (nI n + 1) fun j1 => am_ck h2 78 8 <| am_ci (R h2 (am_I h2 0 j1)) fun y h3 => tlI d x y h3 K Z) = K h' ∧ LN h h' p q := by
  have at1 : ∀ e h', gX e h h' → am_S h' = sh_L L ∧ am_I h' 0 = xs ∧ RfAt h' 78 := fun e h' g => ⟨g.1.trans hS, (g.2.2.2 0 (Or.inr rfl)).1.trans hX, RfAt_of hR g.1 (fun b p r => (g.2.2.2 b (by omega)).2.2)⟩
  rw [show nI n + 1 = nI (n + 1) from nI_k n 1, sc_r hS hX (by omega) hL, hX]
  cases a with
  | inl E =>
    obtain ⟨h1, e1, g1, p1⟩ := hF
    obtain ⟨s1, x1, k1⟩ := at1 1 h1 g1
    obtain ⟨h2, e2, g2, q2, z2⟩ := hG 1 h1 g1
    have k2 : RfAt h2 78 := RfAt_of k1 g2.1 (fun _ _ _ => by rw [g2.2.2.2.1])
    refine ⟨h2, ?_, 1, h1, by omega, g1, g2, p1, q2⟩
    rw [lz_ci e1, sc_r s1 x1 (by omega) hL, x1, lz_k (Rf_k k1), lz_ci e2, tlI_e k2 (hc E sh) z2]
  | inr v =>
    obtain ⟨y, rfl⟩ := sh
    obtain ⟨h1, e1, g1, p1, w1⟩ := hF
    obtain ⟨s1, x1, k1⟩ := at1 0 h1 g1
    obtain ⟨h2, e2, g2, q2, z2⟩ := hG 0 h1 g1
    have k2 : RfAt h2 78 := RfAt_of k1 g2.1 (fun _ _ _ => by rw [g2.2.2.2.1])
    have w2 : am_L h2 1613 0 = Int32.toInt64 y := by
      rw [(g2.2.2.2.2 1613 (by omega)).2]
      exact w1
    refine ⟨h2, ?_, 0, h1, by omega, g1, g2, p1, q2⟩
    rw [lz_ci e1, sc_r s1 x1 (by omega) hL, x1, lz_k (Rf_k k1), lz_ci e2, tlI_v k2 (g2.1.trans s1) z2 w2]
theorem ln1J {d n L : Nat} {xs : Nat → Int32} {h : am_H} {F R : am_H → Int32 → Option am_R} {K Z : am_H → Option am_R} {S : List Nat} {c : Nat → Int32} {a : Nat ⊕ Value} {p q : am_H → Prop} (hS : am_S h = sh_L L) (hX : am_I h 0 = xs) (hn : n + 6 ≤ L) (hL : L ≤ 3072) (hR : RfAt h 78) (hc : ∀ E, E ∈ S → ¬ c E = 0) (sh : shJ S a) (hF : WO (F h (xs (n + 1))) h c a p) (hG : ∀ e h', gX e h h' → RP (R h' (xs (n + 1))) h' c (.long 0) a q) : ∃ h', (am_ar h 15 0 (nI n + 1) fun j1 => am_ci (F h (am_I h 0 j1)) fun x h2 => am_ar h2 15 0 (nI n + 1) fun j1 => am_ck h2 78 8 <| am_cl (R h2 (am_I h2 0 j1)) fun y h3 => tlJ d x y h3 K Z) = K h' ∧ LN h h' p q := by
  have at1 : ∀ e h', gX e h h' → am_S h' = sh_L L ∧ am_I h' 0 = xs ∧ RfAt h' 78 := fun e h' g => ⟨g.1.trans hS, (g.2.2.2 0 (Or.inr rfl)).1.trans hX, RfAt_of hR g.1 (fun b p r => (g.2.2.2 b (by omega)).2.2)⟩
  rw [show nI n + 1 = nI (n + 1) from nI_k n 1, sc_r hS hX (by omega) hL, hX]
  cases a with
  | inl E =>
    obtain ⟨h1, e1, g1, p1⟩ := hF
    obtain ⟨s1, x1, k1⟩ := at1 1 h1 g1
    obtain ⟨h2, e2, g2, q2, z2⟩ := hG 1 h1 g1
    have k2 : RfAt h2 78 := RfAt_of k1 g2.1 (fun _ _ _ => by rw [g2.2.2.2.1])
    refine ⟨h2, ?_, 1, h1, by omega, g1, g2, p1, q2⟩
    rw [lz_ci e1, sc_r s1 x1 (by omega) hL, x1, lz_k (Rf_k k1), lz_cl e2, tlJ_e k2 (hc E sh) z2]
  | inr v =>
    obtain ⟨y, rfl⟩ := sh
    obtain ⟨h1, e1, g1, p1, w1⟩ := hF
    obtain ⟨s1, x1, k1⟩ := at1 0 h1 g1
    obtain ⟨h2, e2, g2, q2, z2⟩ := hG 0 h1 g1
    have k2 : RfAt h2 78 := RfAt_of k1 g2.1 (fun _ _ _ => by rw [g2.2.2.2.1])
    have w2 : am_L h2 1613 0 = y := by
      rw [(g2.2.2.2.2 1613 (by omega)).2]
      exact w1
    refine ⟨h2, ?_, 0, h1, by omega, g1, g2, p1, q2⟩
    rw [lz_ci e1, sc_r s1 x1 (by omega) hL, x1, lz_k (Rf_k k1), lz_cl e2, tlJ_v k2 (g2.1.trans s1) z2 w2]
theorem ln2I {d n L : Nat} {xs : Nat → Int32} {h : am_H} {F R : am_H → Int32 → Int32 → Option am_R} {K Z : am_H → Option am_R} {S : List Nat} {c : Nat → Int32} {a : Nat ⊕ Value} {p q : am_H → Prop} (hS : am_S h = sh_L L) (hX : am_I h 0 = xs) (hn : n + 6 ≤ L) (hL : L ≤ 3072) (hR : RfAt h 78) (hc : ∀ E, E ∈ S → ¬ c E = 0) (sh : shI S a) (hF : WO (F h (xs (n + 1)) (xs (n + 2))) h c a p) (hG : ∀ e h', gX e h h' → RP (R h' (xs (n + 1)) (xs (n + 2))) h' c (.int 0) a q) : ∃ h', (am_ar h 15 0 (nI n + 1) fun j1 => am_ar h 15 0 (nI n + 2) fun j2 => am_ci (F h (am_I h 0 j1) (am_I h 0 j2)) fun x h2 => am_ar h2 15 0 (nI n + 1) fun j1 => am_ar h2 15 0 (nI n + 2) fun j2 => am_ck h2 78 8 <| am_ci (R h2 (am_I h2 0 j1) (am_I h2 0 j2)) fun y h3 => tlI d x y h3 K Z) = K h' ∧ LN h h' p q := by
  have at1 : ∀ e h', gX e h h' → am_S h' = sh_L L ∧ am_I h' 0 = xs ∧ RfAt h' 78 := fun e h' g => ⟨g.1.trans hS, (g.2.2.2 0 (Or.inr rfl)).1.trans hX, RfAt_of hR g.1 (fun b p r => (g.2.2.2 b (by omega)).2.2)⟩
  rw [show nI n + 1 = nI (n + 1) from nI_k n 1, sc_r hS hX (by omega) hL, show nI n + 2 = nI (n + 2) from nI_k n 2, sc_r hS hX (by omega) hL, hX]
  cases a with
  | inl E =>
    obtain ⟨h1, e1, g1, p1⟩ := hF
    obtain ⟨s1, x1, k1⟩ := at1 1 h1 g1
    obtain ⟨h2, e2, g2, q2, z2⟩ := hG 1 h1 g1
    have k2 : RfAt h2 78 := RfAt_of k1 g2.1 (fun _ _ _ => by rw [g2.2.2.2.1])
    refine ⟨h2, ?_, 1, h1, by omega, g1, g2, p1, q2⟩
    rw [lz_ci e1, sc_r s1 x1 (by omega) hL, sc_r s1 x1 (by omega) hL, x1, lz_k (Rf_k k1), lz_ci e2, tlI_e k2 (hc E sh) z2]
  | inr v =>
    obtain ⟨y, rfl⟩ := sh
    obtain ⟨h1, e1, g1, p1, w1⟩ := hF
    obtain ⟨s1, x1, k1⟩ := at1 0 h1 g1
    obtain ⟨h2, e2, g2, q2, z2⟩ := hG 0 h1 g1
    have k2 : RfAt h2 78 := RfAt_of k1 g2.1 (fun _ _ _ => by rw [g2.2.2.2.1])
    have w2 : am_L h2 1613 0 = Int32.toInt64 y := by
      rw [(g2.2.2.2.2 1613 (by omega)).2]
      exact w1
    refine ⟨h2, ?_, 0, h1, by omega, g1, g2, p1, q2⟩
    rw [lz_ci e1, sc_r s1 x1 (by omega) hL, sc_r s1 x1 (by omega) hL, x1, lz_k (Rf_k k1), lz_ci e2, tlI_v k2 (g2.1.trans s1) z2 w2]
theorem ln2J {d n L : Nat} {xs : Nat → Int32} {h : am_H} {F R : am_H → Int32 → Int32 → Option am_R} {K Z : am_H → Option am_R} {S : List Nat} {c : Nat → Int32} {a : Nat ⊕ Value} {p q : am_H → Prop} (hS : am_S h = sh_L L) (hX : am_I h 0 = xs) (hn : n + 6 ≤ L) (hL : L ≤ 3072) (hR : RfAt h 78) (hc : ∀ E, E ∈ S → ¬ c E = 0) (sh : shJ S a) (hF : WO (F h (xs (n + 1)) (xs (n + 2))) h c a p) (hG : ∀ e h', gX e h h' → RP (R h' (xs (n + 1)) (xs (n + 2))) h' c (.long 0) a q) : ∃ h', (am_ar h 15 0 (nI n + 1) fun j1 => am_ar h 15 0 (nI n + 2) fun j2 => am_ci (F h (am_I h 0 j1) (am_I h 0 j2)) fun x h2 => am_ar h2 15 0 (nI n + 1) fun j1 => am_ar h2 15 0 (nI n + 2) fun j2 => am_ck h2 78 8 <| am_cl (R h2 (am_I h2 0 j1) (am_I h2 0 j2)) fun y h3 => tlJ d x y h3 K Z) = K h' ∧ LN h h' p q := by
  have at1 : ∀ e h', gX e h h' → am_S h' = sh_L L ∧ am_I h' 0 = xs ∧ RfAt h' 78 := fun e h' g => ⟨g.1.trans hS, (g.2.2.2 0 (Or.inr rfl)).1.trans hX, RfAt_of hR g.1 (fun b p r => (g.2.2.2 b (by omega)).2.2)⟩
  rw [show nI n + 1 = nI (n + 1) from nI_k n 1, sc_r hS hX (by omega) hL, show nI n + 2 = nI (n + 2) from nI_k n 2, sc_r hS hX (by omega) hL, hX]
  cases a with
  | inl E =>
    obtain ⟨h1, e1, g1, p1⟩ := hF
    obtain ⟨s1, x1, k1⟩ := at1 1 h1 g1
    obtain ⟨h2, e2, g2, q2, z2⟩ := hG 1 h1 g1
    have k2 : RfAt h2 78 := RfAt_of k1 g2.1 (fun _ _ _ => by rw [g2.2.2.2.1])
    refine ⟨h2, ?_, 1, h1, by omega, g1, g2, p1, q2⟩
    rw [lz_ci e1, sc_r s1 x1 (by omega) hL, sc_r s1 x1 (by omega) hL, x1, lz_k (Rf_k k1), lz_cl e2, tlJ_e k2 (hc E sh) z2]
  | inr v =>
    obtain ⟨y, rfl⟩ := sh
    obtain ⟨h1, e1, g1, p1, w1⟩ := hF
    obtain ⟨s1, x1, k1⟩ := at1 0 h1 g1
    obtain ⟨h2, e2, g2, q2, z2⟩ := hG 0 h1 g1
    have k2 : RfAt h2 78 := RfAt_of k1 g2.1 (fun _ _ _ => by rw [g2.2.2.2.1])
    have w2 : am_L h2 1613 0 = y := by
      rw [(g2.2.2.2.2 1613 (by omega)).2]
      exact w1
    refine ⟨h2, ?_, 0, h1, by omega, g1, g2, p1, q2⟩
    rw [lz_ci e1, sc_r s1 x1 (by omega) hL, sc_r s1 x1 (by omega) hL, x1, lz_k (Rf_k k1), lz_cl e2, tlJ_v k2 (g2.1.trans s1) z2 w2]
theorem ln2B {d n L : Nat} {xs : Nat → Int32} {h : am_H} {F R : am_H → Int32 → Int32 → Option am_R} {K Z : am_H → Option am_R} {S : List Nat} {c : Nat → Int32} {a : Nat ⊕ Value} {p q : am_H → Prop} (hS : am_S h = sh_L L) (hX : am_I h 0 = xs) (hn : n + 6 ≤ L) (hL : L ≤ 3072) (hR : RfAt h 78) (hc : ∀ E, E ∈ S → ¬ c E = 0) (sh : shB S a) (hF : WO (F h (xs (n + 1)) (xs (n + 2))) h c a p) (hG : ∀ e h', gX e h h' → RP (R h' (xs (n + 1)) (xs (n + 2))) h' c (.int 0) a q) : ∃ h', (am_ar h 15 0 (nI n + 1) fun j1 => am_ar h 15 0 (nI n + 2) fun j2 => am_ci (F h (am_I h 0 j1) (am_I h 0 j2)) fun x h2 => am_ar h2 15 0 (nI n + 1) fun j1 => am_ar h2 15 0 (nI n + 2) fun j2 => am_ck h2 78 8 <| am_ci (R h2 (am_I h2 0 j1) (am_I h2 0 j2)) fun y h3 => tlB d x y h3 K Z) = K h' ∧ LN h h' p q := by
  have at1 : ∀ e h', gX e h h' → am_S h' = sh_L L ∧ am_I h' 0 = xs ∧ RfAt h' 78 := fun e h' g => ⟨g.1.trans hS, (g.2.2.2 0 (Or.inr rfl)).1.trans hX, RfAt_of hR g.1 (fun b p r => (g.2.2.2 b (by omega)).2.2)⟩
  rw [show nI n + 1 = nI (n + 1) from nI_k n 1, sc_r hS hX (by omega) hL, show nI n + 2 = nI (n + 2) from nI_k n 2, sc_r hS hX (by omega) hL, hX]
  cases a with
  | inl E =>
    obtain ⟨h1, e1, g1, p1⟩ := hF
    obtain ⟨s1, x1, k1⟩ := at1 1 h1 g1
    obtain ⟨h2, e2, g2, q2, z2⟩ := hG 1 h1 g1
    have k2 : RfAt h2 78 := RfAt_of k1 g2.1 (fun _ _ _ => by rw [g2.2.2.2.1])
    refine ⟨h2, ?_, 1, h1, by omega, g1, g2, p1, q2⟩
    rw [lz_ci e1, sc_r s1 x1 (by omega) hL, sc_r s1 x1 (by omega) hL, x1, lz_k (Rf_k k1), lz_ci e2, tlB_e k2 (hc E sh) z2]
  | inr v =>
    obtain ⟨y, rfl⟩ := sh
    obtain ⟨h1, e1, g1, p1, w1⟩ := hF
    obtain ⟨s1, x1, k1⟩ := at1 0 h1 g1
    obtain ⟨h2, e2, g2, q2, z2⟩ := hG 0 h1 g1
    have k2 : RfAt h2 78 := RfAt_of k1 g2.1 (fun _ _ _ => by rw [g2.2.2.2.1])
    have w2 : am_L h2 1613 0 = Int32.toInt64 (bo y) := by
      rw [(g2.2.2.2.2 1613 (by omega)).2]
      exact w1
    refine ⟨h2, ?_, 0, h1, by omega, g1, g2, p1, q2⟩
    rw [lz_ci e1, sc_r s1 x1 (by omega) hL, sc_r s1 x1 (by omega) hL, x1, lz_k (Rf_k k1), lz_ci e2, tlB_v k2 (g2.1.trans s1) z2 w2]
theorem ln3I {d n L : Nat} {xs : Nat → Int32} {h : am_H} {F R : am_H → Int32 → Int32 → Int32 → Option am_R} {K Z : am_H → Option am_R} {S : List Nat} {c : Nat → Int32} {a : Nat ⊕ Value} {p q : am_H → Prop} (hS : am_S h = sh_L L) (hX : am_I h 0 = xs) (hn : n + 6 ≤ L) (hL : L ≤ 3072) (hR : RfAt h 78) (hc : ∀ E, E ∈ S → ¬ c E = 0) (sh : shI S a) (hF : WO (F h (xs (n + 1)) (xs (n + 2)) (xs (n + 3))) h c a p) (hG : ∀ e h', gX e h h' → RP (R h' (xs (n + 1)) (xs (n + 2)) (xs (n + 3))) h' c (.int 0) a q) : ∃ h', (am_ar h 15 0 (nI n + 1) fun j1 => am_ar h 15 0 (nI n + 2) fun j2 => am_ar h 15 0 (nI n + 3) fun j3 => am_ci (F h (am_I h 0 j1) (am_I h 0 j2) (am_I h 0 j3)) fun x h2 => am_ar h2 15 0 (nI n + 1) fun j1 => am_ar h2 15 0 (nI n + 2) fun j2 => am_ar h2 15 0 (nI n + 3) fun j3 => am_ck h2 78 8 <| am_ci (R h2 (am_I h2 0 j1) (am_I h2 0 j2) (am_I h2 0 j3)) fun y h3 => tlI d x y h3 K Z) = K h' ∧ LN h h' p q := by
  have at1 : ∀ e h', gX e h h' → am_S h' = sh_L L ∧ am_I h' 0 = xs ∧ RfAt h' 78 := fun e h' g => ⟨g.1.trans hS, (g.2.2.2 0 (Or.inr rfl)).1.trans hX, RfAt_of hR g.1 (fun b p r => (g.2.2.2 b (by omega)).2.2)⟩
  rw [show nI n + 1 = nI (n + 1) from nI_k n 1, sc_r hS hX (by omega) hL, show nI n + 2 = nI (n + 2) from nI_k n 2, sc_r hS hX (by omega) hL, show nI n + 3 = nI (n + 3) from nI_k n 3, sc_r hS hX (by omega) hL, hX]
  cases a with
  | inl E =>
    obtain ⟨h1, e1, g1, p1⟩ := hF
    obtain ⟨s1, x1, k1⟩ := at1 1 h1 g1
    obtain ⟨h2, e2, g2, q2, z2⟩ := hG 1 h1 g1
    have k2 : RfAt h2 78 := RfAt_of k1 g2.1 (fun _ _ _ => by rw [g2.2.2.2.1])
    refine ⟨h2, ?_, 1, h1, by omega, g1, g2, p1, q2⟩
    rw [lz_ci e1, sc_r s1 x1 (by omega) hL, sc_r s1 x1 (by omega) hL, sc_r s1 x1 (by omega) hL, x1, lz_k (Rf_k k1), lz_ci e2, tlI_e k2 (hc E sh) z2]
  | inr v =>
    obtain ⟨y, rfl⟩ := sh
    obtain ⟨h1, e1, g1, p1, w1⟩ := hF
    obtain ⟨s1, x1, k1⟩ := at1 0 h1 g1
    obtain ⟨h2, e2, g2, q2, z2⟩ := hG 0 h1 g1
    have k2 : RfAt h2 78 := RfAt_of k1 g2.1 (fun _ _ _ => by rw [g2.2.2.2.1])
    have w2 : am_L h2 1613 0 = Int32.toInt64 y := by
      rw [(g2.2.2.2.2 1613 (by omega)).2]
      exact w1
    refine ⟨h2, ?_, 0, h1, by omega, g1, g2, p1, q2⟩
    rw [lz_ci e1, sc_r s1 x1 (by omega) hL, sc_r s1 x1 (by omega) hL, sc_r s1 x1 (by omega) hL, x1, lz_k (Rf_k k1), lz_ci e2, tlI_v k2 (g2.1.trans s1) z2 w2]
theorem ln3J {d n L : Nat} {xs : Nat → Int32} {h : am_H} {F R : am_H → Int32 → Int32 → Int32 → Option am_R} {K Z : am_H → Option am_R} {S : List Nat} {c : Nat → Int32} {a : Nat ⊕ Value} {p q : am_H → Prop} (hS : am_S h = sh_L L) (hX : am_I h 0 = xs) (hn : n + 6 ≤ L) (hL : L ≤ 3072) (hR : RfAt h 78) (hc : ∀ E, E ∈ S → ¬ c E = 0) (sh : shJ S a) (hF : WO (F h (xs (n + 1)) (xs (n + 2)) (xs (n + 3))) h c a p) (hG : ∀ e h', gX e h h' → RP (R h' (xs (n + 1)) (xs (n + 2)) (xs (n + 3))) h' c (.long 0) a q) : ∃ h', (am_ar h 15 0 (nI n + 1) fun j1 => am_ar h 15 0 (nI n + 2) fun j2 => am_ar h 15 0 (nI n + 3) fun j3 => am_ci (F h (am_I h 0 j1) (am_I h 0 j2) (am_I h 0 j3)) fun x h2 => am_ar h2 15 0 (nI n + 1) fun j1 => am_ar h2 15 0 (nI n + 2) fun j2 => am_ar h2 15 0 (nI n + 3) fun j3 => am_ck h2 78 8 <| am_cl (R h2 (am_I h2 0 j1) (am_I h2 0 j2) (am_I h2 0 j3)) fun y h3 => tlJ d x y h3 K Z) = K h' ∧ LN h h' p q := by
  have at1 : ∀ e h', gX e h h' → am_S h' = sh_L L ∧ am_I h' 0 = xs ∧ RfAt h' 78 := fun e h' g => ⟨g.1.trans hS, (g.2.2.2 0 (Or.inr rfl)).1.trans hX, RfAt_of hR g.1 (fun b p r => (g.2.2.2 b (by omega)).2.2)⟩
  rw [show nI n + 1 = nI (n + 1) from nI_k n 1, sc_r hS hX (by omega) hL, show nI n + 2 = nI (n + 2) from nI_k n 2, sc_r hS hX (by omega) hL, show nI n + 3 = nI (n + 3) from nI_k n 3, sc_r hS hX (by omega) hL, hX]
  cases a with
  | inl E =>
    obtain ⟨h1, e1, g1, p1⟩ := hF
    obtain ⟨s1, x1, k1⟩ := at1 1 h1 g1
    obtain ⟨h2, e2, g2, q2, z2⟩ := hG 1 h1 g1
    have k2 : RfAt h2 78 := RfAt_of k1 g2.1 (fun _ _ _ => by rw [g2.2.2.2.1])
    refine ⟨h2, ?_, 1, h1, by omega, g1, g2, p1, q2⟩
    rw [lz_ci e1, sc_r s1 x1 (by omega) hL, sc_r s1 x1 (by omega) hL, sc_r s1 x1 (by omega) hL, x1, lz_k (Rf_k k1), lz_cl e2, tlJ_e k2 (hc E sh) z2]
  | inr v =>
    obtain ⟨y, rfl⟩ := sh
    obtain ⟨h1, e1, g1, p1, w1⟩ := hF
    obtain ⟨s1, x1, k1⟩ := at1 0 h1 g1
    obtain ⟨h2, e2, g2, q2, z2⟩ := hG 0 h1 g1
    have k2 : RfAt h2 78 := RfAt_of k1 g2.1 (fun _ _ _ => by rw [g2.2.2.2.1])
    have w2 : am_L h2 1613 0 = y := by
      rw [(g2.2.2.2.2 1613 (by omega)).2]
      exact w1
    refine ⟨h2, ?_, 0, h1, by omega, g1, g2, p1, q2⟩
    rw [lz_ci e1, sc_r s1 x1 (by omega) hL, sc_r s1 x1 (by omega) hL, sc_r s1 x1 (by omega) hL, x1, lz_k (Rf_k k1), lz_cl e2, tlJ_v k2 (g2.1.trans s1) z2 w2]
theorem ln3B {d n L : Nat} {xs : Nat → Int32} {h : am_H} {F R : am_H → Int32 → Int32 → Int32 → Option am_R} {K Z : am_H → Option am_R} {S : List Nat} {c : Nat → Int32} {a : Nat ⊕ Value} {p q : am_H → Prop} (hS : am_S h = sh_L L) (hX : am_I h 0 = xs) (hn : n + 6 ≤ L) (hL : L ≤ 3072) (hR : RfAt h 78) (hc : ∀ E, E ∈ S → ¬ c E = 0) (sh : shB S a) (hF : WO (F h (xs (n + 1)) (xs (n + 2)) (xs (n + 3))) h c a p) (hG : ∀ e h', gX e h h' → RP (R h' (xs (n + 1)) (xs (n + 2)) (xs (n + 3))) h' c (.int 0) a q) : ∃ h', (am_ar h 15 0 (nI n + 1) fun j1 => am_ar h 15 0 (nI n + 2) fun j2 => am_ar h 15 0 (nI n + 3) fun j3 => am_ci (F h (am_I h 0 j1) (am_I h 0 j2) (am_I h 0 j3)) fun x h2 => am_ar h2 15 0 (nI n + 1) fun j1 => am_ar h2 15 0 (nI n + 2) fun j2 => am_ar h2 15 0 (nI n + 3) fun j3 => am_ck h2 78 8 <| am_ci (R h2 (am_I h2 0 j1) (am_I h2 0 j2) (am_I h2 0 j3)) fun y h3 => tlB d x y h3 K Z) = K h' ∧ LN h h' p q := by
  have at1 : ∀ e h', gX e h h' → am_S h' = sh_L L ∧ am_I h' 0 = xs ∧ RfAt h' 78 := fun e h' g => ⟨g.1.trans hS, (g.2.2.2 0 (Or.inr rfl)).1.trans hX, RfAt_of hR g.1 (fun b p r => (g.2.2.2 b (by omega)).2.2)⟩
  rw [show nI n + 1 = nI (n + 1) from nI_k n 1, sc_r hS hX (by omega) hL, show nI n + 2 = nI (n + 2) from nI_k n 2, sc_r hS hX (by omega) hL, show nI n + 3 = nI (n + 3) from nI_k n 3, sc_r hS hX (by omega) hL, hX]
  cases a with
  | inl E =>
    obtain ⟨h1, e1, g1, p1⟩ := hF
    obtain ⟨s1, x1, k1⟩ := at1 1 h1 g1
    obtain ⟨h2, e2, g2, q2, z2⟩ := hG 1 h1 g1
    have k2 : RfAt h2 78 := RfAt_of k1 g2.1 (fun _ _ _ => by rw [g2.2.2.2.1])
    refine ⟨h2, ?_, 1, h1, by omega, g1, g2, p1, q2⟩
    rw [lz_ci e1, sc_r s1 x1 (by omega) hL, sc_r s1 x1 (by omega) hL, sc_r s1 x1 (by omega) hL, x1, lz_k (Rf_k k1), lz_ci e2, tlB_e k2 (hc E sh) z2]
  | inr v =>
    obtain ⟨y, rfl⟩ := sh
    obtain ⟨h1, e1, g1, p1, w1⟩ := hF
    obtain ⟨s1, x1, k1⟩ := at1 0 h1 g1
    obtain ⟨h2, e2, g2, q2, z2⟩ := hG 0 h1 g1
    have k2 : RfAt h2 78 := RfAt_of k1 g2.1 (fun _ _ _ => by rw [g2.2.2.2.1])
    have w2 : am_L h2 1613 0 = Int32.toInt64 (bo y) := by
      rw [(g2.2.2.2.2 1613 (by omega)).2]
      exact w1
    refine ⟨h2, ?_, 0, h1, by omega, g1, g2, p1, q2⟩
    rw [lz_ci e1, sc_r s1 x1 (by omega) hL, sc_r s1 x1 (by omega) hL, sc_r s1 x1 (by omega) hL, x1, lz_k (Rf_k k1), lz_ci e2, tlB_v k2 (g2.1.trans s1) z2 w2]
