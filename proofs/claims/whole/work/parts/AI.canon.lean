/-! ===== what a longer ontology adds: extents over what is live ===== -/
/-- so many steps: part p of O' holds at x, a live part of O -/
def e_F (O O' : o_T) (B : Nat → Prop) : Nat → Nat → Nat → Prop
  | 0, _, _ => False
  | f + 1, p, x => x < o_P O ∧ ¬ l_A O B x 1 ∧ (o_pk O' p = 1 ∨ (o_pk O' p = 0 ∧ l_A O B x p) ∨ (o_pk O' p = 3 ∧ e_F O O' B f (o_pa O' p) x ∧ e_F O O' B f (o_pb O' p) x) ∨ (o_pk O' p = 4 ∧ ∃ y, e_F O O' B f (o_pb O' p) y ∧ ∃ q, o_un O B q (o_pa O' p) ∧ l_K O B x q y))
def e_E (O O' : o_T) (B : Nat → Prop) (p x : Nat) : Prop := ∃ f, e_F O O' B f p x
theorem e_Fs {O O' : o_T} {B : Nat → Prop} : ∀ f p x, e_F O O' B f p x → e_F O O' B (f + 1) p x
  | 0, _, _, h => h.elim
  | f + 1, p, x, ⟨h1, h2, h⟩ => ⟨h1, h2, by
    rcases h with h | h | ⟨a, b, c⟩ | ⟨a, y, b, c⟩
    · exact Or.inl h
    · exact Or.inr (Or.inl h)
    · exact Or.inr (Or.inr (Or.inl ⟨a, e_Fs f _ _ b, e_Fs f _ _ c⟩))
    · exact Or.inr (Or.inr (Or.inr ⟨a, y, e_Fs f _ _ b, c⟩))⟩
theorem e_Fm {O O' : o_T} {B : Nat → Prop} {f g p x : Nat} (h : f ≤ g) (q : e_F O O' B f p x) : e_F O O' B g p x := by
  induction h with
  | refl => exact q
  | step _ ih => exact e_Fs _ _ _ ih
theorem e_Ei {O O' : o_T} {B : Nat → Prop} (p x : Nat) : e_E O O' B p x ↔ (x < o_P O ∧ ¬ l_A O B x 1 ∧ (o_pk O' p = 1 ∨ (o_pk O' p = 0 ∧ l_A O B x p) ∨ (o_pk O' p = 3 ∧ e_E O O' B (o_pa O' p) x ∧ e_E O O' B (o_pb O' p) x) ∨ (o_pk O' p = 4 ∧ ∃ y, e_E O O' B (o_pb O' p) y ∧ ∃ q, o_un O B q (o_pa O' p) ∧ l_K O B x q y))) := by
  constructor
  · rintro ⟨f, h⟩
    cases f with
    | zero => exact h.elim
    | succ f =>
      obtain ⟨h1, h2, h⟩ := h
      refine ⟨h1, h2, ?_⟩
      rcases h with h | h | ⟨a, b, c⟩ | ⟨a, y, b, c⟩
      · exact Or.inl h
      · exact Or.inr (Or.inl h)
      · exact Or.inr (Or.inr (Or.inl ⟨a, ⟨f, b⟩, ⟨f, c⟩⟩))
      · exact Or.inr (Or.inr (Or.inr ⟨a, y, ⟨f, b⟩, c⟩))
  · rintro ⟨h1, h2, h | h | ⟨a, ⟨f, b⟩, ⟨g, c⟩⟩ | ⟨a, y, ⟨f, b⟩, c⟩⟩
    · exact ⟨1, h1, h2, Or.inl h⟩
    · exact ⟨1, h1, h2, Or.inr (Or.inl h)⟩
    · exact ⟨f + g + 1, h1, h2, Or.inr (Or.inr (Or.inl ⟨a, e_Fm (by omega) b, e_Fm (by omega) c⟩))⟩
    · exact ⟨f + 1, h1, h2, Or.inr (Or.inr (Or.inr ⟨a, y, b, c⟩))⟩
theorem e_El {O O' : o_T} {B : Nat → Prop} {p x : Nat} (h : e_E O O' B p x) : x < o_P O ∧ ¬ l_A O B x 1 := ⟨((e_Ei p x).mp h).1, ((e_Ei p x).mp h).2.1⟩
/-- O' is longer than O -/
def xO (O O' : o_T) : Prop := o_R O' = o_R O ∧ o_A O' = o_A O ∧ (∀ k, o_ak O' k = o_ak O k ∧ o_a1 O' k = o_a1 O k ∧ o_a2 O' k = o_a2 O k ∧ o_a3 O' k = o_a3 O k) ∧ o_P O ≤ o_P O' ∧ (∀ p, p < o_P O → o_pk O' p = o_pk O p ∧ o_pa O' p = o_pa O p ∧ o_pb O' p = o_pb O p) ∧ o_N O' = o_N O ∧ (∀ p, o_P O ≤ p → p < o_P O' → o_pk O' p = 3 ∨ o_pk O' p = 4)
theorem xO_r (O : o_T) : xO O O := ⟨rfl, rfl, fun _ => ⟨rfl, rfl, rfl, rfl⟩, Nat.le_refl _, fun _ _ => ⟨rfl, rfl, rfl⟩, rfl, fun p h1 h2 => absurd h2 (Nat.not_lt.mpr h1)⟩
theorem xD_O {D D' : DT} (h : xD D D') : xO D.1 D'.1 := ⟨h.2.1, h.2.2.1, h.2.2.2.1, h.2.2.2.2.2.1, h.2.2.2.2.2.2.1, h.1, h.2.2.2.2.2.2.2⟩
theorem xO_im {O O' : o_T} (x : xO O O') {B : Nat → Prop} {c d : Nat} : o_im O' B c d ↔ o_im O B c d := by
  unfold o_im
  rw [x.2.1]
  constructor
  · rintro ⟨k, h1, h2, h3⟩
    rw [(x.2.2.1 k).1, (x.2.2.1 k).2.1, (x.2.2.1 k).2.2.1] at h3
    exact ⟨k, h1, h2, h3⟩
  · rintro ⟨k, h1, h2, h3⟩
    refine ⟨k, h1, h2, ?_⟩
    rw [(x.2.2.1 k).1, (x.2.2.1 k).2.1, (x.2.2.1 k).2.2.1]
    exact h3
theorem xO_di {O O' : o_T} (x : xO O O') {B : Nat → Prop} {c d : Nat} : o_di O' B c d ↔ o_di O B c d := by
  unfold o_di
  rw [x.2.1]
  constructor
  · rintro ⟨k, h1, h2, h3⟩
    rw [(x.2.2.1 k).1, (x.2.2.1 k).2.1, (x.2.2.1 k).2.2.1] at h3
    exact ⟨k, h1, h2, h3⟩
  · rintro ⟨k, h1, h2, h3⟩
    refine ⟨k, h1, h2, ?_⟩
    rw [(x.2.2.1 k).1, (x.2.2.1 k).2.1, (x.2.2.1 k).2.2.1]
    exact h3
theorem xO_us {O O' : o_T} (x : xO O O') {B : Nat → Prop} : ∀ n r s, o_us O' B n r s ↔ o_us O B n r s
  | 0, _, _ => Iff.rfl
  | n + 1, r, s => ⟨fun ⟨q, h1, h2⟩ => ⟨q, (xO_us x n r q).mp h1, (xO_di x).mp h2⟩, fun ⟨q, h1, h2⟩ => ⟨q, (xO_us x n r q).mpr h1, (xO_di x).mpr h2⟩⟩
theorem xO_un {O O' : o_T} (x : xO O O') {B : Nat → Prop} {r s : Nat} : o_un O' B r s ↔ o_un O B r s := ⟨fun ⟨n, h⟩ => ⟨n, (xO_us x n r s).mp h⟩, fun ⟨n, h⟩ => ⟨n, (xO_us x n r s).mpr h⟩⟩
theorem xO_rA {O O' : o_T} (x : xO O O') {B : Nat → Prop} {A : Nat → Nat → Prop} {K : Nat → Nat → Nat → Prop} {z y : Nat} (h : r_A O B A K z y) : r_A O' B A K z y := by
  have l := x.2.2.2.1
  rcases h with ⟨c, h1, h2⟩ | ⟨p, h1, h2, h3, h4⟩ | ⟨h1, h2, h3, h4⟩ | ⟨h1, h2, w, ⟨r, h3, h4⟩, h5⟩ | ⟨h1, h2⟩
  · exact Or.inl ⟨c, h1, (xO_im x).mpr h2⟩
  · have e := x.2.2.2.2.1 p h1
    exact Or.inr (Or.inl ⟨p, by omega, e.1.trans h2, h3, by rw [e.2.1, e.2.2]; exact h4⟩)
  · have e := x.2.2.2.2.1 y h1
    exact Or.inr (Or.inr (Or.inl ⟨by omega, e.1.trans h2, by rw [e.2.1]; exact h3, by rw [e.2.2]; exact h4⟩))
  · have e := x.2.2.2.2.1 y h1
    exact Or.inr (Or.inr (Or.inr (Or.inl ⟨by omega, e.1.trans h2, w, ⟨r, by rw [e.2.1]; exact (xO_un x).mpr h3, h4⟩, by rw [e.2.2]; exact h5⟩)))
  · exact Or.inr (Or.inr (Or.inr (Or.inr ⟨h1, h2⟩)))
theorem xO_rK {O O' : o_T} (x : xO O O') {B : Nat → Prop} {A : Nat → Nat → Prop} {K : Nat → Nat → Nat → Prop} {z r y : Nat} (h : r_K O B A K z r y) : r_K O' B A K z r y := by
  have l := x.2.2.2.1
  rcases h with ⟨p, h1, h2, h3, h4, h5⟩ | ⟨k, h1, h2, h3, h4, w, ⟨q, h5, h6⟩, ⟨t, h7, h8⟩⟩
  · have e := x.2.2.2.2.1 p h1
    exact Or.inl ⟨p, by omega, e.1.trans h2, h3, e.2.1.trans h4, e.2.2.trans h5⟩
  · have e := x.2.2.1 k
    exact Or.inr ⟨k, by rw [x.2.1]; exact h1, h2, e.1.trans h3, e.2.2.2.trans h4, w, ⟨q, by rw [e.2.1]; exact (xO_un x).mpr h5, h6⟩, ⟨t, by rw [e.2.2.1]; exact (xO_un x).mpr h7, h8⟩⟩
theorem xO_l {O O' : o_T} (x : xO O O') {B : Nat → Prop} (z : Nat) : (∀ y, l_A O B z y → l_A O' B z y) ∧ (∀ r y, l_K O B z r y → l_K O' B z r y) := by
  have q := s_least (O := O) (B := B) (T := fun _ => True) (A := l_A O' B) (K := l_K O' B) (fun y _ => ⟨l_A0 O' B y, l_AT O' B y⟩) (fun _ _ _ _ _ => trivial) (fun a b _ h => l_cA (xO_rA x h)) (fun a r b _ h => l_cK (xO_rK x h))
  exact ⟨fun y ⟨k, h⟩ => (q k z trivial).1 y h, fun r y ⟨k, h⟩ => (q k z trivial).2 r y h⟩
/-- what is above holds, over parts of O -/
theorem e_tr {O O' : o_T} (x : xO O O') (ok : o_ok O) {B : Nat → Prop} : ∀ c w, c < o_P O → (e_E O O' B c w ↔ (w < o_P O ∧ ¬ l_A O B w 1 ∧ l_A O B w c)) := by
  intro c
  induction c using Nat.strongRecOn with
  | ind c ih =>
    intro w hc
    have okc := ok.2.2.2.2.2.2.2.1 c hc
    have e := x.2.2.2.2.1 c hc
    rw [e_Ei, e.1, e.2.1, e.2.2]
    constructor
    · rintro ⟨h1, h2, h⟩
      refine ⟨h1, h2, ?_⟩
      unfold o_okP at okc
      rcases h with h | h | ⟨a, b, c'⟩ | ⟨a, y, b, q, hq, hk⟩
      · have : c = 0 := by omega
        subst this
        exact l_AT O B w
      · exact h.2
      · have l1 : o_pa O c < c := by omega
        have l2 : o_pb O c < c := by omega
        exact l_cA (Or.inr (Or.inr (Or.inl ⟨hc, a, ((ih _ l1 w (by omega)).mp b).2.2, ((ih _ l2 w (by omega)).mp c').2.2⟩)))
      · have l2 : o_pb O c < c := by omega
        exact l_cA (Or.inr (Or.inr (Or.inr (Or.inl ⟨hc, a, y, ⟨q, hq, hk⟩, ((ih _ l2 y (by omega)).mp b).2.2⟩))))
    · rintro ⟨h1, h2, h⟩
      refine ⟨h1, h2, ?_⟩
      unfold o_okP at okc
      rcases okc with k | k | k | k | k
      · exact Or.inr (Or.inl ⟨k.1, h⟩)
      · exact Or.inl k.2.1
      · rw [k.1] at h
        exact absurd h h2
      · have ha := l_cA (O := O) (B := B) (Or.inr (Or.inl ⟨c, hc, k.1, h, Or.inl rfl⟩))
        have hb := l_cA (O := O) (B := B) (Or.inr (Or.inl ⟨c, hc, k.1, h, Or.inr rfl⟩))
        exact Or.inr (Or.inr (Or.inl ⟨k.1, (ih _ k.2.1 w (by omega)).mpr ⟨h1, h2, ha⟩, (ih _ k.2.2 w (by omega)).mpr ⟨h1, h2, hb⟩⟩))
      · have hk := l_cK (O := O) (B := B) (Or.inl ⟨c, hc, k.1, h, rfl, rfl⟩)
        have lv : ¬ l_A O B (o_pb O c) 1 := fun v => h2 (l_cA (Or.inr (Or.inr (Or.inr (Or.inr ⟨rfl, _, ⟨_, hk⟩, v⟩)))))
        exact Or.inr (Or.inr (Or.inr ⟨k.1, o_pb O c, (ih _ k.2.2 _ (by omega)).mpr ⟨by omega, lv, l_A0 O B _⟩, _, o_un_r O B _, hk⟩))
/-- what follows holds wherever what it follows from does -/
theorem e_so {O O' : o_T} (x : xO O O') (ok : o_ok O) (ok' : o_ok O') {B : Nat → Prop} : ∀ k z, (∀ q, s_A O' B k z q → ∀ w, e_E O O' B z w → e_E O O' B q w) ∧ (∀ r q, s_K O' B k z r q → ∀ w, e_E O O' B z w → ∃ v, e_E O O' B q v ∧ ∃ t, o_un O B t r ∧ l_K O B w t v)
  | 0, z => ⟨fun q h w e => by
      rcases h with rfl | rfl
      · exact e
      · exact (e_Ei 0 w).mpr ⟨(e_El e).1, (e_El e).2, Or.inl ok'.2.2.2.2.2.1⟩, fun _ _ h => absurd h (by intro q; exact q)⟩
  | k + 1, z => by
    refine ⟨fun q h w e => ?_, fun r q h w e => ?_⟩
    · rcases h with h | h
      · exact (e_so x ok ok' k z).1 q h w e
      · rcases h with ⟨c, h1, h2⟩ | ⟨p, h1, h2, h3, h4⟩ | ⟨h1, h2, h3, h4⟩ | ⟨h1, h2, y, ⟨r, h3, h4⟩, h5⟩ | ⟨h1, y, ⟨r, h2⟩, h3⟩
        · have h2' := (xO_im x).mp h2
          have d := o_imd ok h2'
          have f := (e_tr x ok c w d.1).mp ((e_so x ok ok' k z).1 c h1 w e)
          exact (e_tr x ok q w d.2).mpr ⟨f.1, f.2.1, l_cA (Or.inl ⟨c, f.2.2, h2'⟩)⟩
        · have f := ((e_Ei p w).mp ((e_so x ok ok' k z).1 p h3 w e)).2.2
          rcases f with f | f | f | f
          · omega
          · have := f.1; omega
          · rcases h4 with h4 | h4
            · rw [← h4]; exact f.2.1
            · rw [← h4]; exact f.2.2
          · have := f.1; omega
        · have f1 := (e_so x ok ok' k z).1 _ h3 w e
          have f2 := (e_so x ok ok' k z).1 _ h4 w e
          exact (e_Ei q w).mpr ⟨(e_El e).1, (e_El e).2, Or.inr (Or.inr (Or.inl ⟨h2, f1, f2⟩))⟩
        · obtain ⟨v, f1, t, f2, f3⟩ := (e_so x ok ok' k z).2 r y h4 w e
          have f4 := (e_so x ok ok' k y).1 _ h5 v f1
          exact (e_Ei q w).mpr ⟨(e_El e).1, (e_El e).2, Or.inr (Or.inr (Or.inr ⟨h2, v, f4, t, o_un_tr f2 ((xO_un x).mp h3), f3⟩))⟩
        · obtain ⟨v, f1, -⟩ := (e_so x ok ok' k z).2 r y h2 w e
          have f4 := ((e_Ei 1 v).mp ((e_so x ok ok' k y).1 1 h3 v f1)).2.2
          have k1 := ok'.2.2.2.2.2.2.1
          rcases f4 with f | f | f | f
          · omega
          · have := f.1; omega
          · have := f.1; omega
          · have := f.1; omega
    · rcases h with h | h
      · exact (e_so x ok ok' k z).2 r q h w e
      · rcases h with ⟨p, h1, h2, h3, h4, h5⟩ | ⟨j, h1, h2, h3, h4, y, ⟨s, h5, h6⟩, ⟨t, h7, h8⟩⟩
        · have f := ((e_Ei p w).mp ((e_so x ok ok' k z).1 p h3 w e)).2.2
          rcases f with f | f | f | f
          · omega
          · have := f.1; omega
          · have := f.1; omega
          · obtain ⟨-, v, f1, t, f2, f3⟩ := f
            rw [h4] at f2
            rw [h5] at f1
            exact ⟨v, f1, t, f2, f3⟩
        · obtain ⟨v, f1, a, f2, f3⟩ := (e_so x ok ok' k z).2 s y h6 w e
          obtain ⟨u, g1, b, g2, g3⟩ := (e_so x ok ok' k y).2 t q h8 v f1
          have ea := x.2.2.1 j
          rw [ea.2.1] at h5
          rw [ea.2.2.1] at h7
          refine ⟨u, g1, r, o_un_r O B r, l_cK (Or.inr ⟨j, by rw [← x.2.1]; exact h1, h2, ea.1.symm.trans h3, ea.2.2.2.symm.trans h4, v, ⟨a, o_un_tr f2 ((xO_un x).mp h5), f3⟩, ⟨b, o_un_tr g2 ((xO_un x).mp h7), g3⟩⟩)⟩
theorem e_co {O O' : o_T} (x : xO O O') (ok' : o_ok O') {B : Nat → Prop} : ∀ f p w, p < o_P O' → e_F O O' B f p w → l_A O' B w p
  | 0, _, _, _, h => h.elim
  | f + 1, p, w, hp, ⟨h1, h2, h⟩ => by
    have okp := ok'.2.2.2.2.2.2.2.1 p hp
    unfold o_okP at okp
    rcases h with h | h | ⟨a, b, c⟩ | ⟨a, y, b, q, hq, hk⟩
    · have : p = 0 := by omega
      subst this
      exact l_AT O' B w
    · exact (xO_l x w).1 p h.2
    · exact l_cA (Or.inr (Or.inr (Or.inl ⟨hp, a, e_co x ok' f _ w (by omega) b, e_co x ok' f _ w (by omega) c⟩)))
    · exact l_cA (Or.inr (Or.inr (Or.inr (Or.inl ⟨hp, a, y, ⟨q, (xO_un x).mpr hq, (xO_l x w).2 q y hk⟩, e_co x ok' f _ y (by omega) b⟩))))
/-- so both come to the same, over the parts of O -/
theorem e_both {O O' : o_T} (x : xO O O') (ok : o_ok O) (ok' : o_ok O') {B : Nat → Prop} {c : Nat} (hc : c < o_P O') (w : Nat) : (e_E O' O' B c w ∧ w < o_P O) ↔ e_E O O' B c w := by
  rw [e_tr (xO_r O') ok' c w hc]
  have so : ∀ {w q : Nat}, w < o_P O → ¬ l_A O B w 1 → l_A O' B w q → e_E O O' B q w := fun {w q} hw hv ⟨k, h⟩ => (e_so x ok ok' k w).1 q h w ((e_tr x ok w w hw).mpr ⟨hw, hv, l_A0 O B w⟩)
  constructor
  · rintro ⟨⟨h1, h2, h3⟩, hw⟩
    exact so hw (fun v => h2 ((xO_l x w).1 1 v)) h3
  · intro h
    obtain ⟨hw, hv⟩ := e_El h
    refine ⟨⟨Nat.lt_of_lt_of_le hw x.2.2.2.1, fun v => ?_, ?_⟩, hw⟩
    · have f := ((e_Ei 1 w).mp (so hw hv v)).2.2
      have k1 := ok'.2.2.2.2.2.2.1
      rcases f with f | f | f | f
      · omega
      · have := f.1; omega
      · have := f.1; omega
      · have := f.1; omega
    · obtain ⟨f, h⟩ := h
      exact e_co x ok' f c w hc h
theorem xO_np {O O' : o_T} (x : xO O O') (ok : o_ok O) (ok' : o_ok O') {a : Nat} (ha : a < o_N O) : o_np O' a = o_np O a := by
  obtain ⟨h1, h2, h3⟩ := o_np_s ok ha
  have e := x.2.2.2.2.1 _ h1
  have := o_np_e ok' (p := o_np O a) (Nat.lt_of_lt_of_le h1 x.2.2.2.1) (e.1.trans h2)
  rw [e.2.1, h3] at this
  exact this
