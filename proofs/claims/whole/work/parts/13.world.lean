/-! ===== the abstract heap, seen in the machine's heap ===== -/
abbrev sm_cl : List vw_C := [(RX0, TX0, 8), (RX1, TX1, 2), (RX2, TX2, 17), (RX3, TX3, 18), (RX4, TX4, 10), (RX5, TX5, 18), (RX6, TX6, 3), (RX7, TX7, 18), (RX8, TX8, 45)]
def sm_ty (c : Nat) : Nat → FieldType := match c with
  | 0 => tyX0
  | 1 => tyX1
  | 2 => tyX2
  | 3 => tyX3
  | 4 => tyX4
  | 5 => tyX5
  | 6 => tyX6
  | 7 => tyX7
  | _ => tyX8
def sm_N (c : Nat) : Nat := match c with
  | 0 => 8
  | 1 => 2
  | 2 => 17
  | 3 => 18
  | 4 => 10
  | 5 => 18
  | 6 => 3
  | 7 => 18
  | _ => 45
/-- a value, its references seen -/
def sm_v (g : Nat → Nat) : Value → Value
  | .ref i => .ref (g i)
  | v => v
theorem sm_v_cat (g : Nat → Nat) (v : Value) : (sm_v g v).category = v.category := by cases v <;> rfl
def sm_fv (g : Nat → Nat) (ty : FieldType) (h : am_H) (i j : Nat) : Value := match ty with
  | .long => .long (am_L h i j)
  | .object _ => va_rf ((am_P h i j).map g)
  | .array _ => va_rf ((am_P h i j).map g)
  | _ => .int (am_I h i j)
def sm_fs (g : Nat → Nat) (h : am_H) (i c : Nat) : List Value := (List.range (sm_N c)).map (fun j => sm_fv g (sm_ty c j) h i j)
def sm_ar (g : Nat → Nat) (h : am_H) (i k : Nat) : (Nat → Int32) ⊕ (Nat → Int64) ⊕ (Nat → UInt32) ⊕ (Nat → UInt64) ⊕ (Nat → Option Nat) :=
  if k = 10 then .inr (.inl (am_L h i)) else if k = 13 ∨ k = 14 then .inr (.inr (.inr (.inr (fun j => (am_P h i j).map g)))) else .inl (am_I h i)
def sm_ce (cA : Nat → ClassId) (g : Nat → Nat) (h : am_H) (i : Nat) : va_E := match (am_S h)[i]? with
  | some q => if q.1 < 9 then .inr (q.1, sm_fs g h i q.1) else .inl (cA q.1, q.2, sm_ar g h i q.1)
  | none => .inr (0, [])
def sm_ws (cA : Nat → ClassId) (g : Nat → Nat) (h : am_H) : va_W := (List.range ((am_S h).length - 1)).map (fun i => (g (i + 1), sm_ce cA g h (i + 1)))
def sm_tys (cA : Nat → ClassId) : List (ClassId × FieldType) := [(cA 9, .int), (cA 10, .long), (cA 11, .byte), (cA 12, .boolean), (cA 13, .array .int), (cA 14, .array .long)]
theorem sm_at {cA : Nat → ClassId} {g : Nat → Nat} {h : am_H} {o : Nat} {q : Nat × Nat} (hq : (am_S h)[o]? = some q) (h0 : o ≠ 0) : (sm_ws cA g h)[o - 1]? = some (g o, sm_ce cA g h o) := by
  have hl : o < (am_S h).length := (List.getElem?_eq_some_iff.mp hq).1
  unfold sm_ws
  rw [List.getElem?_map, List.getElem?_range (by omega)]
  have e : o - 1 + 1 = o := by omega
  simp [e]
theorem sm_ce_o {cA : Nat → ClassId} {g : Nat → Nat} {h : am_H} {o k n : Nat} (hq : (am_S h)[o]? = some (k, n)) (hk : k < 9) : sm_ce cA g h o = .inr (k, sm_fs g h o k) := by
  unfold sm_ce
  rw [hq]
  simp [hk]
theorem sm_ce_a {cA : Nat → ClassId} {g : Nat → Nat} {h : am_H} {o k n : Nat} (hq : (am_S h)[o]? = some (k, n)) (hk : ¬ k < 9) : sm_ce cA g h o = .inl (cA k, n, sm_ar g h o k) := by
  unfold sm_ce
  rw [hq]
  simp [hk]
theorem sm_fs_at {g : Nat → Nat} {h : am_H} {i c j : Nat} (hj : j < sm_N c) : (sm_fs g h i c)[j]? = some (sm_fv g (sm_ty c j) h i j) := by
  unfold sm_fs
  rw [List.getElem?_map, List.getElem?_range hj]
  rfl
theorem sm_ce_congr {cA : Nat → ClassId} {g : Nat → Nat} {h h' : am_H} {i : Nat} (hS : am_S h' = am_S h) (hI : am_I h' i = am_I h i) (hL : am_L h' i = am_L h i) (hP : am_P h' i = am_P h i) : sm_ce cA g h' i = sm_ce cA g h i := by
  unfold sm_ce sm_fs sm_ar sm_fv
  rw [hS, hI, hL, hP]
theorem sm_set {cA : Nat → ClassId} {g : Nat → Nat} {h h' : am_H} {o : Nat} {E : va_E} (hS : am_S h' = am_S h) (h0 : o ≠ 0) (hlt : o < (am_S h).length) (hne : ∀ i, i ≠ o → sm_ce cA g h' i = sm_ce cA g h i) (he : sm_ce cA g h' o = E) : (sm_ws cA g h).set (o - 1) (g o, E) = sm_ws cA g h' := by
  apply List.ext_getElem?
  intro k
  unfold sm_ws
  rw [hS, List.getElem?_set]
  simp only [List.length_map, List.length_range, List.getElem?_map]
  by_cases hk : o - 1 = k
  · subst hk
    have e : o - 1 + 1 = o := by omega
    rw [if_pos rfl, if_pos (by omega), List.getElem?_range (by omega)]
    simp [e, he]
  · rw [if_neg hk]
    by_cases hk2 : k < (am_S h).length - 1
    · rw [List.getElem?_range hk2]
      simp [hne (k + 1) (by omega)]
    · have hn0 : (List.range ((am_S h).length - 1))[k]? = none := List.getElem?_eq_none (by rw [List.length_range]; omega)
      rw [hn0]
      rfl
theorem am_up_ne {α : Type} {f : Nat → Nat → α} {a i b : Nat} {v : α} (h : b ≠ a) : am_up f a i v b = f b := by
  funext j
  simp [am_up, h]
theorem am_up_eq {α : Type} {f : Nat → Nat → α} {a i : Nat} {v : α} : am_up f a i v a = fun j => if j = i then v else f a j := by
  funext j
  simp [am_up]
theorem am_rw_ne {α : Type} {f : Nat → Nat → α} {a b : Nat} {g : Nat → α} (h : b ≠ a) : am_rw f a g b = f b := by
  funext j
  simp [am_rw, h]
theorem am_rw_eq {α : Type} {f : Nat → Nat → α} {a : Nat} {g : Nat → α} : am_rw f a g a = g := by
  funext j
  simp [am_rw]
/-- a store into a cell: what changes is that cell alone -/
theorem sm_ce_sI {cA : Nat → ClassId} {g : Nat → Nat} {h : am_H} {o j i : Nat} {x : Int32} (hi : i ≠ o) : sm_ce cA g (am_sI h o j x) i = sm_ce cA g h i := sm_ce_congr rfl (am_up_ne hi) rfl rfl
theorem sm_ce_sL {cA : Nat → ClassId} {g : Nat → Nat} {h : am_H} {o j i : Nat} {x : Int64} (hi : i ≠ o) : sm_ce cA g (am_sL h o j x) i = sm_ce cA g h i := sm_ce_congr rfl rfl (am_up_ne hi) rfl
theorem sm_ce_sP {cA : Nat → ClassId} {g : Nat → Nat} {h : am_H} {o j i : Nat} {x : Option Nat} (hi : i ≠ o) : sm_ce cA g (am_sP h o j x) i = sm_ce cA g h i := sm_ce_congr rfl rfl rfl (am_up_ne hi)
theorem sm_fs_set {g : Nat → Nat} {h h' : am_H} {i c j : Nat} {v : Value} (hj : j < sm_N c) (hv : sm_fv g (sm_ty c j) h' i j = v) (hne : ∀ k, k ≠ j → sm_fv g (sm_ty c k) h' i k = sm_fv g (sm_ty c k) h i k) : sm_fs g h' i c = (sm_fs g h i c).set j v := by
  apply List.ext_getElem?
  intro k
  unfold sm_fs
  rw [List.getElem?_set]
  simp only [List.length_map, List.length_range, List.getElem?_map]
  by_cases hk : j = k
  · subst hk
    rw [if_pos rfl, if_pos hj, List.getElem?_range hj]
    simp [hv]
  · rw [if_neg hk]
    by_cases hk2 : k < sm_N c
    · rw [List.getElem?_range hk2]
      simp [hne k (fun e => hk e.symm)]
    · have hn0 : (List.range (sm_N c))[k]? = none := List.getElem?_eq_none (by rw [List.length_range]; omega)
      rw [hn0]
      rfl
theorem sm_fv_I {g : Nat → Nat} {ty : FieldType} {h : am_H} {o j k : Nat} {x : Int32} (hk : k ≠ j) : sm_fv g ty (am_sI h o j x) o k = sm_fv g ty h o k := by
  have e : am_I (am_sI h o j x) o k = am_I h o k := by simp [am_I, am_sI, am_up, hk]
  unfold sm_fv
  rw [e]
  rfl
theorem sm_fv_L {g : Nat → Nat} {ty : FieldType} {h : am_H} {o j k : Nat} {x : Int64} (hk : k ≠ j) : sm_fv g ty (am_sL h o j x) o k = sm_fv g ty h o k := by
  have e : am_L (am_sL h o j x) o k = am_L h o k := by simp [am_L, am_sL, am_up, hk]
  unfold sm_fv
  rw [e]
  rfl
theorem sm_fv_P {g : Nat → Nat} {ty : FieldType} {h : am_H} {o j k : Nat} {x : Option Nat} (hk : k ≠ j) : sm_fv g ty (am_sP h o j x) o k = sm_fv g ty h o k := by
  have e : am_P (am_sP h o j x) o k = am_P h o k := by simp [am_P, am_sP, am_up, hk]
  unfold sm_fv
  rw [e]
  rfl
/-- cells and slots so far -/
def am_nc (h : am_H) : Nat := (am_S h).length + am_G h
def am_ns (h : am_H) : Nat := ((am_S h).map fun q => q.2).sum + am_T h
def am_le (h h' : am_H) : Prop := am_nc h ≤ am_nc h' ∧ am_ns h ≤ am_ns h'
theorem am_le.rf (h : am_H) : am_le h h := ⟨Nat.le_refl _, Nat.le_refl _⟩
theorem am_le.tr {a b c : am_H} (h1 : am_le a b) (h2 : am_le b c) : am_le a c := ⟨Nat.le_trans h1.1 h2.1, Nat.le_trans h1.2 h2.2⟩
/-- the cells are apart, and lie from B on -/
theorem sm_D {cA : Nat → ClassId} {g : Nat → Nat} {B : Nat} {h : am_H} (hg : ∀ i, 1 ≤ i → i ≤ 900001 → g i = B + (i - 1)) (hl : (am_S h).length ≤ 900001) : va_D (fun q => B ≤ q) (sm_ws cA g h) := by
  have key : ∀ (k : Nat) (q : Nat × va_E), (sm_ws cA g h)[k]? = some q → q.1 = B + k := by
    intro k q hk
    unfold sm_ws at hk
    rw [List.getElem?_map] at hk
    by_cases h2 : k < (am_S h).length - 1
    · rw [List.getElem?_range h2] at hk
      cases hk
      show g (k + 1) = B + k
      rw [hg (k + 1) (by omega) (by omega)]
      omega
    · have hn0 : (List.range ((am_S h).length - 1))[k]? = none := List.getElem?_eq_none (by rw [List.length_range]; omega)
      rw [hn0] at hk
      cases hk
  refine ⟨fun i j p q hi hj e => ?_, fun k q hk => ?_⟩
  · have := key i p hi
    have := key j q hj
    omega
  · show B ≤ q.1
    rw [key k q hk]
    omega
