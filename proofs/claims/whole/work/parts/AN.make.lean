/-! ===== making: cells appended, places set ===== -/
abbrev zc_T : Type := (Nat × Nat) ⊕ (Nat × Nat × Nat × Nat) ⊕ (Nat × Nat × Int32) ⊕ (Nat × Nat × Int64) ⊕ (Nat × Nat × Option Nat)
abbrev zc_N (k n : Nat) : zc_T := .inl (k, n)
abbrev zc_M (a b n k : Nat) : zc_T := .inr (.inl (a, b, n, k))
abbrev zc_I (b j : Nat) (v : Int32) : zc_T := .inr (.inr (.inl (b, j, v)))
abbrev zc_L (b j : Nat) (v : Int64) : zc_T := .inr (.inr (.inr (.inl (b, j, v))))
abbrev zc_P (b j : Nat) (v : Option Nat) : zc_T := .inr (.inr (.inr (.inr (b, j, v))))
def zc_1 (h : am_H) (s : zc_T) : am_H := match s with
  | .inl q => am_nw h q
  | .inr (.inl (a, b, n, k)) => am_nm h a b n k
  | .inr (.inr (.inl (b, j, v))) => am_sI h b j v
  | .inr (.inr (.inr (.inl (b, j, v)))) => am_sL h b j v
  | .inr (.inr (.inr (.inr (b, j, v)))) => am_sP h b j v
def zc_R (h : am_H) (l : List zc_T) : am_H := match l with
  | [] => h
  | s :: t => zc_R (zc_1 h s) t
def zc_s1 (s : zc_T) : List (Nat × Nat) := match s with
  | .inl q => [q]
  | .inr (.inl (a, b, n, k)) => (a, n) :: List.replicate n (b, k)
  | .inr (.inr _) => []
def zc_S (l : List zc_T) : List (Nat × Nat) := match l with
  | [] => []
  | s :: t => zc_s1 s ++ zc_S t
theorem zc_S1 (h : am_H) (s : zc_T) : am_S (zc_1 h s) = am_S h ++ zc_s1 s := by
  rcases s with q | ⟨a, b, n, k⟩ | ⟨b, j, v⟩ | ⟨b, j, v⟩ | ⟨b, j, v⟩
  · rfl
  · rfl
  · exact (List.append_nil _).symm
  · exact (List.append_nil _).symm
  · exact (List.append_nil _).symm
theorem zc_Sh : ∀ (l : List zc_T) (h : am_H), am_S (zc_R h l) = am_S h ++ zc_S l
  | [], h => (List.append_nil _).symm
  | s :: t, h => (zc_Sh t (zc_1 h s)).trans (by rw [zc_S1, List.append_assoc]; rfl)
theorem zc_G1 (h : am_H) (s : zc_T) : am_G (zc_1 h s) = am_G h ∧ am_T (zc_1 h s) = am_T h := by
  rcases s with q | ⟨a, b, n, k⟩ | ⟨b, j, v⟩ | ⟨b, j, v⟩ | ⟨b, j, v⟩ <;> exact ⟨rfl, rfl⟩
theorem zc_Gr : ∀ (l : List zc_T) (h : am_H), am_G (zc_R h l) = am_G h ∧ am_T (zc_R h l) = am_T h
  | [], h => ⟨rfl, rfl⟩
  | s :: t, h => ⟨(zc_Gr t (zc_1 h s)).1.trans (zc_G1 h s).1, (zc_Gr t (zc_1 h s)).2.trans (zc_G1 h s).2⟩
theorem zc_e1 {α : Type} (b n : Nat) (x y : α) : (if b = n then x else y) = bif Nat.beq b n then x else y := by
  cases e : Nat.beq b n with
  | true => rw [if_pos (Nat.eq_of_beq_eq_true e)]; rfl
  | false => rw [if_neg (Nat.ne_of_beq_eq_false e)]; rfl
theorem zc_e2 {α : Type} (b n : Nat) (x y : α) : (if n ≤ b then x else y) = bif Nat.ble n b then x else y := by
  cases e : Nat.ble n b with
  | true => rw [if_pos (Nat.le_of_ble_eq_true e)]; rfl
  | false => rw [if_neg (fun c => by rw [Nat.ble_eq_true_of_le c] at e; cases e)]; rfl
theorem zc_e3 {α : Type} (b a j i : Nat) (x y : α) : (if b = a ∧ j = i then x else y) = bif Nat.beq b a && Nat.beq j i then x else y := by
  cases e : Nat.beq b a with
  | true =>
    cases e2 : Nat.beq j i with
    | true => rw [if_pos ⟨Nat.eq_of_beq_eq_true e, Nat.eq_of_beq_eq_true e2⟩]; rfl
    | false => rw [if_neg (fun c => Nat.ne_of_beq_eq_false e2 c.2)]; rfl
  | false => rw [if_neg (fun c => Nat.ne_of_beq_eq_false e c.1)]; rfl
/-- how many cells a step adds; what it makes of references, ints, longs -/
def zc_n1 (n : Nat) (s : zc_T) : Nat := match s with
  | .inl _ => n + 1
  | .inr (.inl (_, _, m, _)) => n + m + 1
  | .inr (.inr _) => n
def zc_p1 (n : Nat) (P : Nat → Nat → Option Nat) (s : zc_T) : Nat → Nat → Option Nat := match s with
  | .inl _ => fun b j => bif Nat.beq b n then none else P b j
  | .inr (.inl (_, _, m, _)) => fun b j => bif Nat.beq b n then (bif Nat.ble (j + 1) m then some (n + 1 + j) else none) else bif Nat.ble n b then none else P b j
  | .inr (.inr (.inr (.inr (a, i, v)))) => fun b j => bif Nat.beq b a && Nat.beq j i then v else P b j
  | _ => P
def zc_i1 (n : Nat) (P : Nat → Nat → Int32) (s : zc_T) : Nat → Nat → Int32 := match s with
  | .inl _ => fun b j => bif Nat.beq b n then 0 else P b j
  | .inr (.inl _) => fun b j => bif Nat.ble n b then 0 else P b j
  | .inr (.inr (.inl (a, i, v))) => fun b j => bif Nat.beq b a && Nat.beq j i then v else P b j
  | _ => P
def zc_l1 (n : Nat) (P : Nat → Nat → Int64) (s : zc_T) : Nat → Nat → Int64 := match s with
  | .inl _ => fun b j => bif Nat.beq b n then 0 else P b j
  | .inr (.inl _) => fun b j => bif Nat.ble n b then 0 else P b j
  | .inr (.inr (.inr (.inl (a, i, v)))) => fun b j => bif Nat.beq b a && Nat.beq j i then v else P b j
  | _ => P
theorem zc_nS (h : am_H) (s : zc_T) : (am_S (zc_1 h s)).length = zc_n1 (am_S h).length s := by
  rw [zc_S1, List.length_append]
  rcases s with q | ⟨a, b, n, k⟩ | ⟨b, j, v⟩ | ⟨b, j, v⟩ | ⟨b, j, v⟩
  · rfl
  · show (am_S h).length + (List.length (List.replicate n (b, k)) + 1) = _
    rw [List.length_replicate]
    rfl
  · rfl
  · rfl
  · rfl
theorem zc_P1 (h : am_H) (s : zc_T) : am_P (zc_1 h s) = zc_p1 (am_S h).length (am_P h) s := by
  rcases s with q | ⟨a, b, n, k⟩ | ⟨b, j, v⟩ | ⟨b, j, v⟩ | ⟨b, j, v⟩
  · funext x y
    exact zc_e1 x (am_S h).length none (am_P h x y)
  · funext x y
    show (if x = (am_S h).length then (if y < n then some ((am_S h).length + 1 + y) else none) else if (am_S h).length ≤ x then none else am_P h x y) = _
    rw [zc_e1, zc_e2, show (if y < n then some ((am_S h).length + 1 + y) else none) = bif Nat.ble (y + 1) n then some ((am_S h).length + 1 + y) else none from zc_e2 n (y + 1) _ _]
    rfl
  · rfl
  · rfl
  · funext x y
    exact zc_e3 x b y j v (am_P h x y)
theorem zc_I1 (h : am_H) (s : zc_T) : am_I (zc_1 h s) = zc_i1 (am_S h).length (am_I h) s := by
  rcases s with q | ⟨a, b, n, k⟩ | ⟨b, j, v⟩ | ⟨b, j, v⟩ | ⟨b, j, v⟩
  · funext x y
    exact zc_e1 x (am_S h).length 0 (am_I h x y)
  · funext x y
    exact zc_e2 x (am_S h).length 0 (am_I h x y)
  · funext x y
    exact zc_e3 x b y j v (am_I h x y)
  · rfl
  · rfl
theorem zc_L1 (h : am_H) (s : zc_T) : am_L (zc_1 h s) = zc_l1 (am_S h).length (am_L h) s := by
  rcases s with q | ⟨a, b, n, k⟩ | ⟨b, j, v⟩ | ⟨b, j, v⟩ | ⟨b, j, v⟩
  · funext x y
    exact zc_e1 x (am_S h).length 0 (am_L h x y)
  · funext x y
    exact zc_e2 x (am_S h).length 0 (am_L h x y)
  · rfl
  · funext x y
    exact zc_e3 x b y j v (am_L h x y)
  · rfl
def zc_p (n : Nat) (P : Nat → Nat → Option Nat) (l : List zc_T) : Nat → Nat → Option Nat := match l with
  | [] => P
  | s :: t => zc_p (zc_n1 n s) (zc_p1 n P s) t
def zc_i (n : Nat) (P : Nat → Nat → Int32) (l : List zc_T) : Nat → Nat → Int32 := match l with
  | [] => P
  | s :: t => zc_i (zc_n1 n s) (zc_i1 n P s) t
def zc_l (n : Nat) (P : Nat → Nat → Int64) (l : List zc_T) : Nat → Nat → Int64 := match l with
  | [] => P
  | s :: t => zc_l (zc_n1 n s) (zc_l1 n P s) t
theorem zc_pe : ∀ (l : List zc_T) (h : am_H) (n : Nat), (am_S h).length = n → am_P (zc_R h l) = zc_p n (am_P h) l
  | [], _, _, _ => rfl
  | s :: t, h, n, e => (zc_pe t (zc_1 h s) (zc_n1 n s) (by rw [zc_nS, e])).trans (by rw [zc_P1, e]; rfl)
theorem zc_ie : ∀ (l : List zc_T) (h : am_H) (n : Nat), (am_S h).length = n → am_I (zc_R h l) = zc_i n (am_I h) l
  | [], _, _, _ => rfl
  | s :: t, h, n, e => (zc_ie t (zc_1 h s) (zc_n1 n s) (by rw [zc_nS, e])).trans (by rw [zc_I1, e]; rfl)
theorem zc_le : ∀ (l : List zc_T) (h : am_H) (n : Nat), (am_S h).length = n → am_L (zc_R h l) = zc_l n (am_L h) l
  | [], _, _, _ => rfl
  | s :: t, h, n, e => (zc_le t (zc_1 h s) (zc_n1 n s) (by rw [zc_nS, e])).trans (by rw [zc_L1, e]; rfl)
/-- a cell that no step sets stays -/
def zc_t1 (c : Nat) (s : zc_T) : Bool := match s with
  | .inr (.inr (.inl (b, _, _))) => !Nat.beq b c
  | .inr (.inr (.inr (.inl (b, _, _)))) => !Nat.beq b c
  | .inr (.inr (.inr (.inr (b, _, _)))) => !Nat.beq b c
  | _ => true
theorem zc_k1 {h : am_H} {s : zc_T} {c : Nat} (hc : c < (am_S h).length) (ht : zc_t1 c s = true) : am_I (zc_1 h s) c = am_I h c ∧ am_L (zc_1 h s) c = am_L h c ∧ am_P (zc_1 h s) c = am_P h c := by
  have ne : ∀ b, (!Nat.beq b c) = true → ¬ c = b := fun b e q => by
    rw [q] at e
    rw [show Nat.beq b b = true from Nat.beq_refl b] at e
    cases e
  rcases s with q | ⟨a, b, n, k⟩ | ⟨b, j, v⟩ | ⟨b, j, v⟩ | ⟨b, j, v⟩
  · refine ⟨?_, ?_, ?_⟩
    · funext i
      exact if_neg (by omega)
    · funext i
      exact if_neg (by omega)
    · funext i
      exact if_neg (by omega)
  · refine ⟨?_, ?_, ?_⟩
    · funext i
      exact if_neg (by omega)
    · funext i
      exact if_neg (by omega)
    · funext i
      exact (if_neg (by omega)).trans (if_neg (by omega))
  · refine ⟨?_, rfl, rfl⟩
    funext i
    exact if_neg (fun q => ne b ht q.1)
  · refine ⟨rfl, ?_, rfl⟩
    funext i
    exact if_neg (fun q => ne b ht q.1)
  · refine ⟨rfl, rfl, ?_⟩
    funext i
    exact if_neg (fun q => ne b ht q.1)
theorem zc_kp : ∀ (l : List zc_T) (h : am_H) (c : Nat), c < (am_S h).length → l.all (zc_t1 c) = true → am_I (zc_R h l) c = am_I h c ∧ am_L (zc_R h l) c = am_L h c ∧ am_P (zc_R h l) c = am_P h c
  | [], _, _, _, _ => ⟨rfl, rfl, rfl⟩
  | s :: t, h, c, hc, ht => by
    rw [List.all_cons, Bool.and_eq_true] at ht
    have k := zc_k1 hc ht.1
    have i := zc_kp t (zc_1 h s) c (by rw [zc_S1, List.length_append]; omega) ht.2
    exact ⟨i.1.trans k.1, i.2.1.trans k.2.1, i.2.2.trans k.2.2⟩
/-- kinds stay -/
theorem zc_ka {h h' : am_H} {r c : Nat} {t : List (Nat × Nat)} (hs : am_S h' = am_S h ++ t) (K : am_kd h r c = true) : am_kd h' r c = true := by
  unfold am_kd at *
  rw [hs]
  cases e : (am_S h)[r]? with
  | none =>
    rw [e] at K
    cases K
  | some p =>
    rw [e] at K
    rw [List.getElem?_append_left (List.getElem?_eq_some_iff.mp e).1, e]
    exact K
theorem zc_kn {h : am_H} {r c : Nat} {q : Nat × Nat} (K : am_kd h r c = true) : am_kd (am_nw h q) r c = true := zc_ka (h := h) (h' := am_nw h q) rfl K
theorem zc_kP {h : am_H} {r c : Nat} {q : Nat × Nat} {b j : Nat} {v : Option Nat} (K : am_kd h r c = true) : am_kd (am_sP (am_nw h q) b j v) r c = true := zc_kn K
theorem zc_km {h : am_H} {r c : Nat} {a b n k : Nat} {b' j : Nat} {v : Option Nat} (K : am_kd h r c = true) : am_kd (am_sP (am_nm h a b n k) b' j v) r c = true := zc_ka (h := h) (h' := am_sP (am_nm h a b n k) b' j v) rfl K
theorem zc_kR {h : am_H} {r c : Nat} {l : List zc_T} (K : am_kd h r c = true) : am_kd (zc_R h l) r c = true := zc_ka (zc_Sh l h) K
theorem zc_kk {h : am_H} {k n r : Nat} (e : (am_S h).length = r) : am_kd (am_nw h (k, n)) r k = true := by
  unfold am_kd
  rw [show am_S (am_nw h (k, n)) = am_S h ++ [(k, n)] from rfl, ← e, List.getElem?_append_right (Nat.le_refl _), Nat.sub_self]
  exact Nat.beq_refl k
theorem zc_ln {h : am_H} {n : Nat} {q : Nat × Nat} {b j : Nat} {v : Option Nat} (e : (am_S h).length = n) : (am_S (am_sP (am_nw h q) b j v)).length = n + 1 := by
  show (am_S h ++ [q]).length = n + 1
  rw [List.length_append, e]
  rfl
theorem zc_lw {h : am_H} {n : Nat} {q : Nat × Nat} (e : (am_S h).length = n) : (am_S (am_nw h q)).length = n + 1 := zc_ln (b := 0) (j := 0) (v := none) e
theorem zc_lm {h : am_H} {n : Nat} {a b m k b' j : Nat} {v : Option Nat} (e : (am_S h).length = n) : (am_S (am_sP (am_nm h a b m k) b' j v)).length = n + m + 1 := by
  show (am_S h ++ ((a, m) :: List.replicate m (b, k))).length = n + m + 1
  rw [List.length_append, e, List.length_cons, List.length_replicate]
  rfl
theorem zc_lR {h : am_H} {n : Nat} {l : List zc_T} (e : (am_S h).length = n) : (am_S (zc_R h l)).length = n + (zc_S l).length := by
  rw [zc_Sh, List.length_append, e]
theorem zc_al {h : am_H} {r c k m : Nat} {n : Int32} (G : am_G h = 0) (K : am_kd h r c = true) (h0 : decide (n < 0) = false) (hm : Nat.ble m 60000000 = true) (x : Option am_R) : (bif Nat.beq (am_G h) 0 && !(decide (n < 0)) && Nat.ble m 60000000 then am_ck (am_nw h (k, m)) r c x else none) = x := by
  rw [G, h0, hm, lz_k (zc_kn K)]
  rfl
theorem zc_am {h : am_H} {r c a b m k : Nat} {n n' : Int32} (G : am_G h = 0) (K : am_kd h r c = true) (h0 : decide (n < 0) = false) (h1 : decide (n' < 0) = false) (hm : Nat.ble m 60000000 = true) (hk : Nat.ble k 60000000 = true) (x : Option am_R) : (bif Nat.beq (am_G h) 0 && !(decide (n < 0) || decide (n' < 0)) && Nat.ble m 60000000 && Nat.ble k 60000000 then am_ck (am_nm h a b m k) r c x else none) = x := by
  rw [G, h0, h1, hm, hk, lz_k (show am_kd (am_nm h a b m k) r c = true from zc_km (b' := 0) (j := 0) (v := none) K)]
  rfl
theorem zc_ob {h : am_H} (G : am_G h = 0) (x : Option am_R) : (bif Nat.beq (am_G h) 0 then x else none) = x := by
  rw [G]
  rfl
theorem tn_3 : Int32.toNatClampNeg 3 = 3 := by decide
theorem tn_5 : Int32.toNatClampNeg 5 = 5 := by decide
theorem tn_8 : Int32.toNatClampNeg 8 = 8 := by decide
theorem tn_20 : Int32.toNatClampNeg 20 = 20 := by decide
theorem tn_24 : Int32.toNatClampNeg 24 = 24 := by decide
theorem tn_32 : Int32.toNatClampNeg 32 = 32 := by decide
theorem tn_60 : Int32.toNatClampNeg 60 = 60 := by decide
theorem tn_64 : Int32.toNatClampNeg 64 = 64 := by decide
theorem tn_400 : Int32.toNatClampNeg 400 = 400 := by decide
theorem tn_480 : Int32.toNatClampNeg 480 = 480 := by decide
theorem tn_1604 : Int32.toNatClampNeg 1604 = 1604 := by decide
theorem tn_3600 : Int32.toNatClampNeg 3600 = 3600 := by decide
