/-! ===== modules as numbers ===== -/
def sgN (O : o_T) : Nat → Nat → Int32
  | 0, _ => 0
  | n + 1, p => if o_pk O p = 0 then am_ishl 1 (nI (o_pa O p)) else if o_pk O p = 3 then sgN O n (o_pa O p) ||| sgN O n (o_pb O p) else if o_pk O p = 4 then sgN O n (o_pb O p) else 0
def sgR (O : o_T) : Nat → Nat → Int32
  | 0, _ => 0
  | n + 1, p => if o_pk O p = 3 then sgR O n (o_pa O p) ||| sgR O n (o_pb O p) else if o_pk O p = 4 then am_ishl 1 (nI (o_pa O p)) ||| sgR O n (o_pb O p) else 0
def sgnm (O : o_T) (p : Nat) : Int32 := sgN O (p + 1) p
def sgrl (O : o_T) (p : Nat) : Int32 := sgR O (p + 1) p
theorem o_ch {O : o_T} (ok : o_ok O) {p : Nat} (hp : p < o_P O) : (o_pk O p = 3 → o_pa O p < p ∧ o_pb O p < p) ∧ (o_pk O p = 4 → o_pa O p < o_R O ∧ o_pb O p < p) ∧ (o_pk O p = 0 → o_pa O p < o_N O) ∧ o_pk O p < 5 := by
  have := ok.2.2.2.2.2.2.2.1 p hp
  unfold o_okP at this
  omega
theorem sgN_f {O : o_T} (ok : o_ok O) : ∀ n m p, p < n → p < m → p < o_P O → sgN O n p = sgN O m p
  | 0, _, p, h, _, _ => absurd h (Nat.not_lt_zero p)
  | n + 1, 0, p, _, h, _ => absurd h (Nat.not_lt_zero p)
  | n + 1, m + 1, p, h1, h2, hp => by
    obtain ⟨c3, c4, c0, -⟩ := o_ch ok hp
    rw [sgN, sgN]
    by_cases e0 : o_pk O p = 0
    · rw [if_pos e0, if_pos e0]
    · rw [if_neg e0, if_neg e0]
      by_cases e3 : o_pk O p = 3
      · have := c3 e3
        rw [if_pos e3, if_pos e3, sgN_f ok n m _ (by omega) (by omega) (by omega), sgN_f ok n m (o_pb O p) (by omega) (by omega) (by omega)]
      · rw [if_neg e3, if_neg e3]
        by_cases e4 : o_pk O p = 4
        · have := c4 e4
          rw [if_pos e4, if_pos e4, sgN_f ok n m (o_pb O p) (by omega) (by omega) (by omega)]
        · rw [if_neg e4, if_neg e4]
theorem sgR_f {O : o_T} (ok : o_ok O) : ∀ n m p, p < n → p < m → p < o_P O → sgR O n p = sgR O m p
  | 0, _, p, h, _, _ => absurd h (Nat.not_lt_zero p)
  | n + 1, 0, p, _, h, _ => absurd h (Nat.not_lt_zero p)
  | n + 1, m + 1, p, h1, h2, hp => by
    obtain ⟨c3, c4, c0, -⟩ := o_ch ok hp
    rw [sgR, sgR]
    by_cases e3 : o_pk O p = 3
    · have := c3 e3
      rw [if_pos e3, if_pos e3, sgR_f ok n m _ (by omega) (by omega) (by omega), sgR_f ok n m (o_pb O p) (by omega) (by omega) (by omega)]
    · rw [if_neg e3, if_neg e3]
      by_cases e4 : o_pk O p = 4
      · have := c4 e4
        rw [if_pos e4, if_pos e4, sgR_f ok n m (o_pb O p) (by omega) (by omega) (by omega)]
      · rw [if_neg e4, if_neg e4]
theorem sgnm_0 {O : o_T} {p : Nat} (e : o_pk O p = 0) : sgnm O p = am_ishl 1 (nI (o_pa O p)) := by
  unfold sgnm
  rw [sgN, if_pos e]
theorem sgnm_3 {O : o_T} (ok : o_ok O) {p : Nat} (hp : p < o_P O) (e : o_pk O p = 3) : sgnm O p = sgnm O (o_pa O p) ||| sgnm O (o_pb O p) := by
  have := (o_ch ok hp).1 e
  unfold sgnm
  rw [sgN, if_neg (by omega), if_pos e, sgN_f ok p (o_pa O p + 1) _ (by omega) (by omega) (by omega), sgN_f ok p (o_pb O p + 1) (o_pb O p) (by omega) (by omega) (by omega)]
theorem sgnm_4 {O : o_T} (ok : o_ok O) {p : Nat} (hp : p < o_P O) (e : o_pk O p = 4) : sgnm O p = sgnm O (o_pb O p) := by
  have := (o_ch ok hp).2.1 e
  unfold sgnm
  rw [sgN, if_neg (by omega), if_neg (by omega), if_pos e, sgN_f ok p (o_pb O p + 1) (o_pb O p) (by omega) (by omega) (by omega)]
theorem sgnm_e {O : o_T} {p : Nat} (e : o_pk O p = 1 ∨ o_pk O p = 2) : sgnm O p = 0 := by
  unfold sgnm
  rw [sgN, if_neg (by omega), if_neg (by omega), if_neg (by omega)]
theorem sgrl_3 {O : o_T} (ok : o_ok O) {p : Nat} (hp : p < o_P O) (e : o_pk O p = 3) : sgrl O p = sgrl O (o_pa O p) ||| sgrl O (o_pb O p) := by
  have := (o_ch ok hp).1 e
  unfold sgrl
  rw [sgR, if_pos e, sgR_f ok p (o_pa O p + 1) _ (by omega) (by omega) (by omega), sgR_f ok p (o_pb O p + 1) (o_pb O p) (by omega) (by omega) (by omega)]
theorem sgrl_4 {O : o_T} (ok : o_ok O) {p : Nat} (hp : p < o_P O) (e : o_pk O p = 4) : sgrl O p = am_ishl 1 (nI (o_pa O p)) ||| sgrl O (o_pb O p) := by
  have := (o_ch ok hp).2.1 e
  unfold sgrl
  rw [sgR, if_neg (by omega), if_pos e, sgR_f ok p (o_pb O p + 1) (o_pb O p) (by omega) (by omega) (by omega)]
theorem sgrl_e {O : o_T} {p : Nat} (e : o_pk O p = 0 ∨ o_pk O p = 1 ∨ o_pk O p = 2) : sgrl O p = 0 := by
  unfold sgrl
  rw [sgR, if_neg (by omega), if_neg (by omega)]
/-- the signs of an axiom -/
def axn (O : o_T) (k : Nat) : Int32 := if o_ak O k ≤ 1 then sgnm O (o_a1 O k) ||| sgnm O (o_a2 O k) else 0
def axr (O : o_T) (k : Nat) : Int32 := if o_ak O k ≤ 1 then sgrl O (o_a1 O k) ||| sgrl O (o_a2 O k) else (am_ishl 1 (nI (o_a1 O k)) ||| am_ishl 1 (nI (o_a2 O k))) ||| (if o_ak O k = 3 then am_ishl 1 (nI (o_a3 O k)) else 0)
/-- what is lost, what is full, of the signs n, r: from below, from above (w) -/
def mlu (O : o_T) (n r : Int32) (w : Bool) : Nat → Nat → Bool × Bool
  | 0, _ => (false, false)
  | m + 1, p => if o_pk O p = 1 then (false, true) else if o_pk O p = 2 then (true, false) else if o_pk O p = 0 then (!w && !yi n (o_pa O p), w && !yi n (o_pa O p)) else if o_pk O p = 3 then ((mlu O n r w m (o_pa O p)).1 || (mlu O n r w m (o_pb O p)).1, (mlu O n r w m (o_pa O p)).2 && (mlu O n r w m (o_pb O p)).2) else ((mlu O n r w m (o_pb O p)).1 || (!w && !yi r (o_pa O p)), w && (!yi r (o_pa O p) && (mlu O n r w m (o_pb O p)).2))
def lF (O : o_T) (n r : Int32) (w : Bool) (p : Nat) : Bool := (mlu O n r w (p + 1) p).1
def uF (O : o_T) (n r : Int32) (w : Bool) (p : Nat) : Bool := (mlu O n r w (p + 1) p).2
theorem mlu_f {O : o_T} {n r : Int32} {w : Bool} (ok : o_ok O) : ∀ k m p, p < k → p < m → p < o_P O → mlu O n r w k p = mlu O n r w m p
  | 0, _, p, h, _, _ => absurd h (Nat.not_lt_zero p)
  | k + 1, 0, p, _, h, _ => absurd h (Nat.not_lt_zero p)
  | k + 1, m + 1, p, h1, h2, hp => by
    obtain ⟨c3, c4, c0, c5⟩ := o_ch ok hp
    rw [mlu, mlu]
    by_cases e1 : o_pk O p = 1
    · rw [if_pos e1, if_pos e1]
    · rw [if_neg e1, if_neg e1]
      by_cases e2 : o_pk O p = 2
      · rw [if_pos e2, if_pos e2]
      · rw [if_neg e2, if_neg e2]
        by_cases e0 : o_pk O p = 0
        · rw [if_pos e0, if_pos e0]
        · rw [if_neg e0, if_neg e0]
          by_cases e3 : o_pk O p = 3
          · have := c3 e3
            rw [if_pos e3, if_pos e3, mlu_f ok k m (o_pa O p) (by omega) (by omega) (by omega), mlu_f ok k m (o_pb O p) (by omega) (by omega) (by omega)]
          · have := c4 (by omega)
            rw [if_neg e3, if_neg e3, mlu_f ok k m (o_pb O p) (by omega) (by omega) (by omega)]
theorem lu_1 {O : o_T} {n r : Int32} {w : Bool} {p : Nat} (e : o_pk O p = 1) : lF O n r w p = false ∧ uF O n r w p = true := by
  unfold lF uF
  rw [mlu, if_pos e]
  exact ⟨rfl, rfl⟩
theorem lu_2 {O : o_T} {n r : Int32} {w : Bool} {p : Nat} (e : o_pk O p = 2) : lF O n r w p = true ∧ uF O n r w p = false := by
  unfold lF uF
  rw [mlu, if_neg (by omega), if_pos e]
  exact ⟨rfl, rfl⟩
theorem lu_0 {O : o_T} {n r : Int32} {w : Bool} {p : Nat} (e : o_pk O p = 0) : lF O n r w p = (!w && !yi n (o_pa O p)) ∧ uF O n r w p = (w && !yi n (o_pa O p)) := by
  unfold lF uF
  rw [mlu, if_neg (by omega), if_neg (by omega), if_pos e]
  exact ⟨rfl, rfl⟩
theorem lu_3 {O : o_T} {n r : Int32} {w : Bool} {p : Nat} (ok : o_ok O) (hp : p < o_P O) (e : o_pk O p = 3) : lF O n r w p = (lF O n r w (o_pa O p) || lF O n r w (o_pb O p)) ∧ uF O n r w p = (uF O n r w (o_pa O p) && uF O n r w (o_pb O p)) := by
  have := (o_ch ok hp).1 e
  unfold lF uF
  rw [mlu, if_neg (by omega), if_neg (by omega), if_neg (by omega), if_pos e, mlu_f ok p (o_pa O p + 1) (o_pa O p) (by omega) (by omega) (by omega), mlu_f ok p (o_pb O p + 1) (o_pb O p) (by omega) (by omega) (by omega)]
  exact ⟨rfl, rfl⟩
theorem lu_4 {O : o_T} {n r : Int32} {w : Bool} {p : Nat} (ok : o_ok O) (hp : p < o_P O) (e : o_pk O p = 4) : lF O n r w p = (lF O n r w (o_pb O p) || (!w && !yi r (o_pa O p))) ∧ uF O n r w p = (w && (!yi r (o_pa O p) && uF O n r w (o_pb O p))) := by
  have := (o_ch ok hp).2.1 e
  unfold lF uF
  rw [mlu, if_neg (by omega), if_neg (by omega), if_neg (by omega), if_neg (by omega), mlu_f ok p (o_pb O p + 1) (o_pb O p) (by omega) (by omega) (by omega)]
  exact ⟨rfl, rfl⟩
/-- whether an axiom is idle -/
def iF (O : o_T) (n r : Int32) (w : Bool) (k : Nat) : Bool :=
  if o_ak O k = 0 then lF O n r w (o_a1 O k) || uF O n r w (o_a2 O k) else if o_ak O k = 1 then (lF O n r w (o_a1 O k) || uF O n r w (o_a2 O k)) && (lF O n r w (o_a2 O k) || uF O n r w (o_a1 O k)) else if o_ak O k = 2 then !yi r (if w then o_a2 O k else o_a1 O k) else if w then !yi r (o_a3 O k) else !(yi r (o_a1 O k) && yi r (o_a2 O k))
def orW (F : Nat → Int32) (so : Int64) : Nat → Int32 → Int32
  | 0, x => x
  | k + 1, x => if xl so k = true then orW F so k x ||| F k else orW F so k x
/-- a pass -/
noncomputable def mA (O : o_T) (am : Int64) (w : Bool) (s : Int64 × Int32 × Int32) : Int64 := s.1 ||| wL (fun k => k < o_A O ∧ xl am k = true ∧ iF O s.2.1 s.2.2 w k = false)
noncomputable def mT (O : o_T) (am : Int64) (w : Bool) (s : Int64 × Int32 × Int32) : Int64 × Int32 × Int32 := (mA O am w s, orW (axn O) (mA O am w s) (o_A O) s.2.1, orW (axr O) (mA O am w s) (o_A O) s.2.2)
noncomputable def mQ (O : o_T) (am : Int64) (w : Bool) (n r : Int32) : Nat → Int64 × Int32 × Int32
  | 0 => (0, n, r)
  | j + 1 => mT O am w (mQ O am w n r j)
noncomputable def mJ (O : o_T) (am : Int64) (w : Bool) (n r : Int32) : Nat := lm (fun j => mA O am w (mQ O am w n r j) = (mQ O am w n r j).1)
noncomputable def mO (O : o_T) (am : Int64) (w : Bool) (n r : Int32) : Int64 := (mQ O am w n r (mJ O am w n r)).1
theorem mQ_b {O : o_T} {am : Int64} {w : Bool} {n r : Int32} {k : Nat} : ∀ j, xl (mQ O am w n r j).1 k = true → k < o_A O ∧ xl am k = true
  | 0, h => by
    rw [show (mQ O am w n r 0).1 = 0 from rfl, xl_0] at h
    cases h
  | j + 1, h => by
    rw [show (mQ O am w n r (j + 1)).1 = mA O am w (mQ O am w n r j) from rfl, mA, xl_or, Bool.or_eq_true] at h
    rcases h with h | h
    · exact mQ_b j h
    · have := (wL_x.mp h).2
      exact ⟨this.1, this.2.1⟩
theorem mJ_s {O : o_T} (ok : o_ok O) (am : Int64) (w : Bool) (n r : Int32) : mJ O am w n r ≤ 32 ∧ mA O am w (mQ O am w n r (mJ O am w n r)) = (mQ O am w n r (mJ O am w n r)).1 ∧ ∀ j, j < mJ O am w n r → ¬ mA O am w (mQ O am w n r j) = (mQ O am w n r j).1 := by
  have hA := ok.2.2.2.2.1
  have mono : ∀ j k, xl (mQ O am w n r j).1 k = true → xl (mQ O am w n r (j + 1)).1 k = true := fun j k q => by
    rw [show (mQ O am w n r (j + 1)).1 = mA O am w (mQ O am w n r j) from rfl, mA, xl_or, q, Bool.true_or]
  obtain ⟨j, hj, hs⟩ := ct_stand (N := 32) (fun j k => xl (mQ O am w n r j).1 k = true) mono
  have e : mA O am w (mQ O am w n r j) = (mQ O am w n r j).1 := xl_ext (fun k _ => by
    rw [Bool.eq_iff_iff]
    exact ⟨fun q => hs k (by have := (mQ_b (j + 1) q).1; omega) q, mono j k⟩)
  obtain ⟨l1, l2⟩ := lm_s (P := fun j => mA O am w (mQ O am w n r j) = (mQ O am w n r j).1) ⟨j, e⟩
  refine ⟨?_, l1, l2⟩
  rcases Nat.lt_or_ge j (mJ O am w n r) with q | q
  · exact absurd e (l2 j q)
  · omega
theorem mO_b {O : o_T} {am : Int64} {w : Bool} {n r : Int32} {k : Nat} (h : xl (mO O am w n r) k = true) : k < o_A O ∧ xl am k = true := mQ_b _ h
/-- both in turn -/
noncomputable def tQ (O : o_T) (on : Int64) (n r : Int32) : Nat → Int64
  | 0 => on
  | j + 1 => mO O (mO O (tQ O on n r j) false n r) true n r
noncomputable def tJ (O : o_T) (on : Int64) (n r : Int32) : Nat := lm (fun j => tQ O on n r (j + 1) = tQ O on n r j)
theorem tQ_m {O : o_T} {on : Int64} {n r : Int32} {k j : Nat} (h : xl (tQ O on n r (j + 1)) k = true) : xl (tQ O on n r j) k = true := (mO_b (mO_b h).2).2
theorem tQ_b {O : o_T} {on : Int64} {n r : Int32} {k : Nat} : ∀ j, xl (tQ O on n r j) k = true → xl on k = true
  | 0, h => h
  | j + 1, h => tQ_b j (tQ_m h)
theorem tJ_s {O : o_T} (ok : o_ok O) {on : Int64} (ho : ∀ k, xl on k = true → k < o_A O) (n r : Int32) : tJ O on n r ≤ 32 ∧ tQ O on n r (tJ O on n r + 1) = tQ O on n r (tJ O on n r) ∧ ∀ j, j < tJ O on n r → ¬ tQ O on n r (j + 1) = tQ O on n r j := by
  have hA := ok.2.2.2.2.1
  have mono : ∀ j k, xl (tQ O on n r j) k = false → xl (tQ O on n r (j + 1)) k = false := fun j k q => by
    cases e : xl (tQ O on n r (j + 1)) k
    · rfl
    · rw [tQ_m e] at q
      cases q
  obtain ⟨j, hj, hs⟩ := ct_stand (N := 32) (fun j k => xl (tQ O on n r j) k = false) mono
  have e : tQ O on n r (j + 1) = tQ O on n r j := xl_ext (fun k _ => by
    cases c : xl (tQ O on n r j) k
    · exact mono j k c
    · have hk := ho k (tQ_b j c)
      cases c2 : xl (tQ O on n r (j + 1)) k
      · have := hs k (by omega) c2
        rw [c] at this
        cases this
      · rfl)
  obtain ⟨l1, l2⟩ := lm_s (P := fun j => tQ O on n r (j + 1) = tQ O on n r j) ⟨j, e⟩
  refine ⟨?_, l1, l2⟩
  rcases Nat.lt_or_ge j (tJ O on n r) with q | q
  · exact absurd e (l2 j q)
  · omega
theorem wd_y {Q : Nat → Prop} {k : Nat} (hk : k < 64) (h : Q k) : wL (fun a => a < k ∧ Q a) ||| am_lshl 1 (nI k) = wL (fun a => a < k + 1 ∧ Q a) := wL_of (fun j hj => by
  rw [xl_or, xl_b1 hk, Bool.or_eq_true, wL_x, decide_eq_true_iff]
  constructor
  · rintro (⟨_, a, b⟩ | e)
    · exact ⟨by omega, b⟩
    · exact ⟨by omega, e ▸ h⟩
  · rintro ⟨a, b⟩
    by_cases e : j = k
    · exact Or.inr e
    · exact Or.inl ⟨hj, by omega, b⟩)
theorem wd_n {Q : Nat → Prop} {k : Nat} (h : ¬ Q k) : wL (fun a => a < k ∧ Q a) = wL (fun a => a < k + 1 ∧ Q a) := wL_cong (fun j _ => by
  constructor
  · rintro ⟨a, b⟩
    exact ⟨by omega, b⟩
  · rintro ⟨a, b⟩
    by_cases e : j = k
    · exact absurd (e ▸ b) h
    · exact ⟨by omega, b⟩)
theorem wd_0 {Q : Nat → Prop} : wL (fun a => a < 0 ∧ Q a) = 0 := wL_0.mpr (fun k _ e => absurd e.1 (Nat.not_lt_zero k))
