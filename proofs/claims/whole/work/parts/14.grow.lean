/-! ===== cells and slots only grow ===== -/
def am_SP (h0 : am_H) (f : am_C → Option am_R) : Prop := (∃ pc L S h, am_le h0 h ∧ ∀ k, f k = k pc L S h) ∨ ∃ o, (∀ r, o = some r → am_le h0 r.2) ∧ ∀ k, f k = o
theorem sq_go {h0 h : am_H} (hp : am_le h0 h) (pc : Nat) (L : am_V) (S : List Value) : am_SP h0 (fun k => k pc L S h) := Or.inl ⟨pc, L, S, h, hp, fun _ => rfl⟩
theorem sq_none {h0 : am_H} : am_SP h0 (fun _ => none) := Or.inr ⟨none, (fun _ q => nomatch q), fun _ => rfl⟩
theorem sq_some {h0 h : am_H} (hp : am_le h0 h) (x : Nat ⊕ Option Value) : am_SP h0 (fun _ => some (x, h)) := Or.inr ⟨some (x, h), (fun _ q => by cases q; exact hp), fun _ => rfl⟩
theorem am_le_nw (h : am_H) (q : Nat × Nat) : am_le h (am_nw h q) := by
  constructor
  · show (am_S h).length + am_G h ≤ (am_S h ++ [q]).length + am_G h
    simp
  · show ((am_S h).map fun q => q.2).sum + am_T h ≤ ((am_S h ++ [q]).map fun q => q.2).sum + am_T h
    simp
theorem am_le_nm (h : am_H) (a b n k : Nat) : am_le h (am_nm h a b n k) := by
  constructor
  · show (am_S h).length + am_G h ≤ (am_S h ++ ((a, n) :: List.replicate n (b, k))).length + am_G h
    simp
  · show ((am_S h).map fun q => q.2).sum + am_T h ≤ ((am_S h ++ ((a, n) :: List.replicate n (b, k))).map fun q => q.2).sum + am_T h
    simp
theorem am_le_gb (h : am_H) : am_le h (am_gb h) := by
  constructor
  · show (am_S h).length + am_G h ≤ (am_S h).length + (am_G h + 1)
    omega
  · show ((am_S h).map fun q => q.2).sum + am_T h ≤ ((am_S h).map fun q => q.2).sum + (am_T h + 6)
    omega
theorem sq_ite {h0 : am_H} {c : Prop} [Decidable c] {f g : am_C → Option am_R} (hf : am_SP h0 f) (hg : am_SP h0 g) : am_SP h0 (fun k => if c then f k else g k) := by
  by_cases h : c
  · simpa [h] using hf
  · simpa [h] using hg
theorem sq_bif {h0 : am_H} {c : Bool} {f g : am_C → Option am_R} (hf : am_SP h0 f) (hg : am_SP h0 g) : am_SP h0 (fun k => bif c then f k else g k) := by
  cases c
  · exact hg
  · exact hf
theorem sq_pi {h0 : am_H} {S : List Value} {g : Int32 → List Value → am_C → Option am_R} (hg : ∀ x r, am_SP h0 (g x r)) : am_SP h0 (fun k => am_pi S (fun x r => g x r k)) := by
  unfold am_pi
  split
  · exact hg _ _
  · exact sq_none
theorem sq_pl {h0 : am_H} {S : List Value} {g : Int64 → List Value → am_C → Option am_R} (hg : ∀ x r, am_SP h0 (g x r)) : am_SP h0 (fun k => am_pl S (fun x r => g x r k)) := by
  unfold am_pl
  split
  · exact hg _ _
  · exact sq_none
theorem sq_pr {h0 : am_H} {S : List Value} {g : Nat → List Value → am_C → Option am_R} (hg : ∀ x r, am_SP h0 (g x r)) : am_SP h0 (fun k => am_pr S (fun x r => g x r k)) := by
  unfold am_pr
  split
  · exact hg _ _
  · exact sq_none
theorem sq_li {h0 : am_H} {L : am_V} {i : Nat} {g : Int32 → am_C → Option am_R} (hg : ∀ x, am_SP h0 (g x)) : am_SP h0 (fun k => am_li L i (fun x => g x k)) := by
  unfold am_li
  split
  · exact hg _
  · exact sq_none
theorem sq_ll {h0 : am_H} {L : am_V} {i : Nat} {g : Int64 → am_C → Option am_R} (hg : ∀ x, am_SP h0 (g x)) : am_SP h0 (fun k => am_ll L i (fun x => g x k)) := by
  unfold am_ll
  split
  · exact hg _
  · exact sq_none
theorem sq_lr {h0 : am_H} {L : am_V} {i : Nat} {g : Nat → am_C → Option am_R} (hg : ∀ x, am_SP h0 (g x)) : am_SP h0 (fun k => am_lr L i (fun x => g x k)) := by
  unfold am_lr
  split
  · exact hg _
  · exact sq_none
theorem sq_gi {h0 : am_H} {h : am_H} {o c b : Nat} {g : Int32 → am_C → Option am_R} (hg : ∀ x, am_SP h0 (g x)) : am_SP h0 (fun k => am_gi h o c b (fun x => g x k)) := sq_bif (hg _) (sq_none)
theorem sq_gl {h0 : am_H} {h : am_H} {o c b : Nat} {g : Int64 → am_C → Option am_R} (hg : ∀ x, am_SP h0 (g x)) : am_SP h0 (fun k => am_gl h o c b (fun x => g x k)) := sq_bif (hg _) (sq_none)
theorem sq_gp {h0 : am_H} {h : am_H} {o c b : Nat} {g : Nat → am_C → Option am_R} (hg : ∀ x, am_SP h0 (g x)) : am_SP h0 (fun k => am_gp h o c b (fun x => g x k)) := by
  unfold am_gp
  refine sq_bif (f := fun k => match am_P h o b with
    | some p => g p k
    | none => none) ?_ (sq_none)
  split
  · exact hg _
  · exact sq_none
theorem sq_ar {h0 : am_H} {h : am_H} {c a : Nat} {i : Int32} {g : Nat → am_C → Option am_R} (hg : ∀ x, am_SP h0 (g x)) : am_SP h0 (fun k => am_ar h c a i (fun x => g x k)) := by
  unfold am_ar
  split
  · exact sq_bif (hg _) (sq_none)
  · exact sq_none
theorem sq_ap {h0 : am_H} {h : am_H} {c a : Nat} {i : Int32} {g : Nat → am_C → Option am_R} (hg : ∀ x, am_SP h0 (g x)) : am_SP h0 (fun k => am_ap h c a i (fun x => g x k)) := by
  unfold am_ap
  refine sq_ar (g := fun j k => match am_P h a j with
    | some p => g p k
    | none => none) (fun x => ?_)
  cases am_P h a x
  · exact sq_none
  · exact hg _
theorem sq_ck {h0 : am_H} {h : am_H} {o c : Nat} {g : am_C → Option am_R} (hg : am_SP h0 g) : am_SP h0 (fun k => am_ck h o c (g k)) := sq_bif hg (sq_none)
theorem sq_c8 {h0 : am_H} {r : List Value} {g : am_C → Option am_R} (hg : am_SP h0 g) : am_SP h0 (fun k => am_c8 r (g k)) := sq_bif hg (sq_none)
theorem sq_al {h0 : am_H} {h : am_H} {o : Nat} {g : Int32 → am_C → Option am_R} (hg : ∀ x, am_SP h0 (g x)) : am_SP h0 (fun k => am_al h o (fun x => g x k)) := by
  unfold am_al
  split
  · exact sq_bif (hg _) (sq_none)
  · exact sq_none
theorem sq_01 {h0 : am_H} {v : Int32} {g : am_C → Option am_R} (hg : am_SP h0 g) : am_SP h0 (fun k => am_01 v (g k)) := sq_bif hg (sq_none)
theorem sq_sp {h0 : am_H} {n : Nat} {S : List Value} {g : List Value → List Value → am_C → Option am_R} (hg : ∀ x r, am_SP h0 (g x r)) : am_SP h0 (fun k => am_sp n S (fun x r => g x r k)) := sq_bif (hg _ _) (sq_none)
theorem sq_sw {h0 : am_H} {x : Int32} {d : Nat} {g : Nat → am_C → Option am_R} (hg : ∀ t, am_SP h0 (g t)) : ∀ l : List (Int32 × Nat), am_SP h0 (fun k => am_sw l x d (fun t => g t k))
  | [] => hg d
  | q :: t => sq_ite (hg q.2) (sq_sw hg t)
theorem sq_th {h0 : am_H} {tb : am_X} {pc : Nat} {L : am_V} {E : Nat} {h : am_H} (hp : am_le h0 h) : am_SP h0 (fun k => am_th tb pc L k E h) := by
  unfold am_th
  split
  · exact sq_go hp _ _ _
  · exact sq_some hp _
theorem sq_bk {h0 : am_H} {tb : am_X} {pc : Nat} {L : am_V} {r : List Value} {rt : Nat} {o : Option am_R} (ho : ∀ r, o = some r → am_le h0 r.2) : am_SP h0 (fun k => am_bk tb pc L r rt k o) := by
  unfold am_bk
  split
  · unfold am_ov
    split
    · exact sq_go (ho _ rfl) _ _ _
    · exact sq_th (ho _ rfl)
    · exact sq_none
  · unfold am_oi
    split
    · exact sq_go (ho _ rfl) _ _ _
    · exact sq_th (ho _ rfl)
    · exact sq_none
  · unfold am_ol
    split
    · exact sq_go (ho _ rfl) _ _ _
    · exact sq_th (ho _ rfl)
    · exact sq_none
  · exact sq_none
theorem sq_call (F : Nat → List Value → am_H → Option am_R) (hF : ∀ a As h r, F a As h = some r → am_le h r.2) (tb : am_X) (a b c d rt : Nat) (pc : Nat) (L : am_V) (S : List Value) (h : am_H) : am_SP h (am_call F tb a b c d rt pc L S h) := by
  show am_SP h (fun k => am_call F tb a b c d rt pc L S h k)
  unfold am_call
  split
  · exact sq_sp fun _ _ => sq_c8 (sq_bk (hF _ _ _))
  · exact sq_sp fun _ _ => sq_pr fun _ _ => sq_c8 (sq_ck (sq_bk (hF _ _ _)))
  · exact sq_sp fun _ _ => sq_pr fun _ _ => sq_c8 (sq_ck (sq_bk (hF _ _ _)))
  · exact sq_sp fun _ _ => sq_pr fun _ _ => sq_c8 (sq_ck (sq_bk (hF _ _ _)))
  · exact sq_pr fun _ _ => sq_c8 (sq_go (by exact ⟨Nat.le_refl _, Nat.le_refl _⟩) _ _ _)
  · refine sq_pi fun n S => sq_pi fun dp S => sq_pr fun t S => sq_pi fun sp S => sq_pr fun f S => sq_c8 ?_
    unfold am_cp
    cases (am_S h)[f]? with
    | none => exact sq_none
    | some qf =>
      cases (am_S h)[t]? with
      | none => exact sq_none
      | some qt => exact sq_bif (sq_go (by exact ⟨Nat.le_refl _, Nat.le_refl _⟩) _ _ _) (sq_none)
  · refine sq_pr fun o r => sq_c8 ?_
    unfold am_tl
    cases am_tx o with
    | none => exact sq_none
    | some t => exact sq_go (by exact ⟨Nat.le_refl _, Nat.le_refl _⟩) _ _ _
  · refine sq_pi fun i S => sq_pr fun o r => sq_c8 ?_
    unfold am_tc
    cases am_tx o with
    | none => exact sq_none
    | some t => exact sq_bif (sq_go (by exact ⟨Nat.le_refl _, Nat.le_refl _⟩) _ _ _) (sq_none)
  · exact sq_none
set_option maxHeartbeats 4000000 in
theorem sq_step (F : Nat → List Value → am_H → Option am_R) (hF : ∀ a As h r, F a As h = some r → am_le h r.2) (tb : am_X) (e : am_E) (pc : Nat) (L : am_V) (S : List Value) (h : am_H) : am_SP h (am_step F tb e pc L S h) := by
  obtain ⟨i, n, a, b, c, d, rt, v, sw⟩ := e
  show am_SP h (fun k => am_step F tb (i, n, a, b, c, d, rt, v, sw) pc L S h k)
  unfold am_step
  dsimp only
  split
  all_goals first
    | exact sq_go (by exact ⟨Nat.le_refl _, Nat.le_refl _⟩) _ _ _
    | exact sq_li fun _ => sq_go (by exact ⟨Nat.le_refl _, Nat.le_refl _⟩) _ _ _
    | exact sq_ll fun _ => sq_go (by exact ⟨Nat.le_refl _, Nat.le_refl _⟩) _ _ _
    | exact sq_lr fun _ => sq_go (by exact ⟨Nat.le_refl _, Nat.le_refl _⟩) _ _ _
    | exact sq_pi fun _ _ => sq_go (by exact ⟨Nat.le_refl _, Nat.le_refl _⟩) _ _ _
    | exact sq_pl fun _ _ => sq_go (by exact ⟨Nat.le_refl _, Nat.le_refl _⟩) _ _ _
    | exact sq_pr fun _ _ => sq_go (by exact ⟨Nat.le_refl _, Nat.le_refl _⟩) _ _ _
    | exact sq_pr fun _ _ => sq_al fun _ => sq_go (by exact ⟨Nat.le_refl _, Nat.le_refl _⟩) _ _ _
    | exact sq_pi fun _ _ => sq_pi fun _ _ => sq_go (by exact ⟨Nat.le_refl _, Nat.le_refl _⟩) _ _ _
    | exact sq_pl fun _ _ => sq_pl fun _ _ => sq_go (by exact ⟨Nat.le_refl _, Nat.le_refl _⟩) _ _ _
    | exact sq_pi fun _ _ => sq_pl fun _ _ => sq_go (by exact ⟨Nat.le_refl _, Nat.le_refl _⟩) _ _ _
    | exact sq_pi fun _ _ => sq_ite (sq_go (by exact ⟨Nat.le_refl _, Nat.le_refl _⟩) _ _ _) (sq_go (by exact ⟨Nat.le_refl _, Nat.le_refl _⟩) _ _ _)
    | exact sq_pi fun _ _ => sq_pi fun _ _ => sq_ite (sq_go (by exact ⟨Nat.le_refl _, Nat.le_refl _⟩) _ _ _) (sq_go (by exact ⟨Nat.le_refl _, Nat.le_refl _⟩) _ _ _)
    | exact sq_pi fun _ _ => sq_pi fun _ _ => sq_ite (sq_none) (sq_go (by exact ⟨Nat.le_refl _, Nat.le_refl _⟩) _ _ _)
    | exact sq_pi fun _ _ => sq_sw (fun _ => sq_go (by exact ⟨Nat.le_refl _, Nat.le_refl _⟩) _ _ _) _
    | exact sq_call F hF tb a b c d rt pc L S h
    | exact sq_pi fun _ _ => sq_pr fun _ _ => sq_ar fun _ => sq_go (by exact ⟨Nat.le_refl _, Nat.le_refl _⟩) _ _ _
    | exact sq_pi fun _ _ => sq_pr fun _ _ => sq_ap fun _ => sq_go (by exact ⟨Nat.le_refl _, Nat.le_refl _⟩) _ _ _
    | exact sq_pi fun _ _ => sq_pi fun _ _ => sq_pr fun _ _ => sq_ar fun _ => sq_go (by exact ⟨Nat.le_refl _, Nat.le_refl _⟩) _ _ _
    | exact sq_pl fun _ _ => sq_pi fun _ _ => sq_pr fun _ _ => sq_ar fun _ => sq_go (by exact ⟨Nat.le_refl _, Nat.le_refl _⟩) _ _ _
    | exact sq_pi fun _ _ => sq_bif (sq_go (am_le_nw _ _) _ _ _) (sq_none)
    | exact sq_pi fun _ _ => sq_pi fun _ _ => sq_bif (sq_go (am_le_nm _ _ _ _ _) _ _ _) (sq_none)
    | exact sq_none
    | skip
  · cases v <;> first
      | exact sq_li fun _ => sq_go (by exact ⟨Nat.le_refl _, Nat.le_refl _⟩) _ _ _
      | exact sq_none
  · cases S with
    | nil => exact sq_none
    | cons x S => exact sq_bif (sq_go (by exact ⟨Nat.le_refl _, Nat.le_refl _⟩) _ _ _) (sq_none)
  · cases S with
    | nil => exact sq_none
    | cons x S => exact sq_bif (sq_go (by exact ⟨Nat.le_refl _, Nat.le_refl _⟩) _ _ _) (sq_none)
  · cases S with
    | nil => exact sq_none
    | cons x S =>
      refine sq_bif (sq_go (by exact ⟨Nat.le_refl _, Nat.le_refl _⟩) _ _ _) ?_
      cases S with
      | nil => exact sq_none
      | cons y S => exact sq_bif (sq_go (by exact ⟨Nat.le_refl _, Nat.le_refl _⟩) _ _ _) (sq_none)
  · refine sq_pr fun o S => ?_
    split
    · exact sq_gi fun _ => sq_go (by exact ⟨Nat.le_refl _, Nat.le_refl _⟩) _ _ _
    · exact sq_gl fun _ => sq_go (by exact ⟨Nat.le_refl _, Nat.le_refl _⟩) _ _ _
    · exact sq_gp fun _ => sq_go (by exact ⟨Nat.le_refl _, Nat.le_refl _⟩) _ _ _
    · exact sq_none
  · split
    · exact sq_pi fun _ _ => sq_pr fun _ _ => sq_ck (sq_go (by exact ⟨Nat.le_refl _, Nat.le_refl _⟩) _ _ _)
    · exact sq_pl fun _ _ => sq_pr fun _ _ => sq_ck (sq_go (by exact ⟨Nat.le_refl _, Nat.le_refl _⟩) _ _ _)
    · exact sq_pr fun _ _ => sq_pr fun _ _ => sq_ck (sq_go (by exact ⟨Nat.le_refl _, Nat.le_refl _⟩) _ _ _)
    · exact sq_pi fun _ _ => sq_pr fun _ _ => sq_01 (sq_ck (sq_go (by exact ⟨Nat.le_refl _, Nat.le_refl _⟩) _ _ _))
    · exact sq_none
  · split
    · exact sq_bif (sq_go (am_le_nw _ _) _ _ _) (sq_none)
    · first | exact sq_none | exact sq_some (am_le.rf _) _ | exact sq_c8 (sq_some (am_le_gb _) _)
    · exact sq_none
  all_goals split
  all_goals first | exact sq_none | exact sq_some (am_le.rf _) _ | exact sq_bif (sq_01 (sq_some (am_le.rf _) _)) (sq_some (am_le.rf _) _)
theorem am_run_grow {F : Nat → List Value → am_H → Option am_R} (hF : ∀ a As h r, F a As h = some r → am_le h r.2) {M : am_M} : ∀ (n pc : Nat) (L : am_V) (S : List Value) (h : am_H) (r : am_R), am_run F M n pc L S h = some r → am_le h r.2
  | 0, _, _, _, _, _, h => by cases h
  | n + 1, pc, L, S, h, r, hr => by
    rw [am_run] at hr
    cases hm : M.1 pc with
    | none => rw [hm] at hr; cases hr
    | some e =>
      rw [hm] at hr
      dsimp only at hr
      rcases sq_step F hF M.2.2.1 e pc L S h with ⟨pc', L', S', h', w0, w⟩ | ⟨o, w0, w⟩
      · rw [w] at hr
        exact w0.tr (am_run_grow hF n _ _ _ _ _ hr)
      · rw [w] at hr
        exact w0 _ hr
theorem am_sm_grow (MT : Nat → Option am_M) : ∀ (d k : Nat) (As : List Value) (h : am_H) (r : am_R), am_sm MT d k As h = some r → am_le h r.2
  | 0, _, _, _, _, h => by cases h
  | d + 1, k, As, h, r, hr => by
    rw [am_sm] at hr
    cases hm : MT k with
    | none => rw [hm] at hr; cases hr
    | some M =>
      rw [hm] at hr
      dsimp only at hr
      cases hb : Nat.ble (am_wd As) M.2.2.2 with
      | false => rw [hb] at hr; cases hr
      | true =>
      rw [hb] at hr
      obtain ⟨n, hn⟩ := am_sem_iff.mp hr
      exact am_run_grow (am_sm_grow MT d) n _ _ _ _ _ hn
