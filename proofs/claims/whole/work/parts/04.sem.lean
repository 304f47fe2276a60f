/-! ===== what a method does, as a function without fuel, and its unfolding ===== -/
/-- a step goes on at one place, or ends -/
def am_SC (f : am_C → Option am_R) : Prop := (∃ pc L S h, ∀ k, f k = k pc L S h) ∨ ∃ o, ∀ k, f k = o
theorem sc_go (pc : Nat) (L : am_V) (S : List Value) (h : am_H) : am_SC (fun k => k pc L S h) := Or.inl ⟨pc, L, S, h, fun _ => rfl⟩
theorem sc_end (o : Option am_R) : am_SC (fun _ => o) := Or.inr ⟨o, fun _ => rfl⟩
theorem sc_ite {c : Prop} [Decidable c] {f g : am_C → Option am_R} (hf : am_SC f) (hg : am_SC g) : am_SC (fun k => if c then f k else g k) := by
  by_cases h : c
  · simpa [h] using hf
  · simpa [h] using hg
theorem sc_bif {c : Bool} {f g : am_C → Option am_R} (hf : am_SC f) (hg : am_SC g) : am_SC (fun k => bif c then f k else g k) := by
  cases c
  · exact hg
  · exact hf
theorem sc_pi {S : List Value} {g : Int32 → List Value → am_C → Option am_R} (hg : ∀ x r, am_SC (g x r)) : am_SC (fun k => am_pi S (fun x r => g x r k)) := by
  unfold am_pi
  split
  · exact hg _ _
  · exact sc_end none
theorem sc_pl {S : List Value} {g : Int64 → List Value → am_C → Option am_R} (hg : ∀ x r, am_SC (g x r)) : am_SC (fun k => am_pl S (fun x r => g x r k)) := by
  unfold am_pl
  split
  · exact hg _ _
  · exact sc_end none
theorem sc_pr {S : List Value} {g : Nat → List Value → am_C → Option am_R} (hg : ∀ x r, am_SC (g x r)) : am_SC (fun k => am_pr S (fun x r => g x r k)) := by
  unfold am_pr
  split
  · exact hg _ _
  · exact sc_end none
theorem sc_li {L : am_V} {i : Nat} {g : Int32 → am_C → Option am_R} (hg : ∀ x, am_SC (g x)) : am_SC (fun k => am_li L i (fun x => g x k)) := by
  unfold am_li
  split
  · exact hg _
  · exact sc_end none
theorem sc_ll {L : am_V} {i : Nat} {g : Int64 → am_C → Option am_R} (hg : ∀ x, am_SC (g x)) : am_SC (fun k => am_ll L i (fun x => g x k)) := by
  unfold am_ll
  split
  · exact hg _
  · exact sc_end none
theorem sc_lr {L : am_V} {i : Nat} {g : Nat → am_C → Option am_R} (hg : ∀ x, am_SC (g x)) : am_SC (fun k => am_lr L i (fun x => g x k)) := by
  unfold am_lr
  split
  · exact hg _
  · exact sc_end none
theorem sc_gi {h : am_H} {o c b : Nat} {g : Int32 → am_C → Option am_R} (hg : ∀ x, am_SC (g x)) : am_SC (fun k => am_gi h o c b (fun x => g x k)) := sc_bif (hg _) (sc_end none)
theorem sc_gl {h : am_H} {o c b : Nat} {g : Int64 → am_C → Option am_R} (hg : ∀ x, am_SC (g x)) : am_SC (fun k => am_gl h o c b (fun x => g x k)) := sc_bif (hg _) (sc_end none)
theorem sc_gp {h : am_H} {o c b : Nat} {g : Nat → am_C → Option am_R} (hg : ∀ x, am_SC (g x)) : am_SC (fun k => am_gp h o c b (fun x => g x k)) := by
  unfold am_gp
  refine sc_bif (f := fun k => match am_P h o b with
    | some p => g p k
    | none => none) ?_ (sc_end none)
  split
  · exact hg _
  · exact sc_end none
theorem sc_ar {h : am_H} {c a : Nat} {i : Int32} {g : Nat → am_C → Option am_R} (hg : ∀ x, am_SC (g x)) : am_SC (fun k => am_ar h c a i (fun x => g x k)) := by
  unfold am_ar
  split
  · exact sc_bif (hg _) (sc_end none)
  · exact sc_end none
theorem sc_ap {h : am_H} {c a : Nat} {i : Int32} {g : Nat → am_C → Option am_R} (hg : ∀ x, am_SC (g x)) : am_SC (fun k => am_ap h c a i (fun x => g x k)) := by
  unfold am_ap
  refine sc_ar (g := fun j k => match am_P h a j with
    | some p => g p k
    | none => none) (fun x => ?_)
  cases am_P h a x
  · exact sc_end none
  · exact hg _
theorem sc_ck {h : am_H} {o c : Nat} {g : am_C → Option am_R} (hg : am_SC g) : am_SC (fun k => am_ck h o c (g k)) := sc_bif hg (sc_end none)
theorem sc_c8 {r : List Value} {g : am_C → Option am_R} (hg : am_SC g) : am_SC (fun k => am_c8 r (g k)) := sc_bif hg (sc_end none)
theorem sc_al {h : am_H} {o : Nat} {g : Int32 → am_C → Option am_R} (hg : ∀ x, am_SC (g x)) : am_SC (fun k => am_al h o (fun x => g x k)) := by
  unfold am_al
  split
  · exact sc_bif (hg _) (sc_end none)
  · exact sc_end none
theorem sc_01 {v : Int32} {g : am_C → Option am_R} (hg : am_SC g) : am_SC (fun k => am_01 v (g k)) := sc_bif hg (sc_end none)
theorem sc_sp {n : Nat} {S : List Value} {g : List Value → List Value → am_C → Option am_R} (hg : ∀ x r, am_SC (g x r)) : am_SC (fun k => am_sp n S (fun x r => g x r k)) := sc_bif (hg _ _) (sc_end none)
theorem sc_sw {x : Int32} {d : Nat} {g : Nat → am_C → Option am_R} (hg : ∀ t, am_SC (g t)) : ∀ l : List (Int32 × Nat), am_SC (fun k => am_sw l x d (fun t => g t k))
  | [] => hg d
  | q :: t => sc_ite (hg q.2) (sc_sw hg t)
theorem sc_th {tb : am_X} {pc : Nat} {L : am_V} {E : Nat} {h : am_H} : am_SC (fun k => am_th tb pc L k E h) := by
  unfold am_th
  split
  · exact sc_go _ _ _ _
  · exact sc_end _
theorem sc_bk {tb : am_X} {pc : Nat} {L : am_V} {r : List Value} {rt : Nat} {o : Option am_R} : am_SC (fun k => am_bk tb pc L r rt k o) := by
  unfold am_bk
  split
  · unfold am_ov
    split
    · exact sc_go _ _ _ _
    · exact sc_th
    · exact sc_end none
  · unfold am_oi
    split
    · exact sc_go _ _ _ _
    · exact sc_th
    · exact sc_end none
  · unfold am_ol
    split
    · exact sc_go _ _ _ _
    · exact sc_th
    · exact sc_end none
  · exact sc_end none
theorem sc_call (F : Nat → List Value → am_H → Option am_R) (tb : am_X) (a b c d rt : Nat) (pc : Nat) (L : am_V) (S : List Value) (h : am_H) : am_SC (am_call F tb a b c d rt pc L S h) := by
  show am_SC (fun k => am_call F tb a b c d rt pc L S h k)
  unfold am_call
  split
  · exact sc_sp fun _ _ => sc_c8 sc_bk
  · exact sc_sp fun _ _ => sc_pr fun _ _ => sc_c8 (sc_ck sc_bk)
  · exact sc_sp fun _ _ => sc_pr fun _ _ => sc_c8 (sc_ck sc_bk)
  · exact sc_sp fun _ _ => sc_pr fun _ _ => sc_c8 (sc_ck sc_bk)
  · exact sc_pr fun _ _ => sc_c8 (sc_go _ _ _ _)
  · refine sc_pi fun n S => sc_pi fun dp S => sc_pr fun t S => sc_pi fun sp S => sc_pr fun f S => sc_c8 ?_
    unfold am_cp
    cases (am_S h)[f]? with
    | none => exact sc_end none
    | some qf =>
      cases (am_S h)[t]? with
      | none => exact sc_end none
      | some qt => exact sc_bif (sc_go _ _ _ _) (sc_end none)
  · refine sc_pr fun o r => sc_c8 ?_
    unfold am_tl
    cases am_tx o with
    | none => exact sc_end none
    | some t => exact sc_go _ _ _ _
  · refine sc_pi fun i S => sc_pr fun o r => sc_c8 ?_
    unfold am_tc
    cases am_tx o with
    | none => exact sc_end none
    | some t => exact sc_bif (sc_go _ _ _ _) (sc_end none)
  · exact sc_end none
set_option maxHeartbeats 4000000 in
theorem sc_step (F : Nat → List Value → am_H → Option am_R) (tb : am_X) (e : am_E) (pc : Nat) (L : am_V) (S : List Value) (h : am_H) : am_SC (am_step F tb e pc L S h) := by
  obtain ⟨i, n, a, b, c, d, rt, v, sw⟩ := e
  show am_SC (fun k => am_step F tb (i, n, a, b, c, d, rt, v, sw) pc L S h k)
  unfold am_step
  dsimp only
  split
  all_goals first
    | exact sc_go _ _ _ _
    | exact sc_li fun _ => sc_go _ _ _ _
    | exact sc_ll fun _ => sc_go _ _ _ _
    | exact sc_lr fun _ => sc_go _ _ _ _
    | exact sc_pi fun _ _ => sc_go _ _ _ _
    | exact sc_pl fun _ _ => sc_go _ _ _ _
    | exact sc_pr fun _ _ => sc_go _ _ _ _
    | exact sc_pr fun _ _ => sc_al fun _ => sc_go _ _ _ _
    | exact sc_pi fun _ _ => sc_pi fun _ _ => sc_go _ _ _ _
    | exact sc_pl fun _ _ => sc_pl fun _ _ => sc_go _ _ _ _
    | exact sc_pi fun _ _ => sc_pl fun _ _ => sc_go _ _ _ _
    | exact sc_pi fun _ _ => sc_ite (sc_go _ _ _ _) (sc_go _ _ _ _)
    | exact sc_pi fun _ _ => sc_pi fun _ _ => sc_ite (sc_go _ _ _ _) (sc_go _ _ _ _)
    | exact sc_pi fun _ _ => sc_pi fun _ _ => sc_ite (sc_end none) (sc_go _ _ _ _)
    | exact sc_pi fun _ _ => sc_sw (fun _ => sc_go _ _ _ _) _
    | exact sc_call F tb a b c d rt pc L S h
    | exact sc_pi fun _ _ => sc_pr fun _ _ => sc_ar fun _ => sc_go _ _ _ _
    | exact sc_pi fun _ _ => sc_pr fun _ _ => sc_ap fun _ => sc_go _ _ _ _
    | exact sc_pi fun _ _ => sc_pi fun _ _ => sc_pr fun _ _ => sc_ar fun _ => sc_go _ _ _ _
    | exact sc_pl fun _ _ => sc_pi fun _ _ => sc_pr fun _ _ => sc_ar fun _ => sc_go _ _ _ _
    | exact sc_pi fun _ _ => sc_bif (sc_go _ _ _ _) (sc_end none)
    | exact sc_pi fun _ _ => sc_pi fun _ _ => sc_bif (sc_go _ _ _ _) (sc_end none)
    | exact sc_end none
    | skip
  · cases v <;> first
      | exact sc_li fun _ => sc_go _ _ _ _
      | exact sc_end none
  · cases S with
    | nil => exact sc_end none
    | cons x S => exact sc_bif (sc_go _ _ _ _) (sc_end none)
  · cases S with
    | nil => exact sc_end none
    | cons x S => exact sc_bif (sc_go _ _ _ _) (sc_end none)
  · cases S with
    | nil => exact sc_end none
    | cons x S =>
      refine sc_bif (sc_go _ _ _ _) ?_
      cases S with
      | nil => exact sc_end none
      | cons y S => exact sc_bif (sc_go _ _ _ _) (sc_end none)
  · refine sc_pr fun o S => ?_
    split
    · exact sc_gi fun _ => sc_go _ _ _ _
    · exact sc_gl fun _ => sc_go _ _ _ _
    · exact sc_gp fun _ => sc_go _ _ _ _
    · exact sc_end none
  · split
    · exact sc_pi fun _ _ => sc_pr fun _ _ => sc_ck (sc_go _ _ _ _)
    · exact sc_pl fun _ _ => sc_pr fun _ _ => sc_ck (sc_go _ _ _ _)
    · exact sc_pr fun _ _ => sc_pr fun _ _ => sc_ck (sc_go _ _ _ _)
    · exact sc_pi fun _ _ => sc_pr fun _ _ => sc_01 (sc_ck (sc_go _ _ _ _))
    · exact sc_end none
  · split
    · exact sc_bif (sc_go _ _ _ _) (sc_end none)
    · exact sc_end _
    · exact sc_end none
  all_goals exact sc_end _
/-- what a step with the continuation k answers, a step with one that answers at least as much answers too -/
theorem sc_mono {f : am_C → Option am_R} (hf : am_SC f) {k k' : am_C} {r : am_R} (hk : ∀ pc L S h, k pc L S h = some r → k' pc L S h = some r) (h : f k = some r) : f k' = some r := by
  rcases hf with ⟨pc, L, S, h1, e⟩ | ⟨o, e⟩
  · rw [e] at h ⊢
    exact hk _ _ _ _ h
  · rw [e] at h ⊢
    exact h
theorem am_run_succ (F : Nat → List Value → am_H → Option am_R) (M : am_M) : ∀ (n pc : Nat) (L : am_V) (S : List Value) (h : am_H) (r : am_R), am_run F M n pc L S h = some r → am_run F M (n + 1) pc L S h = some r
  | 0, _, _, _, _, _, h => by cases h
  | n + 1, pc, L, S, h, r, hr => by
    rw [am_run] at hr ⊢
    cases hm : M.1 pc with
    | none => rw [hm] at hr; cases hr
    | some e =>
      rw [hm] at hr
      exact sc_mono (sc_step F M.2.2.1 e pc L S h) (fun pc L S h q => am_run_succ F M n pc _ S h r q) hr
theorem am_run_le {F : Nat → List Value → am_H → Option am_R} {M : am_M} {n m pc : Nat} {L : am_V} {S : List Value} {h : am_H} {r : am_R} (hn : n ≤ m) (hr : am_run F M n pc L S h = some r) : am_run F M m pc L S h = some r := by
  induction hn with
  | refl => exact hr
  | step _ ih => exact am_run_succ F M _ _ _ _ _ _ ih

/-- what the method answers from here -/
noncomputable def am_sem (F : Nat → List Value → am_H → Option am_R) (M : am_M) : am_C := fun pc L S h =>
  @dite (Option am_R) (∃ (r : am_R) (n : Nat), am_run F M n pc L S h = some r) (Classical.propDecidable _) (fun q => some q.choose) (fun _ => none)
theorem am_sem_iff {F : Nat → List Value → am_H → Option am_R} {M : am_M} {pc : Nat} {L : am_V} {S : List Value} {h : am_H} {r : am_R} : am_sem F M pc L S h = some r ↔ ∃ n, am_run F M n pc L S h = some r := by
  unfold am_sem
  constructor
  · intro q
    split at q
    · rename_i w
      obtain ⟨n, hn⟩ := w.choose_spec
      cases q
      exact ⟨n, hn⟩
    · cases q
  · intro ⟨n, hn⟩
    have w : ∃ (r : am_R) (n : Nat), am_run F M n pc L S h = some r := ⟨r, n, hn⟩
    rw [dif_pos w]
    obtain ⟨m, hm⟩ := w.choose_spec
    rcases Nat.le_total n m with q | q
    · exact hm.symm.trans (am_run_le q hn)
    · exact (am_run_le q hm).symm.trans hn
theorem am_sem_step (F : Nat → List Value → am_H → Option am_R) (M : am_M) (pc : Nat) (L : am_V) (S : List Value) (h : am_H) : am_sem F M pc L S h = match M.1 pc with
    | none => none
    | some e => am_step F M.2.2.1 e pc L S h (fun pc L S h => am_sem F M pc (am_no M.2.1 pc L) S h) := by
  apply Option.ext
  intro r
  rw [am_sem_iff]
  constructor
  · intro ⟨n, hn⟩
    cases n with
    | zero => cases hn
    | succ n =>
      rw [am_run] at hn
      cases hm : M.1 pc with
      | none => rw [hm] at hn; cases hn
      | some e =>
        rw [hm] at hn
        exact sc_mono (sc_step F M.2.2.1 e pc L S h) (fun pc L S h q => am_sem_iff.mpr ⟨n, q⟩) hn
  · intro q
    cases hm : M.1 pc with
    | none => rw [hm] at q; cases q
    | some e =>
      rw [hm] at q
      dsimp only at q
      rcases sc_step F M.2.2.1 e pc L S h with ⟨pc', L', S', h', w⟩ | ⟨o, w⟩
      · rw [w] at q
        obtain ⟨n, hn⟩ := am_sem_iff.mp q
        refine ⟨n + 1, ?_⟩
        rw [am_run, hm]
        dsimp only
        rw [w]
        exact hn
      · rw [w] at q
        refine ⟨1, ?_⟩
        rw [am_run, hm]
        dsimp only
        rw [w]
        exact q
theorem am_sem_seg (F : Nat → List Value → am_H → Option am_R) (M : am_M) : ∀ (n pc : Nat) (L : am_V) (S : List Value) (h : am_H), am_sem F M pc L S h = am_seg F M (am_sem F M) n pc L S h
  | 0, _, _, _, _ => rfl
  | n + 1, pc, L, S, h => by
    rw [am_sem_step, am_seg]
    cases M.1 pc with
    | none => rfl
    | some e =>
      dsimp only
      congr 1
      funext pc L S h
      unfold am_no
      cases M.2.1 pc with
      | none => exact am_sem_seg F M n pc L S h
      | some ks => rfl
/-- a method at depth d: how many calls may stand open over it -/
noncomputable def am_sm (MT : Nat → Option am_M) : Nat → Nat → List Value → am_H → Option am_R
  | 0, _, _, _ => none
  | d + 1, k, As, h => match MT k with
    | none => none
    | some M => bif Nat.ble (am_wd As) M.2.2.2 then am_sem (am_sm MT d) M 0 (lv_args 0 As) [] h else none
