/-! ===== what a step that answers says of the stack, the locals and the heap ===== -/
theorem iv_pi {S : List Value} {k : Int32 → List Value → Option am_R} {r : am_R} (h : am_pi S k = some r) : ∃ x t, S = .int x :: t ∧ k x t = some r := by
  unfold am_pi at h
  split at h
  · exact ⟨_, _, rfl, h⟩
  · cases h
theorem iv_pl {S : List Value} {k : Int64 → List Value → Option am_R} {r : am_R} (h : am_pl S k = some r) : ∃ x t, S = .long x :: t ∧ k x t = some r := by
  unfold am_pl at h
  split at h
  · exact ⟨_, _, rfl, h⟩
  · cases h
theorem iv_pr {S : List Value} {k : Nat → List Value → Option am_R} {r : am_R} (h : am_pr S k = some r) : ∃ x t, S = .ref x :: t ∧ k x t = some r := by
  unfold am_pr at h
  split at h
  · exact ⟨_, _, rfl, h⟩
  · cases h
theorem iv_lk : ∀ {L : am_V} {i : Nat} {v : Value}, am_lk L i = some v → (i, v) ∈ L
  | [], _, _, h => by cases h
  | q :: t, i, v, h => by
    rw [am_lk] at h
    cases hb : Nat.beq q.1 i with
    | true =>
      rw [hb] at h
      have h1 : q.2 = v := Option.some.inj h
      have h2 : q.1 = i := Nat.eq_of_beq_eq_true hb
      rw [← h1, ← h2]
      exact List.mem_cons_self
    | false =>
      rw [hb] at h
      exact List.mem_cons_of_mem _ (iv_lk h)
theorem iv_li {L : am_V} {i : Nat} {k : Int32 → Option am_R} {r : am_R} (h : am_li L i k = some r) : ∃ x, (i, Value.int x) ∈ L ∧ k x = some r := by
  unfold am_li at h
  split at h
  · exact ⟨_, iv_lk (by assumption), h⟩
  · cases h
theorem iv_ll {L : am_V} {i : Nat} {k : Int64 → Option am_R} {r : am_R} (h : am_ll L i k = some r) : ∃ x, (i, Value.long x) ∈ L ∧ k x = some r := by
  unfold am_ll at h
  split at h
  · exact ⟨_, iv_lk (by assumption), h⟩
  · cases h
theorem iv_lr {L : am_V} {i : Nat} {k : Nat → Option am_R} {r : am_R} (h : am_lr L i k = some r) : ∃ x, (i, Value.ref x) ∈ L ∧ k x = some r := by
  unfold am_lr at h
  split at h
  · exact ⟨_, iv_lk (by assumption), h⟩
  · cases h
theorem iv_bif {b : Bool} {x : Option am_R} {r : am_R} (h : (bif b then x else none) = some r) : b = true ∧ x = some r := by
  cases b
  · cases h
  · exact ⟨rfl, h⟩
theorem iv_kd {h : am_H} {o c : Nat} (hk : am_kd h o c = true) : ∃ n, (am_S h)[o]? = some (c, n) := by
  unfold am_kd at hk
  split at hk
  · rename_i q hq
    refine ⟨q.2, ?_⟩
    rw [hq, ← Nat.eq_of_beq_eq_true hk]
  · cases hk
theorem iv_ck {h : am_H} {o c : Nat} {k : Option am_R} {r : am_R} (hk : am_ck h o c k = some r) : (∃ n, (am_S h)[o]? = some (c, n)) ∧ k = some r := ⟨iv_kd (iv_bif hk).1, (iv_bif hk).2⟩
theorem iv_gi {h : am_H} {o c b : Nat} {k : Int32 → Option am_R} {r : am_R} (hk : am_gi h o c b k = some r) : (∃ n, (am_S h)[o]? = some (c, n)) ∧ k (am_I h o b) = some r := ⟨iv_kd (iv_bif hk).1, (iv_bif hk).2⟩
theorem iv_gl {h : am_H} {o c b : Nat} {k : Int64 → Option am_R} {r : am_R} (hk : am_gl h o c b k = some r) : (∃ n, (am_S h)[o]? = some (c, n)) ∧ k (am_L h o b) = some r := ⟨iv_kd (iv_bif hk).1, (iv_bif hk).2⟩
theorem iv_gp {h : am_H} {o c b : Nat} {k : Nat → Option am_R} {r : am_R} (hk : am_gp h o c b k = some r) : (∃ n, (am_S h)[o]? = some (c, n)) ∧ ∃ p, am_P h o b = some p ∧ k p = some r := by
  unfold am_gp at hk
  obtain ⟨h1, h2⟩ := iv_bif hk
  refine ⟨iv_kd h1, ?_⟩
  split at h2
  · exact ⟨_, by assumption, h2⟩
  · cases h2
theorem iv_ar {h : am_H} {c a : Nat} {i : Int32} {k : Nat → Option am_R} {r : am_R} (hk : am_ar h c a i k = some r) : ∃ n, (am_S h)[a]? = some (c, n) ∧ vp_in i n ∧ k i.toNatClampNeg = some r := by
  unfold am_ar at hk
  split at hk
  · rename_i q hq
    obtain ⟨h1, h2⟩ := iv_bif hk
    simp only [Bool.and_eq_true, Bool.not_eq_true', Bool.or_eq_false_iff, decide_eq_false_iff_not] at h1
    obtain ⟨e1, e2, e3⟩ := h1
    refine ⟨q.2, ?_, ?_, h2⟩
    · rw [hq, ← Nat.eq_of_beq_eq_true e1]
    · intro z
      rcases z with z | z
      · exact e2 z
      · have : Nat.ble q.2 i.toNatClampNeg = true := Nat.ble_eq_true_of_le z
        rw [this] at e3
        cases e3
  · cases hk
theorem iv_ap {h : am_H} {c a : Nat} {i : Int32} {k : Nat → Option am_R} {r : am_R} (hk : am_ap h c a i k = some r) : ∃ n p, (am_S h)[a]? = some (c, n) ∧ vp_in i n ∧ am_P h a i.toNatClampNeg = some p ∧ k p = some r := by
  obtain ⟨n, h1, h2, h3⟩ := iv_ar hk
  split at h3
  · exact ⟨n, _, h1, h2, by assumption, h3⟩
  · cases h3
theorem iv_al {h : am_H} {o : Nat} {k : Int32 → Option am_R} {r : am_R} (hk : am_al h o k = some r) : ∃ c n, (am_S h)[o]? = some (c, n) ∧ 9 ≤ c ∧ k (Int32.ofNat n) = some r := by
  unfold am_al at hk
  split at hk
  · rename_i q hq
    obtain ⟨h1, h2⟩ := iv_bif hk
    exact ⟨q.1, q.2, hq, Nat.le_of_ble_eq_true h1, h2⟩
  · cases hk
theorem iv_c8 {t : List Value} {k : Option am_R} {r : am_R} (hk : am_c8 t k = some r) : (t.map fun v => v.category).sum ≤ 8 ∧ k = some r := ⟨Nat.le_of_ble_eq_true (iv_bif hk).1, (iv_bif hk).2⟩
theorem iv_01 {v : Int32} {k : Option am_R} {r : am_R} (hk : am_01 v k = some r) : (v = 0 ∨ v = 1) ∧ k = some r := by
  obtain ⟨h1, h2⟩ := iv_bif hk
  refine ⟨?_, h2⟩
  simpa using h1
theorem iv_sp {n : Nat} {S : List Value} {k : List Value → List Value → Option am_R} {r : am_R} (hk : am_sp n S k = some r) : ∃ As t, S = As.reverse ++ t ∧ As.length = n ∧ k As t = some r := by
  obtain ⟨h1, h2⟩ := iv_bif hk
  have hn : n ≤ S.length := Nat.le_of_ble_eq_true h1
  refine ⟨(S.take n).reverse, S.drop n, ?_, ?_, h2⟩
  · rw [List.reverse_reverse, List.take_append_drop]
  · rw [List.length_reverse, List.length_take]
    omega
theorem iv_sw {x : Int32} {a : Nat} {k : Nat → Option am_R} {r : am_R} : ∀ {sw : List (Int32 × Nat)}, am_sw sw x a k = some r → (∃ (j t : Nat), sw[j]? = some (x, t) ∧ k t = some r) ∨ ((∀ (j : Nat) (q : Int32 × Nat), sw[j]? = some q → x ≠ q.1) ∧ k a = some r)
  | [], h => Or.inr ⟨fun j q hq => by simp at hq, h⟩
  | q :: t, h => by
    rw [am_sw] at h
    by_cases hx : x = q.1
    · rw [if_pos hx] at h
      exact Or.inl ⟨0, q.2, by simp [hx], h⟩
    · rw [if_neg hx] at h
      rcases iv_sw h with ⟨j, t', h1, h2⟩ | ⟨h1, h2⟩
      · exact Or.inl ⟨j + 1, t', by simpa using h1, h2⟩
      · refine Or.inr ⟨fun j z hz => ?_, h2⟩
        cases j with
        | zero =>
          have e : q = z := by simpa using hz
          rw [← e]
          exact hx
        | succ j => exact h1 j z (by simpa using hz)
/-- locals, seen -/
def sm_p (g : Nat → Nat) (q : Nat × Value) : Nat × Value := (q.1, sm_v g q.2)
theorem lh_at {g : Nat → Nat} {ls : Array Slot} {nL : Nat} {L : am_V} (h : lv_has ls nL (L.map (sm_p g))) {i : Nat} {v : Value} (hm : (i, v) ∈ L) : ls[i]? = some (.val (sm_v g v)) := h.2.2 _ (List.mem_map_of_mem (f := sm_p g) hm)
theorem lh_sub {g : Nat → Nat} {ls : Array Slot} {nL : Nat} {L L' : am_V} (h : lv_has ls nL (L.map (sm_p g))) (hs : ∀ q ∈ L', q ∈ L) : lv_has ls nL (L'.map (sm_p g)) := by
  refine ⟨h.1, h.2.1, fun q hq => ?_⟩
  obtain ⟨z, hz, rfl⟩ := List.mem_map.mp hq
  exact h.2.2 _ (List.mem_map_of_mem (hs z hz))
theorem lh_no {g : Nat → Nat} {ls : Array Slot} {nL : Nat} {L : am_V} {f : Nat → Option (List Nat)} {pc : Nat} (h : lv_has ls nL (L.map (sm_p g))) : lv_has ls nL ((am_no f pc L).map (sm_p g)) := by
  refine lh_sub h fun q hq => ?_
  unfold am_no at hq
  split at hq
  · unfold am_nr at hq
    obtain ⟨k, -, hk⟩ := List.mem_filterMap.mp hq
    cases hl : am_lk L k with
    | none => rw [hl] at hk; cases hk
    | some v =>
      rw [hl] at hk
      cases hk
      exact iv_lk hl
  · exact hq
theorem lh_f1 (g : Nat → Nat) (L : am_V) (i : Nat) : (am_f1 L i).map (sm_p g) = (L.map (sm_p g)).filter (fun q => !(q.1 == i) && !(q.1 + 1 == i && q.2.category == 2)) := by
  unfold am_f1
  rw [List.filter_map]
  congr 1
  apply List.filter_congr
  intro q _
  show _ = (!(q.1 == i) && !(q.1 + 1 == i && (sm_v g q.2).category == 2))
  rw [sm_v_cat]
theorem lh_f2 (g : Nat → Nat) (L : am_V) (i : Nat) : (am_f2 L i).map (sm_p g) = (L.map (sm_p g)).filter (fun q => !(q.1 == i) && (!(q.1 == i + 1) && !(q.1 + 1 == i && q.2.category == 2))) := by
  unfold am_f2
  rw [List.filter_map]
  congr 1
  apply List.filter_congr
  intro q _
  show _ = (!(q.1 == i) && (!(q.1 == i + 1) && !(q.1 + 1 == i && (sm_v g q.2).category == 2)))
  rw [sm_v_cat]
theorem sm_cats (g : Nat → Nat) (t : List Value) : ((t.map (sm_v g)).map fun v => v.category).sum = (t.map fun v => v.category).sum := by
  rw [List.map_map]
  congr 1
  apply List.map_congr_left
  intro v _
  exact sm_v_cat g v
