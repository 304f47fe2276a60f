/-! ===== one instruction, seen ===== -/
section SX
variable {p : Program} {l : Launch} {e : Env} {R : Room} {s : State} {m : MethodId} {args : Array Value} {below : List Frame} {meth : Method} {c : Code} {H : Heap} {locs : List Loc} {cells slots : Nat} {pc : Nat} {ls : Array Slot}
variable {D : va_G} {cA : Nat → ClassId} {g : Nat → Nat} {B b Ln : Nat} {xs : Nat → Int32} {adV : Nat → Nat} {MI : Nat → Option sm_M} {d : Nat} {q : sm_M} {F : Nat → List Value → am_H → Option am_R} {tb : am_X} {nc0 ns0 mc ms : Nat} {r : am_R} {k : am_C} {L : am_V} {S : List Value} {h : am_H}
theorem sm_grow_len {h : am_H} (h1 : am_nc h ≤ 700000) : (am_S h).length ≤ 700000 := Nat.le_trans (Nat.le_add_right _ _) h1
/-- a call, seen: behind the run of the callee -/
theorem sm_back {rt mc' ms' : Nat} {r' : am_R} {rest : List Value} {st0 : List Value} {a9 : Array Value} (C : sm_Cx p l R s m args meth c D cA g B b Ln xs adV d q) (htb : sm_tb q.1 q.2.2.1 q.2.2.2.1 tb (q.2.2.2.2.2.getD [])) (hk : ∀ pc L S h, k pc L S h = some r → am_le h r.2) (hmc : nc0 + mc = am_nc r.2) (hms : ns0 + ms = am_ns r.2)
    (IH : sm_go p l e R s m args below meth c D cA g B Ln xs q.2.2.2.1 nc0 ns0 mc ms r k) (hI : sm_I s D cA g B Ln xs q.2.2.2.1 nc0 ns0 h H locs cells slots ls L) (hm1 : am_nc h + mc' = am_nc r'.2) (hm2 : am_ns h + ms' = am_ns r'.2)
    (hr : vx_Run p l e R s m args below meth c H locs cells slots mc' ms' (F0 m pc ls st0) (rest.map (sm_v g)) (sm_Q D cA g B Ln xs r' a9) (sm_X D cA g B Ln xs r') (fun q => B ≤ q)) (hs : am_bk tb pc L rest rt k (some r') = some r) :
    W p l e R s m args below meth c H locs cells slots (vx_MQ below (sm_Q D cA g B Ln xs r) (sm_X D cA g B Ln xs r) args s mc ms (fun q => B ≤ q)) (F0 m pc ls st0) := by
  obtain ⟨hx, hb, hret, hml, hown, hts, hlocks, htab, hin, hA, hBs, hg, htr, hRf, hRl⟩ := C
  obtain ⟨hW, hS, hl, hnc, hns⟩ := hI
  have hgr : am_le r'.2 r.2 := by
    unfold am_bk at hs
    have hth : ∀ E h9, am_th tb pc L k E h9 = some r → am_le h9 r.2 := by
      intro E h9 hq
      unfold am_th at hq
      split at hq
      · exact hk _ _ _ _ hq
      · cases hq
        exact am_le.rf _
    split at hs
    · unfold am_ov at hs
      split at hs
      · rename_i hq; cases hq; exact hk _ _ _ _ hs
      · rename_i hq; cases hq; exact hth _ _ hs
      · cases hs
    · unfold am_oi at hs
      split at hs
      · rename_i hq; cases hq; exact hk _ _ _ _ hs
      · rename_i hq; cases hq; exact hth _ _ hs
      · cases hs
    · unfold am_ol at hs
      split at hs
      · rename_i hq; cases hq; exact hk _ _ _ _ hs
      · rename_i hq; cases hq; exact hth _ _ hs
      · cases hs
    · cases hs
  refine sm_called hr hS (fun v H1 locs1 hv hW1 hS1 => ?_) (fun x ce q9 H1 locs1 hv hx3 hW1 hS1 hce hcv hcl => ?_)
  · obtain ⟨o, h'⟩ := r'
    dsimp only at hv hW1 hgr hm1 hm2
    subst hv
    have hI1 : sm_I s D cA g B Ln xs q.2.2.2.1 nc0 ns0 h' H1 locs1 (cells + mc') (slots + ms') ls L := ⟨hW1, hS1, hl, by omega, by omega⟩
    unfold am_bk at hs
    split at hs
    · unfold am_ov at hs
      cases v with
      | none => exact IH _ _ _ _ _ _ _ _ _ hs hI1
      | some v => cases hs
    · unfold am_oi at hs
      cases v with
      | none => cases hs
      | some v =>
        cases v <;> first | exact IH _ _ _ _ _ _ _ _ _ hs hI1 | cases hs
    · unfold am_ol at hs
      cases v with
      | none => cases hs
      | some v =>
        cases v <;> first | exact IH _ _ _ _ _ _ _ _ _ hs hI1 | cases hs
    · cases hs
  · obtain ⟨o, h'⟩ := r'
    dsimp only at hv hW1 hgr hm1 hm2
    subst hv
    have hth : am_th tb pc L k x h' = some r := by
      unfold am_bk at hs
      split at hs
      · exact hs
      · exact hs
      · exact hs
      · cases hs
    have hb1 : cells + mc' ≤ mc := by have := hgr.1; omega
    have hb2 : slots + ms' ≤ ms := by have := hgr.2; omega
    exact sm_th hx hb hown hts hlocks hA hl hW1 hS1 hx3 hce hcv hcl hb1 hb2 (fun pc' L' ls' hk' hl' => IH pc' L' [] h' _ _ _ _ ls' hk' ⟨hW1, hS1, hl', by omega, by omega⟩) tb _ [] htb htab (fun z hz => by cases hz) hth
theorem am_up_same {α : Type} {f : Nat → Nat → α} {a i : Nat} {v : α} : am_up f a i v a i = v := by simp [am_up]
theorem sm_np {y : MethodName} {n : Nat} (h : (parseMethodDescriptor y.desc).map (fun z => z.parameters.length) = some n) {sig : ClassFile.MethodDescriptor} (hs : parseMethodDescriptor y.desc = some sig) : n = sig.parameters.length := by
  rw [hs] at h
  exact (Option.some.inj h).symm
theorem am_bk_none (tb : am_X) (pc : Nat) (L : am_V) (t : List Value) (rt : Nat) (k : am_C) (r : am_R) : am_bk tb pc L t rt k none ≠ some r := by
  unfold am_bk am_ov am_oi am_ol
  split <;> exact fun z => nomatch z
theorem am_bk_le {tb : am_X} {pc : Nat} {L : am_V} {t : List Value} {rt : Nat} {k : am_C} {r r' : am_R} (hk : ∀ pc L S h, k pc L S h = some r → am_le h r.2) (hs : am_bk tb pc L t rt k (some r') = some r) : am_le r'.2 r.2 := by
  have hth : ∀ E h9, am_th tb pc L k E h9 = some r → am_le h9 r.2 := by
    intro E h9 hq
    unfold am_th at hq
    split at hq
    · exact hk _ _ _ _ hq
    · cases hq
      exact am_le.rf _
  unfold am_bk at hs
  split at hs
  · unfold am_ov at hs
    split at hs
    · rename_i hq; cases hq; exact hk _ _ _ _ hs
    · rename_i hq; cases hq; exact hth _ _ hs
    · cases hs
  · unfold am_oi at hs
    split at hs
    · rename_i hq; cases hq; exact hk _ _ _ _ hs
    · rename_i hq; cases hq; exact hth _ _ hs
    · cases hs
  · unfold am_ol at hs
    split at hs
    · rename_i hq; cases hq; exact hk _ _ _ _ hs
    · rename_i hq; cases hq; exact hth _ _ hs
    · cases hs
  · cases hs
theorem iv_cp {h : am_H} {f t : Nat} {sp dp n : Int32} {k : am_H → Option am_R} {r : am_R} (hk : am_cp h f sp t dp n k = some r) : ∃ nf nt, (am_S h)[f]? = some (9, nf) ∧ (am_S h)[t]? = some (9, nt) ∧ ¬ sp < 0 ∧ ¬ dp < 0 ∧ ¬ n < 0 ∧ sp.toNatClampNeg + n.toNatClampNeg ≤ nf ∧ dp.toNatClampNeg + n.toNatClampNeg ≤ nt ∧ k (am_rI h t (va_cpy (am_I h f) (am_I h t) sp.toNatClampNeg dp.toNatClampNeg n.toNatClampNeg)) = some r := by
  unfold am_cp at hk
  split at hk
  · rename_i qf qt hf ht
    obtain ⟨h1, h2⟩ := iv_bif hk
    simp only [Bool.and_eq_true, Bool.not_eq_true', Bool.or_eq_false_iff, decide_eq_false_iff_not] at h1
    obtain ⟨⟨⟨⟨e1, e2⟩, ⟨e3, e4⟩, e5⟩, e6⟩, e7⟩ := h1
    exact ⟨qf.2, qt.2, by rw [hf, ← Nat.eq_of_beq_eq_true e1], by rw [ht, ← Nat.eq_of_beq_eq_true e2], e3, e4, e5, Nat.le_of_ble_eq_true e6, Nat.le_of_ble_eq_true e7, h2⟩
  · cases hk
theorem iv_tx {o : Nat} {t : List Int32} (h : am_tx o = some t) : ∃ i, i < 3 ∧ o = 1000000 + i ∧ t.length = sm_len.getD i 0 ∧ t = sm_byt.getD i [] := by
  unfold am_tx at h
  split at h
  · cases h; exact ⟨0, by omega, rfl, rfl, rfl⟩
  · cases h; exact ⟨1, by omega, rfl, rfl, rfl⟩
  · cases h; exact ⟨2, by omega, rfl, rfl, rfl⟩
  · cases h
theorem iv_tl {o : Nat} {k : Int32 → Option am_R} {r : am_R} (h : am_tl o k = some r) : ∃ i, i < 3 ∧ o = 1000000 + i ∧ k (Int32.ofNat (sm_len.getD i 0)) = some r := by
  unfold am_tl at h
  split at h
  · rename_i t ht
    obtain ⟨i, h1, h2, h3, -⟩ := iv_tx ht
    exact ⟨i, h1, h2, by rw [← h3]; exact h⟩
  · cases h
theorem iv_tc {o : Nat} {j : Int32} {k : Int32 → Option am_R} {r : am_R} (h : am_tc o j k = some r) : ∃ i, i < 3 ∧ o = 1000000 + i ∧ vp_in j (sm_len.getD i 0) ∧ k ((sm_byt.getD i []).getD j.toNatClampNeg 0) = some r := by
  unfold am_tc at h
  split at h
  · rename_i t ht
    obtain ⟨i, h1, h2, h3, h4⟩ := iv_tx ht
    obtain ⟨g1, g2⟩ := iv_bif h
    simp only [Bool.not_eq_true', Bool.or_eq_false_iff, decide_eq_false_iff_not] at g1
    refine ⟨i, h1, h2, ?_, by rw [← h4]; exact g2⟩
    rintro (z | z)
    · exact g1.1 z
    · rw [← h3] at z
      rw [Nat.ble_eq_true_of_le z] at g1
      cases g1.2
  · cases h
theorem sm_lsw {pc a : Nat} {x : Int32} {dflt : Int} {k : Nat → Option am_R} {r : am_R} (hd : (pc : Int) + dflt = (a : Int)) : ∀ {sw : List (Int32 × Nat)}, am_sw sw x a k = some r → ∃ t, k t = some r ∧ (pc : Int) + Op.lookupswitch.offset (sw.map (fun z => (z.1.toInt, (z.2 : Int) - (pc : Int)))) dflt x.toInt = (t : Int)
  | [], h => ⟨a, h, hd⟩
  | q :: t, h => by
    rw [am_sw] at h
    by_cases hx : x = q.1
    · rw [if_pos hx] at h
      refine ⟨q.2, h, ?_⟩
      rw [List.map_cons, Op.lookupswitch.offset, if_pos (by rw [hx])]
      omega
    · rw [if_neg hx] at h
      obtain ⟨t', h1, h2⟩ := sm_lsw hd h
      refine ⟨t', h1, ?_⟩
      rw [List.map_cons, lv_osw hx rfl]
      exact h2
theorem sm_slen {idx : Nat} {i : Nat} {t : List Value} (C : sm_Cx p l R s m args meth c D cA g B b Ln xs adV d q) (hst : sm_st l D cA g B b Ln xs adV) (htb : sm_tb q.1 q.2.2.1 q.2.2.2.1 tb (q.2.2.2.2.2.getD [])) (hk : ∀ pc L S h, k pc L S h = some r → am_le h r.2) (hRc : am_nc r.2 ≤ nc0 + R.cells) (hRs : am_ns r.2 ≤ ns0 + R.slots) (hmc : nc0 + mc = am_nc r.2) (hms : ns0 + ms = am_ns r.2) (IH : sm_go p l e R s m args below meth c D cA g B Ln xs q.2.2.2.1 nc0 ns0 mc ms r k) (hI : sm_I s D cA g B Ln xs q.2.2.2.1 nc0 ns0 h H locs cells slots ls L) (hi : i < 3) (hc8 : (t.map fun v => v.category).sum ≤ 8) (hw : Cond.methodLink q.1 idx yJ0_length_8abf5 ∈ sm_TB) (hdg : decode q.2.2.1 pc = .ok (.invokevirtual idx, 3)) (hs : k (pc + 3) L (.int (Int32.ofNat (sm_len.getD i 0)) :: t) h = some r) :
    W p l e R s m args below meth c H locs cells slots (vx_MQ below (sm_Q D cA g B Ln xs r) (sm_X D cA g B Ln xs r) args s mc ms (fun q => B ≤ q)) (F0 m pc ls ((Value.ref (1000000 + i) :: t).map (sm_v g))) := by
  have hC := C
  have hIs := hI
  obtain ⟨hx, hb, hret, hml, hown, hts, hlocks, htab, hin, hA, hBs, hg, htr, hRf, hRl⟩ := C
  obtain ⟨hW, hS, hl, hnc, hns⟩ := hI
  have hfix : CallFix p m c q.2.2.1 q.2.2.2.1 s args sm_TB q.1 := ⟨hx, hb, hml, hown, hts⟩
  have q1 := (hk _ _ _ _ hs).1
  have q2 := (hk _ _ _ _ hs).2
  obtain ⟨hM, -, w1, w2, w3, w4, -, -, -⟩ := hst
  have hp : PreV s H "java/lang/String" (g (1000000 + i)) (sm_Pc D cA g B b Ln xs adV [.ref (1000000 + i)] h) [] := ⟨sm_blind, vk_recv (adK := fun i => g (1000000 + i)) hA.2.2.1 hi hS, fun U hU hWd => ⟨rfl, by rw [hU]; exact hW, hA.at hS hg.2.2 hBs hU hWd⟩⟩
  have hG : GoodIn sm_TB (.code yJ0_length_8abf5 cJ0_length_8abf5 1 (some .int) :: sm_TB) := fun w hw => by
    rcases List.mem_cons.mp hw with rfl | z
    · exact ⟨w1, sm_good w1⟩
    · exact ⟨z, sm_good z⟩
  exact sm_back (rt := 1) (mc' := 0) (ms' := 0) hC htb hk hmc hms IH hIs rfl rfl (vx_runV (bytes := cJ0_length_8abf5) (maxL := 1) (ret := some .int) (n := 0) (C := "java/lang/String") (As := []) (g := F0 m pc ls ((Value.ref (1000000 + i) :: t).map (sm_v g))) hfix (hM h i hi) ⟨⟨rfl, rfl, by show 10 + 1 ≤ R.frames; omega, by show 8 + (1 + 11) + 200 ≤ R.locals; omega, pay_in hts hG, List.mem_cons_self, hts _ w1, hts _ w2, ⟨by decide +kernel, by decide +kernel⟩, (fun sig hs9 => sm_np (y := yJ0_length_8abf5) (by decide +kernel) hs9), hts _ hw⟩, hts _ w3, hts _ w4⟩ hp rfl rfl hl.1 rfl (lv_room (by rw [sm_cats]; exact hc8)) hdg ⟨by omega, by omega⟩) hs
theorem sm_schr {idx : Nat} {i : Nat} {j : Int32} {t : List Value} (C : sm_Cx p l R s m args meth c D cA g B b Ln xs adV d q) (hst : sm_st l D cA g B b Ln xs adV) (htb : sm_tb q.1 q.2.2.1 q.2.2.2.1 tb (q.2.2.2.2.2.getD [])) (hk : ∀ pc L S h, k pc L S h = some r → am_le h r.2) (hRc : am_nc r.2 ≤ nc0 + R.cells) (hRs : am_ns r.2 ≤ ns0 + R.slots) (hmc : nc0 + mc = am_nc r.2) (hms : ns0 + ms = am_ns r.2) (IH : sm_go p l e R s m args below meth c D cA g B Ln xs q.2.2.2.1 nc0 ns0 mc ms r k) (hI : sm_I s D cA g B Ln xs q.2.2.2.1 nc0 ns0 h H locs cells slots ls L) (hi : i < 3) (hin9 : vp_in j (sm_len.getD i 0)) (hc8 : (t.map fun v => v.category).sum ≤ 8) (hw : Cond.methodLink q.1 idx yJ0_charAt_5068e ∈ sm_TB) (hdg : decode q.2.2.1 pc = .ok (.invokevirtual idx, 3)) (hs : k (pc + 3) L (.int ((sm_byt.getD i []).getD j.toNatClampNeg 0) :: t) h = some r) :
    W p l e R s m args below meth c H locs cells slots (vx_MQ below (sm_Q D cA g B Ln xs r) (sm_X D cA g B Ln xs r) args s mc ms (fun q => B ≤ q)) (F0 m pc ls ((Value.int j :: Value.ref (1000000 + i) :: t).map (sm_v g))) := by
  have hC := C
  have hIs := hI
  obtain ⟨hx, hb, hret, hml, hown, hts, hlocks, htab, hin, hA, hBs, hg, htr, hRf, hRl⟩ := C
  obtain ⟨hW, hS, hl, hnc, hns⟩ := hI
  have hfix : CallFix p m c q.2.2.1 q.2.2.2.1 s args sm_TB q.1 := ⟨hx, hb, hml, hown, hts⟩
  have q1 := (hk _ _ _ _ hs).1
  have q2 := (hk _ _ _ _ hs).2
  obtain ⟨-, hM, -, w2, -, -, w1, w3, w4⟩ := hst
  have hp : PreV s H "java/lang/String" (g (1000000 + i)) (sm_Pc D cA g B b Ln xs adV [.ref (1000000 + i), .int j] h) [.int j] := ⟨sm_blind, vk_recv (adK := fun i => g (1000000 + i)) hA.2.2.1 hi hS, fun U hU hWd => ⟨rfl, by rw [hU]; exact hW, hA.at hS hg.2.2 hBs hU hWd⟩⟩
  have hG : GoodIn sm_TB (.code yJ0_charAt_5068e cJ0_charAt_5068e 2 (some .char) :: sm_TB) := fun w hw => by
    rcases List.mem_cons.mp hw with rfl | z
    · exact ⟨w1, sm_good w1⟩
    · exact ⟨z, sm_good z⟩
  exact sm_back (rt := 1) (mc' := 0) (ms' := 0) hC htb hk hmc hms IH hIs rfl rfl (vx_runV (bytes := cJ0_charAt_5068e) (maxL := 2) (ret := some .char) (n := 1) (C := "java/lang/String") (As := [.int j]) (g := F0 m pc ls ((Value.int j :: Value.ref (1000000 + i) :: t).map (sm_v g))) hfix (hM h i j hi hin9) ⟨⟨rfl, rfl, by show 10 + 1 ≤ R.frames; omega, by show 8 + (2 + 11) + 200 ≤ R.locals; omega, pay_in hts hG, List.mem_cons_self, hts _ w1, hts _ w2, ⟨by decide +kernel, by decide +kernel⟩, (fun sig hs9 => sm_np (y := yJ0_charAt_5068e) (by decide +kernel) hs9), hts _ hw⟩, hts _ w3, hts _ w4⟩ hp rfl rfl hl.1 rfl (lv_room (by rw [sm_cats]; exact hc8)) hdg ⟨by omega, by omega⟩) hs
set_option maxRecDepth 100000 in
theorem sm_stat {idx a b' c' d' rt : Nat} (C : sm_Cx p l R s m args meth c D cA g B b Ln xs adV d q) (hst : sm_st l D cA g B b Ln xs adV) (hF : ∀ a As h r', F a As h = some r' → am_nc r'.2 ≤ 700000 → sm_ct D cA g B b Ln xs adV MI l d a As h r') (hFg : ∀ a As h r', F a As h = some r' → am_le h r'.2) (hk : ∀ pc L S h, k pc L S h = some r → am_le h r.2) (hN : am_nc r.2 ≤ 700000)
    (hRc : am_nc r.2 ≤ nc0 + R.cells) (hRs : am_ns r.2 ≤ ns0 + R.slots) (hmc : nc0 + mc = am_nc r.2) (hms : ns0 + ms = am_ns r.2) (htb : sm_tb q.1 q.2.2.1 q.2.2.2.1 tb (q.2.2.2.2.2.getD [])) (IH : sm_go p l e R s m args below meth c D cA g B Ln xs q.2.2.2.1 nc0 ns0 mc ms r k) (hdg : decode q.2.2.1 pc = .ok (.invokestatic idx, 3)) (hok2 : sm_ok2 MI q pc (.invokestatic idx) 3 a b' c' d' rt .null []) (hgr : am_le h r.2)
    (hI : sm_I s D cA g B Ln xs q.2.2.2.1 nc0 ns0 h H locs cells slots ls L) (hs : am_call F tb a b' c' d' rt pc L S h k = some r) :
    W p l e R s m args below meth c H locs cells slots (vx_MQ below (sm_Q D cA g B Ln xs r) (sm_X D cA g B Ln xs r) args s mc ms (fun q => B ≤ q)) (F0 m pc ls (S.map (sm_v g))) := by
  have hC := C
  have hIs := hI
  obtain ⟨hx, hb, hret, hml, hown, hts, hlocks, htab, hin, hA, hBs, hg, htr, hRf, hRl⟩ := C
  obtain ⟨hW, hS, hl, hnc, hns⟩ := hI
  have hK := hA.1
  have hlen : (am_S h).length ≤ 900001 := Nat.le_trans (sm_grow_len (Nat.le_trans hgr.1 hN)) (Nat.le_of_ble_eq_true rfl)
  have hfix : CallFix p m c q.2.2.1 q.2.2.2.1 s args sm_TB q.1 := ⟨hx, hb, hml, hown, hts⟩
  rcases hok2 with ⟨rfl, z, hz, hcw⟩ | ⟨rfl, w1, w2, w3, w4⟩
  · unfold am_call at hs
    obtain ⟨As, t, rfl, hlA, hs1⟩ := iv_sp hs
    obtain ⟨hc8, hs2⟩ := iv_c8 hs1
    cases hFr : F a As h with
    | none => rw [hFr] at hs2; exact absurd hs2 (am_bk_none _ _ _ _ _ _ _)
    | some r' =>
      rw [hFr] at hs2
      have hg2 := am_bk_le hk hs2
      have hg1 := hFg _ _ _ _ hFr
      obtain ⟨mc', hm1⟩ := Nat.exists_eq_add_of_le hg1.1
      obtain ⟨ms', hm2⟩ := Nat.exists_eq_add_of_le hg1.2
      have q1 := hg2.1
      have q2 := hg2.2
      have hct := hF _ _ _ _ hFr (Nat.le_trans q1 hN)
      rw [List.map_append, List.map_reverse]
      exact sm_back hC htb hk hmc hms IH hIs hm1.symm hm2.symm (sm_runs (k := 0) hfix hct hz hcw rfl hm1.symm hm2.symm hW hA hS hg.2.2 hBs hRf hRl hlA hl.1 (by rw [sm_cats]; exact hc8) hdg ⟨by omega, by omega⟩) hs2
  · unfold am_call at hs
    obtain ⟨n9, S1, rfl, hs3⟩ := iv_pi hs
    obtain ⟨dp, S2, rfl, hs4⟩ := iv_pi hs3
    obtain ⟨t9, S3, rfl, hs5⟩ := iv_pr hs4
    obtain ⟨sp, S4, rfl, hs6⟩ := iv_pi hs5
    obtain ⟨f9, S5, rfl, hs7⟩ := iv_pr hs6
    obtain ⟨hc8, hs8⟩ := iv_c8 hs7
    obtain ⟨nf, nt, hqf, hqt, g1, g2, g3, g4, g5, hs9⟩ := iv_cp hs8
    exact sm_copy hx hb (by rw [hml]; exact hl.1.symm) hg hlen hown (hts _ w1) (hts _ w2) (hts _ w3) (hts _ w4) hK hW hS hqf hqt g1 g2 g3 g4 g5 (by omega) (by
      rw [sm_cats]
      have : nativeFrameWords "java/lang/System" "arraycopy" 5 ≤ 200 := by decide +kernel
      omega) hdg (fun H1 locs1 z1 z2 => IH _ _ _ _ _ _ _ _ _ hs9 ⟨z1, z2, hl, hnc, hns⟩)
set_option maxRecDepth 100000 in
theorem sm_virt {idx a b' c' d' rt : Nat} (C : sm_Cx p l R s m args meth c D cA g B b Ln xs adV d q) (hst : sm_st l D cA g B b Ln xs adV) (hF : ∀ a As h r', F a As h = some r' → am_nc r'.2 ≤ 700000 → sm_ct D cA g B b Ln xs adV MI l d a As h r') (hFg : ∀ a As h r', F a As h = some r' → am_le h r'.2) (hk : ∀ pc L S h, k pc L S h = some r → am_le h r.2) (hN : am_nc r.2 ≤ 700000)
    (hRc : am_nc r.2 ≤ nc0 + R.cells) (hRs : am_ns r.2 ≤ ns0 + R.slots) (hmc : nc0 + mc = am_nc r.2) (hms : ns0 + ms = am_ns r.2) (htb : sm_tb q.1 q.2.2.1 q.2.2.2.1 tb (q.2.2.2.2.2.getD [])) (IH : sm_go p l e R s m args below meth c D cA g B Ln xs q.2.2.2.1 nc0 ns0 mc ms r k) (hdg : decode q.2.2.1 pc = .ok (.invokevirtual idx, 3)) (hok2 : sm_ok2 MI q pc (.invokevirtual idx) 3 a b' c' d' rt .null []) (hgr : am_le h r.2)
    (hI : sm_I s D cA g B Ln xs q.2.2.2.1 nc0 ns0 h H locs cells slots ls L) (hs : am_call F tb a b' c' d' rt pc L S h k = some r) :
    W p l e R s m args below meth c H locs cells slots (vx_MQ below (sm_Q D cA g B Ln xs r) (sm_X D cA g B Ln xs r) args s mc ms (fun q => B ≤ q)) (F0 m pc ls (S.map (sm_v g))) := by
  have hC := C
  have hIs := hI
  obtain ⟨hx, hb, hret, hml, hown, hts, hlocks, htab, hin, hA, hBs, hg, htr, hRf, hRl⟩ := C
  obtain ⟨hW, hS, hl, hnc, hns⟩ := hI
  have hK := hA.1
  have hlen : (am_S h).length ≤ 900001 := Nat.le_trans (sm_grow_len (Nat.le_trans hgr.1 hN)) (Nat.le_of_ble_eq_true rfl)
  have hfix : CallFix p m c q.2.2.1 q.2.2.2.1 s args sm_TB q.1 := ⟨hx, hb, hml, hown, hts⟩
  rcases hok2 with ⟨rfl, z, hz, hcw⟩ | ⟨rfl, w1⟩ | ⟨rfl, w1⟩
  · unfold am_call at hs
    obtain ⟨As, t, rfl, hlA, hs1⟩ := iv_sp hs
    obtain ⟨o, t, rfl, hs2⟩ := iv_pr hs1
    obtain ⟨hc8, hs3⟩ := iv_c8 hs2
    obtain ⟨⟨no, ho⟩, hs4⟩ := iv_ck hs3
    cases hFr : F a (.ref o :: As) h with
    | none => rw [hFr] at hs4; exact absurd hs4 (am_bk_none _ _ _ _ _ _ _)
    | some r' =>
      rw [hFr] at hs4
      have hg2 := am_bk_le hk hs4
      have hg1 := hFg _ _ _ _ hFr
      obtain ⟨mc', hm1⟩ := Nat.exists_eq_add_of_le hg1.1
      obtain ⟨ms', hm2⟩ := Nat.exists_eq_add_of_le hg1.2
      have q1 := hg2.1
      have q2 := hg2.2
      have hct := hF _ _ _ _ hFr (Nat.le_trans q1 hN)
      have hc9 : d' < 9 := by
        obtain ⟨-, -, -, -, -, -, -, h1, -, -⟩ := hcw
        obtain ⟨-, -, -, -, T9, N9, hcl⟩ := h1 rfl
        have : d' < sm_cl.length := (List.getElem?_eq_some_iff.mp hcl).1
        exact this
      rw [List.map_append, List.map_reverse, List.map_cons]
      exact sm_back hC htb hk hmc hms IH hIs hm1.symm hm2.symm (sm_runv (k := 0) hfix hct hz hcw rfl hm1.symm hm2.symm hW hA hS hg.2.2 hBs hRf hRl hlA hl.1 (by rw [sm_cats]; exact hc8) ho hc9 hdg ⟨by omega, by omega⟩) hs4
  · unfold am_call at hs
    obtain ⟨o, t, rfl, hs5⟩ := iv_pr hs
    obtain ⟨hc8, hs6⟩ := iv_c8 hs5
    obtain ⟨i9, hi9, rfl, hs7⟩ := iv_tl hs6
    exact sm_slen hC hst htb hk hRc hRs hmc hms IH hIs hi9 hc8 w1 hdg hs7
  · unfold am_call at hs
    obtain ⟨j9, S1, rfl, hs8⟩ := iv_pi hs
    obtain ⟨o, t, rfl, hs9⟩ := iv_pr hs8
    obtain ⟨hc8, hs10⟩ := iv_c8 hs9
    obtain ⟨i9, hi9, rfl, hin9, hs11⟩ := iv_tc hs10
    exact sm_schr hC hst htb hk hRc hRs hmc hms IH hIs hi9 hin9 hc8 w1 hdg hs11
set_option maxRecDepth 100000 in
theorem sm_spec {idx a b' c' d' rt : Nat} (C : sm_Cx p l R s m args meth c D cA g B b Ln xs adV d q) (hst : sm_st l D cA g B b Ln xs adV) (hF : ∀ a As h r', F a As h = some r' → am_nc r'.2 ≤ 700000 → sm_ct D cA g B b Ln xs adV MI l d a As h r') (hFg : ∀ a As h r', F a As h = some r' → am_le h r'.2) (hk : ∀ pc L S h, k pc L S h = some r → am_le h r.2) (hN : am_nc r.2 ≤ 700000)
    (hRc : am_nc r.2 ≤ nc0 + R.cells) (hRs : am_ns r.2 ≤ ns0 + R.slots) (hmc : nc0 + mc = am_nc r.2) (hms : ns0 + ms = am_ns r.2) (htb : sm_tb q.1 q.2.2.1 q.2.2.2.1 tb (q.2.2.2.2.2.getD [])) (IH : sm_go p l e R s m args below meth c D cA g B Ln xs q.2.2.2.1 nc0 ns0 mc ms r k) (hdg : decode q.2.2.1 pc = .ok (.invokespecial idx, 3)) (hok2 : sm_ok2 MI q pc (.invokespecial idx) 3 a b' c' d' rt .null []) (hgr : am_le h r.2)
    (hI : sm_I s D cA g B Ln xs q.2.2.2.1 nc0 ns0 h H locs cells slots ls L) (hs : am_call F tb a b' c' d' rt pc L S h k = some r) :
    W p l e R s m args below meth c H locs cells slots (vx_MQ below (sm_Q D cA g B Ln xs r) (sm_X D cA g B Ln xs r) args s mc ms (fun q => B ≤ q)) (F0 m pc ls (S.map (sm_v g))) := by
  have hC := C
  have hIs := hI
  obtain ⟨hx, hb, hret, hml, hown, hts, hlocks, htab, hin, hA, hBs, hg, htr, hRf, hRl⟩ := C
  obtain ⟨hW, hS, hl, hnc, hns⟩ := hI
  have hK := hA.1
  have hlen : (am_S h).length ≤ 900001 := Nat.le_trans (sm_grow_len (Nat.le_trans hgr.1 hN)) (Nat.le_of_ble_eq_true rfl)
  have hfix : CallFix p m c q.2.2.1 q.2.2.2.1 s args sm_TB q.1 := ⟨hx, hb, hml, hown, hts⟩
  rcases hok2 with ⟨hc23, z, hz, hcw⟩ | ⟨rfl, w1, w2, w3⟩
  · have hq9 : am_sp b' S (fun As r9 => am_pr r9 fun o r9 => am_c8 r9 (am_ck h o d' (am_bk tb pc L r9 rt k (F a (.ref o :: As) h)))) = some r := by
      rcases hc23 with rfl | rfl
      · unfold am_call at hs
        exact hs
      · unfold am_call at hs
        exact hs
    obtain ⟨As, t, rfl, hlA, hs1⟩ := iv_sp hq9
    obtain ⟨o, t, rfl, hs2⟩ := iv_pr hs1
    obtain ⟨hc8, hs3⟩ := iv_c8 hs2
    obtain ⟨⟨no, ho⟩, hs4⟩ := iv_ck hs3
    cases hFr : F a (.ref o :: As) h with
    | none => rw [hFr] at hs4; exact absurd hs4 (am_bk_none _ _ _ _ _ _ _)
    | some r' =>
      rw [hFr] at hs4
      have hg2 := am_bk_le hk hs4
      have hg1 := hFg _ _ _ _ hFr
      obtain ⟨mc', hm1⟩ := Nat.exists_eq_add_of_le hg1.1
      obtain ⟨ms', hm2⟩ := Nat.exists_eq_add_of_le hg1.2
      have q1 := hg2.1
      have q2 := hg2.2
      have hct := hF _ _ _ _ hFr (Nat.le_trans q1 hN)
      rw [List.map_append, List.map_reverse, List.map_cons]
      exact sm_back hC htb hk hmc hms IH hIs hm1.symm hm2.symm (sm_runi (k := 0) hfix hct hz hcw hc23 hm1.symm hm2.symm hW hA hS hg.2.2 hBs hRf hRl hlA hl.1 (by rw [sm_cats]; exact hc8) hdg ⟨by omega, by omega⟩) hs4
  · unfold am_call at hs
    obtain ⟨o, t, rfl, hs5⟩ := iv_pr hs
    obtain ⟨hc8, hs6⟩ := iv_c8 hs5
    exact W.objInit hx hb hown (hts _ w1) (hts _ w2) (hts _ w3) rfl (by rw [hml]; exact hl.1) rfl hdg (by omega) (by
      have := sm_cats g t
      show 2 * 0 + ((t.map (sm_v g)).map fun v => v.category).sum + 12 ≤ R.locals
      rw [this]
      omega) (IH _ _ _ _ _ _ _ _ _ hs6 hIs)
set_option maxHeartbeats 8000000 in
set_option maxRecDepth 100000 in
theorem sm_step {en : am_E} (C : sm_Cx p l R s m args meth c D cA g B b Ln xs adV d q) (hst : sm_st l D cA g B b Ln xs adV) (hF : ∀ a As h r', F a As h = some r' → am_nc r'.2 ≤ 700000 → sm_ct D cA g B b Ln xs adV MI l d a As h r') (hFg : ∀ a As h r', F a As h = some r' → am_le h r'.2) (hk : ∀ pc L S h, k pc L S h = some r → am_le h r.2) (hN : am_nc r.2 ≤ 700000)
    (hRc : am_nc r.2 ≤ nc0 + R.cells) (hRs : am_ns r.2 ≤ ns0 + R.slots) (hmc : nc0 + mc = am_nc r.2) (hms : ns0 + ms = am_ns r.2) (htb : sm_tb q.1 q.2.2.1 q.2.2.2.1 tb (q.2.2.2.2.2.getD [])) (IH : sm_go p l e R s m args below meth c D cA g B Ln xs q.2.2.2.1 nc0 ns0 mc ms r k) (hok : sm_ok MI q pc en) (hgr : am_le h r.2)
    (hI : sm_I s D cA g B Ln xs q.2.2.2.1 nc0 ns0 h H locs cells slots ls L) (hs : am_step F tb en pc L S h k = some r) :
    W p l e R s m args below meth c H locs cells slots (vx_MQ below (sm_Q D cA g B Ln xs r) (sm_X D cA g B Ln xs r) args s mc ms (fun q => B ≤ q)) (F0 m pc ls (S.map (sm_v g))) := by
  have hC := C
  have hIs := hI
  obtain ⟨hx, hb, hret, hml, hown, hts, hlocks, htab, hin, hA, hBs, hg, htr, hRf, hRl⟩ := C
  obtain ⟨hW, hS, hl, hnc, hns⟩ := hI
  have hK := hA.1
  have hlen9 : (am_S h).length ≤ 700000 := sm_grow_len (Nat.le_trans hgr.1 hN)
  have hlen : (am_S h).length ≤ 900001 := Nat.le_trans hlen9 (Nat.le_of_ble_eq_true rfl)
  obtain ⟨i, n, a, b', c', d', rt, v, sw⟩ := en
  obtain ⟨hdg, hlen2, hok2⟩ := hok
  unfold am_step at hs
  dsimp only at hs
  split at hs
  · cases hlen2 rfl
    have e9 : v = .int (Int32.ofInt _) := hok2
    subst e9
    exact lv_iconst hx hb hdg rfl (IH _ _ _ _ _ _ _ _ _ hs hIs)
  · cases hlen2 rfl
    have e9 : v = .long (Int64.ofNat _) := hok2
    subst e9
    exact lv_lconst hx hb hdg rfl (IH _ _ _ _ _ _ _ _ _ hs hIs)
  · cases hlen2 rfl
    have e9 : v = .int (Int8.ofInt _).toInt32 := hok2
    subst e9
    exact lv_bipush hx hb hdg rfl (IH _ _ _ _ _ _ _ _ _ hs hIs)
  · cases hlen2 rfl
    have e9 : v = .int (Int16.ofInt _).toInt32 := hok2
    subst e9
    exact lv_sipush hx hb hdg rfl (IH _ _ _ _ _ _ _ _ _ hs hIs)
  · cases hlen2 rfl
    rcases hok2 with ⟨x, rfl, hw⟩ | ⟨tx, z, rfl, hw⟩
    · exact lv_ldc hx hb hown (hts _ hw) hdg (IH _ _ _ _ _ _ _ _ _ hs hIs)
    · exact va_ldcS hx hb hown (hA.2.2.2.2.2.1 _ hw) hdg (IH _ _ _ _ _ _ _ _ _ hs hIs)
  · cases hlen2 rfl
    obtain ⟨x, rfl, hw⟩ := hok2
    exact lv_ldcw hx hb hown (hts _ hw) hdg (IH _ _ _ _ _ _ _ _ _ hs hIs)
  · cases hlen2 rfl
    obtain ⟨x, rfl, hw⟩ := hok2
    exact lv_ldc2 hx hb hown (hts _ hw) hdg (IH _ _ _ _ _ _ _ _ _ hs hIs)
  · cases hlen2 rfl
    obtain ⟨x, hm, hs1⟩ := iv_li hs
    exact lv_iload_n hx hb hdg rfl (lh_at hl hm) (IH _ _ _ _ _ _ _ _ _ hs1 hIs)
  · cases hlen2 rfl
    obtain ⟨x, hm, hs1⟩ := iv_li hs
    exact lv_iload hx hb hdg (lh_at hl hm) (IH _ _ _ _ _ _ _ _ _ hs1 hIs)
  · cases hlen2 rfl
    obtain ⟨x, hm, hs1⟩ := iv_ll hs
    exact lv_lload_n hx hb hdg rfl (lh_at hl hm) (IH _ _ _ _ _ _ _ _ _ hs1 hIs)
  · cases hlen2 rfl
    obtain ⟨x, hm, hs1⟩ := iv_ll hs
    exact lv_lload hx hb hdg (lh_at hl hm) (IH _ _ _ _ _ _ _ _ _ hs1 hIs)
  · cases hlen2 rfl
    obtain ⟨x, hm, hs1⟩ := iv_lr hs
    exact lv_aload_n hx hb hdg rfl (lh_at hl hm) (IH _ _ _ _ _ _ _ _ _ hs1 hIs)
  · cases hlen2 rfl
    obtain ⟨x, hm, hs1⟩ := iv_lr hs
    exact lv_aload hx hb hdg (lh_at hl hm) (IH _ _ _ _ _ _ _ _ _ hs1 hIs)
  · cases hlen2 rfl
    obtain ⟨x, S1, rfl, hs1⟩ := iv_pi hs
    exact lv_istore_n hx hb hdg rfl hl hok2 rfl (fun ls' hl' => IH _ _ _ _ _ _ _ _ _ hs1 ⟨hW, hS, by rw [List.map_cons, lh_f1]; exact hl', hnc, hns⟩)
  · cases hlen2 rfl
    obtain ⟨x, S1, rfl, hs1⟩ := iv_pi hs
    exact lv_istore hx hb hdg hl hok2 rfl (fun ls' hl' => IH _ _ _ _ _ _ _ _ _ hs1 ⟨hW, hS, by rw [List.map_cons, lh_f1]; exact hl', hnc, hns⟩)
  · cases hlen2 rfl
    obtain ⟨x, S1, rfl, hs1⟩ := iv_pl hs
    exact lv_lstore_n hx hb hdg rfl hl hok2 rfl (fun ls' hl' => IH _ _ _ _ _ _ _ _ _ hs1 ⟨hW, hS, by rw [List.map_cons, lh_f2]; exact hl', hnc, hns⟩)
  · cases hlen2 rfl
    obtain ⟨x, S1, rfl, hs1⟩ := iv_pl hs
    exact lv_lstore hx hb hdg hl hok2 rfl (fun ls' hl' => IH _ _ _ _ _ _ _ _ _ hs1 ⟨hW, hS, by rw [List.map_cons, lh_f2]; exact hl', hnc, hns⟩)
  · cases hlen2 rfl
    obtain ⟨x, S1, rfl, hs1⟩ := iv_pr hs
    exact lv_astore_n hx hb hdg rfl hl hok2 rfl (fun ls' hl' => IH _ _ _ _ _ _ _ _ _ hs1 ⟨hW, hS, by rw [List.map_cons, lh_f1]; exact hl', hnc, hns⟩)
  · cases hlen2 rfl
    obtain ⟨x, S1, rfl, hs1⟩ := iv_pr hs
    exact lv_astore hx hb hdg hl hok2 rfl (fun ls' hl' => IH _ _ _ _ _ _ _ _ _ hs1 ⟨hW, hS, by rw [List.map_cons, lh_f1]; exact hl', hnc, hns⟩)
  · cases hlen2 rfl
    obtain ⟨hk9, e9⟩ := hok2
    subst e9
    obtain ⟨x, hm, hs1⟩ := iv_li hs
    obtain ⟨kk, hkk⟩ := List.getElem?_of_mem (List.mem_map_of_mem (f := sm_p g) hm)
    exact lv_iinc hx hb hdg hl (k := kk) hkk rfl hk9 rfl (fun ls' hl' => IH _ _ _ _ _ _ _ _ _ hs1 ⟨hW, hS, by rw [List.map_cons, lh_f1]; exact hl', hnc, hns⟩)
  · cases hlen2 rfl
    obtain ⟨y9, S1, rfl, hs1⟩ := iv_pi hs
    obtain ⟨x9, S2, rfl, hs2⟩ := iv_pi hs1
    exact lv_iadd hx hb hdg (IH _ _ _ _ _ _ _ _ _ hs2 hIs)
  · cases hlen2 rfl
    obtain ⟨y9, S1, rfl, hs1⟩ := iv_pi hs
    obtain ⟨x9, S2, rfl, hs2⟩ := iv_pi hs1
    exact lv_isub hx hb hdg (IH _ _ _ _ _ _ _ _ _ hs2 hIs)
  · cases hlen2 rfl
    obtain ⟨y9, S1, rfl, hs1⟩ := iv_pi hs
    obtain ⟨x9, S2, rfl, hs2⟩ := iv_pi hs1
    exact lv_imul hx hb hdg (IH _ _ _ _ _ _ _ _ _ hs2 hIs)
  · cases hlen2 rfl
    obtain ⟨y9, S1, rfl, hs1⟩ := iv_pi hs
    obtain ⟨x9, S2, rfl, hs2⟩ := iv_pi hs1
    exact lv_iand hx hb hdg (IH _ _ _ _ _ _ _ _ _ hs2 hIs)
  · cases hlen2 rfl
    obtain ⟨y9, S1, rfl, hs1⟩ := iv_pi hs
    obtain ⟨x9, S2, rfl, hs2⟩ := iv_pi hs1
    exact lv_ior hx hb hdg (IH _ _ _ _ _ _ _ _ _ hs2 hIs)
  · cases hlen2 rfl
    obtain ⟨y9, S1, rfl, hs1⟩ := iv_pi hs
    obtain ⟨x9, S2, rfl, hs2⟩ := iv_pi hs1
    exact lv_ixor hx hb hdg (IH _ _ _ _ _ _ _ _ _ hs2 hIs)
  · cases hlen2 rfl
    obtain ⟨y9, S1, rfl, hs1⟩ := iv_pi hs
    obtain ⟨x9, S2, rfl, hs2⟩ := iv_pi hs1
    by_cases hz : y9 = 0
    · rw [if_pos hz] at hs2
      cases hs2
    · rw [if_neg hz] at hs2
      exact lv_idiv hx hb hdg hz (IH _ _ _ _ _ _ _ _ _ hs2 hIs)
  · cases hlen2 rfl
    obtain ⟨y9, S1, rfl, hs1⟩ := iv_pi hs
    obtain ⟨x9, S2, rfl, hs2⟩ := iv_pi hs1
    by_cases hz : y9 = 0
    · rw [if_pos hz] at hs2
      cases hs2
    · rw [if_neg hz] at hs2
      exact lv_irem hx hb hdg hz (IH _ _ _ _ _ _ _ _ _ hs2 hIs)
  · cases hlen2 rfl
    obtain ⟨y9, S1, rfl, hs1⟩ := iv_pi hs
    obtain ⟨x9, S2, rfl, hs2⟩ := iv_pi hs1
    exact lv_ishl hx hb hdg (IH _ _ _ _ _ _ _ _ _ hs2 hIs)
  · cases hlen2 rfl
    obtain ⟨y9, S1, rfl, hs1⟩ := iv_pi hs
    obtain ⟨x9, S2, rfl, hs2⟩ := iv_pi hs1
    exact lv_ishr hx hb hdg (IH _ _ _ _ _ _ _ _ _ hs2 hIs)
  · cases hlen2 rfl
    obtain ⟨y9, S1, rfl, hs1⟩ := iv_pi hs
    obtain ⟨x9, S2, rfl, hs2⟩ := iv_pi hs1
    exact lv_iushr hx hb hdg rfl (IH _ _ _ _ _ _ _ _ _ hs2 hIs)
  · cases hlen2 rfl
    obtain ⟨y9, S1, rfl, hs1⟩ := iv_pl hs
    obtain ⟨x9, S2, rfl, hs2⟩ := iv_pl hs1
    exact lv_ladd hx hb hdg (IH _ _ _ _ _ _ _ _ _ hs2 hIs)
  · cases hlen2 rfl
    obtain ⟨y9, S1, rfl, hs1⟩ := iv_pl hs
    obtain ⟨x9, S2, rfl, hs2⟩ := iv_pl hs1
    exact lv_lsub hx hb hdg (IH _ _ _ _ _ _ _ _ _ hs2 hIs)
  · cases hlen2 rfl
    obtain ⟨y9, S1, rfl, hs1⟩ := iv_pl hs
    obtain ⟨x9, S2, rfl, hs2⟩ := iv_pl hs1
    exact lv_lmul hx hb hdg (IH _ _ _ _ _ _ _ _ _ hs2 hIs)
  · cases hlen2 rfl
    obtain ⟨y9, S1, rfl, hs1⟩ := iv_pl hs
    obtain ⟨x9, S2, rfl, hs2⟩ := iv_pl hs1
    exact lv_land hx hb hdg (IH _ _ _ _ _ _ _ _ _ hs2 hIs)
  · cases hlen2 rfl
    obtain ⟨y9, S1, rfl, hs1⟩ := iv_pl hs
    obtain ⟨x9, S2, rfl, hs2⟩ := iv_pl hs1
    exact lv_lor hx hb hdg (IH _ _ _ _ _ _ _ _ _ hs2 hIs)
  · cases hlen2 rfl
    obtain ⟨y9, S1, rfl, hs1⟩ := iv_pl hs
    obtain ⟨x9, S2, rfl, hs2⟩ := iv_pl hs1
    exact lv_lxor hx hb hdg (IH _ _ _ _ _ _ _ _ _ hs2 hIs)
  · cases hlen2 rfl
    obtain ⟨y9, S1, rfl, hs1⟩ := iv_pi hs
    obtain ⟨x9, S2, rfl, hs2⟩ := iv_pl hs1
    exact lv_lshl hx hb hdg rfl (IH _ _ _ _ _ _ _ _ _ hs2 hIs)
  · cases hlen2 rfl
    obtain ⟨y9, S1, rfl, hs1⟩ := iv_pi hs
    obtain ⟨x9, S2, rfl, hs2⟩ := iv_pl hs1
    exact lv_lshr hx hb hdg rfl (IH _ _ _ _ _ _ _ _ _ hs2 hIs)
  · cases hlen2 rfl
    obtain ⟨y9, S1, rfl, hs1⟩ := iv_pi hs
    obtain ⟨x9, S2, rfl, hs2⟩ := iv_pl hs1
    exact lv_lushr hx hb hdg rfl (IH _ _ _ _ _ _ _ _ _ hs2 hIs)
  · cases hlen2 rfl
    obtain ⟨y9, S1, rfl, hs1⟩ := iv_pl hs
    obtain ⟨x9, S2, rfl, hs2⟩ := iv_pl hs1
    exact W.lcmp hx hb hdg (IH _ _ _ _ _ _ _ _ _ hs2 hIs)
  · cases hlen2 rfl
    obtain ⟨x9, S1, rfl, hs1⟩ := iv_pi hs
    exact lv_i2l hx hb hdg rfl (IH _ _ _ _ _ _ _ _ _ hs1 hIs)
  · cases hlen2 rfl
    obtain ⟨x9, S1, rfl, hs1⟩ := iv_pl hs
    exact lv_l2i hx hb hdg rfl (IH _ _ _ _ _ _ _ _ _ hs1 hIs)
  · cases hlen2 rfl
    obtain ⟨x9, S1, rfl, hs1⟩ := iv_pi hs
    exact lv_i2b hx hb hdg rfl (IH _ _ _ _ _ _ _ _ _ hs1 hIs)
  · cases hlen2 rfl
    cases S with
    | nil => cases hs
    | cons x9 S1 =>
      obtain ⟨h1, hs1⟩ := iv_bif hs
      exact lv_dup hx hb hdg (by rw [sm_v_cat]; simpa using h1) (IH _ _ _ _ _ _ _ _ _ hs1 hIs)
  · cases hlen2 rfl
    cases S with
    | nil => cases hs
    | cons x9 S1 =>
      obtain ⟨h1, hs1⟩ := iv_bif hs
      exact lv_pop hx hb hdg (by rw [sm_v_cat]; simpa using h1) (IH _ _ _ _ _ _ _ _ _ hs1 hIs)
  · cases hlen2 rfl
    cases S with
    | nil => cases hs
    | cons x9 S1 =>
      dsimp only at hs
      rcases lv_cat x9 with hc1 | hc2
      rotate_left
      · have hs9 : k (pc + 1) L (x9 :: x9 :: S1) h = some r := by
          have e9 : (x9.category == 2) = true := by rw [hc2]; rfl
          rw [e9] at hs
          exact hs
        exact lv_dup2_2 hx hb hdg (by rw [sm_v_cat]; exact hc2) (IH _ _ _ _ _ _ _ _ _ hs9 hIs)
      · have e9 : (x9.category == 2) = false := by rw [hc1]; rfl
        rw [e9] at hs
        cases S1 with
        | nil => cases hs
        | cons y9 S2 =>
          obtain ⟨h1, hs1⟩ := iv_bif hs
          exact lv_dup2_11 hx hb hdg (by rw [sm_v_cat]; exact hc1) (by rw [sm_v_cat]; simpa using h1) (IH _ _ _ _ _ _ _ _ _ hs1 hIs)
  · cases hlen2 rfl
    exact lv_goto hx hb hdg hok2 (IH _ _ _ _ _ _ _ _ _ hs hIs)
  · cases hlen2 rfl
    obtain ⟨x9, S1, rfl, hs1⟩ := iv_pi hs
    refine lv_if_eq hx hb hdg hok2 (fun hc => ?_) (fun hc => ?_)
    · rw [if_pos hc] at hs1
      exact IH _ _ _ _ _ _ _ _ _ hs1 hIs
    · rw [if_neg hc] at hs1
      exact IH _ _ _ _ _ _ _ _ _ hs1 hIs
  · cases hlen2 rfl
    obtain ⟨x9, S1, rfl, hs1⟩ := iv_pi hs
    refine lv_if_ne hx hb hdg hok2 (fun hc => ?_) (fun hc => ?_)
    · rw [if_neg hc] at hs1
      exact IH _ _ _ _ _ _ _ _ _ hs1 hIs
    · rw [if_pos hc] at hs1
      exact IH _ _ _ _ _ _ _ _ _ hs1 hIs
  · cases hlen2 rfl
    obtain ⟨x9, S1, rfl, hs1⟩ := iv_pi hs
    refine lv_if_lt hx hb hdg hok2 (fun hc => ?_) (fun hc => ?_)
    · rw [if_pos hc] at hs1
      exact IH _ _ _ _ _ _ _ _ _ hs1 hIs
    · rw [if_neg hc] at hs1
      exact IH _ _ _ _ _ _ _ _ _ hs1 hIs
  · cases hlen2 rfl
    obtain ⟨x9, S1, rfl, hs1⟩ := iv_pi hs
    refine lv_if_ge hx hb hdg hok2 (fun hc => ?_) (fun hc => ?_)
    · rw [if_pos hc] at hs1
      exact IH _ _ _ _ _ _ _ _ _ hs1 hIs
    · rw [if_neg hc] at hs1
      exact IH _ _ _ _ _ _ _ _ _ hs1 hIs
  · cases hlen2 rfl
    obtain ⟨x9, S1, rfl, hs1⟩ := iv_pi hs
    refine lv_if_gt hx hb hdg hok2 (fun hc => ?_) (fun hc => ?_)
    · rw [if_pos hc] at hs1
      exact IH _ _ _ _ _ _ _ _ _ hs1 hIs
    · rw [if_neg hc] at hs1
      exact IH _ _ _ _ _ _ _ _ _ hs1 hIs
  · cases hlen2 rfl
    obtain ⟨x9, S1, rfl, hs1⟩ := iv_pi hs
    refine lv_if_le hx hb hdg hok2 (fun hc => ?_) (fun hc => ?_)
    · rw [if_pos hc] at hs1
      exact IH _ _ _ _ _ _ _ _ _ hs1 hIs
    · rw [if_neg hc] at hs1
      exact IH _ _ _ _ _ _ _ _ _ hs1 hIs
  · cases hlen2 rfl
    obtain ⟨y9, S1, rfl, hs1⟩ := iv_pi hs
    obtain ⟨x9, S2, rfl, hs2⟩ := iv_pi hs1
    refine lv_icmp_eq hx hb hdg hok2 (fun hc => ?_) (fun hc => ?_)
    · rw [if_pos hc] at hs2
      exact IH _ _ _ _ _ _ _ _ _ hs2 hIs
    · rw [if_neg hc] at hs2
      exact IH _ _ _ _ _ _ _ _ _ hs2 hIs
  · cases hlen2 rfl
    obtain ⟨y9, S1, rfl, hs1⟩ := iv_pi hs
    obtain ⟨x9, S2, rfl, hs2⟩ := iv_pi hs1
    refine lv_icmp_ne hx hb hdg hok2 (fun hc => ?_) (fun hc => ?_)
    · rw [if_neg hc] at hs2
      exact IH _ _ _ _ _ _ _ _ _ hs2 hIs
    · rw [if_pos hc] at hs2
      exact IH _ _ _ _ _ _ _ _ _ hs2 hIs
  · cases hlen2 rfl
    obtain ⟨y9, S1, rfl, hs1⟩ := iv_pi hs
    obtain ⟨x9, S2, rfl, hs2⟩ := iv_pi hs1
    refine lv_icmp_lt hx hb hdg hok2 (fun hc => ?_) (fun hc => ?_)
    · rw [if_pos hc] at hs2
      exact IH _ _ _ _ _ _ _ _ _ hs2 hIs
    · rw [if_neg hc] at hs2
      exact IH _ _ _ _ _ _ _ _ _ hs2 hIs
  · cases hlen2 rfl
    obtain ⟨y9, S1, rfl, hs1⟩ := iv_pi hs
    obtain ⟨x9, S2, rfl, hs2⟩ := iv_pi hs1
    refine lv_icmp_ge hx hb hdg hok2 (fun hc => ?_) (fun hc => ?_)
    · rw [if_pos hc] at hs2
      exact IH _ _ _ _ _ _ _ _ _ hs2 hIs
    · rw [if_neg hc] at hs2
      exact IH _ _ _ _ _ _ _ _ _ hs2 hIs
  · cases hlen2 rfl
    obtain ⟨y9, S1, rfl, hs1⟩ := iv_pi hs
    obtain ⟨x9, S2, rfl, hs2⟩ := iv_pi hs1
    refine lv_icmp_gt hx hb hdg hok2 (fun hc => ?_) (fun hc => ?_)
    · rw [if_pos hc] at hs2
      exact IH _ _ _ _ _ _ _ _ _ hs2 hIs
    · rw [if_neg hc] at hs2
      exact IH _ _ _ _ _ _ _ _ _ hs2 hIs
  · cases hlen2 rfl
    obtain ⟨y9, S1, rfl, hs1⟩ := iv_pi hs
    obtain ⟨x9, S2, rfl, hs2⟩ := iv_pi hs1
    refine lv_icmp_le hx hb hdg hok2 (fun hc => ?_) (fun hc => ?_)
    · rw [if_pos hc] at hs2
      exact IH _ _ _ _ _ _ _ _ _ hs2 hIs
    · rw [if_neg hc] at hs2
      exact IH _ _ _ _ _ _ _ _ _ hs2 hIs
  · rename_i dflt lo hi offs
    obtain ⟨x9, S1, rfl, hs1⟩ := iv_pi hs
    obtain ⟨hd, hhi, hall⟩ := hok2
    rcases iv_sw hs1 with ⟨j, t, h1, hs2⟩ | ⟨h1, hs2⟩
    · obtain ⟨e1, off, ho, ht⟩ := hall j _ h1
      have hj : j < sw.length := (List.getElem?_eq_some_iff.mp h1).1
      dsimp only at e1 ht
      exact lv_tableIn hx hb hdg (by omega) (by omega) (by rw [e1, show (lo + (j : Int) - lo).toNat = j by omega]; exact ho) ht (IH _ _ _ _ _ _ _ _ _ hs2 hIs)
    · refine lv_tableOut hx hb hdg ?_ hd (IH _ _ _ _ _ _ _ _ _ hs2 hIs)
      apply Classical.byContradiction
      intro hn
      have hlt : (x9.toInt - lo).toNat < sw.length := by omega
      obtain ⟨z, hz⟩ : ∃ z, sw[(x9.toInt - lo).toNat]? = some z := ⟨_, List.getElem?_eq_getElem hlt⟩
      have e1 := (hall _ _ hz).1
      exact h1 _ _ hz (Int32.toInt_inj.mp (by rw [e1]; omega))
  · obtain ⟨x9, S1, rfl, hs1⟩ := iv_pi hs
    obtain ⟨hd, hall, hps⟩ := hok2
    obtain ⟨t, hs2, ht⟩ := sm_lsw hd hs1
    rw [← hps] at ht
    exact lv_lookup hx hb hdg hall rfl ht (IH _ _ _ _ _ _ _ _ _ hs2 hIs)
  · cases hlen2 rfl
    obtain ⟨o, S1, rfl, hs1⟩ := iv_pr hs
    obtain ⟨C9, T9, N9, hc, hN9, hbN, ha, hlk, hT1, hinw, hc0, hc1, hc2⟩ := hok2
    have hget : ∀ v9 : Value, (∃ n9, (am_S h)[o]? = some (a, n9)) → sm_fv g (sm_ty a b') h o b' = v9 → W p l e R s m args below meth c H locs cells slots (vx_MQ below (sm_Q D cA g B Ln xs r) (sm_X D cA g B Ln xs r) args s mc ms (fun q => B ≤ q)) (F0 m (pc + 3) ls (v9 :: S1.map (sm_v g))) → W p l e R s m args below meth c H locs cells slots (vx_MQ below (sm_Q D cA g B Ln xs r) (sm_X D cA g B Ln xs r) args s mc ms (fun q => B ≤ q)) (F0 m pc ls (.ref (g o) :: S1.map (sm_v g))) := by
      intro v9 ⟨n9, hq⟩ hv9 kk
      have he := sm_at (cA := cA) (g := g) hq (sm_ne0 hW.2.1 hq (by omega))
      rw [sm_ce_o hq ha] at he
      exact va_get hx hb hts hinw hown hK hW.1 (o - 1) he hc b' hbN (hts _ hlk) (by rw [hT1]; exact fun _ z => z) ((sm_fs_at (by rw [← hN9]; exact hbN)).trans (congrArg some hv9)) hdg kk
    split at hs1
    · obtain ⟨h1, hs2⟩ := iv_gi hs1
      exact hget _ h1 (hc0 rfl g h o) (IH _ _ _ _ _ _ _ _ _ hs2 hIs)
    · obtain ⟨h1, hs3⟩ := iv_gl hs1
      exact hget _ h1 (by rw [hc1 rfl]; rfl) (IH _ _ _ _ _ _ _ _ _ hs3 hIs)
    · obtain ⟨h1, z, h2, hs4⟩ := iv_gp hs1
      refine hget _ h1 ?_ (IH _ _ _ _ _ _ _ _ _ hs4 hIs)
      rcases hc2 rfl with ⟨w, hw⟩ | ⟨w, hw⟩
      · rw [hw]
        show va_rf ((am_P h o b').map g) = _
        rw [h2]
        rfl
      · rw [hw]
        show va_rf ((am_P h o b').map g) = _
        rw [h2]
        rfl
    · cases hs1
  · cases hlen2 rfl
    obtain ⟨C9, T9, N9, hc, hN9, hbN, ha, hlk, hT1, hinw, hty, hnm, hfin, hc0, hc1, hc2, hc3⟩ := hok2
    have hfin9 : (T9 b').2.2.2 = true → meth.name = "<init>" ∧ C9 = q.1 := fun z => ⟨hin (hfin z).1, (hfin z).2⟩
    have hbN9 : b' < sm_N a := by rw [← hN9]; exact hbN
    split at hs
    · obtain ⟨x9, S1, rfl, hs1⟩ := iv_pi hs
      obtain ⟨o, S2, rfl, hs2⟩ := iv_pr hs1
      obtain ⟨⟨n9, hq⟩, hs3⟩ := iv_ck hs2
      have ht9 := hc0 rfl
      exact sm_put (h' := am_sI h o b' x9) hx hb hg hlen hts hinw hty hnm hown hK hW hS hq ha hc hN9 hbN (hts _ hlk) hT1 hfin9 (by rw [ht9]; rfl) (by rw [ht9]; rfl) rfl rfl (sm_I0 (sm_ne0 hW.2.1 hq (by omega))) (fun _ hi => sm_ce_sI hi) (sm_fs_set hbN9 (by rw [ht9]; exact congrArg Value.int (am_up_same (f := h.1) (a := o) (i := b') (v := x9))) (fun z hz => sm_fv_I hz)) hdg (fun H1 locs1 w1 w2 => IH _ _ _ _ _ _ _ _ _ hs3 ⟨w1, w2, hl, hnc, hns⟩)
    · obtain ⟨x9, S1, rfl, hs4⟩ := iv_pl hs
      obtain ⟨o, S2, rfl, hs5⟩ := iv_pr hs4
      obtain ⟨⟨n9, hq⟩, hs6⟩ := iv_ck hs5
      have ht9 := hc1 rfl
      exact sm_put (h' := am_sL h o b' x9) hx hb hg hlen hts hinw hty hnm hown hK hW hS hq ha hc hN9 hbN (hts _ hlk) hT1 hfin9 (by rw [ht9]; rfl) (by rw [ht9]; rfl) rfl rfl rfl (fun _ hi => sm_ce_sL hi) (sm_fs_set hbN9 (by rw [ht9]; exact congrArg Value.long (am_up_same (f := h.2.1) (a := o) (i := b') (v := x9))) (fun z hz => sm_fv_L hz)) hdg (fun H1 locs1 w1 w2 => IH _ _ _ _ _ _ _ _ _ hs6 ⟨w1, w2, hl, hnc, hns⟩)
    · obtain ⟨x9, S1, rfl, hs7⟩ := iv_pr hs
      obtain ⟨o, S2, rfl, hs8⟩ := iv_pr hs7
      obtain ⟨⟨n9, hq⟩, hs9⟩ := iv_ck hs8
      have e9 : (am_up h.2.2.1 o b' (some x9) o b') = some x9 := by rw [am_up_same]
      refine sm_put (h' := am_sP h o b' (some x9)) hx hb hg hlen hts hinw hty hnm hown hK hW hS hq ha hc hN9 hbN (hts _ hlk) hT1 hfin9 ?_ ?_ rfl rfl rfl (fun _ hi => sm_ce_sP hi) (sm_fs_set hbN9 ?_ (fun z hz => sm_fv_P hz)) hdg (fun H1 locs1 w1 w2 => IH _ _ _ _ _ _ _ _ _ hs9 ⟨w1, w2, hl, hnc, hns⟩)
      · rcases hc2 rfl with ⟨w, hw⟩ | ⟨w, hw⟩ <;> (rw [hw]; rfl)
      · rcases hc2 rfl with ⟨w, hw⟩ | ⟨w, hw⟩ <;> (rw [hw]; rfl)
      · rcases hc2 rfl with ⟨w, hw⟩ | ⟨w, hw⟩ <;> (rw [hw]; show va_rf ((am_up h.2.2.1 o b' (some x9) o b').map g) = _; rw [e9]; rfl)
    · obtain ⟨x9, S1, rfl, hs10⟩ := iv_pi hs
      obtain ⟨o, S2, rfl, hs11⟩ := iv_pr hs10
      obtain ⟨h01, hs12⟩ := iv_01 hs11
      obtain ⟨⟨n9, hq⟩, hs13⟩ := iv_ck hs12
      have ht9 := hc3 rfl
      refine sm_put (h' := am_sI h o b' x9) hx hb hg hlen hts hinw hty hnm hown hK hW hS hq ha hc hN9 hbN (hts _ hlk) hT1 hfin9 ?_ ?_ rfl rfl (sm_I0 (sm_ne0 hW.2.1 hq (by omega))) (fun _ hi => sm_ce_sI hi) (sm_fs_set hbN9 (by rw [ht9]; exact congrArg Value.int (am_up_same (f := h.1) (a := o) (i := b') (v := x9))) (fun z hz => sm_fv_I hz)) hdg (fun H1 locs1 w1 w2 => IH _ _ _ _ _ _ _ _ _ hs13 ⟨w1, w2, hl, hnc, hns⟩)
      · rw [ht9]; rcases h01 with rfl | rfl <;> rfl
      · rw [ht9]; rcases h01 with rfl | rfl <;> rfl
    · cases hs
  · cases hlen2 rfl
    obtain ⟨i9, S1, rfl, hs1⟩ := iv_pi hs
    obtain ⟨o, S2, rfl, hs2⟩ := iv_pr hs1
    obtain ⟨n9, hq, hin9, hs3⟩ := iv_ar hs2
    have hlt : i9.toNatClampNeg < n9 := Nat.not_le.mp fun z => hin9 (Or.inr z)
    rcases hok2 with rfl | rfl
    · exact W.iald (v := .int (am_I h o i9.toNatClampNeg)) hx hb (sm_cell_i hW hq (Or.inl rfl)) ((hK.2 0 _ rfl).1 n9 (fun j => .int (am_I h o j))) (fun z => by cases z) (by rw [arrV_size]; exact hin9) (arrV_read _ _ hlt) rfl rfl hdg (IH _ _ _ _ _ _ _ _ _ hs3 hIs)
    · rcases hW.2.2.2.2.2 o 15 n9 hq with z | ⟨-, z⟩
      · omega
      · subst z
        have e9 : n9 = Ln := by
          have := hq.symm.trans hW.2.1
          cases this
          rfl
        subst e9
        have e8 := hW.2.2.1
        rw [e8] at hs3
        show W p l e R s m args below meth c H locs cells slots _ (F0 m pc ls (.int i9 :: .ref (g 0) :: S2.map (sm_v g)))
        rw [hg.2.1]
        exact va_sld hx hb hA.2.1 (Nat.lt_of_lt_of_le hg.2.2 hBs) (Nat.not_le.mpr hg.2.2) hS hin9 hdg (IH _ _ _ _ _ _ _ _ _ hs3 hIs)
  · cases hlen2 rfl
    obtain ⟨i9, S1, rfl, hs1⟩ := iv_pi hs
    obtain ⟨o, S2, rfl, hs2⟩ := iv_pr hs1
    obtain ⟨n9, hq, hin9, hs3⟩ := iv_ar hs2
    have hlt : i9.toNatClampNeg < n9 := Nat.not_le.mp fun z => hin9 (Or.inr z)
    rcases hok2 with rfl | rfl
    · exact W.bald (v := .int (am_I h o i9.toNatClampNeg)) hx hb (sm_cell_i hW hq (Or.inr (Or.inl rfl))) ((hK.2 2 _ rfl).1 n9 (fun j => .int (am_I h o j))) (fun z => by cases z) (by rw [arrV_size]; exact hin9) (arrV_read _ _ hlt) rfl rfl hdg (IH _ _ _ _ _ _ _ _ _ hs3 hIs)
    · exact W.zald (v := .int (am_I h o i9.toNatClampNeg)) hx hb (sm_cell_i hW hq (Or.inr (Or.inr rfl))) ((hK.2 3 _ rfl).1 n9 (fun j => .int (am_I h o j))) (fun z => by cases z) (by rw [arrV_size]; exact hin9) (arrV_read _ _ hlt) rfl rfl hdg (IH _ _ _ _ _ _ _ _ _ hs3 hIs)
  · cases hlen2 rfl
    obtain ⟨i9, S1, rfl, hs1⟩ := iv_pi hs
    obtain ⟨o, S2, rfl, hs2⟩ := iv_pr hs1
    obtain ⟨n9, hq, hin9, hs3⟩ := iv_ar hs2
    have hlt : i9.toNatClampNeg < n9 := Nat.not_le.mp fun z => hin9 (Or.inr z)
    exact W.lald (v := .long (am_L h o i9.toNatClampNeg)) hx hb (sm_cell_l hW hq) ((hK.2 1 _ rfl).1 n9 (fun j => .long (am_L h o j))) (fun z => by cases z) (by rw [arrV_size]; exact hin9) (arrV_read _ _ hlt) rfl rfl hdg (IH _ _ _ _ _ _ _ _ _ hs3 hIs)
  · cases hlen2 rfl
    obtain ⟨i9, S1, rfl, hs1⟩ := iv_pi hs
    obtain ⟨o, S2, rfl, hs2⟩ := iv_pr hs1
    obtain ⟨n9, z9, hq, hin9, hp9, hs3⟩ := iv_ap hs2
    have hlt : i9.toNatClampNeg < n9 := Nat.not_le.mp fun z => hin9 (Or.inr z)
    have hrd : va_rf ((am_P h o i9.toNatClampNeg).map g) = .ref (g z9) := by rw [hp9]; rfl
    rcases hok2 with rfl | rfl
    · exact W.aald (v := .ref (g z9)) (ty := .array .int) hx hb (sm_cell_q hW hq (Or.inl rfl)) ((hK.2 4 _ rfl).1 n9 (fun j => va_rf ((am_P h o j).map g))) rfl (fun z => by cases z) (by rw [arrV_size]; exact hin9) (by rw [arrV_read _ _ hlt, hrd]) rfl rfl hdg (IH _ _ _ _ _ _ _ _ _ hs3 hIs)
    · exact W.aald (v := .ref (g z9)) (ty := .array .long) hx hb (sm_cell_q hW hq (Or.inr rfl)) ((hK.2 5 _ rfl).1 n9 (fun j => va_rf ((am_P h o j).map g))) rfl (fun z => by cases z) (by rw [arrV_size]; exact hin9) (by rw [arrV_read _ _ hlt, hrd]) rfl rfl hdg (IH _ _ _ _ _ _ _ _ _ hs3 hIs)
  · cases hlen2 rfl
    obtain ⟨x9, S1, rfl, hs1⟩ := iv_pi hs
    obtain ⟨i9, S2, rfl, hs2⟩ := iv_pi hs1
    obtain ⟨o, S3, rfl, hs3⟩ := iv_pr hs2
    obtain ⟨n9, hq, hin9, hs4⟩ := iv_ar hs3
    exact sm_iast hx hb hg hlen hK hW hS hq hin9 hdg (fun H1 locs1 w1 w2 => IH _ _ _ _ _ _ _ _ _ hs4 ⟨w1, w2, hl, hnc, hns⟩)
  · cases hlen2 rfl
    obtain ⟨x9, S1, rfl, hs1⟩ := iv_pi hs
    obtain ⟨i9, S2, rfl, hs2⟩ := iv_pi hs1
    obtain ⟨o, S3, rfl, hs3⟩ := iv_pr hs2
    obtain ⟨n9, hq, hin9, hs4⟩ := iv_ar hs3
    rcases hok2 with rfl | rfl
    · exact sm_bast hx hb hg hlen hK hW hS hq hin9 hdg (fun H1 locs1 w1 w2 => IH _ _ _ _ _ _ _ _ _ hs4 ⟨w1, w2, hl, hnc, hns⟩)
    · exact sm_zast hx hb hg hlen hK hW hS hq hin9 hdg (fun H1 locs1 w1 w2 => IH _ _ _ _ _ _ _ _ _ hs4 ⟨w1, w2, hl, hnc, hns⟩)
  · cases hlen2 rfl
    obtain ⟨x9, S1, rfl, hs1⟩ := iv_pl hs
    obtain ⟨i9, S2, rfl, hs2⟩ := iv_pi hs1
    obtain ⟨o, S3, rfl, hs3⟩ := iv_pr hs2
    obtain ⟨n9, hq, hin9, hs4⟩ := iv_ar hs3
    exact sm_last hx hb hg hlen hK hW hS hq hin9 hdg (fun H1 locs1 w1 w2 => IH _ _ _ _ _ _ _ _ _ hs4 ⟨w1, w2, hl, hnc, hns⟩)
  · cases hlen2 rfl
    obtain ⟨o, S1, rfl, hs1⟩ := iv_pr hs
    obtain ⟨c9, n9, hq, h9, hs2⟩ := iv_al hs1
    rcases hW.2.2.2.2.2 o c9 n9 hq with z | ⟨z1, z2⟩
    · have he := sm_at (cA := cA) (g := g) hq (sm_ne0 hW.2.1 hq (by omega))
      rw [sm_ce_a hq (by omega)] at he
      have hcs : c9 = 9 ∨ c9 = 10 ∨ c9 = 11 ∨ c9 = 12 ∨ c9 = 13 ∨ c9 = 14 := by omega
      rcases hcs with rfl | rfl | rfl | rfl | rfl | rfl
      · exact va_alen hx hb hK hW.1 (o - 1) 0 he rfl rfl hdg (IH _ _ _ _ _ _ _ _ _ hs2 hIs)
      · exact va_alen hx hb hK hW.1 (o - 1) 1 he rfl rfl hdg (IH _ _ _ _ _ _ _ _ _ hs2 hIs)
      · exact va_alen hx hb hK hW.1 (o - 1) 2 he rfl rfl hdg (IH _ _ _ _ _ _ _ _ _ hs2 hIs)
      · exact va_alen hx hb hK hW.1 (o - 1) 3 he rfl rfl hdg (IH _ _ _ _ _ _ _ _ _ hs2 hIs)
      · exact va_alen hx hb hK hW.1 (o - 1) 4 he rfl rfl hdg (IH _ _ _ _ _ _ _ _ _ hs2 hIs)
      · exact va_alen hx hb hK hW.1 (o - 1) 5 he rfl rfl hdg (IH _ _ _ _ _ _ _ _ _ hs2 hIs)
    · subst z2
      have e9 : n9 = Ln := by
        have := hq.symm.trans hW.2.1
        cases this
        rfl
      subst e9
      show W p l e R s m args below meth c H locs cells slots _ (F0 m pc ls (.ref (g 0) :: S1.map (sm_v g)))
      rw [hg.2.1]
      exact va_slen hx hb hA.2.1 (Nat.lt_of_lt_of_le hg.2.2 hBs) (Nat.not_le.mpr hg.2.2) hS hdg (IH _ _ _ _ _ _ _ _ _ hs2 hIs)
  · cases hlen2 rfl
    split at hs
    · obtain ⟨hG, hs1⟩ := iv_bif hs
      have hG : am_G h = 0 := Nat.eq_of_beq_eq_true hG
      obtain ⟨C9, T9, N9, hc, hN9, ha, hbN, hcl, hinst, hini, hinw, hty, hdv⟩ := hok2.1 rfl
      have e1 := hk _ _ _ _ hs1
      have e2 : am_nc (am_nw h (a, b')) = am_nc h + 1 := by show (am_S h ++ [(a, b')]).length + am_G h = (am_S h).length + am_G h + 1; simp; omega
      have e3 : am_ns (am_nw h (a, b')) = am_ns h + b' := by show ((am_S h ++ [(a, b')]).map fun q => q.2).sum + am_T h = ((am_S h).map fun q => q.2).sum + am_T h + b'; simp; omega
      have q1 := e1.1
      have q2 := e1.2
      subst hbN
      exact sm_newo hx hb hg (Nat.le_trans hlen9 (Nat.le_of_ble_eq_true rfl)) hts hinw hty hdv hown (hts _ hcl) (hts _ hinst) (hts _ hini) hK hW hS hG ha hc hN9 (by omega) (by omega) hdg (fun H1 w1 w2 => IH _ _ _ _ _ _ _ _ _ hs1 ⟨w1, w2, hl, by omega, by omega⟩)
    · obtain ⟨hc8, hs2⟩ := iv_c8 hs
      obtain ⟨ha3, is, ic, tx, sa, names, ix, rx, x0, x1, x2, x5, d3, d4, d7, d10, hstr, hf1, hf2, hnl, hcl, hini, hat, hgood⟩ := (hok2.2 rfl).1
      have hnt : q.2.2.2.2.2 = none := (hok2.2 rfl).2
      cases hs2
      have q1 : nc0 + mc = am_nc h + 1 := hmc
      have q2 : ns0 + ms = am_ns h + 6 := hms
      have q3 : am_nc h + 1 ≤ nc0 + R.cells := hRc
      have q4 : am_ns h + 6 ≤ ns0 + R.slots := hRs
      have hcat := sm_cats g S
      refine vx_throwSWX hx hb htr x0 x1 x2 x5 hown hf1 hf2 (hts _ hcl) (hts _ hini) (hA.2.2.2.2.2.1 _ hstr) (fun w hw => ?_) hgood hA.2.2.2.1 hA.2.2.2.2.1 hS (by rw [hml]; exact hl.1) hdg d3 d4 d7 d10 (fun x hx9 => ?_) (by omega) (by rw [hcat]; omega) (by omega) (by omega) hlocks (fun t hal hz ho => ?_) hS.2.2 (by omega) (by omega)
      · rcases hat w hw with z | rfl | ⟨x9, hx9, rfl⟩
        · exact hts _ z
        · exact va_Nw.use rfl (hA.2.2.2.2.2.2.2.2.2.1.1 a ha3)
        · exact va_Nw.use rfl (hA.2.2.2.2.2.2.2.2.2.1.2 x9 hx9)
      · rw [htab, hnt] at hx9
        cases hx9
      · refine ⟨a, rfl, ha3, rfl, ⟨hW.1.kept (fun k9 q9 hq9 => ho _ (hW.1 k9 q9 hq9).lt), hW.2.1, hW.2.2.1, (fun z => by cases z), Nat.le_trans hW.2.2.2.2.1 hz, hW.2.2.2.2.2⟩, ?_⟩
        exact ⟨Nat.le_trans hS.1 hz, fun z h1 h2 => (ho z (Nat.lt_of_lt_of_le h1 hS.1)).trans (hS.2.1 z h1 h2)⟩
    · cases hs
  · cases hlen2 rfl
    obtain ⟨n9, S1, rfl, hs1⟩ := iv_pi hs
    obtain ⟨h1, hs2⟩ := iv_bif hs1
    simp only [Bool.and_eq_true, Bool.not_eq_true', decide_eq_false_iff_not] at h1
    obtain ⟨⟨hG, hn9⟩, hb9⟩ := h1
    have hG : am_G h = 0 := Nat.eq_of_beq_eq_true hG
    have e1 := hk _ _ _ _ hs2
    have e2 : am_nc (am_nw h (a, n9.toNatClampNeg)) = am_nc h + 1 := by show (am_S h ++ [(a, n9.toNatClampNeg)]).length + am_G h = (am_S h).length + am_G h + 1; simp; omega
    have e3 : am_ns (am_nw h (a, n9.toNatClampNeg)) = am_ns h + n9.toNatClampNeg := by show ((am_S h ++ [(a, n9.toNatClampNeg)]).map fun q => q.2).sum + am_T h = ((am_S h).map fun q => q.2).sum + am_T h + n9.toNatClampNeg; simp; omega
    have q1 := e1.1
    have q2 := e1.2
    exact sm_newr hx hb hg (Nat.le_trans hlen9 (Nat.le_of_ble_eq_true rfl)) (hts _ hok2.2) hok2.1 hK hW hS hG hn9 (Nat.le_of_ble_eq_true hb9) (by omega) (by omega) hdg (fun H1 w1 w2 => IH _ _ _ _ _ _ _ _ _ hs2 ⟨w1, w2, hl, by omega, by omega⟩)
  · cases hlen2 rfl
    obtain ⟨k9, S1, rfl, hs1⟩ := iv_pi hs
    obtain ⟨n9, S2, rfl, hs2⟩ := iv_pi hs1
    obtain ⟨h1, hs3⟩ := iv_bif hs2
    simp only [Bool.and_eq_true, Bool.not_eq_true', Bool.or_eq_false_iff, decide_eq_false_iff_not] at h1
    obtain ⟨⟨⟨hG, hn9, hk9⟩, hb9⟩, hb8⟩ := h1
    have hG : am_G h = 0 := Nat.eq_of_beq_eq_true hG
    have e1 := hk _ _ _ _ hs3
    have e2 : am_nc (am_nm h a b' n9.toNatClampNeg k9.toNatClampNeg) = am_nc h + 1 + n9.toNatClampNeg := by show (am_S h ++ ((a, n9.toNatClampNeg) :: List.replicate n9.toNatClampNeg (b', k9.toNatClampNeg))).length + am_G h = (am_S h).length + am_G h + 1 + n9.toNatClampNeg; simp; omega
    have e3 : am_ns (am_nm h a b' n9.toNatClampNeg k9.toNatClampNeg) = am_ns h + n9.toNatClampNeg + n9.toNatClampNeg * k9.toNatClampNeg := by show ((am_S h ++ ((a, n9.toNatClampNeg) :: List.replicate n9.toNatClampNeg (b', k9.toNatClampNeg))).map fun q => q.2).sum + am_T h = ((am_S h).map fun q => q.2).sum + am_T h + n9.toNatClampNeg + n9.toNatClampNeg * k9.toNatClampNeg; simp; omega
    have q1 := e1.1
    have q2 := e1.2
    have q3 : (am_S h).length ≤ am_nc h := Nat.le_add_right _ _
    generalize hM9 : n9.toNatClampNeg * k9.toNatClampNeg = M9 at e3 q2
    have hl9 : (am_S h).length + 1 + n9.toNatClampNeg ≤ 900001 := by omega
    obtain ⟨rfl, hok3⟩ := hok2
    rcases hok3 with ⟨rfl, rfl, w1, w2⟩ | ⟨rfl, rfl, w1, w2⟩
    · exact sm_newm (tA := 0) (tI := 0) hx hb hg hown (hts _ w1) hA.2.2.2.2.2.2.2.1 (hts _ w2) (Or.inl ⟨rfl, rfl, rfl⟩) hK hW hS hG hl9 hn9 hk9 (Nat.le_of_ble_eq_true hb9) (Nat.le_of_ble_eq_true hb8) (by omega) (by rw [hM9]; omega) hdg (fun H1 w1 w2 => IH _ _ _ _ _ _ _ _ _ hs3 ⟨w1, w2, hl, by omega, by rw [hM9]; omega⟩)
    · exact sm_newm (tA := 0) (tI := 0) hx hb hg hown (hts _ w1) hA.2.2.2.2.2.2.2.2.1 (hts _ w2) (Or.inr ⟨rfl, rfl, rfl⟩) hK hW hS hG hl9 hn9 hk9 (Nat.le_of_ble_eq_true hb9) (Nat.le_of_ble_eq_true hb8) (by omega) (by rw [hM9]; omega) hdg (fun H1 w1 w2 => IH _ _ _ _ _ _ _ _ _ hs3 ⟨w1, w2, hl, by omega, by rw [hM9]; omega⟩)
  · cases hlen2 rfl
    exact sm_stat hC hst hF hFg hk hN hRc hRs hmc hms htb IH hdg hok2 hgr hIs hs
  · cases hlen2 rfl
    exact sm_virt hC hst hF hFg hk hN hRc hRs hmc hms htb IH hdg hok2 hgr hIs hs
  · cases hlen2 rfl
    exact sm_spec hC hst hF hFg hk hN hRc hRs hmc hms htb IH hdg hok2 hgr hIs hs
  · cases hlen2 rfl
    split at hs
    · rename_i x9
      by_cases hc1 : c' = 1
      · subst hc1
        obtain ⟨h01, hs1⟩ := iv_01 hs
        cases hs1
        have hc : cells = mc := by have : nc0 + mc = am_nc h := hmc; omega
        have hs9 : slots = ms := by have : ns0 + ms = am_ns h := hms; omega
        subst hc
        subst hs9
        have hr9 : meth.sig.returnType = some .boolean := hret.trans hok2
        exact vx_ret (W.zret hx hb hr9 (by rcases h01 with rfl | rfl <;> rfl) (fun t ht hWt => ⟨_, rfl, rfl, by rw [ht]; exact hW, hS.F ht⟩) hS.2.2 hdg hlocks)
      · have e9 : Nat.beq c' 1 = false := by
          cases hq : Nat.beq c' 1 with
          | false => rfl
          | true => exact absurd (Nat.eq_of_beq_eq_true hq) hc1
        rw [e9] at hs
        cases hs
        have hc : cells = mc := by have : nc0 + mc = am_nc h := hmc; omega
        have hs9 : slots = ms := by have : ns0 + ms = am_ns h := hms; omega
        subst hc
        subst hs9
        have hok3 : (if c' = 1 then q.2.2.2.2.1 = some FieldType.boolean else q.2.2.2.2.1 = some .int) := hok2
        rw [if_neg hc1] at hok3
        have hr9 : meth.sig.returnType = some .int := hret.trans hok3
        exact vx_ret (W.iret hx hb hr9 (fun t ht hWt => ⟨_, rfl, rfl, by rw [ht]; exact hW, hS.F ht⟩) hS.2.2 hdg hlocks)
    · cases hs
  · cases hlen2 rfl
    split at hs
    · cases hs
      have hc : cells = mc := by have : nc0 + mc = am_nc h := hmc; omega
      have hs9 : slots = ms := by have : ns0 + ms = am_ns h := hms; omega
      subst hc
      subst hs9
      have hr9 : meth.sig.returnType = some .long := hret.trans hok2
      exact vx_ret (W.lret hx hb hr9 (fun t ht hWt => ⟨_, rfl, rfl, by rw [ht]; exact hW, hS.F ht⟩) hS.2.2 hdg hlocks)
    · cases hs
  · cases hlen2 rfl
    split at hs
    · cases hs
      have hc : cells = mc := by have : nc0 + mc = am_nc h := hmc; omega
      have hs9 : slots = ms := by have : ns0 + ms = am_ns h := hms; omega
      subst hc
      subst hs9
      have hr9 : meth.sig.returnType = none := hret.trans hok2
      exact vx_ret (W.vret hx hb hr9 (fun t ht hWt => ⟨_, rfl, rfl, by rw [ht]; exact hW, hS.F ht⟩) hS.2.2 hdg hlocks)
    · cases hs
  · cases hs
end SX
