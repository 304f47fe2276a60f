/-! ===== stores, with the heap's size ===== -/
theorem sm_ne0 {h : am_H} {o c n Ln : Nat} (h0 : (am_S h)[0]? = some (15, Ln)) (hq : (am_S h)[o]? = some (c, n)) (hc : c ≠ 15) : o ≠ 0 := by
  intro e
  rw [e, h0] at hq
  cases hq
  exact hc rfl
theorem sm_stored {D : va_G} {cA : Nat → ClassId} {g : Nat → Nat} {B b Ln : Nat} {xs : Nat → Int32} {h h' : am_H} {H0 H H' : Heap} {o kd n j : Nat} {locs : List Loc} (hg : sm_G g B b) (hlen : (am_S h).length ≤ 900001) (hW : sm_W D cA g B Ln xs h H) (hS : va_S (fun q => B ≤ q) H0 H locs) (hq : (am_S h)[o]? = some (kd, n)) (hk : kd ≠ 15)
    (e1 : am_S h' = am_S h) (e2 : am_G h' = am_G h) (e3 : am_I h' 0 = am_I h 0) (hne : ∀ i, i ≠ o → sm_ce cA g h' i = sm_ce cA g h i) (hat : va_at D sm_cl (g o, sm_ce cA g h' o) H') (hz : H'.size = H.size) (oq : ∀ q : Nat, q ≠ g o → H'[q]? = H[q]?) :
    sm_W D cA g B Ln xs h' H' ∧ va_S (fun q => B ≤ q) H0 H' (locs ++ [⟨g o, j⟩]) := by
  obtain ⟨hP, hs0, hx0, hsz, hB, hkd⟩ := hW
  have hD : va_D (fun q => B ≤ q) (sm_ws cA g h) := sm_D hg.1 hlen
  have h0 : o ≠ 0 := sm_ne0 hs0 hq hk
  have hp := sm_at (cA := cA) (g := g) hq h0
  have hlt : o < (am_S h).length := (List.getElem?_eq_some_iff.mp hq).1
  refine ⟨⟨?_, by rw [e1]; exact hs0, by rw [e3]; exact hx0, fun hG => by rw [hz, e1]; exact hsz (by rw [← e2]; exact hG), by rw [hz]; exact hB, by rw [e1]; exact hkd⟩, hS.put hz oq (hD.2 _ _ hp)⟩
  rw [← sm_set (cA := cA) (g := g) e1 h0 hlt hne rfl]
  exact hP.set hD hp hat oq
section ST
variable {p : Program} {l : Launch} {e : Env} {R : Room} {s : State} {m : MethodId} {args : Array Value} {below : List Frame} {meth : Method} {c : Code} {H : Heap} {locs : List Loc} {cells slots : Nat} {Q : State → Prop} {cc : ByteArray} {pc : Nat} {ls : Array Slot} {rest : List Value}
variable {D : va_G} {cA : Nat → ClassId} {g : Nat → Nat} {B b Ln : Nat} {xs : Nat → Int32} {H0 : Heap} {h : am_H}
theorem sm_cell_i {o k n : Nat} (hW : sm_W D cA g B Ln xs h H) (hq : (am_S h)[o]? = some (k, n)) (hk : k = 9 ∨ k = 11 ∨ k = 12) : H[g o]? = some (arrV (cA k) n (fun j => .int (am_I h o j))) := by
  have h1 := hW.1 _ _ (sm_at (cA := cA) (g := g) hq (sm_ne0 hW.2.1 hq (by omega)))
  rw [sm_ce_a hq (by omega)] at h1
  have e : sm_ar g h o k = .inl (am_I h o) := by
    unfold sm_ar
    rw [if_neg (by omega), if_neg (by omega)]
  rw [e] at h1
  exact h1
theorem sm_cell_l {o n : Nat} (hW : sm_W D cA g B Ln xs h H) (hq : (am_S h)[o]? = some (10, n)) : H[g o]? = some (arrV (cA 10) n (fun j => .long (am_L h o j))) := by
  have h1 := hW.1 _ _ (sm_at (cA := cA) (g := g) hq (sm_ne0 hW.2.1 hq (by omega)))
  rw [sm_ce_a hq (by omega)] at h1
  exact h1
theorem sm_cell_q {o k n : Nat} (hW : sm_W D cA g B Ln xs h H) (hq : (am_S h)[o]? = some (k, n)) (hk : k = 13 ∨ k = 14) : H[g o]? = some (arrV (cA k) n (fun j => va_rf ((am_P h o j).map g))) := by
  have h1 := hW.1 _ _ (sm_at (cA := cA) (g := g) hq (sm_ne0 hW.2.1 hq (by omega)))
  rw [sm_ce_a hq (by omega)] at h1
  have e : sm_ar g h o k = .inr (.inr (.inr (.inr (fun j => (am_P h o j).map g)))) := by
    unfold sm_ar
    rw [if_neg (by omega), if_pos hk]
  rw [e] at h1
  exact h1
/-- an int row's cell behind a store -/
theorem sm_at_i {o k n j : Nat} {x : Int32} {H1 : Heap} (hq : (am_S h)[o]? = some (k, n)) (hk : k = 9 ∨ k = 11 ∨ k = 12) (e1 : H1[g o]? = some ((arrV (cA k) n (fun j => .int (am_I h o j))).setSlot j (.int x))) : va_at D sm_cl (g o, sm_ce cA g (am_sI h o j x) o) H1 := by
  rw [sm_ce_a (h := am_sI h o j x) (k := k) (n := n) hq (by omega)]
  have e : sm_ar g (am_sI h o j x) o k = .inl (am_I (am_sI h o j x) o) := by
    unfold sm_ar
    rw [if_neg (by omega), if_neg (by omega)]
  rw [e]
  show H1[g o]? = some (arrV (cA k) n (fun z => .int (am_I (am_sI h o j x) o z)))
  rw [e1, arrV_store]
  congr 2
  funext z
  show (if z = j then Value.int x else .int (am_I h o z)) = .int (am_up h.1 o j x o z)
  rw [am_up_eq]
  by_cases hz : z = j
  · simp [hz]
  · simp [hz, am_I]
theorem sm_at_l {o n j : Nat} {x : Int64} {H1 : Heap} (hq : (am_S h)[o]? = some (10, n)) (e1 : H1[g o]? = some ((arrV (cA 10) n (fun j => .long (am_L h o j))).setSlot j (.long x))) : va_at D sm_cl (g o, sm_ce cA g (am_sL h o j x) o) H1 := by
  rw [sm_ce_a (h := am_sL h o j x) (k := 10) (n := n) hq (by omega)]
  show H1[g o]? = some (arrV (cA 10) n (fun z => .long (am_L (am_sL h o j x) o z)))
  rw [e1, arrV_store]
  congr 2
  funext z
  show (if z = j then Value.long x else .long (am_L h o z)) = .long (am_up h.2.1 o j x o z)
  rw [am_up_eq]
  by_cases hz : z = j
  · simp [hz]
  · simp [hz, am_L]
theorem sm_I0 {o j : Nat} {x : Int32} (h0 : o ≠ 0) : am_I (am_sI h o j x) 0 = am_I h 0 := am_up_ne (fun e => h0 e.symm)
theorem sm_iast {o n : Nat} {i x : Int32} (hx : p.tables.exec = Jvm.exec) (hb : c.code = cc) (hg : sm_G g B b) (hlen : (am_S h).length ≤ 900001) (hK : va_K D sm_cl (sm_tys cA) s) (hW : sm_W D cA g B Ln xs h H) (hS : va_S (fun q => B ≤ q) H0 H locs) (hq : (am_S h)[o]? = some (9, n)) (hin : vp_in i n) (hdg : decode cc pc = .ok (.iastore, 1))
    (kk : ∀ (H1 : Heap) (locs1 : List Loc), sm_W D cA g B Ln xs (am_sI h o i.toNatClampNeg x) H1 → va_S (fun q => B ≤ q) H0 H1 locs1 → W p l e R s m args below meth c H1 locs1 cells slots Q (F0 m (pc + 1) ls rest)) : W p l e R s m args below meth c H locs cells slots Q (F0 m pc ls (.int x :: .int i :: .ref (g o) :: rest)) := by
  refine W.iast hx hb (sm_cell_i hW hq (Or.inl rfl)) ((hK.2 0 _ rfl).1 n (fun j => .int (am_I h o j))) (fun q => by cases q) (by rw [arrV_size]; exact hin) rfl rfl hdg fun H1 e1 z oq => ?_
  obtain ⟨w1, w2⟩ := sm_stored (h' := am_sI h o i.toNatClampNeg x) (j := i.toNatClampNeg) hg hlen hW hS hq (by omega) rfl rfl (sm_I0 (sm_ne0 hW.2.1 hq (by omega))) (fun _ hi => sm_ce_sI hi) (sm_at_i hq (Or.inl rfl) e1) z oq
  exact kk H1 _ w1 w2
theorem sm_bast {o n : Nat} {i x : Int32} (hx : p.tables.exec = Jvm.exec) (hb : c.code = cc) (hg : sm_G g B b) (hlen : (am_S h).length ≤ 900001) (hK : va_K D sm_cl (sm_tys cA) s) (hW : sm_W D cA g B Ln xs h H) (hS : va_S (fun q => B ≤ q) H0 H locs) (hq : (am_S h)[o]? = some (11, n)) (hin : vp_in i n) (hdg : decode cc pc = .ok (.bastore, 1))
    (kk : ∀ (H1 : Heap) (locs1 : List Loc), sm_W D cA g B Ln xs (am_sI h o i.toNatClampNeg (vp_nar .byte x)) H1 → va_S (fun q => B ≤ q) H0 H1 locs1 → W p l e R s m args below meth c H1 locs1 cells slots Q (F0 m (pc + 1) ls rest)) : W p l e R s m args below meth c H locs cells slots Q (F0 m pc ls (.int x :: .int i :: .ref (g o) :: rest)) := by
  refine W.bast hx hb (sm_cell_i hW hq (Or.inr (Or.inl rfl))) ((hK.2 2 _ rfl).1 n (fun j => .int (am_I h o j))) (fun q => by cases q) (by rw [arrV_size]; exact hin) rfl rfl hdg fun H1 e1 z oq => ?_
  obtain ⟨w1, w2⟩ := sm_stored (h' := am_sI h o i.toNatClampNeg (vp_nar .byte x)) (j := i.toNatClampNeg) hg hlen hW hS hq (by omega) rfl rfl (sm_I0 (sm_ne0 hW.2.1 hq (by omega))) (fun _ hi => sm_ce_sI hi) (sm_at_i hq (Or.inr (Or.inl rfl)) e1) z oq
  exact kk H1 _ w1 w2
theorem sm_zast {o n : Nat} {i x : Int32} (hx : p.tables.exec = Jvm.exec) (hb : c.code = cc) (hg : sm_G g B b) (hlen : (am_S h).length ≤ 900001) (hK : va_K D sm_cl (sm_tys cA) s) (hW : sm_W D cA g B Ln xs h H) (hS : va_S (fun q => B ≤ q) H0 H locs) (hq : (am_S h)[o]? = some (12, n)) (hin : vp_in i n) (hdg : decode cc pc = .ok (.bastore, 1))
    (kk : ∀ (H1 : Heap) (locs1 : List Loc), sm_W D cA g B Ln xs (am_sI h o i.toNatClampNeg (vp_nar .boolean x)) H1 → va_S (fun q => B ≤ q) H0 H1 locs1 → W p l e R s m args below meth c H1 locs1 cells slots Q (F0 m (pc + 1) ls rest)) : W p l e R s m args below meth c H locs cells slots Q (F0 m pc ls (.int x :: .int i :: .ref (g o) :: rest)) := by
  refine W.zast hx hb (sm_cell_i hW hq (Or.inr (Or.inr rfl))) ((hK.2 3 _ rfl).1 n (fun j => .int (am_I h o j))) (fun q => by cases q) (by rw [arrV_size]; exact hin) rfl rfl hdg fun H1 e1 z oq => ?_
  obtain ⟨w1, w2⟩ := sm_stored (h' := am_sI h o i.toNatClampNeg (vp_nar .boolean x)) (j := i.toNatClampNeg) hg hlen hW hS hq (by omega) rfl rfl (sm_I0 (sm_ne0 hW.2.1 hq (by omega))) (fun _ hi => sm_ce_sI hi) (sm_at_i hq (Or.inr (Or.inr rfl)) e1) z oq
  exact kk H1 _ w1 w2
theorem sm_last {o n : Nat} {i : Int32} {x : Int64} (hx : p.tables.exec = Jvm.exec) (hb : c.code = cc) (hg : sm_G g B b) (hlen : (am_S h).length ≤ 900001) (hK : va_K D sm_cl (sm_tys cA) s) (hW : sm_W D cA g B Ln xs h H) (hS : va_S (fun q => B ≤ q) H0 H locs) (hq : (am_S h)[o]? = some (10, n)) (hin : vp_in i n) (hdg : decode cc pc = .ok (.lastore, 1))
    (kk : ∀ (H1 : Heap) (locs1 : List Loc), sm_W D cA g B Ln xs (am_sL h o i.toNatClampNeg x) H1 → va_S (fun q => B ≤ q) H0 H1 locs1 → W p l e R s m args below meth c H1 locs1 cells slots Q (F0 m (pc + 1) ls rest)) : W p l e R s m args below meth c H locs cells slots Q (F0 m pc ls (.long x :: .int i :: .ref (g o) :: rest)) := by
  refine W.last hx hb (sm_cell_l hW hq) ((hK.2 1 _ rfl).1 n (fun j => .long (am_L h o j))) (fun q => by cases q) (by rw [arrV_size]; exact hin) rfl rfl hdg fun H1 e1 z oq => ?_
  obtain ⟨w1, w2⟩ := sm_stored (h' := am_sL h o i.toNatClampNeg x) (j := i.toNatClampNeg) hg hlen hW hS hq (by omega) rfl rfl rfl (fun _ hi => sm_ce_sL hi) (sm_at_l hq e1) z oq
  exact kk H1 _ w1 w2
theorem sm_put {own C : String} {T : u_T} {N a k index o n : Nat} {v : Value} {h' : am_H} (hx : p.tables.exec = Jvm.exec) (hb : c.code = cc) (hg : sm_G g B b) (hlen : (am_S h).length ≤ 900001) (hts : ∀ w ∈ sm_TB, w.before args s = true) (hin : ∀ w ∈ u_ws C T N, w ∈ sm_TB) (hty : ∀ k, k < N → parseFieldDescriptor (T k).2.2.1 = some (sm_ty a k)) (hnm : ∀ a, a < N → ∀ b, b < N → a ≠ b → (T a).2.1 ≠ (T b).2.1) (hown : s.vm.findClass own = some m.cls)
    (hK : va_K D sm_cl (sm_tys cA) s) (hW : sm_W D cA g B Ln xs h H) (hS : va_S (fun q => B ≤ q) H0 H locs) (hq : (am_S h)[o]? = some (a, n)) (ha : a < 9) (hc : sm_cl[a]? = some (C, T, N)) (hN : N = sm_N a) (hk : k < N) (hlink : (Cond.fieldLink own index C (T k).2.1 (T k).2.2.1).before args s = true) (hT1 : (T k).1 = C) (hfin : (T k).2.2.2 = true → meth.name = "<init>" ∧ C = own)
    (hn : narrow (sm_ty a k) v = v) (hfit : fits (sm_ty a k) v = true) (e1 : am_S h' = am_S h) (e2 : am_G h' = am_G h) (e3 : am_I h' 0 = am_I h 0) (hne : ∀ i, i ≠ o → sm_ce cA g h' i = sm_ce cA g h i) (hfs : sm_fs g h' o a = (sm_fs g h o a).set k v) (hdg : decode cc pc = .ok (.putfield index, 3))
    (kk : ∀ (H1 : Heap) (locs1 : List Loc), sm_W D cA g B Ln xs h' H1 → va_S (fun q => B ≤ q) H0 H1 locs1 → W p l e R s m args below meth c H1 locs1 cells slots Q (F0 m (pc + 3) ls rest)) : W p l e R s m args below meth c H locs cells slots Q (F0 m pc ls (v :: .ref (g o) :: rest)) := by
  have hap := va_apart (own := own) hts hin (sm_ty a) hty hnm hK hc
  have h1 := hW.1 _ _ (sm_at (cA := cA) (g := g) hq (sm_ne0 hW.2.1 hq (by omega)))
  rw [sm_ce_o hq ha] at h1
  obtain ⟨r, hr0, cell, q1, q2, q3, q4⟩ := h1
  have hr : r = (C, T, N) := Option.some.inj (hr0.symm.trans hc)
  subst hr
  obtain ⟨hSl, hfc, kC, hkC, hkind⟩ := hK.1 a _ hc
  obtain ⟨cf, kf, fi, f, hi, hsl⟩ := hSl k hk
  have hst := (u_facts hfc hkC (u_lays hts hin hk) hi).1
  have hd := hty k hk
  have hl : k < (sm_fs g h o a).length := by unfold sm_fs; rw [List.length_map, List.length_range, ← hN]; exact hk
  have hsame : s.fieldFound? C (T k).2.1 (T k).2.2.1 = some (cf, kf, fi, f) := by rw [← hT1]; exact hi
  have hlay := hts _ (hin _ (u_in_lay hk))
  have done : ∀ (H1 : Heap), H1[g o]? = some (cell.setSlot f.slot v) → H1.size = H.size → (∀ q : Nat, q ≠ g o → H1[q]? = H[q]?) → W p l e R s m args below meth c H1 (locs ++ [⟨g o, f.slot⟩]) cells slots Q (F0 m (pc + 3) ls rest) := by
    intro H1 w1 w2 w3
    rw [hsl] at w1
    have hat : va_at D sm_cl (g o, sm_ce cA g h' o) H1 := by
      rw [sm_ce_o (h := h') (k := a) (n := n) (by rw [e1]; exact hq) ha, hfs]
      exact ⟨_, hc, t_OB.to (V := updV (vp_V (sm_fs g h o a)) k v) ⟨_, w1, q2, q3, t_set q4 hap hk v⟩ (fun j _ => vp_updV_set hl v j)⟩
    obtain ⟨z1, z2⟩ := sm_stored (h' := h') (j := f.slot) hg hlen hW hS hq (by omega) e1 e2 e3 hne hat w2 w3
    exact kk H1 _ z1 z2
  unfold u_lay at hlay
  by_cases hf : (T k).2.2.2 = true
  · rw [if_pos hf] at hlay
    obtain ⟨hin2, hdecl⟩ := hfin hf
    have hcf : m.cls = cf := by
      obtain ⟨_, _, c', _, _, _, -, -, hf', -, -, -, hown2, -⟩ := Cond.laysFinal_spec hlay
      have e9 : c' = cf := by have := hi.symm.trans hf'; simp at this; exact this.1.symm
      rw [hT1, hdecl] at hown2
      rw [← e9]
      exact Option.some.inj (hown.symm.trans hown2)
    have h6 := u_fits hfc hkC hkind (Or.inr hlay) hi hd hn hfit
    exact W.putFinK hx hb hown hlink hsame hst hcf hin2 (by rw [q2]; exact h6) q1 q3 (by rw [hsl]; exact k2_hasslot (q4 k hk)) rfl rfl hdg done
  · rw [if_neg hf] at hlay
    have h6 := u_store hfc hkC hkind hlay hi hd hn hfit
    exact W.putK hx hb (f := f) ⟨hown, hlink, ⟨_, _, _, hsame⟩, hst⟩ (by rw [q2]; exact h6) q1 q3 (by rw [hsl]; exact k2_hasslot (q4 k hk)) rfl rfl hdg done
end ST
