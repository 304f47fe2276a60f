/-! ===== new cells ===== -/
theorem sm_pushed {D : va_G} {cA : Nat → ClassId} {g : Nat → Nat} {B b Ln : Nat} {xs : Nat → Int32} {h h' : am_H} {H0 H H1 : Heap} {qs : List (Nat × Nat)} {locs : List Loc} (hg : sm_G g B b) (hlen : (am_S h).length + qs.length ≤ 900001) (hW : sm_W D cA g B Ln xs h H) (hS : va_S (fun q => B ≤ q) H0 H locs) (hG : am_G h = 0) (hq15 : ∀ q ∈ qs, q.1 ≤ 14)
    (e1 : am_S h' = am_S h ++ qs) (e2 : am_G h' = 0) (e3 : am_I h' 0 = am_I h 0) (hne : ∀ i, i < (am_S h).length → sm_ce cA g h' i = sm_ce cA g h i) (hat : ∀ j, j < qs.length → va_at D sm_cl (H.size + j, sm_ce cA g h' ((am_S h).length + j)) H1) (hz : H1.size = H.size + qs.length) (ho : ∀ q : Nat, q < H.size → H1[q]? = H[q]?) :
    sm_W D cA g B Ln xs h' H1 ∧ va_S (fun q => B ≤ q) H0 H1 locs ∧ (qs ≠ [] → g (am_S h).length = H.size) := by
  obtain ⟨hP, hs0, hx0, hsz, hB, hkd⟩ := hW
  have hn1 : 1 ≤ (am_S h).length := by
    have := (List.getElem?_eq_some_iff.mp hs0).1
    omega
  have hsz := hsz hG
  have gj : ∀ j, j < qs.length → g ((am_S h).length + j) = H.size + j := fun j hj => by
    rw [hg.1 _ (by omega) (by omega)]
    omega
  refine ⟨⟨?_, ?_, by rw [e3]; exact hx0, fun _ => by rw [hz, e1, List.length_append]; omega, by omega, fun o c n ho9 => ?_⟩, ⟨by have := hS.1; omega, fun q h1 h2 => (ho q (Nat.lt_of_lt_of_le h1 hS.1)).trans (hS.2.1 q h1 h2), hS.2.2⟩, fun hne => ?_⟩
  · intro k x hx
    unfold sm_ws at hx
    rw [List.getElem?_map, e1, List.length_append] at hx
    by_cases hk : k < (am_S h).length + qs.length - 1
    · rw [List.getElem?_range hk] at hx
      cases hx
      show va_at D sm_cl (g (k + 1), sm_ce cA g h' (k + 1)) H1
      by_cases hk2 : k + 1 < (am_S h).length
      · rw [hne _ hk2]
        obtain ⟨z, hz9⟩ : ∃ z, (am_S h)[k + 1]? = some z := ⟨_, List.getElem?_eq_getElem hk2⟩
        have h1 := hP _ _ (sm_at (cA := cA) (g := g) hz9 (by omega))
        exact h1.kept (ho _ h1.lt)
      · obtain ⟨j, hj⟩ : ∃ j, k + 1 = (am_S h).length + j := ⟨k + 1 - (am_S h).length, by omega⟩
        rw [hj, gj j (by omega)]
        exact hat j (by omega)
    · have hn0 : (List.range ((am_S h).length + qs.length - 1))[k]? = none := List.getElem?_eq_none (by rw [List.length_range]; omega)
      rw [hn0] at hx
      cases hx
  · rw [e1, List.getElem?_append_left (by omega)]
    exact hs0
  · rw [e1] at ho9
    by_cases hlt : o < (am_S h).length
    · rw [List.getElem?_append_left hlt] at ho9
      exact hkd o c n ho9
    · rw [List.getElem?_append_right (by omega)] at ho9
      exact Or.inl (hq15 _ (List.mem_of_getElem? ho9))
  · have hq : 0 < qs.length := List.length_pos_iff.mpr hne
    have := gj 0 hq
    simpa using this
theorem sm_inner (c : ClassId) (n : Nat) (v : Value) : Jvm.Free.Multi.innerC c n v = arrV c n (fun _ => v) := by
  unfold Jvm.Free.Multi.innerC arrV
  congr 1
  apply Array.ext
  · simp
  · intro i h1 h2
    simp
theorem sm_outer (c : ClassId) (N h0 : Nat) : ∀ i, Jvm.Free.Multi.outerC c N h0 i = arrV c N (fun j => va_rf (if j < i then some (h0 + 1 + j) else none))
  | 0 => by
    unfold Jvm.Free.Multi.outerC arrV
    congr 1
    apply Array.ext
    · simp
    · intro i h1 h2
      simp [va_rf]
  | i + 1 => by
    rw [Jvm.Free.Multi.outerC, sm_outer c N h0 i, arrV_store]
    congr 1
    funext j
    unfold updV
    by_cases hj : j = i
    · subst hj
      rw [if_pos rfl, if_pos (by omega)]
      rfl
    · rw [if_neg hj]
      dsimp only
      by_cases h2 : j < i
      · rw [if_pos h2, if_pos (by omega)]
      · rw [if_neg h2, if_neg (by omega)]
section NW
variable {p : Program} {l : Launch} {e : Env} {R : Room} {s : State} {m : MethodId} {args : Array Value} {below : List Frame} {meth : Method} {c : Code} {H : Heap} {locs : List Loc} {cells slots : Nat} {Q : State → Prop} {cc : ByteArray} {pc : Nat} {ls : Array Slot} {rest : List Value}
variable {D : va_G} {cA : Nat → ClassId} {g : Nat → Nat} {B b Ln : Nat} {xs : Nat → Int32} {H0 : Heap} {h : am_H}
theorem sm_nw_ne {q : Nat × Nat} {i : Nat} (hi : i < (am_S h).length) : sm_ce cA g (am_nw h q) i = sm_ce cA g h i := by
  have hn : i ≠ (am_S h).length := by omega
  have a1 : am_I (am_nw h q) i = am_I h i := am_rw_ne hn
  have a2 : am_L (am_nw h q) i = am_L h i := am_rw_ne hn
  have a3 : am_P (am_nw h q) i = am_P h i := am_rw_ne hn
  have a4 : (am_S (am_nw h q))[i]? = (am_S h)[i]? := List.getElem?_append_left hi
  unfold sm_ce sm_fs sm_ar sm_fv
  rw [a1, a2, a3, a4]
theorem sm_nw_at {q : Nat × Nat} : (am_S (am_nw h q))[(am_S h).length]? = some q := by
  show (am_S h ++ [q])[(am_S h).length]? = some q
  simp
theorem sm_newo {own C : String} {T : u_T} {N a index : Nat} (hx : p.tables.exec = Jvm.exec) (hb : c.code = cc) (hg : sm_G g B b) (hlen : (am_S h).length ≤ 900000) (hts : ∀ w ∈ sm_TB, w.before args s = true) (hin : ∀ w ∈ u_ws C T N, w ∈ sm_TB) (hty : ∀ k, k < N → parseFieldDescriptor (T k).2.2.1 = some (sm_ty a k)) (hdv : ∀ k, k < N → defaultValue (sm_ty a k) = sm_dv (sm_ty a k)) (hown : s.vm.findClass own = some m.cls)
    (hcl : (Cond.classLink own index C).before args s = true) (hinst : (Cond.instantiable C N).before args s = true) (hini : (Cond.initialized C).before args s = true) (hK : va_K D sm_cl (sm_tys cA) s) (hW : sm_W D cA g B Ln xs h H) (hS : va_S (fun q => B ≤ q) H0 H locs) (hG : am_G h = 0) (ha : a < 9) (hc : sm_cl[a]? = some (C, T, N)) (hN : N = sm_N a)
    (hcells : cells + 1 ≤ R.cells) (hslots : slots + N ≤ R.slots) (hdg : decode cc pc = .ok (.new index, 3))
    (kk : ∀ (H1 : Heap), sm_W D cA g B Ln xs (am_nw h (a, N)) H1 → va_S (fun q => B ≤ q) H0 H1 locs → W p l e R s m args below meth c H1 locs (cells + 1) (slots + N) Q (F0 m (pc + 3) ls (.ref (g (am_S h).length) :: rest))) : W p l e R s m args below meth c H locs cells slots Q (F0 m pc ls rest) := by
  have hKn := hK.1 a _ hc
  refine W.newcK hx hb hown hcl hinst hini rfl hdg hcells hslots hKn.2.1 rfl fun H1 kC hkC e1 z1 o1 => ?_
  have hat : va_at D sm_cl (H.size, sm_ce cA g (am_nw h (a, N)) (am_S h).length) H1 := by
    rw [sm_ce_o (h := am_nw h (a, N)) (k := a) (n := N) sm_nw_at ha]
    refine ⟨_, hc, (u_born (sm_ty a) hts hin hKn hkC e1 hty).to fun j hj => ?_⟩
    have hj2 : j < sm_N a := by rw [← hN]; exact hj
    have e9 : vp_V (sm_fs g (am_nw h (a, N)) (am_S h).length a) j = sm_fv g (sm_ty a j) (am_nw h (a, N)) (am_S h).length j := by
      unfold vp_V
      rw [List.getD_eq_getElem?_getD, sm_fs_at hj2]
      rfl
    rw [e9, hdv j hj]
    have a1 : am_I (am_nw h (a, N)) (am_S h).length = fun _ => 0 := am_rw_eq
    have a2 : am_L (am_nw h (a, N)) (am_S h).length = fun _ => 0 := am_rw_eq
    have a3 : am_P (am_nw h (a, N)) (am_S h).length = fun _ => none := am_rw_eq
    unfold sm_fv sm_dv
    rw [a1, a2, a3]
    cases sm_ty a j <;> rfl
  have h0 : 0 < (am_S h).length := (List.getElem?_eq_some_iff.mp hW.2.1).1
  obtain ⟨w1, w2, w3⟩ := sm_pushed (h' := am_nw h (a, N)) (qs := [(a, N)]) hg (by simp; omega) hW hS hG (fun q hq => by cases List.mem_singleton.mp hq; show a ≤ 14; omega) rfl hG (am_rw_ne (by omega)) (fun i hi => sm_nw_ne hi) (fun j hj => by
    have : j = 0 := by simpa using hj
    subst this
    exact hat) z1 o1
  have w4 := kk H1 w1 w2
  rw [w3 (by simp)] at w4
  exact w4
theorem sm_newr {t : ArrayType} {a : Nat} {n : Int32} (hx : p.tables.exec = Jvm.exec) (hb : c.code = cc) (hg : sm_G g B b) (hlen : (am_S h).length ≤ 900000) (harr : (Cond.arrayClass (newarray.typeOf t)).before args s = true) (ht : sm_at9 t a) (hK : va_K D sm_cl (sm_tys cA) s) (hW : sm_W D cA g B Ln xs h H) (hS : va_S (fun q => B ≤ q) H0 H locs) (hG : am_G h = 0)
    (hn : ¬ n < 0) (hn2 : n.toNatClampNeg ≤ 60000000) (hcells : cells + 1 ≤ R.cells) (hslots : slots + n.toNatClampNeg ≤ R.slots) (hdg : decode cc pc = .ok (.newarray t, 2))
    (kk : ∀ (H1 : Heap), sm_W D cA g B Ln xs (am_nw h (a, n.toNatClampNeg)) H1 → va_S (fun q => B ≤ q) H0 H1 locs → W p l e R s m args below meth c H1 locs (cells + 1) (slots + n.toNatClampNeg) Q (F0 m (pc + 2) ls (.ref (g (am_S h).length) :: rest))) : W p l e R s m args below meth c H locs cells slots Q (F0 m pc ls (.int n :: rest)) := by
  have hbytes : n.toNatClampNeg * componentBytes (newarray.typeOf t) ≤ 536870912 := by
    rcases ht with ⟨rfl, -⟩ | ⟨rfl, -⟩ | ⟨rfl, -⟩ | ⟨rfl, -⟩ <;> simp [newarray.typeOf, componentBytes] <;> omega
  have h9 : ¬ a < 9 ∧ a ≤ 14 := by rcases ht with ⟨-, rfl⟩ | ⟨-, rfl⟩ | ⟨-, rfl⟩ | ⟨-, rfl⟩ <;> omega
  refine va_newaK hx hb harr rfl hdg rfl hn rfl hbytes hcells hslots rfl fun H1 cA' e1 z1 o1 hAr hNm => ?_
  have a1 : am_I (am_nw h (a, n.toNatClampNeg)) (am_S h).length = fun _ => 0 := am_rw_eq
  have a2 : am_L (am_nw h (a, n.toNatClampNeg)) (am_S h).length = fun _ => 0 := am_rw_eq
  have hat : va_at D sm_cl (H.size, sm_ce cA g (am_nw h (a, n.toNatClampNeg)) (am_S h).length) H1 := by
    rw [sm_ce_a (h := am_nw h (a, n.toNatClampNeg)) (k := a) (n := n.toNatClampNeg) sm_nw_at h9.1]
    rcases ht with ⟨rfl, rfl⟩ | ⟨rfl, rfl⟩ | ⟨rfl, rfl⟩ | ⟨rfl, rfl⟩
    · have q : cA' = cA 9 := Option.some.inj (hNm.symm.trans (hK.2 0 _ rfl).2)
      rw [q] at e1
      show H1[H.size]? = some (arrV (cA 9) _ (fun j => .int (am_I (am_nw h (9, n.toNatClampNeg)) (am_S h).length j)))
      rw [a1]
      exact e1
    · have q : cA' = cA 10 := Option.some.inj (hNm.symm.trans (hK.2 1 _ rfl).2)
      rw [q] at e1
      show H1[H.size]? = some (arrV (cA 10) _ (fun j => .long (am_L (am_nw h (10, n.toNatClampNeg)) (am_S h).length j)))
      rw [a2]
      exact e1
    · have q : cA' = cA 11 := Option.some.inj (hNm.symm.trans (hK.2 2 _ rfl).2)
      rw [q] at e1
      show H1[H.size]? = some (arrV (cA 11) _ (fun j => .int (am_I (am_nw h (11, n.toNatClampNeg)) (am_S h).length j)))
      rw [a1]
      exact e1
    · have q : cA' = cA 12 := Option.some.inj (hNm.symm.trans (hK.2 3 _ rfl).2)
      rw [q] at e1
      show H1[H.size]? = some (arrV (cA 12) _ (fun j => .int (am_I (am_nw h (12, n.toNatClampNeg)) (am_S h).length j)))
      rw [a1]
      exact e1
  have h0 : 0 < (am_S h).length := (List.getElem?_eq_some_iff.mp hW.2.1).1
  obtain ⟨w1, w2, w3⟩ := sm_pushed (h' := am_nw h (a, n.toNatClampNeg)) (qs := [(a, n.toNatClampNeg)]) hg (by simp; omega) hW hS hG (fun q hq => by cases List.mem_singleton.mp hq; show a ≤ 14; omega) rfl hG (am_rw_ne (by omega)) (fun i hi => sm_nw_ne hi) (fun j hj => by
    have : j = 0 := by simpa using hj
    subst this
    exact hat) z1 o1
  have w4 := kk H1 w1 w2
  rw [w3 (by simp)] at w4
  exact w4
theorem sm_nm_ne {a a' n k i : Nat} (hi : i < (am_S h).length) : sm_ce cA g (am_nm h a a' n k) i = sm_ce cA g h i := by
  have hn : ¬ (am_S h).length ≤ i := by omega
  have hn2 : i ≠ (am_S h).length := by omega
  have a1 : am_I (am_nm h a a' n k) i = am_I h i := by funext j; show (if (am_S h).length ≤ i then 0 else h.1 i j) = h.1 i j; rw [if_neg hn]
  have a2 : am_L (am_nm h a a' n k) i = am_L h i := by funext j; show (if (am_S h).length ≤ i then 0 else h.2.1 i j) = h.2.1 i j; rw [if_neg hn]
  have a3 : am_P (am_nm h a a' n k) i = am_P h i := by
    funext j
    show (if i = (am_S h).length then (if j < n then some ((am_S h).length + 1 + j) else none) else if (am_S h).length ≤ i then none else h.2.2.1 i j) = h.2.2.1 i j
    rw [if_neg hn2, if_neg hn]
  have a4 : (am_S (am_nm h a a' n k))[i]? = (am_S h)[i]? := List.getElem?_append_left hi
  unfold sm_ce sm_fs sm_ar sm_fv
  rw [a1, a2, a3, a4]
/-- new T[n][k] -/
theorem sm_newm {own : String} {ty : FieldType} {a a' index tA tI : Nat} {n k : Int32} (hx : p.tables.exec = Jvm.exec) (hb : c.code = cc) (hg : sm_G g B b) (hown : s.vm.findClass own = some m.cls) (hclink : (Cond.classLink own index ("[" ++ (FieldType.array ty).toString)).before args s = true) (hover : (Cond.arrayOver (.array ty)).before args s = true) (harr : (Cond.arrayClass ty).before args s = true)
    (hty : (a = 13 ∧ a' = 9 ∧ ty = .int) ∨ (a = 14 ∧ a' = 10 ∧ ty = .long)) (hK : va_K D sm_cl (sm_tys cA) s) (hW : sm_W D cA g B Ln xs h H) (hS : va_S (fun q => B ≤ q) H0 H locs) (hG : am_G h = 0) (hlen : (am_S h).length + 1 + n.toNatClampNeg ≤ 900001)
    (hn : ¬ n < 0) (hk : ¬ k < 0) (hn2 : n.toNatClampNeg ≤ 60000000) (hk2 : k.toNatClampNeg ≤ 60000000) (hcells : cells + (1 + n.toNatClampNeg) ≤ R.cells) (hslots : slots + (n.toNatClampNeg + n.toNatClampNeg * k.toNatClampNeg) ≤ R.slots) (hdg : decode cc pc = .ok (.multianewarray index 2, 4))
    (kk : ∀ (H1 : Heap), sm_W D cA g B Ln xs (am_nm h a a' n.toNatClampNeg k.toNatClampNeg) H1 → va_S (fun q => B ≤ q) H0 H1 locs → W p l e R s m args below meth c H1 locs (cells + 1 + n.toNatClampNeg) (slots + n.toNatClampNeg + n.toNatClampNeg * k.toNatClampNeg) Q (F0 m (pc + 4) ls (.ref (g (am_S h).length) :: rest))) : W p l e R s m args below meth c H locs cells slots Q (F0 m pc ls (.int k :: .int n :: rest)) := by
  intro Ts hT Xs
  have hb2 : k.toNatClampNeg * componentBytes ty ≤ 536870912 := by
    rcases hty with ⟨-, -, rfl⟩ | ⟨-, -, rfl⟩ <;> simp [componentBytes] <;> omega
  have hdf : fits ty (defaultValue ty) = true := by rcases hty with ⟨-, -, rfl⟩ | ⟨-, -, rfl⟩ <;> rfl
  have hdd : (defaultValue ty).isDefault = true := by rcases hty with ⟨-, -, rfl⟩ | ⟨-, -, rfl⟩ <;> rfl
  obtain ⟨vm₁, cA1, comp, -, fA, fC, -, -, X', step⟩ := Xs.multianewarray2F hx hown hclink hover harr (g := F0 m pc ls (.int k :: .int n :: rest)) rfl (by rw [hb]; exact hdg) rfl hn hk (by omega) hb2 (by omega) hdf hdd hcells hslots
  have hTh : (Ts.setVm vm₁).heap = H := hT
  obtain ⟨f1, f2, -, -⟩ := Jvm.Free.Multi.fill_facts (Ts.setVm vm₁) cA1 comp n.toNatClampNeg k.toNatClampNeg (defaultValue ty) n.toNatClampNeg
  have fold := fun (x : Nat) (hx9 : x < H.size) => Jvm.Free.Multi.fill_old (Ts.setVm vm₁) cA1 comp n.toNatClampNeg k.toNatClampNeg (defaultValue ty) (a := x) (by rw [hTh]; exact hx9) n.toNatClampNeg
  have frow := Jvm.Free.Multi.fill_inner (Ts.setVm vm₁) cA1 comp n.toNatClampNeg k.toNatClampNeg (defaultValue ty) n.toNatClampNeg
  generalize hF : Jvm.Free.Multi.fill (Ts.setVm vm₁) cA1 comp n.toNatClampNeg k.toNatClampNeg (defaultValue ty) n.toNatClampNeg = F at X' step f1 f2 fold frow
  rw [hTh] at f1 f2 frow
  have hold : ∀ x : Nat, x < H.size → F.heap[x]? = H[x]? := fun x hx9 => by
    have := fold x hx9
    rw [hTh] at this
    exact this
  have hat : ∀ j, j < ((a, n.toNatClampNeg) :: List.replicate n.toNatClampNeg (a', k.toNatClampNeg)).length → va_at D sm_cl (H.size + j, sm_ce cA g (am_nm h a a' n.toNatClampNeg k.toNatClampNeg) ((am_S h).length + j)) F.heap := by
    intro j hj
    rw [List.length_cons, List.length_replicate] at hj
    have hS9 : (am_S (am_nm h a a' n.toNatClampNeg k.toNatClampNeg))[(am_S h).length + j]? = ((a, n.toNatClampNeg) :: List.replicate n.toNatClampNeg (a', k.toNatClampNeg))[j]? := by
      show (am_S h ++ _)[(am_S h).length + j]? = _
      rw [List.getElem?_append_right (by omega)]
      congr 1
      omega
    cases j with
    | zero =>
      rw [sm_ce_a (h := am_nm h a a' n.toNatClampNeg k.toNatClampNeg) (k := a) (n := n.toNatClampNeg) (by rw [hS9]; rfl) (by omega)]
      have e : sm_ar g (am_nm h a a' n.toNatClampNeg k.toNatClampNeg) ((am_S h).length + 0) a = .inr (.inr (.inr (.inr (fun j => (am_P (am_nm h a a' n.toNatClampNeg k.toNatClampNeg) ((am_S h).length + 0) j).map g)))) := by
        unfold sm_ar
        rw [if_neg (by omega), if_pos (by omega)]
      rw [e]
      show F.heap[H.size]? = some (arrV (cA a) n.toNatClampNeg (fun j => va_rf ((am_P (am_nm h a a' n.toNatClampNeg k.toNatClampNeg) (am_S h).length j).map g)))
      rw [f2]
      have q : cA1 = cA a := by
        rcases hty with ⟨rfl, -, rfl⟩ | ⟨rfl, -, rfl⟩
        · exact Option.some.inj (fA.symm.trans (hK.2 4 _ rfl).2)
        · exact Option.some.inj (fA.symm.trans (hK.2 5 _ rfl).2)
      rw [q, sm_outer]
      congr 2
      funext i
      show va_rf (if i < n.toNatClampNeg then some (H.size + 1 + i) else none) = va_rf (Option.map g (if (am_S h).length = (am_S h).length then (if i < n.toNatClampNeg then some ((am_S h).length + 1 + i) else none) else if (am_S h).length ≤ (am_S h).length then none else h.2.2.1 (am_S h).length i))
      rw [if_pos rfl]
      by_cases hi : i < n.toNatClampNeg
      · rw [if_pos hi, if_pos hi]
        have := hW.2.2.2.1 hG
        show va_rf (some (H.size + 1 + i)) = va_rf (some (g ((am_S h).length + 1 + i)))
        rw [hg.1 _ (by omega) (by omega)]
        congr 2
        omega
      · rw [if_neg hi, if_neg hi]
        rfl
    | succ j =>
      rw [sm_ce_a (h := am_nm h a a' n.toNatClampNeg k.toNatClampNeg) (k := a') (n := k.toNatClampNeg) (by rw [hS9, List.getElem?_cons_succ, List.getElem?_replicate, if_pos (by omega)]) (by omega)]
      have a1 : am_I (am_nm h a a' n.toNatClampNeg k.toNatClampNeg) ((am_S h).length + (j + 1)) = fun _ => 0 := by
        funext z
        show (if (am_S h).length ≤ (am_S h).length + (j + 1) then 0 else _) = (0 : Int32)
        rw [if_pos (by omega)]
      have a2 : am_L (am_nm h a a' n.toNatClampNeg k.toNatClampNeg) ((am_S h).length + (j + 1)) = fun _ => 0 := by
        funext z
        show (if (am_S h).length ≤ (am_S h).length + (j + 1) then 0 else _) = (0 : Int64)
        rw [if_pos (by omega)]
      have hr := frow j (by omega)
      rw [show H.size + 1 + j = H.size + (j + 1) by omega] at hr
      rcases hty with ⟨rfl, rfl, rfl⟩ | ⟨rfl, rfl, rfl⟩
      · have q : comp = cA 9 := Option.some.inj (fC.symm.trans (hK.2 0 _ rfl).2)
        rw [q, sm_inner] at hr
        show F.heap[H.size + (j + 1)]? = some (arrV (cA 9) _ (fun z => .int (am_I (am_nm h 13 9 n.toNatClampNeg k.toNatClampNeg) ((am_S h).length + (j + 1)) z)))
        rw [a1]
        exact hr
      · have q : comp = cA 10 := Option.some.inj (fC.symm.trans (hK.2 1 _ rfl).2)
        rw [q, sm_inner] at hr
        show F.heap[H.size + (j + 1)]? = some (arrV (cA 10) _ (fun z => .long (am_L (am_nm h 14 10 n.toNatClampNeg k.toNatClampNeg) ((am_S h).length + (j + 1)) z)))
        rw [a2]
        exact hr
  have h0 : 0 < (am_S h).length := (List.getElem?_eq_some_iff.mp hW.2.1).1
  have e3 : am_I (am_nm h a a' n.toNatClampNeg k.toNatClampNeg) 0 = am_I h 0 := by
    funext j
    show (if (am_S h).length ≤ 0 then 0 else h.1 0 j) = h.1 0 j
    rw [if_neg (by omega)]
  obtain ⟨w1, w2, w3⟩ := sm_pushed (h' := am_nm h a a' n.toNatClampNeg k.toNatClampNeg) (qs := (a, n.toNatClampNeg) :: List.replicate n.toNatClampNeg (a', k.toNatClampNeg)) hg (by simp; omega) hW hS hG (fun q hq => by
    rcases List.mem_cons.mp hq with rfl | hq
    · show a ≤ 14; omega
    · rw [(List.mem_replicate.mp hq).2]; show a' ≤ 14; omega) rfl hG e3 (fun i hi => sm_nm_ne hi) hat (by rw [f1]; simp; omega) hold
  have w4 := kk F.heap w1 w2
  rw [w3 (by simp)] at w4
  obtain ⟨t, a1, b1⟩ := w4 F rfl X'
  refine ⟨t, step t ?_, b1⟩
  have e9 : Ts.heap.size = H.size := by rw [hT]
  rw [e9]
  exact a1
/-- System.arraycopy -/
theorem sm_copy {own : String} {index f t nf nt : Nat} {sp dp n : Int32} (hx : p.tables.exec = Jvm.exec) (hb : c.code = cc) (hml : c.maxLocals = ls.size) (hg : sm_G g B b) (hlen : (am_S h).length ≤ 900001) (hown : s.vm.findClass own = some m.cls) (hlink : (Cond.methodLink own index arraycopyName).before args s = true) (hnat : (Cond.native arraycopyName).before args s = true) (hstat : (Cond.static arraycopyName).before args s = true) (hini : (Cond.initialized "java/lang/System").before args s = true)
    (hK : va_K D sm_cl (sm_tys cA) s) (hW : sm_W D cA g B Ln xs h H) (hS : va_S (fun q => B ≤ q) H0 H locs) (hf : (am_S h)[f]? = some (9, nf)) (ht : (am_S h)[t]? = some (9, nt)) (h1 : ¬ sp < 0) (h2 : ¬ dp < 0) (h3 : ¬ n < 0) (h4 : sp.toNatClampNeg + n.toNatClampNeg ≤ nf) (h5 : dp.toNatClampNeg + n.toNatClampNeg ≤ nt)
    (hframes : 1 ≤ R.frames) (hlocals : (rest.map fun v => v.category).sum + (nativeFrameWords "java/lang/System" "arraycopy" 5 + 11) ≤ R.locals) (hdg : decode cc pc = .ok (.invokestatic index, 3))
    (kk : ∀ (H1 : Heap) (locs1 : List Loc), sm_W D cA g B Ln xs (am_rI h t (va_cpy (am_I h f) (am_I h t) sp.toNatClampNeg dp.toNatClampNeg n.toNatClampNeg)) H1 → va_S (fun q => B ≤ q) H0 H1 locs1 → W p l e R s m args below meth c H1 locs1 cells slots Q (F0 m (pc + 3) ls rest)) : W p l e R s m args below meth c H locs cells slots Q (F0 m pc ls (.int n :: .int dp :: .ref (g t) :: .int sp :: .ref (g f) :: rest)) := by
  have nn : ∀ z : Int32, ¬ z < 0 → z.toInt = (z.toNatClampNeg : Int) := by
    intro z hz
    have hz0 : (0 : Int) ≤ z.toInt := by
      have := Int32.not_lt.mp hz
      simpa using Int32.le_iff_toInt_le.mp this
    show z.toInt = ((z.toInt.toNat : Nat) : Int)
    omega
  intro Ts hT X
  have hc0 := sm_cell_i hW hf (Or.inl rfl)
  have hc1 := sm_cell_i hW ht (Or.inl rfl)
  obtain ⟨-, k0, hk0, cm0, hkk0⟩ := (hK.2 0 _ rfl).1 nf (fun j => .int (am_I h f j))
  obtain ⟨-, k1, hk1, cm1, hkk1⟩ := (hK.2 0 _ rfl).1 nt (fun j => .int (am_I h t j))
  obtain ⟨vm', X', step⟩ := X.arraycopy hx hown hlink hnat hstat hini (src := g f) (dst := g t) (cs := arrV (cA 9) nf (fun j => .int (am_I h f j))) (cd := arrV (cA 9) nt (fun j => .int (am_I h t j))) (srcPos := sp) (destPos := dp) (n := n) (by rw [hT]; exact hc0) (by rw [hT]; exact hc1)
    (fun _ h => by cases h) (fun _ h => by cases h) (fun h => by cases h) (fun h => by cases h) hk0 hk1 hkk0 hkk1 (by simp [refKind]) h1 h2 h3
    (by rw [nn sp h1, nn n h3, arrV_size]; omega)
    (by rw [nn dp h2, nn n h3, arrV_size]; omega)
    (fun vm₁ _ i hi => by
      have e : (arrV (cA 9) nf (fun j => .int (am_I h f j))).slots.getD (sp.toNatClampNeg + i) .null = .int (am_I h f (sp.toNatClampNeg + i)) := by
        rw [Array.getD_eq_getD_getElem?, arrV_read _ _ (by omega)]
        rfl
      refine ⟨?_, ?_⟩
      · rw [e]; rfl
      · rw [e]; exact trivial)
    (g := F0 m pc ls (.int n :: .int dp :: .ref (g t) :: .int sp :: .ref (g f) :: rest)) rfl (by rw [hml]) (rest := rest) rfl (by rw [hb]; exact hdg) hframes (by show 2 * 0 + _ + _ ≤ _; omega)
  have e1 : copied (arrV (cA 9) nf (fun j => .int (am_I h f j))) (arrV (cA 9) nt (fun j => .int (am_I h t j))) sp dp n = arrV (cA 9) nt (fun j => .int (va_cpy (am_I h f) (am_I h t) sp.toNatClampNeg dp.toNatClampNeg n.toNatClampNeg j)) := va_copied (fun z => .int z) (cA 9) (cA 9) (am_I h f) (am_I h t) h4
  rw [e1] at X' step
  have hl : g t < H.size := (Array.getElem?_eq_some_iff.mp hc1).1
  have oq : ∀ q : Nat, q ≠ g t → (H.setIfInBounds (g t) (arrV (cA 9) nt (fun j => .int (va_cpy (am_I h f) (am_I h t) sp.toNatClampNeg dp.toNatClampNeg n.toNatClampNeg j))))[q]? = H[q]? := fun q hq => by simp [Array.getElem?_setIfInBounds, Ne.symm hq]
  have hne : ∀ i, i ≠ t → sm_ce cA g (am_rI h t (va_cpy (am_I h f) (am_I h t) sp.toNatClampNeg dp.toNatClampNeg n.toNatClampNeg)) i = sm_ce cA g h i := fun i hi => sm_ce_congr rfl (am_rw_ne hi) rfl rfl
  have hat : va_at D sm_cl (g t, sm_ce cA g (am_rI h t (va_cpy (am_I h f) (am_I h t) sp.toNatClampNeg dp.toNatClampNeg n.toNatClampNeg)) t) (H.setIfInBounds (g t) (arrV (cA 9) nt (fun j => .int (va_cpy (am_I h f) (am_I h t) sp.toNatClampNeg dp.toNatClampNeg n.toNatClampNeg j)))) := by
    rw [sm_ce_a (h := am_rI h t (va_cpy (am_I h f) (am_I h t) sp.toNatClampNeg dp.toNatClampNeg n.toNatClampNeg)) (k := 9) (n := nt) ht (by omega)]
    have e9 : am_I (am_rI h t (va_cpy (am_I h f) (am_I h t) sp.toNatClampNeg dp.toNatClampNeg n.toNatClampNeg)) t = va_cpy (am_I h f) (am_I h t) sp.toNatClampNeg dp.toNatClampNeg n.toNatClampNeg := am_rw_eq
    show (H.setIfInBounds (g t) _)[g t]? = some (arrV (cA 9) nt (fun j => .int (am_I (am_rI h t (va_cpy (am_I h f) (am_I h t) sp.toNatClampNeg dp.toNatClampNeg n.toNatClampNeg)) t j)))
    rw [e9]
    simp [Array.getElem?_setIfInBounds, hl]
  have h0 : t ≠ 0 := sm_ne0 hW.2.1 ht (by omega)
  obtain ⟨w1, -⟩ := sm_stored (h' := am_rI h t (va_cpy (am_I h f) (am_I h t) sp.toNatClampNeg dp.toNatClampNeg n.toNatClampNeg)) (j := 0) hg hlen hW hS ht (by omega) rfl rfl (am_rw_ne (fun e => h0 e.symm)) hne hat (by simp) oq
  have hA : B ≤ g t := (sm_D (cA := cA) hg.1 hlen).2 _ _ (sm_at ht h0)
  obtain ⟨t9, a1, b1⟩ := kk _ _ w1 ⟨by simp; exact hS.1, fun q g1 g2 => by
      rw [oq q (fun e => g2 (by rw [e]; exact hA))]
      exact hS.2.1 q g1 g2, fun q hq => by
      rcases List.mem_append.mp hq with h | h
      · exact hS.2.2 q h
      · obtain ⟨z, -, hz⟩ := List.mem_map.mp h
        rw [← hz]
        exact hA⟩ _ (by rw [← hT]; rfl) X'
  exact ⟨t9, step t9 a1, b1⟩
end NW
