/-! ===== throwing a class whose constructor calls by another place (the starting texts' laws with the kit's ownAtomsX) ===== -/
def vx_atSX (own : String) (ic : Nat) (X : String) (ix : Nat) (rx : ByteArray) (names : List String) : List Cond := (Bundle.ownAtomsX own ic X ix rx names).filter vx_no
section VXKX
variable {p : Program} {l : Launch} {e : Env} {R : Room} {s : State} {m₀ : MethodId} {args : Array Value} {below : List Frame} {meth : Method} {c : Code} {W : State} {locs : List Loc} {cells slots : Nat}
set_option maxHeartbeats 1000000 in
theorem vx_ctorMadeSX (X : Stand p l e R s m₀ args below meth c W locs cells slots) (hexec : p.tables.exec = Jvm.exec) (htr : e.platform.stackTraces = false) {own cls : String} {names : List String} {ic ix : Nat} {rx : ByteArray} (x0 : decode rx 0 = .ok (.aload_n 0, 1)) (x1 : decode rx 1 = .ok (.aload_n 1, 1)) (x2 : decode rx 2 = .ok (.invokespecial ix, 3)) (x5 : decode rx 5 = .ok (.return_, 1))
    (hown : s.vm.findClass own = some m₀.cls) (hcls : Bundle.fit cls = true) (hnames : ∀ n ∈ names, Bundle.fit n = true)
    (h : ∀ a ∈ Bundle.ownAtomsX own ic cls ix rx names, a.before args s = true)
    (hlocs : ∀ x ∈ locs, ∀ cell, s.heap[x.base]? = some cell → cell.vm.isStatics = false)
    {a : Addr} {cX : ClassId} {kX : Class} (hfoundX : s.vm.findClass cls = some cX) (hkX : s.vm.classes[cX]? = some kX) (hcell : W.heap[a]? = some (freshCell cX kX)) (hnew : s.heap.size ≤ a)
    {msg : Value} (hmsg : msg.isRef = true)
    {g : JFrame} (hg : g.method = m₀) (hsize : g.locals.size = c.maxLocals) {rest : List Value} (hstack : g.stack = msg :: .ref a :: .ref a :: rest)
    (hd6 : decode c.code g.pc = .ok (.invokespecial ic, 3))
    (hRframes : names.length + 3 < R.frames) (hRlocals : 2 * g.monitorRoom + ((Value.ref a :: rest).map fun v => v.category).sum + (13 * (names.length + 1) + 42) ≤ R.locals) :
    ∃ (V : State) (ce : Cell) (L : List Loc), Stand p l e R s m₀ args below meth c (V.setCell a ce) (locs ++ L) cells slots ∧ (∀ y ∈ L, y.base = a) ∧ a < V.heap.size ∧ ce.cls = cX ∧ ce.vm = .none ∧
      ∀ target, Steps p.tables e below ((V.setCell a ce).setTop { g with stack := .ref a :: rest, pc := g.pc + 3 }) target → Steps p.tables e below (W.setTop g) target := by
  have howns : e.platform.frameOwnsMonitors = true := by rw [X.admits.platform]
  have hfin : e.platform.finalization = false := by rw [X.admits.platform]
  have hpl : e.platform.magicAccessors = ({} : Platform).magicAccessors := by rw [X.admits.platform]
  have a' : ∀ x, x ∈ Bundle.ownAtomsX own ic cls ix rx names → x.holds args s none s [] = true := fun x hx => h x hx
  obtain ⟨T, Z0, L, -, Y⟩ := ThrowableC.of_atoms (args := args) howns hfin hpl (fun x hx => h x (by simp [Bundle.ownAtomsX, hx]))
  obtain ⟨Z, M, LZ, LM, hnZ⟩ := Init0T.ofS_atoms (args := args) hpl L Y (fun x hx => h x (by simp [Bundle.ownAtomsX, hx]))
  obtain ⟨P1, Ps, hlen, L1, hL, hP1m, hlink1, hlink⟩ := Bundle.chainSX (args := args) hpl hnZ x0 x1 x2 x5 names cls hcls hnames (fun x hx => h x (by simp [Bundle.ownAtomsX, hx]))
  have hfound : s.vm.findClass cls = some P1.m.cls := findClass_of_methodNamed hP1m
  cases Option.some.inj (hfoundX.symm.trans hfound)
  obtain ⟨c1, kX', hc1, hk, hord, -, -, hn6⟩ := Cond.instantiable_spec (a' (.instantiable cls 6) (by simp [Bundle.ownAtomsX]))
  cases Option.some.inj (hc1.symm.trans hfound)
  cases Option.some.inj (hkX.symm.trans hk)
  have hsel0 : selectMethod e.platform s.vm P1.m.cls T.fill0 = .method T.fill0 := by
    obtain ⟨c2, r2, m2, q1, q2, q3, q4, -⟩ := Cond.selects_spec (a' (.selects cls Bundle.tFill0 Bundle.tFill0) (by simp [Bundle.ownAtomsX]))
    cases Option.some.inj (q1.symm.trans hfound)
    cases Option.some.inj (q2.symm.trans (State.methodFound?_of_named Y.fill0 (by decide)))
    cases Option.some.inj (q3.symm.trans Y.fill0)
    rw [Launch.admits_selectMethod X.admits]; exact q4
  have hselF : selectMethod e.platform s.vm P1.m.cls T.fill = .method T.fill := by
    obtain ⟨c2, r2, m2, q1, q2, q3, q4, -⟩ := Cond.selects_spec (a' (.selects cls Bundle.tFill Bundle.tFill) (by simp [Bundle.ownAtomsX]))
    cases Option.some.inj (q1.symm.trans hfound)
    cases Option.some.inj (q2.symm.trans (State.methodFound?_of_named Y.fill (by decide)))
    cases Option.some.inj (q3.symm.trans Y.fill)
    rw [Launch.admits_selectMethod X.admits]; exact q4
  obtain ⟨cellS0, hcS0, hiss⟩ := Y.statics
  obtain ⟨u0, hu0⟩ := Cond.staticRefV Y.unassigned L.unassignedStatic L.statics hcS0 hiss (a' (.isRef (.static Bundle.tN "UNASSIGNED_STACK" Bundle.steD)) (by simp [Bundle.ownAtomsX]))
  obtain ⟨sen, hsen⟩ := Cond.staticRefV Y.sentinel L.sentinelStatic L.statics hcS0 hiss (a' (.isRef (.static Bundle.tN "SUPPRESSED_SENTINEL" Bundle.listD)) (by simp [Bundle.ownAtomsX]))
  obtain ⟨ci198, i198, fB, hk198, hg198, ha198, hsB, -, hnB, htB, hffB⟩ := Cond.ownField (t := .object "java/lang/Object") Y.found L.cls (by decide +kernel) (a' (.fieldLink Bundle.tN 198 Bundle.tN "backtrace" "Ljava/lang/Object;") (by simp [Bundle.ownAtomsX])) (a' (.lays Bundle.tN Bundle.tN "backtrace" "Ljava/lang/Object;") (by simp [Bundle.ownAtomsX])) e.platform hpl
  obtain ⟨cellS, hcS', heS, -, hkeep⟩ := X.same.2.2.2.2.2 T.aS cellS0 hcS0
  have hcellS : W.heap[T.aS]? = some cellS := hcS'
  have hout' : ∀ i, (⟨T.aS, i⟩ : Loc) ∉ locs := fun i hmem => by
    have := hlocs _ hmem cellS0 hcS0
    rw [hiss] at this; cases this
  have hknownS : cellS.vm ≠ .unknown := by
    rw [heS]; intro hu
    rw [show cellS0.vm = .unknown from hu] at hiss
    cases hiss
  have hneS : T.aS ≠ a := Nat.ne_of_lt (Nat.lt_of_lt_of_le (Array.getElem?_eq_some_iff.mp hcS0).1 hnew)
  obtain ⟨iM, hffM⟩ := Y.msg
  obtain ⟨tyC, dC, hdC, hdnC⟩ := Cond.laysAt hfound hk Y.cause (a' (.lays cls Bundle.tN "cause" "Ljava/lang/Throwable;") (by simp [Bundle.ownAtomsX]))
  obtain ⟨tyS, dS, hdS, hdnS⟩ := Cond.laysAt hfound hk Y.stack (a' (.lays cls Bundle.tN "stackTrace" Bundle.steD) (by simp [Bundle.ownAtomsX]))
  obtain ⟨tyP, dP, hdP, hdnP⟩ := Cond.laysAt hfound hk Y.supp (a' (.lays cls Bundle.tN "suppressedExceptions" Bundle.listD) (by simp [Bundle.ownAtomsX]))
  obtain ⟨tyM, dM, hdM, hdnM⟩ := Cond.laysAt hfound hk hffM (a' (.lays cls Bundle.tN "detailMessage" "Ljava/lang/String;") (by simp [Bundle.ownAtomsX]))
  obtain ⟨tyB, dB, hdB, hdnB⟩ := Cond.laysAt hfound hk hffB (a' (.lays cls Bundle.tN "backtrace" "Ljava/lang/Object;") (by simp [Bundle.ownAtomsX]))
  have bC := Cond.laysApart hdB hdC hdnB hdnC (by rw [hnB, Y.causeName]; decide)
  have bS := Cond.laysApart hdB hdS hdnB hdnS (by rw [hnB, Y.stackName]; decide)
  have bP := Cond.laysApart hdB hdP hdnB hdnP (by rw [hnB, Y.suppName]; decide)
  have hskip : SkipFacts T e.platform s (fun u => u) u0 ((preparedCellV T.toThrowableT (freshCell P1.m.cls kX) a u0 sen).withEntry W.cur) :=
    ⟨{ ci198 := ci198, i198 := i198, fBack := fB }, ⟨hk198, hg198, ha198, hsB⟩, by
      have := fresh_default (c := P1.m.cls) tyB
      rw [htB] at this
      simpa [preparedCellV, Cell.setSlot, Cell.withEntry, Array.getElem?_setIfInBounds, bC, bS, bP, bC.symm, bS.symm, bP.symm, defaultValue] using this, fun _ _ => rfl⟩
  obtain ⟨tm, methC, cdC, kC, vm₁, hnC, -, -, -, -, -, -, -, hW₁, st1⟩ := Steps.initColdS (tb := p.tables) (e := e) (below := below) (s := s) (U := W) X.here hexec X.warmed hpl hown (t := Bundle.initS cls) rfl rfl (Bundle.fit_spec hcls).2
    (a' (.methodLink own ic (Bundle.initS cls)) (by simp [Bundle.ownAtomsX])) (h (.instanceMethod (Bundle.initS cls)) (by cases names <;> simp [Bundle.ownAtomsX, Bundle.chainSAtomsX, Bundle.passSAtoms])) (bytes := rx) (maxL := 2) (h (.code (Bundle.initS cls) rx 2 none) (by cases names <;> simp [Bundle.ownAtomsX, Bundle.chainSAtomsX, Bundle.passSAtoms]))
    (f := g) hg (a := a) (msg := msg) (rest := .ref a :: rest) hstack hd6
  cases Option.some.inj (hnC.symm.trans hP1m)
  have X₁ := X.noted hW₁
  obtain ⟨vm₂, X₂, st2⟩ := X₁.ctorMessageOffV hexec (g := { g with stack := .ref a :: rest }) hg hsize T L Z LZ M LM (P1 :: Ps)
    (fun P hP => by rcases List.mem_cons.mp hP with rfl | hP; exact L1; exact hL P hP) ⟨hlink1, hlink⟩ (u0 := u0) (sen := sen) (self := a) hmsg (cell := freshCell P1.m.cls kX) (cellS := cellS)
    hcell (fun _ => by simp) (by simp) rfl rfl hsel0 hselF hcellS hneS hknownS (by rw [hkeep _ (hout' _)]; exact hu0) (by rw [hkeep _ (hout' _)]; exact hsen)
    (Takes.of_laid hk hord tyC (by rw [Y.causeType]; rfl)) (Takes.of_laid hk hord tyS (by rw [Y.stackType]; exact fits_refV_array _ u0)) (Takes.of_laid hk hord tyP (by rw [Y.suppType]; exact fits_refV_object _ sen))
    (Takes.of_laid hk hord tyM (by rw [Y.msgType]; exact fits_refV_object _ ⟨msg, hmsg⟩)) Y.objLocals hskip htr [] hd6
    (by simp only [List.length_cons, hlen]; omega) (by simp only [List.length_cons, hlen]; exact hRlocals)
  have hlt : a < ((W.setVm vm₁).setVm vm₂).heap.size := (Array.getElem?_eq_some_iff.mp hcell).1
  refine ⟨(W.setVm vm₁).setVm vm₂, _, _, X₂, fun y hy => ?_, hlt, rfl, rfl, fun target hwalk => st1 _ (fun acts => ?_)⟩
  · simp only [List.mem_cons, List.not_mem_nil, or_false] at hy
    rcases hy with rfl | rfl | rfl | rfl | rfl <;> rfl
  · rw [doInvoke_state]
    exact st2 _ hwalk
end VXKX
section VXKY
variable {p : Program} {l : Launch} {e : Env} {R : Room} {s : State} {m : MethodId} {args : Array Value} {below : List Frame} {meth : Method} {c : Code} {H : Heap} {locs : List Loc} {cells slots : Nat} {Q : State → Prop}
variable {mc ms : Nat} {free : Addr → Prop} {A0 A1 : Nat → Prop} {H0 : Heap} {a : Array Value} {ls : Array Slot} {st0 rest : List Value}
variable {Qc : Array Value → State → Outcome → State → Prop} {XC : String → State → State → Prop}
theorem vx_throwSWX {cc : ByteArray} {pc : Nat} (hexec : p.tables.exec = Jvm.exec) (hb : c.code = cc) (hl : l.stackTraces = false) {own cls text : String} {names : List String} {ik is ic ix mc ms sa : Nat} {rx : ByteArray} (x0 : decode rx 0 = .ok (.aload_n 0, 1)) (x1 : decode rx 1 = .ok (.aload_n 1, 1)) (x2 : decode rx 2 = .ok (.invokespecial ix, 3)) (x5 : decode rx 5 = .ok (.return_, 1)) {A : Nat → Prop}
    (hown : s.vm.findClass own = some m.cls) (hcls : Bundle.fit cls = true) (hnames : ∀ n ∈ names, Bundle.fit n = true)
    (hk : (Cond.classLink own ik cls).before args s = true) (hini : (Cond.initialized cls).before args s = true) (hstr : vk_R own is text sa s) (hat : ∀ w ∈ vx_atSX own ic cls ix rx names, w.before args s = true)
    (hgood : ∀ w ∈ Cond.classLink own ik cls :: Cond.initialized cls :: vx_atSX own ic cls ix rx names, vx_ot w = true)
    (hU : vx_Zq Bundle.tN "UNASSIGNED_STACK" Bundle.steD A s s.heap) (hN : vx_Zq Bundle.tN "SUPPRESSED_SENTINEL" Bundle.listD A s s.heap) (hS : va_S A s.heap H locs) (hsize : ls.size = c.maxLocals)
    (d0 : decode cc pc = .ok (.new ik, 3)) (d3 : decode cc (pc + 3) = .ok (.dup, 1)) (d4 : decode cc (pc + 4) = .ok (.ldc_w is, 3)) (d7 : decode cc (pc + 7) = .ok (.invokespecial ic, 3)) (d10 : decode cc (pc + 10) = .ok (.athrow, 1))
    (hout : ∀ x ∈ c.exceptionTable.toList, covers x (pc + 10) = false)
    (hRframes : names.length + 3 < R.frames) (hRlocals : (rest.map fun v => v.category).sum + (13 * (names.length + 1) + 43) ≤ R.locals) (hRcells : cells + 1 ≤ R.cells) (hRslots : slots + 6 ≤ R.slots) (hlocks : meth.locks = false)
    (hx : ∀ t : State, s.vm.Alike t.vm → H.size ≤ t.heap.size → (∀ q : Nat, q < H.size → t.heap[q]? = H[q]?) → XC cls s t)
    (hf : ∀ z ∈ locs, free z.base) (hc : cells + 1 ≤ mc) (hs : slots + 6 ≤ ms) :
    W p l e R s m args below meth c H locs cells slots (vx_MQ below Qc XC args s mc ms free) (F0 m pc ls rest) := by
  intro T hT X
  have htr : e.platform.stackTraces = false := (show e.platform.stackTraces = l.stackTraces by rw [X.admits.platform]).trans hl
  have Y := vx_rebase X (R' := { frames := R.frames, locals := R.locals, cells := 1, slots := 6 }) (Nat.le_refl _) (Nat.le_refl _) hRcells hRslots
  obtain ⟨s', hA⟩ : ∃ z, z = (T.setVm s.vm).setFrames (.invoking m args :: below) := ⟨_, rfl⟩
  rw [← hA] at Y
  have hvm : s'.vm = s.vm := by rw [hA]; rfl
  have hhp : s'.heap = H := by rw [hA]; exact hT
  have hW0 : s.WarmedH s'.vm := by rw [hvm]; exact State.WarmedH.refl s
  have hat' : ∀ w ∈ vx_atSX own ic cls ix rx names, w.before args s' = true := fun w hw => vx_ot_at hW0 hvm.symm (hgood w (List.mem_cons_of_mem _ (List.mem_cons_of_mem _ hw))) (hat w hw)
  have hk' : (Cond.classLink own ik cls).before args s' = true := vx_ot_at hW0 hvm.symm (hgood _ List.mem_cons_self) hk
  have hini' : (Cond.initialized cls).before args s' = true := vx_ot_at hW0 hvm.symm (hgood _ (List.mem_cons_of_mem _ List.mem_cons_self)) hini
  have hU' : vx_Zq Bundle.tN "UNASSIGNED_STACK" Bundle.steD A s' s'.heap := by rw [hhp]; exact vx_Zq.moved hW0.alike (hU.kept hS.2.1)
  have hN' : vx_Zq Bundle.tN "SUPPRESSED_SENTINEL" Bundle.listD A s' s'.heap := by rw [hhp]; exact vx_Zq.moved hW0.alike (hN.kept hS.2.1)
  have h : ∀ w ∈ Bundle.ownAtomsX own ic cls ix rx names, w.before args s' = true := vx_own hat' (vx_isRefq hU'.1) (vx_isRefq hN'.1) hU'.2.word hN'.2.word
  have hown' : s'.vm.findClass own = some m.cls := by rw [hvm]; exact hown
  have hins : (Cond.instantiable cls 6).before args s' = true := h _ (by simp [Bundle.ownAtomsX])
  obtain ⟨vm₁, cX, kX, hfX, hkX, -, -, X₁, st1⟩ := Y.newCold hexec (own := own) (C := cls) (index := ik) (n := 6) hown' hk' hins hini'
    (g := F0 m pc ls rest) rfl (by rw [hb]; exact d0) (Nat.le_refl _) (Nat.le_refl _)
  generalize hT1 : (T.setVm vm₁).pushCell { cls := cX, slots := kX.instanceTypes.map defaultValue, vm := .none } = T1 at X₁ st1
  have hcat : (Value.ref T.heap.size).category = 1 := rfl
  have hcellA : T1.heap[T.heap.size]? = some (freshCell cX kX) := by rw [← hT1]; exact State.heap_pushCell_size _ _
  have d3' : decode c.code (pc + 3) = .ok (.dup, 1) := by rw [hb]; exact d3
  have d4' : decode c.code (pc + 4) = .ok (.ldc_w is, 3) := by rw [hb]; exact d4
  have hstr' : vk_R own is text sa s' := vk_R.warm hW0 hstr
  obtain ⟨V, ce, L, Z, hL, hlt, hcl9, hvm9, st⟩ := vx_ctorMadeSX X₁ hexec htr (own := own) (cls := cls) (names := names) (ic := ic) x0 x1 x2 x5 hown' hcls hnames h (fun x hx => nomatch hx) hfX hkX hcellA (by rw [hhp, hT]; exact Nat.le_refl _) (msg := .ref sa) rfl
    (g := { method := m, pc := pc + 7, locals := ls, stack := .ref sa :: .ref T.heap.size :: .ref T.heap.size :: rest, locked := none }) rfl hsize (rest := rest) rfl
    (by rw [hb]; exact d7) hRframes (by simp only [List.map_cons, List.sum_cons, hcat]; omega)
  have Z0 := Stand.forget (locs := []) Z (fun y hy => by rw [hL y hy, hhp, hT]; exact Nat.le_refl _)
  obtain ⟨hwalk, hrun, hend, hW, hsame⟩ := Z0.athrowLeaves hexec (g := { method := m, pc := pc + 10, locals := ls, stack := .ref T.heap.size :: rest, locked := none }) rfl rfl rfl hout (a := T.heap.size) (rest := rest) rfl (by rw [hb]; exact d10) hlocks
  have hsteps := st _ hwalk
  have hce : (V.setCell T.heap.size ce).heap[T.heap.size]? = some ce := heapAt_setCell_self (s := V) ce hlt
  generalize hU9 : (V.setCell T.heap.size ce).setFrames (.throwing T.heap.size :: below) = U at hsteps hrun hend hW hsame
  have hce : U.heap[T.heap.size]? = some ce := by rw [← hU9]; exact hce
  obtain ⟨f1, f2⟩ := vx_frame hsame
  rw [hhp] at f1 f2
  have hWs : s.WarmedH U.vm := State.WarmedH.trans hW0 hW
  have hcl : s.vm.findClass cls = some ce.cls := by
    rw [hvm] at hfX
    rw [hcl9]
    exact hfX
  have hall : s.sameButNew ({ U with vm := s.vm } : State) locs mc ms := by
    subst hA
    obtain ⟨e1, e2⟩ := hsame
    rw [State.setFrames_setFrames] at e1
    have h2 : (T.setVm s.vm).sameButNew ({ U with vm := s.vm } : State) [] (0 + 1) (0 + 6) := ⟨e1, e2⟩
    have h3 := X.same.trans h2
    rw [List.append_nil] at h3
    exact h3.mono hc hs
  refine ⟨U, ?_, .threw T.heap.size, hrun, hend, Or.inr ⟨T.heap.size, rfl, cls, ce, locs, hx U hWs.alike f1 (fun q hq => f2 q hq (fun z hz => nomatch hz)), hce, hvm9, hcl, hWs, hall, hf⟩⟩
  refine st1 _ ?_
  show Steps p.tables e below (T1.setTop { method := m, pc := pc + 3, locals := ls, stack := .ref T.heap.size :: rest, locked := none }) _
  jvm_step X₁.here [X₁.here.top, hexec, d3', Value.category]
  exact X₁.ldcStringW hexec (own := own) (text := text) (index := is) (a := sa) hown' hstr'.1 hstr'.2
    (g := { method := m, pc := pc + 4, locals := ls, stack := .ref T.heap.size :: .ref T.heap.size :: rest, locked := none }) rfl d4' _ hsteps
end VXKY
/-! ===== the frame of the simulation: the tables' words, what stands around the world, contracts ===== -/
def sm_TB : List Cond := lw_tbl.filter goodWord
/-- exceptions by their numbers -/
def sm_ex (x : Nat) : String := match x with
  | 0 => "java/util/NoSuchElementException"
  | 1 => "java/lang/IllegalArgumentException"
  | _ => "java/lang/IllegalStateException"
/-- String constants: class, place in its pool, text, its address here -/
def sm_str : List (String × Nat × String × Nat) := [(RX8, 148, "top", 1000000), (RX8, 154, "nothing", 1000001), (RX8, 156, "some", 1000002), (RX7, 373, "no such thing", 1000003), (RX7, 380, "wrong argument", 1000004), (RX7, 385, "a name is void", 1000005)]
def sm_nst : List (String × Nat × MethodName × String) := [(RX7, 67, yX0_init, "LightClassifier"), (RX7, 90, yX1_init, "LightClassifier")]
def sm_dcl : List MethodName := [Bundle.initS "java/lang/RuntimeException", Bundle.initS "java/lang/Exception", Bundle.initS Bundle.tN]
def sm_len : List Nat := [3, 7, 4]
def sm_byt : List (List Int32) := [[116, 111, 112], [110, 111, 116, 104, 105, 110, 103], [115, 111, 109, 101]]
/-- what stands around the world and stays -/
def sm_A (D : va_G) (cA : Nat → ClassId) (g : Nat → Nat) (B b Ln : Nat) (xs : Nat → Int32) (adV : Nat → Nat) (U : State) (H : Heap) : Prop :=
  va_K D sm_cl (sm_tys cA) U ∧ va_X b Ln xs U H ∧ vk_S 3 sm_len sm_byt (fun i => g (1000000 + i)) adV (fun q => B ≤ q) U H ∧
  vx_Zq Bundle.tN "UNASSIGNED_STACK" Bundle.steD (fun q => B ≤ q) U H ∧ vx_Zq Bundle.tN "SUPPRESSED_SENTINEL" Bundle.listD (fun q => B ≤ q) U H ∧
  (∀ q ∈ sm_str, vk_R q.1 q.2.1 q.2.2.1 (g q.2.2.2) U) ∧ (∀ q ∈ sm_nst, va_Nw (.methodLinkNest q.1 q.2.1 q.2.2.1 q.2.2.2) U) ∧
  (Cond.arrayOver (.array .int)).before #[] U = true ∧ (Cond.arrayOver (.array .long)).before #[] U = true ∧
  ((∀ x, x < 3 → va_Nw (.castable (sm_ex x) (sm_ex x)) U) ∧ ∀ x ∈ sm_dcl, va_Nw (.declares x) U) ∧ (∀ x y, x < 3 → y < 3 → x ≠ y → va_Nc (sm_ex x) (sm_ex y) U) ∧
  va_Z "java/lang/String" "COMPACT_STRINGS" "Z" (.int 1) (fun q => B ≤ q) U H ∧ va_Zq "jdk/internal/util/Preconditions" "SIOOBE_FORMATTER" "Ljava/util/function/BiFunction;" (fun q => B ≤ q) U H
/-- the world -/
def sm_W (D : va_G) (cA : Nat → ClassId) (g : Nat → Nat) (B Ln : Nat) (xs : Nat → Int32) (h : am_H) (H : Heap) : Prop :=
  va_P D sm_cl (sm_ws cA g h) H ∧ (am_S h)[0]? = some (15, Ln) ∧ am_I h 0 = xs ∧ (am_G h = 0 → H.size + 1 = B + (am_S h).length) ∧ B ≤ H.size ∧ ∀ o c n : Nat, (am_S h)[o]? = some (c, n) → c ≤ 14 ∨ (c = 15 ∧ o = 0)
/-- the addresses -/
def sm_G (g : Nat → Nat) (B b : Nat) : Prop := (∀ i, 1 ≤ i → i ≤ 900001 → g i = B + (i - 1)) ∧ g 0 = b ∧ b < B
theorem sm_A.at {D : va_G} {cA : Nat → ClassId} {g : Nat → Nat} {B b Ln : Nat} {xs : Nat → Int32} {adV : Nat → Nat} {s U : State} {H : Heap} {locs : List Loc} (hA : sm_A D cA g B b Ln xs adV s s.heap) (hS : va_S (fun q => B ≤ q) s.heap H locs) (hb : b < B) (hB : B ≤ s.heap.size) (hU : U.heap = H) (hW : s.WarmedH U.vm) : sm_A D cA g B b Ln xs adV U U.heap := by
  obtain ⟨h1, h2, h3, h4, h5, h6, h7, h8, h9, h10, h11, h12, h13⟩ := hA
  have hq : ∀ a : Nat, a < s.heap.size → ¬ B ≤ a → U.heap[a]? = s.heap[a]? := fun a ha hn => by rw [hU]; exact hS.2.1 a ha hn
  refine ⟨va_K.moved hW.alike h1, (h2.kept (hq b (by omega) (by omega))).moved hW.alike, (h3.kept hq).moved hW.alike, (h4.kept hq).moved hW.alike, (h5.kept hq).moved hW.alike, fun q hm => (h6 q hm).warm hW, fun q hm => va_Nw.warmM hW (h7 q hm), ?_, ?_, ⟨fun x hx => va_Nw.warmC hW (h10.1 x hx), fun x hx => va_Nw.warmD hW (h10.2 x hx)⟩, fun x y hx hy hn => (h11 x y hx hy hn).moved hW.alike, (h12.kept hq).moved hW.alike, (h13.kept hq).moved hW.alike⟩
  · exact (Cond.arrayOver_setVmC (args := #[]) hW.alike (.array .int)).trans h8
  · exact (Cond.arrayOver_setVmC (args := #[]) hW.alike (.array .long)).trans h9
theorem sm_A.blind {D : va_G} {cA : Nat → ClassId} {g : Nat → Nat} {B b Ln : Nat} {xs : Nat → Int32} {adV : Nat → Nat} {U : State} {gf : JFrame} {mk : MethodId} {a : Array Value} (hA : sm_A D cA g B b Ln xs adV U U.heap) : sm_A D cA g B b Ln xs adV (U.calling gf mk a) (U.calling gf mk a).heap := by
  obtain ⟨h1, h2, h3, h4, h5, h6, h7, h8, h9, h10, h11, h12, h13⟩ := hA
  have e : U.vm.Alike (U.calling gf mk a).vm := Vm.Alike.refl U.vm
  exact ⟨va_K.moved e h1, va_X.moved e h2, vk_S.moved e h3, vx_Zq.moved e h4, vx_Zq.moved e h5, fun q hm => (h6 q hm).same rfl, fun q hm => (h7 q hm).same rfl rfl, h8, h9, ⟨fun x hx => (h10.1 x hx).same rfl rfl, fun x hx => (h10.2 x hx).same rfl rfl⟩, fun x y hx hy hn => (h11 x y hx hy hn).moved e, va_Z.moved e h12, va_Zq.moved e h13⟩
/-- a method: its class, name, code, locals, answer, table -/
abbrev sm_M : Type := String × MethodName × ByteArray × Nat × Option FieldType × Option (List (Nat × Nat × Nat × Nat))
def sm_hw (q : sm_M) : Cond := match q.2.2.2.2.2 with
  | none => .code q.2.1 q.2.2.1 q.2.2.2.1 q.2.2.2.2.1
  | some hh => .codeWith q.2.1 q.2.2.1 q.2.2.2.1 q.2.2.2.2.1 hh
def sm_rm (d mc ms : Nat) : Room := { frames := d + 20, cells := mc, slots := ms, locals := 64 * d + 400 }
def sm_Q (D : va_G) (cA : Nat → ClassId) (g : Nat → Nat) (B Ln : Nat) (xs : Nat → Int32) (r : am_R) : Array Value → State → Outcome → State → Prop := fun _ st o t =>
  ∃ v, r.1 = .inr v ∧ o = .returned (v.map (sm_v g)) ∧ sm_W D cA g B Ln xs r.2 t.heap ∧ va_F (fun q => B ≤ q) st t
def sm_X (D : va_G) (cA : Nat → ClassId) (g : Nat → Nat) (B Ln : Nat) (xs : Nat → Int32) (r : am_R) : String → State → State → Prop := fun E st t =>
  ∃ x, r.1 = .inl x ∧ x < 3 ∧ E = sm_ex x ∧ sm_W D cA g B Ln xs r.2 t.heap ∧ va_F (fun q => B ≤ q) st t
def sm_Pc (D : va_G) (cA : Nat → ClassId) (g : Nat → Nat) (B b Ln : Nat) (xs : Nat → Int32) (adV : Nat → Nat) (As : List Value) (h : am_H) : Array Value → State → Prop :=
  va_Pc (As.map (sm_v g)) (fun U => sm_W D cA g B Ln xs h U.heap ∧ sm_A D cA g B b Ln xs adV U U.heap)
/-- what is proved of a method at depth d -/
def sm_ct (D : va_G) (cA : Nat → ClassId) (g : Nat → Nat) (B b Ln : Nat) (xs : Nat → Int32) (adV : Nat → Nat) (MI : Nat → Option sm_M) (l : Launch) (d k : Nat) (As : List Value) (h : am_H) (r : am_R) : Prop :=
  ∀ q, MI k = some q → ∀ mc ms, am_nc h + mc = am_nc r.2 → am_ns h + ms = am_ns r.2 →
    vx_Met l q.2.1 (sm_hw q :: sm_TB) (sm_rm d mc ms) (sm_Pc D cA g B b Ln xs adV As h) (sm_Q D cA g B Ln xs r) (sm_X D cA g B Ln xs r) mc ms (fun q => B ≤ q)
def sm_ilen : Instr → Nat
  | .bipush _ | .ldc _ | .iload _ | .lload _ | .aload _ | .istore _ | .lstore _ | .astore _ | .newarray _ => 2
  | .sipush _ | .ldc_w _ | .ldc2_w _ | .iinc _ _ | .goto _ | .ifCond _ _ | .if_icmp _ _ | .getfield _ | .putfield _ | .invokestatic _ | .invokevirtual _ | .invokespecial _ | .new _ => 3
  | .multianewarray _ _ => 4
  | _ => 1
/-- what is known of a call: how, the pool's place, the callee -/
def sm_cw (own : String) (idx : Nat) (c d : Nat) (b : Nat) (q : sm_M) : Prop :=
  plainName q.2.1.cls = true ∧ (q.2.1.cls ≠ "java/lang/invoke/MethodHandle" ∧ q.2.1.cls ≠ "java/lang/invoke/VarHandle") ∧ (parseMethodDescriptor q.2.1.desc).map (fun z => z.parameters.length) = some b ∧ q.2.2.2.1 ≤ 40 ∧
  sm_hw q ∈ sm_TB ∧ Cond.initialized q.2.1.cls ∈ sm_TB ∧
  (c = 0 → Cond.methodLink own idx q.2.1 ∈ sm_TB ∧ Cond.static q.2.1 ∈ sm_TB) ∧
  (c = 1 → q.2.2.2.2.2 = none ∧ Cond.methodLink own idx q.2.1 ∈ sm_TB ∧ Cond.instanceMethod q.2.1 ∈ sm_TB ∧ Cond.selects q.2.1.cls q.2.1 q.2.1 ∈ sm_TB ∧ ∃ T N, sm_cl[d]? = some (q.2.1.cls, T, N)) ∧
  (c = 2 → q.2.2.2.2.2 = none ∧ q.2.2.2.2.1 = none ∧ Cond.methodLink own idx q.2.1 ∈ sm_TB ∧ Cond.instanceMethod q.2.1 ∈ sm_TB ∧ q.2.1.name = "<init>") ∧
  (c = 3 → q.2.2.2.2.2 = none ∧ q.2.2.2.2.1 = none ∧ Cond.instanceMethod q.2.1 ∈ sm_TB ∧ q.2.1.name = "<init>" ∧ ∃ host, (own, idx, q.2.1, host) ∈ sm_nst)
/-- what is known of a throw of exception a at pc -/
def sm_tw (own : String) (cc : ByteArray) (pc ik a : Nat) : Prop :=
  a < 3 ∧ ∃ (is ic : Nat) (tx : String) (sa : Nat) (names : List String) (ix : Nat) (rx : ByteArray), decode rx 0 = .ok (.aload_n 0, 1) ∧ decode rx 1 = .ok (.aload_n 1, 1) ∧ decode rx 2 = .ok (.invokespecial ix, 3) ∧ decode rx 5 = .ok (.return_, 1) ∧ decode cc (pc + 3) = .ok (.dup, 1) ∧ decode cc (pc + 4) = .ok (.ldc_w is, 3) ∧ decode cc (pc + 7) = .ok (.invokespecial ic, 3) ∧ decode cc (pc + 10) = .ok (.athrow, 1) ∧
    (own, is, tx, sa) ∈ sm_str ∧ Bundle.fit (sm_ex a) = true ∧ (∀ n ∈ names, Bundle.fit n = true) ∧ names.length ≤ 6 ∧ Cond.classLink own ik (sm_ex a) ∈ sm_TB ∧ Cond.initialized (sm_ex a) ∈ sm_TB ∧
    (∀ w ∈ vx_atSX own ic (sm_ex a) ix rx names, w ∈ sm_TB ∨ w = .castable (sm_ex a) (sm_ex a) ∨ ∃ x ∈ sm_dcl, w = .declares x) ∧ (∀ w ∈ Cond.classLink own ik (sm_ex a) :: Cond.initialized (sm_ex a) :: vx_atSX own ic (sm_ex a) ix rx names, vx_ot w = true)
def sm_dv (ty : FieldType) : Value := match ty with
  | .long => .long 0
  | .object _ => .null
  | .array _ => .null
  | _ => .int 0
def sm_at9 (t : ArrayType) (a : Nat) : Prop := (t = .int ∧ a = 9) ∨ (t = .long ∧ a = 10) ∨ (t = .byte ∧ a = 11) ∨ (t = .boolean ∧ a = 12)
/-- what is known of an entry of a method's table -/
def sm_ok2 (MI : Nat → Option sm_M) (q : sm_M) (pc : Nat) (i : Instr) (n a b c d rt : Nat) (v : Value) (sw : List (Int32 × Nat)) : Prop := match i with
  | .iconst k => v = .int (Int32.ofInt k)
  | .lconst k => v = .long (Int64.ofNat k.val)
  | .bipush k => v = .int (Int8.ofInt k).toInt32
  | .sipush k => v = .int (Int16.ofInt k).toInt32
  | .ldc idx => (∃ x, v = .int x ∧ Cond.constant q.1 idx x ∈ sm_TB) ∨ ∃ tx z, v = .ref z ∧ (q.1, idx, tx, z) ∈ sm_str
  | .ldc_w idx => ∃ x, v = .int x ∧ Cond.constant q.1 idx x ∈ sm_TB
  | .ldc2_w idx => ∃ x, v = .long x ∧ Cond.constantLong q.1 idx x ∈ sm_TB
  | .istore_n k => k.val < q.2.2.2.1
  | .istore k => k < q.2.2.2.1
  | .astore_n k => k.val < q.2.2.2.1
  | .astore k => k < q.2.2.2.1
  | .lstore_n k => k.val + 1 < q.2.2.2.1
  | .lstore k => k + 1 < q.2.2.2.1
  | .iinc k z => k < q.2.2.2.1 ∧ v = .int (Int32.ofInt z)
  | .goto off => (pc : Int) + off = (a : Int)
  | .ifCond _ off => (pc : Int) + off = (a : Int)
  | .if_icmp _ off => (pc : Int) + off = (a : Int)
  | .tableswitch dflt lo hi offs => (pc : Int) + dflt = (a : Int) ∧ hi + 1 = lo + (sw.length : Int) ∧ ∀ (j : Nat) (z : Int32 × Nat), sw[j]? = some z → z.1.toInt = lo + (j : Int) ∧ ∃ off, offs[j]? = some off ∧ (pc : Int) + off = (z.2 : Int)
  | .lookupswitch dflt ps => (pc : Int) + dflt = (a : Int) ∧ (ps.toList.zip (ps.toList.drop 1)).all (fun (a, next) => a.1 < next.1) = true ∧ ps.toList = sw.map (fun z => (z.1.toInt, (z.2 : Int) - (pc : Int)))
  | .getfield idx => ∃ C T N, sm_cl[a]? = some (C, T, N) ∧ N = sm_N a ∧ b < N ∧ a < 9 ∧ Cond.fieldLink q.1 idx C (T b).2.1 (T b).2.2.1 ∈ sm_TB ∧ (T b).1 = C ∧ (∀ w ∈ u_ws C T N, w ∈ sm_TB) ∧ (c = 0 → ∀ g h o, sm_fv g (sm_ty a b) h o b = .int (am_I h o b)) ∧ (c = 1 → sm_ty a b = .long) ∧ (c = 2 → (∃ z, sm_ty a b = .object z) ∨ ∃ z, sm_ty a b = .array z)
  | .putfield idx => ∃ C T N, sm_cl[a]? = some (C, T, N) ∧ N = sm_N a ∧ b < N ∧ a < 9 ∧ Cond.fieldLink q.1 idx C (T b).2.1 (T b).2.2.1 ∈ sm_TB ∧ (T b).1 = C ∧ (∀ w ∈ u_ws C T N, w ∈ sm_TB) ∧ (∀ k, k < N → parseFieldDescriptor (T k).2.2.1 = some (sm_ty a k)) ∧ (∀ x, x < N → ∀ y, y < N → x ≠ y → (T x).2.1 ≠ (T y).2.1) ∧ ((T b).2.2.2 = true → q.2.1.name = "<init>" ∧ C = q.1) ∧
      (c = 0 → sm_ty a b = .int) ∧ (c = 1 → sm_ty a b = .long) ∧ (c = 2 → (∃ z, sm_ty a b = .object z) ∨ ∃ z, sm_ty a b = .array z) ∧ (c = 3 → sm_ty a b = .boolean)
  | .iaload => a = 9 ∨ a = 15
  | .baload => a = 11 ∨ a = 12
  | .aaload => a = 13 ∨ a = 14
  | .bastore => a = 11 ∨ a = 12
  | .new idx => (c = 0 → ∃ C T N, sm_cl[a]? = some (C, T, N) ∧ N = sm_N a ∧ a < 9 ∧ b = N ∧ Cond.classLink q.1 idx C ∈ sm_TB ∧ Cond.instantiable C N ∈ sm_TB ∧ Cond.initialized C ∈ sm_TB ∧ (∀ w ∈ u_ws C T N, w ∈ sm_TB) ∧ (∀ k, k < N → parseFieldDescriptor (T k).2.2.1 = some (sm_ty a k)) ∧ ∀ k, k < N → defaultValue (sm_ty a k) = sm_dv (sm_ty a k)) ∧ (c = 1 → sm_tw q.1 q.2.2.1 pc idx a ∧ q.2.2.2.2.2 = none)
  | .newarray t => sm_at9 t a ∧ Cond.arrayClass (newarray.typeOf t) ∈ sm_TB
  | .multianewarray idx k => k = 2 ∧ ((a = 13 ∧ b = 9 ∧ Cond.classLink q.1 idx "[[I" ∈ sm_TB ∧ Cond.arrayClass .int ∈ sm_TB) ∨ (a = 14 ∧ b = 10 ∧ Cond.classLink q.1 idx "[[J" ∈ sm_TB ∧ Cond.arrayClass .long ∈ sm_TB))
  | .invokestatic idx => (c = 0 ∧ ∃ z, MI a = some z ∧ sm_cw q.1 idx c d b z) ∨ (c = 5 ∧ Cond.methodLink q.1 idx arraycopyName ∈ sm_TB ∧ Cond.native arraycopyName ∈ sm_TB ∧ Cond.static arraycopyName ∈ sm_TB ∧ Cond.initialized "java/lang/System" ∈ sm_TB)
  | .invokevirtual idx => (c = 1 ∧ ∃ z, MI a = some z ∧ sm_cw q.1 idx c d b z) ∨ (c = 6 ∧ Cond.methodLink q.1 idx yJ0_length_8abf5 ∈ sm_TB) ∨ (c = 7 ∧ Cond.methodLink q.1 idx yJ0_charAt_5068e ∈ sm_TB)
  | .invokespecial idx => ((c = 2 ∨ c = 3) ∧ ∃ z, MI a = some z ∧ sm_cw q.1 idx c d b z) ∨ (c = 4 ∧ Cond.methodLink q.1 idx objectInit ∈ sm_TB ∧ Cond.instanceMethod objectInit ∈ sm_TB ∧ Cond.code objectInit ⟨#[0xb1]⟩ 1 none ∈ sm_TB)
  | .ireturn => if c = 1 then q.2.2.2.2.1 = some .boolean else q.2.2.2.2.1 = some .int
  | .lreturn => q.2.2.2.2.1 = some .long
  | .return_ => q.2.2.2.2.1 = none
  | _ => True
def sm_sw (i : Instr) : Bool := match i with
  | .tableswitch _ _ _ _ | .lookupswitch _ _ => true
  | _ => false
def sm_ok (MI : Nat → Option sm_M) (q : sm_M) (pc : Nat) (e : am_E) : Prop := match e with
  | (i, n, a, b, c, d, rt, v, sw) => decode q.2.2.1 pc = .ok (i, n) ∧ (sm_sw i = false → n = sm_ilen i) ∧ sm_ok2 MI q pc i n a b c d rt v sw
