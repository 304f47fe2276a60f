/-! ===== handlers; the frame of a body ===== -/
/-- the abstract handlers are the method's table -/
def sm_tb (own : String) (cc : ByteArray) (nL : Nat) : am_X → List (Nat × Nat × Nat × Nat) → Prop
  | [], [] => True
  | x :: tb, y :: hh => y.1 = x.1 ∧ y.2.1 = x.2.1 ∧ x.2.2.1 < 3 ∧ y.2.2.2 ≠ 0 ∧ Cond.classLink own y.2.2.2 (sm_ex x.2.2.1) ∈ sm_TB ∧ ((∃ k : Fin 4, k.val = x.2.2.2.2 ∧ decode cc y.2.2.1 = .ok (.astore_n k, 1) ∧ x.2.2.2.1 = y.2.2.1 + 1) ∨ (decode cc y.2.2.1 = .ok (.astore x.2.2.2.2, 2) ∧ x.2.2.2.1 = y.2.2.1 + 2)) ∧ x.2.2.2.2 < nL ∧ sm_tb own cc nL tb hh
  | _, _ => False
section HD
variable {p : Program} {l : Launch} {e : Env} {R : Room} {s : State} {m : MethodId} {args : Array Value} {below : List Frame} {meth : Method} {c : Code} {H : Heap} {locs : List Loc} {cells slots : Nat} {cc : ByteArray} {pc : Nat} {ls : Array Slot} {rest : List Value}
variable {D : va_G} {cA : Nat → ClassId} {g : Nat → Nat} {B b Ln : Nat} {xs : Nat → Int32} {adV : Nat → Nat} {h : am_H} {r : am_R} {mc ms nL : Nat} {own : String}
theorem sm_th {x : Nat} {ce : Cell} {q9 : Addr} {L : am_V} {k : am_C} (hx : p.tables.exec = Jvm.exec) (hb : c.code = cc) (hown : s.vm.findClass own = some m.cls) (hts : ∀ w ∈ sm_TB, w.before args s = true) (hlocks : meth.locks = false) (hA : sm_A D cA g B b Ln xs adV s s.heap) (hl : lv_has ls nL (L.map (sm_p g))) (hW : sm_W D cA g B Ln xs h H) (hS : va_S (fun q => B ≤ q) s.heap H locs) (hx3 : x < 3)
    (hce : H[q9]? = some ce) (hcv : ce.vm = .none) (hcl : s.vm.findClass (sm_ex x) = some ce.cls) (hc : cells ≤ mc) (hs : slots ≤ ms)
    (kk : ∀ (pc' : Nat) (L' : am_V) (ls' : Array Slot), k pc' L' [] h = some r → lv_has ls' nL (L'.map (sm_p g)) → W p l e R s m args below meth c H locs cells slots (vx_MQ below (sm_Q D cA g B Ln xs r) (sm_X D cA g B Ln xs r) args s mc ms (fun q => B ≤ q)) (F0 m pc' ls' [])) :
    ∀ (tb : am_X) (hh : List (Nat × Nat × Nat × Nat)) (pre : List ExceptionTableEntry), sm_tb own cc nL tb hh → c.exceptionTable.toList = pre ++ tableOf hh → (∀ z ∈ pre, covers z pc = false ∨ (z.catchType ≠ 0 ∧ ∃ nm : String, (Cond.classLink own z.catchType nm).before args s = true ∧ va_Nc (sm_ex x) nm s)) → am_th tb pc L k x h = some r →
      vx_W p l e R s m args below meth c H locs cells slots (vx_MQ below (sm_Q D cA g B Ln xs r) (sm_X D cA g B Ln xs r) args s mc ms (fun q => B ≤ q)) (F0 m pc ls rest) q9
  | [], [], pre, _, htab, hpre, hth => by
    have hr : r = (.inl x, h) := (Option.some.inj hth).symm
    refine vx_outP hown hlocks (by rw [htab]; intro z hz; exact hpre z (by simpa [tableOf] using hz)) hce hcv hcl (fun t ht hal => ?_) hS.2.2 hc hs
    rw [hr]
    exact ⟨x, rfl, hx3, rfl, by rw [ht]; exact hW, hS.F ht⟩
  | [], _ :: _, _, hf, _, _, _ => hf.elim
  | _ :: _, [], _, hf, _, _, _ => hf.elim
  | t :: tb, y :: hh, pre, hf, htab, hpre, hth => by
    obtain ⟨f1, f2, f3, f4, f5, f6, f7, f8⟩ := hf
    by_cases hm : (t.1 ≤ pc ∧ pc < t.2.1) ∧ t.2.2.1 = x
    · have hhd : am_hd (t :: tb) pc x = some t.2.2.2 := by
        rw [am_hd]
        have e1 : Nat.ble t.1 pc = true := Nat.ble_eq_true_of_le hm.1.1
        have e2 : Nat.blt pc t.2.1 = true := Nat.ble_eq_true_of_le hm.1.2
        have e3 : Nat.beq t.2.2.1 x = true := by rw [hm.2]; exact Nat.beq_refl x
        rw [e1, e2, e3]
        rfl
      unfold am_th at hth
      rw [hhd] at hth
      dsimp only at hth
      have hcov : covers (⟨y.1, y.2.1, y.2.2.1, y.2.2.2⟩ : ExceptionTableEntry) pc = true := by
        simp [covers, f1, f2, hm.1.1, hm.1.2]
      refine vx_catch hown pre ⟨y.1, y.2.1, y.2.2.1, y.2.2.2⟩ (tableOf hh) htab hpre hcov f4 (hts _ f5) (by rw [hm.2]; exact va_Nw.use rfl (hA.2.2.2.2.2.2.2.2.2.1.1 x hx3)) hce hcv hcl ?_
      have hst : ∀ ls' : Array Slot, lv_has ls' nL ((t.2.2.2.2, Value.ref q9) :: (L.map (sm_p g)).filter (fun q => !(q.1 == t.2.2.2.2) && !(q.1 + 1 == t.2.2.2.2 && q.2.category == 2))) → lv_has ls' nL ((am_f1 L t.2.2.2.2).map (sm_p g)) := fun ls' hl' => by
        rw [lh_f1]
        exact ⟨hl'.1, hl'.2.1, fun z hz => hl'.2.2 z (List.mem_cons_of_mem _ hz)⟩
      rcases f6 with ⟨k4, e4, d4, n4⟩ | ⟨d4, n4⟩
      · refine lv_astore_n hx hb d4 e4 hl f7 rfl (fun ls' hl' => ?_)
        rw [← n4]
        exact kk _ _ ls' hth (hst ls' hl')
      · refine lv_astore hx hb d4 hl f7 rfl (fun ls' hl' => ?_)
        rw [← n4]
        exact kk _ _ ls' hth (hst ls' hl')
    · have hhd : am_hd (t :: tb) pc x = am_hd tb pc x := by
        rw [am_hd]
        have e9 : (Nat.ble t.1 pc && Nat.blt pc t.2.1 && Nat.beq t.2.2.1 x) = false := by
          cases hq : (Nat.ble t.1 pc && Nat.blt pc t.2.1 && Nat.beq t.2.2.1 x) with
          | false => rfl
          | true =>
            simp only [Bool.and_eq_true] at hq
            exact absurd ⟨⟨Nat.le_of_ble_eq_true hq.1.1, Nat.le_of_ble_eq_true hq.1.2⟩, Nat.eq_of_beq_eq_true hq.2⟩ hm
        rw [e9]
        rfl
      refine sm_th hx hb hown hts hlocks hA hl hW hS hx3 hce hcv hcl hc hs kk tb hh (pre ++ [⟨y.1, y.2.1, y.2.2.1, y.2.2.2⟩]) f8 (by rw [htab]; simp [tableOf]) (fun z hz => ?_) (by unfold am_th at hth ⊢; rw [hhd] at hth; exact hth)
      rcases List.mem_append.mp hz with hz | hz
      · exact hpre z hz
      · have hz := List.mem_singleton.mp hz
        subst hz
        by_cases hcov : t.1 ≤ pc ∧ pc < t.2.1
        · refine Or.inr ⟨f4, _, hts _ f5, ?_⟩
          exact hA.2.2.2.2.2.2.2.2.2.2.1 x t.2.2.1 hx3 f3 (fun e => hm ⟨hcov, e.symm⟩)
        · refine Or.inl ?_
          cases hq : covers (⟨y.1, y.2.1, y.2.2.1, y.2.2.2⟩ : ExceptionTableEntry) pc with
          | false => rfl
          | true =>
            simp [covers, f1, f2] at hq
            exact absurd hq hcov
end HD
/-- what holds in a body of method q, its callees at depth d -/
def sm_Cx (p : Program) (l : Launch) (R : Room) (s : State) (m : MethodId) (args : Array Value) (meth : Method) (c : Code) (D : va_G) (cA : Nat → ClassId) (g : Nat → Nat) (B b Ln : Nat) (xs : Nat → Int32) (adV : Nat → Nat) (d : Nat) (q : sm_M) : Prop :=
  p.tables.exec = Jvm.exec ∧ c.code = q.2.2.1 ∧ meth.sig.returnType = q.2.2.2.2.1 ∧ c.maxLocals = q.2.2.2.1 ∧ s.vm.findClass q.1 = some m.cls ∧ (∀ w ∈ sm_TB, w.before args s = true) ∧ meth.locks = false ∧ c.exceptionTable.toList = tableOf (q.2.2.2.2.2.getD []) ∧ (q.2.1.name = "<init>" → meth.name = "<init>") ∧
  sm_A D cA g B b Ln xs adV s s.heap ∧ B ≤ s.heap.size ∧ sm_G g B b ∧ l.stackTraces = false ∧ d + 21 ≤ R.frames ∧ 64 * d + 464 ≤ R.locals
def sm_I (s : State) (D : va_G) (cA : Nat → ClassId) (g : Nat → Nat) (B Ln : Nat) (xs : Nat → Int32) (nL nc0 ns0 : Nat) (h : am_H) (H : Heap) (locs : List Loc) (cells slots : Nat) (ls : Array Slot) (L : am_V) : Prop :=
  sm_W D cA g B Ln xs h H ∧ va_S (fun q => B ≤ q) s.heap H locs ∧ lv_has ls nL (L.map (sm_p g)) ∧ nc0 + cells = am_nc h ∧ ns0 + slots = am_ns h
def sm_go (p : Program) (l : Launch) (e : Env) (R : Room) (s : State) (m : MethodId) (args : Array Value) (below : List Frame) (meth : Method) (c : Code) (D : va_G) (cA : Nat → ClassId) (g : Nat → Nat) (B Ln : Nat) (xs : Nat → Int32) (nL nc0 ns0 mc ms : Nat) (r : am_R) (k : am_C) : Prop :=
  ∀ (pc : Nat) (L : am_V) (S : List Value) (h : am_H) (H : Heap) (locs : List Loc) (cells slots : Nat) (ls : Array Slot), k pc L S h = some r → sm_I s D cA g B Ln xs nL nc0 ns0 h H locs cells slots ls L →
    W p l e R s m args below meth c H locs cells slots (vx_MQ below (sm_Q D cA g B Ln xs r) (sm_X D cA g B Ln xs r) args s mc ms (fun q => B ≤ q)) (F0 m pc ls (S.map (sm_v g)))
def sm_rS : Room := { frames := 10, cells := 0, slots := 0, locals := 200 }
/-- length and charAt of the constants -/
def sm_st (l : Launch) (D : va_G) (cA : Nat → ClassId) (g : Nat → Nat) (B b Ln : Nat) (xs : Nat → Int32) (adV : Nat → Nat) : Prop :=
  (∀ (h : am_H) (i : Nat), i < 3 → vx_Met l yJ0_length_8abf5 (.code yJ0_length_8abf5 cJ0_length_8abf5 1 (some .int) :: sm_TB) sm_rS (sm_Pc D cA g B b Ln xs adV [.ref (1000000 + i)] h) (sm_Q D cA g B Ln xs (.inr (some (.int (Int32.ofNat (sm_len.getD i 0)))), h)) (sm_X D cA g B Ln xs (.inr (some (.int (Int32.ofNat (sm_len.getD i 0)))), h)) 0 0 (fun q => B ≤ q)) ∧
  (∀ (h : am_H) (i : Nat) (j : Int32), i < 3 → vp_in j (sm_len.getD i 0) → vx_Met l yJ0_charAt_5068e (.code yJ0_charAt_5068e cJ0_charAt_5068e 2 (some .char) :: sm_TB) sm_rS (sm_Pc D cA g B b Ln xs adV [.ref (1000000 + i), .int j] h) (sm_Q D cA g B Ln xs (.inr (some (.int ((sm_byt.getD i []).getD j.toNatClampNeg 0))), h)) (sm_X D cA g B Ln xs (.inr (some (.int ((sm_byt.getD i []).getD j.toNatClampNeg 0))), h)) 0 0 (fun q => B ≤ q)) ∧
  Cond.code yJ0_length_8abf5 cJ0_length_8abf5 1 (some .int) ∈ sm_TB ∧ Cond.initialized "java/lang/String" ∈ sm_TB ∧ Cond.instanceMethod yJ0_length_8abf5 ∈ sm_TB ∧ Cond.selects "java/lang/String" yJ0_length_8abf5 yJ0_length_8abf5 ∈ sm_TB ∧
  Cond.code yJ0_charAt_5068e cJ0_charAt_5068e 2 (some .char) ∈ sm_TB ∧ Cond.instanceMethod yJ0_charAt_5068e ∈ sm_TB ∧ Cond.selects "java/lang/String" yJ0_charAt_5068e yJ0_charAt_5068e ∈ sm_TB
