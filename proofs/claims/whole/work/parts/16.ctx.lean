/-! ===== the frame of the simulation: the tables' words, what stands around the world, contracts ===== -/
def sm_TB : List Cond := lw_tbl.filter goodWord
/-- exceptions by their numbers -/
def sm_ex (x : Nat) : String := match x with
  | 0 => "java/util/NoSuchElementException"
  | 1 => "java/lang/IllegalArgumentException"
  | _ => "java/lang/IllegalStateException"
/-- String constants: class, place in its pool, text, its address here -/
def sm_str : List (String × Nat × String × Nat) := [(RX8, 148, "top", 1000000), (RX8, 154, "nothing", 1000001), (RX8, 156, "some", 1000002), (RX7, 373, "no such thing", 1000003), (RX7, 380, "wrong argument", 1000004), (RX7, 385, "a name is void", 1000005)]
def sm_nst : List (String × Nat × MethodName × String) := [(RX7, 67, yX0_init, "LightClassifier"), (RX7, 90, yX1_init, "LightClassifier")]
def sm_len : List Nat := [3, 7, 4]
def sm_byt : List (List Int32) := [[116, 111, 112], [110, 111, 116, 104, 105, 110, 103], [115, 111, 109, 101]]
/-- what stands around the world and stays -/
def sm_A (D : va_G) (cA : Nat → ClassId) (g : Nat → Nat) (B b Ln : Nat) (xs : Nat → Int32) (adV : Nat → Nat) (U : State) (H : Heap) : Prop :=
  va_K D sm_cl (sm_tys cA) U ∧ va_X b Ln xs U H ∧ vk_S 3 sm_len sm_byt (fun i => g (1000000 + i)) adV (fun q => B ≤ q) U H ∧
  vx_Zq Bundle.tN "UNASSIGNED_STACK" Bundle.steD (fun q => B ≤ q) U H ∧ vx_Zq Bundle.tN "SUPPRESSED_SENTINEL" Bundle.listD (fun q => B ≤ q) U H ∧
  (∀ q ∈ sm_str, vk_R q.1 q.2.1 q.2.2.1 (g q.2.2.2) U) ∧ (∀ q ∈ sm_nst, va_Nw (.methodLinkNest q.1 q.2.1 q.2.2.1 q.2.2.2) U) ∧
  (Cond.arrayOver (.array .int)).before #[] U = true ∧ (Cond.arrayOver (.array .long)).before #[] U = true ∧
  (∀ x, x < 3 → va_Nw (.castable (sm_ex x) (sm_ex x)) U) ∧ (∀ x y, x < 3 → y < 3 → x ≠ y → va_Nc (sm_ex x) (sm_ex y) U) ∧
  va_Z "java/lang/String" "COMPACT_STRINGS" "Z" (.int 1) (fun q => B ≤ q) U H ∧ va_Zq "jdk/internal/util/Preconditions" "SIOOBE_FORMATTER" "Ljava/util/function/BiFunction;" (fun q => B ≤ q) U H
/-- the world -/
def sm_W (D : va_G) (cA : Nat → ClassId) (g : Nat → Nat) (B Ln : Nat) (xs : Nat → Int32) (h : am_H) (H : Heap) : Prop :=
  va_P D sm_cl (sm_ws cA g h) H ∧ (am_S h)[0]? = some (15, Ln) ∧ am_I h 0 = xs ∧ (am_G h = 0 → H.size + 1 = B + (am_S h).length) ∧ B ≤ H.size ∧ ∀ o c n : Nat, (am_S h)[o]? = some (c, n) → c ≤ 14 ∨ (c = 15 ∧ o = 0)
/-- the addresses -/
def sm_G (g : Nat → Nat) (B b : Nat) : Prop := (∀ i, 1 ≤ i → i ≤ 900001 → g i = B + (i - 1)) ∧ g 0 = b ∧ b < B
theorem sm_A.at {D : va_G} {cA : Nat → ClassId} {g : Nat → Nat} {B b Ln : Nat} {xs : Nat → Int32} {adV : Nat → Nat} {s U : State} {H : Heap} {locs : List Loc} (hA : sm_A D cA g B b Ln xs adV s s.heap) (hS : va_S (fun q => B ≤ q) s.heap H locs) (hb : b < B) (hB : B ≤ s.heap.size) (hU : U.heap = H) (hW : s.WarmedH U.vm) : sm_A D cA g B b Ln xs adV U U.heap := by
  obtain ⟨h1, h2, h3, h4, h5, h6, h7, h8, h9, h10, h11, h12, h13⟩ := hA
  have hq : ∀ a : Nat, a < s.heap.size → ¬ B ≤ a → U.heap[a]? = s.heap[a]? := fun a ha hn => by rw [hU]; exact hS.2.1 a ha hn
  refine ⟨va_K.moved hW.alike h1, (h2.kept (hq b (by omega) (by omega))).moved hW.alike, (h3.kept hq).moved hW.alike, (h4.kept hq).moved hW.alike, (h5.kept hq).moved hW.alike, fun q hm => (h6 q hm).warm hW, fun q hm => va_Nw.warmM hW (h7 q hm), ?_, ?_, fun x hx => va_Nw.warmC hW (h10 x hx), fun x y hx hy hn => (h11 x y hx hy hn).moved hW.alike, (h12.kept hq).moved hW.alike, (h13.kept hq).moved hW.alike⟩
  · exact (Cond.arrayOver_setVmC (args := #[]) hW.alike (.array .int)).trans h8
  · exact (Cond.arrayOver_setVmC (args := #[]) hW.alike (.array .long)).trans h9
theorem sm_A.blind {D : va_G} {cA : Nat → ClassId} {g : Nat → Nat} {B b Ln : Nat} {xs : Nat → Int32} {adV : Nat → Nat} {U : State} {gf : JFrame} {mk : MethodId} {a : Array Value} (hA : sm_A D cA g B b Ln xs adV U U.heap) : sm_A D cA g B b Ln xs adV (U.calling gf mk a) (U.calling gf mk a).heap := by
  obtain ⟨h1, h2, h3, h4, h5, h6, h7, h8, h9, h10, h11, h12, h13⟩ := hA
  have e : U.vm.Alike (U.calling gf mk a).vm := Vm.Alike.refl U.vm
  exact ⟨va_K.moved e h1, va_X.moved e h2, vk_S.moved e h3, vx_Zq.moved e h4, vx_Zq.moved e h5, fun q hm => (h6 q hm).same rfl, fun q hm => (h7 q hm).same rfl rfl, h8, h9, fun x hx => (h10 x hx).same rfl rfl, fun x y hx hy hn => (h11 x y hx hy hn).moved e, va_Z.moved e h12, va_Zq.moved e h13⟩
/-- a method: its class, name, code, locals, answer, table -/
abbrev sm_M : Type := String × MethodName × ByteArray × Nat × Option FieldType × Option (List (Nat × Nat × Nat × Nat))
def sm_hw (q : sm_M) : Cond := match q.2.2.2.2.2 with
  | none => .code q.2.1 q.2.2.1 q.2.2.2.1 q.2.2.2.2.1
  | some hh => .codeWith q.2.1 q.2.2.1 q.2.2.2.1 q.2.2.2.2.1 hh
def sm_rm (d mc ms : Nat) : Room := { frames := d + 20, cells := mc, slots := ms, locals := 64 * d + 400 }
def sm_Q (D : va_G) (cA : Nat → ClassId) (g : Nat → Nat) (B Ln : Nat) (xs : Nat → Int32) (r : am_R) : Array Value → State → Outcome → State → Prop := fun _ st o t =>
  ∃ v, r.1 = .inr v ∧ o = .returned (v.map (sm_v g)) ∧ sm_W D cA g B Ln xs r.2 t.heap ∧ va_F (fun q => B ≤ q) st t
def sm_X (D : va_G) (cA : Nat → ClassId) (g : Nat → Nat) (B Ln : Nat) (xs : Nat → Int32) (r : am_R) : String → State → State → Prop := fun E st t =>
  ∃ x, r.1 = .inl x ∧ x < 3 ∧ E = sm_ex x ∧ sm_W D cA g B Ln xs r.2 t.heap ∧ va_F (fun q => B ≤ q) st t
def sm_Pc (D : va_G) (cA : Nat → ClassId) (g : Nat → Nat) (B b Ln : Nat) (xs : Nat → Int32) (adV : Nat → Nat) (As : List Value) (h : am_H) : Array Value → State → Prop :=
  va_Pc (As.map (sm_v g)) (fun U => sm_W D cA g B Ln xs h U.heap ∧ sm_A D cA g B b Ln xs adV U U.heap)
/-- what is proved of a method at depth d -/
def sm_ct (D : va_G) (cA : Nat → ClassId) (g : Nat → Nat) (B b Ln : Nat) (xs : Nat → Int32) (adV : Nat → Nat) (MI : Nat → Option sm_M) (l : Launch) (d k : Nat) (As : List Value) (h : am_H) (r : am_R) : Prop :=
  ∀ q, MI k = some q → ∀ mc ms, am_nc h + mc = am_nc r.2 → am_ns h + ms = am_ns r.2 →
    vx_Met l q.2.1 (sm_hw q :: sm_TB) (sm_rm d mc ms) (sm_Pc D cA g B b Ln xs adV As h) (sm_Q D cA g B Ln xs r) (sm_X D cA g B Ln xs r) mc ms (fun q => B ≤ q)
def sm_ilen : Instr → Nat
  | .bipush _ | .ldc _ | .iload _ | .lload _ | .aload _ | .istore _ | .lstore _ | .astore _ | .newarray _ => 2
  | .sipush _ | .ldc_w _ | .ldc2_w _ | .iinc _ _ | .goto _ | .ifCond _ _ | .if_icmp _ _ | .getfield _ | .putfield _ | .invokestatic _ | .invokevirtual _ | .invokespecial _ | .new _ => 3
  | .multianewarray _ _ => 4
  | _ => 1
/-- what is known of a call: how, the pool's place, the callee -/
def sm_cw (own : String) (idx : Nat) (c d : Nat) (b : Nat) (q : sm_M) : Prop :=
  plainName q.2.1.cls = true ∧ (q.2.1.cls ≠ "java/lang/invoke/MethodHandle" ∧ q.2.1.cls ≠ "java/lang/invoke/VarHandle") ∧ (parseMethodDescriptor q.2.1.desc).map (fun z => z.parameters.length) = some b ∧ q.2.2.2.1 ≤ 40 ∧
  sm_hw q ∈ sm_TB ∧ Cond.initialized q.2.1.cls ∈ sm_TB ∧
  (c = 0 → Cond.methodLink own idx q.2.1 ∈ sm_TB ∧ Cond.static q.2.1 ∈ sm_TB) ∧
  (c = 1 → q.2.2.2.2.2 = none ∧ Cond.methodLink own idx q.2.1 ∈ sm_TB ∧ Cond.instanceMethod q.2.1 ∈ sm_TB ∧ Cond.selects q.2.1.cls q.2.1 q.2.1 ∈ sm_TB ∧ ∃ T N, sm_cl[d]? = some (q.2.1.cls, T, N)) ∧
  (c = 2 → q.2.2.2.2.2 = none ∧ q.2.2.2.2.1 = none ∧ Cond.methodLink own idx q.2.1 ∈ sm_TB ∧ Cond.instanceMethod q.2.1 ∈ sm_TB ∧ q.2.1.name = "<init>") ∧
  (c = 3 → q.2.2.2.2.2 = none ∧ q.2.2.2.2.1 = none ∧ Cond.instanceMethod q.2.1 ∈ sm_TB ∧ q.2.1.name = "<init>" ∧ ∃ host, (own, idx, q.2.1, host) ∈ sm_nst)
/-- what is known of a throw of exception a at pc -/
def sm_tw (own : String) (cc : ByteArray) (pc ik a : Nat) : Prop :=
  a < 3 ∧ ∃ (is ic : Nat) (tx : String) (sa : Nat) (names : List String), decode cc (pc + 3) = .ok (.dup, 1) ∧ decode cc (pc + 4) = .ok (.ldc_w is, 3) ∧ decode cc (pc + 7) = .ok (.invokespecial ic, 3) ∧ decode cc (pc + 10) = .ok (.athrow, 1) ∧
    (own, is, tx, sa) ∈ sm_str ∧ Bundle.fit (sm_ex a) = true ∧ (∀ n ∈ names, Bundle.fit n = true) ∧ names.length ≤ 6 ∧ Cond.classLink own ik (sm_ex a) ∈ sm_TB ∧ Cond.initialized (sm_ex a) ∈ sm_TB ∧
    (∀ w ∈ vx_atS own ic (sm_ex a) names, w ∈ sm_TB ∨ w = .castable (sm_ex a) (sm_ex a)) ∧ (∀ w ∈ Cond.classLink own ik (sm_ex a) :: Cond.initialized (sm_ex a) :: vx_atS own ic (sm_ex a) names, vx_ot w = true)
def sm_dv (ty : FieldType) : Value := match ty with
  | .long => .long 0
  | .object _ => .null
  | .array _ => .null
  | _ => .int 0
def sm_at9 (t : ArrayType) (a : Nat) : Prop := (t = .int ∧ a = 9) ∨ (t = .long ∧ a = 10) ∨ (t = .byte ∧ a = 11) ∨ (t = .boolean ∧ a = 12)
/-- what is known of an entry of a method's table -/
def sm_ok2 (MI : Nat → Option sm_M) (q : sm_M) (pc : Nat) (i : Instr) (n a b c d rt : Nat) (v : Value) (sw : List (Int32 × Nat)) : Prop := match i with
  | .iconst k => v = .int (Int32.ofInt k)
  | .lconst k => v = .long (Int64.ofNat k.val)
  | .bipush k => v = .int (Int8.ofInt k).toInt32
  | .sipush k => v = .int (Int16.ofInt k).toInt32
  | .ldc idx => (∃ x, v = .int x ∧ Cond.constant q.1 idx x ∈ sm_TB) ∨ ∃ tx z, v = .ref z ∧ (q.1, idx, tx, z) ∈ sm_str
  | .ldc_w idx => ∃ x, v = .int x ∧ Cond.constant q.1 idx x ∈ sm_TB
  | .ldc2_w idx => ∃ x, v = .long x ∧ Cond.constantLong q.1 idx x ∈ sm_TB
  | .istore_n k => k.val < q.2.2.2.1
  | .istore k => k < q.2.2.2.1
  | .astore_n k => k.val < q.2.2.2.1
  | .astore k => k < q.2.2.2.1
  | .lstore_n k => k.val + 1 < q.2.2.2.1
  | .lstore k => k + 1 < q.2.2.2.1
  | .iinc k z => k < q.2.2.2.1 ∧ v = .int (Int32.ofInt z)
  | .goto off => (pc : Int) + off = (a : Int)
  | .ifCond _ off => (pc : Int) + off = (a : Int)
  | .if_icmp _ off => (pc : Int) + off = (a : Int)
  | .tableswitch dflt lo hi offs => (pc : Int) + dflt = (a : Int) ∧ hi + 1 = lo + (sw.length : Int) ∧ ∀ (j : Nat) (z : Int32 × Nat), sw[j]? = some z → z.1.toInt = lo + (j : Int) ∧ ∃ off, offs[j]? = some off ∧ (pc : Int) + off = (z.2 : Int)
  | .lookupswitch dflt ps => (pc : Int) + dflt = (a : Int) ∧ (ps.toList.zip (ps.toList.drop 1)).all (fun (a, next) => a.1 < next.1) = true ∧ ps.toList = sw.map (fun z => (z.1.toInt, (z.2 : Int) - (pc : Int)))
  | .getfield idx => ∃ C T N, sm_cl[a]? = some (C, T, N) ∧ N = sm_N a ∧ b < N ∧ a < 9 ∧ Cond.fieldLink q.1 idx C (T b).2.1 (T b).2.2.1 ∈ sm_TB ∧ (T b).1 = C ∧ (∀ w ∈ u_ws C T N, w ∈ sm_TB) ∧ (c = 0 → ∀ g h o, sm_fv g (sm_ty a b) h o b = .int (am_I h o b)) ∧ (c = 1 → sm_ty a b = .long) ∧ (c = 2 → (∃ z, sm_ty a b = .object z) ∨ ∃ z, sm_ty a b = .array z)
  | .putfield idx => ∃ C T N, sm_cl[a]? = some (C, T, N) ∧ N = sm_N a ∧ b < N ∧ a < 9 ∧ Cond.fieldLink q.1 idx C (T b).2.1 (T b).2.2.1 ∈ sm_TB ∧ (T b).1 = C ∧ (∀ w ∈ u_ws C T N, w ∈ sm_TB) ∧ (∀ k, k < N → parseFieldDescriptor (T k).2.2.1 = some (sm_ty a k)) ∧ (∀ x, x < N → ∀ y, y < N → x ≠ y → (T x).2.1 ≠ (T y).2.1) ∧ ((T b).2.2.2 = true → q.2.1.name = "<init>" ∧ C = q.1) ∧
      (c = 0 → sm_ty a b = .int) ∧ (c = 1 → sm_ty a b = .long) ∧ (c = 2 → (∃ z, sm_ty a b = .object z) ∨ ∃ z, sm_ty a b = .array z) ∧ (c = 3 → sm_ty a b = .boolean)
  | .iaload => a = 9 ∨ a = 15
  | .baload => a = 11 ∨ a = 12
  | .aaload => a = 13 ∨ a = 14
  | .bastore => a = 11 ∨ a = 12
  | .new idx => (c = 0 → ∃ C T N, sm_cl[a]? = some (C, T, N) ∧ N = sm_N a ∧ a < 9 ∧ b = N ∧ Cond.classLink q.1 idx C ∈ sm_TB ∧ Cond.instantiable C N ∈ sm_TB ∧ Cond.initialized C ∈ sm_TB ∧ (∀ w ∈ u_ws C T N, w ∈ sm_TB) ∧ (∀ k, k < N → parseFieldDescriptor (T k).2.2.1 = some (sm_ty a k)) ∧ ∀ k, k < N → defaultValue (sm_ty a k) = sm_dv (sm_ty a k)) ∧ (c = 1 → sm_tw q.1 q.2.2.1 pc idx a ∧ q.2.2.2.2.2 = none)
  | .newarray t => sm_at9 t a ∧ Cond.arrayClass (newarray.typeOf t) ∈ sm_TB
  | .multianewarray idx k => k = 2 ∧ ((a = 13 ∧ b = 9 ∧ Cond.classLink q.1 idx "[[I" ∈ sm_TB ∧ Cond.arrayClass .int ∈ sm_TB) ∨ (a = 14 ∧ b = 10 ∧ Cond.classLink q.1 idx "[[J" ∈ sm_TB ∧ Cond.arrayClass .long ∈ sm_TB))
  | .invokestatic idx => (c = 0 ∧ ∃ z, MI a = some z ∧ sm_cw q.1 idx c d b z) ∨ (c = 5 ∧ Cond.methodLink q.1 idx arraycopyName ∈ sm_TB ∧ Cond.native arraycopyName ∈ sm_TB ∧ Cond.static arraycopyName ∈ sm_TB ∧ Cond.initialized "java/lang/System" ∈ sm_TB)
  | .invokevirtual idx => (c = 1 ∧ ∃ z, MI a = some z ∧ sm_cw q.1 idx c d b z) ∨ (c = 6 ∧ Cond.methodLink q.1 idx yJ0_length_8abf5 ∈ sm_TB) ∨ (c = 7 ∧ Cond.methodLink q.1 idx yJ0_charAt_5068e ∈ sm_TB)
  | .invokespecial idx => ((c = 2 ∨ c = 3) ∧ ∃ z, MI a = some z ∧ sm_cw q.1 idx c d b z) ∨ (c = 4 ∧ Cond.methodLink q.1 idx objectInit ∈ sm_TB ∧ Cond.instanceMethod objectInit ∈ sm_TB ∧ Cond.code objectInit ⟨#[0xb1]⟩ 1 none ∈ sm_TB)
  | .ireturn => if c = 1 then q.2.2.2.2.1 = some .boolean else q.2.2.2.2.1 = some .int
  | .lreturn => q.2.2.2.2.1 = some .long
  | .return_ => q.2.2.2.2.1 = none
  | _ => True
def sm_sw (i : Instr) : Bool := match i with
  | .tableswitch _ _ _ _ | .lookupswitch _ _ => true
  | _ => false
def sm_ok (MI : Nat → Option sm_M) (q : sm_M) (pc : Nat) (e : am_E) : Prop := match e with
  | (i, n, a, b, c, d, rt, v, sw) => decode q.2.2.1 pc = .ok (i, n) ∧ (sm_sw i = false → n = sm_ilen i) ∧ sm_ok2 MI q pc i n a b c d rt v sw
