/-! ===== every entry of every table, by evaluation ===== -/
set_option maxRecDepth 100000
abbrev ck_F : Type := Nat × Nat × Nat × ck_I
abbrev ck_G : Type := Nat × Nat × Nat × Nat × Nat × ck_I × ck_I × ck_I
abbrev ck_X : Type := Nat × Nat × ck_I
abbrev ck_N : Type := Nat × Nat × ck_I
abbrev ck_K : Type := Nat × Int32 × ck_I
abbrev ck_J : Type := Nat × Int64 × ck_I
/-- what a class's pool gives: fields, calls, other calls, new and rows of rows, ints, longs -/
abbrev ck_Fm : Type := List ck_F × List ck_G × List ck_X × List ck_N × List ck_K × List ck_J
def ck_rw : Cond → Bool := fun _ => true
def ck_fb (own : String) (x : ck_F) : Bool := match sm_cl[x.2.1]? with
  | some (C, T, N) => Nat.blt x.2.2.1 N && ck_w x.2.2.2 (.fieldLink own x.1 C (T x.2.2.1).2.1 (T x.2.2.1).2.2.1)
  | none => false
theorem ck_fb_ok {own : String} {x : ck_F} (h : ck_fb own x = true) : ∃ C T N, sm_cl[x.2.1]? = some (C, T, N) ∧ x.2.2.1 < N ∧ Cond.fieldLink own x.1 C (T x.2.2.1).2.1 (T x.2.2.1).2.2.1 ∈ sm_TB := by
  unfold ck_fb at h
  split at h
  · next C T N hc =>
    rw [Bool.and_eq_true, Nat.blt_eq] at h
    exact ⟨C, T, N, hc, h.1, ck_w_ok h.2⟩
  · cases h
noncomputable def ck_gb (own : String) (x : ck_G) : Bool := match x with
  | (idx, c, a, d, b, i1, i2, i3) => !Nat.beq a 288 && match am_MI a with
    | none => false
    | some z => decide ((parseMethodDescriptor z.2.1.desc).map (fun z => z.parameters.length) = some b) && (match c with
      | 0 => ck_w i1 (.methodLink own idx z.2.1) && ck_w i2 (.static z.2.1)
      | 1 => z.2.2.2.2.2.isNone && ck_w i1 (.methodLink own idx z.2.1) && ck_w i2 (.instanceMethod z.2.1) && ck_w i3 (.selects z.2.1.cls z.2.1 z.2.1) && decide ((sm_cl[d]?).map (fun y => y.1) = some z.2.1.cls)
      | 2 => z.2.2.2.2.2.isNone && z.2.2.2.2.1.isNone && ck_w i1 (.methodLink own idx z.2.1) && ck_w i2 (.instanceMethod z.2.1) && decide (z.2.1.name = "<init>")
      | 3 => z.2.2.2.2.2.isNone && z.2.2.2.2.1.isNone && ck_w i2 (.instanceMethod z.2.1) && decide (z.2.1.name = "<init>") && decide ((own, idx, z.2.1, "LightClassifier") ∈ sm_nst)
      | _ => false)
theorem ck_and {x y : Bool} (h : (x && y) = true) : x = true ∧ y = true := by rw [Bool.and_eq_true] at h; exact h
theorem ck_none {α : Type} {x : Option α} (h : x.isNone = true) : x = none := by cases x <;> first | rfl | cases h
theorem ck_gb_ok {own : String} {idx c a d b : Nat} {i1 i2 i3 : ck_I} (h : ck_gb own (idx, c, a, d, b, i1, i2, i3) = true) : c < 4 ∧ ∃ z, am_MI a = some z ∧ sm_cw own idx c d b z := by
  unfold ck_gb at h
  dsimp only at h
  rw [Bool.and_eq_true] at h
  obtain ⟨ha, h⟩ := h
  have ha : a ≠ 288 := fun e => by subst e; exact absurd ha (by decide)
  cases hz : am_MI a with
  | none => rw [hz] at h; cases h
  | some z =>
    rw [hz] at h
    dsimp only at h
    rw [Bool.and_eq_true, decide_eq_true_eq] at h
    obtain ⟨hp, h⟩ := h
    obtain ⟨m1, m2, m3, m4, m5, m6⟩ := ck_mq a z ha hz
    match c, h with
    | 0, h =>
      have h := ck_and h
      exact ⟨by decide, z, rfl, m1, m2, hp, m5, m6, m3, (fun _ => ⟨ck_w_ok h.1, ck_w_ok h.2⟩), (fun e => by cases e), (fun e => by cases e), (fun e => by cases e)⟩
    | 1, h =>
      simp only [Bool.and_eq_true, decide_eq_true_eq] at h
      obtain ⟨⟨⟨⟨h1, h2⟩, h3⟩, h4⟩, h5⟩ := h
      refine ⟨by decide, z, rfl, m1, m2, hp, m5, m6, m3, (fun e => by cases e), (fun _ => ⟨ck_none h1, ck_w_ok h2, ck_w_ok h3, ck_w_ok h4, ?_⟩), (fun e => by cases e), (fun e => by cases e)⟩
      cases hd : sm_cl[d]? with
      | none => rw [hd] at h5; cases h5
      | some y =>
        rw [hd] at h5
        obtain ⟨C, T, N⟩ := y
        have h5 : some C = some z.2.1.cls := h5
        cases h5
        exact ⟨T, N, rfl⟩
    | 2, h =>
      simp only [Bool.and_eq_true, decide_eq_true_eq] at h
      obtain ⟨⟨⟨⟨h1, h2⟩, h3⟩, h4⟩, h5⟩ := h
      exact ⟨by decide, z, rfl, m1, m2, hp, m5, m6, m3, (fun e => by cases e), (fun e => by cases e), (fun _ => ⟨ck_none h1, ck_none h2, ck_w_ok h3, ck_w_ok h4, h5⟩), (fun e => by cases e)⟩
    | 3, h =>
      simp only [Bool.and_eq_true, decide_eq_true_eq] at h
      obtain ⟨⟨⟨⟨h1, h2⟩, h4⟩, h5⟩, h6⟩ := h
      exact ⟨by decide, z, rfl, m1, m2, hp, m5, m6, m3, (fun e => by cases e), (fun e => by cases e), (fun e => by cases e), (fun _ => ⟨ck_none h1, ck_none h2, ck_w_ok h4, h5, _, h6⟩)⟩
    | n + 4, h => cases h
def ck_xw (own : String) (idx : Nat) (k : Nat) : Cond := match k with
  | 4 => .methodLink own idx objectInit
  | 5 => .methodLink own idx arraycopyName
  | 6 => .methodLink own idx yJ0_length_8abf5
  | 7 => .methodLink own idx yJ0_charAt_5068e
  | 13 => .classLink own idx "[[I"
  | 14 => .classLink own idx "[[J"
  | _ => .tt
def ck_nb (own : String) (x : ck_N) : Bool := match sm_cl[x.2.1]? with
  | some (C, _, _) => ck_w x.2.2 (.classLink own x.1 C)
  | none => false
noncomputable def ck_fm (own : String) (f : ck_Fm) : Bool := f.1.all (ck_fb own) && f.2.1.all (ck_gb own) && f.2.2.1.all (fun x => ck_w x.2.2 (ck_xw own x.1 x.2.1)) && f.2.2.2.1.all (ck_nb own) && f.2.2.2.2.1.all (fun x => ck_w x.2.2 (.constant own x.1 x.2.1)) && f.2.2.2.2.2.all (fun x => ck_w x.2.2 (.constantLong own x.1 x.2.1))
def ck_tyc (ty : FieldType) : Nat := match ty with
  | .int => 0
  | .long => 1
  | .object _ => 2
  | .array _ => 2
  | .boolean => 3
  | _ => 4
/-- an entry -/
def ck_e (f : ck_Fm) (tw : Option (Nat × Nat × Nat)) (q : sm_M) (pc : Nat) (i : Instr) (n a b c d rt : Nat) (v : Value) (sw : List (Int32 × Nat)) : Bool := match i with
  | .iconst k => decide (v = .int (Int32.ofInt k))
  | .lconst k => decide (v = .long (Int64.ofNat k.val))
  | .bipush k => decide (v = .int (Int8.ofInt k).toInt32)
  | .sipush k => decide (v = .int (Int16.ofInt k).toInt32)
  | .ldc idx => match v with
    | .int x => f.2.2.2.2.1.any (fun y => Nat.beq y.1 idx && decide (y.2.1 = x))
    | .ref z => sm_str.any (fun y => decide (y.1 = q.1) && Nat.beq y.2.1 idx && Nat.beq y.2.2.2 z)
    | _ => false
  | .ldc_w idx => match v with
    | .int x => f.2.2.2.2.1.any (fun y => Nat.beq y.1 idx && decide (y.2.1 = x))
    | _ => false
  | .ldc2_w idx => match v with
    | .long x => f.2.2.2.2.2.any (fun y => Nat.beq y.1 idx && decide (y.2.1 = x))
    | _ => false
  | .istore_n k => Nat.blt k.val q.2.2.2.1
  | .istore k => Nat.blt k q.2.2.2.1
  | .astore_n k => Nat.blt k.val q.2.2.2.1
  | .astore k => Nat.blt k q.2.2.2.1
  | .lstore_n k => Nat.blt (k.val + 1) q.2.2.2.1
  | .lstore k => Nat.blt (k + 1) q.2.2.2.1
  | .iinc k z => Nat.blt k q.2.2.2.1 && decide (v = .int (Int32.ofInt z))
  | .goto off => decide ((pc : Int) + off = (a : Int))
  | .ifCond _ off => decide ((pc : Int) + off = (a : Int))
  | .if_icmp _ off => decide ((pc : Int) + off = (a : Int))
  | .tableswitch dflt lo hi offs => decide ((pc : Int) + dflt = (a : Int)) && decide (hi + 1 = lo + (sw.length : Int)) && (List.range sw.length).all (fun j => match sw[j]?, offs[j]? with
    | some z, some off => decide (z.1.toInt = lo + (j : Int)) && decide ((pc : Int) + off = (z.2 : Int))
    | _, _ => false)
  | .lookupswitch dflt ps => decide ((pc : Int) + dflt = (a : Int)) && (ps.toList.zip (ps.toList.drop 1)).all (fun (a, next) => a.1 < next.1) && decide (ps.toList = sw.map (fun z => (z.1.toInt, (z.2 : Int) - (pc : Int))))
  | .getfield idx => f.1.any (fun y => Nat.beq y.1 idx && Nat.beq y.2.1 a && Nat.beq y.2.2.1 b) && (match c with
    | 0 => Nat.beq (ck_tyc (sm_ty a b)) 0 || Nat.beq (ck_tyc (sm_ty a b)) 3
    | 1 => Nat.beq (ck_tyc (sm_ty a b)) 1
    | 2 => Nat.beq (ck_tyc (sm_ty a b)) 2
    | _ => true)
  | .putfield idx => f.1.any (fun y => Nat.beq y.1 idx && Nat.beq y.2.1 a && Nat.beq y.2.2.1 b) && Nat.beq (ck_tyc (sm_ty a b)) c && (match sm_cl[a]? with
    | some (C, T, _) => !(T b).2.2.2 || (decide (q.2.1.name = "<init>") && decide (C = q.1))
    | none => false)
  | .iaload => Nat.beq a 9 || Nat.beq a 15
  | .baload => Nat.beq a 11 || Nat.beq a 12
  | .aaload => Nat.beq a 13 || Nat.beq a 14
  | .bastore => Nat.beq a 11 || Nat.beq a 12
  | .new idx => match c with
    | 0 => f.2.2.2.1.any (fun y => Nat.beq y.1 idx && Nat.beq y.2.1 a) && Nat.beq b (sm_N a)
    | 1 => decide (tw = some (pc, idx, a)) && q.2.2.2.2.2.isNone
    | _ => true
  | .newarray t => match t with
    | .int => Nat.beq a 9
    | .long => Nat.beq a 10
    | .byte => Nat.beq a 11
    | .boolean => Nat.beq a 12
    | _ => false
  | .multianewarray idx k => Nat.beq k 2 && f.2.2.1.any (fun y => Nat.beq y.1 idx && Nat.beq y.2.1 a) && ((Nat.beq a 13 && Nat.beq b 9) || (Nat.beq a 14 && Nat.beq b 10))
  | .invokestatic idx => (Nat.beq c 0 && f.2.1.any (fun y => Nat.beq y.1 idx && Nat.beq y.2.1 c && Nat.beq y.2.2.1 a && Nat.beq y.2.2.2.1 d && Nat.beq y.2.2.2.2.1 b)) || (Nat.beq c 5 && f.2.2.1.any (fun y => Nat.beq y.1 idx && Nat.beq y.2.1 5))
  | .invokevirtual idx => (Nat.beq c 1 && f.2.1.any (fun y => Nat.beq y.1 idx && Nat.beq y.2.1 c && Nat.beq y.2.2.1 a && Nat.beq y.2.2.2.1 d && Nat.beq y.2.2.2.2.1 b)) || ((Nat.beq c 6 || Nat.beq c 7) && f.2.2.1.any (fun y => Nat.beq y.1 idx && Nat.beq y.2.1 c))
  | .invokespecial idx => ((Nat.beq c 2 || Nat.beq c 3) && f.2.1.any (fun y => Nat.beq y.1 idx && Nat.beq y.2.1 c && Nat.beq y.2.2.1 a && Nat.beq y.2.2.2.1 d && Nat.beq y.2.2.2.2.1 b)) || (Nat.beq c 4 && f.2.2.1.any (fun y => Nat.beq y.1 idx && Nat.beq y.2.1 4))
  | .ireturn => decide (q.2.2.2.2.1 = some (if c = 1 then .boolean else .int))
  | .lreturn => decide (q.2.2.2.2.1 = some .long)
  | .return_ => q.2.2.2.2.1.isNone
  | _ => true

theorem ck_gac1 : Cond.native arraycopyName ∈ sm_TB := ck_w_ok (x := (3, 154)) (by decide +kernel)
theorem ck_gac2 : Cond.static arraycopyName ∈ sm_TB := ck_w_ok (x := (3, 153)) (by decide +kernel)
theorem ck_gac3 : Cond.initialized "java/lang/System" ∈ sm_TB := ck_w_ok (x := (1, 20)) (by decide +kernel)
theorem ck_goi1 : Cond.instanceMethod objectInit ∈ sm_TB := ck_w_ok (x := (1, 35)) (by decide +kernel)
theorem ck_goi2 : Cond.code objectInit ⟨#[0xb1]⟩ 1 none ∈ sm_TB := ck_w_ok (x := (1, 36)) (by decide +kernel)
theorem ck_gaint : Cond.arrayClass .int ∈ sm_TB := ck_w_ok (x := (1, 170)) (by decide +kernel)
theorem ck_galong : Cond.arrayClass .long ∈ sm_TB := ck_w_ok (x := (1, 64)) (by decide +kernel)
theorem ck_gabyte : Cond.arrayClass .byte ∈ sm_TB := ck_w_ok (x := (1, 63)) (by decide +kernel)
theorem ck_gaboolean : Cond.arrayClass .boolean ∈ sm_TB := ck_w_ok (x := (7, 191)) (by decide +kernel)
theorem ck_or {x y : Bool} (h : (x || y) = true) : x = true ∨ y = true := by rw [Bool.or_eq_true] at h; exact h
theorem ck_any {α : Type} {l : List α} {p : α → Bool} (h : l.any p = true) : ∃ x ∈ l, p x = true := List.any_eq_true.mp h
theorem ck_all {α : Type} {l : List α} {p : α → Bool} (h : l.all p = true) : ∀ x ∈ l, p x = true := List.all_eq_true.mp h
theorem ck_eq {a b : Nat} (h : Nat.beq a b = true) : a = b := Nat.eq_of_beq_eq_true h
theorem ck_lt {a b : Nat} (h : Nat.blt a b = true) : a < b := by rw [Nat.blt_eq] at h; exact h
theorem ck_ty_int {ty : FieldType} (h : ck_tyc ty = 0) : ty = .int := by
  unfold ck_tyc at h
  split at h <;> first | rfl | cases h
theorem ck_ty_long {ty : FieldType} (h : ck_tyc ty = 1) : ty = .long := by
  unfold ck_tyc at h
  split at h <;> first | rfl | cases h
theorem ck_ty_bool {ty : FieldType} (h : ck_tyc ty = 3) : ty = .boolean := by
  unfold ck_tyc at h
  split at h <;> first | rfl | cases h
theorem ck_ty_ref {ty : FieldType} (h : ck_tyc ty = 2) : (∃ z, ty = .object z) ∨ ∃ z, ty = .array z := by
  unfold ck_tyc at h
  split at h <;> first | exact Or.inl ⟨_, rfl⟩ | exact Or.inr ⟨_, rfl⟩ | cases h
theorem ck_g3 {own : String} {l : List ck_G} (hl : ∀ x ∈ l, ck_gb own x = true) {idx c a d b : Nat} (h : l.any (fun y => Nat.beq y.1 idx && Nat.beq y.2.1 c && Nat.beq y.2.2.1 a && Nat.beq y.2.2.2.1 d && Nat.beq y.2.2.2.2.1 b) = true) : ∃ z, am_MI a = some z ∧ sm_cw own idx c d b z := by
  obtain ⟨⟨idx', c', a', d', b', i1, i2, i3⟩, hx, h⟩ := ck_any h
  obtain ⟨h, h5⟩ := ck_and h
  obtain ⟨h, h4⟩ := ck_and h
  obtain ⟨h, h3⟩ := ck_and h
  obtain ⟨h1, h2⟩ := ck_and h
  have h1 : idx' = idx := ck_eq h1
  have h2 : c' = c := ck_eq h2
  have h3 : a' = a := ck_eq h3
  have h4 : d' = d := ck_eq h4
  have h5 : b' = b := ck_eq h5
  subst h1 h2 h3 h4 h5
  exact (ck_gb_ok (hl _ hx)).2
theorem ck_x3 {own : String} {l : List ck_X} (hl : ∀ x ∈ l, ck_w x.2.2 (ck_xw own x.1 x.2.1) = true) {idx k : Nat} (h : l.any (fun y => Nat.beq y.1 idx && Nat.beq y.2.1 k) = true) : ck_xw own idx k ∈ sm_TB := by
  obtain ⟨x, hx, h⟩ := ck_any h
  obtain ⟨h1, h2⟩ := ck_and h
  have := ck_w_ok (hl x hx)
  rw [ck_eq h1, ck_eq h2] at this
  exact this
theorem ck_f3 {own : String} {l : List ck_F} (hl : ∀ x ∈ l, ck_fb own x = true) {idx a b : Nat} (h : l.any (fun y => Nat.beq y.1 idx && Nat.beq y.2.1 a && Nat.beq y.2.2.1 b) = true) : ∃ C T N, sm_cl[a]? = some (C, T, N) ∧ b < N ∧ Cond.fieldLink own idx C (T b).2.1 (T b).2.2.1 ∈ sm_TB := by
  obtain ⟨x, hx, h⟩ := ck_any h
  obtain ⟨h, h3⟩ := ck_and h
  obtain ⟨h1, h2⟩ := ck_and h
  have := ck_fb_ok (hl x hx)
  rw [ck_eq h1, ck_eq h2, ck_eq h3] at this
  exact this
theorem ck_e_ok {f : ck_Fm} {tw : Option (Nat × Nat × Nat)} {q : sm_M} {pc : Nat} {i : Instr} {n a b c d rt : Nat} {v : Value} {sw : List (Int32 × Nat)} (hf : ck_fm q.1 f = true) (ht : ∀ x, tw = some x → sm_tw q.1 q.2.2.1 x.1 x.2.1 x.2.2) (h : ck_e f tw q pc i n a b c d rt v sw = true) : sm_ok2 am_MI q pc i n a b c d rt v sw := by
  obtain ⟨hf, f6⟩ := ck_and hf
  obtain ⟨hf, f5⟩ := ck_and hf
  obtain ⟨hf, f4⟩ := ck_and hf
  obtain ⟨hf, f3⟩ := ck_and hf
  obtain ⟨f1, f2⟩ := ck_and hf
  have f1 := ck_all f1
  have f2 := ck_all f2
  have f3 := ck_all f3
  have f4 := ck_all f4
  have f5 := ck_all f5
  have f6 := ck_all f6
  cases i
  case iconst k => exact of_decide_eq_true (p := v = .int (Int32.ofInt k)) h
  case lconst k => exact of_decide_eq_true (p := v = .long (Int64.ofNat k.val)) h
  case bipush k => exact of_decide_eq_true (p := v = .int (Int8.ofInt k).toInt32) h
  case sipush k => exact of_decide_eq_true (p := v = .int (Int16.ofInt k).toInt32) h
  case ldc idx =>
    cases v
    case int x =>
      obtain ⟨y, hy, h⟩ := ck_any h
      obtain ⟨h1, h2⟩ := ck_and h
      have := ck_w_ok (f5 y hy)
      rw [ck_eq h1, of_decide_eq_true h2] at this
      exact Or.inl ⟨x, rfl, this⟩
    case ref z =>
      obtain ⟨⟨o9, i9, t9, z9⟩, hy, h⟩ := ck_any h
      obtain ⟨h, h3⟩ := ck_and h
      obtain ⟨h1, h2⟩ := ck_and h
      have e1 : o9 = q.1 := of_decide_eq_true h1
      have e2 : i9 = idx := ck_eq h2
      have e3 : z9 = z := ck_eq h3
      subst e1
      subst e2
      subst e3
      exact Or.inr ⟨t9, z9, rfl, hy⟩
    all_goals cases h
  case ldc_w idx =>
    cases v
    case int x =>
      obtain ⟨y, hy, h⟩ := ck_any h
      obtain ⟨h1, h2⟩ := ck_and h
      have := ck_w_ok (f5 y hy)
      rw [ck_eq h1, of_decide_eq_true h2] at this
      exact ⟨x, rfl, this⟩
    all_goals cases h
  case ldc2_w idx =>
    cases v
    case long x =>
      obtain ⟨y, hy, h⟩ := ck_any h
      obtain ⟨h1, h2⟩ := ck_and h
      have := ck_w_ok (f6 y hy)
      rw [ck_eq h1, of_decide_eq_true h2] at this
      exact ⟨x, rfl, this⟩
    all_goals cases h
  case istore_n k => exact ck_lt h
  case istore k => exact ck_lt h
  case astore_n k => exact ck_lt h
  case astore k => exact ck_lt h
  case lstore_n k => exact ck_lt h
  case lstore k => exact ck_lt h
  case iinc k z =>
    obtain ⟨h1, h2⟩ := ck_and h
    exact ⟨ck_lt h1, of_decide_eq_true h2⟩
  case goto off => exact of_decide_eq_true (p := (pc : Int) + off = (a : Int)) h
  case ifCond _ off => exact of_decide_eq_true (p := (pc : Int) + off = (a : Int)) h
  case if_icmp _ off => exact of_decide_eq_true (p := (pc : Int) + off = (a : Int)) h
  case tableswitch dflt lo hi offs =>
    obtain ⟨h, h3⟩ := ck_and h
    obtain ⟨h1, h2⟩ := ck_and h
    refine ⟨of_decide_eq_true h1, of_decide_eq_true h2, fun j z hz => ?_⟩
    have hj : j < sw.length := (List.getElem?_eq_some_iff.mp hz).1
    have h4 := ck_all h3 j (List.mem_range.mpr hj)
    rw [hz] at h4
    cases ho : offs[j]? with
    | none => rw [ho] at h4; cases h4
    | some off =>
      rw [ho] at h4
      obtain ⟨h5, h6⟩ := ck_and h4
      exact ⟨of_decide_eq_true h5, off, rfl, of_decide_eq_true h6⟩
  case lookupswitch dflt ps =>
    obtain ⟨h, h3⟩ := ck_and h
    obtain ⟨h1, h2⟩ := ck_and h
    exact ⟨of_decide_eq_true h1, h2, of_decide_eq_true h3⟩
  case getfield idx =>
    obtain ⟨h1, h2⟩ := ck_and h
    obtain ⟨C, T, N, hc, hb, hw⟩ := ck_f3 f1 h1
    obtain ⟨c1, c2, c3, c4, c5, c6, c7, c8, c9⟩ := ck_cl a C T N hc
    refine ⟨C, T, N, hc, c2, hb, c1, hw, c4 b hb, c3, ?_, ?_, ?_⟩
    · rintro rfl g h o
      rcases ck_or h2 with h2 | h2
      · rw [ck_ty_int (ck_eq h2)]; rfl
      · rw [ck_ty_bool (ck_eq h2)]; rfl
    · rintro rfl
      exact ck_ty_long (ck_eq h2)
    · rintro rfl
      exact ck_ty_ref (ck_eq h2)
  case putfield idx =>
    obtain ⟨h, h3⟩ := ck_and h
    obtain ⟨h1, h2⟩ := ck_and h
    have h2 := ck_eq h2
    obtain ⟨C, T, N, hc, hb, hw⟩ := ck_f3 f1 h1
    obtain ⟨c1, c2, c3, c4, c5, c6, c7, c8, c9⟩ := ck_cl a C T N hc
    rw [hc] at h3
    refine ⟨C, T, N, hc, c2, hb, c1, hw, c4 b hb, c3, c5, c6, ?_, ?_, ?_, ?_, ?_⟩
    · intro hfin
      dsimp only at h3
      rw [hfin] at h3
      obtain ⟨h4, h5⟩ := ck_and h3
      exact ⟨of_decide_eq_true h4, of_decide_eq_true h5⟩
    · rintro rfl; exact ck_ty_int h2
    · rintro rfl; exact ck_ty_long h2
    · rintro rfl; exact ck_ty_ref h2
    · rintro rfl; exact ck_ty_bool h2
  case iaload => exact (ck_or h).imp ck_eq ck_eq
  case baload => exact (ck_or h).imp ck_eq ck_eq
  case aaload => exact (ck_or h).imp ck_eq ck_eq
  case bastore => exact (ck_or h).imp ck_eq ck_eq
  case new idx =>
    constructor
    · rintro rfl
      obtain ⟨h1, h2⟩ := ck_and h
      obtain ⟨y, hy, h1⟩ := ck_any h1
      obtain ⟨h3, h4⟩ := ck_and h1
      have h5 := f4 y hy
      unfold ck_nb at h5
      rw [ck_eq h3, ck_eq h4] at h5
      cases hc : sm_cl[a]? with
      | none => rw [hc] at h5; cases h5
      | some x =>
        obtain ⟨C, T, N⟩ := x
        rw [hc] at h5
        obtain ⟨c1, c2, c3, c4, c5, c6, c7, c8, c9⟩ := ck_cl a C T N hc
        exact ⟨C, T, N, rfl, c2, c1, (ck_eq h2).trans c2.symm, ck_w_ok h5, c8, c9, c3, c5, c7⟩
    · rintro rfl
      obtain ⟨h1, h2⟩ := ck_and h
      exact ⟨ht _ (of_decide_eq_true h1), ck_none h2⟩
  case newarray t =>
    cases t
    case int => exact ⟨Or.inl ⟨rfl, ck_eq h⟩, ck_gaint⟩
    case long => exact ⟨Or.inr (Or.inl ⟨rfl, ck_eq h⟩), ck_galong⟩
    case byte => exact ⟨Or.inr (Or.inr (Or.inl ⟨rfl, ck_eq h⟩)), ck_gabyte⟩
    case boolean => exact ⟨Or.inr (Or.inr (Or.inr ⟨rfl, ck_eq h⟩)), ck_gaboolean⟩
    all_goals cases h
  case multianewarray idx k =>
    obtain ⟨h, h3⟩ := ck_and h
    obtain ⟨h1, h2⟩ := ck_and h
    have hx := ck_x3 f3 h2
    refine ⟨ck_eq h1, ?_⟩
    rcases ck_or h3 with h3 | h3
    · obtain ⟨h4, h5⟩ := ck_and h3
      have h4 := ck_eq h4
      subst h4
      exact Or.inl ⟨rfl, ck_eq h5, hx, ck_gaint⟩
    · obtain ⟨h4, h5⟩ := ck_and h3
      have h4 := ck_eq h4
      subst h4
      exact Or.inr ⟨rfl, ck_eq h5, hx, ck_galong⟩
  case invokestatic idx =>
    rcases ck_or h with h | h
    · obtain ⟨h1, h2⟩ := ck_and h
      exact Or.inl ⟨ck_eq h1, ck_g3 f2 h2⟩
    · obtain ⟨h1, h2⟩ := ck_and h
      exact Or.inr ⟨ck_eq h1, ck_x3 f3 h2, ck_gac1, ck_gac2, ck_gac3⟩
  case invokevirtual idx =>
    rcases ck_or h with h | h
    · obtain ⟨h1, h2⟩ := ck_and h
      exact Or.inl ⟨ck_eq h1, ck_g3 f2 h2⟩
    · obtain ⟨h1, h2⟩ := ck_and h
      have hx := ck_x3 f3 h2
      rcases ck_or h1 with h1 | h1
      · have h1 := ck_eq h1
        subst h1
        exact Or.inr (Or.inl ⟨rfl, hx⟩)
      · have h1 := ck_eq h1
        subst h1
        exact Or.inr (Or.inr ⟨rfl, hx⟩)
  case invokespecial idx =>
    rcases ck_or h with h | h
    · obtain ⟨h1, h2⟩ := ck_and h
      exact Or.inl ⟨(ck_or h1).imp ck_eq ck_eq, ck_g3 f2 h2⟩
    · obtain ⟨h1, h2⟩ := ck_and h
      exact Or.inr ⟨ck_eq h1, ck_x3 f3 h2, ck_goi1, ck_goi2⟩
  case ireturn =>
    have h := of_decide_eq_true (p := q.2.2.2.2.1 = some (if c = 1 then .boolean else .int)) h
    show if c = 1 then q.2.2.2.2.1 = some .boolean else q.2.2.2.2.1 = some .int
    split
    · next e => rw [if_pos e] at h; exact h
    · next e => rw [if_neg e] at h; exact h
  case lreturn => exact of_decide_eq_true (p := q.2.2.2.2.1 = some .long) h
  case return_ => exact ck_none h
  all_goals exact trivial
/-- all entries of a table below an end -/
def ck_tab (f : ck_Fm) (tw : Option (Nat × Nat × Nat)) (q : sm_M) (t : Nat → Option am_E) (len : Nat) : Bool := (List.range len).all (fun pc => match t pc with
  | none => true
  | some (i, n, a, b, c, d, rt, v, sw) => decide (decode q.2.2.1 pc = .ok (i, n)) && (sm_sw i || Nat.beq n (sm_ilen i)) && ck_e f tw q pc i n a b c d rt v sw)
theorem ck_tab_ok {f : ck_Fm} {tw : Option (Nat × Nat × Nat)} {q : sm_M} {t : Nat → Option am_E} {len : Nat} (hf : ck_fm q.1 f = true) (ht : ∀ x, tw = some x → sm_tw q.1 q.2.2.1 x.1 x.2.1 x.2.2) (h : ck_tab f tw q t len = true) : ∀ pc en, (bif Nat.blt pc len then t pc else none) = some en → sm_ok am_MI q pc en := by
  intro pc en he
  cases hb : Nat.blt pc len with
  | false => rw [hb] at he; cases he
  | true =>
    rw [hb] at he
    have h1 := ck_all h pc (List.mem_range.mpr (ck_lt hb))
    have he : t pc = some en := he
    rw [he] at h1
    obtain ⟨i, n, a, b, c, d, rt, v, sw⟩ := en
    obtain ⟨h1, h3⟩ := ck_and h1
    obtain ⟨h1, h2⟩ := ck_and h1
    refine ⟨of_decide_eq_true h1, fun e => ?_, ck_e_ok hf ht h3⟩
    rcases ck_or h2 with h2 | h2
    · rw [e] at h2; cases h2
    · exact ck_eq h2
