/-! ===== THE ABSTRACT MACHINE: the bytecode of the claim's own methods over a heap of named cells; everything is a function, a stop is 'none' ===== -/
/-- ints, longs and references by cell and place; kind and length of each cell; cells and slots that exceptions took -/
abbrev am_H : Type := (Nat → Nat → Int32) × (Nat → Nat → Int64) × (Nat → Nat → Option Nat) × List (Nat × Nat) × Nat × Nat
def am_I (h : am_H) : Nat → Nat → Int32 := h.1
def am_L (h : am_H) : Nat → Nat → Int64 := h.2.1
def am_P (h : am_H) : Nat → Nat → Option Nat := h.2.2.1
def am_S (h : am_H) : List (Nat × Nat) := h.2.2.2.1
def am_G (h : am_H) : Nat := h.2.2.2.2.1
def am_T (h : am_H) : Nat := h.2.2.2.2.2
def am_up {α : Type} (f : Nat → Nat → α) (a i : Nat) (v : α) : Nat → Nat → α := fun b j => if b = a ∧ j = i then v else f b j
def am_rw {α : Type} (f : Nat → Nat → α) (a : Nat) (g : Nat → α) : Nat → Nat → α := fun b j => if b = a then g j else f b j
def am_sI (h : am_H) (a i : Nat) (v : Int32) : am_H := (am_up h.1 a i v, h.2)
def am_sL (h : am_H) (a i : Nat) (v : Int64) : am_H := (h.1, am_up h.2.1 a i v, h.2.2)
def am_sP (h : am_H) (a i : Nat) (v : Option Nat) : am_H := (h.1, h.2.1, am_up h.2.2.1 a i v, h.2.2.2)
/-- a row of ints at once -/
def am_rI (h : am_H) (a : Nat) (g : Nat → Int32) : am_H := (am_rw h.1 a g, h.2)
/-- a new cell -/
def am_nw (h : am_H) (q : Nat × Nat) : am_H := (am_rw h.1 (am_S h).length (fun _ => 0), am_rw h.2.1 (am_S h).length (fun _ => 0), am_rw h.2.2.1 (am_S h).length (fun _ => none), am_S h ++ [q], h.2.2.2.2)
/-- a new row of rows: the outer one, then n of length k -/
def am_nm (h : am_H) (kd kd' n k : Nat) : am_H :=
  (fun b j => if (am_S h).length ≤ b then 0 else h.1 b j, fun b j => if (am_S h).length ≤ b then 0 else h.2.1 b j,
   fun b j => if b = (am_S h).length then (if j < n then some ((am_S h).length + 1 + j) else none) else if (am_S h).length ≤ b then none else h.2.2.1 b j,
   am_S h ++ ((kd, n) :: List.replicate n (kd', k)), h.2.2.2.2)
/-- an exception was made -/
def am_gb (h : am_H) : am_H := (h.1, h.2.1, h.2.2.1, h.2.2.2.1, h.2.2.2.2.1 + 1, h.2.2.2.2.2 + 6)
/-- an end: thrown (which), or returned -/
abbrev am_R : Type := (Nat ⊕ Option Value) × am_H
abbrev am_V : Type := List (Nat × Value)
abbrev am_C : Type := Nat → am_V → List Value → am_H → Option am_R
/-- an instruction, its length, five numbers that resolve it, its constant, its switch -/
abbrev am_E : Type := Instr × Nat × Nat × Nat × Nat × Nat × Nat × Value × List (Int32 × Nat)
def am_pi (S : List Value) (k : Int32 → List Value → Option am_R) : Option am_R := match S with
  | .int x :: r => k x r
  | _ => none
def am_pl (S : List Value) (k : Int64 → List Value → Option am_R) : Option am_R := match S with
  | .long x :: r => k x r
  | _ => none
def am_pr (S : List Value) (k : Nat → List Value → Option am_R) : Option am_R := match S with
  | .ref x :: r => k x r
  | _ => none
def am_lk : am_V → Nat → Option Value
  | [], _ => none
  | q :: t, k => bif Nat.beq q.1 k then some q.2 else am_lk t k
def am_li (L : am_V) (i : Nat) (k : Int32 → Option am_R) : Option am_R := match am_lk L i with
  | some (.int x) => k x
  | _ => none
def am_ll (L : am_V) (i : Nat) (k : Int64 → Option am_R) : Option am_R := match am_lk L i with
  | some (.long x) => k x
  | _ => none
def am_lr (L : am_V) (i : Nat) (k : Nat → Option am_R) : Option am_R := match am_lk L i with
  | some (.ref x) => k x
  | _ => none
def am_f1 (L : am_V) (i : Nat) : am_V := L.filter (fun q => !(q.1 == i) && !(q.1 + 1 == i && q.2.category == 2))
def am_f2 (L : am_V) (i : Nat) : am_V := L.filter (fun q => !(q.1 == i) && (!(q.1 == i + 1) && !(q.1 + 1 == i && q.2.category == 2)))
def am_nr (ks : List Nat) (L : am_V) : am_V := ks.filterMap (fun k => (am_lk L k).map (fun v => (k, v)))
/-- cell o is of kind c -/
def am_kd (h : am_H) (o c : Nat) : Bool := match (am_S h)[o]? with
  | some q => Nat.beq q.1 c
  | none => false
def am_gi (h : am_H) (o c b : Nat) (k : Int32 → Option am_R) : Option am_R := bif am_kd h o c then k (am_I h o b) else none
def am_gl (h : am_H) (o c b : Nat) (k : Int64 → Option am_R) : Option am_R := bif am_kd h o c then k (am_L h o b) else none
def am_gp (h : am_H) (o c b : Nat) (k : Nat → Option am_R) : Option am_R := bif am_kd h o c then (match am_P h o b with
  | some p => k p
  | none => none) else none
/-- place i of a row of kind c -/
def am_ar (h : am_H) (c a : Nat) (i : Int32) (k : Nat → Option am_R) : Option am_R := match (am_S h)[a]? with
  | some q => bif Nat.beq q.1 c && !(decide (i < 0) || Nat.ble q.2 i.toNatClampNeg) then k i.toNatClampNeg else none
  | none => none
def am_ap (h : am_H) (c a : Nat) (i : Int32) (k : Nat → Option am_R) : Option am_R := am_ar h c a i (fun j => match am_P h a j with
  | some p => k p
  | none => none)
def am_ck (h : am_H) (o c : Nat) (k : Option am_R) : Option am_R := bif am_kd h o c then k else none
def am_al (h : am_H) (o : Nat) (k : Int32 → Option am_R) : Option am_R := match (am_S h)[o]? with
  | some q => bif Nat.ble 9 q.1 then k (Int32.ofNat q.2) else none
  | none => none
def am_c8 (r : List Value) (k : Option am_R) : Option am_R := bif Nat.ble (r.map fun v => v.category).sum 8 then k else none
def am_01 (v : Int32) (k : Option am_R) : Option am_R := bif v == 0 || v == 1 then k else none
def am_sp (n : Nat) (S : List Value) (k : List Value → List Value → Option am_R) : Option am_R := bif Nat.ble n S.length then k (S.take n).reverse (S.drop n) else none
def am_sw : List (Int32 × Nat) → Int32 → Nat → (Nat → Option am_R) → Option am_R
  | [], _, d, k => k d
  | q :: t, x, d, k => if x = q.1 then k q.2 else am_sw t x d k
def am_iushr (x y : Int32) : Int32 := (x.toUInt32 >>> (y.toUInt32 &&& Int32.toUInt32 31)).toInt32
def am_lushr (x : Int64) (y : Int32) : Int64 := (x.toUInt64 >>> (y.toInt64.toUInt64 &&& Int64.toUInt64 63)).toInt64
def am_ishl (x y : Int32) : Int32 := x <<< (y &&& 31)
def am_ishr (x y : Int32) : Int32 := x >>> (y &&& 31)
def am_lshl (x : Int64) (y : Int32) : Int64 := x <<< (y.toInt64 &&& 63)
def am_lshr (x : Int64) (y : Int32) : Int64 := x >>> (y.toInt64 &&& 63)
def am_irem (x y : Int32) : Int32 := x - x / y * y
/-- handlers: from, to, exception, where it goes on, the local that takes it -/
abbrev am_X : Type := List (Nat × Nat × Nat × Nat × Nat)
def am_hd : am_X → Nat → Nat → Option (Nat × Nat)
  | [], _, _ => none
  | q :: t, pc, E => bif Nat.ble q.1 pc && Nat.blt pc q.2.1 && Nat.beq q.2.2.1 E then some q.2.2.2 else am_hd t pc E
/-- behind a callee that answers nothing, an int, a long -/
def am_ov (o : Option am_R) (k : am_H → Option am_R) (ke : Nat → am_H → Option am_R) : Option am_R := match o with
  | some (.inr none, h) => k h
  | some (.inl E, h) => ke E h
  | _ => none
def am_oi (o : Option am_R) (k : Int32 → am_H → Option am_R) (ke : Nat → am_H → Option am_R) : Option am_R := match o with
  | some (.inr (some (.int x)), h) => k x h
  | some (.inl E, h) => ke E h
  | _ => none
def am_ol (o : Option am_R) (k : Int64 → am_H → Option am_R) (ke : Nat → am_H → Option am_R) : Option am_R := match o with
  | some (.inr (some (.long x)), h) => k x h
  | some (.inl E, h) => ke E h
  | _ => none
def am_th (tb : am_X) (pc : Nat) (L : am_V) (k : am_C) (E : Nat) (h : am_H) : Option am_R := match am_hd tb pc E with
  | some q => k q.1 (am_f1 L q.2) [] h
  | none => some (.inl E, h)
/-- the same without handlers -/
def am_cv (o : Option am_R) (k : am_H → Option am_R) : Option am_R := am_ov o k (fun E h => some (.inl E, h))
def am_ci (o : Option am_R) (k : Int32 → am_H → Option am_R) : Option am_R := am_oi o k (fun E h => some (.inl E, h))
def am_cl (o : Option am_R) (k : Int64 → am_H → Option am_R) : Option am_R := am_ol o k (fun E h => some (.inl E, h))
def am_bk (tb : am_X) (pc : Nat) (L : am_V) (r : List Value) (rt : Nat) (k : am_C) (o : Option am_R) : Option am_R := match rt with
  | 0 => am_ov o (fun h => k (pc + 3) L r h) (am_th tb pc L k)
  | 1 => am_oi o (fun x h => k (pc + 3) L (.int x :: r) h) (am_th tb pc L k)
  | 2 => am_ol o (fun x h => k (pc + 3) L (.long x :: r) h) (am_th tb pc L k)
  | _ => none
/-- the String constants: 0 top, 1 nothing, 2 some -/
def am_tx (o : Nat) : Option (List Int32) := match o with
  | 1000000 => some [116, 111, 112]
  | 1000001 => some [110, 111, 116, 104, 105, 110, 103]
  | 1000002 => some [115, 111, 109, 101]
  | _ => none
/-- System.arraycopy between int rows -/
def am_cp (h : am_H) (f : Nat) (sp : Int32) (t : Nat) (dp n : Int32) (k : am_H → Option am_R) : Option am_R := match (am_S h)[f]?, (am_S h)[t]? with
  | some qf, some qt => bif Nat.beq qf.1 9 && Nat.beq qt.1 9 && !(decide (sp < 0) || decide (dp < 0) || decide (n < 0)) && Nat.ble (sp.toNatClampNeg + n.toNatClampNeg) qf.2 && Nat.ble (dp.toNatClampNeg + n.toNatClampNeg) qt.2 then
      k (am_rI h t (va_cpy (am_I h f) (am_I h t) sp.toNatClampNeg dp.toNatClampNeg n.toNatClampNeg)) else none
  | _, _ => none
/-- length and charAt of a constant -/
def am_tl (o : Nat) (k : Int32 → Option am_R) : Option am_R := match am_tx o with
  | some t => k (Int32.ofNat t.length)
  | none => none
def am_tc (o : Nat) (i : Int32) (k : Int32 → Option am_R) : Option am_R := match am_tx o with
  | some t => bif !(decide (i < 0) || Nat.ble t.length i.toNatClampNeg) then k (t.getD i.toNatClampNeg 0) else none
  | none => none
def am_call (F : Nat → List Value → am_H → Option am_R) (tb : am_X) (a b c d rt : Nat) (pc : Nat) (L : am_V) (S : List Value) (h : am_H) (k : am_C) : Option am_R := match c with
  | 0 => am_sp b S fun As r => am_c8 r (am_bk tb pc L r rt k (F a As h))
  | 1 => am_sp b S fun As r => am_pr r fun o r => am_c8 r (am_ck h o d (am_bk tb pc L r rt k (F a (.ref o :: As) h)))
  | 2 => am_sp b S fun As r => am_pr r fun o r => am_c8 r (am_ck h o d (am_bk tb pc L r rt k (F a (.ref o :: As) h)))
  | 3 => am_sp b S fun As r => am_pr r fun o r => am_c8 r (am_ck h o d (am_bk tb pc L r rt k (F a (.ref o :: As) h)))
  | 4 => am_pr S fun _ r => am_c8 r (k (pc + 3) L r h)
  | 5 => am_pi S fun n S => am_pi S fun dp S => am_pr S fun t S => am_pi S fun sp S => am_pr S fun f S => am_c8 S (am_cp h f sp t dp n fun h => k (pc + 3) L S h)
  | 6 => am_pr S fun o r => am_c8 r (am_tl o fun x => k (pc + 3) L (.int x :: r) h)
  | 7 => am_pi S fun i S => am_pr S fun o r => am_c8 r (am_tc o i fun x => k (pc + 3) L (.int x :: r) h)
  | _ => none
/-- one instruction -/
def am_step (F : Nat → List Value → am_H → Option am_R) (tb : am_X) (e : am_E) (pc : Nat) (L : am_V) (S : List Value) (h : am_H) (k : am_C) : Option am_R :=
  let a := e.2.2.1
  let b := e.2.2.2.1
  let c := e.2.2.2.2.1
  let d := e.2.2.2.2.2.1
  let rt := e.2.2.2.2.2.2.1
  let v := e.2.2.2.2.2.2.2.1
  match e.1 with
  | .iconst _ => k (pc + 1) L (v :: S) h
  | .lconst _ => k (pc + 1) L (v :: S) h
  | .bipush _ => k (pc + 2) L (v :: S) h
  | .sipush _ => k (pc + 3) L (v :: S) h
  | .ldc _ => k (pc + 2) L (v :: S) h
  | .ldc_w _ => k (pc + 3) L (v :: S) h
  | .ldc2_w _ => k (pc + 3) L (v :: S) h
  | .iload_n i => am_li L i.val fun x => k (pc + 1) L (.int x :: S) h
  | .iload i => am_li L i fun x => k (pc + 2) L (.int x :: S) h
  | .lload_n i => am_ll L i.val fun x => k (pc + 1) L (.long x :: S) h
  | .lload i => am_ll L i fun x => k (pc + 2) L (.long x :: S) h
  | .aload_n i => am_lr L i.val fun x => k (pc + 1) L (.ref x :: S) h
  | .aload i => am_lr L i fun x => k (pc + 2) L (.ref x :: S) h
  | .istore_n i => am_pi S fun x S => k (pc + 1) ((i.val, .int x) :: am_f1 L i.val) S h
  | .istore i => am_pi S fun x S => k (pc + 2) ((i, .int x) :: am_f1 L i) S h
  | .lstore_n i => am_pl S fun x S => k (pc + 1) ((i.val, .long x) :: am_f2 L i.val) S h
  | .lstore i => am_pl S fun x S => k (pc + 2) ((i, .long x) :: am_f2 L i) S h
  | .astore_n i => am_pr S fun x S => k (pc + 1) ((i.val, .ref x) :: am_f1 L i.val) S h
  | .astore i => am_pr S fun x S => k (pc + 2) ((i, .ref x) :: am_f1 L i) S h
  | .iinc i _ => match v with
    | .int y => am_li L i fun x => k (pc + 3) ((i, .int (x + y)) :: am_f1 L i) S h
    | _ => none
  | .iadd => am_pi S fun y S => am_pi S fun x S => k (pc + 1) L (.int (x + y) :: S) h
  | .isub => am_pi S fun y S => am_pi S fun x S => k (pc + 1) L (.int (x - y) :: S) h
  | .imul => am_pi S fun y S => am_pi S fun x S => k (pc + 1) L (.int (x * y) :: S) h
  | .iand => am_pi S fun y S => am_pi S fun x S => k (pc + 1) L (.int (x &&& y) :: S) h
  | .ior => am_pi S fun y S => am_pi S fun x S => k (pc + 1) L (.int (x ||| y) :: S) h
  | .ixor => am_pi S fun y S => am_pi S fun x S => k (pc + 1) L (.int (x ^^^ y) :: S) h
  | .idiv => am_pi S fun y S => am_pi S fun x S => if y = 0 then none else k (pc + 1) L (.int (x / y) :: S) h
  | .irem => am_pi S fun y S => am_pi S fun x S => if y = 0 then none else k (pc + 1) L (.int (am_irem x y) :: S) h
  | .ishl => am_pi S fun y S => am_pi S fun x S => k (pc + 1) L (.int (am_ishl x y) :: S) h
  | .ishr => am_pi S fun y S => am_pi S fun x S => k (pc + 1) L (.int (am_ishr x y) :: S) h
  | .iushr => am_pi S fun y S => am_pi S fun x S => k (pc + 1) L (.int (am_iushr x y) :: S) h
  | .ladd => am_pl S fun y S => am_pl S fun x S => k (pc + 1) L (.long (x + y) :: S) h
  | .lsub => am_pl S fun y S => am_pl S fun x S => k (pc + 1) L (.long (x - y) :: S) h
  | .lmul => am_pl S fun y S => am_pl S fun x S => k (pc + 1) L (.long (x * y) :: S) h
  | .land => am_pl S fun y S => am_pl S fun x S => k (pc + 1) L (.long (x &&& y) :: S) h
  | .lor => am_pl S fun y S => am_pl S fun x S => k (pc + 1) L (.long (x ||| y) :: S) h
  | .lxor => am_pl S fun y S => am_pl S fun x S => k (pc + 1) L (.long (x ^^^ y) :: S) h
  | .lshl => am_pi S fun y S => am_pl S fun x S => k (pc + 1) L (.long (am_lshl x y) :: S) h
  | .lshr => am_pi S fun y S => am_pl S fun x S => k (pc + 1) L (.long (am_lshr x y) :: S) h
  | .lushr => am_pi S fun y S => am_pl S fun x S => k (pc + 1) L (.long (am_lushr x y) :: S) h
  | .lcmp => am_pl S fun y S => am_pl S fun x S => k (pc + 1) L (.int (lg_cmp x y) :: S) h
  | .i2l => am_pi S fun x S => k (pc + 1) L (.long x.toInt64 :: S) h
  | .l2i => am_pl S fun x S => k (pc + 1) L (.int x.toInt32 :: S) h
  | .i2b => am_pi S fun x S => k (pc + 1) L (.int x.toInt8.toInt32 :: S) h
  | .dup => match S with
    | x :: S => bif x.category == 1 then k (pc + 1) L (x :: x :: S) h else none
    | [] => none
  | .pop => match S with
    | x :: S => bif x.category == 1 then k (pc + 1) L S h else none
    | [] => none
  | .dup2 => match S with
    | x :: S => bif x.category == 2 then k (pc + 1) L (x :: x :: S) h else (match S with
      | y :: S => bif y.category == 1 then k (pc + 1) L (x :: y :: x :: y :: S) h else none
      | [] => none)
    | [] => none
  | .goto _ => k a L S h
  | .ifCond .eq _ => am_pi S fun x S => if x = 0 then k a L S h else k (pc + 3) L S h
  | .ifCond .ne _ => am_pi S fun x S => if x = 0 then k (pc + 3) L S h else k a L S h
  | .ifCond .lt _ => am_pi S fun x S => if x < 0 then k a L S h else k (pc + 3) L S h
  | .ifCond .ge _ => am_pi S fun x S => if 0 ≤ x then k a L S h else k (pc + 3) L S h
  | .ifCond .gt _ => am_pi S fun x S => if 0 < x then k a L S h else k (pc + 3) L S h
  | .ifCond .le _ => am_pi S fun x S => if x ≤ 0 then k a L S h else k (pc + 3) L S h
  | .if_icmp .eq _ => am_pi S fun y S => am_pi S fun x S => if x = y then k a L S h else k (pc + 3) L S h
  | .if_icmp .ne _ => am_pi S fun y S => am_pi S fun x S => if x = y then k (pc + 3) L S h else k a L S h
  | .if_icmp .lt _ => am_pi S fun y S => am_pi S fun x S => if x < y then k a L S h else k (pc + 3) L S h
  | .if_icmp .ge _ => am_pi S fun y S => am_pi S fun x S => if y ≤ x then k a L S h else k (pc + 3) L S h
  | .if_icmp .gt _ => am_pi S fun y S => am_pi S fun x S => if y < x then k a L S h else k (pc + 3) L S h
  | .if_icmp .le _ => am_pi S fun y S => am_pi S fun x S => if x ≤ y then k a L S h else k (pc + 3) L S h
  | .tableswitch _ _ _ _ => am_pi S fun x S => am_sw e.2.2.2.2.2.2.2.2 x a fun t => k t L S h
  | .lookupswitch _ _ => am_pi S fun x S => am_sw e.2.2.2.2.2.2.2.2 x a fun t => k t L S h
  | .getfield _ => am_pr S fun o S => match c with
    | 0 => am_gi h o a b fun x => k (pc + 3) L (.int x :: S) h
    | 1 => am_gl h o a b fun x => k (pc + 3) L (.long x :: S) h
    | 2 => am_gp h o a b fun x => k (pc + 3) L (.ref x :: S) h
    | _ => none
  | .putfield _ => match c with
    | 0 => am_pi S fun x S => am_pr S fun o S => am_ck h o a (k (pc + 3) L S (am_sI h o b x))
    | 1 => am_pl S fun x S => am_pr S fun o S => am_ck h o a (k (pc + 3) L S (am_sL h o b x))
    | 2 => am_pr S fun x S => am_pr S fun o S => am_ck h o a (k (pc + 3) L S (am_sP h o b (some x)))
    | 3 => am_pi S fun x S => am_pr S fun o S => am_01 x (am_ck h o a (k (pc + 3) L S (am_sI h o b x)))
    | _ => none
  | .iaload => am_pi S fun i S => am_pr S fun o S => am_ar h a o i fun j => k (pc + 1) L (.int (am_I h o j) :: S) h
  | .baload => am_pi S fun i S => am_pr S fun o S => am_ar h a o i fun j => k (pc + 1) L (.int (am_I h o j) :: S) h
  | .laload => am_pi S fun i S => am_pr S fun o S => am_ar h 10 o i fun j => k (pc + 1) L (.long (am_L h o j) :: S) h
  | .aaload => am_pi S fun i S => am_pr S fun o S => am_ap h a o i fun p => k (pc + 1) L (.ref p :: S) h
  | .iastore => am_pi S fun x S => am_pi S fun i S => am_pr S fun o S => am_ar h 9 o i fun j => k (pc + 1) L S (am_sI h o j x)
  | .bastore => am_pi S fun x S => am_pi S fun i S => am_pr S fun o S => am_ar h a o i fun j => k (pc + 1) L S (am_sI h o j (vp_nar (bif Nat.beq a 11 then .byte else .boolean) x))
  | .lastore => am_pl S fun x S => am_pi S fun i S => am_pr S fun o S => am_ar h 10 o i fun j => k (pc + 1) L S (am_sL h o j x)
  | .arraylength => am_pr S fun o S => am_al h o fun x => k (pc + 1) L (.int x :: S) h
  | .new _ => match c with
    | 0 => bif Nat.beq (am_G h) 0 then k (pc + 3) L (.ref (am_S h).length :: S) (am_nw h (a, b)) else none
    | 1 => am_c8 S (some (.inl a, am_gb h))
    | _ => none
  | .newarray _ => am_pi S fun n S => bif Nat.beq (am_G h) 0 && !(decide (n < 0)) && Nat.ble n.toNatClampNeg 60000000 then k (pc + 2) L (.ref (am_S h).length :: S) (am_nw h (a, n.toNatClampNeg)) else none
  | .multianewarray _ _ => am_pi S fun m S => am_pi S fun n S => bif Nat.beq (am_G h) 0 && !(decide (n < 0) || decide (m < 0)) && Nat.ble n.toNatClampNeg 60000000 && Nat.ble m.toNatClampNeg 60000000 then k (pc + 4) L (.ref (am_S h).length :: S) (am_nm h a b n.toNatClampNeg m.toNatClampNeg) else none
  | .invokestatic _ => am_call F tb a b c d rt pc L S h k
  | .invokevirtual _ => am_call F tb a b c d rt pc L S h k
  | .invokespecial _ => am_call F tb a b c d rt pc L S h k
  | .ireturn => match S with
    | [.int x] => bif Nat.beq c 1 then am_01 x (some (.inr (some (.int x)), h)) else some (.inr (some (.int x)), h)
    | _ => none
  | .lreturn => match S with
    | [.long x] => some (.inr (some (.long x)), h)
    | _ => none
  | .return_ => match S with
    | [] => some (.inr none, h)
    | _ => none
  | _ => none
/-- a method: its instructions, the places where locals are put in order, its handlers, how many words of locals it has -/
abbrev am_M : Type := (Nat → Option am_E) × (Nat → Option (List Nat)) × am_X × Nat
def am_wd (As : List Value) : Nat := (As.map fun v => v.category).sum
def am_no (f : Nat → Option (List Nat)) (pc : Nat) (L : am_V) : am_V := match f pc with
  | some ks => am_nr ks L
  | none => L
def am_run (F : Nat → List Value → am_H → Option am_R) (M : am_M) : Nat → am_C
  | 0, _, _, _, _ => none
  | n + 1, pc, L, S, h => match M.1 pc with
    | none => none
    | some e => am_step F M.2.2.1 e pc L S h (fun pc L S h => am_run F M n pc (am_no M.2.1 pc L) S h)
/-- up to the next places where locals are put in order, at most n steps -/
def am_seg (F : Nat → List Value → am_H → Option am_R) (M : am_M) (k : am_C) : Nat → am_C
  | 0, pc, L, S, h => k pc L S h
  | n + 1, pc, L, S, h => match M.1 pc with
    | none => none
    | some e => am_step F M.2.2.1 e pc L S h (fun pc L S h => match M.2.1 pc with
      | some ks => k pc (am_nr ks L) S h
      | none => am_seg F M k n pc L S h)
