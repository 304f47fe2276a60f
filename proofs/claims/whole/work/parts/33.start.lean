/-! ===== the law's start: what stands around the world ===== -/
set_option maxRecDepth 100000
theorem sg_ws : ∀ w ∈ sj_ws, w ∈ sm_TB := ck_ws_ok sj_ws [(3, 194), (4, 92), (4, 91), (3, 190), (3, 191), (3, 192), (1, 15), (3, 193), (8, 12), (8, 13), (8, 14), (8, 15), (8, 16), (8, 17), (1, 16), (8, 18), (8, 19), (8, 20), (8, 21), (3, 172), (8, 22), (8, 23), (1, 17), (8, 24)] (by decide +kernel)
theorem sg_st {l : Launch} {D : va_G} {cA : Nat → ClassId} {g : Nat → Nat} {B b Ln : Nat} {xs : Nat → Int32} {adV : Nat → Nat} (hbB : b < B) : sm_st l D cA g B b Ln xs adV :=
  ⟨fun h i hi => sj_length sg_ws hbB hi h, fun h i j hi hj => sj_charAt sg_ws hbB hi hj h, ck_w_ok (x := (3, 189)) (by decide +kernel), ck_w_ok (x := (1, 15)) (by decide +kernel), ck_w_ok (x := (3, 187)) (by decide +kernel), ck_w_ok (x := (3, 188)) (by decide +kernel), ck_w_ok (x := (8, 11)) (by decide +kernel), ck_w_ok (x := (8, 9)) (by decide +kernel), ck_w_ok (x := (8, 10)) (by decide +kernel)⟩
theorem sg_arr {s : State} {args : Array Value} {ty : FieldType} (h : (Cond.arrayClass ty).before args s = true) : ∃ c, ArrOfT s c ty ∧ s.vm.findClass ("[" ++ ty.toString) = some c := by
  obtain ⟨c, k, comp, h1, h2, h3⟩ := Cond.arrayClass_spec h
  exact ⟨c, fun n z => ⟨(fun k h => by cases h), k, h2, comp, h3⟩, h1⟩
theorem sg_arr2 {s : State} {args : Array Value} {ty : FieldType} (h : (Cond.arrayOver (.array ty)).before args s = true) : ∃ c, ArrOfT s c (.array ty) ∧ s.vm.findClass ("[" ++ (FieldType.array ty).toString) = some c := by
  obtain ⟨comp, c, k, h0, h2, h3, h1⟩ := Cond.arrayOver_specA h
  exact ⟨c, fun n z => ⟨(fun k h => by cases h), k, h2, comp, h3⟩, h1⟩
theorem sg_K {s : State} {args : Array Value} (hts : ∀ w ∈ lw_tbl, w.before args s = true) : ∃ (D : va_G) (cA : Nat → ClassId), va_K D sm_cl (sm_tys cA) s := by
  have hT : ∀ w ∈ sm_TB, w.before args s = true := fun w h => hts w (List.mem_filter.mp h).1
  have hk : ∀ a : Nat, ∃ z : ClassId × (Nat → Nat), ∀ C T N, sm_cl[a]? = some (C, T, N) → u_Kn s C T N z.1 z.2 := by
    intro a
    cases hc : sm_cl[a]? with
    | none => exact ⟨(0, fun _ => 0), fun C T N h => by cases h⟩
    | some x =>
      obtain ⟨C, T, N⟩ := x
      have q := ck_cl a C T N hc
      obtain ⟨cC, iS, h⟩ := u_known hT q.2.2.1 (hT _ q.2.2.2.2.2.2.2.1)
      exact ⟨(cC, iS), fun C' T' N' e => by cases e; exact h⟩
  have hk' := Classical.axiomOfChoice hk
  obtain ⟨z, hz⟩ := hk'
  obtain ⟨c9, a9, b9⟩ := sg_arr (hT _ ck_gaint)
  obtain ⟨c10, a10, b10⟩ := sg_arr (hT _ ck_galong)
  obtain ⟨c11, a11, b11⟩ := sg_arr (hT _ ck_gabyte)
  obtain ⟨c12, a12, b12⟩ := sg_arr (hT _ ck_gaboolean)
  obtain ⟨c13, a13, b13⟩ := sg_arr2 (hts (.arrayOver (.array .int)) (ck_t_sub 7 _ (List.mem_of_getElem? (i := 48) (by decide +kernel))))
  obtain ⟨c14, a14, b14⟩ := sg_arr2 (hts (.arrayOver (.array .long)) (ck_t_sub 7 _ (List.mem_of_getElem? (i := 46) (by decide +kernel))))
  refine ⟨(fun a => (z a).1, fun a => (z a).2), fun k => if k = 9 then c9 else if k = 10 then c10 else if k = 11 then c11 else if k = 12 then c12 else if k = 13 then c13 else c14, ?_, ?_⟩
  · intro c q hq
    obtain ⟨C, T, N⟩ := q
    exact hz c C T N hq
  · intro k q hq
    match k, hq with
    | 0, hq => cases hq; exact ⟨a9, b9⟩
    | 1, hq => cases hq; exact ⟨a10, b10⟩
    | 2, hq => cases hq; exact ⟨a11, b11⟩
    | 3, hq => cases hq; exact ⟨a12, b12⟩
    | 4, hq => cases hq; exact ⟨a13, b13⟩
    | 5, hq => cases hq; exact ⟨a14, b14⟩
    | n + 6, hq => cases hq
def sg_tm (i : Nat) : Term := .string RX8 ([148, 154, 156].getD i 0)
/-- the addresses of the world -/
def sg_g (B b : Nat) (ad : Nat → Nat) (i : Nat) : Nat := if i = 0 then b else if i < 1000000 then B + (i - 1) else ad (i - 1000000)
theorem sg_G {B b : Nat} {ad : Nat → Nat} (hb : b < B) : sm_G (sg_g B b ad) B b := by
  refine ⟨fun i h1 h2 => ?_, rfl, hb⟩
  unfold sg_g
  rw [if_neg (by omega), if_pos (by omega)]
theorem sg_gs {B b : Nat} {ad : Nat → Nat} (i : Nat) : sg_g B b ad (1000000 + i) = ad i := by
  unfold sg_g
  rw [if_neg (by omega), if_neg (by omega), Nat.add_sub_cancel_left]

theorem sg_str {s : State} {args : Array Value} (hgv : (Cond.and given_1 narrow_1).before args s = true) {B : Nat} (hB : B = s.heap.size) : ∃ adK adV : Nat → Nat, vk_S 3 sm_len sm_byt adK adV (fun q => B ≤ q) s s.heap ∧ ∀ i : Nat, i < 3 → (sg_tm i).eval args s none [] s = some (.ref (adK i)) := by
  have hs := flat_of_before _ hgv
  refine vk_Sof (tm := sg_tm) ?_ ?_ ?_ ?_ ?_ ?_ ?_ (fun a ha => by omega)
  · intro i hi
    match i, hi with
    | 0, _ => decide
    | 1, _ => decide
    | 2, _ => decide
  · intro i hi
    match i, hi with
    | 0, _ => exact hs _ (by decide +kernel)
    | 1, _ => exact hs _ (by decide +kernel)
    | 2, _ => exact hs _ (by decide +kernel)
  · intro i hi
    match i, hi with
    | 0, _ => exact hs _ (by decide +kernel)
    | 1, _ => exact hs _ (by decide +kernel)
    | 2, _ => exact hs _ (by decide +kernel)
  · intro i hi
    match i, hi with
    | 0, _ => exact hs _ (by decide +kernel)
    | 1, _ => exact hs _ (by decide +kernel)
    | 2, _ => exact hs _ (by decide +kernel)
  · intro i hi
    match i, hi with
    | 0, _ => exact hs _ (by decide +kernel)
    | 1, _ => exact hs _ (by decide +kernel)
    | 2, _ => exact hs _ (by decide +kernel)
  · intro i hi j hj
    match i, hi, j, hj with
    | 0, _, 0, _ => exact hs _ (by decide +kernel)
    | 0, _, 1, _ => exact hs _ (by decide +kernel)
    | 0, _, 2, _ => exact hs _ (by decide +kernel)
    | 1, _, 0, _ => exact hs _ (by decide +kernel)
    | 1, _, 1, _ => exact hs _ (by decide +kernel)
    | 1, _, 2, _ => exact hs _ (by decide +kernel)
    | 1, _, 3, _ => exact hs _ (by decide +kernel)
    | 1, _, 4, _ => exact hs _ (by decide +kernel)
    | 1, _, 5, _ => exact hs _ (by decide +kernel)
    | 1, _, 6, _ => exact hs _ (by decide +kernel)
    | 2, _, 0, _ => exact hs _ (by decide +kernel)
    | 2, _, 1, _ => exact hs _ (by decide +kernel)
    | 2, _, 2, _ => exact hs _ (by decide +kernel)
    | 2, _, 3, _ => exact hs _ (by decide +kernel)
  · intro i j hi hj hn
    match i, hi, j, hj with
    | 0, _, 1, _ => first | exact Or.inl (hs _ (by decide +kernel)) | exact Or.inr (hs _ (by decide +kernel))
    | 0, _, 2, _ => first | exact Or.inl (hs _ (by decide +kernel)) | exact Or.inr (hs _ (by decide +kernel))
    | 1, _, 0, _ => first | exact Or.inl (hs _ (by decide +kernel)) | exact Or.inr (hs _ (by decide +kernel))
    | 1, _, 2, _ => first | exact Or.inl (hs _ (by decide +kernel)) | exact Or.inr (hs _ (by decide +kernel))
    | 2, _, 0, _ => first | exact Or.inl (hs _ (by decide +kernel)) | exact Or.inr (hs _ (by decide +kernel))
    | 2, _, 1, _ => first | exact Or.inl (hs _ (by decide +kernel)) | exact Or.inr (hs _ (by decide +kernel))
    | 0, _, 0, _ => exact absurd rfl hn
    | 1, _, 1, _ => exact absurd rfl hn
    | 2, _, 2, _ => exact absurd rfl hn

theorem sg_A {s : State} {b L : Nat} {xs : Nat → Int32} (hts : ∀ w ∈ lw_tbl, w.before #[Value.ref b] s = true) (hX : va_X b L xs s s.heap) (hgv : (Cond.and given_1 narrow_1).before #[Value.ref b] s = true) :
    ∃ (D : va_G) (cA : Nat → ClassId) (ad adV : Nat → Nat), sm_A D cA (sg_g s.heap.size b ad) s.heap.size b L xs adV s s.heap := by
  have hs := flat_of_before _ hgv
  obtain ⟨D, cA, hK⟩ := sg_K hts
  obtain ⟨adK, adV, hS, hev⟩ := sg_str hgv rfl
  have f7 : s.vm.findClass RX7 = some (D.1 7) := (hK.1 7 _ rfl).2.1
  have r0 : (Cond.stringRef RX8 148 "top").before #[Value.ref b] s = true := hts (.stringRef RX8 148 "top") (ck_t_sub 8 _ (List.mem_of_getElem? (i := 2) (by decide +kernel)))
  have r1 : (Cond.stringRef RX8 154 "nothing").before #[Value.ref b] s = true := hts (.stringRef RX8 154 "nothing") (ck_t_sub 8 _ (List.mem_of_getElem? (i := 32) (by decide +kernel)))
  have r2 : (Cond.stringRef RX8 156 "some").before #[Value.ref b] s = true := hts (.stringRef RX8 156 "some") (ck_t_sub 8 _ (List.mem_of_getElem? (i := 33) (by decide +kernel)))
  have r3 : (Cond.stringRef RX7 373 "no such thing").before #[Value.ref b] s = true := hts (.stringRef RX7 373 "no such thing") (ck_t_sub 5 _ (List.mem_of_getElem? (i := 97) (by decide +kernel)))
  have r4 : (Cond.stringRef RX7 380 "wrong argument").before #[Value.ref b] s = true := hts (.stringRef RX7 380 "wrong argument") (ck_t_sub 4 _ (List.mem_of_getElem? (i := 198) (by decide +kernel)))
  have r5 : (Cond.stringRef RX7 385 "a name is void").before #[Value.ref b] s = true := hts (.stringRef RX7 385 "a name is void") (ck_t_sub 6 _ (List.mem_of_getElem? (i := 43) (by decide +kernel)))
  obtain ⟨-, -, -, a3, -, -, -, -, -, e3⟩ := Cond.stringRef_spec f7 r3
  obtain ⟨-, -, -, a4, -, -, -, -, -, e4⟩ := Cond.stringRef_spec f7 r4
  obtain ⟨-, -, -, a5, -, -, -, -, -, e5⟩ := Cond.stringRef_spec f7 r5
  have hA : ∀ a : Nat, a < s.heap.size → ¬ s.heap.size ≤ a := fun a h => by omega
  have hn : ∀ x y, x < 3 → y < 3 → x ≠ y → va_Nc (sm_ex x) (sm_ex y) s := by
    intro x y hx hy hne
    match x, hx, y, hy with
    | 0, _, 1, _ => exact va_Nc.of (hs _ (by decide +kernel))
    | 0, _, 2, _ => exact va_Nc.of (hs _ (by decide +kernel))
    | 1, _, 0, _ => exact va_Nc.of (hs _ (by decide +kernel))
    | 1, _, 2, _ => exact va_Nc.of (hs _ (by decide +kernel))
    | 2, _, 0, _ => exact va_Nc.of (hs _ (by decide +kernel))
    | 2, _, 1, _ => exact va_Nc.of (hs _ (by decide +kernel))
    | 0, _, 0, _ => exact absurd rfl hne
    | 1, _, 1, _ => exact absurd rfl hne
    | 2, _, 2, _ => exact absurd rfl hne
  refine ⟨D, cA, fun i => if i < 3 then adK i else if i = 3 then a3 else if i = 4 then a4 else a5, adV, hK, hX, ?_, vx_Zqof (hts (.laysStatic Bundle.tN "UNASSIGNED_STACK" Bundle.steD) (ck_t_sub 3 _ (List.mem_of_getElem? (i := 63) (by decide +kernel)))) (hts (.initialized Bundle.tN) (ck_t_sub 1 _ (List.mem_of_getElem? (i := 11) (by decide +kernel)))) (hs _ (by decide +kernel)) hA, vx_Zqof (hts (.laysStatic Bundle.tN "SUPPRESSED_SENTINEL" Bundle.listD) (ck_t_sub 3 _ (List.mem_of_getElem? (i := 65) (by decide +kernel)))) (hts (.initialized Bundle.tN) (ck_t_sub 1 _ (List.mem_of_getElem? (i := 11) (by decide +kernel)))) (hs _ (by decide +kernel)) hA, ?_, ?_, hts (.arrayOver (.array .int)) (ck_t_sub 7 _ (List.mem_of_getElem? (i := 48) (by decide +kernel))), hts (.arrayOver (.array .long)) (ck_t_sub 7 _ (List.mem_of_getElem? (i := 46) (by decide +kernel))), ⟨?_, ?_⟩, hn, va_Zof (hts (.laysStatic "java/lang/String" "COMPACT_STRINGS" "Z") (ck_t_sub 3 _ (List.mem_of_getElem? (i := 87) (by decide +kernel)))) (hts (.initialized "java/lang/String") (ck_t_sub 1 _ (List.mem_of_getElem? (i := 15) (by decide +kernel)))) (Cond.eq_int (hs (.eq (.static "java/lang/String" "COMPACT_STRINGS" "Z") (.int 1)) (by decide +kernel)) rfl) hA, va_Zqof (hts (.laysStatic "jdk/internal/util/Preconditions" "SIOOBE_FORMATTER" "Ljava/util/function/BiFunction;") (ck_t_sub 3 _ (List.mem_of_getElem? (i := 173) (by decide +kernel)))) (hts (.initialized "jdk/internal/util/Preconditions") (ck_t_sub 1 _ (List.mem_of_getElem? (i := 17) (by decide +kernel)))) (hs _ (by decide +kernel)) hA⟩
  · have e : ∀ i, i < 3 → sg_g s.heap.size b (fun i => if i < 3 then adK i else if i = 3 then a3 else if i = 4 then a4 else a5) (1000000 + i) = adK i := fun i hi => by rw [sg_gs, if_pos hi]
    refine ⟨fun i hi => ?_, fun i j hi hj => ?_⟩
    · dsimp only
      rw [e i hi]
      exact hS.1 i hi
    · dsimp only
      rw [e i hi, e j hj]
      exact hS.2 i j hi hj
  · intro q hq
    simp only [sm_str, List.mem_cons, List.not_mem_nil, or_false] at hq
    rcases hq with rfl | rfl | rfl | rfl | rfl | rfl
    · exact vk_R.of (A := #[Value.ref b]) r0 ((hev 0 (by decide)).trans (by rw [sg_gs (ad := _) 0]; rfl))
    · exact vk_R.of (A := #[Value.ref b]) r1 ((hev 1 (by decide)).trans (by rw [sg_gs (ad := _) 1]; rfl))
    · exact vk_R.of (A := #[Value.ref b]) r2 ((hev 2 (by decide)).trans (by rw [sg_gs (ad := _) 2]; rfl))
    · exact vk_R.of (A := #[Value.ref b]) r3 (e3.trans (by rw [sg_gs (ad := _) 3]; rfl))
    · exact vk_R.of (A := #[Value.ref b]) r4 (e4.trans (by rw [sg_gs (ad := _) 4]; rfl))
    · exact vk_R.of (A := #[Value.ref b]) r5 (e5.trans (by rw [sg_gs (ad := _) 5]; rfl))
  · intro q hq
    simp only [sm_nst, List.mem_cons, List.not_mem_nil, or_false] at hq
    rcases hq with rfl | rfl
    · exact va_Nw.of rfl (hts (.methodLinkNest RX7 67 yX0_init "LightClassifier") (ck_t_sub 2 _ (List.mem_of_getElem? (i := 66) (by decide +kernel))))
    · exact va_Nw.of rfl (hts (.methodLinkNest RX7 90 yX1_init "LightClassifier") (ck_t_sub 2 _ (List.mem_of_getElem? (i := 144) (by decide +kernel))))
  · intro x hx
    match x, hx with
    | 0, _ => exact va_Nw.of rfl (hts (.castable (sm_ex 0) (sm_ex 0)) (ck_t_sub 5 _ (List.mem_of_getElem? (i := 90) (by decide +kernel))))
    | 1, _ => exact va_Nw.of rfl (hts (.castable (sm_ex 1) (sm_ex 1)) (ck_t_sub 3 _ (List.mem_of_getElem? (i := 38) (by decide +kernel))))
    | 2, _ => exact va_Nw.of rfl (hts (.castable (sm_ex 2) (sm_ex 2)) (ck_t_sub 6 _ (List.mem_of_getElem? (i := 36) (by decide +kernel))))
  · intro x hx
    simp only [sm_dcl, List.mem_cons, List.not_mem_nil, or_false] at hx
    rcases hx with rfl | rfl | rfl
    · exact va_Nw.of rfl (hts (.declares (Bundle.initS "java/lang/RuntimeException")) (ck_t_sub 3 _ (List.mem_of_getElem? (i := 40) (by decide +kernel))))
    · exact va_Nw.of rfl (hts (.declares (Bundle.initS "java/lang/Exception")) (ck_t_sub 3 _ (List.mem_of_getElem? (i := 42) (by decide +kernel))))
    · exact va_Nw.of rfl (hts (.declares (Bundle.initS Bundle.tN)) (ck_t_sub 3 _ (List.mem_of_getElem? (i := 44) (by decide +kernel))))

