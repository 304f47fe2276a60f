/-! ===== length and charAt of String constants ===== -/
def sj_ws : List Cond := [.fieldLink RJ0 38 "java/lang/String" "COMPACT_STRINGS" "Z", .fieldLink RJ0 15 "java/lang/String" "coder" "B", .fieldLink RJ0 9 "java/lang/String" "value" "[B", .methodLink RJ0 335 yJ0_coder_7d493, .instanceMethod yJ0_coder_7d493, .selects RJ0 yJ0_coder_7d493 yJ0_coder_7d493, .initialized RJ0, .code yJ0_coder_7d493 cJ0_coder_7d493 1 (some .byte),
  .methodLink RJ0 492 yJ0_isLatin1_aae02, .instanceMethod yJ0_isLatin1_aae02, .selects RJ0 yJ0_isLatin1_aae02 yJ0_isLatin1_aae02, .code yJ0_isLatin1_aae02 cJ0_isLatin1_aae02 1 (some .boolean), .methodLink RJ0 495 yJ1_charAt_3b067, .static yJ1_charAt_3b067, .initialized RJ1, .code yJ1_charAt_3b067 cJ1_charAt_3b067 2 (some .char),
  .methodLink RJ1 9 yJ0_checkIndex_df160, .static yJ0_checkIndex_df160, .code yJ0_checkIndex_df160 cJ0_checkIndex_df160 2 none, .fieldLink RJ0 1053 "jdk/internal/util/Preconditions" "SIOOBE_FORMATTER" "Ljava/util/function/BiFunction;", .methodLink RJ0 1059 yJ3_checkIndex_8e157, .static yJ3_checkIndex_8e157, .initialized RJ3, .code yJ3_checkIndex_8e157 cJ3_checkIndex_8e157 3 (some .int)]
def sj_P (D : va_G) (cA : Nat → ClassId) (g : Nat → Nat) (B b Ln : Nat) (xs : Nat → Int32) (adV : Nat → Nat) (As : List Value) : Array Value → State → Prop := va_Pc As (fun U => sm_A D cA g B b Ln xs adV U U.heap ∧ B ≤ U.heap.size)
theorem sj_blind {D : va_G} {cA : Nat → ClassId} {g : Nat → Nat} {B b Ln : Nat} {xs : Nat → Int32} {adV : Nat → Nat} {As : List Value} : FrameBlind (sj_P D cA g B b Ln xs adV As) := fun a U gf mk q => ⟨q.1, q.2.1.blind, q.2.2⟩
def sj_rm (f l : Nat) : Room := { frames := f, cells := 0, slots := 0, locals := l }
theorem sj_in (hw : ∀ w ∈ sj_ws, w ∈ sm_TB) {w : Cond} (h : w ∈ sm_TB) : GoodIn sm_TB (w :: sm_TB) := fun z hz => by
  rcases List.mem_cons.mp hz with rfl | q
  · exact ⟨h, sm_good h⟩
  · exact ⟨q, sm_good q⟩
theorem sj_ch : ∀ i, i < 3 → ∀ j, j < sm_len.getD i 0 → ((((sm_byt.getD i []).getD j 0 &&& 255).toUInt32 % 65536).toInt32 = (sm_byt.getD i []).getD j 0 ∧ narrow .char (.int ((sm_byt.getD i []).getD j 0)) = .int ((sm_byt.getD i []).getD j 0)) := by decide +kernel
theorem dJ0_coder_7d493_0 : decode cJ0_coder_7d493 0 = .ok (.getstatic 38, 3) := by decide +kernel
theorem dJ0_coder_7d493_3 : decode cJ0_coder_7d493 3 = .ok (.ifCond .eq 10, 3) := by decide +kernel
theorem dJ0_coder_7d493_6 : decode cJ0_coder_7d493 6 = .ok (.aload_n 0, 1) := by decide +kernel
theorem dJ0_coder_7d493_7 : decode cJ0_coder_7d493 7 = .ok (.getfield 15, 3) := by decide +kernel
theorem dJ0_coder_7d493_10 : decode cJ0_coder_7d493 10 = .ok (.goto 4, 3) := by decide +kernel
theorem dJ0_coder_7d493_13 : decode cJ0_coder_7d493 13 = .ok (.iconst 1, 1) := by decide +kernel
theorem dJ0_coder_7d493_14 : decode cJ0_coder_7d493 14 = .ok (.ireturn, 1) := by decide +kernel
theorem dJ0_length_8abf5_0 : decode cJ0_length_8abf5 0 = .ok (.aload_n 0, 1) := by decide +kernel
theorem dJ0_length_8abf5_1 : decode cJ0_length_8abf5 1 = .ok (.getfield 9, 3) := by decide +kernel
theorem dJ0_length_8abf5_4 : decode cJ0_length_8abf5 4 = .ok (.arraylength, 1) := by decide +kernel
theorem dJ0_length_8abf5_5 : decode cJ0_length_8abf5 5 = .ok (.aload_n 0, 1) := by decide +kernel
theorem dJ0_length_8abf5_6 : decode cJ0_length_8abf5 6 = .ok (.invokevirtual 335, 3) := by decide +kernel
theorem dJ0_length_8abf5_9 : decode cJ0_length_8abf5 9 = .ok (.ishr, 1) := by decide +kernel
theorem dJ0_length_8abf5_10 : decode cJ0_length_8abf5 10 = .ok (.ireturn, 1) := by decide +kernel
theorem dJ0_isLatin1_aae02_0 : decode cJ0_isLatin1_aae02 0 = .ok (.getstatic 38, 3) := by decide +kernel
theorem dJ0_isLatin1_aae02_3 : decode cJ0_isLatin1_aae02 3 = .ok (.ifCond .eq 14, 3) := by decide +kernel
theorem dJ0_isLatin1_aae02_6 : decode cJ0_isLatin1_aae02 6 = .ok (.aload_n 0, 1) := by decide +kernel
theorem dJ0_isLatin1_aae02_7 : decode cJ0_isLatin1_aae02 7 = .ok (.getfield 15, 3) := by decide +kernel
theorem dJ0_isLatin1_aae02_10 : decode cJ0_isLatin1_aae02 10 = .ok (.ifCond .ne 7, 3) := by decide +kernel
theorem dJ0_isLatin1_aae02_13 : decode cJ0_isLatin1_aae02 13 = .ok (.iconst 1, 1) := by decide +kernel
theorem dJ0_isLatin1_aae02_14 : decode cJ0_isLatin1_aae02 14 = .ok (.goto 4, 3) := by decide +kernel
theorem dJ0_isLatin1_aae02_17 : decode cJ0_isLatin1_aae02 17 = .ok (.iconst 0, 1) := by decide +kernel
theorem dJ0_isLatin1_aae02_18 : decode cJ0_isLatin1_aae02 18 = .ok (.ireturn, 1) := by decide +kernel
theorem dJ0_charAt_5068e_0 : decode cJ0_charAt_5068e 0 = .ok (.aload_n 0, 1) := by decide +kernel
theorem dJ0_charAt_5068e_1 : decode cJ0_charAt_5068e 1 = .ok (.invokevirtual 492, 3) := by decide +kernel
theorem dJ0_charAt_5068e_4 : decode cJ0_charAt_5068e 4 = .ok (.ifCond .eq 12, 3) := by decide +kernel
theorem dJ0_charAt_5068e_7 : decode cJ0_charAt_5068e 7 = .ok (.aload_n 0, 1) := by decide +kernel
theorem dJ0_charAt_5068e_8 : decode cJ0_charAt_5068e 8 = .ok (.getfield 9, 3) := by decide +kernel
theorem dJ0_charAt_5068e_11 : decode cJ0_charAt_5068e 11 = .ok (.iload_n 1, 1) := by decide +kernel
theorem dJ0_charAt_5068e_12 : decode cJ0_charAt_5068e 12 = .ok (.invokestatic 495, 3) := by decide +kernel
theorem dJ0_charAt_5068e_15 : decode cJ0_charAt_5068e 15 = .ok (.ireturn, 1) := by decide +kernel
theorem dJ0_charAt_5068e_16 : decode cJ0_charAt_5068e 16 = .ok (.aload_n 0, 1) := by decide +kernel
theorem dJ0_charAt_5068e_17 : decode cJ0_charAt_5068e 17 = .ok (.getfield 9, 3) := by decide +kernel
theorem dJ0_charAt_5068e_20 : decode cJ0_charAt_5068e 20 = .ok (.iload_n 1, 1) := by decide +kernel
theorem dJ0_charAt_5068e_21 : decode cJ0_charAt_5068e 21 = .ok (.invokestatic 498, 3) := by decide +kernel
theorem dJ0_charAt_5068e_24 : decode cJ0_charAt_5068e 24 = .ok (.ireturn, 1) := by decide +kernel
theorem dJ1_charAt_3b067_0 : decode cJ1_charAt_3b067 0 = .ok (.iload_n 1, 1) := by decide +kernel
theorem dJ1_charAt_3b067_1 : decode cJ1_charAt_3b067 1 = .ok (.aload_n 0, 1) := by decide +kernel
theorem dJ1_charAt_3b067_2 : decode cJ1_charAt_3b067 2 = .ok (.arraylength, 1) := by decide +kernel
theorem dJ1_charAt_3b067_3 : decode cJ1_charAt_3b067 3 = .ok (.invokestatic 9, 3) := by decide +kernel
theorem dJ1_charAt_3b067_6 : decode cJ1_charAt_3b067 6 = .ok (.aload_n 0, 1) := by decide +kernel
theorem dJ1_charAt_3b067_7 : decode cJ1_charAt_3b067 7 = .ok (.iload_n 1, 1) := by decide +kernel
theorem dJ1_charAt_3b067_8 : decode cJ1_charAt_3b067 8 = .ok (.baload, 1) := by decide +kernel
theorem dJ1_charAt_3b067_9 : decode cJ1_charAt_3b067 9 = .ok (.sipush 255, 3) := by decide +kernel
theorem dJ1_charAt_3b067_12 : decode cJ1_charAt_3b067 12 = .ok (.iand, 1) := by decide +kernel
theorem dJ1_charAt_3b067_13 : decode cJ1_charAt_3b067 13 = .ok (.i2c, 1) := by decide +kernel
theorem dJ1_charAt_3b067_14 : decode cJ1_charAt_3b067 14 = .ok (.ireturn, 1) := by decide +kernel
theorem dJ0_checkIndex_df160_0 : decode cJ0_checkIndex_df160 0 = .ok (.iload_n 0, 1) := by decide +kernel
theorem dJ0_checkIndex_df160_1 : decode cJ0_checkIndex_df160 1 = .ok (.iload_n 1, 1) := by decide +kernel
theorem dJ0_checkIndex_df160_2 : decode cJ0_checkIndex_df160 2 = .ok (.getstatic 1053, 3) := by decide +kernel
theorem dJ0_checkIndex_df160_5 : decode cJ0_checkIndex_df160 5 = .ok (.invokestatic 1059, 3) := by decide +kernel
theorem dJ0_checkIndex_df160_8 : decode cJ0_checkIndex_df160 8 = .ok (.pop, 1) := by decide +kernel
theorem dJ0_checkIndex_df160_9 : decode cJ0_checkIndex_df160 9 = .ok (.return_, 1) := by decide +kernel
theorem dJ3_checkIndex_8e157_0 : decode cJ3_checkIndex_8e157 0 = .ok (.iload_n 0, 1) := by decide +kernel
theorem dJ3_checkIndex_8e157_1 : decode cJ3_checkIndex_8e157 1 = .ok (.ifCond .lt 8, 3) := by decide +kernel
theorem dJ3_checkIndex_8e157_4 : decode cJ3_checkIndex_8e157 4 = .ok (.iload_n 0, 1) := by decide +kernel
theorem dJ3_checkIndex_8e157_5 : decode cJ3_checkIndex_8e157 5 = .ok (.iload_n 1, 1) := by decide +kernel
theorem dJ3_checkIndex_8e157_6 : decode cJ3_checkIndex_8e157 6 = .ok (.if_icmp .lt 10, 3) := by decide +kernel
theorem dJ3_checkIndex_8e157_9 : decode cJ3_checkIndex_8e157 9 = .ok (.aload_n 2, 1) := by decide +kernel
theorem dJ3_checkIndex_8e157_10 : decode cJ3_checkIndex_8e157 10 = .ok (.iload_n 0, 1) := by decide +kernel
theorem dJ3_checkIndex_8e157_11 : decode cJ3_checkIndex_8e157 11 = .ok (.iload_n 1, 1) := by decide +kernel
theorem dJ3_checkIndex_8e157_12 : decode cJ3_checkIndex_8e157 12 = .ok (.invokestatic 95, 3) := by decide +kernel
theorem dJ3_checkIndex_8e157_15 : decode cJ3_checkIndex_8e157 15 = .ok (.athrow, 1) := by decide +kernel
theorem dJ3_checkIndex_8e157_16 : decode cJ3_checkIndex_8e157 16 = .ok (.iload_n 0, 1) := by decide +kernel
theorem dJ3_checkIndex_8e157_17 : decode cJ3_checkIndex_8e157 17 = .ok (.ireturn, 1) := by decide +kernel
theorem sj_callv {p : Program} {l : Launch} {e : Env} {R : Room} {s : State} {m : MethodId} {args : Array Value} {below : List Frame} {meth : Method} {c : Code} {H : Heap} {locs : List Loc} {cells slots : Nat} {Q : State → Prop} {pc : Nat} {ls : Array Slot} {rest : List Value} {post : Unit → Prop} {a : Array Value} {st0 : List Value} (hr : CallRun p l e R s m args below meth c H locs cells slots 0 0 (F0 m pc ls st0) rest (va_Sv post a) (fun _ => False))
    (kk : W p l e R s m args below meth c H locs cells slots Q (F0 m (pc + 3) ls rest)) : W p l e R s m args below meth c H locs cells slots Q (F0 m pc ls st0) := by
  intro T hT X
  obtain ⟨v, st₀, t, T', L, h0, X', hL, e1, ⟨hv, hp, hh⟩, st⟩ := hr T hT X
  cases hv
  obtain ⟨t2, a1, b1⟩ := kk T' (by rw [e1, hh, h0]) (Stand.forget X' (fun q h => (hL q h).elim))
  exact ⟨t2, st t2 a1, b1⟩
set_option maxRecDepth 100000 in
theorem sj_coder {l : Launch} {D : va_G} {cA : Nat → ClassId} {g : Nat → Nat} {B b Ln : Nat} {xs : Nat → Int32} {adV : Nat → Nat} {i : Nat} (hw : ∀ w ∈ sj_ws, w ∈ sm_TB) (hbB : b < B) (hi : i < 3) : Met l yJ0_coder_7d493 (.code yJ0_coder_7d493 cJ0_coder_7d493 1 (some .byte) :: sm_TB) (sj_rm 0 0) (sj_P D cA g B b Ln xs adV [.ref (g (1000000 + i))]) (vp_Si (fun r => r = 0)) 0 0 (fun _ => False) := by
  refine Met.ofW (cc := cJ0_coder_7d493) (maxL := 1) (ret := (some .byte)) (by decide +kernel) rfl ?_
  intro p e s m args below meth c s₁ Bo hml hv
  have hx := Bo.exec
  have hb := Bo.bytes
  have hr := Bo.returns
  have hts : ∀ w ∈ sm_TB, w.before args s = true := fun w hw => atoms_spec (ws := .code yJ0_coder_7d493 cJ0_coder_7d493 1 (some .byte) :: sm_TB) Bo.pre w (List.mem_cons_of_mem _ hw)
  have hown : s.vm.findClass RJ0 = some m.cls := findClass_of_methodNamed Bo.named
  have hlocks := Bo.notSynchronized
  obtain ⟨rfl, hA, hBs⟩ := hv
  have hS : va_S (fun q => B ≤ q) s.heap s.heap [] := va_S.rf
  have hl := lv_entry ([.ref (g (1000000 + i))]) (n := 1) (Nat.le_of_ble_eq_true rfl)
  rw [lg_entry_eq]
  generalize (lg_sl ([.ref (g (1000000 + i))]) ++ List.replicate (1 - (lg_sl ([.ref (g (1000000 + i))])).length) Slot.unset).toArray = ls at hl ⊢
  refine va_gets hx hb hA.2.2.2.2.2.2.2.2.2.2.2.1 hS hown (hts _ (hw _ (List.mem_of_getElem? (i := 0) rfl))) (fun _ z => z) dJ0_coder_7d493_0 ?_
  refine lv_if_eq (tgt := 13) hx hb dJ0_coder_7d493_3 (by decide) (fun hc => absurd hc (by decide)) (fun hc => ?_)
  refine lv_aload_n hx hb dJ0_coder_7d493_6 rfl (lv_at hl 0 rfl) ?_
  refine vk_getf hx hb ((hA.2.2.1.1 i hi).2.1) hS hown (hts _ (hw _ (List.mem_of_getElem? (i := 1) rfl))) (fun _ z => z) dJ0_coder_7d493_7 ?_
  refine lv_goto (tgt := 14) hx hb dJ0_coder_7d493_10 (by decide) ?_
  exact W.zret hx hb hr rfl (fun t ht hW => ⟨_, rfl, rfl, ht⟩) (fun _ h => by cases h) dJ0_coder_7d493_14
set_option maxRecDepth 100000 in
theorem sj_isL {l : Launch} {D : va_G} {cA : Nat → ClassId} {g : Nat → Nat} {B b Ln : Nat} {xs : Nat → Int32} {adV : Nat → Nat} {i : Nat} (hw : ∀ w ∈ sj_ws, w ∈ sm_TB) (hbB : b < B) (hi : i < 3) : Met l yJ0_isLatin1_aae02 (.code yJ0_isLatin1_aae02 cJ0_isLatin1_aae02 1 (some .boolean) :: sm_TB) (sj_rm 0 0) (sj_P D cA g B b Ln xs adV [.ref (g (1000000 + i))]) (vp_Si (fun r => r = 1)) 0 0 (fun _ => False) := by
  refine Met.ofW (cc := cJ0_isLatin1_aae02) (maxL := 1) (ret := (some .boolean)) (by decide +kernel) rfl ?_
  intro p e s m args below meth c s₁ Bo hml hv
  have hx := Bo.exec
  have hb := Bo.bytes
  have hr := Bo.returns
  have hts : ∀ w ∈ sm_TB, w.before args s = true := fun w hw => atoms_spec (ws := .code yJ0_isLatin1_aae02 cJ0_isLatin1_aae02 1 (some .boolean) :: sm_TB) Bo.pre w (List.mem_cons_of_mem _ hw)
  have hown : s.vm.findClass RJ0 = some m.cls := findClass_of_methodNamed Bo.named
  have hlocks := Bo.notSynchronized
  obtain ⟨rfl, hA, hBs⟩ := hv
  have hS : va_S (fun q => B ≤ q) s.heap s.heap [] := va_S.rf
  have hl := lv_entry ([.ref (g (1000000 + i))]) (n := 1) (Nat.le_of_ble_eq_true rfl)
  rw [lg_entry_eq]
  generalize (lg_sl ([.ref (g (1000000 + i))]) ++ List.replicate (1 - (lg_sl ([.ref (g (1000000 + i))])).length) Slot.unset).toArray = ls at hl ⊢
  refine va_gets hx hb hA.2.2.2.2.2.2.2.2.2.2.2.1 hS hown (hts _ (hw _ (List.mem_of_getElem? (i := 0) rfl))) (fun _ z => z) dJ0_isLatin1_aae02_0 ?_
  refine lv_if_eq (tgt := 17) hx hb dJ0_isLatin1_aae02_3 (by decide) (fun hc => absurd hc (by decide)) (fun hc => ?_)
  refine lv_aload_n hx hb dJ0_isLatin1_aae02_6 rfl (lv_at hl 0 rfl) ?_
  refine vk_getf hx hb ((hA.2.2.1.1 i hi).2.1) hS hown (hts _ (hw _ (List.mem_of_getElem? (i := 1) rfl))) (fun _ z => z) dJ0_isLatin1_aae02_7 ?_
  refine lv_if_ne (tgt := 17) hx hb dJ0_isLatin1_aae02_10 (by decide) (fun hc => absurd rfl hc) (fun hc => ?_)
  refine lv_iconst (v := 1) hx hb dJ0_isLatin1_aae02_13 (by decide) ?_
  refine lv_goto (tgt := 18) hx hb dJ0_isLatin1_aae02_14 (by decide) ?_
  exact W.zret hx hb hr rfl (fun t ht hW => ⟨_, rfl, rfl, ht⟩) (fun _ h => by cases h) dJ0_isLatin1_aae02_18
set_option maxRecDepth 100000 in
theorem sj_pck {l : Launch} {D : va_G} {cA : Nat → ClassId} {g : Nat → Nat} {B b Ln : Nat} {xs : Nat → Int32} {adV : Nat → Nat} {i n : Int32} {t9 : Nat} (hw : ∀ w ∈ sj_ws, w ∈ sm_TB) (hbB : b < B) (h0 : ¬ i < 0) (h1 : i < n) : Met l yJ3_checkIndex_8e157 (.code yJ3_checkIndex_8e157 cJ3_checkIndex_8e157 3 (some .int) :: sm_TB) (sj_rm 0 0) (va_Pc [.int i, .int n, (.ref t9)] (fun _ => True)) (vp_Si (fun r => r = i)) 0 0 (fun _ => False) := by
  refine Met.ofW (cc := cJ3_checkIndex_8e157) (maxL := 3) (ret := (some .int)) (by decide +kernel) rfl ?_
  intro p e s m args below meth c s₁ Bo hml hv
  have hx := Bo.exec
  have hb := Bo.bytes
  have hr := Bo.returns
  have hts : ∀ w ∈ sm_TB, w.before args s = true := fun w hw => atoms_spec (ws := .code yJ3_checkIndex_8e157 cJ3_checkIndex_8e157 3 (some .int) :: sm_TB) Bo.pre w (List.mem_cons_of_mem _ hw)
  have hown : s.vm.findClass RJ3 = some m.cls := findClass_of_methodNamed Bo.named
  have hlocks := Bo.notSynchronized
  obtain ⟨rfl, -⟩ := hv
  have hl := lv_entry ([.int i, .int n, (.ref t9)]) (n := 3) (Nat.le_of_ble_eq_true rfl)
  rw [lg_entry_eq]
  generalize (lg_sl ([.int i, .int n, (.ref t9)]) ++ List.replicate (3 - (lg_sl ([.int i, .int n, (.ref t9)])).length) Slot.unset).toArray = ls at hl ⊢
  refine lv_iload_n hx hb dJ3_checkIndex_8e157_0 rfl (lv_at hl 0 rfl) ?_
  refine lv_if_lt (tgt := 9) hx hb dJ3_checkIndex_8e157_1 (by decide) (fun hc => absurd hc h0) (fun hc => ?_)
  refine lv_iload_n hx hb dJ3_checkIndex_8e157_4 rfl (lv_at hl 0 rfl) ?_
  refine lv_iload_n hx hb dJ3_checkIndex_8e157_5 rfl (lv_at hl 1 rfl) ?_
  refine lv_icmp_lt (tgt := 16) hx hb dJ3_checkIndex_8e157_6 (by decide) (fun hc => ?_) (fun hc => absurd h1 hc)
  refine lv_iload_n hx hb dJ3_checkIndex_8e157_16 rfl (lv_at hl 0 rfl) ?_
  exact W.iret hx hb hr (fun t ht hW => ⟨_, rfl, rfl, ht⟩) (fun _ h => by cases h) dJ3_checkIndex_8e157_17
set_option maxRecDepth 100000 in
theorem sj_pckn {l : Launch} {D : va_G} {cA : Nat → ClassId} {g : Nat → Nat} {B b Ln : Nat} {xs : Nat → Int32} {adV : Nat → Nat} {i n : Int32} (hw : ∀ w ∈ sj_ws, w ∈ sm_TB) (hbB : b < B) (h0 : ¬ i < 0) (h1 : i < n) : Met l yJ3_checkIndex_8e157 (.code yJ3_checkIndex_8e157 cJ3_checkIndex_8e157 3 (some .int) :: sm_TB) (sj_rm 0 0) (va_Pc [.int i, .int n, .null] (fun _ => True)) (vp_Si (fun r => r = i)) 0 0 (fun _ => False) := by
  refine Met.ofW (cc := cJ3_checkIndex_8e157) (maxL := 3) (ret := (some .int)) (by decide +kernel) rfl ?_
  intro p e s m args below meth c s₁ Bo hml hv
  have hx := Bo.exec
  have hb := Bo.bytes
  have hr := Bo.returns
  have hts : ∀ w ∈ sm_TB, w.before args s = true := fun w hw => atoms_spec (ws := .code yJ3_checkIndex_8e157 cJ3_checkIndex_8e157 3 (some .int) :: sm_TB) Bo.pre w (List.mem_cons_of_mem _ hw)
  have hown : s.vm.findClass RJ3 = some m.cls := findClass_of_methodNamed Bo.named
  have hlocks := Bo.notSynchronized
  obtain ⟨rfl, -⟩ := hv
  have hl := lv_entry ([.int i, .int n, .null]) (n := 3) (Nat.le_of_ble_eq_true rfl)
  rw [lg_entry_eq]
  generalize (lg_sl ([.int i, .int n, .null]) ++ List.replicate (3 - (lg_sl ([.int i, .int n, .null])).length) Slot.unset).toArray = ls at hl ⊢
  refine lv_iload_n hx hb dJ3_checkIndex_8e157_0 rfl (lv_at hl 0 rfl) ?_
  refine lv_if_lt (tgt := 9) hx hb dJ3_checkIndex_8e157_1 (by decide) (fun hc => absurd hc h0) (fun hc => ?_)
  refine lv_iload_n hx hb dJ3_checkIndex_8e157_4 rfl (lv_at hl 0 rfl) ?_
  refine lv_iload_n hx hb dJ3_checkIndex_8e157_5 rfl (lv_at hl 1 rfl) ?_
  refine lv_icmp_lt (tgt := 16) hx hb dJ3_checkIndex_8e157_6 (by decide) (fun hc => ?_) (fun hc => absurd h1 hc)
  refine lv_iload_n hx hb dJ3_checkIndex_8e157_16 rfl (lv_at hl 0 rfl) ?_
  exact W.iret hx hb hr (fun t ht hW => ⟨_, rfl, rfl, ht⟩) (fun _ h => by cases h) dJ3_checkIndex_8e157_17
set_option maxRecDepth 100000 in
theorem sj_ck {l : Launch} {D : va_G} {cA : Nat → ClassId} {g : Nat → Nat} {B b Ln : Nat} {xs : Nat → Int32} {adV : Nat → Nat} {i n : Int32} (hw : ∀ w ∈ sj_ws, w ∈ sm_TB) (hbB : b < B) (h0 : ¬ i < 0) (h1 : i < n) : Met l yJ0_checkIndex_df160 (.code yJ0_checkIndex_df160 cJ0_checkIndex_df160 2 none :: sm_TB) (sj_rm 1 30) (sj_P D cA g B b Ln xs adV [.int i, .int n]) (va_Sv (fun _ => True)) 0 0 (fun _ => False) := by
  refine Met.ofW (cc := cJ0_checkIndex_df160) (maxL := 2) (ret := none) (by decide +kernel) rfl ?_
  intro p e s m args below meth c s₁ Bo hml hv
  have hx := Bo.exec
  have hb := Bo.bytes
  have hr := Bo.returns
  have hts : ∀ w ∈ sm_TB, w.before args s = true := fun w hw => atoms_spec (ws := .code yJ0_checkIndex_df160 cJ0_checkIndex_df160 2 none :: sm_TB) Bo.pre w (List.mem_cons_of_mem _ hw)
  have hown : s.vm.findClass RJ0 = some m.cls := findClass_of_methodNamed Bo.named
  have hlocks := Bo.notSynchronized
  obtain ⟨rfl, hA, hBs⟩ := hv
  have hS : va_S (fun q => B ≤ q) s.heap s.heap [] := va_S.rf
  have hl := lv_entry ([.int i, .int n]) (n := 2) (Nat.le_of_ble_eq_true rfl)
  rw [lg_entry_eq]
  generalize (lg_sl ([.int i, .int n]) ++ List.replicate (2 - (lg_sl ([.int i, .int n])).length) Slot.unset).toArray = ls at hl ⊢
  refine lv_iload_n hx hb dJ0_checkIndex_df160_0 rfl (lv_at hl 0 rfl) ?_
  refine lv_iload_n hx hb dJ0_checkIndex_df160_1 rfl (lv_at hl 1 rfl) ?_
  rcases hA.2.2.2.2.2.2.2.2.2.2.2.2 with hZ | ⟨t9, hZ⟩
  · refine va_gets hx hb hZ hS hown (hts _ (hw _ (List.mem_of_getElem? (i := 19) rfl))) (fun _ z => z) dJ0_checkIndex_df160_2 ?_
    refine vp_callSi (W.runS (As := [.int i, .int n, .null]) (rest := []) (n := 3) (mc := 0) (ms := 0) ⟨hx, hb, hml, hown, hts⟩ (sj_pckn (l := l) (D := D) (cA := cA) (g := g) (B := B) (b := b) (Ln := Ln) (xs := xs) (adV := adV) hw hbB h0 h1) ⟨⟨rfl, rfl, Nat.le_of_ble_eq_true rfl, Nat.le_of_ble_eq_true rfl, pay_in hts (sj_in hw (hw _ (List.mem_of_getElem? (i := 23) rfl))), List.mem_cons_self, (hts _ (hw _ (List.mem_of_getElem? (i := 23) rfl))), (hts _ (hw _ (List.mem_of_getElem? (i := 22) rfl))), ⟨by decide +kernel, by decide +kernel⟩, (fun sig hs9 => sm_np (y := yJ3_checkIndex_8e157) (by decide +kernel) hs9), (hts _ (hw _ (List.mem_of_getElem? (i := 20) rfl)))⟩, (hts _ (hw _ (List.mem_of_getElem? (i := 21) rfl)))⟩ ⟨fun a U gf mk z => z, fun U hU hWd => ⟨rfl, trivial⟩⟩ rfl rfl hl.1 rfl (lv_room (Nat.le_of_ble_eq_true rfl)) dJ0_checkIndex_df160_5 ⟨Nat.zero_le _, Nat.zero_le _⟩) (fun r9 hr9 => ?_)
    refine lv_pop hx hb dJ0_checkIndex_df160_8 rfl ?_
    exact W.vret hx hb hr (fun t ht hW => ⟨rfl, trivial, ht⟩) (fun _ h => by cases h) dJ0_checkIndex_df160_9
  · refine va_gets hx hb hZ hS hown (hts _ (hw _ (List.mem_of_getElem? (i := 19) rfl))) (fun _ z => z) dJ0_checkIndex_df160_2 ?_
    refine vp_callSi (W.runS (As := [.int i, .int n, .ref t9]) (rest := []) (n := 3) (mc := 0) (ms := 0) ⟨hx, hb, hml, hown, hts⟩ (sj_pck (l := l) (D := D) (cA := cA) (g := g) (B := B) (b := b) (Ln := Ln) (xs := xs) (adV := adV) hw hbB h0 h1) ⟨⟨rfl, rfl, Nat.le_of_ble_eq_true rfl, Nat.le_of_ble_eq_true rfl, pay_in hts (sj_in hw (hw _ (List.mem_of_getElem? (i := 23) rfl))), List.mem_cons_self, (hts _ (hw _ (List.mem_of_getElem? (i := 23) rfl))), (hts _ (hw _ (List.mem_of_getElem? (i := 22) rfl))), ⟨by decide +kernel, by decide +kernel⟩, (fun sig hs9 => sm_np (y := yJ3_checkIndex_8e157) (by decide +kernel) hs9), (hts _ (hw _ (List.mem_of_getElem? (i := 20) rfl)))⟩, (hts _ (hw _ (List.mem_of_getElem? (i := 21) rfl)))⟩ ⟨fun a U gf mk z => z, fun U hU hWd => ⟨rfl, trivial⟩⟩ rfl rfl hl.1 rfl (lv_room (Nat.le_of_ble_eq_true rfl)) dJ0_checkIndex_df160_5 ⟨Nat.zero_le _, Nat.zero_le _⟩) (fun r9 hr9 => ?_)
    refine lv_pop hx hb dJ0_checkIndex_df160_8 rfl ?_
    exact W.vret hx hb hr (fun t ht hW => ⟨rfl, trivial, ht⟩) (fun _ h => by cases h) dJ0_checkIndex_df160_9
set_option maxRecDepth 100000 in
theorem sj_lch {l : Launch} {D : va_G} {cA : Nat → ClassId} {g : Nat → Nat} {B b Ln : Nat} {xs : Nat → Int32} {adV : Nat → Nat} {i : Nat} {j : Int32} (hw : ∀ w ∈ sj_ws, w ∈ sm_TB) (hbB : b < B) (hi : i < 3) (hj : vp_in j (sm_len.getD i 0)) : Met l yJ1_charAt_3b067 (.code yJ1_charAt_3b067 cJ1_charAt_3b067 2 (some .char) :: sm_TB) (sj_rm 2 60) (sj_P D cA g B b Ln xs adV [.ref (adV i), .int j]) (vp_Si (fun r => r = (sm_byt.getD i []).getD j.toNatClampNeg 0)) 0 0 (fun _ => False) := by
  refine Met.ofW (cc := cJ1_charAt_3b067) (maxL := 2) (ret := (some .char)) (by decide +kernel) rfl ?_
  intro p e s m args below meth c s₁ Bo hml hv
  have hx := Bo.exec
  have hb := Bo.bytes
  have hr := Bo.returns
  have hts : ∀ w ∈ sm_TB, w.before args s = true := fun w hw => atoms_spec (ws := .code yJ1_charAt_3b067 cJ1_charAt_3b067 2 (some .char) :: sm_TB) Bo.pre w (List.mem_cons_of_mem _ hw)
  have hown : s.vm.findClass RJ1 = some m.cls := findClass_of_methodNamed Bo.named
  have hlocks := Bo.notSynchronized
  obtain ⟨rfl, hA, hBs⟩ := hv
  have hS : va_S (fun q => B ≤ q) s.heap s.heap [] := va_S.rf
  have hT := (hA.2.2.1.1 i hi).2.2.2
  have h0 : ¬ j < 0 := fun z => hj (Or.inl z)
  have hlt : j.toNatClampNeg < sm_len.getD i 0 := Nat.not_le.mp fun z => hj (Or.inr z)
  have h31 : sm_len.getD i 0 < 2 ^ 31 := by
    have : i = 0 ∨ i = 1 ∨ i = 2 := by omega
    rcases this with rfl | rfl | rfl <;> decide
  have h1 : j < Int32.ofNat (sm_len.getD i 0) := by
    obtain ⟨z, hz, rfl⟩ := nI_of h0
    rw [nI_clamp hz] at hlt
    exact nI_lt hlt h31
  have hl := lv_entry ([.ref (adV i), .int j]) (n := 2) (Nat.le_of_ble_eq_true rfl)
  rw [lg_entry_eq]
  generalize (lg_sl ([.ref (adV i), .int j]) ++ List.replicate (2 - (lg_sl ([.ref (adV i), .int j])).length) Slot.unset).toArray = ls at hl ⊢
  refine lv_iload_n hx hb dJ1_charAt_3b067_0 rfl (lv_at hl 1 rfl) ?_
  refine lv_aload_n hx hb dJ1_charAt_3b067_1 rfl (lv_at hl 0 rfl) ?_
  refine va_tlen hx hb hT hS rfl dJ1_charAt_3b067_2 ?_
  refine sj_callv (W.runS (As := [.int j, .int (Int32.ofNat (sm_len.getD i 0))]) (rest := []) (n := 2) (mc := 0) (ms := 0) ⟨hx, hb, hml, hown, hts⟩ (sj_ck (l := l) (D := D) (cA := cA) (g := g) (B := B) (b := b) (Ln := Ln) (xs := xs) (adV := adV) hw hbB h0 h1) ⟨⟨rfl, rfl, Nat.le_of_ble_eq_true rfl, Nat.le_of_ble_eq_true rfl, pay_in hts (sj_in hw (hw _ (List.mem_of_getElem? (i := 18) rfl))), List.mem_cons_self, (hts _ (hw _ (List.mem_of_getElem? (i := 18) rfl))), (hts _ (hw _ (List.mem_of_getElem? (i := 6) rfl))), ⟨by decide +kernel, by decide +kernel⟩, (fun sig hs9 => sm_np (y := yJ0_checkIndex_df160) (by decide +kernel) hs9), (hts _ (hw _ (List.mem_of_getElem? (i := 16) rfl)))⟩, (hts _ (hw _ (List.mem_of_getElem? (i := 17) rfl)))⟩ ⟨sj_blind, fun U hU hWd => ⟨rfl, hA.at hS hbB hBs hU hWd, by rw [hU]; exact hBs⟩⟩ rfl rfl hl.1 rfl (lv_room (Nat.le_of_ble_eq_true rfl)) dJ1_charAt_3b067_3 ⟨Nat.zero_le _, Nat.zero_le _⟩) ?_
  refine lv_aload_n hx hb dJ1_charAt_3b067_6 rfl (lv_at hl 0 rfl) ?_
  refine lv_iload_n hx hb dJ1_charAt_3b067_7 rfl (lv_at hl 1 rfl) ?_
  refine va_tb hx hb hT hS hj rfl dJ1_charAt_3b067_8 ?_
  refine lv_sipush (v := 255) hx hb dJ1_charAt_3b067_9 (by decide) ?_
  refine lv_iand hx hb dJ1_charAt_3b067_12 ?_
  refine lv_i2c hx hb dJ1_charAt_3b067_13 rfl ?_
  obtain ⟨q1, q2⟩ := sj_ch i hi _ hlt
  rw [q1]
  exact W.zret hx hb hr q2 (fun t ht hW => ⟨_, rfl, rfl, ht⟩) (fun _ h => by cases h) dJ1_charAt_3b067_14
set_option maxRecDepth 100000 in
theorem sj_length {l : Launch} {D : va_G} {cA : Nat → ClassId} {g : Nat → Nat} {B b Ln : Nat} {xs : Nat → Int32} {adV : Nat → Nat} {i : Nat} (hw : ∀ w ∈ sj_ws, w ∈ sm_TB) (hbB : b < B) (hi : i < 3) (h : am_H) : vx_Met l yJ0_length_8abf5 (.code yJ0_length_8abf5 cJ0_length_8abf5 1 (some .int) :: sm_TB) sm_rS (sm_Pc D cA g B b Ln xs adV [.ref (1000000 + i)] h) (sm_Q D cA g B Ln xs (.inr (some (.int (Int32.ofNat (sm_len.getD i 0)))), h)) (sm_X D cA g B Ln xs (.inr (some (.int (Int32.ofNat (sm_len.getD i 0)))), h)) 0 0 (fun q => B ≤ q) := by
  refine vx_ofW (cc := cJ0_length_8abf5) (maxL := 1) (ret := (some .int)) (by decide +kernel) rfl ?_
  intro p e s m args below meth c s₁ Bo hml htab hv
  have hx := Bo.exec
  have hb := Bo.bytes
  have hr := Bo.returns
  have hts : ∀ w ∈ sm_TB, w.before args s = true := fun w hw => atoms_spec (ws := .code yJ0_length_8abf5 cJ0_length_8abf5 1 (some .int) :: sm_TB) Bo.pre w (List.mem_cons_of_mem _ hw)
  have hown : s.vm.findClass RJ0 = some m.cls := findClass_of_methodNamed Bo.named
  have hlocks := Bo.notSynchronized
  obtain ⟨rfl, hW, hA⟩ := hv
  have hBs := hW.2.2.2.2.1
  have hS : va_S (fun q => B ≤ q) s.heap s.heap [] := va_S.rf
  show W p l e _ s m _ below meth c s.heap [] 0 0 _ (entryFrame m ([.ref (g (1000000 + i))] : List Value).toArray 1)
  have hl := lv_entry ([.ref (g (1000000 + i))]) (n := 1) (Nat.le_of_ble_eq_true rfl)
  rw [lg_entry_eq]
  generalize (lg_sl ([.ref (g (1000000 + i))]) ++ List.replicate (1 - (lg_sl ([.ref (g (1000000 + i))])).length) Slot.unset).toArray = ls at hl ⊢
  refine lv_aload_n hx hb dJ0_length_8abf5_0 rfl (lv_at hl 0 rfl) ?_
  refine vk_getf hx hb ((hA.2.2.1.1 i hi).2.2.1) hS hown (hts _ (hw _ (List.mem_of_getElem? (i := 2) rfl))) (fun _ z => z) dJ0_length_8abf5_1 ?_
  refine va_tlen hx hb (hA.2.2.1.1 i hi).2.2.2 hS rfl dJ0_length_8abf5_4 ?_
  refine lv_aload_n hx hb dJ0_length_8abf5_5 rfl (lv_at hl 0 rfl) ?_
  refine vp_callSi (W.runV (As := []) (rest := [.int (Int32.ofNat (sm_len.getD i 0))]) (n := 0) (mc := 0) (ms := 0) (C := "java/lang/String") ⟨hx, hb, hml, hown, hts⟩ (sj_coder (l := l) (D := D) (cA := cA) (g := g) (B := B) (b := b) (Ln := Ln) (xs := xs) (adV := adV) hw hbB hi) ⟨⟨rfl, rfl, Nat.le_of_ble_eq_true rfl, Nat.le_of_ble_eq_true rfl, pay_in hts (sj_in hw (hw _ (List.mem_of_getElem? (i := 7) rfl))), List.mem_cons_self, (hts _ (hw _ (List.mem_of_getElem? (i := 7) rfl))), (hts _ (hw _ (List.mem_of_getElem? (i := 6) rfl))), ⟨by decide +kernel, by decide +kernel⟩, (fun sig hs9 => sm_np (y := yJ0_coder_7d493) (by decide +kernel) hs9), (hts _ (hw _ (List.mem_of_getElem? (i := 3) rfl)))⟩, (hts _ (hw _ (List.mem_of_getElem? (i := 4) rfl))), (hts _ (hw _ (List.mem_of_getElem? (i := 5) rfl)))⟩ ⟨sj_blind, vk_recv (adK := fun i => g (1000000 + i)) hA.2.2.1 hi hS, fun U hU hWd => ⟨rfl, hA.at hS hbB hBs hU hWd, by rw [hU]; exact hBs⟩⟩ rfl rfl hl.1 rfl (lv_room (Nat.le_of_ble_eq_true rfl)) dJ0_length_8abf5_6 ⟨Nat.zero_le _, Nat.zero_le _⟩) (fun r9 hr9 => ?_)
  subst hr9
  refine lv_ishr hx hb dJ0_length_8abf5_9 ?_
  have e9 : Int32.ofNat (sm_len.getD i 0) >>> ((0 : Int32) &&& 31) = Int32.ofNat (sm_len.getD i 0) := by
    have : i = 0 ∨ i = 1 ∨ i = 2 := by omega
    rcases this with rfl | rfl | rfl <;> decide
  rw [e9]
  exact vx_ret (W.iret hx hb hr (fun t ht hWt => ⟨_, rfl, rfl, by rw [ht]; exact hW, hS.F ht⟩) (fun _ z => by cases z) dJ0_length_8abf5_10 hlocks)
set_option maxRecDepth 100000 in
theorem sj_charAt {l : Launch} {D : va_G} {cA : Nat → ClassId} {g : Nat → Nat} {B b Ln : Nat} {xs : Nat → Int32} {adV : Nat → Nat} {i : Nat} {j : Int32} (hw : ∀ w ∈ sj_ws, w ∈ sm_TB) (hbB : b < B) (hi : i < 3) (hj : vp_in j (sm_len.getD i 0)) (h : am_H) : vx_Met l yJ0_charAt_5068e (.code yJ0_charAt_5068e cJ0_charAt_5068e 2 (some .char) :: sm_TB) sm_rS (sm_Pc D cA g B b Ln xs adV [.ref (1000000 + i), .int j] h) (sm_Q D cA g B Ln xs (.inr (some (.int ((sm_byt.getD i []).getD j.toNatClampNeg 0))), h)) (sm_X D cA g B Ln xs (.inr (some (.int ((sm_byt.getD i []).getD j.toNatClampNeg 0))), h)) 0 0 (fun q => B ≤ q) := by
  refine vx_ofW (cc := cJ0_charAt_5068e) (maxL := 2) (ret := (some .char)) (by decide +kernel) rfl ?_
  intro p e s m args below meth c s₁ Bo hml htab hv
  have hx := Bo.exec
  have hb := Bo.bytes
  have hr := Bo.returns
  have hts : ∀ w ∈ sm_TB, w.before args s = true := fun w hw => atoms_spec (ws := .code yJ0_charAt_5068e cJ0_charAt_5068e 2 (some .char) :: sm_TB) Bo.pre w (List.mem_cons_of_mem _ hw)
  have hown : s.vm.findClass RJ0 = some m.cls := findClass_of_methodNamed Bo.named
  have hlocks := Bo.notSynchronized
  obtain ⟨rfl, hW, hA⟩ := hv
  have hBs := hW.2.2.2.2.1
  have hS : va_S (fun q => B ≤ q) s.heap s.heap [] := va_S.rf
  show W p l e _ s m _ below meth c s.heap [] 0 0 _ (entryFrame m ([.ref (g (1000000 + i)), .int j] : List Value).toArray 2)
  have hl := lv_entry ([.ref (g (1000000 + i)), .int j]) (n := 2) (Nat.le_of_ble_eq_true rfl)
  rw [lg_entry_eq]
  generalize (lg_sl ([.ref (g (1000000 + i)), .int j]) ++ List.replicate (2 - (lg_sl ([.ref (g (1000000 + i)), .int j])).length) Slot.unset).toArray = ls at hl ⊢
  refine lv_aload_n hx hb dJ0_charAt_5068e_0 rfl (lv_at hl 0 rfl) ?_
  refine vp_callSi (W.runV (As := []) (rest := []) (n := 0) (mc := 0) (ms := 0) (C := "java/lang/String") ⟨hx, hb, hml, hown, hts⟩ (sj_isL (l := l) (D := D) (cA := cA) (g := g) (B := B) (b := b) (Ln := Ln) (xs := xs) (adV := adV) hw hbB hi) ⟨⟨rfl, rfl, Nat.le_of_ble_eq_true rfl, Nat.le_of_ble_eq_true rfl, pay_in hts (sj_in hw (hw _ (List.mem_of_getElem? (i := 11) rfl))), List.mem_cons_self, (hts _ (hw _ (List.mem_of_getElem? (i := 11) rfl))), (hts _ (hw _ (List.mem_of_getElem? (i := 6) rfl))), ⟨by decide +kernel, by decide +kernel⟩, (fun sig hs9 => sm_np (y := yJ0_isLatin1_aae02) (by decide +kernel) hs9), (hts _ (hw _ (List.mem_of_getElem? (i := 8) rfl)))⟩, (hts _ (hw _ (List.mem_of_getElem? (i := 9) rfl))), (hts _ (hw _ (List.mem_of_getElem? (i := 10) rfl)))⟩ ⟨sj_blind, vk_recv (adK := fun i => g (1000000 + i)) hA.2.2.1 hi hS, fun U hU hWd => ⟨rfl, hA.at hS hbB hBs hU hWd, by rw [hU]; exact hBs⟩⟩ rfl rfl hl.1 rfl (lv_room (Nat.le_of_ble_eq_true rfl)) dJ0_charAt_5068e_1 ⟨Nat.zero_le _, Nat.zero_le _⟩) (fun r9 hr9 => ?_)
  subst hr9
  refine lv_if_eq (tgt := 16) hx hb dJ0_charAt_5068e_4 (by decide) (fun hc => absurd hc (by decide)) (fun hc => ?_)
  refine lv_aload_n hx hb dJ0_charAt_5068e_7 rfl (lv_at hl 0 rfl) ?_
  refine vk_getf hx hb ((hA.2.2.1.1 i hi).2.2.1) hS hown (hts _ (hw _ (List.mem_of_getElem? (i := 2) rfl))) (fun _ z => z) dJ0_charAt_5068e_8 ?_
  refine lv_iload_n hx hb dJ0_charAt_5068e_11 rfl (lv_at hl 1 rfl) ?_
  refine vp_callSi (W.runS (As := [.ref (adV i), .int j]) (rest := []) (n := 2) (mc := 0) (ms := 0) ⟨hx, hb, hml, hown, hts⟩ (sj_lch (l := l) (D := D) (cA := cA) (g := g) (B := B) (b := b) (Ln := Ln) (xs := xs) (adV := adV) hw hbB hi hj) ⟨⟨rfl, rfl, Nat.le_of_ble_eq_true rfl, Nat.le_of_ble_eq_true rfl, pay_in hts (sj_in hw (hw _ (List.mem_of_getElem? (i := 15) rfl))), List.mem_cons_self, (hts _ (hw _ (List.mem_of_getElem? (i := 15) rfl))), (hts _ (hw _ (List.mem_of_getElem? (i := 14) rfl))), ⟨by decide +kernel, by decide +kernel⟩, (fun sig hs9 => sm_np (y := yJ1_charAt_3b067) (by decide +kernel) hs9), (hts _ (hw _ (List.mem_of_getElem? (i := 12) rfl)))⟩, (hts _ (hw _ (List.mem_of_getElem? (i := 13) rfl)))⟩ ⟨sj_blind, fun U hU hWd => ⟨rfl, hA.at hS hbB hBs hU hWd, by rw [hU]; exact hBs⟩⟩ rfl rfl hl.1 rfl (lv_room (Nat.le_of_ble_eq_true rfl)) dJ0_charAt_5068e_12 ⟨Nat.zero_le _, Nat.zero_le _⟩) (fun r9 hr9 => ?_)
  subst hr9
  have hlt : j.toNatClampNeg < sm_len.getD i 0 := Nat.not_le.mp fun z => hj (Or.inr z)
  exact vx_ret (W.zret hx hb hr (sj_ch i hi _ hlt).2 (fun t ht hWt => ⟨_, rfl, rfl, by rw [ht]; exact hW, hS.F ht⟩) (fun _ z => by cases z) dJ0_charAt_5068e_15 hlocks)
