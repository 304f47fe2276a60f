/-! ===== the tables fit the code: words by their places, entries by evaluation ===== -/
def ck_t (k : Nat) : List Cond := match k with
  | 0 => k2_sels lw_privs
  | 1 => tables_1_1
  | 2 => tables_1_2
  | 3 => tables_1_3
  | 4 => tables_1_4
  | 5 => tables_1_5
  | 6 => tables_1_6
  | 7 => tables_1_7
  | 8 => tables_1_8
  | 9 => tables_1_9
  | _ => []
theorem ck_t_sub (k : Nat) : ∀ w ∈ ck_t k, w ∈ lw_tbl := by
  intro w h
  unfold lw_tbl tables_1
  simp only [List.mem_append]
  unfold ck_t at h
  split at h
  · exact Or.inl h
  · exact Or.inr (Or.inl h)
  · exact Or.inr (Or.inr (Or.inl h))
  · exact Or.inr (Or.inr (Or.inr (Or.inl h)))
  · exact Or.inr (Or.inr (Or.inr (Or.inr (Or.inl h))))
  · exact Or.inr (Or.inr (Or.inr (Or.inr (Or.inr (Or.inl h)))))
  · exact Or.inr (Or.inr (Or.inr (Or.inr (Or.inr (Or.inr (Or.inl h))))))
  · exact Or.inr (Or.inr (Or.inr (Or.inr (Or.inr (Or.inr (Or.inr (Or.inl h)))))))
  · exact Or.inr (Or.inr (Or.inr (Or.inr (Or.inr (Or.inr (Or.inr (Or.inr (Or.inl h))))))))
  · exact Or.inr (Or.inr (Or.inr (Or.inr (Or.inr (Or.inr (Or.inr (Or.inr (Or.inr h))))))))
  · cases h
abbrev ck_I : Type := Nat × Nat
def ck_w (x : ck_I) (w : Cond) : Bool := decide ((ck_t x.1)[x.2]? = some w) && goodWord w
theorem ck_at {x : ck_I} {w : Cond} (h : (ck_t x.1)[x.2]? = some w) (hg : goodWord w = true) : w ∈ sm_TB :=
  List.mem_filter.mpr ⟨ck_t_sub _ _ (List.mem_of_getElem? h), hg⟩
theorem ck_w_ok {x : ck_I} {w : Cond} (h : ck_w x w = true) : w ∈ sm_TB := by
  unfold ck_w at h
  rw [Bool.and_eq_true] at h
  exact ck_at (of_decide_eq_true h.1) h.2
def ck_ws : List Cond → List ck_I → Bool
  | [], _ => true
  | w :: ws, x :: ix => ck_w x w && ck_ws ws ix
  | _ :: _, [] => false
theorem ck_ws_ok : ∀ (ws : List Cond) (ix : List ck_I), ck_ws ws ix = true → ∀ w ∈ ws, w ∈ sm_TB
  | [], _, _ => fun w h => by cases h
  | w :: ws, x :: ix, h => by
    rw [ck_ws, Bool.and_eq_true] at h
    intro w' hw
    rcases List.mem_cons.mp hw with rfl | hw
    · exact ck_w_ok h.1
    · exact ck_ws_ok ws ix h.2 w' hw
  | _ :: _, [], h => by cases h
/-- classes of the world -/
def ck_cp (a : Nat) (C : String) (T : u_T) (N : Nat) : Prop :=
  a < 9 ∧ N = sm_N a ∧ (∀ w ∈ u_ws C T N, w ∈ sm_TB) ∧ (∀ k, k < N → (T k).1 = C) ∧ (∀ k, k < N → parseFieldDescriptor (T k).2.2.1 = some (sm_ty a k)) ∧ (∀ x, x < N → ∀ y, y < N → x ≠ y → (T x).2.1 ≠ (T y).2.1) ∧ (∀ k, k < N → defaultValue (sm_ty a k) = sm_dv (sm_ty a k)) ∧ Cond.instantiable C N ∈ sm_TB ∧ Cond.initialized C ∈ sm_TB
def ck_cb (a : Nat) (C : String) (T : u_T) (N : Nat) (ix : List ck_I) (i1 i2 : ck_I) : Bool :=
  Nat.blt a 9 && Nat.beq N (sm_N a) && ck_ws (u_ws C T N) ix && (List.range N).all (fun k => decide ((T k).1 = C) && decide (parseFieldDescriptor (T k).2.2.1 = some (sm_ty a k)) && decide (defaultValue (sm_ty a k) = sm_dv (sm_ty a k)) && (List.range N).all (fun y => Nat.beq k y || !decide ((T k).2.1 = (T y).2.1))) && ck_w i1 (.instantiable C N) && ck_w i2 (.initialized C)
theorem ck_cb_ok {a : Nat} {C : String} {T : u_T} {N : Nat} {ix : List ck_I} {i1 i2 : ck_I} (h : ck_cb a C T N ix i1 i2 = true) : ck_cp a C T N := by
  unfold ck_cb at h
  simp only [Bool.and_eq_true, List.all_eq_true, decide_eq_true_eq, List.mem_range, Bool.or_eq_true, Nat.beq_eq, Nat.blt_eq, Bool.not_eq_true', decide_eq_false_iff_not] at h
  obtain ⟨⟨⟨⟨⟨h1, h2⟩, h3⟩, h4⟩, h5⟩, h6⟩ := h
  refine ⟨h1, h2, ck_ws_ok _ _ h3, fun k hk => (h4 k hk).1.1.1, fun k hk => (h4 k hk).1.1.2, fun x hx y hy hn => ?_, fun k hk => (h4 k hk).1.2, ck_w_ok h5, ck_w_ok h6⟩
  rcases (h4 x hx).2 y hy with e | e
  · exact absurd e hn
  · exact e

set_option maxRecDepth 100000 in
theorem ck_c0 : ck_cp 0 RX0 TX0 8 := ck_cb_ok (ix := [(2, 84), (2, 86), (2, 88), (2, 90), (2, 92), (2, 94), (2, 96), (2, 98)]) (i1 := (2, 65)) (i2 := (1, 7)) (by decide +kernel)
set_option maxRecDepth 100000 in
theorem ck_c1 : ck_cp 1 RX1 TX1 2 := ck_cb_ok (ix := [(2, 150), (2, 152)]) (i1 := (2, 143)) (i2 := (1, 9)) (by decide +kernel)
set_option maxRecDepth 100000 in
theorem ck_c2 : ck_cp 2 RX2 TX2 17 := ck_cb_ok (ix := [(1, 135), (1, 137), (1, 139), (1, 141), (1, 143), (1, 145), (1, 147), (1, 149), (1, 151), (1, 153), (1, 155), (1, 157), (1, 159), (1, 161), (1, 163), (1, 165), (1, 167)]) (i1 := (1, 38)) (i2 := (1, 2)) (by decide +kernel)
set_option maxRecDepth 100000 in
theorem ck_c3 : ck_cp 3 RX3 TX3 18 := ck_cb_ok (ix := [(1, 199), (1, 201), (1, 203), (1, 205), (1, 207), (1, 209), (1, 211), (1, 213), (1, 215), (1, 217), (1, 219), (1, 221), (1, 223), (1, 225), (1, 227), (1, 229), (1, 231), (1, 233)]) (i1 := (1, 172)) (i2 := (1, 5)) (by decide +kernel)
set_option maxRecDepth 100000 in
theorem ck_c4 : ck_cp 4 RX4 TX4 10 := ck_cb_ok (ix := [(2, 121), (2, 123), (2, 125), (2, 127), (2, 129), (2, 131), (2, 133), (2, 135), (2, 137), (2, 139)]) (i1 := (2, 102)) (i2 := (1, 8)) (by decide +kernel)
set_option maxRecDepth 100000 in
theorem ck_c5 : ck_cp 5 RX5 TX5 18 := ck_cb_ok (ix := [(2, 27), (2, 29), (2, 31), (2, 33), (2, 35), (2, 37), (2, 39), (2, 41), (2, 43), (2, 45), (2, 47), (2, 49), (2, 51), (2, 53), (2, 55), (2, 57), (2, 59), (2, 61)]) (i1 := (1, 237)) (i2 := (1, 6)) (by decide +kernel)
set_option maxRecDepth 100000 in
theorem ck_c6 : ck_cp 6 RX6 TX6 3 := ck_cb_ok (ix := [(1, 56), (1, 58), (1, 60)]) (i1 := (1, 44)) (i2 := (1, 3)) (by decide +kernel)
set_option maxRecDepth 100000 in
theorem ck_c7 : ck_cp 7 RX7 TX7 18 := ck_cb_ok (ix := [(2, 173), (2, 175), (2, 177), (2, 179), (2, 181), (2, 183), (2, 185), (2, 187), (2, 189), (2, 191), (2, 193), (2, 195), (2, 197), (2, 199), (2, 201), (2, 203), (2, 205), (2, 207)]) (i1 := (1, 30)) (i2 := (1, 1)) (by decide +kernel)
set_option maxRecDepth 100000 in
theorem ck_c8 : ck_cp 8 RX8 TX8 45 := ck_cb_ok (ix := [(7, 100), (7, 102), (7, 104), (7, 106), (7, 108), (7, 110), (7, 112), (7, 114), (7, 116), (7, 118), (7, 120), (7, 122), (7, 124), (7, 126), (7, 128), (7, 130), (7, 132), (7, 134), (7, 136), (7, 138), (7, 140), (7, 142), (7, 144), (7, 146), (7, 148), (7, 150), (7, 152), (7, 154), (7, 156), (7, 158), (7, 160), (7, 162), (7, 164), (7, 166), (7, 168), (7, 170), (7, 172), (7, 174), (7, 176), (7, 178), (7, 180), (7, 182), (7, 184), (7, 186), (7, 188)]) (i1 := (7, 40)) (i2 := (1, 10)) (by decide +kernel)
theorem ck_cl : ∀ (a : Nat) (C : String) (T : u_T) (N : Nat), sm_cl[a]? = some (C, T, N) → ck_cp a C T N
  | 0, _, _, _, h => by cases h; exact ck_c0
  | 1, _, _, _, h => by cases h; exact ck_c1
  | 2, _, _, _, h => by cases h; exact ck_c2
  | 3, _, _, _, h => by cases h; exact ck_c3
  | 4, _, _, _, h => by cases h; exact ck_c4
  | 5, _, _, _, h => by cases h; exact ck_c5
  | 6, _, _, _, h => by cases h; exact ck_c6
  | 7, _, _, _, h => by cases h; exact ck_c7
  | 8, _, _, _, h => by cases h; exact ck_c8
  | n + 9, _, _, _, h => by cases h
noncomputable def q_Wo_init : sm_M := (RX6, yX6_init, cX6_init, 2, none, none)
noncomputable def q_Wo_letterAt : sm_M := (RX6, yX6_letterAt, cX6_letterAt, 4, (some .int), none)
noncomputable def q_Wo_find : sm_M := (RX6, yX6_find, cX6_find, 4, (some .int), none)
noncomputable def q_Wo_add : sm_M := (RX6, yX6_add, cX6_add, 3, (some .int), none)
noncomputable def q_On_init : sm_M := (RX2, yX2_init, cX2_init, 1, none, none)
noncomputable def q_On_clear : sm_M := (RX2, yX2_clear, cX2_clear, 1, none, none)
noncomputable def q_On_allParts : sm_M := (RX2, yX2_allParts, cX2_allParts, 1, (some .long), none)
noncomputable def q_On_intern : sm_M := (RX2, yX2_intern, cX2_intern, 5, (some .int), none)
noncomputable def q_On_addConceptAxiom : sm_M := (RX2, yX2_addConceptAxiom, cX2_addConceptAxiom, 4, none, none)
noncomputable def q_On_addRoleAxiom : sm_M := (RX2, yX2_addRoleAxiom, cX2_addRoleAxiom, 4, none, none)
noncomputable def q_On_addAxiom : sm_M := (RX2, yX2_addAxiom, cX2_addAxiom, 7, none, none)
noncomputable def q_Re_init : sm_M := (RX3, yX3_init, cX3_init, 3, none, none)
noncomputable def q_Re_open : sm_M := (RX3, yX3_open, cX3_open, 4, none, none)
noncomputable def q_Re_readAxioms : sm_M := (RX3, yX3_readAxioms, cX3_readAxioms, 2, none, none)
noncomputable def q_Re_readQuestion : sm_M := (RX3, yX3_readQuestion, cX3_readQuestion, 1, none, none)
noncomputable def q_Re_readSingle : sm_M := (RX3, yX3_readSingle, cX3_readSingle, 1, none, none)
noncomputable def q_Re_readConceptAxiom : sm_M := (RX3, yX3_readConceptAxiom, cX3_readConceptAxiom, 5, none, none)
noncomputable def q_Re_readRoleAxiom : sm_M := (RX3, yX3_readRoleAxiom, cX3_readRoleAxiom, 5, none, none)
noncomputable def q_Re_readConcept : sm_M := (RX3, yX3_readConcept, cX3_readConcept, 3, (some .int), none)
noncomputable def q_Re_openBracket : sm_M := (RX3, yX3_openBracket, cX3_openBracket, 1, none, none)
noncomputable def q_Re_pushFrame : sm_M := (RX3, yX3_pushFrame, cX3_pushFrame, 3, none, none)
noncomputable def q_Re_closeFrames : sm_M := (RX3, yX3_closeFrames, cX3_closeFrames, 6, (some .int), none)
noncomputable def q_Re_readPlain : sm_M := (RX3, yX3_readPlain, cX3_readPlain, 3, (some .int), none)
noncomputable def q_Re_readRole : sm_M := (RX3, yX3_readRole, cX3_readRole, 2, (some .int), none)
noncomputable def q_Re_numberOfWord : sm_M := (RX3, yX3_numberOfWord, cX3_numberOfWord, 3, (some .int), none)
noncomputable def q_Re_build : sm_M := (RX3, yX3_build, cX3_build, 5, (some .int), none)
noncomputable def q_Re_failIfTooManyParts : sm_M := (RX3, yX3_failIfTooManyParts, cX3_failIfTooManyParts, 2, none, none)
noncomputable def q_Re_expect : sm_M := (RX3, yX3_expect, cX3_expect, 2, none, none)
noncomputable def q_Re_fail : sm_M := (RX3, yX3_fail, cX3_fail, 3, none, none)
noncomputable def q_Re_canBegin : sm_M := (RX3, yX3_canBegin, cX3_canBegin, 1, (some .boolean), none)
noncomputable def q_Re_roleSignFollows : sm_M := (RX3, yX3_roleSignFollows, cX3_roleSignFollows, 2, (some .boolean), none)
noncomputable def q_Re_isSign : sm_M := (RX3, yX3_isSign, cX3_isSign, 3, (some .boolean), none)
noncomputable def q_Re_behindBlanks : sm_M := (RX3, yX3_behindBlanks, cX3_behindBlanks, 3, (some .int), none)
noncomputable def q_Re_step : sm_M := (RX3, yX3_step, cX3_step, 1, none, none)
noncomputable def q_Re_kindOfWord : sm_M := (RX3, yX3_kindOfWord, cX3_kindOfWord, 1, (some .int), none)
noncomputable def q_Re_kindOfSign : sm_M := (RX3, yX3_kindOfSign, cX3_kindOfSign, 1, (some .int), none)
noncomputable def q_Sa_init : sm_M := (RX5, yX5_init, cX5_init, 2, none, none)
noncomputable def q_Sa_begin : sm_M := (RX5, yX5_begin, cX5_begin, 6, none, none)
noncomputable def q_Sa_sortAxioms : sm_M := (RX5, yX5_sortAxioms, cX5_sortAxioms, 4, none, none)
noncomputable def q_Sa_addStep : sm_M := (RX5, yX5_addStep, cX5_addStep, 3, none, none)
noncomputable def q_Sa_spreadUnder : sm_M := (RX5, yX5_spreadUnder, cX5_spreadUnder, 5, (some .boolean), none)
noncomputable def q_Sa_activate : sm_M := (RX5, yX5_activate, cX5_activate, 7, none, none)
noncomputable def q_Sa_isVoid : sm_M := (RX5, yX5_isVoid, cX5_isVoid, 2, (some .boolean), none)
noncomputable def q_Sa_isBelow : sm_M := (RX5, yX5_isBelow, cX5_isBelow, 3, (some .boolean), none)
noncomputable def q_Sa_linksFrom : sm_M := (RX5, yX5_linksFrom, cX5_linksFrom, 4, (some .int), none)
noncomputable def q_Sa_deriveAll : sm_M := (RX5, yX5_deriveAll, cX5_deriveAll, 2, none, none)
noncomputable def q_Sa_commitAll : sm_M := (RX5, yX5_commitAll, cX5_commitAll, 3, (some .boolean), none)
noncomputable def q_Sa_saturate : sm_M := (RX5, yX5_saturate, cX5_saturate, 8, none, none)
noncomputable def q_Sa_entails : sm_M := (RX5, yX5_entails, cX5_entails, 8, (some .boolean), none)
noncomputable def q_Sa_sweep : sm_M := (RX5, yX5_sweep, cX5_sweep, 3, (some .boolean), none)
noncomputable def q_Sa_usedAxioms : sm_M := (RX5, yX5_usedAxioms, cX5_usedAxioms, 5, (some .long), none)
noncomputable def q_Sa_isUsed : sm_M := (RX5, yX5_isUsed, cX5_isUsed, 5, (some .boolean), none)
noncomputable def q_Sa_derive : sm_M := (RX5, yX5_derive, cX5_derive, 4, none, none)
noncomputable def q_Sa_byAxioms : sm_M := (RX5, yX5_byAxioms, cX5_byAxioms, 6, (some .long), none)
noncomputable def q_Sa_byParts : sm_M := (RX5, yX5_byParts, cX5_byParts, 11, (some .long), none)
noncomputable def q_Sa_byChains : sm_M := (RX5, yX5_byChains, cX5_byChains, 10, none, none)
noncomputable def q_Sa_commit : sm_M := (RX5, yX5_commit, cX5_commit, 9, (some .boolean), none)
noncomputable def q_Sa_spreadReach : sm_M := (RX5, yX5_spreadReach, cX5_spreadReach, 6, none, none)
noncomputable def q_Sa_ruleFor : sm_M := (RX5, yX5_ruleFor, cX5_ruleFor, 5, (some .int), none)
noncomputable def q_Sa_witnessOf : sm_M := (RX5, yX5_witnessOf, cX5_witnessOf, 4, (some .int), none)
noncomputable def q_Sa_joins : sm_M := (RX5, yX5_joins, cX5_joins, 3, (some .boolean), none)
noncomputable def q_Sa_leastAxiom : sm_M := (RX5, yX5_leastAxiom, cX5_leastAxiom, 10, (some .int), none)
noncomputable def q_Sa_leastAnd : sm_M := (RX5, yX5_leastAnd, cX5_leastAnd, 6, (some .int), none)
noncomputable def q_Sa_leastPart : sm_M := (RX5, yX5_leastPart, cX5_leastPart, 4, (some .int), none)
noncomputable def q_Hi_init : sm_M := (RX0, yX0_init, cX0_init, 1, none, none)
noncomputable def q_Hi_build : sm_M := (RX0, yX0_build, cX0_build, 5, none, none)
noncomputable def q_Hi_place : sm_M := (RX0, yX0_place, cX0_place, 5, none, none)
noncomputable def q_Hi_layParents : sm_M := (RX0, yX0_layParents, cX0_layParents, 4, none, none)
noncomputable def q_Hi_childrenOf : sm_M := (RX0, yX0_childrenOf, cX0_childrenOf, 4, (some .int), none)
noncomputable def q_Hi_allUnder : sm_M := (RX0, yX0_allUnder, cX0_allUnder, 4, (some .int), none)
noncomputable def q_Hi_depth : sm_M := (RX0, yX0_depth, cX0_depth, 5, (some .int), none)
noncomputable def q_Hi_commonOf : sm_M := (RX0, yX0_commonOf, cX0_commonOf, 6, (some .int), none)
noncomputable def q_Hi_nodesOver : sm_M := (RX0, yX0_nodesOver, cX0_nodesOver, 3, (some .int), none)
noncomputable def q_Rs_init : sm_M := (RX4, yX4_init, cX4_init, 2, none, none)
noncomputable def q_Rs_forget : sm_M := (RX4, yX4_forget, cX4_forget, 1, none, none)
noncomputable def q_Rs_aim : sm_M := (RX4, yX4_aim, cX4_aim, 4, none, none)
noncomputable def q_Rs_holds : sm_M := (RX4, yX4_holds, cX4_holds, 3, (some .boolean), none)
noncomputable def q_Rs_neededAlone : sm_M := (RX4, yX4_neededAlone, cX4_neededAlone, 6, (some .long), none)
noncomputable def q_Rs_shrink : sm_M := (RX4, yX4_shrink, cX4_shrink, 8, (some .long), none)
noncomputable def q_Rs_findAll : sm_M := (RX4, yX4_findAll, cX4_findAll, 4, none, none)
noncomputable def q_Rs_freeing : sm_M := (RX4, yX4_freeing, cX4_freeing, 13, (some .long), none)
noncomputable def q_Rs_hasIdle : sm_M := (RX4, yX4_hasIdle, cX4_hasIdle, 8, (some .boolean), none)
noncomputable def q_Rs_sortFound : sm_M := (RX4, yX4_sortFound, cX4_sortFound, 5, none, none)
noncomputable def q_Rs_leastCut : sm_M := (RX4, yX4_leastCut, cX4_leastCut, 4, (some .long), none)
noncomputable def q_Rs_cutOf : sm_M := (RX4, yX4_cutOf, cX4_cutOf, 10, (some .long), none)
noncomputable def q_Mo_init : sm_M := (RX1, yX1_init, cX1_init, 1, none, none)
noncomputable def q_Mo_ofAxiom : sm_M := (RX1, yX1_ofAxiom, cX1_ofAxiom, 3, (some .long), none)
noncomputable def q_Mo_inTurn : sm_M := (RX1, yX1_inTurn, cX1_inTurn, 10, (some .long), none)
noncomputable def q_Mo_cut : sm_M := (RX1, yX1_cut, cX1_cut, 15, (some .long), none)
noncomputable def q_Mo_mark : sm_M := (RX1, yX1_mark, cX1_mark, 11, none, none)
noncomputable def q_Mo_isMarked : sm_M := (RX1, yX1_isMarked, cX1_isMarked, 3, (some .boolean), none)
noncomputable def q_Mo_isIdle : sm_M := (RX1, yX1_isIdle, cX1_isIdle, 7, (some .boolean), none)
noncomputable def q_Mo_isIdleBelow : sm_M := (RX1, yX1_isIdleBelow, cX1_isIdleBelow, 3, (some .boolean), none)
noncomputable def q_Lc_init : sm_M := (RX7, yX7_init, cX7_init, 1, none, none)
noncomputable def q_Lc_feed : sm_M := (RX7, yX7_feed, cX7_feed, 6, (some .int), none)
noncomputable def q_Lc_text : sm_M := (RX7, yX7_text, cX7_text, 3, (some .int), none)
noncomputable def q_Lc_fault : sm_M := (RX7, yX7_fault, cX7_fault, 1, (some .int), none)
noncomputable def q_Lc_turn : sm_M := (RX7, yX7_turn, cX7_turn, 2, (some .int), none)
noncomputable def q_Lc_undo : sm_M := (RX7, yX7_undo, cX7_undo, 1, (some .int), none)
noncomputable def q_Lc_told : sm_M := (RX7, yX7_told, cX7_told, 2, (some .int), none)
noncomputable def q_Lc_axiom : sm_M := (RX7, yX7_axiom, cX7_axiom, 3, (some .int), none)
noncomputable def q_Lc_part : sm_M := (RX7, yX7_part, cX7_part, 3, (some .int), none)
noncomputable def q_Lc_letter : sm_M := (RX7, yX7_letter, cX7_letter, 6, (some .int), none)
noncomputable def q_Lc_named : sm_M := (RX7, yX7_named, cX7_named, 2, (some .int), none)
noncomputable def q_Lc_below : sm_M := (RX7, yX7_below, cX7_below, 3, (some .boolean), none)
noncomputable def q_Lc_when : sm_M := (RX7, yX7_when, cX7_when, 4, (some .int), none)
noncomputable def q_Lc_why : sm_M := (RX7, yX7_why, cX7_why, 6, (some .int), none)
noncomputable def q_Lc_link : sm_M := (RX7, yX7_link, cX7_link, 4, (some .boolean), none)
noncomputable def q_Lc_under : sm_M := (RX7, yX7_under, cX7_under, 2, (some .int), none)
noncomputable def q_Lc_node : sm_M := (RX7, yX7_node, cX7_node, 2, (some .int), none)
noncomputable def q_Lc_nodeOf : sm_M := (RX7, yX7_nodeOf, cX7_nodeOf, 3, (some .int), none)
noncomputable def q_Lc_nothing : sm_M := (RX7, yX7_nothing, cX7_nothing, 1, (some .int), none)
noncomputable def q_Lc_common : sm_M := (RX7, yX7_common, cX7_common, 3, (some .int), none)
noncomputable def q_Lc_needed : sm_M := (RX7, yX7_needed, cX7_needed, 3, (some .long), none)
noncomputable def q_Lc_enough : sm_M := (RX7, yX7_enough, cX7_enough, 3, (some .long), none)
noncomputable def q_Lc_reason : sm_M := (RX7, yX7_reason, cX7_reason, 4, (some .long), none)
noncomputable def q_Lc_repair : sm_M := (RX7, yX7_repair, cX7_repair, 3, (some .long), none)
noncomputable def q_Lc_likeness : sm_M := (RX7, yX7_likeness, cX7_likeness, 8, (some .int), none)
noncomputable def q_Lc_atom : sm_M := (RX7, yX7_atom, cX7_atom, 5, (some .int), none)
noncomputable def q_Lc_depends : sm_M := (RX7, yX7_depends, cX7_depends, 2, (some .long), none)
noncomputable def q_Lc_module : sm_M := (RX7, yX7_module, cX7_module, 5, (some .long), none)
noncomputable def q_Lc_ask : sm_M := (RX7, yX7_ask, cX7_ask, 4, (some .int), none)
noncomputable def q_Lc_of : sm_M := (RX7, yX7_of, cX7_of, 5, (some .int), none)
noncomputable def q_Lc_model : sm_M := (RX7, yX7_model, cX7_model, 7, (some .long), none)
noncomputable def q_Lc_print : sm_M := (RX7, yX7_print, cX7_print, 4, (some .long), none)
noncomputable def q_Lc_status : sm_M := (RX7, yX7_status, cX7_status, 2, (some .int), none)
noncomputable def q_Lc_putBytes : sm_M := (RX7, yX7_putBytes, cX7_putBytes, 3, none, none)
noncomputable def q_Lc_refuseNoSuch : sm_M := (RX7, yX7_refuseNoSuch, cX7_refuseNoSuch, 1, none, none)
noncomputable def q_Lc_refuseArgument : sm_M := (RX7, yX7_refuseArgument, cX7_refuseArgument, 1, none, none)
noncomputable def q_Lc_refuseState : sm_M := (RX7, yX7_refuseState, cX7_refuseState, 1, none, none)
noncomputable def q_Lc_needBytes : sm_M := (RX7, yX7_needBytes, cX7_needBytes, 2, none, none)
noncomputable def q_Lc_needWhat : sm_M := (RX7, yX7_needWhat, cX7_needWhat, 3, none, none)
noncomputable def q_Lc_needAxiom : sm_M := (RX7, yX7_needAxiom, cX7_needAxiom, 2, none, none)
noncomputable def q_Lc_needPart : sm_M := (RX7, yX7_needPart, cX7_needPart, 2, none, none)
noncomputable def q_Lc_needName : sm_M := (RX7, yX7_needName, cX7_needName, 2, none, none)
noncomputable def q_Lc_needRole : sm_M := (RX7, yX7_needRole, cX7_needRole, 2, none, none)
noncomputable def q_Lc_isOn : sm_M := (RX7, yX7_isOn, cX7_isOn, 2, (some .boolean), none)
noncomputable def q_Lc_unsettle : sm_M := (RX7, yX7_unsettle, cX7_unsettle, 1, none, none)
noncomputable def q_Lc_settle : sm_M := (RX7, yX7_settle, cX7_settle, 3, none, none)
noncomputable def q_Lc_noteRound : sm_M := (RX7, yX7_noteRound, cX7_noteRound, 6, none, none)
noncomputable def q_Lc_toldOfSettled : sm_M := (RX7, yX7_toldOfSettled, cX7_toldOfSettled, 4, (some .int), none)
noncomputable def q_Lc_aimReasons : sm_M := (RX7, yX7_aimReasons, cX7_aimReasons, 3, none, none)
noncomputable def q_Lc_readOneConcept : sm_M := (RX7, yX7_readOneConcept, cX7_readOneConcept, 2, none, none)
noncomputable def q_Lc_takeQuestion : sm_M := (RX7, yX7_takeQuestion, cX7_takeQuestion, 1, none, none)
noncomputable def q_Lc_answerOf : sm_M := (RX7, yX7_answerOf, cX7_answerOf, 3, (some .int), none)
noncomputable def q_Lc_namesOver : sm_M := (RX7, yX7_namesOver, cX7_namesOver, 5, (some .int), none)
noncomputable def q_Lc_namesUnder : sm_M := (RX7, yX7_namesUnder, cX7_namesUnder, 5, (some .int), none)
noncomputable def q_Lc_extentOf : sm_M := (RX7, yX7_extentOf, cX7_extentOf, 3, (some .long), none)
noncomputable def q_Lc_extentOfOne : sm_M := (RX7, yX7_extentOfOne, cX7_extentOfOne, 9, (some .long), none)
noncomputable def q_Lc_inLowestTerms : sm_M := (RX7, yX7_inLowestTerms, cX7_inLowestTerms, 3, (some .int), none)
noncomputable def q_Rf_init : sm_M := (RX8, yX8_init, cX8_init, 1, none, none)
noncomputable def q_Rf_begins : sm_M := (RX8, yX8_begins, cX8_begins, 2, none, none)
noncomputable def q_Rf_lays : sm_M := (RX8, yX8_lays, cX8_lays, 5, none, none)
noncomputable def q_Rf_kindOf : sm_M := (RX8, yX8_kindOf, cX8_kindOf, 2, (some .int), none)
noncomputable def q_Rf_oneOf : sm_M := (RX8, yX8_oneOf, cX8_oneOf, 2, (some .int), none)
noncomputable def q_Rf_otherOf : sm_M := (RX8, yX8_otherOf, cX8_otherOf, 2, (some .int), none)
noncomputable def q_Rf_axiomOf : sm_M := (RX8, yX8_axiomOf, cX8_axiomOf, 3, (some .int), none)
noncomputable def q_Rf_thrown : sm_M := (RX8, yX8_thrown, cX8_thrown, 1, (some .int), none)
noncomputable def q_Rf_bad : sm_M := (RX8, yX8_bad, cX8_bad, 4, (some .boolean), none)
noncomputable def q_Rf_in : sm_M := (RX8, yX8_in, cX8_in, 3, (some .boolean), none)
noncomputable def q_Rf_less : sm_M := (RX8, yX8_less, cX8_less, 2, (some .int), none)
noncomputable def q_Rf_more : sm_M := (RX8, yX8_more, cX8_more, 2, (some .int), none)
noncomputable def q_Rf_has : sm_M := (RX8, yX8_has, cX8_has, 3, (some .boolean), none)
noncomputable def q_Rf_bits : sm_M := (RX8, yX8_bits, cX8_bits, 5, (some .int), none)
noncomputable def q_Rf_feed : sm_M := (RX8, yX8_feed, cX8_feed, 8, (some .int), none)
noncomputable def q_Rf_byteAt : sm_M := (RX8, yX8_byteAt, cX8_byteAt, 2, (some .int), none)
noncomputable def q_Rf_here : sm_M := (RX8, yX8_here, cX8_here, 1, (some .int), none)
noncomputable def q_Rf_fine : sm_M := (RX8, yX8_fine, cX8_fine, 1, (some .boolean), none)
noncomputable def q_Rf_wrong : sm_M := (RX8, yX8_wrong, cX8_wrong, 3, (some .int), none)
noncomputable def q_Rf_isSmall : sm_M := (RX8, yX8_isSmall, cX8_isSmall, 1, (some .boolean), none)
noncomputable def q_Rf_letters : sm_M := (RX8, yX8_letters, cX8_letters, 2, (some .int), none)
noncomputable def q_Rf_isWord : sm_M := (RX8, yX8_isWord, cX8_isWord, 4, (some .boolean), none)
noncomputable def q_Rf_isOwn : sm_M := (RX8, yX8_isOwn, cX8_isOwn, 1, (some .boolean), none)
noncomputable def q_Rf_takesSign : sm_M := (RX8, yX8_takesSign, cX8_takesSign, 2, (some .boolean), none)
noncomputable def q_Rf_isTwice : sm_M := (RX8, yX8_isTwice, cX8_isTwice, 1, (some .boolean), none)
noncomputable def q_Rf_numbered : sm_M := (RX8, yX8_numbered, cX8_numbered, 8, (some .int), none)
noncomputable def q_Rf_nameHere : sm_M := (RX8, yX8_nameHere, cX8_nameHere, 1, (some .int), none)
noncomputable def q_Rf_roleHere : sm_M := (RX8, yX8_roleHere, cX8_roleHere, 1, (some .int), none)
noncomputable def q_Rf_partOf : sm_M := (RX8, yX8_partOf, cX8_partOf, 5, (some .int), none)
noncomputable def q_Rf_atom : sm_M := (RX8, yX8_atom, cX8_atom, 3, (some .int), none)
noncomputable def q_Rf_concept : sm_M := (RX8, yX8_concept, cX8_concept, 3, (some .int), none)
noncomputable def q_Rf_isOfRoles : sm_M := (RX8, yX8_isOfRoles, cX8_isOfRoles, 4, (some .boolean), none)
noncomputable def q_Rf_adds : sm_M := (RX8, yX8_adds, cX8_adds, 6, none, none)
noncomputable def q_Rf_ofRoles : sm_M := (RX8, yX8_ofRoles, cX8_ofRoles, 5, none, none)
noncomputable def q_Rf_ends : sm_M := (RX8, yX8_ends, cX8_ends, 1, none, none)
noncomputable def q_Rf_ofConcepts : sm_M := (RX8, yX8_ofConcepts, cX8_ofConcepts, 5, none, none)
noncomputable def q_Rf_opens : sm_M := (RX8, yX8_opens, cX8_opens, 2, none, none)
noncomputable def q_Rf_copies : sm_M := (RX8, yX8_copies, cX8_copies, 3, none, none)
noncomputable def q_Rf_text : sm_M := (RX8, yX8_text, cX8_text, 4, (some .int), none)
noncomputable def q_Rf_fault : sm_M := (RX8, yX8_fault, cX8_fault, 1, (some .int), none)
noncomputable def q_Rf_laysUnder : sm_M := (RX8, yX8_laysUnder, cX8_laysUnder, 7, none, none)
noncomputable def q_Rf_beginsRounds : sm_M := (RX8, yX8_beginsRounds, cX8_beginsRounds, 6, none, none)
noncomputable def q_Rf_byOwn : sm_M := (RX8, yX8_byOwn, cX8_byOwn, 13, (some .long), none)
noncomputable def q_Rf_laysSome : sm_M := (RX8, yX8_laysSome, cX8_laysSome, 4, none, none)
noncomputable def q_Rf_byLink : sm_M := (RX8, yX8_byLink, cX8_byLink, 6, (some .long), none)
noncomputable def q_Rf_laysWider : sm_M := (RX8, yX8_laysWider, cX8_laysWider, 5, none, none)
noncomputable def q_Rf_goesRound : sm_M := (RX8, yX8_goesRound, cX8_goesRound, 8, (some .boolean), none)
noncomputable def q_Rf_goesAll : sm_M := (RX8, yX8_goesAll, cX8_goesAll, 5, (some .int), none)
noncomputable def q_Rf_notesWhen : sm_M := (RX8, yX8_notesWhen, cX8_notesWhen, 4, none, none)
noncomputable def q_Rf_classifies : sm_M := (RX8, yX8_classifies, cX8_classifies, 3, none, none)
noncomputable def q_Rf_isBelow : sm_M := (RX8, yX8_isBelow, cX8_isBelow, 3, (some .boolean), none)
noncomputable def q_Rf_isVoid : sm_M := (RX8, yX8_isVoid, cX8_isVoid, 2, (some .boolean), none)
noncomputable def q_Rf_namePart : sm_M := (RX8, yX8_namePart, cX8_namePart, 3, (some .int), none)
noncomputable def q_Rf_laysNodes : sm_M := (RX8, yX8_laysNodes, cX8_laysNodes, 4, none, none)
noncomputable def q_Rf_turn : sm_M := (RX8, yX8_turn, cX8_turn, 3, (some .int), none)
noncomputable def q_Rf_alters : sm_M := (RX8, yX8_alters, cX8_alters, 1, none, none)
noncomputable def q_Rf_undo : sm_M := (RX8, yX8_undo, cX8_undo, 1, (some .int), none)
noncomputable def q_Rf_told : sm_M := (RX8, yX8_told, cX8_told, 5, (some .int), none)
noncomputable def q_Rf_voids : sm_M := (RX8, yX8_voids, cX8_voids, 3, (some .int), none)
noncomputable def q_Rf_axiom : sm_M := (RX8, yX8_axiom, cX8_axiom, 3, (some .int), none)
noncomputable def q_Rf_isPart : sm_M := (RX8, yX8_isPart, cX8_isPart, 2, (some .boolean), none)
noncomputable def q_Rf_isName : sm_M := (RX8, yX8_isName, cX8_isName, 2, (some .boolean), none)
noncomputable def q_Rf_part : sm_M := (RX8, yX8_part, cX8_part, 3, (some .int), none)
noncomputable def q_Rf_letter : sm_M := (RX8, yX8_letter, cX8_letter, 9, (some .int), none)
noncomputable def q_Rf_named : sm_M := (RX8, yX8_named, cX8_named, 2, (some .int), none)
noncomputable def q_Rf_below : sm_M := (RX8, yX8_below, cX8_below, 3, (some .boolean), none)
noncomputable def q_Rf_when : sm_M := (RX8, yX8_when, cX8_when, 3, (some .int), none)
noncomputable def q_Rf_why : sm_M := (RX8, yX8_why, cX8_why, 7, (some .int), none)
noncomputable def q_Rf_ruleOf : sm_M := (RX8, yX8_ruleOf, cX8_ruleOf, 5, (some .int), none)
noncomputable def q_Rf_goesBy : sm_M := (RX8, yX8_goesBy, cX8_goesBy, 6, (some .boolean), none)
noncomputable def q_Rf_isLinked : sm_M := (RX8, yX8_isLinked, cX8_isLinked, 5, (some .boolean), none)
noncomputable def q_Rf_link : sm_M := (RX8, yX8_link, cX8_link, 4, (some .boolean), none)
noncomputable def q_Rf_under : sm_M := (RX8, yX8_under, cX8_under, 2, (some .int), none)
noncomputable def q_Rf_node : sm_M := (RX8, yX8_node, cX8_node, 2, (some .int), none)
noncomputable def q_Rf_nodeOf : sm_M := (RX8, yX8_nodeOf, cX8_nodeOf, 5, (some .int), none)
noncomputable def q_Rf_nothing : sm_M := (RX8, yX8_nothing, cX8_nothing, 1, (some .int), none)
noncomputable def q_Rf_common : sm_M := (RX8, yX8_common, cX8_common, 6, (some .int), none)
noncomputable def q_Rf_aboveAll : sm_M := (RX8, yX8_aboveAll, cX8_aboveAll, 2, (some .int), none)
noncomputable def q_Rf_isSo : sm_M := (RX8, yX8_isSo, cX8_isSo, 6, (some .boolean), none)
noncomputable def q_Rf_needed : sm_M := (RX8, yX8_needed, cX8_needed, 6, (some .long), none)
noncomputable def q_Rf_leaves : sm_M := (RX8, yX8_leaves, cX8_leaves, 8, (some .long), none)
noncomputable def q_Rf_enough : sm_M := (RX8, yX8_enough, cX8_enough, 3, (some .long), none)
noncomputable def q_Rf_reasonWithout : sm_M := (RX8, yX8_reasonWithout, cX8_reasonWithout, 6, (some .int), none)
noncomputable def q_Rf_finds : sm_M := (RX8, yX8_finds, cX8_finds, 13, none, none)
noncomputable def q_Rf_laysReasons : sm_M := (RX8, yX8_laysReasons, cX8_laysReasons, 7, (some .boolean), none)
noncomputable def q_Rf_reason : sm_M := (RX8, yX8_reason, cX8_reason, 4, (some .long), none)
noncomputable def q_Rf_repairs : sm_M := (RX8, yX8_repairs, cX8_repairs, 6, none, none)
noncomputable def q_Rf_repair : sm_M := (RX8, yX8_repair, cX8_repair, 4, (some .long), none)
noncomputable def q_Rf_divisor : sm_M := (RX8, yX8_divisor, cX8_divisor, 5, (some .int), none)
noncomputable def q_Rf_likeness : sm_M := (RX8, yX8_likeness, cX8_likeness, 9, (some .int), none)
noncomputable def q_Rf_laysSigns : sm_M := (RX8, yX8_laysSigns, cX8_laysSigns, 5, none, none)
noncomputable def q_Rf_namesIn : sm_M := (RX8, yX8_namesIn, cX8_namesIn, 2, (some .int), none)
noncomputable def q_Rf_rolesIn : sm_M := (RX8, yX8_rolesIn, cX8_rolesIn, 3, (some .int), none)
noncomputable def q_Rf_laysLost : sm_M := (RX8, yX8_laysLost, cX8_laysLost, 10, none, none)
noncomputable def q_Rf_isIdle : sm_M := (RX8, yX8_isIdle, cX8_isIdle, 7, (some .boolean), none)
noncomputable def q_Rf_moduleOf : sm_M := (RX8, yX8_moduleOf, cX8_moduleOf, 13, (some .long), none)
noncomputable def q_Rf_module : sm_M := (RX8, yX8_module, cX8_module, 8, (some .long), none)
noncomputable def q_Rf_ownModule : sm_M := (RX8, yX8_ownModule, cX8_ownModule, 2, (some .long), none)
noncomputable def q_Rf_atom_1 : sm_M := (RX8, yX8_atom_, cX8_atom_, 5, (some .int), none)
noncomputable def q_Rf_depends : sm_M := (RX8, yX8_depends, cX8_depends, 2, (some .long), none)
noncomputable def q_Rf_reads : sm_M := (RX8, yX8_reads, cX8_reads, 3, (some .boolean), none)
noncomputable def q_Rf_ask : sm_M := (RX8, yX8_ask, cX8_ask, 3, (some .int), none)
noncomputable def q_Rf_of : sm_M := (RX8, yX8_of, cX8_of, 6, (some .int), none)
noncomputable def q_Rf_model : sm_M := (RX8, yX8_model, cX8_model, 11, (some .long), none)
noncomputable def q_Rf_print : sm_M := (RX8, yX8_print, cX8_print, 6, (some .long), none)
noncomputable def q_Rf_status : sm_M := (RX8, yX8_status, cX8_status, 2, (some .int), none)
noncomputable def q_Lo_bitCount : sm_M := (RJ13, yJ13_bitCount_95d88, cJ13_bitCount_95d88, 2, (some .int), none)
noncomputable def q_In_bitCount : sm_M := (RJ6, yJ6_bitCount_0f7a4, cJ6_bitCount_0f7a4, 1, (some .int), none)
noncomputable def q_Ar_rangeCheck : sm_M := (RJ7, yJ7_rangeCheck_23922, cJ7_rangeCheck_23922, 3, none, none)
noncomputable def q_Ar_fillL : sm_M := (RJ7, yJ7_fill_d0a16, cJ7_fill_d0a16, 5, none, none)
noncomputable def q_Ar_fillI : sm_M := (RJ7, yJ7_fill_53178, cJ7_fill_53178, 4, none, none)
noncomputable def q_Ar_fillR : sm_M := (RJ7, yJ7_fill_fda19, cJ7_fill_fda19, 5, none, none)
noncomputable def q_Lw_text : sm_M := (RL, yL_text, cL_text, 4, (some .int), (some [(0, 9, 12, 13)]))
noncomputable def q_Lw_turn : sm_M := (RL, yL_turn, cL_turn, 4, (some .int), (some [(0, 9, 12, 18)]))
noncomputable def q_Lw_told : sm_M := (RL, yL_told, cL_told, 4, (some .int), (some [(0, 9, 12, 13)]))
noncomputable def q_Lw_axiom : sm_M := (RL, yL_axiom, cL_axiom, 5, (some .int), (some [(0, 10, 13, 18), (0, 10, 17, 13)]))
noncomputable def q_Lw_part : sm_M := (RL, yL_part, cL_part, 5, (some .int), (some [(0, 10, 13, 18), (0, 10, 17, 13)]))
noncomputable def q_Lw_letter : sm_M := (RL, yL_letter, cL_letter, 6, (some .int), (some [(0, 12, 15, 18)]))
noncomputable def q_Lw_named : sm_M := (RL, yL_named, cL_named, 4, (some .int), (some [(0, 9, 12, 18)]))
noncomputable def q_Lw_below : sm_M := (RL, yL_below, cL_below, 5, (some .int), (some [(0, 17, 20, 18)]))
noncomputable def q_Lw_when : sm_M := (RL, yL_when, cL_when, 5, (some .int), (some [(0, 10, 13, 18)]))
noncomputable def q_Lw_why : sm_M := (RL, yL_why, cL_why, 6, (some .int), (some [(0, 12, 15, 18), (0, 12, 19, 13)]))
noncomputable def q_Lw_link : sm_M := (RL, yL_link, cL_link, 6, (some .int), (some [(0, 19, 22, 18)]))
noncomputable def q_Lw_under : sm_M := (RL, yL_under, cL_under, 4, (some .int), (some [(0, 9, 12, 18)]))
noncomputable def q_Lw_node : sm_M := (RL, yL_node, cL_node, 4, (some .int), (some [(0, 9, 12, 18)]))
noncomputable def q_Lw_nodeOf : sm_M := (RL, yL_nodeOf, cL_nodeOf, 5, (some .int), (some [(0, 10, 13, 18), (0, 10, 17, 13)]))
noncomputable def q_Lw_common : sm_M := (RL, yL_common, cL_common, 5, (some .int), (some [(0, 10, 13, 18), (0, 10, 17, 63)]))
noncomputable def q_Lw_needed : sm_M := (RL, yL_needed, cL_needed, 5, (some .int), (some [(0, 9, 12, 18)]))
noncomputable def q_Lw_enough : sm_M := (RL, yL_enough, cL_enough, 5, (some .int), (some [(0, 9, 12, 18)]))
noncomputable def q_Lw_reason : sm_M := (RL, yL_reason, cL_reason, 6, (some .int), (some [(0, 11, 14, 18)]))
noncomputable def q_Lw_repair : sm_M := (RL, yL_repair, cL_repair, 5, (some .int), (some [(0, 9, 12, 18)]))
noncomputable def q_Lw_likeness : sm_M := (RL, yL_likeness, cL_likeness, 6, (some .int), (some [(0, 12, 15, 18), (0, 12, 19, 13)]))
noncomputable def q_Lw_atom : sm_M := (RL, yL_atom, cL_atom, 4, (some .int), (some [(0, 9, 12, 18)]))
noncomputable def q_Lw_depends : sm_M := (RL, yL_depends, cL_depends, 4, (some .int), (some [(0, 8, 11, 18)]))
noncomputable def q_Lw_module : sm_M := (RL, yL_module, cL_module, 6, (some .int), (some [(0, 11, 14, 13)]))
noncomputable def q_Lw_ask : sm_M := (RL, yL_ask, cL_ask, 4, (some .int), (some [(0, 9, 12, 13)]))
noncomputable def q_Lw_of : sm_M := (RL, yL_of, cL_of, 5, (some .int), (some [(0, 10, 13, 13)]))
noncomputable def q_Lw_model : sm_M := (RL, yL_model, cL_model, 4, (some .int), (some [(0, 8, 11, 13)]))
noncomputable def q_Lw_law : sm_M := (RL, yL_law, cL_law, 8, (some .boolean), none)
noncomputable def am_MI : Nat → Option sm_M := fun k =>
 bif Nat.blt k 144 then
 bif Nat.blt k 72 then
 bif Nat.blt k 36 then
 bif Nat.blt k 18 then
 bif Nat.blt k 9 then
 bif Nat.blt k 4 then
 bif Nat.blt k 2 then
 bif Nat.blt k 1 then
 bif Nat.beq k 0 then some q_Wo_init else none
 else
 bif Nat.beq k 1 then some q_Wo_letterAt else none
 else
 bif Nat.blt k 3 then
 bif Nat.beq k 2 then some q_Wo_find else none
 else
 bif Nat.beq k 3 then some q_Wo_add else none
 else
 bif Nat.blt k 6 then
 bif Nat.blt k 5 then
 bif Nat.beq k 4 then some q_On_init else none
 else
 bif Nat.beq k 5 then some q_On_clear else none
 else
 bif Nat.blt k 7 then
 bif Nat.beq k 6 then some q_On_allParts else none
 else
 bif Nat.blt k 8 then
 bif Nat.beq k 7 then some q_On_intern else none
 else
 bif Nat.beq k 8 then some q_On_addConceptAxiom else none
 else
 bif Nat.blt k 13 then
 bif Nat.blt k 11 then
 bif Nat.blt k 10 then
 bif Nat.beq k 9 then some q_On_addRoleAxiom else none
 else
 bif Nat.beq k 10 then some q_On_addAxiom else none
 else
 bif Nat.blt k 12 then
 bif Nat.beq k 11 then some q_Re_init else none
 else
 bif Nat.beq k 12 then some q_Re_open else none
 else
 bif Nat.blt k 15 then
 bif Nat.blt k 14 then
 bif Nat.beq k 13 then some q_Re_readAxioms else none
 else
 bif Nat.beq k 14 then some q_Re_readQuestion else none
 else
 bif Nat.blt k 16 then
 bif Nat.beq k 15 then some q_Re_readSingle else none
 else
 bif Nat.blt k 17 then
 bif Nat.beq k 16 then some q_Re_readConceptAxiom else none
 else
 bif Nat.beq k 17 then some q_Re_readRoleAxiom else none
 else
 bif Nat.blt k 27 then
 bif Nat.blt k 22 then
 bif Nat.blt k 20 then
 bif Nat.blt k 19 then
 bif Nat.beq k 18 then some q_Re_readConcept else none
 else
 bif Nat.beq k 19 then some q_Re_openBracket else none
 else
 bif Nat.blt k 21 then
 bif Nat.beq k 20 then some q_Re_pushFrame else none
 else
 bif Nat.beq k 21 then some q_Re_closeFrames else none
 else
 bif Nat.blt k 24 then
 bif Nat.blt k 23 then
 bif Nat.beq k 22 then some q_Re_readPlain else none
 else
 bif Nat.beq k 23 then some q_Re_readRole else none
 else
 bif Nat.blt k 25 then
 bif Nat.beq k 24 then some q_Re_numberOfWord else none
 else
 bif Nat.blt k 26 then
 bif Nat.beq k 25 then some q_Re_build else none
 else
 bif Nat.beq k 26 then some q_Re_failIfTooManyParts else none
 else
 bif Nat.blt k 31 then
 bif Nat.blt k 29 then
 bif Nat.blt k 28 then
 bif Nat.beq k 27 then some q_Re_expect else none
 else
 bif Nat.beq k 28 then some q_Re_fail else none
 else
 bif Nat.blt k 30 then
 bif Nat.beq k 29 then some q_Re_canBegin else none
 else
 bif Nat.beq k 30 then some q_Re_roleSignFollows else none
 else
 bif Nat.blt k 33 then
 bif Nat.blt k 32 then
 bif Nat.beq k 31 then some q_Re_isSign else none
 else
 bif Nat.beq k 32 then some q_Re_behindBlanks else none
 else
 bif Nat.blt k 34 then
 bif Nat.beq k 33 then some q_Re_step else none
 else
 bif Nat.blt k 35 then
 bif Nat.beq k 34 then some q_Re_kindOfWord else none
 else
 bif Nat.beq k 35 then some q_Re_kindOfSign else none
 else
 bif Nat.blt k 54 then
 bif Nat.blt k 45 then
 bif Nat.blt k 40 then
 bif Nat.blt k 38 then
 bif Nat.blt k 37 then
 bif Nat.beq k 36 then some q_Sa_init else none
 else
 bif Nat.beq k 37 then some q_Sa_begin else none
 else
 bif Nat.blt k 39 then
 bif Nat.beq k 38 then some q_Sa_sortAxioms else none
 else
 bif Nat.beq k 39 then some q_Sa_addStep else none
 else
 bif Nat.blt k 42 then
 bif Nat.blt k 41 then
 bif Nat.beq k 40 then some q_Sa_spreadUnder else none
 else
 bif Nat.beq k 41 then some q_Sa_activate else none
 else
 bif Nat.blt k 43 then
 bif Nat.beq k 42 then some q_Sa_isVoid else none
 else
 bif Nat.blt k 44 then
 bif Nat.beq k 43 then some q_Sa_isBelow else none
 else
 bif Nat.beq k 44 then some q_Sa_linksFrom else none
 else
 bif Nat.blt k 49 then
 bif Nat.blt k 47 then
 bif Nat.blt k 46 then
 bif Nat.beq k 45 then some q_Sa_deriveAll else none
 else
 bif Nat.beq k 46 then some q_Sa_commitAll else none
 else
 bif Nat.blt k 48 then
 bif Nat.beq k 47 then some q_Sa_saturate else none
 else
 bif Nat.beq k 48 then some q_Sa_entails else none
 else
 bif Nat.blt k 51 then
 bif Nat.blt k 50 then
 bif Nat.beq k 49 then some q_Sa_sweep else none
 else
 bif Nat.beq k 50 then some q_Sa_usedAxioms else none
 else
 bif Nat.blt k 52 then
 bif Nat.beq k 51 then some q_Sa_isUsed else none
 else
 bif Nat.blt k 53 then
 bif Nat.beq k 52 then some q_Sa_derive else none
 else
 bif Nat.beq k 53 then some q_Sa_byAxioms else none
 else
 bif Nat.blt k 63 then
 bif Nat.blt k 58 then
 bif Nat.blt k 56 then
 bif Nat.blt k 55 then
 bif Nat.beq k 54 then some q_Sa_byParts else none
 else
 bif Nat.beq k 55 then some q_Sa_byChains else none
 else
 bif Nat.blt k 57 then
 bif Nat.beq k 56 then some q_Sa_commit else none
 else
 bif Nat.beq k 57 then some q_Sa_spreadReach else none
 else
 bif Nat.blt k 60 then
 bif Nat.blt k 59 then
 bif Nat.beq k 58 then some q_Sa_ruleFor else none
 else
 bif Nat.beq k 59 then some q_Sa_witnessOf else none
 else
 bif Nat.blt k 61 then
 bif Nat.beq k 60 then some q_Sa_joins else none
 else
 bif Nat.blt k 62 then
 bif Nat.beq k 61 then some q_Sa_leastAxiom else none
 else
 bif Nat.beq k 62 then some q_Sa_leastAnd else none
 else
 bif Nat.blt k 67 then
 bif Nat.blt k 65 then
 bif Nat.blt k 64 then
 bif Nat.beq k 63 then some q_Sa_leastPart else none
 else
 bif Nat.beq k 64 then some q_Hi_init else none
 else
 bif Nat.blt k 66 then
 bif Nat.beq k 65 then some q_Hi_build else none
 else
 bif Nat.beq k 66 then some q_Hi_place else none
 else
 bif Nat.blt k 69 then
 bif Nat.blt k 68 then
 bif Nat.beq k 67 then some q_Hi_layParents else none
 else
 bif Nat.beq k 68 then some q_Hi_childrenOf else none
 else
 bif Nat.blt k 70 then
 bif Nat.beq k 69 then some q_Hi_allUnder else none
 else
 bif Nat.blt k 71 then
 bif Nat.beq k 70 then some q_Hi_depth else none
 else
 bif Nat.beq k 71 then some q_Hi_commonOf else none
 else
 bif Nat.blt k 108 then
 bif Nat.blt k 90 then
 bif Nat.blt k 81 then
 bif Nat.blt k 76 then
 bif Nat.blt k 74 then
 bif Nat.blt k 73 then
 bif Nat.beq k 72 then some q_Hi_nodesOver else none
 else
 bif Nat.beq k 73 then some q_Rs_init else none
 else
 bif Nat.blt k 75 then
 bif Nat.beq k 74 then some q_Rs_forget else none
 else
 bif Nat.beq k 75 then some q_Rs_aim else none
 else
 bif Nat.blt k 78 then
 bif Nat.blt k 77 then
 bif Nat.beq k 76 then some q_Rs_holds else none
 else
 bif Nat.beq k 77 then some q_Rs_neededAlone else none
 else
 bif Nat.blt k 79 then
 bif Nat.beq k 78 then some q_Rs_shrink else none
 else
 bif Nat.blt k 80 then
 bif Nat.beq k 79 then some q_Rs_findAll else none
 else
 bif Nat.beq k 80 then some q_Rs_freeing else none
 else
 bif Nat.blt k 85 then
 bif Nat.blt k 83 then
 bif Nat.blt k 82 then
 bif Nat.beq k 81 then some q_Rs_hasIdle else none
 else
 bif Nat.beq k 82 then some q_Rs_sortFound else none
 else
 bif Nat.blt k 84 then
 bif Nat.beq k 83 then some q_Rs_leastCut else none
 else
 bif Nat.beq k 84 then some q_Rs_cutOf else none
 else
 bif Nat.blt k 87 then
 bif Nat.blt k 86 then
 bif Nat.beq k 85 then some q_Mo_init else none
 else
 bif Nat.beq k 86 then some q_Mo_ofAxiom else none
 else
 bif Nat.blt k 88 then
 bif Nat.beq k 87 then some q_Mo_inTurn else none
 else
 bif Nat.blt k 89 then
 bif Nat.beq k 88 then some q_Mo_cut else none
 else
 bif Nat.beq k 89 then some q_Mo_mark else none
 else
 bif Nat.blt k 99 then
 bif Nat.blt k 94 then
 bif Nat.blt k 92 then
 bif Nat.blt k 91 then
 bif Nat.beq k 90 then some q_Mo_isMarked else none
 else
 bif Nat.beq k 91 then some q_Mo_isIdle else none
 else
 bif Nat.blt k 93 then
 bif Nat.beq k 92 then some q_Mo_isIdleBelow else none
 else
 bif Nat.beq k 93 then some q_Lc_init else none
 else
 bif Nat.blt k 96 then
 bif Nat.blt k 95 then
 bif Nat.beq k 94 then some q_Lc_feed else none
 else
 bif Nat.beq k 95 then some q_Lc_text else none
 else
 bif Nat.blt k 97 then
 bif Nat.beq k 96 then some q_Lc_fault else none
 else
 bif Nat.blt k 98 then
 bif Nat.beq k 97 then some q_Lc_turn else none
 else
 bif Nat.beq k 98 then some q_Lc_undo else none
 else
 bif Nat.blt k 103 then
 bif Nat.blt k 101 then
 bif Nat.blt k 100 then
 bif Nat.beq k 99 then some q_Lc_told else none
 else
 bif Nat.beq k 100 then some q_Lc_axiom else none
 else
 bif Nat.blt k 102 then
 bif Nat.beq k 101 then some q_Lc_part else none
 else
 bif Nat.beq k 102 then some q_Lc_letter else none
 else
 bif Nat.blt k 105 then
 bif Nat.blt k 104 then
 bif Nat.beq k 103 then some q_Lc_named else none
 else
 bif Nat.beq k 104 then some q_Lc_below else none
 else
 bif Nat.blt k 106 then
 bif Nat.beq k 105 then some q_Lc_when else none
 else
 bif Nat.blt k 107 then
 bif Nat.beq k 106 then some q_Lc_why else none
 else
 bif Nat.beq k 107 then some q_Lc_link else none
 else
 bif Nat.blt k 126 then
 bif Nat.blt k 117 then
 bif Nat.blt k 112 then
 bif Nat.blt k 110 then
 bif Nat.blt k 109 then
 bif Nat.beq k 108 then some q_Lc_under else none
 else
 bif Nat.beq k 109 then some q_Lc_node else none
 else
 bif Nat.blt k 111 then
 bif Nat.beq k 110 then some q_Lc_nodeOf else none
 else
 bif Nat.beq k 111 then some q_Lc_nothing else none
 else
 bif Nat.blt k 114 then
 bif Nat.blt k 113 then
 bif Nat.beq k 112 then some q_Lc_common else none
 else
 bif Nat.beq k 113 then some q_Lc_needed else none
 else
 bif Nat.blt k 115 then
 bif Nat.beq k 114 then some q_Lc_enough else none
 else
 bif Nat.blt k 116 then
 bif Nat.beq k 115 then some q_Lc_reason else none
 else
 bif Nat.beq k 116 then some q_Lc_repair else none
 else
 bif Nat.blt k 121 then
 bif Nat.blt k 119 then
 bif Nat.blt k 118 then
 bif Nat.beq k 117 then some q_Lc_likeness else none
 else
 bif Nat.beq k 118 then some q_Lc_atom else none
 else
 bif Nat.blt k 120 then
 bif Nat.beq k 119 then some q_Lc_depends else none
 else
 bif Nat.beq k 120 then some q_Lc_module else none
 else
 bif Nat.blt k 123 then
 bif Nat.blt k 122 then
 bif Nat.beq k 121 then some q_Lc_ask else none
 else
 bif Nat.beq k 122 then some q_Lc_of else none
 else
 bif Nat.blt k 124 then
 bif Nat.beq k 123 then some q_Lc_model else none
 else
 bif Nat.blt k 125 then
 bif Nat.beq k 124 then some q_Lc_print else none
 else
 bif Nat.beq k 125 then some q_Lc_status else none
 else
 bif Nat.blt k 135 then
 bif Nat.blt k 130 then
 bif Nat.blt k 128 then
 bif Nat.blt k 127 then
 bif Nat.beq k 126 then some q_Lc_putBytes else none
 else
 bif Nat.beq k 127 then some q_Lc_refuseNoSuch else none
 else
 bif Nat.blt k 129 then
 bif Nat.beq k 128 then some q_Lc_refuseArgument else none
 else
 bif Nat.beq k 129 then some q_Lc_refuseState else none
 else
 bif Nat.blt k 132 then
 bif Nat.blt k 131 then
 bif Nat.beq k 130 then some q_Lc_needBytes else none
 else
 bif Nat.beq k 131 then some q_Lc_needWhat else none
 else
 bif Nat.blt k 133 then
 bif Nat.beq k 132 then some q_Lc_needAxiom else none
 else
 bif Nat.blt k 134 then
 bif Nat.beq k 133 then some q_Lc_needPart else none
 else
 bif Nat.beq k 134 then some q_Lc_needName else none
 else
 bif Nat.blt k 139 then
 bif Nat.blt k 137 then
 bif Nat.blt k 136 then
 bif Nat.beq k 135 then some q_Lc_needRole else none
 else
 bif Nat.beq k 136 then some q_Lc_isOn else none
 else
 bif Nat.blt k 138 then
 bif Nat.beq k 137 then some q_Lc_unsettle else none
 else
 bif Nat.beq k 138 then some q_Lc_settle else none
 else
 bif Nat.blt k 141 then
 bif Nat.blt k 140 then
 bif Nat.beq k 139 then some q_Lc_noteRound else none
 else
 bif Nat.beq k 140 then some q_Lc_toldOfSettled else none
 else
 bif Nat.blt k 142 then
 bif Nat.beq k 141 then some q_Lc_aimReasons else none
 else
 bif Nat.blt k 143 then
 bif Nat.beq k 142 then some q_Lc_readOneConcept else none
 else
 bif Nat.beq k 143 then some q_Lc_takeQuestion else none
 else
 bif Nat.blt k 216 then
 bif Nat.blt k 180 then
 bif Nat.blt k 162 then
 bif Nat.blt k 153 then
 bif Nat.blt k 148 then
 bif Nat.blt k 146 then
 bif Nat.blt k 145 then
 bif Nat.beq k 144 then some q_Lc_answerOf else none
 else
 bif Nat.beq k 145 then some q_Lc_namesOver else none
 else
 bif Nat.blt k 147 then
 bif Nat.beq k 146 then some q_Lc_namesUnder else none
 else
 bif Nat.beq k 147 then some q_Lc_extentOf else none
 else
 bif Nat.blt k 150 then
 bif Nat.blt k 149 then
 bif Nat.beq k 148 then some q_Lc_extentOfOne else none
 else
 bif Nat.beq k 149 then some q_Lc_inLowestTerms else none
 else
 bif Nat.blt k 151 then
 bif Nat.beq k 150 then some q_Rf_init else none
 else
 bif Nat.blt k 152 then
 bif Nat.beq k 151 then some q_Rf_begins else none
 else
 bif Nat.beq k 152 then some q_Rf_lays else none
 else
 bif Nat.blt k 157 then
 bif Nat.blt k 155 then
 bif Nat.blt k 154 then
 bif Nat.beq k 153 then some q_Rf_kindOf else none
 else
 bif Nat.beq k 154 then some q_Rf_oneOf else none
 else
 bif Nat.blt k 156 then
 bif Nat.beq k 155 then some q_Rf_otherOf else none
 else
 bif Nat.beq k 156 then some q_Rf_axiomOf else none
 else
 bif Nat.blt k 159 then
 bif Nat.blt k 158 then
 bif Nat.beq k 157 then some q_Rf_thrown else none
 else
 bif Nat.beq k 158 then some q_Rf_bad else none
 else
 bif Nat.blt k 160 then
 bif Nat.beq k 159 then some q_Rf_in else none
 else
 bif Nat.blt k 161 then
 bif Nat.beq k 160 then some q_Rf_less else none
 else
 bif Nat.beq k 161 then some q_Rf_more else none
 else
 bif Nat.blt k 171 then
 bif Nat.blt k 166 then
 bif Nat.blt k 164 then
 bif Nat.blt k 163 then
 bif Nat.beq k 162 then some q_Rf_has else none
 else
 bif Nat.beq k 163 then some q_Rf_bits else none
 else
 bif Nat.blt k 165 then
 bif Nat.beq k 164 then some q_Rf_feed else none
 else
 bif Nat.beq k 165 then some q_Rf_byteAt else none
 else
 bif Nat.blt k 168 then
 bif Nat.blt k 167 then
 bif Nat.beq k 166 then some q_Rf_here else none
 else
 bif Nat.beq k 167 then some q_Rf_fine else none
 else
 bif Nat.blt k 169 then
 bif Nat.beq k 168 then some q_Rf_wrong else none
 else
 bif Nat.blt k 170 then
 bif Nat.beq k 169 then some q_Rf_isSmall else none
 else
 bif Nat.beq k 170 then some q_Rf_letters else none
 else
 bif Nat.blt k 175 then
 bif Nat.blt k 173 then
 bif Nat.blt k 172 then
 bif Nat.beq k 171 then some q_Rf_isWord else none
 else
 bif Nat.beq k 172 then some q_Rf_isOwn else none
 else
 bif Nat.blt k 174 then
 bif Nat.beq k 173 then some q_Rf_takesSign else none
 else
 bif Nat.beq k 174 then some q_Rf_isTwice else none
 else
 bif Nat.blt k 177 then
 bif Nat.blt k 176 then
 bif Nat.beq k 175 then some q_Rf_numbered else none
 else
 bif Nat.beq k 176 then some q_Rf_nameHere else none
 else
 bif Nat.blt k 178 then
 bif Nat.beq k 177 then some q_Rf_roleHere else none
 else
 bif Nat.blt k 179 then
 bif Nat.beq k 178 then some q_Rf_partOf else none
 else
 bif Nat.beq k 179 then some q_Rf_atom else none
 else
 bif Nat.blt k 198 then
 bif Nat.blt k 189 then
 bif Nat.blt k 184 then
 bif Nat.blt k 182 then
 bif Nat.blt k 181 then
 bif Nat.beq k 180 then some q_Rf_concept else none
 else
 bif Nat.beq k 181 then some q_Rf_isOfRoles else none
 else
 bif Nat.blt k 183 then
 bif Nat.beq k 182 then some q_Rf_adds else none
 else
 bif Nat.beq k 183 then some q_Rf_ofRoles else none
 else
 bif Nat.blt k 186 then
 bif Nat.blt k 185 then
 bif Nat.beq k 184 then some q_Rf_ends else none
 else
 bif Nat.beq k 185 then some q_Rf_ofConcepts else none
 else
 bif Nat.blt k 187 then
 bif Nat.beq k 186 then some q_Rf_opens else none
 else
 bif Nat.blt k 188 then
 bif Nat.beq k 187 then some q_Rf_copies else none
 else
 bif Nat.beq k 188 then some q_Rf_text else none
 else
 bif Nat.blt k 193 then
 bif Nat.blt k 191 then
 bif Nat.blt k 190 then
 bif Nat.beq k 189 then some q_Rf_fault else none
 else
 bif Nat.beq k 190 then some q_Rf_laysUnder else none
 else
 bif Nat.blt k 192 then
 bif Nat.beq k 191 then some q_Rf_beginsRounds else none
 else
 bif Nat.beq k 192 then some q_Rf_byOwn else none
 else
 bif Nat.blt k 195 then
 bif Nat.blt k 194 then
 bif Nat.beq k 193 then some q_Rf_laysSome else none
 else
 bif Nat.beq k 194 then some q_Rf_byLink else none
 else
 bif Nat.blt k 196 then
 bif Nat.beq k 195 then some q_Rf_laysWider else none
 else
 bif Nat.blt k 197 then
 bif Nat.beq k 196 then some q_Rf_goesRound else none
 else
 bif Nat.beq k 197 then some q_Rf_goesAll else none
 else
 bif Nat.blt k 207 then
 bif Nat.blt k 202 then
 bif Nat.blt k 200 then
 bif Nat.blt k 199 then
 bif Nat.beq k 198 then some q_Rf_notesWhen else none
 else
 bif Nat.beq k 199 then some q_Rf_classifies else none
 else
 bif Nat.blt k 201 then
 bif Nat.beq k 200 then some q_Rf_isBelow else none
 else
 bif Nat.beq k 201 then some q_Rf_isVoid else none
 else
 bif Nat.blt k 204 then
 bif Nat.blt k 203 then
 bif Nat.beq k 202 then some q_Rf_namePart else none
 else
 bif Nat.beq k 203 then some q_Rf_laysNodes else none
 else
 bif Nat.blt k 205 then
 bif Nat.beq k 204 then some q_Rf_turn else none
 else
 bif Nat.blt k 206 then
 bif Nat.beq k 205 then some q_Rf_alters else none
 else
 bif Nat.beq k 206 then some q_Rf_undo else none
 else
 bif Nat.blt k 211 then
 bif Nat.blt k 209 then
 bif Nat.blt k 208 then
 bif Nat.beq k 207 then some q_Rf_told else none
 else
 bif Nat.beq k 208 then some q_Rf_voids else none
 else
 bif Nat.blt k 210 then
 bif Nat.beq k 209 then some q_Rf_axiom else none
 else
 bif Nat.beq k 210 then some q_Rf_isPart else none
 else
 bif Nat.blt k 213 then
 bif Nat.blt k 212 then
 bif Nat.beq k 211 then some q_Rf_isName else none
 else
 bif Nat.beq k 212 then some q_Rf_part else none
 else
 bif Nat.blt k 214 then
 bif Nat.beq k 213 then some q_Rf_letter else none
 else
 bif Nat.blt k 215 then
 bif Nat.beq k 214 then some q_Rf_named else none
 else
 bif Nat.beq k 215 then some q_Rf_below else none
 else
 bif Nat.blt k 252 then
 bif Nat.blt k 234 then
 bif Nat.blt k 225 then
 bif Nat.blt k 220 then
 bif Nat.blt k 218 then
 bif Nat.blt k 217 then
 bif Nat.beq k 216 then some q_Rf_when else none
 else
 bif Nat.beq k 217 then some q_Rf_why else none
 else
 bif Nat.blt k 219 then
 bif Nat.beq k 218 then some q_Rf_ruleOf else none
 else
 bif Nat.beq k 219 then some q_Rf_goesBy else none
 else
 bif Nat.blt k 222 then
 bif Nat.blt k 221 then
 bif Nat.beq k 220 then some q_Rf_isLinked else none
 else
 bif Nat.beq k 221 then some q_Rf_link else none
 else
 bif Nat.blt k 223 then
 bif Nat.beq k 222 then some q_Rf_under else none
 else
 bif Nat.blt k 224 then
 bif Nat.beq k 223 then some q_Rf_node else none
 else
 bif Nat.beq k 224 then some q_Rf_nodeOf else none
 else
 bif Nat.blt k 229 then
 bif Nat.blt k 227 then
 bif Nat.blt k 226 then
 bif Nat.beq k 225 then some q_Rf_nothing else none
 else
 bif Nat.beq k 226 then some q_Rf_common else none
 else
 bif Nat.blt k 228 then
 bif Nat.beq k 227 then some q_Rf_aboveAll else none
 else
 bif Nat.beq k 228 then some q_Rf_isSo else none
 else
 bif Nat.blt k 231 then
 bif Nat.blt k 230 then
 bif Nat.beq k 229 then some q_Rf_needed else none
 else
 bif Nat.beq k 230 then some q_Rf_leaves else none
 else
 bif Nat.blt k 232 then
 bif Nat.beq k 231 then some q_Rf_enough else none
 else
 bif Nat.blt k 233 then
 bif Nat.beq k 232 then some q_Rf_reasonWithout else none
 else
 bif Nat.beq k 233 then some q_Rf_finds else none
 else
 bif Nat.blt k 243 then
 bif Nat.blt k 238 then
 bif Nat.blt k 236 then
 bif Nat.blt k 235 then
 bif Nat.beq k 234 then some q_Rf_laysReasons else none
 else
 bif Nat.beq k 235 then some q_Rf_reason else none
 else
 bif Nat.blt k 237 then
 bif Nat.beq k 236 then some q_Rf_repairs else none
 else
 bif Nat.beq k 237 then some q_Rf_repair else none
 else
 bif Nat.blt k 240 then
 bif Nat.blt k 239 then
 bif Nat.beq k 238 then some q_Rf_divisor else none
 else
 bif Nat.beq k 239 then some q_Rf_likeness else none
 else
 bif Nat.blt k 241 then
 bif Nat.beq k 240 then some q_Rf_laysSigns else none
 else
 bif Nat.blt k 242 then
 bif Nat.beq k 241 then some q_Rf_namesIn else none
 else
 bif Nat.beq k 242 then some q_Rf_rolesIn else none
 else
 bif Nat.blt k 247 then
 bif Nat.blt k 245 then
 bif Nat.blt k 244 then
 bif Nat.beq k 243 then some q_Rf_laysLost else none
 else
 bif Nat.beq k 244 then some q_Rf_isIdle else none
 else
 bif Nat.blt k 246 then
 bif Nat.beq k 245 then some q_Rf_moduleOf else none
 else
 bif Nat.beq k 246 then some q_Rf_module else none
 else
 bif Nat.blt k 249 then
 bif Nat.blt k 248 then
 bif Nat.beq k 247 then some q_Rf_ownModule else none
 else
 bif Nat.beq k 248 then some q_Rf_atom_1 else none
 else
 bif Nat.blt k 250 then
 bif Nat.beq k 249 then some q_Rf_depends else none
 else
 bif Nat.blt k 251 then
 bif Nat.beq k 250 then some q_Rf_reads else none
 else
 bif Nat.beq k 251 then some q_Rf_ask else none
 else
 bif Nat.blt k 270 then
 bif Nat.blt k 261 then
 bif Nat.blt k 256 then
 bif Nat.blt k 254 then
 bif Nat.blt k 253 then
 bif Nat.beq k 252 then some q_Rf_of else none
 else
 bif Nat.beq k 253 then some q_Rf_model else none
 else
 bif Nat.blt k 255 then
 bif Nat.beq k 254 then some q_Rf_print else none
 else
 bif Nat.beq k 255 then some q_Rf_status else none
 else
 bif Nat.blt k 258 then
 bif Nat.blt k 257 then
 bif Nat.beq k 256 then some q_Lo_bitCount else none
 else
 bif Nat.beq k 257 then some q_In_bitCount else none
 else
 bif Nat.blt k 259 then
 bif Nat.beq k 258 then some q_Ar_rangeCheck else none
 else
 bif Nat.blt k 260 then
 bif Nat.beq k 259 then some q_Ar_fillL else none
 else
 bif Nat.beq k 260 then some q_Ar_fillI else none
 else
 bif Nat.blt k 265 then
 bif Nat.blt k 263 then
 bif Nat.blt k 262 then
 bif Nat.beq k 261 then some q_Ar_fillR else none
 else
 bif Nat.beq k 262 then some q_Lw_text else none
 else
 bif Nat.blt k 264 then
 bif Nat.beq k 263 then some q_Lw_turn else none
 else
 bif Nat.beq k 264 then some q_Lw_told else none
 else
 bif Nat.blt k 267 then
 bif Nat.blt k 266 then
 bif Nat.beq k 265 then some q_Lw_axiom else none
 else
 bif Nat.beq k 266 then some q_Lw_part else none
 else
 bif Nat.blt k 268 then
 bif Nat.beq k 267 then some q_Lw_letter else none
 else
 bif Nat.blt k 269 then
 bif Nat.beq k 268 then some q_Lw_named else none
 else
 bif Nat.beq k 269 then some q_Lw_below else none
 else
 bif Nat.blt k 279 then
 bif Nat.blt k 274 then
 bif Nat.blt k 272 then
 bif Nat.blt k 271 then
 bif Nat.beq k 270 then some q_Lw_when else none
 else
 bif Nat.beq k 271 then some q_Lw_why else none
 else
 bif Nat.blt k 273 then
 bif Nat.beq k 272 then some q_Lw_link else none
 else
 bif Nat.beq k 273 then some q_Lw_under else none
 else
 bif Nat.blt k 276 then
 bif Nat.blt k 275 then
 bif Nat.beq k 274 then some q_Lw_node else none
 else
 bif Nat.beq k 275 then some q_Lw_nodeOf else none
 else
 bif Nat.blt k 277 then
 bif Nat.beq k 276 then some q_Lw_common else none
 else
 bif Nat.blt k 278 then
 bif Nat.beq k 277 then some q_Lw_needed else none
 else
 bif Nat.beq k 278 then some q_Lw_enough else none
 else
 bif Nat.blt k 284 then
 bif Nat.blt k 281 then
 bif Nat.blt k 280 then
 bif Nat.beq k 279 then some q_Lw_reason else none
 else
 bif Nat.beq k 280 then some q_Lw_repair else none
 else
 bif Nat.blt k 282 then
 bif Nat.beq k 281 then some q_Lw_likeness else none
 else
 bif Nat.blt k 283 then
 bif Nat.beq k 282 then some q_Lw_atom else none
 else
 bif Nat.beq k 283 then some q_Lw_depends else none
 else
 bif Nat.blt k 286 then
 bif Nat.blt k 285 then
 bif Nat.beq k 284 then some q_Lw_module else none
 else
 bif Nat.beq k 285 then some q_Lw_ask else none
 else
 bif Nat.blt k 287 then
 bif Nat.beq k 286 then some q_Lw_of else none
 else
 bif Nat.blt k 288 then
 bif Nat.beq k 287 then some q_Lw_model else none
 else
 bif Nat.beq k 288 then some q_Lw_law else none
/-- what is known of a method whoever calls it -/
def ck_mp (z : sm_M) : Prop := plainName z.2.1.cls = true ∧ (z.2.1.cls ≠ "java/lang/invoke/MethodHandle" ∧ z.2.1.cls ≠ "java/lang/invoke/VarHandle") ∧ Cond.initialized z.2.1.cls ∈ sm_TB ∧ z.2.1.cls = z.1 ∧ z.2.2.2.1 ≤ 40 ∧ sm_hw z ∈ sm_TB
theorem ck_leaf {α : Type} {P : α → Prop} {k j : Nat} {x : α} (h : P x) : ∀ y, (bif Nat.beq k j then some x else none) = some y → P y := by
  intro y e
  cases hb : Nat.beq k j with
  | true => rw [hb] at e; cases e; exact h
  | false => rw [hb] at e; cases e
theorem ck_node {α : Type} {P : α → Prop} {c : Bool} {x1 x2 : Option α} (h1 : ∀ y, x1 = some y → P y) (h2 : ∀ y, x2 = some y → P y) : ∀ y, (bif c then x1 else x2) = some y → P y := by
  intro y e
  cases c with
  | true => exact h1 y e
  | false => exact h2 y e
theorem ck_kRJ13 : plainName RJ13 = true ∧ (RJ13 ≠ "java/lang/invoke/MethodHandle" ∧ RJ13 ≠ "java/lang/invoke/VarHandle") ∧ Cond.initialized RJ13 ∈ sm_TB := ⟨by decide +kernel, ⟨by decide +kernel, by decide +kernel⟩, ck_w_ok (x := (1, 22)) (by decide +kernel)⟩
theorem ck_kRJ6 : plainName RJ6 = true ∧ (RJ6 ≠ "java/lang/invoke/MethodHandle" ∧ RJ6 ≠ "java/lang/invoke/VarHandle") ∧ Cond.initialized RJ6 ∈ sm_TB := ⟨by decide +kernel, ⟨by decide +kernel, by decide +kernel⟩, ck_w_ok (x := (1, 27)) (by decide +kernel)⟩
theorem ck_kRJ7 : plainName RJ7 = true ∧ (RJ7 ≠ "java/lang/invoke/MethodHandle" ∧ RJ7 ≠ "java/lang/invoke/VarHandle") ∧ Cond.initialized RJ7 ∈ sm_TB := ⟨by decide +kernel, ⟨by decide +kernel, by decide +kernel⟩, ck_w_ok (x := (1, 4)) (by decide +kernel)⟩
theorem ck_kRL : plainName RL = true ∧ (RL ≠ "java/lang/invoke/MethodHandle" ∧ RL ≠ "java/lang/invoke/VarHandle") ∧ Cond.initialized RL ∈ sm_TB := ⟨by decide +kernel, ⟨by decide +kernel, by decide +kernel⟩, ck_w_ok (x := (1, 0)) (by decide +kernel)⟩
theorem ck_kRX0 : plainName RX0 = true ∧ (RX0 ≠ "java/lang/invoke/MethodHandle" ∧ RX0 ≠ "java/lang/invoke/VarHandle") ∧ Cond.initialized RX0 ∈ sm_TB := ⟨by decide +kernel, ⟨by decide +kernel, by decide +kernel⟩, ck_w_ok (x := (1, 7)) (by decide +kernel)⟩
theorem ck_kRX1 : plainName RX1 = true ∧ (RX1 ≠ "java/lang/invoke/MethodHandle" ∧ RX1 ≠ "java/lang/invoke/VarHandle") ∧ Cond.initialized RX1 ∈ sm_TB := ⟨by decide +kernel, ⟨by decide +kernel, by decide +kernel⟩, ck_w_ok (x := (1, 9)) (by decide +kernel)⟩
theorem ck_kRX2 : plainName RX2 = true ∧ (RX2 ≠ "java/lang/invoke/MethodHandle" ∧ RX2 ≠ "java/lang/invoke/VarHandle") ∧ Cond.initialized RX2 ∈ sm_TB := ⟨by decide +kernel, ⟨by decide +kernel, by decide +kernel⟩, ck_w_ok (x := (1, 2)) (by decide +kernel)⟩
theorem ck_kRX3 : plainName RX3 = true ∧ (RX3 ≠ "java/lang/invoke/MethodHandle" ∧ RX3 ≠ "java/lang/invoke/VarHandle") ∧ Cond.initialized RX3 ∈ sm_TB := ⟨by decide +kernel, ⟨by decide +kernel, by decide +kernel⟩, ck_w_ok (x := (1, 5)) (by decide +kernel)⟩
theorem ck_kRX4 : plainName RX4 = true ∧ (RX4 ≠ "java/lang/invoke/MethodHandle" ∧ RX4 ≠ "java/lang/invoke/VarHandle") ∧ Cond.initialized RX4 ∈ sm_TB := ⟨by decide +kernel, ⟨by decide +kernel, by decide +kernel⟩, ck_w_ok (x := (1, 8)) (by decide +kernel)⟩
theorem ck_kRX5 : plainName RX5 = true ∧ (RX5 ≠ "java/lang/invoke/MethodHandle" ∧ RX5 ≠ "java/lang/invoke/VarHandle") ∧ Cond.initialized RX5 ∈ sm_TB := ⟨by decide +kernel, ⟨by decide +kernel, by decide +kernel⟩, ck_w_ok (x := (1, 6)) (by decide +kernel)⟩
theorem ck_kRX6 : plainName RX6 = true ∧ (RX6 ≠ "java/lang/invoke/MethodHandle" ∧ RX6 ≠ "java/lang/invoke/VarHandle") ∧ Cond.initialized RX6 ∈ sm_TB := ⟨by decide +kernel, ⟨by decide +kernel, by decide +kernel⟩, ck_w_ok (x := (1, 3)) (by decide +kernel)⟩
theorem ck_kRX7 : plainName RX7 = true ∧ (RX7 ≠ "java/lang/invoke/MethodHandle" ∧ RX7 ≠ "java/lang/invoke/VarHandle") ∧ Cond.initialized RX7 ∈ sm_TB := ⟨by decide +kernel, ⟨by decide +kernel, by decide +kernel⟩, ck_w_ok (x := (1, 1)) (by decide +kernel)⟩
theorem ck_kRX8 : plainName RX8 = true ∧ (RX8 ≠ "java/lang/invoke/MethodHandle" ∧ RX8 ≠ "java/lang/invoke/VarHandle") ∧ Cond.initialized RX8 ∈ sm_TB := ⟨by decide +kernel, ⟨by decide +kernel, by decide +kernel⟩, ck_w_ok (x := (1, 10)) (by decide +kernel)⟩
set_option maxRecDepth 100000
theorem ck_qWo_init : ck_mp q_Wo_init := ⟨ck_kRX6.1, ck_kRX6.2.1, ck_kRX6.2.2, rfl, by decide, ck_at (x := (1, 47)) rfl rfl⟩
theorem ck_qWo_letterAt : ck_mp q_Wo_letterAt := ⟨ck_kRX6.1, ck_kRX6.2.1, ck_kRX6.2.2, rfl, by decide, ck_at (x := (5, 158)) rfl rfl⟩
theorem ck_qWo_find : ck_mp q_Wo_find := ⟨ck_kRX6.1, ck_kRX6.2.1, ck_kRX6.2.2, rfl, by decide, ck_at (x := (5, 18)) rfl rfl⟩
theorem ck_qWo_add : ck_mp q_Wo_add := ⟨ck_kRX6.1, ck_kRX6.2.1, ck_kRX6.2.2, rfl, by decide, ck_at (x := (5, 22)) rfl rfl⟩
theorem ck_qOn_init : ck_mp q_On_init := ⟨ck_kRX2.1, ck_kRX2.2.1, ck_kRX2.2.2, rfl, by decide, ck_at (x := (1, 41)) rfl rfl⟩
theorem ck_qOn_clear : ck_mp q_On_clear := ⟨ck_kRX2.1, ck_kRX2.2.1, ck_kRX2.2.2, rfl, by decide, ck_at (x := (1, 68)) rfl rfl⟩
theorem ck_qOn_allParts : ck_mp q_On_allParts := ⟨ck_kRX2.1, ck_kRX2.2.1, ck_kRX2.2.2, rfl, by decide, ck_at (x := (3, 5)) rfl rfl⟩
theorem ck_qOn_intern : ck_mp q_On_intern := ⟨ck_kRX2.1, ck_kRX2.2.1, ck_kRX2.2.2, rfl, by decide, ck_at (x := (1, 75)) rfl rfl⟩
theorem ck_qOn_addConceptAxiom : ck_mp q_On_addConceptAxiom := ⟨ck_kRX2.1, ck_kRX2.2.1, ck_kRX2.2.2, rfl, by decide, ck_at (x := (5, 71)) rfl rfl⟩
theorem ck_qOn_addRoleAxiom : ck_mp q_On_addRoleAxiom := ⟨ck_kRX2.1, ck_kRX2.2.1, ck_kRX2.2.2, rfl, by decide, ck_at (x := (5, 30)) rfl rfl⟩
theorem ck_qOn_addAxiom : ck_mp q_On_addAxiom := ⟨ck_kRX2.1, ck_kRX2.2.1, ck_kRX2.2.2, rfl, by decide, ck_at (x := (5, 34)) rfl rfl⟩
theorem ck_qRe_init : ck_mp q_Re_init := ⟨ck_kRX3.1, ck_kRX3.2.1, ck_kRX3.2.2, rfl, by decide, ck_at (x := (1, 175)) rfl rfl⟩
theorem ck_qRe_open : ck_mp q_Re_open := ⟨ck_kRX3.1, ck_kRX3.2.1, ck_kRX3.2.2, rfl, by decide, ck_at (x := (4, 204)) rfl rfl⟩
theorem ck_qRe_readAxioms : ck_mp q_Re_readAxioms := ⟨ck_kRX3.1, ck_kRX3.2.1, ck_kRX3.2.2, rfl, by decide, ck_at (x := (4, 230)) rfl rfl⟩
theorem ck_qRe_readQuestion : ck_mp q_Re_readQuestion := ⟨ck_kRX3.1, ck_kRX3.2.1, ck_kRX3.2.2, rfl, by decide, ck_at (x := (6, 233)) rfl rfl⟩
theorem ck_qRe_readSingle : ck_mp q_Re_readSingle := ⟨ck_kRX3.1, ck_kRX3.2.1, ck_kRX3.2.2, rfl, by decide, ck_at (x := (7, 13)) rfl rfl⟩
theorem ck_qRe_readConceptAxiom : ck_mp q_Re_readConceptAxiom := ⟨ck_kRX3.1, ck_kRX3.2.1, ck_kRX3.2.2, rfl, by decide, ck_at (x := (5, 38)) rfl rfl⟩
theorem ck_qRe_readRoleAxiom : ck_mp q_Re_readRoleAxiom := ⟨ck_kRX3.1, ck_kRX3.2.1, ck_kRX3.2.2, rfl, by decide, ck_at (x := (5, 6)) rfl rfl⟩
theorem ck_qRe_readConcept : ck_mp q_Re_readConcept := ⟨ck_kRX3.1, ck_kRX3.2.1, ck_kRX3.2.2, rfl, by decide, ck_at (x := (5, 42)) rfl rfl⟩
theorem ck_qRe_openBracket : ck_mp q_Re_openBracket := ⟨ck_kRX3.1, ck_kRX3.2.1, ck_kRX3.2.2, rfl, by decide, ck_at (x := (5, 50)) rfl rfl⟩
theorem ck_qRe_pushFrame : ck_mp q_Re_pushFrame := ⟨ck_kRX3.1, ck_kRX3.2.1, ck_kRX3.2.2, rfl, by decide, ck_at (x := (5, 46)) rfl rfl⟩
theorem ck_qRe_closeFrames : ck_mp q_Re_closeFrames := ⟨ck_kRX3.1, ck_kRX3.2.1, ck_kRX3.2.2, rfl, by decide, ck_at (x := (5, 63)) rfl rfl⟩
theorem ck_qRe_readPlain : ck_mp q_Re_readPlain := ⟨ck_kRX3.1, ck_kRX3.2.1, ck_kRX3.2.2, rfl, by decide, ck_at (x := (5, 54)) rfl rfl⟩
theorem ck_qRe_readRole : ck_mp q_Re_readRole := ⟨ck_kRX3.1, ck_kRX3.2.1, ck_kRX3.2.2, rfl, by decide, ck_at (x := (5, 10)) rfl rfl⟩
theorem ck_qRe_numberOfWord : ck_mp q_Re_numberOfWord := ⟨ck_kRX3.1, ck_kRX3.2.1, ck_kRX3.2.2, rfl, by decide, ck_at (x := (5, 14)) rfl rfl⟩
theorem ck_qRe_build : ck_mp q_Re_build := ⟨ck_kRX3.1, ck_kRX3.2.1, ck_kRX3.2.2, rfl, by decide, ck_at (x := (5, 58)) rfl rfl⟩
theorem ck_qRe_failIfTooManyParts : ck_mp q_Re_failIfTooManyParts := ⟨ck_kRX3.1, ck_kRX3.2.1, ck_kRX3.2.2, rfl, by decide, ck_at (x := (5, 67)) rfl rfl⟩
theorem ck_qRe_expect : ck_mp q_Re_expect := ⟨ck_kRX3.1, ck_kRX3.2.1, ck_kRX3.2.2, rfl, by decide, ck_at (x := (5, 26)) rfl rfl⟩
theorem ck_qRe_fail : ck_mp q_Re_fail := ⟨ck_kRX3.1, ck_kRX3.2.1, ck_kRX3.2.2, rfl, by decide, ck_at (x := (4, 238)) rfl rfl⟩
theorem ck_qRe_canBegin : ck_mp q_Re_canBegin := ⟨ck_kRX3.1, ck_kRX3.2.1, ck_kRX3.2.2, rfl, by decide, ck_at (x := (4, 234)) rfl rfl⟩
theorem ck_qRe_roleSignFollows : ck_mp q_Re_roleSignFollows := ⟨ck_kRX3.1, ck_kRX3.2.1, ck_kRX3.2.2, rfl, by decide, ck_at (x := (5, 2)) rfl rfl⟩
theorem ck_qRe_isSign : ck_mp q_Re_isSign := ⟨ck_kRX3.1, ck_kRX3.2.1, ck_kRX3.2.2, rfl, by decide, ck_at (x := (4, 226)) rfl rfl⟩
theorem ck_qRe_behindBlanks : ck_mp q_Re_behindBlanks := ⟨ck_kRX3.1, ck_kRX3.2.1, ck_kRX3.2.2, rfl, by decide, ck_at (x := (4, 212)) rfl rfl⟩
theorem ck_qRe_step : ck_mp q_Re_step := ⟨ck_kRX3.1, ck_kRX3.2.1, ck_kRX3.2.2, rfl, by decide, ck_at (x := (4, 208)) rfl rfl⟩
theorem ck_qRe_kindOfWord : ck_mp q_Re_kindOfWord := ⟨ck_kRX3.1, ck_kRX3.2.1, ck_kRX3.2.2, rfl, by decide, ck_at (x := (4, 216)) rfl rfl⟩
theorem ck_qRe_kindOfSign : ck_mp q_Re_kindOfSign := ⟨ck_kRX3.1, ck_kRX3.2.1, ck_kRX3.2.2, rfl, by decide, ck_at (x := (4, 222)) rfl rfl⟩
theorem ck_qSa_init : ck_mp q_Sa_init := ⟨ck_kRX5.1, ck_kRX5.2.1, ck_kRX5.2.2, rfl, by decide, ck_at (x := (2, 0)) rfl rfl⟩
theorem ck_qSa_begin : ck_mp q_Sa_begin := ⟨ck_kRX5.1, ck_kRX5.2.1, ck_kRX5.2.2, rfl, by decide, ck_at (x := (3, 9)) rfl rfl⟩
theorem ck_qSa_sortAxioms : ck_mp q_Sa_sortAxioms := ⟨ck_kRX5.1, ck_kRX5.2.1, ck_kRX5.2.2, rfl, by decide, ck_at (x := (3, 13)) rfl rfl⟩
theorem ck_qSa_addStep : ck_mp q_Sa_addStep := ⟨ck_kRX5.1, ck_kRX5.2.1, ck_kRX5.2.2, rfl, by decide, ck_at (x := (3, 17)) rfl rfl⟩
theorem ck_qSa_spreadUnder : ck_mp q_Sa_spreadUnder := ⟨ck_kRX5.1, ck_kRX5.2.1, ck_kRX5.2.2, rfl, by decide, ck_at (x := (3, 21)) rfl rfl⟩
theorem ck_qSa_activate : ck_mp q_Sa_activate := ⟨ck_kRX5.1, ck_kRX5.2.1, ck_kRX5.2.2, rfl, by decide, ck_at (x := (3, 28)) rfl rfl⟩
theorem ck_qSa_isVoid : ck_mp q_Sa_isVoid := ⟨ck_kRX5.1, ck_kRX5.2.1, ck_kRX5.2.2, rfl, by decide, ck_at (x := (4, 147)) rfl rfl⟩
theorem ck_qSa_isBelow : ck_mp q_Sa_isBelow := ⟨ck_kRX5.1, ck_kRX5.2.1, ck_kRX5.2.2, rfl, by decide, ck_at (x := (4, 151)) rfl rfl⟩
theorem ck_qSa_linksFrom : ck_mp q_Sa_linksFrom := ⟨ck_kRX5.1, ck_kRX5.2.1, ck_kRX5.2.2, rfl, by decide, ck_at (x := (4, 175)) rfl rfl⟩
theorem ck_qSa_deriveAll : ck_mp q_Sa_deriveAll := ⟨ck_kRX5.1, ck_kRX5.2.1, ck_kRX5.2.2, rfl, by decide, ck_at (x := (4, 110)) rfl rfl⟩
theorem ck_qSa_commitAll : ck_mp q_Sa_commitAll := ⟨ck_kRX5.1, ck_kRX5.2.1, ck_kRX5.2.2, rfl, by decide, ck_at (x := (4, 131)) rfl rfl⟩
theorem ck_qSa_saturate : ck_mp q_Sa_saturate := ⟨ck_kRX5.1, ck_kRX5.2.1, ck_kRX5.2.2, rfl, by decide, ck_at (x := (6, 76)) rfl rfl⟩
theorem ck_qSa_entails : ck_mp q_Sa_entails := ⟨ck_kRX5.1, ck_kRX5.2.1, ck_kRX5.2.2, rfl, by decide, ck_at (x := (6, 104)) rfl rfl⟩
theorem ck_qSa_sweep : ck_mp q_Sa_sweep := ⟨ck_kRX5.1, ck_kRX5.2.1, ck_kRX5.2.2, rfl, by decide, ck_at (x := (6, 82)) rfl rfl⟩
theorem ck_qSa_usedAxioms : ck_mp q_Sa_usedAxioms := ⟨ck_kRX5.1, ck_kRX5.2.1, ck_kRX5.2.2, rfl, by decide, ck_at (x := (6, 87)) rfl rfl⟩
theorem ck_qSa_isUsed : ck_mp q_Sa_isUsed := ⟨ck_kRX5.1, ck_kRX5.2.1, ck_kRX5.2.2, rfl, by decide, ck_at (x := (6, 91)) rfl rfl⟩
theorem ck_qSa_derive : ck_mp q_Sa_derive := ⟨ck_kRX5.1, ck_kRX5.2.1, ck_kRX5.2.2, rfl, by decide, ck_at (x := (4, 114)) rfl rfl⟩
theorem ck_qSa_byAxioms : ck_mp q_Sa_byAxioms := ⟨ck_kRX5.1, ck_kRX5.2.1, ck_kRX5.2.2, rfl, by decide, ck_at (x := (4, 118)) rfl rfl⟩
theorem ck_qSa_byParts : ck_mp q_Sa_byParts := ⟨ck_kRX5.1, ck_kRX5.2.1, ck_kRX5.2.2, rfl, by decide, ck_at (x := (4, 122)) rfl rfl⟩
theorem ck_qSa_byChains : ck_mp q_Sa_byChains := ⟨ck_kRX5.1, ck_kRX5.2.1, ck_kRX5.2.2, rfl, by decide, ck_at (x := (4, 127)) rfl rfl⟩
theorem ck_qSa_commit : ck_mp q_Sa_commit := ⟨ck_kRX5.1, ck_kRX5.2.1, ck_kRX5.2.2, rfl, by decide, ck_at (x := (4, 135)) rfl rfl⟩
theorem ck_qSa_spreadReach : ck_mp q_Sa_spreadReach := ⟨ck_kRX5.1, ck_kRX5.2.1, ck_kRX5.2.2, rfl, by decide, ck_at (x := (4, 139)) rfl rfl⟩
theorem ck_qSa_ruleFor : ck_mp q_Sa_ruleFor := ⟨ck_kRX5.1, ck_kRX5.2.1, ck_kRX5.2.2, rfl, by decide, ck_at (x := (5, 195)) rfl rfl⟩
theorem ck_qSa_witnessOf : ck_mp q_Sa_witnessOf := ⟨ck_kRX5.1, ck_kRX5.2.1, ck_kRX5.2.2, rfl, by decide, ck_at (x := (5, 203)) rfl rfl⟩
theorem ck_qSa_joins : ck_mp q_Sa_joins := ⟨ck_kRX5.1, ck_kRX5.2.1, ck_kRX5.2.2, rfl, by decide, ck_at (x := (5, 199)) rfl rfl⟩
theorem ck_qSa_leastAxiom : ck_mp q_Sa_leastAxiom := ⟨ck_kRX5.1, ck_kRX5.2.1, ck_kRX5.2.2, rfl, by decide, ck_at (x := (5, 207)) rfl rfl⟩
theorem ck_qSa_leastAnd : ck_mp q_Sa_leastAnd := ⟨ck_kRX5.1, ck_kRX5.2.1, ck_kRX5.2.2, rfl, by decide, ck_at (x := (5, 211)) rfl rfl⟩
theorem ck_qSa_leastPart : ck_mp q_Sa_leastPart := ⟨ck_kRX5.1, ck_kRX5.2.1, ck_kRX5.2.2, rfl, by decide, ck_at (x := (5, 215)) rfl rfl⟩
theorem ck_qHi_init : ck_mp q_Hi_init := ⟨ck_kRX0.1, ck_kRX0.2.1, ck_kRX0.2.2, rfl, by decide, ck_at (x := (2, 68)) rfl rfl⟩
theorem ck_qHi_build : ck_mp q_Hi_build := ⟨ck_kRX0.1, ck_kRX0.2.1, ck_kRX0.2.2, rfl, by decide, ck_at (x := (4, 143)) rfl rfl⟩
theorem ck_qHi_place : ck_mp q_Hi_place := ⟨ck_kRX0.1, ck_kRX0.2.1, ck_kRX0.2.2, rfl, by decide, ck_at (x := (4, 156)) rfl rfl⟩
theorem ck_qHi_layParents : ck_mp q_Hi_layParents := ⟨ck_kRX0.1, ck_kRX0.2.1, ck_kRX0.2.2, rfl, by decide, ck_at (x := (4, 160)) rfl rfl⟩
theorem ck_qHi_childrenOf : ck_mp q_Hi_childrenOf := ⟨ck_kRX0.1, ck_kRX0.2.1, ck_kRX0.2.2, rfl, by decide, ck_at (x := (6, 12)) rfl rfl⟩
theorem ck_qHi_allUnder : ck_mp q_Hi_allUnder := ⟨ck_kRX0.1, ck_kRX0.2.1, ck_kRX0.2.2, rfl, by decide, ck_at (x := (6, 16)) rfl rfl⟩
theorem ck_qHi_depth : ck_mp q_Hi_depth := ⟨ck_kRX0.1, ck_kRX0.2.1, ck_kRX0.2.2, rfl, by decide, ck_at (x := (6, 20)) rfl rfl⟩
theorem ck_qHi_commonOf : ck_mp q_Hi_commonOf := ⟨ck_kRX0.1, ck_kRX0.2.1, ck_kRX0.2.2, rfl, by decide, ck_at (x := (6, 53)) rfl rfl⟩
theorem ck_qHi_nodesOver : ck_mp q_Hi_nodesOver := ⟨ck_kRX0.1, ck_kRX0.2.1, ck_kRX0.2.2, rfl, by decide, ck_at (x := (6, 57)) rfl rfl⟩
theorem ck_qRs_init : ck_mp q_Rs_init := ⟨ck_kRX4.1, ck_kRX4.2.1, ck_kRX4.2.2, rfl, by decide, ck_at (x := (2, 105)) rfl rfl⟩
theorem ck_qRs_forget : ck_mp q_Rs_forget := ⟨ck_kRX4.1, ck_kRX4.2.1, ck_kRX4.2.2, rfl, by decide, ck_at (x := (2, 233)) rfl rfl⟩
theorem ck_qRs_aim : ck_mp q_Rs_aim := ⟨ck_kRX4.1, ck_kRX4.2.1, ck_kRX4.2.2, rfl, by decide, ck_at (x := (6, 72)) rfl rfl⟩
theorem ck_qRs_holds : ck_mp q_Rs_holds := ⟨ck_kRX4.1, ck_kRX4.2.1, ck_kRX4.2.2, rfl, by decide, ck_at (x := (6, 100)) rfl rfl⟩
theorem ck_qRs_neededAlone : ck_mp q_Rs_neededAlone := ⟨ck_kRX4.1, ck_kRX4.2.1, ck_kRX4.2.2, rfl, by decide, ck_at (x := (6, 95)) rfl rfl⟩
theorem ck_qRs_shrink : ck_mp q_Rs_shrink := ⟨ck_kRX4.1, ck_kRX4.2.1, ck_kRX4.2.2, rfl, by decide, ck_at (x := (6, 116)) rfl rfl⟩
theorem ck_qRs_findAll : ck_mp q_Rs_findAll := ⟨ck_kRX4.1, ck_kRX4.2.1, ck_kRX4.2.2, rfl, by decide, ck_at (x := (6, 128)) rfl rfl⟩
theorem ck_qRs_freeing : ck_mp q_Rs_freeing := ⟨ck_kRX4.1, ck_kRX4.2.1, ck_kRX4.2.2, rfl, by decide, ck_at (x := (6, 133)) rfl rfl⟩
theorem ck_qRs_hasIdle : ck_mp q_Rs_hasIdle := ⟨ck_kRX4.1, ck_kRX4.2.1, ck_kRX4.2.2, rfl, by decide, ck_at (x := (6, 137)) rfl rfl⟩
theorem ck_qRs_sortFound : ck_mp q_Rs_sortFound := ⟨ck_kRX4.1, ck_kRX4.2.1, ck_kRX4.2.2, rfl, by decide, ck_at (x := (6, 141)) rfl rfl⟩
theorem ck_qRs_leastCut : ck_mp q_Rs_leastCut := ⟨ck_kRX4.1, ck_kRX4.2.1, ck_kRX4.2.2, rfl, by decide, ck_at (x := (6, 154)) rfl rfl⟩
theorem ck_qRs_cutOf : ck_mp q_Rs_cutOf := ⟨ck_kRX4.1, ck_kRX4.2.1, ck_kRX4.2.2, rfl, by decide, ck_at (x := (6, 158)) rfl rfl⟩
theorem ck_qMo_init : ck_mp q_Mo_init := ⟨ck_kRX1.1, ck_kRX1.2.1, ck_kRX1.2.2, rfl, by decide, ck_at (x := (2, 146)) rfl rfl⟩
theorem ck_qMo_ofAxiom : ck_mp q_Mo_ofAxiom := ⟨ck_kRX1.1, ck_kRX1.2.1, ck_kRX1.2.2, rfl, by decide, ck_at (x := (6, 183)) rfl rfl⟩
theorem ck_qMo_inTurn : ck_mp q_Mo_inTurn := ⟨ck_kRX1.1, ck_kRX1.2.1, ck_kRX1.2.2, rfl, by decide, ck_at (x := (6, 221)) rfl rfl⟩
theorem ck_qMo_cut : ck_mp q_Mo_cut := ⟨ck_kRX1.1, ck_kRX1.2.1, ck_kRX1.2.2, rfl, by decide, ck_at (x := (6, 187)) rfl rfl⟩
theorem ck_qMo_mark : ck_mp q_Mo_mark := ⟨ck_kRX1.1, ck_kRX1.2.1, ck_kRX1.2.2, rfl, by decide, ck_at (x := (6, 191)) rfl rfl⟩
theorem ck_qMo_isMarked : ck_mp q_Mo_isMarked := ⟨ck_kRX1.1, ck_kRX1.2.1, ck_kRX1.2.2, rfl, by decide, ck_at (x := (6, 194)) rfl rfl⟩
theorem ck_qMo_isIdle : ck_mp q_Mo_isIdle := ⟨ck_kRX1.1, ck_kRX1.2.1, ck_kRX1.2.2, rfl, by decide, ck_at (x := (6, 199)) rfl rfl⟩
theorem ck_qMo_isIdleBelow : ck_mp q_Mo_isIdleBelow := ⟨ck_kRX1.1, ck_kRX1.2.1, ck_kRX1.2.2, rfl, by decide, ck_at (x := (6, 203)) rfl rfl⟩
theorem ck_qLc_init : ck_mp q_Lc_init := ⟨ck_kRX7.1, ck_kRX7.2.1, ck_kRX7.2.2, rfl, by decide, ck_at (x := (1, 33)) rfl rfl⟩
theorem ck_qLc_feed : ck_mp q_Lc_feed := ⟨ck_kRX7.1, ck_kRX7.2.1, ck_kRX7.2.2, rfl, by decide, ck_at (x := (2, 213)) rfl rfl⟩
theorem ck_qLc_text : ck_mp q_Lc_text := ⟨ck_kRX7.1, ck_kRX7.2.1, ck_kRX7.2.2, rfl, by decide, ck_at (x := (4, 188)) rfl rfl⟩
theorem ck_qLc_fault : ck_mp q_Lc_fault := ⟨ck_kRX7.1, ck_kRX7.2.1, ck_kRX7.2.2, rfl, by decide, ck_at (x := (2, 221)) rfl rfl⟩
theorem ck_qLc_turn : ck_mp q_Lc_turn := ⟨ck_kRX7.1, ck_kRX7.2.1, ck_kRX7.2.2, rfl, by decide, ck_at (x := (5, 79)) rfl rfl⟩
theorem ck_qLc_undo : ck_mp q_Lc_undo := ⟨ck_kRX7.1, ck_kRX7.2.1, ck_kRX7.2.2, rfl, by decide, ck_at (x := (2, 225)) rfl rfl⟩
theorem ck_qLc_told : ck_mp q_Lc_told := ⟨ck_kRX7.1, ck_kRX7.2.1, ck_kRX7.2.2, rfl, by decide, ck_at (x := (5, 115)) rfl rfl⟩
theorem ck_qLc_axiom : ck_mp q_Lc_axiom := ⟨ck_kRX7.1, ck_kRX7.2.1, ck_kRX7.2.2, rfl, by decide, ck_at (x := (5, 136)) rfl rfl⟩
theorem ck_qLc_part : ck_mp q_Lc_part := ⟨ck_kRX7.1, ck_kRX7.2.1, ck_kRX7.2.2, rfl, by decide, ck_at (x := (5, 143)) rfl rfl⟩
theorem ck_qLc_letter : ck_mp q_Lc_letter := ⟨ck_kRX7.1, ck_kRX7.2.1, ck_kRX7.2.2, rfl, by decide, ck_at (x := (5, 154)) rfl rfl⟩
theorem ck_qLc_named : ck_mp q_Lc_named := ⟨ck_kRX7.1, ck_kRX7.2.1, ck_kRX7.2.2, rfl, by decide, ck_at (x := (5, 165)) rfl rfl⟩
theorem ck_qLc_below : ck_mp q_Lc_below := ⟨ck_kRX7.1, ck_kRX7.2.1, ck_kRX7.2.2, rfl, by decide, ck_at (x := (5, 176)) rfl rfl⟩
theorem ck_qLc_when : ck_mp q_Lc_when := ⟨ck_kRX7.1, ck_kRX7.2.1, ck_kRX7.2.2, rfl, by decide, ck_at (x := (5, 184)) rfl rfl⟩
theorem ck_qLc_why : ck_mp q_Lc_why := ⟨ck_kRX7.1, ck_kRX7.2.1, ck_kRX7.2.2, rfl, by decide, ck_at (x := (5, 191)) rfl rfl⟩
theorem ck_qLc_link : ck_mp q_Lc_link := ⟨ck_kRX7.1, ck_kRX7.2.1, ck_kRX7.2.2, rfl, by decide, ck_at (x := (5, 223)) rfl rfl⟩
theorem ck_qLc_under : ck_mp q_Lc_under := ⟨ck_kRX7.1, ck_kRX7.2.1, ck_kRX7.2.2, rfl, by decide, ck_at (x := (5, 234)) rfl rfl⟩
theorem ck_qLc_node : ck_mp q_Lc_node := ⟨ck_kRX7.1, ck_kRX7.2.1, ck_kRX7.2.2, rfl, by decide, ck_at (x := (6, 1)) rfl rfl⟩
theorem ck_qLc_nodeOf : ck_mp q_Lc_nodeOf := ⟨ck_kRX7.1, ck_kRX7.2.1, ck_kRX7.2.2, rfl, by decide, ck_at (x := (6, 8)) rfl rfl⟩
theorem ck_qLc_nothing : ck_mp q_Lc_nothing := ⟨ck_kRX7.1, ck_kRX7.2.1, ck_kRX7.2.2, rfl, by decide, ck_at (x := (2, 237)) rfl rfl⟩
theorem ck_qLc_common : ck_mp q_Lc_common := ⟨ck_kRX7.1, ck_kRX7.2.1, ck_kRX7.2.2, rfl, by decide, ck_at (x := (6, 29)) rfl rfl⟩
theorem ck_qLc_needed : ck_mp q_Lc_needed := ⟨ck_kRX7.1, ck_kRX7.2.1, ck_kRX7.2.2, rfl, by decide, ck_at (x := (6, 64)) rfl rfl⟩
theorem ck_qLc_enough : ck_mp q_Lc_enough := ⟨ck_kRX7.1, ck_kRX7.2.1, ck_kRX7.2.2, rfl, by decide, ck_at (x := (6, 112)) rfl rfl⟩
theorem ck_qLc_reason : ck_mp q_Lc_reason := ⟨ck_kRX7.1, ck_kRX7.2.1, ck_kRX7.2.2, rfl, by decide, ck_at (x := (6, 124)) rfl rfl⟩
theorem ck_qLc_repair : ck_mp q_Lc_repair := ⟨ck_kRX7.1, ck_kRX7.2.1, ck_kRX7.2.2, rfl, by decide, ck_at (x := (6, 149)) rfl rfl⟩
theorem ck_qLc_likeness : ck_mp q_Lc_likeness := ⟨ck_kRX7.1, ck_kRX7.2.1, ck_kRX7.2.2, rfl, by decide, ck_at (x := (6, 165)) rfl rfl⟩
theorem ck_qLc_atom : ck_mp q_Lc_atom := ⟨ck_kRX7.1, ck_kRX7.2.1, ck_kRX7.2.2, rfl, by decide, ck_at (x := (6, 179)) rfl rfl⟩
theorem ck_qLc_depends : ck_mp q_Lc_depends := ⟨ck_kRX7.1, ck_kRX7.2.1, ck_kRX7.2.2, rfl, by decide, ck_at (x := (6, 210)) rfl rfl⟩
theorem ck_qLc_module : ck_mp q_Lc_module := ⟨ck_kRX7.1, ck_kRX7.2.1, ck_kRX7.2.2, rfl, by decide, ck_at (x := (6, 217)) rfl rfl⟩
theorem ck_qLc_ask : ck_mp q_Lc_ask := ⟨ck_kRX7.1, ck_kRX7.2.1, ck_kRX7.2.2, rfl, by decide, ck_at (x := (6, 229)) rfl rfl⟩
theorem ck_qLc_of : ck_mp q_Lc_of := ⟨ck_kRX7.1, ck_kRX7.2.1, ck_kRX7.2.2, rfl, by decide, ck_at (x := (7, 5)) rfl rfl⟩
theorem ck_qLc_model : ck_mp q_Lc_model := ⟨ck_kRX7.1, ck_kRX7.2.1, ck_kRX7.2.2, rfl, by decide, ck_at (x := (7, 30)) rfl rfl⟩
theorem ck_qLc_print : ck_mp q_Lc_print := ⟨ck_kRX7.1, ck_kRX7.2.1, ck_kRX7.2.2, rfl, by decide, ck_at (x := (4, 164)) rfl rfl⟩
theorem ck_qLc_status : ck_mp q_Lc_status := ⟨ck_kRX7.1, ck_kRX7.2.1, ck_kRX7.2.2, rfl, by decide, ck_at (x := (4, 180)) rfl rfl⟩
theorem ck_qLc_putBytes : ck_mp q_Lc_putBytes := ⟨ck_kRX7.1, ck_kRX7.2.1, ck_kRX7.2.2, rfl, by decide, ck_at (x := (2, 217)) rfl rfl⟩
theorem ck_qLc_refuseNoSuch : ck_mp q_Lc_refuseNoSuch := ⟨ck_kRX7.1, ck_kRX7.2.1, ck_kRX7.2.2, rfl, by decide, ck_at (x := (5, 87)) rfl rfl⟩
theorem ck_qLc_refuseArgument : ck_mp q_Lc_refuseArgument := ⟨ck_kRX7.1, ck_kRX7.2.1, ck_kRX7.2.2, rfl, by decide, ck_at (x := (4, 196)) rfl rfl⟩
theorem ck_qLc_refuseState : ck_mp q_Lc_refuseState := ⟨ck_kRX7.1, ck_kRX7.2.1, ck_kRX7.2.2, rfl, by decide, ck_at (x := (6, 33)) rfl rfl⟩
theorem ck_qLc_needBytes : ck_mp q_Lc_needBytes := ⟨ck_kRX7.1, ck_kRX7.2.1, ck_kRX7.2.2, rfl, by decide, ck_at (x := (4, 192)) rfl rfl⟩
theorem ck_qLc_needWhat : ck_mp q_Lc_needWhat := ⟨ck_kRX7.1, ck_kRX7.2.1, ck_kRX7.2.2, rfl, by decide, ck_at (x := (5, 119)) rfl rfl⟩
theorem ck_qLc_needAxiom : ck_mp q_Lc_needAxiom := ⟨ck_kRX7.1, ck_kRX7.2.1, ck_kRX7.2.2, rfl, by decide, ck_at (x := (5, 83)) rfl rfl⟩
theorem ck_qLc_needPart : ck_mp q_Lc_needPart := ⟨ck_kRX7.1, ck_kRX7.2.1, ck_kRX7.2.2, rfl, by decide, ck_at (x := (5, 147)) rfl rfl⟩
theorem ck_qLc_needName : ck_mp q_Lc_needName := ⟨ck_kRX7.1, ck_kRX7.2.1, ck_kRX7.2.2, rfl, by decide, ck_at (x := (5, 169)) rfl rfl⟩
theorem ck_qLc_needRole : ck_mp q_Lc_needRole := ⟨ck_kRX7.1, ck_kRX7.2.1, ck_kRX7.2.2, rfl, by decide, ck_at (x := (5, 227)) rfl rfl⟩
theorem ck_qLc_isOn : ck_mp q_Lc_isOn := ⟨ck_kRX7.1, ck_kRX7.2.1, ck_kRX7.2.2, rfl, by decide, ck_at (x := (5, 108)) rfl rfl⟩
theorem ck_qLc_unsettle : ck_mp q_Lc_unsettle := ⟨ck_kRX7.1, ck_kRX7.2.1, ck_kRX7.2.2, rfl, by decide, ck_at (x := (2, 229)) rfl rfl⟩
theorem ck_qLc_settle : ck_mp q_Lc_settle := ⟨ck_kRX7.1, ck_kRX7.2.1, ck_kRX7.2.2, rfl, by decide, ck_at (x := (3, 1)) rfl rfl⟩
theorem ck_qLc_noteRound : ck_mp q_Lc_noteRound := ⟨ck_kRX7.1, ck_kRX7.2.1, ck_kRX7.2.2, rfl, by decide, ck_at (x := (4, 105)) rfl rfl⟩
theorem ck_qLc_toldOfSettled : ck_mp q_Lc_toldOfSettled := ⟨ck_kRX7.1, ck_kRX7.2.1, ck_kRX7.2.2, rfl, by decide, ck_at (x := (5, 123)) rfl rfl⟩
theorem ck_qLc_aimReasons : ck_mp q_Lc_aimReasons := ⟨ck_kRX7.1, ck_kRX7.2.1, ck_kRX7.2.2, rfl, by decide, ck_at (x := (6, 68)) rfl rfl⟩
theorem ck_qLc_readOneConcept : ck_mp q_Lc_readOneConcept := ⟨ck_kRX7.1, ck_kRX7.2.1, ck_kRX7.2.2, rfl, by decide, ck_at (x := (7, 9)) rfl rfl⟩
theorem ck_qLc_takeQuestion : ck_mp q_Lc_takeQuestion := ⟨ck_kRX7.1, ck_kRX7.2.1, ck_kRX7.2.2, rfl, by decide, ck_at (x := (6, 237)) rfl rfl⟩
theorem ck_qLc_answerOf : ck_mp q_Lc_answerOf := ⟨ck_kRX7.1, ck_kRX7.2.1, ck_kRX7.2.2, rfl, by decide, ck_at (x := (7, 17)) rfl rfl⟩
theorem ck_qLc_namesOver : ck_mp q_Lc_namesOver := ⟨ck_kRX7.1, ck_kRX7.2.1, ck_kRX7.2.2, rfl, by decide, ck_at (x := (6, 169)) rfl rfl⟩
theorem ck_qLc_namesUnder : ck_mp q_Lc_namesUnder := ⟨ck_kRX7.1, ck_kRX7.2.1, ck_kRX7.2.2, rfl, by decide, ck_at (x := (7, 23)) rfl rfl⟩
theorem ck_qLc_extentOf : ck_mp q_Lc_extentOf := ⟨ck_kRX7.1, ck_kRX7.2.1, ck_kRX7.2.2, rfl, by decide, ck_at (x := (7, 34)) rfl rfl⟩
theorem ck_qLc_extentOfOne : ck_mp q_Lc_extentOfOne := ⟨ck_kRX7.1, ck_kRX7.2.1, ck_kRX7.2.2, rfl, by decide, ck_at (x := (7, 38)) rfl rfl⟩
theorem ck_qLc_inLowestTerms : ck_mp q_Lc_inLowestTerms := ⟨ck_kRX7.1, ck_kRX7.2.1, ck_kRX7.2.2, rfl, by decide, ck_at (x := (6, 172)) rfl rfl⟩
theorem ck_qRf_init : ck_mp q_Rf_init := ⟨ck_kRX8.1, ck_kRX8.2.1, ck_kRX8.2.2, rfl, by decide, ck_at (x := (7, 43)) rfl rfl⟩
theorem ck_qRf_begins : ck_mp q_Rf_begins := ⟨ck_kRX8.1, ck_kRX8.2.1, ck_kRX8.2.2, rfl, by decide, ck_at (x := (7, 51)) rfl rfl⟩
theorem ck_qRf_lays : ck_mp q_Rf_lays := ⟨ck_kRX8.1, ck_kRX8.2.1, ck_kRX8.2.2, rfl, by decide, ck_at (x := (7, 54)) rfl rfl⟩
theorem ck_qRf_kindOf : ck_mp q_Rf_kindOf := ⟨ck_kRX8.1, ck_kRX8.2.1, ck_kRX8.2.2, rfl, by decide, ck_at (x := (8, 84)) rfl rfl⟩
theorem ck_qRf_oneOf : ck_mp q_Rf_oneOf := ⟨ck_kRX8.1, ck_kRX8.2.1, ck_kRX8.2.2, rfl, by decide, ck_at (x := (8, 87)) rfl rfl⟩
theorem ck_qRf_otherOf : ck_mp q_Rf_otherOf := ⟨ck_kRX8.1, ck_kRX8.2.1, ck_kRX8.2.2, rfl, by decide, ck_at (x := (8, 90)) rfl rfl⟩
theorem ck_qRf_axiomOf : ck_mp q_Rf_axiomOf := ⟨ck_kRX8.1, ck_kRX8.2.1, ck_kRX8.2.2, rfl, by decide, ck_at (x := (8, 135)) rfl rfl⟩
theorem ck_qRf_thrown : ck_mp q_Rf_thrown := ⟨ck_kRX8.1, ck_kRX8.2.1, ck_kRX8.2.2, rfl, by decide, ck_at (x := (7, 195)) rfl rfl⟩
theorem ck_qRf_bad : ck_mp q_Rf_bad := ⟨ck_kRX8.1, ck_kRX8.2.1, ck_kRX8.2.2, rfl, by decide, ck_at (x := (7, 210)) rfl rfl⟩
theorem ck_qRf_in : ck_mp q_Rf_in := ⟨ck_kRX8.1, ck_kRX8.2.1, ck_kRX8.2.2, rfl, by decide, ck_at (x := (7, 206)) rfl rfl⟩
theorem ck_qRf_less : ck_mp q_Rf_less := ⟨ck_kRX8.1, ck_kRX8.2.1, ck_kRX8.2.2, rfl, by decide, ck_at (x := (8, 205)) rfl rfl⟩
theorem ck_qRf_more : ck_mp q_Rf_more := ⟨ck_kRX8.1, ck_kRX8.2.1, ck_kRX8.2.2, rfl, by decide, ck_at (x := (8, 182)) rfl rfl⟩
theorem ck_qRf_has : ck_mp q_Rf_has := ⟨ck_kRX8.1, ck_kRX8.2.1, ck_kRX8.2.2, rfl, by decide, ck_at (x := (8, 112)) rfl rfl⟩
theorem ck_qRf_bits : ck_mp q_Rf_bits := ⟨ck_kRX8.1, ck_kRX8.2.1, ck_kRX8.2.2, rfl, by decide, ck_at (x := (8, 163)) rfl rfl⟩
theorem ck_qRf_feed : ck_mp q_Rf_feed := ⟨ck_kRX8.1, ck_kRX8.2.1, ck_kRX8.2.2, rfl, by decide, ck_at (x := (7, 199)) rfl rfl⟩
theorem ck_qRf_byteAt : ck_mp q_Rf_byteAt := ⟨ck_kRX8.1, ck_kRX8.2.1, ck_kRX8.2.2, rfl, by decide, ck_at (x := (7, 226)) rfl rfl⟩
theorem ck_qRf_here : ck_mp q_Rf_here := ⟨ck_kRX8.1, ck_kRX8.2.1, ck_kRX8.2.2, rfl, by decide, ck_at (x := (7, 222)) rfl rfl⟩
theorem ck_qRf_fine : ck_mp q_Rf_fine := ⟨ck_kRX8.1, ck_kRX8.2.1, ck_kRX8.2.2, rfl, by decide, ck_at (x := (7, 218)) rfl rfl⟩
theorem ck_qRf_wrong : ck_mp q_Rf_wrong := ⟨ck_kRX8.1, ck_kRX8.2.1, ck_kRX8.2.2, rfl, by decide, ck_at (x := (7, 233)) rfl rfl⟩
theorem ck_qRf_isSmall : ck_mp q_Rf_isSmall := ⟨ck_kRX8.1, ck_kRX8.2.1, ck_kRX8.2.2, rfl, by decide, ck_at (x := (7, 229)) rfl rfl⟩
theorem ck_qRf_letters : ck_mp q_Rf_letters := ⟨ck_kRX8.1, ck_kRX8.2.1, ck_kRX8.2.2, rfl, by decide, ck_at (x := (7, 237)) rfl rfl⟩
theorem ck_qRf_isWord : ck_mp q_Rf_isWord := ⟨ck_kRX8.1, ck_kRX8.2.1, ck_kRX8.2.2, rfl, by decide, ck_at (x := (8, 6)) rfl rfl⟩
theorem ck_qRf_isOwn : ck_mp q_Rf_isOwn := ⟨ck_kRX8.1, ck_kRX8.2.1, ck_kRX8.2.2, rfl, by decide, ck_at (x := (8, 1)) rfl rfl⟩
theorem ck_qRf_takesSign : ck_mp q_Rf_takesSign := ⟨ck_kRX8.1, ck_kRX8.2.1, ck_kRX8.2.2, rfl, by decide, ck_at (x := (8, 57)) rfl rfl⟩
theorem ck_qRf_isTwice : ck_mp q_Rf_isTwice := ⟨ck_kRX8.1, ck_kRX8.2.1, ck_kRX8.2.2, rfl, by decide, ck_at (x := (8, 41)) rfl rfl⟩
theorem ck_qRf_numbered : ck_mp q_Rf_numbered := ⟨ck_kRX8.1, ck_kRX8.2.1, ck_kRX8.2.2, rfl, by decide, ck_at (x := (8, 53)) rfl rfl⟩
theorem ck_qRf_nameHere : ck_mp q_Rf_nameHere := ⟨ck_kRX8.1, ck_kRX8.2.1, ck_kRX8.2.2, rfl, by decide, ck_at (x := (8, 94)) rfl rfl⟩
theorem ck_qRf_roleHere : ck_mp q_Rf_roleHere := ⟨ck_kRX8.1, ck_kRX8.2.1, ck_kRX8.2.2, rfl, by decide, ck_at (x := (8, 49)) rfl rfl⟩
theorem ck_qRf_partOf : ck_mp q_Rf_partOf := ⟨ck_kRX8.1, ck_kRX8.2.1, ck_kRX8.2.2, rfl, by decide, ck_at (x := (8, 81)) rfl rfl⟩
theorem ck_qRf_atom : ck_mp q_Rf_atom := ⟨ck_kRX8.1, ck_kRX8.2.1, ck_kRX8.2.2, rfl, by decide, ck_at (x := (8, 77)) rfl rfl⟩
theorem ck_qRf_concept : ck_mp q_Rf_concept := ⟨ck_kRX8.1, ck_kRX8.2.1, ck_kRX8.2.2, rfl, by decide, ck_at (x := (8, 73)) rfl rfl⟩
theorem ck_qRf_isOfRoles : ck_mp q_Rf_isOfRoles := ⟨ck_kRX8.1, ck_kRX8.2.1, ck_kRX8.2.2, rfl, by decide, ck_at (x := (8, 37)) rfl rfl⟩
theorem ck_qRf_adds : ck_mp q_Rf_adds := ⟨ck_kRX8.1, ck_kRX8.2.1, ck_kRX8.2.2, rfl, by decide, ck_at (x := (8, 65)) rfl rfl⟩
theorem ck_qRf_ofRoles : ck_mp q_Rf_ofRoles := ⟨ck_kRX8.1, ck_kRX8.2.1, ck_kRX8.2.2, rfl, by decide, ck_at (x := (8, 45)) rfl rfl⟩
theorem ck_qRf_ends : ck_mp q_Rf_ends := ⟨ck_kRX8.1, ck_kRX8.2.1, ck_kRX8.2.2, rfl, by decide, ck_at (x := (8, 61)) rfl rfl⟩
theorem ck_qRf_ofConcepts : ck_mp q_Rf_ofConcepts := ⟨ck_kRX8.1, ck_kRX8.2.1, ck_kRX8.2.2, rfl, by decide, ck_at (x := (8, 69)) rfl rfl⟩
theorem ck_qRf_opens : ck_mp q_Rf_opens := ⟨ck_kRX8.1, ck_kRX8.2.1, ck_kRX8.2.2, rfl, by decide, ck_at (x := (7, 214)) rfl rfl⟩
theorem ck_qRf_copies : ck_mp q_Rf_copies := ⟨ck_kRX8.1, ck_kRX8.2.1, ck_kRX8.2.2, rfl, by decide, ck_at (x := (8, 97)) rfl rfl⟩
theorem ck_qRf_text : ck_mp q_Rf_text := ⟨ck_kRX8.1, ck_kRX8.2.1, ck_kRX8.2.2, rfl, by decide, ck_at (x := (7, 203)) rfl rfl⟩
theorem ck_qRf_fault : ck_mp q_Rf_fault := ⟨ck_kRX8.1, ck_kRX8.2.1, ck_kRX8.2.2, rfl, by decide, ck_at (x := (8, 101)) rfl rfl⟩
theorem ck_qRf_laysUnder : ck_mp q_Rf_laysUnder := ⟨ck_kRX8.1, ck_kRX8.2.1, ck_kRX8.2.2, rfl, by decide, ck_at (x := (8, 132)) rfl rfl⟩
theorem ck_qRf_beginsRounds : ck_mp q_Rf_beginsRounds := ⟨ck_kRX8.1, ck_kRX8.2.1, ck_kRX8.2.2, rfl, by decide, ck_at (x := (8, 128)) rfl rfl⟩
theorem ck_qRf_byOwn : ck_mp q_Rf_byOwn := ⟨ck_kRX8.1, ck_kRX8.2.1, ck_kRX8.2.2, rfl, by decide, ck_at (x := (8, 155)) rfl rfl⟩
theorem ck_qRf_laysSome : ck_mp q_Rf_laysSome := ⟨ck_kRX8.1, ck_kRX8.2.1, ck_kRX8.2.2, rfl, by decide, ck_at (x := (8, 147)) rfl rfl⟩
theorem ck_qRf_byLink : ck_mp q_Rf_byLink := ⟨ck_kRX8.1, ck_kRX8.2.1, ck_kRX8.2.2, rfl, by decide, ck_at (x := (8, 159)) rfl rfl⟩
theorem ck_qRf_laysWider : ck_mp q_Rf_laysWider := ⟨ck_kRX8.1, ck_kRX8.2.1, ck_kRX8.2.2, rfl, by decide, ck_at (x := (8, 151)) rfl rfl⟩
theorem ck_qRf_goesRound : ck_mp q_Rf_goesRound := ⟨ck_kRX8.1, ck_kRX8.2.1, ck_kRX8.2.2, rfl, by decide, ck_at (x := (8, 143)) rfl rfl⟩
theorem ck_qRf_goesAll : ck_mp q_Rf_goesAll := ⟨ck_kRX8.1, ck_kRX8.2.1, ck_kRX8.2.2, rfl, by decide, ck_at (x := (9, 37)) rfl rfl⟩
theorem ck_qRf_notesWhen : ck_mp q_Rf_notesWhen := ⟨ck_kRX8.1, ck_kRX8.2.1, ck_kRX8.2.2, rfl, by decide, ck_at (x := (8, 139)) rfl rfl⟩
theorem ck_qRf_classifies : ck_mp q_Rf_classifies := ⟨ck_kRX8.1, ck_kRX8.2.1, ck_kRX8.2.2, rfl, by decide, ck_at (x := (8, 124)) rfl rfl⟩
theorem ck_qRf_isBelow : ck_mp q_Rf_isBelow := ⟨ck_kRX8.1, ck_kRX8.2.1, ck_kRX8.2.2, rfl, by decide, ck_at (x := (8, 179)) rfl rfl⟩
theorem ck_qRf_isVoid : ck_mp q_Rf_isVoid := ⟨ck_kRX8.1, ck_kRX8.2.1, ck_kRX8.2.2, rfl, by decide, ck_at (x := (8, 175)) rfl rfl⟩
theorem ck_qRf_namePart : ck_mp q_Rf_namePart := ⟨ck_kRX8.1, ck_kRX8.2.1, ck_kRX8.2.2, rfl, by decide, ck_at (x := (8, 171)) rfl rfl⟩
theorem ck_qRf_laysNodes : ck_mp q_Rf_laysNodes := ⟨ck_kRX8.1, ck_kRX8.2.1, ck_kRX8.2.2, rfl, by decide, ck_at (x := (8, 167)) rfl rfl⟩
theorem ck_qRf_turn : ck_mp q_Rf_turn := ⟨ck_kRX8.1, ck_kRX8.2.1, ck_kRX8.2.2, rfl, by decide, ck_at (x := (8, 105)) rfl rfl⟩
theorem ck_qRf_alters : ck_mp q_Rf_alters := ⟨ck_kRX8.1, ck_kRX8.2.1, ck_kRX8.2.2, rfl, by decide, ck_at (x := (8, 109)) rfl rfl⟩
theorem ck_qRf_undo : ck_mp q_Rf_undo := ⟨ck_kRX8.1, ck_kRX8.2.1, ck_kRX8.2.2, rfl, by decide, ck_at (x := (8, 116)) rfl rfl⟩
theorem ck_qRf_told : ck_mp q_Rf_told := ⟨ck_kRX8.1, ck_kRX8.2.1, ck_kRX8.2.2, rfl, by decide, ck_at (x := (8, 120)) rfl rfl⟩
theorem ck_qRf_voids : ck_mp q_Rf_voids := ⟨ck_kRX8.1, ck_kRX8.2.1, ck_kRX8.2.2, rfl, by decide, ck_at (x := (8, 186)) rfl rfl⟩
theorem ck_qRf_axiom : ck_mp q_Rf_axiom := ⟨ck_kRX8.1, ck_kRX8.2.1, ck_kRX8.2.2, rfl, by decide, ck_at (x := (8, 190)) rfl rfl⟩
theorem ck_qRf_isPart : ck_mp q_Rf_isPart := ⟨ck_kRX8.1, ck_kRX8.2.1, ck_kRX8.2.2, rfl, by decide, ck_at (x := (8, 198)) rfl rfl⟩
theorem ck_qRf_isName : ck_mp q_Rf_isName := ⟨ck_kRX8.1, ck_kRX8.2.1, ck_kRX8.2.2, rfl, by decide, ck_at (x := (8, 213)) rfl rfl⟩
theorem ck_qRf_part : ck_mp q_Rf_part := ⟨ck_kRX8.1, ck_kRX8.2.1, ck_kRX8.2.2, rfl, by decide, ck_at (x := (8, 194)) rfl rfl⟩
theorem ck_qRf_letter : ck_mp q_Rf_letter := ⟨ck_kRX8.1, ck_kRX8.2.1, ck_kRX8.2.2, rfl, by decide, ck_at (x := (8, 202)) rfl rfl⟩
theorem ck_qRf_named : ck_mp q_Rf_named := ⟨ck_kRX8.1, ck_kRX8.2.1, ck_kRX8.2.2, rfl, by decide, ck_at (x := (8, 209)) rfl rfl⟩
theorem ck_qRf_below : ck_mp q_Rf_below := ⟨ck_kRX8.1, ck_kRX8.2.1, ck_kRX8.2.2, rfl, by decide, ck_at (x := (8, 217)) rfl rfl⟩
theorem ck_qRf_when : ck_mp q_Rf_when := ⟨ck_kRX8.1, ck_kRX8.2.1, ck_kRX8.2.2, rfl, by decide, ck_at (x := (8, 221)) rfl rfl⟩
theorem ck_qRf_why : ck_mp q_Rf_why := ⟨ck_kRX8.1, ck_kRX8.2.1, ck_kRX8.2.2, rfl, by decide, ck_at (x := (8, 225)) rfl rfl⟩
theorem ck_qRf_ruleOf : ck_mp q_Rf_ruleOf := ⟨ck_kRX8.1, ck_kRX8.2.1, ck_kRX8.2.2, rfl, by decide, ck_at (x := (8, 229)) rfl rfl⟩
theorem ck_qRf_goesBy : ck_mp q_Rf_goesBy := ⟨ck_kRX8.1, ck_kRX8.2.1, ck_kRX8.2.2, rfl, by decide, ck_at (x := (8, 233)) rfl rfl⟩
theorem ck_qRf_isLinked : ck_mp q_Rf_isLinked := ⟨ck_kRX8.1, ck_kRX8.2.1, ck_kRX8.2.2, rfl, by decide, ck_at (x := (8, 237)) rfl rfl⟩
theorem ck_qRf_link : ck_mp q_Rf_link := ⟨ck_kRX8.1, ck_kRX8.2.1, ck_kRX8.2.2, rfl, by decide, ck_at (x := (9, 1)) rfl rfl⟩
theorem ck_qRf_under : ck_mp q_Rf_under := ⟨ck_kRX8.1, ck_kRX8.2.1, ck_kRX8.2.2, rfl, by decide, ck_at (x := (9, 5)) rfl rfl⟩
theorem ck_qRf_node : ck_mp q_Rf_node := ⟨ck_kRX8.1, ck_kRX8.2.1, ck_kRX8.2.2, rfl, by decide, ck_at (x := (9, 9)) rfl rfl⟩
theorem ck_qRf_nodeOf : ck_mp q_Rf_nodeOf := ⟨ck_kRX8.1, ck_kRX8.2.1, ck_kRX8.2.2, rfl, by decide, ck_at (x := (9, 13)) rfl rfl⟩
theorem ck_qRf_nothing : ck_mp q_Rf_nothing := ⟨ck_kRX8.1, ck_kRX8.2.1, ck_kRX8.2.2, rfl, by decide, ck_at (x := (9, 17)) rfl rfl⟩
theorem ck_qRf_common : ck_mp q_Rf_common := ⟨ck_kRX8.1, ck_kRX8.2.1, ck_kRX8.2.2, rfl, by decide, ck_at (x := (9, 21)) rfl rfl⟩
theorem ck_qRf_aboveAll : ck_mp q_Rf_aboveAll := ⟨ck_kRX8.1, ck_kRX8.2.1, ck_kRX8.2.2, rfl, by decide, ck_at (x := (9, 25)) rfl rfl⟩
theorem ck_qRf_isSo : ck_mp q_Rf_isSo := ⟨ck_kRX8.1, ck_kRX8.2.1, ck_kRX8.2.2, rfl, by decide, ck_at (x := (9, 33)) rfl rfl⟩
theorem ck_qRf_needed : ck_mp q_Rf_needed := ⟨ck_kRX8.1, ck_kRX8.2.1, ck_kRX8.2.2, rfl, by decide, ck_at (x := (9, 29)) rfl rfl⟩
theorem ck_qRf_leaves : ck_mp q_Rf_leaves := ⟨ck_kRX8.1, ck_kRX8.2.1, ck_kRX8.2.2, rfl, by decide, ck_at (x := (9, 46)) rfl rfl⟩
theorem ck_qRf_enough : ck_mp q_Rf_enough := ⟨ck_kRX8.1, ck_kRX8.2.1, ck_kRX8.2.2, rfl, by decide, ck_at (x := (9, 42)) rfl rfl⟩
theorem ck_qRf_reasonWithout : ck_mp q_Rf_reasonWithout := ⟨ck_kRX8.1, ck_kRX8.2.1, ck_kRX8.2.2, rfl, by decide, ck_at (x := (9, 62)) rfl rfl⟩
theorem ck_qRf_finds : ck_mp q_Rf_finds := ⟨ck_kRX8.1, ck_kRX8.2.1, ck_kRX8.2.2, rfl, by decide, ck_at (x := (9, 58)) rfl rfl⟩
theorem ck_qRf_laysReasons : ck_mp q_Rf_laysReasons := ⟨ck_kRX8.1, ck_kRX8.2.1, ck_kRX8.2.2, rfl, by decide, ck_at (x := (9, 54)) rfl rfl⟩
theorem ck_qRf_reason : ck_mp q_Rf_reason := ⟨ck_kRX8.1, ck_kRX8.2.1, ck_kRX8.2.2, rfl, by decide, ck_at (x := (9, 50)) rfl rfl⟩
theorem ck_qRf_repairs : ck_mp q_Rf_repairs := ⟨ck_kRX8.1, ck_kRX8.2.1, ck_kRX8.2.2, rfl, by decide, ck_at (x := (9, 72)) rfl rfl⟩
theorem ck_qRf_repair : ck_mp q_Rf_repair := ⟨ck_kRX8.1, ck_kRX8.2.1, ck_kRX8.2.2, rfl, by decide, ck_at (x := (9, 67)) rfl rfl⟩
theorem ck_qRf_divisor : ck_mp q_Rf_divisor := ⟨ck_kRX8.1, ck_kRX8.2.1, ck_kRX8.2.2, rfl, by decide, ck_at (x := (9, 79)) rfl rfl⟩
theorem ck_qRf_likeness : ck_mp q_Rf_likeness := ⟨ck_kRX8.1, ck_kRX8.2.1, ck_kRX8.2.2, rfl, by decide, ck_at (x := (9, 76)) rfl rfl⟩
theorem ck_qRf_laysSigns : ck_mp q_Rf_laysSigns := ⟨ck_kRX8.1, ck_kRX8.2.1, ck_kRX8.2.2, rfl, by decide, ck_at (x := (9, 87)) rfl rfl⟩
theorem ck_qRf_namesIn : ck_mp q_Rf_namesIn := ⟨ck_kRX8.1, ck_kRX8.2.1, ck_kRX8.2.2, rfl, by decide, ck_at (x := (9, 103)) rfl rfl⟩
theorem ck_qRf_rolesIn : ck_mp q_Rf_rolesIn := ⟨ck_kRX8.1, ck_kRX8.2.1, ck_kRX8.2.2, rfl, by decide, ck_at (x := (9, 107)) rfl rfl⟩
theorem ck_qRf_laysLost : ck_mp q_Rf_laysLost := ⟨ck_kRX8.1, ck_kRX8.2.1, ck_kRX8.2.2, rfl, by decide, ck_at (x := (9, 95)) rfl rfl⟩
theorem ck_qRf_isIdle : ck_mp q_Rf_isIdle := ⟨ck_kRX8.1, ck_kRX8.2.1, ck_kRX8.2.2, rfl, by decide, ck_at (x := (9, 99)) rfl rfl⟩
theorem ck_qRf_moduleOf : ck_mp q_Rf_moduleOf := ⟨ck_kRX8.1, ck_kRX8.2.1, ck_kRX8.2.2, rfl, by decide, ck_at (x := (9, 91)) rfl rfl⟩
theorem ck_qRf_module : ck_mp q_Rf_module := ⟨ck_kRX8.1, ck_kRX8.2.1, ck_kRX8.2.2, rfl, by decide, ck_at (x := (9, 83)) rfl rfl⟩
theorem ck_qRf_ownModule : ck_mp q_Rf_ownModule := ⟨ck_kRX8.1, ck_kRX8.2.1, ck_kRX8.2.2, rfl, by decide, ck_at (x := (9, 115)) rfl rfl⟩
theorem ck_qRf_atom_1 : ck_mp q_Rf_atom_1 := ⟨ck_kRX8.1, ck_kRX8.2.1, ck_kRX8.2.2, rfl, by decide, ck_at (x := (9, 111)) rfl rfl⟩
theorem ck_qRf_depends : ck_mp q_Rf_depends := ⟨ck_kRX8.1, ck_kRX8.2.1, ck_kRX8.2.2, rfl, by decide, ck_at (x := (9, 119)) rfl rfl⟩
theorem ck_qRf_reads : ck_mp q_Rf_reads := ⟨ck_kRX8.1, ck_kRX8.2.1, ck_kRX8.2.2, rfl, by decide, ck_at (x := (9, 127)) rfl rfl⟩
theorem ck_qRf_ask : ck_mp q_Rf_ask := ⟨ck_kRX8.1, ck_kRX8.2.1, ck_kRX8.2.2, rfl, by decide, ck_at (x := (9, 123)) rfl rfl⟩
theorem ck_qRf_of : ck_mp q_Rf_of := ⟨ck_kRX8.1, ck_kRX8.2.1, ck_kRX8.2.2, rfl, by decide, ck_at (x := (9, 131)) rfl rfl⟩
theorem ck_qRf_model : ck_mp q_Rf_model := ⟨ck_kRX8.1, ck_kRX8.2.1, ck_kRX8.2.2, rfl, by decide, ck_at (x := (9, 135)) rfl rfl⟩
theorem ck_qRf_print : ck_mp q_Rf_print := ⟨ck_kRX8.1, ck_kRX8.2.1, ck_kRX8.2.2, rfl, by decide, ck_at (x := (9, 139)) rfl rfl⟩
theorem ck_qRf_status : ck_mp q_Rf_status := ⟨ck_kRX8.1, ck_kRX8.2.1, ck_kRX8.2.2, rfl, by decide, ck_at (x := (9, 144)) rfl rfl⟩
theorem ck_qLo_bitCount : ck_mp q_Lo_bitCount := ⟨ck_kRJ13.1, ck_kRJ13.2.1, ck_kRJ13.2.2, rfl, by decide, ck_at (x := (4, 168)) rfl rfl⟩
theorem ck_qIn_bitCount : ck_mp q_In_bitCount := ⟨ck_kRJ6.1, ck_kRJ6.2.1, ck_kRJ6.2.2, rfl, by decide, ck_at (x := (5, 126)) rfl rfl⟩
theorem ck_qAr_rangeCheck : ck_mp q_Ar_rangeCheck := ⟨ck_kRJ7.1, ck_kRJ7.2.1, ck_kRJ7.2.2, rfl, by decide, ck_at (x := (3, 35)) rfl rfl⟩
theorem ck_qAr_fillL : ck_mp q_Ar_fillL := ⟨ck_kRJ7.1, ck_kRJ7.2.1, ck_kRJ7.2.2, rfl, by decide, ck_at (x := (3, 24)) rfl rfl⟩
theorem ck_qAr_fillI : ck_mp q_Ar_fillI := ⟨ck_kRJ7.1, ck_kRJ7.2.1, ck_kRJ7.2.2, rfl, by decide, ck_at (x := (1, 71)) rfl rfl⟩
theorem ck_qAr_fillR : ck_mp q_Ar_fillR := ⟨ck_kRJ7.1, ck_kRJ7.2.1, ck_kRJ7.2.2, rfl, by decide, ck_at (x := (3, 32)) rfl rfl⟩
theorem ck_qLw_text : ck_mp q_Lw_text := ⟨ck_kRL.1, ck_kRL.2.1, ck_kRL.2.2, rfl, by decide, ck_at (x := (4, 183)) rfl rfl⟩
theorem ck_qLw_turn : ck_mp q_Lw_turn := ⟨ck_kRL.1, ck_kRL.2.1, ck_kRL.2.2, rfl, by decide, ck_at (x := (5, 74)) rfl rfl⟩
theorem ck_qLw_told : ck_mp q_Lw_told := ⟨ck_kRL.1, ck_kRL.2.1, ck_kRL.2.2, rfl, by decide, ck_at (x := (5, 111)) rfl rfl⟩
theorem ck_qLw_axiom : ck_mp q_Lw_axiom := ⟨ck_kRL.1, ck_kRL.2.1, ck_kRL.2.2, rfl, by decide, ck_at (x := (5, 132)) rfl rfl⟩
theorem ck_qLw_part : ck_mp q_Lw_part := ⟨ck_kRL.1, ck_kRL.2.1, ck_kRL.2.2, rfl, by decide, ck_at (x := (5, 139)) rfl rfl⟩
theorem ck_qLw_letter : ck_mp q_Lw_letter := ⟨ck_kRL.1, ck_kRL.2.1, ck_kRL.2.2, rfl, by decide, ck_at (x := (5, 150)) rfl rfl⟩
theorem ck_qLw_named : ck_mp q_Lw_named := ⟨ck_kRL.1, ck_kRL.2.1, ck_kRL.2.2, rfl, by decide, ck_at (x := (5, 161)) rfl rfl⟩
theorem ck_qLw_below : ck_mp q_Lw_below := ⟨ck_kRL.1, ck_kRL.2.1, ck_kRL.2.2, rfl, by decide, ck_at (x := (5, 172)) rfl rfl⟩
theorem ck_qLw_when : ck_mp q_Lw_when := ⟨ck_kRL.1, ck_kRL.2.1, ck_kRL.2.2, rfl, by decide, ck_at (x := (5, 180)) rfl rfl⟩
theorem ck_qLw_why : ck_mp q_Lw_why := ⟨ck_kRL.1, ck_kRL.2.1, ck_kRL.2.2, rfl, by decide, ck_at (x := (5, 187)) rfl rfl⟩
theorem ck_qLw_link : ck_mp q_Lw_link := ⟨ck_kRL.1, ck_kRL.2.1, ck_kRL.2.2, rfl, by decide, ck_at (x := (5, 219)) rfl rfl⟩
theorem ck_qLw_under : ck_mp q_Lw_under := ⟨ck_kRL.1, ck_kRL.2.1, ck_kRL.2.2, rfl, by decide, ck_at (x := (5, 230)) rfl rfl⟩
theorem ck_qLw_node : ck_mp q_Lw_node := ⟨ck_kRL.1, ck_kRL.2.1, ck_kRL.2.2, rfl, by decide, ck_at (x := (5, 237)) rfl rfl⟩
theorem ck_qLw_nodeOf : ck_mp q_Lw_nodeOf := ⟨ck_kRL.1, ck_kRL.2.1, ck_kRL.2.2, rfl, by decide, ck_at (x := (6, 4)) rfl rfl⟩
theorem ck_qLw_common : ck_mp q_Lw_common := ⟨ck_kRL.1, ck_kRL.2.1, ck_kRL.2.2, rfl, by decide, ck_at (x := (6, 24)) rfl rfl⟩
theorem ck_qLw_needed : ck_mp q_Lw_needed := ⟨ck_kRL.1, ck_kRL.2.1, ck_kRL.2.2, rfl, by decide, ck_at (x := (6, 60)) rfl rfl⟩
theorem ck_qLw_enough : ck_mp q_Lw_enough := ⟨ck_kRL.1, ck_kRL.2.1, ck_kRL.2.2, rfl, by decide, ck_at (x := (6, 108)) rfl rfl⟩
theorem ck_qLw_reason : ck_mp q_Lw_reason := ⟨ck_kRL.1, ck_kRL.2.1, ck_kRL.2.2, rfl, by decide, ck_at (x := (6, 120)) rfl rfl⟩
theorem ck_qLw_repair : ck_mp q_Lw_repair := ⟨ck_kRL.1, ck_kRL.2.1, ck_kRL.2.2, rfl, by decide, ck_at (x := (6, 145)) rfl rfl⟩
theorem ck_qLw_likeness : ck_mp q_Lw_likeness := ⟨ck_kRL.1, ck_kRL.2.1, ck_kRL.2.2, rfl, by decide, ck_at (x := (6, 161)) rfl rfl⟩
theorem ck_qLw_atom : ck_mp q_Lw_atom := ⟨ck_kRL.1, ck_kRL.2.1, ck_kRL.2.2, rfl, by decide, ck_at (x := (6, 175)) rfl rfl⟩
theorem ck_qLw_depends : ck_mp q_Lw_depends := ⟨ck_kRL.1, ck_kRL.2.1, ck_kRL.2.2, rfl, by decide, ck_at (x := (6, 206)) rfl rfl⟩
theorem ck_qLw_module : ck_mp q_Lw_module := ⟨ck_kRL.1, ck_kRL.2.1, ck_kRL.2.2, rfl, by decide, ck_at (x := (6, 213)) rfl rfl⟩
theorem ck_qLw_ask : ck_mp q_Lw_ask := ⟨ck_kRL.1, ck_kRL.2.1, ck_kRL.2.2, rfl, by decide, ck_at (x := (6, 225)) rfl rfl⟩
theorem ck_qLw_of : ck_mp q_Lw_of := ⟨ck_kRL.1, ck_kRL.2.1, ck_kRL.2.2, rfl, by decide, ck_at (x := (7, 1)) rfl rfl⟩
theorem ck_qLw_model : ck_mp q_Lw_model := ⟨ck_kRL.1, ck_kRL.2.1, ck_kRL.2.2, rfl, by decide, ck_at (x := (7, 26)) rfl rfl⟩
theorem ck_leafx {α : Type} {P : α → Prop} {k j : Nat} {x : α} (h : k ≠ j) : ∀ y, (bif Nat.beq k j then some x else none) = some y → P y := by
  intro y e
  cases hb : Nat.beq k j with
  | true => exact absurd (Nat.eq_of_beq_eq_true hb) h
  | false => rw [hb] at e; cases e
theorem ck_mq : ∀ a z, a ≠ 288 → am_MI a = some z → ck_mp z := by
  intro a
  unfold am_MI
  intro z ha
  revert z
  exact (ck_node (ck_node (ck_node (ck_node (ck_node (ck_node (ck_node (ck_node (ck_leaf ck_qWo_init) (ck_leaf ck_qWo_letterAt)) (ck_node (ck_leaf ck_qWo_find) (ck_leaf ck_qWo_add))) (ck_node (ck_node (ck_leaf ck_qOn_init) (ck_leaf ck_qOn_clear)) (ck_node (ck_leaf ck_qOn_allParts) (ck_node (ck_leaf ck_qOn_intern) (ck_leaf ck_qOn_addConceptAxiom))))) (ck_node (ck_node (ck_node (ck_leaf ck_qOn_addRoleAxiom) (ck_leaf ck_qOn_addAxiom)) (ck_node (ck_leaf ck_qRe_init) (ck_leaf ck_qRe_open))) (ck_node (ck_node (ck_leaf ck_qRe_readAxioms) (ck_leaf ck_qRe_readQuestion)) (ck_node (ck_leaf ck_qRe_readSingle) (ck_node (ck_leaf ck_qRe_readConceptAxiom) (ck_leaf ck_qRe_readRoleAxiom)))))) (ck_node (ck_node (ck_node (ck_node (ck_leaf ck_qRe_readConcept) (ck_leaf ck_qRe_openBracket)) (ck_node (ck_leaf ck_qRe_pushFrame) (ck_leaf ck_qRe_closeFrames))) (ck_node (ck_node (ck_leaf ck_qRe_readPlain) (ck_leaf ck_qRe_readRole)) (ck_node (ck_leaf ck_qRe_numberOfWord) (ck_node (ck_leaf ck_qRe_build) (ck_leaf ck_qRe_failIfTooManyParts))))) (ck_node (ck_node (ck_node (ck_leaf ck_qRe_expect) (ck_leaf ck_qRe_fail)) (ck_node (ck_leaf ck_qRe_canBegin) (ck_leaf ck_qRe_roleSignFollows))) (ck_node (ck_node (ck_leaf ck_qRe_isSign) (ck_leaf ck_qRe_behindBlanks)) (ck_node (ck_leaf ck_qRe_step) (ck_node (ck_leaf ck_qRe_kindOfWord) (ck_leaf ck_qRe_kindOfSign))))))) (ck_node (ck_node (ck_node (ck_node (ck_node (ck_leaf ck_qSa_init) (ck_leaf ck_qSa_begin)) (ck_node (ck_leaf ck_qSa_sortAxioms) (ck_leaf ck_qSa_addStep))) (ck_node (ck_node (ck_leaf ck_qSa_spreadUnder) (ck_leaf ck_qSa_activate)) (ck_node (ck_leaf ck_qSa_isVoid) (ck_node (ck_leaf ck_qSa_isBelow) (ck_leaf ck_qSa_linksFrom))))) (ck_node (ck_node (ck_node (ck_leaf ck_qSa_deriveAll) (ck_leaf ck_qSa_commitAll)) (ck_node (ck_leaf ck_qSa_saturate) (ck_leaf ck_qSa_entails))) (ck_node (ck_node (ck_leaf ck_qSa_sweep) (ck_leaf ck_qSa_usedAxioms)) (ck_node (ck_leaf ck_qSa_isUsed) (ck_node (ck_leaf ck_qSa_derive) (ck_leaf ck_qSa_byAxioms)))))) (ck_node (ck_node (ck_node (ck_node (ck_leaf ck_qSa_byParts) (ck_leaf ck_qSa_byChains)) (ck_node (ck_leaf ck_qSa_commit) (ck_leaf ck_qSa_spreadReach))) (ck_node (ck_node (ck_leaf ck_qSa_ruleFor) (ck_leaf ck_qSa_witnessOf)) (ck_node (ck_leaf ck_qSa_joins) (ck_node (ck_leaf ck_qSa_leastAxiom) (ck_leaf ck_qSa_leastAnd))))) (ck_node (ck_node (ck_node (ck_leaf ck_qSa_leastPart) (ck_leaf ck_qHi_init)) (ck_node (ck_leaf ck_qHi_build) (ck_leaf ck_qHi_place))) (ck_node (ck_node (ck_leaf ck_qHi_layParents) (ck_leaf ck_qHi_childrenOf)) (ck_node (ck_leaf ck_qHi_allUnder) (ck_node (ck_leaf ck_qHi_depth) (ck_leaf ck_qHi_commonOf)))))))) (ck_node (ck_node (ck_node (ck_node (ck_node (ck_node (ck_leaf ck_qHi_nodesOver) (ck_leaf ck_qRs_init)) (ck_node (ck_leaf ck_qRs_forget) (ck_leaf ck_qRs_aim))) (ck_node (ck_node (ck_leaf ck_qRs_holds) (ck_leaf ck_qRs_neededAlone)) (ck_node (ck_leaf ck_qRs_shrink) (ck_node (ck_leaf ck_qRs_findAll) (ck_leaf ck_qRs_freeing))))) (ck_node (ck_node (ck_node (ck_leaf ck_qRs_hasIdle) (ck_leaf ck_qRs_sortFound)) (ck_node (ck_leaf ck_qRs_leastCut) (ck_leaf ck_qRs_cutOf))) (ck_node (ck_node (ck_leaf ck_qMo_init) (ck_leaf ck_qMo_ofAxiom)) (ck_node (ck_leaf ck_qMo_inTurn) (ck_node (ck_leaf ck_qMo_cut) (ck_leaf ck_qMo_mark)))))) (ck_node (ck_node (ck_node (ck_node (ck_leaf ck_qMo_isMarked) (ck_leaf ck_qMo_isIdle)) (ck_node (ck_leaf ck_qMo_isIdleBelow) (ck_leaf ck_qLc_init))) (ck_node (ck_node (ck_leaf ck_qLc_feed) (ck_leaf ck_qLc_text)) (ck_node (ck_leaf ck_qLc_fault) (ck_node (ck_leaf ck_qLc_turn) (ck_leaf ck_qLc_undo))))) (ck_node (ck_node (ck_node (ck_leaf ck_qLc_told) (ck_leaf ck_qLc_axiom)) (ck_node (ck_leaf ck_qLc_part) (ck_leaf ck_qLc_letter))) (ck_node (ck_node (ck_leaf ck_qLc_named) (ck_leaf ck_qLc_below)) (ck_node (ck_leaf ck_qLc_when) (ck_node (ck_leaf ck_qLc_why) (ck_leaf ck_qLc_link))))))) (ck_node (ck_node (ck_node (ck_node (ck_node (ck_leaf ck_qLc_under) (ck_leaf ck_qLc_node)) (ck_node (ck_leaf ck_qLc_nodeOf) (ck_leaf ck_qLc_nothing))) (ck_node (ck_node (ck_leaf ck_qLc_common) (ck_leaf ck_qLc_needed)) (ck_node (ck_leaf ck_qLc_enough) (ck_node (ck_leaf ck_qLc_reason) (ck_leaf ck_qLc_repair))))) (ck_node (ck_node (ck_node (ck_leaf ck_qLc_likeness) (ck_leaf ck_qLc_atom)) (ck_node (ck_leaf ck_qLc_depends) (ck_leaf ck_qLc_module))) (ck_node (ck_node (ck_leaf ck_qLc_ask) (ck_leaf ck_qLc_of)) (ck_node (ck_leaf ck_qLc_model) (ck_node (ck_leaf ck_qLc_print) (ck_leaf ck_qLc_status)))))) (ck_node (ck_node (ck_node (ck_node (ck_leaf ck_qLc_putBytes) (ck_leaf ck_qLc_refuseNoSuch)) (ck_node (ck_leaf ck_qLc_refuseArgument) (ck_leaf ck_qLc_refuseState))) (ck_node (ck_node (ck_leaf ck_qLc_needBytes) (ck_leaf ck_qLc_needWhat)) (ck_node (ck_leaf ck_qLc_needAxiom) (ck_node (ck_leaf ck_qLc_needPart) (ck_leaf ck_qLc_needName))))) (ck_node (ck_node (ck_node (ck_leaf ck_qLc_needRole) (ck_leaf ck_qLc_isOn)) (ck_node (ck_leaf ck_qLc_unsettle) (ck_leaf ck_qLc_settle))) (ck_node (ck_node (ck_leaf ck_qLc_noteRound) (ck_leaf ck_qLc_toldOfSettled)) (ck_node (ck_leaf ck_qLc_aimReasons) (ck_node (ck_leaf ck_qLc_readOneConcept) (ck_leaf ck_qLc_takeQuestion))))))))) (ck_node (ck_node (ck_node (ck_node (ck_node (ck_node (ck_node (ck_leaf ck_qLc_answerOf) (ck_leaf ck_qLc_namesOver)) (ck_node (ck_leaf ck_qLc_namesUnder) (ck_leaf ck_qLc_extentOf))) (ck_node (ck_node (ck_leaf ck_qLc_extentOfOne) (ck_leaf ck_qLc_inLowestTerms)) (ck_node (ck_leaf ck_qRf_init) (ck_node (ck_leaf ck_qRf_begins) (ck_leaf ck_qRf_lays))))) (ck_node (ck_node (ck_node (ck_leaf ck_qRf_kindOf) (ck_leaf ck_qRf_oneOf)) (ck_node (ck_leaf ck_qRf_otherOf) (ck_leaf ck_qRf_axiomOf))) (ck_node (ck_node (ck_leaf ck_qRf_thrown) (ck_leaf ck_qRf_bad)) (ck_node (ck_leaf ck_qRf_in) (ck_node (ck_leaf ck_qRf_less) (ck_leaf ck_qRf_more)))))) (ck_node (ck_node (ck_node (ck_node (ck_leaf ck_qRf_has) (ck_leaf ck_qRf_bits)) (ck_node (ck_leaf ck_qRf_feed) (ck_leaf ck_qRf_byteAt))) (ck_node (ck_node (ck_leaf ck_qRf_here) (ck_leaf ck_qRf_fine)) (ck_node (ck_leaf ck_qRf_wrong) (ck_node (ck_leaf ck_qRf_isSmall) (ck_leaf ck_qRf_letters))))) (ck_node (ck_node (ck_node (ck_leaf ck_qRf_isWord) (ck_leaf ck_qRf_isOwn)) (ck_node (ck_leaf ck_qRf_takesSign) (ck_leaf ck_qRf_isTwice))) (ck_node (ck_node (ck_leaf ck_qRf_numbered) (ck_leaf ck_qRf_nameHere)) (ck_node (ck_leaf ck_qRf_roleHere) (ck_node (ck_leaf ck_qRf_partOf) (ck_leaf ck_qRf_atom))))))) (ck_node (ck_node (ck_node (ck_node (ck_node (ck_leaf ck_qRf_concept) (ck_leaf ck_qRf_isOfRoles)) (ck_node (ck_leaf ck_qRf_adds) (ck_leaf ck_qRf_ofRoles))) (ck_node (ck_node (ck_leaf ck_qRf_ends) (ck_leaf ck_qRf_ofConcepts)) (ck_node (ck_leaf ck_qRf_opens) (ck_node (ck_leaf ck_qRf_copies) (ck_leaf ck_qRf_text))))) (ck_node (ck_node (ck_node (ck_leaf ck_qRf_fault) (ck_leaf ck_qRf_laysUnder)) (ck_node (ck_leaf ck_qRf_beginsRounds) (ck_leaf ck_qRf_byOwn))) (ck_node (ck_node (ck_leaf ck_qRf_laysSome) (ck_leaf ck_qRf_byLink)) (ck_node (ck_leaf ck_qRf_laysWider) (ck_node (ck_leaf ck_qRf_goesRound) (ck_leaf ck_qRf_goesAll)))))) (ck_node (ck_node (ck_node (ck_node (ck_leaf ck_qRf_notesWhen) (ck_leaf ck_qRf_classifies)) (ck_node (ck_leaf ck_qRf_isBelow) (ck_leaf ck_qRf_isVoid))) (ck_node (ck_node (ck_leaf ck_qRf_namePart) (ck_leaf ck_qRf_laysNodes)) (ck_node (ck_leaf ck_qRf_turn) (ck_node (ck_leaf ck_qRf_alters) (ck_leaf ck_qRf_undo))))) (ck_node (ck_node (ck_node (ck_leaf ck_qRf_told) (ck_leaf ck_qRf_voids)) (ck_node (ck_leaf ck_qRf_axiom) (ck_leaf ck_qRf_isPart))) (ck_node (ck_node (ck_leaf ck_qRf_isName) (ck_leaf ck_qRf_part)) (ck_node (ck_leaf ck_qRf_letter) (ck_node (ck_leaf ck_qRf_named) (ck_leaf ck_qRf_below)))))))) (ck_node (ck_node (ck_node (ck_node (ck_node (ck_node (ck_leaf ck_qRf_when) (ck_leaf ck_qRf_why)) (ck_node (ck_leaf ck_qRf_ruleOf) (ck_leaf ck_qRf_goesBy))) (ck_node (ck_node (ck_leaf ck_qRf_isLinked) (ck_leaf ck_qRf_link)) (ck_node (ck_leaf ck_qRf_under) (ck_node (ck_leaf ck_qRf_node) (ck_leaf ck_qRf_nodeOf))))) (ck_node (ck_node (ck_node (ck_leaf ck_qRf_nothing) (ck_leaf ck_qRf_common)) (ck_node (ck_leaf ck_qRf_aboveAll) (ck_leaf ck_qRf_isSo))) (ck_node (ck_node (ck_leaf ck_qRf_needed) (ck_leaf ck_qRf_leaves)) (ck_node (ck_leaf ck_qRf_enough) (ck_node (ck_leaf ck_qRf_reasonWithout) (ck_leaf ck_qRf_finds)))))) (ck_node (ck_node (ck_node (ck_node (ck_leaf ck_qRf_laysReasons) (ck_leaf ck_qRf_reason)) (ck_node (ck_leaf ck_qRf_repairs) (ck_leaf ck_qRf_repair))) (ck_node (ck_node (ck_leaf ck_qRf_divisor) (ck_leaf ck_qRf_likeness)) (ck_node (ck_leaf ck_qRf_laysSigns) (ck_node (ck_leaf ck_qRf_namesIn) (ck_leaf ck_qRf_rolesIn))))) (ck_node (ck_node (ck_node (ck_leaf ck_qRf_laysLost) (ck_leaf ck_qRf_isIdle)) (ck_node (ck_leaf ck_qRf_moduleOf) (ck_leaf ck_qRf_module))) (ck_node (ck_node (ck_leaf ck_qRf_ownModule) (ck_leaf ck_qRf_atom_1)) (ck_node (ck_leaf ck_qRf_depends) (ck_node (ck_leaf ck_qRf_reads) (ck_leaf ck_qRf_ask))))))) (ck_node (ck_node (ck_node (ck_node (ck_node (ck_leaf ck_qRf_of) (ck_leaf ck_qRf_model)) (ck_node (ck_leaf ck_qRf_print) (ck_leaf ck_qRf_status))) (ck_node (ck_node (ck_leaf ck_qLo_bitCount) (ck_leaf ck_qIn_bitCount)) (ck_node (ck_leaf ck_qAr_rangeCheck) (ck_node (ck_leaf ck_qAr_fillL) (ck_leaf ck_qAr_fillI))))) (ck_node (ck_node (ck_node (ck_leaf ck_qAr_fillR) (ck_leaf ck_qLw_text)) (ck_node (ck_leaf ck_qLw_turn) (ck_leaf ck_qLw_told))) (ck_node (ck_node (ck_leaf ck_qLw_axiom) (ck_leaf ck_qLw_part)) (ck_node (ck_leaf ck_qLw_letter) (ck_node (ck_leaf ck_qLw_named) (ck_leaf ck_qLw_below)))))) (ck_node (ck_node (ck_node (ck_node (ck_leaf ck_qLw_when) (ck_leaf ck_qLw_why)) (ck_node (ck_leaf ck_qLw_link) (ck_leaf ck_qLw_under))) (ck_node (ck_node (ck_leaf ck_qLw_node) (ck_leaf ck_qLw_nodeOf)) (ck_node (ck_leaf ck_qLw_common) (ck_node (ck_leaf ck_qLw_needed) (ck_leaf ck_qLw_enough))))) (ck_node (ck_node (ck_node (ck_leaf ck_qLw_reason) (ck_leaf ck_qLw_repair)) (ck_node (ck_leaf ck_qLw_likeness) (ck_node (ck_leaf ck_qLw_atom) (ck_leaf ck_qLw_depends)))) (ck_node (ck_node (ck_leaf ck_qLw_module) (ck_leaf ck_qLw_ask)) (ck_node (ck_leaf ck_qLw_of) (ck_node (ck_leaf ck_qLw_model) (ck_leafx ha))))))))))
