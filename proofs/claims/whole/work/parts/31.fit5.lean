set_option maxRecDepth 100000
theorem ck_nLw_text : ck_one m_Lw_text q_Lw_text := ⟨ck_kRL.1, rfl, Nat.le_refl _, ck_tab_ok (f := ck_mRL) (tw := none) (q := q_Lw_text) (t := t_Lw_text) (len := 17) ck_oRL (fun x h => by cases h) (by decide +kernel), (ck_tb_ok _ _ [(4, 184)] (by decide +kernel))⟩
theorem ck_nLw_turn : ck_one m_Lw_turn q_Lw_turn := ⟨ck_kRL.1, rfl, Nat.le_refl _, ck_tab_ok (f := ck_mRL) (tw := none) (q := q_Lw_turn) (t := t_Lw_turn) (len := 17) ck_oRL (fun x h => by cases h) (by decide +kernel), (ck_tb_ok _ _ [(5, 75)] (by decide +kernel))⟩
theorem ck_nLw_told : ck_one m_Lw_told q_Lw_told := ⟨ck_kRL.1, rfl, Nat.le_refl _, ck_tab_ok (f := ck_mRL) (tw := none) (q := q_Lw_told) (t := t_Lw_told) (len := 17) ck_oRL (fun x h => by cases h) (by decide +kernel), (ck_tb_ok _ _ [(4, 184)] (by decide +kernel))⟩
theorem ck_nLw_axiom : ck_one m_Lw_axiom q_Lw_axiom := ⟨ck_kRL.1, rfl, Nat.le_refl _, ck_tab_ok (f := ck_mRL) (tw := none) (q := q_Lw_axiom) (t := t_Lw_axiom) (len := 23) ck_oRL (fun x h => by cases h) (by decide +kernel), (ck_tb_ok _ _ [(5, 75), (4, 184)] (by decide +kernel))⟩
theorem ck_nLw_part : ck_one m_Lw_part q_Lw_part := ⟨ck_kRL.1, rfl, Nat.le_refl _, ck_tab_ok (f := ck_mRL) (tw := none) (q := q_Lw_part) (t := t_Lw_part) (len := 23) ck_oRL (fun x h => by cases h) (by decide +kernel), (ck_tb_ok _ _ [(5, 75), (4, 184)] (by decide +kernel))⟩
theorem ck_nLw_letter : ck_one m_Lw_letter q_Lw_letter := ⟨ck_kRL.1, rfl, Nat.le_refl _, ck_tab_ok (f := ck_mRL) (tw := none) (q := q_Lw_letter) (t := t_Lw_letter) (len := 21) ck_oRL (fun x h => by cases h) (by decide +kernel), (ck_tb_ok _ _ [(5, 75)] (by decide +kernel))⟩
theorem ck_nLw_named : ck_one m_Lw_named q_Lw_named := ⟨ck_kRL.1, rfl, Nat.le_refl _, ck_tab_ok (f := ck_mRL) (tw := none) (q := q_Lw_named) (t := t_Lw_named) (len := 17) ck_oRL (fun x h => by cases h) (by decide +kernel), (ck_tb_ok _ _ [(5, 75)] (by decide +kernel))⟩
theorem ck_nLw_below : ck_one m_Lw_below q_Lw_below := ⟨ck_kRL.1, rfl, Nat.le_refl _, ck_tab_ok (f := ck_mRL) (tw := none) (q := q_Lw_below) (t := t_Lw_below) (len := 26) ck_oRL (fun x h => by cases h) (by decide +kernel), (ck_tb_ok _ _ [(5, 75)] (by decide +kernel))⟩
theorem ck_nLw_when : ck_one m_Lw_when q_Lw_when := ⟨ck_kRL.1, rfl, Nat.le_refl _, ck_tab_ok (f := ck_mRL) (tw := none) (q := q_Lw_when) (t := t_Lw_when) (len := 19) ck_oRL (fun x h => by cases h) (by decide +kernel), (ck_tb_ok _ _ [(5, 75)] (by decide +kernel))⟩
theorem ck_nLw_why : ck_one m_Lw_why q_Lw_why := ⟨ck_kRL.1, rfl, Nat.le_refl _, ck_tab_ok (f := ck_mRL) (tw := none) (q := q_Lw_why) (t := t_Lw_why) (len := 25) ck_oRL (fun x h => by cases h) (by decide +kernel), (ck_tb_ok _ _ [(5, 75), (4, 184)] (by decide +kernel))⟩
theorem ck_nLw_link : ck_one m_Lw_link q_Lw_link := ⟨ck_kRL.1, rfl, Nat.le_refl _, ck_tab_ok (f := ck_mRL) (tw := none) (q := q_Lw_link) (t := t_Lw_link) (len := 28) ck_oRL (fun x h => by cases h) (by decide +kernel), (ck_tb_ok _ _ [(5, 75)] (by decide +kernel))⟩
theorem ck_nLw_under : ck_one m_Lw_under q_Lw_under := ⟨ck_kRL.1, rfl, Nat.le_refl _, ck_tab_ok (f := ck_mRL) (tw := none) (q := q_Lw_under) (t := t_Lw_under) (len := 17) ck_oRL (fun x h => by cases h) (by decide +kernel), (ck_tb_ok _ _ [(5, 75)] (by decide +kernel))⟩
theorem ck_nLw_node : ck_one m_Lw_node q_Lw_node := ⟨ck_kRL.1, rfl, Nat.le_refl _, ck_tab_ok (f := ck_mRL) (tw := none) (q := q_Lw_node) (t := t_Lw_node) (len := 17) ck_oRL (fun x h => by cases h) (by decide +kernel), (ck_tb_ok _ _ [(5, 75)] (by decide +kernel))⟩
theorem ck_nLw_nodeOf : ck_one m_Lw_nodeOf q_Lw_nodeOf := ⟨ck_kRL.1, rfl, Nat.le_refl _, ck_tab_ok (f := ck_mRL) (tw := none) (q := q_Lw_nodeOf) (t := t_Lw_nodeOf) (len := 23) ck_oRL (fun x h => by cases h) (by decide +kernel), (ck_tb_ok _ _ [(5, 75), (4, 184)] (by decide +kernel))⟩
theorem ck_nLw_common : ck_one m_Lw_common q_Lw_common := ⟨ck_kRL.1, rfl, Nat.le_refl _, ck_tab_ok (f := ck_mRL) (tw := none) (q := q_Lw_common) (t := t_Lw_common) (len := 23) ck_oRL (fun x h => by cases h) (by decide +kernel), (ck_tb_ok _ _ [(5, 75), (6, 25)] (by decide +kernel))⟩
theorem ck_nLw_needed : ck_one m_Lw_needed q_Lw_needed := ⟨ck_kRL.1, rfl, Nat.le_refl _, ck_tab_ok (f := ck_mRL) (tw := none) (q := q_Lw_needed) (t := t_Lw_needed) (len := 18) ck_oRL (fun x h => by cases h) (by decide +kernel), (ck_tb_ok _ _ [(5, 75)] (by decide +kernel))⟩
theorem ck_nLw_enough : ck_one m_Lw_enough q_Lw_enough := ⟨ck_kRL.1, rfl, Nat.le_refl _, ck_tab_ok (f := ck_mRL) (tw := none) (q := q_Lw_enough) (t := t_Lw_enough) (len := 18) ck_oRL (fun x h => by cases h) (by decide +kernel), (ck_tb_ok _ _ [(5, 75)] (by decide +kernel))⟩
theorem ck_nLw_reason : ck_one m_Lw_reason q_Lw_reason := ⟨ck_kRL.1, rfl, Nat.le_refl _, ck_tab_ok (f := ck_mRL) (tw := none) (q := q_Lw_reason) (t := t_Lw_reason) (len := 20) ck_oRL (fun x h => by cases h) (by decide +kernel), (ck_tb_ok _ _ [(5, 75)] (by decide +kernel))⟩
theorem ck_nLw_repair : ck_one m_Lw_repair q_Lw_repair := ⟨ck_kRL.1, rfl, Nat.le_refl _, ck_tab_ok (f := ck_mRL) (tw := none) (q := q_Lw_repair) (t := t_Lw_repair) (len := 18) ck_oRL (fun x h => by cases h) (by decide +kernel), (ck_tb_ok _ _ [(5, 75)] (by decide +kernel))⟩
theorem ck_nLw_likeness : ck_one m_Lw_likeness q_Lw_likeness := ⟨ck_kRL.1, rfl, Nat.le_refl _, ck_tab_ok (f := ck_mRL) (tw := none) (q := q_Lw_likeness) (t := t_Lw_likeness) (len := 25) ck_oRL (fun x h => by cases h) (by decide +kernel), (ck_tb_ok _ _ [(5, 75), (4, 184)] (by decide +kernel))⟩
theorem ck_nLw_atom : ck_one m_Lw_atom q_Lw_atom := ⟨ck_kRL.1, rfl, Nat.le_refl _, ck_tab_ok (f := ck_mRL) (tw := none) (q := q_Lw_atom) (t := t_Lw_atom) (len := 17) ck_oRL (fun x h => by cases h) (by decide +kernel), (ck_tb_ok _ _ [(5, 75)] (by decide +kernel))⟩
theorem ck_nLw_depends : ck_one m_Lw_depends q_Lw_depends := ⟨ck_kRL.1, rfl, Nat.le_refl _, ck_tab_ok (f := ck_mRL) (tw := none) (q := q_Lw_depends) (t := t_Lw_depends) (len := 16) ck_oRL (fun x h => by cases h) (by decide +kernel), (ck_tb_ok _ _ [(5, 75)] (by decide +kernel))⟩
theorem ck_nLw_module : ck_one m_Lw_module q_Lw_module := ⟨ck_kRL.1, rfl, Nat.le_refl _, ck_tab_ok (f := ck_mRL) (tw := none) (q := q_Lw_module) (t := t_Lw_module) (len := 20) ck_oRL (fun x h => by cases h) (by decide +kernel), (ck_tb_ok _ _ [(4, 184)] (by decide +kernel))⟩
theorem ck_nLw_ask : ck_one m_Lw_ask q_Lw_ask := ⟨ck_kRL.1, rfl, Nat.le_refl _, ck_tab_ok (f := ck_mRL) (tw := none) (q := q_Lw_ask) (t := t_Lw_ask) (len := 17) ck_oRL (fun x h => by cases h) (by decide +kernel), (ck_tb_ok _ _ [(4, 184)] (by decide +kernel))⟩
theorem ck_nLw_of : ck_one m_Lw_of q_Lw_of := ⟨ck_kRL.1, rfl, Nat.le_refl _, ck_tab_ok (f := ck_mRL) (tw := none) (q := q_Lw_of) (t := t_Lw_of) (len := 19) ck_oRL (fun x h => by cases h) (by decide +kernel), (ck_tb_ok _ _ [(4, 184)] (by decide +kernel))⟩
theorem ck_nLw_model : ck_one m_Lw_model q_Lw_model := ⟨ck_kRL.1, rfl, Nat.le_refl _, ck_tab_ok (f := ck_mRL) (tw := none) (q := q_Lw_model) (t := t_Lw_model) (len := 16) ck_oRL (fun x h => by cases h) (by decide +kernel), (ck_tb_ok _ _ [(4, 184)] (by decide +kernel))⟩
theorem ck_nLw_0 {P : Nat → Prop} : ∀ pc, pc < 0 → P pc := fun pc h => absurd h (Nat.not_lt_zero pc)
def ck_nLw_1 (f : ck_Fm) (tw : Option (Nat × Nat × Nat)) (q : sm_M) (t : Nat → Option am_E) (pc : Nat) : Bool := match t pc with
  | none => true
  | some (i, n, a, b, c, d, rt, v, sw) => decide (decode q.2.2.1 pc = .ok (i, n)) && (sm_sw i || Nat.beq n (sm_ilen i)) && ck_e f tw q pc i n a b c d rt v sw
theorem ck_nLw_2 {p : Nat → Bool} {a n : Nat} (h : ∀ pc, pc < a → p pc = true) (hn : (List.range n).all (fun j => p (a + j)) = true) : ∀ pc, pc < a + n → p pc = true := fun pc hp => by
  by_cases h1 : pc < a
  · exact h pc h1
  · have := ck_all hn (pc - a) (List.mem_range.mpr (by omega))
    rw [show a + (pc - a) = pc by omega] at this
    exact this
theorem ck_nLw_3 {f : ck_Fm} {tw : Option (Nat × Nat × Nat)} {q : sm_M} {t : Nat → Option am_E} {len : Nat} (h : ∀ pc, pc < len → ck_nLw_1 f tw q t pc = true) : ck_tab f tw q t len = true := List.all_eq_true.mpr (fun pc hp => h pc (List.mem_range.mp hp))
theorem ck_nLw_p0 : ∀ pc, pc < 60 → ck_nLw_1 ck_mRL none q_Lw_law t_Lw_law pc = true := ck_nLw_2 (a := 0) (n := 60) ck_nLw_0 (by decide +kernel)
theorem ck_nLw_p1 : ∀ pc, pc < 120 → ck_nLw_1 ck_mRL none q_Lw_law t_Lw_law pc = true := ck_nLw_2 (a := 60) (n := 60) ck_nLw_p0 (by decide +kernel)
theorem ck_nLw_p2 : ∀ pc, pc < 180 → ck_nLw_1 ck_mRL none q_Lw_law t_Lw_law pc = true := ck_nLw_2 (a := 120) (n := 60) ck_nLw_p1 (by decide +kernel)
theorem ck_nLw_p3 : ∀ pc, pc < 240 → ck_nLw_1 ck_mRL none q_Lw_law t_Lw_law pc = true := ck_nLw_2 (a := 180) (n := 60) ck_nLw_p2 (by decide +kernel)
theorem ck_nLw_p4 : ∀ pc, pc < 300 → ck_nLw_1 ck_mRL none q_Lw_law t_Lw_law pc = true := ck_nLw_2 (a := 240) (n := 60) ck_nLw_p3 (by decide +kernel)
theorem ck_nLw_p5 : ∀ pc, pc < 360 → ck_nLw_1 ck_mRL none q_Lw_law t_Lw_law pc = true := ck_nLw_2 (a := 300) (n := 60) ck_nLw_p4 (by decide +kernel)
theorem ck_nLw_p6 : ∀ pc, pc < 420 → ck_nLw_1 ck_mRL none q_Lw_law t_Lw_law pc = true := ck_nLw_2 (a := 360) (n := 60) ck_nLw_p5 (by decide +kernel)
theorem ck_nLw_p7 : ∀ pc, pc < 480 → ck_nLw_1 ck_mRL none q_Lw_law t_Lw_law pc = true := ck_nLw_2 (a := 420) (n := 60) ck_nLw_p6 (by decide +kernel)
theorem ck_nLw_p8 : ∀ pc, pc < 540 → ck_nLw_1 ck_mRL none q_Lw_law t_Lw_law pc = true := ck_nLw_2 (a := 480) (n := 60) ck_nLw_p7 (by decide +kernel)
theorem ck_nLw_p9 : ∀ pc, pc < 600 → ck_nLw_1 ck_mRL none q_Lw_law t_Lw_law pc = true := ck_nLw_2 (a := 540) (n := 60) ck_nLw_p8 (by decide +kernel)
theorem ck_nLw_p10 : ∀ pc, pc < 660 → ck_nLw_1 ck_mRL none q_Lw_law t_Lw_law pc = true := ck_nLw_2 (a := 600) (n := 60) ck_nLw_p9 (by decide +kernel)
theorem ck_nLw_p11 : ∀ pc, pc < 720 → ck_nLw_1 ck_mRL none q_Lw_law t_Lw_law pc = true := ck_nLw_2 (a := 660) (n := 60) ck_nLw_p10 (by decide +kernel)
theorem ck_nLw_p12 : ∀ pc, pc < 780 → ck_nLw_1 ck_mRL none q_Lw_law t_Lw_law pc = true := ck_nLw_2 (a := 720) (n := 60) ck_nLw_p11 (by decide +kernel)
theorem ck_nLw_p13 : ∀ pc, pc < 840 → ck_nLw_1 ck_mRL none q_Lw_law t_Lw_law pc = true := ck_nLw_2 (a := 780) (n := 60) ck_nLw_p12 (by decide +kernel)
theorem ck_nLw_p14 : ∀ pc, pc < 900 → ck_nLw_1 ck_mRL none q_Lw_law t_Lw_law pc = true := ck_nLw_2 (a := 840) (n := 60) ck_nLw_p13 (by decide +kernel)
theorem ck_nLw_p15 : ∀ pc, pc < 960 → ck_nLw_1 ck_mRL none q_Lw_law t_Lw_law pc = true := ck_nLw_2 (a := 900) (n := 60) ck_nLw_p14 (by decide +kernel)
theorem ck_nLw_p16 : ∀ pc, pc < 1020 → ck_nLw_1 ck_mRL none q_Lw_law t_Lw_law pc = true := ck_nLw_2 (a := 960) (n := 60) ck_nLw_p15 (by decide +kernel)
theorem ck_nLw_p17 : ∀ pc, pc < 1080 → ck_nLw_1 ck_mRL none q_Lw_law t_Lw_law pc = true := ck_nLw_2 (a := 1020) (n := 60) ck_nLw_p16 (by decide +kernel)
theorem ck_nLw_p18 : ∀ pc, pc < 1140 → ck_nLw_1 ck_mRL none q_Lw_law t_Lw_law pc = true := ck_nLw_2 (a := 1080) (n := 60) ck_nLw_p17 (by decide +kernel)
theorem ck_nLw_p19 : ∀ pc, pc < 1200 → ck_nLw_1 ck_mRL none q_Lw_law t_Lw_law pc = true := ck_nLw_2 (a := 1140) (n := 60) ck_nLw_p18 (by decide +kernel)
theorem ck_nLw_p20 : ∀ pc, pc < 1260 → ck_nLw_1 ck_mRL none q_Lw_law t_Lw_law pc = true := ck_nLw_2 (a := 1200) (n := 60) ck_nLw_p19 (by decide +kernel)
theorem ck_nLw_p21 : ∀ pc, pc < 1320 → ck_nLw_1 ck_mRL none q_Lw_law t_Lw_law pc = true := ck_nLw_2 (a := 1260) (n := 60) ck_nLw_p20 (by decide +kernel)
theorem ck_nLw_p22 : ∀ pc, pc < 1380 → ck_nLw_1 ck_mRL none q_Lw_law t_Lw_law pc = true := ck_nLw_2 (a := 1320) (n := 60) ck_nLw_p21 (by decide +kernel)
theorem ck_nLw_p23 : ∀ pc, pc < 1440 → ck_nLw_1 ck_mRL none q_Lw_law t_Lw_law pc = true := ck_nLw_2 (a := 1380) (n := 60) ck_nLw_p22 (by decide +kernel)
theorem ck_nLw_p24 : ∀ pc, pc < 1500 → ck_nLw_1 ck_mRL none q_Lw_law t_Lw_law pc = true := ck_nLw_2 (a := 1440) (n := 60) ck_nLw_p23 (by decide +kernel)
theorem ck_nLw_p25 : ∀ pc, pc < 1560 → ck_nLw_1 ck_mRL none q_Lw_law t_Lw_law pc = true := ck_nLw_2 (a := 1500) (n := 60) ck_nLw_p24 (by decide +kernel)
theorem ck_nLw_p26 : ∀ pc, pc < 1620 → ck_nLw_1 ck_mRL none q_Lw_law t_Lw_law pc = true := ck_nLw_2 (a := 1560) (n := 60) ck_nLw_p25 (by decide +kernel)
theorem ck_nLw_p27 : ∀ pc, pc < 1680 → ck_nLw_1 ck_mRL none q_Lw_law t_Lw_law pc = true := ck_nLw_2 (a := 1620) (n := 60) ck_nLw_p26 (by decide +kernel)
theorem ck_nLw_p28 : ∀ pc, pc < 1740 → ck_nLw_1 ck_mRL none q_Lw_law t_Lw_law pc = true := ck_nLw_2 (a := 1680) (n := 60) ck_nLw_p27 (by decide +kernel)
theorem ck_nLw_p29 : ∀ pc, pc < 1800 → ck_nLw_1 ck_mRL none q_Lw_law t_Lw_law pc = true := ck_nLw_2 (a := 1740) (n := 60) ck_nLw_p28 (by decide +kernel)
theorem ck_nLw_p30 : ∀ pc, pc < 1860 → ck_nLw_1 ck_mRL none q_Lw_law t_Lw_law pc = true := ck_nLw_2 (a := 1800) (n := 60) ck_nLw_p29 (by decide +kernel)
theorem ck_nLw_p31 : ∀ pc, pc < 1920 → ck_nLw_1 ck_mRL none q_Lw_law t_Lw_law pc = true := ck_nLw_2 (a := 1860) (n := 60) ck_nLw_p30 (by decide +kernel)
theorem ck_nLw_p32 : ∀ pc, pc < 1980 → ck_nLw_1 ck_mRL none q_Lw_law t_Lw_law pc = true := ck_nLw_2 (a := 1920) (n := 60) ck_nLw_p31 (by decide +kernel)
theorem ck_nLw_p33 : ∀ pc, pc < 2040 → ck_nLw_1 ck_mRL none q_Lw_law t_Lw_law pc = true := ck_nLw_2 (a := 1980) (n := 60) ck_nLw_p32 (by decide +kernel)
theorem ck_nLw_p34 : ∀ pc, pc < 2070 → ck_nLw_1 ck_mRL none q_Lw_law t_Lw_law pc = true := ck_nLw_2 (a := 2040) (n := 30) ck_nLw_p33 (by decide +kernel)
theorem ck_nLw_law : ck_one m_Lw_law q_Lw_law := ⟨(by decide +kernel), rfl, Nat.le_refl _, ck_tab_ok (f := ck_mRL) (tw := none) (q := q_Lw_law) (t := t_Lw_law) (len := 2070) ck_oRL (fun x h => by cases h) (ck_nLw_3 ck_nLw_p34), trivial⟩
