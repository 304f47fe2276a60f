/-! ===== equations of the law and its wrappers ===== -/
set_option maxRecDepth 100000 in
theorem e_Lw_text_v (d : Nat) (h h2 : am_H) (r0 : Nat) (i1 : Int32) (r2 : Nat) (v : Int32) (hc : f_Lc_text d h r0 i1 = some (.inr (some (.int v)), h2)) : f_Lw_text (d + 1) h r0 i1 r2 = am_ck h r0 7 (
    am_ar h2 10 r2 0 fun j_1 =>
    some (.inr (some (.int 0)), (am_sL h2 r2 j_1 (Int32.toInt64 v)))) := by
  refine (am_sem_seg (am_sm am_MT (d + 1)) m_Lw_text 16 0 [(0, .ref r0), (1, .int i1), (2, .ref r2)] [] h).trans ?_
  refine Eq.trans (b := am_ck h r0 7 (am_bk _ _ _ _ _ _ (am_sm am_MT (d + 1) 95 [.ref r0, .int i1] h))) rfl ?_
  have hc : am_sm am_MT (d + 1) 95 [.ref r0, .int i1] h = _ := hc
  rw [hc]
  rfl
set_option maxRecDepth 100000 in
theorem e_Lw_text_x1 (d : Nat) (h h2 : am_H) (r0 : Nat) (i1 : Int32) (r2 : Nat) (hc : f_Lc_text d h r0 i1 = some (.inl 1, h2)) : f_Lw_text (d + 1) h r0 i1 r2 = am_ck h r0 7 (f_Lw_text_13 (d + 1) h2) := by
  refine (am_sem_seg (am_sm am_MT (d + 1)) m_Lw_text 16 0 [(0, .ref r0), (1, .int i1), (2, .ref r2)] [] h).trans ?_
  refine Eq.trans (b := am_ck h r0 7 (am_bk _ _ _ _ _ _ (am_sm am_MT (d + 1) 95 [.ref r0, .int i1] h))) rfl ?_
  have hc : am_sm am_MT (d + 1) 95 [.ref r0, .int i1] h = _ := hc
  rw [hc]
  rfl
set_option maxRecDepth 100000 in
theorem e_Lw_text_13 (d : Nat) (h : am_H) : f_Lw_text_13 d h = (
    some (.inr (some (.int 1)), h)) := by
  refine (am_sem_seg (am_sm am_MT d) m_Lw_text 2 13 [] [] h).trans ?_
  rfl
set_option maxRecDepth 100000 in
theorem e_Lw_turn_v (d : Nat) (h h2 : am_H) (r0 : Nat) (i1 : Int32) (r2 : Nat) (v : Int32) (hc : f_Lc_turn d h r0 i1 = some (.inr (some (.int v)), h2)) : f_Lw_turn (d + 1) h r0 i1 r2 = am_ck h r0 7 (
    am_ar h2 10 r2 0 fun j_1 =>
    some (.inr (some (.int 0)), (am_sL h2 r2 j_1 (Int32.toInt64 v)))) := by
  refine (am_sem_seg (am_sm am_MT (d + 1)) m_Lw_turn 16 0 [(0, .ref r0), (1, .int i1), (2, .ref r2)] [] h).trans ?_
  refine Eq.trans (b := am_ck h r0 7 (am_bk _ _ _ _ _ _ (am_sm am_MT (d + 1) 97 [.ref r0, .int i1] h))) rfl ?_
  have hc : am_sm am_MT (d + 1) 97 [.ref r0, .int i1] h = _ := hc
  rw [hc]
  rfl
set_option maxRecDepth 100000 in
theorem e_Lw_turn_x0 (d : Nat) (h h2 : am_H) (r0 : Nat) (i1 : Int32) (r2 : Nat) (hc : f_Lc_turn d h r0 i1 = some (.inl 0, h2)) : f_Lw_turn (d + 1) h r0 i1 r2 = am_ck h r0 7 (f_Lw_turn_13 (d + 1) h2) := by
  refine (am_sem_seg (am_sm am_MT (d + 1)) m_Lw_turn 16 0 [(0, .ref r0), (1, .int i1), (2, .ref r2)] [] h).trans ?_
  refine Eq.trans (b := am_ck h r0 7 (am_bk _ _ _ _ _ _ (am_sm am_MT (d + 1) 97 [.ref r0, .int i1] h))) rfl ?_
  have hc : am_sm am_MT (d + 1) 97 [.ref r0, .int i1] h = _ := hc
  rw [hc]
  rfl
set_option maxRecDepth 100000 in
theorem e_Lw_turn_13 (d : Nat) (h : am_H) : f_Lw_turn_13 d h = (
    some (.inr (some (.int 1)), h)) := by
  refine (am_sem_seg (am_sm am_MT d) m_Lw_turn 2 13 [] [] h).trans ?_
  rfl
set_option maxRecDepth 100000 in
theorem e_Lw_told_v (d : Nat) (h h2 : am_H) (r0 : Nat) (i1 : Int32) (r2 : Nat) (v : Int32) (hc : f_Lc_told d h r0 i1 = some (.inr (some (.int v)), h2)) : f_Lw_told (d + 1) h r0 i1 r2 = am_ck h r0 7 (
    am_ar h2 10 r2 0 fun j_1 =>
    some (.inr (some (.int 0)), (am_sL h2 r2 j_1 (Int32.toInt64 v)))) := by
  refine (am_sem_seg (am_sm am_MT (d + 1)) m_Lw_told 16 0 [(0, .ref r0), (1, .int i1), (2, .ref r2)] [] h).trans ?_
  refine Eq.trans (b := am_ck h r0 7 (am_bk _ _ _ _ _ _ (am_sm am_MT (d + 1) 99 [.ref r0, .int i1] h))) rfl ?_
  have hc : am_sm am_MT (d + 1) 99 [.ref r0, .int i1] h = _ := hc
  rw [hc]
  rfl
set_option maxRecDepth 100000 in
theorem e_Lw_told_x1 (d : Nat) (h h2 : am_H) (r0 : Nat) (i1 : Int32) (r2 : Nat) (hc : f_Lc_told d h r0 i1 = some (.inl 1, h2)) : f_Lw_told (d + 1) h r0 i1 r2 = am_ck h r0 7 (f_Lw_told_13 (d + 1) h2) := by
  refine (am_sem_seg (am_sm am_MT (d + 1)) m_Lw_told 16 0 [(0, .ref r0), (1, .int i1), (2, .ref r2)] [] h).trans ?_
  refine Eq.trans (b := am_ck h r0 7 (am_bk _ _ _ _ _ _ (am_sm am_MT (d + 1) 99 [.ref r0, .int i1] h))) rfl ?_
  have hc : am_sm am_MT (d + 1) 99 [.ref r0, .int i1] h = _ := hc
  rw [hc]
  rfl
set_option maxRecDepth 100000 in
theorem e_Lw_told_13 (d : Nat) (h : am_H) : f_Lw_told_13 d h = (
    some (.inr (some (.int 1)), h)) := by
  refine (am_sem_seg (am_sm am_MT d) m_Lw_told 2 13 [] [] h).trans ?_
  rfl
set_option maxRecDepth 100000 in
theorem e_Lw_axiom_v (d : Nat) (h h2 : am_H) (r0 : Nat) (i1 : Int32) (i2 : Int32) (r3 : Nat) (v : Int32) (hc : f_Lc_axiom d h r0 i1 i2 = some (.inr (some (.int v)), h2)) : f_Lw_axiom (d + 1) h r0 i1 i2 r3 = am_ck h r0 7 (
    am_ar h2 10 r3 0 fun j_1 =>
    some (.inr (some (.int 0)), (am_sL h2 r3 j_1 (Int32.toInt64 v)))) := by
  refine (am_sem_seg (am_sm am_MT (d + 1)) m_Lw_axiom 17 0 [(0, .ref r0), (1, .int i1), (2, .int i2), (3, .ref r3)] [] h).trans ?_
  refine Eq.trans (b := am_ck h r0 7 (am_bk _ _ _ _ _ _ (am_sm am_MT (d + 1) 100 [.ref r0, .int i1, .int i2] h))) rfl ?_
  have hc : am_sm am_MT (d + 1) 100 [.ref r0, .int i1, .int i2] h = _ := hc
  rw [hc]
  rfl
set_option maxRecDepth 100000 in
theorem e_Lw_axiom_x0 (d : Nat) (h h2 : am_H) (r0 : Nat) (i1 : Int32) (i2 : Int32) (r3 : Nat) (hc : f_Lc_axiom d h r0 i1 i2 = some (.inl 0, h2)) : f_Lw_axiom (d + 1) h r0 i1 i2 r3 = am_ck h r0 7 (f_Lw_axiom_15 (d + 1) h2) := by
  refine (am_sem_seg (am_sm am_MT (d + 1)) m_Lw_axiom 17 0 [(0, .ref r0), (1, .int i1), (2, .int i2), (3, .ref r3)] [] h).trans ?_
  refine Eq.trans (b := am_ck h r0 7 (am_bk _ _ _ _ _ _ (am_sm am_MT (d + 1) 100 [.ref r0, .int i1, .int i2] h))) rfl ?_
  have hc : am_sm am_MT (d + 1) 100 [.ref r0, .int i1, .int i2] h = _ := hc
  rw [hc]
  rfl
set_option maxRecDepth 100000 in
theorem e_Lw_axiom_x1 (d : Nat) (h h2 : am_H) (r0 : Nat) (i1 : Int32) (i2 : Int32) (r3 : Nat) (hc : f_Lc_axiom d h r0 i1 i2 = some (.inl 1, h2)) : f_Lw_axiom (d + 1) h r0 i1 i2 r3 = am_ck h r0 7 (f_Lw_axiom_19 (d + 1) h2) := by
  refine (am_sem_seg (am_sm am_MT (d + 1)) m_Lw_axiom 17 0 [(0, .ref r0), (1, .int i1), (2, .int i2), (3, .ref r3)] [] h).trans ?_
  refine Eq.trans (b := am_ck h r0 7 (am_bk _ _ _ _ _ _ (am_sm am_MT (d + 1) 100 [.ref r0, .int i1, .int i2] h))) rfl ?_
  have hc : am_sm am_MT (d + 1) 100 [.ref r0, .int i1, .int i2] h = _ := hc
  rw [hc]
  rfl
set_option maxRecDepth 100000 in
theorem e_Lw_axiom_15 (d : Nat) (h : am_H) : f_Lw_axiom_15 d h = (
    some (.inr (some (.int 1)), h)) := by
  refine (am_sem_seg (am_sm am_MT d) m_Lw_axiom 2 15 [] [] h).trans ?_
  rfl
set_option maxRecDepth 100000 in
theorem e_Lw_axiom_19 (d : Nat) (h : am_H) : f_Lw_axiom_19 d h = (
    some (.inr (some (.int 2)), h)) := by
  refine (am_sem_seg (am_sm am_MT d) m_Lw_axiom 2 19 [] [] h).trans ?_
  rfl
set_option maxRecDepth 100000 in
theorem e_Lw_part_v (d : Nat) (h h2 : am_H) (r0 : Nat) (i1 : Int32) (i2 : Int32) (r3 : Nat) (v : Int32) (hc : f_Lc_part d h r0 i1 i2 = some (.inr (some (.int v)), h2)) : f_Lw_part (d + 1) h r0 i1 i2 r3 = am_ck h r0 7 (
    am_ar h2 10 r3 0 fun j_1 =>
    some (.inr (some (.int 0)), (am_sL h2 r3 j_1 (Int32.toInt64 v)))) := by
  refine (am_sem_seg (am_sm am_MT (d + 1)) m_Lw_part 17 0 [(0, .ref r0), (1, .int i1), (2, .int i2), (3, .ref r3)] [] h).trans ?_
  refine Eq.trans (b := am_ck h r0 7 (am_bk _ _ _ _ _ _ (am_sm am_MT (d + 1) 101 [.ref r0, .int i1, .int i2] h))) rfl ?_
  have hc : am_sm am_MT (d + 1) 101 [.ref r0, .int i1, .int i2] h = _ := hc
  rw [hc]
  rfl
set_option maxRecDepth 100000 in
theorem e_Lw_part_x0 (d : Nat) (h h2 : am_H) (r0 : Nat) (i1 : Int32) (i2 : Int32) (r3 : Nat) (hc : f_Lc_part d h r0 i1 i2 = some (.inl 0, h2)) : f_Lw_part (d + 1) h r0 i1 i2 r3 = am_ck h r0 7 (f_Lw_part_15 (d + 1) h2) := by
  refine (am_sem_seg (am_sm am_MT (d + 1)) m_Lw_part 17 0 [(0, .ref r0), (1, .int i1), (2, .int i2), (3, .ref r3)] [] h).trans ?_
  refine Eq.trans (b := am_ck h r0 7 (am_bk _ _ _ _ _ _ (am_sm am_MT (d + 1) 101 [.ref r0, .int i1, .int i2] h))) rfl ?_
  have hc : am_sm am_MT (d + 1) 101 [.ref r0, .int i1, .int i2] h = _ := hc
  rw [hc]
  rfl
set_option maxRecDepth 100000 in
theorem e_Lw_part_x1 (d : Nat) (h h2 : am_H) (r0 : Nat) (i1 : Int32) (i2 : Int32) (r3 : Nat) (hc : f_Lc_part d h r0 i1 i2 = some (.inl 1, h2)) : f_Lw_part (d + 1) h r0 i1 i2 r3 = am_ck h r0 7 (f_Lw_part_19 (d + 1) h2) := by
  refine (am_sem_seg (am_sm am_MT (d + 1)) m_Lw_part 17 0 [(0, .ref r0), (1, .int i1), (2, .int i2), (3, .ref r3)] [] h).trans ?_
  refine Eq.trans (b := am_ck h r0 7 (am_bk _ _ _ _ _ _ (am_sm am_MT (d + 1) 101 [.ref r0, .int i1, .int i2] h))) rfl ?_
  have hc : am_sm am_MT (d + 1) 101 [.ref r0, .int i1, .int i2] h = _ := hc
  rw [hc]
  rfl
set_option maxRecDepth 100000 in
theorem e_Lw_part_15 (d : Nat) (h : am_H) : f_Lw_part_15 d h = (
    some (.inr (some (.int 1)), h)) := by
  refine (am_sem_seg (am_sm am_MT d) m_Lw_part 2 15 [] [] h).trans ?_
  rfl
set_option maxRecDepth 100000 in
theorem e_Lw_part_19 (d : Nat) (h : am_H) : f_Lw_part_19 d h = (
    some (.inr (some (.int 2)), h)) := by
  refine (am_sem_seg (am_sm am_MT d) m_Lw_part 2 19 [] [] h).trans ?_
  rfl
set_option maxRecDepth 100000 in
theorem e_Lw_letter_v (d : Nat) (h h2 : am_H) (r0 : Nat) (i1 : Int32) (i2 : Int32) (i3 : Int32) (r4 : Nat) (v : Int32) (hc : f_Lc_letter d h r0 i1 i2 i3 = some (.inr (some (.int v)), h2)) : f_Lw_letter (d + 1) h r0 i1 i2 i3 r4 = am_ck h r0 7 (
    am_ar h2 10 r4 0 fun j_1 =>
    some (.inr (some (.int 0)), (am_sL h2 r4 j_1 (Int32.toInt64 v)))) := by
  refine (am_sem_seg (am_sm am_MT (d + 1)) m_Lw_letter 18 0 [(0, .ref r0), (1, .int i1), (2, .int i2), (3, .int i3), (4, .ref r4)] [] h).trans ?_
  refine Eq.trans (b := am_ck h r0 7 (am_bk _ _ _ _ _ _ (am_sm am_MT (d + 1) 102 [.ref r0, .int i1, .int i2, .int i3] h))) rfl ?_
  have hc : am_sm am_MT (d + 1) 102 [.ref r0, .int i1, .int i2, .int i3] h = _ := hc
  rw [hc]
  rfl
set_option maxRecDepth 100000 in
theorem e_Lw_letter_x0 (d : Nat) (h h2 : am_H) (r0 : Nat) (i1 : Int32) (i2 : Int32) (i3 : Int32) (r4 : Nat) (hc : f_Lc_letter d h r0 i1 i2 i3 = some (.inl 0, h2)) : f_Lw_letter (d + 1) h r0 i1 i2 i3 r4 = am_ck h r0 7 (f_Lw_letter_17 (d + 1) h2) := by
  refine (am_sem_seg (am_sm am_MT (d + 1)) m_Lw_letter 18 0 [(0, .ref r0), (1, .int i1), (2, .int i2), (3, .int i3), (4, .ref r4)] [] h).trans ?_
  refine Eq.trans (b := am_ck h r0 7 (am_bk _ _ _ _ _ _ (am_sm am_MT (d + 1) 102 [.ref r0, .int i1, .int i2, .int i3] h))) rfl ?_
  have hc : am_sm am_MT (d + 1) 102 [.ref r0, .int i1, .int i2, .int i3] h = _ := hc
  rw [hc]
  rfl
set_option maxRecDepth 100000 in
theorem e_Lw_letter_17 (d : Nat) (h : am_H) : f_Lw_letter_17 d h = (
    some (.inr (some (.int 1)), h)) := by
  refine (am_sem_seg (am_sm am_MT d) m_Lw_letter 2 17 [] [] h).trans ?_
  rfl
set_option maxRecDepth 100000 in
theorem e_Lw_named_v (d : Nat) (h h2 : am_H) (r0 : Nat) (i1 : Int32) (r2 : Nat) (v : Int32) (hc : f_Lc_named d h r0 i1 = some (.inr (some (.int v)), h2)) : f_Lw_named (d + 1) h r0 i1 r2 = am_ck h r0 7 (
    am_ar h2 10 r2 0 fun j_1 =>
    some (.inr (some (.int 0)), (am_sL h2 r2 j_1 (Int32.toInt64 v)))) := by
  refine (am_sem_seg (am_sm am_MT (d + 1)) m_Lw_named 16 0 [(0, .ref r0), (1, .int i1), (2, .ref r2)] [] h).trans ?_
  refine Eq.trans (b := am_ck h r0 7 (am_bk _ _ _ _ _ _ (am_sm am_MT (d + 1) 103 [.ref r0, .int i1] h))) rfl ?_
  have hc : am_sm am_MT (d + 1) 103 [.ref r0, .int i1] h = _ := hc
  rw [hc]
  rfl
set_option maxRecDepth 100000 in
theorem e_Lw_named_x0 (d : Nat) (h h2 : am_H) (r0 : Nat) (i1 : Int32) (r2 : Nat) (hc : f_Lc_named d h r0 i1 = some (.inl 0, h2)) : f_Lw_named (d + 1) h r0 i1 r2 = am_ck h r0 7 (f_Lw_named_13 (d + 1) h2) := by
  refine (am_sem_seg (am_sm am_MT (d + 1)) m_Lw_named 16 0 [(0, .ref r0), (1, .int i1), (2, .ref r2)] [] h).trans ?_
  refine Eq.trans (b := am_ck h r0 7 (am_bk _ _ _ _ _ _ (am_sm am_MT (d + 1) 103 [.ref r0, .int i1] h))) rfl ?_
  have hc : am_sm am_MT (d + 1) 103 [.ref r0, .int i1] h = _ := hc
  rw [hc]
  rfl
set_option maxRecDepth 100000 in
theorem e_Lw_named_13 (d : Nat) (h : am_H) : f_Lw_named_13 d h = (
    some (.inr (some (.int 1)), h)) := by
  refine (am_sem_seg (am_sm am_MT d) m_Lw_named 2 13 [] [] h).trans ?_
  rfl
set_option maxRecDepth 100000 in
theorem e_Lw_below_v (d : Nat) (h h2 : am_H) (r0 : Nat) (i1 : Int32) (i2 : Int32) (r3 : Nat) (v : Int32) (hc : f_Lc_below d h r0 i1 i2 = some (.inr (some (.int v)), h2)) : f_Lw_below (d + 1) h r0 i1 i2 r3 = am_ck h r0 7 (
    if v = 0 then
      am_ar h2 10 r3 0 fun j_1 =>
      some (.inr (some (.int 0)), (am_sL h2 r3 j_1 0))
    else
    am_ar h2 10 r3 0 fun j_2 =>
    some (.inr (some (.int 0)), (am_sL h2 r3 j_2 1))) := by
  refine (am_sem_seg (am_sm am_MT (d + 1)) m_Lw_below 19 0 [(0, .ref r0), (1, .int i1), (2, .int i2), (3, .ref r3)] [] h).trans ?_
  refine Eq.trans (b := am_ck h r0 7 (am_bk _ _ _ _ _ _ (am_sm am_MT (d + 1) 104 [.ref r0, .int i1, .int i2] h))) rfl ?_
  have hc : am_sm am_MT (d + 1) 104 [.ref r0, .int i1, .int i2] h = _ := hc
  rw [hc]
  rfl
set_option maxRecDepth 100000 in
theorem e_Lw_below_x0 (d : Nat) (h h2 : am_H) (r0 : Nat) (i1 : Int32) (i2 : Int32) (r3 : Nat) (hc : f_Lc_below d h r0 i1 i2 = some (.inl 0, h2)) : f_Lw_below (d + 1) h r0 i1 i2 r3 = am_ck h r0 7 (f_Lw_below_22 (d + 1) h2) := by
  refine (am_sem_seg (am_sm am_MT (d + 1)) m_Lw_below 19 0 [(0, .ref r0), (1, .int i1), (2, .int i2), (3, .ref r3)] [] h).trans ?_
  refine Eq.trans (b := am_ck h r0 7 (am_bk _ _ _ _ _ _ (am_sm am_MT (d + 1) 104 [.ref r0, .int i1, .int i2] h))) rfl ?_
  have hc : am_sm am_MT (d + 1) 104 [.ref r0, .int i1, .int i2] h = _ := hc
  rw [hc]
  rfl
set_option maxRecDepth 100000 in
theorem e_Lw_below_22 (d : Nat) (h : am_H) : f_Lw_below_22 d h = (
    some (.inr (some (.int 1)), h)) := by
  refine (am_sem_seg (am_sm am_MT d) m_Lw_below 2 22 [] [] h).trans ?_
  rfl
set_option maxRecDepth 100000 in
theorem e_Lw_when_v (d : Nat) (h h2 : am_H) (r0 : Nat) (i1 : Int32) (i2 : Int32) (r3 : Nat) (v : Int32) (hc : f_Lc_when d h r0 i1 i2 = some (.inr (some (.int v)), h2)) : f_Lw_when (d + 1) h r0 i1 i2 r3 = am_ck h r0 7 (
    am_ar h2 10 r3 0 fun j_1 =>
    some (.inr (some (.int 0)), (am_sL h2 r3 j_1 (Int32.toInt64 v)))) := by
  refine (am_sem_seg (am_sm am_MT (d + 1)) m_Lw_when 17 0 [(0, .ref r0), (1, .int i1), (2, .int i2), (3, .ref r3)] [] h).trans ?_
  refine Eq.trans (b := am_ck h r0 7 (am_bk _ _ _ _ _ _ (am_sm am_MT (d + 1) 105 [.ref r0, .int i1, .int i2] h))) rfl ?_
  have hc : am_sm am_MT (d + 1) 105 [.ref r0, .int i1, .int i2] h = _ := hc
  rw [hc]
  rfl
set_option maxRecDepth 100000 in
theorem e_Lw_when_x0 (d : Nat) (h h2 : am_H) (r0 : Nat) (i1 : Int32) (i2 : Int32) (r3 : Nat) (hc : f_Lc_when d h r0 i1 i2 = some (.inl 0, h2)) : f_Lw_when (d + 1) h r0 i1 i2 r3 = am_ck h r0 7 (f_Lw_when_15 (d + 1) h2) := by
  refine (am_sem_seg (am_sm am_MT (d + 1)) m_Lw_when 17 0 [(0, .ref r0), (1, .int i1), (2, .int i2), (3, .ref r3)] [] h).trans ?_
  refine Eq.trans (b := am_ck h r0 7 (am_bk _ _ _ _ _ _ (am_sm am_MT (d + 1) 105 [.ref r0, .int i1, .int i2] h))) rfl ?_
  have hc : am_sm am_MT (d + 1) 105 [.ref r0, .int i1, .int i2] h = _ := hc
  rw [hc]
  rfl
set_option maxRecDepth 100000 in
theorem e_Lw_when_15 (d : Nat) (h : am_H) : f_Lw_when_15 d h = (
    some (.inr (some (.int 1)), h)) := by
  refine (am_sem_seg (am_sm am_MT d) m_Lw_when 2 15 [] [] h).trans ?_
  rfl
set_option maxRecDepth 100000 in
theorem e_Lw_why_v (d : Nat) (h h2 : am_H) (r0 : Nat) (i1 : Int32) (i2 : Int32) (i3 : Int32) (r4 : Nat) (v : Int32) (hc : f_Lc_why d h r0 i1 i2 i3 = some (.inr (some (.int v)), h2)) : f_Lw_why (d + 1) h r0 i1 i2 i3 r4 = am_ck h r0 7 (
    am_ar h2 10 r4 0 fun j_1 =>
    some (.inr (some (.int 0)), (am_sL h2 r4 j_1 (Int32.toInt64 v)))) := by
  refine (am_sem_seg (am_sm am_MT (d + 1)) m_Lw_why 18 0 [(0, .ref r0), (1, .int i1), (2, .int i2), (3, .int i3), (4, .ref r4)] [] h).trans ?_
  refine Eq.trans (b := am_ck h r0 7 (am_bk _ _ _ _ _ _ (am_sm am_MT (d + 1) 106 [.ref r0, .int i1, .int i2, .int i3] h))) rfl ?_
  have hc : am_sm am_MT (d + 1) 106 [.ref r0, .int i1, .int i2, .int i3] h = _ := hc
  rw [hc]
  rfl
set_option maxRecDepth 100000 in
theorem e_Lw_why_x0 (d : Nat) (h h2 : am_H) (r0 : Nat) (i1 : Int32) (i2 : Int32) (i3 : Int32) (r4 : Nat) (hc : f_Lc_why d h r0 i1 i2 i3 = some (.inl 0, h2)) : f_Lw_why (d + 1) h r0 i1 i2 i3 r4 = am_ck h r0 7 (f_Lw_why_17 (d + 1) h2) := by
  refine (am_sem_seg (am_sm am_MT (d + 1)) m_Lw_why 18 0 [(0, .ref r0), (1, .int i1), (2, .int i2), (3, .int i3), (4, .ref r4)] [] h).trans ?_
  refine Eq.trans (b := am_ck h r0 7 (am_bk _ _ _ _ _ _ (am_sm am_MT (d + 1) 106 [.ref r0, .int i1, .int i2, .int i3] h))) rfl ?_
  have hc : am_sm am_MT (d + 1) 106 [.ref r0, .int i1, .int i2, .int i3] h = _ := hc
  rw [hc]
  rfl
set_option maxRecDepth 100000 in
theorem e_Lw_why_x1 (d : Nat) (h h2 : am_H) (r0 : Nat) (i1 : Int32) (i2 : Int32) (i3 : Int32) (r4 : Nat) (hc : f_Lc_why d h r0 i1 i2 i3 = some (.inl 1, h2)) : f_Lw_why (d + 1) h r0 i1 i2 i3 r4 = am_ck h r0 7 (f_Lw_why_21 (d + 1) h2) := by
  refine (am_sem_seg (am_sm am_MT (d + 1)) m_Lw_why 18 0 [(0, .ref r0), (1, .int i1), (2, .int i2), (3, .int i3), (4, .ref r4)] [] h).trans ?_
  refine Eq.trans (b := am_ck h r0 7 (am_bk _ _ _ _ _ _ (am_sm am_MT (d + 1) 106 [.ref r0, .int i1, .int i2, .int i3] h))) rfl ?_
  have hc : am_sm am_MT (d + 1) 106 [.ref r0, .int i1, .int i2, .int i3] h = _ := hc
  rw [hc]
  rfl
set_option maxRecDepth 100000 in
theorem e_Lw_why_17 (d : Nat) (h : am_H) : f_Lw_why_17 d h = (
    some (.inr (some (.int 1)), h)) := by
  refine (am_sem_seg (am_sm am_MT d) m_Lw_why 2 17 [] [] h).trans ?_
  rfl
set_option maxRecDepth 100000 in
theorem e_Lw_why_21 (d : Nat) (h : am_H) : f_Lw_why_21 d h = (
    some (.inr (some (.int 2)), h)) := by
  refine (am_sem_seg (am_sm am_MT d) m_Lw_why 2 21 [] [] h).trans ?_
  rfl
set_option maxRecDepth 100000 in
theorem e_Lw_link_v (d : Nat) (h h2 : am_H) (r0 : Nat) (i1 : Int32) (i2 : Int32) (i3 : Int32) (r4 : Nat) (v : Int32) (hc : f_Lc_link d h r0 i1 i2 i3 = some (.inr (some (.int v)), h2)) : f_Lw_link (d + 1) h r0 i1 i2 i3 r4 = am_ck h r0 7 (
    if v = 0 then
      am_ar h2 10 r4 0 fun j_1 =>
      some (.inr (some (.int 0)), (am_sL h2 r4 j_1 0))
    else
    am_ar h2 10 r4 0 fun j_2 =>
    some (.inr (some (.int 0)), (am_sL h2 r4 j_2 1))) := by
  refine (am_sem_seg (am_sm am_MT (d + 1)) m_Lw_link 20 0 [(0, .ref r0), (1, .int i1), (2, .int i2), (3, .int i3), (4, .ref r4)] [] h).trans ?_
  refine Eq.trans (b := am_ck h r0 7 (am_bk _ _ _ _ _ _ (am_sm am_MT (d + 1) 107 [.ref r0, .int i1, .int i2, .int i3] h))) rfl ?_
  have hc : am_sm am_MT (d + 1) 107 [.ref r0, .int i1, .int i2, .int i3] h = _ := hc
  rw [hc]
  rfl
set_option maxRecDepth 100000 in
theorem e_Lw_link_x0 (d : Nat) (h h2 : am_H) (r0 : Nat) (i1 : Int32) (i2 : Int32) (i3 : Int32) (r4 : Nat) (hc : f_Lc_link d h r0 i1 i2 i3 = some (.inl 0, h2)) : f_Lw_link (d + 1) h r0 i1 i2 i3 r4 = am_ck h r0 7 (f_Lw_link_24 (d + 1) h2) := by
  refine (am_sem_seg (am_sm am_MT (d + 1)) m_Lw_link 20 0 [(0, .ref r0), (1, .int i1), (2, .int i2), (3, .int i3), (4, .ref r4)] [] h).trans ?_
  refine Eq.trans (b := am_ck h r0 7 (am_bk _ _ _ _ _ _ (am_sm am_MT (d + 1) 107 [.ref r0, .int i1, .int i2, .int i3] h))) rfl ?_
  have hc : am_sm am_MT (d + 1) 107 [.ref r0, .int i1, .int i2, .int i3] h = _ := hc
  rw [hc]
  rfl
set_option maxRecDepth 100000 in
theorem e_Lw_link_24 (d : Nat) (h : am_H) : f_Lw_link_24 d h = (
    some (.inr (some (.int 1)), h)) := by
  refine (am_sem_seg (am_sm am_MT d) m_Lw_link 2 24 [] [] h).trans ?_
  rfl
set_option maxRecDepth 100000 in
theorem e_Lw_under_v (d : Nat) (h h2 : am_H) (r0 : Nat) (i1 : Int32) (r2 : Nat) (v : Int32) (hc : f_Lc_under d h r0 i1 = some (.inr (some (.int v)), h2)) : f_Lw_under (d + 1) h r0 i1 r2 = am_ck h r0 7 (
    am_ar h2 10 r2 0 fun j_1 =>
    some (.inr (some (.int 0)), (am_sL h2 r2 j_1 (Int32.toInt64 v)))) := by
  refine (am_sem_seg (am_sm am_MT (d + 1)) m_Lw_under 16 0 [(0, .ref r0), (1, .int i1), (2, .ref r2)] [] h).trans ?_
  refine Eq.trans (b := am_ck h r0 7 (am_bk _ _ _ _ _ _ (am_sm am_MT (d + 1) 108 [.ref r0, .int i1] h))) rfl ?_
  have hc : am_sm am_MT (d + 1) 108 [.ref r0, .int i1] h = _ := hc
  rw [hc]
  rfl
set_option maxRecDepth 100000 in
theorem e_Lw_under_x0 (d : Nat) (h h2 : am_H) (r0 : Nat) (i1 : Int32) (r2 : Nat) (hc : f_Lc_under d h r0 i1 = some (.inl 0, h2)) : f_Lw_under (d + 1) h r0 i1 r2 = am_ck h r0 7 (f_Lw_under_13 (d + 1) h2) := by
  refine (am_sem_seg (am_sm am_MT (d + 1)) m_Lw_under 16 0 [(0, .ref r0), (1, .int i1), (2, .ref r2)] [] h).trans ?_
  refine Eq.trans (b := am_ck h r0 7 (am_bk _ _ _ _ _ _ (am_sm am_MT (d + 1) 108 [.ref r0, .int i1] h))) rfl ?_
  have hc : am_sm am_MT (d + 1) 108 [.ref r0, .int i1] h = _ := hc
  rw [hc]
  rfl
set_option maxRecDepth 100000 in
theorem e_Lw_under_13 (d : Nat) (h : am_H) : f_Lw_under_13 d h = (
    some (.inr (some (.int 1)), h)) := by
  refine (am_sem_seg (am_sm am_MT d) m_Lw_under 2 13 [] [] h).trans ?_
  rfl
set_option maxRecDepth 100000 in
theorem e_Lw_node_v (d : Nat) (h h2 : am_H) (r0 : Nat) (i1 : Int32) (r2 : Nat) (v : Int32) (hc : f_Lc_node d h r0 i1 = some (.inr (some (.int v)), h2)) : f_Lw_node (d + 1) h r0 i1 r2 = am_ck h r0 7 (
    am_ar h2 10 r2 0 fun j_1 =>
    some (.inr (some (.int 0)), (am_sL h2 r2 j_1 (Int32.toInt64 v)))) := by
  refine (am_sem_seg (am_sm am_MT (d + 1)) m_Lw_node 16 0 [(0, .ref r0), (1, .int i1), (2, .ref r2)] [] h).trans ?_
  refine Eq.trans (b := am_ck h r0 7 (am_bk _ _ _ _ _ _ (am_sm am_MT (d + 1) 109 [.ref r0, .int i1] h))) rfl ?_
  have hc : am_sm am_MT (d + 1) 109 [.ref r0, .int i1] h = _ := hc
  rw [hc]
  rfl
set_option maxRecDepth 100000 in
theorem e_Lw_node_x0 (d : Nat) (h h2 : am_H) (r0 : Nat) (i1 : Int32) (r2 : Nat) (hc : f_Lc_node d h r0 i1 = some (.inl 0, h2)) : f_Lw_node (d + 1) h r0 i1 r2 = am_ck h r0 7 (f_Lw_node_13 (d + 1) h2) := by
  refine (am_sem_seg (am_sm am_MT (d + 1)) m_Lw_node 16 0 [(0, .ref r0), (1, .int i1), (2, .ref r2)] [] h).trans ?_
  refine Eq.trans (b := am_ck h r0 7 (am_bk _ _ _ _ _ _ (am_sm am_MT (d + 1) 109 [.ref r0, .int i1] h))) rfl ?_
  have hc : am_sm am_MT (d + 1) 109 [.ref r0, .int i1] h = _ := hc
  rw [hc]
  rfl
set_option maxRecDepth 100000 in
theorem e_Lw_node_13 (d : Nat) (h : am_H) : f_Lw_node_13 d h = (
    some (.inr (some (.int 1)), h)) := by
  refine (am_sem_seg (am_sm am_MT d) m_Lw_node 2 13 [] [] h).trans ?_
  rfl
set_option maxRecDepth 100000 in
theorem e_Lw_nodeOf_v (d : Nat) (h h2 : am_H) (r0 : Nat) (i1 : Int32) (i2 : Int32) (r3 : Nat) (v : Int32) (hc : f_Lc_nodeOf d h r0 i1 i2 = some (.inr (some (.int v)), h2)) : f_Lw_nodeOf (d + 1) h r0 i1 i2 r3 = am_ck h r0 7 (
    am_ar h2 10 r3 0 fun j_1 =>
    some (.inr (some (.int 0)), (am_sL h2 r3 j_1 (Int32.toInt64 v)))) := by
  refine (am_sem_seg (am_sm am_MT (d + 1)) m_Lw_nodeOf 17 0 [(0, .ref r0), (1, .int i1), (2, .int i2), (3, .ref r3)] [] h).trans ?_
  refine Eq.trans (b := am_ck h r0 7 (am_bk _ _ _ _ _ _ (am_sm am_MT (d + 1) 110 [.ref r0, .int i1, .int i2] h))) rfl ?_
  have hc : am_sm am_MT (d + 1) 110 [.ref r0, .int i1, .int i2] h = _ := hc
  rw [hc]
  rfl
set_option maxRecDepth 100000 in
theorem e_Lw_nodeOf_x0 (d : Nat) (h h2 : am_H) (r0 : Nat) (i1 : Int32) (i2 : Int32) (r3 : Nat) (hc : f_Lc_nodeOf d h r0 i1 i2 = some (.inl 0, h2)) : f_Lw_nodeOf (d + 1) h r0 i1 i2 r3 = am_ck h r0 7 (f_Lw_nodeOf_15 (d + 1) h2) := by
  refine (am_sem_seg (am_sm am_MT (d + 1)) m_Lw_nodeOf 17 0 [(0, .ref r0), (1, .int i1), (2, .int i2), (3, .ref r3)] [] h).trans ?_
  refine Eq.trans (b := am_ck h r0 7 (am_bk _ _ _ _ _ _ (am_sm am_MT (d + 1) 110 [.ref r0, .int i1, .int i2] h))) rfl ?_
  have hc : am_sm am_MT (d + 1) 110 [.ref r0, .int i1, .int i2] h = _ := hc
  rw [hc]
  rfl
set_option maxRecDepth 100000 in
theorem e_Lw_nodeOf_x1 (d : Nat) (h h2 : am_H) (r0 : Nat) (i1 : Int32) (i2 : Int32) (r3 : Nat) (hc : f_Lc_nodeOf d h r0 i1 i2 = some (.inl 1, h2)) : f_Lw_nodeOf (d + 1) h r0 i1 i2 r3 = am_ck h r0 7 (f_Lw_nodeOf_19 (d + 1) h2) := by
  refine (am_sem_seg (am_sm am_MT (d + 1)) m_Lw_nodeOf 17 0 [(0, .ref r0), (1, .int i1), (2, .int i2), (3, .ref r3)] [] h).trans ?_
  refine Eq.trans (b := am_ck h r0 7 (am_bk _ _ _ _ _ _ (am_sm am_MT (d + 1) 110 [.ref r0, .int i1, .int i2] h))) rfl ?_
  have hc : am_sm am_MT (d + 1) 110 [.ref r0, .int i1, .int i2] h = _ := hc
  rw [hc]
  rfl
set_option maxRecDepth 100000 in
theorem e_Lw_nodeOf_15 (d : Nat) (h : am_H) : f_Lw_nodeOf_15 d h = (
    some (.inr (some (.int 1)), h)) := by
  refine (am_sem_seg (am_sm am_MT d) m_Lw_nodeOf 2 15 [] [] h).trans ?_
  rfl
set_option maxRecDepth 100000 in
theorem e_Lw_nodeOf_19 (d : Nat) (h : am_H) : f_Lw_nodeOf_19 d h = (
    some (.inr (some (.int 2)), h)) := by
  refine (am_sem_seg (am_sm am_MT d) m_Lw_nodeOf 2 19 [] [] h).trans ?_
  rfl
set_option maxRecDepth 100000 in
theorem e_Lw_common_v (d : Nat) (h h2 : am_H) (r0 : Nat) (i1 : Int32) (i2 : Int32) (r3 : Nat) (v : Int32) (hc : f_Lc_common d h r0 i1 i2 = some (.inr (some (.int v)), h2)) : f_Lw_common (d + 1) h r0 i1 i2 r3 = am_ck h r0 7 (
    am_ar h2 10 r3 0 fun j_1 =>
    some (.inr (some (.int 0)), (am_sL h2 r3 j_1 (Int32.toInt64 v)))) := by
  refine (am_sem_seg (am_sm am_MT (d + 1)) m_Lw_common 17 0 [(0, .ref r0), (1, .int i1), (2, .int i2), (3, .ref r3)] [] h).trans ?_
  refine Eq.trans (b := am_ck h r0 7 (am_bk _ _ _ _ _ _ (am_sm am_MT (d + 1) 112 [.ref r0, .int i1, .int i2] h))) rfl ?_
  have hc : am_sm am_MT (d + 1) 112 [.ref r0, .int i1, .int i2] h = _ := hc
  rw [hc]
  rfl
set_option maxRecDepth 100000 in
theorem e_Lw_common_x0 (d : Nat) (h h2 : am_H) (r0 : Nat) (i1 : Int32) (i2 : Int32) (r3 : Nat) (hc : f_Lc_common d h r0 i1 i2 = some (.inl 0, h2)) : f_Lw_common (d + 1) h r0 i1 i2 r3 = am_ck h r0 7 (f_Lw_common_15 (d + 1) h2) := by
  refine (am_sem_seg (am_sm am_MT (d + 1)) m_Lw_common 17 0 [(0, .ref r0), (1, .int i1), (2, .int i2), (3, .ref r3)] [] h).trans ?_
  refine Eq.trans (b := am_ck h r0 7 (am_bk _ _ _ _ _ _ (am_sm am_MT (d + 1) 112 [.ref r0, .int i1, .int i2] h))) rfl ?_
  have hc : am_sm am_MT (d + 1) 112 [.ref r0, .int i1, .int i2] h = _ := hc
  rw [hc]
  rfl
set_option maxRecDepth 100000 in
theorem e_Lw_common_x2 (d : Nat) (h h2 : am_H) (r0 : Nat) (i1 : Int32) (i2 : Int32) (r3 : Nat) (hc : f_Lc_common d h r0 i1 i2 = some (.inl 2, h2)) : f_Lw_common (d + 1) h r0 i1 i2 r3 = am_ck h r0 7 (f_Lw_common_19 (d + 1) h2) := by
  refine (am_sem_seg (am_sm am_MT (d + 1)) m_Lw_common 17 0 [(0, .ref r0), (1, .int i1), (2, .int i2), (3, .ref r3)] [] h).trans ?_
  refine Eq.trans (b := am_ck h r0 7 (am_bk _ _ _ _ _ _ (am_sm am_MT (d + 1) 112 [.ref r0, .int i1, .int i2] h))) rfl ?_
  have hc : am_sm am_MT (d + 1) 112 [.ref r0, .int i1, .int i2] h = _ := hc
  rw [hc]
  rfl
set_option maxRecDepth 100000 in
theorem e_Lw_common_15 (d : Nat) (h : am_H) : f_Lw_common_15 d h = (
    some (.inr (some (.int 1)), h)) := by
  refine (am_sem_seg (am_sm am_MT d) m_Lw_common 2 15 [] [] h).trans ?_
  rfl
set_option maxRecDepth 100000 in
theorem e_Lw_common_19 (d : Nat) (h : am_H) : f_Lw_common_19 d h = (
    some (.inr (some (.int 2)), h)) := by
  refine (am_sem_seg (am_sm am_MT d) m_Lw_common 2 19 [] [] h).trans ?_
  rfl
set_option maxRecDepth 100000 in
theorem e_Lw_needed_v (d : Nat) (h h2 : am_H) (r0 : Nat) (i1 : Int32) (i2 : Int32) (r3 : Nat) (v : Int64) (hc : f_Lc_needed d h r0 i1 i2 = some (.inr (some (.long v)), h2)) : f_Lw_needed (d + 1) h r0 i1 i2 r3 = am_ck h r0 7 (
    am_ar h2 10 r3 0 fun j_1 =>
    some (.inr (some (.int 0)), (am_sL h2 r3 j_1 v))) := by
  refine (am_sem_seg (am_sm am_MT (d + 1)) m_Lw_needed 16 0 [(0, .ref r0), (1, .int i1), (2, .int i2), (3, .ref r3)] [] h).trans ?_
  refine Eq.trans (b := am_ck h r0 7 (am_bk _ _ _ _ _ _ (am_sm am_MT (d + 1) 113 [.ref r0, .int i1, .int i2] h))) rfl ?_
  have hc : am_sm am_MT (d + 1) 113 [.ref r0, .int i1, .int i2] h = _ := hc
  rw [hc]
  rfl
set_option maxRecDepth 100000 in
theorem e_Lw_needed_x0 (d : Nat) (h h2 : am_H) (r0 : Nat) (i1 : Int32) (i2 : Int32) (r3 : Nat) (hc : f_Lc_needed d h r0 i1 i2 = some (.inl 0, h2)) : f_Lw_needed (d + 1) h r0 i1 i2 r3 = am_ck h r0 7 (f_Lw_needed_14 (d + 1) h2) := by
  refine (am_sem_seg (am_sm am_MT (d + 1)) m_Lw_needed 16 0 [(0, .ref r0), (1, .int i1), (2, .int i2), (3, .ref r3)] [] h).trans ?_
  refine Eq.trans (b := am_ck h r0 7 (am_bk _ _ _ _ _ _ (am_sm am_MT (d + 1) 113 [.ref r0, .int i1, .int i2] h))) rfl ?_
  have hc : am_sm am_MT (d + 1) 113 [.ref r0, .int i1, .int i2] h = _ := hc
  rw [hc]
  rfl
set_option maxRecDepth 100000 in
theorem e_Lw_needed_14 (d : Nat) (h : am_H) : f_Lw_needed_14 d h = (
    some (.inr (some (.int 1)), h)) := by
  refine (am_sem_seg (am_sm am_MT d) m_Lw_needed 2 14 [] [] h).trans ?_
  rfl
set_option maxRecDepth 100000 in
theorem e_Lw_enough_v (d : Nat) (h h2 : am_H) (r0 : Nat) (i1 : Int32) (i2 : Int32) (r3 : Nat) (v : Int64) (hc : f_Lc_enough d h r0 i1 i2 = some (.inr (some (.long v)), h2)) : f_Lw_enough (d + 1) h r0 i1 i2 r3 = am_ck h r0 7 (
    am_ar h2 10 r3 0 fun j_1 =>
    some (.inr (some (.int 0)), (am_sL h2 r3 j_1 v))) := by
  refine (am_sem_seg (am_sm am_MT (d + 1)) m_Lw_enough 16 0 [(0, .ref r0), (1, .int i1), (2, .int i2), (3, .ref r3)] [] h).trans ?_
  refine Eq.trans (b := am_ck h r0 7 (am_bk _ _ _ _ _ _ (am_sm am_MT (d + 1) 114 [.ref r0, .int i1, .int i2] h))) rfl ?_
  have hc : am_sm am_MT (d + 1) 114 [.ref r0, .int i1, .int i2] h = _ := hc
  rw [hc]
  rfl
set_option maxRecDepth 100000 in
theorem e_Lw_enough_x0 (d : Nat) (h h2 : am_H) (r0 : Nat) (i1 : Int32) (i2 : Int32) (r3 : Nat) (hc : f_Lc_enough d h r0 i1 i2 = some (.inl 0, h2)) : f_Lw_enough (d + 1) h r0 i1 i2 r3 = am_ck h r0 7 (f_Lw_enough_14 (d + 1) h2) := by
  refine (am_sem_seg (am_sm am_MT (d + 1)) m_Lw_enough 16 0 [(0, .ref r0), (1, .int i1), (2, .int i2), (3, .ref r3)] [] h).trans ?_
  refine Eq.trans (b := am_ck h r0 7 (am_bk _ _ _ _ _ _ (am_sm am_MT (d + 1) 114 [.ref r0, .int i1, .int i2] h))) rfl ?_
  have hc : am_sm am_MT (d + 1) 114 [.ref r0, .int i1, .int i2] h = _ := hc
  rw [hc]
  rfl
set_option maxRecDepth 100000 in
theorem e_Lw_enough_14 (d : Nat) (h : am_H) : f_Lw_enough_14 d h = (
    some (.inr (some (.int 1)), h)) := by
  refine (am_sem_seg (am_sm am_MT d) m_Lw_enough 2 14 [] [] h).trans ?_
  rfl
set_option maxRecDepth 100000 in
theorem e_Lw_reason_v (d : Nat) (h h2 : am_H) (r0 : Nat) (i1 : Int32) (i2 : Int32) (i3 : Int32) (r4 : Nat) (v : Int64) (hc : f_Lc_reason d h r0 i1 i2 i3 = some (.inr (some (.long v)), h2)) : f_Lw_reason (d + 1) h r0 i1 i2 i3 r4 = am_ck h r0 7 (
    am_ar h2 10 r4 0 fun j_1 =>
    some (.inr (some (.int 0)), (am_sL h2 r4 j_1 v))) := by
  refine (am_sem_seg (am_sm am_MT (d + 1)) m_Lw_reason 17 0 [(0, .ref r0), (1, .int i1), (2, .int i2), (3, .int i3), (4, .ref r4)] [] h).trans ?_
  refine Eq.trans (b := am_ck h r0 7 (am_bk _ _ _ _ _ _ (am_sm am_MT (d + 1) 115 [.ref r0, .int i1, .int i2, .int i3] h))) rfl ?_
  have hc : am_sm am_MT (d + 1) 115 [.ref r0, .int i1, .int i2, .int i3] h = _ := hc
  rw [hc]
  rfl
set_option maxRecDepth 100000 in
theorem e_Lw_reason_x0 (d : Nat) (h h2 : am_H) (r0 : Nat) (i1 : Int32) (i2 : Int32) (i3 : Int32) (r4 : Nat) (hc : f_Lc_reason d h r0 i1 i2 i3 = some (.inl 0, h2)) : f_Lw_reason (d + 1) h r0 i1 i2 i3 r4 = am_ck h r0 7 (f_Lw_reason_16 (d + 1) h2) := by
  refine (am_sem_seg (am_sm am_MT (d + 1)) m_Lw_reason 17 0 [(0, .ref r0), (1, .int i1), (2, .int i2), (3, .int i3), (4, .ref r4)] [] h).trans ?_
  refine Eq.trans (b := am_ck h r0 7 (am_bk _ _ _ _ _ _ (am_sm am_MT (d + 1) 115 [.ref r0, .int i1, .int i2, .int i3] h))) rfl ?_
  have hc : am_sm am_MT (d + 1) 115 [.ref r0, .int i1, .int i2, .int i3] h = _ := hc
  rw [hc]
  rfl
set_option maxRecDepth 100000 in
theorem e_Lw_reason_16 (d : Nat) (h : am_H) : f_Lw_reason_16 d h = (
    some (.inr (some (.int 1)), h)) := by
  refine (am_sem_seg (am_sm am_MT d) m_Lw_reason 2 16 [] [] h).trans ?_
  rfl
set_option maxRecDepth 100000 in
theorem e_Lw_repair_v (d : Nat) (h h2 : am_H) (r0 : Nat) (i1 : Int32) (i2 : Int32) (r3 : Nat) (v : Int64) (hc : f_Lc_repair d h r0 i1 i2 = some (.inr (some (.long v)), h2)) : f_Lw_repair (d + 1) h r0 i1 i2 r3 = am_ck h r0 7 (
    am_ar h2 10 r3 0 fun j_1 =>
    some (.inr (some (.int 0)), (am_sL h2 r3 j_1 v))) := by
  refine (am_sem_seg (am_sm am_MT (d + 1)) m_Lw_repair 16 0 [(0, .ref r0), (1, .int i1), (2, .int i2), (3, .ref r3)] [] h).trans ?_
  refine Eq.trans (b := am_ck h r0 7 (am_bk _ _ _ _ _ _ (am_sm am_MT (d + 1) 116 [.ref r0, .int i1, .int i2] h))) rfl ?_
  have hc : am_sm am_MT (d + 1) 116 [.ref r0, .int i1, .int i2] h = _ := hc
  rw [hc]
  rfl
set_option maxRecDepth 100000 in
theorem e_Lw_repair_x0 (d : Nat) (h h2 : am_H) (r0 : Nat) (i1 : Int32) (i2 : Int32) (r3 : Nat) (hc : f_Lc_repair d h r0 i1 i2 = some (.inl 0, h2)) : f_Lw_repair (d + 1) h r0 i1 i2 r3 = am_ck h r0 7 (f_Lw_repair_14 (d + 1) h2) := by
  refine (am_sem_seg (am_sm am_MT (d + 1)) m_Lw_repair 16 0 [(0, .ref r0), (1, .int i1), (2, .int i2), (3, .ref r3)] [] h).trans ?_
  refine Eq.trans (b := am_ck h r0 7 (am_bk _ _ _ _ _ _ (am_sm am_MT (d + 1) 116 [.ref r0, .int i1, .int i2] h))) rfl ?_
  have hc : am_sm am_MT (d + 1) 116 [.ref r0, .int i1, .int i2] h = _ := hc
  rw [hc]
  rfl
set_option maxRecDepth 100000 in
theorem e_Lw_repair_14 (d : Nat) (h : am_H) : f_Lw_repair_14 d h = (
    some (.inr (some (.int 1)), h)) := by
  refine (am_sem_seg (am_sm am_MT d) m_Lw_repair 2 14 [] [] h).trans ?_
  rfl
set_option maxRecDepth 100000 in
theorem e_Lw_likeness_v (d : Nat) (h h2 : am_H) (r0 : Nat) (i1 : Int32) (i2 : Int32) (i3 : Int32) (r4 : Nat) (v : Int32) (hc : f_Lc_likeness d h r0 i1 i2 i3 = some (.inr (some (.int v)), h2)) : f_Lw_likeness (d + 1) h r0 i1 i2 i3 r4 = am_ck h r0 7 (
    am_ar h2 10 r4 0 fun j_1 =>
    some (.inr (some (.int 0)), (am_sL h2 r4 j_1 (Int32.toInt64 v)))) := by
  refine (am_sem_seg (am_sm am_MT (d + 1)) m_Lw_likeness 18 0 [(0, .ref r0), (1, .int i1), (2, .int i2), (3, .int i3), (4, .ref r4)] [] h).trans ?_
  refine Eq.trans (b := am_ck h r0 7 (am_bk _ _ _ _ _ _ (am_sm am_MT (d + 1) 117 [.ref r0, .int i1, .int i2, .int i3] h))) rfl ?_
  have hc : am_sm am_MT (d + 1) 117 [.ref r0, .int i1, .int i2, .int i3] h = _ := hc
  rw [hc]
  rfl
set_option maxRecDepth 100000 in
theorem e_Lw_likeness_x0 (d : Nat) (h h2 : am_H) (r0 : Nat) (i1 : Int32) (i2 : Int32) (i3 : Int32) (r4 : Nat) (hc : f_Lc_likeness d h r0 i1 i2 i3 = some (.inl 0, h2)) : f_Lw_likeness (d + 1) h r0 i1 i2 i3 r4 = am_ck h r0 7 (f_Lw_likeness_17 (d + 1) h2) := by
  refine (am_sem_seg (am_sm am_MT (d + 1)) m_Lw_likeness 18 0 [(0, .ref r0), (1, .int i1), (2, .int i2), (3, .int i3), (4, .ref r4)] [] h).trans ?_
  refine Eq.trans (b := am_ck h r0 7 (am_bk _ _ _ _ _ _ (am_sm am_MT (d + 1) 117 [.ref r0, .int i1, .int i2, .int i3] h))) rfl ?_
  have hc : am_sm am_MT (d + 1) 117 [.ref r0, .int i1, .int i2, .int i3] h = _ := hc
  rw [hc]
  rfl
set_option maxRecDepth 100000 in
theorem e_Lw_likeness_x1 (d : Nat) (h h2 : am_H) (r0 : Nat) (i1 : Int32) (i2 : Int32) (i3 : Int32) (r4 : Nat) (hc : f_Lc_likeness d h r0 i1 i2 i3 = some (.inl 1, h2)) : f_Lw_likeness (d + 1) h r0 i1 i2 i3 r4 = am_ck h r0 7 (f_Lw_likeness_21 (d + 1) h2) := by
  refine (am_sem_seg (am_sm am_MT (d + 1)) m_Lw_likeness 18 0 [(0, .ref r0), (1, .int i1), (2, .int i2), (3, .int i3), (4, .ref r4)] [] h).trans ?_
  refine Eq.trans (b := am_ck h r0 7 (am_bk _ _ _ _ _ _ (am_sm am_MT (d + 1) 117 [.ref r0, .int i1, .int i2, .int i3] h))) rfl ?_
  have hc : am_sm am_MT (d + 1) 117 [.ref r0, .int i1, .int i2, .int i3] h = _ := hc
  rw [hc]
  rfl
set_option maxRecDepth 100000 in
theorem e_Lw_likeness_17 (d : Nat) (h : am_H) : f_Lw_likeness_17 d h = (
    some (.inr (some (.int 1)), h)) := by
  refine (am_sem_seg (am_sm am_MT d) m_Lw_likeness 2 17 [] [] h).trans ?_
  rfl
set_option maxRecDepth 100000 in
theorem e_Lw_likeness_21 (d : Nat) (h : am_H) : f_Lw_likeness_21 d h = (
    some (.inr (some (.int 2)), h)) := by
  refine (am_sem_seg (am_sm am_MT d) m_Lw_likeness 2 21 [] [] h).trans ?_
  rfl
set_option maxRecDepth 100000 in
theorem e_Lw_atom_v (d : Nat) (h h2 : am_H) (r0 : Nat) (i1 : Int32) (r2 : Nat) (v : Int32) (hc : f_Lc_atom d h r0 i1 = some (.inr (some (.int v)), h2)) : f_Lw_atom (d + 1) h r0 i1 r2 = am_ck h r0 7 (
    am_ar h2 10 r2 0 fun j_1 =>
    some (.inr (some (.int 0)), (am_sL h2 r2 j_1 (Int32.toInt64 v)))) := by
  refine (am_sem_seg (am_sm am_MT (d + 1)) m_Lw_atom 16 0 [(0, .ref r0), (1, .int i1), (2, .ref r2)] [] h).trans ?_
  refine Eq.trans (b := am_ck h r0 7 (am_bk _ _ _ _ _ _ (am_sm am_MT (d + 1) 118 [.ref r0, .int i1] h))) rfl ?_
  have hc : am_sm am_MT (d + 1) 118 [.ref r0, .int i1] h = _ := hc
  rw [hc]
  rfl
set_option maxRecDepth 100000 in
theorem e_Lw_atom_x0 (d : Nat) (h h2 : am_H) (r0 : Nat) (i1 : Int32) (r2 : Nat) (hc : f_Lc_atom d h r0 i1 = some (.inl 0, h2)) : f_Lw_atom (d + 1) h r0 i1 r2 = am_ck h r0 7 (f_Lw_atom_13 (d + 1) h2) := by
  refine (am_sem_seg (am_sm am_MT (d + 1)) m_Lw_atom 16 0 [(0, .ref r0), (1, .int i1), (2, .ref r2)] [] h).trans ?_
  refine Eq.trans (b := am_ck h r0 7 (am_bk _ _ _ _ _ _ (am_sm am_MT (d + 1) 118 [.ref r0, .int i1] h))) rfl ?_
  have hc : am_sm am_MT (d + 1) 118 [.ref r0, .int i1] h = _ := hc
  rw [hc]
  rfl
set_option maxRecDepth 100000 in
theorem e_Lw_atom_13 (d : Nat) (h : am_H) : f_Lw_atom_13 d h = (
    some (.inr (some (.int 1)), h)) := by
  refine (am_sem_seg (am_sm am_MT d) m_Lw_atom 2 13 [] [] h).trans ?_
  rfl
set_option maxRecDepth 100000 in
theorem e_Lw_depends_v (d : Nat) (h h2 : am_H) (r0 : Nat) (i1 : Int32) (r2 : Nat) (v : Int64) (hc : f_Lc_depends d h r0 i1 = some (.inr (some (.long v)), h2)) : f_Lw_depends (d + 1) h r0 i1 r2 = am_ck h r0 7 (
    am_ar h2 10 r2 0 fun j_1 =>
    some (.inr (some (.int 0)), (am_sL h2 r2 j_1 v))) := by
  refine (am_sem_seg (am_sm am_MT (d + 1)) m_Lw_depends 15 0 [(0, .ref r0), (1, .int i1), (2, .ref r2)] [] h).trans ?_
  refine Eq.trans (b := am_ck h r0 7 (am_bk _ _ _ _ _ _ (am_sm am_MT (d + 1) 119 [.ref r0, .int i1] h))) rfl ?_
  have hc : am_sm am_MT (d + 1) 119 [.ref r0, .int i1] h = _ := hc
  rw [hc]
  rfl
set_option maxRecDepth 100000 in
theorem e_Lw_depends_x0 (d : Nat) (h h2 : am_H) (r0 : Nat) (i1 : Int32) (r2 : Nat) (hc : f_Lc_depends d h r0 i1 = some (.inl 0, h2)) : f_Lw_depends (d + 1) h r0 i1 r2 = am_ck h r0 7 (f_Lw_depends_12 (d + 1) h2) := by
  refine (am_sem_seg (am_sm am_MT (d + 1)) m_Lw_depends 15 0 [(0, .ref r0), (1, .int i1), (2, .ref r2)] [] h).trans ?_
  refine Eq.trans (b := am_ck h r0 7 (am_bk _ _ _ _ _ _ (am_sm am_MT (d + 1) 119 [.ref r0, .int i1] h))) rfl ?_
  have hc : am_sm am_MT (d + 1) 119 [.ref r0, .int i1] h = _ := hc
  rw [hc]
  rfl
set_option maxRecDepth 100000 in
theorem e_Lw_depends_12 (d : Nat) (h : am_H) : f_Lw_depends_12 d h = (
    some (.inr (some (.int 1)), h)) := by
  refine (am_sem_seg (am_sm am_MT d) m_Lw_depends 2 12 [] [] h).trans ?_
  rfl
set_option maxRecDepth 100000 in
theorem e_Lw_module_v (d : Nat) (h h2 : am_H) (r0 : Nat) (i1 : Int32) (i2 : Int32) (i3 : Int32) (r4 : Nat) (v : Int64) (hc : f_Lc_module d h r0 i1 i2 i3 = some (.inr (some (.long v)), h2)) : f_Lw_module (d + 1) h r0 i1 i2 i3 r4 = am_ck h r0 7 (
    am_ar h2 10 r4 0 fun j_1 =>
    some (.inr (some (.int 0)), (am_sL h2 r4 j_1 v))) := by
  refine (am_sem_seg (am_sm am_MT (d + 1)) m_Lw_module 17 0 [(0, .ref r0), (1, .int i1), (2, .int i2), (3, .int i3), (4, .ref r4)] [] h).trans ?_
  refine Eq.trans (b := am_ck h r0 7 (am_bk _ _ _ _ _ _ (am_sm am_MT (d + 1) 120 [.ref r0, .int i1, .int i2, .int i3] h))) rfl ?_
  have hc : am_sm am_MT (d + 1) 120 [.ref r0, .int i1, .int i2, .int i3] h = _ := hc
  rw [hc]
  rfl
set_option maxRecDepth 100000 in
theorem e_Lw_module_x1 (d : Nat) (h h2 : am_H) (r0 : Nat) (i1 : Int32) (i2 : Int32) (i3 : Int32) (r4 : Nat) (hc : f_Lc_module d h r0 i1 i2 i3 = some (.inl 1, h2)) : f_Lw_module (d + 1) h r0 i1 i2 i3 r4 = am_ck h r0 7 (f_Lw_module_16 (d + 1) h2) := by
  refine (am_sem_seg (am_sm am_MT (d + 1)) m_Lw_module 17 0 [(0, .ref r0), (1, .int i1), (2, .int i2), (3, .int i3), (4, .ref r4)] [] h).trans ?_
  refine Eq.trans (b := am_ck h r0 7 (am_bk _ _ _ _ _ _ (am_sm am_MT (d + 1) 120 [.ref r0, .int i1, .int i2, .int i3] h))) rfl ?_
  have hc : am_sm am_MT (d + 1) 120 [.ref r0, .int i1, .int i2, .int i3] h = _ := hc
  rw [hc]
  rfl
set_option maxRecDepth 100000 in
theorem e_Lw_module_16 (d : Nat) (h : am_H) : f_Lw_module_16 d h = (
    some (.inr (some (.int 1)), h)) := by
  refine (am_sem_seg (am_sm am_MT d) m_Lw_module 2 16 [] [] h).trans ?_
  rfl
set_option maxRecDepth 100000 in
theorem e_Lw_ask_v (d : Nat) (h h2 : am_H) (r0 : Nat) (i1 : Int32) (r2 : Nat) (v : Int32) (hc : f_Lc_ask d h r0 i1 = some (.inr (some (.int v)), h2)) : f_Lw_ask (d + 1) h r0 i1 r2 = am_ck h r0 7 (
    am_ar h2 10 r2 0 fun j_1 =>
    some (.inr (some (.int 0)), (am_sL h2 r2 j_1 (Int32.toInt64 v)))) := by
  refine (am_sem_seg (am_sm am_MT (d + 1)) m_Lw_ask 16 0 [(0, .ref r0), (1, .int i1), (2, .ref r2)] [] h).trans ?_
  refine Eq.trans (b := am_ck h r0 7 (am_bk _ _ _ _ _ _ (am_sm am_MT (d + 1) 121 [.ref r0, .int i1] h))) rfl ?_
  have hc : am_sm am_MT (d + 1) 121 [.ref r0, .int i1] h = _ := hc
  rw [hc]
  rfl
set_option maxRecDepth 100000 in
theorem e_Lw_ask_x1 (d : Nat) (h h2 : am_H) (r0 : Nat) (i1 : Int32) (r2 : Nat) (hc : f_Lc_ask d h r0 i1 = some (.inl 1, h2)) : f_Lw_ask (d + 1) h r0 i1 r2 = am_ck h r0 7 (f_Lw_ask_13 (d + 1) h2) := by
  refine (am_sem_seg (am_sm am_MT (d + 1)) m_Lw_ask 16 0 [(0, .ref r0), (1, .int i1), (2, .ref r2)] [] h).trans ?_
  refine Eq.trans (b := am_ck h r0 7 (am_bk _ _ _ _ _ _ (am_sm am_MT (d + 1) 121 [.ref r0, .int i1] h))) rfl ?_
  have hc : am_sm am_MT (d + 1) 121 [.ref r0, .int i1] h = _ := hc
  rw [hc]
  rfl
set_option maxRecDepth 100000 in
theorem e_Lw_ask_13 (d : Nat) (h : am_H) : f_Lw_ask_13 d h = (
    some (.inr (some (.int 1)), h)) := by
  refine (am_sem_seg (am_sm am_MT d) m_Lw_ask 2 13 [] [] h).trans ?_
  rfl
set_option maxRecDepth 100000 in
theorem e_Lw_of_v (d : Nat) (h h2 : am_H) (r0 : Nat) (i1 : Int32) (i2 : Int32) (r3 : Nat) (v : Int32) (hc : f_Lc_of d h r0 i1 i2 = some (.inr (some (.int v)), h2)) : f_Lw_of (d + 1) h r0 i1 i2 r3 = am_ck h r0 7 (
    am_ar h2 10 r3 0 fun j_1 =>
    some (.inr (some (.int 0)), (am_sL h2 r3 j_1 (Int32.toInt64 v)))) := by
  refine (am_sem_seg (am_sm am_MT (d + 1)) m_Lw_of 17 0 [(0, .ref r0), (1, .int i1), (2, .int i2), (3, .ref r3)] [] h).trans ?_
  refine Eq.trans (b := am_ck h r0 7 (am_bk _ _ _ _ _ _ (am_sm am_MT (d + 1) 122 [.ref r0, .int i1, .int i2] h))) rfl ?_
  have hc : am_sm am_MT (d + 1) 122 [.ref r0, .int i1, .int i2] h = _ := hc
  rw [hc]
  rfl
set_option maxRecDepth 100000 in
theorem e_Lw_of_x1 (d : Nat) (h h2 : am_H) (r0 : Nat) (i1 : Int32) (i2 : Int32) (r3 : Nat) (hc : f_Lc_of d h r0 i1 i2 = some (.inl 1, h2)) : f_Lw_of (d + 1) h r0 i1 i2 r3 = am_ck h r0 7 (f_Lw_of_15 (d + 1) h2) := by
  refine (am_sem_seg (am_sm am_MT (d + 1)) m_Lw_of 17 0 [(0, .ref r0), (1, .int i1), (2, .int i2), (3, .ref r3)] [] h).trans ?_
  refine Eq.trans (b := am_ck h r0 7 (am_bk _ _ _ _ _ _ (am_sm am_MT (d + 1) 122 [.ref r0, .int i1, .int i2] h))) rfl ?_
  have hc : am_sm am_MT (d + 1) 122 [.ref r0, .int i1, .int i2] h = _ := hc
  rw [hc]
  rfl
set_option maxRecDepth 100000 in
theorem e_Lw_of_15 (d : Nat) (h : am_H) : f_Lw_of_15 d h = (
    some (.inr (some (.int 1)), h)) := by
  refine (am_sem_seg (am_sm am_MT d) m_Lw_of 2 15 [] [] h).trans ?_
  rfl
set_option maxRecDepth 100000 in
theorem e_Lw_model_v (d : Nat) (h h2 : am_H) (r0 : Nat) (i1 : Int32) (r2 : Nat) (v : Int64) (hc : f_Lc_model d h r0 i1 = some (.inr (some (.long v)), h2)) : f_Lw_model (d + 1) h r0 i1 r2 = am_ck h r0 7 (
    am_ar h2 10 r2 0 fun j_1 =>
    some (.inr (some (.int 0)), (am_sL h2 r2 j_1 v))) := by
  refine (am_sem_seg (am_sm am_MT (d + 1)) m_Lw_model 15 0 [(0, .ref r0), (1, .int i1), (2, .ref r2)] [] h).trans ?_
  refine Eq.trans (b := am_ck h r0 7 (am_bk _ _ _ _ _ _ (am_sm am_MT (d + 1) 123 [.ref r0, .int i1] h))) rfl ?_
  have hc : am_sm am_MT (d + 1) 123 [.ref r0, .int i1] h = _ := hc
  rw [hc]
  rfl
set_option maxRecDepth 100000 in
theorem e_Lw_model_x1 (d : Nat) (h h2 : am_H) (r0 : Nat) (i1 : Int32) (r2 : Nat) (hc : f_Lc_model d h r0 i1 = some (.inl 1, h2)) : f_Lw_model (d + 1) h r0 i1 r2 = am_ck h r0 7 (f_Lw_model_12 (d + 1) h2) := by
  refine (am_sem_seg (am_sm am_MT (d + 1)) m_Lw_model 15 0 [(0, .ref r0), (1, .int i1), (2, .ref r2)] [] h).trans ?_
  refine Eq.trans (b := am_ck h r0 7 (am_bk _ _ _ _ _ _ (am_sm am_MT (d + 1) 123 [.ref r0, .int i1] h))) rfl ?_
  have hc : am_sm am_MT (d + 1) 123 [.ref r0, .int i1] h = _ := hc
  rw [hc]
  rfl
set_option maxRecDepth 100000 in
theorem e_Lw_model_12 (d : Nat) (h : am_H) : f_Lw_model_12 d h = (
    some (.inr (some (.int 1)), h)) := by
  refine (am_sem_seg (am_sm am_MT d) m_Lw_model 2 12 [] [] h).trans ?_
  rfl
set_option maxRecDepth 100000 in
theorem e_Lw_law (d : Nat) (h : am_H) (r0 : Nat) : f_Lw_law (d + 1) h r0 = (
    bif Nat.beq (am_G h) 0 then
      am_ck (am_nw h (7, 18)) (am_S h).length 7 <| am_cv (f_Lc_init d (am_nw h (7, 18)) (am_S h).length) fun h_1 =>
      bif Nat.beq (am_G h_1) 0 then
        am_ck (am_nw h_1 (8, 45)) (am_S h_1).length 8 <| am_cv (f_Rf_init d (am_nw h_1 (8, 45)) (am_S h_1).length) fun h_2 =>
        bif Nat.beq (am_G h_2) 0 && !(decide ((1 : Int32) < 0)) && Nat.ble (Int32.toNatClampNeg 1) 60000000 then
          f_Lw_law_23 (d + 1) (am_nw h_2 (10, Int32.toNatClampNeg 1)) r0 (am_S h).length (am_S h_1).length (am_S h_2).length 0
        else none
      else none
    else none) := by
  refine (am_sem_seg (am_sm am_MT (d + 1)) m_Lw_law 13 0 [(0, .ref r0)] [] h).trans ?_
  rfl
set_option maxRecDepth 100000 in
theorem e_Lw_law_23 (d : Nat) (h : am_H) (r0 : Nat) (r1 : Nat) (r2 : Nat) (r3 : Nat) (i4 : Int32) : f_Lw_law_23 (d + 1) h r0 r1 r2 r3 i4 = (
    am_al h r0 fun x_1 =>
    if (x_1 - 6) < i4 then
      am_01 1 (some (.inr (some (.int 1)), h))
    else
    am_ar h 15 r0 i4 fun j_2 =>
    if ((am_I h r0 j_2) &&& 31) = 0 then
      am_ar h 15 r0 (i4 + 1) fun j_3 =>
      am_ar h 15 r0 (i4 + 2) fun j_4 =>
      am_ar h 15 r0 (i4 + 3) fun j_5 =>
      am_ar h 15 r0 (i4 + 4) fun j_6 =>
      am_ar h 15 r0 (i4 + 5) fun j_7 =>
      am_ck h r1 7 <| am_ci (f_Lc_feed d h r1 (am_I h r0 j_3) (am_I h r0 j_4) (am_I h r0 j_5) (am_I h r0 j_6) (am_I h r0 j_7)) fun x_9 h_8 =>
      am_ar h_8 15 r0 (i4 + 1) fun j_10 =>
      am_ar h_8 15 r0 (i4 + 2) fun j_11 =>
      am_ar h_8 15 r0 (i4 + 3) fun j_12 =>
      am_ar h_8 15 r0 (i4 + 4) fun j_13 =>
      am_ar h_8 15 r0 (i4 + 5) fun j_14 =>
      am_ck h_8 r2 8 <| am_ci (f_Rf_feed d h_8 r2 (am_I h_8 r0 j_10) (am_I h_8 r0 j_11) (am_I h_8 r0 j_12) (am_I h_8 r0 j_13) (am_I h_8 r0 j_14)) fun x_16 h_15 =>
      if x_9 = x_16 then
        f_Lw_law_2062 (d + 1) h_15 r0 r1 r2 r3 i4
      else
      am_01 0 (some (.inr (some (.int 0)), h_15))
    else
    if ((am_I h r0 j_2) &&& 31) = 1 then
      am_ar h 15 r0 (i4 + 1) fun j_17 =>
      am_ci (f_Lw_text d h r1 (am_I h r0 j_17) r3) fun x_19 h_18 =>
      am_ar h_18 15 r0 (i4 + 1) fun j_20 =>
      am_ck h_18 r2 8 <| am_ci (f_Rf_text d h_18 r2 (am_I h_18 r0 j_20)) fun x_22 h_21 =>
      am_ck h_21 r2 8 <| am_ci (f_Rf_thrown d h_21 r2) fun x_24 h_23 =>
      if x_24 = x_19 then
        if x_19 = 0 then
          am_ar h_23 10 r3 0 fun j_25 =>
          if (lg_cmp (am_L h_23 r3 j_25) (Int32.toInt64 x_22)) = 0 then
            f_Lw_law_2062 (d + 1) h_23 r0 r1 r2 r3 i4
          else
          am_01 0 (some (.inr (some (.int 0)), h_23))
        else
        f_Lw_law_2062 (d + 1) h_23 r0 r1 r2 r3 i4
      else
      am_01 0 (some (.inr (some (.int 0)), h_23))
    else
    if ((am_I h r0 j_2) &&& 31) = 2 then
      am_ck h r1 7 <| am_ci (f_Lc_fault d h r1) fun x_27 h_26 =>
      am_ck h_26 r2 8 <| am_ci (f_Rf_fault d h_26 r2) fun x_29 h_28 =>
      if x_27 = x_29 then
        f_Lw_law_2062 (d + 1) h_28 r0 r1 r2 r3 i4
      else
      am_01 0 (some (.inr (some (.int 0)), h_28))
    else
    if ((am_I h r0 j_2) &&& 31) = 3 then
      am_ar h 15 r0 (i4 + 1) fun j_30 =>
      am_ci (f_Lw_turn d h r1 (am_I h r0 j_30) r3) fun x_32 h_31 =>
      am_ar h_31 15 r0 (i4 + 1) fun j_33 =>
      am_ck h_31 r2 8 <| am_ci (f_Rf_turn d h_31 r2 (am_I h_31 r0 j_33)) fun x_35 h_34 =>
      am_ck h_34 r2 8 <| am_ci (f_Rf_thrown d h_34 r2) fun x_37 h_36 =>
      if x_37 = x_32 then
        if x_32 = 0 then
          am_ar h_36 10 r3 0 fun j_38 =>
          if (lg_cmp (am_L h_36 r3 j_38) (Int32.toInt64 x_35)) = 0 then
            f_Lw_law_2062 (d + 1) h_36 r0 r1 r2 r3 i4
          else
          am_01 0 (some (.inr (some (.int 0)), h_36))
        else
        f_Lw_law_2062 (d + 1) h_36 r0 r1 r2 r3 i4
      else
      am_01 0 (some (.inr (some (.int 0)), h_36))
    else
    if ((am_I h r0 j_2) &&& 31) = 4 then
      am_ck h r1 7 <| am_ci (f_Lc_undo d h r1) fun x_40 h_39 =>
      am_ck h_39 r2 8 <| am_ci (f_Rf_undo d h_39 r2) fun x_42 h_41 =>
      if x_40 = x_42 then
        f_Lw_law_2062 (d + 1) h_41 r0 r1 r2 r3 i4
      else
      am_01 0 (some (.inr (some (.int 0)), h_41))
    else
    if ((am_I h r0 j_2) &&& 31) = 5 then
      am_ar h 15 r0 (i4 + 1) fun j_43 =>
      am_ci (f_Lw_told d h r1 (am_I h r0 j_43) r3) fun x_45 h_44 =>
      am_ar h_44 15 r0 (i4 + 1) fun j_46 =>
      am_ck h_44 r2 8 <| am_ci (f_Rf_told d h_44 r2 (am_I h_44 r0 j_46)) fun x_48 h_47 =>
      am_ck h_47 r2 8 <| am_ci (f_Rf_thrown d h_47 r2) fun x_50 h_49 =>
      if x_50 = x_45 then
        if x_45 = 0 then
          am_ar h_49 10 r3 0 fun j_51 =>
          if (lg_cmp (am_L h_49 r3 j_51) (Int32.toInt64 x_48)) = 0 then
            f_Lw_law_2062 (d + 1) h_49 r0 r1 r2 r3 i4
          else
          am_01 0 (some (.inr (some (.int 0)), h_49))
        else
        f_Lw_law_2062 (d + 1) h_49 r0 r1 r2 r3 i4
      else
      am_01 0 (some (.inr (some (.int 0)), h_49))
    else
    if ((am_I h r0 j_2) &&& 31) = 6 then
      am_ar h 15 r0 (i4 + 1) fun j_52 =>
      am_ar h 15 r0 (i4 + 2) fun j_53 =>
      am_ci (f_Lw_axiom d h r1 (am_I h r0 j_52) (am_I h r0 j_53) r3) fun x_55 h_54 =>
      am_ar h_54 15 r0 (i4 + 1) fun j_56 =>
      am_ar h_54 15 r0 (i4 + 2) fun j_57 =>
      am_ck h_54 r2 8 <| am_ci (f_Rf_axiom d h_54 r2 (am_I h_54 r0 j_56) (am_I h_54 r0 j_57)) fun x_59 h_58 =>
      am_ck h_58 r2 8 <| am_ci (f_Rf_thrown d h_58 r2) fun x_61 h_60 =>
      if x_61 = x_55 then
        if x_55 = 0 then
          am_ar h_60 10 r3 0 fun j_62 =>
          if (lg_cmp (am_L h_60 r3 j_62) (Int32.toInt64 x_59)) = 0 then
            f_Lw_law_2062 (d + 1) h_60 r0 r1 r2 r3 i4
          else
          am_01 0 (some (.inr (some (.int 0)), h_60))
        else
        f_Lw_law_2062 (d + 1) h_60 r0 r1 r2 r3 i4
      else
      am_01 0 (some (.inr (some (.int 0)), h_60))
    else
    if ((am_I h r0 j_2) &&& 31) = 7 then
      am_ar h 15 r0 (i4 + 1) fun j_63 =>
      am_ar h 15 r0 (i4 + 2) fun j_64 =>
      am_ci (f_Lw_part d h r1 (am_I h r0 j_63) (am_I h r0 j_64) r3) fun x_66 h_65 =>
      am_ar h_65 15 r0 (i4 + 1) fun j_67 =>
      am_ar h_65 15 r0 (i4 + 2) fun j_68 =>
      am_ck h_65 r2 8 <| am_ci (f_Rf_part d h_65 r2 (am_I h_65 r0 j_67) (am_I h_65 r0 j_68)) fun x_70 h_69 =>
      am_ck h_69 r2 8 <| am_ci (f_Rf_thrown d h_69 r2) fun x_72 h_71 =>
      if x_72 = x_66 then
        if x_66 = 0 then
          am_ar h_71 10 r3 0 fun j_73 =>
          if (lg_cmp (am_L h_71 r3 j_73) (Int32.toInt64 x_70)) = 0 then
            f_Lw_law_2062 (d + 1) h_71 r0 r1 r2 r3 i4
          else
          am_01 0 (some (.inr (some (.int 0)), h_71))
        else
        f_Lw_law_2062 (d + 1) h_71 r0 r1 r2 r3 i4
      else
      am_01 0 (some (.inr (some (.int 0)), h_71))
    else
    if ((am_I h r0 j_2) &&& 31) = 8 then
      am_ar h 15 r0 (i4 + 1) fun j_74 =>
      am_ar h 15 r0 (i4 + 2) fun j_75 =>
      am_ar h 15 r0 (i4 + 3) fun j_76 =>
      am_ci (f_Lw_letter d h r1 (am_I h r0 j_74) (am_I h r0 j_75) (am_I h r0 j_76) r3) fun x_78 h_77 =>
      am_ar h_77 15 r0 (i4 + 1) fun j_79 =>
      am_ar h_77 15 r0 (i4 + 2) fun j_80 =>
      am_ar h_77 15 r0 (i4 + 3) fun j_81 =>
      am_ck h_77 r2 8 <| am_ci (f_Rf_letter d h_77 r2 (am_I h_77 r0 j_79) (am_I h_77 r0 j_80) (am_I h_77 r0 j_81)) fun x_83 h_82 =>
      am_ck h_82 r2 8 <| am_ci (f_Rf_thrown d h_82 r2) fun x_85 h_84 =>
      if x_85 = x_78 then
        if x_78 = 0 then
          am_ar h_84 10 r3 0 fun j_86 =>
          if (lg_cmp (am_L h_84 r3 j_86) (Int32.toInt64 x_83)) = 0 then
            f_Lw_law_2062 (d + 1) h_84 r0 r1 r2 r3 i4
          else
          am_01 0 (some (.inr (some (.int 0)), h_84))
        else
        f_Lw_law_2062 (d + 1) h_84 r0 r1 r2 r3 i4
      else
      am_01 0 (some (.inr (some (.int 0)), h_84))
    else
    if ((am_I h r0 j_2) &&& 31) = 9 then
      am_ar h 15 r0 (i4 + 1) fun j_87 =>
      am_ci (f_Lw_named d h r1 (am_I h r0 j_87) r3) fun x_89 h_88 =>
      am_ar h_88 15 r0 (i4 + 1) fun j_90 =>
      am_ck h_88 r2 8 <| am_ci (f_Rf_named d h_88 r2 (am_I h_88 r0 j_90)) fun x_92 h_91 =>
      am_ck h_91 r2 8 <| am_ci (f_Rf_thrown d h_91 r2) fun x_94 h_93 =>
      if x_94 = x_89 then
        if x_89 = 0 then
          am_ar h_93 10 r3 0 fun j_95 =>
          if (lg_cmp (am_L h_93 r3 j_95) (Int32.toInt64 x_92)) = 0 then
            f_Lw_law_2062 (d + 1) h_93 r0 r1 r2 r3 i4
          else
          am_01 0 (some (.inr (some (.int 0)), h_93))
        else
        f_Lw_law_2062 (d + 1) h_93 r0 r1 r2 r3 i4
      else
      am_01 0 (some (.inr (some (.int 0)), h_93))
    else
    if ((am_I h r0 j_2) &&& 31) = 10 then
      am_ar h 15 r0 (i4 + 1) fun j_96 =>
      am_ar h 15 r0 (i4 + 2) fun j_97 =>
      am_ci (f_Lw_below d h r1 (am_I h r0 j_96) (am_I h r0 j_97) r3) fun x_99 h_98 =>
      am_ar h_98 15 r0 (i4 + 1) fun j_100 =>
      am_ar h_98 15 r0 (i4 + 2) fun j_101 =>
      am_ck h_98 r2 8 <| am_ci (f_Rf_below d h_98 r2 (am_I h_98 r0 j_100) (am_I h_98 r0 j_101)) fun x_103 h_102 =>
      am_ck h_102 r2 8 <| am_ci (f_Rf_thrown d h_102 r2) fun x_105 h_104 =>
      if x_105 = x_99 then
        if x_99 = 0 then
          am_ar h_104 10 r3 0 fun j_106 =>
          if x_103 = 0 then
            if (lg_cmp (am_L h_104 r3 j_106) 0) = 0 then
              f_Lw_law_2062 (d + 1) h_104 r0 r1 r2 r3 i4
            else
            am_01 0 (some (.inr (some (.int 0)), h_104))
          else
          if (lg_cmp (am_L h_104 r3 j_106) 1) = 0 then
            f_Lw_law_2062 (d + 1) h_104 r0 r1 r2 r3 i4
          else
          am_01 0 (some (.inr (some (.int 0)), h_104))
        else
        f_Lw_law_2062 (d + 1) h_104 r0 r1 r2 r3 i4
      else
      am_01 0 (some (.inr (some (.int 0)), h_104))
    else
    if ((am_I h r0 j_2) &&& 31) = 11 then
      am_ar h 15 r0 (i4 + 1) fun j_107 =>
      am_ar h 15 r0 (i4 + 2) fun j_108 =>
      am_ci (f_Lw_when d h r1 (am_I h r0 j_107) (am_I h r0 j_108) r3) fun x_110 h_109 =>
      am_ar h_109 15 r0 (i4 + 1) fun j_111 =>
      am_ar h_109 15 r0 (i4 + 2) fun j_112 =>
      am_ck h_109 r2 8 <| am_ci (f_Rf_when d h_109 r2 (am_I h_109 r0 j_111) (am_I h_109 r0 j_112)) fun x_114 h_113 =>
      am_ck h_113 r2 8 <| am_ci (f_Rf_thrown d h_113 r2) fun x_116 h_115 =>
      if x_116 = x_110 then
        if x_110 = 0 then
          am_ar h_115 10 r3 0 fun j_117 =>
          if (lg_cmp (am_L h_115 r3 j_117) (Int32.toInt64 x_114)) = 0 then
            f_Lw_law_2062 (d + 1) h_115 r0 r1 r2 r3 i4
          else
          am_01 0 (some (.inr (some (.int 0)), h_115))
        else
        f_Lw_law_2062 (d + 1) h_115 r0 r1 r2 r3 i4
      else
      am_01 0 (some (.inr (some (.int 0)), h_115))
    else
    if ((am_I h r0 j_2) &&& 31) = 12 then
      am_ar h 15 r0 (i4 + 1) fun j_118 =>
      am_ar h 15 r0 (i4 + 2) fun j_119 =>
      am_ar h 15 r0 (i4 + 3) fun j_120 =>
      am_ci (f_Lw_why d h r1 (am_I h r0 j_118) (am_I h r0 j_119) (am_I h r0 j_120) r3) fun x_122 h_121 =>
      am_ar h_121 15 r0 (i4 + 1) fun j_123 =>
      am_ar h_121 15 r0 (i4 + 2) fun j_124 =>
      am_ar h_121 15 r0 (i4 + 3) fun j_125 =>
      am_ck h_121 r2 8 <| am_ci (f_Rf_why d h_121 r2 (am_I h_121 r0 j_123) (am_I h_121 r0 j_124) (am_I h_121 r0 j_125)) fun x_127 h_126 =>
      am_ck h_126 r2 8 <| am_ci (f_Rf_thrown d h_126 r2) fun x_129 h_128 =>
      if x_129 = x_122 then
        if x_122 = 0 then
          am_ar h_128 10 r3 0 fun j_130 =>
          if (lg_cmp (am_L h_128 r3 j_130) (Int32.toInt64 x_127)) = 0 then
            f_Lw_law_2062 (d + 1) h_128 r0 r1 r2 r3 i4
          else
          am_01 0 (some (.inr (some (.int 0)), h_128))
        else
        f_Lw_law_2062 (d + 1) h_128 r0 r1 r2 r3 i4
      else
      am_01 0 (some (.inr (some (.int 0)), h_128))
    else
    if ((am_I h r0 j_2) &&& 31) = 13 then
      am_ar h 15 r0 (i4 + 1) fun j_131 =>
      am_ar h 15 r0 (i4 + 2) fun j_132 =>
      am_ar h 15 r0 (i4 + 3) fun j_133 =>
      am_ci (f_Lw_link d h r1 (am_I h r0 j_131) (am_I h r0 j_132) (am_I h r0 j_133) r3) fun x_135 h_134 =>
      am_ar h_134 15 r0 (i4 + 1) fun j_136 =>
      am_ar h_134 15 r0 (i4 + 2) fun j_137 =>
      am_ar h_134 15 r0 (i4 + 3) fun j_138 =>
      am_ck h_134 r2 8 <| am_ci (f_Rf_link d h_134 r2 (am_I h_134 r0 j_136) (am_I h_134 r0 j_137) (am_I h_134 r0 j_138)) fun x_140 h_139 =>
      am_ck h_139 r2 8 <| am_ci (f_Rf_thrown d h_139 r2) fun x_142 h_141 =>
      if x_142 = x_135 then
        if x_135 = 0 then
          am_ar h_141 10 r3 0 fun j_143 =>
          if x_140 = 0 then
            if (lg_cmp (am_L h_141 r3 j_143) 0) = 0 then
              f_Lw_law_2062 (d + 1) h_141 r0 r1 r2 r3 i4
            else
            am_01 0 (some (.inr (some (.int 0)), h_141))
          else
          if (lg_cmp (am_L h_141 r3 j_143) 1) = 0 then
            f_Lw_law_2062 (d + 1) h_141 r0 r1 r2 r3 i4
          else
          am_01 0 (some (.inr (some (.int 0)), h_141))
        else
        f_Lw_law_2062 (d + 1) h_141 r0 r1 r2 r3 i4
      else
      am_01 0 (some (.inr (some (.int 0)), h_141))
    else
    if ((am_I h r0 j_2) &&& 31) = 14 then
      am_ar h 15 r0 (i4 + 1) fun j_144 =>
      am_ci (f_Lw_under d h r1 (am_I h r0 j_144) r3) fun x_146 h_145 =>
      am_ar h_145 15 r0 (i4 + 1) fun j_147 =>
      am_ck h_145 r2 8 <| am_ci (f_Rf_under d h_145 r2 (am_I h_145 r0 j_147)) fun x_149 h_148 =>
      am_ck h_148 r2 8 <| am_ci (f_Rf_thrown d h_148 r2) fun x_151 h_150 =>
      if x_151 = x_146 then
        if x_146 = 0 then
          am_ar h_150 10 r3 0 fun j_152 =>
          if (lg_cmp (am_L h_150 r3 j_152) (Int32.toInt64 x_149)) = 0 then
            f_Lw_law_2062 (d + 1) h_150 r0 r1 r2 r3 i4
          else
          am_01 0 (some (.inr (some (.int 0)), h_150))
        else
        f_Lw_law_2062 (d + 1) h_150 r0 r1 r2 r3 i4
      else
      am_01 0 (some (.inr (some (.int 0)), h_150))
    else
    if ((am_I h r0 j_2) &&& 31) = 15 then
      am_ar h 15 r0 (i4 + 1) fun j_153 =>
      am_ci (f_Lw_node d h r1 (am_I h r0 j_153) r3) fun x_155 h_154 =>
      am_ar h_154 15 r0 (i4 + 1) fun j_156 =>
      am_ck h_154 r2 8 <| am_ci (f_Rf_node d h_154 r2 (am_I h_154 r0 j_156)) fun x_158 h_157 =>
      am_ck h_157 r2 8 <| am_ci (f_Rf_thrown d h_157 r2) fun x_160 h_159 =>
      if x_160 = x_155 then
        if x_155 = 0 then
          am_ar h_159 10 r3 0 fun j_161 =>
          if (lg_cmp (am_L h_159 r3 j_161) (Int32.toInt64 x_158)) = 0 then
            f_Lw_law_2062 (d + 1) h_159 r0 r1 r2 r3 i4
          else
          am_01 0 (some (.inr (some (.int 0)), h_159))
        else
        f_Lw_law_2062 (d + 1) h_159 r0 r1 r2 r3 i4
      else
      am_01 0 (some (.inr (some (.int 0)), h_159))
    else
    if ((am_I h r0 j_2) &&& 31) = 16 then
      am_ar h 15 r0 (i4 + 1) fun j_162 =>
      am_ar h 15 r0 (i4 + 2) fun j_163 =>
      am_ci (f_Lw_nodeOf d h r1 (am_I h r0 j_162) (am_I h r0 j_163) r3) fun x_165 h_164 =>
      am_ar h_164 15 r0 (i4 + 1) fun j_166 =>
      am_ar h_164 15 r0 (i4 + 2) fun j_167 =>
      am_ck h_164 r2 8 <| am_ci (f_Rf_nodeOf d h_164 r2 (am_I h_164 r0 j_166) (am_I h_164 r0 j_167)) fun x_169 h_168 =>
      am_ck h_168 r2 8 <| am_ci (f_Rf_thrown d h_168 r2) fun x_171 h_170 =>
      if x_171 = x_165 then
        if x_165 = 0 then
          am_ar h_170 10 r3 0 fun j_172 =>
          if (lg_cmp (am_L h_170 r3 j_172) (Int32.toInt64 x_169)) = 0 then
            f_Lw_law_2062 (d + 1) h_170 r0 r1 r2 r3 i4
          else
          am_01 0 (some (.inr (some (.int 0)), h_170))
        else
        f_Lw_law_2062 (d + 1) h_170 r0 r1 r2 r3 i4
      else
      am_01 0 (some (.inr (some (.int 0)), h_170))
    else
    if ((am_I h r0 j_2) &&& 31) = 17 then
      am_ck h r1 7 <| am_ci (f_Lc_nothing d h r1) fun x_174 h_173 =>
      am_ck h_173 r2 8 <| am_ci (f_Rf_nothing d h_173 r2) fun x_176 h_175 =>
      if x_174 = x_176 then
        f_Lw_law_2062 (d + 1) h_175 r0 r1 r2 r3 i4
      else
      am_01 0 (some (.inr (some (.int 0)), h_175))
    else
    if ((am_I h r0 j_2) &&& 31) = 18 then
      am_ar h 15 r0 (i4 + 1) fun j_177 =>
      am_ar h 15 r0 (i4 + 2) fun j_178 =>
      am_ci (f_Lw_common d h r1 (am_I h r0 j_177) (am_I h r0 j_178) r3) fun x_180 h_179 =>
      am_ar h_179 15 r0 (i4 + 1) fun j_181 =>
      am_ar h_179 15 r0 (i4 + 2) fun j_182 =>
      am_ck h_179 r2 8 <| am_ci (f_Rf_common d h_179 r2 (am_I h_179 r0 j_181) (am_I h_179 r0 j_182)) fun x_184 h_183 =>
      am_ck h_183 r2 8 <| am_ci (f_Rf_thrown d h_183 r2) fun x_186 h_185 =>
      if x_186 = x_180 then
        if x_180 = 0 then
          am_ar h_185 10 r3 0 fun j_187 =>
          if (lg_cmp (am_L h_185 r3 j_187) (Int32.toInt64 x_184)) = 0 then
            f_Lw_law_2062 (d + 1) h_185 r0 r1 r2 r3 i4
          else
          am_01 0 (some (.inr (some (.int 0)), h_185))
        else
        f_Lw_law_2062 (d + 1) h_185 r0 r1 r2 r3 i4
      else
      am_01 0 (some (.inr (some (.int 0)), h_185))
    else
    if ((am_I h r0 j_2) &&& 31) = 19 then
      am_ar h 15 r0 (i4 + 1) fun j_188 =>
      am_ar h 15 r0 (i4 + 2) fun j_189 =>
      am_ci (f_Lw_needed d h r1 (am_I h r0 j_188) (am_I h r0 j_189) r3) fun x_191 h_190 =>
      am_ar h_190 15 r0 (i4 + 1) fun j_192 =>
      am_ar h_190 15 r0 (i4 + 2) fun j_193 =>
      am_ck h_190 r2 8 <| am_cl (f_Rf_needed d h_190 r2 (am_I h_190 r0 j_192) (am_I h_190 r0 j_193)) fun y_195 h_194 =>
      am_ck h_194 r2 8 <| am_ci (f_Rf_thrown d h_194 r2) fun x_197 h_196 =>
      if x_197 = x_191 then
        if x_191 = 0 then
          am_ar h_196 10 r3 0 fun j_198 =>
          if (lg_cmp (am_L h_196 r3 j_198) y_195) = 0 then
            f_Lw_law_2062 (d + 1) h_196 r0 r1 r2 r3 i4
          else
          am_01 0 (some (.inr (some (.int 0)), h_196))
        else
        f_Lw_law_2062 (d + 1) h_196 r0 r1 r2 r3 i4
      else
      am_01 0 (some (.inr (some (.int 0)), h_196))
    else
    if ((am_I h r0 j_2) &&& 31) = 20 then
      am_ar h 15 r0 (i4 + 1) fun j_199 =>
      am_ar h 15 r0 (i4 + 2) fun j_200 =>
      am_ci (f_Lw_enough d h r1 (am_I h r0 j_199) (am_I h r0 j_200) r3) fun x_202 h_201 =>
      am_ar h_201 15 r0 (i4 + 1) fun j_203 =>
      am_ar h_201 15 r0 (i4 + 2) fun j_204 =>
      am_ck h_201 r2 8 <| am_cl (f_Rf_enough d h_201 r2 (am_I h_201 r0 j_203) (am_I h_201 r0 j_204)) fun y_206 h_205 =>
      am_ck h_205 r2 8 <| am_ci (f_Rf_thrown d h_205 r2) fun x_208 h_207 =>
      if x_208 = x_202 then
        if x_202 = 0 then
          am_ar h_207 10 r3 0 fun j_209 =>
          if (lg_cmp (am_L h_207 r3 j_209) y_206) = 0 then
            f_Lw_law_2062 (d + 1) h_207 r0 r1 r2 r3 i4
          else
          am_01 0 (some (.inr (some (.int 0)), h_207))
        else
        f_Lw_law_2062 (d + 1) h_207 r0 r1 r2 r3 i4
      else
      am_01 0 (some (.inr (some (.int 0)), h_207))
    else
    if ((am_I h r0 j_2) &&& 31) = 21 then
      am_ar h 15 r0 (i4 + 1) fun j_210 =>
      am_ar h 15 r0 (i4 + 2) fun j_211 =>
      am_ar h 15 r0 (i4 + 3) fun j_212 =>
      am_ci (f_Lw_reason d h r1 (am_I h r0 j_210) (am_I h r0 j_211) (am_I h r0 j_212) r3) fun x_214 h_213 =>
      am_ar h_213 15 r0 (i4 + 1) fun j_215 =>
      am_ar h_213 15 r0 (i4 + 2) fun j_216 =>
      am_ar h_213 15 r0 (i4 + 3) fun j_217 =>
      am_ck h_213 r2 8 <| am_cl (f_Rf_reason d h_213 r2 (am_I h_213 r0 j_215) (am_I h_213 r0 j_216) (am_I h_213 r0 j_217)) fun y_219 h_218 =>
      am_ck h_218 r2 8 <| am_ci (f_Rf_thrown d h_218 r2) fun x_221 h_220 =>
      if x_221 = x_214 then
        if x_214 = 0 then
          am_ar h_220 10 r3 0 fun j_222 =>
          if (lg_cmp (am_L h_220 r3 j_222) y_219) = 0 then
            f_Lw_law_2062 (d + 1) h_220 r0 r1 r2 r3 i4
          else
          am_01 0 (some (.inr (some (.int 0)), h_220))
        else
        f_Lw_law_2062 (d + 1) h_220 r0 r1 r2 r3 i4
      else
      am_01 0 (some (.inr (some (.int 0)), h_220))
    else
    if ((am_I h r0 j_2) &&& 31) = 22 then
      am_ar h 15 r0 (i4 + 1) fun j_223 =>
      am_ar h 15 r0 (i4 + 2) fun j_224 =>
      am_ci (f_Lw_repair d h r1 (am_I h r0 j_223) (am_I h r0 j_224) r3) fun x_226 h_225 =>
      am_ar h_225 15 r0 (i4 + 1) fun j_227 =>
      am_ar h_225 15 r0 (i4 + 2) fun j_228 =>
      am_ck h_225 r2 8 <| am_cl (f_Rf_repair d h_225 r2 (am_I h_225 r0 j_227) (am_I h_225 r0 j_228)) fun y_230 h_229 =>
      am_ck h_229 r2 8 <| am_ci (f_Rf_thrown d h_229 r2) fun x_232 h_231 =>
      if x_232 = x_226 then
        if x_226 = 0 then
          am_ar h_231 10 r3 0 fun j_233 =>
          if (lg_cmp (am_L h_231 r3 j_233) y_230) = 0 then
            f_Lw_law_2062 (d + 1) h_231 r0 r1 r2 r3 i4
          else
          am_01 0 (some (.inr (some (.int 0)), h_231))
        else
        f_Lw_law_2062 (d + 1) h_231 r0 r1 r2 r3 i4
      else
      am_01 0 (some (.inr (some (.int 0)), h_231))
    else
    if ((am_I h r0 j_2) &&& 31) = 23 then
      am_ar h 15 r0 (i4 + 1) fun j_234 =>
      am_ar h 15 r0 (i4 + 2) fun j_235 =>
      am_ar h 15 r0 (i4 + 3) fun j_236 =>
      am_ci (f_Lw_likeness d h r1 (am_I h r0 j_234) (am_I h r0 j_235) (am_I h r0 j_236) r3) fun x_238 h_237 =>
      am_ar h_237 15 r0 (i4 + 1) fun j_239 =>
      am_ar h_237 15 r0 (i4 + 2) fun j_240 =>
      am_ar h_237 15 r0 (i4 + 3) fun j_241 =>
      am_ck h_237 r2 8 <| am_ci (f_Rf_likeness d h_237 r2 (am_I h_237 r0 j_239) (am_I h_237 r0 j_240) (am_I h_237 r0 j_241)) fun x_243 h_242 =>
      am_ck h_242 r2 8 <| am_ci (f_Rf_thrown d h_242 r2) fun x_245 h_244 =>
      if x_245 = x_238 then
        if x_238 = 0 then
          am_ar h_244 10 r3 0 fun j_246 =>
          if (lg_cmp (am_L h_244 r3 j_246) (Int32.toInt64 x_243)) = 0 then
            f_Lw_law_2062 (d + 1) h_244 r0 r1 r2 r3 i4
          else
          am_01 0 (some (.inr (some (.int 0)), h_244))
        else
        f_Lw_law_2062 (d + 1) h_244 r0 r1 r2 r3 i4
      else
      am_01 0 (some (.inr (some (.int 0)), h_244))
    else
    if ((am_I h r0 j_2) &&& 31) = 24 then
      am_ar h 15 r0 (i4 + 1) fun j_247 =>
      am_ci (f_Lw_atom d h r1 (am_I h r0 j_247) r3) fun x_249 h_248 =>
      am_ar h_248 15 r0 (i4 + 1) fun j_250 =>
      am_ck h_248 r2 8 <| am_ci (f_Rf_atom_1 d h_248 r2 (am_I h_248 r0 j_250)) fun x_252 h_251 =>
      am_ck h_251 r2 8 <| am_ci (f_Rf_thrown d h_251 r2) fun x_254 h_253 =>
      if x_254 = x_249 then
        if x_249 = 0 then
          am_ar h_253 10 r3 0 fun j_255 =>
          if (lg_cmp (am_L h_253 r3 j_255) (Int32.toInt64 x_252)) = 0 then
            f_Lw_law_2062 (d + 1) h_253 r0 r1 r2 r3 i4
          else
          am_01 0 (some (.inr (some (.int 0)), h_253))
        else
        f_Lw_law_2062 (d + 1) h_253 r0 r1 r2 r3 i4
      else
      am_01 0 (some (.inr (some (.int 0)), h_253))
    else
    if ((am_I h r0 j_2) &&& 31) = 25 then
      am_ar h 15 r0 (i4 + 1) fun j_256 =>
      am_ci (f_Lw_depends d h r1 (am_I h r0 j_256) r3) fun x_258 h_257 =>
      am_ar h_257 15 r0 (i4 + 1) fun j_259 =>
      am_ck h_257 r2 8 <| am_cl (f_Rf_depends d h_257 r2 (am_I h_257 r0 j_259)) fun y_261 h_260 =>
      am_ck h_260 r2 8 <| am_ci (f_Rf_thrown d h_260 r2) fun x_263 h_262 =>
      if x_263 = x_258 then
        if x_258 = 0 then
          am_ar h_262 10 r3 0 fun j_264 =>
          if (lg_cmp (am_L h_262 r3 j_264) y_261) = 0 then
            f_Lw_law_2062 (d + 1) h_262 r0 r1 r2 r3 i4
          else
          am_01 0 (some (.inr (some (.int 0)), h_262))
        else
        f_Lw_law_2062 (d + 1) h_262 r0 r1 r2 r3 i4
      else
      am_01 0 (some (.inr (some (.int 0)), h_262))
    else
    if ((am_I h r0 j_2) &&& 31) = 26 then
      am_ar h 15 r0 (i4 + 1) fun j_265 =>
      am_ar h 15 r0 (i4 + 2) fun j_266 =>
      am_ar h 15 r0 (i4 + 3) fun j_267 =>
      am_ci (f_Lw_module d h r1 (am_I h r0 j_265) (am_I h r0 j_266) (am_I h r0 j_267) r3) fun x_269 h_268 =>
      am_ar h_268 15 r0 (i4 + 1) fun j_270 =>
      am_ar h_268 15 r0 (i4 + 2) fun j_271 =>
      am_ar h_268 15 r0 (i4 + 3) fun j_272 =>
      am_ck h_268 r2 8 <| am_cl (f_Rf_module d h_268 r2 (am_I h_268 r0 j_270) (am_I h_268 r0 j_271) (am_I h_268 r0 j_272)) fun y_274 h_273 =>
      am_ck h_273 r2 8 <| am_ci (f_Rf_thrown d h_273 r2) fun x_276 h_275 =>
      if x_276 = x_269 then
        if x_269 = 0 then
          am_ar h_275 10 r3 0 fun j_277 =>
          if (lg_cmp (am_L h_275 r3 j_277) y_274) = 0 then
            f_Lw_law_2062 (d + 1) h_275 r0 r1 r2 r3 i4
          else
          am_01 0 (some (.inr (some (.int 0)), h_275))
        else
        f_Lw_law_2062 (d + 1) h_275 r0 r1 r2 r3 i4
      else
      am_01 0 (some (.inr (some (.int 0)), h_275))
    else
    if ((am_I h r0 j_2) &&& 31) = 27 then
      am_ar h 15 r0 (i4 + 1) fun j_278 =>
      am_ci (f_Lw_ask d h r1 (am_I h r0 j_278) r3) fun x_280 h_279 =>
      am_ar h_279 15 r0 (i4 + 1) fun j_281 =>
      am_ck h_279 r2 8 <| am_ci (f_Rf_ask d h_279 r2 (am_I h_279 r0 j_281)) fun x_283 h_282 =>
      am_ck h_282 r2 8 <| am_ci (f_Rf_thrown d h_282 r2) fun x_285 h_284 =>
      if x_285 = x_280 then
        if x_280 = 0 then
          am_ar h_284 10 r3 0 fun j_286 =>
          if (lg_cmp (am_L h_284 r3 j_286) (Int32.toInt64 x_283)) = 0 then
            f_Lw_law_2062 (d + 1) h_284 r0 r1 r2 r3 i4
          else
          am_01 0 (some (.inr (some (.int 0)), h_284))
        else
        f_Lw_law_2062 (d + 1) h_284 r0 r1 r2 r3 i4
      else
      am_01 0 (some (.inr (some (.int 0)), h_284))
    else
    if ((am_I h r0 j_2) &&& 31) = 28 then
      am_ar h 15 r0 (i4 + 1) fun j_287 =>
      am_ar h 15 r0 (i4 + 2) fun j_288 =>
      am_ci (f_Lw_of d h r1 (am_I h r0 j_287) (am_I h r0 j_288) r3) fun x_290 h_289 =>
      am_ar h_289 15 r0 (i4 + 1) fun j_291 =>
      am_ar h_289 15 r0 (i4 + 2) fun j_292 =>
      am_ck h_289 r2 8 <| am_ci (f_Rf_of d h_289 r2 (am_I h_289 r0 j_291) (am_I h_289 r0 j_292)) fun x_294 h_293 =>
      am_ck h_293 r2 8 <| am_ci (f_Rf_thrown d h_293 r2) fun x_296 h_295 =>
      if x_296 = x_290 then
        if x_290 = 0 then
          am_ar h_295 10 r3 0 fun j_297 =>
          if (lg_cmp (am_L h_295 r3 j_297) (Int32.toInt64 x_294)) = 0 then
            f_Lw_law_2062 (d + 1) h_295 r0 r1 r2 r3 i4
          else
          am_01 0 (some (.inr (some (.int 0)), h_295))
        else
        f_Lw_law_2062 (d + 1) h_295 r0 r1 r2 r3 i4
      else
      am_01 0 (some (.inr (some (.int 0)), h_295))
    else
    if ((am_I h r0 j_2) &&& 31) = 29 then
      am_ar h 15 r0 (i4 + 1) fun j_298 =>
      am_ci (f_Lw_model d h r1 (am_I h r0 j_298) r3) fun x_300 h_299 =>
      am_ar h_299 15 r0 (i4 + 1) fun j_301 =>
      am_ck h_299 r2 8 <| am_cl (f_Rf_model d h_299 r2 (am_I h_299 r0 j_301)) fun y_303 h_302 =>
      am_ck h_302 r2 8 <| am_ci (f_Rf_thrown d h_302 r2) fun x_305 h_304 =>
      if x_305 = x_300 then
        if x_300 = 0 then
          am_ar h_304 10 r3 0 fun j_306 =>
          if (lg_cmp (am_L h_304 r3 j_306) y_303) = 0 then
            f_Lw_law_2062 (d + 1) h_304 r0 r1 r2 r3 i4
          else
          am_01 0 (some (.inr (some (.int 0)), h_304))
        else
        f_Lw_law_2062 (d + 1) h_304 r0 r1 r2 r3 i4
      else
      am_01 0 (some (.inr (some (.int 0)), h_304))
    else
    if ((am_I h r0 j_2) &&& 31) = 30 then
      am_ck h r1 7 <| am_cl (f_Lc_print d h r1) fun y_308 h_307 =>
      am_ck h_307 r2 8 <| am_cl (f_Rf_print d h_307 r2) fun y_310 h_309 =>
      if (lg_cmp y_308 y_310) = 0 then
        f_Lw_law_2062 (d + 1) h_309 r0 r1 r2 r3 i4
      else
      am_01 0 (some (.inr (some (.int 0)), h_309))
    else
    if ((am_I h r0 j_2) &&& 31) = 31 then
      am_ar h 15 r0 (i4 + 1) fun j_311 =>
      am_ck h r1 7 <| am_ci (f_Lc_status d h r1 (am_I h r0 j_311)) fun x_313 h_312 =>
      am_ar h_312 15 r0 (i4 + 1) fun j_314 =>
      am_ck h_312 r2 8 <| am_ci (f_Rf_status d h_312 r2 (am_I h_312 r0 j_314)) fun x_316 h_315 =>
      if x_313 = x_316 then
        f_Lw_law_2062 (d + 1) h_315 r0 r1 r2 r3 i4
      else
      am_01 0 (some (.inr (some (.int 0)), h_315))
    else
    f_Lw_law_2062 (d + 1) h r0 r1 r2 r3 i4) := by
  refine (am_sem_seg (am_sm am_MT (d + 1)) m_Lw_law 69 23 [(0, .ref r0), (1, .ref r1), (2, .ref r2), (3, .ref r3), (4, .int i4)] [] h).trans ?_
  rfl
set_option maxRecDepth 100000 in
theorem e_Lw_law_2062 (d : Nat) (h : am_H) (r0 : Nat) (r1 : Nat) (r2 : Nat) (r3 : Nat) (i4 : Int32) : f_Lw_law_2062 d h r0 r1 r2 r3 i4 = (
    f_Lw_law_23 d h r0 r1 r2 r3 (i4 + 6)) := by
  refine (am_sem_seg (am_sm am_MT d) m_Lw_law 2 2062 [(0, .ref r0), (1, .ref r1), (2, .ref r2), (3, .ref r3), (4, .int i4)] [] h).trans ?_
  rfl
