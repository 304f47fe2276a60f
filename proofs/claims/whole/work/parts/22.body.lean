/-! ===== bodies, and all methods at all depths ===== -/
section BD
variable {p : Program} {l : Launch} {e : Env} {R : Room} {s : State} {m : MethodId} {args : Array Value} {below : List Frame} {meth : Method} {c : Code}
variable {D : va_G} {cA : Nat → ClassId} {g : Nat → Nat} {B b Ln : Nat} {xs : Nat → Int32} {adV : Nat → Nat} {MI : Nat → Option sm_M} {d : Nat} {q : sm_M} {F : Nat → List Value → am_H → Option am_R} {M : am_M} {nc0 ns0 mc ms : Nat} {r : am_R}
theorem sm_body (C : sm_Cx p l R s m args meth c D cA g B b Ln xs adV d q) (hst : sm_st l D cA g B b Ln xs adV) (hF : ∀ a As h r', F a As h = some r' → am_nc r'.2 ≤ 700000 → sm_ct D cA g B b Ln xs adV MI l d a As h r') (hFg : ∀ a As h r', F a As h = some r' → am_le h r'.2) (hokM : ∀ pc en, M.1 pc = some en → sm_ok MI q pc en) (hN : am_nc r.2 ≤ 700000)
    (hRc : am_nc r.2 ≤ nc0 + R.cells) (hRs : am_ns r.2 ≤ ns0 + R.slots) (hmc : nc0 + mc = am_nc r.2) (hms : ns0 + ms = am_ns r.2) (htb : sm_tb q.1 q.2.2.1 q.2.2.2.1 M.2.2.1 (q.2.2.2.2.2.getD [])) :
    ∀ (n pc : Nat) (L : am_V) (S : List Value) (h : am_H) (H : Heap) (locs : List Loc) (cells slots : Nat) (ls : Array Slot), am_run F M n pc L S h = some r → sm_I s D cA g B Ln xs q.2.2.2.1 nc0 ns0 h H locs cells slots ls L →
      W p l e R s m args below meth c H locs cells slots (vx_MQ below (sm_Q D cA g B Ln xs r) (sm_X D cA g B Ln xs r) args s mc ms (fun q => B ≤ q)) (F0 m pc ls (S.map (sm_v g)))
  | 0, _, _, _, _, _, _, _, _, _, hr, _ => by cases hr
  | n + 1, pc, L, S, h, H, locs, cells, slots, ls, hr, hI => by
    have hgr := am_run_grow hFg (n + 1) _ _ _ _ _ hr
    rw [am_run] at hr
    cases hm : M.1 pc with
    | none => rw [hm] at hr; cases hr
    | some en =>
      rw [hm] at hr
      exact sm_step C hst hF hFg (fun pc L S h hk => am_run_grow hFg n _ _ _ _ _ hk) hN hRc hRs hmc hms htb (fun pc L S h H locs cells slots ls hk hI => sm_body C hst hF hFg hokM hN hRc hRs hmc hms htb n _ _ _ _ _ _ _ _ _ hk ⟨hI.1, hI.2.1, lh_no hI.2.2.1, hI.2.2.2⟩) (hokM pc en hm) hgr hI hr
end BD
theorem sm_words : ∀ As : List Value, (lg_sl As).length = am_wd As
  | [] => rfl
  | v :: As => by
    have ih := sm_words As
    unfold lg_sl at ih ⊢
    unfold am_wd at ih ⊢
    rw [List.flatMap_cons, List.length_append, ih, List.map_cons, List.sum_cons]
    rcases lv_cat v with h | h <;> simp [h]
theorem sm_args (g : Nat → Nat) : ∀ (As : List Value) (i : Nat), lv_args i (As.map (sm_v g)) = (lv_args i As).map (sm_p g)
  | [], _ => rfl
  | v :: As, i => by
    rw [List.map_cons, lv_args, lv_args, List.map_cons, sm_v_cat, sm_args g As]
    rfl
/-- the tables fit the code -/
def sm_OK (MT : Nat → Option am_M) (MI : Nat → Option sm_M) : Prop := ∀ k M q, MT k = some M → MI k = some q → plainName q.2.1.cls = true ∧ q.2.1.cls = q.1 ∧ M.2.2.2 ≤ q.2.2.2.1 ∧ (∀ pc en, M.1 pc = some en → sm_ok MI q pc en) ∧ sm_tb q.1 q.2.2.1 q.2.2.2.1 M.2.2.1 (q.2.2.2.2.2.getD [])
set_option maxRecDepth 100000 in
/-- every method at every depth -/
theorem sm_meth {l : Launch} {D : va_G} {cA : Nat → ClassId} {g : Nat → Nat} {B b Ln : Nat} {xs : Nat → Int32} {adV : Nat → Nat} {MI : Nat → Option sm_M} {MT : Nat → Option am_M} (htr : l.stackTraces = false) (hg : sm_G g B b) (hst : sm_st l D cA g B b Ln xs adV) (hOK : sm_OK MT MI) :
    ∀ (d k : Nat) (As : List Value) (h : am_H) (r : am_R), am_sm MT d k As h = some r → am_nc r.2 ≤ 700000 → sm_ct D cA g B b Ln xs adV MI l d k As h r
  | 0, _, _, _, _, hr, _ => by cases hr
  | d + 1, k, As, h, r, hr, hN => by
    intro q hq mc ms hmc hms
    rw [am_sm] at hr
    cases hm : MT k with
    | none => rw [hm] at hr; cases hr
    | some M =>
      rw [hm] at hr
      dsimp only at hr
      obtain ⟨hwd, hr⟩ := iv_bif hr
      have hwd := Nat.le_of_ble_eq_true hwd
      obtain ⟨n, hn⟩ := am_sem_iff.mp hr
      obtain ⟨hpl, hcls, hnL, hokM, htb⟩ := hOK k M q hm hq
      have body : ∀ p e s m args below meth c s₁, BodyLoose p l q.2.1 (headSpec (sm_hw q :: sm_TB) (sm_rm (d + 1) mc ms)) q.2.2.1 q.2.2.2.1 q.2.2.2.2.1 e s m args below meth c s₁ → c.maxLocals = q.2.2.2.1 → c.exceptionTable.toList = tableOf (q.2.2.2.2.2.getD []) → sm_Pc D cA g B b Ln xs adV As h args s →
          W p l e (headSpec (sm_hw q :: sm_TB) (sm_rm (d + 1) mc ms)).room s m args below meth c s.heap [] 0 0 (vx_MQ below (sm_Q D cA g B Ln xs r) (sm_X D cA g B Ln xs r) args s mc ms (fun q => B ≤ q)) (entryFrame m args q.2.2.2.1) := by
        intro p e s m args below meth c s₁ Bo hml htab hP
        obtain ⟨rfl, hW, hA⟩ := hP
        have hts0 := atoms_spec (ws := sm_hw q :: sm_TB) Bo.pre
        have hts : ∀ w ∈ sm_TB, w.before (As.map (sm_v g)).toArray s = true := fun w hw => hts0 w (List.mem_cons_of_mem _ hw)
        have hown : s.vm.findClass q.1 = some m.cls := by rw [← hcls]; exact findClass_of_methodNamed Bo.named
        have hin : q.2.1.name = "<init>" → meth.name = "<init>" := fun z => by rw [(name_of_methodNamed Bo.named Bo.method).1]; exact z
        have hl := lv_entry (As.map (sm_v g)) (n := q.2.2.2.1) (by rw [sm_words]; exact Nat.le_trans (by rw [show am_wd (As.map (sm_v g)) = am_wd As from sm_cats g As]; exact hwd) hnL)
        rw [lg_entry_eq]
        rw [sm_args] at hl
        have C : sm_Cx p l (sm_rm (d + 1) mc ms) s m (As.map (sm_v g)).toArray meth c D cA g B b Ln xs adV d q := ⟨Bo.exec, Bo.bytes, Bo.returns, hml, hown, hts, Bo.notSynchronized, htab, hin, hA, hW.2.2.2.2.1, hg, htr, by rw [sm_rmF]; omega, by rw [sm_rmL]; omega⟩
        exact sm_body (nc0 := am_nc h) (ns0 := am_ns h) C hst (sm_meth htr hg hst hOK d) (am_sm_grow MT d) hokM hN (Nat.le_of_eq hmc.symm) (Nat.le_of_eq hms.symm) hmc hms htb n 0 _ [] h s.heap [] 0 0 _ hn ⟨hW, va_S.rf, hl, rfl, rfl⟩
      obtain ⟨own, y, cc, nL, ret, hh⟩ := q
      cases hh with
      | none =>
        exact vx_ofW hpl rfl (fun p e s m args below meth c s₁ Bo hml ht hP => body p e s m args below meth c s₁ Bo hml (by
          show c.exceptionTable.toList = []
          cases hq9 : c.exceptionTable.toList with
          | nil => rfl
          | cons x t => exact (ht x (by rw [hq9]; exact List.mem_cons_self)).elim) hP)
      | some hh =>
        exact vx_ofWH hpl rfl (fun p e s m args below meth c s₁ Bo hml hP => body p e s m args below meth c s₁ Bo hml (vx_table (x := y) Bo (atoms_spec (ws := sm_hw (own, y, cc, nL, ret, some hh) :: sm_TB) Bo.pre _ List.mem_cons_self)) hP)
