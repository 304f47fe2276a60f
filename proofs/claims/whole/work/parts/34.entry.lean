/-! ===== the law's end out of the abstract machine's run ===== -/
set_option maxRecDepth 100000
/-- the world at the start: the script alone -/
def sg_h (L : Nat) (xs : Nat → Int32) : am_H := (fun a => if a = 0 then xs else fun _ => 0, fun _ _ => 0, fun _ _ => none, [(15, L)], 0, 0)
/-- what is left to show: the abstract run of the law comes to 1 within its room -/
def sg_pure : Prop := ∀ (L : Nat) (xs : Nat → Int32), L ≤ 3072 → ∃ (d : Nat) (h : am_H), d ≤ 1000 ∧ am_sm am_MT (d + 1) 288 [.ref 0] (sg_h L xs) = some (.inr (some (.int 1)), h) ∧ am_nc h ≤ 1 + 601024 ∧ am_ns h ≤ L + 7293034
theorem sg_W {D : va_G} {cA : Nat → ClassId} {g : Nat → Nat} {L : Nat} {xs : Nat → Int32} {H : Heap} : sm_W D cA g H.size L xs (sg_h L xs) H := by
  refine ⟨fun k q hq => ?_, rfl, rfl, fun _ => rfl, Nat.le_refl _, fun o c n h => ?_⟩
  · cases hq
  · match o, h with
    | 0, h => cases h; exact Or.inr ⟨rfl, rfl⟩
    | n + 1, h => cases h
theorem sg_start {p : Program} {e : Env} {s : State} {m : MethodId} {below : List Frame} {meth : Method} {c : Code} (l : Launch) (htr : l.stackTraces = false) (hpu : sg_pure) {b L : Nat} {xs : Nat → Int32} (hL : L ≤ 3072)
    (hx : p.tables.exec = Jvm.exec) (hb : c.code = code) (hr : meth.sig.returnType = ret) (hml : c.maxLocals = 8) (hown : s.vm.findClass RL = some m.cls) (hts : ∀ w ∈ lw_tbl, w.before #[Value.ref b] s = true) (hX : va_X b L xs s s.heap) (hbl : b < s.heap.size) (hlk : meth.locks = false) (hgv : (Cond.and given_1 narrow_1).before #[Value.ref b] s = true) (htab : c.exceptionTable.toList = []) :
    W p l e room_1 s m #[Value.ref b] below meth c s.heap [] 0 0 (fun t => ∃ o, t.status = .running ∧ Ended t below o ∧ o = .returned (some (.int 1)) ∧ Framed s o t [] 601024 7293034) (entryFrame m ([Value.ref b] : List Value).toArray 8) := by
  obtain ⟨d, h, hd, hrun, hnc, hns⟩ := hpu L xs hL
  obtain ⟨D, cA, ad, adV, hA⟩ := sg_A hts hX hgv
  have hG : sm_G (sg_g s.heap.size b ad) s.heap.size b := sg_G hbl
  have hT : ∀ w ∈ sm_TB, w.before #[Value.ref b] s = true := fun w h => hts w (List.mem_filter.mp h).1
  rw [am_sm] at hrun
  have hm : am_MT 288 = some m_Lw_law := rfl
  rw [hm] at hrun
  dsimp only at hrun
  obtain ⟨hwd, hrun⟩ := iv_bif hrun
  obtain ⟨n, hn⟩ := am_sem_iff.mp hrun
  obtain ⟨-, -, -, hokM, htb⟩ := ck_nLw_law
  have hnc0 : am_nc (sg_h L xs) = 1 := rfl
  have hns0 : am_ns (sg_h L xs) = L := by simp [am_ns, sg_h, am_S, am_T]
  have hgr := am_run_grow (am_sm_grow am_MT d) n _ _ _ _ _ hn
  have g1 := hgr.1
  have g2 := hgr.2
  dsimp only at g1 g2
  have hl := lv_entry [Value.ref b] (n := 8) (Nat.le_of_ble_eq_true rfl)
  have C : sm_Cx p l room_1 s m #[Value.ref b] meth c D cA (sg_g s.heap.size b ad) s.heap.size b L xs adV d q_Lw_law := ⟨hx, hb, hr, hml, hown, hT, hlk, htab, fun z => absurd z (by decide), hA, Nat.le_refl _, hG, htr, by show d + 21 ≤ 2048; omega, by show 64 * d + 464 ≤ 84000; omega⟩
  have K := sm_body (e := e) (below := below) (r := (.inr (some (.int 1)), h)) (nc0 := 1) (ns0 := L) (mc := am_nc h - 1) (ms := am_ns h - L) C (sg_st hbl) (sm_meth htr hG (sg_st hbl) ck_OK d) (am_sm_grow am_MT d) hokM (by show am_nc h ≤ 700000; omega) (by show am_nc h ≤ 1 + 601024; omega) (by show am_ns h ≤ L + 7293034; omega) (by show 1 + (am_nc h - 1) = am_nc h; omega) (by show L + (am_ns h - L) = am_ns h; omega) htb n 0 _ [] (sg_h L xs) s.heap [] 0 0 _ hn ⟨sg_W, va_S.rf, hl, hnc0, hns0⟩
  intro T hT9 X
  rw [lg_entry_eq]
  obtain ⟨t, st, o, h1, h2, h3⟩ := K T hT9 X
  refine ⟨t, st, o, h1, h2, ?_⟩
  rcases h3 with ⟨⟨v, hv, ho, hw, hF⟩, Lc, hfe, hfree⟩ | ⟨q, ho, E, ce, Lc, ⟨x, hx9, -⟩, -⟩
  · cases hv
    refine ⟨ho, ⟨_, ho⟩, hfe.2.1, (hfe.2.2.weaken (fun y hy hlt => absurd (show s.heap.size ≤ y.base from hfree y hy) (Nat.not_le.mpr hlt)) (Nat.le_refl _) (Nat.le_refl _)).mono (by omega) (by omega)⟩
  · cases hx9
