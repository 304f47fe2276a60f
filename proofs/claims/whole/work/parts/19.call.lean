/-! ===== calls ===== -/
theorem sm_good {w : Cond} (h : w ∈ sm_TB) : (w.onTables && w.keeps) = true ∨ ∃ ty, w = .arrayClass ty := good_of_word (List.mem_filter.mp h).2
theorem sm_goodIn {z : sm_M} (hz : sm_hw z ∈ sm_TB) : GoodIn sm_TB (sm_hw z :: sm_TB) := by
  intro w hw
  rcases List.mem_cons.mp hw with rfl | h
  · exact ⟨hz, sm_good hz⟩
  · exact ⟨h, sm_good h⟩
theorem sm_blind {D : va_G} {cA : Nat → ClassId} {g : Nat → Nat} {B b Ln : Nat} {xs : Nat → Int32} {adV : Nat → Nat} {As : List Value} {h : am_H} : FrameBlind (sm_Pc D cA g B b Ln xs adV As h) := by
  intro a U gf mk q
  exact ⟨q.1, q.2.1, q.2.2.blind⟩
theorem sm_rmF (d mc ms : Nat) : (sm_rm d mc ms).frames = d + 20 := rfl
theorem sm_rmL (d mc ms : Nat) : (sm_rm d mc ms).locals = 64 * d + 400 := rfl
set_option maxRecDepth 100000 in
theorem sm_rl {d x L : Nat} (h1 : x ≤ 40) (h2 : 64 * d + 464 ≤ L) : 8 + (x + 11) + (64 * d + 400) ≤ L := by omega
section CA
variable {p : Program} {l : Launch} {e : Env} {R : Room} {s : State} {m : MethodId} {args : Array Value} {below : List Frame} {meth : Method} {c : Code} {H : Heap} {locs : List Loc} {cells slots : Nat} {Q : State → Prop} {cc : ByteArray} {pc : Nat} {ls : Array Slot} {rest : List Value}
variable {D : va_G} {cA : Nat → ClassId} {g : Nat → Nat} {B b Ln : Nat} {xs : Nat → Int32} {adV : Nat → Nat} {h : am_H}
/-- behind a callee -/
theorem sm_called {mc ms : Nat} {st0 : List Value} {a : Array Value} {r' : am_R} (hr : vx_Run p l e R s m args below meth c H locs cells slots mc ms (F0 m pc ls st0) rest (sm_Q D cA g B Ln xs r' a) (sm_X D cA g B Ln xs r') (fun q => B ≤ q)) (hS : va_S (fun q => B ≤ q) s.heap H locs)
    (kk : ∀ (v : Option Value) (H1 : Heap) (locs1 : List Loc), r'.1 = .inr v → sm_W D cA g B Ln xs r'.2 H1 → va_S (fun q => B ≤ q) s.heap H1 locs1 → W p l e R s m args below meth c H1 locs1 (cells + mc) (slots + ms) Q (F0 m (pc + 3) ls ((v.map (sm_v g)).toList ++ rest)))
    (kx : ∀ (x : Nat) (ce : Cell) (q9 : Addr) (H1 : Heap) (locs1 : List Loc), r'.1 = .inl x → x < 3 → sm_W D cA g B Ln xs r'.2 H1 → va_S (fun q => B ≤ q) s.heap H1 locs1 → H1[q9]? = some ce → ce.vm = .none → s.vm.findClass (sm_ex x) = some ce.cls → vx_W p l e R s m args below meth c H1 locs1 (cells + mc) (slots + ms) Q (F0 m pc ls rest) q9) :
    W p l e R s m args below meth c H locs cells slots Q (F0 m pc ls st0) := by
  intro T hT X
  rcases hr T hT X with ⟨v, st₀, t, T', L, h0, X', hL, e1, e2, ⟨w, hw, hv, hW, hF⟩, st⟩ | ⟨q, st₀, t, T', L, E, ce, h0, X', hL, e1, e2, ⟨x, hx, hx3, hE, hW, hF⟩, hce, hcv, hcl, st⟩
  · cases hv
    obtain ⟨-, -, k3⟩ := vx_keep h0 e1 hS (fun _ _ z => z) (fun _ z => z) hL hF
    obtain ⟨t2, a1, b1⟩ := kk w T'.heap (locs ++ L) hw (by rw [e1]; exact hW) k3 T' rfl X'
    exact ⟨t2, st t2 a1, b1⟩
  · obtain ⟨-, -, k3⟩ := vx_keep h0 e1 hS (fun _ _ z => z) (fun _ z => z) hL hF
    obtain ⟨t2, a1, b1⟩ := kx x ce q T'.heap (locs ++ L) hx hx3 (by rw [e1]; exact hW) k3 (by rw [e1]; exact hce) hcv (by rw [← hE]; exact hcl) T' rfl X'
    exact ⟨t2, st.trans a1, b1⟩
/-- the run of a callee, by its contract -/
theorem sm_runs {MI : Nat → Option sm_M} {d k a idx kind cls nb mc ms nL : Nat} {own : String} {z : sm_M} {As : List Value} {r' : am_R} (hfix : CallFix p m c cc nL s args sm_TB own) (hct : sm_ct D cA g B b Ln xs adV MI l d a As h r') (hz : MI a = some z) (hcw : sm_cw own idx kind cls nb z) (hk : kind = 0) (hmc : am_nc h + mc = am_nc r'.2) (hms : am_ns h + ms = am_ns r'.2)
    (hW : sm_W D cA g B Ln xs h H) (hA : sm_A D cA g B b Ln xs adV s s.heap) (hS : va_S (fun q => B ≤ q) s.heap H locs) (hbB : b < B) (hBs : B ≤ s.heap.size) (hRf : d + 21 ≤ R.frames) (hRl : 64 * d + 464 ≤ R.locals) (hn : As.length = nb) (hsize : ls.size = nL) (hc8 : (rest.map fun v => v.category).sum ≤ 8) (hdg : decode cc pc = .ok (.invokestatic idx, 3)) (hf : cells + mc ≤ R.cells ∧ slots + ms ≤ R.slots) :
    vx_Run p l e R s m args below meth c H locs cells slots mc ms (F0 m pc ls ((As.map (sm_v g)).reverse ++ rest)) rest (sm_Q D cA g B Ln xs r' (As.map (sm_v g)).toArray) (sm_X D cA g B Ln xs r') (fun q => B ≤ q) := by
  subst hk
  obtain ⟨own', y, bytes, maxL, ret, hh⟩ := z
  obtain ⟨hpl, hno, hpar, hmL, hcode, hini, h0, -, -, -⟩ := hcw
  obtain ⟨hlk, hst⟩ := h0 rfl
  have hM := hct _ hz mc ms hmc hms
  have hts := hfix.2.2.2.2
  have hlen : ∀ sig, parseMethodDescriptor y.desc = some sig → nb = sig.parameters.length := fun sig hs => by
    have h2 := hpar
    dsimp only at h2
    rw [hs] at h2
    exact (Option.some.inj h2).symm
  have hp : PreS s H (sm_Pc D cA g B b Ln xs adV As h) (As.map (sm_v g)) := ⟨sm_blind, fun U hU hWd => ⟨rfl, by rw [hU]; exact hW, hA.at hS hbB hBs hU hWd⟩⟩
  have hRm : (sm_rm d mc ms).frames + 1 ≤ R.frames ∧ 8 + (maxL + 11) + (sm_rm d mc ms).locals ≤ R.locals := by
    have hmL' : maxL ≤ 40 := hmL
    exact ⟨hRf, sm_rl hmL' hRl⟩
  cases hh with
  | none =>
    exact vx_runS (bytes := bytes) (maxL := maxL) (ret := ret) (n := nb) (g := F0 m pc ls ((As.map (sm_v g)).reverse ++ rest)) hfix hM ⟨⟨rfl, rfl, hRm.1, hRm.2, pay_in hts (sm_goodIn hcode), List.mem_cons_self, hts _ hcode, hts _ hini, hno, hlen, hts _ hlk⟩, hts _ hst⟩ hp rfl (by rw [List.length_map]; exact hn) hsize rfl (lv_room hc8) hdg hf
  | some hh =>
    exact vx_runSX (bytes := bytes) (maxL := maxL) (ret := ret) (n := nb) (hh := hh) (g := F0 m pc ls ((As.map (sm_v g)).reverse ++ rest)) hfix hM ⟨⟨rfl, rfl, hRm.1, hRm.2, pay_in hts (sm_goodIn hcode), List.mem_cons_self⟩, hts _ hcode, hts _ hini, hno, hlen, hts _ hlk, hts _ hst⟩ hp rfl (by rw [List.length_map]; exact hn) hsize rfl (lv_room hc8) hdg hf
theorem sm_runv {MI : Nat → Option sm_M} {d k a idx kind cls nb mc ms nL o no : Nat} {own : String} {z : sm_M} {As : List Value} {r' : am_R} (hfix : CallFix p m c cc nL s args sm_TB own) (hct : sm_ct D cA g B b Ln xs adV MI l d a (.ref o :: As) h r') (hz : MI a = some z) (hcw : sm_cw own idx kind cls nb z) (hk : kind = 1) (hmc : am_nc h + mc = am_nc r'.2) (hms : am_ns h + ms = am_ns r'.2)
    (hW : sm_W D cA g B Ln xs h H) (hA : sm_A D cA g B b Ln xs adV s s.heap) (hS : va_S (fun q => B ≤ q) s.heap H locs) (hbB : b < B) (hBs : B ≤ s.heap.size) (hRf : d + 21 ≤ R.frames) (hRl : 64 * d + 464 ≤ R.locals) (hn : As.length = nb) (hsize : ls.size = nL) (hc8 : (rest.map fun v => v.category).sum ≤ 8) (ho : (am_S h)[o]? = some (cls, no)) (hc9 : cls < 9) (hdg : decode cc pc = .ok (.invokevirtual idx, 3)) (hf : cells + mc ≤ R.cells ∧ slots + ms ≤ R.slots) :
    vx_Run p l e R s m args below meth c H locs cells slots mc ms (F0 m pc ls ((As.map (sm_v g)).reverse ++ .ref (g o) :: rest)) rest (sm_Q D cA g B Ln xs r' (Value.ref (g o) :: As.map (sm_v g)).toArray) (sm_X D cA g B Ln xs r') (fun q => B ≤ q) := by
  subst hk
  obtain ⟨own', y, bytes, maxL, ret, hh⟩ := z
  obtain ⟨hpl, hno, hpar, hmL, hcode, hini, -, h1, -, -⟩ := hcw
  obtain ⟨hhn, hlk, hin, hsel, T, N, hcl⟩ := h1 rfl
  cases hhn
  have hM := hct _ hz mc ms hmc hms
  have hts := hfix.2.2.2.2
  have hlen : ∀ sig, parseMethodDescriptor y.desc = some sig → nb = sig.parameters.length := fun sig hs => by
    have h2 := hpar
    dsimp only at h2
    rw [hs] at h2
    exact (Option.some.inj h2).symm
  have hrecv : ∃ cell : Cell, H[g o]? = some cell ∧ cell.vm.isStatics = false ∧ s.vm.findClass y.cls = some cell.cls := by
    have he := sm_at (cA := cA) (g := g) ho (sm_ne0 hW.2.1 ho (by omega))
    rw [sm_ce_o ho hc9] at he
    exact va_recv hA.1 hW.1 hcl he
  have hp : PreV s H y.cls (g o) (sm_Pc D cA g B b Ln xs adV (.ref o :: As) h) (As.map (sm_v g)) := ⟨sm_blind, hrecv, fun U hU hWd => ⟨rfl, by rw [hU]; exact hW, hA.at hS hbB hBs hU hWd⟩⟩
  have hmL' : maxL ≤ 40 := hmL
  exact vx_runV (bytes := bytes) (maxL := maxL) (ret := ret) (n := nb) (C := y.cls) (g := F0 m pc ls ((As.map (sm_v g)).reverse ++ .ref (g o) :: rest)) hfix hM ⟨⟨rfl, rfl, hRf, sm_rl hmL' hRl, pay_in hts (sm_goodIn hcode), List.mem_cons_self, hts _ hcode, hts _ hini, hno, hlen, hts _ hlk⟩, hts _ hin, hts _ hsel⟩ hp rfl (by rw [List.length_map]; exact hn) hsize rfl (lv_room hc8) hdg hf
theorem sm_runi {MI : Nat → Option sm_M} {d k a idx kind cls nb mc ms nL o : Nat} {own : String} {z : sm_M} {As : List Value} {r' : am_R} (hfix : CallFix p m c cc nL s args sm_TB own) (hct : sm_ct D cA g B b Ln xs adV MI l d a (.ref o :: As) h r') (hz : MI a = some z) (hcw : sm_cw own idx kind cls nb z) (hk : kind = 2 ∨ kind = 3) (hmc : am_nc h + mc = am_nc r'.2) (hms : am_ns h + ms = am_ns r'.2)
    (hW : sm_W D cA g B Ln xs h H) (hA : sm_A D cA g B b Ln xs adV s s.heap) (hS : va_S (fun q => B ≤ q) s.heap H locs) (hbB : b < B) (hBs : B ≤ s.heap.size) (hRf : d + 21 ≤ R.frames) (hRl : 64 * d + 464 ≤ R.locals) (hn : As.length = nb) (hsize : ls.size = nL) (hc8 : (rest.map fun v => v.category).sum ≤ 8) (hdg : decode cc pc = .ok (.invokespecial idx, 3)) (hf : cells + mc ≤ R.cells ∧ slots + ms ≤ R.slots) :
    vx_Run p l e R s m args below meth c H locs cells slots mc ms (F0 m pc ls ((As.map (sm_v g)).reverse ++ .ref (g o) :: rest)) rest (sm_Q D cA g B Ln xs r' (Value.ref (g o) :: As.map (sm_v g)).toArray) (sm_X D cA g B Ln xs r') (fun q => B ≤ q) := by
  obtain ⟨own', y, bytes, maxL, ret, hh⟩ := z
  obtain ⟨hpl, hno, hpar, hmL, hcode, hini, -, -, h2, h3⟩ := hcw
  have hM := hct _ hz mc ms hmc hms
  have hts := hfix.2.2.2.2
  have hlen : ∀ sig, parseMethodDescriptor y.desc = some sig → nb = sig.parameters.length := fun sig hs => by
    have h2 := hpar
    dsimp only at h2
    rw [hs] at h2
    exact (Option.some.inj h2).symm
  have hp : PreS s H (sm_Pc D cA g B b Ln xs adV (.ref o :: As) h) (.ref (g o) :: As.map (sm_v g)) := ⟨sm_blind, fun U hU hWd => ⟨rfl, by rw [hU]; exact hW, hA.at hS hbB hBs hU hWd⟩⟩
  have hmL' : maxL ≤ 40 := hmL
  rcases hk with rfl | rfl
  · obtain ⟨hhn, hre, hlk, hin, hnm⟩ := h2 rfl
    cases hhn
    cases hre
    exact vx_runI (bytes := bytes) (maxL := maxL) (n := nb) (g := F0 m pc ls ((As.map (sm_v g)).reverse ++ .ref (g o) :: rest)) hfix hM ⟨⟨rfl, rfl, hRf, sm_rl hmL' hRl, pay_in hts (sm_goodIn hcode), List.mem_cons_self, hts _ hcode, hts _ hini, hno, hlen, hts _ hlk⟩, hnm, hts _ hin⟩ hp rfl (by rw [List.length_map]; exact hn) hsize rfl (lv_room hc8) hdg hf
  · obtain ⟨hhn, hre, hin, hnm, host, hnst⟩ := h3 rfl
    cases hhn
    cases hre
    have hnl : (Cond.methodLinkNest own idx y host).before args s = true := va_Nw.use rfl (hA.2.2.2.2.2.2.1 _ hnst)
    exact vx_runIN (bytes := bytes) (maxL := maxL) (n := nb) (host := host) (g := F0 m pc ls ((As.map (sm_v g)).reverse ++ .ref (g o) :: rest)) hfix hM ⟨⟨⟨rfl, rfl, hRf, sm_rl hmL' hRl, pay_in hts (sm_goodIn hcode), List.mem_cons_self⟩, hts _ hcode, hts _ hini, hno, hlen, hnl⟩, hnm, hts _ hin⟩ hp rfl (by rw [List.length_map]; exact hn) hsize rfl (lv_room hc8) hdg hf
end CA
