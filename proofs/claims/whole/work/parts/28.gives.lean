section GZ
variable {p : Program} {l : Launch} {e : Env} {R : Room} {s : State} {m : MethodId} {args : Array Value} {below : List Frame} {meth : Method} {c : Code} {H : Heap} {locs : List Loc} {cells slots : Nat} {Q : State → Prop}
variable {mc ms : Nat} {free : Addr → Prop} {A0 A1 : Nat → Prop} {H0 : Heap} {a : Array Value} {ls : Array Slot} {st0 rest : List Value}
variable {Qc : Array Value → State → Outcome → State → Prop} {XC : String → State → State → Prop}
theorem gx_throwS {cc : ByteArray} {pc : Nat} (hexec : p.tables.exec = Jvm.exec) (hb : c.code = cc) (hl : l.stackTraces = false) {own text : String} {ik is ic mc ms sa : Nat} {A : Nat → Prop}
    (hown : s.vm.findClass own = some m.cls)
    (hk : (Cond.classLink own ik gnNS).before args s = true) (hini : (Cond.initialized gnNS).before args s = true) (hstr : vk_R own is text sa s) (hat : ∀ w ∈ (gnAtoms own ic).filter vx_no, w.before args s = true)
    (hgood : ∀ w ∈ Cond.classLink own ik gnNS :: Cond.initialized gnNS :: (gnAtoms own ic).filter vx_no, vx_ot w = true)
    (hU : vx_Zq Bundle.tN "UNASSIGNED_STACK" Bundle.steD A s s.heap) (hN : vx_Zq Bundle.tN "SUPPRESSED_SENTINEL" Bundle.listD A s s.heap) (hS : va_S A s.heap H locs) (hsize : ls.size = c.maxLocals)
    (d0 : decode cc pc = .ok (.new ik, 3)) (d3 : decode cc (pc + 3) = .ok (.dup, 1)) (d4 : decode cc (pc + 4) = .ok (.ldc is, 2)) (d6 : decode cc (pc + 6) = .ok (.invokespecial ic, 3)) (d9 : decode cc (pc + 9) = .ok (.athrow, 1))
    (hout : ∀ x ∈ c.exceptionTable.toList, covers x (pc + 9) = false)
    (hRframes : 5 < R.frames) (hRlocals : (rest.map fun v => v.category).sum + 82 ≤ R.locals) (hRcells : cells + 1 ≤ R.cells) (hRslots : slots + 6 ≤ R.slots) (hlocks : meth.locks = false)
    (hx : ∀ (t : State) (ce : Cell), s.vm.Alike t.vm → H.size ≤ t.heap.size → (∀ q : Nat, q < H.size → t.heap[q]? = H[q]?) → t.heap[H.size]? = some ce → ce.vm = .none → s.vm.findClass gnNS = some ce.cls → t.heap.size ≤ H.size + 1 → XC gnNS s t)
    (hf : ∀ z ∈ locs, free z.base) (hc : cells + 1 ≤ mc) (hs : slots + 6 ≤ ms) :
    W p l e R s m args below meth c H locs cells slots (vx_MQ below Qc XC args s mc ms free) (F0 m pc ls rest) := by
  intro T hT X
  have htr : e.platform.stackTraces = false := (show e.platform.stackTraces = l.stackTraces by rw [X.admits.platform]).trans hl
  have Y := vx_rebase X (R' := { frames := R.frames, locals := R.locals, cells := 1, slots := 6 }) (Nat.le_refl _) (Nat.le_refl _) hRcells hRslots
  obtain ⟨s', hA⟩ : ∃ z, z = (T.setVm s.vm).setFrames (.invoking m args :: below) := ⟨_, rfl⟩
  rw [← hA] at Y
  have hvm : s'.vm = s.vm := by rw [hA]; rfl
  have hhp : s'.heap = H := by rw [hA]; exact hT
  have hW0 : s.WarmedH s'.vm := by rw [hvm]; exact State.WarmedH.refl s
  have hat' : ∀ w ∈ (gnAtoms own ic).filter vx_no, w.before args s' = true := fun w hw => vx_ot_at hW0 hvm.symm (hgood w (List.mem_cons_of_mem _ (List.mem_cons_of_mem _ hw))) (hat w hw)
  have hk' : (Cond.classLink own ik gnNS).before args s' = true := vx_ot_at hW0 hvm.symm (hgood _ List.mem_cons_self) hk
  have hini' : (Cond.initialized gnNS).before args s' = true := vx_ot_at hW0 hvm.symm (hgood _ (List.mem_cons_of_mem _ List.mem_cons_self)) hini
  have hU' : vx_Zq Bundle.tN "UNASSIGNED_STACK" Bundle.steD A s' s'.heap := by rw [hhp]; exact vx_Zq.moved hW0.alike (hU.kept hS.2.1)
  have hN' : vx_Zq Bundle.tN "SUPPRESSED_SENTINEL" Bundle.listD A s' s'.heap := by rw [hhp]; exact vx_Zq.moved hW0.alike (hN.kept hS.2.1)
  have h : ∀ w ∈ gnAtoms own ic, w.before args s' = true := vx_own hat' (vx_isRefq hU'.1) (vx_isRefq hN'.1) hU'.2.word hN'.2.word
  have hown' : s'.vm.findClass own = some m.cls := by rw [hvm]; exact hown
  have hins : (Cond.instantiable gnNS 6).before args s' = true := h _ (List.mem_append_left _ (.tail _ (.head _)))
  obtain ⟨vm₁, cX, kX, hfX, hkX, -, -, X₁, st1⟩ := Y.newCold hexec (own := own) (C := gnNS) (index := ik) (n := 6) hown' hk' hins hini'
    (g := F0 m pc ls rest) rfl (by rw [hb]; exact d0) (Nat.le_refl _) (Nat.le_refl _)
  generalize hT1 : (T.setVm vm₁).pushCell { cls := cX, slots := kX.instanceTypes.map defaultValue, vm := .none } = T1 at X₁ st1
  have hcat : (Value.ref T.heap.size).category = 1 := rfl
  have hcellA : T1.heap[T.heap.size]? = some (freshCell cX kX) := by rw [← hT1]; exact State.heap_pushCell_size _ _
  have d3' : decode c.code (pc + 3) = .ok (.dup, 1) := by rw [hb]; exact d3
  have d4' : decode c.code (pc + 4) = .ok (.ldc is, 2) := by rw [hb]; exact d4
  have hstr' : vk_R own is text sa s' := vk_R.warm hW0 hstr
  obtain ⟨U, hsteps, hrun, hend, hW, hsame, ce, hce, hO⟩ := gn_throws X₁ hexec htr (own := own) (ic := ic) hown' h hfX hkX hcellA (by rw [hhp, hT]; exact Nat.le_refl _) (v := .ref sa) rfl
    (j := { method := m, pc := pc + 6, locals := ls, stack := .ref sa :: .ref T.heap.size :: .ref T.heap.size :: rest, locked := none }) rfl hsize rfl rfl (rest := rest) rfl
    (by rw [hb]; exact d6) (by rw [hb]; exact d9) hout hRframes (by simp only [List.map_cons, List.sum_cons, hcat]; omega) hlocks
  have hup : U.heap.size ≤ H.size + 1 := by
    have h9 := hsame.2.2.1
    rw [hhp] at h9
    exact h9
  obtain ⟨f1, f2⟩ := vx_frame hsame
  rw [hhp] at f1 f2
  have hWs : s.WarmedH U.vm := State.WarmedH.trans hW0 hW
  have hcl : s.vm.findClass gnNS = some ce.cls := by
    have h9 := hO.2
    rw [hvm] at h9
    exact h9
  have hall : s.sameButNew ({ U with vm := s.vm } : State) locs mc ms := by
    subst hA
    obtain ⟨e1, e2⟩ := hsame
    rw [State.setFrames_setFrames] at e1
    have h2 : (T.setVm s.vm).sameButNew ({ U with vm := s.vm } : State) [] (0 + 1) (0 + 6) := ⟨e1, e2⟩
    have h3 := X.same.trans h2
    rw [List.append_nil] at h3
    exact h3.mono hc hs
  refine ⟨U, ?_, .threw T.heap.size, hrun, hend, Or.inr ⟨T.heap.size, rfl, gnNS, ce, locs, hx U ce hWs.alike f1 (fun q hq => f2 q hq (fun z hz => nomatch hz)) (by rw [← hT]; exact hce) hO.1 hcl hup, hce, hO.1, hcl, hWs, hall, hf⟩⟩
  refine st1 _ ?_
  show Steps p.tables e below (T1.setTop { method := m, pc := pc + 3, locals := ls, stack := .ref T.heap.size :: rest, locked := none }) _
  jvm_step X₁.here [X₁.here.top, hexec, d3', Value.category]
  exact X₁.ldcString hexec (own := own) (text := text) (index := is) (a := sa) hown' hstr'.1 hstr'.2
    (g := { method := m, pc := pc + 4, locals := ls, stack := .ref T.heap.size :: .ref T.heap.size :: rest, locked := none }) rfl d4' _ hsteps
end GZ
def gQx (E : gE) (r : Option Int32) (h : PH) : Array Value → State → Outcome → State → Prop := va_Qi (fun (r' : Int32) (_ : Unit) => r = some r') (fun _ t => gH E h t.heap) (gA E)
def gXx (E : gE) (r : Option Int32) (h : PH) : String → State → State → Prop := vx_X (fun (_ : Unit) => r = none) (fun nm _ t => nm = "java/util/NoSuchElementException" ∧ gH E h t.heap) (gA E)
theorem ns_in : ∀ w ∈ ((gnAtoms RX11 153).filter vx_no).filter goodWord, w ∈ gT := by decide +kernel
theorem ns_out : ∀ w ∈ ((gnAtoms RX11 153).filter vx_no).filter (fun w => !goodWord w), w ∈ [Cond.castable gnNS gnNS, .declares (Bundle.initS gnRE), .declares (Bundle.initS "java/lang/Exception"), .declares (Bundle.initS Bundle.tN)] := by decide +kernel
theorem ns_good : ∀ w ∈ Cond.classLink RX11 149 gnNS :: Cond.initialized gnNS :: (gnAtoms RX11 153).filter vx_no, vx_ot w = true := by decide +kernel
section GY
variable {p : Program} {l : Launch} {e : Env} {R : Room} {s : State} {m : MethodId} {args : Array Value} {below : List Frame} {meth : Method} {c : Code} {H : Heap} {locs : List Loc} {cells slots : Nat} {Q : State → Prop}
variable {cc : ByteArray} {pc nL : Nat} {ls : Array Slot} {rest stk : List Value} {E : gE} {h h9 : PH} {own : String} {a : Nat} {r9 : Option Int32}
theorem gx_iretX (X : gX E p s m args c cc nL own) (hr : meth.sig.returnType = some .int) (hlocks : meth.locks = false) (hw : gw E s h H locs) {x : Int32} (hf : (some (some x, h) : Option (Option Int32 × PH)) = some (r9, h9)) (hdg : decode cc pc = .ok (.ireturn, 1)) : W p l e R s m args below meth c H locs cells slots (MQ below (gQx E r9 h9) args s cells slots (gA E)) (F0 m pc ls [.int x]) := by
  cases hf
  exact W.iret X.1.1 X.1.2.1 hr (fun t ht _ => ⟨⟨_, (), rfl, rfl, show gH E h t.heap by rw [ht]; exact hw.1⟩, hw.2.F ht⟩) hw.2.2.2 hdg hlocks
theorem gx_thr (X : gX E p s m args c cc nL RX11) (hst : l.stackTraces = false) (hw : gw E s h H locs) (hf : (some (none, h ++ [.inr (13, [])]) : Option (Option Int32 × PH)) = some (r9, h9)) (hout : ∀ x ∈ c.exceptionTable.toList, False) (hsz : ls.size = nL) (hlocks : meth.locks = false) {is sa : Nat} {text : String} (hstr : vk_R RX11 is text sa s)
    (d0 : decode cc pc = .ok (.new 149, 3)) (d3 : decode cc (pc + 3) = .ok (.dup, 1)) (d4 : decode cc (pc + 4) = .ok (.ldc is, 2)) (d6 : decode cc (pc + 6) = .ok (.invokespecial 153, 3)) (d9 : decode cc (pc + 9) = .ok (.athrow, 1)) (hRf : 5 < R.frames) (hRl : (rest.map fun v => v.category).sum + 82 ≤ R.locals) (hRc : cells + 1 ≤ R.cells) (hRs : slots + 6 ≤ R.slots) (hc : cells + 1 ≤ 1) (hs : slots + 6 ≤ 6) :
    W p l e R s m args below meth c H locs cells slots (vx_MQ below (gQx E r9 h9) (gXx E r9 h9) args s 1 6 (gA E)) (F0 m pc ls rest) := by
  cases hf
  obtain ⟨hx, hb, hml, hown, hts⟩ := X.1
  have hG := X.2.2.2.2
  refine gx_throwS (A := gA E) (ic := 153) hx hb hst hown (hts _ ml_X11_149) (hts _ mI_java_util_NoSuchElementException) hstr (vx_hat (fun w hw => hts w (ns_in w hw)) ns_out (vx_c (va_Nw.use rfl hG.2.2.2.2.2.2.1) (vx_c (va_Nw.use rfl hG.2.2.2.2.2.2.2.1) (vx_c (va_Nw.use rfl hG.2.2.2.2.2.2.2.2.1) (vx_c (va_Nw.use rfl hG.2.2.2.2.2.2.2.2.2) vx_n))))) ns_good hG.2.2.2.2.1 hG.2.2.2.2.2.1 hw.2 (hsz.trans hml.symm) d0 d3 d4 d6 d9 (fun x hx => (hout x hx).elim) hRf hRl hRc hRs hlocks ?_ hw.2.2.2 hc hs
  intro t ce _ hz hk hce hvm hcl hup
  refine ⟨(), rfl, ⟨rfl, ?_, ?_⟩, ?_, ?_⟩
  · have : (h ++ [Sum.inr (13, [])] : PH).length = h.length + 1 := by rw [List.length_append]; rfl
    rw [this]
    have h1 := (Array.getElem?_eq_some_iff.mp hce).1
    have h2 := hw.1.1
    omega
  · have hgw : gw E s (h ++ [.inr (13, [])]) t.heap locs := gw_push hw (by have h1 := (Array.getElem?_eq_some_iff.mp hce).1; omega) hk (by
      refine ⟨_, rfl, ce, by rw [← hw.1.1]; exact hce, ?_, hvm, fun k hk => absurd hk (Nat.not_lt_zero k)⟩
      exact Option.some.inj (hcl.symm.trans (X.2.1.1 13 _ rfl).2.1))
    exact hgw.1.2
  · exact Nat.le_trans hw.2.1 hz
  · intro q h1 h2
    rw [hk q (Nat.lt_of_lt_of_le h1 hw.2.1)]
    exact hw.2.2.1 q h1 h2
end GY
theorem gx_metX {l : Launch} {y : MethodName} {bytes : ByteArray} {maxL mc ms : Nat} {ret : Option FieldType} {rm : Room} {Qc : Array Value → State → Outcome → State → Prop} {XC : String → State → State → Prop} {As : List Value} {E : gE} {h : PH} {av : Array Value} (hy : plainName y.cls = true) (body : ∀ (p : Program) (e : Env) (s : State) (m : MethodId) (below : List Frame) (meth : Method) (c : Code), gX E p s m av c bytes maxL y.cls → meth.sig.returnType = ret → meth.locks = false → (∀ x ∈ c.exceptionTable.toList, False) → gw E s h s.heap [] →
      W p l e rm s m av below meth c s.heap [] 0 0 (vx_MQ below Qc XC av s mc ms (gA E)) (entryFrame m av maxL)) (hav : av = As.toArray) : vx_Met l y (gWS y bytes maxL ret) rm (gPc E As h) Qc XC mc ms (gA E) := by
  refine vx_ofW (cc := bytes) (maxL := maxL) (ret := ret) hy rfl ?_
  intro p e s m args below meth c s₁ B hml htab hv
  obtain ⟨rfl, hH, hK⟩ := hv
  subst hav
  have hts := atoms_spec (ws := gWS y bytes maxL ret) B.pre
  exact body p e s m below meth c ⟨⟨B.exec, B.bytes, hml, findClass_of_methodNamed B.named, fun w hw => hts w (List.mem_cons_of_mem _ hw)⟩, hK⟩ B.returns B.notSynchronized htab ⟨hH, va_S.rf⟩
abbrev rm_X11_gives : Room := { frames := 6, cells := 1, slots := 6, locals := 92 }
set_option maxHeartbeats 4000000 in
set_option maxRecDepth 100000 in
theorem c_X11_gives (l : Launch) (hst : l.stackTraces = false) (E : gE) (N : Nat) (za0 : Nat) (za1 : Int32) (za2 : Int32) (za3 : Int32) (zh : PH) {h9 : PH} {r9 : Option Int32} (hf : f_X11_gives N za0 za1 za2 za3 zh = some (r9, h9)) : vx_Met l yX11_gives (gWS yX11_gives cX11_gives 5 (some .int)) rm_X11_gives (gPc E [.ref (gB E + za0), .int za1, .int za2, .int za3] zh) (gQx E r9 h9) (gXx E r9 h9) 1 6 (gA E) := by
  refine gx_metX (by decide) ?_ rfl
  intro p e s m below meth c X hr hlk htab hw
  have hx := X.1.1
  have hb := X.1.2.1
  have hl := lv_entry [.ref (gB E + za0), .int za1, .int za2, .int za3] (n := 5) (Nat.le_of_ble_eq_true rfl)
  rw [lg_entry_eq]
  generalize (lg_sl [.ref (gB E + za0), .int za1, .int za2, .int za3] ++ List.replicate (5 - (lg_sl [.ref (gB E + za0), .int za1, .int za2, .int za3]).length) Slot.unset).toArray = ls at hl ⊢
  have hl : lv_has ls 5 [(0, .ref (gB E + za0)), (1, .int za1), (2, .int za2), (3, .int za3)] := hl
  have J_60 : ∀ (zh : PH) (H : Heap) (locs : List Loc) (ls : Array Slot), f_X11_gives_60 N zh = some (r9, h9) → gw E s zh H locs → lv_has ls 5 [] → W p l e rm_X11_gives s m [.ref (gB E + za0), .int za1, .int za2, .int za3].toArray below meth c H locs 0 0 (vx_MQ below (gQx E r9 h9) (gXx E r9 h9) [.ref (gB E + za0), .int za1, .int za2, .int za3].toArray s 1 6 (gA E)) (F0 m 60 ls []) := by
    intro zh H locs ls hf hw hl
    unfold f_X11_gives_60 at hf
    exact gx_thr X hst hw hf htab hl.1 hlk (gx_str X 15 rfl) dX11_gives_60 dX11_gives_63 dX11_gives_64 dX11_gives_66 dX11_gives_69 (Nat.le_of_ble_eq_true rfl) (Nat.le_of_ble_eq_true rfl) (Nat.le_of_ble_eq_true rfl) (Nat.le_of_ble_eq_true rfl) (Nat.le_of_ble_eq_true rfl) (Nat.le_of_ble_eq_true rfl)
  have J_24 : ∀ (zh : PH) (H : Heap) (locs : List Loc) (ls : Array Slot), f_X11_gives_24 N zh = some (r9, h9) → gw E s zh H locs → lv_has ls 5 [] → W p l e rm_X11_gives s m [.ref (gB E + za0), .int za1, .int za2, .int za3].toArray below meth c H locs 0 0 (vx_MQ below (gQx E r9 h9) (gXx E r9 h9) [.ref (gB E + za0), .int za1, .int za2, .int za3].toArray s 1 6 (gA E)) (F0 m 24 ls []) := by
    intro zh H locs ls hf hw hl
    unfold f_X11_gives_24 at hf
    exact gx_thr X hst hw hf htab hl.1 hlk (gx_str X 14 rfl) dX11_gives_24 dX11_gives_27 dX11_gives_28 dX11_gives_30 dX11_gives_33 (Nat.le_of_ble_eq_true rfl) (Nat.le_of_ble_eq_true rfl) (Nat.le_of_ble_eq_true rfl) (Nat.le_of_ble_eq_true rfl) (Nat.le_of_ble_eq_true rfl) (Nat.le_of_ble_eq_true rfl)
  unfold f_X11_gives at hf
  refine lv_aload_n hx hb dX11_gives_0 rfl (lv_at hl 0 rfl) ?_
  refine lv_iload_n hx hb dX11_gives_1 rfl (lv_at hl 1 rfl) ?_
  obtain ⟨qizh1, hf⟩ := gg_el hf
  obtain ⟨zt2, zh1, qzh1, hf⟩ := gc_el hf
  refine gx_ki (gx_runV (As := [.int za1]) (rest := []) X hw (c_X11_isRule l E N za0 za1 zh qzh1) kX11_isRule mm_X11_143 qizh1 clX11 ⟨Nat.le_of_ble_eq_true rfl, Nat.le_of_ble_eq_true rfl⟩ rfl rfl rfl hl.1 (Nat.le_of_ble_eq_true rfl) rfl dX11_gives_2 ⟨Nat.le_of_ble_eq_true rfl, Nat.le_of_ble_eq_true rfl⟩) hw (fun H locs hw => ?_)
  refine lv_if_eq (tgt := 24) hx hb dX11_gives_5 (by decide) (fun qc3 => ?_) (fun qc3 => ?_)
  · have hf := gif_t hf qc3
    exact J_24  _ _ _ ls hf hw (lv_sub hl [] rfl)
  · have hf := gif_f hf qc3
    refine lv_aload_n hx hb dX11_gives_8 rfl (lv_at hl 0 rfl) ?_
    refine lv_iload_n hx hb dX11_gives_9 rfl (lv_at hl 2 rfl) ?_
    obtain ⟨qizh4, hf⟩ := gg_el hf
    obtain ⟨zt5, zh4, qzh4, hf⟩ := gc_el hf
    refine gx_ki (gx_runV (As := [.int za2]) (rest := []) X hw (c_X11_isGuest l E N za0 za2 zh1 qzh4) kX11_isGuest mm_X11_118 qizh4 clX11 ⟨Nat.le_of_ble_eq_true rfl, Nat.le_of_ble_eq_true rfl⟩ rfl rfl rfl hl.1 (Nat.le_of_ble_eq_true rfl) rfl dX11_gives_10 ⟨Nat.le_of_ble_eq_true rfl, Nat.le_of_ble_eq_true rfl⟩) hw (fun H locs hw => ?_)
    refine lv_if_eq (tgt := 24) hx hb dX11_gives_13 (by decide) (fun qc6 => ?_) (fun qc6 => ?_)
    · have hf := gif_t hf qc6
      exact J_24  _ _ _ ls hf hw (lv_sub hl [] rfl)
    · have hf := gif_f hf qc6
      refine lv_aload_n hx hb dX11_gives_16 rfl (lv_at hl 0 rfl) ?_
      refine W.eq (g2 := F0 m 17 ls [.ref (gB E + za0)]) rfl ?_
      refine lv_iload_n hx hb dX11_gives_17 rfl (lv_at hl 3 rfl) ?_
      obtain ⟨qizh7, hf⟩ := gg_el hf
      obtain ⟨zt8, zh7, qzh7, hf⟩ := gc_el hf
      refine gx_ki (gx_runV (As := [.int za3]) (rest := []) X hw (c_X11_isRoom l E N za0 za3 zh4 qzh7) kX11_isRoom mm_X11_102 qizh7 clX11 ⟨Nat.le_of_ble_eq_true rfl, Nat.le_of_ble_eq_true rfl⟩ rfl rfl rfl hl.1 (Nat.le_of_ble_eq_true rfl) rfl dX11_gives_18 ⟨Nat.le_of_ble_eq_true rfl, Nat.le_of_ble_eq_true rfl⟩) hw (fun H locs hw => ?_)
      refine lv_if_ne (tgt := 34) hx hb dX11_gives_21 (by decide) (fun qc9 => ?_) (fun qc9 => ?_)
      · have hf := gif_f hf qc9
        refine lv_aload_n hx hb dX11_gives_34 rfl (lv_at hl 0 rfl) ?_
        obtain ⟨zt10, qzt10, hf⟩ := gb_el hf
        refine gx_getR X hw qzt10 clX11 (by decide) mf_X11_37 dX11_gives_35 ?_
        obtain ⟨zt11, qzt11, hf⟩ := gb_el hf
        refine gx_getR X hw qzt11 clX9 (by decide) mf_X11_112 dX11_gives_38 ?_
        obtain ⟨zt12, qzt12, hf⟩ := gb_el hf
        refine gx_getR X hw qzt12 clX1 (by decide) mf_X11_134 dX11_gives_41 ?_
        refine lv_iload_n hx hb dX11_gives_44 rfl (lv_at hl 2 rfl) ?_
        obtain ⟨zt13, qzt13, hf⟩ := gb_el hf
        refine gx_iald X hw qzt13 dX11_gives_45 ?_
        refine lv_istore (lv' := [(4, .int zt13), (0, .ref (gB E + za0)), (1, .int za1), (2, .int za2), (3, .int za3)]) hx hb dX11_gives_46 hl (by decide) rfl (fun ls hl => ?_)
        refine W.eq (g2 := F0 m 48 ls []) rfl ?_
        refine lv_iload hx hb dX11_gives_48 (lv_at hl 0 rfl) ?_
        refine lv_iconst (v := (-1)) hx hb dX11_gives_50 (by decide) ?_
        refine lv_icmp_eq (tgt := 60) hx hb dX11_gives_51 (by decide) (fun qc14 => ?_) (fun qc14 => ?_)
        · have hf := gif_t hf qc14
          exact J_60  _ _ _ ls hf hw (lv_sub hl [] rfl)
        · have hf := gif_f hf qc14
          refine lv_iload hx hb dX11_gives_54 (lv_at hl 0 rfl) ?_
          refine lv_iload_n hx hb dX11_gives_56 rfl (lv_at hl 4 rfl) ?_
          refine lv_icmp_ne (tgt := 70) hx hb dX11_gives_57 (by decide) (fun qc15 => ?_) (fun qc15 => ?_)
          · have hf := gif_f hf qc15
            refine lv_aload_n hx hb dX11_gives_70 rfl (lv_at hl 1 rfl) ?_
            obtain ⟨zt16, qzt16, hf⟩ := gb_el hf
            refine gx_getR X hw qzt16 clX11 (by decide) mf_X11_28 dX11_gives_71 ?_
            refine lv_aload_n hx hb dX11_gives_74 rfl (lv_at hl 1 rfl) ?_
            obtain ⟨zt17, qzt17, hf⟩ := gb_el hf
            refine gx_getR X hw qzt17 clX11 (by decide) mf_X11_69 dX11_gives_75 ?_
            refine W.eq (g2 := F0 m 78 ls [.ref (gB E + zt17), .ref (gB E + zt16)]) rfl ?_
            refine lv_iload_n hx hb dX11_gives_78 rfl (lv_at hl 2 rfl) ?_
            refine lv_aload_n hx hb dX11_gives_79 rfl (lv_at hl 1 rfl) ?_
            obtain ⟨zt18, qzt18, hf⟩ := gb_el hf
            refine gx_getR X hw qzt18 clX11 (by decide) mf_X11_37 dX11_gives_80 ?_
            obtain ⟨zt19, qzt19, hf⟩ := gb_el hf
            refine gx_getR X hw qzt19 clX9 (by decide) mf_X11_112 dX11_gives_83 ?_
            refine lv_iload_n hx hb dX11_gives_86 rfl (lv_at hl 3 rfl) ?_
            refine lv_iload_n hx hb dX11_gives_87 rfl (lv_at hl 4 rfl) ?_
            obtain ⟨qizh20, hf⟩ := gg_el hf
            obtain ⟨zt21, zh20, qzh20, hf⟩ := gc_el hf
            refine gx_ki (gx_runV (As := [.ref (gB E + zt17), .int za1, .ref (gB E + zt19), .int za2, .int za3]) (rest := []) X hw (c_X7_value l E N zt16 zt17 za1 zt19 za2 za3 zh7 qzh20) kX7_value mm_X11_158 qizh20 clX7 ⟨Nat.le_of_ble_eq_true rfl, Nat.le_of_ble_eq_true rfl⟩ rfl rfl rfl hl.1 (Nat.le_of_ble_eq_true rfl) rfl dX11_gives_88 ⟨Nat.le_of_ble_eq_true rfl, Nat.le_of_ble_eq_true rfl⟩) hw (fun H locs hw => ?_)
            refine W.widen (k := 1) (n := 6) (Nat.le_of_ble_eq_true rfl) (Nat.le_of_ble_eq_true rfl) ?_
            exact vx_ret (gx_iretX X hr hlk hw hf dX11_gives_91)
          · have hf := gif_t hf qc15
            exact J_60  _ _ _ ls hf hw (lv_sub hl [] rfl)
      · have hf := gif_t hf qc9
        exact J_24  _ _ _ ls hf hw (lv_sub hl [] rfl)
