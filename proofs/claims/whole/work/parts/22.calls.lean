theorem gIn {ws : List Cond} (h : ∀ w ∈ ws, w ∈ gT) : GoodIn gT ws := fun w hw => ⟨h w hw, good_of_word (gT_good w (h w hw))⟩
theorem gIn_ws {y : MethodName} {bytes : ByteArray} {maxL : Nat} {ret : Option FieldType} (h : Cond.code y bytes maxL ret ∈ gT) : ∀ w ∈ gWS y bytes maxL ret, w ∈ gT := fun w hw => (gWS_in h w hw).1
section GC
variable {p : Program} {l : Launch} {e : Env} {R : Room} {s : State} {m : MethodId} {args : Array Value} {below : List Frame} {meth : Method} {c : Code} {H : Heap} {locs : List Loc} {cells slots : Nat} {Q : State → Prop}
variable {cc : ByteArray} {pc nL : Nat} {ls : Array Slot} {rest stk : List Value} {E : gE} {h h1 : PH} {own : String} {a : Nat}
variable {y : MethodName} {bytes : ByteArray} {maxL mc ms n index : Nat} {ret : Option FieldType} {rm : Room} {Qc : Array Value → State → Outcome → State → Prop} {As : List Value} {C : String}
theorem gx_pre (X : gX E p s m args c cc nL own) (hw : gw E s h H locs) (av : List Value) : PreS s H (gPc E av h) av := ⟨gPc_blind, fun U hU hW => ⟨rfl, by rw [hU]; exact hw.1, gK_move X.2 hW (fun q h1 h2 => by rw [hU]; exact hw.2.2.1 q h1 h2)⟩⟩
theorem gx_runV (X : gX E p s m args c cc nL own) (hw : gw E s h H locs) {b ci N : Nat} {T : u_T} {ty : Nat → FieldType} (hM : Met l y (gWS y bytes maxL ret) rm (gPc E (.ref (gB E + b) :: As) h) Qc mc ms (gA E)) (hk : gMv y bytes maxL ret C n) (hl : Cond.methodLink own index y ∈ gT) (his : gIs ci b h = true) (hc : gCl ci C T N ty)
    (hR : rm.frames + 1 ≤ R.frames ∧ 8 + (maxL + 11) + rm.locals ≤ R.locals) (hrc : rm.cells = mc) (hrs : rm.slots = ms) (hn : As.length = n) (hsz : ls.size = nL) (hst : (rest.map fun v => v.category).sum ≤ 8) (hstk : stk = As.reverse ++ .ref (gB E + b) :: rest) (hdg : decode cc pc = .ok (.invokevirtual index, 3)) (hf : cells + mc ≤ R.cells ∧ slots + ms ≤ R.slots) :
    va_Run p l e R s m args below meth c H locs cells slots mc ms (F0 m pc ls stk) rest (Qc (Value.ref (gB E + b) :: As).toArray) (gA E) := by
  obtain ⟨k1, k2, k3, k4, k5, k6, k7, k8⟩ := hk
  obtain ⟨fs, ha⟩ := gIs_el his
  have hin : GoodIn gT (wsV own index C y (gWS y bytes maxL ret)) := gIn (fun w hw => by
    rcases List.mem_append.mp hw with h | h
    · simp only [List.mem_cons, List.not_mem_nil, or_false] at h
      rcases h with rfl | rfl | rfl | rfl
      · exact hl
      · exact k1
      · exact k2
      · exact k3
    · exact gIn_ws k4 w h)
  have hp := gx_pre X hw (Value.ref (gB E + b) :: As)
  exact va_runV (g := F0 m pc ls stk) X.1 hM (cwV n X.1.2.2.2.2 hin rfl hrc hrs ⟨k5, k6, k7, k8⟩ hR) ⟨hp.1, va_recv X.2.1 hw.1.2 hc.1 (ghW_at ha), hp.2⟩ rfl hn hsz hstk (lv_room hst) hdg hf
theorem gx_runS (X : gX E p s m args c cc nL own) (hw : gw E s h H locs) (hM : Met l y (gWS y bytes maxL ret) rm (gPc E As h) Qc mc ms (gA E)) (hk : gMs y bytes maxL ret n) (hl : Cond.methodLink own index y ∈ gT)
    (hR : rm.frames + 1 ≤ R.frames ∧ 8 + (maxL + 11) + rm.locals ≤ R.locals) (hrc : rm.cells = mc) (hrs : rm.slots = ms) (hn : As.length = n) (hsz : ls.size = nL) (hst : (rest.map fun v => v.category).sum ≤ 8) (hstk : stk = As.reverse ++ rest) (hdg : decode cc pc = .ok (.invokestatic index, 3)) (hf : cells + mc ≤ R.cells ∧ slots + ms ≤ R.slots) :
    va_Run p l e R s m args below meth c H locs cells slots mc ms (F0 m pc ls stk) rest (Qc As.toArray) (gA E) := by
  obtain ⟨k1, k3, k4, k6, k7, k8⟩ := hk
  have hts := X.1.2.2.2.2
  exact va_runS (g := F0 m pc ls stk) X.1 hM ⟨callB_of n hts (gIn (gIn_ws k4)) rfl hrc hrs (hts _ k3) (hts _ hl) ⟨k6, k7, k8⟩ hR, hts _ k1⟩ (gx_pre X hw As) rfl hn hsz hstk (lv_room hst) hdg hf
theorem gx_runSN (X : gX E p s m args c cc nL own) (hw : gw E s h H locs) {host : String} (hM : Met l y (gWS y bytes maxL ret) rm (gPc E As h) Qc mc ms (gA E)) (hk : gMs y bytes maxL ret n) (hl : Cond.methodLinkNest own index y host ∈ gN)
    (hR : rm.frames + 1 ≤ R.frames ∧ 8 + (maxL + 11) + rm.locals ≤ R.locals) (hrc : rm.cells = mc) (hrs : rm.slots = ms) (hn : As.length = n) (hsz : ls.size = nL) (hst : (rest.map fun v => v.category).sum ≤ 8) (hstk : stk = As.reverse ++ rest) (hdg : decode cc pc = .ok (.invokestatic index, 3)) (hf : cells + mc ≤ R.cells ∧ slots + ms ≤ R.slots) :
    va_Run p l e R s m args below meth c H locs cells slots mc ms (F0 m pc ls stk) rest (Qc As.toArray) (gA E) := by
  obtain ⟨k1, k3, k4, k6, k7, k8⟩ := hk
  have hts := X.1.2.2.2.2
  exact va_runSN (g := F0 m pc ls stk) X.1 hM ⟨va_cnB n hts (gIn (gIn_ws k4)) rfl hrc hrs (X.2.2.1 _ hl) (hts _ k3) ⟨k6, k7, k8⟩ hR, hts _ k1, trivial⟩ (gx_pre X hw As) rfl hn hsz hstk (lv_room hst) hdg hf
theorem gx_runI (X : gX E p s m args c cc nL own) (hw : gw E s h H locs) {b : Nat} (hM : Met l y (gWS y bytes maxL none) rm (gPc E (.ref (gB E + b) :: As) h) Qc mc ms (gA E)) (hk : gMi y bytes maxL n) (hl : Cond.methodLink own index y ∈ gT)
    (hR : rm.frames + 1 ≤ R.frames ∧ 8 + (maxL + 11) + rm.locals ≤ R.locals) (hrc : rm.cells = mc) (hrs : rm.slots = ms) (hn : As.length = n) (hsz : ls.size = nL) (hst : (rest.map fun v => v.category).sum ≤ 8) (hstk : stk = As.reverse ++ .ref (gB E + b) :: rest) (hdg : decode cc pc = .ok (.invokespecial index, 3)) (hf : cells + mc ≤ R.cells ∧ slots + ms ≤ R.slots) :
    va_Run p l e R s m args below meth c H locs cells slots mc ms (F0 m pc ls stk) rest (Qc (Value.ref (gB E + b) :: As).toArray) (gA E) := by
  obtain ⟨k1, k3, k4, k5, k6, k7, k8⟩ := hk
  have hts := X.1.2.2.2.2
  exact va_runI (g := F0 m pc ls stk) X.1 hM ⟨callB_of n hts (gIn (gIn_ws k4)) rfl hrc hrs (hts _ k3) (hts _ hl) ⟨k6, k7, k8⟩ hR, k5, hts _ k1⟩ (gx_pre X hw (.ref (gB E + b) :: As)) rfl hn hsz hstk (lv_room hst) hdg hf
theorem gx_runIN (X : gX E p s m args c cc nL own) (hw : gw E s h H locs) {b : Nat} {host : String} (hM : Met l y (gWS y bytes maxL none) rm (gPc E (.ref (gB E + b) :: As) h) Qc mc ms (gA E)) (hk : gMi y bytes maxL n) (hl : Cond.methodLinkNest own index y host ∈ gN)
    (hR : rm.frames + 1 ≤ R.frames ∧ 8 + (maxL + 11) + rm.locals ≤ R.locals) (hrc : rm.cells = mc) (hrs : rm.slots = ms) (hn : As.length = n) (hsz : ls.size = nL) (hst : (rest.map fun v => v.category).sum ≤ 8) (hstk : stk = As.reverse ++ .ref (gB E + b) :: rest) (hdg : decode cc pc = .ok (.invokespecial index, 3)) (hf : cells + mc ≤ R.cells ∧ slots + ms ≤ R.slots) :
    va_Run p l e R s m args below meth c H locs cells slots mc ms (F0 m pc ls stk) rest (Qc (Value.ref (gB E + b) :: As).toArray) (gA E) := by
  obtain ⟨k1, k3, k4, k5, k6, k7, k8⟩ := hk
  have hts := X.1.2.2.2.2
  exact va_runIN (g := F0 m pc ls stk) X.1 hM ⟨va_cnB n hts (gIn (gIn_ws k4)) rfl hrc hrs (X.2.2.1 _ hl) (hts _ k3) ⟨k6, k7, k8⟩ hR, k5, hts _ k1⟩ (gx_pre X hw (.ref (gB E + b) :: As)) rfl hn hsz hstk (lv_room hst) hdg hf
variable {av : Array Value}
theorem gx_ki {r : Int32} (hr : va_Run p l e R s m args below meth c H locs cells slots mc ms (F0 m pc ls stk) rest (gQi E r h1 av) (gA E)) (hw : gw E s h H locs)
    (kk : ∀ (H1 : Heap) (locs1 : List Loc), gw E s h1 H1 locs1 → W p l e R s m args below meth c H1 locs1 (cells + mc) (slots + ms) Q (F0 m (pc + 3) ls (.int r :: rest))) : W p l e R s m args below meth c H locs cells slots Q (F0 m pc ls stk) :=
  va_calli hr hw.2 (fun _ _ h => h) (fun _ h => h) (fun r' _ t H1 locs1 ht _ hp hB _ _ hS => by
    have hp : r' = r := hp
    subst hp
    exact kk H1 locs1 ⟨by rw [← ht]; exact hB, hS⟩)
theorem gx_kl {r : Int64} (hr : va_Run p l e R s m args below meth c H locs cells slots mc ms (F0 m pc ls stk) rest (gQl E r h1 av) (gA E)) (hw : gw E s h H locs)
    (kk : ∀ (H1 : Heap) (locs1 : List Loc), gw E s h1 H1 locs1 → W p l e R s m args below meth c H1 locs1 (cells + mc) (slots + ms) Q (F0 m (pc + 3) ls (.long r :: rest))) : W p l e R s m args below meth c H locs cells slots Q (F0 m pc ls stk) :=
  va_calll hr hw.2 (fun _ _ h => h) (fun _ h => h) (fun r' _ t H1 locs1 ht _ hp hB _ _ hS => by
    have hp : r' = r := hp
    subst hp
    exact kk H1 locs1 ⟨by rw [← ht]; exact hB, hS⟩)
theorem gx_kv (hr : va_Run p l e R s m args below meth c H locs cells slots mc ms (F0 m pc ls stk) rest (gQv E h1 av) (gA E)) (hw : gw E s h H locs)
    (kk : ∀ (H1 : Heap) (locs1 : List Loc), gw E s h1 H1 locs1 → W p l e R s m args below meth c H1 locs1 (cells + mc) (slots + ms) Q (F0 m (pc + 3) ls rest)) : W p l e R s m args below meth c H locs cells slots Q (F0 m pc ls stk) :=
  va_callv hr hw.2 (fun _ _ h => h) (fun _ h => h) (fun _ t H1 locs1 ht _ _ hB _ _ hS => kk H1 locs1 ⟨by rw [← ht]; exact hB, hS⟩)
theorem gx_kr {r : Nat} (hr : va_Run p l e R s m args below meth c H locs cells slots mc ms (F0 m pc ls stk) rest (gQr E r h1 av) (gA E)) (hw : gw E s h H locs)
    (kk : ∀ (H1 : Heap) (locs1 : List Loc), gw E s h1 H1 locs1 → W p l e R s m args below meth c H1 locs1 (cells + mc) (slots + ms) Q (F0 m (pc + 3) ls (.ref (gB E + r) :: rest))) : W p l e R s m args below meth c H locs cells slots Q (F0 m pc ls stk) :=
  va_callr hr hw.2 (fun _ _ h => h) (fun _ h => h) (fun _ q t H1 locs1 ht _ _ hB _ _ hS => by
    obtain ⟨e1, e2⟩ := hB
    subst e1
    exact kk H1 locs1 ⟨by rw [← ht]; exact e2, hS⟩)
/-! ends -/
theorem gx_iret (X : gX E p s m args c cc nL own) (hr : meth.sig.returnType = some .int) (hlocks : meth.locks = false) (hw : gw E s h H locs) {x r : Int32} (hf : (some (x, h) : Option (Int32 × PH)) = some (r, h1)) (hdg : decode cc pc = .ok (.ireturn, 1)) : W p l e R s m args below meth c H locs cells slots (MQ below (gQi E r h1) args s cells slots (gA E)) (F0 m pc ls [.int x]) := by
  cases hf
  exact W.iret X.1.1 X.1.2.1 hr (fun t ht _ => ⟨⟨_, (), rfl, rfl, show gH E h t.heap by rw [ht]; exact hw.1⟩, hw.2.F ht⟩) hw.2.2.2 hdg hlocks
theorem gx_zret (X : gX E p s m args c cc nL own) (hr : meth.sig.returnType = some .boolean) (hlocks : meth.locks = false) (hw : gw E s h H locs) {x r : Int32} (hf : gg (gzb x) (some (x, h) : Option (Int32 × PH)) = some (r, h1)) (hdg : decode cc pc = .ok (.ireturn, 1)) : W p l e R s m args below meth c H locs cells slots (MQ below (gQi E r h1) args s cells slots (gA E)) (F0 m pc ls [.int x]) := by
  obtain ⟨hz, hf⟩ := gg_el hf
  cases hf
  exact W.zret X.1.1 X.1.2.1 hr (of_decide_eq_true hz) (fun t ht _ => ⟨⟨_, (), rfl, rfl, show gH E h t.heap by rw [ht]; exact hw.1⟩, hw.2.F ht⟩) hw.2.2.2 hdg hlocks
theorem gx_lret (X : gX E p s m args c cc nL own) (hr : meth.sig.returnType = some .long) (hlocks : meth.locks = false) (hw : gw E s h H locs) {x r : Int64} (hf : (some (x, h) : Option (Int64 × PH)) = some (r, h1)) (hdg : decode cc pc = .ok (.lreturn, 1)) : W p l e R s m args below meth c H locs cells slots (MQ below (gQl E r h1) args s cells slots (gA E)) (F0 m pc ls [.long x]) := by
  cases hf
  exact W.lret X.1.1 X.1.2.1 hr (fun t ht _ => ⟨⟨_, (), rfl, rfl, show gH E h t.heap by rw [ht]; exact hw.1⟩, hw.2.F ht⟩) hw.2.2.2 hdg hlocks
theorem gx_vret (X : gX E p s m args c cc nL own) (hr : meth.sig.returnType = none) (hlocks : meth.locks = false) (hw : gw E s h H locs) (hf : (some h : Option PH) = some h1) (hdg : decode cc pc = .ok (.return_, 1)) : W p l e R s m args below meth c H locs cells slots (MQ below (gQv E h1) args s cells slots (gA E)) (F0 m pc ls []) := by
  cases hf
  exact W.vret X.1.1 X.1.2.1 hr (fun t ht _ => ⟨⟨(), rfl, trivial, show gH E h t.heap by rw [ht]; exact hw.1⟩, hw.2.F ht⟩) hw.2.2.2 hdg hlocks
theorem gx_aret {rt : String} (X : gX E p s m args c cc nL own) (hr : meth.sig.returnType = some (.object rt)) (hlocks : meth.locks = false) (hw : gw E s h H locs) {x r : Nat} (hf : (some (x, h) : Option (Nat × PH)) = some (r, h1)) (hdg : decode cc pc = .ok (.areturn, 1)) : W p l e R s m args below meth c H locs cells slots (MQ below (gQr E r h1) args s cells slots (gA E)) (F0 m pc ls [.ref (gB E + x)]) := by
  cases hf
  exact W.aret X.1.1 X.1.2.1 hr (Or.inl ⟨_, rfl⟩) (Or.inr ⟨_, rfl⟩) (fun t ht _ => ⟨⟨(), _, rfl, trivial, rfl, show gH E h t.heap by rw [ht]; exact hw.1⟩, hw.2.F ht⟩) hw.2.2.2 hdg hlocks
/-- a method's beginning -/
theorem gx_met (hy : plainName y.cls = true) (body : ∀ (p : Program) (e : Env) (s : State) (m : MethodId) (below : List Frame) (meth : Method) (c : Code), gX E p s m av c bytes maxL y.cls → meth.sig.returnType = ret → meth.locks = false → (y.name = "<init>" → meth.name = "<init>") → gw E s h s.heap [] →
      W p l e rm s m av below meth c s.heap [] 0 0 (MQ below Qc av s mc ms (gA E)) (entryFrame m av maxL)) (hav : av = As.toArray) : Met l y (gWS y bytes maxL ret) rm (gPc E As h) Qc mc ms (gA E) := by
  refine Met.ofW (cc := bytes) (maxL := maxL) (ret := ret) hy rfl ?_
  intro p e s m args below meth c s₁ B hml hv
  obtain ⟨rfl, hH, hK⟩ := hv
  subst hav
  have hts := atoms_spec (ws := gWS y bytes maxL ret) B.pre
  exact body p e s m below meth c ⟨⟨B.exec, B.bytes, hml, findClass_of_methodNamed B.named, fun w hw => hts w (List.mem_cons_of_mem _ hw)⟩, hK⟩ B.returns B.notSynchronized (fun hi => (name_of_methodNamed B.named B.method).1.trans hi) ⟨hH, va_S.rf⟩
theorem gx_aaldR (X : gX E p s m args c cc nL own) (hw : gw E s h H locs) {t : Nat} {C : String} {i : Int32} {v : Nat} (hr : arR t a i h = some v) (ht : (gtys E)[t]? = some (E.2.1 t, .object C)) (hdg : decode cc pc = .ok (.aaload, 1)) (kk : W p l e R s m args below meth c H locs cells slots Q (F0 m (pc + 1) ls (.ref (gB E + v) :: rest))) : W p l e R s m args below meth c H locs cells slots Q (F0 m pc ls (.int i :: .ref (gB E + a) :: rest)) := gx_aald X hw (arR_el hr) ht hdg kk
theorem gx_oinit (X : gX E p s m args c cc nL own) {idx : Nat} (hl : Cond.methodLink own idx Lib.objectInit ∈ gT) (hi : Cond.instanceMethod Lib.objectInit ∈ gT) (hcd : Cond.code Lib.objectInit ⟨#[0xb1]⟩ 1 none ∈ gT) (hsz : ls.size = nL) (hd : decode cc pc = .ok (.invokespecial idx, 3)) (hframes : 1 ≤ R.frames) (hlocals : (rest.map fun v => v.category).sum + 12 ≤ R.locals)
    (kk : W p l e R s m args below meth c H locs cells slots Q (F0 m (pc + 3) ls rest)) : W p l e R s m args below meth c H locs cells slots Q (F0 m pc ls (.ref a :: rest)) := by
  obtain ⟨hx, hb, hml, hown, hts⟩ := X.1
  exact W.objInit hx hb hown (hts _ hl) (hts _ hi) (hts _ hcd) (g := F0 m pc ls (.ref a :: rest)) rfl (by rw [hml]; exact hsz) rfl hd hframes (by show 2 * 0 + _ + 12 ≤ _; omega) kk
theorem gx_max (X : gX E p s m args c cc nL own) {idx : Nat} (hl : Cond.methodLink own idx Lib.Math.max.name ∈ gT) (hi : Cond.static Lib.Math.max.name ∈ gT) (hI : Cond.initialized "java/lang/Math" ∈ gT) (hcd : Cond.code Lib.Math.max.name Lib.Math.max.code 2 (some .int) ∈ gT) (hsz : ls.size = nL) (hframes : 1 ≤ R.frames) (hlocals : (rest.map fun v => v.category).sum + 13 ≤ R.locals) (hc : cells ≤ R.cells) (hs : slots ≤ R.slots) {x y : Int32} (hdg : decode cc pc = .ok (.invokestatic idx, 3))
    (kk : W p l e R s m args below meth c H locs cells slots Q (F0 m (pc + 3) ls (.int (if x < y then y else x) :: rest))) : W p l e R s m args below meth c H locs cells slots Q (F0 m pc ls (.int y :: .int x :: rest)) := by
  obtain ⟨hx, hb, hml, hown, hts⟩ := X.1
  exact va_mmax hx hb (hml.trans hsz.symm) hown (hts _ hl) (hts _ hi) (hts _ hI) (hts _ hcd) hframes hlocals hc hs hdg kk
theorem gx_min (X : gX E p s m args c cc nL own) {idx : Nat} (hl : Cond.methodLink own idx Lib.Math.min.name ∈ gT) (hi : Cond.static Lib.Math.min.name ∈ gT) (hI : Cond.initialized "java/lang/Math" ∈ gT) (hcd : Cond.code Lib.Math.min.name Lib.Math.min.code 2 (some .int) ∈ gT) (hsz : ls.size = nL) (hframes : 1 ≤ R.frames) (hlocals : (rest.map fun v => v.category).sum + 13 ≤ R.locals) (hc : cells ≤ R.cells) (hs : slots ≤ R.slots) {x y : Int32} (hdg : decode cc pc = .ok (.invokestatic idx, 3))
    (kk : W p l e R s m args below meth c H locs cells slots Q (F0 m (pc + 3) ls (.int (if y < x then y else x) :: rest))) : W p l e R s m args below meth c H locs cells slots Q (F0 m pc ls (.int y :: .int x :: rest)) := by
  obtain ⟨hx, hb, hml, hown, hts⟩ := X.1
  exact va_mmin hx hb (hml.trans hsz.symm) hown (hts _ hl) (hts _ hi) (hts _ hI) (hts _ hcd) hframes hlocals hc hs hdg kk
theorem gx_abs (X : gX E p s m args c cc nL own) {idx : Nat} (hl : Cond.methodLink own idx Lib.Math.abs.name ∈ gT) (hi : Cond.static Lib.Math.abs.name ∈ gT) (hI : Cond.initialized "java/lang/Math" ∈ gT) (hcd : Cond.code Lib.Math.abs.name Lib.Math.abs.code 1 (some .int) ∈ gT) (hsz : ls.size = nL) (hframes : 1 ≤ R.frames) (hlocals : (rest.map fun v => v.category).sum + 13 ≤ R.locals) (hc : cells ≤ R.cells) (hs : slots ≤ R.slots) {x : Int32} (hdg : decode cc pc = .ok (.invokestatic idx, 3))
    (kk : W p l e R s m args below meth c H locs cells slots Q (F0 m (pc + 3) ls (.int (if 0 ≤ x then x else 0 - x) :: rest))) : W p l e R s m args below meth c H locs cells slots Q (F0 m pc ls (.int x :: rest)) := by
  obtain ⟨hx, hb, hml, hown, hts⟩ := X.1
  exact va_mabs hx hb (hml.trans hsz.symm) hown (hts _ hl) (hts _ hi) (hts _ hI) (hts _ hcd) hframes hlocals hc hs hdg kk
end GC
theorem mo_code : Cond.code Lib.objectInit ⟨#[0xb1]⟩ 1 none ∈ gT := gT_1 33 (by decide +kernel) (by decide +kernel)
theorem mo_inst : Cond.instanceMethod Lib.objectInit ∈ gT := gT_1 32 (by decide +kernel) (by decide +kernel)
theorem mx_max : Cond.code Lib.Math.max.name Lib.Math.max.code 2 (some .int) ∈ gT := gT_3 197 (by decide +kernel) (by decide +kernel)
theorem mx_min : Cond.code Lib.Math.min.name Lib.Math.min.code 2 (some .int) ∈ gT := gT_2 223 (by decide +kernel) (by decide +kernel)
theorem mx_abs : Cond.code Lib.Math.abs.name Lib.Math.abs.code 1 (some .int) ∈ gT := gT_3 212 (by decide +kernel) (by decide +kernel)
theorem mt_max : Cond.static Lib.Math.max.name ∈ gT := gT_3 196 (by decide +kernel) (by decide +kernel)
theorem mt_min : Cond.static Lib.Math.min.name ∈ gT := gT_2 222 (by decide +kernel) (by decide +kernel)
theorem mt_abs : Cond.static Lib.Math.abs.name ∈ gT := gT_3 211 (by decide +kernel) (by decide +kernel)
theorem clX0 : gCl 0 RX0 TX0 3 tyX0 := ⟨rfl, inX0, tyX0_ok, nmX0⟩
theorem clX1 : gCl 1 RX1 TX1 10 tyX1 := ⟨rfl, inX1, tyX1_ok, nmX1⟩
theorem clX2 : gCl 2 RX2 TX2 12 tyX2 := ⟨rfl, inX2, tyX2_ok, nmX2⟩
theorem clX3 : gCl 3 RX3 TX3 3 tyX3 := ⟨rfl, inX3, tyX3_ok, nmX3⟩
theorem clX4 : gCl 4 RX4 TX4 4 tyX4 := ⟨rfl, inX4, tyX4_ok, nmX4⟩
theorem clX5 : gCl 5 RX5 TX5 5 tyX5 := ⟨rfl, inX5, tyX5_ok, nmX5⟩
theorem clX6 : gCl 6 RX6 TX6 2 tyX6 := ⟨rfl, inX6, tyX6_ok, nmX6⟩
theorem clX7 : gCl 7 RX7 TX7 3 tyX7 := ⟨rfl, inX7, tyX7_ok, nmX7⟩
theorem clX8 : gCl 8 RX8 TX8 6 tyX8 := ⟨rfl, inX8, tyX8_ok, nmX8⟩
theorem clX9 : gCl 9 RX9 TX9 11 tyX9 := ⟨rfl, inX9, tyX9_ok, nmX9⟩
theorem clX10 : gCl 10 RX10 TX10 7 tyX10 := ⟨rfl, inX10, tyX10_ok, nmX10⟩
theorem clX11 : gCl 11 RX11 TX11 12 tyX11 := ⟨rfl, inX11, tyX11_ok, nmX11⟩
theorem clX12 : gCl 12 RX12 TX12 48 tyX12 := ⟨rfl, inX12, tyX12_ok, nmX12⟩
