abbrev gnNS : String := "java/util/NoSuchElementException"
abbrev gnRE : String := "java/lang/RuntimeException"
abbrev gnEX : String := "java/lang/Exception"
abbrev gnB : ByteArray := prog_30_method_4_code
theorem gn_0 : decode gnB 0 = .ok (.aload_n 0, 1) := by decide +kernel
theorem gn_1 : decode gnB 1 = .ok (.aload_n 1, 1) := by decide +kernel
theorem gn_2 : decode gnB 2 = .ok (.invokespecial 13, 3) := by decide +kernel
theorem gn_5 : decode gnB 5 = .ok (.return_, 1) := by decide +kernel
/-- what the class that throws says itself -/
def gnOwn (own : String) (ic : Nat) : List Cond := [.methodLink own ic (Bundle.initS gnNS), .instantiable gnNS 6]
/-- the constructors that hand the text up to Throwable's -/
def gnUp : List Cond := Bundle.passSAtoms gnNS gnRE 13 gnB ++ Bundle.chainSAtoms gnRE [gnEX]
/-- the fields that an object of it has of Throwable -/
def gnFld : List (String × String) :=
  [("backtrace", "Ljava/lang/Object;"), ("detailMessage", "Ljava/lang/String;"), ("cause", "Ljava/lang/Throwable;"), ("stackTrace", Bundle.steD), ("suppressedExceptions", Bundle.listD)]
def gnLays : List Cond := gnFld.map fun q => .lays gnNS Bundle.tN q.1 q.2
def gnSel : List Cond := [Bundle.tFill, Bundle.tFill0].map fun y => .selects gnNS y y
def gnStat : List Cond := [("UNASSIGNED_STACK", Bundle.steD), ("SUPPRESSED_SENTINEL", Bundle.listD)].map fun q => .isRef (.static Bundle.tN q.1 q.2)
def gnBack : List Cond := [.fieldLink Bundle.tN 198 Bundle.tN "backtrace" "Ljava/lang/Object;", .lays Bundle.tN Bundle.tN "backtrace" "Ljava/lang/Object;"]
def gnAtoms (own : String) (ic : Nat) : List Cond := gnOwn own ic ++ (gnUp ++ (gnLays ++ (gnSel ++ (gnStat ++ (gnBack ++ (Bundle.throwableAtoms ++ Bundle.throwableSAtoms))))))
section GN
variable {p : Program} {l : Launch} {e : Env} {R : Room} {s : State} {m : MethodId} {args : Array Value} {below : List Frame} {meth : Method} {c : Code} {V : State} {cells slots : Nat}
variable {k : ClassId} {K : Class} {f g : Field}
/-- three constructors hand the text on, the first is the class's own -/
theorem gn_up {pl : Platform} (hpl : pl.magicAccessors = ({} : Platform).magicAccessors) {top : MethodId} (ht : s.methodNamed? (Bundle.initS Bundle.tN) = some top) (h : ∀ w ∈ gnUp, w.before args s = true) :
    ∃ Ps : List PassC, Ps.length = 3 ∧ (∀ P, P ∈ Ps → P.LinksS pl s) ∧ s.methodNamed? (Bundle.initS gnNS) = some (firstOf top (Ps.map (·.toPassT))) ∧ PassesOn top (Ps.map (·.toPassT)) := by
  obtain ⟨h1, h2⟩ := List.forall_mem_append.mp h
  obtain ⟨P, lP, nP, sP⟩ := PassC.ofS_atoms (args := args) (s := s) hpl (by decide) (by decide) gn_0 gn_1 gn_2 gn_5 h1
  obtain ⟨Q, Qs, len, lQ, lQs, nQ, sQ, on⟩ := Bundle.chainS (args := args) hpl ht [gnEX] gnRE (by decide) (by decide) h2
  exact ⟨P :: Q :: Qs, by rw [List.length_cons, List.length_cons, len]; rfl, List.forall_mem_cons.mpr ⟨lP, List.forall_mem_cons.mpr ⟨lQ, lQs⟩⟩, nP, Option.some.inj (sP.symm.trans nQ), sQ, on⟩
/-- field f lies in an object of class k -/
def gnAt (s : State) (k : ClassId) (K : Class) (f : Field) : Prop := K.instanceTypes[f.slot]? = some f.type ∧ ∃ d, Jmm.declares? s.vm f.slot (k + 1) k = some d ∧ d.2.name = f.name
theorem gnAt.ne (hf : gnAt s k K f) (hg : gnAt s k K g) (h : f.name ≠ g.name) : f.slot ≠ g.slot :=
  let ⟨_, _, h1, n1⟩ := hf
  let ⟨_, _, h2, n2⟩ := hg
  Cond.laysApart h1 h2 n1 n2 h
theorem gn_past {x : Cell} {i j : Nat} {u v : Value} (h : x.slots[i]? = some v) (hj : j ≠ i) : (x.setSlot j u).slots[i]? = some v := by
  rw [← h]
  exact Array.getElem?_setIfInBounds_ne hj
theorem gn_sel (hA : l.admits e) {y : MethodName} {t : MethodId} (hk : s.vm.findClass gnNS = some k) (ht : s.methodNamed? y = some t) (hy : y.cls ≠ "java/lang/invoke/MethodHandle" ∧ y.cls ≠ "java/lang/invoke/VarHandle") (h : (Cond.selects gnNS y y).before args s = true) :
    selectMethod e.platform s.vm k t = .method t := by
  obtain ⟨_, _, _, h1, h2, h3, h4, -⟩ := Cond.selects_spec h
  rw [hk] at h1
  rw [State.methodFound?_of_named ht hy] at h2
  rw [ht] at h3
  cases h1
  cases h2
  cases h3
  exact (Launch.admits_selectMethod hA _ _ _).trans h4
/-- a cell that was there before stands as it was -/
theorem gn_kept (X : Stand p l e R s m args below meth c V [] cells slots) {q : Addr} {x : Cell} (h : s.heap[q]? = some x) : ∃ y : Cell, V.heap[q]? = some y ∧ y.vm = x.vm ∧ ∀ i : Nat, y.slots[i]? = x.slots[i]? := by
  obtain ⟨y, h1, h2, -, h3⟩ := X.same.2.2.2.2.2 q x h
  exact ⟨y, h1, by rw [h2], fun i => h3 i List.not_mem_nil⟩
/-- 'invokespecial <init>(String)' on the new object: afterwards it is built, and nothing else has changed -/
theorem gn_made (X : Stand p l e R s m args below meth c V [] cells slots) (hx : p.tables.exec = Jvm.exec) (htr : e.platform.stackTraces = false) {own : String} {ic : Nat} (hown : s.vm.findClass own = some m.cls) (h : ∀ w ∈ gnAtoms own ic, w.before args s = true)
    {a : Addr} (hf : s.vm.findClass gnNS = some k) (hk : s.vm.classes[k]? = some K) (hc : V.heap[a]? = some (freshCell k K)) (hn : s.heap.size ≤ a) {v : Value} (hv : v.isRef = true)
    {j : JFrame} (hj : j.method = m) (hz : j.locals.size = c.maxLocals) {rest : List Value} (hst : j.stack = v :: .ref a :: .ref a :: rest) (hd : decode c.code j.pc = .ok (.invokespecial ic, 3))
    (r1 : 5 < R.frames) (r2 : 2 * j.monitorRoom + ((Value.ref a :: rest).map fun v => v.category).sum + 81 ≤ R.locals) :
    ∃ (V' : State) (L : List Loc) (x : Cell), (∀ z ∈ L, z.base = a) ∧ V'.heap[a]? = some x ∧ x.vm = .none ∧ x.cls = k ∧ Stand p l e R s m args below meth c V' L cells slots ∧
      ∀ t, Steps p.tables e below (V'.setTop { j with stack := .ref a :: rest, pc := j.pc + 3 }) t → Steps p.tables e below (V.setTop j) t := by
  have pm : e.platform.magicAccessors = ({} : Platform).magicAccessors := by rw [X.admits.platform]
  simp only [gnAtoms, List.forall_mem_append] at h
  obtain ⟨wO, wU, wL, wS, wR, wB, wT, wI⟩ := h
  obtain ⟨T, Z0, hT, -, Y⟩ := ThrowableC.of_atoms (args := args) (s := s) (pl := e.platform) (by rw [X.admits.platform]) (by rw [X.admits.platform]) pm wT
  obtain ⟨Z, M, hZ, hM, nZ⟩ := Init0T.ofS_atoms (args := args) pm hT Y wI
  obtain ⟨Ps, len, lPs, first, on⟩ := gn_up pm nZ wU
  have fld : ∀ q ∈ gnFld, ∀ (c' i : Nat) (k' : Class) (f : Field), s.fieldFound? Bundle.tN q.1 q.2 = some (c', k', i, f) → gnAt s k K f := fun q hq _ _ _ _ h => Cond.laysAt hf hk h (wL _ (List.mem_map_of_mem hq))
  obtain ⟨iM, fM⟩ := Y.msg
  obtain ⟨ci, iB, B, b1, b2, b3, b4, -, nB, tB, fB⟩ := Cond.ownField (t := .object "java/lang/Object") Y.found hT.cls (by decide +kernel) (wB _ (.head _)) (wB _ (.tail _ (.head _))) e.platform pm
  have aB := fld (_, _) (.head _) _ _ _ _ fB
  have aM := fld (_, _) (.tail _ (.head _)) _ _ _ _ fM
  have aC := fld (_, _) (.tail _ (.tail _ (.head _))) _ _ _ _ Y.cause
  have aS := fld (_, _) (.tail _ (.tail _ (.tail _ (.head _)))) _ _ _ _ Y.stack
  have aP := fld (_, _) (.tail _ (.tail _ (.tail _ (.tail _ (.head _))))) _ _ _ _ Y.supp
  have ord : K.kind = .ordinary := by
    obtain ⟨_, _, h1, h2, h3, -⟩ := Cond.instantiable_spec (wO (.instantiable gnNS 6) (by simp [gnOwn]))
    rw [hf] at h1
    cases h1
    rw [hk] at h2
    cases h2
    exact h3
  have nul : (freshCell k K).slots[B.slot]? = some .null := by
    have h1 := fresh_default (c := k) aB.1
    rw [tB] at h1
    exact h1
  obtain ⟨x0, hx0, st0⟩ := Y.statics
  obtain ⟨u, hu⟩ := Cond.staticRefV Y.unassigned hT.unassignedStatic hT.statics hx0 st0 (wR _ (.head _))
  obtain ⟨w, hw⟩ := Cond.staticRefV Y.sentinel hT.sentinelStatic hT.statics hx0 st0 (wR _ (.tail _ (.head _)))
  obtain ⟨x1, hx1, vx1, sx1⟩ := gn_kept X hx0
  obtain ⟨tm, _, _, _, vm1, ntm, -, -, -, -, -, -, -, wm, go⟩ := Steps.initColdS (tb := p.tables) (e := e) (below := below) (s := s) (U := V) X.here hx X.warmed pm hown (t := Bundle.initS gnNS) rfl rfl (by decide)
    (wO _ (.head _)) (wU _ (List.mem_append_left _ (.head _))) (bytes := gnB) (maxL := 2) (wU _ (List.mem_append_left _ (.tail _ (.head _)))) hj hst hd
  obtain rfl : tm = firstOf (Z.m T.toThrowableT) (Ps.map (·.toPassT)) := Option.some.inj (ntm.symm.trans first)
  obtain ⟨vm2, X2, fin⟩ := (X.noted wm).ctorMessageOffV hx (g := { j with stack := .ref a :: rest }) hj hz T hT Z hZ M hM Ps lPs on (u0 := u) (sen := w) (self := a) hv (cell := freshCell k K) (cellS := x1)
    hc (fun _ h => nomatch h) (fun h => nomatch h) rfl rfl (gn_sel X.admits hf Y.fill0 (by decide) (wS _ (.tail _ (.head _)))) (gn_sel X.admits hf Y.fill (by decide) (wS _ (.head _))) hx1
    (fun h => absurd (Array.getElem?_eq_some_iff.mp hx0).1 (Nat.not_lt.mpr (h ▸ hn))) (fun h => by rw [← vx1, h] at st0; cases st0) ((sx1 _).trans hu) ((sx1 _).trans hw)
    (Takes.of_laid hk ord aC.1 (by rw [Y.causeType]; rfl)) (Takes.of_laid hk ord aS.1 (by rw [Y.stackType]; exact fits_refV_array _ u)) (Takes.of_laid hk ord aP.1 (by rw [Y.suppType]; exact fits_refV_object _ w))
    (Takes.of_laid hk ord aM.1 (by rw [Y.msgType]; exact fits_refV_object _ ⟨v, hv⟩)) Y.objLocals
    ⟨⟨ci, iB, B⟩, ⟨b1, b2, b3, b4⟩, gn_past (gn_past (gn_past nul (aC.ne aB (by rw [Y.causeName, nB]; decide))) (aS.ne aB (by rw [Y.stackName, nB]; decide))) (aP.ne aB (by rw [Y.suppName, nB]; decide)), fun _ _ => rfl⟩
    htr [] hd (by rw [len]; exact r1) (by rw [len]; exact r2)
  refine ⟨_, _, plainBareV T.toThrowableT (freshCell k K) a u w v, ?_, heapAt_setCell_self (s := (V.setVm vm1).setVm vm2) _ (Array.getElem?_eq_some_iff.mp hc).1, rfl, rfl, X2, fun t ht => go t fun acts => ?_⟩
  · simp
  · rw [doInvoke_state]
    exact fin t ht
/-- the constructor, and 'athrow' behind it -/
theorem gn_throws (X : Stand p l e R s m args below meth c V [] cells slots) (hx : p.tables.exec = Jvm.exec) (htr : e.platform.stackTraces = false) {own : String} {ic : Nat} (hown : s.vm.findClass own = some m.cls) (h : ∀ w ∈ gnAtoms own ic, w.before args s = true)
    {a : Addr} (hf : s.vm.findClass gnNS = some k) (hk : s.vm.classes[k]? = some K) (hc : V.heap[a]? = some (freshCell k K)) (hn : s.heap.size ≤ a) {v : Value} (hv : v.isRef = true)
    {j : JFrame} (hj : j.method = m) (hz : j.locals.size = c.maxLocals) (hl : j.locked = none) (he : j.entered = []) {rest : List Value} (hst : j.stack = v :: .ref a :: .ref a :: rest)
    (d1 : decode c.code j.pc = .ok (.invokespecial ic, 3)) (d2 : decode c.code (j.pc + 3) = .ok (.athrow, 1)) (ho : ∀ x ∈ c.exceptionTable.toList, covers x (j.pc + 3) = false)
    (r1 : 5 < R.frames) (r2 : 2 * j.monitorRoom + ((Value.ref a :: rest).map fun v => v.category).sum + 81 ≤ R.locals) (hlk : meth.locks = false) :
    ∃ U : State, Steps p.tables e below (V.setTop j) U ∧ U.status = .running ∧ Ended U below (.threw a) ∧ s.WarmedH U.vm ∧ s.sameButNew ({ U with vm := s.vm } : State) [] cells slots ∧
      ∃ x, U.heap[a]? = some x ∧ x.vm = .none ∧ s.vm.findClass gnNS = some x.cls := by
  obtain ⟨V', L, x, hL, h1, h2, h3, X', go⟩ := gn_made X hx htr hown h hf hk hc hn hv hj hz hst d1 r1 r2
  obtain ⟨t1, t2, t3, t4, t5⟩ := X'.athrowLeaves hx (g := { j with stack := .ref a :: rest, pc := j.pc + 3 }) hj hl he ho rfl d2 hlk
  exact ⟨_, go _ t1, t2, t3, t4, t5.weaken (fun z hz hb => absurd (hL z hz ▸ hb) (Nat.not_lt.mpr hn)) (Nat.le_refl _) (Nat.le_refl _), x, h1, h2, by rw [h3]; exact hf⟩
end GN
