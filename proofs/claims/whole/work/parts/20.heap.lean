def gN : List Cond := [.methodLinkNest RX11 9 yX10_init RX11, .methodLinkNest RX11 27 yX7_init RX11, .methodLinkNest RX9 24 yX0_init RX11, .methodLinkNest RX9 31 yX8_init RX11, .methodLinkNest RX9 38 yX6_init RX11, .methodLinkNest RX9 45 yX4_init RX11, .methodLinkNest RX11 47 yX5_init RX11, .methodLinkNest RX11 68 yX2_init RX11, .methodLinkNest RX1 68 yX11_bitOf RX11, .methodLinkNest RX7 34 yX11_bitOf RX11, .methodLinkNest RX6 26 yX11_bitOf RX11, .methodLinkNest RX5 64 yX11_bitOf RX11]
theorem mn_X11_9 : Cond.methodLinkNest RX11 9 yX10_init RX11 ∈ gN := List.mem_of_getElem? (i := 0) rfl
theorem mn_X11_27 : Cond.methodLinkNest RX11 27 yX7_init RX11 ∈ gN := List.mem_of_getElem? (i := 1) rfl
theorem mn_X9_24 : Cond.methodLinkNest RX9 24 yX0_init RX11 ∈ gN := List.mem_of_getElem? (i := 2) rfl
theorem mn_X9_31 : Cond.methodLinkNest RX9 31 yX8_init RX11 ∈ gN := List.mem_of_getElem? (i := 3) rfl
theorem mn_X9_38 : Cond.methodLinkNest RX9 38 yX6_init RX11 ∈ gN := List.mem_of_getElem? (i := 4) rfl
theorem mn_X9_45 : Cond.methodLinkNest RX9 45 yX4_init RX11 ∈ gN := List.mem_of_getElem? (i := 5) rfl
theorem mn_X11_47 : Cond.methodLinkNest RX11 47 yX5_init RX11 ∈ gN := List.mem_of_getElem? (i := 6) rfl
theorem mn_X11_68 : Cond.methodLinkNest RX11 68 yX2_init RX11 ∈ gN := List.mem_of_getElem? (i := 7) rfl
theorem mn_X1_68 : Cond.methodLinkNest RX1 68 yX11_bitOf RX11 ∈ gN := List.mem_of_getElem? (i := 8) rfl
theorem mn_X7_34 : Cond.methodLinkNest RX7 34 yX11_bitOf RX11 ∈ gN := List.mem_of_getElem? (i := 9) rfl
theorem mn_X6_26 : Cond.methodLinkNest RX6 26 yX11_bitOf RX11 ∈ gN := List.mem_of_getElem? (i := 10) rfl
theorem mn_X5_64 : Cond.methodLinkNest RX5 64 yX11_bitOf RX11 ∈ gN := List.mem_of_getElem? (i := 11) rfl
def gSt : List (String × Nat × String × Nat) := [(RX3, 36, "room", 0), (RX3, 46, "guest", 1), (RX3, 91, "trunk", 2), (RX3, 97, "bath", 3), (RX3, 99, "ill", 4), (RX3, 51, "rule", 5), (RX3, 125, "not", 6), (RX3, 134, "and", 7), (RX3, 136, "or", 8), (RX3, 138, "here", 9), (RX3, 140, "gap", 10), (RX3, 142, "floors", 11), (RX3, 144, "stove", 12), (RX3, 146, "moved", 13), (RX11, 151, "no such rule, guest or room", 14), (RX11, 156, "the guest is out, or in the gap", 15)]
/-- classes' numbers and slots, array classes by kind, base, String constants' addresses and rows -/
abbrev gE : Type := va_G × (Nat → ClassId) × Nat × (Nat → Nat) × (Nat → Nat)
abbrev gB (E : gE) : Nat := E.2.2.1
def gA (E : gE) : Nat → Prop := fun q => gB E ≤ q
def gcv (B : Nat) (v : Value) : Value := match v with
  | .ref k => .ref (B + k)
  | v => v
def gca (B : Nat) (x : vp_A) : vp_A := match x with
  | (n, .inr (.inr (.inr (.inr f)))) => (n, .inr (.inr (.inr (.inr (fun j => (f j).map (fun k => B + k))))))
  | x => x
def gce (E : gE) (c : va_E) : va_E := match c with
  | .inl (t, x) => .inl (E.2.1 t, gca (gB E) x)
  | .inr (ci, fs) => .inr (ci, fs.map (gcv (gB E)))
def ghW (E : gE) (h : PH) : va_W := h.mapIdx (fun k c => (gB E + k, gce E c))
theorem ghW_get (E : gE) (h : PH) (k : Nat) : (ghW E h)[k]? = (h[k]?).map (fun c => (gB E + k, gce E c)) := by
  simp [ghW, List.getElem?_mapIdx]
theorem ghW_at {E : gE} {h : PH} {k : Nat} {c : va_E} (hc : h[k]? = some c) : (ghW E h)[k]? = some (gB E + k, gce E c) := by rw [ghW_get, hc]; rfl
def gtys (E : gE) : List (ClassId × FieldType) := [(E.2.1 0, .int), (E.2.1 1, .long), (E.2.1 2, .byte), (E.2.1 3, .boolean), (E.2.1 4, .object RX1), (E.2.1 5, .object RX9)]
def gStr (E : gE) (U : State) : Prop := (∀ q ∈ gSt, vk_R q.1 q.2.1 q.2.2.1 (E.2.2.2.1 q.2.2.2) U) ∧ vk_S 16 gLen gByt E.2.2.2.1 E.2.2.2.2 (gA E) U U.heap ∧ va_Z "java/lang/String" "COMPACT_STRINGS" "Z" (.int 1) (gA E) U U.heap ∧ va_Zq "jdk/internal/util/Preconditions" "SIOOBE_FORMATTER" "Ljava/util/function/BiFunction;" (gA E) U U.heap ∧ vx_Zq Bundle.tN "UNASSIGNED_STACK" Bundle.steD (gA E) U U.heap ∧ vx_Zq Bundle.tN "SUPPRESSED_SENTINEL" Bundle.listD (gA E) U U.heap ∧ va_Nw (.castable "java/util/NoSuchElementException" "java/util/NoSuchElementException") U ∧ va_Nw (.declares (Bundle.initS "java/lang/RuntimeException")) U ∧ va_Nw (.declares (Bundle.initS "java/lang/Exception")) U ∧ va_Nw (.declares (Bundle.initS Bundle.tN)) U
def gK (E : gE) (U : State) : Prop := va_K E.1 vwCl (gtys E) U ∧ (∀ w ∈ gN, va_Nw w U) ∧ (va_AO RX1 U ∧ va_AO RX9 U) ∧ gStr E U
/-- the plain heap is what the machine's heap holds from base on -/
def gH (E : gE) (h : PH) (H : Heap) : Prop := H.size = gB E + h.length ∧ va_P E.1 vwCl (ghW E h) H
def gw (E : gE) (s : State) (h : PH) (H : Heap) (locs : List Loc) : Prop := gH E h H ∧ va_S (gA E) s.heap H locs
def gX (E : gE) (p : Program) (s : State) (m : MethodId) (args : Array Value) (c : Code) (cc : ByteArray) (nL : Nat) (own : String) : Prop := CallFix p m c cc nL s args gT own ∧ gK E s
theorem gN_nest : ∀ w ∈ gN, ∃ (a : String) (i : Nat) (x : MethodName) (hst : String), w = .methodLinkNest a i x hst := by
  intro w hw
  simp only [gN, List.mem_cons, List.not_mem_nil, or_false] at hw
  rcases hw with h | h | h | h | h | h | h | h | h | h | h | h <;> exact ⟨_, _, _, _, h⟩
theorem gStr_move {E : gE} {s U : State} (h : gStr E s) (hW : s.WarmedH U.vm) (hk : ∀ q : Nat, q < s.heap.size → ¬ gA E q → U.heap[q]? = s.heap[q]?) : gStr E U :=
  ⟨fun q hq => vk_R.warm hW (h.1 q hq), (vk_S.moved hW.alike h.2.1).kept hk, (va_Z.moved hW.alike h.2.2.1).kept hk, (va_Zq.moved hW.alike h.2.2.2.1).kept hk, (vx_Zq.moved hW.alike h.2.2.2.2.1).kept hk, (vx_Zq.moved hW.alike h.2.2.2.2.2.1).kept hk, va_Nw.warmC hW h.2.2.2.2.2.2.1, va_Nw.warmD hW h.2.2.2.2.2.2.2.1, va_Nw.warmD hW h.2.2.2.2.2.2.2.2.1, va_Nw.warmD hW h.2.2.2.2.2.2.2.2.2⟩
theorem gK_move {E : gE} {s U : State} (h : gK E s) (hW : s.WarmedH U.vm) (hk : ∀ q : Nat, q < s.heap.size → ¬ gA E q → U.heap[q]? = s.heap[q]?) : gK E U := by
  obtain ⟨h1, h2, h3, h4⟩ := h
  refine ⟨va_K.moved hW.alike h1, fun w hw => ?_, ⟨va_AO.moved hW.alike h3.1, va_AO.moved hW.alike h3.2⟩, gStr_move h4 hW hk⟩
  obtain ⟨a, i, x, hst, rfl⟩ := gN_nest w hw
  exact va_Nw.warmM hW (h2 _ hw)
theorem gK_calling {E : gE} {U : State} (g : JFrame) (mk : MethodId) (a : Array Value) (h : gK E U) : gK E (U.calling g mk a) := by
  obtain ⟨h1, h2, h3, h4⟩ := h
  refine ⟨va_K.moved (Vm.Alike.refl U.vm) h1, fun w hw => ?_, ⟨va_AO.moved (Vm.Alike.refl U.vm) h3.1, va_AO.moved (Vm.Alike.refl U.vm) h3.2⟩, fun q hq => vk_R.same rfl (h4.1 q hq), (vk_S.moved (Vm.Alike.refl U.vm) h4.2.1).kept (fun _ _ _ => rfl), (va_Z.moved (Vm.Alike.refl U.vm) h4.2.2.1).kept (fun _ _ _ => rfl), (va_Zq.moved (Vm.Alike.refl U.vm) h4.2.2.2.1).kept (fun _ _ _ => rfl), (vx_Zq.moved (Vm.Alike.refl U.vm) h4.2.2.2.2.1).kept (fun _ _ _ => rfl), (vx_Zq.moved (Vm.Alike.refl U.vm) h4.2.2.2.2.2.1).kept (fun _ _ _ => rfl), va_Nw.same rfl rfl h4.2.2.2.2.2.2.1, va_Nw.same rfl rfl h4.2.2.2.2.2.2.2.1, va_Nw.same rfl rfl h4.2.2.2.2.2.2.2.2.1, va_Nw.same rfl rfl h4.2.2.2.2.2.2.2.2.2⟩
  obtain ⟨x1, x2, x3, x4, rfl⟩ := gN_nest w hw
  exact va_Nw.same rfl rfl (h2 _ hw)
theorem gw_set {E : gE} {s : State} {h : PH} {H H1 : Heap} {locs : List Loc} {a k : Nat} {c0 c1 : va_E} (hw : gw E s h H locs) (ha : h[a]? = some c0) (z : H1.size = H.size) (oq : ∀ q : Nat, q ≠ gB E + a → H1[q]? = H[q]?) (he : va_at E.1 vwCl (gB E + a, gce E c1) H1) : gw E s (h.set a c1) H1 (locs ++ [⟨gB E + a, k⟩]) := by
  refine ⟨⟨by rw [z, List.length_set]; exact hw.1.1, fun j q hj => ?_⟩, hw.2.put z oq (Nat.le_add_right _ _)⟩
  rw [ghW_get] at hj
  have hl := (List.getElem?_eq_some_iff.mp ha).1
  by_cases hja : j = a
  · subst hja
    rw [List.getElem?_set_self hl] at hj
    cases hj
    exact he
  · rw [List.getElem?_set_ne (Ne.symm hja)] at hj
    cases hc : h[j]? with
    | none => rw [hc] at hj; cases hj
    | some c =>
      rw [hc] at hj
      cases hj
      exact (hw.1.2 j _ (ghW_at hc)).kept (oq _ (by omega))
theorem gw_push {E : gE} {s : State} {h : PH} {H H1 : Heap} {locs : List Loc} {c : va_E} (hw : gw E s h H locs) (z : H1.size = H.size + 1) (oq : ∀ q : Nat, q < H.size → H1[q]? = H[q]?) (he : va_at E.1 vwCl (gB E + h.length, gce E c) H1) : gw E s (h ++ [c]) H1 locs := by
  refine ⟨⟨by rw [z, hw.1.1, List.length_append]; rfl, fun j q hj => ?_⟩, Nat.le_trans hw.2.1 (by omega), fun x h1 h2 => (oq x (Nat.lt_of_lt_of_le h1 hw.2.1)).trans (hw.2.2.1 x h1 h2), hw.2.2.2⟩
  rw [ghW_get] at hj
  by_cases hl : j < h.length
  · rw [List.getElem?_append_left hl] at hj
    cases hc : h[j]? with
    | none => rw [hc] at hj; cases hj
    | some c =>
      rw [hc] at hj
      cases hj
      have h1 := hw.1.2 j _ (ghW_at hc)
      exact h1.kept (oq _ h1.lt)
  · rw [List.getElem?_append_right (by omega)] at hj
    cases hz : j - h.length with
    | zero =>
      rw [hz] at hj
      cases hj
      rw [show j = h.length by omega]
      exact he
    | succ z => rw [hz] at hj; simp at hj
