def gN : List Cond := [.methodLinkNest RX11 9 yX10_init RX11, .methodLinkNest RX11 27 yX7_init RX11, .methodLinkNest RX9 24 yX0_init RX11, .methodLinkNest RX9 31 yX8_init RX11, .methodLinkNest RX9 38 yX6_init RX11, .methodLinkNest RX9 45 yX4_init RX11, .methodLinkNest RX11 47 yX5_init RX11, .methodLinkNest RX11 68 yX2_init RX11, .methodLinkNest RX1 68 yX11_bitOf RX11, .methodLinkNest RX7 34 yX11_bitOf RX11, .methodLinkNest RX6 26 yX11_bitOf RX11, .methodLinkNest RX5 64 yX11_bitOf RX11]
theorem mn_X11_9 : Cond.methodLinkNest RX11 9 yX10_init RX11 ∈ gN := List.mem_of_getElem? (i := 0) rfl
theorem mn_X11_27 : Cond.methodLinkNest RX11 27 yX7_init RX11 ∈ gN := List.mem_of_getElem? (i := 1) rfl
theorem mn_X9_24 : Cond.methodLinkNest RX9 24 yX0_init RX11 ∈ gN := List.mem_of_getElem? (i := 2) rfl
theorem mn_X9_31 : Cond.methodLinkNest RX9 31 yX8_init RX11 ∈ gN := List.mem_of_getElem? (i := 3) rfl
theorem mn_X9_38 : Cond.methodLinkNest RX9 38 yX6_init RX11 ∈ gN := List.mem_of_getElem? (i := 4) rfl
theorem mn_X9_45 : Cond.methodLinkNest RX9 45 yX4_init RX11 ∈ gN := List.mem_of_getElem? (i := 5) rfl
theorem mn_X11_47 : Cond.methodLinkNest RX11 47 yX5_init RX11 ∈ gN := List.mem_of_getElem? (i := 6) rfl
theorem mn_X11_68 : Cond.methodLinkNest RX11 68 yX2_init RX11 ∈ gN := List.mem_of_getElem? (i := 7) rfl
theorem mn_X1_68 : Cond.methodLinkNest RX1 68 yX11_bitOf RX11 ∈ gN := List.mem_of_getElem? (i := 8) rfl
theorem mn_X7_34 : Cond.methodLinkNest RX7 34 yX11_bitOf RX11 ∈ gN := List.mem_of_getElem? (i := 9) rfl
theorem mn_X6_26 : Cond.methodLinkNest RX6 26 yX11_bitOf RX11 ∈ gN := List.mem_of_getElem? (i := 10) rfl
theorem mn_X5_64 : Cond.methodLinkNest RX5 64 yX11_bitOf RX11 ∈ gN := List.mem_of_getElem? (i := 11) rfl
def gSt : List (String × Nat × String × Nat) := [(RX3, 36, "room", 0), (RX3, 46, "guest", 1), (RX3, 91, "trunk", 2), (RX3, 97, "bath", 3), (RX3, 99, "ill", 4), (RX3, 51, "rule", 5), (RX3, 125, "not", 6), (RX3, 134, "and", 7), (RX3, 136, "or", 8), (RX3, 138, "here", 9), (RX3, 140, "gap", 10), (RX3, 142, "floors", 11), (RX3, 144, "stove", 12), (RX3, 146, "moved", 13), (RX11, 151, "no such rule, guest or room", 14), (RX11, 156, "the guest is out, or in the gap", 15)]
def gLen : List Nat := [4, 5, 5, 4, 3, 4, 3, 3, 2, 4, 3, 6, 5, 5, 27, 31]
def gByt : List (List Int32) := [[114, 111, 111, 109], [103, 117, 101, 115, 116], [116, 114, 117, 110, 107], [98, 97, 116, 104], [105, 108, 108], [114, 117, 108, 101], [110, 111, 116], [97, 110, 100], [111, 114], [104, 101, 114, 101], [103, 97, 112], [102, 108, 111, 111, 114, 115], [115, 116, 111, 118, 101], [109, 111, 118, 101, 100], [110, 111, 32, 115, 117, 99, 104, 32, 114, 117, 108, 101, 44, 32, 103, 117, 101, 115, 116, 32, 111, 114, 32, 114, 111, 111, 109], [116, 104, 101, 32, 103, 117, 101, 115, 116, 32, 105, 115, 32, 111, 117, 116, 44, 32, 111, 114, 32, 105, 110, 32, 116, 104, 101, 32, 103, 97, 112]]
/-! The plain heap: a list of cells, the k-th at the address base + k; references in it are places. -/
abbrev PH : Type := List va_E
/-- classes' numbers and slots, array classes by kind, base, String constants' addresses and rows -/
abbrev gE : Type := va_G × (Nat → ClassId) × Nat × (Nat → Nat) × (Nat → Nat)
abbrev gB (E : gE) : Nat := E.2.2.1
def gA (E : gE) : Nat → Prop := fun q => gB E ≤ q
def gcv (B : Nat) (v : Value) : Value := match v with
  | .ref k => .ref (B + k)
  | v => v
def gca (B : Nat) (x : vp_A) : vp_A := match x with
  | (n, .inr (.inr (.inr (.inr f)))) => (n, .inr (.inr (.inr (.inr (fun j => (f j).map (fun k => B + k))))))
  | x => x
def gce (E : gE) (c : va_E) : va_E := match c with
  | .inl (t, x) => .inl (E.2.1 t, gca (gB E) x)
  | .inr (ci, fs) => .inr (ci, fs.map (gcv (gB E)))
def ghW (E : gE) (h : PH) : va_W := h.mapIdx (fun k c => (gB E + k, gce E c))
theorem ghW_get (E : gE) (h : PH) (k : Nat) : (ghW E h)[k]? = (h[k]?).map (fun c => (gB E + k, gce E c)) := by
  simp [ghW, List.getElem?_mapIdx]
theorem ghW_at {E : gE} {h : PH} {k : Nat} {c : va_E} (hc : h[k]? = some c) : (ghW E h)[k]? = some (gB E + k, gce E c) := by rw [ghW_get, hc]; rfl
def gtys (E : gE) : List (ClassId × FieldType) := [(E.2.1 0, .int), (E.2.1 1, .long), (E.2.1 2, .byte), (E.2.1 3, .boolean), (E.2.1 4, .object RX1), (E.2.1 5, .object RX9)]
def gStr (E : gE) (U : State) : Prop := (∀ q ∈ gSt, vk_R q.1 q.2.1 q.2.2.1 (E.2.2.2.1 q.2.2.2) U) ∧ vk_S 16 gLen gByt E.2.2.2.1 E.2.2.2.2 (gA E) U U.heap ∧ va_Z "java/lang/String" "COMPACT_STRINGS" "Z" (.int 1) (gA E) U U.heap
def gK (E : gE) (U : State) : Prop := va_K E.1 vwCl (gtys E) U ∧ (∀ w ∈ gN, va_Nw w U) ∧ (va_AO RX1 U ∧ va_AO RX9 U) ∧ gStr E U
/-- the plain heap is what the machine's heap holds from base on -/
def gH (E : gE) (h : PH) (H : Heap) : Prop := H.size = gB E + h.length ∧ va_P E.1 vwCl (ghW E h) H
def gw (E : gE) (s : State) (h : PH) (H : Heap) (locs : List Loc) : Prop := gH E h H ∧ va_S (gA E) s.heap H locs
def gX (E : gE) (p : Program) (s : State) (m : MethodId) (args : Array Value) (c : Code) (cc : ByteArray) (nL : Nat) (own : String) : Prop := CallFix p m c cc nL s args gT own ∧ gK E s
theorem gN_nest : ∀ w ∈ gN, ∃ (a : String) (i : Nat) (x : MethodName) (hst : String), w = .methodLinkNest a i x hst := by
  intro w hw
  simp only [gN, List.mem_cons, List.not_mem_nil, or_false] at hw
  rcases hw with h | h | h | h | h | h | h | h | h | h | h | h <;> exact ⟨_, _, _, _, h⟩
theorem gStr_move {E : gE} {s U : State} (h : gStr E s) (hW : s.WarmedH U.vm) (hk : ∀ q : Nat, q < s.heap.size → ¬ gA E q → U.heap[q]? = s.heap[q]?) : gStr E U :=
  ⟨fun q hq => vk_R.warm hW (h.1 q hq), (vk_S.moved hW.alike h.2.1).kept hk, (va_Z.moved hW.alike h.2.2).kept hk⟩
theorem gK_move {E : gE} {s U : State} (h : gK E s) (hW : s.WarmedH U.vm) (hk : ∀ q : Nat, q < s.heap.size → ¬ gA E q → U.heap[q]? = s.heap[q]?) : gK E U := by
  obtain ⟨h1, h2, h3, h4⟩ := h
  refine ⟨va_K.moved hW.alike h1, fun w hw => ?_, ⟨va_AO.moved hW.alike h3.1, va_AO.moved hW.alike h3.2⟩, gStr_move h4 hW hk⟩
  obtain ⟨a, i, x, hst, rfl⟩ := gN_nest w hw
  exact va_Nw.warmM hW (h2 _ hw)
theorem gK_calling {E : gE} {U : State} (g : JFrame) (mk : MethodId) (a : Array Value) (h : gK E U) : gK E (U.calling g mk a) := by
  obtain ⟨h1, h2, h3, h4⟩ := h
  refine ⟨va_K.moved (Vm.Alike.refl U.vm) h1, fun w hw => ?_, ⟨va_AO.moved (Vm.Alike.refl U.vm) h3.1, va_AO.moved (Vm.Alike.refl U.vm) h3.2⟩, fun q hq => vk_R.same rfl (h4.1 q hq), (vk_S.moved (Vm.Alike.refl U.vm) h4.2.1).kept (fun _ _ _ => rfl), (va_Z.moved (Vm.Alike.refl U.vm) h4.2.2).kept (fun _ _ _ => rfl)⟩
  obtain ⟨x1, x2, x3, x4, rfl⟩ := gN_nest w hw
  exact va_Nw.same rfl rfl (h2 _ hw)
theorem gw_set {E : gE} {s : State} {h : PH} {H H1 : Heap} {locs : List Loc} {a k : Nat} {c0 c1 : va_E} (hw : gw E s h H locs) (ha : h[a]? = some c0) (z : H1.size = H.size) (oq : ∀ q : Nat, q ≠ gB E + a → H1[q]? = H[q]?) (he : va_at E.1 vwCl (gB E + a, gce E c1) H1) : gw E s (h.set a c1) H1 (locs ++ [⟨gB E + a, k⟩]) := by
  refine ⟨⟨by rw [z, List.length_set]; exact hw.1.1, fun j q hj => ?_⟩, hw.2.put z oq (Nat.le_add_right _ _)⟩
  rw [ghW_get] at hj
  have hl := (List.getElem?_eq_some_iff.mp ha).1
  by_cases hja : j = a
  · subst hja
    rw [List.getElem?_set_self hl] at hj
    cases hj
    exact he
  · rw [List.getElem?_set_ne (Ne.symm hja)] at hj
    cases hc : h[j]? with
    | none => rw [hc] at hj; cases hj
    | some c =>
      rw [hc] at hj
      cases hj
      exact (hw.1.2 j _ (ghW_at hc)).kept (oq _ (by omega))
theorem gw_push {E : gE} {s : State} {h : PH} {H H1 : Heap} {locs : List Loc} {c : va_E} (hw : gw E s h H locs) (z : H1.size = H.size + 1) (oq : ∀ q : Nat, q < H.size → H1[q]? = H[q]?) (he : va_at E.1 vwCl (gB E + h.length, gce E c) H1) : gw E s (h ++ [c]) H1 locs := by
  refine ⟨⟨by rw [z, hw.1.1, List.length_append]; rfl, fun j q hj => ?_⟩, Nat.le_trans hw.2.1 (by omega), fun x h1 h2 => (oq x (Nat.lt_of_lt_of_le h1 hw.2.1)).trans (hw.2.2.1 x h1 h2), hw.2.2.2⟩
  rw [ghW_get] at hj
  by_cases hl : j < h.length
  · rw [List.getElem?_append_left hl] at hj
    cases hc : h[j]? with
    | none => rw [hc] at hj; cases hj
    | some c =>
      rw [hc] at hj
      cases hj
      have h1 := hw.1.2 j _ (ghW_at hc)
      exact h1.kept (oq _ h1.lt)
  · rw [List.getElem?_append_right (by omega)] at hj
    cases hz : j - h.length with
    | zero =>
      rw [hz] at hj
      cases hj
      rw [show j = h.length by omega]
      exact he
    | succ z => rw [hz] at hj; simp at hj
/-! what the plain heap answers -/
def gfV (ci k a : Nat) (h : PH) : Option Value := match h[a]? with
  | some (.inr (c, fs)) => if c = ci then fs[k]? else none
  | _ => none
theorem gfV_el {ci k a : Nat} {h : PH} {v : Value} (q : gfV ci k a h = some v) : ∃ fs, h[a]? = some (.inr (ci, fs)) ∧ fs[k]? = some v := by
  unfold gfV at q
  split at q
  · rename_i c fs hc
    split at q
    · rename_i hci
      subst hci
      exact ⟨fs, hc, q⟩
    · cases q
  · cases q
def gfI (ci k a : Nat) (h : PH) : Option Int32 := match gfV ci k a h with
  | some (.int v) => some v
  | _ => none
theorem gfI_el {ci k a : Nat} {h : PH} {v : Int32} (q : gfI ci k a h = some v) : gfV ci k a h = some (.int v) := by
  unfold gfI at q
  split at q
  · rename_i w hw
    cases q
    exact hw
  · cases q
def gfL (ci k a : Nat) (h : PH) : Option Int64 := match gfV ci k a h with
  | some (.long v) => some v
  | _ => none
theorem gfL_el {ci k a : Nat} {h : PH} {v : Int64} (q : gfL ci k a h = some v) : gfV ci k a h = some (.long v) := by
  unfold gfL at q
  split at q
  · rename_i w hw
    cases q
    exact hw
  · cases q
def gfR (ci k a : Nat) (h : PH) : Option Nat := match gfV ci k a h with
  | some (.ref v) => some v
  | _ => none
theorem gfR_el {ci k a : Nat} {h : PH} {v : Nat} (q : gfR ci k a h = some v) : gfV ci k a h = some (.ref v) := by
  unfold gfR at q
  split at q
  · rename_i w hw
    cases q
    exact hw
  · cases q
def pfV (ci k a : Nat) (v : Value) (h : PH) : Option PH := match h[a]? with
  | some (.inr (c, fs)) => if c = ci ∧ k < fs.length then some (h.set a (.inr (c, fs.set k v))) else none
  | _ => none
theorem pfV_el {ci k a : Nat} {v : Value} {h h1 : PH} (q : pfV ci k a v h = some h1) : ∃ fs, h[a]? = some (.inr (ci, fs)) ∧ k < fs.length ∧ h1 = h.set a (.inr (ci, fs.set k v)) := by
  unfold pfV at q
  split at q
  · rename_i c fs hc
    split at q
    · rename_i hci
      obtain ⟨rfl, hk⟩ := hci
      cases q
      exact ⟨fs, hc, hk, rfl⟩
    · cases q
  · cases q
def gnar (t : Nat) (x : Int32) : Int32 := match t with
  | 2 => vp_nar .byte x
  | 3 => vp_nar .boolean x
  | _ => x
def arI (t a : Nat) (i : Int32) (h : PH) : Option Int32 := match h[a]? with
  | some (.inl (t', n, .inl f)) => if t' = t ∧ ¬ (i < 0 ∨ n ≤ i.toNatClampNeg) then some (f i.toNatClampNeg) else none
  | _ => none
theorem arI_el {t a : Nat} {i v : Int32} {h : PH} (q : arI t a i h = some v) : ∃ (n : Nat) (f : Nat → Int32), h[a]? = some (.inl (t, n, .inl f)) ∧ vp_in i n ∧ v = f i.toNatClampNeg := by
  unfold arI at q
  split at q
  · rename_i t' n f hc
    split at q
    · rename_i hci
      obtain ⟨rfl, hk⟩ := hci
      cases q
      exact ⟨n, f, hc, hk, rfl⟩
    · cases q
  · cases q
def asI (t a : Nat) (i x : Int32) (h : PH) : Option PH := match h[a]? with
  | some (.inl (t', n, .inl f)) => if t' = t ∧ ¬ (i < 0 ∨ n ≤ i.toNatClampNeg) then some (h.set a (.inl (t', n, .inl (upd f i.toNatClampNeg (gnar t x))))) else none
  | _ => none
theorem asI_el {t a : Nat} {i x : Int32} {h h1 : PH} (q : asI t a i x h = some h1) : ∃ (n : Nat) (f : Nat → Int32), h[a]? = some (.inl (t, n, .inl f)) ∧ vp_in i n ∧ h1 = h.set a (.inl (t, n, .inl (upd f i.toNatClampNeg (gnar t x)))) := by
  unfold asI at q
  split at q
  · rename_i t' n f hc
    split at q
    · rename_i hci
      obtain ⟨rfl, hk⟩ := hci
      cases q
      exact ⟨n, f, hc, hk, rfl⟩
    · cases q
  · cases q
def arL (t a : Nat) (i : Int32) (h : PH) : Option Int64 := match h[a]? with
  | some (.inl (t', n, .inr (.inl f))) => if t' = t ∧ ¬ (i < 0 ∨ n ≤ i.toNatClampNeg) then some (f i.toNatClampNeg) else none
  | _ => none
theorem arL_el {t a : Nat} {i : Int32} {v : Int64} {h : PH} (q : arL t a i h = some v) : ∃ (n : Nat) (f : Nat → Int64), h[a]? = some (.inl (t, n, .inr (.inl f))) ∧ vp_in i n ∧ v = f i.toNatClampNeg := by
  unfold arL at q
  split at q
  · rename_i t' n f hc
    split at q
    · rename_i hci
      obtain ⟨rfl, hk⟩ := hci
      cases q
      exact ⟨n, f, hc, hk, rfl⟩
    · cases q
  · cases q
def asL (t a : Nat) (i : Int32) (x : Int64) (h : PH) : Option PH := match h[a]? with
  | some (.inl (t', n, .inr (.inl f))) => if t' = t ∧ ¬ (i < 0 ∨ n ≤ i.toNatClampNeg) then some (h.set a (.inl (t', n, .inr (.inl (vp_updL f i.toNatClampNeg x))))) else none
  | _ => none
theorem asL_el {t a : Nat} {i : Int32} {x : Int64} {h h1 : PH} (q : asL t a i x h = some h1) : ∃ (n : Nat) (f : Nat → Int64), h[a]? = some (.inl (t, n, .inr (.inl f))) ∧ vp_in i n ∧ h1 = h.set a (.inl (t, n, .inr (.inl (vp_updL f i.toNatClampNeg x)))) := by
  unfold asL at q
  split at q
  · rename_i t' n f hc
    split at q
    · rename_i hci
      obtain ⟨rfl, hk⟩ := hci
      cases q
      exact ⟨n, f, hc, hk, rfl⟩
    · cases q
  · cases q
/-- an element of an array of references: null or a place -/
def arQ (t a : Nat) (i : Int32) (h : PH) : Option (Option Nat) := match h[a]? with
  | some (.inl (t', n, .inr (.inr (.inr (.inr f))))) => if t' = t ∧ ¬ (i < 0 ∨ n ≤ i.toNatClampNeg) then some (f i.toNatClampNeg) else none
  | _ => none
theorem arQ_el {t a : Nat} {i : Int32} {v : Option Nat} {h : PH} (q : arQ t a i h = some v) : ∃ (n : Nat) (f : Nat → Option Nat), h[a]? = some (.inl (t, n, .inr (.inr (.inr (.inr f))))) ∧ vp_in i n ∧ v = f i.toNatClampNeg := by
  unfold arQ at q
  split at q
  · rename_i t' n f hc
    split at q
    · rename_i hci
      obtain ⟨rfl, hk⟩ := hci
      cases q
      exact ⟨n, f, hc, hk, rfl⟩
    · cases q
  · cases q
def gIs (ci a : Nat) (h : PH) : Bool := match h[a]? with
  | some (.inr (c, _)) => c == ci
  | _ => false
theorem gIs_el {ci a : Nat} {h : PH} (q : gIs ci a h = true) : ∃ fs, h[a]? = some (.inr (ci, fs)) := by
  unfold gIs at q
  split at q
  · rename_i c fs hc
    have := beq_iff_eq.mp q
    subst this
    exact ⟨fs, hc⟩
  · cases q
def asQ (t a ci : Nat) (i : Int32) (x : Nat) (h : PH) : Option PH := match h[a]? with
  | some (.inl (t', n, .inr (.inr (.inr (.inr f))))) => if (t' = t ∧ ¬ (i < 0 ∨ n ≤ i.toNatClampNeg)) ∧ gIs ci x h = true then some (h.set a (.inl (t', n, .inr (.inr (.inr (.inr (va_up f i.toNatClampNeg (some x)))))))) else none
  | _ => none
theorem asQ_el {t a ci x : Nat} {i : Int32} {h h1 : PH} (q : asQ t a ci i x h = some h1) : ∃ (n : Nat) (f : Nat → Option Nat), h[a]? = some (.inl (t, n, .inr (.inr (.inr (.inr f))))) ∧ vp_in i n ∧ gIs ci x h = true ∧ h1 = h.set a (.inl (t, n, .inr (.inr (.inr (.inr (va_up f i.toNatClampNeg (some x))))))) := by
  unfold asQ at q
  split at q
  · rename_i t' n f hc
    split at q
    · rename_i hci
      obtain ⟨⟨rfl, hk⟩, hi⟩ := hci
      cases q
      exact ⟨n, f, hc, hk, hi, rfl⟩
    · cases q
  · cases q
def alen (t a : Nat) (h : PH) : Option Int32 := match h[a]? with
  | some (.inl (t', n, _)) => if t' = t then some (Int32.ofNat n) else none
  | _ => none
theorem alen_el {t a : Nat} {v : Int32} {h : PH} (q : alen t a h = some v) : ∃ x : vp_A, h[a]? = some (.inl (t, x)) ∧ v = Int32.ofNat x.1 := by
  unfold alen at q
  split at q
  · rename_i t' n x hc
    split at q
    · rename_i hci
      subst hci
      cases q
      exact ⟨_, hc, rfl⟩
    · cases q
  · cases q
/-! how a plain method is put together -/
def gb {α β : Type} (o : Option α) (f : α → Option β) : Option β := match o with
  | some a => f a
  | none => none
theorem gb_el {α β : Type} {o : Option α} {f : α → Option β} {r : β} (q : gb o f = some r) : ∃ a, o = some a ∧ f a = some r := by
  cases o with
  | none => cases q
  | some a => exact ⟨a, rfl, q⟩
def gc {α β : Type} (o : Option (α × PH)) (f : α → PH → Option β) : Option β := match o with
  | some a => f a.1 a.2
  | none => none
theorem gc_el {α β : Type} {o : Option (α × PH)} {f : α → PH → Option β} {r : β} (q : gc o f = some r) : ∃ a h, o = some (a, h) ∧ f a h = some r := by
  cases o with
  | none => cases q
  | some a => exact ⟨a.1, a.2, rfl, q⟩
def gl {α β : Type} (e : α) (f : α → β) : β := f e
theorem gl_el {α β : Type} {e x : α} {f : α → β} {r : β} (q : gl e f = r) (hx : x = e) : f x = r := by rw [hx]; exact q
def gg {β : Type} (b : Bool) (o : Option β) : Option β := if b = true then o else none
theorem gg_el {β : Type} {b : Bool} {o : Option β} {r : β} (q : gg b o = some r) : b = true ∧ o = some r := by
  unfold gg at q
  split at q
  · exact ⟨‹_›, q⟩
  · cases q
/-- a loop: its body, with the loop itself for what comes behind -/
def gi {σ ρ : Type} (B : (σ → Option ρ) → σ → Option ρ) : Nat → σ → Option ρ
  | 0 => fun _ => none
  | n + 1 => B (gi B n)
