theorem n1X0 : (∀ j, j < 3 → defaultValue (tyX0 j) = vp_V n0X0 j) ∧ ∀ B, n0X0.map (gcv B) = n0X0 := ⟨fun j hj => by
  match j, hj with
  | 0, _ => rfl
  | 1, _ => rfl
  | 2, _ => rfl
  | k + 3, hk => exact absurd hk (by omega), fun _ => rfl⟩
theorem n1X1 : (∀ j, j < 10 → defaultValue (tyX1 j) = vp_V n0X1 j) ∧ ∀ B, n0X1.map (gcv B) = n0X1 := ⟨fun j hj => by
  match j, hj with
  | 0, _ => rfl
  | 1, _ => rfl
  | 2, _ => rfl
  | 3, _ => rfl
  | 4, _ => rfl
  | 5, _ => rfl
  | 6, _ => rfl
  | 7, _ => rfl
  | 8, _ => rfl
  | 9, _ => rfl
  | k + 10, hk => exact absurd hk (by omega), fun _ => rfl⟩
theorem n1X2 : (∀ j, j < 12 → defaultValue (tyX2 j) = vp_V n0X2 j) ∧ ∀ B, n0X2.map (gcv B) = n0X2 := ⟨fun j hj => by
  match j, hj with
  | 0, _ => rfl
  | 1, _ => rfl
  | 2, _ => rfl
  | 3, _ => rfl
  | 4, _ => rfl
  | 5, _ => rfl
  | 6, _ => rfl
  | 7, _ => rfl
  | 8, _ => rfl
  | 9, _ => rfl
  | 10, _ => rfl
  | 11, _ => rfl
  | k + 12, hk => exact absurd hk (by omega), fun _ => rfl⟩
theorem n1X3 : (∀ j, j < 3 → defaultValue (tyX3 j) = vp_V n0X3 j) ∧ ∀ B, n0X3.map (gcv B) = n0X3 := ⟨fun j hj => by
  match j, hj with
  | 0, _ => rfl
  | 1, _ => rfl
  | 2, _ => rfl
  | k + 3, hk => exact absurd hk (by omega), fun _ => rfl⟩
theorem n1X4 : (∀ j, j < 4 → defaultValue (tyX4 j) = vp_V n0X4 j) ∧ ∀ B, n0X4.map (gcv B) = n0X4 := ⟨fun j hj => by
  match j, hj with
  | 0, _ => rfl
  | 1, _ => rfl
  | 2, _ => rfl
  | 3, _ => rfl
  | k + 4, hk => exact absurd hk (by omega), fun _ => rfl⟩
theorem n1X5 : (∀ j, j < 5 → defaultValue (tyX5 j) = vp_V n0X5 j) ∧ ∀ B, n0X5.map (gcv B) = n0X5 := ⟨fun j hj => by
  match j, hj with
  | 0, _ => rfl
  | 1, _ => rfl
  | 2, _ => rfl
  | 3, _ => rfl
  | 4, _ => rfl
  | k + 5, hk => exact absurd hk (by omega), fun _ => rfl⟩
theorem n1X6 : (∀ j, j < 2 → defaultValue (tyX6 j) = vp_V n0X6 j) ∧ ∀ B, n0X6.map (gcv B) = n0X6 := ⟨fun j hj => by
  match j, hj with
  | 0, _ => rfl
  | 1, _ => rfl
  | k + 2, hk => exact absurd hk (by omega), fun _ => rfl⟩
theorem n1X7 : (∀ j, j < 3 → defaultValue (tyX7 j) = vp_V n0X7 j) ∧ ∀ B, n0X7.map (gcv B) = n0X7 := ⟨fun j hj => by
  match j, hj with
  | 0, _ => rfl
  | 1, _ => rfl
  | 2, _ => rfl
  | k + 3, hk => exact absurd hk (by omega), fun _ => rfl⟩
theorem n1X8 : (∀ j, j < 6 → defaultValue (tyX8 j) = vp_V n0X8 j) ∧ ∀ B, n0X8.map (gcv B) = n0X8 := ⟨fun j hj => by
  match j, hj with
  | 0, _ => rfl
  | 1, _ => rfl
  | 2, _ => rfl
  | 3, _ => rfl
  | 4, _ => rfl
  | 5, _ => rfl
  | k + 6, hk => exact absurd hk (by omega), fun _ => rfl⟩
theorem n1X9 : (∀ j, j < 11 → defaultValue (tyX9 j) = vp_V n0X9 j) ∧ ∀ B, n0X9.map (gcv B) = n0X9 := ⟨fun j hj => by
  match j, hj with
  | 0, _ => rfl
  | 1, _ => rfl
  | 2, _ => rfl
  | 3, _ => rfl
  | 4, _ => rfl
  | 5, _ => rfl
  | 6, _ => rfl
  | 7, _ => rfl
  | 8, _ => rfl
  | 9, _ => rfl
  | 10, _ => rfl
  | k + 11, hk => exact absurd hk (by omega), fun _ => rfl⟩
theorem n1X10 : (∀ j, j < 7 → defaultValue (tyX10 j) = vp_V n0X10 j) ∧ ∀ B, n0X10.map (gcv B) = n0X10 := ⟨fun j hj => by
  match j, hj with
  | 0, _ => rfl
  | 1, _ => rfl
  | 2, _ => rfl
  | 3, _ => rfl
  | 4, _ => rfl
  | 5, _ => rfl
  | 6, _ => rfl
  | k + 7, hk => exact absurd hk (by omega), fun _ => rfl⟩
theorem n1X11 : (∀ j, j < 12 → defaultValue (tyX11 j) = vp_V n0X11 j) ∧ ∀ B, n0X11.map (gcv B) = n0X11 := ⟨fun j hj => by
  match j, hj with
  | 0, _ => rfl
  | 1, _ => rfl
  | 2, _ => rfl
  | 3, _ => rfl
  | 4, _ => rfl
  | 5, _ => rfl
  | 6, _ => rfl
  | 7, _ => rfl
  | 8, _ => rfl
  | 9, _ => rfl
  | 10, _ => rfl
  | 11, _ => rfl
  | k + 12, hk => exact absurd hk (by omega), fun _ => rfl⟩
theorem n1X12 : (∀ j, j < 48 → defaultValue (tyX12 j) = vp_V n0X12 j) ∧ ∀ B, n0X12.map (gcv B) = n0X12 := ⟨fun j hj => by
  match j, hj with
  | 0, _ => rfl
  | 1, _ => rfl
  | 2, _ => rfl
  | 3, _ => rfl
  | 4, _ => rfl
  | 5, _ => rfl
  | 6, _ => rfl
  | 7, _ => rfl
  | 8, _ => rfl
  | 9, _ => rfl
  | 10, _ => rfl
  | 11, _ => rfl
  | 12, _ => rfl
  | 13, _ => rfl
  | 14, _ => rfl
  | 15, _ => rfl
  | 16, _ => rfl
  | 17, _ => rfl
  | 18, _ => rfl
  | 19, _ => rfl
  | 20, _ => rfl
  | 21, _ => rfl
  | 22, _ => rfl
  | 23, _ => rfl
  | 24, _ => rfl
  | 25, _ => rfl
  | 26, _ => rfl
  | 27, _ => rfl
  | 28, _ => rfl
  | 29, _ => rfl
  | 30, _ => rfl
  | 31, _ => rfl
  | 32, _ => rfl
  | 33, _ => rfl
  | 34, _ => rfl
  | 35, _ => rfl
  | 36, _ => rfl
  | 37, _ => rfl
  | 38, _ => rfl
  | 39, _ => rfl
  | 40, _ => rfl
  | 41, _ => rfl
  | 42, _ => rfl
  | 43, _ => rfl
  | 44, _ => rfl
  | 45, _ => rfl
  | 46, _ => rfl
  | 47, _ => rfl
  | k + 48, hk => exact absurd hk (by omega), fun _ => rfl⟩
section GA
variable {p : Program} {l : Launch} {e : Env} {R : Room} {s : State} {m : MethodId} {args : Array Value} {below : List Frame} {meth : Method} {c : Code} {H : Heap} {locs : List Loc} {cells slots : Nat} {Q : State → Prop}
variable {cc : ByteArray} {pc nL : Nat} {ls : Array Slot} {rest stk : List Value} {E : gE} {h h1 : PH} {own : String} {a : Nat}
theorem gx_new (X : gX E p s m args c cc nL own) (hw : gw E s h H locs) {ci N index : Nat} {C : String} {T : u_T} {ty : Nat → FieldType} {fs : List Value} (hr : nwO ci fs h = some (a, h1)) (hc : gCl ci C T N ty) (hfs : (∀ j, j < N → defaultValue (ty j) = vp_V fs j) ∧ ∀ B, fs.map (gcv B) = fs) (hcl : Cond.classLink own index C ∈ gT) (hinst : Cond.instantiable C N ∈ gT) (hini : Cond.initialized C ∈ gT) (hcells : cells + 1 ≤ R.cells) (hslots : slots + N ≤ R.slots) (hdg : decode cc pc = .ok (.new index, 3))
    (kk : ∀ (H1 : Heap), gw E s h1 H1 locs → W p l e R s m args below meth c H1 locs (cells + 1) (slots + N) Q (F0 m (pc + 3) ls (.ref (gB E + a) :: rest))) : W p l e R s m args below meth c H locs cells slots Q (F0 m pc ls rest) := by
  obtain ⟨hx, hb, hml, hown, hts⟩ := X.1
  have hKn := X.2.1.1 ci _ hc.1
  cases hr
  refine W.newcK hx hb hown (hts _ hcl) (hts _ hinst) (hts _ hini) rfl hdg hcells hslots hKn.2.1 hw.1.1 fun H1 kC hkC e1 z1 o1 => ?_
  refine kk H1 (gw_push hw (by rw [z1, hw.1.1]) (fun q hq => o1 q (by rw [← hw.1.1]; exact hq)) ⟨_, hc.1, ?_⟩)
  rw [hfs.2]
  exact (u_born ty hts hc.2.1 hKn hkC e1 hc.2.2.1).to hfs.1
theorem gx_newa0 (X : gX E p s m args c cc nL own) (hw : gw E s h H locs) {n : Nat} {x : Int32} (hr : nwA 0 n h = some (a, h1)) (harr : Cond.arrayClass .int ∈ gT) (hn : ¬ x < 0) (hN : x.toNatClampNeg = n) (hbytes : n * componentBytes .int ≤ 536870912) (hcells : cells + 1 ≤ R.cells) (hslots : slots + n ≤ R.slots) (hdg : decode cc pc = .ok (.newarray .int, 2))
    (kk : ∀ (H1 : Heap), gw E s h1 H1 locs → W p l e R s m args below meth c H1 locs (cells + 1) (slots + n) Q (F0 m (pc + 2) ls (.ref (gB E + a) :: rest))) : W p l e R s m args below meth c H locs cells slots Q (F0 m pc ls (.int x :: rest)) := by
  obtain ⟨hx, hb, hml, hown, hts⟩ := X.1
  cases hr
  refine va_newaK (atype := .int) hx hb (hts _ harr) rfl hdg rfl hn hN hbytes hcells hslots hw.1.1 fun H1 cA e1 z1 o1 _ hNm => ?_
  have hcA : cA = E.2.1 0 := Option.some.inj (hNm.symm.trans (X.2.1.2 0 _ rfl).2)
  subst hcA
  exact kk H1 (gw_push hw (by rw [z1, hw.1.1]) (fun q hq => o1 q (by rw [← hw.1.1]; exact hq)) e1)
theorem gx_newa1 (X : gX E p s m args c cc nL own) (hw : gw E s h H locs) {n : Nat} {x : Int32} (hr : nwA 1 n h = some (a, h1)) (harr : Cond.arrayClass .long ∈ gT) (hn : ¬ x < 0) (hN : x.toNatClampNeg = n) (hbytes : n * componentBytes .long ≤ 536870912) (hcells : cells + 1 ≤ R.cells) (hslots : slots + n ≤ R.slots) (hdg : decode cc pc = .ok (.newarray .long, 2))
    (kk : ∀ (H1 : Heap), gw E s h1 H1 locs → W p l e R s m args below meth c H1 locs (cells + 1) (slots + n) Q (F0 m (pc + 2) ls (.ref (gB E + a) :: rest))) : W p l e R s m args below meth c H locs cells slots Q (F0 m pc ls (.int x :: rest)) := by
  obtain ⟨hx, hb, hml, hown, hts⟩ := X.1
  cases hr
  refine va_newaK (atype := .long) hx hb (hts _ harr) rfl hdg rfl hn hN hbytes hcells hslots hw.1.1 fun H1 cA e1 z1 o1 _ hNm => ?_
  have hcA : cA = E.2.1 1 := Option.some.inj (hNm.symm.trans (X.2.1.2 1 _ rfl).2)
  subst hcA
  exact kk H1 (gw_push hw (by rw [z1, hw.1.1]) (fun q hq => o1 q (by rw [← hw.1.1]; exact hq)) e1)
theorem gx_newa2 (X : gX E p s m args c cc nL own) (hw : gw E s h H locs) {n : Nat} {x : Int32} (hr : nwA 2 n h = some (a, h1)) (harr : Cond.arrayClass .byte ∈ gT) (hn : ¬ x < 0) (hN : x.toNatClampNeg = n) (hbytes : n * componentBytes .byte ≤ 536870912) (hcells : cells + 1 ≤ R.cells) (hslots : slots + n ≤ R.slots) (hdg : decode cc pc = .ok (.newarray .byte, 2))
    (kk : ∀ (H1 : Heap), gw E s h1 H1 locs → W p l e R s m args below meth c H1 locs (cells + 1) (slots + n) Q (F0 m (pc + 2) ls (.ref (gB E + a) :: rest))) : W p l e R s m args below meth c H locs cells slots Q (F0 m pc ls (.int x :: rest)) := by
  obtain ⟨hx, hb, hml, hown, hts⟩ := X.1
  cases hr
  refine va_newaK (atype := .byte) hx hb (hts _ harr) rfl hdg rfl hn hN hbytes hcells hslots hw.1.1 fun H1 cA e1 z1 o1 _ hNm => ?_
  have hcA : cA = E.2.1 2 := Option.some.inj (hNm.symm.trans (X.2.1.2 2 _ rfl).2)
  subst hcA
  exact kk H1 (gw_push hw (by rw [z1, hw.1.1]) (fun q hq => o1 q (by rw [← hw.1.1]; exact hq)) e1)
theorem gx_newa3 (X : gX E p s m args c cc nL own) (hw : gw E s h H locs) {n : Nat} {x : Int32} (hr : nwA 3 n h = some (a, h1)) (harr : Cond.arrayClass .boolean ∈ gT) (hn : ¬ x < 0) (hN : x.toNatClampNeg = n) (hbytes : n * componentBytes .boolean ≤ 536870912) (hcells : cells + 1 ≤ R.cells) (hslots : slots + n ≤ R.slots) (hdg : decode cc pc = .ok (.newarray .boolean, 2))
    (kk : ∀ (H1 : Heap), gw E s h1 H1 locs → W p l e R s m args below meth c H1 locs (cells + 1) (slots + n) Q (F0 m (pc + 2) ls (.ref (gB E + a) :: rest))) : W p l e R s m args below meth c H locs cells slots Q (F0 m pc ls (.int x :: rest)) := by
  obtain ⟨hx, hb, hml, hown, hts⟩ := X.1
  cases hr
  refine va_newaK (atype := .boolean) hx hb (hts _ harr) rfl hdg rfl hn hN hbytes hcells hslots hw.1.1 fun H1 cA e1 z1 o1 _ hNm => ?_
  have hcA : cA = E.2.1 3 := Option.some.inj (hNm.symm.trans (X.2.1.2 3 _ rfl).2)
  subst hcA
  exact kk H1 (gw_push hw (by rw [z1, hw.1.1]) (fun q hq => o1 q (by rw [← hw.1.1]; exact hq)) e1)
theorem gx_anew (X : gX E p s m args c cc nL own) (hw : gw E s h H locs) {t n index : Nat} {C : String} {x : Int32} (hr : nwA t n h = some (a, h1)) (ht : (gtys E)[t]? = some (E.2.1 t, .object C)) (ht2 : t = 4 ∨ t = 5) (hov : va_AO C s) (hcl : Cond.classLink own index C ∈ gT) (hn : ¬ x < 0) (hN : x.toNatClampNeg = n) (hbytes : n * 4 ≤ 536870912) (hcells : cells + 1 ≤ R.cells) (hslots : slots + n ≤ R.slots) (hdg : decode cc pc = .ok (.anewarray index, 3))
    (kk : ∀ (H1 : Heap), gw E s h1 H1 locs → W p l e R s m args below meth c H1 locs (cells + 1) (slots + n) Q (F0 m (pc + 3) ls (.ref (gB E + a) :: rest))) : W p l e R s m args below meth c H locs cells slots Q (F0 m pc ls (.int x :: rest)) := by
  obtain ⟨hx, hb, hml, hown, hts⟩ := X.1
  subst hN
  refine W.anew hx hb hown (hts _ hcl) (va_AO.use hov) rfl hdg rfl hn hbytes hcells hslots fun cA kA comp f1 f2 f3 f4 => ?_
  obtain ⟨kB, comp2, -, -, -, hcl2⟩ := (X.2.1.2 t _ ht).2
  have hcA : cA = E.2.1 t := Option.some.inj (f1.symm.trans hcl2)
  subst hcA
  rw [hw.1.1]
  cases hr
  refine kk _ (gw_push hw (by rw [Array.size_push]) (fun q hq => by rw [Array.getElem?_push, if_neg (Nat.ne_of_lt hq)]) ?_)
  have e1 : (H.push ({ cls := E.2.1 t, slots := Array.replicate x.toNatClampNeg .null, vm := .none } : Cell))[gB E + h.length]? = some (arrV (E.2.1 t) x.toNatClampNeg (fun _ => .null)) := by rw [← hw.1.1, Array.getElem?_push_size, ← arrV_new]
  rcases ht2 with rfl | rfl <;> exact e1
theorem gx_aast (X : gX E p s m args c cc nL own) (hw : gw E s h H locs) {t ci v N : Nat} {C : String} {T : u_T} {ty : Nat → FieldType} {i : Int32} (hr : asQ t a ci i v h = some h1) (hc : gCl ci C T N ty) (ht : (gtys E)[t]? = some (E.2.1 t, .object C)) (hdg : decode cc pc = .ok (.aastore, 1)) (kk : ∀ (H1 : Heap) (locs1 : List Loc), gw E s h1 H1 locs1 → W p l e R s m args below meth c H1 locs1 cells slots Q (F0 m (pc + 1) ls rest)) : W p l e R s m args below meth c H locs cells slots Q (F0 m pc ls (.ref (gB E + v) :: .int i :: .ref (gB E + a) :: rest)) := by
  obtain ⟨n, f, ha, ok, hi, rfl⟩ := asQ_el hr
  obtain ⟨_, hv⟩ := gIs_el hi
  obtain ⟨x, x0, x1, x2, -⟩ := gx_cell hw hv hc
  have cl := (X.2.1.1 ci _ hc.1).2
  obtain ⟨K, hK, -⟩ := cl.2
  obtain ⟨_, comp, a1, a2, a3, -⟩ := (X.2.1.2 t _ ht).2
  rw [cl.1] at a3
  cases a3
  have up : (fun j => (va_up f i.toNatClampNeg (some v) j).map fun k => gB E + k) = va_up (fun j => (f j).map fun k => gB E + k) i.toNatClampNeg (some (gB E + v)) := funext fun j => by
    unfold va_up
    split <;> rfl
  have sl : ∀ (C : ClassId) (f : Nat → Option Nat) (k q : Nat), (vp_cell C (n, .inr (.inr (.inr (.inr f))))).setSlot k (.ref q) = vp_cell C (n, .inr (.inr (.inr (.inr (va_up f k (some q)))))) := fun C f k q => by
    have y : updV (fun j => va_rf (f j)) k (.ref q) = fun j => va_rf (va_up f k (some q) j) := funext fun j => by unfold updV va_up; split <;> rfl
    exact (arrV_store C n k _ _).trans (congrArg (arrV C n) y)
  refine W.aast X.1.1 X.1.2.1 (cell := vp_cell (E.2.1 t) (n, .inr (.inr (.inr (.inr fun j => (f j).map fun k => gB E + k))))) (hw.1.2 a _ (ghW_at ha)) (fun _ h => nomatch h) (fun h => nomatch h) a1 a2 rfl hK ⟨fun q => ok (.inl q), Nat.not_le.mp fun q => gx_in ok (.inr q)⟩ x0
    (fun _ q => by rw [x2] at q; cases q) (by rw [x1]; exact hK) (by rw [x1]; exact va_assign cl) rfl rfl hdg fun H1 w z oq => kk H1 _ (gw_set hw ha z oq ?_)
  rw [sl, ← up] at w
  exact w
end GA
