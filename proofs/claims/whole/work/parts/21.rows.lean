/-! Rows of the plain heap: one an instruction. -/
/-- a class's facts: its place in vwCl, its words, its types, its names -/
def gCl (ci : Nat) (C : String) (T : u_T) (N : Nat) (ty : Nat → FieldType) : Prop := vwCl[ci]? = some (C, T, N) ∧ (∀ w ∈ u_ws C T N, w ∈ gT) ∧ (∀ k, k < N → parseFieldDescriptor (T k).2.2.1 = some (ty k)) ∧ (∀ a, a < N → ∀ b, b < N → a ≠ b → (T a).2.1 ≠ (T b).2.1)
def gWS (y : MethodName) (bytes : ByteArray) (maxL : Nat) (ret : Option FieldType) : List Cond := Cond.code y bytes maxL ret :: gT
theorem gT_good : ∀ w ∈ gT, goodWord w = true := fun _ h => (List.mem_filter.mp h).2
theorem gWS_in {y : MethodName} {bytes : ByteArray} {maxL : Nat} {ret : Option FieldType} (h : Cond.code y bytes maxL ret ∈ gT) : GoodIn gT (gWS y bytes maxL ret) := by
  intro w hw
  have hm : w ∈ gT := by
    rcases List.mem_cons.mp hw with e | e
    · rw [e]; exact h
    · exact e
  exact ⟨hm, good_of_word (gT_good w hm)⟩
def gPc (E : gE) (av : List Value) (h : PH) : Array Value → State → Prop := va_Pc av (fun U => gH E h U.heap ∧ gK E U)
def gQi (E : gE) (r : Int32) (h : PH) : Array Value → State → Outcome → State → Prop := va_Qi (fun (r' : Int32) (_ : Unit) => r' = r) (fun _ t => gH E h t.heap) (gA E)
def gQl (E : gE) (r : Int64) (h : PH) : Array Value → State → Outcome → State → Prop := va_Ql (fun (r' : Int64) (_ : Unit) => r' = r) (fun _ t => gH E h t.heap) (gA E)
def gQv (E : gE) (h : PH) : Array Value → State → Outcome → State → Prop := va_Qv (fun (_ : Unit) => True) (fun _ t => gH E h t.heap) (gA E)
def gQr (E : gE) (r : Nat) (h : PH) : Array Value → State → Outcome → State → Prop := va_Qr (fun (_ : Unit) => True) (fun _ a t => a = gB E + r ∧ gH E h t.heap) (gA E)
theorem gPc_blind {E : gE} {av : List Value} {h : PH} : FrameBlind (gPc E av h) := fun a _ g mk q => ⟨q.1, q.2.1, gK_calling g mk a q.2.2⟩
/-- a method's facts -/
def gMv (y : MethodName) (bytes : ByteArray) (maxL : Nat) (ret : Option FieldType) (C : String) (n : Nat) : Prop := Cond.instanceMethod y ∈ gT ∧ Cond.selects C y y ∈ gT ∧ Cond.initialized C ∈ gT ∧ Cond.code y bytes maxL ret ∈ gT ∧ y.cls = C ∧ y.cls ≠ "java/lang/invoke/MethodHandle" ∧ y.cls ≠ "java/lang/invoke/VarHandle" ∧ (parseMethodDescriptor y.desc).map (fun d => d.parameters.length) = some n
def gMs (y : MethodName) (bytes : ByteArray) (maxL : Nat) (ret : Option FieldType) (n : Nat) : Prop := Cond.static y ∈ gT ∧ Cond.initialized y.cls ∈ gT ∧ Cond.code y bytes maxL ret ∈ gT ∧ y.cls ≠ "java/lang/invoke/MethodHandle" ∧ y.cls ≠ "java/lang/invoke/VarHandle" ∧ (parseMethodDescriptor y.desc).map (fun d => d.parameters.length) = some n
def gMi (y : MethodName) (bytes : ByteArray) (maxL : Nat) (n : Nat) : Prop := Cond.instanceMethod y ∈ gT ∧ Cond.initialized y.cls ∈ gT ∧ Cond.code y bytes maxL none ∈ gT ∧ y.name = "<init>" ∧ y.cls ≠ "java/lang/invoke/MethodHandle" ∧ y.cls ≠ "java/lang/invoke/VarHandle" ∧ (parseMethodDescriptor y.desc).map (fun d => d.parameters.length) = some n
section GX
variable {p : Program} {l : Launch} {e : Env} {R : Room} {s : State} {m : MethodId} {args : Array Value} {below : List Frame} {meth : Method} {c : Code} {H : Heap} {locs : List Loc} {cells slots : Nat} {Q : State → Prop}
variable {cc : ByteArray} {pc nL : Nat} {ls : Array Slot} {rest : List Value} {E : gE} {h h1 : PH} {own : String} {a : Nat}
theorem gx_sz {g : JFrame} (k : H.size ≤ s.heap.size + cells → W p l e R s m args below meth c H locs cells slots Q g) : W p l e R s m args below meth c H locs cells slots Q g := by
  intro T hT X
  have h1 := X.same.2.2.1
  exact k (by rw [← hT]; exact h1) T hT X
theorem gx_getV (X : gX E p s m args c cc nL own) (hw : gw E s h H locs) {ci k index N : Nat} {C : String} {T : u_T} {ty : Nat → FieldType} {v : Value} (hr : gfV ci k a h = some v) (hc : gCl ci C T N ty) (hk : k < N) (hl : Cond.fieldLink own index (T k).1 (T k).2.1 (T k).2.2.1 ∈ gT) (hdg : decode cc pc = .ok (.getfield index, 3))
    (kk : W p l e R s m args below meth c H locs cells slots Q (F0 m (pc + 3) ls (gcv (gB E) v :: rest))) : W p l e R s m args below meth c H locs cells slots Q (F0 m pc ls (.ref (gB E + a) :: rest)) := by
  obtain ⟨fs, h1, h2⟩ := gfV_el hr
  obtain ⟨hx, hb, hml, hown, hts⟩ := X.1
  exact va_get hx hb hts hc.2.1 hown X.2.1 hw.1.2 a (ghW_at h1) hc.1 k hk (hts _ hl) (fun _ h => h) (v := gcv (gB E) v) (by rw [List.getElem?_map, h2]; rfl) hdg kk
theorem gx_getI (X : gX E p s m args c cc nL own) (hw : gw E s h H locs) {ci k index N : Nat} {C : String} {T : u_T} {ty : Nat → FieldType} {v : Int32} (hr : gfI ci k a h = some v) (hc : gCl ci C T N ty) (hk : k < N) (hl : Cond.fieldLink own index (T k).1 (T k).2.1 (T k).2.2.1 ∈ gT) (hdg : decode cc pc = .ok (.getfield index, 3))
    (kk : W p l e R s m args below meth c H locs cells slots Q (F0 m (pc + 3) ls (.int v :: rest))) : W p l e R s m args below meth c H locs cells slots Q (F0 m pc ls (.ref (gB E + a) :: rest)) := gx_getV X hw (gfI_el hr) hc hk hl hdg kk
theorem gx_getL (X : gX E p s m args c cc nL own) (hw : gw E s h H locs) {ci k index N : Nat} {C : String} {T : u_T} {ty : Nat → FieldType} {v : Int64} (hr : gfL ci k a h = some v) (hc : gCl ci C T N ty) (hk : k < N) (hl : Cond.fieldLink own index (T k).1 (T k).2.1 (T k).2.2.1 ∈ gT) (hdg : decode cc pc = .ok (.getfield index, 3))
    (kk : W p l e R s m args below meth c H locs cells slots Q (F0 m (pc + 3) ls (.long v :: rest))) : W p l e R s m args below meth c H locs cells slots Q (F0 m pc ls (.ref (gB E + a) :: rest)) := gx_getV X hw (gfL_el hr) hc hk hl hdg kk
theorem gx_getR (X : gX E p s m args c cc nL own) (hw : gw E s h H locs) {ci k index N : Nat} {C : String} {T : u_T} {ty : Nat → FieldType} {v : Nat} (hr : gfR ci k a h = some v) (hc : gCl ci C T N ty) (hk : k < N) (hl : Cond.fieldLink own index (T k).1 (T k).2.1 (T k).2.2.1 ∈ gT) (hdg : decode cc pc = .ok (.getfield index, 3))
    (kk : W p l e R s m args below meth c H locs cells slots Q (F0 m (pc + 3) ls (.ref (gB E + v) :: rest))) : W p l e R s m args below meth c H locs cells slots Q (F0 m pc ls (.ref (gB E + a) :: rest)) := gx_getV X hw (gfR_el hr) hc hk hl hdg kk
theorem gx_cell (hw : gw E s h H locs) {ci N : Nat} {C : String} {T : u_T} {ty : Nat → FieldType} {fs : List Value} (ha : h[a]? = some (.inr (ci, fs))) (hc : gCl ci C T N ty) : t_OB (gB E + a) (E.1.1 ci) N (E.1.2 ci) H (vp_V (fs.map (gcv (gB E)))) := by
  obtain ⟨r, g1, g2⟩ := hw.1.2 a _ (ghW_at ha)
  have hr : r = (C, T, N) := Option.some.inj (g1.symm.trans hc.1)
  subst hr
  exact g2
/-- a field of an object is written: the plain heap's cell is set -/
theorem gx_wrote (X : gX E p s m args c cc nL own) (hw : gw E s h H locs) {ci k i N : Nat} {C : String} {T : u_T} {ty : Nat → FieldType} {fs : List Value} {v : Value} {x : Cell} {H1 : Heap} (ha : h[a]? = some (.inr (ci, fs))) (hc : gCl ci C T N ty) (hk : k < N) (hl : k < fs.length)
    (x1 : x.cls = E.1.1 ci) (x2 : x.vm = .none) (x3 : ∀ j, j < N → x.slots[E.1.2 ci j]? = some (vp_V (fs.map (gcv (gB E))) j)) (z : H1.size = H.size) (oq : ∀ q : Nat, q ≠ gB E + a → H1[q]? = H[q]?) (w : H1[gB E + a]? = some (x.setSlot (E.1.2 ci k) (gcv (gB E) v))) :
    gw E s (h.set a (.inr (ci, fs.set k v))) H1 (locs ++ [⟨gB E + a, i⟩]) := by
  refine gw_set hw ha z oq ⟨_, hc.1, ?_⟩
  have far := va_apart (own := own) X.1.2.2.2.2 hc.2.1 ty hc.2.2.1 hc.2.2.2 X.2.1 hc.1
  have len : k < (fs.map (gcv (gB E))).length := by rw [List.length_map]; exact hl
  rw [List.map_set]
  exact t_OB.to ⟨_, w, x1, x2, t_set x3 far hk _⟩ fun j _ => vp_updV_set len _ j
theorem gx_putV (X : gX E p s m args c cc nL own) (hw : gw E s h H locs) {ci k index N : Nat} {C : String} {T : u_T} {ty : Nat → FieldType} {v : Value} (hr : pfV ci k a v h = some h1) (hc : gCl ci C T N ty) (hk : k < N) (hl : Cond.fieldLink own index (T k).1 (T k).2.1 (T k).2.2.1 ∈ gT) (hfin : (T k).2.2.2 = false) (hn : narrow (ty k) (gcv (gB E) v) = gcv (gB E) v) (hfit : fits (ty k) (gcv (gB E) v) = true) (hdg : decode cc pc = .ok (.putfield index, 3))
    (kk : ∀ (H1 : Heap) (locs1 : List Loc), gw E s h1 H1 locs1 → W p l e R s m args below meth c H1 locs1 cells slots Q (F0 m (pc + 3) ls rest)) : W p l e R s m args below meth c H locs cells slots Q (F0 m pc ls (gcv (gB E) v :: .ref (gB E + a) :: rest)) := by
  obtain ⟨fs, ha, len, rfl⟩ := pfV_el hr
  obtain ⟨x, x0, x1, x2, x3⟩ := gx_cell hw ha hc
  obtain ⟨at_, fc, K, hK, ord⟩ := X.2.1.1 ci _ hc.1
  obtain ⟨_, _, _, f, hi, sl⟩ := at_ k hk
  have lay : (Cond.lays C (T k).1 (T k).2.1 (T k).2.2.1).before args s = true := by
    have q := X.1.2.2.2.2 _ (hc.2.1 _ (u_in_lay hk))
    simpa only [u_lay, hfin, Bool.false_eq_true, if_false] using q
  have may := u_store fc hK ord lay hi (hc.2.2.1 k hk) hn hfit
  rw [← x1] at may
  exact W.putK X.1.1 X.1.2.1 ⟨X.1.2.2.2.1, X.1.2.2.2.2 _ hl, ⟨_, _, _, hi⟩, (u_facts fc hK (.inl lay) hi).1⟩ may x0 x2 (k2_hasslot (sl ▸ x3 k hk)) rfl rfl hdg
    fun H1 w z oq => kk H1 _ (gx_wrote X hw ha hc hk len x1 x2 x3 z oq (sl ▸ w))
theorem gx_putFV (X : gX E p s m args c cc nL own) (hw : gw E s h H locs) {ci k index N : Nat} {C : String} {T : u_T} {ty : Nat → FieldType} {v : Value} (hr : pfV ci k a v h = some h1) (hc : gCl ci C T N ty) (hk : k < N) (hl : Cond.fieldLink own index (T k).1 (T k).2.1 (T k).2.2.1 ∈ gT) (hfin : (T k).2.2.2 = true) (hin2 : meth.name = "<init>") (hdecl : (T k).1 = own) (hn : narrow (ty k) (gcv (gB E) v) = gcv (gB E) v) (hfit : fits (ty k) (gcv (gB E) v) = true) (hdg : decode cc pc = .ok (.putfield index, 3))
    (kk : ∀ (H1 : Heap) (locs1 : List Loc), gw E s h1 H1 locs1 → W p l e R s m args below meth c H1 locs1 cells slots Q (F0 m (pc + 3) ls rest)) : W p l e R s m args below meth c H locs cells slots Q (F0 m pc ls (gcv (gB E) v :: .ref (gB E + a) :: rest)) := by
  obtain ⟨fs, ha, len, rfl⟩ := pfV_el hr
  obtain ⟨x, x0, x1, x2, x3⟩ := gx_cell hw ha hc
  obtain ⟨at_, fc, K, hK, ord⟩ := X.2.1.1 ci _ hc.1
  obtain ⟨_, _, _, f, hi, sl⟩ := at_ k hk
  have lay : (Cond.laysFinal C (T k).1 (T k).2.1 (T k).2.2.1).before args s = true := by
    have q := X.1.2.2.2.2 _ (hc.2.1 _ (u_in_lay hk))
    simpa only [u_lay, hfin, if_true] using q
  obtain ⟨_, _, _, _, _, _, -, -, y1, -, -, -, y2, -⟩ := Cond.laysFinal_spec lay
  rw [hi] at y1
  cases y1
  rw [hdecl, X.1.2.2.2.1] at y2
  have may := u_fits fc hK ord (.inr lay) hi (hc.2.2.1 k hk) hn hfit
  rw [← x1] at may
  exact W.putFinK X.1.1 X.1.2.1 X.1.2.2.2.1 (X.1.2.2.2.2 _ hl) hi (u_facts fc hK (.inr lay) hi).1 (Option.some.inj y2) hin2 may x0 x2 (k2_hasslot (sl ▸ x3 k hk)) rfl rfl hdg
    fun H1 w z oq => kk H1 _ (gx_wrote X hw ha hc hk len x1 x2 x3 z oq (sl ▸ w))
theorem gx_ald {t n : Nat} {f : Nat → Int32} (hw : gw E s h H locs) (ha : h[a]? = some (.inl (t, n, .inl f))) : (ghW E h)[a]? = some (gB E + a, .inl (E.2.1 t, n, .inl f)) := ghW_at ha
theorem gx_iald (X : gX E p s m args c cc nL own) (hw : gw E s h H locs) {i v : Int32} (hr : arI 0 a i h = some v) (hdg : decode cc pc = .ok (.iaload, 1)) (kk : W p l e R s m args below meth c H locs cells slots Q (F0 m (pc + 1) ls (.int v :: rest))) : W p l e R s m args below meth c H locs cells slots Q (F0 m pc ls (.int i :: .ref (gB E + a) :: rest)) := by
  obtain ⟨n, f, ha, hin, rfl⟩ := arI_el hr
  exact va_iald X.1.1 X.1.2.1 X.2.1 hw.1.2 a 0 (gx_ald hw ha) rfl hin hdg kk
theorem gx_bald (X : gX E p s m args c cc nL own) (hw : gw E s h H locs) {i v : Int32} (hr : arI 2 a i h = some v) (hdg : decode cc pc = .ok (.baload, 1)) (kk : W p l e R s m args below meth c H locs cells slots Q (F0 m (pc + 1) ls (.int v :: rest))) : W p l e R s m args below meth c H locs cells slots Q (F0 m pc ls (.int i :: .ref (gB E + a) :: rest)) := by
  obtain ⟨n, f, ha, hin, rfl⟩ := arI_el hr
  exact va_bald X.1.1 X.1.2.1 X.2.1 hw.1.2 a 2 (gx_ald hw ha) rfl hin hdg kk
theorem gx_zald (X : gX E p s m args c cc nL own) (hw : gw E s h H locs) {i v : Int32} (hr : arI 3 a i h = some v) (hdg : decode cc pc = .ok (.baload, 1)) (kk : W p l e R s m args below meth c H locs cells slots Q (F0 m (pc + 1) ls (.int v :: rest))) : W p l e R s m args below meth c H locs cells slots Q (F0 m pc ls (.int i :: .ref (gB E + a) :: rest)) := by
  obtain ⟨n, f, ha, hin, rfl⟩ := arI_el hr
  exact va_zald X.1.1 X.1.2.1 X.2.1 hw.1.2 a 3 (gx_ald hw ha) rfl hin hdg kk
theorem gx_lald (X : gX E p s m args c cc nL own) (hw : gw E s h H locs) {i : Int32} {v : Int64} (hr : arL 1 a i h = some v) (hdg : decode cc pc = .ok (.laload, 1)) (kk : W p l e R s m args below meth c H locs cells slots Q (F0 m (pc + 1) ls (.long v :: rest))) : W p l e R s m args below meth c H locs cells slots Q (F0 m pc ls (.int i :: .ref (gB E + a) :: rest)) := by
  obtain ⟨n, f, ha, hin, rfl⟩ := arL_el hr
  exact va_lald X.1.1 X.1.2.1 X.2.1 hw.1.2 a 1 (ghW_at ha) rfl hin hdg kk
def gq (E : gE) (r : Option Nat) : Value := va_rf (r.map (fun k => gB E + k))
theorem gx_aald (X : gX E p s m args c cc nL own) (hw : gw E s h H locs) {t : Nat} {C : String} {i : Int32} {v : Option Nat} (hr : arQ t a i h = some v) (ht : (gtys E)[t]? = some (E.2.1 t, .object C)) (hdg : decode cc pc = .ok (.aaload, 1)) (kk : W p l e R s m args below meth c H locs cells slots Q (F0 m (pc + 1) ls (gq E v :: rest))) : W p l e R s m args below meth c H locs cells slots Q (F0 m pc ls (.int i :: .ref (gB E + a) :: rest)) := by
  obtain ⟨n, f, ha, hin, rfl⟩ := arQ_el hr
  exact va_aldq X.1.1 X.1.2.1 X.2.1 hw.1.2 a t (ghW_at ha) ht hin hdg kk
theorem gx_alen (X : gX E p s m args c cc nL own) (hw : gw E s h H locs) {t : Nat} {ty : FieldType} {v : Int32} (hr : alen t a h = some v) (ht : (gtys E)[t]? = some (E.2.1 t, ty)) (hdg : decode cc pc = .ok (.arraylength, 1)) (kk : W p l e R s m args below meth c H locs cells slots Q (F0 m (pc + 1) ls (.int v :: rest))) : W p l e R s m args below meth c H locs cells slots Q (F0 m pc ls (.ref (gB E + a) :: rest)) := by
  obtain ⟨x, ha, rfl⟩ := alen_el hr
  refine va_alen X.1.1 X.1.2.1 X.2.1 hw.1.2 a t (ghW_at ha) ht ?_ hdg kk
  obtain ⟨n, f | f | f | f | f⟩ := x <;> rfl
theorem gx_arr (hw : gw E s h H locs) {t n : Nat} {f : Nat → Int32} (ha : h[a]? = some (.inl (t, n, .inl f))) : H[gB E + a]? = some (vp_cell (E.2.1 t) (n, .inl f)) := hw.1.2 a _ (ghW_at ha)
/-- an element of an array is written -/
theorem gx_slI (C : ClassId) (n k : Nat) (f : Nat → Int32) (x : Int32) : (vp_cell C (n, .inl f)).setSlot k (.int x) = vp_cell C (n, .inl (upd f k x)) := by
  have q : updV (fun j => .int (f j)) k (.int x) = fun j => .int (upd f k x j) := funext fun j => by unfold updV upd; split <;> rfl
  exact (arrV_store C n k _ _).trans (congrArg (arrV C n) q)
theorem gx_slL (C : ClassId) (n k : Nat) (f : Nat → Int64) (x : Int64) : (vp_cell C (n, .inr (.inl f))).setSlot k (.long x) = vp_cell C (n, .inr (.inl (vp_updL f k x))) := by
  have q : updV (fun j => .long (f j)) k (.long x) = fun j => .long (vp_updL f k x j) := funext fun j => by unfold updV vp_updL; split <;> rfl
  exact (arrV_store C n k _ _).trans (congrArg (arrV C n) q)
theorem gx_in {C : ClassId} {n : Nat} {f : Nat → Value} {i : Int32} (h : vp_in i n) : ¬ (i < 0 ∨ (arrV C n f).slots.size ≤ i.toNatClampNeg) := by
  rw [arrV_size]
  exact h
theorem gx_iast (X : gX E p s m args c cc nL own) (hw : gw E s h H locs) {i x : Int32} (hr : asI 0 a i x h = some h1) (hdg : decode cc pc = .ok (.iastore, 1)) (kk : ∀ (H1 : Heap) (locs1 : List Loc), gw E s h1 H1 locs1 → W p l e R s m args below meth c H1 locs1 cells slots Q (F0 m (pc + 1) ls rest)) : W p l e R s m args below meth c H locs cells slots Q (F0 m pc ls (.int x :: .int i :: .ref (gB E + a) :: rest)) := by
  obtain ⟨n, f, ha, ok, rfl⟩ := asI_el hr
  exact W.iast X.1.1 X.1.2.1 (gx_arr hw ha) ((X.2.1.2 0 _ rfl).1 n _) (fun q => nomatch q) (gx_in ok) rfl rfl hdg fun H1 w z oq => kk H1 _ (gw_set hw ha z oq (w.trans (congrArg some (gx_slI _ n _ f x))))
theorem gx_bast (X : gX E p s m args c cc nL own) (hw : gw E s h H locs) {i x : Int32} (hr : asI 2 a i x h = some h1) (hdg : decode cc pc = .ok (.bastore, 1)) (kk : ∀ (H1 : Heap) (locs1 : List Loc), gw E s h1 H1 locs1 → W p l e R s m args below meth c H1 locs1 cells slots Q (F0 m (pc + 1) ls rest)) : W p l e R s m args below meth c H locs cells slots Q (F0 m pc ls (.int x :: .int i :: .ref (gB E + a) :: rest)) := by
  obtain ⟨n, f, ha, ok, rfl⟩ := asI_el hr
  exact W.bast X.1.1 X.1.2.1 (gx_arr hw ha) ((X.2.1.2 2 _ rfl).1 n _) (fun q => nomatch q) (gx_in ok) rfl rfl hdg fun H1 w z oq => kk H1 _ (gw_set hw ha z oq (w.trans (congrArg some (gx_slI _ n _ f (vp_nar .byte x)))))
theorem gx_zast (X : gX E p s m args c cc nL own) (hw : gw E s h H locs) {i x : Int32} (hr : asI 3 a i x h = some h1) (hdg : decode cc pc = .ok (.bastore, 1)) (kk : ∀ (H1 : Heap) (locs1 : List Loc), gw E s h1 H1 locs1 → W p l e R s m args below meth c H1 locs1 cells slots Q (F0 m (pc + 1) ls rest)) : W p l e R s m args below meth c H locs cells slots Q (F0 m pc ls (.int x :: .int i :: .ref (gB E + a) :: rest)) := by
  obtain ⟨n, f, ha, ok, rfl⟩ := asI_el hr
  exact W.zast X.1.1 X.1.2.1 (gx_arr hw ha) ((X.2.1.2 3 _ rfl).1 n _) (fun q => nomatch q) (gx_in ok) rfl rfl hdg fun H1 w z oq => kk H1 _ (gw_set hw ha z oq (w.trans (congrArg some (gx_slI _ n _ f (vp_nar .boolean x)))))
theorem gx_last (X : gX E p s m args c cc nL own) (hw : gw E s h H locs) {i : Int32} {x : Int64} (hr : asL 1 a i x h = some h1) (hdg : decode cc pc = .ok (.lastore, 1)) (kk : ∀ (H1 : Heap) (locs1 : List Loc), gw E s h1 H1 locs1 → W p l e R s m args below meth c H1 locs1 cells slots Q (F0 m (pc + 1) ls rest)) : W p l e R s m args below meth c H locs cells slots Q (F0 m pc ls (.long x :: .int i :: .ref (gB E + a) :: rest)) := by
  obtain ⟨n, f, ha, ok, rfl⟩ := asL_el hr
  exact W.last X.1.1 X.1.2.1 (show H[gB E + a]? = some (vp_cell (E.2.1 1) (n, .inr (.inl f))) from hw.1.2 a _ (ghW_at ha)) ((X.2.1.2 1 _ rfl).1 n _) (fun q => nomatch q) (gx_in ok) rfl rfl hdg fun H1 w z oq => kk H1 _ (gw_set hw ha z oq (w.trans (congrArg some (gx_slL _ n _ f x))))
end GX
