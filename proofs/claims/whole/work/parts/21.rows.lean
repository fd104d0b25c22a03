/-! Rows of the plain heap: one an instruction. -/
/-- a class's facts: its place in vwCl, its words, its types, its names -/
def gCl (ci : Nat) (C : String) (T : u_T) (N : Nat) (ty : Nat → FieldType) : Prop := vwCl[ci]? = some (C, T, N) ∧ (∀ w ∈ u_ws C T N, w ∈ gT) ∧ (∀ k, k < N → parseFieldDescriptor (T k).2.2.1 = some (ty k)) ∧ (∀ a, a < N → ∀ b, b < N → a ≠ b → (T a).2.1 ≠ (T b).2.1)
def gWS (y : MethodName) (bytes : ByteArray) (maxL : Nat) (ret : Option FieldType) : List Cond := Cond.code y bytes maxL ret :: gT
theorem gT_good : ∀ w ∈ gT, goodWord w = true := fun _ h => (List.mem_filter.mp h).2
theorem gWS_in {y : MethodName} {bytes : ByteArray} {maxL : Nat} {ret : Option FieldType} (h : Cond.code y bytes maxL ret ∈ gT) : GoodIn gT (gWS y bytes maxL ret) := by
  intro w hw
  have hm : w ∈ gT := by
    rcases List.mem_cons.mp hw with e | e
    · rw [e]; exact h
    · exact e
  exact ⟨hm, good_of_word (gT_good w hm)⟩
def gPc (E : gE) (av : List Value) (h : PH) : Array Value → State → Prop := va_Pc av (fun U => gH E h U.heap ∧ gK E U)
def gQi (E : gE) (r : Int32) (h : PH) : Array Value → State → Outcome → State → Prop := va_Qi (fun (r' : Int32) (_ : Unit) => r' = r) (fun _ t => gH E h t.heap) (gA E)
def gQl (E : gE) (r : Int64) (h : PH) : Array Value → State → Outcome → State → Prop := va_Ql (fun (r' : Int64) (_ : Unit) => r' = r) (fun _ t => gH E h t.heap) (gA E)
def gQv (E : gE) (h : PH) : Array Value → State → Outcome → State → Prop := va_Qv (fun (_ : Unit) => True) (fun _ t => gH E h t.heap) (gA E)
def gQr (E : gE) (r : Nat) (h : PH) : Array Value → State → Outcome → State → Prop := va_Qr (fun (_ : Unit) => True) (fun _ a t => a = gB E + r ∧ gH E h t.heap) (gA E)
theorem gPc_blind {E : gE} {av : List Value} {h : PH} : FrameBlind (gPc E av h) := fun a _ g mk q => ⟨q.1, q.2.1, gK_calling g mk a q.2.2⟩
/-- a method's facts -/
def gMv (y : MethodName) (bytes : ByteArray) (maxL : Nat) (ret : Option FieldType) (C : String) (n : Nat) : Prop := Cond.instanceMethod y ∈ gT ∧ Cond.selects C y y ∈ gT ∧ Cond.initialized C ∈ gT ∧ Cond.code y bytes maxL ret ∈ gT ∧ y.cls = C ∧ y.cls ≠ "java/lang/invoke/MethodHandle" ∧ y.cls ≠ "java/lang/invoke/VarHandle" ∧ (parseMethodDescriptor y.desc).map (fun d => d.parameters.length) = some n
def gMs (y : MethodName) (bytes : ByteArray) (maxL : Nat) (ret : Option FieldType) (n : Nat) : Prop := Cond.static y ∈ gT ∧ Cond.initialized y.cls ∈ gT ∧ Cond.code y bytes maxL ret ∈ gT ∧ y.cls ≠ "java/lang/invoke/MethodHandle" ∧ y.cls ≠ "java/lang/invoke/VarHandle" ∧ (parseMethodDescriptor y.desc).map (fun d => d.parameters.length) = some n
def gMi (y : MethodName) (bytes : ByteArray) (maxL : Nat) (n : Nat) : Prop := Cond.instanceMethod y ∈ gT ∧ Cond.initialized y.cls ∈ gT ∧ Cond.code y bytes maxL none ∈ gT ∧ y.name = "<init>" ∧ y.cls ≠ "java/lang/invoke/MethodHandle" ∧ y.cls ≠ "java/lang/invoke/VarHandle" ∧ (parseMethodDescriptor y.desc).map (fun d => d.parameters.length) = some n
section GX
variable {p : Program} {l : Launch} {e : Env} {R : Room} {s : State} {m : MethodId} {args : Array Value} {below : List Frame} {meth : Method} {c : Code} {H : Heap} {locs : List Loc} {cells slots : Nat} {Q : State → Prop}
variable {cc : ByteArray} {pc nL : Nat} {ls : Array Slot} {rest : List Value} {E : gE} {h h1 : PH} {own : String} {a : Nat}
theorem gx_sz {g : JFrame} (k : H.size ≤ s.heap.size + cells → W p l e R s m args below meth c H locs cells slots Q g) : W p l e R s m args below meth c H locs cells slots Q g := by
  intro T hT X
  have h1 := X.same.2.2.1
  exact k (by rw [← hT]; exact h1) T hT X
theorem gx_getV (X : gX E p s m args c cc nL own) (hw : gw E s h H locs) {ci k index N : Nat} {C : String} {T : u_T} {ty : Nat → FieldType} {v : Value} (hr : gfV ci k a h = some v) (hc : gCl ci C T N ty) (hk : k < N) (hl : Cond.fieldLink own index (T k).1 (T k).2.1 (T k).2.2.1 ∈ gT) (hdg : decode cc pc = .ok (.getfield index, 3))
    (kk : W p l e R s m args below meth c H locs cells slots Q (F0 m (pc + 3) ls (gcv (gB E) v :: rest))) : W p l e R s m args below meth c H locs cells slots Q (F0 m pc ls (.ref (gB E + a) :: rest)) := by
  obtain ⟨fs, h1, h2⟩ := gfV_el hr
  obtain ⟨hx, hb, hml, hown, hts⟩ := X.1
  exact va_get hx hb hts hc.2.1 hown X.2.1 hw.1.2 a (ghW_at h1) hc.1 k hk (hts _ hl) (fun _ h => h) (v := gcv (gB E) v) (by rw [List.getElem?_map, h2]; rfl) hdg kk
theorem gx_getI (X : gX E p s m args c cc nL own) (hw : gw E s h H locs) {ci k index N : Nat} {C : String} {T : u_T} {ty : Nat → FieldType} {v : Int32} (hr : gfI ci k a h = some v) (hc : gCl ci C T N ty) (hk : k < N) (hl : Cond.fieldLink own index (T k).1 (T k).2.1 (T k).2.2.1 ∈ gT) (hdg : decode cc pc = .ok (.getfield index, 3))
    (kk : W p l e R s m args below meth c H locs cells slots Q (F0 m (pc + 3) ls (.int v :: rest))) : W p l e R s m args below meth c H locs cells slots Q (F0 m pc ls (.ref (gB E + a) :: rest)) := gx_getV X hw (gfI_el hr) hc hk hl hdg kk
theorem gx_getL (X : gX E p s m args c cc nL own) (hw : gw E s h H locs) {ci k index N : Nat} {C : String} {T : u_T} {ty : Nat → FieldType} {v : Int64} (hr : gfL ci k a h = some v) (hc : gCl ci C T N ty) (hk : k < N) (hl : Cond.fieldLink own index (T k).1 (T k).2.1 (T k).2.2.1 ∈ gT) (hdg : decode cc pc = .ok (.getfield index, 3))
    (kk : W p l e R s m args below meth c H locs cells slots Q (F0 m (pc + 3) ls (.long v :: rest))) : W p l e R s m args below meth c H locs cells slots Q (F0 m pc ls (.ref (gB E + a) :: rest)) := gx_getV X hw (gfL_el hr) hc hk hl hdg kk
theorem gx_getR (X : gX E p s m args c cc nL own) (hw : gw E s h H locs) {ci k index N : Nat} {C : String} {T : u_T} {ty : Nat → FieldType} {v : Nat} (hr : gfR ci k a h = some v) (hc : gCl ci C T N ty) (hk : k < N) (hl : Cond.fieldLink own index (T k).1 (T k).2.1 (T k).2.2.1 ∈ gT) (hdg : decode cc pc = .ok (.getfield index, 3))
    (kk : W p l e R s m args below meth c H locs cells slots Q (F0 m (pc + 3) ls (.ref (gB E + v) :: rest))) : W p l e R s m args below meth c H locs cells slots Q (F0 m pc ls (.ref (gB E + a) :: rest)) := gx_getV X hw (gfR_el hr) hc hk hl hdg kk
theorem gx_cell (hw : gw E s h H locs) {ci N : Nat} {C : String} {T : u_T} {ty : Nat → FieldType} {fs : List Value} (ha : h[a]? = some (.inr (ci, fs))) (hc : gCl ci C T N ty) : t_OB (gB E + a) (E.1.1 ci) N (E.1.2 ci) H (vp_V (fs.map (gcv (gB E)))) := by
  obtain ⟨r, g1, g2⟩ := hw.1.2 a _ (ghW_at ha)
  have hr : r = (C, T, N) := Option.some.inj (g1.symm.trans hc.1)
  subst hr
  exact g2
theorem gx_putV (X : gX E p s m args c cc nL own) (hw : gw E s h H locs) {ci k index N : Nat} {C : String} {T : u_T} {ty : Nat → FieldType} {v : Value} (hr : pfV ci k a v h = some h1) (hc : gCl ci C T N ty) (hk : k < N) (hl : Cond.fieldLink own index (T k).1 (T k).2.1 (T k).2.2.1 ∈ gT) (hfin : (T k).2.2.2 = false) (hn : narrow (ty k) (gcv (gB E) v) = gcv (gB E) v) (hfit : fits (ty k) (gcv (gB E) v) = true) (hdg : decode cc pc = .ok (.putfield index, 3))
    (kk : ∀ (H1 : Heap) (locs1 : List Loc), gw E s h1 H1 locs1 → W p l e R s m args below meth c H1 locs1 cells slots Q (F0 m (pc + 3) ls rest)) : W p l e R s m args below meth c H locs cells slots Q (F0 m pc ls (gcv (gB E) v :: .ref (gB E + a) :: rest)) := by
  obtain ⟨fs, ha, hlt, rfl⟩ := pfV_el hr
  obtain ⟨hx, hb, hml, hown, hts⟩ := X.1
  obtain ⟨hc1, hin, hty, hnm⟩ := id hc
  have hap := va_apart (own := own) hts hin ty hty hnm X.2.1 hc1
  obtain ⟨cell, q1, q2, q3, q4⟩ := gx_cell hw ha hc
  obtain ⟨hS, hfc, kC, hkC, hkind⟩ := X.2.1.1 ci _ hc1
  obtain ⟨cf, kf, fi, f, hi, hsl⟩ := hS k hk
  have hlay := hts _ (hin _ (u_in_lay hk))
  unfold u_lay at hlay
  rw [if_neg (by rw [hfin]; decide)] at hlay
  have hst := (u_facts hfc hkC (u_lays hts hin hk) hi).1
  have h6 := u_store hfc hkC hkind hlay hi (hty k hk) hn hfit
  refine W.putK hx hb (f := f) ⟨hown, hts _ hl, ⟨_, _, _, hi⟩, hst⟩ (by rw [q2]; exact h6) q1 q3 (by rw [hsl]; exact k2_hasslot (q4 k hk)) rfl rfl hdg fun H' e1 e2 e3 => ?_
  rw [hsl] at e1 ⊢
  refine kk H' _ (gw_set hw ha e2 e3 ⟨_, hc1, ?_⟩)
  rw [List.map_set]
  exact t_OB.to (V := updV (vp_V (fs.map (gcv (gB E)))) k (gcv (gB E) v)) ⟨_, e1, q2, q3, t_set q4 hap hk _⟩ (fun j _ => vp_updV_set (by rw [List.length_map]; exact hlt) _ j)
theorem gx_putFV (X : gX E p s m args c cc nL own) (hw : gw E s h H locs) {ci k index N : Nat} {C : String} {T : u_T} {ty : Nat → FieldType} {v : Value} (hr : pfV ci k a v h = some h1) (hc : gCl ci C T N ty) (hk : k < N) (hl : Cond.fieldLink own index (T k).1 (T k).2.1 (T k).2.2.1 ∈ gT) (hfin : (T k).2.2.2 = true) (hin2 : meth.name = "<init>") (hdecl : (T k).1 = own) (hn : narrow (ty k) (gcv (gB E) v) = gcv (gB E) v) (hfit : fits (ty k) (gcv (gB E) v) = true) (hdg : decode cc pc = .ok (.putfield index, 3))
    (kk : ∀ (H1 : Heap) (locs1 : List Loc), gw E s h1 H1 locs1 → W p l e R s m args below meth c H1 locs1 cells slots Q (F0 m (pc + 3) ls rest)) : W p l e R s m args below meth c H locs cells slots Q (F0 m pc ls (gcv (gB E) v :: .ref (gB E + a) :: rest)) := by
  obtain ⟨fs, ha, hlt, rfl⟩ := pfV_el hr
  obtain ⟨hx, hb, hml, hown, hts⟩ := X.1
  obtain ⟨hc1, hin, hty, hnm⟩ := id hc
  have hap := va_apart (own := own) hts hin ty hty hnm X.2.1 hc1
  obtain ⟨cell, q1, q2, q3, q4⟩ := gx_cell hw ha hc
  obtain ⟨hS, hfc, kC, hkC, hkind⟩ := X.2.1.1 ci _ hc1
  obtain ⟨cf, kf, fi, f, hi, hsl⟩ := hS k hk
  have hlay := hts _ (hin _ (u_in_lay hk))
  unfold u_lay at hlay
  rw [if_pos hfin] at hlay
  have hst := (u_facts hfc hkC (u_lays hts hin hk) hi).1
  have hcf : m.cls = cf := by
    obtain ⟨_, _, c', _, _, _, -, -, hf', -, -, -, hown2, -⟩ := Cond.laysFinal_spec hlay
    have e1 : c' = cf := by have := hi.symm.trans hf'; simp at this; exact this.1.symm
    rw [hdecl] at hown2
    rw [← e1]; exact Option.some.inj (hown.symm.trans hown2)
  have h6 := u_fits hfc hkC hkind (Or.inr hlay) hi (hty k hk) hn hfit
  refine W.putFinK hx hb hown (hts _ hl) hi hst hcf hin2 (by rw [q2]; exact h6) q1 q3 (by rw [hsl]; exact k2_hasslot (q4 k hk)) rfl rfl hdg fun H' e1 e2 e3 => ?_
  rw [hsl] at e1 ⊢
  refine kk H' _ (gw_set hw ha e2 e3 ⟨_, hc1, ?_⟩)
  rw [List.map_set]
  exact t_OB.to (V := updV (vp_V (fs.map (gcv (gB E)))) k (gcv (gB E) v)) ⟨_, e1, q2, q3, t_set q4 hap hk _⟩ (fun j _ => vp_updV_set (by rw [List.length_map]; exact hlt) _ j)
theorem gx_ald {t n : Nat} {f : Nat → Int32} (hw : gw E s h H locs) (ha : h[a]? = some (.inl (t, n, .inl f))) : (ghW E h)[a]? = some (gB E + a, .inl (E.2.1 t, n, .inl f)) := ghW_at ha
theorem gx_iald (X : gX E p s m args c cc nL own) (hw : gw E s h H locs) {i v : Int32} (hr : arI 0 a i h = some v) (hdg : decode cc pc = .ok (.iaload, 1)) (kk : W p l e R s m args below meth c H locs cells slots Q (F0 m (pc + 1) ls (.int v :: rest))) : W p l e R s m args below meth c H locs cells slots Q (F0 m pc ls (.int i :: .ref (gB E + a) :: rest)) := by
  obtain ⟨n, f, ha, hin, rfl⟩ := arI_el hr
  exact va_iald X.1.1 X.1.2.1 X.2.1 hw.1.2 a 0 (gx_ald hw ha) rfl hin hdg kk
theorem gx_bald (X : gX E p s m args c cc nL own) (hw : gw E s h H locs) {i v : Int32} (hr : arI 2 a i h = some v) (hdg : decode cc pc = .ok (.baload, 1)) (kk : W p l e R s m args below meth c H locs cells slots Q (F0 m (pc + 1) ls (.int v :: rest))) : W p l e R s m args below meth c H locs cells slots Q (F0 m pc ls (.int i :: .ref (gB E + a) :: rest)) := by
  obtain ⟨n, f, ha, hin, rfl⟩ := arI_el hr
  exact va_bald X.1.1 X.1.2.1 X.2.1 hw.1.2 a 2 (gx_ald hw ha) rfl hin hdg kk
theorem gx_zald (X : gX E p s m args c cc nL own) (hw : gw E s h H locs) {i v : Int32} (hr : arI 3 a i h = some v) (hdg : decode cc pc = .ok (.baload, 1)) (kk : W p l e R s m args below meth c H locs cells slots Q (F0 m (pc + 1) ls (.int v :: rest))) : W p l e R s m args below meth c H locs cells slots Q (F0 m pc ls (.int i :: .ref (gB E + a) :: rest)) := by
  obtain ⟨n, f, ha, hin, rfl⟩ := arI_el hr
  exact va_zald X.1.1 X.1.2.1 X.2.1 hw.1.2 a 3 (gx_ald hw ha) rfl hin hdg kk
theorem gx_lald (X : gX E p s m args c cc nL own) (hw : gw E s h H locs) {i : Int32} {v : Int64} (hr : arL 1 a i h = some v) (hdg : decode cc pc = .ok (.laload, 1)) (kk : W p l e R s m args below meth c H locs cells slots Q (F0 m (pc + 1) ls (.long v :: rest))) : W p l e R s m args below meth c H locs cells slots Q (F0 m pc ls (.int i :: .ref (gB E + a) :: rest)) := by
  obtain ⟨n, f, ha, hin, rfl⟩ := arL_el hr
  exact va_lald X.1.1 X.1.2.1 X.2.1 hw.1.2 a 1 (ghW_at ha) rfl hin hdg kk
def gq (E : gE) (r : Option Nat) : Value := va_rf (r.map (fun k => gB E + k))
theorem gx_aald (X : gX E p s m args c cc nL own) (hw : gw E s h H locs) {t : Nat} {C : String} {i : Int32} {v : Option Nat} (hr : arQ t a i h = some v) (ht : (gtys E)[t]? = some (E.2.1 t, .object C)) (hdg : decode cc pc = .ok (.aaload, 1)) (kk : W p l e R s m args below meth c H locs cells slots Q (F0 m (pc + 1) ls (gq E v :: rest))) : W p l e R s m args below meth c H locs cells slots Q (F0 m pc ls (.int i :: .ref (gB E + a) :: rest)) := by
  obtain ⟨n, f, ha, hin, rfl⟩ := arQ_el hr
  exact va_aldq X.1.1 X.1.2.1 X.2.1 hw.1.2 a t (ghW_at ha) ht hin hdg kk
theorem gx_alen (X : gX E p s m args c cc nL own) (hw : gw E s h H locs) {t : Nat} {ty : FieldType} {v : Int32} (hr : alen t a h = some v) (ht : (gtys E)[t]? = some (E.2.1 t, ty)) (hdg : decode cc pc = .ok (.arraylength, 1)) (kk : W p l e R s m args below meth c H locs cells slots Q (F0 m (pc + 1) ls (.int v :: rest))) : W p l e R s m args below meth c H locs cells slots Q (F0 m pc ls (.ref (gB E + a) :: rest)) := by
  obtain ⟨x, ha, rfl⟩ := alen_el hr
  refine va_alen X.1.1 X.1.2.1 X.2.1 hw.1.2 a t (ghW_at ha) ht ?_ hdg kk
  obtain ⟨n, f | f | f | f | f⟩ := x <;> rfl
theorem gx_arr (hw : gw E s h H locs) {t n : Nat} {f : Nat → Int32} (ha : h[a]? = some (.inl (t, n, .inl f))) : H[gB E + a]? = some (vp_cell (E.2.1 t) (n, .inl f)) := hw.1.2 a _ (ghW_at ha)
theorem gx_iast (X : gX E p s m args c cc nL own) (hw : gw E s h H locs) {i x : Int32} (hr : asI 0 a i x h = some h1) (hdg : decode cc pc = .ok (.iastore, 1)) (kk : ∀ (H1 : Heap) (locs1 : List Loc), gw E s h1 H1 locs1 → W p l e R s m args below meth c H1 locs1 cells slots Q (F0 m (pc + 1) ls rest)) : W p l e R s m args below meth c H locs cells slots Q (F0 m pc ls (.int x :: .int i :: .ref (gB E + a) :: rest)) := by
  obtain ⟨n, f, ha, hin, rfl⟩ := asI_el hr
  refine W.iast X.1.1 X.1.2.1 (gx_arr hw ha) ((X.2.1.2 0 _ rfl).1 n (fun j => .int (f j))) (fun q => by cases q) (by show ¬ (i < 0 ∨ (arrV _ _ _).slots.size ≤ _); rw [arrV_size]; exact hin) rfl rfl hdg fun H1 e z oq => ?_
  refine kk H1 _ (gw_set hw ha z oq ?_)
  show H1[gB E + a]? = some (vp_cell _ _)
  rw [e]
  show some ((vp_cell _ (n, .inl f)).setSlot _ _) = some (vp_cell _ (n, .inl _))
  rw [vp_cell_i, vp_cell_i, arrV_store]
  congr 2
  funext q
  by_cases hq : q = i.toNatClampNeg
  · subst hq
    simp [updV, upd, gnar]
  · simp [updV, upd, hq]
theorem gx_bast (X : gX E p s m args c cc nL own) (hw : gw E s h H locs) {i x : Int32} (hr : asI 2 a i x h = some h1) (hdg : decode cc pc = .ok (.bastore, 1)) (kk : ∀ (H1 : Heap) (locs1 : List Loc), gw E s h1 H1 locs1 → W p l e R s m args below meth c H1 locs1 cells slots Q (F0 m (pc + 1) ls rest)) : W p l e R s m args below meth c H locs cells slots Q (F0 m pc ls (.int x :: .int i :: .ref (gB E + a) :: rest)) := by
  obtain ⟨n, f, ha, hin, rfl⟩ := asI_el hr
  refine W.bast X.1.1 X.1.2.1 (gx_arr hw ha) ((X.2.1.2 2 _ rfl).1 n (fun j => .int (f j))) (fun q => by cases q) (by show ¬ (i < 0 ∨ (arrV _ _ _).slots.size ≤ _); rw [arrV_size]; exact hin) rfl rfl hdg fun H1 e z oq => ?_
  refine kk H1 _ (gw_set hw ha z oq ?_)
  show H1[gB E + a]? = some (vp_cell _ _)
  rw [e]
  show some ((vp_cell _ (n, .inl f)).setSlot _ _) = some (vp_cell _ (n, .inl _))
  rw [vp_cell_i, vp_cell_i, arrV_store]
  congr 2
  funext q
  by_cases hq : q = i.toNatClampNeg
  · subst hq
    simp [updV, upd, gnar, vp_nar_byte, narrow]
  · simp [updV, upd, hq]
theorem gx_zast (X : gX E p s m args c cc nL own) (hw : gw E s h H locs) {i x : Int32} (hr : asI 3 a i x h = some h1) (hdg : decode cc pc = .ok (.bastore, 1)) (kk : ∀ (H1 : Heap) (locs1 : List Loc), gw E s h1 H1 locs1 → W p l e R s m args below meth c H1 locs1 cells slots Q (F0 m (pc + 1) ls rest)) : W p l e R s m args below meth c H locs cells slots Q (F0 m pc ls (.int x :: .int i :: .ref (gB E + a) :: rest)) := by
  obtain ⟨n, f, ha, hin, rfl⟩ := asI_el hr
  refine W.zast X.1.1 X.1.2.1 (gx_arr hw ha) ((X.2.1.2 3 _ rfl).1 n (fun j => .int (f j))) (fun q => by cases q) (by show ¬ (i < 0 ∨ (arrV _ _ _).slots.size ≤ _); rw [arrV_size]; exact hin) rfl rfl hdg fun H1 e z oq => ?_
  refine kk H1 _ (gw_set hw ha z oq ?_)
  show H1[gB E + a]? = some (vp_cell _ _)
  rw [e]
  show some ((vp_cell _ (n, .inl f)).setSlot _ _) = some (vp_cell _ (n, .inl _))
  rw [vp_cell_i, vp_cell_i, arrV_store]
  congr 2
  funext q
  by_cases hq : q = i.toNatClampNeg
  · subst hq
    simp [updV, upd, gnar, vp_nar, narrow]
  · simp [updV, upd, hq]
theorem gx_last (X : gX E p s m args c cc nL own) (hw : gw E s h H locs) {i : Int32} {x : Int64} (hr : asL 1 a i x h = some h1) (hdg : decode cc pc = .ok (.lastore, 1)) (kk : ∀ (H1 : Heap) (locs1 : List Loc), gw E s h1 H1 locs1 → W p l e R s m args below meth c H1 locs1 cells slots Q (F0 m (pc + 1) ls rest)) : W p l e R s m args below meth c H locs cells slots Q (F0 m pc ls (.long x :: .int i :: .ref (gB E + a) :: rest)) := by
  obtain ⟨n, f, ha, hin, rfl⟩ := asL_el hr
  refine W.last X.1.1 X.1.2.1 (show H[gB E + a]? = some (vp_cell (E.2.1 1) (n, .inr (.inl f))) from hw.1.2 a _ (ghW_at ha)) ((X.2.1.2 1 _ rfl).1 n (fun j => .long (f j))) (fun q => by cases q) (by show ¬ (i < 0 ∨ (arrV _ _ _).slots.size ≤ _); rw [arrV_size]; exact hin) rfl rfl hdg fun H1 e z oq => ?_
  refine kk H1 _ (gw_set hw ha z oq ?_)
  show H1[gB E + a]? = some (vp_cell _ _)
  rw [e]
  show some ((vp_cell _ (n, .inr (.inl f))).setSlot _ _) = some (vp_cell _ (n, .inr (.inl _)))
  rw [vp_cell_l, vp_cell_l, arrV_store]
  congr 2
  funext q
  by_cases hq : q = i.toNatClampNeg
  · subst hq
    simp [updV, vp_updL]
  · simp [updV, vp_updL, hq]
end GX
