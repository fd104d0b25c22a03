theorem ghW_D (E : gE) (h : PH) : va_D (gA E) (ghW E h) := by
  refine ⟨fun i j x y hi hj hxy => ?_, fun k q hk => ?_⟩
  · rw [ghW_get] at hi hj
    cases ci : h[i]? with
    | none => rw [ci] at hi; cases hi
    | some a =>
      cases cj : h[j]? with
      | none => rw [cj] at hj; cases hj
      | some b =>
        rw [ci] at hi
        rw [cj] at hj
        cases hi
        cases hj
        simp only at hxy
        omega
  · rw [ghW_get] at hk
    cases ck : h[k]? with
    | none => rw [ck] at hk; cases hk
    | some a =>
      rw [ck] at hk
      cases hk
      exact Nat.le_add_right _ _
theorem ghW_set {E : gE} {h : PH} {a : Nat} {c1 : va_E} : (ghW E h).set a (gB E + a, gce E c1) = ghW E (h.set a c1) := by
  apply List.ext_getElem?
  intro k
  rw [ghW_get]
  by_cases hk : a = k
  · subst hk
    by_cases hl : a < h.length
    · rw [List.getElem?_set_self (by rw [ghW, List.length_mapIdx]; exact hl), List.getElem?_set_self hl]
      rfl
    · rw [List.getElem?_eq_none (by rw [List.length_set, ghW, List.length_mapIdx]; omega), List.getElem?_eq_none (by rw [List.length_set]; omega)]
      rfl
  · rw [List.getElem?_set_ne hk, List.getElem?_set_ne hk, ghW_get]
theorem ac_n : Cond.native arraycopyName ∈ gT := mn_java_lang_System_arraycopy__Ljava_lang_Object_ILjava_lang_Object_II_V
theorem ac_s : Cond.static arraycopyName ∈ gT := mt_java_lang_System_arraycopy__Ljava_lang_Object_ILjava_lang_Object_II_V
section GM
variable {p : Program} {l : Launch} {e : Env} {R : Room} {s : State} {m : MethodId} {args : Array Value} {below : List Frame} {meth : Method} {c : Code} {H : Heap} {locs : List Loc} {cells slots : Nat} {Q : State → Prop}
variable {cc : ByteArray} {pc nL : Nat} {ls : Array Slot} {rest stk : List Value} {E : gE} {h h1 : PH} {own : String} {a : Nat}
theorem gx_str (X : gX E p s m args c cc nL own) (i : Nat) {index : Nat} {tx : String} (hi : gSt[i]? = some (own, index, tx, i)) : vk_R own index tx (E.2.2.2.1 i) s := X.2.2.2.2.1 _ (List.mem_of_getElem? hi)
theorem gx_aload_nQ (hx : p.tables.exec = Jvm.exec) (hb : c.code = cc) {k : Fin 4} {i : Nat} {v : Option Nat} (hdg : decode cc pc = .ok (.aload_n k, 1)) (hi : (k : Nat) = i) (hl : ls[i]? = some (.val (gq E v)))
    (kk : W p l e R s m args below meth c H locs cells slots Q (F0 m (pc + 1) ls (gq E v :: rest))) : W p l e R s m args below meth c H locs cells slots Q (F0 m pc ls rest) := by
  cases v with
  | none => exact lv_aload_nN hx hb hdg hi hl kk
  | some x => exact lv_aload_n hx hb hdg hi hl kk
theorem gx_aloadQ (hx : p.tables.exec = Jvm.exec) (hb : c.code = cc) {i : Nat} {v : Option Nat} (hdg : decode cc pc = .ok (.aload i, 2)) (hl : ls[i]? = some (.val (gq E v)))
    (kk : W p l e R s m args below meth c H locs cells slots Q (F0 m (pc + 2) ls (gq E v :: rest))) : W p l e R s m args below meth c H locs cells slots Q (F0 m pc ls rest) := by
  cases v with
  | none => exact lv_aloadN hx hb hdg hl kk
  | some x => exact lv_aload hx hb hdg hl kk
theorem gx_cpI (X : gX E p s m args c cc nL own) (hw : gw E s h H locs) {sa da : Nat} {sp dp n : Int32} {index : Nat} (hr : cpI 0 sa sp da dp n h = some h1) (hl : Cond.methodLink own index arraycopyName ∈ gT) (hnat : Cond.native arraycopyName ∈ gT) (hst : Cond.static arraycopyName ∈ gT) (hini : Cond.initialized "java/lang/System" ∈ gT) (hsz : ls.size = nL)
    (hframes : 1 ≤ R.frames) (hlocals : (rest.map fun v => v.category).sum + (nativeFrameWords "java/lang/System" "arraycopy" 5 + 11) ≤ R.locals) (hdg : decode cc pc = .ok (.invokestatic index, 3))
    (kk : ∀ (H1 : Heap) (locs1 : List Loc), gw E s h1 H1 locs1 → W p l e R s m args below meth c H1 locs1 0 slots Q (F0 m (pc + 3) ls rest)) : W p l e R s m args below meth c H locs 0 slots Q (F0 m pc ls (.int n :: .int dp :: .ref (gB E + da) :: .int sp :: .ref (gB E + sa) :: rest)) := by
  obtain ⟨n0, n1, f, g, hs, hd, ⟨h1, h2, h3⟩, h4, h5, rfl⟩ := cpI_el hr
  obtain ⟨hx, hb, hml, hown, hts⟩ := X.1
  refine gx_sz (fun hz => ?_)
  refine va_copyi hx hb (hml.trans hsz.symm) hown (hts _ hl) (hts _ hnat) (hts _ hst) (hts _ hini) X.2.1 hw.1.2 (ghW_D E h) hw.2 sa da 0 0 (ghW_at hs) (ghW_at hd) rfl rfl rfl h1 h2 h3 h4 h5 (fun _ _ => rfl) hframes hlocals hdg (fun H1 locs1 hP _ hS => ?_)
  refine gx_sz (fun hz1 => ?_)
  refine kk H1 locs1 ⟨⟨?_, ?_⟩, hS⟩
  · rw [List.length_set, ← hw.1.1]
    have := hS.1
    have := hw.2.1
    omega
  · rw [← ghW_set]
    exact hP
theorem gx_cpL (X : gX E p s m args c cc nL own) (hw : gw E s h H locs) {sa da : Nat} {sp dp n : Int32} {index : Nat} (hr : cpL 1 sa sp da dp n h = some h1) (hl : Cond.methodLink own index arraycopyName ∈ gT) (hnat : Cond.native arraycopyName ∈ gT) (hst : Cond.static arraycopyName ∈ gT) (hini : Cond.initialized "java/lang/System" ∈ gT) (hsz : ls.size = nL)
    (hframes : 1 ≤ R.frames) (hlocals : (rest.map fun v => v.category).sum + (nativeFrameWords "java/lang/System" "arraycopy" 5 + 11) ≤ R.locals) (hdg : decode cc pc = .ok (.invokestatic index, 3))
    (kk : ∀ (H1 : Heap) (locs1 : List Loc), gw E s h1 H1 locs1 → W p l e R s m args below meth c H1 locs1 0 slots Q (F0 m (pc + 3) ls rest)) : W p l e R s m args below meth c H locs 0 slots Q (F0 m pc ls (.int n :: .int dp :: .ref (gB E + da) :: .int sp :: .ref (gB E + sa) :: rest)) := by
  obtain ⟨n0, n1, f, g, hs, hd, ⟨h1, h2, h3⟩, h4, h5, rfl⟩ := cpL_el hr
  obtain ⟨hx, hb, hml, hown, hts⟩ := X.1
  refine gx_sz (fun hz => ?_)
  refine va_copyl hx hb (hml.trans hsz.symm) hown (hts _ hl) (hts _ hnat) (hts _ hst) (hts _ hini) X.2.1 hw.1.2 (ghW_D E h) hw.2 sa da 1 1 (ghW_at hs) (ghW_at hd) rfl rfl rfl h1 h2 h3 h4 h5 (fun _ _ => rfl) hframes hlocals hdg (fun H1 locs1 hP _ hS => ?_)
  refine gx_sz (fun hz1 => ?_)
  refine kk H1 locs1 ⟨⟨?_, ?_⟩, hS⟩
  · rw [List.length_set, ← hw.1.1]
    have := hS.1
    have := hw.2.1
    omega
  · rw [← ghW_set]
    exact hP
end GM
