theorem mw_L_gives : Cond.codeWith yL_gives cL_gives 6 (some .int) [(0, 12, 15, 13)] ∈ gT := gT_5 87 (by decide +kernel) (by decide +kernel)
def gWL : List Cond := Cond.codeWith yL_gives cL_gives 6 (some .int) [(0, 12, 15, 13)] :: gT
section GL
variable {p : Program} {l : Launch} {e : Env} {s : State} {m : MethodId} {args : Array Value} {below : List Frame} {meth : Method} {c : Code} {H : Heap} {locs : List Loc} {cells slots : Nat} {Q : State → Prop}
variable {cc : ByteArray} {pc nL : Nat} {ls : Array Slot} {rest stk : List Value} {E : gE} {h h1 : PH} {own : String} {a : Nat} {R : Room}
theorem gx_sld (hexec : p.tables.exec = Jvm.exec) (hb : c.code = cc) {b L : Nat} {xs : Nat → Int32} {A : Nat → Prop} {H0 : Heap} (hX : va_X b L xs s H0) (hbl : b < H0.size) (hbA : ¬ A b) (hS : va_S A H0 H locs) {i v : Int32} (hr : scr L xs i = some v) (hdg : decode cc pc = .ok (.iaload, 1))
    (kk : W p l e R s m args below meth c H locs cells slots Q (F0 m (pc + 1) ls (.int v :: rest))) : W p l e R s m args below meth c H locs cells slots Q (F0 m pc ls (.int i :: .ref b :: rest)) := by
  obtain ⟨hin, rfl⟩ := scr_el hr
  exact va_sld hexec hb hX hbl hbA hS hin hdg kk
end GL
abbrev rm_L_gives : Room := { frames := 12, cells := 1, slots := 6, locals := 400 }
theorem gx_cwL {p : Program} {s : State} {m : MethodId} {args : Array Value} {c : Code} {E : gE} (X : gX E p s m args c cL_law 7 RL) : vx_CSW room_1 s args RL 45 yL_gives cL_gives 6 (some .int) [(0, 12, 15, 13)] gWL rm_L_gives 1 6 5 := by
  refine vx_cwSW 5 X.1.2.2.2.2 (gIn (fun w hw => ?_)) rfl rfl rfl ⟨by decide, by decide, by decide +kernel⟩ ⟨Nat.le_of_ble_eq_true rfl, Nat.le_of_ble_eq_true rfl⟩
  rcases List.mem_append.mp hw with h | h
  · simp only [List.mem_cons, List.not_mem_nil, or_false] at h
    rcases h with rfl | rfl | rfl
    · exact mm_L_45
    · exact mt_L_gives
    · exact mI_L
  · rcases List.mem_cons.mp h with h | h
    · rw [h]; exact mw_L_gives
    · exact h
set_option maxHeartbeats 4000000 in
set_option maxRecDepth 100000 in
theorem c_L_gives (l : Launch) (hst : l.stackTraces = false) (E : gE) (N : Nat) (za0 : Nat) (za1 za2 za3 : Int32) (za4 : Nat) (zh : PH) {h9 : PH} {r9 : Int32} (hf : f_L_gives N za0 za1 za2 za3 za4 zh = some (r9, h9)) : Met l yL_gives gWL rm_L_gives (gPc E [.ref (gB E + za0), .int za1, .int za2, .int za3, .ref (gB E + za4)] zh) (gQi E r9 h9) 1 6 (gA E) := by
  refine va_MetW (cc := cL_gives) (maxL := 6) (ret := some .int) (hh := [(0, 12, 15, 13)]) (by decide) rfl ?_
  intro p e s m args below meth c s₁ B hml hv
  obtain ⟨rfl, hH, hK⟩ := hv
  have hts0 := atoms_spec (ws := gWL) B.pre
  have htab : c.exceptionTable.toList = tableOf [(0, 12, 15, 13)] := vx_table (x := yL_gives) B (hts0 _ List.mem_cons_self)
  have hts : ∀ w ∈ gT, w.before _ s = true := fun w hw => hts0 w (List.mem_cons_of_mem _ hw)
  have X : gX E p s m [.ref (gB E + za0), .int za1, .int za2, .int za3, .ref (gB E + za4)].toArray c cL_gives 6 RL := ⟨⟨B.exec, B.bytes, hml, findClass_of_methodNamed B.named, hts⟩, hK⟩
  have hw : gw E s zh s.heap [] := ⟨hH, va_S.rf⟩
  have hr := B.returns
  have hlk := B.notSynchronized
  have hx := X.1.1
  have hb := X.1.2.1
  have hl := lv_entry [.ref (gB E + za0), .int za1, .int za2, .int za3, .ref (gB E + za4)] (n := 6) (Nat.le_of_ble_eq_true rfl)
  rw [lg_entry_eq]
  generalize (lg_sl [.ref (gB E + za0), .int za1, .int za2, .int za3, .ref (gB E + za4)] ++ List.replicate (6 - (lg_sl [.ref (gB E + za0), .int za1, .int za2, .int za3, .ref (gB E + za4)]).length) Slot.unset).toArray = ls at hl ⊢
  have hl : lv_has ls 6 [(0, .ref (gB E + za0)), (1, .int za1), (2, .int za2), (3, .int za3), (4, .ref (gB E + za4))] := hl
  unfold f_L_gives at hf
  obtain ⟨qi, hf⟩ := gg_el hf
  obtain ⟨zr, zh1, qc, hf⟩ := gc_el hf
  obtain ⟨fs, ha⟩ := gIs_el qi
  refine lv_aload hx hb dL_gives_0 (lv_at hl 4 rfl) ?_
  refine lv_iconst (v := 0) hx hb dL_gives_2 (by decide) ?_
  refine lv_aload_n hx hb dL_gives_3 rfl (lv_at hl 0 rfl) ?_
  refine lv_iload_n hx hb dL_gives_4 rfl (lv_at hl 1 rfl) ?_
  refine lv_iload_n hx hb dL_gives_5 rfl (lv_at hl 2 rfl) ?_
  refine lv_iload_n hx hb dL_gives_6 rfl (lv_at hl 3 rfl) ?_
  have hin : GoodIn gT (wsV RL 7 RX11 yX11_gives (gWS yX11_gives cX11_gives 5 (some .int))) := gIn (fun w hw => by
    rcases List.mem_append.mp hw with h | h
    · simp only [List.mem_cons, List.not_mem_nil, or_false] at h
      rcases h with rfl | rfl | rfl | rfl
      · exact mm_L_7
      · exact mi_X11_gives
      · exact ms_X11_gives
      · exact mI_X11
    · exact gIn_ws mc_X11_gives w h)
  have hp := gx_pre X hw [.ref (gB E + za0), .int za1, .int za2, .int za3]
  refine vx_calli (A0 := gA E) (A1 := gA E) (H0 := s.heap) (vx_runV (As := [.int za1, .int za2, .int za3]) (rest := [.int 0, .ref (gB E + za4)]) (g := F0 m 7 ls [.int za3, .int za2, .int za1, .ref (gB E + za0), .int 0, .ref (gB E + za4)]) X.1 (c_X11_gives l hst E N za0 za1 za2 za3 zh qc) (cwV 3 hts hin rfl rfl rfl ⟨rfl, by decide, by decide, by decide +kernel⟩ ⟨Nat.le_of_ble_eq_true rfl, Nat.le_of_ble_eq_true rfl⟩) ⟨hp.1, va_recv X.2.1 hw.1.2 clX11.1 (ghW_at ha), hp.2⟩ rfl rfl hl.1 rfl (lv_room (Nat.le_of_ble_eq_true rfl)) dL_gives_7 ⟨Nat.le_of_ble_eq_true rfl, Nat.le_of_ble_eq_true rfl⟩) hw.2 (fun _ _ h => h) (fun _ h => h) (fun _ _ h => h) ?_ ?_
  · intro E9 ce q9 u t H1 locs1 ht _ hpx hBX _ _ hS hce hcv hcl
    obtain ⟨rfl, hH1⟩ := hBX
    have hpx : zr = none := hpx
    subst hpx
    have hw1 : gw E s zh1 H1 locs1 := ⟨by rw [← ht]; exact hH1, hS⟩
    refine vx_catch (name := "java/util/NoSuchElementException") X.1.2.2.2.1 [] ⟨0, 12, 15, 13⟩ [] (by rw [htab]; rfl) (fun z hz => nomatch hz) (by decide) (by decide) (hts _ ml_L_13) (va_Nw.use rfl X.2.2.2.2.2.2.2.2.2.2.1) hce hcv hcl ?_
    refine lv_astore (lv' := [(5, .ref q9), (0, .ref (gB E + za0)), (1, .int za1), (2, .int za2), (3, .int za3), (4, .ref (gB E + za4))]) hx hb dL_gives_15 hl (by decide) rfl (fun ls hl => ?_)
    refine lv_iconst (v := 1) hx hb dL_gives_17 (by decide) ?_
    exact gx_iret X hr hlk hw1 hf dL_gives_18
  · intro r u t H1 locs1 ht _ hpost hB _ _ hS
    have hpost : zr = some r := hpost
    subst hpost
    have hf := gom_s hf
    have hw1 : gw E s zh1 H1 locs1 := ⟨by rw [← ht]; exact hB, hS⟩
    obtain ⟨zh2, q2, hf⟩ := gb_el hf
    refine lv_i2l hx hb dL_gives_10 rfl ?_
    refine gx_last X hw1 q2 dL_gives_11 (fun H locs hw => ?_)
    refine lv_goto (tgt := 19) hx hb dL_gives_12 (by decide) ?_
    refine lv_iconst (v := 0) hx hb dL_gives_19 (by decide) ?_
    exact gx_iret X hr hlk hw hf dL_gives_20
