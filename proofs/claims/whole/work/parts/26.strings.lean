section GS
variable {p : Program} {l : Launch} {e : Env} {R : Room} {s : State} {m : MethodId} {args : Array Value} {below : List Frame} {meth : Method} {c : Code} {H : Heap} {locs : List Loc} {cells slots : Nat} {Q : State → Prop}
variable {cc : ByteArray} {pc nL : Nat} {ls : Array Slot} {rest stk : List Value} {E : gE} {h h1 : PH} {own : String} {a : Nat}
variable {y : MethodName} {bytes : ByteArray} {maxL mc ms n index : Nat} {ret : Option FieldType} {rm : Room} {Qc : Array Value → State → Outcome → State → Prop} {As : List Value} {C : String}
theorem gx_runVb (X : gX E p s m args c cc nL own) (hw : gw E s h H locs) {b : Nat} (hM : Met l y (gWS y bytes maxL ret) rm (gPc E (.ref b :: As) h) Qc mc ms (gA E)) (hk : gMv y bytes maxL ret C n) (hl : Cond.methodLink own index y ∈ gT) (hrec : ∃ cell : Cell, H[b]? = some cell ∧ cell.vm.isStatics = false ∧ s.vm.findClass C = some cell.cls)
    (hR : rm.frames + 1 ≤ R.frames ∧ 8 + (maxL + 11) + rm.locals ≤ R.locals) (hrc : rm.cells = mc) (hrs : rm.slots = ms) (hn : As.length = n) (hsz : ls.size = nL) (hst : (rest.map fun v => v.category).sum ≤ 8) (hstk : stk = As.reverse ++ .ref b :: rest) (hdg : decode cc pc = .ok (.invokevirtual index, 3)) (hf : cells + mc ≤ R.cells ∧ slots + ms ≤ R.slots) :
    va_Run p l e R s m args below meth c H locs cells slots mc ms (F0 m pc ls stk) rest (Qc (Value.ref b :: As).toArray) (gA E) := by
  obtain ⟨k1, k2, k3, k4, k5, k6, k7, k8⟩ := hk
  have hin : GoodIn gT (wsV own index C y (gWS y bytes maxL ret)) := gIn (fun w hw => by
    rcases List.mem_append.mp hw with h | h
    · simp only [List.mem_cons, List.not_mem_nil, or_false] at h
      rcases h with rfl | rfl | rfl | rfl
      · exact hl
      · exact k1
      · exact k2
      · exact k3
    · exact gIn_ws k4 w h)
  have hp := gx_pre X hw (Value.ref b :: As)
  exact va_runV (g := F0 m pc ls stk) X.1 hM (cwV n X.1.2.2.2.2 hin rfl hrc hrs ⟨k5, k6, k7, k8⟩ hR) ⟨hp.1, hrec, hp.2⟩ rfl hn hsz hstk (lv_room hst) hdg hf
theorem gx_nret (X : gX E p s m args c cc nL own) {ty : FieldType} (hr : meth.sig.returnType = some ty) (hlocks : meth.locks = false) (hw : gw E s h H locs) {x : Int32} (hn : narrow ty (.int x) = .int x) (hdg : decode cc pc = .ok (.ireturn, 1)) : W p l e R s m args below meth c H locs cells slots (MQ below (gQi E x h) args s cells slots (gA E)) (F0 m pc ls [.int x]) :=
  W.zret X.1.1 X.1.2.1 hr hn (fun t ht _ => ⟨⟨_, (), rfl, rfl, show gH E h t.heap by rw [ht]; exact hw.1⟩, hw.2.F ht⟩) hw.2.2.2 hdg hlocks
end GS
theorem kJ_len : gMv yJ0_length_8abf5 cJ0_length_8abf5 1 (some .int) "java/lang/String" 0 := ⟨mi_J0_length_8abf5, ms_J0_length_8abf5, mI_java_lang_String, mc_J0_length_8abf5, rfl, by decide, by decide, by decide +kernel⟩
theorem kJ_coder : gMv yJ0_coder_7d493 cJ0_coder_7d493 1 (some .byte) "java/lang/String" 0 := ⟨mi_J0_coder_7d493, ms_J0_coder_7d493, mI_java_lang_String, mc_J0_coder_7d493, rfl, by decide, by decide, by decide +kernel⟩
theorem kJ_lat : gMv yJ0_isLatin1_aae02 cJ0_isLatin1_aae02 1 (some .boolean) "java/lang/String" 0 := ⟨mi_J0_isLatin1_aae02, ms_J0_isLatin1_aae02, mI_java_lang_String, mc_J0_isLatin1_aae02, rfl, by decide, by decide, by decide +kernel⟩
theorem kJ_chr : gMv yJ0_charAt_5068e cJ0_charAt_5068e 2 (some .char) "java/lang/String" 1 := ⟨mi_J0_charAt_5068e, ms_J0_charAt_5068e, mI_java_lang_String, mc_J0_charAt_5068e, rfl, by decide, by decide, by decide +kernel⟩
theorem kJ_lchr : gMs yJ1_charAt_3b067 cJ1_charAt_3b067 2 (some .char) 2 := ⟨mt_J1_charAt_3b067, mI_java_lang_StringLatin1, mc_J1_charAt_3b067, by decide, by decide, by decide +kernel⟩
theorem kJ_ci : gMs yJ0_checkIndex_df160 cJ0_checkIndex_df160 2 none 2 := ⟨mt_J0_checkIndex_df160, mI_java_lang_String, mc_J0_checkIndex_df160, by decide, by decide, by decide +kernel⟩
theorem kJ_pci : gMs yJ3_checkIndex_8e157 cJ3_checkIndex_8e157 3 (some .int) 3 := ⟨mt_J3_checkIndex_8e157, mI_jdk_internal_util_Preconditions, mc_J3_checkIndex_8e157, by decide, by decide, by decide +kernel⟩
abbrev rm_J0 : Room := { frames := 0, cells := 0, slots := 0, locals := 0 }
abbrev rm_J1 : Room := { frames := 1, cells := 0, slots := 0, locals := 40 }
abbrev rm_J2 : Room := { frames := 2, cells := 0, slots := 0, locals := 80 }
abbrev rm_J3 : Room := { frames := 3, cells := 0, slots := 0, locals := 120 }
set_option maxHeartbeats 4000000 in
set_option maxRecDepth 100000 in
theorem cJ_coder (l : Launch) (E : gE) (k : Nat) (hk : k < 16) (zh : PH) : Met l yJ0_coder_7d493 (gWS yJ0_coder_7d493 cJ0_coder_7d493 1 (some .byte)) rm_J0 (gPc E [.ref (E.2.2.2.1 k)] zh) (gQi E 0 zh) 0 0 (gA E) := by
  refine gx_met (by decide) ?_ rfl
  intro p e s m below meth c X hr hlk hin2 hw
  have hx := X.1.1
  have hb := X.1.2.1
  have hts := X.1.2.2.2.2
  have hl := lv_entry [.ref (E.2.2.2.1 k)] (n := 1) (Nat.le_of_ble_eq_true rfl)
  rw [lg_entry_eq]
  generalize (lg_sl [.ref (E.2.2.2.1 k)] ++ List.replicate (1 - (lg_sl [.ref (E.2.2.2.1 k)]).length) Slot.unset).toArray = ls at hl ⊢
  have hl : lv_has ls 1 [(0, .ref (E.2.2.2.1 k))] := hl
  have hStr := X.2.2.2.2
  refine va_gets hx hb hStr.2.2.1 hw.2 X.1.2.2.2.1 (hts _ mf_java_lang_String_38) (fun _ h => h) dJ0_coder_7d493_0 ?_
  refine lv_if_eq (tgt := 13) hx hb dJ0_coder_7d493_3 (by decide) (fun qc => absurd qc (by decide)) (fun _ => ?_)
  refine lv_aload_n hx hb dJ0_coder_7d493_6 rfl (lv_at hl 0 rfl) ?_
  refine vk_getf hx hb (hStr.2.1.1 k hk).2.1 hw.2 X.1.2.2.2.1 (hts _ mf_java_lang_String_15) (fun _ h => h) dJ0_coder_7d493_7 ?_
  refine lv_goto (tgt := 14) hx hb dJ0_coder_7d493_10 (by decide) ?_
  exact gx_nret X hr hlk hw rfl dJ0_coder_7d493_14
set_option maxHeartbeats 4000000 in
set_option maxRecDepth 100000 in
theorem cJ_lat (l : Launch) (E : gE) (k : Nat) (hk : k < 16) (zh : PH) : Met l yJ0_isLatin1_aae02 (gWS yJ0_isLatin1_aae02 cJ0_isLatin1_aae02 1 (some .boolean)) rm_J0 (gPc E [.ref (E.2.2.2.1 k)] zh) (gQi E 1 zh) 0 0 (gA E) := by
  refine gx_met (by decide) ?_ rfl
  intro p e s m below meth c X hr hlk hin2 hw
  have hx := X.1.1
  have hb := X.1.2.1
  have hts := X.1.2.2.2.2
  have hl := lv_entry [.ref (E.2.2.2.1 k)] (n := 1) (Nat.le_of_ble_eq_true rfl)
  rw [lg_entry_eq]
  generalize (lg_sl [.ref (E.2.2.2.1 k)] ++ List.replicate (1 - (lg_sl [.ref (E.2.2.2.1 k)]).length) Slot.unset).toArray = ls at hl ⊢
  have hl : lv_has ls 1 [(0, .ref (E.2.2.2.1 k))] := hl
  have hStr := X.2.2.2.2
  refine va_gets hx hb hStr.2.2.1 hw.2 X.1.2.2.2.1 (hts _ mf_java_lang_String_38) (fun _ h => h) dJ0_isLatin1_aae02_0 ?_
  refine lv_if_eq (tgt := 17) hx hb dJ0_isLatin1_aae02_3 (by decide) (fun qc => absurd qc (by decide)) (fun _ => ?_)
  refine lv_aload_n hx hb dJ0_isLatin1_aae02_6 rfl (lv_at hl 0 rfl) ?_
  refine vk_getf hx hb (hStr.2.1.1 k hk).2.1 hw.2 X.1.2.2.2.1 (hts _ mf_java_lang_String_15) (fun _ h => h) dJ0_isLatin1_aae02_7 ?_
  refine lv_if_ne (tgt := 17) hx hb dJ0_isLatin1_aae02_10 (by decide) (fun qc => absurd rfl qc) (fun _ => ?_)
  refine lv_iconst (v := 1) hx hb dJ0_isLatin1_aae02_13 (by decide) ?_
  refine lv_goto (tgt := 18) hx hb dJ0_isLatin1_aae02_14 (by decide) ?_
  exact gx_nret X hr hlk hw rfl dJ0_isLatin1_aae02_18
set_option maxHeartbeats 4000000 in
set_option maxRecDepth 100000 in
theorem cJ_len (l : Launch) (E : gE) (k : Nat) (zh : PH) {r9 : Int32} (hf : slen k = some r9) : Met l yJ0_length_8abf5 (gWS yJ0_length_8abf5 cJ0_length_8abf5 1 (some .int)) rm_J1 (gPc E [.ref (E.2.2.2.1 k)] zh) (gQi E r9 zh) 0 0 (gA E) := by
  obtain ⟨hk, hr9⟩ := slen_el hf
  refine gx_met (by decide) ?_ rfl
  intro p e s m below meth c X hr hlk hin2 hw
  have hx := X.1.1
  have hb := X.1.2.1
  have hts := X.1.2.2.2.2
  have hl := lv_entry [.ref (E.2.2.2.1 k)] (n := 1) (Nat.le_of_ble_eq_true rfl)
  rw [lg_entry_eq]
  generalize (lg_sl [.ref (E.2.2.2.1 k)] ++ List.replicate (1 - (lg_sl [.ref (E.2.2.2.1 k)]).length) Slot.unset).toArray = ls at hl ⊢
  have hl : lv_has ls 1 [(0, .ref (E.2.2.2.1 k))] := hl
  have hStr := X.2.2.2.2
  refine lv_aload_n hx hb dJ0_length_8abf5_0 rfl (lv_at hl 0 rfl) ?_
  refine vk_getf hx hb (hStr.2.1.1 k hk).2.2.1 hw.2 X.1.2.2.2.1 (hts _ mf_java_lang_String_9) (fun _ h => h) dJ0_length_8abf5_1 ?_
  refine va_tlen hx hb (hStr.2.1.1 k hk).2.2.2 hw.2 (v := Int32.ofNat (gLen.getD k 0)) rfl dJ0_length_8abf5_4 ?_
  refine lv_aload_n hx hb dJ0_length_8abf5_5 rfl (lv_at hl 0 rfl) ?_
  refine gx_ki (gx_runVb (As := []) (rest := [.int (Int32.ofNat (gLen.getD k 0))]) X hw (cJ_coder l E k hk zh) kJ_coder mm_java_lang_String_335 (vk_recv hStr.2.1 hk hw.2) ⟨Nat.le_of_ble_eq_true rfl, Nat.le_of_ble_eq_true rfl⟩ rfl rfl rfl hl.1 (Nat.le_of_ble_eq_true rfl) rfl dJ0_length_8abf5_6 ⟨Nat.le_of_ble_eq_true rfl, Nat.le_of_ble_eq_true rfl⟩) hw (fun H locs hw => ?_)
  refine lv_ishr hx hb dJ0_length_8abf5_9 ?_
  refine W.eq (g2 := F0 m 10 ls [.int r9]) (by subst hr9; rfl) ?_
  exact gx_iret X hr hlk hw rfl dJ0_length_8abf5_10
set_option maxHeartbeats 4000000 in
set_option maxRecDepth 100000 in
theorem cJ_pci (l : Launch) (E : gE) (i n : Int32) (v : Value) (hv : v = .null ∨ ∃ t, v = .ref t) (h1 : ¬ i < 0) (h2 : i < n) (zh : PH) : Met l yJ3_checkIndex_8e157 (gWS yJ3_checkIndex_8e157 cJ3_checkIndex_8e157 3 (some .int)) rm_J0 (gPc E [.int i, .int n, v] zh) (gQi E i zh) 0 0 (gA E) := by
  have hvc : v.category = 1 := by rcases hv with rfl | ⟨t, rfl⟩ <;> rfl
  refine gx_met (by decide) ?_ rfl
  intro p e s m below meth c X hr hlk hin2 hw
  have hx := X.1.1
  have hb := X.1.2.1
  have hl := lv_entry [.int i, .int n, v] (n := 3) (by rcases hv with rfl | ⟨t, rfl⟩ <;> exact Nat.le_of_ble_eq_true rfl)
  rw [lg_entry_eq]
  generalize (lg_sl [.int i, .int n, v] ++ List.replicate (3 - (lg_sl [.int i, .int n, v]).length) Slot.unset).toArray = ls at hl ⊢
  have hl : lv_has ls 3 [(0, .int i), (1, .int n), (2, v)] := by rcases hv with rfl | ⟨t, rfl⟩ <;> exact hl
  refine lv_iload_n hx hb dJ3_checkIndex_8e157_0 rfl (lv_at hl 0 rfl) ?_
  refine lv_if_lt (tgt := 9) hx hb dJ3_checkIndex_8e157_1 (by decide) (fun qc => absurd qc h1) (fun _ => ?_)
  refine lv_iload_n hx hb dJ3_checkIndex_8e157_4 rfl (lv_at hl 0 rfl) ?_
  refine lv_iload_n hx hb dJ3_checkIndex_8e157_5 rfl (lv_at hl 1 rfl) ?_
  refine lv_icmp_lt (tgt := 16) hx hb dJ3_checkIndex_8e157_6 (by decide) (fun _ => ?_) (fun qc => absurd h2 qc)
  refine lv_iload_n hx hb dJ3_checkIndex_8e157_16 rfl (lv_at hl 0 rfl) ?_
  exact gx_iret X hr hlk hw rfl dJ3_checkIndex_8e157_17
set_option maxHeartbeats 4000000 in
set_option maxRecDepth 100000 in
theorem cJ_ci (l : Launch) (E : gE) (i n : Int32) (h1 : ¬ i < 0) (h2 : i < n) (zh : PH) : Met l yJ0_checkIndex_df160 (gWS yJ0_checkIndex_df160 cJ0_checkIndex_df160 2 none) rm_J1 (gPc E [.int i, .int n] zh) (gQv E zh) 0 0 (gA E) := by
  refine gx_met (by decide) ?_ rfl
  intro p e s m below meth c X hr hlk hin2 hw
  have hx := X.1.1
  have hb := X.1.2.1
  have hts := X.1.2.2.2.2
  have hl := lv_entry [.int i, .int n] (n := 2) (Nat.le_of_ble_eq_true rfl)
  rw [lg_entry_eq]
  generalize (lg_sl [.int i, .int n] ++ List.replicate (2 - (lg_sl [.int i, .int n]).length) Slot.unset).toArray = ls at hl ⊢
  have hl : lv_has ls 2 [(0, .int i), (1, .int n)] := hl
  have hStr := X.2.2.2.2
  refine lv_iload_n hx hb dJ0_checkIndex_df160_0 rfl (lv_at hl 0 rfl) ?_
  refine lv_iload_n hx hb dJ0_checkIndex_df160_1 rfl (lv_at hl 1 rfl) ?_
  obtain ⟨v, hv, hZ⟩ : ∃ v : Value, (v = .null ∨ ∃ t, v = .ref t) ∧ va_Z "jdk/internal/util/Preconditions" "SIOOBE_FORMATTER" "Ljava/util/function/BiFunction;" v (gA E) s s.heap := by
    rcases hStr.2.2.2.1 with h | ⟨t, h⟩
    · exact ⟨_, Or.inl rfl, h⟩
    · exact ⟨_, Or.inr ⟨t, rfl⟩, h⟩
  refine va_gets hx hb hZ hw.2 X.1.2.2.2.1 (hts _ mf_java_lang_String_1053) (fun _ h => h) dJ0_checkIndex_df160_2 ?_
  refine gx_ki (gx_runS (As := [.int i, .int n, v]) (rest := []) X hw (cJ_pci l E i n v hv h1 h2 zh) kJ_pci mm_java_lang_String_1059 ⟨Nat.le_of_ble_eq_true rfl, Nat.le_of_ble_eq_true rfl⟩ rfl rfl rfl hl.1 (Nat.le_of_ble_eq_true rfl) rfl dJ0_checkIndex_df160_5 ⟨Nat.le_of_ble_eq_true rfl, Nat.le_of_ble_eq_true rfl⟩) hw (fun H locs hw => ?_)
  refine lv_pop hx hb dJ0_checkIndex_df160_8 rfl ?_
  exact gx_vret X hr hlk hw rfl dJ0_checkIndex_df160_9
set_option maxHeartbeats 4000000 in
set_option maxRecDepth 100000 in
theorem cJ_lchr (l : Launch) (E : gE) (k : Nat) (i : Int32) (zh : PH) {r9 : Int32} (hf : schr k i = some r9) : Met l yJ1_charAt_3b067 (gWS yJ1_charAt_3b067 cJ1_charAt_3b067 2 (some .char)) rm_J2 (gPc E [.ref (E.2.2.2.2 k), .int i] zh) (gQi E r9 zh) 0 0 (gA E) := by
  obtain ⟨hk, hi0, hin, hlt, hr9⟩ := schr_el hf
  refine gx_met (by decide) ?_ rfl
  intro p e s m below meth c X hr hlk hin2 hw
  have hx := X.1.1
  have hb := X.1.2.1
  have hl := lv_entry [.ref (E.2.2.2.2 k), .int i] (n := 2) (Nat.le_of_ble_eq_true rfl)
  rw [lg_entry_eq]
  generalize (lg_sl [.ref (E.2.2.2.2 k), .int i] ++ List.replicate (2 - (lg_sl [.ref (E.2.2.2.2 k), .int i]).length) Slot.unset).toArray = ls at hl ⊢
  have hl : lv_has ls 2 [(0, .ref (E.2.2.2.2 k)), (1, .int i)] := hl
  have hStr := X.2.2.2.2
  refine lv_iload_n hx hb dJ1_charAt_3b067_0 rfl (lv_at hl 1 rfl) ?_
  refine lv_aload_n hx hb dJ1_charAt_3b067_1 rfl (lv_at hl 0 rfl) ?_
  refine va_tlen hx hb (hStr.2.1.1 k hk).2.2.2 hw.2 (v := Int32.ofNat (gLen.getD k 0)) rfl dJ1_charAt_3b067_2 ?_
  refine gx_kv (gx_runS (As := [.int i, .int (Int32.ofNat (gLen.getD k 0))]) (rest := []) X hw (cJ_ci l E i _ hi0 hlt zh) kJ_ci mm_java_lang_StringLatin1_9 ⟨Nat.le_of_ble_eq_true rfl, Nat.le_of_ble_eq_true rfl⟩ rfl rfl rfl hl.1 (Nat.le_of_ble_eq_true rfl) rfl dJ1_charAt_3b067_3 ⟨Nat.le_of_ble_eq_true rfl, Nat.le_of_ble_eq_true rfl⟩) hw (fun H locs hw => ?_)
  refine lv_aload_n hx hb dJ1_charAt_3b067_6 rfl (lv_at hl 0 rfl) ?_
  refine lv_iload_n hx hb dJ1_charAt_3b067_7 rfl (lv_at hl 1 rfl) ?_
  refine va_tb hx hb (hStr.2.1.1 k hk).2.2.2 hw.2 hin rfl dJ1_charAt_3b067_8 ?_
  refine lv_sipush (v := 255) hx hb dJ1_charAt_3b067_9 (by decide) ?_
  refine lv_iand hx hb dJ1_charAt_3b067_12 ?_
  refine lv_i2c hx hb dJ1_charAt_3b067_13 rfl ?_
  refine W.eq (g2 := F0 m 14 ls [.int r9]) (by subst hr9; rfl) ?_
  exact gx_nret X hr hlk hw (by rw [hr9]; exact pk_nc _) dJ1_charAt_3b067_14
set_option maxHeartbeats 4000000 in
set_option maxRecDepth 100000 in
theorem cJ_chr (l : Launch) (E : gE) (k : Nat) (i : Int32) (zh : PH) {r9 : Int32} (hf : schr k i = some r9) : Met l yJ0_charAt_5068e (gWS yJ0_charAt_5068e cJ0_charAt_5068e 2 (some .char)) rm_J3 (gPc E [.ref (E.2.2.2.1 k), .int i] zh) (gQi E r9 zh) 0 0 (gA E) := by
  obtain ⟨hk, hi0, hin, hlt, hr9⟩ := schr_el hf
  refine gx_met (by decide) ?_ rfl
  intro p e s m below meth c X hr hlk hin2 hw
  have hx := X.1.1
  have hb := X.1.2.1
  have hts := X.1.2.2.2.2
  have hl := lv_entry [.ref (E.2.2.2.1 k), .int i] (n := 2) (Nat.le_of_ble_eq_true rfl)
  rw [lg_entry_eq]
  generalize (lg_sl [.ref (E.2.2.2.1 k), .int i] ++ List.replicate (2 - (lg_sl [.ref (E.2.2.2.1 k), .int i]).length) Slot.unset).toArray = ls at hl ⊢
  have hl : lv_has ls 2 [(0, .ref (E.2.2.2.1 k)), (1, .int i)] := hl
  have hStr := X.2.2.2.2
  refine lv_aload_n hx hb dJ0_charAt_5068e_0 rfl (lv_at hl 0 rfl) ?_
  refine gx_ki (gx_runVb (As := []) (rest := []) X hw (cJ_lat l E k hk zh) kJ_lat mm_java_lang_String_492 (vk_recv hStr.2.1 hk hw.2) ⟨Nat.le_of_ble_eq_true rfl, Nat.le_of_ble_eq_true rfl⟩ rfl rfl rfl hl.1 (Nat.le_of_ble_eq_true rfl) rfl dJ0_charAt_5068e_1 ⟨Nat.le_of_ble_eq_true rfl, Nat.le_of_ble_eq_true rfl⟩) hw (fun H locs hw => ?_)
  refine lv_if_eq (tgt := 16) hx hb dJ0_charAt_5068e_4 (by decide) (fun qc => absurd qc (by decide)) (fun _ => ?_)
  refine lv_aload_n hx hb dJ0_charAt_5068e_7 rfl (lv_at hl 0 rfl) ?_
  refine vk_getf hx hb (hStr.2.1.1 k hk).2.2.1 hw.2 X.1.2.2.2.1 (hts _ mf_java_lang_String_9) (fun _ h => h) dJ0_charAt_5068e_8 ?_
  refine lv_iload_n hx hb dJ0_charAt_5068e_11 rfl (lv_at hl 1 rfl) ?_
  refine gx_ki (gx_runS (As := [.ref (E.2.2.2.2 k), .int i]) (rest := []) X hw (cJ_lchr l E k i zh hf) kJ_lchr mm_java_lang_String_495 ⟨Nat.le_of_ble_eq_true rfl, Nat.le_of_ble_eq_true rfl⟩ rfl rfl rfl hl.1 (Nat.le_of_ble_eq_true rfl) rfl dJ0_charAt_5068e_12 ⟨Nat.le_of_ble_eq_true rfl, Nat.le_of_ble_eq_true rfl⟩) hw (fun H locs hw => ?_)
  exact gx_nret X hr hlk hw (by rw [hr9]; exact pk_nc _) dJ0_charAt_5068e_15
