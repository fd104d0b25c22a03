abbrev rm_X0_init : Room := { frames := 1, cells := 1, slots := 1000, locals := 20 }
set_option maxHeartbeats 4000000 in
set_option maxRecDepth 100000 in
theorem c_X0_init (l : Launch) (E : gE) (N : Nat) (za0 : Nat) (zh : PH) {h9 : PH} (hf : f_X0_init N za0 zh = some h9) : Met l yX0_init (gWS yX0_init cX0_init 1 none) rm_X0_init (gPc E [.ref (gB E + za0)] zh) (gQv E h9) 1 1000 (gA E) := by
  refine gx_met (by decide) ?_ rfl
  intro p e s m below meth c X hr hlk hin2 hw
  have hx := X.1.1
  have hb := X.1.2.1
  have hl := lv_entry [.ref (gB E + za0)] (n := 1) (Nat.le_of_ble_eq_true rfl)
  rw [lg_entry_eq]
  generalize (lg_sl [.ref (gB E + za0)] ++ List.replicate (1 - (lg_sl [.ref (gB E + za0)]).length) Slot.unset).toArray = ls at hl ⊢
  have hl : lv_has ls 1 [(0, .ref (gB E + za0))] := hl
  unfold f_X0_init at hf
  refine lv_aload_n hx hb dX0_init_0 rfl (lv_at hl 0 rfl) ?_
  refine gx_oinit X mm_X0_3 mo_inst mo_code hl.1 dX0_init_1 (Nat.le_of_ble_eq_true rfl) (Nat.le_of_ble_eq_true rfl) ?_
  refine lv_aload_n hx hb dX0_init_4 rfl (lv_at hl 0 rfl) ?_
  refine lv_sipush (v := 1000) hx hb dX0_init_5 (by decide) ?_
  obtain ⟨zr2, zh1, qzh1, hf⟩ := gc_el hf
  refine gx_newa1 X hw qzh1 ma_long (by decide) (by decide) (by decide) (Nat.le_of_ble_eq_true rfl) (Nat.le_of_ble_eq_true rfl) dX0_init_8 (fun H hw => ?_)
  obtain ⟨zh3, qzh3, hf⟩ := gb_el hf
  refine gx_putFV X hw qzh3 clX0 (by decide) mf_X0_11 rfl (hin2 rfl) rfl rfl rfl dX0_init_10 (fun H locs hw => ?_)
  exact gx_vret X hr hlk hw hf dX0_init_13
abbrev rm_X0_empty : Room := { frames := 0, cells := 0, slots := 0, locals := 0 }
set_option maxHeartbeats 4000000 in
set_option maxRecDepth 100000 in
theorem c_X0_empty (l : Launch) (E : gE) (N : Nat) (za0 : Nat) (zh : PH) {h9 : PH} (hf : f_X0_empty N za0 zh = some h9) : Met l yX0_empty (gWS yX0_empty cX0_empty 1 none) rm_X0_empty (gPc E [.ref (gB E + za0)] zh) (gQv E h9) 0 0 (gA E) := by
  refine gx_met (by decide) ?_ rfl
  intro p e s m below meth c X hr hlk hin2 hw
  have hx := X.1.1
  have hb := X.1.2.1
  have hl := lv_entry [.ref (gB E + za0)] (n := 1) (Nat.le_of_ble_eq_true rfl)
  rw [lg_entry_eq]
  generalize (lg_sl [.ref (gB E + za0)] ++ List.replicate (1 - (lg_sl [.ref (gB E + za0)]).length) Slot.unset).toArray = ls at hl ⊢
  have hl : lv_has ls 1 [(0, .ref (gB E + za0))] := hl
  unfold f_X0_empty at hf
  refine lv_aload_n hx hb dX0_empty_0 rfl (lv_at hl 0 rfl) ?_
  refine lv_iconst (v := 0) hx hb dX0_empty_1 (by decide) ?_
  obtain ⟨zh1, qzh1, hf⟩ := gb_el hf
  refine gx_putV X hw qzh1 clX0 (by decide) mf_X0_15 rfl rfl rfl dX0_empty_2 (fun H locs hw => ?_)
  refine lv_aload_n hx hb dX0_empty_5 rfl (lv_at hl 0 rfl) ?_
  refine lv_iconst (v := 0) hx hb dX0_empty_6 (by decide) ?_
  obtain ⟨zh2, qzh2, hf⟩ := gb_el hf
  refine gx_putV X hw qzh2 clX0 (by decide) mf_X0_19 rfl rfl rfl dX0_empty_7 (fun H locs hw => ?_)
  exact gx_vret X hr hlk hw hf dX0_empty_10
abbrev rm_X0_copyFrom : Room := { frames := 1, cells := 0, slots := 0, locals := 64 }
set_option maxHeartbeats 4000000 in
set_option maxRecDepth 100000 in
theorem c_X0_copyFrom (l : Launch) (E : gE) (N : Nat) (za0 : Nat) (za1 : Nat) (zh : PH) {h9 : PH} (hf : f_X0_copyFrom N za0 za1 zh = some h9) : Met l yX0_copyFrom (gWS yX0_copyFrom cX0_copyFrom 2 none) rm_X0_copyFrom (gPc E [.ref (gB E + za0), .ref (gB E + za1)] zh) (gQv E h9) 0 0 (gA E) := by
  refine gx_met (by decide) ?_ rfl
  intro p e s m below meth c X hr hlk hin2 hw
  have hx := X.1.1
  have hb := X.1.2.1
  have hl := lv_entry [.ref (gB E + za0), .ref (gB E + za1)] (n := 2) (Nat.le_of_ble_eq_true rfl)
  rw [lg_entry_eq]
  generalize (lg_sl [.ref (gB E + za0), .ref (gB E + za1)] ++ List.replicate (2 - (lg_sl [.ref (gB E + za0), .ref (gB E + za1)]).length) Slot.unset).toArray = ls at hl ⊢
  have hl : lv_has ls 2 [(0, .ref (gB E + za0)), (1, .ref (gB E + za1))] := hl
  unfold f_X0_copyFrom at hf
  refine lv_aload_n hx hb dX0_copyFrom_0 rfl (lv_at hl 1 rfl) ?_
  obtain ⟨zt1, qzt1, hf⟩ := gb_el hf
  refine gx_getR X hw qzt1 clX0 (by decide) mf_X0_11 dX0_copyFrom_1 ?_
  refine lv_iconst (v := 0) hx hb dX0_copyFrom_4 (by decide) ?_
  refine lv_aload_n hx hb dX0_copyFrom_5 rfl (lv_at hl 0 rfl) ?_
  obtain ⟨zt2, qzt2, hf⟩ := gb_el hf
  refine gx_getR X hw qzt2 clX0 (by decide) mf_X0_11 dX0_copyFrom_6 ?_
  refine lv_iconst (v := 0) hx hb dX0_copyFrom_9 (by decide) ?_
  refine lv_aload_n hx hb dX0_copyFrom_10 rfl (lv_at hl 1 rfl) ?_
  obtain ⟨zt3, qzt3, hf⟩ := gb_el hf
  refine gx_getI X hw qzt3 clX0 (by decide) mf_X0_15 dX0_copyFrom_11 ?_
  obtain ⟨zh4, qzh4, hf⟩ := gb_el hf
  refine gx_cpL X hw qzh4 mm_X0_22 ac_n ac_s mI_java_lang_System hl.1 (Nat.le_of_ble_eq_true rfl) (Nat.le_of_ble_eq_true rfl) dX0_copyFrom_14 (fun H locs hw => ?_)
  refine W.eq (g2 := F0 m 17 ls []) rfl ?_
  refine lv_aload_n hx hb dX0_copyFrom_17 rfl (lv_at hl 0 rfl) ?_
  refine lv_aload_n hx hb dX0_copyFrom_18 rfl (lv_at hl 1 rfl) ?_
  obtain ⟨zt5, qzt5, hf⟩ := gb_el hf
  refine gx_getI X hw qzt5 clX0 (by decide) mf_X0_15 dX0_copyFrom_19 ?_
  obtain ⟨zh6, qzh6, hf⟩ := gb_el hf
  refine gx_putV X hw qzh6 clX0 (by decide) mf_X0_15 rfl rfl rfl dX0_copyFrom_22 (fun H locs hw => ?_)
  refine lv_aload_n hx hb dX0_copyFrom_25 rfl (lv_at hl 0 rfl) ?_
  refine lv_aload_n hx hb dX0_copyFrom_26 rfl (lv_at hl 1 rfl) ?_
  obtain ⟨zt7, qzt7, hf⟩ := gb_el hf
  refine gx_getI X hw qzt7 clX0 (by decide) mf_X0_19 dX0_copyFrom_27 ?_
  obtain ⟨zh8, qzh8, hf⟩ := gb_el hf
  refine gx_putV X hw qzh8 clX0 (by decide) mf_X0_19 rfl rfl rfl dX0_copyFrom_30 (fun H locs hw => ?_)
  exact gx_vret X hr hlk hw hf dX0_copyFrom_33
abbrev rm_X0_beginChain : Room := { frames := 1, cells := 0, slots := 0, locals := 21 }
set_option maxHeartbeats 4000000 in
set_option maxRecDepth 100000 in
theorem c_X0_beginChain (l : Launch) (E : gE) (N : Nat) (za0 : Nat) (za1 : Int32) (zh : PH) {h9 : PH} (hf : f_X0_beginChain N za0 za1 zh = some h9) : Met l yX0_beginChain (gWS yX0_beginChain cX0_beginChain 2 none) rm_X0_beginChain (gPc E [.ref (gB E + za0), .int za1] zh) (gQv E h9) 0 0 (gA E) := by
  refine gx_met (by decide) ?_ rfl
  intro p e s m below meth c X hr hlk hin2 hw
  have hx := X.1.1
  have hb := X.1.2.1
  have hl := lv_entry [.ref (gB E + za0), .int za1] (n := 2) (Nat.le_of_ble_eq_true rfl)
  rw [lg_entry_eq]
  generalize (lg_sl [.ref (gB E + za0), .int za1] ++ List.replicate (2 - (lg_sl [.ref (gB E + za0), .int za1]).length) Slot.unset).toArray = ls at hl ⊢
  have hl : lv_has ls 2 [(0, .ref (gB E + za0)), (1, .int za1)] := hl
  unfold f_X0_beginChain at hf
  refine lv_aload_n hx hb dX0_beginChain_0 rfl (lv_at hl 0 rfl) ?_
  refine lv_aload_n hx hb dX0_beginChain_1 rfl (lv_at hl 0 rfl) ?_
  obtain ⟨zt1, qzt1, hf⟩ := gb_el hf
  refine gx_getI X hw qzt1 clX0 (by decide) mf_X0_19 dX0_beginChain_2 ?_
  refine lv_iload_n hx hb dX0_beginChain_5 rfl (lv_at hl 1 rfl) ?_
  refine gx_max X mm_X0_28 mt_max mI_java_lang_Math mx_max hl.1 (Nat.le_of_ble_eq_true rfl) (Nat.le_of_ble_eq_true rfl) (Nat.le_of_ble_eq_true rfl) (Nat.le_of_ble_eq_true rfl) dX0_beginChain_6 ?_
  obtain ⟨zh2, qzh2, hf⟩ := gb_el hf
  refine gx_putV X hw qzh2 clX0 (by decide) mf_X0_19 rfl rfl rfl dX0_beginChain_9 (fun H locs hw => ?_)
  exact gx_vret X hr hlk hw hf dX0_beginChain_12
abbrev rm_X0_write : Room := { frames := 0, cells := 0, slots := 0, locals := 0 }
set_option maxHeartbeats 4000000 in
set_option maxRecDepth 100000 in
theorem c_X0_write (l : Launch) (E : gE) (N : Nat) (za0 : Nat) (za1 : Int32) (za2 : Int32) (za3 : Int32) (za4 : Int32) (zh : PH) {h9 : PH} (hf : f_X0_write N za0 za1 za2 za3 za4 zh = some h9) : Met l yX0_write (gWS yX0_write cX0_write 7 none) rm_X0_write (gPc E [.ref (gB E + za0), .int za1, .int za2, .int za3, .int za4] zh) (gQv E h9) 0 0 (gA E) := by
  refine gx_met (by decide) ?_ rfl
  intro p e s m below meth c X hr hlk hin2 hw
  have hx := X.1.1
  have hb := X.1.2.1
  have hl := lv_entry [.ref (gB E + za0), .int za1, .int za2, .int za3, .int za4] (n := 7) (Nat.le_of_ble_eq_true rfl)
  rw [lg_entry_eq]
  generalize (lg_sl [.ref (gB E + za0), .int za1, .int za2, .int za3, .int za4] ++ List.replicate (7 - (lg_sl [.ref (gB E + za0), .int za1, .int za2, .int za3, .int za4]).length) Slot.unset).toArray = ls at hl ⊢
  have hl : lv_has ls 7 [(0, .ref (gB E + za0)), (1, .int za1), (2, .int za2), (3, .int za3), (4, .int za4)] := hl
  have J_78 : ∀ (zh : PH) (H : Heap) (locs : List Loc) (ls : Array Slot), f_X0_write_78 N zh = some h9 → gw E s zh H locs → lv_has ls 7 [] → W p l e rm_X0_write s m [.ref (gB E + za0), .int za1, .int za2, .int za3, .int za4].toArray below meth c H locs 0 0 (MQ below (gQv E h9) [.ref (gB E + za0), .int za1, .int za2, .int za3, .int za4].toArray s 0 0 (gA E)) (F0 m 78 ls []) := by
    intro zh H locs ls hf hw hl
    unfold f_X0_write_78 at hf
    exact gx_vret X hr hlk hw hf dX0_write_78
  unfold f_X0_write at hf
  refine lv_aload_n hx hb dX0_write_0 rfl (lv_at hl 0 rfl) ?_
  obtain ⟨zt1, qzt1, hf⟩ := gb_el hf
  refine gx_getI X hw qzt1 clX0 (by decide) mf_X0_15 dX0_write_1 ?_
  refine lv_sipush (v := 1000) hx hb dX0_write_4 (by decide) ?_
  refine lv_icmp_ge (tgt := 78) hx hb dX0_write_7 (by decide) (fun qc2 => ?_) (fun qc2 => ?_)
  · have hf := gif_t hf qc2
    exact J_78  _ _ _ ls hf hw (lv_sub hl [] rfl)
  · have hf := gif_f hf qc2
    refine lv_iload_n hx hb dX0_write_10 rfl (lv_at hl 1 rfl) ?_
    refine lv_bipush (v := 16) hx hb dX0_write_11 (by decide) ?_
    refine lv_imul hx hb dX0_write_13 ?_
    refine lv_iload_n hx hb dX0_write_14 rfl (lv_at hl 2 rfl) ?_
    refine lv_iconst (v := (-1)) hx hb dX0_write_15 (by decide) ?_
    refine W.eq (g2 := F0 m 16 ls [.int (-1), .int za2, .int (za1 * 16)]) rfl ?_
    refine lv_isub hx hb dX0_write_16 ?_
    refine lv_iadd hx hb dX0_write_17 ?_
    refine lv_bipush (v := 16) hx hb dX0_write_18 (by decide) ?_
    refine lv_imul hx hb dX0_write_20 ?_
    refine lv_iload_n hx hb dX0_write_21 rfl (lv_at hl 3 rfl) ?_
    refine lv_iconst (v := (-1)) hx hb dX0_write_22 (by decide) ?_
    refine lv_isub hx hb dX0_write_23 ?_
    refine lv_iadd hx hb dX0_write_24 ?_
    refine lv_i2l hx hb dX0_write_25 rfl ?_
    refine lv_topl (fun zx3 ezx3 => ?_)
    have hf := gl_el hf ezx3
    refine lv_lstore (lv' := [(5, .long zx3), (0, .ref (gB E + za0)), (1, .int za1), (2, .int za2), (3, .int za3), (4, .int za4)]) hx hb dX0_write_26 hl (by decide) rfl (fun ls hl => ?_)
    refine W.eq (g2 := F0 m 28 ls []) rfl ?_
    refine lv_aload_n hx hb dX0_write_28 rfl (lv_at hl 1 rfl) ?_
    obtain ⟨zt4, qzt4, hf⟩ := gb_el hf
    refine gx_getR X hw qzt4 clX0 (by decide) mf_X0_11 dX0_write_29 ?_
    refine lv_aload_n hx hb dX0_write_32 rfl (lv_at hl 1 rfl) ?_
    obtain ⟨zt5, qzt5, hf⟩ := gb_el hf
    refine gx_getI X hw qzt5 clX0 (by decide) mf_X0_15 dX0_write_33 ?_
    refine lv_aload_n hx hb dX0_write_36 rfl (lv_at hl 1 rfl) ?_
    obtain ⟨zt6, qzt6, hf⟩ := gb_el hf
    refine gx_getI X hw qzt6 clX0 (by decide) mf_X0_19 dX0_write_37 ?_
    refine lv_i2l hx hb dX0_write_40 rfl ?_
    refine lv_ldc2 (v := 256) hx hb X.1.2.2.2.1 (X.1.2.2.2.2 _ mK_X0_34) dX0_write_41 ?_
    refine lv_lmul hx hb dX0_write_44 ?_
    refine lv_iload hx hb dX0_write_45 (lv_at hl 5 rfl) ?_
    refine W.eq (g2 := F0 m 47 ls [.int za4, .long ((Int32.toInt64 zt6) * 256), .int zt5, .ref (gB E + zt4)]) rfl ?_
    refine lv_i2l hx hb dX0_write_47 rfl ?_
    refine lv_ladd hx hb dX0_write_48 ?_
    refine lv_ldc2 (v := 4096) hx hb X.1.2.2.2.1 (X.1.2.2.2.2 _ mK_X0_36) dX0_write_49 ?_
    refine lv_lmul hx hb dX0_write_52 ?_
    refine lv_lload hx hb dX0_write_53 (lv_at hl 0 rfl) ?_
    refine lv_ladd hx hb dX0_write_55 ?_
    obtain ⟨zh7, qzh7, hf⟩ := gb_el hf
    refine gx_last X hw qzh7 dX0_write_56 (fun H locs hw => ?_)
    refine lv_aload_n hx hb dX0_write_57 rfl (lv_at hl 1 rfl) ?_
    refine lv_dup hx hb dX0_write_58 rfl ?_
    obtain ⟨zt8, qzt8, hf⟩ := gb_el hf
    refine gx_getI X hw qzt8 clX0 (by decide) mf_X0_15 dX0_write_59 ?_
    refine W.eq (g2 := F0 m 62 ls [.int zt8, .ref (gB E + za0)]) rfl ?_
    refine lv_iconst (v := 1) hx hb dX0_write_62 (by decide) ?_
    refine lv_iadd hx hb dX0_write_63 ?_
    obtain ⟨zh9, qzh9, hf⟩ := gb_el hf
    refine gx_putV X hw qzh9 clX0 (by decide) mf_X0_15 rfl rfl rfl dX0_write_64 (fun H locs hw => ?_)
    refine lv_aload_n hx hb dX0_write_67 rfl (lv_at hl 1 rfl) ?_
    refine lv_dup hx hb dX0_write_68 rfl ?_
    obtain ⟨zt10, qzt10, hf⟩ := gb_el hf
    refine gx_getI X hw qzt10 clX0 (by decide) mf_X0_19 dX0_write_69 ?_
    refine lv_iload hx hb dX0_write_72 (lv_at hl 5 rfl) ?_
    refine lv_iadd hx hb dX0_write_74 ?_
    obtain ⟨zh11, qzh11, hf⟩ := gb_el hf
    refine gx_putV X hw qzh11 clX0 (by decide) mf_X0_19 rfl rfl rfl dX0_write_75 (fun H locs hw => ?_)
    exact J_78  _ _ _ ls hf hw (lv_sub hl [] rfl)
abbrev rm_X0_beginAt : Room := { frames := 0, cells := 0, slots := 0, locals := 0 }
set_option maxHeartbeats 4000000 in
set_option maxRecDepth 100000 in
theorem c_X0_beginAt (l : Launch) (E : gE) (N : Nat) (za0 : Nat) (za1 : Int32) (zh : PH) {h9 : PH} {r9 : Int32} (hf : f_X0_beginAt N za0 za1 zh = some (r9, h9)) : Met l yX0_beginAt (gWS yX0_beginAt cX0_beginAt 2 (some .int)) rm_X0_beginAt (gPc E [.ref (gB E + za0), .int za1] zh) (gQi E r9 h9) 0 0 (gA E) := by
  refine gx_met (by decide) ?_ rfl
  intro p e s m below meth c X hr hlk hin2 hw
  have hx := X.1.1
  have hb := X.1.2.1
  have hl := lv_entry [.ref (gB E + za0), .int za1] (n := 2) (Nat.le_of_ble_eq_true rfl)
  rw [lg_entry_eq]
  generalize (lg_sl [.ref (gB E + za0), .int za1] ++ List.replicate (2 - (lg_sl [.ref (gB E + za0), .int za1]).length) Slot.unset).toArray = ls at hl ⊢
  have hl : lv_has ls 2 [(0, .ref (gB E + za0)), (1, .int za1)] := hl
  unfold f_X0_beginAt at hf
  refine lv_aload_n hx hb dX0_beginAt_0 rfl (lv_at hl 0 rfl) ?_
  obtain ⟨zt1, qzt1, hf⟩ := gb_el hf
  refine gx_getR X hw qzt1 clX0 (by decide) mf_X0_11 dX0_beginAt_1 ?_
  refine lv_iload_n hx hb dX0_beginAt_4 rfl (lv_at hl 1 rfl) ?_
  obtain ⟨zt2, qzt2, hf⟩ := gb_el hf
  refine gx_lald X hw qzt2 dX0_beginAt_5 ?_
  refine lv_bipush (v := 20) hx hb dX0_beginAt_6 (by decide) ?_
  refine lv_lshr hx hb dX0_beginAt_8 rfl ?_
  refine lv_l2i hx hb dX0_beginAt_9 rfl ?_
  exact gx_iret X hr hlk hw hf dX0_beginAt_10
abbrev rm_X0_endAt : Room := { frames := 1, cells := 0, slots := 0, locals := 21 }
set_option maxHeartbeats 4000000 in
set_option maxRecDepth 100000 in
theorem c_X0_endAt (l : Launch) (E : gE) (N : Nat) (za0 : Nat) (za1 : Int32) (zh : PH) {h9 : PH} {r9 : Int32} (hf : f_X0_endAt N za0 za1 zh = some (r9, h9)) : Met l yX0_endAt (gWS yX0_endAt cX0_endAt 2 (some .int)) rm_X0_endAt (gPc E [.ref (gB E + za0), .int za1] zh) (gQi E r9 h9) 0 0 (gA E) := by
  refine gx_met (by decide) ?_ rfl
  intro p e s m below meth c X hr hlk hin2 hw
  have hx := X.1.1
  have hb := X.1.2.1
  have hl := lv_entry [.ref (gB E + za0), .int za1] (n := 2) (Nat.le_of_ble_eq_true rfl)
  rw [lg_entry_eq]
  generalize (lg_sl [.ref (gB E + za0), .int za1] ++ List.replicate (2 - (lg_sl [.ref (gB E + za0), .int za1]).length) Slot.unset).toArray = ls at hl ⊢
  have hl : lv_has ls 2 [(0, .ref (gB E + za0)), (1, .int za1)] := hl
  unfold f_X0_endAt at hf
  refine lv_aload_n hx hb dX0_endAt_0 rfl (lv_at hl 0 rfl) ?_
  refine lv_iload_n hx hb dX0_endAt_1 rfl (lv_at hl 1 rfl) ?_
  obtain ⟨qizh1, hf⟩ := gg_el hf
  obtain ⟨zt2, zh1, qzh1, hf⟩ := gc_el hf
  refine gx_ki (gx_runV (As := [.int za1]) (rest := []) X hw (c_X0_beginAt l E N za0 za1 zh qzh1) kX0_beginAt mm_X0_42 qizh1 clX0 ⟨Nat.le_of_ble_eq_true rfl, Nat.le_of_ble_eq_true rfl⟩ rfl rfl rfl hl.1 (Nat.le_of_ble_eq_true rfl) rfl dX0_endAt_2 ⟨Nat.le_of_ble_eq_true rfl, Nat.le_of_ble_eq_true rfl⟩) hw (fun H locs hw => ?_)
  refine lv_aload_n hx hb dX0_endAt_5 rfl (lv_at hl 0 rfl) ?_
  obtain ⟨zt3, qzt3, hf⟩ := gb_el hf
  refine gx_getR X hw qzt3 clX0 (by decide) mf_X0_11 dX0_endAt_6 ?_
  refine lv_iload_n hx hb dX0_endAt_9 rfl (lv_at hl 1 rfl) ?_
  obtain ⟨zt4, qzt4, hf⟩ := gb_el hf
  refine gx_lald X hw qzt4 dX0_endAt_10 ?_
  refine lv_bipush (v := 12) hx hb dX0_endAt_11 (by decide) ?_
  refine lv_lshr hx hb dX0_endAt_13 rfl ?_
  refine W.eq (g2 := F0 m 14 ls [.long (zt4 >>> (Int32.toInt64 12 &&& 63)), .int zt2]) rfl ?_
  refine lv_l2i hx hb dX0_endAt_14 rfl ?_
  refine lv_sipush (v := 255) hx hb dX0_endAt_15 (by decide) ?_
  refine lv_iand hx hb dX0_endAt_18 ?_
  refine lv_iadd hx hb dX0_endAt_19 ?_
  exact gx_iret X hr hlk hw hf dX0_endAt_20
abbrev rm_X0_guestAt : Room := { frames := 0, cells := 0, slots := 0, locals := 0 }
set_option maxHeartbeats 4000000 in
set_option maxRecDepth 100000 in
theorem c_X0_guestAt (l : Launch) (E : gE) (N : Nat) (za0 : Nat) (za1 : Int32) (zh : PH) {h9 : PH} {r9 : Int32} (hf : f_X0_guestAt N za0 za1 zh = some (r9, h9)) : Met l yX0_guestAt (gWS yX0_guestAt cX0_guestAt 2 (some .int)) rm_X0_guestAt (gPc E [.ref (gB E + za0), .int za1] zh) (gQi E r9 h9) 0 0 (gA E) := by
  refine gx_met (by decide) ?_ rfl
  intro p e s m below meth c X hr hlk hin2 hw
  have hx := X.1.1
  have hb := X.1.2.1
  have hl := lv_entry [.ref (gB E + za0), .int za1] (n := 2) (Nat.le_of_ble_eq_true rfl)
  rw [lg_entry_eq]
  generalize (lg_sl [.ref (gB E + za0), .int za1] ++ List.replicate (2 - (lg_sl [.ref (gB E + za0), .int za1]).length) Slot.unset).toArray = ls at hl ⊢
  have hl : lv_has ls 2 [(0, .ref (gB E + za0)), (1, .int za1)] := hl
  unfold f_X0_guestAt at hf
  refine lv_aload_n hx hb dX0_guestAt_0 rfl (lv_at hl 0 rfl) ?_
  obtain ⟨zt1, qzt1, hf⟩ := gb_el hf
  refine gx_getR X hw qzt1 clX0 (by decide) mf_X0_11 dX0_guestAt_1 ?_
  refine lv_iload_n hx hb dX0_guestAt_4 rfl (lv_at hl 1 rfl) ?_
  obtain ⟨zt2, qzt2, hf⟩ := gb_el hf
  refine gx_lald X hw qzt2 dX0_guestAt_5 ?_
  refine lv_bipush (v := 8) hx hb dX0_guestAt_6 (by decide) ?_
  refine lv_lshr hx hb dX0_guestAt_8 rfl ?_
  refine lv_l2i hx hb dX0_guestAt_9 rfl ?_
  refine lv_bipush (v := 15) hx hb dX0_guestAt_10 (by decide) ?_
  refine lv_iand hx hb dX0_guestAt_12 ?_
  refine W.eq (g2 := F0 m 13 ls [.int ((Int64.toInt32 (zt2 >>> (Int32.toInt64 8 &&& 63))) &&& 15)]) rfl ?_
  exact gx_iret X hr hlk hw hf dX0_guestAt_13
abbrev rm_X0_toAt : Room := { frames := 0, cells := 0, slots := 0, locals := 0 }
set_option maxHeartbeats 4000000 in
set_option maxRecDepth 100000 in
theorem c_X0_toAt (l : Launch) (E : gE) (N : Nat) (za0 : Nat) (za1 : Int32) (zh : PH) {h9 : PH} {r9 : Int32} (hf : f_X0_toAt N za0 za1 zh = some (r9, h9)) : Met l yX0_toAt (gWS yX0_toAt cX0_toAt 2 (some .int)) rm_X0_toAt (gPc E [.ref (gB E + za0), .int za1] zh) (gQi E r9 h9) 0 0 (gA E) := by
  refine gx_met (by decide) ?_ rfl
  intro p e s m below meth c X hr hlk hin2 hw
  have hx := X.1.1
  have hb := X.1.2.1
  have hl := lv_entry [.ref (gB E + za0), .int za1] (n := 2) (Nat.le_of_ble_eq_true rfl)
  rw [lg_entry_eq]
  generalize (lg_sl [.ref (gB E + za0), .int za1] ++ List.replicate (2 - (lg_sl [.ref (gB E + za0), .int za1]).length) Slot.unset).toArray = ls at hl ⊢
  have hl : lv_has ls 2 [(0, .ref (gB E + za0)), (1, .int za1)] := hl
  unfold f_X0_toAt at hf
  refine lv_aload_n hx hb dX0_toAt_0 rfl (lv_at hl 0 rfl) ?_
  obtain ⟨zt1, qzt1, hf⟩ := gb_el hf
  refine gx_getR X hw qzt1 clX0 (by decide) mf_X0_11 dX0_toAt_1 ?_
  refine lv_iload_n hx hb dX0_toAt_4 rfl (lv_at hl 1 rfl) ?_
  obtain ⟨zt2, qzt2, hf⟩ := gb_el hf
  refine gx_lald X hw qzt2 dX0_toAt_5 ?_
  refine lv_l2i hx hb dX0_toAt_6 rfl ?_
  refine lv_bipush (v := 15) hx hb dX0_toAt_7 (by decide) ?_
  refine lv_iand hx hb dX0_toAt_9 ?_
  refine lv_iconst (v := (-1)) hx hb dX0_toAt_10 (by decide) ?_
  refine lv_iadd hx hb dX0_toAt_11 ?_
  refine W.eq (g2 := F0 m 12 ls [.int (((Int64.toInt32 zt2) &&& 15) + (-1))]) rfl ?_
  exact gx_iret X hr hlk hw hf dX0_toAt_12
abbrev rm_X0_placeOf : Room := { frames := 2, cells := 0, slots := 0, locals := 42 }
set_option maxHeartbeats 4000000 in
set_option maxRecDepth 100000 in
theorem c_X0_placeOf (l : Launch) (E : gE) (N : Nat) (za0 : Nat) (za1 : Int32) (za2 : Int32) (zh : PH) {h9 : PH} {r9 : Int32} (hf : f_X0_placeOf N za0 za1 za2 zh = some (r9, h9)) : Met l yX0_placeOf (gWS yX0_placeOf cX0_placeOf 4 (some .int)) rm_X0_placeOf (gPc E [.ref (gB E + za0), .int za1, .int za2] zh) (gQi E r9 h9) 0 0 (gA E) := by
  refine gx_met (by decide) ?_ rfl
  intro p e s m below meth c X hr hlk hin2 hw
  have hx := X.1.1
  have hb := X.1.2.1
  have hl := lv_entry [.ref (gB E + za0), .int za1, .int za2] (n := 4) (Nat.le_of_ble_eq_true rfl)
  rw [lg_entry_eq]
  generalize (lg_sl [.ref (gB E + za0), .int za1, .int za2] ++ List.replicate (4 - (lg_sl [.ref (gB E + za0), .int za1, .int za2]).length) Slot.unset).toArray = ls at hl ⊢
  have hl : lv_has ls 4 [(0, .ref (gB E + za0)), (1, .int za1), (2, .int za2)] := hl
  have J_48 : ∀ (zs0 : Int32) (zh : PH) (H : Heap) (locs : List Loc) (ls : Array Slot), f_X0_placeOf_48 N zs0 zh = some (r9, h9) → gw E s zh H locs → lv_has ls 4 [] → W p l e rm_X0_placeOf s m [.ref (gB E + za0), .int za1, .int za2].toArray below meth c H locs 0 0 (MQ below (gQi E r9 h9) [.ref (gB E + za0), .int za1, .int za2].toArray s 0 0 (gA E)) (F0 m 48 ls [.int zs0]) := by
    intro zs0 zh H locs ls hf hw hl
    unfold f_X0_placeOf_48 at hf
    exact gx_iret X hr hlk hw hf dX0_placeOf_48
  have L_7 : ∀ (zn7 : Nat) (zv0 : Nat) (zv1 : Int32) (zv2 : Int32) (zv3 : Int32) (zh : PH) (H : Heap) (locs : List Loc) (ls : Array Slot), gi (fun zk zs => f_X0_placeOf_7 N zk zs.1 zs.2.1 zs.2.2.1 zs.2.2.2.1 zs.2.2.2.2) zn7 (zv0, zv1, zv2, zv3, zh) = some (r9, h9) → gw E s zh H locs → lv_has ls 4 [(0, .ref (gB E + zv0)), (1, .int zv1), (2, .int zv2), (3, .int zv3)] → W p l e rm_X0_placeOf s m [.ref (gB E + za0), .int za1, .int za2].toArray below meth c H locs 0 0 (MQ below (gQi E r9 h9) [.ref (gB E + za0), .int za1, .int za2].toArray s 0 0 (gA E)) (F0 m 7 ls []) := by
    intro zn7
    induction zn7 with
    | zero =>
      intro zv0 zv1 zv2 zv3 zh H locs ls hf
      cases hf
    | succ zn7 ih_7 =>
      have J_49 : ∀ (zv0 : Nat) (zv1 : Int32) (zv2 : Int32) (zv3 : Int32) (zh : PH) (H : Heap) (locs : List Loc) (ls : Array Slot), f_X0_placeOf_49 N (gi (fun zk zs => f_X0_placeOf_7 N zk zs.1 zs.2.1 zs.2.2.1 zs.2.2.2.1 zs.2.2.2.2) zn7) zv0 zv1 zv2 zv3 zh = some (r9, h9) → gw E s zh H locs → lv_has ls 4 [(0, .ref (gB E + zv0)), (1, .int zv1), (2, .int zv2), (3, .int zv3)] → W p l e rm_X0_placeOf s m [.ref (gB E + za0), .int za1, .int za2].toArray below meth c H locs 0 0 (MQ below (gQi E r9 h9) [.ref (gB E + za0), .int za1, .int za2].toArray s 0 0 (gA E)) (F0 m 49 ls []) := by
        intro zv0 zv1 zv2 zv3 zh H locs ls hf hw hl
        unfold f_X0_placeOf_49 at hf
        obtain ⟨zx1, ezx1⟩ : ∃ y : Int32, y = zv3 + (-1) := ⟨_, rfl⟩
        have hf := gl_el hf ezx1
        refine lv_iinc (v := zx1) (lv' := [(3, .int zx1), (0, .ref (gB E + zv0)), (1, .int zv1), (2, .int zv2)]) hx hb dX0_placeOf_49 hl (k := 3) rfl (by rw [ezx1]; rfl) (by decide) rfl (fun ls hl => ?_)
        refine lv_goto (tgt := 7) hx hb dX0_placeOf_52 (by decide) ?_
        exact ih_7 zv0 zv1 zv2 zx1 _ _ _ ls hf hw (lv_sub hl [1, 2, 3, 0] rfl)
      intro zv0 zv1 zv2 zv3 zh H locs ls hf hw hl
      have hf := gi_s hf
      dsimp only at hf
      unfold f_X0_placeOf_7 at hf
      refine lv_iload_n hx hb dX0_placeOf_7 rfl (lv_at hl 3 rfl) ?_
      refine lv_if_lt (tgt := 55) hx hb dX0_placeOf_8 (by decide) (fun qc1 => ?_) (fun qc1 => ?_)
      · have hf := gif_t hf qc1
        refine lv_iconst (v := (-1)) hx hb dX0_placeOf_55 (by decide) ?_
        exact gx_iret X hr hlk hw hf dX0_placeOf_56
      · have hf := gif_f hf qc1
        refine lv_aload_n hx hb dX0_placeOf_11 rfl (lv_at hl 0 rfl) ?_
        refine lv_iload_n hx hb dX0_placeOf_12 rfl (lv_at hl 3 rfl) ?_
        obtain ⟨qizh2, hf⟩ := gg_el hf
        obtain ⟨zt3, zh2, qzh2, hf⟩ := gc_el hf
        refine gx_ki (gx_runV (As := [.int zv3]) (rest := []) X hw (c_X0_guestAt l E N zv0 zv3 zh qzh2) kX0_guestAt mm_X0_38 qizh2 clX0 ⟨Nat.le_of_ble_eq_true rfl, Nat.le_of_ble_eq_true rfl⟩ rfl rfl rfl hl.1 (Nat.le_of_ble_eq_true rfl) rfl dX0_placeOf_13 ⟨Nat.le_of_ble_eq_true rfl, Nat.le_of_ble_eq_true rfl⟩) hw (fun H locs hw => ?_)
        refine lv_iload_n hx hb dX0_placeOf_16 rfl (lv_at hl 1 rfl) ?_
        refine lv_icmp_ne (tgt := 49) hx hb dX0_placeOf_17 (by decide) (fun qc4 => ?_) (fun qc4 => ?_)
        · have hf := gif_f hf qc4
          exact J_49 zv0 zv1 zv2 zv3 _ _ _ ls hf hw (lv_sub hl [0, 1, 2, 3] rfl)
        · have hf := gif_t hf qc4
          refine lv_aload_n hx hb dX0_placeOf_20 rfl (lv_at hl 0 rfl) ?_
          refine lv_iload_n hx hb dX0_placeOf_21 rfl (lv_at hl 3 rfl) ?_
          refine W.eq (g2 := F0 m 22 ls [.int zv3, .ref (gB E + zv0)]) rfl ?_
          obtain ⟨qizh5, hf⟩ := gg_el hf
          obtain ⟨zt6, zh5, qzh5, hf⟩ := gc_el hf
          refine gx_ki (gx_runV (As := [.int zv3]) (rest := []) X hw (c_X0_beginAt l E N zv0 zv3 zh2 qzh5) kX0_beginAt mm_X0_42 qizh5 clX0 ⟨Nat.le_of_ble_eq_true rfl, Nat.le_of_ble_eq_true rfl⟩ rfl rfl rfl hl.1 (Nat.le_of_ble_eq_true rfl) rfl dX0_placeOf_22 ⟨Nat.le_of_ble_eq_true rfl, Nat.le_of_ble_eq_true rfl⟩) hw (fun H locs hw => ?_)
          refine lv_iload_n hx hb dX0_placeOf_25 rfl (lv_at hl 2 rfl) ?_
          refine lv_icmp_gt (tgt := 49) hx hb dX0_placeOf_26 (by decide) (fun qc7 => ?_) (fun qc7 => ?_)
          · have hf := gif_t hf qc7
            exact J_49 zv0 zv1 zv2 zv3 _ _ _ ls hf hw (lv_sub hl [0, 1, 2, 3] rfl)
          · have hf := gif_f hf qc7
            refine lv_aload_n hx hb dX0_placeOf_29 rfl (lv_at hl 0 rfl) ?_
            refine lv_iload_n hx hb dX0_placeOf_30 rfl (lv_at hl 3 rfl) ?_
            obtain ⟨qizh8, hf⟩ := gg_el hf
            obtain ⟨zt9, zh8, qzh8, hf⟩ := gc_el hf
            refine gx_ki (gx_runV (As := [.int zv3]) (rest := []) X hw (c_X0_endAt l E N zv0 zv3 zh5 qzh8) kX0_endAt mm_X0_45 qizh8 clX0 ⟨Nat.le_of_ble_eq_true rfl, Nat.le_of_ble_eq_true rfl⟩ rfl rfl rfl hl.1 (Nat.le_of_ble_eq_true rfl) rfl dX0_placeOf_31 ⟨Nat.le_of_ble_eq_true rfl, Nat.le_of_ble_eq_true rfl⟩) hw (fun H locs hw => ?_)
            refine lv_iload_n hx hb dX0_placeOf_34 rfl (lv_at hl 2 rfl) ?_
            refine lv_icmp_gt (tgt := 46) hx hb dX0_placeOf_35 (by decide) (fun qc10 => ?_) (fun qc10 => ?_)
            · have hf := gif_t hf qc10
              refine lv_bipush (v := (-2)) hx hb dX0_placeOf_46 (by decide) ?_
              exact J_48 (-2) _ _ _ ls hf hw (lv_sub hl [] rfl)
            · have hf := gif_f hf qc10
              refine lv_aload_n hx hb dX0_placeOf_38 rfl (lv_at hl 0 rfl) ?_
              refine lv_iload_n hx hb dX0_placeOf_39 rfl (lv_at hl 3 rfl) ?_
              refine W.eq (g2 := F0 m 40 ls [.int zv3, .ref (gB E + zv0)]) rfl ?_
              obtain ⟨qizh11, hf⟩ := gg_el hf
              obtain ⟨zt12, zh11, qzh11, hf⟩ := gc_el hf
              refine gx_ki (gx_runV (As := [.int zv3]) (rest := []) X hw (c_X0_toAt l E N zv0 zv3 zh8 qzh11) kX0_toAt mm_X0_48 qizh11 clX0 ⟨Nat.le_of_ble_eq_true rfl, Nat.le_of_ble_eq_true rfl⟩ rfl rfl rfl hl.1 (Nat.le_of_ble_eq_true rfl) rfl dX0_placeOf_40 ⟨Nat.le_of_ble_eq_true rfl, Nat.le_of_ble_eq_true rfl⟩) hw (fun H locs hw => ?_)
              refine lv_goto (tgt := 48) hx hb dX0_placeOf_43 (by decide) ?_
              exact J_48 zt12 _ _ _ ls hf hw (lv_sub hl [] rfl)
  unfold f_X0_placeOf at hf
  refine lv_aload_n hx hb dX0_placeOf_0 rfl (lv_at hl 0 rfl) ?_
  obtain ⟨zt1, qzt1, hf⟩ := gb_el hf
  refine gx_getI X hw qzt1 clX0 (by decide) mf_X0_15 dX0_placeOf_1 ?_
  refine lv_iconst (v := 1) hx hb dX0_placeOf_4 (by decide) ?_
  refine lv_isub hx hb dX0_placeOf_5 ?_
  refine lv_topi (fun zx2 ezx2 => ?_)
  have hf := gl_el hf ezx2
  refine lv_istore_n (lv' := [(3, .int zx2), (0, .ref (gB E + za0)), (1, .int za1), (2, .int za2)]) hx hb dX0_placeOf_6 rfl hl (by decide) rfl (fun ls hl => ?_)
  exact L_7 N za0 za1 za2 zx2 _ _ _ ls hf hw (lv_sub hl [1, 2, 3, 0] rfl)
abbrev rm_X0_fromAt : Room := { frames := 0, cells := 0, slots := 0, locals := 0 }
set_option maxHeartbeats 4000000 in
set_option maxRecDepth 100000 in
theorem c_X0_fromAt (l : Launch) (E : gE) (N : Nat) (za0 : Nat) (za1 : Int32) (zh : PH) {h9 : PH} {r9 : Int32} (hf : f_X0_fromAt N za0 za1 zh = some (r9, h9)) : Met l yX0_fromAt (gWS yX0_fromAt cX0_fromAt 2 (some .int)) rm_X0_fromAt (gPc E [.ref (gB E + za0), .int za1] zh) (gQi E r9 h9) 0 0 (gA E) := by
  refine gx_met (by decide) ?_ rfl
  intro p e s m below meth c X hr hlk hin2 hw
  have hx := X.1.1
  have hb := X.1.2.1
  have hl := lv_entry [.ref (gB E + za0), .int za1] (n := 2) (Nat.le_of_ble_eq_true rfl)
  rw [lg_entry_eq]
  generalize (lg_sl [.ref (gB E + za0), .int za1] ++ List.replicate (2 - (lg_sl [.ref (gB E + za0), .int za1]).length) Slot.unset).toArray = ls at hl ⊢
  have hl : lv_has ls 2 [(0, .ref (gB E + za0)), (1, .int za1)] := hl
  unfold f_X0_fromAt at hf
  refine lv_aload_n hx hb dX0_fromAt_0 rfl (lv_at hl 0 rfl) ?_
  obtain ⟨zt1, qzt1, hf⟩ := gb_el hf
  refine gx_getR X hw qzt1 clX0 (by decide) mf_X0_11 dX0_fromAt_1 ?_
  refine lv_iload_n hx hb dX0_fromAt_4 rfl (lv_at hl 1 rfl) ?_
  obtain ⟨zt2, qzt2, hf⟩ := gb_el hf
  refine gx_lald X hw qzt2 dX0_fromAt_5 ?_
  refine lv_iconst (v := 4) hx hb dX0_fromAt_6 (by decide) ?_
  refine lv_lshr hx hb dX0_fromAt_7 rfl ?_
  refine lv_l2i hx hb dX0_fromAt_8 rfl ?_
  refine lv_bipush (v := 15) hx hb dX0_fromAt_9 (by decide) ?_
  refine lv_iand hx hb dX0_fromAt_11 ?_
  refine W.eq (g2 := F0 m 12 ls [.int ((Int64.toInt32 (zt2 >>> (Int32.toInt64 4 &&& 63))) &&& 15)]) rfl ?_
  refine lv_iconst (v := (-1)) hx hb dX0_fromAt_12 (by decide) ?_
  refine lv_iadd hx hb dX0_fromAt_13 ?_
  exact gx_iret X hr hlk hw hf dX0_fromAt_14
abbrev rm_X0_occupantOf : Room := { frames := 2, cells := 0, slots := 0, locals := 42 }
set_option maxHeartbeats 4000000 in
set_option maxRecDepth 100000 in
theorem c_X0_occupantOf (l : Launch) (E : gE) (N : Nat) (za0 : Nat) (za1 : Int32) (za2 : Int32) (zh : PH) {h9 : PH} {r9 : Int32} (hf : f_X0_occupantOf N za0 za1 za2 zh = some (r9, h9)) : Met l yX0_occupantOf (gWS yX0_occupantOf cX0_occupantOf 4 (some .int)) rm_X0_occupantOf (gPc E [.ref (gB E + za0), .int za1, .int za2] zh) (gQi E r9 h9) 0 0 (gA E) := by
  refine gx_met (by decide) ?_ rfl
  intro p e s m below meth c X hr hlk hin2 hw
  have hx := X.1.1
  have hb := X.1.2.1
  have hl := lv_entry [.ref (gB E + za0), .int za1, .int za2] (n := 4) (Nat.le_of_ble_eq_true rfl)
  rw [lg_entry_eq]
  generalize (lg_sl [.ref (gB E + za0), .int za1, .int za2] ++ List.replicate (4 - (lg_sl [.ref (gB E + za0), .int za1, .int za2]).length) Slot.unset).toArray = ls at hl ⊢
  have hl : lv_has ls 4 [(0, .ref (gB E + za0)), (1, .int za1), (2, .int za2)] := hl
  have L_7 : ∀ (zn7 : Nat) (zv0 : Nat) (zv1 : Int32) (zv2 : Int32) (zv3 : Int32) (zh : PH) (H : Heap) (locs : List Loc) (ls : Array Slot), gi (fun zk zs => f_X0_occupantOf_7 N zk zs.1 zs.2.1 zs.2.2.1 zs.2.2.2.1 zs.2.2.2.2) zn7 (zv0, zv1, zv2, zv3, zh) = some (r9, h9) → gw E s zh H locs → lv_has ls 4 [(0, .ref (gB E + zv0)), (1, .int zv1), (2, .int zv2), (3, .int zv3)] → W p l e rm_X0_occupantOf s m [.ref (gB E + za0), .int za1, .int za2].toArray below meth c H locs 0 0 (MQ below (gQi E r9 h9) [.ref (gB E + za0), .int za1, .int za2].toArray s 0 0 (gA E)) (F0 m 7 ls []) := by
    intro zn7
    induction zn7 with
    | zero =>
      intro zv0 zv1 zv2 zv3 zh H locs ls hf
      cases hf
    | succ zn7 ih_7 =>
      have J_55 : ∀ (zv0 : Nat) (zv1 : Int32) (zv2 : Int32) (zv3 : Int32) (zh : PH) (H : Heap) (locs : List Loc) (ls : Array Slot), f_X0_occupantOf_55 N (gi (fun zk zs => f_X0_occupantOf_7 N zk zs.1 zs.2.1 zs.2.2.1 zs.2.2.2.1 zs.2.2.2.2) zn7) zv0 zv1 zv2 zv3 zh = some (r9, h9) → gw E s zh H locs → lv_has ls 4 [(0, .ref (gB E + zv0)), (1, .int zv1), (2, .int zv2), (3, .int zv3)] → W p l e rm_X0_occupantOf s m [.ref (gB E + za0), .int za1, .int za2].toArray below meth c H locs 0 0 (MQ below (gQi E r9 h9) [.ref (gB E + za0), .int za1, .int za2].toArray s 0 0 (gA E)) (F0 m 55 ls []) := by
        intro zv0 zv1 zv2 zv3 zh H locs ls hf hw hl
        unfold f_X0_occupantOf_55 at hf
        obtain ⟨zx1, ezx1⟩ : ∃ y : Int32, y = zv3 + (-1) := ⟨_, rfl⟩
        have hf := gl_el hf ezx1
        refine lv_iinc (v := zx1) (lv' := [(3, .int zx1), (0, .ref (gB E + zv0)), (1, .int zv1), (2, .int zv2)]) hx hb dX0_occupantOf_55 hl (k := 3) rfl (by rw [ezx1]; rfl) (by decide) rfl (fun ls hl => ?_)
        refine lv_goto (tgt := 7) hx hb dX0_occupantOf_58 (by decide) ?_
        exact ih_7 zv0 zv1 zv2 zx1 _ _ _ ls hf hw (lv_sub hl [1, 2, 3, 0] rfl)
      have J_35 : ∀ (zv0 : Nat) (zv1 : Int32) (zv2 : Int32) (zv3 : Int32) (zh : PH) (H : Heap) (locs : List Loc) (ls : Array Slot), f_X0_occupantOf_35 N (gi (fun zk zs => f_X0_occupantOf_7 N zk zs.1 zs.2.1 zs.2.2.1 zs.2.2.2.1 zs.2.2.2.2) zn7) zv0 zv1 zv2 zv3 zh = some (r9, h9) → gw E s zh H locs → lv_has ls 4 [(0, .ref (gB E + zv0)), (1, .int zv1), (2, .int zv2), (3, .int zv3)] → W p l e rm_X0_occupantOf s m [.ref (gB E + za0), .int za1, .int za2].toArray below meth c H locs 0 0 (MQ below (gQi E r9 h9) [.ref (gB E + za0), .int za1, .int za2].toArray s 0 0 (gA E)) (F0 m 35 ls []) := by
        intro zv0 zv1 zv2 zv3 zh H locs ls hf hw hl
        unfold f_X0_occupantOf_35 at hf
        refine lv_aload_n hx hb dX0_occupantOf_35 rfl (lv_at hl 0 rfl) ?_
        refine lv_iload_n hx hb dX0_occupantOf_36 rfl (lv_at hl 3 rfl) ?_
        obtain ⟨qizh1, hf⟩ := gg_el hf
        obtain ⟨zt2, zh1, qzh1, hf⟩ := gc_el hf
        refine gx_ki (gx_runV (As := [.int zv3]) (rest := []) X hw (c_X0_fromAt l E N zv0 zv3 zh qzh1) kX0_fromAt mm_X0_51 qizh1 clX0 ⟨Nat.le_of_ble_eq_true rfl, Nat.le_of_ble_eq_true rfl⟩ rfl rfl rfl hl.1 (Nat.le_of_ble_eq_true rfl) rfl dX0_occupantOf_37 ⟨Nat.le_of_ble_eq_true rfl, Nat.le_of_ble_eq_true rfl⟩) hw (fun H locs hw => ?_)
        refine lv_iload_n hx hb dX0_occupantOf_40 rfl (lv_at hl 1 rfl) ?_
        refine lv_icmp_ne (tgt := 55) hx hb dX0_occupantOf_41 (by decide) (fun qc3 => ?_) (fun qc3 => ?_)
        · have hf := gif_f hf qc3
          exact J_55 zv0 zv1 zv2 zv3 _ _ _ ls hf hw (lv_sub hl [0, 1, 2, 3] rfl)
        · have hf := gif_t hf qc3
          refine lv_aload_n hx hb dX0_occupantOf_44 rfl (lv_at hl 0 rfl) ?_
          refine lv_iload_n hx hb dX0_occupantOf_45 rfl (lv_at hl 3 rfl) ?_
          obtain ⟨qizh4, hf⟩ := gg_el hf
          obtain ⟨zt5, zh4, qzh4, hf⟩ := gc_el hf
          refine gx_ki (gx_runV (As := [.int zv3]) (rest := []) X hw (c_X0_beginAt l E N zv0 zv3 zh1 qzh4) kX0_beginAt mm_X0_42 qizh4 clX0 ⟨Nat.le_of_ble_eq_true rfl, Nat.le_of_ble_eq_true rfl⟩ rfl rfl rfl hl.1 (Nat.le_of_ble_eq_true rfl) rfl dX0_occupantOf_46 ⟨Nat.le_of_ble_eq_true rfl, Nat.le_of_ble_eq_true rfl⟩) hw (fun H locs hw => ?_)
          refine lv_iload_n hx hb dX0_occupantOf_49 rfl (lv_at hl 2 rfl) ?_
          refine W.eq (g2 := F0 m 50 ls [.int zv2, .int zt5]) rfl ?_
          refine lv_icmp_gt (tgt := 55) hx hb dX0_occupantOf_50 (by decide) (fun qc6 => ?_) (fun qc6 => ?_)
          · have hf := gif_t hf qc6
            exact J_55 zv0 zv1 zv2 zv3 _ _ _ ls hf hw (lv_sub hl [0, 1, 2, 3] rfl)
          · have hf := gif_f hf qc6
            refine lv_iconst (v := (-1)) hx hb dX0_occupantOf_53 (by decide) ?_
            exact gx_iret X hr hlk hw hf dX0_occupantOf_54
      intro zv0 zv1 zv2 zv3 zh H locs ls hf hw hl
      have hf := gi_s hf
      dsimp only at hf
      unfold f_X0_occupantOf_7 at hf
      refine lv_iload_n hx hb dX0_occupantOf_7 rfl (lv_at hl 3 rfl) ?_
      refine lv_if_lt (tgt := 61) hx hb dX0_occupantOf_8 (by decide) (fun qc1 => ?_) (fun qc1 => ?_)
      · have hf := gif_t hf qc1
        refine lv_iconst (v := (-1)) hx hb dX0_occupantOf_61 (by decide) ?_
        exact gx_iret X hr hlk hw hf dX0_occupantOf_62
      · have hf := gif_f hf qc1
        refine lv_aload_n hx hb dX0_occupantOf_11 rfl (lv_at hl 0 rfl) ?_
        refine lv_iload_n hx hb dX0_occupantOf_12 rfl (lv_at hl 3 rfl) ?_
        obtain ⟨qizh2, hf⟩ := gg_el hf
        obtain ⟨zt3, zh2, qzh2, hf⟩ := gc_el hf
        refine gx_ki (gx_runV (As := [.int zv3]) (rest := []) X hw (c_X0_toAt l E N zv0 zv3 zh qzh2) kX0_toAt mm_X0_48 qizh2 clX0 ⟨Nat.le_of_ble_eq_true rfl, Nat.le_of_ble_eq_true rfl⟩ rfl rfl rfl hl.1 (Nat.le_of_ble_eq_true rfl) rfl dX0_occupantOf_13 ⟨Nat.le_of_ble_eq_true rfl, Nat.le_of_ble_eq_true rfl⟩) hw (fun H locs hw => ?_)
        refine lv_iload_n hx hb dX0_occupantOf_16 rfl (lv_at hl 1 rfl) ?_
        refine lv_icmp_ne (tgt := 35) hx hb dX0_occupantOf_17 (by decide) (fun qc4 => ?_) (fun qc4 => ?_)
        · have hf := gif_f hf qc4
          exact J_35 zv0 zv1 zv2 zv3 _ _ _ ls hf hw (lv_sub hl [0, 1, 2, 3] rfl)
        · have hf := gif_t hf qc4
          refine lv_aload_n hx hb dX0_occupantOf_20 rfl (lv_at hl 0 rfl) ?_
          refine lv_iload_n hx hb dX0_occupantOf_21 rfl (lv_at hl 3 rfl) ?_
          refine W.eq (g2 := F0 m 22 ls [.int zv3, .ref (gB E + zv0)]) rfl ?_
          obtain ⟨qizh5, hf⟩ := gg_el hf
          obtain ⟨zt6, zh5, qzh5, hf⟩ := gc_el hf
          refine gx_ki (gx_runV (As := [.int zv3]) (rest := []) X hw (c_X0_endAt l E N zv0 zv3 zh2 qzh5) kX0_endAt mm_X0_45 qizh5 clX0 ⟨Nat.le_of_ble_eq_true rfl, Nat.le_of_ble_eq_true rfl⟩ rfl rfl rfl hl.1 (Nat.le_of_ble_eq_true rfl) rfl dX0_occupantOf_22 ⟨Nat.le_of_ble_eq_true rfl, Nat.le_of_ble_eq_true rfl⟩) hw (fun H locs hw => ?_)
          refine lv_iload_n hx hb dX0_occupantOf_25 rfl (lv_at hl 2 rfl) ?_
          refine lv_icmp_gt (tgt := 35) hx hb dX0_occupantOf_26 (by decide) (fun qc7 => ?_) (fun qc7 => ?_)
          · have hf := gif_t hf qc7
            exact J_35 zv0 zv1 zv2 zv3 _ _ _ ls hf hw (lv_sub hl [0, 1, 2, 3] rfl)
          · have hf := gif_f hf qc7
            refine lv_aload_n hx hb dX0_occupantOf_29 rfl (lv_at hl 0 rfl) ?_
            refine lv_iload_n hx hb dX0_occupantOf_30 rfl (lv_at hl 3 rfl) ?_
            obtain ⟨qizh8, hf⟩ := gg_el hf
            obtain ⟨zt9, zh8, qzh8, hf⟩ := gc_el hf
            refine gx_ki (gx_runV (As := [.int zv3]) (rest := []) X hw (c_X0_guestAt l E N zv0 zv3 zh5 qzh8) kX0_guestAt mm_X0_38 qizh8 clX0 ⟨Nat.le_of_ble_eq_true rfl, Nat.le_of_ble_eq_true rfl⟩ rfl rfl rfl hl.1 (Nat.le_of_ble_eq_true rfl) rfl dX0_occupantOf_31 ⟨Nat.le_of_ble_eq_true rfl, Nat.le_of_ble_eq_true rfl⟩) hw (fun H locs hw => ?_)
            exact gx_iret X hr hlk hw hf dX0_occupantOf_34
  unfold f_X0_occupantOf at hf
  refine lv_aload_n hx hb dX0_occupantOf_0 rfl (lv_at hl 0 rfl) ?_
  obtain ⟨zt1, qzt1, hf⟩ := gb_el hf
  refine gx_getI X hw qzt1 clX0 (by decide) mf_X0_15 dX0_occupantOf_1 ?_
  refine lv_iconst (v := 1) hx hb dX0_occupantOf_4 (by decide) ?_
  refine lv_isub hx hb dX0_occupantOf_5 ?_
  refine lv_topi (fun zx2 ezx2 => ?_)
  have hf := gl_el hf ezx2
  refine lv_istore_n (lv' := [(3, .int zx2), (0, .ref (gB E + za0)), (1, .int za1), (2, .int za2)]) hx hb dX0_occupantOf_6 rfl hl (by decide) rfl (fun ls hl => ?_)
  exact L_7 N za0 za1 za2 zx2 _ _ _ ls hf hw (lv_sub hl [1, 2, 3, 0] rfl)
abbrev rm_X0_bitIfStayed : Room := { frames := 0, cells := 0, slots := 0, locals := 0 }
set_option maxHeartbeats 4000000 in
set_option maxRecDepth 100000 in
theorem c_X0_bitIfStayed (l : Launch) (E : gE) (N : Nat) (za0 : Int32) (za1 : Int32) (za2 : Int32) (za3 : Int32) (zh : PH) {h9 : PH} {r9 : Int32} (hf : f_X0_bitIfStayed N za0 za1 za2 za3 zh = some (r9, h9)) : Met l yX0_bitIfStayed (gWS yX0_bitIfStayed cX0_bitIfStayed 4 (some .int)) rm_X0_bitIfStayed (gPc E [.int za0, .int za1, .int za2, .int za3] zh) (gQi E r9 h9) 0 0 (gA E) := by
  refine gx_met (by decide) ?_ rfl
  intro p e s m below meth c X hr hlk hin2 hw
  have hx := X.1.1
  have hb := X.1.2.1
  have hl := lv_entry [.int za0, .int za1, .int za2, .int za3] (n := 4) (Nat.le_of_ble_eq_true rfl)
  rw [lg_entry_eq]
  generalize (lg_sl [.int za0, .int za1, .int za2, .int za3] ++ List.replicate (4 - (lg_sl [.int za0, .int za1, .int za2, .int za3]).length) Slot.unset).toArray = ls at hl ⊢
  have hl : lv_has ls 4 [(0, .int za0), (1, .int za1), (2, .int za2), (3, .int za3)] := hl
  have J_22 : ∀ (zs0 : Int32) (zh : PH) (H : Heap) (locs : List Loc) (ls : Array Slot), f_X0_bitIfStayed_22 N zs0 zh = some (r9, h9) → gw E s zh H locs → lv_has ls 4 [] → W p l e rm_X0_bitIfStayed s m [.int za0, .int za1, .int za2, .int za3].toArray below meth c H locs 0 0 (MQ below (gQi E r9 h9) [.int za0, .int za1, .int za2, .int za3].toArray s 0 0 (gA E)) (F0 m 22 ls [.int zs0]) := by
    intro zs0 zh H locs ls hf hw hl
    unfold f_X0_bitIfStayed_22 at hf
    exact gx_iret X hr hlk hw hf dX0_bitIfStayed_22
  have J_21 : ∀ (zh : PH) (H : Heap) (locs : List Loc) (ls : Array Slot), f_X0_bitIfStayed_21 N zh = some (r9, h9) → gw E s zh H locs → lv_has ls 4 [] → W p l e rm_X0_bitIfStayed s m [.int za0, .int za1, .int za2, .int za3].toArray below meth c H locs 0 0 (MQ below (gQi E r9 h9) [.int za0, .int za1, .int za2, .int za3].toArray s 0 0 (gA E)) (F0 m 21 ls []) := by
    intro zh H locs ls hf hw hl
    unfold f_X0_bitIfStayed_21 at hf
    refine lv_iconst (v := 0) hx hb dX0_bitIfStayed_21 (by decide) ?_
    exact J_22 0 _ _ _ ls hf hw (lv_sub hl [] rfl)
  unfold f_X0_bitIfStayed at hf
  refine lv_iload_n hx hb dX0_bitIfStayed_0 rfl (lv_at hl 0 rfl) ?_
  refine lv_iconst (v := (-1)) hx hb dX0_bitIfStayed_1 (by decide) ?_
  refine lv_icmp_eq (tgt := 21) hx hb dX0_bitIfStayed_2 (by decide) (fun qc1 => ?_) (fun qc1 => ?_)
  · have hf := gif_t hf qc1
    exact J_21  _ _ _ ls hf hw (lv_sub hl [] rfl)
  · have hf := gif_f hf qc1
    refine lv_iload_n hx hb dX0_bitIfStayed_5 rfl (lv_at hl 1 rfl) ?_
    refine lv_iload_n hx hb dX0_bitIfStayed_6 rfl (lv_at hl 2 rfl) ?_
    refine lv_icmp_ge (tgt := 21) hx hb dX0_bitIfStayed_7 (by decide) (fun qc2 => ?_) (fun qc2 => ?_)
    · have hf := gif_t hf qc2
      exact J_21  _ _ _ ls hf hw (lv_sub hl [] rfl)
    · have hf := gif_f hf qc2
      refine lv_iload_n hx hb dX0_bitIfStayed_10 rfl (lv_at hl 2 rfl) ?_
      refine lv_iload_n hx hb dX0_bitIfStayed_11 rfl (lv_at hl 3 rfl) ?_
      refine lv_icmp_le (tgt := 21) hx hb dX0_bitIfStayed_12 (by decide) (fun qc3 => ?_) (fun qc3 => ?_)
      · have hf := gif_t hf qc3
        exact J_21  _ _ _ ls hf hw (lv_sub hl [] rfl)
      · have hf := gif_f hf qc3
        refine W.eq (g2 := F0 m 15 ls []) rfl ?_
        refine lv_iconst (v := 1) hx hb dX0_bitIfStayed_15 (by decide) ?_
        refine lv_iload_n hx hb dX0_bitIfStayed_16 rfl (lv_at hl 0 rfl) ?_
        refine lv_ishl hx hb dX0_bitIfStayed_17 ?_
        refine lv_goto (tgt := 22) hx hb dX0_bitIfStayed_18 (by decide) ?_
        exact J_22 (1 <<< (za0 &&& 31)) _ _ _ ls hf hw (lv_sub hl [] rfl)
abbrev rm_X0_occupantsWithin : Room := { frames := 2, cells := 0, slots := 0, locals := 42 }
set_option maxHeartbeats 4000000 in
set_option maxRecDepth 100000 in
theorem c_X0_occupantsWithin (l : Launch) (E : gE) (N : Nat) (za0 : Nat) (za1 : Int32) (za2 : Int32) (za3 : Int32) (zh : PH) {h9 : PH} {r9 : Int32} (hf : f_X0_occupantsWithin N za0 za1 za2 za3 zh = some (r9, h9)) : Met l yX0_occupantsWithin (gWS yX0_occupantsWithin cX0_occupantsWithin 8 (some .int)) rm_X0_occupantsWithin (gPc E [.ref (gB E + za0), .int za1, .int za2, .int za3] zh) (gQi E r9 h9) 0 0 (gA E) := by
  refine gx_met (by decide) ?_ rfl
  intro p e s m below meth c X hr hlk hin2 hw
  have hx := X.1.1
  have hb := X.1.2.1
  have hl := lv_entry [.ref (gB E + za0), .int za1, .int za2, .int za3] (n := 8) (Nat.le_of_ble_eq_true rfl)
  rw [lg_entry_eq]
  generalize (lg_sl [.ref (gB E + za0), .int za1, .int za2, .int za3] ++ List.replicate (8 - (lg_sl [.ref (gB E + za0), .int za1, .int za2, .int za3]).length) Slot.unset).toArray = ls at hl ⊢
  have hl : lv_has ls 8 [(0, .ref (gB E + za0)), (1, .int za1), (2, .int za2), (3, .int za3)] := hl
  have J_98 : ∀ (zv2 : Int32) (zv3 : Int32) (zv4 : Int32) (zv5 : Int32) (zv6 : Int32) (zh : PH) (H : Heap) (locs : List Loc) (ls : Array Slot), f_X0_occupantsWithin_98 N zv2 zv3 zv4 zv5 zv6 zh = some (r9, h9) → gw E s zh H locs → lv_has ls 8 [(2, .int zv2), (3, .int zv3), (4, .int zv4), (5, .int zv5), (6, .int zv6)] → W p l e rm_X0_occupantsWithin s m [.ref (gB E + za0), .int za1, .int za2, .int za3].toArray below meth c H locs 0 0 (MQ below (gQi E r9 h9) [.ref (gB E + za0), .int za1, .int za2, .int za3].toArray s 0 0 (gA E)) (F0 m 98 ls []) := by
    intro zv2 zv3 zv4 zv5 zv6 zh H locs ls hf hw hl
    unfold f_X0_occupantsWithin_98 at hf
    refine lv_iload hx hb dX0_occupantsWithin_98 (lv_at hl 2 rfl) ?_
    refine lv_iload hx hb dX0_occupantsWithin_100 (lv_at hl 3 rfl) ?_
    refine lv_iload hx hb dX0_occupantsWithin_102 (lv_at hl 4 rfl) ?_
    refine lv_iload_n hx hb dX0_occupantsWithin_104 rfl (lv_at hl 1 rfl) ?_
    refine lv_iconst (v := 1) hx hb dX0_occupantsWithin_105 (by decide) ?_
    refine lv_iadd hx hb dX0_occupantsWithin_106 ?_
    refine lv_iload_n hx hb dX0_occupantsWithin_107 rfl (lv_at hl 0 rfl) ?_
    obtain ⟨zt2, zh1, qzh1, hf⟩ := gc_el hf
    refine gx_ki (gx_runS (As := [.int zv5, .int zv6, .int (zv3 + 1), .int zv2]) (rest := [.int zv4]) X hw (c_X0_bitIfStayed l E N zv5 zv6 (zv3 + 1) zv2 zh qzh1) kX0_bitIfStayed mm_X0_54 ⟨Nat.le_of_ble_eq_true rfl, Nat.le_of_ble_eq_true rfl⟩ rfl rfl rfl hl.1 (Nat.le_of_ble_eq_true rfl) rfl dX0_occupantsWithin_108 ⟨Nat.le_of_ble_eq_true rfl, Nat.le_of_ble_eq_true rfl⟩) hw (fun H locs hw => ?_)
    refine lv_ior hx hb dX0_occupantsWithin_111 ?_
    refine W.eq (g2 := F0 m 112 ls [.int (zv4 ||| zt2)]) rfl ?_
    exact gx_iret X hr hlk hw hf dX0_occupantsWithin_112
  have L_12 : ∀ (zn12 : Nat) (zv0 : Nat) (zv1 : Int32) (zv2 : Int32) (zv3 : Int32) (zv4 : Int32) (zv5 : Int32) (zv6 : Int32) (zv7 : Int32) (zh : PH) (H : Heap) (locs : List Loc) (ls : Array Slot), gi (fun zk zs => f_X0_occupantsWithin_12 N zk zs.1 zs.2.1 zs.2.2.1 zs.2.2.2.1 zs.2.2.2.2.1 zs.2.2.2.2.2.1 zs.2.2.2.2.2.2.1 zs.2.2.2.2.2.2.2.1 zs.2.2.2.2.2.2.2.2) zn12 (zv0, zv1, zv2, zv3, zv4, zv5, zv6, zv7, zh) = some (r9, h9) → gw E s zh H locs → lv_has ls 8 [(0, .ref (gB E + zv0)), (1, .int zv1), (2, .int zv2), (3, .int zv3), (4, .int zv4), (5, .int zv5), (6, .int zv6), (7, .int zv7)] → W p l e rm_X0_occupantsWithin s m [.ref (gB E + za0), .int za1, .int za2, .int za3].toArray below meth c H locs 0 0 (MQ below (gQi E r9 h9) [.ref (gB E + za0), .int za1, .int za2, .int za3].toArray s 0 0 (gA E)) (F0 m 12 ls []) := by
    intro zn12
    induction zn12 with
    | zero =>
      intro zv0 zv1 zv2 zv3 zv4 zv5 zv6 zv7 zh H locs ls hf
      cases hf
    | succ zn12 ih_12 =>
      have J_92 : ∀ (zv0 : Nat) (zv1 : Int32) (zv2 : Int32) (zv3 : Int32) (zv4 : Int32) (zv5 : Int32) (zv6 : Int32) (zv7 : Int32) (zh : PH) (H : Heap) (locs : List Loc) (ls : Array Slot), f_X0_occupantsWithin_92 N (gi (fun zk zs => f_X0_occupantsWithin_12 N zk zs.1 zs.2.1 zs.2.2.1 zs.2.2.2.1 zs.2.2.2.2.1 zs.2.2.2.2.2.1 zs.2.2.2.2.2.2.1 zs.2.2.2.2.2.2.2.1 zs.2.2.2.2.2.2.2.2) zn12) zv0 zv1 zv2 zv3 zv4 zv5 zv6 zv7 zh = some (r9, h9) → gw E s zh H locs → lv_has ls 8 [(0, .ref (gB E + zv0)), (1, .int zv1), (2, .int zv2), (3, .int zv3), (4, .int zv4), (5, .int zv5), (6, .int zv6), (7, .int zv7)] → W p l e rm_X0_occupantsWithin s m [.ref (gB E + za0), .int za1, .int za2, .int za3].toArray below meth c H locs 0 0 (MQ below (gQi E r9 h9) [.ref (gB E + za0), .int za1, .int za2, .int za3].toArray s 0 0 (gA E)) (F0 m 92 ls []) := by
        intro zv0 zv1 zv2 zv3 zv4 zv5 zv6 zv7 zh H locs ls hf hw hl
        unfold f_X0_occupantsWithin_92 at hf
        obtain ⟨zx1, ezx1⟩ : ∃ y : Int32, y = zv7 + 1 := ⟨_, rfl⟩
        have hf := gl_el hf ezx1
        refine lv_iinc (v := zx1) (lv' := [(7, .int zx1), (0, .ref (gB E + zv0)), (1, .int zv1), (2, .int zv2), (3, .int zv3), (4, .int zv4), (5, .int zv5), (6, .int zv6)]) hx hb dX0_occupantsWithin_92 hl (k := 7) rfl (by rw [ezx1]; rfl) (by decide) rfl (fun ls hl => ?_)
        refine lv_goto (tgt := 12) hx hb dX0_occupantsWithin_95 (by decide) ?_
        exact ih_12 zv0 zv1 zv2 zv3 zv4 zv5 zv6 zx1 _ _ _ ls hf hw (lv_sub hl [1, 2, 3, 4, 5, 6, 7, 0] rfl)
      intro zv0 zv1 zv2 zv3 zv4 zv5 zv6 zv7 zh H locs ls hf hw hl
      have hf := gi_s hf
      dsimp only at hf
      unfold f_X0_occupantsWithin_12 at hf
      refine lv_iload hx hb dX0_occupantsWithin_12 (lv_at hl 7 rfl) ?_
      refine lv_aload_n hx hb dX0_occupantsWithin_14 rfl (lv_at hl 0 rfl) ?_
      obtain ⟨zt1, qzt1, hf⟩ := gb_el hf
      refine gx_getI X hw qzt1 clX0 (by decide) mf_X0_15 dX0_occupantsWithin_15 ?_
      refine lv_icmp_ge (tgt := 98) hx hb dX0_occupantsWithin_18 (by decide) (fun qc2 => ?_) (fun qc2 => ?_)
      · have hf := gif_t hf qc2
        exact J_98 zv2 zv3 zv4 zv5 zv6 _ _ _ ls hf hw (lv_sub hl [2, 3, 4, 5, 6] rfl)
      · have hf := gif_f hf qc2
        refine lv_aload_n hx hb dX0_occupantsWithin_21 rfl (lv_at hl 0 rfl) ?_
        refine lv_iload hx hb dX0_occupantsWithin_22 (lv_at hl 7 rfl) ?_
        obtain ⟨qizh3, hf⟩ := gg_el hf
        obtain ⟨zt4, zh3, qzh3, hf⟩ := gc_el hf
        refine gx_ki (gx_runV (As := [.int zv7]) (rest := []) X hw (c_X0_beginAt l E N zv0 zv7 zh qzh3) kX0_beginAt mm_X0_42 qizh3 clX0 ⟨Nat.le_of_ble_eq_true rfl, Nat.le_of_ble_eq_true rfl⟩ rfl rfl rfl hl.1 (Nat.le_of_ble_eq_true rfl) rfl dX0_occupantsWithin_24 ⟨Nat.le_of_ble_eq_true rfl, Nat.le_of_ble_eq_true rfl⟩) hw (fun H locs hw => ?_)
        refine lv_iload_n hx hb dX0_occupantsWithin_27 rfl (lv_at hl 3 rfl) ?_
        refine lv_icmp_gt (tgt := 98) hx hb dX0_occupantsWithin_28 (by decide) (fun qc5 => ?_) (fun qc5 => ?_)
        · have hf := gif_t hf qc5
          exact J_98 zv2 zv3 zv4 zv5 zv6 _ _ _ ls hf hw (lv_sub hl [2, 3, 4, 5, 6] rfl)
        · have hf := gif_f hf qc5
          refine W.eq (g2 := F0 m 31 ls []) rfl ?_
          refine lv_aload_n hx hb dX0_occupantsWithin_31 rfl (lv_at hl 0 rfl) ?_
          refine lv_iload hx hb dX0_occupantsWithin_32 (lv_at hl 7 rfl) ?_
          obtain ⟨qizh6, hf⟩ := gg_el hf
          obtain ⟨zt7, zh6, qzh6, hf⟩ := gc_el hf
          refine gx_ki (gx_runV (As := [.int zv7]) (rest := []) X hw (c_X0_fromAt l E N zv0 zv7 zh3 qzh6) kX0_fromAt mm_X0_51 qizh6 clX0 ⟨Nat.le_of_ble_eq_true rfl, Nat.le_of_ble_eq_true rfl⟩ rfl rfl rfl hl.1 (Nat.le_of_ble_eq_true rfl) rfl dX0_occupantsWithin_34 ⟨Nat.le_of_ble_eq_true rfl, Nat.le_of_ble_eq_true rfl⟩) hw (fun H locs hw => ?_)
          refine lv_iload_n hx hb dX0_occupantsWithin_37 rfl (lv_at hl 1 rfl) ?_
          refine lv_icmp_ne (tgt := 66) hx hb dX0_occupantsWithin_38 (by decide) (fun qc8 => ?_) (fun qc8 => ?_)
          · have hf := gif_f hf qc8
            refine lv_aload_n hx hb dX0_occupantsWithin_66 rfl (lv_at hl 0 rfl) ?_
            refine lv_iload hx hb dX0_occupantsWithin_67 (lv_at hl 7 rfl) ?_
            obtain ⟨qizh9, hf⟩ := gg_el hf
            obtain ⟨zt10, zh9, qzh9, hf⟩ := gc_el hf
            refine gx_ki (gx_runV (As := [.int zv7]) (rest := []) X hw (c_X0_toAt l E N zv0 zv7 zh6 qzh9) kX0_toAt mm_X0_48 qizh9 clX0 ⟨Nat.le_of_ble_eq_true rfl, Nat.le_of_ble_eq_true rfl⟩ rfl rfl rfl hl.1 (Nat.le_of_ble_eq_true rfl) rfl dX0_occupantsWithin_69 ⟨Nat.le_of_ble_eq_true rfl, Nat.le_of_ble_eq_true rfl⟩) hw (fun H locs hw => ?_)
            refine lv_iload_n hx hb dX0_occupantsWithin_72 rfl (lv_at hl 1 rfl) ?_
            refine lv_icmp_ne (tgt := 92) hx hb dX0_occupantsWithin_73 (by decide) (fun qc11 => ?_) (fun qc11 => ?_)
            · have hf := gif_f hf qc11
              exact J_92 zv0 zv1 zv2 zv3 zv4 zv5 zv6 zv7 _ _ _ ls hf hw (lv_sub hl [0, 1, 2, 3, 4, 5, 6, 7] rfl)
            · have hf := gif_t hf qc11
              refine W.eq (g2 := F0 m 76 ls []) rfl ?_
              refine lv_aload_n hx hb dX0_occupantsWithin_76 rfl (lv_at hl 0 rfl) ?_
              refine lv_iload hx hb dX0_occupantsWithin_77 (lv_at hl 7 rfl) ?_
              obtain ⟨qizh12, hf⟩ := gg_el hf
              obtain ⟨zt13, zh12, qzh12, hf⟩ := gc_el hf
              refine gx_ki (gx_runV (As := [.int zv7]) (rest := []) X hw (c_X0_guestAt l E N zv0 zv7 zh9 qzh12) kX0_guestAt mm_X0_38 qizh12 clX0 ⟨Nat.le_of_ble_eq_true rfl, Nat.le_of_ble_eq_true rfl⟩ rfl rfl rfl hl.1 (Nat.le_of_ble_eq_true rfl) rfl dX0_occupantsWithin_79 ⟨Nat.le_of_ble_eq_true rfl, Nat.le_of_ble_eq_true rfl⟩) hw (fun H locs hw => ?_)
              refine lv_istore (lv' := [(5, .int zt13), (0, .ref (gB E + zv0)), (1, .int zv1), (2, .int zv2), (3, .int zv3), (4, .int zv4), (6, .int zv6), (7, .int zv7)]) hx hb dX0_occupantsWithin_82 hl (by decide) rfl (fun ls hl => ?_)
              refine lv_aload_n hx hb dX0_occupantsWithin_84 rfl (lv_at hl 1 rfl) ?_
              refine lv_iload hx hb dX0_occupantsWithin_85 (lv_at hl 7 rfl) ?_
              obtain ⟨qizh14, hf⟩ := gg_el hf
              obtain ⟨zt15, zh14, qzh14, hf⟩ := gc_el hf
              refine gx_ki (gx_runV (As := [.int zv7]) (rest := []) X hw (c_X0_endAt l E N zv0 zv7 zh12 qzh14) kX0_endAt mm_X0_45 qizh14 clX0 ⟨Nat.le_of_ble_eq_true rfl, Nat.le_of_ble_eq_true rfl⟩ rfl rfl rfl hl.1 (Nat.le_of_ble_eq_true rfl) rfl dX0_occupantsWithin_87 ⟨Nat.le_of_ble_eq_true rfl, Nat.le_of_ble_eq_true rfl⟩) hw (fun H locs hw => ?_)
              refine lv_istore (lv' := [(6, .int zt15), (5, .int zt13), (0, .ref (gB E + zv0)), (1, .int zv1), (2, .int zv2), (3, .int zv3), (4, .int zv4), (7, .int zv7)]) hx hb dX0_occupantsWithin_90 hl (by decide) rfl (fun ls hl => ?_)
              exact J_92 zv0 zv1 zv2 zv3 zv4 zt13 zt15 zv7 _ _ _ ls hf hw (lv_sub hl [2, 3, 4, 5, 6, 1, 0, 7] rfl)
          · have hf := gif_t hf qc8
            refine lv_iload hx hb dX0_occupantsWithin_41 (lv_at hl 4 rfl) ?_
            refine lv_iload hx hb dX0_occupantsWithin_43 (lv_at hl 5 rfl) ?_
            refine lv_iload hx hb dX0_occupantsWithin_45 (lv_at hl 6 rfl) ?_
            refine lv_aload_n hx hb dX0_occupantsWithin_47 rfl (lv_at hl 0 rfl) ?_
            refine lv_iload hx hb dX0_occupantsWithin_48 (lv_at hl 7 rfl) ?_
            refine W.eq (g2 := F0 m 50 ls [.int zv7, .ref (gB E + zv0), .int zv6, .int zv5, .int zv4]) rfl ?_
            obtain ⟨qizh16, hf⟩ := gg_el hf
            obtain ⟨zt17, zh16, qzh16, hf⟩ := gc_el hf
            refine gx_ki (gx_runV (As := [.int zv7]) (rest := [.int zv6, .int zv5, .int zv4]) X hw (c_X0_beginAt l E N zv0 zv7 zh6 qzh16) kX0_beginAt mm_X0_42 qizh16 clX0 ⟨Nat.le_of_ble_eq_true rfl, Nat.le_of_ble_eq_true rfl⟩ rfl rfl rfl hl.1 (Nat.le_of_ble_eq_true rfl) rfl dX0_occupantsWithin_50 ⟨Nat.le_of_ble_eq_true rfl, Nat.le_of_ble_eq_true rfl⟩) hw (fun H locs hw => ?_)
            refine lv_iload_n hx hb dX0_occupantsWithin_53 rfl (lv_at hl 2 rfl) ?_
            obtain ⟨zt19, zh18, qzh18, hf⟩ := gc_el hf
            refine gx_ki (gx_runS (As := [.int zv5, .int zv6, .int zt17, .int zv2]) (rest := [.int zv4]) X hw (c_X0_bitIfStayed l E N zv5 zv6 zt17 zv2 zh16 qzh18) kX0_bitIfStayed mm_X0_54 ⟨Nat.le_of_ble_eq_true rfl, Nat.le_of_ble_eq_true rfl⟩ rfl rfl rfl hl.1 (Nat.le_of_ble_eq_true rfl) rfl dX0_occupantsWithin_54 ⟨Nat.le_of_ble_eq_true rfl, Nat.le_of_ble_eq_true rfl⟩) hw (fun H locs hw => ?_)
            refine lv_ior hx hb dX0_occupantsWithin_57 ?_
            refine lv_topi (fun zx20 ezx20 => ?_)
            have hf := gl_el hf ezx20
            refine lv_istore (lv' := [(4, .int zx20), (0, .ref (gB E + zv0)), (1, .int zv1), (2, .int zv2), (3, .int zv3), (5, .int zv5), (6, .int zv6), (7, .int zv7)]) hx hb dX0_occupantsWithin_58 hl (by decide) rfl (fun ls hl => ?_)
            refine lv_iconst (v := (-1)) hx hb dX0_occupantsWithin_60 (by decide) ?_
            refine lv_istore (lv' := [(5, .int (-1)), (4, .int zx20), (0, .ref (gB E + zv0)), (1, .int zv1), (2, .int zv2), (3, .int zv3), (6, .int zv6), (7, .int zv7)]) hx hb dX0_occupantsWithin_61 hl (by decide) rfl (fun ls hl => ?_)
            refine lv_goto (tgt := 92) hx hb dX0_occupantsWithin_63 (by decide) ?_
            exact J_92 zv0 zv1 zv2 zv3 zx20 (-1) zv6 zv7 _ _ _ ls hf hw (lv_sub hl [2, 3, 4, 5, 1, 0, 6, 7] rfl)
  unfold f_X0_occupantsWithin at hf
  refine lv_iconst (v := 0) hx hb dX0_occupantsWithin_0 (by decide) ?_
  refine lv_istore (lv' := [(4, .int 0), (0, .ref (gB E + za0)), (1, .int za1), (2, .int za2), (3, .int za3)]) hx hb dX0_occupantsWithin_1 hl (by decide) rfl (fun ls hl => ?_)
  refine lv_iconst (v := (-1)) hx hb dX0_occupantsWithin_3 (by decide) ?_
  refine lv_istore (lv' := [(5, .int (-1)), (4, .int 0), (0, .ref (gB E + za0)), (1, .int za1), (2, .int za2), (3, .int za3)]) hx hb dX0_occupantsWithin_4 hl (by decide) rfl (fun ls hl => ?_)
  refine lv_iconst (v := 0) hx hb dX0_occupantsWithin_6 (by decide) ?_
  refine lv_istore (lv' := [(6, .int 0), (5, .int (-1)), (4, .int 0), (0, .ref (gB E + za0)), (1, .int za1), (2, .int za2), (3, .int za3)]) hx hb dX0_occupantsWithin_7 hl (by decide) rfl (fun ls hl => ?_)
  refine lv_iconst (v := 0) hx hb dX0_occupantsWithin_9 (by decide) ?_
  refine lv_istore (lv' := [(7, .int 0), (6, .int 0), (5, .int (-1)), (4, .int 0), (0, .ref (gB E + za0)), (1, .int za1), (2, .int za2), (3, .int za3)]) hx hb dX0_occupantsWithin_10 hl (by decide) rfl (fun ls hl => ?_)
  exact L_12 N za0 za1 za2 za3 0 (-1) 0 0 _ _ _ ls hf hw (lv_sub hl [4, 5, 6, 7, 3, 2, 1, 0] rfl)
abbrev rm_J7_fill_53178 : Room := { frames := 0, cells := 0, slots := 0, locals := 0 }
set_option maxHeartbeats 4000000 in
set_option maxRecDepth 100000 in
theorem c_J7_fill_53178 (l : Launch) (E : gE) (N : Nat) (za0 : Nat) (za1 : Int32) (zh : PH) {h9 : PH} (hf : f_J7_fill_53178 N za0 za1 zh = some h9) : Met l yJ7_fill_53178 (gWS yJ7_fill_53178 cJ7_fill_53178 4 none) rm_J7_fill_53178 (gPc E [.ref (gB E + za0), .int za1] zh) (gQv E h9) 0 0 (gA E) := by
  refine gx_met (by decide) ?_ rfl
  intro p e s m below meth c X hr hlk hin2 hw
  have hx := X.1.1
  have hb := X.1.2.1
  have hl := lv_entry [.ref (gB E + za0), .int za1] (n := 4) (Nat.le_of_ble_eq_true rfl)
  rw [lg_entry_eq]
  generalize (lg_sl [.ref (gB E + za0), .int za1] ++ List.replicate (4 - (lg_sl [.ref (gB E + za0), .int za1]).length) Slot.unset).toArray = ls at hl ⊢
  have hl : lv_has ls 4 [(0, .ref (gB E + za0)), (1, .int za1)] := hl
  have L_5 : ∀ (zn5 : Nat) (zv0 : Nat) (zv1 : Int32) (zv2 : Int32) (zv3 : Int32) (zh : PH) (H : Heap) (locs : List Loc) (ls : Array Slot), gi (fun zk zs => f_J7_fill_53178_5 N zk zs.1 zs.2.1 zs.2.2.1 zs.2.2.2.1 zs.2.2.2.2) zn5 (zv0, zv1, zv2, zv3, zh) = some h9 → gw E s zh H locs → lv_has ls 4 [(0, .ref (gB E + zv0)), (1, .int zv1), (2, .int zv2), (3, .int zv3)] → W p l e rm_J7_fill_53178 s m [.ref (gB E + za0), .int za1].toArray below meth c H locs 0 0 (MQ below (gQv E h9) [.ref (gB E + za0), .int za1].toArray s 0 0 (gA E)) (F0 m 5 ls []) := by
    intro zn5
    induction zn5 with
    | zero =>
      intro zv0 zv1 zv2 zv3 zh H locs ls hf
      cases hf
    | succ zn5 ih_5 =>
      intro zv0 zv1 zv2 zv3 zh H locs ls hf hw hl
      have hf := gi_s hf
      dsimp only at hf
      unfold f_J7_fill_53178_5 at hf
      refine lv_iload_n hx hb dJ7_fill_53178_5 rfl (lv_at hl 2 rfl) ?_
      refine lv_iload_n hx hb dJ7_fill_53178_6 rfl (lv_at hl 3 rfl) ?_
      refine lv_icmp_ge (tgt := 20) hx hb dJ7_fill_53178_7 (by decide) (fun qc1 => ?_) (fun qc1 => ?_)
      · have hf := gif_t hf qc1
        exact gx_vret X hr hlk hw hf dJ7_fill_53178_20
      · have hf := gif_f hf qc1
        refine lv_aload_n hx hb dJ7_fill_53178_10 rfl (lv_at hl 0 rfl) ?_
        refine lv_iload_n hx hb dJ7_fill_53178_11 rfl (lv_at hl 2 rfl) ?_
        refine lv_iload_n hx hb dJ7_fill_53178_12 rfl (lv_at hl 1 rfl) ?_
        obtain ⟨zh2, qzh2, hf⟩ := gb_el hf
        refine gx_iast X hw qzh2 dJ7_fill_53178_13 (fun H locs hw => ?_)
        obtain ⟨zx3, ezx3⟩ : ∃ y : Int32, y = zv2 + 1 := ⟨_, rfl⟩
        have hf := gl_el hf ezx3
        refine lv_iinc (v := zx3) (lv' := [(2, .int zx3), (0, .ref (gB E + zv0)), (1, .int zv1), (3, .int zv3)]) hx hb dJ7_fill_53178_14 hl (k := 2) rfl (by rw [ezx3]; rfl) (by decide) rfl (fun ls hl => ?_)
        refine lv_goto (tgt := 5) hx hb dJ7_fill_53178_17 (by decide) ?_
        exact ih_5 zv0 zv1 zx3 zv3 _ _ _ ls hf hw (lv_sub hl [1, 2, 0, 3] rfl)
  unfold f_J7_fill_53178 at hf
  refine lv_iconst (v := 0) hx hb dJ7_fill_53178_0 (by decide) ?_
  refine lv_istore_n (lv' := [(2, .int 0), (0, .ref (gB E + za0)), (1, .int za1)]) hx hb dJ7_fill_53178_1 rfl hl (by decide) rfl (fun ls hl => ?_)
  refine lv_aload_n hx hb dJ7_fill_53178_2 rfl (lv_at hl 1 rfl) ?_
  obtain ⟨zt1, qzt1, hf⟩ := gb_el hf
  refine gx_alen X hw qzt1 rfl dJ7_fill_53178_3 ?_
  refine lv_istore_n (lv' := [(3, .int zt1), (2, .int 0), (0, .ref (gB E + za0)), (1, .int za1)]) hx hb dJ7_fill_53178_4 rfl hl (by decide) rfl (fun ls hl => ?_)
  exact L_5 N za0 za1 0 zt1 _ _ _ ls hf hw (lv_sub hl [2, 3, 1, 0] rfl)
abbrev rm_X1_init : Room := { frames := 1, cells := 4, slots := 40, locals := 23 }
set_option maxHeartbeats 4000000 in
set_option maxRecDepth 100000 in
theorem c_X1_init (l : Launch) (E : gE) (N : Nat) (za0 : Nat) (zh : PH) {h9 : PH} (hf : f_X1_init N za0 zh = some h9) : Met l yX1_init (gWS yX1_init cX1_init 1 none) rm_X1_init (gPc E [.ref (gB E + za0)] zh) (gQv E h9) 4 40 (gA E) := by
  refine gx_met (by decide) ?_ rfl
  intro p e s m below meth c X hr hlk hin2 hw
  have hx := X.1.1
  have hb := X.1.2.1
  have hl := lv_entry [.ref (gB E + za0)] (n := 1) (Nat.le_of_ble_eq_true rfl)
  rw [lg_entry_eq]
  generalize (lg_sl [.ref (gB E + za0)] ++ List.replicate (1 - (lg_sl [.ref (gB E + za0)]).length) Slot.unset).toArray = ls at hl ⊢
  have hl : lv_has ls 1 [(0, .ref (gB E + za0))] := hl
  unfold f_X1_init at hf
  refine lv_aload_n hx hb dX1_init_0 rfl (lv_at hl 0 rfl) ?_
  refine gx_oinit X mm_X1_3 mo_inst mo_code hl.1 dX1_init_1 (Nat.le_of_ble_eq_true rfl) (Nat.le_of_ble_eq_true rfl) ?_
  refine lv_aload_n hx hb dX1_init_4 rfl (lv_at hl 0 rfl) ?_
  refine lv_bipush (v := 10) hx hb dX1_init_5 (by decide) ?_
  obtain ⟨zr2, zh1, qzh1, hf⟩ := gc_el hf
  refine gx_newa0 X hw qzh1 ma_int (by decide) (by decide) (by decide) (Nat.le_of_ble_eq_true rfl) (Nat.le_of_ble_eq_true rfl) dX1_init_7 (fun H hw => ?_)
  obtain ⟨zh3, qzh3, hf⟩ := gb_el hf
  refine gx_putFV X hw qzh3 clX1 (by decide) mf_X1_9 rfl (hin2 rfl) rfl rfl rfl dX1_init_9 (fun H locs hw => ?_)
  refine lv_aload_n hx hb dX1_init_12 rfl (lv_at hl 0 rfl) ?_
  refine lv_bipush (v := 10) hx hb dX1_init_13 (by decide) ?_
  obtain ⟨zr5, zh4, qzh4, hf⟩ := gc_el hf
  refine gx_newa0 X hw qzh4 ma_int (by decide) (by decide) (by decide) (Nat.le_of_ble_eq_true rfl) (Nat.le_of_ble_eq_true rfl) dX1_init_15 (fun H hw => ?_)
  refine W.eq (g2 := F0 m 17 ls [.ref (gB E + zr5), .ref (gB E + za0)]) rfl ?_
  obtain ⟨zh6, qzh6, hf⟩ := gb_el hf
  refine gx_putFV X hw qzh6 clX1 (by decide) mf_X1_15 rfl (hin2 rfl) rfl rfl rfl dX1_init_17 (fun H locs hw => ?_)
  refine lv_aload_n hx hb dX1_init_20 rfl (lv_at hl 0 rfl) ?_
  refine lv_bipush (v := 10) hx hb dX1_init_21 (by decide) ?_
  obtain ⟨zr8, zh7, qzh7, hf⟩ := gc_el hf
  refine gx_newa0 X hw qzh7 ma_int (by decide) (by decide) (by decide) (Nat.le_of_ble_eq_true rfl) (Nat.le_of_ble_eq_true rfl) dX1_init_23 (fun H hw => ?_)
  obtain ⟨zh9, qzh9, hf⟩ := gb_el hf
  refine gx_putFV X hw qzh9 clX1 (by decide) mf_X1_18 rfl (hin2 rfl) rfl rfl rfl dX1_init_25 (fun H locs hw => ?_)
  refine lv_aload_n hx hb dX1_init_28 rfl (lv_at hl 0 rfl) ?_
  refine lv_bipush (v := 10) hx hb dX1_init_29 (by decide) ?_
  obtain ⟨zr11, zh10, qzh10, hf⟩ := gc_el hf
  refine gx_newa0 X hw qzh10 ma_int (by decide) (by decide) (by decide) (Nat.le_of_ble_eq_true rfl) (Nat.le_of_ble_eq_true rfl) dX1_init_31 (fun H hw => ?_)
  obtain ⟨zh12, qzh12, hf⟩ := gb_el hf
  refine gx_putFV X hw qzh12 clX1 (by decide) mf_X1_21 rfl (hin2 rfl) rfl rfl rfl dX1_init_33 (fun H locs hw => ?_)
  refine lv_aload_n hx hb dX1_init_36 rfl (lv_at hl 0 rfl) ?_
  refine W.eq (g2 := F0 m 37 ls [.ref (gB E + za0)]) rfl ?_
  obtain ⟨zt13, qzt13, hf⟩ := gb_el hf
  refine gx_getR X hw qzt13 clX1 (by decide) mf_X1_9 dX1_init_37 ?_
  refine lv_iconst (v := (-1)) hx hb dX1_init_40 (by decide) ?_
  obtain ⟨zh14, qzh14, hf⟩ := gb_el hf
  refine gx_kv (gx_runS (As := [.ref (gB E + zt13), .int (-1)]) (rest := []) X hw (c_J7_fill_53178 l E N zt13 (-1) zh12 qzh14) kJ7_fill_53178 mm_X1_24 ⟨Nat.le_of_ble_eq_true rfl, Nat.le_of_ble_eq_true rfl⟩ rfl rfl rfl hl.1 (Nat.le_of_ble_eq_true rfl) rfl dX1_init_41 ⟨Nat.le_of_ble_eq_true rfl, Nat.le_of_ble_eq_true rfl⟩) hw (fun H locs hw => ?_)
  refine lv_aload_n hx hb dX1_init_44 rfl (lv_at hl 0 rfl) ?_
  obtain ⟨zt15, qzt15, hf⟩ := gb_el hf
  refine gx_getR X hw qzt15 clX1 (by decide) mf_X1_15 dX1_init_45 ?_
  refine lv_iconst (v := (-1)) hx hb dX1_init_48 (by decide) ?_
  obtain ⟨zh16, qzh16, hf⟩ := gb_el hf
  refine gx_kv (gx_runS (As := [.ref (gB E + zt15), .int (-1)]) (rest := []) X hw (c_J7_fill_53178 l E N zt15 (-1) zh14 qzh16) kJ7_fill_53178 mm_X1_24 ⟨Nat.le_of_ble_eq_true rfl, Nat.le_of_ble_eq_true rfl⟩ rfl rfl rfl hl.1 (Nat.le_of_ble_eq_true rfl) rfl dX1_init_49 ⟨Nat.le_of_ble_eq_true rfl, Nat.le_of_ble_eq_true rfl⟩) hw (fun H locs hw => ?_)
  exact gx_vret X hr hlk hw hf dX1_init_52
abbrev rm_X1_empty : Room := { frames := 1, cells := 0, slots := 0, locals := 23 }
set_option maxHeartbeats 4000000 in
set_option maxRecDepth 100000 in
theorem c_X1_empty (l : Launch) (E : gE) (N : Nat) (za0 : Nat) (zh : PH) {h9 : PH} (hf : f_X1_empty N za0 zh = some h9) : Met l yX1_empty (gWS yX1_empty cX1_empty 1 none) rm_X1_empty (gPc E [.ref (gB E + za0)] zh) (gQv E h9) 0 0 (gA E) := by
  refine gx_met (by decide) ?_ rfl
  intro p e s m below meth c X hr hlk hin2 hw
  have hx := X.1.1
  have hb := X.1.2.1
  have hl := lv_entry [.ref (gB E + za0)] (n := 1) (Nat.le_of_ble_eq_true rfl)
  rw [lg_entry_eq]
  generalize (lg_sl [.ref (gB E + za0)] ++ List.replicate (1 - (lg_sl [.ref (gB E + za0)]).length) Slot.unset).toArray = ls at hl ⊢
  have hl : lv_has ls 1 [(0, .ref (gB E + za0))] := hl
  unfold f_X1_empty at hf
  refine lv_aload_n hx hb dX1_empty_0 rfl (lv_at hl 0 rfl) ?_
  obtain ⟨zt1, qzt1, hf⟩ := gb_el hf
  refine gx_getR X hw qzt1 clX1 (by decide) mf_X1_9 dX1_empty_1 ?_
  refine lv_iconst (v := (-1)) hx hb dX1_empty_4 (by decide) ?_
  obtain ⟨zh2, qzh2, hf⟩ := gb_el hf
  refine gx_kv (gx_runS (As := [.ref (gB E + zt1), .int (-1)]) (rest := []) X hw (c_J7_fill_53178 l E N zt1 (-1) zh qzh2) kJ7_fill_53178 mm_X1_24 ⟨Nat.le_of_ble_eq_true rfl, Nat.le_of_ble_eq_true rfl⟩ rfl rfl rfl hl.1 (Nat.le_of_ble_eq_true rfl) rfl dX1_empty_5 ⟨Nat.le_of_ble_eq_true rfl, Nat.le_of_ble_eq_true rfl⟩) hw (fun H locs hw => ?_)
  refine lv_aload_n hx hb dX1_empty_8 rfl (lv_at hl 0 rfl) ?_
  obtain ⟨zt3, qzt3, hf⟩ := gb_el hf
  refine gx_getR X hw qzt3 clX1 (by decide) mf_X1_15 dX1_empty_9 ?_
  refine lv_iconst (v := (-1)) hx hb dX1_empty_12 (by decide) ?_
  obtain ⟨zh4, qzh4, hf⟩ := gb_el hf
  refine gx_kv (gx_runS (As := [.ref (gB E + zt3), .int (-1)]) (rest := []) X hw (c_J7_fill_53178 l E N zt3 (-1) zh2 qzh4) kJ7_fill_53178 mm_X1_24 ⟨Nat.le_of_ble_eq_true rfl, Nat.le_of_ble_eq_true rfl⟩ rfl rfl rfl hl.1 (Nat.le_of_ble_eq_true rfl) rfl dX1_empty_13 ⟨Nat.le_of_ble_eq_true rfl, Nat.le_of_ble_eq_true rfl⟩) hw (fun H locs hw => ?_)
  refine lv_aload_n hx hb dX1_empty_16 rfl (lv_at hl 0 rfl) ?_
  refine W.eq (g2 := F0 m 17 ls [.ref (gB E + za0)]) rfl ?_
  obtain ⟨zt5, qzt5, hf⟩ := gb_el hf
  refine gx_getR X hw qzt5 clX1 (by decide) mf_X1_18 dX1_empty_17 ?_
  refine lv_iconst (v := 0) hx hb dX1_empty_20 (by decide) ?_
  obtain ⟨zh6, qzh6, hf⟩ := gb_el hf
  refine gx_kv (gx_runS (As := [.ref (gB E + zt5), .int 0]) (rest := []) X hw (c_J7_fill_53178 l E N zt5 0 zh4 qzh6) kJ7_fill_53178 mm_X1_24 ⟨Nat.le_of_ble_eq_true rfl, Nat.le_of_ble_eq_true rfl⟩ rfl rfl rfl hl.1 (Nat.le_of_ble_eq_true rfl) rfl dX1_empty_21 ⟨Nat.le_of_ble_eq_true rfl, Nat.le_of_ble_eq_true rfl⟩) hw (fun H locs hw => ?_)
  refine lv_aload_n hx hb dX1_empty_24 rfl (lv_at hl 0 rfl) ?_
  obtain ⟨zt7, qzt7, hf⟩ := gb_el hf
  refine gx_getR X hw qzt7 clX1 (by decide) mf_X1_21 dX1_empty_25 ?_
  refine lv_iconst (v := 0) hx hb dX1_empty_28 (by decide) ?_
  obtain ⟨zh8, qzh8, hf⟩ := gb_el hf
  refine gx_kv (gx_runS (As := [.ref (gB E + zt7), .int 0]) (rest := []) X hw (c_J7_fill_53178 l E N zt7 0 zh6 qzh8) kJ7_fill_53178 mm_X1_24 ⟨Nat.le_of_ble_eq_true rfl, Nat.le_of_ble_eq_true rfl⟩ rfl rfl rfl hl.1 (Nat.le_of_ble_eq_true rfl) rfl dX1_empty_29 ⟨Nat.le_of_ble_eq_true rfl, Nat.le_of_ble_eq_true rfl⟩) hw (fun H locs hw => ?_)
  refine lv_aload_n hx hb dX1_empty_32 rfl (lv_at hl 0 rfl) ?_
  refine lv_iconst (v := 0) hx hb dX1_empty_33 (by decide) ?_
  obtain ⟨zh9, qzh9, hf⟩ := gb_el hf
  refine gx_putV X hw qzh9 clX1 (by decide) mf_X1_30 rfl rfl rfl dX1_empty_34 (fun H locs hw => ?_)
  refine W.eq (g2 := F0 m 37 ls []) rfl ?_
  refine lv_aload_n hx hb dX1_empty_37 rfl (lv_at hl 0 rfl) ?_
  refine lv_iconst (v := 0) hx hb dX1_empty_38 (by decide) ?_
  obtain ⟨zh10, qzh10, hf⟩ := gb_el hf
  refine gx_putV X hw qzh10 clX1 (by decide) mf_X1_34 rfl rfl rfl dX1_empty_39 (fun H locs hw => ?_)
  refine lv_aload_n hx hb dX1_empty_42 rfl (lv_at hl 0 rfl) ?_
  refine lv_iconst (v := 0) hx hb dX1_empty_43 (by decide) ?_
  obtain ⟨zh11, qzh11, hf⟩ := gb_el hf
  refine gx_putV X hw qzh11 clX1 (by decide) mf_X1_37 rfl rfl rfl dX1_empty_44 (fun H locs hw => ?_)
  refine lv_aload_n hx hb dX1_empty_47 rfl (lv_at hl 0 rfl) ?_
  refine lv_iconst (v := 0) hx hb dX1_empty_48 (by decide) ?_
  obtain ⟨zh12, qzh12, hf⟩ := gb_el hf
  refine gx_putV X hw qzh12 clX1 (by decide) mf_X1_40 rfl rfl rfl dX1_empty_49 (fun H locs hw => ?_)
  refine lv_aload_n hx hb dX1_empty_52 rfl (lv_at hl 0 rfl) ?_
  refine W.eq (g2 := F0 m 53 ls [.ref (gB E + za0)]) rfl ?_
  refine lv_iconst (v := 0) hx hb dX1_empty_53 (by decide) ?_
  obtain ⟨zh13, qzh13, hf⟩ := gb_el hf
  refine gx_putV X hw qzh13 clX1 (by decide) mf_X1_43 rfl rfl rfl dX1_empty_54 (fun H locs hw => ?_)
  refine lv_aload_n hx hb dX1_empty_57 rfl (lv_at hl 0 rfl) ?_
  refine lv_iconst (v := 0) hx hb dX1_empty_58 (by decide) ?_
  obtain ⟨zh14, qzh14, hf⟩ := gb_el hf
  refine gx_putV X hw qzh14 clX1 (by decide) mf_X1_46 rfl rfl rfl dX1_empty_59 (fun H locs hw => ?_)
  exact gx_vret X hr hlk hw hf dX1_empty_62
abbrev rm_X1_copyFrom : Room := { frames := 1, cells := 0, slots := 0, locals := 64 }
set_option maxHeartbeats 4000000 in
set_option maxRecDepth 100000 in
theorem c_X1_copyFrom (l : Launch) (E : gE) (N : Nat) (za0 : Nat) (za1 : Nat) (zh : PH) {h9 : PH} (hf : f_X1_copyFrom N za0 za1 zh = some h9) : Met l yX1_copyFrom (gWS yX1_copyFrom cX1_copyFrom 2 none) rm_X1_copyFrom (gPc E [.ref (gB E + za0), .ref (gB E + za1)] zh) (gQv E h9) 0 0 (gA E) := by
  refine gx_met (by decide) ?_ rfl
  intro p e s m below meth c X hr hlk hin2 hw
  have hx := X.1.1
  have hb := X.1.2.1
  have hl := lv_entry [.ref (gB E + za0), .ref (gB E + za1)] (n := 2) (Nat.le_of_ble_eq_true rfl)
  rw [lg_entry_eq]
  generalize (lg_sl [.ref (gB E + za0), .ref (gB E + za1)] ++ List.replicate (2 - (lg_sl [.ref (gB E + za0), .ref (gB E + za1)]).length) Slot.unset).toArray = ls at hl ⊢
  have hl : lv_has ls 2 [(0, .ref (gB E + za0)), (1, .ref (gB E + za1))] := hl
  unfold f_X1_copyFrom at hf
  refine lv_aload_n hx hb dX1_copyFrom_0 rfl (lv_at hl 1 rfl) ?_
  obtain ⟨zt1, qzt1, hf⟩ := gb_el hf
  refine gx_getR X hw qzt1 clX1 (by decide) mf_X1_9 dX1_copyFrom_1 ?_
  refine lv_iconst (v := 0) hx hb dX1_copyFrom_4 (by decide) ?_
  refine lv_aload_n hx hb dX1_copyFrom_5 rfl (lv_at hl 0 rfl) ?_
  obtain ⟨zt2, qzt2, hf⟩ := gb_el hf
  refine gx_getR X hw qzt2 clX1 (by decide) mf_X1_9 dX1_copyFrom_6 ?_
  refine lv_iconst (v := 0) hx hb dX1_copyFrom_9 (by decide) ?_
  refine lv_bipush (v := 10) hx hb dX1_copyFrom_10 (by decide) ?_
  obtain ⟨zh3, qzh3, hf⟩ := gb_el hf
  refine gx_cpI X hw qzh3 mm_X1_49 ac_n ac_s mI_java_lang_System hl.1 (Nat.le_of_ble_eq_true rfl) (Nat.le_of_ble_eq_true rfl) dX1_copyFrom_12 (fun H locs hw => ?_)
  refine lv_aload_n hx hb dX1_copyFrom_15 rfl (lv_at hl 1 rfl) ?_
  refine W.eq (g2 := F0 m 16 ls [.ref (gB E + za1)]) rfl ?_
  obtain ⟨zt4, qzt4, hf⟩ := gb_el hf
  refine gx_getR X hw qzt4 clX1 (by decide) mf_X1_15 dX1_copyFrom_16 ?_
  refine lv_iconst (v := 0) hx hb dX1_copyFrom_19 (by decide) ?_
  refine lv_aload_n hx hb dX1_copyFrom_20 rfl (lv_at hl 0 rfl) ?_
  obtain ⟨zt5, qzt5, hf⟩ := gb_el hf
  refine gx_getR X hw qzt5 clX1 (by decide) mf_X1_15 dX1_copyFrom_21 ?_
  refine lv_iconst (v := 0) hx hb dX1_copyFrom_24 (by decide) ?_
  refine lv_bipush (v := 10) hx hb dX1_copyFrom_25 (by decide) ?_
  obtain ⟨zh6, qzh6, hf⟩ := gb_el hf
  refine gx_cpI X hw qzh6 mm_X1_49 ac_n ac_s mI_java_lang_System hl.1 (Nat.le_of_ble_eq_true rfl) (Nat.le_of_ble_eq_true rfl) dX1_copyFrom_27 (fun H locs hw => ?_)
  refine lv_aload_n hx hb dX1_copyFrom_30 rfl (lv_at hl 1 rfl) ?_
  obtain ⟨zt7, qzt7, hf⟩ := gb_el hf
  refine gx_getR X hw qzt7 clX1 (by decide) mf_X1_18 dX1_copyFrom_31 ?_
  refine lv_iconst (v := 0) hx hb dX1_copyFrom_34 (by decide) ?_
  refine W.eq (g2 := F0 m 35 ls [.int 0, .ref (gB E + zt7)]) rfl ?_
  refine lv_aload_n hx hb dX1_copyFrom_35 rfl (lv_at hl 0 rfl) ?_
  obtain ⟨zt8, qzt8, hf⟩ := gb_el hf
  refine gx_getR X hw qzt8 clX1 (by decide) mf_X1_18 dX1_copyFrom_36 ?_
  refine lv_iconst (v := 0) hx hb dX1_copyFrom_39 (by decide) ?_
  refine lv_bipush (v := 10) hx hb dX1_copyFrom_40 (by decide) ?_
  obtain ⟨zh9, qzh9, hf⟩ := gb_el hf
  refine gx_cpI X hw qzh9 mm_X1_49 ac_n ac_s mI_java_lang_System hl.1 (Nat.le_of_ble_eq_true rfl) (Nat.le_of_ble_eq_true rfl) dX1_copyFrom_42 (fun H locs hw => ?_)
  refine lv_aload_n hx hb dX1_copyFrom_45 rfl (lv_at hl 1 rfl) ?_
  obtain ⟨zt10, qzt10, hf⟩ := gb_el hf
  refine gx_getR X hw qzt10 clX1 (by decide) mf_X1_21 dX1_copyFrom_46 ?_
  refine lv_iconst (v := 0) hx hb dX1_copyFrom_49 (by decide) ?_
  refine lv_aload_n hx hb dX1_copyFrom_50 rfl (lv_at hl 0 rfl) ?_
  obtain ⟨zt11, qzt11, hf⟩ := gb_el hf
  refine gx_getR X hw qzt11 clX1 (by decide) mf_X1_21 dX1_copyFrom_51 ?_
  refine W.eq (g2 := F0 m 54 ls [.ref (gB E + zt11), .int 0, .ref (gB E + zt10)]) rfl ?_
  refine lv_iconst (v := 0) hx hb dX1_copyFrom_54 (by decide) ?_
  refine lv_bipush (v := 10) hx hb dX1_copyFrom_55 (by decide) ?_
  obtain ⟨zh12, qzh12, hf⟩ := gb_el hf
  refine gx_cpI X hw qzh12 mm_X1_49 ac_n ac_s mI_java_lang_System hl.1 (Nat.le_of_ble_eq_true rfl) (Nat.le_of_ble_eq_true rfl) dX1_copyFrom_57 (fun H locs hw => ?_)
  refine lv_aload_n hx hb dX1_copyFrom_60 rfl (lv_at hl 0 rfl) ?_
  refine lv_aload_n hx hb dX1_copyFrom_61 rfl (lv_at hl 1 rfl) ?_
  obtain ⟨zt13, qzt13, hf⟩ := gb_el hf
  refine gx_getI X hw qzt13 clX1 (by decide) mf_X1_30 dX1_copyFrom_62 ?_
  obtain ⟨zh14, qzh14, hf⟩ := gb_el hf
  refine gx_putV X hw qzh14 clX1 (by decide) mf_X1_30 rfl rfl rfl dX1_copyFrom_65 (fun H locs hw => ?_)
  refine lv_aload_n hx hb dX1_copyFrom_68 rfl (lv_at hl 0 rfl) ?_
  refine lv_aload_n hx hb dX1_copyFrom_69 rfl (lv_at hl 1 rfl) ?_
  obtain ⟨zt15, qzt15, hf⟩ := gb_el hf
  refine gx_getI X hw qzt15 clX1 (by decide) mf_X1_34 dX1_copyFrom_70 ?_
  refine W.eq (g2 := F0 m 73 ls [.int zt15, .ref (gB E + za0)]) rfl ?_
  obtain ⟨zh16, qzh16, hf⟩ := gb_el hf
  refine gx_putV X hw qzh16 clX1 (by decide) mf_X1_34 rfl rfl rfl dX1_copyFrom_73 (fun H locs hw => ?_)
  refine lv_aload_n hx hb dX1_copyFrom_76 rfl (lv_at hl 0 rfl) ?_
  refine lv_aload_n hx hb dX1_copyFrom_77 rfl (lv_at hl 1 rfl) ?_
  obtain ⟨zt17, qzt17, hf⟩ := gb_el hf
  refine gx_getI X hw qzt17 clX1 (by decide) mf_X1_37 dX1_copyFrom_78 ?_
  obtain ⟨zh18, qzh18, hf⟩ := gb_el hf
  refine gx_putV X hw qzh18 clX1 (by decide) mf_X1_37 rfl rfl rfl dX1_copyFrom_81 (fun H locs hw => ?_)
  refine lv_aload_n hx hb dX1_copyFrom_84 rfl (lv_at hl 0 rfl) ?_
  refine lv_aload_n hx hb dX1_copyFrom_85 rfl (lv_at hl 1 rfl) ?_
  obtain ⟨zt19, qzt19, hf⟩ := gb_el hf
  refine gx_getI X hw qzt19 clX1 (by decide) mf_X1_40 dX1_copyFrom_86 ?_
  obtain ⟨zh20, qzh20, hf⟩ := gb_el hf
  refine gx_putV X hw qzh20 clX1 (by decide) mf_X1_40 rfl rfl rfl dX1_copyFrom_89 (fun H locs hw => ?_)
  refine lv_aload_n hx hb dX1_copyFrom_92 rfl (lv_at hl 0 rfl) ?_
  refine W.eq (g2 := F0 m 93 ls [.ref (gB E + za0)]) rfl ?_
  refine lv_aload_n hx hb dX1_copyFrom_93 rfl (lv_at hl 1 rfl) ?_
  obtain ⟨zt21, qzt21, hf⟩ := gb_el hf
  refine gx_getI X hw qzt21 clX1 (by decide) mf_X1_43 dX1_copyFrom_94 ?_
  obtain ⟨zh22, qzh22, hf⟩ := gb_el hf
  refine gx_putV X hw qzh22 clX1 (by decide) mf_X1_43 rfl rfl rfl dX1_copyFrom_97 (fun H locs hw => ?_)
  refine lv_aload_n hx hb dX1_copyFrom_100 rfl (lv_at hl 0 rfl) ?_
  refine lv_aload_n hx hb dX1_copyFrom_101 rfl (lv_at hl 1 rfl) ?_
  obtain ⟨zt23, qzt23, hf⟩ := gb_el hf
  refine gx_getI X hw qzt23 clX1 (by decide) mf_X1_46 dX1_copyFrom_102 ?_
  obtain ⟨zh24, qzh24, hf⟩ := gb_el hf
  refine gx_putV X hw qzh24 clX1 (by decide) mf_X1_46 rfl rfl rfl dX1_copyFrom_105 (fun H locs hw => ?_)
  exact gx_vret X hr hlk hw hf dX1_copyFrom_108
abbrev rm_X1_isIn : Room := { frames := 0, cells := 0, slots := 0, locals := 0 }
set_option maxHeartbeats 4000000 in
set_option maxRecDepth 100000 in
theorem c_X1_isIn (l : Launch) (E : gE) (N : Nat) (za0 : Nat) (za1 : Int32) (zh : PH) {h9 : PH} {r9 : Int32} (hf : f_X1_isIn N za0 za1 zh = some (r9, h9)) : Met l yX1_isIn (gWS yX1_isIn cX1_isIn 2 (some .boolean)) rm_X1_isIn (gPc E [.ref (gB E + za0), .int za1] zh) (gQi E r9 h9) 0 0 (gA E) := by
  refine gx_met (by decide) ?_ rfl
  intro p e s m below meth c X hr hlk hin2 hw
  have hx := X.1.1
  have hb := X.1.2.1
  have hl := lv_entry [.ref (gB E + za0), .int za1] (n := 2) (Nat.le_of_ble_eq_true rfl)
  rw [lg_entry_eq]
  generalize (lg_sl [.ref (gB E + za0), .int za1] ++ List.replicate (2 - (lg_sl [.ref (gB E + za0), .int za1]).length) Slot.unset).toArray = ls at hl ⊢
  have hl : lv_has ls 2 [(0, .ref (gB E + za0)), (1, .int za1)] := hl
  have J_15 : ∀ (zs0 : Int32) (zh : PH) (H : Heap) (locs : List Loc) (ls : Array Slot), f_X1_isIn_15 N zs0 zh = some (r9, h9) → gw E s zh H locs → lv_has ls 2 [] → W p l e rm_X1_isIn s m [.ref (gB E + za0), .int za1].toArray below meth c H locs 0 0 (MQ below (gQi E r9 h9) [.ref (gB E + za0), .int za1].toArray s 0 0 (gA E)) (F0 m 15 ls [.int zs0]) := by
    intro zs0 zh H locs ls hf hw hl
    unfold f_X1_isIn_15 at hf
    exact gx_zret X hr hlk hw hf dX1_isIn_15
  unfold f_X1_isIn at hf
  refine lv_aload_n hx hb dX1_isIn_0 rfl (lv_at hl 0 rfl) ?_
  obtain ⟨zt1, qzt1, hf⟩ := gb_el hf
  refine gx_getR X hw qzt1 clX1 (by decide) mf_X1_15 dX1_isIn_1 ?_
  refine lv_iload_n hx hb dX1_isIn_4 rfl (lv_at hl 1 rfl) ?_
  obtain ⟨zt2, qzt2, hf⟩ := gb_el hf
  refine gx_iald X hw qzt2 dX1_isIn_5 ?_
  refine lv_iconst (v := (-1)) hx hb dX1_isIn_6 (by decide) ?_
  refine lv_icmp_eq (tgt := 14) hx hb dX1_isIn_7 (by decide) (fun qc3 => ?_) (fun qc3 => ?_)
  · have hf := gif_t hf qc3
    refine lv_iconst (v := 0) hx hb dX1_isIn_14 (by decide) ?_
    exact J_15 0 _ _ _ ls hf hw (lv_sub hl [] rfl)
  · have hf := gif_f hf qc3
    refine lv_iconst (v := 1) hx hb dX1_isIn_10 (by decide) ?_
    refine lv_goto (tgt := 15) hx hb dX1_isIn_11 (by decide) ?_
    exact J_15 1 _ _ _ ls hf hw (lv_sub hl [] rfl)
abbrev rm_X1_guestsIn : Room := { frames := 0, cells := 0, slots := 0, locals := 0 }
set_option maxHeartbeats 4000000 in
set_option maxRecDepth 100000 in
theorem c_X1_guestsIn (l : Launch) (E : gE) (N : Nat) (za0 : Nat) (zh : PH) {h9 : PH} {r9 : Int32} (hf : f_X1_guestsIn N za0 zh = some (r9, h9)) : Met l yX1_guestsIn (gWS yX1_guestsIn cX1_guestsIn 1 (some .int)) rm_X1_guestsIn (gPc E [.ref (gB E + za0)] zh) (gQi E r9 h9) 0 0 (gA E) := by
  refine gx_met (by decide) ?_ rfl
  intro p e s m below meth c X hr hlk hin2 hw
  have hx := X.1.1
  have hb := X.1.2.1
  have hl := lv_entry [.ref (gB E + za0)] (n := 1) (Nat.le_of_ble_eq_true rfl)
  rw [lg_entry_eq]
  generalize (lg_sl [.ref (gB E + za0)] ++ List.replicate (1 - (lg_sl [.ref (gB E + za0)]).length) Slot.unset).toArray = ls at hl ⊢
  have hl : lv_has ls 1 [(0, .ref (gB E + za0))] := hl
  unfold f_X1_guestsIn at hf
  refine lv_aload_n hx hb dX1_guestsIn_0 rfl (lv_at hl 0 rfl) ?_
  obtain ⟨zt1, qzt1, hf⟩ := gb_el hf
  refine gx_getI X hw qzt1 clX1 (by decide) mf_X1_43 dX1_guestsIn_1 ?_
  exact gx_iret X hr hlk hw hf dX1_guestsIn_4
abbrev rm_X11_bitOf : Room := { frames := 0, cells := 0, slots := 0, locals := 0 }
set_option maxHeartbeats 4000000 in
set_option maxRecDepth 100000 in
theorem c_X11_bitOf (l : Launch) (E : gE) (N : Nat) (za0 : Int32) (za1 : Int32) (zh : PH) {h9 : PH} {r9 : Int32} (hf : f_X11_bitOf N za0 za1 zh = some (r9, h9)) : Met l yX11_bitOf (gWS yX11_bitOf cX11_bitOf 2 (some .int)) rm_X11_bitOf (gPc E [.int za0, .int za1] zh) (gQi E r9 h9) 0 0 (gA E) := by
  refine gx_met (by decide) ?_ rfl
  intro p e s m below meth c X hr hlk hin2 hw
  have hx := X.1.1
  have hb := X.1.2.1
  have hl := lv_entry [.int za0, .int za1] (n := 2) (Nat.le_of_ble_eq_true rfl)
  rw [lg_entry_eq]
  generalize (lg_sl [.int za0, .int za1] ++ List.replicate (2 - (lg_sl [.int za0, .int za1]).length) Slot.unset).toArray = ls at hl ⊢
  have hl : lv_has ls 2 [(0, .int za0), (1, .int za1)] := hl
  unfold f_X11_bitOf at hf
  refine lv_iload_n hx hb dX11_bitOf_0 rfl (lv_at hl 0 rfl) ?_
  refine lv_iload_n hx hb dX11_bitOf_1 rfl (lv_at hl 1 rfl) ?_
  refine lv_ishr hx hb dX11_bitOf_2 ?_
  refine lv_iconst (v := 1) hx hb dX11_bitOf_3 (by decide) ?_
  refine lv_iand hx hb dX11_bitOf_4 ?_
  exact gx_iret X hr hlk hw hf dX11_bitOf_5
abbrev rm_X2_floorOf : Room := { frames := 0, cells := 0, slots := 0, locals := 0 }
set_option maxHeartbeats 4000000 in
set_option maxRecDepth 100000 in
theorem c_X2_floorOf (l : Launch) (E : gE) (N : Nat) (za0 : Nat) (za1 : Int32) (zh : PH) {h9 : PH} {r9 : Int32} (hf : f_X2_floorOf N za0 za1 zh = some (r9, h9)) : Met l yX2_floorOf (gWS yX2_floorOf cX2_floorOf 2 (some .int)) rm_X2_floorOf (gPc E [.ref (gB E + za0), .int za1] zh) (gQi E r9 h9) 0 0 (gA E) := by
  refine gx_met (by decide) ?_ rfl
  intro p e s m below meth c X hr hlk hin2 hw
  have hx := X.1.1
  have hb := X.1.2.1
  have hl := lv_entry [.ref (gB E + za0), .int za1] (n := 2) (Nat.le_of_ble_eq_true rfl)
  rw [lg_entry_eq]
  generalize (lg_sl [.ref (gB E + za0), .int za1] ++ List.replicate (2 - (lg_sl [.ref (gB E + za0), .int za1]).length) Slot.unset).toArray = ls at hl ⊢
  have hl : lv_has ls 2 [(0, .ref (gB E + za0)), (1, .int za1)] := hl
  have J_22 : ∀ (zs0 : Int32) (zh : PH) (H : Heap) (locs : List Loc) (ls : Array Slot), f_X2_floorOf_22 N zs0 zh = some (r9, h9) → gw E s zh H locs → lv_has ls 2 [] → W p l e rm_X2_floorOf s m [.ref (gB E + za0), .int za1].toArray below meth c H locs 0 0 (MQ below (gQi E r9 h9) [.ref (gB E + za0), .int za1].toArray s 0 0 (gA E)) (F0 m 22 ls [.int zs0]) := by
    intro zs0 zh H locs ls hf hw hl
    unfold f_X2_floorOf_22 at hf
    exact gx_iret X hr hlk hw hf dX2_floorOf_22
  have J_21 : ∀ (zh : PH) (H : Heap) (locs : List Loc) (ls : Array Slot), f_X2_floorOf_21 N zh = some (r9, h9) → gw E s zh H locs → lv_has ls 2 [] → W p l e rm_X2_floorOf s m [.ref (gB E + za0), .int za1].toArray below meth c H locs 0 0 (MQ below (gQi E r9 h9) [.ref (gB E + za0), .int za1].toArray s 0 0 (gA E)) (F0 m 21 ls []) := by
    intro zh H locs ls hf hw hl
    unfold f_X2_floorOf_21 at hf
    refine lv_iconst (v := 0) hx hb dX2_floorOf_21 (by decide) ?_
    exact J_22 0 _ _ _ ls hf hw (lv_sub hl [] rfl)
  unfold f_X2_floorOf at hf
  refine lv_iload_n hx hb dX2_floorOf_0 rfl (lv_at hl 1 rfl) ?_
  refine lv_if_lt (tgt := 21) hx hb dX2_floorOf_1 (by decide) (fun qc1 => ?_) (fun qc1 => ?_)
  · have hf := gif_t hf qc1
    exact J_21  _ _ _ ls hf hw (lv_sub hl [] rfl)
  · have hf := gif_f hf qc1
    refine lv_iload_n hx hb dX2_floorOf_4 rfl (lv_at hl 1 rfl) ?_
    refine lv_aload_n hx hb dX2_floorOf_5 rfl (lv_at hl 0 rfl) ?_
    obtain ⟨zt2, qzt2, hf⟩ := gb_el hf
    refine gx_getI X hw qzt2 clX2 (by decide) mf_X2_31 dX2_floorOf_6 ?_
    refine lv_icmp_ge (tgt := 21) hx hb dX2_floorOf_9 (by decide) (fun qc3 => ?_) (fun qc3 => ?_)
    · have hf := gif_t hf qc3
      exact J_21  _ _ _ ls hf hw (lv_sub hl [] rfl)
    · have hf := gif_f hf qc3
      refine lv_aload_n hx hb dX2_floorOf_12 rfl (lv_at hl 0 rfl) ?_
      obtain ⟨zt4, qzt4, hf⟩ := gb_el hf
      refine gx_getR X hw qzt4 clX2 (by decide) mf_X2_11 dX2_floorOf_13 ?_
      refine lv_iload_n hx hb dX2_floorOf_16 rfl (lv_at hl 1 rfl) ?_
      refine W.eq (g2 := F0 m 17 ls [.int za1, .ref (gB E + zt4)]) rfl ?_
      obtain ⟨zt5, qzt5, hf⟩ := gb_el hf
      refine gx_iald X hw qzt5 dX2_floorOf_17 ?_
      refine lv_goto (tgt := 22) hx hb dX2_floorOf_18 (by decide) ?_
      exact J_22 zt5 _ _ _ ls hf hw (lv_sub hl [] rfl)
abbrev rm_X2_floorsBetween : Room := { frames := 1, cells := 0, slots := 0, locals := 21 }
set_option maxHeartbeats 4000000 in
set_option maxRecDepth 100000 in
theorem c_X2_floorsBetween (l : Launch) (E : gE) (N : Nat) (za0 : Nat) (za1 : Int32) (za2 : Int32) (zh : PH) {h9 : PH} {r9 : Int32} (hf : f_X2_floorsBetween N za0 za1 za2 zh = some (r9, h9)) : Met l yX2_floorsBetween (gWS yX2_floorsBetween cX2_floorsBetween 3 (some .int)) rm_X2_floorsBetween (gPc E [.ref (gB E + za0), .int za1, .int za2] zh) (gQi E r9 h9) 0 0 (gA E) := by
  refine gx_met (by decide) ?_ rfl
  intro p e s m below meth c X hr hlk hin2 hw
  have hx := X.1.1
  have hb := X.1.2.1
  have hl := lv_entry [.ref (gB E + za0), .int za1, .int za2] (n := 3) (Nat.le_of_ble_eq_true rfl)
  rw [lg_entry_eq]
  generalize (lg_sl [.ref (gB E + za0), .int za1, .int za2] ++ List.replicate (3 - (lg_sl [.ref (gB E + za0), .int za1, .int za2]).length) Slot.unset).toArray = ls at hl ⊢
  have hl : lv_has ls 3 [(0, .ref (gB E + za0)), (1, .int za1), (2, .int za2)] := hl
  unfold f_X2_floorsBetween at hf
  refine lv_aload_n hx hb dX2_floorsBetween_0 rfl (lv_at hl 0 rfl) ?_
  refine lv_iload_n hx hb dX2_floorsBetween_1 rfl (lv_at hl 1 rfl) ?_
  obtain ⟨qizh1, hf⟩ := gg_el hf
  obtain ⟨zt2, zh1, qzh1, hf⟩ := gc_el hf
  refine gx_ki (gx_runV (As := [.int za1]) (rest := []) X hw (c_X2_floorOf l E N za0 za1 zh qzh1) kX2_floorOf mm_X2_50 qizh1 clX2 ⟨Nat.le_of_ble_eq_true rfl, Nat.le_of_ble_eq_true rfl⟩ rfl rfl rfl hl.1 (Nat.le_of_ble_eq_true rfl) rfl dX2_floorsBetween_2 ⟨Nat.le_of_ble_eq_true rfl, Nat.le_of_ble_eq_true rfl⟩) hw (fun H locs hw => ?_)
  refine lv_aload_n hx hb dX2_floorsBetween_5 rfl (lv_at hl 0 rfl) ?_
  refine lv_iload_n hx hb dX2_floorsBetween_6 rfl (lv_at hl 2 rfl) ?_
  obtain ⟨qizh3, hf⟩ := gg_el hf
  obtain ⟨zt4, zh3, qzh3, hf⟩ := gc_el hf
  refine gx_ki (gx_runV (As := [.int za2]) (rest := [.int zt2]) X hw (c_X2_floorOf l E N za0 za2 zh1 qzh3) kX2_floorOf mm_X2_50 qizh3 clX2 ⟨Nat.le_of_ble_eq_true rfl, Nat.le_of_ble_eq_true rfl⟩ rfl rfl rfl hl.1 (Nat.le_of_ble_eq_true rfl) rfl dX2_floorsBetween_7 ⟨Nat.le_of_ble_eq_true rfl, Nat.le_of_ble_eq_true rfl⟩) hw (fun H locs hw => ?_)
  refine lv_isub hx hb dX2_floorsBetween_10 ?_
  refine gx_abs X mm_X2_54 mt_abs mI_java_lang_Math mx_abs hl.1 (Nat.le_of_ble_eq_true rfl) (Nat.le_of_ble_eq_true rfl) (Nat.le_of_ble_eq_true rfl) (Nat.le_of_ble_eq_true rfl) dX2_floorsBetween_11 ?_
  exact gx_iret X hr hlk hw hf dX2_floorsBetween_14
abbrev rm_X2_minutesNeeded : Room := { frames := 2, cells := 0, slots := 0, locals := 43 }
set_option maxHeartbeats 4000000 in
set_option maxRecDepth 100000 in
theorem c_X2_minutesNeeded (l : Launch) (E : gE) (N : Nat) (za0 : Nat) (za1 : Int32) (za2 : Int32) (za3 : Int32) (zh : PH) {h9 : PH} {r9 : Int32} (hf : f_X2_minutesNeeded N za0 za1 za2 za3 zh = some (r9, h9)) : Met l yX2_minutesNeeded (gWS yX2_minutesNeeded cX2_minutesNeeded 4 (some .int)) rm_X2_minutesNeeded (gPc E [.ref (gB E + za0), .int za1, .int za2, .int za3] zh) (gQi E r9 h9) 0 0 (gA E) := by
  refine gx_met (by decide) ?_ rfl
  intro p e s m below meth c X hr hlk hin2 hw
  have hx := X.1.1
  have hb := X.1.2.1
  have hl := lv_entry [.ref (gB E + za0), .int za1, .int za2, .int za3] (n := 4) (Nat.le_of_ble_eq_true rfl)
  rw [lg_entry_eq]
  generalize (lg_sl [.ref (gB E + za0), .int za1, .int za2, .int za3] ++ List.replicate (4 - (lg_sl [.ref (gB E + za0), .int za1, .int za2, .int za3]).length) Slot.unset).toArray = ls at hl ⊢
  have hl : lv_has ls 4 [(0, .ref (gB E + za0)), (1, .int za1), (2, .int za2), (3, .int za3)] := hl
  unfold f_X2_minutesNeeded at hf
  refine lv_iconst (v := 1) hx hb dX2_minutesNeeded_0 (by decide) ?_
  refine lv_iconst (v := 2) hx hb dX2_minutesNeeded_1 (by decide) ?_
  refine lv_aload_n hx hb dX2_minutesNeeded_2 rfl (lv_at hl 0 rfl) ?_
  refine lv_iload_n hx hb dX2_minutesNeeded_3 rfl (lv_at hl 2 rfl) ?_
  refine lv_iload_n hx hb dX2_minutesNeeded_4 rfl (lv_at hl 3 rfl) ?_
  obtain ⟨qizh1, hf⟩ := gg_el hf
  obtain ⟨zt2, zh1, qzh1, hf⟩ := gc_el hf
  refine gx_ki (gx_runV (As := [.int za2, .int za3]) (rest := [.int 2, .int 1]) X hw (c_X2_floorsBetween l E N za0 za2 za3 zh qzh1) kX2_floorsBetween mm_X2_59 qizh1 clX2 ⟨Nat.le_of_ble_eq_true rfl, Nat.le_of_ble_eq_true rfl⟩ rfl rfl rfl hl.1 (Nat.le_of_ble_eq_true rfl) rfl dX2_minutesNeeded_5 ⟨Nat.le_of_ble_eq_true rfl, Nat.le_of_ble_eq_true rfl⟩) hw (fun H locs hw => ?_)
  refine lv_imul hx hb dX2_minutesNeeded_8 ?_
  refine lv_iadd hx hb dX2_minutesNeeded_9 ?_
  refine lv_aload_n hx hb dX2_minutesNeeded_10 rfl (lv_at hl 0 rfl) ?_
  refine W.eq (g2 := F0 m 11 ls [.ref (gB E + za0), .int (1 + (2 * zt2))]) rfl ?_
  obtain ⟨zt3, qzt3, hf⟩ := gb_el hf
  refine gx_getR X hw qzt3 clX2 (by decide) mf_X2_18 dX2_minutesNeeded_11 ?_
  refine lv_iload_n hx hb dX2_minutesNeeded_14 rfl (lv_at hl 1 rfl) ?_
  obtain ⟨zt4, qzt4, hf⟩ := gb_el hf
  refine gx_iald X hw qzt4 dX2_minutesNeeded_15 ?_
  refine lv_bipush (v := 10) hx hb dX2_minutesNeeded_16 (by decide) ?_
  refine lv_idiv hx hb dX2_minutesNeeded_18 (by decide) ?_
  refine lv_iadd hx hb dX2_minutesNeeded_19 ?_
  exact gx_iret X hr hlk hw hf dX2_minutesNeeded_20
abbrev rm_X2_stepsBetween : Room := { frames := 2, cells := 0, slots := 0, locals := 43 }
set_option maxHeartbeats 4000000 in
set_option maxRecDepth 100000 in
theorem c_X2_stepsBetween (l : Launch) (E : gE) (N : Nat) (za0 : Nat) (za1 : Int32) (za2 : Int32) (zh : PH) {h9 : PH} {r9 : Int32} (hf : f_X2_stepsBetween N za0 za1 za2 zh = some (r9, h9)) : Met l yX2_stepsBetween (gWS yX2_stepsBetween cX2_stepsBetween 3 (some .int)) rm_X2_stepsBetween (gPc E [.ref (gB E + za0), .int za1, .int za2] zh) (gQi E r9 h9) 0 0 (gA E) := by
  refine gx_met (by decide) ?_ rfl
  intro p e s m below meth c X hr hlk hin2 hw
  have hx := X.1.1
  have hb := X.1.2.1
  have hl := lv_entry [.ref (gB E + za0), .int za1, .int za2] (n := 3) (Nat.le_of_ble_eq_true rfl)
  rw [lg_entry_eq]
  generalize (lg_sl [.ref (gB E + za0), .int za1, .int za2] ++ List.replicate (3 - (lg_sl [.ref (gB E + za0), .int za1, .int za2]).length) Slot.unset).toArray = ls at hl ⊢
  have hl : lv_has ls 3 [(0, .ref (gB E + za0)), (1, .int za1), (2, .int za2)] := hl
  unfold f_X2_stepsBetween at hf
  refine lv_iload_n hx hb dX2_stepsBetween_0 rfl (lv_at hl 1 rfl) ?_
  refine lv_iload_n hx hb dX2_stepsBetween_1 rfl (lv_at hl 2 rfl) ?_
  refine lv_isub hx hb dX2_stepsBetween_2 ?_
  refine gx_abs X mm_X2_54 mt_abs mI_java_lang_Math mx_abs hl.1 (Nat.le_of_ble_eq_true rfl) (Nat.le_of_ble_eq_true rfl) (Nat.le_of_ble_eq_true rfl) (Nat.le_of_ble_eq_true rfl) dX2_stepsBetween_3 ?_
  refine lv_bipush (v := 10) hx hb dX2_stepsBetween_6 (by decide) ?_
  refine lv_aload_n hx hb dX2_stepsBetween_8 rfl (lv_at hl 0 rfl) ?_
  refine lv_iload_n hx hb dX2_stepsBetween_9 rfl (lv_at hl 1 rfl) ?_
  refine lv_iload_n hx hb dX2_stepsBetween_10 rfl (lv_at hl 2 rfl) ?_
  obtain ⟨qizh1, hf⟩ := gg_el hf
  obtain ⟨zt2, zh1, qzh1, hf⟩ := gc_el hf
  refine gx_ki (gx_runV (As := [.int za1, .int za2]) (rest := [.int 10, .int (gabs (za1 - za2))]) X hw (c_X2_floorsBetween l E N za0 za1 za2 zh qzh1) kX2_floorsBetween mm_X2_59 qizh1 clX2 ⟨Nat.le_of_ble_eq_true rfl, Nat.le_of_ble_eq_true rfl⟩ rfl rfl rfl hl.1 (Nat.le_of_ble_eq_true rfl) rfl dX2_stepsBetween_11 ⟨Nat.le_of_ble_eq_true rfl, Nat.le_of_ble_eq_true rfl⟩) hw (fun H locs hw => ?_)
  refine W.eq (g2 := F0 m 14 ls [.int zt2, .int 10, .int (gabs (za1 - za2))]) rfl ?_
  refine lv_imul hx hb dX2_stepsBetween_14 ?_
  refine lv_iadd hx hb dX2_stepsBetween_15 ?_
  exact gx_iret X hr hlk hw hf dX2_stepsBetween_16
abbrev rm_X1_go : Room := { frames := 3, cells := 0, slots := 0, locals := 66 }
set_option maxHeartbeats 4000000 in
set_option maxRecDepth 100000 in
theorem c_X1_go (l : Launch) (E : gE) (N : Nat) (za0 : Nat) (za1 : Nat) (za2 : Int32) (za3 : Int32) (za4 : (Option Nat)) (zh : PH) {h9 : PH} (hf : f_X1_go N za0 za1 za2 za3 za4 zh = some h9) : Met l yX1_go (gWS yX1_go cX1_go 8 none) rm_X1_go (gPc E [.ref (gB E + za0), .ref (gB E + za1), .int za2, .int za3, gq E za4] zh) (gQv E h9) 0 0 (gA E) := by
  refine gx_met (by decide) ?_ rfl
  intro p e s m below meth c X hr hlk hin2 hw
  have hx := X.1.1
  have hb := X.1.2.1
  have hl := lv_entry [.ref (gB E + za0), .ref (gB E + za1), .int za2, .int za3, gq E za4] (n := 8) (by cases za4 <;> exact Nat.le_of_ble_eq_true rfl)
  rw [lg_entry_eq]
  generalize (lg_sl [.ref (gB E + za0), .ref (gB E + za1), .int za2, .int za3, gq E za4] ++ List.replicate (8 - (lg_sl [.ref (gB E + za0), .ref (gB E + za1), .int za2, .int za3, gq E za4]).length) Slot.unset).toArray = ls at hl ⊢
  have hl : lv_has ls 8 [(0, .ref (gB E + za0)), (1, .ref (gB E + za1)), (2, .int za2), (3, .int za3), (4, gq E za4)] := by cases za4 <;> exact hl
  have J_157 : ∀ (zh : PH) (H : Heap) (locs : List Loc) (ls : Array Slot), f_X1_go_157 N zh = some h9 → gw E s zh H locs → lv_has ls 8 [] → W p l e rm_X1_go s m [.ref (gB E + za0), .ref (gB E + za1), .int za2, .int za3, gq E za4].toArray below meth c H locs 0 0 (MQ below (gQv E h9) [.ref (gB E + za0), .ref (gB E + za1), .int za2, .int za3, gq E za4].toArray s 0 0 (gA E)) (F0 m 157 ls []) := by
    intro zh H locs ls hf hw hl
    unfold f_X1_go_157 at hf
    exact gx_vret X hr hlk hw hf dX1_go_157
  have J_141 : ∀ (zv2 : Int32) (zv3 : Int32) (zv4 : (Option Nat)) (zv5 : Int32) (zv7 : Int32) (zh : PH) (H : Heap) (locs : List Loc) (ls : Array Slot), f_X1_go_141 N zv2 zv3 zv4 zv5 zv7 zh = some h9 → gw E s zh H locs → lv_has ls 8 [(2, .int zv2), (3, .int zv3), (4, gq E zv4), (5, .int zv5), (7, .int zv7)] → W p l e rm_X1_go s m [.ref (gB E + za0), .ref (gB E + za1), .int za2, .int za3, gq E za4].toArray below meth c H locs 0 0 (MQ below (gQv E h9) [.ref (gB E + za0), .ref (gB E + za1), .int za2, .int za3, gq E za4].toArray s 0 0 (gA E)) (F0 m 141 ls []) := by
    intro zv2 zv3 zv4 zv5 zv7 zh H locs ls hf hw hl
    unfold f_X1_go_141 at hf
    refine gx_aloadQ hx hb dX1_go_141 (lv_at hl 2 rfl) ?_
    cases zv4 with
    | none =>
      have hf := gqm_n hf
      have hl : lv_has ls 8 [(2, .int zv2), (3, .int zv3), (4, .null), (5, .int zv5), (7, .int zv7)] := hl
      refine lv_ifnullN (tgt := 157) hx hb dX1_go_143 (by decide) ?_
      exact J_157  _ _ _ ls hf hw (lv_sub hl [] rfl)
    | some zp1 =>
      have hf := gqm_s hf
      have hl : lv_has ls 8 [(2, .int zv2), (3, .int zv3), (4, .ref (gB E + zp1)), (5, .int zv5), (7, .int zv7)] := hl
      refine lv_ifnull hx hb dX1_go_143 ?_
      refine lv_aload hx hb dX1_go_146 (lv_at hl 2 rfl) ?_
      refine lv_iload_n hx hb dX1_go_148 rfl (lv_at hl 0 rfl) ?_
      refine lv_iload hx hb dX1_go_149 (lv_at hl 3 rfl) ?_
      refine lv_iload_n hx hb dX1_go_151 rfl (lv_at hl 1 rfl) ?_
      refine lv_iload hx hb dX1_go_152 (lv_at hl 4 rfl) ?_
      obtain ⟨qizh2, hf⟩ := gg_el hf
      obtain ⟨zh2, qzh2, hf⟩ := gb_el hf
      refine gx_kv (gx_runV (As := [.int zv2, .int zv5, .int zv3, .int zv7]) (rest := []) X hw (c_X0_write l E N zp1 zv2 zv5 zv3 zv7 zh qzh2) kX0_write mm_X1_96 qizh2 clX0 ⟨Nat.le_of_ble_eq_true rfl, Nat.le_of_ble_eq_true rfl⟩ rfl rfl rfl hl.1 (Nat.le_of_ble_eq_true rfl) rfl dX1_go_154 ⟨Nat.le_of_ble_eq_true rfl, Nat.le_of_ble_eq_true rfl⟩) hw (fun H locs hw => ?_)
      exact J_157  _ _ _ ls hf hw (lv_sub hl [] rfl)
  have J_53 : ∀ (zv0 : Nat) (zv1 : Nat) (zv2 : Int32) (zv3 : Int32) (zv4 : (Option Nat)) (zv5 : Int32) (zv6 : Int32) (zv7 : Int32) (zh : PH) (H : Heap) (locs : List Loc) (ls : Array Slot), f_X1_go_53 N zv0 zv1 zv2 zv3 zv4 zv5 zv6 zv7 zh = some h9 → gw E s zh H locs → lv_has ls 8 [(0, .ref (gB E + zv0)), (1, .ref (gB E + zv1)), (2, .int zv2), (3, .int zv3), (4, gq E zv4), (5, .int zv5), (6, .int zv6), (7, .int zv7)] → W p l e rm_X1_go s m [.ref (gB E + za0), .ref (gB E + za1), .int za2, .int za3, gq E za4].toArray below meth c H locs 0 0 (MQ below (gQv E h9) [.ref (gB E + za0), .ref (gB E + za1), .int za2, .int za3, gq E za4].toArray s 0 0 (gA E)) (F0 m 53 ls []) := by
    intro zv0 zv1 zv2 zv3 zv4 zv5 zv6 zv7 zh H locs ls hf hw hl
    unfold f_X1_go_53 at hf
    refine lv_aload_n hx hb dX1_go_53 rfl (lv_at hl 0 rfl) ?_
    obtain ⟨zt1, qzt1, hf⟩ := gb_el hf
    refine gx_getR X hw qzt1 clX1 (by decide) mf_X1_15 dX1_go_54 ?_
    refine lv_iload_n hx hb dX1_go_57 rfl (lv_at hl 2 rfl) ?_
    refine lv_iload_n hx hb dX1_go_58 rfl (lv_at hl 3 rfl) ?_
    obtain ⟨zh2, qzh2, hf⟩ := gb_el hf
    refine gx_iast X hw qzh2 dX1_go_59 (fun H locs hw => ?_)
    refine lv_aload_n hx hb dX1_go_60 rfl (lv_at hl 0 rfl) ?_
    obtain ⟨zt3, qzt3, hf⟩ := gb_el hf
    refine gx_getR X hw qzt3 clX1 (by decide) mf_X1_21 dX1_go_61 ?_
    refine lv_iload_n hx hb dX1_go_64 rfl (lv_at hl 2 rfl) ?_
    refine lv_dup2_11 hx hb dX1_go_65 rfl rfl ?_
    refine W.eq (g2 := F0 m 66 ls [.int zv2, .ref (gB E + zt3), .int zv2, .ref (gB E + zt3)]) rfl ?_
    obtain ⟨zt4, qzt4, hf⟩ := gb_el hf
    refine gx_iald X hw qzt4 dX1_go_66 ?_
    refine lv_iload hx hb dX1_go_67 (lv_at hl 6 rfl) ?_
    refine lv_iadd hx hb dX1_go_69 ?_
    obtain ⟨zh5, qzh5, hf⟩ := gb_el hf
    refine gx_iast X hw qzh5 dX1_go_70 (fun H locs hw => ?_)
    refine lv_aload_n hx hb dX1_go_71 rfl (lv_at hl 0 rfl) ?_
    refine lv_dup hx hb dX1_go_72 rfl ?_
    obtain ⟨zt6, qzt6, hf⟩ := gb_el hf
    refine gx_getI X hw qzt6 clX1 (by decide) mf_X1_30 dX1_go_73 ?_
    refine lv_iload hx hb dX1_go_76 (lv_at hl 6 rfl) ?_
    refine lv_iadd hx hb dX1_go_78 ?_
    obtain ⟨zh7, qzh7, hf⟩ := gb_el hf
    refine gx_putV X hw qzh7 clX1 (by decide) mf_X1_30 rfl rfl rfl dX1_go_79 (fun H locs hw => ?_)
    refine W.eq (g2 := F0 m 82 ls []) rfl ?_
    refine lv_aload_n hx hb dX1_go_82 rfl (lv_at hl 0 rfl) ?_
    refine lv_dup hx hb dX1_go_83 rfl ?_
    obtain ⟨zt8, qzt8, hf⟩ := gb_el hf
    refine gx_getI X hw qzt8 clX1 (by decide) mf_X1_40 dX1_go_84 ?_
    refine lv_iload hx hb dX1_go_87 (lv_at hl 7 rfl) ?_
    refine lv_iadd hx hb dX1_go_89 ?_
    obtain ⟨zh9, qzh9, hf⟩ := gb_el hf
    refine gx_putV X hw qzh9 clX1 (by decide) mf_X1_40 rfl rfl rfl dX1_go_90 (fun H locs hw => ?_)
    refine lv_iload hx hb dX1_go_93 (lv_at hl 5 rfl) ?_
    refine lv_iconst (v := (-1)) hx hb dX1_go_95 (by decide) ?_
    refine lv_icmp_eq (tgt := 141) hx hb dX1_go_96 (by decide) (fun qc10 => ?_) (fun qc10 => ?_)
    · have hf := gif_t hf qc10
      exact J_141 zv2 zv3 zv4 zv5 zv7 _ _ _ ls hf hw (lv_sub hl [2, 3, 4, 5, 7] rfl)
    · have hf := gif_f hf qc10
      refine lv_iload_n hx hb dX1_go_99 rfl (lv_at hl 3 rfl) ?_
      refine W.eq (g2 := F0 m 100 ls [.int zv3]) rfl ?_
      refine lv_iconst (v := (-1)) hx hb dX1_go_100 (by decide) ?_
      refine lv_icmp_eq (tgt := 141) hx hb dX1_go_101 (by decide) (fun qc11 => ?_) (fun qc11 => ?_)
      · have hf := gif_t hf qc11
        exact J_141 zv2 zv3 zv4 zv5 zv7 _ _ _ ls hf hw (lv_sub hl [2, 3, 4, 5, 7] rfl)
      · have hf := gif_f hf qc11
        refine lv_aload_n hx hb dX1_go_104 rfl (lv_at hl 0 rfl) ?_
        obtain ⟨zt12, qzt12, hf⟩ := gb_el hf
        refine gx_getR X hw qzt12 clX1 (by decide) mf_X1_18 dX1_go_105 ?_
        refine lv_iload_n hx hb dX1_go_108 rfl (lv_at hl 2 rfl) ?_
        refine lv_dup2_11 hx hb dX1_go_109 rfl rfl ?_
        obtain ⟨zt13, qzt13, hf⟩ := gb_el hf
        refine gx_iald X hw qzt13 dX1_go_110 ?_
        refine lv_iconst (v := 1) hx hb dX1_go_111 (by decide) ?_
        refine lv_iadd hx hb dX1_go_112 ?_
        obtain ⟨zh14, qzh14, hf⟩ := gb_el hf
        refine gx_iast X hw qzh14 dX1_go_113 (fun H locs hw => ?_)
        refine W.eq (g2 := F0 m 114 ls []) rfl ?_
        refine lv_aload_n hx hb dX1_go_114 rfl (lv_at hl 0 rfl) ?_
        refine lv_dup hx hb dX1_go_115 rfl ?_
        obtain ⟨zt15, qzt15, hf⟩ := gb_el hf
        refine gx_getI X hw qzt15 clX1 (by decide) mf_X1_37 dX1_go_116 ?_
        refine lv_iconst (v := 1) hx hb dX1_go_119 (by decide) ?_
        refine lv_iadd hx hb dX1_go_120 ?_
        obtain ⟨zh16, qzh16, hf⟩ := gb_el hf
        refine gx_putV X hw qzh16 clX1 (by decide) mf_X1_37 rfl rfl rfl dX1_go_121 (fun H locs hw => ?_)
        refine lv_aload_n hx hb dX1_go_124 rfl (lv_at hl 0 rfl) ?_
        refine lv_dup hx hb dX1_go_125 rfl ?_
        obtain ⟨zt17, qzt17, hf⟩ := gb_el hf
        refine gx_getI X hw qzt17 clX1 (by decide) mf_X1_34 dX1_go_126 ?_
        refine lv_aload_n hx hb dX1_go_129 rfl (lv_at hl 1 rfl) ?_
        refine W.eq (g2 := F0 m 130 ls [.ref (gB E + zv1), .int zt17, .ref (gB E + zv0)]) rfl ?_
        obtain ⟨zt18, qzt18, hf⟩ := gb_el hf
        refine gx_getI X hw qzt18 clX2 (by decide) mf_X1_93 dX1_go_130 ?_
        refine lv_iload_n hx hb dX1_go_133 rfl (lv_at hl 2 rfl) ?_
        obtain ⟨zt20, zh19, qzh19, hf⟩ := gc_el hf
        refine gx_ki (gx_runSN (As := [.int zt18, .int zv2]) (rest := [.int zt17, .ref (gB E + zv0)]) X hw (c_X11_bitOf l E N zt18 zv2 zh16 qzh19) kX11_bitOf mn_X1_68 ⟨Nat.le_of_ble_eq_true rfl, Nat.le_of_ble_eq_true rfl⟩ rfl rfl rfl hl.1 (Nat.le_of_ble_eq_true rfl) rfl dX1_go_134 ⟨Nat.le_of_ble_eq_true rfl, Nat.le_of_ble_eq_true rfl⟩) hw (fun H locs hw => ?_)
        refine lv_iadd hx hb dX1_go_137 ?_
        obtain ⟨zh21, qzh21, hf⟩ := gb_el hf
        refine gx_putV X hw qzh21 clX1 (by decide) mf_X1_34 rfl rfl rfl dX1_go_138 (fun H locs hw => ?_)
        exact J_141 zv2 zv3 zv4 zv5 zv7 _ _ _ ls hf hw (lv_sub hl [2, 3, 4, 5, 7] rfl)
  have J_41 : ∀ (zv0 : Nat) (zv1 : Nat) (zv2 : Int32) (zv3 : Int32) (zv4 : (Option Nat)) (zv5 : Int32) (zv6 : Int32) (zv7 : Int32) (zh : PH) (H : Heap) (locs : List Loc) (ls : Array Slot), f_X1_go_41 N zv0 zv1 zv2 zv3 zv4 zv5 zv6 zv7 zh = some h9 → gw E s zh H locs → lv_has ls 8 [(0, .ref (gB E + zv0)), (1, .ref (gB E + zv1)), (2, .int zv2), (3, .int zv3), (4, gq E zv4), (5, .int zv5), (6, .int zv6), (7, .int zv7)] → W p l e rm_X1_go s m [.ref (gB E + za0), .ref (gB E + za1), .int za2, .int za3, gq E za4].toArray below meth c H locs 0 0 (MQ below (gQv E h9) [.ref (gB E + za0), .ref (gB E + za1), .int za2, .int za3, gq E za4].toArray s 0 0 (gA E)) (F0 m 41 ls []) := by
    intro zv0 zv1 zv2 zv3 zv4 zv5 zv6 zv7 zh H locs ls hf hw hl
    unfold f_X1_go_41 at hf
    refine lv_iload_n hx hb dX1_go_41 rfl (lv_at hl 3 rfl) ?_
    refine lv_iconst (v := (-1)) hx hb dX1_go_42 (by decide) ?_
    refine lv_icmp_eq (tgt := 53) hx hb dX1_go_43 (by decide) (fun qc1 => ?_) (fun qc1 => ?_)
    · have hf := gif_t hf qc1
      exact J_53 zv0 zv1 zv2 zv3 zv4 zv5 zv6 zv7 _ _ _ ls hf hw (lv_sub hl [0, 1, 2, 3, 4, 5, 6, 7] rfl)
    · have hf := gif_f hf qc1
      refine lv_aload_n hx hb dX1_go_46 rfl (lv_at hl 0 rfl) ?_
      obtain ⟨zt2, qzt2, hf⟩ := gb_el hf
      refine gx_getR X hw qzt2 clX1 (by decide) mf_X1_9 dX1_go_47 ?_
      refine lv_iload_n hx hb dX1_go_50 rfl (lv_at hl 3 rfl) ?_
      refine lv_iload_n hx hb dX1_go_51 rfl (lv_at hl 2 rfl) ?_
      obtain ⟨zh3, qzh3, hf⟩ := gb_el hf
      refine gx_iast X hw qzh3 dX1_go_52 (fun H locs hw => ?_)
      exact J_53 zv0 zv1 zv2 zv3 zv4 zv5 zv6 zv7 _ _ _ ls hf hw (lv_sub hl [0, 1, 2, 3, 4, 5, 6, 7] rfl)
  unfold f_X1_go at hf
  refine lv_aload_n hx hb dX1_go_0 rfl (lv_at hl 0 rfl) ?_
  obtain ⟨zt1, qzt1, hf⟩ := gb_el hf
  refine gx_getR X hw qzt1 clX1 (by decide) mf_X1_15 dX1_go_1 ?_
  refine lv_iload_n hx hb dX1_go_4 rfl (lv_at hl 2 rfl) ?_
  obtain ⟨zt2, qzt2, hf⟩ := gb_el hf
  refine gx_iald X hw qzt2 dX1_go_5 ?_
  refine lv_istore (lv' := [(5, .int zt2), (0, .ref (gB E + za0)), (1, .ref (gB E + za1)), (2, .int za2), (3, .int za3), (4, gq E za4)]) hx hb dX1_go_6 hl (by decide) (by cases za4 <;> rfl) (fun ls hl => ?_)
  refine lv_aload_n hx hb dX1_go_8 rfl (lv_at hl 2 rfl) ?_
  refine lv_iload hx hb dX1_go_9 (lv_at hl 0 rfl) ?_
  refine lv_iload_n hx hb dX1_go_11 rfl (lv_at hl 4 rfl) ?_
  obtain ⟨qizh3, hf⟩ := gg_el hf
  obtain ⟨zt4, zh3, qzh3, hf⟩ := gc_el hf
  refine gx_ki (gx_runV (As := [.int zt2, .int za3]) (rest := []) X hw (c_X2_stepsBetween l E N za1 zt2 za3 zh qzh3) kX2_stepsBetween mm_X1_86 qizh3 clX2 ⟨Nat.le_of_ble_eq_true rfl, Nat.le_of_ble_eq_true rfl⟩ rfl rfl rfl hl.1 (Nat.le_of_ble_eq_true rfl) rfl dX1_go_12 ⟨Nat.le_of_ble_eq_true rfl, Nat.le_of_ble_eq_true rfl⟩) hw (fun H locs hw => ?_)
  refine W.eq (g2 := F0 m 15 ls [.int zt4]) rfl ?_
  refine lv_istore (lv' := [(6, .int zt4), (5, .int zt2), (0, .ref (gB E + za0)), (1, .ref (gB E + za1)), (2, .int za2), (3, .int za3), (4, gq E za4)]) hx hb dX1_go_15 hl (by decide) rfl (fun ls hl => ?_)
  refine lv_aload_n hx hb dX1_go_17 rfl (lv_at hl 3 rfl) ?_
  refine lv_iload_n hx hb dX1_go_18 rfl (lv_at hl 4 rfl) ?_
  refine lv_iload hx hb dX1_go_19 (lv_at hl 1 rfl) ?_
  refine lv_iload_n hx hb dX1_go_21 rfl (lv_at hl 5 rfl) ?_
  obtain ⟨qizh5, hf⟩ := gg_el hf
  obtain ⟨zt6, zh5, qzh5, hf⟩ := gc_el hf
  refine gx_ki (gx_runV (As := [.int za2, .int zt2, .int za3]) (rest := []) X hw (c_X2_minutesNeeded l E N za1 za2 zt2 za3 zh3 qzh5) kX2_minutesNeeded mm_X1_89 qizh5 clX2 ⟨Nat.le_of_ble_eq_true rfl, Nat.le_of_ble_eq_true rfl⟩ rfl rfl rfl hl.1 (Nat.le_of_ble_eq_true rfl) rfl dX1_go_22 ⟨Nat.le_of_ble_eq_true rfl, Nat.le_of_ble_eq_true rfl⟩) hw (fun H locs hw => ?_)
  refine lv_istore (lv' := [(7, .int zt6), (6, .int zt4), (5, .int zt2), (0, .ref (gB E + za0)), (1, .ref (gB E + za1)), (2, .int za2), (3, .int za3), (4, gq E za4)]) hx hb dX1_go_25 hl (by decide) rfl (fun ls hl => ?_)
  refine lv_iload hx hb dX1_go_27 (lv_at hl 2 rfl) ?_
  refine lv_iconst (v := (-1)) hx hb dX1_go_29 (by decide) ?_
  refine lv_icmp_eq (tgt := 41) hx hb dX1_go_30 (by decide) (fun qc7 => ?_) (fun qc7 => ?_)
  · have hf := gif_t hf qc7
    exact J_41 za0 za1 za2 za3 za4 zt2 zt4 zt6 _ _ _ ls hf hw (lv_sub hl [3, 4, 5, 6, 7, 2, 1, 0] rfl)
  · have hf := gif_f hf qc7
    refine W.eq (g2 := F0 m 33 ls []) rfl ?_
    refine lv_aload_n hx hb dX1_go_33 rfl (lv_at hl 3 rfl) ?_
    obtain ⟨zt8, qzt8, hf⟩ := gb_el hf
    refine gx_getR X hw qzt8 clX1 (by decide) mf_X1_9 dX1_go_34 ?_
    refine lv_iload hx hb dX1_go_37 (lv_at hl 2 rfl) ?_
    refine lv_iconst (v := (-1)) hx hb dX1_go_39 (by decide) ?_
    obtain ⟨zh9, qzh9, hf⟩ := gb_el hf
    refine gx_iast X hw qzh9 dX1_go_40 (fun H locs hw => ?_)
    exact J_41 za0 za1 za2 za3 za4 zt2 zt4 zt6 _ _ _ ls hf hw (lv_sub hl [3, 4, 5, 6, 7, 2, 1, 0] rfl)
abbrev rm_X1_takeIn : Room := { frames := 4, cells := 0, slots := 0, locals := 93 }
set_option maxHeartbeats 4000000 in
set_option maxRecDepth 100000 in
theorem c_X1_takeIn (l : Launch) (E : gE) (N : Nat) (za0 : Nat) (za1 : Nat) (za2 : Int32) (za3 : (Option Nat)) (zh : PH) {h9 : PH} (hf : f_X1_takeIn N za0 za1 za2 za3 zh = some h9) : Met l yX1_takeIn (gWS yX1_takeIn cX1_takeIn 6 none) rm_X1_takeIn (gPc E [.ref (gB E + za0), .ref (gB E + za1), .int za2, gq E za3] zh) (gQv E h9) 0 0 (gA E) := by
  refine gx_met (by decide) ?_ rfl
  intro p e s m below meth c X hr hlk hin2 hw
  have hx := X.1.1
  have hb := X.1.2.1
  have hl := lv_entry [.ref (gB E + za0), .ref (gB E + za1), .int za2, gq E za3] (n := 6) (by cases za3 <;> exact Nat.le_of_ble_eq_true rfl)
  rw [lg_entry_eq]
  generalize (lg_sl [.ref (gB E + za0), .ref (gB E + za1), .int za2, gq E za3] ++ List.replicate (6 - (lg_sl [.ref (gB E + za0), .ref (gB E + za1), .int za2, gq E za3]).length) Slot.unset).toArray = ls at hl ⊢
  have hl : lv_has ls 6 [(0, .ref (gB E + za0)), (1, .ref (gB E + za1)), (2, .int za2), (3, gq E za3)] := by cases za3 <;> exact hl
  have L_43 : ∀ (zn43 : Nat) (zv0 : Nat) (zv1 : Nat) (zv2 : Int32) (zv3 : (Option Nat)) (zv5 : Int32) (zh : PH) (H : Heap) (locs : List Loc) (ls : Array Slot), gi (fun zk zs => f_X1_takeIn_43 N zk zs.1 zs.2.1 zs.2.2.1 zs.2.2.2.1 zs.2.2.2.2.1 zs.2.2.2.2.2) zn43 (zv0, zv1, zv2, zv3, zv5, zh) = some h9 → gw E s zh H locs → lv_has ls 6 [(0, .ref (gB E + zv0)), (1, .ref (gB E + zv1)), (2, .int zv2), (3, gq E zv3), (5, .int zv5)] → W p l e rm_X1_takeIn s m [.ref (gB E + za0), .ref (gB E + za1), .int za2, gq E za3].toArray below meth c H locs 0 0 (MQ below (gQv E h9) [.ref (gB E + za0), .ref (gB E + za1), .int za2, gq E za3].toArray s 0 0 (gA E)) (F0 m 43 ls []) := by
    intro zn43
    induction zn43 with
    | zero =>
      intro zv0 zv1 zv2 zv3 zv5 zh H locs ls hf
      cases hf
    | succ zn43 ih_43 =>
      intro zv0 zv1 zv2 zv3 zv5 zh H locs ls hf hw hl
      have hf := gi_s hf
      dsimp only at hf
      unfold f_X1_takeIn_43 at hf
      refine lv_iload hx hb dX1_takeIn_43 (lv_at hl 4 rfl) ?_
      refine lv_if_le (tgt := 71) hx hb dX1_takeIn_45 (by decide) (fun qc1 => ?_) (fun qc1 => ?_)
      · have hf := gif_t hf qc1
        refine lv_aload_n hx hb dX1_takeIn_71 rfl (lv_at hl 0 rfl) ?_
        refine lv_aload_n hx hb dX1_takeIn_72 rfl (lv_at hl 1 rfl) ?_
        refine lv_iload_n hx hb dX1_takeIn_73 rfl (lv_at hl 2 rfl) ?_
        refine lv_iconst (v := 0) hx hb dX1_takeIn_74 (by decide) ?_
        refine gx_aload_nQ hx hb dX1_takeIn_75 rfl (lv_at hl 3 rfl) ?_
        obtain ⟨qizh2, hf⟩ := gg_el hf
        obtain ⟨zh2, qzh2, hf⟩ := gb_el hf
        refine gx_kv (gx_runV (As := [.ref (gB E + zv1), .int zv2, .int 0, gq E zv3]) (rest := []) X hw (c_X1_go l E N zv0 zv1 zv2 0 zv3 zh qzh2) kX1_go mm_X1_60 qizh2 clX1 ⟨Nat.le_of_ble_eq_true rfl, Nat.le_of_ble_eq_true rfl⟩ rfl rfl rfl hl.1 (Nat.le_of_ble_eq_true rfl) rfl dX1_takeIn_76 ⟨Nat.le_of_ble_eq_true rfl, Nat.le_of_ble_eq_true rfl⟩) hw (fun H locs hw => ?_)
        refine lv_aload_n hx hb dX1_takeIn_79 rfl (lv_at hl 0 rfl) ?_
        refine W.eq (g2 := F0 m 80 ls [.ref (gB E + zv0)]) rfl ?_
        refine lv_dup hx hb dX1_takeIn_80 rfl ?_
        obtain ⟨zt3, qzt3, hf⟩ := gb_el hf
        refine gx_getI X hw qzt3 clX1 (by decide) mf_X1_43 dX1_takeIn_81 ?_
        refine lv_iconst (v := 1) hx hb dX1_takeIn_84 (by decide) ?_
        refine lv_iadd hx hb dX1_takeIn_85 ?_
        obtain ⟨zh4, qzh4, hf⟩ := gb_el hf
        refine gx_putV X hw qzh4 clX1 (by decide) mf_X1_43 rfl rfl rfl dX1_takeIn_86 (fun H locs hw => ?_)
        refine lv_aload_n hx hb dX1_takeIn_89 rfl (lv_at hl 0 rfl) ?_
        refine lv_dup hx hb dX1_takeIn_90 rfl ?_
        obtain ⟨zt5, qzt5, hf⟩ := gb_el hf
        refine gx_getI X hw qzt5 clX1 (by decide) mf_X1_46 dX1_takeIn_91 ?_
        refine lv_iconst (v := 1) hx hb dX1_takeIn_94 (by decide) ?_
        refine lv_iload_n hx hb dX1_takeIn_95 rfl (lv_at hl 2 rfl) ?_
        refine W.eq (g2 := F0 m 96 ls [.int zv2, .int 1, .int zt5, .ref (gB E + zv0)]) rfl ?_
        refine lv_ishl hx hb dX1_takeIn_96 ?_
        refine lv_ior hx hb dX1_takeIn_97 ?_
        obtain ⟨zh6, qzh6, hf⟩ := gb_el hf
        refine gx_putV X hw qzh6 clX1 (by decide) mf_X1_46 rfl rfl rfl dX1_takeIn_98 (fun H locs hw => ?_)
        exact gx_vret X hr hlk hw hf dX1_takeIn_101
      · have hf := gif_f hf qc1
        refine lv_aload_n hx hb dX1_takeIn_48 rfl (lv_at hl 0 rfl) ?_
        refine lv_aload_n hx hb dX1_takeIn_49 rfl (lv_at hl 1 rfl) ?_
        refine lv_aload_n hx hb dX1_takeIn_50 rfl (lv_at hl 0 rfl) ?_
        obtain ⟨zt7, qzt7, hf⟩ := gb_el hf
        refine gx_getR X hw qzt7 clX1 (by decide) mf_X1_9 dX1_takeIn_51 ?_
        refine lv_iload hx hb dX1_takeIn_54 (lv_at hl 4 rfl) ?_
        refine lv_iconst (v := 1) hx hb dX1_takeIn_56 (by decide) ?_
        refine lv_isub hx hb dX1_takeIn_57 ?_
        refine W.eq (g2 := F0 m 58 ls [.int (zv5 - 1), .ref (gB E + zt7), .ref (gB E + zv1), .ref (gB E + zv0)]) rfl ?_
        obtain ⟨zt8, qzt8, hf⟩ := gb_el hf
        refine gx_iald X hw qzt8 dX1_takeIn_58 ?_
        refine lv_iload hx hb dX1_takeIn_59 (lv_at hl 4 rfl) ?_
        refine gx_aload_nQ hx hb dX1_takeIn_61 rfl (lv_at hl 3 rfl) ?_
        obtain ⟨qizh9, hf⟩ := gg_el hf
        obtain ⟨zh9, qzh9, hf⟩ := gb_el hf
        refine gx_kv (gx_runV (As := [.ref (gB E + zv1), .int zt8, .int zv5, gq E zv3]) (rest := []) X hw (c_X1_go l E N zv0 zv1 zt8 zv5 zv3 zh qzh9) kX1_go mm_X1_60 qizh9 clX1 ⟨Nat.le_of_ble_eq_true rfl, Nat.le_of_ble_eq_true rfl⟩ rfl rfl rfl hl.1 (Nat.le_of_ble_eq_true rfl) rfl dX1_takeIn_62 ⟨Nat.le_of_ble_eq_true rfl, Nat.le_of_ble_eq_true rfl⟩) hw (fun H locs hw => ?_)
        obtain ⟨zx10, ezx10⟩ : ∃ y : Int32, y = zv5 + (-1) := ⟨_, rfl⟩
        have hf := gl_el hf ezx10
        refine lv_iinc (v := zx10) (lv' := [(5, .int zx10), (0, .ref (gB E + zv0)), (1, .ref (gB E + zv1)), (2, .int zv2), (3, gq E zv3)]) hx hb dX1_takeIn_65 hl (k := 4) rfl (by rw [ezx10]; rfl) (by decide) rfl (fun ls hl => ?_)
        refine lv_goto (tgt := 43) hx hb dX1_takeIn_68 (by decide) ?_
        exact ih_43 zv0 zv1 zv2 zv3 zx10 _ _ _ ls hf hw (lv_sub hl [1, 2, 3, 4, 0] rfl)
  have J_29 : ∀ (zv0 : Nat) (zv1 : Nat) (zv2 : Int32) (zv3 : (Option Nat)) (zv4 : Int32) (zh : PH) (H : Heap) (locs : List Loc) (ls : Array Slot), f_X1_takeIn_29 N zv0 zv1 zv2 zv3 zv4 zh = some h9 → gw E s zh H locs → lv_has ls 6 [(0, .ref (gB E + zv0)), (1, .ref (gB E + zv1)), (2, .int zv2), (3, gq E zv3), (4, .int zv4)] → W p l e rm_X1_takeIn s m [.ref (gB E + za0), .ref (gB E + za1), .int za2, gq E za3].toArray below meth c H locs 0 0 (MQ below (gQv E h9) [.ref (gB E + za0), .ref (gB E + za1), .int za2, gq E za3].toArray s 0 0 (gA E)) (F0 m 29 ls []) := by
    intro zv0 zv1 zv2 zv3 zv4 zh H locs ls hf hw hl
    unfold f_X1_takeIn_29 at hf
    refine lv_iload hx hb dX1_takeIn_29 (lv_at hl 4 rfl) ?_
    refine lv_aload_n hx hb dX1_takeIn_31 rfl (lv_at hl 1 rfl) ?_
    obtain ⟨zt1, qzt1, hf⟩ := gb_el hf
    refine gx_getI X hw qzt1 clX2 (by decide) mf_X1_55 dX1_takeIn_32 ?_
    refine lv_icmp_ne (tgt := 39) hx hb dX1_takeIn_35 (by decide) (fun qc2 => ?_) (fun qc2 => ?_)
    · have hf := gif_f hf qc2
      refine lv_iload hx hb dX1_takeIn_39 (lv_at hl 4 rfl) ?_
      refine lv_istore (lv' := [(5, .int zv4), (0, .ref (gB E + zv0)), (1, .ref (gB E + zv1)), (2, .int zv2), (3, gq E zv3), (4, .int zv4)]) hx hb dX1_takeIn_41 hl (by decide) rfl (fun ls hl => ?_)
      exact L_43 N zv0 zv1 zv2 zv3 zv4 _ _ _ ls hf hw (lv_sub hl [1, 2, 3, 4, 0] rfl)
    · have hf := gif_t hf qc2
      exact gx_vret X hr hlk hw hf dX1_takeIn_38
  have L_3 : ∀ (zn3 : Nat) (zv0 : Nat) (zv1 : Nat) (zv2 : Int32) (zv3 : (Option Nat)) (zv4 : Int32) (zh : PH) (H : Heap) (locs : List Loc) (ls : Array Slot), gi (fun zk zs => f_X1_takeIn_3 N zk zs.1 zs.2.1 zs.2.2.1 zs.2.2.2.1 zs.2.2.2.2.1 zs.2.2.2.2.2) zn3 (zv0, zv1, zv2, zv3, zv4, zh) = some h9 → gw E s zh H locs → lv_has ls 6 [(0, .ref (gB E + zv0)), (1, .ref (gB E + zv1)), (2, .int zv2), (3, gq E zv3), (4, .int zv4)] → W p l e rm_X1_takeIn s m [.ref (gB E + za0), .ref (gB E + za1), .int za2, gq E za3].toArray below meth c H locs 0 0 (MQ below (gQv E h9) [.ref (gB E + za0), .ref (gB E + za1), .int za2, gq E za3].toArray s 0 0 (gA E)) (F0 m 3 ls []) := by
    intro zn3
    induction zn3 with
    | zero =>
      intro zv0 zv1 zv2 zv3 zv4 zh H locs ls hf
      cases hf
    | succ zn3 ih_3 =>
      intro zv0 zv1 zv2 zv3 zv4 zh H locs ls hf hw hl
      have hf := gi_s hf
      dsimp only at hf
      unfold f_X1_takeIn_3 at hf
      refine lv_iload hx hb dX1_takeIn_3 (lv_at hl 4 rfl) ?_
      refine lv_aload_n hx hb dX1_takeIn_5 rfl (lv_at hl 1 rfl) ?_
      obtain ⟨zt1, qzt1, hf⟩ := gb_el hf
      refine gx_getI X hw qzt1 clX2 (by decide) mf_X1_55 dX1_takeIn_6 ?_
      refine lv_icmp_ge (tgt := 29) hx hb dX1_takeIn_9 (by decide) (fun qc2 => ?_) (fun qc2 => ?_)
      · have hf := gif_t hf qc2
        exact J_29 zv0 zv1 zv2 zv3 zv4 _ _ _ ls hf hw (lv_sub hl [0, 1, 2, 3, 4] rfl)
      · have hf := gif_f hf qc2
        refine lv_aload_n hx hb dX1_takeIn_12 rfl (lv_at hl 0 rfl) ?_
        obtain ⟨zt3, qzt3, hf⟩ := gb_el hf
        refine gx_getR X hw qzt3 clX1 (by decide) mf_X1_9 dX1_takeIn_13 ?_
        refine lv_iload hx hb dX1_takeIn_16 (lv_at hl 4 rfl) ?_
        obtain ⟨zt4, qzt4, hf⟩ := gb_el hf
        refine gx_iald X hw qzt4 dX1_takeIn_18 ?_
        refine lv_iconst (v := (-1)) hx hb dX1_takeIn_19 (by decide) ?_
        refine W.eq (g2 := F0 m 20 ls [.int (-1), .int zt4]) rfl ?_
        refine lv_icmp_eq (tgt := 29) hx hb dX1_takeIn_20 (by decide) (fun qc5 => ?_) (fun qc5 => ?_)
        · have hf := gif_t hf qc5
          exact J_29 zv0 zv1 zv2 zv3 zv4 _ _ _ ls hf hw (lv_sub hl [0, 1, 2, 3, 4] rfl)
        · have hf := gif_f hf qc5
          obtain ⟨zx6, ezx6⟩ : ∃ y : Int32, y = zv4 + 1 := ⟨_, rfl⟩
          have hf := gl_el hf ezx6
          refine lv_iinc (v := zx6) (lv' := [(4, .int zx6), (0, .ref (gB E + zv0)), (1, .ref (gB E + zv1)), (2, .int zv2), (3, gq E zv3)]) hx hb dX1_takeIn_23 hl (k := 4) rfl (by rw [ezx6]; rfl) (by decide) (by cases zv3 <;> rfl) (fun ls hl => ?_)
          refine lv_goto (tgt := 3) hx hb dX1_takeIn_26 (by decide) ?_
          exact ih_3 zv0 zv1 zv2 zv3 zx6 _ _ _ ls hf hw (lv_sub hl [1, 2, 3, 4, 0] rfl)
  unfold f_X1_takeIn at hf
  refine lv_iconst (v := 0) hx hb dX1_takeIn_0 (by decide) ?_
  refine lv_istore (lv' := [(4, .int 0), (0, .ref (gB E + za0)), (1, .ref (gB E + za1)), (2, .int za2), (3, gq E za3)]) hx hb dX1_takeIn_1 hl (by decide) (by cases za3 <;> rfl) (fun ls hl => ?_)
  exact L_3 N za0 za1 za2 za3 0 _ _ _ ls hf hw (lv_sub hl [1, 2, 3, 4, 0] rfl)
abbrev rm_X7_pop : Room := { frames := 0, cells := 0, slots := 0, locals := 0 }
set_option maxHeartbeats 4000000 in
set_option maxRecDepth 100000 in
theorem c_X7_pop (l : Launch) (E : gE) (N : Nat) (za0 : Nat) (zh : PH) {h9 : PH} {r9 : Int32} (hf : f_X7_pop N za0 zh = some (r9, h9)) : Met l yX7_pop (gWS yX7_pop cX7_pop 1 (some .int)) rm_X7_pop (gPc E [.ref (gB E + za0)] zh) (gQi E r9 h9) 0 0 (gA E) := by
  refine gx_met (by decide) ?_ rfl
  intro p e s m below meth c X hr hlk hin2 hw
  have hx := X.1.1
  have hb := X.1.2.1
  have hl := lv_entry [.ref (gB E + za0)] (n := 1) (Nat.le_of_ble_eq_true rfl)
  rw [lg_entry_eq]
  generalize (lg_sl [.ref (gB E + za0)] ++ List.replicate (1 - (lg_sl [.ref (gB E + za0)]).length) Slot.unset).toArray = ls at hl ⊢
  have hl : lv_has ls 1 [(0, .ref (gB E + za0))] := hl
  unfold f_X7_pop at hf
  refine lv_aload_n hx hb dX7_pop_0 rfl (lv_at hl 0 rfl) ?_
  obtain ⟨zt1, qzt1, hf⟩ := gb_el hf
  refine gx_getI X hw qzt1 clX7 (by decide) mf_X7_52 dX7_pop_1 ?_
  refine lv_if_ne (tgt := 9) hx hb dX7_pop_4 (by decide) (fun qc2 => ?_) (fun qc2 => ?_)
  · have hf := gif_f hf qc2
    refine lv_aload_n hx hb dX7_pop_9 rfl (lv_at hl 0 rfl) ?_
    refine lv_dup hx hb dX7_pop_10 rfl ?_
    obtain ⟨zt3, qzt3, hf⟩ := gb_el hf
    refine gx_getI X hw qzt3 clX7 (by decide) mf_X7_52 dX7_pop_11 ?_
    refine lv_iconst (v := 1) hx hb dX7_pop_14 (by decide) ?_
    refine lv_isub hx hb dX7_pop_15 ?_
    obtain ⟨zh4, qzh4, hf⟩ := gb_el hf
    refine gx_putV X hw qzh4 clX7 (by decide) mf_X7_52 rfl rfl rfl dX7_pop_16 (fun H locs hw => ?_)
    refine W.eq (g2 := F0 m 19 ls []) rfl ?_
    refine lv_aload_n hx hb dX7_pop_19 rfl (lv_at hl 0 rfl) ?_
    obtain ⟨zt5, qzt5, hf⟩ := gb_el hf
    refine gx_getR X hw qzt5 clX7 (by decide) mf_X7_9 dX7_pop_20 ?_
    refine lv_aload_n hx hb dX7_pop_23 rfl (lv_at hl 0 rfl) ?_
    obtain ⟨zt6, qzt6, hf⟩ := gb_el hf
    refine gx_getI X hw qzt6 clX7 (by decide) mf_X7_52 dX7_pop_24 ?_
    obtain ⟨zt7, qzt7, hf⟩ := gb_el hf
    refine gx_iald X hw qzt7 dX7_pop_27 ?_
    exact gx_iret X hr hlk hw hf dX7_pop_28
  · have hf := gif_t hf qc2
    refine lv_iconst (v := 0) hx hb dX7_pop_7 (by decide) ?_
    exact gx_iret X hr hlk hw hf dX7_pop_8
abbrev rm_X7_setFact : Room := { frames := 0, cells := 0, slots := 0, locals := 0 }
set_option maxHeartbeats 4000000 in
set_option maxRecDepth 100000 in
theorem c_X7_setFact (l : Launch) (E : gE) (N : Nat) (za0 : Nat) (za1 : Int32) (za2 : Int32) (zh : PH) {h9 : PH} (hf : f_X7_setFact N za0 za1 za2 zh = some h9) : Met l yX7_setFact (gWS yX7_setFact cX7_setFact 3 none) rm_X7_setFact (gPc E [.ref (gB E + za0), .int za1, .int za2] zh) (gQv E h9) 0 0 (gA E) := by
  refine gx_met (by decide) ?_ rfl
  intro p e s m below meth c X hr hlk hin2 hw
  have hx := X.1.1
  have hb := X.1.2.1
  have hl := lv_entry [.ref (gB E + za0), .int za1, .int za2] (n := 3) (Nat.le_of_ble_eq_true rfl)
  rw [lg_entry_eq]
  generalize (lg_sl [.ref (gB E + za0), .int za1, .int za2] ++ List.replicate (3 - (lg_sl [.ref (gB E + za0), .int za1, .int za2]).length) Slot.unset).toArray = ls at hl ⊢
  have hl : lv_has ls 3 [(0, .ref (gB E + za0)), (1, .int za1), (2, .int za2)] := hl
  unfold f_X7_setFact at hf
  refine lv_aload_n hx hb dX7_setFact_0 rfl (lv_at hl 0 rfl) ?_
  obtain ⟨zt1, qzt1, hf⟩ := gb_el hf
  refine gx_getR X hw qzt1 clX7 (by decide) mf_X7_15 dX7_setFact_1 ?_
  refine lv_iload_n hx hb dX7_setFact_4 rfl (lv_at hl 1 rfl) ?_
  refine lv_sipush (v := 10000) hx hb dX7_setFact_5 (by decide) ?_
  refine lv_isub hx hb dX7_setFact_8 ?_
  refine lv_iload_n hx hb dX7_setFact_9 rfl (lv_at hl 2 rfl) ?_
  obtain ⟨zh2, qzh2, hf⟩ := gb_el hf
  refine gx_iast X hw qzh2 dX7_setFact_10 (fun H locs hw => ?_)
  exact gx_vret X hr hlk hw hf dX7_setFact_11
abbrev rm_X7_oneIf : Room := { frames := 0, cells := 0, slots := 0, locals := 0 }
set_option maxHeartbeats 4000000 in
set_option maxRecDepth 100000 in
theorem c_X7_oneIf (l : Launch) (E : gE) (N : Nat) (za0 : Int32) (zh : PH) {h9 : PH} {r9 : Int32} (hf : f_X7_oneIf N za0 zh = some (r9, h9)) : Met l yX7_oneIf (gWS yX7_oneIf cX7_oneIf 1 (some .int)) rm_X7_oneIf (gPc E [.int za0] zh) (gQi E r9 h9) 0 0 (gA E) := by
  refine gx_met (by decide) ?_ rfl
  intro p e s m below meth c X hr hlk hin2 hw
  have hx := X.1.1
  have hb := X.1.2.1
  have hl := lv_entry [.int za0] (n := 1) (Nat.le_of_ble_eq_true rfl)
  rw [lg_entry_eq]
  generalize (lg_sl [.int za0] ++ List.replicate (1 - (lg_sl [.int za0]).length) Slot.unset).toArray = ls at hl ⊢
  have hl : lv_has ls 1 [(0, .int za0)] := hl
  have J_9 : ∀ (zs0 : Int32) (zh : PH) (H : Heap) (locs : List Loc) (ls : Array Slot), f_X7_oneIf_9 N zs0 zh = some (r9, h9) → gw E s zh H locs → lv_has ls 1 [] → W p l e rm_X7_oneIf s m [.int za0].toArray below meth c H locs 0 0 (MQ below (gQi E r9 h9) [.int za0].toArray s 0 0 (gA E)) (F0 m 9 ls [.int zs0]) := by
    intro zs0 zh H locs ls hf hw hl
    unfold f_X7_oneIf_9 at hf
    exact gx_iret X hr hlk hw hf dX7_oneIf_9
  unfold f_X7_oneIf at hf
  refine lv_iload_n hx hb dX7_oneIf_0 rfl (lv_at hl 0 rfl) ?_
  refine lv_if_eq (tgt := 8) hx hb dX7_oneIf_1 (by decide) (fun qc1 => ?_) (fun qc1 => ?_)
  · have hf := gif_t hf qc1
    refine lv_iconst (v := 0) hx hb dX7_oneIf_8 (by decide) ?_
    exact J_9 0 _ _ _ ls hf hw (lv_sub hl [] rfl)
  · have hf := gif_f hf qc1
    refine lv_iconst (v := 1) hx hb dX7_oneIf_4 (by decide) ?_
    refine lv_goto (tgt := 9) hx hb dX7_oneIf_5 (by decide) ?_
    exact J_9 1 _ _ _ ls hf hw (lv_sub hl [] rfl)
abbrev rm_X7_joined : Room := { frames := 1, cells := 0, slots := 0, locals := 20 }
set_option maxHeartbeats 4000000 in
set_option maxRecDepth 100000 in
theorem c_X7_joined (l : Launch) (E : gE) (N : Nat) (za0 : Int32) (za1 : Int32) (za2 : Int32) (zh : PH) {h9 : PH} {r9 : Int32} (hf : f_X7_joined N za0 za1 za2 zh = some (r9, h9)) : Met l yX7_joined (gWS yX7_joined cX7_joined 3 (some .int)) rm_X7_joined (gPc E [.int za0, .int za1, .int za2] zh) (gQi E r9 h9) 0 0 (gA E) := by
  refine gx_met (by decide) ?_ rfl
  intro p e s m below meth c X hr hlk hin2 hw
  have hx := X.1.1
  have hb := X.1.2.1
  have hl := lv_entry [.int za0, .int za1, .int za2] (n := 3) (Nat.le_of_ble_eq_true rfl)
  rw [lg_entry_eq]
  generalize (lg_sl [.int za0, .int za1, .int za2] ++ List.replicate (3 - (lg_sl [.int za0, .int za1, .int za2]).length) Slot.unset).toArray = ls at hl ⊢
  have hl : lv_has ls 3 [(0, .int za0), (1, .int za1), (2, .int za2)] := hl
  have J_98 : ∀ (zs0 : Int32) (zh : PH) (H : Heap) (locs : List Loc) (ls : Array Slot), f_X7_joined_98 N zs0 zh = some (r9, h9) → gw E s zh H locs → lv_has ls 3 [] → W p l e rm_X7_joined s m [.int za0, .int za1, .int za2].toArray below meth c H locs 0 0 (MQ below (gQi E r9 h9) [.int za0, .int za1, .int za2].toArray s 0 0 (gA E)) (F0 m 98 ls [.int zs0]) := by
    intro zs0 zh H locs ls hf hw hl
    unfold f_X7_joined_98 at hf
    obtain ⟨zt2, zh1, qzh1, hf⟩ := gc_el hf
    refine gx_ki (gx_runS (As := [.int zs0]) (rest := []) X hw (c_X7_oneIf l E N zs0 zh qzh1) kX7_oneIf mm_X7_72 ⟨Nat.le_of_ble_eq_true rfl, Nat.le_of_ble_eq_true rfl⟩ rfl rfl rfl hl.1 (Nat.le_of_ble_eq_true rfl) rfl dX7_joined_98 ⟨Nat.le_of_ble_eq_true rfl, Nat.le_of_ble_eq_true rfl⟩) hw (fun H locs hw => ?_)
    exact gx_iret X hr hlk hw hf dX7_joined_101
  have J_84 : ∀ (zs0 : Int32) (zh : PH) (H : Heap) (locs : List Loc) (ls : Array Slot), f_X7_joined_84 N zs0 zh = some (r9, h9) → gw E s zh H locs → lv_has ls 3 [] → W p l e rm_X7_joined s m [.int za0, .int za1, .int za2].toArray below meth c H locs 0 0 (MQ below (gQi E r9 h9) [.int za0, .int za1, .int za2].toArray s 0 0 (gA E)) (F0 m 84 ls [.int zs0]) := by
    intro zs0 zh H locs ls hf hw hl
    unfold f_X7_joined_84 at hf
    obtain ⟨zt2, zh1, qzh1, hf⟩ := gc_el hf
    refine gx_ki (gx_runS (As := [.int zs0]) (rest := []) X hw (c_X7_oneIf l E N zs0 zh qzh1) kX7_oneIf mm_X7_72 ⟨Nat.le_of_ble_eq_true rfl, Nat.le_of_ble_eq_true rfl⟩ rfl rfl rfl hl.1 (Nat.le_of_ble_eq_true rfl) rfl dX7_joined_84 ⟨Nat.le_of_ble_eq_true rfl, Nat.le_of_ble_eq_true rfl⟩) hw (fun H locs hw => ?_)
    exact gx_iret X hr hlk hw hf dX7_joined_87
  have J_70 : ∀ (zs0 : Int32) (zh : PH) (H : Heap) (locs : List Loc) (ls : Array Slot), f_X7_joined_70 N zs0 zh = some (r9, h9) → gw E s zh H locs → lv_has ls 3 [] → W p l e rm_X7_joined s m [.int za0, .int za1, .int za2].toArray below meth c H locs 0 0 (MQ below (gQi E r9 h9) [.int za0, .int za1, .int za2].toArray s 0 0 (gA E)) (F0 m 70 ls [.int zs0]) := by
    intro zs0 zh H locs ls hf hw hl
    unfold f_X7_joined_70 at hf
    obtain ⟨zt2, zh1, qzh1, hf⟩ := gc_el hf
    refine gx_ki (gx_runS (As := [.int zs0]) (rest := []) X hw (c_X7_oneIf l E N zs0 zh qzh1) kX7_oneIf mm_X7_72 ⟨Nat.le_of_ble_eq_true rfl, Nat.le_of_ble_eq_true rfl⟩ rfl rfl rfl hl.1 (Nat.le_of_ble_eq_true rfl) rfl dX7_joined_70 ⟨Nat.le_of_ble_eq_true rfl, Nat.le_of_ble_eq_true rfl⟩) hw (fun H locs hw => ?_)
    exact gx_iret X hr hlk hw hf dX7_joined_73
  have J_65 : ∀ (zh : PH) (H : Heap) (locs : List Loc) (ls : Array Slot), f_X7_joined_65 N zh = some (r9, h9) → gw E s zh H locs → lv_has ls 3 [] → W p l e rm_X7_joined s m [.int za0, .int za1, .int za2].toArray below meth c H locs 0 0 (MQ below (gQi E r9 h9) [.int za0, .int za1, .int za2].toArray s 0 0 (gA E)) (F0 m 65 ls []) := by
    intro zh H locs ls hf hw hl
    unfold f_X7_joined_65 at hf
    refine lv_iconst (v := 1) hx hb dX7_joined_65 (by decide) ?_
    refine lv_goto (tgt := 70) hx hb dX7_joined_66 (by decide) ?_
    exact J_70 1 _ _ _ ls hf hw (lv_sub hl [] rfl)
  have J_53 : ∀ (zs0 : Int32) (zh : PH) (H : Heap) (locs : List Loc) (ls : Array Slot), f_X7_joined_53 N zs0 zh = some (r9, h9) → gw E s zh H locs → lv_has ls 3 [] → W p l e rm_X7_joined s m [.int za0, .int za1, .int za2].toArray below meth c H locs 0 0 (MQ below (gQi E r9 h9) [.int za0, .int za1, .int za2].toArray s 0 0 (gA E)) (F0 m 53 ls [.int zs0]) := by
    intro zs0 zh H locs ls hf hw hl
    unfold f_X7_joined_53 at hf
    obtain ⟨zt2, zh1, qzh1, hf⟩ := gc_el hf
    refine gx_ki (gx_runS (As := [.int zs0]) (rest := []) X hw (c_X7_oneIf l E N zs0 zh qzh1) kX7_oneIf mm_X7_72 ⟨Nat.le_of_ble_eq_true rfl, Nat.le_of_ble_eq_true rfl⟩ rfl rfl rfl hl.1 (Nat.le_of_ble_eq_true rfl) rfl dX7_joined_53 ⟨Nat.le_of_ble_eq_true rfl, Nat.le_of_ble_eq_true rfl⟩) hw (fun H locs hw => ?_)
    exact gx_iret X hr hlk hw hf dX7_joined_56
  have J_52 : ∀ (zh : PH) (H : Heap) (locs : List Loc) (ls : Array Slot), f_X7_joined_52 N zh = some (r9, h9) → gw E s zh H locs → lv_has ls 3 [] → W p l e rm_X7_joined s m [.int za0, .int za1, .int za2].toArray below meth c H locs 0 0 (MQ below (gQi E r9 h9) [.int za0, .int za1, .int za2].toArray s 0 0 (gA E)) (F0 m 52 ls []) := by
    intro zh H locs ls hf hw hl
    unfold f_X7_joined_52 at hf
    refine lv_iconst (v := 0) hx hb dX7_joined_52 (by decide) ?_
    exact J_53 0 _ _ _ ls hf hw (lv_sub hl [] rfl)
  unfold f_X7_joined at hf
  refine lv_iload_n hx hb dX7_joined_0 rfl (lv_at hl 0 rfl) ?_
  by_cases qc1 : (za0 : Int32) = 10009
  · have hf := gif_t hf qc1
    refine lv_tableIn (off := 39) (tgt := 40) hx hb dX7_joined_1 (by rw [qc1]; decide) (by rw [qc1]; decide) (by rw [qc1]; rfl) (by decide) ?_
    refine lv_iload_n hx hb dX7_joined_40 rfl (lv_at hl 1 rfl) ?_
    refine lv_if_eq (tgt := 52) hx hb dX7_joined_41 (by decide) (fun qc2 => ?_) (fun qc2 => ?_)
    · have hf := gif_t hf qc2
      exact J_52  _ _ _ ls hf hw (lv_sub hl [] rfl)
    · have hf := gif_f hf qc2
      refine lv_iload_n hx hb dX7_joined_44 rfl (lv_at hl 2 rfl) ?_
      refine lv_if_eq (tgt := 52) hx hb dX7_joined_45 (by decide) (fun qc3 => ?_) (fun qc3 => ?_)
      · have hf := gif_t hf qc3
        exact J_52  _ _ _ ls hf hw (lv_sub hl [] rfl)
      · have hf := gif_f hf qc3
        refine lv_iconst (v := 1) hx hb dX7_joined_48 (by decide) ?_
        refine lv_goto (tgt := 53) hx hb dX7_joined_49 (by decide) ?_
        exact J_53 1 _ _ _ ls hf hw (lv_sub hl [] rfl)
  have hf := gif_f hf qc1
  by_cases qc4 : (za0 : Int32) = 10010
  · have hf := gif_t hf qc4
    refine lv_tableIn (off := 56) (tgt := 57) hx hb dX7_joined_1 (by rw [qc4]; decide) (by rw [qc4]; decide) (by rw [qc4]; rfl) (by decide) ?_
    refine lv_iload_n hx hb dX7_joined_57 rfl (lv_at hl 1 rfl) ?_
    refine lv_if_ne (tgt := 65) hx hb dX7_joined_58 (by decide) (fun qc5 => ?_) (fun qc5 => ?_)
    · have hf := gif_f hf qc5
      exact J_65  _ _ _ ls hf hw (lv_sub hl [] rfl)
    · have hf := gif_t hf qc5
      refine lv_iload_n hx hb dX7_joined_61 rfl (lv_at hl 2 rfl) ?_
      refine lv_if_eq (tgt := 69) hx hb dX7_joined_62 (by decide) (fun qc6 => ?_) (fun qc6 => ?_)
      · have hf := gif_t hf qc6
        refine lv_iconst (v := 0) hx hb dX7_joined_69 (by decide) ?_
        exact J_70 0 _ _ _ ls hf hw (lv_sub hl [] rfl)
      · have hf := gif_f hf qc6
        exact J_65  _ _ _ ls hf hw (lv_sub hl [] rfl)
  have hf := gif_f hf qc4
  by_cases qc7 : (za0 : Int32) = 10011
  · have hf := gif_t hf qc7
    refine lv_tableIn (off := 73) (tgt := 74) hx hb dX7_joined_1 (by rw [qc7]; decide) (by rw [qc7]; decide) (by rw [qc7]; rfl) (by decide) ?_
    refine lv_iload_n hx hb dX7_joined_74 rfl (lv_at hl 1 rfl) ?_
    refine lv_iload_n hx hb dX7_joined_75 rfl (lv_at hl 2 rfl) ?_
    refine lv_icmp_ge (tgt := 83) hx hb dX7_joined_76 (by decide) (fun qc8 => ?_) (fun qc8 => ?_)
    · have hf := gif_t hf qc8
      refine lv_iconst (v := 0) hx hb dX7_joined_83 (by decide) ?_
      exact J_84 0 _ _ _ ls hf hw (lv_sub hl [] rfl)
    · have hf := gif_f hf qc8
      refine lv_iconst (v := 1) hx hb dX7_joined_79 (by decide) ?_
      refine lv_goto (tgt := 84) hx hb dX7_joined_80 (by decide) ?_
      exact J_84 1 _ _ _ ls hf hw (lv_sub hl [] rfl)
  have hf := gif_f hf qc7
  by_cases qc9 : (za0 : Int32) = 10012
  · have hf := gif_t hf qc9
    refine lv_tableIn (off := 87) (tgt := 88) hx hb dX7_joined_1 (by rw [qc9]; decide) (by rw [qc9]; decide) (by rw [qc9]; rfl) (by decide) ?_
    refine lv_iload_n hx hb dX7_joined_88 rfl (lv_at hl 1 rfl) ?_
    refine lv_iload_n hx hb dX7_joined_89 rfl (lv_at hl 2 rfl) ?_
    refine lv_icmp_ne (tgt := 97) hx hb dX7_joined_90 (by decide) (fun qc10 => ?_) (fun qc10 => ?_)
    · have hf := gif_f hf qc10
      refine lv_iconst (v := 0) hx hb dX7_joined_97 (by decide) ?_
      exact J_98 0 _ _ _ ls hf hw (lv_sub hl [] rfl)
    · have hf := gif_t hf qc10
      refine lv_iconst (v := 1) hx hb dX7_joined_93 (by decide) ?_
      refine lv_goto (tgt := 98) hx hb dX7_joined_94 (by decide) ?_
      exact J_98 1 _ _ _ ls hf hw (lv_sub hl [] rfl)
  have hf := gif_f hf qc9
  by_cases qc11 : (za0 : Int32) = 10013
  · have hf := gif_t hf qc11
    refine lv_tableIn (off := 101) (tgt := 102) hx hb dX7_joined_1 (by rw [qc11]; decide) (by rw [qc11]; decide) (by rw [qc11]; rfl) (by decide) ?_
    refine lv_iload_n hx hb dX7_joined_102 rfl (lv_at hl 1 rfl) ?_
    refine lv_iload_n hx hb dX7_joined_103 rfl (lv_at hl 2 rfl) ?_
    refine lv_iadd hx hb dX7_joined_104 ?_
    exact gx_iret X hr hlk hw hf dX7_joined_105
  have hf := gif_f hf qc11
  by_cases qc12 : (za0 : Int32) = 10014
  · have hf := gif_t hf qc12
    refine lv_tableIn (off := 105) (tgt := 106) hx hb dX7_joined_1 (by rw [qc12]; decide) (by rw [qc12]; decide) (by rw [qc12]; rfl) (by decide) ?_
    refine lv_iload_n hx hb dX7_joined_106 rfl (lv_at hl 1 rfl) ?_
    refine lv_iload_n hx hb dX7_joined_107 rfl (lv_at hl 2 rfl) ?_
    refine lv_isub hx hb dX7_joined_108 ?_
    exact gx_iret X hr hlk hw hf dX7_joined_109
  have hf := gif_f hf qc12
  have nqc1 := lv_neT (a := 10009) qc1 (by decide)
  have nqc4 := lv_neT (a := 10010) qc4 (by decide)
  have nqc7 := lv_neT (a := 10011) qc7 (by decide)
  have nqc9 := lv_neT (a := 10012) qc9 (by decide)
  have nqc11 := lv_neT (a := 10013) qc11 (by decide)
  have nqc12 := lv_neT (a := 10014) qc12 (by decide)
  refine lv_tableOut (tgt := 110) hx hb dX7_joined_1 (by omega) (by decide) ?_
  refine lv_iload_n hx hb dX7_joined_110 rfl (lv_at hl 1 rfl) ?_
  refine lv_iload_n hx hb dX7_joined_111 rfl (lv_at hl 2 rfl) ?_
  refine lv_imul hx hb dX7_joined_112 ?_
  exact gx_iret X hr hlk hw hf dX7_joined_113
