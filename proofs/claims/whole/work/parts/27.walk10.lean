abbrev rm_X12_where : Room := { frames := 6, cells := 0, slots := 0, locals := 140 }
set_option maxHeartbeats 4000000 in
set_option maxRecDepth 100000 in
theorem c_X12_where (l : Launch) (E : gE) (N : Nat) (za0 : Nat) (za1 : Int32) (za2 : Int32) (zh : PH) {h9 : PH} {r9 : Int32} (hf : f_X12_where N za0 za1 za2 zh = some (r9, h9)) : Met l yX12_where (gWS yX12_where cX12_where 3 (some .int)) rm_X12_where (gPc E [.ref (gB E + za0), .int za1, .int za2] zh) (gQi E r9 h9) 0 0 (gA E) := by
  refine gx_met (by decide) ?_ rfl
  intro p e s m below meth c X hr hlk hin2 hw
  have hx := X.1.1
  have hb := X.1.2.1
  have hl := lv_entry [.ref (gB E + za0), .int za1, .int za2] (n := 3) (Nat.le_of_ble_eq_true rfl)
  rw [lg_entry_eq]
  generalize (lg_sl [.ref (gB E + za0), .int za1, .int za2] ++ List.replicate (3 - (lg_sl [.ref (gB E + za0), .int za1, .int za2]).length) Slot.unset).toArray = ls at hl ⊢
  have hl : lv_has ls 3 [(0, .ref (gB E + za0)), (1, .int za1), (2, .int za2)] := hl
  have J_20 : ∀ (zh : PH) (H : Heap) (locs : List Loc) (ls : Array Slot), f_X12_where_20 N zh = some (r9, h9) → gw E s zh H locs → lv_has ls 3 [] → W p l e rm_X12_where s m [.ref (gB E + za0), .int za1, .int za2].toArray below meth c H locs 0 0 (MQ below (gQi E r9 h9) [.ref (gB E + za0), .int za1, .int za2].toArray s 0 0 (gA E)) (F0 m 20 ls []) := by
    intro zh H locs ls hf hw hl
    unfold f_X12_where_20 at hf
    refine lv_bipush (v := (-3)) hx hb dX12_where_20 (by decide) ?_
    exact gx_iret X hr hlk hw hf dX12_where_22
  unfold f_X12_where at hf
  refine lv_aload_n hx hb dX12_where_0 rfl (lv_at hl 0 rfl) ?_
  refine lv_iconst (v := 0) hx hb dX12_where_1 (by decide) ?_
  obtain ⟨zh1, qzh1, hf⟩ := gb_el hf
  refine gx_putV X hw qzh1 clX12 (by decide) mf_X12_1 rfl rfl rfl dX12_where_2 (fun H locs hw => ?_)
  refine lv_aload_n hx hb dX12_where_5 rfl (lv_at hl 0 rfl) ?_
  refine lv_iload_n hx hb dX12_where_6 rfl (lv_at hl 1 rfl) ?_
  obtain ⟨qizh2, hf⟩ := gg_el hf
  obtain ⟨zt3, zh2, qzh2, hf⟩ := gc_el hf
  refine gx_ki (gx_runV (As := [.int za1]) (rest := []) X hw (c_X12_isGuest l E N za0 za1 zh1 qzh2) kX12_isGuest mm_X12_312 qizh2 clX12 ⟨Nat.le_of_ble_eq_true rfl, Nat.le_of_ble_eq_true rfl⟩ rfl rfl rfl hl.1 (Nat.le_of_ble_eq_true rfl) rfl dX12_where_7 ⟨Nat.le_of_ble_eq_true rfl, Nat.le_of_ble_eq_true rfl⟩) hw (fun H locs hw => ?_)
  refine lv_if_eq (tgt := 20) hx hb dX12_where_10 (by decide) (fun qc4 => ?_) (fun qc4 => ?_)
  · have hf := gif_t hf qc4
    exact J_20  _ _ _ ls hf hw (lv_sub hl [] rfl)
  · have hf := gif_f hf qc4
    refine lv_iload_n hx hb dX12_where_13 rfl (lv_at hl 2 rfl) ?_
    obtain ⟨zt6, zh5, qzh5, hf⟩ := gc_el hf
    refine gx_ki (gx_runS (As := [.int za2]) (rest := []) X hw (c_X12_isMinute l E N za2 zh2 qzh5) kX12_isMinute mm_X12_337 ⟨Nat.le_of_ble_eq_true rfl, Nat.le_of_ble_eq_true rfl⟩ rfl rfl rfl hl.1 (Nat.le_of_ble_eq_true rfl) rfl dX12_where_14 ⟨Nat.le_of_ble_eq_true rfl, Nat.le_of_ble_eq_true rfl⟩) hw (fun H locs hw => ?_)
    refine W.eq (g2 := F0 m 17 ls [.int zt6]) rfl ?_
    refine lv_if_ne (tgt := 23) hx hb dX12_where_17 (by decide) (fun qc7 => ?_) (fun qc7 => ?_)
    · have hf := gif_f hf qc7
      refine lv_aload_n hx hb dX12_where_23 rfl (lv_at hl 0 rfl) ?_
      obtain ⟨qizh8, hf⟩ := gg_el hf
      obtain ⟨zh8, qzh8, hf⟩ := gb_el hf
      refine gx_kv (gx_runV (As := []) (rest := []) X hw (c_X12_find l E N za0 zh5 qzh8) kX12_find mm_X12_300 qizh8 clX12 ⟨Nat.le_of_ble_eq_true rfl, Nat.le_of_ble_eq_true rfl⟩ rfl rfl rfl hl.1 (Nat.le_of_ble_eq_true rfl) rfl dX12_where_24 ⟨Nat.le_of_ble_eq_true rfl, Nat.le_of_ble_eq_true rfl⟩) hw (fun H locs hw => ?_)
      refine lv_aload_n hx hb dX12_where_27 rfl (lv_at hl 0 rfl) ?_
      refine lv_iload_n hx hb dX12_where_28 rfl (lv_at hl 1 rfl) ?_
      refine lv_iload_n hx hb dX12_where_29 rfl (lv_at hl 2 rfl) ?_
      obtain ⟨qizh9, hf⟩ := gg_el hf
      obtain ⟨zt10, zh9, qzh9, hf⟩ := gc_el hf
      refine gx_ki (gx_runV (As := [.int za1, .int za2]) (rest := []) X hw (c_X12_placeAt l E N za0 za1 za2 zh8 qzh9) kX12_placeAt mm_X12_340 qizh9 clX12 ⟨Nat.le_of_ble_eq_true rfl, Nat.le_of_ble_eq_true rfl⟩ rfl rfl rfl hl.1 (Nat.le_of_ble_eq_true rfl) rfl dX12_where_30 ⟨Nat.le_of_ble_eq_true rfl, Nat.le_of_ble_eq_true rfl⟩) hw (fun H locs hw => ?_)
      exact gx_iret X hr hlk hw hf dX12_where_33
    · have hf := gif_t hf qc7
      exact J_20  _ _ _ ls hf hw (lv_sub hl [] rfl)
abbrev rm_X12_whoAt : Room := { frames := 1, cells := 0, slots := 0, locals := 25 }
set_option maxHeartbeats 4000000 in
set_option maxRecDepth 100000 in
theorem c_X12_whoAt (l : Launch) (E : gE) (N : Nat) (za0 : Nat) (za1 : Int32) (za2 : Int32) (zh : PH) {h9 : PH} {r9 : Int32} (hf : f_X12_whoAt N za0 za1 za2 zh = some (r9, h9)) : Met l yX12_whoAt (gWS yX12_whoAt cX12_whoAt 4 (some .int)) rm_X12_whoAt (gPc E [.ref (gB E + za0), .int za1, .int za2] zh) (gQi E r9 h9) 0 0 (gA E) := by
  refine gx_met (by decide) ?_ rfl
  intro p e s m below meth c X hr hlk hin2 hw
  have hx := X.1.1
  have hb := X.1.2.1
  have hl := lv_entry [.ref (gB E + za0), .int za1, .int za2] (n := 4) (Nat.le_of_ble_eq_true rfl)
  rw [lg_entry_eq]
  generalize (lg_sl [.ref (gB E + za0), .int za1, .int za2] ++ List.replicate (4 - (lg_sl [.ref (gB E + za0), .int za1, .int za2]).length) Slot.unset).toArray = ls at hl ⊢
  have hl : lv_has ls 4 [(0, .ref (gB E + za0)), (1, .int za1), (2, .int za2)] := hl
  have L_2 : ∀ (zn2 : Nat) (zv0 : Nat) (zv1 : Int32) (zv2 : Int32) (zv3 : Int32) (zh : PH) (H : Heap) (locs : List Loc) (ls : Array Slot), gi (fun zk zs => f_X12_whoAt_2 N zk zs.1 zs.2.1 zs.2.2.1 zs.2.2.2.1 zs.2.2.2.2) zn2 (zv0, zv1, zv2, zv3, zh) = some (r9, h9) → gw E s zh H locs → lv_has ls 4 [(0, .ref (gB E + zv0)), (1, .int zv1), (2, .int zv2), (3, .int zv3)] → W p l e rm_X12_whoAt s m [.ref (gB E + za0), .int za1, .int za2].toArray below meth c H locs 0 0 (MQ below (gQi E r9 h9) [.ref (gB E + za0), .int za1, .int za2].toArray s 0 0 (gA E)) (F0 m 2 ls []) := by
    intro zn2
    induction zn2 with
    | zero =>
      intro zv0 zv1 zv2 zv3 zh H locs ls hf
      cases hf
    | succ zn2 ih_2 =>
      intro zv0 zv1 zv2 zv3 zh H locs ls hf hw hl
      have hf := gi_s hf
      dsimp only at hf
      unfold f_X12_whoAt_2 at hf
      refine lv_iload_n hx hb dX12_whoAt_2 rfl (lv_at hl 3 rfl) ?_
      refine lv_aload_n hx hb dX12_whoAt_3 rfl (lv_at hl 0 rfl) ?_
      obtain ⟨qizh1, hf⟩ := gg_el hf
      obtain ⟨zt2, zh1, qzh1, hf⟩ := gc_el hf
      refine gx_ki (gx_runV (As := []) (rest := [.int zv3]) X hw (c_X12_guests l E N zv0 zh qzh1) kX12_guests mm_X12_234 qizh1 clX12 ⟨Nat.le_of_ble_eq_true rfl, Nat.le_of_ble_eq_true rfl⟩ rfl rfl rfl hl.1 (Nat.le_of_ble_eq_true rfl) rfl dX12_whoAt_4 ⟨Nat.le_of_ble_eq_true rfl, Nat.le_of_ble_eq_true rfl⟩) hw (fun H locs hw => ?_)
      refine lv_icmp_ge (tgt := 28) hx hb dX12_whoAt_7 (by decide) (fun qc3 => ?_) (fun qc3 => ?_)
      · have hf := gif_t hf qc3
        refine lv_iconst (v := (-1)) hx hb dX12_whoAt_28 (by decide) ?_
        exact gx_iret X hr hlk hw hf dX12_whoAt_29
      · have hf := gif_f hf qc3
        refine lv_aload_n hx hb dX12_whoAt_10 rfl (lv_at hl 0 rfl) ?_
        refine lv_iload_n hx hb dX12_whoAt_11 rfl (lv_at hl 3 rfl) ?_
        refine lv_iload_n hx hb dX12_whoAt_12 rfl (lv_at hl 2 rfl) ?_
        obtain ⟨qizh4, hf⟩ := gg_el hf
        obtain ⟨zt5, zh4, qzh4, hf⟩ := gc_el hf
        refine gx_ki (gx_runV (As := [.int zv3, .int zv2]) (rest := []) X hw (c_X12_placeAt l E N zv0 zv3 zv2 zh1 qzh4) kX12_placeAt mm_X12_340 qizh4 clX12 ⟨Nat.le_of_ble_eq_true rfl, Nat.le_of_ble_eq_true rfl⟩ rfl rfl rfl hl.1 (Nat.le_of_ble_eq_true rfl) rfl dX12_whoAt_13 ⟨Nat.le_of_ble_eq_true rfl, Nat.le_of_ble_eq_true rfl⟩) hw (fun H locs hw => ?_)
        refine lv_iload_n hx hb dX12_whoAt_16 rfl (lv_at hl 1 rfl) ?_
        refine W.eq (g2 := F0 m 17 ls [.int zv1, .int zt5]) rfl ?_
        refine lv_icmp_ne (tgt := 22) hx hb dX12_whoAt_17 (by decide) (fun qc6 => ?_) (fun qc6 => ?_)
        · have hf := gif_f hf qc6
          obtain ⟨zx7, ezx7⟩ : ∃ y : Int32, y = zv3 + 1 := ⟨_, rfl⟩
          have hf := gl_el hf ezx7
          refine lv_iinc (v := zx7) (lv' := [(3, .int zx7), (0, .ref (gB E + zv0)), (1, .int zv1), (2, .int zv2)]) hx hb dX12_whoAt_22 hl (k := 3) rfl (by rw [ezx7]; rfl) (by decide) rfl (fun ls hl => ?_)
          refine lv_goto (tgt := 2) hx hb dX12_whoAt_25 (by decide) ?_
          exact ih_2 zv0 zv1 zv2 zx7 _ _ _ ls hf hw (lv_sub hl [1, 2, 3, 0] rfl)
        · have hf := gif_t hf qc6
          refine lv_iload_n hx hb dX12_whoAt_20 rfl (lv_at hl 3 rfl) ?_
          exact gx_iret X hr hlk hw hf dX12_whoAt_21
  unfold f_X12_whoAt at hf
  refine lv_iconst (v := 0) hx hb dX12_whoAt_0 (by decide) ?_
  refine lv_istore_n (lv' := [(3, .int 0), (0, .ref (gB E + za0)), (1, .int za1), (2, .int za2)]) hx hb dX12_whoAt_1 rfl hl (by decide) rfl (fun ls hl => ?_)
  exact L_2 N za0 za1 za2 0 _ _ _ ls hf hw (lv_sub hl [1, 2, 3, 0] rfl)
abbrev rm_X12_who : Room := { frames := 6, cells := 0, slots := 0, locals := 140 }
set_option maxHeartbeats 4000000 in
set_option maxRecDepth 100000 in
theorem c_X12_who (l : Launch) (E : gE) (N : Nat) (za0 : Nat) (za1 : Int32) (za2 : Int32) (zh : PH) {h9 : PH} {r9 : Int32} (hf : f_X12_who N za0 za1 za2 zh = some (r9, h9)) : Met l yX12_who (gWS yX12_who cX12_who 3 (some .int)) rm_X12_who (gPc E [.ref (gB E + za0), .int za1, .int za2] zh) (gQi E r9 h9) 0 0 (gA E) := by
  refine gx_met (by decide) ?_ rfl
  intro p e s m below meth c X hr hlk hin2 hw
  have hx := X.1.1
  have hb := X.1.2.1
  have hl := lv_entry [.ref (gB E + za0), .int za1, .int za2] (n := 3) (Nat.le_of_ble_eq_true rfl)
  rw [lg_entry_eq]
  generalize (lg_sl [.ref (gB E + za0), .int za1, .int za2] ++ List.replicate (3 - (lg_sl [.ref (gB E + za0), .int za1, .int za2]).length) Slot.unset).toArray = ls at hl ⊢
  have hl : lv_has ls 3 [(0, .ref (gB E + za0)), (1, .int za1), (2, .int za2)] := hl
  have J_20 : ∀ (zh : PH) (H : Heap) (locs : List Loc) (ls : Array Slot), f_X12_who_20 N zh = some (r9, h9) → gw E s zh H locs → lv_has ls 3 [] → W p l e rm_X12_who s m [.ref (gB E + za0), .int za1, .int za2].toArray below meth c H locs 0 0 (MQ below (gQi E r9 h9) [.ref (gB E + za0), .int za1, .int za2].toArray s 0 0 (gA E)) (F0 m 20 ls []) := by
    intro zh H locs ls hf hw hl
    unfold f_X12_who_20 at hf
    refine lv_iconst (v := (-1)) hx hb dX12_who_20 (by decide) ?_
    exact gx_iret X hr hlk hw hf dX12_who_21
  unfold f_X12_who at hf
  refine lv_aload_n hx hb dX12_who_0 rfl (lv_at hl 0 rfl) ?_
  refine lv_iconst (v := 0) hx hb dX12_who_1 (by decide) ?_
  obtain ⟨zh1, qzh1, hf⟩ := gb_el hf
  refine gx_putV X hw qzh1 clX12 (by decide) mf_X12_1 rfl rfl rfl dX12_who_2 (fun H locs hw => ?_)
  refine lv_aload_n hx hb dX12_who_5 rfl (lv_at hl 0 rfl) ?_
  refine lv_iload_n hx hb dX12_who_6 rfl (lv_at hl 1 rfl) ?_
  obtain ⟨qizh2, hf⟩ := gg_el hf
  obtain ⟨zt3, zh2, qzh2, hf⟩ := gc_el hf
  refine gx_ki (gx_runV (As := [.int za1]) (rest := []) X hw (c_X12_isRoom l E N za0 za1 zh1 qzh2) kX12_isRoom mm_X12_309 qizh2 clX12 ⟨Nat.le_of_ble_eq_true rfl, Nat.le_of_ble_eq_true rfl⟩ rfl rfl rfl hl.1 (Nat.le_of_ble_eq_true rfl) rfl dX12_who_7 ⟨Nat.le_of_ble_eq_true rfl, Nat.le_of_ble_eq_true rfl⟩) hw (fun H locs hw => ?_)
  refine lv_if_eq (tgt := 20) hx hb dX12_who_10 (by decide) (fun qc4 => ?_) (fun qc4 => ?_)
  · have hf := gif_t hf qc4
    exact J_20  _ _ _ ls hf hw (lv_sub hl [] rfl)
  · have hf := gif_f hf qc4
    refine lv_iload_n hx hb dX12_who_13 rfl (lv_at hl 2 rfl) ?_
    obtain ⟨zt6, zh5, qzh5, hf⟩ := gc_el hf
    refine gx_ki (gx_runS (As := [.int za2]) (rest := []) X hw (c_X12_isMinute l E N za2 zh2 qzh5) kX12_isMinute mm_X12_337 ⟨Nat.le_of_ble_eq_true rfl, Nat.le_of_ble_eq_true rfl⟩ rfl rfl rfl hl.1 (Nat.le_of_ble_eq_true rfl) rfl dX12_who_14 ⟨Nat.le_of_ble_eq_true rfl, Nat.le_of_ble_eq_true rfl⟩) hw (fun H locs hw => ?_)
    refine W.eq (g2 := F0 m 17 ls [.int zt6]) rfl ?_
    refine lv_if_ne (tgt := 22) hx hb dX12_who_17 (by decide) (fun qc7 => ?_) (fun qc7 => ?_)
    · have hf := gif_f hf qc7
      refine lv_aload_n hx hb dX12_who_22 rfl (lv_at hl 0 rfl) ?_
      obtain ⟨qizh8, hf⟩ := gg_el hf
      obtain ⟨zh8, qzh8, hf⟩ := gb_el hf
      refine gx_kv (gx_runV (As := []) (rest := []) X hw (c_X12_find l E N za0 zh5 qzh8) kX12_find mm_X12_300 qizh8 clX12 ⟨Nat.le_of_ble_eq_true rfl, Nat.le_of_ble_eq_true rfl⟩ rfl rfl rfl hl.1 (Nat.le_of_ble_eq_true rfl) rfl dX12_who_23 ⟨Nat.le_of_ble_eq_true rfl, Nat.le_of_ble_eq_true rfl⟩) hw (fun H locs hw => ?_)
      refine lv_aload_n hx hb dX12_who_26 rfl (lv_at hl 0 rfl) ?_
      refine lv_iload_n hx hb dX12_who_27 rfl (lv_at hl 1 rfl) ?_
      refine lv_iload_n hx hb dX12_who_28 rfl (lv_at hl 2 rfl) ?_
      obtain ⟨qizh9, hf⟩ := gg_el hf
      obtain ⟨zt10, zh9, qzh9, hf⟩ := gc_el hf
      refine gx_ki (gx_runV (As := [.int za1, .int za2]) (rest := []) X hw (c_X12_whoAt l E N za0 za1 za2 zh8 qzh9) kX12_whoAt mm_X12_343 qizh9 clX12 ⟨Nat.le_of_ble_eq_true rfl, Nat.le_of_ble_eq_true rfl⟩ rfl rfl rfl hl.1 (Nat.le_of_ble_eq_true rfl) rfl dX12_who_29 ⟨Nat.le_of_ble_eq_true rfl, Nat.le_of_ble_eq_true rfl⟩) hw (fun H locs hw => ?_)
      exact gx_iret X hr hlk hw hf dX12_who_32
    · have hf := gif_t hf qc7
      exact J_20  _ _ _ ls hf hw (lv_sub hl [] rfl)
abbrev rm_X12_letter : Room := { frames := 6, cells := 0, slots := 0, locals := 140 }
set_option maxHeartbeats 4000000 in
set_option maxRecDepth 100000 in
theorem c_X12_letter (l : Launch) (E : gE) (N : Nat) (za0 : Nat) (za1 : Int32) (za2 : Int32) (za3 : Int32) (zh : PH) {h9 : PH} {r9 : Int32} (hf : f_X12_letter N za0 za1 za2 za3 zh = some (r9, h9)) : Met l yX12_letter (gWS yX12_letter cX12_letter 5 (some .int)) rm_X12_letter (gPc E [.ref (gB E + za0), .int za1, .int za2, .int za3] zh) (gQi E r9 h9) 0 0 (gA E) := by
  refine gx_met (by decide) ?_ rfl
  intro p e s m below meth c X hr hlk hin2 hw
  have hx := X.1.1
  have hb := X.1.2.1
  have hl := lv_entry [.ref (gB E + za0), .int za1, .int za2, .int za3] (n := 5) (Nat.le_of_ble_eq_true rfl)
  rw [lg_entry_eq]
  generalize (lg_sl [.ref (gB E + za0), .int za1, .int za2, .int za3] ++ List.replicate (5 - (lg_sl [.ref (gB E + za0), .int za1, .int za2, .int za3]).length) Slot.unset).toArray = ls at hl ⊢
  have hl : lv_has ls 5 [(0, .ref (gB E + za0)), (1, .int za1), (2, .int za2), (3, .int za3)] := hl
  have J_62 : ∀ (zs0 : Int32) (zh : PH) (H : Heap) (locs : List Loc) (ls : Array Slot), f_X12_letter_62 N zs0 zh = some (r9, h9) → gw E s zh H locs → lv_has ls 5 [] → W p l e rm_X12_letter s m [.ref (gB E + za0), .int za1, .int za2, .int za3].toArray below meth c H locs 0 0 (MQ below (gQi E r9 h9) [.ref (gB E + za0), .int za1, .int za2, .int za3].toArray s 0 0 (gA E)) (F0 m 62 ls [.int zs0]) := by
    intro zs0 zh H locs ls hf hw hl
    unfold f_X12_letter_62 at hf
    exact gx_iret X hr hlk hw hf dX12_letter_62
  have J_32 : ∀ (zh : PH) (H : Heap) (locs : List Loc) (ls : Array Slot), f_X12_letter_32 N zh = some (r9, h9) → gw E s zh H locs → lv_has ls 5 [] → W p l e rm_X12_letter s m [.ref (gB E + za0), .int za1, .int za2, .int za3].toArray below meth c H locs 0 0 (MQ below (gQi E r9 h9) [.ref (gB E + za0), .int za1, .int za2, .int za3].toArray s 0 0 (gA E)) (F0 m 32 ls []) := by
    intro zh H locs ls hf hw hl
    unfold f_X12_letter_32 at hf
    refine lv_iconst (v := (-1)) hx hb dX12_letter_32 (by decide) ?_
    exact gx_iret X hr hlk hw hf dX12_letter_33
  unfold f_X12_letter at hf
  refine lv_aload_n hx hb dX12_letter_0 rfl (lv_at hl 0 rfl) ?_
  refine lv_iconst (v := 0) hx hb dX12_letter_1 (by decide) ?_
  obtain ⟨zh1, qzh1, hf⟩ := gb_el hf
  refine gx_putV X hw qzh1 clX12 (by decide) mf_X12_1 rfl rfl rfl dX12_letter_2 (fun H locs hw => ?_)
  refine lv_aload_n hx hb dX12_letter_5 rfl (lv_at hl 0 rfl) ?_
  refine lv_iload_n hx hb dX12_letter_6 rfl (lv_at hl 1 rfl) ?_
  obtain ⟨qizh2, hf⟩ := gg_el hf
  obtain ⟨zt3, zh2, qzh2, hf⟩ := gc_el hf
  refine gx_ki (gx_runV (As := [.int za1]) (rest := []) X hw (c_X12_isGuest l E N za0 za1 zh1 qzh2) kX12_isGuest mm_X12_312 qizh2 clX12 ⟨Nat.le_of_ble_eq_true rfl, Nat.le_of_ble_eq_true rfl⟩ rfl rfl rfl hl.1 (Nat.le_of_ble_eq_true rfl) rfl dX12_letter_7 ⟨Nat.le_of_ble_eq_true rfl, Nat.le_of_ble_eq_true rfl⟩) hw (fun H locs hw => ?_)
  refine lv_if_eq (tgt := 32) hx hb dX12_letter_10 (by decide) (fun qc4 => ?_) (fun qc4 => ?_)
  · have hf := gif_t hf qc4
    exact J_32  _ _ _ ls hf hw (lv_sub hl [] rfl)
  · have hf := gif_f hf qc4
    refine lv_iload_n hx hb dX12_letter_13 rfl (lv_at hl 2 rfl) ?_
    obtain ⟨zt6, zh5, qzh5, hf⟩ := gc_el hf
    refine gx_ki (gx_runS (As := [.int za2]) (rest := []) X hw (c_X12_isMinute l E N za2 zh2 qzh5) kX12_isMinute mm_X12_337 ⟨Nat.le_of_ble_eq_true rfl, Nat.le_of_ble_eq_true rfl⟩ rfl rfl rfl hl.1 (Nat.le_of_ble_eq_true rfl) rfl dX12_letter_14 ⟨Nat.le_of_ble_eq_true rfl, Nat.le_of_ble_eq_true rfl⟩) hw (fun H locs hw => ?_)
    refine W.eq (g2 := F0 m 17 ls [.int zt6]) rfl ?_
    refine lv_if_eq (tgt := 32) hx hb dX12_letter_17 (by decide) (fun qc7 => ?_) (fun qc7 => ?_)
    · have hf := gif_t hf qc7
      exact J_32  _ _ _ ls hf hw (lv_sub hl [] rfl)
    · have hf := gif_f hf qc7
      refine lv_iload_n hx hb dX12_letter_20 rfl (lv_at hl 3 rfl) ?_
      obtain ⟨zt9, zh8, qzh8, hf⟩ := gc_el hf
      refine gx_ki (gx_runS (As := [.int za3]) (rest := []) X hw (c_X12_isMinute l E N za3 zh5 qzh8) kX12_isMinute mm_X12_337 ⟨Nat.le_of_ble_eq_true rfl, Nat.le_of_ble_eq_true rfl⟩ rfl rfl rfl hl.1 (Nat.le_of_ble_eq_true rfl) rfl dX12_letter_21 ⟨Nat.le_of_ble_eq_true rfl, Nat.le_of_ble_eq_true rfl⟩) hw (fun H locs hw => ?_)
      refine lv_if_eq (tgt := 32) hx hb dX12_letter_24 (by decide) (fun qc10 => ?_) (fun qc10 => ?_)
      · have hf := gif_t hf qc10
        exact J_32  _ _ _ ls hf hw (lv_sub hl [] rfl)
      · have hf := gif_f hf qc10
        refine lv_iload_n hx hb dX12_letter_27 rfl (lv_at hl 3 rfl) ?_
        refine lv_iload_n hx hb dX12_letter_28 rfl (lv_at hl 2 rfl) ?_
        refine lv_icmp_ge (tgt := 34) hx hb dX12_letter_29 (by decide) (fun qc11 => ?_) (fun qc11 => ?_)
        · have hf := gif_t hf qc11
          refine lv_aload_n hx hb dX12_letter_34 rfl (lv_at hl 0 rfl) ?_
          obtain ⟨qizh12, hf⟩ := gg_el hf
          obtain ⟨zh12, qzh12, hf⟩ := gb_el hf
          refine gx_kv (gx_runV (As := []) (rest := []) X hw (c_X12_find l E N za0 zh8 qzh12) kX12_find mm_X12_300 qizh12 clX12 ⟨Nat.le_of_ble_eq_true rfl, Nat.le_of_ble_eq_true rfl⟩ rfl rfl rfl hl.1 (Nat.le_of_ble_eq_true rfl) rfl dX12_letter_35 ⟨Nat.le_of_ble_eq_true rfl, Nat.le_of_ble_eq_true rfl⟩) hw (fun H locs hw => ?_)
          refine lv_aload_n hx hb dX12_letter_38 rfl (lv_at hl 0 rfl) ?_
          refine W.eq (g2 := F0 m 39 ls [.ref (gB E + za0)]) rfl ?_
          refine lv_iload_n hx hb dX12_letter_39 rfl (lv_at hl 1 rfl) ?_
          refine lv_iload_n hx hb dX12_letter_40 rfl (lv_at hl 2 rfl) ?_
          obtain ⟨qizh13, hf⟩ := gg_el hf
          obtain ⟨zt14, zh13, qzh13, hf⟩ := gc_el hf
          refine gx_ki (gx_runV (As := [.int za1, .int za2]) (rest := []) X hw (c_X12_placeAt l E N za0 za1 za2 zh12 qzh13) kX12_placeAt mm_X12_340 qizh13 clX12 ⟨Nat.le_of_ble_eq_true rfl, Nat.le_of_ble_eq_true rfl⟩ rfl rfl rfl hl.1 (Nat.le_of_ble_eq_true rfl) rfl dX12_letter_41 ⟨Nat.le_of_ble_eq_true rfl, Nat.le_of_ble_eq_true rfl⟩) hw (fun H locs hw => ?_)
          refine lv_istore (lv' := [(4, .int zt14), (0, .ref (gB E + za0)), (1, .int za1), (2, .int za2), (3, .int za3)]) hx hb dX12_letter_44 hl (by decide) rfl (fun ls hl => ?_)
          refine lv_iload hx hb dX12_letter_46 (lv_at hl 0 rfl) ?_
          refine lv_if_ge (tgt := 55) hx hb dX12_letter_48 (by decide) (fun qc15 => ?_) (fun qc15 => ?_)
          · have hf := gif_t hf qc15
            refine lv_aload_n hx hb dX12_letter_55 rfl (lv_at hl 1 rfl) ?_
            refine lv_iload hx hb dX12_letter_56 (lv_at hl 0 rfl) ?_
            refine lv_iload_n hx hb dX12_letter_58 rfl (lv_at hl 4 rfl) ?_
            obtain ⟨qizh16, hf⟩ := gg_el hf
            obtain ⟨zt17, zh16, qzh16, hf⟩ := gc_el hf
            refine gx_ki (gx_runV (As := [.int zt14, .int za3]) (rest := []) X hw (c_X12_whoAt l E N za0 zt14 za3 zh13 qzh16) kX12_whoAt mm_X12_343 qizh16 clX12 ⟨Nat.le_of_ble_eq_true rfl, Nat.le_of_ble_eq_true rfl⟩ rfl rfl rfl hl.1 (Nat.le_of_ble_eq_true rfl) rfl dX12_letter_59 ⟨Nat.le_of_ble_eq_true rfl, Nat.le_of_ble_eq_true rfl⟩) hw (fun H locs hw => ?_)
            exact J_62 zt17 _ _ _ ls hf hw (lv_sub hl [] rfl)
          · have hf := gif_f hf qc15
            refine lv_iconst (v := (-1)) hx hb dX12_letter_51 (by decide) ?_
            refine lv_goto (tgt := 62) hx hb dX12_letter_52 (by decide) ?_
            exact J_62 (-1) _ _ _ ls hf hw (lv_sub hl [] rfl)
        · have hf := gif_f hf qc11
          exact J_32  _ _ _ ls hf hw (lv_sub hl [] rfl)
abbrev rm_X12_stays : Room := { frames := 0, cells := 0, slots := 0, locals := 0 }
set_option maxHeartbeats 4000000 in
set_option maxRecDepth 100000 in
theorem c_X12_stays (l : Launch) (E : gE) (N : Nat) (za0 : Nat) (za1 : Int32) (zh : PH) {h9 : PH} {r9 : Int32} (hf : f_X12_stays N za0 za1 zh = some (r9, h9)) : Met l yX12_stays (gWS yX12_stays cX12_stays 3 (some .int)) rm_X12_stays (gPc E [.ref (gB E + za0), .int za1] zh) (gQi E r9 h9) 0 0 (gA E) := by
  refine gx_met (by decide) ?_ rfl
  intro p e s m below meth c X hr hlk hin2 hw
  have hx := X.1.1
  have hb := X.1.2.1
  have hl := lv_entry [.ref (gB E + za0), .int za1] (n := 3) (Nat.le_of_ble_eq_true rfl)
  rw [lg_entry_eq]
  generalize (lg_sl [.ref (gB E + za0), .int za1] ++ List.replicate (3 - (lg_sl [.ref (gB E + za0), .int za1]).length) Slot.unset).toArray = ls at hl ⊢
  have hl : lv_has ls 3 [(0, .ref (gB E + za0)), (1, .int za1)] := hl
  have L_4 : ∀ (zn4 : Nat) (zv0 : Nat) (zv1 : Int32) (zv2 : Int32) (zh : PH) (H : Heap) (locs : List Loc) (ls : Array Slot), gi (fun zk zs => f_X12_stays_4 N zk zs.1 zs.2.1 zs.2.2.1 zs.2.2.2) zn4 (zv0, zv1, zv2, zh) = some (r9, h9) → gw E s zh H locs → lv_has ls 3 [(0, .ref (gB E + zv0)), (1, .int zv1), (2, .int zv2)] → W p l e rm_X12_stays s m [.ref (gB E + za0), .int za1].toArray below meth c H locs 0 0 (MQ below (gQi E r9 h9) [.ref (gB E + za0), .int za1].toArray s 0 0 (gA E)) (F0 m 4 ls []) := by
    intro zn4
    induction zn4 with
    | zero =>
      intro zv0 zv1 zv2 zh H locs ls hf
      cases hf
    | succ zn4 ih_4 =>
      intro zv0 zv1 zv2 zh H locs ls hf hw hl
      have hf := gi_s hf
      dsimp only at hf
      unfold f_X12_stays_4 at hf
      refine lv_iload_n hx hb dX12_stays_4 rfl (lv_at hl 2 rfl) ?_
      refine lv_aload_n hx hb dX12_stays_5 rfl (lv_at hl 0 rfl) ?_
      obtain ⟨zt1, qzt1, hf⟩ := gb_el hf
      refine gx_getI X hw qzt1 clX12 (by decide) mf_X12_255 dX12_stays_6 ?_
      refine lv_icmp_ge (tgt := 48) hx hb dX12_stays_9 (by decide) (fun qc2 => ?_) (fun qc2 => ?_)
      · have hf := gif_t hf qc2
        refine lv_ldcw (v := 100000000) hx hb X.1.2.2.2.1 (X.1.2.2.2.2 _ mk_X12_346) dX12_stays_48 ?_
        exact gx_iret X hr hlk hw hf dX12_stays_51
      · have hf := gif_f hf qc2
        refine lv_aload_n hx hb dX12_stays_12 rfl (lv_at hl 0 rfl) ?_
        obtain ⟨zt3, qzt3, hf⟩ := gb_el hf
        refine gx_getR X hw qzt3 clX12 (by decide) mf_X12_99 dX12_stays_13 ?_
        refine lv_iconst (v := 5) hx hb dX12_stays_16 (by decide) ?_
        refine lv_iload_n hx hb dX12_stays_17 rfl (lv_at hl 2 rfl) ?_
        refine lv_imul hx hb dX12_stays_18 ?_
        refine W.eq (g2 := F0 m 19 ls [.int (5 * zv2), .ref (gB E + zt3)]) rfl ?_
        obtain ⟨zt4, qzt4, hf⟩ := gb_el hf
        refine gx_iald X hw qzt4 dX12_stays_19 ?_
        refine lv_aload_n hx hb dX12_stays_20 rfl (lv_at hl 0 rfl) ?_
        obtain ⟨zt5, qzt5, hf⟩ := gb_el hf
        refine gx_getR X hw qzt5 clX12 (by decide) mf_X12_99 dX12_stays_21 ?_
        refine lv_iconst (v := 5) hx hb dX12_stays_24 (by decide) ?_
        refine lv_iload_n hx hb dX12_stays_25 rfl (lv_at hl 1 rfl) ?_
        refine lv_imul hx hb dX12_stays_26 ?_
        obtain ⟨zt6, qzt6, hf⟩ := gb_el hf
        refine gx_iald X hw qzt6 dX12_stays_27 ?_
        refine lv_icmp_ne (tgt := 42) hx hb dX12_stays_28 (by decide) (fun qc7 => ?_) (fun qc7 => ?_)
        · have hf := gif_f hf qc7
          obtain ⟨zx8, ezx8⟩ : ∃ y : Int32, y = zv2 + 1 := ⟨_, rfl⟩
          have hf := gl_el hf ezx8
          refine lv_iinc (v := zx8) (lv' := [(2, .int zx8), (0, .ref (gB E + zv0)), (1, .int zv1)]) hx hb dX12_stays_42 hl (k := 2) rfl (by rw [ezx8]; rfl) (by decide) rfl (fun ls hl => ?_)
          refine lv_goto (tgt := 4) hx hb dX12_stays_45 (by decide) ?_
          exact ih_4 zv0 zv1 zx8 _ _ _ ls hf hw (lv_sub hl [1, 2, 0] rfl)
        · have hf := gif_t hf qc7
          refine lv_aload_n hx hb dX12_stays_31 rfl (lv_at hl 0 rfl) ?_
          obtain ⟨zt9, qzt9, hf⟩ := gb_el hf
          refine gx_getR X hw qzt9 clX12 (by decide) mf_X12_99 dX12_stays_32 ?_
          refine W.eq (g2 := F0 m 35 ls [.ref (gB E + zt9)]) rfl ?_
          refine lv_iconst (v := 5) hx hb dX12_stays_35 (by decide) ?_
          refine lv_iload_n hx hb dX12_stays_36 rfl (lv_at hl 2 rfl) ?_
          refine lv_imul hx hb dX12_stays_37 ?_
          refine lv_iconst (v := 3) hx hb dX12_stays_38 (by decide) ?_
          refine lv_iadd hx hb dX12_stays_39 ?_
          obtain ⟨zt10, qzt10, hf⟩ := gb_el hf
          refine gx_iald X hw qzt10 dX12_stays_40 ?_
          exact gx_iret X hr hlk hw hf dX12_stays_41
  unfold f_X12_stays at hf
  refine lv_iload_n hx hb dX12_stays_0 rfl (lv_at hl 1 rfl) ?_
  refine lv_iconst (v := 1) hx hb dX12_stays_1 (by decide) ?_
  refine lv_iadd hx hb dX12_stays_2 ?_
  refine lv_topi (fun zx1 ezx1 => ?_)
  have hf := gl_el hf ezx1
  refine lv_istore_n (lv' := [(2, .int zx1), (0, .ref (gB E + za0)), (1, .int za1)]) hx hb dX12_stays_3 rfl hl (by decide) rfl (fun ls hl => ?_)
  exact L_4 N za0 za1 zx1 _ _ _ ls hf hw (lv_sub hl [1, 2, 0] rfl)
abbrev rm_X12_trunk : Room := { frames := 6, cells := 0, slots := 0, locals := 140 }
set_option maxHeartbeats 4000000 in
set_option maxRecDepth 100000 in
theorem c_X12_trunk (l : Launch) (E : gE) (N : Nat) (za0 : Nat) (za1 : Int32) (za2 : Int32) (za3 : Int32) (zh : PH) {h9 : PH} {r9 : Int32} (hf : f_X12_trunk N za0 za1 za2 za3 zh = some (r9, h9)) : Met l yX12_trunk (gWS yX12_trunk cX12_trunk 8 (some .int)) rm_X12_trunk (gPc E [.ref (gB E + za0), .int za1, .int za2, .int za3] zh) (gQi E r9 h9) 0 0 (gA E) := by
  refine gx_met (by decide) ?_ rfl
  intro p e s m below meth c X hr hlk hin2 hw
  have hx := X.1.1
  have hb := X.1.2.1
  have hl := lv_entry [.ref (gB E + za0), .int za1, .int za2, .int za3] (n := 8) (Nat.le_of_ble_eq_true rfl)
  rw [lg_entry_eq]
  generalize (lg_sl [.ref (gB E + za0), .int za1, .int za2, .int za3] ++ List.replicate (8 - (lg_sl [.ref (gB E + za0), .int za1, .int za2, .int za3]).length) Slot.unset).toArray = ls at hl ⊢
  have hl : lv_has ls 8 [(0, .ref (gB E + za0)), (1, .int za1), (2, .int za2), (3, .int za3)] := hl
  have L_44 : ∀ (zn44 : Nat) (zv0 : Nat) (zv1 : Int32) (zv2 : Int32) (zv3 : Int32) (zv4 : Int32) (zv5 : Int32) (zh : PH) (H : Heap) (locs : List Loc) (ls : Array Slot), gi (fun zk zs => f_X12_trunk_44 N zk zs.1 zs.2.1 zs.2.2.1 zs.2.2.2.1 zs.2.2.2.2.1 zs.2.2.2.2.2.1 zs.2.2.2.2.2.2) zn44 (zv0, zv1, zv2, zv3, zv4, zv5, zh) = some (r9, h9) → gw E s zh H locs → lv_has ls 8 [(0, .ref (gB E + zv0)), (1, .int zv1), (2, .int zv2), (3, .int zv3), (4, .int zv4), (5, .int zv5)] → W p l e rm_X12_trunk s m [.ref (gB E + za0), .int za1, .int za2, .int za3].toArray below meth c H locs 0 0 (MQ below (gQi E r9 h9) [.ref (gB E + za0), .int za1, .int za2, .int za3].toArray s 0 0 (gA E)) (F0 m 44 ls []) := by
    intro zn44
    induction zn44 with
    | zero =>
      intro zv0 zv1 zv2 zv3 zv4 zv5 zh H locs ls hf
      cases hf
    | succ zn44 ih_44 =>
      have J_153 : ∀ (zv0 : Nat) (zv1 : Int32) (zv2 : Int32) (zv3 : Int32) (zv4 : Int32) (zv5 : Int32) (zh : PH) (H : Heap) (locs : List Loc) (ls : Array Slot), f_X12_trunk_153 N (gi (fun zk zs => f_X12_trunk_44 N zk zs.1 zs.2.1 zs.2.2.1 zs.2.2.2.1 zs.2.2.2.2.1 zs.2.2.2.2.2.1 zs.2.2.2.2.2.2) zn44) zv0 zv1 zv2 zv3 zv4 zv5 zh = some (r9, h9) → gw E s zh H locs → lv_has ls 8 [(0, .ref (gB E + zv0)), (1, .int zv1), (2, .int zv2), (3, .int zv3), (4, .int zv4), (5, .int zv5)] → W p l e rm_X12_trunk s m [.ref (gB E + za0), .int za1, .int za2, .int za3].toArray below meth c H locs 0 0 (MQ below (gQi E r9 h9) [.ref (gB E + za0), .int za1, .int za2, .int za3].toArray s 0 0 (gA E)) (F0 m 153 ls []) := by
        intro zv0 zv1 zv2 zv3 zv4 zv5 zh H locs ls hf hw hl
        unfold f_X12_trunk_153 at hf
        obtain ⟨zx1, ezx1⟩ : ∃ y : Int32, y = zv5 + 1 := ⟨_, rfl⟩
        have hf := gl_el hf ezx1
        refine lv_iinc (v := zx1) (lv' := [(5, .int zx1), (0, .ref (gB E + zv0)), (1, .int zv1), (2, .int zv2), (3, .int zv3), (4, .int zv4)]) hx hb dX12_trunk_153 hl (k := 5) rfl (by rw [ezx1]; rfl) (by decide) rfl (fun ls hl => ?_)
        refine lv_goto (tgt := 44) hx hb dX12_trunk_156 (by decide) ?_
        exact ih_44 zv0 zv1 zv2 zv3 zv4 zx1 _ _ _ ls hf hw (lv_sub hl [1, 2, 3, 4, 5, 0] rfl)
      have J_150 : ∀ (zv0 : Nat) (zv1 : Int32) (zv2 : Int32) (zv3 : Int32) (zv5 : Int32) (zs0 : Int32) (zs1 : Int32) (zh : PH) (H : Heap) (locs : List Loc) (ls : Array Slot), f_X12_trunk_150 N (gi (fun zk zs => f_X12_trunk_44 N zk zs.1 zs.2.1 zs.2.2.1 zs.2.2.2.1 zs.2.2.2.2.1 zs.2.2.2.2.2.1 zs.2.2.2.2.2.2) zn44) zv0 zv1 zv2 zv3 zv5 zs0 zs1 zh = some (r9, h9) → gw E s zh H locs → lv_has ls 8 [(0, .ref (gB E + zv0)), (1, .int zv1), (2, .int zv2), (3, .int zv3), (5, .int zv5)] → W p l e rm_X12_trunk s m [.ref (gB E + za0), .int za1, .int za2, .int za3].toArray below meth c H locs 0 0 (MQ below (gQi E r9 h9) [.ref (gB E + za0), .int za1, .int za2, .int za3].toArray s 0 0 (gA E)) (F0 m 150 ls [.int zs0, .int zs1]) := by
        intro zv0 zv1 zv2 zv3 zv5 zs0 zs1 zh H locs ls hf hw hl
        unfold f_X12_trunk_150 at hf
        refine lv_ior hx hb dX12_trunk_150 ?_
        refine lv_topi (fun zx1 ezx1 => ?_)
        have hf := gl_el hf ezx1
        refine lv_istore (lv' := [(4, .int zx1), (0, .ref (gB E + zv0)), (1, .int zv1), (2, .int zv2), (3, .int zv3), (5, .int zv5)]) hx hb dX12_trunk_151 hl (by decide) rfl (fun ls hl => ?_)
        exact J_153 zv0 zv1 zv2 zv3 zx1 zv5 _ _ _ ls hf hw (lv_sub hl [1, 2, 3, 4, 0, 5] rfl)
      have J_124 : ∀ (zv0 : Nat) (zv1 : Int32) (zv2 : Int32) (zv3 : Int32) (zv4 : Int32) (zv5 : Int32) (zv6 : Int32) (zs0 : Int32) (zh : PH) (H : Heap) (locs : List Loc) (ls : Array Slot), f_X12_trunk_124 N (gi (fun zk zs => f_X12_trunk_44 N zk zs.1 zs.2.1 zs.2.2.1 zs.2.2.2.1 zs.2.2.2.2.1 zs.2.2.2.2.2.1 zs.2.2.2.2.2.2) zn44) zv0 zv1 zv2 zv3 zv4 zv5 zv6 zs0 zh = some (r9, h9) → gw E s zh H locs → lv_has ls 8 [(0, .ref (gB E + zv0)), (1, .int zv1), (2, .int zv2), (3, .int zv3), (4, .int zv4), (5, .int zv5), (6, .int zv6)] → W p l e rm_X12_trunk s m [.ref (gB E + za0), .int za1, .int za2, .int za3].toArray below meth c H locs 0 0 (MQ below (gQi E r9 h9) [.ref (gB E + za0), .int za1, .int za2, .int za3].toArray s 0 0 (gA E)) (F0 m 124 ls [.int zs0]) := by
        intro zv0 zv1 zv2 zv3 zv4 zv5 zv6 zs0 zh H locs ls hf hw hl
        unfold f_X12_trunk_124 at hf
        refine lv_istore (lv' := [(7, .int zs0), (0, .ref (gB E + zv0)), (1, .int zv1), (2, .int zv2), (3, .int zv3), (4, .int zv4), (5, .int zv5), (6, .int zv6)]) hx hb dX12_trunk_124 hl (by decide) rfl (fun ls hl => ?_)
        refine lv_iload hx hb dX12_trunk_126 (lv_at hl 5 rfl) ?_
        refine lv_iload hx hb dX12_trunk_128 (lv_at hl 7 rfl) ?_
        refine lv_iload hx hb dX12_trunk_130 (lv_at hl 0 rfl) ?_
        refine lv_icmp_gt (tgt := 149) hx hb dX12_trunk_132 (by decide) (fun qc1 => ?_) (fun qc1 => ?_)
        · have hf := gif_t hf qc1
          refine lv_iconst (v := 0) hx hb dX12_trunk_149 (by decide) ?_
          exact J_150 zv0 zv1 zv2 zv3 zv5 0 zv4 _ _ _ ls hf hw (lv_sub hl [1, 2, 3, 4, 6] rfl)
        · have hf := gif_f hf qc1
          refine lv_iconst (v := 1) hx hb dX12_trunk_135 (by decide) ?_
          refine lv_aload_n hx hb dX12_trunk_136 rfl (lv_at hl 1 rfl) ?_
          obtain ⟨zt2, qzt2, hf⟩ := gb_el hf
          refine gx_getR X hw qzt2 clX12 (by decide) mf_X12_99 dX12_trunk_137 ?_
          refine lv_iconst (v := 5) hx hb dX12_trunk_140 (by decide) ?_
          refine W.eq (g2 := F0 m 141 ls [.int 5, .ref (gB E + zt2), .int 1, .int zv4]) rfl ?_
          refine lv_iload hx hb dX12_trunk_141 (lv_at hl 6 rfl) ?_
          refine lv_imul hx hb dX12_trunk_143 ?_
          obtain ⟨zt3, qzt3, hf⟩ := gb_el hf
          refine gx_iald X hw qzt3 dX12_trunk_144 ?_
          refine lv_ishl hx hb dX12_trunk_145 ?_
          refine lv_goto (tgt := 150) hx hb dX12_trunk_146 (by decide) ?_
          exact J_150 zv0 zv1 zv2 zv3 zv5 (1 <<< (zt3 &&& 31)) zv4 _ _ _ ls hf hw (lv_sub hl [1, 2, 3, 4, 6] rfl)
      have J_98 : ∀ (zv0 : Nat) (zv1 : Int32) (zv2 : Int32) (zv3 : Int32) (zv4 : Int32) (zv5 : Int32) (zs0 : Int32) (zh : PH) (H : Heap) (locs : List Loc) (ls : Array Slot), f_X12_trunk_98 N (gi (fun zk zs => f_X12_trunk_44 N zk zs.1 zs.2.1 zs.2.2.1 zs.2.2.2.1 zs.2.2.2.2.1 zs.2.2.2.2.2.1 zs.2.2.2.2.2.2) zn44) zv0 zv1 zv2 zv3 zv4 zv5 zs0 zh = some (r9, h9) → gw E s zh H locs → lv_has ls 8 [(0, .ref (gB E + zv0)), (1, .int zv1), (2, .int zv2), (3, .int zv3), (4, .int zv4), (5, .int zv5)] → W p l e rm_X12_trunk s m [.ref (gB E + za0), .int za1, .int za2, .int za3].toArray below meth c H locs 0 0 (MQ below (gQi E r9 h9) [.ref (gB E + za0), .int za1, .int za2, .int za3].toArray s 0 0 (gA E)) (F0 m 98 ls [.int zs0]) := by
        intro zv0 zv1 zv2 zv3 zv4 zv5 zs0 zh H locs ls hf hw hl
        unfold f_X12_trunk_98 at hf
        refine lv_istore (lv' := [(6, .int zs0), (0, .ref (gB E + zv0)), (1, .int zv1), (2, .int zv2), (3, .int zv3), (4, .int zv4), (5, .int zv5)]) hx hb dX12_trunk_98 hl (by decide) rfl (fun ls hl => ?_)
        refine lv_aload_n hx hb dX12_trunk_100 rfl (lv_at hl 1 rfl) ?_
        refine lv_iload hx hb dX12_trunk_101 (lv_at hl 6 rfl) ?_
        obtain ⟨qizh1, hf⟩ := gg_el hf
        obtain ⟨zt2, zh1, qzh1, hf⟩ := gc_el hf
        refine gx_ki (gx_runV (As := [.int zv5]) (rest := []) X hw (c_X12_stays l E N zv0 zv5 zh qzh1) kX12_stays mm_X12_347 qizh1 clX12 ⟨Nat.le_of_ble_eq_true rfl, Nat.le_of_ble_eq_true rfl⟩ rfl rfl rfl hl.1 (Nat.le_of_ble_eq_true rfl) rfl dX12_trunk_103 ⟨Nat.le_of_ble_eq_true rfl, Nat.le_of_ble_eq_true rfl⟩) hw (fun H locs hw => ?_)
        refine lv_iconst (v := 1) hx hb dX12_trunk_106 (by decide) ?_
        refine lv_isub hx hb dX12_trunk_107 ?_
        refine lv_iload_n hx hb dX12_trunk_108 rfl (lv_at hl 4 rfl) ?_
        refine lv_icmp_ge (tgt := 123) hx hb dX12_trunk_109 (by decide) (fun qc3 => ?_) (fun qc3 => ?_)
        · have hf := gif_t hf qc3
          refine lv_iload_n hx hb dX12_trunk_123 rfl (lv_at hl 4 rfl) ?_
          exact J_124 zv0 zv1 zv2 zv3 zv4 zv5 zs0 zv3 _ _ _ ls hf hw (lv_sub hl [1, 2, 3, 4, 5, 6, 0] rfl)
        · have hf := gif_f hf qc3
          refine lv_aload_n hx hb dX12_trunk_112 rfl (lv_at hl 1 rfl) ?_
          refine W.eq (g2 := F0 m 113 ls [.ref (gB E + zv0)]) rfl ?_
          refine lv_iload hx hb dX12_trunk_113 (lv_at hl 6 rfl) ?_
          obtain ⟨qizh4, hf⟩ := gg_el hf
          obtain ⟨zt5, zh4, qzh4, hf⟩ := gc_el hf
          refine gx_ki (gx_runV (As := [.int zv5]) (rest := []) X hw (c_X12_stays l E N zv0 zv5 zh1 qzh4) kX12_stays mm_X12_347 qizh4 clX12 ⟨Nat.le_of_ble_eq_true rfl, Nat.le_of_ble_eq_true rfl⟩ rfl rfl rfl hl.1 (Nat.le_of_ble_eq_true rfl) rfl dX12_trunk_115 ⟨Nat.le_of_ble_eq_true rfl, Nat.le_of_ble_eq_true rfl⟩) hw (fun H locs hw => ?_)
          refine lv_iconst (v := 1) hx hb dX12_trunk_118 (by decide) ?_
          refine lv_isub hx hb dX12_trunk_119 ?_
          refine lv_goto (tgt := 124) hx hb dX12_trunk_120 (by decide) ?_
          exact J_124 zv0 zv1 zv2 zv3 zv4 zv5 zs0 (zt5 - 1) _ _ _ ls hf hw (lv_sub hl [1, 2, 3, 4, 5, 6, 0] rfl)
      intro zv0 zv1 zv2 zv3 zv4 zv5 zh H locs ls hf hw hl
      have hf := gi_s hf
      dsimp only at hf
      unfold f_X12_trunk_44 at hf
      refine lv_iload hx hb dX12_trunk_44 (lv_at hl 5 rfl) ?_
      refine lv_aload_n hx hb dX12_trunk_46 rfl (lv_at hl 0 rfl) ?_
      obtain ⟨zt1, qzt1, hf⟩ := gb_el hf
      refine gx_getI X hw qzt1 clX12 (by decide) mf_X12_255 dX12_trunk_47 ?_
      refine lv_icmp_ge (tgt := 159) hx hb dX12_trunk_50 (by decide) (fun qc2 => ?_) (fun qc2 => ?_)
      · have hf := gif_t hf qc2
        refine lv_iload hx hb dX12_trunk_159 (lv_at hl 4 rfl) ?_
        exact gx_iret X hr hlk hw hf dX12_trunk_161
      · have hf := gif_f hf qc2
        refine lv_aload_n hx hb dX12_trunk_53 rfl (lv_at hl 0 rfl) ?_
        obtain ⟨zt3, qzt3, hf⟩ := gb_el hf
        refine gx_getR X hw qzt3 clX12 (by decide) mf_X12_99 dX12_trunk_54 ?_
        refine lv_iconst (v := 5) hx hb dX12_trunk_57 (by decide) ?_
        refine lv_iload hx hb dX12_trunk_58 (lv_at hl 5 rfl) ?_
        refine lv_imul hx hb dX12_trunk_60 ?_
        refine W.eq (g2 := F0 m 61 ls [.int (5 * zv5), .ref (gB E + zt3)]) rfl ?_
        refine lv_iconst (v := 2) hx hb dX12_trunk_61 (by decide) ?_
        refine lv_iadd hx hb dX12_trunk_62 ?_
        obtain ⟨zt4, qzt4, hf⟩ := gb_el hf
        refine gx_iald X hw qzt4 dX12_trunk_63 ?_
        refine lv_iload_n hx hb dX12_trunk_64 rfl (lv_at hl 1 rfl) ?_
        refine lv_icmp_ne (tgt := 153) hx hb dX12_trunk_65 (by decide) (fun qc5 => ?_) (fun qc5 => ?_)
        · have hf := gif_f hf qc5
          exact J_153 zv0 zv1 zv2 zv3 zv4 zv5 _ _ _ ls hf hw (lv_sub hl [0, 1, 2, 3, 4, 5] rfl)
        · have hf := gif_t hf qc5
          refine lv_aload_n hx hb dX12_trunk_68 rfl (lv_at hl 0 rfl) ?_
          obtain ⟨zt6, qzt6, hf⟩ := gb_el hf
          refine gx_getR X hw qzt6 clX12 (by decide) mf_X12_99 dX12_trunk_69 ?_
          refine lv_iconst (v := 5) hx hb dX12_trunk_72 (by decide) ?_
          refine lv_iload hx hb dX12_trunk_73 (lv_at hl 5 rfl) ?_
          refine lv_imul hx hb dX12_trunk_75 ?_
          refine W.eq (g2 := F0 m 76 ls [.int (5 * zv5), .ref (gB E + zt6)]) rfl ?_
          refine lv_iconst (v := 4) hx hb dX12_trunk_76 (by decide) ?_
          refine lv_iadd hx hb dX12_trunk_77 ?_
          obtain ⟨zt7, qzt7, hf⟩ := gb_el hf
          refine gx_iald X hw qzt7 dX12_trunk_78 ?_
          refine lv_iload_n hx hb dX12_trunk_79 rfl (lv_at hl 2 rfl) ?_
          refine lv_icmp_ge (tgt := 87) hx hb dX12_trunk_80 (by decide) (fun qc8 => ?_) (fun qc8 => ?_)
          · have hf := gif_t hf qc8
            refine lv_aload_n hx hb dX12_trunk_87 rfl (lv_at hl 0 rfl) ?_
            obtain ⟨zt9, qzt9, hf⟩ := gb_el hf
            refine gx_getR X hw qzt9 clX12 (by decide) mf_X12_99 dX12_trunk_88 ?_
            refine lv_iconst (v := 5) hx hb dX12_trunk_91 (by decide) ?_
            refine lv_iload hx hb dX12_trunk_92 (lv_at hl 5 rfl) ?_
            refine lv_imul hx hb dX12_trunk_94 ?_
            refine W.eq (g2 := F0 m 95 ls [.int (5 * zv5), .ref (gB E + zt9)]) rfl ?_
            refine lv_iconst (v := 4) hx hb dX12_trunk_95 (by decide) ?_
            refine lv_iadd hx hb dX12_trunk_96 ?_
            obtain ⟨zt10, qzt10, hf⟩ := gb_el hf
            refine gx_iald X hw qzt10 dX12_trunk_97 ?_
            exact J_98 zv0 zv1 zv2 zv3 zv4 zv5 zt10 _ _ _ ls hf hw (lv_sub hl [0, 1, 2, 3, 4, 5] rfl)
          · have hf := gif_f hf qc8
            refine lv_iload_n hx hb dX12_trunk_83 rfl (lv_at hl 2 rfl) ?_
            refine lv_goto (tgt := 98) hx hb dX12_trunk_84 (by decide) ?_
            exact J_98 zv0 zv1 zv2 zv3 zv4 zv5 zv2 _ _ _ ls hf hw (lv_sub hl [0, 1, 2, 3, 4, 5] rfl)
  have J_32 : ∀ (zh : PH) (H : Heap) (locs : List Loc) (ls : Array Slot), f_X12_trunk_32 N zh = some (r9, h9) → gw E s zh H locs → lv_has ls 8 [] → W p l e rm_X12_trunk s m [.ref (gB E + za0), .int za1, .int za2, .int za3].toArray below meth c H locs 0 0 (MQ below (gQi E r9 h9) [.ref (gB E + za0), .int za1, .int za2, .int za3].toArray s 0 0 (gA E)) (F0 m 32 ls []) := by
    intro zh H locs ls hf hw hl
    unfold f_X12_trunk_32 at hf
    refine lv_iconst (v := (-1)) hx hb dX12_trunk_32 (by decide) ?_
    exact gx_iret X hr hlk hw hf dX12_trunk_33
  unfold f_X12_trunk at hf
  refine lv_aload_n hx hb dX12_trunk_0 rfl (lv_at hl 0 rfl) ?_
  refine lv_iconst (v := 0) hx hb dX12_trunk_1 (by decide) ?_
  obtain ⟨zh1, qzh1, hf⟩ := gb_el hf
  refine gx_putV X hw qzh1 clX12 (by decide) mf_X12_1 rfl rfl rfl dX12_trunk_2 (fun H locs hw => ?_)
  refine lv_aload_n hx hb dX12_trunk_5 rfl (lv_at hl 0 rfl) ?_
  refine lv_iload_n hx hb dX12_trunk_6 rfl (lv_at hl 1 rfl) ?_
  obtain ⟨qizh2, hf⟩ := gg_el hf
  obtain ⟨zt3, zh2, qzh2, hf⟩ := gc_el hf
  refine gx_ki (gx_runV (As := [.int za1]) (rest := []) X hw (c_X12_isRoom l E N za0 za1 zh1 qzh2) kX12_isRoom mm_X12_309 qizh2 clX12 ⟨Nat.le_of_ble_eq_true rfl, Nat.le_of_ble_eq_true rfl⟩ rfl rfl rfl hl.1 (Nat.le_of_ble_eq_true rfl) rfl dX12_trunk_7 ⟨Nat.le_of_ble_eq_true rfl, Nat.le_of_ble_eq_true rfl⟩) hw (fun H locs hw => ?_)
  refine lv_if_eq (tgt := 32) hx hb dX12_trunk_10 (by decide) (fun qc4 => ?_) (fun qc4 => ?_)
  · have hf := gif_t hf qc4
    exact J_32  _ _ _ ls hf hw (lv_sub hl [] rfl)
  · have hf := gif_f hf qc4
    refine lv_iload_n hx hb dX12_trunk_13 rfl (lv_at hl 2 rfl) ?_
    obtain ⟨zt6, zh5, qzh5, hf⟩ := gc_el hf
    refine gx_ki (gx_runS (As := [.int za2]) (rest := []) X hw (c_X12_isMinute l E N za2 zh2 qzh5) kX12_isMinute mm_X12_337 ⟨Nat.le_of_ble_eq_true rfl, Nat.le_of_ble_eq_true rfl⟩ rfl rfl rfl hl.1 (Nat.le_of_ble_eq_true rfl) rfl dX12_trunk_14 ⟨Nat.le_of_ble_eq_true rfl, Nat.le_of_ble_eq_true rfl⟩) hw (fun H locs hw => ?_)
    refine W.eq (g2 := F0 m 17 ls [.int zt6]) rfl ?_
    refine lv_if_eq (tgt := 32) hx hb dX12_trunk_17 (by decide) (fun qc7 => ?_) (fun qc7 => ?_)
    · have hf := gif_t hf qc7
      exact J_32  _ _ _ ls hf hw (lv_sub hl [] rfl)
    · have hf := gif_f hf qc7
      refine lv_iload_n hx hb dX12_trunk_20 rfl (lv_at hl 3 rfl) ?_
      obtain ⟨zt9, zh8, qzh8, hf⟩ := gc_el hf
      refine gx_ki (gx_runS (As := [.int za3]) (rest := []) X hw (c_X12_isMinute l E N za3 zh5 qzh8) kX12_isMinute mm_X12_337 ⟨Nat.le_of_ble_eq_true rfl, Nat.le_of_ble_eq_true rfl⟩ rfl rfl rfl hl.1 (Nat.le_of_ble_eq_true rfl) rfl dX12_trunk_21 ⟨Nat.le_of_ble_eq_true rfl, Nat.le_of_ble_eq_true rfl⟩) hw (fun H locs hw => ?_)
      refine lv_if_eq (tgt := 32) hx hb dX12_trunk_24 (by decide) (fun qc10 => ?_) (fun qc10 => ?_)
      · have hf := gif_t hf qc10
        exact J_32  _ _ _ ls hf hw (lv_sub hl [] rfl)
      · have hf := gif_f hf qc10
        refine lv_iload_n hx hb dX12_trunk_27 rfl (lv_at hl 3 rfl) ?_
        refine lv_iload_n hx hb dX12_trunk_28 rfl (lv_at hl 2 rfl) ?_
        refine lv_icmp_ge (tgt := 34) hx hb dX12_trunk_29 (by decide) (fun qc11 => ?_) (fun qc11 => ?_)
        · have hf := gif_t hf qc11
          refine lv_aload_n hx hb dX12_trunk_34 rfl (lv_at hl 0 rfl) ?_
          obtain ⟨qizh12, hf⟩ := gg_el hf
          obtain ⟨zh12, qzh12, hf⟩ := gb_el hf
          refine gx_kv (gx_runV (As := []) (rest := []) X hw (c_X12_find l E N za0 zh8 qzh12) kX12_find mm_X12_300 qizh12 clX12 ⟨Nat.le_of_ble_eq_true rfl, Nat.le_of_ble_eq_true rfl⟩ rfl rfl rfl hl.1 (Nat.le_of_ble_eq_true rfl) rfl dX12_trunk_35 ⟨Nat.le_of_ble_eq_true rfl, Nat.le_of_ble_eq_true rfl⟩) hw (fun H locs hw => ?_)
          refine lv_iconst (v := 0) hx hb dX12_trunk_38 (by decide) ?_
          refine W.eq (g2 := F0 m 39 ls [.int 0]) rfl ?_
          refine lv_istore (lv' := [(4, .int 0), (0, .ref (gB E + za0)), (1, .int za1), (2, .int za2), (3, .int za3)]) hx hb dX12_trunk_39 hl (by decide) rfl (fun ls hl => ?_)
          refine lv_iconst (v := 0) hx hb dX12_trunk_41 (by decide) ?_
          refine lv_istore (lv' := [(5, .int 0), (4, .int 0), (0, .ref (gB E + za0)), (1, .int za1), (2, .int za2), (3, .int za3)]) hx hb dX12_trunk_42 hl (by decide) rfl (fun ls hl => ?_)
          exact L_44 N za0 za1 za2 za3 0 0 _ _ _ ls hf hw (lv_sub hl [2, 3, 4, 5, 1, 0] rfl)
        · have hf := gif_f hf qc11
          exact J_32  _ _ _ ls hf hw (lv_sub hl [] rfl)
abbrev rm_X12_sights : Room := { frames := 0, cells := 0, slots := 0, locals := 0 }
set_option maxHeartbeats 4000000 in
set_option maxRecDepth 100000 in
theorem c_X12_sights (l : Launch) (E : gE) (N : Nat) (za0 : Nat) (zh : PH) {h9 : PH} {r9 : Int32} (hf : f_X12_sights N za0 zh = some (r9, h9)) : Met l yX12_sights (gWS yX12_sights cX12_sights 1 (some .int)) rm_X12_sights (gPc E [.ref (gB E + za0)] zh) (gQi E r9 h9) 0 0 (gA E) := by
  refine gx_met (by decide) ?_ rfl
  intro p e s m below meth c X hr hlk hin2 hw
  have hx := X.1.1
  have hb := X.1.2.1
  have hl := lv_entry [.ref (gB E + za0)] (n := 1) (Nat.le_of_ble_eq_true rfl)
  rw [lg_entry_eq]
  generalize (lg_sl [.ref (gB E + za0)] ++ List.replicate (1 - (lg_sl [.ref (gB E + za0)]).length) Slot.unset).toArray = ls at hl ⊢
  have hl : lv_has ls 1 [(0, .ref (gB E + za0))] := hl
  unfold f_X12_sights at hf
  refine lv_aload_n hx hb dX12_sights_0 rfl (lv_at hl 0 rfl) ?_
  obtain ⟨zt1, qzt1, hf⟩ := gb_el hf
  refine gx_getR X hw qzt1 clX12 (by decide) mf_X12_83 dX12_sights_1 ?_
  refine lv_sipush (v := 402) hx hb dX12_sights_4 (by decide) ?_
  obtain ⟨zt2, qzt2, hf⟩ := gb_el hf
  refine gx_iald X hw qzt2 dX12_sights_7 ?_
  exact gx_iret X hr hlk hw hf dX12_sights_8
abbrev rm_X12_sightOf : Room := { frames := 0, cells := 0, slots := 0, locals := 0 }
set_option maxHeartbeats 4000000 in
set_option maxRecDepth 100000 in
theorem c_X12_sightOf (l : Launch) (E : gE) (N : Nat) (za0 : Nat) (za1 : Int32) (za2 : Int32) (zh : PH) {h9 : PH} {r9 : Int32} (hf : f_X12_sightOf N za0 za1 za2 zh = some (r9, h9)) : Met l yX12_sightOf (gWS yX12_sightOf cX12_sightOf 3 (some .int)) rm_X12_sightOf (gPc E [.ref (gB E + za0), .int za1, .int za2] zh) (gQi E r9 h9) 0 0 (gA E) := by
  refine gx_met (by decide) ?_ rfl
  intro p e s m below meth c X hr hlk hin2 hw
  have hx := X.1.1
  have hb := X.1.2.1
  have hl := lv_entry [.ref (gB E + za0), .int za1, .int za2] (n := 3) (Nat.le_of_ble_eq_true rfl)
  rw [lg_entry_eq]
  generalize (lg_sl [.ref (gB E + za0), .int za1, .int za2] ++ List.replicate (3 - (lg_sl [.ref (gB E + za0), .int za1, .int za2]).length) Slot.unset).toArray = ls at hl ⊢
  have hl : lv_has ls 3 [(0, .ref (gB E + za0)), (1, .int za1), (2, .int za2)] := hl
  unfold f_X12_sightOf at hf
  refine lv_aload_n hx hb dX12_sightOf_0 rfl (lv_at hl 0 rfl) ?_
  obtain ⟨zt1, qzt1, hf⟩ := gb_el hf
  refine gx_getR X hw qzt1 clX12 (by decide) mf_X12_83 dX12_sightOf_1 ?_
  refine lv_sipush (v := 403) hx hb dX12_sightOf_4 (by decide) ?_
  refine lv_iconst (v := 3) hx hb dX12_sightOf_7 (by decide) ?_
  refine lv_iload_n hx hb dX12_sightOf_8 rfl (lv_at hl 1 rfl) ?_
  refine lv_imul hx hb dX12_sightOf_9 ?_
  refine lv_iadd hx hb dX12_sightOf_10 ?_
  refine lv_iload_n hx hb dX12_sightOf_11 rfl (lv_at hl 2 rfl) ?_
  refine lv_iadd hx hb dX12_sightOf_12 ?_
  refine W.eq (g2 := F0 m 13 ls [.int ((403 + (3 * za1)) + za2), .ref (gB E + zt1)]) rfl ?_
  obtain ⟨zt2, qzt2, hf⟩ := gb_el hf
  refine gx_iald X hw qzt2 dX12_sightOf_13 ?_
  exact gx_iret X hr hlk hw hf dX12_sightOf_14
abbrev rm_X12_walk : Room := { frames := 2, cells := 0, slots := 0, locals := 44 }
set_option maxHeartbeats 4000000 in
set_option maxRecDepth 100000 in
theorem c_X12_walk (l : Launch) (E : gE) (N : Nat) (za0 : Nat) (za1 : Int32) (za2 : Int32) (zh : PH) {h9 : PH} {r9 : Int32} (hf : f_X12_walk N za0 za1 za2 zh = some (r9, h9)) : Met l yX12_walk (gWS yX12_walk cX12_walk 3 (some .int)) rm_X12_walk (gPc E [.ref (gB E + za0), .int za1, .int za2] zh) (gQi E r9 h9) 0 0 (gA E) := by
  refine gx_met (by decide) ?_ rfl
  intro p e s m below meth c X hr hlk hin2 hw
  have hx := X.1.1
  have hb := X.1.2.1
  have hl := lv_entry [.ref (gB E + za0), .int za1, .int za2] (n := 3) (Nat.le_of_ble_eq_true rfl)
  rw [lg_entry_eq]
  generalize (lg_sl [.ref (gB E + za0), .int za1, .int za2] ++ List.replicate (3 - (lg_sl [.ref (gB E + za0), .int za1, .int za2]).length) Slot.unset).toArray = ls at hl ⊢
  have hl : lv_has ls 3 [(0, .ref (gB E + za0)), (1, .int za1), (2, .int za2)] := hl
  have J_14 : ∀ (zv0 : Nat) (zv1 : Int32) (zv2 : Int32) (zs0 : Int32) (zh : PH) (H : Heap) (locs : List Loc) (ls : Array Slot), f_X12_walk_14 N zv0 zv1 zv2 zs0 zh = some (r9, h9) → gw E s zh H locs → lv_has ls 3 [(0, .ref (gB E + zv0)), (1, .int zv1), (2, .int zv2)] → W p l e rm_X12_walk s m [.ref (gB E + za0), .int za1, .int za2].toArray below meth c H locs 0 0 (MQ below (gQi E r9 h9) [.ref (gB E + za0), .int za1, .int za2].toArray s 0 0 (gA E)) (F0 m 14 ls [.int zs0]) := by
    intro zv0 zv1 zv2 zs0 zh H locs ls hf hw hl
    unfold f_X12_walk_14 at hf
    refine lv_iconst (v := 2) hx hb dX12_walk_14 (by decide) ?_
    refine lv_aload_n hx hb dX12_walk_15 rfl (lv_at hl 0 rfl) ?_
    refine lv_iload_n hx hb dX12_walk_16 rfl (lv_at hl 1 rfl) ?_
    refine lv_iload_n hx hb dX12_walk_17 rfl (lv_at hl 2 rfl) ?_
    obtain ⟨qizh1, hf⟩ := gg_el hf
    obtain ⟨zt2, zh1, qzh1, hf⟩ := gc_el hf
    refine gx_ki (gx_runV (As := [.int zv1, .int zv2]) (rest := [.int 2, .int zs0]) X hw (c_X12_floors l E N zv0 zv1 zv2 zh qzh1) kX12_floors mm_X12_258 qizh1 clX12 ⟨Nat.le_of_ble_eq_true rfl, Nat.le_of_ble_eq_true rfl⟩ rfl rfl rfl hl.1 (Nat.le_of_ble_eq_true rfl) rfl dX12_walk_18 ⟨Nat.le_of_ble_eq_true rfl, Nat.le_of_ble_eq_true rfl⟩) hw (fun H locs hw => ?_)
    refine lv_imul hx hb dX12_walk_21 ?_
    refine lv_iadd hx hb dX12_walk_22 ?_
    exact gx_iret X hr hlk hw hf dX12_walk_23
  unfold f_X12_walk at hf
  refine lv_iload_n hx hb dX12_walk_0 rfl (lv_at hl 1 rfl) ?_
  refine lv_iload_n hx hb dX12_walk_1 rfl (lv_at hl 2 rfl) ?_
  refine lv_icmp_ge (tgt := 11) hx hb dX12_walk_2 (by decide) (fun qc1 => ?_) (fun qc1 => ?_)
  · have hf := gif_t hf qc1
    refine lv_iload_n hx hb dX12_walk_11 rfl (lv_at hl 1 rfl) ?_
    refine lv_iload_n hx hb dX12_walk_12 rfl (lv_at hl 2 rfl) ?_
    refine lv_isub hx hb dX12_walk_13 ?_
    exact J_14 za0 za1 za2 (za1 - za2) _ _ _ ls hf hw (lv_sub hl [0, 1, 2] rfl)
  · have hf := gif_f hf qc1
    refine lv_iload_n hx hb dX12_walk_5 rfl (lv_at hl 2 rfl) ?_
    refine lv_iload_n hx hb dX12_walk_6 rfl (lv_at hl 1 rfl) ?_
    refine lv_isub hx hb dX12_walk_7 ?_
    refine lv_goto (tgt := 14) hx hb dX12_walk_8 (by decide) ?_
    exact J_14 za0 za1 za2 (za2 - za1) _ _ _ ls hf hw (lv_sub hl [0, 1, 2] rfl)
abbrev rm_X12_apart : Room := { frames := 0, cells := 0, slots := 0, locals := 0 }
set_option maxHeartbeats 4000000 in
set_option maxRecDepth 100000 in
theorem c_X12_apart (l : Launch) (E : gE) (N : Nat) (za0 : Int32) (za1 : Int32) (zh : PH) {h9 : PH} {r9 : Int32} (hf : f_X12_apart N za0 za1 zh = some (r9, h9)) : Met l yX12_apart (gWS yX12_apart cX12_apart 2 (some .int)) rm_X12_apart (gPc E [.int za0, .int za1] zh) (gQi E r9 h9) 0 0 (gA E) := by
  refine gx_met (by decide) ?_ rfl
  intro p e s m below meth c X hr hlk hin2 hw
  have hx := X.1.1
  have hb := X.1.2.1
  have hl := lv_entry [.int za0, .int za1] (n := 2) (Nat.le_of_ble_eq_true rfl)
  rw [lg_entry_eq]
  generalize (lg_sl [.int za0, .int za1] ++ List.replicate (2 - (lg_sl [.int za0, .int za1]).length) Slot.unset).toArray = ls at hl ⊢
  have hl : lv_has ls 2 [(0, .int za0), (1, .int za1)] := hl
  have J_14 : ∀ (zs0 : Int32) (zh : PH) (H : Heap) (locs : List Loc) (ls : Array Slot), f_X12_apart_14 N zs0 zh = some (r9, h9) → gw E s zh H locs → lv_has ls 2 [] → W p l e rm_X12_apart s m [.int za0, .int za1].toArray below meth c H locs 0 0 (MQ below (gQi E r9 h9) [.int za0, .int za1].toArray s 0 0 (gA E)) (F0 m 14 ls [.int zs0]) := by
    intro zs0 zh H locs ls hf hw hl
    unfold f_X12_apart_14 at hf
    exact gx_iret X hr hlk hw hf dX12_apart_14
  unfold f_X12_apart at hf
  refine lv_iload_n hx hb dX12_apart_0 rfl (lv_at hl 0 rfl) ?_
  refine lv_iload_n hx hb dX12_apart_1 rfl (lv_at hl 1 rfl) ?_
  refine lv_icmp_ge (tgt := 11) hx hb dX12_apart_2 (by decide) (fun qc1 => ?_) (fun qc1 => ?_)
  · have hf := gif_t hf qc1
    refine lv_iload_n hx hb dX12_apart_11 rfl (lv_at hl 0 rfl) ?_
    refine lv_iload_n hx hb dX12_apart_12 rfl (lv_at hl 1 rfl) ?_
    refine lv_isub hx hb dX12_apart_13 ?_
    exact J_14 (za0 - za1) _ _ _ ls hf hw (lv_sub hl [] rfl)
  · have hf := gif_f hf qc1
    refine lv_iload_n hx hb dX12_apart_5 rfl (lv_at hl 1 rfl) ?_
    refine lv_iload_n hx hb dX12_apart_6 rfl (lv_at hl 0 rfl) ?_
    refine lv_isub hx hb dX12_apart_7 ?_
    refine lv_goto (tgt := 14) hx hb dX12_apart_8 (by decide) ?_
    exact J_14 (za1 - za0) _ _ _ ls hf hw (lv_sub hl [] rfl)
abbrev rm_X12_sight : Room := { frames := 2, cells := 0, slots := 0, locals := 42 }
set_option maxHeartbeats 4000000 in
set_option maxRecDepth 100000 in
theorem c_X12_sight (l : Launch) (E : gE) (N : Nat) (za0 : Nat) (za1 : Int32) (za2 : Int32) (za3 : Int32) (zh : PH) {h9 : PH} {r9 : Int32} (hf : f_X12_sight N za0 za1 za2 za3 zh = some (r9, h9)) : Met l yX12_sight (gWS yX12_sight cX12_sight 5 (some .int)) rm_X12_sight (gPc E [.ref (gB E + za0), .int za1, .int za2, .int za3] zh) (gQi E r9 h9) 0 0 (gA E) := by
  refine gx_met (by decide) ?_ rfl
  intro p e s m below meth c X hr hlk hin2 hw
  have hx := X.1.1
  have hb := X.1.2.1
  have hl := lv_entry [.ref (gB E + za0), .int za1, .int za2, .int za3] (n := 5) (Nat.le_of_ble_eq_true rfl)
  rw [lg_entry_eq]
  generalize (lg_sl [.ref (gB E + za0), .int za1, .int za2, .int za3] ++ List.replicate (5 - (lg_sl [.ref (gB E + za0), .int za1, .int za2, .int za3]).length) Slot.unset).toArray = ls at hl ⊢
  have hl : lv_has ls 5 [(0, .ref (gB E + za0)), (1, .int za1), (2, .int za2), (3, .int za3)] := hl
  have J_37 : ∀ (zh : PH) (H : Heap) (locs : List Loc) (ls : Array Slot), f_X12_sight_37 N zh = some (r9, h9) → gw E s zh H locs → lv_has ls 5 [] → W p l e rm_X12_sight s m [.ref (gB E + za0), .int za1, .int za2, .int za3].toArray below meth c H locs 0 0 (MQ below (gQi E r9 h9) [.ref (gB E + za0), .int za1, .int za2, .int za3].toArray s 0 0 (gA E)) (F0 m 37 ls []) := by
    intro zh H locs ls hf hw hl
    unfold f_X12_sight_37 at hf
    refine lv_iconst (v := (-1)) hx hb dX12_sight_37 (by decide) ?_
    exact gx_iret X hr hlk hw hf dX12_sight_38
  unfold f_X12_sight at hf
  refine lv_aload_n hx hb dX12_sight_0 rfl (lv_at hl 0 rfl) ?_
  refine lv_iconst (v := 0) hx hb dX12_sight_1 (by decide) ?_
  obtain ⟨zh1, qzh1, hf⟩ := gb_el hf
  refine gx_putV X hw qzh1 clX12 (by decide) mf_X12_1 rfl rfl rfl dX12_sight_2 (fun H locs hw => ?_)
  refine lv_aload_n hx hb dX12_sight_5 rfl (lv_at hl 0 rfl) ?_
  refine lv_iload_n hx hb dX12_sight_6 rfl (lv_at hl 1 rfl) ?_
  obtain ⟨qizh2, hf⟩ := gg_el hf
  obtain ⟨zt3, zh2, qzh2, hf⟩ := gc_el hf
  refine gx_ki (gx_runV (As := [.int za1]) (rest := []) X hw (c_X12_isGuest l E N za0 za1 zh1 qzh2) kX12_isGuest mm_X12_312 qizh2 clX12 ⟨Nat.le_of_ble_eq_true rfl, Nat.le_of_ble_eq_true rfl⟩ rfl rfl rfl hl.1 (Nat.le_of_ble_eq_true rfl) rfl dX12_sight_7 ⟨Nat.le_of_ble_eq_true rfl, Nat.le_of_ble_eq_true rfl⟩) hw (fun H locs hw => ?_)
  refine lv_if_eq (tgt := 37) hx hb dX12_sight_10 (by decide) (fun qc4 => ?_) (fun qc4 => ?_)
  · have hf := gif_t hf qc4
    exact J_37  _ _ _ ls hf hw (lv_sub hl [] rfl)
  · have hf := gif_f hf qc4
    refine lv_aload_n hx hb dX12_sight_13 rfl (lv_at hl 0 rfl) ?_
    refine lv_iload_n hx hb dX12_sight_14 rfl (lv_at hl 2 rfl) ?_
    refine W.eq (g2 := F0 m 15 ls [.int za2, .ref (gB E + za0)]) rfl ?_
    obtain ⟨qizh5, hf⟩ := gg_el hf
    obtain ⟨zt6, zh5, qzh5, hf⟩ := gc_el hf
    refine gx_ki (gx_runV (As := [.int za2]) (rest := []) X hw (c_X12_isRoom l E N za0 za2 zh2 qzh5) kX12_isRoom mm_X12_309 qizh5 clX12 ⟨Nat.le_of_ble_eq_true rfl, Nat.le_of_ble_eq_true rfl⟩ rfl rfl rfl hl.1 (Nat.le_of_ble_eq_true rfl) rfl dX12_sight_15 ⟨Nat.le_of_ble_eq_true rfl, Nat.le_of_ble_eq_true rfl⟩) hw (fun H locs hw => ?_)
    refine lv_if_eq (tgt := 37) hx hb dX12_sight_18 (by decide) (fun qc7 => ?_) (fun qc7 => ?_)
    · have hf := gif_t hf qc7
      exact J_37  _ _ _ ls hf hw (lv_sub hl [] rfl)
    · have hf := gif_f hf qc7
      refine lv_iload_n hx hb dX12_sight_21 rfl (lv_at hl 3 rfl) ?_
      obtain ⟨zt9, zh8, qzh8, hf⟩ := gc_el hf
      refine gx_ki (gx_runS (As := [.int za3]) (rest := []) X hw (c_X12_isTold l E N za3 zh5 qzh8) kX12_isTold mm_X12_321 ⟨Nat.le_of_ble_eq_true rfl, Nat.le_of_ble_eq_true rfl⟩ rfl rfl rfl hl.1 (Nat.le_of_ble_eq_true rfl) rfl dX12_sight_22 ⟨Nat.le_of_ble_eq_true rfl, Nat.le_of_ble_eq_true rfl⟩) hw (fun H locs hw => ?_)
      refine lv_if_eq (tgt := 37) hx hb dX12_sight_25 (by decide) (fun qc10 => ?_) (fun qc10 => ?_)
      · have hf := gif_t hf qc10
        exact J_37  _ _ _ ls hf hw (lv_sub hl [] rfl)
      · have hf := gif_f hf qc10
        refine lv_aload_n hx hb dX12_sight_28 rfl (lv_at hl 0 rfl) ?_
        obtain ⟨qizh11, hf⟩ := gg_el hf
        obtain ⟨zt12, zh11, qzh11, hf⟩ := gc_el hf
        refine gx_ki (gx_runV (As := []) (rest := []) X hw (c_X12_sights l E N za0 zh8 qzh11) kX12_sights mm_X12_350 qizh11 clX12 ⟨Nat.le_of_ble_eq_true rfl, Nat.le_of_ble_eq_true rfl⟩ rfl rfl rfl hl.1 (Nat.le_of_ble_eq_true rfl) rfl dX12_sight_29 ⟨Nat.le_of_ble_eq_true rfl, Nat.le_of_ble_eq_true rfl⟩) hw (fun H locs hw => ?_)
        refine lv_bipush (v := 20) hx hb dX12_sight_32 (by decide) ?_
        refine lv_icmp_ne (tgt := 39) hx hb dX12_sight_34 (by decide) (fun qc13 => ?_) (fun qc13 => ?_)
        · have hf := gif_f hf qc13
          refine lv_sipush (v := 403) hx hb dX12_sight_39 (by decide) ?_
          refine W.eq (g2 := F0 m 42 ls [.int 403]) rfl ?_
          refine lv_iconst (v := 3) hx hb dX12_sight_42 (by decide) ?_
          refine lv_aload_n hx hb dX12_sight_43 rfl (lv_at hl 0 rfl) ?_
          obtain ⟨qizh14, hf⟩ := gg_el hf
          obtain ⟨zt15, zh14, qzh14, hf⟩ := gc_el hf
          refine gx_ki (gx_runV (As := []) (rest := [.int 3, .int 403]) X hw (c_X12_sights l E N za0 zh11 qzh14) kX12_sights mm_X12_350 qizh14 clX12 ⟨Nat.le_of_ble_eq_true rfl, Nat.le_of_ble_eq_true rfl⟩ rfl rfl rfl hl.1 (Nat.le_of_ble_eq_true rfl) rfl dX12_sight_44 ⟨Nat.le_of_ble_eq_true rfl, Nat.le_of_ble_eq_true rfl⟩) hw (fun H locs hw => ?_)
          refine lv_imul hx hb dX12_sight_47 ?_
          refine lv_iadd hx hb dX12_sight_48 ?_
          refine lv_topi (fun zx16 ezx16 => ?_)
          have hf := gl_el hf ezx16
          refine lv_istore (lv' := [(4, .int zx16), (0, .ref (gB E + za0)), (1, .int za1), (2, .int za2), (3, .int za3)]) hx hb dX12_sight_49 hl (by decide) rfl (fun ls hl => ?_)
          refine lv_aload_n hx hb dX12_sight_51 rfl (lv_at hl 1 rfl) ?_
          obtain ⟨zt17, qzt17, hf⟩ := gb_el hf
          refine gx_getR X hw qzt17 clX12 (by decide) mf_X12_83 dX12_sight_52 ?_
          refine lv_iload hx hb dX12_sight_55 (lv_at hl 0 rfl) ?_
          refine lv_iload_n hx hb dX12_sight_57 rfl (lv_at hl 2 rfl) ?_
          refine W.eq (g2 := F0 m 58 ls [.int za1, .int zx16, .ref (gB E + zt17)]) rfl ?_
          obtain ⟨zh18, qzh18, hf⟩ := gb_el hf
          refine gx_iast X hw qzh18 dX12_sight_58 (fun H locs hw => ?_)
          refine lv_aload_n hx hb dX12_sight_59 rfl (lv_at hl 1 rfl) ?_
          obtain ⟨zt19, qzt19, hf⟩ := gb_el hf
          refine gx_getR X hw qzt19 clX12 (by decide) mf_X12_83 dX12_sight_60 ?_
          refine lv_iload hx hb dX12_sight_63 (lv_at hl 0 rfl) ?_
          refine lv_iconst (v := 1) hx hb dX12_sight_65 (by decide) ?_
          refine lv_iadd hx hb dX12_sight_66 ?_
          refine lv_iload_n hx hb dX12_sight_67 rfl (lv_at hl 3 rfl) ?_
          obtain ⟨zh20, qzh20, hf⟩ := gb_el hf
          refine gx_iast X hw qzh20 dX12_sight_68 (fun H locs hw => ?_)
          refine lv_aload_n hx hb dX12_sight_69 rfl (lv_at hl 1 rfl) ?_
          obtain ⟨zt21, qzt21, hf⟩ := gb_el hf
          refine gx_getR X hw qzt21 clX12 (by decide) mf_X12_83 dX12_sight_70 ?_
          refine W.eq (g2 := F0 m 73 ls [.ref (gB E + zt21)]) rfl ?_
          refine lv_iload hx hb dX12_sight_73 (lv_at hl 0 rfl) ?_
          refine lv_iconst (v := 2) hx hb dX12_sight_75 (by decide) ?_
          refine lv_iadd hx hb dX12_sight_76 ?_
          refine lv_iload_n hx hb dX12_sight_77 rfl (lv_at hl 4 rfl) ?_
          obtain ⟨zh22, qzh22, hf⟩ := gb_el hf
          refine gx_iast X hw qzh22 dX12_sight_78 (fun H locs hw => ?_)
          refine lv_aload_n hx hb dX12_sight_79 rfl (lv_at hl 1 rfl) ?_
          obtain ⟨zt23, qzt23, hf⟩ := gb_el hf
          refine gx_getR X hw qzt23 clX12 (by decide) mf_X12_83 dX12_sight_80 ?_
          refine lv_sipush (v := 402) hx hb dX12_sight_83 (by decide) ?_
          refine lv_dup2_11 hx hb dX12_sight_86 rfl rfl ?_
          obtain ⟨zt24, qzt24, hf⟩ := gb_el hf
          refine gx_iald X hw qzt24 dX12_sight_87 ?_
          refine W.eq (g2 := F0 m 88 ls [.int zt24, .int 402, .ref (gB E + zt23)]) rfl ?_
          refine lv_iconst (v := 1) hx hb dX12_sight_88 (by decide) ?_
          refine lv_iadd hx hb dX12_sight_89 ?_
          obtain ⟨zh25, qzh25, hf⟩ := gb_el hf
          refine gx_iast X hw qzh25 dX12_sight_90 (fun H locs hw => ?_)
          refine lv_aload_n hx hb dX12_sight_91 rfl (lv_at hl 1 rfl) ?_
          obtain ⟨qizh26, hf⟩ := gg_el hf
          obtain ⟨zt27, zh26, qzh26, hf⟩ := gc_el hf
          refine gx_ki (gx_runV (As := []) (rest := []) X hw (c_X12_sights l E N za0 zh25 qzh26) kX12_sights mm_X12_350 qizh26 clX12 ⟨Nat.le_of_ble_eq_true rfl, Nat.le_of_ble_eq_true rfl⟩ rfl rfl rfl hl.1 (Nat.le_of_ble_eq_true rfl) rfl dX12_sight_92 ⟨Nat.le_of_ble_eq_true rfl, Nat.le_of_ble_eq_true rfl⟩) hw (fun H locs hw => ?_)
          exact gx_iret X hr hlk hw hf dX12_sight_95
        · have hf := gif_t hf qc13
          exact J_37  _ _ _ ls hf hw (lv_sub hl [] rfl)
abbrev rm_X12_could : Room := { frames := 3, cells := 0, slots := 0, locals := 66 }
set_option maxHeartbeats 4000000 in
set_option maxRecDepth 100000 in
theorem c_X12_could (l : Launch) (E : gE) (N : Nat) (za0 : Nat) (za1 : Int32) (za2 : Int32) (zh : PH) {h9 : PH} {r9 : Int32} (hf : f_X12_could N za0 za1 za2 zh = some (r9, h9)) : Met l yX12_could (gWS yX12_could cX12_could 6 (some .int)) rm_X12_could (gPc E [.ref (gB E + za0), .int za1, .int za2] zh) (gQi E r9 h9) 0 0 (gA E) := by
  refine gx_met (by decide) ?_ rfl
  intro p e s m below meth c X hr hlk hin2 hw
  have hx := X.1.1
  have hb := X.1.2.1
  have hl := lv_entry [.ref (gB E + za0), .int za1, .int za2] (n := 6) (Nat.le_of_ble_eq_true rfl)
  rw [lg_entry_eq]
  generalize (lg_sl [.ref (gB E + za0), .int za1, .int za2] ++ List.replicate (6 - (lg_sl [.ref (gB E + za0), .int za1, .int za2]).length) Slot.unset).toArray = ls at hl ⊢
  have hl : lv_has ls 6 [(0, .ref (gB E + za0)), (1, .int za1), (2, .int za2)] := hl
  have L_34 : ∀ (zn34 : Nat) (zv0 : Nat) (zv1 : Int32) (zv2 : Int32) (zv3 : Int32) (zv4 : Int32) (zh : PH) (H : Heap) (locs : List Loc) (ls : Array Slot), gi (fun zk zs => f_X12_could_34 N zk zs.1 zs.2.1 zs.2.2.1 zs.2.2.2.1 zs.2.2.2.2.1 zs.2.2.2.2.2) zn34 (zv0, zv1, zv2, zv3, zv4, zh) = some (r9, h9) → gw E s zh H locs → lv_has ls 6 [(0, .ref (gB E + zv0)), (1, .int zv1), (2, .int zv2), (3, .int zv3), (4, .int zv4)] → W p l e rm_X12_could s m [.ref (gB E + za0), .int za1, .int za2].toArray below meth c H locs 0 0 (MQ below (gQi E r9 h9) [.ref (gB E + za0), .int za1, .int za2].toArray s 0 0 (gA E)) (F0 m 34 ls []) := by
    intro zn34
    induction zn34 with
    | zero =>
      intro zv0 zv1 zv2 zv3 zv4 zh H locs ls hf
      cases hf
    | succ zn34 ih_34 =>
      have J_97 : ∀ (zv0 : Nat) (zv1 : Int32) (zv2 : Int32) (zv4 : Int32) (zs0 : Int32) (zs1 : Int32) (zh : PH) (H : Heap) (locs : List Loc) (ls : Array Slot), f_X12_could_97 N (gi (fun zk zs => f_X12_could_34 N zk zs.1 zs.2.1 zs.2.2.1 zs.2.2.2.1 zs.2.2.2.2.1 zs.2.2.2.2.2) zn34) zv0 zv1 zv2 zv4 zs0 zs1 zh = some (r9, h9) → gw E s zh H locs → lv_has ls 6 [(0, .ref (gB E + zv0)), (1, .int zv1), (2, .int zv2), (4, .int zv4)] → W p l e rm_X12_could s m [.ref (gB E + za0), .int za1, .int za2].toArray below meth c H locs 0 0 (MQ below (gQi E r9 h9) [.ref (gB E + za0), .int za1, .int za2].toArray s 0 0 (gA E)) (F0 m 97 ls [.int zs0, .int zs1]) := by
        intro zv0 zv1 zv2 zv4 zs0 zs1 zh H locs ls hf hw hl
        unfold f_X12_could_97 at hf
        refine lv_iand hx hb dX12_could_97 ?_
        refine lv_topi (fun zx1 ezx1 => ?_)
        have hf := gl_el hf ezx1
        refine lv_istore_n (lv' := [(3, .int zx1), (0, .ref (gB E + zv0)), (1, .int zv1), (2, .int zv2), (4, .int zv4)]) hx hb dX12_could_98 rfl hl (by decide) rfl (fun ls hl => ?_)
        obtain ⟨zx2, ezx2⟩ : ∃ y : Int32, y = zv4 + 1 := ⟨_, rfl⟩
        have hf := gl_el hf ezx2
        refine lv_iinc (v := zx2) (lv' := [(4, .int zx2), (3, .int zx1), (0, .ref (gB E + zv0)), (1, .int zv1), (2, .int zv2)]) hx hb dX12_could_99 hl (k := 4) rfl (by rw [ezx2]; rfl) (by decide) rfl (fun ls hl => ?_)
        refine lv_goto (tgt := 34) hx hb dX12_could_102 (by decide) ?_
        exact ih_34 zv0 zv1 zv2 zx1 zx2 _ _ _ ls hf hw (lv_sub hl [2, 3, 4, 1, 0] rfl)
      have J_74 : ∀ (zv0 : Nat) (zv1 : Int32) (zv2 : Int32) (zv3 : Int32) (zv4 : Int32) (zs0 : Int32) (zh : PH) (H : Heap) (locs : List Loc) (ls : Array Slot), f_X12_could_74 N (gi (fun zk zs => f_X12_could_34 N zk zs.1 zs.2.1 zs.2.2.1 zs.2.2.2.1 zs.2.2.2.2.1 zs.2.2.2.2.2) zn34) zv0 zv1 zv2 zv3 zv4 zs0 zh = some (r9, h9) → gw E s zh H locs → lv_has ls 6 [(0, .ref (gB E + zv0)), (1, .int zv1), (2, .int zv2), (3, .int zv3), (4, .int zv4)] → W p l e rm_X12_could s m [.ref (gB E + za0), .int za1, .int za2].toArray below meth c H locs 0 0 (MQ below (gQi E r9 h9) [.ref (gB E + za0), .int za1, .int za2].toArray s 0 0 (gA E)) (F0 m 74 ls [.int zs0]) := by
        intro zv0 zv1 zv2 zv3 zv4 zs0 zh H locs ls hf hw hl
        unfold f_X12_could_74 at hf
        refine lv_istore (lv' := [(5, .int zs0), (0, .ref (gB E + zv0)), (1, .int zv1), (2, .int zv2), (3, .int zv3), (4, .int zv4)]) hx hb dX12_could_74 hl (by decide) rfl (fun ls hl => ?_)
        refine lv_iload_n hx hb dX12_could_76 rfl (lv_at hl 4 rfl) ?_
        refine lv_iload hx hb dX12_could_77 (lv_at hl 0 rfl) ?_
        refine lv_if_eq (tgt := 86) hx hb dX12_could_79 (by decide) (fun qc1 => ?_) (fun qc1 => ?_)
        · have hf := gif_t hf qc1
          refine lv_iconst (v := 1) hx hb dX12_could_86 (by decide) ?_
          refine lv_aload_n hx hb dX12_could_87 rfl (lv_at hl 1 rfl) ?_
          refine lv_iload hx hb dX12_could_88 (lv_at hl 5 rfl) ?_
          refine lv_iconst (v := 0) hx hb dX12_could_90 (by decide) ?_
          obtain ⟨qizh2, hf⟩ := gg_el hf
          obtain ⟨zt3, zh2, qzh2, hf⟩ := gc_el hf
          refine gx_ki (gx_runV (As := [.int zv4, .int 0]) (rest := [.int 1, .int zv3]) X hw (c_X12_sightOf l E N zv0 zv4 0 zh qzh2) kX12_sightOf mm_X12_353 qizh2 clX12 ⟨Nat.le_of_ble_eq_true rfl, Nat.le_of_ble_eq_true rfl⟩ rfl rfl rfl hl.1 (Nat.le_of_ble_eq_true rfl) rfl dX12_could_91 ⟨Nat.le_of_ble_eq_true rfl, Nat.le_of_ble_eq_true rfl⟩) hw (fun H locs hw => ?_)
          refine W.eq (g2 := F0 m 94 ls [.int zt3, .int 1, .int zv3]) rfl ?_
          refine lv_ishl hx hb dX12_could_94 ?_
          refine lv_iconst (v := (-1)) hx hb dX12_could_95 (by decide) ?_
          refine lv_ixor hx hb dX12_could_96 ?_
          exact J_97 zv0 zv1 zv2 zv4 ((1 <<< (zt3 &&& 31)) ^^^ (-1)) zv3 _ _ _ ls hf hw (lv_sub hl [1, 2, 3, 5] rfl)
        · have hf := gif_f hf qc1
          refine lv_iconst (v := (-1)) hx hb dX12_could_82 (by decide) ?_
          refine lv_goto (tgt := 97) hx hb dX12_could_83 (by decide) ?_
          exact J_97 zv0 zv1 zv2 zv4 (-1) zv3 _ _ _ ls hf hw (lv_sub hl [1, 2, 3, 5] rfl)
      intro zv0 zv1 zv2 zv3 zv4 zh H locs ls hf hw hl
      have hf := gi_s hf
      dsimp only at hf
      unfold f_X12_could_34 at hf
      refine lv_iload hx hb dX12_could_34 (lv_at hl 4 rfl) ?_
      refine lv_aload_n hx hb dX12_could_36 rfl (lv_at hl 0 rfl) ?_
      obtain ⟨qizh1, hf⟩ := gg_el hf
      obtain ⟨zt2, zh1, qzh1, hf⟩ := gc_el hf
      refine gx_ki (gx_runV (As := []) (rest := [.int zv4]) X hw (c_X12_sights l E N zv0 zh qzh1) kX12_sights mm_X12_350 qizh1 clX12 ⟨Nat.le_of_ble_eq_true rfl, Nat.le_of_ble_eq_true rfl⟩ rfl rfl rfl hl.1 (Nat.le_of_ble_eq_true rfl) rfl dX12_could_37 ⟨Nat.le_of_ble_eq_true rfl, Nat.le_of_ble_eq_true rfl⟩) hw (fun H locs hw => ?_)
      refine lv_icmp_ge (tgt := 105) hx hb dX12_could_40 (by decide) (fun qc3 => ?_) (fun qc3 => ?_)
      · have hf := gif_t hf qc3
        refine lv_iload_n hx hb dX12_could_105 rfl (lv_at hl 3 rfl) ?_
        exact gx_iret X hr hlk hw hf dX12_could_106
      · have hf := gif_f hf qc3
        refine lv_aload_n hx hb dX12_could_43 rfl (lv_at hl 0 rfl) ?_
        refine lv_aload_n hx hb dX12_could_44 rfl (lv_at hl 0 rfl) ?_
        refine lv_iload hx hb dX12_could_45 (lv_at hl 4 rfl) ?_
        refine lv_iconst (v := 1) hx hb dX12_could_47 (by decide) ?_
        obtain ⟨qizh4, hf⟩ := gg_el hf
        obtain ⟨zt5, zh4, qzh4, hf⟩ := gc_el hf
        refine gx_ki (gx_runV (As := [.int zv4, .int 1]) (rest := [.ref (gB E + zv0)]) X hw (c_X12_sightOf l E N zv0 zv4 1 zh1 qzh4) kX12_sightOf mm_X12_353 qizh4 clX12 ⟨Nat.le_of_ble_eq_true rfl, Nat.le_of_ble_eq_true rfl⟩ rfl rfl rfl hl.1 (Nat.le_of_ble_eq_true rfl) rfl dX12_could_48 ⟨Nat.le_of_ble_eq_true rfl, Nat.le_of_ble_eq_true rfl⟩) hw (fun H locs hw => ?_)
        refine W.eq (g2 := F0 m 51 ls [.int zt5, .ref (gB E + zv0)]) rfl ?_
        refine lv_iload_n hx hb dX12_could_51 rfl (lv_at hl 1 rfl) ?_
        obtain ⟨qizh6, hf⟩ := gg_el hf
        obtain ⟨zt7, zh6, qzh6, hf⟩ := gc_el hf
        refine gx_ki (gx_runV (As := [.int zt5, .int zv1]) (rest := []) X hw (c_X12_walk l E N zv0 zt5 zv1 zh4 qzh6) kX12_walk mm_X12_356 qizh6 clX12 ⟨Nat.le_of_ble_eq_true rfl, Nat.le_of_ble_eq_true rfl⟩ rfl rfl rfl hl.1 (Nat.le_of_ble_eq_true rfl) rfl dX12_could_52 ⟨Nat.le_of_ble_eq_true rfl, Nat.le_of_ble_eq_true rfl⟩) hw (fun H locs hw => ?_)
        refine lv_aload_n hx hb dX12_could_55 rfl (lv_at hl 0 rfl) ?_
        refine lv_iload hx hb dX12_could_56 (lv_at hl 4 rfl) ?_
        refine lv_iconst (v := 2) hx hb dX12_could_58 (by decide) ?_
        obtain ⟨qizh8, hf⟩ := gg_el hf
        obtain ⟨zt9, zh8, qzh8, hf⟩ := gc_el hf
        refine gx_ki (gx_runV (As := [.int zv4, .int 2]) (rest := [.int zt7]) X hw (c_X12_sightOf l E N zv0 zv4 2 zh6 qzh8) kX12_sightOf mm_X12_353 qizh8 clX12 ⟨Nat.le_of_ble_eq_true rfl, Nat.le_of_ble_eq_true rfl⟩ rfl rfl rfl hl.1 (Nat.le_of_ble_eq_true rfl) rfl dX12_could_59 ⟨Nat.le_of_ble_eq_true rfl, Nat.le_of_ble_eq_true rfl⟩) hw (fun H locs hw => ?_)
        refine lv_iload_n hx hb dX12_could_62 rfl (lv_at hl 2 rfl) ?_
        obtain ⟨zt11, zh10, qzh10, hf⟩ := gc_el hf
        refine gx_ki (gx_runS (As := [.int zt9, .int zv2]) (rest := [.int zt7]) X hw (c_X12_apart l E N zt9 zv2 zh8 qzh10) kX12_apart mm_X12_359 ⟨Nat.le_of_ble_eq_true rfl, Nat.le_of_ble_eq_true rfl⟩ rfl rfl rfl hl.1 (Nat.le_of_ble_eq_true rfl) rfl dX12_could_63 ⟨Nat.le_of_ble_eq_true rfl, Nat.le_of_ble_eq_true rfl⟩) hw (fun H locs hw => ?_)
        refine lv_icmp_gt (tgt := 73) hx hb dX12_could_66 (by decide) (fun qc12 => ?_) (fun qc12 => ?_)
        · have hf := gif_t hf qc12
          refine lv_iconst (v := 0) hx hb dX12_could_73 (by decide) ?_
          exact J_74 zv0 zv1 zv2 zv3 zv4 0 _ _ _ ls hf hw (lv_sub hl [0, 1, 2, 3, 4] rfl)
        · have hf := gif_f hf qc12
          refine lv_iconst (v := 1) hx hb dX12_could_69 (by decide) ?_
          refine W.eq (g2 := F0 m 70 ls [.int 1]) rfl ?_
          refine lv_goto (tgt := 74) hx hb dX12_could_70 (by decide) ?_
          exact J_74 zv0 zv1 zv2 zv3 zv4 1 _ _ _ ls hf hw (lv_sub hl [0, 1, 2, 3, 4] rfl)
  have J_20 : ∀ (zh : PH) (H : Heap) (locs : List Loc) (ls : Array Slot), f_X12_could_20 N zh = some (r9, h9) → gw E s zh H locs → lv_has ls 6 [] → W p l e rm_X12_could s m [.ref (gB E + za0), .int za1, .int za2].toArray below meth c H locs 0 0 (MQ below (gQi E r9 h9) [.ref (gB E + za0), .int za1, .int za2].toArray s 0 0 (gA E)) (F0 m 20 ls []) := by
    intro zh H locs ls hf hw hl
    unfold f_X12_could_20 at hf
    refine lv_iconst (v := (-1)) hx hb dX12_could_20 (by decide) ?_
    exact gx_iret X hr hlk hw hf dX12_could_21
  unfold f_X12_could at hf
  refine lv_aload_n hx hb dX12_could_0 rfl (lv_at hl 0 rfl) ?_
  refine lv_iconst (v := 0) hx hb dX12_could_1 (by decide) ?_
  obtain ⟨zh1, qzh1, hf⟩ := gb_el hf
  refine gx_putV X hw qzh1 clX12 (by decide) mf_X12_1 rfl rfl rfl dX12_could_2 (fun H locs hw => ?_)
  refine lv_aload_n hx hb dX12_could_5 rfl (lv_at hl 0 rfl) ?_
  refine lv_iload_n hx hb dX12_could_6 rfl (lv_at hl 1 rfl) ?_
  obtain ⟨qizh2, hf⟩ := gg_el hf
  obtain ⟨zt3, zh2, qzh2, hf⟩ := gc_el hf
  refine gx_ki (gx_runV (As := [.int za1]) (rest := []) X hw (c_X12_isRoom l E N za0 za1 zh1 qzh2) kX12_isRoom mm_X12_309 qizh2 clX12 ⟨Nat.le_of_ble_eq_true rfl, Nat.le_of_ble_eq_true rfl⟩ rfl rfl rfl hl.1 (Nat.le_of_ble_eq_true rfl) rfl dX12_could_7 ⟨Nat.le_of_ble_eq_true rfl, Nat.le_of_ble_eq_true rfl⟩) hw (fun H locs hw => ?_)
  refine lv_if_eq (tgt := 20) hx hb dX12_could_10 (by decide) (fun qc4 => ?_) (fun qc4 => ?_)
  · have hf := gif_t hf qc4
    exact J_20  _ _ _ ls hf hw (lv_sub hl [] rfl)
  · have hf := gif_f hf qc4
    refine lv_iload_n hx hb dX12_could_13 rfl (lv_at hl 2 rfl) ?_
    obtain ⟨zt6, zh5, qzh5, hf⟩ := gc_el hf
    refine gx_ki (gx_runS (As := [.int za2]) (rest := []) X hw (c_X12_isTold l E N za2 zh2 qzh5) kX12_isTold mm_X12_321 ⟨Nat.le_of_ble_eq_true rfl, Nat.le_of_ble_eq_true rfl⟩ rfl rfl rfl hl.1 (Nat.le_of_ble_eq_true rfl) rfl dX12_could_14 ⟨Nat.le_of_ble_eq_true rfl, Nat.le_of_ble_eq_true rfl⟩) hw (fun H locs hw => ?_)
    refine W.eq (g2 := F0 m 17 ls [.int zt6]) rfl ?_
    refine lv_if_ne (tgt := 22) hx hb dX12_could_17 (by decide) (fun qc7 => ?_) (fun qc7 => ?_)
    · have hf := gif_f hf qc7
      refine lv_iconst (v := 1) hx hb dX12_could_22 (by decide) ?_
      refine lv_aload_n hx hb dX12_could_23 rfl (lv_at hl 0 rfl) ?_
      obtain ⟨qizh8, hf⟩ := gg_el hf
      obtain ⟨zt9, zh8, qzh8, hf⟩ := gc_el hf
      refine gx_ki (gx_runV (As := []) (rest := [.int 1]) X hw (c_X12_guests l E N za0 zh5 qzh8) kX12_guests mm_X12_234 qizh8 clX12 ⟨Nat.le_of_ble_eq_true rfl, Nat.le_of_ble_eq_true rfl⟩ rfl rfl rfl hl.1 (Nat.le_of_ble_eq_true rfl) rfl dX12_could_24 ⟨Nat.le_of_ble_eq_true rfl, Nat.le_of_ble_eq_true rfl⟩) hw (fun H locs hw => ?_)
      refine lv_ishl hx hb dX12_could_27 ?_
      refine lv_iconst (v := 1) hx hb dX12_could_28 (by decide) ?_
      refine lv_isub hx hb dX12_could_29 ?_
      refine lv_topi (fun zx10 ezx10 => ?_)
      have hf := gl_el hf ezx10
      refine lv_istore_n (lv' := [(3, .int zx10), (0, .ref (gB E + za0)), (1, .int za1), (2, .int za2)]) hx hb dX12_could_30 rfl hl (by decide) rfl (fun ls hl => ?_)
      refine lv_iconst (v := 0) hx hb dX12_could_31 (by decide) ?_
      refine lv_istore (lv' := [(4, .int 0), (3, .int zx10), (0, .ref (gB E + za0)), (1, .int za1), (2, .int za2)]) hx hb dX12_could_32 hl (by decide) rfl (fun ls hl => ?_)
      exact L_34 N za0 za1 za2 zx10 0 _ _ _ ls hf hw (lv_sub hl [2, 3, 4, 1, 0] rfl)
    · have hf := gif_t hf qc7
      exact J_20  _ _ _ ls hf hw (lv_sub hl [] rfl)
abbrev rm_X12_areUnlike : Room := { frames := 3, cells := 0, slots := 0, locals := 66 }
set_option maxHeartbeats 4000000 in
set_option maxRecDepth 100000 in
theorem c_X12_areUnlike (l : Launch) (E : gE) (N : Nat) (za0 : Nat) (za1 : Int32) (za2 : Int32) (zh : PH) {h9 : PH} {r9 : Int32} (hf : f_X12_areUnlike N za0 za1 za2 zh = some (r9, h9)) : Met l yX12_areUnlike (gWS yX12_areUnlike cX12_areUnlike 3 (some .boolean)) rm_X12_areUnlike (gPc E [.ref (gB E + za0), .int za1, .int za2] zh) (gQi E r9 h9) 0 0 (gA E) := by
  refine gx_met (by decide) ?_ rfl
  intro p e s m below meth c X hr hlk hin2 hw
  have hx := X.1.1
  have hb := X.1.2.1
  have hl := lv_entry [.ref (gB E + za0), .int za1, .int za2] (n := 3) (Nat.le_of_ble_eq_true rfl)
  rw [lg_entry_eq]
  generalize (lg_sl [.ref (gB E + za0), .int za1, .int za2] ++ List.replicate (3 - (lg_sl [.ref (gB E + za0), .int za1, .int za2]).length) Slot.unset).toArray = ls at hl ⊢
  have hl : lv_has ls 3 [(0, .ref (gB E + za0)), (1, .int za1), (2, .int za2)] := hl
  have J_54 : ∀ (zs0 : Int32) (zh : PH) (H : Heap) (locs : List Loc) (ls : Array Slot), f_X12_areUnlike_54 N zs0 zh = some (r9, h9) → gw E s zh H locs → lv_has ls 3 [] → W p l e rm_X12_areUnlike s m [.ref (gB E + za0), .int za1, .int za2].toArray below meth c H locs 0 0 (MQ below (gQi E r9 h9) [.ref (gB E + za0), .int za1, .int za2].toArray s 0 0 (gA E)) (F0 m 54 ls [.int zs0]) := by
    intro zs0 zh H locs ls hf hw hl
    unfold f_X12_areUnlike_54 at hf
    exact gx_zret X hr hlk hw hf dX12_areUnlike_54
  have J_53 : ∀ (zh : PH) (H : Heap) (locs : List Loc) (ls : Array Slot), f_X12_areUnlike_53 N zh = some (r9, h9) → gw E s zh H locs → lv_has ls 3 [] → W p l e rm_X12_areUnlike s m [.ref (gB E + za0), .int za1, .int za2].toArray below meth c H locs 0 0 (MQ below (gQi E r9 h9) [.ref (gB E + za0), .int za1, .int za2].toArray s 0 0 (gA E)) (F0 m 53 ls []) := by
    intro zh H locs ls hf hw hl
    unfold f_X12_areUnlike_53 at hf
    refine lv_iconst (v := 0) hx hb dX12_areUnlike_53 (by decide) ?_
    exact J_54 0 _ _ _ ls hf hw (lv_sub hl [] rfl)
  unfold f_X12_areUnlike at hf
  refine lv_aload_n hx hb dX12_areUnlike_0 rfl (lv_at hl 0 rfl) ?_
  refine lv_iload_n hx hb dX12_areUnlike_1 rfl (lv_at hl 1 rfl) ?_
  refine lv_iconst (v := 0) hx hb dX12_areUnlike_2 (by decide) ?_
  obtain ⟨qizh1, hf⟩ := gg_el hf
  obtain ⟨zt2, zh1, qzh1, hf⟩ := gc_el hf
  refine gx_ki (gx_runV (As := [.int za1, .int 0]) (rest := []) X hw (c_X12_sightOf l E N za0 za1 0 zh qzh1) kX12_sightOf mm_X12_353 qizh1 clX12 ⟨Nat.le_of_ble_eq_true rfl, Nat.le_of_ble_eq_true rfl⟩ rfl rfl rfl hl.1 (Nat.le_of_ble_eq_true rfl) rfl dX12_areUnlike_3 ⟨Nat.le_of_ble_eq_true rfl, Nat.le_of_ble_eq_true rfl⟩) hw (fun H locs hw => ?_)
  refine lv_aload_n hx hb dX12_areUnlike_6 rfl (lv_at hl 0 rfl) ?_
  refine lv_iload_n hx hb dX12_areUnlike_7 rfl (lv_at hl 2 rfl) ?_
  refine lv_iconst (v := 0) hx hb dX12_areUnlike_8 (by decide) ?_
  obtain ⟨qizh3, hf⟩ := gg_el hf
  obtain ⟨zt4, zh3, qzh3, hf⟩ := gc_el hf
  refine gx_ki (gx_runV (As := [.int za2, .int 0]) (rest := [.int zt2]) X hw (c_X12_sightOf l E N za0 za2 0 zh1 qzh3) kX12_sightOf mm_X12_353 qizh3 clX12 ⟨Nat.le_of_ble_eq_true rfl, Nat.le_of_ble_eq_true rfl⟩ rfl rfl rfl hl.1 (Nat.le_of_ble_eq_true rfl) rfl dX12_areUnlike_9 ⟨Nat.le_of_ble_eq_true rfl, Nat.le_of_ble_eq_true rfl⟩) hw (fun H locs hw => ?_)
  refine lv_icmp_ne (tgt := 53) hx hb dX12_areUnlike_12 (by decide) (fun qc5 => ?_) (fun qc5 => ?_)
  · have hf := gif_f hf qc5
    exact J_53  _ _ _ ls hf hw (lv_sub hl [] rfl)
  · have hf := gif_t hf qc5
    refine W.eq (g2 := F0 m 15 ls []) rfl ?_
    refine lv_aload_n hx hb dX12_areUnlike_15 rfl (lv_at hl 0 rfl) ?_
    refine lv_aload_n hx hb dX12_areUnlike_16 rfl (lv_at hl 0 rfl) ?_
    refine lv_iload_n hx hb dX12_areUnlike_17 rfl (lv_at hl 1 rfl) ?_
    refine lv_iconst (v := 1) hx hb dX12_areUnlike_18 (by decide) ?_
    obtain ⟨qizh6, hf⟩ := gg_el hf
    obtain ⟨zt7, zh6, qzh6, hf⟩ := gc_el hf
    refine gx_ki (gx_runV (As := [.int za1, .int 1]) (rest := [.ref (gB E + za0)]) X hw (c_X12_sightOf l E N za0 za1 1 zh3 qzh6) kX12_sightOf mm_X12_353 qizh6 clX12 ⟨Nat.le_of_ble_eq_true rfl, Nat.le_of_ble_eq_true rfl⟩ rfl rfl rfl hl.1 (Nat.le_of_ble_eq_true rfl) rfl dX12_areUnlike_19 ⟨Nat.le_of_ble_eq_true rfl, Nat.le_of_ble_eq_true rfl⟩) hw (fun H locs hw => ?_)
    refine lv_aload_n hx hb dX12_areUnlike_22 rfl (lv_at hl 0 rfl) ?_
    refine lv_iload_n hx hb dX12_areUnlike_23 rfl (lv_at hl 2 rfl) ?_
    refine lv_iconst (v := 1) hx hb dX12_areUnlike_24 (by decide) ?_
    obtain ⟨qizh8, hf⟩ := gg_el hf
    obtain ⟨zt9, zh8, qzh8, hf⟩ := gc_el hf
    refine gx_ki (gx_runV (As := [.int za2, .int 1]) (rest := [.int zt7, .ref (gB E + za0)]) X hw (c_X12_sightOf l E N za0 za2 1 zh6 qzh8) kX12_sightOf mm_X12_353 qizh8 clX12 ⟨Nat.le_of_ble_eq_true rfl, Nat.le_of_ble_eq_true rfl⟩ rfl rfl rfl hl.1 (Nat.le_of_ble_eq_true rfl) rfl dX12_areUnlike_25 ⟨Nat.le_of_ble_eq_true rfl, Nat.le_of_ble_eq_true rfl⟩) hw (fun H locs hw => ?_)
    obtain ⟨qizh10, hf⟩ := gg_el hf
    obtain ⟨zt11, zh10, qzh10, hf⟩ := gc_el hf
    refine gx_ki (gx_runV (As := [.int zt7, .int zt9]) (rest := []) X hw (c_X12_walk l E N za0 zt7 zt9 zh8 qzh10) kX12_walk mm_X12_356 qizh10 clX12 ⟨Nat.le_of_ble_eq_true rfl, Nat.le_of_ble_eq_true rfl⟩ rfl rfl rfl hl.1 (Nat.le_of_ble_eq_true rfl) rfl dX12_areUnlike_28 ⟨Nat.le_of_ble_eq_true rfl, Nat.le_of_ble_eq_true rfl⟩) hw (fun H locs hw => ?_)
    refine W.eq (g2 := F0 m 31 ls [.int zt11]) rfl ?_
    refine lv_aload_n hx hb dX12_areUnlike_31 rfl (lv_at hl 0 rfl) ?_
    refine lv_iload_n hx hb dX12_areUnlike_32 rfl (lv_at hl 1 rfl) ?_
    refine lv_iconst (v := 2) hx hb dX12_areUnlike_33 (by decide) ?_
    obtain ⟨qizh12, hf⟩ := gg_el hf
    obtain ⟨zt13, zh12, qzh12, hf⟩ := gc_el hf
    refine gx_ki (gx_runV (As := [.int za1, .int 2]) (rest := [.int zt11]) X hw (c_X12_sightOf l E N za0 za1 2 zh10 qzh12) kX12_sightOf mm_X12_353 qizh12 clX12 ⟨Nat.le_of_ble_eq_true rfl, Nat.le_of_ble_eq_true rfl⟩ rfl rfl rfl hl.1 (Nat.le_of_ble_eq_true rfl) rfl dX12_areUnlike_34 ⟨Nat.le_of_ble_eq_true rfl, Nat.le_of_ble_eq_true rfl⟩) hw (fun H locs hw => ?_)
    refine lv_aload_n hx hb dX12_areUnlike_37 rfl (lv_at hl 0 rfl) ?_
    refine lv_iload_n hx hb dX12_areUnlike_38 rfl (lv_at hl 2 rfl) ?_
    refine lv_iconst (v := 2) hx hb dX12_areUnlike_39 (by decide) ?_
    obtain ⟨qizh14, hf⟩ := gg_el hf
    obtain ⟨zt15, zh14, qzh14, hf⟩ := gc_el hf
    refine gx_ki (gx_runV (As := [.int za2, .int 2]) (rest := [.int zt13, .int zt11]) X hw (c_X12_sightOf l E N za0 za2 2 zh12 qzh14) kX12_sightOf mm_X12_353 qizh14 clX12 ⟨Nat.le_of_ble_eq_true rfl, Nat.le_of_ble_eq_true rfl⟩ rfl rfl rfl hl.1 (Nat.le_of_ble_eq_true rfl) rfl dX12_areUnlike_40 ⟨Nat.le_of_ble_eq_true rfl, Nat.le_of_ble_eq_true rfl⟩) hw (fun H locs hw => ?_)
    obtain ⟨zt17, zh16, qzh16, hf⟩ := gc_el hf
    refine gx_ki (gx_runS (As := [.int zt13, .int zt15]) (rest := [.int zt11]) X hw (c_X12_apart l E N zt13 zt15 zh14 qzh16) kX12_apart mm_X12_359 ⟨Nat.le_of_ble_eq_true rfl, Nat.le_of_ble_eq_true rfl⟩ rfl rfl rfl hl.1 (Nat.le_of_ble_eq_true rfl) rfl dX12_areUnlike_43 ⟨Nat.le_of_ble_eq_true rfl, Nat.le_of_ble_eq_true rfl⟩) hw (fun H locs hw => ?_)
    refine lv_icmp_le (tgt := 53) hx hb dX12_areUnlike_46 (by decide) (fun qc18 => ?_) (fun qc18 => ?_)
    · have hf := gif_t hf qc18
      exact J_53  _ _ _ ls hf hw (lv_sub hl [] rfl)
    · have hf := gif_f hf qc18
      refine W.eq (g2 := F0 m 49 ls []) rfl ?_
      refine lv_iconst (v := 1) hx hb dX12_areUnlike_49 (by decide) ?_
      refine lv_goto (tgt := 54) hx hb dX12_areUnlike_50 (by decide) ?_
      exact J_54 1 _ _ _ ls hf hw (lv_sub hl [] rfl)
abbrev rm_gL (zd : Nat) : Room := { frames := zd + 4, cells := 0, slots := 0, locals := 25 * zd + 88 }
set_option maxHeartbeats 4000000 in
set_option maxRecDepth 100000 in
theorem cg_gL (l : Launch) (E : gE) (N : Nat) : ∀ zd : Nat, (∀ (za0 : Nat) (za1 : Int32) (za2 : Int32) (za3 : Int32) (zh h9 : PH), (g_gL N zd) za0 za1 za2 za3 zh = some h9 → Met l yX12_triesLiars (gWS yX12_triesLiars cX12_triesLiars 6 none) (rm_gL zd) (gPc E [.ref (gB E + za0), .int za1, .int za2, .int za3] zh) (gQv E h9) 0 0 (gA E)) := by
  intro zd
  induction zd with
  | zero => exact (fun _ _ _ _ _ _ hf => by cases hf)
  | succ zd ih =>
    · intro za0 za1 za2 za3 zh h9 hf
      have hf : b_X12_triesLiars N (g_gL N zd) za0 za1 za2 za3 zh = some h9 := hf
      refine gx_met (by decide) ?_ rfl
      intro p e s m below meth c X hr hlk hin2 hw
      have hx := X.1.1
      have hb := X.1.2.1
      have hl := lv_entry [.ref (gB E + za0), .int za1, .int za2, .int za3] (n := 6) (Nat.le_of_ble_eq_true rfl)
      rw [lg_entry_eq]
      generalize (lg_sl [.ref (gB E + za0), .int za1, .int za2, .int za3] ++ List.replicate (6 - (lg_sl [.ref (gB E + za0), .int za1, .int za2, .int za3]).length) Slot.unset).toArray = ls at hl ⊢
      have hl : lv_has ls 6 [(0, .ref (gB E + za0)), (1, .int za1), (2, .int za2), (3, .int za3)] := hl
      have J_90 : ∀ (zv0 : Nat) (zv1 : Int32) (zv2 : Int32) (zv3 : Int32) (zh : PH) (H : Heap) (locs : List Loc) (ls : Array Slot), f_X12_triesLiars_90 N (g_gL N zd) zv0 zv1 zv2 zv3 zh = some h9 → gw E s zh H locs → lv_has ls 6 [(0, .ref (gB E + zv0)), (1, .int zv1), (2, .int zv2), (3, .int zv3)] → W p l e (rm_gL (zd + 1)) s m [.ref (gB E + za0), .int za1, .int za2, .int za3].toArray below meth c H locs 0 0 (MQ below (gQv E h9) [.ref (gB E + za0), .int za1, .int za2, .int za3].toArray s 0 0 (gA E)) (F0 m 90 ls []) := by
        intro zv0 zv1 zv2 zv3 zh H locs ls hf hw hl
        unfold f_X12_triesLiars_90 at hf
        refine lv_aload_n hx hb dX12_triesLiars_90 rfl (lv_at hl 0 rfl) ?_
        refine lv_iload_n hx hb dX12_triesLiars_91 rfl (lv_at hl 1 rfl) ?_
        refine lv_iconst (v := 1) hx hb dX12_triesLiars_92 (by decide) ?_
        refine lv_iadd hx hb dX12_triesLiars_93 ?_
        refine lv_iload_n hx hb dX12_triesLiars_94 rfl (lv_at hl 2 rfl) ?_
        refine lv_iload_n hx hb dX12_triesLiars_95 rfl (lv_at hl 3 rfl) ?_
        refine lv_iconst (v := 1) hx hb dX12_triesLiars_96 (by decide) ?_
        refine lv_iadd hx hb dX12_triesLiars_97 ?_
        obtain ⟨qizh1, hf⟩ := gg_el hf
        obtain ⟨zh1, qzh1, hf⟩ := gb_el hf
        refine gx_kv (gx_runV (As := [.int (zv1 + 1), .int zv2, .int (zv3 + 1)]) (rest := []) X hw (ih zv0 (zv1 + 1) zv2 (zv3 + 1) zh _ qzh1) kX12_triesLiars mm_X12_369 qizh1 clX12 ⟨by dsimp only [rm_gL]; omega, by dsimp only [rm_gL]; omega⟩ rfl rfl rfl hl.1 (Nat.le_of_ble_eq_true rfl) rfl dX12_triesLiars_98 ⟨Nat.le_of_ble_eq_true rfl, Nat.le_of_ble_eq_true rfl⟩) hw (fun H locs hw => ?_)
        refine W.eq (g2 := F0 m 101 ls []) rfl ?_
        exact gx_vret X hr hlk hw hf dX12_triesLiars_101
      have L_29 : ∀ (zn29 : Nat) (zv0 : Nat) (zv1 : Int32) (zv2 : Int32) (zv3 : Int32) (zv4 : Int32) (zv5 : Int32) (zh : PH) (H : Heap) (locs : List Loc) (ls : Array Slot), gi (fun zk zs => f_X12_triesLiars_29 N (g_gL N zd) zk zs.1 zs.2.1 zs.2.2.1 zs.2.2.2.1 zs.2.2.2.2.1 zs.2.2.2.2.2.1 zs.2.2.2.2.2.2) zn29 (zv0, zv1, zv2, zv3, zv4, zv5, zh) = some h9 → gw E s zh H locs → lv_has ls 6 [(0, .ref (gB E + zv0)), (1, .int zv1), (2, .int zv2), (3, .int zv3), (4, .int zv4), (5, .int zv5)] → W p l e (rm_gL (zd + 1)) s m [.ref (gB E + za0), .int za1, .int za2, .int za3].toArray below meth c H locs 0 0 (MQ below (gQv E h9) [.ref (gB E + za0), .int za1, .int za2, .int za3].toArray s 0 0 (gA E)) (F0 m 29 ls []) := by
        intro zn29
        induction zn29 with
        | zero =>
          intro zv0 zv1 zv2 zv3 zv4 zv5 zh H locs ls hf
          cases hf
        | succ zn29 ih_29 =>
          have J_64 : ∀ (zv0 : Nat) (zv1 : Int32) (zv2 : Int32) (zv3 : Int32) (zv5 : Int32) (zs0 : Int32) (zh : PH) (H : Heap) (locs : List Loc) (ls : Array Slot), f_X12_triesLiars_64 N (g_gL N zd) (gi (fun zk zs => f_X12_triesLiars_29 N (g_gL N zd) zk zs.1 zs.2.1 zs.2.2.1 zs.2.2.2.1 zs.2.2.2.2.1 zs.2.2.2.2.2.1 zs.2.2.2.2.2.2) zn29) zv0 zv1 zv2 zv3 zv5 zs0 zh = some h9 → gw E s zh H locs → lv_has ls 6 [(0, .ref (gB E + zv0)), (1, .int zv1), (2, .int zv2), (3, .int zv3), (5, .int zv5)] → W p l e (rm_gL (zd + 1)) s m [.ref (gB E + za0), .int za1, .int za2, .int za3].toArray below meth c H locs 0 0 (MQ below (gQv E h9) [.ref (gB E + za0), .int za1, .int za2, .int za3].toArray s 0 0 (gA E)) (F0 m 64 ls [.int zs0]) := by
            intro zv0 zv1 zv2 zv3 zv5 zs0 zh H locs ls hf hw hl
            unfold f_X12_triesLiars_64 at hf
            refine lv_istore (lv' := [(4, .int zs0), (0, .ref (gB E + zv0)), (1, .int zv1), (2, .int zv2), (3, .int zv3), (5, .int zv5)]) hx hb dX12_triesLiars_64 hl (by decide) rfl (fun ls hl => ?_)
            obtain ⟨zx1, ezx1⟩ : ∃ y : Int32, y = zv5 + 1 := ⟨_, rfl⟩
            have hf := gl_el hf ezx1
            refine lv_iinc (v := zx1) (lv' := [(5, .int zx1), (4, .int zs0), (0, .ref (gB E + zv0)), (1, .int zv1), (2, .int zv2), (3, .int zv3)]) hx hb dX12_triesLiars_66 hl (k := 5) rfl (by rw [ezx1]; rfl) (by decide) rfl (fun ls hl => ?_)
            refine lv_goto (tgt := 29) hx hb dX12_triesLiars_69 (by decide) ?_
            exact ih_29 zv0 zv1 zv2 zv3 zs0 zx1 _ _ _ ls hf hw (lv_sub hl [2, 3, 4, 5, 1, 0] rfl)
          have J_63 : ∀ (zv0 : Nat) (zv1 : Int32) (zv2 : Int32) (zv3 : Int32) (zv5 : Int32) (zh : PH) (H : Heap) (locs : List Loc) (ls : Array Slot), f_X12_triesLiars_63 N (g_gL N zd) (gi (fun zk zs => f_X12_triesLiars_29 N (g_gL N zd) zk zs.1 zs.2.1 zs.2.2.1 zs.2.2.2.1 zs.2.2.2.2.1 zs.2.2.2.2.2.1 zs.2.2.2.2.2.2) zn29) zv0 zv1 zv2 zv3 zv5 zh = some h9 → gw E s zh H locs → lv_has ls 6 [(0, .ref (gB E + zv0)), (1, .int zv1), (2, .int zv2), (3, .int zv3), (5, .int zv5)] → W p l e (rm_gL (zd + 1)) s m [.ref (gB E + za0), .int za1, .int za2, .int za3].toArray below meth c H locs 0 0 (MQ below (gQv E h9) [.ref (gB E + za0), .int za1, .int za2, .int za3].toArray s 0 0 (gA E)) (F0 m 63 ls []) := by
            intro zv0 zv1 zv2 zv3 zv5 zh H locs ls hf hw hl
            unfold f_X12_triesLiars_63 at hf
            refine lv_iconst (v := 0) hx hb dX12_triesLiars_63 (by decide) ?_
            exact J_64 zv0 zv1 zv2 zv3 zv5 0 _ _ _ ls hf hw (lv_sub hl [0, 1, 2, 3, 4] rfl)
          have J_59 : ∀ (zv0 : Nat) (zv1 : Int32) (zv2 : Int32) (zv3 : Int32) (zv5 : Int32) (zh : PH) (H : Heap) (locs : List Loc) (ls : Array Slot), f_X12_triesLiars_59 N (g_gL N zd) (gi (fun zk zs => f_X12_triesLiars_29 N (g_gL N zd) zk zs.1 zs.2.1 zs.2.2.1 zs.2.2.2.1 zs.2.2.2.2.1 zs.2.2.2.2.2.1 zs.2.2.2.2.2.2) zn29) zv0 zv1 zv2 zv3 zv5 zh = some h9 → gw E s zh H locs → lv_has ls 6 [(0, .ref (gB E + zv0)), (1, .int zv1), (2, .int zv2), (3, .int zv3), (5, .int zv5)] → W p l e (rm_gL (zd + 1)) s m [.ref (gB E + za0), .int za1, .int za2, .int za3].toArray below meth c H locs 0 0 (MQ below (gQv E h9) [.ref (gB E + za0), .int za1, .int za2, .int za3].toArray s 0 0 (gA E)) (F0 m 59 ls []) := by
            intro zv0 zv1 zv2 zv3 zv5 zh H locs ls hf hw hl
            unfold f_X12_triesLiars_59 at hf
            refine lv_iconst (v := 1) hx hb dX12_triesLiars_59 (by decide) ?_
            refine lv_goto (tgt := 64) hx hb dX12_triesLiars_60 (by decide) ?_
            exact J_64 zv0 zv1 zv2 zv3 zv5 1 _ _ _ ls hf hw (lv_sub hl [0, 1, 2, 3, 4] rfl)
          intro zv0 zv1 zv2 zv3 zv4 zv5 zh H locs ls hf hw hl
          have hf := gi_s hf
          dsimp only at hf
          unfold f_X12_triesLiars_29 at hf
          refine lv_iload hx hb dX12_triesLiars_29 (lv_at hl 5 rfl) ?_
          refine lv_iload_n hx hb dX12_triesLiars_31 rfl (lv_at hl 1 rfl) ?_
          refine lv_icmp_ge (tgt := 72) hx hb dX12_triesLiars_32 (by decide) (fun qc1 => ?_) (fun qc1 => ?_)
          · have hf := gif_t hf qc1
            refine lv_iload hx hb dX12_triesLiars_72 (lv_at hl 4 rfl) ?_
            refine lv_if_eq (tgt := 90) hx hb dX12_triesLiars_74 (by decide) (fun qc2 => ?_) (fun qc2 => ?_)
            · have hf := gif_t hf qc2
              exact J_90 zv0 zv1 zv2 zv3 _ _ _ ls hf hw (lv_sub hl [0, 1, 2, 3] rfl)
            · have hf := gif_f hf qc2
              refine lv_aload_n hx hb dX12_triesLiars_77 rfl (lv_at hl 0 rfl) ?_
              refine lv_iload_n hx hb dX12_triesLiars_78 rfl (lv_at hl 1 rfl) ?_
              refine lv_iconst (v := 1) hx hb dX12_triesLiars_79 (by decide) ?_
              refine lv_iadd hx hb dX12_triesLiars_80 ?_
              refine W.eq (g2 := F0 m 81 ls [.int (zv1 + 1), .ref (gB E + zv0)]) rfl ?_
              refine lv_iload_n hx hb dX12_triesLiars_81 rfl (lv_at hl 2 rfl) ?_
              refine lv_iconst (v := 1) hx hb dX12_triesLiars_82 (by decide) ?_
              refine lv_iload_n hx hb dX12_triesLiars_83 rfl (lv_at hl 1 rfl) ?_
              refine lv_ishl hx hb dX12_triesLiars_84 ?_
              refine lv_ior hx hb dX12_triesLiars_85 ?_
              refine lv_iload_n hx hb dX12_triesLiars_86 rfl (lv_at hl 3 rfl) ?_
              obtain ⟨qizh3, hf⟩ := gg_el hf
              obtain ⟨zh3, qzh3, hf⟩ := gb_el hf
              refine gx_kv (gx_runV (As := [.int (zv1 + 1), .int (zv2 ||| (1 <<< (zv1 &&& 31))), .int zv3]) (rest := []) X hw (ih zv0 (zv1 + 1) (zv2 ||| (1 <<< (zv1 &&& 31))) zv3 zh _ qzh3) kX12_triesLiars mm_X12_369 qizh3 clX12 ⟨by dsimp only [rm_gL]; omega, by dsimp only [rm_gL]; omega⟩ rfl rfl rfl hl.1 (Nat.le_of_ble_eq_true rfl) rfl dX12_triesLiars_87 ⟨Nat.le_of_ble_eq_true rfl, Nat.le_of_ble_eq_true rfl⟩) hw (fun H locs hw => ?_)
              exact J_90 zv0 zv1 zv2 zv3 _ _ _ ls hf hw (lv_sub hl [0, 1, 2, 3] rfl)
          · have hf := gif_f hf qc1
            refine lv_iload hx hb dX12_triesLiars_35 (lv_at hl 4 rfl) ?_
            refine lv_if_eq (tgt := 63) hx hb dX12_triesLiars_37 (by decide) (fun qc4 => ?_) (fun qc4 => ?_)
            · have hf := gif_t hf qc4
              exact J_63 zv0 zv1 zv2 zv3 zv5 _ _ _ ls hf hw (lv_sub hl [0, 1, 2, 3, 5] rfl)
            · have hf := gif_f hf qc4
              refine lv_iload_n hx hb dX12_triesLiars_40 rfl (lv_at hl 2 rfl) ?_
              refine lv_iload hx hb dX12_triesLiars_41 (lv_at hl 5 rfl) ?_
              refine lv_ishr hx hb dX12_triesLiars_43 ?_
              refine lv_iconst (v := 1) hx hb dX12_triesLiars_44 (by decide) ?_
              refine W.eq (g2 := F0 m 45 ls [.int 1, .int (zv2 >>> (zv5 &&& 31))]) rfl ?_
              refine lv_iand hx hb dX12_triesLiars_45 ?_
              refine lv_if_eq (tgt := 59) hx hb dX12_triesLiars_46 (by decide) (fun qc5 => ?_) (fun qc5 => ?_)
              · have hf := gif_t hf qc5
                exact J_59 zv0 zv1 zv2 zv3 zv5 _ _ _ ls hf hw (lv_sub hl [0, 1, 2, 3, 5] rfl)
              · have hf := gif_f hf qc5
                refine lv_aload_n hx hb dX12_triesLiars_49 rfl (lv_at hl 0 rfl) ?_
                refine lv_iload hx hb dX12_triesLiars_50 (lv_at hl 5 rfl) ?_
                refine lv_iload_n hx hb dX12_triesLiars_52 rfl (lv_at hl 1 rfl) ?_
                obtain ⟨qizh6, hf⟩ := gg_el hf
                obtain ⟨zt7, zh6, qzh6, hf⟩ := gc_el hf
                refine gx_ki (gx_runV (As := [.int zv5, .int zv1]) (rest := []) X hw (c_X12_areUnlike l E N zv0 zv5 zv1 zh qzh6) kX12_areUnlike mm_X12_365 qizh6 clX12 ⟨by dsimp only [rm_gL, rm_X12_areUnlike]; omega, by dsimp only [rm_gL, rm_X12_areUnlike]; omega⟩ rfl rfl rfl hl.1 (Nat.le_of_ble_eq_true rfl) rfl dX12_triesLiars_53 ⟨Nat.le_of_ble_eq_true rfl, Nat.le_of_ble_eq_true rfl⟩) hw (fun H locs hw => ?_)
                refine lv_if_ne (tgt := 63) hx hb dX12_triesLiars_56 (by decide) (fun qc8 => ?_) (fun qc8 => ?_)
                · have hf := gif_f hf qc8
                  exact J_63 zv0 zv1 zv2 zv3 zv5 _ _ _ ls hf hw (lv_sub hl [0, 1, 2, 3, 5] rfl)
                · have hf := gif_t hf qc8
                  exact J_59 zv0 zv1 zv2 zv3 zv5 _ _ _ ls hf hw (lv_sub hl [0, 1, 2, 3, 5] rfl)
      unfold b_X12_triesLiars at hf
      refine lv_iload_n hx hb dX12_triesLiars_0 rfl (lv_at hl 3 rfl) ?_
      refine lv_aload_n hx hb dX12_triesLiars_1 rfl (lv_at hl 0 rfl) ?_
      obtain ⟨zt1, qzt1, hf⟩ := gb_el hf
      refine gx_getI X hw qzt1 clX12 (by decide) mf_X12_362 dX12_triesLiars_2 ?_
      refine lv_icmp_lt (tgt := 9) hx hb dX12_triesLiars_5 (by decide) (fun qc2 => ?_) (fun qc2 => ?_)
      · have hf := gif_t hf qc2
        refine lv_iload_n hx hb dX12_triesLiars_9 rfl (lv_at hl 1 rfl) ?_
        refine lv_aload_n hx hb dX12_triesLiars_10 rfl (lv_at hl 0 rfl) ?_
        obtain ⟨qizh3, hf⟩ := gg_el hf
        obtain ⟨zt4, zh3, qzh3, hf⟩ := gc_el hf
        refine gx_ki (gx_runV (As := []) (rest := [.int za1]) X hw (c_X12_sights l E N za0 zh qzh3) kX12_sights mm_X12_350 qizh3 clX12 ⟨by dsimp only [rm_gL, rm_X12_sights]; omega, by dsimp only [rm_gL, rm_X12_sights]; omega⟩ rfl rfl rfl hl.1 (Nat.le_of_ble_eq_true rfl) rfl dX12_triesLiars_11 ⟨Nat.le_of_ble_eq_true rfl, Nat.le_of_ble_eq_true rfl⟩) hw (fun H locs hw => ?_)
        refine lv_icmp_ne (tgt := 23) hx hb dX12_triesLiars_14 (by decide) (fun qc5 => ?_) (fun qc5 => ?_)
        · have hf := gif_f hf qc5
          refine lv_iconst (v := 1) hx hb dX12_triesLiars_23 (by decide) ?_
          refine W.eq (g2 := F0 m 24 ls [.int 1]) rfl ?_
          refine lv_istore (lv' := [(4, .int 1), (0, .ref (gB E + za0)), (1, .int za1), (2, .int za2), (3, .int za3)]) hx hb dX12_triesLiars_24 hl (by decide) rfl (fun ls hl => ?_)
          refine lv_iconst (v := 0) hx hb dX12_triesLiars_26 (by decide) ?_
          refine lv_istore (lv' := [(5, .int 0), (4, .int 1), (0, .ref (gB E + za0)), (1, .int za1), (2, .int za2), (3, .int za3)]) hx hb dX12_triesLiars_27 hl (by decide) rfl (fun ls hl => ?_)
          exact L_29 N za0 za1 za2 za3 1 0 _ _ _ ls hf hw (lv_sub hl [2, 3, 4, 5, 1, 0] rfl)
        · have hf := gif_t hf qc5
          refine lv_aload_n hx hb dX12_triesLiars_17 rfl (lv_at hl 0 rfl) ?_
          refine W.eq (g2 := F0 m 18 ls [.ref (gB E + za0)]) rfl ?_
          refine lv_iload_n hx hb dX12_triesLiars_18 rfl (lv_at hl 3 rfl) ?_
          obtain ⟨zh6, qzh6, hf⟩ := gb_el hf
          refine gx_putV X hw qzh6 clX12 (by decide) mf_X12_362 rfl rfl rfl dX12_triesLiars_19 (fun H locs hw => ?_)
          exact gx_vret X hr hlk hw hf dX12_triesLiars_22
      · have hf := gif_f hf qc2
        exact gx_vret X hr hlk hw hf dX12_triesLiars_8
abbrev rm_X12_triesLiars : Room := { frames := 36, cells := 0, slots := 0, locals := 888 }
theorem c_X12_triesLiars (l : Launch) (E : gE) (N : Nat) (za0 : Nat) (za1 : Int32) (za2 : Int32) (za3 : Int32) (zh : PH) {h9 : PH} (hf : f_X12_triesLiars N za0 za1 za2 za3 zh = some h9) : Met l yX12_triesLiars (gWS yX12_triesLiars cX12_triesLiars 6 none) rm_X12_triesLiars (gPc E [.ref (gB E + za0), .int za1, .int za2, .int za3] zh) (gQv E h9) 0 0 (gA E) := (cg_gL l E N 32) za0 za1 za2 za3 zh _ hf
abbrev rm_X12_liars : Room := { frames := 37, cells := 0, slots := 0, locals := 913 }
set_option maxHeartbeats 4000000 in
set_option maxRecDepth 100000 in
theorem c_X12_liars (l : Launch) (E : gE) (N : Nat) (za0 : Nat) (zh : PH) {h9 : PH} {r9 : Int32} (hf : f_X12_liars N za0 zh = some (r9, h9)) : Met l yX12_liars (gWS yX12_liars cX12_liars 1 (some .int)) rm_X12_liars (gPc E [.ref (gB E + za0)] zh) (gQi E r9 h9) 0 0 (gA E) := by
  refine gx_met (by decide) ?_ rfl
  intro p e s m below meth c X hr hlk hin2 hw
  have hx := X.1.1
  have hb := X.1.2.1
  have hl := lv_entry [.ref (gB E + za0)] (n := 1) (Nat.le_of_ble_eq_true rfl)
  rw [lg_entry_eq]
  generalize (lg_sl [.ref (gB E + za0)] ++ List.replicate (1 - (lg_sl [.ref (gB E + za0)]).length) Slot.unset).toArray = ls at hl ⊢
  have hl : lv_has ls 1 [(0, .ref (gB E + za0))] := hl
  unfold f_X12_liars at hf
  refine lv_aload_n hx hb dX12_liars_0 rfl (lv_at hl 0 rfl) ?_
  refine lv_iconst (v := 0) hx hb dX12_liars_1 (by decide) ?_
  obtain ⟨zh1, qzh1, hf⟩ := gb_el hf
  refine gx_putV X hw qzh1 clX12 (by decide) mf_X12_1 rfl rfl rfl dX12_liars_2 (fun H locs hw => ?_)
  refine lv_aload_n hx hb dX12_liars_5 rfl (lv_at hl 0 rfl) ?_
  refine lv_ldcw (v := 100000000) hx hb X.1.2.2.2.1 (X.1.2.2.2.2 _ mk_X12_346) dX12_liars_6 ?_
  obtain ⟨zh2, qzh2, hf⟩ := gb_el hf
  refine gx_putV X hw qzh2 clX12 (by decide) mf_X12_362 rfl rfl rfl dX12_liars_9 (fun H locs hw => ?_)
  refine lv_aload_n hx hb dX12_liars_12 rfl (lv_at hl 0 rfl) ?_
  refine lv_iconst (v := 0) hx hb dX12_liars_13 (by decide) ?_
  refine lv_iconst (v := 0) hx hb dX12_liars_14 (by decide) ?_
  refine W.eq (g2 := F0 m 15 ls [.int 0, .int 0, .ref (gB E + za0)]) rfl ?_
  refine lv_iconst (v := 0) hx hb dX12_liars_15 (by decide) ?_
  obtain ⟨qizh3, hf⟩ := gg_el hf
  obtain ⟨zh3, qzh3, hf⟩ := gb_el hf
  refine gx_kv (gx_runV (As := [.int 0, .int 0, .int 0]) (rest := []) X hw (c_X12_triesLiars l E N za0 0 0 0 zh2 qzh3) kX12_triesLiars mm_X12_369 qizh3 clX12 ⟨Nat.le_of_ble_eq_true rfl, Nat.le_of_ble_eq_true rfl⟩ rfl rfl rfl hl.1 (Nat.le_of_ble_eq_true rfl) rfl dX12_liars_16 ⟨Nat.le_of_ble_eq_true rfl, Nat.le_of_ble_eq_true rfl⟩) hw (fun H locs hw => ?_)
  refine lv_aload_n hx hb dX12_liars_19 rfl (lv_at hl 0 rfl) ?_
  obtain ⟨zt4, qzt4, hf⟩ := gb_el hf
  refine gx_getI X hw qzt4 clX12 (by decide) mf_X12_362 dX12_liars_20 ?_
  exact gx_iret X hr hlk hw hf dX12_liars_23
abbrev rm_X12_pageOf : Room := { frames := 0, cells := 0, slots := 0, locals := 0 }
set_option maxHeartbeats 4000000 in
set_option maxRecDepth 100000 in
theorem c_X12_pageOf (l : Launch) (E : gE) (N : Nat) (za0 : Nat) (za1 : Int32) (zh : PH) {h9 : PH} {r9 : Int32} (hf : f_X12_pageOf N za0 za1 zh = some (r9, h9)) : Met l yX12_pageOf (gWS yX12_pageOf cX12_pageOf 2 (some .int)) rm_X12_pageOf (gPc E [.ref (gB E + za0), .int za1] zh) (gQi E r9 h9) 0 0 (gA E) := by
  refine gx_met (by decide) ?_ rfl
  intro p e s m below meth c X hr hlk hin2 hw
  have hx := X.1.1
  have hb := X.1.2.1
  have hl := lv_entry [.ref (gB E + za0), .int za1] (n := 2) (Nat.le_of_ble_eq_true rfl)
  rw [lg_entry_eq]
  generalize (lg_sl [.ref (gB E + za0), .int za1] ++ List.replicate (2 - (lg_sl [.ref (gB E + za0), .int za1]).length) Slot.unset).toArray = ls at hl ⊢
  have hl : lv_has ls 2 [(0, .ref (gB E + za0)), (1, .int za1)] := hl
  unfold f_X12_pageOf at hf
  refine lv_aload_n hx hb dX12_pageOf_0 rfl (lv_at hl 0 rfl) ?_
  obtain ⟨zt1, qzt1, hf⟩ := gb_el hf
  refine gx_getR X hw qzt1 clX12 (by decide) mf_X12_83 dX12_pageOf_1 ?_
  refine lv_sipush (v := 463) hx hb dX12_pageOf_4 (by decide) ?_
  refine lv_iload_n hx hb dX12_pageOf_7 rfl (lv_at hl 1 rfl) ?_
  refine lv_iadd hx hb dX12_pageOf_8 ?_
  obtain ⟨zt2, qzt2, hf⟩ := gb_el hf
  refine gx_iald X hw qzt2 dX12_pageOf_9 ?_
  exact gx_iret X hr hlk hw hf dX12_pageOf_10
abbrev rm_X12_pages : Room := { frames := 1, cells := 0, slots := 0, locals := 21 }
set_option maxHeartbeats 4000000 in
set_option maxRecDepth 100000 in
theorem c_X12_pages (l : Launch) (E : gE) (N : Nat) (za0 : Nat) (zh : PH) {h9 : PH} {r9 : Int32} (hf : f_X12_pages N za0 zh = some (r9, h9)) : Met l yX12_pages (gWS yX12_pages cX12_pages 3 (some .int)) rm_X12_pages (gPc E [.ref (gB E + za0)] zh) (gQi E r9 h9) 0 0 (gA E) := by
  refine gx_met (by decide) ?_ rfl
  intro p e s m below meth c X hr hlk hin2 hw
  have hx := X.1.1
  have hb := X.1.2.1
  have hl := lv_entry [.ref (gB E + za0)] (n := 3) (Nat.le_of_ble_eq_true rfl)
  rw [lg_entry_eq]
  generalize (lg_sl [.ref (gB E + za0)] ++ List.replicate (3 - (lg_sl [.ref (gB E + za0)]).length) Slot.unset).toArray = ls at hl ⊢
  have hl : lv_has ls 3 [(0, .ref (gB E + za0))] := hl
  have L_4 : ∀ (zn4 : Nat) (zv0 : Nat) (zv1 : Int32) (zv2 : Int32) (zh : PH) (H : Heap) (locs : List Loc) (ls : Array Slot), gi (fun zk zs => f_X12_pages_4 N zk zs.1 zs.2.1 zs.2.2.1 zs.2.2.2) zn4 (zv0, zv1, zv2, zh) = some (r9, h9) → gw E s zh H locs → lv_has ls 3 [(0, .ref (gB E + zv0)), (1, .int zv1), (2, .int zv2)] → W p l e rm_X12_pages s m [.ref (gB E + za0)].toArray below meth c H locs 0 0 (MQ below (gQi E r9 h9) [.ref (gB E + za0)].toArray s 0 0 (gA E)) (F0 m 4 ls []) := by
    intro zn4
    induction zn4 with
    | zero =>
      intro zv0 zv1 zv2 zh H locs ls hf
      cases hf
    | succ zn4 ih_4 =>
      have J_26 : ∀ (zv0 : Nat) (zv2 : Int32) (zs0 : Int32) (zs1 : Int32) (zh : PH) (H : Heap) (locs : List Loc) (ls : Array Slot), f_X12_pages_26 N (gi (fun zk zs => f_X12_pages_4 N zk zs.1 zs.2.1 zs.2.2.1 zs.2.2.2) zn4) zv0 zv2 zs0 zs1 zh = some (r9, h9) → gw E s zh H locs → lv_has ls 3 [(0, .ref (gB E + zv0)), (2, .int zv2)] → W p l e rm_X12_pages s m [.ref (gB E + za0)].toArray below meth c H locs 0 0 (MQ below (gQi E r9 h9) [.ref (gB E + za0)].toArray s 0 0 (gA E)) (F0 m 26 ls [.int zs0, .int zs1]) := by
        intro zv0 zv2 zs0 zs1 zh H locs ls hf hw hl
        unfold f_X12_pages_26 at hf
        refine lv_iadd hx hb dX12_pages_26 ?_
        refine lv_topi (fun zx1 ezx1 => ?_)
        have hf := gl_el hf ezx1
        refine lv_istore_n (lv' := [(1, .int zx1), (0, .ref (gB E + zv0)), (2, .int zv2)]) hx hb dX12_pages_27 rfl hl (by decide) rfl (fun ls hl => ?_)
        obtain ⟨zx2, ezx2⟩ : ∃ y : Int32, y = zv2 + 1 := ⟨_, rfl⟩
        have hf := gl_el hf ezx2
        refine lv_iinc (v := zx2) (lv' := [(2, .int zx2), (1, .int zx1), (0, .ref (gB E + zv0))]) hx hb dX12_pages_28 hl (k := 2) rfl (by rw [ezx2]; rfl) (by decide) rfl (fun ls hl => ?_)
        refine lv_goto (tgt := 4) hx hb dX12_pages_31 (by decide) ?_
        exact ih_4 zv0 zx1 zx2 _ _ _ ls hf hw (lv_sub hl [2, 1, 0] rfl)
      intro zv0 zv1 zv2 zh H locs ls hf hw hl
      have hf := gi_s hf
      dsimp only at hf
      unfold f_X12_pages_4 at hf
      refine lv_iload_n hx hb dX12_pages_4 rfl (lv_at hl 2 rfl) ?_
      refine lv_aload_n hx hb dX12_pages_5 rfl (lv_at hl 0 rfl) ?_
      obtain ⟨qizh1, hf⟩ := gg_el hf
      obtain ⟨zt2, zh1, qzh1, hf⟩ := gc_el hf
      refine gx_ki (gx_runV (As := []) (rest := [.int zv2]) X hw (c_X12_guests l E N zv0 zh qzh1) kX12_guests mm_X12_234 qizh1 clX12 ⟨Nat.le_of_ble_eq_true rfl, Nat.le_of_ble_eq_true rfl⟩ rfl rfl rfl hl.1 (Nat.le_of_ble_eq_true rfl) rfl dX12_pages_6 ⟨Nat.le_of_ble_eq_true rfl, Nat.le_of_ble_eq_true rfl⟩) hw (fun H locs hw => ?_)
      refine lv_icmp_ge (tgt := 34) hx hb dX12_pages_9 (by decide) (fun qc3 => ?_) (fun qc3 => ?_)
      · have hf := gif_t hf qc3
        refine lv_iload_n hx hb dX12_pages_34 rfl (lv_at hl 1 rfl) ?_
        exact gx_iret X hr hlk hw hf dX12_pages_35
      · have hf := gif_f hf qc3
        refine lv_iload_n hx hb dX12_pages_12 rfl (lv_at hl 1 rfl) ?_
        refine lv_aload_n hx hb dX12_pages_13 rfl (lv_at hl 0 rfl) ?_
        refine lv_iload_n hx hb dX12_pages_14 rfl (lv_at hl 2 rfl) ?_
        obtain ⟨qizh4, hf⟩ := gg_el hf
        obtain ⟨zt5, zh4, qzh4, hf⟩ := gc_el hf
        refine gx_ki (gx_runV (As := [.int zv2]) (rest := [.int zv1]) X hw (c_X12_pageOf l E N zv0 zv2 zh1 qzh4) kX12_pageOf mm_X12_372 qizh4 clX12 ⟨Nat.le_of_ble_eq_true rfl, Nat.le_of_ble_eq_true rfl⟩ rfl rfl rfl hl.1 (Nat.le_of_ble_eq_true rfl) rfl dX12_pages_15 ⟨Nat.le_of_ble_eq_true rfl, Nat.le_of_ble_eq_true rfl⟩) hw (fun H locs hw => ?_)
        refine lv_if_le (tgt := 25) hx hb dX12_pages_18 (by decide) (fun qc6 => ?_) (fun qc6 => ?_)
        · have hf := gif_t hf qc6
          refine W.eq (g2 := F0 m 25 ls [.int zv1]) rfl ?_
          refine lv_iconst (v := 0) hx hb dX12_pages_25 (by decide) ?_
          exact J_26 zv0 zv2 0 zv1 _ _ _ ls hf hw (lv_sub hl [0, 2] rfl)
        · have hf := gif_f hf qc6
          refine W.eq (g2 := F0 m 21 ls [.int zv1]) rfl ?_
          refine lv_iconst (v := 1) hx hb dX12_pages_21 (by decide) ?_
          refine lv_goto (tgt := 26) hx hb dX12_pages_22 (by decide) ?_
          exact J_26 zv0 zv2 1 zv1 _ _ _ ls hf hw (lv_sub hl [0, 2] rfl)
  unfold f_X12_pages at hf
  refine lv_iconst (v := 0) hx hb dX12_pages_0 (by decide) ?_
  refine lv_istore_n (lv' := [(1, .int 0), (0, .ref (gB E + za0))]) hx hb dX12_pages_1 rfl hl (by decide) rfl (fun ls hl => ?_)
  refine lv_iconst (v := 0) hx hb dX12_pages_2 (by decide) ?_
  refine lv_istore_n (lv' := [(2, .int 0), (1, .int 0), (0, .ref (gB E + za0))]) hx hb dX12_pages_3 rfl hl (by decide) rfl (fun ls hl => ?_)
  exact L_4 N za0 0 0 _ _ _ ls hf hw (lv_sub hl [2, 1, 0] rfl)
abbrev rm_X12_page : Room := { frames := 2, cells := 0, slots := 0, locals := 43 }
set_option maxHeartbeats 4000000 in
set_option maxRecDepth 100000 in
theorem c_X12_page (l : Launch) (E : gE) (N : Nat) (za0 : Nat) (za1 : Int32) (za2 : Int32) (zh : PH) {h9 : PH} {r9 : Int32} (hf : f_X12_page N za0 za1 za2 zh = some (r9, h9)) : Met l yX12_page (gWS yX12_page cX12_page 3 (some .int)) rm_X12_page (gPc E [.ref (gB E + za0), .int za1, .int za2] zh) (gQi E r9 h9) 0 0 (gA E) := by
  refine gx_met (by decide) ?_ rfl
  intro p e s m below meth c X hr hlk hin2 hw
  have hx := X.1.1
  have hb := X.1.2.1
  have hl := lv_entry [.ref (gB E + za0), .int za1, .int za2] (n := 3) (Nat.le_of_ble_eq_true rfl)
  rw [lg_entry_eq]
  generalize (lg_sl [.ref (gB E + za0), .int za1, .int za2] ++ List.replicate (3 - (lg_sl [.ref (gB E + za0), .int za1, .int za2]).length) Slot.unset).toArray = ls at hl ⊢
  have hl : lv_has ls 3 [(0, .ref (gB E + za0)), (1, .int za1), (2, .int za2)] := hl
  have J_27 : ∀ (zh : PH) (H : Heap) (locs : List Loc) (ls : Array Slot), f_X12_page_27 N zh = some (r9, h9) → gw E s zh H locs → lv_has ls 3 [] → W p l e rm_X12_page s m [.ref (gB E + za0), .int za1, .int za2].toArray below meth c H locs 0 0 (MQ below (gQi E r9 h9) [.ref (gB E + za0), .int za1, .int za2].toArray s 0 0 (gA E)) (F0 m 27 ls []) := by
    intro zh H locs ls hf hw hl
    unfold f_X12_page_27 at hf
    refine lv_iconst (v := (-1)) hx hb dX12_page_27 (by decide) ?_
    exact gx_iret X hr hlk hw hf dX12_page_28
  unfold f_X12_page at hf
  refine lv_aload_n hx hb dX12_page_0 rfl (lv_at hl 0 rfl) ?_
  refine lv_iconst (v := 0) hx hb dX12_page_1 (by decide) ?_
  obtain ⟨zh1, qzh1, hf⟩ := gb_el hf
  refine gx_putV X hw qzh1 clX12 (by decide) mf_X12_1 rfl rfl rfl dX12_page_2 (fun H locs hw => ?_)
  refine lv_aload_n hx hb dX12_page_5 rfl (lv_at hl 0 rfl) ?_
  refine lv_iload_n hx hb dX12_page_6 rfl (lv_at hl 1 rfl) ?_
  obtain ⟨qizh2, hf⟩ := gg_el hf
  obtain ⟨zt3, zh2, qzh2, hf⟩ := gc_el hf
  refine gx_ki (gx_runV (As := [.int za1]) (rest := []) X hw (c_X12_isGuest l E N za0 za1 zh1 qzh2) kX12_isGuest mm_X12_312 qizh2 clX12 ⟨Nat.le_of_ble_eq_true rfl, Nat.le_of_ble_eq_true rfl⟩ rfl rfl rfl hl.1 (Nat.le_of_ble_eq_true rfl) rfl dX12_page_7 ⟨Nat.le_of_ble_eq_true rfl, Nat.le_of_ble_eq_true rfl⟩) hw (fun H locs hw => ?_)
  refine lv_if_eq (tgt := 27) hx hb dX12_page_10 (by decide) (fun qc4 => ?_) (fun qc4 => ?_)
  · have hf := gif_t hf qc4
    exact J_27  _ _ _ ls hf hw (lv_sub hl [] rfl)
  · have hf := gif_f hf qc4
    refine lv_iload_n hx hb dX12_page_13 rfl (lv_at hl 2 rfl) ?_
    refine lv_if_lt (tgt := 27) hx hb dX12_page_14 (by decide) (fun qc5 => ?_) (fun qc5 => ?_)
    · have hf := gif_t hf qc5
      exact J_27  _ _ _ ls hf hw (lv_sub hl [] rfl)
    · have hf := gif_f hf qc5
      refine W.eq (g2 := F0 m 17 ls []) rfl ?_
      refine lv_iload_n hx hb dX12_page_17 rfl (lv_at hl 2 rfl) ?_
      refine lv_iconst (v := 1) hx hb dX12_page_18 (by decide) ?_
      refine lv_aload_n hx hb dX12_page_19 rfl (lv_at hl 0 rfl) ?_
      obtain ⟨qizh6, hf⟩ := gg_el hf
      obtain ⟨zt7, zh6, qzh6, hf⟩ := gc_el hf
      refine gx_ki (gx_runV (As := []) (rest := [.int 1, .int za2]) X hw (c_X12_rooms l E N za0 zh2 qzh6) kX12_rooms mm_X12_231 qizh6 clX12 ⟨Nat.le_of_ble_eq_true rfl, Nat.le_of_ble_eq_true rfl⟩ rfl rfl rfl hl.1 (Nat.le_of_ble_eq_true rfl) rfl dX12_page_20 ⟨Nat.le_of_ble_eq_true rfl, Nat.le_of_ble_eq_true rfl⟩) hw (fun H locs hw => ?_)
      refine lv_ishl hx hb dX12_page_23 ?_
      refine lv_icmp_lt (tgt := 29) hx hb dX12_page_24 (by decide) (fun qc8 => ?_) (fun qc8 => ?_)
      · have hf := gif_t hf qc8
        refine lv_aload_n hx hb dX12_page_29 rfl (lv_at hl 0 rfl) ?_
        obtain ⟨zt9, qzt9, hf⟩ := gb_el hf
        refine gx_getR X hw qzt9 clX12 (by decide) mf_X12_83 dX12_page_30 ?_
        refine lv_sipush (v := 463) hx hb dX12_page_33 (by decide) ?_
        refine lv_iload_n hx hb dX12_page_36 rfl (lv_at hl 1 rfl) ?_
        refine W.eq (g2 := F0 m 37 ls [.int za1, .int 463, .ref (gB E + zt9)]) rfl ?_
        refine lv_iadd hx hb dX12_page_37 ?_
        refine lv_iload_n hx hb dX12_page_38 rfl (lv_at hl 2 rfl) ?_
        obtain ⟨zh10, qzh10, hf⟩ := gb_el hf
        refine gx_iast X hw qzh10 dX12_page_39 (fun H locs hw => ?_)
        refine lv_aload_n hx hb dX12_page_40 rfl (lv_at hl 0 rfl) ?_
        obtain ⟨qizh11, hf⟩ := gg_el hf
        obtain ⟨zt12, zh11, qzh11, hf⟩ := gc_el hf
        refine gx_ki (gx_runV (As := []) (rest := []) X hw (c_X12_pages l E N za0 zh10 qzh11) kX12_pages mm_X12_375 qizh11 clX12 ⟨Nat.le_of_ble_eq_true rfl, Nat.le_of_ble_eq_true rfl⟩ rfl rfl rfl hl.1 (Nat.le_of_ble_eq_true rfl) rfl dX12_page_41 ⟨Nat.le_of_ble_eq_true rfl, Nat.le_of_ble_eq_true rfl⟩) hw (fun H locs hw => ?_)
        exact gx_iret X hr hlk hw hf dX12_page_44
      · have hf := gif_f hf qc8
        exact J_27  _ _ _ ls hf hw (lv_sub hl [] rfl)
abbrev rm_X12_findWays : Room := { frames := 1, cells := 0, slots := 0, locals := 21 }
set_option maxHeartbeats 4000000 in
set_option maxRecDepth 100000 in
theorem c_X12_findWays (l : Launch) (E : gE) (N : Nat) (za0 : Nat) (za1 : Int32) (za2 : Int32) (zh : PH) {h9 : PH} {r9 : Int64} (hf : f_X12_findWays N za0 za1 za2 zh = some (r9, h9)) : Met l yX12_findWays (gWS yX12_findWays cX12_findWays 10 (some .long)) rm_X12_findWays (gPc E [.ref (gB E + za0), .int za1, .int za2] zh) (gQl E r9 h9) 0 0 (gA E) := by
  refine gx_met (by decide) ?_ rfl
  intro p e s m below meth c X hr hlk hin2 hw
  have hx := X.1.1
  have hb := X.1.2.1
  have hl := lv_entry [.ref (gB E + za0), .int za1, .int za2] (n := 10) (Nat.le_of_ble_eq_true rfl)
  rw [lg_entry_eq]
  generalize (lg_sl [.ref (gB E + za0), .int za1, .int za2] ++ List.replicate (10 - (lg_sl [.ref (gB E + za0), .int za1, .int za2]).length) Slot.unset).toArray = ls at hl ⊢
  have hl : lv_has ls 10 [(0, .ref (gB E + za0)), (1, .int za1), (2, .int za2)] := hl
  have L_186 : ∀ (zn186 : Nat) (zv0 : Nat) (zv3 : Int64) (zv5 : Int32) (zh : PH) (H : Heap) (locs : List Loc) (ls : Array Slot), gi (fun zk zs => f_X12_findWays_186 N zk zs.1 zs.2.1 zs.2.2.1 zs.2.2.2) zn186 (zv0, zv3, zv5, zh) = some (r9, h9) → gw E s zh H locs → lv_has ls 10 [(0, .ref (gB E + zv0)), (3, .long zv3), (5, .int zv5)] → W p l e rm_X12_findWays s m [.ref (gB E + za0), .int za1, .int za2].toArray below meth c H locs 0 0 (MQ below (gQl E r9 h9) [.ref (gB E + za0), .int za1, .int za2].toArray s 0 0 (gA E)) (F0 m 186 ls []) := by
    intro zn186
    induction zn186 with
    | zero =>
      intro zv0 zv3 zv5 zh H locs ls hf
      cases hf
    | succ zn186 ih_186 =>
      intro zv0 zv3 zv5 zh H locs ls hf hw hl
      have hf := gi_s hf
      dsimp only at hf
      unfold f_X12_findWays_186 at hf
      refine lv_iload hx hb dX12_findWays_186 (lv_at hl 2 rfl) ?_
      refine lv_sipush (v := 1024) hx hb dX12_findWays_188 (by decide) ?_
      refine lv_icmp_ge (tgt := 210) hx hb dX12_findWays_191 (by decide) (fun qc1 => ?_) (fun qc1 => ?_)
      · have hf := gif_t hf qc1
        refine lv_lload_n hx hb dX12_findWays_210 rfl (lv_at hl 1 rfl) ?_
        exact gx_lret X hr hlk hw hf dX12_findWays_211
      · have hf := gif_f hf qc1
        refine lv_lload_n hx hb dX12_findWays_194 rfl (lv_at hl 1 rfl) ?_
        refine lv_aload_n hx hb dX12_findWays_195 rfl (lv_at hl 0 rfl) ?_
        obtain ⟨zt2, qzt2, hf⟩ := gb_el hf
        refine gx_getR X hw qzt2 clX12 (by decide) mf_X12_102 dX12_findWays_196 ?_
        refine lv_iload hx hb dX12_findWays_199 (lv_at hl 2 rfl) ?_
        obtain ⟨zt3, qzt3, hf⟩ := gb_el hf
        refine gx_lald X hw qzt3 dX12_findWays_201 ?_
        refine lv_ladd hx hb dX12_findWays_202 ?_
        refine W.eq (g2 := F0 m 203 ls [.long (zv3 + zt3)]) rfl ?_
        refine lv_topl (fun zx4 ezx4 => ?_)
        have hf := gl_el hf ezx4
        refine lv_lstore_n (lv' := [(3, .long zx4), (0, .ref (gB E + zv0)), (5, .int zv5)]) hx hb dX12_findWays_203 rfl hl (by decide) rfl (fun ls hl => ?_)
        obtain ⟨zx5, ezx5⟩ : ∃ y : Int32, y = zv5 + 1 := ⟨_, rfl⟩
        have hf := gl_el hf ezx5
        refine lv_iinc (v := zx5) (lv' := [(5, .int zx5), (3, .long zx4), (0, .ref (gB E + zv0))]) hx hb dX12_findWays_204 hl (k := 2) rfl (by rw [ezx5]; rfl) (by decide) rfl (fun ls hl => ?_)
        refine lv_goto (tgt := 186) hx hb dX12_findWays_207 (by decide) ?_
        exact ih_186 zv0 zx4 zx5 _ _ _ ls hf hw (lv_sub hl [2, 1, 0] rfl)
  have L_32 : ∀ (zn32 : Nat) (zv0 : Nat) (zv1 : Int32) (zv2 : Int32) (zv3 : Int32) (zh : PH) (H : Heap) (locs : List Loc) (ls : Array Slot), gi (fun zk zs => f_X12_findWays_32 N zk zs.1 zs.2.1 zs.2.2.1 zs.2.2.2.1 zs.2.2.2.2) zn32 (zv0, zv1, zv2, zv3, zh) = some (r9, h9) → gw E s zh H locs → lv_has ls 10 [(0, .ref (gB E + zv0)), (1, .int zv1), (2, .int zv2), (3, .int zv3)] → W p l e rm_X12_findWays s m [.ref (gB E + za0), .int za1, .int za2].toArray below meth c H locs 0 0 (MQ below (gQl E r9 h9) [.ref (gB E + za0), .int za1, .int za2].toArray s 0 0 (gA E)) (F0 m 32 ls []) := by
    intro zn32
    induction zn32 with
    | zero =>
      intro zv0 zv1 zv2 zv3 zh H locs ls hf
      cases hf
    | succ zn32 ih_32 =>
      have J_175 : ∀ (zv0 : Nat) (zv1 : Int32) (zv2 : Int32) (zv3 : Int32) (zh : PH) (H : Heap) (locs : List Loc) (ls : Array Slot), f_X12_findWays_175 N (gi (fun zk zs => f_X12_findWays_32 N zk zs.1 zs.2.1 zs.2.2.1 zs.2.2.2.1 zs.2.2.2.2) zn32) zv0 zv1 zv2 zv3 zh = some (r9, h9) → gw E s zh H locs → lv_has ls 10 [(0, .ref (gB E + zv0)), (1, .int zv1), (2, .int zv2), (3, .int zv3)] → W p l e rm_X12_findWays s m [.ref (gB E + za0), .int za1, .int za2].toArray below meth c H locs 0 0 (MQ below (gQl E r9 h9) [.ref (gB E + za0), .int za1, .int za2].toArray s 0 0 (gA E)) (F0 m 175 ls []) := by
        intro zv0 zv1 zv2 zv3 zh H locs ls hf hw hl
        unfold f_X12_findWays_175 at hf
        obtain ⟨zx1, ezx1⟩ : ∃ y : Int32, y = zv3 + 1 := ⟨_, rfl⟩
        have hf := gl_el hf ezx1
        refine lv_iinc (v := zx1) (lv' := [(3, .int zx1), (0, .ref (gB E + zv0)), (1, .int zv1), (2, .int zv2)]) hx hb dX12_findWays_175 hl (k := 3) rfl (by rw [ezx1]; rfl) (by decide) rfl (fun ls hl => ?_)
        refine lv_goto (tgt := 32) hx hb dX12_findWays_178 (by decide) ?_
        exact ih_32 zv0 zv1 zv2 zx1 _ _ _ ls hf hw (lv_sub hl [1, 2, 3, 0] rfl)
      have L_69 : ∀ (zn69 : Nat) (zv0 : Nat) (zv1 : Int32) (zv2 : Int32) (zv3 : Int32) (zv4 : Int32) (zv5 : Int32) (zh : PH) (H : Heap) (locs : List Loc) (ls : Array Slot), gi (fun zk zs => f_X12_findWays_69 N (gi (fun zk zs => f_X12_findWays_32 N zk zs.1 zs.2.1 zs.2.2.1 zs.2.2.2.1 zs.2.2.2.2) zn32) zk zs.1 zs.2.1 zs.2.2.1 zs.2.2.2.1 zs.2.2.2.2.1 zs.2.2.2.2.2.1 zs.2.2.2.2.2.2) zn69 (zv0, zv1, zv2, zv3, zv4, zv5, zh) = some (r9, h9) → gw E s zh H locs → lv_has ls 10 [(0, .ref (gB E + zv0)), (1, .int zv1), (2, .int zv2), (3, .int zv3), (4, .int zv4), (5, .int zv5)] → W p l e rm_X12_findWays s m [.ref (gB E + za0), .int za1, .int za2].toArray below meth c H locs 0 0 (MQ below (gQl E r9 h9) [.ref (gB E + za0), .int za1, .int za2].toArray s 0 0 (gA E)) (F0 m 69 ls []) := by
        intro zn69
        induction zn69 with
        | zero =>
          intro zv0 zv1 zv2 zv3 zv4 zv5 zh H locs ls hf
          cases hf
        | succ zn69 ih_69 =>
          have L_88 : ∀ (zn88 : Nat) (zv0 : Nat) (zv1 : Int32) (zv2 : Int32) (zv3 : Int32) (zv4 : Int32) (zv5 : Int32) (zv6 : Int64) (zv8 : Int32) (zh : PH) (H : Heap) (locs : List Loc) (ls : Array Slot), gi (fun zk zs => f_X12_findWays_88 N (gi (fun zk zs => f_X12_findWays_32 N zk zs.1 zs.2.1 zs.2.2.1 zs.2.2.2.1 zs.2.2.2.2) zn32) (gi (fun zk zs => f_X12_findWays_69 N (gi (fun zk zs => f_X12_findWays_32 N zk zs.1 zs.2.1 zs.2.2.1 zs.2.2.2.1 zs.2.2.2.2) zn32) zk zs.1 zs.2.1 zs.2.2.1 zs.2.2.2.1 zs.2.2.2.2.1 zs.2.2.2.2.2.1 zs.2.2.2.2.2.2) zn69) zk zs.1 zs.2.1 zs.2.2.1 zs.2.2.2.1 zs.2.2.2.2.1 zs.2.2.2.2.2.1 zs.2.2.2.2.2.2.1 zs.2.2.2.2.2.2.2.1 zs.2.2.2.2.2.2.2.2) zn88 (zv0, zv1, zv2, zv3, zv4, zv5, zv6, zv8, zh) = some (r9, h9) → gw E s zh H locs → lv_has ls 10 [(0, .ref (gB E + zv0)), (1, .int zv1), (2, .int zv2), (3, .int zv3), (4, .int zv4), (5, .int zv5), (6, .long zv6), (8, .int zv8)] → W p l e rm_X12_findWays s m [.ref (gB E + za0), .int za1, .int za2].toArray below meth c H locs 0 0 (MQ below (gQl E r9 h9) [.ref (gB E + za0), .int za1, .int za2].toArray s 0 0 (gA E)) (F0 m 88 ls []) := by
            intro zn88
            induction zn88 with
            | zero =>
              intro zv0 zv1 zv2 zv3 zv4 zv5 zv6 zv8 zh H locs ls hf
              cases hf
            | succ zn88 ih_88 =>
              have J_151 : ∀ (zv0 : Nat) (zv1 : Int32) (zv2 : Int32) (zv3 : Int32) (zv4 : Int32) (zv5 : Int32) (zv8 : Int32) (zs0 : Int64) (zs1 : Int64) (zh : PH) (H : Heap) (locs : List Loc) (ls : Array Slot), f_X12_findWays_151 N (gi (fun zk zs => f_X12_findWays_32 N zk zs.1 zs.2.1 zs.2.2.1 zs.2.2.2.1 zs.2.2.2.2) zn32) (gi (fun zk zs => f_X12_findWays_69 N (gi (fun zk zs => f_X12_findWays_32 N zk zs.1 zs.2.1 zs.2.2.1 zs.2.2.2.1 zs.2.2.2.2) zn32) zk zs.1 zs.2.1 zs.2.2.1 zs.2.2.2.1 zs.2.2.2.2.1 zs.2.2.2.2.2.1 zs.2.2.2.2.2.2) zn69) (gi (fun zk zs => f_X12_findWays_88 N (gi (fun zk zs => f_X12_findWays_32 N zk zs.1 zs.2.1 zs.2.2.1 zs.2.2.2.1 zs.2.2.2.2) zn32) (gi (fun zk zs => f_X12_findWays_69 N (gi (fun zk zs => f_X12_findWays_32 N zk zs.1 zs.2.1 zs.2.2.1 zs.2.2.2.1 zs.2.2.2.2) zn32) zk zs.1 zs.2.1 zs.2.2.1 zs.2.2.2.1 zs.2.2.2.2.1 zs.2.2.2.2.2.1 zs.2.2.2.2.2.2) zn69) zk zs.1 zs.2.1 zs.2.2.1 zs.2.2.2.1 zs.2.2.2.2.1 zs.2.2.2.2.2.1 zs.2.2.2.2.2.2.1 zs.2.2.2.2.2.2.2.1 zs.2.2.2.2.2.2.2.2) zn88) zv0 zv1 zv2 zv3 zv4 zv5 zv8 zs0 zs1 zh = some (r9, h9) → gw E s zh H locs → lv_has ls 10 [(0, .ref (gB E + zv0)), (1, .int zv1), (2, .int zv2), (3, .int zv3), (4, .int zv4), (5, .int zv5), (8, .int zv8)] → W p l e rm_X12_findWays s m [.ref (gB E + za0), .int za1, .int za2].toArray below meth c H locs 0 0 (MQ below (gQl E r9 h9) [.ref (gB E + za0), .int za1, .int za2].toArray s 0 0 (gA E)) (F0 m 151 ls [.long zs0, .long zs1]) := by
                intro zv0 zv1 zv2 zv3 zv4 zv5 zv8 zs0 zs1 zh H locs ls hf hw hl
                unfold f_X12_findWays_151 at hf
                refine lv_ladd hx hb dX12_findWays_151 ?_
                refine lv_topl (fun zx1 ezx1 => ?_)
                have hf := gl_el hf ezx1
                refine lv_lstore (lv' := [(6, .long zx1), (0, .ref (gB E + zv0)), (1, .int zv1), (2, .int zv2), (3, .int zv3), (4, .int zv4), (5, .int zv5), (8, .int zv8)]) hx hb dX12_findWays_152 hl (by decide) rfl (fun ls hl => ?_)
                obtain ⟨zx2, ezx2⟩ : ∃ y : Int32, y = zv8 + 1 := ⟨_, rfl⟩
                have hf := gl_el hf ezx2
                refine lv_iinc (v := zx2) (lv' := [(8, .int zx2), (6, .long zx1), (0, .ref (gB E + zv0)), (1, .int zv1), (2, .int zv2), (3, .int zv3), (4, .int zv4), (5, .int zv5)]) hx hb dX12_findWays_154 hl (k := 7) rfl (by rw [ezx2]; rfl) (by decide) rfl (fun ls hl => ?_)
                refine lv_goto (tgt := 88) hx hb dX12_findWays_157 (by decide) ?_
                exact ih_88 zv0 zv1 zv2 zv3 zv4 zv5 zx1 zx2 _ _ _ ls hf hw (lv_sub hl [2, 3, 4, 5, 6, 7, 1, 0] rfl)
              have J_124 : ∀ (zv0 : Nat) (zv1 : Int32) (zv2 : Int32) (zv3 : Int32) (zv4 : Int32) (zv5 : Int32) (zv6 : Int64) (zv8 : Int32) (zs0 : Int32) (zh : PH) (H : Heap) (locs : List Loc) (ls : Array Slot), f_X12_findWays_124 N (gi (fun zk zs => f_X12_findWays_32 N zk zs.1 zs.2.1 zs.2.2.1 zs.2.2.2.1 zs.2.2.2.2) zn32) (gi (fun zk zs => f_X12_findWays_69 N (gi (fun zk zs => f_X12_findWays_32 N zk zs.1 zs.2.1 zs.2.2.1 zs.2.2.2.1 zs.2.2.2.2) zn32) zk zs.1 zs.2.1 zs.2.2.1 zs.2.2.2.1 zs.2.2.2.2.1 zs.2.2.2.2.2.1 zs.2.2.2.2.2.2) zn69) (gi (fun zk zs => f_X12_findWays_88 N (gi (fun zk zs => f_X12_findWays_32 N zk zs.1 zs.2.1 zs.2.2.1 zs.2.2.2.1 zs.2.2.2.2) zn32) (gi (fun zk zs => f_X12_findWays_69 N (gi (fun zk zs => f_X12_findWays_32 N zk zs.1 zs.2.1 zs.2.2.1 zs.2.2.2.1 zs.2.2.2.2) zn32) zk zs.1 zs.2.1 zs.2.2.1 zs.2.2.2.1 zs.2.2.2.2.1 zs.2.2.2.2.2.1 zs.2.2.2.2.2.2) zn69) zk zs.1 zs.2.1 zs.2.2.1 zs.2.2.2.1 zs.2.2.2.2.1 zs.2.2.2.2.2.1 zs.2.2.2.2.2.2.1 zs.2.2.2.2.2.2.2.1 zs.2.2.2.2.2.2.2.2) zn88) zv0 zv1 zv2 zv3 zv4 zv5 zv6 zv8 zs0 zh = some (r9, h9) → gw E s zh H locs → lv_has ls 10 [(0, .ref (gB E + zv0)), (1, .int zv1), (2, .int zv2), (3, .int zv3), (4, .int zv4), (5, .int zv5), (6, .long zv6), (8, .int zv8)] → W p l e rm_X12_findWays s m [.ref (gB E + za0), .int za1, .int za2].toArray below meth c H locs 0 0 (MQ below (gQl E r9 h9) [.ref (gB E + za0), .int za1, .int za2].toArray s 0 0 (gA E)) (F0 m 124 ls [.int zs0]) := by
                intro zv0 zv1 zv2 zv3 zv4 zv5 zv6 zv8 zs0 zh H locs ls hf hw hl
                unfold f_X12_findWays_124 at hf
                refine lv_istore (lv' := [(9, .int zs0), (0, .ref (gB E + zv0)), (1, .int zv1), (2, .int zv2), (3, .int zv3), (4, .int zv4), (5, .int zv5), (6, .long zv6), (8, .int zv8)]) hx hb dX12_findWays_124 hl (by decide) rfl (fun ls hl => ?_)
                refine lv_lload hx hb dX12_findWays_126 (lv_at hl 7 rfl) ?_
                refine lv_iload hx hb dX12_findWays_128 (lv_at hl 0 rfl) ?_
                refine lv_if_eq (tgt := 150) hx hb dX12_findWays_130 (by decide) (fun qc1 => ?_) (fun qc1 => ?_)
                · have hf := gif_t hf qc1
                  refine lv_lconst (v := 0) hx hb dX12_findWays_150 (by decide) ?_
                  exact J_151 zv0 zv1 zv2 zv3 zv4 zv5 zv8 0 zv6 _ _ _ ls hf hw (lv_sub hl [1, 2, 3, 4, 5, 6, 8] rfl)
                · have hf := gif_f hf qc1
                  refine lv_aload_n hx hb dX12_findWays_133 rfl (lv_at hl 1 rfl) ?_
                  obtain ⟨zt2, qzt2, hf⟩ := gb_el hf
                  refine gx_getR X hw qzt2 clX12 (by decide) mf_X12_102 dX12_findWays_134 ?_
                  refine lv_iload hx hb dX12_findWays_137 (lv_at hl 6 rfl) ?_
                  refine lv_iconst (v := 1) hx hb dX12_findWays_139 (by decide) ?_
                  refine lv_iload hx hb dX12_findWays_140 (lv_at hl 8 rfl) ?_
                  refine W.eq (g2 := F0 m 142 ls [.int zv8, .int 1, .int zv5, .ref (gB E + zt2), .long zv6]) rfl ?_
                  refine lv_ishl hx hb dX12_findWays_142 ?_
                  refine lv_iconst (v := (-1)) hx hb dX12_findWays_143 (by decide) ?_
                  refine lv_ixor hx hb dX12_findWays_144 ?_
                  refine lv_iand hx hb dX12_findWays_145 ?_
                  obtain ⟨zt3, qzt3, hf⟩ := gb_el hf
                  refine gx_lald X hw qzt3 dX12_findWays_146 ?_
                  refine lv_goto (tgt := 151) hx hb dX12_findWays_147 (by decide) ?_
                  exact J_151 zv0 zv1 zv2 zv3 zv4 zv5 zv8 zt3 zv6 _ _ _ ls hf hw (lv_sub hl [1, 2, 3, 4, 5, 6, 8] rfl)
              have J_123 : ∀ (zv0 : Nat) (zv1 : Int32) (zv2 : Int32) (zv3 : Int32) (zv4 : Int32) (zv5 : Int32) (zv6 : Int64) (zv8 : Int32) (zh : PH) (H : Heap) (locs : List Loc) (ls : Array Slot), f_X12_findWays_123 N (gi (fun zk zs => f_X12_findWays_32 N zk zs.1 zs.2.1 zs.2.2.1 zs.2.2.2.1 zs.2.2.2.2) zn32) (gi (fun zk zs => f_X12_findWays_69 N (gi (fun zk zs => f_X12_findWays_32 N zk zs.1 zs.2.1 zs.2.2.1 zs.2.2.2.1 zs.2.2.2.2) zn32) zk zs.1 zs.2.1 zs.2.2.1 zs.2.2.2.1 zs.2.2.2.2.1 zs.2.2.2.2.2.1 zs.2.2.2.2.2.2) zn69) (gi (fun zk zs => f_X12_findWays_88 N (gi (fun zk zs => f_X12_findWays_32 N zk zs.1 zs.2.1 zs.2.2.1 zs.2.2.2.1 zs.2.2.2.2) zn32) (gi (fun zk zs => f_X12_findWays_69 N (gi (fun zk zs => f_X12_findWays_32 N zk zs.1 zs.2.1 zs.2.2.1 zs.2.2.2.1 zs.2.2.2.2) zn32) zk zs.1 zs.2.1 zs.2.2.1 zs.2.2.2.1 zs.2.2.2.2.1 zs.2.2.2.2.2.1 zs.2.2.2.2.2.2) zn69) zk zs.1 zs.2.1 zs.2.2.1 zs.2.2.2.1 zs.2.2.2.2.1 zs.2.2.2.2.2.1 zs.2.2.2.2.2.2.1 zs.2.2.2.2.2.2.2.1 zs.2.2.2.2.2.2.2.2) zn88) zv0 zv1 zv2 zv3 zv4 zv5 zv6 zv8 zh = some (r9, h9) → gw E s zh H locs → lv_has ls 10 [(0, .ref (gB E + zv0)), (1, .int zv1), (2, .int zv2), (3, .int zv3), (4, .int zv4), (5, .int zv5), (6, .long zv6), (8, .int zv8)] → W p l e rm_X12_findWays s m [.ref (gB E + za0), .int za1, .int za2].toArray below meth c H locs 0 0 (MQ below (gQl E r9 h9) [.ref (gB E + za0), .int za1, .int za2].toArray s 0 0 (gA E)) (F0 m 123 ls []) := by
                intro zv0 zv1 zv2 zv3 zv4 zv5 zv6 zv8 zh H locs ls hf hw hl
                unfold f_X12_findWays_123 at hf
                refine lv_iconst (v := 0) hx hb dX12_findWays_123 (by decide) ?_
                exact J_124 zv0 zv1 zv2 zv3 zv4 zv5 zv6 zv8 0 _ _ _ ls hf hw (lv_sub hl [0, 1, 2, 3, 4, 5, 6, 7] rfl)
              intro zv0 zv1 zv2 zv3 zv4 zv5 zv6 zv8 zh H locs ls hf hw hl
              have hf := gi_s hf
              dsimp only at hf
              unfold f_X12_findWays_88 at hf
              refine lv_iload hx hb dX12_findWays_88 (lv_at hl 7 rfl) ?_
              refine lv_aload_n hx hb dX12_findWays_90 rfl (lv_at hl 0 rfl) ?_
              obtain ⟨qizh1, hf⟩ := gg_el hf
              obtain ⟨zt2, zh1, qzh1, hf⟩ := gc_el hf
              refine gx_ki (gx_runV (As := []) (rest := [.int zv8]) X hw (c_X12_rooms l E N zv0 zh qzh1) kX12_rooms mm_X12_231 qizh1 clX12 ⟨Nat.le_of_ble_eq_true rfl, Nat.le_of_ble_eq_true rfl⟩ rfl rfl rfl hl.1 (Nat.le_of_ble_eq_true rfl) rfl dX12_findWays_91 ⟨Nat.le_of_ble_eq_true rfl, Nat.le_of_ble_eq_true rfl⟩) hw (fun H locs hw => ?_)
              refine lv_icmp_ge (tgt := 160) hx hb dX12_findWays_94 (by decide) (fun qc3 => ?_) (fun qc3 => ?_)
              · have hf := gif_t hf qc3
                refine lv_aload_n hx hb dX12_findWays_160 rfl (lv_at hl 0 rfl) ?_
                obtain ⟨zt4, qzt4, hf⟩ := gb_el hf
                refine gx_getR X hw qzt4 clX12 (by decide) mf_X12_102 dX12_findWays_161 ?_
                refine lv_iload hx hb dX12_findWays_164 (lv_at hl 5 rfl) ?_
                refine lv_lload hx hb dX12_findWays_166 (lv_at hl 6 rfl) ?_
                obtain ⟨zh5, qzh5, hf⟩ := gb_el hf
                refine gx_last X hw qzh5 dX12_findWays_168 (fun H locs hw => ?_)
                refine W.eq (g2 := F0 m 169 ls []) rfl ?_
                obtain ⟨zx6, ezx6⟩ : ∃ y : Int32, y = zv5 + (-1) := ⟨_, rfl⟩
                have hf := gl_el hf ezx6
                refine lv_iinc (v := zx6) (lv' := [(5, .int zx6), (0, .ref (gB E + zv0)), (1, .int zv1), (2, .int zv2), (3, .int zv3), (4, .int zv4), (6, .long zv6), (8, .int zv8)]) hx hb dX12_findWays_169 hl (k := 5) rfl (by rw [ezx6]; rfl) (by decide) rfl (fun ls hl => ?_)
                refine lv_goto (tgt := 69) hx hb dX12_findWays_172 (by decide) ?_
                exact ih_69 zv0 zv1 zv2 zv3 zv4 zx6 _ _ _ ls hf hw (lv_sub hl [1, 2, 3, 4, 5, 0] rfl)
              · have hf := gif_f hf qc3
                refine lv_iload hx hb dX12_findWays_97 (lv_at hl 4 rfl) ?_
                refine lv_iload hx hb dX12_findWays_99 (lv_at hl 7 rfl) ?_
                refine lv_ishr hx hb dX12_findWays_101 ?_
                refine lv_iconst (v := 1) hx hb dX12_findWays_102 (by decide) ?_
                refine lv_iand hx hb dX12_findWays_103 ?_
                refine W.eq (g2 := F0 m 104 ls [.int ((zv4 >>> (zv8 &&& 31)) &&& 1)]) rfl ?_
                refine lv_iconst (v := 1) hx hb dX12_findWays_104 (by decide) ?_
                refine lv_icmp_ne (tgt := 123) hx hb dX12_findWays_105 (by decide) (fun qc7 => ?_) (fun qc7 => ?_)
                · have hf := gif_f hf qc7
                  exact J_123 zv0 zv1 zv2 zv3 zv4 zv5 zv6 zv8 _ _ _ ls hf hw (lv_sub hl [0, 1, 2, 3, 4, 5, 6, 7] rfl)
                · have hf := gif_t hf qc7
                  refine lv_iload hx hb dX12_findWays_108 (lv_at hl 5 rfl) ?_
                  refine lv_iload hx hb dX12_findWays_110 (lv_at hl 7 rfl) ?_
                  refine lv_ishr hx hb dX12_findWays_112 ?_
                  refine lv_iconst (v := 1) hx hb dX12_findWays_113 (by decide) ?_
                  refine lv_iand hx hb dX12_findWays_114 ?_
                  refine lv_iconst (v := 1) hx hb dX12_findWays_115 (by decide) ?_
                  refine lv_icmp_ne (tgt := 123) hx hb dX12_findWays_116 (by decide) (fun qc8 => ?_) (fun qc8 => ?_)
                  · have hf := gif_f hf qc8
                    exact J_123 zv0 zv1 zv2 zv3 zv4 zv5 zv6 zv8 _ _ _ ls hf hw (lv_sub hl [0, 1, 2, 3, 4, 5, 6, 7] rfl)
                  · have hf := gif_t hf qc8
                    refine lv_iconst (v := 1) hx hb dX12_findWays_119 (by decide) ?_
                    refine W.eq (g2 := F0 m 120 ls [.int 1]) rfl ?_
                    refine lv_goto (tgt := 124) hx hb dX12_findWays_120 (by decide) ?_
                    exact J_124 zv0 zv1 zv2 zv3 zv4 zv5 zv6 zv8 1 _ _ _ ls hf hw (lv_sub hl [0, 1, 2, 3, 4, 5, 6, 7] rfl)
          intro zv0 zv1 zv2 zv3 zv4 zv5 zh H locs ls hf hw hl
          have hf := gi_s hf
          dsimp only at hf
          unfold f_X12_findWays_69 at hf
          refine lv_iload hx hb dX12_findWays_69 (lv_at hl 5 rfl) ?_
          refine lv_if_lt (tgt := 175) hx hb dX12_findWays_71 (by decide) (fun qc1 => ?_) (fun qc1 => ?_)
          · have hf := gif_t hf qc1
            exact J_175 zv0 zv1 zv2 zv3 _ _ _ ls hf hw (lv_sub hl [0, 1, 2, 3] rfl)
          · have hf := gif_f hf qc1
            refine lv_aload_n hx hb dX12_findWays_74 rfl (lv_at hl 0 rfl) ?_
            refine lv_iload_n hx hb dX12_findWays_75 rfl (lv_at hl 3 rfl) ?_
            obtain ⟨qizh2, hf⟩ := gg_el hf
            obtain ⟨zt3, zh2, qzh2, hf⟩ := gc_el hf
            refine gx_ki (gx_runV (As := [.int zv3]) (rest := []) X hw (c_X12_pageOf l E N zv0 zv3 zh qzh2) kX12_pageOf mm_X12_372 qizh2 clX12 ⟨Nat.le_of_ble_eq_true rfl, Nat.le_of_ble_eq_true rfl⟩ rfl rfl rfl hl.1 (Nat.le_of_ble_eq_true rfl) rfl dX12_findWays_76 ⟨Nat.le_of_ble_eq_true rfl, Nat.le_of_ble_eq_true rfl⟩) hw (fun H locs hw => ?_)
            refine lv_if_le (tgt := 175) hx hb dX12_findWays_79 (by decide) (fun qc4 => ?_) (fun qc4 => ?_)
            · have hf := gif_t hf qc4
              exact J_175 zv0 zv1 zv2 zv3 _ _ _ ls hf hw (lv_sub hl [0, 1, 2, 3] rfl)
            · have hf := gif_f hf qc4
              refine lv_lconst (v := 0) hx hb dX12_findWays_82 (by decide) ?_
              refine lv_lstore (lv' := [(6, .long 0), (0, .ref (gB E + zv0)), (1, .int zv1), (2, .int zv2), (3, .int zv3), (4, .int zv4), (5, .int zv5)]) hx hb dX12_findWays_83 hl (by decide) rfl (fun ls hl => ?_)
              refine lv_iconst (v := 0) hx hb dX12_findWays_85 (by decide) ?_
              refine W.eq (g2 := F0 m 86 ls [.int 0]) rfl ?_
              refine lv_istore (lv' := [(8, .int 0), (6, .long 0), (0, .ref (gB E + zv0)), (1, .int zv1), (2, .int zv2), (3, .int zv3), (4, .int zv4), (5, .int zv5)]) hx hb dX12_findWays_86 hl (by decide) rfl (fun ls hl => ?_)
              exact L_88 N zv0 zv1 zv2 zv3 zv4 zv5 0 0 _ _ _ ls hf hw (lv_sub hl [2, 3, 4, 5, 6, 7, 1, 0] rfl)
      have J_62 : ∀ (zv0 : Nat) (zv1 : Int32) (zv2 : Int32) (zv3 : Int32) (zs0 : Int32) (zh : PH) (H : Heap) (locs : List Loc) (ls : Array Slot), f_X12_findWays_62 N (gi (fun zk zs => f_X12_findWays_32 N zk zs.1 zs.2.1 zs.2.2.1 zs.2.2.2.1 zs.2.2.2.2) zn32) zv0 zv1 zv2 zv3 zs0 zh = some (r9, h9) → gw E s zh H locs → lv_has ls 10 [(0, .ref (gB E + zv0)), (1, .int zv1), (2, .int zv2), (3, .int zv3)] → W p l e rm_X12_findWays s m [.ref (gB E + za0), .int za1, .int za2].toArray below meth c H locs 0 0 (MQ below (gQl E r9 h9) [.ref (gB E + za0), .int za1, .int za2].toArray s 0 0 (gA E)) (F0 m 62 ls [.int zs0]) := by
        intro zv0 zv1 zv2 zv3 zs0 zh H locs ls hf hw hl
        unfold f_X12_findWays_62 at hf
        refine lv_istore (lv' := [(4, .int zs0), (0, .ref (gB E + zv0)), (1, .int zv1), (2, .int zv2), (3, .int zv3)]) hx hb dX12_findWays_62 hl (by decide) rfl (fun ls hl => ?_)
        refine lv_sipush (v := 1023) hx hb dX12_findWays_64 (by decide) ?_
        refine lv_istore (lv' := [(5, .int 1023), (4, .int zs0), (0, .ref (gB E + zv0)), (1, .int zv1), (2, .int zv2), (3, .int zv3)]) hx hb dX12_findWays_67 hl (by decide) rfl (fun ls hl => ?_)
        exact L_69 N zv0 zv1 zv2 zv3 zs0 1023 _ _ _ ls hf hw (lv_sub hl [2, 3, 4, 5, 1, 0] rfl)
      intro zv0 zv1 zv2 zv3 zh H locs ls hf hw hl
      have hf := gi_s hf
      dsimp only at hf
      unfold f_X12_findWays_32 at hf
      refine lv_iload_n hx hb dX12_findWays_32 rfl (lv_at hl 3 rfl) ?_
      refine lv_aload_n hx hb dX12_findWays_33 rfl (lv_at hl 0 rfl) ?_
      obtain ⟨qizh1, hf⟩ := gg_el hf
      obtain ⟨zt2, zh1, qzh1, hf⟩ := gc_el hf
      refine gx_ki (gx_runV (As := []) (rest := [.int zv3]) X hw (c_X12_guests l E N zv0 zh qzh1) kX12_guests mm_X12_234 qizh1 clX12 ⟨Nat.le_of_ble_eq_true rfl, Nat.le_of_ble_eq_true rfl⟩ rfl rfl rfl hl.1 (Nat.le_of_ble_eq_true rfl) rfl dX12_findWays_34 ⟨Nat.le_of_ble_eq_true rfl, Nat.le_of_ble_eq_true rfl⟩) hw (fun H locs hw => ?_)
      refine lv_icmp_ge (tgt := 181) hx hb dX12_findWays_37 (by decide) (fun qc3 => ?_) (fun qc3 => ?_)
      · have hf := gif_t hf qc3
        refine lv_lconst (v := 0) hx hb dX12_findWays_181 (by decide) ?_
        refine lv_lstore_n (lv' := [(3, .long 0), (0, .ref (gB E + zv0)), (1, .int zv1), (2, .int zv2)]) hx hb dX12_findWays_182 rfl hl (by decide) rfl (fun ls hl => ?_)
        refine lv_iconst (v := 0) hx hb dX12_findWays_183 (by decide) ?_
        refine lv_istore (lv' := [(5, .int 0), (3, .long 0), (0, .ref (gB E + zv0)), (1, .int zv1), (2, .int zv2)]) hx hb dX12_findWays_184 hl (by decide) rfl (fun ls hl => ?_)
        exact L_186 N zv0 0 0 _ _ _ ls hf hw (lv_sub hl [2, 1, 0] rfl)
      · have hf := gif_f hf qc3
        refine lv_iload_n hx hb dX12_findWays_40 rfl (lv_at hl 3 rfl) ?_
        refine lv_iload_n hx hb dX12_findWays_41 rfl (lv_at hl 1 rfl) ?_
        refine lv_icmp_ne (tgt := 57) hx hb dX12_findWays_42 (by decide) (fun qc4 => ?_) (fun qc4 => ?_)
        · have hf := gif_f hf qc4
          refine lv_aload_n hx hb dX12_findWays_57 rfl (lv_at hl 0 rfl) ?_
          refine lv_iload_n hx hb dX12_findWays_58 rfl (lv_at hl 3 rfl) ?_
          refine W.eq (g2 := F0 m 59 ls [.int zv3, .ref (gB E + zv0)]) rfl ?_
          obtain ⟨qizh5, hf⟩ := gg_el hf
          obtain ⟨zt6, zh5, qzh5, hf⟩ := gc_el hf
          refine gx_ki (gx_runV (As := [.int zv3]) (rest := []) X hw (c_X12_pageOf l E N zv0 zv3 zh1 qzh5) kX12_pageOf mm_X12_372 qizh5 clX12 ⟨Nat.le_of_ble_eq_true rfl, Nat.le_of_ble_eq_true rfl⟩ rfl rfl rfl hl.1 (Nat.le_of_ble_eq_true rfl) rfl dX12_findWays_59 ⟨Nat.le_of_ble_eq_true rfl, Nat.le_of_ble_eq_true rfl⟩) hw (fun H locs hw => ?_)
          exact J_62 zv0 zv1 zv2 zv3 zt6 _ _ _ ls hf hw (lv_sub hl [0, 1, 2, 3] rfl)
        · have hf := gif_t hf qc4
          refine lv_aload_n hx hb dX12_findWays_45 rfl (lv_at hl 0 rfl) ?_
          refine lv_iload_n hx hb dX12_findWays_46 rfl (lv_at hl 3 rfl) ?_
          refine W.eq (g2 := F0 m 47 ls [.int zv3, .ref (gB E + zv0)]) rfl ?_
          obtain ⟨qizh7, hf⟩ := gg_el hf
          obtain ⟨zt8, zh7, qzh7, hf⟩ := gc_el hf
          refine gx_ki (gx_runV (As := [.int zv3]) (rest := []) X hw (c_X12_pageOf l E N zv0 zv3 zh1 qzh7) kX12_pageOf mm_X12_372 qizh7 clX12 ⟨Nat.le_of_ble_eq_true rfl, Nat.le_of_ble_eq_true rfl⟩ rfl rfl rfl hl.1 (Nat.le_of_ble_eq_true rfl) rfl dX12_findWays_47 ⟨Nat.le_of_ble_eq_true rfl, Nat.le_of_ble_eq_true rfl⟩) hw (fun H locs hw => ?_)
          refine lv_iconst (v := 1) hx hb dX12_findWays_50 (by decide) ?_
          refine lv_iload_n hx hb dX12_findWays_51 rfl (lv_at hl 2 rfl) ?_
          refine lv_ishl hx hb dX12_findWays_52 ?_
          refine lv_iand hx hb dX12_findWays_53 ?_
          refine lv_goto (tgt := 62) hx hb dX12_findWays_54 (by decide) ?_
          exact J_62 zv0 zv1 zv2 zv3 (zt8 &&& (1 <<< (zv2 &&& 31))) _ _ _ ls hf hw (lv_sub hl [0, 1, 2, 3] rfl)
  have L_2 : ∀ (zn2 : Nat) (zv0 : Nat) (zv1 : Int32) (zv2 : Int32) (zv3 : Int32) (zh : PH) (H : Heap) (locs : List Loc) (ls : Array Slot), gi (fun zk zs => f_X12_findWays_2 N zk zs.1 zs.2.1 zs.2.2.1 zs.2.2.2.1 zs.2.2.2.2) zn2 (zv0, zv1, zv2, zv3, zh) = some (r9, h9) → gw E s zh H locs → lv_has ls 10 [(0, .ref (gB E + zv0)), (1, .int zv1), (2, .int zv2), (3, .int zv3)] → W p l e rm_X12_findWays s m [.ref (gB E + za0), .int za1, .int za2].toArray below meth c H locs 0 0 (MQ below (gQl E r9 h9) [.ref (gB E + za0), .int za1, .int za2].toArray s 0 0 (gA E)) (F0 m 2 ls []) := by
    intro zn2
    induction zn2 with
    | zero =>
      intro zv0 zv1 zv2 zv3 zh H locs ls hf
      cases hf
    | succ zn2 ih_2 =>
      have J_23 : ∀ (zv0 : Nat) (zv1 : Int32) (zv2 : Int32) (zv3 : Int32) (zs0 : Int64) (zs1 : Int32) (zs2 : Nat) (zh : PH) (H : Heap) (locs : List Loc) (ls : Array Slot), f_X12_findWays_23 N (gi (fun zk zs => f_X12_findWays_2 N zk zs.1 zs.2.1 zs.2.2.1 zs.2.2.2.1 zs.2.2.2.2) zn2) zv0 zv1 zv2 zv3 zs0 zs1 zs2 zh = some (r9, h9) → gw E s zh H locs → lv_has ls 10 [(0, .ref (gB E + zv0)), (1, .int zv1), (2, .int zv2), (3, .int zv3)] → W p l e rm_X12_findWays s m [.ref (gB E + za0), .int za1, .int za2].toArray below meth c H locs 0 0 (MQ below (gQl E r9 h9) [.ref (gB E + za0), .int za1, .int za2].toArray s 0 0 (gA E)) (F0 m 23 ls [.long zs0, .int zs1, .ref (gB E + zs2)]) := by
        intro zv0 zv1 zv2 zv3 zs0 zs1 zs2 zh H locs ls hf hw hl
        unfold f_X12_findWays_23 at hf
        obtain ⟨zh1, qzh1, hf⟩ := gb_el hf
        refine gx_last X hw qzh1 dX12_findWays_23 (fun H locs hw => ?_)
        obtain ⟨zx2, ezx2⟩ : ∃ y : Int32, y = zv3 + 1 := ⟨_, rfl⟩
        have hf := gl_el hf ezx2
        refine lv_iinc (v := zx2) (lv' := [(3, .int zx2), (0, .ref (gB E + zv0)), (1, .int zv1), (2, .int zv2)]) hx hb dX12_findWays_24 hl (k := 3) rfl (by rw [ezx2]; rfl) (by decide) rfl (fun ls hl => ?_)
        refine lv_goto (tgt := 2) hx hb dX12_findWays_27 (by decide) ?_
        exact ih_2 zv0 zv1 zv2 zx2 _ _ _ ls hf hw (lv_sub hl [1, 2, 3, 0] rfl)
      intro zv0 zv1 zv2 zv3 zh H locs ls hf hw hl
      have hf := gi_s hf
      dsimp only at hf
      unfold f_X12_findWays_2 at hf
      refine lv_iload_n hx hb dX12_findWays_2 rfl (lv_at hl 3 rfl) ?_
      refine lv_sipush (v := 1024) hx hb dX12_findWays_3 (by decide) ?_
      refine lv_icmp_ge (tgt := 30) hx hb dX12_findWays_6 (by decide) (fun qc1 => ?_) (fun qc1 => ?_)
      · have hf := gif_t hf qc1
        refine lv_iconst (v := 0) hx hb dX12_findWays_30 (by decide) ?_
        refine lv_istore_n (lv' := [(3, .int 0), (0, .ref (gB E + zv0)), (1, .int zv1), (2, .int zv2)]) hx hb dX12_findWays_31 rfl hl (by decide) rfl (fun ls hl => ?_)
        exact L_32 N zv0 zv1 zv2 0 _ _ _ ls hf hw (lv_sub hl [1, 2, 3, 0] rfl)
      · have hf := gif_f hf qc1
        refine lv_aload_n hx hb dX12_findWays_9 rfl (lv_at hl 0 rfl) ?_
        obtain ⟨zt2, qzt2, hf⟩ := gb_el hf
        refine gx_getR X hw qzt2 clX12 (by decide) mf_X12_102 dX12_findWays_10 ?_
        refine lv_iload_n hx hb dX12_findWays_13 rfl (lv_at hl 3 rfl) ?_
        refine lv_iload_n hx hb dX12_findWays_14 rfl (lv_at hl 3 rfl) ?_
        refine lv_if_ne (tgt := 22) hx hb dX12_findWays_15 (by decide) (fun qc3 => ?_) (fun qc3 => ?_)
        · have hf := gif_f hf qc3
          refine lv_lconst (v := 0) hx hb dX12_findWays_22 (by decide) ?_
          exact J_23 zv0 zv1 zv2 zv3 0 zv3 zt2 _ _ _ ls hf hw (lv_sub hl [0, 1, 2, 3] rfl)
        · have hf := gif_t hf qc3
          refine lv_lconst (v := 1) hx hb dX12_findWays_18 (by decide) ?_
          refine W.eq (g2 := F0 m 19 ls [.long 1, .int zv3, .ref (gB E + zt2)]) rfl ?_
          refine lv_goto (tgt := 23) hx hb dX12_findWays_19 (by decide) ?_
          exact J_23 zv0 zv1 zv2 zv3 1 zv3 zt2 _ _ _ ls hf hw (lv_sub hl [0, 1, 2, 3] rfl)
  unfold f_X12_findWays at hf
  refine lv_iconst (v := 0) hx hb dX12_findWays_0 (by decide) ?_
  refine lv_istore_n (lv' := [(3, .int 0), (0, .ref (gB E + za0)), (1, .int za1), (2, .int za2)]) hx hb dX12_findWays_1 rfl hl (by decide) rfl (fun ls hl => ?_)
  exact L_2 N za0 za1 za2 0 _ _ _ ls hf hw (lv_sub hl [1, 2, 3, 0] rfl)
abbrev rm_X12_ways : Room := { frames := 2, cells := 0, slots := 0, locals := 50 }
set_option maxHeartbeats 4000000 in
set_option maxRecDepth 100000 in
theorem c_X12_ways (l : Launch) (E : gE) (N : Nat) (za0 : Nat) (zh : PH) {h9 : PH} {r9 : Int64} (hf : f_X12_ways N za0 zh = some (r9, h9)) : Met l yX12_ways (gWS yX12_ways cX12_ways 1 (some .long)) rm_X12_ways (gPc E [.ref (gB E + za0)] zh) (gQl E r9 h9) 0 0 (gA E) := by
  refine gx_met (by decide) ?_ rfl
  intro p e s m below meth c X hr hlk hin2 hw
  have hx := X.1.1
  have hb := X.1.2.1
  have hl := lv_entry [.ref (gB E + za0)] (n := 1) (Nat.le_of_ble_eq_true rfl)
  rw [lg_entry_eq]
  generalize (lg_sl [.ref (gB E + za0)] ++ List.replicate (1 - (lg_sl [.ref (gB E + za0)]).length) Slot.unset).toArray = ls at hl ⊢
  have hl : lv_has ls 1 [(0, .ref (gB E + za0))] := hl
  unfold f_X12_ways at hf
  refine lv_aload_n hx hb dX12_ways_0 rfl (lv_at hl 0 rfl) ?_
  refine lv_iconst (v := 0) hx hb dX12_ways_1 (by decide) ?_
  obtain ⟨zh1, qzh1, hf⟩ := gb_el hf
  refine gx_putV X hw qzh1 clX12 (by decide) mf_X12_1 rfl rfl rfl dX12_ways_2 (fun H locs hw => ?_)
  refine lv_aload_n hx hb dX12_ways_5 rfl (lv_at hl 0 rfl) ?_
  refine lv_iconst (v := (-1)) hx hb dX12_ways_6 (by decide) ?_
  refine lv_iconst (v := 0) hx hb dX12_ways_7 (by decide) ?_
  obtain ⟨qizh2, hf⟩ := gg_el hf
  obtain ⟨zt3, zh2, qzh2, hf⟩ := gc_el hf
  refine gx_kl (gx_runV (As := [.int (-1), .int 0]) (rest := []) X hw (c_X12_findWays l E N za0 (-1) 0 zh1 qzh2) kX12_findWays mm_X12_378 qizh2 clX12 ⟨Nat.le_of_ble_eq_true rfl, Nat.le_of_ble_eq_true rfl⟩ rfl rfl rfl hl.1 (Nat.le_of_ble_eq_true rfl) rfl dX12_ways_8 ⟨Nat.le_of_ble_eq_true rfl, Nat.le_of_ble_eq_true rfl⟩) hw (fun H locs hw => ?_)
  exact gx_lret X hr hlk hw hf dX12_ways_11
abbrev rm_X12_sure : Room := { frames := 2, cells := 0, slots := 0, locals := 50 }
set_option maxHeartbeats 4000000 in
set_option maxRecDepth 100000 in
theorem c_X12_sure (l : Launch) (E : gE) (N : Nat) (za0 : Nat) (za1 : Int32) (zh : PH) {h9 : PH} {r9 : Int32} (hf : f_X12_sure N za0 za1 zh = some (r9, h9)) : Met l yX12_sure (gWS yX12_sure cX12_sure 6 (some .int)) rm_X12_sure (gPc E [.ref (gB E + za0), .int za1] zh) (gQi E r9 h9) 0 0 (gA E) := by
  refine gx_met (by decide) ?_ rfl
  intro p e s m below meth c X hr hlk hin2 hw
  have hx := X.1.1
  have hb := X.1.2.1
  have hl := lv_entry [.ref (gB E + za0), .int za1] (n := 6) (Nat.le_of_ble_eq_true rfl)
  rw [lg_entry_eq]
  generalize (lg_sl [.ref (gB E + za0), .int za1] ++ List.replicate (6 - (lg_sl [.ref (gB E + za0), .int za1]).length) Slot.unset).toArray = ls at hl ⊢
  have hl : lv_has ls 6 [(0, .ref (gB E + za0)), (1, .int za1)] := hl
  have J_113 : ∀ (zs0 : Int32) (zh : PH) (H : Heap) (locs : List Loc) (ls : Array Slot), f_X12_sure_113 N zs0 zh = some (r9, h9) → gw E s zh H locs → lv_has ls 6 [] → W p l e rm_X12_sure s m [.ref (gB E + za0), .int za1].toArray below meth c H locs 0 0 (MQ below (gQi E r9 h9) [.ref (gB E + za0), .int za1].toArray s 0 0 (gA E)) (F0 m 113 ls [.int zs0]) := by
    intro zs0 zh H locs ls hf hw hl
    unfold f_X12_sure_113 at hf
    exact gx_iret X hr hlk hw hf dX12_sure_113
  have L_30 : ∀ (zn30 : Nat) (zv0 : Nat) (zv1 : Int32) (zv2 : Int32) (zv3 : Int32) (zv4 : Int32) (zh : PH) (H : Heap) (locs : List Loc) (ls : Array Slot), gi (fun zk zs => f_X12_sure_30 N zk zs.1 zs.2.1 zs.2.2.1 zs.2.2.2.1 zs.2.2.2.2.1 zs.2.2.2.2.2) zn30 (zv0, zv1, zv2, zv3, zv4, zh) = some (r9, h9) → gw E s zh H locs → lv_has ls 6 [(0, .ref (gB E + zv0)), (1, .int zv1), (2, .int zv2), (3, .int zv3), (4, .int zv4)] → W p l e rm_X12_sure s m [.ref (gB E + za0), .int za1].toArray below meth c H locs 0 0 (MQ below (gQi E r9 h9) [.ref (gB E + za0), .int za1].toArray s 0 0 (gA E)) (F0 m 30 ls []) := by
    intro zn30
    induction zn30 with
    | zero =>
      intro zv0 zv1 zv2 zv3 zv4 zh H locs ls hf
      cases hf
    | succ zn30 ih_30 =>
      have J_95 : ∀ (zv0 : Nat) (zv1 : Int32) (zv2 : Int32) (zv4 : Int32) (zs0 : Int32) (zs1 : Int32) (zh : PH) (H : Heap) (locs : List Loc) (ls : Array Slot), f_X12_sure_95 N (gi (fun zk zs => f_X12_sure_30 N zk zs.1 zs.2.1 zs.2.2.1 zs.2.2.2.1 zs.2.2.2.2.1 zs.2.2.2.2.2) zn30) zv0 zv1 zv2 zv4 zs0 zs1 zh = some (r9, h9) → gw E s zh H locs → lv_has ls 6 [(0, .ref (gB E + zv0)), (1, .int zv1), (2, .int zv2), (4, .int zv4)] → W p l e rm_X12_sure s m [.ref (gB E + za0), .int za1].toArray below meth c H locs 0 0 (MQ below (gQi E r9 h9) [.ref (gB E + za0), .int za1].toArray s 0 0 (gA E)) (F0 m 95 ls [.int zs0, .int zs1]) := by
        intro zv0 zv1 zv2 zv4 zs0 zs1 zh H locs ls hf hw hl
        unfold f_X12_sure_95 at hf
        refine lv_iadd hx hb dX12_sure_95 ?_
        refine lv_topi (fun zx1 ezx1 => ?_)
        have hf := gl_el hf ezx1
        refine lv_istore_n (lv' := [(3, .int zx1), (0, .ref (gB E + zv0)), (1, .int zv1), (2, .int zv2), (4, .int zv4)]) hx hb dX12_sure_96 rfl hl (by decide) rfl (fun ls hl => ?_)
        obtain ⟨zx2, ezx2⟩ : ∃ y : Int32, y = zv4 + 1 := ⟨_, rfl⟩
        have hf := gl_el hf ezx2
        refine lv_iinc (v := zx2) (lv' := [(4, .int zx2), (3, .int zx1), (0, .ref (gB E + zv0)), (1, .int zv1), (2, .int zv2)]) hx hb dX12_sure_97 hl (k := 4) rfl (by rw [ezx2]; rfl) (by decide) rfl (fun ls hl => ?_)
        refine lv_goto (tgt := 30) hx hb dX12_sure_100 (by decide) ?_
        exact ih_30 zv0 zv1 zv2 zx1 zx2 _ _ _ ls hf hw (lv_sub hl [2, 3, 4, 1, 0] rfl)
      have J_83 : ∀ (zv0 : Nat) (zv1 : Int32) (zv3 : Int32) (zv4 : Int32) (zv5 : Int32) (zs0 : Int32) (zh : PH) (H : Heap) (locs : List Loc) (ls : Array Slot), f_X12_sure_83 N (gi (fun zk zs => f_X12_sure_30 N zk zs.1 zs.2.1 zs.2.2.1 zs.2.2.2.1 zs.2.2.2.2.1 zs.2.2.2.2.2) zn30) zv0 zv1 zv3 zv4 zv5 zs0 zh = some (r9, h9) → gw E s zh H locs → lv_has ls 6 [(0, .ref (gB E + zv0)), (1, .int zv1), (3, .int zv3), (4, .int zv4), (5, .int zv5)] → W p l e rm_X12_sure s m [.ref (gB E + za0), .int za1].toArray below meth c H locs 0 0 (MQ below (gQi E r9 h9) [.ref (gB E + za0), .int za1].toArray s 0 0 (gA E)) (F0 m 83 ls [.int zs0]) := by
        intro zv0 zv1 zv3 zv4 zv5 zs0 zh H locs ls hf hw hl
        unfold f_X12_sure_83 at hf
        refine lv_istore_n (lv' := [(2, .int zs0), (0, .ref (gB E + zv0)), (1, .int zv1), (3, .int zv3), (4, .int zv4), (5, .int zv5)]) hx hb dX12_sure_83 rfl hl (by decide) rfl (fun ls hl => ?_)
        refine lv_iload_n hx hb dX12_sure_84 rfl (lv_at hl 3 rfl) ?_
        refine lv_iload hx hb dX12_sure_85 (lv_at hl 5 rfl) ?_
        refine lv_if_eq (tgt := 94) hx hb dX12_sure_87 (by decide) (fun qc1 => ?_) (fun qc1 => ?_)
        · have hf := gif_t hf qc1
          refine lv_iconst (v := 0) hx hb dX12_sure_94 (by decide) ?_
          exact J_95 zv0 zv1 zs0 zv4 0 zv3 _ _ _ ls hf hw (lv_sub hl [1, 2, 0, 4] rfl)
        · have hf := gif_f hf qc1
          refine lv_iconst (v := 1) hx hb dX12_sure_90 (by decide) ?_
          refine lv_goto (tgt := 95) hx hb dX12_sure_91 (by decide) ?_
          exact J_95 zv0 zv1 zs0 zv4 1 zv3 _ _ _ ls hf hw (lv_sub hl [1, 2, 0, 4] rfl)
      have J_70 : ∀ (zv0 : Nat) (zv1 : Int32) (zv2 : Int32) (zv3 : Int32) (zv4 : Int32) (zs0 : Int32) (zh : PH) (H : Heap) (locs : List Loc) (ls : Array Slot), f_X12_sure_70 N (gi (fun zk zs => f_X12_sure_30 N zk zs.1 zs.2.1 zs.2.2.1 zs.2.2.2.1 zs.2.2.2.2.1 zs.2.2.2.2.2) zn30) zv0 zv1 zv2 zv3 zv4 zs0 zh = some (r9, h9) → gw E s zh H locs → lv_has ls 6 [(0, .ref (gB E + zv0)), (1, .int zv1), (2, .int zv2), (3, .int zv3), (4, .int zv4)] → W p l e rm_X12_sure s m [.ref (gB E + za0), .int za1].toArray below meth c H locs 0 0 (MQ below (gQi E r9 h9) [.ref (gB E + za0), .int za1].toArray s 0 0 (gA E)) (F0 m 70 ls [.int zs0]) := by
        intro zv0 zv1 zv2 zv3 zv4 zs0 zh H locs ls hf hw hl
        unfold f_X12_sure_70 at hf
        refine lv_istore (lv' := [(5, .int zs0), (0, .ref (gB E + zv0)), (1, .int zv1), (2, .int zv2), (3, .int zv3), (4, .int zv4)]) hx hb dX12_sure_70 hl (by decide) rfl (fun ls hl => ?_)
        refine lv_iload hx hb dX12_sure_72 (lv_at hl 0 rfl) ?_
        refine lv_if_eq (tgt := 82) hx hb dX12_sure_74 (by decide) (fun qc1 => ?_) (fun qc1 => ?_)
        · have hf := gif_t hf qc1
          refine lv_iload_n hx hb dX12_sure_82 rfl (lv_at hl 3 rfl) ?_
          exact J_83 zv0 zv1 zv3 zv4 zs0 zv2 _ _ _ ls hf hw (lv_sub hl [1, 2, 4, 5, 0] rfl)
        · have hf := gif_f hf qc1
          refine lv_iload hx hb dX12_sure_77 (lv_at hl 5 rfl) ?_
          refine lv_goto (tgt := 83) hx hb dX12_sure_79 (by decide) ?_
          exact J_83 zv0 zv1 zv3 zv4 zs0 zv4 _ _ _ ls hf hw (lv_sub hl [1, 2, 4, 5, 0] rfl)
      have J_69 : ∀ (zv0 : Nat) (zv1 : Int32) (zv2 : Int32) (zv3 : Int32) (zv4 : Int32) (zh : PH) (H : Heap) (locs : List Loc) (ls : Array Slot), f_X12_sure_69 N (gi (fun zk zs => f_X12_sure_30 N zk zs.1 zs.2.1 zs.2.2.1 zs.2.2.2.1 zs.2.2.2.2.1 zs.2.2.2.2.2) zn30) zv0 zv1 zv2 zv3 zv4 zh = some (r9, h9) → gw E s zh H locs → lv_has ls 6 [(0, .ref (gB E + zv0)), (1, .int zv1), (2, .int zv2), (3, .int zv3), (4, .int zv4)] → W p l e rm_X12_sure s m [.ref (gB E + za0), .int za1].toArray below meth c H locs 0 0 (MQ below (gQi E r9 h9) [.ref (gB E + za0), .int za1].toArray s 0 0 (gA E)) (F0 m 69 ls []) := by
        intro zv0 zv1 zv2 zv3 zv4 zh H locs ls hf hw hl
        unfold f_X12_sure_69 at hf
        refine lv_iconst (v := 0) hx hb dX12_sure_69 (by decide) ?_
        exact J_70 zv0 zv1 zv2 zv3 zv4 0 _ _ _ ls hf hw (lv_sub hl [0, 1, 2, 3, 4] rfl)
      intro zv0 zv1 zv2 zv3 zv4 zh H locs ls hf hw hl
      have hf := gi_s hf
      dsimp only at hf
      unfold f_X12_sure_30 at hf
      refine lv_iload hx hb dX12_sure_30 (lv_at hl 4 rfl) ?_
      refine lv_aload_n hx hb dX12_sure_32 rfl (lv_at hl 0 rfl) ?_
      obtain ⟨qizh1, hf⟩ := gg_el hf
      obtain ⟨zt2, zh1, qzh1, hf⟩ := gc_el hf
      refine gx_ki (gx_runV (As := []) (rest := [.int zv4]) X hw (c_X12_rooms l E N zv0 zh qzh1) kX12_rooms mm_X12_231 qizh1 clX12 ⟨Nat.le_of_ble_eq_true rfl, Nat.le_of_ble_eq_true rfl⟩ rfl rfl rfl hl.1 (Nat.le_of_ble_eq_true rfl) rfl dX12_sure_33 ⟨Nat.le_of_ble_eq_true rfl, Nat.le_of_ble_eq_true rfl⟩) hw (fun H locs hw => ?_)
      refine lv_icmp_ge (tgt := 103) hx hb dX12_sure_36 (by decide) (fun qc3 => ?_) (fun qc3 => ?_)
      · have hf := gif_t hf qc3
        refine lv_iload_n hx hb dX12_sure_103 rfl (lv_at hl 3 rfl) ?_
        refine lv_iconst (v := 1) hx hb dX12_sure_104 (by decide) ?_
        refine lv_icmp_ne (tgt := 112) hx hb dX12_sure_105 (by decide) (fun qc4 => ?_) (fun qc4 => ?_)
        · have hf := gif_f hf qc4
          refine lv_iconst (v := (-1)) hx hb dX12_sure_112 (by decide) ?_
          exact J_113 (-1) _ _ _ ls hf hw (lv_sub hl [] rfl)
        · have hf := gif_t hf qc4
          refine lv_iload_n hx hb dX12_sure_108 rfl (lv_at hl 2 rfl) ?_
          refine lv_goto (tgt := 113) hx hb dX12_sure_109 (by decide) ?_
          exact J_113 zv2 _ _ _ ls hf hw (lv_sub hl [] rfl)
      · have hf := gif_f hf qc3
        refine lv_aload_n hx hb dX12_sure_39 rfl (lv_at hl 0 rfl) ?_
        refine lv_iload_n hx hb dX12_sure_40 rfl (lv_at hl 1 rfl) ?_
        obtain ⟨qizh5, hf⟩ := gg_el hf
        obtain ⟨zt6, zh5, qzh5, hf⟩ := gc_el hf
        refine gx_ki (gx_runV (As := [.int zv1]) (rest := []) X hw (c_X12_pageOf l E N zv0 zv1 zh1 qzh5) kX12_pageOf mm_X12_372 qizh5 clX12 ⟨Nat.le_of_ble_eq_true rfl, Nat.le_of_ble_eq_true rfl⟩ rfl rfl rfl hl.1 (Nat.le_of_ble_eq_true rfl) rfl dX12_sure_41 ⟨Nat.le_of_ble_eq_true rfl, Nat.le_of_ble_eq_true rfl⟩) hw (fun H locs hw => ?_)
        refine lv_iload hx hb dX12_sure_44 (lv_at hl 4 rfl) ?_
        refine lv_ishr hx hb dX12_sure_46 ?_
        refine W.eq (g2 := F0 m 47 ls [.int (zt6 >>> (zv4 &&& 31))]) rfl ?_
        refine lv_iconst (v := 1) hx hb dX12_sure_47 (by decide) ?_
        refine lv_iand hx hb dX12_sure_48 ?_
        refine lv_iconst (v := 1) hx hb dX12_sure_49 (by decide) ?_
        refine lv_icmp_ne (tgt := 69) hx hb dX12_sure_50 (by decide) (fun qc7 => ?_) (fun qc7 => ?_)
        · have hf := gif_f hf qc7
          exact J_69 zv0 zv1 zv2 zv3 zv4 _ _ _ ls hf hw (lv_sub hl [0, 1, 2, 3, 4] rfl)
        · have hf := gif_t hf qc7
          refine lv_aload_n hx hb dX12_sure_53 rfl (lv_at hl 0 rfl) ?_
          refine lv_iload_n hx hb dX12_sure_54 rfl (lv_at hl 1 rfl) ?_
          refine lv_iload hx hb dX12_sure_55 (lv_at hl 4 rfl) ?_
          obtain ⟨qizh8, hf⟩ := gg_el hf
          obtain ⟨zt9, zh8, qzh8, hf⟩ := gc_el hf
          refine gx_kl (gx_runV (As := [.int zv1, .int zv4]) (rest := []) X hw (c_X12_findWays l E N zv0 zv1 zv4 zh5 qzh8) kX12_findWays mm_X12_378 qizh8 clX12 ⟨Nat.le_of_ble_eq_true rfl, Nat.le_of_ble_eq_true rfl⟩ rfl rfl rfl hl.1 (Nat.le_of_ble_eq_true rfl) rfl dX12_sure_57 ⟨Nat.le_of_ble_eq_true rfl, Nat.le_of_ble_eq_true rfl⟩) hw (fun H locs hw => ?_)
          refine lv_lconst (v := 0) hx hb dX12_sure_60 (by decide) ?_
          refine W.lcmp hx hb dX12_sure_61 ?_
          refine W.eq (g2 := F0 m 62 ls [.int (lg_cmp zt9 0)]) rfl ?_
          refine lv_if_le (tgt := 69) hx hb dX12_sure_62 (by decide) (fun qc10 => ?_) (fun qc10 => ?_)
          · have hf := gif_t hf qc10
            exact J_69 zv0 zv1 zv2 zv3 zv4 _ _ _ ls hf hw (lv_sub hl [0, 1, 2, 3, 4] rfl)
          · have hf := gif_f hf qc10
            refine lv_iconst (v := 1) hx hb dX12_sure_65 (by decide) ?_
            refine lv_goto (tgt := 70) hx hb dX12_sure_66 (by decide) ?_
            exact J_70 zv0 zv1 zv2 zv3 zv4 1 _ _ _ ls hf hw (lv_sub hl [0, 1, 2, 3, 4] rfl)
  have J_21 : ∀ (zh : PH) (H : Heap) (locs : List Loc) (ls : Array Slot), f_X12_sure_21 N zh = some (r9, h9) → gw E s zh H locs → lv_has ls 6 [] → W p l e rm_X12_sure s m [.ref (gB E + za0), .int za1].toArray below meth c H locs 0 0 (MQ below (gQi E r9 h9) [.ref (gB E + za0), .int za1].toArray s 0 0 (gA E)) (F0 m 21 ls []) := by
    intro zh H locs ls hf hw hl
    unfold f_X12_sure_21 at hf
    refine lv_iconst (v := (-1)) hx hb dX12_sure_21 (by decide) ?_
    exact gx_iret X hr hlk hw hf dX12_sure_22
  unfold f_X12_sure at hf
  refine lv_aload_n hx hb dX12_sure_0 rfl (lv_at hl 0 rfl) ?_
  refine lv_iconst (v := 0) hx hb dX12_sure_1 (by decide) ?_
  obtain ⟨zh1, qzh1, hf⟩ := gb_el hf
  refine gx_putV X hw qzh1 clX12 (by decide) mf_X12_1 rfl rfl rfl dX12_sure_2 (fun H locs hw => ?_)
  refine lv_aload_n hx hb dX12_sure_5 rfl (lv_at hl 0 rfl) ?_
  refine lv_iload_n hx hb dX12_sure_6 rfl (lv_at hl 1 rfl) ?_
  obtain ⟨qizh2, hf⟩ := gg_el hf
  obtain ⟨zt3, zh2, qzh2, hf⟩ := gc_el hf
  refine gx_ki (gx_runV (As := [.int za1]) (rest := []) X hw (c_X12_isGuest l E N za0 za1 zh1 qzh2) kX12_isGuest mm_X12_312 qizh2 clX12 ⟨Nat.le_of_ble_eq_true rfl, Nat.le_of_ble_eq_true rfl⟩ rfl rfl rfl hl.1 (Nat.le_of_ble_eq_true rfl) rfl dX12_sure_7 ⟨Nat.le_of_ble_eq_true rfl, Nat.le_of_ble_eq_true rfl⟩) hw (fun H locs hw => ?_)
  refine lv_if_eq (tgt := 21) hx hb dX12_sure_10 (by decide) (fun qc4 => ?_) (fun qc4 => ?_)
  · have hf := gif_t hf qc4
    exact J_21  _ _ _ ls hf hw (lv_sub hl [] rfl)
  · have hf := gif_f hf qc4
    refine lv_aload_n hx hb dX12_sure_13 rfl (lv_at hl 0 rfl) ?_
    refine lv_iload_n hx hb dX12_sure_14 rfl (lv_at hl 1 rfl) ?_
    refine W.eq (g2 := F0 m 15 ls [.int za1, .ref (gB E + za0)]) rfl ?_
    obtain ⟨qizh5, hf⟩ := gg_el hf
    obtain ⟨zt6, zh5, qzh5, hf⟩ := gc_el hf
    refine gx_ki (gx_runV (As := [.int za1]) (rest := []) X hw (c_X12_pageOf l E N za0 za1 zh2 qzh5) kX12_pageOf mm_X12_372 qizh5 clX12 ⟨Nat.le_of_ble_eq_true rfl, Nat.le_of_ble_eq_true rfl⟩ rfl rfl rfl hl.1 (Nat.le_of_ble_eq_true rfl) rfl dX12_sure_15 ⟨Nat.le_of_ble_eq_true rfl, Nat.le_of_ble_eq_true rfl⟩) hw (fun H locs hw => ?_)
    refine lv_if_ne (tgt := 23) hx hb dX12_sure_18 (by decide) (fun qc7 => ?_) (fun qc7 => ?_)
    · have hf := gif_f hf qc7
      refine lv_iconst (v := (-1)) hx hb dX12_sure_23 (by decide) ?_
      refine lv_istore_n (lv' := [(2, .int (-1)), (0, .ref (gB E + za0)), (1, .int za1)]) hx hb dX12_sure_24 rfl hl (by decide) rfl (fun ls hl => ?_)
      refine lv_iconst (v := 0) hx hb dX12_sure_25 (by decide) ?_
      refine lv_istore_n (lv' := [(3, .int 0), (2, .int (-1)), (0, .ref (gB E + za0)), (1, .int za1)]) hx hb dX12_sure_26 rfl hl (by decide) rfl (fun ls hl => ?_)
      refine lv_iconst (v := 0) hx hb dX12_sure_27 (by decide) ?_
      refine lv_istore (lv' := [(4, .int 0), (3, .int 0), (2, .int (-1)), (0, .ref (gB E + za0)), (1, .int za1)]) hx hb dX12_sure_28 hl (by decide) rfl (fun ls hl => ?_)
      exact L_30 N za0 za1 (-1) 0 0 _ _ _ ls hf hw (lv_sub hl [3, 4, 2, 1, 0] rfl)
    · have hf := gif_t hf qc7
      exact J_21  _ _ _ ls hf hw (lv_sub hl [] rfl)
