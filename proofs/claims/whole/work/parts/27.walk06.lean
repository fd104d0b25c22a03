abbrev rm_X11_who : Room := { frames := 3, cells := 0, slots := 0, locals := 65 }
set_option maxHeartbeats 4000000 in
set_option maxRecDepth 100000 in
theorem c_X11_who (l : Launch) (E : gE) (N : Nat) (za0 : Nat) (za1 : Int32) (za2 : Int32) (zh : PH) {h9 : PH} {r9 : Int32} (hf : f_X11_who N za0 za1 za2 zh = some (r9, h9)) : Met l yX11_who (gWS yX11_who cX11_who 3 (some .int)) rm_X11_who (gPc E [.ref (gB E + za0), .int za1, .int za2] zh) (gQi E r9 h9) 0 0 (gA E) := by
  refine gx_met (by decide) ?_ rfl
  intro p e s m below meth c X hr hlk hin2 hw
  have hx := X.1.1
  have hb := X.1.2.1
  have hl := lv_entry [.ref (gB E + za0), .int za1, .int za2] (n := 3) (Nat.le_of_ble_eq_true rfl)
  rw [lg_entry_eq]
  generalize (lg_sl [.ref (gB E + za0), .int za1, .int za2] ++ List.replicate (3 - (lg_sl [.ref (gB E + za0), .int za1, .int za2]).length) Slot.unset).toArray = ls at hl ⊢
  have hl : lv_has ls 3 [(0, .ref (gB E + za0)), (1, .int za1), (2, .int za2)] := hl
  have J_15 : ∀ (zh : PH) (H : Heap) (locs : List Loc) (ls : Array Slot), f_X11_who_15 N zh = some (r9, h9) → gw E s zh H locs → lv_has ls 3 [] → W p l e rm_X11_who s m [.ref (gB E + za0), .int za1, .int za2].toArray below meth c H locs 0 0 (MQ below (gQi E r9 h9) [.ref (gB E + za0), .int za1, .int za2].toArray s 0 0 (gA E)) (F0 m 15 ls []) := by
    intro zh H locs ls hf hw hl
    unfold f_X11_who_15 at hf
    refine lv_iconst (v := (-1)) hx hb dX11_who_15 (by decide) ?_
    exact gx_iret X hr hlk hw hf dX11_who_16
  unfold f_X11_who at hf
  refine lv_aload_n hx hb dX11_who_0 rfl (lv_at hl 0 rfl) ?_
  refine lv_iload_n hx hb dX11_who_1 rfl (lv_at hl 1 rfl) ?_
  obtain ⟨qizh1, hf⟩ := gg_el hf
  obtain ⟨zt2, zh1, qzh1, hf⟩ := gc_el hf
  refine gx_ki (gx_runV (As := [.int za1]) (rest := []) X hw (c_X11_isRoom l E N za0 za1 zh qzh1) kX11_isRoom mm_X11_102 qizh1 clX11 ⟨Nat.le_of_ble_eq_true rfl, Nat.le_of_ble_eq_true rfl⟩ rfl rfl rfl hl.1 (Nat.le_of_ble_eq_true rfl) rfl dX11_who_2 ⟨Nat.le_of_ble_eq_true rfl, Nat.le_of_ble_eq_true rfl⟩) hw (fun H locs hw => ?_)
  refine lv_if_eq (tgt := 15) hx hb dX11_who_5 (by decide) (fun qc3 => ?_) (fun qc3 => ?_)
  · have hf := gif_t hf qc3
    exact J_15  _ _ _ ls hf hw (lv_sub hl [] rfl)
  · have hf := gif_f hf qc3
    refine lv_iload_n hx hb dX11_who_8 rfl (lv_at hl 2 rfl) ?_
    obtain ⟨zt5, zh4, qzh4, hf⟩ := gc_el hf
    refine gx_ki (gx_runS (As := [.int za2]) (rest := []) X hw (c_X11_isAskedMinute l E N za2 zh1 qzh4) kX11_isAskedMinute mm_X11_194 ⟨Nat.le_of_ble_eq_true rfl, Nat.le_of_ble_eq_true rfl⟩ rfl rfl rfl hl.1 (Nat.le_of_ble_eq_true rfl) rfl dX11_who_9 ⟨Nat.le_of_ble_eq_true rfl, Nat.le_of_ble_eq_true rfl⟩) hw (fun H locs hw => ?_)
    refine lv_if_ne (tgt := 17) hx hb dX11_who_12 (by decide) (fun qc6 => ?_) (fun qc6 => ?_)
    · have hf := gif_f hf qc6
      refine lv_aload_n hx hb dX11_who_17 rfl (lv_at hl 0 rfl) ?_
      obtain ⟨zt7, qzt7, hf⟩ := gb_el hf
      refine gx_getR X hw qzt7 clX11 (by decide) mf_X11_37 dX11_who_18 ?_
      refine W.eq (g2 := F0 m 21 ls [.ref (gB E + zt7)]) rfl ?_
      obtain ⟨zt8, qzt8, hf⟩ := gb_el hf
      refine gx_getR X hw qzt8 clX9 (by decide) mf_X11_173 dX11_who_21 ?_
      refine lv_iload_n hx hb dX11_who_24 rfl (lv_at hl 1 rfl) ?_
      refine lv_iload_n hx hb dX11_who_25 rfl (lv_at hl 2 rfl) ?_
      obtain ⟨qizh9, hf⟩ := gg_el hf
      obtain ⟨zt10, zh9, qzh9, hf⟩ := gc_el hf
      refine gx_ki (gx_runV (As := [.int za1, .int za2]) (rest := []) X hw (c_X0_occupantOf l E N zt8 za1 za2 zh4 qzh9) kX0_occupantOf mm_X11_200 qizh9 clX0 ⟨Nat.le_of_ble_eq_true rfl, Nat.le_of_ble_eq_true rfl⟩ rfl rfl rfl hl.1 (Nat.le_of_ble_eq_true rfl) rfl dX11_who_26 ⟨Nat.le_of_ble_eq_true rfl, Nat.le_of_ble_eq_true rfl⟩) hw (fun H locs hw => ?_)
      exact gx_iret X hr hlk hw hf dX11_who_29
    · have hf := gif_t hf qc6
      exact J_15  _ _ _ ls hf hw (lv_sub hl [] rfl)
abbrev rm_X11_letter : Room := { frames := 3, cells := 0, slots := 0, locals := 65 }
set_option maxHeartbeats 4000000 in
set_option maxRecDepth 100000 in
theorem c_X11_letter (l : Launch) (E : gE) (N : Nat) (za0 : Nat) (za1 : Int32) (za2 : Int32) (za3 : Int32) (zh : PH) {h9 : PH} {r9 : Int32} (hf : f_X11_letter N za0 za1 za2 za3 zh = some (r9, h9)) : Met l yX11_letter (gWS yX11_letter cX11_letter 5 (some .int)) rm_X11_letter (gPc E [.ref (gB E + za0), .int za1, .int za2, .int za3] zh) (gQi E r9 h9) 0 0 (gA E) := by
  refine gx_met (by decide) ?_ rfl
  intro p e s m below meth c X hr hlk hin2 hw
  have hx := X.1.1
  have hb := X.1.2.1
  have hl := lv_entry [.ref (gB E + za0), .int za1, .int za2, .int za3] (n := 5) (Nat.le_of_ble_eq_true rfl)
  rw [lg_entry_eq]
  generalize (lg_sl [.ref (gB E + za0), .int za1, .int za2, .int za3] ++ List.replicate (5 - (lg_sl [.ref (gB E + za0), .int za1, .int za2, .int za3]).length) Slot.unset).toArray = ls at hl ⊢
  have hl : lv_has ls 5 [(0, .ref (gB E + za0)), (1, .int za1), (2, .int za2), (3, .int za3)] := hl
  have J_69 : ∀ (zs0 : Int32) (zh : PH) (H : Heap) (locs : List Loc) (ls : Array Slot), f_X11_letter_69 N zs0 zh = some (r9, h9) → gw E s zh H locs → lv_has ls 5 [] → W p l e rm_X11_letter s m [.ref (gB E + za0), .int za1, .int za2, .int za3].toArray below meth c H locs 0 0 (MQ below (gQi E r9 h9) [.ref (gB E + za0), .int za1, .int za2, .int za3].toArray s 0 0 (gA E)) (F0 m 69 ls [.int zs0]) := by
    intro zs0 zh H locs ls hf hw hl
    unfold f_X11_letter_69 at hf
    exact gx_iret X hr hlk hw hf dX11_letter_69
  have J_27 : ∀ (zh : PH) (H : Heap) (locs : List Loc) (ls : Array Slot), f_X11_letter_27 N zh = some (r9, h9) → gw E s zh H locs → lv_has ls 5 [] → W p l e rm_X11_letter s m [.ref (gB E + za0), .int za1, .int za2, .int za3].toArray below meth c H locs 0 0 (MQ below (gQi E r9 h9) [.ref (gB E + za0), .int za1, .int za2, .int za3].toArray s 0 0 (gA E)) (F0 m 27 ls []) := by
    intro zh H locs ls hf hw hl
    unfold f_X11_letter_27 at hf
    refine lv_iconst (v := (-1)) hx hb dX11_letter_27 (by decide) ?_
    exact gx_iret X hr hlk hw hf dX11_letter_28
  unfold f_X11_letter at hf
  refine lv_aload_n hx hb dX11_letter_0 rfl (lv_at hl 0 rfl) ?_
  refine lv_iload_n hx hb dX11_letter_1 rfl (lv_at hl 1 rfl) ?_
  obtain ⟨qizh1, hf⟩ := gg_el hf
  obtain ⟨zt2, zh1, qzh1, hf⟩ := gc_el hf
  refine gx_ki (gx_runV (As := [.int za1]) (rest := []) X hw (c_X11_isGuest l E N za0 za1 zh qzh1) kX11_isGuest mm_X11_118 qizh1 clX11 ⟨Nat.le_of_ble_eq_true rfl, Nat.le_of_ble_eq_true rfl⟩ rfl rfl rfl hl.1 (Nat.le_of_ble_eq_true rfl) rfl dX11_letter_2 ⟨Nat.le_of_ble_eq_true rfl, Nat.le_of_ble_eq_true rfl⟩) hw (fun H locs hw => ?_)
  refine lv_if_eq (tgt := 27) hx hb dX11_letter_5 (by decide) (fun qc3 => ?_) (fun qc3 => ?_)
  · have hf := gif_t hf qc3
    exact J_27  _ _ _ ls hf hw (lv_sub hl [] rfl)
  · have hf := gif_f hf qc3
    refine lv_iload_n hx hb dX11_letter_8 rfl (lv_at hl 2 rfl) ?_
    obtain ⟨zt5, zh4, qzh4, hf⟩ := gc_el hf
    refine gx_ki (gx_runS (As := [.int za2]) (rest := []) X hw (c_X11_isAskedMinute l E N za2 zh1 qzh4) kX11_isAskedMinute mm_X11_194 ⟨Nat.le_of_ble_eq_true rfl, Nat.le_of_ble_eq_true rfl⟩ rfl rfl rfl hl.1 (Nat.le_of_ble_eq_true rfl) rfl dX11_letter_9 ⟨Nat.le_of_ble_eq_true rfl, Nat.le_of_ble_eq_true rfl⟩) hw (fun H locs hw => ?_)
    refine lv_if_eq (tgt := 27) hx hb dX11_letter_12 (by decide) (fun qc6 => ?_) (fun qc6 => ?_)
    · have hf := gif_t hf qc6
      exact J_27  _ _ _ ls hf hw (lv_sub hl [] rfl)
    · have hf := gif_f hf qc6
      refine lv_iload_n hx hb dX11_letter_15 rfl (lv_at hl 3 rfl) ?_
      obtain ⟨zt8, zh7, qzh7, hf⟩ := gc_el hf
      refine gx_ki (gx_runS (As := [.int za3]) (rest := []) X hw (c_X11_isAskedMinute l E N za3 zh4 qzh7) kX11_isAskedMinute mm_X11_194 ⟨Nat.le_of_ble_eq_true rfl, Nat.le_of_ble_eq_true rfl⟩ rfl rfl rfl hl.1 (Nat.le_of_ble_eq_true rfl) rfl dX11_letter_16 ⟨Nat.le_of_ble_eq_true rfl, Nat.le_of_ble_eq_true rfl⟩) hw (fun H locs hw => ?_)
      refine W.eq (g2 := F0 m 19 ls [.int zt8]) rfl ?_
      refine lv_if_eq (tgt := 27) hx hb dX11_letter_19 (by decide) (fun qc9 => ?_) (fun qc9 => ?_)
      · have hf := gif_t hf qc9
        exact J_27  _ _ _ ls hf hw (lv_sub hl [] rfl)
      · have hf := gif_f hf qc9
        refine lv_iload_n hx hb dX11_letter_22 rfl (lv_at hl 3 rfl) ?_
        refine lv_iload_n hx hb dX11_letter_23 rfl (lv_at hl 2 rfl) ?_
        refine lv_icmp_ge (tgt := 29) hx hb dX11_letter_24 (by decide) (fun qc10 => ?_) (fun qc10 => ?_)
        · have hf := gif_t hf qc10
          refine lv_aload_n hx hb dX11_letter_29 rfl (lv_at hl 0 rfl) ?_
          obtain ⟨zt11, qzt11, hf⟩ := gb_el hf
          refine gx_getR X hw qzt11 clX11 (by decide) mf_X11_37 dX11_letter_30 ?_
          obtain ⟨zt12, qzt12, hf⟩ := gb_el hf
          refine gx_getR X hw qzt12 clX9 (by decide) mf_X11_173 dX11_letter_33 ?_
          refine lv_iload_n hx hb dX11_letter_36 rfl (lv_at hl 1 rfl) ?_
          refine lv_iload_n hx hb dX11_letter_37 rfl (lv_at hl 2 rfl) ?_
          obtain ⟨qizh13, hf⟩ := gg_el hf
          obtain ⟨zt14, zh13, qzh13, hf⟩ := gc_el hf
          refine gx_ki (gx_runV (As := [.int za1, .int za2]) (rest := []) X hw (c_X0_placeOf l E N zt12 za1 za2 zh7 qzh13) kX0_placeOf mm_X11_197 qizh13 clX0 ⟨Nat.le_of_ble_eq_true rfl, Nat.le_of_ble_eq_true rfl⟩ rfl rfl rfl hl.1 (Nat.le_of_ble_eq_true rfl) rfl dX11_letter_38 ⟨Nat.le_of_ble_eq_true rfl, Nat.le_of_ble_eq_true rfl⟩) hw (fun H locs hw => ?_)
          refine W.eq (g2 := F0 m 41 ls [.int zt14]) rfl ?_
          refine lv_istore (lv' := [(4, .int zt14), (0, .ref (gB E + za0)), (1, .int za1), (2, .int za2), (3, .int za3)]) hx hb dX11_letter_41 hl (by decide) rfl (fun ls hl => ?_)
          refine lv_aload_n hx hb dX11_letter_43 rfl (lv_at hl 1 rfl) ?_
          refine lv_iload hx hb dX11_letter_44 (lv_at hl 0 rfl) ?_
          obtain ⟨qizh15, hf⟩ := gg_el hf
          obtain ⟨zt16, zh15, qzh15, hf⟩ := gc_el hf
          refine gx_ki (gx_runV (As := [.int zt14]) (rest := []) X hw (c_X11_isRoom l E N za0 zt14 zh13 qzh15) kX11_isRoom mm_X11_102 qizh15 clX11 ⟨Nat.le_of_ble_eq_true rfl, Nat.le_of_ble_eq_true rfl⟩ rfl rfl rfl hl.1 (Nat.le_of_ble_eq_true rfl) rfl dX11_letter_46 ⟨Nat.le_of_ble_eq_true rfl, Nat.le_of_ble_eq_true rfl⟩) hw (fun H locs hw => ?_)
          refine lv_if_eq (tgt := 68) hx hb dX11_letter_49 (by decide) (fun qc17 => ?_) (fun qc17 => ?_)
          · have hf := gif_t hf qc17
            refine lv_iconst (v := (-1)) hx hb dX11_letter_68 (by decide) ?_
            exact J_69 (-1) _ _ _ ls hf hw (lv_sub hl [] rfl)
          · have hf := gif_f hf qc17
            refine lv_aload_n hx hb dX11_letter_52 rfl (lv_at hl 1 rfl) ?_
            obtain ⟨zt18, qzt18, hf⟩ := gb_el hf
            refine gx_getR X hw qzt18 clX11 (by decide) mf_X11_37 dX11_letter_53 ?_
            obtain ⟨zt19, qzt19, hf⟩ := gb_el hf
            refine gx_getR X hw qzt19 clX9 (by decide) mf_X11_173 dX11_letter_56 ?_
            refine lv_iload hx hb dX11_letter_59 (lv_at hl 0 rfl) ?_
            refine lv_iload_n hx hb dX11_letter_61 rfl (lv_at hl 4 rfl) ?_
            refine W.eq (g2 := F0 m 62 ls [.int za3, .int zt14, .ref (gB E + zt19)]) rfl ?_
            obtain ⟨qizh20, hf⟩ := gg_el hf
            obtain ⟨zt21, zh20, qzh20, hf⟩ := gc_el hf
            refine gx_ki (gx_runV (As := [.int zt14, .int za3]) (rest := []) X hw (c_X0_occupantOf l E N zt19 zt14 za3 zh15 qzh20) kX0_occupantOf mm_X11_200 qizh20 clX0 ⟨Nat.le_of_ble_eq_true rfl, Nat.le_of_ble_eq_true rfl⟩ rfl rfl rfl hl.1 (Nat.le_of_ble_eq_true rfl) rfl dX11_letter_62 ⟨Nat.le_of_ble_eq_true rfl, Nat.le_of_ble_eq_true rfl⟩) hw (fun H locs hw => ?_)
            refine lv_goto (tgt := 69) hx hb dX11_letter_65 (by decide) ?_
            exact J_69 zt21 _ _ _ ls hf hw (lv_sub hl [] rfl)
        · have hf := gif_f hf qc10
          exact J_27  _ _ _ ls hf hw (lv_sub hl [] rfl)
abbrev rm_X11_trunk : Room := { frames := 3, cells := 0, slots := 0, locals := 69 }
set_option maxHeartbeats 4000000 in
set_option maxRecDepth 100000 in
theorem c_X11_trunk (l : Launch) (E : gE) (N : Nat) (za0 : Nat) (za1 : Int32) (za2 : Int32) (za3 : Int32) (zh : PH) {h9 : PH} {r9 : Int32} (hf : f_X11_trunk N za0 za1 za2 za3 zh = some (r9, h9)) : Met l yX11_trunk (gWS yX11_trunk cX11_trunk 4 (some .int)) rm_X11_trunk (gPc E [.ref (gB E + za0), .int za1, .int za2, .int za3] zh) (gQi E r9 h9) 0 0 (gA E) := by
  refine gx_met (by decide) ?_ rfl
  intro p e s m below meth c X hr hlk hin2 hw
  have hx := X.1.1
  have hb := X.1.2.1
  have hl := lv_entry [.ref (gB E + za0), .int za1, .int za2, .int za3] (n := 4) (Nat.le_of_ble_eq_true rfl)
  rw [lg_entry_eq]
  generalize (lg_sl [.ref (gB E + za0), .int za1, .int za2, .int za3] ++ List.replicate (4 - (lg_sl [.ref (gB E + za0), .int za1, .int za2, .int za3]).length) Slot.unset).toArray = ls at hl ⊢
  have hl : lv_has ls 4 [(0, .ref (gB E + za0)), (1, .int za1), (2, .int za2), (3, .int za3)] := hl
  have J_27 : ∀ (zh : PH) (H : Heap) (locs : List Loc) (ls : Array Slot), f_X11_trunk_27 N zh = some (r9, h9) → gw E s zh H locs → lv_has ls 4 [] → W p l e rm_X11_trunk s m [.ref (gB E + za0), .int za1, .int za2, .int za3].toArray below meth c H locs 0 0 (MQ below (gQi E r9 h9) [.ref (gB E + za0), .int za1, .int za2, .int za3].toArray s 0 0 (gA E)) (F0 m 27 ls []) := by
    intro zh H locs ls hf hw hl
    unfold f_X11_trunk_27 at hf
    refine lv_iconst (v := (-1)) hx hb dX11_trunk_27 (by decide) ?_
    exact gx_iret X hr hlk hw hf dX11_trunk_28
  unfold f_X11_trunk at hf
  refine lv_aload_n hx hb dX11_trunk_0 rfl (lv_at hl 0 rfl) ?_
  refine lv_iload_n hx hb dX11_trunk_1 rfl (lv_at hl 1 rfl) ?_
  obtain ⟨qizh1, hf⟩ := gg_el hf
  obtain ⟨zt2, zh1, qzh1, hf⟩ := gc_el hf
  refine gx_ki (gx_runV (As := [.int za1]) (rest := []) X hw (c_X11_isRoom l E N za0 za1 zh qzh1) kX11_isRoom mm_X11_102 qizh1 clX11 ⟨Nat.le_of_ble_eq_true rfl, Nat.le_of_ble_eq_true rfl⟩ rfl rfl rfl hl.1 (Nat.le_of_ble_eq_true rfl) rfl dX11_trunk_2 ⟨Nat.le_of_ble_eq_true rfl, Nat.le_of_ble_eq_true rfl⟩) hw (fun H locs hw => ?_)
  refine lv_if_eq (tgt := 27) hx hb dX11_trunk_5 (by decide) (fun qc3 => ?_) (fun qc3 => ?_)
  · have hf := gif_t hf qc3
    exact J_27  _ _ _ ls hf hw (lv_sub hl [] rfl)
  · have hf := gif_f hf qc3
    refine lv_iload_n hx hb dX11_trunk_8 rfl (lv_at hl 2 rfl) ?_
    obtain ⟨zt5, zh4, qzh4, hf⟩ := gc_el hf
    refine gx_ki (gx_runS (As := [.int za2]) (rest := []) X hw (c_X11_isAskedMinute l E N za2 zh1 qzh4) kX11_isAskedMinute mm_X11_194 ⟨Nat.le_of_ble_eq_true rfl, Nat.le_of_ble_eq_true rfl⟩ rfl rfl rfl hl.1 (Nat.le_of_ble_eq_true rfl) rfl dX11_trunk_9 ⟨Nat.le_of_ble_eq_true rfl, Nat.le_of_ble_eq_true rfl⟩) hw (fun H locs hw => ?_)
    refine lv_if_eq (tgt := 27) hx hb dX11_trunk_12 (by decide) (fun qc6 => ?_) (fun qc6 => ?_)
    · have hf := gif_t hf qc6
      exact J_27  _ _ _ ls hf hw (lv_sub hl [] rfl)
    · have hf := gif_f hf qc6
      refine lv_iload_n hx hb dX11_trunk_15 rfl (lv_at hl 3 rfl) ?_
      obtain ⟨zt8, zh7, qzh7, hf⟩ := gc_el hf
      refine gx_ki (gx_runS (As := [.int za3]) (rest := []) X hw (c_X11_isAskedMinute l E N za3 zh4 qzh7) kX11_isAskedMinute mm_X11_194 ⟨Nat.le_of_ble_eq_true rfl, Nat.le_of_ble_eq_true rfl⟩ rfl rfl rfl hl.1 (Nat.le_of_ble_eq_true rfl) rfl dX11_trunk_16 ⟨Nat.le_of_ble_eq_true rfl, Nat.le_of_ble_eq_true rfl⟩) hw (fun H locs hw => ?_)
      refine W.eq (g2 := F0 m 19 ls [.int zt8]) rfl ?_
      refine lv_if_eq (tgt := 27) hx hb dX11_trunk_19 (by decide) (fun qc9 => ?_) (fun qc9 => ?_)
      · have hf := gif_t hf qc9
        exact J_27  _ _ _ ls hf hw (lv_sub hl [] rfl)
      · have hf := gif_f hf qc9
        refine lv_iload_n hx hb dX11_trunk_22 rfl (lv_at hl 3 rfl) ?_
        refine lv_iload_n hx hb dX11_trunk_23 rfl (lv_at hl 2 rfl) ?_
        refine lv_icmp_ge (tgt := 29) hx hb dX11_trunk_24 (by decide) (fun qc10 => ?_) (fun qc10 => ?_)
        · have hf := gif_t hf qc10
          refine lv_aload_n hx hb dX11_trunk_29 rfl (lv_at hl 0 rfl) ?_
          obtain ⟨zt11, qzt11, hf⟩ := gb_el hf
          refine gx_getR X hw qzt11 clX11 (by decide) mf_X11_37 dX11_trunk_30 ?_
          obtain ⟨zt12, qzt12, hf⟩ := gb_el hf
          refine gx_getR X hw qzt12 clX9 (by decide) mf_X11_173 dX11_trunk_33 ?_
          refine lv_iload_n hx hb dX11_trunk_36 rfl (lv_at hl 1 rfl) ?_
          refine lv_iload_n hx hb dX11_trunk_37 rfl (lv_at hl 2 rfl) ?_
          refine lv_iload_n hx hb dX11_trunk_38 rfl (lv_at hl 3 rfl) ?_
          refine W.eq (g2 := F0 m 39 ls [.int za3, .int za2, .int za1, .ref (gB E + zt12)]) rfl ?_
          obtain ⟨qizh13, hf⟩ := gg_el hf
          obtain ⟨zt14, zh13, qzh13, hf⟩ := gc_el hf
          refine gx_ki (gx_runV (As := [.int za1, .int za2, .int za3]) (rest := []) X hw (c_X0_occupantsWithin l E N zt12 za1 za2 za3 zh7 qzh13) kX0_occupantsWithin mm_X11_203 qizh13 clX0 ⟨Nat.le_of_ble_eq_true rfl, Nat.le_of_ble_eq_true rfl⟩ rfl rfl rfl hl.1 (Nat.le_of_ble_eq_true rfl) rfl dX11_trunk_39 ⟨Nat.le_of_ble_eq_true rfl, Nat.le_of_ble_eq_true rfl⟩) hw (fun H locs hw => ?_)
          exact gx_iret X hr hlk hw hf dX11_trunk_42
        · have hf := gif_f hf qc10
          exact J_27  _ _ _ ls hf hw (lv_sub hl [] rfl)
abbrev rm_X11_sight : Room := { frames := 1, cells := 0, slots := 0, locals := 24 }
set_option maxHeartbeats 4000000 in
set_option maxRecDepth 100000 in
theorem c_X11_sight (l : Launch) (E : gE) (N : Nat) (za0 : Nat) (za1 : Int32) (za2 : Int32) (za3 : Int32) (zh : PH) {h9 : PH} {r9 : Int32} (hf : f_X11_sight N za0 za1 za2 za3 zh = some (r9, h9)) : Met l yX11_sight (gWS yX11_sight cX11_sight 4 (some .int)) rm_X11_sight (gPc E [.ref (gB E + za0), .int za1, .int za2, .int za3] zh) (gQi E r9 h9) 0 0 (gA E) := by
  refine gx_met (by decide) ?_ rfl
  intro p e s m below meth c X hr hlk hin2 hw
  have hx := X.1.1
  have hb := X.1.2.1
  have hl := lv_entry [.ref (gB E + za0), .int za1, .int za2, .int za3] (n := 4) (Nat.le_of_ble_eq_true rfl)
  rw [lg_entry_eq]
  generalize (lg_sl [.ref (gB E + za0), .int za1, .int za2, .int za3] ++ List.replicate (4 - (lg_sl [.ref (gB E + za0), .int za1, .int za2, .int za3]).length) Slot.unset).toArray = ls at hl ⊢
  have hl : lv_has ls 4 [(0, .ref (gB E + za0)), (1, .int za1), (2, .int za2), (3, .int za3)] := hl
  have J_55 : ∀ (zs0 : Int32) (zh : PH) (H : Heap) (locs : List Loc) (ls : Array Slot), f_X11_sight_55 N zs0 zh = some (r9, h9) → gw E s zh H locs → lv_has ls 4 [] → W p l e rm_X11_sight s m [.ref (gB E + za0), .int za1, .int za2, .int za3].toArray below meth c H locs 0 0 (MQ below (gQi E r9 h9) [.ref (gB E + za0), .int za1, .int za2, .int za3].toArray s 0 0 (gA E)) (F0 m 55 ls [.int zs0]) := by
    intro zs0 zh H locs ls hf hw hl
    unfold f_X11_sight_55 at hf
    exact gx_iret X hr hlk hw hf dX11_sight_55
  have J_23 : ∀ (zh : PH) (H : Heap) (locs : List Loc) (ls : Array Slot), f_X11_sight_23 N zh = some (r9, h9) → gw E s zh H locs → lv_has ls 4 [] → W p l e rm_X11_sight s m [.ref (gB E + za0), .int za1, .int za2, .int za3].toArray below meth c H locs 0 0 (MQ below (gQi E r9 h9) [.ref (gB E + za0), .int za1, .int za2, .int za3].toArray s 0 0 (gA E)) (F0 m 23 ls []) := by
    intro zh H locs ls hf hw hl
    unfold f_X11_sight_23 at hf
    refine lv_iconst (v := (-1)) hx hb dX11_sight_23 (by decide) ?_
    exact gx_iret X hr hlk hw hf dX11_sight_24
  unfold f_X11_sight at hf
  refine lv_aload_n hx hb dX11_sight_0 rfl (lv_at hl 0 rfl) ?_
  refine lv_iload_n hx hb dX11_sight_1 rfl (lv_at hl 1 rfl) ?_
  obtain ⟨qizh1, hf⟩ := gg_el hf
  obtain ⟨zt2, zh1, qzh1, hf⟩ := gc_el hf
  refine gx_ki (gx_runV (As := [.int za1]) (rest := []) X hw (c_X11_isGuest l E N za0 za1 zh qzh1) kX11_isGuest mm_X11_118 qizh1 clX11 ⟨Nat.le_of_ble_eq_true rfl, Nat.le_of_ble_eq_true rfl⟩ rfl rfl rfl hl.1 (Nat.le_of_ble_eq_true rfl) rfl dX11_sight_2 ⟨Nat.le_of_ble_eq_true rfl, Nat.le_of_ble_eq_true rfl⟩) hw (fun H locs hw => ?_)
  refine lv_if_eq (tgt := 23) hx hb dX11_sight_5 (by decide) (fun qc3 => ?_) (fun qc3 => ?_)
  · have hf := gif_t hf qc3
    exact J_23  _ _ _ ls hf hw (lv_sub hl [] rfl)
  · have hf := gif_f hf qc3
    refine lv_aload_n hx hb dX11_sight_8 rfl (lv_at hl 0 rfl) ?_
    refine lv_iload_n hx hb dX11_sight_9 rfl (lv_at hl 2 rfl) ?_
    obtain ⟨qizh4, hf⟩ := gg_el hf
    obtain ⟨zt5, zh4, qzh4, hf⟩ := gc_el hf
    refine gx_ki (gx_runV (As := [.int za2]) (rest := []) X hw (c_X11_isRoom l E N za0 za2 zh1 qzh4) kX11_isRoom mm_X11_102 qizh4 clX11 ⟨Nat.le_of_ble_eq_true rfl, Nat.le_of_ble_eq_true rfl⟩ rfl rfl rfl hl.1 (Nat.le_of_ble_eq_true rfl) rfl dX11_sight_10 ⟨Nat.le_of_ble_eq_true rfl, Nat.le_of_ble_eq_true rfl⟩) hw (fun H locs hw => ?_)
    refine lv_if_eq (tgt := 23) hx hb dX11_sight_13 (by decide) (fun qc6 => ?_) (fun qc6 => ?_)
    · have hf := gif_t hf qc6
      exact J_23  _ _ _ ls hf hw (lv_sub hl [] rfl)
    · have hf := gif_f hf qc6
      refine lv_iload_n hx hb dX11_sight_16 rfl (lv_at hl 3 rfl) ?_
      refine W.eq (g2 := F0 m 17 ls [.int za3]) rfl ?_
      obtain ⟨zt8, zh7, qzh7, hf⟩ := gc_el hf
      refine gx_ki (gx_runS (As := [.int za3]) (rest := []) X hw (c_X11_isToldMinute l E N za3 zh4 qzh7) kX11_isToldMinute mm_X11_207 ⟨Nat.le_of_ble_eq_true rfl, Nat.le_of_ble_eq_true rfl⟩ rfl rfl rfl hl.1 (Nat.le_of_ble_eq_true rfl) rfl dX11_sight_17 ⟨Nat.le_of_ble_eq_true rfl, Nat.le_of_ble_eq_true rfl⟩) hw (fun H locs hw => ?_)
      refine lv_if_ne (tgt := 25) hx hb dX11_sight_20 (by decide) (fun qc9 => ?_) (fun qc9 => ?_)
      · have hf := gif_f hf qc9
        refine lv_aload_n hx hb dX11_sight_25 rfl (lv_at hl 0 rfl) ?_
        obtain ⟨zt10, qzt10, hf⟩ := gb_el hf
        refine gx_getR X hw qzt10 clX11 (by decide) mf_X11_37 dX11_sight_26 ?_
        obtain ⟨zt11, qzt11, hf⟩ := gb_el hf
        refine gx_getR X hw qzt11 clX9 (by decide) mf_X11_210 dX11_sight_29 ?_
        refine lv_iload_n hx hb dX11_sight_32 rfl (lv_at hl 1 rfl) ?_
        refine lv_iload_n hx hb dX11_sight_33 rfl (lv_at hl 2 rfl) ?_
        refine lv_iload_n hx hb dX11_sight_34 rfl (lv_at hl 3 rfl) ?_
        obtain ⟨qizh12, hf⟩ := gg_el hf
        obtain ⟨zt13, zh12, qzh12, hf⟩ := gc_el hf
        refine gx_ki (gx_runV (As := [.int za1, .int za2, .int za3]) (rest := []) X hw (c_X8_add l E N zt11 za1 za2 za3 zh7 qzh12) kX8_add mm_X11_214 qizh12 clX8 ⟨Nat.le_of_ble_eq_true rfl, Nat.le_of_ble_eq_true rfl⟩ rfl rfl rfl hl.1 (Nat.le_of_ble_eq_true rfl) rfl dX11_sight_35 ⟨Nat.le_of_ble_eq_true rfl, Nat.le_of_ble_eq_true rfl⟩) hw (fun H locs hw => ?_)
        refine lv_if_eq (tgt := 54) hx hb dX11_sight_38 (by decide) (fun qc14 => ?_) (fun qc14 => ?_)
        · have hf := gif_t hf qc14
          refine W.eq (g2 := F0 m 54 ls []) rfl ?_
          refine lv_iconst (v := (-1)) hx hb dX11_sight_54 (by decide) ?_
          exact J_55 (-1) _ _ _ ls hf hw (lv_sub hl [] rfl)
        · have hf := gif_f hf qc14
          refine W.eq (g2 := F0 m 41 ls []) rfl ?_
          refine lv_aload_n hx hb dX11_sight_41 rfl (lv_at hl 0 rfl) ?_
          obtain ⟨zt15, qzt15, hf⟩ := gb_el hf
          refine gx_getR X hw qzt15 clX11 (by decide) mf_X11_37 dX11_sight_42 ?_
          obtain ⟨zt16, qzt16, hf⟩ := gb_el hf
          refine gx_getR X hw qzt16 clX9 (by decide) mf_X11_210 dX11_sight_45 ?_
          obtain ⟨zt17, qzt17, hf⟩ := gb_el hf
          refine gx_getI X hw qzt17 clX8 (by decide) mf_X11_220 dX11_sight_48 ?_
          refine lv_goto (tgt := 55) hx hb dX11_sight_51 (by decide) ?_
          exact J_55 zt17 _ _ _ ls hf hw (lv_sub hl [] rfl)
      · have hf := gif_t hf qc9
        exact J_23  _ _ _ ls hf hw (lv_sub hl [] rfl)
abbrev rm_X11_could : Room := { frames := 5, cells := 0, slots := 0, locals := 114 }
set_option maxHeartbeats 4000000 in
set_option maxRecDepth 100000 in
theorem c_X11_could (l : Launch) (E : gE) (N : Nat) (za0 : Nat) (za1 : Int32) (za2 : Int32) (zh : PH) {h9 : PH} {r9 : Int32} (hf : f_X11_could N za0 za1 za2 zh = some (r9, h9)) : Met l yX11_could (gWS yX11_could cX11_could 3 (some .int)) rm_X11_could (gPc E [.ref (gB E + za0), .int za1, .int za2] zh) (gQi E r9 h9) 0 0 (gA E) := by
  refine gx_met (by decide) ?_ rfl
  intro p e s m below meth c X hr hlk hin2 hw
  have hx := X.1.1
  have hb := X.1.2.1
  have hl := lv_entry [.ref (gB E + za0), .int za1, .int za2] (n := 3) (Nat.le_of_ble_eq_true rfl)
  rw [lg_entry_eq]
  generalize (lg_sl [.ref (gB E + za0), .int za1, .int za2] ++ List.replicate (3 - (lg_sl [.ref (gB E + za0), .int za1, .int za2]).length) Slot.unset).toArray = ls at hl ⊢
  have hl : lv_has ls 3 [(0, .ref (gB E + za0)), (1, .int za1), (2, .int za2)] := hl
  have J_15 : ∀ (zh : PH) (H : Heap) (locs : List Loc) (ls : Array Slot), f_X11_could_15 N zh = some (r9, h9) → gw E s zh H locs → lv_has ls 3 [] → W p l e rm_X11_could s m [.ref (gB E + za0), .int za1, .int za2].toArray below meth c H locs 0 0 (MQ below (gQi E r9 h9) [.ref (gB E + za0), .int za1, .int za2].toArray s 0 0 (gA E)) (F0 m 15 ls []) := by
    intro zh H locs ls hf hw hl
    unfold f_X11_could_15 at hf
    refine lv_iconst (v := (-1)) hx hb dX11_could_15 (by decide) ?_
    exact gx_iret X hr hlk hw hf dX11_could_16
  unfold f_X11_could at hf
  refine lv_aload_n hx hb dX11_could_0 rfl (lv_at hl 0 rfl) ?_
  refine lv_iload_n hx hb dX11_could_1 rfl (lv_at hl 1 rfl) ?_
  obtain ⟨qizh1, hf⟩ := gg_el hf
  obtain ⟨zt2, zh1, qzh1, hf⟩ := gc_el hf
  refine gx_ki (gx_runV (As := [.int za1]) (rest := []) X hw (c_X11_isRoom l E N za0 za1 zh qzh1) kX11_isRoom mm_X11_102 qizh1 clX11 ⟨Nat.le_of_ble_eq_true rfl, Nat.le_of_ble_eq_true rfl⟩ rfl rfl rfl hl.1 (Nat.le_of_ble_eq_true rfl) rfl dX11_could_2 ⟨Nat.le_of_ble_eq_true rfl, Nat.le_of_ble_eq_true rfl⟩) hw (fun H locs hw => ?_)
  refine lv_if_eq (tgt := 15) hx hb dX11_could_5 (by decide) (fun qc3 => ?_) (fun qc3 => ?_)
  · have hf := gif_t hf qc3
    exact J_15  _ _ _ ls hf hw (lv_sub hl [] rfl)
  · have hf := gif_f hf qc3
    refine lv_iload_n hx hb dX11_could_8 rfl (lv_at hl 2 rfl) ?_
    obtain ⟨zt5, zh4, qzh4, hf⟩ := gc_el hf
    refine gx_ki (gx_runS (As := [.int za2]) (rest := []) X hw (c_X11_isToldMinute l E N za2 zh1 qzh4) kX11_isToldMinute mm_X11_207 ⟨Nat.le_of_ble_eq_true rfl, Nat.le_of_ble_eq_true rfl⟩ rfl rfl rfl hl.1 (Nat.le_of_ble_eq_true rfl) rfl dX11_could_9 ⟨Nat.le_of_ble_eq_true rfl, Nat.le_of_ble_eq_true rfl⟩) hw (fun H locs hw => ?_)
    refine lv_if_ne (tgt := 17) hx hb dX11_could_12 (by decide) (fun qc6 => ?_) (fun qc6 => ?_)
    · have hf := gif_f hf qc6
      refine lv_aload_n hx hb dX11_could_17 rfl (lv_at hl 0 rfl) ?_
      obtain ⟨zt7, qzt7, hf⟩ := gb_el hf
      refine gx_getR X hw qzt7 clX11 (by decide) mf_X11_37 dX11_could_18 ?_
      refine W.eq (g2 := F0 m 21 ls [.ref (gB E + zt7)]) rfl ?_
      obtain ⟨zt8, qzt8, hf⟩ := gb_el hf
      refine gx_getR X hw qzt8 clX9 (by decide) mf_X11_210 dX11_could_21 ?_
      refine lv_aload_n hx hb dX11_could_24 rfl (lv_at hl 0 rfl) ?_
      obtain ⟨zt9, qzt9, hf⟩ := gb_el hf
      refine gx_getR X hw qzt9 clX11 (by decide) mf_X11_69 dX11_could_25 ?_
      refine lv_iload_n hx hb dX11_could_28 rfl (lv_at hl 1 rfl) ?_
      refine lv_iload_n hx hb dX11_could_29 rfl (lv_at hl 2 rfl) ?_
      obtain ⟨qizh10, hf⟩ := gg_el hf
      obtain ⟨zt11, zh10, qzh10, hf⟩ := gc_el hf
      refine gx_ki (gx_runV (As := [.ref (gB E + zt9), .int za1, .int za2]) (rest := []) X hw (c_X8_possibleIn l E N zt8 zt9 za1 za2 zh4 qzh10) kX8_possibleIn mm_X11_223 qizh10 clX8 ⟨Nat.le_of_ble_eq_true rfl, Nat.le_of_ble_eq_true rfl⟩ rfl rfl rfl hl.1 (Nat.le_of_ble_eq_true rfl) rfl dX11_could_30 ⟨Nat.le_of_ble_eq_true rfl, Nat.le_of_ble_eq_true rfl⟩) hw (fun H locs hw => ?_)
      exact gx_iret X hr hlk hw hf dX11_could_33
    · have hf := gif_t hf qc6
      exact J_15  _ _ _ ls hf hw (lv_sub hl [] rfl)
abbrev rm_X11_liars : Room := { frames := 5, cells := 0, slots := 0, locals := 113 }
set_option maxHeartbeats 4000000 in
set_option maxRecDepth 100000 in
theorem c_X11_liars (l : Launch) (E : gE) (N : Nat) (za0 : Nat) (zh : PH) {h9 : PH} {r9 : Int32} (hf : f_X11_liars N za0 zh = some (r9, h9)) : Met l yX11_liars (gWS yX11_liars cX11_liars 1 (some .int)) rm_X11_liars (gPc E [.ref (gB E + za0)] zh) (gQi E r9 h9) 0 0 (gA E) := by
  refine gx_met (by decide) ?_ rfl
  intro p e s m below meth c X hr hlk hin2 hw
  have hx := X.1.1
  have hb := X.1.2.1
  have hl := lv_entry [.ref (gB E + za0)] (n := 1) (Nat.le_of_ble_eq_true rfl)
  rw [lg_entry_eq]
  generalize (lg_sl [.ref (gB E + za0)] ++ List.replicate (1 - (lg_sl [.ref (gB E + za0)]).length) Slot.unset).toArray = ls at hl ⊢
  have hl : lv_has ls 1 [(0, .ref (gB E + za0))] := hl
  unfold f_X11_liars at hf
  refine lv_aload_n hx hb dX11_liars_0 rfl (lv_at hl 0 rfl) ?_
  obtain ⟨zt1, qzt1, hf⟩ := gb_el hf
  refine gx_getR X hw qzt1 clX11 (by decide) mf_X11_37 dX11_liars_1 ?_
  obtain ⟨zt2, qzt2, hf⟩ := gb_el hf
  refine gx_getR X hw qzt2 clX9 (by decide) mf_X11_210 dX11_liars_4 ?_
  refine lv_aload_n hx hb dX11_liars_7 rfl (lv_at hl 0 rfl) ?_
  obtain ⟨zt3, qzt3, hf⟩ := gb_el hf
  refine gx_getR X hw qzt3 clX11 (by decide) mf_X11_69 dX11_liars_8 ?_
  obtain ⟨qizh4, hf⟩ := gg_el hf
  obtain ⟨zt5, zh4, qzh4, hf⟩ := gc_el hf
  refine gx_ki (gx_runV (As := [.ref (gB E + zt3)]) (rest := []) X hw (c_X8_fewestFalse l E N zt2 zt3 zh qzh4) kX8_fewestFalse mm_X11_227 qizh4 clX8 ⟨Nat.le_of_ble_eq_true rfl, Nat.le_of_ble_eq_true rfl⟩ rfl rfl rfl hl.1 (Nat.le_of_ble_eq_true rfl) rfl dX11_liars_11 ⟨Nat.le_of_ble_eq_true rfl, Nat.le_of_ble_eq_true rfl⟩) hw (fun H locs hw => ?_)
  exact gx_iret X hr hlk hw hf dX11_liars_14
abbrev rm_X11_page : Room := { frames := 1, cells := 0, slots := 0, locals := 22 }
set_option maxHeartbeats 4000000 in
set_option maxRecDepth 100000 in
theorem c_X11_page (l : Launch) (E : gE) (N : Nat) (za0 : Nat) (za1 : Int32) (za2 : Int32) (zh : PH) {h9 : PH} {r9 : Int32} (hf : f_X11_page N za0 za1 za2 zh = some (r9, h9)) : Met l yX11_page (gWS yX11_page cX11_page 3 (some .int)) rm_X11_page (gPc E [.ref (gB E + za0), .int za1, .int za2] zh) (gQi E r9 h9) 0 0 (gA E) := by
  refine gx_met (by decide) ?_ rfl
  intro p e s m below meth c X hr hlk hin2 hw
  have hx := X.1.1
  have hb := X.1.2.1
  have hl := lv_entry [.ref (gB E + za0), .int za1, .int za2] (n := 3) (Nat.le_of_ble_eq_true rfl)
  rw [lg_entry_eq]
  generalize (lg_sl [.ref (gB E + za0), .int za1, .int za2] ++ List.replicate (3 - (lg_sl [.ref (gB E + za0), .int za1, .int za2]).length) Slot.unset).toArray = ls at hl ⊢
  have hl : lv_has ls 3 [(0, .ref (gB E + za0)), (1, .int za1), (2, .int za2)] := hl
  have J_25 : ∀ (zh : PH) (H : Heap) (locs : List Loc) (ls : Array Slot), f_X11_page_25 N zh = some (r9, h9) → gw E s zh H locs → lv_has ls 3 [] → W p l e rm_X11_page s m [.ref (gB E + za0), .int za1, .int za2].toArray below meth c H locs 0 0 (MQ below (gQi E r9 h9) [.ref (gB E + za0), .int za1, .int za2].toArray s 0 0 (gA E)) (F0 m 25 ls []) := by
    intro zh H locs ls hf hw hl
    unfold f_X11_page_25 at hf
    refine lv_iconst (v := (-1)) hx hb dX11_page_25 (by decide) ?_
    exact gx_iret X hr hlk hw hf dX11_page_26
  unfold f_X11_page at hf
  refine lv_aload_n hx hb dX11_page_0 rfl (lv_at hl 0 rfl) ?_
  refine lv_iload_n hx hb dX11_page_1 rfl (lv_at hl 1 rfl) ?_
  obtain ⟨qizh1, hf⟩ := gg_el hf
  obtain ⟨zt2, zh1, qzh1, hf⟩ := gc_el hf
  refine gx_ki (gx_runV (As := [.int za1]) (rest := []) X hw (c_X11_isGuest l E N za0 za1 zh qzh1) kX11_isGuest mm_X11_118 qizh1 clX11 ⟨Nat.le_of_ble_eq_true rfl, Nat.le_of_ble_eq_true rfl⟩ rfl rfl rfl hl.1 (Nat.le_of_ble_eq_true rfl) rfl dX11_page_2 ⟨Nat.le_of_ble_eq_true rfl, Nat.le_of_ble_eq_true rfl⟩) hw (fun H locs hw => ?_)
  refine lv_if_eq (tgt := 25) hx hb dX11_page_5 (by decide) (fun qc3 => ?_) (fun qc3 => ?_)
  · have hf := gif_t hf qc3
    exact J_25  _ _ _ ls hf hw (lv_sub hl [] rfl)
  · have hf := gif_f hf qc3
    refine lv_iload_n hx hb dX11_page_8 rfl (lv_at hl 2 rfl) ?_
    refine lv_if_lt (tgt := 25) hx hb dX11_page_9 (by decide) (fun qc4 => ?_) (fun qc4 => ?_)
    · have hf := gif_t hf qc4
      exact J_25  _ _ _ ls hf hw (lv_sub hl [] rfl)
    · have hf := gif_f hf qc4
      refine lv_iload_n hx hb dX11_page_12 rfl (lv_at hl 2 rfl) ?_
      refine lv_iconst (v := 1) hx hb dX11_page_13 (by decide) ?_
      refine lv_aload_n hx hb dX11_page_14 rfl (lv_at hl 0 rfl) ?_
      refine W.eq (g2 := F0 m 15 ls [.ref (gB E + za0), .int 1, .int za2]) rfl ?_
      obtain ⟨zt5, qzt5, hf⟩ := gb_el hf
      refine gx_getR X hw qzt5 clX11 (by decide) mf_X11_69 dX11_page_15 ?_
      obtain ⟨zt6, qzt6, hf⟩ := gb_el hf
      refine gx_getI X hw qzt6 clX2 (by decide) mf_X11_230 dX11_page_18 ?_
      refine lv_ishl hx hb dX11_page_21 ?_
      refine lv_icmp_lt (tgt := 27) hx hb dX11_page_22 (by decide) (fun qc7 => ?_) (fun qc7 => ?_)
      · have hf := gif_t hf qc7
        refine lv_aload_n hx hb dX11_page_27 rfl (lv_at hl 0 rfl) ?_
        obtain ⟨zt8, qzt8, hf⟩ := gb_el hf
        refine gx_getR X hw qzt8 clX11 (by decide) mf_X11_37 dX11_page_28 ?_
        obtain ⟨zt9, qzt9, hf⟩ := gb_el hf
        refine gx_getR X hw qzt9 clX9 (by decide) mf_X11_233 dX11_page_31 ?_
        obtain ⟨zt10, qzt10, hf⟩ := gb_el hf
        refine gx_getR X hw qzt10 clX6 (by decide) mf_X11_237 dX11_page_34 ?_
        refine lv_iload_n hx hb dX11_page_37 rfl (lv_at hl 1 rfl) ?_
        refine lv_iload_n hx hb dX11_page_38 rfl (lv_at hl 2 rfl) ?_
        refine W.eq (g2 := F0 m 39 ls [.int za2, .int za1, .ref (gB E + zt10)]) rfl ?_
        obtain ⟨zh11, qzh11, hf⟩ := gb_el hf
        refine gx_iast X hw qzh11 dX11_page_39 (fun H locs hw => ?_)
        refine lv_aload_n hx hb dX11_page_40 rfl (lv_at hl 0 rfl) ?_
        obtain ⟨zt12, qzt12, hf⟩ := gb_el hf
        refine gx_getR X hw qzt12 clX11 (by decide) mf_X11_37 dX11_page_41 ?_
        obtain ⟨zt13, qzt13, hf⟩ := gb_el hf
        refine gx_getR X hw qzt13 clX9 (by decide) mf_X11_233 dX11_page_44 ?_
        obtain ⟨qizh14, hf⟩ := gg_el hf
        obtain ⟨zt15, zh14, qzh14, hf⟩ := gc_el hf
        refine gx_ki (gx_runV (As := []) (rest := []) X hw (c_X6_pages l E N zt13 zh11 qzh14) kX6_pages mm_X11_242 qizh14 clX6 ⟨Nat.le_of_ble_eq_true rfl, Nat.le_of_ble_eq_true rfl⟩ rfl rfl rfl hl.1 (Nat.le_of_ble_eq_true rfl) rfl dX11_page_47 ⟨Nat.le_of_ble_eq_true rfl, Nat.le_of_ble_eq_true rfl⟩) hw (fun H locs hw => ?_)
        exact gx_iret X hr hlk hw hf dX11_page_50
      · have hf := gif_f hf qc7
        exact J_25  _ _ _ ls hf hw (lv_sub hl [] rfl)
abbrev rm_X11_ways : Room := { frames := 4, cells := 0, slots := 0, locals := 93 }
set_option maxHeartbeats 4000000 in
set_option maxRecDepth 100000 in
theorem c_X11_ways (l : Launch) (E : gE) (N : Nat) (za0 : Nat) (zh : PH) {h9 : PH} {r9 : Int64} (hf : f_X11_ways N za0 zh = some (r9, h9)) : Met l yX11_ways (gWS yX11_ways cX11_ways 1 (some .long)) rm_X11_ways (gPc E [.ref (gB E + za0)] zh) (gQl E r9 h9) 0 0 (gA E) := by
  refine gx_met (by decide) ?_ rfl
  intro p e s m below meth c X hr hlk hin2 hw
  have hx := X.1.1
  have hb := X.1.2.1
  have hl := lv_entry [.ref (gB E + za0)] (n := 1) (Nat.le_of_ble_eq_true rfl)
  rw [lg_entry_eq]
  generalize (lg_sl [.ref (gB E + za0)] ++ List.replicate (1 - (lg_sl [.ref (gB E + za0)]).length) Slot.unset).toArray = ls at hl ⊢
  have hl : lv_has ls 1 [(0, .ref (gB E + za0))] := hl
  unfold f_X11_ways at hf
  refine lv_aload_n hx hb dX11_ways_0 rfl (lv_at hl 0 rfl) ?_
  obtain ⟨zt1, qzt1, hf⟩ := gb_el hf
  refine gx_getR X hw qzt1 clX11 (by decide) mf_X11_37 dX11_ways_1 ?_
  obtain ⟨zt2, qzt2, hf⟩ := gb_el hf
  refine gx_getR X hw qzt2 clX9 (by decide) mf_X11_233 dX11_ways_4 ?_
  refine lv_aload_n hx hb dX11_ways_7 rfl (lv_at hl 0 rfl) ?_
  obtain ⟨zt3, qzt3, hf⟩ := gb_el hf
  refine gx_getR X hw qzt3 clX11 (by decide) mf_X11_63 dX11_ways_8 ?_
  refine lv_aload_n hx hb dX11_ways_11 rfl (lv_at hl 0 rfl) ?_
  obtain ⟨zt4, qzt4, hf⟩ := gb_el hf
  refine gx_getR X hw qzt4 clX11 (by decide) mf_X11_69 dX11_ways_12 ?_
  obtain ⟨zt5, qzt5, hf⟩ := gb_el hf
  refine gx_getI X hw qzt5 clX2 (by decide) mf_X11_230 dX11_ways_15 ?_
  obtain ⟨qizh6, hf⟩ := gg_el hf
  obtain ⟨zt7, zh6, qzh6, hf⟩ := gc_el hf
  refine gx_ki (gx_runV (As := [.ref (gB E + zt3), .int zt5]) (rest := []) X hw (c_X6_waysInAll l E N zt2 zt3 zt5 zh qzh6) kX6_waysInAll mm_X11_245 qizh6 clX6 ⟨Nat.le_of_ble_eq_true rfl, Nat.le_of_ble_eq_true rfl⟩ rfl rfl rfl hl.1 (Nat.le_of_ble_eq_true rfl) rfl dX11_ways_18 ⟨Nat.le_of_ble_eq_true rfl, Nat.le_of_ble_eq_true rfl⟩) hw (fun H locs hw => ?_)
  refine W.eq (g2 := F0 m 21 ls [.int zt7]) rfl ?_
  refine lv_i2l hx hb dX11_ways_21 rfl ?_
  exact gx_lret X hr hlk hw hf dX11_ways_22
abbrev rm_X11_sure : Room := { frames := 4, cells := 0, slots := 0, locals := 97 }
set_option maxHeartbeats 4000000 in
set_option maxRecDepth 100000 in
theorem c_X11_sure (l : Launch) (E : gE) (N : Nat) (za0 : Nat) (za1 : Int32) (zh : PH) {h9 : PH} {r9 : Int32} (hf : f_X11_sure N za0 za1 zh = some (r9, h9)) : Met l yX11_sure (gWS yX11_sure cX11_sure 2 (some .int)) rm_X11_sure (gPc E [.ref (gB E + za0), .int za1] zh) (gQi E r9 h9) 0 0 (gA E) := by
  refine gx_met (by decide) ?_ rfl
  intro p e s m below meth c X hr hlk hin2 hw
  have hx := X.1.1
  have hb := X.1.2.1
  have hl := lv_entry [.ref (gB E + za0), .int za1] (n := 2) (Nat.le_of_ble_eq_true rfl)
  rw [lg_entry_eq]
  generalize (lg_sl [.ref (gB E + za0), .int za1] ++ List.replicate (2 - (lg_sl [.ref (gB E + za0), .int za1]).length) Slot.unset).toArray = ls at hl ⊢
  have hl : lv_has ls 2 [(0, .ref (gB E + za0)), (1, .int za1)] := hl
  have J_34 : ∀ (zs0 : Int32) (zh : PH) (H : Heap) (locs : List Loc) (ls : Array Slot), f_X11_sure_34 N zs0 zh = some (r9, h9) → gw E s zh H locs → lv_has ls 2 [] → W p l e rm_X11_sure s m [.ref (gB E + za0), .int za1].toArray below meth c H locs 0 0 (MQ below (gQi E r9 h9) [.ref (gB E + za0), .int za1].toArray s 0 0 (gA E)) (F0 m 34 ls [.int zs0]) := by
    intro zs0 zh H locs ls hf hw hl
    unfold f_X11_sure_34 at hf
    exact gx_iret X hr hlk hw hf dX11_sure_34
  unfold f_X11_sure at hf
  refine lv_aload_n hx hb dX11_sure_0 rfl (lv_at hl 0 rfl) ?_
  refine lv_iload_n hx hb dX11_sure_1 rfl (lv_at hl 1 rfl) ?_
  obtain ⟨qizh1, hf⟩ := gg_el hf
  obtain ⟨zt2, zh1, qzh1, hf⟩ := gc_el hf
  refine gx_ki (gx_runV (As := [.int za1]) (rest := []) X hw (c_X11_isGuest l E N za0 za1 zh qzh1) kX11_isGuest mm_X11_118 qizh1 clX11 ⟨Nat.le_of_ble_eq_true rfl, Nat.le_of_ble_eq_true rfl⟩ rfl rfl rfl hl.1 (Nat.le_of_ble_eq_true rfl) rfl dX11_sure_2 ⟨Nat.le_of_ble_eq_true rfl, Nat.le_of_ble_eq_true rfl⟩) hw (fun H locs hw => ?_)
  refine lv_if_eq (tgt := 33) hx hb dX11_sure_5 (by decide) (fun qc3 => ?_) (fun qc3 => ?_)
  · have hf := gif_t hf qc3
    refine lv_iconst (v := (-1)) hx hb dX11_sure_33 (by decide) ?_
    exact J_34 (-1) _ _ _ ls hf hw (lv_sub hl [] rfl)
  · have hf := gif_f hf qc3
    refine lv_aload_n hx hb dX11_sure_8 rfl (lv_at hl 0 rfl) ?_
    obtain ⟨zt4, qzt4, hf⟩ := gb_el hf
    refine gx_getR X hw qzt4 clX11 (by decide) mf_X11_37 dX11_sure_9 ?_
    obtain ⟨zt5, qzt5, hf⟩ := gb_el hf
    refine gx_getR X hw qzt5 clX9 (by decide) mf_X11_233 dX11_sure_12 ?_
    refine lv_iload_n hx hb dX11_sure_15 rfl (lv_at hl 1 rfl) ?_
    refine lv_aload_n hx hb dX11_sure_16 rfl (lv_at hl 0 rfl) ?_
    refine W.eq (g2 := F0 m 17 ls [.ref (gB E + za0), .int za1, .ref (gB E + zt5)]) rfl ?_
    obtain ⟨zt6, qzt6, hf⟩ := gb_el hf
    refine gx_getR X hw qzt6 clX11 (by decide) mf_X11_63 dX11_sure_17 ?_
    refine lv_aload_n hx hb dX11_sure_20 rfl (lv_at hl 0 rfl) ?_
    obtain ⟨zt7, qzt7, hf⟩ := gb_el hf
    refine gx_getR X hw qzt7 clX11 (by decide) mf_X11_69 dX11_sure_21 ?_
    obtain ⟨zt8, qzt8, hf⟩ := gb_el hf
    refine gx_getI X hw qzt8 clX2 (by decide) mf_X11_230 dX11_sure_24 ?_
    obtain ⟨qizh9, hf⟩ := gg_el hf
    obtain ⟨zt10, zh9, qzh9, hf⟩ := gc_el hf
    refine gx_ki (gx_runV (As := [.int za1, .ref (gB E + zt6), .int zt8]) (rest := []) X hw (c_X6_onlyRoomOf l E N zt5 za1 zt6 zt8 zh1 qzh9) kX6_onlyRoomOf mm_X11_249 qizh9 clX6 ⟨Nat.le_of_ble_eq_true rfl, Nat.le_of_ble_eq_true rfl⟩ rfl rfl rfl hl.1 (Nat.le_of_ble_eq_true rfl) rfl dX11_sure_27 ⟨Nat.le_of_ble_eq_true rfl, Nat.le_of_ble_eq_true rfl⟩) hw (fun H locs hw => ?_)
    refine lv_goto (tgt := 34) hx hb dX11_sure_30 (by decide) ?_
    exact J_34 zt10 _ _ _ ls hf hw (lv_sub hl [] rfl)
abbrev rm_X11_isJobPart : Room := { frames := 0, cells := 0, slots := 0, locals := 0 }
set_option maxHeartbeats 4000000 in
set_option maxRecDepth 100000 in
theorem c_X11_isJobPart (l : Launch) (E : gE) (N : Nat) (za0 : Int32) (zh : PH) {h9 : PH} {r9 : Int32} (hf : f_X11_isJobPart N za0 zh = some (r9, h9)) : Met l yX11_isJobPart (gWS yX11_isJobPart cX11_isJobPart 1 (some .boolean)) rm_X11_isJobPart (gPc E [.int za0] zh) (gQi E r9 h9) 0 0 (gA E) := by
  refine gx_met (by decide) ?_ rfl
  intro p e s m below meth c X hr hlk hin2 hw
  have hx := X.1.1
  have hb := X.1.2.1
  have hl := lv_entry [.int za0] (n := 1) (Nat.le_of_ble_eq_true rfl)
  rw [lg_entry_eq]
  generalize (lg_sl [.int za0] ++ List.replicate (1 - (lg_sl [.int za0]).length) Slot.unset).toArray = ls at hl ⊢
  have hl : lv_has ls 1 [(0, .int za0)] := hl
  have J_15 : ∀ (zs0 : Int32) (zh : PH) (H : Heap) (locs : List Loc) (ls : Array Slot), f_X11_isJobPart_15 N zs0 zh = some (r9, h9) → gw E s zh H locs → lv_has ls 1 [] → W p l e rm_X11_isJobPart s m [.int za0].toArray below meth c H locs 0 0 (MQ below (gQi E r9 h9) [.int za0].toArray s 0 0 (gA E)) (F0 m 15 ls [.int zs0]) := by
    intro zs0 zh H locs ls hf hw hl
    unfold f_X11_isJobPart_15 at hf
    exact gx_zret X hr hlk hw hf dX11_isJobPart_15
  have J_14 : ∀ (zh : PH) (H : Heap) (locs : List Loc) (ls : Array Slot), f_X11_isJobPart_14 N zh = some (r9, h9) → gw E s zh H locs → lv_has ls 1 [] → W p l e rm_X11_isJobPart s m [.int za0].toArray below meth c H locs 0 0 (MQ below (gQi E r9 h9) [.int za0].toArray s 0 0 (gA E)) (F0 m 14 ls []) := by
    intro zh H locs ls hf hw hl
    unfold f_X11_isJobPart_14 at hf
    refine lv_iconst (v := 0) hx hb dX11_isJobPart_14 (by decide) ?_
    exact J_15 0 _ _ _ ls hf hw (lv_sub hl [] rfl)
  unfold f_X11_isJobPart at hf
  refine lv_iload_n hx hb dX11_isJobPart_0 rfl (lv_at hl 0 rfl) ?_
  refine lv_if_lt (tgt := 14) hx hb dX11_isJobPart_1 (by decide) (fun qc1 => ?_) (fun qc1 => ?_)
  · have hf := gif_t hf qc1
    exact J_14  _ _ _ ls hf hw (lv_sub hl [] rfl)
  · have hf := gif_f hf qc1
    refine lv_iload_n hx hb dX11_isJobPart_4 rfl (lv_at hl 0 rfl) ?_
    refine lv_bipush (v := 99) hx hb dX11_isJobPart_5 (by decide) ?_
    refine lv_icmp_gt (tgt := 14) hx hb dX11_isJobPart_7 (by decide) (fun qc2 => ?_) (fun qc2 => ?_)
    · have hf := gif_t hf qc2
      exact J_14  _ _ _ ls hf hw (lv_sub hl [] rfl)
    · have hf := gif_f hf qc2
      refine lv_iconst (v := 1) hx hb dX11_isJobPart_10 (by decide) ?_
      refine lv_goto (tgt := 15) hx hb dX11_isJobPart_11 (by decide) ?_
      exact J_15 1 _ _ _ ls hf hw (lv_sub hl [] rfl)
abbrev rm_X11_job : Room := { frames := 1, cells := 0, slots := 0, locals := 23 }
set_option maxHeartbeats 4000000 in
set_option maxRecDepth 100000 in
theorem c_X11_job (l : Launch) (E : gE) (N : Nat) (za0 : Nat) (za1 : Int32) (za2 : Int32) (za3 : Int32) (zh : PH) {h9 : PH} {r9 : Int32} (hf : f_X11_job N za0 za1 za2 za3 zh = some (r9, h9)) : Met l yX11_job (gWS yX11_job cX11_job 4 (some .int)) rm_X11_job (gPc E [.ref (gB E + za0), .int za1, .int za2, .int za3] zh) (gQi E r9 h9) 0 0 (gA E) := by
  refine gx_met (by decide) ?_ rfl
  intro p e s m below meth c X hr hlk hin2 hw
  have hx := X.1.1
  have hb := X.1.2.1
  have hl := lv_entry [.ref (gB E + za0), .int za1, .int za2, .int za3] (n := 4) (Nat.le_of_ble_eq_true rfl)
  rw [lg_entry_eq]
  generalize (lg_sl [.ref (gB E + za0), .int za1, .int za2, .int za3] ++ List.replicate (4 - (lg_sl [.ref (gB E + za0), .int za1, .int za2, .int za3]).length) Slot.unset).toArray = ls at hl ⊢
  have hl : lv_has ls 4 [(0, .ref (gB E + za0)), (1, .int za1), (2, .int za2), (3, .int za3)] := hl
  have J_57 : ∀ (zs0 : Int32) (zh : PH) (H : Heap) (locs : List Loc) (ls : Array Slot), f_X11_job_57 N zs0 zh = some (r9, h9) → gw E s zh H locs → lv_has ls 4 [] → W p l e rm_X11_job s m [.ref (gB E + za0), .int za1, .int za2, .int za3].toArray below meth c H locs 0 0 (MQ below (gQi E r9 h9) [.ref (gB E + za0), .int za1, .int za2, .int za3].toArray s 0 0 (gA E)) (F0 m 57 ls [.int zs0]) := by
    intro zs0 zh H locs ls hf hw hl
    unfold f_X11_job_57 at hf
    exact gx_iret X hr hlk hw hf dX11_job_57
  have J_25 : ∀ (zh : PH) (H : Heap) (locs : List Loc) (ls : Array Slot), f_X11_job_25 N zh = some (r9, h9) → gw E s zh H locs → lv_has ls 4 [] → W p l e rm_X11_job s m [.ref (gB E + za0), .int za1, .int za2, .int za3].toArray below meth c H locs 0 0 (MQ below (gQi E r9 h9) [.ref (gB E + za0), .int za1, .int za2, .int za3].toArray s 0 0 (gA E)) (F0 m 25 ls []) := by
    intro zh H locs ls hf hw hl
    unfold f_X11_job_25 at hf
    refine lv_iconst (v := (-1)) hx hb dX11_job_25 (by decide) ?_
    exact gx_iret X hr hlk hw hf dX11_job_26
  unfold f_X11_job at hf
  refine lv_iload_n hx hb dX11_job_0 rfl (lv_at hl 1 rfl) ?_
  obtain ⟨zt2, zh1, qzh1, hf⟩ := gc_el hf
  refine gx_ki (gx_runS (As := [.int za1]) (rest := []) X hw (c_X11_isJobPart l E N za1 zh qzh1) kX11_isJobPart mm_X11_253 ⟨Nat.le_of_ble_eq_true rfl, Nat.le_of_ble_eq_true rfl⟩ rfl rfl rfl hl.1 (Nat.le_of_ble_eq_true rfl) rfl dX11_job_1 ⟨Nat.le_of_ble_eq_true rfl, Nat.le_of_ble_eq_true rfl⟩) hw (fun H locs hw => ?_)
  refine lv_if_eq (tgt := 25) hx hb dX11_job_4 (by decide) (fun qc3 => ?_) (fun qc3 => ?_)
  · have hf := gif_t hf qc3
    exact J_25  _ _ _ ls hf hw (lv_sub hl [] rfl)
  · have hf := gif_f hf qc3
    refine lv_iload_n hx hb dX11_job_7 rfl (lv_at hl 2 rfl) ?_
    obtain ⟨zt5, zh4, qzh4, hf⟩ := gc_el hf
    refine gx_ki (gx_runS (As := [.int za2]) (rest := []) X hw (c_X11_isJobPart l E N za2 zh1 qzh4) kX11_isJobPart mm_X11_253 ⟨Nat.le_of_ble_eq_true rfl, Nat.le_of_ble_eq_true rfl⟩ rfl rfl rfl hl.1 (Nat.le_of_ble_eq_true rfl) rfl dX11_job_8 ⟨Nat.le_of_ble_eq_true rfl, Nat.le_of_ble_eq_true rfl⟩) hw (fun H locs hw => ?_)
    refine lv_if_eq (tgt := 25) hx hb dX11_job_11 (by decide) (fun qc6 => ?_) (fun qc6 => ?_)
    · have hf := gif_t hf qc6
      exact J_25  _ _ _ ls hf hw (lv_sub hl [] rfl)
    · have hf := gif_f hf qc6
      refine lv_iload_n hx hb dX11_job_14 rfl (lv_at hl 2 rfl) ?_
      refine lv_if_eq (tgt := 25) hx hb dX11_job_15 (by decide) (fun qc7 => ?_) (fun qc7 => ?_)
      · have hf := gif_t hf qc7
        exact J_25  _ _ _ ls hf hw (lv_sub hl [] rfl)
      · have hf := gif_f hf qc7
        refine lv_iload_n hx hb dX11_job_18 rfl (lv_at hl 3 rfl) ?_
        refine W.eq (g2 := F0 m 19 ls [.int za3]) rfl ?_
        obtain ⟨zt9, zh8, qzh8, hf⟩ := gc_el hf
        refine gx_ki (gx_runS (As := [.int za3]) (rest := []) X hw (c_X11_isJobPart l E N za3 zh4 qzh8) kX11_isJobPart mm_X11_253 ⟨Nat.le_of_ble_eq_true rfl, Nat.le_of_ble_eq_true rfl⟩ rfl rfl rfl hl.1 (Nat.le_of_ble_eq_true rfl) rfl dX11_job_19 ⟨Nat.le_of_ble_eq_true rfl, Nat.le_of_ble_eq_true rfl⟩) hw (fun H locs hw => ?_)
        refine lv_if_ne (tgt := 27) hx hb dX11_job_22 (by decide) (fun qc10 => ?_) (fun qc10 => ?_)
        · have hf := gif_f hf qc10
          refine lv_aload_n hx hb dX11_job_27 rfl (lv_at hl 0 rfl) ?_
          obtain ⟨zt11, qzt11, hf⟩ := gb_el hf
          refine gx_getR X hw qzt11 clX11 (by decide) mf_X11_37 dX11_job_28 ?_
          obtain ⟨zt12, qzt12, hf⟩ := gb_el hf
          refine gx_getR X hw qzt12 clX9 (by decide) mf_X11_256 dX11_job_31 ?_
          refine lv_iload_n hx hb dX11_job_34 rfl (lv_at hl 1 rfl) ?_
          refine lv_iload_n hx hb dX11_job_35 rfl (lv_at hl 2 rfl) ?_
          refine lv_iload_n hx hb dX11_job_36 rfl (lv_at hl 3 rfl) ?_
          obtain ⟨qizh13, hf⟩ := gg_el hf
          obtain ⟨zt14, zh13, qzh13, hf⟩ := gc_el hf
          refine gx_ki (gx_runV (As := [.int za1, .int za2, .int za3]) (rest := []) X hw (c_X4_add l E N zt12 za1 za2 za3 zh8 qzh13) kX4_add mm_X11_260 qizh13 clX4 ⟨Nat.le_of_ble_eq_true rfl, Nat.le_of_ble_eq_true rfl⟩ rfl rfl rfl hl.1 (Nat.le_of_ble_eq_true rfl) rfl dX11_job_37 ⟨Nat.le_of_ble_eq_true rfl, Nat.le_of_ble_eq_true rfl⟩) hw (fun H locs hw => ?_)
          refine lv_if_eq (tgt := 56) hx hb dX11_job_40 (by decide) (fun qc15 => ?_) (fun qc15 => ?_)
          · have hf := gif_t hf qc15
            refine W.eq (g2 := F0 m 56 ls []) rfl ?_
            refine lv_iconst (v := (-1)) hx hb dX11_job_56 (by decide) ?_
            exact J_57 (-1) _ _ _ ls hf hw (lv_sub hl [] rfl)
          · have hf := gif_f hf qc15
            refine W.eq (g2 := F0 m 43 ls []) rfl ?_
            refine lv_aload_n hx hb dX11_job_43 rfl (lv_at hl 0 rfl) ?_
            obtain ⟨zt16, qzt16, hf⟩ := gb_el hf
            refine gx_getR X hw qzt16 clX11 (by decide) mf_X11_37 dX11_job_44 ?_
            obtain ⟨zt17, qzt17, hf⟩ := gb_el hf
            refine gx_getR X hw qzt17 clX9 (by decide) mf_X11_256 dX11_job_47 ?_
            obtain ⟨zt18, qzt18, hf⟩ := gb_el hf
            refine gx_getI X hw qzt18 clX4 (by decide) mf_X11_263 dX11_job_50 ?_
            refine lv_goto (tgt := 57) hx hb dX11_job_53 (by decide) ?_
            exact J_57 zt18 _ _ _ ls hf hw (lv_sub hl [] rfl)
        · have hf := gif_t hf qc10
          exact J_25  _ _ _ ls hf hw (lv_sub hl [] rfl)
abbrev rm_X11_porters : Room := { frames := 5, cells := 0, slots := 0, locals := 117 }
set_option maxHeartbeats 4000000 in
set_option maxRecDepth 100000 in
theorem c_X11_porters (l : Launch) (E : gE) (N : Nat) (za0 : Nat) (za1 : Int32) (zh : PH) {h9 : PH} {r9 : Int32} (hf : f_X11_porters N za0 za1 zh = some (r9, h9)) : Met l yX11_porters (gWS yX11_porters cX11_porters 2 (some .int)) rm_X11_porters (gPc E [.ref (gB E + za0), .int za1] zh) (gQi E r9 h9) 0 0 (gA E) := by
  refine gx_met (by decide) ?_ rfl
  intro p e s m below meth c X hr hlk hin2 hw
  have hx := X.1.1
  have hb := X.1.2.1
  have hl := lv_entry [.ref (gB E + za0), .int za1] (n := 2) (Nat.le_of_ble_eq_true rfl)
  rw [lg_entry_eq]
  generalize (lg_sl [.ref (gB E + za0), .int za1] ++ List.replicate (2 - (lg_sl [.ref (gB E + za0), .int za1]).length) Slot.unset).toArray = ls at hl ⊢
  have hl : lv_has ls 2 [(0, .ref (gB E + za0)), (1, .int za1)] := hl
  have J_33 : ∀ (zh : PH) (H : Heap) (locs : List Loc) (ls : Array Slot), f_X11_porters_33 N zh = some (r9, h9) → gw E s zh H locs → lv_has ls 2 [] → W p l e rm_X11_porters s m [.ref (gB E + za0), .int za1].toArray below meth c H locs 0 0 (MQ below (gQi E r9 h9) [.ref (gB E + za0), .int za1].toArray s 0 0 (gA E)) (F0 m 33 ls []) := by
    intro zh H locs ls hf hw hl
    unfold f_X11_porters_33 at hf
    refine lv_iconst (v := (-1)) hx hb dX11_porters_33 (by decide) ?_
    exact gx_iret X hr hlk hw hf dX11_porters_34
  unfold f_X11_porters at hf
  refine lv_aload_n hx hb dX11_porters_0 rfl (lv_at hl 0 rfl) ?_
  obtain ⟨zt1, qzt1, hf⟩ := gb_el hf
  refine gx_getR X hw qzt1 clX11 (by decide) mf_X11_37 dX11_porters_1 ?_
  obtain ⟨zt2, qzt2, hf⟩ := gb_el hf
  refine gx_getR X hw qzt2 clX9 (by decide) mf_X11_256 dX11_porters_4 ?_
  obtain ⟨zt3, qzt3, hf⟩ := gb_el hf
  refine gx_getI X hw qzt3 clX4 (by decide) mf_X11_263 dX11_porters_7 ?_
  refine lv_if_eq (tgt := 33) hx hb dX11_porters_10 (by decide) (fun qc4 => ?_) (fun qc4 => ?_)
  · have hf := gif_t hf qc4
    exact J_33  _ _ _ ls hf hw (lv_sub hl [] rfl)
  · have hf := gif_f hf qc4
    refine lv_iload_n hx hb dX11_porters_13 rfl (lv_at hl 1 rfl) ?_
    refine lv_if_lt (tgt := 33) hx hb dX11_porters_14 (by decide) (fun qc5 => ?_) (fun qc5 => ?_)
    · have hf := gif_t hf qc5
      exact J_33  _ _ _ ls hf hw (lv_sub hl [] rfl)
    · have hf := gif_f hf qc5
      refine lv_iload_n hx hb dX11_porters_17 rfl (lv_at hl 1 rfl) ?_
      refine lv_iconst (v := 3) hx hb dX11_porters_18 (by decide) ?_
      refine W.eq (g2 := F0 m 19 ls [.int 3, .int za1]) rfl ?_
      refine lv_aload_n hx hb dX11_porters_19 rfl (lv_at hl 0 rfl) ?_
      obtain ⟨zt6, qzt6, hf⟩ := gb_el hf
      refine gx_getR X hw qzt6 clX11 (by decide) mf_X11_37 dX11_porters_20 ?_
      obtain ⟨zt7, qzt7, hf⟩ := gb_el hf
      refine gx_getR X hw qzt7 clX9 (by decide) mf_X11_256 dX11_porters_23 ?_
      obtain ⟨zt8, qzt8, hf⟩ := gb_el hf
      refine gx_getI X hw qzt8 clX4 (by decide) mf_X11_263 dX11_porters_26 ?_
      refine lv_iadd hx hb dX11_porters_29 ?_
      refine lv_icmp_lt (tgt := 35) hx hb dX11_porters_30 (by decide) (fun qc9 => ?_) (fun qc9 => ?_)
      · have hf := gif_t hf qc9
        refine lv_aload_n hx hb dX11_porters_35 rfl (lv_at hl 0 rfl) ?_
        obtain ⟨zt10, qzt10, hf⟩ := gb_el hf
        refine gx_getR X hw qzt10 clX11 (by decide) mf_X11_48 dX11_porters_36 ?_
        refine lv_aload_n hx hb dX11_porters_39 rfl (lv_at hl 0 rfl) ?_
        obtain ⟨zt11, qzt11, hf⟩ := gb_el hf
        refine gx_getR X hw qzt11 clX11 (by decide) mf_X11_37 dX11_porters_40 ?_
        refine W.eq (g2 := F0 m 43 ls [.ref (gB E + zt11), .ref (gB E + zt10)]) rfl ?_
        obtain ⟨zt12, qzt12, hf⟩ := gb_el hf
        refine gx_getR X hw qzt12 clX9 (by decide) mf_X11_256 dX11_porters_43 ?_
        obtain ⟨qizh13, hf⟩ := gg_el hf
        obtain ⟨zh13, qzh13, hf⟩ := gb_el hf
        refine gx_kv (gx_runV (As := [.ref (gB E + zt12)]) (rest := []) X hw (c_X5_make l E N zt10 zt12 zh qzh13) kX5_make mm_X11_264 qizh13 clX5 ⟨Nat.le_of_ble_eq_true rfl, Nat.le_of_ble_eq_true rfl⟩ rfl rfl rfl hl.1 (Nat.le_of_ble_eq_true rfl) rfl dX11_porters_46 ⟨Nat.le_of_ble_eq_true rfl, Nat.le_of_ble_eq_true rfl⟩) hw (fun H locs hw => ?_)
        refine lv_iload_n hx hb dX11_porters_49 rfl (lv_at hl 1 rfl) ?_
        by_cases qc14 : (za1 : Int32) = 0
        · have hf := gif_t hf qc14
          refine lv_tableIn (off := 26) (tgt := 76) hx hb dX11_porters_50 (by rw [qc14]; decide) (by rw [qc14]; decide) (by rw [qc14]; rfl) (by decide) ?_
          refine lv_aload_n hx hb dX11_porters_76 rfl (lv_at hl 0 rfl) ?_
          obtain ⟨zt15, qzt15, hf⟩ := gb_el hf
          refine gx_getR X hw qzt15 clX11 (by decide) mf_X11_48 dX11_porters_77 ?_
          obtain ⟨zt16, qzt16, hf⟩ := gb_el hf
          refine gx_getI X hw qzt16 clX5 (by decide) mf_X11_268 dX11_porters_80 ?_
          exact gx_iret X hr hlk hw hf dX11_porters_83
        have hf := gif_f hf qc14
        by_cases qc17 : (za1 : Int32) = 1
        · have hf := gif_t hf qc17
          refine lv_tableIn (off := 34) (tgt := 84) hx hb dX11_porters_50 (by rw [qc17]; decide) (by rw [qc17]; decide) (by rw [qc17]; rfl) (by decide) ?_
          refine lv_aload_n hx hb dX11_porters_84 rfl (lv_at hl 0 rfl) ?_
          obtain ⟨zt18, qzt18, hf⟩ := gb_el hf
          refine gx_getR X hw qzt18 clX11 (by decide) mf_X11_48 dX11_porters_85 ?_
          obtain ⟨qizh19, hf⟩ := gg_el hf
          obtain ⟨zt20, zh19, qzh19, hf⟩ := gc_el hf
          refine gx_ki (gx_runV (As := []) (rest := []) X hw (c_X5_waits l E N zt18 zh13 qzh19) kX5_waits mm_X11_271 qizh19 clX5 ⟨Nat.le_of_ble_eq_true rfl, Nat.le_of_ble_eq_true rfl⟩ rfl rfl rfl hl.1 (Nat.le_of_ble_eq_true rfl) rfl dX11_porters_88 ⟨Nat.le_of_ble_eq_true rfl, Nat.le_of_ble_eq_true rfl⟩) hw (fun H locs hw => ?_)
          exact gx_iret X hr hlk hw hf dX11_porters_91
        have hf := gif_f hf qc17
        by_cases qc21 : (za1 : Int32) = 2
        · have hf := gif_t hf qc21
          refine lv_tableIn (off := 42) (tgt := 92) hx hb dX11_porters_50 (by rw [qc21]; decide) (by rw [qc21]; decide) (by rw [qc21]; rfl) (by decide) ?_
          refine lv_aload_n hx hb dX11_porters_92 rfl (lv_at hl 0 rfl) ?_
          obtain ⟨zt22, qzt22, hf⟩ := gb_el hf
          refine gx_getR X hw qzt22 clX11 (by decide) mf_X11_48 dX11_porters_93 ?_
          obtain ⟨qizh23, hf⟩ := gg_el hf
          obtain ⟨zt24, zh23, qzh23, hf⟩ := gc_el hf
          refine gx_ki (gx_runV (As := []) (rest := []) X hw (c_X5_portersNeeded l E N zt22 zh13 qzh23) kX5_portersNeeded mm_X11_274 qizh23 clX5 ⟨Nat.le_of_ble_eq_true rfl, Nat.le_of_ble_eq_true rfl⟩ rfl rfl rfl hl.1 (Nat.le_of_ble_eq_true rfl) rfl dX11_porters_96 ⟨Nat.le_of_ble_eq_true rfl, Nat.le_of_ble_eq_true rfl⟩) hw (fun H locs hw => ?_)
          exact gx_iret X hr hlk hw hf dX11_porters_99
        have hf := gif_f hf qc21
        have nqc14 := lv_neT (a := 0) qc14 (by decide)
        have nqc17 := lv_neT (a := 1) qc17 (by decide)
        have nqc21 := lv_neT (a := 2) qc21 (by decide)
        refine lv_tableOut (tgt := 100) hx hb dX11_porters_50 (by omega) (by decide) ?_
        refine lv_aload_n hx hb dX11_porters_100 rfl (lv_at hl 0 rfl) ?_
        obtain ⟨zt25, qzt25, hf⟩ := gb_el hf
        refine gx_getR X hw qzt25 clX11 (by decide) mf_X11_48 dX11_porters_101 ?_
        obtain ⟨zt26, qzt26, hf⟩ := gb_el hf
        refine gx_getR X hw qzt26 clX5 (by decide) mf_X11_277 dX11_porters_104 ?_
        refine lv_iload_n hx hb dX11_porters_107 rfl (lv_at hl 1 rfl) ?_
        refine lv_iconst (v := 3) hx hb dX11_porters_108 (by decide) ?_
        refine lv_isub hx hb dX11_porters_109 ?_
        refine W.eq (g2 := F0 m 110 ls [.int (za1 - 3), .ref (gB E + zt26)]) rfl ?_
        obtain ⟨zt27, qzt27, hf⟩ := gb_el hf
        refine gx_iald X hw qzt27 dX11_porters_110 ?_
        exact gx_iret X hr hlk hw hf dX11_porters_111
      · have hf := gif_f hf qc9
        exact J_33  _ _ _ ls hf hw (lv_sub hl [] rfl)
abbrev rm_X11_told : Room := { frames := 2, cells := 0, slots := 0, locals := 44 }
set_option maxHeartbeats 4000000 in
set_option maxRecDepth 100000 in
theorem c_X11_told (l : Launch) (E : gE) (N : Nat) (za0 : Nat) (zh : PH) {h9 : PH} {r9 : Int32} (hf : f_X11_told N za0 zh = some (r9, h9)) : Met l yX11_told (gWS yX11_told cX11_told 1 (some .int)) rm_X11_told (gPc E [.ref (gB E + za0)] zh) (gQi E r9 h9) 0 0 (gA E) := by
  refine gx_met (by decide) ?_ rfl
  intro p e s m below meth c X hr hlk hin2 hw
  have hx := X.1.1
  have hb := X.1.2.1
  have hl := lv_entry [.ref (gB E + za0)] (n := 1) (Nat.le_of_ble_eq_true rfl)
  rw [lg_entry_eq]
  generalize (lg_sl [.ref (gB E + za0)] ++ List.replicate (1 - (lg_sl [.ref (gB E + za0)]).length) Slot.unset).toArray = ls at hl ⊢
  have hl : lv_has ls 1 [(0, .ref (gB E + za0))] := hl
  have J_27 : ∀ (zs0 : Int32) (zh : PH) (H : Heap) (locs : List Loc) (ls : Array Slot), f_X11_told_27 N zs0 zh = some (r9, h9) → gw E s zh H locs → lv_has ls 1 [] → W p l e rm_X11_told s m [.ref (gB E + za0)].toArray below meth c H locs 0 0 (MQ below (gQi E r9 h9) [.ref (gB E + za0)].toArray s 0 0 (gA E)) (F0 m 27 ls [.int zs0]) := by
    intro zs0 zh H locs ls hf hw hl
    unfold f_X11_told_27 at hf
    exact gx_iret X hr hlk hw hf dX11_told_27
  unfold f_X11_told at hf
  refine lv_aload_n hx hb dX11_told_0 rfl (lv_at hl 0 rfl) ?_
  obtain ⟨zt1, qzt1, hf⟩ := gb_el hf
  refine gx_getR X hw qzt1 clX11 (by decide) mf_X11_37 dX11_told_1 ?_
  obtain ⟨zt2, qzt2, hf⟩ := gb_el hf
  refine gx_getR X hw qzt2 clX9 (by decide) mf_X11_256 dX11_told_4 ?_
  obtain ⟨zt3, qzt3, hf⟩ := gb_el hf
  refine gx_getI X hw qzt3 clX4 (by decide) mf_X11_263 dX11_told_7 ?_
  refine lv_if_ne (tgt := 17) hx hb dX11_told_10 (by decide) (fun qc4 => ?_) (fun qc4 => ?_)
  · have hf := gif_f hf qc4
    refine lv_aload_n hx hb dX11_told_17 rfl (lv_at hl 0 rfl) ?_
    obtain ⟨zt5, qzt5, hf⟩ := gb_el hf
    refine gx_getR X hw qzt5 clX11 (by decide) mf_X11_37 dX11_told_18 ?_
    obtain ⟨zt6, qzt6, hf⟩ := gb_el hf
    refine gx_getR X hw qzt6 clX9 (by decide) mf_X11_256 dX11_told_21 ?_
    obtain ⟨qizh7, hf⟩ := gg_el hf
    obtain ⟨zt8, zh7, qzh7, hf⟩ := gc_el hf
    refine gx_ki (gx_runV (As := []) (rest := []) X hw (c_X4_doneAsTold l E N zt6 zh qzh7) kX4_doneAsTold mm_X11_280 qizh7 clX4 ⟨Nat.le_of_ble_eq_true rfl, Nat.le_of_ble_eq_true rfl⟩ rfl rfl rfl hl.1 (Nat.le_of_ble_eq_true rfl) rfl dX11_told_24 ⟨Nat.le_of_ble_eq_true rfl, Nat.le_of_ble_eq_true rfl⟩) hw (fun H locs hw => ?_)
    exact J_27 zt8 _ _ _ ls hf hw (lv_sub hl [] rfl)
  · have hf := gif_t hf qc4
    refine lv_iconst (v := (-1)) hx hb dX11_told_13 (by decide) ?_
    refine lv_goto (tgt := 27) hx hb dX11_told_14 (by decide) ?_
    exact J_27 (-1) _ _ _ ls hf hw (lv_sub hl [] rfl)
abbrev rm_X11_clear : Room := { frames := 0, cells := 0, slots := 0, locals := 0 }
set_option maxHeartbeats 4000000 in
set_option maxRecDepth 100000 in
theorem c_X11_clear (l : Launch) (E : gE) (N : Nat) (za0 : Nat) (zh : PH) {h9 : PH} {r9 : Int32} (hf : f_X11_clear N za0 zh = some (r9, h9)) : Met l yX11_clear (gWS yX11_clear cX11_clear 1 (some .boolean)) rm_X11_clear (gPc E [.ref (gB E + za0)] zh) (gQi E r9 h9) 0 0 (gA E) := by
  refine gx_met (by decide) ?_ rfl
  intro p e s m below meth c X hr hlk hin2 hw
  have hx := X.1.1
  have hb := X.1.2.1
  have hl := lv_entry [.ref (gB E + za0)] (n := 1) (Nat.le_of_ble_eq_true rfl)
  rw [lg_entry_eq]
  generalize (lg_sl [.ref (gB E + za0)] ++ List.replicate (1 - (lg_sl [.ref (gB E + za0)]).length) Slot.unset).toArray = ls at hl ⊢
  have hl : lv_has ls 1 [(0, .ref (gB E + za0))] := hl
  unfold f_X11_clear at hf
  refine lv_aload_n hx hb dX11_clear_0 rfl (lv_at hl 0 rfl) ?_
  obtain ⟨zt1, qzt1, hf⟩ := gb_el hf
  refine gx_getR X hw qzt1 clX11 (by decide) mf_X11_37 dX11_clear_1 ?_
  obtain ⟨zt2, qzt2, hf⟩ := gb_el hf
  refine gx_getR X hw qzt2 clX9 (by decide) mf_X11_210 dX11_clear_4 ?_
  refine lv_iconst (v := 0) hx hb dX11_clear_7 (by decide) ?_
  obtain ⟨zh3, qzh3, hf⟩ := gb_el hf
  refine gx_putV X hw qzh3 clX8 (by decide) mf_X11_220 rfl rfl rfl dX11_clear_8 (fun H locs hw => ?_)
  refine lv_aload_n hx hb dX11_clear_11 rfl (lv_at hl 0 rfl) ?_
  obtain ⟨zt4, qzt4, hf⟩ := gb_el hf
  refine gx_getR X hw qzt4 clX11 (by decide) mf_X11_37 dX11_clear_12 ?_
  obtain ⟨zt5, qzt5, hf⟩ := gb_el hf
  refine gx_getR X hw qzt5 clX9 (by decide) mf_X11_256 dX11_clear_15 ?_
  refine lv_iconst (v := 0) hx hb dX11_clear_18 (by decide) ?_
  refine W.eq (g2 := F0 m 19 ls [.int 0, .ref (gB E + zt5)]) rfl ?_
  obtain ⟨zh6, qzh6, hf⟩ := gb_el hf
  refine gx_putV X hw qzh6 clX4 (by decide) mf_X11_263 rfl rfl rfl dX11_clear_19 (fun H locs hw => ?_)
  refine lv_iconst (v := 1) hx hb dX11_clear_22 (by decide) ?_
  exact gx_zret X hr hlk hw hf dX11_clear_23
abbrev rm_X11_book : Room := { frames := 1, cells := 0, slots := 0, locals := 21 }
set_option maxHeartbeats 4000000 in
set_option maxRecDepth 100000 in
theorem c_X11_book (l : Launch) (E : gE) (N : Nat) (za0 : Nat) (za1 : Int32) (zh : PH) {h9 : PH} {r9 : Int32} (hf : f_X11_book N za0 za1 zh = some (r9, h9)) : Met l yX11_book (gWS yX11_book cX11_book 2 (some .int)) rm_X11_book (gPc E [.ref (gB E + za0), .int za1] zh) (gQi E r9 h9) 0 0 (gA E) := by
  refine gx_met (by decide) ?_ rfl
  intro p e s m below meth c X hr hlk hin2 hw
  have hx := X.1.1
  have hb := X.1.2.1
  have hl := lv_entry [.ref (gB E + za0), .int za1] (n := 2) (Nat.le_of_ble_eq_true rfl)
  rw [lg_entry_eq]
  generalize (lg_sl [.ref (gB E + za0), .int za1] ++ List.replicate (2 - (lg_sl [.ref (gB E + za0), .int za1]).length) Slot.unset).toArray = ls at hl ⊢
  have hl : lv_has ls 2 [(0, .ref (gB E + za0)), (1, .int za1)] := hl
  have J_51 : ∀ (zh : PH) (H : Heap) (locs : List Loc) (ls : Array Slot), f_X11_book_51 N zh = some (r9, h9) → gw E s zh H locs → lv_has ls 2 [] → W p l e rm_X11_book s m [.ref (gB E + za0), .int za1].toArray below meth c H locs 0 0 (MQ below (gQi E r9 h9) [.ref (gB E + za0), .int za1].toArray s 0 0 (gA E)) (F0 m 51 ls []) := by
    intro zh H locs ls hf hw hl
    unfold f_X11_book_51 at hf
    refine lv_iconst (v := (-1)) hx hb dX11_book_51 (by decide) ?_
    exact gx_iret X hr hlk hw hf dX11_book_52
  unfold f_X11_book at hf
  refine lv_iload_n hx hb dX11_book_0 rfl (lv_at hl 1 rfl) ?_
  refine lv_if_ge (tgt := 14) hx hb dX11_book_1 (by decide) (fun qc1 => ?_) (fun qc1 => ?_)
  · have hf := gif_t hf qc1
    refine lv_aload_n hx hb dX11_book_14 rfl (lv_at hl 0 rfl) ?_
    refine lv_iload_n hx hb dX11_book_15 rfl (lv_at hl 1 rfl) ?_
    obtain ⟨qizh2, hf⟩ := gg_el hf
    obtain ⟨zt3, zh2, qzh2, hf⟩ := gc_el hf
    refine gx_ki (gx_runV (As := [.int za1]) (rest := []) X hw (c_X11_isGuest l E N za0 za1 zh qzh2) kX11_isGuest mm_X11_118 qizh2 clX11 ⟨Nat.le_of_ble_eq_true rfl, Nat.le_of_ble_eq_true rfl⟩ rfl rfl rfl hl.1 (Nat.le_of_ble_eq_true rfl) rfl dX11_book_16 ⟨Nat.le_of_ble_eq_true rfl, Nat.le_of_ble_eq_true rfl⟩) hw (fun H locs hw => ?_)
    refine lv_if_eq (tgt := 51) hx hb dX11_book_19 (by decide) (fun qc4 => ?_) (fun qc4 => ?_)
    · have hf := gif_t hf qc4
      exact J_51  _ _ _ ls hf hw (lv_sub hl [] rfl)
    · have hf := gif_f hf qc4
      refine lv_aload_n hx hb dX11_book_22 rfl (lv_at hl 0 rfl) ?_
      obtain ⟨zt5, qzt5, hf⟩ := gb_el hf
      refine gx_getR X hw qzt5 clX11 (by decide) mf_X11_37 dX11_book_23 ?_
      obtain ⟨zt6, qzt6, hf⟩ := gb_el hf
      refine gx_getR X hw qzt6 clX9 (by decide) mf_X11_112 dX11_book_26 ?_
      refine W.eq (g2 := F0 m 29 ls [.ref (gB E + zt6)]) rfl ?_
      refine lv_iload_n hx hb dX11_book_29 rfl (lv_at hl 1 rfl) ?_
      obtain ⟨qizh7, hf⟩ := gg_el hf
      obtain ⟨zt8, zh7, qzh7, hf⟩ := gc_el hf
      refine gx_ki (gx_runV (As := [.int za1]) (rest := []) X hw (c_X1_isIn l E N zt6 za1 zh2 qzh7) kX1_isIn mm_X11_286 qizh7 clX1 ⟨Nat.le_of_ble_eq_true rfl, Nat.le_of_ble_eq_true rfl⟩ rfl rfl rfl hl.1 (Nat.le_of_ble_eq_true rfl) rfl dX11_book_30 ⟨Nat.le_of_ble_eq_true rfl, Nat.le_of_ble_eq_true rfl⟩) hw (fun H locs hw => ?_)
      refine lv_if_ne (tgt := 51) hx hb dX11_book_33 (by decide) (fun qc9 => ?_) (fun qc9 => ?_)
      · have hf := gif_f hf qc9
        exact J_51  _ _ _ ls hf hw (lv_sub hl [] rfl)
      · have hf := gif_t hf qc9
        refine lv_aload_n hx hb dX11_book_36 rfl (lv_at hl 0 rfl) ?_
        obtain ⟨zt10, qzt10, hf⟩ := gb_el hf
        refine gx_getR X hw qzt10 clX11 (by decide) mf_X11_37 dX11_book_37 ?_
        obtain ⟨zt11, qzt11, hf⟩ := gb_el hf
        refine gx_getI X hw qzt11 clX9 (by decide) mf_X11_283 dX11_book_40 ?_
        refine lv_iload_n hx hb dX11_book_43 rfl (lv_at hl 1 rfl) ?_
        obtain ⟨zt13, zh12, qzh12, hf⟩ := gc_el hf
        refine gx_ki (gx_runS (As := [.int zt11, .int za1]) (rest := []) X hw (c_X11_bitOf l E N zt11 za1 zh7 qzh12) kX11_bitOf mm_X11_127 ⟨Nat.le_of_ble_eq_true rfl, Nat.le_of_ble_eq_true rfl⟩ rfl rfl rfl hl.1 (Nat.le_of_ble_eq_true rfl) rfl dX11_book_44 ⟨Nat.le_of_ble_eq_true rfl, Nat.le_of_ble_eq_true rfl⟩) hw (fun H locs hw => ?_)
        refine lv_iconst (v := 1) hx hb dX11_book_47 (by decide) ?_
        refine lv_icmp_ne (tgt := 53) hx hb dX11_book_48 (by decide) (fun qc14 => ?_) (fun qc14 => ?_)
        · have hf := gif_f hf qc14
          refine W.eq (g2 := F0 m 53 ls []) rfl ?_
          refine lv_aload_n hx hb dX11_book_53 rfl (lv_at hl 0 rfl) ?_
          obtain ⟨zt15, qzt15, hf⟩ := gb_el hf
          refine gx_getR X hw qzt15 clX11 (by decide) mf_X11_37 dX11_book_54 ?_
          obtain ⟨zt16, qzt16, hf⟩ := gb_el hf
          refine gx_getI X hw qzt16 clX9 (by decide) mf_X11_283 dX11_book_57 ?_
          obtain ⟨zt18, zh17, qzh17, hf⟩ := gc_el hf
          refine gx_ki (gx_runS (As := [.int zt16]) (rest := []) X hw (c_J6_bitCount_0f7a4 l E N zt16 zh12 qzh17) kJ6_bitCount_0f7a4 mm_X11_289 ⟨Nat.le_of_ble_eq_true rfl, Nat.le_of_ble_eq_true rfl⟩ rfl rfl rfl hl.1 (Nat.le_of_ble_eq_true rfl) rfl dX11_book_60 ⟨Nat.le_of_ble_eq_true rfl, Nat.le_of_ble_eq_true rfl⟩) hw (fun H locs hw => ?_)
          refine lv_bipush (v := 7) hx hb dX11_book_63 (by decide) ?_
          refine lv_icmp_lt (tgt := 70) hx hb dX11_book_65 (by decide) (fun qc19 => ?_) (fun qc19 => ?_)
          · have hf := gif_t hf qc19
            refine lv_aload_n hx hb dX11_book_70 rfl (lv_at hl 0 rfl) ?_
            obtain ⟨zt20, qzt20, hf⟩ := gb_el hf
            refine gx_getR X hw qzt20 clX11 (by decide) mf_X11_37 dX11_book_71 ?_
            refine lv_dup hx hb dX11_book_74 rfl ?_
            obtain ⟨zt21, qzt21, hf⟩ := gb_el hf
            refine gx_getI X hw qzt21 clX9 (by decide) mf_X11_283 dX11_book_75 ?_
            refine W.eq (g2 := F0 m 78 ls [.int zt21, .ref (gB E + zt20)]) rfl ?_
            refine lv_iconst (v := 1) hx hb dX11_book_78 (by decide) ?_
            refine lv_iload_n hx hb dX11_book_79 rfl (lv_at hl 1 rfl) ?_
            refine lv_ishl hx hb dX11_book_80 ?_
            refine lv_ior hx hb dX11_book_81 ?_
            obtain ⟨zh22, qzh22, hf⟩ := gb_el hf
            refine gx_putV X hw qzh22 clX9 (by decide) mf_X11_283 rfl rfl rfl dX11_book_82 (fun H locs hw => ?_)
            refine lv_aload_n hx hb dX11_book_85 rfl (lv_at hl 0 rfl) ?_
            obtain ⟨zt23, qzt23, hf⟩ := gb_el hf
            refine gx_getR X hw qzt23 clX11 (by decide) mf_X11_37 dX11_book_86 ?_
            obtain ⟨zt24, qzt24, hf⟩ := gb_el hf
            refine gx_getI X hw qzt24 clX9 (by decide) mf_X11_283 dX11_book_89 ?_
            obtain ⟨zt26, zh25, qzh25, hf⟩ := gc_el hf
            refine gx_ki (gx_runS (As := [.int zt24]) (rest := []) X hw (c_J6_bitCount_0f7a4 l E N zt24 zh22 qzh25) kJ6_bitCount_0f7a4 mm_X11_289 ⟨Nat.le_of_ble_eq_true rfl, Nat.le_of_ble_eq_true rfl⟩ rfl rfl rfl hl.1 (Nat.le_of_ble_eq_true rfl) rfl dX11_book_92 ⟨Nat.le_of_ble_eq_true rfl, Nat.le_of_ble_eq_true rfl⟩) hw (fun H locs hw => ?_)
            exact gx_iret X hr hlk hw hf dX11_book_95
          · have hf := gif_f hf qc19
            refine lv_iconst (v := (-1)) hx hb dX11_book_68 (by decide) ?_
            exact gx_iret X hr hlk hw hf dX11_book_69
        · have hf := gif_t hf qc14
          exact J_51  _ _ _ ls hf hw (lv_sub hl [] rfl)
  · have hf := gif_f hf qc1
    refine lv_aload_n hx hb dX11_book_4 rfl (lv_at hl 0 rfl) ?_
    obtain ⟨zt27, qzt27, hf⟩ := gb_el hf
    refine gx_getR X hw qzt27 clX11 (by decide) mf_X11_37 dX11_book_5 ?_
    refine lv_iconst (v := 0) hx hb dX11_book_8 (by decide) ?_
    obtain ⟨zh28, qzh28, hf⟩ := gb_el hf
    refine gx_putV X hw qzh28 clX9 (by decide) mf_X11_283 rfl rfl rfl dX11_book_9 (fun H locs hw => ?_)
    refine lv_iconst (v := 0) hx hb dX11_book_12 (by decide) ?_
    exact gx_iret X hr hlk hw hf dX11_book_13
abbrev rm_X11_movesByArrivals : Room := { frames := 5, cells := 0, slots := 0, locals := 118 }
set_option maxHeartbeats 4000000 in
set_option maxRecDepth 100000 in
theorem c_X11_movesByArrivals (l : Launch) (E : gE) (N : Nat) (za0 : Nat) (za1 : Int32) (za2 : Int32) (za3 : Int32) (zh : PH) {h9 : PH} {r9 : Int32} (hf : f_X11_movesByArrivals N za0 za1 za2 za3 zh = some (r9, h9)) : Met l yX11_movesByArrivals (gWS yX11_movesByArrivals cX11_movesByArrivals 6 (some .int)) rm_X11_movesByArrivals (gPc E [.ref (gB E + za0), .int za1, .int za2, .int za3] zh) (gQi E r9 h9) 0 0 (gA E) := by
  refine gx_met (by decide) ?_ rfl
  intro p e s m below meth c X hr hlk hin2 hw
  have hx := X.1.1
  have hb := X.1.2.1
  have hl := lv_entry [.ref (gB E + za0), .int za1, .int za2, .int za3] (n := 6) (Nat.le_of_ble_eq_true rfl)
  rw [lg_entry_eq]
  generalize (lg_sl [.ref (gB E + za0), .int za1, .int za2, .int za3] ++ List.replicate (6 - (lg_sl [.ref (gB E + za0), .int za1, .int za2, .int za3]).length) Slot.unset).toArray = ls at hl ⊢
  have hl : lv_has ls 6 [(0, .ref (gB E + za0)), (1, .int za1), (2, .int za2), (3, .int za3)] := hl
  have J_96 : ∀ (zs0 : Int32) (zh : PH) (H : Heap) (locs : List Loc) (ls : Array Slot), f_X11_movesByArrivals_96 N zs0 zh = some (r9, h9) → gw E s zh H locs → lv_has ls 6 [] → W p l e rm_X11_movesByArrivals s m [.ref (gB E + za0), .int za1, .int za2, .int za3].toArray below meth c H locs 0 0 (MQ below (gQi E r9 h9) [.ref (gB E + za0), .int za1, .int za2, .int za3].toArray s 0 0 (gA E)) (F0 m 96 ls [.int zs0]) := by
    intro zs0 zh H locs ls hf hw hl
    unfold f_X11_movesByArrivals_96 at hf
    exact gx_iret X hr hlk hw hf dX11_movesByArrivals_96
  have J_59 : ∀ (zv0 : Nat) (zv1 : Int32) (zv3 : Int32) (zv4 : Nat) (zh : PH) (H : Heap) (locs : List Loc) (ls : Array Slot), f_X11_movesByArrivals_59 N zv0 zv1 zv3 zv4 zh = some (r9, h9) → gw E s zh H locs → lv_has ls 6 [(0, .ref (gB E + zv0)), (1, .int zv1), (3, .int zv3), (4, .ref (gB E + zv4))] → W p l e rm_X11_movesByArrivals s m [.ref (gB E + za0), .int za1, .int za2, .int za3].toArray below meth c H locs 0 0 (MQ below (gQi E r9 h9) [.ref (gB E + za0), .int za1, .int za2, .int za3].toArray s 0 0 (gA E)) (F0 m 59 ls []) := by
    intro zv0 zv1 zv3 zv4 zh H locs ls hf hw hl
    unfold f_X11_movesByArrivals_59 at hf
    refine lv_iload_n hx hb dX11_movesByArrivals_59 rfl (lv_at hl 2 rfl) ?_
    refine lv_if_eq (tgt := 79) hx hb dX11_movesByArrivals_60 (by decide) (fun qc1 => ?_) (fun qc1 => ?_)
    · have hf := gif_t hf qc1
      refine lv_aload_n hx hb dX11_movesByArrivals_79 rfl (lv_at hl 0 rfl) ?_
      obtain ⟨zt2, qzt2, hf⟩ := gb_el hf
      refine gx_getR X hw qzt2 clX11 (by decide) mf_X11_55 dX11_movesByArrivals_80 ?_
      obtain ⟨zt3, qzt3, hf⟩ := gb_el hf
      refine gx_getR X hw qzt3 clX1 (by decide) mf_X11_137 dX11_movesByArrivals_83 ?_
      refine lv_iload_n hx hb dX11_movesByArrivals_86 rfl (lv_at hl 1 rfl) ?_
      obtain ⟨zt4, qzt4, hf⟩ := gb_el hf
      refine gx_iald X hw qzt4 dX11_movesByArrivals_87 ?_
      refine lv_aload hx hb dX11_movesByArrivals_88 (lv_at hl 3 rfl) ?_
      obtain ⟨zt5, qzt5, hf⟩ := gb_el hf
      refine gx_getR X hw qzt5 clX1 (by decide) mf_X11_137 dX11_movesByArrivals_90 ?_
      refine W.eq (g2 := F0 m 93 ls [.ref (gB E + zt5), .int zt4]) rfl ?_
      refine lv_iload_n hx hb dX11_movesByArrivals_93 rfl (lv_at hl 1 rfl) ?_
      obtain ⟨zt6, qzt6, hf⟩ := gb_el hf
      refine gx_iald X hw qzt6 dX11_movesByArrivals_94 ?_
      refine lv_isub hx hb dX11_movesByArrivals_95 ?_
      exact J_96 (zt4 - zt6) _ _ _ ls hf hw (lv_sub hl [] rfl)
    · have hf := gif_f hf qc1
      refine lv_aload_n hx hb dX11_movesByArrivals_63 rfl (lv_at hl 0 rfl) ?_
      obtain ⟨zt7, qzt7, hf⟩ := gb_el hf
      refine gx_getR X hw qzt7 clX11 (by decide) mf_X11_55 dX11_movesByArrivals_64 ?_
      obtain ⟨zt8, qzt8, hf⟩ := gb_el hf
      refine gx_getI X hw qzt8 clX1 (by decide) mf_X11_185 dX11_movesByArrivals_67 ?_
      refine lv_aload hx hb dX11_movesByArrivals_70 (lv_at hl 3 rfl) ?_
      obtain ⟨zt9, qzt9, hf⟩ := gb_el hf
      refine gx_getI X hw qzt9 clX1 (by decide) mf_X11_185 dX11_movesByArrivals_72 ?_
      refine lv_isub hx hb dX11_movesByArrivals_75 ?_
      refine lv_goto (tgt := 96) hx hb dX11_movesByArrivals_76 (by decide) ?_
      exact J_96 (zt8 - zt9) _ _ _ ls hf hw (lv_sub hl [] rfl)
  have L_21 : ∀ (zn21 : Nat) (zv0 : Nat) (zv1 : Int32) (zv2 : Int32) (zv3 : Int32) (zv4 : Nat) (zv5 : Int32) (zh : PH) (H : Heap) (locs : List Loc) (ls : Array Slot), gi (fun zk zs => f_X11_movesByArrivals_21 N zk zs.1 zs.2.1 zs.2.2.1 zs.2.2.2.1 zs.2.2.2.2.1 zs.2.2.2.2.2.1 zs.2.2.2.2.2.2) zn21 (zv0, zv1, zv2, zv3, zv4, zv5, zh) = some (r9, h9) → gw E s zh H locs → lv_has ls 6 [(0, .ref (gB E + zv0)), (1, .int zv1), (2, .int zv2), (3, .int zv3), (4, .ref (gB E + zv4)), (5, .int zv5)] → W p l e rm_X11_movesByArrivals s m [.ref (gB E + za0), .int za1, .int za2, .int za3].toArray below meth c H locs 0 0 (MQ below (gQi E r9 h9) [.ref (gB E + za0), .int za1, .int za2, .int za3].toArray s 0 0 (gA E)) (F0 m 21 ls []) := by
    intro zn21
    induction zn21 with
    | zero =>
      intro zv0 zv1 zv2 zv3 zv4 zv5 zh H locs ls hf
      cases hf
    | succ zn21 ih_21 =>
      intro zv0 zv1 zv2 zv3 zv4 zv5 zh H locs ls hf hw hl
      have hf := gi_s hf
      dsimp only at hf
      unfold f_X11_movesByArrivals_21 at hf
      refine lv_iload hx hb dX11_movesByArrivals_21 (lv_at hl 5 rfl) ?_
      refine lv_iload_n hx hb dX11_movesByArrivals_23 rfl (lv_at hl 2 rfl) ?_
      refine lv_icmp_ge (tgt := 59) hx hb dX11_movesByArrivals_24 (by decide) (fun qc1 => ?_) (fun qc1 => ?_)
      · have hf := gif_t hf qc1
        exact J_59 zv0 zv1 zv3 zv4 _ _ _ ls hf hw (lv_sub hl [0, 1, 3, 4] rfl)
      · have hf := gif_f hf qc1
        refine lv_iload hx hb dX11_movesByArrivals_27 (lv_at hl 5 rfl) ?_
        refine lv_bipush (v := 7) hx hb dX11_movesByArrivals_29 (by decide) ?_
        refine lv_icmp_ge (tgt := 59) hx hb dX11_movesByArrivals_31 (by decide) (fun qc2 => ?_) (fun qc2 => ?_)
        · have hf := gif_t hf qc2
          exact J_59 zv0 zv1 zv3 zv4 _ _ _ ls hf hw (lv_sub hl [0, 1, 3, 4] rfl)
        · have hf := gif_f hf qc2
          refine lv_aload_n hx hb dX11_movesByArrivals_34 rfl (lv_at hl 0 rfl) ?_
          obtain ⟨zt3, qzt3, hf⟩ := gb_el hf
          refine gx_getR X hw qzt3 clX11 (by decide) mf_X11_55 dX11_movesByArrivals_35 ?_
          refine lv_aload_n hx hb dX11_movesByArrivals_38 rfl (lv_at hl 0 rfl) ?_
          refine W.eq (g2 := F0 m 39 ls [.ref (gB E + zv0), .ref (gB E + zt3)]) rfl ?_
          obtain ⟨zt4, qzt4, hf⟩ := gb_el hf
          refine gx_getR X hw qzt4 clX11 (by decide) mf_X11_69 dX11_movesByArrivals_39 ?_
          refine lv_aload_n hx hb dX11_movesByArrivals_42 rfl (lv_at hl 0 rfl) ?_
          obtain ⟨zt5, qzt5, hf⟩ := gb_el hf
          refine gx_getR X hw qzt5 clX11 (by decide) mf_X11_59 dX11_movesByArrivals_43 ?_
          refine lv_iload hx hb dX11_movesByArrivals_46 (lv_at hl 5 rfl) ?_
          obtain ⟨zt6, qzt6, hf⟩ := gb_el hf
          refine gx_iald X hw qzt6 dX11_movesByArrivals_48 ?_
          refine lv_null hx hb dX11_movesByArrivals_49 ?_
          obtain ⟨qizh7, hf⟩ := gg_el hf
          obtain ⟨zh7, qzh7, hf⟩ := gb_el hf
          refine gx_kv (gx_runV (As := [.ref (gB E + zt4), .int zt6, gq E none]) (rest := []) X hw (c_X1_takeIn l E N zt3 zt4 zt6 none zh qzh7) kX1_takeIn mm_X11_337 qizh7 clX1 ⟨Nat.le_of_ble_eq_true rfl, Nat.le_of_ble_eq_true rfl⟩ rfl rfl rfl hl.1 (Nat.le_of_ble_eq_true rfl) rfl dX11_movesByArrivals_50 ⟨Nat.le_of_ble_eq_true rfl, Nat.le_of_ble_eq_true rfl⟩) hw (fun H locs hw => ?_)
          obtain ⟨zx8, ezx8⟩ : ∃ y : Int32, y = zv5 + 1 := ⟨_, rfl⟩
          have hf := gl_el hf ezx8
          refine lv_iinc (v := zx8) (lv' := [(5, .int zx8), (0, .ref (gB E + zv0)), (1, .int zv1), (2, .int zv2), (3, .int zv3), (4, .ref (gB E + zv4))]) hx hb dX11_movesByArrivals_53 hl (k := 5) rfl (by rw [ezx8]; rfl) (by decide) rfl (fun ls hl => ?_)
          refine lv_goto (tgt := 21) hx hb dX11_movesByArrivals_56 (by decide) ?_
          exact ih_21 zv0 zv1 zv2 zv3 zv4 zx8 _ _ _ ls hf hw (lv_sub hl [1, 2, 3, 4, 5, 0] rfl)
  unfold f_X11_movesByArrivals at hf
  refine lv_aload_n hx hb dX11_movesByArrivals_0 rfl (lv_at hl 0 rfl) ?_
  obtain ⟨zt1, qzt1, hf⟩ := gb_el hf
  refine gx_getR X hw qzt1 clX11 (by decide) mf_X11_37 dX11_movesByArrivals_1 ?_
  obtain ⟨zt2, qzt2, hf⟩ := gb_el hf
  refine gx_getR X hw qzt2 clX9 (by decide) mf_X11_112 dX11_movesByArrivals_4 ?_
  refine lv_astore (lv' := [(4, .ref (gB E + zt2)), (0, .ref (gB E + za0)), (1, .int za1), (2, .int za2), (3, .int za3)]) hx hb dX11_movesByArrivals_7 hl (by decide) rfl (fun ls hl => ?_)
  refine lv_aload_n hx hb dX11_movesByArrivals_9 rfl (lv_at hl 1 rfl) ?_
  obtain ⟨zt3, qzt3, hf⟩ := gb_el hf
  refine gx_getR X hw qzt3 clX11 (by decide) mf_X11_55 dX11_movesByArrivals_10 ?_
  refine lv_aload hx hb dX11_movesByArrivals_13 (lv_at hl 0 rfl) ?_
  obtain ⟨qizh4, hf⟩ := gg_el hf
  obtain ⟨zh4, qzh4, hf⟩ := gb_el hf
  refine gx_kv (gx_runV (As := [.ref (gB E + zt2)]) (rest := []) X hw (c_X1_copyFrom l E N zt3 zt2 zh qzh4) kX1_copyFrom mm_X11_334 qizh4 clX1 ⟨Nat.le_of_ble_eq_true rfl, Nat.le_of_ble_eq_true rfl⟩ rfl rfl rfl hl.1 (Nat.le_of_ble_eq_true rfl) rfl dX11_movesByArrivals_15 ⟨Nat.le_of_ble_eq_true rfl, Nat.le_of_ble_eq_true rfl⟩) hw (fun H locs hw => ?_)
  refine lv_iconst (v := 0) hx hb dX11_movesByArrivals_18 (by decide) ?_
  refine W.eq (g2 := F0 m 19 ls [.int 0]) rfl ?_
  refine lv_istore (lv' := [(5, .int 0), (4, .ref (gB E + zt2)), (0, .ref (gB E + za0)), (1, .int za1), (2, .int za2), (3, .int za3)]) hx hb dX11_movesByArrivals_19 hl (by decide) rfl (fun ls hl => ?_)
  exact L_21 N za0 za1 za2 za3 zt2 0 _ _ _ ls hf hw (lv_sub hl [2, 3, 4, 5, 1, 0] rfl)
abbrev rm_X11_addArrivals : Room := { frames := 1, cells := 0, slots := 0, locals := 21 }
set_option maxHeartbeats 4000000 in
set_option maxRecDepth 100000 in
theorem c_X11_addArrivals (l : Launch) (E : gE) (N : Nat) (za0 : Nat) (za1 : Int32) (za2 : Int32) (zh : PH) {h9 : PH} {r9 : Int32} (hf : f_X11_addArrivals N za0 za1 za2 zh = some (r9, h9)) : Met l yX11_addArrivals (gWS yX11_addArrivals cX11_addArrivals 5 (some .int)) rm_X11_addArrivals (gPc E [.ref (gB E + za0), .int za1, .int za2] zh) (gQi E r9 h9) 0 0 (gA E) := by
  refine gx_met (by decide) ?_ rfl
  intro p e s m below meth c X hr hlk hin2 hw
  have hx := X.1.1
  have hb := X.1.2.1
  have hl := lv_entry [.ref (gB E + za0), .int za1, .int za2] (n := 5) (Nat.le_of_ble_eq_true rfl)
  rw [lg_entry_eq]
  generalize (lg_sl [.ref (gB E + za0), .int za1, .int za2] ++ List.replicate (5 - (lg_sl [.ref (gB E + za0), .int za1, .int za2]).length) Slot.unset).toArray = ls at hl ⊢
  have hl : lv_has ls 5 [(0, .ref (gB E + za0)), (1, .int za1), (2, .int za2)] := hl
  have L_5 : ∀ (zn5 : Nat) (zv0 : Nat) (zv1 : Int32) (zv3 : Int32) (zv4 : Int32) (zh : PH) (H : Heap) (locs : List Loc) (ls : Array Slot), gi (fun zk zs => f_X11_addArrivals_5 N zk zs.1 zs.2.1 zs.2.2.1 zs.2.2.2.1 zs.2.2.2.2) zn5 (zv0, zv1, zv3, zv4, zh) = some (r9, h9) → gw E s zh H locs → lv_has ls 5 [(0, .ref (gB E + zv0)), (1, .int zv1), (3, .int zv3), (4, .int zv4)] → W p l e rm_X11_addArrivals s m [.ref (gB E + za0), .int za1, .int za2].toArray below meth c H locs 0 0 (MQ below (gQi E r9 h9) [.ref (gB E + za0), .int za1, .int za2].toArray s 0 0 (gA E)) (F0 m 5 ls []) := by
    intro zn5
    induction zn5 with
    | zero =>
      intro zv0 zv1 zv3 zv4 zh H locs ls hf
      cases hf
    | succ zn5 ih_5 =>
      have J_39 : ∀ (zv0 : Nat) (zv1 : Int32) (zv3 : Int32) (zv4 : Int32) (zh : PH) (H : Heap) (locs : List Loc) (ls : Array Slot), f_X11_addArrivals_39 N (gi (fun zk zs => f_X11_addArrivals_5 N zk zs.1 zs.2.1 zs.2.2.1 zs.2.2.2.1 zs.2.2.2.2) zn5) zv0 zv1 zv3 zv4 zh = some (r9, h9) → gw E s zh H locs → lv_has ls 5 [(0, .ref (gB E + zv0)), (1, .int zv1), (3, .int zv3), (4, .int zv4)] → W p l e rm_X11_addArrivals s m [.ref (gB E + za0), .int za1, .int za2].toArray below meth c H locs 0 0 (MQ below (gQi E r9 h9) [.ref (gB E + za0), .int za1, .int za2].toArray s 0 0 (gA E)) (F0 m 39 ls []) := by
        intro zv0 zv1 zv3 zv4 zh H locs ls hf hw hl
        unfold f_X11_addArrivals_39 at hf
        obtain ⟨zx1, ezx1⟩ : ∃ y : Int32, y = zv4 + 1 := ⟨_, rfl⟩
        have hf := gl_el hf ezx1
        refine lv_iinc (v := zx1) (lv' := [(4, .int zx1), (0, .ref (gB E + zv0)), (1, .int zv1), (3, .int zv3)]) hx hb dX11_addArrivals_39 hl (k := 3) rfl (by rw [ezx1]; rfl) (by decide) rfl (fun ls hl => ?_)
        refine lv_goto (tgt := 5) hx hb dX11_addArrivals_42 (by decide) ?_
        exact ih_5 zv0 zv1 zv3 zx1 _ _ _ ls hf hw (lv_sub hl [1, 2, 3, 0] rfl)
      intro zv0 zv1 zv3 zv4 zh H locs ls hf hw hl
      have hf := gi_s hf
      dsimp only at hf
      unfold f_X11_addArrivals_5 at hf
      refine lv_iload hx hb dX11_addArrivals_5 (lv_at hl 3 rfl) ?_
      refine lv_bipush (v := 10) hx hb dX11_addArrivals_7 (by decide) ?_
      refine lv_icmp_ge (tgt := 45) hx hb dX11_addArrivals_9 (by decide) (fun qc1 => ?_) (fun qc1 => ?_)
      · have hf := gif_t hf qc1
        refine lv_iload_n hx hb dX11_addArrivals_45 rfl (lv_at hl 2 rfl) ?_
        exact gx_iret X hr hlk hw hf dX11_addArrivals_46
      · have hf := gif_f hf qc1
        refine lv_iload_n hx hb dX11_addArrivals_12 rfl (lv_at hl 1 rfl) ?_
        refine lv_iload hx hb dX11_addArrivals_13 (lv_at hl 3 rfl) ?_
        obtain ⟨zt3, zh2, qzh2, hf⟩ := gc_el hf
        refine gx_ki (gx_runS (As := [.int zv1, .int zv4]) (rest := []) X hw (c_X11_bitOf l E N zv1 zv4 zh qzh2) kX11_bitOf mm_X11_127 ⟨Nat.le_of_ble_eq_true rfl, Nat.le_of_ble_eq_true rfl⟩ rfl rfl rfl hl.1 (Nat.le_of_ble_eq_true rfl) rfl dX11_addArrivals_15 ⟨Nat.le_of_ble_eq_true rfl, Nat.le_of_ble_eq_true rfl⟩) hw (fun H locs hw => ?_)
        refine lv_iconst (v := 1) hx hb dX11_addArrivals_18 (by decide) ?_
        refine lv_icmp_ne (tgt := 39) hx hb dX11_addArrivals_19 (by decide) (fun qc4 => ?_) (fun qc4 => ?_)
        · have hf := gif_f hf qc4
          exact J_39 zv0 zv1 zv3 zv4 _ _ _ ls hf hw (lv_sub hl [0, 1, 2, 3] rfl)
        · have hf := gif_t hf qc4
          refine lv_iload_n hx hb dX11_addArrivals_22 rfl (lv_at hl 2 rfl) ?_
          refine W.eq (g2 := F0 m 23 ls [.int zv3]) rfl ?_
          refine lv_bipush (v := 7) hx hb dX11_addArrivals_23 (by decide) ?_
          refine lv_icmp_ge (tgt := 39) hx hb dX11_addArrivals_25 (by decide) (fun qc5 => ?_) (fun qc5 => ?_)
          · have hf := gif_t hf qc5
            exact J_39 zv0 zv1 zv3 zv4 _ _ _ ls hf hw (lv_sub hl [0, 1, 2, 3] rfl)
          · have hf := gif_f hf qc5
            refine lv_aload_n hx hb dX11_addArrivals_28 rfl (lv_at hl 0 rfl) ?_
            obtain ⟨zt6, qzt6, hf⟩ := gb_el hf
            refine gx_getR X hw qzt6 clX11 (by decide) mf_X11_59 dX11_addArrivals_29 ?_
            refine lv_iload_n hx hb dX11_addArrivals_32 rfl (lv_at hl 2 rfl) ?_
            refine lv_iload hx hb dX11_addArrivals_33 (lv_at hl 3 rfl) ?_
            obtain ⟨zh7, qzh7, hf⟩ := gb_el hf
            refine gx_iast X hw qzh7 dX11_addArrivals_35 (fun H locs hw => ?_)
            obtain ⟨zx8, ezx8⟩ : ∃ y : Int32, y = zv3 + 1 := ⟨_, rfl⟩
            have hf := gl_el hf ezx8
            refine lv_iinc (v := zx8) (lv' := [(3, .int zx8), (0, .ref (gB E + zv0)), (1, .int zv1), (4, .int zv4)]) hx hb dX11_addArrivals_36 hl (k := 2) rfl (by rw [ezx8]; rfl) (by decide) rfl (fun ls hl => ?_)
            exact J_39 zv0 zv1 zx8 zv4 _ _ _ ls hf hw (lv_sub hl [1, 2, 0, 3] rfl)
  unfold f_X11_addArrivals at hf
  refine lv_iload_n hx hb dX11_addArrivals_0 rfl (lv_at hl 2 rfl) ?_
  refine lv_istore_n (lv' := [(3, .int za2), (0, .ref (gB E + za0)), (1, .int za1), (2, .int za2)]) hx hb dX11_addArrivals_1 rfl hl (by decide) rfl (fun ls hl => ?_)
  refine lv_iconst (v := 0) hx hb dX11_addArrivals_2 (by decide) ?_
  refine lv_istore (lv' := [(4, .int 0), (3, .int za2), (0, .ref (gB E + za0)), (1, .int za1), (2, .int za2)]) hx hb dX11_addArrivals_3 hl (by decide) rfl (fun ls hl => ?_)
  exact L_5 N za0 za1 za2 0 _ _ _ ls hf hw (lv_sub hl [2, 3, 1, 0] rfl)
abbrev rm_X11_planArrivals : Room := { frames := 2, cells := 0, slots := 0, locals := 45 }
set_option maxHeartbeats 4000000 in
set_option maxRecDepth 100000 in
theorem c_X11_planArrivals (l : Launch) (E : gE) (N : Nat) (za0 : Nat) (za1 : Int32) (zh : PH) {h9 : PH} (hf : f_X11_planArrivals N za0 za1 zh = some h9) : Met l yX11_planArrivals (gWS yX11_planArrivals cX11_planArrivals 4 none) rm_X11_planArrivals (gPc E [.ref (gB E + za0), .int za1] zh) (gQv E h9) 0 0 (gA E) := by
  refine gx_met (by decide) ?_ rfl
  intro p e s m below meth c X hr hlk hin2 hw
  have hx := X.1.1
  have hb := X.1.2.1
  have hl := lv_entry [.ref (gB E + za0), .int za1] (n := 4) (Nat.le_of_ble_eq_true rfl)
  rw [lg_entry_eq]
  generalize (lg_sl [.ref (gB E + za0), .int za1] ++ List.replicate (4 - (lg_sl [.ref (gB E + za0), .int za1]).length) Slot.unset).toArray = ls at hl ⊢
  have hl : lv_has ls 4 [(0, .ref (gB E + za0)), (1, .int za1)] := hl
  unfold f_X11_planArrivals at hf
  refine lv_aload_n hx hb dX11_planArrivals_0 rfl (lv_at hl 0 rfl) ?_
  obtain ⟨zt1, qzt1, hf⟩ := gb_el hf
  refine gx_getR X hw qzt1 clX11 (by decide) mf_X11_37 dX11_planArrivals_1 ?_
  obtain ⟨zt2, qzt2, hf⟩ := gb_el hf
  refine gx_getI X hw qzt2 clX9 (by decide) mf_X11_283 dX11_planArrivals_4 ?_
  refine lv_iconst (v := 1) hx hb dX11_planArrivals_7 (by decide) ?_
  refine lv_iload_n hx hb dX11_planArrivals_8 rfl (lv_at hl 1 rfl) ?_
  refine lv_ishl hx hb dX11_planArrivals_9 ?_
  refine lv_iconst (v := (-1)) hx hb dX11_planArrivals_10 (by decide) ?_
  refine lv_ixor hx hb dX11_planArrivals_11 ?_
  refine lv_iand hx hb dX11_planArrivals_12 ?_
  refine W.eq (g2 := F0 m 13 ls [.int (zt2 &&& ((1 <<< (za1 &&& 31)) ^^^ (-1)))]) rfl ?_
  refine lv_topi (fun zx3 ezx3 => ?_)
  have hf := gl_el hf ezx3
  refine lv_istore_n (lv' := [(2, .int zx3), (0, .ref (gB E + za0)), (1, .int za1)]) hx hb dX11_planArrivals_13 rfl hl (by decide) rfl (fun ls hl => ?_)
  refine lv_aload_n hx hb dX11_planArrivals_14 rfl (lv_at hl 1 rfl) ?_
  refine lv_iload_n hx hb dX11_planArrivals_15 rfl (lv_at hl 0 rfl) ?_
  refine lv_aload_n hx hb dX11_planArrivals_16 rfl (lv_at hl 1 rfl) ?_
  obtain ⟨zt4, qzt4, hf⟩ := gb_el hf
  refine gx_getR X hw qzt4 clX11 (by decide) mf_X11_69 dX11_planArrivals_17 ?_
  obtain ⟨zt5, qzt5, hf⟩ := gb_el hf
  refine gx_getI X hw qzt5 clX2 (by decide) mf_X11_124 dX11_planArrivals_20 ?_
  refine lv_iconst (v := (-1)) hx hb dX11_planArrivals_23 (by decide) ?_
  refine lv_ixor hx hb dX11_planArrivals_24 ?_
  refine lv_iand hx hb dX11_planArrivals_25 ?_
  refine lv_iconst (v := 0) hx hb dX11_planArrivals_26 (by decide) ?_
  refine W.eq (g2 := F0 m 27 ls [.int 0, .int (zx3 &&& (zt5 ^^^ (-1))), .ref (gB E + za0)]) rfl ?_
  obtain ⟨qizh6, hf⟩ := gg_el hf
  obtain ⟨zt7, zh6, qzh6, hf⟩ := gc_el hf
  refine gx_ki (gx_runV (As := [.int (zx3 &&& (zt5 ^^^ (-1))), .int 0]) (rest := []) X hw (c_X11_addArrivals l E N za0 (zx3 &&& (zt5 ^^^ (-1))) 0 zh qzh6) kX11_addArrivals mm_X11_331 qizh6 clX11 ⟨Nat.le_of_ble_eq_true rfl, Nat.le_of_ble_eq_true rfl⟩ rfl rfl rfl hl.1 (Nat.le_of_ble_eq_true rfl) rfl dX11_planArrivals_27 ⟨Nat.le_of_ble_eq_true rfl, Nat.le_of_ble_eq_true rfl⟩) hw (fun H locs hw => ?_)
  refine lv_istore_n (lv' := [(3, .int zt7), (2, .int zx3), (0, .ref (gB E + za0)), (1, .int za1)]) hx hb dX11_planArrivals_30 rfl hl (by decide) rfl (fun ls hl => ?_)
  refine lv_aload_n hx hb dX11_planArrivals_31 rfl (lv_at hl 2 rfl) ?_
  refine lv_iload_n hx hb dX11_planArrivals_32 rfl (lv_at hl 1 rfl) ?_
  refine lv_aload_n hx hb dX11_planArrivals_33 rfl (lv_at hl 2 rfl) ?_
  obtain ⟨zt8, qzt8, hf⟩ := gb_el hf
  refine gx_getR X hw qzt8 clX11 (by decide) mf_X11_69 dX11_planArrivals_34 ?_
  obtain ⟨zt9, qzt9, hf⟩ := gb_el hf
  refine gx_getI X hw qzt9 clX2 (by decide) mf_X11_124 dX11_planArrivals_37 ?_
  refine lv_iand hx hb dX11_planArrivals_40 ?_
  refine lv_iload_n hx hb dX11_planArrivals_41 rfl (lv_at hl 0 rfl) ?_
  obtain ⟨qizh10, hf⟩ := gg_el hf
  obtain ⟨zt11, zh10, qzh10, hf⟩ := gc_el hf
  refine gx_ki (gx_runV (As := [.int (zx3 &&& zt9), .int zt7]) (rest := []) X hw (c_X11_addArrivals l E N za0 (zx3 &&& zt9) zt7 zh6 qzh10) kX11_addArrivals mm_X11_331 qizh10 clX11 ⟨Nat.le_of_ble_eq_true rfl, Nat.le_of_ble_eq_true rfl⟩ rfl rfl rfl hl.1 (Nat.le_of_ble_eq_true rfl) rfl dX11_planArrivals_42 ⟨Nat.le_of_ble_eq_true rfl, Nat.le_of_ble_eq_true rfl⟩) hw (fun H locs hw => ?_)
  refine W.eq (g2 := F0 m 45 ls [.int zt11]) rfl ?_
  refine lv_istore_n (lv' := [(3, .int zt11), (2, .int zx3), (0, .ref (gB E + za0)), (1, .int za1)]) hx hb dX11_planArrivals_45 rfl hl (by decide) rfl (fun ls hl => ?_)
  refine lv_aload_n hx hb dX11_planArrivals_46 rfl (lv_at hl 2 rfl) ?_
  refine lv_aload_n hx hb dX11_planArrivals_47 rfl (lv_at hl 2 rfl) ?_
  obtain ⟨zt12, qzt12, hf⟩ := gb_el hf
  refine gx_getR X hw qzt12 clX11 (by decide) mf_X11_37 dX11_planArrivals_48 ?_
  obtain ⟨zt13, qzt13, hf⟩ := gb_el hf
  refine gx_getI X hw qzt13 clX9 (by decide) mf_X11_283 dX11_planArrivals_51 ?_
  refine lv_iload_n hx hb dX11_planArrivals_54 rfl (lv_at hl 1 rfl) ?_
  refine lv_iconst (v := (-1)) hx hb dX11_planArrivals_55 (by decide) ?_
  refine lv_ixor hx hb dX11_planArrivals_56 ?_
  refine lv_iand hx hb dX11_planArrivals_57 ?_
  refine lv_iload_n hx hb dX11_planArrivals_58 rfl (lv_at hl 0 rfl) ?_
  refine W.eq (g2 := F0 m 59 ls [.int zt11, .int (zt13 &&& (zx3 ^^^ (-1))), .ref (gB E + za0)]) rfl ?_
  obtain ⟨qizh14, hf⟩ := gg_el hf
  obtain ⟨zt15, zh14, qzh14, hf⟩ := gc_el hf
  refine gx_ki (gx_runV (As := [.int (zt13 &&& (zx3 ^^^ (-1))), .int zt11]) (rest := []) X hw (c_X11_addArrivals l E N za0 (zt13 &&& (zx3 ^^^ (-1))) zt11 zh10 qzh14) kX11_addArrivals mm_X11_331 qizh14 clX11 ⟨Nat.le_of_ble_eq_true rfl, Nat.le_of_ble_eq_true rfl⟩ rfl rfl rfl hl.1 (Nat.le_of_ble_eq_true rfl) rfl dX11_planArrivals_59 ⟨Nat.le_of_ble_eq_true rfl, Nat.le_of_ble_eq_true rfl⟩) hw (fun H locs hw => ?_)
  refine lv_pop hx hb dX11_planArrivals_62 rfl ?_
  exact gx_vret X hr hlk hw hf dX11_planArrivals_63
abbrev rm_X11_order : Room := { frames := 6, cells := 0, slots := 0, locals := 143 }
set_option maxHeartbeats 4000000 in
set_option maxRecDepth 100000 in
theorem c_X11_order (l : Launch) (E : gE) (N : Nat) (za0 : Nat) (za1 : Int32) (za2 : Int32) (zh : PH) {h9 : PH} {r9 : Int32} (hf : f_X11_order N za0 za1 za2 zh = some (r9, h9)) : Met l yX11_order (gWS yX11_order cX11_order 4 (some .int)) rm_X11_order (gPc E [.ref (gB E + za0), .int za1, .int za2] zh) (gQi E r9 h9) 0 0 (gA E) := by
  refine gx_met (by decide) ?_ rfl
  intro p e s m below meth c X hr hlk hin2 hw
  have hx := X.1.1
  have hb := X.1.2.1
  have hl := lv_entry [.ref (gB E + za0), .int za1, .int za2] (n := 4) (Nat.le_of_ble_eq_true rfl)
  rw [lg_entry_eq]
  generalize (lg_sl [.ref (gB E + za0), .int za1, .int za2] ++ List.replicate (4 - (lg_sl [.ref (gB E + za0), .int za1, .int za2]).length) Slot.unset).toArray = ls at hl ⊢
  have hl : lv_has ls 4 [(0, .ref (gB E + za0)), (1, .int za1), (2, .int za2)] := hl
  have J_127 : ∀ (zs0 : Int32) (zh : PH) (H : Heap) (locs : List Loc) (ls : Array Slot), f_X11_order_127 N zs0 zh = some (r9, h9) → gw E s zh H locs → lv_has ls 4 [] → W p l e rm_X11_order s m [.ref (gB E + za0), .int za1, .int za2].toArray below meth c H locs 0 0 (MQ below (gQi E r9 h9) [.ref (gB E + za0), .int za1, .int za2].toArray s 0 0 (gA E)) (F0 m 127 ls [.int zs0]) := by
    intro zs0 zh H locs ls hf hw hl
    unfold f_X11_order_127 at hf
    exact gx_iret X hr hlk hw hf dX11_order_127
  have J_124 : ∀ (zs0 : Int32) (zs1 : Int32) (zs2 : Int32) (zs3 : Nat) (zh : PH) (H : Heap) (locs : List Loc) (ls : Array Slot), f_X11_order_124 N zs0 zs1 zs2 zs3 zh = some (r9, h9) → gw E s zh H locs → lv_has ls 4 [] → W p l e rm_X11_order s m [.ref (gB E + za0), .int za1, .int za2].toArray below meth c H locs 0 0 (MQ below (gQi E r9 h9) [.ref (gB E + za0), .int za1, .int za2].toArray s 0 0 (gA E)) (F0 m 124 ls [.int zs0, .int zs1, .int zs2, .ref (gB E + zs3)]) := by
    intro zs0 zs1 zs2 zs3 zh H locs ls hf hw hl
    unfold f_X11_order_124 at hf
    obtain ⟨qizh1, hf⟩ := gg_el hf
    obtain ⟨zt2, zh1, qzh1, hf⟩ := gc_el hf
    refine gx_ki (gx_runV (As := [.int zs2, .int zs1, .int zs0]) (rest := []) X hw (c_X11_movesByArrivals l E N zs3 zs2 zs1 zs0 zh qzh1) kX11_movesByArrivals mm_X11_301 qizh1 clX11 ⟨Nat.le_of_ble_eq_true rfl, Nat.le_of_ble_eq_true rfl⟩ rfl rfl rfl hl.1 (Nat.le_of_ble_eq_true rfl) rfl dX11_order_124 ⟨Nat.le_of_ble_eq_true rfl, Nat.le_of_ble_eq_true rfl⟩) hw (fun H locs hw => ?_)
    exact J_127 zt2 _ _ _ ls hf hw (lv_sub hl [] rfl)
  have J_90 : ∀ (zv0 : Nat) (zv1 : Int32) (zv2 : Int32) (zv3 : Int32) (zh : PH) (H : Heap) (locs : List Loc) (ls : Array Slot), f_X11_order_90 N zv0 zv1 zv2 zv3 zh = some (r9, h9) → gw E s zh H locs → lv_has ls 4 [(0, .ref (gB E + zv0)), (1, .int zv1), (2, .int zv2), (3, .int zv3)] → W p l e rm_X11_order s m [.ref (gB E + za0), .int za1, .int za2].toArray below meth c H locs 0 0 (MQ below (gQi E r9 h9) [.ref (gB E + za0), .int za1, .int za2].toArray s 0 0 (gA E)) (F0 m 90 ls []) := by
    intro zv0 zv1 zv2 zv3 zh H locs ls hf hw hl
    unfold f_X11_order_90 at hf
    refine lv_aload_n hx hb dX11_order_90 rfl (lv_at hl 0 rfl) ?_
    refine lv_iload_n hx hb dX11_order_91 rfl (lv_at hl 1 rfl) ?_
    obtain ⟨qizh1, hf⟩ := gg_el hf
    obtain ⟨zh1, qzh1, hf⟩ := gb_el hf
    refine gx_kv (gx_runV (As := [.int zv1]) (rest := []) X hw (c_X11_planArrivals l E N zv0 zv1 zh qzh1) kX11_planArrivals mm_X11_298 qizh1 clX11 ⟨Nat.le_of_ble_eq_true rfl, Nat.le_of_ble_eq_true rfl⟩ rfl rfl rfl hl.1 (Nat.le_of_ble_eq_true rfl) rfl dX11_order_92 ⟨Nat.le_of_ble_eq_true rfl, Nat.le_of_ble_eq_true rfl⟩) hw (fun H locs hw => ?_)
    refine lv_iload_n hx hb dX11_order_95 rfl (lv_at hl 2 rfl) ?_
    refine lv_iconst (v := 2) hx hb dX11_order_96 (by decide) ?_
    refine lv_icmp_lt (tgt := 111) hx hb dX11_order_97 (by decide) (fun qc2 => ?_) (fun qc2 => ?_)
    · have hf := gif_t hf qc2
      refine lv_aload_n hx hb dX11_order_111 rfl (lv_at hl 0 rfl) ?_
      refine lv_iload_n hx hb dX11_order_112 rfl (lv_at hl 1 rfl) ?_
      refine lv_iload_n hx hb dX11_order_113 rfl (lv_at hl 3 rfl) ?_
      refine W.eq (g2 := F0 m 114 ls [.int zv3, .int zv1, .ref (gB E + zv0)]) rfl ?_
      refine lv_iload_n hx hb dX11_order_114 rfl (lv_at hl 2 rfl) ?_
      refine lv_iconst (v := 1) hx hb dX11_order_115 (by decide) ?_
      refine lv_icmp_ne (tgt := 123) hx hb dX11_order_116 (by decide) (fun qc3 => ?_) (fun qc3 => ?_)
      · have hf := gif_f hf qc3
        refine lv_iconst (v := 0) hx hb dX11_order_123 (by decide) ?_
        exact J_124 0 zv3 zv1 zv0 _ _ _ ls hf hw (lv_sub hl [] rfl)
      · have hf := gif_t hf qc3
        refine lv_iconst (v := 1) hx hb dX11_order_119 (by decide) ?_
        refine lv_goto (tgt := 124) hx hb dX11_order_120 (by decide) ?_
        exact J_124 1 zv3 zv1 zv0 _ _ _ ls hf hw (lv_sub hl [] rfl)
    · have hf := gif_f hf qc2
      refine lv_aload_n hx hb dX11_order_100 rfl (lv_at hl 0 rfl) ?_
      obtain ⟨zt4, qzt4, hf⟩ := gb_el hf
      refine gx_getR X hw qzt4 clX11 (by decide) mf_X11_59 dX11_order_101 ?_
      refine lv_iload_n hx hb dX11_order_104 rfl (lv_at hl 2 rfl) ?_
      refine W.eq (g2 := F0 m 105 ls [.int zv2, .ref (gB E + zt4)]) rfl ?_
      refine lv_iconst (v := 2) hx hb dX11_order_105 (by decide) ?_
      refine lv_isub hx hb dX11_order_106 ?_
      obtain ⟨zt5, qzt5, hf⟩ := gb_el hf
      refine gx_iald X hw qzt5 dX11_order_107 ?_
      refine lv_goto (tgt := 127) hx hb dX11_order_108 (by decide) ?_
      exact J_127 zt5 _ _ _ ls hf hw (lv_sub hl [] rfl)
  have J_58 : ∀ (zh : PH) (H : Heap) (locs : List Loc) (ls : Array Slot), f_X11_order_58 N zh = some (r9, h9) → gw E s zh H locs → lv_has ls 4 [] → W p l e rm_X11_order s m [.ref (gB E + za0), .int za1, .int za2].toArray below meth c H locs 0 0 (MQ below (gQi E r9 h9) [.ref (gB E + za0), .int za1, .int za2].toArray s 0 0 (gA E)) (F0 m 58 ls []) := by
    intro zh H locs ls hf hw hl
    unfold f_X11_order_58 at hf
    refine lv_iconst (v := (-1)) hx hb dX11_order_58 (by decide) ?_
    exact gx_iret X hr hlk hw hf dX11_order_59
  have J_30 : ∀ (zh : PH) (H : Heap) (locs : List Loc) (ls : Array Slot), f_X11_order_30 N zh = some (r9, h9) → gw E s zh H locs → lv_has ls 4 [] → W p l e rm_X11_order s m [.ref (gB E + za0), .int za1, .int za2].toArray below meth c H locs 0 0 (MQ below (gQi E r9 h9) [.ref (gB E + za0), .int za1, .int za2].toArray s 0 0 (gA E)) (F0 m 30 ls []) := by
    intro zh H locs ls hf hw hl
    unfold f_X11_order_30 at hf
    refine lv_iconst (v := (-1)) hx hb dX11_order_30 (by decide) ?_
    exact gx_iret X hr hlk hw hf dX11_order_31
  unfold f_X11_order at hf
  refine lv_aload_n hx hb dX11_order_0 rfl (lv_at hl 0 rfl) ?_
  obtain ⟨zt1, qzt1, hf⟩ := gb_el hf
  refine gx_getR X hw qzt1 clX11 (by decide) mf_X11_37 dX11_order_1 ?_
  obtain ⟨zt2, qzt2, hf⟩ := gb_el hf
  refine gx_getI X hw qzt2 clX9 (by decide) mf_X11_283 dX11_order_4 ?_
  obtain ⟨zt4, zh3, qzh3, hf⟩ := gc_el hf
  refine gx_ki (gx_runS (As := [.int zt2]) (rest := []) X hw (c_J6_bitCount_0f7a4 l E N zt2 zh qzh3) kJ6_bitCount_0f7a4 mm_X11_289 ⟨Nat.le_of_ble_eq_true rfl, Nat.le_of_ble_eq_true rfl⟩ rfl rfl rfl hl.1 (Nat.le_of_ble_eq_true rfl) rfl dX11_order_7 ⟨Nat.le_of_ble_eq_true rfl, Nat.le_of_ble_eq_true rfl⟩) hw (fun H locs hw => ?_)
  refine lv_istore_n (lv' := [(3, .int zt4), (0, .ref (gB E + za0)), (1, .int za1), (2, .int za2)]) hx hb dX11_order_10 rfl hl (by decide) rfl (fun ls hl => ?_)
  refine lv_aload_n hx hb dX11_order_11 rfl (lv_at hl 1 rfl) ?_
  refine lv_iload_n hx hb dX11_order_12 rfl (lv_at hl 2 rfl) ?_
  obtain ⟨qizh5, hf⟩ := gg_el hf
  obtain ⟨zt6, zh5, qzh5, hf⟩ := gc_el hf
  refine gx_ki (gx_runV (As := [.int za1]) (rest := []) X hw (c_X11_isGuest l E N za0 za1 zh3 qzh5) kX11_isGuest mm_X11_118 qizh5 clX11 ⟨Nat.le_of_ble_eq_true rfl, Nat.le_of_ble_eq_true rfl⟩ rfl rfl rfl hl.1 (Nat.le_of_ble_eq_true rfl) rfl dX11_order_13 ⟨Nat.le_of_ble_eq_true rfl, Nat.le_of_ble_eq_true rfl⟩) hw (fun H locs hw => ?_)
  refine lv_if_eq (tgt := 30) hx hb dX11_order_16 (by decide) (fun qc7 => ?_) (fun qc7 => ?_)
  · have hf := gif_t hf qc7
    exact J_30  _ _ _ ls hf hw (lv_sub hl [] rfl)
  · have hf := gif_f hf qc7
    refine W.eq (g2 := F0 m 19 ls []) rfl ?_
    refine lv_iload_n hx hb dX11_order_19 rfl (lv_at hl 3 rfl) ?_
    refine lv_if_lt (tgt := 30) hx hb dX11_order_20 (by decide) (fun qc8 => ?_) (fun qc8 => ?_)
    · have hf := gif_t hf qc8
      exact J_30  _ _ _ ls hf hw (lv_sub hl [] rfl)
    · have hf := gif_f hf qc8
      refine lv_iload_n hx hb dX11_order_23 rfl (lv_at hl 3 rfl) ?_
      refine lv_iconst (v := 2) hx hb dX11_order_24 (by decide) ?_
      refine lv_iload_n hx hb dX11_order_25 rfl (lv_at hl 0 rfl) ?_
      refine lv_iadd hx hb dX11_order_26 ?_
      refine lv_icmp_lt (tgt := 32) hx hb dX11_order_27 (by decide) (fun qc9 => ?_) (fun qc9 => ?_)
      · have hf := gif_t hf qc9
        refine lv_iload_n hx hb dX11_order_32 rfl (lv_at hl 0 rfl) ?_
        refine lv_if_eq (tgt := 58) hx hb dX11_order_33 (by decide) (fun qc10 => ?_) (fun qc10 => ?_)
        · have hf := gif_t hf qc10
          exact J_58  _ _ _ ls hf hw (lv_sub hl [] rfl)
        · have hf := gif_f hf qc10
          refine lv_iload_n hx hb dX11_order_36 rfl (lv_at hl 0 rfl) ?_
          refine W.eq (g2 := F0 m 37 ls [.int zt4]) rfl ?_
          refine lv_aload_n hx hb dX11_order_37 rfl (lv_at hl 1 rfl) ?_
          obtain ⟨zt11, qzt11, hf⟩ := gb_el hf
          refine gx_getR X hw qzt11 clX11 (by decide) mf_X11_69 dX11_order_38 ?_
          obtain ⟨zt12, qzt12, hf⟩ := gb_el hf
          refine gx_getI X hw qzt12 clX2 (by decide) mf_X11_230 dX11_order_41 ?_
          refine lv_aload_n hx hb dX11_order_44 rfl (lv_at hl 1 rfl) ?_
          obtain ⟨zt13, qzt13, hf⟩ := gb_el hf
          refine gx_getR X hw qzt13 clX11 (by decide) mf_X11_37 dX11_order_45 ?_
          obtain ⟨zt14, qzt14, hf⟩ := gb_el hf
          refine gx_getR X hw qzt14 clX9 (by decide) mf_X11_112 dX11_order_48 ?_
          obtain ⟨qizh15, hf⟩ := gg_el hf
          obtain ⟨zt16, zh15, qzh15, hf⟩ := gc_el hf
          refine gx_ki (gx_runV (As := []) (rest := [.int zt12, .int zt4]) X hw (c_X1_guestsIn l E N zt14 zh5 qzh15) kX1_guestsIn mm_X11_295 qizh15 clX1 ⟨Nat.le_of_ble_eq_true rfl, Nat.le_of_ble_eq_true rfl⟩ rfl rfl rfl hl.1 (Nat.le_of_ble_eq_true rfl) rfl dX11_order_51 ⟨Nat.le_of_ble_eq_true rfl, Nat.le_of_ble_eq_true rfl⟩) hw (fun H locs hw => ?_)
          refine lv_isub hx hb dX11_order_54 ?_
          refine lv_icmp_le (tgt := 60) hx hb dX11_order_55 (by decide) (fun qc17 => ?_) (fun qc17 => ?_)
          · have hf := gif_t hf qc17
            refine lv_aload_n hx hb dX11_order_60 rfl (lv_at hl 1 rfl) ?_
            refine W.eq (g2 := F0 m 61 ls [.ref (gB E + za0)]) rfl ?_
            obtain ⟨zt18, qzt18, hf⟩ := gb_el hf
            refine gx_getR X hw qzt18 clX11 (by decide) mf_X11_37 dX11_order_61 ?_
            obtain ⟨zt19, qzt19, hf⟩ := gb_el hf
            refine gx_getR X hw qzt19 clX9 (by decide) mf_X11_112 dX11_order_64 ?_
            refine lv_iload_n hx hb dX11_order_67 rfl (lv_at hl 2 rfl) ?_
            obtain ⟨qizh20, hf⟩ := gg_el hf
            obtain ⟨zt21, zh20, qzh20, hf⟩ := gc_el hf
            refine gx_ki (gx_runV (As := [.int za1]) (rest := []) X hw (c_X1_isIn l E N zt19 za1 zh15 qzh20) kX1_isIn mm_X11_286 qizh20 clX1 ⟨Nat.le_of_ble_eq_true rfl, Nat.le_of_ble_eq_true rfl⟩ rfl rfl rfl hl.1 (Nat.le_of_ble_eq_true rfl) rfl dX11_order_68 ⟨Nat.le_of_ble_eq_true rfl, Nat.le_of_ble_eq_true rfl⟩) hw (fun H locs hw => ?_)
            refine lv_if_ne (tgt := 90) hx hb dX11_order_71 (by decide) (fun qc22 => ?_) (fun qc22 => ?_)
            · have hf := gif_f hf qc22
              exact J_90 za0 za1 za2 zt4 _ _ _ ls hf hw (lv_sub hl [1, 2, 3, 0] rfl)
            · have hf := gif_t hf qc22
              refine lv_aload_n hx hb dX11_order_74 rfl (lv_at hl 1 rfl) ?_
              obtain ⟨zt23, qzt23, hf⟩ := gb_el hf
              refine gx_getR X hw qzt23 clX11 (by decide) mf_X11_37 dX11_order_75 ?_
              obtain ⟨zt24, qzt24, hf⟩ := gb_el hf
              refine gx_getI X hw qzt24 clX9 (by decide) mf_X11_283 dX11_order_78 ?_
              refine lv_iload_n hx hb dX11_order_81 rfl (lv_at hl 2 rfl) ?_
              obtain ⟨zt26, zh25, qzh25, hf⟩ := gc_el hf
              refine gx_ki (gx_runS (As := [.int zt24, .int za1]) (rest := []) X hw (c_X11_bitOf l E N zt24 za1 zh20 qzh25) kX11_bitOf mm_X11_127 ⟨Nat.le_of_ble_eq_true rfl, Nat.le_of_ble_eq_true rfl⟩ rfl rfl rfl hl.1 (Nat.le_of_ble_eq_true rfl) rfl dX11_order_82 ⟨Nat.le_of_ble_eq_true rfl, Nat.le_of_ble_eq_true rfl⟩) hw (fun H locs hw => ?_)
              refine W.eq (g2 := F0 m 85 ls [.int zt26]) rfl ?_
              refine lv_if_ne (tgt := 90) hx hb dX11_order_85 (by decide) (fun qc27 => ?_) (fun qc27 => ?_)
              · have hf := gif_f hf qc27
                exact J_90 za0 za1 za2 zt4 _ _ _ ls hf hw (lv_sub hl [1, 2, 3, 0] rfl)
              · have hf := gif_t hf qc27
                refine lv_iconst (v := (-1)) hx hb dX11_order_88 (by decide) ?_
                exact gx_iret X hr hlk hw hf dX11_order_89
          · have hf := gif_f hf qc17
            exact J_58  _ _ _ ls hf hw (lv_sub hl [] rfl)
      · have hf := gif_f hf qc9
        exact J_30  _ _ _ ls hf hw (lv_sub hl [] rfl)
abbrev rm_X11_tried : Room := { frames := 2, cells := 0, slots := 0, locals := 44 }
set_option maxHeartbeats 4000000 in
set_option maxRecDepth 100000 in
theorem c_X11_tried (l : Launch) (E : gE) (N : Nat) (za0 : Nat) (za1 : Int32) (za2 : Int32) (zh : PH) {h9 : PH} {r9 : Int32} (hf : f_X11_tried N za0 za1 za2 zh = some (r9, h9)) : Met l yX11_tried (gWS yX11_tried cX11_tried 4 (some .int)) rm_X11_tried (gPc E [.ref (gB E + za0), .int za1, .int za2] zh) (gQi E r9 h9) 0 0 (gA E) := by
  refine gx_met (by decide) ?_ rfl
  intro p e s m below meth c X hr hlk hin2 hw
  have hx := X.1.1
  have hb := X.1.2.1
  have hl := lv_entry [.ref (gB E + za0), .int za1, .int za2] (n := 4) (Nat.le_of_ble_eq_true rfl)
  rw [lg_entry_eq]
  generalize (lg_sl [.ref (gB E + za0), .int za1, .int za2] ++ List.replicate (4 - (lg_sl [.ref (gB E + za0), .int za1, .int za2]).length) Slot.unset).toArray = ls at hl ⊢
  have hl : lv_has ls 4 [(0, .ref (gB E + za0)), (1, .int za1), (2, .int za2)] := hl
  have J_15 : ∀ (zv0 : Nat) (zv1 : Int32) (zv2 : Int32) (zh : PH) (H : Heap) (locs : List Loc) (ls : Array Slot), f_X11_tried_15 N zv0 zv1 zv2 zh = some (r9, h9) → gw E s zh H locs → lv_has ls 4 [(0, .ref (gB E + zv0)), (1, .int zv1), (2, .int zv2)] → W p l e rm_X11_tried s m [.ref (gB E + za0), .int za1, .int za2].toArray below meth c H locs 0 0 (MQ below (gQi E r9 h9) [.ref (gB E + za0), .int za1, .int za2].toArray s 0 0 (gA E)) (F0 m 15 ls []) := by
    intro zv0 zv1 zv2 zh H locs ls hf hw hl
    unfold f_X11_tried_15 at hf
    refine lv_aload_n hx hb dX11_tried_15 rfl (lv_at hl 0 rfl) ?_
    obtain ⟨zt1, qzt1, hf⟩ := gb_el hf
    refine gx_getR X hw qzt1 clX11 (by decide) mf_X11_37 dX11_tried_16 ?_
    refine lv_iload_n hx hb dX11_tried_19 rfl (lv_at hl 1 rfl) ?_
    obtain ⟨qizh2, hf⟩ := gg_el hf
    obtain ⟨zt3, zh2, qzh2, hf⟩ := gc_el hf
    refine gx_kr (gx_runV (As := [.int zv1]) (rest := []) X hw (c_X9_trialOf l E N zt1 zv1 zh qzh2) kX9_trialOf mm_X11_304 qizh2 clX9 ⟨Nat.le_of_ble_eq_true rfl, Nat.le_of_ble_eq_true rfl⟩ rfl rfl rfl hl.1 (Nat.le_of_ble_eq_true rfl) rfl dX11_tried_20 ⟨Nat.le_of_ble_eq_true rfl, Nat.le_of_ble_eq_true rfl⟩) hw (fun H locs hw => ?_)
    refine lv_astore_n (lv' := [(3, .ref (gB E + zt3)), (0, .ref (gB E + zv0)), (1, .int zv1), (2, .int zv2)]) hx hb dX11_tried_23 rfl hl (by decide) rfl (fun ls hl => ?_)
    refine lv_iload_n hx hb dX11_tried_24 rfl (lv_at hl 3 rfl) ?_
    by_cases qc4 : (zv2 : Int32) = 0
    · have hf := gif_t hf qc4
      refine lv_tableIn (off := 27) (tgt := 52) hx hb dX11_tried_25 (by rw [qc4]; decide) (by rw [qc4]; decide) (by rw [qc4]; rfl) (by decide) ?_
      refine lv_aload_n hx hb dX11_tried_52 rfl (lv_at hl 0 rfl) ?_
      obtain ⟨zt5, qzt5, hf⟩ := gb_el hf
      refine gx_getI X hw qzt5 clX1 (by decide) mf_X11_182 dX11_tried_53 ?_
      refine W.eq (g2 := F0 m 56 ls [.int zt5]) rfl ?_
      exact gx_iret X hr hlk hw hf dX11_tried_56
    have hf := gif_f hf qc4
    by_cases qc6 : (zv2 : Int32) = 1
    · have hf := gif_t hf qc6
      refine lv_tableIn (off := 32) (tgt := 57) hx hb dX11_tried_25 (by rw [qc6]; decide) (by rw [qc6]; decide) (by rw [qc6]; rfl) (by decide) ?_
      refine lv_aload_n hx hb dX11_tried_57 rfl (lv_at hl 0 rfl) ?_
      obtain ⟨zt7, qzt7, hf⟩ := gb_el hf
      refine gx_getI X hw qzt7 clX1 (by decide) mf_X11_185 dX11_tried_58 ?_
      refine W.eq (g2 := F0 m 61 ls [.int zt7]) rfl ?_
      exact gx_iret X hr hlk hw hf dX11_tried_61
    have hf := gif_f hf qc6
    by_cases qc8 : (zv2 : Int32) = 2
    · have hf := gif_t hf qc8
      refine lv_tableIn (off := 37) (tgt := 62) hx hb dX11_tried_25 (by rw [qc8]; decide) (by rw [qc8]; decide) (by rw [qc8]; rfl) (by decide) ?_
      refine lv_aload_n hx hb dX11_tried_62 rfl (lv_at hl 0 rfl) ?_
      obtain ⟨qizh9, hf⟩ := gg_el hf
      obtain ⟨zt10, zh9, qzh9, hf⟩ := gc_el hf
      refine gx_ki (gx_runV (As := []) (rest := []) X hw (c_X1_spreadOfMoves l E N zt3 zh2 qzh9) kX1_spreadOfMoves mm_X11_308 qizh9 clX1 ⟨Nat.le_of_ble_eq_true rfl, Nat.le_of_ble_eq_true rfl⟩ rfl rfl rfl hl.1 (Nat.le_of_ble_eq_true rfl) rfl dX11_tried_63 ⟨Nat.le_of_ble_eq_true rfl, Nat.le_of_ble_eq_true rfl⟩) hw (fun H locs hw => ?_)
      refine W.eq (g2 := F0 m 66 ls [.int zt10]) rfl ?_
      exact gx_iret X hr hlk hw hf dX11_tried_66
    have hf := gif_f hf qc8
    have nqc4 := lv_neT (a := 0) qc4 (by decide)
    have nqc6 := lv_neT (a := 1) qc6 (by decide)
    have nqc8 := lv_neT (a := 2) qc8 (by decide)
    refine lv_tableOut (tgt := 67) hx hb dX11_tried_25 (by omega) (by decide) ?_
    refine lv_iconst (v := (-1)) hx hb dX11_tried_67 (by decide) ?_
    exact gx_iret X hr hlk hw hf dX11_tried_68
  unfold f_X11_tried at hf
  refine lv_iload_n hx hb dX11_tried_0 rfl (lv_at hl 1 rfl) ?_
  refine lv_iconst (v := (-1)) hx hb dX11_tried_1 (by decide) ?_
  refine lv_icmp_eq (tgt := 15) hx hb dX11_tried_2 (by decide) (fun qc1 => ?_) (fun qc1 => ?_)
  · have hf := gif_t hf qc1
    exact J_15 za0 za1 za2 _ _ _ ls hf hw (lv_sub hl [0, 1, 2] rfl)
  · have hf := gif_f hf qc1
    refine lv_aload_n hx hb dX11_tried_5 rfl (lv_at hl 0 rfl) ?_
    refine lv_iload_n hx hb dX11_tried_6 rfl (lv_at hl 1 rfl) ?_
    obtain ⟨qizh2, hf⟩ := gg_el hf
    obtain ⟨zt3, zh2, qzh2, hf⟩ := gc_el hf
    refine gx_ki (gx_runV (As := [.int za1]) (rest := []) X hw (c_X11_isRule l E N za0 za1 zh qzh2) kX11_isRule mm_X11_143 qizh2 clX11 ⟨Nat.le_of_ble_eq_true rfl, Nat.le_of_ble_eq_true rfl⟩ rfl rfl rfl hl.1 (Nat.le_of_ble_eq_true rfl) rfl dX11_tried_7 ⟨Nat.le_of_ble_eq_true rfl, Nat.le_of_ble_eq_true rfl⟩) hw (fun H locs hw => ?_)
    refine lv_if_ne (tgt := 15) hx hb dX11_tried_10 (by decide) (fun qc4 => ?_) (fun qc4 => ?_)
    · have hf := gif_f hf qc4
      exact J_15 za0 za1 za2 _ _ _ ls hf hw (lv_sub hl [0, 1, 2] rfl)
    · have hf := gif_t hf qc4
      refine lv_iconst (v := (-1)) hx hb dX11_tried_13 (by decide) ?_
      exact gx_iret X hr hlk hw hf dX11_tried_14
abbrev rm_X11_best : Room := { frames := 1, cells := 0, slots := 0, locals := 21 }
set_option maxHeartbeats 4000000 in
set_option maxRecDepth 100000 in
theorem c_X11_best (l : Launch) (E : gE) (N : Nat) (za0 : Nat) (zh : PH) {h9 : PH} {r9 : Int32} (hf : f_X11_best N za0 zh = some (r9, h9)) : Met l yX11_best (gWS yX11_best cX11_best 3 (some .int)) rm_X11_best (gPc E [.ref (gB E + za0)] zh) (gQi E r9 h9) 0 0 (gA E) := by
  refine gx_met (by decide) ?_ rfl
  intro p e s m below meth c X hr hlk hin2 hw
  have hx := X.1.1
  have hb := X.1.2.1
  have hl := lv_entry [.ref (gB E + za0)] (n := 3) (Nat.le_of_ble_eq_true rfl)
  rw [lg_entry_eq]
  generalize (lg_sl [.ref (gB E + za0)] ++ List.replicate (3 - (lg_sl [.ref (gB E + za0)]).length) Slot.unset).toArray = ls at hl ⊢
  have hl : lv_has ls 3 [(0, .ref (gB E + za0))] := hl
  have L_4 : ∀ (zn4 : Nat) (zv0 : Nat) (zv1 : Int32) (zv2 : Int32) (zh : PH) (H : Heap) (locs : List Loc) (ls : Array Slot), gi (fun zk zs => f_X11_best_4 N zk zs.1 zs.2.1 zs.2.2.1 zs.2.2.2) zn4 (zv0, zv1, zv2, zh) = some (r9, h9) → gw E s zh H locs → lv_has ls 3 [(0, .ref (gB E + zv0)), (1, .int zv1), (2, .int zv2)] → W p l e rm_X11_best s m [.ref (gB E + za0)].toArray below meth c H locs 0 0 (MQ below (gQi E r9 h9) [.ref (gB E + za0)].toArray s 0 0 (gA E)) (F0 m 4 ls []) := by
    intro zn4
    induction zn4 with
    | zero =>
      intro zv0 zv1 zv2 zh H locs ls hf
      cases hf
    | succ zn4 ih_4 =>
      have J_44 : ∀ (zv0 : Nat) (zv1 : Int32) (zv2 : Int32) (zh : PH) (H : Heap) (locs : List Loc) (ls : Array Slot), f_X11_best_44 N (gi (fun zk zs => f_X11_best_4 N zk zs.1 zs.2.1 zs.2.2.1 zs.2.2.2) zn4) zv0 zv1 zv2 zh = some (r9, h9) → gw E s zh H locs → lv_has ls 3 [(0, .ref (gB E + zv0)), (1, .int zv1), (2, .int zv2)] → W p l e rm_X11_best s m [.ref (gB E + za0)].toArray below meth c H locs 0 0 (MQ below (gQi E r9 h9) [.ref (gB E + za0)].toArray s 0 0 (gA E)) (F0 m 44 ls []) := by
        intro zv0 zv1 zv2 zh H locs ls hf hw hl
        unfold f_X11_best_44 at hf
        obtain ⟨zx1, ezx1⟩ : ∃ y : Int32, y = zv2 + 1 := ⟨_, rfl⟩
        have hf := gl_el hf ezx1
        refine lv_iinc (v := zx1) (lv' := [(2, .int zx1), (0, .ref (gB E + zv0)), (1, .int zv1)]) hx hb dX11_best_44 hl (k := 2) rfl (by rw [ezx1]; rfl) (by decide) rfl (fun ls hl => ?_)
        refine lv_goto (tgt := 4) hx hb dX11_best_47 (by decide) ?_
        exact ih_4 zv0 zv1 zx1 _ _ _ ls hf hw (lv_sub hl [1, 2, 0] rfl)
      have J_42 : ∀ (zv0 : Nat) (zv2 : Int32) (zh : PH) (H : Heap) (locs : List Loc) (ls : Array Slot), f_X11_best_42 N (gi (fun zk zs => f_X11_best_4 N zk zs.1 zs.2.1 zs.2.2.1 zs.2.2.2) zn4) zv0 zv2 zh = some (r9, h9) → gw E s zh H locs → lv_has ls 3 [(0, .ref (gB E + zv0)), (2, .int zv2)] → W p l e rm_X11_best s m [.ref (gB E + za0)].toArray below meth c H locs 0 0 (MQ below (gQi E r9 h9) [.ref (gB E + za0)].toArray s 0 0 (gA E)) (F0 m 42 ls []) := by
        intro zv0 zv2 zh H locs ls hf hw hl
        unfold f_X11_best_42 at hf
        refine lv_iload_n hx hb dX11_best_42 rfl (lv_at hl 1 rfl) ?_
        refine lv_istore_n (lv' := [(1, .int zv2), (0, .ref (gB E + zv0)), (2, .int zv2)]) hx hb dX11_best_43 rfl hl (by decide) rfl (fun ls hl => ?_)
        exact J_44 zv0 zv2 zv2 _ _ _ ls hf hw (lv_sub hl [1, 0, 2] rfl)
      intro zv0 zv1 zv2 zh H locs ls hf hw hl
      have hf := gi_s hf
      dsimp only at hf
      unfold f_X11_best_4 at hf
      refine lv_iload_n hx hb dX11_best_4 rfl (lv_at hl 2 rfl) ?_
      refine lv_aload_n hx hb dX11_best_5 rfl (lv_at hl 0 rfl) ?_
      obtain ⟨zt1, qzt1, hf⟩ := gb_el hf
      refine gx_getR X hw qzt1 clX11 (by decide) mf_X11_69 dX11_best_6 ?_
      obtain ⟨zt2, qzt2, hf⟩ := gb_el hf
      refine gx_getI X hw qzt2 clX2 (by decide) mf_X11_91 dX11_best_9 ?_
      refine lv_icmp_ge (tgt := 50) hx hb dX11_best_12 (by decide) (fun qc3 => ?_) (fun qc3 => ?_)
      · have hf := gif_t hf qc3
        refine lv_iload_n hx hb dX11_best_50 rfl (lv_at hl 1 rfl) ?_
        exact gx_iret X hr hlk hw hf dX11_best_51
      · have hf := gif_f hf qc3
        refine lv_iload_n hx hb dX11_best_15 rfl (lv_at hl 1 rfl) ?_
        refine lv_iconst (v := (-1)) hx hb dX11_best_16 (by decide) ?_
        refine lv_icmp_eq (tgt := 42) hx hb dX11_best_17 (by decide) (fun qc4 => ?_) (fun qc4 => ?_)
        · have hf := gif_t hf qc4
          exact J_42 zv0 zv2 _ _ _ ls hf hw (lv_sub hl [0, 2] rfl)
        · have hf := gif_f hf qc4
          refine lv_aload_n hx hb dX11_best_20 rfl (lv_at hl 0 rfl) ?_
          refine W.eq (g2 := F0 m 21 ls [.ref (gB E + zv0)]) rfl ?_
          obtain ⟨zt5, qzt5, hf⟩ := gb_el hf
          refine gx_getR X hw qzt5 clX11 (by decide) mf_X11_37 dX11_best_21 ?_
          refine lv_iload_n hx hb dX11_best_24 rfl (lv_at hl 2 rfl) ?_
          obtain ⟨qizh6, hf⟩ := gg_el hf
          obtain ⟨zt7, zh6, qzh6, hf⟩ := gc_el hf
          refine gx_kr (gx_runV (As := [.int zv2]) (rest := []) X hw (c_X9_trialOf l E N zt5 zv2 zh qzh6) kX9_trialOf mm_X11_304 qizh6 clX9 ⟨Nat.le_of_ble_eq_true rfl, Nat.le_of_ble_eq_true rfl⟩ rfl rfl rfl hl.1 (Nat.le_of_ble_eq_true rfl) rfl dX11_best_25 ⟨Nat.le_of_ble_eq_true rfl, Nat.le_of_ble_eq_true rfl⟩) hw (fun H locs hw => ?_)
          refine lv_aload_n hx hb dX11_best_28 rfl (lv_at hl 0 rfl) ?_
          obtain ⟨zt8, qzt8, hf⟩ := gb_el hf
          refine gx_getR X hw qzt8 clX11 (by decide) mf_X11_37 dX11_best_29 ?_
          refine lv_iload_n hx hb dX11_best_32 rfl (lv_at hl 1 rfl) ?_
          obtain ⟨qizh9, hf⟩ := gg_el hf
          obtain ⟨zt10, zh9, qzh9, hf⟩ := gc_el hf
          refine gx_kr (gx_runV (As := [.int zv1]) (rest := [.ref (gB E + zt7)]) X hw (c_X9_trialOf l E N zt8 zv1 zh6 qzh9) kX9_trialOf mm_X11_304 qizh9 clX9 ⟨Nat.le_of_ble_eq_true rfl, Nat.le_of_ble_eq_true rfl⟩ rfl rfl rfl hl.1 (Nat.le_of_ble_eq_true rfl) rfl dX11_best_33 ⟨Nat.le_of_ble_eq_true rfl, Nat.le_of_ble_eq_true rfl⟩) hw (fun H locs hw => ?_)
          obtain ⟨qizh11, hf⟩ := gg_el hf
          obtain ⟨zt12, zh11, qzh11, hf⟩ := gc_el hf
          refine gx_ki (gx_runV (As := [.ref (gB E + zt10)]) (rest := []) X hw (c_X1_isBetterThan l E N zt7 zt10 zh9 qzh11) kX1_isBetterThan mm_X11_311 qizh11 clX1 ⟨Nat.le_of_ble_eq_true rfl, Nat.le_of_ble_eq_true rfl⟩ rfl rfl rfl hl.1 (Nat.le_of_ble_eq_true rfl) rfl dX11_best_36 ⟨Nat.le_of_ble_eq_true rfl, Nat.le_of_ble_eq_true rfl⟩) hw (fun H locs hw => ?_)
          refine lv_if_eq (tgt := 44) hx hb dX11_best_39 (by decide) (fun qc13 => ?_) (fun qc13 => ?_)
          · have hf := gif_t hf qc13
            exact J_44 zv0 zv1 zv2 _ _ _ ls hf hw (lv_sub hl [0, 1, 2] rfl)
          · have hf := gif_f hf qc13
            exact J_42 zv0 zv2 _ _ _ ls hf hw (lv_sub hl [0, 2] rfl)
  unfold f_X11_best at hf
  refine lv_iconst (v := (-1)) hx hb dX11_best_0 (by decide) ?_
  refine lv_istore_n (lv' := [(1, .int (-1)), (0, .ref (gB E + za0))]) hx hb dX11_best_1 rfl hl (by decide) rfl (fun ls hl => ?_)
  refine lv_iconst (v := 0) hx hb dX11_best_2 (by decide) ?_
  refine lv_istore_n (lv' := [(2, .int 0), (1, .int (-1)), (0, .ref (gB E + za0))]) hx hb dX11_best_3 rfl hl (by decide) rfl (fun ls hl => ?_)
  exact L_4 N za0 (-1) 0 _ _ _ ls hf hw (lv_sub hl [2, 1, 0] rfl)
abbrev rm_X11_goBackTo : Room := { frames := 3, cells := 0, slots := 0, locals := 107 }
set_option maxHeartbeats 4000000 in
set_option maxRecDepth 100000 in
theorem c_X11_goBackTo (l : Launch) (E : gE) (N : Nat) (za0 : Nat) (za1 : Int32) (zh : PH) {h9 : PH} {r9 : Int32} (hf : f_X11_goBackTo N za0 za1 zh = some (r9, h9)) : Met l yX11_goBackTo (gWS yX11_goBackTo cX11_goBackTo 2 (some .boolean)) rm_X11_goBackTo (gPc E [.ref (gB E + za0), .int za1] zh) (gQi E r9 h9) 0 0 (gA E) := by
  refine gx_met (by decide) ?_ rfl
  intro p e s m below meth c X hr hlk hin2 hw
  have hx := X.1.1
  have hb := X.1.2.1
  have hl := lv_entry [.ref (gB E + za0), .int za1] (n := 2) (Nat.le_of_ble_eq_true rfl)
  rw [lg_entry_eq]
  generalize (lg_sl [.ref (gB E + za0), .int za1] ++ List.replicate (2 - (lg_sl [.ref (gB E + za0), .int za1]).length) Slot.unset).toArray = ls at hl ⊢
  have hl : lv_has ls 2 [(0, .ref (gB E + za0)), (1, .int za1)] := hl
  have J_20 : ∀ (zh : PH) (H : Heap) (locs : List Loc) (ls : Array Slot), f_X11_goBackTo_20 N zh = some (r9, h9) → gw E s zh H locs → lv_has ls 2 [] → W p l e rm_X11_goBackTo s m [.ref (gB E + za0), .int za1].toArray below meth c H locs 0 0 (MQ below (gQi E r9 h9) [.ref (gB E + za0), .int za1].toArray s 0 0 (gA E)) (F0 m 20 ls []) := by
    intro zh H locs ls hf hw hl
    unfold f_X11_goBackTo_20 at hf
    refine lv_iconst (v := 0) hx hb dX11_goBackTo_20 (by decide) ?_
    exact gx_zret X hr hlk hw hf dX11_goBackTo_21
  unfold f_X11_goBackTo at hf
  refine lv_aload_n hx hb dX11_goBackTo_0 rfl (lv_at hl 0 rfl) ?_
  obtain ⟨zt1, qzt1, hf⟩ := gb_el hf
  refine gx_getI X hw qzt1 clX11 (by decide) mf_X11_99 dX11_goBackTo_1 ?_
  refine lv_iload_n hx hb dX11_goBackTo_4 rfl (lv_at hl 1 rfl) ?_
  obtain ⟨zt3, zh2, qzh2, hf⟩ := gc_el hf
  refine gx_ki (gx_runS (As := [.int zt1, .int za1]) (rest := []) X hw (c_X11_bitOf l E N zt1 za1 zh qzh2) kX11_bitOf mm_X11_127 ⟨Nat.le_of_ble_eq_true rfl, Nat.le_of_ble_eq_true rfl⟩ rfl rfl rfl hl.1 (Nat.le_of_ble_eq_true rfl) rfl dX11_goBackTo_5 ⟨Nat.le_of_ble_eq_true rfl, Nat.le_of_ble_eq_true rfl⟩) hw (fun H locs hw => ?_)
  refine lv_if_eq (tgt := 20) hx hb dX11_goBackTo_8 (by decide) (fun qc4 => ?_) (fun qc4 => ?_)
  · have hf := gif_t hf qc4
    exact J_20  _ _ _ ls hf hw (lv_sub hl [] rfl)
  · have hf := gif_f hf qc4
    refine lv_aload_n hx hb dX11_goBackTo_11 rfl (lv_at hl 0 rfl) ?_
    obtain ⟨zt5, qzt5, hf⟩ := gb_el hf
    refine gx_getR X hw qzt5 clX11 (by decide) mf_X11_41 dX11_goBackTo_12 ?_
    refine lv_iload_n hx hb dX11_goBackTo_15 rfl (lv_at hl 1 rfl) ?_
    obtain ⟨zt6, qzt6, hf⟩ := gb_el hf
    refine gx_aald X hw qzt6 rfl dX11_goBackTo_16 ?_
    refine W.eq (g2 := F0 m 17 ls [gq E zt6]) rfl ?_
    cases zt6 with
    | none =>
      have hf := gqm_n hf
      have hl : lv_has ls 2 [(0, .ref (gB E + za0)), (1, .int za1)] := hl
      refine lv_ifnonnullN hx hb dX11_goBackTo_17 ?_
      exact J_20  _ _ _ ls hf hw (lv_sub hl [] rfl)
    | some zp7 =>
      have hf := gqm_s hf
      have hl : lv_has ls 2 [(0, .ref (gB E + za0)), (1, .int za1)] := hl
      refine lv_ifnonnull (tgt := 22) hx hb dX11_goBackTo_17 (by decide) ?_
      refine lv_aload_n hx hb dX11_goBackTo_22 rfl (lv_at hl 0 rfl) ?_
      obtain ⟨zt8, qzt8, hf⟩ := gb_el hf
      refine gx_getR X hw qzt8 clX11 (by decide) mf_X11_37 dX11_goBackTo_23 ?_
      refine lv_aload_n hx hb dX11_goBackTo_26 rfl (lv_at hl 0 rfl) ?_
      obtain ⟨zt9, qzt9, hf⟩ := gb_el hf
      refine gx_getR X hw qzt9 clX11 (by decide) mf_X11_41 dX11_goBackTo_27 ?_
      refine lv_iload_n hx hb dX11_goBackTo_30 rfl (lv_at hl 1 rfl) ?_
      obtain ⟨zt10, qzt10, hf⟩ := gb_el hf
      refine gx_aaldR X hw qzt10 rfl dX11_goBackTo_31 ?_
      obtain ⟨qizh11, hf⟩ := gg_el hf
      obtain ⟨zh11, qzh11, hf⟩ := gb_el hf
      refine gx_kv (gx_runV (As := [.ref (gB E + zt10)]) (rest := []) X hw (c_X9_copyFrom l E N zt8 zt10 zh2 qzh11) kX9_copyFrom mm_X11_318 qizh11 clX9 ⟨Nat.le_of_ble_eq_true rfl, Nat.le_of_ble_eq_true rfl⟩ rfl rfl rfl hl.1 (Nat.le_of_ble_eq_true rfl) rfl dX11_goBackTo_32 ⟨Nat.le_of_ble_eq_true rfl, Nat.le_of_ble_eq_true rfl⟩) hw (fun H locs hw => ?_)
      refine lv_iconst (v := 1) hx hb dX11_goBackTo_35 (by decide) ?_
      exact gx_zret X hr hlk hw hf dX11_goBackTo_36
abbrev rm_X11_mark : Room := { frames := 4, cells := 52, slots := 1512, locals := 128 }
set_option maxHeartbeats 4000000 in
set_option maxRecDepth 100000 in
theorem c_X11_mark (l : Launch) (E : gE) (N : Nat) (za0 : Nat) (za1 : Int32) (za2 : Int32) (zh : PH) {h9 : PH} {r9 : Int32} (hf : f_X11_mark N za0 za1 za2 zh = some (r9, h9)) : Met l yX11_mark (gWS yX11_mark cX11_mark 3 (some .boolean)) rm_X11_mark (gPc E [.ref (gB E + za0), .int za1, .int za2] zh) (gQi E r9 h9) 52 1512 (gA E) := by
  refine gx_met (by decide) ?_ rfl
  intro p e s m below meth c X hr hlk hin2 hw
  have hx := X.1.1
  have hb := X.1.2.1
  have hl := lv_entry [.ref (gB E + za0), .int za1, .int za2] (n := 3) (Nat.le_of_ble_eq_true rfl)
  rw [lg_entry_eq]
  generalize (lg_sl [.ref (gB E + za0), .int za1, .int za2] ++ List.replicate (3 - (lg_sl [.ref (gB E + za0), .int za1, .int za2]).length) Slot.unset).toArray = ls at hl ⊢
  have hl : lv_has ls 3 [(0, .ref (gB E + za0)), (1, .int za1), (2, .int za2)] := hl
  have J_47 : ∀ (zv0 : Nat) (zv1 : Int32) (zh : PH) (H : Heap) (locs : List Loc) (ls : Array Slot), f_X11_mark_47 N zv0 zv1 zh = some (r9, h9) → gw E s zh H locs → lv_has ls 3 [(0, .ref (gB E + zv0)), (1, .int zv1)] → W p l e rm_X11_mark s m [.ref (gB E + za0), .int za1, .int za2].toArray below meth c H locs 52 1512 (MQ below (gQi E r9 h9) [.ref (gB E + za0), .int za1, .int za2].toArray s 52 1512 (gA E)) (F0 m 47 ls []) := by
    intro zv0 zv1 zh H locs ls hf hw hl
    unfold f_X11_mark_47 at hf
    refine lv_aload_n hx hb dX11_mark_47 rfl (lv_at hl 0 rfl) ?_
    obtain ⟨zt1, qzt1, hf⟩ := gb_el hf
    refine gx_getR X hw qzt1 clX11 (by decide) mf_X11_41 dX11_mark_48 ?_
    refine lv_iload_n hx hb dX11_mark_51 rfl (lv_at hl 1 rfl) ?_
    obtain ⟨zt2, qzt2, hf⟩ := gb_el hf
    refine gx_aaldR X hw qzt2 rfl dX11_mark_52 ?_
    refine lv_aload_n hx hb dX11_mark_53 rfl (lv_at hl 0 rfl) ?_
    obtain ⟨zt3, qzt3, hf⟩ := gb_el hf
    refine gx_getR X hw qzt3 clX11 (by decide) mf_X11_37 dX11_mark_54 ?_
    obtain ⟨qizh4, hf⟩ := gg_el hf
    obtain ⟨zh4, qzh4, hf⟩ := gb_el hf
    refine gx_kv (gx_runV (As := [.ref (gB E + zt3)]) (rest := []) X hw (c_X9_copyFrom l E N zt2 zt3 zh qzh4) kX9_copyFrom mm_X11_318 qizh4 clX9 ⟨Nat.le_of_ble_eq_true rfl, Nat.le_of_ble_eq_true rfl⟩ rfl rfl rfl hl.1 (Nat.le_of_ble_eq_true rfl) rfl dX11_mark_57 ⟨Nat.le_of_ble_eq_true rfl, Nat.le_of_ble_eq_true rfl⟩) hw (fun H locs hw => ?_)
    refine lv_aload_n hx hb dX11_mark_60 rfl (lv_at hl 0 rfl) ?_
    refine lv_dup hx hb dX11_mark_61 rfl ?_
    refine W.eq (g2 := F0 m 62 ls [.ref (gB E + zv0), .ref (gB E + zv0)]) rfl ?_
    obtain ⟨zt5, qzt5, hf⟩ := gb_el hf
    refine gx_getI X hw qzt5 clX11 (by decide) mf_X11_99 dX11_mark_62 ?_
    refine lv_iconst (v := 1) hx hb dX11_mark_65 (by decide) ?_
    refine lv_iload_n hx hb dX11_mark_66 rfl (lv_at hl 1 rfl) ?_
    refine lv_ishl hx hb dX11_mark_67 ?_
    refine lv_ior hx hb dX11_mark_68 ?_
    obtain ⟨zh6, qzh6, hf⟩ := gb_el hf
    refine gx_putV X hw qzh6 clX11 (by decide) mf_X11_99 rfl rfl rfl dX11_mark_69 (fun H locs hw => ?_)
    refine lv_iconst (v := 1) hx hb dX11_mark_72 (by decide) ?_
    exact gx_zret X hr hlk hw hf dX11_mark_73
  have J_9 : ∀ (zh : PH) (H : Heap) (locs : List Loc) (ls : Array Slot), f_X11_mark_9 N zh = some (r9, h9) → gw E s zh H locs → lv_has ls 3 [] → W p l e rm_X11_mark s m [.ref (gB E + za0), .int za1, .int za2].toArray below meth c H locs 52 1512 (MQ below (gQi E r9 h9) [.ref (gB E + za0), .int za1, .int za2].toArray s 52 1512 (gA E)) (F0 m 9 ls []) := by
    intro zh H locs ls hf hw hl
    unfold f_X11_mark_9 at hf
    refine lv_iconst (v := 0) hx hb dX11_mark_9 (by decide) ?_
    exact gx_zret X hr hlk hw hf dX11_mark_10
  unfold f_X11_mark at hf
  refine lv_iload_n hx hb dX11_mark_0 rfl (lv_at hl 1 rfl) ?_
  refine lv_if_lt (tgt := 9) hx hb dX11_mark_1 (by decide) (fun qc1 => ?_) (fun qc1 => ?_)
  · have hf := gif_t hf qc1
    refine W.widen (k := 52) (n := 1512) (Nat.le_of_ble_eq_true rfl) (Nat.le_of_ble_eq_true rfl) ?_
    exact J_9  _ _ _ ls hf hw (lv_sub hl [] rfl)
  · have hf := gif_f hf qc1
    refine lv_iload_n hx hb dX11_mark_4 rfl (lv_at hl 1 rfl) ?_
    refine lv_iconst (v := 4) hx hb dX11_mark_5 (by decide) ?_
    refine lv_icmp_lt (tgt := 11) hx hb dX11_mark_6 (by decide) (fun qc2 => ?_) (fun qc2 => ?_)
    · have hf := gif_t hf qc2
      refine lv_iload_n hx hb dX11_mark_11 rfl (lv_at hl 2 rfl) ?_
      refine lv_if_eq (tgt := 21) hx hb dX11_mark_12 (by decide) (fun qc3 => ?_) (fun qc3 => ?_)
      · have hf := gif_t hf qc3
        refine lv_aload_n hx hb dX11_mark_21 rfl (lv_at hl 0 rfl) ?_
        obtain ⟨zt4, qzt4, hf⟩ := gb_el hf
        refine gx_getR X hw qzt4 clX11 (by decide) mf_X11_41 dX11_mark_22 ?_
        refine W.eq (g2 := F0 m 25 ls [.ref (gB E + zt4)]) rfl ?_
        refine lv_iload_n hx hb dX11_mark_25 rfl (lv_at hl 1 rfl) ?_
        obtain ⟨zt5, qzt5, hf⟩ := gb_el hf
        refine gx_aald X hw qzt5 rfl dX11_mark_26 ?_
        cases zt5 with
        | none =>
          have hf := gqm_n hf
          have hl : lv_has ls 3 [(0, .ref (gB E + za0)), (1, .int za1), (2, .int za2)] := hl
          refine lv_ifnonnullN hx hb dX11_mark_27 ?_
          refine lv_aload_n hx hb dX11_mark_30 rfl (lv_at hl 0 rfl) ?_
          obtain ⟨zt7, qzt7, hf⟩ := gb_el hf
          refine gx_getR X hw qzt7 clX11 (by decide) mf_X11_41 dX11_mark_31 ?_
          refine lv_iload_n hx hb dX11_mark_34 rfl (lv_at hl 1 rfl) ?_
          obtain ⟨zr9, zh8, qzh8, hf⟩ := gc_el hf
          refine gx_new X hw qzh8 clX9 n1X9 ml_X11_32 mN_X9 mI_X9 (Nat.le_of_ble_eq_true rfl) (Nat.le_of_ble_eq_true rfl) dX11_mark_35 (fun H hw => ?_)
          refine lv_dup hx hb dX11_mark_38 rfl ?_
          refine lv_aload_n hx hb dX11_mark_39 rfl (lv_at hl 0 rfl) ?_
          obtain ⟨zt10, qzt10, hf⟩ := gb_el hf
          refine gx_getR X hw qzt10 clX11 (by decide) mf_X11_28 dX11_mark_40 ?_
          refine W.eq (g2 := F0 m 43 ls [.ref (gB E + zt10), .ref (gB E + zr9), .ref (gB E + zr9), .int za1, .ref (gB E + zt7)]) rfl ?_
          obtain ⟨zh11, qzh11, hf⟩ := gb_el hf
          refine gx_kv (gx_runI (As := [.ref (gB E + zt10)]) (rest := [.ref (gB E + zr9), .int za1, .ref (gB E + zt7)]) X hw (c_X9_init l E N zr9 zt10 zh8 qzh11) kX9_init mm_X11_34 ⟨Nat.le_of_ble_eq_true rfl, Nat.le_of_ble_eq_true rfl⟩ rfl rfl rfl hl.1 (Nat.le_of_ble_eq_true rfl) rfl dX11_mark_43 ⟨Nat.le_of_ble_eq_true rfl, Nat.le_of_ble_eq_true rfl⟩) hw (fun H locs hw => ?_)
          obtain ⟨zh12, qzh12, hf⟩ := gb_el hf
          refine gx_aast X hw qzh12 clX9 rfl dX11_mark_46 (fun H locs hw => ?_)
          exact J_47 za0 za1 _ _ _ ls hf hw (lv_sub hl [0, 1] rfl)
        | some zp6 =>
          have hf := gqm_s hf
          have hl : lv_has ls 3 [(0, .ref (gB E + za0)), (1, .int za1), (2, .int za2)] := hl
          refine lv_ifnonnull (tgt := 47) hx hb dX11_mark_27 (by decide) ?_
          refine W.widen (k := 52) (n := 1512) (Nat.le_of_ble_eq_true rfl) (Nat.le_of_ble_eq_true rfl) ?_
          exact J_47 za0 za1 _ _ _ ls hf hw (lv_sub hl [0, 1] rfl)
      · have hf := gif_f hf qc3
        refine lv_aload_n hx hb dX11_mark_15 rfl (lv_at hl 0 rfl) ?_
        refine lv_iload_n hx hb dX11_mark_16 rfl (lv_at hl 1 rfl) ?_
        refine W.eq (g2 := F0 m 17 ls [.int za1, .ref (gB E + za0)]) rfl ?_
        obtain ⟨qizh13, hf⟩ := gg_el hf
        obtain ⟨zt14, zh13, qzh13, hf⟩ := gc_el hf
        refine gx_ki (gx_runV (As := [.int za1]) (rest := []) X hw (c_X11_goBackTo l E N za0 za1 zh qzh13) kX11_goBackTo mm_X11_315 qizh13 clX11 ⟨Nat.le_of_ble_eq_true rfl, Nat.le_of_ble_eq_true rfl⟩ rfl rfl rfl hl.1 (Nat.le_of_ble_eq_true rfl) rfl dX11_mark_17 ⟨Nat.le_of_ble_eq_true rfl, Nat.le_of_ble_eq_true rfl⟩) hw (fun H locs hw => ?_)
        refine W.widen (k := 52) (n := 1512) (Nat.le_of_ble_eq_true rfl) (Nat.le_of_ble_eq_true rfl) ?_
        exact gx_zret X hr hlk hw hf dX11_mark_20
    · have hf := gif_f hf qc2
      refine W.widen (k := 52) (n := 1512) (Nat.le_of_ble_eq_true rfl) (Nat.le_of_ble_eq_true rfl) ?_
      exact J_9  _ _ _ ls hf hw (lv_sub hl [] rfl)
abbrev rm_X11_count : Room := { frames := 1, cells := 0, slots := 0, locals := 22 }
set_option maxHeartbeats 4000000 in
set_option maxRecDepth 100000 in
theorem c_X11_count (l : Launch) (E : gE) (N : Nat) (za0 : Nat) (za1 : Int32) (zh : PH) {h9 : PH} {r9 : Int32} (hf : f_X11_count N za0 za1 zh = some (r9, h9)) : Met l yX11_count (gWS yX11_count cX11_count 2 (some .int)) rm_X11_count (gPc E [.ref (gB E + za0), .int za1] zh) (gQi E r9 h9) 0 0 (gA E) := by
  refine gx_met (by decide) ?_ rfl
  intro p e s m below meth c X hr hlk hin2 hw
  have hx := X.1.1
  have hb := X.1.2.1
  have hl := lv_entry [.ref (gB E + za0), .int za1] (n := 2) (Nat.le_of_ble_eq_true rfl)
  rw [lg_entry_eq]
  generalize (lg_sl [.ref (gB E + za0), .int za1] ++ List.replicate (2 - (lg_sl [.ref (gB E + za0), .int za1]).length) Slot.unset).toArray = ls at hl ⊢
  have hl : lv_has ls 2 [(0, .ref (gB E + za0)), (1, .int za1)] := hl
  unfold f_X11_count at hf
  refine lv_iload_n hx hb dX11_count_0 rfl (lv_at hl 1 rfl) ?_
  by_cases qc1 : (za1 : Int32) = 0
  · have hf := gif_t hf qc1
    refine lv_tableIn (off := 59) (tgt := 60) hx hb dX11_count_1 (by rw [qc1]; decide) (by rw [qc1]; decide) (by rw [qc1]; rfl) (by decide) ?_
    refine lv_aload_n hx hb dX11_count_60 rfl (lv_at hl 0 rfl) ?_
    obtain ⟨zt2, qzt2, hf⟩ := gb_el hf
    refine gx_getR X hw qzt2 clX11 (by decide) mf_X11_69 dX11_count_61 ?_
    obtain ⟨zt3, qzt3, hf⟩ := gb_el hf
    refine gx_getI X hw qzt3 clX2 (by decide) mf_X11_230 dX11_count_64 ?_
    exact gx_iret X hr hlk hw hf dX11_count_67
  have hf := gif_f hf qc1
  by_cases qc4 : (za1 : Int32) = 1
  · have hf := gif_t hf qc4
    refine lv_tableIn (off := 67) (tgt := 68) hx hb dX11_count_1 (by rw [qc4]; decide) (by rw [qc4]; decide) (by rw [qc4]; rfl) (by decide) ?_
    refine lv_aload_n hx hb dX11_count_68 rfl (lv_at hl 0 rfl) ?_
    obtain ⟨zt5, qzt5, hf⟩ := gb_el hf
    refine gx_getR X hw qzt5 clX11 (by decide) mf_X11_69 dX11_count_69 ?_
    obtain ⟨zt6, qzt6, hf⟩ := gb_el hf
    refine gx_getI X hw qzt6 clX2 (by decide) mf_X11_322 dX11_count_72 ?_
    exact gx_iret X hr hlk hw hf dX11_count_75
  have hf := gif_f hf qc4
  by_cases qc7 : (za1 : Int32) = 2
  · have hf := gif_t hf qc7
    refine lv_tableIn (off := 75) (tgt := 76) hx hb dX11_count_1 (by rw [qc7]; decide) (by rw [qc7]; decide) (by rw [qc7]; rfl) (by decide) ?_
    refine lv_aload_n hx hb dX11_count_76 rfl (lv_at hl 0 rfl) ?_
    obtain ⟨zt8, qzt8, hf⟩ := gb_el hf
    refine gx_getR X hw qzt8 clX11 (by decide) mf_X11_69 dX11_count_77 ?_
    obtain ⟨zt9, qzt9, hf⟩ := gb_el hf
    refine gx_getI X hw qzt9 clX2 (by decide) mf_X11_91 dX11_count_80 ?_
    exact gx_iret X hr hlk hw hf dX11_count_83
  have hf := gif_f hf qc7
  by_cases qc10 : (za1 : Int32) = 3
  · have hf := gif_t hf qc10
    refine lv_tableIn (off := 83) (tgt := 84) hx hb dX11_count_1 (by rw [qc10]; decide) (by rw [qc10]; decide) (by rw [qc10]; rfl) (by decide) ?_
    refine lv_aload_n hx hb dX11_count_84 rfl (lv_at hl 0 rfl) ?_
    obtain ⟨zt11, qzt11, hf⟩ := gb_el hf
    refine gx_getR X hw qzt11 clX11 (by decide) mf_X11_37 dX11_count_85 ?_
    obtain ⟨zt12, qzt12, hf⟩ := gb_el hf
    refine gx_getR X hw qzt12 clX9 (by decide) mf_X11_112 dX11_count_88 ?_
    obtain ⟨qizh13, hf⟩ := gg_el hf
    obtain ⟨zt14, zh13, qzh13, hf⟩ := gc_el hf
    refine gx_ki (gx_runV (As := []) (rest := []) X hw (c_X1_guestsIn l E N zt12 zh qzh13) kX1_guestsIn mm_X11_295 qizh13 clX1 ⟨Nat.le_of_ble_eq_true rfl, Nat.le_of_ble_eq_true rfl⟩ rfl rfl rfl hl.1 (Nat.le_of_ble_eq_true rfl) rfl dX11_count_91 ⟨Nat.le_of_ble_eq_true rfl, Nat.le_of_ble_eq_true rfl⟩) hw (fun H locs hw => ?_)
    exact gx_iret X hr hlk hw hf dX11_count_94
  have hf := gif_f hf qc10
  by_cases qc15 : (za1 : Int32) = 4
  · have hf := gif_t hf qc15
    refine lv_tableIn (off := 94) (tgt := 95) hx hb dX11_count_1 (by rw [qc15]; decide) (by rw [qc15]; decide) (by rw [qc15]; rfl) (by decide) ?_
    refine lv_aload_n hx hb dX11_count_95 rfl (lv_at hl 0 rfl) ?_
    obtain ⟨zt16, qzt16, hf⟩ := gb_el hf
    refine gx_getR X hw qzt16 clX11 (by decide) mf_X11_37 dX11_count_96 ?_
    obtain ⟨zt17, qzt17, hf⟩ := gb_el hf
    refine gx_getI X hw qzt17 clX9 (by decide) mf_X11_146 dX11_count_99 ?_
    exact gx_iret X hr hlk hw hf dX11_count_102
  have hf := gif_f hf qc15
  by_cases qc18 : (za1 : Int32) = 5
  · have hf := gif_t hf qc18
    refine lv_tableIn (off := 102) (tgt := 103) hx hb dX11_count_1 (by rw [qc18]; decide) (by rw [qc18]; decide) (by rw [qc18]; rfl) (by decide) ?_
    refine lv_aload_n hx hb dX11_count_103 rfl (lv_at hl 0 rfl) ?_
    obtain ⟨zt19, qzt19, hf⟩ := gb_el hf
    refine gx_getR X hw qzt19 clX11 (by decide) mf_X11_37 dX11_count_104 ?_
    obtain ⟨zt20, qzt20, hf⟩ := gb_el hf
    refine gx_getR X hw qzt20 clX9 (by decide) mf_X11_210 dX11_count_107 ?_
    obtain ⟨zt21, qzt21, hf⟩ := gb_el hf
    refine gx_getI X hw qzt21 clX8 (by decide) mf_X11_220 dX11_count_110 ?_
    exact gx_iret X hr hlk hw hf dX11_count_113
  have hf := gif_f hf qc18
  by_cases qc22 : (za1 : Int32) = 6
  · have hf := gif_t hf qc22
    refine lv_tableIn (off := 113) (tgt := 114) hx hb dX11_count_1 (by rw [qc22]; decide) (by rw [qc22]; decide) (by rw [qc22]; rfl) (by decide) ?_
    refine lv_aload_n hx hb dX11_count_114 rfl (lv_at hl 0 rfl) ?_
    obtain ⟨zt23, qzt23, hf⟩ := gb_el hf
    refine gx_getR X hw qzt23 clX11 (by decide) mf_X11_37 dX11_count_115 ?_
    obtain ⟨zt24, qzt24, hf⟩ := gb_el hf
    refine gx_getR X hw qzt24 clX9 (by decide) mf_X11_233 dX11_count_118 ?_
    obtain ⟨qizh25, hf⟩ := gg_el hf
    obtain ⟨zt26, zh25, qzh25, hf⟩ := gc_el hf
    refine gx_ki (gx_runV (As := []) (rest := []) X hw (c_X6_pages l E N zt24 zh qzh25) kX6_pages mm_X11_242 qizh25 clX6 ⟨Nat.le_of_ble_eq_true rfl, Nat.le_of_ble_eq_true rfl⟩ rfl rfl rfl hl.1 (Nat.le_of_ble_eq_true rfl) rfl dX11_count_121 ⟨Nat.le_of_ble_eq_true rfl, Nat.le_of_ble_eq_true rfl⟩) hw (fun H locs hw => ?_)
    exact gx_iret X hr hlk hw hf dX11_count_124
  have hf := gif_f hf qc22
  by_cases qc27 : (za1 : Int32) = 7
  · have hf := gif_t hf qc27
    refine lv_tableIn (off := 124) (tgt := 125) hx hb dX11_count_1 (by rw [qc27]; decide) (by rw [qc27]; decide) (by rw [qc27]; rfl) (by decide) ?_
    refine lv_aload_n hx hb dX11_count_125 rfl (lv_at hl 0 rfl) ?_
    obtain ⟨zt28, qzt28, hf⟩ := gb_el hf
    refine gx_getR X hw qzt28 clX11 (by decide) mf_X11_37 dX11_count_126 ?_
    obtain ⟨zt29, qzt29, hf⟩ := gb_el hf
    refine gx_getR X hw qzt29 clX9 (by decide) mf_X11_256 dX11_count_129 ?_
    obtain ⟨zt30, qzt30, hf⟩ := gb_el hf
    refine gx_getI X hw qzt30 clX4 (by decide) mf_X11_263 dX11_count_132 ?_
    exact gx_iret X hr hlk hw hf dX11_count_135
  have hf := gif_f hf qc27
  by_cases qc31 : (za1 : Int32) = 8
  · have hf := gif_t hf qc31
    refine lv_tableIn (off := 135) (tgt := 136) hx hb dX11_count_1 (by rw [qc31]; decide) (by rw [qc31]; decide) (by rw [qc31]; rfl) (by decide) ?_
    refine lv_aload_n hx hb dX11_count_136 rfl (lv_at hl 0 rfl) ?_
    obtain ⟨zt32, qzt32, hf⟩ := gb_el hf
    refine gx_getR X hw qzt32 clX11 (by decide) mf_X11_37 dX11_count_137 ?_
    obtain ⟨zt33, qzt33, hf⟩ := gb_el hf
    refine gx_getI X hw qzt33 clX9 (by decide) mf_X11_283 dX11_count_140 ?_
    obtain ⟨zt35, zh34, qzh34, hf⟩ := gc_el hf
    refine gx_ki (gx_runS (As := [.int zt33]) (rest := []) X hw (c_J6_bitCount_0f7a4 l E N zt33 zh qzh34) kJ6_bitCount_0f7a4 mm_X11_289 ⟨Nat.le_of_ble_eq_true rfl, Nat.le_of_ble_eq_true rfl⟩ rfl rfl rfl hl.1 (Nat.le_of_ble_eq_true rfl) rfl dX11_count_143 ⟨Nat.le_of_ble_eq_true rfl, Nat.le_of_ble_eq_true rfl⟩) hw (fun H locs hw => ?_)
    exact gx_iret X hr hlk hw hf dX11_count_146
  have hf := gif_f hf qc31
  by_cases qc36 : (za1 : Int32) = 9
  · have hf := gif_t hf qc36
    refine lv_tableIn (off := 146) (tgt := 147) hx hb dX11_count_1 (by rw [qc36]; decide) (by rw [qc36]; decide) (by rw [qc36]; rfl) (by decide) ?_
    refine lv_aload_n hx hb dX11_count_147 rfl (lv_at hl 0 rfl) ?_
    obtain ⟨zt37, qzt37, hf⟩ := gb_el hf
    refine gx_getR X hw qzt37 clX11 (by decide) mf_X11_37 dX11_count_148 ?_
    obtain ⟨zt38, qzt38, hf⟩ := gb_el hf
    refine gx_getI X hw qzt38 clX9 (by decide) mf_X11_325 dX11_count_151 ?_
    exact gx_iret X hr hlk hw hf dX11_count_154
  have hf := gif_f hf qc36
  by_cases qc39 : (za1 : Int32) = 10
  · have hf := gif_t hf qc39
    refine lv_tableIn (off := 154) (tgt := 155) hx hb dX11_count_1 (by rw [qc39]; decide) (by rw [qc39]; decide) (by rw [qc39]; rfl) (by decide) ?_
    refine lv_aload_n hx hb dX11_count_155 rfl (lv_at hl 0 rfl) ?_
    obtain ⟨zt40, qzt40, hf⟩ := gb_el hf
    refine gx_getR X hw qzt40 clX11 (by decide) mf_X11_10 dX11_count_156 ?_
    obtain ⟨qizh41, hf⟩ := gg_el hf
    obtain ⟨zt42, zh41, qzh41, hf⟩ := gc_el hf
    refine gx_ki (gx_runV (As := []) (rest := []) X hw (c_X10_length l E N zt40 zh qzh41) kX10_length mm_X11_80 qizh41 clX10 ⟨Nat.le_of_ble_eq_true rfl, Nat.le_of_ble_eq_true rfl⟩ rfl rfl rfl hl.1 (Nat.le_of_ble_eq_true rfl) rfl dX11_count_159 ⟨Nat.le_of_ble_eq_true rfl, Nat.le_of_ble_eq_true rfl⟩) hw (fun H locs hw => ?_)
    exact gx_iret X hr hlk hw hf dX11_count_162
  have hf := gif_f hf qc39
  have nqc1 := lv_neT (a := 0) qc1 (by decide)
  have nqc4 := lv_neT (a := 1) qc4 (by decide)
  have nqc7 := lv_neT (a := 2) qc7 (by decide)
  have nqc10 := lv_neT (a := 3) qc10 (by decide)
  have nqc15 := lv_neT (a := 4) qc15 (by decide)
  have nqc18 := lv_neT (a := 5) qc18 (by decide)
  have nqc22 := lv_neT (a := 6) qc22 (by decide)
  have nqc27 := lv_neT (a := 7) qc27 (by decide)
  have nqc31 := lv_neT (a := 8) qc31 (by decide)
  have nqc36 := lv_neT (a := 9) qc36 (by decide)
  have nqc39 := lv_neT (a := 10) qc39 (by decide)
  refine lv_tableOut (tgt := 163) hx hb dX11_count_1 (by omega) (by decide) ?_
  refine lv_iconst (v := (-1)) hx hb dX11_count_163 (by decide) ?_
  exact gx_iret X hr hlk hw hf dX11_count_164
abbrev rm_X12_thrown : Room := { frames := 0, cells := 0, slots := 0, locals := 0 }
set_option maxHeartbeats 4000000 in
set_option maxRecDepth 100000 in
theorem c_X12_thrown (l : Launch) (E : gE) (N : Nat) (za0 : Nat) (zh : PH) {h9 : PH} {r9 : Int32} (hf : f_X12_thrown N za0 zh = some (r9, h9)) : Met l yX12_thrown (gWS yX12_thrown cX12_thrown 1 (some .int)) rm_X12_thrown (gPc E [.ref (gB E + za0)] zh) (gQi E r9 h9) 0 0 (gA E) := by
  refine gx_met (by decide) ?_ rfl
  intro p e s m below meth c X hr hlk hin2 hw
  have hx := X.1.1
  have hb := X.1.2.1
  have hl := lv_entry [.ref (gB E + za0)] (n := 1) (Nat.le_of_ble_eq_true rfl)
  rw [lg_entry_eq]
  generalize (lg_sl [.ref (gB E + za0)] ++ List.replicate (1 - (lg_sl [.ref (gB E + za0)]).length) Slot.unset).toArray = ls at hl ⊢
  have hl : lv_has ls 1 [(0, .ref (gB E + za0))] := hl
  unfold f_X12_thrown at hf
  refine lv_aload_n hx hb dX12_thrown_0 rfl (lv_at hl 0 rfl) ?_
  obtain ⟨zt1, qzt1, hf⟩ := gb_el hf
  refine gx_getI X hw qzt1 clX12 (by decide) mf_X12_1 dX12_thrown_1 ?_
  exact gx_iret X hr hlk hw hf dX12_thrown_4
abbrev rm_X12_lay : Room := { frames := 0, cells := 0, slots := 0, locals := 0 }
set_option maxHeartbeats 4000000 in
set_option maxRecDepth 100000 in
theorem c_X12_lay (l : Launch) (E : gE) (N : Nat) (za0 : Nat) (za1 : Int64) (zh : PH) {h9 : PH} (hf : f_X12_lay N za0 za1 zh = some h9) : Met l yX12_lay (gWS yX12_lay cX12_lay 5 none) rm_X12_lay (gPc E [.ref (gB E + za0), .long za1] zh) (gQv E h9) 0 0 (gA E) := by
  refine gx_met (by decide) ?_ rfl
  intro p e s m below meth c X hr hlk hin2 hw
  have hx := X.1.1
  have hb := X.1.2.1
  have hl := lv_entry [.ref (gB E + za0), .long za1] (n := 5) (Nat.le_of_ble_eq_true rfl)
  rw [lg_entry_eq]
  generalize (lg_sl [.ref (gB E + za0), .long za1] ++ List.replicate (5 - (lg_sl [.ref (gB E + za0), .long za1]).length) Slot.unset).toArray = ls at hl ⊢
  have hl : lv_has ls 5 [(0, .ref (gB E + za0)), (1, .long za1)] := hl
  have L_3 : ∀ (zn3 : Nat) (zv0 : Nat) (zv1 : Int64) (zv3 : Int32) (zh : PH) (H : Heap) (locs : List Loc) (ls : Array Slot), gi (fun zk zs => f_X12_lay_3 N zk zs.1 zs.2.1 zs.2.2.1 zs.2.2.2) zn3 (zv0, zv1, zv3, zh) = some h9 → gw E s zh H locs → lv_has ls 5 [(0, .ref (gB E + zv0)), (1, .long zv1), (3, .int zv3)] → W p l e rm_X12_lay s m [.ref (gB E + za0), .long za1].toArray below meth c H locs 0 0 (MQ below (gQv E h9) [.ref (gB E + za0), .long za1].toArray s 0 0 (gA E)) (F0 m 3 ls []) := by
    intro zn3
    induction zn3 with
    | zero =>
      intro zv0 zv1 zv3 zh H locs ls hf
      cases hf
    | succ zn3 ih_3 =>
      have J_69 : ∀ (zv0 : Nat) (zv1 : Int64) (zv3 : Int32) (zh : PH) (H : Heap) (locs : List Loc) (ls : Array Slot), f_X12_lay_69 N (gi (fun zk zs => f_X12_lay_3 N zk zs.1 zs.2.1 zs.2.2.1 zs.2.2.2) zn3) zv0 zv1 zv3 zh = some h9 → gw E s zh H locs → lv_has ls 5 [(0, .ref (gB E + zv0)), (1, .long zv1), (3, .int zv3)] → W p l e rm_X12_lay s m [.ref (gB E + za0), .long za1].toArray below meth c H locs 0 0 (MQ below (gQv E h9) [.ref (gB E + za0), .long za1].toArray s 0 0 (gA E)) (F0 m 69 ls []) := by
        intro zv0 zv1 zv3 zh H locs ls hf hw hl
        unfold f_X12_lay_69 at hf
        obtain ⟨zx1, ezx1⟩ : ∃ y : Int32, y = zv3 + (-8) := ⟨_, rfl⟩
        have hf := gl_el hf ezx1
        refine lv_iinc (v := zx1) (lv' := [(3, .int zx1), (0, .ref (gB E + zv0)), (1, .long zv1)]) hx hb dX12_lay_69 hl (k := 2) rfl (by rw [ezx1]; rfl) (by decide) rfl (fun ls hl => ?_)
        refine lv_goto (tgt := 3) hx hb dX12_lay_72 (by decide) ?_
        exact ih_3 zv0 zv1 zx1 _ _ _ ls hf hw (lv_sub hl [1, 2, 0] rfl)
      have J_38 : ∀ (zv0 : Nat) (zv1 : Int64) (zv3 : Int32) (zv4 : Int32) (zh : PH) (H : Heap) (locs : List Loc) (ls : Array Slot), f_X12_lay_38 N (gi (fun zk zs => f_X12_lay_3 N zk zs.1 zs.2.1 zs.2.2.1 zs.2.2.2) zn3) zv0 zv1 zv3 zv4 zh = some h9 → gw E s zh H locs → lv_has ls 5 [(0, .ref (gB E + zv0)), (1, .long zv1), (3, .int zv3), (4, .int zv4)] → W p l e rm_X12_lay s m [.ref (gB E + za0), .long za1].toArray below meth c H locs 0 0 (MQ below (gQv E h9) [.ref (gB E + za0), .long za1].toArray s 0 0 (gA E)) (F0 m 38 ls []) := by
        intro zv0 zv1 zv3 zv4 zh H locs ls hf hw hl
        unfold f_X12_lay_38 at hf
        refine lv_aload_n hx hb dX12_lay_38 rfl (lv_at hl 0 rfl) ?_
        obtain ⟨zt1, qzt1, hf⟩ := gb_el hf
        refine gx_getI X hw qzt1 clX12 (by decide) mf_X12_11 dX12_lay_39 ?_
        refine lv_sipush (v := 1000) hx hb dX12_lay_42 (by decide) ?_
        refine lv_icmp_ge (tgt := 69) hx hb dX12_lay_45 (by decide) (fun qc2 => ?_) (fun qc2 => ?_)
        · have hf := gif_t hf qc2
          exact J_69 zv0 zv1 zv3 _ _ _ ls hf hw (lv_sub hl [0, 1, 2] rfl)
        · have hf := gif_f hf qc2
          refine lv_aload_n hx hb dX12_lay_48 rfl (lv_at hl 0 rfl) ?_
          obtain ⟨zt3, qzt3, hf⟩ := gb_el hf
          refine gx_getR X hw qzt3 clX12 (by decide) mf_X12_14 dX12_lay_49 ?_
          refine lv_aload_n hx hb dX12_lay_52 rfl (lv_at hl 0 rfl) ?_
          obtain ⟨zt4, qzt4, hf⟩ := gb_el hf
          refine gx_getI X hw qzt4 clX12 (by decide) mf_X12_11 dX12_lay_53 ?_
          refine lv_iload hx hb dX12_lay_56 (lv_at hl 3 rfl) ?_
          refine W.eq (g2 := F0 m 58 ls [.int zv4, .int zt4, .ref (gB E + zt3)]) rfl ?_
          obtain ⟨zh5, qzh5, hf⟩ := gb_el hf
          refine gx_iast X hw qzh5 dX12_lay_58 (fun H locs hw => ?_)
          refine lv_aload_n hx hb dX12_lay_59 rfl (lv_at hl 0 rfl) ?_
          refine lv_dup hx hb dX12_lay_60 rfl ?_
          obtain ⟨zt6, qzt6, hf⟩ := gb_el hf
          refine gx_getI X hw qzt6 clX12 (by decide) mf_X12_11 dX12_lay_61 ?_
          refine lv_iconst (v := 1) hx hb dX12_lay_64 (by decide) ?_
          refine lv_iadd hx hb dX12_lay_65 ?_
          obtain ⟨zh7, qzh7, hf⟩ := gb_el hf
          refine gx_putV X hw qzh7 clX12 (by decide) mf_X12_11 rfl rfl rfl dX12_lay_66 (fun H locs hw => ?_)
          exact J_69 zv0 zv1 zv3 _ _ _ ls hf hw (lv_sub hl [0, 1, 2] rfl)
      intro zv0 zv1 zv3 zh H locs ls hf hw hl
      have hf := gi_s hf
      dsimp only at hf
      unfold f_X12_lay_3 at hf
      refine lv_iload_n hx hb dX12_lay_3 rfl (lv_at hl 2 rfl) ?_
      refine lv_if_lt (tgt := 75) hx hb dX12_lay_4 (by decide) (fun qc1 => ?_) (fun qc1 => ?_)
      · have hf := gif_t hf qc1
        exact gx_vret X hr hlk hw hf dX12_lay_75
      · have hf := gif_f hf qc1
        refine lv_lload_n hx hb dX12_lay_7 rfl (lv_at hl 1 rfl) ?_
        refine lv_iload_n hx hb dX12_lay_8 rfl (lv_at hl 2 rfl) ?_
        refine lv_lshr hx hb dX12_lay_9 rfl ?_
        refine lv_l2i hx hb dX12_lay_10 rfl ?_
        refine lv_sipush (v := 255) hx hb dX12_lay_11 (by decide) ?_
        refine lv_iand hx hb dX12_lay_14 ?_
        refine lv_topi (fun zx2 ezx2 => ?_)
        have hf := gl_el hf ezx2
        refine lv_istore (lv' := [(4, .int zx2), (0, .ref (gB E + zv0)), (1, .long zv1), (3, .int zv3)]) hx hb dX12_lay_15 hl (by decide) rfl (fun ls hl => ?_)
        refine W.eq (g2 := F0 m 17 ls []) rfl ?_
        refine lv_iload hx hb dX12_lay_17 (lv_at hl 0 rfl) ?_
        refine lv_bipush (v := 10) hx hb dX12_lay_19 (by decide) ?_
        refine lv_icmp_eq (tgt := 38) hx hb dX12_lay_21 (by decide) (fun qc3 => ?_) (fun qc3 => ?_)
        · have hf := gif_t hf qc3
          exact J_38 zv0 zv1 zv3 zx2 _ _ _ ls hf hw (lv_sub hl [1, 2, 3, 0] rfl)
        · have hf := gif_f hf qc3
          refine lv_iload hx hb dX12_lay_24 (lv_at hl 0 rfl) ?_
          refine lv_bipush (v := 32) hx hb dX12_lay_26 (by decide) ?_
          refine lv_icmp_lt (tgt := 69) hx hb dX12_lay_28 (by decide) (fun qc4 => ?_) (fun qc4 => ?_)
          · have hf := gif_t hf qc4
            exact J_69 zv0 zv1 zv3 _ _ _ ls hf hw (lv_sub hl [1, 2, 3] rfl)
          · have hf := gif_f hf qc4
            refine lv_iload hx hb dX12_lay_31 (lv_at hl 0 rfl) ?_
            refine lv_bipush (v := 126) hx hb dX12_lay_33 (by decide) ?_
            refine lv_icmp_gt (tgt := 69) hx hb dX12_lay_35 (by decide) (fun qc5 => ?_) (fun qc5 => ?_)
            · have hf := gif_t hf qc5
              exact J_69 zv0 zv1 zv3 _ _ _ ls hf hw (lv_sub hl [1, 2, 3] rfl)
            · have hf := gif_f hf qc5
              exact J_38 zv0 zv1 zv3 zx2 _ _ _ ls hf hw (lv_sub hl [1, 2, 3, 0] rfl)
  unfold f_X12_lay at hf
  refine lv_bipush (v := 56) hx hb dX12_lay_0 (by decide) ?_
  refine lv_istore_n (lv' := [(3, .int 56), (0, .ref (gB E + za0)), (1, .long za1)]) hx hb dX12_lay_2 rfl hl (by decide) rfl (fun ls hl => ?_)
  exact L_3 N za0 za1 56 _ _ _ ls hf hw (lv_sub hl [1, 2, 0] rfl)
