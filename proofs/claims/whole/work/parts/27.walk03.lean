abbrev rm_X3_isWrong : Room := { frames := 0, cells := 0, slots := 0, locals := 0 }
set_option maxHeartbeats 4000000 in
set_option maxRecDepth 100000 in
theorem c_X3_isWrong (l : Launch) (E : gE) (N : Nat) (za0 : Nat) (za1 : Int32) (zh : PH) {h9 : PH} {r9 : Int32} (hf : f_X3_isWrong N za0 za1 zh = some (r9, h9)) : Met l yX3_isWrong (gWS yX3_isWrong cX3_isWrong 2 (some .boolean)) rm_X3_isWrong (gPc E [.ref (gB E + za0), .int za1] zh) (gQi E r9 h9) 0 0 (gA E) := by
  refine gx_met (by decide) ?_ rfl
  intro p e s m below meth c X hr hlk hin2 hw
  have hx := X.1.1
  have hb := X.1.2.1
  have hl := lv_entry [.ref (gB E + za0), .int za1] (n := 2) (Nat.le_of_ble_eq_true rfl)
  rw [lg_entry_eq]
  generalize (lg_sl [.ref (gB E + za0), .int za1] ++ List.replicate (2 - (lg_sl [.ref (gB E + za0), .int za1]).length) Slot.unset).toArray = ls at hl ⊢
  have hl : lv_has ls 2 [(0, .ref (gB E + za0)), (1, .int za1)] := hl
  unfold f_X3_isWrong at hf
  refine lv_aload_n hx hb dX3_isWrong_0 rfl (lv_at hl 0 rfl) ?_
  refine lv_iload_n hx hb dX3_isWrong_1 rfl (lv_at hl 1 rfl) ?_
  refine lv_bipush (v := 16) hx hb dX3_isWrong_2 (by decide) ?_
  refine lv_aload_n hx hb dX3_isWrong_4 rfl (lv_at hl 0 rfl) ?_
  obtain ⟨zt1, qzt1, hf⟩ := gb_el hf
  refine gx_getR X hw qzt1 clX3 (by decide) mf_X3_9 dX3_isWrong_5 ?_
  obtain ⟨zt2, qzt2, hf⟩ := gb_el hf
  refine gx_getI X hw qzt2 clX10 (by decide) mf_X3_148 dX3_isWrong_8 ?_
  refine lv_imul hx hb dX3_isWrong_11 ?_
  refine lv_iadd hx hb dX3_isWrong_12 ?_
  obtain ⟨zh3, qzh3, hf⟩ := gb_el hf
  refine gx_putV X hw qzh3 clX3 (by decide) mf_X3_24 rfl rfl rfl dX3_isWrong_13 (fun H locs hw => ?_)
  refine W.eq (g2 := F0 m 16 ls []) rfl ?_
  refine lv_iconst (v := 0) hx hb dX3_isWrong_16 (by decide) ?_
  exact gx_zret X hr hlk hw hf dX3_isWrong_17
abbrev rm_X3_isKept : Room := { frames := 5, cells := 0, slots := 0, locals := 164 }
set_option maxHeartbeats 4000000 in
set_option maxRecDepth 100000 in
theorem c_X3_isKept (l : Launch) (E : gE) (N : Nat) (za0 : Nat) (zh : PH) {h9 : PH} {r9 : Int32} (hf : f_X3_isKept N za0 zh = some (r9, h9)) : Met l yX3_isKept (gWS yX3_isKept cX3_isKept 1 (some .boolean)) rm_X3_isKept (gPc E [.ref (gB E + za0)] zh) (gQi E r9 h9) 0 0 (gA E) := by
  refine gx_met (by decide) ?_ rfl
  intro p e s m below meth c X hr hlk hin2 hw
  have hx := X.1.1
  have hb := X.1.2.1
  have hl := lv_entry [.ref (gB E + za0)] (n := 1) (Nat.le_of_ble_eq_true rfl)
  rw [lg_entry_eq]
  generalize (lg_sl [.ref (gB E + za0)] ++ List.replicate (1 - (lg_sl [.ref (gB E + za0)]).length) Slot.unset).toArray = ls at hl ⊢
  have hl : lv_has ls 1 [(0, .ref (gB E + za0))] := hl
  have J_113 : ∀ (zs0 : Int32) (zh : PH) (H : Heap) (locs : List Loc) (ls : Array Slot), f_X3_isKept_113 N zs0 zh = some (r9, h9) → gw E s zh H locs → lv_has ls 1 [] → W p l e rm_X3_isKept s m [.ref (gB E + za0)].toArray below meth c H locs 0 0 (MQ below (gQi E r9 h9) [.ref (gB E + za0)].toArray s 0 0 (gA E)) (F0 m 113 ls [.int zs0]) := by
    intro zs0 zh H locs ls hf hw hl
    unfold f_X3_isKept_113 at hf
    exact gx_zret X hr hlk hw hf dX3_isKept_113
  have J_108 : ∀ (zh : PH) (H : Heap) (locs : List Loc) (ls : Array Slot), f_X3_isKept_108 N zh = some (r9, h9) → gw E s zh H locs → lv_has ls 1 [] → W p l e rm_X3_isKept s m [.ref (gB E + za0)].toArray below meth c H locs 0 0 (MQ below (gQi E r9 h9) [.ref (gB E + za0)].toArray s 0 0 (gA E)) (F0 m 108 ls []) := by
    intro zh H locs ls hf hw hl
    unfold f_X3_isKept_108 at hf
    refine lv_iconst (v := 1) hx hb dX3_isKept_108 (by decide) ?_
    refine lv_goto (tgt := 113) hx hb dX3_isKept_109 (by decide) ?_
    exact J_113 1 _ _ _ ls hf hw (lv_sub hl [] rfl)
  unfold f_X3_isKept at hf
  refine lv_aload_n hx hb dX3_isKept_0 rfl (lv_at hl 0 rfl) ?_
  obtain ⟨zt1, qzt1, hf⟩ := gb_el hf
  refine gx_getR X hw qzt1 clX3 (by decide) mf_X3_9 dX3_isKept_1 ?_
  refine va_ldcS hx hb X.1.2.2.2.1 (gx_str X 0 rfl) dX3_isKept_4 ?_
  obtain ⟨qizh2, hf⟩ := gg_el hf
  obtain ⟨zt3, zh2, qzh2, hf⟩ := gc_el hf
  refine gx_ki (gx_runV (As := [.ref (E.2.2.2.1 0)]) (rest := []) X hw (c_X10_isWord l E N zt1 0 zh qzh2) kX10_isWord mm_X3_38 qizh2 clX10 ⟨Nat.le_of_ble_eq_true rfl, Nat.le_of_ble_eq_true rfl⟩ rfl rfl rfl hl.1 (Nat.le_of_ble_eq_true rfl) rfl dX3_isKept_6 ⟨Nat.le_of_ble_eq_true rfl, Nat.le_of_ble_eq_true rfl⟩) hw (fun H locs hw => ?_)
  refine lv_if_ne (tgt := 108) hx hb dX3_isKept_9 (by decide) (fun qc4 => ?_) (fun qc4 => ?_)
  · have hf := gif_f hf qc4
    exact J_108  _ _ _ ls hf hw (lv_sub hl [] rfl)
  · have hf := gif_t hf qc4
    refine lv_aload_n hx hb dX3_isKept_12 rfl (lv_at hl 0 rfl) ?_
    obtain ⟨zt5, qzt5, hf⟩ := gb_el hf
    refine gx_getR X hw qzt5 clX3 (by decide) mf_X3_9 dX3_isKept_13 ?_
    refine va_ldcS hx hb X.1.2.2.2.1 (gx_str X 1 rfl) dX3_isKept_16 ?_
    obtain ⟨qizh6, hf⟩ := gg_el hf
    obtain ⟨zt7, zh6, qzh6, hf⟩ := gc_el hf
    refine gx_ki (gx_runV (As := [.ref (E.2.2.2.1 1)]) (rest := []) X hw (c_X10_isWord l E N zt5 1 zh2 qzh6) kX10_isWord mm_X3_38 qizh6 clX10 ⟨Nat.le_of_ble_eq_true rfl, Nat.le_of_ble_eq_true rfl⟩ rfl rfl rfl hl.1 (Nat.le_of_ble_eq_true rfl) rfl dX3_isKept_18 ⟨Nat.le_of_ble_eq_true rfl, Nat.le_of_ble_eq_true rfl⟩) hw (fun H locs hw => ?_)
    refine W.eq (g2 := F0 m 21 ls [.int zt7]) rfl ?_
    refine lv_if_ne (tgt := 108) hx hb dX3_isKept_21 (by decide) (fun qc8 => ?_) (fun qc8 => ?_)
    · have hf := gif_f hf qc8
      exact J_108  _ _ _ ls hf hw (lv_sub hl [] rfl)
    · have hf := gif_t hf qc8
      refine lv_aload_n hx hb dX3_isKept_24 rfl (lv_at hl 0 rfl) ?_
      obtain ⟨zt9, qzt9, hf⟩ := gb_el hf
      refine gx_getR X hw qzt9 clX3 (by decide) mf_X3_9 dX3_isKept_25 ?_
      refine va_ldcS hx hb X.1.2.2.2.1 (gx_str X 2 rfl) dX3_isKept_28 ?_
      obtain ⟨qizh10, hf⟩ := gg_el hf
      obtain ⟨zt11, zh10, qzh10, hf⟩ := gc_el hf
      refine gx_ki (gx_runV (As := [.ref (E.2.2.2.1 2)]) (rest := []) X hw (c_X10_isWord l E N zt9 2 zh6 qzh10) kX10_isWord mm_X3_38 qizh10 clX10 ⟨Nat.le_of_ble_eq_true rfl, Nat.le_of_ble_eq_true rfl⟩ rfl rfl rfl hl.1 (Nat.le_of_ble_eq_true rfl) rfl dX3_isKept_30 ⟨Nat.le_of_ble_eq_true rfl, Nat.le_of_ble_eq_true rfl⟩) hw (fun H locs hw => ?_)
      refine lv_if_ne (tgt := 108) hx hb dX3_isKept_33 (by decide) (fun qc12 => ?_) (fun qc12 => ?_)
      · have hf := gif_f hf qc12
        exact J_108  _ _ _ ls hf hw (lv_sub hl [] rfl)
      · have hf := gif_t hf qc12
        refine lv_aload_n hx hb dX3_isKept_36 rfl (lv_at hl 0 rfl) ?_
        obtain ⟨zt13, qzt13, hf⟩ := gb_el hf
        refine gx_getR X hw qzt13 clX3 (by decide) mf_X3_9 dX3_isKept_37 ?_
        refine va_ldcS hx hb X.1.2.2.2.1 (gx_str X 3 rfl) dX3_isKept_40 ?_
        obtain ⟨qizh14, hf⟩ := gg_el hf
        obtain ⟨zt15, zh14, qzh14, hf⟩ := gc_el hf
        refine gx_ki (gx_runV (As := [.ref (E.2.2.2.1 3)]) (rest := []) X hw (c_X10_isWord l E N zt13 3 zh10 qzh14) kX10_isWord mm_X3_38 qizh14 clX10 ⟨Nat.le_of_ble_eq_true rfl, Nat.le_of_ble_eq_true rfl⟩ rfl rfl rfl hl.1 (Nat.le_of_ble_eq_true rfl) rfl dX3_isKept_42 ⟨Nat.le_of_ble_eq_true rfl, Nat.le_of_ble_eq_true rfl⟩) hw (fun H locs hw => ?_)
        refine W.eq (g2 := F0 m 45 ls [.int zt15]) rfl ?_
        refine lv_if_ne (tgt := 108) hx hb dX3_isKept_45 (by decide) (fun qc16 => ?_) (fun qc16 => ?_)
        · have hf := gif_f hf qc16
          exact J_108  _ _ _ ls hf hw (lv_sub hl [] rfl)
        · have hf := gif_t hf qc16
          refine lv_aload_n hx hb dX3_isKept_48 rfl (lv_at hl 0 rfl) ?_
          obtain ⟨zt17, qzt17, hf⟩ := gb_el hf
          refine gx_getR X hw qzt17 clX3 (by decide) mf_X3_9 dX3_isKept_49 ?_
          refine va_ldcS hx hb X.1.2.2.2.1 (gx_str X 4 rfl) dX3_isKept_52 ?_
          obtain ⟨qizh18, hf⟩ := gg_el hf
          obtain ⟨zt19, zh18, qzh18, hf⟩ := gc_el hf
          refine gx_ki (gx_runV (As := [.ref (E.2.2.2.1 4)]) (rest := []) X hw (c_X10_isWord l E N zt17 4 zh14 qzh18) kX10_isWord mm_X3_38 qizh18 clX10 ⟨Nat.le_of_ble_eq_true rfl, Nat.le_of_ble_eq_true rfl⟩ rfl rfl rfl hl.1 (Nat.le_of_ble_eq_true rfl) rfl dX3_isKept_54 ⟨Nat.le_of_ble_eq_true rfl, Nat.le_of_ble_eq_true rfl⟩) hw (fun H locs hw => ?_)
          refine lv_if_ne (tgt := 108) hx hb dX3_isKept_57 (by decide) (fun qc20 => ?_) (fun qc20 => ?_)
          · have hf := gif_f hf qc20
            exact J_108  _ _ _ ls hf hw (lv_sub hl [] rfl)
          · have hf := gif_t hf qc20
            refine lv_aload_n hx hb dX3_isKept_60 rfl (lv_at hl 0 rfl) ?_
            obtain ⟨zt21, qzt21, hf⟩ := gb_el hf
            refine gx_getR X hw qzt21 clX3 (by decide) mf_X3_9 dX3_isKept_61 ?_
            refine va_ldcS hx hb X.1.2.2.2.1 (gx_str X 5 rfl) dX3_isKept_64 ?_
            obtain ⟨qizh22, hf⟩ := gg_el hf
            obtain ⟨zt23, zh22, qzh22, hf⟩ := gc_el hf
            refine gx_ki (gx_runV (As := [.ref (E.2.2.2.1 5)]) (rest := []) X hw (c_X10_isWord l E N zt21 5 zh18 qzh22) kX10_isWord mm_X3_38 qizh22 clX10 ⟨Nat.le_of_ble_eq_true rfl, Nat.le_of_ble_eq_true rfl⟩ rfl rfl rfl hl.1 (Nat.le_of_ble_eq_true rfl) rfl dX3_isKept_66 ⟨Nat.le_of_ble_eq_true rfl, Nat.le_of_ble_eq_true rfl⟩) hw (fun H locs hw => ?_)
            refine W.eq (g2 := F0 m 69 ls [.int zt23]) rfl ?_
            refine lv_if_ne (tgt := 108) hx hb dX3_isKept_69 (by decide) (fun qc24 => ?_) (fun qc24 => ?_)
            · have hf := gif_f hf qc24
              exact J_108  _ _ _ ls hf hw (lv_sub hl [] rfl)
            · have hf := gif_t hf qc24
              refine lv_aload_n hx hb dX3_isKept_72 rfl (lv_at hl 0 rfl) ?_
              obtain ⟨zt25, qzt25, hf⟩ := gb_el hf
              refine gx_getR X hw qzt25 clX3 (by decide) mf_X3_9 dX3_isKept_73 ?_
              refine va_ldcS hx hb X.1.2.2.2.1 (gx_str X 6 rfl) dX3_isKept_76 ?_
              obtain ⟨qizh26, hf⟩ := gg_el hf
              obtain ⟨zt27, zh26, qzh26, hf⟩ := gc_el hf
              refine gx_ki (gx_runV (As := [.ref (E.2.2.2.1 6)]) (rest := []) X hw (c_X10_isWord l E N zt25 6 zh22 qzh26) kX10_isWord mm_X3_38 qizh26 clX10 ⟨Nat.le_of_ble_eq_true rfl, Nat.le_of_ble_eq_true rfl⟩ rfl rfl rfl hl.1 (Nat.le_of_ble_eq_true rfl) rfl dX3_isKept_78 ⟨Nat.le_of_ble_eq_true rfl, Nat.le_of_ble_eq_true rfl⟩) hw (fun H locs hw => ?_)
              refine lv_if_ne (tgt := 108) hx hb dX3_isKept_81 (by decide) (fun qc28 => ?_) (fun qc28 => ?_)
              · have hf := gif_f hf qc28
                exact J_108  _ _ _ ls hf hw (lv_sub hl [] rfl)
              · have hf := gif_t hf qc28
                refine lv_aload_n hx hb dX3_isKept_84 rfl (lv_at hl 0 rfl) ?_
                obtain ⟨zt29, qzt29, hf⟩ := gb_el hf
                refine gx_getR X hw qzt29 clX3 (by decide) mf_X3_9 dX3_isKept_85 ?_
                refine va_ldcS hx hb X.1.2.2.2.1 (gx_str X 7 rfl) dX3_isKept_88 ?_
                obtain ⟨qizh30, hf⟩ := gg_el hf
                obtain ⟨zt31, zh30, qzh30, hf⟩ := gc_el hf
                refine gx_ki (gx_runV (As := [.ref (E.2.2.2.1 7)]) (rest := []) X hw (c_X10_isWord l E N zt29 7 zh26 qzh30) kX10_isWord mm_X3_38 qizh30 clX10 ⟨Nat.le_of_ble_eq_true rfl, Nat.le_of_ble_eq_true rfl⟩ rfl rfl rfl hl.1 (Nat.le_of_ble_eq_true rfl) rfl dX3_isKept_90 ⟨Nat.le_of_ble_eq_true rfl, Nat.le_of_ble_eq_true rfl⟩) hw (fun H locs hw => ?_)
                refine W.eq (g2 := F0 m 93 ls [.int zt31]) rfl ?_
                refine lv_if_ne (tgt := 108) hx hb dX3_isKept_93 (by decide) (fun qc32 => ?_) (fun qc32 => ?_)
                · have hf := gif_f hf qc32
                  exact J_108  _ _ _ ls hf hw (lv_sub hl [] rfl)
                · have hf := gif_t hf qc32
                  refine lv_aload_n hx hb dX3_isKept_96 rfl (lv_at hl 0 rfl) ?_
                  obtain ⟨zt33, qzt33, hf⟩ := gb_el hf
                  refine gx_getR X hw qzt33 clX3 (by decide) mf_X3_9 dX3_isKept_97 ?_
                  refine va_ldcS hx hb X.1.2.2.2.1 (gx_str X 8 rfl) dX3_isKept_100 ?_
                  obtain ⟨qizh34, hf⟩ := gg_el hf
                  obtain ⟨zt35, zh34, qzh34, hf⟩ := gc_el hf
                  refine gx_ki (gx_runV (As := [.ref (E.2.2.2.1 8)]) (rest := []) X hw (c_X10_isWord l E N zt33 8 zh30 qzh34) kX10_isWord mm_X3_38 qizh34 clX10 ⟨Nat.le_of_ble_eq_true rfl, Nat.le_of_ble_eq_true rfl⟩ rfl rfl rfl hl.1 (Nat.le_of_ble_eq_true rfl) rfl dX3_isKept_102 ⟨Nat.le_of_ble_eq_true rfl, Nat.le_of_ble_eq_true rfl⟩) hw (fun H locs hw => ?_)
                  refine lv_if_eq (tgt := 112) hx hb dX3_isKept_105 (by decide) (fun qc36 => ?_) (fun qc36 => ?_)
                  · have hf := gif_t hf qc36
                    refine lv_iconst (v := 0) hx hb dX3_isKept_112 (by decide) ?_
                    exact J_113 0 _ _ _ ls hf hw (lv_sub hl [] rfl)
                  · have hf := gif_f hf qc36
                    exact J_108  _ _ _ ls hf hw (lv_sub hl [] rfl)
abbrev rm_X3_readExtras : Room := { frames := 5, cells := 0, slots := 0, locals := 164 }
set_option maxHeartbeats 4000000 in
set_option maxRecDepth 100000 in
theorem c_X3_readExtras (l : Launch) (E : gE) (N : Nat) (za0 : Nat) (za1 : Int64) (za3 : Int32) (zh : PH) {h9 : PH} {r9 : Int32} (hf : f_X3_readExtras N za0 za1 za3 zh = some (r9, h9)) : Met l yX3_readExtras (gWS yX3_readExtras cX3_readExtras 8 (some .boolean)) rm_X3_readExtras (gPc E [.ref (gB E + za0), .long za1, .int za3] zh) (gQi E r9 h9) 0 0 (gA E) := by
  refine gx_met (by decide) ?_ rfl
  intro p e s m below meth c X hr hlk hin2 hw
  have hx := X.1.1
  have hb := X.1.2.1
  have hl := lv_entry [.ref (gB E + za0), .long za1, .int za3] (n := 8) (Nat.le_of_ble_eq_true rfl)
  rw [lg_entry_eq]
  generalize (lg_sl [.ref (gB E + za0), .long za1, .int za3] ++ List.replicate (8 - (lg_sl [.ref (gB E + za0), .long za1, .int za3]).length) Slot.unset).toArray = ls at hl ⊢
  have hl : lv_has ls 8 [(0, .ref (gB E + za0)), (1, .long za1), (3, .int za3)] := hl
  have J_105 : ∀ (zv0 : Nat) (zv1 : Int64) (zv3 : Int32) (zv4 : Int32) (zv5 : Int32) (zh : PH) (H : Heap) (locs : List Loc) (ls : Array Slot), f_X3_readExtras_105 N zv0 zv1 zv3 zv4 zv5 zh = some (r9, h9) → gw E s zh H locs → lv_has ls 8 [(0, .ref (gB E + zv0)), (1, .long zv1), (3, .int zv3), (4, .int zv4), (5, .int zv5)] → W p l e rm_X3_readExtras s m [.ref (gB E + za0), .long za1, .int za3].toArray below meth c H locs 0 0 (MQ below (gQi E r9 h9) [.ref (gB E + za0), .long za1, .int za3].toArray s 0 0 (gA E)) (F0 m 105 ls []) := by
    intro zv0 zv1 zv3 zv4 zv5 zh H locs ls hf hw hl
    unfold f_X3_readExtras_105 at hf
    refine lv_aload_n hx hb dX3_readExtras_105 rfl (lv_at hl 0 rfl) ?_
    obtain ⟨zt1, qzt1, hf⟩ := gb_el hf
    refine gx_getR X hw qzt1 clX3 (by decide) mf_X3_15 dX3_readExtras_106 ?_
    refine lv_lload_n hx hb dX3_readExtras_109 rfl (lv_at hl 1 rfl) ?_
    refine lv_iload_n hx hb dX3_readExtras_110 rfl (lv_at hl 2 rfl) ?_
    refine lv_iload hx hb dX3_readExtras_111 (lv_at hl 3 rfl) ?_
    refine lv_iload hx hb dX3_readExtras_113 (lv_at hl 4 rfl) ?_
    obtain ⟨qizh2, hf⟩ := gg_el hf
    obtain ⟨zh2, qzh2, hf⟩ := gb_el hf
    refine gx_kv (gx_runV (As := [.long zv1, .int zv3, .int zv4, .int zv5]) (rest := []) X hw (c_X2_addGuest l E N zt1 zv1 zv3 zv4 zv5 zh qzh2) kX2_addGuest mm_X3_101 qizh2 clX2 ⟨Nat.le_of_ble_eq_true rfl, Nat.le_of_ble_eq_true rfl⟩ rfl rfl rfl hl.1 (Nat.le_of_ble_eq_true rfl) rfl dX3_readExtras_115 ⟨Nat.le_of_ble_eq_true rfl, Nat.le_of_ble_eq_true rfl⟩) hw (fun H locs hw => ?_)
    refine lv_iconst (v := 1) hx hb dX3_readExtras_118 (by decide) ?_
    exact gx_zret X hr hlk hw hf dX3_readExtras_119
  have J_64 : ∀ (zv0 : Nat) (zh : PH) (H : Heap) (locs : List Loc) (ls : Array Slot), f_X3_readExtras_64 N zv0 zh = some (r9, h9) → gw E s zh H locs → lv_has ls 8 [(0, .ref (gB E + zv0))] → W p l e rm_X3_readExtras s m [.ref (gB E + za0), .long za1, .int za3].toArray below meth c H locs 0 0 (MQ below (gQi E r9 h9) [.ref (gB E + za0), .long za1, .int za3].toArray s 0 0 (gA E)) (F0 m 64 ls []) := by
    intro zv0 zh H locs ls hf hw hl
    unfold f_X3_readExtras_64 at hf
    refine lv_aload_n hx hb dX3_readExtras_64 rfl (lv_at hl 0 rfl) ?_
    refine lv_iconst (v := 3) hx hb dX3_readExtras_65 (by decide) ?_
    obtain ⟨qizh1, hf⟩ := gg_el hf
    obtain ⟨zt2, zh1, qzh1, hf⟩ := gc_el hf
    refine gx_ki (gx_runV (As := [.int 3]) (rest := []) X hw (c_X3_isWrong l E N zv0 3 zh qzh1) kX3_isWrong mm_X3_56 qizh1 clX3 ⟨Nat.le_of_ble_eq_true rfl, Nat.le_of_ble_eq_true rfl⟩ rfl rfl rfl hl.1 (Nat.le_of_ble_eq_true rfl) rfl dX3_readExtras_66 ⟨Nat.le_of_ble_eq_true rfl, Nat.le_of_ble_eq_true rfl⟩) hw (fun H locs hw => ?_)
    exact gx_zret X hr hlk hw hf dX3_readExtras_69
  have L_9 : ∀ (zn9 : Nat) (zv0 : Nat) (zv1 : Int64) (zv3 : Int32) (zv4 : Int32) (zv5 : Int32) (zv6 : Int32) (zh : PH) (H : Heap) (locs : List Loc) (ls : Array Slot), gi (fun zk zs => f_X3_readExtras_9 N zk zs.1 zs.2.1 zs.2.2.1 zs.2.2.2.1 zs.2.2.2.2.1 zs.2.2.2.2.2.1 zs.2.2.2.2.2.2) zn9 (zv0, zv1, zv3, zv4, zv5, zv6, zh) = some (r9, h9) → gw E s zh H locs → lv_has ls 8 [(0, .ref (gB E + zv0)), (1, .long zv1), (3, .int zv3), (4, .int zv4), (5, .int zv5), (6, .int zv6)] → W p l e rm_X3_readExtras s m [.ref (gB E + za0), .long za1, .int za3].toArray below meth c H locs 0 0 (MQ below (gQi E r9 h9) [.ref (gB E + za0), .long za1, .int za3].toArray s 0 0 (gA E)) (F0 m 9 ls []) := by
    intro zn9
    induction zn9 with
    | zero =>
      intro zv0 zv1 zv3 zv4 zv5 zv6 zh H locs ls hf
      cases hf
    | succ zn9 ih_9 =>
      have J_89 : ∀ (zv0 : Nat) (zv1 : Int64) (zv3 : Int32) (zv4 : Int32) (zv6 : Int32) (zs0 : Int32) (zs1 : Int32) (zh : PH) (H : Heap) (locs : List Loc) (ls : Array Slot), f_X3_readExtras_89 N (gi (fun zk zs => f_X3_readExtras_9 N zk zs.1 zs.2.1 zs.2.2.1 zs.2.2.2.1 zs.2.2.2.2.1 zs.2.2.2.2.2.1 zs.2.2.2.2.2.2) zn9) zv0 zv1 zv3 zv4 zv6 zs0 zs1 zh = some (r9, h9) → gw E s zh H locs → lv_has ls 8 [(0, .ref (gB E + zv0)), (1, .long zv1), (3, .int zv3), (4, .int zv4), (6, .int zv6)] → W p l e rm_X3_readExtras s m [.ref (gB E + za0), .long za1, .int za3].toArray below meth c H locs 0 0 (MQ below (gQi E r9 h9) [.ref (gB E + za0), .long za1, .int za3].toArray s 0 0 (gA E)) (F0 m 89 ls [.int zs0, .int zs1]) := by
        intro zv0 zv1 zv3 zv4 zv6 zs0 zs1 zh H locs ls hf hw hl
        unfold f_X3_readExtras_89 at hf
        refine lv_ior hx hb dX3_readExtras_89 ?_
        refine lv_topi (fun zx1 ezx1 => ?_)
        have hf := gl_el hf ezx1
        refine lv_istore (lv' := [(5, .int zx1), (0, .ref (gB E + zv0)), (1, .long zv1), (3, .int zv3), (4, .int zv4), (6, .int zv6)]) hx hb dX3_readExtras_90 hl (by decide) rfl (fun ls hl => ?_)
        refine lv_aload_n hx hb dX3_readExtras_92 rfl (lv_at hl 1 rfl) ?_
        obtain ⟨zt2, qzt2, hf⟩ := gb_el hf
        refine gx_getR X hw qzt2 clX3 (by decide) mf_X3_9 dX3_readExtras_93 ?_
        obtain ⟨qizh3, hf⟩ := gg_el hf
        obtain ⟨zh3, qzh3, hf⟩ := gb_el hf
        refine gx_kv (gx_runV (As := []) (rest := []) X hw (c_X10_advance l E N zt2 zh qzh3) kX10_advance mm_X3_66 qizh3 clX10 ⟨Nat.le_of_ble_eq_true rfl, Nat.le_of_ble_eq_true rfl⟩ rfl rfl rfl hl.1 (Nat.le_of_ble_eq_true rfl) rfl dX3_readExtras_96 ⟨Nat.le_of_ble_eq_true rfl, Nat.le_of_ble_eq_true rfl⟩) hw (fun H locs hw => ?_)
        obtain ⟨zx4, ezx4⟩ : ∃ y : Int32, y = zv6 + 1 := ⟨_, rfl⟩
        have hf := gl_el hf ezx4
        refine lv_iinc (v := zx4) (lv' := [(6, .int zx4), (5, .int zx1), (0, .ref (gB E + zv0)), (1, .long zv1), (3, .int zv3), (4, .int zv4)]) hx hb dX3_readExtras_99 hl (k := 5) rfl (by rw [ezx4]; rfl) (by decide) rfl (fun ls hl => ?_)
        refine lv_goto (tgt := 9) hx hb dX3_readExtras_102 (by decide) ?_
        exact ih_9 zv0 zv1 zv3 zv4 zx1 zx4 _ _ _ ls hf hw (lv_sub hl [2, 3, 4, 5, 1, 0] rfl)
      have J_70 : ∀ (zv0 : Nat) (zv1 : Int64) (zv3 : Int32) (zv4 : Int32) (zv5 : Int32) (zv6 : Int32) (zv7 : Int32) (zh : PH) (H : Heap) (locs : List Loc) (ls : Array Slot), f_X3_readExtras_70 N (gi (fun zk zs => f_X3_readExtras_9 N zk zs.1 zs.2.1 zs.2.2.1 zs.2.2.2.1 zs.2.2.2.2.1 zs.2.2.2.2.2.1 zs.2.2.2.2.2.2) zn9) zv0 zv1 zv3 zv4 zv5 zv6 zv7 zh = some (r9, h9) → gw E s zh H locs → lv_has ls 8 [(0, .ref (gB E + zv0)), (1, .long zv1), (3, .int zv3), (4, .int zv4), (5, .int zv5), (6, .int zv6), (7, .int zv7)] → W p l e rm_X3_readExtras s m [.ref (gB E + za0), .long za1, .int za3].toArray below meth c H locs 0 0 (MQ below (gQi E r9 h9) [.ref (gB E + za0), .long za1, .int za3].toArray s 0 0 (gA E)) (F0 m 70 ls []) := by
        intro zv0 zv1 zv3 zv4 zv5 zv6 zv7 zh H locs ls hf hw hl
        unfold f_X3_readExtras_70 at hf
        refine lv_iload hx hb dX3_readExtras_70 (lv_at hl 3 rfl) ?_
        refine lv_iload hx hb dX3_readExtras_72 (lv_at hl 6 rfl) ?_
        refine lv_ior hx hb dX3_readExtras_74 ?_
        refine lv_topi (fun zx1 ezx1 => ?_)
        have hf := gl_el hf ezx1
        refine lv_istore (lv' := [(4, .int zx1), (0, .ref (gB E + zv0)), (1, .long zv1), (3, .int zv3), (5, .int zv5), (6, .int zv6), (7, .int zv7)]) hx hb dX3_readExtras_75 hl (by decide) rfl (fun ls hl => ?_)
        refine lv_iload hx hb dX3_readExtras_77 (lv_at hl 4 rfl) ?_
        refine lv_iload hx hb dX3_readExtras_79 (lv_at hl 6 rfl) ?_
        refine lv_if_ne (tgt := 88) hx hb dX3_readExtras_81 (by decide) (fun qc2 => ?_) (fun qc2 => ?_)
        · have hf := gif_f hf qc2
          refine lv_iconst (v := 0) hx hb dX3_readExtras_88 (by decide) ?_
          exact J_89 zv0 zv1 zv3 zx1 zv6 0 zv5 _ _ _ ls hf hw (lv_sub hl [1, 2, 3, 0, 5] rfl)
        · have hf := gif_t hf qc2
          refine lv_iconst (v := 1) hx hb dX3_readExtras_84 (by decide) ?_
          refine lv_goto (tgt := 89) hx hb dX3_readExtras_85 (by decide) ?_
          exact J_89 zv0 zv1 zv3 zx1 zv6 1 zv5 _ _ _ ls hf hw (lv_sub hl [1, 2, 3, 0, 5] rfl)
      have J_46 : ∀ (zv0 : Nat) (zv1 : Int64) (zv3 : Int32) (zv4 : Int32) (zv5 : Int32) (zv6 : Int32) (zv7 : Int32) (zh : PH) (H : Heap) (locs : List Loc) (ls : Array Slot), f_X3_readExtras_46 N (gi (fun zk zs => f_X3_readExtras_9 N zk zs.1 zs.2.1 zs.2.2.1 zs.2.2.2.1 zs.2.2.2.2.1 zs.2.2.2.2.2.1 zs.2.2.2.2.2.2) zn9) zv0 zv1 zv3 zv4 zv5 zv6 zv7 zh = some (r9, h9) → gw E s zh H locs → lv_has ls 8 [(0, .ref (gB E + zv0)), (1, .long zv1), (3, .int zv3), (4, .int zv4), (5, .int zv5), (6, .int zv6), (7, .int zv7)] → W p l e rm_X3_readExtras s m [.ref (gB E + za0), .long za1, .int za3].toArray below meth c H locs 0 0 (MQ below (gQi E r9 h9) [.ref (gB E + za0), .long za1, .int za3].toArray s 0 0 (gA E)) (F0 m 46 ls []) := by
        intro zv0 zv1 zv3 zv4 zv5 zv6 zv7 zh H locs ls hf hw hl
        unfold f_X3_readExtras_46 at hf
        refine lv_iload hx hb dX3_readExtras_46 (lv_at hl 6 rfl) ?_
        refine lv_if_eq (tgt := 59) hx hb dX3_readExtras_48 (by decide) (fun qc1 => ?_) (fun qc1 => ?_)
        · have hf := gif_t hf qc1
          refine lv_iload hx hb dX3_readExtras_59 (lv_at hl 4 rfl) ?_
          refine lv_if_eq (tgt := 70) hx hb dX3_readExtras_61 (by decide) (fun qc2 => ?_) (fun qc2 => ?_)
          · have hf := gif_t hf qc2
            exact J_70 zv0 zv1 zv3 zv4 zv5 zv6 zv7 _ _ _ ls hf hw (lv_sub hl [0, 1, 2, 3, 4, 5, 6] rfl)
          · have hf := gif_f hf qc2
            exact J_64 zv0 _ _ _ ls hf hw (lv_sub hl [0] rfl)
        · have hf := gif_f hf qc1
          refine lv_iload hx hb dX3_readExtras_51 (lv_at hl 3 rfl) ?_
          refine lv_if_eq (tgt := 70) hx hb dX3_readExtras_53 (by decide) (fun qc3 => ?_) (fun qc3 => ?_)
          · have hf := gif_t hf qc3
            exact J_70 zv0 zv1 zv3 zv4 zv5 zv6 zv7 _ _ _ ls hf hw (lv_sub hl [0, 1, 2, 3, 4, 5, 6] rfl)
          · have hf := gif_f hf qc3
            refine lv_goto (tgt := 64) hx hb dX3_readExtras_56 (by decide) ?_
            exact J_64 zv0 _ _ _ ls hf hw (lv_sub hl [0] rfl)
      intro zv0 zv1 zv3 zv4 zv5 zv6 zh H locs ls hf hw hl
      have hf := gi_s hf
      dsimp only at hf
      unfold f_X3_readExtras_9 at hf
      refine lv_iload hx hb dX3_readExtras_9 (lv_at hl 5 rfl) ?_
      refine lv_iconst (v := 3) hx hb dX3_readExtras_11 (by decide) ?_
      refine lv_icmp_ge (tgt := 105) hx hb dX3_readExtras_12 (by decide) (fun qc1 => ?_) (fun qc1 => ?_)
      · have hf := gif_t hf qc1
        exact J_105 zv0 zv1 zv3 zv4 zv5 _ _ _ ls hf hw (lv_sub hl [0, 1, 2, 3, 4] rfl)
      · have hf := gif_f hf qc1
        refine lv_aload_n hx hb dX3_readExtras_15 rfl (lv_at hl 0 rfl) ?_
        obtain ⟨zt2, qzt2, hf⟩ := gb_el hf
        refine gx_getR X hw qzt2 clX3 (by decide) mf_X3_9 dX3_readExtras_16 ?_
        refine va_ldcS hx hb X.1.2.2.2.1 (gx_str X 3 rfl) dX3_readExtras_19 ?_
        obtain ⟨qizh3, hf⟩ := gg_el hf
        obtain ⟨zt4, zh3, qzh3, hf⟩ := gc_el hf
        refine gx_ki (gx_runV (As := [.ref (E.2.2.2.1 3)]) (rest := []) X hw (c_X10_isWord l E N zt2 3 zh qzh3) kX10_isWord mm_X3_38 qizh3 clX10 ⟨Nat.le_of_ble_eq_true rfl, Nat.le_of_ble_eq_true rfl⟩ rfl rfl rfl hl.1 (Nat.le_of_ble_eq_true rfl) rfl dX3_readExtras_21 ⟨Nat.le_of_ble_eq_true rfl, Nat.le_of_ble_eq_true rfl⟩) hw (fun H locs hw => ?_)
        refine lv_istore (lv' := [(7, .int zt4), (0, .ref (gB E + zv0)), (1, .long zv1), (3, .int zv3), (4, .int zv4), (5, .int zv5), (6, .int zv6)]) hx hb dX3_readExtras_24 hl (by decide) rfl (fun ls hl => ?_)
        refine lv_iload hx hb dX3_readExtras_26 (lv_at hl 0 rfl) ?_
        refine W.eq (g2 := F0 m 28 ls [.int zt4]) rfl ?_
        refine lv_if_ne (tgt := 46) hx hb dX3_readExtras_28 (by decide) (fun qc5 => ?_) (fun qc5 => ?_)
        · have hf := gif_f hf qc5
          exact J_46 zv0 zv1 zv3 zv4 zv5 zv6 zt4 _ _ _ ls hf hw (lv_sub hl [1, 2, 3, 4, 5, 6, 0] rfl)
        · have hf := gif_t hf qc5
          refine lv_aload_n hx hb dX3_readExtras_31 rfl (lv_at hl 1 rfl) ?_
          obtain ⟨zt6, qzt6, hf⟩ := gb_el hf
          refine gx_getR X hw qzt6 clX3 (by decide) mf_X3_9 dX3_readExtras_32 ?_
          refine va_ldcS hx hb X.1.2.2.2.1 (gx_str X 4 rfl) dX3_readExtras_35 ?_
          obtain ⟨qizh7, hf⟩ := gg_el hf
          obtain ⟨zt8, zh7, qzh7, hf⟩ := gc_el hf
          refine gx_ki (gx_runV (As := [.ref (E.2.2.2.1 4)]) (rest := []) X hw (c_X10_isWord l E N zt6 4 zh3 qzh7) kX10_isWord mm_X3_38 qizh7 clX10 ⟨Nat.le_of_ble_eq_true rfl, Nat.le_of_ble_eq_true rfl⟩ rfl rfl rfl hl.1 (Nat.le_of_ble_eq_true rfl) rfl dX3_readExtras_37 ⟨Nat.le_of_ble_eq_true rfl, Nat.le_of_ble_eq_true rfl⟩) hw (fun H locs hw => ?_)
          refine lv_if_ne (tgt := 46) hx hb dX3_readExtras_40 (by decide) (fun qc9 => ?_) (fun qc9 => ?_)
          · have hf := gif_f hf qc9
            exact J_46 zv0 zv1 zv3 zv4 zv5 zv6 zt4 _ _ _ ls hf hw (lv_sub hl [1, 2, 3, 4, 5, 6, 0] rfl)
          · have hf := gif_t hf qc9
            refine lv_goto (tgt := 105) hx hb dX3_readExtras_43 (by decide) ?_
            exact J_105 zv0 zv1 zv3 zv4 zv5 _ _ _ ls hf hw (lv_sub hl [1, 2, 3, 4, 5] rfl)
  unfold f_X3_readExtras at hf
  refine lv_iconst (v := 0) hx hb dX3_readExtras_0 (by decide) ?_
  refine lv_istore (lv' := [(4, .int 0), (0, .ref (gB E + za0)), (1, .long za1), (3, .int za3)]) hx hb dX3_readExtras_1 hl (by decide) rfl (fun ls hl => ?_)
  refine lv_iconst (v := 0) hx hb dX3_readExtras_3 (by decide) ?_
  refine lv_istore (lv' := [(5, .int 0), (4, .int 0), (0, .ref (gB E + za0)), (1, .long za1), (3, .int za3)]) hx hb dX3_readExtras_4 hl (by decide) rfl (fun ls hl => ?_)
  refine lv_iconst (v := 0) hx hb dX3_readExtras_6 (by decide) ?_
  refine lv_istore (lv' := [(6, .int 0), (5, .int 0), (4, .int 0), (0, .ref (gB E + za0)), (1, .long za1), (3, .int za3)]) hx hb dX3_readExtras_7 hl (by decide) rfl (fun ls hl => ?_)
  exact L_9 N za0 za1 za3 0 0 0 _ _ _ ls hf hw (lv_sub hl [3, 4, 5, 2, 1, 0] rfl)
abbrev rm_X3_takeNumber : Room := { frames := 2, cells := 0, slots := 0, locals := 41 }
set_option maxHeartbeats 4000000 in
set_option maxRecDepth 100000 in
theorem c_X3_takeNumber (l : Launch) (E : gE) (N : Nat) (za0 : Nat) (za1 : Int32) (zh : PH) {h9 : PH} {r9 : Int32} (hf : f_X3_takeNumber N za0 za1 zh = some (r9, h9)) : Met l yX3_takeNumber (gWS yX3_takeNumber cX3_takeNumber 3 (some .int)) rm_X3_takeNumber (gPc E [.ref (gB E + za0), .int za1] zh) (gQi E r9 h9) 0 0 (gA E) := by
  refine gx_met (by decide) ?_ rfl
  intro p e s m below meth c X hr hlk hin2 hw
  have hx := X.1.1
  have hb := X.1.2.1
  have hl := lv_entry [.ref (gB E + za0), .int za1] (n := 3) (Nat.le_of_ble_eq_true rfl)
  rw [lg_entry_eq]
  generalize (lg_sl [.ref (gB E + za0), .int za1] ++ List.replicate (3 - (lg_sl [.ref (gB E + za0), .int za1]).length) Slot.unset).toArray = ls at hl ⊢
  have hl : lv_has ls 3 [(0, .ref (gB E + za0)), (1, .int za1)] := hl
  unfold f_X3_takeNumber at hf
  refine lv_aload_n hx hb dX3_takeNumber_0 rfl (lv_at hl 0 rfl) ?_
  obtain ⟨zt1, qzt1, hf⟩ := gb_el hf
  refine gx_getR X hw qzt1 clX3 (by decide) mf_X3_9 dX3_takeNumber_1 ?_
  obtain ⟨zt2, qzt2, hf⟩ := gb_el hf
  refine gx_getI X hw qzt2 clX10 (by decide) mf_X3_33 dX3_takeNumber_4 ?_
  refine lv_iconst (v := 2) hx hb dX3_takeNumber_7 (by decide) ?_
  refine lv_icmp_eq (tgt := 19) hx hb dX3_takeNumber_8 (by decide) (fun qc3 => ?_) (fun qc3 => ?_)
  · have hf := gif_t hf qc3
    refine lv_aload_n hx hb dX3_takeNumber_19 rfl (lv_at hl 0 rfl) ?_
    obtain ⟨zt4, qzt4, hf⟩ := gb_el hf
    refine gx_getR X hw qzt4 clX3 (by decide) mf_X3_9 dX3_takeNumber_20 ?_
    obtain ⟨zt5, qzt5, hf⟩ := gb_el hf
    refine gx_getI X hw qzt5 clX10 (by decide) mf_X3_127 dX3_takeNumber_23 ?_
    refine lv_istore_n (lv' := [(2, .int zt5), (0, .ref (gB E + za0)), (1, .int za1)]) hx hb dX3_takeNumber_26 rfl hl (by decide) rfl (fun ls hl => ?_)
    refine W.eq (g2 := F0 m 27 ls []) rfl ?_
    refine lv_iload_n hx hb dX3_takeNumber_27 rfl (lv_at hl 0 rfl) ?_
    refine lv_iload_n hx hb dX3_takeNumber_28 rfl (lv_at hl 2 rfl) ?_
    refine lv_icmp_le (tgt := 40) hx hb dX3_takeNumber_29 (by decide) (fun qc6 => ?_) (fun qc6 => ?_)
    · have hf := gif_t hf qc6
      refine lv_aload_n hx hb dX3_takeNumber_40 rfl (lv_at hl 1 rfl) ?_
      obtain ⟨zt7, qzt7, hf⟩ := gb_el hf
      refine gx_getR X hw qzt7 clX3 (by decide) mf_X3_9 dX3_takeNumber_41 ?_
      obtain ⟨qizh8, hf⟩ := gg_el hf
      obtain ⟨zh8, qzh8, hf⟩ := gb_el hf
      refine gx_kv (gx_runV (As := []) (rest := []) X hw (c_X10_advance l E N zt7 zh qzh8) kX10_advance mm_X3_66 qizh8 clX10 ⟨Nat.le_of_ble_eq_true rfl, Nat.le_of_ble_eq_true rfl⟩ rfl rfl rfl hl.1 (Nat.le_of_ble_eq_true rfl) rfl dX3_takeNumber_44 ⟨Nat.le_of_ble_eq_true rfl, Nat.le_of_ble_eq_true rfl⟩) hw (fun H locs hw => ?_)
      refine lv_iload_n hx hb dX3_takeNumber_47 rfl (lv_at hl 0 rfl) ?_
      exact gx_iret X hr hlk hw hf dX3_takeNumber_48
    · have hf := gif_f hf qc6
      refine lv_aload_n hx hb dX3_takeNumber_32 rfl (lv_at hl 1 rfl) ?_
      refine lv_iconst (v := 4) hx hb dX3_takeNumber_33 (by decide) ?_
      obtain ⟨qizh9, hf⟩ := gg_el hf
      obtain ⟨zt10, zh9, qzh9, hf⟩ := gc_el hf
      refine gx_ki (gx_runV (As := [.int 4]) (rest := []) X hw (c_X3_isWrong l E N za0 4 zh qzh9) kX3_isWrong mm_X3_56 qizh9 clX3 ⟨Nat.le_of_ble_eq_true rfl, Nat.le_of_ble_eq_true rfl⟩ rfl rfl rfl hl.1 (Nat.le_of_ble_eq_true rfl) rfl dX3_takeNumber_34 ⟨Nat.le_of_ble_eq_true rfl, Nat.le_of_ble_eq_true rfl⟩) hw (fun H locs hw => ?_)
      refine lv_pop hx hb dX3_takeNumber_37 rfl ?_
      refine lv_iconst (v := (-1)) hx hb dX3_takeNumber_38 (by decide) ?_
      exact gx_iret X hr hlk hw hf dX3_takeNumber_39
  · have hf := gif_f hf qc3
    refine lv_aload_n hx hb dX3_takeNumber_11 rfl (lv_at hl 0 rfl) ?_
    refine lv_iconst (v := 1) hx hb dX3_takeNumber_12 (by decide) ?_
    obtain ⟨qizh11, hf⟩ := gg_el hf
    obtain ⟨zt12, zh11, qzh11, hf⟩ := gc_el hf
    refine gx_ki (gx_runV (As := [.int 1]) (rest := []) X hw (c_X3_isWrong l E N za0 1 zh qzh11) kX3_isWrong mm_X3_56 qizh11 clX3 ⟨Nat.le_of_ble_eq_true rfl, Nat.le_of_ble_eq_true rfl⟩ rfl rfl rfl hl.1 (Nat.le_of_ble_eq_true rfl) rfl dX3_takeNumber_13 ⟨Nat.le_of_ble_eq_true rfl, Nat.le_of_ble_eq_true rfl⟩) hw (fun H locs hw => ?_)
    refine lv_pop hx hb dX3_takeNumber_16 rfl ?_
    refine W.eq (g2 := F0 m 17 ls []) rfl ?_
    refine lv_iconst (v := (-1)) hx hb dX3_takeNumber_17 (by decide) ?_
    exact gx_iret X hr hlk hw hf dX3_takeNumber_18
abbrev rm_X3_readGuest : Room := { frames := 6, cells := 0, slots := 0, locals := 191 }
set_option maxHeartbeats 4000000 in
set_option maxRecDepth 100000 in
theorem c_X3_readGuest (l : Launch) (E : gE) (N : Nat) (za0 : Nat) (zh : PH) {h9 : PH} {r9 : Int32} (hf : f_X3_readGuest N za0 zh = some (r9, h9)) : Met l yX3_readGuest (gWS yX3_readGuest cX3_readGuest 4 (some .boolean)) rm_X3_readGuest (gPc E [.ref (gB E + za0)] zh) (gQi E r9 h9) 0 0 (gA E) := by
  refine gx_met (by decide) ?_ rfl
  intro p e s m below meth c X hr hlk hin2 hw
  have hx := X.1.1
  have hb := X.1.2.1
  have hl := lv_entry [.ref (gB E + za0)] (n := 4) (Nat.le_of_ble_eq_true rfl)
  rw [lg_entry_eq]
  generalize (lg_sl [.ref (gB E + za0)] ++ List.replicate (4 - (lg_sl [.ref (gB E + za0)]).length) Slot.unset).toArray = ls at hl ⊢
  have hl : lv_has ls 4 [(0, .ref (gB E + za0))] := hl
  have J_132 : ∀ (zs0 : Int32) (zh : PH) (H : Heap) (locs : List Loc) (ls : Array Slot), f_X3_readGuest_132 N zs0 zh = some (r9, h9) → gw E s zh H locs → lv_has ls 4 [] → W p l e rm_X3_readGuest s m [.ref (gB E + za0)].toArray below meth c H locs 0 0 (MQ below (gQi E r9 h9) [.ref (gB E + za0)].toArray s 0 0 (gA E)) (F0 m 132 ls [.int zs0]) := by
    intro zs0 zh H locs ls hf hw hl
    unfold f_X3_readGuest_132 at hf
    exact gx_zret X hr hlk hw hf dX3_readGuest_132
  have J_131 : ∀ (zh : PH) (H : Heap) (locs : List Loc) (ls : Array Slot), f_X3_readGuest_131 N zh = some (r9, h9) → gw E s zh H locs → lv_has ls 4 [] → W p l e rm_X3_readGuest s m [.ref (gB E + za0)].toArray below meth c H locs 0 0 (MQ below (gQi E r9 h9) [.ref (gB E + za0)].toArray s 0 0 (gA E)) (F0 m 131 ls []) := by
    intro zh H locs ls hf hw hl
    unfold f_X3_readGuest_131 at hf
    refine lv_iconst (v := 0) hx hb dX3_readGuest_131 (by decide) ?_
    exact J_132 0 _ _ _ ls hf hw (lv_sub hl [] rfl)
  have J_43 : ∀ (zv0 : Nat) (zh : PH) (H : Heap) (locs : List Loc) (ls : Array Slot), f_X3_readGuest_43 N zv0 zh = some (r9, h9) → gw E s zh H locs → lv_has ls 4 [(0, .ref (gB E + zv0))] → W p l e rm_X3_readGuest s m [.ref (gB E + za0)].toArray below meth c H locs 0 0 (MQ below (gQi E r9 h9) [.ref (gB E + za0)].toArray s 0 0 (gA E)) (F0 m 43 ls []) := by
    intro zv0 zh H locs ls hf hw hl
    unfold f_X3_readGuest_43 at hf
    refine lv_aload_n hx hb dX3_readGuest_43 rfl (lv_at hl 0 rfl) ?_
    refine lv_iconst (v := 1) hx hb dX3_readGuest_44 (by decide) ?_
    obtain ⟨qizh1, hf⟩ := gg_el hf
    obtain ⟨zt2, zh1, qzh1, hf⟩ := gc_el hf
    refine gx_ki (gx_runV (As := [.int 1]) (rest := []) X hw (c_X3_isWrong l E N zv0 1 zh qzh1) kX3_isWrong mm_X3_56 qizh1 clX3 ⟨Nat.le_of_ble_eq_true rfl, Nat.le_of_ble_eq_true rfl⟩ rfl rfl rfl hl.1 (Nat.le_of_ble_eq_true rfl) rfl dX3_readGuest_45 ⟨Nat.le_of_ble_eq_true rfl, Nat.le_of_ble_eq_true rfl⟩) hw (fun H locs hw => ?_)
    exact gx_zret X hr hlk hw hf dX3_readGuest_48
  unfold f_X3_readGuest at hf
  refine lv_aload_n hx hb dX3_readGuest_0 rfl (lv_at hl 0 rfl) ?_
  obtain ⟨zt1, qzt1, hf⟩ := gb_el hf
  refine gx_getR X hw qzt1 clX3 (by decide) mf_X3_15 dX3_readGuest_1 ?_
  obtain ⟨zt2, qzt2, hf⟩ := gb_el hf
  refine gx_getI X hw qzt2 clX2 (by decide) mf_X3_77 dX3_readGuest_4 ?_
  refine lv_bipush (v := 10) hx hb dX3_readGuest_7 (by decide) ?_
  refine lv_icmp_ne (tgt := 18) hx hb dX3_readGuest_9 (by decide) (fun qc3 => ?_) (fun qc3 => ?_)
  · have hf := gif_f hf qc3
    refine lv_aload_n hx hb dX3_readGuest_18 rfl (lv_at hl 0 rfl) ?_
    obtain ⟨zt4, qzt4, hf⟩ := gb_el hf
    refine gx_getR X hw qzt4 clX3 (by decide) mf_X3_9 dX3_readGuest_19 ?_
    obtain ⟨qizh5, hf⟩ := gg_el hf
    obtain ⟨zh5, qzh5, hf⟩ := gb_el hf
    refine gx_kv (gx_runV (As := []) (rest := []) X hw (c_X10_advance l E N zt4 zh qzh5) kX10_advance mm_X3_66 qizh5 clX10 ⟨Nat.le_of_ble_eq_true rfl, Nat.le_of_ble_eq_true rfl⟩ rfl rfl rfl hl.1 (Nat.le_of_ble_eq_true rfl) rfl dX3_readGuest_22 ⟨Nat.le_of_ble_eq_true rfl, Nat.le_of_ble_eq_true rfl⟩) hw (fun H locs hw => ?_)
    refine lv_aload_n hx hb dX3_readGuest_25 rfl (lv_at hl 0 rfl) ?_
    refine W.eq (g2 := F0 m 26 ls [.ref (gB E + za0)]) rfl ?_
    obtain ⟨zt6, qzt6, hf⟩ := gb_el hf
    refine gx_getR X hw qzt6 clX3 (by decide) mf_X3_9 dX3_readGuest_26 ?_
    obtain ⟨zt7, qzt7, hf⟩ := gb_el hf
    refine gx_getI X hw qzt7 clX10 (by decide) mf_X3_33 dX3_readGuest_29 ?_
    refine lv_iconst (v := 1) hx hb dX3_readGuest_32 (by decide) ?_
    refine lv_icmp_ne (tgt := 43) hx hb dX3_readGuest_33 (by decide) (fun qc8 => ?_) (fun qc8 => ?_)
    · have hf := gif_f hf qc8
      exact J_43 za0 _ _ _ ls hf hw (lv_sub hl [0] rfl)
    · have hf := gif_t hf qc8
      refine lv_aload_n hx hb dX3_readGuest_36 rfl (lv_at hl 0 rfl) ?_
      obtain ⟨qizh9, hf⟩ := gg_el hf
      obtain ⟨zt10, zh9, qzh9, hf⟩ := gc_el hf
      refine gx_ki (gx_runV (As := []) (rest := []) X hw (c_X3_isKept l E N za0 zh5 qzh9) kX3_isKept mm_X3_80 qizh9 clX3 ⟨Nat.le_of_ble_eq_true rfl, Nat.le_of_ble_eq_true rfl⟩ rfl rfl rfl hl.1 (Nat.le_of_ble_eq_true rfl) rfl dX3_readGuest_37 ⟨Nat.le_of_ble_eq_true rfl, Nat.le_of_ble_eq_true rfl⟩) hw (fun H locs hw => ?_)
      refine lv_if_eq (tgt := 49) hx hb dX3_readGuest_40 (by decide) (fun qc11 => ?_) (fun qc11 => ?_)
      · have hf := gif_t hf qc11
        refine lv_aload_n hx hb dX3_readGuest_49 rfl (lv_at hl 0 rfl) ?_
        obtain ⟨zt12, qzt12, hf⟩ := gb_el hf
        refine gx_getR X hw qzt12 clX3 (by decide) mf_X3_9 dX3_readGuest_50 ?_
        obtain ⟨zt13, qzt13, hf⟩ := gb_el hf
        refine gx_getL X hw qzt13 clX10 (by decide) mf_X3_83 dX3_readGuest_53 ?_
        refine W.eq (g2 := F0 m 56 ls [.long zt13]) rfl ?_
        refine lv_lstore_n (lv' := [(1, .long zt13), (0, .ref (gB E + za0))]) hx hb dX3_readGuest_56 rfl hl (by decide) rfl (fun ls hl => ?_)
        refine lv_aload_n hx hb dX3_readGuest_57 rfl (lv_at hl 1 rfl) ?_
        obtain ⟨zt14, qzt14, hf⟩ := gb_el hf
        refine gx_getR X hw qzt14 clX3 (by decide) mf_X3_15 dX3_readGuest_58 ?_
        refine lv_lload_n hx hb dX3_readGuest_61 rfl (lv_at hl 0 rfl) ?_
        obtain ⟨qizh15, hf⟩ := gg_el hf
        obtain ⟨zt16, zh15, qzh15, hf⟩ := gc_el hf
        refine gx_ki (gx_runV (As := [.long zt13]) (rest := []) X hw (c_X2_hasName l E N zt14 zt13 zh9 qzh15) kX2_hasName mm_X3_87 qizh15 clX2 ⟨Nat.le_of_ble_eq_true rfl, Nat.le_of_ble_eq_true rfl⟩ rfl rfl rfl hl.1 (Nat.le_of_ble_eq_true rfl) rfl dX3_readGuest_62 ⟨Nat.le_of_ble_eq_true rfl, Nat.le_of_ble_eq_true rfl⟩) hw (fun H locs hw => ?_)
        refine lv_if_eq (tgt := 74) hx hb dX3_readGuest_65 (by decide) (fun qc17 => ?_) (fun qc17 => ?_)
        · have hf := gif_t hf qc17
          refine lv_aload_n hx hb dX3_readGuest_74 rfl (lv_at hl 1 rfl) ?_
          obtain ⟨zt18, qzt18, hf⟩ := gb_el hf
          refine gx_getR X hw qzt18 clX3 (by decide) mf_X3_9 dX3_readGuest_75 ?_
          obtain ⟨qizh19, hf⟩ := gg_el hf
          obtain ⟨zh19, qzh19, hf⟩ := gb_el hf
          refine gx_kv (gx_runV (As := []) (rest := []) X hw (c_X10_advance l E N zt18 zh15 qzh19) kX10_advance mm_X3_66 qizh19 clX10 ⟨Nat.le_of_ble_eq_true rfl, Nat.le_of_ble_eq_true rfl⟩ rfl rfl rfl hl.1 (Nat.le_of_ble_eq_true rfl) rfl dX3_readGuest_78 ⟨Nat.le_of_ble_eq_true rfl, Nat.le_of_ble_eq_true rfl⟩) hw (fun H locs hw => ?_)
          refine lv_aload_n hx hb dX3_readGuest_81 rfl (lv_at hl 1 rfl) ?_
          refine W.eq (g2 := F0 m 82 ls [.ref (gB E + za0)]) rfl ?_
          obtain ⟨zt20, qzt20, hf⟩ := gb_el hf
          refine gx_getR X hw qzt20 clX3 (by decide) mf_X3_9 dX3_readGuest_82 ?_
          refine va_ldcS hx hb X.1.2.2.2.1 (gx_str X 2 rfl) dX3_readGuest_85 ?_
          obtain ⟨qizh21, hf⟩ := gg_el hf
          obtain ⟨zt22, zh21, qzh21, hf⟩ := gc_el hf
          refine gx_ki (gx_runV (As := [.ref (E.2.2.2.1 2)]) (rest := []) X hw (c_X10_isWord l E N zt20 2 zh19 qzh21) kX10_isWord mm_X3_38 qizh21 clX10 ⟨Nat.le_of_ble_eq_true rfl, Nat.le_of_ble_eq_true rfl⟩ rfl rfl rfl hl.1 (Nat.le_of_ble_eq_true rfl) rfl dX3_readGuest_87 ⟨Nat.le_of_ble_eq_true rfl, Nat.le_of_ble_eq_true rfl⟩) hw (fun H locs hw => ?_)
          refine lv_if_ne (tgt := 99) hx hb dX3_readGuest_90 (by decide) (fun qc23 => ?_) (fun qc23 => ?_)
          · have hf := gif_f hf qc23
            refine lv_aload_n hx hb dX3_readGuest_99 rfl (lv_at hl 1 rfl) ?_
            obtain ⟨zt24, qzt24, hf⟩ := gb_el hf
            refine gx_getR X hw qzt24 clX3 (by decide) mf_X3_9 dX3_readGuest_100 ?_
            obtain ⟨qizh25, hf⟩ := gg_el hf
            obtain ⟨zh25, qzh25, hf⟩ := gb_el hf
            refine gx_kv (gx_runV (As := []) (rest := []) X hw (c_X10_advance l E N zt24 zh21 qzh25) kX10_advance mm_X3_66 qizh25 clX10 ⟨Nat.le_of_ble_eq_true rfl, Nat.le_of_ble_eq_true rfl⟩ rfl rfl rfl hl.1 (Nat.le_of_ble_eq_true rfl) rfl dX3_readGuest_103 ⟨Nat.le_of_ble_eq_true rfl, Nat.le_of_ble_eq_true rfl⟩) hw (fun H locs hw => ?_)
            refine lv_aload_n hx hb dX3_readGuest_106 rfl (lv_at hl 1 rfl) ?_
            refine lv_bipush (v := 99) hx hb dX3_readGuest_107 (by decide) ?_
            obtain ⟨qizh26, hf⟩ := gg_el hf
            obtain ⟨zt27, zh26, qzh26, hf⟩ := gc_el hf
            refine gx_ki (gx_runV (As := [.int 99]) (rest := []) X hw (c_X3_takeNumber l E N za0 99 zh25 qzh26) kX3_takeNumber mm_X3_69 qizh26 clX3 ⟨Nat.le_of_ble_eq_true rfl, Nat.le_of_ble_eq_true rfl⟩ rfl rfl rfl hl.1 (Nat.le_of_ble_eq_true rfl) rfl dX3_readGuest_109 ⟨Nat.le_of_ble_eq_true rfl, Nat.le_of_ble_eq_true rfl⟩) hw (fun H locs hw => ?_)
            refine W.eq (g2 := F0 m 112 ls [.int zt27]) rfl ?_
            refine lv_istore_n (lv' := [(3, .int zt27), (1, .long zt13), (0, .ref (gB E + za0))]) hx hb dX3_readGuest_112 rfl hl (by decide) rfl (fun ls hl => ?_)
            refine lv_iload_n hx hb dX3_readGuest_113 rfl (lv_at hl 0 rfl) ?_
            refine lv_iconst (v := (-1)) hx hb dX3_readGuest_114 (by decide) ?_
            refine lv_icmp_eq (tgt := 131) hx hb dX3_readGuest_115 (by decide) (fun qc28 => ?_) (fun qc28 => ?_)
            · have hf := gif_t hf qc28
              exact J_131  _ _ _ ls hf hw (lv_sub hl [] rfl)
            · have hf := gif_f hf qc28
              refine lv_aload_n hx hb dX3_readGuest_118 rfl (lv_at hl 2 rfl) ?_
              refine lv_lload_n hx hb dX3_readGuest_119 rfl (lv_at hl 1 rfl) ?_
              refine lv_iload_n hx hb dX3_readGuest_120 rfl (lv_at hl 0 rfl) ?_
              obtain ⟨qizh29, hf⟩ := gg_el hf
              obtain ⟨zt30, zh29, qzh29, hf⟩ := gc_el hf
              refine gx_ki (gx_runV (As := [.long zt13, .int zt27]) (rest := []) X hw (c_X3_readExtras l E N za0 zt13 zt27 zh26 qzh29) kX3_readExtras mm_X3_93 qizh29 clX3 ⟨Nat.le_of_ble_eq_true rfl, Nat.le_of_ble_eq_true rfl⟩ rfl rfl rfl hl.1 (Nat.le_of_ble_eq_true rfl) rfl dX3_readGuest_121 ⟨Nat.le_of_ble_eq_true rfl, Nat.le_of_ble_eq_true rfl⟩) hw (fun H locs hw => ?_)
              refine lv_if_eq (tgt := 131) hx hb dX3_readGuest_124 (by decide) (fun qc31 => ?_) (fun qc31 => ?_)
              · have hf := gif_t hf qc31
                exact J_131  _ _ _ ls hf hw (lv_sub hl [] rfl)
              · have hf := gif_f hf qc31
                refine lv_iconst (v := 1) hx hb dX3_readGuest_127 (by decide) ?_
                refine W.eq (g2 := F0 m 128 ls [.int 1]) rfl ?_
                refine lv_goto (tgt := 132) hx hb dX3_readGuest_128 (by decide) ?_
                exact J_132 1 _ _ _ ls hf hw (lv_sub hl [] rfl)
          · have hf := gif_t hf qc23
            refine lv_aload_n hx hb dX3_readGuest_93 rfl (lv_at hl 1 rfl) ?_
            refine lv_iconst (v := 1) hx hb dX3_readGuest_94 (by decide) ?_
            obtain ⟨qizh32, hf⟩ := gg_el hf
            obtain ⟨zt33, zh32, qzh32, hf⟩ := gc_el hf
            refine gx_ki (gx_runV (As := [.int 1]) (rest := []) X hw (c_X3_isWrong l E N za0 1 zh21 qzh32) kX3_isWrong mm_X3_56 qizh32 clX3 ⟨Nat.le_of_ble_eq_true rfl, Nat.le_of_ble_eq_true rfl⟩ rfl rfl rfl hl.1 (Nat.le_of_ble_eq_true rfl) rfl dX3_readGuest_95 ⟨Nat.le_of_ble_eq_true rfl, Nat.le_of_ble_eq_true rfl⟩) hw (fun H locs hw => ?_)
            exact gx_zret X hr hlk hw hf dX3_readGuest_98
        · have hf := gif_f hf qc17
          refine lv_aload_n hx hb dX3_readGuest_68 rfl (lv_at hl 1 rfl) ?_
          refine lv_iconst (v := 3) hx hb dX3_readGuest_69 (by decide) ?_
          obtain ⟨qizh34, hf⟩ := gg_el hf
          obtain ⟨zt35, zh34, qzh34, hf⟩ := gc_el hf
          refine gx_ki (gx_runV (As := [.int 3]) (rest := []) X hw (c_X3_isWrong l E N za0 3 zh15 qzh34) kX3_isWrong mm_X3_56 qizh34 clX3 ⟨Nat.le_of_ble_eq_true rfl, Nat.le_of_ble_eq_true rfl⟩ rfl rfl rfl hl.1 (Nat.le_of_ble_eq_true rfl) rfl dX3_readGuest_70 ⟨Nat.le_of_ble_eq_true rfl, Nat.le_of_ble_eq_true rfl⟩) hw (fun H locs hw => ?_)
          exact gx_zret X hr hlk hw hf dX3_readGuest_73
      · have hf := gif_f hf qc11
        exact J_43 za0 _ _ _ ls hf hw (lv_sub hl [0] rfl)
  · have hf := gif_t hf qc3
    refine lv_aload_n hx hb dX3_readGuest_12 rfl (lv_at hl 0 rfl) ?_
    refine lv_iconst (v := 5) hx hb dX3_readGuest_13 (by decide) ?_
    obtain ⟨qizh36, hf⟩ := gg_el hf
    obtain ⟨zt37, zh36, qzh36, hf⟩ := gc_el hf
    refine gx_ki (gx_runV (As := [.int 5]) (rest := []) X hw (c_X3_isWrong l E N za0 5 zh qzh36) kX3_isWrong mm_X3_56 qizh36 clX3 ⟨Nat.le_of_ble_eq_true rfl, Nat.le_of_ble_eq_true rfl⟩ rfl rfl rfl hl.1 (Nat.le_of_ble_eq_true rfl) rfl dX3_readGuest_14 ⟨Nat.le_of_ble_eq_true rfl, Nat.le_of_ble_eq_true rfl⟩) hw (fun H locs hw => ?_)
    exact gx_zret X hr hlk hw hf dX3_readGuest_17
abbrev rm_X3_readRoom : Room := { frames := 3, cells := 0, slots := 0, locals := 63 }
set_option maxHeartbeats 4000000 in
set_option maxRecDepth 100000 in
theorem c_X3_readRoom (l : Launch) (E : gE) (N : Nat) (za0 : Nat) (zh : PH) {h9 : PH} {r9 : Int32} (hf : f_X3_readRoom N za0 zh = some (r9, h9)) : Met l yX3_readRoom (gWS yX3_readRoom cX3_readRoom 3 (some .boolean)) rm_X3_readRoom (gPc E [.ref (gB E + za0)] zh) (gQi E r9 h9) 0 0 (gA E) := by
  refine gx_met (by decide) ?_ rfl
  intro p e s m below meth c X hr hlk hin2 hw
  have hx := X.1.1
  have hb := X.1.2.1
  have hl := lv_entry [.ref (gB E + za0)] (n := 3) (Nat.le_of_ble_eq_true rfl)
  rw [lg_entry_eq]
  generalize (lg_sl [.ref (gB E + za0)] ++ List.replicate (3 - (lg_sl [.ref (gB E + za0)]).length) Slot.unset).toArray = ls at hl ⊢
  have hl : lv_has ls 3 [(0, .ref (gB E + za0))] := hl
  unfold f_X3_readRoom at hf
  refine lv_aload_n hx hb dX3_readRoom_0 rfl (lv_at hl 0 rfl) ?_
  obtain ⟨zt1, qzt1, hf⟩ := gb_el hf
  refine gx_getR X hw qzt1 clX3 (by decide) mf_X3_15 dX3_readRoom_1 ?_
  obtain ⟨zt2, qzt2, hf⟩ := gb_el hf
  refine gx_getI X hw qzt2 clX2 (by decide) mf_X3_63 dX3_readRoom_4 ?_
  refine lv_bipush (v := 10) hx hb dX3_readRoom_7 (by decide) ?_
  refine lv_icmp_ne (tgt := 18) hx hb dX3_readRoom_9 (by decide) (fun qc3 => ?_) (fun qc3 => ?_)
  · have hf := gif_f hf qc3
    refine lv_aload_n hx hb dX3_readRoom_18 rfl (lv_at hl 0 rfl) ?_
    obtain ⟨zt4, qzt4, hf⟩ := gb_el hf
    refine gx_getR X hw qzt4 clX3 (by decide) mf_X3_9 dX3_readRoom_19 ?_
    obtain ⟨qizh5, hf⟩ := gg_el hf
    obtain ⟨zh5, qzh5, hf⟩ := gb_el hf
    refine gx_kv (gx_runV (As := []) (rest := []) X hw (c_X10_advance l E N zt4 zh qzh5) kX10_advance mm_X3_66 qizh5 clX10 ⟨Nat.le_of_ble_eq_true rfl, Nat.le_of_ble_eq_true rfl⟩ rfl rfl rfl hl.1 (Nat.le_of_ble_eq_true rfl) rfl dX3_readRoom_22 ⟨Nat.le_of_ble_eq_true rfl, Nat.le_of_ble_eq_true rfl⟩) hw (fun H locs hw => ?_)
    refine lv_aload_n hx hb dX3_readRoom_25 rfl (lv_at hl 0 rfl) ?_
    refine W.eq (g2 := F0 m 26 ls [.ref (gB E + za0)]) rfl ?_
    refine lv_bipush (v := 9) hx hb dX3_readRoom_26 (by decide) ?_
    obtain ⟨qizh6, hf⟩ := gg_el hf
    obtain ⟨zt7, zh6, qzh6, hf⟩ := gc_el hf
    refine gx_ki (gx_runV (As := [.int 9]) (rest := []) X hw (c_X3_takeNumber l E N za0 9 zh5 qzh6) kX3_takeNumber mm_X3_69 qizh6 clX3 ⟨Nat.le_of_ble_eq_true rfl, Nat.le_of_ble_eq_true rfl⟩ rfl rfl rfl hl.1 (Nat.le_of_ble_eq_true rfl) rfl dX3_readRoom_28 ⟨Nat.le_of_ble_eq_true rfl, Nat.le_of_ble_eq_true rfl⟩) hw (fun H locs hw => ?_)
    refine lv_istore_n (lv' := [(1, .int zt7), (0, .ref (gB E + za0))]) hx hb dX3_readRoom_31 rfl hl (by decide) rfl (fun ls hl => ?_)
    refine lv_iload_n hx hb dX3_readRoom_32 rfl (lv_at hl 0 rfl) ?_
    refine lv_iconst (v := (-1)) hx hb dX3_readRoom_33 (by decide) ?_
    refine lv_icmp_ne (tgt := 39) hx hb dX3_readRoom_34 (by decide) (fun qc8 => ?_) (fun qc8 => ?_)
    · have hf := gif_f hf qc8
      refine lv_aload_n hx hb dX3_readRoom_39 rfl (lv_at hl 1 rfl) ?_
      refine lv_iconst (v := 1) hx hb dX3_readRoom_40 (by decide) ?_
      obtain ⟨qizh9, hf⟩ := gg_el hf
      obtain ⟨zt10, zh9, qzh9, hf⟩ := gc_el hf
      refine gx_ki (gx_runV (As := [.int 1]) (rest := []) X hw (c_X3_takeNumber l E N za0 1 zh6 qzh9) kX3_takeNumber mm_X3_69 qizh9 clX3 ⟨Nat.le_of_ble_eq_true rfl, Nat.le_of_ble_eq_true rfl⟩ rfl rfl rfl hl.1 (Nat.le_of_ble_eq_true rfl) rfl dX3_readRoom_41 ⟨Nat.le_of_ble_eq_true rfl, Nat.le_of_ble_eq_true rfl⟩) hw (fun H locs hw => ?_)
      refine lv_istore_n (lv' := [(2, .int zt10), (1, .int zt7), (0, .ref (gB E + za0))]) hx hb dX3_readRoom_44 rfl hl (by decide) rfl (fun ls hl => ?_)
      refine W.eq (g2 := F0 m 45 ls []) rfl ?_
      refine lv_iload_n hx hb dX3_readRoom_45 rfl (lv_at hl 0 rfl) ?_
      refine lv_iconst (v := (-1)) hx hb dX3_readRoom_46 (by decide) ?_
      refine lv_icmp_ne (tgt := 52) hx hb dX3_readRoom_47 (by decide) (fun qc11 => ?_) (fun qc11 => ?_)
      · have hf := gif_f hf qc11
        refine lv_aload_n hx hb dX3_readRoom_52 rfl (lv_at hl 2 rfl) ?_
        obtain ⟨zt12, qzt12, hf⟩ := gb_el hf
        refine gx_getR X hw qzt12 clX3 (by decide) mf_X3_15 dX3_readRoom_53 ?_
        refine lv_iload_n hx hb dX3_readRoom_56 rfl (lv_at hl 1 rfl) ?_
        refine lv_iload_n hx hb dX3_readRoom_57 rfl (lv_at hl 0 rfl) ?_
        obtain ⟨qizh13, hf⟩ := gg_el hf
        obtain ⟨zh13, qzh13, hf⟩ := gb_el hf
        refine gx_kv (gx_runV (As := [.int zt7, .int zt10]) (rest := []) X hw (c_X2_addRoom l E N zt12 zt7 zt10 zh9 qzh13) kX2_addRoom mm_X3_73 qizh13 clX2 ⟨Nat.le_of_ble_eq_true rfl, Nat.le_of_ble_eq_true rfl⟩ rfl rfl rfl hl.1 (Nat.le_of_ble_eq_true rfl) rfl dX3_readRoom_58 ⟨Nat.le_of_ble_eq_true rfl, Nat.le_of_ble_eq_true rfl⟩) hw (fun H locs hw => ?_)
        refine lv_iconst (v := 1) hx hb dX3_readRoom_61 (by decide) ?_
        exact gx_zret X hr hlk hw hf dX3_readRoom_62
      · have hf := gif_t hf qc11
        refine lv_iconst (v := 0) hx hb dX3_readRoom_50 (by decide) ?_
        exact gx_zret X hr hlk hw hf dX3_readRoom_51
    · have hf := gif_t hf qc8
      refine lv_iconst (v := 0) hx hb dX3_readRoom_37 (by decide) ?_
      exact gx_zret X hr hlk hw hf dX3_readRoom_38
  · have hf := gif_t hf qc3
    refine lv_aload_n hx hb dX3_readRoom_12 rfl (lv_at hl 0 rfl) ?_
    refine lv_iconst (v := 5) hx hb dX3_readRoom_13 (by decide) ?_
    obtain ⟨qizh14, hf⟩ := gg_el hf
    obtain ⟨zt15, zh14, qzh14, hf⟩ := gc_el hf
    refine gx_ki (gx_runV (As := [.int 5]) (rest := []) X hw (c_X3_isWrong l E N za0 5 zh qzh14) kX3_isWrong mm_X3_56 qizh14 clX3 ⟨Nat.le_of_ble_eq_true rfl, Nat.le_of_ble_eq_true rfl⟩ rfl rfl rfl hl.1 (Nat.le_of_ble_eq_true rfl) rfl dX3_readRoom_14 ⟨Nat.le_of_ble_eq_true rfl, Nat.le_of_ble_eq_true rfl⟩) hw (fun H locs hw => ?_)
    exact gx_zret X hr hlk hw hf dX3_readRoom_17
abbrev rm_X3_deedAt : Room := { frames := 5, cells := 0, slots := 0, locals := 164 }
set_option maxHeartbeats 4000000 in
set_option maxRecDepth 100000 in
theorem c_X3_deedAt (l : Launch) (E : gE) (N : Nat) (za0 : Nat) (za1 : Int32) (zh : PH) {h9 : PH} {r9 : Int32} (hf : f_X3_deedAt N za0 za1 zh = some (r9, h9)) : Met l yX3_deedAt (gWS yX3_deedAt cX3_deedAt 2 (some .int)) rm_X3_deedAt (gPc E [.ref (gB E + za0), .int za1] zh) (gQi E r9 h9) 0 0 (gA E) := by
  refine gx_met (by decide) ?_ rfl
  intro p e s m below meth c X hr hlk hin2 hw
  have hx := X.1.1
  have hb := X.1.2.1
  have hl := lv_entry [.ref (gB E + za0), .int za1] (n := 2) (Nat.le_of_ble_eq_true rfl)
  rw [lg_entry_eq]
  generalize (lg_sl [.ref (gB E + za0), .int za1] ++ List.replicate (2 - (lg_sl [.ref (gB E + za0), .int za1]).length) Slot.unset).toArray = ls at hl ⊢
  have hl : lv_has ls 2 [(0, .ref (gB E + za0)), (1, .int za1)] := hl
  have J_161 : ∀ (zs0 : Int32) (zh : PH) (H : Heap) (locs : List Loc) (ls : Array Slot), f_X3_deedAt_161 N zs0 zh = some (r9, h9) → gw E s zh H locs → lv_has ls 2 [] → W p l e rm_X3_deedAt s m [.ref (gB E + za0), .int za1].toArray below meth c H locs 0 0 (MQ below (gQi E r9 h9) [.ref (gB E + za0), .int za1].toArray s 0 0 (gA E)) (F0 m 161 ls [.int zs0]) := by
    intro zs0 zh H locs ls hf hw hl
    unfold f_X3_deedAt_161 at hf
    exact gx_iret X hr hlk hw hf dX3_deedAt_161
  have J_141 : ∀ (zs0 : Int32) (zh : PH) (H : Heap) (locs : List Loc) (ls : Array Slot), f_X3_deedAt_141 N zs0 zh = some (r9, h9) → gw E s zh H locs → lv_has ls 2 [] → W p l e rm_X3_deedAt s m [.ref (gB E + za0), .int za1].toArray below meth c H locs 0 0 (MQ below (gQi E r9 h9) [.ref (gB E + za0), .int za1].toArray s 0 0 (gA E)) (F0 m 141 ls [.int zs0]) := by
    intro zs0 zh H locs ls hf hw hl
    unfold f_X3_deedAt_141 at hf
    exact gx_iret X hr hlk hw hf dX3_deedAt_141
  have J_103 : ∀ (zs0 : Int32) (zh : PH) (H : Heap) (locs : List Loc) (ls : Array Slot), f_X3_deedAt_103 N zs0 zh = some (r9, h9) → gw E s zh H locs → lv_has ls 2 [] → W p l e rm_X3_deedAt s m [.ref (gB E + za0), .int za1].toArray below meth c H locs 0 0 (MQ below (gQi E r9 h9) [.ref (gB E + za0), .int za1].toArray s 0 0 (gA E)) (F0 m 103 ls [.int zs0]) := by
    intro zs0 zh H locs ls hf hw hl
    unfold f_X3_deedAt_103 at hf
    exact gx_iret X hr hlk hw hf dX3_deedAt_103
  have J_65 : ∀ (zs0 : Int32) (zh : PH) (H : Heap) (locs : List Loc) (ls : Array Slot), f_X3_deedAt_65 N zs0 zh = some (r9, h9) → gw E s zh H locs → lv_has ls 2 [] → W p l e rm_X3_deedAt s m [.ref (gB E + za0), .int za1].toArray below meth c H locs 0 0 (MQ below (gQi E r9 h9) [.ref (gB E + za0), .int za1].toArray s 0 0 (gA E)) (F0 m 65 ls [.int zs0]) := by
    intro zs0 zh H locs ls hf hw hl
    unfold f_X3_deedAt_65 at hf
    exact gx_iret X hr hlk hw hf dX3_deedAt_65
  unfold f_X3_deedAt at hf
  refine lv_iload_n hx hb dX3_deedAt_0 rfl (lv_at hl 1 rfl) ?_
  by_cases qc1 : (za1 : Int32) = 0
  · have hf := gif_t hf qc1
    refine lv_tableIn (off := 27) (tgt := 28) hx hb dX3_deedAt_1 (by rw [qc1]; decide) (by rw [qc1]; decide) (by rw [qc1]; rfl) (by decide) ?_
    refine lv_aload_n hx hb dX3_deedAt_28 rfl (lv_at hl 0 rfl) ?_
    obtain ⟨zt2, qzt2, hf⟩ := gb_el hf
    refine gx_getR X hw qzt2 clX3 (by decide) mf_X3_9 dX3_deedAt_29 ?_
    refine va_ldcS hx hb X.1.2.2.2.1 (gx_str X 7 rfl) dX3_deedAt_32 ?_
    obtain ⟨qizh3, hf⟩ := gg_el hf
    obtain ⟨zt4, zh3, qzh3, hf⟩ := gc_el hf
    refine gx_ki (gx_runV (As := [.ref (E.2.2.2.1 7)]) (rest := []) X hw (c_X10_isWord l E N zt2 7 zh qzh3) kX10_isWord mm_X3_38 qizh3 clX10 ⟨Nat.le_of_ble_eq_true rfl, Nat.le_of_ble_eq_true rfl⟩ rfl rfl rfl hl.1 (Nat.le_of_ble_eq_true rfl) rfl dX3_deedAt_34 ⟨Nat.le_of_ble_eq_true rfl, Nat.le_of_ble_eq_true rfl⟩) hw (fun H locs hw => ?_)
    refine lv_if_eq (tgt := 46) hx hb dX3_deedAt_37 (by decide) (fun qc5 => ?_) (fun qc5 => ?_)
    · have hf := gif_t hf qc5
      refine lv_aload_n hx hb dX3_deedAt_46 rfl (lv_at hl 0 rfl) ?_
      obtain ⟨zt6, qzt6, hf⟩ := gb_el hf
      refine gx_getR X hw qzt6 clX3 (by decide) mf_X3_9 dX3_deedAt_47 ?_
      refine W.eq (g2 := F0 m 50 ls [.ref (gB E + zt6)]) rfl ?_
      refine va_ldcS hx hb X.1.2.2.2.1 (gx_str X 8 rfl) dX3_deedAt_50 ?_
      obtain ⟨qizh7, hf⟩ := gg_el hf
      obtain ⟨zt8, zh7, qzh7, hf⟩ := gc_el hf
      refine gx_ki (gx_runV (As := [.ref (E.2.2.2.1 8)]) (rest := []) X hw (c_X10_isWord l E N zt6 8 zh3 qzh7) kX10_isWord mm_X3_38 qizh7 clX10 ⟨Nat.le_of_ble_eq_true rfl, Nat.le_of_ble_eq_true rfl⟩ rfl rfl rfl hl.1 (Nat.le_of_ble_eq_true rfl) rfl dX3_deedAt_52 ⟨Nat.le_of_ble_eq_true rfl, Nat.le_of_ble_eq_true rfl⟩) hw (fun H locs hw => ?_)
      refine lv_if_eq (tgt := 64) hx hb dX3_deedAt_55 (by decide) (fun qc9 => ?_) (fun qc9 => ?_)
      · have hf := gif_t hf qc9
        refine lv_iconst (v := (-1)) hx hb dX3_deedAt_64 (by decide) ?_
        exact J_65 (-1) _ _ _ ls hf hw (lv_sub hl [] rfl)
      · have hf := gif_f hf qc9
        refine lv_sipush (v := 10010) hx hb dX3_deedAt_58 (by decide) ?_
        refine lv_goto (tgt := 65) hx hb dX3_deedAt_61 (by decide) ?_
        exact J_65 10010 _ _ _ ls hf hw (lv_sub hl [] rfl)
    · have hf := gif_f hf qc5
      refine lv_sipush (v := 10009) hx hb dX3_deedAt_40 (by decide) ?_
      refine lv_goto (tgt := 65) hx hb dX3_deedAt_43 (by decide) ?_
      exact J_65 10009 _ _ _ ls hf hw (lv_sub hl [] rfl)
  have hf := gif_f hf qc1
  by_cases qc10 : (za1 : Int32) = 1
  · have hf := gif_t hf qc10
    refine lv_tableIn (off := 65) (tgt := 66) hx hb dX3_deedAt_1 (by rw [qc10]; decide) (by rw [qc10]; decide) (by rw [qc10]; rfl) (by decide) ?_
    refine lv_aload_n hx hb dX3_deedAt_66 rfl (lv_at hl 0 rfl) ?_
    obtain ⟨zt11, qzt11, hf⟩ := gb_el hf
    refine gx_getR X hw qzt11 clX3 (by decide) mf_X3_9 dX3_deedAt_67 ?_
    obtain ⟨zt12, qzt12, hf⟩ := gb_el hf
    refine gx_getI X hw qzt12 clX10 (by decide) mf_X3_33 dX3_deedAt_70 ?_
    refine lv_bipush (v := 60) hx hb dX3_deedAt_73 (by decide) ?_
    refine lv_icmp_ne (tgt := 84) hx hb dX3_deedAt_75 (by decide) (fun qc13 => ?_) (fun qc13 => ?_)
    · have hf := gif_f hf qc13
      refine lv_aload_n hx hb dX3_deedAt_84 rfl (lv_at hl 0 rfl) ?_
      obtain ⟨zt14, qzt14, hf⟩ := gb_el hf
      refine gx_getR X hw qzt14 clX3 (by decide) mf_X3_9 dX3_deedAt_85 ?_
      refine W.eq (g2 := F0 m 88 ls [.ref (gB E + zt14)]) rfl ?_
      obtain ⟨zt15, qzt15, hf⟩ := gb_el hf
      refine gx_getI X hw qzt15 clX10 (by decide) mf_X3_33 dX3_deedAt_88 ?_
      refine lv_bipush (v := 61) hx hb dX3_deedAt_91 (by decide) ?_
      refine lv_icmp_ne (tgt := 102) hx hb dX3_deedAt_93 (by decide) (fun qc16 => ?_) (fun qc16 => ?_)
      · have hf := gif_f hf qc16
        refine lv_iconst (v := (-1)) hx hb dX3_deedAt_102 (by decide) ?_
        exact J_103 (-1) _ _ _ ls hf hw (lv_sub hl [] rfl)
      · have hf := gif_t hf qc16
        refine lv_sipush (v := 10012) hx hb dX3_deedAt_96 (by decide) ?_
        refine lv_goto (tgt := 103) hx hb dX3_deedAt_99 (by decide) ?_
        exact J_103 10012 _ _ _ ls hf hw (lv_sub hl [] rfl)
    · have hf := gif_t hf qc13
      refine lv_sipush (v := 10011) hx hb dX3_deedAt_78 (by decide) ?_
      refine lv_goto (tgt := 103) hx hb dX3_deedAt_81 (by decide) ?_
      exact J_103 10011 _ _ _ ls hf hw (lv_sub hl [] rfl)
  have hf := gif_f hf qc10
  by_cases qc17 : (za1 : Int32) = 2
  · have hf := gif_t hf qc17
    refine lv_tableIn (off := 103) (tgt := 104) hx hb dX3_deedAt_1 (by rw [qc17]; decide) (by rw [qc17]; decide) (by rw [qc17]; rfl) (by decide) ?_
    refine lv_aload_n hx hb dX3_deedAt_104 rfl (lv_at hl 0 rfl) ?_
    obtain ⟨zt18, qzt18, hf⟩ := gb_el hf
    refine gx_getR X hw qzt18 clX3 (by decide) mf_X3_9 dX3_deedAt_105 ?_
    obtain ⟨zt19, qzt19, hf⟩ := gb_el hf
    refine gx_getI X hw qzt19 clX10 (by decide) mf_X3_33 dX3_deedAt_108 ?_
    refine lv_bipush (v := 43) hx hb dX3_deedAt_111 (by decide) ?_
    refine lv_icmp_ne (tgt := 122) hx hb dX3_deedAt_113 (by decide) (fun qc20 => ?_) (fun qc20 => ?_)
    · have hf := gif_f hf qc20
      refine lv_aload_n hx hb dX3_deedAt_122 rfl (lv_at hl 0 rfl) ?_
      obtain ⟨zt21, qzt21, hf⟩ := gb_el hf
      refine gx_getR X hw qzt21 clX3 (by decide) mf_X3_9 dX3_deedAt_123 ?_
      refine W.eq (g2 := F0 m 126 ls [.ref (gB E + zt21)]) rfl ?_
      obtain ⟨zt22, qzt22, hf⟩ := gb_el hf
      refine gx_getI X hw qzt22 clX10 (by decide) mf_X3_33 dX3_deedAt_126 ?_
      refine lv_bipush (v := 45) hx hb dX3_deedAt_129 (by decide) ?_
      refine lv_icmp_ne (tgt := 140) hx hb dX3_deedAt_131 (by decide) (fun qc23 => ?_) (fun qc23 => ?_)
      · have hf := gif_f hf qc23
        refine lv_iconst (v := (-1)) hx hb dX3_deedAt_140 (by decide) ?_
        exact J_141 (-1) _ _ _ ls hf hw (lv_sub hl [] rfl)
      · have hf := gif_t hf qc23
        refine lv_sipush (v := 10014) hx hb dX3_deedAt_134 (by decide) ?_
        refine lv_goto (tgt := 141) hx hb dX3_deedAt_137 (by decide) ?_
        exact J_141 10014 _ _ _ ls hf hw (lv_sub hl [] rfl)
    · have hf := gif_t hf qc20
      refine lv_sipush (v := 10013) hx hb dX3_deedAt_116 (by decide) ?_
      refine lv_goto (tgt := 141) hx hb dX3_deedAt_119 (by decide) ?_
      exact J_141 10013 _ _ _ ls hf hw (lv_sub hl [] rfl)
  have hf := gif_f hf qc17
  have nqc1 := lv_neT (a := 0) qc1 (by decide)
  have nqc10 := lv_neT (a := 1) qc10 (by decide)
  have nqc17 := lv_neT (a := 2) qc17 (by decide)
  refine lv_tableOut (tgt := 142) hx hb dX3_deedAt_1 (by omega) (by decide) ?_
  refine lv_aload_n hx hb dX3_deedAt_142 rfl (lv_at hl 0 rfl) ?_
  obtain ⟨zt24, qzt24, hf⟩ := gb_el hf
  refine gx_getR X hw qzt24 clX3 (by decide) mf_X3_9 dX3_deedAt_143 ?_
  obtain ⟨zt25, qzt25, hf⟩ := gb_el hf
  refine gx_getI X hw qzt25 clX10 (by decide) mf_X3_33 dX3_deedAt_146 ?_
  refine lv_bipush (v := 42) hx hb dX3_deedAt_149 (by decide) ?_
  refine lv_icmp_ne (tgt := 160) hx hb dX3_deedAt_151 (by decide) (fun qc26 => ?_) (fun qc26 => ?_)
  · have hf := gif_f hf qc26
    refine lv_iconst (v := (-1)) hx hb dX3_deedAt_160 (by decide) ?_
    exact J_161 (-1) _ _ _ ls hf hw (lv_sub hl [] rfl)
  · have hf := gif_t hf qc26
    refine lv_sipush (v := 10015) hx hb dX3_deedAt_154 (by decide) ?_
    refine lv_goto (tgt := 161) hx hb dX3_deedAt_157 (by decide) ?_
    exact J_161 10015 _ _ _ ls hf hw (lv_sub hl [] rfl)
abbrev rm_X3_factHere : Room := { frames := 5, cells := 0, slots := 0, locals := 164 }
set_option maxHeartbeats 4000000 in
set_option maxRecDepth 100000 in
theorem c_X3_factHere (l : Launch) (E : gE) (N : Nat) (za0 : Nat) (zh : PH) {h9 : PH} {r9 : Int32} (hf : f_X3_factHere N za0 zh = some (r9, h9)) : Met l yX3_factHere (gWS yX3_factHere cX3_factHere 1 (some .int)) rm_X3_factHere (gPc E [.ref (gB E + za0)] zh) (gQi E r9 h9) 0 0 (gA E) := by
  refine gx_met (by decide) ?_ rfl
  intro p e s m below meth c X hr hlk hin2 hw
  have hx := X.1.1
  have hb := X.1.2.1
  have hl := lv_entry [.ref (gB E + za0)] (n := 1) (Nat.le_of_ble_eq_true rfl)
  rw [lg_entry_eq]
  generalize (lg_sl [.ref (gB E + za0)] ++ List.replicate (1 - (lg_sl [.ref (gB E + za0)]).length) Slot.unset).toArray = ls at hl ⊢
  have hl : lv_has ls 1 [(0, .ref (gB E + za0))] := hl
  have J_131 : ∀ (zs0 : Int32) (zh : PH) (H : Heap) (locs : List Loc) (ls : Array Slot), f_X3_factHere_131 N zs0 zh = some (r9, h9) → gw E s zh H locs → lv_has ls 1 [] → W p l e rm_X3_factHere s m [.ref (gB E + za0)].toArray below meth c H locs 0 0 (MQ below (gQi E r9 h9) [.ref (gB E + za0)].toArray s 0 0 (gA E)) (F0 m 131 ls [.int zs0]) := by
    intro zs0 zh H locs ls hf hw hl
    unfold f_X3_factHere_131 at hf
    exact gx_iret X hr hlk hw hf dX3_factHere_131
  unfold f_X3_factHere at hf
  refine lv_aload_n hx hb dX3_factHere_0 rfl (lv_at hl 0 rfl) ?_
  obtain ⟨zt1, qzt1, hf⟩ := gb_el hf
  refine gx_getR X hw qzt1 clX3 (by decide) mf_X3_9 dX3_factHere_1 ?_
  refine va_ldcS hx hb X.1.2.2.2.1 (gx_str X 2 rfl) dX3_factHere_4 ?_
  obtain ⟨qizh2, hf⟩ := gg_el hf
  obtain ⟨zt3, zh2, qzh2, hf⟩ := gc_el hf
  refine gx_ki (gx_runV (As := [.ref (E.2.2.2.1 2)]) (rest := []) X hw (c_X10_isWord l E N zt1 2 zh qzh2) kX10_isWord mm_X3_38 qizh2 clX10 ⟨Nat.le_of_ble_eq_true rfl, Nat.le_of_ble_eq_true rfl⟩ rfl rfl rfl hl.1 (Nat.le_of_ble_eq_true rfl) rfl dX3_factHere_6 ⟨Nat.le_of_ble_eq_true rfl, Nat.le_of_ble_eq_true rfl⟩) hw (fun H locs hw => ?_)
  refine lv_if_eq (tgt := 16) hx hb dX3_factHere_9 (by decide) (fun qc4 => ?_) (fun qc4 => ?_)
  · have hf := gif_t hf qc4
    refine lv_aload_n hx hb dX3_factHere_16 rfl (lv_at hl 0 rfl) ?_
    obtain ⟨zt5, qzt5, hf⟩ := gb_el hf
    refine gx_getR X hw qzt5 clX3 (by decide) mf_X3_9 dX3_factHere_17 ?_
    refine va_ldcS hx hb X.1.2.2.2.1 (gx_str X 3 rfl) dX3_factHere_20 ?_
    obtain ⟨qizh6, hf⟩ := gg_el hf
    obtain ⟨zt7, zh6, qzh6, hf⟩ := gc_el hf
    refine gx_ki (gx_runV (As := [.ref (E.2.2.2.1 3)]) (rest := []) X hw (c_X10_isWord l E N zt5 3 zh2 qzh6) kX10_isWord mm_X3_38 qizh6 clX10 ⟨Nat.le_of_ble_eq_true rfl, Nat.le_of_ble_eq_true rfl⟩ rfl rfl rfl hl.1 (Nat.le_of_ble_eq_true rfl) rfl dX3_factHere_22 ⟨Nat.le_of_ble_eq_true rfl, Nat.le_of_ble_eq_true rfl⟩) hw (fun H locs hw => ?_)
    refine W.eq (g2 := F0 m 25 ls [.int zt7]) rfl ?_
    refine lv_if_eq (tgt := 32) hx hb dX3_factHere_25 (by decide) (fun qc8 => ?_) (fun qc8 => ?_)
    · have hf := gif_t hf qc8
      refine lv_aload_n hx hb dX3_factHere_32 rfl (lv_at hl 0 rfl) ?_
      obtain ⟨zt9, qzt9, hf⟩ := gb_el hf
      refine gx_getR X hw qzt9 clX3 (by decide) mf_X3_9 dX3_factHere_33 ?_
      refine va_ldcS hx hb X.1.2.2.2.1 (gx_str X 4 rfl) dX3_factHere_36 ?_
      obtain ⟨qizh10, hf⟩ := gg_el hf
      obtain ⟨zt11, zh10, qzh10, hf⟩ := gc_el hf
      refine gx_ki (gx_runV (As := [.ref (E.2.2.2.1 4)]) (rest := []) X hw (c_X10_isWord l E N zt9 4 zh6 qzh10) kX10_isWord mm_X3_38 qizh10 clX10 ⟨Nat.le_of_ble_eq_true rfl, Nat.le_of_ble_eq_true rfl⟩ rfl rfl rfl hl.1 (Nat.le_of_ble_eq_true rfl) rfl dX3_factHere_38 ⟨Nat.le_of_ble_eq_true rfl, Nat.le_of_ble_eq_true rfl⟩) hw (fun H locs hw => ?_)
      refine lv_if_eq (tgt := 48) hx hb dX3_factHere_41 (by decide) (fun qc12 => ?_) (fun qc12 => ?_)
      · have hf := gif_t hf qc12
        refine lv_aload_n hx hb dX3_factHere_48 rfl (lv_at hl 0 rfl) ?_
        obtain ⟨zt13, qzt13, hf⟩ := gb_el hf
        refine gx_getR X hw qzt13 clX3 (by decide) mf_X3_9 dX3_factHere_49 ?_
        refine va_ldcS hx hb X.1.2.2.2.1 (gx_str X 9 rfl) dX3_factHere_52 ?_
        obtain ⟨qizh14, hf⟩ := gg_el hf
        obtain ⟨zt15, zh14, qzh14, hf⟩ := gc_el hf
        refine gx_ki (gx_runV (As := [.ref (E.2.2.2.1 9)]) (rest := []) X hw (c_X10_isWord l E N zt13 9 zh10 qzh14) kX10_isWord mm_X3_38 qizh14 clX10 ⟨Nat.le_of_ble_eq_true rfl, Nat.le_of_ble_eq_true rfl⟩ rfl rfl rfl hl.1 (Nat.le_of_ble_eq_true rfl) rfl dX3_factHere_54 ⟨Nat.le_of_ble_eq_true rfl, Nat.le_of_ble_eq_true rfl⟩) hw (fun H locs hw => ?_)
        refine W.eq (g2 := F0 m 57 ls [.int zt15]) rfl ?_
        refine lv_if_eq (tgt := 64) hx hb dX3_factHere_57 (by decide) (fun qc16 => ?_) (fun qc16 => ?_)
        · have hf := gif_t hf qc16
          refine lv_aload_n hx hb dX3_factHere_64 rfl (lv_at hl 0 rfl) ?_
          obtain ⟨zt17, qzt17, hf⟩ := gb_el hf
          refine gx_getR X hw qzt17 clX3 (by decide) mf_X3_9 dX3_factHere_65 ?_
          refine va_ldcS hx hb X.1.2.2.2.1 (gx_str X 10 rfl) dX3_factHere_68 ?_
          obtain ⟨qizh18, hf⟩ := gg_el hf
          obtain ⟨zt19, zh18, qzh18, hf⟩ := gc_el hf
          refine gx_ki (gx_runV (As := [.ref (E.2.2.2.1 10)]) (rest := []) X hw (c_X10_isWord l E N zt17 10 zh14 qzh18) kX10_isWord mm_X3_38 qizh18 clX10 ⟨Nat.le_of_ble_eq_true rfl, Nat.le_of_ble_eq_true rfl⟩ rfl rfl rfl hl.1 (Nat.le_of_ble_eq_true rfl) rfl dX3_factHere_70 ⟨Nat.le_of_ble_eq_true rfl, Nat.le_of_ble_eq_true rfl⟩) hw (fun H locs hw => ?_)
          refine lv_if_eq (tgt := 80) hx hb dX3_factHere_73 (by decide) (fun qc20 => ?_) (fun qc20 => ?_)
          · have hf := gif_t hf qc20
            refine lv_aload_n hx hb dX3_factHere_80 rfl (lv_at hl 0 rfl) ?_
            obtain ⟨zt21, qzt21, hf⟩ := gb_el hf
            refine gx_getR X hw qzt21 clX3 (by decide) mf_X3_9 dX3_factHere_81 ?_
            refine va_ldcS hx hb X.1.2.2.2.1 (gx_str X 11 rfl) dX3_factHere_84 ?_
            obtain ⟨qizh22, hf⟩ := gg_el hf
            obtain ⟨zt23, zh22, qzh22, hf⟩ := gc_el hf
            refine gx_ki (gx_runV (As := [.ref (E.2.2.2.1 11)]) (rest := []) X hw (c_X10_isWord l E N zt21 11 zh18 qzh22) kX10_isWord mm_X3_38 qizh22 clX10 ⟨Nat.le_of_ble_eq_true rfl, Nat.le_of_ble_eq_true rfl⟩ rfl rfl rfl hl.1 (Nat.le_of_ble_eq_true rfl) rfl dX3_factHere_86 ⟨Nat.le_of_ble_eq_true rfl, Nat.le_of_ble_eq_true rfl⟩) hw (fun H locs hw => ?_)
            refine W.eq (g2 := F0 m 89 ls [.int zt23]) rfl ?_
            refine lv_if_eq (tgt := 96) hx hb dX3_factHere_89 (by decide) (fun qc24 => ?_) (fun qc24 => ?_)
            · have hf := gif_t hf qc24
              refine lv_aload_n hx hb dX3_factHere_96 rfl (lv_at hl 0 rfl) ?_
              obtain ⟨zt25, qzt25, hf⟩ := gb_el hf
              refine gx_getR X hw qzt25 clX3 (by decide) mf_X3_9 dX3_factHere_97 ?_
              refine va_ldcS hx hb X.1.2.2.2.1 (gx_str X 12 rfl) dX3_factHere_100 ?_
              obtain ⟨qizh26, hf⟩ := gg_el hf
              obtain ⟨zt27, zh26, qzh26, hf⟩ := gc_el hf
              refine gx_ki (gx_runV (As := [.ref (E.2.2.2.1 12)]) (rest := []) X hw (c_X10_isWord l E N zt25 12 zh22 qzh26) kX10_isWord mm_X3_38 qizh26 clX10 ⟨Nat.le_of_ble_eq_true rfl, Nat.le_of_ble_eq_true rfl⟩ rfl rfl rfl hl.1 (Nat.le_of_ble_eq_true rfl) rfl dX3_factHere_102 ⟨Nat.le_of_ble_eq_true rfl, Nat.le_of_ble_eq_true rfl⟩) hw (fun H locs hw => ?_)
              refine lv_if_eq (tgt := 112) hx hb dX3_factHere_105 (by decide) (fun qc28 => ?_) (fun qc28 => ?_)
              · have hf := gif_t hf qc28
                refine lv_aload_n hx hb dX3_factHere_112 rfl (lv_at hl 0 rfl) ?_
                obtain ⟨zt29, qzt29, hf⟩ := gb_el hf
                refine gx_getR X hw qzt29 clX3 (by decide) mf_X3_9 dX3_factHere_113 ?_
                refine va_ldcS hx hb X.1.2.2.2.1 (gx_str X 13 rfl) dX3_factHere_116 ?_
                obtain ⟨qizh30, hf⟩ := gg_el hf
                obtain ⟨zt31, zh30, qzh30, hf⟩ := gc_el hf
                refine gx_ki (gx_runV (As := [.ref (E.2.2.2.1 13)]) (rest := []) X hw (c_X10_isWord l E N zt29 13 zh26 qzh30) kX10_isWord mm_X3_38 qizh30 clX10 ⟨Nat.le_of_ble_eq_true rfl, Nat.le_of_ble_eq_true rfl⟩ rfl rfl rfl hl.1 (Nat.le_of_ble_eq_true rfl) rfl dX3_factHere_118 ⟨Nat.le_of_ble_eq_true rfl, Nat.le_of_ble_eq_true rfl⟩) hw (fun H locs hw => ?_)
                refine W.eq (g2 := F0 m 121 ls [.int zt31]) rfl ?_
                refine lv_if_eq (tgt := 130) hx hb dX3_factHere_121 (by decide) (fun qc32 => ?_) (fun qc32 => ?_)
                · have hf := gif_t hf qc32
                  refine lv_iconst (v := (-1)) hx hb dX3_factHere_130 (by decide) ?_
                  exact J_131 (-1) _ _ _ ls hf hw (lv_sub hl [] rfl)
                · have hf := gif_f hf qc32
                  refine lv_sipush (v := 10007) hx hb dX3_factHere_124 (by decide) ?_
                  refine lv_goto (tgt := 131) hx hb dX3_factHere_127 (by decide) ?_
                  exact J_131 10007 _ _ _ ls hf hw (lv_sub hl [] rfl)
              · have hf := gif_f hf qc28
                refine lv_sipush (v := 10006) hx hb dX3_factHere_108 (by decide) ?_
                exact gx_iret X hr hlk hw hf dX3_factHere_111
            · have hf := gif_f hf qc24
              refine lv_sipush (v := 10005) hx hb dX3_factHere_92 (by decide) ?_
              exact gx_iret X hr hlk hw hf dX3_factHere_95
          · have hf := gif_f hf qc20
            refine lv_sipush (v := 10004) hx hb dX3_factHere_76 (by decide) ?_
            exact gx_iret X hr hlk hw hf dX3_factHere_79
        · have hf := gif_f hf qc16
          refine lv_sipush (v := 10003) hx hb dX3_factHere_60 (by decide) ?_
          exact gx_iret X hr hlk hw hf dX3_factHere_63
      · have hf := gif_f hf qc12
        refine lv_sipush (v := 10002) hx hb dX3_factHere_44 (by decide) ?_
        exact gx_iret X hr hlk hw hf dX3_factHere_47
    · have hf := gif_f hf qc8
      refine lv_sipush (v := 10001) hx hb dX3_factHere_28 (by decide) ?_
      exact gx_iret X hr hlk hw hf dX3_factHere_31
  · have hf := gif_f hf qc4
    refine lv_sipush (v := 10000) hx hb dX3_factHere_12 (by decide) ?_
    exact gx_iret X hr hlk hw hf dX3_factHere_15
abbrev rm_X3_takeSign : Room := { frames := 2, cells := 0, slots := 0, locals := 41 }
set_option maxHeartbeats 4000000 in
set_option maxRecDepth 100000 in
theorem c_X3_takeSign (l : Launch) (E : gE) (N : Nat) (za0 : Nat) (za1 : Int32) (zh : PH) {h9 : PH} {r9 : Int32} (hf : f_X3_takeSign N za0 za1 zh = some (r9, h9)) : Met l yX3_takeSign (gWS yX3_takeSign cX3_takeSign 2 (some .boolean)) rm_X3_takeSign (gPc E [.ref (gB E + za0), .int za1] zh) (gQi E r9 h9) 0 0 (gA E) := by
  refine gx_met (by decide) ?_ rfl
  intro p e s m below meth c X hr hlk hin2 hw
  have hx := X.1.1
  have hb := X.1.2.1
  have hl := lv_entry [.ref (gB E + za0), .int za1] (n := 2) (Nat.le_of_ble_eq_true rfl)
  rw [lg_entry_eq]
  generalize (lg_sl [.ref (gB E + za0), .int za1] ++ List.replicate (2 - (lg_sl [.ref (gB E + za0), .int za1]).length) Slot.unset).toArray = ls at hl ⊢
  have hl : lv_has ls 2 [(0, .ref (gB E + za0)), (1, .int za1)] := hl
  unfold f_X3_takeSign at hf
  refine lv_aload_n hx hb dX3_takeSign_0 rfl (lv_at hl 0 rfl) ?_
  obtain ⟨zt1, qzt1, hf⟩ := gb_el hf
  refine gx_getR X hw qzt1 clX3 (by decide) mf_X3_9 dX3_takeSign_1 ?_
  obtain ⟨zt2, qzt2, hf⟩ := gb_el hf
  refine gx_getI X hw qzt2 clX10 (by decide) mf_X3_33 dX3_takeSign_4 ?_
  refine lv_iload_n hx hb dX3_takeSign_7 rfl (lv_at hl 1 rfl) ?_
  refine lv_icmp_eq (tgt := 17) hx hb dX3_takeSign_8 (by decide) (fun qc3 => ?_) (fun qc3 => ?_)
  · have hf := gif_t hf qc3
    refine lv_aload_n hx hb dX3_takeSign_17 rfl (lv_at hl 0 rfl) ?_
    obtain ⟨zt4, qzt4, hf⟩ := gb_el hf
    refine gx_getR X hw qzt4 clX3 (by decide) mf_X3_9 dX3_takeSign_18 ?_
    obtain ⟨qizh5, hf⟩ := gg_el hf
    obtain ⟨zh5, qzh5, hf⟩ := gb_el hf
    refine gx_kv (gx_runV (As := []) (rest := []) X hw (c_X10_advance l E N zt4 zh qzh5) kX10_advance mm_X3_66 qizh5 clX10 ⟨Nat.le_of_ble_eq_true rfl, Nat.le_of_ble_eq_true rfl⟩ rfl rfl rfl hl.1 (Nat.le_of_ble_eq_true rfl) rfl dX3_takeSign_21 ⟨Nat.le_of_ble_eq_true rfl, Nat.le_of_ble_eq_true rfl⟩) hw (fun H locs hw => ?_)
    refine lv_iconst (v := 1) hx hb dX3_takeSign_24 (by decide) ?_
    refine W.eq (g2 := F0 m 25 ls [.int 1]) rfl ?_
    exact gx_zret X hr hlk hw hf dX3_takeSign_25
  · have hf := gif_f hf qc3
    refine lv_aload_n hx hb dX3_takeSign_11 rfl (lv_at hl 0 rfl) ?_
    refine lv_iconst (v := 1) hx hb dX3_takeSign_12 (by decide) ?_
    obtain ⟨qizh6, hf⟩ := gg_el hf
    obtain ⟨zt7, zh6, qzh6, hf⟩ := gc_el hf
    refine gx_ki (gx_runV (As := [.int 1]) (rest := []) X hw (c_X3_isWrong l E N za0 1 zh qzh6) kX3_isWrong mm_X3_56 qizh6 clX3 ⟨Nat.le_of_ble_eq_true rfl, Nat.le_of_ble_eq_true rfl⟩ rfl rfl rfl hl.1 (Nat.le_of_ble_eq_true rfl) rfl dX3_takeSign_13 ⟨Nat.le_of_ble_eq_true rfl, Nat.le_of_ble_eq_true rfl⟩) hw (fun H locs hw => ?_)
    exact gx_zret X hr hlk hw hf dX3_takeSign_16
abbrev rm_gR (zd : Nat) : Room := { frames := zd + 6, cells := 0, slots := 0, locals := 25 * zd + 185 }
set_option maxHeartbeats 4000000 in
set_option maxRecDepth 100000 in
theorem cg_gR (l : Launch) (E : gE) (N : Nat) : ∀ zd : Nat, (∀ (za0 : Nat) (za1 : Int32) (za2 : Int32) (zh h9 : PH) (r9 : Int32), (g_gR N zd).1 za0 za1 za2 zh = some (r9, h9) → Met l yX3_readLevel (gWS yX3_readLevel cX3_readLevel 6 (some .boolean)) (rm_gR zd) (gPc E [.ref (gB E + za0), .int za1, .int za2] zh) (gQi E r9 h9) 0 0 (gA E)) ∧ (∀ (za0 : Nat) (za1 : Int32) (zh h9 : PH) (r9 : Int32), (g_gR N zd).2 za0 za1 zh = some (r9, h9) → Met l yX3_readPart (gWS yX3_readPart cX3_readPart 5 (some .boolean)) (rm_gR zd) (gPc E [.ref (gB E + za0), .int za1] zh) (gQi E r9 h9) 0 0 (gA E)) := by
  intro zd
  induction zd with
  | zero => exact ⟨(fun _ _ _ _ _ _ hf => by cases hf), (fun _ _ _ _ _ hf => by cases hf)⟩
  | succ zd ih =>
    refine ⟨?_, ?_⟩
    · intro za0 za1 za2 zh h9 r9 hf
      have hf : b_X3_readLevel N (g_gR N zd).1 (g_gR N zd).2 za0 za1 za2 zh = some (r9, h9) := hf
      refine gx_met (by decide) ?_ rfl
      intro p e s m below meth c X hr hlk hin2 hw
      have hx := X.1.1
      have hb := X.1.2.1
      have hl := lv_entry [.ref (gB E + za0), .int za1, .int za2] (n := 6) (Nat.le_of_ble_eq_true rfl)
      rw [lg_entry_eq]
      generalize (lg_sl [.ref (gB E + za0), .int za1, .int za2] ++ List.replicate (6 - (lg_sl [.ref (gB E + za0), .int za1, .int za2]).length) Slot.unset).toArray = ls at hl ⊢
      have hl : lv_has ls 6 [(0, .ref (gB E + za0)), (1, .int za1), (2, .int za2)] := hl
      have L_40 : ∀ (zn40 : Nat) (zv0 : Nat) (zv1 : Int32) (zv2 : Int32) (zv3 : Int32) (zv4 : Int32) (zh : PH) (H : Heap) (locs : List Loc) (ls : Array Slot), gi (fun zk zs => f_X3_readLevel_40 N (g_gR N zd).1 (g_gR N zd).2 zk zs.1 zs.2.1 zs.2.2.1 zs.2.2.2.1 zs.2.2.2.2.1 zs.2.2.2.2.2) zn40 (zv0, zv1, zv2, zv3, zv4, zh) = some (r9, h9) → gw E s zh H locs → lv_has ls 6 [(0, .ref (gB E + zv0)), (1, .int zv1), (2, .int zv2), (3, .int zv3), (4, .int zv4)] → W p l e (rm_gR (zd + 1)) s m [.ref (gB E + za0), .int za1, .int za2].toArray below meth c H locs 0 0 (MQ below (gQi E r9 h9) [.ref (gB E + za0), .int za1, .int za2].toArray s 0 0 (gA E)) (F0 m 40 ls []) := by
        intro zn40
        induction zn40 with
        | zero =>
          intro zv0 zv1 zv2 zv3 zv4 zh H locs ls hf
          cases hf
        | succ zn40 ih_40 =>
          intro zv0 zv1 zv2 zv3 zv4 zh H locs ls hf hw hl
          have hf := gi_s hf
          dsimp only at hf
          unfold f_X3_readLevel_40 at hf
          refine lv_iload hx hb dX3_readLevel_40 (lv_at hl 4 rfl) ?_
          refine lv_iload_n hx hb dX3_readLevel_42 rfl (lv_at hl 3 rfl) ?_
          refine lv_icmp_ge (tgt := 96) hx hb dX3_readLevel_43 (by decide) (fun qc1 => ?_) (fun qc1 => ?_)
          · have hf := gif_t hf qc1
            refine lv_iconst (v := 1) hx hb dX3_readLevel_96 (by decide) ?_
            exact gx_zret X hr hlk hw hf dX3_readLevel_97
          · have hf := gif_f hf qc1
            refine lv_aload_n hx hb dX3_readLevel_46 rfl (lv_at hl 0 rfl) ?_
            refine lv_iload_n hx hb dX3_readLevel_47 rfl (lv_at hl 1 rfl) ?_
            obtain ⟨qizh2, hf⟩ := gg_el hf
            obtain ⟨zt3, zh2, qzh2, hf⟩ := gc_el hf
            refine gx_ki (gx_runV (As := [.int zv1]) (rest := []) X hw (c_X3_deedAt l E N zv0 zv1 zh qzh2) kX3_deedAt mm_X3_118 qizh2 clX3 ⟨by dsimp only [rm_gR, rm_X3_deedAt]; omega, by dsimp only [rm_gR, rm_X3_deedAt]; omega⟩ rfl rfl rfl hl.1 (Nat.le_of_ble_eq_true rfl) rfl dX3_readLevel_48 ⟨Nat.le_of_ble_eq_true rfl, Nat.le_of_ble_eq_true rfl⟩) hw (fun H locs hw => ?_)
            refine lv_istore (lv' := [(5, .int zt3), (0, .ref (gB E + zv0)), (1, .int zv1), (2, .int zv2), (3, .int zv3), (4, .int zv4)]) hx hb dX3_readLevel_51 hl (by decide) rfl (fun ls hl => ?_)
            refine lv_iload hx hb dX3_readLevel_53 (lv_at hl 0 rfl) ?_
            refine lv_iconst (v := (-1)) hx hb dX3_readLevel_55 (by decide) ?_
            refine W.eq (g2 := F0 m 56 ls [.int (-1), .int zt3]) rfl ?_
            refine lv_icmp_ne (tgt := 61) hx hb dX3_readLevel_56 (by decide) (fun qc4 => ?_) (fun qc4 => ?_)
            · have hf := gif_f hf qc4
              refine lv_aload_n hx hb dX3_readLevel_61 rfl (lv_at hl 1 rfl) ?_
              obtain ⟨zt5, qzt5, hf⟩ := gb_el hf
              refine gx_getR X hw qzt5 clX3 (by decide) mf_X3_9 dX3_readLevel_62 ?_
              obtain ⟨qizh6, hf⟩ := gg_el hf
              obtain ⟨zh6, qzh6, hf⟩ := gb_el hf
              refine gx_kv (gx_runV (As := []) (rest := []) X hw (c_X10_advance l E N zt5 zh2 qzh6) kX10_advance mm_X3_66 qizh6 clX10 ⟨by dsimp only [rm_gR, rm_X10_advance]; omega, by dsimp only [rm_gR, rm_X10_advance]; omega⟩ rfl rfl rfl hl.1 (Nat.le_of_ble_eq_true rfl) rfl dX3_readLevel_65 ⟨Nat.le_of_ble_eq_true rfl, Nat.le_of_ble_eq_true rfl⟩) hw (fun H locs hw => ?_)
              refine lv_aload_n hx hb dX3_readLevel_68 rfl (lv_at hl 1 rfl) ?_
              refine lv_iload_n hx hb dX3_readLevel_69 rfl (lv_at hl 2 rfl) ?_
              refine lv_iconst (v := 1) hx hb dX3_readLevel_70 (by decide) ?_
              refine lv_iadd hx hb dX3_readLevel_71 ?_
              refine lv_iload_n hx hb dX3_readLevel_72 rfl (lv_at hl 3 rfl) ?_
              obtain ⟨qizh7, hf⟩ := gg_el hf
              obtain ⟨zt8, zh7, qzh7, hf⟩ := gc_el hf
              refine gx_ki (gx_runV (As := [.int (zv1 + 1), .int zv2]) (rest := []) X hw (ih.1 zv0 (zv1 + 1) zv2 zh6 _ _ qzh7) kX3_readLevel mm_X3_108 qizh7 clX3 ⟨by dsimp only [rm_gR]; omega, by dsimp only [rm_gR]; omega⟩ rfl rfl rfl hl.1 (Nat.le_of_ble_eq_true rfl) rfl dX3_readLevel_73 ⟨Nat.le_of_ble_eq_true rfl, Nat.le_of_ble_eq_true rfl⟩) hw (fun H locs hw => ?_)
              refine W.eq (g2 := F0 m 76 ls [.int zt8]) rfl ?_
              refine lv_if_ne (tgt := 81) hx hb dX3_readLevel_76 (by decide) (fun qc9 => ?_) (fun qc9 => ?_)
              · have hf := gif_f hf qc9
                refine lv_aload_n hx hb dX3_readLevel_81 rfl (lv_at hl 1 rfl) ?_
                obtain ⟨zt10, qzt10, hf⟩ := gb_el hf
                refine gx_getR X hw qzt10 clX3 (by decide) mf_X3_15 dX3_readLevel_82 ?_
                refine lv_iload hx hb dX3_readLevel_85 (lv_at hl 0 rfl) ?_
                obtain ⟨qizh11, hf⟩ := gg_el hf
                obtain ⟨zh11, qzh11, hf⟩ := gb_el hf
                refine gx_kv (gx_runV (As := [.int zt3]) (rest := []) X hw (c_X2_addCode l E N zt10 zt3 zh7 qzh11) kX2_addCode mm_X3_121 qizh11 clX2 ⟨by dsimp only [rm_gR, rm_X2_addCode]; omega, by dsimp only [rm_gR, rm_X2_addCode]; omega⟩ rfl rfl rfl hl.1 (Nat.le_of_ble_eq_true rfl) rfl dX3_readLevel_87 ⟨Nat.le_of_ble_eq_true rfl, Nat.le_of_ble_eq_true rfl⟩) hw (fun H locs hw => ?_)
                obtain ⟨zx12, ezx12⟩ : ∃ y : Int32, y = zv4 + 1 := ⟨_, rfl⟩
                have hf := gl_el hf ezx12
                refine lv_iinc (v := zx12) (lv' := [(4, .int zx12), (5, .int zt3), (0, .ref (gB E + zv0)), (1, .int zv1), (2, .int zv2), (3, .int zv3)]) hx hb dX3_readLevel_90 hl (k := 5) rfl (by rw [ezx12]; rfl) (by decide) rfl (fun ls hl => ?_)
                refine lv_goto (tgt := 40) hx hb dX3_readLevel_93 (by decide) ?_
                exact ih_40 zv0 zv1 zv2 zv3 zx12 _ _ _ ls hf hw (lv_sub hl [2, 3, 4, 5, 0] rfl)
              · have hf := gif_t hf qc9
                refine lv_iconst (v := 0) hx hb dX3_readLevel_79 (by decide) ?_
                exact gx_zret X hr hlk hw hf dX3_readLevel_80
            · have hf := gif_t hf qc4
              refine lv_iconst (v := 1) hx hb dX3_readLevel_59 (by decide) ?_
              exact gx_zret X hr hlk hw hf dX3_readLevel_60
      have J_36 : ∀ (zv0 : Nat) (zv1 : Int32) (zv2 : Int32) (zs0 : Int32) (zh : PH) (H : Heap) (locs : List Loc) (ls : Array Slot), f_X3_readLevel_36 N (g_gR N zd).1 (g_gR N zd).2 zv0 zv1 zv2 zs0 zh = some (r9, h9) → gw E s zh H locs → lv_has ls 6 [(0, .ref (gB E + zv0)), (1, .int zv1), (2, .int zv2)] → W p l e (rm_gR (zd + 1)) s m [.ref (gB E + za0), .int za1, .int za2].toArray below meth c H locs 0 0 (MQ below (gQi E r9 h9) [.ref (gB E + za0), .int za1, .int za2].toArray s 0 0 (gA E)) (F0 m 36 ls [.int zs0]) := by
        intro zv0 zv1 zv2 zs0 zh H locs ls hf hw hl
        unfold f_X3_readLevel_36 at hf
        refine lv_istore_n (lv' := [(3, .int zs0), (0, .ref (gB E + zv0)), (1, .int zv1), (2, .int zv2)]) hx hb dX3_readLevel_36 rfl hl (by decide) rfl (fun ls hl => ?_)
        refine lv_iconst (v := 0) hx hb dX3_readLevel_37 (by decide) ?_
        refine lv_istore (lv' := [(4, .int 0), (3, .int zs0), (0, .ref (gB E + zv0)), (1, .int zv1), (2, .int zv2)]) hx hb dX3_readLevel_38 hl (by decide) rfl (fun ls hl => ?_)
        exact L_40 N zv0 zv1 zv2 zs0 0 _ _ _ ls hf hw (lv_sub hl [2, 3, 4, 1, 0] rfl)
      unfold b_X3_readLevel at hf
      refine lv_iload_n hx hb dX3_readLevel_0 rfl (lv_at hl 1 rfl) ?_
      refine lv_iconst (v := 4) hx hb dX3_readLevel_1 (by decide) ?_
      refine lv_icmp_lt (tgt := 11) hx hb dX3_readLevel_2 (by decide) (fun qc1 => ?_) (fun qc1 => ?_)
      · have hf := gif_t hf qc1
        refine lv_aload_n hx hb dX3_readLevel_11 rfl (lv_at hl 0 rfl) ?_
        refine lv_iload_n hx hb dX3_readLevel_12 rfl (lv_at hl 1 rfl) ?_
        refine lv_iconst (v := 1) hx hb dX3_readLevel_13 (by decide) ?_
        refine lv_iadd hx hb dX3_readLevel_14 ?_
        refine lv_iload_n hx hb dX3_readLevel_15 rfl (lv_at hl 2 rfl) ?_
        obtain ⟨qizh2, hf⟩ := gg_el hf
        obtain ⟨zt3, zh2, qzh2, hf⟩ := gc_el hf
        refine gx_ki (gx_runV (As := [.int (za1 + 1), .int za2]) (rest := []) X hw (ih.1 za0 (za1 + 1) za2 zh _ _ qzh2) kX3_readLevel mm_X3_108 qizh2 clX3 ⟨by dsimp only [rm_gR]; omega, by dsimp only [rm_gR]; omega⟩ rfl rfl rfl hl.1 (Nat.le_of_ble_eq_true rfl) rfl dX3_readLevel_16 ⟨Nat.le_of_ble_eq_true rfl, Nat.le_of_ble_eq_true rfl⟩) hw (fun H locs hw => ?_)
        refine W.eq (g2 := F0 m 19 ls [.int zt3]) rfl ?_
        refine lv_if_ne (tgt := 24) hx hb dX3_readLevel_19 (by decide) (fun qc4 => ?_) (fun qc4 => ?_)
        · have hf := gif_f hf qc4
          refine lv_iload_n hx hb dX3_readLevel_24 rfl (lv_at hl 1 rfl) ?_
          refine lv_iconst (v := 1) hx hb dX3_readLevel_25 (by decide) ?_
          refine lv_icmp_ne (tgt := 33) hx hb dX3_readLevel_26 (by decide) (fun qc5 => ?_) (fun qc5 => ?_)
          · have hf := gif_f hf qc5
            refine lv_sipush (v := 1000) hx hb dX3_readLevel_33 (by decide) ?_
            exact J_36 za0 za1 za2 1000 _ _ _ ls hf hw (lv_sub hl [0, 1, 2] rfl)
          · have hf := gif_t hf qc5
            refine lv_iconst (v := 1) hx hb dX3_readLevel_29 (by decide) ?_
            refine lv_goto (tgt := 36) hx hb dX3_readLevel_30 (by decide) ?_
            exact J_36 za0 za1 za2 1 _ _ _ ls hf hw (lv_sub hl [0, 1, 2] rfl)
        · have hf := gif_t hf qc4
          refine lv_iconst (v := 0) hx hb dX3_readLevel_22 (by decide) ?_
          exact gx_zret X hr hlk hw hf dX3_readLevel_23
      · have hf := gif_f hf qc1
        refine lv_aload_n hx hb dX3_readLevel_5 rfl (lv_at hl 0 rfl) ?_
        refine lv_iload_n hx hb dX3_readLevel_6 rfl (lv_at hl 2 rfl) ?_
        obtain ⟨qizh6, hf⟩ := gg_el hf
        obtain ⟨zt7, zh6, qzh6, hf⟩ := gc_el hf
        refine gx_ki (gx_runV (As := [.int za2]) (rest := []) X hw (ih.2 za0 za2 zh _ _ qzh6) kX3_readPart mm_X3_115 qizh6 clX3 ⟨by dsimp only [rm_gR]; omega, by dsimp only [rm_gR]; omega⟩ rfl rfl rfl hl.1 (Nat.le_of_ble_eq_true rfl) rfl dX3_readLevel_7 ⟨Nat.le_of_ble_eq_true rfl, Nat.le_of_ble_eq_true rfl⟩) hw (fun H locs hw => ?_)
        exact gx_zret X hr hlk hw hf dX3_readLevel_10
    · intro za0 za1 zh h9 r9 hf
      have hf : b_X3_readPart N (g_gR N zd).1 (g_gR N zd).2 za0 za1 zh = some (r9, h9) := hf
      refine gx_met (by decide) ?_ rfl
      intro p e s m below meth c X hr hlk hin2 hw
      have hx := X.1.1
      have hb := X.1.2.1
      have hl := lv_entry [.ref (gB E + za0), .int za1] (n := 5) (Nat.le_of_ble_eq_true rfl)
      rw [lg_entry_eq]
      generalize (lg_sl [.ref (gB E + za0), .int za1] ++ List.replicate (5 - (lg_sl [.ref (gB E + za0), .int za1]).length) Slot.unset).toArray = ls at hl ⊢
      have hl : lv_has ls 5 [(0, .ref (gB E + za0)), (1, .int za1)] := hl
      have J_162 : ∀ (zs0 : Int32) (zs1 : Nat) (zh : PH) (H : Heap) (locs : List Loc) (ls : Array Slot), f_X3_readPart_162 N (g_gR N zd).1 (g_gR N zd).2 zs0 zs1 zh = some (r9, h9) → gw E s zh H locs → lv_has ls 5 [] → W p l e (rm_gR (zd + 1)) s m [.ref (gB E + za0), .int za1].toArray below meth c H locs 0 0 (MQ below (gQi E r9 h9) [.ref (gB E + za0), .int za1].toArray s 0 0 (gA E)) (F0 m 162 ls [.int zs0, .ref (gB E + zs1)]) := by
        intro zs0 zs1 zh H locs ls hf hw hl
        unfold f_X3_readPart_162 at hf
        obtain ⟨qizh1, hf⟩ := gg_el hf
        obtain ⟨zh1, qzh1, hf⟩ := gb_el hf
        refine gx_kv (gx_runV (As := [.int zs0]) (rest := []) X hw (c_X2_addCode l E N zs1 zs0 zh qzh1) kX2_addCode mm_X3_121 qizh1 clX2 ⟨by dsimp only [rm_gR, rm_X2_addCode]; omega, by dsimp only [rm_gR, rm_X2_addCode]; omega⟩ rfl rfl rfl hl.1 (Nat.le_of_ble_eq_true rfl) rfl dX3_readPart_162 ⟨Nat.le_of_ble_eq_true rfl, Nat.le_of_ble_eq_true rfl⟩) hw (fun H locs hw => ?_)
        refine lv_iconst (v := 1) hx hb dX3_readPart_165 (by decide) ?_
        exact gx_zret X hr hlk hw hf dX3_readPart_166
      have J_147 : ∀ (zv0 : Nat) (zv2 : Int32) (zv3 : Int32) (zh : PH) (H : Heap) (locs : List Loc) (ls : Array Slot), f_X3_readPart_147 N (g_gR N zd).1 (g_gR N zd).2 zv0 zv2 zv3 zh = some (r9, h9) → gw E s zh H locs → lv_has ls 5 [(0, .ref (gB E + zv0)), (2, .int zv2), (3, .int zv3)] → W p l e (rm_gR (zd + 1)) s m [.ref (gB E + za0), .int za1].toArray below meth c H locs 0 0 (MQ below (gQi E r9 h9) [.ref (gB E + za0), .int za1].toArray s 0 0 (gA E)) (F0 m 147 ls []) := by
        intro zv0 zv2 zv3 zh H locs ls hf hw hl
        unfold f_X3_readPart_147 at hf
        refine lv_aload_n hx hb dX3_readPart_147 rfl (lv_at hl 0 rfl) ?_
        obtain ⟨zt1, qzt1, hf⟩ := gb_el hf
        refine gx_getR X hw qzt1 clX3 (by decide) mf_X3_15 dX3_readPart_148 ?_
        refine lv_iload_n hx hb dX3_readPart_151 rfl (lv_at hl 1 rfl) ?_
        refine lv_if_eq (tgt := 161) hx hb dX3_readPart_152 (by decide) (fun qc2 => ?_) (fun qc2 => ?_)
        · have hf := gif_t hf qc2
          refine lv_iload_n hx hb dX3_readPart_161 rfl (lv_at hl 2 rfl) ?_
          exact J_162 zv3 zt1 _ _ _ ls hf hw (lv_sub hl [] rfl)
        · have hf := gif_f hf qc2
          refine lv_sipush (v := 10008) hx hb dX3_readPart_155 (by decide) ?_
          refine lv_goto (tgt := 162) hx hb dX3_readPart_158 (by decide) ?_
          exact J_162 10008 zt1 _ _ _ ls hf hw (lv_sub hl [] rfl)
      have J_130 : ∀ (zs0 : Int32) (zh : PH) (H : Heap) (locs : List Loc) (ls : Array Slot), f_X3_readPart_130 N (g_gR N zd).1 (g_gR N zd).2 zs0 zh = some (r9, h9) → gw E s zh H locs → lv_has ls 5 [] → W p l e (rm_gR (zd + 1)) s m [.ref (gB E + za0), .int za1].toArray below meth c H locs 0 0 (MQ below (gQi E r9 h9) [.ref (gB E + za0), .int za1].toArray s 0 0 (gA E)) (F0 m 130 ls [.int zs0]) := by
        intro zs0 zh H locs ls hf hw hl
        unfold f_X3_readPart_130 at hf
        exact gx_zret X hr hlk hw hf dX3_readPart_130
      have J_129 : ∀ (zh : PH) (H : Heap) (locs : List Loc) (ls : Array Slot), f_X3_readPart_129 N (g_gR N zd).1 (g_gR N zd).2 zh = some (r9, h9) → gw E s zh H locs → lv_has ls 5 [] → W p l e (rm_gR (zd + 1)) s m [.ref (gB E + za0), .int za1].toArray below meth c H locs 0 0 (MQ below (gQi E r9 h9) [.ref (gB E + za0), .int za1].toArray s 0 0 (gA E)) (F0 m 129 ls []) := by
        intro zh H locs ls hf hw hl
        unfold f_X3_readPart_129 at hf
        refine lv_iconst (v := 0) hx hb dX3_readPart_129 (by decide) ?_
        exact J_130 0 _ _ _ ls hf hw (lv_sub hl [] rfl)
      have J_91 : ∀ (zv0 : Nat) (zv1 : Int32) (zv2 : Int32) (zv3 : Int32) (zs0 : Int32) (zh : PH) (H : Heap) (locs : List Loc) (ls : Array Slot), f_X3_readPart_91 N (g_gR N zd).1 (g_gR N zd).2 zv0 zv1 zv2 zv3 zs0 zh = some (r9, h9) → gw E s zh H locs → lv_has ls 5 [(0, .ref (gB E + zv0)), (1, .int zv1), (2, .int zv2), (3, .int zv3)] → W p l e (rm_gR (zd + 1)) s m [.ref (gB E + za0), .int za1].toArray below meth c H locs 0 0 (MQ below (gQi E r9 h9) [.ref (gB E + za0), .int za1].toArray s 0 0 (gA E)) (F0 m 91 ls [.int zs0]) := by
        intro zv0 zv1 zv2 zv3 zs0 zh H locs ls hf hw hl
        unfold f_X3_readPart_91 at hf
        refine lv_istore (lv' := [(4, .int zs0), (0, .ref (gB E + zv0)), (1, .int zv1), (2, .int zv2), (3, .int zv3)]) hx hb dX3_readPart_91 hl (by decide) rfl (fun ls hl => ?_)
        refine lv_aload_n hx hb dX3_readPart_93 rfl (lv_at hl 1 rfl) ?_
        obtain ⟨zt1, qzt1, hf⟩ := gb_el hf
        refine gx_getR X hw qzt1 clX3 (by decide) mf_X3_9 dX3_readPart_94 ?_
        obtain ⟨qizh2, hf⟩ := gg_el hf
        obtain ⟨zh2, qzh2, hf⟩ := gb_el hf
        refine gx_kv (gx_runV (As := []) (rest := []) X hw (c_X10_advance l E N zt1 zh qzh2) kX10_advance mm_X3_66 qizh2 clX10 ⟨by dsimp only [rm_gR, rm_X10_advance]; omega, by dsimp only [rm_gR, rm_X10_advance]; omega⟩ rfl rfl rfl hl.1 (Nat.le_of_ble_eq_true rfl) rfl dX3_readPart_97 ⟨Nat.le_of_ble_eq_true rfl, Nat.le_of_ble_eq_true rfl⟩) hw (fun H locs hw => ?_)
        refine lv_iload hx hb dX3_readPart_100 (lv_at hl 0 rfl) ?_
        refine lv_if_eq (tgt := 131) hx hb dX3_readPart_102 (by decide) (fun qc3 => ?_) (fun qc3 => ?_)
        · have hf := gif_t hf qc3
          refine lv_iload_n hx hb dX3_readPart_131 rfl (lv_at hl 3 rfl) ?_
          refine lv_if_eq (tgt := 147) hx hb dX3_readPart_132 (by decide) (fun qc4 => ?_) (fun qc4 => ?_)
          · have hf := gif_t hf qc4
            exact J_147 zv0 zv2 zv3 _ _ _ ls hf hw (lv_sub hl [1, 3, 4] rfl)
          · have hf := gif_f hf qc4
            refine lv_aload_n hx hb dX3_readPart_135 rfl (lv_at hl 1 rfl) ?_
            refine W.eq (g2 := F0 m 136 ls [.ref (gB E + zv0)]) rfl ?_
            refine lv_iload_n hx hb dX3_readPart_136 rfl (lv_at hl 2 rfl) ?_
            refine lv_iconst (v := 1) hx hb dX3_readPart_137 (by decide) ?_
            refine lv_iadd hx hb dX3_readPart_138 ?_
            obtain ⟨qizh5, hf⟩ := gg_el hf
            obtain ⟨zt6, zh5, qzh5, hf⟩ := gc_el hf
            refine gx_ki (gx_runV (As := [.int (zv1 + 1)]) (rest := []) X hw (ih.2 zv0 (zv1 + 1) zh2 _ _ qzh5) kX3_readPart mm_X3_115 qizh5 clX3 ⟨by dsimp only [rm_gR]; omega, by dsimp only [rm_gR]; omega⟩ rfl rfl rfl hl.1 (Nat.le_of_ble_eq_true rfl) rfl dX3_readPart_139 ⟨Nat.le_of_ble_eq_true rfl, Nat.le_of_ble_eq_true rfl⟩) hw (fun H locs hw => ?_)
            refine lv_if_ne (tgt := 147) hx hb dX3_readPart_142 (by decide) (fun qc7 => ?_) (fun qc7 => ?_)
            · have hf := gif_f hf qc7
              exact J_147 zv0 zv2 zv3 _ _ _ ls hf hw (lv_sub hl [1, 3, 4] rfl)
            · have hf := gif_t hf qc7
              refine lv_iconst (v := 0) hx hb dX3_readPart_145 (by decide) ?_
              exact gx_zret X hr hlk hw hf dX3_readPart_146
        · have hf := gif_f hf qc3
          refine lv_aload_n hx hb dX3_readPart_105 rfl (lv_at hl 1 rfl) ?_
          refine lv_iconst (v := 0) hx hb dX3_readPart_106 (by decide) ?_
          refine lv_iload_n hx hb dX3_readPart_107 rfl (lv_at hl 2 rfl) ?_
          refine W.eq (g2 := F0 m 108 ls [.int zv1, .int 0, .ref (gB E + zv0)]) rfl ?_
          refine lv_iconst (v := 1) hx hb dX3_readPart_108 (by decide) ?_
          refine lv_iadd hx hb dX3_readPart_109 ?_
          obtain ⟨qizh8, hf⟩ := gg_el hf
          obtain ⟨zt9, zh8, qzh8, hf⟩ := gc_el hf
          refine gx_ki (gx_runV (As := [.int 0, .int (zv1 + 1)]) (rest := []) X hw (ih.1 zv0 0 (zv1 + 1) zh2 _ _ qzh8) kX3_readLevel mm_X3_108 qizh8 clX3 ⟨by dsimp only [rm_gR]; omega, by dsimp only [rm_gR]; omega⟩ rfl rfl rfl hl.1 (Nat.le_of_ble_eq_true rfl) rfl dX3_readPart_110 ⟨Nat.le_of_ble_eq_true rfl, Nat.le_of_ble_eq_true rfl⟩) hw (fun H locs hw => ?_)
          refine lv_if_eq (tgt := 129) hx hb dX3_readPart_113 (by decide) (fun qc10 => ?_) (fun qc10 => ?_)
          · have hf := gif_t hf qc10
            exact J_129  _ _ _ ls hf hw (lv_sub hl [] rfl)
          · have hf := gif_f hf qc10
            refine lv_aload_n hx hb dX3_readPart_116 rfl (lv_at hl 1 rfl) ?_
            refine lv_bipush (v := 41) hx hb dX3_readPart_117 (by decide) ?_
            obtain ⟨qizh11, hf⟩ := gg_el hf
            obtain ⟨zt12, zh11, qzh11, hf⟩ := gc_el hf
            refine gx_ki (gx_runV (As := [.int 41]) (rest := []) X hw (c_X3_takeSign l E N zv0 41 zh8 qzh11) kX3_takeSign mm_X3_60 qizh11 clX3 ⟨by dsimp only [rm_gR, rm_X3_takeSign]; omega, by dsimp only [rm_gR, rm_X3_takeSign]; omega⟩ rfl rfl rfl hl.1 (Nat.le_of_ble_eq_true rfl) rfl dX3_readPart_119 ⟨Nat.le_of_ble_eq_true rfl, Nat.le_of_ble_eq_true rfl⟩) hw (fun H locs hw => ?_)
            refine lv_if_eq (tgt := 129) hx hb dX3_readPart_122 (by decide) (fun qc13 => ?_) (fun qc13 => ?_)
            · have hf := gif_t hf qc13
              exact J_129  _ _ _ ls hf hw (lv_sub hl [] rfl)
            · have hf := gif_f hf qc13
              refine lv_iconst (v := 1) hx hb dX3_readPart_125 (by decide) ?_
              refine lv_goto (tgt := 130) hx hb dX3_readPart_126 (by decide) ?_
              exact J_130 1 _ _ _ ls hf hw (lv_sub hl [] rfl)
      have J_63 : ∀ (zv0 : Nat) (zv1 : Int32) (zv2 : Int32) (zv3 : Int32) (zh : PH) (H : Heap) (locs : List Loc) (ls : Array Slot), f_X3_readPart_63 N (g_gR N zd).1 (g_gR N zd).2 zv0 zv1 zv2 zv3 zh = some (r9, h9) → gw E s zh H locs → lv_has ls 5 [(0, .ref (gB E + zv0)), (1, .int zv1), (2, .int zv2), (3, .int zv3)] → W p l e (rm_gR (zd + 1)) s m [.ref (gB E + za0), .int za1].toArray below meth c H locs 0 0 (MQ below (gQi E r9 h9) [.ref (gB E + za0), .int za1].toArray s 0 0 (gA E)) (F0 m 63 ls []) := by
        intro zv0 zv1 zv2 zv3 zh H locs ls hf hw hl
        unfold f_X3_readPart_63 at hf
        refine lv_iload_n hx hb dX3_readPart_63 rfl (lv_at hl 1 rfl) ?_
        refine lv_iconst (v := 5) hx hb dX3_readPart_64 (by decide) ?_
        refine lv_icmp_lt (tgt := 74) hx hb dX3_readPart_65 (by decide) (fun qc1 => ?_) (fun qc1 => ?_)
        · have hf := gif_t hf qc1
          refine lv_aload_n hx hb dX3_readPart_74 rfl (lv_at hl 0 rfl) ?_
          obtain ⟨zt2, qzt2, hf⟩ := gb_el hf
          refine gx_getR X hw qzt2 clX3 (by decide) mf_X3_9 dX3_readPart_75 ?_
          obtain ⟨zt3, qzt3, hf⟩ := gb_el hf
          refine gx_getI X hw qzt3 clX10 (by decide) mf_X3_33 dX3_readPart_78 ?_
          refine lv_bipush (v := 40) hx hb dX3_readPart_81 (by decide) ?_
          refine lv_icmp_ne (tgt := 90) hx hb dX3_readPart_83 (by decide) (fun qc4 => ?_) (fun qc4 => ?_)
          · have hf := gif_f hf qc4
            refine lv_iconst (v := 0) hx hb dX3_readPart_90 (by decide) ?_
            exact J_91 zv0 zv1 zv2 zv3 0 _ _ _ ls hf hw (lv_sub hl [0, 1, 2, 3] rfl)
          · have hf := gif_t hf qc4
            refine lv_iconst (v := 1) hx hb dX3_readPart_86 (by decide) ?_
            refine W.eq (g2 := F0 m 87 ls [.int 1]) rfl ?_
            refine lv_goto (tgt := 91) hx hb dX3_readPart_87 (by decide) ?_
            exact J_91 zv0 zv1 zv2 zv3 1 _ _ _ ls hf hw (lv_sub hl [0, 1, 2, 3] rfl)
        · have hf := gif_f hf qc1
          refine lv_aload_n hx hb dX3_readPart_68 rfl (lv_at hl 0 rfl) ?_
          refine lv_iconst (v := 5) hx hb dX3_readPart_69 (by decide) ?_
          obtain ⟨qizh5, hf⟩ := gg_el hf
          obtain ⟨zt6, zh5, qzh5, hf⟩ := gc_el hf
          refine gx_ki (gx_runV (As := [.int 5]) (rest := []) X hw (c_X3_isWrong l E N zv0 5 zh qzh5) kX3_isWrong mm_X3_56 qizh5 clX3 ⟨by dsimp only [rm_gR, rm_X3_isWrong]; omega, by dsimp only [rm_gR, rm_X3_isWrong]; omega⟩ rfl rfl rfl hl.1 (Nat.le_of_ble_eq_true rfl) rfl dX3_readPart_70 ⟨Nat.le_of_ble_eq_true rfl, Nat.le_of_ble_eq_true rfl⟩) hw (fun H locs hw => ?_)
          exact gx_zret X hr hlk hw hf dX3_readPart_73
      have J_35 : ∀ (zv0 : Nat) (zv1 : Int32) (zv2 : Int32) (zs0 : Int32) (zh : PH) (H : Heap) (locs : List Loc) (ls : Array Slot), f_X3_readPart_35 N (g_gR N zd).1 (g_gR N zd).2 zv0 zv1 zv2 zs0 zh = some (r9, h9) → gw E s zh H locs → lv_has ls 5 [(0, .ref (gB E + zv0)), (1, .int zv1), (2, .int zv2)] → W p l e (rm_gR (zd + 1)) s m [.ref (gB E + za0), .int za1].toArray below meth c H locs 0 0 (MQ below (gQi E r9 h9) [.ref (gB E + za0), .int za1].toArray s 0 0 (gA E)) (F0 m 35 ls [.int zs0]) := by
        intro zv0 zv1 zv2 zs0 zh H locs ls hf hw hl
        unfold f_X3_readPart_35 at hf
        refine lv_istore_n (lv' := [(3, .int zs0), (0, .ref (gB E + zv0)), (1, .int zv1), (2, .int zv2)]) hx hb dX3_readPart_35 rfl hl (by decide) rfl (fun ls hl => ?_)
        refine lv_iload_n hx hb dX3_readPart_36 rfl (lv_at hl 3 rfl) ?_
        refine lv_if_ne (tgt := 63) hx hb dX3_readPart_37 (by decide) (fun qc1 => ?_) (fun qc1 => ?_)
        · have hf := gif_f hf qc1
          exact J_63 zv0 zv1 zv2 zs0 _ _ _ ls hf hw (lv_sub hl [1, 2, 3, 0] rfl)
        · have hf := gif_t hf qc1
          refine lv_aload_n hx hb dX3_readPart_40 rfl (lv_at hl 1 rfl) ?_
          obtain ⟨zt2, qzt2, hf⟩ := gb_el hf
          refine gx_getR X hw qzt2 clX3 (by decide) mf_X3_9 dX3_readPart_41 ?_
          obtain ⟨zt3, qzt3, hf⟩ := gb_el hf
          refine gx_getI X hw qzt3 clX10 (by decide) mf_X3_33 dX3_readPart_44 ?_
          refine lv_bipush (v := 40) hx hb dX3_readPart_47 (by decide) ?_
          refine lv_icmp_eq (tgt := 63) hx hb dX3_readPart_49 (by decide) (fun qc4 => ?_) (fun qc4 => ?_)
          · have hf := gif_t hf qc4
            exact J_63 zv0 zv1 zv2 zs0 _ _ _ ls hf hw (lv_sub hl [1, 2, 3, 0] rfl)
          · have hf := gif_f hf qc4
            refine lv_iload_n hx hb dX3_readPart_52 rfl (lv_at hl 0 rfl) ?_
            refine W.eq (g2 := F0 m 53 ls [.int zs0]) rfl ?_
            refine lv_iconst (v := (-1)) hx hb dX3_readPart_53 (by decide) ?_
            refine lv_icmp_ne (tgt := 63) hx hb dX3_readPart_54 (by decide) (fun qc5 => ?_) (fun qc5 => ?_)
            · have hf := gif_f hf qc5
              exact J_63 zv0 zv1 zv2 zs0 _ _ _ ls hf hw (lv_sub hl [1, 2, 3, 0] rfl)
            · have hf := gif_t hf qc5
              refine lv_aload_n hx hb dX3_readPart_57 rfl (lv_at hl 1 rfl) ?_
              refine lv_iconst (v := 1) hx hb dX3_readPart_58 (by decide) ?_
              obtain ⟨qizh6, hf⟩ := gg_el hf
              obtain ⟨zt7, zh6, qzh6, hf⟩ := gc_el hf
              refine gx_ki (gx_runV (As := [.int 1]) (rest := []) X hw (c_X3_isWrong l E N zv0 1 zh qzh6) kX3_isWrong mm_X3_56 qizh6 clX3 ⟨by dsimp only [rm_gR, rm_X3_isWrong]; omega, by dsimp only [rm_gR, rm_X3_isWrong]; omega⟩ rfl rfl rfl hl.1 (Nat.le_of_ble_eq_true rfl) rfl dX3_readPart_59 ⟨Nat.le_of_ble_eq_true rfl, Nat.le_of_ble_eq_true rfl⟩) hw (fun H locs hw => ?_)
              exact gx_zret X hr hlk hw hf dX3_readPart_62
      unfold b_X3_readPart at hf
      refine lv_aload_n hx hb dX3_readPart_0 rfl (lv_at hl 0 rfl) ?_
      obtain ⟨zt1, qzt1, hf⟩ := gb_el hf
      refine gx_getR X hw qzt1 clX3 (by decide) mf_X3_9 dX3_readPart_1 ?_
      refine va_ldcS hx hb X.1.2.2.2.1 (gx_str X 6 rfl) dX3_readPart_4 ?_
      obtain ⟨qizh2, hf⟩ := gg_el hf
      obtain ⟨zt3, zh2, qzh2, hf⟩ := gc_el hf
      refine gx_ki (gx_runV (As := [.ref (E.2.2.2.1 6)]) (rest := []) X hw (c_X10_isWord l E N zt1 6 zh qzh2) kX10_isWord mm_X3_38 qizh2 clX10 ⟨by dsimp only [rm_gR, rm_X10_isWord]; omega, by dsimp only [rm_gR, rm_X10_isWord]; omega⟩ rfl rfl rfl hl.1 (Nat.le_of_ble_eq_true rfl) rfl dX3_readPart_6 ⟨Nat.le_of_ble_eq_true rfl, Nat.le_of_ble_eq_true rfl⟩) hw (fun H locs hw => ?_)
      refine lv_istore_n (lv' := [(2, .int zt3), (0, .ref (gB E + za0)), (1, .int za1)]) hx hb dX3_readPart_9 rfl hl (by decide) rfl (fun ls hl => ?_)
      refine lv_aload_n hx hb dX3_readPart_10 rfl (lv_at hl 1 rfl) ?_
      obtain ⟨zt4, qzt4, hf⟩ := gb_el hf
      refine gx_getR X hw qzt4 clX3 (by decide) mf_X3_9 dX3_readPart_11 ?_
      obtain ⟨zt5, qzt5, hf⟩ := gb_el hf
      refine gx_getI X hw qzt5 clX10 (by decide) mf_X3_33 dX3_readPart_14 ?_
      refine lv_iconst (v := 2) hx hb dX3_readPart_17 (by decide) ?_
      refine W.eq (g2 := F0 m 18 ls [.int 2, .int zt5]) rfl ?_
      refine lv_icmp_ne (tgt := 31) hx hb dX3_readPart_18 (by decide) (fun qc6 => ?_) (fun qc6 => ?_)
      · have hf := gif_f hf qc6
        refine lv_aload_n hx hb dX3_readPart_31 rfl (lv_at hl 1 rfl) ?_
        obtain ⟨qizh7, hf⟩ := gg_el hf
        obtain ⟨zt8, zh7, qzh7, hf⟩ := gc_el hf
        refine gx_ki (gx_runV (As := []) (rest := []) X hw (c_X3_factHere l E N za0 zh2 qzh7) kX3_factHere mm_X3_130 qizh7 clX3 ⟨by dsimp only [rm_gR, rm_X3_factHere]; omega, by dsimp only [rm_gR, rm_X3_factHere]; omega⟩ rfl rfl rfl hl.1 (Nat.le_of_ble_eq_true rfl) rfl dX3_readPart_32 ⟨Nat.le_of_ble_eq_true rfl, Nat.le_of_ble_eq_true rfl⟩) hw (fun H locs hw => ?_)
        exact J_35 za0 za1 zt3 zt8 _ _ _ ls hf hw (lv_sub hl [1, 2, 0] rfl)
      · have hf := gif_t hf qc6
        refine lv_aload_n hx hb dX3_readPart_21 rfl (lv_at hl 1 rfl) ?_
        obtain ⟨zt9, qzt9, hf⟩ := gb_el hf
        refine gx_getR X hw qzt9 clX3 (by decide) mf_X3_9 dX3_readPart_22 ?_
        obtain ⟨zt10, qzt10, hf⟩ := gb_el hf
        refine gx_getI X hw qzt10 clX10 (by decide) mf_X3_127 dX3_readPart_25 ?_
        refine lv_goto (tgt := 35) hx hb dX3_readPart_28 (by decide) ?_
        exact J_35 za0 za1 zt3 zt10 _ _ _ ls hf hw (lv_sub hl [1, 2, 0] rfl)
abbrev rm_X3_readLevel : Room := { frames := 70, cells := 0, slots := 0, locals := 1785 }
theorem c_X3_readLevel (l : Launch) (E : gE) (N : Nat) (za0 : Nat) (za1 : Int32) (za2 : Int32) (zh : PH) {h9 : PH} {r9 : Int32} (hf : f_X3_readLevel N za0 za1 za2 zh = some (r9, h9)) : Met l yX3_readLevel (gWS yX3_readLevel cX3_readLevel 6 (some .boolean)) rm_X3_readLevel (gPc E [.ref (gB E + za0), .int za1, .int za2] zh) (gQi E r9 h9) 0 0 (gA E) := (cg_gR l E N 64).1 za0 za1 za2 zh _ _ hf
abbrev rm_X3_readPart : Room := { frames := 70, cells := 0, slots := 0, locals := 1785 }
theorem c_X3_readPart (l : Launch) (E : gE) (N : Nat) (za0 : Nat) (za1 : Int32) (zh : PH) {h9 : PH} {r9 : Int32} (hf : f_X3_readPart N za0 za1 zh = some (r9, h9)) : Met l yX3_readPart (gWS yX3_readPart cX3_readPart 5 (some .boolean)) rm_X3_readPart (gPc E [.ref (gB E + za0), .int za1] zh) (gQi E r9 h9) 0 0 (gA E) := (cg_gR l E N 64).2 za0 za1 zh _ _ hf
abbrev rm_X3_readRule : Room := { frames := 71, cells := 0, slots := 0, locals := 1810 }
set_option maxHeartbeats 4000000 in
set_option maxRecDepth 100000 in
theorem c_X3_readRule (l : Launch) (E : gE) (N : Nat) (za0 : Nat) (zh : PH) {h9 : PH} {r9 : Int32} (hf : f_X3_readRule N za0 zh = some (r9, h9)) : Met l yX3_readRule (gWS yX3_readRule cX3_readRule 1 (some .boolean)) rm_X3_readRule (gPc E [.ref (gB E + za0)] zh) (gQi E r9 h9) 0 0 (gA E) := by
  refine gx_met (by decide) ?_ rfl
  intro p e s m below meth c X hr hlk hin2 hw
  have hx := X.1.1
  have hb := X.1.2.1
  have hl := lv_entry [.ref (gB E + za0)] (n := 1) (Nat.le_of_ble_eq_true rfl)
  rw [lg_entry_eq]
  generalize (lg_sl [.ref (gB E + za0)] ++ List.replicate (1 - (lg_sl [.ref (gB E + za0)]).length) Slot.unset).toArray = ls at hl ⊢
  have hl : lv_has ls 1 [(0, .ref (gB E + za0))] := hl
  unfold f_X3_readRule at hf
  refine lv_aload_n hx hb dX3_readRule_0 rfl (lv_at hl 0 rfl) ?_
  obtain ⟨zt1, qzt1, hf⟩ := gb_el hf
  refine gx_getR X hw qzt1 clX3 (by decide) mf_X3_15 dX3_readRule_1 ?_
  obtain ⟨zt2, qzt2, hf⟩ := gb_el hf
  refine gx_getI X hw qzt2 clX2 (by decide) mf_X3_105 dX3_readRule_4 ?_
  refine lv_iconst (v := 4) hx hb dX3_readRule_7 (by decide) ?_
  refine lv_icmp_ne (tgt := 17) hx hb dX3_readRule_8 (by decide) (fun qc3 => ?_) (fun qc3 => ?_)
  · have hf := gif_f hf qc3
    refine lv_aload_n hx hb dX3_readRule_17 rfl (lv_at hl 0 rfl) ?_
    obtain ⟨zt4, qzt4, hf⟩ := gb_el hf
    refine gx_getR X hw qzt4 clX3 (by decide) mf_X3_9 dX3_readRule_18 ?_
    obtain ⟨qizh5, hf⟩ := gg_el hf
    obtain ⟨zh5, qzh5, hf⟩ := gb_el hf
    refine gx_kv (gx_runV (As := []) (rest := []) X hw (c_X10_advance l E N zt4 zh qzh5) kX10_advance mm_X3_66 qizh5 clX10 ⟨Nat.le_of_ble_eq_true rfl, Nat.le_of_ble_eq_true rfl⟩ rfl rfl rfl hl.1 (Nat.le_of_ble_eq_true rfl) rfl dX3_readRule_21 ⟨Nat.le_of_ble_eq_true rfl, Nat.le_of_ble_eq_true rfl⟩) hw (fun H locs hw => ?_)
    refine lv_aload_n hx hb dX3_readRule_24 rfl (lv_at hl 0 rfl) ?_
    refine W.eq (g2 := F0 m 25 ls [.ref (gB E + za0)]) rfl ?_
    refine lv_iconst (v := 0) hx hb dX3_readRule_25 (by decide) ?_
    refine lv_iconst (v := 0) hx hb dX3_readRule_26 (by decide) ?_
    obtain ⟨qizh6, hf⟩ := gg_el hf
    obtain ⟨zt7, zh6, qzh6, hf⟩ := gc_el hf
    refine gx_ki (gx_runV (As := [.int 0, .int 0]) (rest := []) X hw (c_X3_readLevel l E N za0 0 0 zh5 qzh6) kX3_readLevel mm_X3_108 qizh6 clX3 ⟨Nat.le_of_ble_eq_true rfl, Nat.le_of_ble_eq_true rfl⟩ rfl rfl rfl hl.1 (Nat.le_of_ble_eq_true rfl) rfl dX3_readRule_27 ⟨Nat.le_of_ble_eq_true rfl, Nat.le_of_ble_eq_true rfl⟩) hw (fun H locs hw => ?_)
    refine lv_if_ne (tgt := 35) hx hb dX3_readRule_30 (by decide) (fun qc8 => ?_) (fun qc8 => ?_)
    · have hf := gif_f hf qc8
      refine lv_aload_n hx hb dX3_readRule_35 rfl (lv_at hl 0 rfl) ?_
      obtain ⟨zt9, qzt9, hf⟩ := gb_el hf
      refine gx_getR X hw qzt9 clX3 (by decide) mf_X3_15 dX3_readRule_36 ?_
      obtain ⟨qizh10, hf⟩ := gg_el hf
      obtain ⟨zh10, qzh10, hf⟩ := gb_el hf
      refine gx_kv (gx_runV (As := []) (rest := []) X hw (c_X2_endRule l E N zt9 zh6 qzh10) kX2_endRule mm_X3_112 qizh10 clX2 ⟨Nat.le_of_ble_eq_true rfl, Nat.le_of_ble_eq_true rfl⟩ rfl rfl rfl hl.1 (Nat.le_of_ble_eq_true rfl) rfl dX3_readRule_39 ⟨Nat.le_of_ble_eq_true rfl, Nat.le_of_ble_eq_true rfl⟩) hw (fun H locs hw => ?_)
      refine lv_iconst (v := 1) hx hb dX3_readRule_42 (by decide) ?_
      exact gx_zret X hr hlk hw hf dX3_readRule_43
    · have hf := gif_t hf qc8
      refine lv_iconst (v := 0) hx hb dX3_readRule_33 (by decide) ?_
      exact gx_zret X hr hlk hw hf dX3_readRule_34
  · have hf := gif_t hf qc3
    refine lv_aload_n hx hb dX3_readRule_11 rfl (lv_at hl 0 rfl) ?_
    refine lv_iconst (v := 5) hx hb dX3_readRule_12 (by decide) ?_
    obtain ⟨qizh11, hf⟩ := gg_el hf
    obtain ⟨zt12, zh11, qzh11, hf⟩ := gc_el hf
    refine gx_ki (gx_runV (As := [.int 5]) (rest := []) X hw (c_X3_isWrong l E N za0 5 zh qzh11) kX3_isWrong mm_X3_56 qizh11 clX3 ⟨Nat.le_of_ble_eq_true rfl, Nat.le_of_ble_eq_true rfl⟩ rfl rfl rfl hl.1 (Nat.le_of_ble_eq_true rfl) rfl dX3_readRule_13 ⟨Nat.le_of_ble_eq_true rfl, Nat.le_of_ble_eq_true rfl⟩) hw (fun H locs hw => ?_)
    exact gx_zret X hr hlk hw hf dX3_readRule_16
abbrev rm_X3_readInto : Room := { frames := 72, cells := 0, slots := 0, locals := 1830 }
set_option maxHeartbeats 4000000 in
set_option maxRecDepth 100000 in
theorem c_X3_readInto (l : Launch) (E : gE) (N : Nat) (za0 : Nat) (za1 : Nat) (zh : PH) {h9 : PH} {r9 : Int32} (hf : f_X3_readInto N za0 za1 zh = some (r9, h9)) : Met l yX3_readInto (gWS yX3_readInto cX3_readInto 4 (some .int)) rm_X3_readInto (gPc E [.ref (gB E + za0), .ref (gB E + za1)] zh) (gQi E r9 h9) 0 0 (gA E) := by
  refine gx_met (by decide) ?_ rfl
  intro p e s m below meth c X hr hlk hin2 hw
  have hx := X.1.1
  have hb := X.1.2.1
  have hl := lv_entry [.ref (gB E + za0), .ref (gB E + za1)] (n := 4) (Nat.le_of_ble_eq_true rfl)
  rw [lg_entry_eq]
  generalize (lg_sl [.ref (gB E + za0), .ref (gB E + za1)] ++ List.replicate (4 - (lg_sl [.ref (gB E + za0), .ref (gB E + za1)]).length) Slot.unset).toArray = ls at hl ⊢
  have hl : lv_has ls 4 [(0, .ref (gB E + za0)), (1, .ref (gB E + za1))] := hl
  have J_130 : ∀ (zh : PH) (H : Heap) (locs : List Loc) (ls : Array Slot), f_X3_readInto_130 N zh = some (r9, h9) → gw E s zh H locs → lv_has ls 4 [] → W p l e rm_X3_readInto s m [.ref (gB E + za0), .ref (gB E + za1)].toArray below meth c H locs 0 0 (MQ below (gQi E r9 h9) [.ref (gB E + za0), .ref (gB E + za1)].toArray s 0 0 (gA E)) (F0 m 130 ls []) := by
    intro zh H locs ls hf hw hl
    unfold f_X3_readInto_130 at hf
    refine lv_iconst (v := 0) hx hb dX3_readInto_130 (by decide) ?_
    exact gx_iret X hr hlk hw hf dX3_readInto_131
  have J_119 : ∀ (zv0 : Nat) (zh : PH) (H : Heap) (locs : List Loc) (ls : Array Slot), f_X3_readInto_119 N zv0 zh = some (r9, h9) → gw E s zh H locs → lv_has ls 4 [(0, .ref (gB E + zv0))] → W p l e rm_X3_readInto s m [.ref (gB E + za0), .ref (gB E + za1)].toArray below meth c H locs 0 0 (MQ below (gQi E r9 h9) [.ref (gB E + za0), .ref (gB E + za1)].toArray s 0 0 (gA E)) (F0 m 119 ls []) := by
    intro zv0 zh H locs ls hf hw hl
    unfold f_X3_readInto_119 at hf
    refine lv_aload_n hx hb dX3_readInto_119 rfl (lv_at hl 0 rfl) ?_
    obtain ⟨zt1, qzt1, hf⟩ := gb_el hf
    refine gx_getI X hw qzt1 clX3 (by decide) mf_X3_24 dX3_readInto_120 ?_
    exact gx_iret X hr hlk hw hf dX3_readInto_123
  have L_26 : ∀ (zn26 : Nat) (zv0 : Nat) (zv2 : Int32) (zh : PH) (H : Heap) (locs : List Loc) (ls : Array Slot), gi (fun zk zs => f_X3_readInto_26 N zk zs.1 zs.2.1 zs.2.2) zn26 (zv0, zv2, zh) = some (r9, h9) → gw E s zh H locs → lv_has ls 4 [(0, .ref (gB E + zv0)), (2, .int zv2)] → W p l e rm_X3_readInto s m [.ref (gB E + za0), .ref (gB E + za1)].toArray below meth c H locs 0 0 (MQ below (gQi E r9 h9) [.ref (gB E + za0), .ref (gB E + za1)].toArray s 0 0 (gA E)) (F0 m 26 ls []) := by
    intro zn26
    induction zn26 with
    | zero =>
      intro zv0 zv2 zh H locs ls hf
      cases hf
    | succ zn26 ih_26 =>
      have J_105 : ∀ (zv0 : Nat) (zv2 : Int32) (zs0 : Int32) (zh : PH) (H : Heap) (locs : List Loc) (ls : Array Slot), f_X3_readInto_105 N (gi (fun zk zs => f_X3_readInto_26 N zk zs.1 zs.2.1 zs.2.2) zn26) zv0 zv2 zs0 zh = some (r9, h9) → gw E s zh H locs → lv_has ls 4 [(0, .ref (gB E + zv0)), (2, .int zv2)] → W p l e rm_X3_readInto s m [.ref (gB E + za0), .ref (gB E + za1)].toArray below meth c H locs 0 0 (MQ below (gQi E r9 h9) [.ref (gB E + za0), .ref (gB E + za1)].toArray s 0 0 (gA E)) (F0 m 105 ls [.int zs0]) := by
        intro zv0 zv2 zs0 zh H locs ls hf hw hl
        unfold f_X3_readInto_105 at hf
        refine lv_istore_n (lv' := [(3, .int zs0), (0, .ref (gB E + zv0)), (2, .int zv2)]) hx hb dX3_readInto_105 rfl hl (by decide) rfl (fun ls hl => ?_)
        refine lv_iload_n hx hb dX3_readInto_106 rfl (lv_at hl 0 rfl) ?_
        refine lv_if_eq (tgt := 119) hx hb dX3_readInto_107 (by decide) (fun qc1 => ?_) (fun qc1 => ?_)
        · have hf := gif_t hf qc1
          exact J_119 zv0 _ _ _ ls hf hw (lv_sub hl [1] rfl)
        · have hf := gif_f hf qc1
          refine lv_aload_n hx hb dX3_readInto_110 rfl (lv_at hl 1 rfl) ?_
          refine lv_bipush (v := 59) hx hb dX3_readInto_111 (by decide) ?_
          obtain ⟨qizh2, hf⟩ := gg_el hf
          obtain ⟨zt3, zh2, qzh2, hf⟩ := gc_el hf
          refine gx_ki (gx_runV (As := [.int 59]) (rest := []) X hw (c_X3_takeSign l E N zv0 59 zh qzh2) kX3_takeSign mm_X3_60 qizh2 clX3 ⟨Nat.le_of_ble_eq_true rfl, Nat.le_of_ble_eq_true rfl⟩ rfl rfl rfl hl.1 (Nat.le_of_ble_eq_true rfl) rfl dX3_readInto_113 ⟨Nat.le_of_ble_eq_true rfl, Nat.le_of_ble_eq_true rfl⟩) hw (fun H locs hw => ?_)
          refine lv_if_ne (tgt := 124) hx hb dX3_readInto_116 (by decide) (fun qc4 => ?_) (fun qc4 => ?_)
          · have hf := gif_f hf qc4
            obtain ⟨zx5, ezx5⟩ : ∃ y : Int32, y = zv2 + 1 := ⟨_, rfl⟩
            have hf := gl_el hf ezx5
            refine lv_iinc (v := zx5) (lv' := [(2, .int zx5), (3, .int zs0), (0, .ref (gB E + zv0))]) hx hb dX3_readInto_124 hl (k := 2) rfl (by rw [ezx5]; rfl) (by decide) rfl (fun ls hl => ?_)
            refine lv_goto (tgt := 26) hx hb dX3_readInto_127 (by decide) ?_
            exact ih_26 zv0 zx5 _ _ _ ls hf hw (lv_sub hl [2, 0] rfl)
          · have hf := gif_t hf qc4
            exact J_119 zv0 _ _ _ ls hf hw (lv_sub hl [1] rfl)
      intro zv0 zv2 zh H locs ls hf hw hl
      have hf := gi_s hf
      dsimp only at hf
      unfold f_X3_readInto_26 at hf
      refine lv_iload_n hx hb dX3_readInto_26 rfl (lv_at hl 1 rfl) ?_
      refine lv_sipush (v := 1000) hx hb dX3_readInto_27 (by decide) ?_
      refine lv_icmp_ge (tgt := 130) hx hb dX3_readInto_30 (by decide) (fun qc1 => ?_) (fun qc1 => ?_)
      · have hf := gif_t hf qc1
        exact J_130  _ _ _ ls hf hw (lv_sub hl [] rfl)
      · have hf := gif_f hf qc1
        refine lv_aload_n hx hb dX3_readInto_33 rfl (lv_at hl 0 rfl) ?_
        obtain ⟨zt2, qzt2, hf⟩ := gb_el hf
        refine gx_getR X hw qzt2 clX3 (by decide) mf_X3_9 dX3_readInto_34 ?_
        obtain ⟨zt3, qzt3, hf⟩ := gb_el hf
        refine gx_getI X hw qzt3 clX10 (by decide) mf_X3_33 dX3_readInto_37 ?_
        refine lv_if_eq (tgt := 130) hx hb dX3_readInto_40 (by decide) (fun qc4 => ?_) (fun qc4 => ?_)
        · have hf := gif_t hf qc4
          exact J_130  _ _ _ ls hf hw (lv_sub hl [] rfl)
        · have hf := gif_f hf qc4
          refine lv_aload_n hx hb dX3_readInto_43 rfl (lv_at hl 0 rfl) ?_
          obtain ⟨zt5, qzt5, hf⟩ := gb_el hf
          refine gx_getR X hw qzt5 clX3 (by decide) mf_X3_9 dX3_readInto_44 ?_
          refine W.eq (g2 := F0 m 47 ls [.ref (gB E + zt5)]) rfl ?_
          refine va_ldcS hx hb X.1.2.2.2.1 (gx_str X 0 rfl) dX3_readInto_47 ?_
          obtain ⟨qizh6, hf⟩ := gg_el hf
          obtain ⟨zt7, zh6, qzh6, hf⟩ := gc_el hf
          refine gx_ki (gx_runV (As := [.ref (E.2.2.2.1 0)]) (rest := []) X hw (c_X10_isWord l E N zt5 0 zh qzh6) kX10_isWord mm_X3_38 qizh6 clX10 ⟨Nat.le_of_ble_eq_true rfl, Nat.le_of_ble_eq_true rfl⟩ rfl rfl rfl hl.1 (Nat.le_of_ble_eq_true rfl) rfl dX3_readInto_49 ⟨Nat.le_of_ble_eq_true rfl, Nat.le_of_ble_eq_true rfl⟩) hw (fun H locs hw => ?_)
          refine lv_if_eq (tgt := 62) hx hb dX3_readInto_52 (by decide) (fun qc8 => ?_) (fun qc8 => ?_)
          · have hf := gif_t hf qc8
            refine lv_aload_n hx hb dX3_readInto_62 rfl (lv_at hl 0 rfl) ?_
            obtain ⟨zt9, qzt9, hf⟩ := gb_el hf
            refine gx_getR X hw qzt9 clX3 (by decide) mf_X3_9 dX3_readInto_63 ?_
            refine va_ldcS hx hb X.1.2.2.2.1 (gx_str X 1 rfl) dX3_readInto_66 ?_
            obtain ⟨qizh10, hf⟩ := gg_el hf
            obtain ⟨zt11, zh10, qzh10, hf⟩ := gc_el hf
            refine gx_ki (gx_runV (As := [.ref (E.2.2.2.1 1)]) (rest := []) X hw (c_X10_isWord l E N zt9 1 zh6 qzh10) kX10_isWord mm_X3_38 qizh10 clX10 ⟨Nat.le_of_ble_eq_true rfl, Nat.le_of_ble_eq_true rfl⟩ rfl rfl rfl hl.1 (Nat.le_of_ble_eq_true rfl) rfl dX3_readInto_68 ⟨Nat.le_of_ble_eq_true rfl, Nat.le_of_ble_eq_true rfl⟩) hw (fun H locs hw => ?_)
            refine lv_if_eq (tgt := 81) hx hb dX3_readInto_71 (by decide) (fun qc12 => ?_) (fun qc12 => ?_)
            · have hf := gif_t hf qc12
              refine lv_aload_n hx hb dX3_readInto_81 rfl (lv_at hl 0 rfl) ?_
              obtain ⟨zt13, qzt13, hf⟩ := gb_el hf
              refine gx_getR X hw qzt13 clX3 (by decide) mf_X3_9 dX3_readInto_82 ?_
              refine W.eq (g2 := F0 m 85 ls [.ref (gB E + zt13)]) rfl ?_
              refine va_ldcS hx hb X.1.2.2.2.1 (gx_str X 5 rfl) dX3_readInto_85 ?_
              obtain ⟨qizh14, hf⟩ := gg_el hf
              obtain ⟨zt15, zh14, qzh14, hf⟩ := gc_el hf
              refine gx_ki (gx_runV (As := [.ref (E.2.2.2.1 5)]) (rest := []) X hw (c_X10_isWord l E N zt13 5 zh10 qzh14) kX10_isWord mm_X3_38 qizh14 clX10 ⟨Nat.le_of_ble_eq_true rfl, Nat.le_of_ble_eq_true rfl⟩ rfl rfl rfl hl.1 (Nat.le_of_ble_eq_true rfl) rfl dX3_readInto_87 ⟨Nat.le_of_ble_eq_true rfl, Nat.le_of_ble_eq_true rfl⟩) hw (fun H locs hw => ?_)
              refine lv_if_eq (tgt := 100) hx hb dX3_readInto_90 (by decide) (fun qc16 => ?_) (fun qc16 => ?_)
              · have hf := gif_t hf qc16
                refine lv_aload_n hx hb dX3_readInto_100 rfl (lv_at hl 0 rfl) ?_
                refine lv_iconst (v := 1) hx hb dX3_readInto_101 (by decide) ?_
                obtain ⟨qizh17, hf⟩ := gg_el hf
                obtain ⟨zt18, zh17, qzh17, hf⟩ := gc_el hf
                refine gx_ki (gx_runV (As := [.int 1]) (rest := []) X hw (c_X3_isWrong l E N zv0 1 zh14 qzh17) kX3_isWrong mm_X3_56 qizh17 clX3 ⟨Nat.le_of_ble_eq_true rfl, Nat.le_of_ble_eq_true rfl⟩ rfl rfl rfl hl.1 (Nat.le_of_ble_eq_true rfl) rfl dX3_readInto_102 ⟨Nat.le_of_ble_eq_true rfl, Nat.le_of_ble_eq_true rfl⟩) hw (fun H locs hw => ?_)
                exact J_105 zv0 zv2 zt18 _ _ _ ls hf hw (lv_sub hl [0, 1] rfl)
              · have hf := gif_f hf qc16
                refine lv_aload_n hx hb dX3_readInto_93 rfl (lv_at hl 0 rfl) ?_
                obtain ⟨qizh19, hf⟩ := gg_el hf
                obtain ⟨zt20, zh19, qzh19, hf⟩ := gc_el hf
                refine gx_ki (gx_runV (As := []) (rest := []) X hw (c_X3_readRule l E N zv0 zh14 qzh19) kX3_readRule mm_X3_53 qizh19 clX3 ⟨Nat.le_of_ble_eq_true rfl, Nat.le_of_ble_eq_true rfl⟩ rfl rfl rfl hl.1 (Nat.le_of_ble_eq_true rfl) rfl dX3_readInto_94 ⟨Nat.le_of_ble_eq_true rfl, Nat.le_of_ble_eq_true rfl⟩) hw (fun H locs hw => ?_)
                refine lv_goto (tgt := 105) hx hb dX3_readInto_97 (by decide) ?_
                exact J_105 zv0 zv2 zt20 _ _ _ ls hf hw (lv_sub hl [0, 1] rfl)
            · have hf := gif_f hf qc12
              refine lv_aload_n hx hb dX3_readInto_74 rfl (lv_at hl 0 rfl) ?_
              obtain ⟨qizh21, hf⟩ := gg_el hf
              obtain ⟨zt22, zh21, qzh21, hf⟩ := gc_el hf
              refine gx_ki (gx_runV (As := []) (rest := []) X hw (c_X3_readGuest l E N zv0 zh10 qzh21) kX3_readGuest mm_X3_48 qizh21 clX3 ⟨Nat.le_of_ble_eq_true rfl, Nat.le_of_ble_eq_true rfl⟩ rfl rfl rfl hl.1 (Nat.le_of_ble_eq_true rfl) rfl dX3_readInto_75 ⟨Nat.le_of_ble_eq_true rfl, Nat.le_of_ble_eq_true rfl⟩) hw (fun H locs hw => ?_)
              refine W.eq (g2 := F0 m 78 ls [.int zt22]) rfl ?_
              refine lv_goto (tgt := 105) hx hb dX3_readInto_78 (by decide) ?_
              exact J_105 zv0 zv2 zt22 _ _ _ ls hf hw (lv_sub hl [0, 1] rfl)
          · have hf := gif_f hf qc8
            refine lv_aload_n hx hb dX3_readInto_55 rfl (lv_at hl 0 rfl) ?_
            obtain ⟨qizh23, hf⟩ := gg_el hf
            obtain ⟨zt24, zh23, qzh23, hf⟩ := gc_el hf
            refine gx_ki (gx_runV (As := []) (rest := []) X hw (c_X3_readRoom l E N zv0 zh6 qzh23) kX3_readRoom mm_X3_42 qizh23 clX3 ⟨Nat.le_of_ble_eq_true rfl, Nat.le_of_ble_eq_true rfl⟩ rfl rfl rfl hl.1 (Nat.le_of_ble_eq_true rfl) rfl dX3_readInto_56 ⟨Nat.le_of_ble_eq_true rfl, Nat.le_of_ble_eq_true rfl⟩) hw (fun H locs hw => ?_)
            refine lv_goto (tgt := 105) hx hb dX3_readInto_59 (by decide) ?_
            exact J_105 zv0 zv2 zt24 _ _ _ ls hf hw (lv_sub hl [0, 1] rfl)
  unfold f_X3_readInto at hf
  refine lv_aload_n hx hb dX3_readInto_0 rfl (lv_at hl 0 rfl) ?_
  refine lv_aload_n hx hb dX3_readInto_1 rfl (lv_at hl 1 rfl) ?_
  obtain ⟨zh1, qzh1, hf⟩ := gb_el hf
  refine gx_putV X hw qzh1 clX3 (by decide) mf_X3_15 rfl rfl rfl dX3_readInto_2 (fun H locs hw => ?_)
  refine lv_aload_n hx hb dX3_readInto_5 rfl (lv_at hl 0 rfl) ?_
  obtain ⟨zt2, qzt2, hf⟩ := gb_el hf
  refine gx_getR X hw qzt2 clX3 (by decide) mf_X3_15 dX3_readInto_6 ?_
  obtain ⟨qizh3, hf⟩ := gg_el hf
  obtain ⟨zh3, qzh3, hf⟩ := gb_el hf
  refine gx_kv (gx_runV (As := []) (rest := []) X hw (c_X2_forget l E N zt2 zh1 qzh3) kX2_forget mm_X3_19 qizh3 clX2 ⟨Nat.le_of_ble_eq_true rfl, Nat.le_of_ble_eq_true rfl⟩ rfl rfl rfl hl.1 (Nat.le_of_ble_eq_true rfl) rfl dX3_readInto_9 ⟨Nat.le_of_ble_eq_true rfl, Nat.le_of_ble_eq_true rfl⟩) hw (fun H locs hw => ?_)
  refine lv_aload_n hx hb dX3_readInto_12 rfl (lv_at hl 0 rfl) ?_
  refine lv_iconst (v := 0) hx hb dX3_readInto_13 (by decide) ?_
  obtain ⟨zh4, qzh4, hf⟩ := gb_el hf
  refine gx_putV X hw qzh4 clX3 (by decide) mf_X3_24 rfl rfl rfl dX3_readInto_14 (fun H locs hw => ?_)
  refine W.eq (g2 := F0 m 17 ls []) rfl ?_
  refine lv_aload_n hx hb dX3_readInto_17 rfl (lv_at hl 0 rfl) ?_
  obtain ⟨zt5, qzt5, hf⟩ := gb_el hf
  refine gx_getR X hw qzt5 clX3 (by decide) mf_X3_9 dX3_readInto_18 ?_
  obtain ⟨qizh6, hf⟩ := gg_el hf
  obtain ⟨zh6, qzh6, hf⟩ := gb_el hf
  refine gx_kv (gx_runV (As := []) (rest := []) X hw (c_X10_goToFirstToken l E N zt5 zh4 qzh6) kX10_goToFirstToken mm_X3_28 qizh6 clX10 ⟨Nat.le_of_ble_eq_true rfl, Nat.le_of_ble_eq_true rfl⟩ rfl rfl rfl hl.1 (Nat.le_of_ble_eq_true rfl) rfl dX3_readInto_21 ⟨Nat.le_of_ble_eq_true rfl, Nat.le_of_ble_eq_true rfl⟩) hw (fun H locs hw => ?_)
  refine lv_iconst (v := 0) hx hb dX3_readInto_24 (by decide) ?_
  refine lv_istore_n (lv' := [(2, .int 0), (0, .ref (gB E + za0)), (1, .ref (gB E + za1))]) hx hb dX3_readInto_25 rfl hl (by decide) rfl (fun ls hl => ?_)
  exact L_26 N za0 0 _ _ _ ls hf hw (lv_sub hl [1, 0] rfl)
abbrev rm_X4_init : Room := { frames := 1, cells := 3, slots := 21, locals := 20 }
set_option maxHeartbeats 4000000 in
set_option maxRecDepth 100000 in
theorem c_X4_init (l : Launch) (E : gE) (N : Nat) (za0 : Nat) (zh : PH) {h9 : PH} (hf : f_X4_init N za0 zh = some h9) : Met l yX4_init (gWS yX4_init cX4_init 1 none) rm_X4_init (gPc E [.ref (gB E + za0)] zh) (gQv E h9) 3 21 (gA E) := by
  refine gx_met (by decide) ?_ rfl
  intro p e s m below meth c X hr hlk hin2 hw
  have hx := X.1.1
  have hb := X.1.2.1
  have hl := lv_entry [.ref (gB E + za0)] (n := 1) (Nat.le_of_ble_eq_true rfl)
  rw [lg_entry_eq]
  generalize (lg_sl [.ref (gB E + za0)] ++ List.replicate (1 - (lg_sl [.ref (gB E + za0)]).length) Slot.unset).toArray = ls at hl ⊢
  have hl : lv_has ls 1 [(0, .ref (gB E + za0))] := hl
  unfold f_X4_init at hf
  refine lv_aload_n hx hb dX4_init_0 rfl (lv_at hl 0 rfl) ?_
  refine gx_oinit X mm_X4_3 mo_inst mo_code hl.1 dX4_init_1 (Nat.le_of_ble_eq_true rfl) (Nat.le_of_ble_eq_true rfl) ?_
  refine lv_aload_n hx hb dX4_init_4 rfl (lv_at hl 0 rfl) ?_
  refine lv_bipush (v := 7) hx hb dX4_init_5 (by decide) ?_
  obtain ⟨zr2, zh1, qzh1, hf⟩ := gc_el hf
  refine gx_newa0 X hw qzh1 ma_int (by decide) (by decide) (by decide) (Nat.le_of_ble_eq_true rfl) (Nat.le_of_ble_eq_true rfl) dX4_init_7 (fun H hw => ?_)
  obtain ⟨zh3, qzh3, hf⟩ := gb_el hf
  refine gx_putFV X hw qzh3 clX4 (by decide) mf_X4_9 rfl (hin2 rfl) rfl rfl rfl dX4_init_9 (fun H locs hw => ?_)
  refine lv_aload_n hx hb dX4_init_12 rfl (lv_at hl 0 rfl) ?_
  refine lv_bipush (v := 7) hx hb dX4_init_13 (by decide) ?_
  obtain ⟨zr5, zh4, qzh4, hf⟩ := gc_el hf
  refine gx_newa0 X hw qzh4 ma_int (by decide) (by decide) (by decide) (Nat.le_of_ble_eq_true rfl) (Nat.le_of_ble_eq_true rfl) dX4_init_15 (fun H hw => ?_)
  refine W.eq (g2 := F0 m 17 ls [.ref (gB E + zr5), .ref (gB E + za0)]) rfl ?_
  obtain ⟨zh6, qzh6, hf⟩ := gb_el hf
  refine gx_putFV X hw qzh6 clX4 (by decide) mf_X4_15 rfl (hin2 rfl) rfl rfl rfl dX4_init_17 (fun H locs hw => ?_)
  refine lv_aload_n hx hb dX4_init_20 rfl (lv_at hl 0 rfl) ?_
  refine lv_bipush (v := 7) hx hb dX4_init_21 (by decide) ?_
  obtain ⟨zr8, zh7, qzh7, hf⟩ := gc_el hf
  refine gx_newa0 X hw qzh7 ma_int (by decide) (by decide) (by decide) (Nat.le_of_ble_eq_true rfl) (Nat.le_of_ble_eq_true rfl) dX4_init_23 (fun H hw => ?_)
  obtain ⟨zh9, qzh9, hf⟩ := gb_el hf
  refine gx_putFV X hw qzh9 clX4 (by decide) mf_X4_18 rfl (hin2 rfl) rfl rfl rfl dX4_init_25 (fun H locs hw => ?_)
  exact gx_vret X hr hlk hw hf dX4_init_28
abbrev rm_X4_copyFrom : Room := { frames := 1, cells := 0, slots := 0, locals := 64 }
set_option maxHeartbeats 4000000 in
set_option maxRecDepth 100000 in
theorem c_X4_copyFrom (l : Launch) (E : gE) (N : Nat) (za0 : Nat) (za1 : Nat) (zh : PH) {h9 : PH} (hf : f_X4_copyFrom N za0 za1 zh = some h9) : Met l yX4_copyFrom (gWS yX4_copyFrom cX4_copyFrom 2 none) rm_X4_copyFrom (gPc E [.ref (gB E + za0), .ref (gB E + za1)] zh) (gQv E h9) 0 0 (gA E) := by
  refine gx_met (by decide) ?_ rfl
  intro p e s m below meth c X hr hlk hin2 hw
  have hx := X.1.1
  have hb := X.1.2.1
  have hl := lv_entry [.ref (gB E + za0), .ref (gB E + za1)] (n := 2) (Nat.le_of_ble_eq_true rfl)
  rw [lg_entry_eq]
  generalize (lg_sl [.ref (gB E + za0), .ref (gB E + za1)] ++ List.replicate (2 - (lg_sl [.ref (gB E + za0), .ref (gB E + za1)]).length) Slot.unset).toArray = ls at hl ⊢
  have hl : lv_has ls 2 [(0, .ref (gB E + za0)), (1, .ref (gB E + za1))] := hl
  unfold f_X4_copyFrom at hf
  refine lv_aload_n hx hb dX4_copyFrom_0 rfl (lv_at hl 1 rfl) ?_
  obtain ⟨zt1, qzt1, hf⟩ := gb_el hf
  refine gx_getR X hw qzt1 clX4 (by decide) mf_X4_9 dX4_copyFrom_1 ?_
  refine lv_iconst (v := 0) hx hb dX4_copyFrom_4 (by decide) ?_
  refine lv_aload_n hx hb dX4_copyFrom_5 rfl (lv_at hl 0 rfl) ?_
  obtain ⟨zt2, qzt2, hf⟩ := gb_el hf
  refine gx_getR X hw qzt2 clX4 (by decide) mf_X4_9 dX4_copyFrom_6 ?_
  refine lv_iconst (v := 0) hx hb dX4_copyFrom_9 (by decide) ?_
  refine lv_bipush (v := 7) hx hb dX4_copyFrom_10 (by decide) ?_
  obtain ⟨zh3, qzh3, hf⟩ := gb_el hf
  refine gx_cpI X hw qzh3 mm_X4_21 ac_n ac_s mI_java_lang_System hl.1 (Nat.le_of_ble_eq_true rfl) (Nat.le_of_ble_eq_true rfl) dX4_copyFrom_12 (fun H locs hw => ?_)
  refine lv_aload_n hx hb dX4_copyFrom_15 rfl (lv_at hl 1 rfl) ?_
  refine W.eq (g2 := F0 m 16 ls [.ref (gB E + za1)]) rfl ?_
  obtain ⟨zt4, qzt4, hf⟩ := gb_el hf
  refine gx_getR X hw qzt4 clX4 (by decide) mf_X4_15 dX4_copyFrom_16 ?_
  refine lv_iconst (v := 0) hx hb dX4_copyFrom_19 (by decide) ?_
  refine lv_aload_n hx hb dX4_copyFrom_20 rfl (lv_at hl 0 rfl) ?_
  obtain ⟨zt5, qzt5, hf⟩ := gb_el hf
  refine gx_getR X hw qzt5 clX4 (by decide) mf_X4_15 dX4_copyFrom_21 ?_
  refine lv_iconst (v := 0) hx hb dX4_copyFrom_24 (by decide) ?_
  refine lv_bipush (v := 7) hx hb dX4_copyFrom_25 (by decide) ?_
  obtain ⟨zh6, qzh6, hf⟩ := gb_el hf
  refine gx_cpI X hw qzh6 mm_X4_21 ac_n ac_s mI_java_lang_System hl.1 (Nat.le_of_ble_eq_true rfl) (Nat.le_of_ble_eq_true rfl) dX4_copyFrom_27 (fun H locs hw => ?_)
  refine lv_aload_n hx hb dX4_copyFrom_30 rfl (lv_at hl 1 rfl) ?_
  obtain ⟨zt7, qzt7, hf⟩ := gb_el hf
  refine gx_getR X hw qzt7 clX4 (by decide) mf_X4_18 dX4_copyFrom_31 ?_
  refine lv_iconst (v := 0) hx hb dX4_copyFrom_34 (by decide) ?_
  refine W.eq (g2 := F0 m 35 ls [.int 0, .ref (gB E + zt7)]) rfl ?_
  refine lv_aload_n hx hb dX4_copyFrom_35 rfl (lv_at hl 0 rfl) ?_
  obtain ⟨zt8, qzt8, hf⟩ := gb_el hf
  refine gx_getR X hw qzt8 clX4 (by decide) mf_X4_18 dX4_copyFrom_36 ?_
  refine lv_iconst (v := 0) hx hb dX4_copyFrom_39 (by decide) ?_
  refine lv_bipush (v := 7) hx hb dX4_copyFrom_40 (by decide) ?_
  obtain ⟨zh9, qzh9, hf⟩ := gb_el hf
  refine gx_cpI X hw qzh9 mm_X4_21 ac_n ac_s mI_java_lang_System hl.1 (Nat.le_of_ble_eq_true rfl) (Nat.le_of_ble_eq_true rfl) dX4_copyFrom_42 (fun H locs hw => ?_)
  refine lv_aload_n hx hb dX4_copyFrom_45 rfl (lv_at hl 0 rfl) ?_
  refine lv_aload_n hx hb dX4_copyFrom_46 rfl (lv_at hl 1 rfl) ?_
  obtain ⟨zt10, qzt10, hf⟩ := gb_el hf
  refine gx_getI X hw qzt10 clX4 (by decide) mf_X4_27 dX4_copyFrom_47 ?_
  obtain ⟨zh11, qzh11, hf⟩ := gb_el hf
  refine gx_putV X hw qzh11 clX4 (by decide) mf_X4_27 rfl rfl rfl dX4_copyFrom_50 (fun H locs hw => ?_)
  exact gx_vret X hr hlk hw hf dX4_copyFrom_53
abbrev rm_X4_add : Room := { frames := 0, cells := 0, slots := 0, locals := 0 }
set_option maxHeartbeats 4000000 in
set_option maxRecDepth 100000 in
theorem c_X4_add (l : Launch) (E : gE) (N : Nat) (za0 : Nat) (za1 : Int32) (za2 : Int32) (za3 : Int32) (zh : PH) {h9 : PH} {r9 : Int32} (hf : f_X4_add N za0 za1 za2 za3 zh = some (r9, h9)) : Met l yX4_add (gWS yX4_add cX4_add 4 (some .boolean)) rm_X4_add (gPc E [.ref (gB E + za0), .int za1, .int za2, .int za3] zh) (gQi E r9 h9) 0 0 (gA E) := by
  refine gx_met (by decide) ?_ rfl
  intro p e s m below meth c X hr hlk hin2 hw
  have hx := X.1.1
  have hb := X.1.2.1
  have hl := lv_entry [.ref (gB E + za0), .int za1, .int za2, .int za3] (n := 4) (Nat.le_of_ble_eq_true rfl)
  rw [lg_entry_eq]
  generalize (lg_sl [.ref (gB E + za0), .int za1, .int za2, .int za3] ++ List.replicate (4 - (lg_sl [.ref (gB E + za0), .int za1, .int za2, .int za3]).length) Slot.unset).toArray = ls at hl ⊢
  have hl : lv_has ls 4 [(0, .ref (gB E + za0)), (1, .int za1), (2, .int za2), (3, .int za3)] := hl
  unfold f_X4_add at hf
  refine lv_aload_n hx hb dX4_add_0 rfl (lv_at hl 0 rfl) ?_
  obtain ⟨zt1, qzt1, hf⟩ := gb_el hf
  refine gx_getI X hw qzt1 clX4 (by decide) mf_X4_27 dX4_add_1 ?_
  refine lv_bipush (v := 7) hx hb dX4_add_4 (by decide) ?_
  refine lv_icmp_lt (tgt := 11) hx hb dX4_add_6 (by decide) (fun qc2 => ?_) (fun qc2 => ?_)
  · have hf := gif_t hf qc2
    refine lv_aload_n hx hb dX4_add_11 rfl (lv_at hl 0 rfl) ?_
    obtain ⟨zt3, qzt3, hf⟩ := gb_el hf
    refine gx_getR X hw qzt3 clX4 (by decide) mf_X4_9 dX4_add_12 ?_
    refine lv_aload_n hx hb dX4_add_15 rfl (lv_at hl 0 rfl) ?_
    obtain ⟨zt4, qzt4, hf⟩ := gb_el hf
    refine gx_getI X hw qzt4 clX4 (by decide) mf_X4_27 dX4_add_16 ?_
    refine lv_iload_n hx hb dX4_add_19 rfl (lv_at hl 1 rfl) ?_
    refine W.eq (g2 := F0 m 20 ls [.int za1, .int zt4, .ref (gB E + zt3)]) rfl ?_
    obtain ⟨zh5, qzh5, hf⟩ := gb_el hf
    refine gx_iast X hw qzh5 dX4_add_20 (fun H locs hw => ?_)
    refine lv_aload_n hx hb dX4_add_21 rfl (lv_at hl 0 rfl) ?_
    obtain ⟨zt6, qzt6, hf⟩ := gb_el hf
    refine gx_getR X hw qzt6 clX4 (by decide) mf_X4_15 dX4_add_22 ?_
    refine lv_aload_n hx hb dX4_add_25 rfl (lv_at hl 0 rfl) ?_
    obtain ⟨zt7, qzt7, hf⟩ := gb_el hf
    refine gx_getI X hw qzt7 clX4 (by decide) mf_X4_27 dX4_add_26 ?_
    refine lv_iload_n hx hb dX4_add_29 rfl (lv_at hl 2 rfl) ?_
    obtain ⟨zh8, qzh8, hf⟩ := gb_el hf
    refine gx_iast X hw qzh8 dX4_add_30 (fun H locs hw => ?_)
    refine lv_aload_n hx hb dX4_add_31 rfl (lv_at hl 0 rfl) ?_
    obtain ⟨zt9, qzt9, hf⟩ := gb_el hf
    refine gx_getR X hw qzt9 clX4 (by decide) mf_X4_18 dX4_add_32 ?_
    refine lv_aload_n hx hb dX4_add_35 rfl (lv_at hl 0 rfl) ?_
    refine W.eq (g2 := F0 m 36 ls [.ref (gB E + za0), .ref (gB E + zt9)]) rfl ?_
    obtain ⟨zt10, qzt10, hf⟩ := gb_el hf
    refine gx_getI X hw qzt10 clX4 (by decide) mf_X4_27 dX4_add_36 ?_
    refine lv_iload_n hx hb dX4_add_39 rfl (lv_at hl 3 rfl) ?_
    obtain ⟨zh11, qzh11, hf⟩ := gb_el hf
    refine gx_iast X hw qzh11 dX4_add_40 (fun H locs hw => ?_)
    refine lv_aload_n hx hb dX4_add_41 rfl (lv_at hl 0 rfl) ?_
    refine lv_dup hx hb dX4_add_42 rfl ?_
    obtain ⟨zt12, qzt12, hf⟩ := gb_el hf
    refine gx_getI X hw qzt12 clX4 (by decide) mf_X4_27 dX4_add_43 ?_
    refine lv_iconst (v := 1) hx hb dX4_add_46 (by decide) ?_
    refine lv_iadd hx hb dX4_add_47 ?_
    obtain ⟨zh13, qzh13, hf⟩ := gb_el hf
    refine gx_putV X hw qzh13 clX4 (by decide) mf_X4_27 rfl rfl rfl dX4_add_48 (fun H locs hw => ?_)
    refine lv_iconst (v := 1) hx hb dX4_add_51 (by decide) ?_
    refine W.eq (g2 := F0 m 52 ls [.int 1]) rfl ?_
    exact gx_zret X hr hlk hw hf dX4_add_52
  · have hf := gif_f hf qc2
    refine lv_iconst (v := 0) hx hb dX4_add_9 (by decide) ?_
    exact gx_zret X hr hlk hw hf dX4_add_10
abbrev rm_X4_doneAsTold : Room := { frames := 1, cells := 0, slots := 0, locals := 21 }
set_option maxHeartbeats 4000000 in
set_option maxRecDepth 100000 in
theorem c_X4_doneAsTold (l : Launch) (E : gE) (N : Nat) (za0 : Nat) (zh : PH) {h9 : PH} {r9 : Int32} (hf : f_X4_doneAsTold N za0 zh = some (r9, h9)) : Met l yX4_doneAsTold (gWS yX4_doneAsTold cX4_doneAsTold 4 (some .int)) rm_X4_doneAsTold (gPc E [.ref (gB E + za0)] zh) (gQi E r9 h9) 0 0 (gA E) := by
  refine gx_met (by decide) ?_ rfl
  intro p e s m below meth c X hr hlk hin2 hw
  have hx := X.1.1
  have hb := X.1.2.1
  have hl := lv_entry [.ref (gB E + za0)] (n := 4) (Nat.le_of_ble_eq_true rfl)
  rw [lg_entry_eq]
  generalize (lg_sl [.ref (gB E + za0)] ++ List.replicate (4 - (lg_sl [.ref (gB E + za0)]).length) Slot.unset).toArray = ls at hl ⊢
  have hl : lv_has ls 4 [(0, .ref (gB E + za0))] := hl
  have L_6 : ∀ (zn6 : Nat) (zv0 : Nat) (zv1 : Int32) (zv2 : Int32) (zv3 : Int32) (zh : PH) (H : Heap) (locs : List Loc) (ls : Array Slot), gi (fun zk zs => f_X4_doneAsTold_6 N zk zs.1 zs.2.1 zs.2.2.1 zs.2.2.2.1 zs.2.2.2.2) zn6 (zv0, zv1, zv2, zv3, zh) = some (r9, h9) → gw E s zh H locs → lv_has ls 4 [(0, .ref (gB E + zv0)), (1, .int zv1), (2, .int zv2), (3, .int zv3)] → W p l e rm_X4_doneAsTold s m [.ref (gB E + za0)].toArray below meth c H locs 0 0 (MQ below (gQi E r9 h9) [.ref (gB E + za0)].toArray s 0 0 (gA E)) (F0 m 6 ls []) := by
    intro zn6
    induction zn6 with
    | zero =>
      intro zv0 zv1 zv2 zv3 zh H locs ls hf
      cases hf
    | succ zn6 ih_6 =>
      intro zv0 zv1 zv2 zv3 zh H locs ls hf hw hl
      have hf := gi_s hf
      dsimp only at hf
      unfold f_X4_doneAsTold_6 at hf
      refine lv_iload_n hx hb dX4_doneAsTold_6 rfl (lv_at hl 3 rfl) ?_
      refine lv_aload_n hx hb dX4_doneAsTold_7 rfl (lv_at hl 0 rfl) ?_
      obtain ⟨zt1, qzt1, hf⟩ := gb_el hf
      refine gx_getI X hw qzt1 clX4 (by decide) mf_X4_27 dX4_doneAsTold_8 ?_
      refine lv_icmp_ge (tgt := 51) hx hb dX4_doneAsTold_11 (by decide) (fun qc2 => ?_) (fun qc2 => ?_)
      · have hf := gif_t hf qc2
        refine lv_iload_n hx hb dX4_doneAsTold_51 rfl (lv_at hl 1 rfl) ?_
        exact gx_iret X hr hlk hw hf dX4_doneAsTold_52
      · have hf := gif_f hf qc2
        refine lv_iload_n hx hb dX4_doneAsTold_14 rfl (lv_at hl 2 rfl) ?_
        refine lv_aload_n hx hb dX4_doneAsTold_15 rfl (lv_at hl 0 rfl) ?_
        obtain ⟨zt3, qzt3, hf⟩ := gb_el hf
        refine gx_getR X hw qzt3 clX4 (by decide) mf_X4_9 dX4_doneAsTold_16 ?_
        refine lv_iload_n hx hb dX4_doneAsTold_19 rfl (lv_at hl 3 rfl) ?_
        obtain ⟨zt4, qzt4, hf⟩ := gb_el hf
        refine gx_iald X hw qzt4 dX4_doneAsTold_20 ?_
        refine W.eq (g2 := F0 m 21 ls [.int zt4, .int zv2]) rfl ?_
        refine gx_max X mm_X4_31 mt_max mI_java_lang_Math mx_max hl.1 (Nat.le_of_ble_eq_true rfl) (Nat.le_of_ble_eq_true rfl) (Nat.le_of_ble_eq_true rfl) (Nat.le_of_ble_eq_true rfl) dX4_doneAsTold_21 ?_
        refine lv_aload_n hx hb dX4_doneAsTold_24 rfl (lv_at hl 0 rfl) ?_
        obtain ⟨zt5, qzt5, hf⟩ := gb_el hf
        refine gx_getR X hw qzt5 clX4 (by decide) mf_X4_15 dX4_doneAsTold_25 ?_
        refine lv_iload_n hx hb dX4_doneAsTold_28 rfl (lv_at hl 3 rfl) ?_
        obtain ⟨zt6, qzt6, hf⟩ := gb_el hf
        refine gx_iald X hw qzt6 dX4_doneAsTold_29 ?_
        refine lv_iadd hx hb dX4_doneAsTold_30 ?_
        refine lv_topi (fun zx7 ezx7 => ?_)
        have hf := gl_el hf ezx7
        refine lv_istore_n (lv' := [(2, .int zx7), (0, .ref (gB E + zv0)), (1, .int zv1), (3, .int zv3)]) hx hb dX4_doneAsTold_31 rfl hl (by decide) rfl (fun ls hl => ?_)
        refine lv_iload_n hx hb dX4_doneAsTold_32 rfl (lv_at hl 2 rfl) ?_
        refine lv_iload_n hx hb dX4_doneAsTold_33 rfl (lv_at hl 0 rfl) ?_
        refine lv_aload_n hx hb dX4_doneAsTold_34 rfl (lv_at hl 1 rfl) ?_
        refine W.eq (g2 := F0 m 35 ls [.ref (gB E + zv0), .int zx7, .int zv1]) rfl ?_
        obtain ⟨zt8, qzt8, hf⟩ := gb_el hf
        refine gx_getR X hw qzt8 clX4 (by decide) mf_X4_18 dX4_doneAsTold_35 ?_
        refine lv_iload_n hx hb dX4_doneAsTold_38 rfl (lv_at hl 3 rfl) ?_
        obtain ⟨zt9, qzt9, hf⟩ := gb_el hf
        refine gx_iald X hw qzt9 dX4_doneAsTold_39 ?_
        refine lv_iadd hx hb dX4_doneAsTold_40 ?_
        refine gx_max X mm_X4_31 mt_max mI_java_lang_Math mx_max hl.1 (Nat.le_of_ble_eq_true rfl) (Nat.le_of_ble_eq_true rfl) (Nat.le_of_ble_eq_true rfl) (Nat.le_of_ble_eq_true rfl) dX4_doneAsTold_41 ?_
        refine lv_topi (fun zx10 ezx10 => ?_)
        have hf := gl_el hf ezx10
        refine lv_istore_n (lv' := [(1, .int zx10), (2, .int zx7), (0, .ref (gB E + zv0)), (3, .int zv3)]) hx hb dX4_doneAsTold_44 rfl hl (by decide) rfl (fun ls hl => ?_)
        obtain ⟨zx11, ezx11⟩ : ∃ y : Int32, y = zv3 + 1 := ⟨_, rfl⟩
        have hf := gl_el hf ezx11
        refine lv_iinc (v := zx11) (lv' := [(3, .int zx11), (1, .int zx10), (2, .int zx7), (0, .ref (gB E + zv0))]) hx hb dX4_doneAsTold_45 hl (k := 3) rfl (by rw [ezx11]; rfl) (by decide) rfl (fun ls hl => ?_)
        refine lv_goto (tgt := 6) hx hb dX4_doneAsTold_48 (by decide) ?_
        exact ih_6 zv0 zx10 zx7 zx11 _ _ _ ls hf hw (lv_sub hl [3, 1, 2, 0] rfl)
  unfold f_X4_doneAsTold at hf
  refine lv_iconst (v := 0) hx hb dX4_doneAsTold_0 (by decide) ?_
  refine lv_istore_n (lv' := [(1, .int 0), (0, .ref (gB E + za0))]) hx hb dX4_doneAsTold_1 rfl hl (by decide) rfl (fun ls hl => ?_)
  refine lv_iconst (v := 0) hx hb dX4_doneAsTold_2 (by decide) ?_
  refine lv_istore_n (lv' := [(2, .int 0), (1, .int 0), (0, .ref (gB E + za0))]) hx hb dX4_doneAsTold_3 rfl hl (by decide) rfl (fun ls hl => ?_)
  refine lv_iconst (v := 0) hx hb dX4_doneAsTold_4 (by decide) ?_
  refine lv_istore_n (lv' := [(3, .int 0), (2, .int 0), (1, .int 0), (0, .ref (gB E + za0))]) hx hb dX4_doneAsTold_5 rfl hl (by decide) rfl (fun ls hl => ?_)
  exact L_6 N za0 0 0 0 _ _ _ ls hf hw (lv_sub hl [3, 2, 1, 0] rfl)
abbrev rm_X5_init : Room := { frames := 1, cells := 3, slots := 142, locals := 20 }
set_option maxHeartbeats 4000000 in
set_option maxRecDepth 100000 in
theorem c_X5_init (l : Launch) (E : gE) (N : Nat) (za0 : Nat) (zh : PH) {h9 : PH} (hf : f_X5_init N za0 zh = some h9) : Met l yX5_init (gWS yX5_init cX5_init 1 none) rm_X5_init (gPc E [.ref (gB E + za0)] zh) (gQv E h9) 3 142 (gA E) := by
  refine gx_met (by decide) ?_ rfl
  intro p e s m below meth c X hr hlk hin2 hw
  have hx := X.1.1
  have hb := X.1.2.1
  have hl := lv_entry [.ref (gB E + za0)] (n := 1) (Nat.le_of_ble_eq_true rfl)
  rw [lg_entry_eq]
  generalize (lg_sl [.ref (gB E + za0)] ++ List.replicate (1 - (lg_sl [.ref (gB E + za0)]).length) Slot.unset).toArray = ls at hl ⊢
  have hl : lv_has ls 1 [(0, .ref (gB E + za0))] := hl
  unfold f_X5_init at hf
  refine lv_aload_n hx hb dX5_init_0 rfl (lv_at hl 0 rfl) ?_
  refine gx_oinit X mm_X5_3 mo_inst mo_code hl.1 dX5_init_1 (Nat.le_of_ble_eq_true rfl) (Nat.le_of_ble_eq_true rfl) ?_
  refine lv_aload_n hx hb dX5_init_4 rfl (lv_at hl 0 rfl) ?_
  refine lv_bipush (v := 7) hx hb dX5_init_5 (by decide) ?_
  obtain ⟨zr2, zh1, qzh1, hf⟩ := gc_el hf
  refine gx_newa0 X hw qzh1 ma_int (by decide) (by decide) (by decide) (Nat.le_of_ble_eq_true rfl) (Nat.le_of_ble_eq_true rfl) dX5_init_7 (fun H hw => ?_)
  obtain ⟨zh3, qzh3, hf⟩ := gb_el hf
  refine gx_putFV X hw qzh3 clX5 (by decide) mf_X5_9 rfl (hin2 rfl) rfl rfl rfl dX5_init_9 (fun H locs hw => ?_)
  refine lv_aload_n hx hb dX5_init_12 rfl (lv_at hl 0 rfl) ?_
  refine lv_bipush (v := 7) hx hb dX5_init_13 (by decide) ?_
  obtain ⟨zr5, zh4, qzh4, hf⟩ := gc_el hf
  refine gx_newa0 X hw qzh4 ma_int (by decide) (by decide) (by decide) (Nat.le_of_ble_eq_true rfl) (Nat.le_of_ble_eq_true rfl) dX5_init_15 (fun H hw => ?_)
  refine W.eq (g2 := F0 m 17 ls [.ref (gB E + zr5), .ref (gB E + za0)]) rfl ?_
  obtain ⟨zh6, qzh6, hf⟩ := gb_el hf
  refine gx_putFV X hw qzh6 clX5 (by decide) mf_X5_15 rfl (hin2 rfl) rfl rfl rfl dX5_init_17 (fun H locs hw => ?_)
  refine lv_aload_n hx hb dX5_init_20 rfl (lv_at hl 0 rfl) ?_
  refine lv_sipush (v := 128) hx hb dX5_init_21 (by decide) ?_
  obtain ⟨zr8, zh7, qzh7, hf⟩ := gc_el hf
  refine gx_newa0 X hw qzh7 ma_int (by decide) (by decide) (by decide) (Nat.le_of_ble_eq_true rfl) (Nat.le_of_ble_eq_true rfl) dX5_init_24 (fun H hw => ?_)
  obtain ⟨zh9, qzh9, hf⟩ := gb_el hf
  refine gx_putFV X hw qzh9 clX5 (by decide) mf_X5_18 rfl (hin2 rfl) rfl rfl rfl dX5_init_26 (fun H locs hw => ?_)
  exact gx_vret X hr hlk hw hf dX5_init_29
abbrev rm_X5_latestStart : Room := { frames := 1, cells := 0, slots := 0, locals := 21 }
set_option maxHeartbeats 4000000 in
set_option maxRecDepth 100000 in
theorem c_X5_latestStart (l : Launch) (E : gE) (N : Nat) (za0 : Nat) (za1 : Int32) (za2 : Int32) (za3 : Int32) (zh : PH) {h9 : PH} {r9 : Int32} (hf : f_X5_latestStart N za0 za1 za2 za3 zh = some (r9, h9)) : Met l yX5_latestStart (gWS yX5_latestStart cX5_latestStart 5 (some .int)) rm_X5_latestStart (gPc E [.ref (gB E + za0), .int za1, .int za2, .int za3] zh) (gQi E r9 h9) 0 0 (gA E) := by
  refine gx_met (by decide) ?_ rfl
  intro p e s m below meth c X hr hlk hin2 hw
  have hx := X.1.1
  have hb := X.1.2.1
  have hl := lv_entry [.ref (gB E + za0), .int za1, .int za2, .int za3] (n := 5) (Nat.le_of_ble_eq_true rfl)
  rw [lg_entry_eq]
  generalize (lg_sl [.ref (gB E + za0), .int za1, .int za2, .int za3] ++ List.replicate (5 - (lg_sl [.ref (gB E + za0), .int za1, .int za2, .int za3]).length) Slot.unset).toArray = ls at hl ⊢
  have hl : lv_has ls 5 [(0, .ref (gB E + za0)), (1, .int za1), (2, .int za2), (3, .int za3)] := hl
  unfold f_X5_latestStart at hf
  refine lv_aload_n hx hb dX5_latestStart_0 rfl (lv_at hl 0 rfl) ?_
  obtain ⟨zt1, qzt1, hf⟩ := gb_el hf
  refine gx_getR X hw qzt1 clX5 (by decide) mf_X5_18 dX5_latestStart_1 ?_
  refine lv_iload_n hx hb dX5_latestStart_4 rfl (lv_at hl 2 rfl) ?_
  refine lv_iconst (v := 1) hx hb dX5_latestStart_5 (by decide) ?_
  refine lv_iload_n hx hb dX5_latestStart_6 rfl (lv_at hl 1 rfl) ?_
  refine lv_ishl hx hb dX5_latestStart_7 ?_
  refine lv_iconst (v := (-1)) hx hb dX5_latestStart_8 (by decide) ?_
  refine lv_ixor hx hb dX5_latestStart_9 ?_
  refine lv_iand hx hb dX5_latestStart_10 ?_
  refine W.eq (g2 := F0 m 11 ls [.int (za2 &&& ((1 <<< (za1 &&& 31)) ^^^ (-1))), .ref (gB E + zt1)]) rfl ?_
  obtain ⟨zt2, qzt2, hf⟩ := gb_el hf
  refine gx_iald X hw qzt2 dX5_latestStart_11 ?_
  refine lv_istore (lv' := [(4, .int zt2), (0, .ref (gB E + za0)), (1, .int za1), (2, .int za2), (3, .int za3)]) hx hb dX5_latestStart_12 hl (by decide) rfl (fun ls hl => ?_)
  refine lv_iload hx hb dX5_latestStart_14 (lv_at hl 0 rfl) ?_
  refine lv_iload_n hx hb dX5_latestStart_16 rfl (lv_at hl 4 rfl) ?_
  refine lv_aload_n hx hb dX5_latestStart_17 rfl (lv_at hl 1 rfl) ?_
  obtain ⟨zt3, qzt3, hf⟩ := gb_el hf
  refine gx_getR X hw qzt3 clX5 (by decide) mf_X5_21 dX5_latestStart_18 ?_
  obtain ⟨zt4, qzt4, hf⟩ := gb_el hf
  refine gx_getR X hw qzt4 clX4 (by decide) mf_X5_61 dX5_latestStart_21 ?_
  refine lv_iload_n hx hb dX5_latestStart_24 rfl (lv_at hl 2 rfl) ?_
  obtain ⟨zt5, qzt5, hf⟩ := gb_el hf
  refine gx_iald X hw qzt5 dX5_latestStart_25 ?_
  refine lv_isub hx hb dX5_latestStart_26 ?_
  refine W.eq (g2 := F0 m 27 ls [.int (za3 - zt5), .int zt2]) rfl ?_
  refine gx_min X mm_X5_71 mt_min mI_java_lang_Math mx_min hl.1 (Nat.le_of_ble_eq_true rfl) (Nat.le_of_ble_eq_true rfl) (Nat.le_of_ble_eq_true rfl) (Nat.le_of_ble_eq_true rfl) dX5_latestStart_27 ?_
  refine lv_aload_n hx hb dX5_latestStart_30 rfl (lv_at hl 1 rfl) ?_
  obtain ⟨zt6, qzt6, hf⟩ := gb_el hf
  refine gx_getR X hw qzt6 clX5 (by decide) mf_X5_21 dX5_latestStart_31 ?_
  obtain ⟨zt7, qzt7, hf⟩ := gb_el hf
  refine gx_getR X hw qzt7 clX4 (by decide) mf_X5_58 dX5_latestStart_34 ?_
  refine lv_iload_n hx hb dX5_latestStart_37 rfl (lv_at hl 2 rfl) ?_
  obtain ⟨zt8, qzt8, hf⟩ := gb_el hf
  refine gx_iald X hw qzt8 dX5_latestStart_38 ?_
  refine lv_isub hx hb dX5_latestStart_39 ?_
  exact gx_iret X hr hlk hw hf dX5_latestStart_40
abbrev rm_X5_canBeDoneBy : Room := { frames := 2, cells := 0, slots := 0, locals := 45 }
set_option maxHeartbeats 4000000 in
set_option maxRecDepth 100000 in
theorem c_X5_canBeDoneBy (l : Launch) (E : gE) (N : Nat) (za0 : Nat) (za1 : Int32) (zh : PH) {h9 : PH} {r9 : Int32} (hf : f_X5_canBeDoneBy N za0 za1 zh = some (r9, h9)) : Met l yX5_canBeDoneBy (gWS yX5_canBeDoneBy cX5_canBeDoneBy 7 (some .boolean)) rm_X5_canBeDoneBy (gPc E [.ref (gB E + za0), .int za1] zh) (gQi E r9 h9) 0 0 (gA E) := by
  refine gx_met (by decide) ?_ rfl
  intro p e s m below meth c X hr hlk hin2 hw
  have hx := X.1.1
  have hb := X.1.2.1
  have hl := lv_entry [.ref (gB E + za0), .int za1] (n := 7) (Nat.le_of_ble_eq_true rfl)
  rw [lg_entry_eq]
  generalize (lg_sl [.ref (gB E + za0), .int za1] ++ List.replicate (7 - (lg_sl [.ref (gB E + za0), .int za1]).length) Slot.unset).toArray = ls at hl ⊢
  have hl : lv_has ls 7 [(0, .ref (gB E + za0)), (1, .int za1)] := hl
  have J_128 : ∀ (zs0 : Int32) (zh : PH) (H : Heap) (locs : List Loc) (ls : Array Slot), f_X5_canBeDoneBy_128 N zs0 zh = some (r9, h9) → gw E s zh H locs → lv_has ls 7 [] → W p l e rm_X5_canBeDoneBy s m [.ref (gB E + za0), .int za1].toArray below meth c H locs 0 0 (MQ below (gQi E r9 h9) [.ref (gB E + za0), .int za1].toArray s 0 0 (gA E)) (F0 m 128 ls [.int zs0]) := by
    intro zs0 zh H locs ls hf hw hl
    unfold f_X5_canBeDoneBy_128 at hf
    exact gx_zret X hr hlk hw hf dX5_canBeDoneBy_128
  have L_21 : ∀ (zn21 : Nat) (zv0 : Nat) (zv1 : Int32) (zv2 : Int32) (zv3 : Int32) (zh : PH) (H : Heap) (locs : List Loc) (ls : Array Slot), gi (fun zk zs => f_X5_canBeDoneBy_21 N zk zs.1 zs.2.1 zs.2.2.1 zs.2.2.2.1 zs.2.2.2.2) zn21 (zv0, zv1, zv2, zv3, zh) = some (r9, h9) → gw E s zh H locs → lv_has ls 7 [(0, .ref (gB E + zv0)), (1, .int zv1), (2, .int zv2), (3, .int zv3)] → W p l e rm_X5_canBeDoneBy s m [.ref (gB E + za0), .int za1].toArray below meth c H locs 0 0 (MQ below (gQi E r9 h9) [.ref (gB E + za0), .int za1].toArray s 0 0 (gA E)) (F0 m 21 ls []) := by
    intro zn21
    induction zn21 with
    | zero =>
      intro zv0 zv1 zv2 zv3 zh H locs ls hf
      cases hf
    | succ zn21 ih_21 =>
      have L_32 : ∀ (zn32 : Nat) (zv0 : Nat) (zv1 : Int32) (zv2 : Int32) (zv3 : Int32) (zv4 : Int32) (zv5 : Int32) (zh : PH) (H : Heap) (locs : List Loc) (ls : Array Slot), gi (fun zk zs => f_X5_canBeDoneBy_32 N (gi (fun zk zs => f_X5_canBeDoneBy_21 N zk zs.1 zs.2.1 zs.2.2.1 zs.2.2.2.1 zs.2.2.2.2) zn21) zk zs.1 zs.2.1 zs.2.2.1 zs.2.2.2.1 zs.2.2.2.2.1 zs.2.2.2.2.2.1 zs.2.2.2.2.2.2) zn32 (zv0, zv1, zv2, zv3, zv4, zv5, zh) = some (r9, h9) → gw E s zh H locs → lv_has ls 7 [(0, .ref (gB E + zv0)), (1, .int zv1), (2, .int zv2), (3, .int zv3), (4, .int zv4), (5, .int zv5)] → W p l e rm_X5_canBeDoneBy s m [.ref (gB E + za0), .int za1].toArray below meth c H locs 0 0 (MQ below (gQi E r9 h9) [.ref (gB E + za0), .int za1].toArray s 0 0 (gA E)) (F0 m 32 ls []) := by
        intro zn32
        induction zn32 with
        | zero =>
          intro zv0 zv1 zv2 zv3 zv4 zv5 zh H locs ls hf
          cases hf
        | succ zn32 ih_32 =>
          have J_93 : ∀ (zv0 : Nat) (zv1 : Int32) (zv2 : Int32) (zv3 : Int32) (zv4 : Int32) (zv5 : Int32) (zh : PH) (H : Heap) (locs : List Loc) (ls : Array Slot), f_X5_canBeDoneBy_93 N (gi (fun zk zs => f_X5_canBeDoneBy_21 N zk zs.1 zs.2.1 zs.2.2.1 zs.2.2.2.1 zs.2.2.2.2) zn21) (gi (fun zk zs => f_X5_canBeDoneBy_32 N (gi (fun zk zs => f_X5_canBeDoneBy_21 N zk zs.1 zs.2.1 zs.2.2.1 zs.2.2.2.1 zs.2.2.2.2) zn21) zk zs.1 zs.2.1 zs.2.2.1 zs.2.2.2.1 zs.2.2.2.2.1 zs.2.2.2.2.2.1 zs.2.2.2.2.2.2) zn32) zv0 zv1 zv2 zv3 zv4 zv5 zh = some (r9, h9) → gw E s zh H locs → lv_has ls 7 [(0, .ref (gB E + zv0)), (1, .int zv1), (2, .int zv2), (3, .int zv3), (4, .int zv4), (5, .int zv5)] → W p l e rm_X5_canBeDoneBy s m [.ref (gB E + za0), .int za1].toArray below meth c H locs 0 0 (MQ below (gQi E r9 h9) [.ref (gB E + za0), .int za1].toArray s 0 0 (gA E)) (F0 m 93 ls []) := by
            intro zv0 zv1 zv2 zv3 zv4 zv5 zh H locs ls hf hw hl
            unfold f_X5_canBeDoneBy_93 at hf
            obtain ⟨zx1, ezx1⟩ : ∃ y : Int32, y = zv5 + 1 := ⟨_, rfl⟩
            have hf := gl_el hf ezx1
            refine lv_iinc (v := zx1) (lv' := [(5, .int zx1), (0, .ref (gB E + zv0)), (1, .int zv1), (2, .int zv2), (3, .int zv3), (4, .int zv4)]) hx hb dX5_canBeDoneBy_93 hl (k := 5) rfl (by rw [ezx1]; rfl) (by decide) rfl (fun ls hl => ?_)
            refine lv_goto (tgt := 32) hx hb dX5_canBeDoneBy_96 (by decide) ?_
            exact ih_32 zv0 zv1 zv2 zv3 zv4 zx1 _ _ _ ls hf hw (lv_sub hl [1, 2, 3, 4, 5, 0] rfl)
          have J_91 : ∀ (zv0 : Nat) (zv1 : Int32) (zv2 : Int32) (zv3 : Int32) (zv5 : Int32) (zs0 : Int32) (zh : PH) (H : Heap) (locs : List Loc) (ls : Array Slot), f_X5_canBeDoneBy_91 N (gi (fun zk zs => f_X5_canBeDoneBy_21 N zk zs.1 zs.2.1 zs.2.2.1 zs.2.2.2.1 zs.2.2.2.2) zn21) (gi (fun zk zs => f_X5_canBeDoneBy_32 N (gi (fun zk zs => f_X5_canBeDoneBy_21 N zk zs.1 zs.2.1 zs.2.2.1 zs.2.2.2.1 zs.2.2.2.2) zn21) zk zs.1 zs.2.1 zs.2.2.1 zs.2.2.2.1 zs.2.2.2.2.1 zs.2.2.2.2.2.1 zs.2.2.2.2.2.2) zn32) zv0 zv1 zv2 zv3 zv5 zs0 zh = some (r9, h9) → gw E s zh H locs → lv_has ls 7 [(0, .ref (gB E + zv0)), (1, .int zv1), (2, .int zv2), (3, .int zv3), (5, .int zv5)] → W p l e rm_X5_canBeDoneBy s m [.ref (gB E + za0), .int za1].toArray below meth c H locs 0 0 (MQ below (gQi E r9 h9) [.ref (gB E + za0), .int za1].toArray s 0 0 (gA E)) (F0 m 91 ls [.int zs0]) := by
            intro zv0 zv1 zv2 zv3 zv5 zs0 zh H locs ls hf hw hl
            unfold f_X5_canBeDoneBy_91 at hf
            refine lv_istore (lv' := [(4, .int zs0), (0, .ref (gB E + zv0)), (1, .int zv1), (2, .int zv2), (3, .int zv3), (5, .int zv5)]) hx hb dX5_canBeDoneBy_91 hl (by decide) rfl (fun ls hl => ?_)
            exact J_93 zv0 zv1 zv2 zv3 zs0 zv5 _ _ _ ls hf hw (lv_sub hl [1, 2, 3, 4, 0, 5] rfl)
          intro zv0 zv1 zv2 zv3 zv4 zv5 zh H locs ls hf hw hl
          have hf := gi_s hf
          dsimp only at hf
          unfold f_X5_canBeDoneBy_32 at hf
          refine lv_iload hx hb dX5_canBeDoneBy_32 (lv_at hl 5 rfl) ?_
          refine lv_aload_n hx hb dX5_canBeDoneBy_34 rfl (lv_at hl 0 rfl) ?_
          obtain ⟨zt1, qzt1, hf⟩ := gb_el hf
          refine gx_getR X hw qzt1 clX5 (by decide) mf_X5_21 dX5_canBeDoneBy_35 ?_
          obtain ⟨zt2, qzt2, hf⟩ := gb_el hf
          refine gx_getI X hw qzt2 clX4 (by decide) mf_X5_42 dX5_canBeDoneBy_38 ?_
          refine lv_icmp_ge (tgt := 99) hx hb dX5_canBeDoneBy_41 (by decide) (fun qc3 => ?_) (fun qc3 => ?_)
          · have hf := gif_t hf qc3
            refine lv_aload_n hx hb dX5_canBeDoneBy_99 rfl (lv_at hl 0 rfl) ?_
            obtain ⟨zt4, qzt4, hf⟩ := gb_el hf
            refine gx_getR X hw qzt4 clX5 (by decide) mf_X5_18 dX5_canBeDoneBy_100 ?_
            refine lv_iload_n hx hb dX5_canBeDoneBy_103 rfl (lv_at hl 3 rfl) ?_
            refine lv_iload hx hb dX5_canBeDoneBy_104 (lv_at hl 4 rfl) ?_
            refine W.eq (g2 := F0 m 106 ls [.int zv4, .int zv3, .ref (gB E + zt4)]) rfl ?_
            obtain ⟨zh5, qzh5, hf⟩ := gb_el hf
            refine gx_iast X hw qzh5 dX5_canBeDoneBy_106 (fun H locs hw => ?_)
            obtain ⟨zx6, ezx6⟩ : ∃ y : Int32, y = zv3 + 1 := ⟨_, rfl⟩
            have hf := gl_el hf ezx6
            refine lv_iinc (v := zx6) (lv' := [(3, .int zx6), (0, .ref (gB E + zv0)), (1, .int zv1), (2, .int zv2), (4, .int zv4), (5, .int zv5)]) hx hb dX5_canBeDoneBy_107 hl (k := 3) rfl (by rw [ezx6]; rfl) (by decide) rfl (fun ls hl => ?_)
            refine lv_goto (tgt := 21) hx hb dX5_canBeDoneBy_110 (by decide) ?_
            exact ih_21 zv0 zv1 zv2 zx6 _ _ _ ls hf hw (lv_sub hl [1, 2, 3, 0] rfl)
          · have hf := gif_f hf qc3
            refine lv_iload_n hx hb dX5_canBeDoneBy_44 rfl (lv_at hl 3 rfl) ?_
            refine lv_iload hx hb dX5_canBeDoneBy_45 (lv_at hl 5 rfl) ?_
            obtain ⟨zt8, zh7, qzh7, hf⟩ := gc_el hf
            refine gx_ki (gx_runSN (As := [.int zv3, .int zv5]) (rest := []) X hw (c_X11_bitOf l E N zv3 zv5 zh qzh7) kX11_bitOf mn_X5_64 ⟨Nat.le_of_ble_eq_true rfl, Nat.le_of_ble_eq_true rfl⟩ rfl rfl rfl hl.1 (Nat.le_of_ble_eq_true rfl) rfl dX5_canBeDoneBy_47 ⟨Nat.le_of_ble_eq_true rfl, Nat.le_of_ble_eq_true rfl⟩) hw (fun H locs hw => ?_)
            refine lv_iconst (v := 1) hx hb dX5_canBeDoneBy_50 (by decide) ?_
            refine W.eq (g2 := F0 m 51 ls [.int 1, .int zt8]) rfl ?_
            refine lv_icmp_ne (tgt := 93) hx hb dX5_canBeDoneBy_51 (by decide) (fun qc9 => ?_) (fun qc9 => ?_)
            · have hf := gif_f hf qc9
              exact J_93 zv0 zv1 zv2 zv3 zv4 zv5 _ _ _ ls hf hw (lv_sub hl [0, 1, 2, 3, 4, 5] rfl)
            · have hf := gif_t hf qc9
              refine lv_aload_n hx hb dX5_canBeDoneBy_54 rfl (lv_at hl 0 rfl) ?_
              refine lv_iload hx hb dX5_canBeDoneBy_55 (lv_at hl 5 rfl) ?_
              refine lv_iload_n hx hb dX5_canBeDoneBy_57 rfl (lv_at hl 3 rfl) ?_
              refine lv_iload_n hx hb dX5_canBeDoneBy_58 rfl (lv_at hl 1 rfl) ?_
              obtain ⟨qizh10, hf⟩ := gg_el hf
              obtain ⟨zt11, zh10, qzh10, hf⟩ := gc_el hf
              refine gx_ki (gx_runV (As := [.int zv5, .int zv3, .int zv1]) (rest := []) X hw (c_X5_latestStart l E N zv0 zv5 zv3 zv1 zh7 qzh10) kX5_latestStart mm_X5_67 qizh10 clX5 ⟨Nat.le_of_ble_eq_true rfl, Nat.le_of_ble_eq_true rfl⟩ rfl rfl rfl hl.1 (Nat.le_of_ble_eq_true rfl) rfl dX5_canBeDoneBy_59 ⟨Nat.le_of_ble_eq_true rfl, Nat.le_of_ble_eq_true rfl⟩) hw (fun H locs hw => ?_)
              refine lv_istore (lv' := [(6, .int zt11), (0, .ref (gB E + zv0)), (1, .int zv1), (2, .int zv2), (3, .int zv3), (4, .int zv4), (5, .int zv5)]) hx hb dX5_canBeDoneBy_62 hl (by decide) rfl (fun ls hl => ?_)
              refine lv_iload hx hb dX5_canBeDoneBy_64 (lv_at hl 0 rfl) ?_
              refine lv_aload_n hx hb dX5_canBeDoneBy_66 rfl (lv_at hl 1 rfl) ?_
              obtain ⟨zt12, qzt12, hf⟩ := gb_el hf
              refine gx_getR X hw qzt12 clX5 (by decide) mf_X5_21 dX5_canBeDoneBy_67 ?_
              refine W.eq (g2 := F0 m 70 ls [.ref (gB E + zt12), .int zt11]) rfl ?_
              obtain ⟨zt13, qzt13, hf⟩ := gb_el hf
              refine gx_getR X hw qzt13 clX4 (by decide) mf_X5_45 dX5_canBeDoneBy_70 ?_
              refine lv_iload hx hb dX5_canBeDoneBy_73 (lv_at hl 6 rfl) ?_
              obtain ⟨zt14, qzt14, hf⟩ := gb_el hf
              refine gx_iald X hw qzt14 dX5_canBeDoneBy_75 ?_
              refine lv_icmp_lt (tgt := 89) hx hb dX5_canBeDoneBy_76 (by decide) (fun qc15 => ?_) (fun qc15 => ?_)
              · have hf := gif_t hf qc15
                refine lv_iload hx hb dX5_canBeDoneBy_89 (lv_at hl 5 rfl) ?_
                exact J_91 zv0 zv1 zv2 zv3 zv5 zv4 _ _ _ ls hf hw (lv_sub hl [1, 2, 3, 4, 6] rfl)
              · have hf := gif_f hf qc15
                refine lv_iload hx hb dX5_canBeDoneBy_79 (lv_at hl 5 rfl) ?_
                refine lv_iload hx hb dX5_canBeDoneBy_81 (lv_at hl 0 rfl) ?_
                refine gx_max X mm_X5_52 mt_max mI_java_lang_Math mx_max hl.1 (Nat.le_of_ble_eq_true rfl) (Nat.le_of_ble_eq_true rfl) (Nat.le_of_ble_eq_true rfl) (Nat.le_of_ble_eq_true rfl) dX5_canBeDoneBy_83 ?_
                refine lv_goto (tgt := 91) hx hb dX5_canBeDoneBy_86 (by decide) ?_
                exact J_91 zv0 zv1 zv2 zv3 zv5 (gmax zv4 zt11) _ _ _ ls hf hw (lv_sub hl [1, 2, 3, 4, 6] rfl)
      intro zv0 zv1 zv2 zv3 zh H locs ls hf hw hl
      have hf := gi_s hf
      dsimp only at hf
      unfold f_X5_canBeDoneBy_21 at hf
      refine lv_iload_n hx hb dX5_canBeDoneBy_21 rfl (lv_at hl 3 rfl) ?_
      refine lv_iload_n hx hb dX5_canBeDoneBy_22 rfl (lv_at hl 2 rfl) ?_
      refine lv_icmp_gt (tgt := 113) hx hb dX5_canBeDoneBy_23 (by decide) (fun qc1 => ?_) (fun qc1 => ?_)
      · have hf := gif_t hf qc1
        refine lv_aload_n hx hb dX5_canBeDoneBy_113 rfl (lv_at hl 0 rfl) ?_
        obtain ⟨zt2, qzt2, hf⟩ := gb_el hf
        refine gx_getR X hw qzt2 clX5 (by decide) mf_X5_18 dX5_canBeDoneBy_114 ?_
        refine lv_iload_n hx hb dX5_canBeDoneBy_117 rfl (lv_at hl 2 rfl) ?_
        obtain ⟨zt3, qzt3, hf⟩ := gb_el hf
        refine gx_iald X hw qzt3 dX5_canBeDoneBy_118 ?_
        refine lv_iconst (v := (-1)) hx hb dX5_canBeDoneBy_119 (by decide) ?_
        refine lv_icmp_eq (tgt := 127) hx hb dX5_canBeDoneBy_120 (by decide) (fun qc4 => ?_) (fun qc4 => ?_)
        · have hf := gif_t hf qc4
          refine W.eq (g2 := F0 m 127 ls []) rfl ?_
          refine lv_iconst (v := 0) hx hb dX5_canBeDoneBy_127 (by decide) ?_
          exact J_128 0 _ _ _ ls hf hw (lv_sub hl [] rfl)
        · have hf := gif_f hf qc4
          refine W.eq (g2 := F0 m 123 ls []) rfl ?_
          refine lv_iconst (v := 1) hx hb dX5_canBeDoneBy_123 (by decide) ?_
          refine lv_goto (tgt := 128) hx hb dX5_canBeDoneBy_124 (by decide) ?_
          exact J_128 1 _ _ _ ls hf hw (lv_sub hl [] rfl)
      · have hf := gif_f hf qc1
        refine lv_iconst (v := (-1)) hx hb dX5_canBeDoneBy_26 (by decide) ?_
        refine lv_istore (lv' := [(4, .int (-1)), (0, .ref (gB E + zv0)), (1, .int zv1), (2, .int zv2), (3, .int zv3)]) hx hb dX5_canBeDoneBy_27 hl (by decide) rfl (fun ls hl => ?_)
        refine lv_iconst (v := 0) hx hb dX5_canBeDoneBy_29 (by decide) ?_
        refine lv_istore (lv' := [(5, .int 0), (4, .int (-1)), (0, .ref (gB E + zv0)), (1, .int zv1), (2, .int zv2), (3, .int zv3)]) hx hb dX5_canBeDoneBy_30 hl (by decide) rfl (fun ls hl => ?_)
        exact L_32 N zv0 zv1 zv2 zv3 (-1) 0 _ _ _ ls hf hw (lv_sub hl [2, 3, 4, 5, 1, 0] rfl)
  unfold f_X5_canBeDoneBy at hf
  refine lv_aload_n hx hb dX5_canBeDoneBy_0 rfl (lv_at hl 0 rfl) ?_
  obtain ⟨zt1, qzt1, hf⟩ := gb_el hf
  refine gx_getR X hw qzt1 clX5 (by decide) mf_X5_18 dX5_canBeDoneBy_1 ?_
  refine lv_iconst (v := 0) hx hb dX5_canBeDoneBy_4 (by decide) ?_
  refine lv_iload_n hx hb dX5_canBeDoneBy_5 rfl (lv_at hl 1 rfl) ?_
  obtain ⟨zh2, qzh2, hf⟩ := gb_el hf
  refine gx_iast X hw qzh2 dX5_canBeDoneBy_6 (fun H locs hw => ?_)
  refine lv_iconst (v := 1) hx hb dX5_canBeDoneBy_7 (by decide) ?_
  refine lv_aload_n hx hb dX5_canBeDoneBy_8 rfl (lv_at hl 0 rfl) ?_
  obtain ⟨zt3, qzt3, hf⟩ := gb_el hf
  refine gx_getR X hw qzt3 clX5 (by decide) mf_X5_21 dX5_canBeDoneBy_9 ?_
  obtain ⟨zt4, qzt4, hf⟩ := gb_el hf
  refine gx_getI X hw qzt4 clX4 (by decide) mf_X5_42 dX5_canBeDoneBy_12 ?_
  refine W.eq (g2 := F0 m 15 ls [.int zt4, .int 1]) rfl ?_
  refine lv_ishl hx hb dX5_canBeDoneBy_15 ?_
  refine lv_iconst (v := 1) hx hb dX5_canBeDoneBy_16 (by decide) ?_
  refine lv_isub hx hb dX5_canBeDoneBy_17 ?_
  refine lv_topi (fun zx5 ezx5 => ?_)
  have hf := gl_el hf ezx5
  refine lv_istore_n (lv' := [(2, .int zx5), (0, .ref (gB E + za0)), (1, .int za1)]) hx hb dX5_canBeDoneBy_18 rfl hl (by decide) rfl (fun ls hl => ?_)
  refine lv_iconst (v := 1) hx hb dX5_canBeDoneBy_19 (by decide) ?_
  refine lv_istore_n (lv' := [(3, .int 1), (2, .int zx5), (0, .ref (gB E + za0)), (1, .int za1)]) hx hb dX5_canBeDoneBy_20 rfl hl (by decide) rfl (fun ls hl => ?_)
  exact L_21 N za0 za1 zx5 1 _ _ _ ls hf hw (lv_sub hl [2, 3, 1, 0] rfl)
