abbrev rm_X7_push : Room := { frames := 0, cells := 0, slots := 0, locals := 0 }
set_option maxHeartbeats 4000000 in
set_option maxRecDepth 100000 in
theorem c_X7_push (l : Launch) (E : gE) (N : Nat) (za0 : Nat) (za1 : Int32) (zh : PH) {h9 : PH} (hf : f_X7_push N za0 za1 zh = some h9) : Met l yX7_push (gWS yX7_push cX7_push 2 none) rm_X7_push (gPc E [.ref (gB E + za0), .int za1] zh) (gQv E h9) 0 0 (gA E) := by
  refine gx_met (by decide) ?_ rfl
  intro p e s m below meth c X hr hlk hin2 hw
  have hx := X.1.1
  have hb := X.1.2.1
  have hl := lv_entry [.ref (gB E + za0), .int za1] (n := 2) (Nat.le_of_ble_eq_true rfl)
  rw [lg_entry_eq]
  generalize (lg_sl [.ref (gB E + za0), .int za1] ++ List.replicate (2 - (lg_sl [.ref (gB E + za0), .int za1]).length) Slot.unset).toArray = ls at hl ⊢
  have hl : lv_has ls 2 [(0, .ref (gB E + za0)), (1, .int za1)] := hl
  have J_29 : ∀ (zh : PH) (H : Heap) (locs : List Loc) (ls : Array Slot), f_X7_push_29 N zh = some h9 → gw E s zh H locs → lv_has ls 2 [] → W p l e rm_X7_push s m [.ref (gB E + za0), .int za1].toArray below meth c H locs 0 0 (MQ below (gQv E h9) [.ref (gB E + za0), .int za1].toArray s 0 0 (gA E)) (F0 m 29 ls []) := by
    intro zh H locs ls hf hw hl
    unfold f_X7_push_29 at hf
    exact gx_vret X hr hlk hw hf dX7_push_29
  unfold f_X7_push at hf
  refine lv_aload_n hx hb dX7_push_0 rfl (lv_at hl 0 rfl) ?_
  obtain ⟨zt1, qzt1, hf⟩ := gb_el hf
  refine gx_getI X hw qzt1 clX7 (by decide) mf_X7_52 dX7_push_1 ?_
  refine lv_bipush (v := 32) hx hb dX7_push_4 (by decide) ?_
  refine lv_icmp_ge (tgt := 29) hx hb dX7_push_6 (by decide) (fun qc2 => ?_) (fun qc2 => ?_)
  · have hf := gif_t hf qc2
    exact J_29  _ _ _ ls hf hw (lv_sub hl [] rfl)
  · have hf := gif_f hf qc2
    refine lv_aload_n hx hb dX7_push_9 rfl (lv_at hl 0 rfl) ?_
    obtain ⟨zt3, qzt3, hf⟩ := gb_el hf
    refine gx_getR X hw qzt3 clX7 (by decide) mf_X7_9 dX7_push_10 ?_
    refine lv_aload_n hx hb dX7_push_13 rfl (lv_at hl 0 rfl) ?_
    obtain ⟨zt4, qzt4, hf⟩ := gb_el hf
    refine gx_getI X hw qzt4 clX7 (by decide) mf_X7_52 dX7_push_14 ?_
    refine lv_iload_n hx hb dX7_push_17 rfl (lv_at hl 1 rfl) ?_
    refine W.eq (g2 := F0 m 18 ls [.int za1, .int zt4, .ref (gB E + zt3)]) rfl ?_
    obtain ⟨zh5, qzh5, hf⟩ := gb_el hf
    refine gx_iast X hw qzh5 dX7_push_18 (fun H locs hw => ?_)
    refine lv_aload_n hx hb dX7_push_19 rfl (lv_at hl 0 rfl) ?_
    refine lv_dup hx hb dX7_push_20 rfl ?_
    obtain ⟨zt6, qzt6, hf⟩ := gb_el hf
    refine gx_getI X hw qzt6 clX7 (by decide) mf_X7_52 dX7_push_21 ?_
    refine lv_iconst (v := 1) hx hb dX7_push_24 (by decide) ?_
    refine lv_iadd hx hb dX7_push_25 ?_
    obtain ⟨zh7, qzh7, hf⟩ := gb_el hf
    refine gx_putV X hw qzh7 clX7 (by decide) mf_X7_52 rfl rfl rfl dX7_push_26 (fun H locs hw => ?_)
    exact J_29  _ _ _ ls hf hw (lv_sub hl [] rfl)
abbrev rm_X7_take : Room := { frames := 2, cells := 0, slots := 0, locals := 42 }
set_option maxHeartbeats 4000000 in
set_option maxRecDepth 100000 in
theorem c_X7_take (l : Launch) (E : gE) (N : Nat) (za0 : Nat) (za1 : Int32) (zh : PH) {h9 : PH} (hf : f_X7_take N za0 za1 zh = some h9) : Met l yX7_take (gWS yX7_take cX7_take 4 none) rm_X7_take (gPc E [.ref (gB E + za0), .int za1] zh) (gQv E h9) 0 0 (gA E) := by
  refine gx_met (by decide) ?_ rfl
  intro p e s m below meth c X hr hlk hin2 hw
  have hx := X.1.1
  have hb := X.1.2.1
  have hl := lv_entry [.ref (gB E + za0), .int za1] (n := 4) (Nat.le_of_ble_eq_true rfl)
  rw [lg_entry_eq]
  generalize (lg_sl [.ref (gB E + za0), .int za1] ++ List.replicate (4 - (lg_sl [.ref (gB E + za0), .int za1]).length) Slot.unset).toArray = ls at hl ⊢
  have hl : lv_has ls 4 [(0, .ref (gB E + za0)), (1, .int za1)] := hl
  have J_88 : ∀ (zh : PH) (H : Heap) (locs : List Loc) (ls : Array Slot), f_X7_take_88 N zh = some h9 → gw E s zh H locs → lv_has ls 4 [] → W p l e rm_X7_take s m [.ref (gB E + za0), .int za1].toArray below meth c H locs 0 0 (MQ below (gQv E h9) [.ref (gB E + za0), .int za1].toArray s 0 0 (gA E)) (F0 m 88 ls []) := by
    intro zh H locs ls hf hw hl
    unfold f_X7_take_88 at hf
    exact gx_vret X hr hlk hw hf dX7_take_88
  have J_59 : ∀ (zs0 : Int32) (zs1 : Nat) (zh : PH) (H : Heap) (locs : List Loc) (ls : Array Slot), f_X7_take_59 N zs0 zs1 zh = some h9 → gw E s zh H locs → lv_has ls 4 [] → W p l e rm_X7_take s m [.ref (gB E + za0), .int za1].toArray below meth c H locs 0 0 (MQ below (gQv E h9) [.ref (gB E + za0), .int za1].toArray s 0 0 (gA E)) (F0 m 59 ls [.int zs0, .ref (gB E + zs1)]) := by
    intro zs0 zs1 zh H locs ls hf hw hl
    unfold f_X7_take_59 at hf
    obtain ⟨zt2, zh1, qzh1, hf⟩ := gc_el hf
    refine gx_ki (gx_runS (As := [.int zs0]) (rest := [.ref (gB E + zs1)]) X hw (c_X7_oneIf l E N zs0 zh qzh1) kX7_oneIf mm_X7_72 ⟨Nat.le_of_ble_eq_true rfl, Nat.le_of_ble_eq_true rfl⟩ rfl rfl rfl hl.1 (Nat.le_of_ble_eq_true rfl) rfl dX7_take_59 ⟨Nat.le_of_ble_eq_true rfl, Nat.le_of_ble_eq_true rfl⟩) hw (fun H locs hw => ?_)
    obtain ⟨qizh3, hf⟩ := gg_el hf
    obtain ⟨zh3, qzh3, hf⟩ := gb_el hf
    refine gx_kv (gx_runV (As := [.int zt2]) (rest := []) X hw (c_X7_push l E N zs1 zt2 zh1 qzh3) kX7_push mm_X7_69 qizh3 clX7 ⟨Nat.le_of_ble_eq_true rfl, Nat.le_of_ble_eq_true rfl⟩ rfl rfl rfl hl.1 (Nat.le_of_ble_eq_true rfl) rfl dX7_take_62 ⟨Nat.le_of_ble_eq_true rfl, Nat.le_of_ble_eq_true rfl⟩) hw (fun H locs hw => ?_)
    refine lv_goto (tgt := 88) hx hb dX7_take_65 (by decide) ?_
    exact J_88  _ _ _ ls hf hw (lv_sub hl [] rfl)
  unfold f_X7_take at hf
  refine lv_iload_n hx hb dX7_take_0 rfl (lv_at hl 1 rfl) ?_
  refine lv_sipush (v := 10000) hx hb dX7_take_1 (by decide) ?_
  refine lv_icmp_ge (tgt := 15) hx hb dX7_take_4 (by decide) (fun qc1 => ?_) (fun qc1 => ?_)
  · have hf := gif_t hf qc1
    refine lv_iload_n hx hb dX7_take_15 rfl (lv_at hl 1 rfl) ?_
    refine lv_sipush (v := 10008) hx hb dX7_take_16 (by decide) ?_
    refine lv_icmp_ge (tgt := 39) hx hb dX7_take_19 (by decide) (fun qc2 => ?_) (fun qc2 => ?_)
    · have hf := gif_t hf qc2
      refine lv_iload_n hx hb dX7_take_39 rfl (lv_at hl 1 rfl) ?_
      refine lv_sipush (v := 10008) hx hb dX7_take_40 (by decide) ?_
      refine lv_icmp_ne (tgt := 68) hx hb dX7_take_43 (by decide) (fun qc3 => ?_) (fun qc3 => ?_)
      · have hf := gif_f hf qc3
        refine W.eq (g2 := F0 m 68 ls []) rfl ?_
        refine lv_aload_n hx hb dX7_take_68 rfl (lv_at hl 0 rfl) ?_
        obtain ⟨qizh4, hf⟩ := gg_el hf
        obtain ⟨zt5, zh4, qzh4, hf⟩ := gc_el hf
        refine gx_ki (gx_runV (As := []) (rest := []) X hw (c_X7_pop l E N za0 zh qzh4) kX7_pop mm_X7_65 qizh4 clX7 ⟨Nat.le_of_ble_eq_true rfl, Nat.le_of_ble_eq_true rfl⟩ rfl rfl rfl hl.1 (Nat.le_of_ble_eq_true rfl) rfl dX7_take_69 ⟨Nat.le_of_ble_eq_true rfl, Nat.le_of_ble_eq_true rfl⟩) hw (fun H locs hw => ?_)
        refine lv_istore_n (lv' := [(2, .int zt5), (0, .ref (gB E + za0)), (1, .int za1)]) hx hb dX7_take_72 rfl hl (by decide) rfl (fun ls hl => ?_)
        refine lv_aload_n hx hb dX7_take_73 rfl (lv_at hl 1 rfl) ?_
        obtain ⟨qizh6, hf⟩ := gg_el hf
        obtain ⟨zt7, zh6, qzh6, hf⟩ := gc_el hf
        refine gx_ki (gx_runV (As := []) (rest := []) X hw (c_X7_pop l E N za0 zh4 qzh6) kX7_pop mm_X7_65 qizh6 clX7 ⟨Nat.le_of_ble_eq_true rfl, Nat.le_of_ble_eq_true rfl⟩ rfl rfl rfl hl.1 (Nat.le_of_ble_eq_true rfl) rfl dX7_take_74 ⟨Nat.le_of_ble_eq_true rfl, Nat.le_of_ble_eq_true rfl⟩) hw (fun H locs hw => ?_)
        refine lv_istore_n (lv' := [(3, .int zt7), (2, .int zt5), (0, .ref (gB E + za0)), (1, .int za1)]) hx hb dX7_take_77 rfl hl (by decide) rfl (fun ls hl => ?_)
        refine lv_aload_n hx hb dX7_take_78 rfl (lv_at hl 2 rfl) ?_
        refine lv_iload_n hx hb dX7_take_79 rfl (lv_at hl 3 rfl) ?_
        refine lv_iload_n hx hb dX7_take_80 rfl (lv_at hl 0 rfl) ?_
        refine lv_iload_n hx hb dX7_take_81 rfl (lv_at hl 1 rfl) ?_
        refine W.eq (g2 := F0 m 82 ls [.int zt5, .int zt7, .int za1, .ref (gB E + za0)]) rfl ?_
        obtain ⟨zt9, zh8, qzh8, hf⟩ := gc_el hf
        refine gx_ki (gx_runS (As := [.int za1, .int zt7, .int zt5]) (rest := [.ref (gB E + za0)]) X hw (c_X7_joined l E N za1 zt7 zt5 zh6 qzh8) kX7_joined mm_X7_76 ⟨Nat.le_of_ble_eq_true rfl, Nat.le_of_ble_eq_true rfl⟩ rfl rfl rfl hl.1 (Nat.le_of_ble_eq_true rfl) rfl dX7_take_82 ⟨Nat.le_of_ble_eq_true rfl, Nat.le_of_ble_eq_true rfl⟩) hw (fun H locs hw => ?_)
        obtain ⟨qizh10, hf⟩ := gg_el hf
        obtain ⟨zh10, qzh10, hf⟩ := gb_el hf
        refine gx_kv (gx_runV (As := [.int zt9]) (rest := []) X hw (c_X7_push l E N za0 zt9 zh8 qzh10) kX7_push mm_X7_69 qizh10 clX7 ⟨Nat.le_of_ble_eq_true rfl, Nat.le_of_ble_eq_true rfl⟩ rfl rfl rfl hl.1 (Nat.le_of_ble_eq_true rfl) rfl dX7_take_85 ⟨Nat.le_of_ble_eq_true rfl, Nat.le_of_ble_eq_true rfl⟩) hw (fun H locs hw => ?_)
        exact J_88  _ _ _ ls hf hw (lv_sub hl [] rfl)
      · have hf := gif_t hf qc3
        refine W.eq (g2 := F0 m 46 ls []) rfl ?_
        refine lv_aload_n hx hb dX7_take_46 rfl (lv_at hl 0 rfl) ?_
        refine lv_aload_n hx hb dX7_take_47 rfl (lv_at hl 0 rfl) ?_
        obtain ⟨qizh11, hf⟩ := gg_el hf
        obtain ⟨zt12, zh11, qzh11, hf⟩ := gc_el hf
        refine gx_ki (gx_runV (As := []) (rest := [.ref (gB E + za0)]) X hw (c_X7_pop l E N za0 zh qzh11) kX7_pop mm_X7_65 qizh11 clX7 ⟨Nat.le_of_ble_eq_true rfl, Nat.le_of_ble_eq_true rfl⟩ rfl rfl rfl hl.1 (Nat.le_of_ble_eq_true rfl) rfl dX7_take_48 ⟨Nat.le_of_ble_eq_true rfl, Nat.le_of_ble_eq_true rfl⟩) hw (fun H locs hw => ?_)
        refine lv_if_ne (tgt := 58) hx hb dX7_take_51 (by decide) (fun qc13 => ?_) (fun qc13 => ?_)
        · have hf := gif_f hf qc13
          refine lv_iconst (v := 0) hx hb dX7_take_58 (by decide) ?_
          exact J_59 0 za0 _ _ _ ls hf hw (lv_sub hl [] rfl)
        · have hf := gif_t hf qc13
          refine lv_iconst (v := 1) hx hb dX7_take_54 (by decide) ?_
          refine lv_goto (tgt := 59) hx hb dX7_take_55 (by decide) ?_
          exact J_59 1 za0 _ _ _ ls hf hw (lv_sub hl [] rfl)
    · have hf := gif_f hf qc2
      refine lv_aload_n hx hb dX7_take_22 rfl (lv_at hl 0 rfl) ?_
      refine lv_aload_n hx hb dX7_take_23 rfl (lv_at hl 0 rfl) ?_
      obtain ⟨zt14, qzt14, hf⟩ := gb_el hf
      refine gx_getR X hw qzt14 clX7 (by decide) mf_X7_15 dX7_take_24 ?_
      refine W.eq (g2 := F0 m 27 ls [.ref (gB E + zt14), .ref (gB E + za0)]) rfl ?_
      refine lv_iload_n hx hb dX7_take_27 rfl (lv_at hl 1 rfl) ?_
      refine lv_sipush (v := 10000) hx hb dX7_take_28 (by decide) ?_
      refine lv_isub hx hb dX7_take_31 ?_
      obtain ⟨zt15, qzt15, hf⟩ := gb_el hf
      refine gx_iald X hw qzt15 dX7_take_32 ?_
      obtain ⟨qizh16, hf⟩ := gg_el hf
      obtain ⟨zh16, qzh16, hf⟩ := gb_el hf
      refine gx_kv (gx_runV (As := [.int zt15]) (rest := []) X hw (c_X7_push l E N za0 zt15 zh qzh16) kX7_push mm_X7_69 qizh16 clX7 ⟨Nat.le_of_ble_eq_true rfl, Nat.le_of_ble_eq_true rfl⟩ rfl rfl rfl hl.1 (Nat.le_of_ble_eq_true rfl) rfl dX7_take_33 ⟨Nat.le_of_ble_eq_true rfl, Nat.le_of_ble_eq_true rfl⟩) hw (fun H locs hw => ?_)
      refine lv_goto (tgt := 88) hx hb dX7_take_36 (by decide) ?_
      exact J_88  _ _ _ ls hf hw (lv_sub hl [] rfl)
  · have hf := gif_f hf qc1
    refine lv_aload_n hx hb dX7_take_7 rfl (lv_at hl 0 rfl) ?_
    refine lv_iload_n hx hb dX7_take_8 rfl (lv_at hl 1 rfl) ?_
    obtain ⟨qizh17, hf⟩ := gg_el hf
    obtain ⟨zh17, qzh17, hf⟩ := gb_el hf
    refine gx_kv (gx_runV (As := [.int za1]) (rest := []) X hw (c_X7_push l E N za0 za1 zh qzh17) kX7_push mm_X7_69 qizh17 clX7 ⟨Nat.le_of_ble_eq_true rfl, Nat.le_of_ble_eq_true rfl⟩ rfl rfl rfl hl.1 (Nat.le_of_ble_eq_true rfl) rfl dX7_take_9 ⟨Nat.le_of_ble_eq_true rfl, Nat.le_of_ble_eq_true rfl⟩) hw (fun H locs hw => ?_)
    refine lv_goto (tgt := 88) hx hb dX7_take_12 (by decide) ?_
    exact J_88  _ _ _ ls hf hw (lv_sub hl [] rfl)
abbrev rm_X7_value : Room := { frames := 3, cells := 0, slots := 0, locals := 65 }
set_option maxHeartbeats 4000000 in
set_option maxRecDepth 100000 in
theorem c_X7_value (l : Launch) (E : gE) (N : Nat) (za0 : Nat) (za1 : Nat) (za2 : Int32) (za3 : Nat) (za4 : Int32) (za5 : Int32) (zh : PH) {h9 : PH} {r9 : Int32} (hf : f_X7_value N za0 za1 za2 za3 za4 za5 zh = some (r9, h9)) : Met l yX7_value (gWS yX7_value cX7_value 8 (some .int)) rm_X7_value (gPc E [.ref (gB E + za0), .ref (gB E + za1), .int za2, .ref (gB E + za3), .int za4, .int za5] zh) (gQi E r9 h9) 0 0 (gA E) := by
  refine gx_met (by decide) ?_ rfl
  intro p e s m below meth c X hr hlk hin2 hw
  have hx := X.1.1
  have hb := X.1.2.1
  have hl := lv_entry [.ref (gB E + za0), .ref (gB E + za1), .int za2, .ref (gB E + za3), .int za4, .int za5] (n := 8) (Nat.le_of_ble_eq_true rfl)
  rw [lg_entry_eq]
  generalize (lg_sl [.ref (gB E + za0), .ref (gB E + za1), .int za2, .ref (gB E + za3), .int za4, .int za5] ++ List.replicate (8 - (lg_sl [.ref (gB E + za0), .ref (gB E + za1), .int za2, .ref (gB E + za3), .int za4, .int za5]).length) Slot.unset).toArray = ls at hl ⊢
  have hl : lv_has ls 8 [(0, .ref (gB E + za0)), (1, .ref (gB E + za1)), (2, .int za2), (3, .ref (gB E + za3)), (4, .int za4), (5, .int za5)] := hl
  have L_129 : ∀ (zn129 : Nat) (zv0 : Nat) (zv1 : Nat) (zv2 : Int32) (zv7 : Int32) (zh : PH) (H : Heap) (locs : List Loc) (ls : Array Slot), gi (fun zk zs => f_X7_value_129 N zk zs.1 zs.2.1 zs.2.2.1 zs.2.2.2.1 zs.2.2.2.2) zn129 (zv0, zv1, zv2, zv7, zh) = some (r9, h9) → gw E s zh H locs → lv_has ls 8 [(0, .ref (gB E + zv0)), (1, .ref (gB E + zv1)), (2, .int zv2), (7, .int zv7)] → W p l e rm_X7_value s m [.ref (gB E + za0), .ref (gB E + za1), .int za2, .ref (gB E + za3), .int za4, .int za5].toArray below meth c H locs 0 0 (MQ below (gQi E r9 h9) [.ref (gB E + za0), .ref (gB E + za1), .int za2, .ref (gB E + za3), .int za4, .int za5].toArray s 0 0 (gA E)) (F0 m 129 ls []) := by
    intro zn129
    induction zn129 with
    | zero =>
      intro zv0 zv1 zv2 zv7 zh H locs ls hf
      cases hf
    | succ zn129 ih_129 =>
      intro zv0 zv1 zv2 zv7 zh H locs ls hf hw hl
      have hf := gi_s hf
      dsimp only at hf
      unfold f_X7_value_129 at hf
      refine lv_iload hx hb dX7_value_129 (lv_at hl 3 rfl) ?_
      refine lv_aload_n hx hb dX7_value_131 rfl (lv_at hl 1 rfl) ?_
      obtain ⟨zt1, qzt1, hf⟩ := gb_el hf
      refine gx_getR X hw qzt1 clX2 (by decide) mf_X7_55 dX7_value_132 ?_
      refine lv_iload_n hx hb dX7_value_135 rfl (lv_at hl 2 rfl) ?_
      refine lv_iconst (v := 1) hx hb dX7_value_136 (by decide) ?_
      refine lv_iadd hx hb dX7_value_137 ?_
      obtain ⟨zt2, qzt2, hf⟩ := gb_el hf
      refine gx_iald X hw qzt2 dX7_value_138 ?_
      refine lv_icmp_ge (tgt := 159) hx hb dX7_value_139 (by decide) (fun qc3 => ?_) (fun qc3 => ?_)
      · have hf := gif_t hf qc3
        refine lv_aload_n hx hb dX7_value_159 rfl (lv_at hl 0 rfl) ?_
        refine W.eq (g2 := F0 m 160 ls [.ref (gB E + zv0)]) rfl ?_
        obtain ⟨qizh4, hf⟩ := gg_el hf
        obtain ⟨zt5, zh4, qzh4, hf⟩ := gc_el hf
        refine gx_ki (gx_runV (As := []) (rest := []) X hw (c_X7_pop l E N zv0 zh qzh4) kX7_pop mm_X7_65 qizh4 clX7 ⟨Nat.le_of_ble_eq_true rfl, Nat.le_of_ble_eq_true rfl⟩ rfl rfl rfl hl.1 (Nat.le_of_ble_eq_true rfl) rfl dX7_value_160 ⟨Nat.le_of_ble_eq_true rfl, Nat.le_of_ble_eq_true rfl⟩) hw (fun H locs hw => ?_)
        exact gx_iret X hr hlk hw hf dX7_value_163
      · have hf := gif_f hf qc3
        refine lv_aload_n hx hb dX7_value_142 rfl (lv_at hl 0 rfl) ?_
        refine W.eq (g2 := F0 m 143 ls [.ref (gB E + zv0)]) rfl ?_
        refine lv_aload_n hx hb dX7_value_143 rfl (lv_at hl 1 rfl) ?_
        obtain ⟨zt6, qzt6, hf⟩ := gb_el hf
        refine gx_getR X hw qzt6 clX2 (by decide) mf_X7_58 dX7_value_144 ?_
        refine lv_iload hx hb dX7_value_147 (lv_at hl 3 rfl) ?_
        obtain ⟨zt7, qzt7, hf⟩ := gb_el hf
        refine gx_iald X hw qzt7 dX7_value_149 ?_
        obtain ⟨qizh8, hf⟩ := gg_el hf
        obtain ⟨zh8, qzh8, hf⟩ := gb_el hf
        refine gx_kv (gx_runV (As := [.int zt7]) (rest := []) X hw (c_X7_take l E N zv0 zt7 zh qzh8) kX7_take mm_X7_61 qizh8 clX7 ⟨Nat.le_of_ble_eq_true rfl, Nat.le_of_ble_eq_true rfl⟩ rfl rfl rfl hl.1 (Nat.le_of_ble_eq_true rfl) rfl dX7_value_150 ⟨Nat.le_of_ble_eq_true rfl, Nat.le_of_ble_eq_true rfl⟩) hw (fun H locs hw => ?_)
        obtain ⟨zx9, ezx9⟩ : ∃ y : Int32, y = zv7 + 1 := ⟨_, rfl⟩
        have hf := gl_el hf ezx9
        refine lv_iinc (v := zx9) (lv' := [(7, .int zx9), (0, .ref (gB E + zv0)), (1, .ref (gB E + zv1)), (2, .int zv2)]) hx hb dX7_value_153 hl (k := 3) rfl (by rw [ezx9]; rfl) (by decide) rfl (fun ls hl => ?_)
        refine lv_goto (tgt := 129) hx hb dX7_value_156 (by decide) ?_
        exact ih_129 zv0 zv1 zv2 zx9 _ _ _ ls hf hw (lv_sub hl [1, 2, 3, 0] rfl)
  unfold f_X7_value at hf
  refine lv_aload_n hx hb dX7_value_0 rfl (lv_at hl 3 rfl) ?_
  obtain ⟨zt1, qzt1, hf⟩ := gb_el hf
  refine gx_getR X hw qzt1 clX1 (by decide) mf_X7_18 dX7_value_1 ?_
  refine lv_iload hx hb dX7_value_4 (lv_at hl 4 rfl) ?_
  obtain ⟨zt2, qzt2, hf⟩ := gb_el hf
  refine gx_iald X hw qzt2 dX7_value_6 ?_
  refine lv_istore (lv' := [(6, .int zt2), (0, .ref (gB E + za0)), (1, .ref (gB E + za1)), (2, .int za2), (3, .ref (gB E + za3)), (4, .int za4), (5, .int za5)]) hx hb dX7_value_7 hl (by decide) rfl (fun ls hl => ?_)
  refine lv_aload_n hx hb dX7_value_9 rfl (lv_at hl 1 rfl) ?_
  refine lv_sipush (v := 10000) hx hb dX7_value_10 (by decide) ?_
  refine lv_aload_n hx hb dX7_value_13 rfl (lv_at hl 2 rfl) ?_
  obtain ⟨zt3, qzt3, hf⟩ := gb_el hf
  refine gx_getR X hw qzt3 clX2 (by decide) mf_X7_23 dX7_value_14 ?_
  refine W.eq (g2 := F0 m 17 ls [.ref (gB E + zt3), .int 10000, .ref (gB E + za0)]) rfl ?_
  refine lv_iload hx hb dX7_value_17 (lv_at hl 5 rfl) ?_
  obtain ⟨zt4, qzt4, hf⟩ := gb_el hf
  refine gx_iald X hw qzt4 dX7_value_19 ?_
  obtain ⟨qizh5, hf⟩ := gg_el hf
  obtain ⟨zh5, qzh5, hf⟩ := gb_el hf
  refine gx_kv (gx_runV (As := [.int 10000, .int zt4]) (rest := []) X hw (c_X7_setFact l E N za0 10000 zt4 zh qzh5) kX7_setFact mm_X7_26 qizh5 clX7 ⟨Nat.le_of_ble_eq_true rfl, Nat.le_of_ble_eq_true rfl⟩ rfl rfl rfl hl.1 (Nat.le_of_ble_eq_true rfl) rfl dX7_value_20 ⟨Nat.le_of_ble_eq_true rfl, Nat.le_of_ble_eq_true rfl⟩) hw (fun H locs hw => ?_)
  refine lv_aload_n hx hb dX7_value_23 rfl (lv_at hl 1 rfl) ?_
  refine lv_sipush (v := 10001) hx hb dX7_value_24 (by decide) ?_
  refine lv_aload_n hx hb dX7_value_27 rfl (lv_at hl 2 rfl) ?_
  obtain ⟨zt6, qzt6, hf⟩ := gb_el hf
  refine gx_getI X hw qzt6 clX2 (by decide) mf_X7_30 dX7_value_28 ?_
  refine lv_iload hx hb dX7_value_31 (lv_at hl 5 rfl) ?_
  obtain ⟨zt8, zh7, qzh7, hf⟩ := gc_el hf
  refine gx_ki (gx_runSN (As := [.int zt6, .int za4]) (rest := [.int 10001, .ref (gB E + za0)]) X hw (c_X11_bitOf l E N zt6 za4 zh5 qzh7) kX11_bitOf mn_X7_34 ⟨Nat.le_of_ble_eq_true rfl, Nat.le_of_ble_eq_true rfl⟩ rfl rfl rfl hl.1 (Nat.le_of_ble_eq_true rfl) rfl dX7_value_33 ⟨Nat.le_of_ble_eq_true rfl, Nat.le_of_ble_eq_true rfl⟩) hw (fun H locs hw => ?_)
  obtain ⟨qizh9, hf⟩ := gg_el hf
  obtain ⟨zh9, qzh9, hf⟩ := gb_el hf
  refine gx_kv (gx_runV (As := [.int 10001, .int zt8]) (rest := []) X hw (c_X7_setFact l E N za0 10001 zt8 zh7 qzh9) kX7_setFact mm_X7_26 qizh9 clX7 ⟨Nat.le_of_ble_eq_true rfl, Nat.le_of_ble_eq_true rfl⟩ rfl rfl rfl hl.1 (Nat.le_of_ble_eq_true rfl) rfl dX7_value_36 ⟨Nat.le_of_ble_eq_true rfl, Nat.le_of_ble_eq_true rfl⟩) hw (fun H locs hw => ?_)
  refine W.eq (g2 := F0 m 39 ls []) rfl ?_
  refine lv_aload_n hx hb dX7_value_39 rfl (lv_at hl 1 rfl) ?_
  refine lv_sipush (v := 10002) hx hb dX7_value_40 (by decide) ?_
  refine lv_aload_n hx hb dX7_value_43 rfl (lv_at hl 2 rfl) ?_
  obtain ⟨zt10, qzt10, hf⟩ := gb_el hf
  refine gx_getI X hw qzt10 clX2 (by decide) mf_X7_40 dX7_value_44 ?_
  refine lv_iload hx hb dX7_value_47 (lv_at hl 5 rfl) ?_
  obtain ⟨zt12, zh11, qzh11, hf⟩ := gc_el hf
  refine gx_ki (gx_runSN (As := [.int zt10, .int za4]) (rest := [.int 10002, .ref (gB E + za0)]) X hw (c_X11_bitOf l E N zt10 za4 zh9 qzh11) kX11_bitOf mn_X7_34 ⟨Nat.le_of_ble_eq_true rfl, Nat.le_of_ble_eq_true rfl⟩ rfl rfl rfl hl.1 (Nat.le_of_ble_eq_true rfl) rfl dX7_value_49 ⟨Nat.le_of_ble_eq_true rfl, Nat.le_of_ble_eq_true rfl⟩) hw (fun H locs hw => ?_)
  obtain ⟨qizh13, hf⟩ := gg_el hf
  obtain ⟨zh13, qzh13, hf⟩ := gb_el hf
  refine gx_kv (gx_runV (As := [.int 10002, .int zt12]) (rest := []) X hw (c_X7_setFact l E N za0 10002 zt12 zh11 qzh13) kX7_setFact mm_X7_26 qizh13 clX7 ⟨Nat.le_of_ble_eq_true rfl, Nat.le_of_ble_eq_true rfl⟩ rfl rfl rfl hl.1 (Nat.le_of_ble_eq_true rfl) rfl dX7_value_52 ⟨Nat.le_of_ble_eq_true rfl, Nat.le_of_ble_eq_true rfl⟩) hw (fun H locs hw => ?_)
  refine lv_aload_n hx hb dX7_value_55 rfl (lv_at hl 1 rfl) ?_
  refine lv_sipush (v := 10003) hx hb dX7_value_56 (by decide) ?_
  refine lv_iload hx hb dX7_value_59 (lv_at hl 0 rfl) ?_
  refine W.eq (g2 := F0 m 61 ls [.int zt2, .int 10003, .ref (gB E + za0)]) rfl ?_
  obtain ⟨qizh14, hf⟩ := gg_el hf
  obtain ⟨zh14, qzh14, hf⟩ := gb_el hf
  refine gx_kv (gx_runV (As := [.int 10003, .int zt2]) (rest := []) X hw (c_X7_setFact l E N za0 10003 zt2 zh13 qzh14) kX7_setFact mm_X7_26 qizh14 clX7 ⟨Nat.le_of_ble_eq_true rfl, Nat.le_of_ble_eq_true rfl⟩ rfl rfl rfl hl.1 (Nat.le_of_ble_eq_true rfl) rfl dX7_value_61 ⟨Nat.le_of_ble_eq_true rfl, Nat.le_of_ble_eq_true rfl⟩) hw (fun H locs hw => ?_)
  refine lv_aload_n hx hb dX7_value_64 rfl (lv_at hl 1 rfl) ?_
  refine lv_sipush (v := 10004) hx hb dX7_value_65 (by decide) ?_
  refine lv_iload hx hb dX7_value_68 (lv_at hl 6 rfl) ?_
  obtain ⟨qizh15, hf⟩ := gg_el hf
  obtain ⟨zh15, qzh15, hf⟩ := gb_el hf
  refine gx_kv (gx_runV (As := [.int 10004, .int za5]) (rest := []) X hw (c_X7_setFact l E N za0 10004 za5 zh14 qzh15) kX7_setFact mm_X7_26 qizh15 clX7 ⟨Nat.le_of_ble_eq_true rfl, Nat.le_of_ble_eq_true rfl⟩ rfl rfl rfl hl.1 (Nat.le_of_ble_eq_true rfl) rfl dX7_value_70 ⟨Nat.le_of_ble_eq_true rfl, Nat.le_of_ble_eq_true rfl⟩) hw (fun H locs hw => ?_)
  refine lv_aload_n hx hb dX7_value_73 rfl (lv_at hl 1 rfl) ?_
  refine lv_sipush (v := 10005) hx hb dX7_value_74 (by decide) ?_
  refine lv_aload_n hx hb dX7_value_77 rfl (lv_at hl 2 rfl) ?_
  refine lv_iload hx hb dX7_value_78 (lv_at hl 0 rfl) ?_
  refine lv_iload hx hb dX7_value_80 (lv_at hl 6 rfl) ?_
  refine W.eq (g2 := F0 m 82 ls [.int za5, .int zt2, .ref (gB E + za1), .int 10005, .ref (gB E + za0)]) rfl ?_
  obtain ⟨qizh16, hf⟩ := gg_el hf
  obtain ⟨zt17, zh16, qzh16, hf⟩ := gc_el hf
  refine gx_ki (gx_runV (As := [.int zt2, .int za5]) (rest := [.int 10005, .ref (gB E + za0)]) X hw (c_X2_floorsBetween l E N za1 zt2 za5 zh15 qzh16) kX2_floorsBetween mm_X7_43 qizh16 clX2 ⟨Nat.le_of_ble_eq_true rfl, Nat.le_of_ble_eq_true rfl⟩ rfl rfl rfl hl.1 (Nat.le_of_ble_eq_true rfl) rfl dX7_value_82 ⟨Nat.le_of_ble_eq_true rfl, Nat.le_of_ble_eq_true rfl⟩) hw (fun H locs hw => ?_)
  obtain ⟨qizh18, hf⟩ := gg_el hf
  obtain ⟨zh18, qzh18, hf⟩ := gb_el hf
  refine gx_kv (gx_runV (As := [.int 10005, .int zt17]) (rest := []) X hw (c_X7_setFact l E N za0 10005 zt17 zh16 qzh18) kX7_setFact mm_X7_26 qizh18 clX7 ⟨Nat.le_of_ble_eq_true rfl, Nat.le_of_ble_eq_true rfl⟩ rfl rfl rfl hl.1 (Nat.le_of_ble_eq_true rfl) rfl dX7_value_85 ⟨Nat.le_of_ble_eq_true rfl, Nat.le_of_ble_eq_true rfl⟩) hw (fun H locs hw => ?_)
  refine lv_aload_n hx hb dX7_value_88 rfl (lv_at hl 1 rfl) ?_
  refine lv_sipush (v := 10006) hx hb dX7_value_89 (by decide) ?_
  refine lv_aload_n hx hb dX7_value_92 rfl (lv_at hl 2 rfl) ?_
  obtain ⟨zt19, qzt19, hf⟩ := gb_el hf
  refine gx_getR X hw qzt19 clX2 (by decide) mf_X7_46 dX7_value_93 ?_
  refine lv_iload hx hb dX7_value_96 (lv_at hl 6 rfl) ?_
  obtain ⟨zt20, qzt20, hf⟩ := gb_el hf
  refine gx_iald X hw qzt20 dX7_value_98 ?_
  obtain ⟨qizh21, hf⟩ := gg_el hf
  obtain ⟨zh21, qzh21, hf⟩ := gb_el hf
  refine gx_kv (gx_runV (As := [.int 10006, .int zt20]) (rest := []) X hw (c_X7_setFact l E N za0 10006 zt20 zh18 qzh21) kX7_setFact mm_X7_26 qizh21 clX7 ⟨Nat.le_of_ble_eq_true rfl, Nat.le_of_ble_eq_true rfl⟩ rfl rfl rfl hl.1 (Nat.le_of_ble_eq_true rfl) rfl dX7_value_99 ⟨Nat.le_of_ble_eq_true rfl, Nat.le_of_ble_eq_true rfl⟩) hw (fun H locs hw => ?_)
  refine lv_aload_n hx hb dX7_value_102 rfl (lv_at hl 1 rfl) ?_
  refine W.eq (g2 := F0 m 103 ls [.ref (gB E + za0)]) rfl ?_
  refine lv_sipush (v := 10007) hx hb dX7_value_103 (by decide) ?_
  refine lv_aload_n hx hb dX7_value_106 rfl (lv_at hl 4 rfl) ?_
  obtain ⟨zt22, qzt22, hf⟩ := gb_el hf
  refine gx_getR X hw qzt22 clX1 (by decide) mf_X7_49 dX7_value_107 ?_
  refine lv_iload hx hb dX7_value_110 (lv_at hl 5 rfl) ?_
  obtain ⟨zt23, qzt23, hf⟩ := gb_el hf
  refine gx_iald X hw qzt23 dX7_value_112 ?_
  obtain ⟨qizh24, hf⟩ := gg_el hf
  obtain ⟨zh24, qzh24, hf⟩ := gb_el hf
  refine gx_kv (gx_runV (As := [.int 10007, .int zt23]) (rest := []) X hw (c_X7_setFact l E N za0 10007 zt23 zh21 qzh24) kX7_setFact mm_X7_26 qizh24 clX7 ⟨Nat.le_of_ble_eq_true rfl, Nat.le_of_ble_eq_true rfl⟩ rfl rfl rfl hl.1 (Nat.le_of_ble_eq_true rfl) rfl dX7_value_113 ⟨Nat.le_of_ble_eq_true rfl, Nat.le_of_ble_eq_true rfl⟩) hw (fun H locs hw => ?_)
  refine lv_aload_n hx hb dX7_value_116 rfl (lv_at hl 1 rfl) ?_
  refine lv_iconst (v := 0) hx hb dX7_value_117 (by decide) ?_
  obtain ⟨zh25, qzh25, hf⟩ := gb_el hf
  refine gx_putV X hw qzh25 clX7 (by decide) mf_X7_52 rfl rfl rfl dX7_value_118 (fun H locs hw => ?_)
  refine lv_aload_n hx hb dX7_value_121 rfl (lv_at hl 2 rfl) ?_
  refine W.eq (g2 := F0 m 122 ls [.ref (gB E + za1)]) rfl ?_
  obtain ⟨zt26, qzt26, hf⟩ := gb_el hf
  refine gx_getR X hw qzt26 clX2 (by decide) mf_X7_55 dX7_value_122 ?_
  refine lv_iload_n hx hb dX7_value_125 rfl (lv_at hl 3 rfl) ?_
  obtain ⟨zt27, qzt27, hf⟩ := gb_el hf
  refine gx_iald X hw qzt27 dX7_value_126 ?_
  refine lv_istore (lv' := [(7, .int zt27), (6, .int zt2), (0, .ref (gB E + za0)), (1, .ref (gB E + za1)), (2, .int za2), (3, .ref (gB E + za3)), (4, .int za4), (5, .int za5)]) hx hb dX7_value_127 hl (by decide) rfl (fun ls hl => ?_)
  exact L_129 N za0 za1 za2 zt27 _ _ _ ls hf hw (lv_sub hl [2, 3, 4, 0] rfl)
abbrev rm_X1_nextFor : Room := { frames := 4, cells := 0, slots := 0, locals := 92 }
set_option maxHeartbeats 4000000 in
set_option maxRecDepth 100000 in
theorem c_X1_nextFor (l : Launch) (E : gE) (N : Nat) (za0 : Nat) (za1 : Nat) (za2 : Int32) (za3 : Int32) (za4 : Nat) (zh : PH) {h9 : PH} {r9 : Int32} (hf : f_X1_nextFor N za0 za1 za2 za3 za4 zh = some (r9, h9)) : Met l yX1_nextFor (gWS yX1_nextFor cX1_nextFor 10 (some .int)) rm_X1_nextFor (gPc E [.ref (gB E + za0), .ref (gB E + za1), .int za2, .int za3, .ref (gB E + za4)] zh) (gQi E r9 h9) 0 0 (gA E) := by
  refine gx_met (by decide) ?_ rfl
  intro p e s m below meth c X hr hlk hin2 hw
  have hx := X.1.1
  have hb := X.1.2.1
  have hl := lv_entry [.ref (gB E + za0), .ref (gB E + za1), .int za2, .int za3, .ref (gB E + za4)] (n := 10) (Nat.le_of_ble_eq_true rfl)
  rw [lg_entry_eq]
  generalize (lg_sl [.ref (gB E + za0), .ref (gB E + za1), .int za2, .int za3, .ref (gB E + za4)] ++ List.replicate (10 - (lg_sl [.ref (gB E + za0), .ref (gB E + za1), .int za2, .int za3, .ref (gB E + za4)]).length) Slot.unset).toArray = ls at hl ⊢
  have hl : lv_has ls 10 [(0, .ref (gB E + za0)), (1, .ref (gB E + za1)), (2, .int za2), (3, .int za3), (4, .ref (gB E + za4))] := hl
  have L_11 : ∀ (zn11 : Nat) (zv0 : Nat) (zv1 : Nat) (zv2 : Int32) (zv3 : Int32) (zv4 : Nat) (zv5 : Int32) (zv6 : Int32) (zv7 : Int32) (zh : PH) (H : Heap) (locs : List Loc) (ls : Array Slot), gi (fun zk zs => f_X1_nextFor_11 N zk zs.1 zs.2.1 zs.2.2.1 zs.2.2.2.1 zs.2.2.2.2.1 zs.2.2.2.2.2.1 zs.2.2.2.2.2.2.1 zs.2.2.2.2.2.2.2.1 zs.2.2.2.2.2.2.2.2) zn11 (zv0, zv1, zv2, zv3, zv4, zv5, zv6, zv7, zh) = some (r9, h9) → gw E s zh H locs → lv_has ls 10 [(0, .ref (gB E + zv0)), (1, .ref (gB E + zv1)), (2, .int zv2), (3, .int zv3), (4, .ref (gB E + zv4)), (5, .int zv5), (6, .int zv6), (7, .int zv7)] → W p l e rm_X1_nextFor s m [.ref (gB E + za0), .ref (gB E + za1), .int za2, .int za3, .ref (gB E + za4)].toArray below meth c H locs 0 0 (MQ below (gQi E r9 h9) [.ref (gB E + za0), .ref (gB E + za1), .int za2, .int za3, .ref (gB E + za4)].toArray s 0 0 (gA E)) (F0 m 11 ls []) := by
    intro zn11
    induction zn11 with
    | zero =>
      intro zv0 zv1 zv2 zv3 zv4 zv5 zv6 zv7 zh H locs ls hf
      cases hf
    | succ zn11 ih_11 =>
      have J_63 : ∀ (zv0 : Nat) (zv1 : Nat) (zv2 : Int32) (zv3 : Int32) (zv4 : Nat) (zv5 : Int32) (zv6 : Int32) (zv7 : Int32) (zh : PH) (H : Heap) (locs : List Loc) (ls : Array Slot), f_X1_nextFor_63 N (gi (fun zk zs => f_X1_nextFor_11 N zk zs.1 zs.2.1 zs.2.2.1 zs.2.2.2.1 zs.2.2.2.2.1 zs.2.2.2.2.2.1 zs.2.2.2.2.2.2.1 zs.2.2.2.2.2.2.2.1 zs.2.2.2.2.2.2.2.2) zn11) zv0 zv1 zv2 zv3 zv4 zv5 zv6 zv7 zh = some (r9, h9) → gw E s zh H locs → lv_has ls 10 [(0, .ref (gB E + zv0)), (1, .ref (gB E + zv1)), (2, .int zv2), (3, .int zv3), (4, .ref (gB E + zv4)), (5, .int zv5), (6, .int zv6), (7, .int zv7)] → W p l e rm_X1_nextFor s m [.ref (gB E + za0), .ref (gB E + za1), .int za2, .int za3, .ref (gB E + za4)].toArray below meth c H locs 0 0 (MQ below (gQi E r9 h9) [.ref (gB E + za0), .ref (gB E + za1), .int za2, .int za3, .ref (gB E + za4)].toArray s 0 0 (gA E)) (F0 m 63 ls []) := by
        intro zv0 zv1 zv2 zv3 zv4 zv5 zv6 zv7 zh H locs ls hf hw hl
        unfold f_X1_nextFor_63 at hf
        obtain ⟨zx1, ezx1⟩ : ∃ y : Int32, y = zv7 + 1 := ⟨_, rfl⟩
        have hf := gl_el hf ezx1
        refine lv_iinc (v := zx1) (lv' := [(7, .int zx1), (0, .ref (gB E + zv0)), (1, .ref (gB E + zv1)), (2, .int zv2), (3, .int zv3), (4, .ref (gB E + zv4)), (5, .int zv5), (6, .int zv6)]) hx hb dX1_nextFor_63 hl (k := 7) rfl (by rw [ezx1]; rfl) (by decide) rfl (fun ls hl => ?_)
        refine lv_goto (tgt := 11) hx hb dX1_nextFor_66 (by decide) ?_
        exact ih_11 zv0 zv1 zv2 zv3 zv4 zv5 zv6 zx1 _ _ _ ls hf hw (lv_sub hl [1, 2, 3, 4, 5, 6, 7, 0] rfl)
      intro zv0 zv1 zv2 zv3 zv4 zv5 zv6 zv7 zh H locs ls hf hw hl
      have hf := gi_s hf
      dsimp only at hf
      unfold f_X1_nextFor_11 at hf
      refine lv_iload hx hb dX1_nextFor_11 (lv_at hl 7 rfl) ?_
      refine lv_aload_n hx hb dX1_nextFor_13 rfl (lv_at hl 1 rfl) ?_
      obtain ⟨zt1, qzt1, hf⟩ := gb_el hf
      refine gx_getI X hw qzt1 clX2 (by decide) mf_X1_55 dX1_nextFor_14 ?_
      refine lv_icmp_ge (tgt := 69) hx hb dX1_nextFor_17 (by decide) (fun qc2 => ?_) (fun qc2 => ?_)
      · have hf := gif_t hf qc2
        refine lv_iload hx hb dX1_nextFor_69 (lv_at hl 5 rfl) ?_
        exact gx_iret X hr hlk hw hf dX1_nextFor_71
      · have hf := gif_f hf qc2
        refine lv_aload_n hx hb dX1_nextFor_20 rfl (lv_at hl 0 rfl) ?_
        obtain ⟨zt3, qzt3, hf⟩ := gb_el hf
        refine gx_getR X hw qzt3 clX1 (by decide) mf_X1_9 dX1_nextFor_21 ?_
        refine lv_iload hx hb dX1_nextFor_24 (lv_at hl 7 rfl) ?_
        obtain ⟨zt4, qzt4, hf⟩ := gb_el hf
        refine gx_iald X hw qzt4 dX1_nextFor_26 ?_
        refine lv_istore (lv' := [(8, .int zt4), (0, .ref (gB E + zv0)), (1, .ref (gB E + zv1)), (2, .int zv2), (3, .int zv3), (4, .ref (gB E + zv4)), (5, .int zv5), (6, .int zv6), (7, .int zv7)]) hx hb dX1_nextFor_27 hl (by decide) rfl (fun ls hl => ?_)
        refine W.eq (g2 := F0 m 29 ls []) rfl ?_
        refine lv_iload hx hb dX1_nextFor_29 (lv_at hl 0 rfl) ?_
        refine lv_iconst (v := (-1)) hx hb dX1_nextFor_31 (by decide) ?_
        refine lv_icmp_eq (tgt := 63) hx hb dX1_nextFor_32 (by decide) (fun qc5 => ?_) (fun qc5 => ?_)
        · have hf := gif_t hf qc5
          exact J_63 zv0 zv1 zv2 zv3 zv4 zv5 zv6 zv7 _ _ _ ls hf hw (lv_sub hl [1, 2, 3, 4, 5, 6, 7, 8] rfl)
        · have hf := gif_f hf qc5
          refine lv_aload hx hb dX1_nextFor_35 (lv_at hl 5 rfl) ?_
          refine lv_aload_n hx hb dX1_nextFor_37 rfl (lv_at hl 2 rfl) ?_
          refine lv_iload_n hx hb dX1_nextFor_38 rfl (lv_at hl 4 rfl) ?_
          refine lv_aload_n hx hb dX1_nextFor_39 rfl (lv_at hl 1 rfl) ?_
          refine lv_iload hx hb dX1_nextFor_40 (lv_at hl 0 rfl) ?_
          refine lv_iload_n hx hb dX1_nextFor_42 rfl (lv_at hl 3 rfl) ?_
          obtain ⟨qizh6, hf⟩ := gg_el hf
          obtain ⟨zt7, zh6, qzh6, hf⟩ := gc_el hf
          refine gx_ki (gx_runV (As := [.ref (gB E + zv1), .int zv3, .ref (gB E + zv0), .int zt4, .int zv2]) (rest := []) X hw (c_X7_value l E N zv4 zv1 zv3 zv0 zt4 zv2 zh qzh6) kX7_value mm_X1_80 qizh6 clX7 ⟨Nat.le_of_ble_eq_true rfl, Nat.le_of_ble_eq_true rfl⟩ rfl rfl rfl hl.1 (Nat.le_of_ble_eq_true rfl) rfl dX1_nextFor_43 ⟨Nat.le_of_ble_eq_true rfl, Nat.le_of_ble_eq_true rfl⟩) hw (fun H locs hw => ?_)
          refine W.eq (g2 := F0 m 46 ls [.int zt7]) rfl ?_
          refine lv_istore (lv' := [(9, .int zt7), (8, .int zt4), (0, .ref (gB E + zv0)), (1, .ref (gB E + zv1)), (2, .int zv2), (3, .int zv3), (4, .ref (gB E + zv4)), (5, .int zv5), (6, .int zv6), (7, .int zv7)]) hx hb dX1_nextFor_46 hl (by decide) rfl (fun ls hl => ?_)
          refine lv_iload hx hb dX1_nextFor_48 (lv_at hl 0 rfl) ?_
          refine lv_iload hx hb dX1_nextFor_50 (lv_at hl 8 rfl) ?_
          refine lv_icmp_le (tgt := 63) hx hb dX1_nextFor_52 (by decide) (fun qc8 => ?_) (fun qc8 => ?_)
          · have hf := gif_t hf qc8
            exact J_63 zv0 zv1 zv2 zv3 zv4 zv5 zv6 zv7 _ _ _ ls hf hw (lv_sub hl [2, 3, 4, 5, 6, 7, 8, 9] rfl)
          · have hf := gif_f hf qc8
            refine lv_iload hx hb dX1_nextFor_55 (lv_at hl 0 rfl) ?_
            refine lv_istore (lv' := [(6, .int zt7), (9, .int zt7), (8, .int zt4), (0, .ref (gB E + zv0)), (1, .ref (gB E + zv1)), (2, .int zv2), (3, .int zv3), (4, .ref (gB E + zv4)), (5, .int zv5), (7, .int zv7)]) hx hb dX1_nextFor_57 hl (by decide) rfl (fun ls hl => ?_)
            refine lv_iload hx hb dX1_nextFor_59 (lv_at hl 2 rfl) ?_
            refine lv_istore (lv' := [(5, .int zt4), (6, .int zt7), (9, .int zt7), (8, .int zt4), (0, .ref (gB E + zv0)), (1, .ref (gB E + zv1)), (2, .int zv2), (3, .int zv3), (4, .ref (gB E + zv4)), (7, .int zv7)]) hx hb dX1_nextFor_61 hl (by decide) rfl (fun ls hl => ?_)
            exact J_63 zv0 zv1 zv2 zv3 zv4 zt4 zt7 zv7 _ _ _ ls hf hw (lv_sub hl [4, 5, 6, 7, 8, 0, 1, 9] rfl)
  unfold f_X1_nextFor at hf
  refine lv_iconst (v := (-1)) hx hb dX1_nextFor_0 (by decide) ?_
  refine lv_istore (lv' := [(5, .int (-1)), (0, .ref (gB E + za0)), (1, .ref (gB E + za1)), (2, .int za2), (3, .int za3), (4, .ref (gB E + za4))]) hx hb dX1_nextFor_1 hl (by decide) rfl (fun ls hl => ?_)
  refine lv_iconst (v := 0) hx hb dX1_nextFor_3 (by decide) ?_
  refine lv_istore (lv' := [(6, .int 0), (5, .int (-1)), (0, .ref (gB E + za0)), (1, .ref (gB E + za1)), (2, .int za2), (3, .int za3), (4, .ref (gB E + za4))]) hx hb dX1_nextFor_4 hl (by decide) rfl (fun ls hl => ?_)
  refine lv_iload_n hx hb dX1_nextFor_6 rfl (lv_at hl 4 rfl) ?_
  refine lv_iconst (v := 1) hx hb dX1_nextFor_7 (by decide) ?_
  refine lv_iadd hx hb dX1_nextFor_8 ?_
  refine lv_topi (fun zx1 ezx1 => ?_)
  have hf := gl_el hf ezx1
  refine lv_istore (lv' := [(7, .int zx1), (6, .int 0), (5, .int (-1)), (0, .ref (gB E + za0)), (1, .ref (gB E + za1)), (2, .int za2), (3, .int za3), (4, .ref (gB E + za4))]) hx hb dX1_nextFor_9 hl (by decide) rfl (fun ls hl => ?_)
  exact L_11 N za0 za1 za2 za3 za4 (-1) 0 zx1 _ _ _ ls hf hw (lv_sub hl [3, 4, 5, 6, 7, 2, 1, 0] rfl)
abbrev rm_X1_letOut : Room := { frames := 5, cells := 0, slots := 0, locals := 121 }
set_option maxHeartbeats 4000000 in
set_option maxRecDepth 100000 in
theorem c_X1_letOut (l : Launch) (E : gE) (N : Nat) (za0 : Nat) (za1 : Nat) (za2 : Int32) (za3 : Int32) (za4 : Nat) (za5 : (Option Nat)) (zh : PH) {h9 : PH} (hf : f_X1_letOut N za0 za1 za2 za3 za4 za5 zh = some h9) : Met l yX1_letOut (gWS yX1_letOut cX1_letOut 10 none) rm_X1_letOut (gPc E [.ref (gB E + za0), .ref (gB E + za1), .int za2, .int za3, .ref (gB E + za4), gq E za5] zh) (gQv E h9) 0 0 (gA E) := by
  refine gx_met (by decide) ?_ rfl
  intro p e s m below meth c X hr hlk hin2 hw
  have hx := X.1.1
  have hb := X.1.2.1
  have hl := lv_entry [.ref (gB E + za0), .ref (gB E + za1), .int za2, .int za3, .ref (gB E + za4), gq E za5] (n := 10) (by cases za5 <;> exact Nat.le_of_ble_eq_true rfl)
  rw [lg_entry_eq]
  generalize (lg_sl [.ref (gB E + za0), .ref (gB E + za1), .int za2, .int za3, .ref (gB E + za4), gq E za5] ++ List.replicate (10 - (lg_sl [.ref (gB E + za0), .ref (gB E + za1), .int za2, .int za3, .ref (gB E + za4), gq E za5]).length) Slot.unset).toArray = ls at hl ⊢
  have hl : lv_has ls 10 [(0, .ref (gB E + za0)), (1, .ref (gB E + za1)), (2, .int za2), (3, .int za3), (4, .ref (gB E + za4)), (5, gq E za5)] := by cases za5 <;> exact hl
  have L_36 : ∀ (zn36 : Nat) (zv0 : Nat) (zv1 : Nat) (zv3 : Int32) (zv4 : Nat) (zv5 : (Option Nat)) (zv6 : Int32) (zv7 : Int32) (zh : PH) (H : Heap) (locs : List Loc) (ls : Array Slot), gi (fun zk zs => f_X1_letOut_36 N zk zs.1 zs.2.1 zs.2.2.1 zs.2.2.2.1 zs.2.2.2.2.1 zs.2.2.2.2.2.1 zs.2.2.2.2.2.2.1 zs.2.2.2.2.2.2.2) zn36 (zv0, zv1, zv3, zv4, zv5, zv6, zv7, zh) = some h9 → gw E s zh H locs → lv_has ls 10 [(0, .ref (gB E + zv0)), (1, .ref (gB E + zv1)), (3, .int zv3), (4, .ref (gB E + zv4)), (5, gq E zv5), (6, .int zv6), (7, .int zv7)] → W p l e rm_X1_letOut s m [.ref (gB E + za0), .ref (gB E + za1), .int za2, .int za3, .ref (gB E + za4), gq E za5].toArray below meth c H locs 0 0 (MQ below (gQv E h9) [.ref (gB E + za0), .ref (gB E + za1), .int za2, .int za3, .ref (gB E + za4), gq E za5].toArray s 0 0 (gA E)) (F0 m 36 ls []) := by
    intro zn36
    induction zn36 with
    | zero =>
      intro zv0 zv1 zv3 zv4 zv5 zv6 zv7 zh H locs ls hf
      cases hf
    | succ zn36 ih_36 =>
      intro zv0 zv1 zv3 zv4 zv5 zv6 zv7 zh H locs ls hf hw hl
      have hf := gi_s hf
      dsimp only at hf
      unfold f_X1_letOut_36 at hf
      refine lv_iload hx hb dX1_letOut_36 (lv_at hl 6 rfl) ?_
      refine lv_aload_n hx hb dX1_letOut_38 rfl (lv_at hl 1 rfl) ?_
      obtain ⟨zt1, qzt1, hf⟩ := gb_el hf
      refine gx_getI X hw qzt1 clX2 (by decide) mf_X1_55 dX1_letOut_39 ?_
      refine lv_icmp_ge (tgt := 94) hx hb dX1_letOut_42 (by decide) (fun qc2 => ?_) (fun qc2 => ?_)
      · have hf := gif_t hf qc2
        exact gx_vret X hr hlk hw hf dX1_letOut_94
      · have hf := gif_f hf qc2
        refine lv_aload_n hx hb dX1_letOut_45 rfl (lv_at hl 0 rfl) ?_
        refine lv_aload_n hx hb dX1_letOut_46 rfl (lv_at hl 1 rfl) ?_
        refine lv_iload hx hb dX1_letOut_47 (lv_at hl 5 rfl) ?_
        refine lv_iload_n hx hb dX1_letOut_49 rfl (lv_at hl 2 rfl) ?_
        refine lv_aload hx hb dX1_letOut_50 (lv_at hl 3 rfl) ?_
        refine W.eq (g2 := F0 m 52 ls [.ref (gB E + zv4), .int zv3, .int zv6, .ref (gB E + zv1), .ref (gB E + zv0)]) rfl ?_
        obtain ⟨qizh3, hf⟩ := gg_el hf
        obtain ⟨zt4, zh3, qzh3, hf⟩ := gc_el hf
        refine gx_ki (gx_runV (As := [.ref (gB E + zv1), .int zv6, .int zv3, .ref (gB E + zv4)]) (rest := []) X hw (c_X1_nextFor l E N zv0 zv1 zv6 zv3 zv4 zh qzh3) kX1_nextFor mm_X1_64 qizh3 clX1 ⟨Nat.le_of_ble_eq_true rfl, Nat.le_of_ble_eq_true rfl⟩ rfl rfl rfl hl.1 (Nat.le_of_ble_eq_true rfl) rfl dX1_letOut_52 ⟨Nat.le_of_ble_eq_true rfl, Nat.le_of_ble_eq_true rfl⟩) hw (fun H locs hw => ?_)
        refine lv_istore (lv' := [(8, .int zt4), (0, .ref (gB E + zv0)), (1, .ref (gB E + zv1)), (3, .int zv3), (4, .ref (gB E + zv4)), (5, gq E zv5), (6, .int zv6), (7, .int zv7)]) hx hb dX1_letOut_55 hl (by decide) rfl (fun ls hl => ?_)
        refine lv_iload hx hb dX1_letOut_57 (lv_at hl 0 rfl) ?_
        refine lv_iconst (v := (-1)) hx hb dX1_letOut_59 (by decide) ?_
        refine lv_icmp_ne (tgt := 64) hx hb dX1_letOut_60 (by decide) (fun qc5 => ?_) (fun qc5 => ?_)
        · have hf := gif_f hf qc5
          refine lv_aload_n hx hb dX1_letOut_64 rfl (lv_at hl 1 rfl) ?_
          obtain ⟨zt6, qzt6, hf⟩ := gb_el hf
          refine gx_getR X hw qzt6 clX1 (by decide) mf_X1_15 dX1_letOut_65 ?_
          refine lv_iload hx hb dX1_letOut_68 (lv_at hl 0 rfl) ?_
          obtain ⟨zt7, qzt7, hf⟩ := gb_el hf
          refine gx_iald X hw qzt7 dX1_letOut_70 ?_
          refine lv_istore (lv' := [(9, .int zt7), (8, .int zt4), (0, .ref (gB E + zv0)), (1, .ref (gB E + zv1)), (3, .int zv3), (4, .ref (gB E + zv4)), (5, gq E zv5), (6, .int zv6), (7, .int zv7)]) hx hb dX1_letOut_71 hl (by decide) rfl (fun ls hl => ?_)
          refine W.eq (g2 := F0 m 73 ls []) rfl ?_
          refine lv_aload_n hx hb dX1_letOut_73 rfl (lv_at hl 2 rfl) ?_
          refine lv_aload_n hx hb dX1_letOut_74 rfl (lv_at hl 3 rfl) ?_
          refine lv_iload hx hb dX1_letOut_75 (lv_at hl 1 rfl) ?_
          refine lv_iload hx hb dX1_letOut_77 (lv_at hl 7 rfl) ?_
          refine gx_aloadQ hx hb dX1_letOut_79 (lv_at hl 6 rfl) ?_
          obtain ⟨qizh8, hf⟩ := gg_el hf
          obtain ⟨zh8, qzh8, hf⟩ := gb_el hf
          refine gx_kv (gx_runV (As := [.ref (gB E + zv1), .int zt4, .int zv6, gq E zv5]) (rest := []) X hw (c_X1_go l E N zv0 zv1 zt4 zv6 zv5 zh3 qzh8) kX1_go mm_X1_60 qizh8 clX1 ⟨Nat.le_of_ble_eq_true rfl, Nat.le_of_ble_eq_true rfl⟩ rfl rfl rfl hl.1 (Nat.le_of_ble_eq_true rfl) rfl dX1_letOut_81 ⟨Nat.le_of_ble_eq_true rfl, Nat.le_of_ble_eq_true rfl⟩) hw (fun H locs hw => ?_)
          refine lv_iload hx hb dX1_letOut_84 (lv_at hl 0 rfl) ?_
          refine lv_istore (lv' := [(6, .int zt7), (9, .int zt7), (8, .int zt4), (0, .ref (gB E + zv0)), (1, .ref (gB E + zv1)), (3, .int zv3), (4, .ref (gB E + zv4)), (5, gq E zv5), (7, .int zv7)]) hx hb dX1_letOut_86 hl (by decide) (by cases zv5 <;> rfl) (fun ls hl => ?_)
          obtain ⟨zx9, ezx9⟩ : ∃ y : Int32, y = zv7 + 1 := ⟨_, rfl⟩
          have hf := gl_el hf ezx9
          refine lv_iinc (v := zx9) (lv' := [(7, .int zx9), (6, .int zt7), (9, .int zt7), (8, .int zt4), (0, .ref (gB E + zv0)), (1, .ref (gB E + zv1)), (3, .int zv3), (4, .ref (gB E + zv4)), (5, gq E zv5)]) hx hb dX1_letOut_88 hl (k := 8) rfl (by rw [ezx9]; rfl) (by decide) rfl (fun ls hl => ?_)
          refine lv_goto (tgt := 36) hx hb dX1_letOut_91 (by decide) ?_
          exact ih_36 zv0 zv1 zv3 zv4 zv5 zt7 zx9 _ _ _ ls hf hw (lv_sub hl [4, 5, 6, 7, 8, 1, 0] rfl)
        · have hf := gif_t hf qc5
          exact gx_vret X hr hlk hw hf dX1_letOut_63
  unfold f_X1_letOut at hf
  refine lv_aload_n hx hb dX1_letOut_0 rfl (lv_at hl 0 rfl) ?_
  obtain ⟨zt1, qzt1, hf⟩ := gb_el hf
  refine gx_getR X hw qzt1 clX1 (by decide) mf_X1_15 dX1_letOut_1 ?_
  refine lv_iload_n hx hb dX1_letOut_4 rfl (lv_at hl 2 rfl) ?_
  obtain ⟨zt2, qzt2, hf⟩ := gb_el hf
  refine gx_iald X hw qzt2 dX1_letOut_5 ?_
  refine lv_istore (lv' := [(6, .int zt2), (0, .ref (gB E + za0)), (1, .ref (gB E + za1)), (2, .int za2), (3, .int za3), (4, .ref (gB E + za4)), (5, gq E za5)]) hx hb dX1_letOut_6 hl (by decide) (by cases za5 <;> rfl) (fun ls hl => ?_)
  refine lv_aload_n hx hb dX1_letOut_8 rfl (lv_at hl 1 rfl) ?_
  refine lv_aload_n hx hb dX1_letOut_9 rfl (lv_at hl 2 rfl) ?_
  refine lv_iload_n hx hb dX1_letOut_10 rfl (lv_at hl 3 rfl) ?_
  refine lv_iconst (v := (-1)) hx hb dX1_letOut_11 (by decide) ?_
  refine W.eq (g2 := F0 m 12 ls [.int (-1), .int za2, .ref (gB E + za1), .ref (gB E + za0)]) rfl ?_
  refine gx_aloadQ hx hb dX1_letOut_12 (lv_at hl 6 rfl) ?_
  obtain ⟨qizh3, hf⟩ := gg_el hf
  obtain ⟨zh3, qzh3, hf⟩ := gb_el hf
  refine gx_kv (gx_runV (As := [.ref (gB E + za1), .int za2, .int (-1), gq E za5]) (rest := []) X hw (c_X1_go l E N za0 za1 za2 (-1) za5 zh qzh3) kX1_go mm_X1_60 qizh3 clX1 ⟨Nat.le_of_ble_eq_true rfl, Nat.le_of_ble_eq_true rfl⟩ rfl rfl rfl hl.1 (Nat.le_of_ble_eq_true rfl) rfl dX1_letOut_14 ⟨Nat.le_of_ble_eq_true rfl, Nat.le_of_ble_eq_true rfl⟩) hw (fun H locs hw => ?_)
  refine lv_aload_n hx hb dX1_letOut_17 rfl (lv_at hl 1 rfl) ?_
  refine lv_dup hx hb dX1_letOut_18 rfl ?_
  obtain ⟨zt4, qzt4, hf⟩ := gb_el hf
  refine gx_getI X hw qzt4 clX1 (by decide) mf_X1_43 dX1_letOut_19 ?_
  refine lv_iconst (v := 1) hx hb dX1_letOut_22 (by decide) ?_
  refine lv_isub hx hb dX1_letOut_23 ?_
  obtain ⟨zh5, qzh5, hf⟩ := gb_el hf
  refine gx_putV X hw qzh5 clX1 (by decide) mf_X1_43 rfl rfl rfl dX1_letOut_24 (fun H locs hw => ?_)
  refine lv_iload_n hx hb dX1_letOut_27 rfl (lv_at hl 4 rfl) ?_
  refine lv_iconst (v := (-1)) hx hb dX1_letOut_28 (by decide) ?_
  refine W.eq (g2 := F0 m 29 ls [.int (-1), .int za3]) rfl ?_
  refine lv_icmp_ne (tgt := 33) hx hb dX1_letOut_29 (by decide) (fun qc6 => ?_) (fun qc6 => ?_)
  · have hf := gif_f hf qc6
    refine lv_iconst (v := 0) hx hb dX1_letOut_33 (by decide) ?_
    refine lv_istore (lv' := [(7, .int 0), (6, .int zt2), (0, .ref (gB E + za0)), (1, .ref (gB E + za1)), (2, .int za2), (3, .int za3), (4, .ref (gB E + za4)), (5, gq E za5)]) hx hb dX1_letOut_34 hl (by decide) rfl (fun ls hl => ?_)
    exact L_36 N za0 za1 za3 za4 za5 zt2 0 _ _ _ ls hf hw (lv_sub hl [2, 3, 5, 6, 7, 1, 0] rfl)
  · have hf := gif_t hf qc6
    exact gx_vret X hr hlk hw hf dX1_letOut_32
abbrev rm_X1_spreadOfMoves : Room := { frames := 1, cells := 0, slots := 0, locals := 21 }
set_option maxHeartbeats 4000000 in
set_option maxRecDepth 100000 in
theorem c_X1_spreadOfMoves (l : Launch) (E : gE) (N : Nat) (za0 : Nat) (zh : PH) {h9 : PH} {r9 : Int32} (hf : f_X1_spreadOfMoves N za0 zh = some (r9, h9)) : Met l yX1_spreadOfMoves (gWS yX1_spreadOfMoves cX1_spreadOfMoves 4 (some .int)) rm_X1_spreadOfMoves (gPc E [.ref (gB E + za0)] zh) (gQi E r9 h9) 0 0 (gA E) := by
  refine gx_met (by decide) ?_ rfl
  intro p e s m below meth c X hr hlk hin2 hw
  have hx := X.1.1
  have hb := X.1.2.1
  have hl := lv_entry [.ref (gB E + za0)] (n := 4) (Nat.le_of_ble_eq_true rfl)
  rw [lg_entry_eq]
  generalize (lg_sl [.ref (gB E + za0)] ++ List.replicate (4 - (lg_sl [.ref (gB E + za0)]).length) Slot.unset).toArray = ls at hl ⊢
  have hl : lv_has ls 4 [(0, .ref (gB E + za0))] := hl
  have L_6 : ∀ (zn6 : Nat) (zv0 : Nat) (zv1 : Int32) (zv2 : Int32) (zv3 : Int32) (zh : PH) (H : Heap) (locs : List Loc) (ls : Array Slot), gi (fun zk zs => f_X1_spreadOfMoves_6 N zk zs.1 zs.2.1 zs.2.2.1 zs.2.2.2.1 zs.2.2.2.2) zn6 (zv0, zv1, zv2, zv3, zh) = some (r9, h9) → gw E s zh H locs → lv_has ls 4 [(0, .ref (gB E + zv0)), (1, .int zv1), (2, .int zv2), (3, .int zv3)] → W p l e rm_X1_spreadOfMoves s m [.ref (gB E + za0)].toArray below meth c H locs 0 0 (MQ below (gQi E r9 h9) [.ref (gB E + za0)].toArray s 0 0 (gA E)) (F0 m 6 ls []) := by
    intro zn6
    induction zn6 with
    | zero =>
      intro zv0 zv1 zv2 zv3 zh H locs ls hf
      cases hf
    | succ zn6 ih_6 =>
      have J_60 : ∀ (zv0 : Nat) (zv1 : Int32) (zv2 : Int32) (zv3 : Int32) (zh : PH) (H : Heap) (locs : List Loc) (ls : Array Slot), f_X1_spreadOfMoves_60 N (gi (fun zk zs => f_X1_spreadOfMoves_6 N zk zs.1 zs.2.1 zs.2.2.1 zs.2.2.2.1 zs.2.2.2.2) zn6) zv0 zv1 zv2 zv3 zh = some (r9, h9) → gw E s zh H locs → lv_has ls 4 [(0, .ref (gB E + zv0)), (1, .int zv1), (2, .int zv2), (3, .int zv3)] → W p l e rm_X1_spreadOfMoves s m [.ref (gB E + za0)].toArray below meth c H locs 0 0 (MQ below (gQi E r9 h9) [.ref (gB E + za0)].toArray s 0 0 (gA E)) (F0 m 60 ls []) := by
        intro zv0 zv1 zv2 zv3 zh H locs ls hf hw hl
        unfold f_X1_spreadOfMoves_60 at hf
        obtain ⟨zx1, ezx1⟩ : ∃ y : Int32, y = zv3 + 1 := ⟨_, rfl⟩
        have hf := gl_el hf ezx1
        refine lv_iinc (v := zx1) (lv' := [(3, .int zx1), (0, .ref (gB E + zv0)), (1, .int zv1), (2, .int zv2)]) hx hb dX1_spreadOfMoves_60 hl (k := 3) rfl (by rw [ezx1]; rfl) (by decide) rfl (fun ls hl => ?_)
        refine lv_goto (tgt := 6) hx hb dX1_spreadOfMoves_63 (by decide) ?_
        exact ih_6 zv0 zv1 zv2 zx1 _ _ _ ls hf hw (lv_sub hl [1, 2, 3, 0] rfl)
      have J_59 : ∀ (zv0 : Nat) (zv1 : Int32) (zv3 : Int32) (zs0 : Int32) (zh : PH) (H : Heap) (locs : List Loc) (ls : Array Slot), f_X1_spreadOfMoves_59 N (gi (fun zk zs => f_X1_spreadOfMoves_6 N zk zs.1 zs.2.1 zs.2.2.1 zs.2.2.2.1 zs.2.2.2.2) zn6) zv0 zv1 zv3 zs0 zh = some (r9, h9) → gw E s zh H locs → lv_has ls 4 [(0, .ref (gB E + zv0)), (1, .int zv1), (3, .int zv3)] → W p l e rm_X1_spreadOfMoves s m [.ref (gB E + za0)].toArray below meth c H locs 0 0 (MQ below (gQi E r9 h9) [.ref (gB E + za0)].toArray s 0 0 (gA E)) (F0 m 59 ls [.int zs0]) := by
        intro zv0 zv1 zv3 zs0 zh H locs ls hf hw hl
        unfold f_X1_spreadOfMoves_59 at hf
        refine lv_istore_n (lv' := [(2, .int zs0), (0, .ref (gB E + zv0)), (1, .int zv1), (3, .int zv3)]) hx hb dX1_spreadOfMoves_59 rfl hl (by decide) rfl (fun ls hl => ?_)
        exact J_60 zv0 zv1 zs0 zv3 _ _ _ ls hf hw (lv_sub hl [1, 2, 0, 3] rfl)
      intro zv0 zv1 zv2 zv3 zh H locs ls hf hw hl
      have hf := gi_s hf
      dsimp only at hf
      unfold f_X1_spreadOfMoves_6 at hf
      refine lv_iload_n hx hb dX1_spreadOfMoves_6 rfl (lv_at hl 3 rfl) ?_
      refine lv_bipush (v := 10) hx hb dX1_spreadOfMoves_7 (by decide) ?_
      refine lv_icmp_ge (tgt := 66) hx hb dX1_spreadOfMoves_9 (by decide) (fun qc1 => ?_) (fun qc1 => ?_)
      · have hf := gif_t hf qc1
        refine lv_iload_n hx hb dX1_spreadOfMoves_66 rfl (lv_at hl 1 rfl) ?_
        refine lv_iload_n hx hb dX1_spreadOfMoves_67 rfl (lv_at hl 2 rfl) ?_
        refine lv_isub hx hb dX1_spreadOfMoves_68 ?_
        exact gx_iret X hr hlk hw hf dX1_spreadOfMoves_69
      · have hf := gif_f hf qc1
        refine lv_aload_n hx hb dX1_spreadOfMoves_12 rfl (lv_at hl 0 rfl) ?_
        obtain ⟨zt2, qzt2, hf⟩ := gb_el hf
        refine gx_getI X hw qzt2 clX1 (by decide) mf_X1_46 dX1_spreadOfMoves_13 ?_
        refine lv_iload_n hx hb dX1_spreadOfMoves_16 rfl (lv_at hl 3 rfl) ?_
        obtain ⟨zt4, zh3, qzh3, hf⟩ := gc_el hf
        refine gx_ki (gx_runSN (As := [.int zt2, .int zv3]) (rest := []) X hw (c_X11_bitOf l E N zt2 zv3 zh qzh3) kX11_bitOf mn_X1_68 ⟨Nat.le_of_ble_eq_true rfl, Nat.le_of_ble_eq_true rfl⟩ rfl rfl rfl hl.1 (Nat.le_of_ble_eq_true rfl) rfl dX1_spreadOfMoves_17 ⟨Nat.le_of_ble_eq_true rfl, Nat.le_of_ble_eq_true rfl⟩) hw (fun H locs hw => ?_)
        refine lv_iconst (v := 1) hx hb dX1_spreadOfMoves_20 (by decide) ?_
        refine lv_icmp_ne (tgt := 60) hx hb dX1_spreadOfMoves_21 (by decide) (fun qc5 => ?_) (fun qc5 => ?_)
        · have hf := gif_f hf qc5
          exact J_60 zv0 zv1 zv2 zv3 _ _ _ ls hf hw (lv_sub hl [0, 1, 2, 3] rfl)
        · have hf := gif_t hf qc5
          refine W.eq (g2 := F0 m 24 ls []) rfl ?_
          refine lv_iload_n hx hb dX1_spreadOfMoves_24 rfl (lv_at hl 1 rfl) ?_
          refine lv_aload_n hx hb dX1_spreadOfMoves_25 rfl (lv_at hl 0 rfl) ?_
          obtain ⟨zt6, qzt6, hf⟩ := gb_el hf
          refine gx_getR X hw qzt6 clX1 (by decide) mf_X1_18 dX1_spreadOfMoves_26 ?_
          refine lv_iload_n hx hb dX1_spreadOfMoves_29 rfl (lv_at hl 3 rfl) ?_
          obtain ⟨zt7, qzt7, hf⟩ := gb_el hf
          refine gx_iald X hw qzt7 dX1_spreadOfMoves_30 ?_
          refine gx_max X mm_X1_72 mt_max mI_java_lang_Math mx_max hl.1 (Nat.le_of_ble_eq_true rfl) (Nat.le_of_ble_eq_true rfl) (Nat.le_of_ble_eq_true rfl) (Nat.le_of_ble_eq_true rfl) dX1_spreadOfMoves_31 ?_
          refine lv_topi (fun zx8 ezx8 => ?_)
          have hf := gl_el hf ezx8
          refine lv_istore_n (lv' := [(1, .int zx8), (0, .ref (gB E + zv0)), (2, .int zv2), (3, .int zv3)]) hx hb dX1_spreadOfMoves_34 rfl hl (by decide) rfl (fun ls hl => ?_)
          refine lv_iload_n hx hb dX1_spreadOfMoves_35 rfl (lv_at hl 2 rfl) ?_
          refine lv_iconst (v := (-1)) hx hb dX1_spreadOfMoves_36 (by decide) ?_
          refine lv_icmp_ne (tgt := 49) hx hb dX1_spreadOfMoves_37 (by decide) (fun qc9 => ?_) (fun qc9 => ?_)
          · have hf := gif_f hf qc9
            refine W.eq (g2 := F0 m 49 ls []) rfl ?_
            refine lv_iload_n hx hb dX1_spreadOfMoves_49 rfl (lv_at hl 2 rfl) ?_
            refine lv_aload_n hx hb dX1_spreadOfMoves_50 rfl (lv_at hl 1 rfl) ?_
            obtain ⟨zt10, qzt10, hf⟩ := gb_el hf
            refine gx_getR X hw qzt10 clX1 (by decide) mf_X1_18 dX1_spreadOfMoves_51 ?_
            refine lv_iload_n hx hb dX1_spreadOfMoves_54 rfl (lv_at hl 3 rfl) ?_
            obtain ⟨zt11, qzt11, hf⟩ := gb_el hf
            refine gx_iald X hw qzt11 dX1_spreadOfMoves_55 ?_
            refine gx_min X mm_X1_77 mt_min mI_java_lang_Math mx_min hl.1 (Nat.le_of_ble_eq_true rfl) (Nat.le_of_ble_eq_true rfl) (Nat.le_of_ble_eq_true rfl) (Nat.le_of_ble_eq_true rfl) dX1_spreadOfMoves_56 ?_
            exact J_59 zv0 zx8 zv3 (gmin zv2 zt11) _ _ _ ls hf hw (lv_sub hl [1, 0, 3] rfl)
          · have hf := gif_t hf qc9
            refine W.eq (g2 := F0 m 40 ls []) rfl ?_
            refine lv_aload_n hx hb dX1_spreadOfMoves_40 rfl (lv_at hl 1 rfl) ?_
            obtain ⟨zt12, qzt12, hf⟩ := gb_el hf
            refine gx_getR X hw qzt12 clX1 (by decide) mf_X1_18 dX1_spreadOfMoves_41 ?_
            refine lv_iload_n hx hb dX1_spreadOfMoves_44 rfl (lv_at hl 3 rfl) ?_
            obtain ⟨zt13, qzt13, hf⟩ := gb_el hf
            refine gx_iald X hw qzt13 dX1_spreadOfMoves_45 ?_
            refine lv_goto (tgt := 59) hx hb dX1_spreadOfMoves_46 (by decide) ?_
            exact J_59 zv0 zx8 zv3 zt13 _ _ _ ls hf hw (lv_sub hl [1, 0, 3] rfl)
  unfold f_X1_spreadOfMoves at hf
  refine lv_iconst (v := (-1)) hx hb dX1_spreadOfMoves_0 (by decide) ?_
  refine lv_istore_n (lv' := [(1, .int (-1)), (0, .ref (gB E + za0))]) hx hb dX1_spreadOfMoves_1 rfl hl (by decide) rfl (fun ls hl => ?_)
  refine lv_iconst (v := (-1)) hx hb dX1_spreadOfMoves_2 (by decide) ?_
  refine lv_istore_n (lv' := [(2, .int (-1)), (1, .int (-1)), (0, .ref (gB E + za0))]) hx hb dX1_spreadOfMoves_3 rfl hl (by decide) rfl (fun ls hl => ?_)
  refine lv_iconst (v := 0) hx hb dX1_spreadOfMoves_4 (by decide) ?_
  refine lv_istore_n (lv' := [(3, .int 0), (2, .int (-1)), (1, .int (-1)), (0, .ref (gB E + za0))]) hx hb dX1_spreadOfMoves_5 rfl hl (by decide) rfl (fun ls hl => ?_)
  exact L_6 N za0 (-1) (-1) 0 _ _ _ ls hf hw (lv_sub hl [3, 2, 1, 0] rfl)
abbrev rm_X1_isBetterThan : Room := { frames := 0, cells := 0, slots := 0, locals := 0 }
set_option maxHeartbeats 4000000 in
set_option maxRecDepth 100000 in
theorem c_X1_isBetterThan (l : Launch) (E : gE) (N : Nat) (za0 : Nat) (za1 : Nat) (zh : PH) {h9 : PH} {r9 : Int32} (hf : f_X1_isBetterThan N za0 za1 zh = some (r9, h9)) : Met l yX1_isBetterThan (gWS yX1_isBetterThan cX1_isBetterThan 2 (some .boolean)) rm_X1_isBetterThan (gPc E [.ref (gB E + za0), .ref (gB E + za1)] zh) (gQi E r9 h9) 0 0 (gA E) := by
  refine gx_met (by decide) ?_ rfl
  intro p e s m below meth c X hr hlk hin2 hw
  have hx := X.1.1
  have hb := X.1.2.1
  have hl := lv_entry [.ref (gB E + za0), .ref (gB E + za1)] (n := 2) (Nat.le_of_ble_eq_true rfl)
  rw [lg_entry_eq]
  generalize (lg_sl [.ref (gB E + za0), .ref (gB E + za1)] ++ List.replicate (2 - (lg_sl [.ref (gB E + za0), .ref (gB E + za1)]).length) Slot.unset).toArray = ls at hl ⊢
  have hl : lv_has ls 2 [(0, .ref (gB E + za0)), (1, .ref (gB E + za1))] := hl
  have J_38 : ∀ (zs0 : Int32) (zh : PH) (H : Heap) (locs : List Loc) (ls : Array Slot), f_X1_isBetterThan_38 N zs0 zh = some (r9, h9) → gw E s zh H locs → lv_has ls 2 [] → W p l e rm_X1_isBetterThan s m [.ref (gB E + za0), .ref (gB E + za1)].toArray below meth c H locs 0 0 (MQ below (gQi E r9 h9) [.ref (gB E + za0), .ref (gB E + za1)].toArray s 0 0 (gA E)) (F0 m 38 ls [.int zs0]) := by
    intro zs0 zh H locs ls hf hw hl
    unfold f_X1_isBetterThan_38 at hf
    exact gx_zret X hr hlk hw hf dX1_isBetterThan_38
  have J_37 : ∀ (zh : PH) (H : Heap) (locs : List Loc) (ls : Array Slot), f_X1_isBetterThan_37 N zh = some (r9, h9) → gw E s zh H locs → lv_has ls 2 [] → W p l e rm_X1_isBetterThan s m [.ref (gB E + za0), .ref (gB E + za1)].toArray below meth c H locs 0 0 (MQ below (gQi E r9 h9) [.ref (gB E + za0), .ref (gB E + za1)].toArray s 0 0 (gA E)) (F0 m 37 ls []) := by
    intro zh H locs ls hf hw hl
    unfold f_X1_isBetterThan_37 at hf
    refine lv_iconst (v := 0) hx hb dX1_isBetterThan_37 (by decide) ?_
    exact J_38 0 _ _ _ ls hf hw (lv_sub hl [] rfl)
  have J_33 : ∀ (zh : PH) (H : Heap) (locs : List Loc) (ls : Array Slot), f_X1_isBetterThan_33 N zh = some (r9, h9) → gw E s zh H locs → lv_has ls 2 [] → W p l e rm_X1_isBetterThan s m [.ref (gB E + za0), .ref (gB E + za1)].toArray below meth c H locs 0 0 (MQ below (gQi E r9 h9) [.ref (gB E + za0), .ref (gB E + za1)].toArray s 0 0 (gA E)) (F0 m 33 ls []) := by
    intro zh H locs ls hf hw hl
    unfold f_X1_isBetterThan_33 at hf
    refine lv_iconst (v := 1) hx hb dX1_isBetterThan_33 (by decide) ?_
    refine lv_goto (tgt := 38) hx hb dX1_isBetterThan_34 (by decide) ?_
    exact J_38 1 _ _ _ ls hf hw (lv_sub hl [] rfl)
  unfold f_X1_isBetterThan at hf
  refine lv_aload_n hx hb dX1_isBetterThan_0 rfl (lv_at hl 0 rfl) ?_
  obtain ⟨zt1, qzt1, hf⟩ := gb_el hf
  refine gx_getI X hw qzt1 clX1 (by decide) mf_X1_30 dX1_isBetterThan_1 ?_
  refine lv_aload_n hx hb dX1_isBetterThan_4 rfl (lv_at hl 1 rfl) ?_
  obtain ⟨zt2, qzt2, hf⟩ := gb_el hf
  refine gx_getI X hw qzt2 clX1 (by decide) mf_X1_30 dX1_isBetterThan_5 ?_
  refine lv_icmp_lt (tgt := 33) hx hb dX1_isBetterThan_8 (by decide) (fun qc3 => ?_) (fun qc3 => ?_)
  · have hf := gif_t hf qc3
    exact J_33  _ _ _ ls hf hw (lv_sub hl [] rfl)
  · have hf := gif_f hf qc3
    refine lv_aload_n hx hb dX1_isBetterThan_11 rfl (lv_at hl 0 rfl) ?_
    obtain ⟨zt4, qzt4, hf⟩ := gb_el hf
    refine gx_getI X hw qzt4 clX1 (by decide) mf_X1_30 dX1_isBetterThan_12 ?_
    refine lv_aload_n hx hb dX1_isBetterThan_15 rfl (lv_at hl 1 rfl) ?_
    obtain ⟨zt5, qzt5, hf⟩ := gb_el hf
    refine gx_getI X hw qzt5 clX1 (by decide) mf_X1_30 dX1_isBetterThan_16 ?_
    refine W.eq (g2 := F0 m 19 ls [.int zt5, .int zt4]) rfl ?_
    refine lv_icmp_ne (tgt := 37) hx hb dX1_isBetterThan_19 (by decide) (fun qc6 => ?_) (fun qc6 => ?_)
    · have hf := gif_f hf qc6
      exact J_37  _ _ _ ls hf hw (lv_sub hl [] rfl)
    · have hf := gif_t hf qc6
      refine lv_aload_n hx hb dX1_isBetterThan_22 rfl (lv_at hl 0 rfl) ?_
      obtain ⟨zt7, qzt7, hf⟩ := gb_el hf
      refine gx_getI X hw qzt7 clX1 (by decide) mf_X1_34 dX1_isBetterThan_23 ?_
      refine lv_aload_n hx hb dX1_isBetterThan_26 rfl (lv_at hl 1 rfl) ?_
      obtain ⟨zt8, qzt8, hf⟩ := gb_el hf
      refine gx_getI X hw qzt8 clX1 (by decide) mf_X1_34 dX1_isBetterThan_27 ?_
      refine lv_icmp_ge (tgt := 37) hx hb dX1_isBetterThan_30 (by decide) (fun qc9 => ?_) (fun qc9 => ?_)
      · have hf := gif_t hf qc9
        exact J_37  _ _ _ ls hf hw (lv_sub hl [] rfl)
      · have hf := gif_f hf qc9
        exact J_33  _ _ _ ls hf hw (lv_sub hl [] rfl)
abbrev rm_X2_init : Room := { frames := 1, cells := 6, slots := 1045, locals := 20 }
set_option maxHeartbeats 4000000 in
set_option maxRecDepth 100000 in
theorem c_X2_init (l : Launch) (E : gE) (N : Nat) (za0 : Nat) (zh : PH) {h9 : PH} (hf : f_X2_init N za0 zh = some h9) : Met l yX2_init (gWS yX2_init cX2_init 1 none) rm_X2_init (gPc E [.ref (gB E + za0)] zh) (gQv E h9) 6 1045 (gA E) := by
  refine gx_met (by decide) ?_ rfl
  intro p e s m below meth c X hr hlk hin2 hw
  have hx := X.1.1
  have hb := X.1.2.1
  have hl := lv_entry [.ref (gB E + za0)] (n := 1) (Nat.le_of_ble_eq_true rfl)
  rw [lg_entry_eq]
  generalize (lg_sl [.ref (gB E + za0)] ++ List.replicate (1 - (lg_sl [.ref (gB E + za0)]).length) Slot.unset).toArray = ls at hl ⊢
  have hl : lv_has ls 1 [(0, .ref (gB E + za0))] := hl
  unfold f_X2_init at hf
  refine lv_aload_n hx hb dX2_init_0 rfl (lv_at hl 0 rfl) ?_
  refine gx_oinit X mm_X2_5 mo_inst mo_code hl.1 dX2_init_1 (Nat.le_of_ble_eq_true rfl) (Nat.le_of_ble_eq_true rfl) ?_
  refine lv_aload_n hx hb dX2_init_4 rfl (lv_at hl 0 rfl) ?_
  refine lv_bipush (v := 10) hx hb dX2_init_5 (by decide) ?_
  obtain ⟨zr2, zh1, qzh1, hf⟩ := gc_el hf
  refine gx_newa0 X hw qzh1 ma_int (by decide) (by decide) (by decide) (Nat.le_of_ble_eq_true rfl) (Nat.le_of_ble_eq_true rfl) dX2_init_7 (fun H hw => ?_)
  obtain ⟨zh3, qzh3, hf⟩ := gb_el hf
  refine gx_putFV X hw qzh3 clX2 (by decide) mf_X2_11 rfl (hin2 rfl) rfl rfl rfl dX2_init_9 (fun H locs hw => ?_)
  refine lv_aload_n hx hb dX2_init_12 rfl (lv_at hl 0 rfl) ?_
  refine lv_bipush (v := 10) hx hb dX2_init_13 (by decide) ?_
  obtain ⟨zr5, zh4, qzh4, hf⟩ := gc_el hf
  refine gx_newa0 X hw qzh4 ma_int (by decide) (by decide) (by decide) (Nat.le_of_ble_eq_true rfl) (Nat.le_of_ble_eq_true rfl) dX2_init_15 (fun H hw => ?_)
  refine W.eq (g2 := F0 m 17 ls [.ref (gB E + zr5), .ref (gB E + za0)]) rfl ?_
  obtain ⟨zh6, qzh6, hf⟩ := gb_el hf
  refine gx_putFV X hw qzh6 clX2 (by decide) mf_X2_15 rfl (hin2 rfl) rfl rfl rfl dX2_init_17 (fun H locs hw => ?_)
  refine lv_aload_n hx hb dX2_init_20 rfl (lv_at hl 0 rfl) ?_
  refine lv_bipush (v := 10) hx hb dX2_init_21 (by decide) ?_
  obtain ⟨zr8, zh7, qzh7, hf⟩ := gc_el hf
  refine gx_newa0 X hw qzh7 ma_int (by decide) (by decide) (by decide) (Nat.le_of_ble_eq_true rfl) (Nat.le_of_ble_eq_true rfl) dX2_init_23 (fun H hw => ?_)
  obtain ⟨zh9, qzh9, hf⟩ := gb_el hf
  refine gx_putFV X hw qzh9 clX2 (by decide) mf_X2_18 rfl (hin2 rfl) rfl rfl rfl dX2_init_25 (fun H locs hw => ?_)
  refine lv_aload_n hx hb dX2_init_28 rfl (lv_at hl 0 rfl) ?_
  refine lv_bipush (v := 10) hx hb dX2_init_29 (by decide) ?_
  obtain ⟨zr11, zh10, qzh10, hf⟩ := gc_el hf
  refine gx_newa1 X hw qzh10 ma_long (by decide) (by decide) (by decide) (Nat.le_of_ble_eq_true rfl) (Nat.le_of_ble_eq_true rfl) dX2_init_31 (fun H hw => ?_)
  obtain ⟨zh12, qzh12, hf⟩ := gb_el hf
  refine gx_putFV X hw qzh12 clX2 (by decide) mf_X2_21 rfl (hin2 rfl) rfl rfl rfl dX2_init_33 (fun H locs hw => ?_)
  refine lv_aload_n hx hb dX2_init_36 rfl (lv_at hl 0 rfl) ?_
  refine W.eq (g2 := F0 m 37 ls [.ref (gB E + za0)]) rfl ?_
  refine lv_sipush (v := 1000) hx hb dX2_init_37 (by decide) ?_
  obtain ⟨zr14, zh13, qzh13, hf⟩ := gc_el hf
  refine gx_newa0 X hw qzh13 ma_int (by decide) (by decide) (by decide) (Nat.le_of_ble_eq_true rfl) (Nat.le_of_ble_eq_true rfl) dX2_init_40 (fun H hw => ?_)
  obtain ⟨zh15, qzh15, hf⟩ := gb_el hf
  refine gx_putFV X hw qzh15 clX2 (by decide) mf_X2_25 rfl (hin2 rfl) rfl rfl rfl dX2_init_42 (fun H locs hw => ?_)
  refine lv_aload_n hx hb dX2_init_45 rfl (lv_at hl 0 rfl) ?_
  refine lv_iconst (v := 5) hx hb dX2_init_46 (by decide) ?_
  obtain ⟨zr17, zh16, qzh16, hf⟩ := gc_el hf
  refine gx_newa0 X hw qzh16 ma_int (by decide) (by decide) (by decide) (Nat.le_of_ble_eq_true rfl) (Nat.le_of_ble_eq_true rfl) dX2_init_47 (fun H hw => ?_)
  obtain ⟨zh18, qzh18, hf⟩ := gb_el hf
  refine gx_putFV X hw qzh18 clX2 (by decide) mf_X2_28 rfl (hin2 rfl) rfl rfl rfl dX2_init_49 (fun H locs hw => ?_)
  exact gx_vret X hr hlk hw hf dX2_init_52
abbrev rm_X2_forget : Room := { frames := 0, cells := 0, slots := 0, locals := 0 }
set_option maxHeartbeats 4000000 in
set_option maxRecDepth 100000 in
theorem c_X2_forget (l : Launch) (E : gE) (N : Nat) (za0 : Nat) (zh : PH) {h9 : PH} (hf : f_X2_forget N za0 zh = some h9) : Met l yX2_forget (gWS yX2_forget cX2_forget 1 none) rm_X2_forget (gPc E [.ref (gB E + za0)] zh) (gQv E h9) 0 0 (gA E) := by
  refine gx_met (by decide) ?_ rfl
  intro p e s m below meth c X hr hlk hin2 hw
  have hx := X.1.1
  have hb := X.1.2.1
  have hl := lv_entry [.ref (gB E + za0)] (n := 1) (Nat.le_of_ble_eq_true rfl)
  rw [lg_entry_eq]
  generalize (lg_sl [.ref (gB E + za0)] ++ List.replicate (1 - (lg_sl [.ref (gB E + za0)]).length) Slot.unset).toArray = ls at hl ⊢
  have hl : lv_has ls 1 [(0, .ref (gB E + za0))] := hl
  unfold f_X2_forget at hf
  refine lv_aload_n hx hb dX2_forget_0 rfl (lv_at hl 0 rfl) ?_
  refine lv_iconst (v := 0) hx hb dX2_forget_1 (by decide) ?_
  obtain ⟨zh1, qzh1, hf⟩ := gb_el hf
  refine gx_putV X hw qzh1 clX2 (by decide) mf_X2_31 rfl rfl rfl dX2_forget_2 (fun H locs hw => ?_)
  refine lv_aload_n hx hb dX2_forget_5 rfl (lv_at hl 0 rfl) ?_
  refine lv_iconst (v := 0) hx hb dX2_forget_6 (by decide) ?_
  obtain ⟨zh2, qzh2, hf⟩ := gb_el hf
  refine gx_putV X hw qzh2 clX2 (by decide) mf_X2_35 rfl rfl rfl dX2_forget_7 (fun H locs hw => ?_)
  refine lv_aload_n hx hb dX2_forget_10 rfl (lv_at hl 0 rfl) ?_
  refine lv_iconst (v := 0) hx hb dX2_forget_11 (by decide) ?_
  obtain ⟨zh3, qzh3, hf⟩ := gb_el hf
  refine gx_putV X hw qzh3 clX2 (by decide) mf_X2_38 rfl rfl rfl dX2_forget_12 (fun H locs hw => ?_)
  refine W.eq (g2 := F0 m 15 ls []) rfl ?_
  refine lv_aload_n hx hb dX2_forget_15 rfl (lv_at hl 0 rfl) ?_
  refine lv_iconst (v := 0) hx hb dX2_forget_16 (by decide) ?_
  obtain ⟨zh4, qzh4, hf⟩ := gb_el hf
  refine gx_putV X hw qzh4 clX2 (by decide) mf_X2_41 rfl rfl rfl dX2_forget_17 (fun H locs hw => ?_)
  refine lv_aload_n hx hb dX2_forget_20 rfl (lv_at hl 0 rfl) ?_
  refine lv_iconst (v := 0) hx hb dX2_forget_21 (by decide) ?_
  obtain ⟨zh5, qzh5, hf⟩ := gb_el hf
  refine gx_putV X hw qzh5 clX2 (by decide) mf_X2_44 rfl rfl rfl dX2_forget_22 (fun H locs hw => ?_)
  refine lv_aload_n hx hb dX2_forget_25 rfl (lv_at hl 0 rfl) ?_
  refine lv_iconst (v := 0) hx hb dX2_forget_26 (by decide) ?_
  obtain ⟨zh6, qzh6, hf⟩ := gb_el hf
  refine gx_putV X hw qzh6 clX2 (by decide) mf_X2_47 rfl rfl rfl dX2_forget_27 (fun H locs hw => ?_)
  exact gx_vret X hr hlk hw hf dX2_forget_30
abbrev rm_X2_addRoom : Room := { frames := 0, cells := 0, slots := 0, locals := 0 }
set_option maxHeartbeats 4000000 in
set_option maxRecDepth 100000 in
theorem c_X2_addRoom (l : Launch) (E : gE) (N : Nat) (za0 : Nat) (za1 : Int32) (za2 : Int32) (zh : PH) {h9 : PH} (hf : f_X2_addRoom N za0 za1 za2 zh = some h9) : Met l yX2_addRoom (gWS yX2_addRoom cX2_addRoom 3 none) rm_X2_addRoom (gPc E [.ref (gB E + za0), .int za1, .int za2] zh) (gQv E h9) 0 0 (gA E) := by
  refine gx_met (by decide) ?_ rfl
  intro p e s m below meth c X hr hlk hin2 hw
  have hx := X.1.1
  have hb := X.1.2.1
  have hl := lv_entry [.ref (gB E + za0), .int za1, .int za2] (n := 3) (Nat.le_of_ble_eq_true rfl)
  rw [lg_entry_eq]
  generalize (lg_sl [.ref (gB E + za0), .int za1, .int za2] ++ List.replicate (3 - (lg_sl [.ref (gB E + za0), .int za1, .int za2]).length) Slot.unset).toArray = ls at hl ⊢
  have hl : lv_has ls 3 [(0, .ref (gB E + za0)), (1, .int za1), (2, .int za2)] := hl
  have J_39 : ∀ (zh : PH) (H : Heap) (locs : List Loc) (ls : Array Slot), f_X2_addRoom_39 N zh = some h9 → gw E s zh H locs → lv_has ls 3 [] → W p l e rm_X2_addRoom s m [.ref (gB E + za0), .int za1, .int za2].toArray below meth c H locs 0 0 (MQ below (gQv E h9) [.ref (gB E + za0), .int za1, .int za2].toArray s 0 0 (gA E)) (F0 m 39 ls []) := by
    intro zh H locs ls hf hw hl
    unfold f_X2_addRoom_39 at hf
    exact gx_vret X hr hlk hw hf dX2_addRoom_39
  unfold f_X2_addRoom at hf
  refine lv_aload_n hx hb dX2_addRoom_0 rfl (lv_at hl 0 rfl) ?_
  obtain ⟨zt1, qzt1, hf⟩ := gb_el hf
  refine gx_getI X hw qzt1 clX2 (by decide) mf_X2_31 dX2_addRoom_1 ?_
  refine lv_bipush (v := 10) hx hb dX2_addRoom_4 (by decide) ?_
  refine lv_icmp_ge (tgt := 39) hx hb dX2_addRoom_6 (by decide) (fun qc2 => ?_) (fun qc2 => ?_)
  · have hf := gif_t hf qc2
    exact J_39  _ _ _ ls hf hw (lv_sub hl [] rfl)
  · have hf := gif_f hf qc2
    refine lv_aload_n hx hb dX2_addRoom_9 rfl (lv_at hl 0 rfl) ?_
    obtain ⟨zt3, qzt3, hf⟩ := gb_el hf
    refine gx_getR X hw qzt3 clX2 (by decide) mf_X2_11 dX2_addRoom_10 ?_
    refine lv_aload_n hx hb dX2_addRoom_13 rfl (lv_at hl 0 rfl) ?_
    obtain ⟨zt4, qzt4, hf⟩ := gb_el hf
    refine gx_getI X hw qzt4 clX2 (by decide) mf_X2_31 dX2_addRoom_14 ?_
    refine lv_iload_n hx hb dX2_addRoom_17 rfl (lv_at hl 1 rfl) ?_
    refine W.eq (g2 := F0 m 18 ls [.int za1, .int zt4, .ref (gB E + zt3)]) rfl ?_
    obtain ⟨zh5, qzh5, hf⟩ := gb_el hf
    refine gx_iast X hw qzh5 dX2_addRoom_18 (fun H locs hw => ?_)
    refine lv_aload_n hx hb dX2_addRoom_19 rfl (lv_at hl 0 rfl) ?_
    obtain ⟨zt6, qzt6, hf⟩ := gb_el hf
    refine gx_getR X hw qzt6 clX2 (by decide) mf_X2_15 dX2_addRoom_20 ?_
    refine lv_aload_n hx hb dX2_addRoom_23 rfl (lv_at hl 0 rfl) ?_
    obtain ⟨zt7, qzt7, hf⟩ := gb_el hf
    refine gx_getI X hw qzt7 clX2 (by decide) mf_X2_31 dX2_addRoom_24 ?_
    refine lv_iload_n hx hb dX2_addRoom_27 rfl (lv_at hl 2 rfl) ?_
    obtain ⟨zh8, qzh8, hf⟩ := gb_el hf
    refine gx_iast X hw qzh8 dX2_addRoom_28 (fun H locs hw => ?_)
    refine lv_aload_n hx hb dX2_addRoom_29 rfl (lv_at hl 0 rfl) ?_
    refine lv_dup hx hb dX2_addRoom_30 rfl ?_
    obtain ⟨zt9, qzt9, hf⟩ := gb_el hf
    refine gx_getI X hw qzt9 clX2 (by decide) mf_X2_31 dX2_addRoom_31 ?_
    refine W.eq (g2 := F0 m 34 ls [.int zt9, .ref (gB E + za0)]) rfl ?_
    refine lv_iconst (v := 1) hx hb dX2_addRoom_34 (by decide) ?_
    refine lv_iadd hx hb dX2_addRoom_35 ?_
    obtain ⟨zh10, qzh10, hf⟩ := gb_el hf
    refine gx_putV X hw qzh10 clX2 (by decide) mf_X2_31 rfl rfl rfl dX2_addRoom_36 (fun H locs hw => ?_)
    exact J_39  _ _ _ ls hf hw (lv_sub hl [] rfl)
abbrev rm_X2_addGuest : Room := { frames := 0, cells := 0, slots := 0, locals := 0 }
set_option maxHeartbeats 4000000 in
set_option maxRecDepth 100000 in
theorem c_X2_addGuest (l : Launch) (E : gE) (N : Nat) (za0 : Nat) (za1 : Int64) (za3 : Int32) (za4 : Int32) (za5 : Int32) (zh : PH) {h9 : PH} (hf : f_X2_addGuest N za0 za1 za3 za4 za5 zh = some h9) : Met l yX2_addGuest (gWS yX2_addGuest cX2_addGuest 6 none) rm_X2_addGuest (gPc E [.ref (gB E + za0), .long za1, .int za3, .int za4, .int za5] zh) (gQv E h9) 0 0 (gA E) := by
  refine gx_met (by decide) ?_ rfl
  intro p e s m below meth c X hr hlk hin2 hw
  have hx := X.1.1
  have hb := X.1.2.1
  have hl := lv_entry [.ref (gB E + za0), .long za1, .int za3, .int za4, .int za5] (n := 6) (Nat.le_of_ble_eq_true rfl)
  rw [lg_entry_eq]
  generalize (lg_sl [.ref (gB E + za0), .long za1, .int za3, .int za4, .int za5] ++ List.replicate (6 - (lg_sl [.ref (gB E + za0), .long za1, .int za3, .int za4, .int za5]).length) Slot.unset).toArray = ls at hl ⊢
  have hl : lv_has ls 6 [(0, .ref (gB E + za0)), (1, .long za1), (3, .int za3), (4, .int za4), (5, .int za5)] := hl
  have J_87 : ∀ (zh : PH) (H : Heap) (locs : List Loc) (ls : Array Slot), f_X2_addGuest_87 N zh = some h9 → gw E s zh H locs → lv_has ls 6 [] → W p l e rm_X2_addGuest s m [.ref (gB E + za0), .long za1, .int za3, .int za4, .int za5].toArray below meth c H locs 0 0 (MQ below (gQv E h9) [.ref (gB E + za0), .long za1, .int za3, .int za4, .int za5].toArray s 0 0 (gA E)) (F0 m 87 ls []) := by
    intro zh H locs ls hf hw hl
    unfold f_X2_addGuest_87 at hf
    exact gx_vret X hr hlk hw hf dX2_addGuest_87
  have J_73 : ∀ (zv0 : Nat) (zs0 : Int32) (zs1 : Int32) (zs2 : Nat) (zh : PH) (H : Heap) (locs : List Loc) (ls : Array Slot), f_X2_addGuest_73 N zv0 zs0 zs1 zs2 zh = some h9 → gw E s zh H locs → lv_has ls 6 [(0, .ref (gB E + zv0))] → W p l e rm_X2_addGuest s m [.ref (gB E + za0), .long za1, .int za3, .int za4, .int za5].toArray below meth c H locs 0 0 (MQ below (gQv E h9) [.ref (gB E + za0), .long za1, .int za3, .int za4, .int za5].toArray s 0 0 (gA E)) (F0 m 73 ls [.int zs0, .int zs1, .ref (gB E + zs2)]) := by
    intro zv0 zs0 zs1 zs2 zh H locs ls hf hw hl
    unfold f_X2_addGuest_73 at hf
    refine lv_ior hx hb dX2_addGuest_73 ?_
    obtain ⟨zh1, qzh1, hf⟩ := gb_el hf
    refine gx_putV X hw qzh1 clX2 (by decide) mf_X2_44 rfl rfl rfl dX2_addGuest_74 (fun H locs hw => ?_)
    refine lv_aload_n hx hb dX2_addGuest_77 rfl (lv_at hl 0 rfl) ?_
    refine lv_dup hx hb dX2_addGuest_78 rfl ?_
    obtain ⟨zt2, qzt2, hf⟩ := gb_el hf
    refine gx_getI X hw qzt2 clX2 (by decide) mf_X2_35 dX2_addGuest_79 ?_
    refine lv_iconst (v := 1) hx hb dX2_addGuest_82 (by decide) ?_
    refine lv_iadd hx hb dX2_addGuest_83 ?_
    obtain ⟨zh3, qzh3, hf⟩ := gb_el hf
    refine gx_putV X hw qzh3 clX2 (by decide) mf_X2_35 rfl rfl rfl dX2_addGuest_84 (fun H locs hw => ?_)
    exact J_87  _ _ _ ls hf hw (lv_sub hl [] rfl)
  have J_49 : ∀ (zv0 : Nat) (zv5 : Int32) (zs0 : Int32) (zs1 : Int32) (zs2 : Nat) (zh : PH) (H : Heap) (locs : List Loc) (ls : Array Slot), f_X2_addGuest_49 N zv0 zv5 zs0 zs1 zs2 zh = some h9 → gw E s zh H locs → lv_has ls 6 [(0, .ref (gB E + zv0)), (5, .int zv5)] → W p l e rm_X2_addGuest s m [.ref (gB E + za0), .long za1, .int za3, .int za4, .int za5].toArray below meth c H locs 0 0 (MQ below (gQv E h9) [.ref (gB E + za0), .long za1, .int za3, .int za4, .int za5].toArray s 0 0 (gA E)) (F0 m 49 ls [.int zs0, .int zs1, .ref (gB E + zs2)]) := by
    intro zv0 zv5 zs0 zs1 zs2 zh H locs ls hf hw hl
    unfold f_X2_addGuest_49 at hf
    refine lv_ior hx hb dX2_addGuest_49 ?_
    obtain ⟨zh1, qzh1, hf⟩ := gb_el hf
    refine gx_putV X hw qzh1 clX2 (by decide) mf_X2_41 rfl rfl rfl dX2_addGuest_50 (fun H locs hw => ?_)
    refine lv_aload_n hx hb dX2_addGuest_53 rfl (lv_at hl 0 rfl) ?_
    refine lv_dup hx hb dX2_addGuest_54 rfl ?_
    obtain ⟨zt2, qzt2, hf⟩ := gb_el hf
    refine gx_getI X hw qzt2 clX2 (by decide) mf_X2_44 dX2_addGuest_55 ?_
    refine lv_iload hx hb dX2_addGuest_58 (lv_at hl 1 rfl) ?_
    refine lv_if_eq (tgt := 72) hx hb dX2_addGuest_60 (by decide) (fun qc3 => ?_) (fun qc3 => ?_)
    · have hf := gif_t hf qc3
      refine lv_iconst (v := 0) hx hb dX2_addGuest_72 (by decide) ?_
      exact J_73 zv0 0 zt2 zv0 _ _ _ ls hf hw (lv_sub hl [0] rfl)
    · have hf := gif_f hf qc3
      refine lv_iconst (v := 1) hx hb dX2_addGuest_63 (by decide) ?_
      refine lv_aload_n hx hb dX2_addGuest_64 rfl (lv_at hl 0 rfl) ?_
      refine W.eq (g2 := F0 m 65 ls [.ref (gB E + zv0), .int 1, .int zt2, .ref (gB E + zv0)]) rfl ?_
      obtain ⟨zt4, qzt4, hf⟩ := gb_el hf
      refine gx_getI X hw qzt4 clX2 (by decide) mf_X2_35 dX2_addGuest_65 ?_
      refine lv_ishl hx hb dX2_addGuest_68 ?_
      refine lv_goto (tgt := 73) hx hb dX2_addGuest_69 (by decide) ?_
      exact J_73 zv0 (1 <<< (zt4 &&& 31)) zt2 zv0 _ _ _ ls hf hw (lv_sub hl [0] rfl)
  unfold f_X2_addGuest at hf
  refine lv_aload_n hx hb dX2_addGuest_0 rfl (lv_at hl 0 rfl) ?_
  obtain ⟨zt1, qzt1, hf⟩ := gb_el hf
  refine gx_getI X hw qzt1 clX2 (by decide) mf_X2_35 dX2_addGuest_1 ?_
  refine lv_bipush (v := 10) hx hb dX2_addGuest_4 (by decide) ?_
  refine lv_icmp_ge (tgt := 87) hx hb dX2_addGuest_6 (by decide) (fun qc2 => ?_) (fun qc2 => ?_)
  · have hf := gif_t hf qc2
    exact J_87  _ _ _ ls hf hw (lv_sub hl [] rfl)
  · have hf := gif_f hf qc2
    refine lv_aload_n hx hb dX2_addGuest_9 rfl (lv_at hl 0 rfl) ?_
    obtain ⟨zt3, qzt3, hf⟩ := gb_el hf
    refine gx_getR X hw qzt3 clX2 (by decide) mf_X2_21 dX2_addGuest_10 ?_
    refine lv_aload_n hx hb dX2_addGuest_13 rfl (lv_at hl 0 rfl) ?_
    obtain ⟨zt4, qzt4, hf⟩ := gb_el hf
    refine gx_getI X hw qzt4 clX2 (by decide) mf_X2_35 dX2_addGuest_14 ?_
    refine lv_lload_n hx hb dX2_addGuest_17 rfl (lv_at hl 1 rfl) ?_
    refine W.eq (g2 := F0 m 18 ls [.long za1, .int zt4, .ref (gB E + zt3)]) rfl ?_
    obtain ⟨zh5, qzh5, hf⟩ := gb_el hf
    refine gx_last X hw qzh5 dX2_addGuest_18 (fun H locs hw => ?_)
    refine lv_aload_n hx hb dX2_addGuest_19 rfl (lv_at hl 0 rfl) ?_
    obtain ⟨zt6, qzt6, hf⟩ := gb_el hf
    refine gx_getR X hw qzt6 clX2 (by decide) mf_X2_18 dX2_addGuest_20 ?_
    refine lv_aload_n hx hb dX2_addGuest_23 rfl (lv_at hl 0 rfl) ?_
    obtain ⟨zt7, qzt7, hf⟩ := gb_el hf
    refine gx_getI X hw qzt7 clX2 (by decide) mf_X2_35 dX2_addGuest_24 ?_
    refine lv_iload_n hx hb dX2_addGuest_27 rfl (lv_at hl 2 rfl) ?_
    obtain ⟨zh8, qzh8, hf⟩ := gb_el hf
    refine gx_iast X hw qzh8 dX2_addGuest_28 (fun H locs hw => ?_)
    refine lv_aload_n hx hb dX2_addGuest_29 rfl (lv_at hl 0 rfl) ?_
    refine lv_dup hx hb dX2_addGuest_30 rfl ?_
    obtain ⟨zt9, qzt9, hf⟩ := gb_el hf
    refine gx_getI X hw qzt9 clX2 (by decide) mf_X2_41 dX2_addGuest_31 ?_
    refine W.eq (g2 := F0 m 34 ls [.int zt9, .ref (gB E + za0)]) rfl ?_
    refine lv_iload hx hb dX2_addGuest_34 (lv_at hl 3 rfl) ?_
    refine lv_if_eq (tgt := 48) hx hb dX2_addGuest_36 (by decide) (fun qc10 => ?_) (fun qc10 => ?_)
    · have hf := gif_t hf qc10
      refine lv_iconst (v := 0) hx hb dX2_addGuest_48 (by decide) ?_
      exact J_49 za0 za5 0 zt9 za0 _ _ _ ls hf hw (lv_sub hl [0, 4] rfl)
    · have hf := gif_f hf qc10
      refine lv_iconst (v := 1) hx hb dX2_addGuest_39 (by decide) ?_
      refine lv_aload_n hx hb dX2_addGuest_40 rfl (lv_at hl 0 rfl) ?_
      obtain ⟨zt11, qzt11, hf⟩ := gb_el hf
      refine gx_getI X hw qzt11 clX2 (by decide) mf_X2_35 dX2_addGuest_41 ?_
      refine lv_ishl hx hb dX2_addGuest_44 ?_
      refine lv_goto (tgt := 49) hx hb dX2_addGuest_45 (by decide) ?_
      exact J_49 za0 za5 (1 <<< (zt11 &&& 31)) zt9 za0 _ _ _ ls hf hw (lv_sub hl [0, 4] rfl)
abbrev rm_X2_hasName : Room := { frames := 0, cells := 0, slots := 0, locals := 0 }
set_option maxHeartbeats 4000000 in
set_option maxRecDepth 100000 in
theorem c_X2_hasName (l : Launch) (E : gE) (N : Nat) (za0 : Nat) (za1 : Int64) (zh : PH) {h9 : PH} {r9 : Int32} (hf : f_X2_hasName N za0 za1 zh = some (r9, h9)) : Met l yX2_hasName (gWS yX2_hasName cX2_hasName 4 (some .boolean)) rm_X2_hasName (gPc E [.ref (gB E + za0), .long za1] zh) (gQi E r9 h9) 0 0 (gA E) := by
  refine gx_met (by decide) ?_ rfl
  intro p e s m below meth c X hr hlk hin2 hw
  have hx := X.1.1
  have hb := X.1.2.1
  have hl := lv_entry [.ref (gB E + za0), .long za1] (n := 4) (Nat.le_of_ble_eq_true rfl)
  rw [lg_entry_eq]
  generalize (lg_sl [.ref (gB E + za0), .long za1] ++ List.replicate (4 - (lg_sl [.ref (gB E + za0), .long za1]).length) Slot.unset).toArray = ls at hl ⊢
  have hl : lv_has ls 4 [(0, .ref (gB E + za0)), (1, .long za1)] := hl
  have L_2 : ∀ (zn2 : Nat) (zv0 : Nat) (zv1 : Int64) (zv3 : Int32) (zh : PH) (H : Heap) (locs : List Loc) (ls : Array Slot), gi (fun zk zs => f_X2_hasName_2 N zk zs.1 zs.2.1 zs.2.2.1 zs.2.2.2) zn2 (zv0, zv1, zv3, zh) = some (r9, h9) → gw E s zh H locs → lv_has ls 4 [(0, .ref (gB E + zv0)), (1, .long zv1), (3, .int zv3)] → W p l e rm_X2_hasName s m [.ref (gB E + za0), .long za1].toArray below meth c H locs 0 0 (MQ below (gQi E r9 h9) [.ref (gB E + za0), .long za1].toArray s 0 0 (gA E)) (F0 m 2 ls []) := by
    intro zn2
    induction zn2 with
    | zero =>
      intro zv0 zv1 zv3 zh H locs ls hf
      cases hf
    | succ zn2 ih_2 =>
      intro zv0 zv1 zv3 zh H locs ls hf hw hl
      have hf := gi_s hf
      dsimp only at hf
      unfold f_X2_hasName_2 at hf
      refine lv_iload_n hx hb dX2_hasName_2 rfl (lv_at hl 2 rfl) ?_
      refine lv_aload_n hx hb dX2_hasName_3 rfl (lv_at hl 0 rfl) ?_
      obtain ⟨zt1, qzt1, hf⟩ := gb_el hf
      refine gx_getI X hw qzt1 clX2 (by decide) mf_X2_35 dX2_hasName_4 ?_
      refine lv_icmp_ge (tgt := 29) hx hb dX2_hasName_7 (by decide) (fun qc2 => ?_) (fun qc2 => ?_)
      · have hf := gif_t hf qc2
        refine lv_iconst (v := 0) hx hb dX2_hasName_29 (by decide) ?_
        exact gx_zret X hr hlk hw hf dX2_hasName_30
      · have hf := gif_f hf qc2
        refine lv_aload_n hx hb dX2_hasName_10 rfl (lv_at hl 0 rfl) ?_
        obtain ⟨zt3, qzt3, hf⟩ := gb_el hf
        refine gx_getR X hw qzt3 clX2 (by decide) mf_X2_21 dX2_hasName_11 ?_
        refine lv_iload_n hx hb dX2_hasName_14 rfl (lv_at hl 2 rfl) ?_
        obtain ⟨zt4, qzt4, hf⟩ := gb_el hf
        refine gx_lald X hw qzt4 dX2_hasName_15 ?_
        refine lv_lload_n hx hb dX2_hasName_16 rfl (lv_at hl 1 rfl) ?_
        refine W.eq (g2 := F0 m 17 ls [.long zv1, .long zt4]) rfl ?_
        refine W.lcmp hx hb dX2_hasName_17 ?_
        refine lv_if_ne (tgt := 23) hx hb dX2_hasName_18 (by decide) (fun qc5 => ?_) (fun qc5 => ?_)
        · have hf := gif_f hf qc5
          obtain ⟨zx6, ezx6⟩ : ∃ y : Int32, y = zv3 + 1 := ⟨_, rfl⟩
          have hf := gl_el hf ezx6
          refine lv_iinc (v := zx6) (lv' := [(3, .int zx6), (0, .ref (gB E + zv0)), (1, .long zv1)]) hx hb dX2_hasName_23 hl (k := 2) rfl (by rw [ezx6]; rfl) (by decide) rfl (fun ls hl => ?_)
          refine lv_goto (tgt := 2) hx hb dX2_hasName_26 (by decide) ?_
          exact ih_2 zv0 zv1 zx6 _ _ _ ls hf hw (lv_sub hl [1, 2, 0] rfl)
        · have hf := gif_t hf qc5
          refine lv_iconst (v := 1) hx hb dX2_hasName_21 (by decide) ?_
          exact gx_zret X hr hlk hw hf dX2_hasName_22
  unfold f_X2_hasName at hf
  refine lv_iconst (v := 0) hx hb dX2_hasName_0 (by decide) ?_
  refine lv_istore_n (lv' := [(3, .int 0), (0, .ref (gB E + za0)), (1, .long za1)]) hx hb dX2_hasName_1 rfl hl (by decide) rfl (fun ls hl => ?_)
  exact L_2 N za0 za1 0 _ _ _ ls hf hw (lv_sub hl [1, 2, 0] rfl)
abbrev rm_X2_addCode : Room := { frames := 0, cells := 0, slots := 0, locals := 0 }
set_option maxHeartbeats 4000000 in
set_option maxRecDepth 100000 in
theorem c_X2_addCode (l : Launch) (E : gE) (N : Nat) (za0 : Nat) (za1 : Int32) (zh : PH) {h9 : PH} (hf : f_X2_addCode N za0 za1 zh = some h9) : Met l yX2_addCode (gWS yX2_addCode cX2_addCode 2 none) rm_X2_addCode (gPc E [.ref (gB E + za0), .int za1] zh) (gQv E h9) 0 0 (gA E) := by
  refine gx_met (by decide) ?_ rfl
  intro p e s m below meth c X hr hlk hin2 hw
  have hx := X.1.1
  have hb := X.1.2.1
  have hl := lv_entry [.ref (gB E + za0), .int za1] (n := 2) (Nat.le_of_ble_eq_true rfl)
  rw [lg_entry_eq]
  generalize (lg_sl [.ref (gB E + za0), .int za1] ++ List.replicate (2 - (lg_sl [.ref (gB E + za0), .int za1]).length) Slot.unset).toArray = ls at hl ⊢
  have hl : lv_has ls 2 [(0, .ref (gB E + za0)), (1, .int za1)] := hl
  have J_32 : ∀ (zh : PH) (H : Heap) (locs : List Loc) (ls : Array Slot), f_X2_addCode_32 N zh = some h9 → gw E s zh H locs → lv_has ls 2 [] → W p l e rm_X2_addCode s m [.ref (gB E + za0), .int za1].toArray below meth c H locs 0 0 (MQ below (gQv E h9) [.ref (gB E + za0), .int za1].toArray s 0 0 (gA E)) (F0 m 32 ls []) := by
    intro zh H locs ls hf hw hl
    unfold f_X2_addCode_32 at hf
    exact gx_vret X hr hlk hw hf dX2_addCode_32
  unfold f_X2_addCode at hf
  refine lv_aload_n hx hb dX2_addCode_0 rfl (lv_at hl 0 rfl) ?_
  obtain ⟨zt1, qzt1, hf⟩ := gb_el hf
  refine gx_getI X hw qzt1 clX2 (by decide) mf_X2_47 dX2_addCode_1 ?_
  refine lv_aload_n hx hb dX2_addCode_4 rfl (lv_at hl 0 rfl) ?_
  obtain ⟨zt2, qzt2, hf⟩ := gb_el hf
  refine gx_getR X hw qzt2 clX2 (by decide) mf_X2_25 dX2_addCode_5 ?_
  obtain ⟨zt3, qzt3, hf⟩ := gb_el hf
  refine gx_alen X hw qzt3 rfl dX2_addCode_8 ?_
  refine lv_icmp_ge (tgt := 32) hx hb dX2_addCode_9 (by decide) (fun qc4 => ?_) (fun qc4 => ?_)
  · have hf := gif_t hf qc4
    exact J_32  _ _ _ ls hf hw (lv_sub hl [] rfl)
  · have hf := gif_f hf qc4
    refine lv_aload_n hx hb dX2_addCode_12 rfl (lv_at hl 0 rfl) ?_
    obtain ⟨zt5, qzt5, hf⟩ := gb_el hf
    refine gx_getR X hw qzt5 clX2 (by decide) mf_X2_25 dX2_addCode_13 ?_
    refine lv_aload_n hx hb dX2_addCode_16 rfl (lv_at hl 0 rfl) ?_
    refine W.eq (g2 := F0 m 17 ls [.ref (gB E + za0), .ref (gB E + zt5)]) rfl ?_
    obtain ⟨zt6, qzt6, hf⟩ := gb_el hf
    refine gx_getI X hw qzt6 clX2 (by decide) mf_X2_47 dX2_addCode_17 ?_
    refine lv_iload_n hx hb dX2_addCode_20 rfl (lv_at hl 1 rfl) ?_
    obtain ⟨zh7, qzh7, hf⟩ := gb_el hf
    refine gx_iast X hw qzh7 dX2_addCode_21 (fun H locs hw => ?_)
    refine lv_aload_n hx hb dX2_addCode_22 rfl (lv_at hl 0 rfl) ?_
    refine lv_dup hx hb dX2_addCode_23 rfl ?_
    obtain ⟨zt8, qzt8, hf⟩ := gb_el hf
    refine gx_getI X hw qzt8 clX2 (by decide) mf_X2_47 dX2_addCode_24 ?_
    refine lv_iconst (v := 1) hx hb dX2_addCode_27 (by decide) ?_
    refine lv_iadd hx hb dX2_addCode_28 ?_
    obtain ⟨zh9, qzh9, hf⟩ := gb_el hf
    refine gx_putV X hw qzh9 clX2 (by decide) mf_X2_47 rfl rfl rfl dX2_addCode_29 (fun H locs hw => ?_)
    exact J_32  _ _ _ ls hf hw (lv_sub hl [] rfl)
abbrev rm_X2_endRule : Room := { frames := 0, cells := 0, slots := 0, locals := 0 }
set_option maxHeartbeats 4000000 in
set_option maxRecDepth 100000 in
theorem c_X2_endRule (l : Launch) (E : gE) (N : Nat) (za0 : Nat) (zh : PH) {h9 : PH} (hf : f_X2_endRule N za0 zh = some h9) : Met l yX2_endRule (gWS yX2_endRule cX2_endRule 1 none) rm_X2_endRule (gPc E [.ref (gB E + za0)] zh) (gQv E h9) 0 0 (gA E) := by
  refine gx_met (by decide) ?_ rfl
  intro p e s m below meth c X hr hlk hin2 hw
  have hx := X.1.1
  have hb := X.1.2.1
  have hl := lv_entry [.ref (gB E + za0)] (n := 1) (Nat.le_of_ble_eq_true rfl)
  rw [lg_entry_eq]
  generalize (lg_sl [.ref (gB E + za0)] ++ List.replicate (1 - (lg_sl [.ref (gB E + za0)]).length) Slot.unset).toArray = ls at hl ⊢
  have hl : lv_has ls 1 [(0, .ref (gB E + za0))] := hl
  have J_31 : ∀ (zh : PH) (H : Heap) (locs : List Loc) (ls : Array Slot), f_X2_endRule_31 N zh = some h9 → gw E s zh H locs → lv_has ls 1 [] → W p l e rm_X2_endRule s m [.ref (gB E + za0)].toArray below meth c H locs 0 0 (MQ below (gQv E h9) [.ref (gB E + za0)].toArray s 0 0 (gA E)) (F0 m 31 ls []) := by
    intro zh H locs ls hf hw hl
    unfold f_X2_endRule_31 at hf
    exact gx_vret X hr hlk hw hf dX2_endRule_31
  unfold f_X2_endRule at hf
  refine lv_aload_n hx hb dX2_endRule_0 rfl (lv_at hl 0 rfl) ?_
  obtain ⟨zt1, qzt1, hf⟩ := gb_el hf
  refine gx_getI X hw qzt1 clX2 (by decide) mf_X2_38 dX2_endRule_1 ?_
  refine lv_iconst (v := 4) hx hb dX2_endRule_4 (by decide) ?_
  refine lv_icmp_ge (tgt := 31) hx hb dX2_endRule_5 (by decide) (fun qc2 => ?_) (fun qc2 => ?_)
  · have hf := gif_t hf qc2
    exact J_31  _ _ _ ls hf hw (lv_sub hl [] rfl)
  · have hf := gif_f hf qc2
    refine lv_aload_n hx hb dX2_endRule_8 rfl (lv_at hl 0 rfl) ?_
    refine lv_dup hx hb dX2_endRule_9 rfl ?_
    obtain ⟨zt3, qzt3, hf⟩ := gb_el hf
    refine gx_getI X hw qzt3 clX2 (by decide) mf_X2_38 dX2_endRule_10 ?_
    refine lv_iconst (v := 1) hx hb dX2_endRule_13 (by decide) ?_
    refine lv_iadd hx hb dX2_endRule_14 ?_
    refine W.eq (g2 := F0 m 15 ls [.int (zt3 + 1), .ref (gB E + za0)]) rfl ?_
    obtain ⟨zh4, qzh4, hf⟩ := gb_el hf
    refine gx_putV X hw qzh4 clX2 (by decide) mf_X2_38 rfl rfl rfl dX2_endRule_15 (fun H locs hw => ?_)
    refine lv_aload_n hx hb dX2_endRule_18 rfl (lv_at hl 0 rfl) ?_
    obtain ⟨zt5, qzt5, hf⟩ := gb_el hf
    refine gx_getR X hw qzt5 clX2 (by decide) mf_X2_28 dX2_endRule_19 ?_
    refine lv_aload_n hx hb dX2_endRule_22 rfl (lv_at hl 0 rfl) ?_
    obtain ⟨zt6, qzt6, hf⟩ := gb_el hf
    refine gx_getI X hw qzt6 clX2 (by decide) mf_X2_38 dX2_endRule_23 ?_
    refine lv_aload_n hx hb dX2_endRule_26 rfl (lv_at hl 0 rfl) ?_
    obtain ⟨zt7, qzt7, hf⟩ := gb_el hf
    refine gx_getI X hw qzt7 clX2 (by decide) mf_X2_47 dX2_endRule_27 ?_
    obtain ⟨zh8, qzh8, hf⟩ := gb_el hf
    refine gx_iast X hw qzh8 dX2_endRule_30 (fun H locs hw => ?_)
    exact J_31  _ _ _ ls hf hw (lv_sub hl [] rfl)
abbrev rm_X2_walkBetween : Room := { frames := 2, cells := 0, slots := 0, locals := 43 }
set_option maxHeartbeats 4000000 in
set_option maxRecDepth 100000 in
theorem c_X2_walkBetween (l : Launch) (E : gE) (N : Nat) (za0 : Nat) (za1 : Int32) (za2 : Int32) (zh : PH) {h9 : PH} {r9 : Int32} (hf : f_X2_walkBetween N za0 za1 za2 zh = some (r9, h9)) : Met l yX2_walkBetween (gWS yX2_walkBetween cX2_walkBetween 3 (some .int)) rm_X2_walkBetween (gPc E [.ref (gB E + za0), .int za1, .int za2] zh) (gQi E r9 h9) 0 0 (gA E) := by
  refine gx_met (by decide) ?_ rfl
  intro p e s m below meth c X hr hlk hin2 hw
  have hx := X.1.1
  have hb := X.1.2.1
  have hl := lv_entry [.ref (gB E + za0), .int za1, .int za2] (n := 3) (Nat.le_of_ble_eq_true rfl)
  rw [lg_entry_eq]
  generalize (lg_sl [.ref (gB E + za0), .int za1, .int za2] ++ List.replicate (3 - (lg_sl [.ref (gB E + za0), .int za1, .int za2]).length) Slot.unset).toArray = ls at hl ⊢
  have hl : lv_has ls 3 [(0, .ref (gB E + za0)), (1, .int za1), (2, .int za2)] := hl
  unfold f_X2_walkBetween at hf
  refine lv_iload_n hx hb dX2_walkBetween_0 rfl (lv_at hl 1 rfl) ?_
  refine lv_iload_n hx hb dX2_walkBetween_1 rfl (lv_at hl 2 rfl) ?_
  refine lv_isub hx hb dX2_walkBetween_2 ?_
  refine gx_abs X mm_X2_54 mt_abs mI_java_lang_Math mx_abs hl.1 (Nat.le_of_ble_eq_true rfl) (Nat.le_of_ble_eq_true rfl) (Nat.le_of_ble_eq_true rfl) (Nat.le_of_ble_eq_true rfl) dX2_walkBetween_3 ?_
  refine lv_iconst (v := 2) hx hb dX2_walkBetween_6 (by decide) ?_
  refine lv_aload_n hx hb dX2_walkBetween_7 rfl (lv_at hl 0 rfl) ?_
  refine lv_iload_n hx hb dX2_walkBetween_8 rfl (lv_at hl 1 rfl) ?_
  refine lv_iload_n hx hb dX2_walkBetween_9 rfl (lv_at hl 2 rfl) ?_
  obtain ⟨qizh1, hf⟩ := gg_el hf
  obtain ⟨zt2, zh1, qzh1, hf⟩ := gc_el hf
  refine gx_ki (gx_runV (As := [.int za1, .int za2]) (rest := [.int 2, .int (gabs (za1 - za2))]) X hw (c_X2_floorsBetween l E N za0 za1 za2 zh qzh1) kX2_floorsBetween mm_X2_59 qizh1 clX2 ⟨Nat.le_of_ble_eq_true rfl, Nat.le_of_ble_eq_true rfl⟩ rfl rfl rfl hl.1 (Nat.le_of_ble_eq_true rfl) rfl dX2_walkBetween_10 ⟨Nat.le_of_ble_eq_true rfl, Nat.le_of_ble_eq_true rfl⟩) hw (fun H locs hw => ?_)
  refine W.eq (g2 := F0 m 13 ls [.int zt2, .int 2, .int (gabs (za1 - za2))]) rfl ?_
  refine lv_imul hx hb dX2_walkBetween_13 ?_
  refine lv_iadd hx hb dX2_walkBetween_14 ?_
  exact gx_iret X hr hlk hw hf dX2_walkBetween_15
abbrev rm_X3_init : Room := { frames := 1, cells := 0, slots := 0, locals := 20 }
set_option maxHeartbeats 4000000 in
set_option maxRecDepth 100000 in
theorem c_X3_init (l : Launch) (E : gE) (N : Nat) (za0 : Nat) (za1 : Nat) (zh : PH) {h9 : PH} (hf : f_X3_init N za0 za1 zh = some h9) : Met l yX3_init (gWS yX3_init cX3_init 2 none) rm_X3_init (gPc E [.ref (gB E + za0), .ref (gB E + za1)] zh) (gQv E h9) 0 0 (gA E) := by
  refine gx_met (by decide) ?_ rfl
  intro p e s m below meth c X hr hlk hin2 hw
  have hx := X.1.1
  have hb := X.1.2.1
  have hl := lv_entry [.ref (gB E + za0), .ref (gB E + za1)] (n := 2) (Nat.le_of_ble_eq_true rfl)
  rw [lg_entry_eq]
  generalize (lg_sl [.ref (gB E + za0), .ref (gB E + za1)] ++ List.replicate (2 - (lg_sl [.ref (gB E + za0), .ref (gB E + za1)]).length) Slot.unset).toArray = ls at hl ⊢
  have hl : lv_has ls 2 [(0, .ref (gB E + za0)), (1, .ref (gB E + za1))] := hl
  unfold f_X3_init at hf
  refine lv_aload_n hx hb dX3_init_0 rfl (lv_at hl 0 rfl) ?_
  refine gx_oinit X mm_X3_3 mo_inst mo_code hl.1 dX3_init_1 (Nat.le_of_ble_eq_true rfl) (Nat.le_of_ble_eq_true rfl) ?_
  refine lv_aload_n hx hb dX3_init_4 rfl (lv_at hl 0 rfl) ?_
  refine lv_aload_n hx hb dX3_init_5 rfl (lv_at hl 1 rfl) ?_
  obtain ⟨zh1, qzh1, hf⟩ := gb_el hf
  refine gx_putFV X hw qzh1 clX3 (by decide) mf_X3_9 rfl (hin2 rfl) rfl rfl rfl dX3_init_6 (fun H locs hw => ?_)
  exact gx_vret X hr hlk hw hf dX3_init_9
abbrev rm_X10_isBlank : Room := { frames := 0, cells := 0, slots := 0, locals := 0 }
set_option maxHeartbeats 4000000 in
set_option maxRecDepth 100000 in
theorem c_X10_isBlank (l : Launch) (E : gE) (N : Nat) (za0 : Int32) (zh : PH) {h9 : PH} {r9 : Int32} (hf : f_X10_isBlank N za0 zh = some (r9, h9)) : Met l yX10_isBlank (gWS yX10_isBlank cX10_isBlank 1 (some .boolean)) rm_X10_isBlank (gPc E [.int za0] zh) (gQi E r9 h9) 0 0 (gA E) := by
  refine gx_met (by decide) ?_ rfl
  intro p e s m below meth c X hr hlk hin2 hw
  have hx := X.1.1
  have hb := X.1.2.1
  have hl := lv_entry [.int za0] (n := 1) (Nat.le_of_ble_eq_true rfl)
  rw [lg_entry_eq]
  generalize (lg_sl [.int za0] ++ List.replicate (1 - (lg_sl [.int za0]).length) Slot.unset).toArray = ls at hl ⊢
  have hl : lv_has ls 1 [(0, .int za0)] := hl
  have J_17 : ∀ (zs0 : Int32) (zh : PH) (H : Heap) (locs : List Loc) (ls : Array Slot), f_X10_isBlank_17 N zs0 zh = some (r9, h9) → gw E s zh H locs → lv_has ls 1 [] → W p l e rm_X10_isBlank s m [.int za0].toArray below meth c H locs 0 0 (MQ below (gQi E r9 h9) [.int za0].toArray s 0 0 (gA E)) (F0 m 17 ls [.int zs0]) := by
    intro zs0 zh H locs ls hf hw hl
    unfold f_X10_isBlank_17 at hf
    exact gx_zret X hr hlk hw hf dX10_isBlank_17
  have J_12 : ∀ (zh : PH) (H : Heap) (locs : List Loc) (ls : Array Slot), f_X10_isBlank_12 N zh = some (r9, h9) → gw E s zh H locs → lv_has ls 1 [] → W p l e rm_X10_isBlank s m [.int za0].toArray below meth c H locs 0 0 (MQ below (gQi E r9 h9) [.int za0].toArray s 0 0 (gA E)) (F0 m 12 ls []) := by
    intro zh H locs ls hf hw hl
    unfold f_X10_isBlank_12 at hf
    refine lv_iconst (v := 1) hx hb dX10_isBlank_12 (by decide) ?_
    refine lv_goto (tgt := 17) hx hb dX10_isBlank_13 (by decide) ?_
    exact J_17 1 _ _ _ ls hf hw (lv_sub hl [] rfl)
  unfold f_X10_isBlank at hf
  refine lv_iload_n hx hb dX10_isBlank_0 rfl (lv_at hl 0 rfl) ?_
  refine lv_bipush (v := 10) hx hb dX10_isBlank_1 (by decide) ?_
  refine lv_icmp_eq (tgt := 12) hx hb dX10_isBlank_3 (by decide) (fun qc1 => ?_) (fun qc1 => ?_)
  · have hf := gif_t hf qc1
    exact J_12  _ _ _ ls hf hw (lv_sub hl [] rfl)
  · have hf := gif_f hf qc1
    refine lv_iload_n hx hb dX10_isBlank_6 rfl (lv_at hl 0 rfl) ?_
    refine lv_bipush (v := 32) hx hb dX10_isBlank_7 (by decide) ?_
    refine lv_icmp_ne (tgt := 16) hx hb dX10_isBlank_9 (by decide) (fun qc2 => ?_) (fun qc2 => ?_)
    · have hf := gif_f hf qc2
      refine lv_iconst (v := 0) hx hb dX10_isBlank_16 (by decide) ?_
      exact J_17 0 _ _ _ ls hf hw (lv_sub hl [] rfl)
    · have hf := gif_t hf qc2
      exact J_12  _ _ _ ls hf hw (lv_sub hl [] rfl)
abbrev rm_X10_isDigit : Room := { frames := 0, cells := 0, slots := 0, locals := 0 }
set_option maxHeartbeats 4000000 in
set_option maxRecDepth 100000 in
theorem c_X10_isDigit (l : Launch) (E : gE) (N : Nat) (za0 : Int32) (zh : PH) {h9 : PH} {r9 : Int32} (hf : f_X10_isDigit N za0 zh = some (r9, h9)) : Met l yX10_isDigit (gWS yX10_isDigit cX10_isDigit 1 (some .boolean)) rm_X10_isDigit (gPc E [.int za0] zh) (gQi E r9 h9) 0 0 (gA E) := by
  refine gx_met (by decide) ?_ rfl
  intro p e s m below meth c X hr hlk hin2 hw
  have hx := X.1.1
  have hb := X.1.2.1
  have hl := lv_entry [.int za0] (n := 1) (Nat.le_of_ble_eq_true rfl)
  rw [lg_entry_eq]
  generalize (lg_sl [.int za0] ++ List.replicate (1 - (lg_sl [.int za0]).length) Slot.unset).toArray = ls at hl ⊢
  have hl : lv_has ls 1 [(0, .int za0)] := hl
  have J_17 : ∀ (zs0 : Int32) (zh : PH) (H : Heap) (locs : List Loc) (ls : Array Slot), f_X10_isDigit_17 N zs0 zh = some (r9, h9) → gw E s zh H locs → lv_has ls 1 [] → W p l e rm_X10_isDigit s m [.int za0].toArray below meth c H locs 0 0 (MQ below (gQi E r9 h9) [.int za0].toArray s 0 0 (gA E)) (F0 m 17 ls [.int zs0]) := by
    intro zs0 zh H locs ls hf hw hl
    unfold f_X10_isDigit_17 at hf
    exact gx_zret X hr hlk hw hf dX10_isDigit_17
  have J_16 : ∀ (zh : PH) (H : Heap) (locs : List Loc) (ls : Array Slot), f_X10_isDigit_16 N zh = some (r9, h9) → gw E s zh H locs → lv_has ls 1 [] → W p l e rm_X10_isDigit s m [.int za0].toArray below meth c H locs 0 0 (MQ below (gQi E r9 h9) [.int za0].toArray s 0 0 (gA E)) (F0 m 16 ls []) := by
    intro zh H locs ls hf hw hl
    unfold f_X10_isDigit_16 at hf
    refine lv_iconst (v := 0) hx hb dX10_isDigit_16 (by decide) ?_
    exact J_17 0 _ _ _ ls hf hw (lv_sub hl [] rfl)
  unfold f_X10_isDigit at hf
  refine lv_iload_n hx hb dX10_isDigit_0 rfl (lv_at hl 0 rfl) ?_
  refine lv_bipush (v := 48) hx hb dX10_isDigit_1 (by decide) ?_
  refine lv_icmp_lt (tgt := 16) hx hb dX10_isDigit_3 (by decide) (fun qc1 => ?_) (fun qc1 => ?_)
  · have hf := gif_t hf qc1
    exact J_16  _ _ _ ls hf hw (lv_sub hl [] rfl)
  · have hf := gif_f hf qc1
    refine lv_iload_n hx hb dX10_isDigit_6 rfl (lv_at hl 0 rfl) ?_
    refine lv_bipush (v := 57) hx hb dX10_isDigit_7 (by decide) ?_
    refine lv_icmp_gt (tgt := 16) hx hb dX10_isDigit_9 (by decide) (fun qc2 => ?_) (fun qc2 => ?_)
    · have hf := gif_t hf qc2
      exact J_16  _ _ _ ls hf hw (lv_sub hl [] rfl)
    · have hf := gif_f hf qc2
      refine lv_iconst (v := 1) hx hb dX10_isDigit_12 (by decide) ?_
      refine lv_goto (tgt := 17) hx hb dX10_isDigit_13 (by decide) ?_
      exact J_17 1 _ _ _ ls hf hw (lv_sub hl [] rfl)
abbrev rm_X10_isLetter : Room := { frames := 0, cells := 0, slots := 0, locals := 0 }
set_option maxHeartbeats 4000000 in
set_option maxRecDepth 100000 in
theorem c_X10_isLetter (l : Launch) (E : gE) (N : Nat) (za0 : Int32) (zh : PH) {h9 : PH} {r9 : Int32} (hf : f_X10_isLetter N za0 zh = some (r9, h9)) : Met l yX10_isLetter (gWS yX10_isLetter cX10_isLetter 1 (some .boolean)) rm_X10_isLetter (gPc E [.int za0] zh) (gQi E r9 h9) 0 0 (gA E) := by
  refine gx_met (by decide) ?_ rfl
  intro p e s m below meth c X hr hlk hin2 hw
  have hx := X.1.1
  have hb := X.1.2.1
  have hl := lv_entry [.int za0] (n := 1) (Nat.le_of_ble_eq_true rfl)
  rw [lg_entry_eq]
  generalize (lg_sl [.int za0] ++ List.replicate (1 - (lg_sl [.int za0]).length) Slot.unset).toArray = ls at hl ⊢
  have hl : lv_has ls 1 [(0, .int za0)] := hl
  have J_17 : ∀ (zs0 : Int32) (zh : PH) (H : Heap) (locs : List Loc) (ls : Array Slot), f_X10_isLetter_17 N zs0 zh = some (r9, h9) → gw E s zh H locs → lv_has ls 1 [] → W p l e rm_X10_isLetter s m [.int za0].toArray below meth c H locs 0 0 (MQ below (gQi E r9 h9) [.int za0].toArray s 0 0 (gA E)) (F0 m 17 ls [.int zs0]) := by
    intro zs0 zh H locs ls hf hw hl
    unfold f_X10_isLetter_17 at hf
    exact gx_zret X hr hlk hw hf dX10_isLetter_17
  have J_16 : ∀ (zh : PH) (H : Heap) (locs : List Loc) (ls : Array Slot), f_X10_isLetter_16 N zh = some (r9, h9) → gw E s zh H locs → lv_has ls 1 [] → W p l e rm_X10_isLetter s m [.int za0].toArray below meth c H locs 0 0 (MQ below (gQi E r9 h9) [.int za0].toArray s 0 0 (gA E)) (F0 m 16 ls []) := by
    intro zh H locs ls hf hw hl
    unfold f_X10_isLetter_16 at hf
    refine lv_iconst (v := 0) hx hb dX10_isLetter_16 (by decide) ?_
    exact J_17 0 _ _ _ ls hf hw (lv_sub hl [] rfl)
  unfold f_X10_isLetter at hf
  refine lv_iload_n hx hb dX10_isLetter_0 rfl (lv_at hl 0 rfl) ?_
  refine lv_bipush (v := 97) hx hb dX10_isLetter_1 (by decide) ?_
  refine lv_icmp_lt (tgt := 16) hx hb dX10_isLetter_3 (by decide) (fun qc1 => ?_) (fun qc1 => ?_)
  · have hf := gif_t hf qc1
    exact J_16  _ _ _ ls hf hw (lv_sub hl [] rfl)
  · have hf := gif_f hf qc1
    refine lv_iload_n hx hb dX10_isLetter_6 rfl (lv_at hl 0 rfl) ?_
    refine lv_bipush (v := 122) hx hb dX10_isLetter_7 (by decide) ?_
    refine lv_icmp_gt (tgt := 16) hx hb dX10_isLetter_9 (by decide) (fun qc2 => ?_) (fun qc2 => ?_)
    · have hf := gif_t hf qc2
      exact J_16  _ _ _ ls hf hw (lv_sub hl [] rfl)
    · have hf := gif_f hf qc2
      refine lv_iconst (v := 1) hx hb dX10_isLetter_12 (by decide) ?_
      refine lv_goto (tgt := 17) hx hb dX10_isLetter_13 (by decide) ?_
      exact J_17 1 _ _ _ ls hf hw (lv_sub hl [] rfl)
abbrev rm_X10_ownKind : Room := { frames := 0, cells := 0, slots := 0, locals := 0 }
set_option maxHeartbeats 4000000 in
set_option maxRecDepth 100000 in
theorem c_X10_ownKind (l : Launch) (E : gE) (N : Nat) (za0 : Int32) (zh : PH) {h9 : PH} {r9 : Int32} (hf : f_X10_ownKind N za0 zh = some (r9, h9)) : Met l yX10_ownKind (gWS yX10_ownKind cX10_ownKind 1 (some .int)) rm_X10_ownKind (gPc E [.int za0] zh) (gQi E r9 h9) 0 0 (gA E) := by
  refine gx_met (by decide) ?_ rfl
  intro p e s m below meth c X hr hlk hin2 hw
  have hx := X.1.1
  have hb := X.1.2.1
  have hl := lv_entry [.int za0] (n := 1) (Nat.le_of_ble_eq_true rfl)
  rw [lg_entry_eq]
  generalize (lg_sl [.int za0] ++ List.replicate (1 - (lg_sl [.int za0]).length) Slot.unset).toArray = ls at hl ⊢
  have hl : lv_has ls 1 [(0, .int za0)] := hl
  have J_106 : ∀ (zh : PH) (H : Heap) (locs : List Loc) (ls : Array Slot), f_X10_ownKind_106 N zh = some (r9, h9) → gw E s zh H locs → lv_has ls 1 [] → W p l e rm_X10_ownKind s m [.int za0].toArray below meth c H locs 0 0 (MQ below (gQi E r9 h9) [.int za0].toArray s 0 0 (gA E)) (F0 m 106 ls []) := by
    intro zh H locs ls hf hw hl
    unfold f_X10_ownKind_106 at hf
    refine lv_iconst (v := 3) hx hb dX10_ownKind_106 (by decide) ?_
    exact gx_iret X hr hlk hw hf dX10_ownKind_107
  have J_104 : ∀ (zv0 : Int32) (zh : PH) (H : Heap) (locs : List Loc) (ls : Array Slot), f_X10_ownKind_104 N zv0 zh = some (r9, h9) → gw E s zh H locs → lv_has ls 1 [(0, .int zv0)] → W p l e rm_X10_ownKind s m [.int za0].toArray below meth c H locs 0 0 (MQ below (gQi E r9 h9) [.int za0].toArray s 0 0 (gA E)) (F0 m 104 ls []) := by
    intro zv0 zh H locs ls hf hw hl
    unfold f_X10_ownKind_104 at hf
    refine lv_iload_n hx hb dX10_ownKind_104 rfl (lv_at hl 0 rfl) ?_
    exact gx_iret X hr hlk hw hf dX10_ownKind_105
  unfold f_X10_ownKind at hf
  refine lv_iload_n hx hb dX10_ownKind_0 rfl (lv_at hl 0 rfl) ?_
  by_cases qc1 : (za0 : Int32) = 40
  · have hf := gif_t hf qc1
    refine lv_tableIn (off := 103) (tgt := 104) hx hb dX10_ownKind_1 (by rw [qc1]; decide) (by rw [qc1]; decide) (by rw [qc1]; rfl) (by decide) ?_
    exact J_104 za0 _ _ _ ls hf hw (lv_sub hl [0] rfl)
  have hf := gif_f hf qc1
  by_cases qc2 : (za0 : Int32) = 41
  · have hf := gif_t hf qc2
    refine lv_tableIn (off := 103) (tgt := 104) hx hb dX10_ownKind_1 (by rw [qc2]; decide) (by rw [qc2]; decide) (by rw [qc2]; rfl) (by decide) ?_
    exact J_104 za0 _ _ _ ls hf hw (lv_sub hl [0] rfl)
  have hf := gif_f hf qc2
  by_cases qc3 : (za0 : Int32) = 42
  · have hf := gif_t hf qc3
    refine lv_tableIn (off := 103) (tgt := 104) hx hb dX10_ownKind_1 (by rw [qc3]; decide) (by rw [qc3]; decide) (by rw [qc3]; rfl) (by decide) ?_
    exact J_104 za0 _ _ _ ls hf hw (lv_sub hl [0] rfl)
  have hf := gif_f hf qc3
  by_cases qc4 : (za0 : Int32) = 43
  · have hf := gif_t hf qc4
    refine lv_tableIn (off := 103) (tgt := 104) hx hb dX10_ownKind_1 (by rw [qc4]; decide) (by rw [qc4]; decide) (by rw [qc4]; rfl) (by decide) ?_
    exact J_104 za0 _ _ _ ls hf hw (lv_sub hl [0] rfl)
  have hf := gif_f hf qc4
  by_cases qc5 : (za0 : Int32) = 44
  · have hf := gif_t hf qc5
    refine lv_tableIn (off := 105) (tgt := 106) hx hb dX10_ownKind_1 (by rw [qc5]; decide) (by rw [qc5]; decide) (by rw [qc5]; rfl) (by decide) ?_
    exact J_106  _ _ _ ls hf hw (lv_sub hl [] rfl)
  have hf := gif_f hf qc5
  by_cases qc6 : (za0 : Int32) = 45
  · have hf := gif_t hf qc6
    refine lv_tableIn (off := 103) (tgt := 104) hx hb dX10_ownKind_1 (by rw [qc6]; decide) (by rw [qc6]; decide) (by rw [qc6]; rfl) (by decide) ?_
    exact J_104 za0 _ _ _ ls hf hw (lv_sub hl [0] rfl)
  have hf := gif_f hf qc6
  by_cases qc7 : (za0 : Int32) = 46
  · have hf := gif_t hf qc7
    refine lv_tableIn (off := 105) (tgt := 106) hx hb dX10_ownKind_1 (by rw [qc7]; decide) (by rw [qc7]; decide) (by rw [qc7]; rfl) (by decide) ?_
    exact J_106  _ _ _ ls hf hw (lv_sub hl [] rfl)
  have hf := gif_f hf qc7
  by_cases qc8 : (za0 : Int32) = 47
  · have hf := gif_t hf qc8
    refine lv_tableIn (off := 105) (tgt := 106) hx hb dX10_ownKind_1 (by rw [qc8]; decide) (by rw [qc8]; decide) (by rw [qc8]; rfl) (by decide) ?_
    exact J_106  _ _ _ ls hf hw (lv_sub hl [] rfl)
  have hf := gif_f hf qc8
  by_cases qc9 : (za0 : Int32) = 48
  · have hf := gif_t hf qc9
    refine lv_tableIn (off := 105) (tgt := 106) hx hb dX10_ownKind_1 (by rw [qc9]; decide) (by rw [qc9]; decide) (by rw [qc9]; rfl) (by decide) ?_
    exact J_106  _ _ _ ls hf hw (lv_sub hl [] rfl)
  have hf := gif_f hf qc9
  by_cases qc10 : (za0 : Int32) = 49
  · have hf := gif_t hf qc10
    refine lv_tableIn (off := 105) (tgt := 106) hx hb dX10_ownKind_1 (by rw [qc10]; decide) (by rw [qc10]; decide) (by rw [qc10]; rfl) (by decide) ?_
    exact J_106  _ _ _ ls hf hw (lv_sub hl [] rfl)
  have hf := gif_f hf qc10
  by_cases qc11 : (za0 : Int32) = 50
  · have hf := gif_t hf qc11
    refine lv_tableIn (off := 105) (tgt := 106) hx hb dX10_ownKind_1 (by rw [qc11]; decide) (by rw [qc11]; decide) (by rw [qc11]; rfl) (by decide) ?_
    exact J_106  _ _ _ ls hf hw (lv_sub hl [] rfl)
  have hf := gif_f hf qc11
  by_cases qc12 : (za0 : Int32) = 51
  · have hf := gif_t hf qc12
    refine lv_tableIn (off := 105) (tgt := 106) hx hb dX10_ownKind_1 (by rw [qc12]; decide) (by rw [qc12]; decide) (by rw [qc12]; rfl) (by decide) ?_
    exact J_106  _ _ _ ls hf hw (lv_sub hl [] rfl)
  have hf := gif_f hf qc12
  by_cases qc13 : (za0 : Int32) = 52
  · have hf := gif_t hf qc13
    refine lv_tableIn (off := 105) (tgt := 106) hx hb dX10_ownKind_1 (by rw [qc13]; decide) (by rw [qc13]; decide) (by rw [qc13]; rfl) (by decide) ?_
    exact J_106  _ _ _ ls hf hw (lv_sub hl [] rfl)
  have hf := gif_f hf qc13
  by_cases qc14 : (za0 : Int32) = 53
  · have hf := gif_t hf qc14
    refine lv_tableIn (off := 105) (tgt := 106) hx hb dX10_ownKind_1 (by rw [qc14]; decide) (by rw [qc14]; decide) (by rw [qc14]; rfl) (by decide) ?_
    exact J_106  _ _ _ ls hf hw (lv_sub hl [] rfl)
  have hf := gif_f hf qc14
  by_cases qc15 : (za0 : Int32) = 54
  · have hf := gif_t hf qc15
    refine lv_tableIn (off := 105) (tgt := 106) hx hb dX10_ownKind_1 (by rw [qc15]; decide) (by rw [qc15]; decide) (by rw [qc15]; rfl) (by decide) ?_
    exact J_106  _ _ _ ls hf hw (lv_sub hl [] rfl)
  have hf := gif_f hf qc15
  by_cases qc16 : (za0 : Int32) = 55
  · have hf := gif_t hf qc16
    refine lv_tableIn (off := 105) (tgt := 106) hx hb dX10_ownKind_1 (by rw [qc16]; decide) (by rw [qc16]; decide) (by rw [qc16]; rfl) (by decide) ?_
    exact J_106  _ _ _ ls hf hw (lv_sub hl [] rfl)
  have hf := gif_f hf qc16
  by_cases qc17 : (za0 : Int32) = 56
  · have hf := gif_t hf qc17
    refine lv_tableIn (off := 105) (tgt := 106) hx hb dX10_ownKind_1 (by rw [qc17]; decide) (by rw [qc17]; decide) (by rw [qc17]; rfl) (by decide) ?_
    exact J_106  _ _ _ ls hf hw (lv_sub hl [] rfl)
  have hf := gif_f hf qc17
  by_cases qc18 : (za0 : Int32) = 57
  · have hf := gif_t hf qc18
    refine lv_tableIn (off := 105) (tgt := 106) hx hb dX10_ownKind_1 (by rw [qc18]; decide) (by rw [qc18]; decide) (by rw [qc18]; rfl) (by decide) ?_
    exact J_106  _ _ _ ls hf hw (lv_sub hl [] rfl)
  have hf := gif_f hf qc18
  by_cases qc19 : (za0 : Int32) = 58
  · have hf := gif_t hf qc19
    refine lv_tableIn (off := 105) (tgt := 106) hx hb dX10_ownKind_1 (by rw [qc19]; decide) (by rw [qc19]; decide) (by rw [qc19]; rfl) (by decide) ?_
    exact J_106  _ _ _ ls hf hw (lv_sub hl [] rfl)
  have hf := gif_f hf qc19
  by_cases qc20 : (za0 : Int32) = 59
  · have hf := gif_t hf qc20
    refine lv_tableIn (off := 103) (tgt := 104) hx hb dX10_ownKind_1 (by rw [qc20]; decide) (by rw [qc20]; decide) (by rw [qc20]; rfl) (by decide) ?_
    exact J_104 za0 _ _ _ ls hf hw (lv_sub hl [0] rfl)
  have hf := gif_f hf qc20
  by_cases qc21 : (za0 : Int32) = 60
  · have hf := gif_t hf qc21
    refine lv_tableIn (off := 103) (tgt := 104) hx hb dX10_ownKind_1 (by rw [qc21]; decide) (by rw [qc21]; decide) (by rw [qc21]; rfl) (by decide) ?_
    exact J_104 za0 _ _ _ ls hf hw (lv_sub hl [0] rfl)
  have hf := gif_f hf qc21
  by_cases qc22 : (za0 : Int32) = 61
  · have hf := gif_t hf qc22
    refine lv_tableIn (off := 103) (tgt := 104) hx hb dX10_ownKind_1 (by rw [qc22]; decide) (by rw [qc22]; decide) (by rw [qc22]; rfl) (by decide) ?_
    exact J_104 za0 _ _ _ ls hf hw (lv_sub hl [0] rfl)
  have hf := gif_f hf qc22
  have nqc1 := lv_neT (a := 40) qc1 (by decide)
  have nqc2 := lv_neT (a := 41) qc2 (by decide)
  have nqc3 := lv_neT (a := 42) qc3 (by decide)
  have nqc4 := lv_neT (a := 43) qc4 (by decide)
  have nqc5 := lv_neT (a := 44) qc5 (by decide)
  have nqc6 := lv_neT (a := 45) qc6 (by decide)
  have nqc7 := lv_neT (a := 46) qc7 (by decide)
  have nqc8 := lv_neT (a := 47) qc8 (by decide)
  have nqc9 := lv_neT (a := 48) qc9 (by decide)
  have nqc10 := lv_neT (a := 49) qc10 (by decide)
  have nqc11 := lv_neT (a := 50) qc11 (by decide)
  have nqc12 := lv_neT (a := 51) qc12 (by decide)
  have nqc13 := lv_neT (a := 52) qc13 (by decide)
  have nqc14 := lv_neT (a := 53) qc14 (by decide)
  have nqc15 := lv_neT (a := 54) qc15 (by decide)
  have nqc16 := lv_neT (a := 55) qc16 (by decide)
  have nqc17 := lv_neT (a := 56) qc17 (by decide)
  have nqc18 := lv_neT (a := 57) qc18 (by decide)
  have nqc19 := lv_neT (a := 58) qc19 (by decide)
  have nqc20 := lv_neT (a := 59) qc20 (by decide)
  have nqc21 := lv_neT (a := 60) qc21 (by decide)
  have nqc22 := lv_neT (a := 61) qc22 (by decide)
  refine lv_tableOut (tgt := 106) hx hb dX10_ownKind_1 (by omega) (by decide) ?_
  exact J_106  _ _ _ ls hf hw (lv_sub hl [] rfl)
abbrev rm_X10_advance : Room := { frames := 1, cells := 0, slots := 0, locals := 21 }
set_option maxHeartbeats 4000000 in
set_option maxRecDepth 100000 in
theorem c_X10_advance (l : Launch) (E : gE) (N : Nat) (za0 : Nat) (zh : PH) {h9 : PH} (hf : f_X10_advance N za0 zh = some h9) : Met l yX10_advance (gWS yX10_advance cX10_advance 1 none) rm_X10_advance (gPc E [.ref (gB E + za0)] zh) (gQv E h9) 0 0 (gA E) := by
  refine gx_met (by decide) ?_ rfl
  intro p e s m below meth c X hr hlk hin2 hw
  have hx := X.1.1
  have hb := X.1.2.1
  have hl := lv_entry [.ref (gB E + za0)] (n := 1) (Nat.le_of_ble_eq_true rfl)
  rw [lg_entry_eq]
  generalize (lg_sl [.ref (gB E + za0)] ++ List.replicate (1 - (lg_sl [.ref (gB E + za0)]).length) Slot.unset).toArray = ls at hl ⊢
  have hl : lv_has ls 1 [(0, .ref (gB E + za0))] := hl
  have J_284 : ∀ (zv0 : Nat) (zs0 : Int32) (zs1 : Nat) (zh : PH) (H : Heap) (locs : List Loc) (ls : Array Slot), f_X10_advance_284 N zv0 zs0 zs1 zh = some h9 → gw E s zh H locs → lv_has ls 1 [(0, .ref (gB E + zv0))] → W p l e rm_X10_advance s m [.ref (gB E + za0)].toArray below meth c H locs 0 0 (MQ below (gQv E h9) [.ref (gB E + za0)].toArray s 0 0 (gA E)) (F0 m 284 ls [.int zs0, .ref (gB E + zs1)]) := by
    intro zv0 zs0 zs1 zh H locs ls hf hw hl
    unfold f_X10_advance_284 at hf
    obtain ⟨zh1, qzh1, hf⟩ := gb_el hf
    refine gx_putV X hw qzh1 clX10 (by decide) mf_X10_44 rfl rfl rfl dX10_advance_284 (fun H locs hw => ?_)
    refine lv_aload_n hx hb dX10_advance_287 rfl (lv_at hl 0 rfl) ?_
    refine lv_aload_n hx hb dX10_advance_288 rfl (lv_at hl 0 rfl) ?_
    obtain ⟨zt2, qzt2, hf⟩ := gb_el hf
    refine gx_getI X hw qzt2 clX10 (by decide) mf_X10_23 dX10_advance_289 ?_
    refine lv_iconst (v := 1) hx hb dX10_advance_292 (by decide) ?_
    refine lv_iadd hx hb dX10_advance_293 ?_
    refine lv_aload_n hx hb dX10_advance_294 rfl (lv_at hl 0 rfl) ?_
    obtain ⟨zt3, qzt3, hf⟩ := gb_el hf
    refine gx_getI X hw qzt3 clX10 (by decide) mf_X10_15 dX10_advance_295 ?_
    refine gx_min X mm_X10_57 mt_min mI_java_lang_Math mx_min hl.1 (Nat.le_of_ble_eq_true rfl) (Nat.le_of_ble_eq_true rfl) (Nat.le_of_ble_eq_true rfl) (Nat.le_of_ble_eq_true rfl) dX10_advance_298 ?_
    refine W.eq (g2 := F0 m 301 ls [.int (gmin (zt2 + 1) zt3), .ref (gB E + zv0)]) rfl ?_
    obtain ⟨zh4, qzh4, hf⟩ := gb_el hf
    refine gx_putV X hw qzh4 clX10 (by decide) mf_X10_23 rfl rfl rfl dX10_advance_301 (fun H locs hw => ?_)
    exact gx_vret X hr hlk hw hf dX10_advance_304
  have J_252 : ∀ (zs0 : Int32) (zs1 : Nat) (zh : PH) (H : Heap) (locs : List Loc) (ls : Array Slot), f_X10_advance_252 N zs0 zs1 zh = some h9 → gw E s zh H locs → lv_has ls 1 [] → W p l e rm_X10_advance s m [.ref (gB E + za0)].toArray below meth c H locs 0 0 (MQ below (gQv E h9) [.ref (gB E + za0)].toArray s 0 0 (gA E)) (F0 m 252 ls [.int zs0, .ref (gB E + zs1)]) := by
    intro zs0 zs1 zh H locs ls hf hw hl
    unfold f_X10_advance_252 at hf
    obtain ⟨zh1, qzh1, hf⟩ := gb_el hf
    refine gx_putV X hw qzh1 clX10 (by decide) mf_X10_44 rfl rfl rfl dX10_advance_252 (fun H locs hw => ?_)
    exact gx_vret X hr hlk hw hf dX10_advance_255
  have J_222 : ∀ (zv0 : Nat) (zh : PH) (H : Heap) (locs : List Loc) (ls : Array Slot), f_X10_advance_222 N zv0 zh = some h9 → gw E s zh H locs → lv_has ls 1 [(0, .ref (gB E + zv0))] → W p l e rm_X10_advance s m [.ref (gB E + za0)].toArray below meth c H locs 0 0 (MQ below (gQv E h9) [.ref (gB E + za0)].toArray s 0 0 (gA E)) (F0 m 222 ls []) := by
    intro zv0 zh H locs ls hf hw hl
    unfold f_X10_advance_222 at hf
    refine lv_aload_n hx hb dX10_advance_222 rfl (lv_at hl 0 rfl) ?_
    obtain ⟨zt1, qzt1, hf⟩ := gb_el hf
    refine gx_getI X hw qzt1 clX10 (by decide) mf_X10_23 dX10_advance_223 ?_
    refine lv_aload_n hx hb dX10_advance_226 rfl (lv_at hl 0 rfl) ?_
    obtain ⟨zt2, qzt2, hf⟩ := gb_el hf
    refine gx_getI X hw qzt2 clX10 (by decide) mf_X10_32 dX10_advance_227 ?_
    refine lv_icmp_le (tgt := 256) hx hb dX10_advance_230 (by decide) (fun qc3 => ?_) (fun qc3 => ?_)
    · have hf := gif_t hf qc3
      refine lv_aload_n hx hb dX10_advance_256 rfl (lv_at hl 0 rfl) ?_
      refine lv_aload_n hx hb dX10_advance_257 rfl (lv_at hl 0 rfl) ?_
      obtain ⟨zt4, qzt4, hf⟩ := gb_el hf
      refine gx_getI X hw qzt4 clX10 (by decide) mf_X10_23 dX10_advance_258 ?_
      refine lv_aload_n hx hb dX10_advance_261 rfl (lv_at hl 0 rfl) ?_
      refine W.eq (g2 := F0 m 262 ls [.ref (gB E + zv0), .int zt4, .ref (gB E + zv0)]) rfl ?_
      obtain ⟨zt5, qzt5, hf⟩ := gb_el hf
      refine gx_getI X hw qzt5 clX10 (by decide) mf_X10_15 dX10_advance_262 ?_
      refine lv_icmp_ge (tgt := 283) hx hb dX10_advance_265 (by decide) (fun qc6 => ?_) (fun qc6 => ?_)
      · have hf := gif_t hf qc6
        refine lv_iconst (v := 0) hx hb dX10_advance_283 (by decide) ?_
        exact J_284 zv0 0 zv0 _ _ _ ls hf hw (lv_sub hl [0] rfl)
      · have hf := gif_f hf qc6
        refine lv_aload_n hx hb dX10_advance_268 rfl (lv_at hl 0 rfl) ?_
        obtain ⟨zt7, qzt7, hf⟩ := gb_el hf
        refine gx_getR X hw qzt7 clX10 (by decide) mf_X10_9 dX10_advance_269 ?_
        refine lv_aload_n hx hb dX10_advance_272 rfl (lv_at hl 0 rfl) ?_
        obtain ⟨zt8, qzt8, hf⟩ := gb_el hf
        refine gx_getI X hw qzt8 clX10 (by decide) mf_X10_23 dX10_advance_273 ?_
        obtain ⟨zt9, qzt9, hf⟩ := gb_el hf
        refine gx_bald X hw qzt9 dX10_advance_276 ?_
        obtain ⟨zt11, zh10, qzh10, hf⟩ := gc_el hf
        refine gx_ki (gx_runS (As := [.int zt9]) (rest := [.ref (gB E + zv0)]) X hw (c_X10_ownKind l E N zt9 zh qzh10) kX10_ownKind mm_X10_53 ⟨Nat.le_of_ble_eq_true rfl, Nat.le_of_ble_eq_true rfl⟩ rfl rfl rfl hl.1 (Nat.le_of_ble_eq_true rfl) rfl dX10_advance_277 ⟨Nat.le_of_ble_eq_true rfl, Nat.le_of_ble_eq_true rfl⟩) hw (fun H locs hw => ?_)
        refine lv_goto (tgt := 284) hx hb dX10_advance_280 (by decide) ?_
        exact J_284 zv0 zt11 zv0 _ _ _ ls hf hw (lv_sub hl [0] rfl)
    · have hf := gif_f hf qc3
      refine lv_aload_n hx hb dX10_advance_233 rfl (lv_at hl 0 rfl) ?_
      refine lv_aload_n hx hb dX10_advance_234 rfl (lv_at hl 0 rfl) ?_
      obtain ⟨zt12, qzt12, hf⟩ := gb_el hf
      refine gx_getI X hw qzt12 clX10 (by decide) mf_X10_23 dX10_advance_235 ?_
      refine lv_aload_n hx hb dX10_advance_238 rfl (lv_at hl 0 rfl) ?_
      refine W.eq (g2 := F0 m 239 ls [.ref (gB E + zv0), .int zt12, .ref (gB E + zv0)]) rfl ?_
      obtain ⟨zt13, qzt13, hf⟩ := gb_el hf
      refine gx_getI X hw qzt13 clX10 (by decide) mf_X10_32 dX10_advance_239 ?_
      refine lv_isub hx hb dX10_advance_242 ?_
      refine lv_iconst (v := 4) hx hb dX10_advance_243 (by decide) ?_
      refine lv_icmp_gt (tgt := 251) hx hb dX10_advance_244 (by decide) (fun qc14 => ?_) (fun qc14 => ?_)
      · have hf := gif_t hf qc14
        refine lv_iconst (v := 3) hx hb dX10_advance_251 (by decide) ?_
        exact J_252 3 zv0 _ _ _ ls hf hw (lv_sub hl [] rfl)
      · have hf := gif_f hf qc14
        refine lv_iconst (v := 2) hx hb dX10_advance_247 (by decide) ?_
        refine lv_goto (tgt := 252) hx hb dX10_advance_248 (by decide) ?_
        exact J_252 2 zv0 _ _ _ ls hf hw (lv_sub hl [] rfl)
  have L_159 : ∀ (zn159 : Nat) (zv0 : Nat) (zh : PH) (H : Heap) (locs : List Loc) (ls : Array Slot), gi (fun zk zs => f_X10_advance_159 N zk zs.1 zs.2) zn159 (zv0, zh) = some h9 → gw E s zh H locs → lv_has ls 1 [(0, .ref (gB E + zv0))] → W p l e rm_X10_advance s m [.ref (gB E + za0)].toArray below meth c H locs 0 0 (MQ below (gQv E h9) [.ref (gB E + za0)].toArray s 0 0 (gA E)) (F0 m 159 ls []) := by
    intro zn159
    induction zn159 with
    | zero =>
      intro zv0 zh H locs ls hf
      cases hf
    | succ zn159 ih_159 =>
      intro zv0 zh H locs ls hf hw hl
      have hf := gi_s hf
      dsimp only at hf
      unfold f_X10_advance_159 at hf
      refine lv_aload_n hx hb dX10_advance_159 rfl (lv_at hl 0 rfl) ?_
      obtain ⟨zt1, qzt1, hf⟩ := gb_el hf
      refine gx_getI X hw qzt1 clX10 (by decide) mf_X10_23 dX10_advance_160 ?_
      refine lv_aload_n hx hb dX10_advance_163 rfl (lv_at hl 0 rfl) ?_
      obtain ⟨zt2, qzt2, hf⟩ := gb_el hf
      refine gx_getI X hw qzt2 clX10 (by decide) mf_X10_15 dX10_advance_164 ?_
      refine lv_icmp_ge (tgt := 222) hx hb dX10_advance_167 (by decide) (fun qc3 => ?_) (fun qc3 => ?_)
      · have hf := gif_t hf qc3
        exact J_222 zv0 _ _ _ ls hf hw (lv_sub hl [0] rfl)
      · have hf := gif_f hf qc3
        refine lv_aload_n hx hb dX10_advance_170 rfl (lv_at hl 0 rfl) ?_
        obtain ⟨zt4, qzt4, hf⟩ := gb_el hf
        refine gx_getR X hw qzt4 clX10 (by decide) mf_X10_9 dX10_advance_171 ?_
        refine lv_aload_n hx hb dX10_advance_174 rfl (lv_at hl 0 rfl) ?_
        obtain ⟨zt5, qzt5, hf⟩ := gb_el hf
        refine gx_getI X hw qzt5 clX10 (by decide) mf_X10_23 dX10_advance_175 ?_
        refine W.eq (g2 := F0 m 178 ls [.int zt5, .ref (gB E + zt4)]) rfl ?_
        obtain ⟨zt6, qzt6, hf⟩ := gb_el hf
        refine gx_bald X hw qzt6 dX10_advance_178 ?_
        obtain ⟨zt8, zh7, qzh7, hf⟩ := gc_el hf
        refine gx_ki (gx_runS (As := [.int zt6]) (rest := []) X hw (c_X10_isDigit l E N zt6 zh qzh7) kX10_isDigit mm_X10_50 ⟨Nat.le_of_ble_eq_true rfl, Nat.le_of_ble_eq_true rfl⟩ rfl rfl rfl hl.1 (Nat.le_of_ble_eq_true rfl) rfl dX10_advance_179 ⟨Nat.le_of_ble_eq_true rfl, Nat.le_of_ble_eq_true rfl⟩) hw (fun H locs hw => ?_)
        refine lv_if_eq (tgt := 222) hx hb dX10_advance_182 (by decide) (fun qc9 => ?_) (fun qc9 => ?_)
        · have hf := gif_t hf qc9
          exact J_222 zv0 _ _ _ ls hf hw (lv_sub hl [0] rfl)
        · have hf := gif_f hf qc9
          refine lv_aload_n hx hb dX10_advance_185 rfl (lv_at hl 0 rfl) ?_
          refine lv_aload_n hx hb dX10_advance_186 rfl (lv_at hl 0 rfl) ?_
          obtain ⟨zt10, qzt10, hf⟩ := gb_el hf
          refine gx_getI X hw qzt10 clX10 (by decide) mf_X10_47 dX10_advance_187 ?_
          refine lv_bipush (v := 10) hx hb dX10_advance_190 (by decide) ?_
          refine lv_imul hx hb dX10_advance_192 ?_
          refine lv_aload_n hx hb dX10_advance_193 rfl (lv_at hl 0 rfl) ?_
          obtain ⟨zt11, qzt11, hf⟩ := gb_el hf
          refine gx_getR X hw qzt11 clX10 (by decide) mf_X10_9 dX10_advance_194 ?_
          refine W.eq (g2 := F0 m 197 ls [.ref (gB E + zt11), .int (zt10 * 10), .ref (gB E + zv0)]) rfl ?_
          refine lv_aload_n hx hb dX10_advance_197 rfl (lv_at hl 0 rfl) ?_
          obtain ⟨zt12, qzt12, hf⟩ := gb_el hf
          refine gx_getI X hw qzt12 clX10 (by decide) mf_X10_23 dX10_advance_198 ?_
          obtain ⟨zt13, qzt13, hf⟩ := gb_el hf
          refine gx_bald X hw qzt13 dX10_advance_201 ?_
          refine lv_bipush (v := 48) hx hb dX10_advance_202 (by decide) ?_
          refine lv_isub hx hb dX10_advance_204 ?_
          refine lv_iadd hx hb dX10_advance_205 ?_
          obtain ⟨zh14, qzh14, hf⟩ := gb_el hf
          refine gx_putV X hw qzh14 clX10 (by decide) mf_X10_47 rfl rfl rfl dX10_advance_206 (fun H locs hw => ?_)
          refine lv_aload_n hx hb dX10_advance_209 rfl (lv_at hl 0 rfl) ?_
          refine lv_dup hx hb dX10_advance_210 rfl ?_
          obtain ⟨zt15, qzt15, hf⟩ := gb_el hf
          refine gx_getI X hw qzt15 clX10 (by decide) mf_X10_23 dX10_advance_211 ?_
          refine W.eq (g2 := F0 m 214 ls [.int zt15, .ref (gB E + zv0)]) rfl ?_
          refine lv_iconst (v := 1) hx hb dX10_advance_214 (by decide) ?_
          refine lv_iadd hx hb dX10_advance_215 ?_
          obtain ⟨zh16, qzh16, hf⟩ := gb_el hf
          refine gx_putV X hw qzh16 clX10 (by decide) mf_X10_23 rfl rfl rfl dX10_advance_216 (fun H locs hw => ?_)
          refine lv_goto (tgt := 159) hx hb dX10_advance_219 (by decide) ?_
          exact ih_159 zv0 _ _ _ ls hf hw (lv_sub hl [0] rfl)
  have J_150 : ∀ (zs0 : Int32) (zs1 : Nat) (zh : PH) (H : Heap) (locs : List Loc) (ls : Array Slot), f_X10_advance_150 N zs0 zs1 zh = some h9 → gw E s zh H locs → lv_has ls 1 [] → W p l e rm_X10_advance s m [.ref (gB E + za0)].toArray below meth c H locs 0 0 (MQ below (gQv E h9) [.ref (gB E + za0)].toArray s 0 0 (gA E)) (F0 m 150 ls [.int zs0, .ref (gB E + zs1)]) := by
    intro zs0 zs1 zh H locs ls hf hw hl
    unfold f_X10_advance_150 at hf
    obtain ⟨zh1, qzh1, hf⟩ := gb_el hf
    refine gx_putV X hw qzh1 clX10 (by decide) mf_X10_44 rfl rfl rfl dX10_advance_150 (fun H locs hw => ?_)
    exact gx_vret X hr hlk hw hf dX10_advance_153
  have J_119 : ∀ (zv0 : Nat) (zh : PH) (H : Heap) (locs : List Loc) (ls : Array Slot), f_X10_advance_119 N zv0 zh = some h9 → gw E s zh H locs → lv_has ls 1 [(0, .ref (gB E + zv0))] → W p l e rm_X10_advance s m [.ref (gB E + za0)].toArray below meth c H locs 0 0 (MQ below (gQv E h9) [.ref (gB E + za0)].toArray s 0 0 (gA E)) (F0 m 119 ls []) := by
    intro zv0 zh H locs ls hf hw hl
    unfold f_X10_advance_119 at hf
    refine lv_aload_n hx hb dX10_advance_119 rfl (lv_at hl 0 rfl) ?_
    obtain ⟨zt1, qzt1, hf⟩ := gb_el hf
    refine gx_getI X hw qzt1 clX10 (by decide) mf_X10_23 dX10_advance_120 ?_
    refine lv_aload_n hx hb dX10_advance_123 rfl (lv_at hl 0 rfl) ?_
    obtain ⟨zt2, qzt2, hf⟩ := gb_el hf
    refine gx_getI X hw qzt2 clX10 (by decide) mf_X10_32 dX10_advance_124 ?_
    refine lv_icmp_le (tgt := 154) hx hb dX10_advance_127 (by decide) (fun qc3 => ?_) (fun qc3 => ?_)
    · have hf := gif_t hf qc3
      refine lv_aload_n hx hb dX10_advance_154 rfl (lv_at hl 0 rfl) ?_
      refine lv_iconst (v := 0) hx hb dX10_advance_155 (by decide) ?_
      obtain ⟨zh4, qzh4, hf⟩ := gb_el hf
      refine gx_putV X hw qzh4 clX10 (by decide) mf_X10_47 rfl rfl rfl dX10_advance_156 (fun H locs hw => ?_)
      exact L_159 N zv0 _ _ _ ls hf hw (lv_sub hl [0] rfl)
    · have hf := gif_f hf qc3
      refine lv_aload_n hx hb dX10_advance_130 rfl (lv_at hl 0 rfl) ?_
      refine lv_aload_n hx hb dX10_advance_131 rfl (lv_at hl 0 rfl) ?_
      obtain ⟨zt5, qzt5, hf⟩ := gb_el hf
      refine gx_getI X hw qzt5 clX10 (by decide) mf_X10_23 dX10_advance_132 ?_
      refine lv_aload_n hx hb dX10_advance_135 rfl (lv_at hl 0 rfl) ?_
      refine W.eq (g2 := F0 m 136 ls [.ref (gB E + zv0), .int zt5, .ref (gB E + zv0)]) rfl ?_
      obtain ⟨zt6, qzt6, hf⟩ := gb_el hf
      refine gx_getI X hw qzt6 clX10 (by decide) mf_X10_32 dX10_advance_136 ?_
      refine lv_isub hx hb dX10_advance_139 ?_
      refine lv_bipush (v := 8) hx hb dX10_advance_140 (by decide) ?_
      refine lv_icmp_gt (tgt := 149) hx hb dX10_advance_142 (by decide) (fun qc7 => ?_) (fun qc7 => ?_)
      · have hf := gif_t hf qc7
        refine lv_iconst (v := 3) hx hb dX10_advance_149 (by decide) ?_
        exact J_150 3 zv0 _ _ _ ls hf hw (lv_sub hl [] rfl)
      · have hf := gif_f hf qc7
        refine lv_iconst (v := 1) hx hb dX10_advance_145 (by decide) ?_
        refine lv_goto (tgt := 150) hx hb dX10_advance_146 (by decide) ?_
        exact J_150 1 zv0 _ _ _ ls hf hw (lv_sub hl [] rfl)
  have L_52 : ∀ (zn52 : Nat) (zv0 : Nat) (zh : PH) (H : Heap) (locs : List Loc) (ls : Array Slot), gi (fun zk zs => f_X10_advance_52 N zk zs.1 zs.2) zn52 (zv0, zh) = some h9 → gw E s zh H locs → lv_has ls 1 [(0, .ref (gB E + zv0))] → W p l e rm_X10_advance s m [.ref (gB E + za0)].toArray below meth c H locs 0 0 (MQ below (gQv E h9) [.ref (gB E + za0)].toArray s 0 0 (gA E)) (F0 m 52 ls []) := by
    intro zn52
    induction zn52 with
    | zero =>
      intro zv0 zh H locs ls hf
      cases hf
    | succ zn52 ih_52 =>
      intro zv0 zh H locs ls hf hw hl
      have hf := gi_s hf
      dsimp only at hf
      unfold f_X10_advance_52 at hf
      refine lv_aload_n hx hb dX10_advance_52 rfl (lv_at hl 0 rfl) ?_
      obtain ⟨zt1, qzt1, hf⟩ := gb_el hf
      refine gx_getI X hw qzt1 clX10 (by decide) mf_X10_23 dX10_advance_53 ?_
      refine lv_aload_n hx hb dX10_advance_56 rfl (lv_at hl 0 rfl) ?_
      obtain ⟨zt2, qzt2, hf⟩ := gb_el hf
      refine gx_getI X hw qzt2 clX10 (by decide) mf_X10_15 dX10_advance_57 ?_
      refine lv_icmp_ge (tgt := 119) hx hb dX10_advance_60 (by decide) (fun qc3 => ?_) (fun qc3 => ?_)
      · have hf := gif_t hf qc3
        exact J_119 zv0 _ _ _ ls hf hw (lv_sub hl [0] rfl)
      · have hf := gif_f hf qc3
        refine lv_aload_n hx hb dX10_advance_63 rfl (lv_at hl 0 rfl) ?_
        obtain ⟨zt4, qzt4, hf⟩ := gb_el hf
        refine gx_getR X hw qzt4 clX10 (by decide) mf_X10_9 dX10_advance_64 ?_
        refine lv_aload_n hx hb dX10_advance_67 rfl (lv_at hl 0 rfl) ?_
        obtain ⟨zt5, qzt5, hf⟩ := gb_el hf
        refine gx_getI X hw qzt5 clX10 (by decide) mf_X10_23 dX10_advance_68 ?_
        refine W.eq (g2 := F0 m 71 ls [.int zt5, .ref (gB E + zt4)]) rfl ?_
        obtain ⟨zt6, qzt6, hf⟩ := gb_el hf
        refine gx_bald X hw qzt6 dX10_advance_71 ?_
        obtain ⟨zt8, zh7, qzh7, hf⟩ := gc_el hf
        refine gx_ki (gx_runS (As := [.int zt6]) (rest := []) X hw (c_X10_isLetter l E N zt6 zh qzh7) kX10_isLetter mm_X10_39 ⟨Nat.le_of_ble_eq_true rfl, Nat.le_of_ble_eq_true rfl⟩ rfl rfl rfl hl.1 (Nat.le_of_ble_eq_true rfl) rfl dX10_advance_72 ⟨Nat.le_of_ble_eq_true rfl, Nat.le_of_ble_eq_true rfl⟩) hw (fun H locs hw => ?_)
        refine lv_if_eq (tgt := 119) hx hb dX10_advance_75 (by decide) (fun qc9 => ?_) (fun qc9 => ?_)
        · have hf := gif_t hf qc9
          exact J_119 zv0 _ _ _ ls hf hw (lv_sub hl [0] rfl)
        · have hf := gif_f hf qc9
          refine lv_aload_n hx hb dX10_advance_78 rfl (lv_at hl 0 rfl) ?_
          refine lv_aload_n hx hb dX10_advance_79 rfl (lv_at hl 0 rfl) ?_
          obtain ⟨zt10, qzt10, hf⟩ := gb_el hf
          refine gx_getL X hw qzt10 clX10 (by decide) mf_X10_35 dX10_advance_80 ?_
          refine lv_ldc2 (v := 32) hx hb X.1.2.2.2.1 (X.1.2.2.2.2 _ mK_X10_42) dX10_advance_83 ?_
          refine lv_lmul hx hb dX10_advance_86 ?_
          refine lv_aload_n hx hb dX10_advance_87 rfl (lv_at hl 0 rfl) ?_
          obtain ⟨zt11, qzt11, hf⟩ := gb_el hf
          refine gx_getR X hw qzt11 clX10 (by decide) mf_X10_9 dX10_advance_88 ?_
          refine W.eq (g2 := F0 m 91 ls [.ref (gB E + zt11), .long (zt10 * 32), .ref (gB E + zv0)]) rfl ?_
          refine lv_aload_n hx hb dX10_advance_91 rfl (lv_at hl 0 rfl) ?_
          obtain ⟨zt12, qzt12, hf⟩ := gb_el hf
          refine gx_getI X hw qzt12 clX10 (by decide) mf_X10_23 dX10_advance_92 ?_
          obtain ⟨zt13, qzt13, hf⟩ := gb_el hf
          refine gx_bald X hw qzt13 dX10_advance_95 ?_
          refine lv_bipush (v := 97) hx hb dX10_advance_96 (by decide) ?_
          refine lv_isub hx hb dX10_advance_98 ?_
          refine lv_iconst (v := 1) hx hb dX10_advance_99 (by decide) ?_
          refine lv_iadd hx hb dX10_advance_100 ?_
          refine lv_i2l hx hb dX10_advance_101 rfl ?_
          refine lv_ladd hx hb dX10_advance_102 ?_
          obtain ⟨zh14, qzh14, hf⟩ := gb_el hf
          refine gx_putV X hw qzh14 clX10 (by decide) mf_X10_35 rfl rfl rfl dX10_advance_103 (fun H locs hw => ?_)
          refine W.eq (g2 := F0 m 106 ls []) rfl ?_
          refine lv_aload_n hx hb dX10_advance_106 rfl (lv_at hl 0 rfl) ?_
          refine lv_dup hx hb dX10_advance_107 rfl ?_
          obtain ⟨zt15, qzt15, hf⟩ := gb_el hf
          refine gx_getI X hw qzt15 clX10 (by decide) mf_X10_23 dX10_advance_108 ?_
          refine lv_iconst (v := 1) hx hb dX10_advance_111 (by decide) ?_
          refine lv_iadd hx hb dX10_advance_112 ?_
          obtain ⟨zh16, qzh16, hf⟩ := gb_el hf
          refine gx_putV X hw qzh16 clX10 (by decide) mf_X10_23 rfl rfl rfl dX10_advance_113 (fun H locs hw => ?_)
          refine lv_goto (tgt := 52) hx hb dX10_advance_116 (by decide) ?_
          exact ih_52 zv0 _ _ _ ls hf hw (lv_sub hl [0] rfl)
  have J_39 : ∀ (zv0 : Nat) (zh : PH) (H : Heap) (locs : List Loc) (ls : Array Slot), f_X10_advance_39 N zv0 zh = some h9 → gw E s zh H locs → lv_has ls 1 [(0, .ref (gB E + zv0))] → W p l e rm_X10_advance s m [.ref (gB E + za0)].toArray below meth c H locs 0 0 (MQ below (gQv E h9) [.ref (gB E + za0)].toArray s 0 0 (gA E)) (F0 m 39 ls []) := by
    intro zv0 zh H locs ls hf hw hl
    unfold f_X10_advance_39 at hf
    refine lv_aload_n hx hb dX10_advance_39 rfl (lv_at hl 0 rfl) ?_
    refine lv_aload_n hx hb dX10_advance_40 rfl (lv_at hl 0 rfl) ?_
    obtain ⟨zt1, qzt1, hf⟩ := gb_el hf
    refine gx_getI X hw qzt1 clX10 (by decide) mf_X10_23 dX10_advance_41 ?_
    obtain ⟨zh2, qzh2, hf⟩ := gb_el hf
    refine gx_putV X hw qzh2 clX10 (by decide) mf_X10_32 rfl rfl rfl dX10_advance_44 (fun H locs hw => ?_)
    refine lv_aload_n hx hb dX10_advance_47 rfl (lv_at hl 0 rfl) ?_
    refine lv_lconst (v := 0) hx hb dX10_advance_48 (by decide) ?_
    obtain ⟨zh3, qzh3, hf⟩ := gb_el hf
    refine gx_putV X hw qzh3 clX10 (by decide) mf_X10_35 rfl rfl rfl dX10_advance_49 (fun H locs hw => ?_)
    exact L_52 N zv0 _ _ _ ls hf hw (lv_sub hl [0] rfl)
  have L_0 : ∀ (zn0 : Nat) (zv0 : Nat) (zh : PH) (H : Heap) (locs : List Loc) (ls : Array Slot), gi (fun zk zs => f_X10_advance_0 N zk zs.1 zs.2) zn0 (zv0, zh) = some h9 → gw E s zh H locs → lv_has ls 1 [(0, .ref (gB E + zv0))] → W p l e rm_X10_advance s m [.ref (gB E + za0)].toArray below meth c H locs 0 0 (MQ below (gQv E h9) [.ref (gB E + za0)].toArray s 0 0 (gA E)) (F0 m 0 ls []) := by
    intro zn0
    induction zn0 with
    | zero =>
      intro zv0 zh H locs ls hf
      cases hf
    | succ zn0 ih_0 =>
      intro zv0 zh H locs ls hf hw hl
      have hf := gi_s hf
      dsimp only at hf
      unfold f_X10_advance_0 at hf
      refine lv_aload_n hx hb dX10_advance_0 rfl (lv_at hl 0 rfl) ?_
      obtain ⟨zt1, qzt1, hf⟩ := gb_el hf
      refine gx_getI X hw qzt1 clX10 (by decide) mf_X10_23 dX10_advance_1 ?_
      refine lv_aload_n hx hb dX10_advance_4 rfl (lv_at hl 0 rfl) ?_
      obtain ⟨zt2, qzt2, hf⟩ := gb_el hf
      refine gx_getI X hw qzt2 clX10 (by decide) mf_X10_15 dX10_advance_5 ?_
      refine lv_icmp_ge (tgt := 39) hx hb dX10_advance_8 (by decide) (fun qc3 => ?_) (fun qc3 => ?_)
      · have hf := gif_t hf qc3
        exact J_39 zv0 _ _ _ ls hf hw (lv_sub hl [0] rfl)
      · have hf := gif_f hf qc3
        refine lv_aload_n hx hb dX10_advance_11 rfl (lv_at hl 0 rfl) ?_
        obtain ⟨zt4, qzt4, hf⟩ := gb_el hf
        refine gx_getR X hw qzt4 clX10 (by decide) mf_X10_9 dX10_advance_12 ?_
        refine lv_aload_n hx hb dX10_advance_15 rfl (lv_at hl 0 rfl) ?_
        obtain ⟨zt5, qzt5, hf⟩ := gb_el hf
        refine gx_getI X hw qzt5 clX10 (by decide) mf_X10_23 dX10_advance_16 ?_
        refine W.eq (g2 := F0 m 19 ls [.int zt5, .ref (gB E + zt4)]) rfl ?_
        obtain ⟨zt6, qzt6, hf⟩ := gb_el hf
        refine gx_bald X hw qzt6 dX10_advance_19 ?_
        obtain ⟨zt8, zh7, qzh7, hf⟩ := gc_el hf
        refine gx_ki (gx_runS (As := [.int zt6]) (rest := []) X hw (c_X10_isBlank l E N zt6 zh qzh7) kX10_isBlank mm_X10_29 ⟨Nat.le_of_ble_eq_true rfl, Nat.le_of_ble_eq_true rfl⟩ rfl rfl rfl hl.1 (Nat.le_of_ble_eq_true rfl) rfl dX10_advance_20 ⟨Nat.le_of_ble_eq_true rfl, Nat.le_of_ble_eq_true rfl⟩) hw (fun H locs hw => ?_)
        refine lv_if_eq (tgt := 39) hx hb dX10_advance_23 (by decide) (fun qc9 => ?_) (fun qc9 => ?_)
        · have hf := gif_t hf qc9
          exact J_39 zv0 _ _ _ ls hf hw (lv_sub hl [0] rfl)
        · have hf := gif_f hf qc9
          refine lv_aload_n hx hb dX10_advance_26 rfl (lv_at hl 0 rfl) ?_
          refine lv_dup hx hb dX10_advance_27 rfl ?_
          obtain ⟨zt10, qzt10, hf⟩ := gb_el hf
          refine gx_getI X hw qzt10 clX10 (by decide) mf_X10_23 dX10_advance_28 ?_
          refine lv_iconst (v := 1) hx hb dX10_advance_31 (by decide) ?_
          refine lv_iadd hx hb dX10_advance_32 ?_
          obtain ⟨zh11, qzh11, hf⟩ := gb_el hf
          refine gx_putV X hw qzh11 clX10 (by decide) mf_X10_23 rfl rfl rfl dX10_advance_33 (fun H locs hw => ?_)
          refine lv_goto (tgt := 0) hx hb dX10_advance_36 (by decide) ?_
          exact ih_0 zv0 _ _ _ ls hf hw (lv_sub hl [0] rfl)
  unfold f_X10_advance at hf
  exact L_0 N za0 _ _ _ ls hf hw (lv_sub hl [0] rfl)
abbrev rm_X10_goToFirstToken : Room := { frames := 2, cells := 0, slots := 0, locals := 41 }
set_option maxHeartbeats 4000000 in
set_option maxRecDepth 100000 in
theorem c_X10_goToFirstToken (l : Launch) (E : gE) (N : Nat) (za0 : Nat) (zh : PH) {h9 : PH} (hf : f_X10_goToFirstToken N za0 zh = some h9) : Met l yX10_goToFirstToken (gWS yX10_goToFirstToken cX10_goToFirstToken 1 none) rm_X10_goToFirstToken (gPc E [.ref (gB E + za0)] zh) (gQv E h9) 0 0 (gA E) := by
  refine gx_met (by decide) ?_ rfl
  intro p e s m below meth c X hr hlk hin2 hw
  have hx := X.1.1
  have hb := X.1.2.1
  have hl := lv_entry [.ref (gB E + za0)] (n := 1) (Nat.le_of_ble_eq_true rfl)
  rw [lg_entry_eq]
  generalize (lg_sl [.ref (gB E + za0)] ++ List.replicate (1 - (lg_sl [.ref (gB E + za0)]).length) Slot.unset).toArray = ls at hl ⊢
  have hl : lv_has ls 1 [(0, .ref (gB E + za0))] := hl
  unfold f_X10_goToFirstToken at hf
  refine lv_aload_n hx hb dX10_goToFirstToken_0 rfl (lv_at hl 0 rfl) ?_
  refine lv_iconst (v := 0) hx hb dX10_goToFirstToken_1 (by decide) ?_
  obtain ⟨zh1, qzh1, hf⟩ := gb_el hf
  refine gx_putV X hw qzh1 clX10 (by decide) mf_X10_23 rfl rfl rfl dX10_goToFirstToken_2 (fun H locs hw => ?_)
  refine lv_aload_n hx hb dX10_goToFirstToken_5 rfl (lv_at hl 0 rfl) ?_
  obtain ⟨qizh2, hf⟩ := gg_el hf
  obtain ⟨zh2, qzh2, hf⟩ := gb_el hf
  refine gx_kv (gx_runV (As := []) (rest := []) X hw (c_X10_advance l E N za0 zh1 qzh2) kX10_advance mm_X10_26 qizh2 clX10 ⟨Nat.le_of_ble_eq_true rfl, Nat.le_of_ble_eq_true rfl⟩ rfl rfl rfl hl.1 (Nat.le_of_ble_eq_true rfl) rfl dX10_goToFirstToken_6 ⟨Nat.le_of_ble_eq_true rfl, Nat.le_of_ble_eq_true rfl⟩) hw (fun H locs hw => ?_)
  exact gx_vret X hr hlk hw hf dX10_goToFirstToken_9
abbrev rm_X10_isWord : Room := { frames := 4, cells := 0, slots := 0, locals := 141 }
set_option maxHeartbeats 4000000 in
set_option maxRecDepth 100000 in
theorem c_X10_isWord (l : Launch) (E : gE) (N : Nat) (za0 : Nat) (za1 : Nat) (zh : PH) {h9 : PH} {r9 : Int32} (hf : f_X10_isWord N za0 za1 zh = some (r9, h9)) : Met l yX10_isWord (gWS yX10_isWord cX10_isWord 4 (some .boolean)) rm_X10_isWord (gPc E [.ref (gB E + za0), .ref (E.2.2.2.1 za1)] zh) (gQi E r9 h9) 0 0 (gA E) := by
  refine gx_met (by decide) ?_ rfl
  intro p e s m below meth c X hr hlk hin2 hw
  have hx := X.1.1
  have hb := X.1.2.1
  have hl := lv_entry [.ref (gB E + za0), .ref (E.2.2.2.1 za1)] (n := 4) (Nat.le_of_ble_eq_true rfl)
  rw [lg_entry_eq]
  generalize (lg_sl [.ref (gB E + za0), .ref (E.2.2.2.1 za1)] ++ List.replicate (4 - (lg_sl [.ref (gB E + za0), .ref (E.2.2.2.1 za1)]).length) Slot.unset).toArray = ls at hl ⊢
  have hl : lv_has ls 4 [(0, .ref (gB E + za0)), (1, .ref (E.2.2.2.1 za1))] := hl
  have L_30 : ∀ (zn30 : Nat) (zv0 : Nat) (zv1 : Nat) (zv2 : Int32) (zv3 : Int32) (zh : PH) (H : Heap) (locs : List Loc) (ls : Array Slot), gi (fun zk zs => f_X10_isWord_30 N zk zs.1 zs.2.1 zs.2.2.1 zs.2.2.2.1 zs.2.2.2.2) zn30 (zv0, zv1, zv2, zv3, zh) = some (r9, h9) → gw E s zh H locs → lv_has ls 4 [(0, .ref (gB E + zv0)), (1, .ref (E.2.2.2.1 zv1)), (2, .int zv2), (3, .int zv3)] → W p l e rm_X10_isWord s m [.ref (gB E + za0), .ref (E.2.2.2.1 za1)].toArray below meth c H locs 0 0 (MQ below (gQi E r9 h9) [.ref (gB E + za0), .ref (E.2.2.2.1 za1)].toArray s 0 0 (gA E)) (F0 m 30 ls []) := by
    intro zn30
    induction zn30 with
    | zero =>
      intro zv0 zv1 zv2 zv3 zh H locs ls hf
      cases hf
    | succ zn30 ih_30 =>
      intro zv0 zv1 zv2 zv3 zh H locs ls hf hw hl
      have hf := gi_s hf
      dsimp only at hf
      unfold f_X10_isWord_30 at hf
      refine lv_iload_n hx hb dX10_isWord_30 rfl (lv_at hl 3 rfl) ?_
      refine lv_iload_n hx hb dX10_isWord_31 rfl (lv_at hl 2 rfl) ?_
      refine lv_icmp_ge (tgt := 62) hx hb dX10_isWord_32 (by decide) (fun qc1 => ?_) (fun qc1 => ?_)
      · have hf := gif_t hf qc1
        refine lv_iconst (v := 1) hx hb dX10_isWord_62 (by decide) ?_
        exact gx_zret X hr hlk hw hf dX10_isWord_63
      · have hf := gif_f hf qc1
        refine lv_aload_n hx hb dX10_isWord_35 rfl (lv_at hl 0 rfl) ?_
        obtain ⟨zt2, qzt2, hf⟩ := gb_el hf
        refine gx_getR X hw qzt2 clX10 (by decide) mf_X10_9 dX10_isWord_36 ?_
        refine lv_aload_n hx hb dX10_isWord_39 rfl (lv_at hl 0 rfl) ?_
        obtain ⟨zt3, qzt3, hf⟩ := gb_el hf
        refine gx_getI X hw qzt3 clX10 (by decide) mf_X10_32 dX10_isWord_40 ?_
        refine lv_iload_n hx hb dX10_isWord_43 rfl (lv_at hl 3 rfl) ?_
        refine lv_iadd hx hb dX10_isWord_44 ?_
        refine W.eq (g2 := F0 m 45 ls [.int (zt3 + zv3), .ref (gB E + zt2)]) rfl ?_
        obtain ⟨zt4, qzt4, hf⟩ := gb_el hf
        refine gx_bald X hw qzt4 dX10_isWord_45 ?_
        refine lv_aload_n hx hb dX10_isWord_46 rfl (lv_at hl 1 rfl) ?_
        refine lv_iload_n hx hb dX10_isWord_47 rfl (lv_at hl 3 rfl) ?_
        obtain ⟨zt5, qzt5, hf⟩ := gb_el hf
        refine gx_ki (gx_runVb (As := [.int zv3]) (rest := [.int zt4]) X hw (cJ_chr l E zv1 zv3 zh qzt5) kJ_chr mm_X10_69 (vk_recv X.2.2.2.2.2.1 (schr_el qzt5).1 hw.2) ⟨Nat.le_of_ble_eq_true rfl, Nat.le_of_ble_eq_true rfl⟩ rfl rfl rfl hl.1 (Nat.le_of_ble_eq_true rfl) rfl dX10_isWord_48 ⟨Nat.le_of_ble_eq_true rfl, Nat.le_of_ble_eq_true rfl⟩) hw (fun H locs hw => ?_)
        refine lv_icmp_eq (tgt := 56) hx hb dX10_isWord_51 (by decide) (fun qc6 => ?_) (fun qc6 => ?_)
        · have hf := gif_t hf qc6
          obtain ⟨zx7, ezx7⟩ : ∃ y : Int32, y = zv3 + 1 := ⟨_, rfl⟩
          have hf := gl_el hf ezx7
          refine lv_iinc (v := zx7) (lv' := [(3, .int zx7), (0, .ref (gB E + zv0)), (1, .ref (E.2.2.2.1 zv1)), (2, .int zv2)]) hx hb dX10_isWord_56 hl (k := 3) rfl (by rw [ezx7]; rfl) (by decide) rfl (fun ls hl => ?_)
          refine lv_goto (tgt := 30) hx hb dX10_isWord_59 (by decide) ?_
          exact ih_30 zv0 zv1 zv2 zx7 _ _ _ ls hf hw (lv_sub hl [1, 2, 3, 0] rfl)
        · have hf := gif_f hf qc6
          refine lv_iconst (v := 0) hx hb dX10_isWord_54 (by decide) ?_
          exact gx_zret X hr hlk hw hf dX10_isWord_55
  have J_26 : ∀ (zh : PH) (H : Heap) (locs : List Loc) (ls : Array Slot), f_X10_isWord_26 N zh = some (r9, h9) → gw E s zh H locs → lv_has ls 4 [] → W p l e rm_X10_isWord s m [.ref (gB E + za0), .ref (E.2.2.2.1 za1)].toArray below meth c H locs 0 0 (MQ below (gQi E r9 h9) [.ref (gB E + za0), .ref (E.2.2.2.1 za1)].toArray s 0 0 (gA E)) (F0 m 26 ls []) := by
    intro zh H locs ls hf hw hl
    unfold f_X10_isWord_26 at hf
    refine lv_iconst (v := 0) hx hb dX10_isWord_26 (by decide) ?_
    exact gx_zret X hr hlk hw hf dX10_isWord_27
  unfold f_X10_isWord at hf
  refine lv_aload_n hx hb dX10_isWord_0 rfl (lv_at hl 0 rfl) ?_
  obtain ⟨zt1, qzt1, hf⟩ := gb_el hf
  refine gx_getI X hw qzt1 clX10 (by decide) mf_X10_23 dX10_isWord_1 ?_
  refine lv_aload_n hx hb dX10_isWord_4 rfl (lv_at hl 0 rfl) ?_
  obtain ⟨zt2, qzt2, hf⟩ := gb_el hf
  refine gx_getI X hw qzt2 clX10 (by decide) mf_X10_32 dX10_isWord_5 ?_
  refine lv_isub hx hb dX10_isWord_8 ?_
  refine lv_topi (fun zx3 ezx3 => ?_)
  have hf := gl_el hf ezx3
  refine lv_istore_n (lv' := [(2, .int zx3), (0, .ref (gB E + za0)), (1, .ref (E.2.2.2.1 za1))]) hx hb dX10_isWord_9 rfl hl (by decide) rfl (fun ls hl => ?_)
  refine lv_aload_n hx hb dX10_isWord_10 rfl (lv_at hl 1 rfl) ?_
  obtain ⟨zt4, qzt4, hf⟩ := gb_el hf
  refine gx_getI X hw qzt4 clX10 (by decide) mf_X10_44 dX10_isWord_11 ?_
  refine lv_iconst (v := 1) hx hb dX10_isWord_14 (by decide) ?_
  refine W.eq (g2 := F0 m 15 ls [.int 1, .int zt4]) rfl ?_
  refine lv_icmp_ne (tgt := 26) hx hb dX10_isWord_15 (by decide) (fun qc5 => ?_) (fun qc5 => ?_)
  · have hf := gif_f hf qc5
    exact J_26  _ _ _ ls hf hw (lv_sub hl [] rfl)
  · have hf := gif_t hf qc5
    refine lv_aload_n hx hb dX10_isWord_18 rfl (lv_at hl 2 rfl) ?_
    obtain ⟨zt6, qzt6, hf⟩ := gb_el hf
    refine gx_ki (gx_runVb (As := []) (rest := []) X hw (cJ_len l E za1 zh qzt6) kJ_len mm_X10_63 (vk_recv X.2.2.2.2.2.1 (slen_el qzt6).1 hw.2) ⟨Nat.le_of_ble_eq_true rfl, Nat.le_of_ble_eq_true rfl⟩ rfl rfl rfl hl.1 (Nat.le_of_ble_eq_true rfl) rfl dX10_isWord_19 ⟨Nat.le_of_ble_eq_true rfl, Nat.le_of_ble_eq_true rfl⟩) hw (fun H locs hw => ?_)
    refine lv_iload_n hx hb dX10_isWord_22 rfl (lv_at hl 0 rfl) ?_
    refine lv_icmp_eq (tgt := 28) hx hb dX10_isWord_23 (by decide) (fun qc7 => ?_) (fun qc7 => ?_)
    · have hf := gif_t hf qc7
      refine lv_iconst (v := 0) hx hb dX10_isWord_28 (by decide) ?_
      refine lv_istore_n (lv' := [(3, .int 0), (2, .int zx3), (0, .ref (gB E + za0)), (1, .ref (E.2.2.2.1 za1))]) hx hb dX10_isWord_29 rfl hl (by decide) rfl (fun ls hl => ?_)
      exact L_30 N za0 za1 zx3 0 _ _ _ ls hf hw (lv_sub hl [2, 3, 1, 0] rfl)
    · have hf := gif_f hf qc7
      exact J_26  _ _ _ ls hf hw (lv_sub hl [] rfl)
