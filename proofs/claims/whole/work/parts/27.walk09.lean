abbrev rm_X12_firstEmpty : Room := { frames := 1, cells := 0, slots := 0, locals := 20 }
set_option maxHeartbeats 4000000 in
set_option maxRecDepth 100000 in
theorem c_X12_firstEmpty (l : Launch) (E : gE) (N : Nat) (za0 : Nat) (zh : PH) {h9 : PH} {r9 : Int32} (hf : f_X12_firstEmpty N za0 zh = some (r9, h9)) : Met l yX12_firstEmpty (gWS yX12_firstEmpty cX12_firstEmpty 2 (some .int)) rm_X12_firstEmpty (gPc E [.ref (gB E + za0)] zh) (gQi E r9 h9) 0 0 (gA E) := by
  refine gx_met (by decide) ?_ rfl
  intro p e s m below meth c X hr hlk hin2 hw
  have hx := X.1.1
  have hb := X.1.2.1
  have hl := lv_entry [.ref (gB E + za0)] (n := 2) (Nat.le_of_ble_eq_true rfl)
  rw [lg_entry_eq]
  generalize (lg_sl [.ref (gB E + za0)] ++ List.replicate (2 - (lg_sl [.ref (gB E + za0)]).length) Slot.unset).toArray = ls at hl ⊢
  have hl : lv_has ls 2 [(0, .ref (gB E + za0))] := hl
  have J_25 : ∀ (zv1 : Int32) (zh : PH) (H : Heap) (locs : List Loc) (ls : Array Slot), f_X12_firstEmpty_25 N zv1 zh = some (r9, h9) → gw E s zh H locs → lv_has ls 2 [(1, .int zv1)] → W p l e rm_X12_firstEmpty s m [.ref (gB E + za0)].toArray below meth c H locs 0 0 (MQ below (gQi E r9 h9) [.ref (gB E + za0)].toArray s 0 0 (gA E)) (F0 m 25 ls []) := by
    intro zv1 zh H locs ls hf hw hl
    unfold f_X12_firstEmpty_25 at hf
    refine lv_iload_n hx hb dX12_firstEmpty_25 rfl (lv_at hl 0 rfl) ?_
    exact gx_iret X hr hlk hw hf dX12_firstEmpty_26
  have L_2 : ∀ (zn2 : Nat) (zv0 : Nat) (zv1 : Int32) (zh : PH) (H : Heap) (locs : List Loc) (ls : Array Slot), gi (fun zk zs => f_X12_firstEmpty_2 N zk zs.1 zs.2.1 zs.2.2) zn2 (zv0, zv1, zh) = some (r9, h9) → gw E s zh H locs → lv_has ls 2 [(0, .ref (gB E + zv0)), (1, .int zv1)] → W p l e rm_X12_firstEmpty s m [.ref (gB E + za0)].toArray below meth c H locs 0 0 (MQ below (gQi E r9 h9) [.ref (gB E + za0)].toArray s 0 0 (gA E)) (F0 m 2 ls []) := by
    intro zn2
    induction zn2 with
    | zero =>
      intro zv0 zv1 zh H locs ls hf
      cases hf
    | succ zn2 ih_2 =>
      intro zv0 zv1 zh H locs ls hf hw hl
      have hf := gi_s hf
      dsimp only at hf
      unfold f_X12_firstEmpty_2 at hf
      refine lv_iload_n hx hb dX12_firstEmpty_2 rfl (lv_at hl 1 rfl) ?_
      refine lv_aload_n hx hb dX12_firstEmpty_3 rfl (lv_at hl 0 rfl) ?_
      obtain ⟨qizh1, hf⟩ := gg_el hf
      obtain ⟨zt2, zh1, qzh1, hf⟩ := gc_el hf
      refine gx_ki (gx_runV (As := []) (rest := [.int zv1]) X hw (c_X12_rooms l E N zv0 zh qzh1) kX12_rooms mm_X12_231 qizh1 clX12 ⟨Nat.le_of_ble_eq_true rfl, Nat.le_of_ble_eq_true rfl⟩ rfl rfl rfl hl.1 (Nat.le_of_ble_eq_true rfl) rfl dX12_firstEmpty_4 ⟨Nat.le_of_ble_eq_true rfl, Nat.le_of_ble_eq_true rfl⟩) hw (fun H locs hw => ?_)
      refine lv_icmp_ge (tgt := 25) hx hb dX12_firstEmpty_7 (by decide) (fun qc3 => ?_) (fun qc3 => ?_)
      · have hf := gif_t hf qc3
        exact J_25 zv1 _ _ _ ls hf hw (lv_sub hl [1] rfl)
      · have hf := gif_f hf qc3
        refine lv_aload_n hx hb dX12_firstEmpty_10 rfl (lv_at hl 0 rfl) ?_
        obtain ⟨zt4, qzt4, hf⟩ := gb_el hf
        refine gx_getR X hw qzt4 clX12 (by decide) mf_X12_86 dX12_firstEmpty_11 ?_
        refine lv_iload_n hx hb dX12_firstEmpty_14 rfl (lv_at hl 1 rfl) ?_
        obtain ⟨zt5, qzt5, hf⟩ := gb_el hf
        refine gx_iald X hw qzt5 dX12_firstEmpty_15 ?_
        refine lv_if_lt (tgt := 25) hx hb dX12_firstEmpty_16 (by decide) (fun qc6 => ?_) (fun qc6 => ?_)
        · have hf := gif_t hf qc6
          exact J_25 zv1 _ _ _ ls hf hw (lv_sub hl [1] rfl)
        · have hf := gif_f hf qc6
          refine W.eq (g2 := F0 m 19 ls []) rfl ?_
          obtain ⟨zx7, ezx7⟩ : ∃ y : Int32, y = zv1 + 1 := ⟨_, rfl⟩
          have hf := gl_el hf ezx7
          refine lv_iinc (v := zx7) (lv' := [(1, .int zx7), (0, .ref (gB E + zv0))]) hx hb dX12_firstEmpty_19 hl (k := 1) rfl (by rw [ezx7]; rfl) (by decide) rfl (fun ls hl => ?_)
          refine lv_goto (tgt := 2) hx hb dX12_firstEmpty_22 (by decide) ?_
          exact ih_2 zv0 zx7 _ _ _ ls hf hw (lv_sub hl [1, 0] rfl)
  unfold f_X12_firstEmpty at hf
  refine lv_iconst (v := 0) hx hb dX12_firstEmpty_0 (by decide) ?_
  refine lv_istore_n (lv' := [(1, .int 0), (0, .ref (gB E + za0))]) hx hb dX12_firstEmpty_1 rfl hl (by decide) rfl (fun ls hl => ?_)
  exact L_2 N za0 0 _ _ _ ls hf hw (lv_sub hl [1, 0] rfl)
abbrev rm_X12_comes : Room := { frames := 3, cells := 0, slots := 0, locals := 70 }
set_option maxHeartbeats 4000000 in
set_option maxRecDepth 100000 in
theorem c_X12_comes (l : Launch) (E : gE) (N : Nat) (za0 : Nat) (za1 : Int32) (zh : PH) {h9 : PH} (hf : f_X12_comes N za0 za1 zh = some h9) : Met l yX12_comes (gWS yX12_comes cX12_comes 3 none) rm_X12_comes (gPc E [.ref (gB E + za0), .int za1] zh) (gQv E h9) 0 0 (gA E) := by
  refine gx_met (by decide) ?_ rfl
  intro p e s m below meth c X hr hlk hin2 hw
  have hx := X.1.1
  have hb := X.1.2.1
  have hl := lv_entry [.ref (gB E + za0), .int za1] (n := 3) (Nat.le_of_ble_eq_true rfl)
  rw [lg_entry_eq]
  generalize (lg_sl [.ref (gB E + za0), .int za1] ++ List.replicate (3 - (lg_sl [.ref (gB E + za0), .int za1]).length) Slot.unset).toArray = ls at hl ⊢
  have hl : lv_has ls 3 [(0, .ref (gB E + za0)), (1, .int za1)] := hl
  have L_12 : ∀ (zn12 : Nat) (zv0 : Nat) (zv1 : Int32) (zv2 : Int32) (zh : PH) (H : Heap) (locs : List Loc) (ls : Array Slot), gi (fun zk zs => f_X12_comes_12 N zk zs.1 zs.2.1 zs.2.2.1 zs.2.2.2) zn12 (zv0, zv1, zv2, zh) = some h9 → gw E s zh H locs → lv_has ls 3 [(0, .ref (gB E + zv0)), (1, .int zv1), (2, .int zv2)] → W p l e rm_X12_comes s m [.ref (gB E + za0), .int za1].toArray below meth c H locs 0 0 (MQ below (gQv E h9) [.ref (gB E + za0), .int za1].toArray s 0 0 (gA E)) (F0 m 12 ls []) := by
    intro zn12
    induction zn12 with
    | zero =>
      intro zv0 zv1 zv2 zh H locs ls hf
      cases hf
    | succ zn12 ih_12 =>
      intro zv0 zv1 zv2 zh H locs ls hf hw hl
      have hf := gi_s hf
      dsimp only at hf
      unfold f_X12_comes_12 at hf
      refine lv_iload_n hx hb dX12_comes_12 rfl (lv_at hl 2 rfl) ?_
      refine lv_if_le (tgt := 38) hx hb dX12_comes_13 (by decide) (fun qc1 => ?_) (fun qc1 => ?_)
      · have hf := gif_t hf qc1
        refine lv_aload_n hx hb dX12_comes_38 rfl (lv_at hl 0 rfl) ?_
        refine lv_iload_n hx hb dX12_comes_39 rfl (lv_at hl 1 rfl) ?_
        refine lv_iconst (v := (-1)) hx hb dX12_comes_40 (by decide) ?_
        refine lv_iconst (v := 0) hx hb dX12_comes_41 (by decide) ?_
        obtain ⟨qizh2, hf⟩ := gg_el hf
        obtain ⟨zh2, qzh2, hf⟩ := gb_el hf
        refine gx_kv (gx_runV (As := [.int zv1, .int (-1), .int 0]) (rest := []) X hw (c_X12_goes l E N zv0 zv1 (-1) 0 zh qzh2) kX12_goes mm_X12_267 qizh2 clX12 ⟨Nat.le_of_ble_eq_true rfl, Nat.le_of_ble_eq_true rfl⟩ rfl rfl rfl hl.1 (Nat.le_of_ble_eq_true rfl) rfl dX12_comes_42 ⟨Nat.le_of_ble_eq_true rfl, Nat.le_of_ble_eq_true rfl⟩) hw (fun H locs hw => ?_)
        exact gx_vret X hr hlk hw hf dX12_comes_45
      · have hf := gif_f hf qc1
        refine lv_aload_n hx hb dX12_comes_16 rfl (lv_at hl 0 rfl) ?_
        refine lv_aload_n hx hb dX12_comes_17 rfl (lv_at hl 0 rfl) ?_
        obtain ⟨zt3, qzt3, hf⟩ := gb_el hf
        refine gx_getR X hw qzt3 clX12 (by decide) mf_X12_86 dX12_comes_18 ?_
        refine lv_iload_n hx hb dX12_comes_21 rfl (lv_at hl 2 rfl) ?_
        refine lv_iconst (v := 1) hx hb dX12_comes_22 (by decide) ?_
        refine lv_isub hx hb dX12_comes_23 ?_
        obtain ⟨zt4, qzt4, hf⟩ := gb_el hf
        refine gx_iald X hw qzt4 dX12_comes_24 ?_
        refine W.eq (g2 := F0 m 25 ls [.int zt4, .ref (gB E + zv0)]) rfl ?_
        refine lv_iload_n hx hb dX12_comes_25 rfl (lv_at hl 2 rfl) ?_
        refine lv_iconst (v := 1) hx hb dX12_comes_26 (by decide) ?_
        refine lv_isub hx hb dX12_comes_27 ?_
        refine lv_iload_n hx hb dX12_comes_28 rfl (lv_at hl 2 rfl) ?_
        obtain ⟨qizh5, hf⟩ := gg_el hf
        obtain ⟨zh5, qzh5, hf⟩ := gb_el hf
        refine gx_kv (gx_runV (As := [.int zt4, .int (zv2 - 1), .int zv2]) (rest := []) X hw (c_X12_goes l E N zv0 zt4 (zv2 - 1) zv2 zh qzh5) kX12_goes mm_X12_267 qizh5 clX12 ⟨Nat.le_of_ble_eq_true rfl, Nat.le_of_ble_eq_true rfl⟩ rfl rfl rfl hl.1 (Nat.le_of_ble_eq_true rfl) rfl dX12_comes_29 ⟨Nat.le_of_ble_eq_true rfl, Nat.le_of_ble_eq_true rfl⟩) hw (fun H locs hw => ?_)
        obtain ⟨zx6, ezx6⟩ : ∃ y : Int32, y = zv2 + (-1) := ⟨_, rfl⟩
        have hf := gl_el hf ezx6
        refine lv_iinc (v := zx6) (lv' := [(2, .int zx6), (0, .ref (gB E + zv0)), (1, .int zv1)]) hx hb dX12_comes_32 hl (k := 2) rfl (by rw [ezx6]; rfl) (by decide) rfl (fun ls hl => ?_)
        refine lv_goto (tgt := 12) hx hb dX12_comes_35 (by decide) ?_
        exact ih_12 zv0 zv1 zx6 _ _ _ ls hf hw (lv_sub hl [1, 2, 0] rfl)
  unfold f_X12_comes at hf
  refine lv_aload_n hx hb dX12_comes_0 rfl (lv_at hl 0 rfl) ?_
  obtain ⟨zt1, qzt1, hf⟩ := gb_el hf
  refine gx_getR X hw qzt1 clX12 (by decide) mf_X12_95 dX12_comes_1 ?_
  refine lv_iload_n hx hb dX12_comes_4 rfl (lv_at hl 1 rfl) ?_
  refine lv_iconst (v := 1) hx hb dX12_comes_5 (by decide) ?_
  obtain ⟨zh2, qzh2, hf⟩ := gb_el hf
  refine gx_zast X hw qzh2 dX12_comes_6 (fun H locs hw => ?_)
  refine lv_aload_n hx hb dX12_comes_7 rfl (lv_at hl 0 rfl) ?_
  obtain ⟨qizh3, hf⟩ := gg_el hf
  obtain ⟨zt4, zh3, qzh3, hf⟩ := gc_el hf
  refine gx_ki (gx_runV (As := []) (rest := []) X hw (c_X12_firstEmpty l E N za0 zh2 qzh3) kX12_firstEmpty mm_X12_264 qizh3 clX12 ⟨Nat.le_of_ble_eq_true rfl, Nat.le_of_ble_eq_true rfl⟩ rfl rfl rfl hl.1 (Nat.le_of_ble_eq_true rfl) rfl dX12_comes_8 ⟨Nat.le_of_ble_eq_true rfl, Nat.le_of_ble_eq_true rfl⟩) hw (fun H locs hw => ?_)
  refine lv_istore_n (lv' := [(2, .int zt4), (0, .ref (gB E + za0)), (1, .int za1)]) hx hb dX12_comes_11 rfl hl (by decide) rfl (fun ls hl => ?_)
  exact L_12 N za0 za1 zt4 _ _ _ ls hf hw (lv_sub hl [1, 2, 0] rfl)
abbrev rm_X12_roomOf : Room := { frames := 1, cells := 0, slots := 0, locals := 20 }
set_option maxHeartbeats 4000000 in
set_option maxRecDepth 100000 in
theorem c_X12_roomOf (l : Launch) (E : gE) (N : Nat) (za0 : Nat) (za1 : Int32) (zh : PH) {h9 : PH} {r9 : Int32} (hf : f_X12_roomOf N za0 za1 zh = some (r9, h9)) : Met l yX12_roomOf (gWS yX12_roomOf cX12_roomOf 3 (some .int)) rm_X12_roomOf (gPc E [.ref (gB E + za0), .int za1] zh) (gQi E r9 h9) 0 0 (gA E) := by
  refine gx_met (by decide) ?_ rfl
  intro p e s m below meth c X hr hlk hin2 hw
  have hx := X.1.1
  have hb := X.1.2.1
  have hl := lv_entry [.ref (gB E + za0), .int za1] (n := 3) (Nat.le_of_ble_eq_true rfl)
  rw [lg_entry_eq]
  generalize (lg_sl [.ref (gB E + za0), .int za1] ++ List.replicate (3 - (lg_sl [.ref (gB E + za0), .int za1]).length) Slot.unset).toArray = ls at hl ⊢
  have hl : lv_has ls 3 [(0, .ref (gB E + za0)), (1, .int za1)] := hl
  have L_2 : ∀ (zn2 : Nat) (zv0 : Nat) (zv1 : Int32) (zv2 : Int32) (zh : PH) (H : Heap) (locs : List Loc) (ls : Array Slot), gi (fun zk zs => f_X12_roomOf_2 N zk zs.1 zs.2.1 zs.2.2.1 zs.2.2.2) zn2 (zv0, zv1, zv2, zh) = some (r9, h9) → gw E s zh H locs → lv_has ls 3 [(0, .ref (gB E + zv0)), (1, .int zv1), (2, .int zv2)] → W p l e rm_X12_roomOf s m [.ref (gB E + za0), .int za1].toArray below meth c H locs 0 0 (MQ below (gQi E r9 h9) [.ref (gB E + za0), .int za1].toArray s 0 0 (gA E)) (F0 m 2 ls []) := by
    intro zn2
    induction zn2 with
    | zero =>
      intro zv0 zv1 zv2 zh H locs ls hf
      cases hf
    | succ zn2 ih_2 =>
      intro zv0 zv1 zv2 zh H locs ls hf hw hl
      have hf := gi_s hf
      dsimp only at hf
      unfold f_X12_roomOf_2 at hf
      refine lv_iload_n hx hb dX12_roomOf_2 rfl (lv_at hl 2 rfl) ?_
      refine lv_aload_n hx hb dX12_roomOf_3 rfl (lv_at hl 0 rfl) ?_
      obtain ⟨qizh1, hf⟩ := gg_el hf
      obtain ⟨zt2, zh1, qzh1, hf⟩ := gc_el hf
      refine gx_ki (gx_runV (As := []) (rest := [.int zv2]) X hw (c_X12_rooms l E N zv0 zh qzh1) kX12_rooms mm_X12_231 qizh1 clX12 ⟨Nat.le_of_ble_eq_true rfl, Nat.le_of_ble_eq_true rfl⟩ rfl rfl rfl hl.1 (Nat.le_of_ble_eq_true rfl) rfl dX12_roomOf_4 ⟨Nat.le_of_ble_eq_true rfl, Nat.le_of_ble_eq_true rfl⟩) hw (fun H locs hw => ?_)
      refine lv_icmp_ge (tgt := 28) hx hb dX12_roomOf_7 (by decide) (fun qc3 => ?_) (fun qc3 => ?_)
      · have hf := gif_t hf qc3
        refine lv_iconst (v := (-1)) hx hb dX12_roomOf_28 (by decide) ?_
        exact gx_iret X hr hlk hw hf dX12_roomOf_29
      · have hf := gif_f hf qc3
        refine lv_aload_n hx hb dX12_roomOf_10 rfl (lv_at hl 0 rfl) ?_
        obtain ⟨zt4, qzt4, hf⟩ := gb_el hf
        refine gx_getR X hw qzt4 clX12 (by decide) mf_X12_86 dX12_roomOf_11 ?_
        refine lv_iload_n hx hb dX12_roomOf_14 rfl (lv_at hl 2 rfl) ?_
        obtain ⟨zt5, qzt5, hf⟩ := gb_el hf
        refine gx_iald X hw qzt5 dX12_roomOf_15 ?_
        refine lv_iload_n hx hb dX12_roomOf_16 rfl (lv_at hl 1 rfl) ?_
        refine W.eq (g2 := F0 m 17 ls [.int zv1, .int zt5]) rfl ?_
        refine lv_icmp_ne (tgt := 22) hx hb dX12_roomOf_17 (by decide) (fun qc6 => ?_) (fun qc6 => ?_)
        · have hf := gif_f hf qc6
          obtain ⟨zx7, ezx7⟩ : ∃ y : Int32, y = zv2 + 1 := ⟨_, rfl⟩
          have hf := gl_el hf ezx7
          refine lv_iinc (v := zx7) (lv' := [(2, .int zx7), (0, .ref (gB E + zv0)), (1, .int zv1)]) hx hb dX12_roomOf_22 hl (k := 2) rfl (by rw [ezx7]; rfl) (by decide) rfl (fun ls hl => ?_)
          refine lv_goto (tgt := 2) hx hb dX12_roomOf_25 (by decide) ?_
          exact ih_2 zv0 zv1 zx7 _ _ _ ls hf hw (lv_sub hl [1, 2, 0] rfl)
        · have hf := gif_t hf qc6
          refine lv_iload_n hx hb dX12_roomOf_20 rfl (lv_at hl 2 rfl) ?_
          exact gx_iret X hr hlk hw hf dX12_roomOf_21
  unfold f_X12_roomOf at hf
  refine lv_iconst (v := 0) hx hb dX12_roomOf_0 (by decide) ?_
  refine lv_istore_n (lv' := [(2, .int 0), (0, .ref (gB E + za0)), (1, .int za1)]) hx hb dX12_roomOf_1 rfl hl (by decide) rfl (fun ls hl => ?_)
  exact L_2 N za0 za1 0 _ _ _ ls hf hw (lv_sub hl [1, 2, 0] rfl)
abbrev rm_X12_givesFor : Room := { frames := 2, cells := 0, slots := 0, locals := 46 }
set_option maxHeartbeats 4000000 in
set_option maxRecDepth 100000 in
theorem c_X12_givesFor (l : Launch) (E : gE) (N : Nat) (za0 : Nat) (za1 : Int32) (za2 : Int32) (za3 : Int32) (za4 : Int32) (zh : PH) {h9 : PH} {r9 : Int32} (hf : f_X12_givesFor N za0 za1 za2 za3 za4 zh = some (r9, h9)) : Met l yX12_givesFor (gWS yX12_givesFor cX12_givesFor 5 (some .int)) rm_X12_givesFor (gPc E [.ref (gB E + za0), .int za1, .int za2, .int za3, .int za4] zh) (gQi E r9 h9) 0 0 (gA E) := by
  refine gx_met (by decide) ?_ rfl
  intro p e s m below meth c X hr hlk hin2 hw
  have hx := X.1.1
  have hb := X.1.2.1
  have hl := lv_entry [.ref (gB E + za0), .int za1, .int za2, .int za3, .int za4] (n := 5) (Nat.le_of_ble_eq_true rfl)
  rw [lg_entry_eq]
  generalize (lg_sl [.ref (gB E + za0), .int za1, .int za2, .int za3, .int za4] ++ List.replicate (5 - (lg_sl [.ref (gB E + za0), .int za1, .int za2, .int za3, .int za4]).length) Slot.unset).toArray = ls at hl ⊢
  have hl : lv_has ls 5 [(0, .ref (gB E + za0)), (1, .int za1), (2, .int za2), (3, .int za3), (4, .int za4)] := hl
  unfold f_X12_givesFor at hf
  refine lv_aload_n hx hb dX12_givesFor_0 rfl (lv_at hl 0 rfl) ?_
  obtain ⟨zt1, qzt1, hf⟩ := gb_el hf
  refine gx_getR X hw qzt1 clX12 (by decide) mf_X12_77 dX12_givesFor_1 ?_
  refine lv_iconst (v := 0) hx hb dX12_givesFor_4 (by decide) ?_
  refine lv_aload_n hx hb dX12_givesFor_5 rfl (lv_at hl 0 rfl) ?_
  refine lv_iload_n hx hb dX12_givesFor_6 rfl (lv_at hl 2 rfl) ?_
  refine lv_iconst (v := 0) hx hb dX12_givesFor_7 (by decide) ?_
  obtain ⟨qizh2, hf⟩ := gg_el hf
  obtain ⟨zt3, zh2, qzh2, hf⟩ := gc_el hf
  refine gx_ki (gx_runV (As := [.int za2, .int 0]) (rest := [.int 0, .ref (gB E + zt1)]) X hw (c_X12_guestOf l E N za0 za2 0 zh qzh2) kX12_guestOf mm_X12_261 qizh2 clX12 ⟨Nat.le_of_ble_eq_true rfl, Nat.le_of_ble_eq_true rfl⟩ rfl rfl rfl hl.1 (Nat.le_of_ble_eq_true rfl) rfl dX12_givesFor_8 ⟨Nat.le_of_ble_eq_true rfl, Nat.le_of_ble_eq_true rfl⟩) hw (fun H locs hw => ?_)
  obtain ⟨zh4, qzh4, hf⟩ := gb_el hf
  refine gx_iast X hw qzh4 dX12_givesFor_11 (fun H locs hw => ?_)
  refine lv_aload_n hx hb dX12_givesFor_12 rfl (lv_at hl 0 rfl) ?_
  refine W.eq (g2 := F0 m 13 ls [.ref (gB E + za0)]) rfl ?_
  obtain ⟨zt5, qzt5, hf⟩ := gb_el hf
  refine gx_getR X hw qzt5 clX12 (by decide) mf_X12_77 dX12_givesFor_13 ?_
  refine lv_iconst (v := 1) hx hb dX12_givesFor_16 (by decide) ?_
  refine lv_aload_n hx hb dX12_givesFor_17 rfl (lv_at hl 0 rfl) ?_
  refine lv_iload_n hx hb dX12_givesFor_18 rfl (lv_at hl 2 rfl) ?_
  refine lv_iconst (v := 1) hx hb dX12_givesFor_19 (by decide) ?_
  obtain ⟨qizh6, hf⟩ := gg_el hf
  obtain ⟨zt7, zh6, qzh6, hf⟩ := gc_el hf
  refine gx_ki (gx_runV (As := [.int za2, .int 1]) (rest := [.int 1, .ref (gB E + zt5)]) X hw (c_X12_guestOf l E N za0 za2 1 zh4 qzh6) kX12_guestOf mm_X12_261 qizh6 clX12 ⟨Nat.le_of_ble_eq_true rfl, Nat.le_of_ble_eq_true rfl⟩ rfl rfl rfl hl.1 (Nat.le_of_ble_eq_true rfl) rfl dX12_givesFor_20 ⟨Nat.le_of_ble_eq_true rfl, Nat.le_of_ble_eq_true rfl⟩) hw (fun H locs hw => ?_)
  obtain ⟨zh8, qzh8, hf⟩ := gb_el hf
  refine gx_iast X hw qzh8 dX12_givesFor_23 (fun H locs hw => ?_)
  refine lv_aload_n hx hb dX12_givesFor_24 rfl (lv_at hl 0 rfl) ?_
  obtain ⟨zt9, qzt9, hf⟩ := gb_el hf
  refine gx_getR X hw qzt9 clX12 (by decide) mf_X12_77 dX12_givesFor_25 ?_
  refine lv_iconst (v := 2) hx hb dX12_givesFor_28 (by decide) ?_
  refine W.eq (g2 := F0 m 29 ls [.int 2, .ref (gB E + zt9)]) rfl ?_
  refine lv_aload_n hx hb dX12_givesFor_29 rfl (lv_at hl 0 rfl) ?_
  refine lv_iload_n hx hb dX12_givesFor_30 rfl (lv_at hl 2 rfl) ?_
  refine lv_iconst (v := 2) hx hb dX12_givesFor_31 (by decide) ?_
  obtain ⟨qizh10, hf⟩ := gg_el hf
  obtain ⟨zt11, zh10, qzh10, hf⟩ := gc_el hf
  refine gx_ki (gx_runV (As := [.int za2, .int 2]) (rest := [.int 2, .ref (gB E + zt9)]) X hw (c_X12_guestOf l E N za0 za2 2 zh8 qzh10) kX12_guestOf mm_X12_261 qizh10 clX12 ⟨Nat.le_of_ble_eq_true rfl, Nat.le_of_ble_eq_true rfl⟩ rfl rfl rfl hl.1 (Nat.le_of_ble_eq_true rfl) rfl dX12_givesFor_32 ⟨Nat.le_of_ble_eq_true rfl, Nat.le_of_ble_eq_true rfl⟩) hw (fun H locs hw => ?_)
  obtain ⟨zh12, qzh12, hf⟩ := gb_el hf
  refine gx_iast X hw qzh12 dX12_givesFor_35 (fun H locs hw => ?_)
  refine lv_aload_n hx hb dX12_givesFor_36 rfl (lv_at hl 0 rfl) ?_
  obtain ⟨zt13, qzt13, hf⟩ := gb_el hf
  refine gx_getR X hw qzt13 clX12 (by decide) mf_X12_77 dX12_givesFor_37 ?_
  refine lv_iconst (v := 3) hx hb dX12_givesFor_40 (by decide) ?_
  refine lv_iload_n hx hb dX12_givesFor_41 rfl (lv_at hl 3 rfl) ?_
  obtain ⟨zh14, qzh14, hf⟩ := gb_el hf
  refine gx_iast X hw qzh14 dX12_givesFor_42 (fun H locs hw => ?_)
  refine W.eq (g2 := F0 m 43 ls []) rfl ?_
  refine lv_aload_n hx hb dX12_givesFor_43 rfl (lv_at hl 0 rfl) ?_
  obtain ⟨zt15, qzt15, hf⟩ := gb_el hf
  refine gx_getR X hw qzt15 clX12 (by decide) mf_X12_77 dX12_givesFor_44 ?_
  refine lv_iconst (v := 4) hx hb dX12_givesFor_47 (by decide) ?_
  refine lv_iload hx hb dX12_givesFor_48 (lv_at hl 4 rfl) ?_
  obtain ⟨zh16, qzh16, hf⟩ := gb_el hf
  refine gx_iast X hw qzh16 dX12_givesFor_50 (fun H locs hw => ?_)
  refine lv_aload_n hx hb dX12_givesFor_51 rfl (lv_at hl 0 rfl) ?_
  obtain ⟨zt17, qzt17, hf⟩ := gb_el hf
  refine gx_getR X hw qzt17 clX12 (by decide) mf_X12_77 dX12_givesFor_52 ?_
  refine lv_iconst (v := 5) hx hb dX12_givesFor_55 (by decide) ?_
  refine lv_aload_n hx hb dX12_givesFor_56 rfl (lv_at hl 0 rfl) ?_
  refine lv_iload_n hx hb dX12_givesFor_57 rfl (lv_at hl 3 rfl) ?_
  refine W.eq (g2 := F0 m 58 ls [.int za3, .ref (gB E + za0), .int 5, .ref (gB E + zt17)]) rfl ?_
  refine lv_iload hx hb dX12_givesFor_58 (lv_at hl 4 rfl) ?_
  obtain ⟨qizh18, hf⟩ := gg_el hf
  obtain ⟨zt19, zh18, qzh18, hf⟩ := gc_el hf
  refine gx_ki (gx_runV (As := [.int za3, .int za4]) (rest := [.int 5, .ref (gB E + zt17)]) X hw (c_X12_floors l E N za0 za3 za4 zh16 qzh18) kX12_floors mm_X12_258 qizh18 clX12 ⟨Nat.le_of_ble_eq_true rfl, Nat.le_of_ble_eq_true rfl⟩ rfl rfl rfl hl.1 (Nat.le_of_ble_eq_true rfl) rfl dX12_givesFor_60 ⟨Nat.le_of_ble_eq_true rfl, Nat.le_of_ble_eq_true rfl⟩) hw (fun H locs hw => ?_)
  obtain ⟨zh20, qzh20, hf⟩ := gb_el hf
  refine gx_iast X hw qzh20 dX12_givesFor_63 (fun H locs hw => ?_)
  refine lv_aload_n hx hb dX12_givesFor_64 rfl (lv_at hl 0 rfl) ?_
  obtain ⟨zt21, qzt21, hf⟩ := gb_el hf
  refine gx_getR X hw qzt21 clX12 (by decide) mf_X12_77 dX12_givesFor_65 ?_
  refine lv_bipush (v := 6) hx hb dX12_givesFor_68 (by decide) ?_
  refine lv_aload_n hx hb dX12_givesFor_70 rfl (lv_at hl 0 rfl) ?_
  obtain ⟨zt22, qzt22, hf⟩ := gb_el hf
  refine gx_getR X hw qzt22 clX12 (by decide) mf_X12_65 dX12_givesFor_71 ?_
  refine lv_iconst (v := 3) hx hb dX12_givesFor_74 (by decide) ?_
  refine lv_iconst (v := 2) hx hb dX12_givesFor_75 (by decide) ?_
  refine W.eq (g2 := F0 m 76 ls [.int 2, .int 3, .ref (gB E + zt22), .int 6, .ref (gB E + zt21)]) rfl ?_
  refine lv_iload hx hb dX12_givesFor_76 (lv_at hl 4 rfl) ?_
  refine lv_imul hx hb dX12_givesFor_78 ?_
  refine lv_iadd hx hb dX12_givesFor_79 ?_
  refine lv_iconst (v := 1) hx hb dX12_givesFor_80 (by decide) ?_
  refine lv_iadd hx hb dX12_givesFor_81 ?_
  obtain ⟨zt23, qzt23, hf⟩ := gb_el hf
  refine gx_iald X hw qzt23 dX12_givesFor_82 ?_
  obtain ⟨zh24, qzh24, hf⟩ := gb_el hf
  refine gx_iast X hw qzh24 dX12_givesFor_83 (fun H locs hw => ?_)
  refine lv_aload_n hx hb dX12_givesFor_84 rfl (lv_at hl 0 rfl) ?_
  obtain ⟨zt25, qzt25, hf⟩ := gb_el hf
  refine gx_getR X hw qzt25 clX12 (by decide) mf_X12_77 dX12_givesFor_85 ?_
  refine lv_bipush (v := 7) hx hb dX12_givesFor_88 (by decide) ?_
  refine W.eq (g2 := F0 m 90 ls [.int 7, .ref (gB E + zt25)]) rfl ?_
  refine lv_aload_n hx hb dX12_givesFor_90 rfl (lv_at hl 0 rfl) ?_
  obtain ⟨zt26, qzt26, hf⟩ := gb_el hf
  refine gx_getR X hw qzt26 clX12 (by decide) mf_X12_89 dX12_givesFor_91 ?_
  refine lv_iload_n hx hb dX12_givesFor_94 rfl (lv_at hl 2 rfl) ?_
  obtain ⟨zt27, qzt27, hf⟩ := gb_el hf
  refine gx_iald X hw qzt27 dX12_givesFor_95 ?_
  obtain ⟨zh28, qzh28, hf⟩ := gb_el hf
  refine gx_iast X hw qzh28 dX12_givesFor_96 (fun H locs hw => ?_)
  refine lv_aload_n hx hb dX12_givesFor_97 rfl (lv_at hl 0 rfl) ?_
  refine lv_aload_n hx hb dX12_givesFor_98 rfl (lv_at hl 0 rfl) ?_
  obtain ⟨zt29, qzt29, hf⟩ := gb_el hf
  refine gx_getR X hw qzt29 clX12 (by decide) mf_X12_65 dX12_givesFor_99 ?_
  refine lv_bipush (v := 53) hx hb dX12_givesFor_102 (by decide) ?_
  refine lv_iload_n hx hb dX12_givesFor_104 rfl (lv_at hl 1 rfl) ?_
  refine W.eq (g2 := F0 m 105 ls [.int za1, .int 53, .ref (gB E + zt29), .ref (gB E + za0)]) rfl ?_
  refine lv_iadd hx hb dX12_givesFor_105 ?_
  obtain ⟨zt30, qzt30, hf⟩ := gb_el hf
  refine gx_iald X hw qzt30 dX12_givesFor_106 ?_
  obtain ⟨qizh31, hf⟩ := gg_el hf
  obtain ⟨zt32, zh31, qzh31, hf⟩ := gc_el hf
  refine gx_ki (gx_runV (As := [.int zt30]) (rest := []) X hw (c_X12_worthAt l E N za0 zt30 zh28 qzh31) kX12_worthAt mm_X12_271 qizh31 clX12 ⟨Nat.le_of_ble_eq_true rfl, Nat.le_of_ble_eq_true rfl⟩ rfl rfl rfl hl.1 (Nat.le_of_ble_eq_true rfl) rfl dX12_givesFor_107 ⟨Nat.le_of_ble_eq_true rfl, Nat.le_of_ble_eq_true rfl⟩) hw (fun H locs hw => ?_)
  exact gx_iret X hr hlk hw hf dX12_givesFor_110
abbrev rm_X12_leaves : Room := { frames := 3, cells := 0, slots := 0, locals := 70 }
set_option maxHeartbeats 4000000 in
set_option maxRecDepth 100000 in
theorem c_X12_leaves (l : Launch) (E : gE) (N : Nat) (za0 : Nat) (za1 : Int32) (za2 : Int32) (zh : PH) {h9 : PH} (hf : f_X12_leaves N za0 za1 za2 zh = some h9) : Met l yX12_leaves (gWS yX12_leaves cX12_leaves 8 none) rm_X12_leaves (gPc E [.ref (gB E + za0), .int za1, .int za2] zh) (gQv E h9) 0 0 (gA E) := by
  refine gx_met (by decide) ?_ rfl
  intro p e s m below meth c X hr hlk hin2 hw
  have hx := X.1.1
  have hb := X.1.2.1
  have hl := lv_entry [.ref (gB E + za0), .int za1, .int za2] (n := 8) (Nat.le_of_ble_eq_true rfl)
  rw [lg_entry_eq]
  generalize (lg_sl [.ref (gB E + za0), .int za1, .int za2] ++ List.replicate (8 - (lg_sl [.ref (gB E + za0), .int za1, .int za2]).length) Slot.unset).toArray = ls at hl ⊢
  have hl : lv_has ls 8 [(0, .ref (gB E + za0)), (1, .int za1), (2, .int za2)] := hl
  have J_135 : ∀ (zh : PH) (H : Heap) (locs : List Loc) (ls : Array Slot), f_X12_leaves_135 N zh = some h9 → gw E s zh H locs → lv_has ls 8 [] → W p l e rm_X12_leaves s m [.ref (gB E + za0), .int za1, .int za2].toArray below meth c H locs 0 0 (MQ below (gQv E h9) [.ref (gB E + za0), .int za1, .int za2].toArray s 0 0 (gA E)) (F0 m 135 ls []) := by
    intro zh H locs ls hf hw hl
    unfold f_X12_leaves_135 at hf
    exact gx_vret X hr hlk hw hf dX12_leaves_135
  have L_13 : ∀ (zn13 : Nat) (zv0 : Nat) (zv2 : Int32) (zv3 : Int32) (zh : PH) (H : Heap) (locs : List Loc) (ls : Array Slot), gi (fun zk zs => f_X12_leaves_13 N zk zs.1 zs.2.1 zs.2.2.1 zs.2.2.2) zn13 (zv0, zv2, zv3, zh) = some h9 → gw E s zh H locs → lv_has ls 8 [(0, .ref (gB E + zv0)), (2, .int zv2), (3, .int zv3)] → W p l e rm_X12_leaves s m [.ref (gB E + za0), .int za1, .int za2].toArray below meth c H locs 0 0 (MQ below (gQv E h9) [.ref (gB E + za0), .int za1, .int za2].toArray s 0 0 (gA E)) (F0 m 13 ls []) := by
    intro zn13
    induction zn13 with
    | zero =>
      intro zv0 zv2 zv3 zh H locs ls hf
      cases hf
    | succ zn13 ih_13 =>
      have J_129 : ∀ (zv0 : Nat) (zv2 : Int32) (zv4 : Int32) (zh : PH) (H : Heap) (locs : List Loc) (ls : Array Slot), f_X12_leaves_129 N (gi (fun zk zs => f_X12_leaves_13 N zk zs.1 zs.2.1 zs.2.2.1 zs.2.2.2) zn13) zv0 zv2 zv4 zh = some h9 → gw E s zh H locs → lv_has ls 8 [(0, .ref (gB E + zv0)), (2, .int zv2), (4, .int zv4)] → W p l e rm_X12_leaves s m [.ref (gB E + za0), .int za1, .int za2].toArray below meth c H locs 0 0 (MQ below (gQv E h9) [.ref (gB E + za0), .int za1, .int za2].toArray s 0 0 (gA E)) (F0 m 129 ls []) := by
        intro zv0 zv2 zv4 zh H locs ls hf hw hl
        unfold f_X12_leaves_129 at hf
        refine lv_iload hx hb dX12_leaves_129 (lv_at hl 2 rfl) ?_
        refine lv_istore_n (lv' := [(3, .int zv4), (0, .ref (gB E + zv0)), (2, .int zv2), (4, .int zv4)]) hx hb dX12_leaves_131 rfl hl (by decide) rfl (fun ls hl => ?_)
        refine lv_goto (tgt := 13) hx hb dX12_leaves_132 (by decide) ?_
        exact ih_13 zv0 zv2 zv4 _ _ _ ls hf hw (lv_sub hl [1, 2, 0] rfl)
      have L_32 : ∀ (zn32 : Nat) (zv0 : Nat) (zv2 : Int32) (zv3 : Int32) (zv4 : Int32) (zv5 : Int32) (zv6 : Int32) (zh : PH) (H : Heap) (locs : List Loc) (ls : Array Slot), gi (fun zk zs => f_X12_leaves_32 N (gi (fun zk zs => f_X12_leaves_13 N zk zs.1 zs.2.1 zs.2.2.1 zs.2.2.2) zn13) zk zs.1 zs.2.1 zs.2.2.1 zs.2.2.2.1 zs.2.2.2.2.1 zs.2.2.2.2.2.1 zs.2.2.2.2.2.2) zn32 (zv0, zv2, zv3, zv4, zv5, zv6, zh) = some h9 → gw E s zh H locs → lv_has ls 8 [(0, .ref (gB E + zv0)), (2, .int zv2), (3, .int zv3), (4, .int zv4), (5, .int zv5), (6, .int zv6)] → W p l e rm_X12_leaves s m [.ref (gB E + za0), .int za1, .int za2].toArray below meth c H locs 0 0 (MQ below (gQv E h9) [.ref (gB E + za0), .int za1, .int za2].toArray s 0 0 (gA E)) (F0 m 32 ls []) := by
        intro zn32
        induction zn32 with
        | zero =>
          intro zv0 zv2 zv3 zv4 zv5 zv6 zh H locs ls hf
          cases hf
        | succ zn32 ih_32 =>
          have J_102 : ∀ (zv0 : Nat) (zv2 : Int32) (zv3 : Int32) (zv4 : Int32) (zv6 : Int32) (zs0 : Int32) (zh : PH) (H : Heap) (locs : List Loc) (ls : Array Slot), f_X12_leaves_102 N (gi (fun zk zs => f_X12_leaves_13 N zk zs.1 zs.2.1 zs.2.2.1 zs.2.2.2) zn13) (gi (fun zk zs => f_X12_leaves_32 N (gi (fun zk zs => f_X12_leaves_13 N zk zs.1 zs.2.1 zs.2.2.1 zs.2.2.2) zn13) zk zs.1 zs.2.1 zs.2.2.1 zs.2.2.2.1 zs.2.2.2.2.1 zs.2.2.2.2.2.1 zs.2.2.2.2.2.2) zn32) zv0 zv2 zv3 zv4 zv6 zs0 zh = some h9 → gw E s zh H locs → lv_has ls 8 [(0, .ref (gB E + zv0)), (2, .int zv2), (3, .int zv3), (4, .int zv4), (6, .int zv6)] → W p l e rm_X12_leaves s m [.ref (gB E + za0), .int za1, .int za2].toArray below meth c H locs 0 0 (MQ below (gQv E h9) [.ref (gB E + za0), .int za1, .int za2].toArray s 0 0 (gA E)) (F0 m 102 ls [.int zs0]) := by
            intro zv0 zv2 zv3 zv4 zv6 zs0 zh H locs ls hf hw hl
            unfold f_X12_leaves_102 at hf
            refine lv_istore (lv' := [(5, .int zs0), (0, .ref (gB E + zv0)), (2, .int zv2), (3, .int zv3), (4, .int zv4), (6, .int zv6)]) hx hb dX12_leaves_102 hl (by decide) rfl (fun ls hl => ?_)
            obtain ⟨zx1, ezx1⟩ : ∃ y : Int32, y = zv6 + 1 := ⟨_, rfl⟩
            have hf := gl_el hf ezx1
            refine lv_iinc (v := zx1) (lv' := [(6, .int zx1), (5, .int zs0), (0, .ref (gB E + zv0)), (2, .int zv2), (3, .int zv3), (4, .int zv4)]) hx hb dX12_leaves_104 hl (k := 5) rfl (by rw [ezx1]; rfl) (by decide) rfl (fun ls hl => ?_)
            refine lv_goto (tgt := 32) hx hb dX12_leaves_107 (by decide) ?_
            exact ih_32 zv0 zv2 zv3 zv4 zs0 zx1 _ _ _ ls hf hw (lv_sub hl [2, 3, 4, 5, 1, 0] rfl)
          have J_86 : ∀ (zv0 : Nat) (zv2 : Int32) (zv3 : Int32) (zv5 : Int32) (zv6 : Int32) (zv7 : Int32) (zs0 : Int32) (zh : PH) (H : Heap) (locs : List Loc) (ls : Array Slot), f_X12_leaves_86 N (gi (fun zk zs => f_X12_leaves_13 N zk zs.1 zs.2.1 zs.2.2.1 zs.2.2.2) zn13) (gi (fun zk zs => f_X12_leaves_32 N (gi (fun zk zs => f_X12_leaves_13 N zk zs.1 zs.2.1 zs.2.2.1 zs.2.2.2) zn13) zk zs.1 zs.2.1 zs.2.2.1 zs.2.2.2.1 zs.2.2.2.2.1 zs.2.2.2.2.2.1 zs.2.2.2.2.2.2) zn32) zv0 zv2 zv3 zv5 zv6 zv7 zs0 zh = some h9 → gw E s zh H locs → lv_has ls 8 [(0, .ref (gB E + zv0)), (2, .int zv2), (3, .int zv3), (5, .int zv5), (6, .int zv6), (7, .int zv7)] → W p l e rm_X12_leaves s m [.ref (gB E + za0), .int za1, .int za2].toArray below meth c H locs 0 0 (MQ below (gQv E h9) [.ref (gB E + za0), .int za1, .int za2].toArray s 0 0 (gA E)) (F0 m 86 ls [.int zs0]) := by
            intro zv0 zv2 zv3 zv5 zv6 zv7 zs0 zh H locs ls hf hw hl
            unfold f_X12_leaves_86 at hf
            refine lv_istore (lv' := [(4, .int zs0), (0, .ref (gB E + zv0)), (2, .int zv2), (3, .int zv3), (5, .int zv5), (6, .int zv6), (7, .int zv7)]) hx hb dX12_leaves_86 hl (by decide) rfl (fun ls hl => ?_)
            refine lv_iload hx hb dX12_leaves_88 (lv_at hl 6 rfl) ?_
            refine lv_iload hx hb dX12_leaves_90 (lv_at hl 4 rfl) ?_
            refine lv_icmp_le (tgt := 100) hx hb dX12_leaves_92 (by decide) (fun qc1 => ?_) (fun qc1 => ?_)
            · have hf := gif_t hf qc1
              refine lv_iload hx hb dX12_leaves_100 (lv_at hl 4 rfl) ?_
              exact J_102 zv0 zv2 zv3 zs0 zv6 zv5 _ _ _ ls hf hw (lv_sub hl [1, 2, 3, 0, 5] rfl)
            · have hf := gif_f hf qc1
              refine lv_iload hx hb dX12_leaves_95 (lv_at hl 6 rfl) ?_
              refine lv_goto (tgt := 102) hx hb dX12_leaves_97 (by decide) ?_
              exact J_102 zv0 zv2 zv3 zs0 zv6 zv7 _ _ _ ls hf hw (lv_sub hl [1, 2, 3, 0, 5] rfl)
          have J_70 : ∀ (zv0 : Nat) (zv2 : Int32) (zv3 : Int32) (zv4 : Int32) (zv5 : Int32) (zv6 : Int32) (zs0 : Int32) (zh : PH) (H : Heap) (locs : List Loc) (ls : Array Slot), f_X12_leaves_70 N (gi (fun zk zs => f_X12_leaves_13 N zk zs.1 zs.2.1 zs.2.2.1 zs.2.2.2) zn13) (gi (fun zk zs => f_X12_leaves_32 N (gi (fun zk zs => f_X12_leaves_13 N zk zs.1 zs.2.1 zs.2.2.1 zs.2.2.2) zn13) zk zs.1 zs.2.1 zs.2.2.1 zs.2.2.2.1 zs.2.2.2.2.1 zs.2.2.2.2.2.1 zs.2.2.2.2.2.2) zn32) zv0 zv2 zv3 zv4 zv5 zv6 zs0 zh = some h9 → gw E s zh H locs → lv_has ls 8 [(0, .ref (gB E + zv0)), (2, .int zv2), (3, .int zv3), (4, .int zv4), (5, .int zv5), (6, .int zv6)] → W p l e rm_X12_leaves s m [.ref (gB E + za0), .int za1, .int za2].toArray below meth c H locs 0 0 (MQ below (gQv E h9) [.ref (gB E + za0), .int za1, .int za2].toArray s 0 0 (gA E)) (F0 m 70 ls [.int zs0]) := by
            intro zv0 zv2 zv3 zv4 zv5 zv6 zs0 zh H locs ls hf hw hl
            unfold f_X12_leaves_70 at hf
            refine lv_istore (lv' := [(7, .int zs0), (0, .ref (gB E + zv0)), (2, .int zv2), (3, .int zv3), (4, .int zv4), (5, .int zv5), (6, .int zv6)]) hx hb dX12_leaves_70 hl (by decide) rfl (fun ls hl => ?_)
            refine lv_iload hx hb dX12_leaves_72 (lv_at hl 0 rfl) ?_
            refine lv_iload hx hb dX12_leaves_74 (lv_at hl 5 rfl) ?_
            refine lv_icmp_le (tgt := 84) hx hb dX12_leaves_76 (by decide) (fun qc1 => ?_) (fun qc1 => ?_)
            · have hf := gif_t hf qc1
              refine lv_iload hx hb dX12_leaves_84 (lv_at hl 4 rfl) ?_
              exact J_86 zv0 zv2 zv3 zv5 zv6 zs0 zv4 _ _ _ ls hf hw (lv_sub hl [1, 2, 3, 5, 6, 0] rfl)
            · have hf := gif_f hf qc1
              refine lv_iload hx hb dX12_leaves_79 (lv_at hl 6 rfl) ?_
              refine lv_goto (tgt := 86) hx hb dX12_leaves_81 (by decide) ?_
              exact J_86 zv0 zv2 zv3 zv5 zv6 zs0 zv6 _ _ _ ls hf hw (lv_sub hl [1, 2, 3, 5, 6, 0] rfl)
          intro zv0 zv2 zv3 zv4 zv5 zv6 zh H locs ls hf hw hl
          have hf := gi_s hf
          dsimp only at hf
          unfold f_X12_leaves_32 at hf
          refine lv_iload hx hb dX12_leaves_32 (lv_at hl 5 rfl) ?_
          refine lv_aload_n hx hb dX12_leaves_34 rfl (lv_at hl 0 rfl) ?_
          obtain ⟨qizh1, hf⟩ := gg_el hf
          obtain ⟨zt2, zh1, qzh1, hf⟩ := gc_el hf
          refine gx_ki (gx_runV (As := []) (rest := [.int zv6]) X hw (c_X12_rooms l E N zv0 zh qzh1) kX12_rooms mm_X12_231 qizh1 clX12 ⟨Nat.le_of_ble_eq_true rfl, Nat.le_of_ble_eq_true rfl⟩ rfl rfl rfl hl.1 (Nat.le_of_ble_eq_true rfl) rfl dX12_leaves_35 ⟨Nat.le_of_ble_eq_true rfl, Nat.le_of_ble_eq_true rfl⟩) hw (fun H locs hw => ?_)
          refine lv_icmp_ge (tgt := 110) hx hb dX12_leaves_38 (by decide) (fun qc3 => ?_) (fun qc3 => ?_)
          · have hf := gif_t hf qc3
            refine lv_iload hx hb dX12_leaves_110 (lv_at hl 3 rfl) ?_
            refine lv_if_lt (tgt := 129) hx hb dX12_leaves_112 (by decide) (fun qc4 => ?_) (fun qc4 => ?_)
            · have hf := gif_t hf qc4
              exact J_129 zv0 zv2 zv4 _ _ _ ls hf hw (lv_sub hl [0, 1, 3] rfl)
            · have hf := gif_f hf qc4
              refine lv_aload_n hx hb dX12_leaves_115 rfl (lv_at hl 0 rfl) ?_
              refine lv_aload_n hx hb dX12_leaves_116 rfl (lv_at hl 0 rfl) ?_
              obtain ⟨zt5, qzt5, hf⟩ := gb_el hf
              refine gx_getR X hw qzt5 clX12 (by decide) mf_X12_86 dX12_leaves_117 ?_
              refine W.eq (g2 := F0 m 120 ls [.ref (gB E + zt5), .ref (gB E + zv0)]) rfl ?_
              refine lv_iload hx hb dX12_leaves_120 (lv_at hl 3 rfl) ?_
              obtain ⟨zt6, qzt6, hf⟩ := gb_el hf
              refine gx_iald X hw qzt6 dX12_leaves_122 ?_
              refine lv_iload hx hb dX12_leaves_123 (lv_at hl 3 rfl) ?_
              refine lv_iload_n hx hb dX12_leaves_125 rfl (lv_at hl 2 rfl) ?_
              obtain ⟨qizh7, hf⟩ := gg_el hf
              obtain ⟨zh7, qzh7, hf⟩ := gb_el hf
              refine gx_kv (gx_runV (As := [.int zt6, .int zv4, .int zv3]) (rest := []) X hw (c_X12_goes l E N zv0 zt6 zv4 zv3 zh1 qzh7) kX12_goes mm_X12_267 qizh7 clX12 ⟨Nat.le_of_ble_eq_true rfl, Nat.le_of_ble_eq_true rfl⟩ rfl rfl rfl hl.1 (Nat.le_of_ble_eq_true rfl) rfl dX12_leaves_126 ⟨Nat.le_of_ble_eq_true rfl, Nat.le_of_ble_eq_true rfl⟩) hw (fun H locs hw => ?_)
              exact J_129 zv0 zv2 zv4 _ _ _ ls hf hw (lv_sub hl [0, 1, 3] rfl)
          · have hf := gif_f hf qc3
            refine lv_aload_n hx hb dX12_leaves_41 rfl (lv_at hl 0 rfl) ?_
            obtain ⟨zt8, qzt8, hf⟩ := gb_el hf
            refine gx_getR X hw qzt8 clX12 (by decide) mf_X12_86 dX12_leaves_42 ?_
            refine lv_iload hx hb dX12_leaves_45 (lv_at hl 5 rfl) ?_
            obtain ⟨zt9, qzt9, hf⟩ := gb_el hf
            refine gx_iald X hw qzt9 dX12_leaves_47 ?_
            refine lv_if_ge (tgt := 55) hx hb dX12_leaves_48 (by decide) (fun qc10 => ?_) (fun qc10 => ?_)
            · have hf := gif_t hf qc10
              refine W.eq (g2 := F0 m 55 ls []) rfl ?_
              refine lv_aload_n hx hb dX12_leaves_55 rfl (lv_at hl 0 rfl) ?_
              refine lv_iload_n hx hb dX12_leaves_56 rfl (lv_at hl 1 rfl) ?_
              refine lv_aload_n hx hb dX12_leaves_57 rfl (lv_at hl 0 rfl) ?_
              obtain ⟨zt11, qzt11, hf⟩ := gb_el hf
              refine gx_getR X hw qzt11 clX12 (by decide) mf_X12_86 dX12_leaves_58 ?_
              refine lv_iload hx hb dX12_leaves_61 (lv_at hl 5 rfl) ?_
              obtain ⟨zt12, qzt12, hf⟩ := gb_el hf
              refine gx_iald X hw qzt12 dX12_leaves_63 ?_
              refine lv_iload hx hb dX12_leaves_64 (lv_at hl 5 rfl) ?_
              refine lv_iload_n hx hb dX12_leaves_66 rfl (lv_at hl 2 rfl) ?_
              obtain ⟨qizh13, hf⟩ := gg_el hf
              obtain ⟨zt14, zh13, qzh13, hf⟩ := gc_el hf
              refine gx_ki (gx_runV (As := [.int zv2, .int zt12, .int zv6, .int zv3]) (rest := []) X hw (c_X12_givesFor l E N zv0 zv2 zt12 zv6 zv3 zh1 qzh13) kX12_givesFor mm_X12_277 qizh13 clX12 ⟨Nat.le_of_ble_eq_true rfl, Nat.le_of_ble_eq_true rfl⟩ rfl rfl rfl hl.1 (Nat.le_of_ble_eq_true rfl) rfl dX12_leaves_67 ⟨Nat.le_of_ble_eq_true rfl, Nat.le_of_ble_eq_true rfl⟩) hw (fun H locs hw => ?_)
              exact J_70 zv0 zv2 zv3 zv4 zv5 zv6 zt14 _ _ _ ls hf hw (lv_sub hl [0, 1, 2, 3, 4, 5] rfl)
            · have hf := gif_f hf qc10
              refine W.eq (g2 := F0 m 51 ls []) rfl ?_
              refine lv_iconst (v := 0) hx hb dX12_leaves_51 (by decide) ?_
              refine lv_goto (tgt := 70) hx hb dX12_leaves_52 (by decide) ?_
              exact J_70 zv0 zv2 zv3 zv4 zv5 zv6 0 _ _ _ ls hf hw (lv_sub hl [0, 1, 2, 3, 4, 5] rfl)
      intro zv0 zv2 zv3 zh H locs ls hf hw hl
      have hf := gi_s hf
      dsimp only at hf
      unfold f_X12_leaves_13 at hf
      refine lv_iload_n hx hb dX12_leaves_13 rfl (lv_at hl 2 rfl) ?_
      refine lv_if_lt (tgt := 135) hx hb dX12_leaves_14 (by decide) (fun qc1 => ?_) (fun qc1 => ?_)
      · have hf := gif_t hf qc1
        exact J_135  _ _ _ ls hf hw (lv_sub hl [] rfl)
      · have hf := gif_f hf qc1
        refine lv_iload_n hx hb dX12_leaves_17 rfl (lv_at hl 1 rfl) ?_
        refine lv_if_lt (tgt := 135) hx hb dX12_leaves_18 (by decide) (fun qc2 => ?_) (fun qc2 => ?_)
        · have hf := gif_t hf qc2
          exact J_135  _ _ _ ls hf hw (lv_sub hl [] rfl)
        · have hf := gif_f hf qc2
          refine lv_iconst (v := (-1)) hx hb dX12_leaves_21 (by decide) ?_
          refine lv_istore (lv' := [(4, .int (-1)), (0, .ref (gB E + zv0)), (2, .int zv2), (3, .int zv3)]) hx hb dX12_leaves_22 hl (by decide) rfl (fun ls hl => ?_)
          refine lv_iconst (v := 0) hx hb dX12_leaves_24 (by decide) ?_
          refine lv_istore (lv' := [(5, .int 0), (4, .int (-1)), (0, .ref (gB E + zv0)), (2, .int zv2), (3, .int zv3)]) hx hb dX12_leaves_25 hl (by decide) rfl (fun ls hl => ?_)
          refine lv_iload_n hx hb dX12_leaves_27 rfl (lv_at hl 4 rfl) ?_
          refine W.eq (g2 := F0 m 28 ls [.int zv3]) rfl ?_
          refine lv_iconst (v := 1) hx hb dX12_leaves_28 (by decide) ?_
          refine lv_iadd hx hb dX12_leaves_29 ?_
          refine lv_topi (fun zx3 ezx3 => ?_)
          have hf := gl_el hf ezx3
          refine lv_istore (lv' := [(6, .int zx3), (5, .int 0), (4, .int (-1)), (0, .ref (gB E + zv0)), (2, .int zv2), (3, .int zv3)]) hx hb dX12_leaves_30 hl (by decide) rfl (fun ls hl => ?_)
          exact L_32 N zv0 zv2 zv3 (-1) 0 zx3 _ _ _ ls hf hw (lv_sub hl [3, 4, 5, 2, 1, 0] rfl)
  unfold f_X12_leaves at hf
  refine lv_aload_n hx hb dX12_leaves_0 rfl (lv_at hl 0 rfl) ?_
  refine lv_iload_n hx hb dX12_leaves_1 rfl (lv_at hl 1 rfl) ?_
  obtain ⟨qizh1, hf⟩ := gg_el hf
  obtain ⟨zt2, zh1, qzh1, hf⟩ := gc_el hf
  refine gx_ki (gx_runV (As := [.int za1]) (rest := []) X hw (c_X12_roomOf l E N za0 za1 zh qzh1) kX12_roomOf mm_X12_274 qizh1 clX12 ⟨Nat.le_of_ble_eq_true rfl, Nat.le_of_ble_eq_true rfl⟩ rfl rfl rfl hl.1 (Nat.le_of_ble_eq_true rfl) rfl dX12_leaves_2 ⟨Nat.le_of_ble_eq_true rfl, Nat.le_of_ble_eq_true rfl⟩) hw (fun H locs hw => ?_)
  refine lv_istore_n (lv' := [(3, .int zt2), (0, .ref (gB E + za0)), (1, .int za1), (2, .int za2)]) hx hb dX12_leaves_5 rfl hl (by decide) rfl (fun ls hl => ?_)
  refine lv_aload_n hx hb dX12_leaves_6 rfl (lv_at hl 1 rfl) ?_
  refine lv_iload_n hx hb dX12_leaves_7 rfl (lv_at hl 2 rfl) ?_
  refine lv_iload_n hx hb dX12_leaves_8 rfl (lv_at hl 0 rfl) ?_
  refine lv_iconst (v := (-1)) hx hb dX12_leaves_9 (by decide) ?_
  obtain ⟨qizh3, hf⟩ := gg_el hf
  obtain ⟨zh3, qzh3, hf⟩ := gb_el hf
  refine gx_kv (gx_runV (As := [.int za1, .int zt2, .int (-1)]) (rest := []) X hw (c_X12_goes l E N za0 za1 zt2 (-1) zh1 qzh3) kX12_goes mm_X12_267 qizh3 clX12 ⟨Nat.le_of_ble_eq_true rfl, Nat.le_of_ble_eq_true rfl⟩ rfl rfl rfl hl.1 (Nat.le_of_ble_eq_true rfl) rfl dX12_leaves_10 ⟨Nat.le_of_ble_eq_true rfl, Nat.le_of_ble_eq_true rfl⟩) hw (fun H locs hw => ?_)
  exact L_13 N za0 za2 zt2 _ _ _ ls hf hw (lv_sub hl [1, 3, 0] rfl)
abbrev rm_X12_goesThrough : Room := { frames := 4, cells := 0, slots := 0, locals := 97 }
set_option maxHeartbeats 4000000 in
set_option maxRecDepth 100000 in
theorem c_X12_goesThrough (l : Launch) (E : gE) (N : Nat) (za0 : Nat) (za1 : Int32) (za2 : Int32) (zh : PH) {h9 : PH} (hf : f_X12_goesThrough N za0 za1 za2 zh = some h9) : Met l yX12_goesThrough (gWS yX12_goesThrough cX12_goesThrough 4 none) rm_X12_goesThrough (gPc E [.ref (gB E + za0), .int za1, .int za2] zh) (gQv E h9) 0 0 (gA E) := by
  refine gx_met (by decide) ?_ rfl
  intro p e s m below meth c X hr hlk hin2 hw
  have hx := X.1.1
  have hb := X.1.2.1
  have hl := lv_entry [.ref (gB E + za0), .int za1, .int za2] (n := 4) (Nat.le_of_ble_eq_true rfl)
  rw [lg_entry_eq]
  generalize (lg_sl [.ref (gB E + za0), .int za1, .int za2] ++ List.replicate (4 - (lg_sl [.ref (gB E + za0), .int za1, .int za2]).length) Slot.unset).toArray = ls at hl ⊢
  have hl : lv_has ls 4 [(0, .ref (gB E + za0)), (1, .int za1), (2, .int za2)] := hl
  have L_6 : ∀ (zn6 : Nat) (zv0 : Nat) (zv1 : Int32) (zv2 : Int32) (zv3 : Int32) (zh : PH) (H : Heap) (locs : List Loc) (ls : Array Slot), gi (fun zk zs => f_X12_goesThrough_6 N zk zs.1 zs.2.1 zs.2.2.1 zs.2.2.2.1 zs.2.2.2.2) zn6 (zv0, zv1, zv2, zv3, zh) = some h9 → gw E s zh H locs → lv_has ls 4 [(0, .ref (gB E + zv0)), (1, .int zv1), (2, .int zv2), (3, .int zv3)] → W p l e rm_X12_goesThrough s m [.ref (gB E + za0), .int za1, .int za2].toArray below meth c H locs 0 0 (MQ below (gQv E h9) [.ref (gB E + za0), .int za1, .int za2].toArray s 0 0 (gA E)) (F0 m 6 ls []) := by
    intro zn6
    induction zn6 with
    | zero =>
      intro zv0 zv1 zv2 zv3 zh H locs ls hf
      cases hf
    | succ zn6 ih_6 =>
      have J_90 : ∀ (zv0 : Nat) (zv1 : Int32) (zv2 : Int32) (zv3 : Int32) (zh : PH) (H : Heap) (locs : List Loc) (ls : Array Slot), f_X12_goesThrough_90 N (gi (fun zk zs => f_X12_goesThrough_6 N zk zs.1 zs.2.1 zs.2.2.1 zs.2.2.2.1 zs.2.2.2.2) zn6) zv0 zv1 zv2 zv3 zh = some h9 → gw E s zh H locs → lv_has ls 4 [(0, .ref (gB E + zv0)), (1, .int zv1), (2, .int zv2), (3, .int zv3)] → W p l e rm_X12_goesThrough s m [.ref (gB E + za0), .int za1, .int za2].toArray below meth c H locs 0 0 (MQ below (gQv E h9) [.ref (gB E + za0), .int za1, .int za2].toArray s 0 0 (gA E)) (F0 m 90 ls []) := by
        intro zv0 zv1 zv2 zv3 zh H locs ls hf hw hl
        unfold f_X12_goesThrough_90 at hf
        obtain ⟨zx1, ezx1⟩ : ∃ y : Int32, y = zv3 + 1 := ⟨_, rfl⟩
        have hf := gl_el hf ezx1
        refine lv_iinc (v := zx1) (lv' := [(3, .int zx1), (0, .ref (gB E + zv0)), (1, .int zv1), (2, .int zv2)]) hx hb dX12_goesThrough_90 hl (k := 3) rfl (by rw [ezx1]; rfl) (by decide) rfl (fun ls hl => ?_)
        refine lv_goto (tgt := 6) hx hb dX12_goesThrough_93 (by decide) ?_
        exact ih_6 zv0 zv1 zv2 zx1 _ _ _ ls hf hw (lv_sub hl [1, 2, 3, 0] rfl)
      have J_87 : ∀ (zv0 : Nat) (zv1 : Int32) (zv2 : Int32) (zv3 : Int32) (zs0 : Int32) (zs1 : Int32) (zs2 : Nat) (zh : PH) (H : Heap) (locs : List Loc) (ls : Array Slot), f_X12_goesThrough_87 N (gi (fun zk zs => f_X12_goesThrough_6 N zk zs.1 zs.2.1 zs.2.2.1 zs.2.2.2.1 zs.2.2.2.2) zn6) zv0 zv1 zv2 zv3 zs0 zs1 zs2 zh = some h9 → gw E s zh H locs → lv_has ls 4 [(0, .ref (gB E + zv0)), (1, .int zv1), (2, .int zv2), (3, .int zv3)] → W p l e rm_X12_goesThrough s m [.ref (gB E + za0), .int za1, .int za2].toArray below meth c H locs 0 0 (MQ below (gQv E h9) [.ref (gB E + za0), .int za1, .int za2].toArray s 0 0 (gA E)) (F0 m 87 ls [.int zs0, .int zs1, .ref (gB E + zs2)]) := by
        intro zv0 zv1 zv2 zv3 zs0 zs1 zs2 zh H locs ls hf hw hl
        unfold f_X12_goesThrough_87 at hf
        obtain ⟨qizh1, hf⟩ := gg_el hf
        obtain ⟨zh1, qzh1, hf⟩ := gb_el hf
        refine gx_kv (gx_runV (As := [.int zs1, .int zs0]) (rest := []) X hw (c_X12_leaves l E N zs2 zs1 zs0 zh qzh1) kX12_leaves mm_X12_293 qizh1 clX12 ⟨Nat.le_of_ble_eq_true rfl, Nat.le_of_ble_eq_true rfl⟩ rfl rfl rfl hl.1 (Nat.le_of_ble_eq_true rfl) rfl dX12_goesThrough_87 ⟨Nat.le_of_ble_eq_true rfl, Nat.le_of_ble_eq_true rfl⟩) hw (fun H locs hw => ?_)
        exact J_90 zv0 zv1 zv2 zv3 _ _ _ ls hf hw (lv_sub hl [0, 1, 2, 3] rfl)
      have J_41 : ∀ (zv0 : Nat) (zv1 : Int32) (zv2 : Int32) (zv3 : Int32) (zs0 : Int32) (zs1 : Nat) (zh : PH) (H : Heap) (locs : List Loc) (ls : Array Slot), f_X12_goesThrough_41 N (gi (fun zk zs => f_X12_goesThrough_6 N zk zs.1 zs.2.1 zs.2.2.1 zs.2.2.2.1 zs.2.2.2.2) zn6) zv0 zv1 zv2 zv3 zs0 zs1 zh = some h9 → gw E s zh H locs → lv_has ls 4 [(0, .ref (gB E + zv0)), (1, .int zv1), (2, .int zv2), (3, .int zv3)] → W p l e rm_X12_goesThrough s m [.ref (gB E + za0), .int za1, .int za2].toArray below meth c H locs 0 0 (MQ below (gQv E h9) [.ref (gB E + za0), .int za1, .int za2].toArray s 0 0 (gA E)) (F0 m 41 ls [.int zs0, .ref (gB E + zs1)]) := by
        intro zv0 zv1 zv2 zv3 zs0 zs1 zh H locs ls hf hw hl
        unfold f_X12_goesThrough_41 at hf
        obtain ⟨zh1, qzh1, hf⟩ := gb_el hf
        refine gx_putV X hw qzh1 clX12 (by decide) mf_X12_252 rfl rfl rfl dX12_goesThrough_41 (fun H locs hw => ?_)
        refine lv_aload_n hx hb dX12_goesThrough_44 rfl (lv_at hl 0 rfl) ?_
        refine lv_iload_n hx hb dX12_goesThrough_45 rfl (lv_at hl 3 rfl) ?_
        refine lv_iconst (v := 1) hx hb dX12_goesThrough_46 (by decide) ?_
        obtain ⟨qizh2, hf⟩ := gg_el hf
        obtain ⟨zt3, zh2, qzh2, hf⟩ := gc_el hf
        refine gx_ki (gx_runV (As := [.int zv3, .int 1]) (rest := []) X hw (c_X12_eventOf l E N zv0 zv3 1 zh1 qzh2) kX12_eventOf mm_X12_287 qizh2 clX12 ⟨Nat.le_of_ble_eq_true rfl, Nat.le_of_ble_eq_true rfl⟩ rfl rfl rfl hl.1 (Nat.le_of_ble_eq_true rfl) rfl dX12_goesThrough_47 ⟨Nat.le_of_ble_eq_true rfl, Nat.le_of_ble_eq_true rfl⟩) hw (fun H locs hw => ?_)
        refine lv_if_ne (tgt := 66) hx hb dX12_goesThrough_50 (by decide) (fun qc4 => ?_) (fun qc4 => ?_)
        · have hf := gif_f hf qc4
          refine lv_aload_n hx hb dX12_goesThrough_66 rfl (lv_at hl 0 rfl) ?_
          refine lv_aload_n hx hb dX12_goesThrough_67 rfl (lv_at hl 0 rfl) ?_
          refine lv_iload_n hx hb dX12_goesThrough_68 rfl (lv_at hl 3 rfl) ?_
          refine W.eq (g2 := F0 m 69 ls [.int zv3, .ref (gB E + zv0), .ref (gB E + zv0)]) rfl ?_
          refine lv_iconst (v := 0) hx hb dX12_goesThrough_69 (by decide) ?_
          obtain ⟨qizh5, hf⟩ := gg_el hf
          obtain ⟨zt6, zh5, qzh5, hf⟩ := gc_el hf
          refine gx_ki (gx_runV (As := [.int zv3, .int 0]) (rest := [.ref (gB E + zv0)]) X hw (c_X12_eventOf l E N zv0 zv3 0 zh2 qzh5) kX12_eventOf mm_X12_287 qizh5 clX12 ⟨Nat.le_of_ble_eq_true rfl, Nat.le_of_ble_eq_true rfl⟩ rfl rfl rfl hl.1 (Nat.le_of_ble_eq_true rfl) rfl dX12_goesThrough_70 ⟨Nat.le_of_ble_eq_true rfl, Nat.le_of_ble_eq_true rfl⟩) hw (fun H locs hw => ?_)
          refine lv_iload_n hx hb dX12_goesThrough_73 rfl (lv_at hl 1 rfl) ?_
          refine lv_if_eq (tgt := 81) hx hb dX12_goesThrough_74 (by decide) (fun qc7 => ?_) (fun qc7 => ?_)
          · have hf := gif_t hf qc7
            refine lv_aload_n hx hb dX12_goesThrough_81 rfl (lv_at hl 0 rfl) ?_
            refine lv_iload_n hx hb dX12_goesThrough_82 rfl (lv_at hl 3 rfl) ?_
            refine lv_iconst (v := 3) hx hb dX12_goesThrough_83 (by decide) ?_
            obtain ⟨qizh8, hf⟩ := gg_el hf
            obtain ⟨zt9, zh8, qzh8, hf⟩ := gc_el hf
            refine gx_ki (gx_runV (As := [.int zv3, .int 3]) (rest := [.int zt6, .ref (gB E + zv0)]) X hw (c_X12_eventOf l E N zv0 zv3 3 zh5 qzh8) kX12_eventOf mm_X12_287 qizh8 clX12 ⟨Nat.le_of_ble_eq_true rfl, Nat.le_of_ble_eq_true rfl⟩ rfl rfl rfl hl.1 (Nat.le_of_ble_eq_true rfl) rfl dX12_goesThrough_84 ⟨Nat.le_of_ble_eq_true rfl, Nat.le_of_ble_eq_true rfl⟩) hw (fun H locs hw => ?_)
            exact J_87 zv0 zv1 zv2 zv3 zt9 zt6 zv0 _ _ _ ls hf hw (lv_sub hl [0, 1, 2, 3] rfl)
          · have hf := gif_f hf qc7
            refine lv_iload_n hx hb dX12_goesThrough_77 rfl (lv_at hl 2 rfl) ?_
            refine lv_goto (tgt := 87) hx hb dX12_goesThrough_78 (by decide) ?_
            exact J_87 zv0 zv1 zv2 zv3 zv2 zt6 zv0 _ _ _ ls hf hw (lv_sub hl [0, 1, 2, 3] rfl)
        · have hf := gif_t hf qc4
          refine lv_aload_n hx hb dX12_goesThrough_53 rfl (lv_at hl 0 rfl) ?_
          refine lv_aload_n hx hb dX12_goesThrough_54 rfl (lv_at hl 0 rfl) ?_
          refine lv_iload_n hx hb dX12_goesThrough_55 rfl (lv_at hl 3 rfl) ?_
          refine W.eq (g2 := F0 m 56 ls [.int zv3, .ref (gB E + zv0), .ref (gB E + zv0)]) rfl ?_
          refine lv_iconst (v := 0) hx hb dX12_goesThrough_56 (by decide) ?_
          obtain ⟨qizh10, hf⟩ := gg_el hf
          obtain ⟨zt11, zh10, qzh10, hf⟩ := gc_el hf
          refine gx_ki (gx_runV (As := [.int zv3, .int 0]) (rest := [.ref (gB E + zv0)]) X hw (c_X12_eventOf l E N zv0 zv3 0 zh2 qzh10) kX12_eventOf mm_X12_287 qizh10 clX12 ⟨Nat.le_of_ble_eq_true rfl, Nat.le_of_ble_eq_true rfl⟩ rfl rfl rfl hl.1 (Nat.le_of_ble_eq_true rfl) rfl dX12_goesThrough_57 ⟨Nat.le_of_ble_eq_true rfl, Nat.le_of_ble_eq_true rfl⟩) hw (fun H locs hw => ?_)
          obtain ⟨qizh12, hf⟩ := gg_el hf
          obtain ⟨zh12, qzh12, hf⟩ := gb_el hf
          refine gx_kv (gx_runV (As := [.int zt11]) (rest := []) X hw (c_X12_comes l E N zv0 zt11 zh10 qzh12) kX12_comes mm_X12_290 qizh12 clX12 ⟨Nat.le_of_ble_eq_true rfl, Nat.le_of_ble_eq_true rfl⟩ rfl rfl rfl hl.1 (Nat.le_of_ble_eq_true rfl) rfl dX12_goesThrough_60 ⟨Nat.le_of_ble_eq_true rfl, Nat.le_of_ble_eq_true rfl⟩) hw (fun H locs hw => ?_)
          refine lv_goto (tgt := 90) hx hb dX12_goesThrough_63 (by decide) ?_
          exact J_90 zv0 zv1 zv2 zv3 _ _ _ ls hf hw (lv_sub hl [0, 1, 2, 3] rfl)
      intro zv0 zv1 zv2 zv3 zh H locs ls hf hw hl
      have hf := gi_s hf
      dsimp only at hf
      unfold f_X12_goesThrough_6 at hf
      refine lv_iload_n hx hb dX12_goesThrough_6 rfl (lv_at hl 3 rfl) ?_
      refine lv_aload_n hx hb dX12_goesThrough_7 rfl (lv_at hl 0 rfl) ?_
      obtain ⟨qizh1, hf⟩ := gg_el hf
      obtain ⟨zt2, zh1, qzh1, hf⟩ := gc_el hf
      refine gx_ki (gx_runV (As := []) (rest := [.int zv3]) X hw (c_X12_events l E N zv0 zh qzh1) kX12_events mm_X12_284 qizh1 clX12 ⟨Nat.le_of_ble_eq_true rfl, Nat.le_of_ble_eq_true rfl⟩ rfl rfl rfl hl.1 (Nat.le_of_ble_eq_true rfl) rfl dX12_goesThrough_8 ⟨Nat.le_of_ble_eq_true rfl, Nat.le_of_ble_eq_true rfl⟩) hw (fun H locs hw => ?_)
      refine lv_icmp_ge (tgt := 96) hx hb dX12_goesThrough_11 (by decide) (fun qc3 => ?_) (fun qc3 => ?_)
      · have hf := gif_t hf qc3
        exact gx_vret X hr hlk hw hf dX12_goesThrough_96
      · have hf := gif_f hf qc3
        refine lv_aload_n hx hb dX12_goesThrough_14 rfl (lv_at hl 0 rfl) ?_
        refine lv_aload_n hx hb dX12_goesThrough_15 rfl (lv_at hl 0 rfl) ?_
        obtain ⟨zt4, qzt4, hf⟩ := gb_el hf
        refine gx_getI X hw qzt4 clX12 (by decide) mf_X12_252 dX12_goesThrough_16 ?_
        refine lv_aload_n hx hb dX12_goesThrough_19 rfl (lv_at hl 0 rfl) ?_
        refine lv_iload_n hx hb dX12_goesThrough_20 rfl (lv_at hl 3 rfl) ?_
        refine W.eq (g2 := F0 m 21 ls [.int zv3, .ref (gB E + zv0), .int zt4, .ref (gB E + zv0)]) rfl ?_
        refine lv_iconst (v := 2) hx hb dX12_goesThrough_21 (by decide) ?_
        obtain ⟨qizh5, hf⟩ := gg_el hf
        obtain ⟨zt6, zh5, qzh5, hf⟩ := gc_el hf
        refine gx_ki (gx_runV (As := [.int zv3, .int 2]) (rest := [.int zt4, .ref (gB E + zv0)]) X hw (c_X12_eventOf l E N zv0 zv3 2 zh1 qzh5) kX12_eventOf mm_X12_287 qizh5 clX12 ⟨Nat.le_of_ble_eq_true rfl, Nat.le_of_ble_eq_true rfl⟩ rfl rfl rfl hl.1 (Nat.le_of_ble_eq_true rfl) rfl dX12_goesThrough_22 ⟨Nat.le_of_ble_eq_true rfl, Nat.le_of_ble_eq_true rfl⟩) hw (fun H locs hw => ?_)
        refine lv_icmp_ge (tgt := 37) hx hb dX12_goesThrough_25 (by decide) (fun qc7 => ?_) (fun qc7 => ?_)
        · have hf := gif_t hf qc7
          refine lv_aload_n hx hb dX12_goesThrough_37 rfl (lv_at hl 0 rfl) ?_
          obtain ⟨zt8, qzt8, hf⟩ := gb_el hf
          refine gx_getI X hw qzt8 clX12 (by decide) mf_X12_252 dX12_goesThrough_38 ?_
          exact J_41 zv0 zv1 zv2 zv3 zt8 zv0 _ _ _ ls hf hw (lv_sub hl [0, 1, 2, 3] rfl)
        · have hf := gif_f hf qc7
          refine lv_aload_n hx hb dX12_goesThrough_28 rfl (lv_at hl 0 rfl) ?_
          refine lv_iload_n hx hb dX12_goesThrough_29 rfl (lv_at hl 3 rfl) ?_
          refine lv_iconst (v := 2) hx hb dX12_goesThrough_30 (by decide) ?_
          obtain ⟨qizh9, hf⟩ := gg_el hf
          obtain ⟨zt10, zh9, qzh9, hf⟩ := gc_el hf
          refine gx_ki (gx_runV (As := [.int zv3, .int 2]) (rest := [.ref (gB E + zv0)]) X hw (c_X12_eventOf l E N zv0 zv3 2 zh5 qzh9) kX12_eventOf mm_X12_287 qizh9 clX12 ⟨Nat.le_of_ble_eq_true rfl, Nat.le_of_ble_eq_true rfl⟩ rfl rfl rfl hl.1 (Nat.le_of_ble_eq_true rfl) rfl dX12_goesThrough_31 ⟨Nat.le_of_ble_eq_true rfl, Nat.le_of_ble_eq_true rfl⟩) hw (fun H locs hw => ?_)
          refine lv_goto (tgt := 41) hx hb dX12_goesThrough_34 (by decide) ?_
          exact J_41 zv0 zv1 zv2 zv3 zt10 zv0 _ _ _ ls hf hw (lv_sub hl [0, 1, 2, 3] rfl)
  unfold f_X12_goesThrough at hf
  refine lv_aload_n hx hb dX12_goesThrough_0 rfl (lv_at hl 0 rfl) ?_
  obtain ⟨qizh1, hf⟩ := gg_el hf
  obtain ⟨zh1, qzh1, hf⟩ := gb_el hf
  refine gx_kv (gx_runV (As := []) (rest := []) X hw (c_X12_begins l E N za0 zh qzh1) kX12_begins mm_X12_281 qizh1 clX12 ⟨Nat.le_of_ble_eq_true rfl, Nat.le_of_ble_eq_true rfl⟩ rfl rfl rfl hl.1 (Nat.le_of_ble_eq_true rfl) rfl dX12_goesThrough_1 ⟨Nat.le_of_ble_eq_true rfl, Nat.le_of_ble_eq_true rfl⟩) hw (fun H locs hw => ?_)
  refine lv_iconst (v := 0) hx hb dX12_goesThrough_4 (by decide) ?_
  refine lv_istore_n (lv' := [(3, .int 0), (0, .ref (gB E + za0)), (1, .int za1), (2, .int za2)]) hx hb dX12_goesThrough_5 rfl hl (by decide) rfl (fun ls hl => ?_)
  exact L_6 N za0 za1 za2 0 _ _ _ ls hf hw (lv_sub hl [1, 2, 3, 0] rfl)
abbrev rm_X12_find : Room := { frames := 5, cells := 0, slots := 0, locals := 120 }
set_option maxHeartbeats 4000000 in
set_option maxRecDepth 100000 in
theorem c_X12_find (l : Launch) (E : gE) (N : Nat) (za0 : Nat) (zh : PH) {h9 : PH} (hf : f_X12_find N za0 zh = some h9) : Met l yX12_find (gWS yX12_find cX12_find 1 none) rm_X12_find (gPc E [.ref (gB E + za0)] zh) (gQv E h9) 0 0 (gA E) := by
  refine gx_met (by decide) ?_ rfl
  intro p e s m below meth c X hr hlk hin2 hw
  have hx := X.1.1
  have hb := X.1.2.1
  have hl := lv_entry [.ref (gB E + za0)] (n := 1) (Nat.le_of_ble_eq_true rfl)
  rw [lg_entry_eq]
  generalize (lg_sl [.ref (gB E + za0)] ++ List.replicate (1 - (lg_sl [.ref (gB E + za0)]).length) Slot.unset).toArray = ls at hl ⊢
  have hl : lv_has ls 1 [(0, .ref (gB E + za0))] := hl
  have J_18 : ∀ (zh : PH) (H : Heap) (locs : List Loc) (ls : Array Slot), f_X12_find_18 N zh = some h9 → gw E s zh H locs → lv_has ls 1 [] → W p l e rm_X12_find s m [.ref (gB E + za0)].toArray below meth c H locs 0 0 (MQ below (gQv E h9) [.ref (gB E + za0)].toArray s 0 0 (gA E)) (F0 m 18 ls []) := by
    intro zh H locs ls hf hw hl
    unfold f_X12_find_18 at hf
    exact gx_vret X hr hlk hw hf dX12_find_18
  unfold f_X12_find at hf
  refine lv_aload_n hx hb dX12_find_0 rfl (lv_at hl 0 rfl) ?_
  obtain ⟨zt1, qzt1, hf⟩ := gb_el hf
  refine gx_getI X hw qzt1 clX12 (by decide) mf_X12_123 dX12_find_1 ?_
  refine lv_if_eq (tgt := 18) hx hb dX12_find_4 (by decide) (fun qc2 => ?_) (fun qc2 => ?_)
  · have hf := gif_t hf qc2
    exact J_18  _ _ _ ls hf hw (lv_sub hl [] rfl)
  · have hf := gif_f hf qc2
    refine lv_aload_n hx hb dX12_find_7 rfl (lv_at hl 0 rfl) ?_
    refine lv_iconst (v := 0) hx hb dX12_find_8 (by decide) ?_
    obtain ⟨zh3, qzh3, hf⟩ := gb_el hf
    refine gx_putV X hw qzh3 clX12 (by decide) mf_X12_123 rfl rfl rfl dX12_find_9 (fun H locs hw => ?_)
    refine lv_aload_n hx hb dX12_find_12 rfl (lv_at hl 0 rfl) ?_
    refine lv_iconst (v := 0) hx hb dX12_find_13 (by decide) ?_
    refine lv_iconst (v := (-1)) hx hb dX12_find_14 (by decide) ?_
    refine W.eq (g2 := F0 m 15 ls [.int (-1), .int 0, .ref (gB E + za0)]) rfl ?_
    obtain ⟨qizh4, hf⟩ := gg_el hf
    obtain ⟨zh4, qzh4, hf⟩ := gb_el hf
    refine gx_kv (gx_runV (As := [.int 0, .int (-1)]) (rest := []) X hw (c_X12_goesThrough l E N za0 0 (-1) zh3 qzh4) kX12_goesThrough mm_X12_296 qizh4 clX12 ⟨Nat.le_of_ble_eq_true rfl, Nat.le_of_ble_eq_true rfl⟩ rfl rfl rfl hl.1 (Nat.le_of_ble_eq_true rfl) rfl dX12_find_15 ⟨Nat.le_of_ble_eq_true rfl, Nat.le_of_ble_eq_true rfl⟩) hw (fun H locs hw => ?_)
    exact J_18  _ _ _ ls hf hw (lv_sub hl [] rfl)
abbrev rm_X12_roomNow : Room := { frames := 6, cells := 0, slots := 0, locals := 140 }
set_option maxHeartbeats 4000000 in
set_option maxRecDepth 100000 in
theorem c_X12_roomNow (l : Launch) (E : gE) (N : Nat) (za0 : Nat) (za1 : Int32) (zh : PH) {h9 : PH} {r9 : Int32} (hf : f_X12_roomNow N za0 za1 zh = some (r9, h9)) : Met l yX12_roomNow (gWS yX12_roomNow cX12_roomNow 2 (some .int)) rm_X12_roomNow (gPc E [.ref (gB E + za0), .int za1] zh) (gQi E r9 h9) 0 0 (gA E) := by
  refine gx_met (by decide) ?_ rfl
  intro p e s m below meth c X hr hlk hin2 hw
  have hx := X.1.1
  have hb := X.1.2.1
  have hl := lv_entry [.ref (gB E + za0), .int za1] (n := 2) (Nat.le_of_ble_eq_true rfl)
  rw [lg_entry_eq]
  generalize (lg_sl [.ref (gB E + za0), .int za1] ++ List.replicate (2 - (lg_sl [.ref (gB E + za0), .int za1]).length) Slot.unset).toArray = ls at hl ⊢
  have hl : lv_has ls 2 [(0, .ref (gB E + za0)), (1, .int za1)] := hl
  unfold f_X12_roomNow at hf
  refine lv_aload_n hx hb dX12_roomNow_0 rfl (lv_at hl 0 rfl) ?_
  obtain ⟨qizh1, hf⟩ := gg_el hf
  obtain ⟨zh1, qzh1, hf⟩ := gb_el hf
  refine gx_kv (gx_runV (As := []) (rest := []) X hw (c_X12_find l E N za0 zh qzh1) kX12_find mm_X12_300 qizh1 clX12 ⟨Nat.le_of_ble_eq_true rfl, Nat.le_of_ble_eq_true rfl⟩ rfl rfl rfl hl.1 (Nat.le_of_ble_eq_true rfl) rfl dX12_roomNow_1 ⟨Nat.le_of_ble_eq_true rfl, Nat.le_of_ble_eq_true rfl⟩) hw (fun H locs hw => ?_)
  refine lv_aload_n hx hb dX12_roomNow_4 rfl (lv_at hl 0 rfl) ?_
  refine lv_iload_n hx hb dX12_roomNow_5 rfl (lv_at hl 1 rfl) ?_
  obtain ⟨qizh2, hf⟩ := gg_el hf
  obtain ⟨zt3, zh2, qzh2, hf⟩ := gc_el hf
  refine gx_ki (gx_runV (As := [.int za1]) (rest := []) X hw (c_X12_roomOf l E N za0 za1 zh1 qzh2) kX12_roomOf mm_X12_274 qizh2 clX12 ⟨Nat.le_of_ble_eq_true rfl, Nat.le_of_ble_eq_true rfl⟩ rfl rfl rfl hl.1 (Nat.le_of_ble_eq_true rfl) rfl dX12_roomNow_6 ⟨Nat.le_of_ble_eq_true rfl, Nat.le_of_ble_eq_true rfl⟩) hw (fun H locs hw => ?_)
  exact gx_iret X hr hlk hw hf dX12_roomNow_9
abbrev rm_X12_isTold : Room := { frames := 1, cells := 0, slots := 0, locals := 22 }
set_option maxHeartbeats 4000000 in
set_option maxRecDepth 100000 in
theorem c_X12_isTold (l : Launch) (E : gE) (N : Nat) (za0 : Int32) (zh : PH) {h9 : PH} {r9 : Int32} (hf : f_X12_isTold N za0 zh = some (r9, h9)) : Met l yX12_isTold (gWS yX12_isTold cX12_isTold 1 (some .boolean)) rm_X12_isTold (gPc E [.int za0] zh) (gQi E r9 h9) 0 0 (gA E) := by
  refine gx_met (by decide) ?_ rfl
  intro p e s m below meth c X hr hlk hin2 hw
  have hx := X.1.1
  have hb := X.1.2.1
  have hl := lv_entry [.int za0] (n := 1) (Nat.le_of_ble_eq_true rfl)
  rw [lg_entry_eq]
  generalize (lg_sl [.int za0] ++ List.replicate (1 - (lg_sl [.int za0]).length) Slot.unset).toArray = ls at hl ⊢
  have hl : lv_has ls 1 [(0, .int za0)] := hl
  unfold f_X12_isTold at hf
  refine lv_iload_n hx hb dX12_isTold_0 rfl (lv_at hl 0 rfl) ?_
  refine lv_iconst (v := 0) hx hb dX12_isTold_1 (by decide) ?_
  refine lv_ldcw (v := 99999) hx hb X.1.2.2.2.1 (X.1.2.2.2.2 _ mk_X12_303) dX12_isTold_2 ?_
  obtain ⟨zt2, zh1, qzh1, hf⟩ := gc_el hf
  refine gx_ki (gx_runS (As := [.int za0, .int 0, .int 99999]) (rest := []) X hw (c_X12_within l E N za0 0 99999 zh qzh1) kX12_within mm_X12_304 ⟨Nat.le_of_ble_eq_true rfl, Nat.le_of_ble_eq_true rfl⟩ rfl rfl rfl hl.1 (Nat.le_of_ble_eq_true rfl) rfl dX12_isTold_5 ⟨Nat.le_of_ble_eq_true rfl, Nat.le_of_ble_eq_true rfl⟩) hw (fun H locs hw => ?_)
  exact gx_zret X hr hlk hw hf dX12_isTold_8
abbrev rm_X12_isMinute : Room := { frames := 1, cells := 0, slots := 0, locals := 22 }
set_option maxHeartbeats 4000000 in
set_option maxRecDepth 100000 in
theorem c_X12_isMinute (l : Launch) (E : gE) (N : Nat) (za0 : Int32) (zh : PH) {h9 : PH} {r9 : Int32} (hf : f_X12_isMinute N za0 zh = some (r9, h9)) : Met l yX12_isMinute (gWS yX12_isMinute cX12_isMinute 1 (some .boolean)) rm_X12_isMinute (gPc E [.int za0] zh) (gQi E r9 h9) 0 0 (gA E) := by
  refine gx_met (by decide) ?_ rfl
  intro p e s m below meth c X hr hlk hin2 hw
  have hx := X.1.1
  have hb := X.1.2.1
  have hl := lv_entry [.int za0] (n := 1) (Nat.le_of_ble_eq_true rfl)
  rw [lg_entry_eq]
  generalize (lg_sl [.int za0] ++ List.replicate (1 - (lg_sl [.int za0]).length) Slot.unset).toArray = ls at hl ⊢
  have hl : lv_has ls 1 [(0, .int za0)] := hl
  unfold f_X12_isMinute at hf
  refine lv_iload_n hx hb dX12_isMinute_0 rfl (lv_at hl 0 rfl) ?_
  refine lv_iconst (v := 0) hx hb dX12_isMinute_1 (by decide) ?_
  refine lv_ldcw (v := 999999) hx hb X.1.2.2.2.1 (X.1.2.2.2.2 _ mk_X12_308) dX12_isMinute_2 ?_
  obtain ⟨zt2, zh1, qzh1, hf⟩ := gc_el hf
  refine gx_ki (gx_runS (As := [.int za0, .int 0, .int 999999]) (rest := []) X hw (c_X12_within l E N za0 0 999999 zh qzh1) kX12_within mm_X12_304 ⟨Nat.le_of_ble_eq_true rfl, Nat.le_of_ble_eq_true rfl⟩ rfl rfl rfl hl.1 (Nat.le_of_ble_eq_true rfl) rfl dX12_isMinute_5 ⟨Nat.le_of_ble_eq_true rfl, Nat.le_of_ble_eq_true rfl⟩) hw (fun H locs hw => ?_)
  exact gx_zret X hr hlk hw hf dX12_isMinute_8
abbrev rm_X12_insideMany : Room := { frames := 6, cells := 0, slots := 0, locals := 140 }
set_option maxHeartbeats 4000000 in
set_option maxRecDepth 100000 in
theorem c_X12_insideMany (l : Launch) (E : gE) (N : Nat) (za0 : Nat) (zh : PH) {h9 : PH} {r9 : Int32} (hf : f_X12_insideMany N za0 zh = some (r9, h9)) : Met l yX12_insideMany (gWS yX12_insideMany cX12_insideMany 3 (some .int)) rm_X12_insideMany (gPc E [.ref (gB E + za0)] zh) (gQi E r9 h9) 0 0 (gA E) := by
  refine gx_met (by decide) ?_ rfl
  intro p e s m below meth c X hr hlk hin2 hw
  have hx := X.1.1
  have hb := X.1.2.1
  have hl := lv_entry [.ref (gB E + za0)] (n := 3) (Nat.le_of_ble_eq_true rfl)
  rw [lg_entry_eq]
  generalize (lg_sl [.ref (gB E + za0)] ++ List.replicate (3 - (lg_sl [.ref (gB E + za0)]).length) Slot.unset).toArray = ls at hl ⊢
  have hl : lv_has ls 3 [(0, .ref (gB E + za0))] := hl
  have L_8 : ∀ (zn8 : Nat) (zv0 : Nat) (zv1 : Int32) (zv2 : Int32) (zh : PH) (H : Heap) (locs : List Loc) (ls : Array Slot), gi (fun zk zs => f_X12_insideMany_8 N zk zs.1 zs.2.1 zs.2.2.1 zs.2.2.2) zn8 (zv0, zv1, zv2, zh) = some (r9, h9) → gw E s zh H locs → lv_has ls 3 [(0, .ref (gB E + zv0)), (1, .int zv1), (2, .int zv2)] → W p l e rm_X12_insideMany s m [.ref (gB E + za0)].toArray below meth c H locs 0 0 (MQ below (gQi E r9 h9) [.ref (gB E + za0)].toArray s 0 0 (gA E)) (F0 m 8 ls []) := by
    intro zn8
    induction zn8 with
    | zero =>
      intro zv0 zv1 zv2 zh H locs ls hf
      cases hf
    | succ zn8 ih_8 =>
      have J_31 : ∀ (zv0 : Nat) (zv2 : Int32) (zs0 : Int32) (zs1 : Int32) (zh : PH) (H : Heap) (locs : List Loc) (ls : Array Slot), f_X12_insideMany_31 N (gi (fun zk zs => f_X12_insideMany_8 N zk zs.1 zs.2.1 zs.2.2.1 zs.2.2.2) zn8) zv0 zv2 zs0 zs1 zh = some (r9, h9) → gw E s zh H locs → lv_has ls 3 [(0, .ref (gB E + zv0)), (2, .int zv2)] → W p l e rm_X12_insideMany s m [.ref (gB E + za0)].toArray below meth c H locs 0 0 (MQ below (gQi E r9 h9) [.ref (gB E + za0)].toArray s 0 0 (gA E)) (F0 m 31 ls [.int zs0, .int zs1]) := by
        intro zv0 zv2 zs0 zs1 zh H locs ls hf hw hl
        unfold f_X12_insideMany_31 at hf
        refine lv_iadd hx hb dX12_insideMany_31 ?_
        refine lv_topi (fun zx1 ezx1 => ?_)
        have hf := gl_el hf ezx1
        refine lv_istore_n (lv' := [(1, .int zx1), (0, .ref (gB E + zv0)), (2, .int zv2)]) hx hb dX12_insideMany_32 rfl hl (by decide) rfl (fun ls hl => ?_)
        obtain ⟨zx2, ezx2⟩ : ∃ y : Int32, y = zv2 + 1 := ⟨_, rfl⟩
        have hf := gl_el hf ezx2
        refine lv_iinc (v := zx2) (lv' := [(2, .int zx2), (1, .int zx1), (0, .ref (gB E + zv0))]) hx hb dX12_insideMany_33 hl (k := 2) rfl (by rw [ezx2]; rfl) (by decide) rfl (fun ls hl => ?_)
        refine lv_goto (tgt := 8) hx hb dX12_insideMany_36 (by decide) ?_
        exact ih_8 zv0 zx1 zx2 _ _ _ ls hf hw (lv_sub hl [2, 1, 0] rfl)
      intro zv0 zv1 zv2 zh H locs ls hf hw hl
      have hf := gi_s hf
      dsimp only at hf
      unfold f_X12_insideMany_8 at hf
      refine lv_iload_n hx hb dX12_insideMany_8 rfl (lv_at hl 2 rfl) ?_
      refine lv_aload_n hx hb dX12_insideMany_9 rfl (lv_at hl 0 rfl) ?_
      obtain ⟨qizh1, hf⟩ := gg_el hf
      obtain ⟨zt2, zh1, qzh1, hf⟩ := gc_el hf
      refine gx_ki (gx_runV (As := []) (rest := [.int zv2]) X hw (c_X12_rooms l E N zv0 zh qzh1) kX12_rooms mm_X12_231 qizh1 clX12 ⟨Nat.le_of_ble_eq_true rfl, Nat.le_of_ble_eq_true rfl⟩ rfl rfl rfl hl.1 (Nat.le_of_ble_eq_true rfl) rfl dX12_insideMany_10 ⟨Nat.le_of_ble_eq_true rfl, Nat.le_of_ble_eq_true rfl⟩) hw (fun H locs hw => ?_)
      refine lv_icmp_ge (tgt := 39) hx hb dX12_insideMany_13 (by decide) (fun qc3 => ?_) (fun qc3 => ?_)
      · have hf := gif_t hf qc3
        refine lv_iload_n hx hb dX12_insideMany_39 rfl (lv_at hl 1 rfl) ?_
        exact gx_iret X hr hlk hw hf dX12_insideMany_40
      · have hf := gif_f hf qc3
        refine lv_iload_n hx hb dX12_insideMany_16 rfl (lv_at hl 1 rfl) ?_
        refine lv_aload_n hx hb dX12_insideMany_17 rfl (lv_at hl 0 rfl) ?_
        obtain ⟨zt4, qzt4, hf⟩ := gb_el hf
        refine gx_getR X hw qzt4 clX12 (by decide) mf_X12_86 dX12_insideMany_18 ?_
        refine lv_iload_n hx hb dX12_insideMany_21 rfl (lv_at hl 2 rfl) ?_
        obtain ⟨zt5, qzt5, hf⟩ := gb_el hf
        refine gx_iald X hw qzt5 dX12_insideMany_22 ?_
        refine W.eq (g2 := F0 m 23 ls [.int zt5, .int zv1]) rfl ?_
        refine lv_if_lt (tgt := 30) hx hb dX12_insideMany_23 (by decide) (fun qc6 => ?_) (fun qc6 => ?_)
        · have hf := gif_t hf qc6
          refine lv_iconst (v := 0) hx hb dX12_insideMany_30 (by decide) ?_
          exact J_31 zv0 zv2 0 zv1 _ _ _ ls hf hw (lv_sub hl [0, 2] rfl)
        · have hf := gif_f hf qc6
          refine lv_iconst (v := 1) hx hb dX12_insideMany_26 (by decide) ?_
          refine lv_goto (tgt := 31) hx hb dX12_insideMany_27 (by decide) ?_
          exact J_31 zv0 zv2 1 zv1 _ _ _ ls hf hw (lv_sub hl [0, 2] rfl)
  unfold f_X12_insideMany at hf
  refine lv_aload_n hx hb dX12_insideMany_0 rfl (lv_at hl 0 rfl) ?_
  obtain ⟨qizh1, hf⟩ := gg_el hf
  obtain ⟨zh1, qzh1, hf⟩ := gb_el hf
  refine gx_kv (gx_runV (As := []) (rest := []) X hw (c_X12_find l E N za0 zh qzh1) kX12_find mm_X12_300 qizh1 clX12 ⟨Nat.le_of_ble_eq_true rfl, Nat.le_of_ble_eq_true rfl⟩ rfl rfl rfl hl.1 (Nat.le_of_ble_eq_true rfl) rfl dX12_insideMany_1 ⟨Nat.le_of_ble_eq_true rfl, Nat.le_of_ble_eq_true rfl⟩) hw (fun H locs hw => ?_)
  refine lv_iconst (v := 0) hx hb dX12_insideMany_4 (by decide) ?_
  refine lv_istore_n (lv' := [(1, .int 0), (0, .ref (gB E + za0))]) hx hb dX12_insideMany_5 rfl hl (by decide) rfl (fun ls hl => ?_)
  refine lv_iconst (v := 0) hx hb dX12_insideMany_6 (by decide) ?_
  refine lv_istore_n (lv' := [(2, .int 0), (1, .int 0), (0, .ref (gB E + za0))]) hx hb dX12_insideMany_7 rfl hl (by decide) rfl (fun ls hl => ?_)
  exact L_8 N za0 0 0 _ _ _ ls hf hw (lv_sub hl [2, 1, 0] rfl)
abbrev rm_X12_room : Room := { frames := 6, cells := 0, slots := 0, locals := 140 }
set_option maxHeartbeats 4000000 in
set_option maxRecDepth 100000 in
theorem c_X12_room (l : Launch) (E : gE) (N : Nat) (za0 : Nat) (za1 : Int32) (za2 : Int32) (zh : PH) {h9 : PH} {r9 : Int32} (hf : f_X12_room N za0 za1 za2 zh = some (r9, h9)) : Met l yX12_room (gWS yX12_room cX12_room 3 (some .int)) rm_X12_room (gPc E [.ref (gB E + za0), .int za1, .int za2] zh) (gQi E r9 h9) 0 0 (gA E) := by
  refine gx_met (by decide) ?_ rfl
  intro p e s m below meth c X hr hlk hin2 hw
  have hx := X.1.1
  have hb := X.1.2.1
  have hl := lv_entry [.ref (gB E + za0), .int za1, .int za2] (n := 3) (Nat.le_of_ble_eq_true rfl)
  rw [lg_entry_eq]
  generalize (lg_sl [.ref (gB E + za0), .int za1, .int za2] ++ List.replicate (3 - (lg_sl [.ref (gB E + za0), .int za1, .int za2]).length) Slot.unset).toArray = ls at hl ⊢
  have hl : lv_has ls 3 [(0, .ref (gB E + za0)), (1, .int za1), (2, .int za2)] := hl
  have J_54 : ∀ (zs0 : Int32) (zh : PH) (H : Heap) (locs : List Loc) (ls : Array Slot), f_X12_room_54 N zs0 zh = some (r9, h9) → gw E s zh H locs → lv_has ls 3 [] → W p l e rm_X12_room s m [.ref (gB E + za0), .int za1, .int za2].toArray below meth c H locs 0 0 (MQ below (gQi E r9 h9) [.ref (gB E + za0), .int za1, .int za2].toArray s 0 0 (gA E)) (F0 m 54 ls [.int zs0]) := by
    intro zs0 zh H locs ls hf hw hl
    unfold f_X12_room_54 at hf
    exact gx_iret X hr hlk hw hf dX12_room_54
  have J_22 : ∀ (zh : PH) (H : Heap) (locs : List Loc) (ls : Array Slot), f_X12_room_22 N zh = some (r9, h9) → gw E s zh H locs → lv_has ls 3 [] → W p l e rm_X12_room s m [.ref (gB E + za0), .int za1, .int za2].toArray below meth c H locs 0 0 (MQ below (gQi E r9 h9) [.ref (gB E + za0), .int za1, .int za2].toArray s 0 0 (gA E)) (F0 m 22 ls []) := by
    intro zh H locs ls hf hw hl
    unfold f_X12_room_22 at hf
    refine lv_iconst (v := (-1)) hx hb dX12_room_22 (by decide) ?_
    exact gx_iret X hr hlk hw hf dX12_room_23
  unfold f_X12_room at hf
  refine lv_aload_n hx hb dX12_room_0 rfl (lv_at hl 0 rfl) ?_
  refine lv_iconst (v := 0) hx hb dX12_room_1 (by decide) ?_
  obtain ⟨zh1, qzh1, hf⟩ := gb_el hf
  refine gx_putV X hw qzh1 clX12 (by decide) mf_X12_1 rfl rfl rfl dX12_room_2 (fun H locs hw => ?_)
  refine lv_aload_n hx hb dX12_room_5 rfl (lv_at hl 0 rfl) ?_
  refine lv_iload_n hx hb dX12_room_6 rfl (lv_at hl 1 rfl) ?_
  obtain ⟨qizh2, hf⟩ := gg_el hf
  obtain ⟨zt3, zh2, qzh2, hf⟩ := gc_el hf
  refine gx_ki (gx_runV (As := [.int za1]) (rest := []) X hw (c_X12_isRoom l E N za0 za1 zh1 qzh2) kX12_isRoom mm_X12_309 qizh2 clX12 ⟨Nat.le_of_ble_eq_true rfl, Nat.le_of_ble_eq_true rfl⟩ rfl rfl rfl hl.1 (Nat.le_of_ble_eq_true rfl) rfl dX12_room_7 ⟨Nat.le_of_ble_eq_true rfl, Nat.le_of_ble_eq_true rfl⟩) hw (fun H locs hw => ?_)
  refine lv_if_eq (tgt := 22) hx hb dX12_room_10 (by decide) (fun qc4 => ?_) (fun qc4 => ?_)
  · have hf := gif_t hf qc4
    exact J_22  _ _ _ ls hf hw (lv_sub hl [] rfl)
  · have hf := gif_f hf qc4
    refine lv_iload_n hx hb dX12_room_13 rfl (lv_at hl 2 rfl) ?_
    refine lv_iconst (v := 0) hx hb dX12_room_14 (by decide) ?_
    refine W.eq (g2 := F0 m 15 ls [.int 0, .int za2]) rfl ?_
    refine lv_iconst (v := 2) hx hb dX12_room_15 (by decide) ?_
    obtain ⟨zt6, zh5, qzh5, hf⟩ := gc_el hf
    refine gx_ki (gx_runS (As := [.int za2, .int 0, .int 2]) (rest := []) X hw (c_X12_within l E N za2 0 2 zh2 qzh5) kX12_within mm_X12_304 ⟨Nat.le_of_ble_eq_true rfl, Nat.le_of_ble_eq_true rfl⟩ rfl rfl rfl hl.1 (Nat.le_of_ble_eq_true rfl) rfl dX12_room_16 ⟨Nat.le_of_ble_eq_true rfl, Nat.le_of_ble_eq_true rfl⟩) hw (fun H locs hw => ?_)
    refine lv_if_ne (tgt := 24) hx hb dX12_room_19 (by decide) (fun qc7 => ?_) (fun qc7 => ?_)
    · have hf := gif_f hf qc7
      refine lv_aload_n hx hb dX12_room_24 rfl (lv_at hl 0 rfl) ?_
      obtain ⟨qizh8, hf⟩ := gg_el hf
      obtain ⟨zh8, qzh8, hf⟩ := gb_el hf
      refine gx_kv (gx_runV (As := []) (rest := []) X hw (c_X12_find l E N za0 zh5 qzh8) kX12_find mm_X12_300 qizh8 clX12 ⟨Nat.le_of_ble_eq_true rfl, Nat.le_of_ble_eq_true rfl⟩ rfl rfl rfl hl.1 (Nat.le_of_ble_eq_true rfl) rfl dX12_room_25 ⟨Nat.le_of_ble_eq_true rfl, Nat.le_of_ble_eq_true rfl⟩) hw (fun H locs hw => ?_)
      refine lv_iload_n hx hb dX12_room_28 rfl (lv_at hl 2 rfl) ?_
      refine lv_iconst (v := 2) hx hb dX12_room_29 (by decide) ?_
      refine lv_icmp_ge (tgt := 48) hx hb dX12_room_30 (by decide) (fun qc9 => ?_) (fun qc9 => ?_)
      · have hf := gif_t hf qc9
        refine lv_aload_n hx hb dX12_room_48 rfl (lv_at hl 0 rfl) ?_
        obtain ⟨zt10, qzt10, hf⟩ := gb_el hf
        refine gx_getR X hw qzt10 clX12 (by decide) mf_X12_86 dX12_room_49 ?_
        refine W.eq (g2 := F0 m 52 ls [.ref (gB E + zt10)]) rfl ?_
        refine lv_iload_n hx hb dX12_room_52 rfl (lv_at hl 1 rfl) ?_
        obtain ⟨zt11, qzt11, hf⟩ := gb_el hf
        refine gx_iald X hw qzt11 dX12_room_53 ?_
        exact J_54 zt11 _ _ _ ls hf hw (lv_sub hl [] rfl)
      · have hf := gif_f hf qc9
        refine lv_aload_n hx hb dX12_room_33 rfl (lv_at hl 0 rfl) ?_
        obtain ⟨zt12, qzt12, hf⟩ := gb_el hf
        refine gx_getR X hw qzt12 clX12 (by decide) mf_X12_65 dX12_room_34 ?_
        refine W.eq (g2 := F0 m 37 ls [.ref (gB E + zt12)]) rfl ?_
        refine lv_iconst (v := 3) hx hb dX12_room_37 (by decide) ?_
        refine lv_iconst (v := 2) hx hb dX12_room_38 (by decide) ?_
        refine lv_iload_n hx hb dX12_room_39 rfl (lv_at hl 1 rfl) ?_
        refine lv_imul hx hb dX12_room_40 ?_
        refine lv_iadd hx hb dX12_room_41 ?_
        refine lv_iload_n hx hb dX12_room_42 rfl (lv_at hl 2 rfl) ?_
        refine lv_iadd hx hb dX12_room_43 ?_
        obtain ⟨zt13, qzt13, hf⟩ := gb_el hf
        refine gx_iald X hw qzt13 dX12_room_44 ?_
        refine lv_goto (tgt := 54) hx hb dX12_room_45 (by decide) ?_
        exact J_54 zt13 _ _ _ ls hf hw (lv_sub hl [] rfl)
    · have hf := gif_t hf qc7
      exact J_22  _ _ _ ls hf hw (lv_sub hl [] rfl)
abbrev rm_X12_guest : Room := { frames := 7, cells := 0, slots := 0, locals := 161 }
set_option maxHeartbeats 4000000 in
set_option maxRecDepth 100000 in
theorem c_X12_guest (l : Launch) (E : gE) (N : Nat) (za0 : Nat) (za1 : Int32) (za2 : Int32) (zh : PH) {h9 : PH} {r9 : Int32} (hf : f_X12_guest N za0 za1 za2 zh = some (r9, h9)) : Met l yX12_guest (gWS yX12_guest cX12_guest 4 (some .int)) rm_X12_guest (gPc E [.ref (gB E + za0), .int za1, .int za2] zh) (gQi E r9 h9) 0 0 (gA E) := by
  refine gx_met (by decide) ?_ rfl
  intro p e s m below meth c X hr hlk hin2 hw
  have hx := X.1.1
  have hb := X.1.2.1
  have hl := lv_entry [.ref (gB E + za0), .int za1, .int za2] (n := 4) (Nat.le_of_ble_eq_true rfl)
  rw [lg_entry_eq]
  generalize (lg_sl [.ref (gB E + za0), .int za1, .int za2] ++ List.replicate (4 - (lg_sl [.ref (gB E + za0), .int za1, .int za2]).length) Slot.unset).toArray = ls at hl ⊢
  have hl : lv_has ls 4 [(0, .ref (gB E + za0)), (1, .int za1), (2, .int za2)] := hl
  have J_73 : ∀ (zs0 : Int32) (zh : PH) (H : Heap) (locs : List Loc) (ls : Array Slot), f_X12_guest_73 N zs0 zh = some (r9, h9) → gw E s zh H locs → lv_has ls 4 [] → W p l e rm_X12_guest s m [.ref (gB E + za0), .int za1, .int za2].toArray below meth c H locs 0 0 (MQ below (gQi E r9 h9) [.ref (gB E + za0), .int za1, .int za2].toArray s 0 0 (gA E)) (F0 m 73 ls [.int zs0]) := by
    intro zs0 zh H locs ls hf hw hl
    unfold f_X12_guest_73 at hf
    exact gx_iret X hr hlk hw hf dX12_guest_73
  have J_22 : ∀ (zh : PH) (H : Heap) (locs : List Loc) (ls : Array Slot), f_X12_guest_22 N zh = some (r9, h9) → gw E s zh H locs → lv_has ls 4 [] → W p l e rm_X12_guest s m [.ref (gB E + za0), .int za1, .int za2].toArray below meth c H locs 0 0 (MQ below (gQi E r9 h9) [.ref (gB E + za0), .int za1, .int za2].toArray s 0 0 (gA E)) (F0 m 22 ls []) := by
    intro zh H locs ls hf hw hl
    unfold f_X12_guest_22 at hf
    refine lv_iconst (v := (-1)) hx hb dX12_guest_22 (by decide) ?_
    exact gx_iret X hr hlk hw hf dX12_guest_23
  unfold f_X12_guest at hf
  refine lv_aload_n hx hb dX12_guest_0 rfl (lv_at hl 0 rfl) ?_
  refine lv_iconst (v := 0) hx hb dX12_guest_1 (by decide) ?_
  obtain ⟨zh1, qzh1, hf⟩ := gb_el hf
  refine gx_putV X hw qzh1 clX12 (by decide) mf_X12_1 rfl rfl rfl dX12_guest_2 (fun H locs hw => ?_)
  refine lv_aload_n hx hb dX12_guest_5 rfl (lv_at hl 0 rfl) ?_
  refine lv_iload_n hx hb dX12_guest_6 rfl (lv_at hl 1 rfl) ?_
  obtain ⟨qizh2, hf⟩ := gg_el hf
  obtain ⟨zt3, zh2, qzh2, hf⟩ := gc_el hf
  refine gx_ki (gx_runV (As := [.int za1]) (rest := []) X hw (c_X12_isGuest l E N za0 za1 zh1 qzh2) kX12_isGuest mm_X12_312 qizh2 clX12 ⟨Nat.le_of_ble_eq_true rfl, Nat.le_of_ble_eq_true rfl⟩ rfl rfl rfl hl.1 (Nat.le_of_ble_eq_true rfl) rfl dX12_guest_7 ⟨Nat.le_of_ble_eq_true rfl, Nat.le_of_ble_eq_true rfl⟩) hw (fun H locs hw => ?_)
  refine lv_if_eq (tgt := 22) hx hb dX12_guest_10 (by decide) (fun qc4 => ?_) (fun qc4 => ?_)
  · have hf := gif_t hf qc4
    exact J_22  _ _ _ ls hf hw (lv_sub hl [] rfl)
  · have hf := gif_f hf qc4
    refine lv_iload_n hx hb dX12_guest_13 rfl (lv_at hl 2 rfl) ?_
    refine lv_iconst (v := 0) hx hb dX12_guest_14 (by decide) ?_
    refine W.eq (g2 := F0 m 15 ls [.int 0, .int za2]) rfl ?_
    refine lv_iconst (v := 5) hx hb dX12_guest_15 (by decide) ?_
    obtain ⟨zt6, zh5, qzh5, hf⟩ := gc_el hf
    refine gx_ki (gx_runS (As := [.int za2, .int 0, .int 5]) (rest := []) X hw (c_X12_within l E N za2 0 5 zh2 qzh5) kX12_within mm_X12_304 ⟨Nat.le_of_ble_eq_true rfl, Nat.le_of_ble_eq_true rfl⟩ rfl rfl rfl hl.1 (Nat.le_of_ble_eq_true rfl) rfl dX12_guest_16 ⟨Nat.le_of_ble_eq_true rfl, Nat.le_of_ble_eq_true rfl⟩) hw (fun H locs hw => ?_)
    refine lv_if_ne (tgt := 24) hx hb dX12_guest_19 (by decide) (fun qc7 => ?_) (fun qc7 => ?_)
    · have hf := gif_f hf qc7
      refine lv_aload_n hx hb dX12_guest_24 rfl (lv_at hl 0 rfl) ?_
      refine lv_iload_n hx hb dX12_guest_25 rfl (lv_at hl 1 rfl) ?_
      obtain ⟨qizh8, hf⟩ := gg_el hf
      obtain ⟨zt9, zh8, qzh8, hf⟩ := gc_el hf
      refine gx_ki (gx_runV (As := [.int za1]) (rest := []) X hw (c_X12_roomNow l E N za0 za1 zh5 qzh8) kX12_roomNow mm_X12_315 qizh8 clX12 ⟨Nat.le_of_ble_eq_true rfl, Nat.le_of_ble_eq_true rfl⟩ rfl rfl rfl hl.1 (Nat.le_of_ble_eq_true rfl) rfl dX12_guest_26 ⟨Nat.le_of_ble_eq_true rfl, Nat.le_of_ble_eq_true rfl⟩) hw (fun H locs hw => ?_)
      refine lv_istore_n (lv' := [(3, .int zt9), (0, .ref (gB E + za0)), (1, .int za1), (2, .int za2)]) hx hb dX12_guest_29 rfl hl (by decide) rfl (fun ls hl => ?_)
      refine lv_iload_n hx hb dX12_guest_30 rfl (lv_at hl 3 rfl) ?_
      refine lv_iconst (v := 3) hx hb dX12_guest_31 (by decide) ?_
      refine lv_icmp_ge (tgt := 44) hx hb dX12_guest_32 (by decide) (fun qc10 => ?_) (fun qc10 => ?_)
      · have hf := gif_t hf qc10
        refine W.eq (g2 := F0 m 44 ls []) rfl ?_
        refine lv_iload_n hx hb dX12_guest_44 rfl (lv_at hl 3 rfl) ?_
        refine lv_iconst (v := 3) hx hb dX12_guest_45 (by decide) ?_
        refine lv_icmp_ne (tgt := 53) hx hb dX12_guest_46 (by decide) (fun qc11 => ?_) (fun qc11 => ?_)
        · have hf := gif_f hf qc11
          refine lv_iload_n hx hb dX12_guest_53 rfl (lv_at hl 3 rfl) ?_
          refine lv_iconst (v := 4) hx hb dX12_guest_54 (by decide) ?_
          refine lv_icmp_ne (tgt := 67) hx hb dX12_guest_55 (by decide) (fun qc12 => ?_) (fun qc12 => ?_)
          · have hf := gif_f hf qc12
            refine lv_aload_n hx hb dX12_guest_67 rfl (lv_at hl 1 rfl) ?_
            obtain ⟨zt13, qzt13, hf⟩ := gb_el hf
            refine gx_getR X hw qzt13 clX12 (by decide) mf_X12_92 dX12_guest_68 ?_
            refine lv_iload_n hx hb dX12_guest_71 rfl (lv_at hl 2 rfl) ?_
            obtain ⟨zt14, qzt14, hf⟩ := gb_el hf
            refine gx_iald X hw qzt14 dX12_guest_72 ?_
            exact J_73 zt14 _ _ _ ls hf hw (lv_sub hl [] rfl)
          · have hf := gif_t hf qc12
            refine lv_aload_n hx hb dX12_guest_58 rfl (lv_at hl 1 rfl) ?_
            obtain ⟨zt15, qzt15, hf⟩ := gb_el hf
            refine gx_getR X hw qzt15 clX12 (by decide) mf_X12_89 dX12_guest_59 ?_
            refine lv_iload_n hx hb dX12_guest_62 rfl (lv_at hl 2 rfl) ?_
            obtain ⟨zt16, qzt16, hf⟩ := gb_el hf
            refine gx_iald X hw qzt16 dX12_guest_63 ?_
            refine W.eq (g2 := F0 m 64 ls [.int zt16]) rfl ?_
            refine lv_goto (tgt := 73) hx hb dX12_guest_64 (by decide) ?_
            exact J_73 zt16 _ _ _ ls hf hw (lv_sub hl [] rfl)
        · have hf := gif_t hf qc11
          refine lv_iload_n hx hb dX12_guest_49 rfl (lv_at hl 0 rfl) ?_
          refine lv_goto (tgt := 73) hx hb dX12_guest_50 (by decide) ?_
          exact J_73 zt9 _ _ _ ls hf hw (lv_sub hl [] rfl)
      · have hf := gif_f hf qc10
        refine W.eq (g2 := F0 m 35 ls []) rfl ?_
        refine lv_aload_n hx hb dX12_guest_35 rfl (lv_at hl 1 rfl) ?_
        refine lv_iload_n hx hb dX12_guest_36 rfl (lv_at hl 2 rfl) ?_
        refine lv_iload_n hx hb dX12_guest_37 rfl (lv_at hl 3 rfl) ?_
        obtain ⟨qizh17, hf⟩ := gg_el hf
        obtain ⟨zt18, zh17, qzh17, hf⟩ := gc_el hf
        refine gx_ki (gx_runV (As := [.int za1, .int za2]) (rest := []) X hw (c_X12_guestOf l E N za0 za1 za2 zh8 qzh17) kX12_guestOf mm_X12_261 qizh17 clX12 ⟨Nat.le_of_ble_eq_true rfl, Nat.le_of_ble_eq_true rfl⟩ rfl rfl rfl hl.1 (Nat.le_of_ble_eq_true rfl) rfl dX12_guest_38 ⟨Nat.le_of_ble_eq_true rfl, Nat.le_of_ble_eq_true rfl⟩) hw (fun H locs hw => ?_)
        refine lv_goto (tgt := 73) hx hb dX12_guest_41 (by decide) ?_
        exact J_73 zt18 _ _ _ ls hf hw (lv_sub hl [] rfl)
    · have hf := gif_t hf qc7
      exact J_22  _ _ _ ls hf hw (lv_sub hl [] rfl)
abbrev rm_X12_use : Room := { frames := 2, cells := 0, slots := 0, locals := 41 }
set_option maxHeartbeats 4000000 in
set_option maxRecDepth 100000 in
theorem c_X12_use (l : Launch) (E : gE) (N : Nat) (za0 : Nat) (za1 : Int32) (zh : PH) {h9 : PH} {r9 : Int32} (hf : f_X12_use N za0 za1 zh = some (r9, h9)) : Met l yX12_use (gWS yX12_use cX12_use 2 (some .boolean)) rm_X12_use (gPc E [.ref (gB E + za0), .int za1] zh) (gQi E r9 h9) 0 0 (gA E) := by
  refine gx_met (by decide) ?_ rfl
  intro p e s m below meth c X hr hlk hin2 hw
  have hx := X.1.1
  have hb := X.1.2.1
  have hl := lv_entry [.ref (gB E + za0), .int za1] (n := 2) (Nat.le_of_ble_eq_true rfl)
  rw [lg_entry_eq]
  generalize (lg_sl [.ref (gB E + za0), .int za1] ++ List.replicate (2 - (lg_sl [.ref (gB E + za0), .int za1]).length) Slot.unset).toArray = ls at hl ⊢
  have hl : lv_has ls 2 [(0, .ref (gB E + za0)), (1, .int za1)] := hl
  have J_20 : ∀ (zv0 : Nat) (zv1 : Int32) (zh : PH) (H : Heap) (locs : List Loc) (ls : Array Slot), f_X12_use_20 N zv0 zv1 zh = some (r9, h9) → gw E s zh H locs → lv_has ls 2 [(0, .ref (gB E + zv0)), (1, .int zv1)] → W p l e rm_X12_use s m [.ref (gB E + za0), .int za1].toArray below meth c H locs 0 0 (MQ below (gQi E r9 h9) [.ref (gB E + za0), .int za1].toArray s 0 0 (gA E)) (F0 m 20 ls []) := by
    intro zv0 zv1 zh H locs ls hf hw hl
    unfold f_X12_use_20 at hf
    refine lv_aload_n hx hb dX12_use_20 rfl (lv_at hl 0 rfl) ?_
    obtain ⟨zt1, qzt1, hf⟩ := gb_el hf
    refine gx_getR X hw qzt1 clX12 (by decide) mf_X12_83 dX12_use_21 ?_
    refine lv_iconst (v := 0) hx hb dX12_use_24 (by decide) ?_
    refine lv_iload_n hx hb dX12_use_25 rfl (lv_at hl 1 rfl) ?_
    obtain ⟨zh2, qzh2, hf⟩ := gb_el hf
    refine gx_iast X hw qzh2 dX12_use_26 (fun H locs hw => ?_)
    refine lv_iconst (v := 1) hx hb dX12_use_27 (by decide) ?_
    exact gx_zret X hr hlk hw hf dX12_use_28
  unfold f_X12_use at hf
  refine lv_aload_n hx hb dX12_use_0 rfl (lv_at hl 0 rfl) ?_
  refine lv_iconst (v := 0) hx hb dX12_use_1 (by decide) ?_
  obtain ⟨zh1, qzh1, hf⟩ := gb_el hf
  refine gx_putV X hw qzh1 clX12 (by decide) mf_X12_1 rfl rfl rfl dX12_use_2 (fun H locs hw => ?_)
  refine lv_iload_n hx hb dX12_use_5 rfl (lv_at hl 1 rfl) ?_
  refine lv_iconst (v := (-1)) hx hb dX12_use_6 (by decide) ?_
  refine lv_icmp_eq (tgt := 20) hx hb dX12_use_7 (by decide) (fun qc2 => ?_) (fun qc2 => ?_)
  · have hf := gif_t hf qc2
    exact J_20 za0 za1 _ _ _ ls hf hw (lv_sub hl [0, 1] rfl)
  · have hf := gif_f hf qc2
    refine lv_aload_n hx hb dX12_use_10 rfl (lv_at hl 0 rfl) ?_
    refine lv_iload_n hx hb dX12_use_11 rfl (lv_at hl 1 rfl) ?_
    obtain ⟨qizh3, hf⟩ := gg_el hf
    obtain ⟨zt4, zh3, qzh3, hf⟩ := gc_el hf
    refine gx_ki (gx_runV (As := [.int za1]) (rest := []) X hw (c_X12_isRule l E N za0 za1 zh1 qzh3) kX12_isRule mm_X12_318 qizh3 clX12 ⟨Nat.le_of_ble_eq_true rfl, Nat.le_of_ble_eq_true rfl⟩ rfl rfl rfl hl.1 (Nat.le_of_ble_eq_true rfl) rfl dX12_use_12 ⟨Nat.le_of_ble_eq_true rfl, Nat.le_of_ble_eq_true rfl⟩) hw (fun H locs hw => ?_)
    refine W.eq (g2 := F0 m 15 ls [.int zt4]) rfl ?_
    refine lv_if_ne (tgt := 20) hx hb dX12_use_15 (by decide) (fun qc5 => ?_) (fun qc5 => ?_)
    · have hf := gif_f hf qc5
      exact J_20 za0 za1 _ _ _ ls hf hw (lv_sub hl [0, 1] rfl)
    · have hf := gif_t hf qc5
      refine lv_iconst (v := 0) hx hb dX12_use_18 (by decide) ?_
      exact gx_zret X hr hlk hw hf dX12_use_19
abbrev rm_X12_gives : Room := { frames := 7, cells := 0, slots := 0, locals := 161 }
set_option maxHeartbeats 4000000 in
set_option maxRecDepth 100000 in
theorem c_X12_gives (l : Launch) (E : gE) (N : Nat) (za0 : Nat) (za1 : Int32) (za2 : Int32) (za3 : Int32) (zh : PH) {h9 : PH} {r9 : Int32} (hf : f_X12_gives N za0 za1 za2 za3 zh = some (r9, h9)) : Met l yX12_gives (gWS yX12_gives cX12_gives 5 (some .int)) rm_X12_gives (gPc E [.ref (gB E + za0), .int za1, .int za2, .int za3] zh) (gQi E r9 h9) 0 0 (gA E) := by
  refine gx_met (by decide) ?_ rfl
  intro p e s m below meth c X hr hlk hin2 hw
  have hx := X.1.1
  have hb := X.1.2.1
  have hl := lv_entry [.ref (gB E + za0), .int za1, .int za2, .int za3] (n := 5) (Nat.le_of_ble_eq_true rfl)
  rw [lg_entry_eq]
  generalize (lg_sl [.ref (gB E + za0), .int za1, .int za2, .int za3] ++ List.replicate (5 - (lg_sl [.ref (gB E + za0), .int za1, .int za2, .int za3]).length) Slot.unset).toArray = ls at hl ⊢
  have hl : lv_has ls 5 [(0, .ref (gB E + za0)), (1, .int za1), (2, .int za2), (3, .int za3)] := hl
  have J_75 : ∀ (zs0 : Int32) (zh : PH) (H : Heap) (locs : List Loc) (ls : Array Slot), f_X12_gives_75 N zs0 zh = some (r9, h9) → gw E s zh H locs → lv_has ls 5 [] → W p l e rm_X12_gives s m [.ref (gB E + za0), .int za1, .int za2, .int za3].toArray below meth c H locs 0 0 (MQ below (gQi E r9 h9) [.ref (gB E + za0), .int za1, .int za2, .int za3].toArray s 0 0 (gA E)) (F0 m 75 ls [.int zs0]) := by
    intro zs0 zh H locs ls hf hw hl
    unfold f_X12_gives_75 at hf
    exact gx_iret X hr hlk hw hf dX12_gives_75
  have J_52 : ∀ (zv0 : Nat) (zv1 : Int32) (zv2 : Int32) (zv3 : Int32) (zv4 : Int32) (zs0 : Int32) (zs1 : Nat) (zh : PH) (H : Heap) (locs : List Loc) (ls : Array Slot), f_X12_gives_52 N zv0 zv1 zv2 zv3 zv4 zs0 zs1 zh = some (r9, h9) → gw E s zh H locs → lv_has ls 5 [(0, .ref (gB E + zv0)), (1, .int zv1), (2, .int zv2), (3, .int zv3), (4, .int zv4)] → W p l e rm_X12_gives s m [.ref (gB E + za0), .int za1, .int za2, .int za3].toArray below meth c H locs 0 0 (MQ below (gQi E r9 h9) [.ref (gB E + za0), .int za1, .int za2, .int za3].toArray s 0 0 (gA E)) (F0 m 52 ls [.int zs0, .ref (gB E + zs1)]) := by
    intro zv0 zv1 zv2 zv3 zv4 zs0 zs1 zh H locs ls hf hw hl
    unfold f_X12_gives_52 at hf
    obtain ⟨zh1, qzh1, hf⟩ := gb_el hf
    refine gx_putV X hw qzh1 clX12 (by decide) mf_X12_1 rfl rfl rfl dX12_gives_52 (fun H locs hw => ?_)
    refine lv_aload_n hx hb dX12_gives_55 rfl (lv_at hl 0 rfl) ?_
    obtain ⟨zt2, qzt2, hf⟩ := gb_el hf
    refine gx_getI X hw qzt2 clX12 (by decide) mf_X12_1 dX12_gives_56 ?_
    refine lv_if_le (tgt := 66) hx hb dX12_gives_59 (by decide) (fun qc3 => ?_) (fun qc3 => ?_)
    · have hf := gif_t hf qc3
      refine lv_aload_n hx hb dX12_gives_66 rfl (lv_at hl 0 rfl) ?_
      refine lv_iload_n hx hb dX12_gives_67 rfl (lv_at hl 1 rfl) ?_
      refine lv_iload_n hx hb dX12_gives_68 rfl (lv_at hl 2 rfl) ?_
      refine lv_iload hx hb dX12_gives_69 (lv_at hl 4 rfl) ?_
      refine lv_iload_n hx hb dX12_gives_71 rfl (lv_at hl 3 rfl) ?_
      refine W.eq (g2 := F0 m 72 ls [.int zv3, .int zv4, .int zv2, .int zv1, .ref (gB E + zv0)]) rfl ?_
      obtain ⟨qizh4, hf⟩ := gg_el hf
      obtain ⟨zt5, zh4, qzh4, hf⟩ := gc_el hf
      refine gx_ki (gx_runV (As := [.int zv1, .int zv2, .int zv4, .int zv3]) (rest := []) X hw (c_X12_givesFor l E N zv0 zv1 zv2 zv4 zv3 zh1 qzh4) kX12_givesFor mm_X12_277 qizh4 clX12 ⟨Nat.le_of_ble_eq_true rfl, Nat.le_of_ble_eq_true rfl⟩ rfl rfl rfl hl.1 (Nat.le_of_ble_eq_true rfl) rfl dX12_gives_72 ⟨Nat.le_of_ble_eq_true rfl, Nat.le_of_ble_eq_true rfl⟩) hw (fun H locs hw => ?_)
      exact J_75 zt5 _ _ _ ls hf hw (lv_sub hl [] rfl)
    · have hf := gif_f hf qc3
      refine lv_iconst (v := 0) hx hb dX12_gives_62 (by decide) ?_
      refine lv_goto (tgt := 75) hx hb dX12_gives_63 (by decide) ?_
      exact J_75 0 _ _ _ ls hf hw (lv_sub hl [] rfl)
  have J_51 : ∀ (zv0 : Nat) (zv1 : Int32) (zv2 : Int32) (zv3 : Int32) (zv4 : Int32) (zs0 : Nat) (zh : PH) (H : Heap) (locs : List Loc) (ls : Array Slot), f_X12_gives_51 N zv0 zv1 zv2 zv3 zv4 zs0 zh = some (r9, h9) → gw E s zh H locs → lv_has ls 5 [(0, .ref (gB E + zv0)), (1, .int zv1), (2, .int zv2), (3, .int zv3), (4, .int zv4)] → W p l e rm_X12_gives s m [.ref (gB E + za0), .int za1, .int za2, .int za3].toArray below meth c H locs 0 0 (MQ below (gQi E r9 h9) [.ref (gB E + za0), .int za1, .int za2, .int za3].toArray s 0 0 (gA E)) (F0 m 51 ls [.ref (gB E + zs0)]) := by
    intro zv0 zv1 zv2 zv3 zv4 zs0 zh H locs ls hf hw hl
    unfold f_X12_gives_51 at hf
    refine lv_iconst (v := 1) hx hb dX12_gives_51 (by decide) ?_
    exact J_52 zv0 zv1 zv2 zv3 zv4 1 zs0 _ _ _ ls hf hw (lv_sub hl [0, 1, 2, 3, 4] rfl)
  have J_33 : ∀ (zv0 : Nat) (zv1 : Int32) (zv2 : Int32) (zv3 : Int32) (zs0 : Int32) (zh : PH) (H : Heap) (locs : List Loc) (ls : Array Slot), f_X12_gives_33 N zv0 zv1 zv2 zv3 zs0 zh = some (r9, h9) → gw E s zh H locs → lv_has ls 5 [(0, .ref (gB E + zv0)), (1, .int zv1), (2, .int zv2), (3, .int zv3)] → W p l e rm_X12_gives s m [.ref (gB E + za0), .int za1, .int za2, .int za3].toArray below meth c H locs 0 0 (MQ below (gQi E r9 h9) [.ref (gB E + za0), .int za1, .int za2, .int za3].toArray s 0 0 (gA E)) (F0 m 33 ls [.int zs0]) := by
    intro zv0 zv1 zv2 zv3 zs0 zh H locs ls hf hw hl
    unfold f_X12_gives_33 at hf
    refine lv_istore (lv' := [(4, .int zs0), (0, .ref (gB E + zv0)), (1, .int zv1), (2, .int zv2), (3, .int zv3)]) hx hb dX12_gives_33 hl (by decide) rfl (fun ls hl => ?_)
    refine lv_aload_n hx hb dX12_gives_35 rfl (lv_at hl 1 rfl) ?_
    refine lv_iload hx hb dX12_gives_36 (lv_at hl 0 rfl) ?_
    refine lv_if_lt (tgt := 51) hx hb dX12_gives_38 (by decide) (fun qc1 => ?_) (fun qc1 => ?_)
    · have hf := gif_t hf qc1
      exact J_51 zv0 zv1 zv2 zv3 zs0 zv0 _ _ _ ls hf hw (lv_sub hl [1, 2, 3, 4, 0] rfl)
    · have hf := gif_f hf qc1
      refine lv_iload hx hb dX12_gives_41 (lv_at hl 0 rfl) ?_
      refine lv_iload_n hx hb dX12_gives_43 rfl (lv_at hl 4 rfl) ?_
      refine lv_icmp_eq (tgt := 51) hx hb dX12_gives_44 (by decide) (fun qc2 => ?_) (fun qc2 => ?_)
      · have hf := gif_t hf qc2
        exact J_51 zv0 zv1 zv2 zv3 zs0 zv0 _ _ _ ls hf hw (lv_sub hl [1, 2, 3, 4, 0] rfl)
      · have hf := gif_f hf qc2
        refine lv_iconst (v := 0) hx hb dX12_gives_47 (by decide) ?_
        refine lv_goto (tgt := 52) hx hb dX12_gives_48 (by decide) ?_
        exact J_52 zv0 zv1 zv2 zv3 zs0 0 zv0 _ _ _ ls hf hw (lv_sub hl [1, 2, 3, 4, 0] rfl)
  have J_32 : ∀ (zv0 : Nat) (zv1 : Int32) (zv2 : Int32) (zv3 : Int32) (zh : PH) (H : Heap) (locs : List Loc) (ls : Array Slot), f_X12_gives_32 N zv0 zv1 zv2 zv3 zh = some (r9, h9) → gw E s zh H locs → lv_has ls 5 [(0, .ref (gB E + zv0)), (1, .int zv1), (2, .int zv2), (3, .int zv3)] → W p l e rm_X12_gives s m [.ref (gB E + za0), .int za1, .int za2, .int za3].toArray below meth c H locs 0 0 (MQ below (gQi E r9 h9) [.ref (gB E + za0), .int za1, .int za2, .int za3].toArray s 0 0 (gA E)) (F0 m 32 ls []) := by
    intro zv0 zv1 zv2 zv3 zh H locs ls hf hw hl
    unfold f_X12_gives_32 at hf
    refine lv_iconst (v := (-1)) hx hb dX12_gives_32 (by decide) ?_
    exact J_33 zv0 zv1 zv2 zv3 (-1) _ _ _ ls hf hw (lv_sub hl [0, 1, 2, 3] rfl)
  unfold f_X12_gives at hf
  refine lv_aload_n hx hb dX12_gives_0 rfl (lv_at hl 0 rfl) ?_
  refine lv_iload_n hx hb dX12_gives_1 rfl (lv_at hl 1 rfl) ?_
  obtain ⟨qizh1, hf⟩ := gg_el hf
  obtain ⟨zt2, zh1, qzh1, hf⟩ := gc_el hf
  refine gx_ki (gx_runV (As := [.int za1]) (rest := []) X hw (c_X12_isRule l E N za0 za1 zh qzh1) kX12_isRule mm_X12_318 qizh1 clX12 ⟨Nat.le_of_ble_eq_true rfl, Nat.le_of_ble_eq_true rfl⟩ rfl rfl rfl hl.1 (Nat.le_of_ble_eq_true rfl) rfl dX12_gives_2 ⟨Nat.le_of_ble_eq_true rfl, Nat.le_of_ble_eq_true rfl⟩) hw (fun H locs hw => ?_)
  refine lv_if_eq (tgt := 32) hx hb dX12_gives_5 (by decide) (fun qc3 => ?_) (fun qc3 => ?_)
  · have hf := gif_t hf qc3
    exact J_32 za0 za1 za2 za3 _ _ _ ls hf hw (lv_sub hl [0, 1, 2, 3] rfl)
  · have hf := gif_f hf qc3
    refine lv_aload_n hx hb dX12_gives_8 rfl (lv_at hl 0 rfl) ?_
    refine lv_iload_n hx hb dX12_gives_9 rfl (lv_at hl 2 rfl) ?_
    obtain ⟨qizh4, hf⟩ := gg_el hf
    obtain ⟨zt5, zh4, qzh4, hf⟩ := gc_el hf
    refine gx_ki (gx_runV (As := [.int za2]) (rest := []) X hw (c_X12_isGuest l E N za0 za2 zh1 qzh4) kX12_isGuest mm_X12_312 qizh4 clX12 ⟨Nat.le_of_ble_eq_true rfl, Nat.le_of_ble_eq_true rfl⟩ rfl rfl rfl hl.1 (Nat.le_of_ble_eq_true rfl) rfl dX12_gives_10 ⟨Nat.le_of_ble_eq_true rfl, Nat.le_of_ble_eq_true rfl⟩) hw (fun H locs hw => ?_)
    refine lv_if_eq (tgt := 32) hx hb dX12_gives_13 (by decide) (fun qc6 => ?_) (fun qc6 => ?_)
    · have hf := gif_t hf qc6
      exact J_32 za0 za1 za2 za3 _ _ _ ls hf hw (lv_sub hl [0, 1, 2, 3] rfl)
    · have hf := gif_f hf qc6
      refine lv_aload_n hx hb dX12_gives_16 rfl (lv_at hl 0 rfl) ?_
      refine W.eq (g2 := F0 m 17 ls [.ref (gB E + za0)]) rfl ?_
      refine lv_iload_n hx hb dX12_gives_17 rfl (lv_at hl 3 rfl) ?_
      obtain ⟨qizh7, hf⟩ := gg_el hf
      obtain ⟨zt8, zh7, qzh7, hf⟩ := gc_el hf
      refine gx_ki (gx_runV (As := [.int za3]) (rest := []) X hw (c_X12_isRoom l E N za0 za3 zh4 qzh7) kX12_isRoom mm_X12_309 qizh7 clX12 ⟨Nat.le_of_ble_eq_true rfl, Nat.le_of_ble_eq_true rfl⟩ rfl rfl rfl hl.1 (Nat.le_of_ble_eq_true rfl) rfl dX12_gives_18 ⟨Nat.le_of_ble_eq_true rfl, Nat.le_of_ble_eq_true rfl⟩) hw (fun H locs hw => ?_)
      refine lv_if_eq (tgt := 32) hx hb dX12_gives_21 (by decide) (fun qc9 => ?_) (fun qc9 => ?_)
      · have hf := gif_t hf qc9
        exact J_32 za0 za1 za2 za3 _ _ _ ls hf hw (lv_sub hl [0, 1, 2, 3] rfl)
      · have hf := gif_f hf qc9
        refine lv_aload_n hx hb dX12_gives_24 rfl (lv_at hl 0 rfl) ?_
        refine lv_iload_n hx hb dX12_gives_25 rfl (lv_at hl 2 rfl) ?_
        obtain ⟨qizh10, hf⟩ := gg_el hf
        obtain ⟨zt11, zh10, qzh10, hf⟩ := gc_el hf
        refine gx_ki (gx_runV (As := [.int za2]) (rest := []) X hw (c_X12_roomNow l E N za0 za2 zh7 qzh10) kX12_roomNow mm_X12_315 qizh10 clX12 ⟨Nat.le_of_ble_eq_true rfl, Nat.le_of_ble_eq_true rfl⟩ rfl rfl rfl hl.1 (Nat.le_of_ble_eq_true rfl) rfl dX12_gives_26 ⟨Nat.le_of_ble_eq_true rfl, Nat.le_of_ble_eq_true rfl⟩) hw (fun H locs hw => ?_)
        refine lv_goto (tgt := 33) hx hb dX12_gives_29 (by decide) ?_
        exact J_33 za0 za1 za2 za3 zt11 _ _ _ ls hf hw (lv_sub hl [0, 1, 2, 3] rfl)
abbrev rm_X12_whyNot : Room := { frames := 7, cells := 0, slots := 0, locals := 161 }
set_option maxHeartbeats 4000000 in
set_option maxRecDepth 100000 in
theorem c_X12_whyNot (l : Launch) (E : gE) (N : Nat) (za0 : Nat) (za1 : Int32) (za2 : Int32) (za3 : Int32) (zh : PH) {h9 : PH} {r9 : Int32} (hf : f_X12_whyNot N za0 za1 za2 za3 zh = some (r9, h9)) : Met l yX12_whyNot (gWS yX12_whyNot cX12_whyNot 5 (some .int)) rm_X12_whyNot (gPc E [.ref (gB E + za0), .int za1, .int za2, .int za3] zh) (gQi E r9 h9) 0 0 (gA E) := by
  refine gx_met (by decide) ?_ rfl
  intro p e s m below meth c X hr hlk hin2 hw
  have hx := X.1.1
  have hb := X.1.2.1
  have hl := lv_entry [.ref (gB E + za0), .int za1, .int za2, .int za3] (n := 5) (Nat.le_of_ble_eq_true rfl)
  rw [lg_entry_eq]
  generalize (lg_sl [.ref (gB E + za0), .int za1, .int za2, .int za3] ++ List.replicate (5 - (lg_sl [.ref (gB E + za0), .int za1, .int za2, .int za3]).length) Slot.unset).toArray = ls at hl ⊢
  have hl : lv_has ls 5 [(0, .ref (gB E + za0)), (1, .int za1), (2, .int za2), (3, .int za3)] := hl
  have J_106 : ∀ (zs0 : Int32) (zh : PH) (H : Heap) (locs : List Loc) (ls : Array Slot), f_X12_whyNot_106 N zs0 zh = some (r9, h9) → gw E s zh H locs → lv_has ls 5 [] → W p l e rm_X12_whyNot s m [.ref (gB E + za0), .int za1, .int za2, .int za3].toArray below meth c H locs 0 0 (MQ below (gQi E r9 h9) [.ref (gB E + za0), .int za1, .int za2, .int za3].toArray s 0 0 (gA E)) (F0 m 106 ls [.int zs0]) := by
    intro zs0 zh H locs ls hf hw hl
    unfold f_X12_whyNot_106 at hf
    exact gx_iret X hr hlk hw hf dX12_whyNot_106
  have J_92 : ∀ (zv0 : Nat) (zh : PH) (H : Heap) (locs : List Loc) (ls : Array Slot), f_X12_whyNot_92 N zv0 zh = some (r9, h9) → gw E s zh H locs → lv_has ls 5 [(0, .ref (gB E + zv0))] → W p l e rm_X12_whyNot s m [.ref (gB E + za0), .int za1, .int za2, .int za3].toArray below meth c H locs 0 0 (MQ below (gQi E r9 h9) [.ref (gB E + za0), .int za1, .int za2, .int za3].toArray s 0 0 (gA E)) (F0 m 92 ls []) := by
    intro zv0 zh H locs ls hf hw hl
    unfold f_X12_whyNot_92 at hf
    refine lv_aload_n hx hb dX12_whyNot_92 rfl (lv_at hl 0 rfl) ?_
    obtain ⟨qizh1, hf⟩ := gg_el hf
    obtain ⟨zt2, zh1, qzh1, hf⟩ := gc_el hf
    refine gx_ki (gx_runV (As := []) (rest := []) X hw (c_X12_events l E N zv0 zh qzh1) kX12_events mm_X12_284 qizh1 clX12 ⟨Nat.le_of_ble_eq_true rfl, Nat.le_of_ble_eq_true rfl⟩ rfl rfl rfl hl.1 (Nat.le_of_ble_eq_true rfl) rfl dX12_whyNot_93 ⟨Nat.le_of_ble_eq_true rfl, Nat.le_of_ble_eq_true rfl⟩) hw (fun H locs hw => ?_)
    refine lv_bipush (v := 100) hx hb dX12_whyNot_96 (by decide) ?_
    refine lv_icmp_ne (tgt := 105) hx hb dX12_whyNot_98 (by decide) (fun qc3 => ?_) (fun qc3 => ?_)
    · have hf := gif_f hf qc3
      refine lv_iconst (v := 0) hx hb dX12_whyNot_105 (by decide) ?_
      exact J_106 0 _ _ _ ls hf hw (lv_sub hl [] rfl)
    · have hf := gif_t hf qc3
      refine lv_iconst (v := 5) hx hb dX12_whyNot_101 (by decide) ?_
      refine lv_goto (tgt := 106) hx hb dX12_whyNot_102 (by decide) ?_
      exact J_106 5 _ _ _ ls hf hw (lv_sub hl [] rfl)
  have J_69 : ∀ (zv0 : Nat) (zv3 : Int32) (zs0 : Int32) (zh : PH) (H : Heap) (locs : List Loc) (ls : Array Slot), f_X12_whyNot_69 N zv0 zv3 zs0 zh = some (r9, h9) → gw E s zh H locs → lv_has ls 5 [(0, .ref (gB E + zv0)), (3, .int zv3)] → W p l e rm_X12_whyNot s m [.ref (gB E + za0), .int za1, .int za2, .int za3].toArray below meth c H locs 0 0 (MQ below (gQi E r9 h9) [.ref (gB E + za0), .int za1, .int za2, .int za3].toArray s 0 0 (gA E)) (F0 m 69 ls [.int zs0]) := by
    intro zv0 zv3 zs0 zh H locs ls hf hw hl
    unfold f_X12_whyNot_69 at hf
    refine lv_iload_n hx hb dX12_whyNot_69 rfl (lv_at hl 1 rfl) ?_
    refine lv_icmp_eq (tgt := 75) hx hb dX12_whyNot_70 (by decide) (fun qc1 => ?_) (fun qc1 => ?_)
    · have hf := gif_t hf qc1
      refine lv_iload_n hx hb dX12_whyNot_75 rfl (lv_at hl 1 rfl) ?_
      refine lv_if_ne (tgt := 92) hx hb dX12_whyNot_76 (by decide) (fun qc2 => ?_) (fun qc2 => ?_)
      · have hf := gif_f hf qc2
        exact J_92 zv0 _ _ _ ls hf hw (lv_sub hl [0] rfl)
      · have hf := gif_t hf qc2
        refine lv_aload_n hx hb dX12_whyNot_79 rfl (lv_at hl 0 rfl) ?_
        obtain ⟨qizh3, hf⟩ := gg_el hf
        obtain ⟨zt4, zh3, qzh3, hf⟩ := gc_el hf
        refine gx_ki (gx_runV (As := []) (rest := []) X hw (c_X12_firstEmpty l E N zv0 zh qzh3) kX12_firstEmpty mm_X12_264 qizh3 clX12 ⟨Nat.le_of_ble_eq_true rfl, Nat.le_of_ble_eq_true rfl⟩ rfl rfl rfl hl.1 (Nat.le_of_ble_eq_true rfl) rfl dX12_whyNot_80 ⟨Nat.le_of_ble_eq_true rfl, Nat.le_of_ble_eq_true rfl⟩) hw (fun H locs hw => ?_)
        refine lv_aload_n hx hb dX12_whyNot_83 rfl (lv_at hl 0 rfl) ?_
        obtain ⟨qizh5, hf⟩ := gg_el hf
        obtain ⟨zt6, zh5, qzh5, hf⟩ := gc_el hf
        refine gx_ki (gx_runV (As := []) (rest := [.int zt4]) X hw (c_X12_rooms l E N zv0 zh3 qzh5) kX12_rooms mm_X12_231 qizh5 clX12 ⟨Nat.le_of_ble_eq_true rfl, Nat.le_of_ble_eq_true rfl⟩ rfl rfl rfl hl.1 (Nat.le_of_ble_eq_true rfl) rfl dX12_whyNot_84 ⟨Nat.le_of_ble_eq_true rfl, Nat.le_of_ble_eq_true rfl⟩) hw (fun H locs hw => ?_)
        refine lv_icmp_ne (tgt := 92) hx hb dX12_whyNot_87 (by decide) (fun qc7 => ?_) (fun qc7 => ?_)
        · have hf := gif_f hf qc7
          exact J_92 zv0 _ _ _ ls hf hw (lv_sub hl [0] rfl)
        · have hf := gif_t hf qc7
          refine W.eq (g2 := F0 m 90 ls []) rfl ?_
          refine lv_iconst (v := 4) hx hb dX12_whyNot_90 (by decide) ?_
          exact gx_iret X hr hlk hw hf dX12_whyNot_91
    · have hf := gif_f hf qc1
      refine lv_iconst (v := 3) hx hb dX12_whyNot_73 (by decide) ?_
      exact gx_iret X hr hlk hw hf dX12_whyNot_74
  have J_54 : ∀ (zh : PH) (H : Heap) (locs : List Loc) (ls : Array Slot), f_X12_whyNot_54 N zh = some (r9, h9) → gw E s zh H locs → lv_has ls 5 [] → W p l e rm_X12_whyNot s m [.ref (gB E + za0), .int za1, .int za2, .int za3].toArray below meth c H locs 0 0 (MQ below (gQi E r9 h9) [.ref (gB E + za0), .int za1, .int za2, .int za3].toArray s 0 0 (gA E)) (F0 m 54 ls []) := by
    intro zh H locs ls hf hw hl
    unfold f_X12_whyNot_54 at hf
    refine lv_iconst (v := 2) hx hb dX12_whyNot_54 (by decide) ?_
    exact gx_iret X hr hlk hw hf dX12_whyNot_55
  have J_39 : ∀ (zv0 : Nat) (zv1 : Int32) (zv2 : Int32) (zv3 : Int32) (zs0 : Int32) (zh : PH) (H : Heap) (locs : List Loc) (ls : Array Slot), f_X12_whyNot_39 N zv0 zv1 zv2 zv3 zs0 zh = some (r9, h9) → gw E s zh H locs → lv_has ls 5 [(0, .ref (gB E + zv0)), (1, .int zv1), (2, .int zv2), (3, .int zv3)] → W p l e rm_X12_whyNot s m [.ref (gB E + za0), .int za1, .int za2, .int za3].toArray below meth c H locs 0 0 (MQ below (gQi E r9 h9) [.ref (gB E + za0), .int za1, .int za2, .int za3].toArray s 0 0 (gA E)) (F0 m 39 ls [.int zs0]) := by
    intro zv0 zv1 zv2 zv3 zs0 zh H locs ls hf hw hl
    unfold f_X12_whyNot_39 at hf
    refine lv_istore (lv' := [(4, .int zs0), (0, .ref (gB E + zv0)), (1, .int zv1), (2, .int zv2), (3, .int zv3)]) hx hb dX12_whyNot_39 hl (by decide) rfl (fun ls hl => ?_)
    refine lv_iload_n hx hb dX12_whyNot_41 rfl (lv_at hl 3 rfl) ?_
    obtain ⟨zt2, zh1, qzh1, hf⟩ := gc_el hf
    refine gx_ki (gx_runS (As := [.int zv2]) (rest := []) X hw (c_X12_isTold l E N zv2 zh qzh1) kX12_isTold mm_X12_321 ⟨Nat.le_of_ble_eq_true rfl, Nat.le_of_ble_eq_true rfl⟩ rfl rfl rfl hl.1 (Nat.le_of_ble_eq_true rfl) rfl dX12_whyNot_42 ⟨Nat.le_of_ble_eq_true rfl, Nat.le_of_ble_eq_true rfl⟩) hw (fun H locs hw => ?_)
    refine lv_if_eq (tgt := 54) hx hb dX12_whyNot_45 (by decide) (fun qc3 => ?_) (fun qc3 => ?_)
    · have hf := gif_t hf qc3
      exact J_54  _ _ _ ls hf hw (lv_sub hl [] rfl)
    · have hf := gif_f hf qc3
      refine lv_iload_n hx hb dX12_whyNot_48 rfl (lv_at hl 3 rfl) ?_
      refine lv_iload hx hb dX12_whyNot_49 (lv_at hl 0 rfl) ?_
      refine lv_icmp_ge (tgt := 56) hx hb dX12_whyNot_51 (by decide) (fun qc4 => ?_) (fun qc4 => ?_)
      · have hf := gif_t hf qc4
        refine lv_aload_n hx hb dX12_whyNot_56 rfl (lv_at hl 1 rfl) ?_
        refine lv_iload_n hx hb dX12_whyNot_57 rfl (lv_at hl 2 rfl) ?_
        refine W.eq (g2 := F0 m 58 ls [.int zv1, .ref (gB E + zv0)]) rfl ?_
        obtain ⟨qizh5, hf⟩ := gg_el hf
        obtain ⟨zt6, zh5, qzh5, hf⟩ := gc_el hf
        refine gx_ki (gx_runV (As := [.int zv1]) (rest := []) X hw (c_X12_roomNow l E N zv0 zv1 zh1 qzh5) kX12_roomNow mm_X12_315 qizh5 clX12 ⟨Nat.le_of_ble_eq_true rfl, Nat.le_of_ble_eq_true rfl⟩ rfl rfl rfl hl.1 (Nat.le_of_ble_eq_true rfl) rfl dX12_whyNot_58 ⟨Nat.le_of_ble_eq_true rfl, Nat.le_of_ble_eq_true rfl⟩) hw (fun H locs hw => ?_)
        refine lv_if_lt (tgt := 68) hx hb dX12_whyNot_61 (by decide) (fun qc7 => ?_) (fun qc7 => ?_)
        · have hf := gif_t hf qc7
          refine lv_iconst (v := 0) hx hb dX12_whyNot_68 (by decide) ?_
          exact J_69 zv0 zv3 0 _ _ _ ls hf hw (lv_sub hl [1, 4] rfl)
        · have hf := gif_f hf qc7
          refine lv_iconst (v := 1) hx hb dX12_whyNot_64 (by decide) ?_
          refine lv_goto (tgt := 69) hx hb dX12_whyNot_65 (by decide) ?_
          exact J_69 zv0 zv3 1 _ _ _ ls hf hw (lv_sub hl [1, 4] rfl)
      · have hf := gif_f hf qc4
        exact J_54  _ _ _ ls hf hw (lv_sub hl [] rfl)
  have J_15 : ∀ (zh : PH) (H : Heap) (locs : List Loc) (ls : Array Slot), f_X12_whyNot_15 N zh = some (r9, h9) → gw E s zh H locs → lv_has ls 5 [] → W p l e rm_X12_whyNot s m [.ref (gB E + za0), .int za1, .int za2, .int za3].toArray below meth c H locs 0 0 (MQ below (gQi E r9 h9) [.ref (gB E + za0), .int za1, .int za2, .int za3].toArray s 0 0 (gA E)) (F0 m 15 ls []) := by
    intro zh H locs ls hf hw hl
    unfold f_X12_whyNot_15 at hf
    refine lv_iconst (v := 1) hx hb dX12_whyNot_15 (by decide) ?_
    exact gx_iret X hr hlk hw hf dX12_whyNot_16
  unfold f_X12_whyNot at hf
  refine lv_aload_n hx hb dX12_whyNot_0 rfl (lv_at hl 0 rfl) ?_
  refine lv_iload_n hx hb dX12_whyNot_1 rfl (lv_at hl 1 rfl) ?_
  obtain ⟨qizh1, hf⟩ := gg_el hf
  obtain ⟨zt2, zh1, qzh1, hf⟩ := gc_el hf
  refine gx_ki (gx_runV (As := [.int za1]) (rest := []) X hw (c_X12_isGuest l E N za0 za1 zh qzh1) kX12_isGuest mm_X12_312 qizh1 clX12 ⟨Nat.le_of_ble_eq_true rfl, Nat.le_of_ble_eq_true rfl⟩ rfl rfl rfl hl.1 (Nat.le_of_ble_eq_true rfl) rfl dX12_whyNot_2 ⟨Nat.le_of_ble_eq_true rfl, Nat.le_of_ble_eq_true rfl⟩) hw (fun H locs hw => ?_)
  refine lv_if_eq (tgt := 15) hx hb dX12_whyNot_5 (by decide) (fun qc3 => ?_) (fun qc3 => ?_)
  · have hf := gif_t hf qc3
    exact J_15  _ _ _ ls hf hw (lv_sub hl [] rfl)
  · have hf := gif_f hf qc3
    refine lv_aload_n hx hb dX12_whyNot_8 rfl (lv_at hl 0 rfl) ?_
    obtain ⟨qizh4, hf⟩ := gg_el hf
    obtain ⟨zt5, zh4, qzh4, hf⟩ := gc_el hf
    refine gx_ki (gx_runV (As := []) (rest := []) X hw (c_X12_rooms l E N za0 zh1 qzh4) kX12_rooms mm_X12_231 qizh4 clX12 ⟨Nat.le_of_ble_eq_true rfl, Nat.le_of_ble_eq_true rfl⟩ rfl rfl rfl hl.1 (Nat.le_of_ble_eq_true rfl) rfl dX12_whyNot_9 ⟨Nat.le_of_ble_eq_true rfl, Nat.le_of_ble_eq_true rfl⟩) hw (fun H locs hw => ?_)
    refine lv_if_ne (tgt := 17) hx hb dX12_whyNot_12 (by decide) (fun qc6 => ?_) (fun qc6 => ?_)
    · have hf := gif_f hf qc6
      refine lv_aload_n hx hb dX12_whyNot_17 rfl (lv_at hl 0 rfl) ?_
      obtain ⟨qizh7, hf⟩ := gg_el hf
      obtain ⟨zt8, zh7, qzh7, hf⟩ := gc_el hf
      refine gx_ki (gx_runV (As := []) (rest := []) X hw (c_X12_events l E N za0 zh4 qzh7) kX12_events mm_X12_284 qizh7 clX12 ⟨Nat.le_of_ble_eq_true rfl, Nat.le_of_ble_eq_true rfl⟩ rfl rfl rfl hl.1 (Nat.le_of_ble_eq_true rfl) rfl dX12_whyNot_18 ⟨Nat.le_of_ble_eq_true rfl, Nat.le_of_ble_eq_true rfl⟩) hw (fun H locs hw => ?_)
      refine W.eq (g2 := F0 m 21 ls [.int zt8]) rfl ?_
      refine lv_if_ne (tgt := 28) hx hb dX12_whyNot_21 (by decide) (fun qc9 => ?_) (fun qc9 => ?_)
      · have hf := gif_f hf qc9
        refine lv_aload_n hx hb dX12_whyNot_28 rfl (lv_at hl 0 rfl) ?_
        refine lv_aload_n hx hb dX12_whyNot_29 rfl (lv_at hl 0 rfl) ?_
        obtain ⟨qizh10, hf⟩ := gg_el hf
        obtain ⟨zt11, zh10, qzh10, hf⟩ := gc_el hf
        refine gx_ki (gx_runV (As := []) (rest := [.ref (gB E + za0)]) X hw (c_X12_events l E N za0 zh7 qzh10) kX12_events mm_X12_284 qizh10 clX12 ⟨Nat.le_of_ble_eq_true rfl, Nat.le_of_ble_eq_true rfl⟩ rfl rfl rfl hl.1 (Nat.le_of_ble_eq_true rfl) rfl dX12_whyNot_30 ⟨Nat.le_of_ble_eq_true rfl, Nat.le_of_ble_eq_true rfl⟩) hw (fun H locs hw => ?_)
        refine lv_iconst (v := 1) hx hb dX12_whyNot_33 (by decide) ?_
        refine lv_isub hx hb dX12_whyNot_34 ?_
        refine lv_iconst (v := 2) hx hb dX12_whyNot_35 (by decide) ?_
        obtain ⟨qizh12, hf⟩ := gg_el hf
        obtain ⟨zt13, zh12, qzh12, hf⟩ := gc_el hf
        refine gx_ki (gx_runV (As := [.int (zt11 - 1), .int 2]) (rest := []) X hw (c_X12_eventOf l E N za0 (zt11 - 1) 2 zh10 qzh12) kX12_eventOf mm_X12_287 qizh12 clX12 ⟨Nat.le_of_ble_eq_true rfl, Nat.le_of_ble_eq_true rfl⟩ rfl rfl rfl hl.1 (Nat.le_of_ble_eq_true rfl) rfl dX12_whyNot_36 ⟨Nat.le_of_ble_eq_true rfl, Nat.le_of_ble_eq_true rfl⟩) hw (fun H locs hw => ?_)
        exact J_39 za0 za1 za2 za3 zt13 _ _ _ ls hf hw (lv_sub hl [0, 1, 2, 3] rfl)
      · have hf := gif_t hf qc9
        refine lv_iconst (v := 0) hx hb dX12_whyNot_24 (by decide) ?_
        refine lv_goto (tgt := 39) hx hb dX12_whyNot_25 (by decide) ?_
        exact J_39 za0 za1 za2 za3 0 _ _ _ ls hf hw (lv_sub hl [0, 1, 2, 3] rfl)
    · have hf := gif_t hf qc6
      exact J_15  _ _ _ ls hf hw (lv_sub hl [] rfl)
abbrev rm_X12_booked : Room := { frames := 0, cells := 0, slots := 0, locals := 0 }
set_option maxHeartbeats 4000000 in
set_option maxRecDepth 100000 in
theorem c_X12_booked (l : Launch) (E : gE) (N : Nat) (za0 : Nat) (zh : PH) {h9 : PH} {r9 : Int32} (hf : f_X12_booked N za0 zh = some (r9, h9)) : Met l yX12_booked (gWS yX12_booked cX12_booked 1 (some .int)) rm_X12_booked (gPc E [.ref (gB E + za0)] zh) (gQi E r9 h9) 0 0 (gA E) := by
  refine gx_met (by decide) ?_ rfl
  intro p e s m below meth c X hr hlk hin2 hw
  have hx := X.1.1
  have hb := X.1.2.1
  have hl := lv_entry [.ref (gB E + za0)] (n := 1) (Nat.le_of_ble_eq_true rfl)
  rw [lg_entry_eq]
  generalize (lg_sl [.ref (gB E + za0)] ++ List.replicate (1 - (lg_sl [.ref (gB E + za0)]).length) Slot.unset).toArray = ls at hl ⊢
  have hl : lv_has ls 1 [(0, .ref (gB E + za0))] := hl
  unfold f_X12_booked at hf
  refine lv_aload_n hx hb dX12_booked_0 rfl (lv_at hl 0 rfl) ?_
  obtain ⟨zt1, qzt1, hf⟩ := gb_el hf
  refine gx_getR X hw qzt1 clX12 (by decide) mf_X12_83 dX12_booked_1 ?_
  refine lv_sipush (v := 495) hx hb dX12_booked_4 (by decide) ?_
  obtain ⟨zt2, qzt2, hf⟩ := gb_el hf
  refine gx_iald X hw qzt2 dX12_booked_7 ?_
  exact gx_iret X hr hlk hw hf dX12_booked_8
abbrev rm_X12_unbooks : Room := { frames := 1, cells := 0, slots := 0, locals := 20 }
set_option maxHeartbeats 4000000 in
set_option maxRecDepth 100000 in
theorem c_X12_unbooks (l : Launch) (E : gE) (N : Nat) (za0 : Nat) (za1 : Int32) (zh : PH) {h9 : PH} (hf : f_X12_unbooks N za0 za1 zh = some h9) : Met l yX12_unbooks (gWS yX12_unbooks cX12_unbooks 5 none) rm_X12_unbooks (gPc E [.ref (gB E + za0), .int za1] zh) (gQv E h9) 0 0 (gA E) := by
  refine gx_met (by decide) ?_ rfl
  intro p e s m below meth c X hr hlk hin2 hw
  have hx := X.1.1
  have hb := X.1.2.1
  have hl := lv_entry [.ref (gB E + za0), .int za1] (n := 5) (Nat.le_of_ble_eq_true rfl)
  rw [lg_entry_eq]
  generalize (lg_sl [.ref (gB E + za0), .int za1] ++ List.replicate (5 - (lg_sl [.ref (gB E + za0), .int za1]).length) Slot.unset).toArray = ls at hl ⊢
  have hl : lv_has ls 5 [(0, .ref (gB E + za0)), (1, .int za1)] := hl
  have L_4 : ∀ (zn4 : Nat) (zv0 : Nat) (zv1 : Int32) (zv2 : Int32) (zv3 : Int32) (zh : PH) (H : Heap) (locs : List Loc) (ls : Array Slot), gi (fun zk zs => f_X12_unbooks_4 N zk zs.1 zs.2.1 zs.2.2.1 zs.2.2.2.1 zs.2.2.2.2) zn4 (zv0, zv1, zv2, zv3, zh) = some h9 → gw E s zh H locs → lv_has ls 5 [(0, .ref (gB E + zv0)), (1, .int zv1), (2, .int zv2), (3, .int zv3)] → W p l e rm_X12_unbooks s m [.ref (gB E + za0), .int za1].toArray below meth c H locs 0 0 (MQ below (gQv E h9) [.ref (gB E + za0), .int za1].toArray s 0 0 (gA E)) (F0 m 4 ls []) := by
    intro zn4
    induction zn4 with
    | zero =>
      intro zv0 zv1 zv2 zv3 zh H locs ls hf
      cases hf
    | succ zn4 ih_4 =>
      have J_48 : ∀ (zv0 : Nat) (zv1 : Int32) (zv3 : Int32) (zs0 : Int32) (zs1 : Int32) (zh : PH) (H : Heap) (locs : List Loc) (ls : Array Slot), f_X12_unbooks_48 N (gi (fun zk zs => f_X12_unbooks_4 N zk zs.1 zs.2.1 zs.2.2.1 zs.2.2.2.1 zs.2.2.2.2) zn4) zv0 zv1 zv3 zs0 zs1 zh = some h9 → gw E s zh H locs → lv_has ls 5 [(0, .ref (gB E + zv0)), (1, .int zv1), (3, .int zv3)] → W p l e rm_X12_unbooks s m [.ref (gB E + za0), .int za1].toArray below meth c H locs 0 0 (MQ below (gQv E h9) [.ref (gB E + za0), .int za1].toArray s 0 0 (gA E)) (F0 m 48 ls [.int zs0, .int zs1]) := by
        intro zv0 zv1 zv3 zs0 zs1 zh H locs ls hf hw hl
        unfold f_X12_unbooks_48 at hf
        refine lv_iadd hx hb dX12_unbooks_48 ?_
        refine lv_topi (fun zx1 ezx1 => ?_)
        have hf := gl_el hf ezx1
        refine lv_istore_n (lv' := [(2, .int zx1), (0, .ref (gB E + zv0)), (1, .int zv1), (3, .int zv3)]) hx hb dX12_unbooks_49 rfl hl (by decide) rfl (fun ls hl => ?_)
        obtain ⟨zx2, ezx2⟩ : ∃ y : Int32, y = zv3 + 1 := ⟨_, rfl⟩
        have hf := gl_el hf ezx2
        refine lv_iinc (v := zx2) (lv' := [(3, .int zx2), (2, .int zx1), (0, .ref (gB E + zv0)), (1, .int zv1)]) hx hb dX12_unbooks_50 hl (k := 3) rfl (by rw [ezx2]; rfl) (by decide) rfl (fun ls hl => ?_)
        refine lv_goto (tgt := 4) hx hb dX12_unbooks_53 (by decide) ?_
        exact ih_4 zv0 zv1 zx1 zx2 _ _ _ ls hf hw (lv_sub hl [2, 3, 1, 0] rfl)
      intro zv0 zv1 zv2 zv3 zh H locs ls hf hw hl
      have hf := gi_s hf
      dsimp only at hf
      unfold f_X12_unbooks_4 at hf
      refine lv_iload_n hx hb dX12_unbooks_4 rfl (lv_at hl 3 rfl) ?_
      refine lv_aload_n hx hb dX12_unbooks_5 rfl (lv_at hl 0 rfl) ?_
      obtain ⟨qizh1, hf⟩ := gg_el hf
      obtain ⟨zt2, zh1, qzh1, hf⟩ := gc_el hf
      refine gx_ki (gx_runV (As := []) (rest := [.int zv3]) X hw (c_X12_booked l E N zv0 zh qzh1) kX12_booked mm_X12_331 qizh1 clX12 ⟨Nat.le_of_ble_eq_true rfl, Nat.le_of_ble_eq_true rfl⟩ rfl rfl rfl hl.1 (Nat.le_of_ble_eq_true rfl) rfl dX12_unbooks_6 ⟨Nat.le_of_ble_eq_true rfl, Nat.le_of_ble_eq_true rfl⟩) hw (fun H locs hw => ?_)
      refine lv_icmp_ge (tgt := 56) hx hb dX12_unbooks_9 (by decide) (fun qc3 => ?_) (fun qc3 => ?_)
      · have hf := gif_t hf qc3
        refine lv_aload_n hx hb dX12_unbooks_56 rfl (lv_at hl 0 rfl) ?_
        obtain ⟨zt4, qzt4, hf⟩ := gb_el hf
        refine gx_getR X hw qzt4 clX12 (by decide) mf_X12_83 dX12_unbooks_57 ?_
        refine lv_sipush (v := 495) hx hb dX12_unbooks_60 (by decide) ?_
        refine lv_iload_n hx hb dX12_unbooks_63 rfl (lv_at hl 2 rfl) ?_
        obtain ⟨zh5, qzh5, hf⟩ := gb_el hf
        refine gx_iast X hw qzh5 dX12_unbooks_64 (fun H locs hw => ?_)
        refine W.eq (g2 := F0 m 65 ls []) rfl ?_
        exact gx_vret X hr hlk hw hf dX12_unbooks_65
      · have hf := gif_f hf qc3
        refine lv_aload_n hx hb dX12_unbooks_12 rfl (lv_at hl 0 rfl) ?_
        obtain ⟨zt6, qzt6, hf⟩ := gb_el hf
        refine gx_getR X hw qzt6 clX12 (by decide) mf_X12_83 dX12_unbooks_13 ?_
        refine lv_sipush (v := 496) hx hb dX12_unbooks_16 (by decide) ?_
        refine lv_iload_n hx hb dX12_unbooks_19 rfl (lv_at hl 3 rfl) ?_
        refine lv_iadd hx hb dX12_unbooks_20 ?_
        refine W.eq (g2 := F0 m 21 ls [.int (496 + zv3), .ref (gB E + zt6)]) rfl ?_
        obtain ⟨zt7, qzt7, hf⟩ := gb_el hf
        refine gx_iald X hw qzt7 dX12_unbooks_21 ?_
        refine lv_istore (lv' := [(4, .int zt7), (0, .ref (gB E + zv0)), (1, .int zv1), (2, .int zv2), (3, .int zv3)]) hx hb dX12_unbooks_22 hl (by decide) rfl (fun ls hl => ?_)
        refine lv_aload_n hx hb dX12_unbooks_24 rfl (lv_at hl 1 rfl) ?_
        obtain ⟨zt8, qzt8, hf⟩ := gb_el hf
        refine gx_getR X hw qzt8 clX12 (by decide) mf_X12_83 dX12_unbooks_25 ?_
        refine lv_sipush (v := 496) hx hb dX12_unbooks_28 (by decide) ?_
        refine lv_iload_n hx hb dX12_unbooks_31 rfl (lv_at hl 3 rfl) ?_
        refine lv_iadd hx hb dX12_unbooks_32 ?_
        refine lv_iload hx hb dX12_unbooks_33 (lv_at hl 0 rfl) ?_
        obtain ⟨zh9, qzh9, hf⟩ := gb_el hf
        refine gx_iast X hw qzh9 dX12_unbooks_35 (fun H locs hw => ?_)
        refine lv_iload_n hx hb dX12_unbooks_36 rfl (lv_at hl 3 rfl) ?_
        refine W.eq (g2 := F0 m 37 ls [.int zv2]) rfl ?_
        refine lv_iload hx hb dX12_unbooks_37 (lv_at hl 0 rfl) ?_
        refine lv_iload_n hx hb dX12_unbooks_39 rfl (lv_at hl 2 rfl) ?_
        refine lv_icmp_ne (tgt := 47) hx hb dX12_unbooks_40 (by decide) (fun qc10 => ?_) (fun qc10 => ?_)
        · have hf := gif_f hf qc10
          refine lv_iconst (v := 1) hx hb dX12_unbooks_47 (by decide) ?_
          exact J_48 zv0 zv1 zv3 1 zv2 _ _ _ ls hf hw (lv_sub hl [1, 2, 4] rfl)
        · have hf := gif_t hf qc10
          refine lv_iconst (v := 0) hx hb dX12_unbooks_43 (by decide) ?_
          refine lv_goto (tgt := 48) hx hb dX12_unbooks_44 (by decide) ?_
          exact J_48 zv0 zv1 zv3 0 zv2 _ _ _ ls hf hw (lv_sub hl [1, 2, 4] rfl)
  unfold f_X12_unbooks at hf
  refine lv_iconst (v := 0) hx hb dX12_unbooks_0 (by decide) ?_
  refine lv_istore_n (lv' := [(2, .int 0), (0, .ref (gB E + za0)), (1, .int za1)]) hx hb dX12_unbooks_1 rfl hl (by decide) rfl (fun ls hl => ?_)
  refine lv_iconst (v := 0) hx hb dX12_unbooks_2 (by decide) ?_
  refine lv_istore_n (lv' := [(3, .int 0), (2, .int 0), (0, .ref (gB E + za0)), (1, .int za1)]) hx hb dX12_unbooks_3 rfl hl (by decide) rfl (fun ls hl => ?_)
  exact L_4 N za0 za1 0 0 _ _ _ ls hf hw (lv_sub hl [2, 3, 1, 0] rfl)
abbrev rm_X12_tells : Room := { frames := 8, cells := 0, slots := 0, locals := 185 }
set_option maxHeartbeats 4000000 in
set_option maxRecDepth 100000 in
theorem c_X12_tells (l : Launch) (E : gE) (N : Nat) (za0 : Nat) (za1 : Int32) (za2 : Int32) (za3 : Int32) (zh : PH) {h9 : PH} {r9 : Int32} (hf : f_X12_tells N za0 za1 za2 za3 zh = some (r9, h9)) : Met l yX12_tells (gWS yX12_tells cX12_tells 6 (some .int)) rm_X12_tells (gPc E [.ref (gB E + za0), .int za1, .int za2, .int za3] zh) (gQi E r9 h9) 0 0 (gA E) := by
  refine gx_met (by decide) ?_ rfl
  intro p e s m below meth c X hr hlk hin2 hw
  have hx := X.1.1
  have hb := X.1.2.1
  have hl := lv_entry [.ref (gB E + za0), .int za1, .int za2, .int za3] (n := 6) (Nat.le_of_ble_eq_true rfl)
  rw [lg_entry_eq]
  generalize (lg_sl [.ref (gB E + za0), .int za1, .int za2, .int za3] ++ List.replicate (6 - (lg_sl [.ref (gB E + za0), .int za1, .int za2, .int za3]).length) Slot.unset).toArray = ls at hl ⊢
  have hl : lv_has ls 6 [(0, .ref (gB E + za0)), (1, .int za1), (2, .int za2), (3, .int za3)] := hl
  have J_107 : ∀ (zh : PH) (H : Heap) (locs : List Loc) (ls : Array Slot), f_X12_tells_107 N zh = some (r9, h9) → gw E s zh H locs → lv_has ls 6 [] → W p l e rm_X12_tells s m [.ref (gB E + za0), .int za1, .int za2, .int za3].toArray below meth c H locs 0 0 (MQ below (gQi E r9 h9) [.ref (gB E + za0), .int za1, .int za2, .int za3].toArray s 0 0 (gA E)) (F0 m 107 ls []) := by
    intro zh H locs ls hf hw hl
    unfold f_X12_tells_107 at hf
    refine lv_iconst (v := 0) hx hb dX12_tells_107 (by decide) ?_
    exact gx_iret X hr hlk hw hf dX12_tells_108
  have J_57 : ∀ (zv0 : Nat) (zv1 : Int32) (zv2 : Int32) (zv3 : Int32) (zv5 : Int32) (zs0 : Int32) (zs1 : Int32) (zs2 : Nat) (zh : PH) (H : Heap) (locs : List Loc) (ls : Array Slot), f_X12_tells_57 N zv0 zv1 zv2 zv3 zv5 zs0 zs1 zs2 zh = some (r9, h9) → gw E s zh H locs → lv_has ls 6 [(0, .ref (gB E + zv0)), (1, .int zv1), (2, .int zv2), (3, .int zv3), (5, .int zv5)] → W p l e rm_X12_tells s m [.ref (gB E + za0), .int za1, .int za2, .int za3].toArray below meth c H locs 0 0 (MQ below (gQi E r9 h9) [.ref (gB E + za0), .int za1, .int za2, .int za3].toArray s 0 0 (gA E)) (F0 m 57 ls [.int zs0, .int zs1, .ref (gB E + zs2)]) := by
    intro zv0 zv1 zv2 zv3 zv5 zs0 zs1 zs2 zh H locs ls hf hw hl
    unfold f_X12_tells_57 at hf
    obtain ⟨zh1, qzh1, hf⟩ := gb_el hf
    refine gx_iast X hw qzh1 dX12_tells_57 (fun H locs hw => ?_)
    refine lv_aload_n hx hb dX12_tells_58 rfl (lv_at hl 0 rfl) ?_
    obtain ⟨zt2, qzt2, hf⟩ := gb_el hf
    refine gx_getR X hw qzt2 clX12 (by decide) mf_X12_83 dX12_tells_59 ?_
    refine lv_iload hx hb dX12_tells_62 (lv_at hl 4 rfl) ?_
    refine lv_iconst (v := 2) hx hb dX12_tells_64 (by decide) ?_
    refine lv_iadd hx hb dX12_tells_65 ?_
    refine lv_iload_n hx hb dX12_tells_66 rfl (lv_at hl 2 rfl) ?_
    obtain ⟨zh3, qzh3, hf⟩ := gb_el hf
    refine gx_iast X hw qzh3 dX12_tells_67 (fun H locs hw => ?_)
    refine lv_aload_n hx hb dX12_tells_68 rfl (lv_at hl 0 rfl) ?_
    refine W.eq (g2 := F0 m 69 ls [.ref (gB E + zv0)]) rfl ?_
    obtain ⟨zt4, qzt4, hf⟩ := gb_el hf
    refine gx_getR X hw qzt4 clX12 (by decide) mf_X12_83 dX12_tells_69 ?_
    refine lv_iload hx hb dX12_tells_72 (lv_at hl 4 rfl) ?_
    refine lv_iconst (v := 3) hx hb dX12_tells_74 (by decide) ?_
    refine lv_iadd hx hb dX12_tells_75 ?_
    refine lv_aload_n hx hb dX12_tells_76 rfl (lv_at hl 0 rfl) ?_
    obtain ⟨zt5, qzt5, hf⟩ := gb_el hf
    refine gx_getR X hw qzt5 clX12 (by decide) mf_X12_83 dX12_tells_77 ?_
    refine lv_iconst (v := 0) hx hb dX12_tells_80 (by decide) ?_
    obtain ⟨zt6, qzt6, hf⟩ := gb_el hf
    refine gx_iald X hw qzt6 dX12_tells_81 ?_
    obtain ⟨zh7, qzh7, hf⟩ := gb_el hf
    refine gx_iast X hw qzh7 dX12_tells_82 (fun H locs hw => ?_)
    refine lv_aload_n hx hb dX12_tells_83 rfl (lv_at hl 0 rfl) ?_
    refine W.eq (g2 := F0 m 84 ls [.ref (gB E + zv0)]) rfl ?_
    obtain ⟨zt8, qzt8, hf⟩ := gb_el hf
    refine gx_getR X hw qzt8 clX12 (by decide) mf_X12_83 dX12_tells_84 ?_
    refine lv_iconst (v := 1) hx hb dX12_tells_87 (by decide) ?_
    refine lv_dup2_11 hx hb dX12_tells_88 rfl rfl ?_
    obtain ⟨zt9, qzt9, hf⟩ := gb_el hf
    refine gx_iald X hw qzt9 dX12_tells_89 ?_
    refine lv_iconst (v := 1) hx hb dX12_tells_90 (by decide) ?_
    refine lv_iadd hx hb dX12_tells_91 ?_
    obtain ⟨zh10, qzh10, hf⟩ := gb_el hf
    refine gx_iast X hw qzh10 dX12_tells_92 (fun H locs hw => ?_)
    refine lv_aload_n hx hb dX12_tells_93 rfl (lv_at hl 0 rfl) ?_
    refine lv_iconst (v := 1) hx hb dX12_tells_94 (by decide) ?_
    obtain ⟨zh11, qzh11, hf⟩ := gb_el hf
    refine gx_putV X hw qzh11 clX12 (by decide) mf_X12_123 rfl rfl rfl dX12_tells_95 (fun H locs hw => ?_)
    refine W.eq (g2 := F0 m 98 ls []) rfl ?_
    refine lv_iload_n hx hb dX12_tells_98 rfl (lv_at hl 3 rfl) ?_
    refine lv_if_ne (tgt := 107) hx hb dX12_tells_99 (by decide) (fun qc12 => ?_) (fun qc12 => ?_)
    · have hf := gif_f hf qc12
      exact J_107  _ _ _ ls hf hw (lv_sub hl [] rfl)
    · have hf := gif_t hf qc12
      refine lv_aload_n hx hb dX12_tells_102 rfl (lv_at hl 0 rfl) ?_
      refine lv_iload_n hx hb dX12_tells_103 rfl (lv_at hl 1 rfl) ?_
      obtain ⟨qizh13, hf⟩ := gg_el hf
      obtain ⟨zh13, qzh13, hf⟩ := gb_el hf
      refine gx_kv (gx_runV (As := [.int zv1]) (rest := []) X hw (c_X12_unbooks l E N zv0 zv1 zh11 qzh13) kX12_unbooks mm_X12_328 qizh13 clX12 ⟨Nat.le_of_ble_eq_true rfl, Nat.le_of_ble_eq_true rfl⟩ rfl rfl rfl hl.1 (Nat.le_of_ble_eq_true rfl) rfl dX12_tells_104 ⟨Nat.le_of_ble_eq_true rfl, Nat.le_of_ble_eq_true rfl⟩) hw (fun H locs hw => ?_)
      exact J_107  _ _ _ ls hf hw (lv_sub hl [] rfl)
  unfold f_X12_tells at hf
  refine lv_aload_n hx hb dX12_tells_0 rfl (lv_at hl 0 rfl) ?_
  refine lv_iconst (v := 0) hx hb dX12_tells_1 (by decide) ?_
  obtain ⟨zh1, qzh1, hf⟩ := gb_el hf
  refine gx_putV X hw qzh1 clX12 (by decide) mf_X12_1 rfl rfl rfl dX12_tells_2 (fun H locs hw => ?_)
  refine lv_aload_n hx hb dX12_tells_5 rfl (lv_at hl 0 rfl) ?_
  refine lv_iload_n hx hb dX12_tells_6 rfl (lv_at hl 1 rfl) ?_
  refine lv_iload_n hx hb dX12_tells_7 rfl (lv_at hl 2 rfl) ?_
  refine lv_iload_n hx hb dX12_tells_8 rfl (lv_at hl 3 rfl) ?_
  obtain ⟨qizh2, hf⟩ := gg_el hf
  obtain ⟨zt3, zh2, qzh2, hf⟩ := gc_el hf
  refine gx_ki (gx_runV (As := [.int za1, .int za2, .int za3]) (rest := []) X hw (c_X12_whyNot l E N za0 za1 za2 za3 zh1 qzh2) kX12_whyNot mm_X12_324 qizh2 clX12 ⟨Nat.le_of_ble_eq_true rfl, Nat.le_of_ble_eq_true rfl⟩ rfl rfl rfl hl.1 (Nat.le_of_ble_eq_true rfl) rfl dX12_tells_9 ⟨Nat.le_of_ble_eq_true rfl, Nat.le_of_ble_eq_true rfl⟩) hw (fun H locs hw => ?_)
  refine lv_istore (lv' := [(4, .int zt3), (0, .ref (gB E + za0)), (1, .int za1), (2, .int za2), (3, .int za3)]) hx hb dX12_tells_12 hl (by decide) rfl (fun ls hl => ?_)
  refine W.eq (g2 := F0 m 14 ls []) rfl ?_
  refine lv_iload hx hb dX12_tells_14 (lv_at hl 0 rfl) ?_
  refine lv_if_le (tgt := 22) hx hb dX12_tells_16 (by decide) (fun qc4 => ?_) (fun qc4 => ?_)
  · have hf := gif_t hf qc4
    refine lv_iconst (v := 2) hx hb dX12_tells_22 (by decide) ?_
    refine lv_iconst (v := 4) hx hb dX12_tells_23 (by decide) ?_
    refine lv_aload_n hx hb dX12_tells_24 rfl (lv_at hl 1 rfl) ?_
    obtain ⟨qizh5, hf⟩ := gg_el hf
    obtain ⟨zt6, zh5, qzh5, hf⟩ := gc_el hf
    refine gx_ki (gx_runV (As := []) (rest := [.int 4, .int 2]) X hw (c_X12_events l E N za0 zh2 qzh5) kX12_events mm_X12_284 qizh5 clX12 ⟨Nat.le_of_ble_eq_true rfl, Nat.le_of_ble_eq_true rfl⟩ rfl rfl rfl hl.1 (Nat.le_of_ble_eq_true rfl) rfl dX12_tells_25 ⟨Nat.le_of_ble_eq_true rfl, Nat.le_of_ble_eq_true rfl⟩) hw (fun H locs hw => ?_)
    refine lv_imul hx hb dX12_tells_28 ?_
    refine lv_iadd hx hb dX12_tells_29 ?_
    refine lv_topi (fun zx7 ezx7 => ?_)
    have hf := gl_el hf ezx7
    refine lv_istore (lv' := [(5, .int zx7), (4, .int zt3), (0, .ref (gB E + za0)), (1, .int za1), (2, .int za2), (3, .int za3)]) hx hb dX12_tells_30 hl (by decide) rfl (fun ls hl => ?_)
    refine lv_aload_n hx hb dX12_tells_32 rfl (lv_at hl 2 rfl) ?_
    refine W.eq (g2 := F0 m 33 ls [.ref (gB E + za0)]) rfl ?_
    obtain ⟨zt8, qzt8, hf⟩ := gb_el hf
    refine gx_getR X hw qzt8 clX12 (by decide) mf_X12_83 dX12_tells_33 ?_
    refine lv_iload hx hb dX12_tells_36 (lv_at hl 0 rfl) ?_
    refine lv_iload_n hx hb dX12_tells_38 rfl (lv_at hl 3 rfl) ?_
    obtain ⟨zh9, qzh9, hf⟩ := gb_el hf
    refine gx_iast X hw qzh9 dX12_tells_39 (fun H locs hw => ?_)
    refine lv_aload_n hx hb dX12_tells_40 rfl (lv_at hl 2 rfl) ?_
    obtain ⟨zt10, qzt10, hf⟩ := gb_el hf
    refine gx_getR X hw qzt10 clX12 (by decide) mf_X12_83 dX12_tells_41 ?_
    refine lv_iload hx hb dX12_tells_44 (lv_at hl 0 rfl) ?_
    refine lv_iconst (v := 1) hx hb dX12_tells_46 (by decide) ?_
    refine lv_iadd hx hb dX12_tells_47 ?_
    refine lv_iload_n hx hb dX12_tells_48 rfl (lv_at hl 5 rfl) ?_
    refine W.eq (g2 := F0 m 49 ls [.int za3, .int (zx7 + 1), .ref (gB E + zt10)]) rfl ?_
    refine lv_if_eq (tgt := 56) hx hb dX12_tells_49 (by decide) (fun qc11 => ?_) (fun qc11 => ?_)
    · have hf := gif_t hf qc11
      refine lv_iconst (v := 0) hx hb dX12_tells_56 (by decide) ?_
      exact J_57 za0 za1 za2 za3 zx7 0 (zx7 + 1) zt10 _ _ _ ls hf hw (lv_sub hl [2, 3, 4, 5, 0] rfl)
    · have hf := gif_f hf qc11
      refine lv_iconst (v := 1) hx hb dX12_tells_52 (by decide) ?_
      refine lv_goto (tgt := 57) hx hb dX12_tells_53 (by decide) ?_
      exact J_57 za0 za1 za2 za3 zx7 1 (zx7 + 1) zt10 _ _ _ ls hf hw (lv_sub hl [2, 3, 4, 5, 0] rfl)
  · have hf := gif_f hf qc4
    refine lv_iload hx hb dX12_tells_19 (lv_at hl 0 rfl) ?_
    exact gx_iret X hr hlk hw hf dX12_tells_21
abbrev rm_X12_come : Room := { frames := 9, cells := 0, slots := 0, locals := 210 }
set_option maxHeartbeats 4000000 in
set_option maxRecDepth 100000 in
theorem c_X12_come (l : Launch) (E : gE) (N : Nat) (za0 : Nat) (za1 : Int32) (za2 : Int32) (zh : PH) {h9 : PH} {r9 : Int32} (hf : f_X12_come N za0 za1 za2 zh = some (r9, h9)) : Met l yX12_come (gWS yX12_come cX12_come 3 (some .int)) rm_X12_come (gPc E [.ref (gB E + za0), .int za1, .int za2] zh) (gQi E r9 h9) 0 0 (gA E) := by
  refine gx_met (by decide) ?_ rfl
  intro p e s m below meth c X hr hlk hin2 hw
  have hx := X.1.1
  have hb := X.1.2.1
  have hl := lv_entry [.ref (gB E + za0), .int za1, .int za2] (n := 3) (Nat.le_of_ble_eq_true rfl)
  rw [lg_entry_eq]
  generalize (lg_sl [.ref (gB E + za0), .int za1, .int za2] ++ List.replicate (3 - (lg_sl [.ref (gB E + za0), .int za1, .int za2]).length) Slot.unset).toArray = ls at hl ⊢
  have hl : lv_has ls 3 [(0, .ref (gB E + za0)), (1, .int za1), (2, .int za2)] := hl
  unfold f_X12_come at hf
  refine lv_aload_n hx hb dX12_come_0 rfl (lv_at hl 0 rfl) ?_
  refine lv_iload_n hx hb dX12_come_1 rfl (lv_at hl 1 rfl) ?_
  refine lv_iload_n hx hb dX12_come_2 rfl (lv_at hl 2 rfl) ?_
  refine lv_iconst (v := 0) hx hb dX12_come_3 (by decide) ?_
  obtain ⟨qizh1, hf⟩ := gg_el hf
  obtain ⟨zt2, zh1, qzh1, hf⟩ := gc_el hf
  refine gx_ki (gx_runV (As := [.int za1, .int za2, .int 0]) (rest := []) X hw (c_X12_tells l E N za0 za1 za2 0 zh qzh1) kX12_tells mm_X12_334 qizh1 clX12 ⟨Nat.le_of_ble_eq_true rfl, Nat.le_of_ble_eq_true rfl⟩ rfl rfl rfl hl.1 (Nat.le_of_ble_eq_true rfl) rfl dX12_come_4 ⟨Nat.le_of_ble_eq_true rfl, Nat.le_of_ble_eq_true rfl⟩) hw (fun H locs hw => ?_)
  exact gx_iret X hr hlk hw hf dX12_come_7
abbrev rm_X12_leave : Room := { frames := 9, cells := 0, slots := 0, locals := 210 }
set_option maxHeartbeats 4000000 in
set_option maxRecDepth 100000 in
theorem c_X12_leave (l : Launch) (E : gE) (N : Nat) (za0 : Nat) (za1 : Int32) (za2 : Int32) (zh : PH) {h9 : PH} {r9 : Int32} (hf : f_X12_leave N za0 za1 za2 zh = some (r9, h9)) : Met l yX12_leave (gWS yX12_leave cX12_leave 3 (some .int)) rm_X12_leave (gPc E [.ref (gB E + za0), .int za1, .int za2] zh) (gQi E r9 h9) 0 0 (gA E) := by
  refine gx_met (by decide) ?_ rfl
  intro p e s m below meth c X hr hlk hin2 hw
  have hx := X.1.1
  have hb := X.1.2.1
  have hl := lv_entry [.ref (gB E + za0), .int za1, .int za2] (n := 3) (Nat.le_of_ble_eq_true rfl)
  rw [lg_entry_eq]
  generalize (lg_sl [.ref (gB E + za0), .int za1, .int za2] ++ List.replicate (3 - (lg_sl [.ref (gB E + za0), .int za1, .int za2]).length) Slot.unset).toArray = ls at hl ⊢
  have hl : lv_has ls 3 [(0, .ref (gB E + za0)), (1, .int za1), (2, .int za2)] := hl
  unfold f_X12_leave at hf
  refine lv_aload_n hx hb dX12_leave_0 rfl (lv_at hl 0 rfl) ?_
  refine lv_iload_n hx hb dX12_leave_1 rfl (lv_at hl 1 rfl) ?_
  refine lv_iload_n hx hb dX12_leave_2 rfl (lv_at hl 2 rfl) ?_
  refine lv_iconst (v := 1) hx hb dX12_leave_3 (by decide) ?_
  obtain ⟨qizh1, hf⟩ := gg_el hf
  obtain ⟨zt2, zh1, qzh1, hf⟩ := gc_el hf
  refine gx_ki (gx_runV (As := [.int za1, .int za2, .int 1]) (rest := []) X hw (c_X12_tells l E N za0 za1 za2 1 zh qzh1) kX12_tells mm_X12_334 qizh1 clX12 ⟨Nat.le_of_ble_eq_true rfl, Nat.le_of_ble_eq_true rfl⟩ rfl rfl rfl hl.1 (Nat.le_of_ble_eq_true rfl) rfl dX12_leave_4 ⟨Nat.le_of_ble_eq_true rfl, Nat.le_of_ble_eq_true rfl⟩) hw (fun H locs hw => ?_)
  exact gx_iret X hr hlk hw hf dX12_leave_7
abbrev rm_X12_over : Room := { frames := 6, cells := 0, slots := 0, locals := 140 }
set_option maxHeartbeats 4000000 in
set_option maxRecDepth 100000 in
theorem c_X12_over (l : Launch) (E : gE) (N : Nat) (za0 : Nat) (zh : PH) {h9 : PH} {r9 : Int32} (hf : f_X12_over N za0 zh = some (r9, h9)) : Met l yX12_over (gWS yX12_over cX12_over 1 (some .int)) rm_X12_over (gPc E [.ref (gB E + za0)] zh) (gQi E r9 h9) 0 0 (gA E) := by
  refine gx_met (by decide) ?_ rfl
  intro p e s m below meth c X hr hlk hin2 hw
  have hx := X.1.1
  have hb := X.1.2.1
  have hl := lv_entry [.ref (gB E + za0)] (n := 1) (Nat.le_of_ble_eq_true rfl)
  rw [lg_entry_eq]
  generalize (lg_sl [.ref (gB E + za0)] ++ List.replicate (1 - (lg_sl [.ref (gB E + za0)]).length) Slot.unset).toArray = ls at hl ⊢
  have hl : lv_has ls 1 [(0, .ref (gB E + za0))] := hl
  unfold f_X12_over at hf
  refine lv_aload_n hx hb dX12_over_0 rfl (lv_at hl 0 rfl) ?_
  refine lv_iconst (v := 0) hx hb dX12_over_1 (by decide) ?_
  obtain ⟨zh1, qzh1, hf⟩ := gb_el hf
  refine gx_putV X hw qzh1 clX12 (by decide) mf_X12_1 rfl rfl rfl dX12_over_2 (fun H locs hw => ?_)
  refine lv_aload_n hx hb dX12_over_5 rfl (lv_at hl 0 rfl) ?_
  obtain ⟨qizh2, hf⟩ := gg_el hf
  obtain ⟨zh2, qzh2, hf⟩ := gb_el hf
  refine gx_kv (gx_runV (As := []) (rest := []) X hw (c_X12_find l E N za0 zh1 qzh2) kX12_find mm_X12_300 qizh2 clX12 ⟨Nat.le_of_ble_eq_true rfl, Nat.le_of_ble_eq_true rfl⟩ rfl rfl rfl hl.1 (Nat.le_of_ble_eq_true rfl) rfl dX12_over_6 ⟨Nat.le_of_ble_eq_true rfl, Nat.le_of_ble_eq_true rfl⟩) hw (fun H locs hw => ?_)
  refine lv_aload_n hx hb dX12_over_9 rfl (lv_at hl 0 rfl) ?_
  obtain ⟨zt3, qzt3, hf⟩ := gb_el hf
  refine gx_getI X hw qzt3 clX12 (by decide) mf_X12_252 dX12_over_10 ?_
  exact gx_iret X hr hlk hw hf dX12_over_13
abbrev rm_X12_sum : Room := { frames := 6, cells := 0, slots := 0, locals := 140 }
set_option maxHeartbeats 4000000 in
set_option maxRecDepth 100000 in
theorem c_X12_sum (l : Launch) (E : gE) (N : Nat) (za0 : Nat) (za1 : Int32) (zh : PH) {h9 : PH} {r9 : Int32} (hf : f_X12_sum N za0 za1 zh = some (r9, h9)) : Met l yX12_sum (gWS yX12_sum cX12_sum 2 (some .int)) rm_X12_sum (gPc E [.ref (gB E + za0), .int za1] zh) (gQi E r9 h9) 0 0 (gA E) := by
  refine gx_met (by decide) ?_ rfl
  intro p e s m below meth c X hr hlk hin2 hw
  have hx := X.1.1
  have hb := X.1.2.1
  have hl := lv_entry [.ref (gB E + za0), .int za1] (n := 2) (Nat.le_of_ble_eq_true rfl)
  rw [lg_entry_eq]
  generalize (lg_sl [.ref (gB E + za0), .int za1] ++ List.replicate (2 - (lg_sl [.ref (gB E + za0), .int za1]).length) Slot.unset).toArray = ls at hl ⊢
  have hl : lv_has ls 2 [(0, .ref (gB E + za0)), (1, .int za1)] := hl
  unfold f_X12_sum at hf
  refine lv_aload_n hx hb dX12_sum_0 rfl (lv_at hl 0 rfl) ?_
  refine lv_iconst (v := 0) hx hb dX12_sum_1 (by decide) ?_
  obtain ⟨zh1, qzh1, hf⟩ := gb_el hf
  refine gx_putV X hw qzh1 clX12 (by decide) mf_X12_1 rfl rfl rfl dX12_sum_2 (fun H locs hw => ?_)
  refine lv_aload_n hx hb dX12_sum_5 rfl (lv_at hl 0 rfl) ?_
  obtain ⟨qizh2, hf⟩ := gg_el hf
  obtain ⟨zh2, qzh2, hf⟩ := gb_el hf
  refine gx_kv (gx_runV (As := []) (rest := []) X hw (c_X12_find l E N za0 zh1 qzh2) kX12_find mm_X12_300 qizh2 clX12 ⟨Nat.le_of_ble_eq_true rfl, Nat.le_of_ble_eq_true rfl⟩ rfl rfl rfl hl.1 (Nat.le_of_ble_eq_true rfl) rfl dX12_sum_6 ⟨Nat.le_of_ble_eq_true rfl, Nat.le_of_ble_eq_true rfl⟩) hw (fun H locs hw => ?_)
  refine lv_iload_n hx hb dX12_sum_9 rfl (lv_at hl 1 rfl) ?_
  by_cases qc3 : (za1 : Int32) = 0
  · have hf := gif_t hf qc3
    refine lv_tableIn (off := 30) (tgt := 40) hx hb dX12_sum_10 (by rw [qc3]; decide) (by rw [qc3]; decide) (by rw [qc3]; rfl) (by decide) ?_
    refine lv_aload_n hx hb dX12_sum_40 rfl (lv_at hl 0 rfl) ?_
    obtain ⟨zt4, qzt4, hf⟩ := gb_el hf
    refine gx_getI X hw qzt4 clX12 (by decide) mf_X12_240 dX12_sum_41 ?_
    refine W.eq (g2 := F0 m 44 ls [.int zt4]) rfl ?_
    exact gx_iret X hr hlk hw hf dX12_sum_44
  have hf := gif_f hf qc3
  by_cases qc5 : (za1 : Int32) = 1
  · have hf := gif_t hf qc5
    refine lv_tableIn (off := 35) (tgt := 45) hx hb dX12_sum_10 (by rw [qc5]; decide) (by rw [qc5]; decide) (by rw [qc5]; rfl) (by decide) ?_
    refine lv_aload_n hx hb dX12_sum_45 rfl (lv_at hl 0 rfl) ?_
    obtain ⟨zt6, qzt6, hf⟩ := gb_el hf
    refine gx_getI X hw qzt6 clX12 (by decide) mf_X12_243 dX12_sum_46 ?_
    refine W.eq (g2 := F0 m 49 ls [.int zt6]) rfl ?_
    exact gx_iret X hr hlk hw hf dX12_sum_49
  have hf := gif_f hf qc5
  by_cases qc7 : (za1 : Int32) = 2
  · have hf := gif_t hf qc7
    refine lv_tableIn (off := 40) (tgt := 50) hx hb dX12_sum_10 (by rw [qc7]; decide) (by rw [qc7]; decide) (by rw [qc7]; rfl) (by decide) ?_
    refine lv_aload_n hx hb dX12_sum_50 rfl (lv_at hl 0 rfl) ?_
    obtain ⟨zt8, qzt8, hf⟩ := gb_el hf
    refine gx_getI X hw qzt8 clX12 (by decide) mf_X12_246 dX12_sum_51 ?_
    refine W.eq (g2 := F0 m 54 ls [.int zt8]) rfl ?_
    exact gx_iret X hr hlk hw hf dX12_sum_54
  have hf := gif_f hf qc7
  by_cases qc9 : (za1 : Int32) = 3
  · have hf := gif_t hf qc9
    refine lv_tableIn (off := 45) (tgt := 55) hx hb dX12_sum_10 (by rw [qc9]; decide) (by rw [qc9]; decide) (by rw [qc9]; rfl) (by decide) ?_
    refine lv_aload_n hx hb dX12_sum_55 rfl (lv_at hl 0 rfl) ?_
    obtain ⟨zt10, qzt10, hf⟩ := gb_el hf
    refine gx_getI X hw qzt10 clX12 (by decide) mf_X12_249 dX12_sum_56 ?_
    refine W.eq (g2 := F0 m 59 ls [.int zt10]) rfl ?_
    exact gx_iret X hr hlk hw hf dX12_sum_59
  have hf := gif_f hf qc9
  have nqc3 := lv_neT (a := 0) qc3 (by decide)
  have nqc5 := lv_neT (a := 1) qc5 (by decide)
  have nqc7 := lv_neT (a := 2) qc7 (by decide)
  have nqc9 := lv_neT (a := 3) qc9 (by decide)
  refine lv_tableOut (tgt := 60) hx hb dX12_sum_10 (by omega) (by decide) ?_
  refine lv_iconst (v := (-1)) hx hb dX12_sum_60 (by decide) ?_
  exact gx_iret X hr hlk hw hf dX12_sum_61
abbrev rm_X12_placeAt : Room := { frames := 0, cells := 0, slots := 0, locals := 0 }
set_option maxHeartbeats 4000000 in
set_option maxRecDepth 100000 in
theorem c_X12_placeAt (l : Launch) (E : gE) (N : Nat) (za0 : Nat) (za1 : Int32) (za2 : Int32) (zh : PH) {h9 : PH} {r9 : Int32} (hf : f_X12_placeAt N za0 za1 za2 zh = some (r9, h9)) : Met l yX12_placeAt (gWS yX12_placeAt cX12_placeAt 6 (some .int)) rm_X12_placeAt (gPc E [.ref (gB E + za0), .int za1, .int za2] zh) (gQi E r9 h9) 0 0 (gA E) := by
  refine gx_met (by decide) ?_ rfl
  intro p e s m below meth c X hr hlk hin2 hw
  have hx := X.1.1
  have hb := X.1.2.1
  have hl := lv_entry [.ref (gB E + za0), .int za1, .int za2] (n := 6) (Nat.le_of_ble_eq_true rfl)
  rw [lg_entry_eq]
  generalize (lg_sl [.ref (gB E + za0), .int za1, .int za2] ++ List.replicate (6 - (lg_sl [.ref (gB E + za0), .int za1, .int za2]).length) Slot.unset).toArray = ls at hl ⊢
  have hl : lv_has ls 6 [(0, .ref (gB E + za0)), (1, .int za1), (2, .int za2)] := hl
  have L_5 : ∀ (zn5 : Nat) (zv0 : Nat) (zv1 : Int32) (zv2 : Int32) (zv3 : Int32) (zv4 : Int32) (zh : PH) (H : Heap) (locs : List Loc) (ls : Array Slot), gi (fun zk zs => f_X12_placeAt_5 N zk zs.1 zs.2.1 zs.2.2.1 zs.2.2.2.1 zs.2.2.2.2.1 zs.2.2.2.2.2) zn5 (zv0, zv1, zv2, zv3, zv4, zh) = some (r9, h9) → gw E s zh H locs → lv_has ls 6 [(0, .ref (gB E + zv0)), (1, .int zv1), (2, .int zv2), (3, .int zv3), (4, .int zv4)] → W p l e rm_X12_placeAt s m [.ref (gB E + za0), .int za1, .int za2].toArray below meth c H locs 0 0 (MQ below (gQi E r9 h9) [.ref (gB E + za0), .int za1, .int za2].toArray s 0 0 (gA E)) (F0 m 5 ls []) := by
    intro zn5
    induction zn5 with
    | zero =>
      intro zv0 zv1 zv2 zv3 zv4 zh H locs ls hf
      cases hf
    | succ zn5 ih_5 =>
      have J_72 : ∀ (zv0 : Nat) (zv1 : Int32) (zv2 : Int32) (zv3 : Int32) (zv4 : Int32) (zh : PH) (H : Heap) (locs : List Loc) (ls : Array Slot), f_X12_placeAt_72 N (gi (fun zk zs => f_X12_placeAt_5 N zk zs.1 zs.2.1 zs.2.2.1 zs.2.2.2.1 zs.2.2.2.2.1 zs.2.2.2.2.2) zn5) zv0 zv1 zv2 zv3 zv4 zh = some (r9, h9) → gw E s zh H locs → lv_has ls 6 [(0, .ref (gB E + zv0)), (1, .int zv1), (2, .int zv2), (3, .int zv3), (4, .int zv4)] → W p l e rm_X12_placeAt s m [.ref (gB E + za0), .int za1, .int za2].toArray below meth c H locs 0 0 (MQ below (gQi E r9 h9) [.ref (gB E + za0), .int za1, .int za2].toArray s 0 0 (gA E)) (F0 m 72 ls []) := by
        intro zv0 zv1 zv2 zv3 zv4 zh H locs ls hf hw hl
        unfold f_X12_placeAt_72 at hf
        obtain ⟨zx1, ezx1⟩ : ∃ y : Int32, y = zv4 + 1 := ⟨_, rfl⟩
        have hf := gl_el hf ezx1
        refine lv_iinc (v := zx1) (lv' := [(4, .int zx1), (0, .ref (gB E + zv0)), (1, .int zv1), (2, .int zv2), (3, .int zv3)]) hx hb dX12_placeAt_72 hl (k := 4) rfl (by rw [ezx1]; rfl) (by decide) rfl (fun ls hl => ?_)
        refine lv_goto (tgt := 5) hx hb dX12_placeAt_75 (by decide) ?_
        exact ih_5 zv0 zv1 zv2 zv3 zx1 _ _ _ ls hf hw (lv_sub hl [1, 2, 3, 4, 0] rfl)
      have J_71 : ∀ (zv0 : Nat) (zv1 : Int32) (zv2 : Int32) (zv4 : Int32) (zs0 : Int32) (zh : PH) (H : Heap) (locs : List Loc) (ls : Array Slot), f_X12_placeAt_71 N (gi (fun zk zs => f_X12_placeAt_5 N zk zs.1 zs.2.1 zs.2.2.1 zs.2.2.2.1 zs.2.2.2.2.1 zs.2.2.2.2.2) zn5) zv0 zv1 zv2 zv4 zs0 zh = some (r9, h9) → gw E s zh H locs → lv_has ls 6 [(0, .ref (gB E + zv0)), (1, .int zv1), (2, .int zv2), (4, .int zv4)] → W p l e rm_X12_placeAt s m [.ref (gB E + za0), .int za1, .int za2].toArray below meth c H locs 0 0 (MQ below (gQi E r9 h9) [.ref (gB E + za0), .int za1, .int za2].toArray s 0 0 (gA E)) (F0 m 71 ls [.int zs0]) := by
        intro zv0 zv1 zv2 zv4 zs0 zh H locs ls hf hw hl
        unfold f_X12_placeAt_71 at hf
        refine lv_istore_n (lv' := [(3, .int zs0), (0, .ref (gB E + zv0)), (1, .int zv1), (2, .int zv2), (4, .int zv4)]) hx hb dX12_placeAt_71 rfl hl (by decide) rfl (fun ls hl => ?_)
        exact J_72 zv0 zv1 zv2 zs0 zv4 _ _ _ ls hf hw (lv_sub hl [1, 2, 3, 0, 4] rfl)
      intro zv0 zv1 zv2 zv3 zv4 zh H locs ls hf hw hl
      have hf := gi_s hf
      dsimp only at hf
      unfold f_X12_placeAt_5 at hf
      refine lv_iload hx hb dX12_placeAt_5 (lv_at hl 4 rfl) ?_
      refine lv_aload_n hx hb dX12_placeAt_7 rfl (lv_at hl 0 rfl) ?_
      obtain ⟨zt1, qzt1, hf⟩ := gb_el hf
      refine gx_getI X hw qzt1 clX12 (by decide) mf_X12_255 dX12_placeAt_8 ?_
      refine lv_icmp_ge (tgt := 78) hx hb dX12_placeAt_11 (by decide) (fun qc2 => ?_) (fun qc2 => ?_)
      · have hf := gif_t hf qc2
        refine lv_iload_n hx hb dX12_placeAt_78 rfl (lv_at hl 3 rfl) ?_
        exact gx_iret X hr hlk hw hf dX12_placeAt_79
      · have hf := gif_f hf qc2
        refine lv_iconst (v := 5) hx hb dX12_placeAt_14 (by decide) ?_
        refine lv_iload hx hb dX12_placeAt_15 (lv_at hl 4 rfl) ?_
        refine lv_imul hx hb dX12_placeAt_17 ?_
        refine lv_topi (fun zx3 ezx3 => ?_)
        have hf := gl_el hf ezx3
        refine lv_istore (lv' := [(5, .int zx3), (0, .ref (gB E + zv0)), (1, .int zv1), (2, .int zv2), (3, .int zv3), (4, .int zv4)]) hx hb dX12_placeAt_18 hl (by decide) rfl (fun ls hl => ?_)
        refine lv_aload_n hx hb dX12_placeAt_20 rfl (lv_at hl 1 rfl) ?_
        refine W.eq (g2 := F0 m 21 ls [.ref (gB E + zv0)]) rfl ?_
        obtain ⟨zt4, qzt4, hf⟩ := gb_el hf
        refine gx_getR X hw qzt4 clX12 (by decide) mf_X12_99 dX12_placeAt_21 ?_
        refine lv_iload hx hb dX12_placeAt_24 (lv_at hl 0 rfl) ?_
        obtain ⟨zt5, qzt5, hf⟩ := gb_el hf
        refine gx_iald X hw qzt5 dX12_placeAt_26 ?_
        refine lv_iload_n hx hb dX12_placeAt_27 rfl (lv_at hl 2 rfl) ?_
        refine lv_icmp_ne (tgt := 72) hx hb dX12_placeAt_28 (by decide) (fun qc6 => ?_) (fun qc6 => ?_)
        · have hf := gif_f hf qc6
          exact J_72 zv0 zv1 zv2 zv3 zv4 _ _ _ ls hf hw (lv_sub hl [1, 2, 3, 4, 5] rfl)
        · have hf := gif_t hf qc6
          refine lv_aload_n hx hb dX12_placeAt_31 rfl (lv_at hl 1 rfl) ?_
          obtain ⟨zt7, qzt7, hf⟩ := gb_el hf
          refine gx_getR X hw qzt7 clX12 (by decide) mf_X12_99 dX12_placeAt_32 ?_
          refine lv_iload hx hb dX12_placeAt_35 (lv_at hl 0 rfl) ?_
          refine lv_iconst (v := 3) hx hb dX12_placeAt_37 (by decide) ?_
          refine lv_iadd hx hb dX12_placeAt_38 ?_
          refine W.eq (g2 := F0 m 39 ls [.int (zx3 + 3), .ref (gB E + zt7)]) rfl ?_
          obtain ⟨zt8, qzt8, hf⟩ := gb_el hf
          refine gx_iald X hw qzt8 dX12_placeAt_39 ?_
          refine lv_iload_n hx hb dX12_placeAt_40 rfl (lv_at hl 3 rfl) ?_
          refine lv_icmp_gt (tgt := 72) hx hb dX12_placeAt_41 (by decide) (fun qc9 => ?_) (fun qc9 => ?_)
          · have hf := gif_t hf qc9
            exact J_72 zv0 zv1 zv2 zv3 zv4 _ _ _ ls hf hw (lv_sub hl [1, 2, 3, 4, 5] rfl)
          · have hf := gif_f hf qc9
            refine lv_iload_n hx hb dX12_placeAt_44 rfl (lv_at hl 3 rfl) ?_
            refine lv_aload_n hx hb dX12_placeAt_45 rfl (lv_at hl 1 rfl) ?_
            obtain ⟨zt10, qzt10, hf⟩ := gb_el hf
            refine gx_getR X hw qzt10 clX12 (by decide) mf_X12_99 dX12_placeAt_46 ?_
            refine lv_iload hx hb dX12_placeAt_49 (lv_at hl 0 rfl) ?_
            refine lv_iconst (v := 4) hx hb dX12_placeAt_51 (by decide) ?_
            refine lv_iadd hx hb dX12_placeAt_52 ?_
            obtain ⟨zt11, qzt11, hf⟩ := gb_el hf
            refine gx_iald X hw qzt11 dX12_placeAt_53 ?_
            refine W.eq (g2 := F0 m 54 ls [.int zt11, .int zv2]) rfl ?_
            refine lv_icmp_ge (tgt := 62) hx hb dX12_placeAt_54 (by decide) (fun qc12 => ?_) (fun qc12 => ?_)
            · have hf := gif_t hf qc12
              refine lv_aload_n hx hb dX12_placeAt_62 rfl (lv_at hl 1 rfl) ?_
              obtain ⟨zt13, qzt13, hf⟩ := gb_el hf
              refine gx_getR X hw qzt13 clX12 (by decide) mf_X12_99 dX12_placeAt_63 ?_
              refine lv_iload hx hb dX12_placeAt_66 (lv_at hl 0 rfl) ?_
              refine lv_iconst (v := 2) hx hb dX12_placeAt_68 (by decide) ?_
              refine lv_iadd hx hb dX12_placeAt_69 ?_
              obtain ⟨zt14, qzt14, hf⟩ := gb_el hf
              refine gx_iald X hw qzt14 dX12_placeAt_70 ?_
              exact J_71 zv0 zv1 zv2 zv4 zt14 _ _ _ ls hf hw (lv_sub hl [1, 2, 3, 5] rfl)
            · have hf := gif_f hf qc12
              refine lv_bipush (v := (-2)) hx hb dX12_placeAt_57 (by decide) ?_
              refine lv_goto (tgt := 71) hx hb dX12_placeAt_59 (by decide) ?_
              exact J_71 zv0 zv1 zv2 zv4 (-2) _ _ _ ls hf hw (lv_sub hl [1, 2, 3, 5] rfl)
  unfold f_X12_placeAt at hf
  refine lv_iconst (v := (-1)) hx hb dX12_placeAt_0 (by decide) ?_
  refine lv_istore_n (lv' := [(3, .int (-1)), (0, .ref (gB E + za0)), (1, .int za1), (2, .int za2)]) hx hb dX12_placeAt_1 rfl hl (by decide) rfl (fun ls hl => ?_)
  refine lv_iconst (v := 0) hx hb dX12_placeAt_2 (by decide) ?_
  refine lv_istore (lv' := [(4, .int 0), (3, .int (-1)), (0, .ref (gB E + za0)), (1, .int za1), (2, .int za2)]) hx hb dX12_placeAt_3 hl (by decide) rfl (fun ls hl => ?_)
  exact L_5 N za0 za1 za2 (-1) 0 _ _ _ ls hf hw (lv_sub hl [2, 3, 4, 1, 0] rfl)
