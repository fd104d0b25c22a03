abbrev rm_X12_readRoom : Room := { frames := 2, cells := 0, slots := 0, locals := 43 }
set_option maxHeartbeats 4000000 in
set_option maxRecDepth 100000 in
theorem c_X12_readRoom (l : Launch) (E : gE) (N : Nat) (za0 : Nat) (zh : PH) {h9 : PH} (hf : f_X12_readRoom N za0 zh = some h9) : Met l yX12_readRoom (gWS yX12_readRoom cX12_readRoom 2 none) rm_X12_readRoom (gPc E [.ref (gB E + za0)] zh) (gQv E h9) 0 0 (gA E) := by
  refine gx_met (by decide) ?_ rfl
  intro p e s m below meth c X hr hlk hin2 hw
  have hx := X.1.1
  have hb := X.1.2.1
  have hl := lv_entry [.ref (gB E + za0)] (n := 2) (Nat.le_of_ble_eq_true rfl)
  rw [lg_entry_eq]
  generalize (lg_sl [.ref (gB E + za0)] ++ List.replicate (2 - (lg_sl [.ref (gB E + za0)]).length) Slot.unset).toArray = ls at hl ⊢
  have hl : lv_has ls 2 [(0, .ref (gB E + za0))] := hl
  unfold f_X12_readRoom at hf
  refine lv_aload_n hx hb dX12_readRoom_0 rfl (lv_at hl 0 rfl) ?_
  obtain ⟨zt1, qzt1, hf⟩ := gb_el hf
  refine gx_getR X hw qzt1 clX12 (by decide) mf_X12_65 dX12_readRoom_1 ?_
  refine lv_bipush (v := 60) hx hb dX12_readRoom_4 (by decide) ?_
  obtain ⟨zt2, qzt2, hf⟩ := gb_el hf
  refine gx_iald X hw qzt2 dX12_readRoom_6 ?_
  refine lv_istore_n (lv' := [(1, .int zt2), (0, .ref (gB E + za0))]) hx hb dX12_readRoom_7 rfl hl (by decide) rfl (fun ls hl => ?_)
  refine lv_iload_n hx hb dX12_readRoom_8 rfl (lv_at hl 0 rfl) ?_
  refine lv_bipush (v := 10) hx hb dX12_readRoom_9 (by decide) ?_
  refine lv_icmp_ne (tgt := 20) hx hb dX12_readRoom_11 (by decide) (fun qc3 => ?_) (fun qc3 => ?_)
  · have hf := gif_f hf qc3
    refine lv_aload_n hx hb dX12_readRoom_20 rfl (lv_at hl 1 rfl) ?_
    refine W.eq (g2 := F0 m 21 ls [.ref (gB E + za0)]) rfl ?_
    refine lv_dup hx hb dX12_readRoom_21 rfl ?_
    obtain ⟨zt4, qzt4, hf⟩ := gb_el hf
    refine gx_getI X hw qzt4 clX12 (by decide) mf_X12_150 dX12_readRoom_22 ?_
    refine lv_iconst (v := 1) hx hb dX12_readRoom_25 (by decide) ?_
    refine lv_iadd hx hb dX12_readRoom_26 ?_
    obtain ⟨zh5, qzh5, hf⟩ := gb_el hf
    refine gx_putV X hw qzh5 clX12 (by decide) mf_X12_150 rfl rfl rfl dX12_readRoom_27 (fun H locs hw => ?_)
    refine lv_aload_n hx hb dX12_readRoom_30 rfl (lv_at hl 1 rfl) ?_
    obtain ⟨zt6, qzt6, hf⟩ := gb_el hf
    refine gx_getR X hw qzt6 clX12 (by decide) mf_X12_65 dX12_readRoom_31 ?_
    refine lv_bipush (v := 63) hx hb dX12_readRoom_34 (by decide) ?_
    refine lv_iconst (v := 2) hx hb dX12_readRoom_36 (by decide) ?_
    refine lv_iload_n hx hb dX12_readRoom_37 rfl (lv_at hl 0 rfl) ?_
    refine W.eq (g2 := F0 m 38 ls [.int zt2, .int 2, .int 63, .ref (gB E + zt6)]) rfl ?_
    refine lv_imul hx hb dX12_readRoom_38 ?_
    refine lv_iadd hx hb dX12_readRoom_39 ?_
    refine lv_aload_n hx hb dX12_readRoom_40 rfl (lv_at hl 1 rfl) ?_
    refine lv_iconst (v := 0) hx hb dX12_readRoom_41 (by decide) ?_
    refine lv_bipush (v := 9) hx hb dX12_readRoom_42 (by decide) ?_
    obtain ⟨qizh7, hf⟩ := gg_el hf
    obtain ⟨zt8, zh7, qzh7, hf⟩ := gc_el hf
    refine gx_ki (gx_runV (As := [.int 0, .int 9]) (rest := [.int (63 + (2 * zt2)), .ref (gB E + zt6)]) X hw (c_X12_takeNumber l E N za0 0 9 zh5 qzh7) kX12_takeNumber mm_X12_194 qizh7 clX12 ⟨Nat.le_of_ble_eq_true rfl, Nat.le_of_ble_eq_true rfl⟩ rfl rfl rfl hl.1 (Nat.le_of_ble_eq_true rfl) rfl dX12_readRoom_44 ⟨Nat.le_of_ble_eq_true rfl, Nat.le_of_ble_eq_true rfl⟩) hw (fun H locs hw => ?_)
    obtain ⟨zh9, qzh9, hf⟩ := gb_el hf
    refine gx_iast X hw qzh9 dX12_readRoom_47 (fun H locs hw => ?_)
    refine lv_aload_n hx hb dX12_readRoom_48 rfl (lv_at hl 1 rfl) ?_
    obtain ⟨zt10, qzt10, hf⟩ := gb_el hf
    refine gx_getR X hw qzt10 clX12 (by decide) mf_X12_65 dX12_readRoom_49 ?_
    refine lv_bipush (v := 63) hx hb dX12_readRoom_52 (by decide) ?_
    refine W.eq (g2 := F0 m 54 ls [.int 63, .ref (gB E + zt10)]) rfl ?_
    refine lv_iconst (v := 2) hx hb dX12_readRoom_54 (by decide) ?_
    refine lv_iload_n hx hb dX12_readRoom_55 rfl (lv_at hl 0 rfl) ?_
    refine lv_imul hx hb dX12_readRoom_56 ?_
    refine lv_iadd hx hb dX12_readRoom_57 ?_
    refine lv_iconst (v := 1) hx hb dX12_readRoom_58 (by decide) ?_
    refine lv_iadd hx hb dX12_readRoom_59 ?_
    refine lv_aload_n hx hb dX12_readRoom_60 rfl (lv_at hl 1 rfl) ?_
    refine lv_iconst (v := 0) hx hb dX12_readRoom_61 (by decide) ?_
    refine lv_iconst (v := 1) hx hb dX12_readRoom_62 (by decide) ?_
    obtain ⟨qizh11, hf⟩ := gg_el hf
    obtain ⟨zt12, zh11, qzh11, hf⟩ := gc_el hf
    refine gx_ki (gx_runV (As := [.int 0, .int 1]) (rest := [.int ((63 + (2 * zt2)) + 1), .ref (gB E + zt10)]) X hw (c_X12_takeNumber l E N za0 0 1 zh9 qzh11) kX12_takeNumber mm_X12_194 qizh11 clX12 ⟨Nat.le_of_ble_eq_true rfl, Nat.le_of_ble_eq_true rfl⟩ rfl rfl rfl hl.1 (Nat.le_of_ble_eq_true rfl) rfl dX12_readRoom_63 ⟨Nat.le_of_ble_eq_true rfl, Nat.le_of_ble_eq_true rfl⟩) hw (fun H locs hw => ?_)
    refine W.eq (g2 := F0 m 66 ls [.int zt12, .int ((63 + (2 * zt2)) + 1), .ref (gB E + zt10)]) rfl ?_
    obtain ⟨zh13, qzh13, hf⟩ := gb_el hf
    refine gx_iast X hw qzh13 dX12_readRoom_66 (fun H locs hw => ?_)
    refine lv_aload_n hx hb dX12_readRoom_67 rfl (lv_at hl 1 rfl) ?_
    obtain ⟨zt14, qzt14, hf⟩ := gb_el hf
    refine gx_getR X hw qzt14 clX12 (by decide) mf_X12_65 dX12_readRoom_68 ?_
    refine lv_bipush (v := 60) hx hb dX12_readRoom_71 (by decide) ?_
    refine lv_dup2_11 hx hb dX12_readRoom_73 rfl rfl ?_
    obtain ⟨zt15, qzt15, hf⟩ := gb_el hf
    refine gx_iald X hw qzt15 dX12_readRoom_74 ?_
    refine lv_iconst (v := 1) hx hb dX12_readRoom_75 (by decide) ?_
    refine lv_iadd hx hb dX12_readRoom_76 ?_
    obtain ⟨zh16, qzh16, hf⟩ := gb_el hf
    refine gx_iast X hw qzh16 dX12_readRoom_77 (fun H locs hw => ?_)
    exact gx_vret X hr hlk hw hf dX12_readRoom_78
  · have hf := gif_t hf qc3
    refine lv_aload_n hx hb dX12_readRoom_14 rfl (lv_at hl 1 rfl) ?_
    refine W.eq (g2 := F0 m 15 ls [.ref (gB E + za0)]) rfl ?_
    refine lv_iconst (v := 5) hx hb dX12_readRoom_15 (by decide) ?_
    obtain ⟨qizh17, hf⟩ := gg_el hf
    obtain ⟨zh17, qzh17, hf⟩ := gb_el hf
    refine gx_kv (gx_runV (As := [.int 5]) (rest := []) X hw (c_X12_wrong l E N za0 5 zh qzh17) kX12_wrong mm_X12_159 qizh17 clX12 ⟨Nat.le_of_ble_eq_true rfl, Nat.le_of_ble_eq_true rfl⟩ rfl rfl rfl hl.1 (Nat.le_of_ble_eq_true rfl) rfl dX12_readRoom_16 ⟨Nat.le_of_ble_eq_true rfl, Nat.le_of_ble_eq_true rfl⟩) hw (fun H locs hw => ?_)
    exact gx_vret X hr hlk hw hf dX12_readRoom_19
abbrev rm_X12_emit : Room := { frames := 0, cells := 0, slots := 0, locals := 0 }
set_option maxHeartbeats 4000000 in
set_option maxRecDepth 100000 in
theorem c_X12_emit (l : Launch) (E : gE) (N : Nat) (za0 : Nat) (za1 : Int32) (za2 : Int32) (zh : PH) {h9 : PH} (hf : f_X12_emit N za0 za1 za2 zh = some h9) : Met l yX12_emit (gWS yX12_emit cX12_emit 3 none) rm_X12_emit (gPc E [.ref (gB E + za0), .int za1, .int za2] zh) (gQv E h9) 0 0 (gA E) := by
  refine gx_met (by decide) ?_ rfl
  intro p e s m below meth c X hr hlk hin2 hw
  have hx := X.1.1
  have hb := X.1.2.1
  have hl := lv_entry [.ref (gB E + za0), .int za1, .int za2] (n := 3) (Nat.le_of_ble_eq_true rfl)
  rw [lg_entry_eq]
  generalize (lg_sl [.ref (gB E + za0), .int za1, .int za2] ++ List.replicate (3 - (lg_sl [.ref (gB E + za0), .int za1, .int za2]).length) Slot.unset).toArray = ls at hl ⊢
  have hl : lv_has ls 3 [(0, .ref (gB E + za0)), (1, .int za1), (2, .int za2)] := hl
  unfold f_X12_emit at hf
  refine lv_aload_n hx hb dX12_emit_0 rfl (lv_at hl 0 rfl) ?_
  obtain ⟨zt1, qzt1, hf⟩ := gb_el hf
  refine gx_getR X hw qzt1 clX12 (by decide) mf_X12_68 dX12_emit_1 ?_
  refine lv_sipush (v := 1100) hx hb dX12_emit_4 (by decide) ?_
  refine lv_aload_n hx hb dX12_emit_7 rfl (lv_at hl 0 rfl) ?_
  obtain ⟨zt2, qzt2, hf⟩ := gb_el hf
  refine gx_getI X hw qzt2 clX12 (by decide) mf_X12_172 dX12_emit_8 ?_
  refine lv_iadd hx hb dX12_emit_11 ?_
  refine lv_iload_n hx hb dX12_emit_12 rfl (lv_at hl 1 rfl) ?_
  obtain ⟨zh3, qzh3, hf⟩ := gb_el hf
  refine gx_iast X hw qzh3 dX12_emit_13 (fun H locs hw => ?_)
  refine lv_aload_n hx hb dX12_emit_14 rfl (lv_at hl 0 rfl) ?_
  refine W.eq (g2 := F0 m 15 ls [.ref (gB E + za0)]) rfl ?_
  obtain ⟨zt4, qzt4, hf⟩ := gb_el hf
  refine gx_getR X hw qzt4 clX12 (by decide) mf_X12_71 dX12_emit_15 ?_
  refine lv_sipush (v := 1100) hx hb dX12_emit_18 (by decide) ?_
  refine lv_aload_n hx hb dX12_emit_21 rfl (lv_at hl 0 rfl) ?_
  obtain ⟨zt5, qzt5, hf⟩ := gb_el hf
  refine gx_getI X hw qzt5 clX12 (by decide) mf_X12_172 dX12_emit_22 ?_
  refine lv_iadd hx hb dX12_emit_25 ?_
  refine lv_iload_n hx hb dX12_emit_26 rfl (lv_at hl 2 rfl) ?_
  obtain ⟨zh6, qzh6, hf⟩ := gb_el hf
  refine gx_iast X hw qzh6 dX12_emit_27 (fun H locs hw => ?_)
  refine lv_aload_n hx hb dX12_emit_28 rfl (lv_at hl 0 rfl) ?_
  refine lv_dup hx hb dX12_emit_29 rfl ?_
  obtain ⟨zt7, qzt7, hf⟩ := gb_el hf
  refine gx_getI X hw qzt7 clX12 (by decide) mf_X12_172 dX12_emit_30 ?_
  refine W.eq (g2 := F0 m 33 ls [.int zt7, .ref (gB E + za0)]) rfl ?_
  refine lv_iconst (v := 1) hx hb dX12_emit_33 (by decide) ?_
  refine lv_iadd hx hb dX12_emit_34 ?_
  obtain ⟨zh8, qzh8, hf⟩ := gb_el hf
  refine gx_putV X hw qzh8 clX12 (by decide) mf_X12_172 rfl rfl rfl dX12_emit_35 (fun H locs hw => ?_)
  exact gx_vret X hr hlk hw hf dX12_emit_38
abbrev rm_gP (zd : Nat) : Room := { frames := zd + 2, cells := 0, slots := 0, locals := 24 * zd + 43 }
set_option maxHeartbeats 4000000 in
set_option maxRecDepth 100000 in
theorem cg_gP (l : Launch) (E : gE) (N : Nat) : ∀ zd : Nat, (∀ (za0 : Nat) (za1 : Int32) (zh h9 : PH), (g_gP N zd).1 za0 za1 zh = some h9 → Met l yX12_all (gWS yX12_all cX12_all 3 none) (rm_gP zd) (gPc E [.ref (gB E + za0), .int za1] zh) (gQv E h9) 0 0 (gA E)) ∧ (∀ (za0 : Nat) (za1 : Int32) (zh h9 : PH), (g_gP N zd).2.1 za0 za1 zh = some h9 → Met l yX12_test (gWS yX12_test cX12_test 3 none) (rm_gP zd) (gPc E [.ref (gB E + za0), .int za1] zh) (gQv E h9) 0 0 (gA E)) ∧ (∀ (za0 : Nat) (za1 : Int32) (zh h9 : PH), (g_gP N zd).2.2.1 za0 za1 zh = some h9 → Met l yX12_sums (gWS yX12_sums cX12_sums 3 none) (rm_gP zd) (gPc E [.ref (gB E + za0), .int za1] zh) (gQv E h9) 0 0 (gA E)) ∧ (∀ (za0 : Nat) (za1 : Int32) (zh h9 : PH), (g_gP N zd).2.2.2.1 za0 za1 zh = some h9 → Met l yX12_products (gWS yX12_products cX12_products 2 none) (rm_gP zd) (gPc E [.ref (gB E + za0), .int za1] zh) (gQv E h9) 0 0 (gA E)) ∧ (∀ (za0 : Nat) (za1 : Int32) (zh h9 : PH), (g_gP N zd).2.2.2.2 za0 za1 zh = some h9 → Met l yX12_takePart (gWS yX12_takePart cX12_takePart 5 none) (rm_gP zd) (gPc E [.ref (gB E + za0), .int za1] zh) (gQv E h9) 0 0 (gA E)) := by
  intro zd
  induction zd with
  | zero => exact ⟨(fun _ _ _ _ hf => by cases hf), (fun _ _ _ _ hf => by cases hf), (fun _ _ _ _ hf => by cases hf), (fun _ _ _ _ hf => by cases hf), (fun _ _ _ _ hf => by cases hf)⟩
  | succ zd ih =>
    refine ⟨?_, ?_, ?_, ?_, ?_⟩
    · intro za0 za1 zh h9 hf
      have hf : b_X12_all N (g_gP N zd).1 (g_gP N zd).2.1 (g_gP N zd).2.2.1 (g_gP N zd).2.2.2.1 (g_gP N zd).2.2.2.2 za0 za1 zh = some h9 := hf
      refine gx_met (by decide) ?_ rfl
      intro p e s m below meth c X hr hlk hin2 hw
      have hx := X.1.1
      have hb := X.1.2.1
      have hl := lv_entry [.ref (gB E + za0), .int za1] (n := 3) (Nat.le_of_ble_eq_true rfl)
      rw [lg_entry_eq]
      generalize (lg_sl [.ref (gB E + za0), .int za1] ++ List.replicate (3 - (lg_sl [.ref (gB E + za0), .int za1]).length) Slot.unset).toArray = ls at hl ⊢
      have hl : lv_has ls 3 [(0, .ref (gB E + za0)), (1, .int za1)] := hl
      have L_5 : ∀ (zn5 : Nat) (zv0 : Nat) (zv1 : Int32) (zh : PH) (H : Heap) (locs : List Loc) (ls : Array Slot), gi (fun zk zs => f_X12_all_5 N (g_gP N zd).1 (g_gP N zd).2.1 (g_gP N zd).2.2.1 (g_gP N zd).2.2.2.1 (g_gP N zd).2.2.2.2 zk zs.1 zs.2.1 zs.2.2) zn5 (zv0, zv1, zh) = some h9 → gw E s zh H locs → lv_has ls 3 [(0, .ref (gB E + zv0)), (1, .int zv1)] → W p l e (rm_gP (zd + 1)) s m [.ref (gB E + za0), .int za1].toArray below meth c H locs 0 0 (MQ below (gQv E h9) [.ref (gB E + za0), .int za1].toArray s 0 0 (gA E)) (F0 m 5 ls []) := by
        intro zn5
        induction zn5 with
        | zero =>
          intro zv0 zv1 zh H locs ls hf
          cases hf
        | succ zn5 ih_5 =>
          have J_57 : ∀ (zv0 : Nat) (zv1 : Int32) (zs0 : Int32) (zs1 : Nat) (zh : PH) (H : Heap) (locs : List Loc) (ls : Array Slot), f_X12_all_57 N (g_gP N zd).1 (g_gP N zd).2.1 (g_gP N zd).2.2.1 (g_gP N zd).2.2.2.1 (g_gP N zd).2.2.2.2 (gi (fun zk zs => f_X12_all_5 N (g_gP N zd).1 (g_gP N zd).2.1 (g_gP N zd).2.2.1 (g_gP N zd).2.2.2.1 (g_gP N zd).2.2.2.2 zk zs.1 zs.2.1 zs.2.2) zn5) zv0 zv1 zs0 zs1 zh = some h9 → gw E s zh H locs → lv_has ls 3 [(0, .ref (gB E + zv0)), (1, .int zv1)] → W p l e (rm_gP (zd + 1)) s m [.ref (gB E + za0), .int za1].toArray below meth c H locs 0 0 (MQ below (gQv E h9) [.ref (gB E + za0), .int za1].toArray s 0 0 (gA E)) (F0 m 57 ls [.int zs0, .ref (gB E + zs1)]) := by
            intro zv0 zv1 zs0 zs1 zh H locs ls hf hw hl
            unfold f_X12_all_57 at hf
            refine lv_iconst (v := 0) hx hb dX12_all_57 (by decide) ?_
            obtain ⟨qizh1, hf⟩ := gg_el hf
            obtain ⟨zh1, qzh1, hf⟩ := gb_el hf
            refine gx_kv (gx_runV (As := [.int zs0, .int 0]) (rest := []) X hw (c_X12_emit l E N zs1 zs0 0 zh qzh1) kX12_emit mm_X12_208 qizh1 clX12 ⟨by dsimp only [rm_gP, rm_X12_emit]; omega, by dsimp only [rm_gP, rm_X12_emit]; omega⟩ rfl rfl rfl hl.1 (Nat.le_of_ble_eq_true rfl) rfl dX12_all_58 ⟨Nat.le_of_ble_eq_true rfl, Nat.le_of_ble_eq_true rfl⟩) hw (fun H locs hw => ?_)
            refine lv_goto (tgt := 5) hx hb dX12_all_61 (by decide) ?_
            exact ih_5 zv0 zv1 _ _ _ ls hf hw (lv_sub hl [0, 1] rfl)
          have J_23 : ∀ (zv0 : Nat) (zv1 : Int32) (zh : PH) (H : Heap) (locs : List Loc) (ls : Array Slot), f_X12_all_23 N (g_gP N zd).1 (g_gP N zd).2.1 (g_gP N zd).2.2.1 (g_gP N zd).2.2.2.1 (g_gP N zd).2.2.2.2 (gi (fun zk zs => f_X12_all_5 N (g_gP N zd).1 (g_gP N zd).2.1 (g_gP N zd).2.2.1 (g_gP N zd).2.2.2.1 (g_gP N zd).2.2.2.2 zk zs.1 zs.2.1 zs.2.2) zn5) zv0 zv1 zh = some h9 → gw E s zh H locs → lv_has ls 3 [(0, .ref (gB E + zv0)), (1, .int zv1)] → W p l e (rm_gP (zd + 1)) s m [.ref (gB E + za0), .int za1].toArray below meth c H locs 0 0 (MQ below (gQv E h9) [.ref (gB E + za0), .int za1].toArray s 0 0 (gA E)) (F0 m 23 ls []) := by
            intro zv0 zv1 zh H locs ls hf hw hl
            unfold f_X12_all_23 at hf
            refine lv_aload_n hx hb dX12_all_23 rfl (lv_at hl 0 rfl) ?_
            refine lv_bipush (v := 7) hx hb dX12_all_24 (by decide) ?_
            obtain ⟨qizh1, hf⟩ := gg_el hf
            obtain ⟨zt2, zh1, qzh1, hf⟩ := gc_el hf
            refine gx_ki (gx_runV (As := [.int 7]) (rest := []) X hw (c_X12_isWord l E N zv0 7 zh qzh1) kX12_isWord mm_X12_163 qizh1 clX12 ⟨by dsimp only [rm_gP, rm_X12_isWord]; omega, by dsimp only [rm_gP, rm_X12_isWord]; omega⟩ rfl rfl rfl hl.1 (Nat.le_of_ble_eq_true rfl) rfl dX12_all_26 ⟨Nat.le_of_ble_eq_true rfl, Nat.le_of_ble_eq_true rfl⟩) hw (fun H locs hw => ?_)
            refine lv_istore_n (lv' := [(2, .int zt2), (0, .ref (gB E + zv0)), (1, .int zv1)]) hx hb dX12_all_29 rfl hl (by decide) rfl (fun ls hl => ?_)
            refine lv_aload_n hx hb dX12_all_30 rfl (lv_at hl 1 rfl) ?_
            refine lv_dup hx hb dX12_all_31 rfl ?_
            obtain ⟨zt3, qzt3, hf⟩ := gb_el hf
            refine gx_getI X hw qzt3 clX12 (by decide) mf_X12_150 dX12_all_32 ?_
            refine lv_iconst (v := 1) hx hb dX12_all_35 (by decide) ?_
            refine lv_iadd hx hb dX12_all_36 ?_
            refine W.eq (g2 := F0 m 37 ls [.int (zt3 + 1), .ref (gB E + zv0)]) rfl ?_
            obtain ⟨zh4, qzh4, hf⟩ := gb_el hf
            refine gx_putV X hw qzh4 clX12 (by decide) mf_X12_150 rfl rfl rfl dX12_all_37 (fun H locs hw => ?_)
            refine lv_aload_n hx hb dX12_all_40 rfl (lv_at hl 1 rfl) ?_
            refine lv_iload_n hx hb dX12_all_41 rfl (lv_at hl 2 rfl) ?_
            obtain ⟨qizh5, hf⟩ := gg_el hf
            obtain ⟨zh5, qzh5, hf⟩ := gb_el hf
            refine gx_kv (gx_runV (As := [.int zv1]) (rest := []) X hw (ih.2.1 zv0 zv1 zh4 _ qzh5) kX12_test mm_X12_212 qizh5 clX12 ⟨by dsimp only [rm_gP]; omega, by dsimp only [rm_gP]; omega⟩ rfl rfl rfl hl.1 (Nat.le_of_ble_eq_true rfl) rfl dX12_all_42 ⟨Nat.le_of_ble_eq_true rfl, Nat.le_of_ble_eq_true rfl⟩) hw (fun H locs hw => ?_)
            refine lv_aload_n hx hb dX12_all_45 rfl (lv_at hl 1 rfl) ?_
            refine lv_iload_n hx hb dX12_all_46 rfl (lv_at hl 0 rfl) ?_
            refine lv_if_eq (tgt := 55) hx hb dX12_all_47 (by decide) (fun qc6 => ?_) (fun qc6 => ?_)
            · have hf := gif_t hf qc6
              refine lv_bipush (v := 10) hx hb dX12_all_55 (by decide) ?_
              exact J_57 zv0 zv1 10 zv0 _ _ _ ls hf hw (lv_sub hl [1, 2] rfl)
            · have hf := gif_f hf qc6
              refine lv_bipush (v := 9) hx hb dX12_all_50 (by decide) ?_
              refine lv_goto (tgt := 57) hx hb dX12_all_52 (by decide) ?_
              exact J_57 zv0 zv1 9 zv0 _ _ _ ls hf hw (lv_sub hl [1, 2] rfl)
          intro zv0 zv1 zh H locs ls hf hw hl
          have hf := gi_s hf
          dsimp only at hf
          unfold f_X12_all_5 at hf
          refine lv_aload_n hx hb dX12_all_5 rfl (lv_at hl 0 rfl) ?_
          refine lv_bipush (v := 7) hx hb dX12_all_6 (by decide) ?_
          obtain ⟨qizh1, hf⟩ := gg_el hf
          obtain ⟨zt2, zh1, qzh1, hf⟩ := gc_el hf
          refine gx_ki (gx_runV (As := [.int 7]) (rest := []) X hw (c_X12_isWord l E N zv0 7 zh qzh1) kX12_isWord mm_X12_163 qizh1 clX12 ⟨by dsimp only [rm_gP, rm_X12_isWord]; omega, by dsimp only [rm_gP, rm_X12_isWord]; omega⟩ rfl rfl rfl hl.1 (Nat.le_of_ble_eq_true rfl) rfl dX12_all_8 ⟨Nat.le_of_ble_eq_true rfl, Nat.le_of_ble_eq_true rfl⟩) hw (fun H locs hw => ?_)
          refine lv_if_ne (tgt := 23) hx hb dX12_all_11 (by decide) (fun qc3 => ?_) (fun qc3 => ?_)
          · have hf := gif_f hf qc3
            exact J_23 zv0 zv1 _ _ _ ls hf hw (lv_sub hl [0, 1] rfl)
          · have hf := gif_t hf qc3
            refine lv_aload_n hx hb dX12_all_14 rfl (lv_at hl 0 rfl) ?_
            refine lv_bipush (v := 8) hx hb dX12_all_15 (by decide) ?_
            obtain ⟨qizh4, hf⟩ := gg_el hf
            obtain ⟨zt5, zh4, qzh4, hf⟩ := gc_el hf
            refine gx_ki (gx_runV (As := [.int 8]) (rest := []) X hw (c_X12_isWord l E N zv0 8 zh1 qzh4) kX12_isWord mm_X12_163 qizh4 clX12 ⟨by dsimp only [rm_gP, rm_X12_isWord]; omega, by dsimp only [rm_gP, rm_X12_isWord]; omega⟩ rfl rfl rfl hl.1 (Nat.le_of_ble_eq_true rfl) rfl dX12_all_17 ⟨Nat.le_of_ble_eq_true rfl, Nat.le_of_ble_eq_true rfl⟩) hw (fun H locs hw => ?_)
            refine lv_if_eq (tgt := 64) hx hb dX12_all_20 (by decide) (fun qc6 => ?_) (fun qc6 => ?_)
            · have hf := gif_t hf qc6
              exact gx_vret X hr hlk hw hf dX12_all_64
            · have hf := gif_f hf qc6
              exact J_23 zv0 zv1 _ _ _ ls hf hw (lv_sub hl [0, 1] rfl)
      unfold b_X12_all at hf
      refine lv_aload_n hx hb dX12_all_0 rfl (lv_at hl 0 rfl) ?_
      refine lv_iload_n hx hb dX12_all_1 rfl (lv_at hl 1 rfl) ?_
      obtain ⟨qizh1, hf⟩ := gg_el hf
      obtain ⟨zh1, qzh1, hf⟩ := gb_el hf
      refine gx_kv (gx_runV (As := [.int za1]) (rest := []) X hw (ih.2.1 za0 za1 zh _ qzh1) kX12_test mm_X12_212 qizh1 clX12 ⟨by dsimp only [rm_gP]; omega, by dsimp only [rm_gP]; omega⟩ rfl rfl rfl hl.1 (Nat.le_of_ble_eq_true rfl) rfl dX12_all_2 ⟨Nat.le_of_ble_eq_true rfl, Nat.le_of_ble_eq_true rfl⟩) hw (fun H locs hw => ?_)
      exact L_5 N za0 za1 _ _ _ ls hf hw (lv_sub hl [0, 1] rfl)
    · intro za0 za1 zh h9 hf
      have hf : b_X12_test N (g_gP N zd).1 (g_gP N zd).2.1 (g_gP N zd).2.2.1 (g_gP N zd).2.2.2.1 (g_gP N zd).2.2.2.2 za0 za1 zh = some h9 := hf
      refine gx_met (by decide) ?_ rfl
      intro p e s m below meth c X hr hlk hin2 hw
      have hx := X.1.1
      have hb := X.1.2.1
      have hl := lv_entry [.ref (gB E + za0), .int za1] (n := 3) (Nat.le_of_ble_eq_true rfl)
      rw [lg_entry_eq]
      generalize (lg_sl [.ref (gB E + za0), .int za1] ++ List.replicate (3 - (lg_sl [.ref (gB E + za0), .int za1]).length) Slot.unset).toArray = ls at hl ⊢
      have hl : lv_has ls 3 [(0, .ref (gB E + za0)), (1, .int za1)] := hl
      have J_51 : ∀ (zh : PH) (H : Heap) (locs : List Loc) (ls : Array Slot), f_X12_test_51 N (g_gP N zd).1 (g_gP N zd).2.1 (g_gP N zd).2.2.1 (g_gP N zd).2.2.2.1 (g_gP N zd).2.2.2.2 zh = some h9 → gw E s zh H locs → lv_has ls 3 [] → W p l e (rm_gP (zd + 1)) s m [.ref (gB E + za0), .int za1].toArray below meth c H locs 0 0 (MQ below (gQv E h9) [.ref (gB E + za0), .int za1].toArray s 0 0 (gA E)) (F0 m 51 ls []) := by
        intro zh H locs ls hf hw hl
        unfold f_X12_test_51 at hf
        exact gx_vret X hr hlk hw hf dX12_test_51
      have J_47 : ∀ (zs0 : Int32) (zs1 : Nat) (zh : PH) (H : Heap) (locs : List Loc) (ls : Array Slot), f_X12_test_47 N (g_gP N zd).1 (g_gP N zd).2.1 (g_gP N zd).2.2.1 (g_gP N zd).2.2.2.1 (g_gP N zd).2.2.2.2 zs0 zs1 zh = some h9 → gw E s zh H locs → lv_has ls 3 [] → W p l e (rm_gP (zd + 1)) s m [.ref (gB E + za0), .int za1].toArray below meth c H locs 0 0 (MQ below (gQv E h9) [.ref (gB E + za0), .int za1].toArray s 0 0 (gA E)) (F0 m 47 ls [.int zs0, .ref (gB E + zs1)]) := by
        intro zs0 zs1 zh H locs ls hf hw hl
        unfold f_X12_test_47 at hf
        refine lv_iconst (v := 0) hx hb dX12_test_47 (by decide) ?_
        obtain ⟨qizh1, hf⟩ := gg_el hf
        obtain ⟨zh1, qzh1, hf⟩ := gb_el hf
        refine gx_kv (gx_runV (As := [.int zs0, .int 0]) (rest := []) X hw (c_X12_emit l E N zs1 zs0 0 zh qzh1) kX12_emit mm_X12_208 qizh1 clX12 ⟨by dsimp only [rm_gP, rm_X12_emit]; omega, by dsimp only [rm_gP, rm_X12_emit]; omega⟩ rfl rfl rfl hl.1 (Nat.le_of_ble_eq_true rfl) rfl dX12_test_48 ⟨Nat.le_of_ble_eq_true rfl, Nat.le_of_ble_eq_true rfl⟩) hw (fun H locs hw => ?_)
        exact J_51  _ _ _ ls hf hw (lv_sub hl [] rfl)
      have J_30 : ∀ (zv0 : Nat) (zv1 : Int32) (zv2 : Int32) (zh : PH) (H : Heap) (locs : List Loc) (ls : Array Slot), f_X12_test_30 N (g_gP N zd).1 (g_gP N zd).2.1 (g_gP N zd).2.2.1 (g_gP N zd).2.2.2.1 (g_gP N zd).2.2.2.2 zv0 zv1 zv2 zh = some h9 → gw E s zh H locs → lv_has ls 3 [(0, .ref (gB E + zv0)), (1, .int zv1), (2, .int zv2)] → W p l e (rm_gP (zd + 1)) s m [.ref (gB E + za0), .int za1].toArray below meth c H locs 0 0 (MQ below (gQv E h9) [.ref (gB E + za0), .int za1].toArray s 0 0 (gA E)) (F0 m 30 ls []) := by
        intro zv0 zv1 zv2 zh H locs ls hf hw hl
        unfold f_X12_test_30 at hf
        refine lv_aload_n hx hb dX12_test_30 rfl (lv_at hl 0 rfl) ?_
        refine lv_iload_n hx hb dX12_test_31 rfl (lv_at hl 1 rfl) ?_
        obtain ⟨qizh1, hf⟩ := gg_el hf
        obtain ⟨zh1, qzh1, hf⟩ := gb_el hf
        refine gx_kv (gx_runV (As := [.int zv1]) (rest := []) X hw (ih.2.2.1 zv0 zv1 zh _ qzh1) kX12_sums mm_X12_215 qizh1 clX12 ⟨by dsimp only [rm_gP]; omega, by dsimp only [rm_gP]; omega⟩ rfl rfl rfl hl.1 (Nat.le_of_ble_eq_true rfl) rfl dX12_test_32 ⟨Nat.le_of_ble_eq_true rfl, Nat.le_of_ble_eq_true rfl⟩) hw (fun H locs hw => ?_)
        refine lv_aload_n hx hb dX12_test_35 rfl (lv_at hl 0 rfl) ?_
        refine lv_iload_n hx hb dX12_test_36 rfl (lv_at hl 2 rfl) ?_
        refine lv_if_eq (tgt := 45) hx hb dX12_test_37 (by decide) (fun qc2 => ?_) (fun qc2 => ?_)
        · have hf := gif_t hf qc2
          refine lv_bipush (v := 8) hx hb dX12_test_45 (by decide) ?_
          exact J_47 8 zv0 _ _ _ ls hf hw (lv_sub hl [] rfl)
        · have hf := gif_f hf qc2
          refine lv_bipush (v := 7) hx hb dX12_test_40 (by decide) ?_
          refine lv_goto (tgt := 47) hx hb dX12_test_42 (by decide) ?_
          exact J_47 7 zv0 _ _ _ ls hf hw (lv_sub hl [] rfl)
      unfold b_X12_test at hf
      refine lv_aload_n hx hb dX12_test_0 rfl (lv_at hl 0 rfl) ?_
      refine lv_iload_n hx hb dX12_test_1 rfl (lv_at hl 1 rfl) ?_
      obtain ⟨qizh1, hf⟩ := gg_el hf
      obtain ⟨zh1, qzh1, hf⟩ := gb_el hf
      refine gx_kv (gx_runV (As := [.int za1]) (rest := []) X hw (ih.2.2.1 za0 za1 zh _ qzh1) kX12_sums mm_X12_215 qizh1 clX12 ⟨by dsimp only [rm_gP]; omega, by dsimp only [rm_gP]; omega⟩ rfl rfl rfl hl.1 (Nat.le_of_ble_eq_true rfl) rfl dX12_test_2 ⟨Nat.le_of_ble_eq_true rfl, Nat.le_of_ble_eq_true rfl⟩) hw (fun H locs hw => ?_)
      refine lv_aload_n hx hb dX12_test_5 rfl (lv_at hl 0 rfl) ?_
      refine lv_bipush (v := 60) hx hb dX12_test_6 (by decide) ?_
      obtain ⟨qizh2, hf⟩ := gg_el hf
      obtain ⟨zt3, zh2, qzh2, hf⟩ := gc_el hf
      refine gx_ki (gx_runV (As := [.int 60]) (rest := []) X hw (c_X12_isSign l E N za0 60 zh1 qzh2) kX12_isSign mm_X12_156 qizh2 clX12 ⟨by dsimp only [rm_gP, rm_X12_isSign]; omega, by dsimp only [rm_gP, rm_X12_isSign]; omega⟩ rfl rfl rfl hl.1 (Nat.le_of_ble_eq_true rfl) rfl dX12_test_8 ⟨Nat.le_of_ble_eq_true rfl, Nat.le_of_ble_eq_true rfl⟩) hw (fun H locs hw => ?_)
      refine lv_istore_n (lv' := [(2, .int zt3), (0, .ref (gB E + za0)), (1, .int za1)]) hx hb dX12_test_11 rfl hl (by decide) rfl (fun ls hl => ?_)
      refine lv_aload_n hx hb dX12_test_12 rfl (lv_at hl 1 rfl) ?_
      refine lv_bipush (v := 60) hx hb dX12_test_13 (by decide) ?_
      refine W.eq (g2 := F0 m 15 ls [.int 60, .ref (gB E + za0)]) rfl ?_
      obtain ⟨qizh4, hf⟩ := gg_el hf
      obtain ⟨zt5, zh4, qzh4, hf⟩ := gc_el hf
      refine gx_ki (gx_runV (As := [.int 60]) (rest := []) X hw (c_X12_hasSign l E N za0 60 zh2 qzh4) kX12_hasSign mm_X12_218 qizh4 clX12 ⟨by dsimp only [rm_gP, rm_X12_hasSign]; omega, by dsimp only [rm_gP, rm_X12_hasSign]; omega⟩ rfl rfl rfl hl.1 (Nat.le_of_ble_eq_true rfl) rfl dX12_test_15 ⟨Nat.le_of_ble_eq_true rfl, Nat.le_of_ble_eq_true rfl⟩) hw (fun H locs hw => ?_)
      refine lv_if_ne (tgt := 30) hx hb dX12_test_18 (by decide) (fun qc6 => ?_) (fun qc6 => ?_)
      · have hf := gif_f hf qc6
        exact J_30 za0 za1 zt3 _ _ _ ls hf hw (lv_sub hl [1, 2, 0] rfl)
      · have hf := gif_t hf qc6
        refine lv_aload_n hx hb dX12_test_21 rfl (lv_at hl 1 rfl) ?_
        refine lv_bipush (v := 61) hx hb dX12_test_22 (by decide) ?_
        obtain ⟨qizh7, hf⟩ := gg_el hf
        obtain ⟨zt8, zh7, qzh7, hf⟩ := gc_el hf
        refine gx_ki (gx_runV (As := [.int 61]) (rest := []) X hw (c_X12_hasSign l E N za0 61 zh4 qzh7) kX12_hasSign mm_X12_218 qizh7 clX12 ⟨by dsimp only [rm_gP, rm_X12_hasSign]; omega, by dsimp only [rm_gP, rm_X12_hasSign]; omega⟩ rfl rfl rfl hl.1 (Nat.le_of_ble_eq_true rfl) rfl dX12_test_24 ⟨Nat.le_of_ble_eq_true rfl, Nat.le_of_ble_eq_true rfl⟩) hw (fun H locs hw => ?_)
        refine lv_if_eq (tgt := 51) hx hb dX12_test_27 (by decide) (fun qc9 => ?_) (fun qc9 => ?_)
        · have hf := gif_t hf qc9
          exact J_51  _ _ _ ls hf hw (lv_sub hl [] rfl)
        · have hf := gif_f hf qc9
          exact J_30 za0 za1 zt3 _ _ _ ls hf hw (lv_sub hl [1, 2, 0] rfl)
    · intro za0 za1 zh h9 hf
      have hf : b_X12_sums N (g_gP N zd).1 (g_gP N zd).2.1 (g_gP N zd).2.2.1 (g_gP N zd).2.2.2.1 (g_gP N zd).2.2.2.2 za0 za1 zh = some h9 := hf
      refine gx_met (by decide) ?_ rfl
      intro p e s m below meth c X hr hlk hin2 hw
      have hx := X.1.1
      have hb := X.1.2.1
      have hl := lv_entry [.ref (gB E + za0), .int za1] (n := 3) (Nat.le_of_ble_eq_true rfl)
      rw [lg_entry_eq]
      generalize (lg_sl [.ref (gB E + za0), .int za1] ++ List.replicate (3 - (lg_sl [.ref (gB E + za0), .int za1]).length) Slot.unset).toArray = ls at hl ⊢
      have hl : lv_has ls 3 [(0, .ref (gB E + za0)), (1, .int za1)] := hl
      have L_5 : ∀ (zn5 : Nat) (zv0 : Nat) (zv1 : Int32) (zh : PH) (H : Heap) (locs : List Loc) (ls : Array Slot), gi (fun zk zs => f_X12_sums_5 N (g_gP N zd).1 (g_gP N zd).2.1 (g_gP N zd).2.2.1 (g_gP N zd).2.2.2.1 (g_gP N zd).2.2.2.2 zk zs.1 zs.2.1 zs.2.2) zn5 (zv0, zv1, zh) = some h9 → gw E s zh H locs → lv_has ls 3 [(0, .ref (gB E + zv0)), (1, .int zv1)] → W p l e (rm_gP (zd + 1)) s m [.ref (gB E + za0), .int za1].toArray below meth c H locs 0 0 (MQ below (gQv E h9) [.ref (gB E + za0), .int za1].toArray s 0 0 (gA E)) (F0 m 5 ls []) := by
        intro zn5
        induction zn5 with
        | zero =>
          intro zv0 zv1 zh H locs ls hf
          cases hf
        | succ zn5 ih_5 =>
          have J_55 : ∀ (zv0 : Nat) (zv1 : Int32) (zs0 : Int32) (zs1 : Nat) (zh : PH) (H : Heap) (locs : List Loc) (ls : Array Slot), f_X12_sums_55 N (g_gP N zd).1 (g_gP N zd).2.1 (g_gP N zd).2.2.1 (g_gP N zd).2.2.2.1 (g_gP N zd).2.2.2.2 (gi (fun zk zs => f_X12_sums_5 N (g_gP N zd).1 (g_gP N zd).2.1 (g_gP N zd).2.2.1 (g_gP N zd).2.2.2.1 (g_gP N zd).2.2.2.2 zk zs.1 zs.2.1 zs.2.2) zn5) zv0 zv1 zs0 zs1 zh = some h9 → gw E s zh H locs → lv_has ls 3 [(0, .ref (gB E + zv0)), (1, .int zv1)] → W p l e (rm_gP (zd + 1)) s m [.ref (gB E + za0), .int za1].toArray below meth c H locs 0 0 (MQ below (gQv E h9) [.ref (gB E + za0), .int za1].toArray s 0 0 (gA E)) (F0 m 55 ls [.int zs0, .ref (gB E + zs1)]) := by
            intro zv0 zv1 zs0 zs1 zh H locs ls hf hw hl
            unfold f_X12_sums_55 at hf
            refine lv_iconst (v := 0) hx hb dX12_sums_55 (by decide) ?_
            obtain ⟨qizh1, hf⟩ := gg_el hf
            obtain ⟨zh1, qzh1, hf⟩ := gb_el hf
            refine gx_kv (gx_runV (As := [.int zs0, .int 0]) (rest := []) X hw (c_X12_emit l E N zs1 zs0 0 zh qzh1) kX12_emit mm_X12_208 qizh1 clX12 ⟨by dsimp only [rm_gP, rm_X12_emit]; omega, by dsimp only [rm_gP, rm_X12_emit]; omega⟩ rfl rfl rfl hl.1 (Nat.le_of_ble_eq_true rfl) rfl dX12_sums_56 ⟨Nat.le_of_ble_eq_true rfl, Nat.le_of_ble_eq_true rfl⟩) hw (fun H locs hw => ?_)
            refine lv_goto (tgt := 5) hx hb dX12_sums_59 (by decide) ?_
            exact ih_5 zv0 zv1 _ _ _ ls hf hw (lv_sub hl [0, 1] rfl)
          have J_23 : ∀ (zv0 : Nat) (zv1 : Int32) (zh : PH) (H : Heap) (locs : List Loc) (ls : Array Slot), f_X12_sums_23 N (g_gP N zd).1 (g_gP N zd).2.1 (g_gP N zd).2.2.1 (g_gP N zd).2.2.2.1 (g_gP N zd).2.2.2.2 (gi (fun zk zs => f_X12_sums_5 N (g_gP N zd).1 (g_gP N zd).2.1 (g_gP N zd).2.2.1 (g_gP N zd).2.2.2.1 (g_gP N zd).2.2.2.2 zk zs.1 zs.2.1 zs.2.2) zn5) zv0 zv1 zh = some h9 → gw E s zh H locs → lv_has ls 3 [(0, .ref (gB E + zv0)), (1, .int zv1)] → W p l e (rm_gP (zd + 1)) s m [.ref (gB E + za0), .int za1].toArray below meth c H locs 0 0 (MQ below (gQv E h9) [.ref (gB E + za0), .int za1].toArray s 0 0 (gA E)) (F0 m 23 ls []) := by
            intro zv0 zv1 zh H locs ls hf hw hl
            unfold f_X12_sums_23 at hf
            refine lv_aload_n hx hb dX12_sums_23 rfl (lv_at hl 0 rfl) ?_
            refine lv_bipush (v := 43) hx hb dX12_sums_24 (by decide) ?_
            obtain ⟨qizh1, hf⟩ := gg_el hf
            obtain ⟨zt2, zh1, qzh1, hf⟩ := gc_el hf
            refine gx_ki (gx_runV (As := [.int 43]) (rest := []) X hw (c_X12_isSign l E N zv0 43 zh qzh1) kX12_isSign mm_X12_156 qizh1 clX12 ⟨by dsimp only [rm_gP, rm_X12_isSign]; omega, by dsimp only [rm_gP, rm_X12_isSign]; omega⟩ rfl rfl rfl hl.1 (Nat.le_of_ble_eq_true rfl) rfl dX12_sums_26 ⟨Nat.le_of_ble_eq_true rfl, Nat.le_of_ble_eq_true rfl⟩) hw (fun H locs hw => ?_)
            refine lv_istore_n (lv' := [(2, .int zt2), (0, .ref (gB E + zv0)), (1, .int zv1)]) hx hb dX12_sums_29 rfl hl (by decide) rfl (fun ls hl => ?_)
            refine lv_aload_n hx hb dX12_sums_30 rfl (lv_at hl 1 rfl) ?_
            refine lv_dup hx hb dX12_sums_31 rfl ?_
            obtain ⟨zt3, qzt3, hf⟩ := gb_el hf
            refine gx_getI X hw qzt3 clX12 (by decide) mf_X12_150 dX12_sums_32 ?_
            refine lv_iconst (v := 1) hx hb dX12_sums_35 (by decide) ?_
            refine lv_iadd hx hb dX12_sums_36 ?_
            refine W.eq (g2 := F0 m 37 ls [.int (zt3 + 1), .ref (gB E + zv0)]) rfl ?_
            obtain ⟨zh4, qzh4, hf⟩ := gb_el hf
            refine gx_putV X hw qzh4 clX12 (by decide) mf_X12_150 rfl rfl rfl dX12_sums_37 (fun H locs hw => ?_)
            refine lv_aload_n hx hb dX12_sums_40 rfl (lv_at hl 1 rfl) ?_
            refine lv_iload_n hx hb dX12_sums_41 rfl (lv_at hl 2 rfl) ?_
            obtain ⟨qizh5, hf⟩ := gg_el hf
            obtain ⟨zh5, qzh5, hf⟩ := gb_el hf
            refine gx_kv (gx_runV (As := [.int zv1]) (rest := []) X hw (ih.2.2.2.1 zv0 zv1 zh4 _ qzh5) kX12_products mm_X12_221 qizh5 clX12 ⟨by dsimp only [rm_gP]; omega, by dsimp only [rm_gP]; omega⟩ rfl rfl rfl hl.1 (Nat.le_of_ble_eq_true rfl) rfl dX12_sums_42 ⟨Nat.le_of_ble_eq_true rfl, Nat.le_of_ble_eq_true rfl⟩) hw (fun H locs hw => ?_)
            refine lv_aload_n hx hb dX12_sums_45 rfl (lv_at hl 1 rfl) ?_
            refine lv_iload_n hx hb dX12_sums_46 rfl (lv_at hl 0 rfl) ?_
            refine lv_if_eq (tgt := 54) hx hb dX12_sums_47 (by decide) (fun qc6 => ?_) (fun qc6 => ?_)
            · have hf := gif_t hf qc6
              refine lv_iconst (v := 5) hx hb dX12_sums_54 (by decide) ?_
              exact J_55 zv0 zv1 5 zv0 _ _ _ ls hf hw (lv_sub hl [1, 2] rfl)
            · have hf := gif_f hf qc6
              refine lv_iconst (v := 4) hx hb dX12_sums_50 (by decide) ?_
              refine lv_goto (tgt := 55) hx hb dX12_sums_51 (by decide) ?_
              exact J_55 zv0 zv1 4 zv0 _ _ _ ls hf hw (lv_sub hl [1, 2] rfl)
          intro zv0 zv1 zh H locs ls hf hw hl
          have hf := gi_s hf
          dsimp only at hf
          unfold f_X12_sums_5 at hf
          refine lv_aload_n hx hb dX12_sums_5 rfl (lv_at hl 0 rfl) ?_
          refine lv_bipush (v := 43) hx hb dX12_sums_6 (by decide) ?_
          obtain ⟨qizh1, hf⟩ := gg_el hf
          obtain ⟨zt2, zh1, qzh1, hf⟩ := gc_el hf
          refine gx_ki (gx_runV (As := [.int 43]) (rest := []) X hw (c_X12_isSign l E N zv0 43 zh qzh1) kX12_isSign mm_X12_156 qizh1 clX12 ⟨by dsimp only [rm_gP, rm_X12_isSign]; omega, by dsimp only [rm_gP, rm_X12_isSign]; omega⟩ rfl rfl rfl hl.1 (Nat.le_of_ble_eq_true rfl) rfl dX12_sums_8 ⟨Nat.le_of_ble_eq_true rfl, Nat.le_of_ble_eq_true rfl⟩) hw (fun H locs hw => ?_)
          refine lv_if_ne (tgt := 23) hx hb dX12_sums_11 (by decide) (fun qc3 => ?_) (fun qc3 => ?_)
          · have hf := gif_f hf qc3
            exact J_23 zv0 zv1 _ _ _ ls hf hw (lv_sub hl [0, 1] rfl)
          · have hf := gif_t hf qc3
            refine lv_aload_n hx hb dX12_sums_14 rfl (lv_at hl 0 rfl) ?_
            refine lv_bipush (v := 45) hx hb dX12_sums_15 (by decide) ?_
            obtain ⟨qizh4, hf⟩ := gg_el hf
            obtain ⟨zt5, zh4, qzh4, hf⟩ := gc_el hf
            refine gx_ki (gx_runV (As := [.int 45]) (rest := []) X hw (c_X12_isSign l E N zv0 45 zh1 qzh4) kX12_isSign mm_X12_156 qizh4 clX12 ⟨by dsimp only [rm_gP, rm_X12_isSign]; omega, by dsimp only [rm_gP, rm_X12_isSign]; omega⟩ rfl rfl rfl hl.1 (Nat.le_of_ble_eq_true rfl) rfl dX12_sums_17 ⟨Nat.le_of_ble_eq_true rfl, Nat.le_of_ble_eq_true rfl⟩) hw (fun H locs hw => ?_)
            refine lv_if_eq (tgt := 62) hx hb dX12_sums_20 (by decide) (fun qc6 => ?_) (fun qc6 => ?_)
            · have hf := gif_t hf qc6
              exact gx_vret X hr hlk hw hf dX12_sums_62
            · have hf := gif_f hf qc6
              exact J_23 zv0 zv1 _ _ _ ls hf hw (lv_sub hl [0, 1] rfl)
      unfold b_X12_sums at hf
      refine lv_aload_n hx hb dX12_sums_0 rfl (lv_at hl 0 rfl) ?_
      refine lv_iload_n hx hb dX12_sums_1 rfl (lv_at hl 1 rfl) ?_
      obtain ⟨qizh1, hf⟩ := gg_el hf
      obtain ⟨zh1, qzh1, hf⟩ := gb_el hf
      refine gx_kv (gx_runV (As := [.int za1]) (rest := []) X hw (ih.2.2.2.1 za0 za1 zh _ qzh1) kX12_products mm_X12_221 qizh1 clX12 ⟨by dsimp only [rm_gP]; omega, by dsimp only [rm_gP]; omega⟩ rfl rfl rfl hl.1 (Nat.le_of_ble_eq_true rfl) rfl dX12_sums_2 ⟨Nat.le_of_ble_eq_true rfl, Nat.le_of_ble_eq_true rfl⟩) hw (fun H locs hw => ?_)
      exact L_5 N za0 za1 _ _ _ ls hf hw (lv_sub hl [0, 1] rfl)
    · intro za0 za1 zh h9 hf
      have hf : b_X12_products N (g_gP N zd).1 (g_gP N zd).2.1 (g_gP N zd).2.2.1 (g_gP N zd).2.2.2.1 (g_gP N zd).2.2.2.2 za0 za1 zh = some h9 := hf
      refine gx_met (by decide) ?_ rfl
      intro p e s m below meth c X hr hlk hin2 hw
      have hx := X.1.1
      have hb := X.1.2.1
      have hl := lv_entry [.ref (gB E + za0), .int za1] (n := 2) (Nat.le_of_ble_eq_true rfl)
      rw [lg_entry_eq]
      generalize (lg_sl [.ref (gB E + za0), .int za1] ++ List.replicate (2 - (lg_sl [.ref (gB E + za0), .int za1]).length) Slot.unset).toArray = ls at hl ⊢
      have hl : lv_has ls 2 [(0, .ref (gB E + za0)), (1, .int za1)] := hl
      have L_5 : ∀ (zn5 : Nat) (zv0 : Nat) (zv1 : Int32) (zh : PH) (H : Heap) (locs : List Loc) (ls : Array Slot), gi (fun zk zs => f_X12_products_5 N (g_gP N zd).1 (g_gP N zd).2.1 (g_gP N zd).2.2.1 (g_gP N zd).2.2.2.1 (g_gP N zd).2.2.2.2 zk zs.1 zs.2.1 zs.2.2) zn5 (zv0, zv1, zh) = some h9 → gw E s zh H locs → lv_has ls 2 [(0, .ref (gB E + zv0)), (1, .int zv1)] → W p l e (rm_gP (zd + 1)) s m [.ref (gB E + za0), .int za1].toArray below meth c H locs 0 0 (MQ below (gQv E h9) [.ref (gB E + za0), .int za1].toArray s 0 0 (gA E)) (F0 m 5 ls []) := by
        intro zn5
        induction zn5 with
        | zero =>
          intro zv0 zv1 zh H locs ls hf
          cases hf
        | succ zn5 ih_5 =>
          intro zv0 zv1 zh H locs ls hf hw hl
          have hf := gi_s hf
          dsimp only at hf
          unfold f_X12_products_5 at hf
          refine lv_aload_n hx hb dX12_products_5 rfl (lv_at hl 0 rfl) ?_
          refine lv_bipush (v := 42) hx hb dX12_products_6 (by decide) ?_
          obtain ⟨qizh1, hf⟩ := gg_el hf
          obtain ⟨zt2, zh1, qzh1, hf⟩ := gc_el hf
          refine gx_ki (gx_runV (As := [.int 42]) (rest := []) X hw (c_X12_hasSign l E N zv0 42 zh qzh1) kX12_hasSign mm_X12_218 qizh1 clX12 ⟨by dsimp only [rm_gP, rm_X12_hasSign]; omega, by dsimp only [rm_gP, rm_X12_hasSign]; omega⟩ rfl rfl rfl hl.1 (Nat.le_of_ble_eq_true rfl) rfl dX12_products_8 ⟨Nat.le_of_ble_eq_true rfl, Nat.le_of_ble_eq_true rfl⟩) hw (fun H locs hw => ?_)
          refine lv_if_eq (tgt := 29) hx hb dX12_products_11 (by decide) (fun qc3 => ?_) (fun qc3 => ?_)
          · have hf := gif_t hf qc3
            exact gx_vret X hr hlk hw hf dX12_products_29
          · have hf := gif_f hf qc3
            refine lv_aload_n hx hb dX12_products_14 rfl (lv_at hl 0 rfl) ?_
            refine lv_iload_n hx hb dX12_products_15 rfl (lv_at hl 1 rfl) ?_
            obtain ⟨qizh4, hf⟩ := gg_el hf
            obtain ⟨zh4, qzh4, hf⟩ := gb_el hf
            refine gx_kv (gx_runV (As := [.int zv1]) (rest := []) X hw (ih.2.2.2.2 zv0 zv1 zh1 _ qzh4) kX12_takePart mm_X12_224 qizh4 clX12 ⟨by dsimp only [rm_gP]; omega, by dsimp only [rm_gP]; omega⟩ rfl rfl rfl hl.1 (Nat.le_of_ble_eq_true rfl) rfl dX12_products_16 ⟨Nat.le_of_ble_eq_true rfl, Nat.le_of_ble_eq_true rfl⟩) hw (fun H locs hw => ?_)
            refine lv_aload_n hx hb dX12_products_19 rfl (lv_at hl 0 rfl) ?_
            refine lv_bipush (v := 6) hx hb dX12_products_20 (by decide) ?_
            refine W.eq (g2 := F0 m 22 ls [.int 6, .ref (gB E + zv0)]) rfl ?_
            refine lv_iconst (v := 0) hx hb dX12_products_22 (by decide) ?_
            obtain ⟨qizh5, hf⟩ := gg_el hf
            obtain ⟨zh5, qzh5, hf⟩ := gb_el hf
            refine gx_kv (gx_runV (As := [.int 6, .int 0]) (rest := []) X hw (c_X12_emit l E N zv0 6 0 zh4 qzh5) kX12_emit mm_X12_208 qizh5 clX12 ⟨by dsimp only [rm_gP, rm_X12_emit]; omega, by dsimp only [rm_gP, rm_X12_emit]; omega⟩ rfl rfl rfl hl.1 (Nat.le_of_ble_eq_true rfl) rfl dX12_products_23 ⟨Nat.le_of_ble_eq_true rfl, Nat.le_of_ble_eq_true rfl⟩) hw (fun H locs hw => ?_)
            refine lv_goto (tgt := 5) hx hb dX12_products_26 (by decide) ?_
            exact ih_5 zv0 zv1 _ _ _ ls hf hw (lv_sub hl [0, 1] rfl)
      unfold b_X12_products at hf
      refine lv_aload_n hx hb dX12_products_0 rfl (lv_at hl 0 rfl) ?_
      refine lv_iload_n hx hb dX12_products_1 rfl (lv_at hl 1 rfl) ?_
      obtain ⟨qizh1, hf⟩ := gg_el hf
      obtain ⟨zh1, qzh1, hf⟩ := gb_el hf
      refine gx_kv (gx_runV (As := [.int za1]) (rest := []) X hw (ih.2.2.2.2 za0 za1 zh _ qzh1) kX12_takePart mm_X12_224 qizh1 clX12 ⟨by dsimp only [rm_gP]; omega, by dsimp only [rm_gP]; omega⟩ rfl rfl rfl hl.1 (Nat.le_of_ble_eq_true rfl) rfl dX12_products_2 ⟨Nat.le_of_ble_eq_true rfl, Nat.le_of_ble_eq_true rfl⟩) hw (fun H locs hw => ?_)
      exact L_5 N za0 za1 _ _ _ ls hf hw (lv_sub hl [0, 1] rfl)
    · intro za0 za1 zh h9 hf
      have hf : b_X12_takePart N (g_gP N zd).1 (g_gP N zd).2.1 (g_gP N zd).2.2.1 (g_gP N zd).2.2.2.1 (g_gP N zd).2.2.2.2 za0 za1 zh = some h9 := hf
      refine gx_met (by decide) ?_ rfl
      intro p e s m below meth c X hr hlk hin2 hw
      have hx := X.1.1
      have hb := X.1.2.1
      have hl := lv_entry [.ref (gB E + za0), .int za1] (n := 5) (Nat.le_of_ble_eq_true rfl)
      rw [lg_entry_eq]
      generalize (lg_sl [.ref (gB E + za0), .int za1] ++ List.replicate (5 - (lg_sl [.ref (gB E + za0), .int za1]).length) Slot.unset).toArray = ls at hl ⊢
      have hl : lv_has ls 5 [(0, .ref (gB E + za0)), (1, .int za1)] := hl
      have J_222 : ∀ (zh : PH) (H : Heap) (locs : List Loc) (ls : Array Slot), f_X12_takePart_222 N (g_gP N zd).1 (g_gP N zd).2.1 (g_gP N zd).2.2.1 (g_gP N zd).2.2.2.1 (g_gP N zd).2.2.2.2 zh = some h9 → gw E s zh H locs → lv_has ls 5 [] → W p l e (rm_gP (zd + 1)) s m [.ref (gB E + za0), .int za1].toArray below meth c H locs 0 0 (MQ below (gQv E h9) [.ref (gB E + za0), .int za1].toArray s 0 0 (gA E)) (F0 m 222 ls []) := by
        intro zh H locs ls hf hw hl
        unfold f_X12_takePart_222 at hf
        exact gx_vret X hr hlk hw hf dX12_takePart_222
      have J_209 : ∀ (zv0 : Nat) (zs0 : Int32) (zs1 : Int32) (zs2 : Nat) (zh : PH) (H : Heap) (locs : List Loc) (ls : Array Slot), f_X12_takePart_209 N (g_gP N zd).1 (g_gP N zd).2.1 (g_gP N zd).2.2.1 (g_gP N zd).2.2.2.1 (g_gP N zd).2.2.2.2 zv0 zs0 zs1 zs2 zh = some h9 → gw E s zh H locs → lv_has ls 5 [(0, .ref (gB E + zv0))] → W p l e (rm_gP (zd + 1)) s m [.ref (gB E + za0), .int za1].toArray below meth c H locs 0 0 (MQ below (gQv E h9) [.ref (gB E + za0), .int za1].toArray s 0 0 (gA E)) (F0 m 209 ls [.int zs0, .int zs1, .ref (gB E + zs2)]) := by
        intro zv0 zs0 zs1 zs2 zh H locs ls hf hw hl
        unfold f_X12_takePart_209 at hf
        obtain ⟨qizh1, hf⟩ := gg_el hf
        obtain ⟨zh1, qzh1, hf⟩ := gb_el hf
        refine gx_kv (gx_runV (As := [.int zs1, .int zs0]) (rest := []) X hw (c_X12_emit l E N zs2 zs1 zs0 zh qzh1) kX12_emit mm_X12_208 qizh1 clX12 ⟨by dsimp only [rm_gP, rm_X12_emit]; omega, by dsimp only [rm_gP, rm_X12_emit]; omega⟩ rfl rfl rfl hl.1 (Nat.le_of_ble_eq_true rfl) rfl dX12_takePart_209 ⟨Nat.le_of_ble_eq_true rfl, Nat.le_of_ble_eq_true rfl⟩) hw (fun H locs hw => ?_)
        refine lv_aload_n hx hb dX12_takePart_212 rfl (lv_at hl 0 rfl) ?_
        refine lv_dup hx hb dX12_takePart_213 rfl ?_
        obtain ⟨zt2, qzt2, hf⟩ := gb_el hf
        refine gx_getI X hw qzt2 clX12 (by decide) mf_X12_150 dX12_takePart_214 ?_
        refine lv_iconst (v := 1) hx hb dX12_takePart_217 (by decide) ?_
        refine lv_iadd hx hb dX12_takePart_218 ?_
        obtain ⟨zh3, qzh3, hf⟩ := gb_el hf
        refine gx_putV X hw qzh3 clX12 (by decide) mf_X12_150 rfl rfl rfl dX12_takePart_219 (fun H locs hw => ?_)
        exact J_222  _ _ _ ls hf hw (lv_sub hl [] rfl)
      have J_191 : ∀ (zv0 : Nat) (zv2 : Int32) (zv3 : Int32) (zs0 : Int32) (zs1 : Nat) (zh : PH) (H : Heap) (locs : List Loc) (ls : Array Slot), f_X12_takePart_191 N (g_gP N zd).1 (g_gP N zd).2.1 (g_gP N zd).2.2.1 (g_gP N zd).2.2.2.1 (g_gP N zd).2.2.2.2 zv0 zv2 zv3 zs0 zs1 zh = some h9 → gw E s zh H locs → lv_has ls 5 [(0, .ref (gB E + zv0)), (2, .int zv2), (3, .int zv3)] → W p l e (rm_gP (zd + 1)) s m [.ref (gB E + za0), .int za1].toArray below meth c H locs 0 0 (MQ below (gQv E h9) [.ref (gB E + za0), .int za1].toArray s 0 0 (gA E)) (F0 m 191 ls [.int zs0, .ref (gB E + zs1)]) := by
        intro zv0 zv2 zv3 zs0 zs1 zh H locs ls hf hw hl
        unfold f_X12_takePart_191 at hf
        refine lv_iload_n hx hb dX12_takePart_191 rfl (lv_at hl 1 rfl) ?_
        refine lv_if_eq (tgt := 208) hx hb dX12_takePart_192 (by decide) (fun qc1 => ?_) (fun qc1 => ?_)
        · have hf := gif_t hf qc1
          refine lv_iload_n hx hb dX12_takePart_208 rfl (lv_at hl 2 rfl) ?_
          exact J_209 zv0 zv3 zs0 zs1 _ _ _ ls hf hw (lv_sub hl [0] rfl)
        · have hf := gif_f hf qc1
          refine lv_aload_n hx hb dX12_takePart_195 rfl (lv_at hl 0 rfl) ?_
          obtain ⟨zt2, qzt2, hf⟩ := gb_el hf
          refine gx_getR X hw qzt2 clX12 (by decide) mf_X12_30 dX12_takePart_196 ?_
          refine lv_aload_n hx hb dX12_takePart_199 rfl (lv_at hl 0 rfl) ?_
          obtain ⟨zt3, qzt3, hf⟩ := gb_el hf
          refine gx_getI X hw qzt3 clX12 (by decide) mf_X12_150 dX12_takePart_200 ?_
          obtain ⟨zt4, qzt4, hf⟩ := gb_el hf
          refine gx_lald X hw qzt4 dX12_takePart_203 ?_
          refine lv_l2i hx hb dX12_takePart_204 rfl ?_
          refine lv_goto (tgt := 209) hx hb dX12_takePart_205 (by decide) ?_
          exact J_209 zv0 (Int64.toInt32 zt4) zs0 zs1 _ _ _ ls hf hw (lv_sub hl [0] rfl)
      have J_123 : ∀ (zv0 : Nat) (zv1 : Int32) (zv2 : Int32) (zv3 : Int32) (zh : PH) (H : Heap) (locs : List Loc) (ls : Array Slot), f_X12_takePart_123 N (g_gP N zd).1 (g_gP N zd).2.1 (g_gP N zd).2.2.1 (g_gP N zd).2.2.2.1 (g_gP N zd).2.2.2.2 zv0 zv1 zv2 zv3 zh = some h9 → gw E s zh H locs → lv_has ls 5 [(0, .ref (gB E + zv0)), (1, .int zv1), (2, .int zv2), (3, .int zv3)] → W p l e (rm_gP (zd + 1)) s m [.ref (gB E + za0), .int za1].toArray below meth c H locs 0 0 (MQ below (gQv E h9) [.ref (gB E + za0), .int za1].toArray s 0 0 (gA E)) (F0 m 123 ls []) := by
        intro zv0 zv1 zv2 zv3 zh H locs ls hf hw hl
        unfold f_X12_takePart_123 at hf
        refine lv_aload_n hx hb dX12_takePart_123 rfl (lv_at hl 0 rfl) ?_
        obtain ⟨zt1, qzt1, hf⟩ := gb_el hf
        refine gx_getI X hw qzt1 clX12 (by decide) mf_X12_153 dX12_takePart_124 ?_
        refine lv_if_le (tgt := 131) hx hb dX12_takePart_127 (by decide) (fun qc2 => ?_) (fun qc2 => ?_)
        · have hf := gif_t hf qc2
          refine lv_aload_n hx hb dX12_takePart_131 rfl (lv_at hl 0 rfl) ?_
          refine lv_bipush (v := 6) hx hb dX12_takePart_132 (by decide) ?_
          obtain ⟨qizh3, hf⟩ := gg_el hf
          obtain ⟨zt4, zh3, qzh3, hf⟩ := gc_el hf
          refine gx_ki (gx_runV (As := [.int 6]) (rest := []) X hw (c_X12_hasWord l E N zv0 6 zh qzh3) kX12_hasWord mm_X12_166 qizh3 clX12 ⟨by dsimp only [rm_gP, rm_X12_hasWord]; omega, by dsimp only [rm_gP, rm_X12_hasWord]; omega⟩ rfl rfl rfl hl.1 (Nat.le_of_ble_eq_true rfl) rfl dX12_takePart_134 ⟨Nat.le_of_ble_eq_true rfl, Nat.le_of_ble_eq_true rfl⟩) hw (fun H locs hw => ?_)
          refine lv_if_eq (tgt := 156) hx hb dX12_takePart_137 (by decide) (fun qc5 => ?_) (fun qc5 => ?_)
          · have hf := gif_t hf qc5
            refine lv_aload_n hx hb dX12_takePart_156 rfl (lv_at hl 0 rfl) ?_
            refine lv_bipush (v := 40) hx hb dX12_takePart_157 (by decide) ?_
            refine W.eq (g2 := F0 m 159 ls [.int 40, .ref (gB E + zv0)]) rfl ?_
            obtain ⟨qizh6, hf⟩ := gg_el hf
            obtain ⟨zt7, zh6, qzh6, hf⟩ := gc_el hf
            refine gx_ki (gx_runV (As := [.int 40]) (rest := []) X hw (c_X12_hasSign l E N zv0 40 zh3 qzh6) kX12_hasSign mm_X12_218 qizh6 clX12 ⟨by dsimp only [rm_gP, rm_X12_hasSign]; omega, by dsimp only [rm_gP, rm_X12_hasSign]; omega⟩ rfl rfl rfl hl.1 (Nat.le_of_ble_eq_true rfl) rfl dX12_takePart_159 ⟨Nat.le_of_ble_eq_true rfl, Nat.le_of_ble_eq_true rfl⟩) hw (fun H locs hw => ?_)
            refine lv_if_eq (tgt := 181) hx hb dX12_takePart_162 (by decide) (fun qc8 => ?_) (fun qc8 => ?_)
            · have hf := gif_t hf qc8
              refine lv_aload_n hx hb dX12_takePart_181 rfl (lv_at hl 0 rfl) ?_
              refine lv_iload_n hx hb dX12_takePart_182 rfl (lv_at hl 2 rfl) ?_
              refine lv_if_eq (tgt := 190) hx hb dX12_takePart_183 (by decide) (fun qc9 => ?_) (fun qc9 => ?_)
              · have hf := gif_t hf qc9
                refine lv_iconst (v := 2) hx hb dX12_takePart_190 (by decide) ?_
                exact J_191 zv0 zv2 zv3 2 zv0 _ _ _ ls hf hw (lv_sub hl [0, 2, 3] rfl)
              · have hf := gif_f hf qc9
                refine lv_iconst (v := 1) hx hb dX12_takePart_186 (by decide) ?_
                refine lv_goto (tgt := 191) hx hb dX12_takePart_187 (by decide) ?_
                exact J_191 zv0 zv2 zv3 1 zv0 _ _ _ ls hf hw (lv_sub hl [0, 2, 3] rfl)
            · have hf := gif_f hf qc8
              refine lv_aload_n hx hb dX12_takePart_165 rfl (lv_at hl 0 rfl) ?_
              refine lv_iload_n hx hb dX12_takePart_166 rfl (lv_at hl 1 rfl) ?_
              refine lv_iconst (v := 1) hx hb dX12_takePart_167 (by decide) ?_
              refine lv_iadd hx hb dX12_takePart_168 ?_
              obtain ⟨qizh10, hf⟩ := gg_el hf
              obtain ⟨zh10, qzh10, hf⟩ := gb_el hf
              refine gx_kv (gx_runV (As := [.int (zv1 + 1)]) (rest := []) X hw (ih.1 zv0 (zv1 + 1) zh6 _ qzh10) kX12_all mm_X12_205 qizh10 clX12 ⟨by dsimp only [rm_gP]; omega, by dsimp only [rm_gP]; omega⟩ rfl rfl rfl hl.1 (Nat.le_of_ble_eq_true rfl) rfl dX12_takePart_169 ⟨Nat.le_of_ble_eq_true rfl, Nat.le_of_ble_eq_true rfl⟩) hw (fun H locs hw => ?_)
              refine lv_aload_n hx hb dX12_takePart_172 rfl (lv_at hl 0 rfl) ?_
              refine lv_bipush (v := 41) hx hb dX12_takePart_173 (by decide) ?_
              obtain ⟨qizh11, hf⟩ := gg_el hf
              obtain ⟨zh11, qzh11, hf⟩ := gb_el hf
              refine gx_kv (gx_runV (As := [.int 41]) (rest := []) X hw (c_X12_takeSign l E N zv0 41 zh10 qzh11) kX12_takeSign mm_X12_178 qizh11 clX12 ⟨by dsimp only [rm_gP, rm_X12_takeSign]; omega, by dsimp only [rm_gP, rm_X12_takeSign]; omega⟩ rfl rfl rfl hl.1 (Nat.le_of_ble_eq_true rfl) rfl dX12_takePart_175 ⟨Nat.le_of_ble_eq_true rfl, Nat.le_of_ble_eq_true rfl⟩) hw (fun H locs hw => ?_)
              refine W.eq (g2 := F0 m 178 ls []) rfl ?_
              refine lv_goto (tgt := 222) hx hb dX12_takePart_178 (by decide) ?_
              exact J_222  _ _ _ ls hf hw (lv_sub hl [] rfl)
          · have hf := gif_f hf qc5
            refine lv_aload_n hx hb dX12_takePart_140 rfl (lv_at hl 0 rfl) ?_
            refine lv_iload_n hx hb dX12_takePart_141 rfl (lv_at hl 1 rfl) ?_
            refine W.eq (g2 := F0 m 142 ls [.int zv1, .ref (gB E + zv0)]) rfl ?_
            refine lv_iconst (v := 1) hx hb dX12_takePart_142 (by decide) ?_
            refine lv_iadd hx hb dX12_takePart_143 ?_
            obtain ⟨qizh12, hf⟩ := gg_el hf
            obtain ⟨zh12, qzh12, hf⟩ := gb_el hf
            refine gx_kv (gx_runV (As := [.int (zv1 + 1)]) (rest := []) X hw (ih.2.2.2.2 zv0 (zv1 + 1) zh3 _ qzh12) kX12_takePart mm_X12_224 qizh12 clX12 ⟨by dsimp only [rm_gP]; omega, by dsimp only [rm_gP]; omega⟩ rfl rfl rfl hl.1 (Nat.le_of_ble_eq_true rfl) rfl dX12_takePart_144 ⟨Nat.le_of_ble_eq_true rfl, Nat.le_of_ble_eq_true rfl⟩) hw (fun H locs hw => ?_)
            refine lv_aload_n hx hb dX12_takePart_147 rfl (lv_at hl 0 rfl) ?_
            refine lv_iconst (v := 3) hx hb dX12_takePart_148 (by decide) ?_
            refine lv_iconst (v := 0) hx hb dX12_takePart_149 (by decide) ?_
            obtain ⟨qizh13, hf⟩ := gg_el hf
            obtain ⟨zh13, qzh13, hf⟩ := gb_el hf
            refine gx_kv (gx_runV (As := [.int 3, .int 0]) (rest := []) X hw (c_X12_emit l E N zv0 3 0 zh12 qzh13) kX12_emit mm_X12_208 qizh13 clX12 ⟨by dsimp only [rm_gP, rm_X12_emit]; omega, by dsimp only [rm_gP, rm_X12_emit]; omega⟩ rfl rfl rfl hl.1 (Nat.le_of_ble_eq_true rfl) rfl dX12_takePart_150 ⟨Nat.le_of_ble_eq_true rfl, Nat.le_of_ble_eq_true rfl⟩) hw (fun H locs hw => ?_)
            refine lv_goto (tgt := 222) hx hb dX12_takePart_153 (by decide) ?_
            exact J_222  _ _ _ ls hf hw (lv_sub hl [] rfl)
        · have hf := gif_f hf qc2
          exact gx_vret X hr hlk hw hf dX12_takePart_130
      have J_113 : ∀ (zv0 : Nat) (zv1 : Int32) (zv2 : Int32) (zv3 : Int32) (zh : PH) (H : Heap) (locs : List Loc) (ls : Array Slot), f_X12_takePart_113 N (g_gP N zd).1 (g_gP N zd).2.1 (g_gP N zd).2.2.1 (g_gP N zd).2.2.2.1 (g_gP N zd).2.2.2.2 zv0 zv1 zv2 zv3 zh = some h9 → gw E s zh H locs → lv_has ls 5 [(0, .ref (gB E + zv0)), (1, .int zv1), (2, .int zv2), (3, .int zv3)] → W p l e (rm_gP (zd + 1)) s m [.ref (gB E + za0), .int za1].toArray below meth c H locs 0 0 (MQ below (gQv E h9) [.ref (gB E + za0), .int za1].toArray s 0 0 (gA E)) (F0 m 113 ls []) := by
        intro zv0 zv1 zv2 zv3 zh H locs ls hf hw hl
        unfold f_X12_takePart_113 at hf
        refine lv_iload_n hx hb dX12_takePart_113 rfl (lv_at hl 1 rfl) ?_
        refine lv_iconst (v := 5) hx hb dX12_takePart_114 (by decide) ?_
        refine lv_icmp_ne (tgt := 123) hx hb dX12_takePart_115 (by decide) (fun qc1 => ?_) (fun qc1 => ?_)
        · have hf := gif_f hf qc1
          exact J_123 zv0 zv1 zv2 zv3 _ _ _ ls hf hw (lv_sub hl [0, 1, 2, 3] rfl)
        · have hf := gif_t hf qc1
          refine lv_aload_n hx hb dX12_takePart_118 rfl (lv_at hl 0 rfl) ?_
          refine lv_iconst (v := 5) hx hb dX12_takePart_119 (by decide) ?_
          obtain ⟨qizh2, hf⟩ := gg_el hf
          obtain ⟨zh2, qzh2, hf⟩ := gb_el hf
          refine gx_kv (gx_runV (As := [.int 5]) (rest := []) X hw (c_X12_wrong l E N zv0 5 zh qzh2) kX12_wrong mm_X12_159 qizh2 clX12 ⟨by dsimp only [rm_gP, rm_X12_wrong]; omega, by dsimp only [rm_gP, rm_X12_wrong]; omega⟩ rfl rfl rfl hl.1 (Nat.le_of_ble_eq_true rfl) rfl dX12_takePart_120 ⟨Nat.le_of_ble_eq_true rfl, Nat.le_of_ble_eq_true rfl⟩) hw (fun H locs hw => ?_)
          exact J_123 zv0 zv1 zv2 zv3 _ _ _ ls hf hw (lv_sub hl [0, 1, 2, 3] rfl)
      have L_32 : ∀ (zn32 : Nat) (zv0 : Nat) (zv1 : Int32) (zv2 : Int32) (zv3 : Int32) (zv4 : Int32) (zh : PH) (H : Heap) (locs : List Loc) (ls : Array Slot), gi (fun zk zs => f_X12_takePart_32 N (g_gP N zd).1 (g_gP N zd).2.1 (g_gP N zd).2.2.1 (g_gP N zd).2.2.2.1 (g_gP N zd).2.2.2.2 zk zs.1 zs.2.1 zs.2.2.1 zs.2.2.2.1 zs.2.2.2.2.1 zs.2.2.2.2.2) zn32 (zv0, zv1, zv2, zv3, zv4, zh) = some h9 → gw E s zh H locs → lv_has ls 5 [(0, .ref (gB E + zv0)), (1, .int zv1), (2, .int zv2), (3, .int zv3), (4, .int zv4)] → W p l e (rm_gP (zd + 1)) s m [.ref (gB E + za0), .int za1].toArray below meth c H locs 0 0 (MQ below (gQv E h9) [.ref (gB E + za0), .int za1].toArray s 0 0 (gA E)) (F0 m 32 ls []) := by
        intro zn32
        induction zn32 with
        | zero =>
          intro zv0 zv1 zv2 zv3 zv4 zh H locs ls hf
          cases hf
        | succ zn32 ih_32 =>
          have J_72 : ∀ (zv0 : Nat) (zv1 : Int32) (zv2 : Int32) (zv4 : Int32) (zs0 : Int32) (zh : PH) (H : Heap) (locs : List Loc) (ls : Array Slot), f_X12_takePart_72 N (g_gP N zd).1 (g_gP N zd).2.1 (g_gP N zd).2.2.1 (g_gP N zd).2.2.2.1 (g_gP N zd).2.2.2.2 (gi (fun zk zs => f_X12_takePart_32 N (g_gP N zd).1 (g_gP N zd).2.1 (g_gP N zd).2.2.1 (g_gP N zd).2.2.2.1 (g_gP N zd).2.2.2.2 zk zs.1 zs.2.1 zs.2.2.1 zs.2.2.2.1 zs.2.2.2.2.1 zs.2.2.2.2.2) zn32) zv0 zv1 zv2 zv4 zs0 zh = some h9 → gw E s zh H locs → lv_has ls 5 [(0, .ref (gB E + zv0)), (1, .int zv1), (2, .int zv2), (4, .int zv4)] → W p l e (rm_gP (zd + 1)) s m [.ref (gB E + za0), .int za1].toArray below meth c H locs 0 0 (MQ below (gQv E h9) [.ref (gB E + za0), .int za1].toArray s 0 0 (gA E)) (F0 m 72 ls [.int zs0]) := by
            intro zv0 zv1 zv2 zv4 zs0 zh H locs ls hf hw hl
            unfold f_X12_takePart_72 at hf
            refine lv_istore_n (lv' := [(3, .int zs0), (0, .ref (gB E + zv0)), (1, .int zv1), (2, .int zv2), (4, .int zv4)]) hx hb dX12_takePart_72 rfl hl (by decide) rfl (fun ls hl => ?_)
            obtain ⟨zx1, ezx1⟩ : ∃ y : Int32, y = zv4 + 1 := ⟨_, rfl⟩
            have hf := gl_el hf ezx1
            refine lv_iinc (v := zx1) (lv' := [(4, .int zx1), (3, .int zs0), (0, .ref (gB E + zv0)), (1, .int zv1), (2, .int zv2)]) hx hb dX12_takePart_73 hl (k := 4) rfl (by rw [ezx1]; rfl) (by decide) rfl (fun ls hl => ?_)
            refine lv_goto (tgt := 32) hx hb dX12_takePart_76 (by decide) ?_
            exact ih_32 zv0 zv1 zv2 zs0 zx1 _ _ _ ls hf hw (lv_sub hl [2, 3, 4, 1, 0] rfl)
          have J_60 : ∀ (zv0 : Nat) (zv1 : Int32) (zv2 : Int32) (zv3 : Int32) (zv4 : Int32) (zs0 : Int32) (zs1 : Nat) (zh : PH) (H : Heap) (locs : List Loc) (ls : Array Slot), f_X12_takePart_60 N (g_gP N zd).1 (g_gP N zd).2.1 (g_gP N zd).2.2.1 (g_gP N zd).2.2.2.1 (g_gP N zd).2.2.2.2 (gi (fun zk zs => f_X12_takePart_32 N (g_gP N zd).1 (g_gP N zd).2.1 (g_gP N zd).2.2.1 (g_gP N zd).2.2.2.1 (g_gP N zd).2.2.2.2 zk zs.1 zs.2.1 zs.2.2.1 zs.2.2.2.1 zs.2.2.2.2.1 zs.2.2.2.2.2) zn32) zv0 zv1 zv2 zv3 zv4 zs0 zs1 zh = some h9 → gw E s zh H locs → lv_has ls 5 [(0, .ref (gB E + zv0)), (1, .int zv1), (2, .int zv2), (3, .int zv3), (4, .int zv4)] → W p l e (rm_gP (zd + 1)) s m [.ref (gB E + za0), .int za1].toArray below meth c H locs 0 0 (MQ below (gQv E h9) [.ref (gB E + za0), .int za1].toArray s 0 0 (gA E)) (F0 m 60 ls [.int zs0, .ref (gB E + zs1)]) := by
            intro zv0 zv1 zv2 zv3 zv4 zs0 zs1 zh H locs ls hf hw hl
            unfold f_X12_takePart_60 at hf
            obtain ⟨qizh1, hf⟩ := gg_el hf
            obtain ⟨zt2, zh1, qzh1, hf⟩ := gc_el hf
            refine gx_ki (gx_runV (As := [.int zs0]) (rest := []) X hw (c_X12_isWord l E N zs1 zs0 zh qzh1) kX12_isWord mm_X12_163 qizh1 clX12 ⟨by dsimp only [rm_gP, rm_X12_isWord]; omega, by dsimp only [rm_gP, rm_X12_isWord]; omega⟩ rfl rfl rfl hl.1 (Nat.le_of_ble_eq_true rfl) rfl dX12_takePart_60 ⟨Nat.le_of_ble_eq_true rfl, Nat.le_of_ble_eq_true rfl⟩) hw (fun H locs hw => ?_)
            refine lv_if_eq (tgt := 71) hx hb dX12_takePart_63 (by decide) (fun qc3 => ?_) (fun qc3 => ?_)
            · have hf := gif_t hf qc3
              refine lv_iload_n hx hb dX12_takePart_71 rfl (lv_at hl 3 rfl) ?_
              exact J_72 zv0 zv1 zv2 zv4 zv3 _ _ _ ls hf hw (lv_sub hl [0, 1, 2, 4] rfl)
            · have hf := gif_f hf qc3
              refine lv_iload hx hb dX12_takePart_66 (lv_at hl 4 rfl) ?_
              refine lv_goto (tgt := 72) hx hb dX12_takePart_68 (by decide) ?_
              exact J_72 zv0 zv1 zv2 zv4 zv4 _ _ _ ls hf hw (lv_sub hl [0, 1, 2, 4] rfl)
          intro zv0 zv1 zv2 zv3 zv4 zh H locs ls hf hw hl
          have hf := gi_s hf
          dsimp only at hf
          unfold f_X12_takePart_32 at hf
          refine lv_iload hx hb dX12_takePart_32 (lv_at hl 4 rfl) ?_
          refine lv_bipush (v := 8) hx hb dX12_takePart_34 (by decide) ?_
          refine lv_icmp_ge (tgt := 79) hx hb dX12_takePart_36 (by decide) (fun qc1 => ?_) (fun qc1 => ?_)
          · have hf := gif_t hf qc1
            refine lv_iload_n hx hb dX12_takePart_79 rfl (lv_at hl 3 rfl) ?_
            refine lv_if_ge (tgt := 113) hx hb dX12_takePart_80 (by decide) (fun qc2 => ?_) (fun qc2 => ?_)
            · have hf := gif_t hf qc2
              exact J_113 zv0 zv1 zv2 zv3 _ _ _ ls hf hw (lv_sub hl [0, 1, 2, 3] rfl)
            · have hf := gif_f hf qc2
              refine lv_iload_n hx hb dX12_takePart_83 rfl (lv_at hl 2 rfl) ?_
              refine lv_if_ne (tgt := 113) hx hb dX12_takePart_84 (by decide) (fun qc3 => ?_) (fun qc3 => ?_)
              · have hf := gif_f hf qc3
                exact J_113 zv0 zv1 zv2 zv3 _ _ _ ls hf hw (lv_sub hl [0, 1, 2, 3] rfl)
              · have hf := gif_t hf qc3
                refine lv_aload_n hx hb dX12_takePart_87 rfl (lv_at hl 0 rfl) ?_
                refine lv_bipush (v := 40) hx hb dX12_takePart_88 (by decide) ?_
                refine W.eq (g2 := F0 m 90 ls [.int 40, .ref (gB E + zv0)]) rfl ?_
                obtain ⟨qizh4, hf⟩ := gg_el hf
                obtain ⟨zt5, zh4, qzh4, hf⟩ := gc_el hf
                refine gx_ki (gx_runV (As := [.int 40]) (rest := []) X hw (c_X12_isSign l E N zv0 40 zh qzh4) kX12_isSign mm_X12_156 qizh4 clX12 ⟨by dsimp only [rm_gP, rm_X12_isSign]; omega, by dsimp only [rm_gP, rm_X12_isSign]; omega⟩ rfl rfl rfl hl.1 (Nat.le_of_ble_eq_true rfl) rfl dX12_takePart_90 ⟨Nat.le_of_ble_eq_true rfl, Nat.le_of_ble_eq_true rfl⟩) hw (fun H locs hw => ?_)
                refine lv_if_ne (tgt := 113) hx hb dX12_takePart_93 (by decide) (fun qc6 => ?_) (fun qc6 => ?_)
                · have hf := gif_f hf qc6
                  exact J_113 zv0 zv1 zv2 zv3 _ _ _ ls hf hw (lv_sub hl [0, 1, 2, 3] rfl)
                · have hf := gif_t hf qc6
                  refine lv_aload_n hx hb dX12_takePart_96 rfl (lv_at hl 0 rfl) ?_
                  refine lv_bipush (v := 6) hx hb dX12_takePart_97 (by decide) ?_
                  obtain ⟨qizh7, hf⟩ := gg_el hf
                  obtain ⟨zt8, zh7, qzh7, hf⟩ := gc_el hf
                  refine gx_ki (gx_runV (As := [.int 6]) (rest := []) X hw (c_X12_isWord l E N zv0 6 zh4 qzh7) kX12_isWord mm_X12_163 qizh7 clX12 ⟨by dsimp only [rm_gP, rm_X12_isWord]; omega, by dsimp only [rm_gP, rm_X12_isWord]; omega⟩ rfl rfl rfl hl.1 (Nat.le_of_ble_eq_true rfl) rfl dX12_takePart_99 ⟨Nat.le_of_ble_eq_true rfl, Nat.le_of_ble_eq_true rfl⟩) hw (fun H locs hw => ?_)
                  refine lv_if_ne (tgt := 113) hx hb dX12_takePart_102 (by decide) (fun qc9 => ?_) (fun qc9 => ?_)
                  · have hf := gif_f hf qc9
                    exact J_113 zv0 zv1 zv2 zv3 _ _ _ ls hf hw (lv_sub hl [0, 1, 2, 3] rfl)
                  · have hf := gif_t hf qc9
                    refine lv_aload_n hx hb dX12_takePart_105 rfl (lv_at hl 0 rfl) ?_
                    refine lv_iconst (v := 1) hx hb dX12_takePart_106 (by decide) ?_
                    obtain ⟨qizh10, hf⟩ := gg_el hf
                    obtain ⟨zh10, qzh10, hf⟩ := gb_el hf
                    refine gx_kv (gx_runV (As := [.int 1]) (rest := []) X hw (c_X12_wrong l E N zv0 1 zh7 qzh10) kX12_wrong mm_X12_159 qizh10 clX12 ⟨by dsimp only [rm_gP, rm_X12_wrong]; omega, by dsimp only [rm_gP, rm_X12_wrong]; omega⟩ rfl rfl rfl hl.1 (Nat.le_of_ble_eq_true rfl) rfl dX12_takePart_107 ⟨Nat.le_of_ble_eq_true rfl, Nat.le_of_ble_eq_true rfl⟩) hw (fun H locs hw => ?_)
                    refine lv_goto (tgt := 123) hx hb dX12_takePart_110 (by decide) ?_
                    exact J_123 zv0 zv1 zv2 zv3 _ _ _ ls hf hw (lv_sub hl [0, 1, 2, 3] rfl)
          · have hf := gif_f hf qc1
            refine lv_aload_n hx hb dX12_takePart_39 rfl (lv_at hl 0 rfl) ?_
            refine lv_iload hx hb dX12_takePart_40 (lv_at hl 4 rfl) ?_
            refine lv_iconst (v := 3) hx hb dX12_takePart_42 (by decide) ?_
            refine lv_icmp_ge (tgt := 53) hx hb dX12_takePart_43 (by decide) (fun qc11 => ?_) (fun qc11 => ?_)
            · have hf := gif_t hf qc11
              refine lv_bipush (v := 9) hx hb dX12_takePart_53 (by decide) ?_
              refine lv_iload hx hb dX12_takePart_55 (lv_at hl 4 rfl) ?_
              refine W.eq (g2 := F0 m 57 ls [.int zv4, .int 9, .ref (gB E + zv0)]) rfl ?_
              refine lv_iadd hx hb dX12_takePart_57 ?_
              refine lv_iconst (v := 3) hx hb dX12_takePart_58 (by decide) ?_
              refine lv_isub hx hb dX12_takePart_59 ?_
              exact J_60 zv0 zv1 zv2 zv3 zv4 ((9 + zv4) - 3) zv0 _ _ _ ls hf hw (lv_sub hl [0, 1, 2, 3, 4] rfl)
            · have hf := gif_f hf qc11
              refine lv_iconst (v := 2) hx hb dX12_takePart_46 (by decide) ?_
              refine lv_iload hx hb dX12_takePart_47 (lv_at hl 4 rfl) ?_
              refine W.eq (g2 := F0 m 49 ls [.int zv4, .int 2, .ref (gB E + zv0)]) rfl ?_
              refine lv_iadd hx hb dX12_takePart_49 ?_
              refine lv_goto (tgt := 60) hx hb dX12_takePart_50 (by decide) ?_
              exact J_60 zv0 zv1 zv2 zv3 zv4 (2 + zv4) zv0 _ _ _ ls hf hw (lv_sub hl [0, 1, 2, 3, 4] rfl)
      have J_26 : ∀ (zv0 : Nat) (zv1 : Int32) (zs0 : Int32) (zh : PH) (H : Heap) (locs : List Loc) (ls : Array Slot), f_X12_takePart_26 N (g_gP N zd).1 (g_gP N zd).2.1 (g_gP N zd).2.2.1 (g_gP N zd).2.2.2.1 (g_gP N zd).2.2.2.2 zv0 zv1 zs0 zh = some h9 → gw E s zh H locs → lv_has ls 5 [(0, .ref (gB E + zv0)), (1, .int zv1)] → W p l e (rm_gP (zd + 1)) s m [.ref (gB E + za0), .int za1].toArray below meth c H locs 0 0 (MQ below (gQv E h9) [.ref (gB E + za0), .int za1].toArray s 0 0 (gA E)) (F0 m 26 ls [.int zs0]) := by
        intro zv0 zv1 zs0 zh H locs ls hf hw hl
        unfold f_X12_takePart_26 at hf
        refine lv_istore_n (lv' := [(2, .int zs0), (0, .ref (gB E + zv0)), (1, .int zv1)]) hx hb dX12_takePart_26 rfl hl (by decide) rfl (fun ls hl => ?_)
        refine lv_iconst (v := (-1)) hx hb dX12_takePart_27 (by decide) ?_
        refine lv_istore_n (lv' := [(3, .int (-1)), (2, .int zs0), (0, .ref (gB E + zv0)), (1, .int zv1)]) hx hb dX12_takePart_28 rfl hl (by decide) rfl (fun ls hl => ?_)
        refine lv_iconst (v := 0) hx hb dX12_takePart_29 (by decide) ?_
        refine lv_istore (lv' := [(4, .int 0), (3, .int (-1)), (2, .int zs0), (0, .ref (gB E + zv0)), (1, .int zv1)]) hx hb dX12_takePart_30 hl (by decide) rfl (fun ls hl => ?_)
        exact L_32 N zv0 zv1 zs0 (-1) 0 _ _ _ ls hf hw (lv_sub hl [3, 4, 2, 1, 0] rfl)
      unfold b_X12_takePart at hf
      refine lv_aload_n hx hb dX12_takePart_0 rfl (lv_at hl 0 rfl) ?_
      obtain ⟨zt1, qzt1, hf⟩ := gb_el hf
      refine gx_getI X hw qzt1 clX12 (by decide) mf_X12_153 dX12_takePart_1 ?_
      refine lv_if_le (tgt := 8) hx hb dX12_takePart_4 (by decide) (fun qc2 => ?_) (fun qc2 => ?_)
      · have hf := gif_t hf qc2
        refine lv_aload_n hx hb dX12_takePart_8 rfl (lv_at hl 0 rfl) ?_
        obtain ⟨zt3, qzt3, hf⟩ := gb_el hf
        refine gx_getR X hw qzt3 clX12 (by decide) mf_X12_24 dX12_takePart_9 ?_
        refine lv_aload_n hx hb dX12_takePart_12 rfl (lv_at hl 0 rfl) ?_
        obtain ⟨zt4, qzt4, hf⟩ := gb_el hf
        refine gx_getI X hw qzt4 clX12 (by decide) mf_X12_150 dX12_takePart_13 ?_
        obtain ⟨zt5, qzt5, hf⟩ := gb_el hf
        refine gx_iald X hw qzt5 dX12_takePart_16 ?_
        refine lv_iconst (v := 2) hx hb dX12_takePart_17 (by decide) ?_
        refine W.eq (g2 := F0 m 18 ls [.int 2, .int zt5]) rfl ?_
        refine lv_icmp_ne (tgt := 25) hx hb dX12_takePart_18 (by decide) (fun qc6 => ?_) (fun qc6 => ?_)
        · have hf := gif_f hf qc6
          refine lv_iconst (v := 0) hx hb dX12_takePart_25 (by decide) ?_
          exact J_26 za0 za1 0 _ _ _ ls hf hw (lv_sub hl [0, 1] rfl)
        · have hf := gif_t hf qc6
          refine lv_iconst (v := 1) hx hb dX12_takePart_21 (by decide) ?_
          refine lv_goto (tgt := 26) hx hb dX12_takePart_22 (by decide) ?_
          exact J_26 za0 za1 1 _ _ _ ls hf hw (lv_sub hl [0, 1] rfl)
      · have hf := gif_f hf qc2
        exact gx_vret X hr hlk hw hf dX12_takePart_7
abbrev rm_X12_all : Room := { frames := 66, cells := 0, slots := 0, locals := 1579 }
theorem c_X12_all (l : Launch) (E : gE) (N : Nat) (za0 : Nat) (za1 : Int32) (zh : PH) {h9 : PH} (hf : f_X12_all N za0 za1 zh = some h9) : Met l yX12_all (gWS yX12_all cX12_all 3 none) rm_X12_all (gPc E [.ref (gB E + za0), .int za1] zh) (gQv E h9) 0 0 (gA E) := (cg_gP l E N 64).1 za0 za1 zh _ hf
abbrev rm_X12_test : Room := { frames := 66, cells := 0, slots := 0, locals := 1579 }
theorem c_X12_test (l : Launch) (E : gE) (N : Nat) (za0 : Nat) (za1 : Int32) (zh : PH) {h9 : PH} (hf : f_X12_test N za0 za1 zh = some h9) : Met l yX12_test (gWS yX12_test cX12_test 3 none) rm_X12_test (gPc E [.ref (gB E + za0), .int za1] zh) (gQv E h9) 0 0 (gA E) := (cg_gP l E N 64).2.1 za0 za1 zh _ hf
abbrev rm_X12_sums : Room := { frames := 66, cells := 0, slots := 0, locals := 1579 }
theorem c_X12_sums (l : Launch) (E : gE) (N : Nat) (za0 : Nat) (za1 : Int32) (zh : PH) {h9 : PH} (hf : f_X12_sums N za0 za1 zh = some h9) : Met l yX12_sums (gWS yX12_sums cX12_sums 3 none) rm_X12_sums (gPc E [.ref (gB E + za0), .int za1] zh) (gQv E h9) 0 0 (gA E) := (cg_gP l E N 64).2.2.1 za0 za1 zh _ hf
abbrev rm_X12_products : Room := { frames := 66, cells := 0, slots := 0, locals := 1579 }
theorem c_X12_products (l : Launch) (E : gE) (N : Nat) (za0 : Nat) (za1 : Int32) (zh : PH) {h9 : PH} (hf : f_X12_products N za0 za1 zh = some h9) : Met l yX12_products (gWS yX12_products cX12_products 2 none) rm_X12_products (gPc E [.ref (gB E + za0), .int za1] zh) (gQv E h9) 0 0 (gA E) := (cg_gP l E N 64).2.2.2.1 za0 za1 zh _ hf
abbrev rm_X12_takePart : Room := { frames := 66, cells := 0, slots := 0, locals := 1579 }
theorem c_X12_takePart (l : Launch) (E : gE) (N : Nat) (za0 : Nat) (za1 : Int32) (zh : PH) {h9 : PH} (hf : f_X12_takePart N za0 za1 zh = some h9) : Met l yX12_takePart (gWS yX12_takePart cX12_takePart 5 none) rm_X12_takePart (gPc E [.ref (gB E + za0), .int za1] zh) (gQv E h9) 0 0 (gA E) := (cg_gP l E N 64).2.2.2.2 za0 za1 zh _ hf
abbrev rm_X12_readRule : Room := { frames := 67, cells := 0, slots := 0, locals := 1601 }
set_option maxHeartbeats 4000000 in
set_option maxRecDepth 100000 in
theorem c_X12_readRule (l : Launch) (E : gE) (N : Nat) (za0 : Nat) (zh : PH) {h9 : PH} (hf : f_X12_readRule N za0 zh = some h9) : Met l yX12_readRule (gWS yX12_readRule cX12_readRule 2 none) rm_X12_readRule (gPc E [.ref (gB E + za0)] zh) (gQv E h9) 0 0 (gA E) := by
  refine gx_met (by decide) ?_ rfl
  intro p e s m below meth c X hr hlk hin2 hw
  have hx := X.1.1
  have hb := X.1.2.1
  have hl := lv_entry [.ref (gB E + za0)] (n := 2) (Nat.le_of_ble_eq_true rfl)
  rw [lg_entry_eq]
  generalize (lg_sl [.ref (gB E + za0)] ++ List.replicate (2 - (lg_sl [.ref (gB E + za0)]).length) Slot.unset).toArray = ls at hl ⊢
  have hl : lv_has ls 2 [(0, .ref (gB E + za0))] := hl
  unfold f_X12_readRule at hf
  refine lv_aload_n hx hb dX12_readRule_0 rfl (lv_at hl 0 rfl) ?_
  obtain ⟨zt1, qzt1, hf⟩ := gb_el hf
  refine gx_getR X hw qzt1 clX12 (by decide) mf_X12_65 dX12_readRule_1 ?_
  refine lv_bipush (v := 62) hx hb dX12_readRule_4 (by decide) ?_
  obtain ⟨zt2, qzt2, hf⟩ := gb_el hf
  refine gx_iald X hw qzt2 dX12_readRule_6 ?_
  refine lv_istore_n (lv' := [(1, .int zt2), (0, .ref (gB E + za0))]) hx hb dX12_readRule_7 rfl hl (by decide) rfl (fun ls hl => ?_)
  refine lv_iload_n hx hb dX12_readRule_8 rfl (lv_at hl 0 rfl) ?_
  refine lv_iconst (v := 4) hx hb dX12_readRule_9 (by decide) ?_
  refine lv_icmp_ne (tgt := 19) hx hb dX12_readRule_10 (by decide) (fun qc3 => ?_) (fun qc3 => ?_)
  · have hf := gif_f hf qc3
    refine lv_aload_n hx hb dX12_readRule_19 rfl (lv_at hl 1 rfl) ?_
    refine W.eq (g2 := F0 m 20 ls [.ref (gB E + za0)]) rfl ?_
    refine lv_dup hx hb dX12_readRule_20 rfl ?_
    obtain ⟨zt4, qzt4, hf⟩ := gb_el hf
    refine gx_getI X hw qzt4 clX12 (by decide) mf_X12_150 dX12_readRule_21 ?_
    refine lv_iconst (v := 1) hx hb dX12_readRule_24 (by decide) ?_
    refine lv_iadd hx hb dX12_readRule_25 ?_
    obtain ⟨zh5, qzh5, hf⟩ := gb_el hf
    refine gx_putV X hw qzh5 clX12 (by decide) mf_X12_150 rfl rfl rfl dX12_readRule_26 (fun H locs hw => ?_)
    refine lv_aload_n hx hb dX12_readRule_29 rfl (lv_at hl 1 rfl) ?_
    obtain ⟨zt6, qzt6, hf⟩ := gb_el hf
    refine gx_getR X hw qzt6 clX12 (by decide) mf_X12_65 dX12_readRule_30 ?_
    refine lv_bipush (v := 113) hx hb dX12_readRule_33 (by decide) ?_
    refine lv_iload_n hx hb dX12_readRule_35 rfl (lv_at hl 0 rfl) ?_
    refine lv_iadd hx hb dX12_readRule_36 ?_
    refine W.eq (g2 := F0 m 37 ls [.int (113 + zt2), .ref (gB E + zt6)]) rfl ?_
    refine lv_aload_n hx hb dX12_readRule_37 rfl (lv_at hl 1 rfl) ?_
    obtain ⟨zt7, qzt7, hf⟩ := gb_el hf
    refine gx_getI X hw qzt7 clX12 (by decide) mf_X12_172 dX12_readRule_38 ?_
    obtain ⟨zh8, qzh8, hf⟩ := gb_el hf
    refine gx_iast X hw qzh8 dX12_readRule_41 (fun H locs hw => ?_)
    refine lv_aload_n hx hb dX12_readRule_42 rfl (lv_at hl 1 rfl) ?_
    refine lv_iconst (v := 0) hx hb dX12_readRule_43 (by decide) ?_
    obtain ⟨qizh9, hf⟩ := gg_el hf
    obtain ⟨zh9, qzh9, hf⟩ := gb_el hf
    refine gx_kv (gx_runV (As := [.int 0]) (rest := []) X hw (c_X12_all l E N za0 0 zh8 qzh9) kX12_all mm_X12_205 qizh9 clX12 ⟨Nat.le_of_ble_eq_true rfl, Nat.le_of_ble_eq_true rfl⟩ rfl rfl rfl hl.1 (Nat.le_of_ble_eq_true rfl) rfl dX12_readRule_44 ⟨Nat.le_of_ble_eq_true rfl, Nat.le_of_ble_eq_true rfl⟩) hw (fun H locs hw => ?_)
    refine lv_aload_n hx hb dX12_readRule_47 rfl (lv_at hl 1 rfl) ?_
    refine lv_iconst (v := 0) hx hb dX12_readRule_48 (by decide) ?_
    refine lv_iconst (v := 0) hx hb dX12_readRule_49 (by decide) ?_
    obtain ⟨qizh10, hf⟩ := gg_el hf
    obtain ⟨zh10, qzh10, hf⟩ := gb_el hf
    refine gx_kv (gx_runV (As := [.int 0, .int 0]) (rest := []) X hw (c_X12_emit l E N za0 0 0 zh9 qzh10) kX12_emit mm_X12_208 qizh10 clX12 ⟨Nat.le_of_ble_eq_true rfl, Nat.le_of_ble_eq_true rfl⟩ rfl rfl rfl hl.1 (Nat.le_of_ble_eq_true rfl) rfl dX12_readRule_50 ⟨Nat.le_of_ble_eq_true rfl, Nat.le_of_ble_eq_true rfl⟩) hw (fun H locs hw => ?_)
    refine W.eq (g2 := F0 m 53 ls []) rfl ?_
    refine lv_aload_n hx hb dX12_readRule_53 rfl (lv_at hl 1 rfl) ?_
    obtain ⟨zt11, qzt11, hf⟩ := gb_el hf
    refine gx_getR X hw qzt11 clX12 (by decide) mf_X12_65 dX12_readRule_54 ?_
    refine lv_bipush (v := 62) hx hb dX12_readRule_57 (by decide) ?_
    refine lv_dup2_11 hx hb dX12_readRule_59 rfl rfl ?_
    obtain ⟨zt12, qzt12, hf⟩ := gb_el hf
    refine gx_iald X hw qzt12 dX12_readRule_60 ?_
    refine lv_iconst (v := 1) hx hb dX12_readRule_61 (by decide) ?_
    refine lv_iadd hx hb dX12_readRule_62 ?_
    obtain ⟨zh13, qzh13, hf⟩ := gb_el hf
    refine gx_iast X hw qzh13 dX12_readRule_63 (fun H locs hw => ?_)
    exact gx_vret X hr hlk hw hf dX12_readRule_64
  · have hf := gif_t hf qc3
    refine lv_aload_n hx hb dX12_readRule_13 rfl (lv_at hl 1 rfl) ?_
    refine W.eq (g2 := F0 m 14 ls [.ref (gB E + za0)]) rfl ?_
    refine lv_iconst (v := 5) hx hb dX12_readRule_14 (by decide) ?_
    obtain ⟨qizh14, hf⟩ := gg_el hf
    obtain ⟨zh14, qzh14, hf⟩ := gb_el hf
    refine gx_kv (gx_runV (As := [.int 5]) (rest := []) X hw (c_X12_wrong l E N za0 5 zh qzh14) kX12_wrong mm_X12_159 qizh14 clX12 ⟨Nat.le_of_ble_eq_true rfl, Nat.le_of_ble_eq_true rfl⟩ rfl rfl rfl hl.1 (Nat.le_of_ble_eq_true rfl) rfl dX12_readRule_15 ⟨Nat.le_of_ble_eq_true rfl, Nat.le_of_ble_eq_true rfl⟩) hw (fun H locs hw => ?_)
    exact gx_vret X hr hlk hw hf dX12_readRule_18
abbrev rm_X12_readLine : Room := { frames := 68, cells := 0, slots := 0, locals := 1622 }
set_option maxHeartbeats 4000000 in
set_option maxRecDepth 100000 in
theorem c_X12_readLine (l : Launch) (E : gE) (N : Nat) (za0 : Nat) (zh : PH) {h9 : PH} (hf : f_X12_readLine N za0 zh = some h9) : Met l yX12_readLine (gWS yX12_readLine cX12_readLine 1 none) rm_X12_readLine (gPc E [.ref (gB E + za0)] zh) (gQv E h9) 0 0 (gA E) := by
  refine gx_met (by decide) ?_ rfl
  intro p e s m below meth c X hr hlk hin2 hw
  have hx := X.1.1
  have hb := X.1.2.1
  have hl := lv_entry [.ref (gB E + za0)] (n := 1) (Nat.le_of_ble_eq_true rfl)
  rw [lg_entry_eq]
  generalize (lg_sl [.ref (gB E + za0)] ++ List.replicate (1 - (lg_sl [.ref (gB E + za0)]).length) Slot.unset).toArray = ls at hl ⊢
  have hl : lv_has ls 1 [(0, .ref (gB E + za0))] := hl
  have J_50 : ∀ (zh : PH) (H : Heap) (locs : List Loc) (ls : Array Slot), f_X12_readLine_50 N zh = some h9 → gw E s zh H locs → lv_has ls 1 [] → W p l e rm_X12_readLine s m [.ref (gB E + za0)].toArray below meth c H locs 0 0 (MQ below (gQv E h9) [.ref (gB E + za0)].toArray s 0 0 (gA E)) (F0 m 50 ls []) := by
    intro zh H locs ls hf hw hl
    unfold f_X12_readLine_50 at hf
    exact gx_vret X hr hlk hw hf dX12_readLine_50
  unfold f_X12_readLine at hf
  refine lv_aload_n hx hb dX12_readLine_0 rfl (lv_at hl 0 rfl) ?_
  refine lv_iconst (v := 0) hx hb dX12_readLine_1 (by decide) ?_
  obtain ⟨qizh1, hf⟩ := gg_el hf
  obtain ⟨zt2, zh1, qzh1, hf⟩ := gc_el hf
  refine gx_ki (gx_runV (As := [.int 0]) (rest := []) X hw (c_X12_isWord l E N za0 0 zh qzh1) kX12_isWord mm_X12_163 qizh1 clX12 ⟨Nat.le_of_ble_eq_true rfl, Nat.le_of_ble_eq_true rfl⟩ rfl rfl rfl hl.1 (Nat.le_of_ble_eq_true rfl) rfl dX12_readLine_2 ⟨Nat.le_of_ble_eq_true rfl, Nat.le_of_ble_eq_true rfl⟩) hw (fun H locs hw => ?_)
  refine lv_if_eq (tgt := 15) hx hb dX12_readLine_5 (by decide) (fun qc3 => ?_) (fun qc3 => ?_)
  · have hf := gif_t hf qc3
    refine lv_aload_n hx hb dX12_readLine_15 rfl (lv_at hl 0 rfl) ?_
    refine lv_iconst (v := 1) hx hb dX12_readLine_16 (by decide) ?_
    obtain ⟨qizh4, hf⟩ := gg_el hf
    obtain ⟨zt5, zh4, qzh4, hf⟩ := gc_el hf
    refine gx_ki (gx_runV (As := [.int 1]) (rest := []) X hw (c_X12_isWord l E N za0 1 zh1 qzh4) kX12_isWord mm_X12_163 qizh4 clX12 ⟨Nat.le_of_ble_eq_true rfl, Nat.le_of_ble_eq_true rfl⟩ rfl rfl rfl hl.1 (Nat.le_of_ble_eq_true rfl) rfl dX12_readLine_17 ⟨Nat.le_of_ble_eq_true rfl, Nat.le_of_ble_eq_true rfl⟩) hw (fun H locs hw => ?_)
    refine lv_if_eq (tgt := 30) hx hb dX12_readLine_20 (by decide) (fun qc6 => ?_) (fun qc6 => ?_)
    · have hf := gif_t hf qc6
      refine lv_aload_n hx hb dX12_readLine_30 rfl (lv_at hl 0 rfl) ?_
      refine W.eq (g2 := F0 m 31 ls [.ref (gB E + za0)]) rfl ?_
      refine lv_iconst (v := 5) hx hb dX12_readLine_31 (by decide) ?_
      obtain ⟨qizh7, hf⟩ := gg_el hf
      obtain ⟨zt8, zh7, qzh7, hf⟩ := gc_el hf
      refine gx_ki (gx_runV (As := [.int 5]) (rest := []) X hw (c_X12_isWord l E N za0 5 zh4 qzh7) kX12_isWord mm_X12_163 qizh7 clX12 ⟨Nat.le_of_ble_eq_true rfl, Nat.le_of_ble_eq_true rfl⟩ rfl rfl rfl hl.1 (Nat.le_of_ble_eq_true rfl) rfl dX12_readLine_32 ⟨Nat.le_of_ble_eq_true rfl, Nat.le_of_ble_eq_true rfl⟩) hw (fun H locs hw => ?_)
      refine lv_if_eq (tgt := 45) hx hb dX12_readLine_35 (by decide) (fun qc9 => ?_) (fun qc9 => ?_)
      · have hf := gif_t hf qc9
        refine lv_aload_n hx hb dX12_readLine_45 rfl (lv_at hl 0 rfl) ?_
        refine lv_iconst (v := 1) hx hb dX12_readLine_46 (by decide) ?_
        obtain ⟨qizh10, hf⟩ := gg_el hf
        obtain ⟨zh10, qzh10, hf⟩ := gb_el hf
        refine gx_kv (gx_runV (As := [.int 1]) (rest := []) X hw (c_X12_wrong l E N za0 1 zh7 qzh10) kX12_wrong mm_X12_159 qizh10 clX12 ⟨Nat.le_of_ble_eq_true rfl, Nat.le_of_ble_eq_true rfl⟩ rfl rfl rfl hl.1 (Nat.le_of_ble_eq_true rfl) rfl dX12_readLine_47 ⟨Nat.le_of_ble_eq_true rfl, Nat.le_of_ble_eq_true rfl⟩) hw (fun H locs hw => ?_)
        exact J_50  _ _ _ ls hf hw (lv_sub hl [] rfl)
      · have hf := gif_f hf qc9
        refine lv_aload_n hx hb dX12_readLine_38 rfl (lv_at hl 0 rfl) ?_
        obtain ⟨qizh11, hf⟩ := gg_el hf
        obtain ⟨zh11, qzh11, hf⟩ := gb_el hf
        refine gx_kv (gx_runV (As := []) (rest := []) X hw (c_X12_readRule l E N za0 zh7 qzh11) kX12_readRule mm_X12_191 qizh11 clX12 ⟨Nat.le_of_ble_eq_true rfl, Nat.le_of_ble_eq_true rfl⟩ rfl rfl rfl hl.1 (Nat.le_of_ble_eq_true rfl) rfl dX12_readLine_39 ⟨Nat.le_of_ble_eq_true rfl, Nat.le_of_ble_eq_true rfl⟩) hw (fun H locs hw => ?_)
        refine lv_goto (tgt := 50) hx hb dX12_readLine_42 (by decide) ?_
        exact J_50  _ _ _ ls hf hw (lv_sub hl [] rfl)
    · have hf := gif_f hf qc6
      refine lv_aload_n hx hb dX12_readLine_23 rfl (lv_at hl 0 rfl) ?_
      refine W.eq (g2 := F0 m 24 ls [.ref (gB E + za0)]) rfl ?_
      obtain ⟨qizh12, hf⟩ := gg_el hf
      obtain ⟨zh12, qzh12, hf⟩ := gb_el hf
      refine gx_kv (gx_runV (As := []) (rest := []) X hw (c_X12_readGuest l E N za0 zh4 qzh12) kX12_readGuest mm_X12_188 qizh12 clX12 ⟨Nat.le_of_ble_eq_true rfl, Nat.le_of_ble_eq_true rfl⟩ rfl rfl rfl hl.1 (Nat.le_of_ble_eq_true rfl) rfl dX12_readLine_24 ⟨Nat.le_of_ble_eq_true rfl, Nat.le_of_ble_eq_true rfl⟩) hw (fun H locs hw => ?_)
      refine lv_goto (tgt := 50) hx hb dX12_readLine_27 (by decide) ?_
      exact J_50  _ _ _ ls hf hw (lv_sub hl [] rfl)
  · have hf := gif_f hf qc3
    refine lv_aload_n hx hb dX12_readLine_8 rfl (lv_at hl 0 rfl) ?_
    obtain ⟨qizh13, hf⟩ := gg_el hf
    obtain ⟨zh13, qzh13, hf⟩ := gb_el hf
    refine gx_kv (gx_runV (As := []) (rest := []) X hw (c_X12_readRoom l E N za0 zh1 qzh13) kX12_readRoom mm_X12_185 qizh13 clX12 ⟨Nat.le_of_ble_eq_true rfl, Nat.le_of_ble_eq_true rfl⟩ rfl rfl rfl hl.1 (Nat.le_of_ble_eq_true rfl) rfl dX12_readLine_9 ⟨Nat.le_of_ble_eq_true rfl, Nat.le_of_ble_eq_true rfl⟩) hw (fun H locs hw => ?_)
    refine lv_goto (tgt := 50) hx hb dX12_readLine_12 (by decide) ?_
    exact J_50  _ _ _ ls hf hw (lv_sub hl [] rfl)
abbrev rm_X12_rules : Room := { frames := 0, cells := 0, slots := 0, locals := 0 }
set_option maxHeartbeats 4000000 in
set_option maxRecDepth 100000 in
theorem c_X12_rules (l : Launch) (E : gE) (N : Nat) (za0 : Nat) (zh : PH) {h9 : PH} {r9 : Int32} (hf : f_X12_rules N za0 zh = some (r9, h9)) : Met l yX12_rules (gWS yX12_rules cX12_rules 1 (some .int)) rm_X12_rules (gPc E [.ref (gB E + za0)] zh) (gQi E r9 h9) 0 0 (gA E) := by
  refine gx_met (by decide) ?_ rfl
  intro p e s m below meth c X hr hlk hin2 hw
  have hx := X.1.1
  have hb := X.1.2.1
  have hl := lv_entry [.ref (gB E + za0)] (n := 1) (Nat.le_of_ble_eq_true rfl)
  rw [lg_entry_eq]
  generalize (lg_sl [.ref (gB E + za0)] ++ List.replicate (1 - (lg_sl [.ref (gB E + za0)]).length) Slot.unset).toArray = ls at hl ⊢
  have hl : lv_has ls 1 [(0, .ref (gB E + za0))] := hl
  unfold f_X12_rules at hf
  refine lv_aload_n hx hb dX12_rules_0 rfl (lv_at hl 0 rfl) ?_
  obtain ⟨zt1, qzt1, hf⟩ := gb_el hf
  refine gx_getR X hw qzt1 clX12 (by decide) mf_X12_65 dX12_rules_1 ?_
  refine lv_iconst (v := 2) hx hb dX12_rules_4 (by decide) ?_
  obtain ⟨zt2, qzt2, hf⟩ := gb_el hf
  refine gx_iald X hw qzt2 dX12_rules_5 ?_
  exact gx_iret X hr hlk hw hf dX12_rules_6
abbrev rm_X12_inn : Room := { frames := 69, cells := 0, slots := 0, locals := 1642 }
set_option maxHeartbeats 4000000 in
set_option maxRecDepth 100000 in
theorem c_X12_inn (l : Launch) (E : gE) (N : Nat) (za0 : Nat) (zh : PH) {h9 : PH} {r9 : Int32} (hf : f_X12_inn N za0 zh = some (r9, h9)) : Met l yX12_inn (gWS yX12_inn cX12_inn 2 (some .int)) rm_X12_inn (gPc E [.ref (gB E + za0)] zh) (gQi E r9 h9) 0 0 (gA E) := by
  refine gx_met (by decide) ?_ rfl
  intro p e s m below meth c X hr hlk hin2 hw
  have hx := X.1.1
  have hb := X.1.2.1
  have hl := lv_entry [.ref (gB E + za0)] (n := 2) (Nat.le_of_ble_eq_true rfl)
  rw [lg_entry_eq]
  generalize (lg_sl [.ref (gB E + za0)] ++ List.replicate (2 - (lg_sl [.ref (gB E + za0)]).length) Slot.unset).toArray = ls at hl ⊢
  have hl : lv_has ls 2 [(0, .ref (gB E + za0))] := hl
  have L_201 : ∀ (zn201 : Nat) (zv0 : Nat) (zv1 : Int32) (zh : PH) (H : Heap) (locs : List Loc) (ls : Array Slot), gi (fun zk zs => f_X12_inn_201 N zk zs.1 zs.2.1 zs.2.2) zn201 (zv0, zv1, zh) = some (r9, h9) → gw E s zh H locs → lv_has ls 2 [(0, .ref (gB E + zv0)), (1, .int zv1)] → W p l e rm_X12_inn s m [.ref (gB E + za0)].toArray below meth c H locs 0 0 (MQ below (gQi E r9 h9) [.ref (gB E + za0)].toArray s 0 0 (gA E)) (F0 m 201 ls []) := by
    intro zn201
    induction zn201 with
    | zero =>
      intro zv0 zv1 zh H locs ls hf
      cases hf
    | succ zn201 ih_201 =>
      intro zv0 zv1 zh H locs ls hf hw hl
      have hf := gi_s hf
      dsimp only at hf
      unfold f_X12_inn_201 at hf
      refine lv_iload_n hx hb dX12_inn_201 rfl (lv_at hl 1 rfl) ?_
      refine lv_iconst (v := 4) hx hb dX12_inn_202 (by decide) ?_
      refine lv_icmp_ge (tgt := 219) hx hb dX12_inn_203 (by decide) (fun qc1 => ?_) (fun qc1 => ?_)
      · have hf := gif_t hf qc1
        refine lv_aload_n hx hb dX12_inn_219 rfl (lv_at hl 0 rfl) ?_
        refine lv_iconst (v := 1) hx hb dX12_inn_220 (by decide) ?_
        obtain ⟨zh2, qzh2, hf⟩ := gb_el hf
        refine gx_putV X hw qzh2 clX12 (by decide) mf_X12_123 rfl rfl rfl dX12_inn_221 (fun H locs hw => ?_)
        refine lv_iconst (v := 0) hx hb dX12_inn_224 (by decide) ?_
        exact gx_iret X hr hlk hw hf dX12_inn_225
      · have hf := gif_f hf qc1
        refine lv_aload_n hx hb dX12_inn_206 rfl (lv_at hl 0 rfl) ?_
        obtain ⟨zt3, qzt3, hf⟩ := gb_el hf
        refine gx_getR X hw qzt3 clX12 (by decide) mf_X12_120 dX12_inn_207 ?_
        refine lv_iload_n hx hb dX12_inn_210 rfl (lv_at hl 1 rfl) ?_
        refine lv_iconst (v := 0) hx hb dX12_inn_211 (by decide) ?_
        obtain ⟨zh4, qzh4, hf⟩ := gb_el hf
        refine gx_zast X hw qzh4 dX12_inn_212 (fun H locs hw => ?_)
        obtain ⟨zx5, ezx5⟩ : ∃ y : Int32, y = zv1 + 1 := ⟨_, rfl⟩
        have hf := gl_el hf ezx5
        refine lv_iinc (v := zx5) (lv' := [(1, .int zx5), (0, .ref (gB E + zv0))]) hx hb dX12_inn_213 hl (k := 1) rfl (by rw [ezx5]; rfl) (by decide) rfl (fun ls hl => ?_)
        refine W.eq (g2 := F0 m 216 ls []) rfl ?_
        refine lv_goto (tgt := 201) hx hb dX12_inn_216 (by decide) ?_
        exact ih_201 zv0 zx5 _ _ _ ls hf hw (lv_sub hl [1, 0] rfl)
  have J_198 : ∀ (zv0 : Nat) (zs0 : Int32) (zs1 : Int32) (zs2 : Nat) (zh : PH) (H : Heap) (locs : List Loc) (ls : Array Slot), f_X12_inn_198 N zv0 zs0 zs1 zs2 zh = some (r9, h9) → gw E s zh H locs → lv_has ls 2 [(0, .ref (gB E + zv0))] → W p l e rm_X12_inn s m [.ref (gB E + za0)].toArray below meth c H locs 0 0 (MQ below (gQi E r9 h9) [.ref (gB E + za0)].toArray s 0 0 (gA E)) (F0 m 198 ls [.int zs0, .int zs1, .ref (gB E + zs2)]) := by
    intro zv0 zs0 zs1 zs2 zh H locs ls hf hw hl
    unfold f_X12_inn_198 at hf
    obtain ⟨zh1, qzh1, hf⟩ := gb_el hf
    refine gx_iast X hw qzh1 dX12_inn_198 (fun H locs hw => ?_)
    refine lv_iconst (v := 0) hx hb dX12_inn_199 (by decide) ?_
    refine lv_istore_n (lv' := [(1, .int 0), (0, .ref (gB E + zv0))]) hx hb dX12_inn_200 rfl hl (by decide) rfl (fun ls hl => ?_)
    exact L_201 N zv0 0 _ _ _ ls hf hw (lv_sub hl [1, 0] rfl)
  have L_161 : ∀ (zn161 : Nat) (zv0 : Nat) (zv1 : Int32) (zh : PH) (H : Heap) (locs : List Loc) (ls : Array Slot), gi (fun zk zs => f_X12_inn_161 N zk zs.1 zs.2.1 zs.2.2) zn161 (zv0, zv1, zh) = some (r9, h9) → gw E s zh H locs → lv_has ls 2 [(0, .ref (gB E + zv0)), (1, .int zv1)] → W p l e rm_X12_inn s m [.ref (gB E + za0)].toArray below meth c H locs 0 0 (MQ below (gQi E r9 h9) [.ref (gB E + za0)].toArray s 0 0 (gA E)) (F0 m 161 ls []) := by
    intro zn161
    induction zn161 with
    | zero =>
      intro zv0 zv1 zh H locs ls hf
      cases hf
    | succ zn161 ih_161 =>
      intro zv0 zv1 zh H locs ls hf hw hl
      have hf := gi_s hf
      dsimp only at hf
      unfold f_X12_inn_161 at hf
      refine lv_iload_n hx hb dX12_inn_161 rfl (lv_at hl 1 rfl) ?_
      refine lv_sipush (v := 520) hx hb dX12_inn_162 (by decide) ?_
      refine lv_icmp_ge (tgt := 181) hx hb dX12_inn_165 (by decide) (fun qc1 => ?_) (fun qc1 => ?_)
      · have hf := gif_t hf qc1
        refine lv_aload_n hx hb dX12_inn_181 rfl (lv_at hl 0 rfl) ?_
        obtain ⟨zt2, qzt2, hf⟩ := gb_el hf
        refine gx_getR X hw qzt2 clX12 (by decide) mf_X12_83 dX12_inn_182 ?_
        refine lv_iconst (v := 0) hx hb dX12_inn_185 (by decide) ?_
        refine lv_aload_n hx hb dX12_inn_186 rfl (lv_at hl 0 rfl) ?_
        obtain ⟨qizh3, hf⟩ := gg_el hf
        obtain ⟨zt4, zh3, qzh3, hf⟩ := gc_el hf
        refine gx_ki (gx_runV (As := []) (rest := [.int 0, .ref (gB E + zt2)]) X hw (c_X12_rules l E N zv0 zh qzh3) kX12_rules mm_X12_181 qizh3 clX12 ⟨Nat.le_of_ble_eq_true rfl, Nat.le_of_ble_eq_true rfl⟩ rfl rfl rfl hl.1 (Nat.le_of_ble_eq_true rfl) rfl dX12_inn_187 ⟨Nat.le_of_ble_eq_true rfl, Nat.le_of_ble_eq_true rfl⟩) hw (fun H locs hw => ?_)
        refine lv_if_le (tgt := 197) hx hb dX12_inn_190 (by decide) (fun qc5 => ?_) (fun qc5 => ?_)
        · have hf := gif_t hf qc5
          refine W.eq (g2 := F0 m 197 ls [.int 0, .ref (gB E + zt2)]) rfl ?_
          refine lv_iconst (v := (-1)) hx hb dX12_inn_197 (by decide) ?_
          exact J_198 zv0 (-1) 0 zt2 _ _ _ ls hf hw (lv_sub hl [0] rfl)
        · have hf := gif_f hf qc5
          refine W.eq (g2 := F0 m 193 ls [.int 0, .ref (gB E + zt2)]) rfl ?_
          refine lv_iconst (v := 0) hx hb dX12_inn_193 (by decide) ?_
          refine lv_goto (tgt := 198) hx hb dX12_inn_194 (by decide) ?_
          exact J_198 zv0 0 0 zt2 _ _ _ ls hf hw (lv_sub hl [0] rfl)
      · have hf := gif_f hf qc1
        refine lv_aload_n hx hb dX12_inn_168 rfl (lv_at hl 0 rfl) ?_
        obtain ⟨zt6, qzt6, hf⟩ := gb_el hf
        refine gx_getR X hw qzt6 clX12 (by decide) mf_X12_83 dX12_inn_169 ?_
        refine lv_iload_n hx hb dX12_inn_172 rfl (lv_at hl 1 rfl) ?_
        refine lv_iconst (v := 0) hx hb dX12_inn_173 (by decide) ?_
        obtain ⟨zh7, qzh7, hf⟩ := gb_el hf
        refine gx_iast X hw qzh7 dX12_inn_174 (fun H locs hw => ?_)
        obtain ⟨zx8, ezx8⟩ : ∃ y : Int32, y = zv1 + 1 := ⟨_, rfl⟩
        have hf := gl_el hf ezx8
        refine lv_iinc (v := zx8) (lv' := [(1, .int zx8), (0, .ref (gB E + zv0))]) hx hb dX12_inn_175 hl (k := 1) rfl (by rw [ezx8]; rfl) (by decide) rfl (fun ls hl => ?_)
        refine W.eq (g2 := F0 m 178 ls []) rfl ?_
        refine lv_goto (tgt := 161) hx hb dX12_inn_178 (by decide) ?_
        exact ih_161 zv0 zx8 _ _ _ ls hf hw (lv_sub hl [1, 0] rfl)
  have L_113 : ∀ (zn113 : Nat) (zv0 : Nat) (zv1 : Int32) (zh : PH) (H : Heap) (locs : List Loc) (ls : Array Slot), gi (fun zk zs => f_X12_inn_113 N zk zs.1 zs.2.1 zs.2.2) zn113 (zv0, zv1, zh) = some (r9, h9) → gw E s zh H locs → lv_has ls 2 [(0, .ref (gB E + zv0)), (1, .int zv1)] → W p l e rm_X12_inn s m [.ref (gB E + za0)].toArray below meth c H locs 0 0 (MQ below (gQi E r9 h9) [.ref (gB E + za0)].toArray s 0 0 (gA E)) (F0 m 113 ls []) := by
    intro zn113
    induction zn113 with
    | zero =>
      intro zv0 zv1 zh H locs ls hf
      cases hf
    | succ zn113 ih_113 =>
      intro zv0 zv1 zh H locs ls hf hw hl
      have hf := gi_s hf
      dsimp only at hf
      unfold f_X12_inn_113 at hf
      refine lv_iload_n hx hb dX12_inn_113 rfl (lv_at hl 1 rfl) ?_
      refine lv_aload_n hx hb dX12_inn_114 rfl (lv_at hl 0 rfl) ?_
      obtain ⟨zt1, qzt1, hf⟩ := gb_el hf
      refine gx_getI X hw qzt1 clX12 (by decide) mf_X12_172 dX12_inn_115 ?_
      refine lv_icmp_ge (tgt := 159) hx hb dX12_inn_118 (by decide) (fun qc2 => ?_) (fun qc2 => ?_)
      · have hf := gif_t hf qc2
        refine lv_iconst (v := 0) hx hb dX12_inn_159 (by decide) ?_
        refine lv_istore_n (lv' := [(1, .int 0), (0, .ref (gB E + zv0))]) hx hb dX12_inn_160 rfl hl (by decide) rfl (fun ls hl => ?_)
        exact L_161 N zv0 0 _ _ _ ls hf hw (lv_sub hl [1, 0] rfl)
      · have hf := gif_f hf qc2
        refine lv_aload_n hx hb dX12_inn_121 rfl (lv_at hl 0 rfl) ?_
        obtain ⟨zt3, qzt3, hf⟩ := gb_el hf
        refine gx_getR X hw qzt3 clX12 (by decide) mf_X12_68 dX12_inn_122 ?_
        refine lv_iload_n hx hb dX12_inn_125 rfl (lv_at hl 1 rfl) ?_
        refine lv_aload_n hx hb dX12_inn_126 rfl (lv_at hl 0 rfl) ?_
        obtain ⟨zt4, qzt4, hf⟩ := gb_el hf
        refine gx_getR X hw qzt4 clX12 (by decide) mf_X12_68 dX12_inn_127 ?_
        refine W.eq (g2 := F0 m 130 ls [.ref (gB E + zt4), .int zv1, .ref (gB E + zt3)]) rfl ?_
        refine lv_sipush (v := 1100) hx hb dX12_inn_130 (by decide) ?_
        refine lv_iload_n hx hb dX12_inn_133 rfl (lv_at hl 1 rfl) ?_
        refine lv_iadd hx hb dX12_inn_134 ?_
        obtain ⟨zt5, qzt5, hf⟩ := gb_el hf
        refine gx_iald X hw qzt5 dX12_inn_135 ?_
        obtain ⟨zh6, qzh6, hf⟩ := gb_el hf
        refine gx_iast X hw qzh6 dX12_inn_136 (fun H locs hw => ?_)
        refine lv_aload_n hx hb dX12_inn_137 rfl (lv_at hl 0 rfl) ?_
        obtain ⟨zt7, qzt7, hf⟩ := gb_el hf
        refine gx_getR X hw qzt7 clX12 (by decide) mf_X12_71 dX12_inn_138 ?_
        refine lv_iload_n hx hb dX12_inn_141 rfl (lv_at hl 1 rfl) ?_
        refine lv_aload_n hx hb dX12_inn_142 rfl (lv_at hl 0 rfl) ?_
        obtain ⟨zt8, qzt8, hf⟩ := gb_el hf
        refine gx_getR X hw qzt8 clX12 (by decide) mf_X12_71 dX12_inn_143 ?_
        refine W.eq (g2 := F0 m 146 ls [.ref (gB E + zt8), .int zv1, .ref (gB E + zt7)]) rfl ?_
        refine lv_sipush (v := 1100) hx hb dX12_inn_146 (by decide) ?_
        refine lv_iload_n hx hb dX12_inn_149 rfl (lv_at hl 1 rfl) ?_
        refine lv_iadd hx hb dX12_inn_150 ?_
        obtain ⟨zt9, qzt9, hf⟩ := gb_el hf
        refine gx_iald X hw qzt9 dX12_inn_151 ?_
        obtain ⟨zh10, qzh10, hf⟩ := gb_el hf
        refine gx_iast X hw qzh10 dX12_inn_152 (fun H locs hw => ?_)
        obtain ⟨zx11, ezx11⟩ : ∃ y : Int32, y = zv1 + 1 := ⟨_, rfl⟩
        have hf := gl_el hf ezx11
        refine lv_iinc (v := zx11) (lv' := [(1, .int zx11), (0, .ref (gB E + zv0))]) hx hb dX12_inn_153 hl (k := 1) rfl (by rw [ezx11]; rfl) (by decide) rfl (fun ls hl => ?_)
        refine lv_goto (tgt := 113) hx hb dX12_inn_156 (by decide) ?_
        exact ih_113 zv0 zx11 _ _ _ ls hf hw (lv_sub hl [1, 0] rfl)
  have L_84 : ∀ (zn84 : Nat) (zv0 : Nat) (zv1 : Int32) (zh : PH) (H : Heap) (locs : List Loc) (ls : Array Slot), gi (fun zk zs => f_X12_inn_84 N zk zs.1 zs.2.1 zs.2.2) zn84 (zv0, zv1, zh) = some (r9, h9) → gw E s zh H locs → lv_has ls 2 [(0, .ref (gB E + zv0)), (1, .int zv1)] → W p l e rm_X12_inn s m [.ref (gB E + za0)].toArray below meth c H locs 0 0 (MQ below (gQi E r9 h9) [.ref (gB E + za0)].toArray s 0 0 (gA E)) (F0 m 84 ls []) := by
    intro zn84
    induction zn84 with
    | zero =>
      intro zv0 zv1 zh H locs ls hf
      cases hf
    | succ zn84 ih_84 =>
      intro zv0 zv1 zh H locs ls hf hw hl
      have hf := gi_s hf
      dsimp only at hf
      unfold f_X12_inn_84 at hf
      refine lv_iload_n hx hb dX12_inn_84 rfl (lv_at hl 1 rfl) ?_
      refine lv_bipush (v := 60) hx hb dX12_inn_85 (by decide) ?_
      refine lv_icmp_ge (tgt := 111) hx hb dX12_inn_87 (by decide) (fun qc1 => ?_) (fun qc1 => ?_)
      · have hf := gif_t hf qc1
        refine lv_iconst (v := 0) hx hb dX12_inn_111 (by decide) ?_
        refine lv_istore_n (lv' := [(1, .int 0), (0, .ref (gB E + zv0))]) hx hb dX12_inn_112 rfl hl (by decide) rfl (fun ls hl => ?_)
        exact L_113 N zv0 0 _ _ _ ls hf hw (lv_sub hl [1, 0] rfl)
      · have hf := gif_f hf qc1
        refine lv_aload_n hx hb dX12_inn_90 rfl (lv_at hl 0 rfl) ?_
        obtain ⟨zt2, qzt2, hf⟩ := gb_el hf
        refine gx_getR X hw qzt2 clX12 (by decide) mf_X12_65 dX12_inn_91 ?_
        refine lv_iload_n hx hb dX12_inn_94 rfl (lv_at hl 1 rfl) ?_
        refine lv_aload_n hx hb dX12_inn_95 rfl (lv_at hl 0 rfl) ?_
        obtain ⟨zt3, qzt3, hf⟩ := gb_el hf
        refine gx_getR X hw qzt3 clX12 (by decide) mf_X12_65 dX12_inn_96 ?_
        refine lv_bipush (v := 60) hx hb dX12_inn_99 (by decide) ?_
        refine W.eq (g2 := F0 m 101 ls [.int 60, .ref (gB E + zt3), .int zv1, .ref (gB E + zt2)]) rfl ?_
        refine lv_iload_n hx hb dX12_inn_101 rfl (lv_at hl 1 rfl) ?_
        refine lv_iadd hx hb dX12_inn_102 ?_
        obtain ⟨zt4, qzt4, hf⟩ := gb_el hf
        refine gx_iald X hw qzt4 dX12_inn_103 ?_
        obtain ⟨zh5, qzh5, hf⟩ := gb_el hf
        refine gx_iast X hw qzh5 dX12_inn_104 (fun H locs hw => ?_)
        obtain ⟨zx6, ezx6⟩ : ∃ y : Int32, y = zv1 + 1 := ⟨_, rfl⟩
        have hf := gl_el hf ezx6
        refine lv_iinc (v := zx6) (lv' := [(1, .int zx6), (0, .ref (gB E + zv0))]) hx hb dX12_inn_105 hl (k := 1) rfl (by rw [ezx6]; rfl) (by decide) rfl (fun ls hl => ?_)
        refine lv_goto (tgt := 84) hx hb dX12_inn_108 (by decide) ?_
        exact ih_84 zv0 zx6 _ _ _ ls hf hw (lv_sub hl [1, 0] rfl)
  have J_70 : ∀ (zv0 : Nat) (zh : PH) (H : Heap) (locs : List Loc) (ls : Array Slot), f_X12_inn_70 N zv0 zh = some (r9, h9) → gw E s zh H locs → lv_has ls 2 [(0, .ref (gB E + zv0))] → W p l e rm_X12_inn s m [.ref (gB E + za0)].toArray below meth c H locs 0 0 (MQ below (gQi E r9 h9) [.ref (gB E + za0)].toArray s 0 0 (gA E)) (F0 m 70 ls []) := by
    intro zv0 zh H locs ls hf hw hl
    unfold f_X12_inn_70 at hf
    refine lv_aload_n hx hb dX12_inn_70 rfl (lv_at hl 0 rfl) ?_
    obtain ⟨zt1, qzt1, hf⟩ := gb_el hf
    refine gx_getI X hw qzt1 clX12 (by decide) mf_X12_153 dX12_inn_71 ?_
    refine lv_if_le (tgt := 82) hx hb dX12_inn_74 (by decide) (fun qc2 => ?_) (fun qc2 => ?_)
    · have hf := gif_t hf qc2
      refine lv_iconst (v := 0) hx hb dX12_inn_82 (by decide) ?_
      refine lv_istore_n (lv' := [(1, .int 0), (0, .ref (gB E + zv0))]) hx hb dX12_inn_83 rfl hl (by decide) rfl (fun ls hl => ?_)
      exact L_84 N zv0 0 _ _ _ ls hf hw (lv_sub hl [1, 0] rfl)
    · have hf := gif_f hf qc2
      refine lv_aload_n hx hb dX12_inn_77 rfl (lv_at hl 0 rfl) ?_
      obtain ⟨zt3, qzt3, hf⟩ := gb_el hf
      refine gx_getI X hw qzt3 clX12 (by decide) mf_X12_153 dX12_inn_78 ?_
      exact gx_iret X hr hlk hw hf dX12_inn_81
  have L_38 : ∀ (zn38 : Nat) (zv0 : Nat) (zh : PH) (H : Heap) (locs : List Loc) (ls : Array Slot), gi (fun zk zs => f_X12_inn_38 N zk zs.1 zs.2) zn38 (zv0, zh) = some (r9, h9) → gw E s zh H locs → lv_has ls 2 [(0, .ref (gB E + zv0))] → W p l e rm_X12_inn s m [.ref (gB E + za0)].toArray below meth c H locs 0 0 (MQ below (gQi E r9 h9) [.ref (gB E + za0)].toArray s 0 0 (gA E)) (F0 m 38 ls []) := by
    intro zn38
    induction zn38 with
    | zero =>
      intro zv0 zh H locs ls hf
      cases hf
    | succ zn38 ih_38 =>
      intro zv0 zh H locs ls hf hw hl
      have hf := gi_s hf
      dsimp only at hf
      unfold f_X12_inn_38 at hf
      refine lv_aload_n hx hb dX12_inn_38 rfl (lv_at hl 0 rfl) ?_
      obtain ⟨zt1, qzt1, hf⟩ := gb_el hf
      refine gx_getI X hw qzt1 clX12 (by decide) mf_X12_153 dX12_inn_39 ?_
      refine lv_if_ne (tgt := 70) hx hb dX12_inn_42 (by decide) (fun qc2 => ?_) (fun qc2 => ?_)
      · have hf := gif_f hf qc2
        exact J_70 zv0 _ _ _ ls hf hw (lv_sub hl [0] rfl)
      · have hf := gif_t hf qc2
        refine lv_aload_n hx hb dX12_inn_45 rfl (lv_at hl 0 rfl) ?_
        obtain ⟨zt3, qzt3, hf⟩ := gb_el hf
        refine gx_getR X hw qzt3 clX12 (by decide) mf_X12_24 dX12_inn_46 ?_
        refine lv_aload_n hx hb dX12_inn_49 rfl (lv_at hl 0 rfl) ?_
        obtain ⟨zt4, qzt4, hf⟩ := gb_el hf
        refine gx_getI X hw qzt4 clX12 (by decide) mf_X12_150 dX12_inn_50 ?_
        obtain ⟨zt5, qzt5, hf⟩ := gb_el hf
        refine gx_iald X hw qzt5 dX12_inn_53 ?_
        refine lv_if_eq (tgt := 70) hx hb dX12_inn_54 (by decide) (fun qc6 => ?_) (fun qc6 => ?_)
        · have hf := gif_t hf qc6
          exact J_70 zv0 _ _ _ ls hf hw (lv_sub hl [0] rfl)
        · have hf := gif_f hf qc6
          refine W.eq (g2 := F0 m 57 ls []) rfl ?_
          refine lv_aload_n hx hb dX12_inn_57 rfl (lv_at hl 0 rfl) ?_
          obtain ⟨qizh7, hf⟩ := gg_el hf
          obtain ⟨zh7, qzh7, hf⟩ := gb_el hf
          refine gx_kv (gx_runV (As := []) (rest := []) X hw (c_X12_readLine l E N zv0 zh qzh7) kX12_readLine mm_X12_175 qizh7 clX12 ⟨Nat.le_of_ble_eq_true rfl, Nat.le_of_ble_eq_true rfl⟩ rfl rfl rfl hl.1 (Nat.le_of_ble_eq_true rfl) rfl dX12_inn_58 ⟨Nat.le_of_ble_eq_true rfl, Nat.le_of_ble_eq_true rfl⟩) hw (fun H locs hw => ?_)
          refine lv_aload_n hx hb dX12_inn_61 rfl (lv_at hl 0 rfl) ?_
          refine lv_bipush (v := 59) hx hb dX12_inn_62 (by decide) ?_
          obtain ⟨qizh8, hf⟩ := gg_el hf
          obtain ⟨zh8, qzh8, hf⟩ := gb_el hf
          refine gx_kv (gx_runV (As := [.int 59]) (rest := []) X hw (c_X12_takeSign l E N zv0 59 zh7 qzh8) kX12_takeSign mm_X12_178 qizh8 clX12 ⟨Nat.le_of_ble_eq_true rfl, Nat.le_of_ble_eq_true rfl⟩ rfl rfl rfl hl.1 (Nat.le_of_ble_eq_true rfl) rfl dX12_inn_64 ⟨Nat.le_of_ble_eq_true rfl, Nat.le_of_ble_eq_true rfl⟩) hw (fun H locs hw => ?_)
          refine lv_goto (tgt := 38) hx hb dX12_inn_67 (by decide) ?_
          exact ih_38 zv0 _ _ _ ls hf hw (lv_sub hl [0] rfl)
  have L_16 : ∀ (zn16 : Nat) (zv0 : Nat) (zv1 : Int32) (zh : PH) (H : Heap) (locs : List Loc) (ls : Array Slot), gi (fun zk zs => f_X12_inn_16 N zk zs.1 zs.2.1 zs.2.2) zn16 (zv0, zv1, zh) = some (r9, h9) → gw E s zh H locs → lv_has ls 2 [(0, .ref (gB E + zv0)), (1, .int zv1)] → W p l e rm_X12_inn s m [.ref (gB E + za0)].toArray below meth c H locs 0 0 (MQ below (gQi E r9 h9) [.ref (gB E + za0)].toArray s 0 0 (gA E)) (F0 m 16 ls []) := by
    intro zn16
    induction zn16 with
    | zero =>
      intro zv0 zv1 zh H locs ls hf
      cases hf
    | succ zn16 ih_16 =>
      intro zv0 zv1 zh H locs ls hf hw hl
      have hf := gi_s hf
      dsimp only at hf
      unfold f_X12_inn_16 at hf
      refine lv_iload_n hx hb dX12_inn_16 rfl (lv_at hl 1 rfl) ?_
      refine lv_bipush (v := 60) hx hb dX12_inn_17 (by decide) ?_
      refine lv_icmp_ge (tgt := 38) hx hb dX12_inn_19 (by decide) (fun qc1 => ?_) (fun qc1 => ?_)
      · have hf := gif_t hf qc1
        exact L_38 N zv0 _ _ _ ls hf hw (lv_sub hl [0] rfl)
      · have hf := gif_f hf qc1
        refine lv_aload_n hx hb dX12_inn_22 rfl (lv_at hl 0 rfl) ?_
        obtain ⟨zt2, qzt2, hf⟩ := gb_el hf
        refine gx_getR X hw qzt2 clX12 (by decide) mf_X12_65 dX12_inn_23 ?_
        refine lv_bipush (v := 60) hx hb dX12_inn_26 (by decide) ?_
        refine lv_iload_n hx hb dX12_inn_28 rfl (lv_at hl 1 rfl) ?_
        refine lv_iadd hx hb dX12_inn_29 ?_
        refine lv_iconst (v := 0) hx hb dX12_inn_30 (by decide) ?_
        refine W.eq (g2 := F0 m 31 ls [.int 0, .int (60 + zv1), .ref (gB E + zt2)]) rfl ?_
        obtain ⟨zh3, qzh3, hf⟩ := gb_el hf
        refine gx_iast X hw qzh3 dX12_inn_31 (fun H locs hw => ?_)
        obtain ⟨zx4, ezx4⟩ : ∃ y : Int32, y = zv1 + 1 := ⟨_, rfl⟩
        have hf := gl_el hf ezx4
        refine lv_iinc (v := zx4) (lv' := [(1, .int zx4), (0, .ref (gB E + zv0))]) hx hb dX12_inn_32 hl (k := 1) rfl (by rw [ezx4]; rfl) (by decide) rfl (fun ls hl => ?_)
        refine lv_goto (tgt := 16) hx hb dX12_inn_35 (by decide) ?_
        exact ih_16 zv0 zx4 _ _ _ ls hf hw (lv_sub hl [1, 0] rfl)
  unfold f_X12_inn at hf
  refine lv_aload_n hx hb dX12_inn_0 rfl (lv_at hl 0 rfl) ?_
  refine lv_iconst (v := 0) hx hb dX12_inn_1 (by decide) ?_
  obtain ⟨zh1, qzh1, hf⟩ := gb_el hf
  refine gx_putV X hw qzh1 clX12 (by decide) mf_X12_1 rfl rfl rfl dX12_inn_2 (fun H locs hw => ?_)
  refine lv_aload_n hx hb dX12_inn_5 rfl (lv_at hl 0 rfl) ?_
  obtain ⟨qizh2, hf⟩ := gg_el hf
  obtain ⟨zh2, qzh2, hf⟩ := gb_el hf
  refine gx_kv (gx_runV (As := []) (rest := []) X hw (c_X12_cutAll l E N za0 zh1 qzh2) kX12_cutAll mm_X12_169 qizh2 clX12 ⟨Nat.le_of_ble_eq_true rfl, Nat.le_of_ble_eq_true rfl⟩ rfl rfl rfl hl.1 (Nat.le_of_ble_eq_true rfl) rfl dX12_inn_6 ⟨Nat.le_of_ble_eq_true rfl, Nat.le_of_ble_eq_true rfl⟩) hw (fun H locs hw => ?_)
  refine lv_aload_n hx hb dX12_inn_9 rfl (lv_at hl 0 rfl) ?_
  refine lv_iconst (v := 0) hx hb dX12_inn_10 (by decide) ?_
  obtain ⟨zh3, qzh3, hf⟩ := gb_el hf
  refine gx_putV X hw qzh3 clX12 (by decide) mf_X12_172 rfl rfl rfl dX12_inn_11 (fun H locs hw => ?_)
  refine lv_iconst (v := 0) hx hb dX12_inn_14 (by decide) ?_
  refine W.eq (g2 := F0 m 15 ls [.int 0]) rfl ?_
  refine lv_istore_n (lv' := [(1, .int 0), (0, .ref (gB E + za0))]) hx hb dX12_inn_15 rfl hl (by decide) rfl (fun ls hl => ?_)
  exact L_16 N za0 0 _ _ _ ls hf hw (lv_sub hl [1, 0] rfl)
abbrev rm_X12_both : Room := { frames := 0, cells := 0, slots := 0, locals := 0 }
set_option maxHeartbeats 4000000 in
set_option maxRecDepth 100000 in
theorem c_X12_both (l : Launch) (E : gE) (N : Nat) (za0 : Int32) (za1 : Int32) (za2 : Int32) (zh : PH) {h9 : PH} {r9 : Int32} (hf : f_X12_both N za0 za1 za2 zh = some (r9, h9)) : Met l yX12_both (gWS yX12_both cX12_both 3 (some .int)) rm_X12_both (gPc E [.int za0, .int za1, .int za2] zh) (gQi E r9 h9) 0 0 (gA E) := by
  refine gx_met (by decide) ?_ rfl
  intro p e s m below meth c X hr hlk hin2 hw
  have hx := X.1.1
  have hb := X.1.2.1
  have hl := lv_entry [.int za0, .int za1, .int za2] (n := 3) (Nat.le_of_ble_eq_true rfl)
  rw [lg_entry_eq]
  generalize (lg_sl [.int za0, .int za1, .int za2] ++ List.replicate (3 - (lg_sl [.int za0, .int za1, .int za2]).length) Slot.unset).toArray = ls at hl ⊢
  have hl : lv_has ls 3 [(0, .int za0), (1, .int za1), (2, .int za2)] := hl
  have J_101 : ∀ (zs0 : Int32) (zh : PH) (H : Heap) (locs : List Loc) (ls : Array Slot), f_X12_both_101 N zs0 zh = some (r9, h9) → gw E s zh H locs → lv_has ls 3 [] → W p l e rm_X12_both s m [.int za0, .int za1, .int za2].toArray below meth c H locs 0 0 (MQ below (gQi E r9 h9) [.int za0, .int za1, .int za2].toArray s 0 0 (gA E)) (F0 m 101 ls [.int zs0]) := by
    intro zs0 zh H locs ls hf hw hl
    unfold f_X12_both_101 at hf
    exact gx_iret X hr hlk hw hf dX12_both_101
  have J_96 : ∀ (zh : PH) (H : Heap) (locs : List Loc) (ls : Array Slot), f_X12_both_96 N zh = some (r9, h9) → gw E s zh H locs → lv_has ls 3 [] → W p l e rm_X12_both s m [.int za0, .int za1, .int za2].toArray below meth c H locs 0 0 (MQ below (gQi E r9 h9) [.int za0, .int za1, .int za2].toArray s 0 0 (gA E)) (F0 m 96 ls []) := by
    intro zh H locs ls hf hw hl
    unfold f_X12_both_96 at hf
    refine lv_iconst (v := 1) hx hb dX12_both_96 (by decide) ?_
    refine lv_goto (tgt := 101) hx hb dX12_both_97 (by decide) ?_
    exact J_101 1 _ _ _ ls hf hw (lv_sub hl [] rfl)
  have J_87 : ∀ (zs0 : Int32) (zh : PH) (H : Heap) (locs : List Loc) (ls : Array Slot), f_X12_both_87 N zs0 zh = some (r9, h9) → gw E s zh H locs → lv_has ls 3 [] → W p l e rm_X12_both s m [.int za0, .int za1, .int za2].toArray below meth c H locs 0 0 (MQ below (gQi E r9 h9) [.int za0, .int za1, .int za2].toArray s 0 0 (gA E)) (F0 m 87 ls [.int zs0]) := by
    intro zs0 zh H locs ls hf hw hl
    unfold f_X12_both_87 at hf
    exact gx_iret X hr hlk hw hf dX12_both_87
  have J_86 : ∀ (zh : PH) (H : Heap) (locs : List Loc) (ls : Array Slot), f_X12_both_86 N zh = some (r9, h9) → gw E s zh H locs → lv_has ls 3 [] → W p l e rm_X12_both s m [.int za0, .int za1, .int za2].toArray below meth c H locs 0 0 (MQ below (gQi E r9 h9) [.int za0, .int za1, .int za2].toArray s 0 0 (gA E)) (F0 m 86 ls []) := by
    intro zh H locs ls hf hw hl
    unfold f_X12_both_86 at hf
    refine lv_iconst (v := 0) hx hb dX12_both_86 (by decide) ?_
    exact J_87 0 _ _ _ ls hf hw (lv_sub hl [] rfl)
  have J_73 : ∀ (zs0 : Int32) (zh : PH) (H : Heap) (locs : List Loc) (ls : Array Slot), f_X12_both_73 N zs0 zh = some (r9, h9) → gw E s zh H locs → lv_has ls 3 [] → W p l e rm_X12_both s m [.int za0, .int za1, .int za2].toArray below meth c H locs 0 0 (MQ below (gQi E r9 h9) [.int za0, .int za1, .int za2].toArray s 0 0 (gA E)) (F0 m 73 ls [.int zs0]) := by
    intro zs0 zh H locs ls hf hw hl
    unfold f_X12_both_73 at hf
    exact gx_iret X hr hlk hw hf dX12_both_73
  have J_62 : ∀ (zs0 : Int32) (zh : PH) (H : Heap) (locs : List Loc) (ls : Array Slot), f_X12_both_62 N zs0 zh = some (r9, h9) → gw E s zh H locs → lv_has ls 3 [] → W p l e rm_X12_both s m [.int za0, .int za1, .int za2].toArray below meth c H locs 0 0 (MQ below (gQi E r9 h9) [.int za0, .int za1, .int za2].toArray s 0 0 (gA E)) (F0 m 62 ls [.int zs0]) := by
    intro zs0 zh H locs ls hf hw hl
    unfold f_X12_both_62 at hf
    exact gx_iret X hr hlk hw hf dX12_both_62
  unfold f_X12_both at hf
  refine lv_iload_n hx hb dX12_both_0 rfl (lv_at hl 0 rfl) ?_
  by_cases qc1 : (za0 : Int32) = 4
  · have hf := gif_t hf qc1
    refine lv_tableIn (off := 39) (tgt := 40) hx hb dX12_both_1 (by rw [qc1]; decide) (by rw [qc1]; decide) (by rw [qc1]; rfl) (by decide) ?_
    refine lv_iload_n hx hb dX12_both_40 rfl (lv_at hl 1 rfl) ?_
    refine lv_iload_n hx hb dX12_both_41 rfl (lv_at hl 2 rfl) ?_
    refine lv_iadd hx hb dX12_both_42 ?_
    exact gx_iret X hr hlk hw hf dX12_both_43
  have hf := gif_f hf qc1
  by_cases qc2 : (za0 : Int32) = 5
  · have hf := gif_t hf qc2
    refine lv_tableIn (off := 43) (tgt := 44) hx hb dX12_both_1 (by rw [qc2]; decide) (by rw [qc2]; decide) (by rw [qc2]; rfl) (by decide) ?_
    refine lv_iload_n hx hb dX12_both_44 rfl (lv_at hl 1 rfl) ?_
    refine lv_iload_n hx hb dX12_both_45 rfl (lv_at hl 2 rfl) ?_
    refine lv_isub hx hb dX12_both_46 ?_
    exact gx_iret X hr hlk hw hf dX12_both_47
  have hf := gif_f hf qc2
  by_cases qc3 : (za0 : Int32) = 6
  · have hf := gif_t hf qc3
    refine lv_tableIn (off := 47) (tgt := 48) hx hb dX12_both_1 (by rw [qc3]; decide) (by rw [qc3]; decide) (by rw [qc3]; rfl) (by decide) ?_
    refine lv_iload_n hx hb dX12_both_48 rfl (lv_at hl 1 rfl) ?_
    refine lv_iload_n hx hb dX12_both_49 rfl (lv_at hl 2 rfl) ?_
    refine lv_imul hx hb dX12_both_50 ?_
    exact gx_iret X hr hlk hw hf dX12_both_51
  have hf := gif_f hf qc3
  by_cases qc4 : (za0 : Int32) = 7
  · have hf := gif_t hf qc4
    refine lv_tableIn (off := 51) (tgt := 52) hx hb dX12_both_1 (by rw [qc4]; decide) (by rw [qc4]; decide) (by rw [qc4]; rfl) (by decide) ?_
    refine lv_iload_n hx hb dX12_both_52 rfl (lv_at hl 1 rfl) ?_
    refine lv_iload_n hx hb dX12_both_53 rfl (lv_at hl 2 rfl) ?_
    refine lv_icmp_ge (tgt := 61) hx hb dX12_both_54 (by decide) (fun qc5 => ?_) (fun qc5 => ?_)
    · have hf := gif_t hf qc5
      refine lv_iconst (v := 0) hx hb dX12_both_61 (by decide) ?_
      exact J_62 0 _ _ _ ls hf hw (lv_sub hl [] rfl)
    · have hf := gif_f hf qc5
      refine lv_iconst (v := 1) hx hb dX12_both_57 (by decide) ?_
      refine lv_goto (tgt := 62) hx hb dX12_both_58 (by decide) ?_
      exact J_62 1 _ _ _ ls hf hw (lv_sub hl [] rfl)
  have hf := gif_f hf qc4
  by_cases qc6 : (za0 : Int32) = 8
  · have hf := gif_t hf qc6
    refine lv_tableIn (off := 62) (tgt := 63) hx hb dX12_both_1 (by rw [qc6]; decide) (by rw [qc6]; decide) (by rw [qc6]; rfl) (by decide) ?_
    refine lv_iload_n hx hb dX12_both_63 rfl (lv_at hl 1 rfl) ?_
    refine lv_iload_n hx hb dX12_both_64 rfl (lv_at hl 2 rfl) ?_
    refine lv_icmp_ne (tgt := 72) hx hb dX12_both_65 (by decide) (fun qc7 => ?_) (fun qc7 => ?_)
    · have hf := gif_f hf qc7
      refine lv_iconst (v := 0) hx hb dX12_both_72 (by decide) ?_
      exact J_73 0 _ _ _ ls hf hw (lv_sub hl [] rfl)
    · have hf := gif_t hf qc7
      refine lv_iconst (v := 1) hx hb dX12_both_68 (by decide) ?_
      refine lv_goto (tgt := 73) hx hb dX12_both_69 (by decide) ?_
      exact J_73 1 _ _ _ ls hf hw (lv_sub hl [] rfl)
  have hf := gif_f hf qc6
  by_cases qc8 : (za0 : Int32) = 9
  · have hf := gif_t hf qc8
    refine lv_tableIn (off := 73) (tgt := 74) hx hb dX12_both_1 (by rw [qc8]; decide) (by rw [qc8]; decide) (by rw [qc8]; rfl) (by decide) ?_
    refine lv_iload_n hx hb dX12_both_74 rfl (lv_at hl 1 rfl) ?_
    refine lv_if_eq (tgt := 86) hx hb dX12_both_75 (by decide) (fun qc9 => ?_) (fun qc9 => ?_)
    · have hf := gif_t hf qc9
      exact J_86  _ _ _ ls hf hw (lv_sub hl [] rfl)
    · have hf := gif_f hf qc9
      refine lv_iload_n hx hb dX12_both_78 rfl (lv_at hl 2 rfl) ?_
      refine lv_if_eq (tgt := 86) hx hb dX12_both_79 (by decide) (fun qc10 => ?_) (fun qc10 => ?_)
      · have hf := gif_t hf qc10
        exact J_86  _ _ _ ls hf hw (lv_sub hl [] rfl)
      · have hf := gif_f hf qc10
        refine lv_iconst (v := 1) hx hb dX12_both_82 (by decide) ?_
        refine lv_goto (tgt := 87) hx hb dX12_both_83 (by decide) ?_
        exact J_87 1 _ _ _ ls hf hw (lv_sub hl [] rfl)
  have hf := gif_f hf qc8
  have nqc1 := lv_neT (a := 4) qc1 (by decide)
  have nqc2 := lv_neT (a := 5) qc2 (by decide)
  have nqc3 := lv_neT (a := 6) qc3 (by decide)
  have nqc4 := lv_neT (a := 7) qc4 (by decide)
  have nqc6 := lv_neT (a := 8) qc6 (by decide)
  have nqc8 := lv_neT (a := 9) qc8 (by decide)
  refine lv_tableOut (tgt := 88) hx hb dX12_both_1 (by omega) (by decide) ?_
  refine lv_iload_n hx hb dX12_both_88 rfl (lv_at hl 1 rfl) ?_
  refine lv_if_ne (tgt := 96) hx hb dX12_both_89 (by decide) (fun qc11 => ?_) (fun qc11 => ?_)
  · have hf := gif_f hf qc11
    exact J_96  _ _ _ ls hf hw (lv_sub hl [] rfl)
  · have hf := gif_t hf qc11
    refine lv_iload_n hx hb dX12_both_92 rfl (lv_at hl 2 rfl) ?_
    refine lv_if_eq (tgt := 100) hx hb dX12_both_93 (by decide) (fun qc12 => ?_) (fun qc12 => ?_)
    · have hf := gif_t hf qc12
      refine lv_iconst (v := 0) hx hb dX12_both_100 (by decide) ?_
      exact J_101 0 _ _ _ ls hf hw (lv_sub hl [] rfl)
    · have hf := gif_f hf qc12
      exact J_96  _ _ _ ls hf hw (lv_sub hl [] rfl)
abbrev rm_X12_worthAt : Room := { frames := 1, cells := 0, slots := 0, locals := 22 }
set_option maxHeartbeats 4000000 in
set_option maxRecDepth 100000 in
theorem c_X12_worthAt (l : Launch) (E : gE) (N : Nat) (za0 : Nat) (za1 : Int32) (zh : PH) {h9 : PH} {r9 : Int32} (hf : f_X12_worthAt N za0 za1 zh = some (r9, h9)) : Met l yX12_worthAt (gWS yX12_worthAt cX12_worthAt 5 (some .int)) rm_X12_worthAt (gPc E [.ref (gB E + za0), .int za1] zh) (gQi E r9 h9) 0 0 (gA E) := by
  refine gx_met (by decide) ?_ rfl
  intro p e s m below meth c X hr hlk hin2 hw
  have hx := X.1.1
  have hb := X.1.2.1
  have hl := lv_entry [.ref (gB E + za0), .int za1] (n := 5) (Nat.le_of_ble_eq_true rfl)
  rw [lg_entry_eq]
  generalize (lg_sl [.ref (gB E + za0), .int za1] ++ List.replicate (5 - (lg_sl [.ref (gB E + za0), .int za1]).length) Slot.unset).toArray = ls at hl ⊢
  have hl : lv_has ls 5 [(0, .ref (gB E + za0)), (1, .int za1)] := hl
  have L_4 : ∀ (zn4 : Nat) (zv0 : Nat) (zv2 : Int32) (zv3 : Int32) (zh : PH) (H : Heap) (locs : List Loc) (ls : Array Slot), gi (fun zk zs => f_X12_worthAt_4 N zk zs.1 zs.2.1 zs.2.2.1 zs.2.2.2) zn4 (zv0, zv2, zv3, zh) = some (r9, h9) → gw E s zh H locs → lv_has ls 5 [(0, .ref (gB E + zv0)), (2, .int zv2), (3, .int zv3)] → W p l e rm_X12_worthAt s m [.ref (gB E + za0), .int za1].toArray below meth c H locs 0 0 (MQ below (gQi E r9 h9) [.ref (gB E + za0), .int za1].toArray s 0 0 (gA E)) (F0 m 4 ls []) := by
    intro zn4
    induction zn4 with
    | zero =>
      intro zv0 zv2 zv3 zh H locs ls hf
      cases hf
    | succ zn4 ih_4 =>
      have J_134 : ∀ (zv0 : Nat) (zv2 : Int32) (zv3 : Int32) (zh : PH) (H : Heap) (locs : List Loc) (ls : Array Slot), f_X12_worthAt_134 N (gi (fun zk zs => f_X12_worthAt_4 N zk zs.1 zs.2.1 zs.2.2.1 zs.2.2.2) zn4) zv0 zv2 zv3 zh = some (r9, h9) → gw E s zh H locs → lv_has ls 5 [(0, .ref (gB E + zv0)), (2, .int zv2), (3, .int zv3)] → W p l e rm_X12_worthAt s m [.ref (gB E + za0), .int za1].toArray below meth c H locs 0 0 (MQ below (gQi E r9 h9) [.ref (gB E + za0), .int za1].toArray s 0 0 (gA E)) (F0 m 134 ls []) := by
        intro zv0 zv2 zv3 zh H locs ls hf hw hl
        unfold f_X12_worthAt_134 at hf
        obtain ⟨zx1, ezx1⟩ : ∃ y : Int32, y = zv3 + 1 := ⟨_, rfl⟩
        have hf := gl_el hf ezx1
        refine lv_iinc (v := zx1) (lv' := [(3, .int zx1), (0, .ref (gB E + zv0)), (2, .int zv2)]) hx hb dX12_worthAt_134 hl (k := 2) rfl (by rw [ezx1]; rfl) (by decide) rfl (fun ls hl => ?_)
        refine lv_goto (tgt := 4) hx hb dX12_worthAt_137 (by decide) ?_
        exact ih_4 zv0 zv2 zx1 _ _ _ ls hf hw (lv_sub hl [1, 2, 0] rfl)
      have J_100 : ∀ (zv0 : Nat) (zv2 : Int32) (zv3 : Int32) (zs0 : Int32) (zs1 : Int32) (zs2 : Nat) (zh : PH) (H : Heap) (locs : List Loc) (ls : Array Slot), f_X12_worthAt_100 N (gi (fun zk zs => f_X12_worthAt_4 N zk zs.1 zs.2.1 zs.2.2.1 zs.2.2.2) zn4) zv0 zv2 zv3 zs0 zs1 zs2 zh = some (r9, h9) → gw E s zh H locs → lv_has ls 5 [(0, .ref (gB E + zv0)), (2, .int zv2), (3, .int zv3)] → W p l e rm_X12_worthAt s m [.ref (gB E + za0), .int za1].toArray below meth c H locs 0 0 (MQ below (gQi E r9 h9) [.ref (gB E + za0), .int za1].toArray s 0 0 (gA E)) (F0 m 100 ls [.int zs0, .int zs1, .ref (gB E + zs2)]) := by
        intro zv0 zv2 zv3 zs0 zs1 zs2 zh H locs ls hf hw hl
        unfold f_X12_worthAt_100 at hf
        obtain ⟨zh1, qzh1, hf⟩ := gb_el hf
        refine gx_iast X hw qzh1 dX12_worthAt_100 (fun H locs hw => ?_)
        refine lv_goto (tgt := 134) hx hb dX12_worthAt_101 (by decide) ?_
        exact J_134 zv0 zv2 zv3 _ _ _ ls hf hw (lv_sub hl [0, 1, 2] rfl)
      have J_64 : ∀ (zv0 : Nat) (zv2 : Int32) (zv3 : Int32) (zs0 : Int32) (zs1 : Int32) (zs2 : Nat) (zh : PH) (H : Heap) (locs : List Loc) (ls : Array Slot), f_X12_worthAt_64 N (gi (fun zk zs => f_X12_worthAt_4 N zk zs.1 zs.2.1 zs.2.2.1 zs.2.2.2) zn4) zv0 zv2 zv3 zs0 zs1 zs2 zh = some (r9, h9) → gw E s zh H locs → lv_has ls 5 [(0, .ref (gB E + zv0)), (2, .int zv2), (3, .int zv3)] → W p l e rm_X12_worthAt s m [.ref (gB E + za0), .int za1].toArray below meth c H locs 0 0 (MQ below (gQi E r9 h9) [.ref (gB E + za0), .int za1].toArray s 0 0 (gA E)) (F0 m 64 ls [.int zs0, .int zs1, .ref (gB E + zs2)]) := by
        intro zv0 zv2 zv3 zs0 zs1 zs2 zh H locs ls hf hw hl
        unfold f_X12_worthAt_64 at hf
        obtain ⟨zh1, qzh1, hf⟩ := gb_el hf
        refine gx_iast X hw qzh1 dX12_worthAt_64 (fun H locs hw => ?_)
        obtain ⟨zx2, ezx2⟩ : ∃ y : Int32, y = zv2 + 1 := ⟨_, rfl⟩
        have hf := gl_el hf ezx2
        refine lv_iinc (v := zx2) (lv' := [(2, .int zx2), (0, .ref (gB E + zv0)), (3, .int zv3)]) hx hb dX12_worthAt_65 hl (k := 1) rfl (by rw [ezx2]; rfl) (by decide) rfl (fun ls hl => ?_)
        refine lv_goto (tgt := 134) hx hb dX12_worthAt_68 (by decide) ?_
        exact J_134 zv0 zx2 zv3 _ _ _ ls hf hw (lv_sub hl [1, 0, 2] rfl)
      have J_33 : ∀ (zv0 : Nat) (zv2 : Int32) (zv3 : Int32) (zv4 : Int32) (zh : PH) (H : Heap) (locs : List Loc) (ls : Array Slot), f_X12_worthAt_33 N (gi (fun zk zs => f_X12_worthAt_4 N zk zs.1 zs.2.1 zs.2.2.1 zs.2.2.2) zn4) zv0 zv2 zv3 zv4 zh = some (r9, h9) → gw E s zh H locs → lv_has ls 5 [(0, .ref (gB E + zv0)), (2, .int zv2), (3, .int zv3), (4, .int zv4)] → W p l e rm_X12_worthAt s m [.ref (gB E + za0), .int za1].toArray below meth c H locs 0 0 (MQ below (gQi E r9 h9) [.ref (gB E + za0), .int za1].toArray s 0 0 (gA E)) (F0 m 33 ls []) := by
        intro zv0 zv2 zv3 zv4 zh H locs ls hf hw hl
        unfold f_X12_worthAt_33 at hf
        refine lv_aload_n hx hb dX12_worthAt_33 rfl (lv_at hl 0 rfl) ?_
        obtain ⟨zt1, qzt1, hf⟩ := gb_el hf
        refine gx_getR X hw qzt1 clX12 (by decide) mf_X12_80 dX12_worthAt_34 ?_
        refine lv_iload_n hx hb dX12_worthAt_37 rfl (lv_at hl 1 rfl) ?_
        refine lv_iload hx hb dX12_worthAt_38 (lv_at hl 3 rfl) ?_
        refine lv_iconst (v := 1) hx hb dX12_worthAt_40 (by decide) ?_
        refine lv_icmp_ne (tgt := 53) hx hb dX12_worthAt_41 (by decide) (fun qc2 => ?_) (fun qc2 => ?_)
        · have hf := gif_f hf qc2
          refine lv_aload_n hx hb dX12_worthAt_53 rfl (lv_at hl 0 rfl) ?_
          obtain ⟨zt3, qzt3, hf⟩ := gb_el hf
          refine gx_getR X hw qzt3 clX12 (by decide) mf_X12_77 dX12_worthAt_54 ?_
          refine lv_aload_n hx hb dX12_worthAt_57 rfl (lv_at hl 0 rfl) ?_
          refine W.eq (g2 := F0 m 58 ls [.ref (gB E + zv0), .ref (gB E + zt3), .int zv2, .ref (gB E + zt1)]) rfl ?_
          obtain ⟨zt4, qzt4, hf⟩ := gb_el hf
          refine gx_getR X hw qzt4 clX12 (by decide) mf_X12_71 dX12_worthAt_58 ?_
          refine lv_iload_n hx hb dX12_worthAt_61 rfl (lv_at hl 2 rfl) ?_
          obtain ⟨zt5, qzt5, hf⟩ := gb_el hf
          refine gx_iald X hw qzt5 dX12_worthAt_62 ?_
          obtain ⟨zt6, qzt6, hf⟩ := gb_el hf
          refine gx_iald X hw qzt6 dX12_worthAt_63 ?_
          exact J_64 zv0 zv2 zv3 zt6 zv2 zt1 _ _ _ ls hf hw (lv_sub hl [0, 1, 2] rfl)
        · have hf := gif_t hf qc2
          refine lv_aload_n hx hb dX12_worthAt_44 rfl (lv_at hl 0 rfl) ?_
          obtain ⟨zt7, qzt7, hf⟩ := gb_el hf
          refine gx_getR X hw qzt7 clX12 (by decide) mf_X12_71 dX12_worthAt_45 ?_
          refine lv_iload_n hx hb dX12_worthAt_48 rfl (lv_at hl 2 rfl) ?_
          refine W.eq (g2 := F0 m 49 ls [.int zv3, .ref (gB E + zt7), .int zv2, .ref (gB E + zt1)]) rfl ?_
          obtain ⟨zt8, qzt8, hf⟩ := gb_el hf
          refine gx_iald X hw qzt8 dX12_worthAt_49 ?_
          refine lv_goto (tgt := 64) hx hb dX12_worthAt_50 (by decide) ?_
          exact J_64 zv0 zv2 zv3 zt8 zv2 zt1 _ _ _ ls hf hw (lv_sub hl [0, 1, 2] rfl)
      intro zv0 zv2 zv3 zh H locs ls hf hw hl
      have hf := gi_s hf
      dsimp only at hf
      unfold f_X12_worthAt_4 at hf
      refine lv_aload_n hx hb dX12_worthAt_4 rfl (lv_at hl 0 rfl) ?_
      obtain ⟨zt1, qzt1, hf⟩ := gb_el hf
      refine gx_getR X hw qzt1 clX12 (by decide) mf_X12_68 dX12_worthAt_5 ?_
      refine lv_iload_n hx hb dX12_worthAt_8 rfl (lv_at hl 2 rfl) ?_
      obtain ⟨zt2, qzt2, hf⟩ := gb_el hf
      refine gx_iald X hw qzt2 dX12_worthAt_9 ?_
      refine lv_if_eq (tgt := 140) hx hb dX12_worthAt_10 (by decide) (fun qc3 => ?_) (fun qc3 => ?_)
      · have hf := gif_t hf qc3
        refine lv_aload_n hx hb dX12_worthAt_140 rfl (lv_at hl 0 rfl) ?_
        obtain ⟨zt4, qzt4, hf⟩ := gb_el hf
        refine gx_getR X hw qzt4 clX12 (by decide) mf_X12_80 dX12_worthAt_141 ?_
        refine lv_iconst (v := 0) hx hb dX12_worthAt_144 (by decide) ?_
        obtain ⟨zt5, qzt5, hf⟩ := gb_el hf
        refine gx_iald X hw qzt5 dX12_worthAt_145 ?_
        refine W.eq (g2 := F0 m 146 ls [.int zt5]) rfl ?_
        exact gx_iret X hr hlk hw hf dX12_worthAt_146
      · have hf := gif_f hf qc3
        refine lv_aload_n hx hb dX12_worthAt_13 rfl (lv_at hl 0 rfl) ?_
        obtain ⟨zt6, qzt6, hf⟩ := gb_el hf
        refine gx_getR X hw qzt6 clX12 (by decide) mf_X12_68 dX12_worthAt_14 ?_
        refine lv_iload_n hx hb dX12_worthAt_17 rfl (lv_at hl 2 rfl) ?_
        obtain ⟨zt7, qzt7, hf⟩ := gb_el hf
        refine gx_iald X hw qzt7 dX12_worthAt_18 ?_
        refine W.eq (g2 := F0 m 19 ls [.int zt7]) rfl ?_
        refine lv_istore (lv' := [(4, .int zt7), (0, .ref (gB E + zv0)), (2, .int zv2), (3, .int zv3)]) hx hb dX12_worthAt_19 hl (by decide) rfl (fun ls hl => ?_)
        refine lv_iload hx hb dX12_worthAt_21 (lv_at hl 0 rfl) ?_
        refine lv_iconst (v := 1) hx hb dX12_worthAt_23 (by decide) ?_
        refine lv_icmp_eq (tgt := 33) hx hb dX12_worthAt_24 (by decide) (fun qc8 => ?_) (fun qc8 => ?_)
        · have hf := gif_t hf qc8
          exact J_33 zv0 zv2 zv3 zt7 _ _ _ ls hf hw (lv_sub hl [1, 2, 3, 0] rfl)
        · have hf := gif_f hf qc8
          refine lv_iload hx hb dX12_worthAt_27 (lv_at hl 0 rfl) ?_
          refine lv_iconst (v := 2) hx hb dX12_worthAt_29 (by decide) ?_
          refine lv_icmp_ne (tgt := 71) hx hb dX12_worthAt_30 (by decide) (fun qc9 => ?_) (fun qc9 => ?_)
          · have hf := gif_f hf qc9
            refine lv_iload hx hb dX12_worthAt_71 (lv_at hl 0 rfl) ?_
            refine lv_iconst (v := 3) hx hb dX12_worthAt_73 (by decide) ?_
            refine lv_icmp_ne (tgt := 104) hx hb dX12_worthAt_74 (by decide) (fun qc10 => ?_) (fun qc10 => ?_)
            · have hf := gif_f hf qc10
              refine W.eq (g2 := F0 m 104 ls []) rfl ?_
              obtain ⟨zx11, ezx11⟩ : ∃ y : Int32, y = zv2 + (-1) := ⟨_, rfl⟩
              have hf := gl_el hf ezx11
              refine lv_iinc (v := zx11) (lv' := [(2, .int zx11), (4, .int zt7), (0, .ref (gB E + zv0)), (3, .int zv3)]) hx hb dX12_worthAt_104 hl (k := 2) rfl (by rw [ezx11]; rfl) (by decide) rfl (fun ls hl => ?_)
              refine lv_aload_n hx hb dX12_worthAt_107 rfl (lv_at hl 2 rfl) ?_
              obtain ⟨zt12, qzt12, hf⟩ := gb_el hf
              refine gx_getR X hw qzt12 clX12 (by decide) mf_X12_80 dX12_worthAt_108 ?_
              refine lv_iload_n hx hb dX12_worthAt_111 rfl (lv_at hl 0 rfl) ?_
              refine lv_iconst (v := 1) hx hb dX12_worthAt_112 (by decide) ?_
              refine lv_isub hx hb dX12_worthAt_113 ?_
              refine lv_iload hx hb dX12_worthAt_114 (lv_at hl 1 rfl) ?_
              refine lv_aload_n hx hb dX12_worthAt_116 rfl (lv_at hl 2 rfl) ?_
              obtain ⟨zt13, qzt13, hf⟩ := gb_el hf
              refine gx_getR X hw qzt13 clX12 (by decide) mf_X12_80 dX12_worthAt_117 ?_
              refine lv_iload_n hx hb dX12_worthAt_120 rfl (lv_at hl 0 rfl) ?_
              refine W.eq (g2 := F0 m 121 ls [.int zx11, .ref (gB E + zt13), .int zt7, .int (zx11 - 1), .ref (gB E + zt12)]) rfl ?_
              refine lv_iconst (v := 1) hx hb dX12_worthAt_121 (by decide) ?_
              refine lv_isub hx hb dX12_worthAt_122 ?_
              obtain ⟨zt14, qzt14, hf⟩ := gb_el hf
              refine gx_iald X hw qzt14 dX12_worthAt_123 ?_
              refine lv_aload_n hx hb dX12_worthAt_124 rfl (lv_at hl 2 rfl) ?_
              obtain ⟨zt15, qzt15, hf⟩ := gb_el hf
              refine gx_getR X hw qzt15 clX12 (by decide) mf_X12_80 dX12_worthAt_125 ?_
              refine lv_iload_n hx hb dX12_worthAt_128 rfl (lv_at hl 0 rfl) ?_
              obtain ⟨zt16, qzt16, hf⟩ := gb_el hf
              refine gx_iald X hw qzt16 dX12_worthAt_129 ?_
              obtain ⟨zt18, zh17, qzh17, hf⟩ := gc_el hf
              refine gx_ki (gx_runS (As := [.int zt7, .int zt14, .int zt16]) (rest := [.int (zx11 - 1), .ref (gB E + zt12)]) X hw (c_X12_both l E N zt7 zt14 zt16 zh qzh17) kX12_both mm_X12_227 ⟨Nat.le_of_ble_eq_true rfl, Nat.le_of_ble_eq_true rfl⟩ rfl rfl rfl hl.1 (Nat.le_of_ble_eq_true rfl) rfl dX12_worthAt_130 ⟨Nat.le_of_ble_eq_true rfl, Nat.le_of_ble_eq_true rfl⟩) hw (fun H locs hw => ?_)
              obtain ⟨zh19, qzh19, hf⟩ := gb_el hf
              refine gx_iast X hw qzh19 dX12_worthAt_133 (fun H locs hw => ?_)
              exact J_134 zv0 zx11 zv3 _ _ _ ls hf hw (lv_sub hl [2, 0, 3] rfl)
            · have hf := gif_t hf qc10
              refine W.eq (g2 := F0 m 77 ls []) rfl ?_
              refine lv_aload_n hx hb dX12_worthAt_77 rfl (lv_at hl 1 rfl) ?_
              obtain ⟨zt20, qzt20, hf⟩ := gb_el hf
              refine gx_getR X hw qzt20 clX12 (by decide) mf_X12_80 dX12_worthAt_78 ?_
              refine lv_iload_n hx hb dX12_worthAt_81 rfl (lv_at hl 2 rfl) ?_
              refine lv_iconst (v := 1) hx hb dX12_worthAt_82 (by decide) ?_
              refine lv_isub hx hb dX12_worthAt_83 ?_
              refine lv_aload_n hx hb dX12_worthAt_84 rfl (lv_at hl 1 rfl) ?_
              obtain ⟨zt21, qzt21, hf⟩ := gb_el hf
              refine gx_getR X hw qzt21 clX12 (by decide) mf_X12_80 dX12_worthAt_85 ?_
              refine lv_iload_n hx hb dX12_worthAt_88 rfl (lv_at hl 2 rfl) ?_
              refine lv_iconst (v := 1) hx hb dX12_worthAt_89 (by decide) ?_
              refine lv_isub hx hb dX12_worthAt_90 ?_
              refine W.eq (g2 := F0 m 91 ls [.int (zv2 - 1), .ref (gB E + zt21), .int (zv2 - 1), .ref (gB E + zt20)]) rfl ?_
              obtain ⟨zt22, qzt22, hf⟩ := gb_el hf
              refine gx_iald X hw qzt22 dX12_worthAt_91 ?_
              refine lv_if_ne (tgt := 99) hx hb dX12_worthAt_92 (by decide) (fun qc23 => ?_) (fun qc23 => ?_)
              · have hf := gif_f hf qc23
                refine lv_iconst (v := 0) hx hb dX12_worthAt_99 (by decide) ?_
                exact J_100 zv0 zv2 zv3 0 (zv2 - 1) zt20 _ _ _ ls hf hw (lv_sub hl [1, 2, 3] rfl)
              · have hf := gif_t hf qc23
                refine lv_iconst (v := 1) hx hb dX12_worthAt_95 (by decide) ?_
                refine lv_goto (tgt := 100) hx hb dX12_worthAt_96 (by decide) ?_
                exact J_100 zv0 zv2 zv3 1 (zv2 - 1) zt20 _ _ _ ls hf hw (lv_sub hl [1, 2, 3] rfl)
          · have hf := gif_t hf qc9
            exact J_33 zv0 zv2 zv3 zt7 _ _ _ ls hf hw (lv_sub hl [1, 2, 3, 0] rfl)
  unfold f_X12_worthAt at hf
  refine lv_iconst (v := 0) hx hb dX12_worthAt_0 (by decide) ?_
  refine lv_istore_n (lv' := [(2, .int 0), (0, .ref (gB E + za0)), (1, .int za1)]) hx hb dX12_worthAt_1 rfl hl (by decide) rfl (fun ls hl => ?_)
  refine lv_iload_n hx hb dX12_worthAt_2 rfl (lv_at hl 2 rfl) ?_
  refine lv_istore_n (lv' := [(3, .int za1), (2, .int 0), (0, .ref (gB E + za0)), (1, .int za1)]) hx hb dX12_worthAt_3 rfl hl (by decide) rfl (fun ls hl => ?_)
  exact L_4 N za0 0 za1 _ _ _ ls hf hw (lv_sub hl [2, 1, 0] rfl)
abbrev rm_X12_rooms : Room := { frames := 0, cells := 0, slots := 0, locals := 0 }
set_option maxHeartbeats 4000000 in
set_option maxRecDepth 100000 in
theorem c_X12_rooms (l : Launch) (E : gE) (N : Nat) (za0 : Nat) (zh : PH) {h9 : PH} {r9 : Int32} (hf : f_X12_rooms N za0 zh = some (r9, h9)) : Met l yX12_rooms (gWS yX12_rooms cX12_rooms 1 (some .int)) rm_X12_rooms (gPc E [.ref (gB E + za0)] zh) (gQi E r9 h9) 0 0 (gA E) := by
  refine gx_met (by decide) ?_ rfl
  intro p e s m below meth c X hr hlk hin2 hw
  have hx := X.1.1
  have hb := X.1.2.1
  have hl := lv_entry [.ref (gB E + za0)] (n := 1) (Nat.le_of_ble_eq_true rfl)
  rw [lg_entry_eq]
  generalize (lg_sl [.ref (gB E + za0)] ++ List.replicate (1 - (lg_sl [.ref (gB E + za0)]).length) Slot.unset).toArray = ls at hl ⊢
  have hl : lv_has ls 1 [(0, .ref (gB E + za0))] := hl
  unfold f_X12_rooms at hf
  refine lv_aload_n hx hb dX12_rooms_0 rfl (lv_at hl 0 rfl) ?_
  obtain ⟨zt1, qzt1, hf⟩ := gb_el hf
  refine gx_getR X hw qzt1 clX12 (by decide) mf_X12_65 dX12_rooms_1 ?_
  refine lv_iconst (v := 0) hx hb dX12_rooms_4 (by decide) ?_
  obtain ⟨zt2, qzt2, hf⟩ := gb_el hf
  refine gx_iald X hw qzt2 dX12_rooms_5 ?_
  exact gx_iret X hr hlk hw hf dX12_rooms_6
abbrev rm_X12_guests : Room := { frames := 0, cells := 0, slots := 0, locals := 0 }
set_option maxHeartbeats 4000000 in
set_option maxRecDepth 100000 in
theorem c_X12_guests (l : Launch) (E : gE) (N : Nat) (za0 : Nat) (zh : PH) {h9 : PH} {r9 : Int32} (hf : f_X12_guests N za0 zh = some (r9, h9)) : Met l yX12_guests (gWS yX12_guests cX12_guests 1 (some .int)) rm_X12_guests (gPc E [.ref (gB E + za0)] zh) (gQi E r9 h9) 0 0 (gA E) := by
  refine gx_met (by decide) ?_ rfl
  intro p e s m below meth c X hr hlk hin2 hw
  have hx := X.1.1
  have hb := X.1.2.1
  have hl := lv_entry [.ref (gB E + za0)] (n := 1) (Nat.le_of_ble_eq_true rfl)
  rw [lg_entry_eq]
  generalize (lg_sl [.ref (gB E + za0)] ++ List.replicate (1 - (lg_sl [.ref (gB E + za0)]).length) Slot.unset).toArray = ls at hl ⊢
  have hl : lv_has ls 1 [(0, .ref (gB E + za0))] := hl
  unfold f_X12_guests at hf
  refine lv_aload_n hx hb dX12_guests_0 rfl (lv_at hl 0 rfl) ?_
  obtain ⟨zt1, qzt1, hf⟩ := gb_el hf
  refine gx_getR X hw qzt1 clX12 (by decide) mf_X12_65 dX12_guests_1 ?_
  refine lv_iconst (v := 1) hx hb dX12_guests_4 (by decide) ?_
  obtain ⟨zt2, qzt2, hf⟩ := gb_el hf
  refine gx_iald X hw qzt2 dX12_guests_5 ?_
  exact gx_iret X hr hlk hw hf dX12_guests_6
abbrev rm_X12_floorOf : Room := { frames := 0, cells := 0, slots := 0, locals := 0 }
set_option maxHeartbeats 4000000 in
set_option maxRecDepth 100000 in
theorem c_X12_floorOf (l : Launch) (E : gE) (N : Nat) (za0 : Nat) (za1 : Int32) (zh : PH) {h9 : PH} {r9 : Int32} (hf : f_X12_floorOf N za0 za1 zh = some (r9, h9)) : Met l yX12_floorOf (gWS yX12_floorOf cX12_floorOf 2 (some .int)) rm_X12_floorOf (gPc E [.ref (gB E + za0), .int za1] zh) (gQi E r9 h9) 0 0 (gA E) := by
  refine gx_met (by decide) ?_ rfl
  intro p e s m below meth c X hr hlk hin2 hw
  have hx := X.1.1
  have hb := X.1.2.1
  have hl := lv_entry [.ref (gB E + za0), .int za1] (n := 2) (Nat.le_of_ble_eq_true rfl)
  rw [lg_entry_eq]
  generalize (lg_sl [.ref (gB E + za0), .int za1] ++ List.replicate (2 - (lg_sl [.ref (gB E + za0), .int za1]).length) Slot.unset).toArray = ls at hl ⊢
  have hl : lv_has ls 2 [(0, .ref (gB E + za0)), (1, .int za1)] := hl
  have J_18 : ∀ (zs0 : Int32) (zh : PH) (H : Heap) (locs : List Loc) (ls : Array Slot), f_X12_floorOf_18 N zs0 zh = some (r9, h9) → gw E s zh H locs → lv_has ls 2 [] → W p l e rm_X12_floorOf s m [.ref (gB E + za0), .int za1].toArray below meth c H locs 0 0 (MQ below (gQi E r9 h9) [.ref (gB E + za0), .int za1].toArray s 0 0 (gA E)) (F0 m 18 ls [.int zs0]) := by
    intro zs0 zh H locs ls hf hw hl
    unfold f_X12_floorOf_18 at hf
    exact gx_iret X hr hlk hw hf dX12_floorOf_18
  unfold f_X12_floorOf at hf
  refine lv_iload_n hx hb dX12_floorOf_0 rfl (lv_at hl 1 rfl) ?_
  refine lv_if_ge (tgt := 8) hx hb dX12_floorOf_1 (by decide) (fun qc1 => ?_) (fun qc1 => ?_)
  · have hf := gif_t hf qc1
    refine lv_aload_n hx hb dX12_floorOf_8 rfl (lv_at hl 0 rfl) ?_
    obtain ⟨zt2, qzt2, hf⟩ := gb_el hf
    refine gx_getR X hw qzt2 clX12 (by decide) mf_X12_65 dX12_floorOf_9 ?_
    refine lv_iconst (v := 3) hx hb dX12_floorOf_12 (by decide) ?_
    refine lv_iconst (v := 2) hx hb dX12_floorOf_13 (by decide) ?_
    refine lv_iload_n hx hb dX12_floorOf_14 rfl (lv_at hl 1 rfl) ?_
    refine lv_imul hx hb dX12_floorOf_15 ?_
    refine lv_iadd hx hb dX12_floorOf_16 ?_
    refine W.eq (g2 := F0 m 17 ls [.int (3 + (2 * za1)), .ref (gB E + zt2)]) rfl ?_
    obtain ⟨zt3, qzt3, hf⟩ := gb_el hf
    refine gx_iald X hw qzt3 dX12_floorOf_17 ?_
    exact J_18 zt3 _ _ _ ls hf hw (lv_sub hl [] rfl)
  · have hf := gif_f hf qc1
    refine lv_iconst (v := 0) hx hb dX12_floorOf_4 (by decide) ?_
    refine lv_goto (tgt := 18) hx hb dX12_floorOf_5 (by decide) ?_
    exact J_18 0 _ _ _ ls hf hw (lv_sub hl [] rfl)
abbrev rm_X12_guestOf : Room := { frames := 0, cells := 0, slots := 0, locals := 0 }
set_option maxHeartbeats 4000000 in
set_option maxRecDepth 100000 in
theorem c_X12_guestOf (l : Launch) (E : gE) (N : Nat) (za0 : Nat) (za1 : Int32) (za2 : Int32) (zh : PH) {h9 : PH} {r9 : Int32} (hf : f_X12_guestOf N za0 za1 za2 zh = some (r9, h9)) : Met l yX12_guestOf (gWS yX12_guestOf cX12_guestOf 3 (some .int)) rm_X12_guestOf (gPc E [.ref (gB E + za0), .int za1, .int za2] zh) (gQi E r9 h9) 0 0 (gA E) := by
  refine gx_met (by decide) ?_ rfl
  intro p e s m below meth c X hr hlk hin2 hw
  have hx := X.1.1
  have hb := X.1.2.1
  have hl := lv_entry [.ref (gB E + za0), .int za1, .int za2] (n := 3) (Nat.le_of_ble_eq_true rfl)
  rw [lg_entry_eq]
  generalize (lg_sl [.ref (gB E + za0), .int za1, .int za2] ++ List.replicate (3 - (lg_sl [.ref (gB E + za0), .int za1, .int za2]).length) Slot.unset).toArray = ls at hl ⊢
  have hl : lv_has ls 3 [(0, .ref (gB E + za0)), (1, .int za1), (2, .int za2)] := hl
  unfold f_X12_guestOf at hf
  refine lv_aload_n hx hb dX12_guestOf_0 rfl (lv_at hl 0 rfl) ?_
  obtain ⟨zt1, qzt1, hf⟩ := gb_el hf
  refine gx_getR X hw qzt1 clX12 (by decide) mf_X12_65 dX12_guestOf_1 ?_
  refine lv_bipush (v := 23) hx hb dX12_guestOf_4 (by decide) ?_
  refine lv_iconst (v := 3) hx hb dX12_guestOf_6 (by decide) ?_
  refine lv_iload_n hx hb dX12_guestOf_7 rfl (lv_at hl 1 rfl) ?_
  refine lv_imul hx hb dX12_guestOf_8 ?_
  refine lv_iadd hx hb dX12_guestOf_9 ?_
  refine lv_iload_n hx hb dX12_guestOf_10 rfl (lv_at hl 2 rfl) ?_
  refine lv_iadd hx hb dX12_guestOf_11 ?_
  refine W.eq (g2 := F0 m 12 ls [.int ((23 + (3 * za1)) + za2), .ref (gB E + zt1)]) rfl ?_
  obtain ⟨zt2, qzt2, hf⟩ := gb_el hf
  refine gx_iald X hw qzt2 dX12_guestOf_12 ?_
  exact gx_iret X hr hlk hw hf dX12_guestOf_13
abbrev rm_X12_isRoom : Room := { frames := 1, cells := 0, slots := 0, locals := 20 }
set_option maxHeartbeats 4000000 in
set_option maxRecDepth 100000 in
theorem c_X12_isRoom (l : Launch) (E : gE) (N : Nat) (za0 : Nat) (za1 : Int32) (zh : PH) {h9 : PH} {r9 : Int32} (hf : f_X12_isRoom N za0 za1 zh = some (r9, h9)) : Met l yX12_isRoom (gWS yX12_isRoom cX12_isRoom 2 (some .boolean)) rm_X12_isRoom (gPc E [.ref (gB E + za0), .int za1] zh) (gQi E r9 h9) 0 0 (gA E) := by
  refine gx_met (by decide) ?_ rfl
  intro p e s m below meth c X hr hlk hin2 hw
  have hx := X.1.1
  have hb := X.1.2.1
  have hl := lv_entry [.ref (gB E + za0), .int za1] (n := 2) (Nat.le_of_ble_eq_true rfl)
  rw [lg_entry_eq]
  generalize (lg_sl [.ref (gB E + za0), .int za1] ++ List.replicate (2 - (lg_sl [.ref (gB E + za0), .int za1]).length) Slot.unset).toArray = ls at hl ⊢
  have hl : lv_has ls 2 [(0, .ref (gB E + za0)), (1, .int za1)] := hl
  have J_17 : ∀ (zs0 : Int32) (zh : PH) (H : Heap) (locs : List Loc) (ls : Array Slot), f_X12_isRoom_17 N zs0 zh = some (r9, h9) → gw E s zh H locs → lv_has ls 2 [] → W p l e rm_X12_isRoom s m [.ref (gB E + za0), .int za1].toArray below meth c H locs 0 0 (MQ below (gQi E r9 h9) [.ref (gB E + za0), .int za1].toArray s 0 0 (gA E)) (F0 m 17 ls [.int zs0]) := by
    intro zs0 zh H locs ls hf hw hl
    unfold f_X12_isRoom_17 at hf
    exact gx_zret X hr hlk hw hf dX12_isRoom_17
  have J_16 : ∀ (zh : PH) (H : Heap) (locs : List Loc) (ls : Array Slot), f_X12_isRoom_16 N zh = some (r9, h9) → gw E s zh H locs → lv_has ls 2 [] → W p l e rm_X12_isRoom s m [.ref (gB E + za0), .int za1].toArray below meth c H locs 0 0 (MQ below (gQi E r9 h9) [.ref (gB E + za0), .int za1].toArray s 0 0 (gA E)) (F0 m 16 ls []) := by
    intro zh H locs ls hf hw hl
    unfold f_X12_isRoom_16 at hf
    refine lv_iconst (v := 0) hx hb dX12_isRoom_16 (by decide) ?_
    exact J_17 0 _ _ _ ls hf hw (lv_sub hl [] rfl)
  unfold f_X12_isRoom at hf
  refine lv_iload_n hx hb dX12_isRoom_0 rfl (lv_at hl 1 rfl) ?_
  refine lv_if_lt (tgt := 16) hx hb dX12_isRoom_1 (by decide) (fun qc1 => ?_) (fun qc1 => ?_)
  · have hf := gif_t hf qc1
    exact J_16  _ _ _ ls hf hw (lv_sub hl [] rfl)
  · have hf := gif_f hf qc1
    refine lv_iload_n hx hb dX12_isRoom_4 rfl (lv_at hl 1 rfl) ?_
    refine lv_aload_n hx hb dX12_isRoom_5 rfl (lv_at hl 0 rfl) ?_
    obtain ⟨qizh2, hf⟩ := gg_el hf
    obtain ⟨zt3, zh2, qzh2, hf⟩ := gc_el hf
    refine gx_ki (gx_runV (As := []) (rest := [.int za1]) X hw (c_X12_rooms l E N za0 zh qzh2) kX12_rooms mm_X12_231 qizh2 clX12 ⟨Nat.le_of_ble_eq_true rfl, Nat.le_of_ble_eq_true rfl⟩ rfl rfl rfl hl.1 (Nat.le_of_ble_eq_true rfl) rfl dX12_isRoom_6 ⟨Nat.le_of_ble_eq_true rfl, Nat.le_of_ble_eq_true rfl⟩) hw (fun H locs hw => ?_)
    refine lv_icmp_ge (tgt := 16) hx hb dX12_isRoom_9 (by decide) (fun qc4 => ?_) (fun qc4 => ?_)
    · have hf := gif_t hf qc4
      exact J_16  _ _ _ ls hf hw (lv_sub hl [] rfl)
    · have hf := gif_f hf qc4
      refine lv_iconst (v := 1) hx hb dX12_isRoom_12 (by decide) ?_
      refine lv_goto (tgt := 17) hx hb dX12_isRoom_13 (by decide) ?_
      exact J_17 1 _ _ _ ls hf hw (lv_sub hl [] rfl)
abbrev rm_X12_isGuest : Room := { frames := 1, cells := 0, slots := 0, locals := 20 }
set_option maxHeartbeats 4000000 in
set_option maxRecDepth 100000 in
theorem c_X12_isGuest (l : Launch) (E : gE) (N : Nat) (za0 : Nat) (za1 : Int32) (zh : PH) {h9 : PH} {r9 : Int32} (hf : f_X12_isGuest N za0 za1 zh = some (r9, h9)) : Met l yX12_isGuest (gWS yX12_isGuest cX12_isGuest 2 (some .boolean)) rm_X12_isGuest (gPc E [.ref (gB E + za0), .int za1] zh) (gQi E r9 h9) 0 0 (gA E) := by
  refine gx_met (by decide) ?_ rfl
  intro p e s m below meth c X hr hlk hin2 hw
  have hx := X.1.1
  have hb := X.1.2.1
  have hl := lv_entry [.ref (gB E + za0), .int za1] (n := 2) (Nat.le_of_ble_eq_true rfl)
  rw [lg_entry_eq]
  generalize (lg_sl [.ref (gB E + za0), .int za1] ++ List.replicate (2 - (lg_sl [.ref (gB E + za0), .int za1]).length) Slot.unset).toArray = ls at hl ⊢
  have hl : lv_has ls 2 [(0, .ref (gB E + za0)), (1, .int za1)] := hl
  have J_17 : ∀ (zs0 : Int32) (zh : PH) (H : Heap) (locs : List Loc) (ls : Array Slot), f_X12_isGuest_17 N zs0 zh = some (r9, h9) → gw E s zh H locs → lv_has ls 2 [] → W p l e rm_X12_isGuest s m [.ref (gB E + za0), .int za1].toArray below meth c H locs 0 0 (MQ below (gQi E r9 h9) [.ref (gB E + za0), .int za1].toArray s 0 0 (gA E)) (F0 m 17 ls [.int zs0]) := by
    intro zs0 zh H locs ls hf hw hl
    unfold f_X12_isGuest_17 at hf
    exact gx_zret X hr hlk hw hf dX12_isGuest_17
  have J_16 : ∀ (zh : PH) (H : Heap) (locs : List Loc) (ls : Array Slot), f_X12_isGuest_16 N zh = some (r9, h9) → gw E s zh H locs → lv_has ls 2 [] → W p l e rm_X12_isGuest s m [.ref (gB E + za0), .int za1].toArray below meth c H locs 0 0 (MQ below (gQi E r9 h9) [.ref (gB E + za0), .int za1].toArray s 0 0 (gA E)) (F0 m 16 ls []) := by
    intro zh H locs ls hf hw hl
    unfold f_X12_isGuest_16 at hf
    refine lv_iconst (v := 0) hx hb dX12_isGuest_16 (by decide) ?_
    exact J_17 0 _ _ _ ls hf hw (lv_sub hl [] rfl)
  unfold f_X12_isGuest at hf
  refine lv_iload_n hx hb dX12_isGuest_0 rfl (lv_at hl 1 rfl) ?_
  refine lv_if_lt (tgt := 16) hx hb dX12_isGuest_1 (by decide) (fun qc1 => ?_) (fun qc1 => ?_)
  · have hf := gif_t hf qc1
    exact J_16  _ _ _ ls hf hw (lv_sub hl [] rfl)
  · have hf := gif_f hf qc1
    refine lv_iload_n hx hb dX12_isGuest_4 rfl (lv_at hl 1 rfl) ?_
    refine lv_aload_n hx hb dX12_isGuest_5 rfl (lv_at hl 0 rfl) ?_
    obtain ⟨qizh2, hf⟩ := gg_el hf
    obtain ⟨zt3, zh2, qzh2, hf⟩ := gc_el hf
    refine gx_ki (gx_runV (As := []) (rest := [.int za1]) X hw (c_X12_guests l E N za0 zh qzh2) kX12_guests mm_X12_234 qizh2 clX12 ⟨Nat.le_of_ble_eq_true rfl, Nat.le_of_ble_eq_true rfl⟩ rfl rfl rfl hl.1 (Nat.le_of_ble_eq_true rfl) rfl dX12_isGuest_6 ⟨Nat.le_of_ble_eq_true rfl, Nat.le_of_ble_eq_true rfl⟩) hw (fun H locs hw => ?_)
    refine lv_icmp_ge (tgt := 16) hx hb dX12_isGuest_9 (by decide) (fun qc4 => ?_) (fun qc4 => ?_)
    · have hf := gif_t hf qc4
      exact J_16  _ _ _ ls hf hw (lv_sub hl [] rfl)
    · have hf := gif_f hf qc4
      refine lv_iconst (v := 1) hx hb dX12_isGuest_12 (by decide) ?_
      refine lv_goto (tgt := 17) hx hb dX12_isGuest_13 (by decide) ?_
      exact J_17 1 _ _ _ ls hf hw (lv_sub hl [] rfl)
abbrev rm_X12_isRule : Room := { frames := 1, cells := 0, slots := 0, locals := 20 }
set_option maxHeartbeats 4000000 in
set_option maxRecDepth 100000 in
theorem c_X12_isRule (l : Launch) (E : gE) (N : Nat) (za0 : Nat) (za1 : Int32) (zh : PH) {h9 : PH} {r9 : Int32} (hf : f_X12_isRule N za0 za1 zh = some (r9, h9)) : Met l yX12_isRule (gWS yX12_isRule cX12_isRule 2 (some .boolean)) rm_X12_isRule (gPc E [.ref (gB E + za0), .int za1] zh) (gQi E r9 h9) 0 0 (gA E) := by
  refine gx_met (by decide) ?_ rfl
  intro p e s m below meth c X hr hlk hin2 hw
  have hx := X.1.1
  have hb := X.1.2.1
  have hl := lv_entry [.ref (gB E + za0), .int za1] (n := 2) (Nat.le_of_ble_eq_true rfl)
  rw [lg_entry_eq]
  generalize (lg_sl [.ref (gB E + za0), .int za1] ++ List.replicate (2 - (lg_sl [.ref (gB E + za0), .int za1]).length) Slot.unset).toArray = ls at hl ⊢
  have hl : lv_has ls 2 [(0, .ref (gB E + za0)), (1, .int za1)] := hl
  have J_17 : ∀ (zs0 : Int32) (zh : PH) (H : Heap) (locs : List Loc) (ls : Array Slot), f_X12_isRule_17 N zs0 zh = some (r9, h9) → gw E s zh H locs → lv_has ls 2 [] → W p l e rm_X12_isRule s m [.ref (gB E + za0), .int za1].toArray below meth c H locs 0 0 (MQ below (gQi E r9 h9) [.ref (gB E + za0), .int za1].toArray s 0 0 (gA E)) (F0 m 17 ls [.int zs0]) := by
    intro zs0 zh H locs ls hf hw hl
    unfold f_X12_isRule_17 at hf
    exact gx_zret X hr hlk hw hf dX12_isRule_17
  have J_16 : ∀ (zh : PH) (H : Heap) (locs : List Loc) (ls : Array Slot), f_X12_isRule_16 N zh = some (r9, h9) → gw E s zh H locs → lv_has ls 2 [] → W p l e rm_X12_isRule s m [.ref (gB E + za0), .int za1].toArray below meth c H locs 0 0 (MQ below (gQi E r9 h9) [.ref (gB E + za0), .int za1].toArray s 0 0 (gA E)) (F0 m 16 ls []) := by
    intro zh H locs ls hf hw hl
    unfold f_X12_isRule_16 at hf
    refine lv_iconst (v := 0) hx hb dX12_isRule_16 (by decide) ?_
    exact J_17 0 _ _ _ ls hf hw (lv_sub hl [] rfl)
  unfold f_X12_isRule at hf
  refine lv_iload_n hx hb dX12_isRule_0 rfl (lv_at hl 1 rfl) ?_
  refine lv_if_lt (tgt := 16) hx hb dX12_isRule_1 (by decide) (fun qc1 => ?_) (fun qc1 => ?_)
  · have hf := gif_t hf qc1
    exact J_16  _ _ _ ls hf hw (lv_sub hl [] rfl)
  · have hf := gif_f hf qc1
    refine lv_iload_n hx hb dX12_isRule_4 rfl (lv_at hl 1 rfl) ?_
    refine lv_aload_n hx hb dX12_isRule_5 rfl (lv_at hl 0 rfl) ?_
    obtain ⟨qizh2, hf⟩ := gg_el hf
    obtain ⟨zt3, zh2, qzh2, hf⟩ := gc_el hf
    refine gx_ki (gx_runV (As := []) (rest := [.int za1]) X hw (c_X12_rules l E N za0 zh qzh2) kX12_rules mm_X12_181 qizh2 clX12 ⟨Nat.le_of_ble_eq_true rfl, Nat.le_of_ble_eq_true rfl⟩ rfl rfl rfl hl.1 (Nat.le_of_ble_eq_true rfl) rfl dX12_isRule_6 ⟨Nat.le_of_ble_eq_true rfl, Nat.le_of_ble_eq_true rfl⟩) hw (fun H locs hw => ?_)
    refine lv_icmp_ge (tgt := 16) hx hb dX12_isRule_9 (by decide) (fun qc4 => ?_) (fun qc4 => ?_)
    · have hf := gif_t hf qc4
      exact J_16  _ _ _ ls hf hw (lv_sub hl [] rfl)
    · have hf := gif_f hf qc4
      refine lv_iconst (v := 1) hx hb dX12_isRule_12 (by decide) ?_
      refine lv_goto (tgt := 17) hx hb dX12_isRule_13 (by decide) ?_
      exact J_17 1 _ _ _ ls hf hw (lv_sub hl [] rfl)
abbrev rm_X12_floors : Room := { frames := 1, cells := 0, slots := 0, locals := 21 }
set_option maxHeartbeats 4000000 in
set_option maxRecDepth 100000 in
theorem c_X12_floors (l : Launch) (E : gE) (N : Nat) (za0 : Nat) (za1 : Int32) (za2 : Int32) (zh : PH) {h9 : PH} {r9 : Int32} (hf : f_X12_floors N za0 za1 za2 zh = some (r9, h9)) : Met l yX12_floors (gWS yX12_floors cX12_floors 4 (some .int)) rm_X12_floors (gPc E [.ref (gB E + za0), .int za1, .int za2] zh) (gQi E r9 h9) 0 0 (gA E) := by
  refine gx_met (by decide) ?_ rfl
  intro p e s m below meth c X hr hlk hin2 hw
  have hx := X.1.1
  have hb := X.1.2.1
  have hl := lv_entry [.ref (gB E + za0), .int za1, .int za2] (n := 4) (Nat.le_of_ble_eq_true rfl)
  rw [lg_entry_eq]
  generalize (lg_sl [.ref (gB E + za0), .int za1, .int za2] ++ List.replicate (4 - (lg_sl [.ref (gB E + za0), .int za1, .int za2]).length) Slot.unset).toArray = ls at hl ⊢
  have hl : lv_has ls 4 [(0, .ref (gB E + za0)), (1, .int za1), (2, .int za2)] := hl
  have J_22 : ∀ (zs0 : Int32) (zh : PH) (H : Heap) (locs : List Loc) (ls : Array Slot), f_X12_floors_22 N zs0 zh = some (r9, h9) → gw E s zh H locs → lv_has ls 4 [] → W p l e rm_X12_floors s m [.ref (gB E + za0), .int za1, .int za2].toArray below meth c H locs 0 0 (MQ below (gQi E r9 h9) [.ref (gB E + za0), .int za1, .int za2].toArray s 0 0 (gA E)) (F0 m 22 ls [.int zs0]) := by
    intro zs0 zh H locs ls hf hw hl
    unfold f_X12_floors_22 at hf
    exact gx_iret X hr hlk hw hf dX12_floors_22
  unfold f_X12_floors at hf
  refine lv_aload_n hx hb dX12_floors_0 rfl (lv_at hl 0 rfl) ?_
  refine lv_iload_n hx hb dX12_floors_1 rfl (lv_at hl 1 rfl) ?_
  obtain ⟨qizh1, hf⟩ := gg_el hf
  obtain ⟨zt2, zh1, qzh1, hf⟩ := gc_el hf
  refine gx_ki (gx_runV (As := [.int za1]) (rest := []) X hw (c_X12_floorOf l E N za0 za1 zh qzh1) kX12_floorOf mm_X12_237 qizh1 clX12 ⟨Nat.le_of_ble_eq_true rfl, Nat.le_of_ble_eq_true rfl⟩ rfl rfl rfl hl.1 (Nat.le_of_ble_eq_true rfl) rfl dX12_floors_2 ⟨Nat.le_of_ble_eq_true rfl, Nat.le_of_ble_eq_true rfl⟩) hw (fun H locs hw => ?_)
  refine lv_aload_n hx hb dX12_floors_5 rfl (lv_at hl 0 rfl) ?_
  refine lv_iload_n hx hb dX12_floors_6 rfl (lv_at hl 2 rfl) ?_
  obtain ⟨qizh3, hf⟩ := gg_el hf
  obtain ⟨zt4, zh3, qzh3, hf⟩ := gc_el hf
  refine gx_ki (gx_runV (As := [.int za2]) (rest := [.int zt2]) X hw (c_X12_floorOf l E N za0 za2 zh1 qzh3) kX12_floorOf mm_X12_237 qizh3 clX12 ⟨Nat.le_of_ble_eq_true rfl, Nat.le_of_ble_eq_true rfl⟩ rfl rfl rfl hl.1 (Nat.le_of_ble_eq_true rfl) rfl dX12_floors_7 ⟨Nat.le_of_ble_eq_true rfl, Nat.le_of_ble_eq_true rfl⟩) hw (fun H locs hw => ?_)
  refine lv_isub hx hb dX12_floors_10 ?_
  refine lv_topi (fun zx5 ezx5 => ?_)
  have hf := gl_el hf ezx5
  refine lv_istore_n (lv' := [(3, .int zx5), (0, .ref (gB E + za0)), (1, .int za1), (2, .int za2)]) hx hb dX12_floors_11 rfl hl (by decide) rfl (fun ls hl => ?_)
  refine lv_iload_n hx hb dX12_floors_12 rfl (lv_at hl 0 rfl) ?_
  refine W.eq (g2 := F0 m 13 ls [.int zx5]) rfl ?_
  refine lv_if_ge (tgt := 21) hx hb dX12_floors_13 (by decide) (fun qc6 => ?_) (fun qc6 => ?_)
  · have hf := gif_t hf qc6
    refine lv_iload_n hx hb dX12_floors_21 rfl (lv_at hl 0 rfl) ?_
    exact J_22 zx5 _ _ _ ls hf hw (lv_sub hl [] rfl)
  · have hf := gif_f hf qc6
    refine lv_iload_n hx hb dX12_floors_16 rfl (lv_at hl 0 rfl) ?_
    refine lv_ineg hx hb dX12_floors_17 ?_
    refine lv_goto (tgt := 22) hx hb dX12_floors_18 (by decide) ?_
    exact J_22 (-zx5) _ _ _ ls hf hw (lv_sub hl [] rfl)
abbrev rm_X12_events : Room := { frames := 0, cells := 0, slots := 0, locals := 0 }
set_option maxHeartbeats 4000000 in
set_option maxRecDepth 100000 in
theorem c_X12_events (l : Launch) (E : gE) (N : Nat) (za0 : Nat) (zh : PH) {h9 : PH} {r9 : Int32} (hf : f_X12_events N za0 zh = some (r9, h9)) : Met l yX12_events (gWS yX12_events cX12_events 1 (some .int)) rm_X12_events (gPc E [.ref (gB E + za0)] zh) (gQi E r9 h9) 0 0 (gA E) := by
  refine gx_met (by decide) ?_ rfl
  intro p e s m below meth c X hr hlk hin2 hw
  have hx := X.1.1
  have hb := X.1.2.1
  have hl := lv_entry [.ref (gB E + za0)] (n := 1) (Nat.le_of_ble_eq_true rfl)
  rw [lg_entry_eq]
  generalize (lg_sl [.ref (gB E + za0)] ++ List.replicate (1 - (lg_sl [.ref (gB E + za0)]).length) Slot.unset).toArray = ls at hl ⊢
  have hl : lv_has ls 1 [(0, .ref (gB E + za0))] := hl
  unfold f_X12_events at hf
  refine lv_aload_n hx hb dX12_events_0 rfl (lv_at hl 0 rfl) ?_
  obtain ⟨zt1, qzt1, hf⟩ := gb_el hf
  refine gx_getR X hw qzt1 clX12 (by decide) mf_X12_83 dX12_events_1 ?_
  refine lv_iconst (v := 1) hx hb dX12_events_4 (by decide) ?_
  obtain ⟨zt2, qzt2, hf⟩ := gb_el hf
  refine gx_iald X hw qzt2 dX12_events_5 ?_
  exact gx_iret X hr hlk hw hf dX12_events_6
abbrev rm_X12_eventOf : Room := { frames := 0, cells := 0, slots := 0, locals := 0 }
set_option maxHeartbeats 4000000 in
set_option maxRecDepth 100000 in
theorem c_X12_eventOf (l : Launch) (E : gE) (N : Nat) (za0 : Nat) (za1 : Int32) (za2 : Int32) (zh : PH) {h9 : PH} {r9 : Int32} (hf : f_X12_eventOf N za0 za1 za2 zh = some (r9, h9)) : Met l yX12_eventOf (gWS yX12_eventOf cX12_eventOf 3 (some .int)) rm_X12_eventOf (gPc E [.ref (gB E + za0), .int za1, .int za2] zh) (gQi E r9 h9) 0 0 (gA E) := by
  refine gx_met (by decide) ?_ rfl
  intro p e s m below meth c X hr hlk hin2 hw
  have hx := X.1.1
  have hb := X.1.2.1
  have hl := lv_entry [.ref (gB E + za0), .int za1, .int za2] (n := 3) (Nat.le_of_ble_eq_true rfl)
  rw [lg_entry_eq]
  generalize (lg_sl [.ref (gB E + za0), .int za1, .int za2] ++ List.replicate (3 - (lg_sl [.ref (gB E + za0), .int za1, .int za2]).length) Slot.unset).toArray = ls at hl ⊢
  have hl : lv_has ls 3 [(0, .ref (gB E + za0)), (1, .int za1), (2, .int za2)] := hl
  unfold f_X12_eventOf at hf
  refine lv_aload_n hx hb dX12_eventOf_0 rfl (lv_at hl 0 rfl) ?_
  obtain ⟨zt1, qzt1, hf⟩ := gb_el hf
  refine gx_getR X hw qzt1 clX12 (by decide) mf_X12_83 dX12_eventOf_1 ?_
  refine lv_iconst (v := 2) hx hb dX12_eventOf_4 (by decide) ?_
  refine lv_iconst (v := 4) hx hb dX12_eventOf_5 (by decide) ?_
  refine lv_iload_n hx hb dX12_eventOf_6 rfl (lv_at hl 1 rfl) ?_
  refine lv_imul hx hb dX12_eventOf_7 ?_
  refine lv_iadd hx hb dX12_eventOf_8 ?_
  refine lv_iload_n hx hb dX12_eventOf_9 rfl (lv_at hl 2 rfl) ?_
  refine lv_iadd hx hb dX12_eventOf_10 ?_
  refine W.eq (g2 := F0 m 11 ls [.int ((2 + (4 * za1)) + za2), .ref (gB E + zt1)]) rfl ?_
  obtain ⟨zt2, qzt2, hf⟩ := gb_el hf
  refine gx_iald X hw qzt2 dX12_eventOf_11 ?_
  exact gx_iret X hr hlk hw hf dX12_eventOf_12
abbrev rm_X12_begins : Room := { frames := 0, cells := 0, slots := 0, locals := 0 }
set_option maxHeartbeats 4000000 in
set_option maxRecDepth 100000 in
theorem c_X12_begins (l : Launch) (E : gE) (N : Nat) (za0 : Nat) (zh : PH) {h9 : PH} (hf : f_X12_begins N za0 zh = some h9) : Met l yX12_begins (gWS yX12_begins cX12_begins 2 none) rm_X12_begins (gPc E [.ref (gB E + za0)] zh) (gQv E h9) 0 0 (gA E) := by
  refine gx_met (by decide) ?_ rfl
  intro p e s m below meth c X hr hlk hin2 hw
  have hx := X.1.1
  have hb := X.1.2.1
  have hl := lv_entry [.ref (gB E + za0)] (n := 2) (Nat.le_of_ble_eq_true rfl)
  rw [lg_entry_eq]
  generalize (lg_sl [.ref (gB E + za0)] ++ List.replicate (2 - (lg_sl [.ref (gB E + za0)]).length) Slot.unset).toArray = ls at hl ⊢
  have hl : lv_has ls 2 [(0, .ref (gB E + za0))] := hl
  have L_2 : ∀ (zn2 : Nat) (zv0 : Nat) (zv1 : Int32) (zh : PH) (H : Heap) (locs : List Loc) (ls : Array Slot), gi (fun zk zs => f_X12_begins_2 N zk zs.1 zs.2.1 zs.2.2) zn2 (zv0, zv1, zh) = some h9 → gw E s zh H locs → lv_has ls 2 [(0, .ref (gB E + zv0)), (1, .int zv1)] → W p l e rm_X12_begins s m [.ref (gB E + za0)].toArray below meth c H locs 0 0 (MQ below (gQv E h9) [.ref (gB E + za0)].toArray s 0 0 (gA E)) (F0 m 2 ls []) := by
    intro zn2
    induction zn2 with
    | zero =>
      intro zv0 zv1 zh H locs ls hf
      cases hf
    | succ zn2 ih_2 =>
      intro zv0 zv1 zh H locs ls hf hw hl
      have hf := gi_s hf
      dsimp only at hf
      unfold f_X12_begins_2 at hf
      refine lv_iload_n hx hb dX12_begins_2 rfl (lv_at hl 1 rfl) ?_
      refine lv_bipush (v := 10) hx hb dX12_begins_3 (by decide) ?_
      refine lv_icmp_ge (tgt := 42) hx hb dX12_begins_5 (by decide) (fun qc1 => ?_) (fun qc1 => ?_)
      · have hf := gif_t hf qc1
        refine lv_aload_n hx hb dX12_begins_42 rfl (lv_at hl 0 rfl) ?_
        refine lv_iconst (v := 0) hx hb dX12_begins_43 (by decide) ?_
        obtain ⟨zh2, qzh2, hf⟩ := gb_el hf
        refine gx_putV X hw qzh2 clX12 (by decide) mf_X12_240 rfl rfl rfl dX12_begins_44 (fun H locs hw => ?_)
        refine lv_aload_n hx hb dX12_begins_47 rfl (lv_at hl 0 rfl) ?_
        refine lv_iconst (v := 0) hx hb dX12_begins_48 (by decide) ?_
        obtain ⟨zh3, qzh3, hf⟩ := gb_el hf
        refine gx_putV X hw qzh3 clX12 (by decide) mf_X12_243 rfl rfl rfl dX12_begins_49 (fun H locs hw => ?_)
        refine W.eq (g2 := F0 m 52 ls []) rfl ?_
        refine lv_aload_n hx hb dX12_begins_52 rfl (lv_at hl 0 rfl) ?_
        refine lv_iconst (v := 0) hx hb dX12_begins_53 (by decide) ?_
        obtain ⟨zh4, qzh4, hf⟩ := gb_el hf
        refine gx_putV X hw qzh4 clX12 (by decide) mf_X12_246 rfl rfl rfl dX12_begins_54 (fun H locs hw => ?_)
        refine lv_aload_n hx hb dX12_begins_57 rfl (lv_at hl 0 rfl) ?_
        refine lv_iconst (v := 0) hx hb dX12_begins_58 (by decide) ?_
        obtain ⟨zh5, qzh5, hf⟩ := gb_el hf
        refine gx_putV X hw qzh5 clX12 (by decide) mf_X12_249 rfl rfl rfl dX12_begins_59 (fun H locs hw => ?_)
        refine lv_aload_n hx hb dX12_begins_62 rfl (lv_at hl 0 rfl) ?_
        refine lv_iconst (v := 0) hx hb dX12_begins_63 (by decide) ?_
        obtain ⟨zh6, qzh6, hf⟩ := gb_el hf
        refine gx_putV X hw qzh6 clX12 (by decide) mf_X12_252 rfl rfl rfl dX12_begins_64 (fun H locs hw => ?_)
        refine lv_aload_n hx hb dX12_begins_67 rfl (lv_at hl 0 rfl) ?_
        refine W.eq (g2 := F0 m 68 ls [.ref (gB E + zv0)]) rfl ?_
        refine lv_iconst (v := 0) hx hb dX12_begins_68 (by decide) ?_
        obtain ⟨zh7, qzh7, hf⟩ := gb_el hf
        refine gx_putV X hw qzh7 clX12 (by decide) mf_X12_255 rfl rfl rfl dX12_begins_69 (fun H locs hw => ?_)
        exact gx_vret X hr hlk hw hf dX12_begins_72
      · have hf := gif_f hf qc1
        refine lv_aload_n hx hb dX12_begins_8 rfl (lv_at hl 0 rfl) ?_
        obtain ⟨zt8, qzt8, hf⟩ := gb_el hf
        refine gx_getR X hw qzt8 clX12 (by decide) mf_X12_86 dX12_begins_9 ?_
        refine lv_iload_n hx hb dX12_begins_12 rfl (lv_at hl 1 rfl) ?_
        refine lv_iconst (v := (-1)) hx hb dX12_begins_13 (by decide) ?_
        obtain ⟨zh9, qzh9, hf⟩ := gb_el hf
        refine gx_iast X hw qzh9 dX12_begins_14 (fun H locs hw => ?_)
        refine lv_aload_n hx hb dX12_begins_15 rfl (lv_at hl 0 rfl) ?_
        refine W.eq (g2 := F0 m 16 ls [.ref (gB E + zv0)]) rfl ?_
        obtain ⟨zt10, qzt10, hf⟩ := gb_el hf
        refine gx_getR X hw qzt10 clX12 (by decide) mf_X12_89 dX12_begins_16 ?_
        refine lv_iload_n hx hb dX12_begins_19 rfl (lv_at hl 1 rfl) ?_
        refine lv_iconst (v := 0) hx hb dX12_begins_20 (by decide) ?_
        obtain ⟨zh11, qzh11, hf⟩ := gb_el hf
        refine gx_iast X hw qzh11 dX12_begins_21 (fun H locs hw => ?_)
        refine lv_aload_n hx hb dX12_begins_22 rfl (lv_at hl 0 rfl) ?_
        obtain ⟨zt12, qzt12, hf⟩ := gb_el hf
        refine gx_getR X hw qzt12 clX12 (by decide) mf_X12_92 dX12_begins_23 ?_
        refine lv_iload_n hx hb dX12_begins_26 rfl (lv_at hl 1 rfl) ?_
        refine lv_iconst (v := 0) hx hb dX12_begins_27 (by decide) ?_
        obtain ⟨zh13, qzh13, hf⟩ := gb_el hf
        refine gx_iast X hw qzh13 dX12_begins_28 (fun H locs hw => ?_)
        refine lv_aload_n hx hb dX12_begins_29 rfl (lv_at hl 0 rfl) ?_
        refine W.eq (g2 := F0 m 30 ls [.ref (gB E + zv0)]) rfl ?_
        obtain ⟨zt14, qzt14, hf⟩ := gb_el hf
        refine gx_getR X hw qzt14 clX12 (by decide) mf_X12_95 dX12_begins_30 ?_
        refine lv_iload_n hx hb dX12_begins_33 rfl (lv_at hl 1 rfl) ?_
        refine lv_iconst (v := 0) hx hb dX12_begins_34 (by decide) ?_
        obtain ⟨zh15, qzh15, hf⟩ := gb_el hf
        refine gx_zast X hw qzh15 dX12_begins_35 (fun H locs hw => ?_)
        obtain ⟨zx16, ezx16⟩ : ∃ y : Int32, y = zv1 + 1 := ⟨_, rfl⟩
        have hf := gl_el hf ezx16
        refine lv_iinc (v := zx16) (lv' := [(1, .int zx16), (0, .ref (gB E + zv0))]) hx hb dX12_begins_36 hl (k := 1) rfl (by rw [ezx16]; rfl) (by decide) rfl (fun ls hl => ?_)
        refine lv_goto (tgt := 2) hx hb dX12_begins_39 (by decide) ?_
        exact ih_2 zv0 zx16 _ _ _ ls hf hw (lv_sub hl [1, 0] rfl)
  unfold f_X12_begins at hf
  refine lv_iconst (v := 0) hx hb dX12_begins_0 (by decide) ?_
  refine lv_istore_n (lv' := [(1, .int 0), (0, .ref (gB E + za0))]) hx hb dX12_begins_1 rfl hl (by decide) rfl (fun ls hl => ?_)
  exact L_2 N za0 0 _ _ _ ls hf hw (lv_sub hl [1, 0] rfl)
abbrev rm_X12_goes : Room := { frames := 2, cells := 0, slots := 0, locals := 44 }
set_option maxHeartbeats 4000000 in
set_option maxRecDepth 100000 in
theorem c_X12_goes (l : Launch) (E : gE) (N : Nat) (za0 : Nat) (za1 : Int32) (za2 : Int32) (za3 : Int32) (zh : PH) {h9 : PH} (hf : f_X12_goes N za0 za1 za2 za3 zh = some h9) : Met l yX12_goes (gWS yX12_goes cX12_goes 7 none) rm_X12_goes (gPc E [.ref (gB E + za0), .int za1, .int za2, .int za3] zh) (gQv E h9) 0 0 (gA E) := by
  refine gx_met (by decide) ?_ rfl
  intro p e s m below meth c X hr hlk hin2 hw
  have hx := X.1.1
  have hb := X.1.2.1
  have hl := lv_entry [.ref (gB E + za0), .int za1, .int za2, .int za3] (n := 7) (Nat.le_of_ble_eq_true rfl)
  rw [lg_entry_eq]
  generalize (lg_sl [.ref (gB E + za0), .int za1, .int za2, .int za3] ++ List.replicate (7 - (lg_sl [.ref (gB E + za0), .int za1, .int za2, .int za3]).length) Slot.unset).toArray = ls at hl ⊢
  have hl : lv_has ls 7 [(0, .ref (gB E + za0)), (1, .int za1), (2, .int za2), (3, .int za3)] := hl
  have J_258 : ∀ (zh : PH) (H : Heap) (locs : List Loc) (ls : Array Slot), f_X12_goes_258 N zh = some h9 → gw E s zh H locs → lv_has ls 7 [] → W p l e rm_X12_goes s m [.ref (gB E + za0), .int za1, .int za2, .int za3].toArray below meth c H locs 0 0 (MQ below (gQv E h9) [.ref (gB E + za0), .int za1, .int za2, .int za3].toArray s 0 0 (gA E)) (F0 m 258 ls []) := by
    intro zh H locs ls hf hw hl
    unfold f_X12_goes_258 at hf
    exact gx_vret X hr hlk hw hf dX12_goes_258
  have J_247 : ∀ (zv0 : Nat) (zv1 : Int32) (zv3 : Int32) (zh : PH) (H : Heap) (locs : List Loc) (ls : Array Slot), f_X12_goes_247 N zv0 zv1 zv3 zh = some h9 → gw E s zh H locs → lv_has ls 7 [(0, .ref (gB E + zv0)), (1, .int zv1), (3, .int zv3)] → W p l e rm_X12_goes s m [.ref (gB E + za0), .int za1, .int za2, .int za3].toArray below meth c H locs 0 0 (MQ below (gQv E h9) [.ref (gB E + za0), .int za1, .int za2, .int za3].toArray s 0 0 (gA E)) (F0 m 247 ls []) := by
    intro zv0 zv1 zv3 zh H locs ls hf hw hl
    unfold f_X12_goes_247 at hf
    refine lv_iload_n hx hb dX12_goes_247 rfl (lv_at hl 2 rfl) ?_
    refine lv_if_lt (tgt := 258) hx hb dX12_goes_248 (by decide) (fun qc1 => ?_) (fun qc1 => ?_)
    · have hf := gif_t hf qc1
      exact J_258  _ _ _ ls hf hw (lv_sub hl [] rfl)
    · have hf := gif_f hf qc1
      refine lv_aload_n hx hb dX12_goes_251 rfl (lv_at hl 0 rfl) ?_
      obtain ⟨zt2, qzt2, hf⟩ := gb_el hf
      refine gx_getR X hw qzt2 clX12 (by decide) mf_X12_86 dX12_goes_252 ?_
      refine lv_iload_n hx hb dX12_goes_255 rfl (lv_at hl 2 rfl) ?_
      refine lv_iload_n hx hb dX12_goes_256 rfl (lv_at hl 1 rfl) ?_
      obtain ⟨zh3, qzh3, hf⟩ := gb_el hf
      refine gx_iast X hw qzh3 dX12_goes_257 (fun H locs hw => ?_)
      exact J_258  _ _ _ ls hf hw (lv_sub hl [] rfl)
  have J_236 : ∀ (zv0 : Nat) (zv1 : Int32) (zv2 : Int32) (zv3 : Int32) (zh : PH) (H : Heap) (locs : List Loc) (ls : Array Slot), f_X12_goes_236 N zv0 zv1 zv2 zv3 zh = some h9 → gw E s zh H locs → lv_has ls 7 [(0, .ref (gB E + zv0)), (1, .int zv1), (2, .int zv2), (3, .int zv3)] → W p l e rm_X12_goes s m [.ref (gB E + za0), .int za1, .int za2, .int za3].toArray below meth c H locs 0 0 (MQ below (gQv E h9) [.ref (gB E + za0), .int za1, .int za2, .int za3].toArray s 0 0 (gA E)) (F0 m 236 ls []) := by
    intro zv0 zv1 zv2 zv3 zh H locs ls hf hw hl
    unfold f_X12_goes_236 at hf
    refine lv_iload_n hx hb dX12_goes_236 rfl (lv_at hl 2 rfl) ?_
    refine lv_if_lt (tgt := 247) hx hb dX12_goes_237 (by decide) (fun qc1 => ?_) (fun qc1 => ?_)
    · have hf := gif_t hf qc1
      exact J_247 zv0 zv1 zv3 _ _ _ ls hf hw (lv_sub hl [0, 1, 3] rfl)
    · have hf := gif_f hf qc1
      refine lv_aload_n hx hb dX12_goes_240 rfl (lv_at hl 0 rfl) ?_
      obtain ⟨zt2, qzt2, hf⟩ := gb_el hf
      refine gx_getR X hw qzt2 clX12 (by decide) mf_X12_86 dX12_goes_241 ?_
      refine lv_iload_n hx hb dX12_goes_244 rfl (lv_at hl 2 rfl) ?_
      refine lv_iconst (v := (-1)) hx hb dX12_goes_245 (by decide) ?_
      obtain ⟨zh3, qzh3, hf⟩ := gb_el hf
      refine gx_iast X hw qzh3 dX12_goes_246 (fun H locs hw => ?_)
      exact J_247 zv0 zv1 zv3 _ _ _ ls hf hw (lv_sub hl [0, 1, 3] rfl)
  have J_58 : ∀ (zv0 : Nat) (zv1 : Int32) (zv2 : Int32) (zv3 : Int32) (zv4 : Int32) (zs0 : Int32) (zh : PH) (H : Heap) (locs : List Loc) (ls : Array Slot), f_X12_goes_58 N zv0 zv1 zv2 zv3 zv4 zs0 zh = some h9 → gw E s zh H locs → lv_has ls 7 [(0, .ref (gB E + zv0)), (1, .int zv1), (2, .int zv2), (3, .int zv3), (4, .int zv4)] → W p l e rm_X12_goes s m [.ref (gB E + za0), .int za1, .int za2, .int za3].toArray below meth c H locs 0 0 (MQ below (gQv E h9) [.ref (gB E + za0), .int za1, .int za2, .int za3].toArray s 0 0 (gA E)) (F0 m 58 ls [.int zs0]) := by
    intro zv0 zv1 zv2 zv3 zv4 zs0 zh H locs ls hf hw hl
    unfold f_X12_goes_58 at hf
    refine lv_istore (lv' := [(5, .int zs0), (0, .ref (gB E + zv0)), (1, .int zv1), (2, .int zv2), (3, .int zv3), (4, .int zv4)]) hx hb dX12_goes_58 hl (by decide) rfl (fun ls hl => ?_)
    refine lv_iload hx hb dX12_goes_60 (lv_at hl 0 rfl) ?_
    refine lv_bipush (v := 10) hx hb dX12_goes_62 (by decide) ?_
    refine lv_aload_n hx hb dX12_goes_64 rfl (lv_at hl 1 rfl) ?_
    refine lv_iload_n hx hb dX12_goes_65 rfl (lv_at hl 3 rfl) ?_
    refine lv_iload_n hx hb dX12_goes_66 rfl (lv_at hl 4 rfl) ?_
    obtain ⟨qizh1, hf⟩ := gg_el hf
    obtain ⟨zt2, zh1, qzh1, hf⟩ := gc_el hf
    refine gx_ki (gx_runV (As := [.int zv2, .int zv3]) (rest := [.int 10, .int zs0]) X hw (c_X12_floors l E N zv0 zv2 zv3 zh qzh1) kX12_floors mm_X12_258 qizh1 clX12 ⟨Nat.le_of_ble_eq_true rfl, Nat.le_of_ble_eq_true rfl⟩ rfl rfl rfl hl.1 (Nat.le_of_ble_eq_true rfl) rfl dX12_goes_67 ⟨Nat.le_of_ble_eq_true rfl, Nat.le_of_ble_eq_true rfl⟩) hw (fun H locs hw => ?_)
    refine lv_imul hx hb dX12_goes_70 ?_
    refine lv_iadd hx hb dX12_goes_71 ?_
    refine W.eq (g2 := F0 m 72 ls [.int (zs0 + (10 * zt2))]) rfl ?_
    refine lv_topi (fun zx3 ezx3 => ?_)
    have hf := gl_el hf ezx3
    refine lv_istore (lv' := [(5, .int zx3), (0, .ref (gB E + zv0)), (1, .int zv1), (2, .int zv2), (3, .int zv3), (4, .int zv4)]) hx hb dX12_goes_72 hl (by decide) rfl (fun ls hl => ?_)
    refine lv_iconst (v := 5) hx hb dX12_goes_74 (by decide) ?_
    refine lv_aload_n hx hb dX12_goes_75 rfl (lv_at hl 1 rfl) ?_
    obtain ⟨zt4, qzt4, hf⟩ := gb_el hf
    refine gx_getI X hw qzt4 clX12 (by decide) mf_X12_255 dX12_goes_76 ?_
    refine lv_imul hx hb dX12_goes_79 ?_
    refine lv_topi (fun zx5 ezx5 => ?_)
    have hf := gl_el hf ezx5
    refine lv_istore (lv' := [(6, .int zx5), (5, .int zx3), (0, .ref (gB E + zv0)), (1, .int zv1), (2, .int zv2), (3, .int zv3), (4, .int zv4)]) hx hb dX12_goes_80 hl (by decide) rfl (fun ls hl => ?_)
    refine lv_aload_n hx hb dX12_goes_82 rfl (lv_at hl 2 rfl) ?_
    obtain ⟨zt6, qzt6, hf⟩ := gb_el hf
    refine gx_getR X hw qzt6 clX12 (by decide) mf_X12_99 dX12_goes_83 ?_
    refine lv_iload hx hb dX12_goes_86 (lv_at hl 0 rfl) ?_
    refine lv_iload_n hx hb dX12_goes_88 rfl (lv_at hl 3 rfl) ?_
    refine W.eq (g2 := F0 m 89 ls [.int zv1, .int zx5, .ref (gB E + zt6)]) rfl ?_
    obtain ⟨zh7, qzh7, hf⟩ := gb_el hf
    refine gx_iast X hw qzh7 dX12_goes_89 (fun H locs hw => ?_)
    refine lv_aload_n hx hb dX12_goes_90 rfl (lv_at hl 2 rfl) ?_
    obtain ⟨zt8, qzt8, hf⟩ := gb_el hf
    refine gx_getR X hw qzt8 clX12 (by decide) mf_X12_99 dX12_goes_91 ?_
    refine lv_iload hx hb dX12_goes_94 (lv_at hl 0 rfl) ?_
    refine lv_iconst (v := 1) hx hb dX12_goes_96 (by decide) ?_
    refine lv_iadd hx hb dX12_goes_97 ?_
    refine lv_iload_n hx hb dX12_goes_98 rfl (lv_at hl 4 rfl) ?_
    obtain ⟨zh9, qzh9, hf⟩ := gb_el hf
    refine gx_iast X hw qzh9 dX12_goes_99 (fun H locs hw => ?_)
    refine lv_aload_n hx hb dX12_goes_100 rfl (lv_at hl 2 rfl) ?_
    obtain ⟨zt10, qzt10, hf⟩ := gb_el hf
    refine gx_getR X hw qzt10 clX12 (by decide) mf_X12_99 dX12_goes_101 ?_
    refine W.eq (g2 := F0 m 104 ls [.ref (gB E + zt10)]) rfl ?_
    refine lv_iload hx hb dX12_goes_104 (lv_at hl 0 rfl) ?_
    refine lv_iconst (v := 2) hx hb dX12_goes_106 (by decide) ?_
    refine lv_iadd hx hb dX12_goes_107 ?_
    refine lv_iload_n hx hb dX12_goes_108 rfl (lv_at hl 5 rfl) ?_
    obtain ⟨zh11, qzh11, hf⟩ := gb_el hf
    refine gx_iast X hw qzh11 dX12_goes_109 (fun H locs hw => ?_)
    refine lv_aload_n hx hb dX12_goes_110 rfl (lv_at hl 2 rfl) ?_
    obtain ⟨zt12, qzt12, hf⟩ := gb_el hf
    refine gx_getR X hw qzt12 clX12 (by decide) mf_X12_99 dX12_goes_111 ?_
    refine lv_iload hx hb dX12_goes_114 (lv_at hl 0 rfl) ?_
    refine lv_iconst (v := 3) hx hb dX12_goes_116 (by decide) ?_
    refine lv_iadd hx hb dX12_goes_117 ?_
    refine W.eq (g2 := F0 m 118 ls [.int (zx5 + 3), .ref (gB E + zt12)]) rfl ?_
    refine lv_aload_n hx hb dX12_goes_118 rfl (lv_at hl 2 rfl) ?_
    obtain ⟨zt13, qzt13, hf⟩ := gb_el hf
    refine gx_getI X hw qzt13 clX12 (by decide) mf_X12_252 dX12_goes_119 ?_
    obtain ⟨zh14, qzh14, hf⟩ := gb_el hf
    refine gx_iast X hw qzh14 dX12_goes_122 (fun H locs hw => ?_)
    refine lv_aload_n hx hb dX12_goes_123 rfl (lv_at hl 2 rfl) ?_
    obtain ⟨zt15, qzt15, hf⟩ := gb_el hf
    refine gx_getR X hw qzt15 clX12 (by decide) mf_X12_99 dX12_goes_124 ?_
    refine lv_iload hx hb dX12_goes_127 (lv_at hl 0 rfl) ?_
    refine lv_iconst (v := 4) hx hb dX12_goes_129 (by decide) ?_
    refine lv_iadd hx hb dX12_goes_130 ?_
    refine lv_aload_n hx hb dX12_goes_131 rfl (lv_at hl 2 rfl) ?_
    obtain ⟨zt16, qzt16, hf⟩ := gb_el hf
    refine gx_getI X hw qzt16 clX12 (by decide) mf_X12_252 dX12_goes_132 ?_
    refine W.eq (g2 := F0 m 135 ls [.int zt16, .int (zx5 + 4), .ref (gB E + zt15)]) rfl ?_
    refine lv_iload hx hb dX12_goes_135 (lv_at hl 6 rfl) ?_
    refine lv_iadd hx hb dX12_goes_137 ?_
    obtain ⟨zh17, qzh17, hf⟩ := gb_el hf
    refine gx_iast X hw qzh17 dX12_goes_138 (fun H locs hw => ?_)
    refine lv_aload_n hx hb dX12_goes_139 rfl (lv_at hl 2 rfl) ?_
    refine lv_dup hx hb dX12_goes_140 rfl ?_
    obtain ⟨zt18, qzt18, hf⟩ := gb_el hf
    refine gx_getI X hw qzt18 clX12 (by decide) mf_X12_255 dX12_goes_141 ?_
    refine lv_iconst (v := 1) hx hb dX12_goes_144 (by decide) ?_
    refine lv_iadd hx hb dX12_goes_145 ?_
    obtain ⟨zh19, qzh19, hf⟩ := gb_el hf
    refine gx_putV X hw qzh19 clX12 (by decide) mf_X12_255 rfl rfl rfl dX12_goes_146 (fun H locs hw => ?_)
    refine lv_aload_n hx hb dX12_goes_149 rfl (lv_at hl 2 rfl) ?_
    refine W.eq (g2 := F0 m 150 ls [.ref (gB E + zv0)]) rfl ?_
    refine lv_dup hx hb dX12_goes_150 rfl ?_
    obtain ⟨zt20, qzt20, hf⟩ := gb_el hf
    refine gx_getI X hw qzt20 clX12 (by decide) mf_X12_252 dX12_goes_151 ?_
    refine lv_iload hx hb dX12_goes_154 (lv_at hl 6 rfl) ?_
    refine lv_iadd hx hb dX12_goes_156 ?_
    obtain ⟨zh21, qzh21, hf⟩ := gb_el hf
    refine gx_putV X hw qzh21 clX12 (by decide) mf_X12_252 rfl rfl rfl dX12_goes_157 (fun H locs hw => ?_)
    refine lv_aload_n hx hb dX12_goes_160 rfl (lv_at hl 2 rfl) ?_
    refine lv_dup hx hb dX12_goes_161 rfl ?_
    obtain ⟨zt22, qzt22, hf⟩ := gb_el hf
    refine gx_getI X hw qzt22 clX12 (by decide) mf_X12_249 dX12_goes_162 ?_
    refine lv_iload hx hb dX12_goes_165 (lv_at hl 6 rfl) ?_
    refine lv_iadd hx hb dX12_goes_167 ?_
    refine W.eq (g2 := F0 m 168 ls [.int (zt22 + zv4), .ref (gB E + zv0)]) rfl ?_
    obtain ⟨zh23, qzh23, hf⟩ := gb_el hf
    refine gx_putV X hw qzh23 clX12 (by decide) mf_X12_249 rfl rfl rfl dX12_goes_168 (fun H locs hw => ?_)
    refine lv_aload_n hx hb dX12_goes_171 rfl (lv_at hl 2 rfl) ?_
    refine lv_dup hx hb dX12_goes_172 rfl ?_
    obtain ⟨zt24, qzt24, hf⟩ := gb_el hf
    refine gx_getI X hw qzt24 clX12 (by decide) mf_X12_240 dX12_goes_173 ?_
    refine lv_iload hx hb dX12_goes_176 (lv_at hl 1 rfl) ?_
    refine lv_iadd hx hb dX12_goes_178 ?_
    obtain ⟨zh25, qzh25, hf⟩ := gb_el hf
    refine gx_putV X hw qzh25 clX12 (by decide) mf_X12_240 rfl rfl rfl dX12_goes_179 (fun H locs hw => ?_)
    refine lv_aload_n hx hb dX12_goes_182 rfl (lv_at hl 2 rfl) ?_
    obtain ⟨zt26, qzt26, hf⟩ := gb_el hf
    refine gx_getR X hw qzt26 clX12 (by decide) mf_X12_92 dX12_goes_183 ?_
    refine lv_iload_n hx hb dX12_goes_186 rfl (lv_at hl 3 rfl) ?_
    refine W.eq (g2 := F0 m 187 ls [.int zv1, .ref (gB E + zt26)]) rfl ?_
    refine lv_dup2_11 hx hb dX12_goes_187 rfl rfl ?_
    obtain ⟨zt27, qzt27, hf⟩ := gb_el hf
    refine gx_iald X hw qzt27 dX12_goes_188 ?_
    refine lv_iload hx hb dX12_goes_189 (lv_at hl 1 rfl) ?_
    refine lv_iadd hx hb dX12_goes_191 ?_
    obtain ⟨zh28, qzh28, hf⟩ := gb_el hf
    refine gx_iast X hw qzh28 dX12_goes_192 (fun H locs hw => ?_)
    refine lv_iload_n hx hb dX12_goes_193 rfl (lv_at hl 4 rfl) ?_
    refine lv_if_lt (tgt := 236) hx hb dX12_goes_194 (by decide) (fun qc29 => ?_) (fun qc29 => ?_)
    · have hf := gif_t hf qc29
      exact J_236 zv0 zv1 zv2 zv3 _ _ _ ls hf hw (lv_sub hl [2, 3, 4, 5] rfl)
    · have hf := gif_f hf qc29
      refine lv_iload_n hx hb dX12_goes_197 rfl (lv_at hl 5 rfl) ?_
      refine lv_if_lt (tgt := 236) hx hb dX12_goes_198 (by decide) (fun qc30 => ?_) (fun qc30 => ?_)
      · have hf := gif_t hf qc30
        exact J_236 zv0 zv1 zv2 zv3 _ _ _ ls hf hw (lv_sub hl [2, 3, 4, 5] rfl)
      · have hf := gif_f hf qc30
        refine lv_aload_n hx hb dX12_goes_201 rfl (lv_at hl 2 rfl) ?_
        refine W.eq (g2 := F0 m 202 ls [.ref (gB E + zv0)]) rfl ?_
        refine lv_dup hx hb dX12_goes_202 rfl ?_
        obtain ⟨zt31, qzt31, hf⟩ := gb_el hf
        refine gx_getI X hw qzt31 clX12 (by decide) mf_X12_246 dX12_goes_203 ?_
        refine lv_iconst (v := 1) hx hb dX12_goes_206 (by decide) ?_
        refine lv_iadd hx hb dX12_goes_207 ?_
        obtain ⟨zh32, qzh32, hf⟩ := gb_el hf
        refine gx_putV X hw qzh32 clX12 (by decide) mf_X12_246 rfl rfl rfl dX12_goes_208 (fun H locs hw => ?_)
        refine lv_aload_n hx hb dX12_goes_211 rfl (lv_at hl 2 rfl) ?_
        obtain ⟨zt33, qzt33, hf⟩ := gb_el hf
        refine gx_getR X hw qzt33 clX12 (by decide) mf_X12_89 dX12_goes_212 ?_
        refine lv_iload_n hx hb dX12_goes_215 rfl (lv_at hl 3 rfl) ?_
        refine lv_dup2_11 hx hb dX12_goes_216 rfl rfl ?_
        obtain ⟨zt34, qzt34, hf⟩ := gb_el hf
        refine gx_iald X hw qzt34 dX12_goes_217 ?_
        refine W.eq (g2 := F0 m 218 ls [.int zt34, .int zv1, .ref (gB E + zt33)]) rfl ?_
        refine lv_iconst (v := 1) hx hb dX12_goes_218 (by decide) ?_
        refine lv_iadd hx hb dX12_goes_219 ?_
        obtain ⟨zh35, qzh35, hf⟩ := gb_el hf
        refine gx_iast X hw qzh35 dX12_goes_220 (fun H locs hw => ?_)
        refine lv_aload_n hx hb dX12_goes_221 rfl (lv_at hl 2 rfl) ?_
        refine lv_dup hx hb dX12_goes_222 rfl ?_
        obtain ⟨zt36, qzt36, hf⟩ := gb_el hf
        refine gx_getI X hw qzt36 clX12 (by decide) mf_X12_243 dX12_goes_223 ?_
        refine lv_aload_n hx hb dX12_goes_226 rfl (lv_at hl 2 rfl) ?_
        refine lv_iload_n hx hb dX12_goes_227 rfl (lv_at hl 3 rfl) ?_
        refine lv_iconst (v := 1) hx hb dX12_goes_228 (by decide) ?_
        obtain ⟨qizh37, hf⟩ := gg_el hf
        obtain ⟨zt38, zh37, qzh37, hf⟩ := gc_el hf
        refine gx_ki (gx_runV (As := [.int zv1, .int 1]) (rest := [.int zt36, .ref (gB E + zv0)]) X hw (c_X12_guestOf l E N zv0 zv1 1 zh35 qzh37) kX12_guestOf mm_X12_261 qizh37 clX12 ⟨Nat.le_of_ble_eq_true rfl, Nat.le_of_ble_eq_true rfl⟩ rfl rfl rfl hl.1 (Nat.le_of_ble_eq_true rfl) rfl dX12_goes_229 ⟨Nat.le_of_ble_eq_true rfl, Nat.le_of_ble_eq_true rfl⟩) hw (fun H locs hw => ?_)
        refine W.eq (g2 := F0 m 232 ls [.int zt38, .int zt36, .ref (gB E + zv0)]) rfl ?_
        refine lv_iadd hx hb dX12_goes_232 ?_
        obtain ⟨zh39, qzh39, hf⟩ := gb_el hf
        refine gx_putV X hw qzh39 clX12 (by decide) mf_X12_243 rfl rfl rfl dX12_goes_233 (fun H locs hw => ?_)
        exact J_236 zv0 zv1 zv2 zv3 _ _ _ ls hf hw (lv_sub hl [2, 3, 4, 5] rfl)
  have J_39 : ∀ (zv0 : Nat) (zv1 : Int32) (zv2 : Int32) (zv3 : Int32) (zv4 : Int32) (zs0 : Int32) (zh : PH) (H : Heap) (locs : List Loc) (ls : Array Slot), f_X12_goes_39 N zv0 zv1 zv2 zv3 zv4 zs0 zh = some h9 → gw E s zh H locs → lv_has ls 7 [(0, .ref (gB E + zv0)), (1, .int zv1), (2, .int zv2), (3, .int zv3), (4, .int zv4)] → W p l e rm_X12_goes s m [.ref (gB E + za0), .int za1, .int za2, .int za3].toArray below meth c H locs 0 0 (MQ below (gQv E h9) [.ref (gB E + za0), .int za1, .int za2, .int za3].toArray s 0 0 (gA E)) (F0 m 39 ls [.int zs0]) := by
    intro zv0 zv1 zv2 zv3 zv4 zs0 zh H locs ls hf hw hl
    unfold f_X12_goes_39 at hf
    refine lv_iconst (v := 1) hx hb dX12_goes_39 (by decide) ?_
    refine lv_iadd hx hb dX12_goes_40 ?_
    refine lv_goto (tgt := 58) hx hb dX12_goes_41 (by decide) ?_
    exact J_58 zv0 zv1 zv2 zv3 zv4 (zs0 + 1) _ _ _ ls hf hw (lv_sub hl [0, 1, 2, 3, 4] rfl)
  have J_30 : ∀ (zv0 : Nat) (zv1 : Int32) (zv2 : Int32) (zv3 : Int32) (zv4 : Int32) (zh : PH) (H : Heap) (locs : List Loc) (ls : Array Slot), f_X12_goes_30 N zv0 zv1 zv2 zv3 zv4 zh = some h9 → gw E s zh H locs → lv_has ls 7 [(0, .ref (gB E + zv0)), (1, .int zv1), (2, .int zv2), (3, .int zv3), (4, .int zv4)] → W p l e rm_X12_goes s m [.ref (gB E + za0), .int za1, .int za2, .int za3].toArray below meth c H locs 0 0 (MQ below (gQv E h9) [.ref (gB E + za0), .int za1, .int za2, .int za3].toArray s 0 0 (gA E)) (F0 m 30 ls []) := by
    intro zv0 zv1 zv2 zv3 zv4 zh H locs ls hf hw hl
    unfold f_X12_goes_30 at hf
    refine lv_iload_n hx hb dX12_goes_30 rfl (lv_at hl 2 rfl) ?_
    refine lv_if_ge (tgt := 38) hx hb dX12_goes_31 (by decide) (fun qc1 => ?_) (fun qc1 => ?_)
    · have hf := gif_t hf qc1
      refine lv_iload_n hx hb dX12_goes_38 rfl (lv_at hl 2 rfl) ?_
      exact J_39 zv0 zv1 zv2 zv3 zv4 zv2 _ _ _ ls hf hw (lv_sub hl [0, 1, 2, 3, 4] rfl)
    · have hf := gif_f hf qc1
      refine lv_iload_n hx hb dX12_goes_34 rfl (lv_at hl 3 rfl) ?_
      refine lv_goto (tgt := 39) hx hb dX12_goes_35 (by decide) ?_
      exact J_39 zv0 zv1 zv2 zv3 zv4 zv3 _ _ _ ls hf hw (lv_sub hl [0, 1, 2, 3, 4] rfl)
  unfold f_X12_goes at hf
  refine lv_iconst (v := 1) hx hb dX12_goes_0 (by decide) ?_
  refine lv_iconst (v := 2) hx hb dX12_goes_1 (by decide) ?_
  refine lv_aload_n hx hb dX12_goes_2 rfl (lv_at hl 0 rfl) ?_
  refine lv_iload_n hx hb dX12_goes_3 rfl (lv_at hl 2 rfl) ?_
  refine lv_iload_n hx hb dX12_goes_4 rfl (lv_at hl 3 rfl) ?_
  obtain ⟨qizh1, hf⟩ := gg_el hf
  obtain ⟨zt2, zh1, qzh1, hf⟩ := gc_el hf
  refine gx_ki (gx_runV (As := [.int za2, .int za3]) (rest := [.int 2, .int 1]) X hw (c_X12_floors l E N za0 za2 za3 zh qzh1) kX12_floors mm_X12_258 qizh1 clX12 ⟨Nat.le_of_ble_eq_true rfl, Nat.le_of_ble_eq_true rfl⟩ rfl rfl rfl hl.1 (Nat.le_of_ble_eq_true rfl) rfl dX12_goes_5 ⟨Nat.le_of_ble_eq_true rfl, Nat.le_of_ble_eq_true rfl⟩) hw (fun H locs hw => ?_)
  refine lv_imul hx hb dX12_goes_8 ?_
  refine lv_iadd hx hb dX12_goes_9 ?_
  refine lv_aload_n hx hb dX12_goes_10 rfl (lv_at hl 0 rfl) ?_
  refine W.eq (g2 := F0 m 11 ls [.ref (gB E + za0), .int (1 + (2 * zt2))]) rfl ?_
  refine lv_iload_n hx hb dX12_goes_11 rfl (lv_at hl 1 rfl) ?_
  refine lv_iconst (v := 0) hx hb dX12_goes_12 (by decide) ?_
  obtain ⟨qizh3, hf⟩ := gg_el hf
  obtain ⟨zt4, zh3, qzh3, hf⟩ := gc_el hf
  refine gx_ki (gx_runV (As := [.int za1, .int 0]) (rest := [.int (1 + (2 * zt2))]) X hw (c_X12_guestOf l E N za0 za1 0 zh1 qzh3) kX12_guestOf mm_X12_261 qizh3 clX12 ⟨Nat.le_of_ble_eq_true rfl, Nat.le_of_ble_eq_true rfl⟩ rfl rfl rfl hl.1 (Nat.le_of_ble_eq_true rfl) rfl dX12_goes_13 ⟨Nat.le_of_ble_eq_true rfl, Nat.le_of_ble_eq_true rfl⟩) hw (fun H locs hw => ?_)
  refine lv_bipush (v := 10) hx hb dX12_goes_16 (by decide) ?_
  refine lv_idiv hx hb dX12_goes_18 (by decide) ?_
  refine lv_iadd hx hb dX12_goes_19 ?_
  refine lv_topi (fun zx5 ezx5 => ?_)
  have hf := gl_el hf ezx5
  refine lv_istore (lv' := [(4, .int zx5), (0, .ref (gB E + za0)), (1, .int za1), (2, .int za2), (3, .int za3)]) hx hb dX12_goes_20 hl (by decide) rfl (fun ls hl => ?_)
  refine lv_iload_n hx hb dX12_goes_22 rfl (lv_at hl 3 rfl) ?_
  refine lv_if_lt (tgt := 30) hx hb dX12_goes_23 (by decide) (fun qc6 => ?_) (fun qc6 => ?_)
  · have hf := gif_t hf qc6
    exact J_30 za0 za1 za2 za3 zx5 _ _ _ ls hf hw (lv_sub hl [1, 2, 3, 4, 0] rfl)
  · have hf := gif_f hf qc6
    refine lv_iload_n hx hb dX12_goes_26 rfl (lv_at hl 4 rfl) ?_
    refine W.eq (g2 := F0 m 27 ls [.int za3]) rfl ?_
    refine lv_if_ge (tgt := 44) hx hb dX12_goes_27 (by decide) (fun qc7 => ?_) (fun qc7 => ?_)
    · have hf := gif_t hf qc7
      refine lv_iload_n hx hb dX12_goes_44 rfl (lv_at hl 3 rfl) ?_
      refine lv_iload_n hx hb dX12_goes_45 rfl (lv_at hl 4 rfl) ?_
      refine lv_icmp_ge (tgt := 55) hx hb dX12_goes_46 (by decide) (fun qc8 => ?_) (fun qc8 => ?_)
      · have hf := gif_t hf qc8
        refine lv_iload_n hx hb dX12_goes_55 rfl (lv_at hl 3 rfl) ?_
        refine lv_iload_n hx hb dX12_goes_56 rfl (lv_at hl 4 rfl) ?_
        refine lv_isub hx hb dX12_goes_57 ?_
        exact J_58 za0 za1 za2 za3 zx5 (za2 - za3) _ _ _ ls hf hw (lv_sub hl [1, 2, 3, 4, 0] rfl)
      · have hf := gif_f hf qc8
        refine lv_iload_n hx hb dX12_goes_49 rfl (lv_at hl 4 rfl) ?_
        refine lv_iload_n hx hb dX12_goes_50 rfl (lv_at hl 3 rfl) ?_
        refine lv_isub hx hb dX12_goes_51 ?_
        refine lv_goto (tgt := 58) hx hb dX12_goes_52 (by decide) ?_
        exact J_58 za0 za1 za2 za3 zx5 (za3 - za2) _ _ _ ls hf hw (lv_sub hl [1, 2, 3, 4, 0] rfl)
    · have hf := gif_f hf qc7
      exact J_30 za0 za1 za2 za3 zx5 _ _ _ ls hf hw (lv_sub hl [1, 2, 3, 4, 0] rfl)
