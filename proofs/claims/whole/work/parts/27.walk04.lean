abbrev rm_X5_firstInTime : Room := { frames := 2, cells := 0, slots := 0, locals := 45 }
set_option maxHeartbeats 4000000 in
set_option maxRecDepth 100000 in
theorem c_X5_firstInTime (l : Launch) (E : gE) (N : Nat) (za0 : Nat) (za1 : Int32) (za2 : Int32) (zh : PH) {h9 : PH} {r9 : Int32} (hf : f_X5_firstInTime N za0 za1 za2 zh = some (r9, h9)) : Met l yX5_firstInTime (gWS yX5_firstInTime cX5_firstInTime 4 (some .int)) rm_X5_firstInTime (gPc E [.ref (gB E + za0), .int za1, .int za2] zh) (gQi E r9 h9) 0 0 (gA E) := by
  refine gx_met (by decide) ?_ rfl
  intro p e s m below meth c X hr hlk hin2 hw
  have hx := X.1.1
  have hb := X.1.2.1
  have hl := lv_entry [.ref (gB E + za0), .int za1, .int za2] (n := 4) (Nat.le_of_ble_eq_true rfl)
  rw [lg_entry_eq]
  generalize (lg_sl [.ref (gB E + za0), .int za1, .int za2] ++ List.replicate (4 - (lg_sl [.ref (gB E + za0), .int za1, .int za2]).length) Slot.unset).toArray = ls at hl ⊢
  have hl : lv_has ls 4 [(0, .ref (gB E + za0)), (1, .int za1), (2, .int za2)] := hl
  have L_2 : ∀ (zn2 : Nat) (zv0 : Nat) (zv1 : Int32) (zv2 : Int32) (zv3 : Int32) (zh : PH) (H : Heap) (locs : List Loc) (ls : Array Slot), gi (fun zk zs => f_X5_firstInTime_2 N zk zs.1 zs.2.1 zs.2.2.1 zs.2.2.2.1 zs.2.2.2.2) zn2 (zv0, zv1, zv2, zv3, zh) = some (r9, h9) → gw E s zh H locs → lv_has ls 4 [(0, .ref (gB E + zv0)), (1, .int zv1), (2, .int zv2), (3, .int zv3)] → W p l e rm_X5_firstInTime s m [.ref (gB E + za0), .int za1, .int za2].toArray below meth c H locs 0 0 (MQ below (gQi E r9 h9) [.ref (gB E + za0), .int za1, .int za2].toArray s 0 0 (gA E)) (F0 m 2 ls []) := by
    intro zn2
    induction zn2 with
    | zero =>
      intro zv0 zv1 zv2 zv3 zh H locs ls hf
      cases hf
    | succ zn2 ih_2 =>
      have J_50 : ∀ (zv0 : Nat) (zv1 : Int32) (zv2 : Int32) (zv3 : Int32) (zh : PH) (H : Heap) (locs : List Loc) (ls : Array Slot), f_X5_firstInTime_50 N (gi (fun zk zs => f_X5_firstInTime_2 N zk zs.1 zs.2.1 zs.2.2.1 zs.2.2.2.1 zs.2.2.2.2) zn2) zv0 zv1 zv2 zv3 zh = some (r9, h9) → gw E s zh H locs → lv_has ls 4 [(0, .ref (gB E + zv0)), (1, .int zv1), (2, .int zv2), (3, .int zv3)] → W p l e rm_X5_firstInTime s m [.ref (gB E + za0), .int za1, .int za2].toArray below meth c H locs 0 0 (MQ below (gQi E r9 h9) [.ref (gB E + za0), .int za1, .int za2].toArray s 0 0 (gA E)) (F0 m 50 ls []) := by
        intro zv0 zv1 zv2 zv3 zh H locs ls hf hw hl
        unfold f_X5_firstInTime_50 at hf
        obtain ⟨zx1, ezx1⟩ : ∃ y : Int32, y = zv3 + 1 := ⟨_, rfl⟩
        have hf := gl_el hf ezx1
        refine lv_iinc (v := zx1) (lv' := [(3, .int zx1), (0, .ref (gB E + zv0)), (1, .int zv1), (2, .int zv2)]) hx hb dX5_firstInTime_50 hl (k := 3) rfl (by rw [ezx1]; rfl) (by decide) rfl (fun ls hl => ?_)
        refine lv_goto (tgt := 2) hx hb dX5_firstInTime_53 (by decide) ?_
        exact ih_2 zv0 zv1 zv2 zx1 _ _ _ ls hf hw (lv_sub hl [1, 2, 3, 0] rfl)
      intro zv0 zv1 zv2 zv3 zh H locs ls hf hw hl
      have hf := gi_s hf
      dsimp only at hf
      unfold f_X5_firstInTime_2 at hf
      refine lv_iload_n hx hb dX5_firstInTime_2 rfl (lv_at hl 3 rfl) ?_
      refine lv_aload_n hx hb dX5_firstInTime_3 rfl (lv_at hl 0 rfl) ?_
      obtain ⟨zt1, qzt1, hf⟩ := gb_el hf
      refine gx_getR X hw qzt1 clX5 (by decide) mf_X5_21 dX5_firstInTime_4 ?_
      obtain ⟨zt2, qzt2, hf⟩ := gb_el hf
      refine gx_getI X hw qzt2 clX4 (by decide) mf_X5_42 dX5_firstInTime_7 ?_
      refine lv_icmp_ge (tgt := 56) hx hb dX5_firstInTime_10 (by decide) (fun qc3 => ?_) (fun qc3 => ?_)
      · have hf := gif_t hf qc3
        refine lv_iconst (v := (-1)) hx hb dX5_firstInTime_56 (by decide) ?_
        exact gx_iret X hr hlk hw hf dX5_firstInTime_57
      · have hf := gif_f hf qc3
        refine lv_iload_n hx hb dX5_firstInTime_13 rfl (lv_at hl 1 rfl) ?_
        refine lv_iload_n hx hb dX5_firstInTime_14 rfl (lv_at hl 3 rfl) ?_
        obtain ⟨zt5, zh4, qzh4, hf⟩ := gc_el hf
        refine gx_ki (gx_runSN (As := [.int zv1, .int zv3]) (rest := []) X hw (c_X11_bitOf l E N zv1 zv3 zh qzh4) kX11_bitOf mn_X5_64 ⟨Nat.le_of_ble_eq_true rfl, Nat.le_of_ble_eq_true rfl⟩ rfl rfl rfl hl.1 (Nat.le_of_ble_eq_true rfl) rfl dX5_firstInTime_15 ⟨Nat.le_of_ble_eq_true rfl, Nat.le_of_ble_eq_true rfl⟩) hw (fun H locs hw => ?_)
        refine lv_iconst (v := 1) hx hb dX5_firstInTime_18 (by decide) ?_
        refine W.eq (g2 := F0 m 19 ls [.int 1, .int zt5]) rfl ?_
        refine lv_icmp_ne (tgt := 50) hx hb dX5_firstInTime_19 (by decide) (fun qc6 => ?_) (fun qc6 => ?_)
        · have hf := gif_f hf qc6
          exact J_50 zv0 zv1 zv2 zv3 _ _ _ ls hf hw (lv_sub hl [0, 1, 2, 3] rfl)
        · have hf := gif_t hf qc6
          refine lv_iload_n hx hb dX5_firstInTime_22 rfl (lv_at hl 2 rfl) ?_
          refine lv_aload_n hx hb dX5_firstInTime_23 rfl (lv_at hl 0 rfl) ?_
          obtain ⟨zt7, qzt7, hf⟩ := gb_el hf
          refine gx_getR X hw qzt7 clX5 (by decide) mf_X5_21 dX5_firstInTime_24 ?_
          obtain ⟨zt8, qzt8, hf⟩ := gb_el hf
          refine gx_getR X hw qzt8 clX4 (by decide) mf_X5_45 dX5_firstInTime_27 ?_
          refine lv_iload_n hx hb dX5_firstInTime_30 rfl (lv_at hl 3 rfl) ?_
          obtain ⟨zt9, qzt9, hf⟩ := gb_el hf
          refine gx_iald X hw qzt9 dX5_firstInTime_31 ?_
          refine gx_max X mm_X5_52 mt_max mI_java_lang_Math mx_max hl.1 (Nat.le_of_ble_eq_true rfl) (Nat.le_of_ble_eq_true rfl) (Nat.le_of_ble_eq_true rfl) (Nat.le_of_ble_eq_true rfl) dX5_firstInTime_32 ?_
          refine lv_aload_n hx hb dX5_firstInTime_35 rfl (lv_at hl 0 rfl) ?_
          refine lv_iload_n hx hb dX5_firstInTime_36 rfl (lv_at hl 3 rfl) ?_
          refine W.eq (g2 := F0 m 37 ls [.int zv3, .ref (gB E + zv0), .int (gmax zv2 zt9)]) rfl ?_
          refine lv_iload_n hx hb dX5_firstInTime_37 rfl (lv_at hl 1 rfl) ?_
          refine lv_aload_n hx hb dX5_firstInTime_38 rfl (lv_at hl 0 rfl) ?_
          obtain ⟨zt10, qzt10, hf⟩ := gb_el hf
          refine gx_getI X hw qzt10 clX5 (by decide) mf_X5_35 dX5_firstInTime_39 ?_
          obtain ⟨qizh11, hf⟩ := gg_el hf
          obtain ⟨zt12, zh11, qzh11, hf⟩ := gc_el hf
          refine gx_ki (gx_runV (As := [.int zv3, .int zv1, .int zt10]) (rest := [.int (gmax zv2 zt9)]) X hw (c_X5_latestStart l E N zv0 zv3 zv1 zt10 zh4 qzh11) kX5_latestStart mm_X5_67 qizh11 clX5 ⟨Nat.le_of_ble_eq_true rfl, Nat.le_of_ble_eq_true rfl⟩ rfl rfl rfl hl.1 (Nat.le_of_ble_eq_true rfl) rfl dX5_firstInTime_42 ⟨Nat.le_of_ble_eq_true rfl, Nat.le_of_ble_eq_true rfl⟩) hw (fun H locs hw => ?_)
          refine lv_icmp_gt (tgt := 50) hx hb dX5_firstInTime_45 (by decide) (fun qc13 => ?_) (fun qc13 => ?_)
          · have hf := gif_t hf qc13
            exact J_50 zv0 zv1 zv2 zv3 _ _ _ ls hf hw (lv_sub hl [0, 1, 2, 3] rfl)
          · have hf := gif_f hf qc13
            refine lv_iload_n hx hb dX5_firstInTime_48 rfl (lv_at hl 3 rfl) ?_
            exact gx_iret X hr hlk hw hf dX5_firstInTime_49
  unfold f_X5_firstInTime at hf
  refine lv_iconst (v := 0) hx hb dX5_firstInTime_0 (by decide) ?_
  refine lv_istore_n (lv' := [(3, .int 0), (0, .ref (gB E + za0)), (1, .int za1), (2, .int za2)]) hx hb dX5_firstInTime_1 rfl hl (by decide) rfl (fun ls hl => ?_)
  exact L_2 N za0 za1 za2 0 _ _ _ ls hf hw (lv_sub hl [1, 2, 3, 0] rfl)
abbrev rm_X5_takeFirstOrder : Room := { frames := 3, cells := 0, slots := 0, locals := 68 }
set_option maxHeartbeats 4000000 in
set_option maxRecDepth 100000 in
theorem c_X5_takeFirstOrder (l : Launch) (E : gE) (N : Nat) (za0 : Nat) (zh : PH) {h9 : PH} (hf : f_X5_takeFirstOrder N za0 zh = some h9) : Met l yX5_takeFirstOrder (gWS yX5_takeFirstOrder cX5_takeFirstOrder 5 none) rm_X5_takeFirstOrder (gPc E [.ref (gB E + za0)] zh) (gQv E h9) 0 0 (gA E) := by
  refine gx_met (by decide) ?_ rfl
  intro p e s m below meth c X hr hlk hin2 hw
  have hx := X.1.1
  have hb := X.1.2.1
  have hl := lv_entry [.ref (gB E + za0)] (n := 5) (Nat.le_of_ble_eq_true rfl)
  rw [lg_entry_eq]
  generalize (lg_sl [.ref (gB E + za0)] ++ List.replicate (5 - (lg_sl [.ref (gB E + za0)]).length) Slot.unset).toArray = ls at hl ⊢
  have hl : lv_has ls 5 [(0, .ref (gB E + za0))] := hl
  have L_16 : ∀ (zn16 : Nat) (zv0 : Nat) (zv1 : Int32) (zv2 : Int32) (zv3 : Int32) (zh : PH) (H : Heap) (locs : List Loc) (ls : Array Slot), gi (fun zk zs => f_X5_takeFirstOrder_16 N zk zs.1 zs.2.1 zs.2.2.1 zs.2.2.2.1 zs.2.2.2.2) zn16 (zv0, zv1, zv2, zv3, zh) = some h9 → gw E s zh H locs → lv_has ls 5 [(0, .ref (gB E + zv0)), (1, .int zv1), (2, .int zv2), (3, .int zv3)] → W p l e rm_X5_takeFirstOrder s m [.ref (gB E + za0)].toArray below meth c H locs 0 0 (MQ below (gQv E h9) [.ref (gB E + za0)].toArray s 0 0 (gA E)) (F0 m 16 ls []) := by
    intro zn16
    induction zn16 with
    | zero =>
      intro zv0 zv1 zv2 zv3 zh H locs ls hf
      cases hf
    | succ zn16 ih_16 =>
      intro zv0 zv1 zv2 zv3 zh H locs ls hf hw hl
      have hf := gi_s hf
      dsimp only at hf
      unfold f_X5_takeFirstOrder_16 at hf
      refine lv_iload_n hx hb dX5_takeFirstOrder_16 rfl (lv_at hl 3 rfl) ?_
      refine lv_aload_n hx hb dX5_takeFirstOrder_17 rfl (lv_at hl 0 rfl) ?_
      obtain ⟨zt1, qzt1, hf⟩ := gb_el hf
      refine gx_getR X hw qzt1 clX5 (by decide) mf_X5_21 dX5_takeFirstOrder_18 ?_
      obtain ⟨zt2, qzt2, hf⟩ := gb_el hf
      refine gx_getI X hw qzt2 clX4 (by decide) mf_X5_42 dX5_takeFirstOrder_21 ?_
      refine lv_icmp_ge (tgt := 105) hx hb dX5_takeFirstOrder_24 (by decide) (fun qc3 => ?_) (fun qc3 => ?_)
      · have hf := gif_t hf qc3
        exact gx_vret X hr hlk hw hf dX5_takeFirstOrder_105
      · have hf := gif_f hf qc3
        refine lv_aload_n hx hb dX5_takeFirstOrder_27 rfl (lv_at hl 0 rfl) ?_
        refine lv_iload_n hx hb dX5_takeFirstOrder_28 rfl (lv_at hl 1 rfl) ?_
        refine lv_iload_n hx hb dX5_takeFirstOrder_29 rfl (lv_at hl 2 rfl) ?_
        obtain ⟨qizh4, hf⟩ := gg_el hf
        obtain ⟨zt5, zh4, qzh4, hf⟩ := gc_el hf
        refine gx_ki (gx_runV (As := [.int zv1, .int zv2]) (rest := []) X hw (c_X5_firstInTime l E N zv0 zv1 zv2 zh qzh4) kX5_firstInTime mm_X5_74 qizh4 clX5 ⟨Nat.le_of_ble_eq_true rfl, Nat.le_of_ble_eq_true rfl⟩ rfl rfl rfl hl.1 (Nat.le_of_ble_eq_true rfl) rfl dX5_takeFirstOrder_30 ⟨Nat.le_of_ble_eq_true rfl, Nat.le_of_ble_eq_true rfl⟩) hw (fun H locs hw => ?_)
        refine W.eq (g2 := F0 m 33 ls [.int zt5]) rfl ?_
        refine lv_istore (lv' := [(4, .int zt5), (0, .ref (gB E + zv0)), (1, .int zv1), (2, .int zv2), (3, .int zv3)]) hx hb dX5_takeFirstOrder_33 hl (by decide) rfl (fun ls hl => ?_)
        refine lv_iload hx hb dX5_takeFirstOrder_35 (lv_at hl 0 rfl) ?_
        refine lv_iconst (v := (-1)) hx hb dX5_takeFirstOrder_37 (by decide) ?_
        refine lv_icmp_ne (tgt := 42) hx hb dX5_takeFirstOrder_38 (by decide) (fun qc6 => ?_) (fun qc6 => ?_)
        · have hf := gif_f hf qc6
          refine lv_aload_n hx hb dX5_takeFirstOrder_42 rfl (lv_at hl 1 rfl) ?_
          obtain ⟨zt7, qzt7, hf⟩ := gb_el hf
          refine gx_getR X hw qzt7 clX5 (by decide) mf_X5_9 dX5_takeFirstOrder_43 ?_
          refine lv_iload_n hx hb dX5_takeFirstOrder_46 rfl (lv_at hl 4 rfl) ?_
          refine lv_iload hx hb dX5_takeFirstOrder_47 (lv_at hl 0 rfl) ?_
          obtain ⟨zh8, qzh8, hf⟩ := gb_el hf
          refine gx_iast X hw qzh8 dX5_takeFirstOrder_49 (fun H locs hw => ?_)
          refine lv_aload_n hx hb dX5_takeFirstOrder_50 rfl (lv_at hl 1 rfl) ?_
          refine W.eq (g2 := F0 m 51 ls [.ref (gB E + zv0)]) rfl ?_
          obtain ⟨zt9, qzt9, hf⟩ := gb_el hf
          refine gx_getR X hw qzt9 clX5 (by decide) mf_X5_15 dX5_takeFirstOrder_51 ?_
          refine lv_iload hx hb dX5_takeFirstOrder_54 (lv_at hl 0 rfl) ?_
          refine lv_iload_n hx hb dX5_takeFirstOrder_56 rfl (lv_at hl 3 rfl) ?_
          refine lv_aload_n hx hb dX5_takeFirstOrder_57 rfl (lv_at hl 1 rfl) ?_
          obtain ⟨zt10, qzt10, hf⟩ := gb_el hf
          refine gx_getR X hw qzt10 clX5 (by decide) mf_X5_21 dX5_takeFirstOrder_58 ?_
          obtain ⟨zt11, qzt11, hf⟩ := gb_el hf
          refine gx_getR X hw qzt11 clX4 (by decide) mf_X5_45 dX5_takeFirstOrder_61 ?_
          refine lv_iload hx hb dX5_takeFirstOrder_64 (lv_at hl 0 rfl) ?_
          obtain ⟨zt12, qzt12, hf⟩ := gb_el hf
          refine gx_iald X hw qzt12 dX5_takeFirstOrder_66 ?_
          refine gx_max X mm_X5_52 mt_max mI_java_lang_Math mx_max hl.1 (Nat.le_of_ble_eq_true rfl) (Nat.le_of_ble_eq_true rfl) (Nat.le_of_ble_eq_true rfl) (Nat.le_of_ble_eq_true rfl) dX5_takeFirstOrder_67 ?_
          obtain ⟨zh13, qzh13, hf⟩ := gb_el hf
          refine gx_iast X hw qzh13 dX5_takeFirstOrder_70 (fun H locs hw => ?_)
          refine W.eq (g2 := F0 m 71 ls []) rfl ?_
          refine lv_aload_n hx hb dX5_takeFirstOrder_71 rfl (lv_at hl 1 rfl) ?_
          obtain ⟨zt14, qzt14, hf⟩ := gb_el hf
          refine gx_getR X hw qzt14 clX5 (by decide) mf_X5_15 dX5_takeFirstOrder_72 ?_
          refine lv_iload hx hb dX5_takeFirstOrder_75 (lv_at hl 0 rfl) ?_
          obtain ⟨zt15, qzt15, hf⟩ := gb_el hf
          refine gx_iald X hw qzt15 dX5_takeFirstOrder_77 ?_
          refine lv_aload_n hx hb dX5_takeFirstOrder_78 rfl (lv_at hl 1 rfl) ?_
          obtain ⟨zt16, qzt16, hf⟩ := gb_el hf
          refine gx_getR X hw qzt16 clX5 (by decide) mf_X5_21 dX5_takeFirstOrder_79 ?_
          obtain ⟨zt17, qzt17, hf⟩ := gb_el hf
          refine gx_getR X hw qzt17 clX4 (by decide) mf_X5_58 dX5_takeFirstOrder_82 ?_
          refine lv_iload hx hb dX5_takeFirstOrder_85 (lv_at hl 0 rfl) ?_
          obtain ⟨zt18, qzt18, hf⟩ := gb_el hf
          refine gx_iald X hw qzt18 dX5_takeFirstOrder_87 ?_
          refine lv_iadd hx hb dX5_takeFirstOrder_88 ?_
          refine W.eq (g2 := F0 m 89 ls [.int (zt15 + zt18)]) rfl ?_
          refine lv_topi (fun zx19 ezx19 => ?_)
          have hf := gl_el hf ezx19
          refine lv_istore_n (lv' := [(2, .int zx19), (4, .int zt5), (0, .ref (gB E + zv0)), (1, .int zv1), (3, .int zv3)]) hx hb dX5_takeFirstOrder_89 rfl hl (by decide) rfl (fun ls hl => ?_)
          refine lv_iload_n hx hb dX5_takeFirstOrder_90 rfl (lv_at hl 3 rfl) ?_
          refine lv_iconst (v := 1) hx hb dX5_takeFirstOrder_91 (by decide) ?_
          refine lv_iload hx hb dX5_takeFirstOrder_92 (lv_at hl 1 rfl) ?_
          refine lv_ishl hx hb dX5_takeFirstOrder_94 ?_
          refine lv_iconst (v := (-1)) hx hb dX5_takeFirstOrder_95 (by decide) ?_
          refine lv_ixor hx hb dX5_takeFirstOrder_96 ?_
          refine lv_iand hx hb dX5_takeFirstOrder_97 ?_
          refine lv_topi (fun zx20 ezx20 => ?_)
          have hf := gl_el hf ezx20
          refine lv_istore_n (lv' := [(1, .int zx20), (2, .int zx19), (4, .int zt5), (0, .ref (gB E + zv0)), (3, .int zv3)]) hx hb dX5_takeFirstOrder_98 rfl hl (by decide) rfl (fun ls hl => ?_)
          obtain ⟨zx21, ezx21⟩ : ∃ y : Int32, y = zv3 + 1 := ⟨_, rfl⟩
          have hf := gl_el hf ezx21
          refine lv_iinc (v := zx21) (lv' := [(3, .int zx21), (1, .int zx20), (2, .int zx19), (4, .int zt5), (0, .ref (gB E + zv0))]) hx hb dX5_takeFirstOrder_99 hl (k := 4) rfl (by rw [ezx21]; rfl) (by decide) rfl (fun ls hl => ?_)
          refine W.eq (g2 := F0 m 102 ls []) rfl ?_
          refine lv_goto (tgt := 16) hx hb dX5_takeFirstOrder_102 (by decide) ?_
          exact ih_16 zv0 zx20 zx19 zx21 _ _ _ ls hf hw (lv_sub hl [4, 1, 2, 0] rfl)
        · have hf := gif_t hf qc6
          exact gx_vret X hr hlk hw hf dX5_takeFirstOrder_41
  unfold f_X5_takeFirstOrder at hf
  refine lv_iconst (v := 1) hx hb dX5_takeFirstOrder_0 (by decide) ?_
  refine lv_aload_n hx hb dX5_takeFirstOrder_1 rfl (lv_at hl 0 rfl) ?_
  obtain ⟨zt1, qzt1, hf⟩ := gb_el hf
  refine gx_getR X hw qzt1 clX5 (by decide) mf_X5_21 dX5_takeFirstOrder_2 ?_
  obtain ⟨zt2, qzt2, hf⟩ := gb_el hf
  refine gx_getI X hw qzt2 clX4 (by decide) mf_X5_42 dX5_takeFirstOrder_5 ?_
  refine lv_ishl hx hb dX5_takeFirstOrder_8 ?_
  refine lv_iconst (v := 1) hx hb dX5_takeFirstOrder_9 (by decide) ?_
  refine lv_isub hx hb dX5_takeFirstOrder_10 ?_
  refine lv_topi (fun zx3 ezx3 => ?_)
  have hf := gl_el hf ezx3
  refine lv_istore_n (lv' := [(1, .int zx3), (0, .ref (gB E + za0))]) hx hb dX5_takeFirstOrder_11 rfl hl (by decide) rfl (fun ls hl => ?_)
  refine lv_iconst (v := 0) hx hb dX5_takeFirstOrder_12 (by decide) ?_
  refine W.eq (g2 := F0 m 13 ls [.int 0]) rfl ?_
  refine lv_istore_n (lv' := [(2, .int 0), (1, .int zx3), (0, .ref (gB E + za0))]) hx hb dX5_takeFirstOrder_13 rfl hl (by decide) rfl (fun ls hl => ?_)
  refine lv_iconst (v := 0) hx hb dX5_takeFirstOrder_14 (by decide) ?_
  refine lv_istore_n (lv' := [(3, .int 0), (2, .int 0), (1, .int zx3), (0, .ref (gB E + za0))]) hx hb dX5_takeFirstOrder_15 rfl hl (by decide) rfl (fun ls hl => ?_)
  exact L_16 N za0 zx3 0 0 _ _ _ ls hf hw (lv_sub hl [3, 2, 1, 0] rfl)
abbrev rm_X5_make : Room := { frames := 4, cells := 0, slots := 0, locals := 92 }
set_option maxHeartbeats 4000000 in
set_option maxRecDepth 100000 in
theorem c_X5_make (l : Launch) (E : gE) (N : Nat) (za0 : Nat) (za1 : Nat) (zh : PH) {h9 : PH} (hf : f_X5_make N za0 za1 zh = some h9) : Met l yX5_make (gWS yX5_make cX5_make 6 none) rm_X5_make (gPc E [.ref (gB E + za0), .ref (gB E + za1)] zh) (gQv E h9) 0 0 (gA E) := by
  refine gx_met (by decide) ?_ rfl
  intro p e s m below meth c X hr hlk hin2 hw
  have hx := X.1.1
  have hb := X.1.2.1
  have hl := lv_entry [.ref (gB E + za0), .ref (gB E + za1)] (n := 6) (Nat.le_of_ble_eq_true rfl)
  rw [lg_entry_eq]
  generalize (lg_sl [.ref (gB E + za0), .ref (gB E + za1)] ++ List.replicate (6 - (lg_sl [.ref (gB E + za0), .ref (gB E + za1)]).length) Slot.unset).toArray = ls at hl ⊢
  have hl : lv_has ls 6 [(0, .ref (gB E + za0)), (1, .ref (gB E + za1))] := hl
  have J_63 : ∀ (zv0 : Nat) (zv3 : Int32) (zh : PH) (H : Heap) (locs : List Loc) (ls : Array Slot), f_X5_make_63 N zv0 zv3 zh = some h9 → gw E s zh H locs → lv_has ls 6 [(0, .ref (gB E + zv0)), (3, .int zv3)] → W p l e rm_X5_make s m [.ref (gB E + za0), .ref (gB E + za1)].toArray below meth c H locs 0 0 (MQ below (gQv E h9) [.ref (gB E + za0), .ref (gB E + za1)].toArray s 0 0 (gA E)) (F0 m 63 ls []) := by
    intro zv0 zv3 zh H locs ls hf hw hl
    unfold f_X5_make_63 at hf
    refine lv_aload_n hx hb dX5_make_63 rfl (lv_at hl 0 rfl) ?_
    refine lv_iload_n hx hb dX5_make_64 rfl (lv_at hl 1 rfl) ?_
    obtain ⟨zh1, qzh1, hf⟩ := gb_el hf
    refine gx_putV X hw qzh1 clX5 (by decide) mf_X5_35 rfl rfl rfl dX5_make_65 (fun H locs hw => ?_)
    refine lv_aload_n hx hb dX5_make_68 rfl (lv_at hl 0 rfl) ?_
    refine lv_aload_n hx hb dX5_make_69 rfl (lv_at hl 0 rfl) ?_
    obtain ⟨zt2, qzt2, hf⟩ := gb_el hf
    refine gx_getI X hw qzt2 clX5 (by decide) mf_X5_35 dX5_make_70 ?_
    obtain ⟨qizh3, hf⟩ := gg_el hf
    obtain ⟨zt4, zh3, qzh3, hf⟩ := gc_el hf
    refine gx_ki (gx_runV (As := [.int zt2]) (rest := []) X hw (c_X5_canBeDoneBy l E N zv0 zt2 zh1 qzh3) kX5_canBeDoneBy mm_X5_31 qizh3 clX5 ⟨Nat.le_of_ble_eq_true rfl, Nat.le_of_ble_eq_true rfl⟩ rfl rfl rfl hl.1 (Nat.le_of_ble_eq_true rfl) rfl dX5_make_73 ⟨Nat.le_of_ble_eq_true rfl, Nat.le_of_ble_eq_true rfl⟩) hw (fun H locs hw => ?_)
    refine lv_pop hx hb dX5_make_76 rfl ?_
    refine lv_aload_n hx hb dX5_make_77 rfl (lv_at hl 0 rfl) ?_
    refine W.eq (g2 := F0 m 78 ls [.ref (gB E + zv0)]) rfl ?_
    obtain ⟨qizh5, hf⟩ := gg_el hf
    obtain ⟨zh5, qzh5, hf⟩ := gb_el hf
    refine gx_kv (gx_runV (As := []) (rest := []) X hw (c_X5_takeFirstOrder l E N zv0 zh3 qzh5) kX5_takeFirstOrder mm_X5_39 qizh5 clX5 ⟨Nat.le_of_ble_eq_true rfl, Nat.le_of_ble_eq_true rfl⟩ rfl rfl rfl hl.1 (Nat.le_of_ble_eq_true rfl) rfl dX5_make_78 ⟨Nat.le_of_ble_eq_true rfl, Nat.le_of_ble_eq_true rfl⟩) hw (fun H locs hw => ?_)
    exact gx_vret X hr hlk hw hf dX5_make_81
  have L_18 : ∀ (zn18 : Nat) (zv0 : Nat) (zv2 : Int32) (zv3 : Int32) (zv4 : Int32) (zh : PH) (H : Heap) (locs : List Loc) (ls : Array Slot), gi (fun zk zs => f_X5_make_18 N zk zs.1 zs.2.1 zs.2.2.1 zs.2.2.2.1 zs.2.2.2.2) zn18 (zv0, zv2, zv3, zv4, zh) = some h9 → gw E s zh H locs → lv_has ls 6 [(0, .ref (gB E + zv0)), (2, .int zv2), (3, .int zv3), (4, .int zv4)] → W p l e rm_X5_make s m [.ref (gB E + za0), .ref (gB E + za1)].toArray below meth c H locs 0 0 (MQ below (gQv E h9) [.ref (gB E + za0), .ref (gB E + za1)].toArray s 0 0 (gA E)) (F0 m 18 ls []) := by
    intro zn18
    induction zn18 with
    | zero =>
      intro zv0 zv2 zv3 zv4 zh H locs ls hf
      cases hf
    | succ zn18 ih_18 =>
      have J_57 : ∀ (zv0 : Nat) (zv2 : Int32) (zv3 : Int32) (zv4 : Int32) (zh : PH) (H : Heap) (locs : List Loc) (ls : Array Slot), f_X5_make_57 N (gi (fun zk zs => f_X5_make_18 N zk zs.1 zs.2.1 zs.2.2.1 zs.2.2.2.1 zs.2.2.2.2) zn18) zv0 zv2 zv3 zv4 zh = some h9 → gw E s zh H locs → lv_has ls 6 [(0, .ref (gB E + zv0)), (2, .int zv2), (3, .int zv3), (4, .int zv4)] → W p l e rm_X5_make s m [.ref (gB E + za0), .ref (gB E + za1)].toArray below meth c H locs 0 0 (MQ below (gQv E h9) [.ref (gB E + za0), .ref (gB E + za1)].toArray s 0 0 (gA E)) (F0 m 57 ls []) := by
        intro zv0 zv2 zv3 zv4 zh H locs ls hf hw hl
        unfold f_X5_make_57 at hf
        obtain ⟨zx1, ezx1⟩ : ∃ y : Int32, y = zv4 + 1 := ⟨_, rfl⟩
        have hf := gl_el hf ezx1
        refine lv_iinc (v := zx1) (lv' := [(4, .int zx1), (0, .ref (gB E + zv0)), (2, .int zv2), (3, .int zv3)]) hx hb dX5_make_57 hl (k := 3) rfl (by rw [ezx1]; rfl) (by decide) rfl (fun ls hl => ?_)
        refine lv_goto (tgt := 18) hx hb dX5_make_60 (by decide) ?_
        exact ih_18 zv0 zv2 zv3 zx1 _ _ _ ls hf hw (lv_sub hl [1, 2, 3, 0] rfl)
      intro zv0 zv2 zv3 zv4 zh H locs ls hf hw hl
      have hf := gi_s hf
      dsimp only at hf
      unfold f_X5_make_18 at hf
      refine lv_iload hx hb dX5_make_18 (lv_at hl 3 rfl) ?_
      refine lv_bipush (v := 32) hx hb dX5_make_20 (by decide) ?_
      refine lv_icmp_ge (tgt := 63) hx hb dX5_make_22 (by decide) (fun qc1 => ?_) (fun qc1 => ?_)
      · have hf := gif_t hf qc1
        exact J_63 zv0 zv3 _ _ _ ls hf hw (lv_sub hl [0, 2] rfl)
      · have hf := gif_f hf qc1
        refine lv_iload_n hx hb dX5_make_25 rfl (lv_at hl 1 rfl) ?_
        refine lv_iload_n hx hb dX5_make_26 rfl (lv_at hl 2 rfl) ?_
        refine lv_icmp_ge (tgt := 63) hx hb dX5_make_27 (by decide) (fun qc2 => ?_) (fun qc2 => ?_)
        · have hf := gif_t hf qc2
          exact J_63 zv0 zv3 _ _ _ ls hf hw (lv_sub hl [0, 2] rfl)
        · have hf := gif_f hf qc2
          refine lv_iload_n hx hb dX5_make_30 rfl (lv_at hl 1 rfl) ?_
          refine lv_iload_n hx hb dX5_make_31 rfl (lv_at hl 2 rfl) ?_
          refine lv_iadd hx hb dX5_make_32 ?_
          refine W.eq (g2 := F0 m 33 ls [.int (zv2 + zv3)]) rfl ?_
          refine lv_iconst (v := 2) hx hb dX5_make_33 (by decide) ?_
          refine lv_idiv hx hb dX5_make_34 (by decide) ?_
          refine lv_topi (fun zx3 ezx3 => ?_)
          have hf := gl_el hf ezx3
          refine lv_istore (lv' := [(5, .int zx3), (0, .ref (gB E + zv0)), (2, .int zv2), (3, .int zv3), (4, .int zv4)]) hx hb dX5_make_35 hl (by decide) rfl (fun ls hl => ?_)
          refine lv_aload_n hx hb dX5_make_37 rfl (lv_at hl 1 rfl) ?_
          refine lv_iload hx hb dX5_make_38 (lv_at hl 0 rfl) ?_
          obtain ⟨qizh4, hf⟩ := gg_el hf
          obtain ⟨zt5, zh4, qzh4, hf⟩ := gc_el hf
          refine gx_ki (gx_runV (As := [.int zx3]) (rest := []) X hw (c_X5_canBeDoneBy l E N zv0 zx3 zh qzh4) kX5_canBeDoneBy mm_X5_31 qizh4 clX5 ⟨Nat.le_of_ble_eq_true rfl, Nat.le_of_ble_eq_true rfl⟩ rfl rfl rfl hl.1 (Nat.le_of_ble_eq_true rfl) rfl dX5_make_40 ⟨Nat.le_of_ble_eq_true rfl, Nat.le_of_ble_eq_true rfl⟩) hw (fun H locs hw => ?_)
          refine lv_if_eq (tgt := 52) hx hb dX5_make_43 (by decide) (fun qc6 => ?_) (fun qc6 => ?_)
          · have hf := gif_t hf qc6
            refine lv_iload hx hb dX5_make_52 (lv_at hl 0 rfl) ?_
            refine lv_iconst (v := 1) hx hb dX5_make_54 (by decide) ?_
            refine lv_iadd hx hb dX5_make_55 ?_
            refine W.eq (g2 := F0 m 56 ls [.int (zx3 + 1)]) rfl ?_
            refine lv_topi (fun zx7 ezx7 => ?_)
            have hf := gl_el hf ezx7
            refine lv_istore_n (lv' := [(2, .int zx7), (5, .int zx3), (0, .ref (gB E + zv0)), (3, .int zv3), (4, .int zv4)]) hx hb dX5_make_56 rfl hl (by decide) rfl (fun ls hl => ?_)
            exact J_57 zv0 zx7 zv3 zv4 _ _ _ ls hf hw (lv_sub hl [2, 0, 3, 4] rfl)
          · have hf := gif_f hf qc6
            refine lv_iload hx hb dX5_make_46 (lv_at hl 0 rfl) ?_
            refine lv_istore_n (lv' := [(3, .int zx3), (5, .int zx3), (0, .ref (gB E + zv0)), (2, .int zv2), (4, .int zv4)]) hx hb dX5_make_48 rfl hl (by decide) rfl (fun ls hl => ?_)
            refine lv_goto (tgt := 57) hx hb dX5_make_49 (by decide) ?_
            exact J_57 zv0 zv2 zx3 zv4 _ _ _ ls hf hw (lv_sub hl [2, 3, 0, 4] rfl)
  unfold f_X5_make at hf
  refine lv_aload_n hx hb dX5_make_0 rfl (lv_at hl 0 rfl) ?_
  refine lv_aload_n hx hb dX5_make_1 rfl (lv_at hl 1 rfl) ?_
  obtain ⟨zh1, qzh1, hf⟩ := gb_el hf
  refine gx_putV X hw qzh1 clX5 (by decide) mf_X5_21 rfl rfl rfl dX5_make_2 (fun H locs hw => ?_)
  refine lv_iconst (v := 0) hx hb dX5_make_5 (by decide) ?_
  refine lv_istore_n (lv' := [(2, .int 0), (0, .ref (gB E + za0)), (1, .ref (gB E + za1))]) hx hb dX5_make_6 rfl hl (by decide) rfl (fun ls hl => ?_)
  refine lv_aload_n hx hb dX5_make_7 rfl (lv_at hl 1 rfl) ?_
  obtain ⟨zt2, qzt2, hf⟩ := gb_el hf
  refine gx_getR X hw qzt2 clX5 (by decide) mf_X5_21 dX5_make_8 ?_
  obtain ⟨qizh3, hf⟩ := gg_el hf
  obtain ⟨zt4, zh3, qzh3, hf⟩ := gc_el hf
  refine gx_ki (gx_runV (As := []) (rest := []) X hw (c_X4_doneAsTold l E N zt2 zh1 qzh3) kX4_doneAsTold mm_X5_25 qizh3 clX4 ⟨Nat.le_of_ble_eq_true rfl, Nat.le_of_ble_eq_true rfl⟩ rfl rfl rfl hl.1 (Nat.le_of_ble_eq_true rfl) rfl dX5_make_11 ⟨Nat.le_of_ble_eq_true rfl, Nat.le_of_ble_eq_true rfl⟩) hw (fun H locs hw => ?_)
  refine lv_istore_n (lv' := [(3, .int zt4), (2, .int 0), (0, .ref (gB E + za0)), (1, .ref (gB E + za1))]) hx hb dX5_make_14 rfl hl (by decide) rfl (fun ls hl => ?_)
  refine W.eq (g2 := F0 m 15 ls []) rfl ?_
  refine lv_iconst (v := 0) hx hb dX5_make_15 (by decide) ?_
  refine lv_istore (lv' := [(4, .int 0), (3, .int zt4), (2, .int 0), (0, .ref (gB E + za0)), (1, .ref (gB E + za1))]) hx hb dX5_make_16 hl (by decide) rfl (fun ls hl => ?_)
  exact L_18 N za0 0 zt4 0 _ _ _ ls hf hw (lv_sub hl [3, 2, 1, 0] rfl)
abbrev rm_X5_waits : Room := { frames := 0, cells := 0, slots := 0, locals := 0 }
set_option maxHeartbeats 4000000 in
set_option maxRecDepth 100000 in
theorem c_X5_waits (l : Launch) (E : gE) (N : Nat) (za0 : Nat) (zh : PH) {h9 : PH} {r9 : Int32} (hf : f_X5_waits N za0 zh = some (r9, h9)) : Met l yX5_waits (gWS yX5_waits cX5_waits 3 (some .int)) rm_X5_waits (gPc E [.ref (gB E + za0)] zh) (gQi E r9 h9) 0 0 (gA E) := by
  refine gx_met (by decide) ?_ rfl
  intro p e s m below meth c X hr hlk hin2 hw
  have hx := X.1.1
  have hb := X.1.2.1
  have hl := lv_entry [.ref (gB E + za0)] (n := 3) (Nat.le_of_ble_eq_true rfl)
  rw [lg_entry_eq]
  generalize (lg_sl [.ref (gB E + za0)] ++ List.replicate (3 - (lg_sl [.ref (gB E + za0)]).length) Slot.unset).toArray = ls at hl ⊢
  have hl : lv_has ls 3 [(0, .ref (gB E + za0))] := hl
  have L_4 : ∀ (zn4 : Nat) (zv0 : Nat) (zv1 : Int32) (zv2 : Int32) (zh : PH) (H : Heap) (locs : List Loc) (ls : Array Slot), gi (fun zk zs => f_X5_waits_4 N zk zs.1 zs.2.1 zs.2.2.1 zs.2.2.2) zn4 (zv0, zv1, zv2, zh) = some (r9, h9) → gw E s zh H locs → lv_has ls 3 [(0, .ref (gB E + zv0)), (1, .int zv1), (2, .int zv2)] → W p l e rm_X5_waits s m [.ref (gB E + za0)].toArray below meth c H locs 0 0 (MQ below (gQi E r9 h9) [.ref (gB E + za0)].toArray s 0 0 (gA E)) (F0 m 4 ls []) := by
    intro zn4
    induction zn4 with
    | zero =>
      intro zv0 zv1 zv2 zh H locs ls hf
      cases hf
    | succ zn4 ih_4 =>
      intro zv0 zv1 zv2 zh H locs ls hf hw hl
      have hf := gi_s hf
      dsimp only at hf
      unfold f_X5_waits_4 at hf
      refine lv_iload_n hx hb dX5_waits_4 rfl (lv_at hl 2 rfl) ?_
      refine lv_aload_n hx hb dX5_waits_5 rfl (lv_at hl 0 rfl) ?_
      obtain ⟨zt1, qzt1, hf⟩ := gb_el hf
      refine gx_getR X hw qzt1 clX5 (by decide) mf_X5_21 dX5_waits_6 ?_
      obtain ⟨zt2, qzt2, hf⟩ := gb_el hf
      refine gx_getI X hw qzt2 clX4 (by decide) mf_X5_42 dX5_waits_9 ?_
      refine lv_icmp_ge (tgt := 40) hx hb dX5_waits_12 (by decide) (fun qc3 => ?_) (fun qc3 => ?_)
      · have hf := gif_t hf qc3
        refine lv_iload_n hx hb dX5_waits_40 rfl (lv_at hl 1 rfl) ?_
        exact gx_iret X hr hlk hw hf dX5_waits_41
      · have hf := gif_f hf qc3
        refine lv_iload_n hx hb dX5_waits_15 rfl (lv_at hl 1 rfl) ?_
        refine lv_aload_n hx hb dX5_waits_16 rfl (lv_at hl 0 rfl) ?_
        obtain ⟨zt4, qzt4, hf⟩ := gb_el hf
        refine gx_getR X hw qzt4 clX5 (by decide) mf_X5_15 dX5_waits_17 ?_
        refine lv_iload_n hx hb dX5_waits_20 rfl (lv_at hl 2 rfl) ?_
        refine W.eq (g2 := F0 m 21 ls [.int zv2, .ref (gB E + zt4), .int zv1]) rfl ?_
        obtain ⟨zt5, qzt5, hf⟩ := gb_el hf
        refine gx_iald X hw qzt5 dX5_waits_21 ?_
        refine lv_aload_n hx hb dX5_waits_22 rfl (lv_at hl 0 rfl) ?_
        obtain ⟨zt6, qzt6, hf⟩ := gb_el hf
        refine gx_getR X hw qzt6 clX5 (by decide) mf_X5_21 dX5_waits_23 ?_
        obtain ⟨zt7, qzt7, hf⟩ := gb_el hf
        refine gx_getR X hw qzt7 clX4 (by decide) mf_X5_45 dX5_waits_26 ?_
        refine lv_iload_n hx hb dX5_waits_29 rfl (lv_at hl 2 rfl) ?_
        obtain ⟨zt8, qzt8, hf⟩ := gb_el hf
        refine gx_iald X hw qzt8 dX5_waits_30 ?_
        refine lv_isub hx hb dX5_waits_31 ?_
        refine lv_iadd hx hb dX5_waits_32 ?_
        refine lv_topi (fun zx9 ezx9 => ?_)
        have hf := gl_el hf ezx9
        refine lv_istore_n (lv' := [(1, .int zx9), (0, .ref (gB E + zv0)), (2, .int zv2)]) hx hb dX5_waits_33 rfl hl (by decide) rfl (fun ls hl => ?_)
        obtain ⟨zx10, ezx10⟩ : ∃ y : Int32, y = zv2 + 1 := ⟨_, rfl⟩
        have hf := gl_el hf ezx10
        refine lv_iinc (v := zx10) (lv' := [(2, .int zx10), (1, .int zx9), (0, .ref (gB E + zv0))]) hx hb dX5_waits_34 hl (k := 2) rfl (by rw [ezx10]; rfl) (by decide) rfl (fun ls hl => ?_)
        refine W.eq (g2 := F0 m 37 ls []) rfl ?_
        refine lv_goto (tgt := 4) hx hb dX5_waits_37 (by decide) ?_
        exact ih_4 zv0 zx9 zx10 _ _ _ ls hf hw (lv_sub hl [2, 1, 0] rfl)
  unfold f_X5_waits at hf
  refine lv_iconst (v := 0) hx hb dX5_waits_0 (by decide) ?_
  refine lv_istore_n (lv' := [(1, .int 0), (0, .ref (gB E + za0))]) hx hb dX5_waits_1 rfl hl (by decide) rfl (fun ls hl => ?_)
  refine lv_iconst (v := 0) hx hb dX5_waits_2 (by decide) ?_
  refine lv_istore_n (lv' := [(2, .int 0), (1, .int 0), (0, .ref (gB E + za0))]) hx hb dX5_waits_3 rfl hl (by decide) rfl (fun ls hl => ?_)
  exact L_4 N za0 0 0 _ _ _ ls hf hw (lv_sub hl [2, 1, 0] rfl)
abbrev rm_X5_isAtWork : Room := { frames := 0, cells := 0, slots := 0, locals := 0 }
set_option maxHeartbeats 4000000 in
set_option maxRecDepth 100000 in
theorem c_X5_isAtWork (l : Launch) (E : gE) (N : Nat) (za0 : Nat) (za1 : Int32) (za2 : Int32) (zh : PH) {h9 : PH} {r9 : Int32} (hf : f_X5_isAtWork N za0 za1 za2 zh = some (r9, h9)) : Met l yX5_isAtWork (gWS yX5_isAtWork cX5_isAtWork 4 (some .boolean)) rm_X5_isAtWork (gPc E [.ref (gB E + za0), .int za1, .int za2] zh) (gQi E r9 h9) 0 0 (gA E) := by
  refine gx_met (by decide) ?_ rfl
  intro p e s m below meth c X hr hlk hin2 hw
  have hx := X.1.1
  have hb := X.1.2.1
  have hl := lv_entry [.ref (gB E + za0), .int za1, .int za2] (n := 4) (Nat.le_of_ble_eq_true rfl)
  rw [lg_entry_eq]
  generalize (lg_sl [.ref (gB E + za0), .int za1, .int za2] ++ List.replicate (4 - (lg_sl [.ref (gB E + za0), .int za1, .int za2]).length) Slot.unset).toArray = ls at hl ⊢
  have hl : lv_has ls 4 [(0, .ref (gB E + za0)), (1, .int za1), (2, .int za2)] := hl
  have J_57 : ∀ (zs0 : Int32) (zh : PH) (H : Heap) (locs : List Loc) (ls : Array Slot), f_X5_isAtWork_57 N zs0 zh = some (r9, h9) → gw E s zh H locs → lv_has ls 4 [] → W p l e rm_X5_isAtWork s m [.ref (gB E + za0), .int za1, .int za2].toArray below meth c H locs 0 0 (MQ below (gQi E r9 h9) [.ref (gB E + za0), .int za1, .int za2].toArray s 0 0 (gA E)) (F0 m 57 ls [.int zs0]) := by
    intro zs0 zh H locs ls hf hw hl
    unfold f_X5_isAtWork_57 at hf
    exact gx_zret X hr hlk hw hf dX5_isAtWork_57
  have J_56 : ∀ (zh : PH) (H : Heap) (locs : List Loc) (ls : Array Slot), f_X5_isAtWork_56 N zh = some (r9, h9) → gw E s zh H locs → lv_has ls 4 [] → W p l e rm_X5_isAtWork s m [.ref (gB E + za0), .int za1, .int za2].toArray below meth c H locs 0 0 (MQ below (gQi E r9 h9) [.ref (gB E + za0), .int za1, .int za2].toArray s 0 0 (gA E)) (F0 m 56 ls []) := by
    intro zh H locs ls hf hw hl
    unfold f_X5_isAtWork_56 at hf
    refine lv_iconst (v := 0) hx hb dX5_isAtWork_56 (by decide) ?_
    exact J_57 0 _ _ _ ls hf hw (lv_sub hl [] rfl)
  unfold f_X5_isAtWork at hf
  refine lv_aload_n hx hb dX5_isAtWork_0 rfl (lv_at hl 0 rfl) ?_
  obtain ⟨zt1, qzt1, hf⟩ := gb_el hf
  refine gx_getR X hw qzt1 clX5 (by decide) mf_X5_15 dX5_isAtWork_1 ?_
  refine lv_iload_n hx hb dX5_isAtWork_4 rfl (lv_at hl 1 rfl) ?_
  obtain ⟨zt2, qzt2, hf⟩ := gb_el hf
  refine gx_iald X hw qzt2 dX5_isAtWork_5 ?_
  refine lv_aload_n hx hb dX5_isAtWork_6 rfl (lv_at hl 0 rfl) ?_
  obtain ⟨zt3, qzt3, hf⟩ := gb_el hf
  refine gx_getR X hw qzt3 clX5 (by decide) mf_X5_21 dX5_isAtWork_7 ?_
  obtain ⟨zt4, qzt4, hf⟩ := gb_el hf
  refine gx_getR X hw qzt4 clX4 (by decide) mf_X5_58 dX5_isAtWork_10 ?_
  refine lv_iload_n hx hb dX5_isAtWork_13 rfl (lv_at hl 1 rfl) ?_
  obtain ⟨zt5, qzt5, hf⟩ := gb_el hf
  refine gx_iald X hw qzt5 dX5_isAtWork_14 ?_
  refine W.eq (g2 := F0 m 15 ls [.int zt5, .int zt2]) rfl ?_
  refine lv_iadd hx hb dX5_isAtWork_15 ?_
  refine lv_aload_n hx hb dX5_isAtWork_16 rfl (lv_at hl 0 rfl) ?_
  obtain ⟨zt6, qzt6, hf⟩ := gb_el hf
  refine gx_getR X hw qzt6 clX5 (by decide) mf_X5_21 dX5_isAtWork_17 ?_
  obtain ⟨zt7, qzt7, hf⟩ := gb_el hf
  refine gx_getR X hw qzt7 clX4 (by decide) mf_X5_61 dX5_isAtWork_20 ?_
  refine lv_iload_n hx hb dX5_isAtWork_23 rfl (lv_at hl 1 rfl) ?_
  obtain ⟨zt8, qzt8, hf⟩ := gb_el hf
  refine gx_iald X hw qzt8 dX5_isAtWork_24 ?_
  refine lv_iadd hx hb dX5_isAtWork_25 ?_
  refine lv_topi (fun zx9 ezx9 => ?_)
  have hf := gl_el hf ezx9
  refine lv_istore_n (lv' := [(3, .int zx9), (0, .ref (gB E + za0)), (1, .int za1), (2, .int za2)]) hx hb dX5_isAtWork_26 rfl hl (by decide) rfl (fun ls hl => ?_)
  refine lv_aload_n hx hb dX5_isAtWork_27 rfl (lv_at hl 1 rfl) ?_
  obtain ⟨zt10, qzt10, hf⟩ := gb_el hf
  refine gx_getR X hw qzt10 clX5 (by decide) mf_X5_15 dX5_isAtWork_28 ?_
  refine W.eq (g2 := F0 m 31 ls [.ref (gB E + zt10)]) rfl ?_
  refine lv_iload_n hx hb dX5_isAtWork_31 rfl (lv_at hl 2 rfl) ?_
  obtain ⟨zt11, qzt11, hf⟩ := gb_el hf
  refine gx_iald X hw qzt11 dX5_isAtWork_32 ?_
  refine lv_aload_n hx hb dX5_isAtWork_33 rfl (lv_at hl 1 rfl) ?_
  obtain ⟨zt12, qzt12, hf⟩ := gb_el hf
  refine gx_getR X hw qzt12 clX5 (by decide) mf_X5_21 dX5_isAtWork_34 ?_
  obtain ⟨zt13, qzt13, hf⟩ := gb_el hf
  refine gx_getR X hw qzt13 clX4 (by decide) mf_X5_45 dX5_isAtWork_37 ?_
  refine lv_iload_n hx hb dX5_isAtWork_40 rfl (lv_at hl 2 rfl) ?_
  obtain ⟨zt14, qzt14, hf⟩ := gb_el hf
  refine gx_iald X hw qzt14 dX5_isAtWork_41 ?_
  refine lv_isub hx hb dX5_isAtWork_42 ?_
  refine lv_iload_n hx hb dX5_isAtWork_43 rfl (lv_at hl 3 rfl) ?_
  refine lv_icmp_gt (tgt := 56) hx hb dX5_isAtWork_44 (by decide) (fun qc15 => ?_) (fun qc15 => ?_)
  · have hf := gif_t hf qc15
    exact J_56  _ _ _ ls hf hw (lv_sub hl [] rfl)
  · have hf := gif_f hf qc15
    refine W.eq (g2 := F0 m 47 ls []) rfl ?_
    refine lv_iload_n hx hb dX5_isAtWork_47 rfl (lv_at hl 3 rfl) ?_
    refine lv_iload_n hx hb dX5_isAtWork_48 rfl (lv_at hl 0 rfl) ?_
    refine lv_icmp_ge (tgt := 56) hx hb dX5_isAtWork_49 (by decide) (fun qc16 => ?_) (fun qc16 => ?_)
    · have hf := gif_t hf qc16
      exact J_56  _ _ _ ls hf hw (lv_sub hl [] rfl)
    · have hf := gif_f hf qc16
      refine lv_iconst (v := 1) hx hb dX5_isAtWork_52 (by decide) ?_
      refine lv_goto (tgt := 57) hx hb dX5_isAtWork_53 (by decide) ?_
      exact J_57 1 _ _ _ ls hf hw (lv_sub hl [] rfl)
abbrev rm_X5_portersNeeded : Room := { frames := 1, cells := 0, slots := 0, locals := 23 }
set_option maxHeartbeats 4000000 in
set_option maxRecDepth 100000 in
theorem c_X5_portersNeeded (l : Launch) (E : gE) (N : Nat) (za0 : Nat) (zh : PH) {h9 : PH} {r9 : Int32} (hf : f_X5_portersNeeded N za0 zh = some (r9, h9)) : Met l yX5_portersNeeded (gWS yX5_portersNeeded cX5_portersNeeded 5 (some .int)) rm_X5_portersNeeded (gPc E [.ref (gB E + za0)] zh) (gQi E r9 h9) 0 0 (gA E) := by
  refine gx_met (by decide) ?_ rfl
  intro p e s m below meth c X hr hlk hin2 hw
  have hx := X.1.1
  have hb := X.1.2.1
  have hl := lv_entry [.ref (gB E + za0)] (n := 5) (Nat.le_of_ble_eq_true rfl)
  rw [lg_entry_eq]
  generalize (lg_sl [.ref (gB E + za0)] ++ List.replicate (5 - (lg_sl [.ref (gB E + za0)]).length) Slot.unset).toArray = ls at hl ⊢
  have hl : lv_has ls 5 [(0, .ref (gB E + za0))] := hl
  have L_4 : ∀ (zn4 : Nat) (zv0 : Nat) (zv1 : Int32) (zv2 : Int32) (zh : PH) (H : Heap) (locs : List Loc) (ls : Array Slot), gi (fun zk zs => f_X5_portersNeeded_4 N zk zs.1 zs.2.1 zs.2.2.1 zs.2.2.2) zn4 (zv0, zv1, zv2, zh) = some (r9, h9) → gw E s zh H locs → lv_has ls 5 [(0, .ref (gB E + zv0)), (1, .int zv1), (2, .int zv2)] → W p l e rm_X5_portersNeeded s m [.ref (gB E + za0)].toArray below meth c H locs 0 0 (MQ below (gQi E r9 h9) [.ref (gB E + za0)].toArray s 0 0 (gA E)) (F0 m 4 ls []) := by
    intro zn4
    induction zn4 with
    | zero =>
      intro zv0 zv1 zv2 zh H locs ls hf
      cases hf
    | succ zn4 ih_4 =>
      have L_20 : ∀ (zn20 : Nat) (zv0 : Nat) (zv1 : Int32) (zv2 : Int32) (zv3 : Int32) (zv4 : Int32) (zh : PH) (H : Heap) (locs : List Loc) (ls : Array Slot), gi (fun zk zs => f_X5_portersNeeded_20 N (gi (fun zk zs => f_X5_portersNeeded_4 N zk zs.1 zs.2.1 zs.2.2.1 zs.2.2.2) zn4) zk zs.1 zs.2.1 zs.2.2.1 zs.2.2.2.1 zs.2.2.2.2.1 zs.2.2.2.2.2) zn20 (zv0, zv1, zv2, zv3, zv4, zh) = some (r9, h9) → gw E s zh H locs → lv_has ls 5 [(0, .ref (gB E + zv0)), (1, .int zv1), (2, .int zv2), (3, .int zv3), (4, .int zv4)] → W p l e rm_X5_portersNeeded s m [.ref (gB E + za0)].toArray below meth c H locs 0 0 (MQ below (gQi E r9 h9) [.ref (gB E + za0)].toArray s 0 0 (gA E)) (F0 m 20 ls []) := by
        intro zn20
        induction zn20 with
        | zero =>
          intro zv0 zv1 zv2 zv3 zv4 zh H locs ls hf
          cases hf
        | succ zn20 ih_20 =>
          have J_63 : ∀ (zv0 : Nat) (zv1 : Int32) (zv2 : Int32) (zv4 : Int32) (zs0 : Int32) (zs1 : Int32) (zh : PH) (H : Heap) (locs : List Loc) (ls : Array Slot), f_X5_portersNeeded_63 N (gi (fun zk zs => f_X5_portersNeeded_4 N zk zs.1 zs.2.1 zs.2.2.1 zs.2.2.2) zn4) (gi (fun zk zs => f_X5_portersNeeded_20 N (gi (fun zk zs => f_X5_portersNeeded_4 N zk zs.1 zs.2.1 zs.2.2.1 zs.2.2.2) zn4) zk zs.1 zs.2.1 zs.2.2.1 zs.2.2.2.1 zs.2.2.2.2.1 zs.2.2.2.2.2) zn20) zv0 zv1 zv2 zv4 zs0 zs1 zh = some (r9, h9) → gw E s zh H locs → lv_has ls 5 [(0, .ref (gB E + zv0)), (1, .int zv1), (2, .int zv2), (4, .int zv4)] → W p l e rm_X5_portersNeeded s m [.ref (gB E + za0)].toArray below meth c H locs 0 0 (MQ below (gQi E r9 h9) [.ref (gB E + za0)].toArray s 0 0 (gA E)) (F0 m 63 ls [.int zs0, .int zs1]) := by
            intro zv0 zv1 zv2 zv4 zs0 zs1 zh H locs ls hf hw hl
            unfold f_X5_portersNeeded_63 at hf
            refine lv_iadd hx hb dX5_portersNeeded_63 ?_
            refine lv_topi (fun zx1 ezx1 => ?_)
            have hf := gl_el hf ezx1
            refine lv_istore_n (lv' := [(3, .int zx1), (0, .ref (gB E + zv0)), (1, .int zv1), (2, .int zv2), (4, .int zv4)]) hx hb dX5_portersNeeded_64 rfl hl (by decide) rfl (fun ls hl => ?_)
            obtain ⟨zx2, ezx2⟩ : ∃ y : Int32, y = zv4 + 1 := ⟨_, rfl⟩
            have hf := gl_el hf ezx2
            refine lv_iinc (v := zx2) (lv' := [(4, .int zx2), (3, .int zx1), (0, .ref (gB E + zv0)), (1, .int zv1), (2, .int zv2)]) hx hb dX5_portersNeeded_65 hl (k := 4) rfl (by rw [ezx2]; rfl) (by decide) rfl (fun ls hl => ?_)
            refine lv_goto (tgt := 20) hx hb dX5_portersNeeded_68 (by decide) ?_
            exact ih_20 zv0 zv1 zv2 zx1 zx2 _ _ _ ls hf hw (lv_sub hl [2, 3, 4, 1, 0] rfl)
          intro zv0 zv1 zv2 zv3 zv4 zh H locs ls hf hw hl
          have hf := gi_s hf
          dsimp only at hf
          unfold f_X5_portersNeeded_20 at hf
          refine lv_iload hx hb dX5_portersNeeded_20 (lv_at hl 4 rfl) ?_
          refine lv_aload_n hx hb dX5_portersNeeded_22 rfl (lv_at hl 0 rfl) ?_
          obtain ⟨zt1, qzt1, hf⟩ := gb_el hf
          refine gx_getR X hw qzt1 clX5 (by decide) mf_X5_21 dX5_portersNeeded_23 ?_
          obtain ⟨zt2, qzt2, hf⟩ := gb_el hf
          refine gx_getI X hw qzt2 clX4 (by decide) mf_X5_42 dX5_portersNeeded_26 ?_
          refine lv_icmp_ge (tgt := 71) hx hb dX5_portersNeeded_29 (by decide) (fun qc3 => ?_) (fun qc3 => ?_)
          · have hf := gif_t hf qc3
            refine lv_iload_n hx hb dX5_portersNeeded_71 rfl (lv_at hl 1 rfl) ?_
            refine lv_iload_n hx hb dX5_portersNeeded_72 rfl (lv_at hl 3 rfl) ?_
            refine gx_max X mm_X5_52 mt_max mI_java_lang_Math mx_max hl.1 (Nat.le_of_ble_eq_true rfl) (Nat.le_of_ble_eq_true rfl) (Nat.le_of_ble_eq_true rfl) (Nat.le_of_ble_eq_true rfl) dX5_portersNeeded_73 ?_
            refine lv_topi (fun zx4 ezx4 => ?_)
            have hf := gl_el hf ezx4
            refine lv_istore_n (lv' := [(1, .int zx4), (0, .ref (gB E + zv0)), (2, .int zv2), (3, .int zv3), (4, .int zv4)]) hx hb dX5_portersNeeded_76 rfl hl (by decide) rfl (fun ls hl => ?_)
            refine W.eq (g2 := F0 m 77 ls []) rfl ?_
            obtain ⟨zx5, ezx5⟩ : ∃ y : Int32, y = zv2 + 1 := ⟨_, rfl⟩
            have hf := gl_el hf ezx5
            refine lv_iinc (v := zx5) (lv' := [(2, .int zx5), (1, .int zx4), (0, .ref (gB E + zv0)), (3, .int zv3), (4, .int zv4)]) hx hb dX5_portersNeeded_77 hl (k := 2) rfl (by rw [ezx5]; rfl) (by decide) rfl (fun ls hl => ?_)
            refine lv_goto (tgt := 4) hx hb dX5_portersNeeded_80 (by decide) ?_
            exact ih_4 zv0 zx4 zx5 _ _ _ ls hf hw (lv_sub hl [2, 1, 0] rfl)
          · have hf := gif_f hf qc3
            refine lv_iload_n hx hb dX5_portersNeeded_32 rfl (lv_at hl 3 rfl) ?_
            refine lv_aload_n hx hb dX5_portersNeeded_33 rfl (lv_at hl 0 rfl) ?_
            refine lv_iload hx hb dX5_portersNeeded_34 (lv_at hl 4 rfl) ?_
            refine lv_aload_n hx hb dX5_portersNeeded_36 rfl (lv_at hl 0 rfl) ?_
            refine W.eq (g2 := F0 m 37 ls [.ref (gB E + zv0), .int zv4, .ref (gB E + zv0), .int zv3]) rfl ?_
            obtain ⟨zt6, qzt6, hf⟩ := gb_el hf
            refine gx_getR X hw qzt6 clX5 (by decide) mf_X5_15 dX5_portersNeeded_37 ?_
            refine lv_iload_n hx hb dX5_portersNeeded_40 rfl (lv_at hl 2 rfl) ?_
            obtain ⟨zt7, qzt7, hf⟩ := gb_el hf
            refine gx_iald X hw qzt7 dX5_portersNeeded_41 ?_
            refine lv_aload_n hx hb dX5_portersNeeded_42 rfl (lv_at hl 0 rfl) ?_
            obtain ⟨zt8, qzt8, hf⟩ := gb_el hf
            refine gx_getR X hw qzt8 clX5 (by decide) mf_X5_21 dX5_portersNeeded_43 ?_
            obtain ⟨zt9, qzt9, hf⟩ := gb_el hf
            refine gx_getR X hw qzt9 clX4 (by decide) mf_X5_45 dX5_portersNeeded_46 ?_
            refine lv_iload_n hx hb dX5_portersNeeded_49 rfl (lv_at hl 2 rfl) ?_
            obtain ⟨zt10, qzt10, hf⟩ := gb_el hf
            refine gx_iald X hw qzt10 dX5_portersNeeded_50 ?_
            refine lv_isub hx hb dX5_portersNeeded_51 ?_
            obtain ⟨qizh11, hf⟩ := gg_el hf
            obtain ⟨zt12, zh11, qzh11, hf⟩ := gc_el hf
            refine gx_ki (gx_runV (As := [.int zv4, .int (zt7 - zt10)]) (rest := [.int zv3]) X hw (c_X5_isAtWork l E N zv0 zv4 (zt7 - zt10) zh qzh11) kX5_isAtWork mm_X5_48 qizh11 clX5 ⟨Nat.le_of_ble_eq_true rfl, Nat.le_of_ble_eq_true rfl⟩ rfl rfl rfl hl.1 (Nat.le_of_ble_eq_true rfl) rfl dX5_portersNeeded_52 ⟨Nat.le_of_ble_eq_true rfl, Nat.le_of_ble_eq_true rfl⟩) hw (fun H locs hw => ?_)
            refine W.eq (g2 := F0 m 55 ls [.int zt12, .int zv3]) rfl ?_
            refine lv_if_eq (tgt := 62) hx hb dX5_portersNeeded_55 (by decide) (fun qc13 => ?_) (fun qc13 => ?_)
            · have hf := gif_t hf qc13
              refine lv_iconst (v := 0) hx hb dX5_portersNeeded_62 (by decide) ?_
              exact J_63 zv0 zv1 zv2 zv4 0 zv3 _ _ _ ls hf hw (lv_sub hl [0, 1, 2, 4] rfl)
            · have hf := gif_f hf qc13
              refine lv_iconst (v := 1) hx hb dX5_portersNeeded_58 (by decide) ?_
              refine lv_goto (tgt := 63) hx hb dX5_portersNeeded_59 (by decide) ?_
              exact J_63 zv0 zv1 zv2 zv4 1 zv3 _ _ _ ls hf hw (lv_sub hl [0, 1, 2, 4] rfl)
      intro zv0 zv1 zv2 zh H locs ls hf hw hl
      have hf := gi_s hf
      dsimp only at hf
      unfold f_X5_portersNeeded_4 at hf
      refine lv_iload_n hx hb dX5_portersNeeded_4 rfl (lv_at hl 2 rfl) ?_
      refine lv_aload_n hx hb dX5_portersNeeded_5 rfl (lv_at hl 0 rfl) ?_
      obtain ⟨zt1, qzt1, hf⟩ := gb_el hf
      refine gx_getR X hw qzt1 clX5 (by decide) mf_X5_21 dX5_portersNeeded_6 ?_
      obtain ⟨zt2, qzt2, hf⟩ := gb_el hf
      refine gx_getI X hw qzt2 clX4 (by decide) mf_X5_42 dX5_portersNeeded_9 ?_
      refine lv_icmp_ge (tgt := 83) hx hb dX5_portersNeeded_12 (by decide) (fun qc3 => ?_) (fun qc3 => ?_)
      · have hf := gif_t hf qc3
        refine lv_iload_n hx hb dX5_portersNeeded_83 rfl (lv_at hl 1 rfl) ?_
        exact gx_iret X hr hlk hw hf dX5_portersNeeded_84
      · have hf := gif_f hf qc3
        refine lv_iconst (v := 0) hx hb dX5_portersNeeded_15 (by decide) ?_
        refine lv_istore_n (lv' := [(3, .int 0), (0, .ref (gB E + zv0)), (1, .int zv1), (2, .int zv2)]) hx hb dX5_portersNeeded_16 rfl hl (by decide) rfl (fun ls hl => ?_)
        refine lv_iconst (v := 0) hx hb dX5_portersNeeded_17 (by decide) ?_
        refine lv_istore (lv' := [(4, .int 0), (3, .int 0), (0, .ref (gB E + zv0)), (1, .int zv1), (2, .int zv2)]) hx hb dX5_portersNeeded_18 hl (by decide) rfl (fun ls hl => ?_)
        exact L_20 N zv0 zv1 zv2 0 0 _ _ _ ls hf hw (lv_sub hl [2, 3, 4, 1, 0] rfl)
  unfold f_X5_portersNeeded at hf
  refine lv_iconst (v := 0) hx hb dX5_portersNeeded_0 (by decide) ?_
  refine lv_istore_n (lv' := [(1, .int 0), (0, .ref (gB E + za0))]) hx hb dX5_portersNeeded_1 rfl hl (by decide) rfl (fun ls hl => ?_)
  refine lv_iconst (v := 0) hx hb dX5_portersNeeded_2 (by decide) ?_
  refine lv_istore_n (lv' := [(2, .int 0), (1, .int 0), (0, .ref (gB E + za0))]) hx hb dX5_portersNeeded_3 rfl hl (by decide) rfl (fun ls hl => ?_)
  exact L_4 N za0 0 0 _ _ _ ls hf hw (lv_sub hl [2, 1, 0] rfl)
abbrev rm_X6_init : Room := { frames := 1, cells := 2, slots := 20, locals := 20 }
set_option maxHeartbeats 4000000 in
set_option maxRecDepth 100000 in
theorem c_X6_init (l : Launch) (E : gE) (N : Nat) (za0 : Nat) (zh : PH) {h9 : PH} (hf : f_X6_init N za0 zh = some h9) : Met l yX6_init (gWS yX6_init cX6_init 1 none) rm_X6_init (gPc E [.ref (gB E + za0)] zh) (gQv E h9) 2 20 (gA E) := by
  refine gx_met (by decide) ?_ rfl
  intro p e s m below meth c X hr hlk hin2 hw
  have hx := X.1.1
  have hb := X.1.2.1
  have hl := lv_entry [.ref (gB E + za0)] (n := 1) (Nat.le_of_ble_eq_true rfl)
  rw [lg_entry_eq]
  generalize (lg_sl [.ref (gB E + za0)] ++ List.replicate (1 - (lg_sl [.ref (gB E + za0)]).length) Slot.unset).toArray = ls at hl ⊢
  have hl : lv_has ls 1 [(0, .ref (gB E + za0))] := hl
  unfold f_X6_init at hf
  refine lv_aload_n hx hb dX6_init_0 rfl (lv_at hl 0 rfl) ?_
  refine gx_oinit X mm_X6_3 mo_inst mo_code hl.1 dX6_init_1 (Nat.le_of_ble_eq_true rfl) (Nat.le_of_ble_eq_true rfl) ?_
  refine lv_aload_n hx hb dX6_init_4 rfl (lv_at hl 0 rfl) ?_
  refine lv_bipush (v := 10) hx hb dX6_init_5 (by decide) ?_
  obtain ⟨zr2, zh1, qzh1, hf⟩ := gc_el hf
  refine gx_newa0 X hw qzh1 ma_int (by decide) (by decide) (by decide) (Nat.le_of_ble_eq_true rfl) (Nat.le_of_ble_eq_true rfl) dX6_init_7 (fun H hw => ?_)
  obtain ⟨zh3, qzh3, hf⟩ := gb_el hf
  refine gx_putFV X hw qzh3 clX6 (by decide) mf_X6_9 rfl (hin2 rfl) rfl rfl rfl dX6_init_9 (fun H locs hw => ?_)
  refine lv_aload_n hx hb dX6_init_12 rfl (lv_at hl 0 rfl) ?_
  refine lv_bipush (v := 10) hx hb dX6_init_13 (by decide) ?_
  obtain ⟨zr5, zh4, qzh4, hf⟩ := gc_el hf
  refine gx_newa0 X hw qzh4 ma_int (by decide) (by decide) (by decide) (Nat.le_of_ble_eq_true rfl) (Nat.le_of_ble_eq_true rfl) dX6_init_15 (fun H hw => ?_)
  refine W.eq (g2 := F0 m 17 ls [.ref (gB E + zr5), .ref (gB E + za0)]) rfl ?_
  obtain ⟨zh6, qzh6, hf⟩ := gb_el hf
  refine gx_putFV X hw qzh6 clX6 (by decide) mf_X6_15 rfl (hin2 rfl) rfl rfl rfl dX6_init_17 (fun H locs hw => ?_)
  exact gx_vret X hr hlk hw hf dX6_init_20
abbrev rm_X6_pages : Room := { frames := 0, cells := 0, slots := 0, locals := 0 }
set_option maxHeartbeats 4000000 in
set_option maxRecDepth 100000 in
theorem c_X6_pages (l : Launch) (E : gE) (N : Nat) (za0 : Nat) (zh : PH) {h9 : PH} {r9 : Int32} (hf : f_X6_pages N za0 zh = some (r9, h9)) : Met l yX6_pages (gWS yX6_pages cX6_pages 3 (some .int)) rm_X6_pages (gPc E [.ref (gB E + za0)] zh) (gQi E r9 h9) 0 0 (gA E) := by
  refine gx_met (by decide) ?_ rfl
  intro p e s m below meth c X hr hlk hin2 hw
  have hx := X.1.1
  have hb := X.1.2.1
  have hl := lv_entry [.ref (gB E + za0)] (n := 3) (Nat.le_of_ble_eq_true rfl)
  rw [lg_entry_eq]
  generalize (lg_sl [.ref (gB E + za0)] ++ List.replicate (3 - (lg_sl [.ref (gB E + za0)]).length) Slot.unset).toArray = ls at hl ⊢
  have hl : lv_has ls 3 [(0, .ref (gB E + za0))] := hl
  have L_4 : ∀ (zn4 : Nat) (zv0 : Nat) (zv1 : Int32) (zv2 : Int32) (zh : PH) (H : Heap) (locs : List Loc) (ls : Array Slot), gi (fun zk zs => f_X6_pages_4 N zk zs.1 zs.2.1 zs.2.2.1 zs.2.2.2) zn4 (zv0, zv1, zv2, zh) = some (r9, h9) → gw E s zh H locs → lv_has ls 3 [(0, .ref (gB E + zv0)), (1, .int zv1), (2, .int zv2)] → W p l e rm_X6_pages s m [.ref (gB E + za0)].toArray below meth c H locs 0 0 (MQ below (gQi E r9 h9) [.ref (gB E + za0)].toArray s 0 0 (gA E)) (F0 m 4 ls []) := by
    intro zn4
    induction zn4 with
    | zero =>
      intro zv0 zv1 zv2 zh H locs ls hf
      cases hf
    | succ zn4 ih_4 =>
      have J_25 : ∀ (zv0 : Nat) (zv2 : Int32) (zs0 : Int32) (zs1 : Int32) (zh : PH) (H : Heap) (locs : List Loc) (ls : Array Slot), f_X6_pages_25 N (gi (fun zk zs => f_X6_pages_4 N zk zs.1 zs.2.1 zs.2.2.1 zs.2.2.2) zn4) zv0 zv2 zs0 zs1 zh = some (r9, h9) → gw E s zh H locs → lv_has ls 3 [(0, .ref (gB E + zv0)), (2, .int zv2)] → W p l e rm_X6_pages s m [.ref (gB E + za0)].toArray below meth c H locs 0 0 (MQ below (gQi E r9 h9) [.ref (gB E + za0)].toArray s 0 0 (gA E)) (F0 m 25 ls [.int zs0, .int zs1]) := by
        intro zv0 zv2 zs0 zs1 zh H locs ls hf hw hl
        unfold f_X6_pages_25 at hf
        refine lv_iadd hx hb dX6_pages_25 ?_
        refine lv_topi (fun zx1 ezx1 => ?_)
        have hf := gl_el hf ezx1
        refine lv_istore_n (lv' := [(1, .int zx1), (0, .ref (gB E + zv0)), (2, .int zv2)]) hx hb dX6_pages_26 rfl hl (by decide) rfl (fun ls hl => ?_)
        obtain ⟨zx2, ezx2⟩ : ∃ y : Int32, y = zv2 + 1 := ⟨_, rfl⟩
        have hf := gl_el hf ezx2
        refine lv_iinc (v := zx2) (lv' := [(2, .int zx2), (1, .int zx1), (0, .ref (gB E + zv0))]) hx hb dX6_pages_27 hl (k := 2) rfl (by rw [ezx2]; rfl) (by decide) rfl (fun ls hl => ?_)
        refine lv_goto (tgt := 4) hx hb dX6_pages_30 (by decide) ?_
        exact ih_4 zv0 zx1 zx2 _ _ _ ls hf hw (lv_sub hl [2, 1, 0] rfl)
      intro zv0 zv1 zv2 zh H locs ls hf hw hl
      have hf := gi_s hf
      dsimp only at hf
      unfold f_X6_pages_4 at hf
      refine lv_iload_n hx hb dX6_pages_4 rfl (lv_at hl 2 rfl) ?_
      refine lv_bipush (v := 10) hx hb dX6_pages_5 (by decide) ?_
      refine lv_icmp_ge (tgt := 33) hx hb dX6_pages_7 (by decide) (fun qc1 => ?_) (fun qc1 => ?_)
      · have hf := gif_t hf qc1
        refine lv_iload_n hx hb dX6_pages_33 rfl (lv_at hl 1 rfl) ?_
        exact gx_iret X hr hlk hw hf dX6_pages_34
      · have hf := gif_f hf qc1
        refine lv_iload_n hx hb dX6_pages_10 rfl (lv_at hl 1 rfl) ?_
        refine lv_aload_n hx hb dX6_pages_11 rfl (lv_at hl 0 rfl) ?_
        obtain ⟨zt2, qzt2, hf⟩ := gb_el hf
        refine gx_getR X hw qzt2 clX6 (by decide) mf_X6_9 dX6_pages_12 ?_
        refine lv_iload_n hx hb dX6_pages_15 rfl (lv_at hl 2 rfl) ?_
        obtain ⟨zt3, qzt3, hf⟩ := gb_el hf
        refine gx_iald X hw qzt3 dX6_pages_16 ?_
        refine lv_if_eq (tgt := 24) hx hb dX6_pages_17 (by decide) (fun qc4 => ?_) (fun qc4 => ?_)
        · have hf := gif_t hf qc4
          refine W.eq (g2 := F0 m 24 ls [.int zv1]) rfl ?_
          refine lv_iconst (v := 0) hx hb dX6_pages_24 (by decide) ?_
          exact J_25 zv0 zv2 0 zv1 _ _ _ ls hf hw (lv_sub hl [0, 2] rfl)
        · have hf := gif_f hf qc4
          refine W.eq (g2 := F0 m 20 ls [.int zv1]) rfl ?_
          refine lv_iconst (v := 1) hx hb dX6_pages_20 (by decide) ?_
          refine lv_goto (tgt := 25) hx hb dX6_pages_21 (by decide) ?_
          exact J_25 zv0 zv2 1 zv1 _ _ _ ls hf hw (lv_sub hl [0, 2] rfl)
  unfold f_X6_pages at hf
  refine lv_iconst (v := 0) hx hb dX6_pages_0 (by decide) ?_
  refine lv_istore_n (lv' := [(1, .int 0), (0, .ref (gB E + za0))]) hx hb dX6_pages_1 rfl hl (by decide) rfl (fun ls hl => ?_)
  refine lv_iconst (v := 0) hx hb dX6_pages_2 (by decide) ?_
  refine lv_istore_n (lv' := [(2, .int 0), (1, .int 0), (0, .ref (gB E + za0))]) hx hb dX6_pages_3 rfl hl (by decide) rfl (fun ls hl => ?_)
  exact L_4 N za0 0 0 _ _ _ ls hf hw (lv_sub hl [2, 1, 0] rfl)
abbrev rm_J6_bitCount_0f7a4 : Room := { frames := 0, cells := 0, slots := 0, locals := 0 }
set_option maxHeartbeats 4000000 in
set_option maxRecDepth 100000 in
theorem c_J6_bitCount_0f7a4 (l : Launch) (E : gE) (N : Nat) (za0 : Int32) (zh : PH) {h9 : PH} {r9 : Int32} (hf : f_J6_bitCount_0f7a4 N za0 zh = some (r9, h9)) : Met l yJ6_bitCount_0f7a4 (gWS yJ6_bitCount_0f7a4 cJ6_bitCount_0f7a4 1 (some .int)) rm_J6_bitCount_0f7a4 (gPc E [.int za0] zh) (gQi E r9 h9) 0 0 (gA E) := by
  refine gx_met (by decide) ?_ rfl
  intro p e s m below meth c X hr hlk hin2 hw
  have hx := X.1.1
  have hb := X.1.2.1
  have hl := lv_entry [.int za0] (n := 1) (Nat.le_of_ble_eq_true rfl)
  rw [lg_entry_eq]
  generalize (lg_sl [.int za0] ++ List.replicate (1 - (lg_sl [.int za0]).length) Slot.unset).toArray = ls at hl ⊢
  have hl : lv_has ls 1 [(0, .int za0)] := hl
  unfold f_J6_bitCount_0f7a4 at hf
  refine lv_iload_n hx hb dJ6_bitCount_0f7a4_0 rfl (lv_at hl 0 rfl) ?_
  refine lv_iload_n hx hb dJ6_bitCount_0f7a4_1 rfl (lv_at hl 0 rfl) ?_
  refine lv_iconst (v := 1) hx hb dJ6_bitCount_0f7a4_2 (by decide) ?_
  refine lv_iushr hx hb dJ6_bitCount_0f7a4_3 rfl ?_
  refine lv_ldcw (v := 1431655765) hx hb X.1.2.2.2.1 (X.1.2.2.2.2 _ mk_java_lang_Integer_265) dJ6_bitCount_0f7a4_4 ?_
  refine lv_iand hx hb dJ6_bitCount_0f7a4_7 ?_
  refine lv_isub hx hb dJ6_bitCount_0f7a4_8 ?_
  refine lv_topi (fun zx1 ezx1 => ?_)
  have hf := gl_el hf ezx1
  refine lv_istore_n (lv' := [(0, .int zx1)]) hx hb dJ6_bitCount_0f7a4_9 rfl hl (by decide) rfl (fun ls hl => ?_)
  refine lv_iload_n hx hb dJ6_bitCount_0f7a4_10 rfl (lv_at hl 0 rfl) ?_
  refine W.eq (g2 := F0 m 11 ls [.int zx1]) rfl ?_
  refine lv_ldcw (v := 858993459) hx hb X.1.2.2.2.1 (X.1.2.2.2.2 _ mk_java_lang_Integer_266) dJ6_bitCount_0f7a4_11 ?_
  refine lv_iand hx hb dJ6_bitCount_0f7a4_14 ?_
  refine lv_iload_n hx hb dJ6_bitCount_0f7a4_15 rfl (lv_at hl 0 rfl) ?_
  refine lv_iconst (v := 2) hx hb dJ6_bitCount_0f7a4_16 (by decide) ?_
  refine lv_iushr hx hb dJ6_bitCount_0f7a4_17 rfl ?_
  refine lv_ldcw (v := 858993459) hx hb X.1.2.2.2.1 (X.1.2.2.2.2 _ mk_java_lang_Integer_266) dJ6_bitCount_0f7a4_18 ?_
  refine lv_iand hx hb dJ6_bitCount_0f7a4_21 ?_
  refine lv_iadd hx hb dJ6_bitCount_0f7a4_22 ?_
  refine lv_topi (fun zx2 ezx2 => ?_)
  have hf := gl_el hf ezx2
  refine lv_istore_n (lv' := [(0, .int zx2)]) hx hb dJ6_bitCount_0f7a4_23 rfl hl (by decide) rfl (fun ls hl => ?_)
  refine lv_iload_n hx hb dJ6_bitCount_0f7a4_24 rfl (lv_at hl 0 rfl) ?_
  refine W.eq (g2 := F0 m 25 ls [.int zx2]) rfl ?_
  refine lv_iload_n hx hb dJ6_bitCount_0f7a4_25 rfl (lv_at hl 0 rfl) ?_
  refine lv_iconst (v := 4) hx hb dJ6_bitCount_0f7a4_26 (by decide) ?_
  refine lv_iushr hx hb dJ6_bitCount_0f7a4_27 rfl ?_
  refine lv_iadd hx hb dJ6_bitCount_0f7a4_28 ?_
  refine lv_ldcw (v := 252645135) hx hb X.1.2.2.2.1 (X.1.2.2.2.2 _ mk_java_lang_Integer_267) dJ6_bitCount_0f7a4_29 ?_
  refine lv_iand hx hb dJ6_bitCount_0f7a4_32 ?_
  refine lv_topi (fun zx3 ezx3 => ?_)
  have hf := gl_el hf ezx3
  refine lv_istore_n (lv' := [(0, .int zx3)]) hx hb dJ6_bitCount_0f7a4_33 rfl hl (by decide) rfl (fun ls hl => ?_)
  refine lv_iload_n hx hb dJ6_bitCount_0f7a4_34 rfl (lv_at hl 0 rfl) ?_
  refine lv_iload_n hx hb dJ6_bitCount_0f7a4_35 rfl (lv_at hl 0 rfl) ?_
  refine lv_bipush (v := 8) hx hb dJ6_bitCount_0f7a4_36 (by decide) ?_
  refine W.eq (g2 := F0 m 38 ls [.int 8, .int zx3, .int zx3]) rfl ?_
  refine lv_iushr hx hb dJ6_bitCount_0f7a4_38 rfl ?_
  refine lv_iadd hx hb dJ6_bitCount_0f7a4_39 ?_
  refine lv_topi (fun zx4 ezx4 => ?_)
  have hf := gl_el hf ezx4
  refine lv_istore_n (lv' := [(0, .int zx4)]) hx hb dJ6_bitCount_0f7a4_40 rfl hl (by decide) rfl (fun ls hl => ?_)
  refine lv_iload_n hx hb dJ6_bitCount_0f7a4_41 rfl (lv_at hl 0 rfl) ?_
  refine lv_iload_n hx hb dJ6_bitCount_0f7a4_42 rfl (lv_at hl 0 rfl) ?_
  refine lv_bipush (v := 16) hx hb dJ6_bitCount_0f7a4_43 (by decide) ?_
  refine lv_iushr hx hb dJ6_bitCount_0f7a4_45 rfl ?_
  refine lv_iadd hx hb dJ6_bitCount_0f7a4_46 ?_
  refine lv_topi (fun zx5 ezx5 => ?_)
  have hf := gl_el hf ezx5
  refine lv_istore_n (lv' := [(0, .int zx5)]) hx hb dJ6_bitCount_0f7a4_47 rfl hl (by decide) rfl (fun ls hl => ?_)
  refine lv_iload_n hx hb dJ6_bitCount_0f7a4_48 rfl (lv_at hl 0 rfl) ?_
  refine W.eq (g2 := F0 m 49 ls [.int zx5]) rfl ?_
  refine lv_bipush (v := 63) hx hb dJ6_bitCount_0f7a4_49 (by decide) ?_
  refine lv_iand hx hb dJ6_bitCount_0f7a4_51 ?_
  exact gx_iret X hr hlk hw hf dJ6_bitCount_0f7a4_52
abbrev rm_X6_placeNext : Room := { frames := 1, cells := 0, slots := 0, locals := 21 }
set_option maxHeartbeats 4000000 in
set_option maxRecDepth 100000 in
theorem c_X6_placeNext (l : Launch) (E : gE) (N : Nat) (za0 : Nat) (za1 : Int32) (za2 : Int32) (za3 : Int32) (zh : PH) {h9 : PH} (hf : f_X6_placeNext N za0 za1 za2 za3 zh = some h9) : Met l yX6_placeNext (gWS yX6_placeNext cX6_placeNext 5 none) rm_X6_placeNext (gPc E [.ref (gB E + za0), .int za1, .int za2, .int za3] zh) (gQv E h9) 0 0 (gA E) := by
  refine gx_met (by decide) ?_ rfl
  intro p e s m below meth c X hr hlk hin2 hw
  have hx := X.1.1
  have hb := X.1.2.1
  have hl := lv_entry [.ref (gB E + za0), .int za1, .int za2, .int za3] (n := 5) (Nat.le_of_ble_eq_true rfl)
  rw [lg_entry_eq]
  generalize (lg_sl [.ref (gB E + za0), .int za1, .int za2, .int za3] ++ List.replicate (5 - (lg_sl [.ref (gB E + za0), .int za1, .int za2, .int za3]).length) Slot.unset).toArray = ls at hl ⊢
  have hl : lv_has ls 5 [(0, .ref (gB E + za0)), (1, .int za1), (2, .int za2), (3, .int za3)] := hl
  have L_3 : ∀ (zn3 : Nat) (zv0 : Nat) (zv1 : Int32) (zv2 : Int32) (zv3 : Int32) (zv4 : Int32) (zh : PH) (H : Heap) (locs : List Loc) (ls : Array Slot), gi (fun zk zs => f_X6_placeNext_3 N zk zs.1 zs.2.1 zs.2.2.1 zs.2.2.2.1 zs.2.2.2.2.1 zs.2.2.2.2.2) zn3 (zv0, zv1, zv2, zv3, zv4, zh) = some h9 → gw E s zh H locs → lv_has ls 5 [(0, .ref (gB E + zv0)), (1, .int zv1), (2, .int zv2), (3, .int zv3), (4, .int zv4)] → W p l e rm_X6_placeNext s m [.ref (gB E + za0), .int za1, .int za2, .int za3].toArray below meth c H locs 0 0 (MQ below (gQv E h9) [.ref (gB E + za0), .int za1, .int za2, .int za3].toArray s 0 0 (gA E)) (F0 m 3 ls []) := by
    intro zn3
    induction zn3 with
    | zero =>
      intro zv0 zv1 zv2 zv3 zv4 zh H locs ls hf
      cases hf
    | succ zn3 ih_3 =>
      have J_37 : ∀ (zv0 : Nat) (zv1 : Int32) (zv2 : Int32) (zv3 : Int32) (zv4 : Int32) (zh : PH) (H : Heap) (locs : List Loc) (ls : Array Slot), f_X6_placeNext_37 N (gi (fun zk zs => f_X6_placeNext_3 N zk zs.1 zs.2.1 zs.2.2.1 zs.2.2.2.1 zs.2.2.2.2.1 zs.2.2.2.2.2) zn3) zv0 zv1 zv2 zv3 zv4 zh = some h9 → gw E s zh H locs → lv_has ls 5 [(0, .ref (gB E + zv0)), (1, .int zv1), (2, .int zv2), (3, .int zv3), (4, .int zv4)] → W p l e rm_X6_placeNext s m [.ref (gB E + za0), .int za1, .int za2, .int za3].toArray below meth c H locs 0 0 (MQ below (gQv E h9) [.ref (gB E + za0), .int za1, .int za2, .int za3].toArray s 0 0 (gA E)) (F0 m 37 ls []) := by
        intro zv0 zv1 zv2 zv3 zv4 zh H locs ls hf hw hl
        unfold f_X6_placeNext_37 at hf
        obtain ⟨zx1, ezx1⟩ : ∃ y : Int32, y = zv4 + 1 := ⟨_, rfl⟩
        have hf := gl_el hf ezx1
        refine lv_iinc (v := zx1) (lv' := [(4, .int zx1), (0, .ref (gB E + zv0)), (1, .int zv1), (2, .int zv2), (3, .int zv3)]) hx hb dX6_placeNext_37 hl (k := 4) rfl (by rw [ezx1]; rfl) (by decide) rfl (fun ls hl => ?_)
        refine lv_goto (tgt := 3) hx hb dX6_placeNext_40 (by decide) ?_
        exact ih_3 zv0 zv1 zv2 zv3 zx1 _ _ _ ls hf hw (lv_sub hl [1, 2, 3, 4, 0] rfl)
      intro zv0 zv1 zv2 zv3 zv4 zh H locs ls hf hw hl
      have hf := gi_s hf
      dsimp only at hf
      unfold f_X6_placeNext_3 at hf
      refine lv_iload hx hb dX6_placeNext_3 (lv_at hl 4 rfl) ?_
      refine lv_iload_n hx hb dX6_placeNext_5 rfl (lv_at hl 3 rfl) ?_
      refine lv_icmp_ge (tgt := 43) hx hb dX6_placeNext_6 (by decide) (fun qc1 => ?_) (fun qc1 => ?_)
      · have hf := gif_t hf qc1
        exact gx_vret X hr hlk hw hf dX6_placeNext_43
      · have hf := gif_f hf qc1
        refine lv_iload_n hx hb dX6_placeNext_9 rfl (lv_at hl 2 rfl) ?_
        refine lv_iload_n hx hb dX6_placeNext_10 rfl (lv_at hl 1 rfl) ?_
        refine lv_iconst (v := (-1)) hx hb dX6_placeNext_11 (by decide) ?_
        refine lv_ixor hx hb dX6_placeNext_12 ?_
        refine lv_iand hx hb dX6_placeNext_13 ?_
        refine lv_iload hx hb dX6_placeNext_14 (lv_at hl 4 rfl) ?_
        refine W.eq (g2 := F0 m 16 ls [.int zv4, .int (zv2 &&& (zv1 ^^^ (-1)))]) rfl ?_
        obtain ⟨zt3, zh2, qzh2, hf⟩ := gc_el hf
        refine gx_ki (gx_runSN (As := [.int (zv2 &&& (zv1 ^^^ (-1))), .int zv4]) (rest := []) X hw (c_X11_bitOf l E N (zv2 &&& (zv1 ^^^ (-1))) zv4 zh qzh2) kX11_bitOf mn_X6_26 ⟨Nat.le_of_ble_eq_true rfl, Nat.le_of_ble_eq_true rfl⟩ rfl rfl rfl hl.1 (Nat.le_of_ble_eq_true rfl) rfl dX6_placeNext_16 ⟨Nat.le_of_ble_eq_true rfl, Nat.le_of_ble_eq_true rfl⟩) hw (fun H locs hw => ?_)
        refine lv_iconst (v := 1) hx hb dX6_placeNext_19 (by decide) ?_
        refine lv_icmp_ne (tgt := 37) hx hb dX6_placeNext_20 (by decide) (fun qc4 => ?_) (fun qc4 => ?_)
        · have hf := gif_f hf qc4
          exact J_37 zv0 zv1 zv2 zv3 zv4 _ _ _ ls hf hw (lv_sub hl [0, 1, 2, 3, 4] rfl)
        · have hf := gif_t hf qc4
          refine lv_aload_n hx hb dX6_placeNext_23 rfl (lv_at hl 0 rfl) ?_
          refine lv_iload_n hx hb dX6_placeNext_24 rfl (lv_at hl 1 rfl) ?_
          refine lv_iconst (v := 1) hx hb dX6_placeNext_25 (by decide) ?_
          refine lv_iload hx hb dX6_placeNext_26 (lv_at hl 4 rfl) ?_
          refine lv_ishl hx hb dX6_placeNext_28 ?_
          refine lv_ior hx hb dX6_placeNext_29 ?_
          refine lv_dup2_11 hx hb dX6_placeNext_30 rfl rfl ?_
          refine W.eq (g2 := F0 m 31 ls [.int (zv1 ||| (1 <<< (zv4 &&& 31))), .ref (gB E + zv0), .int (zv1 ||| (1 <<< (zv4 &&& 31))), .ref (gB E + zv0)]) rfl ?_
          obtain ⟨zt5, qzt5, hf⟩ := gb_el hf
          refine gx_iald X hw qzt5 dX6_placeNext_31 ?_
          refine lv_aload_n hx hb dX6_placeNext_32 rfl (lv_at hl 0 rfl) ?_
          refine lv_iload_n hx hb dX6_placeNext_33 rfl (lv_at hl 1 rfl) ?_
          obtain ⟨zt6, qzt6, hf⟩ := gb_el hf
          refine gx_iald X hw qzt6 dX6_placeNext_34 ?_
          refine lv_iadd hx hb dX6_placeNext_35 ?_
          obtain ⟨zh7, qzh7, hf⟩ := gb_el hf
          refine gx_iast X hw qzh7 dX6_placeNext_36 (fun H locs hw => ?_)
          exact J_37 zv0 zv1 zv2 zv3 zv4 _ _ _ ls hf hw (lv_sub hl [0, 1, 2, 3, 4] rfl)
  unfold f_X6_placeNext at hf
  refine lv_iconst (v := 0) hx hb dX6_placeNext_0 (by decide) ?_
  refine lv_istore (lv' := [(4, .int 0), (0, .ref (gB E + za0)), (1, .int za1), (2, .int za2), (3, .int za3)]) hx hb dX6_placeNext_1 hl (by decide) rfl (fun ls hl => ?_)
  exact L_3 N za0 za1 za2 za3 0 _ _ _ ls hf hw (lv_sub hl [1, 2, 3, 4, 0] rfl)
abbrev rm_X6_fillRow : Room := { frames := 2, cells := 0, slots := 0, locals := 45 }
set_option maxHeartbeats 4000000 in
set_option maxRecDepth 100000 in
theorem c_X6_fillRow (l : Launch) (E : gE) (N : Nat) (za0 : Nat) (za1 : Nat) (za2 : Int32) (za3 : Int32) (zh : PH) {h9 : PH} {r9 : Int32} (hf : f_X6_fillRow N za0 za1 za2 za3 zh = some (r9, h9)) : Met l yX6_fillRow (gWS yX6_fillRow cX6_fillRow 7 (some .int)) rm_X6_fillRow (gPc E [.ref (gB E + za0), .ref (gB E + za1), .int za2, .int za3] zh) (gQi E r9 h9) 0 0 (gA E) := by
  refine gx_met (by decide) ?_ rfl
  intro p e s m below meth c X hr hlk hin2 hw
  have hx := X.1.1
  have hb := X.1.2.1
  have hl := lv_entry [.ref (gB E + za0), .ref (gB E + za1), .int za2, .int za3] (n := 7) (Nat.le_of_ble_eq_true rfl)
  rw [lg_entry_eq]
  generalize (lg_sl [.ref (gB E + za0), .ref (gB E + za1), .int za2, .int za3] ++ List.replicate (7 - (lg_sl [.ref (gB E + za0), .ref (gB E + za1), .int za2, .int za3]).length) Slot.unset).toArray = ls at hl ⊢
  have hl : lv_has ls 7 [(0, .ref (gB E + za0)), (1, .ref (gB E + za1)), (2, .int za2), (3, .int za3)] := hl
  have L_64 : ∀ (zn64 : Nat) (zv0 : Nat) (zv1 : Nat) (zv2 : Int32) (zv4 : Int32) (zv5 : Int32) (zh : PH) (H : Heap) (locs : List Loc) (ls : Array Slot), gi (fun zk zs => f_X6_fillRow_64 N zk zs.1 zs.2.1 zs.2.2.1 zs.2.2.2.1 zs.2.2.2.2.1 zs.2.2.2.2.2) zn64 (zv0, zv1, zv2, zv4, zv5, zh) = some (r9, h9) → gw E s zh H locs → lv_has ls 7 [(0, .ref (gB E + zv0)), (1, .ref (gB E + zv1)), (2, .int zv2), (4, .int zv4), (5, .int zv5)] → W p l e rm_X6_fillRow s m [.ref (gB E + za0), .ref (gB E + za1), .int za2, .int za3].toArray below meth c H locs 0 0 (MQ below (gQi E r9 h9) [.ref (gB E + za0), .ref (gB E + za1), .int za2, .int za3].toArray s 0 0 (gA E)) (F0 m 64 ls []) := by
    intro zn64
    induction zn64 with
    | zero =>
      intro zv0 zv1 zv2 zv4 zv5 zh H locs ls hf
      cases hf
    | succ zn64 ih_64 =>
      have J_107 : ∀ (zv0 : Nat) (zv1 : Nat) (zv2 : Int32) (zv4 : Int32) (zv5 : Int32) (zh : PH) (H : Heap) (locs : List Loc) (ls : Array Slot), f_X6_fillRow_107 N (gi (fun zk zs => f_X6_fillRow_64 N zk zs.1 zs.2.1 zs.2.2.1 zs.2.2.2.1 zs.2.2.2.2.1 zs.2.2.2.2.2) zn64) zv0 zv1 zv2 zv4 zv5 zh = some (r9, h9) → gw E s zh H locs → lv_has ls 7 [(0, .ref (gB E + zv0)), (1, .ref (gB E + zv1)), (2, .int zv2), (4, .int zv4), (5, .int zv5)] → W p l e rm_X6_fillRow s m [.ref (gB E + za0), .ref (gB E + za1), .int za2, .int za3].toArray below meth c H locs 0 0 (MQ below (gQi E r9 h9) [.ref (gB E + za0), .ref (gB E + za1), .int za2, .int za3].toArray s 0 0 (gA E)) (F0 m 107 ls []) := by
        intro zv0 zv1 zv2 zv4 zv5 zh H locs ls hf hw hl
        unfold f_X6_fillRow_107 at hf
        obtain ⟨zx1, ezx1⟩ : ∃ y : Int32, y = zv5 + 1 := ⟨_, rfl⟩
        have hf := gl_el hf ezx1
        refine lv_iinc (v := zx1) (lv' := [(5, .int zx1), (0, .ref (gB E + zv0)), (1, .ref (gB E + zv1)), (2, .int zv2), (4, .int zv4)]) hx hb dX6_fillRow_107 hl (k := 4) rfl (by rw [ezx1]; rfl) (by decide) rfl (fun ls hl => ?_)
        refine lv_goto (tgt := 64) hx hb dX6_fillRow_110 (by decide) ?_
        exact ih_64 zv0 zv1 zv2 zv4 zx1 _ _ _ ls hf hw (lv_sub hl [1, 2, 3, 4, 0] rfl)
      intro zv0 zv1 zv2 zv4 zv5 zh H locs ls hf hw hl
      have hf := gi_s hf
      dsimp only at hf
      unfold f_X6_fillRow_64 at hf
      refine lv_iload hx hb dX6_fillRow_64 (lv_at hl 4 rfl) ?_
      refine lv_iconst (v := 1) hx hb dX6_fillRow_66 (by decide) ?_
      refine lv_iload_n hx hb dX6_fillRow_67 rfl (lv_at hl 2 rfl) ?_
      refine lv_ishl hx hb dX6_fillRow_68 ?_
      refine lv_icmp_ge (tgt := 113) hx hb dX6_fillRow_69 (by decide) (fun qc1 => ?_) (fun qc1 => ?_)
      · have hf := gif_t hf qc1
        refine lv_iload hx hb dX6_fillRow_113 (lv_at hl 3 rfl) ?_
        exact gx_iret X hr hlk hw hf dX6_fillRow_115
      · have hf := gif_f hf qc1
        refine lv_iload hx hb dX6_fillRow_72 (lv_at hl 4 rfl) ?_
        obtain ⟨zt3, zh2, qzh2, hf⟩ := gc_el hf
        refine gx_ki (gx_runS (As := [.int zv5]) (rest := []) X hw (c_J6_bitCount_0f7a4 l E N zv5 zh qzh2) kJ6_bitCount_0f7a4 mm_X6_36 ⟨Nat.le_of_ble_eq_true rfl, Nat.le_of_ble_eq_true rfl⟩ rfl rfl rfl hl.1 (Nat.le_of_ble_eq_true rfl) rfl dX6_fillRow_74 ⟨Nat.le_of_ble_eq_true rfl, Nat.le_of_ble_eq_true rfl⟩) hw (fun H locs hw => ?_)
        refine lv_istore (lv' := [(6, .int zt3), (0, .ref (gB E + zv0)), (1, .ref (gB E + zv1)), (2, .int zv2), (4, .int zv4), (5, .int zv5)]) hx hb dX6_fillRow_77 hl (by decide) rfl (fun ls hl => ?_)
        refine lv_aload_n hx hb dX6_fillRow_79 rfl (lv_at hl 2 rfl) ?_
        refine W.eq (g2 := F0 m 80 ls [.ref (gB E + zv1)]) rfl ?_
        refine lv_iload hx hb dX6_fillRow_80 (lv_at hl 5 rfl) ?_
        obtain ⟨zt4, qzt4, hf⟩ := gb_el hf
        refine gx_iald X hw qzt4 dX6_fillRow_82 ?_
        refine lv_if_le (tgt := 107) hx hb dX6_fillRow_83 (by decide) (fun qc5 => ?_) (fun qc5 => ?_)
        · have hf := gif_t hf qc5
          exact J_107 zv0 zv1 zv2 zv4 zv5 _ _ _ ls hf hw (lv_sub hl [1, 2, 3, 4, 5] rfl)
        · have hf := gif_f hf qc5
          refine lv_iload hx hb dX6_fillRow_86 (lv_at hl 0 rfl) ?_
          refine lv_iload hx hb dX6_fillRow_88 (lv_at hl 4 rfl) ?_
          refine lv_icmp_ge (tgt := 107) hx hb dX6_fillRow_90 (by decide) (fun qc6 => ?_) (fun qc6 => ?_)
          · have hf := gif_t hf qc6
            exact J_107 zv0 zv1 zv2 zv4 zv5 _ _ _ ls hf hw (lv_sub hl [1, 2, 3, 4, 5] rfl)
          · have hf := gif_f hf qc6
            refine lv_aload_n hx hb dX6_fillRow_93 rfl (lv_at hl 2 rfl) ?_
            refine lv_iload hx hb dX6_fillRow_94 (lv_at hl 5 rfl) ?_
            refine lv_aload_n hx hb dX6_fillRow_96 rfl (lv_at hl 1 rfl) ?_
            obtain ⟨zt7, qzt7, hf⟩ := gb_el hf
            refine gx_getR X hw qzt7 clX6 (by decide) mf_X6_15 dX6_fillRow_97 ?_
            refine W.eq (g2 := F0 m 100 ls [.ref (gB E + zt7), .int zv5, .ref (gB E + zv1)]) rfl ?_
            refine lv_iload hx hb dX6_fillRow_100 (lv_at hl 0 rfl) ?_
            obtain ⟨zt8, qzt8, hf⟩ := gb_el hf
            refine gx_iald X hw qzt8 dX6_fillRow_102 ?_
            refine lv_iload_n hx hb dX6_fillRow_103 rfl (lv_at hl 3 rfl) ?_
            obtain ⟨zh9, qzh9, hf⟩ := gb_el hf
            refine gx_kv (gx_runS (As := [.ref (gB E + zv1), .int zv5, .int zt8, .int zv2]) (rest := []) X hw (c_X6_placeNext l E N zv1 zv5 zt8 zv2 zh2 qzh9) kX6_placeNext mm_X6_42 ⟨Nat.le_of_ble_eq_true rfl, Nat.le_of_ble_eq_true rfl⟩ rfl rfl rfl hl.1 (Nat.le_of_ble_eq_true rfl) rfl dX6_fillRow_104 ⟨Nat.le_of_ble_eq_true rfl, Nat.le_of_ble_eq_true rfl⟩) hw (fun H locs hw => ?_)
            exact J_107 zv0 zv1 zv2 zv4 zv5 _ _ _ ls hf hw (lv_sub hl [1, 2, 3, 4, 5] rfl)
  have L_6 : ∀ (zn6 : Nat) (zv0 : Nat) (zv1 : Nat) (zv2 : Int32) (zv3 : Int32) (zv4 : Int32) (zv5 : Int32) (zh : PH) (H : Heap) (locs : List Loc) (ls : Array Slot), gi (fun zk zs => f_X6_fillRow_6 N zk zs.1 zs.2.1 zs.2.2.1 zs.2.2.2.1 zs.2.2.2.2.1 zs.2.2.2.2.2.1 zs.2.2.2.2.2.2) zn6 (zv0, zv1, zv2, zv3, zv4, zv5, zh) = some (r9, h9) → gw E s zh H locs → lv_has ls 7 [(0, .ref (gB E + zv0)), (1, .ref (gB E + zv1)), (2, .int zv2), (3, .int zv3), (4, .int zv4), (5, .int zv5)] → W p l e rm_X6_fillRow s m [.ref (gB E + za0), .ref (gB E + za1), .int za2, .int za3].toArray below meth c H locs 0 0 (MQ below (gQi E r9 h9) [.ref (gB E + za0), .ref (gB E + za1), .int za2, .int za3].toArray s 0 0 (gA E)) (F0 m 6 ls []) := by
    intro zn6
    induction zn6 with
    | zero =>
      intro zv0 zv1 zv2 zv3 zv4 zv5 zh H locs ls hf
      cases hf
    | succ zn6 ih_6 =>
      have J_46 : ∀ (zv0 : Nat) (zv1 : Nat) (zv2 : Int32) (zv3 : Int32) (zv4 : Int32) (zv5 : Int32) (zh : PH) (H : Heap) (locs : List Loc) (ls : Array Slot), f_X6_fillRow_46 N (gi (fun zk zs => f_X6_fillRow_6 N zk zs.1 zs.2.1 zs.2.2.1 zs.2.2.2.1 zs.2.2.2.2.1 zs.2.2.2.2.2.1 zs.2.2.2.2.2.2) zn6) zv0 zv1 zv2 zv3 zv4 zv5 zh = some (r9, h9) → gw E s zh H locs → lv_has ls 7 [(0, .ref (gB E + zv0)), (1, .ref (gB E + zv1)), (2, .int zv2), (3, .int zv3), (4, .int zv4), (5, .int zv5)] → W p l e rm_X6_fillRow s m [.ref (gB E + za0), .ref (gB E + za1), .int za2, .int za3].toArray below meth c H locs 0 0 (MQ below (gQi E r9 h9) [.ref (gB E + za0), .ref (gB E + za1), .int za2, .int za3].toArray s 0 0 (gA E)) (F0 m 46 ls []) := by
        intro zv0 zv1 zv2 zv3 zv4 zv5 zh H locs ls hf hw hl
        unfold f_X6_fillRow_46 at hf
        obtain ⟨zx1, ezx1⟩ : ∃ y : Int32, y = zv5 + 1 := ⟨_, rfl⟩
        have hf := gl_el hf ezx1
        refine lv_iinc (v := zx1) (lv' := [(5, .int zx1), (0, .ref (gB E + zv0)), (1, .ref (gB E + zv1)), (2, .int zv2), (3, .int zv3), (4, .int zv4)]) hx hb dX6_fillRow_46 hl (k := 5) rfl (by rw [ezx1]; rfl) (by decide) rfl (fun ls hl => ?_)
        refine lv_goto (tgt := 6) hx hb dX6_fillRow_49 (by decide) ?_
        exact ih_6 zv0 zv1 zv2 zv3 zv4 zx1 _ _ _ ls hf hw (lv_sub hl [1, 2, 3, 4, 5, 0] rfl)
      intro zv0 zv1 zv2 zv3 zv4 zv5 zh H locs ls hf hw hl
      have hf := gi_s hf
      dsimp only at hf
      unfold f_X6_fillRow_6 at hf
      refine lv_iload hx hb dX6_fillRow_6 (lv_at hl 5 rfl) ?_
      refine lv_bipush (v := 10) hx hb dX6_fillRow_8 (by decide) ?_
      refine lv_icmp_ge (tgt := 52) hx hb dX6_fillRow_10 (by decide) (fun qc1 => ?_) (fun qc1 => ?_)
      · have hf := gif_t hf qc1
        refine lv_aload_n hx hb dX6_fillRow_52 rfl (lv_at hl 1 rfl) ?_
        refine lv_iconst (v := 0) hx hb dX6_fillRow_53 (by decide) ?_
        obtain ⟨zh2, qzh2, hf⟩ := gb_el hf
        refine gx_kv (gx_runS (As := [.ref (gB E + zv1), .int 0]) (rest := []) X hw (c_J7_fill_53178 l E N zv1 0 zh qzh2) kJ7_fill_53178 mm_X6_30 ⟨Nat.le_of_ble_eq_true rfl, Nat.le_of_ble_eq_true rfl⟩ rfl rfl rfl hl.1 (Nat.le_of_ble_eq_true rfl) rfl dX6_fillRow_54 ⟨Nat.le_of_ble_eq_true rfl, Nat.le_of_ble_eq_true rfl⟩) hw (fun H locs hw => ?_)
        refine lv_aload_n hx hb dX6_fillRow_57 rfl (lv_at hl 1 rfl) ?_
        refine lv_iconst (v := 0) hx hb dX6_fillRow_58 (by decide) ?_
        refine lv_iconst (v := 1) hx hb dX6_fillRow_59 (by decide) ?_
        refine W.eq (g2 := F0 m 60 ls [.int 1, .int 0, .ref (gB E + zv1)]) rfl ?_
        obtain ⟨zh3, qzh3, hf⟩ := gb_el hf
        refine gx_iast X hw qzh3 dX6_fillRow_60 (fun H locs hw => ?_)
        refine lv_iconst (v := 0) hx hb dX6_fillRow_61 (by decide) ?_
        refine lv_istore (lv' := [(5, .int 0), (0, .ref (gB E + zv0)), (1, .ref (gB E + zv1)), (2, .int zv2), (3, .int zv3), (4, .int zv4)]) hx hb dX6_fillRow_62 hl (by decide) rfl (fun ls hl => ?_)
        exact L_64 N zv0 zv1 zv2 zv4 0 _ _ _ ls hf hw (lv_sub hl [1, 2, 3, 5, 0] rfl)
      · have hf := gif_f hf qc1
        refine lv_aload_n hx hb dX6_fillRow_13 rfl (lv_at hl 0 rfl) ?_
        obtain ⟨zt4, qzt4, hf⟩ := gb_el hf
        refine gx_getR X hw qzt4 clX6 (by decide) mf_X6_9 dX6_fillRow_14 ?_
        refine lv_iload hx hb dX6_fillRow_17 (lv_at hl 5 rfl) ?_
        obtain ⟨zt5, qzt5, hf⟩ := gb_el hf
        refine gx_iald X hw qzt5 dX6_fillRow_19 ?_
        refine lv_if_eq (tgt := 46) hx hb dX6_fillRow_20 (by decide) (fun qc6 => ?_) (fun qc6 => ?_)
        · have hf := gif_t hf qc6
          exact J_46 zv0 zv1 zv2 zv3 zv4 zv5 _ _ _ ls hf hw (lv_sub hl [0, 1, 2, 3, 4, 5] rfl)
        · have hf := gif_f hf qc6
          refine lv_iload hx hb dX6_fillRow_23 (lv_at hl 5 rfl) ?_
          refine W.eq (g2 := F0 m 25 ls [.int zv5]) rfl ?_
          refine lv_iload_n hx hb dX6_fillRow_25 rfl (lv_at hl 3 rfl) ?_
          refine lv_icmp_eq (tgt := 46) hx hb dX6_fillRow_26 (by decide) (fun qc7 => ?_) (fun qc7 => ?_)
          · have hf := gif_t hf qc7
            exact J_46 zv0 zv1 zv2 zv3 zv4 zv5 _ _ _ ls hf hw (lv_sub hl [0, 1, 2, 3, 4, 5] rfl)
          · have hf := gif_f hf qc7
            refine lv_aload_n hx hb dX6_fillRow_29 rfl (lv_at hl 0 rfl) ?_
            obtain ⟨zt8, qzt8, hf⟩ := gb_el hf
            refine gx_getR X hw qzt8 clX6 (by decide) mf_X6_15 dX6_fillRow_30 ?_
            refine lv_iload hx hb dX6_fillRow_33 (lv_at hl 4 rfl) ?_
            refine lv_aload_n hx hb dX6_fillRow_35 rfl (lv_at hl 0 rfl) ?_
            obtain ⟨zt9, qzt9, hf⟩ := gb_el hf
            refine gx_getR X hw qzt9 clX6 (by decide) mf_X6_9 dX6_fillRow_36 ?_
            refine lv_iload hx hb dX6_fillRow_39 (lv_at hl 5 rfl) ?_
            obtain ⟨zt10, qzt10, hf⟩ := gb_el hf
            refine gx_iald X hw qzt10 dX6_fillRow_41 ?_
            obtain ⟨zh11, qzh11, hf⟩ := gb_el hf
            refine gx_iast X hw qzh11 dX6_fillRow_42 (fun H locs hw => ?_)
            refine W.eq (g2 := F0 m 43 ls []) rfl ?_
            obtain ⟨zx12, ezx12⟩ : ∃ y : Int32, y = zv4 + 1 := ⟨_, rfl⟩
            have hf := gl_el hf ezx12
            refine lv_iinc (v := zx12) (lv' := [(4, .int zx12), (0, .ref (gB E + zv0)), (1, .ref (gB E + zv1)), (2, .int zv2), (3, .int zv3), (5, .int zv5)]) hx hb dX6_fillRow_43 hl (k := 4) rfl (by rw [ezx12]; rfl) (by decide) rfl (fun ls hl => ?_)
            exact J_46 zv0 zv1 zv2 zv3 zx12 zv5 _ _ _ ls hf hw (lv_sub hl [1, 2, 3, 4, 0, 5] rfl)
  unfold f_X6_fillRow at hf
  refine lv_iconst (v := 0) hx hb dX6_fillRow_0 (by decide) ?_
  refine lv_istore (lv' := [(4, .int 0), (0, .ref (gB E + za0)), (1, .ref (gB E + za1)), (2, .int za2), (3, .int za3)]) hx hb dX6_fillRow_1 hl (by decide) rfl (fun ls hl => ?_)
  refine lv_iconst (v := 0) hx hb dX6_fillRow_3 (by decide) ?_
  refine lv_istore (lv' := [(5, .int 0), (4, .int 0), (0, .ref (gB E + za0)), (1, .ref (gB E + za1)), (2, .int za2), (3, .int za3)]) hx hb dX6_fillRow_4 hl (by decide) rfl (fun ls hl => ?_)
  exact L_6 N za0 za1 za2 za3 0 0 _ _ _ ls hf hw (lv_sub hl [2, 3, 4, 5, 1, 0] rfl)
abbrev rm_X6_waysBeside : Room := { frames := 1, cells := 0, slots := 0, locals := 20 }
set_option maxHeartbeats 4000000 in
set_option maxRecDepth 100000 in
theorem c_X6_waysBeside (l : Launch) (E : gE) (N : Nat) (za0 : Int32) (za1 : Int32) (za2 : Nat) (za3 : Int32) (zh : PH) {h9 : PH} {r9 : Int32} (hf : f_X6_waysBeside N za0 za1 za2 za3 zh = some (r9, h9)) : Met l yX6_waysBeside (gWS yX6_waysBeside cX6_waysBeside 6 (some .int)) rm_X6_waysBeside (gPc E [.int za0, .int za1, .ref (gB E + za2), .int za3] zh) (gQi E r9 h9) 0 0 (gA E) := by
  refine gx_met (by decide) ?_ rfl
  intro p e s m below meth c X hr hlk hin2 hw
  have hx := X.1.1
  have hb := X.1.2.1
  have hl := lv_entry [.int za0, .int za1, .ref (gB E + za2), .int za3] (n := 6) (Nat.le_of_ble_eq_true rfl)
  rw [lg_entry_eq]
  generalize (lg_sl [.int za0, .int za1, .ref (gB E + za2), .int za3] ++ List.replicate (6 - (lg_sl [.int za0, .int za1, .ref (gB E + za2), .int za3]).length) Slot.unset).toArray = ls at hl ⊢
  have hl : lv_has ls 6 [(0, .int za0), (1, .int za1), (2, .ref (gB E + za2)), (3, .int za3)] := hl
  have L_6 : ∀ (zn6 : Nat) (zv0 : Int32) (zv1 : Int32) (zv2 : Nat) (zv3 : Int32) (zv4 : Int32) (zv5 : Int32) (zh : PH) (H : Heap) (locs : List Loc) (ls : Array Slot), gi (fun zk zs => f_X6_waysBeside_6 N zk zs.1 zs.2.1 zs.2.2.1 zs.2.2.2.1 zs.2.2.2.2.1 zs.2.2.2.2.2.1 zs.2.2.2.2.2.2) zn6 (zv0, zv1, zv2, zv3, zv4, zv5, zh) = some (r9, h9) → gw E s zh H locs → lv_has ls 6 [(0, .int zv0), (1, .int zv1), (2, .ref (gB E + zv2)), (3, .int zv3), (4, .int zv4), (5, .int zv5)] → W p l e rm_X6_waysBeside s m [.int za0, .int za1, .ref (gB E + za2), .int za3].toArray below meth c H locs 0 0 (MQ below (gQi E r9 h9) [.int za0, .int za1, .ref (gB E + za2), .int za3].toArray s 0 0 (gA E)) (F0 m 6 ls []) := by
    intro zn6
    induction zn6 with
    | zero =>
      intro zv0 zv1 zv2 zv3 zv4 zv5 zh H locs ls hf
      cases hf
    | succ zn6 ih_6 =>
      have J_39 : ∀ (zv0 : Int32) (zv1 : Int32) (zv2 : Nat) (zv3 : Int32) (zv4 : Int32) (zv5 : Int32) (zh : PH) (H : Heap) (locs : List Loc) (ls : Array Slot), f_X6_waysBeside_39 N (gi (fun zk zs => f_X6_waysBeside_6 N zk zs.1 zs.2.1 zs.2.2.1 zs.2.2.2.1 zs.2.2.2.2.1 zs.2.2.2.2.2.1 zs.2.2.2.2.2.2) zn6) zv0 zv1 zv2 zv3 zv4 zv5 zh = some (r9, h9) → gw E s zh H locs → lv_has ls 6 [(0, .int zv0), (1, .int zv1), (2, .ref (gB E + zv2)), (3, .int zv3), (4, .int zv4), (5, .int zv5)] → W p l e rm_X6_waysBeside s m [.int za0, .int za1, .ref (gB E + za2), .int za3].toArray below meth c H locs 0 0 (MQ below (gQi E r9 h9) [.int za0, .int za1, .ref (gB E + za2), .int za3].toArray s 0 0 (gA E)) (F0 m 39 ls []) := by
        intro zv0 zv1 zv2 zv3 zv4 zv5 zh H locs ls hf hw hl
        unfold f_X6_waysBeside_39 at hf
        obtain ⟨zx1, ezx1⟩ : ∃ y : Int32, y = zv5 + 1 := ⟨_, rfl⟩
        have hf := gl_el hf ezx1
        refine lv_iinc (v := zx1) (lv' := [(5, .int zx1), (0, .int zv0), (1, .int zv1), (2, .ref (gB E + zv2)), (3, .int zv3), (4, .int zv4)]) hx hb dX6_waysBeside_39 hl (k := 5) rfl (by rw [ezx1]; rfl) (by decide) rfl (fun ls hl => ?_)
        refine lv_goto (tgt := 6) hx hb dX6_waysBeside_42 (by decide) ?_
        exact ih_6 zv0 zv1 zv2 zv3 zv4 zx1 _ _ _ ls hf hw (lv_sub hl [1, 2, 3, 4, 5, 0] rfl)
      intro zv0 zv1 zv2 zv3 zv4 zv5 zh H locs ls hf hw hl
      have hf := gi_s hf
      dsimp only at hf
      unfold f_X6_waysBeside_6 at hf
      refine lv_iload hx hb dX6_waysBeside_6 (lv_at hl 5 rfl) ?_
      refine lv_iconst (v := 1) hx hb dX6_waysBeside_8 (by decide) ?_
      refine lv_iload_n hx hb dX6_waysBeside_9 rfl (lv_at hl 3 rfl) ?_
      refine lv_ishl hx hb dX6_waysBeside_10 ?_
      refine lv_icmp_ge (tgt := 45) hx hb dX6_waysBeside_11 (by decide) (fun qc1 => ?_) (fun qc1 => ?_)
      · have hf := gif_t hf qc1
        refine lv_iload hx hb dX6_waysBeside_45 (lv_at hl 4 rfl) ?_
        exact gx_iret X hr hlk hw hf dX6_waysBeside_47
      · have hf := gif_f hf qc1
        refine lv_iload hx hb dX6_waysBeside_14 (lv_at hl 5 rfl) ?_
        obtain ⟨zt3, zh2, qzh2, hf⟩ := gc_el hf
        refine gx_ki (gx_runS (As := [.int zv5]) (rest := []) X hw (c_J6_bitCount_0f7a4 l E N zv5 zh qzh2) kJ6_bitCount_0f7a4 mm_X6_36 ⟨Nat.le_of_ble_eq_true rfl, Nat.le_of_ble_eq_true rfl⟩ rfl rfl rfl hl.1 (Nat.le_of_ble_eq_true rfl) rfl dX6_waysBeside_16 ⟨Nat.le_of_ble_eq_true rfl, Nat.le_of_ble_eq_true rfl⟩) hw (fun H locs hw => ?_)
        refine lv_iload_n hx hb dX6_waysBeside_19 rfl (lv_at hl 1 rfl) ?_
        refine lv_icmp_ne (tgt := 39) hx hb dX6_waysBeside_20 (by decide) (fun qc4 => ?_) (fun qc4 => ?_)
        · have hf := gif_f hf qc4
          exact J_39 zv0 zv1 zv2 zv3 zv4 zv5 _ _ _ ls hf hw (lv_sub hl [0, 1, 2, 3, 4, 5] rfl)
        · have hf := gif_t hf qc4
          refine W.eq (g2 := F0 m 23 ls []) rfl ?_
          refine lv_iload hx hb dX6_waysBeside_23 (lv_at hl 5 rfl) ?_
          refine lv_iload_n hx hb dX6_waysBeside_25 rfl (lv_at hl 0 rfl) ?_
          refine lv_iand hx hb dX6_waysBeside_26 ?_
          refine lv_if_ne (tgt := 39) hx hb dX6_waysBeside_27 (by decide) (fun qc5 => ?_) (fun qc5 => ?_)
          · have hf := gif_f hf qc5
            exact J_39 zv0 zv1 zv2 zv3 zv4 zv5 _ _ _ ls hf hw (lv_sub hl [0, 1, 2, 3, 4, 5] rfl)
          · have hf := gif_t hf qc5
            refine lv_iload hx hb dX6_waysBeside_30 (lv_at hl 4 rfl) ?_
            refine lv_aload_n hx hb dX6_waysBeside_32 rfl (lv_at hl 2 rfl) ?_
            refine lv_iload hx hb dX6_waysBeside_33 (lv_at hl 5 rfl) ?_
            obtain ⟨zt6, qzt6, hf⟩ := gb_el hf
            refine gx_iald X hw qzt6 dX6_waysBeside_35 ?_
            refine lv_iadd hx hb dX6_waysBeside_36 ?_
            refine lv_topi (fun zx7 ezx7 => ?_)
            have hf := gl_el hf ezx7
            refine lv_istore (lv' := [(4, .int zx7), (0, .int zv0), (1, .int zv1), (2, .ref (gB E + zv2)), (3, .int zv3), (5, .int zv5)]) hx hb dX6_waysBeside_37 hl (by decide) rfl (fun ls hl => ?_)
            exact J_39 zv0 zv1 zv2 zv3 zx7 zv5 _ _ _ ls hf hw (lv_sub hl [1, 2, 3, 4, 0, 5] rfl)
  unfold f_X6_waysBeside at hf
  refine lv_iconst (v := 0) hx hb dX6_waysBeside_0 (by decide) ?_
  refine lv_istore (lv' := [(4, .int 0), (0, .int za0), (1, .int za1), (2, .ref (gB E + za2)), (3, .int za3)]) hx hb dX6_waysBeside_1 hl (by decide) rfl (fun ls hl => ?_)
  refine lv_iconst (v := 0) hx hb dX6_waysBeside_3 (by decide) ?_
  refine lv_istore (lv' := [(5, .int 0), (4, .int 0), (0, .int za0), (1, .int za1), (2, .ref (gB E + za2)), (3, .int za3)]) hx hb dX6_waysBeside_4 hl (by decide) rfl (fun ls hl => ?_)
  exact L_6 N za0 za1 za2 za3 0 0 _ _ _ ls hf hw (lv_sub hl [2, 3, 4, 5, 1, 0] rfl)
abbrev rm_X6_waysInAll : Room := { frames := 3, cells := 0, slots := 0, locals := 71 }
set_option maxHeartbeats 4000000 in
set_option maxRecDepth 100000 in
theorem c_X6_waysInAll (l : Launch) (E : gE) (N : Nat) (za0 : Nat) (za1 : Nat) (za2 : Int32) (zh : PH) {h9 : PH} {r9 : Int32} (hf : f_X6_waysInAll N za0 za1 za2 zh = some (r9, h9)) : Met l yX6_waysInAll (gWS yX6_waysInAll cX6_waysInAll 3 (some .int)) rm_X6_waysInAll (gPc E [.ref (gB E + za0), .ref (gB E + za1), .int za2] zh) (gQi E r9 h9) 0 0 (gA E) := by
  refine gx_met (by decide) ?_ rfl
  intro p e s m below meth c X hr hlk hin2 hw
  have hx := X.1.1
  have hb := X.1.2.1
  have hl := lv_entry [.ref (gB E + za0), .ref (gB E + za1), .int za2] (n := 3) (Nat.le_of_ble_eq_true rfl)
  rw [lg_entry_eq]
  generalize (lg_sl [.ref (gB E + za0), .ref (gB E + za1), .int za2] ++ List.replicate (3 - (lg_sl [.ref (gB E + za0), .ref (gB E + za1), .int za2]).length) Slot.unset).toArray = ls at hl ⊢
  have hl : lv_has ls 3 [(0, .ref (gB E + za0)), (1, .ref (gB E + za1)), (2, .int za2)] := hl
  unfold f_X6_waysInAll at hf
  refine lv_iconst (v := 0) hx hb dX6_waysInAll_0 (by decide) ?_
  refine lv_aload_n hx hb dX6_waysInAll_1 rfl (lv_at hl 0 rfl) ?_
  refine lv_aload_n hx hb dX6_waysInAll_2 rfl (lv_at hl 1 rfl) ?_
  refine lv_iload_n hx hb dX6_waysInAll_3 rfl (lv_at hl 2 rfl) ?_
  refine lv_iconst (v := (-1)) hx hb dX6_waysInAll_4 (by decide) ?_
  obtain ⟨qizh1, hf⟩ := gg_el hf
  obtain ⟨zt2, zh1, qzh1, hf⟩ := gc_el hf
  refine gx_ki (gx_runV (As := [.ref (gB E + za1), .int za2, .int (-1)]) (rest := [.int 0]) X hw (c_X6_fillRow l E N za0 za1 za2 (-1) zh qzh1) kX6_fillRow mm_X6_18 qizh1 clX6 ⟨Nat.le_of_ble_eq_true rfl, Nat.le_of_ble_eq_true rfl⟩ rfl rfl rfl hl.1 (Nat.le_of_ble_eq_true rfl) rfl dX6_waysInAll_5 ⟨Nat.le_of_ble_eq_true rfl, Nat.le_of_ble_eq_true rfl⟩) hw (fun H locs hw => ?_)
  refine lv_aload_n hx hb dX6_waysInAll_8 rfl (lv_at hl 1 rfl) ?_
  refine lv_iload_n hx hb dX6_waysInAll_9 rfl (lv_at hl 2 rfl) ?_
  obtain ⟨zt4, zh3, qzh3, hf⟩ := gc_el hf
  refine gx_ki (gx_runS (As := [.int 0, .int zt2, .ref (gB E + za1), .int za2]) (rest := []) X hw (c_X6_waysBeside l E N 0 zt2 za1 za2 zh1 qzh3) kX6_waysBeside mm_X6_22 ⟨Nat.le_of_ble_eq_true rfl, Nat.le_of_ble_eq_true rfl⟩ rfl rfl rfl hl.1 (Nat.le_of_ble_eq_true rfl) rfl dX6_waysInAll_10 ⟨Nat.le_of_ble_eq_true rfl, Nat.le_of_ble_eq_true rfl⟩) hw (fun H locs hw => ?_)
  refine W.eq (g2 := F0 m 13 ls [.int zt4]) rfl ?_
  exact gx_iret X hr hlk hw hf dX6_waysInAll_13
abbrev rm_X6_onlyRoomOf : Room := { frames := 3, cells := 0, slots := 0, locals := 71 }
set_option maxHeartbeats 4000000 in
set_option maxRecDepth 100000 in
theorem c_X6_onlyRoomOf (l : Launch) (E : gE) (N : Nat) (za0 : Nat) (za1 : Int32) (za2 : Nat) (za3 : Int32) (zh : PH) {h9 : PH} {r9 : Int32} (hf : f_X6_onlyRoomOf N za0 za1 za2 za3 zh = some (r9, h9)) : Met l yX6_onlyRoomOf (gWS yX6_onlyRoomOf cX6_onlyRoomOf 7 (some .int)) rm_X6_onlyRoomOf (gPc E [.ref (gB E + za0), .int za1, .ref (gB E + za2), .int za3] zh) (gQi E r9 h9) 0 0 (gA E) := by
  refine gx_met (by decide) ?_ rfl
  intro p e s m below meth c X hr hlk hin2 hw
  have hx := X.1.1
  have hb := X.1.2.1
  have hl := lv_entry [.ref (gB E + za0), .int za1, .ref (gB E + za2), .int za3] (n := 7) (Nat.le_of_ble_eq_true rfl)
  rw [lg_entry_eq]
  generalize (lg_sl [.ref (gB E + za0), .int za1, .ref (gB E + za2), .int za3] ++ List.replicate (7 - (lg_sl [.ref (gB E + za0), .int za1, .ref (gB E + za2), .int za3]).length) Slot.unset).toArray = ls at hl ⊢
  have hl : lv_has ls 7 [(0, .ref (gB E + za0)), (1, .int za1), (2, .ref (gB E + za2)), (3, .int za3)] := hl
  have L_15 : ∀ (zn15 : Nat) (zv0 : Nat) (zv1 : Int32) (zv2 : Nat) (zv3 : Int32) (zv4 : Int32) (zv5 : Int32) (zv6 : Int32) (zh : PH) (H : Heap) (locs : List Loc) (ls : Array Slot), gi (fun zk zs => f_X6_onlyRoomOf_15 N zk zs.1 zs.2.1 zs.2.2.1 zs.2.2.2.1 zs.2.2.2.2.1 zs.2.2.2.2.2.1 zs.2.2.2.2.2.2.1 zs.2.2.2.2.2.2.2) zn15 (zv0, zv1, zv2, zv3, zv4, zv5, zv6, zh) = some (r9, h9) → gw E s zh H locs → lv_has ls 7 [(0, .ref (gB E + zv0)), (1, .int zv1), (2, .ref (gB E + zv2)), (3, .int zv3), (4, .int zv4), (5, .int zv5), (6, .int zv6)] → W p l e rm_X6_onlyRoomOf s m [.ref (gB E + za0), .int za1, .ref (gB E + za2), .int za3].toArray below meth c H locs 0 0 (MQ below (gQi E r9 h9) [.ref (gB E + za0), .int za1, .ref (gB E + za2), .int za3].toArray s 0 0 (gA E)) (F0 m 15 ls []) := by
    intro zn15
    induction zn15 with
    | zero =>
      intro zv0 zv1 zv2 zv3 zv4 zv5 zv6 zh H locs ls hf
      cases hf
    | succ zn15 ih_15 =>
      have J_62 : ∀ (zv0 : Nat) (zv1 : Int32) (zv2 : Nat) (zv3 : Int32) (zv4 : Int32) (zv5 : Int32) (zv6 : Int32) (zh : PH) (H : Heap) (locs : List Loc) (ls : Array Slot), f_X6_onlyRoomOf_62 N (gi (fun zk zs => f_X6_onlyRoomOf_15 N zk zs.1 zs.2.1 zs.2.2.1 zs.2.2.2.1 zs.2.2.2.2.1 zs.2.2.2.2.2.1 zs.2.2.2.2.2.2.1 zs.2.2.2.2.2.2.2) zn15) zv0 zv1 zv2 zv3 zv4 zv5 zv6 zh = some (r9, h9) → gw E s zh H locs → lv_has ls 7 [(0, .ref (gB E + zv0)), (1, .int zv1), (2, .ref (gB E + zv2)), (3, .int zv3), (4, .int zv4), (5, .int zv5), (6, .int zv6)] → W p l e rm_X6_onlyRoomOf s m [.ref (gB E + za0), .int za1, .ref (gB E + za2), .int za3].toArray below meth c H locs 0 0 (MQ below (gQi E r9 h9) [.ref (gB E + za0), .int za1, .ref (gB E + za2), .int za3].toArray s 0 0 (gA E)) (F0 m 62 ls []) := by
        intro zv0 zv1 zv2 zv3 zv4 zv5 zv6 zh H locs ls hf hw hl
        unfold f_X6_onlyRoomOf_62 at hf
        obtain ⟨zx1, ezx1⟩ : ∃ y : Int32, y = zv6 + 1 := ⟨_, rfl⟩
        have hf := gl_el hf ezx1
        refine lv_iinc (v := zx1) (lv' := [(6, .int zx1), (0, .ref (gB E + zv0)), (1, .int zv1), (2, .ref (gB E + zv2)), (3, .int zv3), (4, .int zv4), (5, .int zv5)]) hx hb dX6_onlyRoomOf_62 hl (k := 6) rfl (by rw [ezx1]; rfl) (by decide) rfl (fun ls hl => ?_)
        refine lv_goto (tgt := 15) hx hb dX6_onlyRoomOf_65 (by decide) ?_
        exact ih_15 zv0 zv1 zv2 zv3 zv4 zv5 zx1 _ _ _ ls hf hw (lv_sub hl [1, 2, 3, 4, 5, 6, 0] rfl)
      intro zv0 zv1 zv2 zv3 zv4 zv5 zv6 zh H locs ls hf hw hl
      have hf := gi_s hf
      dsimp only at hf
      unfold f_X6_onlyRoomOf_15 at hf
      refine lv_iload hx hb dX6_onlyRoomOf_15 (lv_at hl 6 rfl) ?_
      refine lv_iload_n hx hb dX6_onlyRoomOf_17 rfl (lv_at hl 3 rfl) ?_
      refine lv_icmp_ge (tgt := 68) hx hb dX6_onlyRoomOf_18 (by decide) (fun qc1 => ?_) (fun qc1 => ?_)
      · have hf := gif_t hf qc1
        refine lv_iload hx hb dX6_onlyRoomOf_68 (lv_at hl 4 rfl) ?_
        exact gx_iret X hr hlk hw hf dX6_onlyRoomOf_70
      · have hf := gif_f hf qc1
        refine lv_aload_n hx hb dX6_onlyRoomOf_21 rfl (lv_at hl 0 rfl) ?_
        obtain ⟨zt2, qzt2, hf⟩ := gb_el hf
        refine gx_getR X hw qzt2 clX6 (by decide) mf_X6_9 dX6_onlyRoomOf_22 ?_
        refine lv_iload_n hx hb dX6_onlyRoomOf_25 rfl (lv_at hl 1 rfl) ?_
        obtain ⟨zt3, qzt3, hf⟩ := gb_el hf
        refine gx_iald X hw qzt3 dX6_onlyRoomOf_26 ?_
        refine lv_iload hx hb dX6_onlyRoomOf_27 (lv_at hl 6 rfl) ?_
        obtain ⟨zt5, zh4, qzh4, hf⟩ := gc_el hf
        refine gx_ki (gx_runSN (As := [.int zt3, .int zv6]) (rest := []) X hw (c_X11_bitOf l E N zt3 zv6 zh qzh4) kX11_bitOf mn_X6_26 ⟨Nat.le_of_ble_eq_true rfl, Nat.le_of_ble_eq_true rfl⟩ rfl rfl rfl hl.1 (Nat.le_of_ble_eq_true rfl) rfl dX6_onlyRoomOf_29 ⟨Nat.le_of_ble_eq_true rfl, Nat.le_of_ble_eq_true rfl⟩) hw (fun H locs hw => ?_)
        refine W.eq (g2 := F0 m 32 ls [.int zt5]) rfl ?_
        refine lv_iconst (v := 1) hx hb dX6_onlyRoomOf_32 (by decide) ?_
        refine lv_icmp_ne (tgt := 62) hx hb dX6_onlyRoomOf_33 (by decide) (fun qc6 => ?_) (fun qc6 => ?_)
        · have hf := gif_f hf qc6
          exact J_62 zv0 zv1 zv2 zv3 zv4 zv5 zv6 _ _ _ ls hf hw (lv_sub hl [0, 1, 2, 3, 4, 5, 6] rfl)
        · have hf := gif_t hf qc6
          refine lv_iconst (v := 1) hx hb dX6_onlyRoomOf_36 (by decide) ?_
          refine lv_iload hx hb dX6_onlyRoomOf_37 (lv_at hl 6 rfl) ?_
          refine lv_ishl hx hb dX6_onlyRoomOf_39 ?_
          refine lv_iload hx hb dX6_onlyRoomOf_40 (lv_at hl 5 rfl) ?_
          refine lv_aload_n hx hb dX6_onlyRoomOf_42 rfl (lv_at hl 2 rfl) ?_
          refine lv_iload_n hx hb dX6_onlyRoomOf_43 rfl (lv_at hl 3 rfl) ?_
          obtain ⟨zt8, zh7, qzh7, hf⟩ := gc_el hf
          refine gx_ki (gx_runS (As := [.int (1 <<< (zv6 &&& 31)), .int zv5, .ref (gB E + zv2), .int zv3]) (rest := []) X hw (c_X6_waysBeside l E N (1 <<< (zv6 &&& 31)) zv5 zv2 zv3 zh4 qzh7) kX6_waysBeside mm_X6_22 ⟨Nat.le_of_ble_eq_true rfl, Nat.le_of_ble_eq_true rfl⟩ rfl rfl rfl hl.1 (Nat.le_of_ble_eq_true rfl) rfl dX6_onlyRoomOf_44 ⟨Nat.le_of_ble_eq_true rfl, Nat.le_of_ble_eq_true rfl⟩) hw (fun H locs hw => ?_)
          refine lv_if_le (tgt := 62) hx hb dX6_onlyRoomOf_47 (by decide) (fun qc9 => ?_) (fun qc9 => ?_)
          · have hf := gif_t hf qc9
            exact J_62 zv0 zv1 zv2 zv3 zv4 zv5 zv6 _ _ _ ls hf hw (lv_sub hl [0, 1, 2, 3, 4, 5, 6] rfl)
          · have hf := gif_f hf qc9
            refine W.eq (g2 := F0 m 50 ls []) rfl ?_
            refine lv_iload hx hb dX6_onlyRoomOf_50 (lv_at hl 4 rfl) ?_
            refine lv_iconst (v := (-1)) hx hb dX6_onlyRoomOf_52 (by decide) ?_
            refine lv_icmp_eq (tgt := 58) hx hb dX6_onlyRoomOf_53 (by decide) (fun qc10 => ?_) (fun qc10 => ?_)
            · have hf := gif_t hf qc10
              refine lv_iload hx hb dX6_onlyRoomOf_58 (lv_at hl 6 rfl) ?_
              refine lv_istore (lv' := [(4, .int zv6), (0, .ref (gB E + zv0)), (1, .int zv1), (2, .ref (gB E + zv2)), (3, .int zv3), (5, .int zv5), (6, .int zv6)]) hx hb dX6_onlyRoomOf_60 hl (by decide) rfl (fun ls hl => ?_)
              exact J_62 zv0 zv1 zv2 zv3 zv6 zv5 zv6 _ _ _ ls hf hw (lv_sub hl [1, 2, 3, 4, 0, 5, 6] rfl)
            · have hf := gif_f hf qc10
              refine lv_iconst (v := (-1)) hx hb dX6_onlyRoomOf_56 (by decide) ?_
              exact gx_iret X hr hlk hw hf dX6_onlyRoomOf_57
  unfold f_X6_onlyRoomOf at hf
  refine lv_iconst (v := (-1)) hx hb dX6_onlyRoomOf_0 (by decide) ?_
  refine lv_istore (lv' := [(4, .int (-1)), (0, .ref (gB E + za0)), (1, .int za1), (2, .ref (gB E + za2)), (3, .int za3)]) hx hb dX6_onlyRoomOf_1 hl (by decide) rfl (fun ls hl => ?_)
  refine lv_aload_n hx hb dX6_onlyRoomOf_3 rfl (lv_at hl 1 rfl) ?_
  refine lv_aload_n hx hb dX6_onlyRoomOf_4 rfl (lv_at hl 3 rfl) ?_
  refine lv_iload_n hx hb dX6_onlyRoomOf_5 rfl (lv_at hl 4 rfl) ?_
  refine lv_iload_n hx hb dX6_onlyRoomOf_6 rfl (lv_at hl 2 rfl) ?_
  obtain ⟨qizh1, hf⟩ := gg_el hf
  obtain ⟨zt2, zh1, qzh1, hf⟩ := gc_el hf
  refine gx_ki (gx_runV (As := [.ref (gB E + za2), .int za3, .int za1]) (rest := []) X hw (c_X6_fillRow l E N za0 za2 za3 za1 zh qzh1) kX6_fillRow mm_X6_18 qizh1 clX6 ⟨Nat.le_of_ble_eq_true rfl, Nat.le_of_ble_eq_true rfl⟩ rfl rfl rfl hl.1 (Nat.le_of_ble_eq_true rfl) rfl dX6_onlyRoomOf_7 ⟨Nat.le_of_ble_eq_true rfl, Nat.le_of_ble_eq_true rfl⟩) hw (fun H locs hw => ?_)
  refine lv_istore (lv' := [(5, .int zt2), (4, .int (-1)), (0, .ref (gB E + za0)), (1, .int za1), (2, .ref (gB E + za2)), (3, .int za3)]) hx hb dX6_onlyRoomOf_10 hl (by decide) rfl (fun ls hl => ?_)
  refine lv_iconst (v := 0) hx hb dX6_onlyRoomOf_12 (by decide) ?_
  refine W.eq (g2 := F0 m 13 ls [.int 0]) rfl ?_
  refine lv_istore (lv' := [(6, .int 0), (5, .int zt2), (4, .int (-1)), (0, .ref (gB E + za0)), (1, .int za1), (2, .ref (gB E + za2)), (3, .int za3)]) hx hb dX6_onlyRoomOf_13 hl (by decide) rfl (fun ls hl => ?_)
  exact L_15 N za0 za1 za2 za3 (-1) zt2 0 _ _ _ ls hf hw (lv_sub hl [3, 4, 5, 6, 2, 1, 0] rfl)
abbrev rm_X7_init : Room := { frames := 1, cells := 2, slots := 40, locals := 20 }
set_option maxHeartbeats 4000000 in
set_option maxRecDepth 100000 in
theorem c_X7_init (l : Launch) (E : gE) (N : Nat) (za0 : Nat) (zh : PH) {h9 : PH} (hf : f_X7_init N za0 zh = some h9) : Met l yX7_init (gWS yX7_init cX7_init 1 none) rm_X7_init (gPc E [.ref (gB E + za0)] zh) (gQv E h9) 2 40 (gA E) := by
  refine gx_met (by decide) ?_ rfl
  intro p e s m below meth c X hr hlk hin2 hw
  have hx := X.1.1
  have hb := X.1.2.1
  have hl := lv_entry [.ref (gB E + za0)] (n := 1) (Nat.le_of_ble_eq_true rfl)
  rw [lg_entry_eq]
  generalize (lg_sl [.ref (gB E + za0)] ++ List.replicate (1 - (lg_sl [.ref (gB E + za0)]).length) Slot.unset).toArray = ls at hl ⊢
  have hl : lv_has ls 1 [(0, .ref (gB E + za0))] := hl
  unfold f_X7_init at hf
  refine lv_aload_n hx hb dX7_init_0 rfl (lv_at hl 0 rfl) ?_
  refine gx_oinit X mm_X7_1 mo_inst mo_code hl.1 dX7_init_1 (Nat.le_of_ble_eq_true rfl) (Nat.le_of_ble_eq_true rfl) ?_
  refine lv_aload_n hx hb dX7_init_4 rfl (lv_at hl 0 rfl) ?_
  refine lv_bipush (v := 32) hx hb dX7_init_5 (by decide) ?_
  obtain ⟨zr2, zh1, qzh1, hf⟩ := gc_el hf
  refine gx_newa0 X hw qzh1 ma_int (by decide) (by decide) (by decide) (Nat.le_of_ble_eq_true rfl) (Nat.le_of_ble_eq_true rfl) dX7_init_7 (fun H hw => ?_)
  obtain ⟨zh3, qzh3, hf⟩ := gb_el hf
  refine gx_putFV X hw qzh3 clX7 (by decide) mf_X7_9 rfl (hin2 rfl) rfl rfl rfl dX7_init_9 (fun H locs hw => ?_)
  refine lv_aload_n hx hb dX7_init_12 rfl (lv_at hl 0 rfl) ?_
  refine lv_bipush (v := 8) hx hb dX7_init_13 (by decide) ?_
  obtain ⟨zr5, zh4, qzh4, hf⟩ := gc_el hf
  refine gx_newa0 X hw qzh4 ma_int (by decide) (by decide) (by decide) (Nat.le_of_ble_eq_true rfl) (Nat.le_of_ble_eq_true rfl) dX7_init_15 (fun H hw => ?_)
  refine W.eq (g2 := F0 m 17 ls [.ref (gB E + zr5), .ref (gB E + za0)]) rfl ?_
  obtain ⟨zh6, qzh6, hf⟩ := gb_el hf
  refine gx_putFV X hw qzh6 clX7 (by decide) mf_X7_15 rfl (hin2 rfl) rfl rfl rfl dX7_init_17 (fun H locs hw => ?_)
  exact gx_vret X hr hlk hw hf dX7_init_20
abbrev rm_X8_init : Room := { frames := 1, cells := 5, slots := 90, locals := 20 }
set_option maxHeartbeats 4000000 in
set_option maxRecDepth 100000 in
theorem c_X8_init (l : Launch) (E : gE) (N : Nat) (za0 : Nat) (zh : PH) {h9 : PH} (hf : f_X8_init N za0 zh = some h9) : Met l yX8_init (gWS yX8_init cX8_init 1 none) rm_X8_init (gPc E [.ref (gB E + za0)] zh) (gQv E h9) 5 90 (gA E) := by
  refine gx_met (by decide) ?_ rfl
  intro p e s m below meth c X hr hlk hin2 hw
  have hx := X.1.1
  have hb := X.1.2.1
  have hl := lv_entry [.ref (gB E + za0)] (n := 1) (Nat.le_of_ble_eq_true rfl)
  rw [lg_entry_eq]
  generalize (lg_sl [.ref (gB E + za0)] ++ List.replicate (1 - (lg_sl [.ref (gB E + za0)]).length) Slot.unset).toArray = ls at hl ⊢
  have hl : lv_has ls 1 [(0, .ref (gB E + za0))] := hl
  unfold f_X8_init at hf
  refine lv_aload_n hx hb dX8_init_0 rfl (lv_at hl 0 rfl) ?_
  refine gx_oinit X mm_X8_3 mo_inst mo_code hl.1 dX8_init_1 (Nat.le_of_ble_eq_true rfl) (Nat.le_of_ble_eq_true rfl) ?_
  refine lv_aload_n hx hb dX8_init_4 rfl (lv_at hl 0 rfl) ?_
  refine lv_bipush (v := 20) hx hb dX8_init_5 (by decide) ?_
  obtain ⟨zr2, zh1, qzh1, hf⟩ := gc_el hf
  refine gx_newa0 X hw qzh1 ma_int (by decide) (by decide) (by decide) (Nat.le_of_ble_eq_true rfl) (Nat.le_of_ble_eq_true rfl) dX8_init_7 (fun H hw => ?_)
  obtain ⟨zh3, qzh3, hf⟩ := gb_el hf
  refine gx_putFV X hw qzh3 clX8 (by decide) mf_X8_9 rfl (hin2 rfl) rfl rfl rfl dX8_init_9 (fun H locs hw => ?_)
  refine lv_aload_n hx hb dX8_init_12 rfl (lv_at hl 0 rfl) ?_
  refine lv_bipush (v := 20) hx hb dX8_init_13 (by decide) ?_
  obtain ⟨zr5, zh4, qzh4, hf⟩ := gc_el hf
  refine gx_newa0 X hw qzh4 ma_int (by decide) (by decide) (by decide) (Nat.le_of_ble_eq_true rfl) (Nat.le_of_ble_eq_true rfl) dX8_init_15 (fun H hw => ?_)
  refine W.eq (g2 := F0 m 17 ls [.ref (gB E + zr5), .ref (gB E + za0)]) rfl ?_
  obtain ⟨zh6, qzh6, hf⟩ := gb_el hf
  refine gx_putFV X hw qzh6 clX8 (by decide) mf_X8_15 rfl (hin2 rfl) rfl rfl rfl dX8_init_17 (fun H locs hw => ?_)
  refine lv_aload_n hx hb dX8_init_20 rfl (lv_at hl 0 rfl) ?_
  refine lv_bipush (v := 20) hx hb dX8_init_21 (by decide) ?_
  obtain ⟨zr8, zh7, qzh7, hf⟩ := gc_el hf
  refine gx_newa0 X hw qzh7 ma_int (by decide) (by decide) (by decide) (Nat.le_of_ble_eq_true rfl) (Nat.le_of_ble_eq_true rfl) dX8_init_23 (fun H hw => ?_)
  obtain ⟨zh9, qzh9, hf⟩ := gb_el hf
  refine gx_putFV X hw qzh9 clX8 (by decide) mf_X8_18 rfl (hin2 rfl) rfl rfl rfl dX8_init_25 (fun H locs hw => ?_)
  refine lv_aload_n hx hb dX8_init_28 rfl (lv_at hl 0 rfl) ?_
  refine lv_bipush (v := 20) hx hb dX8_init_29 (by decide) ?_
  obtain ⟨zr11, zh10, qzh10, hf⟩ := gc_el hf
  refine gx_newa0 X hw qzh10 ma_int (by decide) (by decide) (by decide) (Nat.le_of_ble_eq_true rfl) (Nat.le_of_ble_eq_true rfl) dX8_init_31 (fun H hw => ?_)
  obtain ⟨zh12, qzh12, hf⟩ := gb_el hf
  refine gx_putFV X hw qzh12 clX8 (by decide) mf_X8_21 rfl (hin2 rfl) rfl rfl rfl dX8_init_33 (fun H locs hw => ?_)
  refine lv_aload_n hx hb dX8_init_36 rfl (lv_at hl 0 rfl) ?_
  refine W.eq (g2 := F0 m 37 ls [.ref (gB E + za0)]) rfl ?_
  refine lv_bipush (v := 10) hx hb dX8_init_37 (by decide) ?_
  obtain ⟨zr14, zh13, qzh13, hf⟩ := gc_el hf
  refine gx_newa0 X hw qzh13 ma_int (by decide) (by decide) (by decide) (Nat.le_of_ble_eq_true rfl) (Nat.le_of_ble_eq_true rfl) dX8_init_39 (fun H hw => ?_)
  obtain ⟨zh15, qzh15, hf⟩ := gb_el hf
  refine gx_putFV X hw qzh15 clX8 (by decide) mf_X8_24 rfl (hin2 rfl) rfl rfl rfl dX8_init_41 (fun H locs hw => ?_)
  exact gx_vret X hr hlk hw hf dX8_init_44
abbrev rm_X8_copyFrom : Room := { frames := 1, cells := 0, slots := 0, locals := 64 }
set_option maxHeartbeats 4000000 in
set_option maxRecDepth 100000 in
theorem c_X8_copyFrom (l : Launch) (E : gE) (N : Nat) (za0 : Nat) (za1 : Nat) (zh : PH) {h9 : PH} (hf : f_X8_copyFrom N za0 za1 zh = some h9) : Met l yX8_copyFrom (gWS yX8_copyFrom cX8_copyFrom 2 none) rm_X8_copyFrom (gPc E [.ref (gB E + za0), .ref (gB E + za1)] zh) (gQv E h9) 0 0 (gA E) := by
  refine gx_met (by decide) ?_ rfl
  intro p e s m below meth c X hr hlk hin2 hw
  have hx := X.1.1
  have hb := X.1.2.1
  have hl := lv_entry [.ref (gB E + za0), .ref (gB E + za1)] (n := 2) (Nat.le_of_ble_eq_true rfl)
  rw [lg_entry_eq]
  generalize (lg_sl [.ref (gB E + za0), .ref (gB E + za1)] ++ List.replicate (2 - (lg_sl [.ref (gB E + za0), .ref (gB E + za1)]).length) Slot.unset).toArray = ls at hl ⊢
  have hl : lv_has ls 2 [(0, .ref (gB E + za0)), (1, .ref (gB E + za1))] := hl
  unfold f_X8_copyFrom at hf
  refine lv_aload_n hx hb dX8_copyFrom_0 rfl (lv_at hl 1 rfl) ?_
  obtain ⟨zt1, qzt1, hf⟩ := gb_el hf
  refine gx_getR X hw qzt1 clX8 (by decide) mf_X8_9 dX8_copyFrom_1 ?_
  refine lv_iconst (v := 0) hx hb dX8_copyFrom_4 (by decide) ?_
  refine lv_aload_n hx hb dX8_copyFrom_5 rfl (lv_at hl 0 rfl) ?_
  obtain ⟨zt2, qzt2, hf⟩ := gb_el hf
  refine gx_getR X hw qzt2 clX8 (by decide) mf_X8_9 dX8_copyFrom_6 ?_
  refine lv_iconst (v := 0) hx hb dX8_copyFrom_9 (by decide) ?_
  refine lv_bipush (v := 20) hx hb dX8_copyFrom_10 (by decide) ?_
  obtain ⟨zh3, qzh3, hf⟩ := gb_el hf
  refine gx_cpI X hw qzh3 mm_X8_27 ac_n ac_s mI_java_lang_System hl.1 (Nat.le_of_ble_eq_true rfl) (Nat.le_of_ble_eq_true rfl) dX8_copyFrom_12 (fun H locs hw => ?_)
  refine lv_aload_n hx hb dX8_copyFrom_15 rfl (lv_at hl 1 rfl) ?_
  refine W.eq (g2 := F0 m 16 ls [.ref (gB E + za1)]) rfl ?_
  obtain ⟨zt4, qzt4, hf⟩ := gb_el hf
  refine gx_getR X hw qzt4 clX8 (by decide) mf_X8_15 dX8_copyFrom_16 ?_
  refine lv_iconst (v := 0) hx hb dX8_copyFrom_19 (by decide) ?_
  refine lv_aload_n hx hb dX8_copyFrom_20 rfl (lv_at hl 0 rfl) ?_
  obtain ⟨zt5, qzt5, hf⟩ := gb_el hf
  refine gx_getR X hw qzt5 clX8 (by decide) mf_X8_15 dX8_copyFrom_21 ?_
  refine lv_iconst (v := 0) hx hb dX8_copyFrom_24 (by decide) ?_
  refine lv_bipush (v := 20) hx hb dX8_copyFrom_25 (by decide) ?_
  obtain ⟨zh6, qzh6, hf⟩ := gb_el hf
  refine gx_cpI X hw qzh6 mm_X8_27 ac_n ac_s mI_java_lang_System hl.1 (Nat.le_of_ble_eq_true rfl) (Nat.le_of_ble_eq_true rfl) dX8_copyFrom_27 (fun H locs hw => ?_)
  refine lv_aload_n hx hb dX8_copyFrom_30 rfl (lv_at hl 1 rfl) ?_
  obtain ⟨zt7, qzt7, hf⟩ := gb_el hf
  refine gx_getR X hw qzt7 clX8 (by decide) mf_X8_18 dX8_copyFrom_31 ?_
  refine lv_iconst (v := 0) hx hb dX8_copyFrom_34 (by decide) ?_
  refine W.eq (g2 := F0 m 35 ls [.int 0, .ref (gB E + zt7)]) rfl ?_
  refine lv_aload_n hx hb dX8_copyFrom_35 rfl (lv_at hl 0 rfl) ?_
  obtain ⟨zt8, qzt8, hf⟩ := gb_el hf
  refine gx_getR X hw qzt8 clX8 (by decide) mf_X8_18 dX8_copyFrom_36 ?_
  refine lv_iconst (v := 0) hx hb dX8_copyFrom_39 (by decide) ?_
  refine lv_bipush (v := 20) hx hb dX8_copyFrom_40 (by decide) ?_
  obtain ⟨zh9, qzh9, hf⟩ := gb_el hf
  refine gx_cpI X hw qzh9 mm_X8_27 ac_n ac_s mI_java_lang_System hl.1 (Nat.le_of_ble_eq_true rfl) (Nat.le_of_ble_eq_true rfl) dX8_copyFrom_42 (fun H locs hw => ?_)
  refine lv_aload_n hx hb dX8_copyFrom_45 rfl (lv_at hl 0 rfl) ?_
  refine lv_aload_n hx hb dX8_copyFrom_46 rfl (lv_at hl 1 rfl) ?_
  obtain ⟨zt10, qzt10, hf⟩ := gb_el hf
  refine gx_getI X hw qzt10 clX8 (by decide) mf_X8_33 dX8_copyFrom_47 ?_
  obtain ⟨zh11, qzh11, hf⟩ := gb_el hf
  refine gx_putV X hw qzh11 clX8 (by decide) mf_X8_33 rfl rfl rfl dX8_copyFrom_50 (fun H locs hw => ?_)
  exact gx_vret X hr hlk hw hf dX8_copyFrom_53
abbrev rm_X8_add : Room := { frames := 0, cells := 0, slots := 0, locals := 0 }
set_option maxHeartbeats 4000000 in
set_option maxRecDepth 100000 in
theorem c_X8_add (l : Launch) (E : gE) (N : Nat) (za0 : Nat) (za1 : Int32) (za2 : Int32) (za3 : Int32) (zh : PH) {h9 : PH} {r9 : Int32} (hf : f_X8_add N za0 za1 za2 za3 zh = some (r9, h9)) : Met l yX8_add (gWS yX8_add cX8_add 5 (some .boolean)) rm_X8_add (gPc E [.ref (gB E + za0), .int za1, .int za2, .int za3] zh) (gQi E r9 h9) 0 0 (gA E) := by
  refine gx_met (by decide) ?_ rfl
  intro p e s m below meth c X hr hlk hin2 hw
  have hx := X.1.1
  have hb := X.1.2.1
  have hl := lv_entry [.ref (gB E + za0), .int za1, .int za2, .int za3] (n := 5) (Nat.le_of_ble_eq_true rfl)
  rw [lg_entry_eq]
  generalize (lg_sl [.ref (gB E + za0), .int za1, .int za2, .int za3] ++ List.replicate (5 - (lg_sl [.ref (gB E + za0), .int za1, .int za2, .int za3]).length) Slot.unset).toArray = ls at hl ⊢
  have hl : lv_has ls 5 [(0, .ref (gB E + za0)), (1, .int za1), (2, .int za2), (3, .int za3)] := hl
  have J_89 : ∀ (zv0 : Nat) (zv1 : Int32) (zv2 : Int32) (zv3 : Int32) (zv4 : Int32) (zh : PH) (H : Heap) (locs : List Loc) (ls : Array Slot), f_X8_add_89 N zv0 zv1 zv2 zv3 zv4 zh = some (r9, h9) → gw E s zh H locs → lv_has ls 5 [(0, .ref (gB E + zv0)), (1, .int zv1), (2, .int zv2), (3, .int zv3), (4, .int zv4)] → W p l e rm_X8_add s m [.ref (gB E + za0), .int za1, .int za2, .int za3].toArray below meth c H locs 0 0 (MQ below (gQi E r9 h9) [.ref (gB E + za0), .int za1, .int za2, .int za3].toArray s 0 0 (gA E)) (F0 m 89 ls []) := by
    intro zv0 zv1 zv2 zv3 zv4 zh H locs ls hf hw hl
    unfold f_X8_add_89 at hf
    refine lv_aload_n hx hb dX8_add_89 rfl (lv_at hl 0 rfl) ?_
    obtain ⟨zt1, qzt1, hf⟩ := gb_el hf
    refine gx_getR X hw qzt1 clX8 (by decide) mf_X8_9 dX8_add_90 ?_
    refine lv_iload hx hb dX8_add_93 (lv_at hl 4 rfl) ?_
    refine lv_iload_n hx hb dX8_add_95 rfl (lv_at hl 1 rfl) ?_
    obtain ⟨zh2, qzh2, hf⟩ := gb_el hf
    refine gx_iast X hw qzh2 dX8_add_96 (fun H locs hw => ?_)
    refine lv_aload_n hx hb dX8_add_97 rfl (lv_at hl 0 rfl) ?_
    obtain ⟨zt3, qzt3, hf⟩ := gb_el hf
    refine gx_getR X hw qzt3 clX8 (by decide) mf_X8_15 dX8_add_98 ?_
    refine lv_iload hx hb dX8_add_101 (lv_at hl 4 rfl) ?_
    refine lv_iload_n hx hb dX8_add_103 rfl (lv_at hl 2 rfl) ?_
    refine W.eq (g2 := F0 m 104 ls [.int zv2, .int zv4, .ref (gB E + zt3)]) rfl ?_
    obtain ⟨zh4, qzh4, hf⟩ := gb_el hf
    refine gx_iast X hw qzh4 dX8_add_104 (fun H locs hw => ?_)
    refine lv_aload_n hx hb dX8_add_105 rfl (lv_at hl 0 rfl) ?_
    obtain ⟨zt5, qzt5, hf⟩ := gb_el hf
    refine gx_getR X hw qzt5 clX8 (by decide) mf_X8_18 dX8_add_106 ?_
    refine lv_iload hx hb dX8_add_109 (lv_at hl 4 rfl) ?_
    refine lv_iload_n hx hb dX8_add_111 rfl (lv_at hl 3 rfl) ?_
    obtain ⟨zh6, qzh6, hf⟩ := gb_el hf
    refine gx_iast X hw qzh6 dX8_add_112 (fun H locs hw => ?_)
    refine lv_aload_n hx hb dX8_add_113 rfl (lv_at hl 0 rfl) ?_
    refine lv_dup hx hb dX8_add_114 rfl ?_
    obtain ⟨zt7, qzt7, hf⟩ := gb_el hf
    refine gx_getI X hw qzt7 clX8 (by decide) mf_X8_33 dX8_add_115 ?_
    refine lv_iconst (v := 1) hx hb dX8_add_118 (by decide) ?_
    refine W.eq (g2 := F0 m 119 ls [.int 1, .int zt7, .ref (gB E + zv0)]) rfl ?_
    refine lv_iadd hx hb dX8_add_119 ?_
    obtain ⟨zh8, qzh8, hf⟩ := gb_el hf
    refine gx_putV X hw qzh8 clX8 (by decide) mf_X8_33 rfl rfl rfl dX8_add_120 (fun H locs hw => ?_)
    refine lv_iconst (v := 1) hx hb dX8_add_123 (by decide) ?_
    exact gx_zret X hr hlk hw hf dX8_add_124
  have L_17 : ∀ (zn17 : Nat) (zv0 : Nat) (zv1 : Int32) (zv2 : Int32) (zv3 : Int32) (zv4 : Int32) (zh : PH) (H : Heap) (locs : List Loc) (ls : Array Slot), gi (fun zk zs => f_X8_add_17 N zk zs.1 zs.2.1 zs.2.2.1 zs.2.2.2.1 zs.2.2.2.2.1 zs.2.2.2.2.2) zn17 (zv0, zv1, zv2, zv3, zv4, zh) = some (r9, h9) → gw E s zh H locs → lv_has ls 5 [(0, .ref (gB E + zv0)), (1, .int zv1), (2, .int zv2), (3, .int zv3), (4, .int zv4)] → W p l e rm_X8_add s m [.ref (gB E + za0), .int za1, .int za2, .int za3].toArray below meth c H locs 0 0 (MQ below (gQi E r9 h9) [.ref (gB E + za0), .int za1, .int za2, .int za3].toArray s 0 0 (gA E)) (F0 m 17 ls []) := by
    intro zn17
    induction zn17 with
    | zero =>
      intro zv0 zv1 zv2 zv3 zv4 zh H locs ls hf
      cases hf
    | succ zn17 ih_17 =>
      intro zv0 zv1 zv2 zv3 zv4 zh H locs ls hf hw hl
      have hf := gi_s hf
      dsimp only at hf
      unfold f_X8_add_17 at hf
      refine lv_iload hx hb dX8_add_17 (lv_at hl 4 rfl) ?_
      refine lv_if_le (tgt := 89) hx hb dX8_add_19 (by decide) (fun qc1 => ?_) (fun qc1 => ?_)
      · have hf := gif_t hf qc1
        exact J_89 zv0 zv1 zv2 zv3 zv4 _ _ _ ls hf hw (lv_sub hl [0, 1, 2, 3, 4] rfl)
      · have hf := gif_f hf qc1
        refine lv_aload_n hx hb dX8_add_22 rfl (lv_at hl 0 rfl) ?_
        obtain ⟨zt2, qzt2, hf⟩ := gb_el hf
        refine gx_getR X hw qzt2 clX8 (by decide) mf_X8_18 dX8_add_23 ?_
        refine lv_iload hx hb dX8_add_26 (lv_at hl 4 rfl) ?_
        refine lv_iconst (v := 1) hx hb dX8_add_28 (by decide) ?_
        refine lv_isub hx hb dX8_add_29 ?_
        obtain ⟨zt3, qzt3, hf⟩ := gb_el hf
        refine gx_iald X hw qzt3 dX8_add_30 ?_
        refine lv_iload_n hx hb dX8_add_31 rfl (lv_at hl 3 rfl) ?_
        refine W.eq (g2 := F0 m 32 ls [.int zv3, .int zt3]) rfl ?_
        refine lv_icmp_le (tgt := 89) hx hb dX8_add_32 (by decide) (fun qc4 => ?_) (fun qc4 => ?_)
        · have hf := gif_t hf qc4
          exact J_89 zv0 zv1 zv2 zv3 zv4 _ _ _ ls hf hw (lv_sub hl [0, 1, 2, 3, 4] rfl)
        · have hf := gif_f hf qc4
          refine lv_aload_n hx hb dX8_add_35 rfl (lv_at hl 0 rfl) ?_
          obtain ⟨zt5, qzt5, hf⟩ := gb_el hf
          refine gx_getR X hw qzt5 clX8 (by decide) mf_X8_9 dX8_add_36 ?_
          refine lv_iload hx hb dX8_add_39 (lv_at hl 4 rfl) ?_
          refine lv_aload_n hx hb dX8_add_41 rfl (lv_at hl 0 rfl) ?_
          obtain ⟨zt6, qzt6, hf⟩ := gb_el hf
          refine gx_getR X hw qzt6 clX8 (by decide) mf_X8_9 dX8_add_42 ?_
          refine lv_iload hx hb dX8_add_45 (lv_at hl 4 rfl) ?_
          refine lv_iconst (v := 1) hx hb dX8_add_47 (by decide) ?_
          refine lv_isub hx hb dX8_add_48 ?_
          obtain ⟨zt7, qzt7, hf⟩ := gb_el hf
          refine gx_iald X hw qzt7 dX8_add_49 ?_
          refine W.eq (g2 := F0 m 50 ls [.int zt7, .int zv4, .ref (gB E + zt5)]) rfl ?_
          obtain ⟨zh8, qzh8, hf⟩ := gb_el hf
          refine gx_iast X hw qzh8 dX8_add_50 (fun H locs hw => ?_)
          refine lv_aload_n hx hb dX8_add_51 rfl (lv_at hl 0 rfl) ?_
          obtain ⟨zt9, qzt9, hf⟩ := gb_el hf
          refine gx_getR X hw qzt9 clX8 (by decide) mf_X8_15 dX8_add_52 ?_
          refine lv_iload hx hb dX8_add_55 (lv_at hl 4 rfl) ?_
          refine lv_aload_n hx hb dX8_add_57 rfl (lv_at hl 0 rfl) ?_
          obtain ⟨zt10, qzt10, hf⟩ := gb_el hf
          refine gx_getR X hw qzt10 clX8 (by decide) mf_X8_15 dX8_add_58 ?_
          refine lv_iload hx hb dX8_add_61 (lv_at hl 4 rfl) ?_
          refine lv_iconst (v := 1) hx hb dX8_add_63 (by decide) ?_
          refine lv_isub hx hb dX8_add_64 ?_
          obtain ⟨zt11, qzt11, hf⟩ := gb_el hf
          refine gx_iald X hw qzt11 dX8_add_65 ?_
          refine W.eq (g2 := F0 m 66 ls [.int zt11, .int zv4, .ref (gB E + zt9)]) rfl ?_
          obtain ⟨zh12, qzh12, hf⟩ := gb_el hf
          refine gx_iast X hw qzh12 dX8_add_66 (fun H locs hw => ?_)
          refine lv_aload_n hx hb dX8_add_67 rfl (lv_at hl 0 rfl) ?_
          obtain ⟨zt13, qzt13, hf⟩ := gb_el hf
          refine gx_getR X hw qzt13 clX8 (by decide) mf_X8_18 dX8_add_68 ?_
          refine lv_iload hx hb dX8_add_71 (lv_at hl 4 rfl) ?_
          refine lv_aload_n hx hb dX8_add_73 rfl (lv_at hl 0 rfl) ?_
          obtain ⟨zt14, qzt14, hf⟩ := gb_el hf
          refine gx_getR X hw qzt14 clX8 (by decide) mf_X8_18 dX8_add_74 ?_
          refine lv_iload hx hb dX8_add_77 (lv_at hl 4 rfl) ?_
          refine lv_iconst (v := 1) hx hb dX8_add_79 (by decide) ?_
          refine lv_isub hx hb dX8_add_80 ?_
          obtain ⟨zt15, qzt15, hf⟩ := gb_el hf
          refine gx_iald X hw qzt15 dX8_add_81 ?_
          refine W.eq (g2 := F0 m 82 ls [.int zt15, .int zv4, .ref (gB E + zt13)]) rfl ?_
          obtain ⟨zh16, qzh16, hf⟩ := gb_el hf
          refine gx_iast X hw qzh16 dX8_add_82 (fun H locs hw => ?_)
          obtain ⟨zx17, ezx17⟩ : ∃ y : Int32, y = zv4 + (-1) := ⟨_, rfl⟩
          have hf := gl_el hf ezx17
          refine lv_iinc (v := zx17) (lv' := [(4, .int zx17), (0, .ref (gB E + zv0)), (1, .int zv1), (2, .int zv2), (3, .int zv3)]) hx hb dX8_add_83 hl (k := 4) rfl (by rw [ezx17]; rfl) (by decide) rfl (fun ls hl => ?_)
          refine lv_goto (tgt := 17) hx hb dX8_add_86 (by decide) ?_
          exact ih_17 zv0 zv1 zv2 zv3 zx17 _ _ _ ls hf hw (lv_sub hl [1, 2, 3, 4, 0] rfl)
  unfold f_X8_add at hf
  refine lv_aload_n hx hb dX8_add_0 rfl (lv_at hl 0 rfl) ?_
  obtain ⟨zt1, qzt1, hf⟩ := gb_el hf
  refine gx_getI X hw qzt1 clX8 (by decide) mf_X8_33 dX8_add_1 ?_
  refine lv_bipush (v := 20) hx hb dX8_add_4 (by decide) ?_
  refine lv_icmp_lt (tgt := 11) hx hb dX8_add_6 (by decide) (fun qc2 => ?_) (fun qc2 => ?_)
  · have hf := gif_t hf qc2
    refine lv_aload_n hx hb dX8_add_11 rfl (lv_at hl 0 rfl) ?_
    obtain ⟨zt3, qzt3, hf⟩ := gb_el hf
    refine gx_getI X hw qzt3 clX8 (by decide) mf_X8_33 dX8_add_12 ?_
    refine lv_istore (lv' := [(4, .int zt3), (0, .ref (gB E + za0)), (1, .int za1), (2, .int za2), (3, .int za3)]) hx hb dX8_add_15 hl (by decide) rfl (fun ls hl => ?_)
    exact L_17 N za0 za1 za2 za3 zt3 _ _ _ ls hf hw (lv_sub hl [1, 2, 3, 4, 0] rfl)
  · have hf := gif_f hf qc2
    refine lv_iconst (v := 0) hx hb dX8_add_9 (by decide) ?_
    exact gx_zret X hr hlk hw hf dX8_add_10
abbrev rm_X8_isInReach : Room := { frames := 3, cells := 0, slots := 0, locals := 65 }
set_option maxHeartbeats 4000000 in
set_option maxRecDepth 100000 in
theorem c_X8_isInReach (l : Launch) (E : gE) (N : Nat) (za0 : Nat) (za1 : Nat) (za2 : Int32) (za3 : Int32) (za4 : Int32) (zh : PH) {h9 : PH} {r9 : Int32} (hf : f_X8_isInReach N za0 za1 za2 za3 za4 zh = some (r9, h9)) : Met l yX8_isInReach (gWS yX8_isInReach cX8_isInReach 5 (some .boolean)) rm_X8_isInReach (gPc E [.ref (gB E + za0), .ref (gB E + za1), .int za2, .int za3, .int za4] zh) (gQi E r9 h9) 0 0 (gA E) := by
  refine gx_met (by decide) ?_ rfl
  intro p e s m below meth c X hr hlk hin2 hw
  have hx := X.1.1
  have hb := X.1.2.1
  have hl := lv_entry [.ref (gB E + za0), .ref (gB E + za1), .int za2, .int za3, .int za4] (n := 5) (Nat.le_of_ble_eq_true rfl)
  rw [lg_entry_eq]
  generalize (lg_sl [.ref (gB E + za0), .ref (gB E + za1), .int za2, .int za3, .int za4] ++ List.replicate (5 - (lg_sl [.ref (gB E + za0), .ref (gB E + za1), .int za2, .int za3, .int za4]).length) Slot.unset).toArray = ls at hl ⊢
  have hl : lv_has ls 5 [(0, .ref (gB E + za0)), (1, .ref (gB E + za1)), (2, .int za2), (3, .int za3), (4, .int za4)] := hl
  have J_31 : ∀ (zs0 : Int32) (zh : PH) (H : Heap) (locs : List Loc) (ls : Array Slot), f_X8_isInReach_31 N zs0 zh = some (r9, h9) → gw E s zh H locs → lv_has ls 5 [] → W p l e rm_X8_isInReach s m [.ref (gB E + za0), .ref (gB E + za1), .int za2, .int za3, .int za4].toArray below meth c H locs 0 0 (MQ below (gQi E r9 h9) [.ref (gB E + za0), .ref (gB E + za1), .int za2, .int za3, .int za4].toArray s 0 0 (gA E)) (F0 m 31 ls [.int zs0]) := by
    intro zs0 zh H locs ls hf hw hl
    unfold f_X8_isInReach_31 at hf
    exact gx_zret X hr hlk hw hf dX8_isInReach_31
  unfold f_X8_isInReach at hf
  refine lv_aload_n hx hb dX8_isInReach_0 rfl (lv_at hl 1 rfl) ?_
  refine lv_aload_n hx hb dX8_isInReach_1 rfl (lv_at hl 0 rfl) ?_
  obtain ⟨zt1, qzt1, hf⟩ := gb_el hf
  refine gx_getR X hw qzt1 clX8 (by decide) mf_X8_15 dX8_isInReach_2 ?_
  refine lv_iload_n hx hb dX8_isInReach_5 rfl (lv_at hl 2 rfl) ?_
  obtain ⟨zt2, qzt2, hf⟩ := gb_el hf
  refine gx_iald X hw qzt2 dX8_isInReach_6 ?_
  refine lv_iload_n hx hb dX8_isInReach_7 rfl (lv_at hl 3 rfl) ?_
  obtain ⟨qizh3, hf⟩ := gg_el hf
  obtain ⟨zt4, zh3, qzh3, hf⟩ := gc_el hf
  refine gx_ki (gx_runV (As := [.int zt2, .int za3]) (rest := []) X hw (c_X2_walkBetween l E N za1 zt2 za3 zh qzh3) kX2_walkBetween mm_X8_57 qizh3 clX2 ⟨Nat.le_of_ble_eq_true rfl, Nat.le_of_ble_eq_true rfl⟩ rfl rfl rfl hl.1 (Nat.le_of_ble_eq_true rfl) rfl dX8_isInReach_8 ⟨Nat.le_of_ble_eq_true rfl, Nat.le_of_ble_eq_true rfl⟩) hw (fun H locs hw => ?_)
  refine lv_aload_n hx hb dX8_isInReach_11 rfl (lv_at hl 0 rfl) ?_
  obtain ⟨zt5, qzt5, hf⟩ := gb_el hf
  refine gx_getR X hw qzt5 clX8 (by decide) mf_X8_18 dX8_isInReach_12 ?_
  refine W.eq (g2 := F0 m 15 ls [.ref (gB E + zt5), .int zt4]) rfl ?_
  refine lv_iload_n hx hb dX8_isInReach_15 rfl (lv_at hl 2 rfl) ?_
  obtain ⟨zt6, qzt6, hf⟩ := gb_el hf
  refine gx_iald X hw qzt6 dX8_isInReach_16 ?_
  refine lv_iload hx hb dX8_isInReach_17 (lv_at hl 4 rfl) ?_
  refine lv_isub hx hb dX8_isInReach_19 ?_
  refine gx_abs X mm_X8_60 mt_abs mI_java_lang_Math mx_abs hl.1 (Nat.le_of_ble_eq_true rfl) (Nat.le_of_ble_eq_true rfl) (Nat.le_of_ble_eq_true rfl) (Nat.le_of_ble_eq_true rfl) dX8_isInReach_20 ?_
  refine lv_icmp_gt (tgt := 30) hx hb dX8_isInReach_23 (by decide) (fun qc7 => ?_) (fun qc7 => ?_)
  · have hf := gif_t hf qc7
    refine lv_iconst (v := 0) hx hb dX8_isInReach_30 (by decide) ?_
    exact J_31 0 _ _ _ ls hf hw (lv_sub hl [] rfl)
  · have hf := gif_f hf qc7
    refine lv_iconst (v := 1) hx hb dX8_isInReach_26 (by decide) ?_
    refine lv_goto (tgt := 31) hx hb dX8_isInReach_27 (by decide) ?_
    exact J_31 1 _ _ _ ls hf hw (lv_sub hl [] rfl)
abbrev rm_X8_possibleIn : Room := { frames := 4, cells := 0, slots := 0, locals := 89 }
set_option maxHeartbeats 4000000 in
set_option maxRecDepth 100000 in
theorem c_X8_possibleIn (l : Launch) (E : gE) (N : Nat) (za0 : Nat) (za1 : Nat) (za2 : Int32) (za3 : Int32) (zh : PH) {h9 : PH} {r9 : Int32} (hf : f_X8_possibleIn N za0 za1 za2 za3 zh = some (r9, h9)) : Met l yX8_possibleIn (gWS yX8_possibleIn cX8_possibleIn 6 (some .int)) rm_X8_possibleIn (gPc E [.ref (gB E + za0), .ref (gB E + za1), .int za2, .int za3] zh) (gQi E r9 h9) 0 0 (gA E) := by
  refine gx_met (by decide) ?_ rfl
  intro p e s m below meth c X hr hlk hin2 hw
  have hx := X.1.1
  have hb := X.1.2.1
  have hl := lv_entry [.ref (gB E + za0), .ref (gB E + za1), .int za2, .int za3] (n := 6) (Nat.le_of_ble_eq_true rfl)
  rw [lg_entry_eq]
  generalize (lg_sl [.ref (gB E + za0), .ref (gB E + za1), .int za2, .int za3] ++ List.replicate (6 - (lg_sl [.ref (gB E + za0), .ref (gB E + za1), .int za2, .int za3]).length) Slot.unset).toArray = ls at hl ⊢
  have hl : lv_has ls 6 [(0, .ref (gB E + za0)), (1, .ref (gB E + za1)), (2, .int za2), (3, .int za3)] := hl
  have L_13 : ∀ (zn13 : Nat) (zv0 : Nat) (zv1 : Nat) (zv2 : Int32) (zv3 : Int32) (zv4 : Int32) (zv5 : Int32) (zh : PH) (H : Heap) (locs : List Loc) (ls : Array Slot), gi (fun zk zs => f_X8_possibleIn_13 N zk zs.1 zs.2.1 zs.2.2.1 zs.2.2.2.1 zs.2.2.2.2.1 zs.2.2.2.2.2.1 zs.2.2.2.2.2.2) zn13 (zv0, zv1, zv2, zv3, zv4, zv5, zh) = some (r9, h9) → gw E s zh H locs → lv_has ls 6 [(0, .ref (gB E + zv0)), (1, .ref (gB E + zv1)), (2, .int zv2), (3, .int zv3), (4, .int zv4), (5, .int zv5)] → W p l e rm_X8_possibleIn s m [.ref (gB E + za0), .ref (gB E + za1), .int za2, .int za3].toArray below meth c H locs 0 0 (MQ below (gQi E r9 h9) [.ref (gB E + za0), .ref (gB E + za1), .int za2, .int za3].toArray s 0 0 (gA E)) (F0 m 13 ls []) := by
    intro zn13
    induction zn13 with
    | zero =>
      intro zv0 zv1 zv2 zv3 zv4 zv5 zh H locs ls hf
      cases hf
    | succ zn13 ih_13 =>
      have J_50 : ∀ (zv0 : Nat) (zv1 : Nat) (zv2 : Int32) (zv3 : Int32) (zv4 : Int32) (zv5 : Int32) (zh : PH) (H : Heap) (locs : List Loc) (ls : Array Slot), f_X8_possibleIn_50 N (gi (fun zk zs => f_X8_possibleIn_13 N zk zs.1 zs.2.1 zs.2.2.1 zs.2.2.2.1 zs.2.2.2.2.1 zs.2.2.2.2.2.1 zs.2.2.2.2.2.2) zn13) zv0 zv1 zv2 zv3 zv4 zv5 zh = some (r9, h9) → gw E s zh H locs → lv_has ls 6 [(0, .ref (gB E + zv0)), (1, .ref (gB E + zv1)), (2, .int zv2), (3, .int zv3), (4, .int zv4), (5, .int zv5)] → W p l e rm_X8_possibleIn s m [.ref (gB E + za0), .ref (gB E + za1), .int za2, .int za3].toArray below meth c H locs 0 0 (MQ below (gQi E r9 h9) [.ref (gB E + za0), .ref (gB E + za1), .int za2, .int za3].toArray s 0 0 (gA E)) (F0 m 50 ls []) := by
        intro zv0 zv1 zv2 zv3 zv4 zv5 zh H locs ls hf hw hl
        unfold f_X8_possibleIn_50 at hf
        obtain ⟨zx1, ezx1⟩ : ∃ y : Int32, y = zv5 + 1 := ⟨_, rfl⟩
        have hf := gl_el hf ezx1
        refine lv_iinc (v := zx1) (lv' := [(5, .int zx1), (0, .ref (gB E + zv0)), (1, .ref (gB E + zv1)), (2, .int zv2), (3, .int zv3), (4, .int zv4)]) hx hb dX8_possibleIn_50 hl (k := 5) rfl (by rw [ezx1]; rfl) (by decide) rfl (fun ls hl => ?_)
        refine lv_goto (tgt := 13) hx hb dX8_possibleIn_53 (by decide) ?_
        exact ih_13 zv0 zv1 zv2 zv3 zv4 zx1 _ _ _ ls hf hw (lv_sub hl [1, 2, 3, 4, 5, 0] rfl)
      intro zv0 zv1 zv2 zv3 zv4 zv5 zh H locs ls hf hw hl
      have hf := gi_s hf
      dsimp only at hf
      unfold f_X8_possibleIn_13 at hf
      refine lv_iload hx hb dX8_possibleIn_13 (lv_at hl 5 rfl) ?_
      refine lv_aload_n hx hb dX8_possibleIn_15 rfl (lv_at hl 0 rfl) ?_
      obtain ⟨zt1, qzt1, hf⟩ := gb_el hf
      refine gx_getI X hw qzt1 clX8 (by decide) mf_X8_33 dX8_possibleIn_16 ?_
      refine lv_icmp_ge (tgt := 56) hx hb dX8_possibleIn_19 (by decide) (fun qc2 => ?_) (fun qc2 => ?_)
      · have hf := gif_t hf qc2
        refine lv_iload hx hb dX8_possibleIn_56 (lv_at hl 4 rfl) ?_
        exact gx_iret X hr hlk hw hf dX8_possibleIn_58
      · have hf := gif_f hf qc2
        refine lv_aload_n hx hb dX8_possibleIn_22 rfl (lv_at hl 0 rfl) ?_
        refine lv_aload_n hx hb dX8_possibleIn_23 rfl (lv_at hl 1 rfl) ?_
        refine lv_iload hx hb dX8_possibleIn_24 (lv_at hl 5 rfl) ?_
        refine lv_iload_n hx hb dX8_possibleIn_26 rfl (lv_at hl 2 rfl) ?_
        refine lv_iload_n hx hb dX8_possibleIn_27 rfl (lv_at hl 3 rfl) ?_
        refine W.eq (g2 := F0 m 28 ls [.int zv3, .int zv2, .int zv5, .ref (gB E + zv1), .ref (gB E + zv0)]) rfl ?_
        obtain ⟨qizh3, hf⟩ := gg_el hf
        obtain ⟨zt4, zh3, qzh3, hf⟩ := gc_el hf
        refine gx_ki (gx_runV (As := [.ref (gB E + zv1), .int zv5, .int zv2, .int zv3]) (rest := []) X hw (c_X8_isInReach l E N zv0 zv1 zv5 zv2 zv3 zh qzh3) kX8_isInReach mm_X8_41 qizh3 clX8 ⟨Nat.le_of_ble_eq_true rfl, Nat.le_of_ble_eq_true rfl⟩ rfl rfl rfl hl.1 (Nat.le_of_ble_eq_true rfl) rfl dX8_possibleIn_28 ⟨Nat.le_of_ble_eq_true rfl, Nat.le_of_ble_eq_true rfl⟩) hw (fun H locs hw => ?_)
        refine lv_if_ne (tgt := 50) hx hb dX8_possibleIn_31 (by decide) (fun qc5 => ?_) (fun qc5 => ?_)
        · have hf := gif_f hf qc5
          exact J_50 zv0 zv1 zv2 zv3 zv4 zv5 _ _ _ ls hf hw (lv_sub hl [0, 1, 2, 3, 4, 5] rfl)
        · have hf := gif_t hf qc5
          refine lv_iload hx hb dX8_possibleIn_34 (lv_at hl 4 rfl) ?_
          refine lv_iconst (v := 1) hx hb dX8_possibleIn_36 (by decide) ?_
          refine lv_aload_n hx hb dX8_possibleIn_37 rfl (lv_at hl 0 rfl) ?_
          obtain ⟨zt6, qzt6, hf⟩ := gb_el hf
          refine gx_getR X hw qzt6 clX8 (by decide) mf_X8_9 dX8_possibleIn_38 ?_
          refine lv_iload hx hb dX8_possibleIn_41 (lv_at hl 5 rfl) ?_
          obtain ⟨zt7, qzt7, hf⟩ := gb_el hf
          refine gx_iald X hw qzt7 dX8_possibleIn_43 ?_
          refine lv_ishl hx hb dX8_possibleIn_44 ?_
          refine lv_iconst (v := (-1)) hx hb dX8_possibleIn_45 (by decide) ?_
          refine W.eq (g2 := F0 m 46 ls [.int (-1), .int (1 <<< (zt7 &&& 31)), .int zv4]) rfl ?_
          refine lv_ixor hx hb dX8_possibleIn_46 ?_
          refine lv_iand hx hb dX8_possibleIn_47 ?_
          refine lv_topi (fun zx8 ezx8 => ?_)
          have hf := gl_el hf ezx8
          refine lv_istore (lv' := [(4, .int zx8), (0, .ref (gB E + zv0)), (1, .ref (gB E + zv1)), (2, .int zv2), (3, .int zv3), (5, .int zv5)]) hx hb dX8_possibleIn_48 hl (by decide) rfl (fun ls hl => ?_)
          exact J_50 zv0 zv1 zv2 zv3 zx8 zv5 _ _ _ ls hf hw (lv_sub hl [1, 2, 3, 4, 0, 5] rfl)
  unfold f_X8_possibleIn at hf
  refine lv_iconst (v := 1) hx hb dX8_possibleIn_0 (by decide) ?_
  refine lv_aload_n hx hb dX8_possibleIn_1 rfl (lv_at hl 1 rfl) ?_
  obtain ⟨zt1, qzt1, hf⟩ := gb_el hf
  refine gx_getI X hw qzt1 clX2 (by decide) mf_X8_37 dX8_possibleIn_2 ?_
  refine lv_ishl hx hb dX8_possibleIn_5 ?_
  refine lv_iconst (v := 1) hx hb dX8_possibleIn_6 (by decide) ?_
  refine lv_isub hx hb dX8_possibleIn_7 ?_
  refine lv_topi (fun zx2 ezx2 => ?_)
  have hf := gl_el hf ezx2
  refine lv_istore (lv' := [(4, .int zx2), (0, .ref (gB E + za0)), (1, .ref (gB E + za1)), (2, .int za2), (3, .int za3)]) hx hb dX8_possibleIn_8 hl (by decide) rfl (fun ls hl => ?_)
  refine lv_iconst (v := 0) hx hb dX8_possibleIn_10 (by decide) ?_
  refine lv_istore (lv' := [(5, .int 0), (4, .int zx2), (0, .ref (gB E + za0)), (1, .ref (gB E + za1)), (2, .int za2), (3, .int za3)]) hx hb dX8_possibleIn_11 hl (by decide) rfl (fun ls hl => ?_)
  exact L_13 N za0 za1 za2 za3 zx2 0 _ _ _ ls hf hw (lv_sub hl [2, 3, 4, 5, 1, 0] rfl)
abbrev rm_X8_fewestFalse : Room := { frames := 4, cells := 0, slots := 0, locals := 89 }
set_option maxHeartbeats 4000000 in
set_option maxRecDepth 100000 in
theorem c_X8_fewestFalse (l : Launch) (E : gE) (N : Nat) (za0 : Nat) (za1 : Nat) (zh : PH) {h9 : PH} {r9 : Int32} (hf : f_X8_fewestFalse N za0 za1 zh = some (r9, h9)) : Met l yX8_fewestFalse (gWS yX8_fewestFalse cX8_fewestFalse 5 (some .int)) rm_X8_fewestFalse (gPc E [.ref (gB E + za0), .ref (gB E + za1)] zh) (gQi E r9 h9) 0 0 (gA E) := by
  refine gx_met (by decide) ?_ rfl
  intro p e s m below meth c X hr hlk hin2 hw
  have hx := X.1.1
  have hb := X.1.2.1
  have hl := lv_entry [.ref (gB E + za0), .ref (gB E + za1)] (n := 5) (Nat.le_of_ble_eq_true rfl)
  rw [lg_entry_eq]
  generalize (lg_sl [.ref (gB E + za0), .ref (gB E + za1)] ++ List.replicate (5 - (lg_sl [.ref (gB E + za0), .ref (gB E + za1)]).length) Slot.unset).toArray = ls at hl ⊢
  have hl : lv_has ls 5 [(0, .ref (gB E + za0)), (1, .ref (gB E + za1))] := hl
  have L_12 : ∀ (zn12 : Nat) (zv0 : Nat) (zv1 : Nat) (zv2 : Int32) (zv3 : Int32) (zh : PH) (H : Heap) (locs : List Loc) (ls : Array Slot), gi (fun zk zs => f_X8_fewestFalse_12 N zk zs.1 zs.2.1 zs.2.2.1 zs.2.2.2.1 zs.2.2.2.2) zn12 (zv0, zv1, zv2, zv3, zh) = some (r9, h9) → gw E s zh H locs → lv_has ls 5 [(0, .ref (gB E + zv0)), (1, .ref (gB E + zv1)), (2, .int zv2), (3, .int zv3)] → W p l e rm_X8_fewestFalse s m [.ref (gB E + za0), .ref (gB E + za1)].toArray below meth c H locs 0 0 (MQ below (gQi E r9 h9) [.ref (gB E + za0), .ref (gB E + za1)].toArray s 0 0 (gA E)) (F0 m 12 ls []) := by
    intro zn12
    induction zn12 with
    | zero =>
      intro zv0 zv1 zv2 zv3 zh H locs ls hf
      cases hf
    | succ zn12 ih_12 =>
      have L_30 : ∀ (zn30 : Nat) (zv0 : Nat) (zv1 : Nat) (zv2 : Int32) (zv3 : Int32) (zv4 : Int32) (zh : PH) (H : Heap) (locs : List Loc) (ls : Array Slot), gi (fun zk zs => f_X8_fewestFalse_30 N (gi (fun zk zs => f_X8_fewestFalse_12 N zk zs.1 zs.2.1 zs.2.2.1 zs.2.2.2.1 zs.2.2.2.2) zn12) zk zs.1 zs.2.1 zs.2.2.1 zs.2.2.2.1 zs.2.2.2.2.1 zs.2.2.2.2.2) zn30 (zv0, zv1, zv2, zv3, zv4, zh) = some (r9, h9) → gw E s zh H locs → lv_has ls 5 [(0, .ref (gB E + zv0)), (1, .ref (gB E + zv1)), (2, .int zv2), (3, .int zv3), (4, .int zv4)] → W p l e rm_X8_fewestFalse s m [.ref (gB E + za0), .ref (gB E + za1)].toArray below meth c H locs 0 0 (MQ below (gQi E r9 h9) [.ref (gB E + za0), .ref (gB E + za1)].toArray s 0 0 (gA E)) (F0 m 30 ls []) := by
        intro zn30
        induction zn30 with
        | zero =>
          intro zv0 zv1 zv2 zv3 zv4 zh H locs ls hf
          cases hf
        | succ zn30 ih_30 =>
          have J_98 : ∀ (zv0 : Nat) (zv1 : Nat) (zv2 : Int32) (zv3 : Int32) (zv4 : Int32) (zh : PH) (H : Heap) (locs : List Loc) (ls : Array Slot), f_X8_fewestFalse_98 N (gi (fun zk zs => f_X8_fewestFalse_12 N zk zs.1 zs.2.1 zs.2.2.1 zs.2.2.2.1 zs.2.2.2.2) zn12) (gi (fun zk zs => f_X8_fewestFalse_30 N (gi (fun zk zs => f_X8_fewestFalse_12 N zk zs.1 zs.2.1 zs.2.2.1 zs.2.2.2.1 zs.2.2.2.2) zn12) zk zs.1 zs.2.1 zs.2.2.1 zs.2.2.2.1 zs.2.2.2.2.1 zs.2.2.2.2.2) zn30) zv0 zv1 zv2 zv3 zv4 zh = some (r9, h9) → gw E s zh H locs → lv_has ls 5 [(0, .ref (gB E + zv0)), (1, .ref (gB E + zv1)), (2, .int zv2), (3, .int zv3), (4, .int zv4)] → W p l e rm_X8_fewestFalse s m [.ref (gB E + za0), .ref (gB E + za1)].toArray below meth c H locs 0 0 (MQ below (gQi E r9 h9) [.ref (gB E + za0), .ref (gB E + za1)].toArray s 0 0 (gA E)) (F0 m 98 ls []) := by
            intro zv0 zv1 zv2 zv3 zv4 zh H locs ls hf hw hl
            unfold f_X8_fewestFalse_98 at hf
            obtain ⟨zx1, ezx1⟩ : ∃ y : Int32, y = zv4 + 1 := ⟨_, rfl⟩
            have hf := gl_el hf ezx1
            refine lv_iinc (v := zx1) (lv' := [(4, .int zx1), (0, .ref (gB E + zv0)), (1, .ref (gB E + zv1)), (2, .int zv2), (3, .int zv3)]) hx hb dX8_fewestFalse_98 hl (k := 4) rfl (by rw [ezx1]; rfl) (by decide) rfl (fun ls hl => ?_)
            refine lv_goto (tgt := 30) hx hb dX8_fewestFalse_101 (by decide) ?_
            exact ih_30 zv0 zv1 zv2 zv3 zx1 _ _ _ ls hf hw (lv_sub hl [1, 2, 3, 4, 0] rfl)
          intro zv0 zv1 zv2 zv3 zv4 zh H locs ls hf hw hl
          have hf := gi_s hf
          dsimp only at hf
          unfold f_X8_fewestFalse_30 at hf
          refine lv_iload hx hb dX8_fewestFalse_30 (lv_at hl 4 rfl) ?_
          refine lv_iload_n hx hb dX8_fewestFalse_32 rfl (lv_at hl 3 rfl) ?_
          refine lv_icmp_ge (tgt := 104) hx hb dX8_fewestFalse_33 (by decide) (fun qc1 => ?_) (fun qc1 => ?_)
          · have hf := gif_t hf qc1
            refine lv_iconst (v := 0) hx hb dX8_fewestFalse_104 (by decide) ?_
            refine lv_aload_n hx hb dX8_fewestFalse_105 rfl (lv_at hl 0 rfl) ?_
            obtain ⟨zt2, qzt2, hf⟩ := gb_el hf
            refine gx_getR X hw qzt2 clX8 (by decide) mf_X8_21 dX8_fewestFalse_106 ?_
            refine lv_iload_n hx hb dX8_fewestFalse_109 rfl (lv_at hl 3 rfl) ?_
            obtain ⟨zt3, qzt3, hf⟩ := gb_el hf
            refine gx_iald X hw qzt3 dX8_fewestFalse_110 ?_
            refine lv_aload_n hx hb dX8_fewestFalse_111 rfl (lv_at hl 0 rfl) ?_
            refine W.eq (g2 := F0 m 112 ls [.ref (gB E + zv0), .int zt3, .int 0]) rfl ?_
            obtain ⟨zt4, qzt4, hf⟩ := gb_el hf
            refine gx_getR X hw qzt4 clX8 (by decide) mf_X8_24 dX8_fewestFalse_112 ?_
            refine lv_aload_n hx hb dX8_fewestFalse_115 rfl (lv_at hl 0 rfl) ?_
            obtain ⟨zt5, qzt5, hf⟩ := gb_el hf
            refine gx_getR X hw qzt5 clX8 (by decide) mf_X8_9 dX8_fewestFalse_116 ?_
            refine lv_iload_n hx hb dX8_fewestFalse_119 rfl (lv_at hl 3 rfl) ?_
            obtain ⟨zt6, qzt6, hf⟩ := gb_el hf
            refine gx_iald X hw qzt6 dX8_fewestFalse_120 ?_
            obtain ⟨zt7, qzt7, hf⟩ := gb_el hf
            refine gx_iald X hw qzt7 dX8_fewestFalse_121 ?_
            refine lv_isub hx hb dX8_fewestFalse_122 ?_
            refine gx_max X mm_X8_51 mt_max mI_java_lang_Math mx_max hl.1 (Nat.le_of_ble_eq_true rfl) (Nat.le_of_ble_eq_true rfl) (Nat.le_of_ble_eq_true rfl) (Nat.le_of_ble_eq_true rfl) dX8_fewestFalse_123 ?_
            refine lv_topi (fun zx8 ezx8 => ?_)
            have hf := gl_el hf ezx8
            refine lv_istore (lv' := [(4, .int zx8), (0, .ref (gB E + zv0)), (1, .ref (gB E + zv1)), (2, .int zv2), (3, .int zv3)]) hx hb dX8_fewestFalse_126 hl (by decide) rfl (fun ls hl => ?_)
            refine lv_aload_n hx hb dX8_fewestFalse_128 rfl (lv_at hl 1 rfl) ?_
            refine W.eq (g2 := F0 m 129 ls [.ref (gB E + zv0)]) rfl ?_
            obtain ⟨zt9, qzt9, hf⟩ := gb_el hf
            refine gx_getR X hw qzt9 clX8 (by decide) mf_X8_24 dX8_fewestFalse_129 ?_
            refine lv_aload_n hx hb dX8_fewestFalse_132 rfl (lv_at hl 1 rfl) ?_
            obtain ⟨zt10, qzt10, hf⟩ := gb_el hf
            refine gx_getR X hw qzt10 clX8 (by decide) mf_X8_9 dX8_fewestFalse_133 ?_
            refine lv_iload_n hx hb dX8_fewestFalse_136 rfl (lv_at hl 4 rfl) ?_
            obtain ⟨zt11, qzt11, hf⟩ := gb_el hf
            refine gx_iald X hw qzt11 dX8_fewestFalse_137 ?_
            refine lv_dup2_11 hx hb dX8_fewestFalse_138 rfl rfl ?_
            obtain ⟨zt12, qzt12, hf⟩ := gb_el hf
            refine gx_iald X hw qzt12 dX8_fewestFalse_139 ?_
            refine lv_iload hx hb dX8_fewestFalse_140 (lv_at hl 0 rfl) ?_
            refine lv_iadd hx hb dX8_fewestFalse_142 ?_
            obtain ⟨zh13, qzh13, hf⟩ := gb_el hf
            refine gx_iast X hw qzh13 dX8_fewestFalse_143 (fun H locs hw => ?_)
            refine W.eq (g2 := F0 m 144 ls []) rfl ?_
            refine lv_iload_n hx hb dX8_fewestFalse_144 rfl (lv_at hl 3 rfl) ?_
            refine lv_iload hx hb dX8_fewestFalse_145 (lv_at hl 0 rfl) ?_
            refine lv_iadd hx hb dX8_fewestFalse_147 ?_
            refine lv_topi (fun zx14 ezx14 => ?_)
            have hf := gl_el hf ezx14
            refine lv_istore_n (lv' := [(2, .int zx14), (4, .int zx8), (0, .ref (gB E + zv0)), (1, .ref (gB E + zv1)), (3, .int zv3)]) hx hb dX8_fewestFalse_148 rfl hl (by decide) rfl (fun ls hl => ?_)
            obtain ⟨zx15, ezx15⟩ : ∃ y : Int32, y = zv3 + 1 := ⟨_, rfl⟩
            have hf := gl_el hf ezx15
            refine lv_iinc (v := zx15) (lv' := [(3, .int zx15), (2, .int zx14), (4, .int zx8), (0, .ref (gB E + zv0)), (1, .ref (gB E + zv1))]) hx hb dX8_fewestFalse_149 hl (k := 4) rfl (by rw [ezx15]; rfl) (by decide) rfl (fun ls hl => ?_)
            refine lv_goto (tgt := 12) hx hb dX8_fewestFalse_152 (by decide) ?_
            exact ih_12 zv0 zv1 zx14 zx15 _ _ _ ls hf hw (lv_sub hl [3, 4, 1, 0] rfl)
          · have hf := gif_f hf qc1
            refine lv_aload_n hx hb dX8_fewestFalse_36 rfl (lv_at hl 0 rfl) ?_
            obtain ⟨zt16, qzt16, hf⟩ := gb_el hf
            refine gx_getR X hw qzt16 clX8 (by decide) mf_X8_9 dX8_fewestFalse_37 ?_
            refine lv_iload hx hb dX8_fewestFalse_40 (lv_at hl 4 rfl) ?_
            obtain ⟨zt17, qzt17, hf⟩ := gb_el hf
            refine gx_iald X hw qzt17 dX8_fewestFalse_42 ?_
            refine lv_aload_n hx hb dX8_fewestFalse_43 rfl (lv_at hl 0 rfl) ?_
            obtain ⟨zt18, qzt18, hf⟩ := gb_el hf
            refine gx_getR X hw qzt18 clX8 (by decide) mf_X8_9 dX8_fewestFalse_44 ?_
            refine W.eq (g2 := F0 m 47 ls [.ref (gB E + zt18), .int zt17]) rfl ?_
            refine lv_iload_n hx hb dX8_fewestFalse_47 rfl (lv_at hl 3 rfl) ?_
            obtain ⟨zt19, qzt19, hf⟩ := gb_el hf
            refine gx_iald X hw qzt19 dX8_fewestFalse_48 ?_
            refine lv_icmp_ne (tgt := 98) hx hb dX8_fewestFalse_49 (by decide) (fun qc20 => ?_) (fun qc20 => ?_)
            · have hf := gif_f hf qc20
              exact J_98 zv0 zv1 zv2 zv3 zv4 _ _ _ ls hf hw (lv_sub hl [0, 1, 2, 3, 4] rfl)
            · have hf := gif_t hf qc20
              refine lv_aload_n hx hb dX8_fewestFalse_52 rfl (lv_at hl 0 rfl) ?_
              refine lv_aload_n hx hb dX8_fewestFalse_53 rfl (lv_at hl 1 rfl) ?_
              refine lv_iload hx hb dX8_fewestFalse_54 (lv_at hl 4 rfl) ?_
              refine lv_aload_n hx hb dX8_fewestFalse_56 rfl (lv_at hl 0 rfl) ?_
              obtain ⟨zt21, qzt21, hf⟩ := gb_el hf
              refine gx_getR X hw qzt21 clX8 (by decide) mf_X8_15 dX8_fewestFalse_57 ?_
              refine lv_iload_n hx hb dX8_fewestFalse_60 rfl (lv_at hl 3 rfl) ?_
              obtain ⟨zt22, qzt22, hf⟩ := gb_el hf
              refine gx_iald X hw qzt22 dX8_fewestFalse_61 ?_
              refine W.eq (g2 := F0 m 62 ls [.int zt22, .int zv4, .ref (gB E + zv1), .ref (gB E + zv0)]) rfl ?_
              refine lv_aload_n hx hb dX8_fewestFalse_62 rfl (lv_at hl 0 rfl) ?_
              obtain ⟨zt23, qzt23, hf⟩ := gb_el hf
              refine gx_getR X hw qzt23 clX8 (by decide) mf_X8_18 dX8_fewestFalse_63 ?_
              refine lv_iload_n hx hb dX8_fewestFalse_66 rfl (lv_at hl 3 rfl) ?_
              obtain ⟨zt24, qzt24, hf⟩ := gb_el hf
              refine gx_iald X hw qzt24 dX8_fewestFalse_67 ?_
              obtain ⟨qizh25, hf⟩ := gg_el hf
              obtain ⟨zt26, zh25, qzh25, hf⟩ := gc_el hf
              refine gx_ki (gx_runV (As := [.ref (gB E + zv1), .int zv4, .int zt22, .int zt24]) (rest := []) X hw (c_X8_isInReach l E N zv0 zv1 zv4 zt22 zt24 zh qzh25) kX8_isInReach mm_X8_41 qizh25 clX8 ⟨Nat.le_of_ble_eq_true rfl, Nat.le_of_ble_eq_true rfl⟩ rfl rfl rfl hl.1 (Nat.le_of_ble_eq_true rfl) rfl dX8_fewestFalse_68 ⟨Nat.le_of_ble_eq_true rfl, Nat.le_of_ble_eq_true rfl⟩) hw (fun H locs hw => ?_)
              refine lv_if_eq (tgt := 98) hx hb dX8_fewestFalse_71 (by decide) (fun qc27 => ?_) (fun qc27 => ?_)
              · have hf := gif_t hf qc27
                exact J_98 zv0 zv1 zv2 zv3 zv4 _ _ _ ls hf hw (lv_sub hl [0, 1, 2, 3, 4] rfl)
              · have hf := gif_f hf qc27
                refine lv_aload_n hx hb dX8_fewestFalse_74 rfl (lv_at hl 0 rfl) ?_
                obtain ⟨zt28, qzt28, hf⟩ := gb_el hf
                refine gx_getR X hw qzt28 clX8 (by decide) mf_X8_21 dX8_fewestFalse_75 ?_
                refine lv_iload_n hx hb dX8_fewestFalse_78 rfl (lv_at hl 3 rfl) ?_
                refine lv_aload_n hx hb dX8_fewestFalse_79 rfl (lv_at hl 0 rfl) ?_
                refine W.eq (g2 := F0 m 80 ls [.ref (gB E + zv0), .int zv3, .ref (gB E + zt28)]) rfl ?_
                obtain ⟨zt29, qzt29, hf⟩ := gb_el hf
                refine gx_getR X hw qzt29 clX8 (by decide) mf_X8_21 dX8_fewestFalse_80 ?_
                refine lv_iload_n hx hb dX8_fewestFalse_83 rfl (lv_at hl 3 rfl) ?_
                obtain ⟨zt30, qzt30, hf⟩ := gb_el hf
                refine gx_iald X hw qzt30 dX8_fewestFalse_84 ?_
                refine lv_aload_n hx hb dX8_fewestFalse_85 rfl (lv_at hl 0 rfl) ?_
                obtain ⟨zt31, qzt31, hf⟩ := gb_el hf
                refine gx_getR X hw qzt31 clX8 (by decide) mf_X8_21 dX8_fewestFalse_86 ?_
                refine lv_iload hx hb dX8_fewestFalse_89 (lv_at hl 4 rfl) ?_
                obtain ⟨zt32, qzt32, hf⟩ := gb_el hf
                refine gx_iald X hw qzt32 dX8_fewestFalse_91 ?_
                refine lv_iconst (v := 1) hx hb dX8_fewestFalse_92 (by decide) ?_
                refine lv_iadd hx hb dX8_fewestFalse_93 ?_
                refine gx_max X mm_X8_51 mt_max mI_java_lang_Math mx_max hl.1 (Nat.le_of_ble_eq_true rfl) (Nat.le_of_ble_eq_true rfl) (Nat.le_of_ble_eq_true rfl) (Nat.le_of_ble_eq_true rfl) dX8_fewestFalse_94 ?_
                refine W.eq (g2 := F0 m 97 ls [.int (gmax zt30 (zt32 + 1)), .int zv3, .ref (gB E + zt28)]) rfl ?_
                obtain ⟨zh33, qzh33, hf⟩ := gb_el hf
                refine gx_iast X hw qzh33 dX8_fewestFalse_97 (fun H locs hw => ?_)
                exact J_98 zv0 zv1 zv2 zv3 zv4 _ _ _ ls hf hw (lv_sub hl [0, 1, 2, 3, 4] rfl)
      intro zv0 zv1 zv2 zv3 zh H locs ls hf hw hl
      have hf := gi_s hf
      dsimp only at hf
      unfold f_X8_fewestFalse_12 at hf
      refine lv_iload_n hx hb dX8_fewestFalse_12 rfl (lv_at hl 3 rfl) ?_
      refine lv_aload_n hx hb dX8_fewestFalse_13 rfl (lv_at hl 0 rfl) ?_
      obtain ⟨zt1, qzt1, hf⟩ := gb_el hf
      refine gx_getI X hw qzt1 clX8 (by decide) mf_X8_33 dX8_fewestFalse_14 ?_
      refine lv_icmp_ge (tgt := 155) hx hb dX8_fewestFalse_17 (by decide) (fun qc2 => ?_) (fun qc2 => ?_)
      · have hf := gif_t hf qc2
        refine lv_aload_n hx hb dX8_fewestFalse_155 rfl (lv_at hl 0 rfl) ?_
        obtain ⟨zt3, qzt3, hf⟩ := gb_el hf
        refine gx_getI X hw qzt3 clX8 (by decide) mf_X8_33 dX8_fewestFalse_156 ?_
        refine lv_iload_n hx hb dX8_fewestFalse_159 rfl (lv_at hl 2 rfl) ?_
        refine lv_isub hx hb dX8_fewestFalse_160 ?_
        exact gx_iret X hr hlk hw hf dX8_fewestFalse_161
      · have hf := gif_f hf qc2
        refine lv_aload_n hx hb dX8_fewestFalse_20 rfl (lv_at hl 0 rfl) ?_
        obtain ⟨zt4, qzt4, hf⟩ := gb_el hf
        refine gx_getR X hw qzt4 clX8 (by decide) mf_X8_21 dX8_fewestFalse_21 ?_
        refine lv_iload_n hx hb dX8_fewestFalse_24 rfl (lv_at hl 3 rfl) ?_
        refine lv_iconst (v := 1) hx hb dX8_fewestFalse_25 (by decide) ?_
        obtain ⟨zh5, qzh5, hf⟩ := gb_el hf
        refine gx_iast X hw qzh5 dX8_fewestFalse_26 (fun H locs hw => ?_)
        refine W.eq (g2 := F0 m 27 ls []) rfl ?_
        refine lv_iconst (v := 0) hx hb dX8_fewestFalse_27 (by decide) ?_
        refine lv_istore (lv' := [(4, .int 0), (0, .ref (gB E + zv0)), (1, .ref (gB E + zv1)), (2, .int zv2), (3, .int zv3)]) hx hb dX8_fewestFalse_28 hl (by decide) rfl (fun ls hl => ?_)
        exact L_30 N zv0 zv1 zv2 zv3 0 _ _ _ ls hf hw (lv_sub hl [1, 2, 3, 4, 0] rfl)
  unfold f_X8_fewestFalse at hf
  refine lv_aload_n hx hb dX8_fewestFalse_0 rfl (lv_at hl 0 rfl) ?_
  obtain ⟨zt1, qzt1, hf⟩ := gb_el hf
  refine gx_getR X hw qzt1 clX8 (by decide) mf_X8_24 dX8_fewestFalse_1 ?_
  refine lv_iconst (v := 0) hx hb dX8_fewestFalse_4 (by decide) ?_
  obtain ⟨zh2, qzh2, hf⟩ := gb_el hf
  refine gx_kv (gx_runS (As := [.ref (gB E + zt1), .int 0]) (rest := []) X hw (c_J7_fill_53178 l E N zt1 0 zh qzh2) kJ7_fill_53178 mm_X8_45 ⟨Nat.le_of_ble_eq_true rfl, Nat.le_of_ble_eq_true rfl⟩ rfl rfl rfl hl.1 (Nat.le_of_ble_eq_true rfl) rfl dX8_fewestFalse_5 ⟨Nat.le_of_ble_eq_true rfl, Nat.le_of_ble_eq_true rfl⟩) hw (fun H locs hw => ?_)
  refine lv_iconst (v := 0) hx hb dX8_fewestFalse_8 (by decide) ?_
  refine lv_istore_n (lv' := [(2, .int 0), (0, .ref (gB E + za0)), (1, .ref (gB E + za1))]) hx hb dX8_fewestFalse_9 rfl hl (by decide) rfl (fun ls hl => ?_)
  refine lv_iconst (v := 0) hx hb dX8_fewestFalse_10 (by decide) ?_
  refine lv_istore_n (lv' := [(3, .int 0), (2, .int 0), (0, .ref (gB E + za0)), (1, .ref (gB E + za1))]) hx hb dX8_fewestFalse_11 rfl hl (by decide) rfl (fun ls hl => ?_)
  exact L_12 N za0 za1 0 0 _ _ _ ls hf hw (lv_sub hl [2, 3, 1, 0] rfl)
