abbrev rm_X9_init : Room := { frames := 2, cells := 51, slots := 1501, locals := 43 }
set_option maxHeartbeats 4000000 in
set_option maxRecDepth 100000 in
theorem c_X9_init (l : Launch) (E : gE) (N : Nat) (za0 : Nat) (za1 : Nat) (zh : PH) {h9 : PH} (hf : f_X9_init N za0 za1 zh = some h9) : Met l yX9_init (gWS yX9_init cX9_init 3 none) rm_X9_init (gPc E [.ref (gB E + za0), .ref (gB E + za1)] zh) (gQv E h9) 51 1501 (gA E) := by
  refine gx_met (by decide) ?_ rfl
  intro p e s m below meth c X hr hlk hin2 hw
  have hx := X.1.1
  have hb := X.1.2.1
  have hl := lv_entry [.ref (gB E + za0), .ref (gB E + za1)] (n := 3) (Nat.le_of_ble_eq_true rfl)
  rw [lg_entry_eq]
  generalize (lg_sl [.ref (gB E + za0), .ref (gB E + za1)] ++ List.replicate (3 - (lg_sl [.ref (gB E + za0), .ref (gB E + za1)]).length) Slot.unset).toArray = ls at hl ⊢
  have hl : lv_has ls 3 [(0, .ref (gB E + za0)), (1, .ref (gB E + za1))] := hl
  have L_79 : ∀ (zn79 : Nat) (zv0 : Nat) (zv2 : Int32) (zh : PH) (H : Heap) (locs : List Loc) (ls : Array Slot), zn79 ≤ 6 → gi (fun zk zs => f_X9_init_79 N zk zs.1 zs.2.1 zs.2.2) zn79 (zv0, zv2, zh) = some h9 → gw E s zh H locs → lv_has ls 3 [(0, .ref (gB E + zv0)), (2, .int zv2)] → W p l e rm_X9_init s m [.ref (gB E + za0), .ref (gB E + za1)].toArray below meth c H locs (21 + 5 * (6 - zn79)) (1201 + 50 * (6 - zn79)) (MQ below (gQv E h9) [.ref (gB E + za0), .ref (gB E + za1)].toArray s 51 1501 (gA E)) (F0 m 79 ls []) := by
    intro zn79
    induction zn79 with
    | zero =>
      intro zv0 zv2 zh H locs ls _ hf
      cases hf
    | succ zn79 ih_79 =>
      intro zv0 zv2 zh H locs ls hzn hf hw hl
      have hf := gi_s hf
      dsimp only at hf
      unfold f_X9_init_79 at hf
      refine lv_iload_n hx hb dX9_init_79 rfl (lv_at hl 1 rfl) ?_
      refine lv_aload_n hx hb dX9_init_80 rfl (lv_at hl 0 rfl) ?_
      obtain ⟨zt1, qzt1, hf⟩ := gb_el hf
      refine gx_getR X hw qzt1 clX9 (by decide) mf_X9_18 dX9_init_81 ?_
      obtain ⟨zt2, qzt2, hf⟩ := gb_el hf
      refine gx_alen X hw qzt2 rfl dX9_init_84 ?_
      refine lv_icmp_ge (tgt := 107) hx hb dX9_init_85 (by decide) (fun qc3 => ?_) (fun qc3 => ?_)
      · have hf := gif_t hf qc3
        refine W.widen (k := 51) (n := 1501) (by omega) (by omega) ?_
        exact gx_vret X hr hlk hw hf dX9_init_107
      · have hf := gif_f hf qc3
        refine lv_aload_n hx hb dX9_init_88 rfl (lv_at hl 0 rfl) ?_
        obtain ⟨zt4, qzt4, hf⟩ := gb_el hf
        refine gx_getR X hw qzt4 clX9 (by decide) mf_X9_18 dX9_init_89 ?_
        refine lv_iload_n hx hb dX9_init_92 rfl (lv_at hl 1 rfl) ?_
        obtain ⟨zr6, zh5, qzh5, hf⟩ := gc_el hf
        refine gx_new X hw qzh5 clX1 n1X1 ml_X9_9 mN_X1 mI_X1 (by dsimp only [rm_X9_init]; omega) (by dsimp only [rm_X9_init]; omega) dX9_init_93 (fun H hw => ?_)
        refine W.eq (g2 := F0 m 96 ls [.ref (gB E + zr6), .int zv2, .ref (gB E + zt4)]) rfl ?_
        refine lv_dup hx hb dX9_init_96 rfl ?_
        obtain ⟨zh7, qzh7, hf⟩ := gb_el hf
        refine gx_kv (gx_runI (As := []) (rest := [.ref (gB E + zr6), .int zv2, .ref (gB E + zt4)]) X hw (c_X1_init l E N zr6 zh5 qzh7) kX1_init mm_X9_11 ⟨by dsimp only [rm_X9_init, rm_X1_init]; omega, by dsimp only [rm_X9_init, rm_X1_init]; omega⟩ rfl rfl rfl hl.1 (Nat.le_of_ble_eq_true rfl) rfl dX9_init_97 ⟨by dsimp only [rm_X9_init]; omega, by dsimp only [rm_X9_init]; omega⟩) hw (fun H locs hw => ?_)
        obtain ⟨zh8, qzh8, hf⟩ := gb_el hf
        refine gx_aast X hw qzh8 clX1 rfl dX9_init_100 (fun H locs hw => ?_)
        obtain ⟨zx9, ezx9⟩ : ∃ y : Int32, y = zv2 + 1 := ⟨_, rfl⟩
        have hf := gl_el hf ezx9
        refine lv_iinc (v := zx9) (lv' := [(2, .int zx9), (0, .ref (gB E + zv0))]) hx hb dX9_init_101 hl (k := 1) rfl (by rw [ezx9]; rfl) (by decide) rfl (fun ls hl => ?_)
        refine lv_goto (tgt := 79) hx hb dX9_init_104 (by decide) ?_
        refine W.widen (k := 21 + 5 * (6 - zn79)) (n := 1201 + 50 * (6 - zn79)) (by omega) (by omega) ?_
        exact ih_79 zv0 zx9 _ _ _ ls (by omega) hf hw (lv_sub hl [1, 0] rfl)
  unfold f_X9_init at hf
  refine lv_aload_n hx hb dX9_init_0 rfl (lv_at hl 0 rfl) ?_
  refine gx_oinit X mm_X9_3 mo_inst mo_code hl.1 dX9_init_1 (by dsimp only [rm_X9_init]; omega) (Nat.le_of_ble_eq_true rfl) ?_
  refine lv_aload_n hx hb dX9_init_4 rfl (lv_at hl 0 rfl) ?_
  obtain ⟨zr2, zh1, qzh1, hf⟩ := gc_el hf
  refine gx_new X hw qzh1 clX1 n1X1 ml_X9_9 mN_X1 mI_X1 (by dsimp only [rm_X9_init]; omega) (by dsimp only [rm_X9_init]; omega) dX9_init_5 (fun H hw => ?_)
  refine lv_dup hx hb dX9_init_8 rfl ?_
  obtain ⟨zh3, qzh3, hf⟩ := gb_el hf
  refine gx_kv (gx_runI (As := []) (rest := [.ref (gB E + zr2), .ref (gB E + za0)]) X hw (c_X1_init l E N zr2 zh1 qzh3) kX1_init mm_X9_11 ⟨by dsimp only [rm_X9_init, rm_X1_init]; omega, by dsimp only [rm_X9_init, rm_X1_init]; omega⟩ rfl rfl rfl hl.1 (Nat.le_of_ble_eq_true rfl) rfl dX9_init_9 ⟨by dsimp only [rm_X9_init]; omega, by dsimp only [rm_X9_init]; omega⟩) hw (fun H locs hw => ?_)
  obtain ⟨zh4, qzh4, hf⟩ := gb_el hf
  refine gx_putFV X hw qzh4 clX9 (by decide) mf_X9_12 rfl (hin2 rfl) rfl rfl rfl dX9_init_12 (fun H locs hw => ?_)
  refine lv_aload_n hx hb dX9_init_15 rfl (lv_at hl 0 rfl) ?_
  refine lv_iconst (v := 5) hx hb dX9_init_16 (by decide) ?_
  refine W.eq (g2 := F0 m 17 ls [.int 5, .ref (gB E + za0)]) rfl ?_
  obtain ⟨zr6, zh5, qzh5, hf⟩ := gc_el hf
  refine gx_anew X hw qzh5 rfl (by decide) X.2.2.2.1.1 ml_X9_9 (by decide) (by decide) (by decide) (by dsimp only [rm_X9_init]; omega) (by dsimp only [rm_X9_init]; omega) dX9_init_17 (fun H hw => ?_)
  obtain ⟨zh7, qzh7, hf⟩ := gb_el hf
  refine gx_putFV X hw qzh7 clX9 (by decide) mf_X9_18 rfl (hin2 rfl) rfl rfl rfl dX9_init_20 (fun H locs hw => ?_)
  refine lv_aload_n hx hb dX9_init_23 rfl (lv_at hl 0 rfl) ?_
  obtain ⟨zr9, zh8, qzh8, hf⟩ := gc_el hf
  refine gx_new X hw qzh8 clX0 n1X0 ml_X9_22 mN_X0 mI_X0 (by dsimp only [rm_X9_init]; omega) (by dsimp only [rm_X9_init]; omega) dX9_init_24 (fun H hw => ?_)
  refine lv_dup hx hb dX9_init_27 rfl ?_
  obtain ⟨zh10, qzh10, hf⟩ := gb_el hf
  refine gx_kv (gx_runIN (As := []) (rest := [.ref (gB E + zr9), .ref (gB E + za0)]) X hw (c_X0_init l E N zr9 zh8 qzh10) kX0_init mn_X9_24 ⟨by dsimp only [rm_X9_init, rm_X0_init]; omega, by dsimp only [rm_X9_init, rm_X0_init]; omega⟩ rfl rfl rfl hl.1 (Nat.le_of_ble_eq_true rfl) rfl dX9_init_28 ⟨by dsimp only [rm_X9_init]; omega, by dsimp only [rm_X9_init]; omega⟩) hw (fun H locs hw => ?_)
  obtain ⟨zh11, qzh11, hf⟩ := gb_el hf
  refine gx_putFV X hw qzh11 clX9 (by decide) mf_X9_25 rfl (hin2 rfl) rfl rfl rfl dX9_init_31 (fun H locs hw => ?_)
  refine lv_aload_n hx hb dX9_init_34 rfl (lv_at hl 0 rfl) ?_
  obtain ⟨zr13, zh12, qzh12, hf⟩ := gc_el hf
  refine gx_new X hw qzh12 clX8 n1X8 ml_X9_29 mN_X8 mI_X8 (by dsimp only [rm_X9_init]; omega) (by dsimp only [rm_X9_init]; omega) dX9_init_35 (fun H hw => ?_)
  refine lv_dup hx hb dX9_init_38 rfl ?_
  refine W.eq (g2 := F0 m 39 ls [.ref (gB E + zr13), .ref (gB E + zr13), .ref (gB E + za0)]) rfl ?_
  obtain ⟨zh14, qzh14, hf⟩ := gb_el hf
  refine gx_kv (gx_runIN (As := []) (rest := [.ref (gB E + zr13), .ref (gB E + za0)]) X hw (c_X8_init l E N zr13 zh12 qzh14) kX8_init mn_X9_31 ⟨by dsimp only [rm_X9_init, rm_X8_init]; omega, by dsimp only [rm_X9_init, rm_X8_init]; omega⟩ rfl rfl rfl hl.1 (Nat.le_of_ble_eq_true rfl) rfl dX9_init_39 ⟨by dsimp only [rm_X9_init]; omega, by dsimp only [rm_X9_init]; omega⟩) hw (fun H locs hw => ?_)
  obtain ⟨zh15, qzh15, hf⟩ := gb_el hf
  refine gx_putFV X hw qzh15 clX9 (by decide) mf_X9_32 rfl (hin2 rfl) rfl rfl rfl dX9_init_42 (fun H locs hw => ?_)
  refine lv_aload_n hx hb dX9_init_45 rfl (lv_at hl 0 rfl) ?_
  obtain ⟨zr17, zh16, qzh16, hf⟩ := gc_el hf
  refine gx_new X hw qzh16 clX6 n1X6 ml_X9_36 mN_X6 mI_X6 (by dsimp only [rm_X9_init]; omega) (by dsimp only [rm_X9_init]; omega) dX9_init_46 (fun H hw => ?_)
  refine lv_dup hx hb dX9_init_49 rfl ?_
  obtain ⟨zh18, qzh18, hf⟩ := gb_el hf
  refine gx_kv (gx_runIN (As := []) (rest := [.ref (gB E + zr17), .ref (gB E + za0)]) X hw (c_X6_init l E N zr17 zh16 qzh18) kX6_init mn_X9_38 ⟨by dsimp only [rm_X9_init, rm_X6_init]; omega, by dsimp only [rm_X9_init, rm_X6_init]; omega⟩ rfl rfl rfl hl.1 (Nat.le_of_ble_eq_true rfl) rfl dX9_init_50 ⟨by dsimp only [rm_X9_init]; omega, by dsimp only [rm_X9_init]; omega⟩) hw (fun H locs hw => ?_)
  obtain ⟨zh19, qzh19, hf⟩ := gb_el hf
  refine gx_putFV X hw qzh19 clX9 (by decide) mf_X9_39 rfl (hin2 rfl) rfl rfl rfl dX9_init_53 (fun H locs hw => ?_)
  refine lv_aload_n hx hb dX9_init_56 rfl (lv_at hl 0 rfl) ?_
  obtain ⟨zr21, zh20, qzh20, hf⟩ := gc_el hf
  refine gx_new X hw qzh20 clX4 n1X4 ml_X9_43 mN_X4 mI_X4 (by dsimp only [rm_X9_init]; omega) (by dsimp only [rm_X9_init]; omega) dX9_init_57 (fun H hw => ?_)
  refine lv_dup hx hb dX9_init_60 rfl ?_
  refine W.eq (g2 := F0 m 61 ls [.ref (gB E + zr21), .ref (gB E + zr21), .ref (gB E + za0)]) rfl ?_
  obtain ⟨zh22, qzh22, hf⟩ := gb_el hf
  refine gx_kv (gx_runIN (As := []) (rest := [.ref (gB E + zr21), .ref (gB E + za0)]) X hw (c_X4_init l E N zr21 zh20 qzh22) kX4_init mn_X9_45 ⟨by dsimp only [rm_X9_init, rm_X4_init]; omega, by dsimp only [rm_X9_init, rm_X4_init]; omega⟩ rfl rfl rfl hl.1 (Nat.le_of_ble_eq_true rfl) rfl dX9_init_61 ⟨by dsimp only [rm_X9_init]; omega, by dsimp only [rm_X9_init]; omega⟩) hw (fun H locs hw => ?_)
  obtain ⟨zh23, qzh23, hf⟩ := gb_el hf
  refine gx_putFV X hw qzh23 clX9 (by decide) mf_X9_46 rfl (hin2 rfl) rfl rfl rfl dX9_init_64 (fun H locs hw => ?_)
  refine lv_aload_n hx hb dX9_init_67 rfl (lv_at hl 0 rfl) ?_
  refine lv_iconst (v := (-1)) hx hb dX9_init_68 (by decide) ?_
  obtain ⟨zh24, qzh24, hf⟩ := gb_el hf
  refine gx_putV X hw qzh24 clX9 (by decide) mf_X9_50 rfl rfl rfl dX9_init_69 (fun H locs hw => ?_)
  refine lv_aload_n hx hb dX9_init_72 rfl (lv_at hl 0 rfl) ?_
  refine lv_aload_n hx hb dX9_init_73 rfl (lv_at hl 1 rfl) ?_
  obtain ⟨zh25, qzh25, hf⟩ := gb_el hf
  refine gx_putFV X hw qzh25 clX9 (by decide) mf_X9_54 rfl (hin2 rfl) rfl rfl rfl dX9_init_74 (fun H locs hw => ?_)
  refine lv_iconst (v := 0) hx hb dX9_init_77 (by decide) ?_
  refine lv_istore_n (lv' := [(2, .int 0), (0, .ref (gB E + za0)), (1, .ref (gB E + za1))]) hx hb dX9_init_78 rfl hl (by decide) rfl (fun ls hl => ?_)
  exact L_79 6 za0 0 _ _ _ ls (Nat.le_refl _) hf hw (lv_sub hl [1, 0] rfl)
abbrev rm_X9_reset : Room := { frames := 2, cells := 0, slots := 0, locals := 43 }
set_option maxHeartbeats 4000000 in
set_option maxRecDepth 100000 in
theorem c_X9_reset (l : Launch) (E : gE) (N : Nat) (za0 : Nat) (za1 : Int32) (zh : PH) {h9 : PH} (hf : f_X9_reset N za0 za1 zh = some h9) : Met l yX9_reset (gWS yX9_reset cX9_reset 3 none) rm_X9_reset (gPc E [.ref (gB E + za0), .int za1] zh) (gQv E h9) 0 0 (gA E) := by
  refine gx_met (by decide) ?_ rfl
  intro p e s m below meth c X hr hlk hin2 hw
  have hx := X.1.1
  have hb := X.1.2.1
  have hl := lv_entry [.ref (gB E + za0), .int za1] (n := 3) (Nat.le_of_ble_eq_true rfl)
  rw [lg_entry_eq]
  generalize (lg_sl [.ref (gB E + za0), .int za1] ++ List.replicate (3 - (lg_sl [.ref (gB E + za0), .int za1]).length) Slot.unset).toArray = ls at hl ⊢
  have hl : lv_has ls 3 [(0, .ref (gB E + za0)), (1, .int za1)] := hl
  have L_9 : ∀ (zn9 : Nat) (zv0 : Nat) (zv1 : Int32) (zv2 : Int32) (zh : PH) (H : Heap) (locs : List Loc) (ls : Array Slot), gi (fun zk zs => f_X9_reset_9 N zk zs.1 zs.2.1 zs.2.2.1 zs.2.2.2) zn9 (zv0, zv1, zv2, zh) = some h9 → gw E s zh H locs → lv_has ls 3 [(0, .ref (gB E + zv0)), (1, .int zv1), (2, .int zv2)] → W p l e rm_X9_reset s m [.ref (gB E + za0), .int za1].toArray below meth c H locs 0 0 (MQ below (gQv E h9) [.ref (gB E + za0), .int za1].toArray s 0 0 (gA E)) (F0 m 9 ls []) := by
    intro zn9
    induction zn9 with
    | zero =>
      intro zv0 zv1 zv2 zh H locs ls hf
      cases hf
    | succ zn9 ih_9 =>
      intro zv0 zv1 zv2 zh H locs ls hf hw hl
      have hf := gi_s hf
      dsimp only at hf
      unfold f_X9_reset_9 at hf
      refine lv_iload_n hx hb dX9_reset_9 rfl (lv_at hl 2 rfl) ?_
      refine lv_aload_n hx hb dX9_reset_10 rfl (lv_at hl 0 rfl) ?_
      obtain ⟨zt1, qzt1, hf⟩ := gb_el hf
      refine gx_getR X hw qzt1 clX9 (by decide) mf_X9_18 dX9_reset_11 ?_
      obtain ⟨zt2, qzt2, hf⟩ := gb_el hf
      refine gx_alen X hw qzt2 rfl dX9_reset_14 ?_
      refine lv_icmp_ge (tgt := 33) hx hb dX9_reset_15 (by decide) (fun qc3 => ?_) (fun qc3 => ?_)
      · have hf := gif_t hf qc3
        refine lv_aload_n hx hb dX9_reset_33 rfl (lv_at hl 0 rfl) ?_
        obtain ⟨zt4, qzt4, hf⟩ := gb_el hf
        refine gx_getR X hw qzt4 clX9 (by decide) mf_X9_25 dX9_reset_34 ?_
        obtain ⟨qizh5, hf⟩ := gg_el hf
        obtain ⟨zh5, qzh5, hf⟩ := gb_el hf
        refine gx_kv (gx_runV (As := []) (rest := []) X hw (c_X0_empty l E N zt4 zh qzh5) kX0_empty mm_X9_61 qizh5 clX0 ⟨Nat.le_of_ble_eq_true rfl, Nat.le_of_ble_eq_true rfl⟩ rfl rfl rfl hl.1 (Nat.le_of_ble_eq_true rfl) rfl dX9_reset_37 ⟨Nat.le_of_ble_eq_true rfl, Nat.le_of_ble_eq_true rfl⟩) hw (fun H locs hw => ?_)
        refine lv_aload_n hx hb dX9_reset_40 rfl (lv_at hl 0 rfl) ?_
        refine W.eq (g2 := F0 m 41 ls [.ref (gB E + zv0)]) rfl ?_
        obtain ⟨zt6, qzt6, hf⟩ := gb_el hf
        refine gx_getR X hw qzt6 clX9 (by decide) mf_X9_32 dX9_reset_41 ?_
        refine lv_iconst (v := 0) hx hb dX9_reset_44 (by decide) ?_
        obtain ⟨zh7, qzh7, hf⟩ := gb_el hf
        refine gx_putV X hw qzh7 clX8 (by decide) mf_X9_62 rfl rfl rfl dX9_reset_45 (fun H locs hw => ?_)
        refine lv_aload_n hx hb dX9_reset_48 rfl (lv_at hl 0 rfl) ?_
        obtain ⟨zt8, qzt8, hf⟩ := gb_el hf
        refine gx_getR X hw qzt8 clX9 (by decide) mf_X9_39 dX9_reset_49 ?_
        obtain ⟨zt9, qzt9, hf⟩ := gb_el hf
        refine gx_getR X hw qzt9 clX6 (by decide) mf_X9_65 dX9_reset_52 ?_
        refine lv_iconst (v := 0) hx hb dX9_reset_55 (by decide) ?_
        obtain ⟨zh10, qzh10, hf⟩ := gb_el hf
        refine gx_kv (gx_runS (As := [.ref (gB E + zt9), .int 0]) (rest := []) X hw (c_J7_fill_53178 l E N zt9 0 zh7 qzh10) kJ7_fill_53178 mm_X9_69 ⟨Nat.le_of_ble_eq_true rfl, Nat.le_of_ble_eq_true rfl⟩ rfl rfl rfl hl.1 (Nat.le_of_ble_eq_true rfl) rfl dX9_reset_56 ⟨Nat.le_of_ble_eq_true rfl, Nat.le_of_ble_eq_true rfl⟩) hw (fun H locs hw => ?_)
        refine lv_aload_n hx hb dX9_reset_59 rfl (lv_at hl 0 rfl) ?_
        obtain ⟨zt11, qzt11, hf⟩ := gb_el hf
        refine gx_getR X hw qzt11 clX9 (by decide) mf_X9_46 dX9_reset_60 ?_
        refine W.eq (g2 := F0 m 63 ls [.ref (gB E + zt11)]) rfl ?_
        refine lv_iconst (v := 0) hx hb dX9_reset_63 (by decide) ?_
        obtain ⟨zh12, qzh12, hf⟩ := gb_el hf
        refine gx_putV X hw qzh12 clX4 (by decide) mf_X9_75 rfl rfl rfl dX9_reset_64 (fun H locs hw => ?_)
        refine lv_aload_n hx hb dX9_reset_67 rfl (lv_at hl 0 rfl) ?_
        refine lv_iconst (v := 0) hx hb dX9_reset_68 (by decide) ?_
        obtain ⟨zh13, qzh13, hf⟩ := gb_el hf
        refine gx_putV X hw qzh13 clX9 (by decide) mf_X9_76 rfl rfl rfl dX9_reset_69 (fun H locs hw => ?_)
        refine lv_aload_n hx hb dX9_reset_72 rfl (lv_at hl 0 rfl) ?_
        refine lv_iload_n hx hb dX9_reset_73 rfl (lv_at hl 1 rfl) ?_
        obtain ⟨zh14, qzh14, hf⟩ := gb_el hf
        refine gx_putV X hw qzh14 clX9 (by decide) mf_X9_50 rfl rfl rfl dX9_reset_74 (fun H locs hw => ?_)
        refine lv_aload_n hx hb dX9_reset_77 rfl (lv_at hl 0 rfl) ?_
        refine lv_iconst (v := 0) hx hb dX9_reset_78 (by decide) ?_
        refine W.eq (g2 := F0 m 79 ls [.int 0, .ref (gB E + zv0)]) rfl ?_
        obtain ⟨zh15, qzh15, hf⟩ := gb_el hf
        refine gx_putV X hw qzh15 clX9 (by decide) mf_X9_79 rfl rfl rfl dX9_reset_79 (fun H locs hw => ?_)
        refine lv_aload_n hx hb dX9_reset_82 rfl (lv_at hl 0 rfl) ?_
        refine lv_iconst (v := 0) hx hb dX9_reset_83 (by decide) ?_
        obtain ⟨zh16, qzh16, hf⟩ := gb_el hf
        refine gx_putV X hw qzh16 clX9 (by decide) mf_X9_82 rfl rfl rfl dX9_reset_84 (fun H locs hw => ?_)
        exact gx_vret X hr hlk hw hf dX9_reset_87
      · have hf := gif_f hf qc3
        refine lv_aload_n hx hb dX9_reset_18 rfl (lv_at hl 0 rfl) ?_
        obtain ⟨zt17, qzt17, hf⟩ := gb_el hf
        refine gx_getR X hw qzt17 clX9 (by decide) mf_X9_18 dX9_reset_19 ?_
        refine lv_iload_n hx hb dX9_reset_22 rfl (lv_at hl 2 rfl) ?_
        obtain ⟨zt18, qzt18, hf⟩ := gb_el hf
        refine gx_aaldR X hw qzt18 rfl dX9_reset_23 ?_
        refine W.eq (g2 := F0 m 24 ls [.ref (gB E + zt18)]) rfl ?_
        obtain ⟨qizh19, hf⟩ := gg_el hf
        obtain ⟨zh19, qzh19, hf⟩ := gb_el hf
        refine gx_kv (gx_runV (As := []) (rest := []) X hw (c_X1_empty l E N zt18 zh qzh19) kX1_empty mm_X9_58 qizh19 clX1 ⟨Nat.le_of_ble_eq_true rfl, Nat.le_of_ble_eq_true rfl⟩ rfl rfl rfl hl.1 (Nat.le_of_ble_eq_true rfl) rfl dX9_reset_24 ⟨Nat.le_of_ble_eq_true rfl, Nat.le_of_ble_eq_true rfl⟩) hw (fun H locs hw => ?_)
        obtain ⟨zx20, ezx20⟩ : ∃ y : Int32, y = zv2 + 1 := ⟨_, rfl⟩
        have hf := gl_el hf ezx20
        refine lv_iinc (v := zx20) (lv' := [(2, .int zx20), (0, .ref (gB E + zv0)), (1, .int zv1)]) hx hb dX9_reset_27 hl (k := 2) rfl (by rw [ezx20]; rfl) (by decide) rfl (fun ls hl => ?_)
        refine lv_goto (tgt := 9) hx hb dX9_reset_30 (by decide) ?_
        exact ih_9 zv0 zv1 zx20 _ _ _ ls hf hw (lv_sub hl [1, 2, 0] rfl)
  unfold f_X9_reset at hf
  refine lv_aload_n hx hb dX9_reset_0 rfl (lv_at hl 0 rfl) ?_
  obtain ⟨zt1, qzt1, hf⟩ := gb_el hf
  refine gx_getR X hw qzt1 clX9 (by decide) mf_X9_12 dX9_reset_1 ?_
  obtain ⟨qizh2, hf⟩ := gg_el hf
  obtain ⟨zh2, qzh2, hf⟩ := gb_el hf
  refine gx_kv (gx_runV (As := []) (rest := []) X hw (c_X1_empty l E N zt1 zh qzh2) kX1_empty mm_X9_58 qizh2 clX1 ⟨Nat.le_of_ble_eq_true rfl, Nat.le_of_ble_eq_true rfl⟩ rfl rfl rfl hl.1 (Nat.le_of_ble_eq_true rfl) rfl dX9_reset_4 ⟨Nat.le_of_ble_eq_true rfl, Nat.le_of_ble_eq_true rfl⟩) hw (fun H locs hw => ?_)
  refine lv_iconst (v := 0) hx hb dX9_reset_7 (by decide) ?_
  refine lv_istore_n (lv' := [(2, .int 0), (0, .ref (gB E + za0)), (1, .int za1)]) hx hb dX9_reset_8 rfl hl (by decide) rfl (fun ls hl => ?_)
  exact L_9 N za0 za1 0 _ _ _ ls hf hw (lv_sub hl [1, 2, 0] rfl)
abbrev rm_X9_copyFrom : Room := { frames := 2, cells := 0, slots := 0, locals := 85 }
set_option maxHeartbeats 4000000 in
set_option maxRecDepth 100000 in
theorem c_X9_copyFrom (l : Launch) (E : gE) (N : Nat) (za0 : Nat) (za1 : Nat) (zh : PH) {h9 : PH} (hf : f_X9_copyFrom N za0 za1 zh = some h9) : Met l yX9_copyFrom (gWS yX9_copyFrom cX9_copyFrom 3 none) rm_X9_copyFrom (gPc E [.ref (gB E + za0), .ref (gB E + za1)] zh) (gQv E h9) 0 0 (gA E) := by
  refine gx_met (by decide) ?_ rfl
  intro p e s m below meth c X hr hlk hin2 hw
  have hx := X.1.1
  have hb := X.1.2.1
  have hl := lv_entry [.ref (gB E + za0), .ref (gB E + za1)] (n := 3) (Nat.le_of_ble_eq_true rfl)
  rw [lg_entry_eq]
  generalize (lg_sl [.ref (gB E + za0), .ref (gB E + za1)] ++ List.replicate (3 - (lg_sl [.ref (gB E + za0), .ref (gB E + za1)]).length) Slot.unset).toArray = ls at hl ⊢
  have hl : lv_has ls 3 [(0, .ref (gB E + za0)), (1, .ref (gB E + za1))] := hl
  have L_13 : ∀ (zn13 : Nat) (zv0 : Nat) (zv1 : Nat) (zv2 : Int32) (zh : PH) (H : Heap) (locs : List Loc) (ls : Array Slot), gi (fun zk zs => f_X9_copyFrom_13 N zk zs.1 zs.2.1 zs.2.2.1 zs.2.2.2) zn13 (zv0, zv1, zv2, zh) = some h9 → gw E s zh H locs → lv_has ls 3 [(0, .ref (gB E + zv0)), (1, .ref (gB E + zv1)), (2, .int zv2)] → W p l e rm_X9_copyFrom s m [.ref (gB E + za0), .ref (gB E + za1)].toArray below meth c H locs 0 0 (MQ below (gQv E h9) [.ref (gB E + za0), .ref (gB E + za1)].toArray s 0 0 (gA E)) (F0 m 13 ls []) := by
    intro zn13
    induction zn13 with
    | zero =>
      intro zv0 zv1 zv2 zh H locs ls hf
      cases hf
    | succ zn13 ih_13 =>
      intro zv0 zv1 zv2 zh H locs ls hf hw hl
      have hf := gi_s hf
      dsimp only at hf
      unfold f_X9_copyFrom_13 at hf
      refine lv_iload_n hx hb dX9_copyFrom_13 rfl (lv_at hl 2 rfl) ?_
      refine lv_aload_n hx hb dX9_copyFrom_14 rfl (lv_at hl 0 rfl) ?_
      obtain ⟨zt1, qzt1, hf⟩ := gb_el hf
      refine gx_getR X hw qzt1 clX9 (by decide) mf_X9_18 dX9_copyFrom_15 ?_
      obtain ⟨zt2, qzt2, hf⟩ := gb_el hf
      refine gx_alen X hw qzt2 rfl dX9_copyFrom_18 ?_
      refine lv_icmp_ge (tgt := 43) hx hb dX9_copyFrom_19 (by decide) (fun qc3 => ?_) (fun qc3 => ?_)
      · have hf := gif_t hf qc3
        refine lv_aload_n hx hb dX9_copyFrom_43 rfl (lv_at hl 0 rfl) ?_
        obtain ⟨zt4, qzt4, hf⟩ := gb_el hf
        refine gx_getR X hw qzt4 clX9 (by decide) mf_X9_25 dX9_copyFrom_44 ?_
        refine lv_aload_n hx hb dX9_copyFrom_47 rfl (lv_at hl 1 rfl) ?_
        obtain ⟨zt5, qzt5, hf⟩ := gb_el hf
        refine gx_getR X hw qzt5 clX9 (by decide) mf_X9_25 dX9_copyFrom_48 ?_
        refine W.eq (g2 := F0 m 51 ls [.ref (gB E + zt5), .ref (gB E + zt4)]) rfl ?_
        obtain ⟨qizh6, hf⟩ := gg_el hf
        obtain ⟨zh6, qzh6, hf⟩ := gb_el hf
        refine gx_kv (gx_runV (As := [.ref (gB E + zt5)]) (rest := []) X hw (c_X0_copyFrom l E N zt4 zt5 zh qzh6) kX0_copyFrom mm_X9_89 qizh6 clX0 ⟨Nat.le_of_ble_eq_true rfl, Nat.le_of_ble_eq_true rfl⟩ rfl rfl rfl hl.1 (Nat.le_of_ble_eq_true rfl) rfl dX9_copyFrom_51 ⟨Nat.le_of_ble_eq_true rfl, Nat.le_of_ble_eq_true rfl⟩) hw (fun H locs hw => ?_)
        refine lv_aload_n hx hb dX9_copyFrom_54 rfl (lv_at hl 0 rfl) ?_
        obtain ⟨zt7, qzt7, hf⟩ := gb_el hf
        refine gx_getR X hw qzt7 clX9 (by decide) mf_X9_32 dX9_copyFrom_55 ?_
        refine lv_aload_n hx hb dX9_copyFrom_58 rfl (lv_at hl 1 rfl) ?_
        obtain ⟨zt8, qzt8, hf⟩ := gb_el hf
        refine gx_getR X hw qzt8 clX9 (by decide) mf_X9_32 dX9_copyFrom_59 ?_
        obtain ⟨qizh9, hf⟩ := gg_el hf
        obtain ⟨zh9, qzh9, hf⟩ := gb_el hf
        refine gx_kv (gx_runV (As := [.ref (gB E + zt8)]) (rest := []) X hw (c_X8_copyFrom l E N zt7 zt8 zh6 qzh9) kX8_copyFrom mm_X9_92 qizh9 clX8 ⟨Nat.le_of_ble_eq_true rfl, Nat.le_of_ble_eq_true rfl⟩ rfl rfl rfl hl.1 (Nat.le_of_ble_eq_true rfl) rfl dX9_copyFrom_62 ⟨Nat.le_of_ble_eq_true rfl, Nat.le_of_ble_eq_true rfl⟩) hw (fun H locs hw => ?_)
        refine lv_aload_n hx hb dX9_copyFrom_65 rfl (lv_at hl 1 rfl) ?_
        obtain ⟨zt10, qzt10, hf⟩ := gb_el hf
        refine gx_getR X hw qzt10 clX9 (by decide) mf_X9_39 dX9_copyFrom_66 ?_
        obtain ⟨zt11, qzt11, hf⟩ := gb_el hf
        refine gx_getR X hw qzt11 clX6 (by decide) mf_X9_65 dX9_copyFrom_69 ?_
        refine lv_iconst (v := 0) hx hb dX9_copyFrom_72 (by decide) ?_
        refine W.eq (g2 := F0 m 73 ls [.int 0, .ref (gB E + zt11)]) rfl ?_
        refine lv_aload_n hx hb dX9_copyFrom_73 rfl (lv_at hl 0 rfl) ?_
        obtain ⟨zt12, qzt12, hf⟩ := gb_el hf
        refine gx_getR X hw qzt12 clX9 (by decide) mf_X9_39 dX9_copyFrom_74 ?_
        obtain ⟨zt13, qzt13, hf⟩ := gb_el hf
        refine gx_getR X hw qzt13 clX6 (by decide) mf_X9_65 dX9_copyFrom_77 ?_
        refine lv_iconst (v := 0) hx hb dX9_copyFrom_80 (by decide) ?_
        refine lv_bipush (v := 10) hx hb dX9_copyFrom_81 (by decide) ?_
        obtain ⟨zh14, qzh14, hf⟩ := gb_el hf
        refine gx_cpI X hw qzh14 mm_X9_95 ac_n ac_s mI_java_lang_System hl.1 (Nat.le_of_ble_eq_true rfl) (Nat.le_of_ble_eq_true rfl) dX9_copyFrom_83 (fun H locs hw => ?_)
        refine lv_aload_n hx hb dX9_copyFrom_86 rfl (lv_at hl 0 rfl) ?_
        obtain ⟨zt15, qzt15, hf⟩ := gb_el hf
        refine gx_getR X hw qzt15 clX9 (by decide) mf_X9_46 dX9_copyFrom_87 ?_
        refine lv_aload_n hx hb dX9_copyFrom_90 rfl (lv_at hl 1 rfl) ?_
        obtain ⟨zt16, qzt16, hf⟩ := gb_el hf
        refine gx_getR X hw qzt16 clX9 (by decide) mf_X9_46 dX9_copyFrom_91 ?_
        refine W.eq (g2 := F0 m 94 ls [.ref (gB E + zt16), .ref (gB E + zt15)]) rfl ?_
        obtain ⟨qizh17, hf⟩ := gg_el hf
        obtain ⟨zh17, qzh17, hf⟩ := gb_el hf
        refine gx_kv (gx_runV (As := [.ref (gB E + zt16)]) (rest := []) X hw (c_X4_copyFrom l E N zt15 zt16 zh14 qzh17) kX4_copyFrom mm_X9_101 qizh17 clX4 ⟨Nat.le_of_ble_eq_true rfl, Nat.le_of_ble_eq_true rfl⟩ rfl rfl rfl hl.1 (Nat.le_of_ble_eq_true rfl) rfl dX9_copyFrom_94 ⟨Nat.le_of_ble_eq_true rfl, Nat.le_of_ble_eq_true rfl⟩) hw (fun H locs hw => ?_)
        refine lv_aload_n hx hb dX9_copyFrom_97 rfl (lv_at hl 0 rfl) ?_
        refine lv_aload_n hx hb dX9_copyFrom_98 rfl (lv_at hl 1 rfl) ?_
        obtain ⟨zt18, qzt18, hf⟩ := gb_el hf
        refine gx_getI X hw qzt18 clX9 (by decide) mf_X9_76 dX9_copyFrom_99 ?_
        obtain ⟨zh19, qzh19, hf⟩ := gb_el hf
        refine gx_putV X hw qzh19 clX9 (by decide) mf_X9_76 rfl rfl rfl dX9_copyFrom_102 (fun H locs hw => ?_)
        refine lv_aload_n hx hb dX9_copyFrom_105 rfl (lv_at hl 0 rfl) ?_
        refine lv_aload_n hx hb dX9_copyFrom_106 rfl (lv_at hl 1 rfl) ?_
        obtain ⟨zt20, qzt20, hf⟩ := gb_el hf
        refine gx_getI X hw qzt20 clX9 (by decide) mf_X9_50 dX9_copyFrom_107 ?_
        obtain ⟨zh21, qzh21, hf⟩ := gb_el hf
        refine gx_putV X hw qzh21 clX9 (by decide) mf_X9_50 rfl rfl rfl dX9_copyFrom_110 (fun H locs hw => ?_)
        refine lv_aload_n hx hb dX9_copyFrom_113 rfl (lv_at hl 0 rfl) ?_
        refine W.eq (g2 := F0 m 114 ls [.ref (gB E + zv0)]) rfl ?_
        refine lv_aload_n hx hb dX9_copyFrom_114 rfl (lv_at hl 1 rfl) ?_
        obtain ⟨zt22, qzt22, hf⟩ := gb_el hf
        refine gx_getI X hw qzt22 clX9 (by decide) mf_X9_79 dX9_copyFrom_115 ?_
        obtain ⟨zh23, qzh23, hf⟩ := gb_el hf
        refine gx_putV X hw qzh23 clX9 (by decide) mf_X9_79 rfl rfl rfl dX9_copyFrom_118 (fun H locs hw => ?_)
        refine lv_aload_n hx hb dX9_copyFrom_121 rfl (lv_at hl 0 rfl) ?_
        refine lv_aload_n hx hb dX9_copyFrom_122 rfl (lv_at hl 1 rfl) ?_
        obtain ⟨zt24, qzt24, hf⟩ := gb_el hf
        refine gx_getI X hw qzt24 clX9 (by decide) mf_X9_82 dX9_copyFrom_123 ?_
        obtain ⟨zh25, qzh25, hf⟩ := gb_el hf
        refine gx_putV X hw qzh25 clX9 (by decide) mf_X9_82 rfl rfl rfl dX9_copyFrom_126 (fun H locs hw => ?_)
        exact gx_vret X hr hlk hw hf dX9_copyFrom_129
      · have hf := gif_f hf qc3
        refine lv_aload_n hx hb dX9_copyFrom_22 rfl (lv_at hl 0 rfl) ?_
        obtain ⟨zt26, qzt26, hf⟩ := gb_el hf
        refine gx_getR X hw qzt26 clX9 (by decide) mf_X9_18 dX9_copyFrom_23 ?_
        refine lv_iload_n hx hb dX9_copyFrom_26 rfl (lv_at hl 2 rfl) ?_
        obtain ⟨zt27, qzt27, hf⟩ := gb_el hf
        refine gx_aaldR X hw qzt27 rfl dX9_copyFrom_27 ?_
        refine W.eq (g2 := F0 m 28 ls [.ref (gB E + zt27)]) rfl ?_
        refine lv_aload_n hx hb dX9_copyFrom_28 rfl (lv_at hl 1 rfl) ?_
        obtain ⟨zt28, qzt28, hf⟩ := gb_el hf
        refine gx_getR X hw qzt28 clX9 (by decide) mf_X9_18 dX9_copyFrom_29 ?_
        refine lv_iload_n hx hb dX9_copyFrom_32 rfl (lv_at hl 2 rfl) ?_
        obtain ⟨zt29, qzt29, hf⟩ := gb_el hf
        refine gx_aaldR X hw qzt29 rfl dX9_copyFrom_33 ?_
        obtain ⟨qizh30, hf⟩ := gg_el hf
        obtain ⟨zh30, qzh30, hf⟩ := gb_el hf
        refine gx_kv (gx_runV (As := [.ref (gB E + zt29)]) (rest := []) X hw (c_X1_copyFrom l E N zt27 zt29 zh qzh30) kX1_copyFrom mm_X9_85 qizh30 clX1 ⟨Nat.le_of_ble_eq_true rfl, Nat.le_of_ble_eq_true rfl⟩ rfl rfl rfl hl.1 (Nat.le_of_ble_eq_true rfl) rfl dX9_copyFrom_34 ⟨Nat.le_of_ble_eq_true rfl, Nat.le_of_ble_eq_true rfl⟩) hw (fun H locs hw => ?_)
        obtain ⟨zx31, ezx31⟩ : ∃ y : Int32, y = zv2 + 1 := ⟨_, rfl⟩
        have hf := gl_el hf ezx31
        refine lv_iinc (v := zx31) (lv' := [(2, .int zx31), (0, .ref (gB E + zv0)), (1, .ref (gB E + zv1))]) hx hb dX9_copyFrom_37 hl (k := 2) rfl (by rw [ezx31]; rfl) (by decide) rfl (fun ls hl => ?_)
        refine lv_goto (tgt := 13) hx hb dX9_copyFrom_40 (by decide) ?_
        exact ih_13 zv0 zv1 zx31 _ _ _ ls hf hw (lv_sub hl [1, 2, 0] rfl)
  unfold f_X9_copyFrom at hf
  refine lv_aload_n hx hb dX9_copyFrom_0 rfl (lv_at hl 0 rfl) ?_
  obtain ⟨zt1, qzt1, hf⟩ := gb_el hf
  refine gx_getR X hw qzt1 clX9 (by decide) mf_X9_12 dX9_copyFrom_1 ?_
  refine lv_aload_n hx hb dX9_copyFrom_4 rfl (lv_at hl 1 rfl) ?_
  obtain ⟨zt2, qzt2, hf⟩ := gb_el hf
  refine gx_getR X hw qzt2 clX9 (by decide) mf_X9_12 dX9_copyFrom_5 ?_
  obtain ⟨qizh3, hf⟩ := gg_el hf
  obtain ⟨zh3, qzh3, hf⟩ := gb_el hf
  refine gx_kv (gx_runV (As := [.ref (gB E + zt2)]) (rest := []) X hw (c_X1_copyFrom l E N zt1 zt2 zh qzh3) kX1_copyFrom mm_X9_85 qizh3 clX1 ⟨Nat.le_of_ble_eq_true rfl, Nat.le_of_ble_eq_true rfl⟩ rfl rfl rfl hl.1 (Nat.le_of_ble_eq_true rfl) rfl dX9_copyFrom_8 ⟨Nat.le_of_ble_eq_true rfl, Nat.le_of_ble_eq_true rfl⟩) hw (fun H locs hw => ?_)
  refine lv_iconst (v := 0) hx hb dX9_copyFrom_11 (by decide) ?_
  refine lv_istore_n (lv' := [(2, .int 0), (0, .ref (gB E + za0)), (1, .ref (gB E + za1))]) hx hb dX9_copyFrom_12 rfl hl (by decide) rfl (fun ls hl => ?_)
  exact L_13 N za0 za1 0 _ _ _ ls hf hw (lv_sub hl [1, 2, 0] rfl)
abbrev rm_X9_trialOf : Room := { frames := 0, cells := 0, slots := 0, locals := 0 }
set_option maxHeartbeats 4000000 in
set_option maxRecDepth 100000 in
theorem c_X9_trialOf (l : Launch) (E : gE) (N : Nat) (za0 : Nat) (za1 : Int32) (zh : PH) {h9 : PH} {r9 : Nat} (hf : f_X9_trialOf N za0 za1 zh = some (r9, h9)) : Met l yX9_trialOf (gWS yX9_trialOf cX9_trialOf 2 (some (.object "MoveInn$House"))) rm_X9_trialOf (gPc E [.ref (gB E + za0), .int za1] zh) (gQr E r9 h9) 0 0 (gA E) := by
  refine gx_met (by decide) ?_ rfl
  intro p e s m below meth c X hr hlk hin2 hw
  have hx := X.1.1
  have hb := X.1.2.1
  have hl := lv_entry [.ref (gB E + za0), .int za1] (n := 2) (Nat.le_of_ble_eq_true rfl)
  rw [lg_entry_eq]
  generalize (lg_sl [.ref (gB E + za0), .int za1] ++ List.replicate (2 - (lg_sl [.ref (gB E + za0), .int za1]).length) Slot.unset).toArray = ls at hl ⊢
  have hl : lv_has ls 2 [(0, .ref (gB E + za0)), (1, .int za1)] := hl
  unfold f_X9_trialOf at hf
  refine lv_aload_n hx hb dX9_trialOf_0 rfl (lv_at hl 0 rfl) ?_
  obtain ⟨zt1, qzt1, hf⟩ := gb_el hf
  refine gx_getR X hw qzt1 clX9 (by decide) mf_X9_18 dX9_trialOf_1 ?_
  refine lv_iload_n hx hb dX9_trialOf_4 rfl (lv_at hl 1 rfl) ?_
  refine lv_iconst (v := 1) hx hb dX9_trialOf_5 (by decide) ?_
  refine lv_iadd hx hb dX9_trialOf_6 ?_
  obtain ⟨zt2, qzt2, hf⟩ := gb_el hf
  refine gx_aaldR X hw qzt2 rfl dX9_trialOf_7 ?_
  exact gx_aret X hr hlk hw hf dX9_trialOf_8
abbrev rm_X9_note : Room := { frames := 2, cells := 0, slots := 0, locals := 42 }
set_option maxHeartbeats 4000000 in
set_option maxRecDepth 100000 in
theorem c_X9_note (l : Launch) (E : gE) (N : Nat) (za0 : Nat) (za1 : Int32) (zh : PH) {h9 : PH} (hf : f_X9_note N za0 za1 zh = some h9) : Met l yX9_note (gWS yX9_note cX9_note 2 none) rm_X9_note (gPc E [.ref (gB E + za0), .int za1] zh) (gQv E h9) 0 0 (gA E) := by
  refine gx_met (by decide) ?_ rfl
  intro p e s m below meth c X hr hlk hin2 hw
  have hx := X.1.1
  have hb := X.1.2.1
  have hl := lv_entry [.ref (gB E + za0), .int za1] (n := 2) (Nat.le_of_ble_eq_true rfl)
  rw [lg_entry_eq]
  generalize (lg_sl [.ref (gB E + za0), .int za1] ++ List.replicate (2 - (lg_sl [.ref (gB E + za0), .int za1]).length) Slot.unset).toArray = ls at hl ⊢
  have hl : lv_has ls 2 [(0, .ref (gB E + za0)), (1, .int za1)] := hl
  unfold f_X9_note at hf
  refine lv_aload_n hx hb dX9_note_0 rfl (lv_at hl 0 rfl) ?_
  obtain ⟨zt1, qzt1, hf⟩ := gb_el hf
  refine gx_getR X hw qzt1 clX9 (by decide) mf_X9_25 dX9_note_1 ?_
  refine lv_iload_n hx hb dX9_note_4 rfl (lv_at hl 1 rfl) ?_
  obtain ⟨qizh2, hf⟩ := gg_el hf
  obtain ⟨zh2, qzh2, hf⟩ := gb_el hf
  refine gx_kv (gx_runV (As := [.int za1]) (rest := []) X hw (c_X0_beginChain l E N zt1 za1 zh qzh2) kX0_beginChain mm_X9_125 qizh2 clX0 ⟨Nat.le_of_ble_eq_true rfl, Nat.le_of_ble_eq_true rfl⟩ rfl rfl rfl hl.1 (Nat.le_of_ble_eq_true rfl) rfl dX9_note_5 ⟨Nat.le_of_ble_eq_true rfl, Nat.le_of_ble_eq_true rfl⟩) hw (fun H locs hw => ?_)
  refine lv_aload_n hx hb dX9_note_8 rfl (lv_at hl 0 rfl) ?_
  refine lv_iload_n hx hb dX9_note_9 rfl (lv_at hl 1 rfl) ?_
  obtain ⟨zh3, qzh3, hf⟩ := gb_el hf
  refine gx_putV X hw qzh3 clX9 (by decide) mf_X9_79 rfl rfl rfl dX9_note_10 (fun H locs hw => ?_)
  refine lv_aload_n hx hb dX9_note_13 rfl (lv_at hl 0 rfl) ?_
  refine lv_dup hx hb dX9_note_14 rfl ?_
  refine W.eq (g2 := F0 m 15 ls [.ref (gB E + za0), .ref (gB E + za0)]) rfl ?_
  obtain ⟨zt4, qzt4, hf⟩ := gb_el hf
  refine gx_getI X hw qzt4 clX9 (by decide) mf_X9_82 dX9_note_15 ?_
  refine lv_iconst (v := 1) hx hb dX9_note_18 (by decide) ?_
  refine lv_iadd hx hb dX9_note_19 ?_
  obtain ⟨zh5, qzh5, hf⟩ := gb_el hf
  refine gx_putV X hw qzh5 clX9 (by decide) mf_X9_82 rfl rfl rfl dX9_note_20 (fun H locs hw => ?_)
  exact gx_vret X hr hlk hw hf dX9_note_23
abbrev rm_X9_takeIn : Room := { frames := 5, cells := 0, slots := 0, locals := 118 }
set_option maxHeartbeats 4000000 in
set_option maxRecDepth 100000 in
theorem c_X9_takeIn (l : Launch) (E : gE) (N : Nat) (za0 : Nat) (za1 : Nat) (za2 : Int32) (za3 : Int32) (zh : PH) {h9 : PH} (hf : f_X9_takeIn N za0 za1 za2 za3 zh = some h9) : Met l yX9_takeIn (gWS yX9_takeIn cX9_takeIn 5 none) rm_X9_takeIn (gPc E [.ref (gB E + za0), .ref (gB E + za1), .int za2, .int za3] zh) (gQv E h9) 0 0 (gA E) := by
  refine gx_met (by decide) ?_ rfl
  intro p e s m below meth c X hr hlk hin2 hw
  have hx := X.1.1
  have hb := X.1.2.1
  have hl := lv_entry [.ref (gB E + za0), .ref (gB E + za1), .int za2, .int za3] (n := 5) (Nat.le_of_ble_eq_true rfl)
  rw [lg_entry_eq]
  generalize (lg_sl [.ref (gB E + za0), .ref (gB E + za1), .int za2, .int za3] ++ List.replicate (5 - (lg_sl [.ref (gB E + za0), .ref (gB E + za1), .int za2, .int za3]).length) Slot.unset).toArray = ls at hl ⊢
  have hl : lv_has ls 5 [(0, .ref (gB E + za0)), (1, .ref (gB E + za1)), (2, .int za2), (3, .int za3)] := hl
  have L_21 : ∀ (zn21 : Nat) (zv0 : Nat) (zv1 : Nat) (zv2 : Int32) (zv4 : Int32) (zh : PH) (H : Heap) (locs : List Loc) (ls : Array Slot), gi (fun zk zs => f_X9_takeIn_21 N zk zs.1 zs.2.1 zs.2.2.1 zs.2.2.2.1 zs.2.2.2.2) zn21 (zv0, zv1, zv2, zv4, zh) = some h9 → gw E s zh H locs → lv_has ls 5 [(0, .ref (gB E + zv0)), (1, .ref (gB E + zv1)), (2, .int zv2), (4, .int zv4)] → W p l e rm_X9_takeIn s m [.ref (gB E + za0), .ref (gB E + za1), .int za2, .int za3].toArray below meth c H locs 0 0 (MQ below (gQv E h9) [.ref (gB E + za0), .ref (gB E + za1), .int za2, .int za3].toArray s 0 0 (gA E)) (F0 m 21 ls []) := by
    intro zn21
    induction zn21 with
    | zero =>
      intro zv0 zv1 zv2 zv4 zh H locs ls hf
      cases hf
    | succ zn21 ih_21 =>
      intro zv0 zv1 zv2 zv4 zh H locs ls hf hw hl
      have hf := gi_s hf
      dsimp only at hf
      unfold f_X9_takeIn_21 at hf
      refine lv_iload hx hb dX9_takeIn_21 (lv_at hl 3 rfl) ?_
      refine lv_aload_n hx hb dX9_takeIn_23 rfl (lv_at hl 1 rfl) ?_
      obtain ⟨zt1, qzt1, hf⟩ := gb_el hf
      refine gx_getI X hw qzt1 clX2 (by decide) mf_X9_112 dX9_takeIn_24 ?_
      refine lv_icmp_ge (tgt := 48) hx hb dX9_takeIn_27 (by decide) (fun qc2 => ?_) (fun qc2 => ?_)
      · have hf := gif_t hf qc2
        refine lv_aload_n hx hb dX9_takeIn_48 rfl (lv_at hl 0 rfl) ?_
        refine lv_dup hx hb dX9_takeIn_49 rfl ?_
        obtain ⟨zt3, qzt3, hf⟩ := gb_el hf
        refine gx_getI X hw qzt3 clX9 (by decide) mf_X9_76 dX9_takeIn_50 ?_
        refine lv_iconst (v := 1) hx hb dX9_takeIn_53 (by decide) ?_
        refine lv_iload_n hx hb dX9_takeIn_54 rfl (lv_at hl 2 rfl) ?_
        refine W.eq (g2 := F0 m 55 ls [.int zv2, .int 1, .int zt3, .ref (gB E + zv0)]) rfl ?_
        refine lv_ishl hx hb dX9_takeIn_55 ?_
        refine lv_iconst (v := (-1)) hx hb dX9_takeIn_56 (by decide) ?_
        refine lv_ixor hx hb dX9_takeIn_57 ?_
        refine lv_iand hx hb dX9_takeIn_58 ?_
        obtain ⟨zh4, qzh4, hf⟩ := gb_el hf
        refine gx_putV X hw qzh4 clX9 (by decide) mf_X9_76 rfl rfl rfl dX9_takeIn_59 (fun H locs hw => ?_)
        exact gx_vret X hr hlk hw hf dX9_takeIn_62
      · have hf := gif_f hf qc2
        refine lv_aload_n hx hb dX9_takeIn_30 rfl (lv_at hl 0 rfl) ?_
        refine lv_iload hx hb dX9_takeIn_31 (lv_at hl 3 rfl) ?_
        obtain ⟨qizh5, hf⟩ := gg_el hf
        obtain ⟨zt6, zh5, qzh5, hf⟩ := gc_el hf
        refine gx_kr (gx_runV (As := [.int zv4]) (rest := []) X hw (c_X9_trialOf l E N zv0 zv4 zh qzh5) kX9_trialOf mm_X9_117 qizh5 clX9 ⟨Nat.le_of_ble_eq_true rfl, Nat.le_of_ble_eq_true rfl⟩ rfl rfl rfl hl.1 (Nat.le_of_ble_eq_true rfl) rfl dX9_takeIn_33 ⟨Nat.le_of_ble_eq_true rfl, Nat.le_of_ble_eq_true rfl⟩) hw (fun H locs hw => ?_)
        refine lv_aload_n hx hb dX9_takeIn_36 rfl (lv_at hl 1 rfl) ?_
        refine lv_iload_n hx hb dX9_takeIn_37 rfl (lv_at hl 2 rfl) ?_
        refine W.eq (g2 := F0 m 38 ls [.int zv2, .ref (gB E + zv1), .ref (gB E + zt6)]) rfl ?_
        refine lv_null hx hb dX9_takeIn_38 ?_
        obtain ⟨qizh7, hf⟩ := gg_el hf
        obtain ⟨zh7, qzh7, hf⟩ := gb_el hf
        refine gx_kv (gx_runV (As := [.ref (gB E + zv1), .int zv2, gq E none]) (rest := []) X hw (c_X1_takeIn l E N zt6 zv1 zv2 none zh5 qzh7) kX1_takeIn mm_X9_108 qizh7 clX1 ⟨Nat.le_of_ble_eq_true rfl, Nat.le_of_ble_eq_true rfl⟩ rfl rfl rfl hl.1 (Nat.le_of_ble_eq_true rfl) rfl dX9_takeIn_39 ⟨Nat.le_of_ble_eq_true rfl, Nat.le_of_ble_eq_true rfl⟩) hw (fun H locs hw => ?_)
        obtain ⟨zx8, ezx8⟩ : ∃ y : Int32, y = zv4 + 1 := ⟨_, rfl⟩
        have hf := gl_el hf ezx8
        refine lv_iinc (v := zx8) (lv' := [(4, .int zx8), (0, .ref (gB E + zv0)), (1, .ref (gB E + zv1)), (2, .int zv2)]) hx hb dX9_takeIn_42 hl (k := 3) rfl (by rw [ezx8]; rfl) (by decide) rfl (fun ls hl => ?_)
        refine lv_goto (tgt := 21) hx hb dX9_takeIn_45 (by decide) ?_
        exact ih_21 zv0 zv1 zv2 zx8 _ _ _ ls hf hw (lv_sub hl [1, 2, 3, 0] rfl)
  unfold f_X9_takeIn at hf
  refine lv_aload_n hx hb dX9_takeIn_0 rfl (lv_at hl 0 rfl) ?_
  refine lv_iload_n hx hb dX9_takeIn_1 rfl (lv_at hl 3 rfl) ?_
  obtain ⟨qizh1, hf⟩ := gg_el hf
  obtain ⟨zh1, qzh1, hf⟩ := gb_el hf
  refine gx_kv (gx_runV (As := [.int za3]) (rest := []) X hw (c_X9_note l E N za0 za3 zh qzh1) kX9_note mm_X9_104 qizh1 clX9 ⟨Nat.le_of_ble_eq_true rfl, Nat.le_of_ble_eq_true rfl⟩ rfl rfl rfl hl.1 (Nat.le_of_ble_eq_true rfl) rfl dX9_takeIn_2 ⟨Nat.le_of_ble_eq_true rfl, Nat.le_of_ble_eq_true rfl⟩) hw (fun H locs hw => ?_)
  refine lv_aload_n hx hb dX9_takeIn_5 rfl (lv_at hl 0 rfl) ?_
  obtain ⟨zt2, qzt2, hf⟩ := gb_el hf
  refine gx_getR X hw qzt2 clX9 (by decide) mf_X9_12 dX9_takeIn_6 ?_
  refine lv_aload_n hx hb dX9_takeIn_9 rfl (lv_at hl 1 rfl) ?_
  refine lv_iload_n hx hb dX9_takeIn_10 rfl (lv_at hl 2 rfl) ?_
  refine lv_aload_n hx hb dX9_takeIn_11 rfl (lv_at hl 0 rfl) ?_
  obtain ⟨zt3, qzt3, hf⟩ := gb_el hf
  refine gx_getR X hw qzt3 clX9 (by decide) mf_X9_25 dX9_takeIn_12 ?_
  refine W.eq (g2 := F0 m 15 ls [.ref (gB E + zt3), .int za2, .ref (gB E + za1), .ref (gB E + zt2)]) rfl ?_
  obtain ⟨qizh4, hf⟩ := gg_el hf
  obtain ⟨zh4, qzh4, hf⟩ := gb_el hf
  refine gx_kv (gx_runV (As := [.ref (gB E + za1), .int za2, gq E (some zt3)]) (rest := []) X hw (c_X1_takeIn l E N zt2 za1 za2 (some zt3) zh1 qzh4) kX1_takeIn mm_X9_108 qizh4 clX1 ⟨Nat.le_of_ble_eq_true rfl, Nat.le_of_ble_eq_true rfl⟩ rfl rfl rfl hl.1 (Nat.le_of_ble_eq_true rfl) rfl dX9_takeIn_15 ⟨Nat.le_of_ble_eq_true rfl, Nat.le_of_ble_eq_true rfl⟩) hw (fun H locs hw => ?_)
  refine lv_iconst (v := (-1)) hx hb dX9_takeIn_18 (by decide) ?_
  refine lv_istore (lv' := [(4, .int (-1)), (0, .ref (gB E + za0)), (1, .ref (gB E + za1)), (2, .int za2), (3, .int za3)]) hx hb dX9_takeIn_19 hl (by decide) rfl (fun ls hl => ?_)
  exact L_21 N za0 za1 za2 (-1) _ _ _ ls hf hw (lv_sub hl [1, 2, 3, 0] rfl)
abbrev rm_X9_letOut : Room := { frames := 6, cells := 0, slots := 0, locals := 150 }
set_option maxHeartbeats 4000000 in
set_option maxRecDepth 100000 in
theorem c_X9_letOut (l : Launch) (E : gE) (N : Nat) (za0 : Nat) (za1 : Nat) (za2 : Int32) (za3 : Int32) (zh : PH) {h9 : PH} (hf : f_X9_letOut N za0 za1 za2 za3 zh = some h9) : Met l yX9_letOut (gWS yX9_letOut cX9_letOut 5 none) rm_X9_letOut (gPc E [.ref (gB E + za0), .ref (gB E + za1), .int za2, .int za3] zh) (gQv E h9) 0 0 (gA E) := by
  refine gx_met (by decide) ?_ rfl
  intro p e s m below meth c X hr hlk hin2 hw
  have hx := X.1.1
  have hb := X.1.2.1
  have hl := lv_entry [.ref (gB E + za0), .ref (gB E + za1), .int za2, .int za3] (n := 5) (Nat.le_of_ble_eq_true rfl)
  rw [lg_entry_eq]
  generalize (lg_sl [.ref (gB E + za0), .ref (gB E + za1), .int za2, .int za3] ++ List.replicate (5 - (lg_sl [.ref (gB E + za0), .ref (gB E + za1), .int za2, .int za3]).length) Slot.unset).toArray = ls at hl ⊢
  have hl : lv_has ls 5 [(0, .ref (gB E + za0)), (1, .ref (gB E + za1)), (2, .int za2), (3, .int za3)] := hl
  have L_29 : ∀ (zn29 : Nat) (zv0 : Nat) (zv1 : Nat) (zv2 : Int32) (zv4 : Int32) (zh : PH) (H : Heap) (locs : List Loc) (ls : Array Slot), gi (fun zk zs => f_X9_letOut_29 N zk zs.1 zs.2.1 zs.2.2.1 zs.2.2.2.1 zs.2.2.2.2) zn29 (zv0, zv1, zv2, zv4, zh) = some h9 → gw E s zh H locs → lv_has ls 5 [(0, .ref (gB E + zv0)), (1, .ref (gB E + zv1)), (2, .int zv2), (4, .int zv4)] → W p l e rm_X9_letOut s m [.ref (gB E + za0), .ref (gB E + za1), .int za2, .int za3].toArray below meth c H locs 0 0 (MQ below (gQv E h9) [.ref (gB E + za0), .ref (gB E + za1), .int za2, .int za3].toArray s 0 0 (gA E)) (F0 m 29 ls []) := by
    intro zn29
    induction zn29 with
    | zero =>
      intro zv0 zv1 zv2 zv4 zh H locs ls hf
      cases hf
    | succ zn29 ih_29 =>
      intro zv0 zv1 zv2 zv4 zh H locs ls hf hw hl
      have hf := gi_s hf
      dsimp only at hf
      unfold f_X9_letOut_29 at hf
      refine lv_iload hx hb dX9_letOut_29 (lv_at hl 3 rfl) ?_
      refine lv_aload_n hx hb dX9_letOut_31 rfl (lv_at hl 1 rfl) ?_
      obtain ⟨zt1, qzt1, hf⟩ := gb_el hf
      refine gx_getI X hw qzt1 clX2 (by decide) mf_X9_112 dX9_letOut_32 ?_
      refine lv_icmp_ge (tgt := 62) hx hb dX9_letOut_35 (by decide) (fun qc2 => ?_) (fun qc2 => ?_)
      · have hf := gif_t hf qc2
        exact gx_vret X hr hlk hw hf dX9_letOut_62
      · have hf := gif_f hf qc2
        refine lv_aload_n hx hb dX9_letOut_38 rfl (lv_at hl 0 rfl) ?_
        refine lv_iload hx hb dX9_letOut_39 (lv_at hl 3 rfl) ?_
        obtain ⟨qizh3, hf⟩ := gg_el hf
        obtain ⟨zt4, zh3, qzh3, hf⟩ := gc_el hf
        refine gx_kr (gx_runV (As := [.int zv4]) (rest := []) X hw (c_X9_trialOf l E N zv0 zv4 zh qzh3) kX9_trialOf mm_X9_117 qizh3 clX9 ⟨Nat.le_of_ble_eq_true rfl, Nat.le_of_ble_eq_true rfl⟩ rfl rfl rfl hl.1 (Nat.le_of_ble_eq_true rfl) rfl dX9_letOut_41 ⟨Nat.le_of_ble_eq_true rfl, Nat.le_of_ble_eq_true rfl⟩) hw (fun H locs hw => ?_)
        refine lv_aload_n hx hb dX9_letOut_44 rfl (lv_at hl 1 rfl) ?_
        refine lv_iload_n hx hb dX9_letOut_45 rfl (lv_at hl 2 rfl) ?_
        refine W.eq (g2 := F0 m 46 ls [.int zv2, .ref (gB E + zv1), .ref (gB E + zt4)]) rfl ?_
        refine lv_iload hx hb dX9_letOut_46 (lv_at hl 3 rfl) ?_
        refine lv_aload_n hx hb dX9_letOut_48 rfl (lv_at hl 0 rfl) ?_
        obtain ⟨zt5, qzt5, hf⟩ := gb_el hf
        refine gx_getR X hw qzt5 clX9 (by decide) mf_X9_54 dX9_letOut_49 ?_
        refine lv_null hx hb dX9_letOut_52 ?_
        obtain ⟨qizh6, hf⟩ := gg_el hf
        obtain ⟨zh6, qzh6, hf⟩ := gb_el hf
        refine gx_kv (gx_runV (As := [.ref (gB E + zv1), .int zv2, .int zv4, .ref (gB E + zt5), gq E none]) (rest := []) X hw (c_X1_letOut l E N zt4 zv1 zv2 zv4 zt5 none zh3 qzh6) kX1_letOut mm_X9_121 qizh6 clX1 ⟨Nat.le_of_ble_eq_true rfl, Nat.le_of_ble_eq_true rfl⟩ rfl rfl rfl hl.1 (Nat.le_of_ble_eq_true rfl) rfl dX9_letOut_53 ⟨Nat.le_of_ble_eq_true rfl, Nat.le_of_ble_eq_true rfl⟩) hw (fun H locs hw => ?_)
        obtain ⟨zx7, ezx7⟩ : ∃ y : Int32, y = zv4 + 1 := ⟨_, rfl⟩
        have hf := gl_el hf ezx7
        refine lv_iinc (v := zx7) (lv' := [(4, .int zx7), (0, .ref (gB E + zv0)), (1, .ref (gB E + zv1)), (2, .int zv2)]) hx hb dX9_letOut_56 hl (k := 3) rfl (by rw [ezx7]; rfl) (by decide) rfl (fun ls hl => ?_)
        refine lv_goto (tgt := 29) hx hb dX9_letOut_59 (by decide) ?_
        exact ih_29 zv0 zv1 zv2 zx7 _ _ _ ls hf hw (lv_sub hl [1, 2, 3, 0] rfl)
  unfold f_X9_letOut at hf
  refine lv_aload_n hx hb dX9_letOut_0 rfl (lv_at hl 0 rfl) ?_
  refine lv_iload_n hx hb dX9_letOut_1 rfl (lv_at hl 3 rfl) ?_
  obtain ⟨qizh1, hf⟩ := gg_el hf
  obtain ⟨zh1, qzh1, hf⟩ := gb_el hf
  refine gx_kv (gx_runV (As := [.int za3]) (rest := []) X hw (c_X9_note l E N za0 za3 zh qzh1) kX9_note mm_X9_104 qizh1 clX9 ⟨Nat.le_of_ble_eq_true rfl, Nat.le_of_ble_eq_true rfl⟩ rfl rfl rfl hl.1 (Nat.le_of_ble_eq_true rfl) rfl dX9_letOut_2 ⟨Nat.le_of_ble_eq_true rfl, Nat.le_of_ble_eq_true rfl⟩) hw (fun H locs hw => ?_)
  refine lv_aload_n hx hb dX9_letOut_5 rfl (lv_at hl 0 rfl) ?_
  obtain ⟨zt2, qzt2, hf⟩ := gb_el hf
  refine gx_getR X hw qzt2 clX9 (by decide) mf_X9_12 dX9_letOut_6 ?_
  refine lv_aload_n hx hb dX9_letOut_9 rfl (lv_at hl 1 rfl) ?_
  refine lv_iload_n hx hb dX9_letOut_10 rfl (lv_at hl 2 rfl) ?_
  refine lv_aload_n hx hb dX9_letOut_11 rfl (lv_at hl 0 rfl) ?_
  obtain ⟨zt3, qzt3, hf⟩ := gb_el hf
  refine gx_getI X hw qzt3 clX9 (by decide) mf_X9_50 dX9_letOut_12 ?_
  refine W.eq (g2 := F0 m 15 ls [.int zt3, .int za2, .ref (gB E + za1), .ref (gB E + zt2)]) rfl ?_
  refine lv_aload_n hx hb dX9_letOut_15 rfl (lv_at hl 0 rfl) ?_
  obtain ⟨zt4, qzt4, hf⟩ := gb_el hf
  refine gx_getR X hw qzt4 clX9 (by decide) mf_X9_54 dX9_letOut_16 ?_
  refine lv_aload_n hx hb dX9_letOut_19 rfl (lv_at hl 0 rfl) ?_
  obtain ⟨zt5, qzt5, hf⟩ := gb_el hf
  refine gx_getR X hw qzt5 clX9 (by decide) mf_X9_25 dX9_letOut_20 ?_
  obtain ⟨qizh6, hf⟩ := gg_el hf
  obtain ⟨zh6, qzh6, hf⟩ := gb_el hf
  refine gx_kv (gx_runV (As := [.ref (gB E + za1), .int za2, .int zt3, .ref (gB E + zt4), gq E (some zt5)]) (rest := []) X hw (c_X1_letOut l E N zt2 za1 za2 zt3 zt4 (some zt5) zh1 qzh6) kX1_letOut mm_X9_121 qizh6 clX1 ⟨Nat.le_of_ble_eq_true rfl, Nat.le_of_ble_eq_true rfl⟩ rfl rfl rfl hl.1 (Nat.le_of_ble_eq_true rfl) rfl dX9_letOut_23 ⟨Nat.le_of_ble_eq_true rfl, Nat.le_of_ble_eq_true rfl⟩) hw (fun H locs hw => ?_)
  refine lv_iconst (v := (-1)) hx hb dX9_letOut_26 (by decide) ?_
  refine lv_istore (lv' := [(4, .int (-1)), (0, .ref (gB E + za0)), (1, .ref (gB E + za1)), (2, .int za2), (3, .int za3)]) hx hb dX9_letOut_27 hl (by decide) rfl (fun ls hl => ?_)
  exact L_29 N za0 za1 za2 (-1) _ _ _ ls hf hw (lv_sub hl [1, 2, 3, 0] rfl)
abbrev rm_X10_init : Room := { frames := 1, cells := 1, slots := 1000, locals := 20 }
set_option maxHeartbeats 4000000 in
set_option maxRecDepth 100000 in
theorem c_X10_init (l : Launch) (E : gE) (N : Nat) (za0 : Nat) (zh : PH) {h9 : PH} (hf : f_X10_init N za0 zh = some h9) : Met l yX10_init (gWS yX10_init cX10_init 1 none) rm_X10_init (gPc E [.ref (gB E + za0)] zh) (gQv E h9) 1 1000 (gA E) := by
  refine gx_met (by decide) ?_ rfl
  intro p e s m below meth c X hr hlk hin2 hw
  have hx := X.1.1
  have hb := X.1.2.1
  have hl := lv_entry [.ref (gB E + za0)] (n := 1) (Nat.le_of_ble_eq_true rfl)
  rw [lg_entry_eq]
  generalize (lg_sl [.ref (gB E + za0)] ++ List.replicate (1 - (lg_sl [.ref (gB E + za0)]).length) Slot.unset).toArray = ls at hl ⊢
  have hl : lv_has ls 1 [(0, .ref (gB E + za0))] := hl
  unfold f_X10_init at hf
  refine lv_aload_n hx hb dX10_init_0 rfl (lv_at hl 0 rfl) ?_
  refine gx_oinit X mm_X10_3 mo_inst mo_code hl.1 dX10_init_1 (Nat.le_of_ble_eq_true rfl) (Nat.le_of_ble_eq_true rfl) ?_
  refine lv_aload_n hx hb dX10_init_4 rfl (lv_at hl 0 rfl) ?_
  refine lv_sipush (v := 1000) hx hb dX10_init_5 (by decide) ?_
  obtain ⟨zr2, zh1, qzh1, hf⟩ := gc_el hf
  refine gx_newa2 X hw qzh1 ma_byte (by decide) (by decide) (by decide) (Nat.le_of_ble_eq_true rfl) (Nat.le_of_ble_eq_true rfl) dX10_init_8 (fun H hw => ?_)
  obtain ⟨zh3, qzh3, hf⟩ := gb_el hf
  refine gx_putFV X hw qzh3 clX10 (by decide) mf_X10_9 rfl (hin2 rfl) rfl rfl rfl dX10_init_10 (fun H locs hw => ?_)
  exact gx_vret X hr hlk hw hf dX10_init_13
abbrev rm_X10_length : Room := { frames := 0, cells := 0, slots := 0, locals := 0 }
set_option maxHeartbeats 4000000 in
set_option maxRecDepth 100000 in
theorem c_X10_length (l : Launch) (E : gE) (N : Nat) (za0 : Nat) (zh : PH) {h9 : PH} {r9 : Int32} (hf : f_X10_length N za0 zh = some (r9, h9)) : Met l yX10_length (gWS yX10_length cX10_length 1 (some .int)) rm_X10_length (gPc E [.ref (gB E + za0)] zh) (gQi E r9 h9) 0 0 (gA E) := by
  refine gx_met (by decide) ?_ rfl
  intro p e s m below meth c X hr hlk hin2 hw
  have hx := X.1.1
  have hb := X.1.2.1
  have hl := lv_entry [.ref (gB E + za0)] (n := 1) (Nat.le_of_ble_eq_true rfl)
  rw [lg_entry_eq]
  generalize (lg_sl [.ref (gB E + za0)] ++ List.replicate (1 - (lg_sl [.ref (gB E + za0)]).length) Slot.unset).toArray = ls at hl ⊢
  have hl : lv_has ls 1 [(0, .ref (gB E + za0))] := hl
  unfold f_X10_length at hf
  refine lv_aload_n hx hb dX10_length_0 rfl (lv_at hl 0 rfl) ?_
  obtain ⟨zt1, qzt1, hf⟩ := gb_el hf
  refine gx_getI X hw qzt1 clX10 (by decide) mf_X10_15 dX10_length_1 ?_
  exact gx_iret X hr hlk hw hf dX10_length_4
abbrev rm_X10_empty : Room := { frames := 0, cells := 0, slots := 0, locals := 0 }
set_option maxHeartbeats 4000000 in
set_option maxRecDepth 100000 in
theorem c_X10_empty (l : Launch) (E : gE) (N : Nat) (za0 : Nat) (zh : PH) {h9 : PH} (hf : f_X10_empty N za0 zh = some h9) : Met l yX10_empty (gWS yX10_empty cX10_empty 1 none) rm_X10_empty (gPc E [.ref (gB E + za0)] zh) (gQv E h9) 0 0 (gA E) := by
  refine gx_met (by decide) ?_ rfl
  intro p e s m below meth c X hr hlk hin2 hw
  have hx := X.1.1
  have hb := X.1.2.1
  have hl := lv_entry [.ref (gB E + za0)] (n := 1) (Nat.le_of_ble_eq_true rfl)
  rw [lg_entry_eq]
  generalize (lg_sl [.ref (gB E + za0)] ++ List.replicate (1 - (lg_sl [.ref (gB E + za0)]).length) Slot.unset).toArray = ls at hl ⊢
  have hl : lv_has ls 1 [(0, .ref (gB E + za0))] := hl
  unfold f_X10_empty at hf
  refine lv_aload_n hx hb dX10_empty_0 rfl (lv_at hl 0 rfl) ?_
  refine lv_iconst (v := 0) hx hb dX10_empty_1 (by decide) ?_
  obtain ⟨zh1, qzh1, hf⟩ := gb_el hf
  refine gx_putV X hw qzh1 clX10 (by decide) mf_X10_15 rfl rfl rfl dX10_empty_2 (fun H locs hw => ?_)
  exact gx_vret X hr hlk hw hf dX10_empty_5
abbrev rm_X10_isSign : Room := { frames := 0, cells := 0, slots := 0, locals := 0 }
set_option maxHeartbeats 4000000 in
set_option maxRecDepth 100000 in
theorem c_X10_isSign (l : Launch) (E : gE) (N : Nat) (za0 : Int32) (zh : PH) {h9 : PH} {r9 : Int32} (hf : f_X10_isSign N za0 zh = some (r9, h9)) : Met l yX10_isSign (gWS yX10_isSign cX10_isSign 1 (some .boolean)) rm_X10_isSign (gPc E [.int za0] zh) (gQi E r9 h9) 0 0 (gA E) := by
  refine gx_met (by decide) ?_ rfl
  intro p e s m below meth c X hr hlk hin2 hw
  have hx := X.1.1
  have hb := X.1.2.1
  have hl := lv_entry [.int za0] (n := 1) (Nat.le_of_ble_eq_true rfl)
  rw [lg_entry_eq]
  generalize (lg_sl [.int za0] ++ List.replicate (1 - (lg_sl [.int za0]).length) Slot.unset).toArray = ls at hl ⊢
  have hl : lv_has ls 1 [(0, .int za0)] := hl
  have J_23 : ∀ (zs0 : Int32) (zh : PH) (H : Heap) (locs : List Loc) (ls : Array Slot), f_X10_isSign_23 N zs0 zh = some (r9, h9) → gw E s zh H locs → lv_has ls 1 [] → W p l e rm_X10_isSign s m [.int za0].toArray below meth c H locs 0 0 (MQ below (gQi E r9 h9) [.int za0].toArray s 0 0 (gA E)) (F0 m 23 ls [.int zs0]) := by
    intro zs0 zh H locs ls hf hw hl
    unfold f_X10_isSign_23 at hf
    exact gx_zret X hr hlk hw hf dX10_isSign_23
  have J_22 : ∀ (zh : PH) (H : Heap) (locs : List Loc) (ls : Array Slot), f_X10_isSign_22 N zh = some (r9, h9) → gw E s zh H locs → lv_has ls 1 [] → W p l e rm_X10_isSign s m [.int za0].toArray below meth c H locs 0 0 (MQ below (gQi E r9 h9) [.int za0].toArray s 0 0 (gA E)) (F0 m 22 ls []) := by
    intro zh H locs ls hf hw hl
    unfold f_X10_isSign_22 at hf
    refine lv_iconst (v := 0) hx hb dX10_isSign_22 (by decide) ?_
    exact J_23 0 _ _ _ ls hf hw (lv_sub hl [] rfl)
  have J_18 : ∀ (zh : PH) (H : Heap) (locs : List Loc) (ls : Array Slot), f_X10_isSign_18 N zh = some (r9, h9) → gw E s zh H locs → lv_has ls 1 [] → W p l e rm_X10_isSign s m [.int za0].toArray below meth c H locs 0 0 (MQ below (gQi E r9 h9) [.int za0].toArray s 0 0 (gA E)) (F0 m 18 ls []) := by
    intro zh H locs ls hf hw hl
    unfold f_X10_isSign_18 at hf
    refine lv_iconst (v := 1) hx hb dX10_isSign_18 (by decide) ?_
    refine lv_goto (tgt := 23) hx hb dX10_isSign_19 (by decide) ?_
    exact J_23 1 _ _ _ ls hf hw (lv_sub hl [] rfl)
  unfold f_X10_isSign at hf
  refine lv_iload_n hx hb dX10_isSign_0 rfl (lv_at hl 0 rfl) ?_
  refine lv_bipush (v := 10) hx hb dX10_isSign_1 (by decide) ?_
  refine lv_icmp_eq (tgt := 18) hx hb dX10_isSign_3 (by decide) (fun qc1 => ?_) (fun qc1 => ?_)
  · have hf := gif_t hf qc1
    exact J_18  _ _ _ ls hf hw (lv_sub hl [] rfl)
  · have hf := gif_f hf qc1
    refine lv_iload_n hx hb dX10_isSign_6 rfl (lv_at hl 0 rfl) ?_
    refine lv_bipush (v := 32) hx hb dX10_isSign_7 (by decide) ?_
    refine lv_icmp_lt (tgt := 22) hx hb dX10_isSign_9 (by decide) (fun qc2 => ?_) (fun qc2 => ?_)
    · have hf := gif_t hf qc2
      exact J_22  _ _ _ ls hf hw (lv_sub hl [] rfl)
    · have hf := gif_f hf qc2
      refine lv_iload_n hx hb dX10_isSign_12 rfl (lv_at hl 0 rfl) ?_
      refine lv_bipush (v := 126) hx hb dX10_isSign_13 (by decide) ?_
      refine lv_icmp_gt (tgt := 22) hx hb dX10_isSign_15 (by decide) (fun qc3 => ?_) (fun qc3 => ?_)
      · have hf := gif_t hf qc3
        exact J_22  _ _ _ ls hf hw (lv_sub hl [] rfl)
      · have hf := gif_f hf qc3
        exact J_18  _ _ _ ls hf hw (lv_sub hl [] rfl)
abbrev rm_X10_append : Room := { frames := 1, cells := 0, slots := 0, locals := 20 }
set_option maxHeartbeats 4000000 in
set_option maxRecDepth 100000 in
theorem c_X10_append (l : Launch) (E : gE) (N : Nat) (za0 : Nat) (za1 : Int64) (zh : PH) {h9 : PH} (hf : f_X10_append N za0 za1 zh = some h9) : Met l yX10_append (gWS yX10_append cX10_append 5 none) rm_X10_append (gPc E [.ref (gB E + za0), .long za1] zh) (gQv E h9) 0 0 (gA E) := by
  refine gx_met (by decide) ?_ rfl
  intro p e s m below meth c X hr hlk hin2 hw
  have hx := X.1.1
  have hb := X.1.2.1
  have hl := lv_entry [.ref (gB E + za0), .long za1] (n := 5) (Nat.le_of_ble_eq_true rfl)
  rw [lg_entry_eq]
  generalize (lg_sl [.ref (gB E + za0), .long za1] ++ List.replicate (5 - (lg_sl [.ref (gB E + za0), .long za1]).length) Slot.unset).toArray = ls at hl ⊢
  have hl : lv_has ls 5 [(0, .ref (gB E + za0)), (1, .long za1)] := hl
  have L_3 : ∀ (zn3 : Nat) (zv0 : Nat) (zv1 : Int64) (zv3 : Int32) (zh : PH) (H : Heap) (locs : List Loc) (ls : Array Slot), gi (fun zk zs => f_X10_append_3 N zk zs.1 zs.2.1 zs.2.2.1 zs.2.2.2) zn3 (zv0, zv1, zv3, zh) = some h9 → gw E s zh H locs → lv_has ls 5 [(0, .ref (gB E + zv0)), (1, .long zv1), (3, .int zv3)] → W p l e rm_X10_append s m [.ref (gB E + za0), .long za1].toArray below meth c H locs 0 0 (MQ below (gQv E h9) [.ref (gB E + za0), .long za1].toArray s 0 0 (gA E)) (F0 m 3 ls []) := by
    intro zn3
    induction zn3 with
    | zero =>
      intro zv0 zv1 zv3 zh H locs ls hf
      cases hf
    | succ zn3 ih_3 =>
      have J_57 : ∀ (zv0 : Nat) (zv1 : Int64) (zv3 : Int32) (zh : PH) (H : Heap) (locs : List Loc) (ls : Array Slot), f_X10_append_57 N (gi (fun zk zs => f_X10_append_3 N zk zs.1 zs.2.1 zs.2.2.1 zs.2.2.2) zn3) zv0 zv1 zv3 zh = some h9 → gw E s zh H locs → lv_has ls 5 [(0, .ref (gB E + zv0)), (1, .long zv1), (3, .int zv3)] → W p l e rm_X10_append s m [.ref (gB E + za0), .long za1].toArray below meth c H locs 0 0 (MQ below (gQv E h9) [.ref (gB E + za0), .long za1].toArray s 0 0 (gA E)) (F0 m 57 ls []) := by
        intro zv0 zv1 zv3 zh H locs ls hf hw hl
        unfold f_X10_append_57 at hf
        obtain ⟨zx1, ezx1⟩ : ∃ y : Int32, y = zv3 + (-8) := ⟨_, rfl⟩
        have hf := gl_el hf ezx1
        refine lv_iinc (v := zx1) (lv' := [(3, .int zx1), (0, .ref (gB E + zv0)), (1, .long zv1)]) hx hb dX10_append_57 hl (k := 2) rfl (by rw [ezx1]; rfl) (by decide) rfl (fun ls hl => ?_)
        refine lv_goto (tgt := 3) hx hb dX10_append_60 (by decide) ?_
        exact ih_3 zv0 zv1 zx1 _ _ _ ls hf hw (lv_sub hl [1, 2, 0] rfl)
      intro zv0 zv1 zv3 zh H locs ls hf hw hl
      have hf := gi_s hf
      dsimp only at hf
      unfold f_X10_append_3 at hf
      refine lv_iload_n hx hb dX10_append_3 rfl (lv_at hl 2 rfl) ?_
      refine lv_if_lt (tgt := 63) hx hb dX10_append_4 (by decide) (fun qc1 => ?_) (fun qc1 => ?_)
      · have hf := gif_t hf qc1
        exact gx_vret X hr hlk hw hf dX10_append_63
      · have hf := gif_f hf qc1
        refine lv_lload_n hx hb dX10_append_7 rfl (lv_at hl 1 rfl) ?_
        refine lv_iload_n hx hb dX10_append_8 rfl (lv_at hl 2 rfl) ?_
        refine lv_lushr hx hb dX10_append_9 rfl ?_
        refine lv_l2i hx hb dX10_append_10 rfl ?_
        refine lv_sipush (v := 255) hx hb dX10_append_11 (by decide) ?_
        refine lv_iand hx hb dX10_append_14 ?_
        refine lv_topi (fun zx2 ezx2 => ?_)
        have hf := gl_el hf ezx2
        refine lv_istore (lv' := [(4, .int zx2), (0, .ref (gB E + zv0)), (1, .long zv1), (3, .int zv3)]) hx hb dX10_append_15 hl (by decide) rfl (fun ls hl => ?_)
        refine W.eq (g2 := F0 m 17 ls []) rfl ?_
        refine lv_iload hx hb dX10_append_17 (lv_at hl 0 rfl) ?_
        obtain ⟨zt4, zh3, qzh3, hf⟩ := gc_el hf
        refine gx_ki (gx_runS (As := [.int zx2]) (rest := []) X hw (c_X10_isSign l E N zx2 zh qzh3) kX10_isSign mm_X10_19 ⟨Nat.le_of_ble_eq_true rfl, Nat.le_of_ble_eq_true rfl⟩ rfl rfl rfl hl.1 (Nat.le_of_ble_eq_true rfl) rfl dX10_append_19 ⟨Nat.le_of_ble_eq_true rfl, Nat.le_of_ble_eq_true rfl⟩) hw (fun H locs hw => ?_)
        refine lv_if_eq (tgt := 57) hx hb dX10_append_22 (by decide) (fun qc5 => ?_) (fun qc5 => ?_)
        · have hf := gif_t hf qc5
          exact J_57 zv0 zv1 zv3 _ _ _ ls hf hw (lv_sub hl [1, 2, 3] rfl)
        · have hf := gif_f hf qc5
          refine lv_aload_n hx hb dX10_append_25 rfl (lv_at hl 1 rfl) ?_
          obtain ⟨zt6, qzt6, hf⟩ := gb_el hf
          refine gx_getI X hw qzt6 clX10 (by decide) mf_X10_15 dX10_append_26 ?_
          refine lv_sipush (v := 1000) hx hb dX10_append_29 (by decide) ?_
          refine lv_icmp_ge (tgt := 57) hx hb dX10_append_32 (by decide) (fun qc7 => ?_) (fun qc7 => ?_)
          · have hf := gif_t hf qc7
            exact J_57 zv0 zv1 zv3 _ _ _ ls hf hw (lv_sub hl [1, 2, 3] rfl)
          · have hf := gif_f hf qc7
            refine lv_aload_n hx hb dX10_append_35 rfl (lv_at hl 1 rfl) ?_
            obtain ⟨zt8, qzt8, hf⟩ := gb_el hf
            refine gx_getR X hw qzt8 clX10 (by decide) mf_X10_9 dX10_append_36 ?_
            refine lv_aload_n hx hb dX10_append_39 rfl (lv_at hl 1 rfl) ?_
            refine W.eq (g2 := F0 m 40 ls [.ref (gB E + zv0), .ref (gB E + zt8)]) rfl ?_
            obtain ⟨zt9, qzt9, hf⟩ := gb_el hf
            refine gx_getI X hw qzt9 clX10 (by decide) mf_X10_15 dX10_append_40 ?_
            refine lv_iload hx hb dX10_append_43 (lv_at hl 0 rfl) ?_
            refine lv_i2b hx hb dX10_append_45 rfl ?_
            obtain ⟨zh10, qzh10, hf⟩ := gb_el hf
            refine gx_bast X hw qzh10 dX10_append_46 (fun H locs hw => ?_)
            refine lv_aload_n hx hb dX10_append_47 rfl (lv_at hl 1 rfl) ?_
            refine lv_dup hx hb dX10_append_48 rfl ?_
            obtain ⟨zt11, qzt11, hf⟩ := gb_el hf
            refine gx_getI X hw qzt11 clX10 (by decide) mf_X10_15 dX10_append_49 ?_
            refine lv_iconst (v := 1) hx hb dX10_append_52 (by decide) ?_
            refine lv_iadd hx hb dX10_append_53 ?_
            obtain ⟨zh12, qzh12, hf⟩ := gb_el hf
            refine gx_putV X hw qzh12 clX10 (by decide) mf_X10_15 rfl rfl rfl dX10_append_54 (fun H locs hw => ?_)
            exact J_57 zv0 zv1 zv3 _ _ _ ls hf hw (lv_sub hl [1, 2, 3] rfl)
  unfold f_X10_append at hf
  refine lv_bipush (v := 56) hx hb dX10_append_0 (by decide) ?_
  refine lv_istore_n (lv' := [(3, .int 56), (0, .ref (gB E + za0)), (1, .long za1)]) hx hb dX10_append_2 rfl hl (by decide) rfl (fun ls hl => ?_)
  exact L_3 N za0 za1 56 _ _ _ ls hf hw (lv_sub hl [1, 2, 0] rfl)
abbrev rm_X11_init : Room := { frames := 3, cells := 84, slots := 5911, locals := 65 }
set_option maxHeartbeats 4000000 in
set_option maxRecDepth 100000 in
theorem c_X11_init (l : Launch) (E : gE) (N : Nat) (za0 : Nat) (zh : PH) {h9 : PH} (hf : f_X11_init N za0 zh = some h9) : Met l yX11_init (gWS yX11_init cX11_init 1 none) rm_X11_init (gPc E [.ref (gB E + za0)] zh) (gQv E h9) 84 5911 (gA E) := by
  refine gx_met (by decide) ?_ rfl
  intro p e s m below meth c X hr hlk hin2 hw
  have hx := X.1.1
  have hb := X.1.2.1
  have hl := lv_entry [.ref (gB E + za0)] (n := 1) (Nat.le_of_ble_eq_true rfl)
  rw [lg_entry_eq]
  generalize (lg_sl [.ref (gB E + za0)] ++ List.replicate (1 - (lg_sl [.ref (gB E + za0)]).length) Slot.unset).toArray = ls at hl ⊢
  have hl : lv_has ls 1 [(0, .ref (gB E + za0))] := hl
  unfold f_X11_init at hf
  refine lv_aload_n hx hb dX11_init_0 rfl (lv_at hl 0 rfl) ?_
  refine gx_oinit X mm_X11_1 mo_inst mo_code hl.1 dX11_init_1 (Nat.le_of_ble_eq_true rfl) (Nat.le_of_ble_eq_true rfl) ?_
  refine lv_aload_n hx hb dX11_init_4 rfl (lv_at hl 0 rfl) ?_
  obtain ⟨zr2, zh1, qzh1, hf⟩ := gc_el hf
  refine gx_new X hw qzh1 clX10 n1X10 ml_X11_7 mN_X10 mI_X10 (Nat.le_of_ble_eq_true rfl) (Nat.le_of_ble_eq_true rfl) dX11_init_5 (fun H hw => ?_)
  refine lv_dup hx hb dX11_init_8 rfl ?_
  obtain ⟨zh3, qzh3, hf⟩ := gb_el hf
  refine gx_kv (gx_runIN (As := []) (rest := [.ref (gB E + zr2), .ref (gB E + za0)]) X hw (c_X10_init l E N zr2 zh1 qzh3) kX10_init mn_X11_9 ⟨Nat.le_of_ble_eq_true rfl, Nat.le_of_ble_eq_true rfl⟩ rfl rfl rfl hl.1 (Nat.le_of_ble_eq_true rfl) rfl dX11_init_9 ⟨Nat.le_of_ble_eq_true rfl, Nat.le_of_ble_eq_true rfl⟩) hw (fun H locs hw => ?_)
  obtain ⟨zh4, qzh4, hf⟩ := gb_el hf
  refine gx_putFV X hw qzh4 clX11 (by decide) mf_X11_10 rfl (hin2 rfl) rfl rfl rfl dX11_init_12 (fun H locs hw => ?_)
  refine lv_aload_n hx hb dX11_init_15 rfl (lv_at hl 0 rfl) ?_
  obtain ⟨zr6, zh5, qzh5, hf⟩ := gc_el hf
  refine gx_new X hw qzh5 clX3 n1X3 ml_X11_16 mN_X3 mI_X3 (Nat.le_of_ble_eq_true rfl) (Nat.le_of_ble_eq_true rfl) dX11_init_16 (fun H hw => ?_)
  refine W.eq (g2 := F0 m 19 ls [.ref (gB E + zr6), .ref (gB E + za0)]) rfl ?_
  refine lv_dup hx hb dX11_init_19 rfl ?_
  refine lv_aload_n hx hb dX11_init_20 rfl (lv_at hl 0 rfl) ?_
  obtain ⟨zt7, qzt7, hf⟩ := gb_el hf
  refine gx_getR X hw qzt7 clX11 (by decide) mf_X11_10 dX11_init_21 ?_
  obtain ⟨zh8, qzh8, hf⟩ := gb_el hf
  refine gx_kv (gx_runI (As := [.ref (gB E + zt7)]) (rest := [.ref (gB E + zr6), .ref (gB E + za0)]) X hw (c_X3_init l E N zr6 zt7 zh5 qzh8) kX3_init mm_X11_18 ⟨Nat.le_of_ble_eq_true rfl, Nat.le_of_ble_eq_true rfl⟩ rfl rfl rfl hl.1 (Nat.le_of_ble_eq_true rfl) rfl dX11_init_24 ⟨Nat.le_of_ble_eq_true rfl, Nat.le_of_ble_eq_true rfl⟩) hw (fun H locs hw => ?_)
  obtain ⟨zh9, qzh9, hf⟩ := gb_el hf
  refine gx_putFV X hw qzh9 clX11 (by decide) mf_X11_21 rfl (hin2 rfl) rfl rfl rfl dX11_init_27 (fun H locs hw => ?_)
  refine lv_aload_n hx hb dX11_init_30 rfl (lv_at hl 0 rfl) ?_
  obtain ⟨zr11, zh10, qzh10, hf⟩ := gc_el hf
  refine gx_new X hw qzh10 clX7 n1X7 ml_X11_25 mN_X7 mI_X7 (Nat.le_of_ble_eq_true rfl) (Nat.le_of_ble_eq_true rfl) dX11_init_31 (fun H hw => ?_)
  refine lv_dup hx hb dX11_init_34 rfl ?_
  obtain ⟨zh12, qzh12, hf⟩ := gb_el hf
  refine gx_kv (gx_runIN (As := []) (rest := [.ref (gB E + zr11), .ref (gB E + za0)]) X hw (c_X7_init l E N zr11 zh10 qzh12) kX7_init mn_X11_27 ⟨Nat.le_of_ble_eq_true rfl, Nat.le_of_ble_eq_true rfl⟩ rfl rfl rfl hl.1 (Nat.le_of_ble_eq_true rfl) rfl dX11_init_35 ⟨Nat.le_of_ble_eq_true rfl, Nat.le_of_ble_eq_true rfl⟩) hw (fun H locs hw => ?_)
  obtain ⟨zh13, qzh13, hf⟩ := gb_el hf
  refine gx_putFV X hw qzh13 clX11 (by decide) mf_X11_28 rfl (hin2 rfl) rfl rfl rfl dX11_init_38 (fun H locs hw => ?_)
  refine W.eq (g2 := F0 m 41 ls []) rfl ?_
  refine lv_aload_n hx hb dX11_init_41 rfl (lv_at hl 0 rfl) ?_
  obtain ⟨zr15, zh14, qzh14, hf⟩ := gc_el hf
  refine gx_new X hw qzh14 clX9 n1X9 ml_X11_32 mN_X9 mI_X9 (Nat.le_of_ble_eq_true rfl) (Nat.le_of_ble_eq_true rfl) dX11_init_42 (fun H hw => ?_)
  refine lv_dup hx hb dX11_init_45 rfl ?_
  refine lv_aload_n hx hb dX11_init_46 rfl (lv_at hl 0 rfl) ?_
  obtain ⟨zt16, qzt16, hf⟩ := gb_el hf
  refine gx_getR X hw qzt16 clX11 (by decide) mf_X11_28 dX11_init_47 ?_
  obtain ⟨zh17, qzh17, hf⟩ := gb_el hf
  refine gx_kv (gx_runI (As := [.ref (gB E + zt16)]) (rest := [.ref (gB E + zr15), .ref (gB E + za0)]) X hw (c_X9_init l E N zr15 zt16 zh14 qzh17) kX9_init mm_X11_34 ⟨Nat.le_of_ble_eq_true rfl, Nat.le_of_ble_eq_true rfl⟩ rfl rfl rfl hl.1 (Nat.le_of_ble_eq_true rfl) rfl dX11_init_50 ⟨Nat.le_of_ble_eq_true rfl, Nat.le_of_ble_eq_true rfl⟩) hw (fun H locs hw => ?_)
  obtain ⟨zh18, qzh18, hf⟩ := gb_el hf
  refine gx_putFV X hw qzh18 clX11 (by decide) mf_X11_37 rfl (hin2 rfl) rfl rfl rfl dX11_init_53 (fun H locs hw => ?_)
  refine lv_aload_n hx hb dX11_init_56 rfl (lv_at hl 0 rfl) ?_
  refine lv_iconst (v := 4) hx hb dX11_init_57 (by decide) ?_
  obtain ⟨zr20, zh19, qzh19, hf⟩ := gc_el hf
  refine gx_anew X hw qzh19 rfl (by decide) X.2.2.2.1.2 ml_X11_32 (by decide) (by decide) (by decide) (Nat.le_of_ble_eq_true rfl) (Nat.le_of_ble_eq_true rfl) dX11_init_58 (fun H hw => ?_)
  refine W.eq (g2 := F0 m 61 ls [.ref (gB E + zr20), .ref (gB E + za0)]) rfl ?_
  obtain ⟨zh21, qzh21, hf⟩ := gb_el hf
  refine gx_putFV X hw qzh21 clX11 (by decide) mf_X11_41 rfl (hin2 rfl) rfl rfl rfl dX11_init_61 (fun H locs hw => ?_)
  refine lv_aload_n hx hb dX11_init_64 rfl (lv_at hl 0 rfl) ?_
  obtain ⟨zr23, zh22, qzh22, hf⟩ := gc_el hf
  refine gx_new X hw qzh22 clX5 n1X5 ml_X11_45 mN_X5 mI_X5 (Nat.le_of_ble_eq_true rfl) (Nat.le_of_ble_eq_true rfl) dX11_init_65 (fun H hw => ?_)
  refine lv_dup hx hb dX11_init_68 rfl ?_
  obtain ⟨zh24, qzh24, hf⟩ := gb_el hf
  refine gx_kv (gx_runIN (As := []) (rest := [.ref (gB E + zr23), .ref (gB E + za0)]) X hw (c_X5_init l E N zr23 zh22 qzh24) kX5_init mn_X11_47 ⟨Nat.le_of_ble_eq_true rfl, Nat.le_of_ble_eq_true rfl⟩ rfl rfl rfl hl.1 (Nat.le_of_ble_eq_true rfl) rfl dX11_init_69 ⟨Nat.le_of_ble_eq_true rfl, Nat.le_of_ble_eq_true rfl⟩) hw (fun H locs hw => ?_)
  obtain ⟨zh25, qzh25, hf⟩ := gb_el hf
  refine gx_putFV X hw qzh25 clX11 (by decide) mf_X11_48 rfl (hin2 rfl) rfl rfl rfl dX11_init_72 (fun H locs hw => ?_)
  refine lv_aload_n hx hb dX11_init_75 rfl (lv_at hl 0 rfl) ?_
  obtain ⟨zr27, zh26, qzh26, hf⟩ := gc_el hf
  refine gx_new X hw qzh26 clX1 n1X1 ml_X11_52 mN_X1 mI_X1 (Nat.le_of_ble_eq_true rfl) (Nat.le_of_ble_eq_true rfl) dX11_init_76 (fun H hw => ?_)
  refine lv_dup hx hb dX11_init_79 rfl ?_
  obtain ⟨zh28, qzh28, hf⟩ := gb_el hf
  refine gx_kv (gx_runI (As := []) (rest := [.ref (gB E + zr27), .ref (gB E + za0)]) X hw (c_X1_init l E N zr27 zh26 qzh28) kX1_init mm_X11_54 ⟨Nat.le_of_ble_eq_true rfl, Nat.le_of_ble_eq_true rfl⟩ rfl rfl rfl hl.1 (Nat.le_of_ble_eq_true rfl) rfl dX11_init_80 ⟨Nat.le_of_ble_eq_true rfl, Nat.le_of_ble_eq_true rfl⟩) hw (fun H locs hw => ?_)
  refine W.eq (g2 := F0 m 83 ls [.ref (gB E + zr27), .ref (gB E + za0)]) rfl ?_
  obtain ⟨zh29, qzh29, hf⟩ := gb_el hf
  refine gx_putFV X hw qzh29 clX11 (by decide) mf_X11_55 rfl (hin2 rfl) rfl rfl rfl dX11_init_83 (fun H locs hw => ?_)
  refine lv_aload_n hx hb dX11_init_86 rfl (lv_at hl 0 rfl) ?_
  refine lv_bipush (v := 7) hx hb dX11_init_87 (by decide) ?_
  obtain ⟨zr31, zh30, qzh30, hf⟩ := gc_el hf
  refine gx_newa0 X hw qzh30 ma_int (by decide) (by decide) (by decide) (Nat.le_of_ble_eq_true rfl) (Nat.le_of_ble_eq_true rfl) dX11_init_89 (fun H hw => ?_)
  obtain ⟨zh32, qzh32, hf⟩ := gb_el hf
  refine gx_putFV X hw qzh32 clX11 (by decide) mf_X11_59 rfl (hin2 rfl) rfl rfl rfl dX11_init_91 (fun H locs hw => ?_)
  refine lv_aload_n hx hb dX11_init_94 rfl (lv_at hl 0 rfl) ?_
  refine lv_sipush (v := 1024) hx hb dX11_init_95 (by decide) ?_
  obtain ⟨zr34, zh33, qzh33, hf⟩ := gc_el hf
  refine gx_newa0 X hw qzh33 ma_int (by decide) (by decide) (by decide) (Nat.le_of_ble_eq_true rfl) (Nat.le_of_ble_eq_true rfl) dX11_init_98 (fun H hw => ?_)
  obtain ⟨zh35, qzh35, hf⟩ := gb_el hf
  refine gx_putFV X hw qzh35 clX11 (by decide) mf_X11_63 rfl (hin2 rfl) rfl rfl rfl dX11_init_100 (fun H locs hw => ?_)
  refine lv_aload_n hx hb dX11_init_103 rfl (lv_at hl 0 rfl) ?_
  refine W.eq (g2 := F0 m 104 ls [.ref (gB E + za0)]) rfl ?_
  obtain ⟨zr37, zh36, qzh36, hf⟩ := gc_el hf
  refine gx_new X hw qzh36 clX2 n1X2 ml_X11_66 mN_X2 mI_X2 (Nat.le_of_ble_eq_true rfl) (Nat.le_of_ble_eq_true rfl) dX11_init_104 (fun H hw => ?_)
  refine lv_dup hx hb dX11_init_107 rfl ?_
  obtain ⟨zh38, qzh38, hf⟩ := gb_el hf
  refine gx_kv (gx_runIN (As := []) (rest := [.ref (gB E + zr37), .ref (gB E + za0)]) X hw (c_X2_init l E N zr37 zh36 qzh38) kX2_init mn_X11_68 ⟨Nat.le_of_ble_eq_true rfl, Nat.le_of_ble_eq_true rfl⟩ rfl rfl rfl hl.1 (Nat.le_of_ble_eq_true rfl) rfl dX11_init_108 ⟨Nat.le_of_ble_eq_true rfl, Nat.le_of_ble_eq_true rfl⟩) hw (fun H locs hw => ?_)
  obtain ⟨zh39, qzh39, hf⟩ := gb_el hf
  refine gx_putV X hw qzh39 clX11 (by decide) mf_X11_69 rfl rfl rfl dX11_init_111 (fun H locs hw => ?_)
  refine lv_aload_n hx hb dX11_init_114 rfl (lv_at hl 0 rfl) ?_
  obtain ⟨zr41, zh40, qzh40, hf⟩ := gc_el hf
  refine gx_new X hw qzh40 clX2 n1X2 ml_X11_66 mN_X2 mI_X2 (Nat.le_of_ble_eq_true rfl) (Nat.le_of_ble_eq_true rfl) dX11_init_115 (fun H hw => ?_)
  refine lv_dup hx hb dX11_init_118 rfl ?_
  obtain ⟨zh42, qzh42, hf⟩ := gb_el hf
  refine gx_kv (gx_runIN (As := []) (rest := [.ref (gB E + zr41), .ref (gB E + za0)]) X hw (c_X2_init l E N zr41 zh40 qzh42) kX2_init mn_X11_68 ⟨Nat.le_of_ble_eq_true rfl, Nat.le_of_ble_eq_true rfl⟩ rfl rfl rfl hl.1 (Nat.le_of_ble_eq_true rfl) rfl dX11_init_119 ⟨Nat.le_of_ble_eq_true rfl, Nat.le_of_ble_eq_true rfl⟩) hw (fun H locs hw => ?_)
  obtain ⟨zh43, qzh43, hf⟩ := gb_el hf
  refine gx_putV X hw qzh43 clX11 (by decide) mf_X11_73 rfl rfl rfl dX11_init_122 (fun H locs hw => ?_)
  exact gx_vret X hr hlk hw hf dX11_init_125
abbrev rm_X11_feed : Room := { frames := 2, cells := 0, slots := 0, locals := 44 }
set_option maxHeartbeats 4000000 in
set_option maxRecDepth 100000 in
theorem c_X11_feed (l : Launch) (E : gE) (N : Nat) (za0 : Nat) (za1 : Int64) (za3 : Int64) (za5 : Int64) (zh : PH) {h9 : PH} {r9 : Int32} (hf : f_X11_feed N za0 za1 za3 za5 zh = some (r9, h9)) : Met l yX11_feed (gWS yX11_feed cX11_feed 7 (some .int)) rm_X11_feed (gPc E [.ref (gB E + za0), .long za1, .long za3, .long za5] zh) (gQi E r9 h9) 0 0 (gA E) := by
  refine gx_met (by decide) ?_ rfl
  intro p e s m below meth c X hr hlk hin2 hw
  have hx := X.1.1
  have hb := X.1.2.1
  have hl := lv_entry [.ref (gB E + za0), .long za1, .long za3, .long za5] (n := 7) (Nat.le_of_ble_eq_true rfl)
  rw [lg_entry_eq]
  generalize (lg_sl [.ref (gB E + za0), .long za1, .long za3, .long za5] ++ List.replicate (7 - (lg_sl [.ref (gB E + za0), .long za1, .long za3, .long za5]).length) Slot.unset).toArray = ls at hl ⊢
  have hl : lv_has ls 7 [(0, .ref (gB E + za0)), (1, .long za1), (3, .long za3), (5, .long za5)] := hl
  unfold f_X11_feed at hf
  refine lv_aload_n hx hb dX11_feed_0 rfl (lv_at hl 0 rfl) ?_
  obtain ⟨zt1, qzt1, hf⟩ := gb_el hf
  refine gx_getR X hw qzt1 clX11 (by decide) mf_X11_10 dX11_feed_1 ?_
  refine lv_lload_n hx hb dX11_feed_4 rfl (lv_at hl 1 rfl) ?_
  obtain ⟨qizh2, hf⟩ := gg_el hf
  obtain ⟨zh2, qzh2, hf⟩ := gb_el hf
  refine gx_kv (gx_runV (As := [.long za1]) (rest := []) X hw (c_X10_append l E N zt1 za1 zh qzh2) kX10_append mm_X11_76 qizh2 clX10 ⟨Nat.le_of_ble_eq_true rfl, Nat.le_of_ble_eq_true rfl⟩ rfl rfl rfl hl.1 (Nat.le_of_ble_eq_true rfl) rfl dX11_feed_5 ⟨Nat.le_of_ble_eq_true rfl, Nat.le_of_ble_eq_true rfl⟩) hw (fun H locs hw => ?_)
  refine lv_aload_n hx hb dX11_feed_8 rfl (lv_at hl 0 rfl) ?_
  obtain ⟨zt3, qzt3, hf⟩ := gb_el hf
  refine gx_getR X hw qzt3 clX11 (by decide) mf_X11_10 dX11_feed_9 ?_
  refine lv_lload_n hx hb dX11_feed_12 rfl (lv_at hl 2 rfl) ?_
  obtain ⟨qizh4, hf⟩ := gg_el hf
  obtain ⟨zh4, qzh4, hf⟩ := gb_el hf
  refine gx_kv (gx_runV (As := [.long za3]) (rest := []) X hw (c_X10_append l E N zt3 za3 zh2 qzh4) kX10_append mm_X11_76 qizh4 clX10 ⟨Nat.le_of_ble_eq_true rfl, Nat.le_of_ble_eq_true rfl⟩ rfl rfl rfl hl.1 (Nat.le_of_ble_eq_true rfl) rfl dX11_feed_13 ⟨Nat.le_of_ble_eq_true rfl, Nat.le_of_ble_eq_true rfl⟩) hw (fun H locs hw => ?_)
  refine lv_aload_n hx hb dX11_feed_16 rfl (lv_at hl 0 rfl) ?_
  refine W.eq (g2 := F0 m 17 ls [.ref (gB E + za0)]) rfl ?_
  obtain ⟨zt5, qzt5, hf⟩ := gb_el hf
  refine gx_getR X hw qzt5 clX11 (by decide) mf_X11_10 dX11_feed_17 ?_
  refine lv_lload hx hb dX11_feed_20 (lv_at hl 3 rfl) ?_
  obtain ⟨qizh6, hf⟩ := gg_el hf
  obtain ⟨zh6, qzh6, hf⟩ := gb_el hf
  refine gx_kv (gx_runV (As := [.long za5]) (rest := []) X hw (c_X10_append l E N zt5 za5 zh4 qzh6) kX10_append mm_X11_76 qizh6 clX10 ⟨Nat.le_of_ble_eq_true rfl, Nat.le_of_ble_eq_true rfl⟩ rfl rfl rfl hl.1 (Nat.le_of_ble_eq_true rfl) rfl dX11_feed_22 ⟨Nat.le_of_ble_eq_true rfl, Nat.le_of_ble_eq_true rfl⟩) hw (fun H locs hw => ?_)
  refine lv_aload_n hx hb dX11_feed_25 rfl (lv_at hl 0 rfl) ?_
  obtain ⟨zt7, qzt7, hf⟩ := gb_el hf
  refine gx_getR X hw qzt7 clX11 (by decide) mf_X11_10 dX11_feed_26 ?_
  obtain ⟨qizh8, hf⟩ := gg_el hf
  obtain ⟨zt9, zh8, qzh8, hf⟩ := gc_el hf
  refine gx_ki (gx_runV (As := []) (rest := []) X hw (c_X10_length l E N zt7 zh6 qzh8) kX10_length mm_X11_80 qizh8 clX10 ⟨Nat.le_of_ble_eq_true rfl, Nat.le_of_ble_eq_true rfl⟩ rfl rfl rfl hl.1 (Nat.le_of_ble_eq_true rfl) rfl dX11_feed_29 ⟨Nat.le_of_ble_eq_true rfl, Nat.le_of_ble_eq_true rfl⟩) hw (fun H locs hw => ?_)
  exact gx_iret X hr hlk hw hf dX11_feed_32
abbrev rm_X11_inn : Room := { frames := 73, cells := 0, slots := 0, locals := 1853 }
set_option maxHeartbeats 4000000 in
set_option maxRecDepth 100000 in
theorem c_X11_inn (l : Launch) (E : gE) (N : Nat) (za0 : Nat) (zh : PH) {h9 : PH} {r9 : Int32} (hf : f_X11_inn N za0 zh = some (r9, h9)) : Met l yX11_inn (gWS yX11_inn cX11_inn 3 (some .int)) rm_X11_inn (gPc E [.ref (gB E + za0)] zh) (gQi E r9 h9) 0 0 (gA E) := by
  refine gx_met (by decide) ?_ rfl
  intro p e s m below meth c X hr hlk hin2 hw
  have hx := X.1.1
  have hb := X.1.2.1
  have hl := lv_entry [.ref (gB E + za0)] (n := 3) (Nat.le_of_ble_eq_true rfl)
  rw [lg_entry_eq]
  generalize (lg_sl [.ref (gB E + za0)] ++ List.replicate (3 - (lg_sl [.ref (gB E + za0)]).length) Slot.unset).toArray = ls at hl ⊢
  have hl : lv_has ls 3 [(0, .ref (gB E + za0))] := hl
  have J_62 : ∀ (zv0 : Nat) (zs0 : Int32) (zs1 : Nat) (zh : PH) (H : Heap) (locs : List Loc) (ls : Array Slot), f_X11_inn_62 N zv0 zs0 zs1 zh = some (r9, h9) → gw E s zh H locs → lv_has ls 3 [(0, .ref (gB E + zv0))] → W p l e rm_X11_inn s m [.ref (gB E + za0)].toArray below meth c H locs 0 0 (MQ below (gQi E r9 h9) [.ref (gB E + za0)].toArray s 0 0 (gA E)) (F0 m 62 ls [.int zs0, .ref (gB E + zs1)]) := by
    intro zv0 zs0 zs1 zh H locs ls hf hw hl
    unfold f_X11_inn_62 at hf
    obtain ⟨qizh1, hf⟩ := gg_el hf
    obtain ⟨zh1, qzh1, hf⟩ := gb_el hf
    refine gx_kv (gx_runV (As := [.int zs0]) (rest := []) X hw (c_X9_reset l E N zs1 zs0 zh qzh1) kX9_reset mm_X11_95 qizh1 clX9 ⟨Nat.le_of_ble_eq_true rfl, Nat.le_of_ble_eq_true rfl⟩ rfl rfl rfl hl.1 (Nat.le_of_ble_eq_true rfl) rfl dX11_inn_62 ⟨Nat.le_of_ble_eq_true rfl, Nat.le_of_ble_eq_true rfl⟩) hw (fun H locs hw => ?_)
    refine lv_aload_n hx hb dX11_inn_65 rfl (lv_at hl 0 rfl) ?_
    refine lv_iconst (v := 0) hx hb dX11_inn_66 (by decide) ?_
    obtain ⟨zh2, qzh2, hf⟩ := gb_el hf
    refine gx_putV X hw qzh2 clX11 (by decide) mf_X11_99 rfl rfl rfl dX11_inn_67 (fun H locs hw => ?_)
    refine lv_iconst (v := 0) hx hb dX11_inn_70 (by decide) ?_
    exact gx_iret X hr hlk hw hf dX11_inn_71
  unfold f_X11_inn at hf
  refine lv_aload_n hx hb dX11_inn_0 rfl (lv_at hl 0 rfl) ?_
  obtain ⟨zt1, qzt1, hf⟩ := gb_el hf
  refine gx_getR X hw qzt1 clX11 (by decide) mf_X11_21 dX11_inn_1 ?_
  refine lv_aload_n hx hb dX11_inn_4 rfl (lv_at hl 0 rfl) ?_
  obtain ⟨zt2, qzt2, hf⟩ := gb_el hf
  refine gx_getR X hw qzt2 clX11 (by decide) mf_X11_73 dX11_inn_5 ?_
  obtain ⟨qizh3, hf⟩ := gg_el hf
  obtain ⟨zt4, zh3, qzh3, hf⟩ := gc_el hf
  refine gx_ki (gx_runV (As := [.ref (gB E + zt2)]) (rest := []) X hw (c_X3_readInto l E N zt1 zt2 zh qzh3) kX3_readInto mm_X11_84 qizh3 clX3 ⟨Nat.le_of_ble_eq_true rfl, Nat.le_of_ble_eq_true rfl⟩ rfl rfl rfl hl.1 (Nat.le_of_ble_eq_true rfl) rfl dX11_inn_8 ⟨Nat.le_of_ble_eq_true rfl, Nat.le_of_ble_eq_true rfl⟩) hw (fun H locs hw => ?_)
  refine lv_istore_n (lv' := [(1, .int zt4), (0, .ref (gB E + za0))]) hx hb dX11_inn_11 rfl hl (by decide) rfl (fun ls hl => ?_)
  refine lv_aload_n hx hb dX11_inn_12 rfl (lv_at hl 1 rfl) ?_
  obtain ⟨zt5, qzt5, hf⟩ := gb_el hf
  refine gx_getR X hw qzt5 clX11 (by decide) mf_X11_10 dX11_inn_13 ?_
  obtain ⟨qizh6, hf⟩ := gg_el hf
  obtain ⟨zh6, qzh6, hf⟩ := gb_el hf
  refine gx_kv (gx_runV (As := []) (rest := []) X hw (c_X10_empty l E N zt5 zh3 qzh6) kX10_empty mm_X11_88 qizh6 clX10 ⟨Nat.le_of_ble_eq_true rfl, Nat.le_of_ble_eq_true rfl⟩ rfl rfl rfl hl.1 (Nat.le_of_ble_eq_true rfl) rfl dX11_inn_16 ⟨Nat.le_of_ble_eq_true rfl, Nat.le_of_ble_eq_true rfl⟩) hw (fun H locs hw => ?_)
  refine W.eq (g2 := F0 m 19 ls []) rfl ?_
  refine lv_iload_n hx hb dX11_inn_19 rfl (lv_at hl 0 rfl) ?_
  refine lv_if_eq (tgt := 25) hx hb dX11_inn_20 (by decide) (fun qc7 => ?_) (fun qc7 => ?_)
  · have hf := gif_t hf qc7
    refine lv_aload_n hx hb dX11_inn_25 rfl (lv_at hl 1 rfl) ?_
    obtain ⟨zt8, qzt8, hf⟩ := gb_el hf
    refine gx_getR X hw qzt8 clX11 (by decide) mf_X11_69 dX11_inn_26 ?_
    refine lv_astore_n (lv' := [(2, .ref (gB E + zt8)), (1, .int zt4), (0, .ref (gB E + za0))]) hx hb dX11_inn_29 rfl hl (by decide) rfl (fun ls hl => ?_)
    refine lv_aload_n hx hb dX11_inn_30 rfl (lv_at hl 2 rfl) ?_
    refine lv_aload_n hx hb dX11_inn_31 rfl (lv_at hl 2 rfl) ?_
    obtain ⟨zt9, qzt9, hf⟩ := gb_el hf
    refine gx_getR X hw qzt9 clX11 (by decide) mf_X11_73 dX11_inn_32 ?_
    obtain ⟨zh10, qzh10, hf⟩ := gb_el hf
    refine gx_putV X hw qzh10 clX11 (by decide) mf_X11_69 rfl rfl rfl dX11_inn_35 (fun H locs hw => ?_)
    refine lv_aload_n hx hb dX11_inn_38 rfl (lv_at hl 2 rfl) ?_
    refine W.eq (g2 := F0 m 39 ls [.ref (gB E + za0)]) rfl ?_
    refine lv_aload_n hx hb dX11_inn_39 rfl (lv_at hl 0 rfl) ?_
    obtain ⟨zh11, qzh11, hf⟩ := gb_el hf
    refine gx_putV X hw qzh11 clX11 (by decide) mf_X11_73 rfl rfl rfl dX11_inn_40 (fun H locs hw => ?_)
    refine lv_aload_n hx hb dX11_inn_43 rfl (lv_at hl 2 rfl) ?_
    obtain ⟨zt12, qzt12, hf⟩ := gb_el hf
    refine gx_getR X hw qzt12 clX11 (by decide) mf_X11_37 dX11_inn_44 ?_
    refine lv_aload_n hx hb dX11_inn_47 rfl (lv_at hl 2 rfl) ?_
    obtain ⟨zt13, qzt13, hf⟩ := gb_el hf
    refine gx_getR X hw qzt13 clX11 (by decide) mf_X11_69 dX11_inn_48 ?_
    obtain ⟨zt14, qzt14, hf⟩ := gb_el hf
    refine gx_getI X hw qzt14 clX2 (by decide) mf_X11_91 dX11_inn_51 ?_
    refine lv_if_le (tgt := 61) hx hb dX11_inn_54 (by decide) (fun qc15 => ?_) (fun qc15 => ?_)
    · have hf := gif_t hf qc15
      refine lv_iconst (v := (-1)) hx hb dX11_inn_61 (by decide) ?_
      exact J_62 za0 (-1) zt12 _ _ _ ls hf hw (lv_sub hl [2] rfl)
    · have hf := gif_f hf qc15
      refine lv_iconst (v := 0) hx hb dX11_inn_57 (by decide) ?_
      refine lv_goto (tgt := 62) hx hb dX11_inn_58 (by decide) ?_
      exact J_62 za0 0 zt12 _ _ _ ls hf hw (lv_sub hl [2] rfl)
  · have hf := gif_f hf qc7
    refine lv_iload_n hx hb dX11_inn_23 rfl (lv_at hl 0 rfl) ?_
    exact gx_iret X hr hlk hw hf dX11_inn_24
abbrev rm_X11_isRoom : Room := { frames := 0, cells := 0, slots := 0, locals := 0 }
set_option maxHeartbeats 4000000 in
set_option maxRecDepth 100000 in
theorem c_X11_isRoom (l : Launch) (E : gE) (N : Nat) (za0 : Nat) (za1 : Int32) (zh : PH) {h9 : PH} {r9 : Int32} (hf : f_X11_isRoom N za0 za1 zh = some (r9, h9)) : Met l yX11_isRoom (gWS yX11_isRoom cX11_isRoom 2 (some .boolean)) rm_X11_isRoom (gPc E [.ref (gB E + za0), .int za1] zh) (gQi E r9 h9) 0 0 (gA E) := by
  refine gx_met (by decide) ?_ rfl
  intro p e s m below meth c X hr hlk hin2 hw
  have hx := X.1.1
  have hb := X.1.2.1
  have hl := lv_entry [.ref (gB E + za0), .int za1] (n := 2) (Nat.le_of_ble_eq_true rfl)
  rw [lg_entry_eq]
  generalize (lg_sl [.ref (gB E + za0), .int za1] ++ List.replicate (2 - (lg_sl [.ref (gB E + za0), .int za1]).length) Slot.unset).toArray = ls at hl ⊢
  have hl : lv_has ls 2 [(0, .ref (gB E + za0)), (1, .int za1)] := hl
  have J_20 : ∀ (zs0 : Int32) (zh : PH) (H : Heap) (locs : List Loc) (ls : Array Slot), f_X11_isRoom_20 N zs0 zh = some (r9, h9) → gw E s zh H locs → lv_has ls 2 [] → W p l e rm_X11_isRoom s m [.ref (gB E + za0), .int za1].toArray below meth c H locs 0 0 (MQ below (gQi E r9 h9) [.ref (gB E + za0), .int za1].toArray s 0 0 (gA E)) (F0 m 20 ls [.int zs0]) := by
    intro zs0 zh H locs ls hf hw hl
    unfold f_X11_isRoom_20 at hf
    exact gx_zret X hr hlk hw hf dX11_isRoom_20
  have J_19 : ∀ (zh : PH) (H : Heap) (locs : List Loc) (ls : Array Slot), f_X11_isRoom_19 N zh = some (r9, h9) → gw E s zh H locs → lv_has ls 2 [] → W p l e rm_X11_isRoom s m [.ref (gB E + za0), .int za1].toArray below meth c H locs 0 0 (MQ below (gQi E r9 h9) [.ref (gB E + za0), .int za1].toArray s 0 0 (gA E)) (F0 m 19 ls []) := by
    intro zh H locs ls hf hw hl
    unfold f_X11_isRoom_19 at hf
    refine lv_iconst (v := 0) hx hb dX11_isRoom_19 (by decide) ?_
    exact J_20 0 _ _ _ ls hf hw (lv_sub hl [] rfl)
  unfold f_X11_isRoom at hf
  refine lv_iload_n hx hb dX11_isRoom_0 rfl (lv_at hl 1 rfl) ?_
  refine lv_if_lt (tgt := 19) hx hb dX11_isRoom_1 (by decide) (fun qc1 => ?_) (fun qc1 => ?_)
  · have hf := gif_t hf qc1
    exact J_19  _ _ _ ls hf hw (lv_sub hl [] rfl)
  · have hf := gif_f hf qc1
    refine lv_iload_n hx hb dX11_isRoom_4 rfl (lv_at hl 1 rfl) ?_
    refine lv_aload_n hx hb dX11_isRoom_5 rfl (lv_at hl 0 rfl) ?_
    obtain ⟨zt2, qzt2, hf⟩ := gb_el hf
    refine gx_getR X hw qzt2 clX11 (by decide) mf_X11_69 dX11_isRoom_6 ?_
    obtain ⟨zt3, qzt3, hf⟩ := gb_el hf
    refine gx_getI X hw qzt3 clX2 (by decide) mf_X11_230 dX11_isRoom_9 ?_
    refine lv_icmp_ge (tgt := 19) hx hb dX11_isRoom_12 (by decide) (fun qc4 => ?_) (fun qc4 => ?_)
    · have hf := gif_t hf qc4
      exact J_19  _ _ _ ls hf hw (lv_sub hl [] rfl)
    · have hf := gif_f hf qc4
      refine lv_iconst (v := 1) hx hb dX11_isRoom_15 (by decide) ?_
      refine lv_goto (tgt := 20) hx hb dX11_isRoom_16 (by decide) ?_
      exact J_20 1 _ _ _ ls hf hw (lv_sub hl [] rfl)
abbrev rm_X11_room : Room := { frames := 1, cells := 0, slots := 0, locals := 21 }
set_option maxHeartbeats 4000000 in
set_option maxRecDepth 100000 in
theorem c_X11_room (l : Launch) (E : gE) (N : Nat) (za0 : Nat) (za1 : Int32) (za2 : Int32) (zh : PH) {h9 : PH} {r9 : Int32} (hf : f_X11_room N za0 za1 za2 zh = some (r9, h9)) : Met l yX11_room (gWS yX11_room cX11_room 3 (some .int)) rm_X11_room (gPc E [.ref (gB E + za0), .int za1, .int za2] zh) (gQi E r9 h9) 0 0 (gA E) := by
  refine gx_met (by decide) ?_ rfl
  intro p e s m below meth c X hr hlk hin2 hw
  have hx := X.1.1
  have hb := X.1.2.1
  have hl := lv_entry [.ref (gB E + za0), .int za1, .int za2] (n := 3) (Nat.le_of_ble_eq_true rfl)
  rw [lg_entry_eq]
  generalize (lg_sl [.ref (gB E + za0), .int za1, .int za2] ++ List.replicate (3 - (lg_sl [.ref (gB E + za0), .int za1, .int za2]).length) Slot.unset).toArray = ls at hl ⊢
  have hl : lv_has ls 3 [(0, .ref (gB E + za0)), (1, .int za1), (2, .int za2)] := hl
  unfold f_X11_room at hf
  refine lv_aload_n hx hb dX11_room_0 rfl (lv_at hl 0 rfl) ?_
  refine lv_iload_n hx hb dX11_room_1 rfl (lv_at hl 1 rfl) ?_
  obtain ⟨qizh1, hf⟩ := gg_el hf
  obtain ⟨zt2, zh1, qzh1, hf⟩ := gc_el hf
  refine gx_ki (gx_runV (As := [.int za1]) (rest := []) X hw (c_X11_isRoom l E N za0 za1 zh qzh1) kX11_isRoom mm_X11_102 qizh1 clX11 ⟨Nat.le_of_ble_eq_true rfl, Nat.le_of_ble_eq_true rfl⟩ rfl rfl rfl hl.1 (Nat.le_of_ble_eq_true rfl) rfl dX11_room_2 ⟨Nat.le_of_ble_eq_true rfl, Nat.le_of_ble_eq_true rfl⟩) hw (fun H locs hw => ?_)
  refine lv_if_ne (tgt := 10) hx hb dX11_room_5 (by decide) (fun qc3 => ?_) (fun qc3 => ?_)
  · have hf := gif_f hf qc3
    refine lv_iload_n hx hb dX11_room_10 rfl (lv_at hl 2 rfl) ?_
    by_cases qc4 : (za2 : Int32) = 0
    · have hf := gif_t hf qc4
      refine lv_tableIn (off := 25) (tgt := 36) hx hb dX11_room_11 (by rw [qc4]; decide) (by rw [qc4]; decide) (by rw [qc4]; rfl) (by decide) ?_
      refine lv_aload_n hx hb dX11_room_36 rfl (lv_at hl 0 rfl) ?_
      obtain ⟨zt5, qzt5, hf⟩ := gb_el hf
      refine gx_getR X hw qzt5 clX11 (by decide) mf_X11_69 dX11_room_37 ?_
      obtain ⟨zt6, qzt6, hf⟩ := gb_el hf
      refine gx_getR X hw qzt6 clX2 (by decide) mf_X11_106 dX11_room_40 ?_
      refine W.eq (g2 := F0 m 43 ls [.ref (gB E + zt6)]) rfl ?_
      refine lv_iload_n hx hb dX11_room_43 rfl (lv_at hl 1 rfl) ?_
      obtain ⟨zt7, qzt7, hf⟩ := gb_el hf
      refine gx_iald X hw qzt7 dX11_room_44 ?_
      exact gx_iret X hr hlk hw hf dX11_room_45
    have hf := gif_f hf qc4
    by_cases qc8 : (za2 : Int32) = 1
    · have hf := gif_t hf qc8
      refine lv_tableIn (off := 35) (tgt := 46) hx hb dX11_room_11 (by rw [qc8]; decide) (by rw [qc8]; decide) (by rw [qc8]; rfl) (by decide) ?_
      refine lv_aload_n hx hb dX11_room_46 rfl (lv_at hl 0 rfl) ?_
      obtain ⟨zt9, qzt9, hf⟩ := gb_el hf
      refine gx_getR X hw qzt9 clX11 (by decide) mf_X11_69 dX11_room_47 ?_
      obtain ⟨zt10, qzt10, hf⟩ := gb_el hf
      refine gx_getR X hw qzt10 clX2 (by decide) mf_X11_109 dX11_room_50 ?_
      refine W.eq (g2 := F0 m 53 ls [.ref (gB E + zt10)]) rfl ?_
      refine lv_iload_n hx hb dX11_room_53 rfl (lv_at hl 1 rfl) ?_
      obtain ⟨zt11, qzt11, hf⟩ := gb_el hf
      refine gx_iald X hw qzt11 dX11_room_54 ?_
      exact gx_iret X hr hlk hw hf dX11_room_55
    have hf := gif_f hf qc8
    by_cases qc12 : (za2 : Int32) = 2
    · have hf := gif_t hf qc12
      refine lv_tableIn (off := 45) (tgt := 56) hx hb dX11_room_11 (by rw [qc12]; decide) (by rw [qc12]; decide) (by rw [qc12]; rfl) (by decide) ?_
      refine lv_aload_n hx hb dX11_room_56 rfl (lv_at hl 0 rfl) ?_
      obtain ⟨zt13, qzt13, hf⟩ := gb_el hf
      refine gx_getR X hw qzt13 clX11 (by decide) mf_X11_37 dX11_room_57 ?_
      obtain ⟨zt14, qzt14, hf⟩ := gb_el hf
      refine gx_getR X hw qzt14 clX9 (by decide) mf_X11_112 dX11_room_60 ?_
      refine W.eq (g2 := F0 m 63 ls [.ref (gB E + zt14)]) rfl ?_
      obtain ⟨zt15, qzt15, hf⟩ := gb_el hf
      refine gx_getR X hw qzt15 clX1 (by decide) mf_X11_115 dX11_room_63 ?_
      refine lv_iload_n hx hb dX11_room_66 rfl (lv_at hl 1 rfl) ?_
      obtain ⟨zt16, qzt16, hf⟩ := gb_el hf
      refine gx_iald X hw qzt16 dX11_room_67 ?_
      exact gx_iret X hr hlk hw hf dX11_room_68
    have hf := gif_f hf qc12
    have nqc4 := lv_neT (a := 0) qc4 (by decide)
    have nqc8 := lv_neT (a := 1) qc8 (by decide)
    have nqc12 := lv_neT (a := 2) qc12 (by decide)
    refine lv_tableOut (tgt := 69) hx hb dX11_room_11 (by omega) (by decide) ?_
    refine lv_iconst (v := (-1)) hx hb dX11_room_69 (by decide) ?_
    exact gx_iret X hr hlk hw hf dX11_room_70
  · have hf := gif_t hf qc3
    refine lv_iconst (v := (-1)) hx hb dX11_room_8 (by decide) ?_
    exact gx_iret X hr hlk hw hf dX11_room_9
abbrev rm_X11_isGuest : Room := { frames := 0, cells := 0, slots := 0, locals := 0 }
set_option maxHeartbeats 4000000 in
set_option maxRecDepth 100000 in
theorem c_X11_isGuest (l : Launch) (E : gE) (N : Nat) (za0 : Nat) (za1 : Int32) (zh : PH) {h9 : PH} {r9 : Int32} (hf : f_X11_isGuest N za0 za1 zh = some (r9, h9)) : Met l yX11_isGuest (gWS yX11_isGuest cX11_isGuest 2 (some .boolean)) rm_X11_isGuest (gPc E [.ref (gB E + za0), .int za1] zh) (gQi E r9 h9) 0 0 (gA E) := by
  refine gx_met (by decide) ?_ rfl
  intro p e s m below meth c X hr hlk hin2 hw
  have hx := X.1.1
  have hb := X.1.2.1
  have hl := lv_entry [.ref (gB E + za0), .int za1] (n := 2) (Nat.le_of_ble_eq_true rfl)
  rw [lg_entry_eq]
  generalize (lg_sl [.ref (gB E + za0), .int za1] ++ List.replicate (2 - (lg_sl [.ref (gB E + za0), .int za1]).length) Slot.unset).toArray = ls at hl ⊢
  have hl : lv_has ls 2 [(0, .ref (gB E + za0)), (1, .int za1)] := hl
  have J_20 : ∀ (zs0 : Int32) (zh : PH) (H : Heap) (locs : List Loc) (ls : Array Slot), f_X11_isGuest_20 N zs0 zh = some (r9, h9) → gw E s zh H locs → lv_has ls 2 [] → W p l e rm_X11_isGuest s m [.ref (gB E + za0), .int za1].toArray below meth c H locs 0 0 (MQ below (gQi E r9 h9) [.ref (gB E + za0), .int za1].toArray s 0 0 (gA E)) (F0 m 20 ls [.int zs0]) := by
    intro zs0 zh H locs ls hf hw hl
    unfold f_X11_isGuest_20 at hf
    exact gx_zret X hr hlk hw hf dX11_isGuest_20
  have J_19 : ∀ (zh : PH) (H : Heap) (locs : List Loc) (ls : Array Slot), f_X11_isGuest_19 N zh = some (r9, h9) → gw E s zh H locs → lv_has ls 2 [] → W p l e rm_X11_isGuest s m [.ref (gB E + za0), .int za1].toArray below meth c H locs 0 0 (MQ below (gQi E r9 h9) [.ref (gB E + za0), .int za1].toArray s 0 0 (gA E)) (F0 m 19 ls []) := by
    intro zh H locs ls hf hw hl
    unfold f_X11_isGuest_19 at hf
    refine lv_iconst (v := 0) hx hb dX11_isGuest_19 (by decide) ?_
    exact J_20 0 _ _ _ ls hf hw (lv_sub hl [] rfl)
  unfold f_X11_isGuest at hf
  refine lv_iload_n hx hb dX11_isGuest_0 rfl (lv_at hl 1 rfl) ?_
  refine lv_if_lt (tgt := 19) hx hb dX11_isGuest_1 (by decide) (fun qc1 => ?_) (fun qc1 => ?_)
  · have hf := gif_t hf qc1
    exact J_19  _ _ _ ls hf hw (lv_sub hl [] rfl)
  · have hf := gif_f hf qc1
    refine lv_iload_n hx hb dX11_isGuest_4 rfl (lv_at hl 1 rfl) ?_
    refine lv_aload_n hx hb dX11_isGuest_5 rfl (lv_at hl 0 rfl) ?_
    obtain ⟨zt2, qzt2, hf⟩ := gb_el hf
    refine gx_getR X hw qzt2 clX11 (by decide) mf_X11_69 dX11_isGuest_6 ?_
    obtain ⟨zt3, qzt3, hf⟩ := gb_el hf
    refine gx_getI X hw qzt3 clX2 (by decide) mf_X11_322 dX11_isGuest_9 ?_
    refine lv_icmp_ge (tgt := 19) hx hb dX11_isGuest_12 (by decide) (fun qc4 => ?_) (fun qc4 => ?_)
    · have hf := gif_t hf qc4
      exact J_19  _ _ _ ls hf hw (lv_sub hl [] rfl)
    · have hf := gif_f hf qc4
      refine lv_iconst (v := 1) hx hb dX11_isGuest_15 (by decide) ?_
      refine lv_goto (tgt := 20) hx hb dX11_isGuest_16 (by decide) ?_
      exact J_20 1 _ _ _ ls hf hw (lv_sub hl [] rfl)
abbrev rm_X11_guest : Room := { frames := 1, cells := 0, slots := 0, locals := 21 }
set_option maxHeartbeats 4000000 in
set_option maxRecDepth 100000 in
theorem c_X11_guest (l : Launch) (E : gE) (N : Nat) (za0 : Nat) (za1 : Int32) (za2 : Int32) (zh : PH) {h9 : PH} {r9 : Int32} (hf : f_X11_guest N za0 za1 za2 zh = some (r9, h9)) : Met l yX11_guest (gWS yX11_guest cX11_guest 3 (some .int)) rm_X11_guest (gPc E [.ref (gB E + za0), .int za1, .int za2] zh) (gQi E r9 h9) 0 0 (gA E) := by
  refine gx_met (by decide) ?_ rfl
  intro p e s m below meth c X hr hlk hin2 hw
  have hx := X.1.1
  have hb := X.1.2.1
  have hl := lv_entry [.ref (gB E + za0), .int za1, .int za2] (n := 3) (Nat.le_of_ble_eq_true rfl)
  rw [lg_entry_eq]
  generalize (lg_sl [.ref (gB E + za0), .int za1, .int za2] ++ List.replicate (3 - (lg_sl [.ref (gB E + za0), .int za1, .int za2]).length) Slot.unset).toArray = ls at hl ⊢
  have hl : lv_has ls 3 [(0, .ref (gB E + za0)), (1, .int za1), (2, .int za2)] := hl
  unfold f_X11_guest at hf
  refine lv_aload_n hx hb dX11_guest_0 rfl (lv_at hl 0 rfl) ?_
  refine lv_iload_n hx hb dX11_guest_1 rfl (lv_at hl 1 rfl) ?_
  obtain ⟨qizh1, hf⟩ := gg_el hf
  obtain ⟨zt2, zh1, qzh1, hf⟩ := gc_el hf
  refine gx_ki (gx_runV (As := [.int za1]) (rest := []) X hw (c_X11_isGuest l E N za0 za1 zh qzh1) kX11_isGuest mm_X11_118 qizh1 clX11 ⟨Nat.le_of_ble_eq_true rfl, Nat.le_of_ble_eq_true rfl⟩ rfl rfl rfl hl.1 (Nat.le_of_ble_eq_true rfl) rfl dX11_guest_2 ⟨Nat.le_of_ble_eq_true rfl, Nat.le_of_ble_eq_true rfl⟩) hw (fun H locs hw => ?_)
  refine lv_if_ne (tgt := 10) hx hb dX11_guest_5 (by decide) (fun qc3 => ?_) (fun qc3 => ?_)
  · have hf := gif_f hf qc3
    refine lv_iload_n hx hb dX11_guest_10 rfl (lv_at hl 2 rfl) ?_
    by_cases qc4 : (za2 : Int32) = 0
    · have hf := gif_t hf qc4
      refine lv_tableIn (off := 37) (tgt := 48) hx hb dX11_guest_11 (by rw [qc4]; decide) (by rw [qc4]; decide) (by rw [qc4]; rfl) (by decide) ?_
      refine lv_aload_n hx hb dX11_guest_48 rfl (lv_at hl 0 rfl) ?_
      obtain ⟨zt5, qzt5, hf⟩ := gb_el hf
      refine gx_getR X hw qzt5 clX11 (by decide) mf_X11_69 dX11_guest_49 ?_
      obtain ⟨zt6, qzt6, hf⟩ := gb_el hf
      refine gx_getR X hw qzt6 clX2 (by decide) mf_X11_121 dX11_guest_52 ?_
      refine W.eq (g2 := F0 m 55 ls [.ref (gB E + zt6)]) rfl ?_
      refine lv_iload_n hx hb dX11_guest_55 rfl (lv_at hl 1 rfl) ?_
      obtain ⟨zt7, qzt7, hf⟩ := gb_el hf
      refine gx_iald X hw qzt7 dX11_guest_56 ?_
      exact gx_iret X hr hlk hw hf dX11_guest_57
    have hf := gif_f hf qc4
    by_cases qc8 : (za2 : Int32) = 1
    · have hf := gif_t hf qc8
      refine lv_tableIn (off := 47) (tgt := 58) hx hb dX11_guest_11 (by rw [qc8]; decide) (by rw [qc8]; decide) (by rw [qc8]; rfl) (by decide) ?_
      refine lv_aload_n hx hb dX11_guest_58 rfl (lv_at hl 0 rfl) ?_
      obtain ⟨zt9, qzt9, hf⟩ := gb_el hf
      refine gx_getR X hw qzt9 clX11 (by decide) mf_X11_69 dX11_guest_59 ?_
      obtain ⟨zt10, qzt10, hf⟩ := gb_el hf
      refine gx_getI X hw qzt10 clX2 (by decide) mf_X11_124 dX11_guest_62 ?_
      refine W.eq (g2 := F0 m 65 ls [.int zt10]) rfl ?_
      refine lv_iload_n hx hb dX11_guest_65 rfl (lv_at hl 1 rfl) ?_
      obtain ⟨zt12, zh11, qzh11, hf⟩ := gc_el hf
      refine gx_ki (gx_runS (As := [.int zt10, .int za1]) (rest := []) X hw (c_X11_bitOf l E N zt10 za1 zh1 qzh11) kX11_bitOf mm_X11_127 ⟨Nat.le_of_ble_eq_true rfl, Nat.le_of_ble_eq_true rfl⟩ rfl rfl rfl hl.1 (Nat.le_of_ble_eq_true rfl) rfl dX11_guest_66 ⟨Nat.le_of_ble_eq_true rfl, Nat.le_of_ble_eq_true rfl⟩) hw (fun H locs hw => ?_)
      exact gx_iret X hr hlk hw hf dX11_guest_69
    have hf := gif_f hf qc8
    by_cases qc13 : (za2 : Int32) = 2
    · have hf := gif_t hf qc13
      refine lv_tableIn (off := 59) (tgt := 70) hx hb dX11_guest_11 (by rw [qc13]; decide) (by rw [qc13]; decide) (by rw [qc13]; rfl) (by decide) ?_
      refine lv_aload_n hx hb dX11_guest_70 rfl (lv_at hl 0 rfl) ?_
      obtain ⟨zt14, qzt14, hf⟩ := gb_el hf
      refine gx_getR X hw qzt14 clX11 (by decide) mf_X11_69 dX11_guest_71 ?_
      obtain ⟨zt15, qzt15, hf⟩ := gb_el hf
      refine gx_getI X hw qzt15 clX2 (by decide) mf_X11_131 dX11_guest_74 ?_
      refine W.eq (g2 := F0 m 77 ls [.int zt15]) rfl ?_
      refine lv_iload_n hx hb dX11_guest_77 rfl (lv_at hl 1 rfl) ?_
      obtain ⟨zt17, zh16, qzh16, hf⟩ := gc_el hf
      refine gx_ki (gx_runS (As := [.int zt15, .int za1]) (rest := []) X hw (c_X11_bitOf l E N zt15 za1 zh1 qzh16) kX11_bitOf mm_X11_127 ⟨Nat.le_of_ble_eq_true rfl, Nat.le_of_ble_eq_true rfl⟩ rfl rfl rfl hl.1 (Nat.le_of_ble_eq_true rfl) rfl dX11_guest_78 ⟨Nat.le_of_ble_eq_true rfl, Nat.le_of_ble_eq_true rfl⟩) hw (fun H locs hw => ?_)
      exact gx_iret X hr hlk hw hf dX11_guest_81
    have hf := gif_f hf qc13
    by_cases qc18 : (za2 : Int32) = 3
    · have hf := gif_t hf qc18
      refine lv_tableIn (off := 71) (tgt := 82) hx hb dX11_guest_11 (by rw [qc18]; decide) (by rw [qc18]; decide) (by rw [qc18]; rfl) (by decide) ?_
      refine lv_aload_n hx hb dX11_guest_82 rfl (lv_at hl 0 rfl) ?_
      obtain ⟨zt19, qzt19, hf⟩ := gb_el hf
      refine gx_getR X hw qzt19 clX11 (by decide) mf_X11_37 dX11_guest_83 ?_
      obtain ⟨zt20, qzt20, hf⟩ := gb_el hf
      refine gx_getR X hw qzt20 clX9 (by decide) mf_X11_112 dX11_guest_86 ?_
      refine W.eq (g2 := F0 m 89 ls [.ref (gB E + zt20)]) rfl ?_
      obtain ⟨zt21, qzt21, hf⟩ := gb_el hf
      refine gx_getR X hw qzt21 clX1 (by decide) mf_X11_134 dX11_guest_89 ?_
      refine lv_iload_n hx hb dX11_guest_92 rfl (lv_at hl 1 rfl) ?_
      obtain ⟨zt22, qzt22, hf⟩ := gb_el hf
      refine gx_iald X hw qzt22 dX11_guest_93 ?_
      exact gx_iret X hr hlk hw hf dX11_guest_94
    have hf := gif_f hf qc18
    by_cases qc23 : (za2 : Int32) = 4
    · have hf := gif_t hf qc23
      refine lv_tableIn (off := 84) (tgt := 95) hx hb dX11_guest_11 (by rw [qc23]; decide) (by rw [qc23]; decide) (by rw [qc23]; rfl) (by decide) ?_
      refine lv_aload_n hx hb dX11_guest_95 rfl (lv_at hl 0 rfl) ?_
      obtain ⟨zt24, qzt24, hf⟩ := gb_el hf
      refine gx_getR X hw qzt24 clX11 (by decide) mf_X11_37 dX11_guest_96 ?_
      obtain ⟨zt25, qzt25, hf⟩ := gb_el hf
      refine gx_getR X hw qzt25 clX9 (by decide) mf_X11_112 dX11_guest_99 ?_
      refine W.eq (g2 := F0 m 102 ls [.ref (gB E + zt25)]) rfl ?_
      obtain ⟨zt26, qzt26, hf⟩ := gb_el hf
      refine gx_getR X hw qzt26 clX1 (by decide) mf_X11_137 dX11_guest_102 ?_
      refine lv_iload_n hx hb dX11_guest_105 rfl (lv_at hl 1 rfl) ?_
      obtain ⟨zt27, qzt27, hf⟩ := gb_el hf
      refine gx_iald X hw qzt27 dX11_guest_106 ?_
      exact gx_iret X hr hlk hw hf dX11_guest_107
    have hf := gif_f hf qc23
    by_cases qc28 : (za2 : Int32) = 5
    · have hf := gif_t hf qc28
      refine lv_tableIn (off := 97) (tgt := 108) hx hb dX11_guest_11 (by rw [qc28]; decide) (by rw [qc28]; decide) (by rw [qc28]; rfl) (by decide) ?_
      refine lv_aload_n hx hb dX11_guest_108 rfl (lv_at hl 0 rfl) ?_
      obtain ⟨zt29, qzt29, hf⟩ := gb_el hf
      refine gx_getR X hw qzt29 clX11 (by decide) mf_X11_37 dX11_guest_109 ?_
      obtain ⟨zt30, qzt30, hf⟩ := gb_el hf
      refine gx_getR X hw qzt30 clX9 (by decide) mf_X11_112 dX11_guest_112 ?_
      refine W.eq (g2 := F0 m 115 ls [.ref (gB E + zt30)]) rfl ?_
      obtain ⟨zt31, qzt31, hf⟩ := gb_el hf
      refine gx_getR X hw qzt31 clX1 (by decide) mf_X11_140 dX11_guest_115 ?_
      refine lv_iload_n hx hb dX11_guest_118 rfl (lv_at hl 1 rfl) ?_
      obtain ⟨zt32, qzt32, hf⟩ := gb_el hf
      refine gx_iald X hw qzt32 dX11_guest_119 ?_
      exact gx_iret X hr hlk hw hf dX11_guest_120
    have hf := gif_f hf qc28
    have nqc4 := lv_neT (a := 0) qc4 (by decide)
    have nqc8 := lv_neT (a := 1) qc8 (by decide)
    have nqc13 := lv_neT (a := 2) qc13 (by decide)
    have nqc18 := lv_neT (a := 3) qc18 (by decide)
    have nqc23 := lv_neT (a := 4) qc23 (by decide)
    have nqc28 := lv_neT (a := 5) qc28 (by decide)
    refine lv_tableOut (tgt := 121) hx hb dX11_guest_11 (by omega) (by decide) ?_
    refine lv_iconst (v := (-1)) hx hb dX11_guest_121 (by decide) ?_
    exact gx_iret X hr hlk hw hf dX11_guest_122
  · have hf := gif_t hf qc3
    refine lv_iconst (v := (-1)) hx hb dX11_guest_8 (by decide) ?_
    exact gx_iret X hr hlk hw hf dX11_guest_9
abbrev rm_X11_isRule : Room := { frames := 0, cells := 0, slots := 0, locals := 0 }
set_option maxHeartbeats 4000000 in
set_option maxRecDepth 100000 in
theorem c_X11_isRule (l : Launch) (E : gE) (N : Nat) (za0 : Nat) (za1 : Int32) (zh : PH) {h9 : PH} {r9 : Int32} (hf : f_X11_isRule N za0 za1 zh = some (r9, h9)) : Met l yX11_isRule (gWS yX11_isRule cX11_isRule 2 (some .boolean)) rm_X11_isRule (gPc E [.ref (gB E + za0), .int za1] zh) (gQi E r9 h9) 0 0 (gA E) := by
  refine gx_met (by decide) ?_ rfl
  intro p e s m below meth c X hr hlk hin2 hw
  have hx := X.1.1
  have hb := X.1.2.1
  have hl := lv_entry [.ref (gB E + za0), .int za1] (n := 2) (Nat.le_of_ble_eq_true rfl)
  rw [lg_entry_eq]
  generalize (lg_sl [.ref (gB E + za0), .int za1] ++ List.replicate (2 - (lg_sl [.ref (gB E + za0), .int za1]).length) Slot.unset).toArray = ls at hl ⊢
  have hl : lv_has ls 2 [(0, .ref (gB E + za0)), (1, .int za1)] := hl
  have J_20 : ∀ (zs0 : Int32) (zh : PH) (H : Heap) (locs : List Loc) (ls : Array Slot), f_X11_isRule_20 N zs0 zh = some (r9, h9) → gw E s zh H locs → lv_has ls 2 [] → W p l e rm_X11_isRule s m [.ref (gB E + za0), .int za1].toArray below meth c H locs 0 0 (MQ below (gQi E r9 h9) [.ref (gB E + za0), .int za1].toArray s 0 0 (gA E)) (F0 m 20 ls [.int zs0]) := by
    intro zs0 zh H locs ls hf hw hl
    unfold f_X11_isRule_20 at hf
    exact gx_zret X hr hlk hw hf dX11_isRule_20
  have J_19 : ∀ (zh : PH) (H : Heap) (locs : List Loc) (ls : Array Slot), f_X11_isRule_19 N zh = some (r9, h9) → gw E s zh H locs → lv_has ls 2 [] → W p l e rm_X11_isRule s m [.ref (gB E + za0), .int za1].toArray below meth c H locs 0 0 (MQ below (gQi E r9 h9) [.ref (gB E + za0), .int za1].toArray s 0 0 (gA E)) (F0 m 19 ls []) := by
    intro zh H locs ls hf hw hl
    unfold f_X11_isRule_19 at hf
    refine lv_iconst (v := 0) hx hb dX11_isRule_19 (by decide) ?_
    exact J_20 0 _ _ _ ls hf hw (lv_sub hl [] rfl)
  unfold f_X11_isRule at hf
  refine lv_iload_n hx hb dX11_isRule_0 rfl (lv_at hl 1 rfl) ?_
  refine lv_if_lt (tgt := 19) hx hb dX11_isRule_1 (by decide) (fun qc1 => ?_) (fun qc1 => ?_)
  · have hf := gif_t hf qc1
    exact J_19  _ _ _ ls hf hw (lv_sub hl [] rfl)
  · have hf := gif_f hf qc1
    refine lv_iload_n hx hb dX11_isRule_4 rfl (lv_at hl 1 rfl) ?_
    refine lv_aload_n hx hb dX11_isRule_5 rfl (lv_at hl 0 rfl) ?_
    obtain ⟨zt2, qzt2, hf⟩ := gb_el hf
    refine gx_getR X hw qzt2 clX11 (by decide) mf_X11_69 dX11_isRule_6 ?_
    obtain ⟨zt3, qzt3, hf⟩ := gb_el hf
    refine gx_getI X hw qzt3 clX2 (by decide) mf_X11_91 dX11_isRule_9 ?_
    refine lv_icmp_ge (tgt := 19) hx hb dX11_isRule_12 (by decide) (fun qc4 => ?_) (fun qc4 => ?_)
    · have hf := gif_t hf qc4
      exact J_19  _ _ _ ls hf hw (lv_sub hl [] rfl)
    · have hf := gif_f hf qc4
      refine lv_iconst (v := 1) hx hb dX11_isRule_15 (by decide) ?_
      refine lv_goto (tgt := 20) hx hb dX11_isRule_16 (by decide) ?_
      exact J_20 1 _ _ _ ls hf hw (lv_sub hl [] rfl)
abbrev rm_X11_use : Room := { frames := 1, cells := 0, slots := 0, locals := 21 }
set_option maxHeartbeats 4000000 in
set_option maxRecDepth 100000 in
theorem c_X11_use (l : Launch) (E : gE) (N : Nat) (za0 : Nat) (za1 : Int32) (zh : PH) {h9 : PH} {r9 : Int32} (hf : f_X11_use N za0 za1 zh = some (r9, h9)) : Met l yX11_use (gWS yX11_use cX11_use 2 (some .boolean)) rm_X11_use (gPc E [.ref (gB E + za0), .int za1] zh) (gQi E r9 h9) 0 0 (gA E) := by
  refine gx_met (by decide) ?_ rfl
  intro p e s m below meth c X hr hlk hin2 hw
  have hx := X.1.1
  have hb := X.1.2.1
  have hl := lv_entry [.ref (gB E + za0), .int za1] (n := 2) (Nat.le_of_ble_eq_true rfl)
  rw [lg_entry_eq]
  generalize (lg_sl [.ref (gB E + za0), .int za1] ++ List.replicate (2 - (lg_sl [.ref (gB E + za0), .int za1]).length) Slot.unset).toArray = ls at hl ⊢
  have hl : lv_has ls 2 [(0, .ref (gB E + za0)), (1, .int za1)] := hl
  have J_15 : ∀ (zv0 : Nat) (zv1 : Int32) (zh : PH) (H : Heap) (locs : List Loc) (ls : Array Slot), f_X11_use_15 N zv0 zv1 zh = some (r9, h9) → gw E s zh H locs → lv_has ls 2 [(0, .ref (gB E + zv0)), (1, .int zv1)] → W p l e rm_X11_use s m [.ref (gB E + za0), .int za1].toArray below meth c H locs 0 0 (MQ below (gQi E r9 h9) [.ref (gB E + za0), .int za1].toArray s 0 0 (gA E)) (F0 m 15 ls []) := by
    intro zv0 zv1 zh H locs ls hf hw hl
    unfold f_X11_use_15 at hf
    refine lv_aload_n hx hb dX11_use_15 rfl (lv_at hl 0 rfl) ?_
    obtain ⟨zt1, qzt1, hf⟩ := gb_el hf
    refine gx_getR X hw qzt1 clX11 (by decide) mf_X11_37 dX11_use_16 ?_
    refine lv_iload_n hx hb dX11_use_19 rfl (lv_at hl 1 rfl) ?_
    obtain ⟨zh2, qzh2, hf⟩ := gb_el hf
    refine gx_putV X hw qzh2 clX9 (by decide) mf_X11_146 rfl rfl rfl dX11_use_20 (fun H locs hw => ?_)
    refine lv_iconst (v := 1) hx hb dX11_use_23 (by decide) ?_
    exact gx_zret X hr hlk hw hf dX11_use_24
  unfold f_X11_use at hf
  refine lv_iload_n hx hb dX11_use_0 rfl (lv_at hl 1 rfl) ?_
  refine lv_iconst (v := (-1)) hx hb dX11_use_1 (by decide) ?_
  refine lv_icmp_eq (tgt := 15) hx hb dX11_use_2 (by decide) (fun qc1 => ?_) (fun qc1 => ?_)
  · have hf := gif_t hf qc1
    exact J_15 za0 za1 _ _ _ ls hf hw (lv_sub hl [0, 1] rfl)
  · have hf := gif_f hf qc1
    refine lv_aload_n hx hb dX11_use_5 rfl (lv_at hl 0 rfl) ?_
    refine lv_iload_n hx hb dX11_use_6 rfl (lv_at hl 1 rfl) ?_
    obtain ⟨qizh2, hf⟩ := gg_el hf
    obtain ⟨zt3, zh2, qzh2, hf⟩ := gc_el hf
    refine gx_ki (gx_runV (As := [.int za1]) (rest := []) X hw (c_X11_isRule l E N za0 za1 zh qzh2) kX11_isRule mm_X11_143 qizh2 clX11 ⟨Nat.le_of_ble_eq_true rfl, Nat.le_of_ble_eq_true rfl⟩ rfl rfl rfl hl.1 (Nat.le_of_ble_eq_true rfl) rfl dX11_use_7 ⟨Nat.le_of_ble_eq_true rfl, Nat.le_of_ble_eq_true rfl⟩) hw (fun H locs hw => ?_)
    refine lv_if_ne (tgt := 15) hx hb dX11_use_10 (by decide) (fun qc4 => ?_) (fun qc4 => ?_)
    · have hf := gif_f hf qc4
      exact J_15 za0 za1 _ _ _ ls hf hw (lv_sub hl [0, 1] rfl)
    · have hf := gif_t hf qc4
      refine lv_iconst (v := 0) hx hb dX11_use_13 (by decide) ?_
      exact gx_zret X hr hlk hw hf dX11_use_14
abbrev rm_X11_isToldMinute : Room := { frames := 0, cells := 0, slots := 0, locals := 0 }
set_option maxHeartbeats 4000000 in
set_option maxRecDepth 100000 in
theorem c_X11_isToldMinute (l : Launch) (E : gE) (N : Nat) (za0 : Int32) (zh : PH) {h9 : PH} {r9 : Int32} (hf : f_X11_isToldMinute N za0 zh = some (r9, h9)) : Met l yX11_isToldMinute (gWS yX11_isToldMinute cX11_isToldMinute 1 (some .boolean)) rm_X11_isToldMinute (gPc E [.int za0] zh) (gQi E r9 h9) 0 0 (gA E) := by
  refine gx_met (by decide) ?_ rfl
  intro p e s m below meth c X hr hlk hin2 hw
  have hx := X.1.1
  have hb := X.1.2.1
  have hl := lv_entry [.int za0] (n := 1) (Nat.le_of_ble_eq_true rfl)
  rw [lg_entry_eq]
  generalize (lg_sl [.int za0] ++ List.replicate (1 - (lg_sl [.int za0]).length) Slot.unset).toArray = ls at hl ⊢
  have hl : lv_has ls 1 [(0, .int za0)] := hl
  have J_16 : ∀ (zs0 : Int32) (zh : PH) (H : Heap) (locs : List Loc) (ls : Array Slot), f_X11_isToldMinute_16 N zs0 zh = some (r9, h9) → gw E s zh H locs → lv_has ls 1 [] → W p l e rm_X11_isToldMinute s m [.int za0].toArray below meth c H locs 0 0 (MQ below (gQi E r9 h9) [.int za0].toArray s 0 0 (gA E)) (F0 m 16 ls [.int zs0]) := by
    intro zs0 zh H locs ls hf hw hl
    unfold f_X11_isToldMinute_16 at hf
    exact gx_zret X hr hlk hw hf dX11_isToldMinute_16
  have J_15 : ∀ (zh : PH) (H : Heap) (locs : List Loc) (ls : Array Slot), f_X11_isToldMinute_15 N zh = some (r9, h9) → gw E s zh H locs → lv_has ls 1 [] → W p l e rm_X11_isToldMinute s m [.int za0].toArray below meth c H locs 0 0 (MQ below (gQi E r9 h9) [.int za0].toArray s 0 0 (gA E)) (F0 m 15 ls []) := by
    intro zh H locs ls hf hw hl
    unfold f_X11_isToldMinute_15 at hf
    refine lv_iconst (v := 0) hx hb dX11_isToldMinute_15 (by decide) ?_
    exact J_16 0 _ _ _ ls hf hw (lv_sub hl [] rfl)
  unfold f_X11_isToldMinute at hf
  refine lv_iload_n hx hb dX11_isToldMinute_0 rfl (lv_at hl 0 rfl) ?_
  refine lv_if_lt (tgt := 15) hx hb dX11_isToldMinute_1 (by decide) (fun qc1 => ?_) (fun qc1 => ?_)
  · have hf := gif_t hf qc1
    exact J_15  _ _ _ ls hf hw (lv_sub hl [] rfl)
  · have hf := gif_f hf qc1
    refine lv_iload_n hx hb dX11_isToldMinute_4 rfl (lv_at hl 0 rfl) ?_
    refine lv_ldcw (v := 99999) hx hb X.1.2.2.2.1 (X.1.2.2.2.2 _ mk_X11_340) dX11_isToldMinute_5 ?_
    refine lv_icmp_gt (tgt := 15) hx hb dX11_isToldMinute_8 (by decide) (fun qc2 => ?_) (fun qc2 => ?_)
    · have hf := gif_t hf qc2
      exact J_15  _ _ _ ls hf hw (lv_sub hl [] rfl)
    · have hf := gif_f hf qc2
      refine lv_iconst (v := 1) hx hb dX11_isToldMinute_11 (by decide) ?_
      refine lv_goto (tgt := 16) hx hb dX11_isToldMinute_12 (by decide) ?_
      exact J_16 1 _ _ _ ls hf hw (lv_sub hl [] rfl)
abbrev rm_X11_whyRefused : Room := { frames := 1, cells := 0, slots := 0, locals := 21 }
set_option maxHeartbeats 4000000 in
set_option maxRecDepth 100000 in
theorem c_X11_whyRefused (l : Launch) (E : gE) (N : Nat) (za0 : Nat) (za1 : Int32) (za2 : Int32) (za3 : Int32) (zh : PH) {h9 : PH} {r9 : Int32} (hf : f_X11_whyRefused N za0 za1 za2 za3 zh = some (r9, h9)) : Met l yX11_whyRefused (gWS yX11_whyRefused cX11_whyRefused 4 (some .int)) rm_X11_whyRefused (gPc E [.ref (gB E + za0), .int za1, .int za2, .int za3] zh) (gQi E r9 h9) 0 0 (gA E) := by
  refine gx_met (by decide) ?_ rfl
  intro p e s m below meth c X hr hlk hin2 hw
  have hx := X.1.1
  have hb := X.1.2.1
  have hl := lv_entry [.ref (gB E + za0), .int za1, .int za2, .int za3] (n := 4) (Nat.le_of_ble_eq_true rfl)
  rw [lg_entry_eq]
  generalize (lg_sl [.ref (gB E + za0), .int za1, .int za2, .int za3] ++ List.replicate (4 - (lg_sl [.ref (gB E + za0), .int za1, .int za2, .int za3]).length) Slot.unset).toArray = ls at hl ⊢
  have hl : lv_has ls 4 [(0, .ref (gB E + za0)), (1, .int za1), (2, .int za2), (3, .int za3)] := hl
  have J_100 : ∀ (zs0 : Int32) (zh : PH) (H : Heap) (locs : List Loc) (ls : Array Slot), f_X11_whyRefused_100 N zs0 zh = some (r9, h9) → gw E s zh H locs → lv_has ls 4 [] → W p l e rm_X11_whyRefused s m [.ref (gB E + za0), .int za1, .int za2, .int za3].toArray below meth c H locs 0 0 (MQ below (gQi E r9 h9) [.ref (gB E + za0), .int za1, .int za2, .int za3].toArray s 0 0 (gA E)) (F0 m 100 ls [.int zs0]) := by
    intro zs0 zh H locs ls hf hw hl
    unfold f_X11_whyRefused_100 at hf
    exact gx_iret X hr hlk hw hf dX11_whyRefused_100
  have J_83 : ∀ (zv0 : Nat) (zh : PH) (H : Heap) (locs : List Loc) (ls : Array Slot), f_X11_whyRefused_83 N zv0 zh = some (r9, h9) → gw E s zh H locs → lv_has ls 4 [(0, .ref (gB E + zv0))] → W p l e rm_X11_whyRefused s m [.ref (gB E + za0), .int za1, .int za2, .int za3].toArray below meth c H locs 0 0 (MQ below (gQi E r9 h9) [.ref (gB E + za0), .int za1, .int za2, .int za3].toArray s 0 0 (gA E)) (F0 m 83 ls []) := by
    intro zv0 zh H locs ls hf hw hl
    unfold f_X11_whyRefused_83 at hf
    refine lv_aload_n hx hb dX11_whyRefused_83 rfl (lv_at hl 0 rfl) ?_
    obtain ⟨zt1, qzt1, hf⟩ := gb_el hf
    refine gx_getR X hw qzt1 clX11 (by decide) mf_X11_37 dX11_whyRefused_84 ?_
    obtain ⟨zt2, qzt2, hf⟩ := gb_el hf
    refine gx_getI X hw qzt2 clX9 (by decide) mf_X11_325 dX11_whyRefused_87 ?_
    refine lv_bipush (v := 100) hx hb dX11_whyRefused_90 (by decide) ?_
    refine lv_icmp_lt (tgt := 99) hx hb dX11_whyRefused_92 (by decide) (fun qc3 => ?_) (fun qc3 => ?_)
    · have hf := gif_t hf qc3
      refine lv_iconst (v := 0) hx hb dX11_whyRefused_99 (by decide) ?_
      exact J_100 0 _ _ _ ls hf hw (lv_sub hl [] rfl)
    · have hf := gif_f hf qc3
      refine lv_iconst (v := 5) hx hb dX11_whyRefused_95 (by decide) ?_
      refine lv_goto (tgt := 100) hx hb dX11_whyRefused_96 (by decide) ?_
      exact J_100 5 _ _ _ ls hf hw (lv_sub hl [] rfl)
  have J_38 : ∀ (zh : PH) (H : Heap) (locs : List Loc) (ls : Array Slot), f_X11_whyRefused_38 N zh = some (r9, h9) → gw E s zh H locs → lv_has ls 4 [] → W p l e rm_X11_whyRefused s m [.ref (gB E + za0), .int za1, .int za2, .int za3].toArray below meth c H locs 0 0 (MQ below (gQi E r9 h9) [.ref (gB E + za0), .int za1, .int za2, .int za3].toArray s 0 0 (gA E)) (F0 m 38 ls []) := by
    intro zh H locs ls hf hw hl
    unfold f_X11_whyRefused_38 at hf
    refine lv_iconst (v := 2) hx hb dX11_whyRefused_38 (by decide) ?_
    exact gx_iret X hr hlk hw hf dX11_whyRefused_39
  have J_18 : ∀ (zh : PH) (H : Heap) (locs : List Loc) (ls : Array Slot), f_X11_whyRefused_18 N zh = some (r9, h9) → gw E s zh H locs → lv_has ls 4 [] → W p l e rm_X11_whyRefused s m [.ref (gB E + za0), .int za1, .int za2, .int za3].toArray below meth c H locs 0 0 (MQ below (gQi E r9 h9) [.ref (gB E + za0), .int za1, .int za2, .int za3].toArray s 0 0 (gA E)) (F0 m 18 ls []) := by
    intro zh H locs ls hf hw hl
    unfold f_X11_whyRefused_18 at hf
    refine lv_iconst (v := 1) hx hb dX11_whyRefused_18 (by decide) ?_
    exact gx_iret X hr hlk hw hf dX11_whyRefused_19
  unfold f_X11_whyRefused at hf
  refine lv_aload_n hx hb dX11_whyRefused_0 rfl (lv_at hl 0 rfl) ?_
  refine lv_iload_n hx hb dX11_whyRefused_1 rfl (lv_at hl 1 rfl) ?_
  obtain ⟨qizh1, hf⟩ := gg_el hf
  obtain ⟨zt2, zh1, qzh1, hf⟩ := gc_el hf
  refine gx_ki (gx_runV (As := [.int za1]) (rest := []) X hw (c_X11_isGuest l E N za0 za1 zh qzh1) kX11_isGuest mm_X11_118 qizh1 clX11 ⟨Nat.le_of_ble_eq_true rfl, Nat.le_of_ble_eq_true rfl⟩ rfl rfl rfl hl.1 (Nat.le_of_ble_eq_true rfl) rfl dX11_whyRefused_2 ⟨Nat.le_of_ble_eq_true rfl, Nat.le_of_ble_eq_true rfl⟩) hw (fun H locs hw => ?_)
  refine lv_if_eq (tgt := 18) hx hb dX11_whyRefused_5 (by decide) (fun qc3 => ?_) (fun qc3 => ?_)
  · have hf := gif_t hf qc3
    exact J_18  _ _ _ ls hf hw (lv_sub hl [] rfl)
  · have hf := gif_f hf qc3
    refine lv_aload_n hx hb dX11_whyRefused_8 rfl (lv_at hl 0 rfl) ?_
    obtain ⟨zt4, qzt4, hf⟩ := gb_el hf
    refine gx_getR X hw qzt4 clX11 (by decide) mf_X11_69 dX11_whyRefused_9 ?_
    obtain ⟨zt5, qzt5, hf⟩ := gb_el hf
    refine gx_getI X hw qzt5 clX2 (by decide) mf_X11_230 dX11_whyRefused_12 ?_
    refine lv_if_ne (tgt := 20) hx hb dX11_whyRefused_15 (by decide) (fun qc6 => ?_) (fun qc6 => ?_)
    · have hf := gif_f hf qc6
      refine lv_iload_n hx hb dX11_whyRefused_20 rfl (lv_at hl 2 rfl) ?_
      refine W.eq (g2 := F0 m 21 ls [.int za2]) rfl ?_
      obtain ⟨zt8, zh7, qzh7, hf⟩ := gc_el hf
      refine gx_ki (gx_runS (As := [.int za2]) (rest := []) X hw (c_X11_isToldMinute l E N za2 zh1 qzh7) kX11_isToldMinute mm_X11_207 ⟨Nat.le_of_ble_eq_true rfl, Nat.le_of_ble_eq_true rfl⟩ rfl rfl rfl hl.1 (Nat.le_of_ble_eq_true rfl) rfl dX11_whyRefused_21 ⟨Nat.le_of_ble_eq_true rfl, Nat.le_of_ble_eq_true rfl⟩) hw (fun H locs hw => ?_)
      refine lv_if_eq (tgt := 38) hx hb dX11_whyRefused_24 (by decide) (fun qc9 => ?_) (fun qc9 => ?_)
      · have hf := gif_t hf qc9
        exact J_38  _ _ _ ls hf hw (lv_sub hl [] rfl)
      · have hf := gif_f hf qc9
        refine lv_iload_n hx hb dX11_whyRefused_27 rfl (lv_at hl 2 rfl) ?_
        refine lv_aload_n hx hb dX11_whyRefused_28 rfl (lv_at hl 0 rfl) ?_
        obtain ⟨zt10, qzt10, hf⟩ := gb_el hf
        refine gx_getR X hw qzt10 clX11 (by decide) mf_X11_37 dX11_whyRefused_29 ?_
        obtain ⟨zt11, qzt11, hf⟩ := gb_el hf
        refine gx_getI X hw qzt11 clX9 (by decide) mf_X11_328 dX11_whyRefused_32 ?_
        refine lv_icmp_ge (tgt := 40) hx hb dX11_whyRefused_35 (by decide) (fun qc12 => ?_) (fun qc12 => ?_)
        · have hf := gif_t hf qc12
          refine lv_aload_n hx hb dX11_whyRefused_40 rfl (lv_at hl 0 rfl) ?_
          obtain ⟨zt13, qzt13, hf⟩ := gb_el hf
          refine gx_getR X hw qzt13 clX11 (by decide) mf_X11_37 dX11_whyRefused_41 ?_
          obtain ⟨zt14, qzt14, hf⟩ := gb_el hf
          refine gx_getR X hw qzt14 clX9 (by decide) mf_X11_112 dX11_whyRefused_44 ?_
          refine W.eq (g2 := F0 m 47 ls [.ref (gB E + zt14)]) rfl ?_
          refine lv_iload_n hx hb dX11_whyRefused_47 rfl (lv_at hl 1 rfl) ?_
          obtain ⟨qizh15, hf⟩ := gg_el hf
          obtain ⟨zt16, zh15, qzh15, hf⟩ := gc_el hf
          refine gx_ki (gx_runV (As := [.int za1]) (rest := []) X hw (c_X1_isIn l E N zt14 za1 zh7 qzh15) kX1_isIn mm_X11_286 qizh15 clX1 ⟨Nat.le_of_ble_eq_true rfl, Nat.le_of_ble_eq_true rfl⟩ rfl rfl rfl hl.1 (Nat.le_of_ble_eq_true rfl) rfl dX11_whyRefused_48 ⟨Nat.le_of_ble_eq_true rfl, Nat.le_of_ble_eq_true rfl⟩) hw (fun H locs hw => ?_)
          refine lv_iload_n hx hb dX11_whyRefused_51 rfl (lv_at hl 3 rfl) ?_
          refine lv_icmp_ne (tgt := 57) hx hb dX11_whyRefused_52 (by decide) (fun qc17 => ?_) (fun qc17 => ?_)
          · have hf := gif_f hf qc17
            refine lv_iload_n hx hb dX11_whyRefused_57 rfl (lv_at hl 3 rfl) ?_
            refine lv_if_eq (tgt := 83) hx hb dX11_whyRefused_58 (by decide) (fun qc18 => ?_) (fun qc18 => ?_)
            · have hf := gif_t hf qc18
              exact J_83 za0 _ _ _ ls hf hw (lv_sub hl [0] rfl)
            · have hf := gif_f hf qc18
              refine lv_aload_n hx hb dX11_whyRefused_61 rfl (lv_at hl 0 rfl) ?_
              obtain ⟨zt19, qzt19, hf⟩ := gb_el hf
              refine gx_getR X hw qzt19 clX11 (by decide) mf_X11_37 dX11_whyRefused_62 ?_
              obtain ⟨zt20, qzt20, hf⟩ := gb_el hf
              refine gx_getR X hw qzt20 clX9 (by decide) mf_X11_112 dX11_whyRefused_65 ?_
              obtain ⟨qizh21, hf⟩ := gg_el hf
              obtain ⟨zt22, zh21, qzh21, hf⟩ := gc_el hf
              refine gx_ki (gx_runV (As := []) (rest := []) X hw (c_X1_guestsIn l E N zt20 zh15 qzh21) kX1_guestsIn mm_X11_295 qizh21 clX1 ⟨Nat.le_of_ble_eq_true rfl, Nat.le_of_ble_eq_true rfl⟩ rfl rfl rfl hl.1 (Nat.le_of_ble_eq_true rfl) rfl dX11_whyRefused_68 ⟨Nat.le_of_ble_eq_true rfl, Nat.le_of_ble_eq_true rfl⟩) hw (fun H locs hw => ?_)
              refine W.eq (g2 := F0 m 71 ls [.int zt22]) rfl ?_
              refine lv_aload_n hx hb dX11_whyRefused_71 rfl (lv_at hl 0 rfl) ?_
              obtain ⟨zt23, qzt23, hf⟩ := gb_el hf
              refine gx_getR X hw qzt23 clX11 (by decide) mf_X11_69 dX11_whyRefused_72 ?_
              obtain ⟨zt24, qzt24, hf⟩ := gb_el hf
              refine gx_getI X hw qzt24 clX2 (by decide) mf_X11_230 dX11_whyRefused_75 ?_
              refine lv_icmp_lt (tgt := 83) hx hb dX11_whyRefused_78 (by decide) (fun qc25 => ?_) (fun qc25 => ?_)
              · have hf := gif_t hf qc25
                exact J_83 za0 _ _ _ ls hf hw (lv_sub hl [0] rfl)
              · have hf := gif_f hf qc25
                refine lv_iconst (v := 4) hx hb dX11_whyRefused_81 (by decide) ?_
                exact gx_iret X hr hlk hw hf dX11_whyRefused_82
          · have hf := gif_t hf qc17
            refine lv_iconst (v := 3) hx hb dX11_whyRefused_55 (by decide) ?_
            exact gx_iret X hr hlk hw hf dX11_whyRefused_56
        · have hf := gif_f hf qc12
          exact J_38  _ _ _ ls hf hw (lv_sub hl [] rfl)
    · have hf := gif_t hf qc6
      exact J_18  _ _ _ ls hf hw (lv_sub hl [] rfl)
abbrev rm_X11_come : Room := { frames := 6, cells := 0, slots := 0, locals := 142 }
set_option maxHeartbeats 4000000 in
set_option maxRecDepth 100000 in
theorem c_X11_come (l : Launch) (E : gE) (N : Nat) (za0 : Nat) (za1 : Int32) (za2 : Int32) (zh : PH) {h9 : PH} {r9 : Int32} (hf : f_X11_come N za0 za1 za2 zh = some (r9, h9)) : Met l yX11_come (gWS yX11_come cX11_come 4 (some .int)) rm_X11_come (gPc E [.ref (gB E + za0), .int za1, .int za2] zh) (gQi E r9 h9) 0 0 (gA E) := by
  refine gx_met (by decide) ?_ rfl
  intro p e s m below meth c X hr hlk hin2 hw
  have hx := X.1.1
  have hb := X.1.2.1
  have hl := lv_entry [.ref (gB E + za0), .int za1, .int za2] (n := 4) (Nat.le_of_ble_eq_true rfl)
  rw [lg_entry_eq]
  generalize (lg_sl [.ref (gB E + za0), .int za1, .int za2] ++ List.replicate (4 - (lg_sl [.ref (gB E + za0), .int za1, .int za2]).length) Slot.unset).toArray = ls at hl ⊢
  have hl : lv_has ls 4 [(0, .ref (gB E + za0)), (1, .int za1), (2, .int za2)] := hl
  have J_25 : ∀ (zv3 : Int32) (zh : PH) (H : Heap) (locs : List Loc) (ls : Array Slot), f_X11_come_25 N zv3 zh = some (r9, h9) → gw E s zh H locs → lv_has ls 4 [(3, .int zv3)] → W p l e rm_X11_come s m [.ref (gB E + za0), .int za1, .int za2].toArray below meth c H locs 0 0 (MQ below (gQi E r9 h9) [.ref (gB E + za0), .int za1, .int za2].toArray s 0 0 (gA E)) (F0 m 25 ls []) := by
    intro zv3 zh H locs ls hf hw hl
    unfold f_X11_come_25 at hf
    refine lv_iload_n hx hb dX11_come_25 rfl (lv_at hl 0 rfl) ?_
    exact gx_iret X hr hlk hw hf dX11_come_26
  unfold f_X11_come at hf
  refine lv_aload_n hx hb dX11_come_0 rfl (lv_at hl 0 rfl) ?_
  refine lv_iload_n hx hb dX11_come_1 rfl (lv_at hl 1 rfl) ?_
  refine lv_iload_n hx hb dX11_come_2 rfl (lv_at hl 2 rfl) ?_
  refine lv_iconst (v := 1) hx hb dX11_come_3 (by decide) ?_
  obtain ⟨qizh1, hf⟩ := gg_el hf
  obtain ⟨zt2, zh1, qzh1, hf⟩ := gc_el hf
  refine gx_ki (gx_runV (As := [.int za1, .int za2, .int 1]) (rest := []) X hw (c_X11_whyRefused l E N za0 za1 za2 1 zh qzh1) kX11_whyRefused mm_X11_162 qizh1 clX11 ⟨Nat.le_of_ble_eq_true rfl, Nat.le_of_ble_eq_true rfl⟩ rfl rfl rfl hl.1 (Nat.le_of_ble_eq_true rfl) rfl dX11_come_4 ⟨Nat.le_of_ble_eq_true rfl, Nat.le_of_ble_eq_true rfl⟩) hw (fun H locs hw => ?_)
  refine lv_istore_n (lv' := [(3, .int zt2), (0, .ref (gB E + za0)), (1, .int za1), (2, .int za2)]) hx hb dX11_come_7 rfl hl (by decide) rfl (fun ls hl => ?_)
  refine lv_iload_n hx hb dX11_come_8 rfl (lv_at hl 0 rfl) ?_
  refine lv_if_ne (tgt := 25) hx hb dX11_come_9 (by decide) (fun qc3 => ?_) (fun qc3 => ?_)
  · have hf := gif_f hf qc3
    exact J_25 zt2 _ _ _ ls hf hw (lv_sub hl [0] rfl)
  · have hf := gif_t hf qc3
    refine lv_aload_n hx hb dX11_come_12 rfl (lv_at hl 1 rfl) ?_
    refine W.eq (g2 := F0 m 13 ls [.ref (gB E + za0)]) rfl ?_
    obtain ⟨zt4, qzt4, hf⟩ := gb_el hf
    refine gx_getR X hw qzt4 clX11 (by decide) mf_X11_37 dX11_come_13 ?_
    refine lv_aload_n hx hb dX11_come_16 rfl (lv_at hl 1 rfl) ?_
    obtain ⟨zt5, qzt5, hf⟩ := gb_el hf
    refine gx_getR X hw qzt5 clX11 (by decide) mf_X11_69 dX11_come_17 ?_
    refine lv_iload_n hx hb dX11_come_20 rfl (lv_at hl 2 rfl) ?_
    refine lv_iload_n hx hb dX11_come_21 rfl (lv_at hl 3 rfl) ?_
    obtain ⟨qizh6, hf⟩ := gg_el hf
    obtain ⟨zh6, qzh6, hf⟩ := gb_el hf
    refine gx_kv (gx_runV (As := [.ref (gB E + zt5), .int za1, .int za2]) (rest := []) X hw (c_X9_takeIn l E N zt4 zt5 za1 za2 zh1 qzh6) kX9_takeIn mm_X11_166 qizh6 clX9 ⟨Nat.le_of_ble_eq_true rfl, Nat.le_of_ble_eq_true rfl⟩ rfl rfl rfl hl.1 (Nat.le_of_ble_eq_true rfl) rfl dX11_come_22 ⟨Nat.le_of_ble_eq_true rfl, Nat.le_of_ble_eq_true rfl⟩) hw (fun H locs hw => ?_)
    exact J_25 zt2 _ _ _ ls hf hw (lv_sub hl [0] rfl)
abbrev rm_X11_leave : Room := { frames := 7, cells := 0, slots := 0, locals := 174 }
set_option maxHeartbeats 4000000 in
set_option maxRecDepth 100000 in
theorem c_X11_leave (l : Launch) (E : gE) (N : Nat) (za0 : Nat) (za1 : Int32) (za2 : Int32) (zh : PH) {h9 : PH} {r9 : Int32} (hf : f_X11_leave N za0 za1 za2 zh = some (r9, h9)) : Met l yX11_leave (gWS yX11_leave cX11_leave 4 (some .int)) rm_X11_leave (gPc E [.ref (gB E + za0), .int za1, .int za2] zh) (gQi E r9 h9) 0 0 (gA E) := by
  refine gx_met (by decide) ?_ rfl
  intro p e s m below meth c X hr hlk hin2 hw
  have hx := X.1.1
  have hb := X.1.2.1
  have hl := lv_entry [.ref (gB E + za0), .int za1, .int za2] (n := 4) (Nat.le_of_ble_eq_true rfl)
  rw [lg_entry_eq]
  generalize (lg_sl [.ref (gB E + za0), .int za1, .int za2] ++ List.replicate (4 - (lg_sl [.ref (gB E + za0), .int za1, .int za2]).length) Slot.unset).toArray = ls at hl ⊢
  have hl : lv_has ls 4 [(0, .ref (gB E + za0)), (1, .int za1), (2, .int za2)] := hl
  have J_25 : ∀ (zv3 : Int32) (zh : PH) (H : Heap) (locs : List Loc) (ls : Array Slot), f_X11_leave_25 N zv3 zh = some (r9, h9) → gw E s zh H locs → lv_has ls 4 [(3, .int zv3)] → W p l e rm_X11_leave s m [.ref (gB E + za0), .int za1, .int za2].toArray below meth c H locs 0 0 (MQ below (gQi E r9 h9) [.ref (gB E + za0), .int za1, .int za2].toArray s 0 0 (gA E)) (F0 m 25 ls []) := by
    intro zv3 zh H locs ls hf hw hl
    unfold f_X11_leave_25 at hf
    refine lv_iload_n hx hb dX11_leave_25 rfl (lv_at hl 0 rfl) ?_
    exact gx_iret X hr hlk hw hf dX11_leave_26
  unfold f_X11_leave at hf
  refine lv_aload_n hx hb dX11_leave_0 rfl (lv_at hl 0 rfl) ?_
  refine lv_iload_n hx hb dX11_leave_1 rfl (lv_at hl 1 rfl) ?_
  refine lv_iload_n hx hb dX11_leave_2 rfl (lv_at hl 2 rfl) ?_
  refine lv_iconst (v := 0) hx hb dX11_leave_3 (by decide) ?_
  obtain ⟨qizh1, hf⟩ := gg_el hf
  obtain ⟨zt2, zh1, qzh1, hf⟩ := gc_el hf
  refine gx_ki (gx_runV (As := [.int za1, .int za2, .int 0]) (rest := []) X hw (c_X11_whyRefused l E N za0 za1 za2 0 zh qzh1) kX11_whyRefused mm_X11_162 qizh1 clX11 ⟨Nat.le_of_ble_eq_true rfl, Nat.le_of_ble_eq_true rfl⟩ rfl rfl rfl hl.1 (Nat.le_of_ble_eq_true rfl) rfl dX11_leave_4 ⟨Nat.le_of_ble_eq_true rfl, Nat.le_of_ble_eq_true rfl⟩) hw (fun H locs hw => ?_)
  refine lv_istore_n (lv' := [(3, .int zt2), (0, .ref (gB E + za0)), (1, .int za1), (2, .int za2)]) hx hb dX11_leave_7 rfl hl (by decide) rfl (fun ls hl => ?_)
  refine lv_iload_n hx hb dX11_leave_8 rfl (lv_at hl 0 rfl) ?_
  refine lv_if_ne (tgt := 25) hx hb dX11_leave_9 (by decide) (fun qc3 => ?_) (fun qc3 => ?_)
  · have hf := gif_f hf qc3
    exact J_25 zt2 _ _ _ ls hf hw (lv_sub hl [0] rfl)
  · have hf := gif_t hf qc3
    refine lv_aload_n hx hb dX11_leave_12 rfl (lv_at hl 1 rfl) ?_
    refine W.eq (g2 := F0 m 13 ls [.ref (gB E + za0)]) rfl ?_
    obtain ⟨zt4, qzt4, hf⟩ := gb_el hf
    refine gx_getR X hw qzt4 clX11 (by decide) mf_X11_37 dX11_leave_13 ?_
    refine lv_aload_n hx hb dX11_leave_16 rfl (lv_at hl 1 rfl) ?_
    obtain ⟨zt5, qzt5, hf⟩ := gb_el hf
    refine gx_getR X hw qzt5 clX11 (by decide) mf_X11_69 dX11_leave_17 ?_
    refine lv_iload_n hx hb dX11_leave_20 rfl (lv_at hl 2 rfl) ?_
    refine lv_iload_n hx hb dX11_leave_21 rfl (lv_at hl 3 rfl) ?_
    obtain ⟨qizh6, hf⟩ := gg_el hf
    obtain ⟨zh6, qzh6, hf⟩ := gb_el hf
    refine gx_kv (gx_runV (As := [.ref (gB E + zt5), .int za1, .int za2]) (rest := []) X hw (c_X9_letOut l E N zt4 zt5 za1 za2 zh1 qzh6) kX9_letOut mm_X11_170 qizh6 clX9 ⟨Nat.le_of_ble_eq_true rfl, Nat.le_of_ble_eq_true rfl⟩ rfl rfl rfl hl.1 (Nat.le_of_ble_eq_true rfl) rfl dX11_leave_22 ⟨Nat.le_of_ble_eq_true rfl, Nat.le_of_ble_eq_true rfl⟩) hw (fun H locs hw => ?_)
    exact J_25 zt2 _ _ _ ls hf hw (lv_sub hl [0] rfl)
abbrev rm_X11_over : Room := { frames := 0, cells := 0, slots := 0, locals := 0 }
set_option maxHeartbeats 4000000 in
set_option maxRecDepth 100000 in
theorem c_X11_over (l : Launch) (E : gE) (N : Nat) (za0 : Nat) (zh : PH) {h9 : PH} {r9 : Int32} (hf : f_X11_over N za0 zh = some (r9, h9)) : Met l yX11_over (gWS yX11_over cX11_over 1 (some .int)) rm_X11_over (gPc E [.ref (gB E + za0)] zh) (gQi E r9 h9) 0 0 (gA E) := by
  refine gx_met (by decide) ?_ rfl
  intro p e s m below meth c X hr hlk hin2 hw
  have hx := X.1.1
  have hb := X.1.2.1
  have hl := lv_entry [.ref (gB E + za0)] (n := 1) (Nat.le_of_ble_eq_true rfl)
  rw [lg_entry_eq]
  generalize (lg_sl [.ref (gB E + za0)] ++ List.replicate (1 - (lg_sl [.ref (gB E + za0)]).length) Slot.unset).toArray = ls at hl ⊢
  have hl : lv_has ls 1 [(0, .ref (gB E + za0))] := hl
  unfold f_X11_over at hf
  refine lv_aload_n hx hb dX11_over_0 rfl (lv_at hl 0 rfl) ?_
  obtain ⟨zt1, qzt1, hf⟩ := gb_el hf
  refine gx_getR X hw qzt1 clX11 (by decide) mf_X11_37 dX11_over_1 ?_
  obtain ⟨zt2, qzt2, hf⟩ := gb_el hf
  refine gx_getR X hw qzt2 clX9 (by decide) mf_X11_173 dX11_over_4 ?_
  obtain ⟨zt3, qzt3, hf⟩ := gb_el hf
  refine gx_getI X hw qzt3 clX0 (by decide) mf_X11_177 dX11_over_7 ?_
  exact gx_iret X hr hlk hw hf dX11_over_10
abbrev rm_X11_sum : Room := { frames := 0, cells := 0, slots := 0, locals := 0 }
set_option maxHeartbeats 4000000 in
set_option maxRecDepth 100000 in
theorem c_X11_sum (l : Launch) (E : gE) (N : Nat) (za0 : Nat) (za1 : Int32) (zh : PH) {h9 : PH} {r9 : Int32} (hf : f_X11_sum N za0 za1 zh = some (r9, h9)) : Met l yX11_sum (gWS yX11_sum cX11_sum 2 (some .int)) rm_X11_sum (gPc E [.ref (gB E + za0), .int za1] zh) (gQi E r9 h9) 0 0 (gA E) := by
  refine gx_met (by decide) ?_ rfl
  intro p e s m below meth c X hr hlk hin2 hw
  have hx := X.1.1
  have hb := X.1.2.1
  have hl := lv_entry [.ref (gB E + za0), .int za1] (n := 2) (Nat.le_of_ble_eq_true rfl)
  rw [lg_entry_eq]
  generalize (lg_sl [.ref (gB E + za0), .int za1] ++ List.replicate (2 - (lg_sl [.ref (gB E + za0), .int za1]).length) Slot.unset).toArray = ls at hl ⊢
  have hl : lv_has ls 2 [(0, .ref (gB E + za0)), (1, .int za1)] := hl
  unfold f_X11_sum at hf
  refine lv_iload_n hx hb dX11_sum_0 rfl (lv_at hl 1 rfl) ?_
  by_cases qc1 : (za1 : Int32) = 0
  · have hf := gif_t hf qc1
    refine lv_tableIn (off := 31) (tgt := 32) hx hb dX11_sum_1 (by rw [qc1]; decide) (by rw [qc1]; decide) (by rw [qc1]; rfl) (by decide) ?_
    refine lv_aload_n hx hb dX11_sum_32 rfl (lv_at hl 0 rfl) ?_
    obtain ⟨zt2, qzt2, hf⟩ := gb_el hf
    refine gx_getR X hw qzt2 clX11 (by decide) mf_X11_37 dX11_sum_33 ?_
    obtain ⟨zt3, qzt3, hf⟩ := gb_el hf
    refine gx_getR X hw qzt3 clX9 (by decide) mf_X11_112 dX11_sum_36 ?_
    obtain ⟨zt4, qzt4, hf⟩ := gb_el hf
    refine gx_getI X hw qzt4 clX1 (by decide) mf_X11_182 dX11_sum_39 ?_
    exact gx_iret X hr hlk hw hf dX11_sum_42
  have hf := gif_f hf qc1
  by_cases qc5 : (za1 : Int32) = 1
  · have hf := gif_t hf qc5
    refine lv_tableIn (off := 42) (tgt := 43) hx hb dX11_sum_1 (by rw [qc5]; decide) (by rw [qc5]; decide) (by rw [qc5]; rfl) (by decide) ?_
    refine lv_aload_n hx hb dX11_sum_43 rfl (lv_at hl 0 rfl) ?_
    obtain ⟨zt6, qzt6, hf⟩ := gb_el hf
    refine gx_getR X hw qzt6 clX11 (by decide) mf_X11_37 dX11_sum_44 ?_
    obtain ⟨zt7, qzt7, hf⟩ := gb_el hf
    refine gx_getR X hw qzt7 clX9 (by decide) mf_X11_112 dX11_sum_47 ?_
    obtain ⟨zt8, qzt8, hf⟩ := gb_el hf
    refine gx_getI X hw qzt8 clX1 (by decide) mf_X11_185 dX11_sum_50 ?_
    exact gx_iret X hr hlk hw hf dX11_sum_53
  have hf := gif_f hf qc5
  by_cases qc9 : (za1 : Int32) = 2
  · have hf := gif_t hf qc9
    refine lv_tableIn (off := 53) (tgt := 54) hx hb dX11_sum_1 (by rw [qc9]; decide) (by rw [qc9]; decide) (by rw [qc9]; rfl) (by decide) ?_
    refine lv_aload_n hx hb dX11_sum_54 rfl (lv_at hl 0 rfl) ?_
    obtain ⟨zt10, qzt10, hf⟩ := gb_el hf
    refine gx_getR X hw qzt10 clX11 (by decide) mf_X11_37 dX11_sum_55 ?_
    obtain ⟨zt11, qzt11, hf⟩ := gb_el hf
    refine gx_getR X hw qzt11 clX9 (by decide) mf_X11_112 dX11_sum_58 ?_
    obtain ⟨zt12, qzt12, hf⟩ := gb_el hf
    refine gx_getI X hw qzt12 clX1 (by decide) mf_X11_188 dX11_sum_61 ?_
    exact gx_iret X hr hlk hw hf dX11_sum_64
  have hf := gif_f hf qc9
  by_cases qc13 : (za1 : Int32) = 3
  · have hf := gif_t hf qc13
    refine lv_tableIn (off := 64) (tgt := 65) hx hb dX11_sum_1 (by rw [qc13]; decide) (by rw [qc13]; decide) (by rw [qc13]; rfl) (by decide) ?_
    refine lv_aload_n hx hb dX11_sum_65 rfl (lv_at hl 0 rfl) ?_
    obtain ⟨zt14, qzt14, hf⟩ := gb_el hf
    refine gx_getR X hw qzt14 clX11 (by decide) mf_X11_37 dX11_sum_66 ?_
    obtain ⟨zt15, qzt15, hf⟩ := gb_el hf
    refine gx_getR X hw qzt15 clX9 (by decide) mf_X11_112 dX11_sum_69 ?_
    obtain ⟨zt16, qzt16, hf⟩ := gb_el hf
    refine gx_getI X hw qzt16 clX1 (by decide) mf_X11_191 dX11_sum_72 ?_
    exact gx_iret X hr hlk hw hf dX11_sum_75
  have hf := gif_f hf qc13
  have nqc1 := lv_neT (a := 0) qc1 (by decide)
  have nqc5 := lv_neT (a := 1) qc5 (by decide)
  have nqc9 := lv_neT (a := 2) qc9 (by decide)
  have nqc13 := lv_neT (a := 3) qc13 (by decide)
  refine lv_tableOut (tgt := 76) hx hb dX11_sum_1 (by omega) (by decide) ?_
  refine lv_iconst (v := (-1)) hx hb dX11_sum_76 (by decide) ?_
  exact gx_iret X hr hlk hw hf dX11_sum_77
abbrev rm_X11_isAskedMinute : Room := { frames := 0, cells := 0, slots := 0, locals := 0 }
set_option maxHeartbeats 4000000 in
set_option maxRecDepth 100000 in
theorem c_X11_isAskedMinute (l : Launch) (E : gE) (N : Nat) (za0 : Int32) (zh : PH) {h9 : PH} {r9 : Int32} (hf : f_X11_isAskedMinute N za0 zh = some (r9, h9)) : Met l yX11_isAskedMinute (gWS yX11_isAskedMinute cX11_isAskedMinute 1 (some .boolean)) rm_X11_isAskedMinute (gPc E [.int za0] zh) (gQi E r9 h9) 0 0 (gA E) := by
  refine gx_met (by decide) ?_ rfl
  intro p e s m below meth c X hr hlk hin2 hw
  have hx := X.1.1
  have hb := X.1.2.1
  have hl := lv_entry [.int za0] (n := 1) (Nat.le_of_ble_eq_true rfl)
  rw [lg_entry_eq]
  generalize (lg_sl [.int za0] ++ List.replicate (1 - (lg_sl [.int za0]).length) Slot.unset).toArray = ls at hl ⊢
  have hl : lv_has ls 1 [(0, .int za0)] := hl
  have J_16 : ∀ (zs0 : Int32) (zh : PH) (H : Heap) (locs : List Loc) (ls : Array Slot), f_X11_isAskedMinute_16 N zs0 zh = some (r9, h9) → gw E s zh H locs → lv_has ls 1 [] → W p l e rm_X11_isAskedMinute s m [.int za0].toArray below meth c H locs 0 0 (MQ below (gQi E r9 h9) [.int za0].toArray s 0 0 (gA E)) (F0 m 16 ls [.int zs0]) := by
    intro zs0 zh H locs ls hf hw hl
    unfold f_X11_isAskedMinute_16 at hf
    exact gx_zret X hr hlk hw hf dX11_isAskedMinute_16
  have J_15 : ∀ (zh : PH) (H : Heap) (locs : List Loc) (ls : Array Slot), f_X11_isAskedMinute_15 N zh = some (r9, h9) → gw E s zh H locs → lv_has ls 1 [] → W p l e rm_X11_isAskedMinute s m [.int za0].toArray below meth c H locs 0 0 (MQ below (gQi E r9 h9) [.int za0].toArray s 0 0 (gA E)) (F0 m 15 ls []) := by
    intro zh H locs ls hf hw hl
    unfold f_X11_isAskedMinute_15 at hf
    refine lv_iconst (v := 0) hx hb dX11_isAskedMinute_15 (by decide) ?_
    exact J_16 0 _ _ _ ls hf hw (lv_sub hl [] rfl)
  unfold f_X11_isAskedMinute at hf
  refine lv_iload_n hx hb dX11_isAskedMinute_0 rfl (lv_at hl 0 rfl) ?_
  refine lv_if_lt (tgt := 15) hx hb dX11_isAskedMinute_1 (by decide) (fun qc1 => ?_) (fun qc1 => ?_)
  · have hf := gif_t hf qc1
    exact J_15  _ _ _ ls hf hw (lv_sub hl [] rfl)
  · have hf := gif_f hf qc1
    refine lv_iload_n hx hb dX11_isAskedMinute_4 rfl (lv_at hl 0 rfl) ?_
    refine lv_ldcw (v := 999999) hx hb X.1.2.2.2.1 (X.1.2.2.2.2 _ mk_X11_341) dX11_isAskedMinute_5 ?_
    refine lv_icmp_gt (tgt := 15) hx hb dX11_isAskedMinute_8 (by decide) (fun qc2 => ?_) (fun qc2 => ?_)
    · have hf := gif_t hf qc2
      exact J_15  _ _ _ ls hf hw (lv_sub hl [] rfl)
    · have hf := gif_f hf qc2
      refine lv_iconst (v := 1) hx hb dX11_isAskedMinute_11 (by decide) ?_
      refine lv_goto (tgt := 16) hx hb dX11_isAskedMinute_12 (by decide) ?_
      exact J_16 1 _ _ _ ls hf hw (lv_sub hl [] rfl)
abbrev rm_X11_where : Room := { frames := 3, cells := 0, slots := 0, locals := 65 }
set_option maxHeartbeats 4000000 in
set_option maxRecDepth 100000 in
theorem c_X11_where (l : Launch) (E : gE) (N : Nat) (za0 : Nat) (za1 : Int32) (za2 : Int32) (zh : PH) {h9 : PH} {r9 : Int32} (hf : f_X11_where N za0 za1 za2 zh = some (r9, h9)) : Met l yX11_where (gWS yX11_where cX11_where 3 (some .int)) rm_X11_where (gPc E [.ref (gB E + za0), .int za1, .int za2] zh) (gQi E r9 h9) 0 0 (gA E) := by
  refine gx_met (by decide) ?_ rfl
  intro p e s m below meth c X hr hlk hin2 hw
  have hx := X.1.1
  have hb := X.1.2.1
  have hl := lv_entry [.ref (gB E + za0), .int za1, .int za2] (n := 3) (Nat.le_of_ble_eq_true rfl)
  rw [lg_entry_eq]
  generalize (lg_sl [.ref (gB E + za0), .int za1, .int za2] ++ List.replicate (3 - (lg_sl [.ref (gB E + za0), .int za1, .int za2]).length) Slot.unset).toArray = ls at hl ⊢
  have hl : lv_has ls 3 [(0, .ref (gB E + za0)), (1, .int za1), (2, .int za2)] := hl
  have J_15 : ∀ (zh : PH) (H : Heap) (locs : List Loc) (ls : Array Slot), f_X11_where_15 N zh = some (r9, h9) → gw E s zh H locs → lv_has ls 3 [] → W p l e rm_X11_where s m [.ref (gB E + za0), .int za1, .int za2].toArray below meth c H locs 0 0 (MQ below (gQi E r9 h9) [.ref (gB E + za0), .int za1, .int za2].toArray s 0 0 (gA E)) (F0 m 15 ls []) := by
    intro zh H locs ls hf hw hl
    unfold f_X11_where_15 at hf
    refine lv_bipush (v := (-3)) hx hb dX11_where_15 (by decide) ?_
    exact gx_iret X hr hlk hw hf dX11_where_17
  unfold f_X11_where at hf
  refine lv_aload_n hx hb dX11_where_0 rfl (lv_at hl 0 rfl) ?_
  refine lv_iload_n hx hb dX11_where_1 rfl (lv_at hl 1 rfl) ?_
  obtain ⟨qizh1, hf⟩ := gg_el hf
  obtain ⟨zt2, zh1, qzh1, hf⟩ := gc_el hf
  refine gx_ki (gx_runV (As := [.int za1]) (rest := []) X hw (c_X11_isGuest l E N za0 za1 zh qzh1) kX11_isGuest mm_X11_118 qizh1 clX11 ⟨Nat.le_of_ble_eq_true rfl, Nat.le_of_ble_eq_true rfl⟩ rfl rfl rfl hl.1 (Nat.le_of_ble_eq_true rfl) rfl dX11_where_2 ⟨Nat.le_of_ble_eq_true rfl, Nat.le_of_ble_eq_true rfl⟩) hw (fun H locs hw => ?_)
  refine lv_if_eq (tgt := 15) hx hb dX11_where_5 (by decide) (fun qc3 => ?_) (fun qc3 => ?_)
  · have hf := gif_t hf qc3
    exact J_15  _ _ _ ls hf hw (lv_sub hl [] rfl)
  · have hf := gif_f hf qc3
    refine lv_iload_n hx hb dX11_where_8 rfl (lv_at hl 2 rfl) ?_
    obtain ⟨zt5, zh4, qzh4, hf⟩ := gc_el hf
    refine gx_ki (gx_runS (As := [.int za2]) (rest := []) X hw (c_X11_isAskedMinute l E N za2 zh1 qzh4) kX11_isAskedMinute mm_X11_194 ⟨Nat.le_of_ble_eq_true rfl, Nat.le_of_ble_eq_true rfl⟩ rfl rfl rfl hl.1 (Nat.le_of_ble_eq_true rfl) rfl dX11_where_9 ⟨Nat.le_of_ble_eq_true rfl, Nat.le_of_ble_eq_true rfl⟩) hw (fun H locs hw => ?_)
    refine lv_if_ne (tgt := 18) hx hb dX11_where_12 (by decide) (fun qc6 => ?_) (fun qc6 => ?_)
    · have hf := gif_f hf qc6
      refine lv_aload_n hx hb dX11_where_18 rfl (lv_at hl 0 rfl) ?_
      obtain ⟨zt7, qzt7, hf⟩ := gb_el hf
      refine gx_getR X hw qzt7 clX11 (by decide) mf_X11_37 dX11_where_19 ?_
      refine W.eq (g2 := F0 m 22 ls [.ref (gB E + zt7)]) rfl ?_
      obtain ⟨zt8, qzt8, hf⟩ := gb_el hf
      refine gx_getR X hw qzt8 clX9 (by decide) mf_X11_173 dX11_where_22 ?_
      refine lv_iload_n hx hb dX11_where_25 rfl (lv_at hl 1 rfl) ?_
      refine lv_iload_n hx hb dX11_where_26 rfl (lv_at hl 2 rfl) ?_
      obtain ⟨qizh9, hf⟩ := gg_el hf
      obtain ⟨zt10, zh9, qzh9, hf⟩ := gc_el hf
      refine gx_ki (gx_runV (As := [.int za1, .int za2]) (rest := []) X hw (c_X0_placeOf l E N zt8 za1 za2 zh4 qzh9) kX0_placeOf mm_X11_197 qizh9 clX0 ⟨Nat.le_of_ble_eq_true rfl, Nat.le_of_ble_eq_true rfl⟩ rfl rfl rfl hl.1 (Nat.le_of_ble_eq_true rfl) rfl dX11_where_27 ⟨Nat.le_of_ble_eq_true rfl, Nat.le_of_ble_eq_true rfl⟩) hw (fun H locs hw => ?_)
      exact gx_iret X hr hlk hw hf dX11_where_30
    · have hf := gif_t hf qc6
      exact J_15  _ _ _ ls hf hw (lv_sub hl [] rfl)
