abbrev rm_X12_feed : Room := { frames := 1, cells := 0, slots := 0, locals := 24 }
set_option maxHeartbeats 4000000 in
set_option maxRecDepth 100000 in
theorem c_X12_feed (l : Launch) (E : gE) (N : Nat) (za0 : Nat) (za1 : Int64) (za3 : Int64) (za5 : Int64) (zh : PH) {h9 : PH} {r9 : Int32} (hf : f_X12_feed N za0 za1 za3 za5 zh = some (r9, h9)) : Met l yX12_feed (gWS yX12_feed cX12_feed 7 (some .int)) rm_X12_feed (gPc E [.ref (gB E + za0), .long za1, .long za3, .long za5] zh) (gQi E r9 h9) 0 0 (gA E) := by
  refine gx_met (by decide) ?_ rfl
  intro p e s m below meth c X hr hlk hin2 hw
  have hx := X.1.1
  have hb := X.1.2.1
  have hl := lv_entry [.ref (gB E + za0), .long za1, .long za3, .long za5] (n := 7) (Nat.le_of_ble_eq_true rfl)
  rw [lg_entry_eq]
  generalize (lg_sl [.ref (gB E + za0), .long za1, .long za3, .long za5] ++ List.replicate (7 - (lg_sl [.ref (gB E + za0), .long za1, .long za3, .long za5]).length) Slot.unset).toArray = ls at hl ⊢
  have hl : lv_has ls 7 [(0, .ref (gB E + za0)), (1, .long za1), (3, .long za3), (5, .long za5)] := hl
  unfold f_X12_feed at hf
  refine lv_aload_n hx hb dX12_feed_0 rfl (lv_at hl 0 rfl) ?_
  refine lv_iconst (v := 0) hx hb dX12_feed_1 (by decide) ?_
  obtain ⟨zh1, qzh1, hf⟩ := gb_el hf
  refine gx_putV X hw qzh1 clX12 (by decide) mf_X12_1 rfl rfl rfl dX12_feed_2 (fun H locs hw => ?_)
  refine lv_aload_n hx hb dX12_feed_5 rfl (lv_at hl 0 rfl) ?_
  refine lv_lload_n hx hb dX12_feed_6 rfl (lv_at hl 1 rfl) ?_
  obtain ⟨qizh2, hf⟩ := gg_el hf
  obtain ⟨zh2, qzh2, hf⟩ := gb_el hf
  refine gx_kv (gx_runV (As := [.long za1]) (rest := []) X hw (c_X12_lay l E N za0 za1 zh1 qzh2) kX12_lay mm_X12_7 qizh2 clX12 ⟨Nat.le_of_ble_eq_true rfl, Nat.le_of_ble_eq_true rfl⟩ rfl rfl rfl hl.1 (Nat.le_of_ble_eq_true rfl) rfl dX12_feed_7 ⟨Nat.le_of_ble_eq_true rfl, Nat.le_of_ble_eq_true rfl⟩) hw (fun H locs hw => ?_)
  refine lv_aload_n hx hb dX12_feed_10 rfl (lv_at hl 0 rfl) ?_
  refine lv_lload_n hx hb dX12_feed_11 rfl (lv_at hl 2 rfl) ?_
  obtain ⟨qizh3, hf⟩ := gg_el hf
  obtain ⟨zh3, qzh3, hf⟩ := gb_el hf
  refine gx_kv (gx_runV (As := [.long za3]) (rest := []) X hw (c_X12_lay l E N za0 za3 zh2 qzh3) kX12_lay mm_X12_7 qizh3 clX12 ⟨Nat.le_of_ble_eq_true rfl, Nat.le_of_ble_eq_true rfl⟩ rfl rfl rfl hl.1 (Nat.le_of_ble_eq_true rfl) rfl dX12_feed_12 ⟨Nat.le_of_ble_eq_true rfl, Nat.le_of_ble_eq_true rfl⟩) hw (fun H locs hw => ?_)
  refine W.eq (g2 := F0 m 15 ls []) rfl ?_
  refine lv_aload_n hx hb dX12_feed_15 rfl (lv_at hl 0 rfl) ?_
  refine lv_lload hx hb dX12_feed_16 (lv_at hl 3 rfl) ?_
  obtain ⟨qizh4, hf⟩ := gg_el hf
  obtain ⟨zh4, qzh4, hf⟩ := gb_el hf
  refine gx_kv (gx_runV (As := [.long za5]) (rest := []) X hw (c_X12_lay l E N za0 za5 zh3 qzh4) kX12_lay mm_X12_7 qizh4 clX12 ⟨Nat.le_of_ble_eq_true rfl, Nat.le_of_ble_eq_true rfl⟩ rfl rfl rfl hl.1 (Nat.le_of_ble_eq_true rfl) rfl dX12_feed_18 ⟨Nat.le_of_ble_eq_true rfl, Nat.le_of_ble_eq_true rfl⟩) hw (fun H locs hw => ?_)
  refine lv_aload_n hx hb dX12_feed_21 rfl (lv_at hl 0 rfl) ?_
  obtain ⟨zt5, qzt5, hf⟩ := gb_el hf
  refine gx_getI X hw qzt5 clX12 (by decide) mf_X12_11 dX12_feed_22 ?_
  exact gx_iret X hr hlk hw hf dX12_feed_25
abbrev rm_X12_init : Room := { frames := 1, cells := 24, slots := 18861, locals := 20 }
set_option maxHeartbeats 4000000 in
set_option maxRecDepth 100000 in
theorem c_X12_init (l : Launch) (E : gE) (N : Nat) (za0 : Nat) (zh : PH) {h9 : PH} (hf : f_X12_init N za0 zh = some h9) : Met l yX12_init (gWS yX12_init cX12_init 1 none) rm_X12_init (gPc E [.ref (gB E + za0)] zh) (gQv E h9) 24 18861 (gA E) := by
  refine gx_met (by decide) ?_ rfl
  intro p e s m below meth c X hr hlk hin2 hw
  have hx := X.1.1
  have hb := X.1.2.1
  have hl := lv_entry [.ref (gB E + za0)] (n := 1) (Nat.le_of_ble_eq_true rfl)
  rw [lg_entry_eq]
  generalize (lg_sl [.ref (gB E + za0)] ++ List.replicate (1 - (lg_sl [.ref (gB E + za0)]).length) Slot.unset).toArray = ls at hl ⊢
  have hl : lv_has ls 1 [(0, .ref (gB E + za0))] := hl
  unfold f_X12_init at hf
  refine lv_aload_n hx hb dX12_init_0 rfl (lv_at hl 0 rfl) ?_
  refine gx_oinit X mm_X12_18 mo_inst mo_code hl.1 dX12_init_1 (Nat.le_of_ble_eq_true rfl) (Nat.le_of_ble_eq_true rfl) ?_
  refine lv_aload_n hx hb dX12_init_4 rfl (lv_at hl 0 rfl) ?_
  refine lv_sipush (v := 1000) hx hb dX12_init_5 (by decide) ?_
  obtain ⟨zr2, zh1, qzh1, hf⟩ := gc_el hf
  refine gx_newa0 X hw qzh1 ma_int (by decide) (by decide) (by decide) (Nat.le_of_ble_eq_true rfl) (Nat.le_of_ble_eq_true rfl) dX12_init_8 (fun H hw => ?_)
  obtain ⟨zh3, qzh3, hf⟩ := gb_el hf
  refine gx_putFV X hw qzh3 clX12 (by decide) mf_X12_14 rfl (hin2 rfl) rfl rfl rfl dX12_init_10 (fun H locs hw => ?_)
  refine lv_aload_n hx hb dX12_init_13 rfl (lv_at hl 0 rfl) ?_
  refine lv_sipush (v := 1002) hx hb dX12_init_14 (by decide) ?_
  obtain ⟨zr5, zh4, qzh4, hf⟩ := gc_el hf
  refine gx_newa0 X hw qzh4 ma_int (by decide) (by decide) (by decide) (Nat.le_of_ble_eq_true rfl) (Nat.le_of_ble_eq_true rfl) dX12_init_17 (fun H hw => ?_)
  refine W.eq (g2 := F0 m 19 ls [.ref (gB E + zr5), .ref (gB E + za0)]) rfl ?_
  obtain ⟨zh6, qzh6, hf⟩ := gb_el hf
  refine gx_putFV X hw qzh6 clX12 (by decide) mf_X12_24 rfl (hin2 rfl) rfl rfl rfl dX12_init_19 (fun H locs hw => ?_)
  refine lv_aload_n hx hb dX12_init_22 rfl (lv_at hl 0 rfl) ?_
  refine lv_sipush (v := 1002) hx hb dX12_init_23 (by decide) ?_
  obtain ⟨zr8, zh7, qzh7, hf⟩ := gc_el hf
  refine gx_newa0 X hw qzh7 ma_int (by decide) (by decide) (by decide) (Nat.le_of_ble_eq_true rfl) (Nat.le_of_ble_eq_true rfl) dX12_init_26 (fun H hw => ?_)
  obtain ⟨zh9, qzh9, hf⟩ := gb_el hf
  refine gx_putFV X hw qzh9 clX12 (by decide) mf_X12_27 rfl (hin2 rfl) rfl rfl rfl dX12_init_28 (fun H locs hw => ?_)
  refine lv_aload_n hx hb dX12_init_31 rfl (lv_at hl 0 rfl) ?_
  refine lv_sipush (v := 1002) hx hb dX12_init_32 (by decide) ?_
  obtain ⟨zr11, zh10, qzh10, hf⟩ := gc_el hf
  refine gx_newa1 X hw qzh10 ma_long (by decide) (by decide) (by decide) (Nat.le_of_ble_eq_true rfl) (Nat.le_of_ble_eq_true rfl) dX12_init_35 (fun H hw => ?_)
  obtain ⟨zh12, qzh12, hf⟩ := gb_el hf
  refine gx_putFV X hw qzh12 clX12 (by decide) mf_X12_30 rfl (hin2 rfl) rfl rfl rfl dX12_init_37 (fun H locs hw => ?_)
  refine lv_aload_n hx hb dX12_init_40 rfl (lv_at hl 0 rfl) ?_
  refine W.eq (g2 := F0 m 41 ls [.ref (gB E + za0)]) rfl ?_
  refine lv_bipush (v := 14) hx hb dX12_init_41 (by decide) ?_
  obtain ⟨zr14, zh13, qzh13, hf⟩ := gc_el hf
  refine gx_newa1 X hw qzh13 ma_long (by decide) (by decide) (by decide) (Nat.le_of_ble_eq_true rfl) (Nat.le_of_ble_eq_true rfl) dX12_init_43 (fun H hw => ?_)
  refine lv_dup hx hb dX12_init_45 rfl ?_
  refine lv_iconst (v := 0) hx hb dX12_init_46 (by decide) ?_
  refine lv_ldc2 (v := 932857) hx hb X.1.2.2.2.1 (X.1.2.2.2.2 _ mK_X12_34) dX12_init_47 ?_
  obtain ⟨zh15, qzh15, hf⟩ := gb_el hf
  refine gx_last X hw qzh15 dX12_init_50 (fun H locs hw => ?_)
  refine lv_dup hx hb dX12_init_51 rfl ?_
  refine lv_iconst (v := 1) hx hb dX12_init_52 (by decide) ?_
  refine lv_ldc2 (v := 14190408) hx hb X.1.2.2.2.1 (X.1.2.2.2.2 _ mK_X12_36) dX12_init_53 ?_
  obtain ⟨zh16, qzh16, hf⟩ := gb_el hf
  refine gx_last X hw qzh16 dX12_init_56 (fun H locs hw => ?_)
  refine W.eq (g2 := F0 m 57 ls [.ref (gB E + zr14), .ref (gB E + za0)]) rfl ?_
  refine lv_dup hx hb dX12_init_57 rfl ?_
  refine lv_iconst (v := 2) hx hb dX12_init_58 (by decide) ?_
  refine lv_ldc2 (v := 38424252) hx hb X.1.2.2.2.1 (X.1.2.2.2.2 _ mK_X12_38) dX12_init_59 ?_
  obtain ⟨zh17, qzh17, hf⟩ := gb_el hf
  refine gx_last X hw qzh17 dX12_init_62 (fun H locs hw => ?_)
  refine lv_dup hx hb dX12_init_63 rfl ?_
  refine lv_iconst (v := 3) hx hb dX12_init_64 (by decide) ?_
  refine lv_ldc2 (v := 103423) hx hb X.1.2.2.2.1 (X.1.2.2.2.2 _ mK_X12_40) dX12_init_65 ?_
  obtain ⟨zh18, qzh18, hf⟩ := gb_el hf
  refine gx_last X hw qzh18 dX12_init_68 (fun H locs hw => ?_)
  refine lv_dup hx hb dX12_init_69 rfl ?_
  refine lv_iconst (v := 4) hx hb dX12_init_70 (by decide) ?_
  refine W.eq (g2 := F0 m 71 ls [.int 4, .ref (gB E + zr14), .ref (gB E + zr14), .ref (gB E + za0)]) rfl ?_
  refine lv_ldc2 (v := 12777) hx hb X.1.2.2.2.1 (X.1.2.2.2.2 _ mK_X12_42) dX12_init_71 ?_
  obtain ⟨zh19, qzh19, hf⟩ := gb_el hf
  refine gx_last X hw qzh19 dX12_init_74 (fun H locs hw => ?_)
  refine lv_dup hx hb dX12_init_75 rfl ?_
  refine lv_iconst (v := 5) hx hb dX12_init_76 (by decide) ?_
  refine lv_ldc2 (v := 940952) hx hb X.1.2.2.2.1 (X.1.2.2.2.2 _ mK_X12_44) dX12_init_77 ?_
  obtain ⟨zh20, qzh20, hf⟩ := gb_el hf
  refine gx_last X hw qzh20 dX12_init_80 (fun H locs hw => ?_)
  refine lv_dup hx hb dX12_init_81 rfl ?_
  refine lv_bipush (v := 6) hx hb dX12_init_82 (by decide) ?_
  refine lv_ldc2 (v := 19741) hx hb X.1.2.2.2.1 (X.1.2.2.2.2 _ mK_X12_46) dX12_init_84 ?_
  obtain ⟨zh21, qzh21, hf⟩ := gb_el hf
  refine gx_last X hw qzh21 dX12_init_87 (fun H locs hw => ?_)
  refine W.eq (g2 := F0 m 88 ls [.ref (gB E + zr14), .ref (gB E + za0)]) rfl ?_
  refine lv_dup hx hb dX12_init_88 rfl ?_
  refine lv_bipush (v := 7) hx hb dX12_init_89 (by decide) ?_
  refine lv_ldc2 (v := 1891) hx hb X.1.2.2.2.1 (X.1.2.2.2.2 _ mK_X12_48) dX12_init_91 ?_
  obtain ⟨zh22, qzh22, hf⟩ := gb_el hf
  refine gx_last X hw qzh22 dX12_init_94 (fun H locs hw => ?_)
  refine lv_dup hx hb dX12_init_95 rfl ?_
  refine lv_bipush (v := 8) hx hb dX12_init_96 (by decide) ?_
  refine lv_ldc2 (v := 573) hx hb X.1.2.2.2.1 (X.1.2.2.2.2 _ mK_X12_50) dX12_init_98 ?_
  obtain ⟨zh23, qzh23, hf⟩ := gb_el hf
  refine gx_last X hw qzh23 dX12_init_101 (fun H locs hw => ?_)
  refine lv_dup hx hb dX12_init_102 rfl ?_
  refine lv_bipush (v := 9) hx hb dX12_init_103 (by decide) ?_
  refine W.eq (g2 := F0 m 105 ls [.int 9, .ref (gB E + zr14), .ref (gB E + zr14), .ref (gB E + za0)]) rfl ?_
  refine lv_ldc2 (v := 412740) hx hb X.1.2.2.2.1 (X.1.2.2.2.2 _ mK_X12_52) dX12_init_105 ?_
  obtain ⟨zh24, qzh24, hf⟩ := gb_el hf
  refine gx_last X hw qzh24 dX12_init_108 (fun H locs hw => ?_)
  refine lv_dup hx hb dX12_init_109 rfl ?_
  refine lv_bipush (v := 10) hx hb dX12_init_110 (by decide) ?_
  refine lv_ldc2 (v := 9636) hx hb X.1.2.2.2.1 (X.1.2.2.2.2 _ mK_X12_54) dX12_init_112 ?_
  obtain ⟨zh25, qzh25, hf⟩ := gb_el hf
  refine gx_last X hw qzh25 dX12_init_115 (fun H locs hw => ?_)
  refine lv_dup hx hb dX12_init_116 rfl ?_
  refine lv_bipush (v := 11) hx hb dX12_init_117 (by decide) ?_
  refine lv_ldc2 (v := 439334689) hx hb X.1.2.2.2.1 (X.1.2.2.2.2 _ mK_X12_56) dX12_init_119 ?_
  obtain ⟨zh26, qzh26, hf⟩ := gb_el hf
  refine gx_last X hw qzh26 dX12_init_122 (fun H locs hw => ?_)
  refine W.eq (g2 := F0 m 123 ls [.ref (gB E + zr14), .ref (gB E + za0)]) rfl ?_
  refine lv_dup hx hb dX12_init_123 rfl ?_
  refine lv_bipush (v := 12) hx hb dX12_init_124 (by decide) ?_
  refine lv_ldc2 (v := 36643473) hx hb X.1.2.2.2.1 (X.1.2.2.2.2 _ mK_X12_58) dX12_init_126 ?_
  obtain ⟨zh27, qzh27, hf⟩ := gb_el hf
  refine gx_last X hw qzh27 dX12_init_129 (fun H locs hw => ?_)
  refine lv_dup hx hb dX12_init_130 rfl ?_
  refine lv_bipush (v := 13) hx hb dX12_init_131 (by decide) ?_
  refine lv_ldc2 (v := 25154195) hx hb X.1.2.2.2.1 (X.1.2.2.2.2 _ mK_X12_60) dX12_init_133 ?_
  obtain ⟨zh28, qzh28, hf⟩ := gb_el hf
  refine gx_last X hw qzh28 dX12_init_136 (fun H locs hw => ?_)
  obtain ⟨zh29, qzh29, hf⟩ := gb_el hf
  refine gx_putFV X hw qzh29 clX12 (by decide) mf_X12_62 rfl (hin2 rfl) rfl rfl rfl dX12_init_137 (fun H locs hw => ?_)
  refine lv_aload_n hx hb dX12_init_140 rfl (lv_at hl 0 rfl) ?_
  refine W.eq (g2 := F0 m 141 ls [.ref (gB E + za0)]) rfl ?_
  refine lv_bipush (v := 120) hx hb dX12_init_141 (by decide) ?_
  obtain ⟨zr31, zh30, qzh30, hf⟩ := gc_el hf
  refine gx_newa0 X hw qzh30 ma_int (by decide) (by decide) (by decide) (Nat.le_of_ble_eq_true rfl) (Nat.le_of_ble_eq_true rfl) dX12_init_143 (fun H hw => ?_)
  obtain ⟨zh32, qzh32, hf⟩ := gb_el hf
  refine gx_putFV X hw qzh32 clX12 (by decide) mf_X12_65 rfl (hin2 rfl) rfl rfl rfl dX12_init_145 (fun H locs hw => ?_)
  refine lv_aload_n hx hb dX12_init_148 rfl (lv_at hl 0 rfl) ?_
  refine lv_sipush (v := 2200) hx hb dX12_init_149 (by decide) ?_
  obtain ⟨zr34, zh33, qzh33, hf⟩ := gc_el hf
  refine gx_newa0 X hw qzh33 ma_int (by decide) (by decide) (by decide) (Nat.le_of_ble_eq_true rfl) (Nat.le_of_ble_eq_true rfl) dX12_init_152 (fun H hw => ?_)
  obtain ⟨zh35, qzh35, hf⟩ := gb_el hf
  refine gx_putFV X hw qzh35 clX12 (by decide) mf_X12_68 rfl (hin2 rfl) rfl rfl rfl dX12_init_154 (fun H locs hw => ?_)
  refine lv_aload_n hx hb dX12_init_157 rfl (lv_at hl 0 rfl) ?_
  refine lv_sipush (v := 2200) hx hb dX12_init_158 (by decide) ?_
  obtain ⟨zr37, zh36, qzh36, hf⟩ := gc_el hf
  refine gx_newa0 X hw qzh36 ma_int (by decide) (by decide) (by decide) (Nat.le_of_ble_eq_true rfl) (Nat.le_of_ble_eq_true rfl) dX12_init_161 (fun H hw => ?_)
  refine W.eq (g2 := F0 m 163 ls [.ref (gB E + zr37), .ref (gB E + za0)]) rfl ?_
  obtain ⟨zh38, qzh38, hf⟩ := gb_el hf
  refine gx_putFV X hw qzh38 clX12 (by decide) mf_X12_71 rfl (hin2 rfl) rfl rfl rfl dX12_init_163 (fun H locs hw => ?_)
  refine lv_aload_n hx hb dX12_init_166 rfl (lv_at hl 0 rfl) ?_
  refine lv_bipush (v := 10) hx hb dX12_init_167 (by decide) ?_
  obtain ⟨zr40, zh39, qzh39, hf⟩ := gc_el hf
  refine gx_newa1 X hw qzh39 ma_long (by decide) (by decide) (by decide) (Nat.le_of_ble_eq_true rfl) (Nat.le_of_ble_eq_true rfl) dX12_init_169 (fun H hw => ?_)
  obtain ⟨zh41, qzh41, hf⟩ := gb_el hf
  refine gx_putFV X hw qzh41 clX12 (by decide) mf_X12_74 rfl (hin2 rfl) rfl rfl rfl dX12_init_171 (fun H locs hw => ?_)
  refine lv_aload_n hx hb dX12_init_174 rfl (lv_at hl 0 rfl) ?_
  refine lv_bipush (v := 8) hx hb dX12_init_175 (by decide) ?_
  obtain ⟨zr43, zh42, qzh42, hf⟩ := gc_el hf
  refine gx_newa0 X hw qzh42 ma_int (by decide) (by decide) (by decide) (Nat.le_of_ble_eq_true rfl) (Nat.le_of_ble_eq_true rfl) dX12_init_177 (fun H hw => ?_)
  obtain ⟨zh44, qzh44, hf⟩ := gb_el hf
  refine gx_putFV X hw qzh44 clX12 (by decide) mf_X12_77 rfl (hin2 rfl) rfl rfl rfl dX12_init_179 (fun H locs hw => ?_)
  refine lv_aload_n hx hb dX12_init_182 rfl (lv_at hl 0 rfl) ?_
  refine W.eq (g2 := F0 m 183 ls [.ref (gB E + za0)]) rfl ?_
  refine lv_sipush (v := 1100) hx hb dX12_init_183 (by decide) ?_
  obtain ⟨zr46, zh45, qzh45, hf⟩ := gc_el hf
  refine gx_newa0 X hw qzh45 ma_int (by decide) (by decide) (by decide) (Nat.le_of_ble_eq_true rfl) (Nat.le_of_ble_eq_true rfl) dX12_init_186 (fun H hw => ?_)
  obtain ⟨zh47, qzh47, hf⟩ := gb_el hf
  refine gx_putFV X hw qzh47 clX12 (by decide) mf_X12_80 rfl (hin2 rfl) rfl rfl rfl dX12_init_188 (fun H locs hw => ?_)
  refine lv_aload_n hx hb dX12_init_191 rfl (lv_at hl 0 rfl) ?_
  refine lv_sipush (v := 2600) hx hb dX12_init_192 (by decide) ?_
  obtain ⟨zr49, zh48, qzh48, hf⟩ := gc_el hf
  refine gx_newa0 X hw qzh48 ma_int (by decide) (by decide) (by decide) (Nat.le_of_ble_eq_true rfl) (Nat.le_of_ble_eq_true rfl) dX12_init_195 (fun H hw => ?_)
  obtain ⟨zh50, qzh50, hf⟩ := gb_el hf
  refine gx_putFV X hw qzh50 clX12 (by decide) mf_X12_83 rfl (hin2 rfl) rfl rfl rfl dX12_init_197 (fun H locs hw => ?_)
  refine lv_aload_n hx hb dX12_init_200 rfl (lv_at hl 0 rfl) ?_
  refine lv_bipush (v := 10) hx hb dX12_init_201 (by decide) ?_
  obtain ⟨zr52, zh51, qzh51, hf⟩ := gc_el hf
  refine gx_newa0 X hw qzh51 ma_int (by decide) (by decide) (by decide) (Nat.le_of_ble_eq_true rfl) (Nat.le_of_ble_eq_true rfl) dX12_init_203 (fun H hw => ?_)
  refine W.eq (g2 := F0 m 205 ls [.ref (gB E + zr52), .ref (gB E + za0)]) rfl ?_
  obtain ⟨zh53, qzh53, hf⟩ := gb_el hf
  refine gx_putFV X hw qzh53 clX12 (by decide) mf_X12_86 rfl (hin2 rfl) rfl rfl rfl dX12_init_205 (fun H locs hw => ?_)
  refine lv_aload_n hx hb dX12_init_208 rfl (lv_at hl 0 rfl) ?_
  refine lv_bipush (v := 10) hx hb dX12_init_209 (by decide) ?_
  obtain ⟨zr55, zh54, qzh54, hf⟩ := gc_el hf
  refine gx_newa0 X hw qzh54 ma_int (by decide) (by decide) (by decide) (Nat.le_of_ble_eq_true rfl) (Nat.le_of_ble_eq_true rfl) dX12_init_211 (fun H hw => ?_)
  obtain ⟨zh56, qzh56, hf⟩ := gb_el hf
  refine gx_putFV X hw qzh56 clX12 (by decide) mf_X12_89 rfl (hin2 rfl) rfl rfl rfl dX12_init_213 (fun H locs hw => ?_)
  refine lv_aload_n hx hb dX12_init_216 rfl (lv_at hl 0 rfl) ?_
  refine lv_bipush (v := 10) hx hb dX12_init_217 (by decide) ?_
  obtain ⟨zr58, zh57, qzh57, hf⟩ := gc_el hf
  refine gx_newa0 X hw qzh57 ma_int (by decide) (by decide) (by decide) (Nat.le_of_ble_eq_true rfl) (Nat.le_of_ble_eq_true rfl) dX12_init_219 (fun H hw => ?_)
  obtain ⟨zh59, qzh59, hf⟩ := gb_el hf
  refine gx_putFV X hw qzh59 clX12 (by decide) mf_X12_92 rfl (hin2 rfl) rfl rfl rfl dX12_init_221 (fun H locs hw => ?_)
  refine lv_aload_n hx hb dX12_init_224 rfl (lv_at hl 0 rfl) ?_
  refine W.eq (g2 := F0 m 225 ls [.ref (gB E + za0)]) rfl ?_
  refine lv_bipush (v := 10) hx hb dX12_init_225 (by decide) ?_
  obtain ⟨zr61, zh60, qzh60, hf⟩ := gc_el hf
  refine gx_newa3 X hw qzh60 ma_boolean (by decide) (by decide) (by decide) (Nat.le_of_ble_eq_true rfl) (Nat.le_of_ble_eq_true rfl) dX12_init_227 (fun H hw => ?_)
  obtain ⟨zh62, qzh62, hf⟩ := gb_el hf
  refine gx_putFV X hw qzh62 clX12 (by decide) mf_X12_95 rfl (hin2 rfl) rfl rfl rfl dX12_init_229 (fun H locs hw => ?_)
  refine lv_aload_n hx hb dX12_init_232 rfl (lv_at hl 0 rfl) ?_
  refine lv_sipush (v := 5500) hx hb dX12_init_233 (by decide) ?_
  obtain ⟨zr64, zh63, qzh63, hf⟩ := gc_el hf
  refine gx_newa0 X hw qzh63 ma_int (by decide) (by decide) (by decide) (Nat.le_of_ble_eq_true rfl) (Nat.le_of_ble_eq_true rfl) dX12_init_236 (fun H hw => ?_)
  obtain ⟨zh65, qzh65, hf⟩ := gb_el hf
  refine gx_putFV X hw qzh65 clX12 (by decide) mf_X12_99 rfl (hin2 rfl) rfl rfl rfl dX12_init_238 (fun H locs hw => ?_)
  refine lv_aload_n hx hb dX12_init_241 rfl (lv_at hl 0 rfl) ?_
  refine lv_sipush (v := 1024) hx hb dX12_init_242 (by decide) ?_
  obtain ⟨zr67, zh66, qzh66, hf⟩ := gc_el hf
  refine gx_newa1 X hw qzh66 ma_long (by decide) (by decide) (by decide) (Nat.le_of_ble_eq_true rfl) (Nat.le_of_ble_eq_true rfl) dX12_init_245 (fun H hw => ?_)
  refine W.eq (g2 := F0 m 247 ls [.ref (gB E + zr67), .ref (gB E + za0)]) rfl ?_
  obtain ⟨zh68, qzh68, hf⟩ := gb_el hf
  refine gx_putFV X hw qzh68 clX12 (by decide) mf_X12_102 rfl (hin2 rfl) rfl rfl rfl dX12_init_247 (fun H locs hw => ?_)
  refine lv_aload_n hx hb dX12_init_250 rfl (lv_at hl 0 rfl) ?_
  refine lv_bipush (v := 7) hx hb dX12_init_251 (by decide) ?_
  obtain ⟨zr70, zh69, qzh69, hf⟩ := gc_el hf
  refine gx_newa0 X hw qzh69 ma_int (by decide) (by decide) (by decide) (Nat.le_of_ble_eq_true rfl) (Nat.le_of_ble_eq_true rfl) dX12_init_253 (fun H hw => ?_)
  obtain ⟨zh71, qzh71, hf⟩ := gb_el hf
  refine gx_putFV X hw qzh71 clX12 (by decide) mf_X12_105 rfl (hin2 rfl) rfl rfl rfl dX12_init_255 (fun H locs hw => ?_)
  refine lv_aload_n hx hb dX12_init_258 rfl (lv_at hl 0 rfl) ?_
  refine lv_bipush (v := 7) hx hb dX12_init_259 (by decide) ?_
  obtain ⟨zr73, zh72, qzh72, hf⟩ := gc_el hf
  refine gx_newa0 X hw qzh72 ma_int (by decide) (by decide) (by decide) (Nat.le_of_ble_eq_true rfl) (Nat.le_of_ble_eq_true rfl) dX12_init_261 (fun H hw => ?_)
  obtain ⟨zh74, qzh74, hf⟩ := gb_el hf
  refine gx_putFV X hw qzh74 clX12 (by decide) mf_X12_108 rfl (hin2 rfl) rfl rfl rfl dX12_init_263 (fun H locs hw => ?_)
  refine lv_aload_n hx hb dX12_init_266 rfl (lv_at hl 0 rfl) ?_
  refine W.eq (g2 := F0 m 267 ls [.ref (gB E + za0)]) rfl ?_
  refine lv_bipush (v := 7) hx hb dX12_init_267 (by decide) ?_
  obtain ⟨zr76, zh75, qzh75, hf⟩ := gc_el hf
  refine gx_newa0 X hw qzh75 ma_int (by decide) (by decide) (by decide) (Nat.le_of_ble_eq_true rfl) (Nat.le_of_ble_eq_true rfl) dX12_init_269 (fun H hw => ?_)
  obtain ⟨zh77, qzh77, hf⟩ := gb_el hf
  refine gx_putFV X hw qzh77 clX12 (by decide) mf_X12_111 rfl (hin2 rfl) rfl rfl rfl dX12_init_271 (fun H locs hw => ?_)
  refine lv_aload_n hx hb dX12_init_274 rfl (lv_at hl 0 rfl) ?_
  refine lv_bipush (v := 7) hx hb dX12_init_275 (by decide) ?_
  obtain ⟨zr79, zh78, qzh78, hf⟩ := gc_el hf
  refine gx_newa0 X hw qzh78 ma_int (by decide) (by decide) (by decide) (Nat.le_of_ble_eq_true rfl) (Nat.le_of_ble_eq_true rfl) dX12_init_277 (fun H hw => ?_)
  obtain ⟨zh80, qzh80, hf⟩ := gb_el hf
  refine gx_putFV X hw qzh80 clX12 (by decide) mf_X12_114 rfl (hin2 rfl) rfl rfl rfl dX12_init_279 (fun H locs hw => ?_)
  refine lv_aload_n hx hb dX12_init_282 rfl (lv_at hl 0 rfl) ?_
  refine lv_bipush (v := 7) hx hb dX12_init_283 (by decide) ?_
  obtain ⟨zr82, zh81, qzh81, hf⟩ := gc_el hf
  refine gx_newa0 X hw qzh81 ma_int (by decide) (by decide) (by decide) (Nat.le_of_ble_eq_true rfl) (Nat.le_of_ble_eq_true rfl) dX12_init_285 (fun H hw => ?_)
  refine W.eq (g2 := F0 m 287 ls [.ref (gB E + zr82), .ref (gB E + za0)]) rfl ?_
  obtain ⟨zh83, qzh83, hf⟩ := gb_el hf
  refine gx_putFV X hw qzh83 clX12 (by decide) mf_X12_117 rfl (hin2 rfl) rfl rfl rfl dX12_init_287 (fun H locs hw => ?_)
  refine lv_aload_n hx hb dX12_init_290 rfl (lv_at hl 0 rfl) ?_
  refine lv_iconst (v := 4) hx hb dX12_init_291 (by decide) ?_
  obtain ⟨zr85, zh84, qzh84, hf⟩ := gc_el hf
  refine gx_newa3 X hw qzh84 ma_boolean (by decide) (by decide) (by decide) (Nat.le_of_ble_eq_true rfl) (Nat.le_of_ble_eq_true rfl) dX12_init_292 (fun H hw => ?_)
  obtain ⟨zh86, qzh86, hf⟩ := gb_el hf
  refine gx_putFV X hw qzh86 clX12 (by decide) mf_X12_120 rfl (hin2 rfl) rfl rfl rfl dX12_init_294 (fun H locs hw => ?_)
  refine lv_aload_n hx hb dX12_init_297 rfl (lv_at hl 0 rfl) ?_
  obtain ⟨zt87, qzt87, hf⟩ := gb_el hf
  refine gx_getR X hw qzt87 clX12 (by decide) mf_X12_83 dX12_init_298 ?_
  refine lv_iconst (v := 0) hx hb dX12_init_301 (by decide) ?_
  refine lv_iconst (v := (-1)) hx hb dX12_init_302 (by decide) ?_
  obtain ⟨zh88, qzh88, hf⟩ := gb_el hf
  refine gx_iast X hw qzh88 dX12_init_303 (fun H locs hw => ?_)
  refine W.eq (g2 := F0 m 304 ls []) rfl ?_
  refine lv_aload_n hx hb dX12_init_304 rfl (lv_at hl 0 rfl) ?_
  refine lv_iconst (v := 1) hx hb dX12_init_305 (by decide) ?_
  obtain ⟨zh89, qzh89, hf⟩ := gb_el hf
  refine gx_putV X hw qzh89 clX12 (by decide) mf_X12_123 rfl rfl rfl dX12_init_306 (fun H locs hw => ?_)
  exact gx_vret X hr hlk hw hf dX12_init_309
abbrev rm_X12_isLetter : Room := { frames := 0, cells := 0, slots := 0, locals := 0 }
set_option maxHeartbeats 4000000 in
set_option maxRecDepth 100000 in
theorem c_X12_isLetter (l : Launch) (E : gE) (N : Nat) (za0 : Int32) (zh : PH) {h9 : PH} {r9 : Int32} (hf : f_X12_isLetter N za0 zh = some (r9, h9)) : Met l yX12_isLetter (gWS yX12_isLetter cX12_isLetter 1 (some .boolean)) rm_X12_isLetter (gPc E [.int za0] zh) (gQi E r9 h9) 0 0 (gA E) := by
  refine gx_met (by decide) ?_ rfl
  intro p e s m below meth c X hr hlk hin2 hw
  have hx := X.1.1
  have hb := X.1.2.1
  have hl := lv_entry [.int za0] (n := 1) (Nat.le_of_ble_eq_true rfl)
  rw [lg_entry_eq]
  generalize (lg_sl [.int za0] ++ List.replicate (1 - (lg_sl [.int za0]).length) Slot.unset).toArray = ls at hl ⊢
  have hl : lv_has ls 1 [(0, .int za0)] := hl
  have J_17 : ∀ (zs0 : Int32) (zh : PH) (H : Heap) (locs : List Loc) (ls : Array Slot), f_X12_isLetter_17 N zs0 zh = some (r9, h9) → gw E s zh H locs → lv_has ls 1 [] → W p l e rm_X12_isLetter s m [.int za0].toArray below meth c H locs 0 0 (MQ below (gQi E r9 h9) [.int za0].toArray s 0 0 (gA E)) (F0 m 17 ls [.int zs0]) := by
    intro zs0 zh H locs ls hf hw hl
    unfold f_X12_isLetter_17 at hf
    exact gx_zret X hr hlk hw hf dX12_isLetter_17
  have J_16 : ∀ (zh : PH) (H : Heap) (locs : List Loc) (ls : Array Slot), f_X12_isLetter_16 N zh = some (r9, h9) → gw E s zh H locs → lv_has ls 1 [] → W p l e rm_X12_isLetter s m [.int za0].toArray below meth c H locs 0 0 (MQ below (gQi E r9 h9) [.int za0].toArray s 0 0 (gA E)) (F0 m 16 ls []) := by
    intro zh H locs ls hf hw hl
    unfold f_X12_isLetter_16 at hf
    refine lv_iconst (v := 0) hx hb dX12_isLetter_16 (by decide) ?_
    exact J_17 0 _ _ _ ls hf hw (lv_sub hl [] rfl)
  unfold f_X12_isLetter at hf
  refine lv_iload_n hx hb dX12_isLetter_0 rfl (lv_at hl 0 rfl) ?_
  refine lv_bipush (v := 97) hx hb dX12_isLetter_1 (by decide) ?_
  refine lv_icmp_lt (tgt := 16) hx hb dX12_isLetter_3 (by decide) (fun qc1 => ?_) (fun qc1 => ?_)
  · have hf := gif_t hf qc1
    exact J_16  _ _ _ ls hf hw (lv_sub hl [] rfl)
  · have hf := gif_f hf qc1
    refine lv_iload_n hx hb dX12_isLetter_6 rfl (lv_at hl 0 rfl) ?_
    refine lv_bipush (v := 122) hx hb dX12_isLetter_7 (by decide) ?_
    refine lv_icmp_gt (tgt := 16) hx hb dX12_isLetter_9 (by decide) (fun qc2 => ?_) (fun qc2 => ?_)
    · have hf := gif_t hf qc2
      exact J_16  _ _ _ ls hf hw (lv_sub hl [] rfl)
    · have hf := gif_f hf qc2
      refine lv_iconst (v := 1) hx hb dX12_isLetter_12 (by decide) ?_
      refine lv_goto (tgt := 17) hx hb dX12_isLetter_13 (by decide) ?_
      exact J_17 1 _ _ _ ls hf hw (lv_sub hl [] rfl)
abbrev rm_X12_isDigit : Room := { frames := 0, cells := 0, slots := 0, locals := 0 }
set_option maxHeartbeats 4000000 in
set_option maxRecDepth 100000 in
theorem c_X12_isDigit (l : Launch) (E : gE) (N : Nat) (za0 : Int32) (zh : PH) {h9 : PH} {r9 : Int32} (hf : f_X12_isDigit N za0 zh = some (r9, h9)) : Met l yX12_isDigit (gWS yX12_isDigit cX12_isDigit 1 (some .boolean)) rm_X12_isDigit (gPc E [.int za0] zh) (gQi E r9 h9) 0 0 (gA E) := by
  refine gx_met (by decide) ?_ rfl
  intro p e s m below meth c X hr hlk hin2 hw
  have hx := X.1.1
  have hb := X.1.2.1
  have hl := lv_entry [.int za0] (n := 1) (Nat.le_of_ble_eq_true rfl)
  rw [lg_entry_eq]
  generalize (lg_sl [.int za0] ++ List.replicate (1 - (lg_sl [.int za0]).length) Slot.unset).toArray = ls at hl ⊢
  have hl : lv_has ls 1 [(0, .int za0)] := hl
  have J_17 : ∀ (zs0 : Int32) (zh : PH) (H : Heap) (locs : List Loc) (ls : Array Slot), f_X12_isDigit_17 N zs0 zh = some (r9, h9) → gw E s zh H locs → lv_has ls 1 [] → W p l e rm_X12_isDigit s m [.int za0].toArray below meth c H locs 0 0 (MQ below (gQi E r9 h9) [.int za0].toArray s 0 0 (gA E)) (F0 m 17 ls [.int zs0]) := by
    intro zs0 zh H locs ls hf hw hl
    unfold f_X12_isDigit_17 at hf
    exact gx_zret X hr hlk hw hf dX12_isDigit_17
  have J_16 : ∀ (zh : PH) (H : Heap) (locs : List Loc) (ls : Array Slot), f_X12_isDigit_16 N zh = some (r9, h9) → gw E s zh H locs → lv_has ls 1 [] → W p l e rm_X12_isDigit s m [.int za0].toArray below meth c H locs 0 0 (MQ below (gQi E r9 h9) [.int za0].toArray s 0 0 (gA E)) (F0 m 16 ls []) := by
    intro zh H locs ls hf hw hl
    unfold f_X12_isDigit_16 at hf
    refine lv_iconst (v := 0) hx hb dX12_isDigit_16 (by decide) ?_
    exact J_17 0 _ _ _ ls hf hw (lv_sub hl [] rfl)
  unfold f_X12_isDigit at hf
  refine lv_iload_n hx hb dX12_isDigit_0 rfl (lv_at hl 0 rfl) ?_
  refine lv_bipush (v := 48) hx hb dX12_isDigit_1 (by decide) ?_
  refine lv_icmp_lt (tgt := 16) hx hb dX12_isDigit_3 (by decide) (fun qc1 => ?_) (fun qc1 => ?_)
  · have hf := gif_t hf qc1
    exact J_16  _ _ _ ls hf hw (lv_sub hl [] rfl)
  · have hf := gif_f hf qc1
    refine lv_iload_n hx hb dX12_isDigit_6 rfl (lv_at hl 0 rfl) ?_
    refine lv_bipush (v := 57) hx hb dX12_isDigit_7 (by decide) ?_
    refine lv_icmp_gt (tgt := 16) hx hb dX12_isDigit_9 (by decide) (fun qc2 => ?_) (fun qc2 => ?_)
    · have hf := gif_t hf qc2
      exact J_16  _ _ _ ls hf hw (lv_sub hl [] rfl)
    · have hf := gif_f hf qc2
      refine lv_iconst (v := 1) hx hb dX12_isDigit_12 (by decide) ?_
      refine lv_goto (tgt := 17) hx hb dX12_isDigit_13 (by decide) ?_
      exact J_17 1 _ _ _ ls hf hw (lv_sub hl [] rfl)
abbrev rm_X12_rank : Room := { frames := 1, cells := 0, slots := 0, locals := 20 }
set_option maxHeartbeats 4000000 in
set_option maxRecDepth 100000 in
theorem c_X12_rank (l : Launch) (E : gE) (N : Nat) (za0 : Int32) (zh : PH) {h9 : PH} {r9 : Int32} (hf : f_X12_rank N za0 zh = some (r9, h9)) : Met l yX12_rank (gWS yX12_rank cX12_rank 1 (some .int)) rm_X12_rank (gPc E [.int za0] zh) (gQi E r9 h9) 0 0 (gA E) := by
  refine gx_met (by decide) ?_ rfl
  intro p e s m below meth c X hr hlk hin2 hw
  have hx := X.1.1
  have hb := X.1.2.1
  have hl := lv_entry [.int za0] (n := 1) (Nat.le_of_ble_eq_true rfl)
  rw [lg_entry_eq]
  generalize (lg_sl [.int za0] ++ List.replicate (1 - (lg_sl [.int za0]).length) Slot.unset).toArray = ls at hl ⊢
  have hl : lv_has ls 1 [(0, .int za0)] := hl
  have J_18 : ∀ (zs0 : Int32) (zh : PH) (H : Heap) (locs : List Loc) (ls : Array Slot), f_X12_rank_18 N zs0 zh = some (r9, h9) → gw E s zh H locs → lv_has ls 1 [] → W p l e rm_X12_rank s m [.int za0].toArray below meth c H locs 0 0 (MQ below (gQi E r9 h9) [.int za0].toArray s 0 0 (gA E)) (F0 m 18 ls [.int zs0]) := by
    intro zs0 zh H locs ls hf hw hl
    unfold f_X12_rank_18 at hf
    exact gx_iret X hr hlk hw hf dX12_rank_18
  unfold f_X12_rank at hf
  refine lv_iload_n hx hb dX12_rank_0 rfl (lv_at hl 0 rfl) ?_
  obtain ⟨zt2, zh1, qzh1, hf⟩ := gc_el hf
  refine gx_ki (gx_runS (As := [.int za0]) (rest := []) X hw (c_X12_isLetter l E N za0 zh qzh1) kX12_isLetter mm_X12_127 ⟨Nat.le_of_ble_eq_true rfl, Nat.le_of_ble_eq_true rfl⟩ rfl rfl rfl hl.1 (Nat.le_of_ble_eq_true rfl) rfl dX12_rank_1 ⟨Nat.le_of_ble_eq_true rfl, Nat.le_of_ble_eq_true rfl⟩) hw (fun H locs hw => ?_)
  refine lv_if_eq (tgt := 14) hx hb dX12_rank_4 (by decide) (fun qc3 => ?_) (fun qc3 => ?_)
  · have hf := gif_t hf qc3
    refine lv_iload_n hx hb dX12_rank_14 rfl (lv_at hl 0 rfl) ?_
    refine lv_bipush (v := 21) hx hb dX12_rank_15 (by decide) ?_
    refine lv_isub hx hb dX12_rank_17 ?_
    exact J_18 (za0 - 21) _ _ _ ls hf hw (lv_sub hl [] rfl)
  · have hf := gif_f hf qc3
    refine lv_iload_n hx hb dX12_rank_7 rfl (lv_at hl 0 rfl) ?_
    refine lv_bipush (v := 96) hx hb dX12_rank_8 (by decide) ?_
    refine lv_isub hx hb dX12_rank_10 ?_
    refine lv_goto (tgt := 18) hx hb dX12_rank_11 (by decide) ?_
    exact J_18 (za0 - 96) _ _ _ ls hf hw (lv_sub hl [] rfl)
abbrev rm_X12_isSignOf : Room := { frames := 0, cells := 0, slots := 0, locals := 0 }
set_option maxHeartbeats 4000000 in
set_option maxRecDepth 100000 in
theorem c_X12_isSignOf (l : Launch) (E : gE) (N : Nat) (za0 : Int32) (zh : PH) {h9 : PH} {r9 : Int32} (hf : f_X12_isSignOf N za0 zh = some (r9, h9)) : Met l yX12_isSignOf (gWS yX12_isSignOf cX12_isSignOf 1 (some .boolean)) rm_X12_isSignOf (gPc E [.int za0] zh) (gQi E r9 h9) 0 0 (gA E) := by
  refine gx_met (by decide) ?_ rfl
  intro p e s m below meth c X hr hlk hin2 hw
  have hx := X.1.1
  have hb := X.1.2.1
  have hl := lv_entry [.int za0] (n := 1) (Nat.le_of_ble_eq_true rfl)
  rw [lg_entry_eq]
  generalize (lg_sl [.int za0] ++ List.replicate (1 - (lg_sl [.int za0]).length) Slot.unset).toArray = ls at hl ⊢
  have hl : lv_has ls 1 [(0, .int za0)] := hl
  have J_53 : ∀ (zs0 : Int32) (zh : PH) (H : Heap) (locs : List Loc) (ls : Array Slot), f_X12_isSignOf_53 N zs0 zh = some (r9, h9) → gw E s zh H locs → lv_has ls 1 [] → W p l e rm_X12_isSignOf s m [.int za0].toArray below meth c H locs 0 0 (MQ below (gQi E r9 h9) [.int za0].toArray s 0 0 (gA E)) (F0 m 53 ls [.int zs0]) := by
    intro zs0 zh H locs ls hf hw hl
    unfold f_X12_isSignOf_53 at hf
    exact gx_zret X hr hlk hw hf dX12_isSignOf_53
  have J_48 : ∀ (zh : PH) (H : Heap) (locs : List Loc) (ls : Array Slot), f_X12_isSignOf_48 N zh = some (r9, h9) → gw E s zh H locs → lv_has ls 1 [] → W p l e rm_X12_isSignOf s m [.int za0].toArray below meth c H locs 0 0 (MQ below (gQi E r9 h9) [.int za0].toArray s 0 0 (gA E)) (F0 m 48 ls []) := by
    intro zh H locs ls hf hw hl
    unfold f_X12_isSignOf_48 at hf
    refine lv_iconst (v := 1) hx hb dX12_isSignOf_48 (by decide) ?_
    refine lv_goto (tgt := 53) hx hb dX12_isSignOf_49 (by decide) ?_
    exact J_53 1 _ _ _ ls hf hw (lv_sub hl [] rfl)
  unfold f_X12_isSignOf at hf
  refine lv_iload_n hx hb dX12_isSignOf_0 rfl (lv_at hl 0 rfl) ?_
  refine lv_bipush (v := 40) hx hb dX12_isSignOf_1 (by decide) ?_
  refine lv_icmp_eq (tgt := 48) hx hb dX12_isSignOf_3 (by decide) (fun qc1 => ?_) (fun qc1 => ?_)
  · have hf := gif_t hf qc1
    exact J_48  _ _ _ ls hf hw (lv_sub hl [] rfl)
  · have hf := gif_f hf qc1
    refine lv_iload_n hx hb dX12_isSignOf_6 rfl (lv_at hl 0 rfl) ?_
    refine lv_bipush (v := 41) hx hb dX12_isSignOf_7 (by decide) ?_
    refine lv_icmp_eq (tgt := 48) hx hb dX12_isSignOf_9 (by decide) (fun qc2 => ?_) (fun qc2 => ?_)
    · have hf := gif_t hf qc2
      exact J_48  _ _ _ ls hf hw (lv_sub hl [] rfl)
    · have hf := gif_f hf qc2
      refine lv_iload_n hx hb dX12_isSignOf_12 rfl (lv_at hl 0 rfl) ?_
      refine lv_bipush (v := 59) hx hb dX12_isSignOf_13 (by decide) ?_
      refine lv_icmp_eq (tgt := 48) hx hb dX12_isSignOf_15 (by decide) (fun qc3 => ?_) (fun qc3 => ?_)
      · have hf := gif_t hf qc3
        exact J_48  _ _ _ ls hf hw (lv_sub hl [] rfl)
      · have hf := gif_f hf qc3
        refine W.eq (g2 := F0 m 18 ls []) rfl ?_
        refine lv_iload_n hx hb dX12_isSignOf_18 rfl (lv_at hl 0 rfl) ?_
        refine lv_bipush (v := 61) hx hb dX12_isSignOf_19 (by decide) ?_
        refine lv_icmp_eq (tgt := 48) hx hb dX12_isSignOf_21 (by decide) (fun qc4 => ?_) (fun qc4 => ?_)
        · have hf := gif_t hf qc4
          exact J_48  _ _ _ ls hf hw (lv_sub hl [] rfl)
        · have hf := gif_f hf qc4
          refine lv_iload_n hx hb dX12_isSignOf_24 rfl (lv_at hl 0 rfl) ?_
          refine lv_bipush (v := 60) hx hb dX12_isSignOf_25 (by decide) ?_
          refine lv_icmp_eq (tgt := 48) hx hb dX12_isSignOf_27 (by decide) (fun qc5 => ?_) (fun qc5 => ?_)
          · have hf := gif_t hf qc5
            exact J_48  _ _ _ ls hf hw (lv_sub hl [] rfl)
          · have hf := gif_f hf qc5
            refine lv_iload_n hx hb dX12_isSignOf_30 rfl (lv_at hl 0 rfl) ?_
            refine lv_bipush (v := 43) hx hb dX12_isSignOf_31 (by decide) ?_
            refine lv_icmp_eq (tgt := 48) hx hb dX12_isSignOf_33 (by decide) (fun qc6 => ?_) (fun qc6 => ?_)
            · have hf := gif_t hf qc6
              exact J_48  _ _ _ ls hf hw (lv_sub hl [] rfl)
            · have hf := gif_f hf qc6
              refine lv_iload_n hx hb dX12_isSignOf_36 rfl (lv_at hl 0 rfl) ?_
              refine W.eq (g2 := F0 m 37 ls [.int za0]) rfl ?_
              refine lv_bipush (v := 45) hx hb dX12_isSignOf_37 (by decide) ?_
              refine lv_icmp_eq (tgt := 48) hx hb dX12_isSignOf_39 (by decide) (fun qc7 => ?_) (fun qc7 => ?_)
              · have hf := gif_t hf qc7
                exact J_48  _ _ _ ls hf hw (lv_sub hl [] rfl)
              · have hf := gif_f hf qc7
                refine lv_iload_n hx hb dX12_isSignOf_42 rfl (lv_at hl 0 rfl) ?_
                refine lv_bipush (v := 42) hx hb dX12_isSignOf_43 (by decide) ?_
                refine lv_icmp_ne (tgt := 52) hx hb dX12_isSignOf_45 (by decide) (fun qc8 => ?_) (fun qc8 => ?_)
                · have hf := gif_f hf qc8
                  refine lv_iconst (v := 0) hx hb dX12_isSignOf_52 (by decide) ?_
                  exact J_53 0 _ _ _ ls hf hw (lv_sub hl [] rfl)
                · have hf := gif_t hf qc8
                  exact J_48  _ _ _ ls hf hw (lv_sub hl [] rfl)
abbrev rm_X12_cutAll : Room := { frames := 2, cells := 0, slots := 0, locals := 40 }
set_option maxHeartbeats 4000000 in
set_option maxRecDepth 100000 in
theorem c_X12_cutAll (l : Launch) (E : gE) (N : Nat) (za0 : Nat) (zh : PH) {h9 : PH} (hf : f_X12_cutAll N za0 zh = some h9) : Met l yX12_cutAll (gWS yX12_cutAll cX12_cutAll 7 none) rm_X12_cutAll (gPc E [.ref (gB E + za0)] zh) (gQv E h9) 0 0 (gA E) := by
  refine gx_met (by decide) ?_ rfl
  intro p e s m below meth c X hr hlk hin2 hw
  have hx := X.1.1
  have hb := X.1.2.1
  have hl := lv_entry [.ref (gB E + za0)] (n := 7) (Nat.le_of_ble_eq_true rfl)
  rw [lg_entry_eq]
  generalize (lg_sl [.ref (gB E + za0)] ++ List.replicate (7 - (lg_sl [.ref (gB E + za0)]).length) Slot.unset).toArray = ls at hl ⊢
  have hl : lv_has ls 7 [(0, .ref (gB E + za0))] := hl
  have L_17 : ∀ (zn17 : Nat) (zv0 : Nat) (zv1 : Int32) (zv2 : Int32) (zh : PH) (H : Heap) (locs : List Loc) (ls : Array Slot), gi (fun zk zs => f_X12_cutAll_17 N zk zs.1 zs.2.1 zs.2.2.1 zs.2.2.2) zn17 (zv0, zv1, zv2, zh) = some h9 → gw E s zh H locs → lv_has ls 7 [(0, .ref (gB E + zv0)), (1, .int zv1), (2, .int zv2)] → W p l e rm_X12_cutAll s m [.ref (gB E + za0)].toArray below meth c H locs 0 0 (MQ below (gQv E h9) [.ref (gB E + za0)].toArray s 0 0 (gA E)) (F0 m 17 ls []) := by
    intro zn17
    induction zn17 with
    | zero =>
      intro zv0 zv1 zv2 zh H locs ls hf
      cases hf
    | succ zn17 ih_17 =>
      have J_265 : ∀ (zv0 : Nat) (zv1 : Int32) (zv2 : Int32) (zv5 : Int64) (zh : PH) (H : Heap) (locs : List Loc) (ls : Array Slot), f_X12_cutAll_265 N (gi (fun zk zs => f_X12_cutAll_17 N zk zs.1 zs.2.1 zs.2.2.1 zs.2.2.2) zn17) zv0 zv1 zv2 zv5 zh = some h9 → gw E s zh H locs → lv_has ls 7 [(0, .ref (gB E + zv0)), (1, .int zv1), (2, .int zv2), (5, .long zv5)] → W p l e rm_X12_cutAll s m [.ref (gB E + za0)].toArray below meth c H locs 0 0 (MQ below (gQv E h9) [.ref (gB E + za0)].toArray s 0 0 (gA E)) (F0 m 265 ls []) := by
        intro zv0 zv1 zv2 zv5 zh H locs ls hf hw hl
        unfold f_X12_cutAll_265 at hf
        refine lv_aload_n hx hb dX12_cutAll_265 rfl (lv_at hl 0 rfl) ?_
        obtain ⟨zt1, qzt1, hf⟩ := gb_el hf
        refine gx_getR X hw qzt1 clX12 (by decide) mf_X12_30 dX12_cutAll_266 ?_
        refine lv_iload_n hx hb dX12_cutAll_269 rfl (lv_at hl 1 rfl) ?_
        refine lv_lload hx hb dX12_cutAll_270 (lv_at hl 3 rfl) ?_
        obtain ⟨zh2, qzh2, hf⟩ := gb_el hf
        refine gx_last X hw qzh2 dX12_cutAll_272 (fun H locs hw => ?_)
        obtain ⟨zx3, ezx3⟩ : ∃ y : Int32, y = zv1 + 1 := ⟨_, rfl⟩
        have hf := gl_el hf ezx3
        refine lv_iinc (v := zx3) (lv' := [(1, .int zx3), (0, .ref (gB E + zv0)), (2, .int zv2), (5, .long zv5)]) hx hb dX12_cutAll_273 hl (k := 1) rfl (by rw [ezx3]; rfl) (by decide) rfl (fun ls hl => ?_)
        refine lv_goto (tgt := 17) hx hb dX12_cutAll_276 (by decide) ?_
        exact ih_17 zv0 zx3 zv2 _ _ _ ls hf hw (lv_sub hl [1, 0, 2] rfl)
      have J_261 : ∀ (zv0 : Nat) (zv1 : Int32) (zv2 : Int32) (zv5 : Int64) (zs0 : Int32) (zs1 : Int32) (zs2 : Nat) (zh : PH) (H : Heap) (locs : List Loc) (ls : Array Slot), f_X12_cutAll_261 N (gi (fun zk zs => f_X12_cutAll_17 N zk zs.1 zs.2.1 zs.2.2.1 zs.2.2.2) zn17) zv0 zv1 zv2 zv5 zs0 zs1 zs2 zh = some h9 → gw E s zh H locs → lv_has ls 7 [(0, .ref (gB E + zv0)), (1, .int zv1), (2, .int zv2), (5, .long zv5)] → W p l e rm_X12_cutAll s m [.ref (gB E + za0)].toArray below meth c H locs 0 0 (MQ below (gQv E h9) [.ref (gB E + za0)].toArray s 0 0 (gA E)) (F0 m 261 ls [.int zs0, .int zs1, .ref (gB E + zs2)]) := by
        intro zv0 zv1 zv2 zv5 zs0 zs1 zs2 zh H locs ls hf hw hl
        unfold f_X12_cutAll_261 at hf
        obtain ⟨zh1, qzh1, hf⟩ := gb_el hf
        refine gx_iast X hw qzh1 dX12_cutAll_261 (fun H locs hw => ?_)
        obtain ⟨zx2, ezx2⟩ : ∃ y : Int32, y = zv2 + 1 := ⟨_, rfl⟩
        have hf := gl_el hf ezx2
        refine lv_iinc (v := zx2) (lv' := [(2, .int zx2), (0, .ref (gB E + zv0)), (1, .int zv1), (5, .long zv5)]) hx hb dX12_cutAll_262 hl (k := 2) rfl (by rw [ezx2]; rfl) (by decide) rfl (fun ls hl => ?_)
        exact J_265 zv0 zv1 zx2 zv5 _ _ _ ls hf hw (lv_sub hl [1, 2, 0, 3] rfl)
      have J_236 : ∀ (zv0 : Nat) (zv1 : Int32) (zv2 : Int32) (zv5 : Int64) (zs0 : Int32) (zs1 : Int32) (zs2 : Nat) (zh : PH) (H : Heap) (locs : List Loc) (ls : Array Slot), f_X12_cutAll_236 N (gi (fun zk zs => f_X12_cutAll_17 N zk zs.1 zs.2.1 zs.2.2.1 zs.2.2.2) zn17) zv0 zv1 zv2 zv5 zs0 zs1 zs2 zh = some h9 → gw E s zh H locs → lv_has ls 7 [(0, .ref (gB E + zv0)), (1, .int zv1), (2, .int zv2), (5, .long zv5)] → W p l e rm_X12_cutAll s m [.ref (gB E + za0)].toArray below meth c H locs 0 0 (MQ below (gQv E h9) [.ref (gB E + za0)].toArray s 0 0 (gA E)) (F0 m 236 ls [.int zs0, .int zs1, .ref (gB E + zs2)]) := by
        intro zv0 zv1 zv2 zv5 zs0 zs1 zs2 zh H locs ls hf hw hl
        unfold f_X12_cutAll_236 at hf
        obtain ⟨zh1, qzh1, hf⟩ := gb_el hf
        refine gx_iast X hw qzh1 dX12_cutAll_236 (fun H locs hw => ?_)
        refine lv_goto (tgt := 265) hx hb dX12_cutAll_237 (by decide) ?_
        exact J_265 zv0 zv1 zv2 zv5 _ _ _ ls hf hw (lv_sub hl [0, 1, 2, 3] rfl)
      have J_218 : ∀ (zv0 : Nat) (zv1 : Int32) (zv2 : Int32) (zv4 : Int32) (zv5 : Int64) (zh : PH) (H : Heap) (locs : List Loc) (ls : Array Slot), f_X12_cutAll_218 N (gi (fun zk zs => f_X12_cutAll_17 N zk zs.1 zs.2.1 zs.2.2.1 zs.2.2.2) zn17) zv0 zv1 zv2 zv4 zv5 zh = some h9 → gw E s zh H locs → lv_has ls 7 [(0, .ref (gB E + zv0)), (1, .int zv1), (2, .int zv2), (4, .int zv4), (5, .long zv5)] → W p l e rm_X12_cutAll s m [.ref (gB E + za0)].toArray below meth c H locs 0 0 (MQ below (gQv E h9) [.ref (gB E + za0)].toArray s 0 0 (gA E)) (F0 m 218 ls []) := by
        intro zv0 zv1 zv2 zv4 zv5 zh H locs ls hf hw hl
        unfold f_X12_cutAll_218 at hf
        refine lv_aload_n hx hb dX12_cutAll_218 rfl (lv_at hl 0 rfl) ?_
        obtain ⟨zt1, qzt1, hf⟩ := gb_el hf
        refine gx_getR X hw qzt1 clX12 (by decide) mf_X12_24 dX12_cutAll_219 ?_
        refine lv_iload_n hx hb dX12_cutAll_222 rfl (lv_at hl 1 rfl) ?_
        refine lv_iload_n hx hb dX12_cutAll_223 rfl (lv_at hl 2 rfl) ?_
        refine lv_iload hx hb dX12_cutAll_224 (lv_at hl 3 rfl) ?_
        refine lv_isub hx hb dX12_cutAll_226 ?_
        refine lv_iconst (v := 4) hx hb dX12_cutAll_227 (by decide) ?_
        refine lv_icmp_le (tgt := 235) hx hb dX12_cutAll_228 (by decide) (fun qc2 => ?_) (fun qc2 => ?_)
        · have hf := gif_t hf qc2
          refine lv_iconst (v := 2) hx hb dX12_cutAll_235 (by decide) ?_
          exact J_236 zv0 zv1 zv2 zv5 2 zv1 zt1 _ _ _ ls hf hw (lv_sub hl [0, 1, 2, 4] rfl)
        · have hf := gif_f hf qc2
          refine lv_iconst (v := 4) hx hb dX12_cutAll_231 (by decide) ?_
          refine W.eq (g2 := F0 m 232 ls [.int 4, .int zv1, .ref (gB E + zt1)]) rfl ?_
          refine lv_goto (tgt := 236) hx hb dX12_cutAll_232 (by decide) ?_
          exact J_236 zv0 zv1 zv2 zv5 4 zv1 zt1 _ _ _ ls hf hw (lv_sub hl [0, 1, 2, 4] rfl)
      have L_159 : ∀ (zn159 : Nat) (zv0 : Nat) (zv1 : Int32) (zv2 : Int32) (zv4 : Int32) (zv5 : Int64) (zh : PH) (H : Heap) (locs : List Loc) (ls : Array Slot), gi (fun zk zs => f_X12_cutAll_159 N (gi (fun zk zs => f_X12_cutAll_17 N zk zs.1 zs.2.1 zs.2.2.1 zs.2.2.2) zn17) zk zs.1 zs.2.1 zs.2.2.1 zs.2.2.2.1 zs.2.2.2.2.1 zs.2.2.2.2.2) zn159 (zv0, zv1, zv2, zv4, zv5, zh) = some h9 → gw E s zh H locs → lv_has ls 7 [(0, .ref (gB E + zv0)), (1, .int zv1), (2, .int zv2), (4, .int zv4), (5, .long zv5)] → W p l e rm_X12_cutAll s m [.ref (gB E + za0)].toArray below meth c H locs 0 0 (MQ below (gQv E h9) [.ref (gB E + za0)].toArray s 0 0 (gA E)) (F0 m 159 ls []) := by
        intro zn159
        induction zn159 with
        | zero =>
          intro zv0 zv1 zv2 zv4 zv5 zh H locs ls hf
          cases hf
        | succ zn159 ih_159 =>
          have J_210 : ∀ (zv0 : Nat) (zv1 : Int32) (zv2 : Int32) (zv4 : Int32) (zs0 : Int64) (zh : PH) (H : Heap) (locs : List Loc) (ls : Array Slot), f_X12_cutAll_210 N (gi (fun zk zs => f_X12_cutAll_17 N zk zs.1 zs.2.1 zs.2.2.1 zs.2.2.2) zn17) (gi (fun zk zs => f_X12_cutAll_159 N (gi (fun zk zs => f_X12_cutAll_17 N zk zs.1 zs.2.1 zs.2.2.1 zs.2.2.2) zn17) zk zs.1 zs.2.1 zs.2.2.1 zs.2.2.2.1 zs.2.2.2.2.1 zs.2.2.2.2.2) zn159) zv0 zv1 zv2 zv4 zs0 zh = some h9 → gw E s zh H locs → lv_has ls 7 [(0, .ref (gB E + zv0)), (1, .int zv1), (2, .int zv2), (4, .int zv4)] → W p l e rm_X12_cutAll s m [.ref (gB E + za0)].toArray below meth c H locs 0 0 (MQ below (gQv E h9) [.ref (gB E + za0)].toArray s 0 0 (gA E)) (F0 m 210 ls [.long zs0]) := by
            intro zv0 zv1 zv2 zv4 zs0 zh H locs ls hf hw hl
            unfold f_X12_cutAll_210 at hf
            refine lv_lstore (lv' := [(5, .long zs0), (0, .ref (gB E + zv0)), (1, .int zv1), (2, .int zv2), (4, .int zv4)]) hx hb dX12_cutAll_210 hl (by decide) rfl (fun ls hl => ?_)
            obtain ⟨zx1, ezx1⟩ : ∃ y : Int32, y = zv2 + 1 := ⟨_, rfl⟩
            have hf := gl_el hf ezx1
            refine lv_iinc (v := zx1) (lv' := [(2, .int zx1), (5, .long zs0), (0, .ref (gB E + zv0)), (1, .int zv1), (4, .int zv4)]) hx hb dX12_cutAll_212 hl (k := 3) rfl (by rw [ezx1]; rfl) (by decide) rfl (fun ls hl => ?_)
            refine lv_goto (tgt := 159) hx hb dX12_cutAll_215 (by decide) ?_
            exact ih_159 zv0 zv1 zx1 zv4 zs0 _ _ _ ls hf hw (lv_sub hl [2, 3, 0, 4, 1] rfl)
          intro zv0 zv1 zv2 zv4 zv5 zh H locs ls hf hw hl
          have hf := gi_s hf
          dsimp only at hf
          unfold f_X12_cutAll_159 at hf
          refine lv_iload_n hx hb dX12_cutAll_159 rfl (lv_at hl 2 rfl) ?_
          refine lv_aload_n hx hb dX12_cutAll_160 rfl (lv_at hl 0 rfl) ?_
          obtain ⟨zt1, qzt1, hf⟩ := gb_el hf
          refine gx_getI X hw qzt1 clX12 (by decide) mf_X12_131 dX12_cutAll_161 ?_
          refine lv_icmp_ge (tgt := 218) hx hb dX12_cutAll_164 (by decide) (fun qc2 => ?_) (fun qc2 => ?_)
          · have hf := gif_t hf qc2
            exact J_218 zv0 zv1 zv2 zv4 zv5 _ _ _ ls hf hw (lv_sub hl [0, 1, 2, 3, 4] rfl)
          · have hf := gif_f hf qc2
            refine lv_aload_n hx hb dX12_cutAll_167 rfl (lv_at hl 0 rfl) ?_
            obtain ⟨zt3, qzt3, hf⟩ := gb_el hf
            refine gx_getR X hw qzt3 clX12 (by decide) mf_X12_14 dX12_cutAll_168 ?_
            refine lv_iload_n hx hb dX12_cutAll_171 rfl (lv_at hl 2 rfl) ?_
            obtain ⟨zt4, qzt4, hf⟩ := gb_el hf
            refine gx_iald X hw qzt4 dX12_cutAll_172 ?_
            obtain ⟨zt6, zh5, qzh5, hf⟩ := gc_el hf
            refine gx_ki (gx_runS (As := [.int zt4]) (rest := []) X hw (c_X12_isDigit l E N zt4 zh qzh5) kX12_isDigit mm_X12_140 ⟨Nat.le_of_ble_eq_true rfl, Nat.le_of_ble_eq_true rfl⟩ rfl rfl rfl hl.1 (Nat.le_of_ble_eq_true rfl) rfl dX12_cutAll_173 ⟨Nat.le_of_ble_eq_true rfl, Nat.le_of_ble_eq_true rfl⟩) hw (fun H locs hw => ?_)
            refine W.eq (g2 := F0 m 176 ls [.int zt6]) rfl ?_
            refine lv_if_eq (tgt := 218) hx hb dX12_cutAll_176 (by decide) (fun qc7 => ?_) (fun qc7 => ?_)
            · have hf := gif_t hf qc7
              exact J_218 zv0 zv1 zv2 zv4 zv5 _ _ _ ls hf hw (lv_sub hl [0, 1, 2, 3, 4] rfl)
            · have hf := gif_f hf qc7
              refine lv_iload_n hx hb dX12_cutAll_179 rfl (lv_at hl 2 rfl) ?_
              refine lv_iload hx hb dX12_cutAll_180 (lv_at hl 3 rfl) ?_
              refine lv_isub hx hb dX12_cutAll_182 ?_
              refine lv_iconst (v := 4) hx hb dX12_cutAll_183 (by decide) ?_
              refine lv_icmp_ge (tgt := 208) hx hb dX12_cutAll_184 (by decide) (fun qc8 => ?_) (fun qc8 => ?_)
              · have hf := gif_t hf qc8
                refine lv_lload hx hb dX12_cutAll_208 (lv_at hl 4 rfl) ?_
                exact J_210 zv0 zv1 zv2 zv4 zv5 _ _ _ ls hf hw (lv_sub hl [0, 1, 2, 3] rfl)
              · have hf := gif_f hf qc8
                refine lv_ldc2 (v := 10) hx hb X.1.2.2.2.1 (X.1.2.2.2.2 _ mK_X12_143) dX12_cutAll_187 ?_
                refine lv_lload hx hb dX12_cutAll_190 (lv_at hl 4 rfl) ?_
                refine lv_lmul hx hb dX12_cutAll_192 ?_
                refine lv_aload_n hx hb dX12_cutAll_193 rfl (lv_at hl 0 rfl) ?_
                refine W.eq (g2 := F0 m 194 ls [.ref (gB E + zv0), .long (10 * zv5)]) rfl ?_
                obtain ⟨zt9, qzt9, hf⟩ := gb_el hf
                refine gx_getR X hw qzt9 clX12 (by decide) mf_X12_14 dX12_cutAll_194 ?_
                refine lv_iload_n hx hb dX12_cutAll_197 rfl (lv_at hl 2 rfl) ?_
                obtain ⟨zt10, qzt10, hf⟩ := gb_el hf
                refine gx_iald X hw qzt10 dX12_cutAll_198 ?_
                refine lv_i2l hx hb dX12_cutAll_199 rfl ?_
                refine lv_ladd hx hb dX12_cutAll_200 ?_
                refine lv_ldc2 (v := 48) hx hb X.1.2.2.2.1 (X.1.2.2.2.2 _ mK_X12_145) dX12_cutAll_201 ?_
                refine lv_lsub hx hb dX12_cutAll_204 ?_
                refine lv_goto (tgt := 210) hx hb dX12_cutAll_205 (by decide) ?_
                exact J_210 zv0 zv1 zv2 zv4 (((10 * zv5) + (Int32.toInt64 zt10)) - 48) _ _ _ ls hf hw (lv_sub hl [0, 1, 2, 3] rfl)
      have J_148 : ∀ (zv0 : Nat) (zv1 : Int32) (zv2 : Int32) (zv5 : Int64) (zs0 : Int32) (zs1 : Int32) (zs2 : Nat) (zh : PH) (H : Heap) (locs : List Loc) (ls : Array Slot), f_X12_cutAll_148 N (gi (fun zk zs => f_X12_cutAll_17 N zk zs.1 zs.2.1 zs.2.2.1 zs.2.2.2) zn17) zv0 zv1 zv2 zv5 zs0 zs1 zs2 zh = some h9 → gw E s zh H locs → lv_has ls 7 [(0, .ref (gB E + zv0)), (1, .int zv1), (2, .int zv2), (5, .long zv5)] → W p l e rm_X12_cutAll s m [.ref (gB E + za0)].toArray below meth c H locs 0 0 (MQ below (gQv E h9) [.ref (gB E + za0)].toArray s 0 0 (gA E)) (F0 m 148 ls [.int zs0, .int zs1, .ref (gB E + zs2)]) := by
        intro zv0 zv1 zv2 zv5 zs0 zs1 zs2 zh H locs ls hf hw hl
        unfold f_X12_cutAll_148 at hf
        obtain ⟨zh1, qzh1, hf⟩ := gb_el hf
        refine gx_iast X hw qzh1 dX12_cutAll_148 (fun H locs hw => ?_)
        refine lv_goto (tgt := 265) hx hb dX12_cutAll_149 (by decide) ?_
        exact J_265 zv0 zv1 zv2 zv5 _ _ _ ls hf hw (lv_sub hl [0, 1, 2, 3] rfl)
      have J_129 : ∀ (zv0 : Nat) (zv1 : Int32) (zv2 : Int32) (zv4 : Int32) (zv5 : Int64) (zh : PH) (H : Heap) (locs : List Loc) (ls : Array Slot), f_X12_cutAll_129 N (gi (fun zk zs => f_X12_cutAll_17 N zk zs.1 zs.2.1 zs.2.2.1 zs.2.2.2) zn17) zv0 zv1 zv2 zv4 zv5 zh = some h9 → gw E s zh H locs → lv_has ls 7 [(0, .ref (gB E + zv0)), (1, .int zv1), (2, .int zv2), (4, .int zv4), (5, .long zv5)] → W p l e rm_X12_cutAll s m [.ref (gB E + za0)].toArray below meth c H locs 0 0 (MQ below (gQv E h9) [.ref (gB E + za0)].toArray s 0 0 (gA E)) (F0 m 129 ls []) := by
        intro zv0 zv1 zv2 zv4 zv5 zh H locs ls hf hw hl
        unfold f_X12_cutAll_129 at hf
        refine lv_aload_n hx hb dX12_cutAll_129 rfl (lv_at hl 0 rfl) ?_
        obtain ⟨zt1, qzt1, hf⟩ := gb_el hf
        refine gx_getR X hw qzt1 clX12 (by decide) mf_X12_24 dX12_cutAll_130 ?_
        refine lv_iload_n hx hb dX12_cutAll_133 rfl (lv_at hl 1 rfl) ?_
        refine lv_iload_n hx hb dX12_cutAll_134 rfl (lv_at hl 2 rfl) ?_
        refine lv_iload hx hb dX12_cutAll_135 (lv_at hl 3 rfl) ?_
        refine lv_isub hx hb dX12_cutAll_137 ?_
        refine lv_bipush (v := 8) hx hb dX12_cutAll_138 (by decide) ?_
        refine lv_icmp_le (tgt := 147) hx hb dX12_cutAll_140 (by decide) (fun qc2 => ?_) (fun qc2 => ?_)
        · have hf := gif_t hf qc2
          refine lv_iconst (v := 1) hx hb dX12_cutAll_147 (by decide) ?_
          exact J_148 zv0 zv1 zv2 zv5 1 zv1 zt1 _ _ _ ls hf hw (lv_sub hl [0, 1, 2, 4] rfl)
        · have hf := gif_f hf qc2
          refine lv_iconst (v := 4) hx hb dX12_cutAll_143 (by decide) ?_
          refine W.eq (g2 := F0 m 144 ls [.int 4, .int zv1, .ref (gB E + zt1)]) rfl ?_
          refine lv_goto (tgt := 148) hx hb dX12_cutAll_144 (by decide) ?_
          exact J_148 zv0 zv1 zv2 zv5 4 zv1 zt1 _ _ _ ls hf hw (lv_sub hl [0, 1, 2, 4] rfl)
      have L_70 : ∀ (zn70 : Nat) (zv0 : Nat) (zv1 : Int32) (zv2 : Int32) (zv4 : Int32) (zv5 : Int64) (zh : PH) (H : Heap) (locs : List Loc) (ls : Array Slot), gi (fun zk zs => f_X12_cutAll_70 N (gi (fun zk zs => f_X12_cutAll_17 N zk zs.1 zs.2.1 zs.2.2.1 zs.2.2.2) zn17) zk zs.1 zs.2.1 zs.2.2.1 zs.2.2.2.1 zs.2.2.2.2.1 zs.2.2.2.2.2) zn70 (zv0, zv1, zv2, zv4, zv5, zh) = some h9 → gw E s zh H locs → lv_has ls 7 [(0, .ref (gB E + zv0)), (1, .int zv1), (2, .int zv2), (4, .int zv4), (5, .long zv5)] → W p l e rm_X12_cutAll s m [.ref (gB E + za0)].toArray below meth c H locs 0 0 (MQ below (gQv E h9) [.ref (gB E + za0)].toArray s 0 0 (gA E)) (F0 m 70 ls []) := by
        intro zn70
        induction zn70 with
        | zero =>
          intro zv0 zv1 zv2 zv4 zv5 zh H locs ls hf
          cases hf
        | succ zn70 ih_70 =>
          have J_121 : ∀ (zv0 : Nat) (zv1 : Int32) (zv2 : Int32) (zv4 : Int32) (zs0 : Int64) (zh : PH) (H : Heap) (locs : List Loc) (ls : Array Slot), f_X12_cutAll_121 N (gi (fun zk zs => f_X12_cutAll_17 N zk zs.1 zs.2.1 zs.2.2.1 zs.2.2.2) zn17) (gi (fun zk zs => f_X12_cutAll_70 N (gi (fun zk zs => f_X12_cutAll_17 N zk zs.1 zs.2.1 zs.2.2.1 zs.2.2.2) zn17) zk zs.1 zs.2.1 zs.2.2.1 zs.2.2.2.1 zs.2.2.2.2.1 zs.2.2.2.2.2) zn70) zv0 zv1 zv2 zv4 zs0 zh = some h9 → gw E s zh H locs → lv_has ls 7 [(0, .ref (gB E + zv0)), (1, .int zv1), (2, .int zv2), (4, .int zv4)] → W p l e rm_X12_cutAll s m [.ref (gB E + za0)].toArray below meth c H locs 0 0 (MQ below (gQv E h9) [.ref (gB E + za0)].toArray s 0 0 (gA E)) (F0 m 121 ls [.long zs0]) := by
            intro zv0 zv1 zv2 zv4 zs0 zh H locs ls hf hw hl
            unfold f_X12_cutAll_121 at hf
            refine lv_lstore (lv' := [(5, .long zs0), (0, .ref (gB E + zv0)), (1, .int zv1), (2, .int zv2), (4, .int zv4)]) hx hb dX12_cutAll_121 hl (by decide) rfl (fun ls hl => ?_)
            obtain ⟨zx1, ezx1⟩ : ∃ y : Int32, y = zv2 + 1 := ⟨_, rfl⟩
            have hf := gl_el hf ezx1
            refine lv_iinc (v := zx1) (lv' := [(2, .int zx1), (5, .long zs0), (0, .ref (gB E + zv0)), (1, .int zv1), (4, .int zv4)]) hx hb dX12_cutAll_123 hl (k := 3) rfl (by rw [ezx1]; rfl) (by decide) rfl (fun ls hl => ?_)
            refine lv_goto (tgt := 70) hx hb dX12_cutAll_126 (by decide) ?_
            exact ih_70 zv0 zv1 zx1 zv4 zs0 _ _ _ ls hf hw (lv_sub hl [2, 3, 0, 4, 1] rfl)
          intro zv0 zv1 zv2 zv4 zv5 zh H locs ls hf hw hl
          have hf := gi_s hf
          dsimp only at hf
          unfold f_X12_cutAll_70 at hf
          refine lv_iload_n hx hb dX12_cutAll_70 rfl (lv_at hl 2 rfl) ?_
          refine lv_aload_n hx hb dX12_cutAll_71 rfl (lv_at hl 0 rfl) ?_
          obtain ⟨zt1, qzt1, hf⟩ := gb_el hf
          refine gx_getI X hw qzt1 clX12 (by decide) mf_X12_131 dX12_cutAll_72 ?_
          refine lv_icmp_ge (tgt := 129) hx hb dX12_cutAll_75 (by decide) (fun qc2 => ?_) (fun qc2 => ?_)
          · have hf := gif_t hf qc2
            exact J_129 zv0 zv1 zv2 zv4 zv5 _ _ _ ls hf hw (lv_sub hl [0, 1, 2, 3, 4] rfl)
          · have hf := gif_f hf qc2
            refine lv_aload_n hx hb dX12_cutAll_78 rfl (lv_at hl 0 rfl) ?_
            obtain ⟨zt3, qzt3, hf⟩ := gb_el hf
            refine gx_getR X hw qzt3 clX12 (by decide) mf_X12_14 dX12_cutAll_79 ?_
            refine lv_iload_n hx hb dX12_cutAll_82 rfl (lv_at hl 2 rfl) ?_
            obtain ⟨zt4, qzt4, hf⟩ := gb_el hf
            refine gx_iald X hw qzt4 dX12_cutAll_83 ?_
            obtain ⟨zt6, zh5, qzh5, hf⟩ := gc_el hf
            refine gx_ki (gx_runS (As := [.int zt4]) (rest := []) X hw (c_X12_isLetter l E N zt4 zh qzh5) kX12_isLetter mm_X12_127 ⟨Nat.le_of_ble_eq_true rfl, Nat.le_of_ble_eq_true rfl⟩ rfl rfl rfl hl.1 (Nat.le_of_ble_eq_true rfl) rfl dX12_cutAll_84 ⟨Nat.le_of_ble_eq_true rfl, Nat.le_of_ble_eq_true rfl⟩) hw (fun H locs hw => ?_)
            refine W.eq (g2 := F0 m 87 ls [.int zt6]) rfl ?_
            refine lv_if_eq (tgt := 129) hx hb dX12_cutAll_87 (by decide) (fun qc7 => ?_) (fun qc7 => ?_)
            · have hf := gif_t hf qc7
              exact J_129 zv0 zv1 zv2 zv4 zv5 _ _ _ ls hf hw (lv_sub hl [0, 1, 2, 3, 4] rfl)
            · have hf := gif_f hf qc7
              refine lv_iload_n hx hb dX12_cutAll_90 rfl (lv_at hl 2 rfl) ?_
              refine lv_iload hx hb dX12_cutAll_91 (lv_at hl 3 rfl) ?_
              refine lv_isub hx hb dX12_cutAll_93 ?_
              refine lv_bipush (v := 8) hx hb dX12_cutAll_94 (by decide) ?_
              refine lv_icmp_ge (tgt := 119) hx hb dX12_cutAll_96 (by decide) (fun qc8 => ?_) (fun qc8 => ?_)
              · have hf := gif_t hf qc8
                refine lv_lload hx hb dX12_cutAll_119 (lv_at hl 4 rfl) ?_
                exact J_121 zv0 zv1 zv2 zv4 zv5 _ _ _ ls hf hw (lv_sub hl [0, 1, 2, 3] rfl)
              · have hf := gif_f hf qc8
                refine lv_ldc2 (v := 37) hx hb X.1.2.2.2.1 (X.1.2.2.2.2 _ mK_X12_134) dX12_cutAll_99 ?_
                refine lv_lload hx hb dX12_cutAll_102 (lv_at hl 4 rfl) ?_
                refine lv_lmul hx hb dX12_cutAll_104 ?_
                refine lv_aload_n hx hb dX12_cutAll_105 rfl (lv_at hl 0 rfl) ?_
                refine W.eq (g2 := F0 m 106 ls [.ref (gB E + zv0), .long (37 * zv5)]) rfl ?_
                obtain ⟨zt9, qzt9, hf⟩ := gb_el hf
                refine gx_getR X hw qzt9 clX12 (by decide) mf_X12_14 dX12_cutAll_106 ?_
                refine lv_iload_n hx hb dX12_cutAll_109 rfl (lv_at hl 2 rfl) ?_
                obtain ⟨zt10, qzt10, hf⟩ := gb_el hf
                refine gx_iald X hw qzt10 dX12_cutAll_110 ?_
                obtain ⟨zt12, zh11, qzh11, hf⟩ := gc_el hf
                refine gx_ki (gx_runS (As := [.int zt10]) (rest := [.long (37 * zv5)]) X hw (c_X12_rank l E N zt10 zh5 qzh11) kX12_rank mm_X12_136 ⟨Nat.le_of_ble_eq_true rfl, Nat.le_of_ble_eq_true rfl⟩ rfl rfl rfl hl.1 (Nat.le_of_ble_eq_true rfl) rfl dX12_cutAll_111 ⟨Nat.le_of_ble_eq_true rfl, Nat.le_of_ble_eq_true rfl⟩) hw (fun H locs hw => ?_)
                refine lv_i2l hx hb dX12_cutAll_114 rfl ?_
                refine lv_ladd hx hb dX12_cutAll_115 ?_
                refine lv_goto (tgt := 121) hx hb dX12_cutAll_116 (by decide) ?_
                exact J_121 zv0 zv1 zv2 zv4 ((37 * zv5) + (Int32.toInt64 zt12)) _ _ _ ls hf hw (lv_sub hl [0, 1, 2, 3] rfl)
      have J_44 : ∀ (zv0 : Nat) (zv1 : Int32) (zv2 : Int32) (zh : PH) (H : Heap) (locs : List Loc) (ls : Array Slot), f_X12_cutAll_44 N (gi (fun zk zs => f_X12_cutAll_17 N zk zs.1 zs.2.1 zs.2.2.1 zs.2.2.2) zn17) zv0 zv1 zv2 zh = some h9 → gw E s zh H locs → lv_has ls 7 [(0, .ref (gB E + zv0)), (1, .int zv1), (2, .int zv2)] → W p l e rm_X12_cutAll s m [.ref (gB E + za0)].toArray below meth c H locs 0 0 (MQ below (gQv E h9) [.ref (gB E + za0)].toArray s 0 0 (gA E)) (F0 m 44 ls []) := by
        intro zv0 zv1 zv2 zh H locs ls hf hw hl
        unfold f_X12_cutAll_44 at hf
        obtain ⟨zx1, ezx1⟩ : ∃ y : Int32, y = zv2 + 1 := ⟨_, rfl⟩
        have hf := gl_el hf ezx1
        refine lv_iinc (v := zx1) (lv' := [(2, .int zx1), (0, .ref (gB E + zv0)), (1, .int zv1)]) hx hb dX12_cutAll_44 hl (k := 2) rfl (by rw [ezx1]; rfl) (by decide) rfl (fun ls hl => ?_)
        refine lv_goto (tgt := 17) hx hb dX12_cutAll_47 (by decide) ?_
        exact ih_17 zv0 zv1 zx1 _ _ _ ls hf hw (lv_sub hl [1, 2, 0] rfl)
      intro zv0 zv1 zv2 zh H locs ls hf hw hl
      have hf := gi_s hf
      dsimp only at hf
      unfold f_X12_cutAll_17 at hf
      refine lv_iload_n hx hb dX12_cutAll_17 rfl (lv_at hl 2 rfl) ?_
      refine lv_aload_n hx hb dX12_cutAll_18 rfl (lv_at hl 0 rfl) ?_
      obtain ⟨zt1, qzt1, hf⟩ := gb_el hf
      refine gx_getI X hw qzt1 clX12 (by decide) mf_X12_131 dX12_cutAll_19 ?_
      refine lv_icmp_ge (tgt := 279) hx hb dX12_cutAll_22 (by decide) (fun qc2 => ?_) (fun qc2 => ?_)
      · have hf := gif_t hf qc2
        refine lv_aload_n hx hb dX12_cutAll_279 rfl (lv_at hl 0 rfl) ?_
        obtain ⟨zt3, qzt3, hf⟩ := gb_el hf
        refine gx_getR X hw qzt3 clX12 (by decide) mf_X12_24 dX12_cutAll_280 ?_
        refine lv_iload_n hx hb dX12_cutAll_283 rfl (lv_at hl 1 rfl) ?_
        refine lv_iconst (v := 0) hx hb dX12_cutAll_284 (by decide) ?_
        obtain ⟨zh4, qzh4, hf⟩ := gb_el hf
        refine gx_iast X hw qzh4 dX12_cutAll_285 (fun H locs hw => ?_)
        refine W.eq (g2 := F0 m 286 ls []) rfl ?_
        refine lv_aload_n hx hb dX12_cutAll_286 rfl (lv_at hl 0 rfl) ?_
        obtain ⟨zt5, qzt5, hf⟩ := gb_el hf
        refine gx_getR X hw qzt5 clX12 (by decide) mf_X12_27 dX12_cutAll_287 ?_
        refine lv_iload_n hx hb dX12_cutAll_290 rfl (lv_at hl 1 rfl) ?_
        refine lv_aload_n hx hb dX12_cutAll_291 rfl (lv_at hl 0 rfl) ?_
        obtain ⟨zt6, qzt6, hf⟩ := gb_el hf
        refine gx_getI X hw qzt6 clX12 (by decide) mf_X12_131 dX12_cutAll_292 ?_
        obtain ⟨zh7, qzh7, hf⟩ := gb_el hf
        refine gx_iast X hw qzh7 dX12_cutAll_295 (fun H locs hw => ?_)
        refine lv_aload_n hx hb dX12_cutAll_296 rfl (lv_at hl 0 rfl) ?_
        refine lv_iconst (v := 0) hx hb dX12_cutAll_297 (by decide) ?_
        obtain ⟨zh8, qzh8, hf⟩ := gb_el hf
        refine gx_putV X hw qzh8 clX12 (by decide) mf_X12_150 rfl rfl rfl dX12_cutAll_298 (fun H locs hw => ?_)
        refine lv_aload_n hx hb dX12_cutAll_301 rfl (lv_at hl 0 rfl) ?_
        refine W.eq (g2 := F0 m 302 ls [.ref (gB E + zv0)]) rfl ?_
        refine lv_iconst (v := 0) hx hb dX12_cutAll_302 (by decide) ?_
        obtain ⟨zh9, qzh9, hf⟩ := gb_el hf
        refine gx_putV X hw qzh9 clX12 (by decide) mf_X12_153 rfl rfl rfl dX12_cutAll_303 (fun H locs hw => ?_)
        exact gx_vret X hr hlk hw hf dX12_cutAll_306
      · have hf := gif_f hf qc2
        refine lv_aload_n hx hb dX12_cutAll_25 rfl (lv_at hl 0 rfl) ?_
        obtain ⟨zt10, qzt10, hf⟩ := gb_el hf
        refine gx_getR X hw qzt10 clX12 (by decide) mf_X12_14 dX12_cutAll_26 ?_
        refine lv_iload_n hx hb dX12_cutAll_29 rfl (lv_at hl 2 rfl) ?_
        obtain ⟨zt11, qzt11, hf⟩ := gb_el hf
        refine gx_iald X hw qzt11 dX12_cutAll_30 ?_
        refine lv_istore_n (lv' := [(3, .int zt11), (0, .ref (gB E + zv0)), (1, .int zv1), (2, .int zv2)]) hx hb dX12_cutAll_31 rfl hl (by decide) rfl (fun ls hl => ?_)
        refine W.eq (g2 := F0 m 32 ls []) rfl ?_
        refine lv_iload_n hx hb dX12_cutAll_32 rfl (lv_at hl 0 rfl) ?_
        refine lv_bipush (v := 10) hx hb dX12_cutAll_33 (by decide) ?_
        refine lv_icmp_eq (tgt := 44) hx hb dX12_cutAll_35 (by decide) (fun qc12 => ?_) (fun qc12 => ?_)
        · have hf := gif_t hf qc12
          exact J_44 zv0 zv1 zv2 _ _ _ ls hf hw (lv_sub hl [1, 2, 3] rfl)
        · have hf := gif_f hf qc12
          refine lv_iload_n hx hb dX12_cutAll_38 rfl (lv_at hl 0 rfl) ?_
          refine lv_bipush (v := 32) hx hb dX12_cutAll_39 (by decide) ?_
          refine lv_icmp_ne (tgt := 50) hx hb dX12_cutAll_41 (by decide) (fun qc13 => ?_) (fun qc13 => ?_)
          · have hf := gif_f hf qc13
            refine lv_iload_n hx hb dX12_cutAll_50 rfl (lv_at hl 3 rfl) ?_
            refine lv_istore (lv' := [(4, .int zv2), (3, .int zt11), (0, .ref (gB E + zv0)), (1, .int zv1), (2, .int zv2)]) hx hb dX12_cutAll_51 hl (by decide) rfl (fun ls hl => ?_)
            refine lv_lconst (v := 0) hx hb dX12_cutAll_53 (by decide) ?_
            refine lv_lstore (lv' := [(5, .long 0), (4, .int zv2), (3, .int zt11), (0, .ref (gB E + zv0)), (1, .int zv1), (2, .int zv2)]) hx hb dX12_cutAll_54 hl (by decide) rfl (fun ls hl => ?_)
            refine W.eq (g2 := F0 m 56 ls []) rfl ?_
            refine lv_aload_n hx hb dX12_cutAll_56 rfl (lv_at hl 3 rfl) ?_
            obtain ⟨zt14, qzt14, hf⟩ := gb_el hf
            refine gx_getR X hw qzt14 clX12 (by decide) mf_X12_27 dX12_cutAll_57 ?_
            refine lv_iload_n hx hb dX12_cutAll_60 rfl (lv_at hl 4 rfl) ?_
            refine lv_iload_n hx hb dX12_cutAll_61 rfl (lv_at hl 5 rfl) ?_
            obtain ⟨zh15, qzh15, hf⟩ := gb_el hf
            refine gx_iast X hw qzh15 dX12_cutAll_62 (fun H locs hw => ?_)
            refine lv_iload_n hx hb dX12_cutAll_63 rfl (lv_at hl 2 rfl) ?_
            obtain ⟨zt17, zh16, qzh16, hf⟩ := gc_el hf
            refine gx_ki (gx_runS (As := [.int zt11]) (rest := []) X hw (c_X12_isLetter l E N zt11 zh15 qzh16) kX12_isLetter mm_X12_127 ⟨Nat.le_of_ble_eq_true rfl, Nat.le_of_ble_eq_true rfl⟩ rfl rfl rfl hl.1 (Nat.le_of_ble_eq_true rfl) rfl dX12_cutAll_64 ⟨Nat.le_of_ble_eq_true rfl, Nat.le_of_ble_eq_true rfl⟩) hw (fun H locs hw => ?_)
            refine lv_if_eq (tgt := 152) hx hb dX12_cutAll_67 (by decide) (fun qc18 => ?_) (fun qc18 => ?_)
            · have hf := gif_t hf qc18
              refine lv_iload_n hx hb dX12_cutAll_152 rfl (lv_at hl 2 rfl) ?_
              obtain ⟨zt20, zh19, qzh19, hf⟩ := gc_el hf
              refine gx_ki (gx_runS (As := [.int zt11]) (rest := []) X hw (c_X12_isDigit l E N zt11 zh16 qzh19) kX12_isDigit mm_X12_140 ⟨Nat.le_of_ble_eq_true rfl, Nat.le_of_ble_eq_true rfl⟩ rfl rfl rfl hl.1 (Nat.le_of_ble_eq_true rfl) rfl dX12_cutAll_153 ⟨Nat.le_of_ble_eq_true rfl, Nat.le_of_ble_eq_true rfl⟩) hw (fun H locs hw => ?_)
              refine W.eq (g2 := F0 m 156 ls [.int zt20]) rfl ?_
              refine lv_if_eq (tgt := 240) hx hb dX12_cutAll_156 (by decide) (fun qc21 => ?_) (fun qc21 => ?_)
              · have hf := gif_t hf qc21
                refine lv_iload_n hx hb dX12_cutAll_240 rfl (lv_at hl 2 rfl) ?_
                refine lv_i2l hx hb dX12_cutAll_241 rfl ?_
                refine lv_topl (fun zx22 ezx22 => ?_)
                have hf := gl_el hf ezx22
                refine lv_lstore (lv' := [(5, .long zx22), (4, .int zv2), (3, .int zt11), (0, .ref (gB E + zv0)), (1, .int zv1), (2, .int zv2)]) hx hb dX12_cutAll_242 hl (by decide) rfl (fun ls hl => ?_)
                refine lv_aload_n hx hb dX12_cutAll_244 rfl (lv_at hl 3 rfl) ?_
                obtain ⟨zt23, qzt23, hf⟩ := gb_el hf
                refine gx_getR X hw qzt23 clX12 (by decide) mf_X12_24 dX12_cutAll_245 ?_
                refine lv_iload_n hx hb dX12_cutAll_248 rfl (lv_at hl 4 rfl) ?_
                refine lv_iload_n hx hb dX12_cutAll_249 rfl (lv_at hl 2 rfl) ?_
                obtain ⟨zt25, zh24, qzh24, hf⟩ := gc_el hf
                refine gx_ki (gx_runS (As := [.int zt11]) (rest := [.int zv1, .ref (gB E + zt23)]) X hw (c_X12_isSignOf l E N zt11 zh19 qzh24) kX12_isSignOf mm_X12_147 ⟨Nat.le_of_ble_eq_true rfl, Nat.le_of_ble_eq_true rfl⟩ rfl rfl rfl hl.1 (Nat.le_of_ble_eq_true rfl) rfl dX12_cutAll_250 ⟨Nat.le_of_ble_eq_true rfl, Nat.le_of_ble_eq_true rfl⟩) hw (fun H locs hw => ?_)
                refine lv_if_eq (tgt := 260) hx hb dX12_cutAll_253 (by decide) (fun qc26 => ?_) (fun qc26 => ?_)
                · have hf := gif_t hf qc26
                  refine W.eq (g2 := F0 m 260 ls [.int zv1, .ref (gB E + zt23)]) rfl ?_
                  refine lv_iconst (v := 4) hx hb dX12_cutAll_260 (by decide) ?_
                  exact J_261 zv0 zv1 zv2 zx22 4 zv1 zt23 _ _ _ ls hf hw (lv_sub hl [3, 4, 5, 0] rfl)
                · have hf := gif_f hf qc26
                  refine W.eq (g2 := F0 m 256 ls [.int zv1, .ref (gB E + zt23)]) rfl ?_
                  refine lv_iconst (v := 3) hx hb dX12_cutAll_256 (by decide) ?_
                  refine lv_goto (tgt := 261) hx hb dX12_cutAll_257 (by decide) ?_
                  exact J_261 zv0 zv1 zv2 zx22 3 zv1 zt23 _ _ _ ls hf hw (lv_sub hl [3, 4, 5, 0] rfl)
              · have hf := gif_f hf qc21
                exact L_159 N zv0 zv1 zv2 zv2 0 _ _ _ ls hf hw (lv_sub hl [3, 4, 5, 1, 0] rfl)
            · have hf := gif_f hf qc18
              exact L_70 N zv0 zv1 zv2 zv2 0 _ _ _ ls hf hw (lv_sub hl [3, 4, 5, 1, 0] rfl)
          · have hf := gif_t hf qc13
            exact J_44 zv0 zv1 zv2 _ _ _ ls hf hw (lv_sub hl [1, 2, 3] rfl)
  unfold f_X12_cutAll at hf
  refine lv_aload_n hx hb dX12_cutAll_0 rfl (lv_at hl 0 rfl) ?_
  refine lv_aload_n hx hb dX12_cutAll_1 rfl (lv_at hl 0 rfl) ?_
  obtain ⟨zt1, qzt1, hf⟩ := gb_el hf
  refine gx_getI X hw qzt1 clX12 (by decide) mf_X12_11 dX12_cutAll_2 ?_
  obtain ⟨zh2, qzh2, hf⟩ := gb_el hf
  refine gx_putV X hw qzh2 clX12 (by decide) mf_X12_131 rfl rfl rfl dX12_cutAll_5 (fun H locs hw => ?_)
  refine lv_aload_n hx hb dX12_cutAll_8 rfl (lv_at hl 0 rfl) ?_
  refine lv_iconst (v := 0) hx hb dX12_cutAll_9 (by decide) ?_
  obtain ⟨zh3, qzh3, hf⟩ := gb_el hf
  refine gx_putV X hw qzh3 clX12 (by decide) mf_X12_11 rfl rfl rfl dX12_cutAll_10 (fun H locs hw => ?_)
  refine lv_iconst (v := 0) hx hb dX12_cutAll_13 (by decide) ?_
  refine lv_istore_n (lv' := [(1, .int 0), (0, .ref (gB E + za0))]) hx hb dX12_cutAll_14 rfl hl (by decide) rfl (fun ls hl => ?_)
  refine W.eq (g2 := F0 m 15 ls []) rfl ?_
  refine lv_iconst (v := 0) hx hb dX12_cutAll_15 (by decide) ?_
  refine lv_istore_n (lv' := [(2, .int 0), (1, .int 0), (0, .ref (gB E + za0))]) hx hb dX12_cutAll_16 rfl hl (by decide) rfl (fun ls hl => ?_)
  exact L_17 N za0 0 0 _ _ _ ls hf hw (lv_sub hl [2, 1, 0] rfl)
abbrev rm_X12_wrong : Room := { frames := 0, cells := 0, slots := 0, locals := 0 }
set_option maxHeartbeats 4000000 in
set_option maxRecDepth 100000 in
theorem c_X12_wrong (l : Launch) (E : gE) (N : Nat) (za0 : Nat) (za1 : Int32) (zh : PH) {h9 : PH} (hf : f_X12_wrong N za0 za1 zh = some h9) : Met l yX12_wrong (gWS yX12_wrong cX12_wrong 2 none) rm_X12_wrong (gPc E [.ref (gB E + za0), .int za1] zh) (gQv E h9) 0 0 (gA E) := by
  refine gx_met (by decide) ?_ rfl
  intro p e s m below meth c X hr hlk hin2 hw
  have hx := X.1.1
  have hb := X.1.2.1
  have hl := lv_entry [.ref (gB E + za0), .int za1] (n := 2) (Nat.le_of_ble_eq_true rfl)
  rw [lg_entry_eq]
  generalize (lg_sl [.ref (gB E + za0), .int za1] ++ List.replicate (2 - (lg_sl [.ref (gB E + za0), .int za1]).length) Slot.unset).toArray = ls at hl ⊢
  have hl : lv_has ls 2 [(0, .ref (gB E + za0)), (1, .int za1)] := hl
  have J_25 : ∀ (zh : PH) (H : Heap) (locs : List Loc) (ls : Array Slot), f_X12_wrong_25 N zh = some h9 → gw E s zh H locs → lv_has ls 2 [] → W p l e rm_X12_wrong s m [.ref (gB E + za0), .int za1].toArray below meth c H locs 0 0 (MQ below (gQv E h9) [.ref (gB E + za0), .int za1].toArray s 0 0 (gA E)) (F0 m 25 ls []) := by
    intro zh H locs ls hf hw hl
    unfold f_X12_wrong_25 at hf
    exact gx_vret X hr hlk hw hf dX12_wrong_25
  unfold f_X12_wrong at hf
  refine lv_aload_n hx hb dX12_wrong_0 rfl (lv_at hl 0 rfl) ?_
  obtain ⟨zt1, qzt1, hf⟩ := gb_el hf
  refine gx_getI X hw qzt1 clX12 (by decide) mf_X12_153 dX12_wrong_1 ?_
  refine lv_if_ne (tgt := 25) hx hb dX12_wrong_4 (by decide) (fun qc2 => ?_) (fun qc2 => ?_)
  · have hf := gif_f hf qc2
    exact J_25  _ _ _ ls hf hw (lv_sub hl [] rfl)
  · have hf := gif_t hf qc2
    refine lv_aload_n hx hb dX12_wrong_7 rfl (lv_at hl 0 rfl) ?_
    refine lv_iload_n hx hb dX12_wrong_8 rfl (lv_at hl 1 rfl) ?_
    refine lv_bipush (v := 16) hx hb dX12_wrong_9 (by decide) ?_
    refine lv_aload_n hx hb dX12_wrong_11 rfl (lv_at hl 0 rfl) ?_
    obtain ⟨zt3, qzt3, hf⟩ := gb_el hf
    refine gx_getR X hw qzt3 clX12 (by decide) mf_X12_27 dX12_wrong_12 ?_
    refine lv_aload_n hx hb dX12_wrong_15 rfl (lv_at hl 0 rfl) ?_
    refine W.eq (g2 := F0 m 16 ls [.ref (gB E + za0), .ref (gB E + zt3), .int 16, .int za1, .ref (gB E + za0)]) rfl ?_
    obtain ⟨zt4, qzt4, hf⟩ := gb_el hf
    refine gx_getI X hw qzt4 clX12 (by decide) mf_X12_150 dX12_wrong_16 ?_
    obtain ⟨zt5, qzt5, hf⟩ := gb_el hf
    refine gx_iald X hw qzt5 dX12_wrong_19 ?_
    refine lv_imul hx hb dX12_wrong_20 ?_
    refine lv_iadd hx hb dX12_wrong_21 ?_
    obtain ⟨zh6, qzh6, hf⟩ := gb_el hf
    refine gx_putV X hw qzh6 clX12 (by decide) mf_X12_153 rfl rfl rfl dX12_wrong_22 (fun H locs hw => ?_)
    exact J_25  _ _ _ ls hf hw (lv_sub hl [] rfl)
abbrev rm_X12_isSign : Room := { frames := 0, cells := 0, slots := 0, locals := 0 }
set_option maxHeartbeats 4000000 in
set_option maxRecDepth 100000 in
theorem c_X12_isSign (l : Launch) (E : gE) (N : Nat) (za0 : Nat) (za1 : Int32) (zh : PH) {h9 : PH} {r9 : Int32} (hf : f_X12_isSign N za0 za1 zh = some (r9, h9)) : Met l yX12_isSign (gWS yX12_isSign cX12_isSign 2 (some .boolean)) rm_X12_isSign (gPc E [.ref (gB E + za0), .int za1] zh) (gQi E r9 h9) 0 0 (gA E) := by
  refine gx_met (by decide) ?_ rfl
  intro p e s m below meth c X hr hlk hin2 hw
  have hx := X.1.1
  have hb := X.1.2.1
  have hl := lv_entry [.ref (gB E + za0), .int za1] (n := 2) (Nat.le_of_ble_eq_true rfl)
  rw [lg_entry_eq]
  generalize (lg_sl [.ref (gB E + za0), .int za1] ++ List.replicate (2 - (lg_sl [.ref (gB E + za0), .int za1]).length) Slot.unset).toArray = ls at hl ⊢
  have hl : lv_has ls 2 [(0, .ref (gB E + za0)), (1, .int za1)] := hl
  have J_40 : ∀ (zs0 : Int32) (zh : PH) (H : Heap) (locs : List Loc) (ls : Array Slot), f_X12_isSign_40 N zs0 zh = some (r9, h9) → gw E s zh H locs → lv_has ls 2 [] → W p l e rm_X12_isSign s m [.ref (gB E + za0), .int za1].toArray below meth c H locs 0 0 (MQ below (gQi E r9 h9) [.ref (gB E + za0), .int za1].toArray s 0 0 (gA E)) (F0 m 40 ls [.int zs0]) := by
    intro zs0 zh H locs ls hf hw hl
    unfold f_X12_isSign_40 at hf
    exact gx_zret X hr hlk hw hf dX12_isSign_40
  have J_39 : ∀ (zh : PH) (H : Heap) (locs : List Loc) (ls : Array Slot), f_X12_isSign_39 N zh = some (r9, h9) → gw E s zh H locs → lv_has ls 2 [] → W p l e rm_X12_isSign s m [.ref (gB E + za0), .int za1].toArray below meth c H locs 0 0 (MQ below (gQi E r9 h9) [.ref (gB E + za0), .int za1].toArray s 0 0 (gA E)) (F0 m 39 ls []) := by
    intro zh H locs ls hf hw hl
    unfold f_X12_isSign_39 at hf
    refine lv_iconst (v := 0) hx hb dX12_isSign_39 (by decide) ?_
    exact J_40 0 _ _ _ ls hf hw (lv_sub hl [] rfl)
  unfold f_X12_isSign at hf
  refine lv_aload_n hx hb dX12_isSign_0 rfl (lv_at hl 0 rfl) ?_
  obtain ⟨zt1, qzt1, hf⟩ := gb_el hf
  refine gx_getI X hw qzt1 clX12 (by decide) mf_X12_153 dX12_isSign_1 ?_
  refine lv_if_ne (tgt := 39) hx hb dX12_isSign_4 (by decide) (fun qc2 => ?_) (fun qc2 => ?_)
  · have hf := gif_f hf qc2
    exact J_39  _ _ _ ls hf hw (lv_sub hl [] rfl)
  · have hf := gif_t hf qc2
    refine lv_aload_n hx hb dX12_isSign_7 rfl (lv_at hl 0 rfl) ?_
    obtain ⟨zt3, qzt3, hf⟩ := gb_el hf
    refine gx_getR X hw qzt3 clX12 (by decide) mf_X12_24 dX12_isSign_8 ?_
    refine lv_aload_n hx hb dX12_isSign_11 rfl (lv_at hl 0 rfl) ?_
    obtain ⟨zt4, qzt4, hf⟩ := gb_el hf
    refine gx_getI X hw qzt4 clX12 (by decide) mf_X12_150 dX12_isSign_12 ?_
    obtain ⟨zt5, qzt5, hf⟩ := gb_el hf
    refine gx_iald X hw qzt5 dX12_isSign_15 ?_
    refine lv_iconst (v := 3) hx hb dX12_isSign_16 (by decide) ?_
    refine W.eq (g2 := F0 m 17 ls [.int 3, .int zt5]) rfl ?_
    refine lv_icmp_ne (tgt := 39) hx hb dX12_isSign_17 (by decide) (fun qc6 => ?_) (fun qc6 => ?_)
    · have hf := gif_f hf qc6
      exact J_39  _ _ _ ls hf hw (lv_sub hl [] rfl)
    · have hf := gif_t hf qc6
      refine lv_aload_n hx hb dX12_isSign_20 rfl (lv_at hl 0 rfl) ?_
      obtain ⟨zt7, qzt7, hf⟩ := gb_el hf
      refine gx_getR X hw qzt7 clX12 (by decide) mf_X12_30 dX12_isSign_21 ?_
      refine lv_aload_n hx hb dX12_isSign_24 rfl (lv_at hl 0 rfl) ?_
      obtain ⟨zt8, qzt8, hf⟩ := gb_el hf
      refine gx_getI X hw qzt8 clX12 (by decide) mf_X12_150 dX12_isSign_25 ?_
      obtain ⟨zt9, qzt9, hf⟩ := gb_el hf
      refine gx_lald X hw qzt9 dX12_isSign_28 ?_
      refine lv_iload_n hx hb dX12_isSign_29 rfl (lv_at hl 1 rfl) ?_
      refine lv_i2l hx hb dX12_isSign_30 rfl ?_
      refine W.lcmp hx hb dX12_isSign_31 ?_
      refine lv_if_ne (tgt := 39) hx hb dX12_isSign_32 (by decide) (fun qc10 => ?_) (fun qc10 => ?_)
      · have hf := gif_f hf qc10
        exact J_39  _ _ _ ls hf hw (lv_sub hl [] rfl)
      · have hf := gif_t hf qc10
        refine W.eq (g2 := F0 m 35 ls []) rfl ?_
        refine lv_iconst (v := 1) hx hb dX12_isSign_35 (by decide) ?_
        refine lv_goto (tgt := 40) hx hb dX12_isSign_36 (by decide) ?_
        exact J_40 1 _ _ _ ls hf hw (lv_sub hl [] rfl)
abbrev rm_X12_isWord : Room := { frames := 0, cells := 0, slots := 0, locals := 0 }
set_option maxHeartbeats 4000000 in
set_option maxRecDepth 100000 in
theorem c_X12_isWord (l : Launch) (E : gE) (N : Nat) (za0 : Nat) (za1 : Int32) (zh : PH) {h9 : PH} {r9 : Int32} (hf : f_X12_isWord N za0 za1 zh = some (r9, h9)) : Met l yX12_isWord (gWS yX12_isWord cX12_isWord 2 (some .boolean)) rm_X12_isWord (gPc E [.ref (gB E + za0), .int za1] zh) (gQi E r9 h9) 0 0 (gA E) := by
  refine gx_met (by decide) ?_ rfl
  intro p e s m below meth c X hr hlk hin2 hw
  have hx := X.1.1
  have hb := X.1.2.1
  have hl := lv_entry [.ref (gB E + za0), .int za1] (n := 2) (Nat.le_of_ble_eq_true rfl)
  rw [lg_entry_eq]
  generalize (lg_sl [.ref (gB E + za0), .int za1] ++ List.replicate (2 - (lg_sl [.ref (gB E + za0), .int za1]).length) Slot.unset).toArray = ls at hl ⊢
  have hl : lv_has ls 2 [(0, .ref (gB E + za0)), (1, .int za1)] := hl
  have J_44 : ∀ (zs0 : Int32) (zh : PH) (H : Heap) (locs : List Loc) (ls : Array Slot), f_X12_isWord_44 N zs0 zh = some (r9, h9) → gw E s zh H locs → lv_has ls 2 [] → W p l e rm_X12_isWord s m [.ref (gB E + za0), .int za1].toArray below meth c H locs 0 0 (MQ below (gQi E r9 h9) [.ref (gB E + za0), .int za1].toArray s 0 0 (gA E)) (F0 m 44 ls [.int zs0]) := by
    intro zs0 zh H locs ls hf hw hl
    unfold f_X12_isWord_44 at hf
    exact gx_zret X hr hlk hw hf dX12_isWord_44
  have J_43 : ∀ (zh : PH) (H : Heap) (locs : List Loc) (ls : Array Slot), f_X12_isWord_43 N zh = some (r9, h9) → gw E s zh H locs → lv_has ls 2 [] → W p l e rm_X12_isWord s m [.ref (gB E + za0), .int za1].toArray below meth c H locs 0 0 (MQ below (gQi E r9 h9) [.ref (gB E + za0), .int za1].toArray s 0 0 (gA E)) (F0 m 43 ls []) := by
    intro zh H locs ls hf hw hl
    unfold f_X12_isWord_43 at hf
    refine lv_iconst (v := 0) hx hb dX12_isWord_43 (by decide) ?_
    exact J_44 0 _ _ _ ls hf hw (lv_sub hl [] rfl)
  unfold f_X12_isWord at hf
  refine lv_aload_n hx hb dX12_isWord_0 rfl (lv_at hl 0 rfl) ?_
  obtain ⟨zt1, qzt1, hf⟩ := gb_el hf
  refine gx_getI X hw qzt1 clX12 (by decide) mf_X12_153 dX12_isWord_1 ?_
  refine lv_if_ne (tgt := 43) hx hb dX12_isWord_4 (by decide) (fun qc2 => ?_) (fun qc2 => ?_)
  · have hf := gif_f hf qc2
    exact J_43  _ _ _ ls hf hw (lv_sub hl [] rfl)
  · have hf := gif_t hf qc2
    refine lv_aload_n hx hb dX12_isWord_7 rfl (lv_at hl 0 rfl) ?_
    obtain ⟨zt3, qzt3, hf⟩ := gb_el hf
    refine gx_getR X hw qzt3 clX12 (by decide) mf_X12_24 dX12_isWord_8 ?_
    refine lv_aload_n hx hb dX12_isWord_11 rfl (lv_at hl 0 rfl) ?_
    obtain ⟨zt4, qzt4, hf⟩ := gb_el hf
    refine gx_getI X hw qzt4 clX12 (by decide) mf_X12_150 dX12_isWord_12 ?_
    obtain ⟨zt5, qzt5, hf⟩ := gb_el hf
    refine gx_iald X hw qzt5 dX12_isWord_15 ?_
    refine lv_iconst (v := 1) hx hb dX12_isWord_16 (by decide) ?_
    refine W.eq (g2 := F0 m 17 ls [.int 1, .int zt5]) rfl ?_
    refine lv_icmp_ne (tgt := 43) hx hb dX12_isWord_17 (by decide) (fun qc6 => ?_) (fun qc6 => ?_)
    · have hf := gif_f hf qc6
      exact J_43  _ _ _ ls hf hw (lv_sub hl [] rfl)
    · have hf := gif_t hf qc6
      refine lv_aload_n hx hb dX12_isWord_20 rfl (lv_at hl 0 rfl) ?_
      obtain ⟨zt7, qzt7, hf⟩ := gb_el hf
      refine gx_getR X hw qzt7 clX12 (by decide) mf_X12_30 dX12_isWord_21 ?_
      refine lv_aload_n hx hb dX12_isWord_24 rfl (lv_at hl 0 rfl) ?_
      obtain ⟨zt8, qzt8, hf⟩ := gb_el hf
      refine gx_getI X hw qzt8 clX12 (by decide) mf_X12_150 dX12_isWord_25 ?_
      obtain ⟨zt9, qzt9, hf⟩ := gb_el hf
      refine gx_lald X hw qzt9 dX12_isWord_28 ?_
      refine lv_aload_n hx hb dX12_isWord_29 rfl (lv_at hl 0 rfl) ?_
      obtain ⟨zt10, qzt10, hf⟩ := gb_el hf
      refine gx_getR X hw qzt10 clX12 (by decide) mf_X12_62 dX12_isWord_30 ?_
      refine lv_iload_n hx hb dX12_isWord_33 rfl (lv_at hl 1 rfl) ?_
      obtain ⟨zt11, qzt11, hf⟩ := gb_el hf
      refine gx_lald X hw qzt11 dX12_isWord_34 ?_
      refine W.eq (g2 := F0 m 35 ls [.long zt11, .long zt9]) rfl ?_
      refine W.lcmp hx hb dX12_isWord_35 ?_
      refine lv_if_ne (tgt := 43) hx hb dX12_isWord_36 (by decide) (fun qc12 => ?_) (fun qc12 => ?_)
      · have hf := gif_f hf qc12
        exact J_43  _ _ _ ls hf hw (lv_sub hl [] rfl)
      · have hf := gif_t hf qc12
        refine lv_iconst (v := 1) hx hb dX12_isWord_39 (by decide) ?_
        refine lv_goto (tgt := 44) hx hb dX12_isWord_40 (by decide) ?_
        exact J_44 1 _ _ _ ls hf hw (lv_sub hl [] rfl)
abbrev rm_X12_takeSign : Room := { frames := 1, cells := 0, slots := 0, locals := 21 }
set_option maxHeartbeats 4000000 in
set_option maxRecDepth 100000 in
theorem c_X12_takeSign (l : Launch) (E : gE) (N : Nat) (za0 : Nat) (za1 : Int32) (zh : PH) {h9 : PH} (hf : f_X12_takeSign N za0 za1 zh = some h9) : Met l yX12_takeSign (gWS yX12_takeSign cX12_takeSign 2 none) rm_X12_takeSign (gPc E [.ref (gB E + za0), .int za1] zh) (gQv E h9) 0 0 (gA E) := by
  refine gx_met (by decide) ?_ rfl
  intro p e s m below meth c X hr hlk hin2 hw
  have hx := X.1.1
  have hb := X.1.2.1
  have hl := lv_entry [.ref (gB E + za0), .int za1] (n := 2) (Nat.le_of_ble_eq_true rfl)
  rw [lg_entry_eq]
  generalize (lg_sl [.ref (gB E + za0), .int za1] ++ List.replicate (2 - (lg_sl [.ref (gB E + za0), .int za1]).length) Slot.unset).toArray = ls at hl ⊢
  have hl : lv_has ls 2 [(0, .ref (gB E + za0)), (1, .int za1)] := hl
  have J_26 : ∀ (zh : PH) (H : Heap) (locs : List Loc) (ls : Array Slot), f_X12_takeSign_26 N zh = some h9 → gw E s zh H locs → lv_has ls 2 [] → W p l e rm_X12_takeSign s m [.ref (gB E + za0), .int za1].toArray below meth c H locs 0 0 (MQ below (gQv E h9) [.ref (gB E + za0), .int za1].toArray s 0 0 (gA E)) (F0 m 26 ls []) := by
    intro zh H locs ls hf hw hl
    unfold f_X12_takeSign_26 at hf
    exact gx_vret X hr hlk hw hf dX12_takeSign_26
  unfold f_X12_takeSign at hf
  refine lv_aload_n hx hb dX12_takeSign_0 rfl (lv_at hl 0 rfl) ?_
  refine lv_iload_n hx hb dX12_takeSign_1 rfl (lv_at hl 1 rfl) ?_
  obtain ⟨qizh1, hf⟩ := gg_el hf
  obtain ⟨zt2, zh1, qzh1, hf⟩ := gc_el hf
  refine gx_ki (gx_runV (As := [.int za1]) (rest := []) X hw (c_X12_isSign l E N za0 za1 zh qzh1) kX12_isSign mm_X12_156 qizh1 clX12 ⟨Nat.le_of_ble_eq_true rfl, Nat.le_of_ble_eq_true rfl⟩ rfl rfl rfl hl.1 (Nat.le_of_ble_eq_true rfl) rfl dX12_takeSign_2 ⟨Nat.le_of_ble_eq_true rfl, Nat.le_of_ble_eq_true rfl⟩) hw (fun H locs hw => ?_)
  refine lv_if_eq (tgt := 21) hx hb dX12_takeSign_5 (by decide) (fun qc3 => ?_) (fun qc3 => ?_)
  · have hf := gif_t hf qc3
    refine lv_aload_n hx hb dX12_takeSign_21 rfl (lv_at hl 0 rfl) ?_
    refine lv_iconst (v := 1) hx hb dX12_takeSign_22 (by decide) ?_
    obtain ⟨qizh4, hf⟩ := gg_el hf
    obtain ⟨zh4, qzh4, hf⟩ := gb_el hf
    refine gx_kv (gx_runV (As := [.int 1]) (rest := []) X hw (c_X12_wrong l E N za0 1 zh1 qzh4) kX12_wrong mm_X12_159 qizh4 clX12 ⟨Nat.le_of_ble_eq_true rfl, Nat.le_of_ble_eq_true rfl⟩ rfl rfl rfl hl.1 (Nat.le_of_ble_eq_true rfl) rfl dX12_takeSign_23 ⟨Nat.le_of_ble_eq_true rfl, Nat.le_of_ble_eq_true rfl⟩) hw (fun H locs hw => ?_)
    exact J_26  _ _ _ ls hf hw (lv_sub hl [] rfl)
  · have hf := gif_f hf qc3
    refine lv_aload_n hx hb dX12_takeSign_8 rfl (lv_at hl 0 rfl) ?_
    refine lv_dup hx hb dX12_takeSign_9 rfl ?_
    obtain ⟨zt5, qzt5, hf⟩ := gb_el hf
    refine gx_getI X hw qzt5 clX12 (by decide) mf_X12_150 dX12_takeSign_10 ?_
    refine lv_iconst (v := 1) hx hb dX12_takeSign_13 (by decide) ?_
    refine lv_iadd hx hb dX12_takeSign_14 ?_
    refine W.eq (g2 := F0 m 15 ls [.int (zt5 + 1), .ref (gB E + za0)]) rfl ?_
    obtain ⟨zh6, qzh6, hf⟩ := gb_el hf
    refine gx_putV X hw qzh6 clX12 (by decide) mf_X12_150 rfl rfl rfl dX12_takeSign_15 (fun H locs hw => ?_)
    refine lv_goto (tgt := 26) hx hb dX12_takeSign_18 (by decide) ?_
    exact J_26  _ _ _ ls hf hw (lv_sub hl [] rfl)
abbrev rm_X12_hasSign : Room := { frames := 1, cells := 0, slots := 0, locals := 21 }
set_option maxHeartbeats 4000000 in
set_option maxRecDepth 100000 in
theorem c_X12_hasSign (l : Launch) (E : gE) (N : Nat) (za0 : Nat) (za1 : Int32) (zh : PH) {h9 : PH} {r9 : Int32} (hf : f_X12_hasSign N za0 za1 zh = some (r9, h9)) : Met l yX12_hasSign (gWS yX12_hasSign cX12_hasSign 3 (some .boolean)) rm_X12_hasSign (gPc E [.ref (gB E + za0), .int za1] zh) (gQi E r9 h9) 0 0 (gA E) := by
  refine gx_met (by decide) ?_ rfl
  intro p e s m below meth c X hr hlk hin2 hw
  have hx := X.1.1
  have hb := X.1.2.1
  have hl := lv_entry [.ref (gB E + za0), .int za1] (n := 3) (Nat.le_of_ble_eq_true rfl)
  rw [lg_entry_eq]
  generalize (lg_sl [.ref (gB E + za0), .int za1] ++ List.replicate (3 - (lg_sl [.ref (gB E + za0), .int za1]).length) Slot.unset).toArray = ls at hl ⊢
  have hl : lv_has ls 3 [(0, .ref (gB E + za0)), (1, .int za1)] := hl
  have J_20 : ∀ (zv2 : Int32) (zs0 : Int32) (zs1 : Int32) (zs2 : Nat) (zh : PH) (H : Heap) (locs : List Loc) (ls : Array Slot), f_X12_hasSign_20 N zv2 zs0 zs1 zs2 zh = some (r9, h9) → gw E s zh H locs → lv_has ls 3 [(2, .int zv2)] → W p l e rm_X12_hasSign s m [.ref (gB E + za0), .int za1].toArray below meth c H locs 0 0 (MQ below (gQi E r9 h9) [.ref (gB E + za0), .int za1].toArray s 0 0 (gA E)) (F0 m 20 ls [.int zs0, .int zs1, .ref (gB E + zs2)]) := by
    intro zv2 zs0 zs1 zs2 zh H locs ls hf hw hl
    unfold f_X12_hasSign_20 at hf
    refine lv_iadd hx hb dX12_hasSign_20 ?_
    obtain ⟨zh1, qzh1, hf⟩ := gb_el hf
    refine gx_putV X hw qzh1 clX12 (by decide) mf_X12_150 rfl rfl rfl dX12_hasSign_21 (fun H locs hw => ?_)
    refine lv_iload_n hx hb dX12_hasSign_24 rfl (lv_at hl 0 rfl) ?_
    exact gx_zret X hr hlk hw hf dX12_hasSign_25
  unfold f_X12_hasSign at hf
  refine lv_aload_n hx hb dX12_hasSign_0 rfl (lv_at hl 0 rfl) ?_
  refine lv_iload_n hx hb dX12_hasSign_1 rfl (lv_at hl 1 rfl) ?_
  obtain ⟨qizh1, hf⟩ := gg_el hf
  obtain ⟨zt2, zh1, qzh1, hf⟩ := gc_el hf
  refine gx_ki (gx_runV (As := [.int za1]) (rest := []) X hw (c_X12_isSign l E N za0 za1 zh qzh1) kX12_isSign mm_X12_156 qizh1 clX12 ⟨Nat.le_of_ble_eq_true rfl, Nat.le_of_ble_eq_true rfl⟩ rfl rfl rfl hl.1 (Nat.le_of_ble_eq_true rfl) rfl dX12_hasSign_2 ⟨Nat.le_of_ble_eq_true rfl, Nat.le_of_ble_eq_true rfl⟩) hw (fun H locs hw => ?_)
  refine lv_istore_n (lv' := [(2, .int zt2), (0, .ref (gB E + za0)), (1, .int za1)]) hx hb dX12_hasSign_5 rfl hl (by decide) rfl (fun ls hl => ?_)
  refine lv_aload_n hx hb dX12_hasSign_6 rfl (lv_at hl 1 rfl) ?_
  refine lv_dup hx hb dX12_hasSign_7 rfl ?_
  obtain ⟨zt3, qzt3, hf⟩ := gb_el hf
  refine gx_getI X hw qzt3 clX12 (by decide) mf_X12_150 dX12_hasSign_8 ?_
  refine lv_iload_n hx hb dX12_hasSign_11 rfl (lv_at hl 0 rfl) ?_
  refine lv_if_eq (tgt := 19) hx hb dX12_hasSign_12 (by decide) (fun qc4 => ?_) (fun qc4 => ?_)
  · have hf := gif_t hf qc4
    refine W.eq (g2 := F0 m 19 ls [.int zt3, .ref (gB E + za0)]) rfl ?_
    refine lv_iconst (v := 0) hx hb dX12_hasSign_19 (by decide) ?_
    exact J_20 zt2 0 zt3 za0 _ _ _ ls hf hw (lv_sub hl [0] rfl)
  · have hf := gif_f hf qc4
    refine W.eq (g2 := F0 m 15 ls [.int zt3, .ref (gB E + za0)]) rfl ?_
    refine lv_iconst (v := 1) hx hb dX12_hasSign_15 (by decide) ?_
    refine lv_goto (tgt := 20) hx hb dX12_hasSign_16 (by decide) ?_
    exact J_20 zt2 1 zt3 za0 _ _ _ ls hf hw (lv_sub hl [0] rfl)
abbrev rm_X12_hasWord : Room := { frames := 1, cells := 0, slots := 0, locals := 21 }
set_option maxHeartbeats 4000000 in
set_option maxRecDepth 100000 in
theorem c_X12_hasWord (l : Launch) (E : gE) (N : Nat) (za0 : Nat) (za1 : Int32) (zh : PH) {h9 : PH} {r9 : Int32} (hf : f_X12_hasWord N za0 za1 zh = some (r9, h9)) : Met l yX12_hasWord (gWS yX12_hasWord cX12_hasWord 3 (some .boolean)) rm_X12_hasWord (gPc E [.ref (gB E + za0), .int za1] zh) (gQi E r9 h9) 0 0 (gA E) := by
  refine gx_met (by decide) ?_ rfl
  intro p e s m below meth c X hr hlk hin2 hw
  have hx := X.1.1
  have hb := X.1.2.1
  have hl := lv_entry [.ref (gB E + za0), .int za1] (n := 3) (Nat.le_of_ble_eq_true rfl)
  rw [lg_entry_eq]
  generalize (lg_sl [.ref (gB E + za0), .int za1] ++ List.replicate (3 - (lg_sl [.ref (gB E + za0), .int za1]).length) Slot.unset).toArray = ls at hl ⊢
  have hl : lv_has ls 3 [(0, .ref (gB E + za0)), (1, .int za1)] := hl
  have J_20 : ∀ (zv2 : Int32) (zs0 : Int32) (zs1 : Int32) (zs2 : Nat) (zh : PH) (H : Heap) (locs : List Loc) (ls : Array Slot), f_X12_hasWord_20 N zv2 zs0 zs1 zs2 zh = some (r9, h9) → gw E s zh H locs → lv_has ls 3 [(2, .int zv2)] → W p l e rm_X12_hasWord s m [.ref (gB E + za0), .int za1].toArray below meth c H locs 0 0 (MQ below (gQi E r9 h9) [.ref (gB E + za0), .int za1].toArray s 0 0 (gA E)) (F0 m 20 ls [.int zs0, .int zs1, .ref (gB E + zs2)]) := by
    intro zv2 zs0 zs1 zs2 zh H locs ls hf hw hl
    unfold f_X12_hasWord_20 at hf
    refine lv_iadd hx hb dX12_hasWord_20 ?_
    obtain ⟨zh1, qzh1, hf⟩ := gb_el hf
    refine gx_putV X hw qzh1 clX12 (by decide) mf_X12_150 rfl rfl rfl dX12_hasWord_21 (fun H locs hw => ?_)
    refine lv_iload_n hx hb dX12_hasWord_24 rfl (lv_at hl 0 rfl) ?_
    exact gx_zret X hr hlk hw hf dX12_hasWord_25
  unfold f_X12_hasWord at hf
  refine lv_aload_n hx hb dX12_hasWord_0 rfl (lv_at hl 0 rfl) ?_
  refine lv_iload_n hx hb dX12_hasWord_1 rfl (lv_at hl 1 rfl) ?_
  obtain ⟨qizh1, hf⟩ := gg_el hf
  obtain ⟨zt2, zh1, qzh1, hf⟩ := gc_el hf
  refine gx_ki (gx_runV (As := [.int za1]) (rest := []) X hw (c_X12_isWord l E N za0 za1 zh qzh1) kX12_isWord mm_X12_163 qizh1 clX12 ⟨Nat.le_of_ble_eq_true rfl, Nat.le_of_ble_eq_true rfl⟩ rfl rfl rfl hl.1 (Nat.le_of_ble_eq_true rfl) rfl dX12_hasWord_2 ⟨Nat.le_of_ble_eq_true rfl, Nat.le_of_ble_eq_true rfl⟩) hw (fun H locs hw => ?_)
  refine lv_istore_n (lv' := [(2, .int zt2), (0, .ref (gB E + za0)), (1, .int za1)]) hx hb dX12_hasWord_5 rfl hl (by decide) rfl (fun ls hl => ?_)
  refine lv_aload_n hx hb dX12_hasWord_6 rfl (lv_at hl 1 rfl) ?_
  refine lv_dup hx hb dX12_hasWord_7 rfl ?_
  obtain ⟨zt3, qzt3, hf⟩ := gb_el hf
  refine gx_getI X hw qzt3 clX12 (by decide) mf_X12_150 dX12_hasWord_8 ?_
  refine lv_iload_n hx hb dX12_hasWord_11 rfl (lv_at hl 0 rfl) ?_
  refine lv_if_eq (tgt := 19) hx hb dX12_hasWord_12 (by decide) (fun qc4 => ?_) (fun qc4 => ?_)
  · have hf := gif_t hf qc4
    refine W.eq (g2 := F0 m 19 ls [.int zt3, .ref (gB E + za0)]) rfl ?_
    refine lv_iconst (v := 0) hx hb dX12_hasWord_19 (by decide) ?_
    exact J_20 zt2 0 zt3 za0 _ _ _ ls hf hw (lv_sub hl [0] rfl)
  · have hf := gif_f hf qc4
    refine W.eq (g2 := F0 m 15 ls [.int zt3, .ref (gB E + za0)]) rfl ?_
    refine lv_iconst (v := 1) hx hb dX12_hasWord_15 (by decide) ?_
    refine lv_goto (tgt := 20) hx hb dX12_hasWord_16 (by decide) ?_
    exact J_20 zt2 1 zt3 za0 _ _ _ ls hf hw (lv_sub hl [0] rfl)
abbrev rm_X12_takeWord : Room := { frames := 2, cells := 0, slots := 0, locals := 43 }
set_option maxHeartbeats 4000000 in
set_option maxRecDepth 100000 in
theorem c_X12_takeWord (l : Launch) (E : gE) (N : Nat) (za0 : Nat) (za1 : Int32) (zh : PH) {h9 : PH} (hf : f_X12_takeWord N za0 za1 zh = some h9) : Met l yX12_takeWord (gWS yX12_takeWord cX12_takeWord 2 none) rm_X12_takeWord (gPc E [.ref (gB E + za0), .int za1] zh) (gQv E h9) 0 0 (gA E) := by
  refine gx_met (by decide) ?_ rfl
  intro p e s m below meth c X hr hlk hin2 hw
  have hx := X.1.1
  have hb := X.1.2.1
  have hl := lv_entry [.ref (gB E + za0), .int za1] (n := 2) (Nat.le_of_ble_eq_true rfl)
  rw [lg_entry_eq]
  generalize (lg_sl [.ref (gB E + za0), .int za1] ++ List.replicate (2 - (lg_sl [.ref (gB E + za0), .int za1]).length) Slot.unset).toArray = ls at hl ⊢
  have hl : lv_has ls 2 [(0, .ref (gB E + za0)), (1, .int za1)] := hl
  have J_13 : ∀ (zh : PH) (H : Heap) (locs : List Loc) (ls : Array Slot), f_X12_takeWord_13 N zh = some h9 → gw E s zh H locs → lv_has ls 2 [] → W p l e rm_X12_takeWord s m [.ref (gB E + za0), .int za1].toArray below meth c H locs 0 0 (MQ below (gQv E h9) [.ref (gB E + za0), .int za1].toArray s 0 0 (gA E)) (F0 m 13 ls []) := by
    intro zh H locs ls hf hw hl
    unfold f_X12_takeWord_13 at hf
    exact gx_vret X hr hlk hw hf dX12_takeWord_13
  unfold f_X12_takeWord at hf
  refine lv_aload_n hx hb dX12_takeWord_0 rfl (lv_at hl 0 rfl) ?_
  refine lv_iload_n hx hb dX12_takeWord_1 rfl (lv_at hl 1 rfl) ?_
  obtain ⟨qizh1, hf⟩ := gg_el hf
  obtain ⟨zt2, zh1, qzh1, hf⟩ := gc_el hf
  refine gx_ki (gx_runV (As := [.int za1]) (rest := []) X hw (c_X12_hasWord l E N za0 za1 zh qzh1) kX12_hasWord mm_X12_166 qizh1 clX12 ⟨Nat.le_of_ble_eq_true rfl, Nat.le_of_ble_eq_true rfl⟩ rfl rfl rfl hl.1 (Nat.le_of_ble_eq_true rfl) rfl dX12_takeWord_2 ⟨Nat.le_of_ble_eq_true rfl, Nat.le_of_ble_eq_true rfl⟩) hw (fun H locs hw => ?_)
  refine lv_if_ne (tgt := 13) hx hb dX12_takeWord_5 (by decide) (fun qc3 => ?_) (fun qc3 => ?_)
  · have hf := gif_f hf qc3
    exact J_13  _ _ _ ls hf hw (lv_sub hl [] rfl)
  · have hf := gif_t hf qc3
    refine lv_aload_n hx hb dX12_takeWord_8 rfl (lv_at hl 0 rfl) ?_
    refine lv_iconst (v := 1) hx hb dX12_takeWord_9 (by decide) ?_
    obtain ⟨qizh4, hf⟩ := gg_el hf
    obtain ⟨zh4, qzh4, hf⟩ := gb_el hf
    refine gx_kv (gx_runV (As := [.int 1]) (rest := []) X hw (c_X12_wrong l E N za0 1 zh1 qzh4) kX12_wrong mm_X12_159 qizh4 clX12 ⟨Nat.le_of_ble_eq_true rfl, Nat.le_of_ble_eq_true rfl⟩ rfl rfl rfl hl.1 (Nat.le_of_ble_eq_true rfl) rfl dX12_takeWord_10 ⟨Nat.le_of_ble_eq_true rfl, Nat.le_of_ble_eq_true rfl⟩) hw (fun H locs hw => ?_)
    exact J_13  _ _ _ ls hf hw (lv_sub hl [] rfl)
abbrev rm_X12_within : Room := { frames := 0, cells := 0, slots := 0, locals := 0 }
set_option maxHeartbeats 4000000 in
set_option maxRecDepth 100000 in
theorem c_X12_within (l : Launch) (E : gE) (N : Nat) (za0 : Int32) (za1 : Int32) (za2 : Int32) (zh : PH) {h9 : PH} {r9 : Int32} (hf : f_X12_within N za0 za1 za2 zh = some (r9, h9)) : Met l yX12_within (gWS yX12_within cX12_within 3 (some .boolean)) rm_X12_within (gPc E [.int za0, .int za1, .int za2] zh) (gQi E r9 h9) 0 0 (gA E) := by
  refine gx_met (by decide) ?_ rfl
  intro p e s m below meth c X hr hlk hin2 hw
  have hx := X.1.1
  have hb := X.1.2.1
  have hl := lv_entry [.int za0, .int za1, .int za2] (n := 3) (Nat.le_of_ble_eq_true rfl)
  rw [lg_entry_eq]
  generalize (lg_sl [.int za0, .int za1, .int za2] ++ List.replicate (3 - (lg_sl [.int za0, .int za1, .int za2]).length) Slot.unset).toArray = ls at hl ⊢
  have hl : lv_has ls 3 [(0, .int za0), (1, .int za1), (2, .int za2)] := hl
  have J_15 : ∀ (zs0 : Int32) (zh : PH) (H : Heap) (locs : List Loc) (ls : Array Slot), f_X12_within_15 N zs0 zh = some (r9, h9) → gw E s zh H locs → lv_has ls 3 [] → W p l e rm_X12_within s m [.int za0, .int za1, .int za2].toArray below meth c H locs 0 0 (MQ below (gQi E r9 h9) [.int za0, .int za1, .int za2].toArray s 0 0 (gA E)) (F0 m 15 ls [.int zs0]) := by
    intro zs0 zh H locs ls hf hw hl
    unfold f_X12_within_15 at hf
    exact gx_zret X hr hlk hw hf dX12_within_15
  have J_14 : ∀ (zh : PH) (H : Heap) (locs : List Loc) (ls : Array Slot), f_X12_within_14 N zh = some (r9, h9) → gw E s zh H locs → lv_has ls 3 [] → W p l e rm_X12_within s m [.int za0, .int za1, .int za2].toArray below meth c H locs 0 0 (MQ below (gQi E r9 h9) [.int za0, .int za1, .int za2].toArray s 0 0 (gA E)) (F0 m 14 ls []) := by
    intro zh H locs ls hf hw hl
    unfold f_X12_within_14 at hf
    refine lv_iconst (v := 0) hx hb dX12_within_14 (by decide) ?_
    exact J_15 0 _ _ _ ls hf hw (lv_sub hl [] rfl)
  unfold f_X12_within at hf
  refine lv_iload_n hx hb dX12_within_0 rfl (lv_at hl 0 rfl) ?_
  refine lv_iload_n hx hb dX12_within_1 rfl (lv_at hl 1 rfl) ?_
  refine lv_icmp_lt (tgt := 14) hx hb dX12_within_2 (by decide) (fun qc1 => ?_) (fun qc1 => ?_)
  · have hf := gif_t hf qc1
    exact J_14  _ _ _ ls hf hw (lv_sub hl [] rfl)
  · have hf := gif_f hf qc1
    refine lv_iload_n hx hb dX12_within_5 rfl (lv_at hl 0 rfl) ?_
    refine lv_iload_n hx hb dX12_within_6 rfl (lv_at hl 2 rfl) ?_
    refine lv_icmp_gt (tgt := 14) hx hb dX12_within_7 (by decide) (fun qc2 => ?_) (fun qc2 => ?_)
    · have hf := gif_t hf qc2
      exact J_14  _ _ _ ls hf hw (lv_sub hl [] rfl)
    · have hf := gif_f hf qc2
      refine lv_iconst (v := 1) hx hb dX12_within_10 (by decide) ?_
      refine lv_goto (tgt := 15) hx hb dX12_within_11 (by decide) ?_
      exact J_15 1 _ _ _ ls hf hw (lv_sub hl [] rfl)
abbrev rm_X12_takeNumber : Room := { frames := 1, cells := 0, slots := 0, locals := 21 }
set_option maxHeartbeats 4000000 in
set_option maxRecDepth 100000 in
theorem c_X12_takeNumber (l : Launch) (E : gE) (N : Nat) (za0 : Nat) (za1 : Int32) (za2 : Int32) (zh : PH) {h9 : PH} {r9 : Int32} (hf : f_X12_takeNumber N za0 za1 za2 zh = some (r9, h9)) : Met l yX12_takeNumber (gWS yX12_takeNumber cX12_takeNumber 3 (some .int)) rm_X12_takeNumber (gPc E [.ref (gB E + za0), .int za1, .int za2] zh) (gQi E r9 h9) 0 0 (gA E) := by
  refine gx_met (by decide) ?_ rfl
  intro p e s m below meth c X hr hlk hin2 hw
  have hx := X.1.1
  have hb := X.1.2.1
  have hl := lv_entry [.ref (gB E + za0), .int za1, .int za2] (n := 3) (Nat.le_of_ble_eq_true rfl)
  rw [lg_entry_eq]
  generalize (lg_sl [.ref (gB E + za0), .int za1, .int za2] ++ List.replicate (3 - (lg_sl [.ref (gB E + za0), .int za1, .int za2]).length) Slot.unset).toArray = ls at hl ⊢
  have hl : lv_has ls 3 [(0, .ref (gB E + za0)), (1, .int za1), (2, .int za2)] := hl
  have J_70 : ∀ (zv0 : Nat) (zh : PH) (H : Heap) (locs : List Loc) (ls : Array Slot), f_X12_takeNumber_70 N zv0 zh = some (r9, h9) → gw E s zh H locs → lv_has ls 3 [(0, .ref (gB E + zv0))] → W p l e rm_X12_takeNumber s m [.ref (gB E + za0), .int za1, .int za2].toArray below meth c H locs 0 0 (MQ below (gQi E r9 h9) [.ref (gB E + za0), .int za1, .int za2].toArray s 0 0 (gA E)) (F0 m 70 ls []) := by
    intro zv0 zh H locs ls hf hw hl
    unfold f_X12_takeNumber_70 at hf
    refine lv_aload_n hx hb dX12_takeNumber_70 rfl (lv_at hl 0 rfl) ?_
    obtain ⟨zt1, qzt1, hf⟩ := gb_el hf
    refine gx_getI X hw qzt1 clX12 (by decide) mf_X12_153 dX12_takeNumber_71 ?_
    refine lv_if_le (tgt := 79) hx hb dX12_takeNumber_74 (by decide) (fun qc2 => ?_) (fun qc2 => ?_)
    · have hf := gif_t hf qc2
      refine lv_aload_n hx hb dX12_takeNumber_79 rfl (lv_at hl 0 rfl) ?_
      refine lv_dup hx hb dX12_takeNumber_80 rfl ?_
      obtain ⟨zt3, qzt3, hf⟩ := gb_el hf
      refine gx_getI X hw qzt3 clX12 (by decide) mf_X12_150 dX12_takeNumber_81 ?_
      refine lv_iconst (v := 1) hx hb dX12_takeNumber_84 (by decide) ?_
      refine lv_iadd hx hb dX12_takeNumber_85 ?_
      obtain ⟨zh4, qzh4, hf⟩ := gb_el hf
      refine gx_putV X hw qzh4 clX12 (by decide) mf_X12_150 rfl rfl rfl dX12_takeNumber_86 (fun H locs hw => ?_)
      refine W.eq (g2 := F0 m 89 ls []) rfl ?_
      refine lv_aload_n hx hb dX12_takeNumber_89 rfl (lv_at hl 0 rfl) ?_
      obtain ⟨zt5, qzt5, hf⟩ := gb_el hf
      refine gx_getR X hw qzt5 clX12 (by decide) mf_X12_30 dX12_takeNumber_90 ?_
      refine lv_aload_n hx hb dX12_takeNumber_93 rfl (lv_at hl 0 rfl) ?_
      obtain ⟨zt6, qzt6, hf⟩ := gb_el hf
      refine gx_getI X hw qzt6 clX12 (by decide) mf_X12_150 dX12_takeNumber_94 ?_
      refine lv_iconst (v := 1) hx hb dX12_takeNumber_97 (by decide) ?_
      refine lv_isub hx hb dX12_takeNumber_98 ?_
      obtain ⟨zt7, qzt7, hf⟩ := gb_el hf
      refine gx_lald X hw qzt7 dX12_takeNumber_99 ?_
      refine lv_l2i hx hb dX12_takeNumber_100 rfl ?_
      exact gx_iret X hr hlk hw hf dX12_takeNumber_101
    · have hf := gif_f hf qc2
      refine lv_iconst (v := 0) hx hb dX12_takeNumber_77 (by decide) ?_
      exact gx_iret X hr hlk hw hf dX12_takeNumber_78
  have J_65 : ∀ (zv0 : Nat) (zh : PH) (H : Heap) (locs : List Loc) (ls : Array Slot), f_X12_takeNumber_65 N zv0 zh = some (r9, h9) → gw E s zh H locs → lv_has ls 3 [(0, .ref (gB E + zv0))] → W p l e rm_X12_takeNumber s m [.ref (gB E + za0), .int za1, .int za2].toArray below meth c H locs 0 0 (MQ below (gQi E r9 h9) [.ref (gB E + za0), .int za1, .int za2].toArray s 0 0 (gA E)) (F0 m 65 ls []) := by
    intro zv0 zh H locs ls hf hw hl
    unfold f_X12_takeNumber_65 at hf
    refine lv_aload_n hx hb dX12_takeNumber_65 rfl (lv_at hl 0 rfl) ?_
    refine lv_iconst (v := 4) hx hb dX12_takeNumber_66 (by decide) ?_
    obtain ⟨qizh1, hf⟩ := gg_el hf
    obtain ⟨zh1, qzh1, hf⟩ := gb_el hf
    refine gx_kv (gx_runV (As := [.int 4]) (rest := []) X hw (c_X12_wrong l E N zv0 4 zh qzh1) kX12_wrong mm_X12_159 qizh1 clX12 ⟨Nat.le_of_ble_eq_true rfl, Nat.le_of_ble_eq_true rfl⟩ rfl rfl rfl hl.1 (Nat.le_of_ble_eq_true rfl) rfl dX12_takeNumber_67 ⟨Nat.le_of_ble_eq_true rfl, Nat.le_of_ble_eq_true rfl⟩) hw (fun H locs hw => ?_)
    exact J_70 zv0 _ _ _ ls hf hw (lv_sub hl [0] rfl)
  have J_28 : ∀ (zv0 : Nat) (zv1 : Int32) (zv2 : Int32) (zh : PH) (H : Heap) (locs : List Loc) (ls : Array Slot), f_X12_takeNumber_28 N zv0 zv1 zv2 zh = some (r9, h9) → gw E s zh H locs → lv_has ls 3 [(0, .ref (gB E + zv0)), (1, .int zv1), (2, .int zv2)] → W p l e rm_X12_takeNumber s m [.ref (gB E + za0), .int za1, .int za2].toArray below meth c H locs 0 0 (MQ below (gQi E r9 h9) [.ref (gB E + za0), .int za1, .int za2].toArray s 0 0 (gA E)) (F0 m 28 ls []) := by
    intro zv0 zv1 zv2 zh H locs ls hf hw hl
    unfold f_X12_takeNumber_28 at hf
    refine lv_aload_n hx hb dX12_takeNumber_28 rfl (lv_at hl 0 rfl) ?_
    obtain ⟨zt1, qzt1, hf⟩ := gb_el hf
    refine gx_getI X hw qzt1 clX12 (by decide) mf_X12_153 dX12_takeNumber_29 ?_
    refine lv_if_ne (tgt := 70) hx hb dX12_takeNumber_32 (by decide) (fun qc2 => ?_) (fun qc2 => ?_)
    · have hf := gif_f hf qc2
      exact J_70 zv0 _ _ _ ls hf hw (lv_sub hl [0] rfl)
    · have hf := gif_t hf qc2
      refine lv_aload_n hx hb dX12_takeNumber_35 rfl (lv_at hl 0 rfl) ?_
      obtain ⟨zt3, qzt3, hf⟩ := gb_el hf
      refine gx_getR X hw qzt3 clX12 (by decide) mf_X12_30 dX12_takeNumber_36 ?_
      refine lv_aload_n hx hb dX12_takeNumber_39 rfl (lv_at hl 0 rfl) ?_
      obtain ⟨zt4, qzt4, hf⟩ := gb_el hf
      refine gx_getI X hw qzt4 clX12 (by decide) mf_X12_150 dX12_takeNumber_40 ?_
      obtain ⟨zt5, qzt5, hf⟩ := gb_el hf
      refine gx_lald X hw qzt5 dX12_takeNumber_43 ?_
      refine lv_iload_n hx hb dX12_takeNumber_44 rfl (lv_at hl 1 rfl) ?_
      refine W.eq (g2 := F0 m 45 ls [.int zv1, .long zt5]) rfl ?_
      refine lv_i2l hx hb dX12_takeNumber_45 rfl ?_
      refine W.lcmp hx hb dX12_takeNumber_46 ?_
      refine lv_if_lt (tgt := 65) hx hb dX12_takeNumber_47 (by decide) (fun qc6 => ?_) (fun qc6 => ?_)
      · have hf := gif_t hf qc6
        exact J_65 zv0 _ _ _ ls hf hw (lv_sub hl [0] rfl)
      · have hf := gif_f hf qc6
        refine lv_aload_n hx hb dX12_takeNumber_50 rfl (lv_at hl 0 rfl) ?_
        obtain ⟨zt7, qzt7, hf⟩ := gb_el hf
        refine gx_getR X hw qzt7 clX12 (by decide) mf_X12_30 dX12_takeNumber_51 ?_
        refine lv_aload_n hx hb dX12_takeNumber_54 rfl (lv_at hl 0 rfl) ?_
        obtain ⟨zt8, qzt8, hf⟩ := gb_el hf
        refine gx_getI X hw qzt8 clX12 (by decide) mf_X12_150 dX12_takeNumber_55 ?_
        obtain ⟨zt9, qzt9, hf⟩ := gb_el hf
        refine gx_lald X hw qzt9 dX12_takeNumber_58 ?_
        refine lv_iload_n hx hb dX12_takeNumber_59 rfl (lv_at hl 2 rfl) ?_
        refine lv_i2l hx hb dX12_takeNumber_60 rfl ?_
        refine W.eq (g2 := F0 m 61 ls [.long (Int32.toInt64 zv2), .long zt9]) rfl ?_
        refine W.lcmp hx hb dX12_takeNumber_61 ?_
        refine lv_if_le (tgt := 70) hx hb dX12_takeNumber_62 (by decide) (fun qc10 => ?_) (fun qc10 => ?_)
        · have hf := gif_t hf qc10
          exact J_70 zv0 _ _ _ ls hf hw (lv_sub hl [0] rfl)
        · have hf := gif_f hf qc10
          exact J_65 zv0 _ _ _ ls hf hw (lv_sub hl [0] rfl)
  unfold f_X12_takeNumber at hf
  refine lv_aload_n hx hb dX12_takeNumber_0 rfl (lv_at hl 0 rfl) ?_
  obtain ⟨zt1, qzt1, hf⟩ := gb_el hf
  refine gx_getI X hw qzt1 clX12 (by decide) mf_X12_153 dX12_takeNumber_1 ?_
  refine lv_if_ne (tgt := 28) hx hb dX12_takeNumber_4 (by decide) (fun qc2 => ?_) (fun qc2 => ?_)
  · have hf := gif_f hf qc2
    exact J_28 za0 za1 za2 _ _ _ ls hf hw (lv_sub hl [0, 1, 2] rfl)
  · have hf := gif_t hf qc2
    refine lv_aload_n hx hb dX12_takeNumber_7 rfl (lv_at hl 0 rfl) ?_
    obtain ⟨zt3, qzt3, hf⟩ := gb_el hf
    refine gx_getR X hw qzt3 clX12 (by decide) mf_X12_24 dX12_takeNumber_8 ?_
    refine lv_aload_n hx hb dX12_takeNumber_11 rfl (lv_at hl 0 rfl) ?_
    obtain ⟨zt4, qzt4, hf⟩ := gb_el hf
    refine gx_getI X hw qzt4 clX12 (by decide) mf_X12_150 dX12_takeNumber_12 ?_
    obtain ⟨zt5, qzt5, hf⟩ := gb_el hf
    refine gx_iald X hw qzt5 dX12_takeNumber_15 ?_
    refine lv_iconst (v := 2) hx hb dX12_takeNumber_16 (by decide) ?_
    refine W.eq (g2 := F0 m 17 ls [.int 2, .int zt5]) rfl ?_
    refine lv_icmp_eq (tgt := 28) hx hb dX12_takeNumber_17 (by decide) (fun qc6 => ?_) (fun qc6 => ?_)
    · have hf := gif_t hf qc6
      exact J_28 za0 za1 za2 _ _ _ ls hf hw (lv_sub hl [0, 1, 2] rfl)
    · have hf := gif_f hf qc6
      refine lv_aload_n hx hb dX12_takeNumber_20 rfl (lv_at hl 0 rfl) ?_
      refine lv_iconst (v := 1) hx hb dX12_takeNumber_21 (by decide) ?_
      obtain ⟨qizh7, hf⟩ := gg_el hf
      obtain ⟨zh7, qzh7, hf⟩ := gb_el hf
      refine gx_kv (gx_runV (As := [.int 1]) (rest := []) X hw (c_X12_wrong l E N za0 1 zh qzh7) kX12_wrong mm_X12_159 qizh7 clX12 ⟨Nat.le_of_ble_eq_true rfl, Nat.le_of_ble_eq_true rfl⟩ rfl rfl rfl hl.1 (Nat.le_of_ble_eq_true rfl) rfl dX12_takeNumber_22 ⟨Nat.le_of_ble_eq_true rfl, Nat.le_of_ble_eq_true rfl⟩) hw (fun H locs hw => ?_)
      refine lv_goto (tgt := 70) hx hb dX12_takeNumber_25 (by decide) ?_
      exact J_70 za0 _ _ _ ls hf hw (lv_sub hl [0] rfl)
abbrev rm_X12_isName : Room := { frames := 0, cells := 0, slots := 0, locals := 0 }
set_option maxHeartbeats 4000000 in
set_option maxRecDepth 100000 in
theorem c_X12_isName (l : Launch) (E : gE) (N : Nat) (za0 : Nat) (zh : PH) {h9 : PH} {r9 : Int32} (hf : f_X12_isName N za0 zh = some (r9, h9)) : Met l yX12_isName (gWS yX12_isName cX12_isName 3 (some .boolean)) rm_X12_isName (gPc E [.ref (gB E + za0)] zh) (gQi E r9 h9) 0 0 (gA E) := by
  refine gx_met (by decide) ?_ rfl
  intro p e s m below meth c X hr hlk hin2 hw
  have hx := X.1.1
  have hb := X.1.2.1
  have hl := lv_entry [.ref (gB E + za0)] (n := 3) (Nat.le_of_ble_eq_true rfl)
  rw [lg_entry_eq]
  generalize (lg_sl [.ref (gB E + za0)] ++ List.replicate (3 - (lg_sl [.ref (gB E + za0)]).length) Slot.unset).toArray = ls at hl ⊢
  have hl : lv_has ls 3 [(0, .ref (gB E + za0))] := hl
  have L_28 : ∀ (zn28 : Nat) (zv0 : Nat) (zv1 : Int32) (zv2 : Int32) (zh : PH) (H : Heap) (locs : List Loc) (ls : Array Slot), gi (fun zk zs => f_X12_isName_28 N zk zs.1 zs.2.1 zs.2.2.1 zs.2.2.2) zn28 (zv0, zv1, zv2, zh) = some (r9, h9) → gw E s zh H locs → lv_has ls 3 [(0, .ref (gB E + zv0)), (1, .int zv1), (2, .int zv2)] → W p l e rm_X12_isName s m [.ref (gB E + za0)].toArray below meth c H locs 0 0 (MQ below (gQi E r9 h9) [.ref (gB E + za0)].toArray s 0 0 (gA E)) (F0 m 28 ls []) := by
    intro zn28
    induction zn28 with
    | zero =>
      intro zv0 zv1 zv2 zh H locs ls hf
      cases hf
    | succ zn28 ih_28 =>
      have J_62 : ∀ (zv0 : Nat) (zv2 : Int32) (zs0 : Int32) (zh : PH) (H : Heap) (locs : List Loc) (ls : Array Slot), f_X12_isName_62 N (gi (fun zk zs => f_X12_isName_28 N zk zs.1 zs.2.1 zs.2.2.1 zs.2.2.2) zn28) zv0 zv2 zs0 zh = some (r9, h9) → gw E s zh H locs → lv_has ls 3 [(0, .ref (gB E + zv0)), (2, .int zv2)] → W p l e rm_X12_isName s m [.ref (gB E + za0)].toArray below meth c H locs 0 0 (MQ below (gQi E r9 h9) [.ref (gB E + za0)].toArray s 0 0 (gA E)) (F0 m 62 ls [.int zs0]) := by
        intro zv0 zv2 zs0 zh H locs ls hf hw hl
        unfold f_X12_isName_62 at hf
        refine lv_istore_n (lv' := [(1, .int zs0), (0, .ref (gB E + zv0)), (2, .int zv2)]) hx hb dX12_isName_62 rfl hl (by decide) rfl (fun ls hl => ?_)
        obtain ⟨zx1, ezx1⟩ : ∃ y : Int32, y = zv2 + 1 := ⟨_, rfl⟩
        have hf := gl_el hf ezx1
        refine lv_iinc (v := zx1) (lv' := [(2, .int zx1), (1, .int zs0), (0, .ref (gB E + zv0))]) hx hb dX12_isName_63 hl (k := 2) rfl (by rw [ezx1]; rfl) (by decide) rfl (fun ls hl => ?_)
        refine lv_goto (tgt := 28) hx hb dX12_isName_66 (by decide) ?_
        exact ih_28 zv0 zs0 zx1 _ _ _ ls hf hw (lv_sub hl [2, 1, 0] rfl)
      have J_61 : ∀ (zv0 : Nat) (zv2 : Int32) (zh : PH) (H : Heap) (locs : List Loc) (ls : Array Slot), f_X12_isName_61 N (gi (fun zk zs => f_X12_isName_28 N zk zs.1 zs.2.1 zs.2.2.1 zs.2.2.2) zn28) zv0 zv2 zh = some (r9, h9) → gw E s zh H locs → lv_has ls 3 [(0, .ref (gB E + zv0)), (2, .int zv2)] → W p l e rm_X12_isName s m [.ref (gB E + za0)].toArray below meth c H locs 0 0 (MQ below (gQi E r9 h9) [.ref (gB E + za0)].toArray s 0 0 (gA E)) (F0 m 61 ls []) := by
        intro zv0 zv2 zh H locs ls hf hw hl
        unfold f_X12_isName_61 at hf
        refine lv_iconst (v := 0) hx hb dX12_isName_61 (by decide) ?_
        exact J_62 zv0 zv2 0 _ _ _ ls hf hw (lv_sub hl [0, 1] rfl)
      intro zv0 zv1 zv2 zh H locs ls hf hw hl
      have hf := gi_s hf
      dsimp only at hf
      unfold f_X12_isName_28 at hf
      refine lv_iload_n hx hb dX12_isName_28 rfl (lv_at hl 2 rfl) ?_
      refine lv_bipush (v := 9) hx hb dX12_isName_29 (by decide) ?_
      refine lv_icmp_ge (tgt := 69) hx hb dX12_isName_31 (by decide) (fun qc1 => ?_) (fun qc1 => ?_)
      · have hf := gif_t hf qc1
        refine lv_iload_n hx hb dX12_isName_69 rfl (lv_at hl 1 rfl) ?_
        exact gx_zret X hr hlk hw hf dX12_isName_70
      · have hf := gif_f hf qc1
        refine lv_iload_n hx hb dX12_isName_34 rfl (lv_at hl 1 rfl) ?_
        refine lv_if_eq (tgt := 61) hx hb dX12_isName_35 (by decide) (fun qc2 => ?_) (fun qc2 => ?_)
        · have hf := gif_t hf qc2
          exact J_61 zv0 zv2 _ _ _ ls hf hw (lv_sub hl [0, 2] rfl)
        · have hf := gif_f hf qc2
          refine lv_aload_n hx hb dX12_isName_38 rfl (lv_at hl 0 rfl) ?_
          obtain ⟨zt3, qzt3, hf⟩ := gb_el hf
          refine gx_getR X hw qzt3 clX12 (by decide) mf_X12_30 dX12_isName_39 ?_
          refine lv_aload_n hx hb dX12_isName_42 rfl (lv_at hl 0 rfl) ?_
          obtain ⟨zt4, qzt4, hf⟩ := gb_el hf
          refine gx_getI X hw qzt4 clX12 (by decide) mf_X12_150 dX12_isName_43 ?_
          refine W.eq (g2 := F0 m 46 ls [.int zt4, .ref (gB E + zt3)]) rfl ?_
          obtain ⟨zt5, qzt5, hf⟩ := gb_el hf
          refine gx_lald X hw qzt5 dX12_isName_46 ?_
          refine lv_aload_n hx hb dX12_isName_47 rfl (lv_at hl 0 rfl) ?_
          obtain ⟨zt6, qzt6, hf⟩ := gb_el hf
          refine gx_getR X hw qzt6 clX12 (by decide) mf_X12_62 dX12_isName_48 ?_
          refine lv_iload_n hx hb dX12_isName_51 rfl (lv_at hl 2 rfl) ?_
          obtain ⟨zt7, qzt7, hf⟩ := gb_el hf
          refine gx_lald X hw qzt7 dX12_isName_52 ?_
          refine W.lcmp hx hb dX12_isName_53 ?_
          refine lv_if_eq (tgt := 61) hx hb dX12_isName_54 (by decide) (fun qc8 => ?_) (fun qc8 => ?_)
          · have hf := gif_t hf qc8
            exact J_61 zv0 zv2 _ _ _ ls hf hw (lv_sub hl [0, 2] rfl)
          · have hf := gif_f hf qc8
            refine lv_iconst (v := 1) hx hb dX12_isName_57 (by decide) ?_
            refine lv_goto (tgt := 62) hx hb dX12_isName_58 (by decide) ?_
            exact J_62 zv0 zv2 1 _ _ _ ls hf hw (lv_sub hl [0, 2] rfl)
  have J_25 : ∀ (zv0 : Nat) (zs0 : Int32) (zh : PH) (H : Heap) (locs : List Loc) (ls : Array Slot), f_X12_isName_25 N zv0 zs0 zh = some (r9, h9) → gw E s zh H locs → lv_has ls 3 [(0, .ref (gB E + zv0))] → W p l e rm_X12_isName s m [.ref (gB E + za0)].toArray below meth c H locs 0 0 (MQ below (gQi E r9 h9) [.ref (gB E + za0)].toArray s 0 0 (gA E)) (F0 m 25 ls [.int zs0]) := by
    intro zv0 zs0 zh H locs ls hf hw hl
    unfold f_X12_isName_25 at hf
    refine lv_istore_n (lv' := [(1, .int zs0), (0, .ref (gB E + zv0))]) hx hb dX12_isName_25 rfl hl (by decide) rfl (fun ls hl => ?_)
    refine lv_iconst (v := 0) hx hb dX12_isName_26 (by decide) ?_
    refine lv_istore_n (lv' := [(2, .int 0), (1, .int zs0), (0, .ref (gB E + zv0))]) hx hb dX12_isName_27 rfl hl (by decide) rfl (fun ls hl => ?_)
    exact L_28 N zv0 zs0 0 _ _ _ ls hf hw (lv_sub hl [2, 1, 0] rfl)
  have J_24 : ∀ (zv0 : Nat) (zh : PH) (H : Heap) (locs : List Loc) (ls : Array Slot), f_X12_isName_24 N zv0 zh = some (r9, h9) → gw E s zh H locs → lv_has ls 3 [(0, .ref (gB E + zv0))] → W p l e rm_X12_isName s m [.ref (gB E + za0)].toArray below meth c H locs 0 0 (MQ below (gQi E r9 h9) [.ref (gB E + za0)].toArray s 0 0 (gA E)) (F0 m 24 ls []) := by
    intro zv0 zh H locs ls hf hw hl
    unfold f_X12_isName_24 at hf
    refine lv_iconst (v := 0) hx hb dX12_isName_24 (by decide) ?_
    exact J_25 zv0 0 _ _ _ ls hf hw (lv_sub hl [0] rfl)
  unfold f_X12_isName at hf
  refine lv_aload_n hx hb dX12_isName_0 rfl (lv_at hl 0 rfl) ?_
  obtain ⟨zt1, qzt1, hf⟩ := gb_el hf
  refine gx_getI X hw qzt1 clX12 (by decide) mf_X12_153 dX12_isName_1 ?_
  refine lv_if_ne (tgt := 24) hx hb dX12_isName_4 (by decide) (fun qc2 => ?_) (fun qc2 => ?_)
  · have hf := gif_f hf qc2
    exact J_24 za0 _ _ _ ls hf hw (lv_sub hl [0] rfl)
  · have hf := gif_t hf qc2
    refine lv_aload_n hx hb dX12_isName_7 rfl (lv_at hl 0 rfl) ?_
    obtain ⟨zt3, qzt3, hf⟩ := gb_el hf
    refine gx_getR X hw qzt3 clX12 (by decide) mf_X12_24 dX12_isName_8 ?_
    refine lv_aload_n hx hb dX12_isName_11 rfl (lv_at hl 0 rfl) ?_
    obtain ⟨zt4, qzt4, hf⟩ := gb_el hf
    refine gx_getI X hw qzt4 clX12 (by decide) mf_X12_150 dX12_isName_12 ?_
    obtain ⟨zt5, qzt5, hf⟩ := gb_el hf
    refine gx_iald X hw qzt5 dX12_isName_15 ?_
    refine lv_iconst (v := 1) hx hb dX12_isName_16 (by decide) ?_
    refine W.eq (g2 := F0 m 17 ls [.int 1, .int zt5]) rfl ?_
    refine lv_icmp_ne (tgt := 24) hx hb dX12_isName_17 (by decide) (fun qc6 => ?_) (fun qc6 => ?_)
    · have hf := gif_f hf qc6
      exact J_24 za0 _ _ _ ls hf hw (lv_sub hl [0] rfl)
    · have hf := gif_t hf qc6
      refine lv_iconst (v := 1) hx hb dX12_isName_20 (by decide) ?_
      refine lv_goto (tgt := 25) hx hb dX12_isName_21 (by decide) ?_
      exact J_25 za0 1 _ _ _ ls hf hw (lv_sub hl [0] rfl)
abbrev rm_X12_readGuest : Room := { frames := 3, cells := 0, slots := 0, locals := 64 }
set_option maxHeartbeats 4000000 in
set_option maxRecDepth 100000 in
theorem c_X12_readGuest (l : Launch) (E : gE) (N : Nat) (za0 : Nat) (zh : PH) {h9 : PH} (hf : f_X12_readGuest N za0 zh = some h9) : Met l yX12_readGuest (gWS yX12_readGuest cX12_readGuest 4 none) rm_X12_readGuest (gPc E [.ref (gB E + za0)] zh) (gQv E h9) 0 0 (gA E) := by
  refine gx_met (by decide) ?_ rfl
  intro p e s m below meth c X hr hlk hin2 hw
  have hx := X.1.1
  have hb := X.1.2.1
  have hl := lv_entry [.ref (gB E + za0)] (n := 4) (Nat.le_of_ble_eq_true rfl)
  rw [lg_entry_eq]
  generalize (lg_sl [.ref (gB E + za0)] ++ List.replicate (4 - (lg_sl [.ref (gB E + za0)]).length) Slot.unset).toArray = ls at hl ⊢
  have hl : lv_has ls 4 [(0, .ref (gB E + za0))] := hl
  have L_144 : ∀ (zn144 : Nat) (zv0 : Nat) (zv2 : Int32) (zh : PH) (H : Heap) (locs : List Loc) (ls : Array Slot), gi (fun zk zs => f_X12_readGuest_144 N zk zs.1 zs.2.1 zs.2.2) zn144 (zv0, zv2, zh) = some h9 → gw E s zh H locs → lv_has ls 4 [(0, .ref (gB E + zv0)), (2, .int zv2)] → W p l e rm_X12_readGuest s m [.ref (gB E + za0)].toArray below meth c H locs 0 0 (MQ below (gQv E h9) [.ref (gB E + za0)].toArray s 0 0 (gA E)) (F0 m 144 ls []) := by
    intro zn144
    induction zn144 with
    | zero =>
      intro zv0 zv2 zh H locs ls hf
      cases hf
    | succ zn144 ih_144 =>
      have J_174 : ∀ (zv0 : Nat) (zv2 : Int32) (zs0 : Int32) (zs1 : Int32) (zh : PH) (H : Heap) (locs : List Loc) (ls : Array Slot), f_X12_readGuest_174 N (gi (fun zk zs => f_X12_readGuest_144 N zk zs.1 zs.2.1 zs.2.2) zn144) zv0 zv2 zs0 zs1 zh = some h9 → gw E s zh H locs → lv_has ls 4 [(0, .ref (gB E + zv0)), (2, .int zv2)] → W p l e rm_X12_readGuest s m [.ref (gB E + za0)].toArray below meth c H locs 0 0 (MQ below (gQv E h9) [.ref (gB E + za0)].toArray s 0 0 (gA E)) (F0 m 174 ls [.int zs0, .int zs1]) := by
        intro zv0 zv2 zs0 zs1 zh H locs ls hf hw hl
        unfold f_X12_readGuest_174 at hf
        refine lv_iadd hx hb dX12_readGuest_174 ?_
        refine lv_topi (fun zx1 ezx1 => ?_)
        have hf := gl_el hf ezx1
        refine lv_istore_n (lv' := [(3, .int zx1), (0, .ref (gB E + zv0)), (2, .int zv2)]) hx hb dX12_readGuest_175 rfl hl (by decide) rfl (fun ls hl => ?_)
        refine lv_aload_n hx hb dX12_readGuest_176 rfl (lv_at hl 1 rfl) ?_
        obtain ⟨zt2, qzt2, hf⟩ := gb_el hf
        refine gx_getR X hw qzt2 clX12 (by decide) mf_X12_65 dX12_readGuest_177 ?_
        refine lv_iload_n hx hb dX12_readGuest_180 rfl (lv_at hl 0 rfl) ?_
        obtain ⟨zt3, qzt3, hf⟩ := gb_el hf
        refine gx_iald X hw qzt3 dX12_readGuest_181 ?_
        refine lv_iconst (v := 1) hx hb dX12_readGuest_182 (by decide) ?_
        refine lv_icmp_ne (tgt := 192) hx hb dX12_readGuest_183 (by decide) (fun qc4 => ?_) (fun qc4 => ?_)
        · have hf := gif_f hf qc4
          refine lv_aload_n hx hb dX12_readGuest_192 rfl (lv_at hl 1 rfl) ?_
          refine W.eq (g2 := F0 m 193 ls [.ref (gB E + zv0)]) rfl ?_
          obtain ⟨zt5, qzt5, hf⟩ := gb_el hf
          refine gx_getR X hw qzt5 clX12 (by decide) mf_X12_65 dX12_readGuest_193 ?_
          refine lv_iload_n hx hb dX12_readGuest_196 rfl (lv_at hl 0 rfl) ?_
          refine lv_iconst (v := 1) hx hb dX12_readGuest_197 (by decide) ?_
          obtain ⟨zh6, qzh6, hf⟩ := gb_el hf
          refine gx_iast X hw qzh6 dX12_readGuest_198 (fun H locs hw => ?_)
          refine lv_aload_n hx hb dX12_readGuest_199 rfl (lv_at hl 1 rfl) ?_
          refine lv_dup hx hb dX12_readGuest_200 rfl ?_
          obtain ⟨zt7, qzt7, hf⟩ := gb_el hf
          refine gx_getI X hw qzt7 clX12 (by decide) mf_X12_150 dX12_readGuest_201 ?_
          refine lv_iconst (v := 1) hx hb dX12_readGuest_204 (by decide) ?_
          refine lv_iadd hx hb dX12_readGuest_205 ?_
          obtain ⟨zh8, qzh8, hf⟩ := gb_el hf
          refine gx_putV X hw qzh8 clX12 (by decide) mf_X12_150 rfl rfl rfl dX12_readGuest_206 (fun H locs hw => ?_)
          refine W.eq (g2 := F0 m 209 ls []) rfl ?_
          refine lv_goto (tgt := 144) hx hb dX12_readGuest_209 (by decide) ?_
          exact ih_144 zv0 zv2 _ _ _ ls hf hw (lv_sub hl [1, 2] rfl)
        · have hf := gif_t hf qc4
          refine lv_aload_n hx hb dX12_readGuest_186 rfl (lv_at hl 1 rfl) ?_
          refine W.eq (g2 := F0 m 187 ls [.ref (gB E + zv0)]) rfl ?_
          refine lv_iconst (v := 3) hx hb dX12_readGuest_187 (by decide) ?_
          obtain ⟨qizh9, hf⟩ := gg_el hf
          obtain ⟨zh9, qzh9, hf⟩ := gb_el hf
          refine gx_kv (gx_runV (As := [.int 3]) (rest := []) X hw (c_X12_wrong l E N zv0 3 zh qzh9) kX12_wrong mm_X12_159 qizh9 clX12 ⟨Nat.le_of_ble_eq_true rfl, Nat.le_of_ble_eq_true rfl⟩ rfl rfl rfl hl.1 (Nat.le_of_ble_eq_true rfl) rfl dX12_readGuest_188 ⟨Nat.le_of_ble_eq_true rfl, Nat.le_of_ble_eq_true rfl⟩) hw (fun H locs hw => ?_)
          exact gx_vret X hr hlk hw hf dX12_readGuest_191
      have J_160 : ∀ (zv0 : Nat) (zv2 : Int32) (zh : PH) (H : Heap) (locs : List Loc) (ls : Array Slot), f_X12_readGuest_160 N (gi (fun zk zs => f_X12_readGuest_144 N zk zs.1 zs.2.1 zs.2.2) zn144) zv0 zv2 zh = some h9 → gw E s zh H locs → lv_has ls 4 [(0, .ref (gB E + zv0)), (2, .int zv2)] → W p l e rm_X12_readGuest s m [.ref (gB E + za0)].toArray below meth c H locs 0 0 (MQ below (gQv E h9) [.ref (gB E + za0)].toArray s 0 0 (gA E)) (F0 m 160 ls []) := by
        intro zv0 zv2 zh H locs ls hf hw hl
        unfold f_X12_readGuest_160 at hf
        refine lv_iload_n hx hb dX12_readGuest_160 rfl (lv_at hl 1 rfl) ?_
        refine lv_aload_n hx hb dX12_readGuest_161 rfl (lv_at hl 0 rfl) ?_
        refine lv_iconst (v := 3) hx hb dX12_readGuest_162 (by decide) ?_
        obtain ⟨qizh1, hf⟩ := gg_el hf
        obtain ⟨zt2, zh1, qzh1, hf⟩ := gc_el hf
        refine gx_ki (gx_runV (As := [.int 3]) (rest := [.int zv2]) X hw (c_X12_isWord l E N zv0 3 zh qzh1) kX12_isWord mm_X12_163 qizh1 clX12 ⟨Nat.le_of_ble_eq_true rfl, Nat.le_of_ble_eq_true rfl⟩ rfl rfl rfl hl.1 (Nat.le_of_ble_eq_true rfl) rfl dX12_readGuest_163 ⟨Nat.le_of_ble_eq_true rfl, Nat.le_of_ble_eq_true rfl⟩) hw (fun H locs hw => ?_)
        refine lv_if_eq (tgt := 173) hx hb dX12_readGuest_166 (by decide) (fun qc3 => ?_) (fun qc3 => ?_)
        · have hf := gif_t hf qc3
          refine lv_iconst (v := 2) hx hb dX12_readGuest_173 (by decide) ?_
          exact J_174 zv0 zv2 2 zv2 _ _ _ ls hf hw (lv_sub hl [0, 1] rfl)
        · have hf := gif_f hf qc3
          refine lv_iconst (v := 1) hx hb dX12_readGuest_169 (by decide) ?_
          refine lv_goto (tgt := 174) hx hb dX12_readGuest_170 (by decide) ?_
          exact J_174 zv0 zv2 1 zv2 _ _ _ ls hf hw (lv_sub hl [0, 1] rfl)
      intro zv0 zv2 zh H locs ls hf hw hl
      have hf := gi_s hf
      dsimp only at hf
      unfold f_X12_readGuest_144 at hf
      refine lv_aload_n hx hb dX12_readGuest_144 rfl (lv_at hl 0 rfl) ?_
      refine lv_iconst (v := 3) hx hb dX12_readGuest_145 (by decide) ?_
      obtain ⟨qizh1, hf⟩ := gg_el hf
      obtain ⟨zt2, zh1, qzh1, hf⟩ := gc_el hf
      refine gx_ki (gx_runV (As := [.int 3]) (rest := []) X hw (c_X12_isWord l E N zv0 3 zh qzh1) kX12_isWord mm_X12_163 qizh1 clX12 ⟨Nat.le_of_ble_eq_true rfl, Nat.le_of_ble_eq_true rfl⟩ rfl rfl rfl hl.1 (Nat.le_of_ble_eq_true rfl) rfl dX12_readGuest_146 ⟨Nat.le_of_ble_eq_true rfl, Nat.le_of_ble_eq_true rfl⟩) hw (fun H locs hw => ?_)
      refine lv_if_ne (tgt := 160) hx hb dX12_readGuest_149 (by decide) (fun qc3 => ?_) (fun qc3 => ?_)
      · have hf := gif_f hf qc3
        exact J_160 zv0 zv2 _ _ _ ls hf hw (lv_sub hl [0, 1] rfl)
      · have hf := gif_t hf qc3
        refine lv_aload_n hx hb dX12_readGuest_152 rfl (lv_at hl 0 rfl) ?_
        refine lv_iconst (v := 4) hx hb dX12_readGuest_153 (by decide) ?_
        obtain ⟨qizh4, hf⟩ := gg_el hf
        obtain ⟨zt5, zh4, qzh4, hf⟩ := gc_el hf
        refine gx_ki (gx_runV (As := [.int 4]) (rest := []) X hw (c_X12_isWord l E N zv0 4 zh1 qzh4) kX12_isWord mm_X12_163 qizh4 clX12 ⟨Nat.le_of_ble_eq_true rfl, Nat.le_of_ble_eq_true rfl⟩ rfl rfl rfl hl.1 (Nat.le_of_ble_eq_true rfl) rfl dX12_readGuest_154 ⟨Nat.le_of_ble_eq_true rfl, Nat.le_of_ble_eq_true rfl⟩) hw (fun H locs hw => ?_)
        refine lv_if_eq (tgt := 212) hx hb dX12_readGuest_157 (by decide) (fun qc6 => ?_) (fun qc6 => ?_)
        · have hf := gif_t hf qc6
          refine lv_aload_n hx hb dX12_readGuest_212 rfl (lv_at hl 0 rfl) ?_
          refine W.eq (g2 := F0 m 213 ls [.ref (gB E + zv0)]) rfl ?_
          obtain ⟨zt7, qzt7, hf⟩ := gb_el hf
          refine gx_getR X hw qzt7 clX12 (by decide) mf_X12_65 dX12_readGuest_213 ?_
          refine lv_bipush (v := 61) hx hb dX12_readGuest_216 (by decide) ?_
          refine lv_dup2_11 hx hb dX12_readGuest_218 rfl rfl ?_
          obtain ⟨zt8, qzt8, hf⟩ := gb_el hf
          refine gx_iald X hw qzt8 dX12_readGuest_219 ?_
          refine lv_iconst (v := 1) hx hb dX12_readGuest_220 (by decide) ?_
          refine lv_iadd hx hb dX12_readGuest_221 ?_
          obtain ⟨zh9, qzh9, hf⟩ := gb_el hf
          refine gx_iast X hw qzh9 dX12_readGuest_222 (fun H locs hw => ?_)
          exact gx_vret X hr hlk hw hf dX12_readGuest_223
        · have hf := gif_f hf qc6
          exact J_160 zv0 zv2 _ _ _ ls hf hw (lv_sub hl [0, 1] rfl)
  have J_86 : ∀ (zv0 : Nat) (zv1 : Int32) (zh : PH) (H : Heap) (locs : List Loc) (ls : Array Slot), f_X12_readGuest_86 N zv0 zv1 zh = some h9 → gw E s zh H locs → lv_has ls 4 [(0, .ref (gB E + zv0)), (1, .int zv1)] → W p l e rm_X12_readGuest s m [.ref (gB E + za0)].toArray below meth c H locs 0 0 (MQ below (gQv E h9) [.ref (gB E + za0)].toArray s 0 0 (gA E)) (F0 m 86 ls []) := by
    intro zv0 zv1 zh H locs ls hf hw hl
    unfold f_X12_readGuest_86 at hf
    refine lv_aload_n hx hb dX12_readGuest_86 rfl (lv_at hl 0 rfl) ?_
    obtain ⟨zt1, qzt1, hf⟩ := gb_el hf
    refine gx_getI X hw qzt1 clX12 (by decide) mf_X12_153 dX12_readGuest_87 ?_
    refine lv_if_le (tgt := 94) hx hb dX12_readGuest_90 (by decide) (fun qc2 => ?_) (fun qc2 => ?_)
    · have hf := gif_t hf qc2
      refine lv_aload_n hx hb dX12_readGuest_94 rfl (lv_at hl 0 rfl) ?_
      obtain ⟨zt3, qzt3, hf⟩ := gb_el hf
      refine gx_getR X hw qzt3 clX12 (by decide) mf_X12_74 dX12_readGuest_95 ?_
      refine lv_iload_n hx hb dX12_readGuest_98 rfl (lv_at hl 1 rfl) ?_
      refine lv_aload_n hx hb dX12_readGuest_99 rfl (lv_at hl 0 rfl) ?_
      obtain ⟨zt4, qzt4, hf⟩ := gb_el hf
      refine gx_getR X hw qzt4 clX12 (by decide) mf_X12_30 dX12_readGuest_100 ?_
      refine lv_aload_n hx hb dX12_readGuest_103 rfl (lv_at hl 0 rfl) ?_
      refine W.eq (g2 := F0 m 104 ls [.ref (gB E + zv0), .ref (gB E + zt4), .int zv1, .ref (gB E + zt3)]) rfl ?_
      obtain ⟨zt5, qzt5, hf⟩ := gb_el hf
      refine gx_getI X hw qzt5 clX12 (by decide) mf_X12_150 dX12_readGuest_104 ?_
      obtain ⟨zt6, qzt6, hf⟩ := gb_el hf
      refine gx_lald X hw qzt6 dX12_readGuest_107 ?_
      obtain ⟨zh7, qzh7, hf⟩ := gb_el hf
      refine gx_last X hw qzh7 dX12_readGuest_108 (fun H locs hw => ?_)
      refine lv_aload_n hx hb dX12_readGuest_109 rfl (lv_at hl 0 rfl) ?_
      refine lv_dup hx hb dX12_readGuest_110 rfl ?_
      obtain ⟨zt8, qzt8, hf⟩ := gb_el hf
      refine gx_getI X hw qzt8 clX12 (by decide) mf_X12_150 dX12_readGuest_111 ?_
      refine lv_iconst (v := 1) hx hb dX12_readGuest_114 (by decide) ?_
      refine lv_iadd hx hb dX12_readGuest_115 ?_
      obtain ⟨zh9, qzh9, hf⟩ := gb_el hf
      refine gx_putV X hw qzh9 clX12 (by decide) mf_X12_150 rfl rfl rfl dX12_readGuest_116 (fun H locs hw => ?_)
      refine lv_aload_n hx hb dX12_readGuest_119 rfl (lv_at hl 0 rfl) ?_
      refine W.eq (g2 := F0 m 120 ls [.ref (gB E + zv0)]) rfl ?_
      refine lv_iconst (v := 2) hx hb dX12_readGuest_120 (by decide) ?_
      obtain ⟨qizh10, hf⟩ := gg_el hf
      obtain ⟨zh10, qzh10, hf⟩ := gb_el hf
      refine gx_kv (gx_runV (As := [.int 2]) (rest := []) X hw (c_X12_takeWord l E N zv0 2 zh9 qzh10) kX12_takeWord mm_X12_202 qizh10 clX12 ⟨Nat.le_of_ble_eq_true rfl, Nat.le_of_ble_eq_true rfl⟩ rfl rfl rfl hl.1 (Nat.le_of_ble_eq_true rfl) rfl dX12_readGuest_121 ⟨Nat.le_of_ble_eq_true rfl, Nat.le_of_ble_eq_true rfl⟩) hw (fun H locs hw => ?_)
      refine lv_bipush (v := 83) hx hb dX12_readGuest_124 (by decide) ?_
      refine lv_iconst (v := 3) hx hb dX12_readGuest_126 (by decide) ?_
      refine lv_iload_n hx hb dX12_readGuest_127 rfl (lv_at hl 1 rfl) ?_
      refine lv_imul hx hb dX12_readGuest_128 ?_
      refine lv_iadd hx hb dX12_readGuest_129 ?_
      refine lv_topi (fun zx11 ezx11 => ?_)
      have hf := gl_el hf ezx11
      refine lv_istore_n (lv' := [(2, .int zx11), (0, .ref (gB E + zv0)), (1, .int zv1)]) hx hb dX12_readGuest_130 rfl hl (by decide) rfl (fun ls hl => ?_)
      refine lv_aload_n hx hb dX12_readGuest_131 rfl (lv_at hl 1 rfl) ?_
      obtain ⟨zt12, qzt12, hf⟩ := gb_el hf
      refine gx_getR X hw qzt12 clX12 (by decide) mf_X12_65 dX12_readGuest_132 ?_
      refine W.eq (g2 := F0 m 135 ls [.ref (gB E + zt12)]) rfl ?_
      refine lv_iload_n hx hb dX12_readGuest_135 rfl (lv_at hl 0 rfl) ?_
      refine lv_aload_n hx hb dX12_readGuest_136 rfl (lv_at hl 1 rfl) ?_
      refine lv_iconst (v := 0) hx hb dX12_readGuest_137 (by decide) ?_
      refine lv_bipush (v := 99) hx hb dX12_readGuest_138 (by decide) ?_
      obtain ⟨qizh13, hf⟩ := gg_el hf
      obtain ⟨zt14, zh13, qzh13, hf⟩ := gc_el hf
      refine gx_ki (gx_runV (As := [.int 0, .int 99]) (rest := [.int zx11, .ref (gB E + zt12)]) X hw (c_X12_takeNumber l E N zv0 0 99 zh10 qzh13) kX12_takeNumber mm_X12_194 qizh13 clX12 ⟨Nat.le_of_ble_eq_true rfl, Nat.le_of_ble_eq_true rfl⟩ rfl rfl rfl hl.1 (Nat.le_of_ble_eq_true rfl) rfl dX12_readGuest_140 ⟨Nat.le_of_ble_eq_true rfl, Nat.le_of_ble_eq_true rfl⟩) hw (fun H locs hw => ?_)
      obtain ⟨zh15, qzh15, hf⟩ := gb_el hf
      refine gx_iast X hw qzh15 dX12_readGuest_143 (fun H locs hw => ?_)
      exact L_144 N zv0 zx11 _ _ _ ls hf hw (lv_sub hl [1, 0] rfl)
    · have hf := gif_f hf qc2
      exact gx_vret X hr hlk hw hf dX12_readGuest_93
  have L_44 : ∀ (zn44 : Nat) (zv0 : Nat) (zv1 : Int32) (zv2 : Int32) (zh : PH) (H : Heap) (locs : List Loc) (ls : Array Slot), gi (fun zk zs => f_X12_readGuest_44 N zk zs.1 zs.2.1 zs.2.2.1 zs.2.2.2) zn44 (zv0, zv1, zv2, zh) = some h9 → gw E s zh H locs → lv_has ls 4 [(0, .ref (gB E + zv0)), (1, .int zv1), (2, .int zv2)] → W p l e rm_X12_readGuest s m [.ref (gB E + za0)].toArray below meth c H locs 0 0 (MQ below (gQv E h9) [.ref (gB E + za0)].toArray s 0 0 (gA E)) (F0 m 44 ls []) := by
    intro zn44
    induction zn44 with
    | zero =>
      intro zv0 zv1 zv2 zh H locs ls hf
      cases hf
    | succ zn44 ih_44 =>
      have J_80 : ∀ (zv0 : Nat) (zv1 : Int32) (zv2 : Int32) (zh : PH) (H : Heap) (locs : List Loc) (ls : Array Slot), f_X12_readGuest_80 N (gi (fun zk zs => f_X12_readGuest_44 N zk zs.1 zs.2.1 zs.2.2.1 zs.2.2.2) zn44) zv0 zv1 zv2 zh = some h9 → gw E s zh H locs → lv_has ls 4 [(0, .ref (gB E + zv0)), (1, .int zv1), (2, .int zv2)] → W p l e rm_X12_readGuest s m [.ref (gB E + za0)].toArray below meth c H locs 0 0 (MQ below (gQv E h9) [.ref (gB E + za0)].toArray s 0 0 (gA E)) (F0 m 80 ls []) := by
        intro zv0 zv1 zv2 zh H locs ls hf hw hl
        unfold f_X12_readGuest_80 at hf
        obtain ⟨zx1, ezx1⟩ : ∃ y : Int32, y = zv2 + 1 := ⟨_, rfl⟩
        have hf := gl_el hf ezx1
        refine lv_iinc (v := zx1) (lv' := [(2, .int zx1), (0, .ref (gB E + zv0)), (1, .int zv1)]) hx hb dX12_readGuest_80 hl (k := 2) rfl (by rw [ezx1]; rfl) (by decide) rfl (fun ls hl => ?_)
        refine lv_goto (tgt := 44) hx hb dX12_readGuest_83 (by decide) ?_
        exact ih_44 zv0 zv1 zx1 _ _ _ ls hf hw (lv_sub hl [1, 2, 0] rfl)
      intro zv0 zv1 zv2 zh H locs ls hf hw hl
      have hf := gi_s hf
      dsimp only at hf
      unfold f_X12_readGuest_44 at hf
      refine lv_iload_n hx hb dX12_readGuest_44 rfl (lv_at hl 2 rfl) ?_
      refine lv_iload_n hx hb dX12_readGuest_45 rfl (lv_at hl 1 rfl) ?_
      refine lv_icmp_ge (tgt := 86) hx hb dX12_readGuest_46 (by decide) (fun qc1 => ?_) (fun qc1 => ?_)
      · have hf := gif_t hf qc1
        exact J_86 zv0 zv1 _ _ _ ls hf hw (lv_sub hl [0, 1] rfl)
      · have hf := gif_f hf qc1
        refine lv_aload_n hx hb dX12_readGuest_49 rfl (lv_at hl 0 rfl) ?_
        obtain ⟨zt2, qzt2, hf⟩ := gb_el hf
        refine gx_getI X hw qzt2 clX12 (by decide) mf_X12_153 dX12_readGuest_50 ?_
        refine lv_if_ne (tgt := 86) hx hb dX12_readGuest_53 (by decide) (fun qc3 => ?_) (fun qc3 => ?_)
        · have hf := gif_f hf qc3
          exact J_86 zv0 zv1 _ _ _ ls hf hw (lv_sub hl [0, 1] rfl)
        · have hf := gif_t hf qc3
          refine lv_aload_n hx hb dX12_readGuest_56 rfl (lv_at hl 0 rfl) ?_
          obtain ⟨zt4, qzt4, hf⟩ := gb_el hf
          refine gx_getR X hw qzt4 clX12 (by decide) mf_X12_74 dX12_readGuest_57 ?_
          refine lv_iload_n hx hb dX12_readGuest_60 rfl (lv_at hl 2 rfl) ?_
          refine W.eq (g2 := F0 m 61 ls [.int zv2, .ref (gB E + zt4)]) rfl ?_
          obtain ⟨zt5, qzt5, hf⟩ := gb_el hf
          refine gx_lald X hw qzt5 dX12_readGuest_61 ?_
          refine lv_aload_n hx hb dX12_readGuest_62 rfl (lv_at hl 0 rfl) ?_
          obtain ⟨zt6, qzt6, hf⟩ := gb_el hf
          refine gx_getR X hw qzt6 clX12 (by decide) mf_X12_30 dX12_readGuest_63 ?_
          refine lv_aload_n hx hb dX12_readGuest_66 rfl (lv_at hl 0 rfl) ?_
          obtain ⟨zt7, qzt7, hf⟩ := gb_el hf
          refine gx_getI X hw qzt7 clX12 (by decide) mf_X12_150 dX12_readGuest_67 ?_
          obtain ⟨zt8, qzt8, hf⟩ := gb_el hf
          refine gx_lald X hw qzt8 dX12_readGuest_70 ?_
          refine W.lcmp hx hb dX12_readGuest_71 ?_
          refine lv_if_ne (tgt := 80) hx hb dX12_readGuest_72 (by decide) (fun qc9 => ?_) (fun qc9 => ?_)
          · have hf := gif_f hf qc9
            exact J_80 zv0 zv1 zv2 _ _ _ ls hf hw (lv_sub hl [0, 1, 2] rfl)
          · have hf := gif_t hf qc9
            refine lv_aload_n hx hb dX12_readGuest_75 rfl (lv_at hl 0 rfl) ?_
            refine lv_iconst (v := 3) hx hb dX12_readGuest_76 (by decide) ?_
            refine W.eq (g2 := F0 m 77 ls [.int 3, .ref (gB E + zv0)]) rfl ?_
            obtain ⟨qizh10, hf⟩ := gg_el hf
            obtain ⟨zh10, qzh10, hf⟩ := gb_el hf
            refine gx_kv (gx_runV (As := [.int 3]) (rest := []) X hw (c_X12_wrong l E N zv0 3 zh qzh10) kX12_wrong mm_X12_159 qizh10 clX12 ⟨Nat.le_of_ble_eq_true rfl, Nat.le_of_ble_eq_true rfl⟩ rfl rfl rfl hl.1 (Nat.le_of_ble_eq_true rfl) rfl dX12_readGuest_77 ⟨Nat.le_of_ble_eq_true rfl, Nat.le_of_ble_eq_true rfl⟩) hw (fun H locs hw => ?_)
            exact J_80 zv0 zv1 zv2 _ _ _ ls hf hw (lv_sub hl [0, 1, 2] rfl)
  have J_42 : ∀ (zv0 : Nat) (zv1 : Int32) (zh : PH) (H : Heap) (locs : List Loc) (ls : Array Slot), f_X12_readGuest_42 N zv0 zv1 zh = some h9 → gw E s zh H locs → lv_has ls 4 [(0, .ref (gB E + zv0)), (1, .int zv1)] → W p l e rm_X12_readGuest s m [.ref (gB E + za0)].toArray below meth c H locs 0 0 (MQ below (gQv E h9) [.ref (gB E + za0)].toArray s 0 0 (gA E)) (F0 m 42 ls []) := by
    intro zv0 zv1 zh H locs ls hf hw hl
    unfold f_X12_readGuest_42 at hf
    refine lv_iconst (v := 0) hx hb dX12_readGuest_42 (by decide) ?_
    refine lv_istore_n (lv' := [(2, .int 0), (0, .ref (gB E + zv0)), (1, .int zv1)]) hx hb dX12_readGuest_43 rfl hl (by decide) rfl (fun ls hl => ?_)
    exact L_44 N zv0 zv1 0 _ _ _ ls hf hw (lv_sub hl [1, 2, 0] rfl)
  unfold f_X12_readGuest at hf
  refine lv_aload_n hx hb dX12_readGuest_0 rfl (lv_at hl 0 rfl) ?_
  obtain ⟨zt1, qzt1, hf⟩ := gb_el hf
  refine gx_getR X hw qzt1 clX12 (by decide) mf_X12_65 dX12_readGuest_1 ?_
  refine lv_bipush (v := 61) hx hb dX12_readGuest_4 (by decide) ?_
  obtain ⟨zt2, qzt2, hf⟩ := gb_el hf
  refine gx_iald X hw qzt2 dX12_readGuest_6 ?_
  refine lv_istore_n (lv' := [(1, .int zt2), (0, .ref (gB E + za0))]) hx hb dX12_readGuest_7 rfl hl (by decide) rfl (fun ls hl => ?_)
  refine lv_iload_n hx hb dX12_readGuest_8 rfl (lv_at hl 0 rfl) ?_
  refine lv_bipush (v := 10) hx hb dX12_readGuest_9 (by decide) ?_
  refine lv_icmp_ne (tgt := 20) hx hb dX12_readGuest_11 (by decide) (fun qc3 => ?_) (fun qc3 => ?_)
  · have hf := gif_f hf qc3
    refine lv_aload_n hx hb dX12_readGuest_20 rfl (lv_at hl 1 rfl) ?_
    refine W.eq (g2 := F0 m 21 ls [.ref (gB E + za0)]) rfl ?_
    refine lv_dup hx hb dX12_readGuest_21 rfl ?_
    obtain ⟨zt4, qzt4, hf⟩ := gb_el hf
    refine gx_getI X hw qzt4 clX12 (by decide) mf_X12_150 dX12_readGuest_22 ?_
    refine lv_iconst (v := 1) hx hb dX12_readGuest_25 (by decide) ?_
    refine lv_iadd hx hb dX12_readGuest_26 ?_
    obtain ⟨zh5, qzh5, hf⟩ := gb_el hf
    refine gx_putV X hw qzh5 clX12 (by decide) mf_X12_150 rfl rfl rfl dX12_readGuest_27 (fun H locs hw => ?_)
    refine lv_aload_n hx hb dX12_readGuest_30 rfl (lv_at hl 1 rfl) ?_
    obtain ⟨qizh6, hf⟩ := gg_el hf
    obtain ⟨zt7, zh6, qzh6, hf⟩ := gc_el hf
    refine gx_ki (gx_runV (As := []) (rest := []) X hw (c_X12_isName l E N za0 zh5 qzh6) kX12_isName mm_X12_198 qizh6 clX12 ⟨Nat.le_of_ble_eq_true rfl, Nat.le_of_ble_eq_true rfl⟩ rfl rfl rfl hl.1 (Nat.le_of_ble_eq_true rfl) rfl dX12_readGuest_31 ⟨Nat.le_of_ble_eq_true rfl, Nat.le_of_ble_eq_true rfl⟩) hw (fun H locs hw => ?_)
    refine lv_if_ne (tgt := 42) hx hb dX12_readGuest_34 (by decide) (fun qc8 => ?_) (fun qc8 => ?_)
    · have hf := gif_f hf qc8
      exact J_42 za0 zt2 _ _ _ ls hf hw (lv_sub hl [1, 0] rfl)
    · have hf := gif_t hf qc8
      refine lv_aload_n hx hb dX12_readGuest_37 rfl (lv_at hl 1 rfl) ?_
      refine lv_iconst (v := 1) hx hb dX12_readGuest_38 (by decide) ?_
      refine W.eq (g2 := F0 m 39 ls [.int 1, .ref (gB E + za0)]) rfl ?_
      obtain ⟨qizh9, hf⟩ := gg_el hf
      obtain ⟨zh9, qzh9, hf⟩ := gb_el hf
      refine gx_kv (gx_runV (As := [.int 1]) (rest := []) X hw (c_X12_wrong l E N za0 1 zh6 qzh9) kX12_wrong mm_X12_159 qizh9 clX12 ⟨Nat.le_of_ble_eq_true rfl, Nat.le_of_ble_eq_true rfl⟩ rfl rfl rfl hl.1 (Nat.le_of_ble_eq_true rfl) rfl dX12_readGuest_39 ⟨Nat.le_of_ble_eq_true rfl, Nat.le_of_ble_eq_true rfl⟩) hw (fun H locs hw => ?_)
      exact J_42 za0 zt2 _ _ _ ls hf hw (lv_sub hl [1, 0] rfl)
  · have hf := gif_t hf qc3
    refine lv_aload_n hx hb dX12_readGuest_14 rfl (lv_at hl 1 rfl) ?_
    refine W.eq (g2 := F0 m 15 ls [.ref (gB E + za0)]) rfl ?_
    refine lv_iconst (v := 5) hx hb dX12_readGuest_15 (by decide) ?_
    obtain ⟨qizh10, hf⟩ := gg_el hf
    obtain ⟨zh10, qzh10, hf⟩ := gb_el hf
    refine gx_kv (gx_runV (As := [.int 5]) (rest := []) X hw (c_X12_wrong l E N za0 5 zh qzh10) kX12_wrong mm_X12_159 qizh10 clX12 ⟨Nat.le_of_ble_eq_true rfl, Nat.le_of_ble_eq_true rfl⟩ rfl rfl rfl hl.1 (Nat.le_of_ble_eq_true rfl) rfl dX12_readGuest_16 ⟨Nat.le_of_ble_eq_true rfl, Nat.le_of_ble_eq_true rfl⟩) hw (fun H locs hw => ?_)
    exact gx_vret X hr hlk hw hf dX12_readGuest_19
