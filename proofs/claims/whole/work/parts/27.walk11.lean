abbrev rm_X12_jobs : Room := { frames := 0, cells := 0, slots := 0, locals := 0 }
set_option maxHeartbeats 4000000 in
set_option maxRecDepth 100000 in
theorem c_X12_jobs (l : Launch) (E : gE) (N : Nat) (za0 : Nat) (zh : PH) {h9 : PH} {r9 : Int32} (hf : f_X12_jobs N za0 zh = some (r9, h9)) : Met l yX12_jobs (gWS yX12_jobs cX12_jobs 1 (some .int)) rm_X12_jobs (gPc E [.ref (gB E + za0)] zh) (gQi E r9 h9) 0 0 (gA E) := by
  refine gx_met (by decide) ?_ rfl
  intro p e s m below meth c X hr hlk hin2 hw
  have hx := X.1.1
  have hb := X.1.2.1
  have hl := lv_entry [.ref (gB E + za0)] (n := 1) (Nat.le_of_ble_eq_true rfl)
  rw [lg_entry_eq]
  generalize (lg_sl [.ref (gB E + za0)] ++ List.replicate (1 - (lg_sl [.ref (gB E + za0)]).length) Slot.unset).toArray = ls at hl ⊢
  have hl : lv_has ls 1 [(0, .ref (gB E + za0))] := hl
  unfold f_X12_jobs at hf
  refine lv_aload_n hx hb dX12_jobs_0 rfl (lv_at hl 0 rfl) ?_
  obtain ⟨zt1, qzt1, hf⟩ := gb_el hf
  refine gx_getR X hw qzt1 clX12 (by decide) mf_X12_83 dX12_jobs_1 ?_
  refine lv_sipush (v := 473) hx hb dX12_jobs_4 (by decide) ?_
  obtain ⟨zt2, qzt2, hf⟩ := gb_el hf
  refine gx_iald X hw qzt2 dX12_jobs_7 ?_
  exact gx_iret X hr hlk hw hf dX12_jobs_8
abbrev rm_X12_jobOf : Room := { frames := 0, cells := 0, slots := 0, locals := 0 }
set_option maxHeartbeats 4000000 in
set_option maxRecDepth 100000 in
theorem c_X12_jobOf (l : Launch) (E : gE) (N : Nat) (za0 : Nat) (za1 : Int32) (za2 : Int32) (zh : PH) {h9 : PH} {r9 : Int32} (hf : f_X12_jobOf N za0 za1 za2 zh = some (r9, h9)) : Met l yX12_jobOf (gWS yX12_jobOf cX12_jobOf 3 (some .int)) rm_X12_jobOf (gPc E [.ref (gB E + za0), .int za1, .int za2] zh) (gQi E r9 h9) 0 0 (gA E) := by
  refine gx_met (by decide) ?_ rfl
  intro p e s m below meth c X hr hlk hin2 hw
  have hx := X.1.1
  have hb := X.1.2.1
  have hl := lv_entry [.ref (gB E + za0), .int za1, .int za2] (n := 3) (Nat.le_of_ble_eq_true rfl)
  rw [lg_entry_eq]
  generalize (lg_sl [.ref (gB E + za0), .int za1, .int za2] ++ List.replicate (3 - (lg_sl [.ref (gB E + za0), .int za1, .int za2]).length) Slot.unset).toArray = ls at hl ⊢
  have hl : lv_has ls 3 [(0, .ref (gB E + za0)), (1, .int za1), (2, .int za2)] := hl
  unfold f_X12_jobOf at hf
  refine lv_aload_n hx hb dX12_jobOf_0 rfl (lv_at hl 0 rfl) ?_
  obtain ⟨zt1, qzt1, hf⟩ := gb_el hf
  refine gx_getR X hw qzt1 clX12 (by decide) mf_X12_83 dX12_jobOf_1 ?_
  refine lv_sipush (v := 474) hx hb dX12_jobOf_4 (by decide) ?_
  refine lv_iconst (v := 3) hx hb dX12_jobOf_7 (by decide) ?_
  refine lv_iload_n hx hb dX12_jobOf_8 rfl (lv_at hl 1 rfl) ?_
  refine lv_imul hx hb dX12_jobOf_9 ?_
  refine lv_iadd hx hb dX12_jobOf_10 ?_
  refine lv_iload_n hx hb dX12_jobOf_11 rfl (lv_at hl 2 rfl) ?_
  refine lv_iadd hx hb dX12_jobOf_12 ?_
  refine W.eq (g2 := F0 m 13 ls [.int ((474 + (3 * za1)) + za2), .ref (gB E + zt1)]) rfl ?_
  obtain ⟨zt2, qzt2, hf⟩ := gb_el hf
  refine gx_iald X hw qzt2 dX12_jobOf_13 ?_
  exact gx_iret X hr hlk hw hf dX12_jobOf_14
abbrev rm_X12_job : Room := { frames := 1, cells := 0, slots := 0, locals := 22 }
set_option maxHeartbeats 4000000 in
set_option maxRecDepth 100000 in
theorem c_X12_job (l : Launch) (E : gE) (N : Nat) (za0 : Nat) (za1 : Int32) (za2 : Int32) (za3 : Int32) (zh : PH) {h9 : PH} {r9 : Int32} (hf : f_X12_job N za0 za1 za2 za3 zh = some (r9, h9)) : Met l yX12_job (gWS yX12_job cX12_job 5 (some .int)) rm_X12_job (gPc E [.ref (gB E + za0), .int za1, .int za2, .int za3] zh) (gQi E r9 h9) 0 0 (gA E) := by
  refine gx_met (by decide) ?_ rfl
  intro p e s m below meth c X hr hlk hin2 hw
  have hx := X.1.1
  have hb := X.1.2.1
  have hl := lv_entry [.ref (gB E + za0), .int za1, .int za2, .int za3] (n := 5) (Nat.le_of_ble_eq_true rfl)
  rw [lg_entry_eq]
  generalize (lg_sl [.ref (gB E + za0), .int za1, .int za2, .int za3] ++ List.replicate (5 - (lg_sl [.ref (gB E + za0), .int za1, .int za2, .int za3]).length) Slot.unset).toArray = ls at hl ⊢
  have hl : lv_has ls 5 [(0, .ref (gB E + za0)), (1, .int za1), (2, .int za2), (3, .int za3)] := hl
  have J_44 : ∀ (zh : PH) (H : Heap) (locs : List Loc) (ls : Array Slot), f_X12_job_44 N zh = some (r9, h9) → gw E s zh H locs → lv_has ls 5 [] → W p l e rm_X12_job s m [.ref (gB E + za0), .int za1, .int za2, .int za3].toArray below meth c H locs 0 0 (MQ below (gQi E r9 h9) [.ref (gB E + za0), .int za1, .int za2, .int za3].toArray s 0 0 (gA E)) (F0 m 44 ls []) := by
    intro zh H locs ls hf hw hl
    unfold f_X12_job_44 at hf
    refine lv_iconst (v := (-1)) hx hb dX12_job_44 (by decide) ?_
    exact gx_iret X hr hlk hw hf dX12_job_45
  unfold f_X12_job at hf
  refine lv_aload_n hx hb dX12_job_0 rfl (lv_at hl 0 rfl) ?_
  refine lv_iconst (v := 0) hx hb dX12_job_1 (by decide) ?_
  obtain ⟨zh1, qzh1, hf⟩ := gb_el hf
  refine gx_putV X hw qzh1 clX12 (by decide) mf_X12_1 rfl rfl rfl dX12_job_2 (fun H locs hw => ?_)
  refine lv_iload_n hx hb dX12_job_5 rfl (lv_at hl 1 rfl) ?_
  refine lv_iconst (v := 0) hx hb dX12_job_6 (by decide) ?_
  refine lv_bipush (v := 99) hx hb dX12_job_7 (by decide) ?_
  obtain ⟨zt3, zh2, qzh2, hf⟩ := gc_el hf
  refine gx_ki (gx_runS (As := [.int za1, .int 0, .int 99]) (rest := []) X hw (c_X12_within l E N za1 0 99 zh1 qzh2) kX12_within mm_X12_304 ⟨Nat.le_of_ble_eq_true rfl, Nat.le_of_ble_eq_true rfl⟩ rfl rfl rfl hl.1 (Nat.le_of_ble_eq_true rfl) rfl dX12_job_9 ⟨Nat.le_of_ble_eq_true rfl, Nat.le_of_ble_eq_true rfl⟩) hw (fun H locs hw => ?_)
  refine lv_if_eq (tgt := 44) hx hb dX12_job_12 (by decide) (fun qc4 => ?_) (fun qc4 => ?_)
  · have hf := gif_t hf qc4
    exact J_44  _ _ _ ls hf hw (lv_sub hl [] rfl)
  · have hf := gif_f hf qc4
    refine lv_iload_n hx hb dX12_job_15 rfl (lv_at hl 2 rfl) ?_
    refine W.eq (g2 := F0 m 16 ls [.int za2]) rfl ?_
    refine lv_iconst (v := 1) hx hb dX12_job_16 (by decide) ?_
    refine lv_bipush (v := 99) hx hb dX12_job_17 (by decide) ?_
    obtain ⟨zt6, zh5, qzh5, hf⟩ := gc_el hf
    refine gx_ki (gx_runS (As := [.int za2, .int 1, .int 99]) (rest := []) X hw (c_X12_within l E N za2 1 99 zh2 qzh5) kX12_within mm_X12_304 ⟨Nat.le_of_ble_eq_true rfl, Nat.le_of_ble_eq_true rfl⟩ rfl rfl rfl hl.1 (Nat.le_of_ble_eq_true rfl) rfl dX12_job_19 ⟨Nat.le_of_ble_eq_true rfl, Nat.le_of_ble_eq_true rfl⟩) hw (fun H locs hw => ?_)
    refine lv_if_eq (tgt := 44) hx hb dX12_job_22 (by decide) (fun qc7 => ?_) (fun qc7 => ?_)
    · have hf := gif_t hf qc7
      exact J_44  _ _ _ ls hf hw (lv_sub hl [] rfl)
    · have hf := gif_f hf qc7
      refine lv_iload_n hx hb dX12_job_25 rfl (lv_at hl 3 rfl) ?_
      refine lv_iconst (v := 0) hx hb dX12_job_26 (by decide) ?_
      refine lv_bipush (v := 99) hx hb dX12_job_27 (by decide) ?_
      obtain ⟨zt9, zh8, qzh8, hf⟩ := gc_el hf
      refine gx_ki (gx_runS (As := [.int za3, .int 0, .int 99]) (rest := []) X hw (c_X12_within l E N za3 0 99 zh5 qzh8) kX12_within mm_X12_304 ⟨Nat.le_of_ble_eq_true rfl, Nat.le_of_ble_eq_true rfl⟩ rfl rfl rfl hl.1 (Nat.le_of_ble_eq_true rfl) rfl dX12_job_29 ⟨Nat.le_of_ble_eq_true rfl, Nat.le_of_ble_eq_true rfl⟩) hw (fun H locs hw => ?_)
      refine lv_if_eq (tgt := 44) hx hb dX12_job_32 (by decide) (fun qc10 => ?_) (fun qc10 => ?_)
      · have hf := gif_t hf qc10
        exact J_44  _ _ _ ls hf hw (lv_sub hl [] rfl)
      · have hf := gif_f hf qc10
        refine lv_aload_n hx hb dX12_job_35 rfl (lv_at hl 0 rfl) ?_
        refine W.eq (g2 := F0 m 36 ls [.ref (gB E + za0)]) rfl ?_
        obtain ⟨qizh11, hf⟩ := gg_el hf
        obtain ⟨zt12, zh11, qzh11, hf⟩ := gc_el hf
        refine gx_ki (gx_runV (As := []) (rest := []) X hw (c_X12_jobs l E N za0 zh8 qzh11) kX12_jobs mm_X12_382 qizh11 clX12 ⟨Nat.le_of_ble_eq_true rfl, Nat.le_of_ble_eq_true rfl⟩ rfl rfl rfl hl.1 (Nat.le_of_ble_eq_true rfl) rfl dX12_job_36 ⟨Nat.le_of_ble_eq_true rfl, Nat.le_of_ble_eq_true rfl⟩) hw (fun H locs hw => ?_)
        refine lv_bipush (v := 7) hx hb dX12_job_39 (by decide) ?_
        refine lv_icmp_ne (tgt := 46) hx hb dX12_job_41 (by decide) (fun qc13 => ?_) (fun qc13 => ?_)
        · have hf := gif_f hf qc13
          refine lv_sipush (v := 474) hx hb dX12_job_46 (by decide) ?_
          refine lv_iconst (v := 3) hx hb dX12_job_49 (by decide) ?_
          refine lv_aload_n hx hb dX12_job_50 rfl (lv_at hl 0 rfl) ?_
          obtain ⟨qizh14, hf⟩ := gg_el hf
          obtain ⟨zt15, zh14, qzh14, hf⟩ := gc_el hf
          refine gx_ki (gx_runV (As := []) (rest := [.int 3, .int 474]) X hw (c_X12_jobs l E N za0 zh11 qzh14) kX12_jobs mm_X12_382 qizh14 clX12 ⟨Nat.le_of_ble_eq_true rfl, Nat.le_of_ble_eq_true rfl⟩ rfl rfl rfl hl.1 (Nat.le_of_ble_eq_true rfl) rfl dX12_job_51 ⟨Nat.le_of_ble_eq_true rfl, Nat.le_of_ble_eq_true rfl⟩) hw (fun H locs hw => ?_)
          refine lv_imul hx hb dX12_job_54 ?_
          refine lv_iadd hx hb dX12_job_55 ?_
          refine lv_topi (fun zx16 ezx16 => ?_)
          have hf := gl_el hf ezx16
          refine lv_istore (lv' := [(4, .int zx16), (0, .ref (gB E + za0)), (1, .int za1), (2, .int za2), (3, .int za3)]) hx hb dX12_job_56 hl (by decide) rfl (fun ls hl => ?_)
          refine W.eq (g2 := F0 m 58 ls []) rfl ?_
          refine lv_aload_n hx hb dX12_job_58 rfl (lv_at hl 1 rfl) ?_
          obtain ⟨zt17, qzt17, hf⟩ := gb_el hf
          refine gx_getR X hw qzt17 clX12 (by decide) mf_X12_83 dX12_job_59 ?_
          refine lv_iload hx hb dX12_job_62 (lv_at hl 0 rfl) ?_
          refine lv_iload_n hx hb dX12_job_64 rfl (lv_at hl 2 rfl) ?_
          obtain ⟨zh18, qzh18, hf⟩ := gb_el hf
          refine gx_iast X hw qzh18 dX12_job_65 (fun H locs hw => ?_)
          refine lv_aload_n hx hb dX12_job_66 rfl (lv_at hl 1 rfl) ?_
          obtain ⟨zt19, qzt19, hf⟩ := gb_el hf
          refine gx_getR X hw qzt19 clX12 (by decide) mf_X12_83 dX12_job_67 ?_
          refine lv_iload hx hb dX12_job_70 (lv_at hl 0 rfl) ?_
          refine lv_iconst (v := 1) hx hb dX12_job_72 (by decide) ?_
          refine lv_iadd hx hb dX12_job_73 ?_
          refine W.eq (g2 := F0 m 74 ls [.int (zx16 + 1), .ref (gB E + zt19)]) rfl ?_
          refine lv_iload_n hx hb dX12_job_74 rfl (lv_at hl 3 rfl) ?_
          obtain ⟨zh20, qzh20, hf⟩ := gb_el hf
          refine gx_iast X hw qzh20 dX12_job_75 (fun H locs hw => ?_)
          refine lv_aload_n hx hb dX12_job_76 rfl (lv_at hl 1 rfl) ?_
          obtain ⟨zt21, qzt21, hf⟩ := gb_el hf
          refine gx_getR X hw qzt21 clX12 (by decide) mf_X12_83 dX12_job_77 ?_
          refine lv_iload hx hb dX12_job_80 (lv_at hl 0 rfl) ?_
          refine lv_iconst (v := 2) hx hb dX12_job_82 (by decide) ?_
          refine lv_iadd hx hb dX12_job_83 ?_
          refine lv_iload_n hx hb dX12_job_84 rfl (lv_at hl 4 rfl) ?_
          obtain ⟨zh22, qzh22, hf⟩ := gb_el hf
          refine gx_iast X hw qzh22 dX12_job_85 (fun H locs hw => ?_)
          refine lv_aload_n hx hb dX12_job_86 rfl (lv_at hl 1 rfl) ?_
          refine W.eq (g2 := F0 m 87 ls [.ref (gB E + za0)]) rfl ?_
          obtain ⟨zt23, qzt23, hf⟩ := gb_el hf
          refine gx_getR X hw qzt23 clX12 (by decide) mf_X12_83 dX12_job_87 ?_
          refine lv_sipush (v := 473) hx hb dX12_job_90 (by decide) ?_
          refine lv_dup2_11 hx hb dX12_job_93 rfl rfl ?_
          obtain ⟨zt24, qzt24, hf⟩ := gb_el hf
          refine gx_iald X hw qzt24 dX12_job_94 ?_
          refine lv_iconst (v := 1) hx hb dX12_job_95 (by decide) ?_
          refine lv_iadd hx hb dX12_job_96 ?_
          obtain ⟨zh25, qzh25, hf⟩ := gb_el hf
          refine gx_iast X hw qzh25 dX12_job_97 (fun H locs hw => ?_)
          refine lv_aload_n hx hb dX12_job_98 rfl (lv_at hl 1 rfl) ?_
          obtain ⟨qizh26, hf⟩ := gg_el hf
          obtain ⟨zt27, zh26, qzh26, hf⟩ := gc_el hf
          refine gx_ki (gx_runV (As := []) (rest := []) X hw (c_X12_jobs l E N za0 zh25 qzh26) kX12_jobs mm_X12_382 qizh26 clX12 ⟨Nat.le_of_ble_eq_true rfl, Nat.le_of_ble_eq_true rfl⟩ rfl rfl rfl hl.1 (Nat.le_of_ble_eq_true rfl) rfl dX12_job_99 ⟨Nat.le_of_ble_eq_true rfl, Nat.le_of_ble_eq_true rfl⟩) hw (fun H locs hw => ?_)
          exact gx_iret X hr hlk hw hf dX12_job_102
        · have hf := gif_t hf qc13
          exact J_44  _ _ _ ls hf hw (lv_sub hl [] rfl)
abbrev rm_X12_doneBy : Room := { frames := 1, cells := 0, slots := 0, locals := 22 }
set_option maxHeartbeats 4000000 in
set_option maxRecDepth 100000 in
theorem c_X12_doneBy (l : Launch) (E : gE) (N : Nat) (za0 : Nat) (za1 : Nat) (zh : PH) {h9 : PH} {r9 : Int32} (hf : f_X12_doneBy N za0 za1 zh = some (r9, h9)) : Met l yX12_doneBy (gWS yX12_doneBy cX12_doneBy 7 (some .int)) rm_X12_doneBy (gPc E [.ref (gB E + za0), .ref (gB E + za1)] zh) (gQi E r9 h9) 0 0 (gA E) := by
  refine gx_met (by decide) ?_ rfl
  intro p e s m below meth c X hr hlk hin2 hw
  have hx := X.1.1
  have hb := X.1.2.1
  have hl := lv_entry [.ref (gB E + za0), .ref (gB E + za1)] (n := 7) (Nat.le_of_ble_eq_true rfl)
  rw [lg_entry_eq]
  generalize (lg_sl [.ref (gB E + za0), .ref (gB E + za1)] ++ List.replicate (7 - (lg_sl [.ref (gB E + za0), .ref (gB E + za1)]).length) Slot.unset).toArray = ls at hl ⊢
  have hl : lv_has ls 7 [(0, .ref (gB E + za0)), (1, .ref (gB E + za1))] := hl
  have L_12 : ∀ (zn12 : Nat) (zv0 : Nat) (zv1 : Nat) (zv2 : Int32) (zv3 : Int32) (zv4 : Int32) (zh : PH) (H : Heap) (locs : List Loc) (ls : Array Slot), gi (fun zk zs => f_X12_doneBy_12 N zk zs.1 zs.2.1 zs.2.2.1 zs.2.2.2.1 zs.2.2.2.2.1 zs.2.2.2.2.2) zn12 (zv0, zv1, zv2, zv3, zv4, zh) = some (r9, h9) → gw E s zh H locs → lv_has ls 7 [(0, .ref (gB E + zv0)), (1, .ref (gB E + zv1)), (2, .int zv2), (3, .int zv3), (4, .int zv4)] → W p l e rm_X12_doneBy s m [.ref (gB E + za0), .ref (gB E + za1)].toArray below meth c H locs 0 0 (MQ below (gQi E r9 h9) [.ref (gB E + za0), .ref (gB E + za1)].toArray s 0 0 (gA E)) (F0 m 12 ls []) := by
    intro zn12
    induction zn12 with
    | zero =>
      intro zv0 zv1 zv2 zv3 zv4 zh H locs ls hf
      cases hf
    | succ zn12 ih_12 =>
      have J_136 : ∀ (zv0 : Nat) (zv1 : Nat) (zv2 : Int32) (zv4 : Int32) (zs0 : Int32) (zh : PH) (H : Heap) (locs : List Loc) (ls : Array Slot), f_X12_doneBy_136 N (gi (fun zk zs => f_X12_doneBy_12 N zk zs.1 zs.2.1 zs.2.2.1 zs.2.2.2.1 zs.2.2.2.2.1 zs.2.2.2.2.2) zn12) zv0 zv1 zv2 zv4 zs0 zh = some (r9, h9) → gw E s zh H locs → lv_has ls 7 [(0, .ref (gB E + zv0)), (1, .ref (gB E + zv1)), (2, .int zv2), (4, .int zv4)] → W p l e rm_X12_doneBy s m [.ref (gB E + za0), .ref (gB E + za1)].toArray below meth c H locs 0 0 (MQ below (gQi E r9 h9) [.ref (gB E + za0), .ref (gB E + za1)].toArray s 0 0 (gA E)) (F0 m 136 ls [.int zs0]) := by
        intro zv0 zv1 zv2 zv4 zs0 zh H locs ls hf hw hl
        unfold f_X12_doneBy_136 at hf
        refine lv_istore_n (lv' := [(3, .int zs0), (0, .ref (gB E + zv0)), (1, .ref (gB E + zv1)), (2, .int zv2), (4, .int zv4)]) hx hb dX12_doneBy_136 rfl hl (by decide) rfl (fun ls hl => ?_)
        obtain ⟨zx1, ezx1⟩ : ∃ y : Int32, y = zv4 + 1 := ⟨_, rfl⟩
        have hf := gl_el hf ezx1
        refine lv_iinc (v := zx1) (lv' := [(4, .int zx1), (3, .int zs0), (0, .ref (gB E + zv0)), (1, .ref (gB E + zv1)), (2, .int zv2)]) hx hb dX12_doneBy_137 hl (k := 4) rfl (by rw [ezx1]; rfl) (by decide) rfl (fun ls hl => ?_)
        refine lv_goto (tgt := 12) hx hb dX12_doneBy_140 (by decide) ?_
        exact ih_12 zv0 zv1 zv2 zs0 zx1 _ _ _ ls hf hw (lv_sub hl [2, 3, 4, 1, 0] rfl)
      have J_49 : ∀ (zv0 : Nat) (zv1 : Nat) (zv3 : Int32) (zv4 : Int32) (zv5 : Int32) (zs0 : Int32) (zh : PH) (H : Heap) (locs : List Loc) (ls : Array Slot), f_X12_doneBy_49 N (gi (fun zk zs => f_X12_doneBy_12 N zk zs.1 zs.2.1 zs.2.2.1 zs.2.2.2.1 zs.2.2.2.2.1 zs.2.2.2.2.2) zn12) zv0 zv1 zv3 zv4 zv5 zs0 zh = some (r9, h9) → gw E s zh H locs → lv_has ls 7 [(0, .ref (gB E + zv0)), (1, .ref (gB E + zv1)), (3, .int zv3), (4, .int zv4), (5, .int zv5)] → W p l e rm_X12_doneBy s m [.ref (gB E + za0), .ref (gB E + za1)].toArray below meth c H locs 0 0 (MQ below (gQi E r9 h9) [.ref (gB E + za0), .ref (gB E + za1)].toArray s 0 0 (gA E)) (F0 m 49 ls [.int zs0]) := by
        intro zv0 zv1 zv3 zv4 zv5 zs0 zh H locs ls hf hw hl
        unfold f_X12_doneBy_49 at hf
        refine lv_istore (lv' := [(6, .int zs0), (0, .ref (gB E + zv0)), (1, .ref (gB E + zv1)), (3, .int zv3), (4, .int zv4), (5, .int zv5)]) hx hb dX12_doneBy_49 hl (by decide) rfl (fun ls hl => ?_)
        refine lv_aload_n hx hb dX12_doneBy_51 rfl (lv_at hl 1 rfl) ?_
        refine lv_dup hx hb dX12_doneBy_52 rfl ?_
        obtain ⟨zt1, qzt1, hf⟩ := gb_el hf
        refine gx_getI X hw qzt1 clX12 (by decide) mf_X12_385 dX12_doneBy_53 ?_
        refine lv_iload hx hb dX12_doneBy_56 (lv_at hl 0 rfl) ?_
        refine lv_aload_n hx hb dX12_doneBy_58 rfl (lv_at hl 1 rfl) ?_
        refine lv_iload hx hb dX12_doneBy_59 (lv_at hl 5 rfl) ?_
        refine lv_iconst (v := 0) hx hb dX12_doneBy_61 (by decide) ?_
        obtain ⟨qizh2, hf⟩ := gg_el hf
        obtain ⟨zt3, zh2, qzh2, hf⟩ := gc_el hf
        refine gx_ki (gx_runV (As := [.int zv5, .int 0]) (rest := [.int zs0, .int zt1, .ref (gB E + zv0)]) X hw (c_X12_jobOf l E N zv0 zv5 0 zh qzh2) kX12_jobOf mm_X12_388 qizh2 clX12 ⟨Nat.le_of_ble_eq_true rfl, Nat.le_of_ble_eq_true rfl⟩ rfl rfl rfl hl.1 (Nat.le_of_ble_eq_true rfl) rfl dX12_doneBy_62 ⟨Nat.le_of_ble_eq_true rfl, Nat.le_of_ble_eq_true rfl⟩) hw (fun H locs hw => ?_)
        refine W.eq (g2 := F0 m 65 ls [.int zt3, .int zs0, .int zt1, .ref (gB E + zv0)]) rfl ?_
        refine lv_isub hx hb dX12_doneBy_65 ?_
        refine lv_iadd hx hb dX12_doneBy_66 ?_
        obtain ⟨zh4, qzh4, hf⟩ := gb_el hf
        refine gx_putV X hw qzh4 clX12 (by decide) mf_X12_385 rfl rfl rfl dX12_doneBy_67 (fun H locs hw => ?_)
        refine lv_iload hx hb dX12_doneBy_70 (lv_at hl 0 rfl) ?_
        refine lv_aload_n hx hb dX12_doneBy_72 rfl (lv_at hl 1 rfl) ?_
        refine lv_iload hx hb dX12_doneBy_73 (lv_at hl 5 rfl) ?_
        refine lv_iconst (v := 1) hx hb dX12_doneBy_75 (by decide) ?_
        obtain ⟨qizh5, hf⟩ := gg_el hf
        obtain ⟨zt6, zh5, qzh5, hf⟩ := gc_el hf
        refine gx_ki (gx_runV (As := [.int zv5, .int 1]) (rest := [.int zs0]) X hw (c_X12_jobOf l E N zv0 zv5 1 zh4 qzh5) kX12_jobOf mm_X12_388 qizh5 clX12 ⟨Nat.le_of_ble_eq_true rfl, Nat.le_of_ble_eq_true rfl⟩ rfl rfl rfl hl.1 (Nat.le_of_ble_eq_true rfl) rfl dX12_doneBy_76 ⟨Nat.le_of_ble_eq_true rfl, Nat.le_of_ble_eq_true rfl⟩) hw (fun H locs hw => ?_)
        refine lv_iadd hx hb dX12_doneBy_79 ?_
        refine lv_topi (fun zx7 ezx7 => ?_)
        have hf := gl_el hf ezx7
        refine lv_istore_n (lv' := [(2, .int zx7), (6, .int zs0), (0, .ref (gB E + zv0)), (1, .ref (gB E + zv1)), (3, .int zv3), (4, .int zv4), (5, .int zv5)]) hx hb dX12_doneBy_80 rfl hl (by decide) rfl (fun ls hl => ?_)
        refine W.eq (g2 := F0 m 81 ls []) rfl ?_
        refine lv_aload_n hx hb dX12_doneBy_81 rfl (lv_at hl 2 rfl) ?_
        obtain ⟨zt8, qzt8, hf⟩ := gb_el hf
        refine gx_getR X hw qzt8 clX12 (by decide) mf_X12_111 dX12_doneBy_82 ?_
        refine lv_iload hx hb dX12_doneBy_85 (lv_at hl 6 rfl) ?_
        refine lv_iload hx hb dX12_doneBy_87 (lv_at hl 1 rfl) ?_
        refine lv_aload_n hx hb dX12_doneBy_89 rfl (lv_at hl 2 rfl) ?_
        refine lv_iload hx hb dX12_doneBy_90 (lv_at hl 6 rfl) ?_
        refine lv_iconst (v := 0) hx hb dX12_doneBy_92 (by decide) ?_
        obtain ⟨qizh9, hf⟩ := gg_el hf
        obtain ⟨zt10, zh9, qzh9, hf⟩ := gc_el hf
        refine gx_ki (gx_runV (As := [.int zv5, .int 0]) (rest := [.int zs0, .int zv5, .ref (gB E + zt8)]) X hw (c_X12_jobOf l E N zv0 zv5 0 zh5 qzh9) kX12_jobOf mm_X12_388 qizh9 clX12 ⟨Nat.le_of_ble_eq_true rfl, Nat.le_of_ble_eq_true rfl⟩ rfl rfl rfl hl.1 (Nat.le_of_ble_eq_true rfl) rfl dX12_doneBy_93 ⟨Nat.le_of_ble_eq_true rfl, Nat.le_of_ble_eq_true rfl⟩) hw (fun H locs hw => ?_)
        refine lv_isub hx hb dX12_doneBy_96 ?_
        obtain ⟨zh11, qzh11, hf⟩ := gb_el hf
        refine gx_iast X hw qzh11 dX12_doneBy_97 (fun H locs hw => ?_)
        refine W.eq (g2 := F0 m 98 ls []) rfl ?_
        refine lv_aload_n hx hb dX12_doneBy_98 rfl (lv_at hl 2 rfl) ?_
        obtain ⟨zt12, qzt12, hf⟩ := gb_el hf
        refine gx_getR X hw qzt12 clX12 (by decide) mf_X12_114 dX12_doneBy_99 ?_
        refine lv_iload hx hb dX12_doneBy_102 (lv_at hl 6 rfl) ?_
        refine lv_iload_n hx hb dX12_doneBy_104 rfl (lv_at hl 0 rfl) ?_
        refine lv_aload_n hx hb dX12_doneBy_105 rfl (lv_at hl 2 rfl) ?_
        refine lv_iload hx hb dX12_doneBy_106 (lv_at hl 6 rfl) ?_
        refine lv_iconst (v := 2) hx hb dX12_doneBy_108 (by decide) ?_
        obtain ⟨qizh13, hf⟩ := gg_el hf
        obtain ⟨zt14, zh13, qzh13, hf⟩ := gc_el hf
        refine gx_ki (gx_runV (As := [.int zv5, .int 2]) (rest := [.int zx7, .int zv5, .ref (gB E + zt12)]) X hw (c_X12_jobOf l E N zv0 zv5 2 zh11 qzh13) kX12_jobOf mm_X12_388 qizh13 clX12 ⟨Nat.le_of_ble_eq_true rfl, Nat.le_of_ble_eq_true rfl⟩ rfl rfl rfl hl.1 (Nat.le_of_ble_eq_true rfl) rfl dX12_doneBy_109 ⟨Nat.le_of_ble_eq_true rfl, Nat.le_of_ble_eq_true rfl⟩) hw (fun H locs hw => ?_)
        refine lv_iadd hx hb dX12_doneBy_112 ?_
        obtain ⟨zh15, qzh15, hf⟩ := gb_el hf
        refine gx_iast X hw qzh15 dX12_doneBy_113 (fun H locs hw => ?_)
        refine W.eq (g2 := F0 m 114 ls []) rfl ?_
        refine lv_aload_n hx hb dX12_doneBy_114 rfl (lv_at hl 2 rfl) ?_
        obtain ⟨zt16, qzt16, hf⟩ := gb_el hf
        refine gx_getR X hw qzt16 clX12 (by decide) mf_X12_114 dX12_doneBy_115 ?_
        refine lv_iload hx hb dX12_doneBy_118 (lv_at hl 6 rfl) ?_
        obtain ⟨zt17, qzt17, hf⟩ := gb_el hf
        refine gx_iald X hw qzt17 dX12_doneBy_120 ?_
        refine lv_iload_n hx hb dX12_doneBy_121 rfl (lv_at hl 4 rfl) ?_
        refine lv_icmp_le (tgt := 135) hx hb dX12_doneBy_122 (by decide) (fun qc18 => ?_) (fun qc18 => ?_)
        · have hf := gif_t hf qc18
          refine lv_iload_n hx hb dX12_doneBy_135 rfl (lv_at hl 4 rfl) ?_
          exact J_136 zv0 zv1 zx7 zv4 zv3 _ _ _ ls hf hw (lv_sub hl [2, 3, 0, 5] rfl)
        · have hf := gif_f hf qc18
          refine lv_aload_n hx hb dX12_doneBy_125 rfl (lv_at hl 2 rfl) ?_
          obtain ⟨zt19, qzt19, hf⟩ := gb_el hf
          refine gx_getR X hw qzt19 clX12 (by decide) mf_X12_114 dX12_doneBy_126 ?_
          refine lv_iload hx hb dX12_doneBy_129 (lv_at hl 6 rfl) ?_
          obtain ⟨zt20, qzt20, hf⟩ := gb_el hf
          refine gx_iald X hw qzt20 dX12_doneBy_131 ?_
          refine W.eq (g2 := F0 m 132 ls [.int zt20]) rfl ?_
          refine lv_goto (tgt := 136) hx hb dX12_doneBy_132 (by decide) ?_
          exact J_136 zv0 zv1 zx7 zv4 zt20 _ _ _ ls hf hw (lv_sub hl [2, 3, 0, 5] rfl)
      intro zv0 zv1 zv2 zv3 zv4 zh H locs ls hf hw hl
      have hf := gi_s hf
      dsimp only at hf
      unfold f_X12_doneBy_12 at hf
      refine lv_iload hx hb dX12_doneBy_12 (lv_at hl 4 rfl) ?_
      refine lv_aload_n hx hb dX12_doneBy_14 rfl (lv_at hl 0 rfl) ?_
      obtain ⟨qizh1, hf⟩ := gg_el hf
      obtain ⟨zt2, zh1, qzh1, hf⟩ := gc_el hf
      refine gx_ki (gx_runV (As := []) (rest := [.int zv4]) X hw (c_X12_jobs l E N zv0 zh qzh1) kX12_jobs mm_X12_382 qizh1 clX12 ⟨Nat.le_of_ble_eq_true rfl, Nat.le_of_ble_eq_true rfl⟩ rfl rfl rfl hl.1 (Nat.le_of_ble_eq_true rfl) rfl dX12_doneBy_15 ⟨Nat.le_of_ble_eq_true rfl, Nat.le_of_ble_eq_true rfl⟩) hw (fun H locs hw => ?_)
      refine lv_icmp_ge (tgt := 143) hx hb dX12_doneBy_18 (by decide) (fun qc3 => ?_) (fun qc3 => ?_)
      · have hf := gif_t hf qc3
        refine lv_iload_n hx hb dX12_doneBy_143 rfl (lv_at hl 3 rfl) ?_
        exact gx_iret X hr hlk hw hf dX12_doneBy_144
      · have hf := gif_f hf qc3
        refine lv_aload_n hx hb dX12_doneBy_21 rfl (lv_at hl 1 rfl) ?_
        refine lv_iload hx hb dX12_doneBy_22 (lv_at hl 4 rfl) ?_
        obtain ⟨zt4, qzt4, hf⟩ := gb_el hf
        refine gx_iald X hw qzt4 dX12_doneBy_24 ?_
        refine lv_istore (lv' := [(5, .int zt4), (0, .ref (gB E + zv0)), (1, .ref (gB E + zv1)), (2, .int zv2), (3, .int zv3), (4, .int zv4)]) hx hb dX12_doneBy_25 hl (by decide) rfl (fun ls hl => ?_)
        refine lv_iload_n hx hb dX12_doneBy_27 rfl (lv_at hl 3 rfl) ?_
        refine W.eq (g2 := F0 m 28 ls [.int zv2]) rfl ?_
        refine lv_aload_n hx hb dX12_doneBy_28 rfl (lv_at hl 1 rfl) ?_
        refine lv_iload hx hb dX12_doneBy_29 (lv_at hl 0 rfl) ?_
        refine lv_iconst (v := 0) hx hb dX12_doneBy_31 (by decide) ?_
        obtain ⟨qizh5, hf⟩ := gg_el hf
        obtain ⟨zt6, zh5, qzh5, hf⟩ := gc_el hf
        refine gx_ki (gx_runV (As := [.int zt4, .int 0]) (rest := [.int zv2]) X hw (c_X12_jobOf l E N zv0 zt4 0 zh1 qzh5) kX12_jobOf mm_X12_388 qizh5 clX12 ⟨Nat.le_of_ble_eq_true rfl, Nat.le_of_ble_eq_true rfl⟩ rfl rfl rfl hl.1 (Nat.le_of_ble_eq_true rfl) rfl dX12_doneBy_32 ⟨Nat.le_of_ble_eq_true rfl, Nat.le_of_ble_eq_true rfl⟩) hw (fun H locs hw => ?_)
        refine lv_icmp_ge (tgt := 48) hx hb dX12_doneBy_35 (by decide) (fun qc7 => ?_) (fun qc7 => ?_)
        · have hf := gif_t hf qc7
          refine lv_iload_n hx hb dX12_doneBy_48 rfl (lv_at hl 3 rfl) ?_
          exact J_49 zv0 zv1 zv3 zv4 zt4 zv2 _ _ _ ls hf hw (lv_sub hl [1, 2, 4, 5, 0] rfl)
        · have hf := gif_f hf qc7
          refine lv_aload_n hx hb dX12_doneBy_38 rfl (lv_at hl 1 rfl) ?_
          refine lv_iload hx hb dX12_doneBy_39 (lv_at hl 0 rfl) ?_
          refine lv_iconst (v := 0) hx hb dX12_doneBy_41 (by decide) ?_
          obtain ⟨qizh8, hf⟩ := gg_el hf
          obtain ⟨zt9, zh8, qzh8, hf⟩ := gc_el hf
          refine gx_ki (gx_runV (As := [.int zt4, .int 0]) (rest := []) X hw (c_X12_jobOf l E N zv0 zt4 0 zh5 qzh8) kX12_jobOf mm_X12_388 qizh8 clX12 ⟨Nat.le_of_ble_eq_true rfl, Nat.le_of_ble_eq_true rfl⟩ rfl rfl rfl hl.1 (Nat.le_of_ble_eq_true rfl) rfl dX12_doneBy_42 ⟨Nat.le_of_ble_eq_true rfl, Nat.le_of_ble_eq_true rfl⟩) hw (fun H locs hw => ?_)
          refine lv_goto (tgt := 49) hx hb dX12_doneBy_45 (by decide) ?_
          exact J_49 zv0 zv1 zv3 zv4 zt4 zt9 _ _ _ ls hf hw (lv_sub hl [1, 2, 4, 5, 0] rfl)
  unfold f_X12_doneBy at hf
  refine lv_iconst (v := 0) hx hb dX12_doneBy_0 (by decide) ?_
  refine lv_istore_n (lv' := [(2, .int 0), (0, .ref (gB E + za0)), (1, .ref (gB E + za1))]) hx hb dX12_doneBy_1 rfl hl (by decide) rfl (fun ls hl => ?_)
  refine lv_iconst (v := 0) hx hb dX12_doneBy_2 (by decide) ?_
  refine lv_istore_n (lv' := [(3, .int 0), (2, .int 0), (0, .ref (gB E + za0)), (1, .ref (gB E + za1))]) hx hb dX12_doneBy_3 rfl hl (by decide) rfl (fun ls hl => ?_)
  refine lv_aload_n hx hb dX12_doneBy_4 rfl (lv_at hl 2 rfl) ?_
  refine lv_iconst (v := 0) hx hb dX12_doneBy_5 (by decide) ?_
  obtain ⟨zh1, qzh1, hf⟩ := gb_el hf
  refine gx_putV X hw qzh1 clX12 (by decide) mf_X12_385 rfl rfl rfl dX12_doneBy_6 (fun H locs hw => ?_)
  refine lv_iconst (v := 0) hx hb dX12_doneBy_9 (by decide) ?_
  refine lv_istore (lv' := [(4, .int 0), (3, .int 0), (2, .int 0), (0, .ref (gB E + za0)), (1, .ref (gB E + za1))]) hx hb dX12_doneBy_10 hl (by decide) rfl (fun ls hl => ?_)
  exact L_12 N za0 za1 0 0 0 _ _ _ ls hf hw (lv_sub hl [3, 4, 2, 1, 0] rfl)
abbrev rm_gJ (zd : Nat) : Room := { frames := zd + 2, cells := 0, slots := 0, locals := 24 * zd + 48 }
set_option maxHeartbeats 4000000 in
set_option maxRecDepth 100000 in
theorem cg_gJ (l : Launch) (E : gE) (N : Nat) : ∀ zd : Nat, (∀ (za0 : Nat) (za1 : Int32) (za2 : Int32) (zh h9 : PH), (g_gJ N zd) za0 za1 za2 zh = some h9 → Met l yX12_triesJobs (gWS yX12_triesJobs cX12_triesJobs 5 none) (rm_gJ zd) (gPc E [.ref (gB E + za0), .int za1, .int za2] zh) (gQv E h9) 0 0 (gA E)) := by
  intro zd
  induction zd with
  | zero => exact (fun _ _ _ _ _ hf => by cases hf)
  | succ zd ih =>
    · intro za0 za1 za2 zh h9 hf
      have hf : b_X12_triesJobs N (g_gJ N zd) za0 za1 za2 zh = some h9 := hf
      refine gx_met (by decide) ?_ rfl
      intro p e s m below meth c X hr hlk hin2 hw
      have hx := X.1.1
      have hb := X.1.2.1
      have hl := lv_entry [.ref (gB E + za0), .int za1, .int za2] (n := 5) (Nat.le_of_ble_eq_true rfl)
      rw [lg_entry_eq]
      generalize (lg_sl [.ref (gB E + za0), .int za1, .int za2] ++ List.replicate (5 - (lg_sl [.ref (gB E + za0), .int za1, .int za2]).length) Slot.unset).toArray = ls at hl ⊢
      have hl : lv_has ls 5 [(0, .ref (gB E + za0)), (1, .int za1), (2, .int za2)] := hl
      have L_62 : ∀ (zn62 : Nat) (zv0 : Nat) (zv1 : Int32) (zv2 : Int32) (zv3 : Int32) (zh : PH) (H : Heap) (locs : List Loc) (ls : Array Slot), gi (fun zk zs => f_X12_triesJobs_62 N (g_gJ N zd) zk zs.1 zs.2.1 zs.2.2.1 zs.2.2.2.1 zs.2.2.2.2) zn62 (zv0, zv1, zv2, zv3, zh) = some h9 → gw E s zh H locs → lv_has ls 5 [(0, .ref (gB E + zv0)), (1, .int zv1), (2, .int zv2), (3, .int zv3)] → W p l e (rm_gJ (zd + 1)) s m [.ref (gB E + za0), .int za1, .int za2].toArray below meth c H locs 0 0 (MQ below (gQv E h9) [.ref (gB E + za0), .int za1, .int za2].toArray s 0 0 (gA E)) (F0 m 62 ls []) := by
        intro zn62
        induction zn62 with
        | zero =>
          intro zv0 zv1 zv2 zv3 zh H locs ls hf
          cases hf
        | succ zn62 ih_62 =>
          have J_97 : ∀ (zv0 : Nat) (zv1 : Int32) (zv2 : Int32) (zv3 : Int32) (zh : PH) (H : Heap) (locs : List Loc) (ls : Array Slot), f_X12_triesJobs_97 N (g_gJ N zd) (gi (fun zk zs => f_X12_triesJobs_62 N (g_gJ N zd) zk zs.1 zs.2.1 zs.2.2.1 zs.2.2.2.1 zs.2.2.2.2) zn62) zv0 zv1 zv2 zv3 zh = some h9 → gw E s zh H locs → lv_has ls 5 [(0, .ref (gB E + zv0)), (1, .int zv1), (2, .int zv2), (3, .int zv3)] → W p l e (rm_gJ (zd + 1)) s m [.ref (gB E + za0), .int za1, .int za2].toArray below meth c H locs 0 0 (MQ below (gQv E h9) [.ref (gB E + za0), .int za1, .int za2].toArray s 0 0 (gA E)) (F0 m 97 ls []) := by
            intro zv0 zv1 zv2 zv3 zh H locs ls hf hw hl
            unfold f_X12_triesJobs_97 at hf
            obtain ⟨zx1, ezx1⟩ : ∃ y : Int32, y = zv3 + 1 := ⟨_, rfl⟩
            have hf := gl_el hf ezx1
            refine lv_iinc (v := zx1) (lv' := [(3, .int zx1), (0, .ref (gB E + zv0)), (1, .int zv1), (2, .int zv2)]) hx hb dX12_triesJobs_97 hl (k := 3) rfl (by rw [ezx1]; rfl) (by decide) rfl (fun ls hl => ?_)
            refine lv_goto (tgt := 62) hx hb dX12_triesJobs_100 (by decide) ?_
            exact ih_62 zv0 zv1 zv2 zx1 _ _ _ ls hf hw (lv_sub hl [1, 2, 3, 0] rfl)
          intro zv0 zv1 zv2 zv3 zh H locs ls hf hw hl
          have hf := gi_s hf
          dsimp only at hf
          unfold f_X12_triesJobs_62 at hf
          refine lv_iload_n hx hb dX12_triesJobs_62 rfl (lv_at hl 3 rfl) ?_
          refine lv_aload_n hx hb dX12_triesJobs_63 rfl (lv_at hl 0 rfl) ?_
          obtain ⟨qizh1, hf⟩ := gg_el hf
          obtain ⟨zt2, zh1, qzh1, hf⟩ := gc_el hf
          refine gx_ki (gx_runV (As := []) (rest := [.int zv3]) X hw (c_X12_jobs l E N zv0 zh qzh1) kX12_jobs mm_X12_382 qizh1 clX12 ⟨by dsimp only [rm_gJ, rm_X12_jobs]; omega, by dsimp only [rm_gJ, rm_X12_jobs]; omega⟩ rfl rfl rfl hl.1 (Nat.le_of_ble_eq_true rfl) rfl dX12_triesJobs_64 ⟨Nat.le_of_ble_eq_true rfl, Nat.le_of_ble_eq_true rfl⟩) hw (fun H locs hw => ?_)
          refine lv_icmp_ge (tgt := 103) hx hb dX12_triesJobs_67 (by decide) (fun qc3 => ?_) (fun qc3 => ?_)
          · have hf := gif_t hf qc3
            exact gx_vret X hr hlk hw hf dX12_triesJobs_103
          · have hf := gif_f hf qc3
            refine lv_iload_n hx hb dX12_triesJobs_70 rfl (lv_at hl 2 rfl) ?_
            refine lv_iload_n hx hb dX12_triesJobs_71 rfl (lv_at hl 3 rfl) ?_
            refine lv_ishr hx hb dX12_triesJobs_72 ?_
            refine lv_iconst (v := 1) hx hb dX12_triesJobs_73 (by decide) ?_
            refine lv_iand hx hb dX12_triesJobs_74 ?_
            refine W.eq (g2 := F0 m 75 ls [.int ((zv2 >>> (zv3 &&& 31)) &&& 1)]) rfl ?_
            refine lv_if_ne (tgt := 97) hx hb dX12_triesJobs_75 (by decide) (fun qc4 => ?_) (fun qc4 => ?_)
            · have hf := gif_f hf qc4
              exact J_97 zv0 zv1 zv2 zv3 _ _ _ ls hf hw (lv_sub hl [0, 1, 2, 3] rfl)
            · have hf := gif_t hf qc4
              refine lv_aload_n hx hb dX12_triesJobs_78 rfl (lv_at hl 0 rfl) ?_
              obtain ⟨zt5, qzt5, hf⟩ := gb_el hf
              refine gx_getR X hw qzt5 clX12 (by decide) mf_X12_105 dX12_triesJobs_79 ?_
              refine lv_iload_n hx hb dX12_triesJobs_82 rfl (lv_at hl 1 rfl) ?_
              refine lv_iload_n hx hb dX12_triesJobs_83 rfl (lv_at hl 3 rfl) ?_
              obtain ⟨zh6, qzh6, hf⟩ := gb_el hf
              refine gx_iast X hw qzh6 dX12_triesJobs_84 (fun H locs hw => ?_)
              refine lv_aload_n hx hb dX12_triesJobs_85 rfl (lv_at hl 0 rfl) ?_
              refine lv_iload_n hx hb dX12_triesJobs_86 rfl (lv_at hl 1 rfl) ?_
              refine lv_iconst (v := 1) hx hb dX12_triesJobs_87 (by decide) ?_
              refine lv_iadd hx hb dX12_triesJobs_88 ?_
              refine W.eq (g2 := F0 m 89 ls [.int (zv1 + 1), .ref (gB E + zv0)]) rfl ?_
              refine lv_iload_n hx hb dX12_triesJobs_89 rfl (lv_at hl 2 rfl) ?_
              refine lv_iconst (v := 1) hx hb dX12_triesJobs_90 (by decide) ?_
              refine lv_iload_n hx hb dX12_triesJobs_91 rfl (lv_at hl 3 rfl) ?_
              refine lv_ishl hx hb dX12_triesJobs_92 ?_
              refine lv_ior hx hb dX12_triesJobs_93 ?_
              obtain ⟨qizh7, hf⟩ := gg_el hf
              obtain ⟨zh7, qzh7, hf⟩ := gb_el hf
              refine gx_kv (gx_runV (As := [.int (zv1 + 1), .int (zv2 ||| (1 <<< (zv3 &&& 31)))]) (rest := []) X hw (ih zv0 (zv1 + 1) (zv2 ||| (1 <<< (zv3 &&& 31))) zh6 _ qzh7) kX12_triesJobs mm_X12_398 qizh7 clX12 ⟨by dsimp only [rm_gJ]; omega, by dsimp only [rm_gJ]; omega⟩ rfl rfl rfl hl.1 (Nat.le_of_ble_eq_true rfl) rfl dX12_triesJobs_94 ⟨Nat.le_of_ble_eq_true rfl, Nat.le_of_ble_eq_true rfl⟩) hw (fun H locs hw => ?_)
              exact J_97 zv0 zv1 zv2 zv3 _ _ _ ls hf hw (lv_sub hl [0, 1, 2, 3] rfl)
      have J_59 : ∀ (zh : PH) (H : Heap) (locs : List Loc) (ls : Array Slot), f_X12_triesJobs_59 N (g_gJ N zd) zh = some h9 → gw E s zh H locs → lv_has ls 5 [] → W p l e (rm_gJ (zd + 1)) s m [.ref (gB E + za0), .int za1, .int za2].toArray below meth c H locs 0 0 (MQ below (gQv E h9) [.ref (gB E + za0), .int za1, .int za2].toArray s 0 0 (gA E)) (F0 m 59 ls []) := by
        intro zh H locs ls hf hw hl
        unfold f_X12_triesJobs_59 at hf
        exact gx_vret X hr hlk hw hf dX12_triesJobs_59
      have L_33 : ∀ (zn33 : Nat) (zv0 : Nat) (zv1 : Int32) (zv4 : Int32) (zh : PH) (H : Heap) (locs : List Loc) (ls : Array Slot), gi (fun zk zs => f_X12_triesJobs_33 N (g_gJ N zd) zk zs.1 zs.2.1 zs.2.2.1 zs.2.2.2) zn33 (zv0, zv1, zv4, zh) = some h9 → gw E s zh H locs → lv_has ls 5 [(0, .ref (gB E + zv0)), (1, .int zv1), (4, .int zv4)] → W p l e (rm_gJ (zd + 1)) s m [.ref (gB E + za0), .int za1, .int za2].toArray below meth c H locs 0 0 (MQ below (gQv E h9) [.ref (gB E + za0), .int za1, .int za2].toArray s 0 0 (gA E)) (F0 m 33 ls []) := by
        intro zn33
        induction zn33 with
        | zero =>
          intro zv0 zv1 zv4 zh H locs ls hf
          cases hf
        | succ zn33 ih_33 =>
          intro zv0 zv1 zv4 zh H locs ls hf hw hl
          have hf := gi_s hf
          dsimp only at hf
          unfold f_X12_triesJobs_33 at hf
          refine lv_iload hx hb dX12_triesJobs_33 (lv_at hl 2 rfl) ?_
          refine lv_iload_n hx hb dX12_triesJobs_35 rfl (lv_at hl 1 rfl) ?_
          refine lv_icmp_ge (tgt := 59) hx hb dX12_triesJobs_36 (by decide) (fun qc1 => ?_) (fun qc1 => ?_)
          · have hf := gif_t hf qc1
            exact J_59  _ _ _ ls hf hw (lv_sub hl [] rfl)
          · have hf := gif_f hf qc1
            refine lv_aload_n hx hb dX12_triesJobs_39 rfl (lv_at hl 0 rfl) ?_
            obtain ⟨zt2, qzt2, hf⟩ := gb_el hf
            refine gx_getR X hw qzt2 clX12 (by decide) mf_X12_108 dX12_triesJobs_40 ?_
            refine lv_iload hx hb dX12_triesJobs_43 (lv_at hl 2 rfl) ?_
            refine lv_aload_n hx hb dX12_triesJobs_45 rfl (lv_at hl 0 rfl) ?_
            obtain ⟨zt3, qzt3, hf⟩ := gb_el hf
            refine gx_getR X hw qzt3 clX12 (by decide) mf_X12_105 dX12_triesJobs_46 ?_
            refine lv_iload hx hb dX12_triesJobs_49 (lv_at hl 2 rfl) ?_
            refine W.eq (g2 := F0 m 51 ls [.int zv4, .ref (gB E + zt3), .int zv4, .ref (gB E + zt2)]) rfl ?_
            obtain ⟨zt4, qzt4, hf⟩ := gb_el hf
            refine gx_iald X hw qzt4 dX12_triesJobs_51 ?_
            obtain ⟨zh5, qzh5, hf⟩ := gb_el hf
            refine gx_iast X hw qzh5 dX12_triesJobs_52 (fun H locs hw => ?_)
            obtain ⟨zx6, ezx6⟩ : ∃ y : Int32, y = zv4 + 1 := ⟨_, rfl⟩
            have hf := gl_el hf ezx6
            refine lv_iinc (v := zx6) (lv' := [(4, .int zx6), (0, .ref (gB E + zv0)), (1, .int zv1)]) hx hb dX12_triesJobs_53 hl (k := 2) rfl (by rw [ezx6]; rfl) (by decide) rfl (fun ls hl => ?_)
            refine lv_goto (tgt := 33) hx hb dX12_triesJobs_56 (by decide) ?_
            exact ih_33 zv0 zv1 zx6 _ _ _ ls hf hw (lv_sub hl [1, 2, 0] rfl)
      unfold b_X12_triesJobs at hf
      refine lv_iload_n hx hb dX12_triesJobs_0 rfl (lv_at hl 1 rfl) ?_
      refine lv_aload_n hx hb dX12_triesJobs_1 rfl (lv_at hl 0 rfl) ?_
      obtain ⟨qizh1, hf⟩ := gg_el hf
      obtain ⟨zt2, zh1, qzh1, hf⟩ := gc_el hf
      refine gx_ki (gx_runV (As := []) (rest := [.int za1]) X hw (c_X12_jobs l E N za0 zh qzh1) kX12_jobs mm_X12_382 qizh1 clX12 ⟨by dsimp only [rm_gJ, rm_X12_jobs]; omega, by dsimp only [rm_gJ, rm_X12_jobs]; omega⟩ rfl rfl rfl hl.1 (Nat.le_of_ble_eq_true rfl) rfl dX12_triesJobs_2 ⟨Nat.le_of_ble_eq_true rfl, Nat.le_of_ble_eq_true rfl⟩) hw (fun H locs hw => ?_)
      refine lv_icmp_ne (tgt := 60) hx hb dX12_triesJobs_5 (by decide) (fun qc3 => ?_) (fun qc3 => ?_)
      · have hf := gif_f hf qc3
        refine lv_iconst (v := 0) hx hb dX12_triesJobs_60 (by decide) ?_
        refine lv_istore_n (lv' := [(3, .int 0), (0, .ref (gB E + za0)), (1, .int za1), (2, .int za2)]) hx hb dX12_triesJobs_61 rfl hl (by decide) rfl (fun ls hl => ?_)
        exact L_62 N za0 za1 za2 0 _ _ _ ls hf hw (lv_sub hl [1, 2, 3, 0] rfl)
      · have hf := gif_t hf qc3
        refine lv_aload_n hx hb dX12_triesJobs_8 rfl (lv_at hl 0 rfl) ?_
        refine lv_aload_n hx hb dX12_triesJobs_9 rfl (lv_at hl 0 rfl) ?_
        obtain ⟨zt4, qzt4, hf⟩ := gb_el hf
        refine gx_getR X hw qzt4 clX12 (by decide) mf_X12_105 dX12_triesJobs_10 ?_
        obtain ⟨qizh5, hf⟩ := gg_el hf
        obtain ⟨zt6, zh5, qzh5, hf⟩ := gc_el hf
        refine gx_ki (gx_runV (As := [.ref (gB E + zt4)]) (rest := []) X hw (c_X12_doneBy l E N za0 zt4 zh1 qzh5) kX12_doneBy mm_X12_391 qizh5 clX12 ⟨by dsimp only [rm_gJ, rm_X12_doneBy]; omega, by dsimp only [rm_gJ, rm_X12_doneBy]; omega⟩ rfl rfl rfl hl.1 (Nat.le_of_ble_eq_true rfl) rfl dX12_triesJobs_13 ⟨Nat.le_of_ble_eq_true rfl, Nat.le_of_ble_eq_true rfl⟩) hw (fun H locs hw => ?_)
        refine lv_istore_n (lv' := [(3, .int zt6), (0, .ref (gB E + za0)), (1, .int za1), (2, .int za2)]) hx hb dX12_triesJobs_16 rfl hl (by decide) rfl (fun ls hl => ?_)
        refine W.eq (g2 := F0 m 17 ls []) rfl ?_
        refine lv_iload_n hx hb dX12_triesJobs_17 rfl (lv_at hl 0 rfl) ?_
        refine lv_aload_n hx hb dX12_triesJobs_18 rfl (lv_at hl 1 rfl) ?_
        obtain ⟨zt7, qzt7, hf⟩ := gb_el hf
        refine gx_getI X hw qzt7 clX12 (by decide) mf_X12_395 dX12_triesJobs_19 ?_
        refine lv_icmp_ge (tgt := 59) hx hb dX12_triesJobs_22 (by decide) (fun qc8 => ?_) (fun qc8 => ?_)
        · have hf := gif_t hf qc8
          exact J_59  _ _ _ ls hf hw (lv_sub hl [] rfl)
        · have hf := gif_f hf qc8
          refine lv_aload_n hx hb dX12_triesJobs_25 rfl (lv_at hl 1 rfl) ?_
          refine lv_iload_n hx hb dX12_triesJobs_26 rfl (lv_at hl 0 rfl) ?_
          obtain ⟨zh9, qzh9, hf⟩ := gb_el hf
          refine gx_putV X hw qzh9 clX12 (by decide) mf_X12_395 rfl rfl rfl dX12_triesJobs_27 (fun H locs hw => ?_)
          refine lv_iconst (v := 0) hx hb dX12_triesJobs_30 (by decide) ?_
          refine lv_istore (lv' := [(4, .int 0), (3, .int zt6), (0, .ref (gB E + za0)), (1, .int za1), (2, .int za2)]) hx hb dX12_triesJobs_31 hl (by decide) rfl (fun ls hl => ?_)
          exact L_33 N za0 za1 0 _ _ _ ls hf hw (lv_sub hl [2, 3, 0] rfl)
abbrev rm_X12_triesJobs : Room := { frames := 18, cells := 0, slots := 0, locals := 432 }
theorem c_X12_triesJobs (l : Launch) (E : gE) (N : Nat) (za0 : Nat) (za1 : Int32) (za2 : Int32) (zh : PH) {h9 : PH} (hf : f_X12_triesJobs N za0 za1 za2 zh = some h9) : Met l yX12_triesJobs (gWS yX12_triesJobs cX12_triesJobs 5 none) rm_X12_triesJobs (gPc E [.ref (gB E + za0), .int za1, .int za2] zh) (gQv E h9) 0 0 (gA E) := (cg_gJ l E N 16) za0 za1 za2 zh _ hf
abbrev rm_X12_mostAtOnce : Room := { frames := 1, cells := 0, slots := 0, locals := 20 }
set_option maxHeartbeats 4000000 in
set_option maxRecDepth 100000 in
theorem c_X12_mostAtOnce (l : Launch) (E : gE) (N : Nat) (za0 : Nat) (zh : PH) {h9 : PH} {r9 : Int32} (hf : f_X12_mostAtOnce N za0 zh = some (r9, h9)) : Met l yX12_mostAtOnce (gWS yX12_mostAtOnce cX12_mostAtOnce 5 (some .int)) rm_X12_mostAtOnce (gPc E [.ref (gB E + za0)] zh) (gQi E r9 h9) 0 0 (gA E) := by
  refine gx_met (by decide) ?_ rfl
  intro p e s m below meth c X hr hlk hin2 hw
  have hx := X.1.1
  have hb := X.1.2.1
  have hl := lv_entry [.ref (gB E + za0)] (n := 5) (Nat.le_of_ble_eq_true rfl)
  rw [lg_entry_eq]
  generalize (lg_sl [.ref (gB E + za0)] ++ List.replicate (5 - (lg_sl [.ref (gB E + za0)]).length) Slot.unset).toArray = ls at hl ⊢
  have hl : lv_has ls 5 [(0, .ref (gB E + za0))] := hl
  have L_4 : ∀ (zn4 : Nat) (zv0 : Nat) (zv1 : Int32) (zv2 : Int32) (zh : PH) (H : Heap) (locs : List Loc) (ls : Array Slot), gi (fun zk zs => f_X12_mostAtOnce_4 N zk zs.1 zs.2.1 zs.2.2.1 zs.2.2.2) zn4 (zv0, zv1, zv2, zh) = some (r9, h9) → gw E s zh H locs → lv_has ls 5 [(0, .ref (gB E + zv0)), (1, .int zv1), (2, .int zv2)] → W p l e rm_X12_mostAtOnce s m [.ref (gB E + za0)].toArray below meth c H locs 0 0 (MQ below (gQi E r9 h9) [.ref (gB E + za0)].toArray s 0 0 (gA E)) (F0 m 4 ls []) := by
    intro zn4
    induction zn4 with
    | zero =>
      intro zv0 zv1 zv2 zh H locs ls hf
      cases hf
    | succ zn4 ih_4 =>
      have J_82 : ∀ (zv0 : Nat) (zv2 : Int32) (zs0 : Int32) (zh : PH) (H : Heap) (locs : List Loc) (ls : Array Slot), f_X12_mostAtOnce_82 N (gi (fun zk zs => f_X12_mostAtOnce_4 N zk zs.1 zs.2.1 zs.2.2.1 zs.2.2.2) zn4) zv0 zv2 zs0 zh = some (r9, h9) → gw E s zh H locs → lv_has ls 5 [(0, .ref (gB E + zv0)), (2, .int zv2)] → W p l e rm_X12_mostAtOnce s m [.ref (gB E + za0)].toArray below meth c H locs 0 0 (MQ below (gQi E r9 h9) [.ref (gB E + za0)].toArray s 0 0 (gA E)) (F0 m 82 ls [.int zs0]) := by
        intro zv0 zv2 zs0 zh H locs ls hf hw hl
        unfold f_X12_mostAtOnce_82 at hf
        refine lv_istore_n (lv' := [(1, .int zs0), (0, .ref (gB E + zv0)), (2, .int zv2)]) hx hb dX12_mostAtOnce_82 rfl hl (by decide) rfl (fun ls hl => ?_)
        obtain ⟨zx1, ezx1⟩ : ∃ y : Int32, y = zv2 + 1 := ⟨_, rfl⟩
        have hf := gl_el hf ezx1
        refine lv_iinc (v := zx1) (lv' := [(2, .int zx1), (1, .int zs0), (0, .ref (gB E + zv0))]) hx hb dX12_mostAtOnce_83 hl (k := 2) rfl (by rw [ezx1]; rfl) (by decide) rfl (fun ls hl => ?_)
        refine lv_goto (tgt := 4) hx hb dX12_mostAtOnce_86 (by decide) ?_
        exact ih_4 zv0 zs0 zx1 _ _ _ ls hf hw (lv_sub hl [2, 1, 0] rfl)
      have L_17 : ∀ (zn17 : Nat) (zv0 : Nat) (zv1 : Int32) (zv2 : Int32) (zv3 : Int32) (zv4 : Int32) (zh : PH) (H : Heap) (locs : List Loc) (ls : Array Slot), gi (fun zk zs => f_X12_mostAtOnce_17 N (gi (fun zk zs => f_X12_mostAtOnce_4 N zk zs.1 zs.2.1 zs.2.2.1 zs.2.2.2) zn4) zk zs.1 zs.2.1 zs.2.2.1 zs.2.2.2.1 zs.2.2.2.2.1 zs.2.2.2.2.2) zn17 (zv0, zv1, zv2, zv3, zv4, zh) = some (r9, h9) → gw E s zh H locs → lv_has ls 5 [(0, .ref (gB E + zv0)), (1, .int zv1), (2, .int zv2), (3, .int zv3), (4, .int zv4)] → W p l e rm_X12_mostAtOnce s m [.ref (gB E + za0)].toArray below meth c H locs 0 0 (MQ below (gQi E r9 h9) [.ref (gB E + za0)].toArray s 0 0 (gA E)) (F0 m 17 ls []) := by
        intro zn17
        induction zn17 with
        | zero =>
          intro zv0 zv1 zv2 zv3 zv4 zh H locs ls hf
          cases hf
        | succ zn17 ih_17 =>
          have J_64 : ∀ (zv0 : Nat) (zv1 : Int32) (zv2 : Int32) (zv4 : Int32) (zs0 : Int32) (zs1 : Int32) (zh : PH) (H : Heap) (locs : List Loc) (ls : Array Slot), f_X12_mostAtOnce_64 N (gi (fun zk zs => f_X12_mostAtOnce_4 N zk zs.1 zs.2.1 zs.2.2.1 zs.2.2.2) zn4) (gi (fun zk zs => f_X12_mostAtOnce_17 N (gi (fun zk zs => f_X12_mostAtOnce_4 N zk zs.1 zs.2.1 zs.2.2.1 zs.2.2.2) zn4) zk zs.1 zs.2.1 zs.2.2.1 zs.2.2.2.1 zs.2.2.2.2.1 zs.2.2.2.2.2) zn17) zv0 zv1 zv2 zv4 zs0 zs1 zh = some (r9, h9) → gw E s zh H locs → lv_has ls 5 [(0, .ref (gB E + zv0)), (1, .int zv1), (2, .int zv2), (4, .int zv4)] → W p l e rm_X12_mostAtOnce s m [.ref (gB E + za0)].toArray below meth c H locs 0 0 (MQ below (gQi E r9 h9) [.ref (gB E + za0)].toArray s 0 0 (gA E)) (F0 m 64 ls [.int zs0, .int zs1]) := by
            intro zv0 zv1 zv2 zv4 zs0 zs1 zh H locs ls hf hw hl
            unfold f_X12_mostAtOnce_64 at hf
            refine lv_iadd hx hb dX12_mostAtOnce_64 ?_
            refine lv_topi (fun zx1 ezx1 => ?_)
            have hf := gl_el hf ezx1
            refine lv_istore_n (lv' := [(3, .int zx1), (0, .ref (gB E + zv0)), (1, .int zv1), (2, .int zv2), (4, .int zv4)]) hx hb dX12_mostAtOnce_65 rfl hl (by decide) rfl (fun ls hl => ?_)
            obtain ⟨zx2, ezx2⟩ : ∃ y : Int32, y = zv4 + 1 := ⟨_, rfl⟩
            have hf := gl_el hf ezx2
            refine lv_iinc (v := zx2) (lv' := [(4, .int zx2), (3, .int zx1), (0, .ref (gB E + zv0)), (1, .int zv1), (2, .int zv2)]) hx hb dX12_mostAtOnce_66 hl (k := 4) rfl (by rw [ezx2]; rfl) (by decide) rfl (fun ls hl => ?_)
            refine lv_goto (tgt := 17) hx hb dX12_mostAtOnce_69 (by decide) ?_
            exact ih_17 zv0 zv1 zv2 zx1 zx2 _ _ _ ls hf hw (lv_sub hl [2, 3, 4, 1, 0] rfl)
          have J_63 : ∀ (zv0 : Nat) (zv1 : Int32) (zv2 : Int32) (zv4 : Int32) (zs0 : Int32) (zh : PH) (H : Heap) (locs : List Loc) (ls : Array Slot), f_X12_mostAtOnce_63 N (gi (fun zk zs => f_X12_mostAtOnce_4 N zk zs.1 zs.2.1 zs.2.2.1 zs.2.2.2) zn4) (gi (fun zk zs => f_X12_mostAtOnce_17 N (gi (fun zk zs => f_X12_mostAtOnce_4 N zk zs.1 zs.2.1 zs.2.2.1 zs.2.2.2) zn4) zk zs.1 zs.2.1 zs.2.2.1 zs.2.2.2.1 zs.2.2.2.2.1 zs.2.2.2.2.2) zn17) zv0 zv1 zv2 zv4 zs0 zh = some (r9, h9) → gw E s zh H locs → lv_has ls 5 [(0, .ref (gB E + zv0)), (1, .int zv1), (2, .int zv2), (4, .int zv4)] → W p l e rm_X12_mostAtOnce s m [.ref (gB E + za0)].toArray below meth c H locs 0 0 (MQ below (gQi E r9 h9) [.ref (gB E + za0)].toArray s 0 0 (gA E)) (F0 m 63 ls [.int zs0]) := by
            intro zv0 zv1 zv2 zv4 zs0 zh H locs ls hf hw hl
            unfold f_X12_mostAtOnce_63 at hf
            refine lv_iconst (v := 0) hx hb dX12_mostAtOnce_63 (by decide) ?_
            exact J_64 zv0 zv1 zv2 zv4 0 zs0 _ _ _ ls hf hw (lv_sub hl [0, 1, 2, 3] rfl)
          intro zv0 zv1 zv2 zv3 zv4 zh H locs ls hf hw hl
          have hf := gi_s hf
          dsimp only at hf
          unfold f_X12_mostAtOnce_17 at hf
          refine lv_iload hx hb dX12_mostAtOnce_17 (lv_at hl 4 rfl) ?_
          refine lv_aload_n hx hb dX12_mostAtOnce_19 rfl (lv_at hl 0 rfl) ?_
          obtain ⟨qizh1, hf⟩ := gg_el hf
          obtain ⟨zt2, zh1, qzh1, hf⟩ := gc_el hf
          refine gx_ki (gx_runV (As := []) (rest := [.int zv4]) X hw (c_X12_jobs l E N zv0 zh qzh1) kX12_jobs mm_X12_382 qizh1 clX12 ⟨Nat.le_of_ble_eq_true rfl, Nat.le_of_ble_eq_true rfl⟩ rfl rfl rfl hl.1 (Nat.le_of_ble_eq_true rfl) rfl dX12_mostAtOnce_20 ⟨Nat.le_of_ble_eq_true rfl, Nat.le_of_ble_eq_true rfl⟩) hw (fun H locs hw => ?_)
          refine lv_icmp_ge (tgt := 72) hx hb dX12_mostAtOnce_23 (by decide) (fun qc3 => ?_) (fun qc3 => ?_)
          · have hf := gif_t hf qc3
            refine lv_iload_n hx hb dX12_mostAtOnce_72 rfl (lv_at hl 3 rfl) ?_
            refine lv_iload_n hx hb dX12_mostAtOnce_73 rfl (lv_at hl 1 rfl) ?_
            refine lv_icmp_le (tgt := 81) hx hb dX12_mostAtOnce_74 (by decide) (fun qc4 => ?_) (fun qc4 => ?_)
            · have hf := gif_t hf qc4
              refine lv_iload_n hx hb dX12_mostAtOnce_81 rfl (lv_at hl 1 rfl) ?_
              exact J_82 zv0 zv2 zv1 _ _ _ ls hf hw (lv_sub hl [0, 2] rfl)
            · have hf := gif_f hf qc4
              refine lv_iload_n hx hb dX12_mostAtOnce_77 rfl (lv_at hl 3 rfl) ?_
              refine lv_goto (tgt := 82) hx hb dX12_mostAtOnce_78 (by decide) ?_
              exact J_82 zv0 zv2 zv3 _ _ _ ls hf hw (lv_sub hl [0, 2] rfl)
          · have hf := gif_f hf qc3
            refine lv_iload_n hx hb dX12_mostAtOnce_26 rfl (lv_at hl 3 rfl) ?_
            refine lv_aload_n hx hb dX12_mostAtOnce_27 rfl (lv_at hl 0 rfl) ?_
            obtain ⟨zt5, qzt5, hf⟩ := gb_el hf
            refine gx_getR X hw qzt5 clX12 (by decide) mf_X12_111 dX12_mostAtOnce_28 ?_
            refine lv_iload hx hb dX12_mostAtOnce_31 (lv_at hl 4 rfl) ?_
            obtain ⟨zt6, qzt6, hf⟩ := gb_el hf
            refine gx_iald X hw qzt6 dX12_mostAtOnce_33 ?_
            refine W.eq (g2 := F0 m 34 ls [.int zt6, .int zv3]) rfl ?_
            refine lv_aload_n hx hb dX12_mostAtOnce_34 rfl (lv_at hl 0 rfl) ?_
            obtain ⟨zt7, qzt7, hf⟩ := gb_el hf
            refine gx_getR X hw qzt7 clX12 (by decide) mf_X12_111 dX12_mostAtOnce_35 ?_
            refine lv_iload_n hx hb dX12_mostAtOnce_38 rfl (lv_at hl 2 rfl) ?_
            obtain ⟨zt8, qzt8, hf⟩ := gb_el hf
            refine gx_iald X hw qzt8 dX12_mostAtOnce_39 ?_
            refine lv_icmp_gt (tgt := 63) hx hb dX12_mostAtOnce_40 (by decide) (fun qc9 => ?_) (fun qc9 => ?_)
            · have hf := gif_t hf qc9
              exact J_63 zv0 zv1 zv2 zv4 zv3 _ _ _ ls hf hw (lv_sub hl [0, 1, 2, 4] rfl)
            · have hf := gif_f hf qc9
              refine lv_aload_n hx hb dX12_mostAtOnce_43 rfl (lv_at hl 0 rfl) ?_
              obtain ⟨zt10, qzt10, hf⟩ := gb_el hf
              refine gx_getR X hw qzt10 clX12 (by decide) mf_X12_111 dX12_mostAtOnce_44 ?_
              refine lv_iload_n hx hb dX12_mostAtOnce_47 rfl (lv_at hl 2 rfl) ?_
              obtain ⟨zt11, qzt11, hf⟩ := gb_el hf
              refine gx_iald X hw qzt11 dX12_mostAtOnce_48 ?_
              refine lv_aload_n hx hb dX12_mostAtOnce_49 rfl (lv_at hl 0 rfl) ?_
              refine W.eq (g2 := F0 m 50 ls [.ref (gB E + zv0), .int zt11, .int zv3]) rfl ?_
              obtain ⟨zt12, qzt12, hf⟩ := gb_el hf
              refine gx_getR X hw qzt12 clX12 (by decide) mf_X12_114 dX12_mostAtOnce_50 ?_
              refine lv_iload hx hb dX12_mostAtOnce_53 (lv_at hl 4 rfl) ?_
              obtain ⟨zt13, qzt13, hf⟩ := gb_el hf
              refine gx_iald X hw qzt13 dX12_mostAtOnce_55 ?_
              refine lv_icmp_ge (tgt := 63) hx hb dX12_mostAtOnce_56 (by decide) (fun qc14 => ?_) (fun qc14 => ?_)
              · have hf := gif_t hf qc14
                exact J_63 zv0 zv1 zv2 zv4 zv3 _ _ _ ls hf hw (lv_sub hl [0, 1, 2, 4] rfl)
              · have hf := gif_f hf qc14
                refine lv_iconst (v := 1) hx hb dX12_mostAtOnce_59 (by decide) ?_
                refine lv_goto (tgt := 64) hx hb dX12_mostAtOnce_60 (by decide) ?_
                exact J_64 zv0 zv1 zv2 zv4 1 zv3 _ _ _ ls hf hw (lv_sub hl [0, 1, 2, 4] rfl)
      intro zv0 zv1 zv2 zh H locs ls hf hw hl
      have hf := gi_s hf
      dsimp only at hf
      unfold f_X12_mostAtOnce_4 at hf
      refine lv_iload_n hx hb dX12_mostAtOnce_4 rfl (lv_at hl 2 rfl) ?_
      refine lv_aload_n hx hb dX12_mostAtOnce_5 rfl (lv_at hl 0 rfl) ?_
      obtain ⟨qizh1, hf⟩ := gg_el hf
      obtain ⟨zt2, zh1, qzh1, hf⟩ := gc_el hf
      refine gx_ki (gx_runV (As := []) (rest := [.int zv2]) X hw (c_X12_jobs l E N zv0 zh qzh1) kX12_jobs mm_X12_382 qizh1 clX12 ⟨Nat.le_of_ble_eq_true rfl, Nat.le_of_ble_eq_true rfl⟩ rfl rfl rfl hl.1 (Nat.le_of_ble_eq_true rfl) rfl dX12_mostAtOnce_6 ⟨Nat.le_of_ble_eq_true rfl, Nat.le_of_ble_eq_true rfl⟩) hw (fun H locs hw => ?_)
      refine lv_icmp_ge (tgt := 89) hx hb dX12_mostAtOnce_9 (by decide) (fun qc3 => ?_) (fun qc3 => ?_)
      · have hf := gif_t hf qc3
        refine lv_iload_n hx hb dX12_mostAtOnce_89 rfl (lv_at hl 1 rfl) ?_
        exact gx_iret X hr hlk hw hf dX12_mostAtOnce_90
      · have hf := gif_f hf qc3
        refine lv_iconst (v := 0) hx hb dX12_mostAtOnce_12 (by decide) ?_
        refine lv_istore_n (lv' := [(3, .int 0), (0, .ref (gB E + zv0)), (1, .int zv1), (2, .int zv2)]) hx hb dX12_mostAtOnce_13 rfl hl (by decide) rfl (fun ls hl => ?_)
        refine lv_iconst (v := 0) hx hb dX12_mostAtOnce_14 (by decide) ?_
        refine lv_istore (lv' := [(4, .int 0), (3, .int 0), (0, .ref (gB E + zv0)), (1, .int zv1), (2, .int zv2)]) hx hb dX12_mostAtOnce_15 hl (by decide) rfl (fun ls hl => ?_)
        exact L_17 N zv0 zv1 zv2 0 0 _ _ _ ls hf hw (lv_sub hl [2, 3, 4, 1, 0] rfl)
  unfold f_X12_mostAtOnce at hf
  refine lv_iconst (v := 0) hx hb dX12_mostAtOnce_0 (by decide) ?_
  refine lv_istore_n (lv' := [(1, .int 0), (0, .ref (gB E + za0))]) hx hb dX12_mostAtOnce_1 rfl hl (by decide) rfl (fun ls hl => ?_)
  refine lv_iconst (v := 0) hx hb dX12_mostAtOnce_2 (by decide) ?_
  refine lv_istore_n (lv' := [(2, .int 0), (1, .int 0), (0, .ref (gB E + za0))]) hx hb dX12_mostAtOnce_3 rfl hl (by decide) rfl (fun ls hl => ?_)
  exact L_4 N za0 0 0 _ _ _ ls hf hw (lv_sub hl [2, 1, 0] rfl)
abbrev rm_X12_porters : Room := { frames := 19, cells := 0, slots := 0, locals := 456 }
set_option maxHeartbeats 4000000 in
set_option maxRecDepth 100000 in
theorem c_X12_porters (l : Launch) (E : gE) (N : Nat) (za0 : Nat) (za1 : Int32) (zh : PH) {h9 : PH} {r9 : Int32} (hf : f_X12_porters N za0 za1 zh = some (r9, h9)) : Met l yX12_porters (gWS yX12_porters cX12_porters 2 (some .int)) rm_X12_porters (gPc E [.ref (gB E + za0), .int za1] zh) (gQi E r9 h9) 0 0 (gA E) := by
  refine gx_met (by decide) ?_ rfl
  intro p e s m below meth c X hr hlk hin2 hw
  have hx := X.1.1
  have hb := X.1.2.1
  have hl := lv_entry [.ref (gB E + za0), .int za1] (n := 2) (Nat.le_of_ble_eq_true rfl)
  rw [lg_entry_eq]
  generalize (lg_sl [.ref (gB E + za0), .int za1] ++ List.replicate (2 - (lg_sl [.ref (gB E + za0), .int za1]).length) Slot.unset).toArray = ls at hl ⊢
  have hl : lv_has ls 2 [(0, .ref (gB E + za0)), (1, .int za1)] := hl
  have J_95 : ∀ (zs0 : Int32) (zh : PH) (H : Heap) (locs : List Loc) (ls : Array Slot), f_X12_porters_95 N zs0 zh = some (r9, h9) → gw E s zh H locs → lv_has ls 2 [] → W p l e rm_X12_porters s m [.ref (gB E + za0), .int za1].toArray below meth c H locs 0 0 (MQ below (gQi E r9 h9) [.ref (gB E + za0), .int za1].toArray s 0 0 (gA E)) (F0 m 95 ls [.int zs0]) := by
    intro zs0 zh H locs ls hf hw hl
    unfold f_X12_porters_95 at hf
    exact gx_iret X hr hlk hw hf dX12_porters_95
  have J_74 : ∀ (zs0 : Int32) (zh : PH) (H : Heap) (locs : List Loc) (ls : Array Slot), f_X12_porters_74 N zs0 zh = some (r9, h9) → gw E s zh H locs → lv_has ls 2 [] → W p l e rm_X12_porters s m [.ref (gB E + za0), .int za1].toArray below meth c H locs 0 0 (MQ below (gQi E r9 h9) [.ref (gB E + za0), .int za1].toArray s 0 0 (gA E)) (F0 m 74 ls [.int zs0]) := by
    intro zs0 zh H locs ls hf hw hl
    unfold f_X12_porters_74 at hf
    exact gx_iret X hr hlk hw hf dX12_porters_74
  have J_59 : ∀ (zv0 : Nat) (zv1 : Int32) (zh : PH) (H : Heap) (locs : List Loc) (ls : Array Slot), f_X12_porters_59 N zv0 zv1 zh = some (r9, h9) → gw E s zh H locs → lv_has ls 2 [(0, .ref (gB E + zv0)), (1, .int zv1)] → W p l e rm_X12_porters s m [.ref (gB E + za0), .int za1].toArray below meth c H locs 0 0 (MQ below (gQi E r9 h9) [.ref (gB E + za0), .int za1].toArray s 0 0 (gA E)) (F0 m 59 ls []) := by
    intro zv0 zv1 zh H locs ls hf hw hl
    unfold f_X12_porters_59 at hf
    refine lv_iload_n hx hb dX12_porters_59 rfl (lv_at hl 1 rfl) ?_
    refine lv_if_ne (tgt := 70) hx hb dX12_porters_60 (by decide) (fun qc1 => ?_) (fun qc1 => ?_)
    · have hf := gif_f hf qc1
      refine lv_aload_n hx hb dX12_porters_70 rfl (lv_at hl 0 rfl) ?_
      obtain ⟨zt2, qzt2, hf⟩ := gb_el hf
      refine gx_getI X hw qzt2 clX12 (by decide) mf_X12_385 dX12_porters_71 ?_
      exact J_74 zt2 _ _ _ ls hf hw (lv_sub hl [] rfl)
    · have hf := gif_t hf qc1
      refine lv_aload_n hx hb dX12_porters_63 rfl (lv_at hl 0 rfl) ?_
      obtain ⟨zt3, qzt3, hf⟩ := gb_el hf
      refine gx_getI X hw qzt3 clX12 (by decide) mf_X12_395 dX12_porters_64 ?_
      refine lv_goto (tgt := 74) hx hb dX12_porters_67 (by decide) ?_
      exact J_74 zt3 _ _ _ ls hf hw (lv_sub hl [] rfl)
  have J_26 : ∀ (zh : PH) (H : Heap) (locs : List Loc) (ls : Array Slot), f_X12_porters_26 N zh = some (r9, h9) → gw E s zh H locs → lv_has ls 2 [] → W p l e rm_X12_porters s m [.ref (gB E + za0), .int za1].toArray below meth c H locs 0 0 (MQ below (gQi E r9 h9) [.ref (gB E + za0), .int za1].toArray s 0 0 (gA E)) (F0 m 26 ls []) := by
    intro zh H locs ls hf hw hl
    unfold f_X12_porters_26 at hf
    refine lv_iconst (v := (-1)) hx hb dX12_porters_26 (by decide) ?_
    exact gx_iret X hr hlk hw hf dX12_porters_27
  unfold f_X12_porters at hf
  refine lv_aload_n hx hb dX12_porters_0 rfl (lv_at hl 0 rfl) ?_
  refine lv_iconst (v := 0) hx hb dX12_porters_1 (by decide) ?_
  obtain ⟨zh1, qzh1, hf⟩ := gb_el hf
  refine gx_putV X hw qzh1 clX12 (by decide) mf_X12_1 rfl rfl rfl dX12_porters_2 (fun H locs hw => ?_)
  refine lv_aload_n hx hb dX12_porters_5 rfl (lv_at hl 0 rfl) ?_
  obtain ⟨qizh2, hf⟩ := gg_el hf
  obtain ⟨zt3, zh2, qzh2, hf⟩ := gc_el hf
  refine gx_ki (gx_runV (As := []) (rest := []) X hw (c_X12_jobs l E N za0 zh1 qzh2) kX12_jobs mm_X12_382 qizh2 clX12 ⟨Nat.le_of_ble_eq_true rfl, Nat.le_of_ble_eq_true rfl⟩ rfl rfl rfl hl.1 (Nat.le_of_ble_eq_true rfl) rfl dX12_porters_6 ⟨Nat.le_of_ble_eq_true rfl, Nat.le_of_ble_eq_true rfl⟩) hw (fun H locs hw => ?_)
  refine lv_if_eq (tgt := 26) hx hb dX12_porters_9 (by decide) (fun qc4 => ?_) (fun qc4 => ?_)
  · have hf := gif_t hf qc4
    exact J_26  _ _ _ ls hf hw (lv_sub hl [] rfl)
  · have hf := gif_f hf qc4
    refine lv_iload_n hx hb dX12_porters_12 rfl (lv_at hl 1 rfl) ?_
    refine lv_iconst (v := 0) hx hb dX12_porters_13 (by decide) ?_
    refine lv_iconst (v := 2) hx hb dX12_porters_14 (by decide) ?_
    refine W.eq (g2 := F0 m 15 ls [.int 2, .int 0, .int za1]) rfl ?_
    refine lv_aload_n hx hb dX12_porters_15 rfl (lv_at hl 0 rfl) ?_
    obtain ⟨qizh5, hf⟩ := gg_el hf
    obtain ⟨zt6, zh5, qzh5, hf⟩ := gc_el hf
    refine gx_ki (gx_runV (As := []) (rest := [.int 2, .int 0, .int za1]) X hw (c_X12_jobs l E N za0 zh2 qzh5) kX12_jobs mm_X12_382 qizh5 clX12 ⟨Nat.le_of_ble_eq_true rfl, Nat.le_of_ble_eq_true rfl⟩ rfl rfl rfl hl.1 (Nat.le_of_ble_eq_true rfl) rfl dX12_porters_16 ⟨Nat.le_of_ble_eq_true rfl, Nat.le_of_ble_eq_true rfl⟩) hw (fun H locs hw => ?_)
    refine lv_iadd hx hb dX12_porters_19 ?_
    obtain ⟨zt8, zh7, qzh7, hf⟩ := gc_el hf
    refine gx_ki (gx_runS (As := [.int za1, .int 0, .int (2 + zt6)]) (rest := []) X hw (c_X12_within l E N za1 0 (2 + zt6) zh5 qzh7) kX12_within mm_X12_304 ⟨Nat.le_of_ble_eq_true rfl, Nat.le_of_ble_eq_true rfl⟩ rfl rfl rfl hl.1 (Nat.le_of_ble_eq_true rfl) rfl dX12_porters_20 ⟨Nat.le_of_ble_eq_true rfl, Nat.le_of_ble_eq_true rfl⟩) hw (fun H locs hw => ?_)
    refine lv_if_ne (tgt := 28) hx hb dX12_porters_23 (by decide) (fun qc9 => ?_) (fun qc9 => ?_)
    · have hf := gif_f hf qc9
      refine lv_aload_n hx hb dX12_porters_28 rfl (lv_at hl 0 rfl) ?_
      refine lv_ldcw (v := 100000000) hx hb X.1.2.2.2.1 (X.1.2.2.2.2 _ mk_X12_346) dX12_porters_29 ?_
      obtain ⟨zh10, qzh10, hf⟩ := gb_el hf
      refine gx_putV X hw qzh10 clX12 (by decide) mf_X12_395 rfl rfl rfl dX12_porters_32 (fun H locs hw => ?_)
      refine lv_aload_n hx hb dX12_porters_35 rfl (lv_at hl 0 rfl) ?_
      refine lv_iconst (v := 0) hx hb dX12_porters_36 (by decide) ?_
      refine W.eq (g2 := F0 m 37 ls [.int 0, .ref (gB E + za0)]) rfl ?_
      refine lv_iconst (v := 0) hx hb dX12_porters_37 (by decide) ?_
      obtain ⟨qizh11, hf⟩ := gg_el hf
      obtain ⟨zh11, qzh11, hf⟩ := gb_el hf
      refine gx_kv (gx_runV (As := [.int 0, .int 0]) (rest := []) X hw (c_X12_triesJobs l E N za0 0 0 zh10 qzh11) kX12_triesJobs mm_X12_398 qizh11 clX12 ⟨Nat.le_of_ble_eq_true rfl, Nat.le_of_ble_eq_true rfl⟩ rfl rfl rfl hl.1 (Nat.le_of_ble_eq_true rfl) rfl dX12_porters_38 ⟨Nat.le_of_ble_eq_true rfl, Nat.le_of_ble_eq_true rfl⟩) hw (fun H locs hw => ?_)
      refine lv_aload_n hx hb dX12_porters_41 rfl (lv_at hl 0 rfl) ?_
      refine lv_aload_n hx hb dX12_porters_42 rfl (lv_at hl 0 rfl) ?_
      obtain ⟨zt12, qzt12, hf⟩ := gb_el hf
      refine gx_getR X hw qzt12 clX12 (by decide) mf_X12_108 dX12_porters_43 ?_
      obtain ⟨qizh13, hf⟩ := gg_el hf
      obtain ⟨zt14, zh13, qzh13, hf⟩ := gc_el hf
      refine gx_ki (gx_runV (As := [.ref (gB E + zt12)]) (rest := []) X hw (c_X12_doneBy l E N za0 zt12 zh11 qzh13) kX12_doneBy mm_X12_391 qizh13 clX12 ⟨Nat.le_of_ble_eq_true rfl, Nat.le_of_ble_eq_true rfl⟩ rfl rfl rfl hl.1 (Nat.le_of_ble_eq_true rfl) rfl dX12_porters_46 ⟨Nat.le_of_ble_eq_true rfl, Nat.le_of_ble_eq_true rfl⟩) hw (fun H locs hw => ?_)
      refine lv_pop hx hb dX12_porters_49 rfl ?_
      refine lv_iload_n hx hb dX12_porters_50 rfl (lv_at hl 1 rfl) ?_
      refine lv_if_eq (tgt := 59) hx hb dX12_porters_51 (by decide) (fun qc15 => ?_) (fun qc15 => ?_)
      · have hf := gif_t hf qc15
        exact J_59 za0 za1 _ _ _ ls hf hw (lv_sub hl [0, 1] rfl)
      · have hf := gif_f hf qc15
        refine lv_iload_n hx hb dX12_porters_54 rfl (lv_at hl 1 rfl) ?_
        refine W.eq (g2 := F0 m 55 ls [.int za1]) rfl ?_
        refine lv_iconst (v := 1) hx hb dX12_porters_55 (by decide) ?_
        refine lv_icmp_ne (tgt := 75) hx hb dX12_porters_56 (by decide) (fun qc16 => ?_) (fun qc16 => ?_)
        · have hf := gif_f hf qc16
          refine lv_iload_n hx hb dX12_porters_75 rfl (lv_at hl 1 rfl) ?_
          refine lv_iconst (v := 2) hx hb dX12_porters_76 (by decide) ?_
          refine lv_icmp_ne (tgt := 87) hx hb dX12_porters_77 (by decide) (fun qc17 => ?_) (fun qc17 => ?_)
          · have hf := gif_f hf qc17
            refine lv_aload_n hx hb dX12_porters_87 rfl (lv_at hl 0 rfl) ?_
            obtain ⟨zt18, qzt18, hf⟩ := gb_el hf
            refine gx_getR X hw qzt18 clX12 (by decide) mf_X12_108 dX12_porters_88 ?_
            refine lv_iload_n hx hb dX12_porters_91 rfl (lv_at hl 1 rfl) ?_
            refine lv_iconst (v := 3) hx hb dX12_porters_92 (by decide) ?_
            refine lv_isub hx hb dX12_porters_93 ?_
            refine W.eq (g2 := F0 m 94 ls [.int (za1 - 3), .ref (gB E + zt18)]) rfl ?_
            obtain ⟨zt19, qzt19, hf⟩ := gb_el hf
            refine gx_iald X hw qzt19 dX12_porters_94 ?_
            exact J_95 zt19 _ _ _ ls hf hw (lv_sub hl [] rfl)
          · have hf := gif_t hf qc17
            refine lv_aload_n hx hb dX12_porters_80 rfl (lv_at hl 0 rfl) ?_
            obtain ⟨qizh20, hf⟩ := gg_el hf
            obtain ⟨zt21, zh20, qzh20, hf⟩ := gc_el hf
            refine gx_ki (gx_runV (As := []) (rest := []) X hw (c_X12_mostAtOnce l E N za0 zh13 qzh20) kX12_mostAtOnce mm_X12_401 qizh20 clX12 ⟨Nat.le_of_ble_eq_true rfl, Nat.le_of_ble_eq_true rfl⟩ rfl rfl rfl hl.1 (Nat.le_of_ble_eq_true rfl) rfl dX12_porters_81 ⟨Nat.le_of_ble_eq_true rfl, Nat.le_of_ble_eq_true rfl⟩) hw (fun H locs hw => ?_)
            refine lv_goto (tgt := 95) hx hb dX12_porters_84 (by decide) ?_
            exact J_95 zt21 _ _ _ ls hf hw (lv_sub hl [] rfl)
        · have hf := gif_t hf qc16
          exact J_59 za0 za1 _ _ _ ls hf hw (lv_sub hl [0, 1] rfl)
    · have hf := gif_t hf qc9
      exact J_26  _ _ _ ls hf hw (lv_sub hl [] rfl)
abbrev rm_X12_told : Room := { frames := 2, cells := 0, slots := 0, locals := 48 }
set_option maxHeartbeats 4000000 in
set_option maxRecDepth 100000 in
theorem c_X12_told (l : Launch) (E : gE) (N : Nat) (za0 : Nat) (zh : PH) {h9 : PH} {r9 : Int32} (hf : f_X12_told N za0 zh = some (r9, h9)) : Met l yX12_told (gWS yX12_told cX12_told 2 (some .int)) rm_X12_told (gPc E [.ref (gB E + za0)] zh) (gQi E r9 h9) 0 0 (gA E) := by
  refine gx_met (by decide) ?_ rfl
  intro p e s m below meth c X hr hlk hin2 hw
  have hx := X.1.1
  have hb := X.1.2.1
  have hl := lv_entry [.ref (gB E + za0)] (n := 2) (Nat.le_of_ble_eq_true rfl)
  rw [lg_entry_eq]
  generalize (lg_sl [.ref (gB E + za0)] ++ List.replicate (2 - (lg_sl [.ref (gB E + za0)]).length) Slot.unset).toArray = ls at hl ⊢
  have hl : lv_has ls 2 [(0, .ref (gB E + za0))] := hl
  have J_47 : ∀ (zs0 : Int32) (zh : PH) (H : Heap) (locs : List Loc) (ls : Array Slot), f_X12_told_47 N zs0 zh = some (r9, h9) → gw E s zh H locs → lv_has ls 2 [] → W p l e rm_X12_told s m [.ref (gB E + za0)].toArray below meth c H locs 0 0 (MQ below (gQi E r9 h9) [.ref (gB E + za0)].toArray s 0 0 (gA E)) (F0 m 47 ls [.int zs0]) := by
    intro zs0 zh H locs ls hf hw hl
    unfold f_X12_told_47 at hf
    exact gx_iret X hr hlk hw hf dX12_told_47
  have L_7 : ∀ (zn7 : Nat) (zv0 : Nat) (zv1 : Int32) (zh : PH) (H : Heap) (locs : List Loc) (ls : Array Slot), gi (fun zk zs => f_X12_told_7 N zk zs.1 zs.2.1 zs.2.2) zn7 (zv0, zv1, zh) = some (r9, h9) → gw E s zh H locs → lv_has ls 2 [(0, .ref (gB E + zv0)), (1, .int zv1)] → W p l e rm_X12_told s m [.ref (gB E + za0)].toArray below meth c H locs 0 0 (MQ below (gQi E r9 h9) [.ref (gB E + za0)].toArray s 0 0 (gA E)) (F0 m 7 ls []) := by
    intro zn7
    induction zn7 with
    | zero =>
      intro zv0 zv1 zh H locs ls hf
      cases hf
    | succ zn7 ih_7 =>
      intro zv0 zv1 zh H locs ls hf hw hl
      have hf := gi_s hf
      dsimp only at hf
      unfold f_X12_told_7 at hf
      refine lv_iload_n hx hb dX12_told_7 rfl (lv_at hl 1 rfl) ?_
      refine lv_aload_n hx hb dX12_told_8 rfl (lv_at hl 0 rfl) ?_
      obtain ⟨qizh1, hf⟩ := gg_el hf
      obtain ⟨zt2, zh1, qzh1, hf⟩ := gc_el hf
      refine gx_ki (gx_runV (As := []) (rest := [.int zv1]) X hw (c_X12_jobs l E N zv0 zh qzh1) kX12_jobs mm_X12_382 qizh1 clX12 ⟨Nat.le_of_ble_eq_true rfl, Nat.le_of_ble_eq_true rfl⟩ rfl rfl rfl hl.1 (Nat.le_of_ble_eq_true rfl) rfl dX12_told_9 ⟨Nat.le_of_ble_eq_true rfl, Nat.le_of_ble_eq_true rfl⟩) hw (fun H locs hw => ?_)
      refine lv_icmp_ge (tgt := 28) hx hb dX12_told_12 (by decide) (fun qc3 => ?_) (fun qc3 => ?_)
      · have hf := gif_t hf qc3
        refine lv_aload_n hx hb dX12_told_28 rfl (lv_at hl 0 rfl) ?_
        obtain ⟨qizh4, hf⟩ := gg_el hf
        obtain ⟨zt5, zh4, qzh4, hf⟩ := gc_el hf
        refine gx_ki (gx_runV (As := []) (rest := []) X hw (c_X12_jobs l E N zv0 zh1 qzh4) kX12_jobs mm_X12_382 qizh4 clX12 ⟨Nat.le_of_ble_eq_true rfl, Nat.le_of_ble_eq_true rfl⟩ rfl rfl rfl hl.1 (Nat.le_of_ble_eq_true rfl) rfl dX12_told_29 ⟨Nat.le_of_ble_eq_true rfl, Nat.le_of_ble_eq_true rfl⟩) hw (fun H locs hw => ?_)
        refine lv_if_ne (tgt := 39) hx hb dX12_told_32 (by decide) (fun qc6 => ?_) (fun qc6 => ?_)
        · have hf := gif_f hf qc6
          refine lv_aload_n hx hb dX12_told_39 rfl (lv_at hl 0 rfl) ?_
          refine lv_aload_n hx hb dX12_told_40 rfl (lv_at hl 0 rfl) ?_
          refine W.eq (g2 := F0 m 41 ls [.ref (gB E + zv0), .ref (gB E + zv0)]) rfl ?_
          obtain ⟨zt7, qzt7, hf⟩ := gb_el hf
          refine gx_getR X hw qzt7 clX12 (by decide) mf_X12_105 dX12_told_41 ?_
          obtain ⟨qizh8, hf⟩ := gg_el hf
          obtain ⟨zt9, zh8, qzh8, hf⟩ := gc_el hf
          refine gx_ki (gx_runV (As := [.ref (gB E + zt7)]) (rest := []) X hw (c_X12_doneBy l E N zv0 zt7 zh4 qzh8) kX12_doneBy mm_X12_391 qizh8 clX12 ⟨Nat.le_of_ble_eq_true rfl, Nat.le_of_ble_eq_true rfl⟩ rfl rfl rfl hl.1 (Nat.le_of_ble_eq_true rfl) rfl dX12_told_44 ⟨Nat.le_of_ble_eq_true rfl, Nat.le_of_ble_eq_true rfl⟩) hw (fun H locs hw => ?_)
          exact J_47 zt9 _ _ _ ls hf hw (lv_sub hl [] rfl)
        · have hf := gif_t hf qc6
          refine lv_iconst (v := (-1)) hx hb dX12_told_35 (by decide) ?_
          refine lv_goto (tgt := 47) hx hb dX12_told_36 (by decide) ?_
          exact J_47 (-1) _ _ _ ls hf hw (lv_sub hl [] rfl)
      · have hf := gif_f hf qc3
        refine lv_aload_n hx hb dX12_told_15 rfl (lv_at hl 0 rfl) ?_
        obtain ⟨zt10, qzt10, hf⟩ := gb_el hf
        refine gx_getR X hw qzt10 clX12 (by decide) mf_X12_105 dX12_told_16 ?_
        refine lv_iload_n hx hb dX12_told_19 rfl (lv_at hl 1 rfl) ?_
        refine lv_iload_n hx hb dX12_told_20 rfl (lv_at hl 1 rfl) ?_
        obtain ⟨zh11, qzh11, hf⟩ := gb_el hf
        refine gx_iast X hw qzh11 dX12_told_21 (fun H locs hw => ?_)
        refine W.eq (g2 := F0 m 22 ls []) rfl ?_
        obtain ⟨zx12, ezx12⟩ : ∃ y : Int32, y = zv1 + 1 := ⟨_, rfl⟩
        have hf := gl_el hf ezx12
        refine lv_iinc (v := zx12) (lv' := [(1, .int zx12), (0, .ref (gB E + zv0))]) hx hb dX12_told_22 hl (k := 1) rfl (by rw [ezx12]; rfl) (by decide) rfl (fun ls hl => ?_)
        refine lv_goto (tgt := 7) hx hb dX12_told_25 (by decide) ?_
        exact ih_7 zv0 zx12 _ _ _ ls hf hw (lv_sub hl [1, 0] rfl)
  unfold f_X12_told at hf
  refine lv_aload_n hx hb dX12_told_0 rfl (lv_at hl 0 rfl) ?_
  refine lv_iconst (v := 0) hx hb dX12_told_1 (by decide) ?_
  obtain ⟨zh1, qzh1, hf⟩ := gb_el hf
  refine gx_putV X hw qzh1 clX12 (by decide) mf_X12_1 rfl rfl rfl dX12_told_2 (fun H locs hw => ?_)
  refine lv_iconst (v := 0) hx hb dX12_told_5 (by decide) ?_
  refine lv_istore_n (lv' := [(1, .int 0), (0, .ref (gB E + za0))]) hx hb dX12_told_6 rfl hl (by decide) rfl (fun ls hl => ?_)
  exact L_7 N za0 0 _ _ _ ls hf hw (lv_sub hl [1, 0] rfl)
abbrev rm_X12_clear : Room := { frames := 0, cells := 0, slots := 0, locals := 0 }
set_option maxHeartbeats 4000000 in
set_option maxRecDepth 100000 in
theorem c_X12_clear (l : Launch) (E : gE) (N : Nat) (za0 : Nat) (zh : PH) {h9 : PH} {r9 : Int32} (hf : f_X12_clear N za0 zh = some (r9, h9)) : Met l yX12_clear (gWS yX12_clear cX12_clear 1 (some .boolean)) rm_X12_clear (gPc E [.ref (gB E + za0)] zh) (gQi E r9 h9) 0 0 (gA E) := by
  refine gx_met (by decide) ?_ rfl
  intro p e s m below meth c X hr hlk hin2 hw
  have hx := X.1.1
  have hb := X.1.2.1
  have hl := lv_entry [.ref (gB E + za0)] (n := 1) (Nat.le_of_ble_eq_true rfl)
  rw [lg_entry_eq]
  generalize (lg_sl [.ref (gB E + za0)] ++ List.replicate (1 - (lg_sl [.ref (gB E + za0)]).length) Slot.unset).toArray = ls at hl ⊢
  have hl : lv_has ls 1 [(0, .ref (gB E + za0))] := hl
  unfold f_X12_clear at hf
  refine lv_aload_n hx hb dX12_clear_0 rfl (lv_at hl 0 rfl) ?_
  refine lv_iconst (v := 0) hx hb dX12_clear_1 (by decide) ?_
  obtain ⟨zh1, qzh1, hf⟩ := gb_el hf
  refine gx_putV X hw qzh1 clX12 (by decide) mf_X12_1 rfl rfl rfl dX12_clear_2 (fun H locs hw => ?_)
  refine lv_aload_n hx hb dX12_clear_5 rfl (lv_at hl 0 rfl) ?_
  obtain ⟨zt2, qzt2, hf⟩ := gb_el hf
  refine gx_getR X hw qzt2 clX12 (by decide) mf_X12_83 dX12_clear_6 ?_
  refine lv_sipush (v := 402) hx hb dX12_clear_9 (by decide) ?_
  refine lv_iconst (v := 0) hx hb dX12_clear_12 (by decide) ?_
  obtain ⟨zh3, qzh3, hf⟩ := gb_el hf
  refine gx_iast X hw qzh3 dX12_clear_13 (fun H locs hw => ?_)
  refine lv_aload_n hx hb dX12_clear_14 rfl (lv_at hl 0 rfl) ?_
  refine W.eq (g2 := F0 m 15 ls [.ref (gB E + za0)]) rfl ?_
  obtain ⟨zt4, qzt4, hf⟩ := gb_el hf
  refine gx_getR X hw qzt4 clX12 (by decide) mf_X12_83 dX12_clear_15 ?_
  refine lv_sipush (v := 473) hx hb dX12_clear_18 (by decide) ?_
  refine lv_iconst (v := 0) hx hb dX12_clear_21 (by decide) ?_
  obtain ⟨zh5, qzh5, hf⟩ := gb_el hf
  refine gx_iast X hw qzh5 dX12_clear_22 (fun H locs hw => ?_)
  refine lv_iconst (v := 1) hx hb dX12_clear_23 (by decide) ?_
  exact gx_zret X hr hlk hw hf dX12_clear_24
abbrev rm_X12_isBooked : Room := { frames := 1, cells := 0, slots := 0, locals := 20 }
set_option maxHeartbeats 4000000 in
set_option maxRecDepth 100000 in
theorem c_X12_isBooked (l : Launch) (E : gE) (N : Nat) (za0 : Nat) (za1 : Int32) (zh : PH) {h9 : PH} {r9 : Int32} (hf : f_X12_isBooked N za0 za1 zh = some (r9, h9)) : Met l yX12_isBooked (gWS yX12_isBooked cX12_isBooked 4 (some .boolean)) rm_X12_isBooked (gPc E [.ref (gB E + za0), .int za1] zh) (gQi E r9 h9) 0 0 (gA E) := by
  refine gx_met (by decide) ?_ rfl
  intro p e s m below meth c X hr hlk hin2 hw
  have hx := X.1.1
  have hb := X.1.2.1
  have hl := lv_entry [.ref (gB E + za0), .int za1] (n := 4) (Nat.le_of_ble_eq_true rfl)
  rw [lg_entry_eq]
  generalize (lg_sl [.ref (gB E + za0), .int za1] ++ List.replicate (4 - (lg_sl [.ref (gB E + za0), .int za1]).length) Slot.unset).toArray = ls at hl ⊢
  have hl : lv_has ls 4 [(0, .ref (gB E + za0)), (1, .int za1)] := hl
  have L_4 : ∀ (zn4 : Nat) (zv0 : Nat) (zv1 : Int32) (zv2 : Int32) (zv3 : Int32) (zh : PH) (H : Heap) (locs : List Loc) (ls : Array Slot), gi (fun zk zs => f_X12_isBooked_4 N zk zs.1 zs.2.1 zs.2.2.1 zs.2.2.2.1 zs.2.2.2.2) zn4 (zv0, zv1, zv2, zv3, zh) = some (r9, h9) → gw E s zh H locs → lv_has ls 4 [(0, .ref (gB E + zv0)), (1, .int zv1), (2, .int zv2), (3, .int zv3)] → W p l e rm_X12_isBooked s m [.ref (gB E + za0), .int za1].toArray below meth c H locs 0 0 (MQ below (gQi E r9 h9) [.ref (gB E + za0), .int za1].toArray s 0 0 (gA E)) (F0 m 4 ls []) := by
    intro zn4
    induction zn4 with
    | zero =>
      intro zv0 zv1 zv2 zv3 zh H locs ls hf
      cases hf
    | succ zn4 ih_4 =>
      have J_35 : ∀ (zv0 : Nat) (zv1 : Int32) (zv3 : Int32) (zs0 : Int32) (zh : PH) (H : Heap) (locs : List Loc) (ls : Array Slot), f_X12_isBooked_35 N (gi (fun zk zs => f_X12_isBooked_4 N zk zs.1 zs.2.1 zs.2.2.1 zs.2.2.2.1 zs.2.2.2.2) zn4) zv0 zv1 zv3 zs0 zh = some (r9, h9) → gw E s zh H locs → lv_has ls 4 [(0, .ref (gB E + zv0)), (1, .int zv1), (3, .int zv3)] → W p l e rm_X12_isBooked s m [.ref (gB E + za0), .int za1].toArray below meth c H locs 0 0 (MQ below (gQi E r9 h9) [.ref (gB E + za0), .int za1].toArray s 0 0 (gA E)) (F0 m 35 ls [.int zs0]) := by
        intro zv0 zv1 zv3 zs0 zh H locs ls hf hw hl
        unfold f_X12_isBooked_35 at hf
        refine lv_istore_n (lv' := [(2, .int zs0), (0, .ref (gB E + zv0)), (1, .int zv1), (3, .int zv3)]) hx hb dX12_isBooked_35 rfl hl (by decide) rfl (fun ls hl => ?_)
        obtain ⟨zx1, ezx1⟩ : ∃ y : Int32, y = zv3 + 1 := ⟨_, rfl⟩
        have hf := gl_el hf ezx1
        refine lv_iinc (v := zx1) (lv' := [(3, .int zx1), (2, .int zs0), (0, .ref (gB E + zv0)), (1, .int zv1)]) hx hb dX12_isBooked_36 hl (k := 3) rfl (by rw [ezx1]; rfl) (by decide) rfl (fun ls hl => ?_)
        refine lv_goto (tgt := 4) hx hb dX12_isBooked_39 (by decide) ?_
        exact ih_4 zv0 zv1 zs0 zx1 _ _ _ ls hf hw (lv_sub hl [2, 3, 1, 0] rfl)
      have J_30 : ∀ (zv0 : Nat) (zv1 : Int32) (zv3 : Int32) (zh : PH) (H : Heap) (locs : List Loc) (ls : Array Slot), f_X12_isBooked_30 N (gi (fun zk zs => f_X12_isBooked_4 N zk zs.1 zs.2.1 zs.2.2.1 zs.2.2.2.1 zs.2.2.2.2) zn4) zv0 zv1 zv3 zh = some (r9, h9) → gw E s zh H locs → lv_has ls 4 [(0, .ref (gB E + zv0)), (1, .int zv1), (3, .int zv3)] → W p l e rm_X12_isBooked s m [.ref (gB E + za0), .int za1].toArray below meth c H locs 0 0 (MQ below (gQi E r9 h9) [.ref (gB E + za0), .int za1].toArray s 0 0 (gA E)) (F0 m 30 ls []) := by
        intro zv0 zv1 zv3 zh H locs ls hf hw hl
        unfold f_X12_isBooked_30 at hf
        refine lv_iconst (v := 1) hx hb dX12_isBooked_30 (by decide) ?_
        refine lv_goto (tgt := 35) hx hb dX12_isBooked_31 (by decide) ?_
        exact J_35 zv0 zv1 zv3 1 _ _ _ ls hf hw (lv_sub hl [0, 1, 2] rfl)
      intro zv0 zv1 zv2 zv3 zh H locs ls hf hw hl
      have hf := gi_s hf
      dsimp only at hf
      unfold f_X12_isBooked_4 at hf
      refine lv_iload_n hx hb dX12_isBooked_4 rfl (lv_at hl 3 rfl) ?_
      refine lv_aload_n hx hb dX12_isBooked_5 rfl (lv_at hl 0 rfl) ?_
      obtain ⟨qizh1, hf⟩ := gg_el hf
      obtain ⟨zt2, zh1, qzh1, hf⟩ := gc_el hf
      refine gx_ki (gx_runV (As := []) (rest := [.int zv3]) X hw (c_X12_booked l E N zv0 zh qzh1) kX12_booked mm_X12_331 qizh1 clX12 ⟨Nat.le_of_ble_eq_true rfl, Nat.le_of_ble_eq_true rfl⟩ rfl rfl rfl hl.1 (Nat.le_of_ble_eq_true rfl) rfl dX12_isBooked_6 ⟨Nat.le_of_ble_eq_true rfl, Nat.le_of_ble_eq_true rfl⟩) hw (fun H locs hw => ?_)
      refine lv_icmp_ge (tgt := 42) hx hb dX12_isBooked_9 (by decide) (fun qc3 => ?_) (fun qc3 => ?_)
      · have hf := gif_t hf qc3
        refine lv_iload_n hx hb dX12_isBooked_42 rfl (lv_at hl 2 rfl) ?_
        exact gx_zret X hr hlk hw hf dX12_isBooked_43
      · have hf := gif_f hf qc3
        refine lv_iload_n hx hb dX12_isBooked_12 rfl (lv_at hl 2 rfl) ?_
        refine lv_if_ne (tgt := 30) hx hb dX12_isBooked_13 (by decide) (fun qc4 => ?_) (fun qc4 => ?_)
        · have hf := gif_f hf qc4
          exact J_30 zv0 zv1 zv3 _ _ _ ls hf hw (lv_sub hl [0, 1, 3] rfl)
        · have hf := gif_t hf qc4
          refine lv_aload_n hx hb dX12_isBooked_16 rfl (lv_at hl 0 rfl) ?_
          obtain ⟨zt5, qzt5, hf⟩ := gb_el hf
          refine gx_getR X hw qzt5 clX12 (by decide) mf_X12_83 dX12_isBooked_17 ?_
          refine lv_sipush (v := 496) hx hb dX12_isBooked_20 (by decide) ?_
          refine W.eq (g2 := F0 m 23 ls [.int 496, .ref (gB E + zt5)]) rfl ?_
          refine lv_iload_n hx hb dX12_isBooked_23 rfl (lv_at hl 3 rfl) ?_
          refine lv_iadd hx hb dX12_isBooked_24 ?_
          obtain ⟨zt6, qzt6, hf⟩ := gb_el hf
          refine gx_iald X hw qzt6 dX12_isBooked_25 ?_
          refine lv_iload_n hx hb dX12_isBooked_26 rfl (lv_at hl 1 rfl) ?_
          refine lv_icmp_ne (tgt := 34) hx hb dX12_isBooked_27 (by decide) (fun qc7 => ?_) (fun qc7 => ?_)
          · have hf := gif_f hf qc7
            refine lv_iconst (v := 0) hx hb dX12_isBooked_34 (by decide) ?_
            exact J_35 zv0 zv1 zv3 0 _ _ _ ls hf hw (lv_sub hl [0, 1, 3] rfl)
          · have hf := gif_t hf qc7
            exact J_30 zv0 zv1 zv3 _ _ _ ls hf hw (lv_sub hl [0, 1, 3] rfl)
  unfold f_X12_isBooked at hf
  refine lv_iconst (v := 0) hx hb dX12_isBooked_0 (by decide) ?_
  refine lv_istore_n (lv' := [(2, .int 0), (0, .ref (gB E + za0)), (1, .int za1)]) hx hb dX12_isBooked_1 rfl hl (by decide) rfl (fun ls hl => ?_)
  refine lv_iconst (v := 0) hx hb dX12_isBooked_2 (by decide) ?_
  refine lv_istore_n (lv' := [(3, .int 0), (2, .int 0), (0, .ref (gB E + za0)), (1, .int za1)]) hx hb dX12_isBooked_3 rfl hl (by decide) rfl (fun ls hl => ?_)
  exact L_4 N za0 za1 0 0 _ _ _ ls hf hw (lv_sub hl [2, 3, 1, 0] rfl)
abbrev rm_X12_book : Room := { frames := 7, cells := 0, slots := 0, locals := 161 }
set_option maxHeartbeats 4000000 in
set_option maxRecDepth 100000 in
theorem c_X12_book (l : Launch) (E : gE) (N : Nat) (za0 : Nat) (za1 : Int32) (zh : PH) {h9 : PH} {r9 : Int32} (hf : f_X12_book N za0 za1 zh = some (r9, h9)) : Met l yX12_book (gWS yX12_book cX12_book 2 (some .int)) rm_X12_book (gPc E [.ref (gB E + za0), .int za1] zh) (gQi E r9 h9) 0 0 (gA E) := by
  refine gx_met (by decide) ?_ rfl
  intro p e s m below meth c X hr hlk hin2 hw
  have hx := X.1.1
  have hb := X.1.2.1
  have hl := lv_entry [.ref (gB E + za0), .int za1] (n := 2) (Nat.le_of_ble_eq_true rfl)
  rw [lg_entry_eq]
  generalize (lg_sl [.ref (gB E + za0), .int za1] ++ List.replicate (2 - (lg_sl [.ref (gB E + za0), .int za1]).length) Slot.unset).toArray = ls at hl ⊢
  have hl : lv_has ls 2 [(0, .ref (gB E + za0)), (1, .int za1)] := hl
  have J_53 : ∀ (zh : PH) (H : Heap) (locs : List Loc) (ls : Array Slot), f_X12_book_53 N zh = some (r9, h9) → gw E s zh H locs → lv_has ls 2 [] → W p l e rm_X12_book s m [.ref (gB E + za0), .int za1].toArray below meth c H locs 0 0 (MQ below (gQi E r9 h9) [.ref (gB E + za0), .int za1].toArray s 0 0 (gA E)) (F0 m 53 ls []) := by
    intro zh H locs ls hf hw hl
    unfold f_X12_book_53 at hf
    refine lv_iconst (v := (-1)) hx hb dX12_book_53 (by decide) ?_
    exact gx_iret X hr hlk hw hf dX12_book_54
  unfold f_X12_book at hf
  refine lv_aload_n hx hb dX12_book_0 rfl (lv_at hl 0 rfl) ?_
  refine lv_iconst (v := 0) hx hb dX12_book_1 (by decide) ?_
  obtain ⟨zh1, qzh1, hf⟩ := gb_el hf
  refine gx_putV X hw qzh1 clX12 (by decide) mf_X12_1 rfl rfl rfl dX12_book_2 (fun H locs hw => ?_)
  refine lv_iload_n hx hb dX12_book_5 rfl (lv_at hl 1 rfl) ?_
  refine lv_if_ge (tgt := 20) hx hb dX12_book_6 (by decide) (fun qc2 => ?_) (fun qc2 => ?_)
  · have hf := gif_t hf qc2
    refine lv_aload_n hx hb dX12_book_20 rfl (lv_at hl 0 rfl) ?_
    refine lv_iload_n hx hb dX12_book_21 rfl (lv_at hl 1 rfl) ?_
    obtain ⟨qizh3, hf⟩ := gg_el hf
    obtain ⟨zt4, zh3, qzh3, hf⟩ := gc_el hf
    refine gx_ki (gx_runV (As := [.int za1]) (rest := []) X hw (c_X12_isGuest l E N za0 za1 zh1 qzh3) kX12_isGuest mm_X12_312 qizh3 clX12 ⟨Nat.le_of_ble_eq_true rfl, Nat.le_of_ble_eq_true rfl⟩ rfl rfl rfl hl.1 (Nat.le_of_ble_eq_true rfl) rfl dX12_book_22 ⟨Nat.le_of_ble_eq_true rfl, Nat.le_of_ble_eq_true rfl⟩) hw (fun H locs hw => ?_)
    refine lv_if_eq (tgt := 53) hx hb dX12_book_25 (by decide) (fun qc5 => ?_) (fun qc5 => ?_)
    · have hf := gif_t hf qc5
      exact J_53  _ _ _ ls hf hw (lv_sub hl [] rfl)
    · have hf := gif_f hf qc5
      refine W.eq (g2 := F0 m 28 ls []) rfl ?_
      refine lv_aload_n hx hb dX12_book_28 rfl (lv_at hl 0 rfl) ?_
      refine lv_iload_n hx hb dX12_book_29 rfl (lv_at hl 1 rfl) ?_
      obtain ⟨qizh6, hf⟩ := gg_el hf
      obtain ⟨zt7, zh6, qzh6, hf⟩ := gc_el hf
      refine gx_ki (gx_runV (As := [.int za1]) (rest := []) X hw (c_X12_roomNow l E N za0 za1 zh3 qzh6) kX12_roomNow mm_X12_315 qizh6 clX12 ⟨Nat.le_of_ble_eq_true rfl, Nat.le_of_ble_eq_true rfl⟩ rfl rfl rfl hl.1 (Nat.le_of_ble_eq_true rfl) rfl dX12_book_30 ⟨Nat.le_of_ble_eq_true rfl, Nat.le_of_ble_eq_true rfl⟩) hw (fun H locs hw => ?_)
      refine lv_if_ge (tgt := 53) hx hb dX12_book_33 (by decide) (fun qc8 => ?_) (fun qc8 => ?_)
      · have hf := gif_t hf qc8
        exact J_53  _ _ _ ls hf hw (lv_sub hl [] rfl)
      · have hf := gif_f hf qc8
        refine lv_aload_n hx hb dX12_book_36 rfl (lv_at hl 0 rfl) ?_
        refine lv_iload_n hx hb dX12_book_37 rfl (lv_at hl 1 rfl) ?_
        obtain ⟨qizh9, hf⟩ := gg_el hf
        obtain ⟨zt10, zh9, qzh9, hf⟩ := gc_el hf
        refine gx_ki (gx_runV (As := [.int za1]) (rest := []) X hw (c_X12_isBooked l E N za0 za1 zh6 qzh9) kX12_isBooked mm_X12_404 qizh9 clX12 ⟨Nat.le_of_ble_eq_true rfl, Nat.le_of_ble_eq_true rfl⟩ rfl rfl rfl hl.1 (Nat.le_of_ble_eq_true rfl) rfl dX12_book_38 ⟨Nat.le_of_ble_eq_true rfl, Nat.le_of_ble_eq_true rfl⟩) hw (fun H locs hw => ?_)
        refine lv_if_ne (tgt := 53) hx hb dX12_book_41 (by decide) (fun qc11 => ?_) (fun qc11 => ?_)
        · have hf := gif_f hf qc11
          exact J_53  _ _ _ ls hf hw (lv_sub hl [] rfl)
        · have hf := gif_t hf qc11
          refine lv_aload_n hx hb dX12_book_44 rfl (lv_at hl 0 rfl) ?_
          obtain ⟨qizh12, hf⟩ := gg_el hf
          obtain ⟨zt13, zh12, qzh12, hf⟩ := gc_el hf
          refine gx_ki (gx_runV (As := []) (rest := []) X hw (c_X12_booked l E N za0 zh9 qzh12) kX12_booked mm_X12_331 qizh12 clX12 ⟨Nat.le_of_ble_eq_true rfl, Nat.le_of_ble_eq_true rfl⟩ rfl rfl rfl hl.1 (Nat.le_of_ble_eq_true rfl) rfl dX12_book_45 ⟨Nat.le_of_ble_eq_true rfl, Nat.le_of_ble_eq_true rfl⟩) hw (fun H locs hw => ?_)
          refine W.eq (g2 := F0 m 48 ls [.int zt13]) rfl ?_
          refine lv_bipush (v := 7) hx hb dX12_book_48 (by decide) ?_
          refine lv_icmp_ne (tgt := 55) hx hb dX12_book_50 (by decide) (fun qc14 => ?_) (fun qc14 => ?_)
          · have hf := gif_f hf qc14
            refine lv_aload_n hx hb dX12_book_55 rfl (lv_at hl 0 rfl) ?_
            obtain ⟨zt15, qzt15, hf⟩ := gb_el hf
            refine gx_getR X hw qzt15 clX12 (by decide) mf_X12_83 dX12_book_56 ?_
            refine lv_sipush (v := 496) hx hb dX12_book_59 (by decide) ?_
            refine lv_aload_n hx hb dX12_book_62 rfl (lv_at hl 0 rfl) ?_
            obtain ⟨qizh16, hf⟩ := gg_el hf
            obtain ⟨zt17, zh16, qzh16, hf⟩ := gc_el hf
            refine gx_ki (gx_runV (As := []) (rest := [.int 496, .ref (gB E + zt15)]) X hw (c_X12_booked l E N za0 zh12 qzh16) kX12_booked mm_X12_331 qizh16 clX12 ⟨Nat.le_of_ble_eq_true rfl, Nat.le_of_ble_eq_true rfl⟩ rfl rfl rfl hl.1 (Nat.le_of_ble_eq_true rfl) rfl dX12_book_63 ⟨Nat.le_of_ble_eq_true rfl, Nat.le_of_ble_eq_true rfl⟩) hw (fun H locs hw => ?_)
            refine lv_iadd hx hb dX12_book_66 ?_
            refine lv_iload_n hx hb dX12_book_67 rfl (lv_at hl 1 rfl) ?_
            obtain ⟨zh18, qzh18, hf⟩ := gb_el hf
            refine gx_iast X hw qzh18 dX12_book_68 (fun H locs hw => ?_)
            refine W.eq (g2 := F0 m 69 ls []) rfl ?_
            refine lv_aload_n hx hb dX12_book_69 rfl (lv_at hl 0 rfl) ?_
            obtain ⟨zt19, qzt19, hf⟩ := gb_el hf
            refine gx_getR X hw qzt19 clX12 (by decide) mf_X12_83 dX12_book_70 ?_
            refine lv_sipush (v := 495) hx hb dX12_book_73 (by decide) ?_
            refine lv_dup2_11 hx hb dX12_book_76 rfl rfl ?_
            obtain ⟨zt20, qzt20, hf⟩ := gb_el hf
            refine gx_iald X hw qzt20 dX12_book_77 ?_
            refine lv_iconst (v := 1) hx hb dX12_book_78 (by decide) ?_
            refine lv_iadd hx hb dX12_book_79 ?_
            obtain ⟨zh21, qzh21, hf⟩ := gb_el hf
            refine gx_iast X hw qzh21 dX12_book_80 (fun H locs hw => ?_)
            refine lv_aload_n hx hb dX12_book_81 rfl (lv_at hl 0 rfl) ?_
            obtain ⟨qizh22, hf⟩ := gg_el hf
            obtain ⟨zt23, zh22, qzh22, hf⟩ := gc_el hf
            refine gx_ki (gx_runV (As := []) (rest := []) X hw (c_X12_booked l E N za0 zh21 qzh22) kX12_booked mm_X12_331 qizh22 clX12 ⟨Nat.le_of_ble_eq_true rfl, Nat.le_of_ble_eq_true rfl⟩ rfl rfl rfl hl.1 (Nat.le_of_ble_eq_true rfl) rfl dX12_book_82 ⟨Nat.le_of_ble_eq_true rfl, Nat.le_of_ble_eq_true rfl⟩) hw (fun H locs hw => ?_)
            refine W.eq (g2 := F0 m 85 ls [.int zt23]) rfl ?_
            exact gx_iret X hr hlk hw hf dX12_book_85
          · have hf := gif_t hf qc14
            exact J_53  _ _ _ ls hf hw (lv_sub hl [] rfl)
  · have hf := gif_f hf qc2
    refine lv_aload_n hx hb dX12_book_9 rfl (lv_at hl 0 rfl) ?_
    obtain ⟨zt24, qzt24, hf⟩ := gb_el hf
    refine gx_getR X hw qzt24 clX12 (by decide) mf_X12_83 dX12_book_10 ?_
    refine lv_sipush (v := 495) hx hb dX12_book_13 (by decide) ?_
    refine lv_iconst (v := 0) hx hb dX12_book_16 (by decide) ?_
    refine W.eq (g2 := F0 m 17 ls [.int 0, .int 495, .ref (gB E + zt24)]) rfl ?_
    obtain ⟨zh25, qzh25, hf⟩ := gb_el hf
    refine gx_iast X hw qzh25 dX12_book_17 (fun H locs hw => ?_)
    refine lv_iconst (v := 0) hx hb dX12_book_18 (by decide) ?_
    exact gx_iret X hr hlk hw hf dX12_book_19
abbrev rm_X12_comesAll : Room := { frames := 6, cells := 0, slots := 0, locals := 140 }
set_option maxHeartbeats 4000000 in
set_option maxRecDepth 100000 in
theorem c_X12_comesAll (l : Launch) (E : gE) (N : Nat) (za0 : Nat) (zh : PH) {h9 : PH} (hf : f_X12_comesAll N za0 zh = some h9) : Met l yX12_comesAll (gWS yX12_comesAll cX12_comesAll 4 none) rm_X12_comesAll (gPc E [.ref (gB E + za0)] zh) (gQv E h9) 0 0 (gA E) := by
  refine gx_met (by decide) ?_ rfl
  intro p e s m below meth c X hr hlk hin2 hw
  have hx := X.1.1
  have hb := X.1.2.1
  have hl := lv_entry [.ref (gB E + za0)] (n := 4) (Nat.le_of_ble_eq_true rfl)
  rw [lg_entry_eq]
  generalize (lg_sl [.ref (gB E + za0)] ++ List.replicate (4 - (lg_sl [.ref (gB E + za0)]).length) Slot.unset).toArray = ls at hl ⊢
  have hl : lv_has ls 4 [(0, .ref (gB E + za0))] := hl
  have L_26 : ∀ (zn26 : Nat) (zv0 : Nat) (zv1 : Int32) (zv2 : Int32) (zv3 : Int32) (zh : PH) (H : Heap) (locs : List Loc) (ls : Array Slot), gi (fun zk zs => f_X12_comesAll_26 N zk zs.1 zs.2.1 zs.2.2.1 zs.2.2.2.1 zs.2.2.2.2) zn26 (zv0, zv1, zv2, zv3, zh) = some h9 → gw E s zh H locs → lv_has ls 4 [(0, .ref (gB E + zv0)), (1, .int zv1), (2, .int zv2), (3, .int zv3)] → W p l e rm_X12_comesAll s m [.ref (gB E + za0)].toArray below meth c H locs 0 0 (MQ below (gQv E h9) [.ref (gB E + za0)].toArray s 0 0 (gA E)) (F0 m 26 ls []) := by
    intro zn26
    induction zn26 with
    | zero =>
      intro zv0 zv1 zv2 zv3 zh H locs ls hf
      cases hf
    | succ zn26 ih_26 =>
      intro zv0 zv1 zv2 zv3 zh H locs ls hf hw hl
      have hf := gi_s hf
      dsimp only at hf
      unfold f_X12_comesAll_26 at hf
      refine lv_iload_n hx hb dX12_comesAll_26 rfl (lv_at hl 3 rfl) ?_
      refine lv_aload_n hx hb dX12_comesAll_27 rfl (lv_at hl 0 rfl) ?_
      obtain ⟨qizh1, hf⟩ := gg_el hf
      obtain ⟨zt2, zh1, qzh1, hf⟩ := gc_el hf
      refine gx_ki (gx_runV (As := []) (rest := [.int zv3]) X hw (c_X12_booked l E N zv0 zh qzh1) kX12_booked mm_X12_331 qizh1 clX12 ⟨Nat.le_of_ble_eq_true rfl, Nat.le_of_ble_eq_true rfl⟩ rfl rfl rfl hl.1 (Nat.le_of_ble_eq_true rfl) rfl dX12_comesAll_28 ⟨Nat.le_of_ble_eq_true rfl, Nat.le_of_ble_eq_true rfl⟩) hw (fun H locs hw => ?_)
      refine lv_icmp_ge (tgt := 50) hx hb dX12_comesAll_31 (by decide) (fun qc3 => ?_) (fun qc3 => ?_)
      · have hf := gif_t hf qc3
        refine lv_aload_n hx hb dX12_comesAll_50 rfl (lv_at hl 0 rfl) ?_
        refine lv_aload_n hx hb dX12_comesAll_51 rfl (lv_at hl 0 rfl) ?_
        obtain ⟨zt4, qzt4, hf⟩ := gb_el hf
        refine gx_getR X hw qzt4 clX12 (by decide) mf_X12_89 dX12_comesAll_52 ?_
        refine lv_aload_n hx hb dX12_comesAll_55 rfl (lv_at hl 0 rfl) ?_
        obtain ⟨zt5, qzt5, hf⟩ := gb_el hf
        refine gx_getI X hw qzt5 clX12 (by decide) mf_X12_407 dX12_comesAll_56 ?_
        refine W.eq (g2 := F0 m 59 ls [.int zt5, .ref (gB E + zt4), .ref (gB E + zv0)]) rfl ?_
        obtain ⟨zt6, qzt6, hf⟩ := gb_el hf
        refine gx_iald X hw qzt6 dX12_comesAll_59 ?_
        refine lv_iload_n hx hb dX12_comesAll_60 rfl (lv_at hl 1 rfl) ?_
        refine lv_isub hx hb dX12_comesAll_61 ?_
        obtain ⟨zh7, qzh7, hf⟩ := gb_el hf
        refine gx_putV X hw qzh7 clX12 (by decide) mf_X12_410 rfl rfl rfl dX12_comesAll_62 (fun H locs hw => ?_)
        refine lv_aload_n hx hb dX12_comesAll_65 rfl (lv_at hl 0 rfl) ?_
        refine lv_aload_n hx hb dX12_comesAll_66 rfl (lv_at hl 0 rfl) ?_
        obtain ⟨zt8, qzt8, hf⟩ := gb_el hf
        refine gx_getI X hw qzt8 clX12 (by decide) mf_X12_243 dX12_comesAll_67 ?_
        refine lv_iload_n hx hb dX12_comesAll_70 rfl (lv_at hl 2 rfl) ?_
        refine lv_isub hx hb dX12_comesAll_71 ?_
        obtain ⟨zh9, qzh9, hf⟩ := gb_el hf
        refine gx_putV X hw qzh9 clX12 (by decide) mf_X12_413 rfl rfl rfl dX12_comesAll_72 (fun H locs hw => ?_)
        refine W.eq (g2 := F0 m 75 ls []) rfl ?_
        refine lv_aload_n hx hb dX12_comesAll_75 rfl (lv_at hl 0 rfl) ?_
        refine lv_iconst (v := 1) hx hb dX12_comesAll_76 (by decide) ?_
        obtain ⟨zh10, qzh10, hf⟩ := gb_el hf
        refine gx_putV X hw qzh10 clX12 (by decide) mf_X12_123 rfl rfl rfl dX12_comesAll_77 (fun H locs hw => ?_)
        exact gx_vret X hr hlk hw hf dX12_comesAll_80
      · have hf := gif_f hf qc3
        refine lv_aload_n hx hb dX12_comesAll_34 rfl (lv_at hl 0 rfl) ?_
        refine lv_aload_n hx hb dX12_comesAll_35 rfl (lv_at hl 0 rfl) ?_
        obtain ⟨zt11, qzt11, hf⟩ := gb_el hf
        refine gx_getR X hw qzt11 clX12 (by decide) mf_X12_105 dX12_comesAll_36 ?_
        refine lv_iload_n hx hb dX12_comesAll_39 rfl (lv_at hl 3 rfl) ?_
        obtain ⟨zt12, qzt12, hf⟩ := gb_el hf
        refine gx_iald X hw qzt12 dX12_comesAll_40 ?_
        refine W.eq (g2 := F0 m 41 ls [.int zt12, .ref (gB E + zv0)]) rfl ?_
        obtain ⟨qizh13, hf⟩ := gg_el hf
        obtain ⟨zh13, qzh13, hf⟩ := gb_el hf
        refine gx_kv (gx_runV (As := [.int zt12]) (rest := []) X hw (c_X12_comes l E N zv0 zt12 zh1 qzh13) kX12_comes mm_X12_290 qizh13 clX12 ⟨Nat.le_of_ble_eq_true rfl, Nat.le_of_ble_eq_true rfl⟩ rfl rfl rfl hl.1 (Nat.le_of_ble_eq_true rfl) rfl dX12_comesAll_41 ⟨Nat.le_of_ble_eq_true rfl, Nat.le_of_ble_eq_true rfl⟩) hw (fun H locs hw => ?_)
        obtain ⟨zx14, ezx14⟩ : ∃ y : Int32, y = zv3 + 1 := ⟨_, rfl⟩
        have hf := gl_el hf ezx14
        refine lv_iinc (v := zx14) (lv' := [(3, .int zx14), (0, .ref (gB E + zv0)), (1, .int zv1), (2, .int zv2)]) hx hb dX12_comesAll_44 hl (k := 3) rfl (by rw [ezx14]; rfl) (by decide) rfl (fun ls hl => ?_)
        refine lv_goto (tgt := 26) hx hb dX12_comesAll_47 (by decide) ?_
        exact ih_26 zv0 zv1 zv2 zx14 _ _ _ ls hf hw (lv_sub hl [1, 2, 3, 0] rfl)
  unfold f_X12_comesAll at hf
  refine lv_aload_n hx hb dX12_comesAll_0 rfl (lv_at hl 0 rfl) ?_
  refine lv_iconst (v := 1) hx hb dX12_comesAll_1 (by decide) ?_
  obtain ⟨zh1, qzh1, hf⟩ := gb_el hf
  refine gx_putV X hw qzh1 clX12 (by decide) mf_X12_123 rfl rfl rfl dX12_comesAll_2 (fun H locs hw => ?_)
  refine lv_aload_n hx hb dX12_comesAll_5 rfl (lv_at hl 0 rfl) ?_
  obtain ⟨qizh2, hf⟩ := gg_el hf
  obtain ⟨zh2, qzh2, hf⟩ := gb_el hf
  refine gx_kv (gx_runV (As := []) (rest := []) X hw (c_X12_find l E N za0 zh1 qzh2) kX12_find mm_X12_300 qizh2 clX12 ⟨Nat.le_of_ble_eq_true rfl, Nat.le_of_ble_eq_true rfl⟩ rfl rfl rfl hl.1 (Nat.le_of_ble_eq_true rfl) rfl dX12_comesAll_6 ⟨Nat.le_of_ble_eq_true rfl, Nat.le_of_ble_eq_true rfl⟩) hw (fun H locs hw => ?_)
  refine lv_aload_n hx hb dX12_comesAll_9 rfl (lv_at hl 0 rfl) ?_
  obtain ⟨zt3, qzt3, hf⟩ := gb_el hf
  refine gx_getR X hw qzt3 clX12 (by decide) mf_X12_89 dX12_comesAll_10 ?_
  refine lv_aload_n hx hb dX12_comesAll_13 rfl (lv_at hl 0 rfl) ?_
  obtain ⟨zt4, qzt4, hf⟩ := gb_el hf
  refine gx_getI X hw qzt4 clX12 (by decide) mf_X12_407 dX12_comesAll_14 ?_
  refine W.eq (g2 := F0 m 17 ls [.int zt4, .ref (gB E + zt3)]) rfl ?_
  obtain ⟨zt5, qzt5, hf⟩ := gb_el hf
  refine gx_iald X hw qzt5 dX12_comesAll_17 ?_
  refine lv_istore_n (lv' := [(1, .int zt5), (0, .ref (gB E + za0))]) hx hb dX12_comesAll_18 rfl hl (by decide) rfl (fun ls hl => ?_)
  refine lv_aload_n hx hb dX12_comesAll_19 rfl (lv_at hl 1 rfl) ?_
  obtain ⟨zt6, qzt6, hf⟩ := gb_el hf
  refine gx_getI X hw qzt6 clX12 (by decide) mf_X12_243 dX12_comesAll_20 ?_
  refine lv_istore_n (lv' := [(2, .int zt6), (1, .int zt5), (0, .ref (gB E + za0))]) hx hb dX12_comesAll_23 rfl hl (by decide) rfl (fun ls hl => ?_)
  refine lv_iconst (v := 0) hx hb dX12_comesAll_24 (by decide) ?_
  refine lv_istore_n (lv' := [(3, .int 0), (2, .int zt6), (1, .int zt5), (0, .ref (gB E + za0))]) hx hb dX12_comesAll_25 rfl hl (by decide) rfl (fun ls hl => ?_)
  exact L_26 N za0 zt5 zt6 0 _ _ _ ls hf hw (lv_sub hl [3, 2, 1, 0] rfl)
abbrev rm_gO (zd : Nat) : Room := { frames := zd + 7, cells := 0, slots := 0, locals := 24 * zd + 163 }
set_option maxHeartbeats 4000000 in
set_option maxRecDepth 100000 in
theorem cg_gO (l : Launch) (E : gE) (N : Nat) : ∀ zd : Nat, (∀ (za0 : Nat) (za1 : Int32) (za2 : Int32) (zh h9 : PH), (g_gO N zd) za0 za1 za2 zh = some h9 → Met l yX12_triesBooked (gWS yX12_triesBooked cX12_triesBooked 5 none) (rm_gO zd) (gPc E [.ref (gB E + za0), .int za1, .int za2] zh) (gQv E h9) 0 0 (gA E)) := by
  intro zd
  induction zd with
  | zero => exact (fun _ _ _ _ _ hf => by cases hf)
  | succ zd ih =>
    · intro za0 za1 za2 zh h9 hf
      have hf : b_X12_triesBooked N (g_gO N zd) za0 za1 za2 zh = some h9 := hf
      refine gx_met (by decide) ?_ rfl
      intro p e s m below meth c X hr hlk hin2 hw
      have hx := X.1.1
      have hb := X.1.2.1
      have hl := lv_entry [.ref (gB E + za0), .int za1, .int za2] (n := 5) (Nat.le_of_ble_eq_true rfl)
      rw [lg_entry_eq]
      generalize (lg_sl [.ref (gB E + za0), .int za1, .int za2] ++ List.replicate (5 - (lg_sl [.ref (gB E + za0), .int za1, .int za2]).length) Slot.unset).toArray = ls at hl ⊢
      have hl : lv_has ls 5 [(0, .ref (gB E + za0)), (1, .int za1), (2, .int za2)] := hl
      have L_110 : ∀ (zn110 : Nat) (zv0 : Nat) (zv1 : Int32) (zv2 : Int32) (zv3 : Int32) (zh : PH) (H : Heap) (locs : List Loc) (ls : Array Slot), gi (fun zk zs => f_X12_triesBooked_110 N (g_gO N zd) zk zs.1 zs.2.1 zs.2.2.1 zs.2.2.2.1 zs.2.2.2.2) zn110 (zv0, zv1, zv2, zv3, zh) = some h9 → gw E s zh H locs → lv_has ls 5 [(0, .ref (gB E + zv0)), (1, .int zv1), (2, .int zv2), (3, .int zv3)] → W p l e (rm_gO (zd + 1)) s m [.ref (gB E + za0), .int za1, .int za2].toArray below meth c H locs 0 0 (MQ below (gQv E h9) [.ref (gB E + za0), .int za1, .int za2].toArray s 0 0 (gA E)) (F0 m 110 ls []) := by
        intro zn110
        induction zn110 with
        | zero =>
          intro zv0 zv1 zv2 zv3 zh H locs ls hf
          cases hf
        | succ zn110 ih_110 =>
          have J_153 : ∀ (zv0 : Nat) (zv1 : Int32) (zv2 : Int32) (zv3 : Int32) (zh : PH) (H : Heap) (locs : List Loc) (ls : Array Slot), f_X12_triesBooked_153 N (g_gO N zd) (gi (fun zk zs => f_X12_triesBooked_110 N (g_gO N zd) zk zs.1 zs.2.1 zs.2.2.1 zs.2.2.2.1 zs.2.2.2.2) zn110) zv0 zv1 zv2 zv3 zh = some h9 → gw E s zh H locs → lv_has ls 5 [(0, .ref (gB E + zv0)), (1, .int zv1), (2, .int zv2), (3, .int zv3)] → W p l e (rm_gO (zd + 1)) s m [.ref (gB E + za0), .int za1, .int za2].toArray below meth c H locs 0 0 (MQ below (gQv E h9) [.ref (gB E + za0), .int za1, .int za2].toArray s 0 0 (gA E)) (F0 m 153 ls []) := by
            intro zv0 zv1 zv2 zv3 zh H locs ls hf hw hl
            unfold f_X12_triesBooked_153 at hf
            obtain ⟨zx1, ezx1⟩ : ∃ y : Int32, y = zv3 + 1 := ⟨_, rfl⟩
            have hf := gl_el hf ezx1
            refine lv_iinc (v := zx1) (lv' := [(3, .int zx1), (0, .ref (gB E + zv0)), (1, .int zv1), (2, .int zv2)]) hx hb dX12_triesBooked_153 hl (k := 3) rfl (by rw [ezx1]; rfl) (by decide) rfl (fun ls hl => ?_)
            refine lv_goto (tgt := 110) hx hb dX12_triesBooked_156 (by decide) ?_
            exact ih_110 zv0 zv1 zv2 zx1 _ _ _ ls hf hw (lv_sub hl [1, 2, 3, 0] rfl)
          intro zv0 zv1 zv2 zv3 zh H locs ls hf hw hl
          have hf := gi_s hf
          dsimp only at hf
          unfold f_X12_triesBooked_110 at hf
          refine lv_iload_n hx hb dX12_triesBooked_110 rfl (lv_at hl 3 rfl) ?_
          refine lv_aload_n hx hb dX12_triesBooked_111 rfl (lv_at hl 0 rfl) ?_
          obtain ⟨qizh1, hf⟩ := gg_el hf
          obtain ⟨zt2, zh1, qzh1, hf⟩ := gc_el hf
          refine gx_ki (gx_runV (As := []) (rest := [.int zv3]) X hw (c_X12_guests l E N zv0 zh qzh1) kX12_guests mm_X12_234 qizh1 clX12 ⟨by dsimp only [rm_gO, rm_X12_guests]; omega, by dsimp only [rm_gO, rm_X12_guests]; omega⟩ rfl rfl rfl hl.1 (Nat.le_of_ble_eq_true rfl) rfl dX12_triesBooked_112 ⟨Nat.le_of_ble_eq_true rfl, Nat.le_of_ble_eq_true rfl⟩) hw (fun H locs hw => ?_)
          refine lv_icmp_ge (tgt := 159) hx hb dX12_triesBooked_115 (by decide) (fun qc3 => ?_) (fun qc3 => ?_)
          · have hf := gif_t hf qc3
            exact gx_vret X hr hlk hw hf dX12_triesBooked_159
          · have hf := gif_f hf qc3
            refine lv_aload_n hx hb dX12_triesBooked_118 rfl (lv_at hl 0 rfl) ?_
            refine lv_iload_n hx hb dX12_triesBooked_119 rfl (lv_at hl 3 rfl) ?_
            obtain ⟨qizh4, hf⟩ := gg_el hf
            obtain ⟨zt5, zh4, qzh4, hf⟩ := gc_el hf
            refine gx_ki (gx_runV (As := [.int zv3]) (rest := []) X hw (c_X12_isBooked l E N zv0 zv3 zh1 qzh4) kX12_isBooked mm_X12_404 qizh4 clX12 ⟨by dsimp only [rm_gO, rm_X12_isBooked]; omega, by dsimp only [rm_gO, rm_X12_isBooked]; omega⟩ rfl rfl rfl hl.1 (Nat.le_of_ble_eq_true rfl) rfl dX12_triesBooked_120 ⟨Nat.le_of_ble_eq_true rfl, Nat.le_of_ble_eq_true rfl⟩) hw (fun H locs hw => ?_)
            refine lv_if_eq (tgt := 153) hx hb dX12_triesBooked_123 (by decide) (fun qc6 => ?_) (fun qc6 => ?_)
            · have hf := gif_t hf qc6
              exact J_153 zv0 zv1 zv2 zv3 _ _ _ ls hf hw (lv_sub hl [0, 1, 2, 3] rfl)
            · have hf := gif_f hf qc6
              refine lv_iload_n hx hb dX12_triesBooked_126 rfl (lv_at hl 2 rfl) ?_
              refine W.eq (g2 := F0 m 127 ls [.int zv2]) rfl ?_
              refine lv_iload_n hx hb dX12_triesBooked_127 rfl (lv_at hl 3 rfl) ?_
              refine lv_ishr hx hb dX12_triesBooked_128 ?_
              refine lv_iconst (v := 1) hx hb dX12_triesBooked_129 (by decide) ?_
              refine lv_iand hx hb dX12_triesBooked_130 ?_
              refine lv_if_ne (tgt := 153) hx hb dX12_triesBooked_131 (by decide) (fun qc7 => ?_) (fun qc7 => ?_)
              · have hf := gif_f hf qc7
                exact J_153 zv0 zv1 zv2 zv3 _ _ _ ls hf hw (lv_sub hl [0, 1, 2, 3] rfl)
              · have hf := gif_t hf qc7
                refine lv_aload_n hx hb dX12_triesBooked_134 rfl (lv_at hl 0 rfl) ?_
                obtain ⟨zt8, qzt8, hf⟩ := gb_el hf
                refine gx_getR X hw qzt8 clX12 (by decide) mf_X12_105 dX12_triesBooked_135 ?_
                refine lv_iload_n hx hb dX12_triesBooked_138 rfl (lv_at hl 1 rfl) ?_
                refine lv_iload_n hx hb dX12_triesBooked_139 rfl (lv_at hl 3 rfl) ?_
                obtain ⟨zh9, qzh9, hf⟩ := gb_el hf
                refine gx_iast X hw qzh9 dX12_triesBooked_140 (fun H locs hw => ?_)
                refine W.eq (g2 := F0 m 141 ls []) rfl ?_
                refine lv_aload_n hx hb dX12_triesBooked_141 rfl (lv_at hl 0 rfl) ?_
                refine lv_iload_n hx hb dX12_triesBooked_142 rfl (lv_at hl 1 rfl) ?_
                refine lv_iconst (v := 1) hx hb dX12_triesBooked_143 (by decide) ?_
                refine lv_iadd hx hb dX12_triesBooked_144 ?_
                refine lv_iload_n hx hb dX12_triesBooked_145 rfl (lv_at hl 2 rfl) ?_
                refine lv_iconst (v := 1) hx hb dX12_triesBooked_146 (by decide) ?_
                refine lv_iload_n hx hb dX12_triesBooked_147 rfl (lv_at hl 3 rfl) ?_
                refine lv_ishl hx hb dX12_triesBooked_148 ?_
                refine lv_ior hx hb dX12_triesBooked_149 ?_
                obtain ⟨qizh10, hf⟩ := gg_el hf
                obtain ⟨zh10, qzh10, hf⟩ := gb_el hf
                refine gx_kv (gx_runV (As := [.int (zv1 + 1), .int (zv2 ||| (1 <<< (zv3 &&& 31)))]) (rest := []) X hw (ih zv0 (zv1 + 1) (zv2 ||| (1 <<< (zv3 &&& 31))) zh9 _ qzh10) kX12_triesBooked mm_X12_425 qizh10 clX12 ⟨by dsimp only [rm_gO]; omega, by dsimp only [rm_gO]; omega⟩ rfl rfl rfl hl.1 (Nat.le_of_ble_eq_true rfl) rfl dX12_triesBooked_150 ⟨Nat.le_of_ble_eq_true rfl, Nat.le_of_ble_eq_true rfl⟩) hw (fun H locs hw => ?_)
                exact J_153 zv0 zv1 zv2 zv3 _ _ _ ls hf hw (lv_sub hl [0, 1, 2, 3] rfl)
      have J_107 : ∀ (zh : PH) (H : Heap) (locs : List Loc) (ls : Array Slot), f_X12_triesBooked_107 N (g_gO N zd) zh = some h9 → gw E s zh H locs → lv_has ls 5 [] → W p l e (rm_gO (zd + 1)) s m [.ref (gB E + za0), .int za1, .int za2].toArray below meth c H locs 0 0 (MQ below (gQv E h9) [.ref (gB E + za0), .int za1, .int za2].toArray s 0 0 (gA E)) (F0 m 107 ls []) := by
        intro zh H locs ls hf hw hl
        unfold f_X12_triesBooked_107 at hf
        exact gx_vret X hr hlk hw hf dX12_triesBooked_107
      have L_81 : ∀ (zn81 : Nat) (zv0 : Nat) (zv1 : Int32) (zv4 : Int32) (zh : PH) (H : Heap) (locs : List Loc) (ls : Array Slot), gi (fun zk zs => f_X12_triesBooked_81 N (g_gO N zd) zk zs.1 zs.2.1 zs.2.2.1 zs.2.2.2) zn81 (zv0, zv1, zv4, zh) = some h9 → gw E s zh H locs → lv_has ls 5 [(0, .ref (gB E + zv0)), (1, .int zv1), (4, .int zv4)] → W p l e (rm_gO (zd + 1)) s m [.ref (gB E + za0), .int za1, .int za2].toArray below meth c H locs 0 0 (MQ below (gQv E h9) [.ref (gB E + za0), .int za1, .int za2].toArray s 0 0 (gA E)) (F0 m 81 ls []) := by
        intro zn81
        induction zn81 with
        | zero =>
          intro zv0 zv1 zv4 zh H locs ls hf
          cases hf
        | succ zn81 ih_81 =>
          intro zv0 zv1 zv4 zh H locs ls hf hw hl
          have hf := gi_s hf
          dsimp only at hf
          unfold f_X12_triesBooked_81 at hf
          refine lv_iload hx hb dX12_triesBooked_81 (lv_at hl 2 rfl) ?_
          refine lv_iload_n hx hb dX12_triesBooked_83 rfl (lv_at hl 1 rfl) ?_
          refine lv_icmp_ge (tgt := 107) hx hb dX12_triesBooked_84 (by decide) (fun qc1 => ?_) (fun qc1 => ?_)
          · have hf := gif_t hf qc1
            exact J_107  _ _ _ ls hf hw (lv_sub hl [] rfl)
          · have hf := gif_f hf qc1
            refine lv_aload_n hx hb dX12_triesBooked_87 rfl (lv_at hl 0 rfl) ?_
            obtain ⟨zt2, qzt2, hf⟩ := gb_el hf
            refine gx_getR X hw qzt2 clX12 (by decide) mf_X12_117 dX12_triesBooked_88 ?_
            refine lv_iload hx hb dX12_triesBooked_91 (lv_at hl 2 rfl) ?_
            refine lv_aload_n hx hb dX12_triesBooked_93 rfl (lv_at hl 0 rfl) ?_
            obtain ⟨zt3, qzt3, hf⟩ := gb_el hf
            refine gx_getR X hw qzt3 clX12 (by decide) mf_X12_105 dX12_triesBooked_94 ?_
            refine lv_iload hx hb dX12_triesBooked_97 (lv_at hl 2 rfl) ?_
            refine W.eq (g2 := F0 m 99 ls [.int zv4, .ref (gB E + zt3), .int zv4, .ref (gB E + zt2)]) rfl ?_
            obtain ⟨zt4, qzt4, hf⟩ := gb_el hf
            refine gx_iald X hw qzt4 dX12_triesBooked_99 ?_
            obtain ⟨zh5, qzh5, hf⟩ := gb_el hf
            refine gx_iast X hw qzh5 dX12_triesBooked_100 (fun H locs hw => ?_)
            obtain ⟨zx6, ezx6⟩ : ∃ y : Int32, y = zv4 + 1 := ⟨_, rfl⟩
            have hf := gl_el hf ezx6
            refine lv_iinc (v := zx6) (lv' := [(4, .int zx6), (0, .ref (gB E + zv0)), (1, .int zv1)]) hx hb dX12_triesBooked_101 hl (k := 2) rfl (by rw [ezx6]; rfl) (by decide) rfl (fun ls hl => ?_)
            refine lv_goto (tgt := 81) hx hb dX12_triesBooked_104 (by decide) ?_
            exact ih_81 zv0 zv1 zx6 _ _ _ ls hf hw (lv_sub hl [1, 2, 0] rfl)
      have J_57 : ∀ (zv0 : Nat) (zv1 : Int32) (zs0 : Int32) (zh : PH) (H : Heap) (locs : List Loc) (ls : Array Slot), f_X12_triesBooked_57 N (g_gO N zd) zv0 zv1 zs0 zh = some h9 → gw E s zh H locs → lv_has ls 5 [(0, .ref (gB E + zv0)), (1, .int zv1)] → W p l e (rm_gO (zd + 1)) s m [.ref (gB E + za0), .int za1, .int za2].toArray below meth c H locs 0 0 (MQ below (gQv E h9) [.ref (gB E + za0), .int za1, .int za2].toArray s 0 0 (gA E)) (F0 m 57 ls [.int zs0]) := by
        intro zv0 zv1 zs0 zh H locs ls hf hw hl
        unfold f_X12_triesBooked_57 at hf
        refine lv_istore_n (lv' := [(3, .int zs0), (0, .ref (gB E + zv0)), (1, .int zv1)]) hx hb dX12_triesBooked_57 rfl hl (by decide) rfl (fun ls hl => ?_)
        refine lv_iload_n hx hb dX12_triesBooked_58 rfl (lv_at hl 0 rfl) ?_
        refine lv_if_eq (tgt := 107) hx hb dX12_triesBooked_59 (by decide) (fun qc1 => ?_) (fun qc1 => ?_)
        · have hf := gif_t hf qc1
          exact J_107  _ _ _ ls hf hw (lv_sub hl [] rfl)
        · have hf := gif_f hf qc1
          refine lv_aload_n hx hb dX12_triesBooked_62 rfl (lv_at hl 1 rfl) ?_
          refine lv_aload_n hx hb dX12_triesBooked_63 rfl (lv_at hl 1 rfl) ?_
          obtain ⟨zt2, qzt2, hf⟩ := gb_el hf
          refine gx_getI X hw qzt2 clX12 (by decide) mf_X12_410 dX12_triesBooked_64 ?_
          obtain ⟨zh3, qzh3, hf⟩ := gb_el hf
          refine gx_putV X hw qzh3 clX12 (by decide) mf_X12_419 rfl rfl rfl dX12_triesBooked_67 (fun H locs hw => ?_)
          refine lv_aload_n hx hb dX12_triesBooked_70 rfl (lv_at hl 1 rfl) ?_
          refine lv_aload_n hx hb dX12_triesBooked_71 rfl (lv_at hl 1 rfl) ?_
          refine W.eq (g2 := F0 m 72 ls [.ref (gB E + zv0), .ref (gB E + zv0)]) rfl ?_
          obtain ⟨zt4, qzt4, hf⟩ := gb_el hf
          refine gx_getI X hw qzt4 clX12 (by decide) mf_X12_413 dX12_triesBooked_72 ?_
          obtain ⟨zh5, qzh5, hf⟩ := gb_el hf
          refine gx_putV X hw qzh5 clX12 (by decide) mf_X12_422 rfl rfl rfl dX12_triesBooked_75 (fun H locs hw => ?_)
          refine lv_iconst (v := 0) hx hb dX12_triesBooked_78 (by decide) ?_
          refine lv_istore (lv' := [(4, .int 0), (3, .int zs0), (0, .ref (gB E + zv0)), (1, .int zv1)]) hx hb dX12_triesBooked_79 hl (by decide) rfl (fun ls hl => ?_)
          exact L_81 N zv0 zv1 0 _ _ _ ls hf hw (lv_sub hl [2, 3, 0] rfl)
      have J_56 : ∀ (zv0 : Nat) (zv1 : Int32) (zh : PH) (H : Heap) (locs : List Loc) (ls : Array Slot), f_X12_triesBooked_56 N (g_gO N zd) zv0 zv1 zh = some h9 → gw E s zh H locs → lv_has ls 5 [(0, .ref (gB E + zv0)), (1, .int zv1)] → W p l e (rm_gO (zd + 1)) s m [.ref (gB E + za0), .int za1, .int za2].toArray below meth c H locs 0 0 (MQ below (gQv E h9) [.ref (gB E + za0), .int za1, .int za2].toArray s 0 0 (gA E)) (F0 m 56 ls []) := by
        intro zv0 zv1 zh H locs ls hf hw hl
        unfold f_X12_triesBooked_56 at hf
        refine lv_iconst (v := 0) hx hb dX12_triesBooked_56 (by decide) ?_
        exact J_57 zv0 zv1 0 _ _ _ ls hf hw (lv_sub hl [0, 1] rfl)
      have J_52 : ∀ (zv0 : Nat) (zv1 : Int32) (zh : PH) (H : Heap) (locs : List Loc) (ls : Array Slot), f_X12_triesBooked_52 N (g_gO N zd) zv0 zv1 zh = some h9 → gw E s zh H locs → lv_has ls 5 [(0, .ref (gB E + zv0)), (1, .int zv1)] → W p l e (rm_gO (zd + 1)) s m [.ref (gB E + za0), .int za1, .int za2].toArray below meth c H locs 0 0 (MQ below (gQv E h9) [.ref (gB E + za0), .int za1, .int za2].toArray s 0 0 (gA E)) (F0 m 52 ls []) := by
        intro zv0 zv1 zh H locs ls hf hw hl
        unfold f_X12_triesBooked_52 at hf
        refine lv_iconst (v := 1) hx hb dX12_triesBooked_52 (by decide) ?_
        refine lv_goto (tgt := 57) hx hb dX12_triesBooked_53 (by decide) ?_
        exact J_57 zv0 zv1 1 _ _ _ ls hf hw (lv_sub hl [0, 1] rfl)
      unfold b_X12_triesBooked at hf
      refine lv_iload_n hx hb dX12_triesBooked_0 rfl (lv_at hl 1 rfl) ?_
      refine lv_aload_n hx hb dX12_triesBooked_1 rfl (lv_at hl 0 rfl) ?_
      obtain ⟨qizh1, hf⟩ := gg_el hf
      obtain ⟨zt2, zh1, qzh1, hf⟩ := gc_el hf
      refine gx_ki (gx_runV (As := []) (rest := [.int za1]) X hw (c_X12_booked l E N za0 zh qzh1) kX12_booked mm_X12_331 qizh1 clX12 ⟨by dsimp only [rm_gO, rm_X12_booked]; omega, by dsimp only [rm_gO, rm_X12_booked]; omega⟩ rfl rfl rfl hl.1 (Nat.le_of_ble_eq_true rfl) rfl dX12_triesBooked_2 ⟨Nat.le_of_ble_eq_true rfl, Nat.le_of_ble_eq_true rfl⟩) hw (fun H locs hw => ?_)
      refine lv_icmp_ne (tgt := 108) hx hb dX12_triesBooked_5 (by decide) (fun qc3 => ?_) (fun qc3 => ?_)
      · have hf := gif_f hf qc3
        refine lv_iconst (v := 0) hx hb dX12_triesBooked_108 (by decide) ?_
        refine lv_istore_n (lv' := [(3, .int 0), (0, .ref (gB E + za0)), (1, .int za1), (2, .int za2)]) hx hb dX12_triesBooked_109 rfl hl (by decide) rfl (fun ls hl => ?_)
        exact L_110 N za0 za1 za2 0 _ _ _ ls hf hw (lv_sub hl [1, 2, 3, 0] rfl)
      · have hf := gif_t hf qc3
        refine lv_aload_n hx hb dX12_triesBooked_8 rfl (lv_at hl 0 rfl) ?_
        obtain ⟨qizh4, hf⟩ := gg_el hf
        obtain ⟨zh4, qzh4, hf⟩ := gb_el hf
        refine gx_kv (gx_runV (As := []) (rest := []) X hw (c_X12_comesAll l E N za0 zh1 qzh4) kX12_comesAll mm_X12_416 qizh4 clX12 ⟨by dsimp only [rm_gO, rm_X12_comesAll]; omega, by dsimp only [rm_gO, rm_X12_comesAll]; omega⟩ rfl rfl rfl hl.1 (Nat.le_of_ble_eq_true rfl) rfl dX12_triesBooked_9 ⟨Nat.le_of_ble_eq_true rfl, Nat.le_of_ble_eq_true rfl⟩) hw (fun H locs hw => ?_)
        refine lv_aload_n hx hb dX12_triesBooked_12 rfl (lv_at hl 0 rfl) ?_
        obtain ⟨zt5, qzt5, hf⟩ := gb_el hf
        refine gx_getI X hw qzt5 clX12 (by decide) mf_X12_419 dX12_triesBooked_13 ?_
        refine lv_if_lt (tgt := 52) hx hb dX12_triesBooked_16 (by decide) (fun qc6 => ?_) (fun qc6 => ?_)
        · have hf := gif_t hf qc6
          exact J_52 za0 za1 _ _ _ ls hf hw (lv_sub hl [0, 1] rfl)
        · have hf := gif_f hf qc6
          refine W.eq (g2 := F0 m 19 ls []) rfl ?_
          refine lv_aload_n hx hb dX12_triesBooked_19 rfl (lv_at hl 0 rfl) ?_
          obtain ⟨zt7, qzt7, hf⟩ := gb_el hf
          refine gx_getI X hw qzt7 clX12 (by decide) mf_X12_410 dX12_triesBooked_20 ?_
          refine lv_aload_n hx hb dX12_triesBooked_23 rfl (lv_at hl 0 rfl) ?_
          obtain ⟨zt8, qzt8, hf⟩ := gb_el hf
          refine gx_getI X hw qzt8 clX12 (by decide) mf_X12_419 dX12_triesBooked_24 ?_
          refine lv_icmp_lt (tgt := 52) hx hb dX12_triesBooked_27 (by decide) (fun qc9 => ?_) (fun qc9 => ?_)
          · have hf := gif_t hf qc9
            exact J_52 za0 za1 _ _ _ ls hf hw (lv_sub hl [0, 1] rfl)
          · have hf := gif_f hf qc9
            refine lv_aload_n hx hb dX12_triesBooked_30 rfl (lv_at hl 0 rfl) ?_
            obtain ⟨zt10, qzt10, hf⟩ := gb_el hf
            refine gx_getI X hw qzt10 clX12 (by decide) mf_X12_410 dX12_triesBooked_31 ?_
            refine lv_aload_n hx hb dX12_triesBooked_34 rfl (lv_at hl 0 rfl) ?_
            obtain ⟨zt11, qzt11, hf⟩ := gb_el hf
            refine gx_getI X hw qzt11 clX12 (by decide) mf_X12_419 dX12_triesBooked_35 ?_
            refine lv_icmp_ne (tgt := 56) hx hb dX12_triesBooked_38 (by decide) (fun qc12 => ?_) (fun qc12 => ?_)
            · have hf := gif_f hf qc12
              exact J_56 za0 za1 _ _ _ ls hf hw (lv_sub hl [0, 1] rfl)
            · have hf := gif_t hf qc12
              refine W.eq (g2 := F0 m 41 ls []) rfl ?_
              refine lv_aload_n hx hb dX12_triesBooked_41 rfl (lv_at hl 0 rfl) ?_
              obtain ⟨zt13, qzt13, hf⟩ := gb_el hf
              refine gx_getI X hw qzt13 clX12 (by decide) mf_X12_413 dX12_triesBooked_42 ?_
              refine lv_aload_n hx hb dX12_triesBooked_45 rfl (lv_at hl 0 rfl) ?_
              obtain ⟨zt14, qzt14, hf⟩ := gb_el hf
              refine gx_getI X hw qzt14 clX12 (by decide) mf_X12_422 dX12_triesBooked_46 ?_
              refine lv_icmp_ge (tgt := 56) hx hb dX12_triesBooked_49 (by decide) (fun qc15 => ?_) (fun qc15 => ?_)
              · have hf := gif_t hf qc15
                exact J_56 za0 za1 _ _ _ ls hf hw (lv_sub hl [0, 1] rfl)
              · have hf := gif_f hf qc15
                exact J_52 za0 za1 _ _ _ ls hf hw (lv_sub hl [0, 1] rfl)
abbrev rm_X12_triesBooked : Room := { frames := 23, cells := 0, slots := 0, locals := 547 }
theorem c_X12_triesBooked (l : Launch) (E : gE) (N : Nat) (za0 : Nat) (za1 : Int32) (za2 : Int32) (zh : PH) {h9 : PH} (hf : f_X12_triesBooked N za0 za1 za2 zh = some h9) : Met l yX12_triesBooked (gWS yX12_triesBooked cX12_triesBooked 5 none) rm_X12_triesBooked (gPc E [.ref (gB E + za0), .int za1, .int za2] zh) (gQv E h9) 0 0 (gA E) := (cg_gO l E N 16) za0 za1 za2 zh _ hf
abbrev rm_X12_order : Room := { frames := 24, cells := 0, slots := 0, locals := 571 }
set_option maxHeartbeats 4000000 in
set_option maxRecDepth 100000 in
theorem c_X12_order (l : Launch) (E : gE) (N : Nat) (za0 : Nat) (za1 : Int32) (za2 : Int32) (zh : PH) {h9 : PH} {r9 : Int32} (hf : f_X12_order N za0 za1 za2 zh = some (r9, h9)) : Met l yX12_order (gWS yX12_order cX12_order 3 (some .int)) rm_X12_order (gPc E [.ref (gB E + za0), .int za1, .int za2] zh) (gQi E r9 h9) 0 0 (gA E) := by
  refine gx_met (by decide) ?_ rfl
  intro p e s m below meth c X hr hlk hin2 hw
  have hx := X.1.1
  have hb := X.1.2.1
  have hl := lv_entry [.ref (gB E + za0), .int za1, .int za2] (n := 3) (Nat.le_of_ble_eq_true rfl)
  rw [lg_entry_eq]
  generalize (lg_sl [.ref (gB E + za0), .int za1, .int za2] ++ List.replicate (3 - (lg_sl [.ref (gB E + za0), .int za1, .int za2]).length) Slot.unset).toArray = ls at hl ⊢
  have hl : lv_has ls 3 [(0, .ref (gB E + za0)), (1, .int za1), (2, .int za2)] := hl
  have J_115 : ∀ (zs0 : Int32) (zh : PH) (H : Heap) (locs : List Loc) (ls : Array Slot), f_X12_order_115 N zs0 zh = some (r9, h9) → gw E s zh H locs → lv_has ls 3 [] → W p l e rm_X12_order s m [.ref (gB E + za0), .int za1, .int za2].toArray below meth c H locs 0 0 (MQ below (gQi E r9 h9) [.ref (gB E + za0), .int za1, .int za2].toArray s 0 0 (gA E)) (F0 m 115 ls [.int zs0]) := by
    intro zs0 zh H locs ls hf hw hl
    unfold f_X12_order_115 at hf
    exact gx_iret X hr hlk hw hf dX12_order_115
  have J_68 : ∀ (zv0 : Nat) (zv1 : Int32) (zv2 : Int32) (zh : PH) (H : Heap) (locs : List Loc) (ls : Array Slot), f_X12_order_68 N zv0 zv1 zv2 zh = some (r9, h9) → gw E s zh H locs → lv_has ls 3 [(0, .ref (gB E + zv0)), (1, .int zv1), (2, .int zv2)] → W p l e rm_X12_order s m [.ref (gB E + za0), .int za1, .int za2].toArray below meth c H locs 0 0 (MQ below (gQi E r9 h9) [.ref (gB E + za0), .int za1, .int za2].toArray s 0 0 (gA E)) (F0 m 68 ls []) := by
    intro zv0 zv1 zv2 zh H locs ls hf hw hl
    unfold f_X12_order_68 at hf
    refine lv_aload_n hx hb dX12_order_68 rfl (lv_at hl 0 rfl) ?_
    refine lv_iload_n hx hb dX12_order_69 rfl (lv_at hl 1 rfl) ?_
    obtain ⟨zh1, qzh1, hf⟩ := gb_el hf
    refine gx_putV X hw qzh1 clX12 (by decide) mf_X12_407 rfl rfl rfl dX12_order_70 (fun H locs hw => ?_)
    refine lv_aload_n hx hb dX12_order_73 rfl (lv_at hl 0 rfl) ?_
    refine lv_iconst (v := (-1)) hx hb dX12_order_74 (by decide) ?_
    obtain ⟨zh2, qzh2, hf⟩ := gb_el hf
    refine gx_putV X hw qzh2 clX12 (by decide) mf_X12_419 rfl rfl rfl dX12_order_75 (fun H locs hw => ?_)
    refine lv_aload_n hx hb dX12_order_78 rfl (lv_at hl 0 rfl) ?_
    refine lv_iconst (v := 0) hx hb dX12_order_79 (by decide) ?_
    refine lv_iconst (v := 0) hx hb dX12_order_80 (by decide) ?_
    refine W.eq (g2 := F0 m 81 ls [.int 0, .int 0, .ref (gB E + zv0)]) rfl ?_
    obtain ⟨qizh3, hf⟩ := gg_el hf
    obtain ⟨zh3, qzh3, hf⟩ := gb_el hf
    refine gx_kv (gx_runV (As := [.int 0, .int 0]) (rest := []) X hw (c_X12_triesBooked l E N zv0 0 0 zh2 qzh3) kX12_triesBooked mm_X12_425 qizh3 clX12 ⟨Nat.le_of_ble_eq_true rfl, Nat.le_of_ble_eq_true rfl⟩ rfl rfl rfl hl.1 (Nat.le_of_ble_eq_true rfl) rfl dX12_order_81 ⟨Nat.le_of_ble_eq_true rfl, Nat.le_of_ble_eq_true rfl⟩) hw (fun H locs hw => ?_)
    refine lv_iload_n hx hb dX12_order_84 rfl (lv_at hl 2 rfl) ?_
    refine lv_if_ne (tgt := 95) hx hb dX12_order_85 (by decide) (fun qc4 => ?_) (fun qc4 => ?_)
    · have hf := gif_f hf qc4
      refine lv_iload_n hx hb dX12_order_95 rfl (lv_at hl 2 rfl) ?_
      refine lv_iconst (v := 1) hx hb dX12_order_96 (by decide) ?_
      refine lv_icmp_ne (tgt := 107) hx hb dX12_order_97 (by decide) (fun qc5 => ?_) (fun qc5 => ?_)
      · have hf := gif_f hf qc5
        refine lv_aload_n hx hb dX12_order_107 rfl (lv_at hl 0 rfl) ?_
        obtain ⟨zt6, qzt6, hf⟩ := gb_el hf
        refine gx_getR X hw qzt6 clX12 (by decide) mf_X12_117 dX12_order_108 ?_
        refine lv_iload_n hx hb dX12_order_111 rfl (lv_at hl 2 rfl) ?_
        refine lv_iconst (v := 2) hx hb dX12_order_112 (by decide) ?_
        refine W.eq (g2 := F0 m 113 ls [.int 2, .int zv2, .ref (gB E + zt6)]) rfl ?_
        refine lv_isub hx hb dX12_order_113 ?_
        obtain ⟨zt7, qzt7, hf⟩ := gb_el hf
        refine gx_iald X hw qzt7 dX12_order_114 ?_
        exact J_115 zt7 _ _ _ ls hf hw (lv_sub hl [] rfl)
      · have hf := gif_t hf qc5
        refine lv_aload_n hx hb dX12_order_100 rfl (lv_at hl 0 rfl) ?_
        obtain ⟨zt8, qzt8, hf⟩ := gb_el hf
        refine gx_getI X hw qzt8 clX12 (by decide) mf_X12_422 dX12_order_101 ?_
        refine lv_goto (tgt := 115) hx hb dX12_order_104 (by decide) ?_
        exact J_115 zt8 _ _ _ ls hf hw (lv_sub hl [] rfl)
    · have hf := gif_t hf qc4
      refine lv_aload_n hx hb dX12_order_88 rfl (lv_at hl 0 rfl) ?_
      obtain ⟨zt9, qzt9, hf⟩ := gb_el hf
      refine gx_getI X hw qzt9 clX12 (by decide) mf_X12_419 dX12_order_89 ?_
      refine lv_goto (tgt := 115) hx hb dX12_order_92 (by decide) ?_
      exact J_115 zt9 _ _ _ ls hf hw (lv_sub hl [] rfl)
  have J_66 : ∀ (zh : PH) (H : Heap) (locs : List Loc) (ls : Array Slot), f_X12_order_66 N zh = some (r9, h9) → gw E s zh H locs → lv_has ls 3 [] → W p l e rm_X12_order s m [.ref (gB E + za0), .int za1, .int za2].toArray below meth c H locs 0 0 (MQ below (gQi E r9 h9) [.ref (gB E + za0), .int za1, .int za2].toArray s 0 0 (gA E)) (F0 m 66 ls []) := by
    intro zh H locs ls hf hw hl
    unfold f_X12_order_66 at hf
    refine lv_iconst (v := (-1)) hx hb dX12_order_66 (by decide) ?_
    exact gx_iret X hr hlk hw hf dX12_order_67
  unfold f_X12_order at hf
  refine lv_aload_n hx hb dX12_order_0 rfl (lv_at hl 0 rfl) ?_
  refine lv_iconst (v := 0) hx hb dX12_order_1 (by decide) ?_
  obtain ⟨zh1, qzh1, hf⟩ := gb_el hf
  refine gx_putV X hw qzh1 clX12 (by decide) mf_X12_1 rfl rfl rfl dX12_order_2 (fun H locs hw => ?_)
  refine lv_aload_n hx hb dX12_order_5 rfl (lv_at hl 0 rfl) ?_
  refine lv_iload_n hx hb dX12_order_6 rfl (lv_at hl 1 rfl) ?_
  obtain ⟨qizh2, hf⟩ := gg_el hf
  obtain ⟨zt3, zh2, qzh2, hf⟩ := gc_el hf
  refine gx_ki (gx_runV (As := [.int za1]) (rest := []) X hw (c_X12_isGuest l E N za0 za1 zh1 qzh2) kX12_isGuest mm_X12_312 qizh2 clX12 ⟨Nat.le_of_ble_eq_true rfl, Nat.le_of_ble_eq_true rfl⟩ rfl rfl rfl hl.1 (Nat.le_of_ble_eq_true rfl) rfl dX12_order_7 ⟨Nat.le_of_ble_eq_true rfl, Nat.le_of_ble_eq_true rfl⟩) hw (fun H locs hw => ?_)
  refine lv_if_eq (tgt := 66) hx hb dX12_order_10 (by decide) (fun qc4 => ?_) (fun qc4 => ?_)
  · have hf := gif_t hf qc4
    exact J_66  _ _ _ ls hf hw (lv_sub hl [] rfl)
  · have hf := gif_f hf qc4
    refine lv_iload_n hx hb dX12_order_13 rfl (lv_at hl 2 rfl) ?_
    refine lv_iconst (v := 0) hx hb dX12_order_14 (by decide) ?_
    refine W.eq (g2 := F0 m 15 ls [.int 0, .int za2]) rfl ?_
    refine lv_iconst (v := 1) hx hb dX12_order_15 (by decide) ?_
    refine lv_aload_n hx hb dX12_order_16 rfl (lv_at hl 0 rfl) ?_
    obtain ⟨qizh5, hf⟩ := gg_el hf
    obtain ⟨zt6, zh5, qzh5, hf⟩ := gc_el hf
    refine gx_ki (gx_runV (As := []) (rest := [.int 1, .int 0, .int za2]) X hw (c_X12_booked l E N za0 zh2 qzh5) kX12_booked mm_X12_331 qizh5 clX12 ⟨Nat.le_of_ble_eq_true rfl, Nat.le_of_ble_eq_true rfl⟩ rfl rfl rfl hl.1 (Nat.le_of_ble_eq_true rfl) rfl dX12_order_17 ⟨Nat.le_of_ble_eq_true rfl, Nat.le_of_ble_eq_true rfl⟩) hw (fun H locs hw => ?_)
    refine lv_iadd hx hb dX12_order_20 ?_
    obtain ⟨zt8, zh7, qzh7, hf⟩ := gc_el hf
    refine gx_ki (gx_runS (As := [.int za2, .int 0, .int (1 + zt6)]) (rest := []) X hw (c_X12_within l E N za2 0 (1 + zt6) zh5 qzh7) kX12_within mm_X12_304 ⟨Nat.le_of_ble_eq_true rfl, Nat.le_of_ble_eq_true rfl⟩ rfl rfl rfl hl.1 (Nat.le_of_ble_eq_true rfl) rfl dX12_order_21 ⟨Nat.le_of_ble_eq_true rfl, Nat.le_of_ble_eq_true rfl⟩) hw (fun H locs hw => ?_)
    refine lv_if_eq (tgt := 66) hx hb dX12_order_24 (by decide) (fun qc9 => ?_) (fun qc9 => ?_)
    · have hf := gif_t hf qc9
      exact J_66  _ _ _ ls hf hw (lv_sub hl [] rfl)
    · have hf := gif_f hf qc9
      refine lv_aload_n hx hb dX12_order_27 rfl (lv_at hl 0 rfl) ?_
      obtain ⟨qizh10, hf⟩ := gg_el hf
      obtain ⟨zt11, zh10, qzh10, hf⟩ := gc_el hf
      refine gx_ki (gx_runV (As := []) (rest := []) X hw (c_X12_booked l E N za0 zh7 qzh10) kX12_booked mm_X12_331 qizh10 clX12 ⟨Nat.le_of_ble_eq_true rfl, Nat.le_of_ble_eq_true rfl⟩ rfl rfl rfl hl.1 (Nat.le_of_ble_eq_true rfl) rfl dX12_order_28 ⟨Nat.le_of_ble_eq_true rfl, Nat.le_of_ble_eq_true rfl⟩) hw (fun H locs hw => ?_)
      refine lv_if_eq (tgt := 66) hx hb dX12_order_31 (by decide) (fun qc12 => ?_) (fun qc12 => ?_)
      · have hf := gif_t hf qc12
        exact J_66  _ _ _ ls hf hw (lv_sub hl [] rfl)
      · have hf := gif_f hf qc12
        refine lv_aload_n hx hb dX12_order_34 rfl (lv_at hl 0 rfl) ?_
        refine W.eq (g2 := F0 m 35 ls [.ref (gB E + za0)]) rfl ?_
        obtain ⟨qizh13, hf⟩ := gg_el hf
        obtain ⟨zt14, zh13, qzh13, hf⟩ := gc_el hf
        refine gx_ki (gx_runV (As := []) (rest := []) X hw (c_X12_booked l E N za0 zh10 qzh13) kX12_booked mm_X12_331 qizh13 clX12 ⟨Nat.le_of_ble_eq_true rfl, Nat.le_of_ble_eq_true rfl⟩ rfl rfl rfl hl.1 (Nat.le_of_ble_eq_true rfl) rfl dX12_order_35 ⟨Nat.le_of_ble_eq_true rfl, Nat.le_of_ble_eq_true rfl⟩) hw (fun H locs hw => ?_)
        refine lv_aload_n hx hb dX12_order_38 rfl (lv_at hl 0 rfl) ?_
        obtain ⟨qizh15, hf⟩ := gg_el hf
        obtain ⟨zt16, zh15, qzh15, hf⟩ := gc_el hf
        refine gx_ki (gx_runV (As := []) (rest := [.int zt14]) X hw (c_X12_rooms l E N za0 zh13 qzh15) kX12_rooms mm_X12_231 qizh15 clX12 ⟨Nat.le_of_ble_eq_true rfl, Nat.le_of_ble_eq_true rfl⟩ rfl rfl rfl hl.1 (Nat.le_of_ble_eq_true rfl) rfl dX12_order_39 ⟨Nat.le_of_ble_eq_true rfl, Nat.le_of_ble_eq_true rfl⟩) hw (fun H locs hw => ?_)
        refine lv_aload_n hx hb dX12_order_42 rfl (lv_at hl 0 rfl) ?_
        obtain ⟨qizh17, hf⟩ := gg_el hf
        obtain ⟨zt18, zh17, qzh17, hf⟩ := gc_el hf
        refine gx_ki (gx_runV (As := []) (rest := [.int zt16, .int zt14]) X hw (c_X12_insideMany l E N za0 zh15 qzh17) kX12_insideMany mm_X12_428 qizh17 clX12 ⟨Nat.le_of_ble_eq_true rfl, Nat.le_of_ble_eq_true rfl⟩ rfl rfl rfl hl.1 (Nat.le_of_ble_eq_true rfl) rfl dX12_order_43 ⟨Nat.le_of_ble_eq_true rfl, Nat.le_of_ble_eq_true rfl⟩) hw (fun H locs hw => ?_)
        refine lv_isub hx hb dX12_order_46 ?_
        refine lv_icmp_gt (tgt := 66) hx hb dX12_order_47 (by decide) (fun qc19 => ?_) (fun qc19 => ?_)
        · have hf := gif_t hf qc19
          exact J_66  _ _ _ ls hf hw (lv_sub hl [] rfl)
        · have hf := gif_f hf qc19
          refine lv_aload_n hx hb dX12_order_50 rfl (lv_at hl 0 rfl) ?_
          refine lv_iload_n hx hb dX12_order_51 rfl (lv_at hl 1 rfl) ?_
          obtain ⟨qizh20, hf⟩ := gg_el hf
          obtain ⟨zt21, zh20, qzh20, hf⟩ := gc_el hf
          refine gx_ki (gx_runV (As := [.int za1]) (rest := []) X hw (c_X12_isBooked l E N za0 za1 zh17 qzh20) kX12_isBooked mm_X12_404 qizh20 clX12 ⟨Nat.le_of_ble_eq_true rfl, Nat.le_of_ble_eq_true rfl⟩ rfl rfl rfl hl.1 (Nat.le_of_ble_eq_true rfl) rfl dX12_order_52 ⟨Nat.le_of_ble_eq_true rfl, Nat.le_of_ble_eq_true rfl⟩) hw (fun H locs hw => ?_)
          refine W.eq (g2 := F0 m 55 ls [.int zt21]) rfl ?_
          refine lv_if_ne (tgt := 68) hx hb dX12_order_55 (by decide) (fun qc22 => ?_) (fun qc22 => ?_)
          · have hf := gif_f hf qc22
            exact J_68 za0 za1 za2 _ _ _ ls hf hw (lv_sub hl [0, 1, 2] rfl)
          · have hf := gif_t hf qc22
            refine lv_aload_n hx hb dX12_order_58 rfl (lv_at hl 0 rfl) ?_
            refine lv_iload_n hx hb dX12_order_59 rfl (lv_at hl 1 rfl) ?_
            obtain ⟨qizh23, hf⟩ := gg_el hf
            obtain ⟨zt24, zh23, qzh23, hf⟩ := gc_el hf
            refine gx_ki (gx_runV (As := [.int za1]) (rest := []) X hw (c_X12_roomNow l E N za0 za1 zh20 qzh23) kX12_roomNow mm_X12_315 qizh23 clX12 ⟨Nat.le_of_ble_eq_true rfl, Nat.le_of_ble_eq_true rfl⟩ rfl rfl rfl hl.1 (Nat.le_of_ble_eq_true rfl) rfl dX12_order_60 ⟨Nat.le_of_ble_eq_true rfl, Nat.le_of_ble_eq_true rfl⟩) hw (fun H locs hw => ?_)
            refine lv_if_ge (tgt := 68) hx hb dX12_order_63 (by decide) (fun qc25 => ?_) (fun qc25 => ?_)
            · have hf := gif_t hf qc25
              exact J_68 za0 za1 za2 _ _ _ ls hf hw (lv_sub hl [0, 1, 2] rfl)
            · have hf := gif_f hf qc25
              exact J_66  _ _ _ ls hf hw (lv_sub hl [] rfl)
abbrev rm_X12_findTried : Room := { frames := 5, cells := 0, slots := 0, locals := 120 }
set_option maxHeartbeats 4000000 in
set_option maxRecDepth 100000 in
theorem c_X12_findTried (l : Launch) (E : gE) (N : Nat) (za0 : Nat) (za1 : Int32) (zh : PH) {h9 : PH} (hf : f_X12_findTried N za0 za1 zh = some h9) : Met l yX12_findTried (gWS yX12_findTried cX12_findTried 5 none) rm_X12_findTried (gPc E [.ref (gB E + za0), .int za1] zh) (gQv E h9) 0 0 (gA E) := by
  refine gx_met (by decide) ?_ rfl
  intro p e s m below meth c X hr hlk hin2 hw
  have hx := X.1.1
  have hb := X.1.2.1
  have hl := lv_entry [.ref (gB E + za0), .int za1] (n := 5) (Nat.le_of_ble_eq_true rfl)
  rw [lg_entry_eq]
  generalize (lg_sl [.ref (gB E + za0), .int za1] ++ List.replicate (5 - (lg_sl [.ref (gB E + za0), .int za1]).length) Slot.unset).toArray = ls at hl ⊢
  have hl : lv_has ls 5 [(0, .ref (gB E + za0)), (1, .int za1)] := hl
  have J_132 : ∀ (zs0 : Int32) (zs1 : Nat) (zh : PH) (H : Heap) (locs : List Loc) (ls : Array Slot), f_X12_findTried_132 N zs0 zs1 zh = some h9 → gw E s zh H locs → lv_has ls 5 [] → W p l e rm_X12_findTried s m [.ref (gB E + za0), .int za1].toArray below meth c H locs 0 0 (MQ below (gQv E h9) [.ref (gB E + za0), .int za1].toArray s 0 0 (gA E)) (F0 m 132 ls [.int zs0, .ref (gB E + zs1)]) := by
    intro zs0 zs1 zh H locs ls hf hw hl
    unfold f_X12_findTried_132 at hf
    obtain ⟨zh1, qzh1, hf⟩ := gb_el hf
    refine gx_putV X hw qzh1 clX12 (by decide) mf_X12_437 rfl rfl rfl dX12_findTried_132 (fun H locs hw => ?_)
    exact gx_vret X hr hlk hw hf dX12_findTried_135
  have L_36 : ∀ (zn36 : Nat) (zv0 : Nat) (zv2 : Int32) (zv3 : Int32) (zv4 : Int32) (zh : PH) (H : Heap) (locs : List Loc) (ls : Array Slot), gi (fun zk zs => f_X12_findTried_36 N zk zs.1 zs.2.1 zs.2.2.1 zs.2.2.2.1 zs.2.2.2.2) zn36 (zv0, zv2, zv3, zv4, zh) = some h9 → gw E s zh H locs → lv_has ls 5 [(0, .ref (gB E + zv0)), (2, .int zv2), (3, .int zv3), (4, .int zv4)] → W p l e rm_X12_findTried s m [.ref (gB E + za0), .int za1].toArray below meth c H locs 0 0 (MQ below (gQv E h9) [.ref (gB E + za0), .int za1].toArray s 0 0 (gA E)) (F0 m 36 ls []) := by
    intro zn36
    induction zn36 with
    | zero =>
      intro zv0 zv2 zv3 zv4 zh H locs ls hf
      cases hf
    | succ zn36 ih_36 =>
      have J_110 : ∀ (zv0 : Nat) (zv2 : Int32) (zv4 : Int32) (zs0 : Int32) (zh : PH) (H : Heap) (locs : List Loc) (ls : Array Slot), f_X12_findTried_110 N (gi (fun zk zs => f_X12_findTried_36 N zk zs.1 zs.2.1 zs.2.2.1 zs.2.2.2.1 zs.2.2.2.2) zn36) zv0 zv2 zv4 zs0 zh = some h9 → gw E s zh H locs → lv_has ls 5 [(0, .ref (gB E + zv0)), (2, .int zv2), (4, .int zv4)] → W p l e rm_X12_findTried s m [.ref (gB E + za0), .int za1].toArray below meth c H locs 0 0 (MQ below (gQv E h9) [.ref (gB E + za0), .int za1].toArray s 0 0 (gA E)) (F0 m 110 ls [.int zs0]) := by
        intro zv0 zv2 zv4 zs0 zh H locs ls hf hw hl
        unfold f_X12_findTried_110 at hf
        refine lv_istore_n (lv' := [(3, .int zs0), (0, .ref (gB E + zv0)), (2, .int zv2), (4, .int zv4)]) hx hb dX12_findTried_110 rfl hl (by decide) rfl (fun ls hl => ?_)
        obtain ⟨zx1, ezx1⟩ : ∃ y : Int32, y = zv4 + 1 := ⟨_, rfl⟩
        have hf := gl_el hf ezx1
        refine lv_iinc (v := zx1) (lv' := [(4, .int zx1), (3, .int zs0), (0, .ref (gB E + zv0)), (2, .int zv2)]) hx hb dX12_findTried_111 hl (k := 3) rfl (by rw [ezx1]; rfl) (by decide) rfl (fun ls hl => ?_)
        refine lv_goto (tgt := 36) hx hb dX12_findTried_114 (by decide) ?_
        exact ih_36 zv0 zv2 zs0 zx1 _ _ _ ls hf hw (lv_sub hl [2, 3, 1, 0] rfl)
      have J_109 : ∀ (zv0 : Nat) (zv2 : Int32) (zv3 : Int32) (zv4 : Int32) (zh : PH) (H : Heap) (locs : List Loc) (ls : Array Slot), f_X12_findTried_109 N (gi (fun zk zs => f_X12_findTried_36 N zk zs.1 zs.2.1 zs.2.2.1 zs.2.2.2.1 zs.2.2.2.2) zn36) zv0 zv2 zv3 zv4 zh = some h9 → gw E s zh H locs → lv_has ls 5 [(0, .ref (gB E + zv0)), (2, .int zv2), (3, .int zv3), (4, .int zv4)] → W p l e rm_X12_findTried s m [.ref (gB E + za0), .int za1].toArray below meth c H locs 0 0 (MQ below (gQv E h9) [.ref (gB E + za0), .int za1].toArray s 0 0 (gA E)) (F0 m 109 ls []) := by
        intro zv0 zv2 zv3 zv4 zh H locs ls hf hw hl
        unfold f_X12_findTried_109 at hf
        refine lv_iload_n hx hb dX12_findTried_109 rfl (lv_at hl 2 rfl) ?_
        exact J_110 zv0 zv2 zv4 zv3 _ _ _ ls hf hw (lv_sub hl [0, 1, 3] rfl)
      have J_77 : ∀ (zv0 : Nat) (zv3 : Int32) (zv4 : Int32) (zs0 : Int32) (zh : PH) (H : Heap) (locs : List Loc) (ls : Array Slot), f_X12_findTried_77 N (gi (fun zk zs => f_X12_findTried_36 N zk zs.1 zs.2.1 zs.2.2.1 zs.2.2.2.1 zs.2.2.2.2) zn36) zv0 zv3 zv4 zs0 zh = some h9 → gw E s zh H locs → lv_has ls 5 [(0, .ref (gB E + zv0)), (3, .int zv3), (4, .int zv4)] → W p l e rm_X12_findTried s m [.ref (gB E + za0), .int za1].toArray below meth c H locs 0 0 (MQ below (gQv E h9) [.ref (gB E + za0), .int za1].toArray s 0 0 (gA E)) (F0 m 77 ls [.int zs0]) := by
        intro zv0 zv3 zv4 zs0 zh H locs ls hf hw hl
        unfold f_X12_findTried_77 at hf
        refine lv_istore_n (lv' := [(2, .int zs0), (0, .ref (gB E + zv0)), (3, .int zv3), (4, .int zv4)]) hx hb dX12_findTried_77 rfl hl (by decide) rfl (fun ls hl => ?_)
        refine lv_aload_n hx hb dX12_findTried_78 rfl (lv_at hl 1 rfl) ?_
        obtain ⟨zt1, qzt1, hf⟩ := gb_el hf
        refine gx_getR X hw qzt1 clX12 (by decide) mf_X12_95 dX12_findTried_79 ?_
        refine lv_iload hx hb dX12_findTried_82 (lv_at hl 3 rfl) ?_
        obtain ⟨zt2, qzt2, hf⟩ := gb_el hf
        refine gx_zald X hw qzt2 dX12_findTried_84 ?_
        refine lv_if_eq (tgt := 109) hx hb dX12_findTried_85 (by decide) (fun qc3 => ?_) (fun qc3 => ?_)
        · have hf := gif_t hf qc3
          exact J_109 zv0 zs0 zv3 zv4 _ _ _ ls hf hw (lv_sub hl [1, 0, 2, 3] rfl)
        · have hf := gif_f hf qc3
          refine lv_aload_n hx hb dX12_findTried_88 rfl (lv_at hl 1 rfl) ?_
          obtain ⟨zt4, qzt4, hf⟩ := gb_el hf
          refine gx_getR X hw qzt4 clX12 (by decide) mf_X12_89 dX12_findTried_89 ?_
          refine lv_iload hx hb dX12_findTried_92 (lv_at hl 3 rfl) ?_
          refine W.eq (g2 := F0 m 94 ls [.int zv4, .ref (gB E + zt4)]) rfl ?_
          obtain ⟨zt5, qzt5, hf⟩ := gb_el hf
          refine gx_iald X hw qzt5 dX12_findTried_94 ?_
          refine lv_iload_n hx hb dX12_findTried_95 rfl (lv_at hl 2 rfl) ?_
          refine lv_icmp_le (tgt := 109) hx hb dX12_findTried_96 (by decide) (fun qc6 => ?_) (fun qc6 => ?_)
          · have hf := gif_t hf qc6
            exact J_109 zv0 zs0 zv3 zv4 _ _ _ ls hf hw (lv_sub hl [1, 0, 2, 3] rfl)
          · have hf := gif_f hf qc6
            refine lv_aload_n hx hb dX12_findTried_99 rfl (lv_at hl 1 rfl) ?_
            obtain ⟨zt7, qzt7, hf⟩ := gb_el hf
            refine gx_getR X hw qzt7 clX12 (by decide) mf_X12_89 dX12_findTried_100 ?_
            refine lv_iload hx hb dX12_findTried_103 (lv_at hl 3 rfl) ?_
            obtain ⟨zt8, qzt8, hf⟩ := gb_el hf
            refine gx_iald X hw qzt8 dX12_findTried_105 ?_
            refine lv_goto (tgt := 110) hx hb dX12_findTried_106 (by decide) ?_
            exact J_110 zv0 zs0 zv4 zt8 _ _ _ ls hf hw (lv_sub hl [1, 0, 3] rfl)
      have J_76 : ∀ (zv0 : Nat) (zv2 : Int32) (zv3 : Int32) (zv4 : Int32) (zh : PH) (H : Heap) (locs : List Loc) (ls : Array Slot), f_X12_findTried_76 N (gi (fun zk zs => f_X12_findTried_36 N zk zs.1 zs.2.1 zs.2.2.1 zs.2.2.2.1 zs.2.2.2.2) zn36) zv0 zv2 zv3 zv4 zh = some h9 → gw E s zh H locs → lv_has ls 5 [(0, .ref (gB E + zv0)), (2, .int zv2), (3, .int zv3), (4, .int zv4)] → W p l e rm_X12_findTried s m [.ref (gB E + za0), .int za1].toArray below meth c H locs 0 0 (MQ below (gQv E h9) [.ref (gB E + za0), .int za1].toArray s 0 0 (gA E)) (F0 m 76 ls []) := by
        intro zv0 zv2 zv3 zv4 zh H locs ls hf hw hl
        unfold f_X12_findTried_76 at hf
        refine lv_iload_n hx hb dX12_findTried_76 rfl (lv_at hl 1 rfl) ?_
        exact J_77 zv0 zv3 zv4 zv2 _ _ _ ls hf hw (lv_sub hl [0, 2, 3] rfl)
      intro zv0 zv2 zv3 zv4 zh H locs ls hf hw hl
      have hf := gi_s hf
      dsimp only at hf
      unfold f_X12_findTried_36 at hf
      refine lv_iload hx hb dX12_findTried_36 (lv_at hl 3 rfl) ?_
      refine lv_aload_n hx hb dX12_findTried_38 rfl (lv_at hl 0 rfl) ?_
      obtain ⟨qizh1, hf⟩ := gg_el hf
      obtain ⟨zt2, zh1, qzh1, hf⟩ := gc_el hf
      refine gx_ki (gx_runV (As := []) (rest := [.int zv4]) X hw (c_X12_guests l E N zv0 zh qzh1) kX12_guests mm_X12_234 qizh1 clX12 ⟨Nat.le_of_ble_eq_true rfl, Nat.le_of_ble_eq_true rfl⟩ rfl rfl rfl hl.1 (Nat.le_of_ble_eq_true rfl) rfl dX12_findTried_39 ⟨Nat.le_of_ble_eq_true rfl, Nat.le_of_ble_eq_true rfl⟩) hw (fun H locs hw => ?_)
      refine lv_icmp_ge (tgt := 117) hx hb dX12_findTried_42 (by decide) (fun qc3 => ?_) (fun qc3 => ?_)
      · have hf := gif_t hf qc3
        refine lv_aload_n hx hb dX12_findTried_117 rfl (lv_at hl 0 rfl) ?_
        refine lv_iload_n hx hb dX12_findTried_118 rfl (lv_at hl 1 rfl) ?_
        refine lv_ldcw (v := 100000000) hx hb X.1.2.2.2.1 (X.1.2.2.2.2 _ mk_X12_346) dX12_findTried_119 ?_
        refine lv_icmp_ne (tgt := 129) hx hb dX12_findTried_122 (by decide) (fun qc4 => ?_) (fun qc4 => ?_)
        · have hf := gif_f hf qc4
          refine lv_iload_n hx hb dX12_findTried_129 rfl (lv_at hl 2 rfl) ?_
          refine W.eq (g2 := F0 m 130 ls [.int zv3, .ref (gB E + zv0)]) rfl ?_
          refine lv_iload_n hx hb dX12_findTried_130 rfl (lv_at hl 1 rfl) ?_
          refine lv_isub hx hb dX12_findTried_131 ?_
          exact J_132 (zv3 - zv2) zv0 _ _ _ ls hf hw (lv_sub hl [] rfl)
        · have hf := gif_t hf qc4
          refine lv_iconst (v := 0) hx hb dX12_findTried_125 (by decide) ?_
          refine W.eq (g2 := F0 m 126 ls [.int 0, .ref (gB E + zv0)]) rfl ?_
          refine lv_goto (tgt := 132) hx hb dX12_findTried_126 (by decide) ?_
          exact J_132 0 zv0 _ _ _ ls hf hw (lv_sub hl [] rfl)
      · have hf := gif_f hf qc3
        refine lv_aload_n hx hb dX12_findTried_45 rfl (lv_at hl 0 rfl) ?_
        obtain ⟨zt5, qzt5, hf⟩ := gb_el hf
        refine gx_getR X hw qzt5 clX12 (by decide) mf_X12_95 dX12_findTried_46 ?_
        refine lv_iload hx hb dX12_findTried_49 (lv_at hl 3 rfl) ?_
        obtain ⟨zt6, qzt6, hf⟩ := gb_el hf
        refine gx_zald X hw qzt6 dX12_findTried_51 ?_
        refine lv_if_eq (tgt := 76) hx hb dX12_findTried_52 (by decide) (fun qc7 => ?_) (fun qc7 => ?_)
        · have hf := gif_t hf qc7
          exact J_76 zv0 zv2 zv3 zv4 _ _ _ ls hf hw (lv_sub hl [0, 1, 2, 3] rfl)
        · have hf := gif_f hf qc7
          refine W.eq (g2 := F0 m 55 ls []) rfl ?_
          refine lv_aload_n hx hb dX12_findTried_55 rfl (lv_at hl 0 rfl) ?_
          obtain ⟨zt8, qzt8, hf⟩ := gb_el hf
          refine gx_getR X hw qzt8 clX12 (by decide) mf_X12_89 dX12_findTried_56 ?_
          refine lv_iload hx hb dX12_findTried_59 (lv_at hl 3 rfl) ?_
          obtain ⟨zt9, qzt9, hf⟩ := gb_el hf
          refine gx_iald X hw qzt9 dX12_findTried_61 ?_
          refine lv_iload_n hx hb dX12_findTried_62 rfl (lv_at hl 1 rfl) ?_
          refine lv_icmp_ge (tgt := 76) hx hb dX12_findTried_63 (by decide) (fun qc10 => ?_) (fun qc10 => ?_)
          · have hf := gif_t hf qc10
            exact J_76 zv0 zv2 zv3 zv4 _ _ _ ls hf hw (lv_sub hl [0, 1, 2, 3] rfl)
          · have hf := gif_f hf qc10
            refine lv_aload_n hx hb dX12_findTried_66 rfl (lv_at hl 0 rfl) ?_
            obtain ⟨zt11, qzt11, hf⟩ := gb_el hf
            refine gx_getR X hw qzt11 clX12 (by decide) mf_X12_89 dX12_findTried_67 ?_
            refine lv_iload hx hb dX12_findTried_70 (lv_at hl 3 rfl) ?_
            obtain ⟨zt12, qzt12, hf⟩ := gb_el hf
            refine gx_iald X hw qzt12 dX12_findTried_72 ?_
            refine W.eq (g2 := F0 m 73 ls [.int zt12]) rfl ?_
            refine lv_goto (tgt := 77) hx hb dX12_findTried_73 (by decide) ?_
            exact J_77 zv0 zv3 zv4 zt12 _ _ _ ls hf hw (lv_sub hl [0, 2, 3] rfl)
  unfold f_X12_findTried at hf
  refine lv_aload_n hx hb dX12_findTried_0 rfl (lv_at hl 0 rfl) ?_
  refine lv_iconst (v := 1) hx hb dX12_findTried_1 (by decide) ?_
  refine lv_iload_n hx hb dX12_findTried_2 rfl (lv_at hl 1 rfl) ?_
  obtain ⟨qizh1, hf⟩ := gg_el hf
  obtain ⟨zh1, qzh1, hf⟩ := gb_el hf
  refine gx_kv (gx_runV (As := [.int 1, .int za1]) (rest := []) X hw (c_X12_goesThrough l E N za0 1 za1 zh qzh1) kX12_goesThrough mm_X12_296 qizh1 clX12 ⟨Nat.le_of_ble_eq_true rfl, Nat.le_of_ble_eq_true rfl⟩ rfl rfl rfl hl.1 (Nat.le_of_ble_eq_true rfl) rfl dX12_findTried_3 ⟨Nat.le_of_ble_eq_true rfl, Nat.le_of_ble_eq_true rfl⟩) hw (fun H locs hw => ?_)
  refine lv_aload_n hx hb dX12_findTried_6 rfl (lv_at hl 0 rfl) ?_
  refine lv_iconst (v := 1) hx hb dX12_findTried_7 (by decide) ?_
  obtain ⟨zh2, qzh2, hf⟩ := gb_el hf
  refine gx_putV X hw qzh2 clX12 (by decide) mf_X12_123 rfl rfl rfl dX12_findTried_8 (fun H locs hw => ?_)
  refine lv_aload_n hx hb dX12_findTried_11 rfl (lv_at hl 0 rfl) ?_
  refine lv_aload_n hx hb dX12_findTried_12 rfl (lv_at hl 0 rfl) ?_
  refine W.eq (g2 := F0 m 13 ls [.ref (gB E + za0), .ref (gB E + za0)]) rfl ?_
  obtain ⟨zt3, qzt3, hf⟩ := gb_el hf
  refine gx_getI X hw qzt3 clX12 (by decide) mf_X12_240 dX12_findTried_13 ?_
  obtain ⟨zh4, qzh4, hf⟩ := gb_el hf
  refine gx_putV X hw qzh4 clX12 (by decide) mf_X12_431 rfl rfl rfl dX12_findTried_16 (fun H locs hw => ?_)
  refine lv_aload_n hx hb dX12_findTried_19 rfl (lv_at hl 0 rfl) ?_
  refine lv_aload_n hx hb dX12_findTried_20 rfl (lv_at hl 0 rfl) ?_
  obtain ⟨zt5, qzt5, hf⟩ := gb_el hf
  refine gx_getI X hw qzt5 clX12 (by decide) mf_X12_243 dX12_findTried_21 ?_
  obtain ⟨zh6, qzh6, hf⟩ := gb_el hf
  refine gx_putV X hw qzh6 clX12 (by decide) mf_X12_434 rfl rfl rfl dX12_findTried_24 (fun H locs hw => ?_)
  refine lv_ldcw (v := 100000000) hx hb X.1.2.2.2.1 (X.1.2.2.2.2 _ mk_X12_346) dX12_findTried_27 ?_
  refine lv_istore_n (lv' := [(2, .int 100000000), (0, .ref (gB E + za0)), (1, .int za1)]) hx hb dX12_findTried_30 rfl hl (by decide) rfl (fun ls hl => ?_)
  refine lv_iconst (v := 0) hx hb dX12_findTried_31 (by decide) ?_
  refine lv_istore_n (lv' := [(3, .int 0), (2, .int 100000000), (0, .ref (gB E + za0)), (1, .int za1)]) hx hb dX12_findTried_32 rfl hl (by decide) rfl (fun ls hl => ?_)
  refine W.eq (g2 := F0 m 33 ls []) rfl ?_
  refine lv_iconst (v := 0) hx hb dX12_findTried_33 (by decide) ?_
  refine lv_istore (lv' := [(4, .int 0), (3, .int 0), (2, .int 100000000), (0, .ref (gB E + za0)), (1, .int za1)]) hx hb dX12_findTried_34 hl (by decide) rfl (fun ls hl => ?_)
  exact L_36 N za0 100000000 0 0 _ _ _ ls hf hw (lv_sub hl [3, 2, 1, 0] rfl)
