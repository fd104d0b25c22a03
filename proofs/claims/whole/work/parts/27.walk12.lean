abbrev rm_X12_tried : Room := { frames := 6, cells := 0, slots := 0, locals := 144 }
set_option maxHeartbeats 4000000 in
set_option maxRecDepth 100000 in
theorem c_X12_tried (l : Launch) (E : gE) (N : Nat) (za0 : Nat) (za1 : Int32) (za2 : Int32) (zh : PH) {h9 : PH} {r9 : Int32} (hf : f_X12_tried N za0 za1 za2 zh = some (r9, h9)) : Met l yX12_tried (gWS yX12_tried cX12_tried 3 (some .int)) rm_X12_tried (gPc E [.ref (gB E + za0), .int za1, .int za2] zh) (gQi E r9 h9) 0 0 (gA E) := by
  refine gx_met (by decide) ?_ rfl
  intro p e s m below meth c X hr hlk hin2 hw
  have hx := X.1.1
  have hb := X.1.2.1
  have hl := lv_entry [.ref (gB E + za0), .int za1, .int za2] (n := 3) (Nat.le_of_ble_eq_true rfl)
  rw [lg_entry_eq]
  generalize (lg_sl [.ref (gB E + za0), .int za1, .int za2] ++ List.replicate (3 - (lg_sl [.ref (gB E + za0), .int za1, .int za2]).length) Slot.unset).toArray = ls at hl ⊢
  have hl : lv_has ls 3 [(0, .ref (gB E + za0)), (1, .int za1), (2, .int za2)] := hl
  have J_61 : ∀ (zs0 : Int32) (zh : PH) (H : Heap) (locs : List Loc) (ls : Array Slot), f_X12_tried_61 N zs0 zh = some (r9, h9) → gw E s zh H locs → lv_has ls 3 [] → W p l e rm_X12_tried s m [.ref (gB E + za0), .int za1, .int za2].toArray below meth c H locs 0 0 (MQ below (gQi E r9 h9) [.ref (gB E + za0), .int za1, .int za2].toArray s 0 0 (gA E)) (F0 m 61 ls [.int zs0]) := by
    intro zs0 zh H locs ls hf hw hl
    unfold f_X12_tried_61 at hf
    exact gx_iret X hr hlk hw hf dX12_tried_61
  have J_27 : ∀ (zh : PH) (H : Heap) (locs : List Loc) (ls : Array Slot), f_X12_tried_27 N zh = some (r9, h9) → gw E s zh H locs → lv_has ls 3 [] → W p l e rm_X12_tried s m [.ref (gB E + za0), .int za1, .int za2].toArray below meth c H locs 0 0 (MQ below (gQi E r9 h9) [.ref (gB E + za0), .int za1, .int za2].toArray s 0 0 (gA E)) (F0 m 27 ls []) := by
    intro zh H locs ls hf hw hl
    unfold f_X12_tried_27 at hf
    refine lv_iconst (v := (-1)) hx hb dX12_tried_27 (by decide) ?_
    exact gx_iret X hr hlk hw hf dX12_tried_28
  have J_18 : ∀ (zv0 : Nat) (zv1 : Int32) (zv2 : Int32) (zh : PH) (H : Heap) (locs : List Loc) (ls : Array Slot), f_X12_tried_18 N zv0 zv1 zv2 zh = some (r9, h9) → gw E s zh H locs → lv_has ls 3 [(0, .ref (gB E + zv0)), (1, .int zv1), (2, .int zv2)] → W p l e rm_X12_tried s m [.ref (gB E + za0), .int za1, .int za2].toArray below meth c H locs 0 0 (MQ below (gQi E r9 h9) [.ref (gB E + za0), .int za1, .int za2].toArray s 0 0 (gA E)) (F0 m 18 ls []) := by
    intro zv0 zv1 zv2 zh H locs ls hf hw hl
    unfold f_X12_tried_18 at hf
    refine lv_iload_n hx hb dX12_tried_18 rfl (lv_at hl 2 rfl) ?_
    refine lv_iconst (v := 0) hx hb dX12_tried_19 (by decide) ?_
    refine lv_iconst (v := 2) hx hb dX12_tried_20 (by decide) ?_
    obtain ⟨zt2, zh1, qzh1, hf⟩ := gc_el hf
    refine gx_ki (gx_runS (As := [.int zv2, .int 0, .int 2]) (rest := []) X hw (c_X12_within l E N zv2 0 2 zh qzh1) kX12_within mm_X12_304 ⟨Nat.le_of_ble_eq_true rfl, Nat.le_of_ble_eq_true rfl⟩ rfl rfl rfl hl.1 (Nat.le_of_ble_eq_true rfl) rfl dX12_tried_21 ⟨Nat.le_of_ble_eq_true rfl, Nat.le_of_ble_eq_true rfl⟩) hw (fun H locs hw => ?_)
    refine lv_if_ne (tgt := 29) hx hb dX12_tried_24 (by decide) (fun qc3 => ?_) (fun qc3 => ?_)
    · have hf := gif_f hf qc3
      refine lv_aload_n hx hb dX12_tried_29 rfl (lv_at hl 0 rfl) ?_
      refine lv_iload_n hx hb dX12_tried_30 rfl (lv_at hl 1 rfl) ?_
      obtain ⟨qizh4, hf⟩ := gg_el hf
      obtain ⟨zh4, qzh4, hf⟩ := gb_el hf
      refine gx_kv (gx_runV (As := [.int zv1]) (rest := []) X hw (c_X12_findTried l E N zv0 zv1 zh1 qzh4) kX12_findTried mm_X12_440 qizh4 clX12 ⟨Nat.le_of_ble_eq_true rfl, Nat.le_of_ble_eq_true rfl⟩ rfl rfl rfl hl.1 (Nat.le_of_ble_eq_true rfl) rfl dX12_tried_31 ⟨Nat.le_of_ble_eq_true rfl, Nat.le_of_ble_eq_true rfl⟩) hw (fun H locs hw => ?_)
      refine lv_iload_n hx hb dX12_tried_34 rfl (lv_at hl 2 rfl) ?_
      refine W.eq (g2 := F0 m 35 ls [.int zv2]) rfl ?_
      refine lv_if_ne (tgt := 45) hx hb dX12_tried_35 (by decide) (fun qc5 => ?_) (fun qc5 => ?_)
      · have hf := gif_f hf qc5
        refine lv_iload_n hx hb dX12_tried_45 rfl (lv_at hl 2 rfl) ?_
        refine lv_iconst (v := 1) hx hb dX12_tried_46 (by decide) ?_
        refine lv_icmp_ne (tgt := 57) hx hb dX12_tried_47 (by decide) (fun qc6 => ?_) (fun qc6 => ?_)
        · have hf := gif_f hf qc6
          refine lv_aload_n hx hb dX12_tried_57 rfl (lv_at hl 0 rfl) ?_
          obtain ⟨zt7, qzt7, hf⟩ := gb_el hf
          refine gx_getI X hw qzt7 clX12 (by decide) mf_X12_437 dX12_tried_58 ?_
          exact J_61 zt7 _ _ _ ls hf hw (lv_sub hl [] rfl)
        · have hf := gif_t hf qc6
          refine lv_aload_n hx hb dX12_tried_50 rfl (lv_at hl 0 rfl) ?_
          obtain ⟨zt8, qzt8, hf⟩ := gb_el hf
          refine gx_getI X hw qzt8 clX12 (by decide) mf_X12_434 dX12_tried_51 ?_
          refine lv_goto (tgt := 61) hx hb dX12_tried_54 (by decide) ?_
          exact J_61 zt8 _ _ _ ls hf hw (lv_sub hl [] rfl)
      · have hf := gif_t hf qc5
        refine lv_aload_n hx hb dX12_tried_38 rfl (lv_at hl 0 rfl) ?_
        obtain ⟨zt9, qzt9, hf⟩ := gb_el hf
        refine gx_getI X hw qzt9 clX12 (by decide) mf_X12_431 dX12_tried_39 ?_
        refine lv_goto (tgt := 61) hx hb dX12_tried_42 (by decide) ?_
        exact J_61 zt9 _ _ _ ls hf hw (lv_sub hl [] rfl)
    · have hf := gif_t hf qc3
      exact J_27  _ _ _ ls hf hw (lv_sub hl [] rfl)
  unfold f_X12_tried at hf
  refine lv_aload_n hx hb dX12_tried_0 rfl (lv_at hl 0 rfl) ?_
  refine lv_iconst (v := 0) hx hb dX12_tried_1 (by decide) ?_
  obtain ⟨zh1, qzh1, hf⟩ := gb_el hf
  refine gx_putV X hw qzh1 clX12 (by decide) mf_X12_1 rfl rfl rfl dX12_tried_2 (fun H locs hw => ?_)
  refine lv_iload_n hx hb dX12_tried_5 rfl (lv_at hl 1 rfl) ?_
  refine lv_iconst (v := (-1)) hx hb dX12_tried_6 (by decide) ?_
  refine lv_icmp_eq (tgt := 18) hx hb dX12_tried_7 (by decide) (fun qc2 => ?_) (fun qc2 => ?_)
  · have hf := gif_t hf qc2
    exact J_18 za0 za1 za2 _ _ _ ls hf hw (lv_sub hl [0, 1, 2] rfl)
  · have hf := gif_f hf qc2
    refine lv_aload_n hx hb dX12_tried_10 rfl (lv_at hl 0 rfl) ?_
    refine lv_iload_n hx hb dX12_tried_11 rfl (lv_at hl 1 rfl) ?_
    obtain ⟨qizh3, hf⟩ := gg_el hf
    obtain ⟨zt4, zh3, qzh3, hf⟩ := gc_el hf
    refine gx_ki (gx_runV (As := [.int za1]) (rest := []) X hw (c_X12_isRule l E N za0 za1 zh1 qzh3) kX12_isRule mm_X12_318 qizh3 clX12 ⟨Nat.le_of_ble_eq_true rfl, Nat.le_of_ble_eq_true rfl⟩ rfl rfl rfl hl.1 (Nat.le_of_ble_eq_true rfl) rfl dX12_tried_12 ⟨Nat.le_of_ble_eq_true rfl, Nat.le_of_ble_eq_true rfl⟩) hw (fun H locs hw => ?_)
    refine W.eq (g2 := F0 m 15 ls [.int zt4]) rfl ?_
    refine lv_if_eq (tgt := 27) hx hb dX12_tried_15 (by decide) (fun qc5 => ?_) (fun qc5 => ?_)
    · have hf := gif_t hf qc5
      exact J_27  _ _ _ ls hf hw (lv_sub hl [] rfl)
    · have hf := gif_f hf qc5
      exact J_18 za0 za1 za2 _ _ _ ls hf hw (lv_sub hl [0, 1, 2] rfl)
abbrev rm_X12_best : Room := { frames := 6, cells := 0, slots := 0, locals := 144 }
set_option maxHeartbeats 4000000 in
set_option maxRecDepth 100000 in
theorem c_X12_best (l : Launch) (E : gE) (N : Nat) (za0 : Nat) (zh : PH) {h9 : PH} {r9 : Int32} (hf : f_X12_best N za0 zh = some (r9, h9)) : Met l yX12_best (gWS yX12_best cX12_best 5 (some .int)) rm_X12_best (gPc E [.ref (gB E + za0)] zh) (gQi E r9 h9) 0 0 (gA E) := by
  refine gx_met (by decide) ?_ rfl
  intro p e s m below meth c X hr hlk hin2 hw
  have hx := X.1.1
  have hb := X.1.2.1
  have hl := lv_entry [.ref (gB E + za0)] (n := 5) (Nat.le_of_ble_eq_true rfl)
  rw [lg_entry_eq]
  generalize (lg_sl [.ref (gB E + za0)] ++ List.replicate (5 - (lg_sl [.ref (gB E + za0)]).length) Slot.unset).toArray = ls at hl ⊢
  have hl : lv_has ls 5 [(0, .ref (gB E + za0))] := hl
  have L_14 : ∀ (zn14 : Nat) (zv0 : Nat) (zv1 : Int32) (zv2 : Int32) (zv3 : Int32) (zv4 : Int32) (zh : PH) (H : Heap) (locs : List Loc) (ls : Array Slot), gi (fun zk zs => f_X12_best_14 N zk zs.1 zs.2.1 zs.2.2.1 zs.2.2.2.1 zs.2.2.2.2.1 zs.2.2.2.2.2) zn14 (zv0, zv1, zv2, zv3, zv4, zh) = some (r9, h9) → gw E s zh H locs → lv_has ls 5 [(0, .ref (gB E + zv0)), (1, .int zv1), (2, .int zv2), (3, .int zv3), (4, .int zv4)] → W p l e rm_X12_best s m [.ref (gB E + za0)].toArray below meth c H locs 0 0 (MQ below (gQi E r9 h9) [.ref (gB E + za0)].toArray s 0 0 (gA E)) (F0 m 14 ls []) := by
    intro zn14
    induction zn14 with
    | zero =>
      intro zv0 zv1 zv2 zv3 zv4 zh H locs ls hf
      cases hf
    | succ zn14 ih_14 =>
      have J_70 : ∀ (zv0 : Nat) (zv1 : Int32) (zv2 : Int32) (zv3 : Int32) (zv4 : Int32) (zh : PH) (H : Heap) (locs : List Loc) (ls : Array Slot), f_X12_best_70 N (gi (fun zk zs => f_X12_best_14 N zk zs.1 zs.2.1 zs.2.2.1 zs.2.2.2.1 zs.2.2.2.2.1 zs.2.2.2.2.2) zn14) zv0 zv1 zv2 zv3 zv4 zh = some (r9, h9) → gw E s zh H locs → lv_has ls 5 [(0, .ref (gB E + zv0)), (1, .int zv1), (2, .int zv2), (3, .int zv3), (4, .int zv4)] → W p l e rm_X12_best s m [.ref (gB E + za0)].toArray below meth c H locs 0 0 (MQ below (gQi E r9 h9) [.ref (gB E + za0)].toArray s 0 0 (gA E)) (F0 m 70 ls []) := by
        intro zv0 zv1 zv2 zv3 zv4 zh H locs ls hf hw hl
        unfold f_X12_best_70 at hf
        obtain ⟨zx1, ezx1⟩ : ∃ y : Int32, y = zv4 + 1 := ⟨_, rfl⟩
        have hf := gl_el hf ezx1
        refine lv_iinc (v := zx1) (lv' := [(4, .int zx1), (0, .ref (gB E + zv0)), (1, .int zv1), (2, .int zv2), (3, .int zv3)]) hx hb dX12_best_70 hl (k := 4) rfl (by rw [ezx1]; rfl) (by decide) rfl (fun ls hl => ?_)
        refine lv_goto (tgt := 14) hx hb dX12_best_73 (by decide) ?_
        exact ih_14 zv0 zv1 zv2 zv3 zx1 _ _ _ ls hf hw (lv_sub hl [1, 2, 3, 4, 0] rfl)
      have J_57 : ∀ (zv0 : Nat) (zv4 : Int32) (zh : PH) (H : Heap) (locs : List Loc) (ls : Array Slot), f_X12_best_57 N (gi (fun zk zs => f_X12_best_14 N zk zs.1 zs.2.1 zs.2.2.1 zs.2.2.2.1 zs.2.2.2.2.1 zs.2.2.2.2.2) zn14) zv0 zv4 zh = some (r9, h9) → gw E s zh H locs → lv_has ls 5 [(0, .ref (gB E + zv0)), (4, .int zv4)] → W p l e rm_X12_best s m [.ref (gB E + za0)].toArray below meth c H locs 0 0 (MQ below (gQi E r9 h9) [.ref (gB E + za0)].toArray s 0 0 (gA E)) (F0 m 57 ls []) := by
        intro zv0 zv4 zh H locs ls hf hw hl
        unfold f_X12_best_57 at hf
        refine lv_iload hx hb dX12_best_57 (lv_at hl 1 rfl) ?_
        refine lv_istore_n (lv' := [(1, .int zv4), (0, .ref (gB E + zv0)), (4, .int zv4)]) hx hb dX12_best_59 rfl hl (by decide) rfl (fun ls hl => ?_)
        refine lv_aload_n hx hb dX12_best_60 rfl (lv_at hl 1 rfl) ?_
        obtain ⟨zt1, qzt1, hf⟩ := gb_el hf
        refine gx_getI X hw qzt1 clX12 (by decide) mf_X12_431 dX12_best_61 ?_
        refine lv_istore_n (lv' := [(2, .int zt1), (1, .int zv4), (0, .ref (gB E + zv0)), (4, .int zv4)]) hx hb dX12_best_64 rfl hl (by decide) rfl (fun ls hl => ?_)
        refine lv_aload_n hx hb dX12_best_65 rfl (lv_at hl 2 rfl) ?_
        obtain ⟨zt2, qzt2, hf⟩ := gb_el hf
        refine gx_getI X hw qzt2 clX12 (by decide) mf_X12_434 dX12_best_66 ?_
        refine lv_istore_n (lv' := [(3, .int zt2), (2, .int zt1), (1, .int zv4), (0, .ref (gB E + zv0)), (4, .int zv4)]) hx hb dX12_best_69 rfl hl (by decide) rfl (fun ls hl => ?_)
        exact J_70 zv0 zv4 zt1 zt2 zv4 _ _ _ ls hf hw (lv_sub hl [3, 2, 1, 0, 4] rfl)
      intro zv0 zv1 zv2 zv3 zv4 zh H locs ls hf hw hl
      have hf := gi_s hf
      dsimp only at hf
      unfold f_X12_best_14 at hf
      refine lv_iload hx hb dX12_best_14 (lv_at hl 4 rfl) ?_
      refine lv_aload_n hx hb dX12_best_16 rfl (lv_at hl 0 rfl) ?_
      obtain ⟨qizh1, hf⟩ := gg_el hf
      obtain ⟨zt2, zh1, qzh1, hf⟩ := gc_el hf
      refine gx_ki (gx_runV (As := []) (rest := [.int zv4]) X hw (c_X12_rules l E N zv0 zh qzh1) kX12_rules mm_X12_181 qizh1 clX12 ⟨Nat.le_of_ble_eq_true rfl, Nat.le_of_ble_eq_true rfl⟩ rfl rfl rfl hl.1 (Nat.le_of_ble_eq_true rfl) rfl dX12_best_17 ⟨Nat.le_of_ble_eq_true rfl, Nat.le_of_ble_eq_true rfl⟩) hw (fun H locs hw => ?_)
      refine lv_icmp_ge (tgt := 76) hx hb dX12_best_20 (by decide) (fun qc3 => ?_) (fun qc3 => ?_)
      · have hf := gif_t hf qc3
        refine lv_iload_n hx hb dX12_best_76 rfl (lv_at hl 1 rfl) ?_
        exact gx_iret X hr hlk hw hf dX12_best_77
      · have hf := gif_f hf qc3
        refine lv_aload_n hx hb dX12_best_23 rfl (lv_at hl 0 rfl) ?_
        refine lv_iload hx hb dX12_best_24 (lv_at hl 4 rfl) ?_
        obtain ⟨qizh4, hf⟩ := gg_el hf
        obtain ⟨zh4, qzh4, hf⟩ := gb_el hf
        refine gx_kv (gx_runV (As := [.int zv4]) (rest := []) X hw (c_X12_findTried l E N zv0 zv4 zh1 qzh4) kX12_findTried mm_X12_440 qizh4 clX12 ⟨Nat.le_of_ble_eq_true rfl, Nat.le_of_ble_eq_true rfl⟩ rfl rfl rfl hl.1 (Nat.le_of_ble_eq_true rfl) rfl dX12_best_26 ⟨Nat.le_of_ble_eq_true rfl, Nat.le_of_ble_eq_true rfl⟩) hw (fun H locs hw => ?_)
        refine lv_iload_n hx hb dX12_best_29 rfl (lv_at hl 1 rfl) ?_
        refine lv_if_lt (tgt := 57) hx hb dX12_best_30 (by decide) (fun qc5 => ?_) (fun qc5 => ?_)
        · have hf := gif_t hf qc5
          exact J_57 zv0 zv4 _ _ _ ls hf hw (lv_sub hl [0, 4] rfl)
        · have hf := gif_f hf qc5
          refine W.eq (g2 := F0 m 33 ls []) rfl ?_
          refine lv_aload_n hx hb dX12_best_33 rfl (lv_at hl 0 rfl) ?_
          obtain ⟨zt6, qzt6, hf⟩ := gb_el hf
          refine gx_getI X hw qzt6 clX12 (by decide) mf_X12_431 dX12_best_34 ?_
          refine lv_iload_n hx hb dX12_best_37 rfl (lv_at hl 2 rfl) ?_
          refine lv_icmp_lt (tgt := 57) hx hb dX12_best_38 (by decide) (fun qc7 => ?_) (fun qc7 => ?_)
          · have hf := gif_t hf qc7
            exact J_57 zv0 zv4 _ _ _ ls hf hw (lv_sub hl [0, 4] rfl)
          · have hf := gif_f hf qc7
            refine lv_aload_n hx hb dX12_best_41 rfl (lv_at hl 0 rfl) ?_
            obtain ⟨zt8, qzt8, hf⟩ := gb_el hf
            refine gx_getI X hw qzt8 clX12 (by decide) mf_X12_431 dX12_best_42 ?_
            refine lv_iload_n hx hb dX12_best_45 rfl (lv_at hl 2 rfl) ?_
            refine lv_icmp_ne (tgt := 70) hx hb dX12_best_46 (by decide) (fun qc9 => ?_) (fun qc9 => ?_)
            · have hf := gif_f hf qc9
              exact J_70 zv0 zv1 zv2 zv3 zv4 _ _ _ ls hf hw (lv_sub hl [0, 1, 2, 3, 4] rfl)
            · have hf := gif_t hf qc9
              refine lv_aload_n hx hb dX12_best_49 rfl (lv_at hl 0 rfl) ?_
              obtain ⟨zt10, qzt10, hf⟩ := gb_el hf
              refine gx_getI X hw qzt10 clX12 (by decide) mf_X12_434 dX12_best_50 ?_
              refine W.eq (g2 := F0 m 53 ls [.int zt10]) rfl ?_
              refine lv_iload_n hx hb dX12_best_53 rfl (lv_at hl 3 rfl) ?_
              refine lv_icmp_ge (tgt := 70) hx hb dX12_best_54 (by decide) (fun qc11 => ?_) (fun qc11 => ?_)
              · have hf := gif_t hf qc11
                exact J_70 zv0 zv1 zv2 zv3 zv4 _ _ _ ls hf hw (lv_sub hl [0, 1, 2, 3, 4] rfl)
              · have hf := gif_f hf qc11
                exact J_57 zv0 zv4 _ _ _ ls hf hw (lv_sub hl [0, 4] rfl)
  unfold f_X12_best at hf
  refine lv_aload_n hx hb dX12_best_0 rfl (lv_at hl 0 rfl) ?_
  refine lv_iconst (v := 0) hx hb dX12_best_1 (by decide) ?_
  obtain ⟨zh1, qzh1, hf⟩ := gb_el hf
  refine gx_putV X hw qzh1 clX12 (by decide) mf_X12_1 rfl rfl rfl dX12_best_2 (fun H locs hw => ?_)
  refine lv_iconst (v := (-1)) hx hb dX12_best_5 (by decide) ?_
  refine lv_istore_n (lv' := [(1, .int (-1)), (0, .ref (gB E + za0))]) hx hb dX12_best_6 rfl hl (by decide) rfl (fun ls hl => ?_)
  refine lv_iconst (v := 0) hx hb dX12_best_7 (by decide) ?_
  refine lv_istore_n (lv' := [(2, .int 0), (1, .int (-1)), (0, .ref (gB E + za0))]) hx hb dX12_best_8 rfl hl (by decide) rfl (fun ls hl => ?_)
  refine lv_iconst (v := 0) hx hb dX12_best_9 (by decide) ?_
  refine lv_istore_n (lv' := [(3, .int 0), (2, .int 0), (1, .int (-1)), (0, .ref (gB E + za0))]) hx hb dX12_best_10 rfl hl (by decide) rfl (fun ls hl => ?_)
  refine W.eq (g2 := F0 m 11 ls []) rfl ?_
  refine lv_iconst (v := 0) hx hb dX12_best_11 (by decide) ?_
  refine lv_istore (lv' := [(4, .int 0), (3, .int 0), (2, .int 0), (1, .int (-1)), (0, .ref (gB E + za0))]) hx hb dX12_best_12 hl (by decide) rfl (fun ls hl => ?_)
  exact L_14 N za0 (-1) 0 0 0 _ _ _ ls hf hw (lv_sub hl [4, 3, 2, 1, 0] rfl)
abbrev rm_X12_mark : Room := { frames := 1, cells := 0, slots := 0, locals := 22 }
set_option maxHeartbeats 4000000 in
set_option maxRecDepth 100000 in
theorem c_X12_mark (l : Launch) (E : gE) (N : Nat) (za0 : Nat) (za1 : Int32) (za2 : Int32) (zh : PH) {h9 : PH} {r9 : Int32} (hf : f_X12_mark N za0 za1 za2 zh = some (r9, h9)) : Met l yX12_mark (gWS yX12_mark cX12_mark 5 (some .boolean)) rm_X12_mark (gPc E [.ref (gB E + za0), .int za1, .int za2] zh) (gQi E r9 h9) 0 0 (gA E) := by
  refine gx_met (by decide) ?_ rfl
  intro p e s m below meth c X hr hlk hin2 hw
  have hx := X.1.1
  have hb := X.1.2.1
  have hl := lv_entry [.ref (gB E + za0), .int za1, .int za2] (n := 5) (Nat.le_of_ble_eq_true rfl)
  rw [lg_entry_eq]
  generalize (lg_sl [.ref (gB E + za0), .int za1, .int za2] ++ List.replicate (5 - (lg_sl [.ref (gB E + za0), .int za1, .int za2]).length) Slot.unset).toArray = ls at hl ⊢
  have hl : lv_has ls 5 [(0, .ref (gB E + za0)), (1, .int za1), (2, .int za2)] := hl
  have L_40 : ∀ (zn40 : Nat) (zv0 : Nat) (zv1 : Int32) (zv2 : Int32) (zv3 : Int32) (zv4 : Int32) (zh : PH) (H : Heap) (locs : List Loc) (ls : Array Slot), gi (fun zk zs => f_X12_mark_40 N zk zs.1 zs.2.1 zs.2.2.1 zs.2.2.2.1 zs.2.2.2.2.1 zs.2.2.2.2.2) zn40 (zv0, zv1, zv2, zv3, zv4, zh) = some (r9, h9) → gw E s zh H locs → lv_has ls 5 [(0, .ref (gB E + zv0)), (1, .int zv1), (2, .int zv2), (3, .int zv3), (4, .int zv4)] → W p l e rm_X12_mark s m [.ref (gB E + za0), .int za1, .int za2].toArray below meth c H locs 0 0 (MQ below (gQi E r9 h9) [.ref (gB E + za0), .int za1, .int za2].toArray s 0 0 (gA E)) (F0 m 40 ls []) := by
    intro zn40
    induction zn40 with
    | zero =>
      intro zv0 zv1 zv2 zv3 zv4 zh H locs ls hf
      cases hf
    | succ zn40 ih_40 =>
      have J_82 : ∀ (zv0 : Nat) (zv1 : Int32) (zv2 : Int32) (zv3 : Int32) (zv4 : Int32) (zs0 : Int32) (zs1 : Nat) (zs2 : Int32) (zs3 : Nat) (zh : PH) (H : Heap) (locs : List Loc) (ls : Array Slot), f_X12_mark_82 N (gi (fun zk zs => f_X12_mark_40 N zk zs.1 zs.2.1 zs.2.2.1 zs.2.2.2.1 zs.2.2.2.2.1 zs.2.2.2.2.2) zn40) zv0 zv1 zv2 zv3 zv4 zs0 zs1 zs2 zs3 zh = some (r9, h9) → gw E s zh H locs → lv_has ls 5 [(0, .ref (gB E + zv0)), (1, .int zv1), (2, .int zv2), (3, .int zv3), (4, .int zv4)] → W p l e rm_X12_mark s m [.ref (gB E + za0), .int za1, .int za2].toArray below meth c H locs 0 0 (MQ below (gQi E r9 h9) [.ref (gB E + za0), .int za1, .int za2].toArray s 0 0 (gA E)) (F0 m 82 ls [.int zs0, .ref (gB E + zs1), .int zs2, .ref (gB E + zs3)]) := by
        intro zv0 zv1 zv2 zv3 zv4 zs0 zs1 zs2 zs3 zh H locs ls hf hw hl
        unfold f_X12_mark_82 at hf
        obtain ⟨zt1, qzt1, hf⟩ := gb_el hf
        refine gx_iald X hw qzt1 dX12_mark_82 ?_
        obtain ⟨zh2, qzh2, hf⟩ := gb_el hf
        refine gx_iast X hw qzh2 dX12_mark_83 (fun H locs hw => ?_)
        obtain ⟨zx3, ezx3⟩ : ∃ y : Int32, y = zv4 + 1 := ⟨_, rfl⟩
        have hf := gl_el hf ezx3
        refine lv_iinc (v := zx3) (lv' := [(4, .int zx3), (0, .ref (gB E + zv0)), (1, .int zv1), (2, .int zv2), (3, .int zv3)]) hx hb dX12_mark_84 hl (k := 4) rfl (by rw [ezx3]; rfl) (by decide) rfl (fun ls hl => ?_)
        refine lv_goto (tgt := 40) hx hb dX12_mark_87 (by decide) ?_
        exact ih_40 zv0 zv1 zv2 zv3 zx3 _ _ _ ls hf hw (lv_sub hl [1, 2, 3, 4, 0] rfl)
      have J_65 : ∀ (zv0 : Nat) (zv1 : Int32) (zv2 : Int32) (zv3 : Int32) (zv4 : Int32) (zs0 : Int32) (zs1 : Nat) (zh : PH) (H : Heap) (locs : List Loc) (ls : Array Slot), f_X12_mark_65 N (gi (fun zk zs => f_X12_mark_40 N zk zs.1 zs.2.1 zs.2.2.1 zs.2.2.2.1 zs.2.2.2.2.1 zs.2.2.2.2.2) zn40) zv0 zv1 zv2 zv3 zv4 zs0 zs1 zh = some (r9, h9) → gw E s zh H locs → lv_has ls 5 [(0, .ref (gB E + zv0)), (1, .int zv1), (2, .int zv2), (3, .int zv3), (4, .int zv4)] → W p l e rm_X12_mark s m [.ref (gB E + za0), .int za1, .int za2].toArray below meth c H locs 0 0 (MQ below (gQi E r9 h9) [.ref (gB E + za0), .int za1, .int za2].toArray s 0 0 (gA E)) (F0 m 65 ls [.int zs0, .ref (gB E + zs1)]) := by
        intro zv0 zv1 zv2 zv3 zv4 zs0 zs1 zh H locs ls hf hw hl
        unfold f_X12_mark_65 at hf
        refine lv_aload_n hx hb dX12_mark_65 rfl (lv_at hl 0 rfl) ?_
        obtain ⟨zt1, qzt1, hf⟩ := gb_el hf
        refine gx_getR X hw qzt1 clX12 (by decide) mf_X12_83 dX12_mark_66 ?_
        refine lv_iload_n hx hb dX12_mark_69 rfl (lv_at hl 2 rfl) ?_
        refine lv_if_eq (tgt := 80) hx hb dX12_mark_70 (by decide) (fun qc2 => ?_) (fun qc2 => ?_)
        · have hf := gif_t hf qc2
          refine lv_iload hx hb dX12_mark_80 (lv_at hl 4 rfl) ?_
          exact J_82 zv0 zv1 zv2 zv3 zv4 zv4 zt1 zs0 zs1 _ _ _ ls hf hw (lv_sub hl [0, 1, 2, 3, 4] rfl)
        · have hf := gif_f hf qc2
          refine lv_iload_n hx hb dX12_mark_73 rfl (lv_at hl 3 rfl) ?_
          refine lv_iload hx hb dX12_mark_74 (lv_at hl 4 rfl) ?_
          refine lv_iadd hx hb dX12_mark_76 ?_
          refine lv_goto (tgt := 82) hx hb dX12_mark_77 (by decide) ?_
          exact J_82 zv0 zv1 zv2 zv3 zv4 (zv3 + zv4) zt1 zs0 zs1 _ _ _ ls hf hw (lv_sub hl [0, 1, 2, 3, 4] rfl)
      intro zv0 zv1 zv2 zv3 zv4 zh H locs ls hf hw hl
      have hf := gi_s hf
      dsimp only at hf
      unfold f_X12_mark_40 at hf
      refine lv_iload hx hb dX12_mark_40 (lv_at hl 4 rfl) ?_
      refine lv_sipush (v := 520) hx hb dX12_mark_42 (by decide) ?_
      refine lv_icmp_ge (tgt := 90) hx hb dX12_mark_45 (by decide) (fun qc1 => ?_) (fun qc1 => ?_)
      · have hf := gif_t hf qc1
        refine lv_aload_n hx hb dX12_mark_90 rfl (lv_at hl 0 rfl) ?_
        obtain ⟨zt2, qzt2, hf⟩ := gb_el hf
        refine gx_getR X hw qzt2 clX12 (by decide) mf_X12_120 dX12_mark_91 ?_
        refine lv_iload_n hx hb dX12_mark_94 rfl (lv_at hl 1 rfl) ?_
        refine lv_iconst (v := 1) hx hb dX12_mark_95 (by decide) ?_
        obtain ⟨zh3, qzh3, hf⟩ := gb_el hf
        refine gx_zast X hw qzh3 dX12_mark_96 (fun H locs hw => ?_)
        refine lv_aload_n hx hb dX12_mark_97 rfl (lv_at hl 0 rfl) ?_
        refine W.eq (g2 := F0 m 98 ls [.ref (gB E + zv0)]) rfl ?_
        refine lv_iconst (v := 1) hx hb dX12_mark_98 (by decide) ?_
        obtain ⟨zh4, qzh4, hf⟩ := gb_el hf
        refine gx_putV X hw qzh4 clX12 (by decide) mf_X12_123 rfl rfl rfl dX12_mark_99 (fun H locs hw => ?_)
        refine lv_iconst (v := 1) hx hb dX12_mark_102 (by decide) ?_
        exact gx_zret X hr hlk hw hf dX12_mark_103
      · have hf := gif_f hf qc1
        refine lv_aload_n hx hb dX12_mark_48 rfl (lv_at hl 0 rfl) ?_
        obtain ⟨zt5, qzt5, hf⟩ := gb_el hf
        refine gx_getR X hw qzt5 clX12 (by decide) mf_X12_83 dX12_mark_49 ?_
        refine lv_iload_n hx hb dX12_mark_52 rfl (lv_at hl 2 rfl) ?_
        refine lv_if_eq (tgt := 61) hx hb dX12_mark_53 (by decide) (fun qc6 => ?_) (fun qc6 => ?_)
        · have hf := gif_t hf qc6
          refine lv_iload_n hx hb dX12_mark_61 rfl (lv_at hl 3 rfl) ?_
          refine lv_iload hx hb dX12_mark_62 (lv_at hl 4 rfl) ?_
          refine W.eq (g2 := F0 m 64 ls [.int zv4, .int zv3, .ref (gB E + zt5)]) rfl ?_
          refine lv_iadd hx hb dX12_mark_64 ?_
          exact J_65 zv0 zv1 zv2 zv3 zv4 (zv3 + zv4) zt5 _ _ _ ls hf hw (lv_sub hl [0, 1, 2, 3, 4] rfl)
        · have hf := gif_f hf qc6
          refine lv_iload hx hb dX12_mark_56 (lv_at hl 4 rfl) ?_
          refine lv_goto (tgt := 65) hx hb dX12_mark_58 (by decide) ?_
          exact J_65 zv0 zv1 zv2 zv3 zv4 zv4 zt5 _ _ _ ls hf hw (lv_sub hl [0, 1, 2, 3, 4] rfl)
  have J_29 : ∀ (zv0 : Nat) (zv1 : Int32) (zv2 : Int32) (zh : PH) (H : Heap) (locs : List Loc) (ls : Array Slot), f_X12_mark_29 N zv0 zv1 zv2 zh = some (r9, h9) → gw E s zh H locs → lv_has ls 5 [(0, .ref (gB E + zv0)), (1, .int zv1), (2, .int zv2)] → W p l e rm_X12_mark s m [.ref (gB E + za0), .int za1, .int za2].toArray below meth c H locs 0 0 (MQ below (gQi E r9 h9) [.ref (gB E + za0), .int za1, .int za2].toArray s 0 0 (gA E)) (F0 m 29 ls []) := by
    intro zv0 zv1 zv2 zh H locs ls hf hw hl
    unfold f_X12_mark_29 at hf
    refine lv_sipush (v := 520) hx hb dX12_mark_29 (by decide) ?_
    refine lv_iload_n hx hb dX12_mark_32 rfl (lv_at hl 1 rfl) ?_
    refine lv_iconst (v := 1) hx hb dX12_mark_33 (by decide) ?_
    refine lv_iadd hx hb dX12_mark_34 ?_
    refine lv_imul hx hb dX12_mark_35 ?_
    refine lv_topi (fun zx1 ezx1 => ?_)
    have hf := gl_el hf ezx1
    refine lv_istore_n (lv' := [(3, .int zx1), (0, .ref (gB E + zv0)), (1, .int zv1), (2, .int zv2)]) hx hb dX12_mark_36 rfl hl (by decide) rfl (fun ls hl => ?_)
    refine lv_iconst (v := 0) hx hb dX12_mark_37 (by decide) ?_
    refine lv_istore (lv' := [(4, .int 0), (3, .int zx1), (0, .ref (gB E + zv0)), (1, .int zv1), (2, .int zv2)]) hx hb dX12_mark_38 hl (by decide) rfl (fun ls hl => ?_)
    exact L_40 N zv0 zv1 zv2 zx1 0 _ _ _ ls hf hw (lv_sub hl [2, 3, 4, 1, 0] rfl)
  have J_27 : ∀ (zh : PH) (H : Heap) (locs : List Loc) (ls : Array Slot), f_X12_mark_27 N zh = some (r9, h9) → gw E s zh H locs → lv_has ls 5 [] → W p l e rm_X12_mark s m [.ref (gB E + za0), .int za1, .int za2].toArray below meth c H locs 0 0 (MQ below (gQi E r9 h9) [.ref (gB E + za0), .int za1, .int za2].toArray s 0 0 (gA E)) (F0 m 27 ls []) := by
    intro zh H locs ls hf hw hl
    unfold f_X12_mark_27 at hf
    refine lv_iconst (v := 0) hx hb dX12_mark_27 (by decide) ?_
    exact gx_zret X hr hlk hw hf dX12_mark_28
  unfold f_X12_mark at hf
  refine lv_aload_n hx hb dX12_mark_0 rfl (lv_at hl 0 rfl) ?_
  refine lv_iconst (v := 0) hx hb dX12_mark_1 (by decide) ?_
  obtain ⟨zh1, qzh1, hf⟩ := gb_el hf
  refine gx_putV X hw qzh1 clX12 (by decide) mf_X12_1 rfl rfl rfl dX12_mark_2 (fun H locs hw => ?_)
  refine lv_iload_n hx hb dX12_mark_5 rfl (lv_at hl 1 rfl) ?_
  refine lv_iconst (v := 0) hx hb dX12_mark_6 (by decide) ?_
  refine lv_iconst (v := 3) hx hb dX12_mark_7 (by decide) ?_
  obtain ⟨zt3, zh2, qzh2, hf⟩ := gc_el hf
  refine gx_ki (gx_runS (As := [.int za1, .int 0, .int 3]) (rest := []) X hw (c_X12_within l E N za1 0 3 zh1 qzh2) kX12_within mm_X12_304 ⟨Nat.le_of_ble_eq_true rfl, Nat.le_of_ble_eq_true rfl⟩ rfl rfl rfl hl.1 (Nat.le_of_ble_eq_true rfl) rfl dX12_mark_8 ⟨Nat.le_of_ble_eq_true rfl, Nat.le_of_ble_eq_true rfl⟩) hw (fun H locs hw => ?_)
  refine lv_if_eq (tgt := 27) hx hb dX12_mark_11 (by decide) (fun qc4 => ?_) (fun qc4 => ?_)
  · have hf := gif_t hf qc4
    exact J_27  _ _ _ ls hf hw (lv_sub hl [] rfl)
  · have hf := gif_f hf qc4
    refine lv_iload_n hx hb dX12_mark_14 rfl (lv_at hl 2 rfl) ?_
    refine W.eq (g2 := F0 m 15 ls [.int za2]) rfl ?_
    refine lv_if_eq (tgt := 29) hx hb dX12_mark_15 (by decide) (fun qc5 => ?_) (fun qc5 => ?_)
    · have hf := gif_t hf qc5
      exact J_29 za0 za1 za2 _ _ _ ls hf hw (lv_sub hl [0, 1, 2] rfl)
    · have hf := gif_f hf qc5
      refine lv_aload_n hx hb dX12_mark_18 rfl (lv_at hl 0 rfl) ?_
      obtain ⟨zt6, qzt6, hf⟩ := gb_el hf
      refine gx_getR X hw qzt6 clX12 (by decide) mf_X12_120 dX12_mark_19 ?_
      refine lv_iload_n hx hb dX12_mark_22 rfl (lv_at hl 1 rfl) ?_
      obtain ⟨zt7, qzt7, hf⟩ := gb_el hf
      refine gx_zald X hw qzt7 dX12_mark_23 ?_
      refine lv_if_ne (tgt := 29) hx hb dX12_mark_24 (by decide) (fun qc8 => ?_) (fun qc8 => ?_)
      · have hf := gif_f hf qc8
        exact J_29 za0 za1 za2 _ _ _ ls hf hw (lv_sub hl [0, 1, 2] rfl)
      · have hf := gif_t hf qc8
        exact J_27  _ _ _ ls hf hw (lv_sub hl [] rfl)
abbrev rm_X12_count : Room := { frames := 7, cells := 0, slots := 0, locals := 162 }
set_option maxHeartbeats 4000000 in
set_option maxRecDepth 100000 in
theorem c_X12_count (l : Launch) (E : gE) (N : Nat) (za0 : Nat) (za1 : Int32) (zh : PH) {h9 : PH} {r9 : Int32} (hf : f_X12_count N za0 za1 zh = some (r9, h9)) : Met l yX12_count (gWS yX12_count cX12_count 2 (some .int)) rm_X12_count (gPc E [.ref (gB E + za0), .int za1] zh) (gQi E r9 h9) 0 0 (gA E) := by
  refine gx_met (by decide) ?_ rfl
  intro p e s m below meth c X hr hlk hin2 hw
  have hx := X.1.1
  have hb := X.1.2.1
  have hl := lv_entry [.ref (gB E + za0), .int za1] (n := 2) (Nat.le_of_ble_eq_true rfl)
  rw [lg_entry_eq]
  generalize (lg_sl [.ref (gB E + za0), .int za1] ++ List.replicate (2 - (lg_sl [.ref (gB E + za0), .int za1]).length) Slot.unset).toArray = ls at hl ⊢
  have hl : lv_has ls 2 [(0, .ref (gB E + za0)), (1, .int za1)] := hl
  unfold f_X12_count at hf
  refine lv_aload_n hx hb dX12_count_0 rfl (lv_at hl 0 rfl) ?_
  refine lv_iconst (v := 0) hx hb dX12_count_1 (by decide) ?_
  obtain ⟨zh1, qzh1, hf⟩ := gb_el hf
  refine gx_putV X hw qzh1 clX12 (by decide) mf_X12_1 rfl rfl rfl dX12_count_2 (fun H locs hw => ?_)
  refine lv_iload_n hx hb dX12_count_5 rfl (lv_at hl 1 rfl) ?_
  by_cases qc2 : (za1 : Int32) = 0
  · have hf := gif_t hf qc2
    refine lv_tableIn (off := 58) (tgt := 64) hx hb dX12_count_6 (by rw [qc2]; decide) (by rw [qc2]; decide) (by rw [qc2]; rfl) (by decide) ?_
    refine lv_aload_n hx hb dX12_count_64 rfl (lv_at hl 0 rfl) ?_
    obtain ⟨qizh3, hf⟩ := gg_el hf
    obtain ⟨zt4, zh3, qzh3, hf⟩ := gc_el hf
    refine gx_ki (gx_runV (As := []) (rest := []) X hw (c_X12_rooms l E N za0 zh1 qzh3) kX12_rooms mm_X12_231 qizh3 clX12 ⟨Nat.le_of_ble_eq_true rfl, Nat.le_of_ble_eq_true rfl⟩ rfl rfl rfl hl.1 (Nat.le_of_ble_eq_true rfl) rfl dX12_count_65 ⟨Nat.le_of_ble_eq_true rfl, Nat.le_of_ble_eq_true rfl⟩) hw (fun H locs hw => ?_)
    exact gx_iret X hr hlk hw hf dX12_count_68
  have hf := gif_f hf qc2
  by_cases qc5 : (za1 : Int32) = 1
  · have hf := gif_t hf qc5
    refine lv_tableIn (off := 63) (tgt := 69) hx hb dX12_count_6 (by rw [qc5]; decide) (by rw [qc5]; decide) (by rw [qc5]; rfl) (by decide) ?_
    refine lv_aload_n hx hb dX12_count_69 rfl (lv_at hl 0 rfl) ?_
    obtain ⟨qizh6, hf⟩ := gg_el hf
    obtain ⟨zt7, zh6, qzh6, hf⟩ := gc_el hf
    refine gx_ki (gx_runV (As := []) (rest := []) X hw (c_X12_guests l E N za0 zh1 qzh6) kX12_guests mm_X12_234 qizh6 clX12 ⟨Nat.le_of_ble_eq_true rfl, Nat.le_of_ble_eq_true rfl⟩ rfl rfl rfl hl.1 (Nat.le_of_ble_eq_true rfl) rfl dX12_count_70 ⟨Nat.le_of_ble_eq_true rfl, Nat.le_of_ble_eq_true rfl⟩) hw (fun H locs hw => ?_)
    exact gx_iret X hr hlk hw hf dX12_count_73
  have hf := gif_f hf qc5
  by_cases qc8 : (za1 : Int32) = 2
  · have hf := gif_t hf qc8
    refine lv_tableIn (off := 68) (tgt := 74) hx hb dX12_count_6 (by rw [qc8]; decide) (by rw [qc8]; decide) (by rw [qc8]; rfl) (by decide) ?_
    refine lv_aload_n hx hb dX12_count_74 rfl (lv_at hl 0 rfl) ?_
    obtain ⟨qizh9, hf⟩ := gg_el hf
    obtain ⟨zt10, zh9, qzh9, hf⟩ := gc_el hf
    refine gx_ki (gx_runV (As := []) (rest := []) X hw (c_X12_rules l E N za0 zh1 qzh9) kX12_rules mm_X12_181 qizh9 clX12 ⟨Nat.le_of_ble_eq_true rfl, Nat.le_of_ble_eq_true rfl⟩ rfl rfl rfl hl.1 (Nat.le_of_ble_eq_true rfl) rfl dX12_count_75 ⟨Nat.le_of_ble_eq_true rfl, Nat.le_of_ble_eq_true rfl⟩) hw (fun H locs hw => ?_)
    exact gx_iret X hr hlk hw hf dX12_count_78
  have hf := gif_f hf qc8
  by_cases qc11 : (za1 : Int32) = 3
  · have hf := gif_t hf qc11
    refine lv_tableIn (off := 73) (tgt := 79) hx hb dX12_count_6 (by rw [qc11]; decide) (by rw [qc11]; decide) (by rw [qc11]; rfl) (by decide) ?_
    refine lv_aload_n hx hb dX12_count_79 rfl (lv_at hl 0 rfl) ?_
    obtain ⟨qizh12, hf⟩ := gg_el hf
    obtain ⟨zt13, zh12, qzh12, hf⟩ := gc_el hf
    refine gx_ki (gx_runV (As := []) (rest := []) X hw (c_X12_insideMany l E N za0 zh1 qzh12) kX12_insideMany mm_X12_428 qizh12 clX12 ⟨Nat.le_of_ble_eq_true rfl, Nat.le_of_ble_eq_true rfl⟩ rfl rfl rfl hl.1 (Nat.le_of_ble_eq_true rfl) rfl dX12_count_80 ⟨Nat.le_of_ble_eq_true rfl, Nat.le_of_ble_eq_true rfl⟩) hw (fun H locs hw => ?_)
    exact gx_iret X hr hlk hw hf dX12_count_83
  have hf := gif_f hf qc11
  by_cases qc14 : (za1 : Int32) = 4
  · have hf := gif_t hf qc14
    refine lv_tableIn (off := 78) (tgt := 84) hx hb dX12_count_6 (by rw [qc14]; decide) (by rw [qc14]; decide) (by rw [qc14]; rfl) (by decide) ?_
    refine lv_aload_n hx hb dX12_count_84 rfl (lv_at hl 0 rfl) ?_
    obtain ⟨zt15, qzt15, hf⟩ := gb_el hf
    refine gx_getR X hw qzt15 clX12 (by decide) mf_X12_83 dX12_count_85 ?_
    refine lv_iconst (v := 0) hx hb dX12_count_88 (by decide) ?_
    obtain ⟨zt16, qzt16, hf⟩ := gb_el hf
    refine gx_iald X hw qzt16 dX12_count_89 ?_
    refine W.eq (g2 := F0 m 90 ls [.int zt16]) rfl ?_
    exact gx_iret X hr hlk hw hf dX12_count_90
  have hf := gif_f hf qc14
  by_cases qc17 : (za1 : Int32) = 5
  · have hf := gif_t hf qc17
    refine lv_tableIn (off := 85) (tgt := 91) hx hb dX12_count_6 (by rw [qc17]; decide) (by rw [qc17]; decide) (by rw [qc17]; rfl) (by decide) ?_
    refine lv_aload_n hx hb dX12_count_91 rfl (lv_at hl 0 rfl) ?_
    obtain ⟨qizh18, hf⟩ := gg_el hf
    obtain ⟨zt19, zh18, qzh18, hf⟩ := gc_el hf
    refine gx_ki (gx_runV (As := []) (rest := []) X hw (c_X12_sights l E N za0 zh1 qzh18) kX12_sights mm_X12_350 qizh18 clX12 ⟨Nat.le_of_ble_eq_true rfl, Nat.le_of_ble_eq_true rfl⟩ rfl rfl rfl hl.1 (Nat.le_of_ble_eq_true rfl) rfl dX12_count_92 ⟨Nat.le_of_ble_eq_true rfl, Nat.le_of_ble_eq_true rfl⟩) hw (fun H locs hw => ?_)
    exact gx_iret X hr hlk hw hf dX12_count_95
  have hf := gif_f hf qc17
  by_cases qc20 : (za1 : Int32) = 6
  · have hf := gif_t hf qc20
    refine lv_tableIn (off := 90) (tgt := 96) hx hb dX12_count_6 (by rw [qc20]; decide) (by rw [qc20]; decide) (by rw [qc20]; rfl) (by decide) ?_
    refine lv_aload_n hx hb dX12_count_96 rfl (lv_at hl 0 rfl) ?_
    obtain ⟨qizh21, hf⟩ := gg_el hf
    obtain ⟨zt22, zh21, qzh21, hf⟩ := gc_el hf
    refine gx_ki (gx_runV (As := []) (rest := []) X hw (c_X12_pages l E N za0 zh1 qzh21) kX12_pages mm_X12_375 qizh21 clX12 ⟨Nat.le_of_ble_eq_true rfl, Nat.le_of_ble_eq_true rfl⟩ rfl rfl rfl hl.1 (Nat.le_of_ble_eq_true rfl) rfl dX12_count_97 ⟨Nat.le_of_ble_eq_true rfl, Nat.le_of_ble_eq_true rfl⟩) hw (fun H locs hw => ?_)
    exact gx_iret X hr hlk hw hf dX12_count_100
  have hf := gif_f hf qc20
  by_cases qc23 : (za1 : Int32) = 7
  · have hf := gif_t hf qc23
    refine lv_tableIn (off := 95) (tgt := 101) hx hb dX12_count_6 (by rw [qc23]; decide) (by rw [qc23]; decide) (by rw [qc23]; rfl) (by decide) ?_
    refine lv_aload_n hx hb dX12_count_101 rfl (lv_at hl 0 rfl) ?_
    obtain ⟨qizh24, hf⟩ := gg_el hf
    obtain ⟨zt25, zh24, qzh24, hf⟩ := gc_el hf
    refine gx_ki (gx_runV (As := []) (rest := []) X hw (c_X12_jobs l E N za0 zh1 qzh24) kX12_jobs mm_X12_382 qizh24 clX12 ⟨Nat.le_of_ble_eq_true rfl, Nat.le_of_ble_eq_true rfl⟩ rfl rfl rfl hl.1 (Nat.le_of_ble_eq_true rfl) rfl dX12_count_102 ⟨Nat.le_of_ble_eq_true rfl, Nat.le_of_ble_eq_true rfl⟩) hw (fun H locs hw => ?_)
    exact gx_iret X hr hlk hw hf dX12_count_105
  have hf := gif_f hf qc23
  by_cases qc26 : (za1 : Int32) = 8
  · have hf := gif_t hf qc26
    refine lv_tableIn (off := 100) (tgt := 106) hx hb dX12_count_6 (by rw [qc26]; decide) (by rw [qc26]; decide) (by rw [qc26]; rfl) (by decide) ?_
    refine lv_aload_n hx hb dX12_count_106 rfl (lv_at hl 0 rfl) ?_
    obtain ⟨qizh27, hf⟩ := gg_el hf
    obtain ⟨zt28, zh27, qzh27, hf⟩ := gc_el hf
    refine gx_ki (gx_runV (As := []) (rest := []) X hw (c_X12_booked l E N za0 zh1 qzh27) kX12_booked mm_X12_331 qizh27 clX12 ⟨Nat.le_of_ble_eq_true rfl, Nat.le_of_ble_eq_true rfl⟩ rfl rfl rfl hl.1 (Nat.le_of_ble_eq_true rfl) rfl dX12_count_107 ⟨Nat.le_of_ble_eq_true rfl, Nat.le_of_ble_eq_true rfl⟩) hw (fun H locs hw => ?_)
    exact gx_iret X hr hlk hw hf dX12_count_110
  have hf := gif_f hf qc26
  by_cases qc29 : (za1 : Int32) = 9
  · have hf := gif_t hf qc29
    refine lv_tableIn (off := 105) (tgt := 111) hx hb dX12_count_6 (by rw [qc29]; decide) (by rw [qc29]; decide) (by rw [qc29]; rfl) (by decide) ?_
    refine lv_aload_n hx hb dX12_count_111 rfl (lv_at hl 0 rfl) ?_
    obtain ⟨qizh30, hf⟩ := gg_el hf
    obtain ⟨zt31, zh30, qzh30, hf⟩ := gc_el hf
    refine gx_ki (gx_runV (As := []) (rest := []) X hw (c_X12_events l E N za0 zh1 qzh30) kX12_events mm_X12_284 qizh30 clX12 ⟨Nat.le_of_ble_eq_true rfl, Nat.le_of_ble_eq_true rfl⟩ rfl rfl rfl hl.1 (Nat.le_of_ble_eq_true rfl) rfl dX12_count_112 ⟨Nat.le_of_ble_eq_true rfl, Nat.le_of_ble_eq_true rfl⟩) hw (fun H locs hw => ?_)
    exact gx_iret X hr hlk hw hf dX12_count_115
  have hf := gif_f hf qc29
  by_cases qc32 : (za1 : Int32) = 10
  · have hf := gif_t hf qc32
    refine lv_tableIn (off := 110) (tgt := 116) hx hb dX12_count_6 (by rw [qc32]; decide) (by rw [qc32]; decide) (by rw [qc32]; rfl) (by decide) ?_
    refine lv_aload_n hx hb dX12_count_116 rfl (lv_at hl 0 rfl) ?_
    obtain ⟨zt33, qzt33, hf⟩ := gb_el hf
    refine gx_getI X hw qzt33 clX12 (by decide) mf_X12_11 dX12_count_117 ?_
    exact gx_iret X hr hlk hw hf dX12_count_120
  have hf := gif_f hf qc32
  have nqc2 := lv_neT (a := 0) qc2 (by decide)
  have nqc5 := lv_neT (a := 1) qc5 (by decide)
  have nqc8 := lv_neT (a := 2) qc8 (by decide)
  have nqc11 := lv_neT (a := 3) qc11 (by decide)
  have nqc14 := lv_neT (a := 4) qc14 (by decide)
  have nqc17 := lv_neT (a := 5) qc17 (by decide)
  have nqc20 := lv_neT (a := 6) qc20 (by decide)
  have nqc23 := lv_neT (a := 7) qc23 (by decide)
  have nqc26 := lv_neT (a := 8) qc26 (by decide)
  have nqc29 := lv_neT (a := 9) qc29 (by decide)
  have nqc32 := lv_neT (a := 10) qc32 (by decide)
  refine lv_tableOut (tgt := 121) hx hb dX12_count_6 (by omega) (by decide) ?_
  refine lv_iconst (v := (-1)) hx hb dX12_count_121 (by decide) ?_
  exact gx_iret X hr hlk hw hf dX12_count_122
