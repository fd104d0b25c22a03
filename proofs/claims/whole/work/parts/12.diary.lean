def f_X0_empty (N : Nat) (za0 : Nat) (zh : PH) : Option PH :=
  gb (pfV 0 1 za0 (.int 0) zh) fun zh1 =>
  gb (pfV 0 2 za0 (.int 0) zh1) fun zh2 =>
  some zh2
def f_X0_copyFrom (N : Nat) (za0 : Nat) (za1 : Nat) (zh : PH) : Option PH :=
  gb (gfR 0 0 za1 zh) fun zt1 =>
  gb (gfR 0 0 za0 zh) fun zt2 =>
  gb (gfI 0 1 za1 zh) fun zt3 =>
  gb (cpL 1 zt1 0 zt2 0 zt3 zh) fun zh4 =>
  gb (gfI 0 1 za1 zh4) fun zt5 =>
  gb (pfV 0 1 za0 (.int zt5) zh4) fun zh6 =>
  gb (gfI 0 2 za1 zh6) fun zt7 =>
  gb (pfV 0 2 za0 (.int zt7) zh6) fun zh8 =>
  some zh8
def f_X0_beginChain (N : Nat) (za0 : Nat) (za1 : Int32) (zh : PH) : Option PH :=
  gb (gfI 0 2 za0 zh) fun zt1 =>
  gb (pfV 0 2 za0 (.int (gmax zt1 za1)) zh) fun zh2 =>
  some zh2
def f_X0_write_78 (N : Nat) (zh : PH) : Option PH :=
  some zh
def f_X0_write (N : Nat) (za0 : Nat) (za1 : Int32) (za2 : Int32) (za3 : Int32) (za4 : Int32) (zh : PH) : Option PH :=
  gb (gfI 0 1 za0 zh) fun zt1 =>
  if (1000 : Int32) ≤ zt1 then (
  f_X0_write_78 N  zh)
  else (
  gl ((Int32.toInt64 ((((za1 * 16) + (za2 - (-1))) * 16) + (za3 - (-1))))) fun (zx3 : Int64) =>
  gb (gfR 0 0 za0 zh) fun zt4 =>
  gb (gfI 0 1 za0 zh) fun zt5 =>
  gb (gfI 0 2 za0 zh) fun zt6 =>
  gb (asL 1 zt4 zt5 (((((Int32.toInt64 zt6) * 256) + (Int32.toInt64 za4)) * 4096) + zx3) zh) fun zh7 =>
  gb (gfI 0 1 za0 zh7) fun zt8 =>
  gb (pfV 0 1 za0 (.int (zt8 + 1)) zh7) fun zh9 =>
  gb (gfI 0 2 za0 zh9) fun zt10 =>
  gb (pfV 0 2 za0 (.int (zt10 + za4)) zh9) fun zh11 =>
  f_X0_write_78 N  zh11)
def f_X0_beginAt (N : Nat) (za0 : Nat) (za1 : Int32) (zh : PH) : Option (Int32 × PH) :=
  gb (gfR 0 0 za0 zh) fun zt1 =>
  gb (arL 1 zt1 za1 zh) fun zt2 =>
  some ((Int64.toInt32 (zt2 >>> (Int32.toInt64 20 &&& 63))), zh)
def f_X0_endAt (N : Nat) (za0 : Nat) (za1 : Int32) (zh : PH) : Option (Int32 × PH) :=
  gg (gIs 0 za0 zh) <|
  gc (f_X0_beginAt N za0 za1 zh) fun zt2 zh1 =>
  gb (gfR 0 0 za0 zh1) fun zt3 =>
  gb (arL 1 zt3 za1 zh1) fun zt4 =>
  some ((zt2 + ((Int64.toInt32 (zt4 >>> (Int32.toInt64 12 &&& 63))) &&& 255)), zh1)
def f_X0_guestAt (N : Nat) (za0 : Nat) (za1 : Int32) (zh : PH) : Option (Int32 × PH) :=
  gb (gfR 0 0 za0 zh) fun zt1 =>
  gb (arL 1 zt1 za1 zh) fun zt2 =>
  some (((Int64.toInt32 (zt2 >>> (Int32.toInt64 8 &&& 63))) &&& 15), zh)
def f_X0_toAt (N : Nat) (za0 : Nat) (za1 : Int32) (zh : PH) : Option (Int32 × PH) :=
  gb (gfR 0 0 za0 zh) fun zt1 =>
  gb (arL 1 zt1 za1 zh) fun zt2 =>
  some ((((Int64.toInt32 zt2) &&& 15) + (-1)), zh)
def f_X0_placeOf_49 (N : Nat) (zk7 : (Nat × Int32 × Int32 × Int32 × PH) → Option (Int32 × PH)) (zv0 : Nat) (zv1 : Int32) (zv2 : Int32) (zv3 : Int32) (zh : PH) : Option (Int32 × PH) :=
  gl (zv3 + (-1)) fun (zx1 : Int32) =>
  zk7 (zv0, zv1, zv2, zx1, zh)
def f_X0_placeOf_48 (N : Nat) (zs0 : Int32) (zh : PH) : Option (Int32 × PH) :=
  some (zs0, zh)
def f_X0_placeOf_7 (N : Nat) (zk7 : (Nat × Int32 × Int32 × Int32 × PH) → Option (Int32 × PH)) (zv0 : Nat) (zv1 : Int32) (zv2 : Int32) (zv3 : Int32) (zh : PH) : Option (Int32 × PH) :=
  if (zv3 : Int32) < 0 then (
  some ((-1), zh))
  else (
  gg (gIs 0 zv0 zh) <|
  gc (f_X0_guestAt N zv0 zv3 zh) fun zt3 zh2 =>
  if (zt3 : Int32) = zv1 then (
  gg (gIs 0 zv0 zh2) <|
  gc (f_X0_beginAt N zv0 zv3 zh2) fun zt6 zh5 =>
  if (zv2 : Int32) < zt6 then (
  f_X0_placeOf_49 N zk7 zv0 zv1 zv2 zv3 zh5)
  else (
  gg (gIs 0 zv0 zh5) <|
  gc (f_X0_endAt N zv0 zv3 zh5) fun zt9 zh8 =>
  if (zv2 : Int32) < zt9 then (
  f_X0_placeOf_48 N (-2) zh8)
  else (
  gg (gIs 0 zv0 zh8) <|
  gc (f_X0_toAt N zv0 zv3 zh8) fun zt12 zh11 =>
  f_X0_placeOf_48 N zt12 zh11)))
  else (
  f_X0_placeOf_49 N zk7 zv0 zv1 zv2 zv3 zh2))
def f_X0_placeOf (N : Nat) (za0 : Nat) (za1 : Int32) (za2 : Int32) (zh : PH) : Option (Int32 × PH) :=
  gb (gfI 0 1 za0 zh) fun zt1 =>
  gl ((zt1 - 1)) fun (zx2 : Int32) =>
  gi (fun zk zs => f_X0_placeOf_7 N zk zs.1 zs.2.1 zs.2.2.1 zs.2.2.2.1 zs.2.2.2.2) N (za0, za1, za2, zx2, zh)
def f_X0_fromAt (N : Nat) (za0 : Nat) (za1 : Int32) (zh : PH) : Option (Int32 × PH) :=
  gb (gfR 0 0 za0 zh) fun zt1 =>
  gb (arL 1 zt1 za1 zh) fun zt2 =>
  some ((((Int64.toInt32 (zt2 >>> (Int32.toInt64 4 &&& 63))) &&& 15) + (-1)), zh)
def f_X0_occupantOf_55 (N : Nat) (zk7 : (Nat × Int32 × Int32 × Int32 × PH) → Option (Int32 × PH)) (zv0 : Nat) (zv1 : Int32) (zv2 : Int32) (zv3 : Int32) (zh : PH) : Option (Int32 × PH) :=
  gl (zv3 + (-1)) fun (zx1 : Int32) =>
  zk7 (zv0, zv1, zv2, zx1, zh)
def f_X0_occupantOf_35 (N : Nat) (zk7 : (Nat × Int32 × Int32 × Int32 × PH) → Option (Int32 × PH)) (zv0 : Nat) (zv1 : Int32) (zv2 : Int32) (zv3 : Int32) (zh : PH) : Option (Int32 × PH) :=
  gg (gIs 0 zv0 zh) <|
  gc (f_X0_fromAt N zv0 zv3 zh) fun zt2 zh1 =>
  if (zt2 : Int32) = zv1 then (
  gg (gIs 0 zv0 zh1) <|
  gc (f_X0_beginAt N zv0 zv3 zh1) fun zt5 zh4 =>
  if (zv2 : Int32) < zt5 then (
  f_X0_occupantOf_55 N zk7 zv0 zv1 zv2 zv3 zh4)
  else (
  some ((-1), zh4)))
  else (
  f_X0_occupantOf_55 N zk7 zv0 zv1 zv2 zv3 zh1)
def f_X0_occupantOf_7 (N : Nat) (zk7 : (Nat × Int32 × Int32 × Int32 × PH) → Option (Int32 × PH)) (zv0 : Nat) (zv1 : Int32) (zv2 : Int32) (zv3 : Int32) (zh : PH) : Option (Int32 × PH) :=
  if (zv3 : Int32) < 0 then (
  some ((-1), zh))
  else (
  gg (gIs 0 zv0 zh) <|
  gc (f_X0_toAt N zv0 zv3 zh) fun zt3 zh2 =>
  if (zt3 : Int32) = zv1 then (
  gg (gIs 0 zv0 zh2) <|
  gc (f_X0_endAt N zv0 zv3 zh2) fun zt6 zh5 =>
  if (zv2 : Int32) < zt6 then (
  f_X0_occupantOf_35 N zk7 zv0 zv1 zv2 zv3 zh5)
  else (
  gg (gIs 0 zv0 zh5) <|
  gc (f_X0_guestAt N zv0 zv3 zh5) fun zt9 zh8 =>
  some (zt9, zh8)))
  else (
  f_X0_occupantOf_35 N zk7 zv0 zv1 zv2 zv3 zh2))
def f_X0_occupantOf (N : Nat) (za0 : Nat) (za1 : Int32) (za2 : Int32) (zh : PH) : Option (Int32 × PH) :=
  gb (gfI 0 1 za0 zh) fun zt1 =>
  gl ((zt1 - 1)) fun (zx2 : Int32) =>
  gi (fun zk zs => f_X0_occupantOf_7 N zk zs.1 zs.2.1 zs.2.2.1 zs.2.2.2.1 zs.2.2.2.2) N (za0, za1, za2, zx2, zh)
def f_X0_bitIfStayed_22 (N : Nat) (zs0 : Int32) (zh : PH) : Option (Int32 × PH) :=
  some (zs0, zh)
def f_X0_bitIfStayed_21 (N : Nat) (zh : PH) : Option (Int32 × PH) :=
  f_X0_bitIfStayed_22 N 0 zh
def f_X0_bitIfStayed (N : Nat) (za0 : Int32) (za1 : Int32) (za2 : Int32) (za3 : Int32) (zh : PH) : Option (Int32 × PH) :=
  if (za0 : Int32) = (-1) then (
  f_X0_bitIfStayed_21 N  zh)
  else (
  if (za2 : Int32) ≤ za1 then (
  f_X0_bitIfStayed_21 N  zh)
  else (
  if (za2 : Int32) ≤ za3 then (
  f_X0_bitIfStayed_21 N  zh)
  else (
  f_X0_bitIfStayed_22 N (1 <<< (za0 &&& 31)) zh)))
def f_X0_occupantsWithin_98 (N : Nat) (zv2 : Int32) (zv3 : Int32) (zv4 : Int32) (zv5 : Int32) (zv6 : Int32) (zh : PH) : Option (Int32 × PH) :=
  gc (f_X0_bitIfStayed N zv5 zv6 (zv3 + 1) zv2 zh) fun zt2 zh1 =>
  some ((zv4 ||| zt2), zh1)
def f_X0_occupantsWithin_92 (N : Nat) (zk12 : (Nat × Int32 × Int32 × Int32 × Int32 × Int32 × Int32 × Int32 × PH) → Option (Int32 × PH)) (zv0 : Nat) (zv1 : Int32) (zv2 : Int32) (zv3 : Int32) (zv4 : Int32) (zv5 : Int32) (zv6 : Int32) (zv7 : Int32) (zh : PH) : Option (Int32 × PH) :=
  gl (zv7 + 1) fun (zx1 : Int32) =>
  zk12 (zv0, zv1, zv2, zv3, zv4, zv5, zv6, zx1, zh)
def f_X0_occupantsWithin_12 (N : Nat) (zk12 : (Nat × Int32 × Int32 × Int32 × Int32 × Int32 × Int32 × Int32 × PH) → Option (Int32 × PH)) (zv0 : Nat) (zv1 : Int32) (zv2 : Int32) (zv3 : Int32) (zv4 : Int32) (zv5 : Int32) (zv6 : Int32) (zv7 : Int32) (zh : PH) : Option (Int32 × PH) :=
  gb (gfI 0 1 zv0 zh) fun zt1 =>
  if (zt1 : Int32) ≤ zv7 then (
  f_X0_occupantsWithin_98 N zv2 zv3 zv4 zv5 zv6 zh)
  else (
  gg (gIs 0 zv0 zh) <|
  gc (f_X0_beginAt N zv0 zv7 zh) fun zt4 zh3 =>
  if (zv3 : Int32) < zt4 then (
  f_X0_occupantsWithin_98 N zv2 zv3 zv4 zv5 zv6 zh3)
  else (
  gg (gIs 0 zv0 zh3) <|
  gc (f_X0_fromAt N zv0 zv7 zh3) fun zt7 zh6 =>
  if (zt7 : Int32) = zv1 then (
  gg (gIs 0 zv0 zh6) <|
  gc (f_X0_beginAt N zv0 zv7 zh6) fun zt17 zh16 =>
  gc (f_X0_bitIfStayed N zv5 zv6 zt17 zv2 zh16) fun zt19 zh18 =>
  gl ((zv4 ||| zt19)) fun (zx20 : Int32) =>
  f_X0_occupantsWithin_92 N zk12 zv0 zv1 zv2 zv3 zx20 (-1) zv6 zv7 zh18)
  else (
  gg (gIs 0 zv0 zh6) <|
  gc (f_X0_toAt N zv0 zv7 zh6) fun zt10 zh9 =>
  if (zt10 : Int32) = zv1 then (
  gg (gIs 0 zv0 zh9) <|
  gc (f_X0_guestAt N zv0 zv7 zh9) fun zt13 zh12 =>
  gg (gIs 0 zv0 zh12) <|
  gc (f_X0_endAt N zv0 zv7 zh12) fun zt15 zh14 =>
  f_X0_occupantsWithin_92 N zk12 zv0 zv1 zv2 zv3 zv4 zt13 zt15 zv7 zh14)
  else (
  f_X0_occupantsWithin_92 N zk12 zv0 zv1 zv2 zv3 zv4 zv5 zv6 zv7 zh9))))
def f_X0_occupantsWithin (N : Nat) (za0 : Nat) (za1 : Int32) (za2 : Int32) (za3 : Int32) (zh : PH) : Option (Int32 × PH) :=
  gi (fun zk zs => f_X0_occupantsWithin_12 N zk zs.1 zs.2.1 zs.2.2.1 zs.2.2.2.1 zs.2.2.2.2.1 zs.2.2.2.2.2.1 zs.2.2.2.2.2.2.1 zs.2.2.2.2.2.2.2.1 zs.2.2.2.2.2.2.2.2) N (za0, za1, za2, za3, 0, (-1), 0, 0, zh)
abbrev rm_X0_empty : Room := { frames := 0, cells := 0, slots := 0, locals := 0 }
set_option maxHeartbeats 4000000 in
set_option maxRecDepth 100000 in
theorem c_X0_empty (l : Launch) (E : gE) (N : Nat) (za0 : Nat) (zh : PH) {h9 : PH} (hf : f_X0_empty N za0 zh = some h9) : Met l yX0_empty (gWS yX0_empty cX0_empty 1 none) rm_X0_empty (gPc E [.ref (gB E + za0)] zh) (gQv E h9) 0 0 (gA E) := by
  refine gx_met (by decide) ?_ rfl
  intro p e s m below meth c X hr hlk hin2 hw
  have hx := X.1.1
  have hb := X.1.2.1
  have hl := lv_entry [.ref (gB E + za0)] (n := 1) (Nat.le_of_ble_eq_true rfl)
  rw [lg_entry_eq]
  generalize (lg_sl [.ref (gB E + za0)] ++ List.replicate (1 - (lg_sl [.ref (gB E + za0)]).length) Slot.unset).toArray = ls at hl ⊢
  have hl : lv_has ls 1 [(0, .ref (gB E + za0))] := hl
  unfold f_X0_empty at hf
  refine lv_aload_n hx hb dX0_empty_0 rfl (lv_at hl 0 rfl) ?_
  refine lv_iconst (v := 0) hx hb dX0_empty_1 (by decide) ?_
  obtain ⟨zh1, qzh1, hf⟩ := gb_el hf
  refine gx_putV X hw qzh1 clX0 (by decide) mf_X0_15 rfl rfl rfl dX0_empty_2 (fun H locs hw => ?_)
  refine lv_aload_n hx hb dX0_empty_5 rfl (lv_at hl 0 rfl) ?_
  refine lv_iconst (v := 0) hx hb dX0_empty_6 (by decide) ?_
  obtain ⟨zh2, qzh2, hf⟩ := gb_el hf
  refine gx_putV X hw qzh2 clX0 (by decide) mf_X0_19 rfl rfl rfl dX0_empty_7 (fun H locs hw => ?_)
  exact gx_vret X hr hlk hw hf dX0_empty_10
abbrev rm_X0_copyFrom : Room := { frames := 1, cells := 0, slots := 0, locals := 64 }
set_option maxHeartbeats 4000000 in
set_option maxRecDepth 100000 in
theorem c_X0_copyFrom (l : Launch) (E : gE) (N : Nat) (za0 : Nat) (za1 : Nat) (zh : PH) {h9 : PH} (hf : f_X0_copyFrom N za0 za1 zh = some h9) : Met l yX0_copyFrom (gWS yX0_copyFrom cX0_copyFrom 2 none) rm_X0_copyFrom (gPc E [.ref (gB E + za0), .ref (gB E + za1)] zh) (gQv E h9) 0 0 (gA E) := by
  refine gx_met (by decide) ?_ rfl
  intro p e s m below meth c X hr hlk hin2 hw
  have hx := X.1.1
  have hb := X.1.2.1
  have hl := lv_entry [.ref (gB E + za0), .ref (gB E + za1)] (n := 2) (Nat.le_of_ble_eq_true rfl)
  rw [lg_entry_eq]
  generalize (lg_sl [.ref (gB E + za0), .ref (gB E + za1)] ++ List.replicate (2 - (lg_sl [.ref (gB E + za0), .ref (gB E + za1)]).length) Slot.unset).toArray = ls at hl ⊢
  have hl : lv_has ls 2 [(0, .ref (gB E + za0)), (1, .ref (gB E + za1))] := hl
  unfold f_X0_copyFrom at hf
  refine lv_aload_n hx hb dX0_copyFrom_0 rfl (lv_at hl 1 rfl) ?_
  obtain ⟨zt1, qzt1, hf⟩ := gb_el hf
  refine gx_getR X hw qzt1 clX0 (by decide) mf_X0_11 dX0_copyFrom_1 ?_
  refine lv_iconst (v := 0) hx hb dX0_copyFrom_4 (by decide) ?_
  refine lv_aload_n hx hb dX0_copyFrom_5 rfl (lv_at hl 0 rfl) ?_
  obtain ⟨zt2, qzt2, hf⟩ := gb_el hf
  refine gx_getR X hw qzt2 clX0 (by decide) mf_X0_11 dX0_copyFrom_6 ?_
  refine lv_iconst (v := 0) hx hb dX0_copyFrom_9 (by decide) ?_
  refine lv_aload_n hx hb dX0_copyFrom_10 rfl (lv_at hl 1 rfl) ?_
  obtain ⟨zt3, qzt3, hf⟩ := gb_el hf
  refine gx_getI X hw qzt3 clX0 (by decide) mf_X0_15 dX0_copyFrom_11 ?_
  obtain ⟨zh4, qzh4, hf⟩ := gb_el hf
  refine gx_cpL X hw qzh4 mm_X0_22 ac_n ac_s mI_java_lang_System hl.1 (Nat.le_of_ble_eq_true rfl) (Nat.le_of_ble_eq_true rfl) dX0_copyFrom_14 (fun H locs hw => ?_)
  refine W.eq (g2 := F0 m 17 ls []) rfl ?_
  refine lv_aload_n hx hb dX0_copyFrom_17 rfl (lv_at hl 0 rfl) ?_
  refine lv_aload_n hx hb dX0_copyFrom_18 rfl (lv_at hl 1 rfl) ?_
  obtain ⟨zt5, qzt5, hf⟩ := gb_el hf
  refine gx_getI X hw qzt5 clX0 (by decide) mf_X0_15 dX0_copyFrom_19 ?_
  obtain ⟨zh6, qzh6, hf⟩ := gb_el hf
  refine gx_putV X hw qzh6 clX0 (by decide) mf_X0_15 rfl rfl rfl dX0_copyFrom_22 (fun H locs hw => ?_)
  refine lv_aload_n hx hb dX0_copyFrom_25 rfl (lv_at hl 0 rfl) ?_
  refine lv_aload_n hx hb dX0_copyFrom_26 rfl (lv_at hl 1 rfl) ?_
  obtain ⟨zt7, qzt7, hf⟩ := gb_el hf
  refine gx_getI X hw qzt7 clX0 (by decide) mf_X0_19 dX0_copyFrom_27 ?_
  obtain ⟨zh8, qzh8, hf⟩ := gb_el hf
  refine gx_putV X hw qzh8 clX0 (by decide) mf_X0_19 rfl rfl rfl dX0_copyFrom_30 (fun H locs hw => ?_)
  exact gx_vret X hr hlk hw hf dX0_copyFrom_33
abbrev rm_X0_beginChain : Room := { frames := 1, cells := 0, slots := 0, locals := 21 }
set_option maxHeartbeats 4000000 in
set_option maxRecDepth 100000 in
theorem c_X0_beginChain (l : Launch) (E : gE) (N : Nat) (za0 : Nat) (za1 : Int32) (zh : PH) {h9 : PH} (hf : f_X0_beginChain N za0 za1 zh = some h9) : Met l yX0_beginChain (gWS yX0_beginChain cX0_beginChain 2 none) rm_X0_beginChain (gPc E [.ref (gB E + za0), .int za1] zh) (gQv E h9) 0 0 (gA E) := by
  refine gx_met (by decide) ?_ rfl
  intro p e s m below meth c X hr hlk hin2 hw
  have hx := X.1.1
  have hb := X.1.2.1
  have hl := lv_entry [.ref (gB E + za0), .int za1] (n := 2) (Nat.le_of_ble_eq_true rfl)
  rw [lg_entry_eq]
  generalize (lg_sl [.ref (gB E + za0), .int za1] ++ List.replicate (2 - (lg_sl [.ref (gB E + za0), .int za1]).length) Slot.unset).toArray = ls at hl ⊢
  have hl : lv_has ls 2 [(0, .ref (gB E + za0)), (1, .int za1)] := hl
  unfold f_X0_beginChain at hf
  refine lv_aload_n hx hb dX0_beginChain_0 rfl (lv_at hl 0 rfl) ?_
  refine lv_aload_n hx hb dX0_beginChain_1 rfl (lv_at hl 0 rfl) ?_
  obtain ⟨zt1, qzt1, hf⟩ := gb_el hf
  refine gx_getI X hw qzt1 clX0 (by decide) mf_X0_19 dX0_beginChain_2 ?_
  refine lv_iload_n hx hb dX0_beginChain_5 rfl (lv_at hl 1 rfl) ?_
  refine gx_max X mm_X0_28 mt_max mI_java_lang_Math mx_max hl.1 (Nat.le_of_ble_eq_true rfl) (Nat.le_of_ble_eq_true rfl) (Nat.le_of_ble_eq_true rfl) (Nat.le_of_ble_eq_true rfl) dX0_beginChain_6 ?_
  obtain ⟨zh2, qzh2, hf⟩ := gb_el hf
  refine gx_putV X hw qzh2 clX0 (by decide) mf_X0_19 rfl rfl rfl dX0_beginChain_9 (fun H locs hw => ?_)
  exact gx_vret X hr hlk hw hf dX0_beginChain_12
abbrev rm_X0_write : Room := { frames := 0, cells := 0, slots := 0, locals := 0 }
set_option maxHeartbeats 4000000 in
set_option maxRecDepth 100000 in
theorem c_X0_write (l : Launch) (E : gE) (N : Nat) (za0 : Nat) (za1 : Int32) (za2 : Int32) (za3 : Int32) (za4 : Int32) (zh : PH) {h9 : PH} (hf : f_X0_write N za0 za1 za2 za3 za4 zh = some h9) : Met l yX0_write (gWS yX0_write cX0_write 7 none) rm_X0_write (gPc E [.ref (gB E + za0), .int za1, .int za2, .int za3, .int za4] zh) (gQv E h9) 0 0 (gA E) := by
  refine gx_met (by decide) ?_ rfl
  intro p e s m below meth c X hr hlk hin2 hw
  have hx := X.1.1
  have hb := X.1.2.1
  have hl := lv_entry [.ref (gB E + za0), .int za1, .int za2, .int za3, .int za4] (n := 7) (Nat.le_of_ble_eq_true rfl)
  rw [lg_entry_eq]
  generalize (lg_sl [.ref (gB E + za0), .int za1, .int za2, .int za3, .int za4] ++ List.replicate (7 - (lg_sl [.ref (gB E + za0), .int za1, .int za2, .int za3, .int za4]).length) Slot.unset).toArray = ls at hl ⊢
  have hl : lv_has ls 7 [(0, .ref (gB E + za0)), (1, .int za1), (2, .int za2), (3, .int za3), (4, .int za4)] := hl
  have J_78 : ∀ (zh : PH) (H : Heap) (locs : List Loc) (ls : Array Slot), f_X0_write_78 N zh = some h9 → gw E s zh H locs → lv_has ls 7 [] → W p l e rm_X0_write s m [.ref (gB E + za0), .int za1, .int za2, .int za3, .int za4].toArray below meth c H locs 0 0 (MQ below (gQv E h9) [.ref (gB E + za0), .int za1, .int za2, .int za3, .int za4].toArray s 0 0 (gA E)) (F0 m 78 ls []) := by
    intro zh H locs ls hf hw hl
    unfold f_X0_write_78 at hf
    exact gx_vret X hr hlk hw hf dX0_write_78
  unfold f_X0_write at hf
  refine lv_aload_n hx hb dX0_write_0 rfl (lv_at hl 0 rfl) ?_
  obtain ⟨zt1, qzt1, hf⟩ := gb_el hf
  refine gx_getI X hw qzt1 clX0 (by decide) mf_X0_15 dX0_write_1 ?_
  refine lv_sipush (v := 1000) hx hb dX0_write_4 (by decide) ?_
  refine lv_icmp_ge (tgt := 78) hx hb dX0_write_7 (by decide) (fun qc2 => ?_) (fun qc2 => ?_)
  · have hf := gif_t hf qc2
    exact J_78  _ _ _ ls hf hw (lv_sub hl [] rfl)
  · have hf := gif_f hf qc2
    refine lv_iload_n hx hb dX0_write_10 rfl (lv_at hl 1 rfl) ?_
    refine lv_bipush (v := 16) hx hb dX0_write_11 (by decide) ?_
    refine lv_imul hx hb dX0_write_13 ?_
    refine lv_iload_n hx hb dX0_write_14 rfl (lv_at hl 2 rfl) ?_
    refine lv_iconst (v := (-1)) hx hb dX0_write_15 (by decide) ?_
    refine W.eq (g2 := F0 m 16 ls [.int (-1), .int za2, .int (za1 * 16)]) rfl ?_
    refine lv_isub hx hb dX0_write_16 ?_
    refine lv_iadd hx hb dX0_write_17 ?_
    refine lv_bipush (v := 16) hx hb dX0_write_18 (by decide) ?_
    refine lv_imul hx hb dX0_write_20 ?_
    refine lv_iload_n hx hb dX0_write_21 rfl (lv_at hl 3 rfl) ?_
    refine lv_iconst (v := (-1)) hx hb dX0_write_22 (by decide) ?_
    refine lv_isub hx hb dX0_write_23 ?_
    refine lv_iadd hx hb dX0_write_24 ?_
    refine lv_i2l hx hb dX0_write_25 rfl ?_
    refine lv_topl (fun zx3 ezx3 => ?_)
    have hf := gl_el hf ezx3
    refine lv_lstore (lv' := [(5, .long zx3), (0, .ref (gB E + za0)), (1, .int za1), (2, .int za2), (3, .int za3), (4, .int za4)]) hx hb dX0_write_26 hl (by decide) rfl (fun ls hl => ?_)
    refine W.eq (g2 := F0 m 28 ls []) rfl ?_
    refine lv_aload_n hx hb dX0_write_28 rfl (lv_at hl 1 rfl) ?_
    obtain ⟨zt4, qzt4, hf⟩ := gb_el hf
    refine gx_getR X hw qzt4 clX0 (by decide) mf_X0_11 dX0_write_29 ?_
    refine lv_aload_n hx hb dX0_write_32 rfl (lv_at hl 1 rfl) ?_
    obtain ⟨zt5, qzt5, hf⟩ := gb_el hf
    refine gx_getI X hw qzt5 clX0 (by decide) mf_X0_15 dX0_write_33 ?_
    refine lv_aload_n hx hb dX0_write_36 rfl (lv_at hl 1 rfl) ?_
    obtain ⟨zt6, qzt6, hf⟩ := gb_el hf
    refine gx_getI X hw qzt6 clX0 (by decide) mf_X0_19 dX0_write_37 ?_
    refine lv_i2l hx hb dX0_write_40 rfl ?_
    refine lv_ldc2 (v := 256) hx hb X.1.2.2.2.1 (X.1.2.2.2.2 _ mK_X0_34) dX0_write_41 ?_
    refine lv_lmul hx hb dX0_write_44 ?_
    refine lv_iload hx hb dX0_write_45 (lv_at hl 5 rfl) ?_
    refine W.eq (g2 := F0 m 47 ls [.int za4, .long ((Int32.toInt64 zt6) * 256), .int zt5, .ref (gB E + zt4)]) rfl ?_
    refine lv_i2l hx hb dX0_write_47 rfl ?_
    refine lv_ladd hx hb dX0_write_48 ?_
    refine lv_ldc2 (v := 4096) hx hb X.1.2.2.2.1 (X.1.2.2.2.2 _ mK_X0_36) dX0_write_49 ?_
    refine lv_lmul hx hb dX0_write_52 ?_
    refine lv_lload hx hb dX0_write_53 (lv_at hl 0 rfl) ?_
    refine lv_ladd hx hb dX0_write_55 ?_
    obtain ⟨zh7, qzh7, hf⟩ := gb_el hf
    refine gx_last X hw qzh7 dX0_write_56 (fun H locs hw => ?_)
    refine lv_aload_n hx hb dX0_write_57 rfl (lv_at hl 1 rfl) ?_
    refine lv_dup hx hb dX0_write_58 rfl ?_
    obtain ⟨zt8, qzt8, hf⟩ := gb_el hf
    refine gx_getI X hw qzt8 clX0 (by decide) mf_X0_15 dX0_write_59 ?_
    refine W.eq (g2 := F0 m 62 ls [.int zt8, .ref (gB E + za0)]) rfl ?_
    refine lv_iconst (v := 1) hx hb dX0_write_62 (by decide) ?_
    refine lv_iadd hx hb dX0_write_63 ?_
    obtain ⟨zh9, qzh9, hf⟩ := gb_el hf
    refine gx_putV X hw qzh9 clX0 (by decide) mf_X0_15 rfl rfl rfl dX0_write_64 (fun H locs hw => ?_)
    refine lv_aload_n hx hb dX0_write_67 rfl (lv_at hl 1 rfl) ?_
    refine lv_dup hx hb dX0_write_68 rfl ?_
    obtain ⟨zt10, qzt10, hf⟩ := gb_el hf
    refine gx_getI X hw qzt10 clX0 (by decide) mf_X0_19 dX0_write_69 ?_
    refine lv_iload hx hb dX0_write_72 (lv_at hl 5 rfl) ?_
    refine lv_iadd hx hb dX0_write_74 ?_
    obtain ⟨zh11, qzh11, hf⟩ := gb_el hf
    refine gx_putV X hw qzh11 clX0 (by decide) mf_X0_19 rfl rfl rfl dX0_write_75 (fun H locs hw => ?_)
    exact J_78  _ _ _ ls hf hw (lv_sub hl [] rfl)
abbrev rm_X0_beginAt : Room := { frames := 0, cells := 0, slots := 0, locals := 0 }
set_option maxHeartbeats 4000000 in
set_option maxRecDepth 100000 in
theorem c_X0_beginAt (l : Launch) (E : gE) (N : Nat) (za0 : Nat) (za1 : Int32) (zh : PH) {h9 : PH} {r9 : Int32} (hf : f_X0_beginAt N za0 za1 zh = some (r9, h9)) : Met l yX0_beginAt (gWS yX0_beginAt cX0_beginAt 2 (some .int)) rm_X0_beginAt (gPc E [.ref (gB E + za0), .int za1] zh) (gQi E r9 h9) 0 0 (gA E) := by
  refine gx_met (by decide) ?_ rfl
  intro p e s m below meth c X hr hlk hin2 hw
  have hx := X.1.1
  have hb := X.1.2.1
  have hl := lv_entry [.ref (gB E + za0), .int za1] (n := 2) (Nat.le_of_ble_eq_true rfl)
  rw [lg_entry_eq]
  generalize (lg_sl [.ref (gB E + za0), .int za1] ++ List.replicate (2 - (lg_sl [.ref (gB E + za0), .int za1]).length) Slot.unset).toArray = ls at hl ⊢
  have hl : lv_has ls 2 [(0, .ref (gB E + za0)), (1, .int za1)] := hl
  unfold f_X0_beginAt at hf
  refine lv_aload_n hx hb dX0_beginAt_0 rfl (lv_at hl 0 rfl) ?_
  obtain ⟨zt1, qzt1, hf⟩ := gb_el hf
  refine gx_getR X hw qzt1 clX0 (by decide) mf_X0_11 dX0_beginAt_1 ?_
  refine lv_iload_n hx hb dX0_beginAt_4 rfl (lv_at hl 1 rfl) ?_
  obtain ⟨zt2, qzt2, hf⟩ := gb_el hf
  refine gx_lald X hw qzt2 dX0_beginAt_5 ?_
  refine lv_bipush (v := 20) hx hb dX0_beginAt_6 (by decide) ?_
  refine lv_lshr hx hb dX0_beginAt_8 rfl ?_
  refine lv_l2i hx hb dX0_beginAt_9 rfl ?_
  exact gx_iret X hr hlk hw hf dX0_beginAt_10
abbrev rm_X0_endAt : Room := { frames := 1, cells := 0, slots := 0, locals := 21 }
set_option maxHeartbeats 4000000 in
set_option maxRecDepth 100000 in
theorem c_X0_endAt (l : Launch) (E : gE) (N : Nat) (za0 : Nat) (za1 : Int32) (zh : PH) {h9 : PH} {r9 : Int32} (hf : f_X0_endAt N za0 za1 zh = some (r9, h9)) : Met l yX0_endAt (gWS yX0_endAt cX0_endAt 2 (some .int)) rm_X0_endAt (gPc E [.ref (gB E + za0), .int za1] zh) (gQi E r9 h9) 0 0 (gA E) := by
  refine gx_met (by decide) ?_ rfl
  intro p e s m below meth c X hr hlk hin2 hw
  have hx := X.1.1
  have hb := X.1.2.1
  have hl := lv_entry [.ref (gB E + za0), .int za1] (n := 2) (Nat.le_of_ble_eq_true rfl)
  rw [lg_entry_eq]
  generalize (lg_sl [.ref (gB E + za0), .int za1] ++ List.replicate (2 - (lg_sl [.ref (gB E + za0), .int za1]).length) Slot.unset).toArray = ls at hl ⊢
  have hl : lv_has ls 2 [(0, .ref (gB E + za0)), (1, .int za1)] := hl
  unfold f_X0_endAt at hf
  refine lv_aload_n hx hb dX0_endAt_0 rfl (lv_at hl 0 rfl) ?_
  refine lv_iload_n hx hb dX0_endAt_1 rfl (lv_at hl 1 rfl) ?_
  obtain ⟨qizh1, hf⟩ := gg_el hf
  obtain ⟨zt2, zh1, qzh1, hf⟩ := gc_el hf
  refine gx_ki (gx_runV (As := [.int za1]) (rest := []) X hw (c_X0_beginAt l E N za0 za1 zh qzh1) kX0_beginAt mm_X0_42 qizh1 clX0 ⟨Nat.le_of_ble_eq_true rfl, Nat.le_of_ble_eq_true rfl⟩ rfl rfl rfl hl.1 (Nat.le_of_ble_eq_true rfl) rfl dX0_endAt_2 ⟨Nat.le_of_ble_eq_true rfl, Nat.le_of_ble_eq_true rfl⟩) hw (fun H locs hw => ?_)
  refine lv_aload_n hx hb dX0_endAt_5 rfl (lv_at hl 0 rfl) ?_
  obtain ⟨zt3, qzt3, hf⟩ := gb_el hf
  refine gx_getR X hw qzt3 clX0 (by decide) mf_X0_11 dX0_endAt_6 ?_
  refine lv_iload_n hx hb dX0_endAt_9 rfl (lv_at hl 1 rfl) ?_
  obtain ⟨zt4, qzt4, hf⟩ := gb_el hf
  refine gx_lald X hw qzt4 dX0_endAt_10 ?_
  refine lv_bipush (v := 12) hx hb dX0_endAt_11 (by decide) ?_
  refine lv_lshr hx hb dX0_endAt_13 rfl ?_
  refine W.eq (g2 := F0 m 14 ls [.long (zt4 >>> (Int32.toInt64 12 &&& 63)), .int zt2]) rfl ?_
  refine lv_l2i hx hb dX0_endAt_14 rfl ?_
  refine lv_sipush (v := 255) hx hb dX0_endAt_15 (by decide) ?_
  refine lv_iand hx hb dX0_endAt_18 ?_
  refine lv_iadd hx hb dX0_endAt_19 ?_
  exact gx_iret X hr hlk hw hf dX0_endAt_20
abbrev rm_X0_guestAt : Room := { frames := 0, cells := 0, slots := 0, locals := 0 }
set_option maxHeartbeats 4000000 in
set_option maxRecDepth 100000 in
theorem c_X0_guestAt (l : Launch) (E : gE) (N : Nat) (za0 : Nat) (za1 : Int32) (zh : PH) {h9 : PH} {r9 : Int32} (hf : f_X0_guestAt N za0 za1 zh = some (r9, h9)) : Met l yX0_guestAt (gWS yX0_guestAt cX0_guestAt 2 (some .int)) rm_X0_guestAt (gPc E [.ref (gB E + za0), .int za1] zh) (gQi E r9 h9) 0 0 (gA E) := by
  refine gx_met (by decide) ?_ rfl
  intro p e s m below meth c X hr hlk hin2 hw
  have hx := X.1.1
  have hb := X.1.2.1
  have hl := lv_entry [.ref (gB E + za0), .int za1] (n := 2) (Nat.le_of_ble_eq_true rfl)
  rw [lg_entry_eq]
  generalize (lg_sl [.ref (gB E + za0), .int za1] ++ List.replicate (2 - (lg_sl [.ref (gB E + za0), .int za1]).length) Slot.unset).toArray = ls at hl ⊢
  have hl : lv_has ls 2 [(0, .ref (gB E + za0)), (1, .int za1)] := hl
  unfold f_X0_guestAt at hf
  refine lv_aload_n hx hb dX0_guestAt_0 rfl (lv_at hl 0 rfl) ?_
  obtain ⟨zt1, qzt1, hf⟩ := gb_el hf
  refine gx_getR X hw qzt1 clX0 (by decide) mf_X0_11 dX0_guestAt_1 ?_
  refine lv_iload_n hx hb dX0_guestAt_4 rfl (lv_at hl 1 rfl) ?_
  obtain ⟨zt2, qzt2, hf⟩ := gb_el hf
  refine gx_lald X hw qzt2 dX0_guestAt_5 ?_
  refine lv_bipush (v := 8) hx hb dX0_guestAt_6 (by decide) ?_
  refine lv_lshr hx hb dX0_guestAt_8 rfl ?_
  refine lv_l2i hx hb dX0_guestAt_9 rfl ?_
  refine lv_bipush (v := 15) hx hb dX0_guestAt_10 (by decide) ?_
  refine lv_iand hx hb dX0_guestAt_12 ?_
  refine W.eq (g2 := F0 m 13 ls [.int ((Int64.toInt32 (zt2 >>> (Int32.toInt64 8 &&& 63))) &&& 15)]) rfl ?_
  exact gx_iret X hr hlk hw hf dX0_guestAt_13
abbrev rm_X0_toAt : Room := { frames := 0, cells := 0, slots := 0, locals := 0 }
set_option maxHeartbeats 4000000 in
set_option maxRecDepth 100000 in
theorem c_X0_toAt (l : Launch) (E : gE) (N : Nat) (za0 : Nat) (za1 : Int32) (zh : PH) {h9 : PH} {r9 : Int32} (hf : f_X0_toAt N za0 za1 zh = some (r9, h9)) : Met l yX0_toAt (gWS yX0_toAt cX0_toAt 2 (some .int)) rm_X0_toAt (gPc E [.ref (gB E + za0), .int za1] zh) (gQi E r9 h9) 0 0 (gA E) := by
  refine gx_met (by decide) ?_ rfl
  intro p e s m below meth c X hr hlk hin2 hw
  have hx := X.1.1
  have hb := X.1.2.1
  have hl := lv_entry [.ref (gB E + za0), .int za1] (n := 2) (Nat.le_of_ble_eq_true rfl)
  rw [lg_entry_eq]
  generalize (lg_sl [.ref (gB E + za0), .int za1] ++ List.replicate (2 - (lg_sl [.ref (gB E + za0), .int za1]).length) Slot.unset).toArray = ls at hl ⊢
  have hl : lv_has ls 2 [(0, .ref (gB E + za0)), (1, .int za1)] := hl
  unfold f_X0_toAt at hf
  refine lv_aload_n hx hb dX0_toAt_0 rfl (lv_at hl 0 rfl) ?_
  obtain ⟨zt1, qzt1, hf⟩ := gb_el hf
  refine gx_getR X hw qzt1 clX0 (by decide) mf_X0_11 dX0_toAt_1 ?_
  refine lv_iload_n hx hb dX0_toAt_4 rfl (lv_at hl 1 rfl) ?_
  obtain ⟨zt2, qzt2, hf⟩ := gb_el hf
  refine gx_lald X hw qzt2 dX0_toAt_5 ?_
  refine lv_l2i hx hb dX0_toAt_6 rfl ?_
  refine lv_bipush (v := 15) hx hb dX0_toAt_7 (by decide) ?_
  refine lv_iand hx hb dX0_toAt_9 ?_
  refine lv_iconst (v := (-1)) hx hb dX0_toAt_10 (by decide) ?_
  refine lv_iadd hx hb dX0_toAt_11 ?_
  refine W.eq (g2 := F0 m 12 ls [.int (((Int64.toInt32 zt2) &&& 15) + (-1))]) rfl ?_
  exact gx_iret X hr hlk hw hf dX0_toAt_12
abbrev rm_X0_placeOf : Room := { frames := 2, cells := 0, slots := 0, locals := 42 }
set_option maxHeartbeats 4000000 in
set_option maxRecDepth 100000 in
theorem c_X0_placeOf (l : Launch) (E : gE) (N : Nat) (za0 : Nat) (za1 : Int32) (za2 : Int32) (zh : PH) {h9 : PH} {r9 : Int32} (hf : f_X0_placeOf N za0 za1 za2 zh = some (r9, h9)) : Met l yX0_placeOf (gWS yX0_placeOf cX0_placeOf 4 (some .int)) rm_X0_placeOf (gPc E [.ref (gB E + za0), .int za1, .int za2] zh) (gQi E r9 h9) 0 0 (gA E) := by
  refine gx_met (by decide) ?_ rfl
  intro p e s m below meth c X hr hlk hin2 hw
  have hx := X.1.1
  have hb := X.1.2.1
  have hl := lv_entry [.ref (gB E + za0), .int za1, .int za2] (n := 4) (Nat.le_of_ble_eq_true rfl)
  rw [lg_entry_eq]
  generalize (lg_sl [.ref (gB E + za0), .int za1, .int za2] ++ List.replicate (4 - (lg_sl [.ref (gB E + za0), .int za1, .int za2]).length) Slot.unset).toArray = ls at hl ⊢
  have hl : lv_has ls 4 [(0, .ref (gB E + za0)), (1, .int za1), (2, .int za2)] := hl
  have J_48 : ∀ (zs0 : Int32) (zh : PH) (H : Heap) (locs : List Loc) (ls : Array Slot), f_X0_placeOf_48 N zs0 zh = some (r9, h9) → gw E s zh H locs → lv_has ls 4 [] → W p l e rm_X0_placeOf s m [.ref (gB E + za0), .int za1, .int za2].toArray below meth c H locs 0 0 (MQ below (gQi E r9 h9) [.ref (gB E + za0), .int za1, .int za2].toArray s 0 0 (gA E)) (F0 m 48 ls [.int zs0]) := by
    intro zs0 zh H locs ls hf hw hl
    unfold f_X0_placeOf_48 at hf
    exact gx_iret X hr hlk hw hf dX0_placeOf_48
  have L_7 : ∀ (zn7 : Nat) (zv0 : Nat) (zv1 : Int32) (zv2 : Int32) (zv3 : Int32) (zh : PH) (H : Heap) (locs : List Loc) (ls : Array Slot), gi (fun zk zs => f_X0_placeOf_7 N zk zs.1 zs.2.1 zs.2.2.1 zs.2.2.2.1 zs.2.2.2.2) zn7 (zv0, zv1, zv2, zv3, zh) = some (r9, h9) → gw E s zh H locs → lv_has ls 4 [(0, .ref (gB E + zv0)), (1, .int zv1), (2, .int zv2), (3, .int zv3)] → W p l e rm_X0_placeOf s m [.ref (gB E + za0), .int za1, .int za2].toArray below meth c H locs 0 0 (MQ below (gQi E r9 h9) [.ref (gB E + za0), .int za1, .int za2].toArray s 0 0 (gA E)) (F0 m 7 ls []) := by
    intro zn7
    induction zn7 with
    | zero =>
      intro zv0 zv1 zv2 zv3 zh H locs ls hf
      cases hf
    | succ zn7 ih_7 =>
      have J_49 : ∀ (zv0 : Nat) (zv1 : Int32) (zv2 : Int32) (zv3 : Int32) (zh : PH) (H : Heap) (locs : List Loc) (ls : Array Slot), f_X0_placeOf_49 N (gi (fun zk zs => f_X0_placeOf_7 N zk zs.1 zs.2.1 zs.2.2.1 zs.2.2.2.1 zs.2.2.2.2) zn7) zv0 zv1 zv2 zv3 zh = some (r9, h9) → gw E s zh H locs → lv_has ls 4 [(0, .ref (gB E + zv0)), (1, .int zv1), (2, .int zv2), (3, .int zv3)] → W p l e rm_X0_placeOf s m [.ref (gB E + za0), .int za1, .int za2].toArray below meth c H locs 0 0 (MQ below (gQi E r9 h9) [.ref (gB E + za0), .int za1, .int za2].toArray s 0 0 (gA E)) (F0 m 49 ls []) := by
        intro zv0 zv1 zv2 zv3 zh H locs ls hf hw hl
        unfold f_X0_placeOf_49 at hf
        obtain ⟨zx1, ezx1⟩ : ∃ y : Int32, y = zv3 + (-1) := ⟨_, rfl⟩
        have hf := gl_el hf ezx1
        refine lv_iinc (v := zx1) (lv' := [(3, .int zx1), (0, .ref (gB E + zv0)), (1, .int zv1), (2, .int zv2)]) hx hb dX0_placeOf_49 hl (k := 3) rfl (by rw [ezx1]; rfl) (by decide) rfl (fun ls hl => ?_)
        refine lv_goto (tgt := 7) hx hb dX0_placeOf_52 (by decide) ?_
        exact ih_7 zv0 zv1 zv2 zx1 _ _ _ ls hf hw (lv_sub hl [1, 2, 3, 0] rfl)
      intro zv0 zv1 zv2 zv3 zh H locs ls hf hw hl
      have hf := gi_s hf
      dsimp only at hf
      unfold f_X0_placeOf_7 at hf
      refine lv_iload_n hx hb dX0_placeOf_7 rfl (lv_at hl 3 rfl) ?_
      refine lv_if_lt (tgt := 55) hx hb dX0_placeOf_8 (by decide) (fun qc1 => ?_) (fun qc1 => ?_)
      · have hf := gif_t hf qc1
        refine lv_iconst (v := (-1)) hx hb dX0_placeOf_55 (by decide) ?_
        exact gx_iret X hr hlk hw hf dX0_placeOf_56
      · have hf := gif_f hf qc1
        refine lv_aload_n hx hb dX0_placeOf_11 rfl (lv_at hl 0 rfl) ?_
        refine lv_iload_n hx hb dX0_placeOf_12 rfl (lv_at hl 3 rfl) ?_
        obtain ⟨qizh2, hf⟩ := gg_el hf
        obtain ⟨zt3, zh2, qzh2, hf⟩ := gc_el hf
        refine gx_ki (gx_runV (As := [.int zv3]) (rest := []) X hw (c_X0_guestAt l E N zv0 zv3 zh qzh2) kX0_guestAt mm_X0_38 qizh2 clX0 ⟨Nat.le_of_ble_eq_true rfl, Nat.le_of_ble_eq_true rfl⟩ rfl rfl rfl hl.1 (Nat.le_of_ble_eq_true rfl) rfl dX0_placeOf_13 ⟨Nat.le_of_ble_eq_true rfl, Nat.le_of_ble_eq_true rfl⟩) hw (fun H locs hw => ?_)
        refine lv_iload_n hx hb dX0_placeOf_16 rfl (lv_at hl 1 rfl) ?_
        refine lv_icmp_ne (tgt := 49) hx hb dX0_placeOf_17 (by decide) (fun qc4 => ?_) (fun qc4 => ?_)
        · have hf := gif_f hf qc4
          exact J_49 zv0 zv1 zv2 zv3 _ _ _ ls hf hw (lv_sub hl [0, 1, 2, 3] rfl)
        · have hf := gif_t hf qc4
          refine lv_aload_n hx hb dX0_placeOf_20 rfl (lv_at hl 0 rfl) ?_
          refine lv_iload_n hx hb dX0_placeOf_21 rfl (lv_at hl 3 rfl) ?_
          refine W.eq (g2 := F0 m 22 ls [.int zv3, .ref (gB E + zv0)]) rfl ?_
          obtain ⟨qizh5, hf⟩ := gg_el hf
          obtain ⟨zt6, zh5, qzh5, hf⟩ := gc_el hf
          refine gx_ki (gx_runV (As := [.int zv3]) (rest := []) X hw (c_X0_beginAt l E N zv0 zv3 zh2 qzh5) kX0_beginAt mm_X0_42 qizh5 clX0 ⟨Nat.le_of_ble_eq_true rfl, Nat.le_of_ble_eq_true rfl⟩ rfl rfl rfl hl.1 (Nat.le_of_ble_eq_true rfl) rfl dX0_placeOf_22 ⟨Nat.le_of_ble_eq_true rfl, Nat.le_of_ble_eq_true rfl⟩) hw (fun H locs hw => ?_)
          refine lv_iload_n hx hb dX0_placeOf_25 rfl (lv_at hl 2 rfl) ?_
          refine lv_icmp_gt (tgt := 49) hx hb dX0_placeOf_26 (by decide) (fun qc7 => ?_) (fun qc7 => ?_)
          · have hf := gif_t hf qc7
            exact J_49 zv0 zv1 zv2 zv3 _ _ _ ls hf hw (lv_sub hl [0, 1, 2, 3] rfl)
          · have hf := gif_f hf qc7
            refine lv_aload_n hx hb dX0_placeOf_29 rfl (lv_at hl 0 rfl) ?_
            refine lv_iload_n hx hb dX0_placeOf_30 rfl (lv_at hl 3 rfl) ?_
            obtain ⟨qizh8, hf⟩ := gg_el hf
            obtain ⟨zt9, zh8, qzh8, hf⟩ := gc_el hf
            refine gx_ki (gx_runV (As := [.int zv3]) (rest := []) X hw (c_X0_endAt l E N zv0 zv3 zh5 qzh8) kX0_endAt mm_X0_45 qizh8 clX0 ⟨Nat.le_of_ble_eq_true rfl, Nat.le_of_ble_eq_true rfl⟩ rfl rfl rfl hl.1 (Nat.le_of_ble_eq_true rfl) rfl dX0_placeOf_31 ⟨Nat.le_of_ble_eq_true rfl, Nat.le_of_ble_eq_true rfl⟩) hw (fun H locs hw => ?_)
            refine lv_iload_n hx hb dX0_placeOf_34 rfl (lv_at hl 2 rfl) ?_
            refine lv_icmp_gt (tgt := 46) hx hb dX0_placeOf_35 (by decide) (fun qc10 => ?_) (fun qc10 => ?_)
            · have hf := gif_t hf qc10
              refine lv_bipush (v := (-2)) hx hb dX0_placeOf_46 (by decide) ?_
              exact J_48 (-2) _ _ _ ls hf hw (lv_sub hl [] rfl)
            · have hf := gif_f hf qc10
              refine lv_aload_n hx hb dX0_placeOf_38 rfl (lv_at hl 0 rfl) ?_
              refine lv_iload_n hx hb dX0_placeOf_39 rfl (lv_at hl 3 rfl) ?_
              refine W.eq (g2 := F0 m 40 ls [.int zv3, .ref (gB E + zv0)]) rfl ?_
              obtain ⟨qizh11, hf⟩ := gg_el hf
              obtain ⟨zt12, zh11, qzh11, hf⟩ := gc_el hf
              refine gx_ki (gx_runV (As := [.int zv3]) (rest := []) X hw (c_X0_toAt l E N zv0 zv3 zh8 qzh11) kX0_toAt mm_X0_48 qizh11 clX0 ⟨Nat.le_of_ble_eq_true rfl, Nat.le_of_ble_eq_true rfl⟩ rfl rfl rfl hl.1 (Nat.le_of_ble_eq_true rfl) rfl dX0_placeOf_40 ⟨Nat.le_of_ble_eq_true rfl, Nat.le_of_ble_eq_true rfl⟩) hw (fun H locs hw => ?_)
              refine lv_goto (tgt := 48) hx hb dX0_placeOf_43 (by decide) ?_
              exact J_48 zt12 _ _ _ ls hf hw (lv_sub hl [] rfl)
  unfold f_X0_placeOf at hf
  refine lv_aload_n hx hb dX0_placeOf_0 rfl (lv_at hl 0 rfl) ?_
  obtain ⟨zt1, qzt1, hf⟩ := gb_el hf
  refine gx_getI X hw qzt1 clX0 (by decide) mf_X0_15 dX0_placeOf_1 ?_
  refine lv_iconst (v := 1) hx hb dX0_placeOf_4 (by decide) ?_
  refine lv_isub hx hb dX0_placeOf_5 ?_
  refine lv_topi (fun zx2 ezx2 => ?_)
  have hf := gl_el hf ezx2
  refine lv_istore_n (lv' := [(3, .int zx2), (0, .ref (gB E + za0)), (1, .int za1), (2, .int za2)]) hx hb dX0_placeOf_6 rfl hl (by decide) rfl (fun ls hl => ?_)
  exact L_7 N za0 za1 za2 zx2 _ _ _ ls hf hw (lv_sub hl [1, 2, 3, 0] rfl)
abbrev rm_X0_fromAt : Room := { frames := 0, cells := 0, slots := 0, locals := 0 }
set_option maxHeartbeats 4000000 in
set_option maxRecDepth 100000 in
theorem c_X0_fromAt (l : Launch) (E : gE) (N : Nat) (za0 : Nat) (za1 : Int32) (zh : PH) {h9 : PH} {r9 : Int32} (hf : f_X0_fromAt N za0 za1 zh = some (r9, h9)) : Met l yX0_fromAt (gWS yX0_fromAt cX0_fromAt 2 (some .int)) rm_X0_fromAt (gPc E [.ref (gB E + za0), .int za1] zh) (gQi E r9 h9) 0 0 (gA E) := by
  refine gx_met (by decide) ?_ rfl
  intro p e s m below meth c X hr hlk hin2 hw
  have hx := X.1.1
  have hb := X.1.2.1
  have hl := lv_entry [.ref (gB E + za0), .int za1] (n := 2) (Nat.le_of_ble_eq_true rfl)
  rw [lg_entry_eq]
  generalize (lg_sl [.ref (gB E + za0), .int za1] ++ List.replicate (2 - (lg_sl [.ref (gB E + za0), .int za1]).length) Slot.unset).toArray = ls at hl ⊢
  have hl : lv_has ls 2 [(0, .ref (gB E + za0)), (1, .int za1)] := hl
  unfold f_X0_fromAt at hf
  refine lv_aload_n hx hb dX0_fromAt_0 rfl (lv_at hl 0 rfl) ?_
  obtain ⟨zt1, qzt1, hf⟩ := gb_el hf
  refine gx_getR X hw qzt1 clX0 (by decide) mf_X0_11 dX0_fromAt_1 ?_
  refine lv_iload_n hx hb dX0_fromAt_4 rfl (lv_at hl 1 rfl) ?_
  obtain ⟨zt2, qzt2, hf⟩ := gb_el hf
  refine gx_lald X hw qzt2 dX0_fromAt_5 ?_
  refine lv_iconst (v := 4) hx hb dX0_fromAt_6 (by decide) ?_
  refine lv_lshr hx hb dX0_fromAt_7 rfl ?_
  refine lv_l2i hx hb dX0_fromAt_8 rfl ?_
  refine lv_bipush (v := 15) hx hb dX0_fromAt_9 (by decide) ?_
  refine lv_iand hx hb dX0_fromAt_11 ?_
  refine W.eq (g2 := F0 m 12 ls [.int ((Int64.toInt32 (zt2 >>> (Int32.toInt64 4 &&& 63))) &&& 15)]) rfl ?_
  refine lv_iconst (v := (-1)) hx hb dX0_fromAt_12 (by decide) ?_
  refine lv_iadd hx hb dX0_fromAt_13 ?_
  exact gx_iret X hr hlk hw hf dX0_fromAt_14
abbrev rm_X0_occupantOf : Room := { frames := 2, cells := 0, slots := 0, locals := 42 }
set_option maxHeartbeats 4000000 in
set_option maxRecDepth 100000 in
theorem c_X0_occupantOf (l : Launch) (E : gE) (N : Nat) (za0 : Nat) (za1 : Int32) (za2 : Int32) (zh : PH) {h9 : PH} {r9 : Int32} (hf : f_X0_occupantOf N za0 za1 za2 zh = some (r9, h9)) : Met l yX0_occupantOf (gWS yX0_occupantOf cX0_occupantOf 4 (some .int)) rm_X0_occupantOf (gPc E [.ref (gB E + za0), .int za1, .int za2] zh) (gQi E r9 h9) 0 0 (gA E) := by
  refine gx_met (by decide) ?_ rfl
  intro p e s m below meth c X hr hlk hin2 hw
  have hx := X.1.1
  have hb := X.1.2.1
  have hl := lv_entry [.ref (gB E + za0), .int za1, .int za2] (n := 4) (Nat.le_of_ble_eq_true rfl)
  rw [lg_entry_eq]
  generalize (lg_sl [.ref (gB E + za0), .int za1, .int za2] ++ List.replicate (4 - (lg_sl [.ref (gB E + za0), .int za1, .int za2]).length) Slot.unset).toArray = ls at hl ⊢
  have hl : lv_has ls 4 [(0, .ref (gB E + za0)), (1, .int za1), (2, .int za2)] := hl
  have L_7 : ∀ (zn7 : Nat) (zv0 : Nat) (zv1 : Int32) (zv2 : Int32) (zv3 : Int32) (zh : PH) (H : Heap) (locs : List Loc) (ls : Array Slot), gi (fun zk zs => f_X0_occupantOf_7 N zk zs.1 zs.2.1 zs.2.2.1 zs.2.2.2.1 zs.2.2.2.2) zn7 (zv0, zv1, zv2, zv3, zh) = some (r9, h9) → gw E s zh H locs → lv_has ls 4 [(0, .ref (gB E + zv0)), (1, .int zv1), (2, .int zv2), (3, .int zv3)] → W p l e rm_X0_occupantOf s m [.ref (gB E + za0), .int za1, .int za2].toArray below meth c H locs 0 0 (MQ below (gQi E r9 h9) [.ref (gB E + za0), .int za1, .int za2].toArray s 0 0 (gA E)) (F0 m 7 ls []) := by
    intro zn7
    induction zn7 with
    | zero =>
      intro zv0 zv1 zv2 zv3 zh H locs ls hf
      cases hf
    | succ zn7 ih_7 =>
      have J_55 : ∀ (zv0 : Nat) (zv1 : Int32) (zv2 : Int32) (zv3 : Int32) (zh : PH) (H : Heap) (locs : List Loc) (ls : Array Slot), f_X0_occupantOf_55 N (gi (fun zk zs => f_X0_occupantOf_7 N zk zs.1 zs.2.1 zs.2.2.1 zs.2.2.2.1 zs.2.2.2.2) zn7) zv0 zv1 zv2 zv3 zh = some (r9, h9) → gw E s zh H locs → lv_has ls 4 [(0, .ref (gB E + zv0)), (1, .int zv1), (2, .int zv2), (3, .int zv3)] → W p l e rm_X0_occupantOf s m [.ref (gB E + za0), .int za1, .int za2].toArray below meth c H locs 0 0 (MQ below (gQi E r9 h9) [.ref (gB E + za0), .int za1, .int za2].toArray s 0 0 (gA E)) (F0 m 55 ls []) := by
        intro zv0 zv1 zv2 zv3 zh H locs ls hf hw hl
        unfold f_X0_occupantOf_55 at hf
        obtain ⟨zx1, ezx1⟩ : ∃ y : Int32, y = zv3 + (-1) := ⟨_, rfl⟩
        have hf := gl_el hf ezx1
        refine lv_iinc (v := zx1) (lv' := [(3, .int zx1), (0, .ref (gB E + zv0)), (1, .int zv1), (2, .int zv2)]) hx hb dX0_occupantOf_55 hl (k := 3) rfl (by rw [ezx1]; rfl) (by decide) rfl (fun ls hl => ?_)
        refine lv_goto (tgt := 7) hx hb dX0_occupantOf_58 (by decide) ?_
        exact ih_7 zv0 zv1 zv2 zx1 _ _ _ ls hf hw (lv_sub hl [1, 2, 3, 0] rfl)
      have J_35 : ∀ (zv0 : Nat) (zv1 : Int32) (zv2 : Int32) (zv3 : Int32) (zh : PH) (H : Heap) (locs : List Loc) (ls : Array Slot), f_X0_occupantOf_35 N (gi (fun zk zs => f_X0_occupantOf_7 N zk zs.1 zs.2.1 zs.2.2.1 zs.2.2.2.1 zs.2.2.2.2) zn7) zv0 zv1 zv2 zv3 zh = some (r9, h9) → gw E s zh H locs → lv_has ls 4 [(0, .ref (gB E + zv0)), (1, .int zv1), (2, .int zv2), (3, .int zv3)] → W p l e rm_X0_occupantOf s m [.ref (gB E + za0), .int za1, .int za2].toArray below meth c H locs 0 0 (MQ below (gQi E r9 h9) [.ref (gB E + za0), .int za1, .int za2].toArray s 0 0 (gA E)) (F0 m 35 ls []) := by
        intro zv0 zv1 zv2 zv3 zh H locs ls hf hw hl
        unfold f_X0_occupantOf_35 at hf
        refine lv_aload_n hx hb dX0_occupantOf_35 rfl (lv_at hl 0 rfl) ?_
        refine lv_iload_n hx hb dX0_occupantOf_36 rfl (lv_at hl 3 rfl) ?_
        obtain ⟨qizh1, hf⟩ := gg_el hf
        obtain ⟨zt2, zh1, qzh1, hf⟩ := gc_el hf
        refine gx_ki (gx_runV (As := [.int zv3]) (rest := []) X hw (c_X0_fromAt l E N zv0 zv3 zh qzh1) kX0_fromAt mm_X0_51 qizh1 clX0 ⟨Nat.le_of_ble_eq_true rfl, Nat.le_of_ble_eq_true rfl⟩ rfl rfl rfl hl.1 (Nat.le_of_ble_eq_true rfl) rfl dX0_occupantOf_37 ⟨Nat.le_of_ble_eq_true rfl, Nat.le_of_ble_eq_true rfl⟩) hw (fun H locs hw => ?_)
        refine lv_iload_n hx hb dX0_occupantOf_40 rfl (lv_at hl 1 rfl) ?_
        refine lv_icmp_ne (tgt := 55) hx hb dX0_occupantOf_41 (by decide) (fun qc3 => ?_) (fun qc3 => ?_)
        · have hf := gif_f hf qc3
          exact J_55 zv0 zv1 zv2 zv3 _ _ _ ls hf hw (lv_sub hl [0, 1, 2, 3] rfl)
        · have hf := gif_t hf qc3
          refine lv_aload_n hx hb dX0_occupantOf_44 rfl (lv_at hl 0 rfl) ?_
          refine lv_iload_n hx hb dX0_occupantOf_45 rfl (lv_at hl 3 rfl) ?_
          obtain ⟨qizh4, hf⟩ := gg_el hf
          obtain ⟨zt5, zh4, qzh4, hf⟩ := gc_el hf
          refine gx_ki (gx_runV (As := [.int zv3]) (rest := []) X hw (c_X0_beginAt l E N zv0 zv3 zh1 qzh4) kX0_beginAt mm_X0_42 qizh4 clX0 ⟨Nat.le_of_ble_eq_true rfl, Nat.le_of_ble_eq_true rfl⟩ rfl rfl rfl hl.1 (Nat.le_of_ble_eq_true rfl) rfl dX0_occupantOf_46 ⟨Nat.le_of_ble_eq_true rfl, Nat.le_of_ble_eq_true rfl⟩) hw (fun H locs hw => ?_)
          refine lv_iload_n hx hb dX0_occupantOf_49 rfl (lv_at hl 2 rfl) ?_
          refine W.eq (g2 := F0 m 50 ls [.int zv2, .int zt5]) rfl ?_
          refine lv_icmp_gt (tgt := 55) hx hb dX0_occupantOf_50 (by decide) (fun qc6 => ?_) (fun qc6 => ?_)
          · have hf := gif_t hf qc6
            exact J_55 zv0 zv1 zv2 zv3 _ _ _ ls hf hw (lv_sub hl [0, 1, 2, 3] rfl)
          · have hf := gif_f hf qc6
            refine lv_iconst (v := (-1)) hx hb dX0_occupantOf_53 (by decide) ?_
            exact gx_iret X hr hlk hw hf dX0_occupantOf_54
      intro zv0 zv1 zv2 zv3 zh H locs ls hf hw hl
      have hf := gi_s hf
      dsimp only at hf
      unfold f_X0_occupantOf_7 at hf
      refine lv_iload_n hx hb dX0_occupantOf_7 rfl (lv_at hl 3 rfl) ?_
      refine lv_if_lt (tgt := 61) hx hb dX0_occupantOf_8 (by decide) (fun qc1 => ?_) (fun qc1 => ?_)
      · have hf := gif_t hf qc1
        refine lv_iconst (v := (-1)) hx hb dX0_occupantOf_61 (by decide) ?_
        exact gx_iret X hr hlk hw hf dX0_occupantOf_62
      · have hf := gif_f hf qc1
        refine lv_aload_n hx hb dX0_occupantOf_11 rfl (lv_at hl 0 rfl) ?_
        refine lv_iload_n hx hb dX0_occupantOf_12 rfl (lv_at hl 3 rfl) ?_
        obtain ⟨qizh2, hf⟩ := gg_el hf
        obtain ⟨zt3, zh2, qzh2, hf⟩ := gc_el hf
        refine gx_ki (gx_runV (As := [.int zv3]) (rest := []) X hw (c_X0_toAt l E N zv0 zv3 zh qzh2) kX0_toAt mm_X0_48 qizh2 clX0 ⟨Nat.le_of_ble_eq_true rfl, Nat.le_of_ble_eq_true rfl⟩ rfl rfl rfl hl.1 (Nat.le_of_ble_eq_true rfl) rfl dX0_occupantOf_13 ⟨Nat.le_of_ble_eq_true rfl, Nat.le_of_ble_eq_true rfl⟩) hw (fun H locs hw => ?_)
        refine lv_iload_n hx hb dX0_occupantOf_16 rfl (lv_at hl 1 rfl) ?_
        refine lv_icmp_ne (tgt := 35) hx hb dX0_occupantOf_17 (by decide) (fun qc4 => ?_) (fun qc4 => ?_)
        · have hf := gif_f hf qc4
          exact J_35 zv0 zv1 zv2 zv3 _ _ _ ls hf hw (lv_sub hl [0, 1, 2, 3] rfl)
        · have hf := gif_t hf qc4
          refine lv_aload_n hx hb dX0_occupantOf_20 rfl (lv_at hl 0 rfl) ?_
          refine lv_iload_n hx hb dX0_occupantOf_21 rfl (lv_at hl 3 rfl) ?_
          refine W.eq (g2 := F0 m 22 ls [.int zv3, .ref (gB E + zv0)]) rfl ?_
          obtain ⟨qizh5, hf⟩ := gg_el hf
          obtain ⟨zt6, zh5, qzh5, hf⟩ := gc_el hf
          refine gx_ki (gx_runV (As := [.int zv3]) (rest := []) X hw (c_X0_endAt l E N zv0 zv3 zh2 qzh5) kX0_endAt mm_X0_45 qizh5 clX0 ⟨Nat.le_of_ble_eq_true rfl, Nat.le_of_ble_eq_true rfl⟩ rfl rfl rfl hl.1 (Nat.le_of_ble_eq_true rfl) rfl dX0_occupantOf_22 ⟨Nat.le_of_ble_eq_true rfl, Nat.le_of_ble_eq_true rfl⟩) hw (fun H locs hw => ?_)
          refine lv_iload_n hx hb dX0_occupantOf_25 rfl (lv_at hl 2 rfl) ?_
          refine lv_icmp_gt (tgt := 35) hx hb dX0_occupantOf_26 (by decide) (fun qc7 => ?_) (fun qc7 => ?_)
          · have hf := gif_t hf qc7
            exact J_35 zv0 zv1 zv2 zv3 _ _ _ ls hf hw (lv_sub hl [0, 1, 2, 3] rfl)
          · have hf := gif_f hf qc7
            refine lv_aload_n hx hb dX0_occupantOf_29 rfl (lv_at hl 0 rfl) ?_
            refine lv_iload_n hx hb dX0_occupantOf_30 rfl (lv_at hl 3 rfl) ?_
            obtain ⟨qizh8, hf⟩ := gg_el hf
            obtain ⟨zt9, zh8, qzh8, hf⟩ := gc_el hf
            refine gx_ki (gx_runV (As := [.int zv3]) (rest := []) X hw (c_X0_guestAt l E N zv0 zv3 zh5 qzh8) kX0_guestAt mm_X0_38 qizh8 clX0 ⟨Nat.le_of_ble_eq_true rfl, Nat.le_of_ble_eq_true rfl⟩ rfl rfl rfl hl.1 (Nat.le_of_ble_eq_true rfl) rfl dX0_occupantOf_31 ⟨Nat.le_of_ble_eq_true rfl, Nat.le_of_ble_eq_true rfl⟩) hw (fun H locs hw => ?_)
            exact gx_iret X hr hlk hw hf dX0_occupantOf_34
  unfold f_X0_occupantOf at hf
  refine lv_aload_n hx hb dX0_occupantOf_0 rfl (lv_at hl 0 rfl) ?_
  obtain ⟨zt1, qzt1, hf⟩ := gb_el hf
  refine gx_getI X hw qzt1 clX0 (by decide) mf_X0_15 dX0_occupantOf_1 ?_
  refine lv_iconst (v := 1) hx hb dX0_occupantOf_4 (by decide) ?_
  refine lv_isub hx hb dX0_occupantOf_5 ?_
  refine lv_topi (fun zx2 ezx2 => ?_)
  have hf := gl_el hf ezx2
  refine lv_istore_n (lv' := [(3, .int zx2), (0, .ref (gB E + za0)), (1, .int za1), (2, .int za2)]) hx hb dX0_occupantOf_6 rfl hl (by decide) rfl (fun ls hl => ?_)
  exact L_7 N za0 za1 za2 zx2 _ _ _ ls hf hw (lv_sub hl [1, 2, 3, 0] rfl)
abbrev rm_X0_bitIfStayed : Room := { frames := 0, cells := 0, slots := 0, locals := 0 }
set_option maxHeartbeats 4000000 in
set_option maxRecDepth 100000 in
theorem c_X0_bitIfStayed (l : Launch) (E : gE) (N : Nat) (za0 : Int32) (za1 : Int32) (za2 : Int32) (za3 : Int32) (zh : PH) {h9 : PH} {r9 : Int32} (hf : f_X0_bitIfStayed N za0 za1 za2 za3 zh = some (r9, h9)) : Met l yX0_bitIfStayed (gWS yX0_bitIfStayed cX0_bitIfStayed 4 (some .int)) rm_X0_bitIfStayed (gPc E [.int za0, .int za1, .int za2, .int za3] zh) (gQi E r9 h9) 0 0 (gA E) := by
  refine gx_met (by decide) ?_ rfl
  intro p e s m below meth c X hr hlk hin2 hw
  have hx := X.1.1
  have hb := X.1.2.1
  have hl := lv_entry [.int za0, .int za1, .int za2, .int za3] (n := 4) (Nat.le_of_ble_eq_true rfl)
  rw [lg_entry_eq]
  generalize (lg_sl [.int za0, .int za1, .int za2, .int za3] ++ List.replicate (4 - (lg_sl [.int za0, .int za1, .int za2, .int za3]).length) Slot.unset).toArray = ls at hl ⊢
  have hl : lv_has ls 4 [(0, .int za0), (1, .int za1), (2, .int za2), (3, .int za3)] := hl
  have J_22 : ∀ (zs0 : Int32) (zh : PH) (H : Heap) (locs : List Loc) (ls : Array Slot), f_X0_bitIfStayed_22 N zs0 zh = some (r9, h9) → gw E s zh H locs → lv_has ls 4 [] → W p l e rm_X0_bitIfStayed s m [.int za0, .int za1, .int za2, .int za3].toArray below meth c H locs 0 0 (MQ below (gQi E r9 h9) [.int za0, .int za1, .int za2, .int za3].toArray s 0 0 (gA E)) (F0 m 22 ls [.int zs0]) := by
    intro zs0 zh H locs ls hf hw hl
    unfold f_X0_bitIfStayed_22 at hf
    exact gx_iret X hr hlk hw hf dX0_bitIfStayed_22
  have J_21 : ∀ (zh : PH) (H : Heap) (locs : List Loc) (ls : Array Slot), f_X0_bitIfStayed_21 N zh = some (r9, h9) → gw E s zh H locs → lv_has ls 4 [] → W p l e rm_X0_bitIfStayed s m [.int za0, .int za1, .int za2, .int za3].toArray below meth c H locs 0 0 (MQ below (gQi E r9 h9) [.int za0, .int za1, .int za2, .int za3].toArray s 0 0 (gA E)) (F0 m 21 ls []) := by
    intro zh H locs ls hf hw hl
    unfold f_X0_bitIfStayed_21 at hf
    refine lv_iconst (v := 0) hx hb dX0_bitIfStayed_21 (by decide) ?_
    exact J_22 0 _ _ _ ls hf hw (lv_sub hl [] rfl)
  unfold f_X0_bitIfStayed at hf
  refine lv_iload_n hx hb dX0_bitIfStayed_0 rfl (lv_at hl 0 rfl) ?_
  refine lv_iconst (v := (-1)) hx hb dX0_bitIfStayed_1 (by decide) ?_
  refine lv_icmp_eq (tgt := 21) hx hb dX0_bitIfStayed_2 (by decide) (fun qc1 => ?_) (fun qc1 => ?_)
  · have hf := gif_t hf qc1
    exact J_21  _ _ _ ls hf hw (lv_sub hl [] rfl)
  · have hf := gif_f hf qc1
    refine lv_iload_n hx hb dX0_bitIfStayed_5 rfl (lv_at hl 1 rfl) ?_
    refine lv_iload_n hx hb dX0_bitIfStayed_6 rfl (lv_at hl 2 rfl) ?_
    refine lv_icmp_ge (tgt := 21) hx hb dX0_bitIfStayed_7 (by decide) (fun qc2 => ?_) (fun qc2 => ?_)
    · have hf := gif_t hf qc2
      exact J_21  _ _ _ ls hf hw (lv_sub hl [] rfl)
    · have hf := gif_f hf qc2
      refine lv_iload_n hx hb dX0_bitIfStayed_10 rfl (lv_at hl 2 rfl) ?_
      refine lv_iload_n hx hb dX0_bitIfStayed_11 rfl (lv_at hl 3 rfl) ?_
      refine lv_icmp_le (tgt := 21) hx hb dX0_bitIfStayed_12 (by decide) (fun qc3 => ?_) (fun qc3 => ?_)
      · have hf := gif_t hf qc3
        exact J_21  _ _ _ ls hf hw (lv_sub hl [] rfl)
      · have hf := gif_f hf qc3
        refine W.eq (g2 := F0 m 15 ls []) rfl ?_
        refine lv_iconst (v := 1) hx hb dX0_bitIfStayed_15 (by decide) ?_
        refine lv_iload_n hx hb dX0_bitIfStayed_16 rfl (lv_at hl 0 rfl) ?_
        refine lv_ishl hx hb dX0_bitIfStayed_17 ?_
        refine lv_goto (tgt := 22) hx hb dX0_bitIfStayed_18 (by decide) ?_
        exact J_22 (1 <<< (za0 &&& 31)) _ _ _ ls hf hw (lv_sub hl [] rfl)
abbrev rm_X0_occupantsWithin : Room := { frames := 2, cells := 0, slots := 0, locals := 42 }
set_option maxHeartbeats 4000000 in
set_option maxRecDepth 100000 in
theorem c_X0_occupantsWithin (l : Launch) (E : gE) (N : Nat) (za0 : Nat) (za1 : Int32) (za2 : Int32) (za3 : Int32) (zh : PH) {h9 : PH} {r9 : Int32} (hf : f_X0_occupantsWithin N za0 za1 za2 za3 zh = some (r9, h9)) : Met l yX0_occupantsWithin (gWS yX0_occupantsWithin cX0_occupantsWithin 8 (some .int)) rm_X0_occupantsWithin (gPc E [.ref (gB E + za0), .int za1, .int za2, .int za3] zh) (gQi E r9 h9) 0 0 (gA E) := by
  refine gx_met (by decide) ?_ rfl
  intro p e s m below meth c X hr hlk hin2 hw
  have hx := X.1.1
  have hb := X.1.2.1
  have hl := lv_entry [.ref (gB E + za0), .int za1, .int za2, .int za3] (n := 8) (Nat.le_of_ble_eq_true rfl)
  rw [lg_entry_eq]
  generalize (lg_sl [.ref (gB E + za0), .int za1, .int za2, .int za3] ++ List.replicate (8 - (lg_sl [.ref (gB E + za0), .int za1, .int za2, .int za3]).length) Slot.unset).toArray = ls at hl ⊢
  have hl : lv_has ls 8 [(0, .ref (gB E + za0)), (1, .int za1), (2, .int za2), (3, .int za3)] := hl
  have J_98 : ∀ (zv2 : Int32) (zv3 : Int32) (zv4 : Int32) (zv5 : Int32) (zv6 : Int32) (zh : PH) (H : Heap) (locs : List Loc) (ls : Array Slot), f_X0_occupantsWithin_98 N zv2 zv3 zv4 zv5 zv6 zh = some (r9, h9) → gw E s zh H locs → lv_has ls 8 [(2, .int zv2), (3, .int zv3), (4, .int zv4), (5, .int zv5), (6, .int zv6)] → W p l e rm_X0_occupantsWithin s m [.ref (gB E + za0), .int za1, .int za2, .int za3].toArray below meth c H locs 0 0 (MQ below (gQi E r9 h9) [.ref (gB E + za0), .int za1, .int za2, .int za3].toArray s 0 0 (gA E)) (F0 m 98 ls []) := by
    intro zv2 zv3 zv4 zv5 zv6 zh H locs ls hf hw hl
    unfold f_X0_occupantsWithin_98 at hf
    refine lv_iload hx hb dX0_occupantsWithin_98 (lv_at hl 2 rfl) ?_
    refine lv_iload hx hb dX0_occupantsWithin_100 (lv_at hl 3 rfl) ?_
    refine lv_iload hx hb dX0_occupantsWithin_102 (lv_at hl 4 rfl) ?_
    refine lv_iload_n hx hb dX0_occupantsWithin_104 rfl (lv_at hl 1 rfl) ?_
    refine lv_iconst (v := 1) hx hb dX0_occupantsWithin_105 (by decide) ?_
    refine lv_iadd hx hb dX0_occupantsWithin_106 ?_
    refine lv_iload_n hx hb dX0_occupantsWithin_107 rfl (lv_at hl 0 rfl) ?_
    obtain ⟨zt2, zh1, qzh1, hf⟩ := gc_el hf
    refine gx_ki (gx_runS (As := [.int zv5, .int zv6, .int (zv3 + 1), .int zv2]) (rest := [.int zv4]) X hw (c_X0_bitIfStayed l E N zv5 zv6 (zv3 + 1) zv2 zh qzh1) kX0_bitIfStayed mm_X0_54 ⟨Nat.le_of_ble_eq_true rfl, Nat.le_of_ble_eq_true rfl⟩ rfl rfl rfl hl.1 (Nat.le_of_ble_eq_true rfl) rfl dX0_occupantsWithin_108 ⟨Nat.le_of_ble_eq_true rfl, Nat.le_of_ble_eq_true rfl⟩) hw (fun H locs hw => ?_)
    refine lv_ior hx hb dX0_occupantsWithin_111 ?_
    refine W.eq (g2 := F0 m 112 ls [.int (zv4 ||| zt2)]) rfl ?_
    exact gx_iret X hr hlk hw hf dX0_occupantsWithin_112
  have L_12 : ∀ (zn12 : Nat) (zv0 : Nat) (zv1 : Int32) (zv2 : Int32) (zv3 : Int32) (zv4 : Int32) (zv5 : Int32) (zv6 : Int32) (zv7 : Int32) (zh : PH) (H : Heap) (locs : List Loc) (ls : Array Slot), gi (fun zk zs => f_X0_occupantsWithin_12 N zk zs.1 zs.2.1 zs.2.2.1 zs.2.2.2.1 zs.2.2.2.2.1 zs.2.2.2.2.2.1 zs.2.2.2.2.2.2.1 zs.2.2.2.2.2.2.2.1 zs.2.2.2.2.2.2.2.2) zn12 (zv0, zv1, zv2, zv3, zv4, zv5, zv6, zv7, zh) = some (r9, h9) → gw E s zh H locs → lv_has ls 8 [(0, .ref (gB E + zv0)), (1, .int zv1), (2, .int zv2), (3, .int zv3), (4, .int zv4), (5, .int zv5), (6, .int zv6), (7, .int zv7)] → W p l e rm_X0_occupantsWithin s m [.ref (gB E + za0), .int za1, .int za2, .int za3].toArray below meth c H locs 0 0 (MQ below (gQi E r9 h9) [.ref (gB E + za0), .int za1, .int za2, .int za3].toArray s 0 0 (gA E)) (F0 m 12 ls []) := by
    intro zn12
    induction zn12 with
    | zero =>
      intro zv0 zv1 zv2 zv3 zv4 zv5 zv6 zv7 zh H locs ls hf
      cases hf
    | succ zn12 ih_12 =>
      have J_92 : ∀ (zv0 : Nat) (zv1 : Int32) (zv2 : Int32) (zv3 : Int32) (zv4 : Int32) (zv5 : Int32) (zv6 : Int32) (zv7 : Int32) (zh : PH) (H : Heap) (locs : List Loc) (ls : Array Slot), f_X0_occupantsWithin_92 N (gi (fun zk zs => f_X0_occupantsWithin_12 N zk zs.1 zs.2.1 zs.2.2.1 zs.2.2.2.1 zs.2.2.2.2.1 zs.2.2.2.2.2.1 zs.2.2.2.2.2.2.1 zs.2.2.2.2.2.2.2.1 zs.2.2.2.2.2.2.2.2) zn12) zv0 zv1 zv2 zv3 zv4 zv5 zv6 zv7 zh = some (r9, h9) → gw E s zh H locs → lv_has ls 8 [(0, .ref (gB E + zv0)), (1, .int zv1), (2, .int zv2), (3, .int zv3), (4, .int zv4), (5, .int zv5), (6, .int zv6), (7, .int zv7)] → W p l e rm_X0_occupantsWithin s m [.ref (gB E + za0), .int za1, .int za2, .int za3].toArray below meth c H locs 0 0 (MQ below (gQi E r9 h9) [.ref (gB E + za0), .int za1, .int za2, .int za3].toArray s 0 0 (gA E)) (F0 m 92 ls []) := by
        intro zv0 zv1 zv2 zv3 zv4 zv5 zv6 zv7 zh H locs ls hf hw hl
        unfold f_X0_occupantsWithin_92 at hf
        obtain ⟨zx1, ezx1⟩ : ∃ y : Int32, y = zv7 + 1 := ⟨_, rfl⟩
        have hf := gl_el hf ezx1
        refine lv_iinc (v := zx1) (lv' := [(7, .int zx1), (0, .ref (gB E + zv0)), (1, .int zv1), (2, .int zv2), (3, .int zv3), (4, .int zv4), (5, .int zv5), (6, .int zv6)]) hx hb dX0_occupantsWithin_92 hl (k := 7) rfl (by rw [ezx1]; rfl) (by decide) rfl (fun ls hl => ?_)
        refine lv_goto (tgt := 12) hx hb dX0_occupantsWithin_95 (by decide) ?_
        exact ih_12 zv0 zv1 zv2 zv3 zv4 zv5 zv6 zx1 _ _ _ ls hf hw (lv_sub hl [1, 2, 3, 4, 5, 6, 7, 0] rfl)
      intro zv0 zv1 zv2 zv3 zv4 zv5 zv6 zv7 zh H locs ls hf hw hl
      have hf := gi_s hf
      dsimp only at hf
      unfold f_X0_occupantsWithin_12 at hf
      refine lv_iload hx hb dX0_occupantsWithin_12 (lv_at hl 7 rfl) ?_
      refine lv_aload_n hx hb dX0_occupantsWithin_14 rfl (lv_at hl 0 rfl) ?_
      obtain ⟨zt1, qzt1, hf⟩ := gb_el hf
      refine gx_getI X hw qzt1 clX0 (by decide) mf_X0_15 dX0_occupantsWithin_15 ?_
      refine lv_icmp_ge (tgt := 98) hx hb dX0_occupantsWithin_18 (by decide) (fun qc2 => ?_) (fun qc2 => ?_)
      · have hf := gif_t hf qc2
        exact J_98 zv2 zv3 zv4 zv5 zv6 _ _ _ ls hf hw (lv_sub hl [2, 3, 4, 5, 6] rfl)
      · have hf := gif_f hf qc2
        refine lv_aload_n hx hb dX0_occupantsWithin_21 rfl (lv_at hl 0 rfl) ?_
        refine lv_iload hx hb dX0_occupantsWithin_22 (lv_at hl 7 rfl) ?_
        obtain ⟨qizh3, hf⟩ := gg_el hf
        obtain ⟨zt4, zh3, qzh3, hf⟩ := gc_el hf
        refine gx_ki (gx_runV (As := [.int zv7]) (rest := []) X hw (c_X0_beginAt l E N zv0 zv7 zh qzh3) kX0_beginAt mm_X0_42 qizh3 clX0 ⟨Nat.le_of_ble_eq_true rfl, Nat.le_of_ble_eq_true rfl⟩ rfl rfl rfl hl.1 (Nat.le_of_ble_eq_true rfl) rfl dX0_occupantsWithin_24 ⟨Nat.le_of_ble_eq_true rfl, Nat.le_of_ble_eq_true rfl⟩) hw (fun H locs hw => ?_)
        refine lv_iload_n hx hb dX0_occupantsWithin_27 rfl (lv_at hl 3 rfl) ?_
        refine lv_icmp_gt (tgt := 98) hx hb dX0_occupantsWithin_28 (by decide) (fun qc5 => ?_) (fun qc5 => ?_)
        · have hf := gif_t hf qc5
          exact J_98 zv2 zv3 zv4 zv5 zv6 _ _ _ ls hf hw (lv_sub hl [2, 3, 4, 5, 6] rfl)
        · have hf := gif_f hf qc5
          refine W.eq (g2 := F0 m 31 ls []) rfl ?_
          refine lv_aload_n hx hb dX0_occupantsWithin_31 rfl (lv_at hl 0 rfl) ?_
          refine lv_iload hx hb dX0_occupantsWithin_32 (lv_at hl 7 rfl) ?_
          obtain ⟨qizh6, hf⟩ := gg_el hf
          obtain ⟨zt7, zh6, qzh6, hf⟩ := gc_el hf
          refine gx_ki (gx_runV (As := [.int zv7]) (rest := []) X hw (c_X0_fromAt l E N zv0 zv7 zh3 qzh6) kX0_fromAt mm_X0_51 qizh6 clX0 ⟨Nat.le_of_ble_eq_true rfl, Nat.le_of_ble_eq_true rfl⟩ rfl rfl rfl hl.1 (Nat.le_of_ble_eq_true rfl) rfl dX0_occupantsWithin_34 ⟨Nat.le_of_ble_eq_true rfl, Nat.le_of_ble_eq_true rfl⟩) hw (fun H locs hw => ?_)
          refine lv_iload_n hx hb dX0_occupantsWithin_37 rfl (lv_at hl 1 rfl) ?_
          refine lv_icmp_ne (tgt := 66) hx hb dX0_occupantsWithin_38 (by decide) (fun qc8 => ?_) (fun qc8 => ?_)
          · have hf := gif_f hf qc8
            refine lv_aload_n hx hb dX0_occupantsWithin_66 rfl (lv_at hl 0 rfl) ?_
            refine lv_iload hx hb dX0_occupantsWithin_67 (lv_at hl 7 rfl) ?_
            obtain ⟨qizh9, hf⟩ := gg_el hf
            obtain ⟨zt10, zh9, qzh9, hf⟩ := gc_el hf
            refine gx_ki (gx_runV (As := [.int zv7]) (rest := []) X hw (c_X0_toAt l E N zv0 zv7 zh6 qzh9) kX0_toAt mm_X0_48 qizh9 clX0 ⟨Nat.le_of_ble_eq_true rfl, Nat.le_of_ble_eq_true rfl⟩ rfl rfl rfl hl.1 (Nat.le_of_ble_eq_true rfl) rfl dX0_occupantsWithin_69 ⟨Nat.le_of_ble_eq_true rfl, Nat.le_of_ble_eq_true rfl⟩) hw (fun H locs hw => ?_)
            refine lv_iload_n hx hb dX0_occupantsWithin_72 rfl (lv_at hl 1 rfl) ?_
            refine lv_icmp_ne (tgt := 92) hx hb dX0_occupantsWithin_73 (by decide) (fun qc11 => ?_) (fun qc11 => ?_)
            · have hf := gif_f hf qc11
              exact J_92 zv0 zv1 zv2 zv3 zv4 zv5 zv6 zv7 _ _ _ ls hf hw (lv_sub hl [0, 1, 2, 3, 4, 5, 6, 7] rfl)
            · have hf := gif_t hf qc11
              refine W.eq (g2 := F0 m 76 ls []) rfl ?_
              refine lv_aload_n hx hb dX0_occupantsWithin_76 rfl (lv_at hl 0 rfl) ?_
              refine lv_iload hx hb dX0_occupantsWithin_77 (lv_at hl 7 rfl) ?_
              obtain ⟨qizh12, hf⟩ := gg_el hf
              obtain ⟨zt13, zh12, qzh12, hf⟩ := gc_el hf
              refine gx_ki (gx_runV (As := [.int zv7]) (rest := []) X hw (c_X0_guestAt l E N zv0 zv7 zh9 qzh12) kX0_guestAt mm_X0_38 qizh12 clX0 ⟨Nat.le_of_ble_eq_true rfl, Nat.le_of_ble_eq_true rfl⟩ rfl rfl rfl hl.1 (Nat.le_of_ble_eq_true rfl) rfl dX0_occupantsWithin_79 ⟨Nat.le_of_ble_eq_true rfl, Nat.le_of_ble_eq_true rfl⟩) hw (fun H locs hw => ?_)
              refine lv_istore (lv' := [(5, .int zt13), (0, .ref (gB E + zv0)), (1, .int zv1), (2, .int zv2), (3, .int zv3), (4, .int zv4), (6, .int zv6), (7, .int zv7)]) hx hb dX0_occupantsWithin_82 hl (by decide) rfl (fun ls hl => ?_)
              refine lv_aload_n hx hb dX0_occupantsWithin_84 rfl (lv_at hl 1 rfl) ?_
              refine lv_iload hx hb dX0_occupantsWithin_85 (lv_at hl 7 rfl) ?_
              obtain ⟨qizh14, hf⟩ := gg_el hf
              obtain ⟨zt15, zh14, qzh14, hf⟩ := gc_el hf
              refine gx_ki (gx_runV (As := [.int zv7]) (rest := []) X hw (c_X0_endAt l E N zv0 zv7 zh12 qzh14) kX0_endAt mm_X0_45 qizh14 clX0 ⟨Nat.le_of_ble_eq_true rfl, Nat.le_of_ble_eq_true rfl⟩ rfl rfl rfl hl.1 (Nat.le_of_ble_eq_true rfl) rfl dX0_occupantsWithin_87 ⟨Nat.le_of_ble_eq_true rfl, Nat.le_of_ble_eq_true rfl⟩) hw (fun H locs hw => ?_)
              refine lv_istore (lv' := [(6, .int zt15), (5, .int zt13), (0, .ref (gB E + zv0)), (1, .int zv1), (2, .int zv2), (3, .int zv3), (4, .int zv4), (7, .int zv7)]) hx hb dX0_occupantsWithin_90 hl (by decide) rfl (fun ls hl => ?_)
              exact J_92 zv0 zv1 zv2 zv3 zv4 zt13 zt15 zv7 _ _ _ ls hf hw (lv_sub hl [2, 3, 4, 5, 6, 1, 0, 7] rfl)
          · have hf := gif_t hf qc8
            refine lv_iload hx hb dX0_occupantsWithin_41 (lv_at hl 4 rfl) ?_
            refine lv_iload hx hb dX0_occupantsWithin_43 (lv_at hl 5 rfl) ?_
            refine lv_iload hx hb dX0_occupantsWithin_45 (lv_at hl 6 rfl) ?_
            refine lv_aload_n hx hb dX0_occupantsWithin_47 rfl (lv_at hl 0 rfl) ?_
            refine lv_iload hx hb dX0_occupantsWithin_48 (lv_at hl 7 rfl) ?_
            refine W.eq (g2 := F0 m 50 ls [.int zv7, .ref (gB E + zv0), .int zv6, .int zv5, .int zv4]) rfl ?_
            obtain ⟨qizh16, hf⟩ := gg_el hf
            obtain ⟨zt17, zh16, qzh16, hf⟩ := gc_el hf
            refine gx_ki (gx_runV (As := [.int zv7]) (rest := [.int zv6, .int zv5, .int zv4]) X hw (c_X0_beginAt l E N zv0 zv7 zh6 qzh16) kX0_beginAt mm_X0_42 qizh16 clX0 ⟨Nat.le_of_ble_eq_true rfl, Nat.le_of_ble_eq_true rfl⟩ rfl rfl rfl hl.1 (Nat.le_of_ble_eq_true rfl) rfl dX0_occupantsWithin_50 ⟨Nat.le_of_ble_eq_true rfl, Nat.le_of_ble_eq_true rfl⟩) hw (fun H locs hw => ?_)
            refine lv_iload_n hx hb dX0_occupantsWithin_53 rfl (lv_at hl 2 rfl) ?_
            obtain ⟨zt19, zh18, qzh18, hf⟩ := gc_el hf
            refine gx_ki (gx_runS (As := [.int zv5, .int zv6, .int zt17, .int zv2]) (rest := [.int zv4]) X hw (c_X0_bitIfStayed l E N zv5 zv6 zt17 zv2 zh16 qzh18) kX0_bitIfStayed mm_X0_54 ⟨Nat.le_of_ble_eq_true rfl, Nat.le_of_ble_eq_true rfl⟩ rfl rfl rfl hl.1 (Nat.le_of_ble_eq_true rfl) rfl dX0_occupantsWithin_54 ⟨Nat.le_of_ble_eq_true rfl, Nat.le_of_ble_eq_true rfl⟩) hw (fun H locs hw => ?_)
            refine lv_ior hx hb dX0_occupantsWithin_57 ?_
            refine lv_topi (fun zx20 ezx20 => ?_)
            have hf := gl_el hf ezx20
            refine lv_istore (lv' := [(4, .int zx20), (0, .ref (gB E + zv0)), (1, .int zv1), (2, .int zv2), (3, .int zv3), (5, .int zv5), (6, .int zv6), (7, .int zv7)]) hx hb dX0_occupantsWithin_58 hl (by decide) rfl (fun ls hl => ?_)
            refine lv_iconst (v := (-1)) hx hb dX0_occupantsWithin_60 (by decide) ?_
            refine lv_istore (lv' := [(5, .int (-1)), (4, .int zx20), (0, .ref (gB E + zv0)), (1, .int zv1), (2, .int zv2), (3, .int zv3), (6, .int zv6), (7, .int zv7)]) hx hb dX0_occupantsWithin_61 hl (by decide) rfl (fun ls hl => ?_)
            refine lv_goto (tgt := 92) hx hb dX0_occupantsWithin_63 (by decide) ?_
            exact J_92 zv0 zv1 zv2 zv3 zx20 (-1) zv6 zv7 _ _ _ ls hf hw (lv_sub hl [2, 3, 4, 5, 1, 0, 6, 7] rfl)
  unfold f_X0_occupantsWithin at hf
  refine lv_iconst (v := 0) hx hb dX0_occupantsWithin_0 (by decide) ?_
  refine lv_istore (lv' := [(4, .int 0), (0, .ref (gB E + za0)), (1, .int za1), (2, .int za2), (3, .int za3)]) hx hb dX0_occupantsWithin_1 hl (by decide) rfl (fun ls hl => ?_)
  refine lv_iconst (v := (-1)) hx hb dX0_occupantsWithin_3 (by decide) ?_
  refine lv_istore (lv' := [(5, .int (-1)), (4, .int 0), (0, .ref (gB E + za0)), (1, .int za1), (2, .int za2), (3, .int za3)]) hx hb dX0_occupantsWithin_4 hl (by decide) rfl (fun ls hl => ?_)
  refine lv_iconst (v := 0) hx hb dX0_occupantsWithin_6 (by decide) ?_
  refine lv_istore (lv' := [(6, .int 0), (5, .int (-1)), (4, .int 0), (0, .ref (gB E + za0)), (1, .int za1), (2, .int za2), (3, .int za3)]) hx hb dX0_occupantsWithin_7 hl (by decide) rfl (fun ls hl => ?_)
  refine lv_iconst (v := 0) hx hb dX0_occupantsWithin_9 (by decide) ?_
  refine lv_istore (lv' := [(7, .int 0), (6, .int 0), (5, .int (-1)), (4, .int 0), (0, .ref (gB E + za0)), (1, .int za1), (2, .int za2), (3, .int za3)]) hx hb dX0_occupantsWithin_10 hl (by decide) rfl (fun ls hl => ?_)
  exact L_12 N za0 za1 za2 za3 0 (-1) 0 0 _ _ _ ls hf hw (lv_sub hl [4, 5, 6, 7, 3, 2, 1, 0] rfl)
