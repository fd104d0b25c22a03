def f_X0_init (N : Nat) (za0 : Nat) (zh : PH) : Option PH :=
  gc (nwA 1 1000 zh) fun zr2 zh1 =>
  gb (pfV 0 0 za0 (.ref zr2) zh1) fun zh3 =>
  some zh3
def f_X0_empty (N : Nat) (za0 : Nat) (zh : PH) : Option PH :=
  gb (pfV 0 1 za0 (.int 0) zh) fun zh1 =>
  gb (pfV 0 2 za0 (.int 0) zh1) fun zh2 =>
  some zh2
def f_X0_copyFrom (N : Nat) (za0 : Nat) (za1 : Nat) (zh : PH) : Option PH :=
  gb (gfR 0 0 za1 zh) fun zt1 =>
  gb (gfR 0 0 za0 zh) fun zt2 =>
  gb (gfI 0 1 za1 zh) fun zt3 =>
  gb (cpL 1 zt1 0 zt2 0 zt3 zh) fun zh4 =>
  gb (gfI 0 1 za1 zh4) fun zt5 =>
  gb (pfV 0 1 za0 (.int zt5) zh4) fun zh6 =>
  gb (gfI 0 2 za1 zh6) fun zt7 =>
  gb (pfV 0 2 za0 (.int zt7) zh6) fun zh8 =>
  some zh8
def f_X0_beginChain (N : Nat) (za0 : Nat) (za1 : Int32) (zh : PH) : Option PH :=
  gb (gfI 0 2 za0 zh) fun zt1 =>
  gb (pfV 0 2 za0 (.int (gmax zt1 za1)) zh) fun zh2 =>
  some zh2
def f_X0_write_78 (N : Nat) (zh : PH) : Option PH :=
  some zh
def f_X0_write (N : Nat) (za0 : Nat) (za1 : Int32) (za2 : Int32) (za3 : Int32) (za4 : Int32) (zh : PH) : Option PH :=
  gb (gfI 0 1 za0 zh) fun zt1 =>
  if (1000 : Int32) ≤ zt1 then (
  f_X0_write_78 N  zh)
  else (
  gl ((Int32.toInt64 ((((za1 * 16) + (za2 - (-1))) * 16) + (za3 - (-1))))) fun (zx3 : Int64) =>
  gb (gfR 0 0 za0 zh) fun zt4 =>
  gb (gfI 0 1 za0 zh) fun zt5 =>
  gb (gfI 0 2 za0 zh) fun zt6 =>
  gb (asL 1 zt4 zt5 (((((Int32.toInt64 zt6) * 256) + (Int32.toInt64 za4)) * 4096) + zx3) zh) fun zh7 =>
  gb (gfI 0 1 za0 zh7) fun zt8 =>
  gb (pfV 0 1 za0 (.int (zt8 + 1)) zh7) fun zh9 =>
  gb (gfI 0 2 za0 zh9) fun zt10 =>
  gb (pfV 0 2 za0 (.int (zt10 + za4)) zh9) fun zh11 =>
  f_X0_write_78 N  zh11)
def f_X0_beginAt (N : Nat) (za0 : Nat) (za1 : Int32) (zh : PH) : Option (Int32 × PH) :=
  gb (gfR 0 0 za0 zh) fun zt1 =>
  gb (arL 1 zt1 za1 zh) fun zt2 =>
  some ((Int64.toInt32 (zt2 >>> (Int32.toInt64 20 &&& 63))), zh)
def f_X0_endAt (N : Nat) (za0 : Nat) (za1 : Int32) (zh : PH) : Option (Int32 × PH) :=
  gg (gIs 0 za0 zh) <|
  gc (f_X0_beginAt N za0 za1 zh) fun zt2 zh1 =>
  gb (gfR 0 0 za0 zh1) fun zt3 =>
  gb (arL 1 zt3 za1 zh1) fun zt4 =>
  some ((zt2 + ((Int64.toInt32 (zt4 >>> (Int32.toInt64 12 &&& 63))) &&& 255)), zh1)
def f_X0_guestAt (N : Nat) (za0 : Nat) (za1 : Int32) (zh : PH) : Option (Int32 × PH) :=
  gb (gfR 0 0 za0 zh) fun zt1 =>
  gb (arL 1 zt1 za1 zh) fun zt2 =>
  some (((Int64.toInt32 (zt2 >>> (Int32.toInt64 8 &&& 63))) &&& 15), zh)
def f_X0_toAt (N : Nat) (za0 : Nat) (za1 : Int32) (zh : PH) : Option (Int32 × PH) :=
  gb (gfR 0 0 za0 zh) fun zt1 =>
  gb (arL 1 zt1 za1 zh) fun zt2 =>
  some ((((Int64.toInt32 zt2) &&& 15) + (-1)), zh)
def f_X0_placeOf_49 (N : Nat) (zk7 : (Nat × Int32 × Int32 × Int32 × PH) → Option (Int32 × PH)) (zv0 : Nat) (zv1 : Int32) (zv2 : Int32) (zv3 : Int32) (zh : PH) : Option (Int32 × PH) :=
  gl (zv3 + (-1)) fun (zx1 : Int32) =>
  zk7 (zv0, zv1, zv2, zx1, zh)
def f_X0_placeOf_48 (N : Nat) (zs0 : Int32) (zh : PH) : Option (Int32 × PH) :=
  some (zs0, zh)
def f_X0_placeOf_7 (N : Nat) (zk7 : (Nat × Int32 × Int32 × Int32 × PH) → Option (Int32 × PH)) (zv0 : Nat) (zv1 : Int32) (zv2 : Int32) (zv3 : Int32) (zh : PH) : Option (Int32 × PH) :=
  if (zv3 : Int32) < 0 then (
  some ((-1), zh))
  else (
  gg (gIs 0 zv0 zh) <|
  gc (f_X0_guestAt N zv0 zv3 zh) fun zt3 zh2 =>
  if (zt3 : Int32) = zv1 then (
  gg (gIs 0 zv0 zh2) <|
  gc (f_X0_beginAt N zv0 zv3 zh2) fun zt6 zh5 =>
  if (zv2 : Int32) < zt6 then (
  f_X0_placeOf_49 N zk7 zv0 zv1 zv2 zv3 zh5)
  else (
  gg (gIs 0 zv0 zh5) <|
  gc (f_X0_endAt N zv0 zv3 zh5) fun zt9 zh8 =>
  if (zv2 : Int32) < zt9 then (
  f_X0_placeOf_48 N (-2) zh8)
  else (
  gg (gIs 0 zv0 zh8) <|
  gc (f_X0_toAt N zv0 zv3 zh8) fun zt12 zh11 =>
  f_X0_placeOf_48 N zt12 zh11)))
  else (
  f_X0_placeOf_49 N zk7 zv0 zv1 zv2 zv3 zh2))
def f_X0_placeOf (N : Nat) (za0 : Nat) (za1 : Int32) (za2 : Int32) (zh : PH) : Option (Int32 × PH) :=
  gb (gfI 0 1 za0 zh) fun zt1 =>
  gl ((zt1 - 1)) fun (zx2 : Int32) =>
  gi (fun zk zs => f_X0_placeOf_7 N zk zs.1 zs.2.1 zs.2.2.1 zs.2.2.2.1 zs.2.2.2.2) N (za0, za1, za2, zx2, zh)
def f_X0_fromAt (N : Nat) (za0 : Nat) (za1 : Int32) (zh : PH) : Option (Int32 × PH) :=
  gb (gfR 0 0 za0 zh) fun zt1 =>
  gb (arL 1 zt1 za1 zh) fun zt2 =>
  some ((((Int64.toInt32 (zt2 >>> (Int32.toInt64 4 &&& 63))) &&& 15) + (-1)), zh)
def f_X0_occupantOf_55 (N : Nat) (zk7 : (Nat × Int32 × Int32 × Int32 × PH) → Option (Int32 × PH)) (zv0 : Nat) (zv1 : Int32) (zv2 : Int32) (zv3 : Int32) (zh : PH) : Option (Int32 × PH) :=
  gl (zv3 + (-1)) fun (zx1 : Int32) =>
  zk7 (zv0, zv1, zv2, zx1, zh)
def f_X0_occupantOf_35 (N : Nat) (zk7 : (Nat × Int32 × Int32 × Int32 × PH) → Option (Int32 × PH)) (zv0 : Nat) (zv1 : Int32) (zv2 : Int32) (zv3 : Int32) (zh : PH) : Option (Int32 × PH) :=
  gg (gIs 0 zv0 zh) <|
  gc (f_X0_fromAt N zv0 zv3 zh) fun zt2 zh1 =>
  if (zt2 : Int32) = zv1 then (
  gg (gIs 0 zv0 zh1) <|
  gc (f_X0_beginAt N zv0 zv3 zh1) fun zt5 zh4 =>
  if (zv2 : Int32) < zt5 then (
  f_X0_occupantOf_55 N zk7 zv0 zv1 zv2 zv3 zh4)
  else (
  some ((-1), zh4)))
  else (
  f_X0_occupantOf_55 N zk7 zv0 zv1 zv2 zv3 zh1)
def f_X0_occupantOf_7 (N : Nat) (zk7 : (Nat × Int32 × Int32 × Int32 × PH) → Option (Int32 × PH)) (zv0 : Nat) (zv1 : Int32) (zv2 : Int32) (zv3 : Int32) (zh : PH) : Option (Int32 × PH) :=
  if (zv3 : Int32) < 0 then (
  some ((-1), zh))
  else (
  gg (gIs 0 zv0 zh) <|
  gc (f_X0_toAt N zv0 zv3 zh) fun zt3 zh2 =>
  if (zt3 : Int32) = zv1 then (
  gg (gIs 0 zv0 zh2) <|
  gc (f_X0_endAt N zv0 zv3 zh2) fun zt6 zh5 =>
  if (zv2 : Int32) < zt6 then (
  f_X0_occupantOf_35 N zk7 zv0 zv1 zv2 zv3 zh5)
  else (
  gg (gIs 0 zv0 zh5) <|
  gc (f_X0_guestAt N zv0 zv3 zh5) fun zt9 zh8 =>
  some (zt9, zh8)))
  else (
  f_X0_occupantOf_35 N zk7 zv0 zv1 zv2 zv3 zh2))
def f_X0_occupantOf (N : Nat) (za0 : Nat) (za1 : Int32) (za2 : Int32) (zh : PH) : Option (Int32 × PH) :=
  gb (gfI 0 1 za0 zh) fun zt1 =>
  gl ((zt1 - 1)) fun (zx2 : Int32) =>
  gi (fun zk zs => f_X0_occupantOf_7 N zk zs.1 zs.2.1 zs.2.2.1 zs.2.2.2.1 zs.2.2.2.2) N (za0, za1, za2, zx2, zh)
def f_X0_bitIfStayed_22 (N : Nat) (zs0 : Int32) (zh : PH) : Option (Int32 × PH) :=
  some (zs0, zh)
def f_X0_bitIfStayed_21 (N : Nat) (zh : PH) : Option (Int32 × PH) :=
  f_X0_bitIfStayed_22 N 0 zh
def f_X0_bitIfStayed (N : Nat) (za0 : Int32) (za1 : Int32) (za2 : Int32) (za3 : Int32) (zh : PH) : Option (Int32 × PH) :=
  if (za0 : Int32) = (-1) then (
  f_X0_bitIfStayed_21 N  zh)
  else (
  if (za2 : Int32) ≤ za1 then (
  f_X0_bitIfStayed_21 N  zh)
  else (
  if (za2 : Int32) ≤ za3 then (
  f_X0_bitIfStayed_21 N  zh)
  else (
  f_X0_bitIfStayed_22 N (1 <<< (za0 &&& 31)) zh)))
def f_X0_occupantsWithin_98 (N : Nat) (zv2 : Int32) (zv3 : Int32) (zv4 : Int32) (zv5 : Int32) (zv6 : Int32) (zh : PH) : Option (Int32 × PH) :=
  gc (f_X0_bitIfStayed N zv5 zv6 (zv3 + 1) zv2 zh) fun zt2 zh1 =>
  some ((zv4 ||| zt2), zh1)
def f_X0_occupantsWithin_92 (N : Nat) (zk12 : (Nat × Int32 × Int32 × Int32 × Int32 × Int32 × Int32 × Int32 × PH) → Option (Int32 × PH)) (zv0 : Nat) (zv1 : Int32) (zv2 : Int32) (zv3 : Int32) (zv4 : Int32) (zv5 : Int32) (zv6 : Int32) (zv7 : Int32) (zh : PH) : Option (Int32 × PH) :=
  gl (zv7 + 1) fun (zx1 : Int32) =>
  zk12 (zv0, zv1, zv2, zv3, zv4, zv5, zv6, zx1, zh)
def f_X0_occupantsWithin_12 (N : Nat) (zk12 : (Nat × Int32 × Int32 × Int32 × Int32 × Int32 × Int32 × Int32 × PH) → Option (Int32 × PH)) (zv0 : Nat) (zv1 : Int32) (zv2 : Int32) (zv3 : Int32) (zv4 : Int32) (zv5 : Int32) (zv6 : Int32) (zv7 : Int32) (zh : PH) : Option (Int32 × PH) :=
  gb (gfI 0 1 zv0 zh) fun zt1 =>
  if (zt1 : Int32) ≤ zv7 then (
  f_X0_occupantsWithin_98 N zv2 zv3 zv4 zv5 zv6 zh)
  else (
  gg (gIs 0 zv0 zh) <|
  gc (f_X0_beginAt N zv0 zv7 zh) fun zt4 zh3 =>
  if (zv3 : Int32) < zt4 then (
  f_X0_occupantsWithin_98 N zv2 zv3 zv4 zv5 zv6 zh3)
  else (
  gg (gIs 0 zv0 zh3) <|
  gc (f_X0_fromAt N zv0 zv7 zh3) fun zt7 zh6 =>
  if (zt7 : Int32) = zv1 then (
  gg (gIs 0 zv0 zh6) <|
  gc (f_X0_beginAt N zv0 zv7 zh6) fun zt17 zh16 =>
  gc (f_X0_bitIfStayed N zv5 zv6 zt17 zv2 zh16) fun zt19 zh18 =>
  gl ((zv4 ||| zt19)) fun (zx20 : Int32) =>
  f_X0_occupantsWithin_92 N zk12 zv0 zv1 zv2 zv3 zx20 (-1) zv6 zv7 zh18)
  else (
  gg (gIs 0 zv0 zh6) <|
  gc (f_X0_toAt N zv0 zv7 zh6) fun zt10 zh9 =>
  if (zt10 : Int32) = zv1 then (
  gg (gIs 0 zv0 zh9) <|
  gc (f_X0_guestAt N zv0 zv7 zh9) fun zt13 zh12 =>
  gg (gIs 0 zv0 zh12) <|
  gc (f_X0_endAt N zv0 zv7 zh12) fun zt15 zh14 =>
  f_X0_occupantsWithin_92 N zk12 zv0 zv1 zv2 zv3 zv4 zt13 zt15 zv7 zh14)
  else (
  f_X0_occupantsWithin_92 N zk12 zv0 zv1 zv2 zv3 zv4 zv5 zv6 zv7 zh9))))
def f_X0_occupantsWithin (N : Nat) (za0 : Nat) (za1 : Int32) (za2 : Int32) (za3 : Int32) (zh : PH) : Option (Int32 × PH) :=
  gi (fun zk zs => f_X0_occupantsWithin_12 N zk zs.1 zs.2.1 zs.2.2.1 zs.2.2.2.1 zs.2.2.2.2.1 zs.2.2.2.2.2.1 zs.2.2.2.2.2.2.1 zs.2.2.2.2.2.2.2.1 zs.2.2.2.2.2.2.2.2) N (za0, za1, za2, za3, 0, (-1), 0, 0, zh)
def f_J7_fill_53178_5 (N : Nat) (zk5 : (Nat × Int32 × Int32 × Int32 × PH) → Option PH) (zv0 : Nat) (zv1 : Int32) (zv2 : Int32) (zv3 : Int32) (zh : PH) : Option PH :=
  if (zv3 : Int32) ≤ zv2 then (
  some zh)
  else (
  gb (asI 0 zv0 zv2 zv1 zh) fun zh2 =>
  gl (zv2 + 1) fun (zx3 : Int32) =>
  zk5 (zv0, zv1, zx3, zv3, zh2))
def f_J7_fill_53178 (N : Nat) (za0 : Nat) (za1 : Int32) (zh : PH) : Option PH :=
  gb (alen 0 za0 zh) fun zt1 =>
  gi (fun zk zs => f_J7_fill_53178_5 N zk zs.1 zs.2.1 zs.2.2.1 zs.2.2.2.1 zs.2.2.2.2) N (za0, za1, 0, zt1, zh)
def f_X1_init (N : Nat) (za0 : Nat) (zh : PH) : Option PH :=
  gc (nwA 0 10 zh) fun zr2 zh1 =>
  gb (pfV 1 0 za0 (.ref zr2) zh1) fun zh3 =>
  gc (nwA 0 10 zh3) fun zr5 zh4 =>
  gb (pfV 1 1 za0 (.ref zr5) zh4) fun zh6 =>
  gc (nwA 0 10 zh6) fun zr8 zh7 =>
  gb (pfV 1 2 za0 (.ref zr8) zh7) fun zh9 =>
  gc (nwA 0 10 zh9) fun zr11 zh10 =>
  gb (pfV 1 3 za0 (.ref zr11) zh10) fun zh12 =>
  gb (gfR 1 0 za0 zh12) fun zt13 =>
  gb (f_J7_fill_53178 N zt13 (-1) zh12) fun zh14 =>
  gb (gfR 1 1 za0 zh14) fun zt15 =>
  gb (f_J7_fill_53178 N zt15 (-1) zh14) fun zh16 =>
  some zh16
def f_X1_empty (N : Nat) (za0 : Nat) (zh : PH) : Option PH :=
  gb (gfR 1 0 za0 zh) fun zt1 =>
  gb (f_J7_fill_53178 N zt1 (-1) zh) fun zh2 =>
  gb (gfR 1 1 za0 zh2) fun zt3 =>
  gb (f_J7_fill_53178 N zt3 (-1) zh2) fun zh4 =>
  gb (gfR 1 2 za0 zh4) fun zt5 =>
  gb (f_J7_fill_53178 N zt5 0 zh4) fun zh6 =>
  gb (gfR 1 3 za0 zh6) fun zt7 =>
  gb (f_J7_fill_53178 N zt7 0 zh6) fun zh8 =>
  gb (pfV 1 4 za0 (.int 0) zh8) fun zh9 =>
  gb (pfV 1 5 za0 (.int 0) zh9) fun zh10 =>
  gb (pfV 1 6 za0 (.int 0) zh10) fun zh11 =>
  gb (pfV 1 7 za0 (.int 0) zh11) fun zh12 =>
  gb (pfV 1 8 za0 (.int 0) zh12) fun zh13 =>
  gb (pfV 1 9 za0 (.int 0) zh13) fun zh14 =>
  some zh14
def f_X1_copyFrom (N : Nat) (za0 : Nat) (za1 : Nat) (zh : PH) : Option PH :=
  gb (gfR 1 0 za1 zh) fun zt1 =>
  gb (gfR 1 0 za0 zh) fun zt2 =>
  gb (cpI 0 zt1 0 zt2 0 10 zh) fun zh3 =>
  gb (gfR 1 1 za1 zh3) fun zt4 =>
  gb (gfR 1 1 za0 zh3) fun zt5 =>
  gb (cpI 0 zt4 0 zt5 0 10 zh3) fun zh6 =>
  gb (gfR 1 2 za1 zh6) fun zt7 =>
  gb (gfR 1 2 za0 zh6) fun zt8 =>
  gb (cpI 0 zt7 0 zt8 0 10 zh6) fun zh9 =>
  gb (gfR 1 3 za1 zh9) fun zt10 =>
  gb (gfR 1 3 za0 zh9) fun zt11 =>
  gb (cpI 0 zt10 0 zt11 0 10 zh9) fun zh12 =>
  gb (gfI 1 4 za1 zh12) fun zt13 =>
  gb (pfV 1 4 za0 (.int zt13) zh12) fun zh14 =>
  gb (gfI 1 5 za1 zh14) fun zt15 =>
  gb (pfV 1 5 za0 (.int zt15) zh14) fun zh16 =>
  gb (gfI 1 6 za1 zh16) fun zt17 =>
  gb (pfV 1 6 za0 (.int zt17) zh16) fun zh18 =>
  gb (gfI 1 7 za1 zh18) fun zt19 =>
  gb (pfV 1 7 za0 (.int zt19) zh18) fun zh20 =>
  gb (gfI 1 8 za1 zh20) fun zt21 =>
  gb (pfV 1 8 za0 (.int zt21) zh20) fun zh22 =>
  gb (gfI 1 9 za1 zh22) fun zt23 =>
  gb (pfV 1 9 za0 (.int zt23) zh22) fun zh24 =>
  some zh24
def f_X1_isIn_15 (N : Nat) (zs0 : Int32) (zh : PH) : Option (Int32 × PH) :=
  gg (gzb zs0) (some (zs0, zh))
def f_X1_isIn (N : Nat) (za0 : Nat) (za1 : Int32) (zh : PH) : Option (Int32 × PH) :=
  gb (gfR 1 1 za0 zh) fun zt1 =>
  gb (arI 0 zt1 za1 zh) fun zt2 =>
  if (zt2 : Int32) = (-1) then (
  f_X1_isIn_15 N 0 zh)
  else (
  f_X1_isIn_15 N 1 zh)
def f_X1_guestsIn (N : Nat) (za0 : Nat) (zh : PH) : Option (Int32 × PH) :=
  gb (gfI 1 8 za0 zh) fun zt1 =>
  some (zt1, zh)
def f_X11_bitOf (N : Nat) (za0 : Int32) (za1 : Int32) (zh : PH) : Option (Int32 × PH) :=
  some (((za0 >>> (za1 &&& 31)) &&& 1), zh)
def f_X2_floorOf_22 (N : Nat) (zs0 : Int32) (zh : PH) : Option (Int32 × PH) :=
  some (zs0, zh)
def f_X2_floorOf_21 (N : Nat) (zh : PH) : Option (Int32 × PH) :=
  f_X2_floorOf_22 N 0 zh
def f_X2_floorOf (N : Nat) (za0 : Nat) (za1 : Int32) (zh : PH) : Option (Int32 × PH) :=
  if (za1 : Int32) < 0 then (
  f_X2_floorOf_21 N  zh)
  else (
  gb (gfI 2 0 za0 zh) fun zt2 =>
  if (zt2 : Int32) ≤ za1 then (
  f_X2_floorOf_21 N  zh)
  else (
  gb (gfR 2 5 za0 zh) fun zt4 =>
  gb (arI 0 zt4 za1 zh) fun zt5 =>
  f_X2_floorOf_22 N zt5 zh))
def f_X2_floorsBetween (N : Nat) (za0 : Nat) (za1 : Int32) (za2 : Int32) (zh : PH) : Option (Int32 × PH) :=
  gg (gIs 2 za0 zh) <|
  gc (f_X2_floorOf N za0 za1 zh) fun zt2 zh1 =>
  gg (gIs 2 za0 zh1) <|
  gc (f_X2_floorOf N za0 za2 zh1) fun zt4 zh3 =>
  some ((gabs (zt2 - zt4)), zh3)
def f_X2_minutesNeeded (N : Nat) (za0 : Nat) (za1 : Int32) (za2 : Int32) (za3 : Int32) (zh : PH) : Option (Int32 × PH) :=
  gg (gIs 2 za0 zh) <|
  gc (f_X2_floorsBetween N za0 za2 za3 zh) fun zt2 zh1 =>
  gb (gfR 2 7 za0 zh1) fun zt3 =>
  gb (arI 0 zt3 za1 zh1) fun zt4 =>
  some (((1 + (2 * zt2)) + (zt4 / 10)), zh1)
def f_X2_stepsBetween (N : Nat) (za0 : Nat) (za1 : Int32) (za2 : Int32) (zh : PH) : Option (Int32 × PH) :=
  gg (gIs 2 za0 zh) <|
  gc (f_X2_floorsBetween N za0 za1 za2 zh) fun zt2 zh1 =>
  some (((gabs (za1 - za2)) + (10 * zt2)), zh1)
def f_X1_go_157 (N : Nat) (zh : PH) : Option PH :=
  some zh
def f_X1_go_141 (N : Nat) (zv2 : Int32) (zv3 : Int32) (zv4 : (Option Nat)) (zv5 : Int32) (zv7 : Int32) (zh : PH) : Option PH :=
  gqm zv4 (
  f_X1_go_157 N  zh)
  (fun zp1 =>
  gg (gIs 0 zp1 zh) <|
  gb (f_X0_write N zp1 zv2 zv5 zv3 zv7 zh) fun zh2 =>
  f_X1_go_157 N  zh2)
def f_X1_go_53 (N : Nat) (zv0 : Nat) (zv1 : Nat) (zv2 : Int32) (zv3 : Int32) (zv4 : (Option Nat)) (zv5 : Int32) (zv6 : Int32) (zv7 : Int32) (zh : PH) : Option PH :=
  gb (gfR 1 1 zv0 zh) fun zt1 =>
  gb (asI 0 zt1 zv2 zv3 zh) fun zh2 =>
  gb (gfR 1 3 zv0 zh2) fun zt3 =>
  gb (arI 0 zt3 zv2 zh2) fun zt4 =>
  gb (asI 0 zt3 zv2 (zt4 + zv6) zh2) fun zh5 =>
  gb (gfI 1 4 zv0 zh5) fun zt6 =>
  gb (pfV 1 4 zv0 (.int (zt6 + zv6)) zh5) fun zh7 =>
  gb (gfI 1 7 zv0 zh7) fun zt8 =>
  gb (pfV 1 7 zv0 (.int (zt8 + zv7)) zh7) fun zh9 =>
  if (zv5 : Int32) = (-1) then (
  f_X1_go_141 N zv2 zv3 zv4 zv5 zv7 zh9)
  else (
  if (zv3 : Int32) = (-1) then (
  f_X1_go_141 N zv2 zv3 zv4 zv5 zv7 zh9)
  else (
  gb (gfR 1 2 zv0 zh9) fun zt12 =>
  gb (arI 0 zt12 zv2 zh9) fun zt13 =>
  gb (asI 0 zt12 zv2 (zt13 + 1) zh9) fun zh14 =>
  gb (gfI 1 6 zv0 zh14) fun zt15 =>
  gb (pfV 1 6 zv0 (.int (zt15 + 1)) zh14) fun zh16 =>
  gb (gfI 1 5 zv0 zh16) fun zt17 =>
  gb (gfI 2 3 zv1 zh16) fun zt18 =>
  gc (f_X11_bitOf N zt18 zv2 zh16) fun zt20 zh19 =>
  gb (pfV 1 5 zv0 (.int (zt17 + zt20)) zh19) fun zh21 =>
  f_X1_go_141 N zv2 zv3 zv4 zv5 zv7 zh21))
def f_X1_go_41 (N : Nat) (zv0 : Nat) (zv1 : Nat) (zv2 : Int32) (zv3 : Int32) (zv4 : (Option Nat)) (zv5 : Int32) (zv6 : Int32) (zv7 : Int32) (zh : PH) : Option PH :=
  if (zv3 : Int32) = (-1) then (
  f_X1_go_53 N zv0 zv1 zv2 zv3 zv4 zv5 zv6 zv7 zh)
  else (
  gb (gfR 1 0 zv0 zh) fun zt2 =>
  gb (asI 0 zt2 zv3 zv2 zh) fun zh3 =>
  f_X1_go_53 N zv0 zv1 zv2 zv3 zv4 zv5 zv6 zv7 zh3)
def f_X1_go (N : Nat) (za0 : Nat) (za1 : Nat) (za2 : Int32) (za3 : Int32) (za4 : (Option Nat)) (zh : PH) : Option PH :=
  gb (gfR 1 1 za0 zh) fun zt1 =>
  gb (arI 0 zt1 za2 zh) fun zt2 =>
  gg (gIs 2 za1 zh) <|
  gc (f_X2_stepsBetween N za1 zt2 za3 zh) fun zt4 zh3 =>
  gg (gIs 2 za1 zh3) <|
  gc (f_X2_minutesNeeded N za1 za2 zt2 za3 zh3) fun zt6 zh5 =>
  if (zt2 : Int32) = (-1) then (
  f_X1_go_41 N za0 za1 za2 za3 za4 zt2 zt4 zt6 zh5)
  else (
  gb (gfR 1 0 za0 zh5) fun zt8 =>
  gb (asI 0 zt8 zt2 (-1) zh5) fun zh9 =>
  f_X1_go_41 N za0 za1 za2 za3 za4 zt2 zt4 zt6 zh9)
def f_X1_takeIn_43 (N : Nat) (zk43 : (Nat × Nat × Int32 × (Option Nat) × Int32 × PH) → Option PH) (zv0 : Nat) (zv1 : Nat) (zv2 : Int32) (zv3 : (Option Nat)) (zv5 : Int32) (zh : PH) : Option PH :=
  if (zv5 : Int32) ≤ 0 then (
  gg (gIs 1 zv0 zh) <|
  gb (f_X1_go N zv0 zv1 zv2 0 zv3 zh) fun zh2 =>
  gb (gfI 1 8 zv0 zh2) fun zt3 =>
  gb (pfV 1 8 zv0 (.int (zt3 + 1)) zh2) fun zh4 =>
  gb (gfI 1 9 zv0 zh4) fun zt5 =>
  gb (pfV 1 9 zv0 (.int (zt5 ||| (1 <<< (zv2 &&& 31)))) zh4) fun zh6 =>
  some zh6)
  else (
  gb (gfR 1 0 zv0 zh) fun zt7 =>
  gb (arI 0 zt7 (zv5 - 1) zh) fun zt8 =>
  gg (gIs 1 zv0 zh) <|
  gb (f_X1_go N zv0 zv1 zt8 zv5 zv3 zh) fun zh9 =>
  gl (zv5 + (-1)) fun (zx10 : Int32) =>
  zk43 (zv0, zv1, zv2, zv3, zx10, zh9))
def f_X1_takeIn_29 (N : Nat) (zv0 : Nat) (zv1 : Nat) (zv2 : Int32) (zv3 : (Option Nat)) (zv4 : Int32) (zh : PH) : Option PH :=
  gb (gfI 2 0 zv1 zh) fun zt1 =>
  if (zv4 : Int32) = zt1 then (
  some zh)
  else (
  gi (fun zk zs => f_X1_takeIn_43 N zk zs.1 zs.2.1 zs.2.2.1 zs.2.2.2.1 zs.2.2.2.2.1 zs.2.2.2.2.2) N (zv0, zv1, zv2, zv3, zv4, zh))
def f_X1_takeIn_3 (N : Nat) (zk3 : (Nat × Nat × Int32 × (Option Nat) × Int32 × PH) → Option PH) (zv0 : Nat) (zv1 : Nat) (zv2 : Int32) (zv3 : (Option Nat)) (zv4 : Int32) (zh : PH) : Option PH :=
  gb (gfI 2 0 zv1 zh) fun zt1 =>
  if (zt1 : Int32) ≤ zv4 then (
  f_X1_takeIn_29 N zv0 zv1 zv2 zv3 zv4 zh)
  else (
  gb (gfR 1 0 zv0 zh) fun zt3 =>
  gb (arI 0 zt3 zv4 zh) fun zt4 =>
  if (zt4 : Int32) = (-1) then (
  f_X1_takeIn_29 N zv0 zv1 zv2 zv3 zv4 zh)
  else (
  gl (zv4 + 1) fun (zx6 : Int32) =>
  zk3 (zv0, zv1, zv2, zv3, zx6, zh)))
def f_X1_takeIn (N : Nat) (za0 : Nat) (za1 : Nat) (za2 : Int32) (za3 : (Option Nat)) (zh : PH) : Option PH :=
  gi (fun zk zs => f_X1_takeIn_3 N zk zs.1 zs.2.1 zs.2.2.1 zs.2.2.2.1 zs.2.2.2.2.1 zs.2.2.2.2.2) N (za0, za1, za2, za3, 0, zh)
def f_X7_pop (N : Nat) (za0 : Nat) (zh : PH) : Option (Int32 × PH) :=
  gb (gfI 7 1 za0 zh) fun zt1 =>
  if (zt1 : Int32) = 0 then (
  some (0, zh))
  else (
  gb (gfI 7 1 za0 zh) fun zt3 =>
  gb (pfV 7 1 za0 (.int (zt3 - 1)) zh) fun zh4 =>
  gb (gfR 7 0 za0 zh4) fun zt5 =>
  gb (gfI 7 1 za0 zh4) fun zt6 =>
  gb (arI 0 zt5 zt6 zh4) fun zt7 =>
  some (zt7, zh4))
def f_X7_setFact (N : Nat) (za0 : Nat) (za1 : Int32) (za2 : Int32) (zh : PH) : Option PH :=
  gb (gfR 7 2 za0 zh) fun zt1 =>
  gb (asI 0 zt1 (za1 - 10000) za2 zh) fun zh2 =>
  some zh2
def f_X7_oneIf_9 (N : Nat) (zs0 : Int32) (zh : PH) : Option (Int32 × PH) :=
  some (zs0, zh)
def f_X7_oneIf (N : Nat) (za0 : Int32) (zh : PH) : Option (Int32 × PH) :=
  if (za0 : Int32) = 0 then (
  f_X7_oneIf_9 N 0 zh)
  else (
  f_X7_oneIf_9 N 1 zh)
def f_X7_joined_98 (N : Nat) (zs0 : Int32) (zh : PH) : Option (Int32 × PH) :=
  gc (f_X7_oneIf N zs0 zh) fun zt2 zh1 =>
  some (zt2, zh1)
def f_X7_joined_84 (N : Nat) (zs0 : Int32) (zh : PH) : Option (Int32 × PH) :=
  gc (f_X7_oneIf N zs0 zh) fun zt2 zh1 =>
  some (zt2, zh1)
def f_X7_joined_70 (N : Nat) (zs0 : Int32) (zh : PH) : Option (Int32 × PH) :=
  gc (f_X7_oneIf N zs0 zh) fun zt2 zh1 =>
  some (zt2, zh1)
def f_X7_joined_65 (N : Nat) (zh : PH) : Option (Int32 × PH) :=
  f_X7_joined_70 N 1 zh
def f_X7_joined_53 (N : Nat) (zs0 : Int32) (zh : PH) : Option (Int32 × PH) :=
  gc (f_X7_oneIf N zs0 zh) fun zt2 zh1 =>
  some (zt2, zh1)
def f_X7_joined_52 (N : Nat) (zh : PH) : Option (Int32 × PH) :=
  f_X7_joined_53 N 0 zh
def f_X7_joined (N : Nat) (za0 : Int32) (za1 : Int32) (za2 : Int32) (zh : PH) : Option (Int32 × PH) :=
  if (za0 : Int32) = 10009 then (
  if (za1 : Int32) = 0 then (
  f_X7_joined_52 N  zh)
  else (
  if (za2 : Int32) = 0 then (
  f_X7_joined_52 N  zh)
  else (
  f_X7_joined_53 N 1 zh)))
  else (
  if (za0 : Int32) = 10010 then (
  if (za1 : Int32) = 0 then (
  if (za2 : Int32) = 0 then (
  f_X7_joined_70 N 0 zh)
  else (
  f_X7_joined_65 N  zh))
  else (
  f_X7_joined_65 N  zh))
  else (
  if (za0 : Int32) = 10011 then (
  if (za2 : Int32) ≤ za1 then (
  f_X7_joined_84 N 0 zh)
  else (
  f_X7_joined_84 N 1 zh))
  else (
  if (za0 : Int32) = 10012 then (
  if (za1 : Int32) = za2 then (
  f_X7_joined_98 N 1 zh)
  else (
  f_X7_joined_98 N 0 zh))
  else (
  if (za0 : Int32) = 10013 then (
  some ((za1 + za2), zh))
  else (
  if (za0 : Int32) = 10014 then (
  some ((za1 - za2), zh))
  else (
  some ((za1 * za2), zh)))))))
def f_X7_push_29 (N : Nat) (zh : PH) : Option PH :=
  some zh
def f_X7_push (N : Nat) (za0 : Nat) (za1 : Int32) (zh : PH) : Option PH :=
  gb (gfI 7 1 za0 zh) fun zt1 =>
  if (32 : Int32) ≤ zt1 then (
  f_X7_push_29 N  zh)
  else (
  gb (gfR 7 0 za0 zh) fun zt3 =>
  gb (gfI 7 1 za0 zh) fun zt4 =>
  gb (asI 0 zt3 zt4 za1 zh) fun zh5 =>
  gb (gfI 7 1 za0 zh5) fun zt6 =>
  gb (pfV 7 1 za0 (.int (zt6 + 1)) zh5) fun zh7 =>
  f_X7_push_29 N  zh7)
def f_X7_take_88 (N : Nat) (zh : PH) : Option PH :=
  some zh
def f_X7_take_59 (N : Nat) (zs0 : Int32) (zs1 : Nat) (zh : PH) : Option PH :=
  gc (f_X7_oneIf N zs0 zh) fun zt2 zh1 =>
  gg (gIs 7 zs1 zh1) <|
  gb (f_X7_push N zs1 zt2 zh1) fun zh3 =>
  f_X7_take_88 N  zh3
def f_X7_take (N : Nat) (za0 : Nat) (za1 : Int32) (zh : PH) : Option PH :=
  if (10000 : Int32) ≤ za1 then (
  if (10008 : Int32) ≤ za1 then (
  if (za1 : Int32) = 10008 then (
  gg (gIs 7 za0 zh) <|
  gc (f_X7_pop N za0 zh) fun zt12 zh11 =>
  if (zt12 : Int32) = 0 then (
  f_X7_take_59 N 1 za0 zh11)
  else (
  f_X7_take_59 N 0 za0 zh11))
  else (
  gg (gIs 7 za0 zh) <|
  gc (f_X7_pop N za0 zh) fun zt5 zh4 =>
  gg (gIs 7 za0 zh4) <|
  gc (f_X7_pop N za0 zh4) fun zt7 zh6 =>
  gc (f_X7_joined N za1 zt7 zt5 zh6) fun zt9 zh8 =>
  gg (gIs 7 za0 zh8) <|
  gb (f_X7_push N za0 zt9 zh8) fun zh10 =>
  f_X7_take_88 N  zh10))
  else (
  gb (gfR 7 2 za0 zh) fun zt14 =>
  gb (arI 0 zt14 (za1 - 10000) zh) fun zt15 =>
  gg (gIs 7 za0 zh) <|
  gb (f_X7_push N za0 zt15 zh) fun zh16 =>
  f_X7_take_88 N  zh16))
  else (
  gg (gIs 7 za0 zh) <|
  gb (f_X7_push N za0 za1 zh) fun zh17 =>
  f_X7_take_88 N  zh17)
def f_X7_value_129 (N : Nat) (zk129 : (Nat × Nat × Int32 × Int32 × PH) → Option (Int32 × PH)) (zv0 : Nat) (zv1 : Nat) (zv2 : Int32) (zv7 : Int32) (zh : PH) : Option (Int32 × PH) :=
  gb (gfR 2 10 zv1 zh) fun zt1 =>
  gb (arI 0 zt1 (zv2 + 1) zh) fun zt2 =>
  if (zt2 : Int32) ≤ zv7 then (
  gg (gIs 7 zv0 zh) <|
  gc (f_X7_pop N zv0 zh) fun zt5 zh4 =>
  some (zt5, zh4))
  else (
  gb (gfR 2 9 zv1 zh) fun zt6 =>
  gb (arI 0 zt6 zv7 zh) fun zt7 =>
  gg (gIs 7 zv0 zh) <|
  gb (f_X7_take N zv0 zt7 zh) fun zh8 =>
  gl (zv7 + 1) fun (zx9 : Int32) =>
  zk129 (zv0, zv1, zv2, zx9, zh8))
def f_X7_value (N : Nat) (za0 : Nat) (za1 : Nat) (za2 : Int32) (za3 : Nat) (za4 : Int32) (za5 : Int32) (zh : PH) : Option (Int32 × PH) :=
  gb (gfR 1 1 za3 zh) fun zt1 =>
  gb (arI 0 zt1 za4 zh) fun zt2 =>
  gb (gfR 2 7 za1 zh) fun zt3 =>
  gb (arI 0 zt3 za4 zh) fun zt4 =>
  gg (gIs 7 za0 zh) <|
  gb (f_X7_setFact N za0 10000 zt4 zh) fun zh5 =>
  gb (gfI 2 3 za1 zh5) fun zt6 =>
  gc (f_X11_bitOf N zt6 za4 zh5) fun zt8 zh7 =>
  gg (gIs 7 za0 zh7) <|
  gb (f_X7_setFact N za0 10001 zt8 zh7) fun zh9 =>
  gb (gfI 2 4 za1 zh9) fun zt10 =>
  gc (f_X11_bitOf N zt10 za4 zh9) fun zt12 zh11 =>
  gg (gIs 7 za0 zh11) <|
  gb (f_X7_setFact N za0 10002 zt12 zh11) fun zh13 =>
  gg (gIs 7 za0 zh13) <|
  gb (f_X7_setFact N za0 10003 zt2 zh13) fun zh14 =>
  gg (gIs 7 za0 zh14) <|
  gb (f_X7_setFact N za0 10004 za5 zh14) fun zh15 =>
  gg (gIs 2 za1 zh15) <|
  gc (f_X2_floorsBetween N za1 zt2 za5 zh15) fun zt17 zh16 =>
  gg (gIs 7 za0 zh16) <|
  gb (f_X7_setFact N za0 10005 zt17 zh16) fun zh18 =>
  gb (gfR 2 6 za1 zh18) fun zt19 =>
  gb (arI 0 zt19 za5 zh18) fun zt20 =>
  gg (gIs 7 za0 zh18) <|
  gb (f_X7_setFact N za0 10006 zt20 zh18) fun zh21 =>
  gb (gfR 1 2 za3 zh21) fun zt22 =>
  gb (arI 0 zt22 za4 zh21) fun zt23 =>
  gg (gIs 7 za0 zh21) <|
  gb (f_X7_setFact N za0 10007 zt23 zh21) fun zh24 =>
  gb (pfV 7 1 za0 (.int 0) zh24) fun zh25 =>
  gb (gfR 2 10 za1 zh25) fun zt26 =>
  gb (arI 0 zt26 za2 zh25) fun zt27 =>
  gi (fun zk zs => f_X7_value_129 N zk zs.1 zs.2.1 zs.2.2.1 zs.2.2.2.1 zs.2.2.2.2) N (za0, za1, za2, zt27, zh25)
def f_X1_nextFor_63 (N : Nat) (zk11 : (Nat × Nat × Int32 × Int32 × Nat × Int32 × Int32 × Int32 × PH) → Option (Int32 × PH)) (zv0 : Nat) (zv1 : Nat) (zv2 : Int32) (zv3 : Int32) (zv4 : Nat) (zv5 : Int32) (zv6 : Int32) (zv7 : Int32) (zh : PH) : Option (Int32 × PH) :=
  gl (zv7 + 1) fun (zx1 : Int32) =>
  zk11 (zv0, zv1, zv2, zv3, zv4, zv5, zv6, zx1, zh)
def f_X1_nextFor_11 (N : Nat) (zk11 : (Nat × Nat × Int32 × Int32 × Nat × Int32 × Int32 × Int32 × PH) → Option (Int32 × PH)) (zv0 : Nat) (zv1 : Nat) (zv2 : Int32) (zv3 : Int32) (zv4 : Nat) (zv5 : Int32) (zv6 : Int32) (zv7 : Int32) (zh : PH) : Option (Int32 × PH) :=
  gb (gfI 2 0 zv1 zh) fun zt1 =>
  if (zt1 : Int32) ≤ zv7 then (
  some (zv5, zh))
  else (
  gb (gfR 1 0 zv0 zh) fun zt3 =>
  gb (arI 0 zt3 zv7 zh) fun zt4 =>
  if (zt4 : Int32) = (-1) then (
  f_X1_nextFor_63 N zk11 zv0 zv1 zv2 zv3 zv4 zv5 zv6 zv7 zh)
  else (
  gg (gIs 7 zv4 zh) <|
  gc (f_X7_value N zv4 zv1 zv3 zv0 zt4 zv2 zh) fun zt7 zh6 =>
  if (zt7 : Int32) ≤ zv6 then (
  f_X1_nextFor_63 N zk11 zv0 zv1 zv2 zv3 zv4 zv5 zv6 zv7 zh6)
  else (
  f_X1_nextFor_63 N zk11 zv0 zv1 zv2 zv3 zv4 zt4 zt7 zv7 zh6)))
def f_X1_nextFor (N : Nat) (za0 : Nat) (za1 : Nat) (za2 : Int32) (za3 : Int32) (za4 : Nat) (zh : PH) : Option (Int32 × PH) :=
  gl ((za2 + 1)) fun (zx1 : Int32) =>
  gi (fun zk zs => f_X1_nextFor_11 N zk zs.1 zs.2.1 zs.2.2.1 zs.2.2.2.1 zs.2.2.2.2.1 zs.2.2.2.2.2.1 zs.2.2.2.2.2.2.1 zs.2.2.2.2.2.2.2.1 zs.2.2.2.2.2.2.2.2) N (za0, za1, za2, za3, za4, (-1), 0, zx1, zh)
def f_X1_letOut_36 (N : Nat) (zk36 : (Nat × Nat × Int32 × Nat × (Option Nat) × Int32 × Int32 × PH) → Option PH) (zv0 : Nat) (zv1 : Nat) (zv3 : Int32) (zv4 : Nat) (zv5 : (Option Nat)) (zv6 : Int32) (zv7 : Int32) (zh : PH) : Option PH :=
  gb (gfI 2 0 zv1 zh) fun zt1 =>
  if (zt1 : Int32) ≤ zv7 then (
  some zh)
  else (
  gg (gIs 1 zv0 zh) <|
  gc (f_X1_nextFor N zv0 zv1 zv6 zv3 zv4 zh) fun zt4 zh3 =>
  if (zt4 : Int32) = (-1) then (
  some zh3)
  else (
  gb (gfR 1 1 zv0 zh3) fun zt6 =>
  gb (arI 0 zt6 zt4 zh3) fun zt7 =>
  gg (gIs 1 zv0 zh3) <|
  gb (f_X1_go N zv0 zv1 zt4 zv6 zv5 zh3) fun zh8 =>
  gl (zv7 + 1) fun (zx9 : Int32) =>
  zk36 (zv0, zv1, zv3, zv4, zv5, zt7, zx9, zh8)))
def f_X1_letOut (N : Nat) (za0 : Nat) (za1 : Nat) (za2 : Int32) (za3 : Int32) (za4 : Nat) (za5 : (Option Nat)) (zh : PH) : Option PH :=
  gb (gfR 1 1 za0 zh) fun zt1 =>
  gb (arI 0 zt1 za2 zh) fun zt2 =>
  gg (gIs 1 za0 zh) <|
  gb (f_X1_go N za0 za1 za2 (-1) za5 zh) fun zh3 =>
  gb (gfI 1 8 za0 zh3) fun zt4 =>
  gb (pfV 1 8 za0 (.int (zt4 - 1)) zh3) fun zh5 =>
  if (za3 : Int32) = (-1) then (
  some zh5)
  else (
  gi (fun zk zs => f_X1_letOut_36 N zk zs.1 zs.2.1 zs.2.2.1 zs.2.2.2.1 zs.2.2.2.2.1 zs.2.2.2.2.2.1 zs.2.2.2.2.2.2.1 zs.2.2.2.2.2.2.2) N (za0, za1, za3, za4, za5, zt2, 0, zh5))
def f_X1_spreadOfMoves_60 (N : Nat) (zk6 : (Nat × Int32 × Int32 × Int32 × PH) → Option (Int32 × PH)) (zv0 : Nat) (zv1 : Int32) (zv2 : Int32) (zv3 : Int32) (zh : PH) : Option (Int32 × PH) :=
  gl (zv3 + 1) fun (zx1 : Int32) =>
  zk6 (zv0, zv1, zv2, zx1, zh)
def f_X1_spreadOfMoves_59 (N : Nat) (zk6 : (Nat × Int32 × Int32 × Int32 × PH) → Option (Int32 × PH)) (zv0 : Nat) (zv1 : Int32) (zv3 : Int32) (zs0 : Int32) (zh : PH) : Option (Int32 × PH) :=
  f_X1_spreadOfMoves_60 N zk6 zv0 zv1 zs0 zv3 zh
def f_X1_spreadOfMoves_6 (N : Nat) (zk6 : (Nat × Int32 × Int32 × Int32 × PH) → Option (Int32 × PH)) (zv0 : Nat) (zv1 : Int32) (zv2 : Int32) (zv3 : Int32) (zh : PH) : Option (Int32 × PH) :=
  if (10 : Int32) ≤ zv3 then (
  some ((zv1 - zv2), zh))
  else (
  gb (gfI 1 9 zv0 zh) fun zt2 =>
  gc (f_X11_bitOf N zt2 zv3 zh) fun zt4 zh3 =>
  if (zt4 : Int32) = 1 then (
  gb (gfR 1 2 zv0 zh3) fun zt6 =>
  gb (arI 0 zt6 zv3 zh3) fun zt7 =>
  gl ((gmax zv1 zt7)) fun (zx8 : Int32) =>
  if (zv2 : Int32) = (-1) then (
  gb (gfR 1 2 zv0 zh3) fun zt12 =>
  gb (arI 0 zt12 zv3 zh3) fun zt13 =>
  f_X1_spreadOfMoves_59 N zk6 zv0 zx8 zv3 zt13 zh3)
  else (
  gb (gfR 1 2 zv0 zh3) fun zt10 =>
  gb (arI 0 zt10 zv3 zh3) fun zt11 =>
  f_X1_spreadOfMoves_59 N zk6 zv0 zx8 zv3 (gmin zv2 zt11) zh3))
  else (
  f_X1_spreadOfMoves_60 N zk6 zv0 zv1 zv2 zv3 zh3))
def f_X1_spreadOfMoves (N : Nat) (za0 : Nat) (zh : PH) : Option (Int32 × PH) :=
  gi (fun zk zs => f_X1_spreadOfMoves_6 N zk zs.1 zs.2.1 zs.2.2.1 zs.2.2.2.1 zs.2.2.2.2) N (za0, (-1), (-1), 0, zh)
def f_X1_isBetterThan_38 (N : Nat) (zs0 : Int32) (zh : PH) : Option (Int32 × PH) :=
  gg (gzb zs0) (some (zs0, zh))
def f_X1_isBetterThan_37 (N : Nat) (zh : PH) : Option (Int32 × PH) :=
  f_X1_isBetterThan_38 N 0 zh
def f_X1_isBetterThan_33 (N : Nat) (zh : PH) : Option (Int32 × PH) :=
  f_X1_isBetterThan_38 N 1 zh
def f_X1_isBetterThan (N : Nat) (za0 : Nat) (za1 : Nat) (zh : PH) : Option (Int32 × PH) :=
  gb (gfI 1 4 za0 zh) fun zt1 =>
  gb (gfI 1 4 za1 zh) fun zt2 =>
  if (zt1 : Int32) < zt2 then (
  f_X1_isBetterThan_33 N  zh)
  else (
  gb (gfI 1 4 za0 zh) fun zt4 =>
  gb (gfI 1 4 za1 zh) fun zt5 =>
  if (zt4 : Int32) = zt5 then (
  gb (gfI 1 5 za0 zh) fun zt7 =>
  gb (gfI 1 5 za1 zh) fun zt8 =>
  if (zt8 : Int32) ≤ zt7 then (
  f_X1_isBetterThan_37 N  zh)
  else (
  f_X1_isBetterThan_33 N  zh))
  else (
  f_X1_isBetterThan_37 N  zh))
def f_X2_init (N : Nat) (za0 : Nat) (zh : PH) : Option PH :=
  gc (nwA 0 10 zh) fun zr2 zh1 =>
  gb (pfV 2 5 za0 (.ref zr2) zh1) fun zh3 =>
  gc (nwA 0 10 zh3) fun zr5 zh4 =>
  gb (pfV 2 6 za0 (.ref zr5) zh4) fun zh6 =>
  gc (nwA 0 10 zh6) fun zr8 zh7 =>
  gb (pfV 2 7 za0 (.ref zr8) zh7) fun zh9 =>
  gc (nwA 1 10 zh9) fun zr11 zh10 =>
  gb (pfV 2 8 za0 (.ref zr11) zh10) fun zh12 =>
  gc (nwA 0 1000 zh12) fun zr14 zh13 =>
  gb (pfV 2 9 za0 (.ref zr14) zh13) fun zh15 =>
  gc (nwA 0 5 zh15) fun zr17 zh16 =>
  gb (pfV 2 10 za0 (.ref zr17) zh16) fun zh18 =>
  some zh18
def f_X2_forget (N : Nat) (za0 : Nat) (zh : PH) : Option PH :=
  gb (pfV 2 0 za0 (.int 0) zh) fun zh1 =>
  gb (pfV 2 1 za0 (.int 0) zh1) fun zh2 =>
  gb (pfV 2 2 za0 (.int 0) zh2) fun zh3 =>
  gb (pfV 2 3 za0 (.int 0) zh3) fun zh4 =>
  gb (pfV 2 4 za0 (.int 0) zh4) fun zh5 =>
  gb (pfV 2 11 za0 (.int 0) zh5) fun zh6 =>
  some zh6
def f_X2_addRoom_39 (N : Nat) (zh : PH) : Option PH :=
  some zh
def f_X2_addRoom (N : Nat) (za0 : Nat) (za1 : Int32) (za2 : Int32) (zh : PH) : Option PH :=
  gb (gfI 2 0 za0 zh) fun zt1 =>
  if (10 : Int32) ≤ zt1 then (
  f_X2_addRoom_39 N  zh)
  else (
  gb (gfR 2 5 za0 zh) fun zt3 =>
  gb (gfI 2 0 za0 zh) fun zt4 =>
  gb (asI 0 zt3 zt4 za1 zh) fun zh5 =>
  gb (gfR 2 6 za0 zh5) fun zt6 =>
  gb (gfI 2 0 za0 zh5) fun zt7 =>
  gb (asI 0 zt6 zt7 za2 zh5) fun zh8 =>
  gb (gfI 2 0 za0 zh8) fun zt9 =>
  gb (pfV 2 0 za0 (.int (zt9 + 1)) zh8) fun zh10 =>
  f_X2_addRoom_39 N  zh10)
def f_X2_addGuest_87 (N : Nat) (zh : PH) : Option PH :=
  some zh
def f_X2_addGuest_73 (N : Nat) (zv0 : Nat) (zs0 : Int32) (zs1 : Int32) (zs2 : Nat) (zh : PH) : Option PH :=
  gb (pfV 2 4 zs2 (.int (zs1 ||| zs0)) zh) fun zh1 =>
  gb (gfI 2 1 zv0 zh1) fun zt2 =>
  gb (pfV 2 1 zv0 (.int (zt2 + 1)) zh1) fun zh3 =>
  f_X2_addGuest_87 N  zh3
def f_X2_addGuest_49 (N : Nat) (zv0 : Nat) (zv5 : Int32) (zs0 : Int32) (zs1 : Int32) (zs2 : Nat) (zh : PH) : Option PH :=
  gb (pfV 2 3 zs2 (.int (zs1 ||| zs0)) zh) fun zh1 =>
  gb (gfI 2 4 zv0 zh1) fun zt2 =>
  if (zv5 : Int32) = 0 then (
  f_X2_addGuest_73 N zv0 0 zt2 zv0 zh1)
  else (
  gb (gfI 2 1 zv0 zh1) fun zt4 =>
  f_X2_addGuest_73 N zv0 (1 <<< (zt4 &&& 31)) zt2 zv0 zh1)
def f_X2_addGuest (N : Nat) (za0 : Nat) (za1 : Int64) (za3 : Int32) (za4 : Int32) (za5 : Int32) (zh : PH) : Option PH :=
  gb (gfI 2 1 za0 zh) fun zt1 =>
  if (10 : Int32) ≤ zt1 then (
  f_X2_addGuest_87 N  zh)
  else (
  gb (gfR 2 8 za0 zh) fun zt3 =>
  gb (gfI 2 1 za0 zh) fun zt4 =>
  gb (asL 1 zt3 zt4 za1 zh) fun zh5 =>
  gb (gfR 2 7 za0 zh5) fun zt6 =>
  gb (gfI 2 1 za0 zh5) fun zt7 =>
  gb (asI 0 zt6 zt7 za3 zh5) fun zh8 =>
  gb (gfI 2 3 za0 zh8) fun zt9 =>
  if (za4 : Int32) = 0 then (
  f_X2_addGuest_49 N za0 za5 0 zt9 za0 zh8)
  else (
  gb (gfI 2 1 za0 zh8) fun zt11 =>
  f_X2_addGuest_49 N za0 za5 (1 <<< (zt11 &&& 31)) zt9 za0 zh8))
def f_X2_hasName_2 (N : Nat) (zk2 : (Nat × Int64 × Int32 × PH) → Option (Int32 × PH)) (zv0 : Nat) (zv1 : Int64) (zv3 : Int32) (zh : PH) : Option (Int32 × PH) :=
  gb (gfI 2 1 zv0 zh) fun zt1 =>
  if (zt1 : Int32) ≤ zv3 then (
  gg (gzb 0) (some (0, zh)))
  else (
  gb (gfR 2 8 zv0 zh) fun zt3 =>
  gb (arL 1 zt3 zv3 zh) fun zt4 =>
  if ((lg_cmp zt4 zv1) : Int32) = 0 then (
  gg (gzb 1) (some (1, zh)))
  else (
  gl (zv3 + 1) fun (zx6 : Int32) =>
  zk2 (zv0, zv1, zx6, zh)))
def f_X2_hasName (N : Nat) (za0 : Nat) (za1 : Int64) (zh : PH) : Option (Int32 × PH) :=
  gi (fun zk zs => f_X2_hasName_2 N zk zs.1 zs.2.1 zs.2.2.1 zs.2.2.2) N (za0, za1, 0, zh)
def f_X2_addCode_32 (N : Nat) (zh : PH) : Option PH :=
  some zh
def f_X2_addCode (N : Nat) (za0 : Nat) (za1 : Int32) (zh : PH) : Option PH :=
  gb (gfI 2 11 za0 zh) fun zt1 =>
  gb (gfR 2 9 za0 zh) fun zt2 =>
  gb (alen 0 zt2 zh) fun zt3 =>
  if (zt3 : Int32) ≤ zt1 then (
  f_X2_addCode_32 N  zh)
  else (
  gb (gfR 2 9 za0 zh) fun zt5 =>
  gb (gfI 2 11 za0 zh) fun zt6 =>
  gb (asI 0 zt5 zt6 za1 zh) fun zh7 =>
  gb (gfI 2 11 za0 zh7) fun zt8 =>
  gb (pfV 2 11 za0 (.int (zt8 + 1)) zh7) fun zh9 =>
  f_X2_addCode_32 N  zh9)
def f_X2_endRule_31 (N : Nat) (zh : PH) : Option PH :=
  some zh
def f_X2_endRule (N : Nat) (za0 : Nat) (zh : PH) : Option PH :=
  gb (gfI 2 2 za0 zh) fun zt1 =>
  if (4 : Int32) ≤ zt1 then (
  f_X2_endRule_31 N  zh)
  else (
  gb (gfI 2 2 za0 zh) fun zt3 =>
  gb (pfV 2 2 za0 (.int (zt3 + 1)) zh) fun zh4 =>
  gb (gfR 2 10 za0 zh4) fun zt5 =>
  gb (gfI 2 2 za0 zh4) fun zt6 =>
  gb (gfI 2 11 za0 zh4) fun zt7 =>
  gb (asI 0 zt5 zt6 zt7 zh4) fun zh8 =>
  f_X2_endRule_31 N  zh8)
def f_X2_walkBetween (N : Nat) (za0 : Nat) (za1 : Int32) (za2 : Int32) (zh : PH) : Option (Int32 × PH) :=
  gg (gIs 2 za0 zh) <|
  gc (f_X2_floorsBetween N za0 za1 za2 zh) fun zt2 zh1 =>
  some (((gabs (za1 - za2)) + (2 * zt2)), zh1)
def f_X3_init (N : Nat) (za0 : Nat) (za1 : Nat) (zh : PH) : Option PH :=
  gb (pfV 3 0 za0 (.ref za1) zh) fun zh1 =>
  some zh1
def f_X10_isBlank_17 (N : Nat) (zs0 : Int32) (zh : PH) : Option (Int32 × PH) :=
  gg (gzb zs0) (some (zs0, zh))
def f_X10_isBlank_12 (N : Nat) (zh : PH) : Option (Int32 × PH) :=
  f_X10_isBlank_17 N 1 zh
def f_X10_isBlank (N : Nat) (za0 : Int32) (zh : PH) : Option (Int32 × PH) :=
  if (za0 : Int32) = 10 then (
  f_X10_isBlank_12 N  zh)
  else (
  if (za0 : Int32) = 32 then (
  f_X10_isBlank_12 N  zh)
  else (
  f_X10_isBlank_17 N 0 zh))
def f_X10_isDigit_17 (N : Nat) (zs0 : Int32) (zh : PH) : Option (Int32 × PH) :=
  gg (gzb zs0) (some (zs0, zh))
def f_X10_isDigit_16 (N : Nat) (zh : PH) : Option (Int32 × PH) :=
  f_X10_isDigit_17 N 0 zh
def f_X10_isDigit (N : Nat) (za0 : Int32) (zh : PH) : Option (Int32 × PH) :=
  if (za0 : Int32) < 48 then (
  f_X10_isDigit_16 N  zh)
  else (
  if (57 : Int32) < za0 then (
  f_X10_isDigit_16 N  zh)
  else (
  f_X10_isDigit_17 N 1 zh))
def f_X10_isLetter_17 (N : Nat) (zs0 : Int32) (zh : PH) : Option (Int32 × PH) :=
  gg (gzb zs0) (some (zs0, zh))
def f_X10_isLetter_16 (N : Nat) (zh : PH) : Option (Int32 × PH) :=
  f_X10_isLetter_17 N 0 zh
def f_X10_isLetter (N : Nat) (za0 : Int32) (zh : PH) : Option (Int32 × PH) :=
  if (za0 : Int32) < 97 then (
  f_X10_isLetter_16 N  zh)
  else (
  if (122 : Int32) < za0 then (
  f_X10_isLetter_16 N  zh)
  else (
  f_X10_isLetter_17 N 1 zh))
def f_X10_ownKind_106 (N : Nat) (zh : PH) : Option (Int32 × PH) :=
  some (3, zh)
def f_X10_ownKind_104 (N : Nat) (zv0 : Int32) (zh : PH) : Option (Int32 × PH) :=
  some (zv0, zh)
def f_X10_ownKind (N : Nat) (za0 : Int32) (zh : PH) : Option (Int32 × PH) :=
  if (za0 : Int32) = 40 then (
  f_X10_ownKind_104 N za0 zh)
  else (
  if (za0 : Int32) = 41 then (
  f_X10_ownKind_104 N za0 zh)
  else (
  if (za0 : Int32) = 42 then (
  f_X10_ownKind_104 N za0 zh)
  else (
  if (za0 : Int32) = 43 then (
  f_X10_ownKind_104 N za0 zh)
  else (
  if (za0 : Int32) = 44 then (
  f_X10_ownKind_106 N  zh)
  else (
  if (za0 : Int32) = 45 then (
  f_X10_ownKind_104 N za0 zh)
  else (
  if (za0 : Int32) = 46 then (
  f_X10_ownKind_106 N  zh)
  else (
  if (za0 : Int32) = 47 then (
  f_X10_ownKind_106 N  zh)
  else (
  if (za0 : Int32) = 48 then (
  f_X10_ownKind_106 N  zh)
  else (
  if (za0 : Int32) = 49 then (
  f_X10_ownKind_106 N  zh)
  else (
  if (za0 : Int32) = 50 then (
  f_X10_ownKind_106 N  zh)
  else (
  if (za0 : Int32) = 51 then (
  f_X10_ownKind_106 N  zh)
  else (
  if (za0 : Int32) = 52 then (
  f_X10_ownKind_106 N  zh)
  else (
  if (za0 : Int32) = 53 then (
  f_X10_ownKind_106 N  zh)
  else (
  if (za0 : Int32) = 54 then (
  f_X10_ownKind_106 N  zh)
  else (
  if (za0 : Int32) = 55 then (
  f_X10_ownKind_106 N  zh)
  else (
  if (za0 : Int32) = 56 then (
  f_X10_ownKind_106 N  zh)
  else (
  if (za0 : Int32) = 57 then (
  f_X10_ownKind_106 N  zh)
  else (
  if (za0 : Int32) = 58 then (
  f_X10_ownKind_106 N  zh)
  else (
  if (za0 : Int32) = 59 then (
  f_X10_ownKind_104 N za0 zh)
  else (
  if (za0 : Int32) = 60 then (
  f_X10_ownKind_104 N za0 zh)
  else (
  if (za0 : Int32) = 61 then (
  f_X10_ownKind_104 N za0 zh)
  else (
  f_X10_ownKind_106 N  zh))))))))))))))))))))))
def f_X10_advance_284 (N : Nat) (zv0 : Nat) (zs0 : Int32) (zs1 : Nat) (zh : PH) : Option PH :=
  gb (pfV 10 2 zs1 (.int zs0) zh) fun zh1 =>
  gb (gfI 10 6 zv0 zh1) fun zt2 =>
  gb (gfI 10 1 zv0 zh1) fun zt3 =>
  gb (pfV 10 6 zv0 (.int (gmin (zt2 + 1) zt3)) zh1) fun zh4 =>
  some zh4
def f_X10_advance_252 (N : Nat) (zs0 : Int32) (zs1 : Nat) (zh : PH) : Option PH :=
  gb (pfV 10 2 zs1 (.int zs0) zh) fun zh1 =>
  some zh1
def f_X10_advance_222 (N : Nat) (zv0 : Nat) (zh : PH) : Option PH :=
  gb (gfI 10 6 zv0 zh) fun zt1 =>
  gb (gfI 10 3 zv0 zh) fun zt2 =>
  if (zt1 : Int32) ≤ zt2 then (
  gb (gfI 10 6 zv0 zh) fun zt4 =>
  gb (gfI 10 1 zv0 zh) fun zt5 =>
  if (zt5 : Int32) ≤ zt4 then (
  f_X10_advance_284 N zv0 0 zv0 zh)
  else (
  gb (gfR 10 0 zv0 zh) fun zt7 =>
  gb (gfI 10 6 zv0 zh) fun zt8 =>
  gb (arI 2 zt7 zt8 zh) fun zt9 =>
  gc (f_X10_ownKind N zt9 zh) fun zt11 zh10 =>
  f_X10_advance_284 N zv0 zt11 zv0 zh10))
  else (
  gb (gfI 10 6 zv0 zh) fun zt12 =>
  gb (gfI 10 3 zv0 zh) fun zt13 =>
  if (4 : Int32) < (zt12 - zt13) then (
  f_X10_advance_252 N 3 zv0 zh)
  else (
  f_X10_advance_252 N 2 zv0 zh))
def f_X10_advance_159 (N : Nat) (zk159 : (Nat × PH) → Option PH) (zv0 : Nat) (zh : PH) : Option PH :=
  gb (gfI 10 6 zv0 zh) fun zt1 =>
  gb (gfI 10 1 zv0 zh) fun zt2 =>
  if (zt2 : Int32) ≤ zt1 then (
  f_X10_advance_222 N zv0 zh)
  else (
  gb (gfR 10 0 zv0 zh) fun zt4 =>
  gb (gfI 10 6 zv0 zh) fun zt5 =>
  gb (arI 2 zt4 zt5 zh) fun zt6 =>
  gc (f_X10_isDigit N zt6 zh) fun zt8 zh7 =>
  if (zt8 : Int32) = 0 then (
  f_X10_advance_222 N zv0 zh7)
  else (
  gb (gfI 10 4 zv0 zh7) fun zt10 =>
  gb (gfR 10 0 zv0 zh7) fun zt11 =>
  gb (gfI 10 6 zv0 zh7) fun zt12 =>
  gb (arI 2 zt11 zt12 zh7) fun zt13 =>
  gb (pfV 10 4 zv0 (.int ((zt10 * 10) + (zt13 - 48))) zh7) fun zh14 =>
  gb (gfI 10 6 zv0 zh14) fun zt15 =>
  gb (pfV 10 6 zv0 (.int (zt15 + 1)) zh14) fun zh16 =>
  zk159 (zv0, zh16)))
def f_X10_advance_150 (N : Nat) (zs0 : Int32) (zs1 : Nat) (zh : PH) : Option PH :=
  gb (pfV 10 2 zs1 (.int zs0) zh) fun zh1 =>
  some zh1
def f_X10_advance_119 (N : Nat) (zv0 : Nat) (zh : PH) : Option PH :=
  gb (gfI 10 6 zv0 zh) fun zt1 =>
  gb (gfI 10 3 zv0 zh) fun zt2 =>
  if (zt1 : Int32) ≤ zt2 then (
  gb (pfV 10 4 zv0 (.int 0) zh) fun zh4 =>
  gi (fun zk zs => f_X10_advance_159 N zk zs.1 zs.2) N (zv0, zh4))
  else (
  gb (gfI 10 6 zv0 zh) fun zt5 =>
  gb (gfI 10 3 zv0 zh) fun zt6 =>
  if (8 : Int32) < (zt5 - zt6) then (
  f_X10_advance_150 N 3 zv0 zh)
  else (
  f_X10_advance_150 N 1 zv0 zh))
def f_X10_advance_52 (N : Nat) (zk52 : (Nat × PH) → Option PH) (zv0 : Nat) (zh : PH) : Option PH :=
  gb (gfI 10 6 zv0 zh) fun zt1 =>
  gb (gfI 10 1 zv0 zh) fun zt2 =>
  if (zt2 : Int32) ≤ zt1 then (
  f_X10_advance_119 N zv0 zh)
  else (
  gb (gfR 10 0 zv0 zh) fun zt4 =>
  gb (gfI 10 6 zv0 zh) fun zt5 =>
  gb (arI 2 zt4 zt5 zh) fun zt6 =>
  gc (f_X10_isLetter N zt6 zh) fun zt8 zh7 =>
  if (zt8 : Int32) = 0 then (
  f_X10_advance_119 N zv0 zh7)
  else (
  gb (gfL 10 5 zv0 zh7) fun zt10 =>
  gb (gfR 10 0 zv0 zh7) fun zt11 =>
  gb (gfI 10 6 zv0 zh7) fun zt12 =>
  gb (arI 2 zt11 zt12 zh7) fun zt13 =>
  gb (pfV 10 5 zv0 (.long ((zt10 * 32) + (Int32.toInt64 ((zt13 - 97) + 1)))) zh7) fun zh14 =>
  gb (gfI 10 6 zv0 zh14) fun zt15 =>
  gb (pfV 10 6 zv0 (.int (zt15 + 1)) zh14) fun zh16 =>
  zk52 (zv0, zh16)))
def f_X10_advance_39 (N : Nat) (zv0 : Nat) (zh : PH) : Option PH :=
  gb (gfI 10 6 zv0 zh) fun zt1 =>
  gb (pfV 10 3 zv0 (.int zt1) zh) fun zh2 =>
  gb (pfV 10 5 zv0 (.long 0) zh2) fun zh3 =>
  gi (fun zk zs => f_X10_advance_52 N zk zs.1 zs.2) N (zv0, zh3)
def f_X10_advance_0 (N : Nat) (zk0 : (Nat × PH) → Option PH) (zv0 : Nat) (zh : PH) : Option PH :=
  gb (gfI 10 6 zv0 zh) fun zt1 =>
  gb (gfI 10 1 zv0 zh) fun zt2 =>
  if (zt2 : Int32) ≤ zt1 then (
  f_X10_advance_39 N zv0 zh)
  else (
  gb (gfR 10 0 zv0 zh) fun zt4 =>
  gb (gfI 10 6 zv0 zh) fun zt5 =>
  gb (arI 2 zt4 zt5 zh) fun zt6 =>
  gc (f_X10_isBlank N zt6 zh) fun zt8 zh7 =>
  if (zt8 : Int32) = 0 then (
  f_X10_advance_39 N zv0 zh7)
  else (
  gb (gfI 10 6 zv0 zh7) fun zt10 =>
  gb (pfV 10 6 zv0 (.int (zt10 + 1)) zh7) fun zh11 =>
  zk0 (zv0, zh11)))
def f_X10_advance (N : Nat) (za0 : Nat) (zh : PH) : Option PH :=
  gi (fun zk zs => f_X10_advance_0 N zk zs.1 zs.2) N (za0, zh)
def f_X10_goToFirstToken (N : Nat) (za0 : Nat) (zh : PH) : Option PH :=
  gb (pfV 10 6 za0 (.int 0) zh) fun zh1 =>
  gg (gIs 10 za0 zh1) <|
  gb (f_X10_advance N za0 zh1) fun zh2 =>
  some zh2
def f_X10_isWord_30 (N : Nat) (zk30 : (Nat × Nat × Int32 × Int32 × PH) → Option (Int32 × PH)) (zv0 : Nat) (zv1 : Nat) (zv2 : Int32) (zv3 : Int32) (zh : PH) : Option (Int32 × PH) :=
  if (zv2 : Int32) ≤ zv3 then (
  gg (gzb 1) (some (1, zh)))
  else (
  gb (gfR 10 0 zv0 zh) fun zt2 =>
  gb (gfI 10 3 zv0 zh) fun zt3 =>
  gb (arI 2 zt2 (zt3 + zv3) zh) fun zt4 =>
  gb (schr zv1 zv3) fun zt5 =>
  if (zt4 : Int32) = zt5 then (
  gl (zv3 + 1) fun (zx7 : Int32) =>
  zk30 (zv0, zv1, zv2, zx7, zh))
  else (
  gg (gzb 0) (some (0, zh))))
def f_X10_isWord_26 (N : Nat) (zh : PH) : Option (Int32 × PH) :=
  gg (gzb 0) (some (0, zh))
def f_X10_isWord (N : Nat) (za0 : Nat) (za1 : Nat) (zh : PH) : Option (Int32 × PH) :=
  gb (gfI 10 6 za0 zh) fun zt1 =>
  gb (gfI 10 3 za0 zh) fun zt2 =>
  gl ((zt1 - zt2)) fun (zx3 : Int32) =>
  gb (gfI 10 2 za0 zh) fun zt4 =>
  if (zt4 : Int32) = 1 then (
  gb (slen za1) fun zt6 =>
  if (zt6 : Int32) = zx3 then (
  gi (fun zk zs => f_X10_isWord_30 N zk zs.1 zs.2.1 zs.2.2.1 zs.2.2.2.1 zs.2.2.2.2) N (za0, za1, zx3, 0, zh))
  else (
  f_X10_isWord_26 N  zh))
  else (
  f_X10_isWord_26 N  zh)
def f_X3_isWrong (N : Nat) (za0 : Nat) (za1 : Int32) (zh : PH) : Option (Int32 × PH) :=
  gb (gfR 3 0 za0 zh) fun zt1 =>
  gb (gfI 10 3 zt1 zh) fun zt2 =>
  gb (pfV 3 2 za0 (.int (za1 + (16 * zt2))) zh) fun zh3 =>
  gg (gzb 0) (some (0, zh3))
def f_X3_isKept_113 (N : Nat) (zs0 : Int32) (zh : PH) : Option (Int32 × PH) :=
  gg (gzb zs0) (some (zs0, zh))
def f_X3_isKept_108 (N : Nat) (zh : PH) : Option (Int32 × PH) :=
  f_X3_isKept_113 N 1 zh
def f_X3_isKept (N : Nat) (za0 : Nat) (zh : PH) : Option (Int32 × PH) :=
  gb (gfR 3 0 za0 zh) fun zt1 =>
  gg (gIs 10 zt1 zh) <|
  gc (f_X10_isWord N zt1 0 zh) fun zt3 zh2 =>
  if (zt3 : Int32) = 0 then (
  gb (gfR 3 0 za0 zh2) fun zt5 =>
  gg (gIs 10 zt5 zh2) <|
  gc (f_X10_isWord N zt5 1 zh2) fun zt7 zh6 =>
  if (zt7 : Int32) = 0 then (
  gb (gfR 3 0 za0 zh6) fun zt9 =>
  gg (gIs 10 zt9 zh6) <|
  gc (f_X10_isWord N zt9 2 zh6) fun zt11 zh10 =>
  if (zt11 : Int32) = 0 then (
  gb (gfR 3 0 za0 zh10) fun zt13 =>
  gg (gIs 10 zt13 zh10) <|
  gc (f_X10_isWord N zt13 3 zh10) fun zt15 zh14 =>
  if (zt15 : Int32) = 0 then (
  gb (gfR 3 0 za0 zh14) fun zt17 =>
  gg (gIs 10 zt17 zh14) <|
  gc (f_X10_isWord N zt17 4 zh14) fun zt19 zh18 =>
  if (zt19 : Int32) = 0 then (
  gb (gfR 3 0 za0 zh18) fun zt21 =>
  gg (gIs 10 zt21 zh18) <|
  gc (f_X10_isWord N zt21 5 zh18) fun zt23 zh22 =>
  if (zt23 : Int32) = 0 then (
  gb (gfR 3 0 za0 zh22) fun zt25 =>
  gg (gIs 10 zt25 zh22) <|
  gc (f_X10_isWord N zt25 6 zh22) fun zt27 zh26 =>
  if (zt27 : Int32) = 0 then (
  gb (gfR 3 0 za0 zh26) fun zt29 =>
  gg (gIs 10 zt29 zh26) <|
  gc (f_X10_isWord N zt29 7 zh26) fun zt31 zh30 =>
  if (zt31 : Int32) = 0 then (
  gb (gfR 3 0 za0 zh30) fun zt33 =>
  gg (gIs 10 zt33 zh30) <|
  gc (f_X10_isWord N zt33 8 zh30) fun zt35 zh34 =>
  if (zt35 : Int32) = 0 then (
  f_X3_isKept_113 N 0 zh34)
  else (
  f_X3_isKept_108 N  zh34))
  else (
  f_X3_isKept_108 N  zh30))
  else (
  f_X3_isKept_108 N  zh26))
  else (
  f_X3_isKept_108 N  zh22))
  else (
  f_X3_isKept_108 N  zh18))
  else (
  f_X3_isKept_108 N  zh14))
  else (
  f_X3_isKept_108 N  zh10))
  else (
  f_X3_isKept_108 N  zh6))
  else (
  f_X3_isKept_108 N  zh2)
def f_X3_readExtras_105 (N : Nat) (zv0 : Nat) (zv1 : Int64) (zv3 : Int32) (zv4 : Int32) (zv5 : Int32) (zh : PH) : Option (Int32 × PH) :=
  gb (gfR 3 1 zv0 zh) fun zt1 =>
  gg (gIs 2 zt1 zh) <|
  gb (f_X2_addGuest N zt1 zv1 zv3 zv4 zv5 zh) fun zh2 =>
  gg (gzb 1) (some (1, zh2))
def f_X3_readExtras_89 (N : Nat) (zk9 : (Nat × Int64 × Int32 × Int32 × Int32 × Int32 × PH) → Option (Int32 × PH)) (zv0 : Nat) (zv1 : Int64) (zv3 : Int32) (zv4 : Int32) (zv6 : Int32) (zs0 : Int32) (zs1 : Int32) (zh : PH) : Option (Int32 × PH) :=
  gl ((zs1 ||| zs0)) fun (zx1 : Int32) =>
  gb (gfR 3 0 zv0 zh) fun zt2 =>
  gg (gIs 10 zt2 zh) <|
  gb (f_X10_advance N zt2 zh) fun zh3 =>
  gl (zv6 + 1) fun (zx4 : Int32) =>
  zk9 (zv0, zv1, zv3, zv4, zx1, zx4, zh3)
def f_X3_readExtras_70 (N : Nat) (zk9 : (Nat × Int64 × Int32 × Int32 × Int32 × Int32 × PH) → Option (Int32 × PH)) (zv0 : Nat) (zv1 : Int64) (zv3 : Int32) (zv4 : Int32) (zv5 : Int32) (zv6 : Int32) (zv7 : Int32) (zh : PH) : Option (Int32 × PH) :=
  gl ((zv4 ||| zv7)) fun (zx1 : Int32) =>
  if (zv7 : Int32) = 0 then (
  f_X3_readExtras_89 N zk9 zv0 zv1 zv3 zx1 zv6 1 zv5 zh)
  else (
  f_X3_readExtras_89 N zk9 zv0 zv1 zv3 zx1 zv6 0 zv5 zh)
def f_X3_readExtras_64 (N : Nat) (zv0 : Nat) (zh : PH) : Option (Int32 × PH) :=
  gg (gIs 3 zv0 zh) <|
  gc (f_X3_isWrong N zv0 3 zh) fun zt2 zh1 =>
  gg (gzb zt2) (some (zt2, zh1))
def f_X3_readExtras_46 (N : Nat) (zk9 : (Nat × Int64 × Int32 × Int32 × Int32 × Int32 × PH) → Option (Int32 × PH)) (zv0 : Nat) (zv1 : Int64) (zv3 : Int32) (zv4 : Int32) (zv5 : Int32) (zv6 : Int32) (zv7 : Int32) (zh : PH) : Option (Int32 × PH) :=
  if (zv7 : Int32) = 0 then (
  if (zv5 : Int32) = 0 then (
  f_X3_readExtras_70 N zk9 zv0 zv1 zv3 zv4 zv5 zv6 zv7 zh)
  else (
  f_X3_readExtras_64 N zv0 zh))
  else (
  if (zv4 : Int32) = 0 then (
  f_X3_readExtras_70 N zk9 zv0 zv1 zv3 zv4 zv5 zv6 zv7 zh)
  else (
  f_X3_readExtras_64 N zv0 zh))
def f_X3_readExtras_9 (N : Nat) (zk9 : (Nat × Int64 × Int32 × Int32 × Int32 × Int32 × PH) → Option (Int32 × PH)) (zv0 : Nat) (zv1 : Int64) (zv3 : Int32) (zv4 : Int32) (zv5 : Int32) (zv6 : Int32) (zh : PH) : Option (Int32 × PH) :=
  if (3 : Int32) ≤ zv6 then (
  f_X3_readExtras_105 N zv0 zv1 zv3 zv4 zv5 zh)
  else (
  gb (gfR 3 0 zv0 zh) fun zt2 =>
  gg (gIs 10 zt2 zh) <|
  gc (f_X10_isWord N zt2 3 zh) fun zt4 zh3 =>
  if (zt4 : Int32) = 0 then (
  gb (gfR 3 0 zv0 zh3) fun zt6 =>
  gg (gIs 10 zt6 zh3) <|
  gc (f_X10_isWord N zt6 4 zh3) fun zt8 zh7 =>
  if (zt8 : Int32) = 0 then (
  f_X3_readExtras_105 N zv0 zv1 zv3 zv4 zv5 zh7)
  else (
  f_X3_readExtras_46 N zk9 zv0 zv1 zv3 zv4 zv5 zv6 zt4 zh7))
  else (
  f_X3_readExtras_46 N zk9 zv0 zv1 zv3 zv4 zv5 zv6 zt4 zh3))
def f_X3_readExtras (N : Nat) (za0 : Nat) (za1 : Int64) (za3 : Int32) (zh : PH) : Option (Int32 × PH) :=
  gi (fun zk zs => f_X3_readExtras_9 N zk zs.1 zs.2.1 zs.2.2.1 zs.2.2.2.1 zs.2.2.2.2.1 zs.2.2.2.2.2.1 zs.2.2.2.2.2.2) N (za0, za1, za3, 0, 0, 0, zh)
def f_X3_takeNumber (N : Nat) (za0 : Nat) (za1 : Int32) (zh : PH) : Option (Int32 × PH) :=
  gb (gfR 3 0 za0 zh) fun zt1 =>
  gb (gfI 10 2 zt1 zh) fun zt2 =>
  if (zt2 : Int32) = 2 then (
  gb (gfR 3 0 za0 zh) fun zt4 =>
  gb (gfI 10 4 zt4 zh) fun zt5 =>
  if (zt5 : Int32) ≤ za1 then (
  gb (gfR 3 0 za0 zh) fun zt7 =>
  gg (gIs 10 zt7 zh) <|
  gb (f_X10_advance N zt7 zh) fun zh8 =>
  some (zt5, zh8))
  else (
  gg (gIs 3 za0 zh) <|
  gc (f_X3_isWrong N za0 4 zh) fun zt10 zh9 =>
  some ((-1), zh9)))
  else (
  gg (gIs 3 za0 zh) <|
  gc (f_X3_isWrong N za0 1 zh) fun zt12 zh11 =>
  some ((-1), zh11))
def f_X3_readGuest_132 (N : Nat) (zs0 : Int32) (zh : PH) : Option (Int32 × PH) :=
  gg (gzb zs0) (some (zs0, zh))
def f_X3_readGuest_131 (N : Nat) (zh : PH) : Option (Int32 × PH) :=
  f_X3_readGuest_132 N 0 zh
def f_X3_readGuest_43 (N : Nat) (zv0 : Nat) (zh : PH) : Option (Int32 × PH) :=
  gg (gIs 3 zv0 zh) <|
  gc (f_X3_isWrong N zv0 1 zh) fun zt2 zh1 =>
  gg (gzb zt2) (some (zt2, zh1))
def f_X3_readGuest (N : Nat) (za0 : Nat) (zh : PH) : Option (Int32 × PH) :=
  gb (gfR 3 1 za0 zh) fun zt1 =>
  gb (gfI 2 1 zt1 zh) fun zt2 =>
  if (zt2 : Int32) = 10 then (
  gg (gIs 3 za0 zh) <|
  gc (f_X3_isWrong N za0 5 zh) fun zt37 zh36 =>
  gg (gzb zt37) (some (zt37, zh36)))
  else (
  gb (gfR 3 0 za0 zh) fun zt4 =>
  gg (gIs 10 zt4 zh) <|
  gb (f_X10_advance N zt4 zh) fun zh5 =>
  gb (gfR 3 0 za0 zh5) fun zt6 =>
  gb (gfI 10 2 zt6 zh5) fun zt7 =>
  if (zt7 : Int32) = 1 then (
  gg (gIs 3 za0 zh5) <|
  gc (f_X3_isKept N za0 zh5) fun zt10 zh9 =>
  if (zt10 : Int32) = 0 then (
  gb (gfR 3 0 za0 zh9) fun zt12 =>
  gb (gfL 10 5 zt12 zh9) fun zt13 =>
  gb (gfR 3 1 za0 zh9) fun zt14 =>
  gg (gIs 2 zt14 zh9) <|
  gc (f_X2_hasName N zt14 zt13 zh9) fun zt16 zh15 =>
  if (zt16 : Int32) = 0 then (
  gb (gfR 3 0 za0 zh15) fun zt18 =>
  gg (gIs 10 zt18 zh15) <|
  gb (f_X10_advance N zt18 zh15) fun zh19 =>
  gb (gfR 3 0 za0 zh19) fun zt20 =>
  gg (gIs 10 zt20 zh19) <|
  gc (f_X10_isWord N zt20 2 zh19) fun zt22 zh21 =>
  if (zt22 : Int32) = 0 then (
  gg (gIs 3 za0 zh21) <|
  gc (f_X3_isWrong N za0 1 zh21) fun zt33 zh32 =>
  gg (gzb zt33) (some (zt33, zh32)))
  else (
  gb (gfR 3 0 za0 zh21) fun zt24 =>
  gg (gIs 10 zt24 zh21) <|
  gb (f_X10_advance N zt24 zh21) fun zh25 =>
  gg (gIs 3 za0 zh25) <|
  gc (f_X3_takeNumber N za0 99 zh25) fun zt27 zh26 =>
  if (zt27 : Int32) = (-1) then (
  f_X3_readGuest_131 N  zh26)
  else (
  gg (gIs 3 za0 zh26) <|
  gc (f_X3_readExtras N za0 zt13 zt27 zh26) fun zt30 zh29 =>
  if (zt30 : Int32) = 0 then (
  f_X3_readGuest_131 N  zh29)
  else (
  f_X3_readGuest_132 N 1 zh29))))
  else (
  gg (gIs 3 za0 zh15) <|
  gc (f_X3_isWrong N za0 3 zh15) fun zt35 zh34 =>
  gg (gzb zt35) (some (zt35, zh34))))
  else (
  f_X3_readGuest_43 N za0 zh9))
  else (
  f_X3_readGuest_43 N za0 zh5))
def f_X3_readRoom (N : Nat) (za0 : Nat) (zh : PH) : Option (Int32 × PH) :=
  gb (gfR 3 1 za0 zh) fun zt1 =>
  gb (gfI 2 0 zt1 zh) fun zt2 =>
  if (zt2 : Int32) = 10 then (
  gg (gIs 3 za0 zh) <|
  gc (f_X3_isWrong N za0 5 zh) fun zt15 zh14 =>
  gg (gzb zt15) (some (zt15, zh14)))
  else (
  gb (gfR 3 0 za0 zh) fun zt4 =>
  gg (gIs 10 zt4 zh) <|
  gb (f_X10_advance N zt4 zh) fun zh5 =>
  gg (gIs 3 za0 zh5) <|
  gc (f_X3_takeNumber N za0 9 zh5) fun zt7 zh6 =>
  if (zt7 : Int32) = (-1) then (
  gg (gzb 0) (some (0, zh6)))
  else (
  gg (gIs 3 za0 zh6) <|
  gc (f_X3_takeNumber N za0 1 zh6) fun zt10 zh9 =>
  if (zt10 : Int32) = (-1) then (
  gg (gzb 0) (some (0, zh9)))
  else (
  gb (gfR 3 1 za0 zh9) fun zt12 =>
  gg (gIs 2 zt12 zh9) <|
  gb (f_X2_addRoom N zt12 zt7 zt10 zh9) fun zh13 =>
  gg (gzb 1) (some (1, zh13)))))
def f_X3_deedAt_161 (N : Nat) (zs0 : Int32) (zh : PH) : Option (Int32 × PH) :=
  some (zs0, zh)
def f_X3_deedAt_141 (N : Nat) (zs0 : Int32) (zh : PH) : Option (Int32 × PH) :=
  some (zs0, zh)
def f_X3_deedAt_103 (N : Nat) (zs0 : Int32) (zh : PH) : Option (Int32 × PH) :=
  some (zs0, zh)
def f_X3_deedAt_65 (N : Nat) (zs0 : Int32) (zh : PH) : Option (Int32 × PH) :=
  some (zs0, zh)
def f_X3_deedAt (N : Nat) (za0 : Nat) (za1 : Int32) (zh : PH) : Option (Int32 × PH) :=
  if (za1 : Int32) = 0 then (
  gb (gfR 3 0 za0 zh) fun zt2 =>
  gg (gIs 10 zt2 zh) <|
  gc (f_X10_isWord N zt2 7 zh) fun zt4 zh3 =>
  if (zt4 : Int32) = 0 then (
  gb (gfR 3 0 za0 zh3) fun zt6 =>
  gg (gIs 10 zt6 zh3) <|
  gc (f_X10_isWord N zt6 8 zh3) fun zt8 zh7 =>
  if (zt8 : Int32) = 0 then (
  f_X3_deedAt_65 N (-1) zh7)
  else (
  f_X3_deedAt_65 N 10010 zh7))
  else (
  f_X3_deedAt_65 N 10009 zh3))
  else (
  if (za1 : Int32) = 1 then (
  gb (gfR 3 0 za0 zh) fun zt11 =>
  gb (gfI 10 2 zt11 zh) fun zt12 =>
  if (zt12 : Int32) = 60 then (
  f_X3_deedAt_103 N 10011 zh)
  else (
  gb (gfR 3 0 za0 zh) fun zt14 =>
  gb (gfI 10 2 zt14 zh) fun zt15 =>
  if (zt15 : Int32) = 61 then (
  f_X3_deedAt_103 N 10012 zh)
  else (
  f_X3_deedAt_103 N (-1) zh)))
  else (
  if (za1 : Int32) = 2 then (
  gb (gfR 3 0 za0 zh) fun zt18 =>
  gb (gfI 10 2 zt18 zh) fun zt19 =>
  if (zt19 : Int32) = 43 then (
  f_X3_deedAt_141 N 10013 zh)
  else (
  gb (gfR 3 0 za0 zh) fun zt21 =>
  gb (gfI 10 2 zt21 zh) fun zt22 =>
  if (zt22 : Int32) = 45 then (
  f_X3_deedAt_141 N 10014 zh)
  else (
  f_X3_deedAt_141 N (-1) zh)))
  else (
  gb (gfR 3 0 za0 zh) fun zt24 =>
  gb (gfI 10 2 zt24 zh) fun zt25 =>
  if (zt25 : Int32) = 42 then (
  f_X3_deedAt_161 N 10015 zh)
  else (
  f_X3_deedAt_161 N (-1) zh))))
def f_X3_factHere_131 (N : Nat) (zs0 : Int32) (zh : PH) : Option (Int32 × PH) :=
  some (zs0, zh)
def f_X3_factHere (N : Nat) (za0 : Nat) (zh : PH) : Option (Int32 × PH) :=
  gb (gfR 3 0 za0 zh) fun zt1 =>
  gg (gIs 10 zt1 zh) <|
  gc (f_X10_isWord N zt1 2 zh) fun zt3 zh2 =>
  if (zt3 : Int32) = 0 then (
  gb (gfR 3 0 za0 zh2) fun zt5 =>
  gg (gIs 10 zt5 zh2) <|
  gc (f_X10_isWord N zt5 3 zh2) fun zt7 zh6 =>
  if (zt7 : Int32) = 0 then (
  gb (gfR 3 0 za0 zh6) fun zt9 =>
  gg (gIs 10 zt9 zh6) <|
  gc (f_X10_isWord N zt9 4 zh6) fun zt11 zh10 =>
  if (zt11 : Int32) = 0 then (
  gb (gfR 3 0 za0 zh10) fun zt13 =>
  gg (gIs 10 zt13 zh10) <|
  gc (f_X10_isWord N zt13 9 zh10) fun zt15 zh14 =>
  if (zt15 : Int32) = 0 then (
  gb (gfR 3 0 za0 zh14) fun zt17 =>
  gg (gIs 10 zt17 zh14) <|
  gc (f_X10_isWord N zt17 10 zh14) fun zt19 zh18 =>
  if (zt19 : Int32) = 0 then (
  gb (gfR 3 0 za0 zh18) fun zt21 =>
  gg (gIs 10 zt21 zh18) <|
  gc (f_X10_isWord N zt21 11 zh18) fun zt23 zh22 =>
  if (zt23 : Int32) = 0 then (
  gb (gfR 3 0 za0 zh22) fun zt25 =>
  gg (gIs 10 zt25 zh22) <|
  gc (f_X10_isWord N zt25 12 zh22) fun zt27 zh26 =>
  if (zt27 : Int32) = 0 then (
  gb (gfR 3 0 za0 zh26) fun zt29 =>
  gg (gIs 10 zt29 zh26) <|
  gc (f_X10_isWord N zt29 13 zh26) fun zt31 zh30 =>
  if (zt31 : Int32) = 0 then (
  f_X3_factHere_131 N (-1) zh30)
  else (
  f_X3_factHere_131 N 10007 zh30))
  else (
  some (10006, zh26)))
  else (
  some (10005, zh22)))
  else (
  some (10004, zh18)))
  else (
  some (10003, zh14)))
  else (
  some (10002, zh10)))
  else (
  some (10001, zh6)))
  else (
  some (10000, zh2))
def f_X3_takeSign (N : Nat) (za0 : Nat) (za1 : Int32) (zh : PH) : Option (Int32 × PH) :=
  gb (gfR 3 0 za0 zh) fun zt1 =>
  gb (gfI 10 2 zt1 zh) fun zt2 =>
  if (zt2 : Int32) = za1 then (
  gb (gfR 3 0 za0 zh) fun zt4 =>
  gg (gIs 10 zt4 zh) <|
  gb (f_X10_advance N zt4 zh) fun zh5 =>
  gg (gzb 1) (some (1, zh5)))
  else (
  gg (gIs 3 za0 zh) <|
  gc (f_X3_isWrong N za0 1 zh) fun zt7 zh6 =>
  gg (gzb zt7) (some (zt7, zh6)))
def f_X3_readLevel_40 (N : Nat) (zF_X3_readLevel : Nat → Int32 → Int32 → PH → Option (Int32 × PH)) (zF_X3_readPart : Nat → Int32 → PH → Option (Int32 × PH)) (zk40 : (Nat × Int32 × Int32 × Int32 × Int32 × PH) → Option (Int32 × PH)) (zv0 : Nat) (zv1 : Int32) (zv2 : Int32) (zv3 : Int32) (zv4 : Int32) (zh : PH) : Option (Int32 × PH) :=
  if (zv3 : Int32) ≤ zv4 then (
  gg (gzb 1) (some (1, zh)))
  else (
  gg (gIs 3 zv0 zh) <|
  gc (f_X3_deedAt N zv0 zv1 zh) fun zt3 zh2 =>
  if (zt3 : Int32) = (-1) then (
  gg (gzb 1) (some (1, zh2)))
  else (
  gb (gfR 3 0 zv0 zh2) fun zt5 =>
  gg (gIs 10 zt5 zh2) <|
  gb (f_X10_advance N zt5 zh2) fun zh6 =>
  gg (gIs 3 zv0 zh6) <|
  gc (zF_X3_readLevel zv0 (zv1 + 1) zv2 zh6) fun zt8 zh7 =>
  if (zt8 : Int32) = 0 then (
  gg (gzb 0) (some (0, zh7)))
  else (
  gb (gfR 3 1 zv0 zh7) fun zt10 =>
  gg (gIs 2 zt10 zh7) <|
  gb (f_X2_addCode N zt10 zt3 zh7) fun zh11 =>
  gl (zv4 + 1) fun (zx12 : Int32) =>
  zk40 (zv0, zv1, zv2, zv3, zx12, zh11))))
def f_X3_readLevel_36 (N : Nat) (zF_X3_readLevel : Nat → Int32 → Int32 → PH → Option (Int32 × PH)) (zF_X3_readPart : Nat → Int32 → PH → Option (Int32 × PH)) (zv0 : Nat) (zv1 : Int32) (zv2 : Int32) (zs0 : Int32) (zh : PH) : Option (Int32 × PH) :=
  gi (fun zk zs => f_X3_readLevel_40 N zF_X3_readLevel zF_X3_readPart zk zs.1 zs.2.1 zs.2.2.1 zs.2.2.2.1 zs.2.2.2.2.1 zs.2.2.2.2.2) N (zv0, zv1, zv2, zs0, 0, zh)
def b_X3_readLevel (N : Nat) (zF_X3_readLevel : Nat → Int32 → Int32 → PH → Option (Int32 × PH)) (zF_X3_readPart : Nat → Int32 → PH → Option (Int32 × PH)) (za0 : Nat) (za1 : Int32) (za2 : Int32) (zh : PH) : Option (Int32 × PH) :=
  if (za1 : Int32) < 4 then (
  gg (gIs 3 za0 zh) <|
  gc (zF_X3_readLevel za0 (za1 + 1) za2 zh) fun zt3 zh2 =>
  if (zt3 : Int32) = 0 then (
  gg (gzb 0) (some (0, zh2)))
  else (
  if (za1 : Int32) = 1 then (
  f_X3_readLevel_36 N zF_X3_readLevel zF_X3_readPart za0 za1 za2 1 zh2)
  else (
  f_X3_readLevel_36 N zF_X3_readLevel zF_X3_readPart za0 za1 za2 1000 zh2)))
  else (
  gg (gIs 3 za0 zh) <|
  gc (zF_X3_readPart za0 za2 zh) fun zt7 zh6 =>
  gg (gzb zt7) (some (zt7, zh6)))
def f_X3_readPart_162 (N : Nat) (zF_X3_readLevel : Nat → Int32 → Int32 → PH → Option (Int32 × PH)) (zF_X3_readPart : Nat → Int32 → PH → Option (Int32 × PH)) (zs0 : Int32) (zs1 : Nat) (zh : PH) : Option (Int32 × PH) :=
  gg (gIs 2 zs1 zh) <|
  gb (f_X2_addCode N zs1 zs0 zh) fun zh1 =>
  gg (gzb 1) (some (1, zh1))
def f_X3_readPart_147 (N : Nat) (zF_X3_readLevel : Nat → Int32 → Int32 → PH → Option (Int32 × PH)) (zF_X3_readPart : Nat → Int32 → PH → Option (Int32 × PH)) (zv0 : Nat) (zv2 : Int32) (zv3 : Int32) (zh : PH) : Option (Int32 × PH) :=
  gb (gfR 3 1 zv0 zh) fun zt1 =>
  if (zv2 : Int32) = 0 then (
  f_X3_readPart_162 N zF_X3_readLevel zF_X3_readPart zv3 zt1 zh)
  else (
  f_X3_readPart_162 N zF_X3_readLevel zF_X3_readPart 10008 zt1 zh)
def f_X3_readPart_130 (N : Nat) (zF_X3_readLevel : Nat → Int32 → Int32 → PH → Option (Int32 × PH)) (zF_X3_readPart : Nat → Int32 → PH → Option (Int32 × PH)) (zs0 : Int32) (zh : PH) : Option (Int32 × PH) :=
  gg (gzb zs0) (some (zs0, zh))
def f_X3_readPart_129 (N : Nat) (zF_X3_readLevel : Nat → Int32 → Int32 → PH → Option (Int32 × PH)) (zF_X3_readPart : Nat → Int32 → PH → Option (Int32 × PH)) (zh : PH) : Option (Int32 × PH) :=
  f_X3_readPart_130 N zF_X3_readLevel zF_X3_readPart 0 zh
def f_X3_readPart_91 (N : Nat) (zF_X3_readLevel : Nat → Int32 → Int32 → PH → Option (Int32 × PH)) (zF_X3_readPart : Nat → Int32 → PH → Option (Int32 × PH)) (zv0 : Nat) (zv1 : Int32) (zv2 : Int32) (zv3 : Int32) (zs0 : Int32) (zh : PH) : Option (Int32 × PH) :=
  gb (gfR 3 0 zv0 zh) fun zt1 =>
  gg (gIs 10 zt1 zh) <|
  gb (f_X10_advance N zt1 zh) fun zh2 =>
  if (zs0 : Int32) = 0 then (
  if (zv2 : Int32) = 0 then (
  f_X3_readPart_147 N zF_X3_readLevel zF_X3_readPart zv0 zv2 zv3 zh2)
  else (
  gg (gIs 3 zv0 zh2) <|
  gc (zF_X3_readPart zv0 (zv1 + 1) zh2) fun zt6 zh5 =>
  if (zt6 : Int32) = 0 then (
  gg (gzb 0) (some (0, zh5)))
  else (
  f_X3_readPart_147 N zF_X3_readLevel zF_X3_readPart zv0 zv2 zv3 zh5)))
  else (
  gg (gIs 3 zv0 zh2) <|
  gc (zF_X3_readLevel zv0 0 (zv1 + 1) zh2) fun zt9 zh8 =>
  if (zt9 : Int32) = 0 then (
  f_X3_readPart_129 N zF_X3_readLevel zF_X3_readPart  zh8)
  else (
  gg (gIs 3 zv0 zh8) <|
  gc (f_X3_takeSign N zv0 41 zh8) fun zt12 zh11 =>
  if (zt12 : Int32) = 0 then (
  f_X3_readPart_129 N zF_X3_readLevel zF_X3_readPart  zh11)
  else (
  f_X3_readPart_130 N zF_X3_readLevel zF_X3_readPart 1 zh11)))
def f_X3_readPart_63 (N : Nat) (zF_X3_readLevel : Nat → Int32 → Int32 → PH → Option (Int32 × PH)) (zF_X3_readPart : Nat → Int32 → PH → Option (Int32 × PH)) (zv0 : Nat) (zv1 : Int32) (zv2 : Int32) (zv3 : Int32) (zh : PH) : Option (Int32 × PH) :=
  if (zv1 : Int32) < 5 then (
  gb (gfR 3 0 zv0 zh) fun zt2 =>
  gb (gfI 10 2 zt2 zh) fun zt3 =>
  if (zt3 : Int32) = 40 then (
  f_X3_readPart_91 N zF_X3_readLevel zF_X3_readPart zv0 zv1 zv2 zv3 1 zh)
  else (
  f_X3_readPart_91 N zF_X3_readLevel zF_X3_readPart zv0 zv1 zv2 zv3 0 zh))
  else (
  gg (gIs 3 zv0 zh) <|
  gc (f_X3_isWrong N zv0 5 zh) fun zt6 zh5 =>
  gg (gzb zt6) (some (zt6, zh5)))
def f_X3_readPart_35 (N : Nat) (zF_X3_readLevel : Nat → Int32 → Int32 → PH → Option (Int32 × PH)) (zF_X3_readPart : Nat → Int32 → PH → Option (Int32 × PH)) (zv0 : Nat) (zv1 : Int32) (zv2 : Int32) (zs0 : Int32) (zh : PH) : Option (Int32 × PH) :=
  if (zv2 : Int32) = 0 then (
  gb (gfR 3 0 zv0 zh) fun zt2 =>
  gb (gfI 10 2 zt2 zh) fun zt3 =>
  if (zt3 : Int32) = 40 then (
  f_X3_readPart_63 N zF_X3_readLevel zF_X3_readPart zv0 zv1 zv2 zs0 zh)
  else (
  if (zs0 : Int32) = (-1) then (
  gg (gIs 3 zv0 zh) <|
  gc (f_X3_isWrong N zv0 1 zh) fun zt7 zh6 =>
  gg (gzb zt7) (some (zt7, zh6)))
  else (
  f_X3_readPart_63 N zF_X3_readLevel zF_X3_readPart zv0 zv1 zv2 zs0 zh)))
  else (
  f_X3_readPart_63 N zF_X3_readLevel zF_X3_readPart zv0 zv1 zv2 zs0 zh)
def b_X3_readPart (N : Nat) (zF_X3_readLevel : Nat → Int32 → Int32 → PH → Option (Int32 × PH)) (zF_X3_readPart : Nat → Int32 → PH → Option (Int32 × PH)) (za0 : Nat) (za1 : Int32) (zh : PH) : Option (Int32 × PH) :=
  gb (gfR 3 0 za0 zh) fun zt1 =>
  gg (gIs 10 zt1 zh) <|
  gc (f_X10_isWord N zt1 6 zh) fun zt3 zh2 =>
  gb (gfR 3 0 za0 zh2) fun zt4 =>
  gb (gfI 10 2 zt4 zh2) fun zt5 =>
  if (zt5 : Int32) = 2 then (
  gb (gfR 3 0 za0 zh2) fun zt9 =>
  gb (gfI 10 4 zt9 zh2) fun zt10 =>
  f_X3_readPart_35 N zF_X3_readLevel zF_X3_readPart za0 za1 zt3 zt10 zh2)
  else (
  gg (gIs 3 za0 zh2) <|
  gc (f_X3_factHere N za0 zh2) fun zt8 zh7 =>
  f_X3_readPart_35 N zF_X3_readLevel zF_X3_readPart za0 za1 zt3 zt8 zh7)
def g_gR (N : Nat) : Nat → (Nat → Int32 → Int32 → PH → Option (Int32 × PH)) × (Nat → Int32 → PH → Option (Int32 × PH))
  | 0 => (fun _ _ _ _ => none, fun _ _ _ => none)
  | zd + 1 => (b_X3_readLevel N (g_gR N zd).1 (g_gR N zd).2, b_X3_readPart N (g_gR N zd).1 (g_gR N zd).2)
def f_X3_readLevel (N : Nat) (za0 : Nat) (za1 : Int32) (za2 : Int32) (zh : PH) : Option (Int32 × PH) := (g_gR N 64).1 za0 za1 za2 zh
def f_X3_readPart (N : Nat) (za0 : Nat) (za1 : Int32) (zh : PH) : Option (Int32 × PH) := (g_gR N 64).2 za0 za1 zh
def f_X3_readRule (N : Nat) (za0 : Nat) (zh : PH) : Option (Int32 × PH) :=
  gb (gfR 3 1 za0 zh) fun zt1 =>
  gb (gfI 2 2 zt1 zh) fun zt2 =>
  if (zt2 : Int32) = 4 then (
  gg (gIs 3 za0 zh) <|
  gc (f_X3_isWrong N za0 5 zh) fun zt12 zh11 =>
  gg (gzb zt12) (some (zt12, zh11)))
  else (
  gb (gfR 3 0 za0 zh) fun zt4 =>
  gg (gIs 10 zt4 zh) <|
  gb (f_X10_advance N zt4 zh) fun zh5 =>
  gg (gIs 3 za0 zh5) <|
  gc (f_X3_readLevel N za0 0 0 zh5) fun zt7 zh6 =>
  if (zt7 : Int32) = 0 then (
  gg (gzb 0) (some (0, zh6)))
  else (
  gb (gfR 3 1 za0 zh6) fun zt9 =>
  gg (gIs 2 zt9 zh6) <|
  gb (f_X2_endRule N zt9 zh6) fun zh10 =>
  gg (gzb 1) (some (1, zh10))))
def f_X3_readInto_130 (N : Nat) (zh : PH) : Option (Int32 × PH) :=
  some (0, zh)
def f_X3_readInto_119 (N : Nat) (zv0 : Nat) (zh : PH) : Option (Int32 × PH) :=
  gb (gfI 3 2 zv0 zh) fun zt1 =>
  some (zt1, zh)
def f_X3_readInto_105 (N : Nat) (zk26 : (Nat × Int32 × PH) → Option (Int32 × PH)) (zv0 : Nat) (zv2 : Int32) (zs0 : Int32) (zh : PH) : Option (Int32 × PH) :=
  if (zs0 : Int32) = 0 then (
  f_X3_readInto_119 N zv0 zh)
  else (
  gg (gIs 3 zv0 zh) <|
  gc (f_X3_takeSign N zv0 59 zh) fun zt3 zh2 =>
  if (zt3 : Int32) = 0 then (
  f_X3_readInto_119 N zv0 zh2)
  else (
  gl (zv2 + 1) fun (zx5 : Int32) =>
  zk26 (zv0, zx5, zh2)))
def f_X3_readInto_26 (N : Nat) (zk26 : (Nat × Int32 × PH) → Option (Int32 × PH)) (zv0 : Nat) (zv2 : Int32) (zh : PH) : Option (Int32 × PH) :=
  if (1000 : Int32) ≤ zv2 then (
  f_X3_readInto_130 N  zh)
  else (
  gb (gfR 3 0 zv0 zh) fun zt2 =>
  gb (gfI 10 2 zt2 zh) fun zt3 =>
  if (zt3 : Int32) = 0 then (
  f_X3_readInto_130 N  zh)
  else (
  gb (gfR 3 0 zv0 zh) fun zt5 =>
  gg (gIs 10 zt5 zh) <|
  gc (f_X10_isWord N zt5 0 zh) fun zt7 zh6 =>
  if (zt7 : Int32) = 0 then (
  gb (gfR 3 0 zv0 zh6) fun zt9 =>
  gg (gIs 10 zt9 zh6) <|
  gc (f_X10_isWord N zt9 1 zh6) fun zt11 zh10 =>
  if (zt11 : Int32) = 0 then (
  gb (gfR 3 0 zv0 zh10) fun zt13 =>
  gg (gIs 10 zt13 zh10) <|
  gc (f_X10_isWord N zt13 5 zh10) fun zt15 zh14 =>
  if (zt15 : Int32) = 0 then (
  gg (gIs 3 zv0 zh14) <|
  gc (f_X3_isWrong N zv0 1 zh14) fun zt18 zh17 =>
  f_X3_readInto_105 N zk26 zv0 zv2 zt18 zh17)
  else (
  gg (gIs 3 zv0 zh14) <|
  gc (f_X3_readRule N zv0 zh14) fun zt20 zh19 =>
  f_X3_readInto_105 N zk26 zv0 zv2 zt20 zh19))
  else (
  gg (gIs 3 zv0 zh10) <|
  gc (f_X3_readGuest N zv0 zh10) fun zt22 zh21 =>
  f_X3_readInto_105 N zk26 zv0 zv2 zt22 zh21))
  else (
  gg (gIs 3 zv0 zh6) <|
  gc (f_X3_readRoom N zv0 zh6) fun zt24 zh23 =>
  f_X3_readInto_105 N zk26 zv0 zv2 zt24 zh23)))
def f_X3_readInto (N : Nat) (za0 : Nat) (za1 : Nat) (zh : PH) : Option (Int32 × PH) :=
  gb (pfV 3 1 za0 (.ref za1) zh) fun zh1 =>
  gb (gfR 3 1 za0 zh1) fun zt2 =>
  gg (gIs 2 zt2 zh1) <|
  gb (f_X2_forget N zt2 zh1) fun zh3 =>
  gb (pfV 3 2 za0 (.int 0) zh3) fun zh4 =>
  gb (gfR 3 0 za0 zh4) fun zt5 =>
  gg (gIs 10 zt5 zh4) <|
  gb (f_X10_goToFirstToken N zt5 zh4) fun zh6 =>
  gi (fun zk zs => f_X3_readInto_26 N zk zs.1 zs.2.1 zs.2.2) N (za0, 0, zh6)
def f_X4_init (N : Nat) (za0 : Nat) (zh : PH) : Option PH :=
  gc (nwA 0 7 zh) fun zr2 zh1 =>
  gb (pfV 4 0 za0 (.ref zr2) zh1) fun zh3 =>
  gc (nwA 0 7 zh3) fun zr5 zh4 =>
  gb (pfV 4 1 za0 (.ref zr5) zh4) fun zh6 =>
  gc (nwA 0 7 zh6) fun zr8 zh7 =>
  gb (pfV 4 2 za0 (.ref zr8) zh7) fun zh9 =>
  some zh9
def f_X4_copyFrom (N : Nat) (za0 : Nat) (za1 : Nat) (zh : PH) : Option PH :=
  gb (gfR 4 0 za1 zh) fun zt1 =>
  gb (gfR 4 0 za0 zh) fun zt2 =>
  gb (cpI 0 zt1 0 zt2 0 7 zh) fun zh3 =>
  gb (gfR 4 1 za1 zh3) fun zt4 =>
  gb (gfR 4 1 za0 zh3) fun zt5 =>
  gb (cpI 0 zt4 0 zt5 0 7 zh3) fun zh6 =>
  gb (gfR 4 2 za1 zh6) fun zt7 =>
  gb (gfR 4 2 za0 zh6) fun zt8 =>
  gb (cpI 0 zt7 0 zt8 0 7 zh6) fun zh9 =>
  gb (gfI 4 3 za1 zh9) fun zt10 =>
  gb (pfV 4 3 za0 (.int zt10) zh9) fun zh11 =>
  some zh11
