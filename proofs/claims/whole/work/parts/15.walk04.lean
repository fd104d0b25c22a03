def f_X6_waysBeside_39 (N : Nat) (zk6 : (Int32 × Int32 × Nat × Int32 × Int32 × Int32 × PH) → Option (Int32 × PH)) (zv0 : Int32) (zv1 : Int32) (zv2 : Nat) (zv3 : Int32) (zv4 : Int32) (zv5 : Int32) (zh : PH) : Option (Int32 × PH) :=
  gl (zv5 + 1) fun (zx1 : Int32) =>
  zk6 (zv0, zv1, zv2, zv3, zv4, zx1, zh)
def f_X6_waysBeside_6 (N : Nat) (zk6 : (Int32 × Int32 × Nat × Int32 × Int32 × Int32 × PH) → Option (Int32 × PH)) (zv0 : Int32) (zv1 : Int32) (zv2 : Nat) (zv3 : Int32) (zv4 : Int32) (zv5 : Int32) (zh : PH) : Option (Int32 × PH) :=
  if ((1 <<< (zv3 &&& 31)) : Int32) ≤ zv5 then (
  some (zv4, zh))
  else (
  gc (f_J6_bitCount_0f7a4 N zv5 zh) fun zt3 zh2 =>
  if (zt3 : Int32) = zv1 then (
  if ((zv5 &&& zv0) : Int32) = 0 then (
  gb (arI 0 zv2 zv5 zh2) fun zt6 =>
  gl ((zv4 + zt6)) fun (zx7 : Int32) =>
  f_X6_waysBeside_39 N zk6 zv0 zv1 zv2 zv3 zx7 zv5 zh2)
  else (
  f_X6_waysBeside_39 N zk6 zv0 zv1 zv2 zv3 zv4 zv5 zh2))
  else (
  f_X6_waysBeside_39 N zk6 zv0 zv1 zv2 zv3 zv4 zv5 zh2))
def f_X6_waysBeside (N : Nat) (za0 : Int32) (za1 : Int32) (za2 : Nat) (za3 : Int32) (zh : PH) : Option (Int32 × PH) :=
  gi (fun zk zs => f_X6_waysBeside_6 N zk zs.1 zs.2.1 zs.2.2.1 zs.2.2.2.1 zs.2.2.2.2.1 zs.2.2.2.2.2.1 zs.2.2.2.2.2.2) N (za0, za1, za2, za3, 0, 0, zh)
def f_X6_waysInAll (N : Nat) (za0 : Nat) (za1 : Nat) (za2 : Int32) (zh : PH) : Option (Int32 × PH) :=
  gg (gIs 6 za0 zh) <|
  gc (f_X6_fillRow N za0 za1 za2 (-1) zh) fun zt2 zh1 =>
  gc (f_X6_waysBeside N 0 zt2 za1 za2 zh1) fun zt4 zh3 =>
  some (zt4, zh3)
def f_X6_onlyRoomOf_62 (N : Nat) (zk15 : (Nat × Int32 × Nat × Int32 × Int32 × Int32 × Int32 × PH) → Option (Int32 × PH)) (zv0 : Nat) (zv1 : Int32) (zv2 : Nat) (zv3 : Int32) (zv4 : Int32) (zv5 : Int32) (zv6 : Int32) (zh : PH) : Option (Int32 × PH) :=
  gl (zv6 + 1) fun (zx1 : Int32) =>
  zk15 (zv0, zv1, zv2, zv3, zv4, zv5, zx1, zh)
def f_X6_onlyRoomOf_15 (N : Nat) (zk15 : (Nat × Int32 × Nat × Int32 × Int32 × Int32 × Int32 × PH) → Option (Int32 × PH)) (zv0 : Nat) (zv1 : Int32) (zv2 : Nat) (zv3 : Int32) (zv4 : Int32) (zv5 : Int32) (zv6 : Int32) (zh : PH) : Option (Int32 × PH) :=
  if (zv3 : Int32) ≤ zv6 then (
  some (zv4, zh))
  else (
  gb (gfR 6 0 zv0 zh) fun zt2 =>
  gb (arI 0 zt2 zv1 zh) fun zt3 =>
  gc (f_X11_bitOf N zt3 zv6 zh) fun zt5 zh4 =>
  if (zt5 : Int32) = 1 then (
  gc (f_X6_waysBeside N (1 <<< (zv6 &&& 31)) zv5 zv2 zv3 zh4) fun zt8 zh7 =>
  if (zt8 : Int32) ≤ 0 then (
  f_X6_onlyRoomOf_62 N zk15 zv0 zv1 zv2 zv3 zv4 zv5 zv6 zh7)
  else (
  if (zv4 : Int32) = (-1) then (
  f_X6_onlyRoomOf_62 N zk15 zv0 zv1 zv2 zv3 zv6 zv5 zv6 zh7)
  else (
  some ((-1), zh7))))
  else (
  f_X6_onlyRoomOf_62 N zk15 zv0 zv1 zv2 zv3 zv4 zv5 zv6 zh4))
def f_X6_onlyRoomOf (N : Nat) (za0 : Nat) (za1 : Int32) (za2 : Nat) (za3 : Int32) (zh : PH) : Option (Int32 × PH) :=
  gg (gIs 6 za0 zh) <|
  gc (f_X6_fillRow N za0 za2 za3 za1 zh) fun zt2 zh1 =>
  gi (fun zk zs => f_X6_onlyRoomOf_15 N zk zs.1 zs.2.1 zs.2.2.1 zs.2.2.2.1 zs.2.2.2.2.1 zs.2.2.2.2.2.1 zs.2.2.2.2.2.2.1 zs.2.2.2.2.2.2.2) N (za0, za1, za2, za3, (-1), zt2, 0, zh1)
def f_X7_init (N : Nat) (za0 : Nat) (zh : PH) : Option PH :=
  gc (nwA 0 32 zh) fun zr2 zh1 =>
  gb (pfV 7 0 za0 (.ref zr2) zh1) fun zh3 =>
  gc (nwA 0 8 zh3) fun zr5 zh4 =>
  gb (pfV 7 2 za0 (.ref zr5) zh4) fun zh6 =>
  some zh6
def f_X8_init (N : Nat) (za0 : Nat) (zh : PH) : Option PH :=
  gc (nwA 0 20 zh) fun zr2 zh1 =>
  gb (pfV 8 0 za0 (.ref zr2) zh1) fun zh3 =>
  gc (nwA 0 20 zh3) fun zr5 zh4 =>
  gb (pfV 8 1 za0 (.ref zr5) zh4) fun zh6 =>
  gc (nwA 0 20 zh6) fun zr8 zh7 =>
  gb (pfV 8 2 za0 (.ref zr8) zh7) fun zh9 =>
  gc (nwA 0 20 zh9) fun zr11 zh10 =>
  gb (pfV 8 3 za0 (.ref zr11) zh10) fun zh12 =>
  gc (nwA 0 10 zh12) fun zr14 zh13 =>
  gb (pfV 8 4 za0 (.ref zr14) zh13) fun zh15 =>
  some zh15
def f_X8_copyFrom (N : Nat) (za0 : Nat) (za1 : Nat) (zh : PH) : Option PH :=
  gb (gfR 8 0 za1 zh) fun zt1 =>
  gb (gfR 8 0 za0 zh) fun zt2 =>
  gb (cpI 0 zt1 0 zt2 0 20 zh) fun zh3 =>
  gb (gfR 8 1 za1 zh3) fun zt4 =>
  gb (gfR 8 1 za0 zh3) fun zt5 =>
  gb (cpI 0 zt4 0 zt5 0 20 zh3) fun zh6 =>
  gb (gfR 8 2 za1 zh6) fun zt7 =>
  gb (gfR 8 2 za0 zh6) fun zt8 =>
  gb (cpI 0 zt7 0 zt8 0 20 zh6) fun zh9 =>
  gb (gfI 8 5 za1 zh9) fun zt10 =>
  gb (pfV 8 5 za0 (.int zt10) zh9) fun zh11 =>
  some zh11
def f_X8_add_89 (N : Nat) (zv0 : Nat) (zv1 : Int32) (zv2 : Int32) (zv3 : Int32) (zv4 : Int32) (zh : PH) : Option (Int32 × PH) :=
  gb (gfR 8 0 zv0 zh) fun zt1 =>
  gb (asI 0 zt1 zv4 zv1 zh) fun zh2 =>
  gb (gfR 8 1 zv0 zh2) fun zt3 =>
  gb (asI 0 zt3 zv4 zv2 zh2) fun zh4 =>
  gb (gfR 8 2 zv0 zh4) fun zt5 =>
  gb (asI 0 zt5 zv4 zv3 zh4) fun zh6 =>
  gb (gfI 8 5 zv0 zh6) fun zt7 =>
  gb (pfV 8 5 zv0 (.int (zt7 + 1)) zh6) fun zh8 =>
  gg (gzb 1) (some (1, zh8))
def f_X8_add_17 (N : Nat) (zk17 : (Nat × Int32 × Int32 × Int32 × Int32 × PH) → Option (Int32 × PH)) (zv0 : Nat) (zv1 : Int32) (zv2 : Int32) (zv3 : Int32) (zv4 : Int32) (zh : PH) : Option (Int32 × PH) :=
  if (zv4 : Int32) ≤ 0 then (
  f_X8_add_89 N zv0 zv1 zv2 zv3 zv4 zh)
  else (
  gb (gfR 8 2 zv0 zh) fun zt2 =>
  gb (arI 0 zt2 (zv4 - 1) zh) fun zt3 =>
  if (zt3 : Int32) ≤ zv3 then (
  f_X8_add_89 N zv0 zv1 zv2 zv3 zv4 zh)
  else (
  gb (gfR 8 0 zv0 zh) fun zt5 =>
  gb (gfR 8 0 zv0 zh) fun zt6 =>
  gb (arI 0 zt6 (zv4 - 1) zh) fun zt7 =>
  gb (asI 0 zt5 zv4 zt7 zh) fun zh8 =>
  gb (gfR 8 1 zv0 zh8) fun zt9 =>
  gb (gfR 8 1 zv0 zh8) fun zt10 =>
  gb (arI 0 zt10 (zv4 - 1) zh8) fun zt11 =>
  gb (asI 0 zt9 zv4 zt11 zh8) fun zh12 =>
  gb (gfR 8 2 zv0 zh12) fun zt13 =>
  gb (gfR 8 2 zv0 zh12) fun zt14 =>
  gb (arI 0 zt14 (zv4 - 1) zh12) fun zt15 =>
  gb (asI 0 zt13 zv4 zt15 zh12) fun zh16 =>
  gl (zv4 + (-1)) fun (zx17 : Int32) =>
  zk17 (zv0, zv1, zv2, zv3, zx17, zh16)))
def f_X8_add (N : Nat) (za0 : Nat) (za1 : Int32) (za2 : Int32) (za3 : Int32) (zh : PH) : Option (Int32 × PH) :=
  gb (gfI 8 5 za0 zh) fun zt1 =>
  if (zt1 : Int32) < 20 then (
  gb (gfI 8 5 za0 zh) fun zt3 =>
  gi (fun zk zs => f_X8_add_17 N zk zs.1 zs.2.1 zs.2.2.1 zs.2.2.2.1 zs.2.2.2.2.1 zs.2.2.2.2.2) N (za0, za1, za2, za3, zt3, zh))
  else (
  gg (gzb 0) (some (0, zh)))
def f_X8_isInReach_31 (N : Nat) (zs0 : Int32) (zh : PH) : Option (Int32 × PH) :=
  gg (gzb zs0) (some (zs0, zh))
def f_X8_isInReach (N : Nat) (za0 : Nat) (za1 : Nat) (za2 : Int32) (za3 : Int32) (za4 : Int32) (zh : PH) : Option (Int32 × PH) :=
  gb (gfR 8 1 za0 zh) fun zt1 =>
  gb (arI 0 zt1 za2 zh) fun zt2 =>
  gg (gIs 2 za1 zh) <|
  gc (f_X2_walkBetween N za1 zt2 za3 zh) fun zt4 zh3 =>
  gb (gfR 8 2 za0 zh3) fun zt5 =>
  gb (arI 0 zt5 za2 zh3) fun zt6 =>
  if ((gabs (zt6 - za4)) : Int32) < zt4 then (
  f_X8_isInReach_31 N 0 zh3)
  else (
  f_X8_isInReach_31 N 1 zh3)
def f_X8_possibleIn_50 (N : Nat) (zk13 : (Nat × Nat × Int32 × Int32 × Int32 × Int32 × PH) → Option (Int32 × PH)) (zv0 : Nat) (zv1 : Nat) (zv2 : Int32) (zv3 : Int32) (zv4 : Int32) (zv5 : Int32) (zh : PH) : Option (Int32 × PH) :=
  gl (zv5 + 1) fun (zx1 : Int32) =>
  zk13 (zv0, zv1, zv2, zv3, zv4, zx1, zh)
def f_X8_possibleIn_13 (N : Nat) (zk13 : (Nat × Nat × Int32 × Int32 × Int32 × Int32 × PH) → Option (Int32 × PH)) (zv0 : Nat) (zv1 : Nat) (zv2 : Int32) (zv3 : Int32) (zv4 : Int32) (zv5 : Int32) (zh : PH) : Option (Int32 × PH) :=
  gb (gfI 8 5 zv0 zh) fun zt1 =>
  if (zt1 : Int32) ≤ zv5 then (
  some (zv4, zh))
  else (
  gg (gIs 8 zv0 zh) <|
  gc (f_X8_isInReach N zv0 zv1 zv5 zv2 zv3 zh) fun zt4 zh3 =>
  if (zt4 : Int32) = 0 then (
  gb (gfR 8 0 zv0 zh3) fun zt6 =>
  gb (arI 0 zt6 zv5 zh3) fun zt7 =>
  gl ((zv4 &&& ((1 <<< (zt7 &&& 31)) ^^^ (-1)))) fun (zx8 : Int32) =>
  f_X8_possibleIn_50 N zk13 zv0 zv1 zv2 zv3 zx8 zv5 zh3)
  else (
  f_X8_possibleIn_50 N zk13 zv0 zv1 zv2 zv3 zv4 zv5 zh3))
def f_X8_possibleIn (N : Nat) (za0 : Nat) (za1 : Nat) (za2 : Int32) (za3 : Int32) (zh : PH) : Option (Int32 × PH) :=
  gb (gfI 2 1 za1 zh) fun zt1 =>
  gl (((1 <<< (zt1 &&& 31)) - 1)) fun (zx2 : Int32) =>
  gi (fun zk zs => f_X8_possibleIn_13 N zk zs.1 zs.2.1 zs.2.2.1 zs.2.2.2.1 zs.2.2.2.2.1 zs.2.2.2.2.2.1 zs.2.2.2.2.2.2) N (za0, za1, za2, za3, zx2, 0, zh)
def f_X8_fewestFalse_98 (N : Nat) (zk12 : (Nat × Nat × Int32 × Int32 × PH) → Option (Int32 × PH)) (zk30 : (Nat × Nat × Int32 × Int32 × Int32 × PH) → Option (Int32 × PH)) (zv0 : Nat) (zv1 : Nat) (zv2 : Int32) (zv3 : Int32) (zv4 : Int32) (zh : PH) : Option (Int32 × PH) :=
  gl (zv4 + 1) fun (zx1 : Int32) =>
  zk30 (zv0, zv1, zv2, zv3, zx1, zh)
def f_X8_fewestFalse_30 (N : Nat) (zk12 : (Nat × Nat × Int32 × Int32 × PH) → Option (Int32 × PH)) (zk30 : (Nat × Nat × Int32 × Int32 × Int32 × PH) → Option (Int32 × PH)) (zv0 : Nat) (zv1 : Nat) (zv2 : Int32) (zv3 : Int32) (zv4 : Int32) (zh : PH) : Option (Int32 × PH) :=
  if (zv3 : Int32) ≤ zv4 then (
  gb (gfR 8 3 zv0 zh) fun zt2 =>
  gb (arI 0 zt2 zv3 zh) fun zt3 =>
  gb (gfR 8 4 zv0 zh) fun zt4 =>
  gb (gfR 8 0 zv0 zh) fun zt5 =>
  gb (arI 0 zt5 zv3 zh) fun zt6 =>
  gb (arI 0 zt4 zt6 zh) fun zt7 =>
  gl ((gmax 0 (zt3 - zt7))) fun (zx8 : Int32) =>
  gb (gfR 8 4 zv0 zh) fun zt9 =>
  gb (gfR 8 0 zv0 zh) fun zt10 =>
  gb (arI 0 zt10 zv3 zh) fun zt11 =>
  gb (arI 0 zt9 zt11 zh) fun zt12 =>
  gb (asI 0 zt9 zt11 (zt12 + zx8) zh) fun zh13 =>
  gl ((zv2 + zx8)) fun (zx14 : Int32) =>
  gl (zv3 + 1) fun (zx15 : Int32) =>
  zk12 (zv0, zv1, zx14, zx15, zh13))
  else (
  gb (gfR 8 0 zv0 zh) fun zt16 =>
  gb (arI 0 zt16 zv4 zh) fun zt17 =>
  gb (gfR 8 0 zv0 zh) fun zt18 =>
  gb (arI 0 zt18 zv3 zh) fun zt19 =>
  if (zt17 : Int32) = zt19 then (
  gb (gfR 8 1 zv0 zh) fun zt21 =>
  gb (arI 0 zt21 zv3 zh) fun zt22 =>
  gb (gfR 8 2 zv0 zh) fun zt23 =>
  gb (arI 0 zt23 zv3 zh) fun zt24 =>
  gg (gIs 8 zv0 zh) <|
  gc (f_X8_isInReach N zv0 zv1 zv4 zt22 zt24 zh) fun zt26 zh25 =>
  if (zt26 : Int32) = 0 then (
  f_X8_fewestFalse_98 N zk12 zk30 zv0 zv1 zv2 zv3 zv4 zh25)
  else (
  gb (gfR 8 3 zv0 zh25) fun zt28 =>
  gb (gfR 8 3 zv0 zh25) fun zt29 =>
  gb (arI 0 zt29 zv3 zh25) fun zt30 =>
  gb (gfR 8 3 zv0 zh25) fun zt31 =>
  gb (arI 0 zt31 zv4 zh25) fun zt32 =>
  gb (asI 0 zt28 zv3 (gmax zt30 (zt32 + 1)) zh25) fun zh33 =>
  f_X8_fewestFalse_98 N zk12 zk30 zv0 zv1 zv2 zv3 zv4 zh33))
  else (
  f_X8_fewestFalse_98 N zk12 zk30 zv0 zv1 zv2 zv3 zv4 zh))
def f_X8_fewestFalse_12 (N : Nat) (zk12 : (Nat × Nat × Int32 × Int32 × PH) → Option (Int32 × PH)) (zv0 : Nat) (zv1 : Nat) (zv2 : Int32) (zv3 : Int32) (zh : PH) : Option (Int32 × PH) :=
  gb (gfI 8 5 zv0 zh) fun zt1 =>
  if (zt1 : Int32) ≤ zv3 then (
  gb (gfI 8 5 zv0 zh) fun zt3 =>
  some ((zt3 - zv2), zh))
  else (
  gb (gfR 8 3 zv0 zh) fun zt4 =>
  gb (asI 0 zt4 zv3 1 zh) fun zh5 =>
  gi (fun zk zs => f_X8_fewestFalse_30 N zk12 zk zs.1 zs.2.1 zs.2.2.1 zs.2.2.2.1 zs.2.2.2.2.1 zs.2.2.2.2.2) N (zv0, zv1, zv2, zv3, 0, zh5))
def f_X8_fewestFalse (N : Nat) (za0 : Nat) (za1 : Nat) (zh : PH) : Option (Int32 × PH) :=
  gb (gfR 8 4 za0 zh) fun zt1 =>
  gb (f_J7_fill_53178 N zt1 0 zh) fun zh2 =>
  gi (fun zk zs => f_X8_fewestFalse_12 N zk zs.1 zs.2.1 zs.2.2.1 zs.2.2.2.1 zs.2.2.2.2) N (za0, za1, 0, 0, zh2)
def f_X9_init_79 (N : Nat) (zk79 : (Nat × Int32 × PH) → Option PH) (zv0 : Nat) (zv2 : Int32) (zh : PH) : Option PH :=
  gb (gfR 9 2 zv0 zh) fun zt1 =>
  gb (alen 4 zt1 zh) fun zt2 =>
  if (zt2 : Int32) ≤ zv2 then (
  some zh)
  else (
  gb (gfR 9 2 zv0 zh) fun zt4 =>
  gc (nwO 1 n0X1 zh) fun zr6 zh5 =>
  gb (f_X1_init N zr6 zh5) fun zh7 =>
  gb (asQ 4 zt4 1 zv2 zr6 zh7) fun zh8 =>
  gl (zv2 + 1) fun (zx9 : Int32) =>
  zk79 (zv0, zx9, zh8))
def f_X9_init (N : Nat) (za0 : Nat) (za1 : Nat) (zh : PH) : Option PH :=
  gc (nwO 1 n0X1 zh) fun zr2 zh1 =>
  gb (f_X1_init N zr2 zh1) fun zh3 =>
  gb (pfV 9 1 za0 (.ref zr2) zh3) fun zh4 =>
  gc (nwA 4 5 zh4) fun zr6 zh5 =>
  gb (pfV 9 2 za0 (.ref zr6) zh5) fun zh7 =>
  gc (nwO 0 n0X0 zh7) fun zr9 zh8 =>
  gb (f_X0_init N zr9 zh8) fun zh10 =>
  gb (pfV 9 3 za0 (.ref zr9) zh10) fun zh11 =>
  gc (nwO 8 n0X8 zh11) fun zr13 zh12 =>
  gb (f_X8_init N zr13 zh12) fun zh14 =>
  gb (pfV 9 4 za0 (.ref zr13) zh14) fun zh15 =>
  gc (nwO 6 n0X6 zh15) fun zr17 zh16 =>
  gb (f_X6_init N zr17 zh16) fun zh18 =>
  gb (pfV 9 5 za0 (.ref zr17) zh18) fun zh19 =>
  gc (nwO 4 n0X4 zh19) fun zr21 zh20 =>
  gb (f_X4_init N zr21 zh20) fun zh22 =>
  gb (pfV 9 6 za0 (.ref zr21) zh22) fun zh23 =>
  gb (pfV 9 8 za0 (.int (-1)) zh23) fun zh24 =>
  gb (pfV 9 0 za0 (.ref za1) zh24) fun zh25 =>
  gi (fun zk zs => f_X9_init_79 N zk zs.1 zs.2.1 zs.2.2) 6 (za0, 0, zh25)
def f_X9_reset_9 (N : Nat) (zk9 : (Nat × Int32 × Int32 × PH) → Option PH) (zv0 : Nat) (zv1 : Int32) (zv2 : Int32) (zh : PH) : Option PH :=
  gb (gfR 9 2 zv0 zh) fun zt1 =>
  gb (alen 4 zt1 zh) fun zt2 =>
  if (zt2 : Int32) ≤ zv2 then (
  gb (gfR 9 3 zv0 zh) fun zt4 =>
  gg (gIs 0 zt4 zh) <|
  gb (f_X0_empty N zt4 zh) fun zh5 =>
  gb (gfR 9 4 zv0 zh5) fun zt6 =>
  gb (pfV 8 5 zt6 (.int 0) zh5) fun zh7 =>
  gb (gfR 9 5 zv0 zh7) fun zt8 =>
  gb (gfR 6 0 zt8 zh7) fun zt9 =>
  gb (f_J7_fill_53178 N zt9 0 zh7) fun zh10 =>
  gb (gfR 9 6 zv0 zh10) fun zt11 =>
  gb (pfV 4 3 zt11 (.int 0) zh10) fun zh12 =>
  gb (pfV 9 7 zv0 (.int 0) zh12) fun zh13 =>
  gb (pfV 9 8 zv0 (.int zv1) zh13) fun zh14 =>
  gb (pfV 9 9 zv0 (.int 0) zh14) fun zh15 =>
  gb (pfV 9 10 zv0 (.int 0) zh15) fun zh16 =>
  some zh16)
  else (
  gb (gfR 9 2 zv0 zh) fun zt17 =>
  gb (arR 4 zt17 zv2 zh) fun zt18 =>
  gg (gIs 1 zt18 zh) <|
  gb (f_X1_empty N zt18 zh) fun zh19 =>
  gl (zv2 + 1) fun (zx20 : Int32) =>
  zk9 (zv0, zv1, zx20, zh19))
def f_X9_reset (N : Nat) (za0 : Nat) (za1 : Int32) (zh : PH) : Option PH :=
  gb (gfR 9 1 za0 zh) fun zt1 =>
  gg (gIs 1 zt1 zh) <|
  gb (f_X1_empty N zt1 zh) fun zh2 =>
  gi (fun zk zs => f_X9_reset_9 N zk zs.1 zs.2.1 zs.2.2.1 zs.2.2.2) N (za0, za1, 0, zh2)
def f_X9_copyFrom_13 (N : Nat) (zk13 : (Nat × Nat × Int32 × PH) → Option PH) (zv0 : Nat) (zv1 : Nat) (zv2 : Int32) (zh : PH) : Option PH :=
  gb (gfR 9 2 zv0 zh) fun zt1 =>
  gb (alen 4 zt1 zh) fun zt2 =>
  if (zt2 : Int32) ≤ zv2 then (
  gb (gfR 9 3 zv0 zh) fun zt4 =>
  gb (gfR 9 3 zv1 zh) fun zt5 =>
  gg (gIs 0 zt4 zh) <|
  gb (f_X0_copyFrom N zt4 zt5 zh) fun zh6 =>
  gb (gfR 9 4 zv0 zh6) fun zt7 =>
  gb (gfR 9 4 zv1 zh6) fun zt8 =>
  gg (gIs 8 zt7 zh6) <|
  gb (f_X8_copyFrom N zt7 zt8 zh6) fun zh9 =>
  gb (gfR 9 5 zv1 zh9) fun zt10 =>
  gb (gfR 6 0 zt10 zh9) fun zt11 =>
  gb (gfR 9 5 zv0 zh9) fun zt12 =>
  gb (gfR 6 0 zt12 zh9) fun zt13 =>
  gb (cpI 0 zt11 0 zt13 0 10 zh9) fun zh14 =>
  gb (gfR 9 6 zv0 zh14) fun zt15 =>
  gb (gfR 9 6 zv1 zh14) fun zt16 =>
  gg (gIs 4 zt15 zh14) <|
  gb (f_X4_copyFrom N zt15 zt16 zh14) fun zh17 =>
  gb (gfI 9 7 zv1 zh17) fun zt18 =>
  gb (pfV 9 7 zv0 (.int zt18) zh17) fun zh19 =>
  gb (gfI 9 8 zv1 zh19) fun zt20 =>
  gb (pfV 9 8 zv0 (.int zt20) zh19) fun zh21 =>
  gb (gfI 9 9 zv1 zh21) fun zt22 =>
  gb (pfV 9 9 zv0 (.int zt22) zh21) fun zh23 =>
  gb (gfI 9 10 zv1 zh23) fun zt24 =>
  gb (pfV 9 10 zv0 (.int zt24) zh23) fun zh25 =>
  some zh25)
  else (
  gb (gfR 9 2 zv0 zh) fun zt26 =>
  gb (arR 4 zt26 zv2 zh) fun zt27 =>
  gb (gfR 9 2 zv1 zh) fun zt28 =>
  gb (arR 4 zt28 zv2 zh) fun zt29 =>
  gg (gIs 1 zt27 zh) <|
  gb (f_X1_copyFrom N zt27 zt29 zh) fun zh30 =>
  gl (zv2 + 1) fun (zx31 : Int32) =>
  zk13 (zv0, zv1, zx31, zh30))
def f_X9_copyFrom (N : Nat) (za0 : Nat) (za1 : Nat) (zh : PH) : Option PH :=
  gb (gfR 9 1 za0 zh) fun zt1 =>
  gb (gfR 9 1 za1 zh) fun zt2 =>
  gg (gIs 1 zt1 zh) <|
  gb (f_X1_copyFrom N zt1 zt2 zh) fun zh3 =>
  gi (fun zk zs => f_X9_copyFrom_13 N zk zs.1 zs.2.1 zs.2.2.1 zs.2.2.2) N (za0, za1, 0, zh3)
def f_X9_trialOf (N : Nat) (za0 : Nat) (za1 : Int32) (zh : PH) : Option (Nat × PH) :=
  gb (gfR 9 2 za0 zh) fun zt1 =>
  gb (arR 4 zt1 (za1 + 1) zh) fun zt2 =>
  some (zt2, zh)
def f_X9_note (N : Nat) (za0 : Nat) (za1 : Int32) (zh : PH) : Option PH :=
  gb (gfR 9 3 za0 zh) fun zt1 =>
  gg (gIs 0 zt1 zh) <|
  gb (f_X0_beginChain N zt1 za1 zh) fun zh2 =>
  gb (pfV 9 9 za0 (.int za1) zh2) fun zh3 =>
  gb (gfI 9 10 za0 zh3) fun zt4 =>
  gb (pfV 9 10 za0 (.int (zt4 + 1)) zh3) fun zh5 =>
  some zh5
def f_X9_takeIn_21 (N : Nat) (zk21 : (Nat × Nat × Int32 × Int32 × PH) → Option PH) (zv0 : Nat) (zv1 : Nat) (zv2 : Int32) (zv4 : Int32) (zh : PH) : Option PH :=
  gb (gfI 2 2 zv1 zh) fun zt1 =>
  if (zt1 : Int32) ≤ zv4 then (
  gb (gfI 9 7 zv0 zh) fun zt3 =>
  gb (pfV 9 7 zv0 (.int (zt3 &&& ((1 <<< (zv2 &&& 31)) ^^^ (-1)))) zh) fun zh4 =>
  some zh4)
  else (
  gg (gIs 9 zv0 zh) <|
  gc (f_X9_trialOf N zv0 zv4 zh) fun zt6 zh5 =>
  gg (gIs 1 zt6 zh5) <|
  gb (f_X1_takeIn N zt6 zv1 zv2 none zh5) fun zh7 =>
  gl (zv4 + 1) fun (zx8 : Int32) =>
  zk21 (zv0, zv1, zv2, zx8, zh7))
def f_X9_takeIn (N : Nat) (za0 : Nat) (za1 : Nat) (za2 : Int32) (za3 : Int32) (zh : PH) : Option PH :=
  gg (gIs 9 za0 zh) <|
  gb (f_X9_note N za0 za3 zh) fun zh1 =>
  gb (gfR 9 1 za0 zh1) fun zt2 =>
  gb (gfR 9 3 za0 zh1) fun zt3 =>
  gg (gIs 1 zt2 zh1) <|
  gb (f_X1_takeIn N zt2 za1 za2 (some zt3) zh1) fun zh4 =>
  gi (fun zk zs => f_X9_takeIn_21 N zk zs.1 zs.2.1 zs.2.2.1 zs.2.2.2.1 zs.2.2.2.2) N (za0, za1, za2, (-1), zh4)
def f_X9_letOut_29 (N : Nat) (zk29 : (Nat × Nat × Int32 × Int32 × PH) → Option PH) (zv0 : Nat) (zv1 : Nat) (zv2 : Int32) (zv4 : Int32) (zh : PH) : Option PH :=
  gb (gfI 2 2 zv1 zh) fun zt1 =>
  if (zt1 : Int32) ≤ zv4 then (
  some zh)
  else (
  gg (gIs 9 zv0 zh) <|
  gc (f_X9_trialOf N zv0 zv4 zh) fun zt4 zh3 =>
  gb (gfR 9 0 zv0 zh3) fun zt5 =>
  gg (gIs 1 zt4 zh3) <|
  gb (f_X1_letOut N zt4 zv1 zv2 zv4 zt5 none zh3) fun zh6 =>
  gl (zv4 + 1) fun (zx7 : Int32) =>
  zk29 (zv0, zv1, zv2, zx7, zh6))
def f_X9_letOut (N : Nat) (za0 : Nat) (za1 : Nat) (za2 : Int32) (za3 : Int32) (zh : PH) : Option PH :=
  gg (gIs 9 za0 zh) <|
  gb (f_X9_note N za0 za3 zh) fun zh1 =>
  gb (gfR 9 1 za0 zh1) fun zt2 =>
  gb (gfI 9 8 za0 zh1) fun zt3 =>
  gb (gfR 9 0 za0 zh1) fun zt4 =>
  gb (gfR 9 3 za0 zh1) fun zt5 =>
  gg (gIs 1 zt2 zh1) <|
  gb (f_X1_letOut N zt2 za1 za2 zt3 zt4 (some zt5) zh1) fun zh6 =>
  gi (fun zk zs => f_X9_letOut_29 N zk zs.1 zs.2.1 zs.2.2.1 zs.2.2.2.1 zs.2.2.2.2) N (za0, za1, za2, (-1), zh6)
def f_X10_init (N : Nat) (za0 : Nat) (zh : PH) : Option PH :=
  gc (nwA 2 1000 zh) fun zr2 zh1 =>
  gb (pfV 10 0 za0 (.ref zr2) zh1) fun zh3 =>
  some zh3
def f_X10_length (N : Nat) (za0 : Nat) (zh : PH) : Option (Int32 × PH) :=
  gb (gfI 10 1 za0 zh) fun zt1 =>
  some (zt1, zh)
def f_X10_empty (N : Nat) (za0 : Nat) (zh : PH) : Option PH :=
  gb (pfV 10 1 za0 (.int 0) zh) fun zh1 =>
  some zh1
def f_X10_isSign_23 (N : Nat) (zs0 : Int32) (zh : PH) : Option (Int32 × PH) :=
  gg (gzb zs0) (some (zs0, zh))
def f_X10_isSign_22 (N : Nat) (zh : PH) : Option (Int32 × PH) :=
  f_X10_isSign_23 N 0 zh
def f_X10_isSign_18 (N : Nat) (zh : PH) : Option (Int32 × PH) :=
  f_X10_isSign_23 N 1 zh
def f_X10_isSign (N : Nat) (za0 : Int32) (zh : PH) : Option (Int32 × PH) :=
  if (za0 : Int32) = 10 then (
  f_X10_isSign_18 N  zh)
  else (
  if (za0 : Int32) < 32 then (
  f_X10_isSign_22 N  zh)
  else (
  if (126 : Int32) < za0 then (
  f_X10_isSign_22 N  zh)
  else (
  f_X10_isSign_18 N  zh)))
def f_X10_append_57 (N : Nat) (zk3 : (Nat × Int64 × Int32 × PH) → Option PH) (zv0 : Nat) (zv1 : Int64) (zv3 : Int32) (zh : PH) : Option PH :=
  gl (zv3 + (-8)) fun (zx1 : Int32) =>
  zk3 (zv0, zv1, zx1, zh)
def f_X10_append_3 (N : Nat) (zk3 : (Nat × Int64 × Int32 × PH) → Option PH) (zv0 : Nat) (zv1 : Int64) (zv3 : Int32) (zh : PH) : Option PH :=
  if (zv3 : Int32) < 0 then (
  some zh)
  else (
  gl (((Int64.toInt32 ((Int64.toUInt64 zv1 >>> ((Int32.toInt64 zv3).toUInt64 &&& Int64.toUInt64 63)).toInt64)) &&& 255)) fun (zx2 : Int32) =>
  gc (f_X10_isSign N zx2 zh) fun zt4 zh3 =>
  if (zt4 : Int32) = 0 then (
  f_X10_append_57 N zk3 zv0 zv1 zv3 zh3)
  else (
  gb (gfI 10 1 zv0 zh3) fun zt6 =>
  if (1000 : Int32) ≤ zt6 then (
  f_X10_append_57 N zk3 zv0 zv1 zv3 zh3)
  else (
  gb (gfR 10 0 zv0 zh3) fun zt8 =>
  gb (gfI 10 1 zv0 zh3) fun zt9 =>
  gb (asI 2 zt8 zt9 ((Int32.toInt8 zx2).toInt32) zh3) fun zh10 =>
  gb (gfI 10 1 zv0 zh10) fun zt11 =>
  gb (pfV 10 1 zv0 (.int (zt11 + 1)) zh10) fun zh12 =>
  f_X10_append_57 N zk3 zv0 zv1 zv3 zh12)))
def f_X10_append (N : Nat) (za0 : Nat) (za1 : Int64) (zh : PH) : Option PH :=
  gi (fun zk zs => f_X10_append_3 N zk zs.1 zs.2.1 zs.2.2.1 zs.2.2.2) N (za0, za1, 56, zh)
def f_X11_init (N : Nat) (za0 : Nat) (zh : PH) : Option PH :=
  gc (nwO 10 n0X10 zh) fun zr2 zh1 =>
  gb (f_X10_init N zr2 zh1) fun zh3 =>
  gb (pfV 11 0 za0 (.ref zr2) zh3) fun zh4 =>
  gc (nwO 3 n0X3 zh4) fun zr6 zh5 =>
  gb (gfR 11 0 za0 zh5) fun zt7 =>
  gb (f_X3_init N zr6 zt7 zh5) fun zh8 =>
  gb (pfV 11 1 za0 (.ref zr6) zh8) fun zh9 =>
  gc (nwO 7 n0X7 zh9) fun zr11 zh10 =>
  gb (f_X7_init N zr11 zh10) fun zh12 =>
  gb (pfV 11 2 za0 (.ref zr11) zh12) fun zh13 =>
  gc (nwO 9 n0X9 zh13) fun zr15 zh14 =>
  gb (gfR 11 2 za0 zh14) fun zt16 =>
  gb (f_X9_init N zr15 zt16 zh14) fun zh17 =>
  gb (pfV 11 3 za0 (.ref zr15) zh17) fun zh18 =>
  gc (nwA 5 4 zh18) fun zr20 zh19 =>
  gb (pfV 11 4 za0 (.ref zr20) zh19) fun zh21 =>
  gc (nwO 5 n0X5 zh21) fun zr23 zh22 =>
  gb (f_X5_init N zr23 zh22) fun zh24 =>
  gb (pfV 11 5 za0 (.ref zr23) zh24) fun zh25 =>
  gc (nwO 1 n0X1 zh25) fun zr27 zh26 =>
  gb (f_X1_init N zr27 zh26) fun zh28 =>
  gb (pfV 11 6 za0 (.ref zr27) zh28) fun zh29 =>
  gc (nwA 0 7 zh29) fun zr31 zh30 =>
  gb (pfV 11 7 za0 (.ref zr31) zh30) fun zh32 =>
  gc (nwA 0 1024 zh32) fun zr34 zh33 =>
  gb (pfV 11 8 za0 (.ref zr34) zh33) fun zh35 =>
  gc (nwO 2 n0X2 zh35) fun zr37 zh36 =>
  gb (f_X2_init N zr37 zh36) fun zh38 =>
  gb (pfV 11 9 za0 (.ref zr37) zh38) fun zh39 =>
  gc (nwO 2 n0X2 zh39) fun zr41 zh40 =>
  gb (f_X2_init N zr41 zh40) fun zh42 =>
  gb (pfV 11 10 za0 (.ref zr41) zh42) fun zh43 =>
  some zh43
abbrev rm_X6_waysBeside : Room := { frames := 1, cells := 0, slots := 0, locals := 20 }
set_option maxHeartbeats 4000000 in
set_option maxRecDepth 100000 in
theorem c_X6_waysBeside (l : Launch) (E : gE) (N : Nat) (za0 : Int32) (za1 : Int32) (za2 : Nat) (za3 : Int32) (zh : PH) {h9 : PH} {r9 : Int32} (hf : f_X6_waysBeside N za0 za1 za2 za3 zh = some (r9, h9)) : Met l yX6_waysBeside (gWS yX6_waysBeside cX6_waysBeside 6 (some .int)) rm_X6_waysBeside (gPc E [.int za0, .int za1, .ref (gB E + za2), .int za3] zh) (gQi E r9 h9) 0 0 (gA E) := by
  refine gx_met (by decide) ?_ rfl
  intro p e s m below meth c X hr hlk hin2 hw
  have hx := X.1.1
  have hb := X.1.2.1
  have hl := lv_entry [.int za0, .int za1, .ref (gB E + za2), .int za3] (n := 6) (Nat.le_of_ble_eq_true rfl)
  rw [lg_entry_eq]
  generalize (lg_sl [.int za0, .int za1, .ref (gB E + za2), .int za3] ++ List.replicate (6 - (lg_sl [.int za0, .int za1, .ref (gB E + za2), .int za3]).length) Slot.unset).toArray = ls at hl ⊢
  have hl : lv_has ls 6 [(0, .int za0), (1, .int za1), (2, .ref (gB E + za2)), (3, .int za3)] := hl
  have L_6 : ∀ (zn6 : Nat) (zv0 : Int32) (zv1 : Int32) (zv2 : Nat) (zv3 : Int32) (zv4 : Int32) (zv5 : Int32) (zh : PH) (H : Heap) (locs : List Loc) (ls : Array Slot), gi (fun zk zs => f_X6_waysBeside_6 N zk zs.1 zs.2.1 zs.2.2.1 zs.2.2.2.1 zs.2.2.2.2.1 zs.2.2.2.2.2.1 zs.2.2.2.2.2.2) zn6 (zv0, zv1, zv2, zv3, zv4, zv5, zh) = some (r9, h9) → gw E s zh H locs → lv_has ls 6 [(0, .int zv0), (1, .int zv1), (2, .ref (gB E + zv2)), (3, .int zv3), (4, .int zv4), (5, .int zv5)] → W p l e rm_X6_waysBeside s m [.int za0, .int za1, .ref (gB E + za2), .int za3].toArray below meth c H locs 0 0 (MQ below (gQi E r9 h9) [.int za0, .int za1, .ref (gB E + za2), .int za3].toArray s 0 0 (gA E)) (F0 m 6 ls []) := by
    intro zn6
    induction zn6 with
    | zero =>
      intro zv0 zv1 zv2 zv3 zv4 zv5 zh H locs ls hf
      cases hf
    | succ zn6 ih_6 =>
      have J_39 : ∀ (zv0 : Int32) (zv1 : Int32) (zv2 : Nat) (zv3 : Int32) (zv4 : Int32) (zv5 : Int32) (zh : PH) (H : Heap) (locs : List Loc) (ls : Array Slot), f_X6_waysBeside_39 N (gi (fun zk zs => f_X6_waysBeside_6 N zk zs.1 zs.2.1 zs.2.2.1 zs.2.2.2.1 zs.2.2.2.2.1 zs.2.2.2.2.2.1 zs.2.2.2.2.2.2) zn6) zv0 zv1 zv2 zv3 zv4 zv5 zh = some (r9, h9) → gw E s zh H locs → lv_has ls 6 [(0, .int zv0), (1, .int zv1), (2, .ref (gB E + zv2)), (3, .int zv3), (4, .int zv4), (5, .int zv5)] → W p l e rm_X6_waysBeside s m [.int za0, .int za1, .ref (gB E + za2), .int za3].toArray below meth c H locs 0 0 (MQ below (gQi E r9 h9) [.int za0, .int za1, .ref (gB E + za2), .int za3].toArray s 0 0 (gA E)) (F0 m 39 ls []) := by
        intro zv0 zv1 zv2 zv3 zv4 zv5 zh H locs ls hf hw hl
        unfold f_X6_waysBeside_39 at hf
        obtain ⟨zx1, ezx1⟩ : ∃ y : Int32, y = zv5 + 1 := ⟨_, rfl⟩
        have hf := gl_el hf ezx1
        refine lv_iinc (v := zx1) (lv' := [(5, .int zx1), (0, .int zv0), (1, .int zv1), (2, .ref (gB E + zv2)), (3, .int zv3), (4, .int zv4)]) hx hb dX6_waysBeside_39 hl (k := 5) rfl (by rw [ezx1]; rfl) (by decide) rfl (fun ls hl => ?_)
        refine lv_goto (tgt := 6) hx hb dX6_waysBeside_42 (by decide) ?_
        exact ih_6 zv0 zv1 zv2 zv3 zv4 zx1 _ _ _ ls hf hw (lv_sub hl [1, 2, 3, 4, 5, 0] rfl)
      intro zv0 zv1 zv2 zv3 zv4 zv5 zh H locs ls hf hw hl
      have hf := gi_s hf
      dsimp only at hf
      unfold f_X6_waysBeside_6 at hf
      refine lv_iload hx hb dX6_waysBeside_6 (lv_at hl 5 rfl) ?_
      refine lv_iconst (v := 1) hx hb dX6_waysBeside_8 (by decide) ?_
      refine lv_iload_n hx hb dX6_waysBeside_9 rfl (lv_at hl 3 rfl) ?_
      refine lv_ishl hx hb dX6_waysBeside_10 ?_
      refine lv_icmp_ge (tgt := 45) hx hb dX6_waysBeside_11 (by decide) (fun qc1 => ?_) (fun qc1 => ?_)
      · have hf := gif_t hf qc1
        refine lv_iload hx hb dX6_waysBeside_45 (lv_at hl 4 rfl) ?_
        exact gx_iret X hr hlk hw hf dX6_waysBeside_47
      · have hf := gif_f hf qc1
        refine lv_iload hx hb dX6_waysBeside_14 (lv_at hl 5 rfl) ?_
        obtain ⟨zt3, zh2, qzh2, hf⟩ := gc_el hf
        refine gx_ki (gx_runS (As := [.int zv5]) (rest := []) X hw (c_J6_bitCount_0f7a4 l E N zv5 zh qzh2) kJ6_bitCount_0f7a4 mm_X6_36 ⟨Nat.le_of_ble_eq_true rfl, Nat.le_of_ble_eq_true rfl⟩ rfl rfl rfl hl.1 (Nat.le_of_ble_eq_true rfl) rfl dX6_waysBeside_16 ⟨Nat.le_of_ble_eq_true rfl, Nat.le_of_ble_eq_true rfl⟩) hw (fun H locs hw => ?_)
        refine lv_iload_n hx hb dX6_waysBeside_19 rfl (lv_at hl 1 rfl) ?_
        refine lv_icmp_ne (tgt := 39) hx hb dX6_waysBeside_20 (by decide) (fun qc4 => ?_) (fun qc4 => ?_)
        · have hf := gif_f hf qc4
          exact J_39 zv0 zv1 zv2 zv3 zv4 zv5 _ _ _ ls hf hw (lv_sub hl [0, 1, 2, 3, 4, 5] rfl)
        · have hf := gif_t hf qc4
          refine W.eq (g2 := F0 m 23 ls []) rfl ?_
          refine lv_iload hx hb dX6_waysBeside_23 (lv_at hl 5 rfl) ?_
          refine lv_iload_n hx hb dX6_waysBeside_25 rfl (lv_at hl 0 rfl) ?_
          refine lv_iand hx hb dX6_waysBeside_26 ?_
          refine lv_if_ne (tgt := 39) hx hb dX6_waysBeside_27 (by decide) (fun qc5 => ?_) (fun qc5 => ?_)
          · have hf := gif_f hf qc5
            exact J_39 zv0 zv1 zv2 zv3 zv4 zv5 _ _ _ ls hf hw (lv_sub hl [0, 1, 2, 3, 4, 5] rfl)
          · have hf := gif_t hf qc5
            refine lv_iload hx hb dX6_waysBeside_30 (lv_at hl 4 rfl) ?_
            refine lv_aload_n hx hb dX6_waysBeside_32 rfl (lv_at hl 2 rfl) ?_
            refine lv_iload hx hb dX6_waysBeside_33 (lv_at hl 5 rfl) ?_
            obtain ⟨zt6, qzt6, hf⟩ := gb_el hf
            refine gx_iald X hw qzt6 dX6_waysBeside_35 ?_
            refine lv_iadd hx hb dX6_waysBeside_36 ?_
            refine lv_topi (fun zx7 ezx7 => ?_)
            have hf := gl_el hf ezx7
            refine lv_istore (lv' := [(4, .int zx7), (0, .int zv0), (1, .int zv1), (2, .ref (gB E + zv2)), (3, .int zv3), (5, .int zv5)]) hx hb dX6_waysBeside_37 hl (by decide) rfl (fun ls hl => ?_)
            exact J_39 zv0 zv1 zv2 zv3 zx7 zv5 _ _ _ ls hf hw (lv_sub hl [1, 2, 3, 4, 0, 5] rfl)
  unfold f_X6_waysBeside at hf
  refine lv_iconst (v := 0) hx hb dX6_waysBeside_0 (by decide) ?_
  refine lv_istore (lv' := [(4, .int 0), (0, .int za0), (1, .int za1), (2, .ref (gB E + za2)), (3, .int za3)]) hx hb dX6_waysBeside_1 hl (by decide) rfl (fun ls hl => ?_)
  refine lv_iconst (v := 0) hx hb dX6_waysBeside_3 (by decide) ?_
  refine lv_istore (lv' := [(5, .int 0), (4, .int 0), (0, .int za0), (1, .int za1), (2, .ref (gB E + za2)), (3, .int za3)]) hx hb dX6_waysBeside_4 hl (by decide) rfl (fun ls hl => ?_)
  exact L_6 N za0 za1 za2 za3 0 0 _ _ _ ls hf hw (lv_sub hl [2, 3, 4, 5, 1, 0] rfl)
abbrev rm_X6_waysInAll : Room := { frames := 3, cells := 0, slots := 0, locals := 71 }
set_option maxHeartbeats 4000000 in
set_option maxRecDepth 100000 in
theorem c_X6_waysInAll (l : Launch) (E : gE) (N : Nat) (za0 : Nat) (za1 : Nat) (za2 : Int32) (zh : PH) {h9 : PH} {r9 : Int32} (hf : f_X6_waysInAll N za0 za1 za2 zh = some (r9, h9)) : Met l yX6_waysInAll (gWS yX6_waysInAll cX6_waysInAll 3 (some .int)) rm_X6_waysInAll (gPc E [.ref (gB E + za0), .ref (gB E + za1), .int za2] zh) (gQi E r9 h9) 0 0 (gA E) := by
  refine gx_met (by decide) ?_ rfl
  intro p e s m below meth c X hr hlk hin2 hw
  have hx := X.1.1
  have hb := X.1.2.1
  have hl := lv_entry [.ref (gB E + za0), .ref (gB E + za1), .int za2] (n := 3) (Nat.le_of_ble_eq_true rfl)
  rw [lg_entry_eq]
  generalize (lg_sl [.ref (gB E + za0), .ref (gB E + za1), .int za2] ++ List.replicate (3 - (lg_sl [.ref (gB E + za0), .ref (gB E + za1), .int za2]).length) Slot.unset).toArray = ls at hl ⊢
  have hl : lv_has ls 3 [(0, .ref (gB E + za0)), (1, .ref (gB E + za1)), (2, .int za2)] := hl
  unfold f_X6_waysInAll at hf
  refine lv_iconst (v := 0) hx hb dX6_waysInAll_0 (by decide) ?_
  refine lv_aload_n hx hb dX6_waysInAll_1 rfl (lv_at hl 0 rfl) ?_
  refine lv_aload_n hx hb dX6_waysInAll_2 rfl (lv_at hl 1 rfl) ?_
  refine lv_iload_n hx hb dX6_waysInAll_3 rfl (lv_at hl 2 rfl) ?_
  refine lv_iconst (v := (-1)) hx hb dX6_waysInAll_4 (by decide) ?_
  obtain ⟨qizh1, hf⟩ := gg_el hf
  obtain ⟨zt2, zh1, qzh1, hf⟩ := gc_el hf
  refine gx_ki (gx_runV (As := [.ref (gB E + za1), .int za2, .int (-1)]) (rest := [.int 0]) X hw (c_X6_fillRow l E N za0 za1 za2 (-1) zh qzh1) kX6_fillRow mm_X6_18 qizh1 clX6 ⟨Nat.le_of_ble_eq_true rfl, Nat.le_of_ble_eq_true rfl⟩ rfl rfl rfl hl.1 (Nat.le_of_ble_eq_true rfl) rfl dX6_waysInAll_5 ⟨Nat.le_of_ble_eq_true rfl, Nat.le_of_ble_eq_true rfl⟩) hw (fun H locs hw => ?_)
  refine lv_aload_n hx hb dX6_waysInAll_8 rfl (lv_at hl 1 rfl) ?_
  refine lv_iload_n hx hb dX6_waysInAll_9 rfl (lv_at hl 2 rfl) ?_
  obtain ⟨zt4, zh3, qzh3, hf⟩ := gc_el hf
  refine gx_ki (gx_runS (As := [.int 0, .int zt2, .ref (gB E + za1), .int za2]) (rest := []) X hw (c_X6_waysBeside l E N 0 zt2 za1 za2 zh1 qzh3) kX6_waysBeside mm_X6_22 ⟨Nat.le_of_ble_eq_true rfl, Nat.le_of_ble_eq_true rfl⟩ rfl rfl rfl hl.1 (Nat.le_of_ble_eq_true rfl) rfl dX6_waysInAll_10 ⟨Nat.le_of_ble_eq_true rfl, Nat.le_of_ble_eq_true rfl⟩) hw (fun H locs hw => ?_)
  refine W.eq (g2 := F0 m 13 ls [.int zt4]) rfl ?_
  exact gx_iret X hr hlk hw hf dX6_waysInAll_13
abbrev rm_X6_onlyRoomOf : Room := { frames := 3, cells := 0, slots := 0, locals := 71 }
set_option maxHeartbeats 4000000 in
set_option maxRecDepth 100000 in
theorem c_X6_onlyRoomOf (l : Launch) (E : gE) (N : Nat) (za0 : Nat) (za1 : Int32) (za2 : Nat) (za3 : Int32) (zh : PH) {h9 : PH} {r9 : Int32} (hf : f_X6_onlyRoomOf N za0 za1 za2 za3 zh = some (r9, h9)) : Met l yX6_onlyRoomOf (gWS yX6_onlyRoomOf cX6_onlyRoomOf 7 (some .int)) rm_X6_onlyRoomOf (gPc E [.ref (gB E + za0), .int za1, .ref (gB E + za2), .int za3] zh) (gQi E r9 h9) 0 0 (gA E) := by
  refine gx_met (by decide) ?_ rfl
  intro p e s m below meth c X hr hlk hin2 hw
  have hx := X.1.1
  have hb := X.1.2.1
  have hl := lv_entry [.ref (gB E + za0), .int za1, .ref (gB E + za2), .int za3] (n := 7) (Nat.le_of_ble_eq_true rfl)
  rw [lg_entry_eq]
  generalize (lg_sl [.ref (gB E + za0), .int za1, .ref (gB E + za2), .int za3] ++ List.replicate (7 - (lg_sl [.ref (gB E + za0), .int za1, .ref (gB E + za2), .int za3]).length) Slot.unset).toArray = ls at hl ⊢
  have hl : lv_has ls 7 [(0, .ref (gB E + za0)), (1, .int za1), (2, .ref (gB E + za2)), (3, .int za3)] := hl
  have L_15 : ∀ (zn15 : Nat) (zv0 : Nat) (zv1 : Int32) (zv2 : Nat) (zv3 : Int32) (zv4 : Int32) (zv5 : Int32) (zv6 : Int32) (zh : PH) (H : Heap) (locs : List Loc) (ls : Array Slot), gi (fun zk zs => f_X6_onlyRoomOf_15 N zk zs.1 zs.2.1 zs.2.2.1 zs.2.2.2.1 zs.2.2.2.2.1 zs.2.2.2.2.2.1 zs.2.2.2.2.2.2.1 zs.2.2.2.2.2.2.2) zn15 (zv0, zv1, zv2, zv3, zv4, zv5, zv6, zh) = some (r9, h9) → gw E s zh H locs → lv_has ls 7 [(0, .ref (gB E + zv0)), (1, .int zv1), (2, .ref (gB E + zv2)), (3, .int zv3), (4, .int zv4), (5, .int zv5), (6, .int zv6)] → W p l e rm_X6_onlyRoomOf s m [.ref (gB E + za0), .int za1, .ref (gB E + za2), .int za3].toArray below meth c H locs 0 0 (MQ below (gQi E r9 h9) [.ref (gB E + za0), .int za1, .ref (gB E + za2), .int za3].toArray s 0 0 (gA E)) (F0 m 15 ls []) := by
    intro zn15
    induction zn15 with
    | zero =>
      intro zv0 zv1 zv2 zv3 zv4 zv5 zv6 zh H locs ls hf
      cases hf
    | succ zn15 ih_15 =>
      have J_62 : ∀ (zv0 : Nat) (zv1 : Int32) (zv2 : Nat) (zv3 : Int32) (zv4 : Int32) (zv5 : Int32) (zv6 : Int32) (zh : PH) (H : Heap) (locs : List Loc) (ls : Array Slot), f_X6_onlyRoomOf_62 N (gi (fun zk zs => f_X6_onlyRoomOf_15 N zk zs.1 zs.2.1 zs.2.2.1 zs.2.2.2.1 zs.2.2.2.2.1 zs.2.2.2.2.2.1 zs.2.2.2.2.2.2.1 zs.2.2.2.2.2.2.2) zn15) zv0 zv1 zv2 zv3 zv4 zv5 zv6 zh = some (r9, h9) → gw E s zh H locs → lv_has ls 7 [(0, .ref (gB E + zv0)), (1, .int zv1), (2, .ref (gB E + zv2)), (3, .int zv3), (4, .int zv4), (5, .int zv5), (6, .int zv6)] → W p l e rm_X6_onlyRoomOf s m [.ref (gB E + za0), .int za1, .ref (gB E + za2), .int za3].toArray below meth c H locs 0 0 (MQ below (gQi E r9 h9) [.ref (gB E + za0), .int za1, .ref (gB E + za2), .int za3].toArray s 0 0 (gA E)) (F0 m 62 ls []) := by
        intro zv0 zv1 zv2 zv3 zv4 zv5 zv6 zh H locs ls hf hw hl
        unfold f_X6_onlyRoomOf_62 at hf
        obtain ⟨zx1, ezx1⟩ : ∃ y : Int32, y = zv6 + 1 := ⟨_, rfl⟩
        have hf := gl_el hf ezx1
        refine lv_iinc (v := zx1) (lv' := [(6, .int zx1), (0, .ref (gB E + zv0)), (1, .int zv1), (2, .ref (gB E + zv2)), (3, .int zv3), (4, .int zv4), (5, .int zv5)]) hx hb dX6_onlyRoomOf_62 hl (k := 6) rfl (by rw [ezx1]; rfl) (by decide) rfl (fun ls hl => ?_)
        refine lv_goto (tgt := 15) hx hb dX6_onlyRoomOf_65 (by decide) ?_
        exact ih_15 zv0 zv1 zv2 zv3 zv4 zv5 zx1 _ _ _ ls hf hw (lv_sub hl [1, 2, 3, 4, 5, 6, 0] rfl)
      intro zv0 zv1 zv2 zv3 zv4 zv5 zv6 zh H locs ls hf hw hl
      have hf := gi_s hf
      dsimp only at hf
      unfold f_X6_onlyRoomOf_15 at hf
      refine lv_iload hx hb dX6_onlyRoomOf_15 (lv_at hl 6 rfl) ?_
      refine lv_iload_n hx hb dX6_onlyRoomOf_17 rfl (lv_at hl 3 rfl) ?_
      refine lv_icmp_ge (tgt := 68) hx hb dX6_onlyRoomOf_18 (by decide) (fun qc1 => ?_) (fun qc1 => ?_)
      · have hf := gif_t hf qc1
        refine lv_iload hx hb dX6_onlyRoomOf_68 (lv_at hl 4 rfl) ?_
        exact gx_iret X hr hlk hw hf dX6_onlyRoomOf_70
      · have hf := gif_f hf qc1
        refine lv_aload_n hx hb dX6_onlyRoomOf_21 rfl (lv_at hl 0 rfl) ?_
        obtain ⟨zt2, qzt2, hf⟩ := gb_el hf
        refine gx_getR X hw qzt2 clX6 (by decide) mf_X6_9 dX6_onlyRoomOf_22 ?_
        refine lv_iload_n hx hb dX6_onlyRoomOf_25 rfl (lv_at hl 1 rfl) ?_
        obtain ⟨zt3, qzt3, hf⟩ := gb_el hf
        refine gx_iald X hw qzt3 dX6_onlyRoomOf_26 ?_
        refine lv_iload hx hb dX6_onlyRoomOf_27 (lv_at hl 6 rfl) ?_
        obtain ⟨zt5, zh4, qzh4, hf⟩ := gc_el hf
        refine gx_ki (gx_runSN (As := [.int zt3, .int zv6]) (rest := []) X hw (c_X11_bitOf l E N zt3 zv6 zh qzh4) kX11_bitOf mn_X6_26 ⟨Nat.le_of_ble_eq_true rfl, Nat.le_of_ble_eq_true rfl⟩ rfl rfl rfl hl.1 (Nat.le_of_ble_eq_true rfl) rfl dX6_onlyRoomOf_29 ⟨Nat.le_of_ble_eq_true rfl, Nat.le_of_ble_eq_true rfl⟩) hw (fun H locs hw => ?_)
        refine W.eq (g2 := F0 m 32 ls [.int zt5]) rfl ?_
        refine lv_iconst (v := 1) hx hb dX6_onlyRoomOf_32 (by decide) ?_
        refine lv_icmp_ne (tgt := 62) hx hb dX6_onlyRoomOf_33 (by decide) (fun qc6 => ?_) (fun qc6 => ?_)
        · have hf := gif_f hf qc6
          exact J_62 zv0 zv1 zv2 zv3 zv4 zv5 zv6 _ _ _ ls hf hw (lv_sub hl [0, 1, 2, 3, 4, 5, 6] rfl)
        · have hf := gif_t hf qc6
          refine lv_iconst (v := 1) hx hb dX6_onlyRoomOf_36 (by decide) ?_
          refine lv_iload hx hb dX6_onlyRoomOf_37 (lv_at hl 6 rfl) ?_
          refine lv_ishl hx hb dX6_onlyRoomOf_39 ?_
          refine lv_iload hx hb dX6_onlyRoomOf_40 (lv_at hl 5 rfl) ?_
          refine lv_aload_n hx hb dX6_onlyRoomOf_42 rfl (lv_at hl 2 rfl) ?_
          refine lv_iload_n hx hb dX6_onlyRoomOf_43 rfl (lv_at hl 3 rfl) ?_
          obtain ⟨zt8, zh7, qzh7, hf⟩ := gc_el hf
          refine gx_ki (gx_runS (As := [.int (1 <<< (zv6 &&& 31)), .int zv5, .ref (gB E + zv2), .int zv3]) (rest := []) X hw (c_X6_waysBeside l E N (1 <<< (zv6 &&& 31)) zv5 zv2 zv3 zh4 qzh7) kX6_waysBeside mm_X6_22 ⟨Nat.le_of_ble_eq_true rfl, Nat.le_of_ble_eq_true rfl⟩ rfl rfl rfl hl.1 (Nat.le_of_ble_eq_true rfl) rfl dX6_onlyRoomOf_44 ⟨Nat.le_of_ble_eq_true rfl, Nat.le_of_ble_eq_true rfl⟩) hw (fun H locs hw => ?_)
          refine lv_if_le (tgt := 62) hx hb dX6_onlyRoomOf_47 (by decide) (fun qc9 => ?_) (fun qc9 => ?_)
          · have hf := gif_t hf qc9
            exact J_62 zv0 zv1 zv2 zv3 zv4 zv5 zv6 _ _ _ ls hf hw (lv_sub hl [0, 1, 2, 3, 4, 5, 6] rfl)
          · have hf := gif_f hf qc9
            refine W.eq (g2 := F0 m 50 ls []) rfl ?_
            refine lv_iload hx hb dX6_onlyRoomOf_50 (lv_at hl 4 rfl) ?_
            refine lv_iconst (v := (-1)) hx hb dX6_onlyRoomOf_52 (by decide) ?_
            refine lv_icmp_eq (tgt := 58) hx hb dX6_onlyRoomOf_53 (by decide) (fun qc10 => ?_) (fun qc10 => ?_)
            · have hf := gif_t hf qc10
              refine lv_iload hx hb dX6_onlyRoomOf_58 (lv_at hl 6 rfl) ?_
              refine lv_istore (lv' := [(4, .int zv6), (0, .ref (gB E + zv0)), (1, .int zv1), (2, .ref (gB E + zv2)), (3, .int zv3), (5, .int zv5), (6, .int zv6)]) hx hb dX6_onlyRoomOf_60 hl (by decide) rfl (fun ls hl => ?_)
              exact J_62 zv0 zv1 zv2 zv3 zv6 zv5 zv6 _ _ _ ls hf hw (lv_sub hl [1, 2, 3, 4, 0, 5, 6] rfl)
            · have hf := gif_f hf qc10
              refine lv_iconst (v := (-1)) hx hb dX6_onlyRoomOf_56 (by decide) ?_
              exact gx_iret X hr hlk hw hf dX6_onlyRoomOf_57
  unfold f_X6_onlyRoomOf at hf
  refine lv_iconst (v := (-1)) hx hb dX6_onlyRoomOf_0 (by decide) ?_
  refine lv_istore (lv' := [(4, .int (-1)), (0, .ref (gB E + za0)), (1, .int za1), (2, .ref (gB E + za2)), (3, .int za3)]) hx hb dX6_onlyRoomOf_1 hl (by decide) rfl (fun ls hl => ?_)
  refine lv_aload_n hx hb dX6_onlyRoomOf_3 rfl (lv_at hl 1 rfl) ?_
  refine lv_aload_n hx hb dX6_onlyRoomOf_4 rfl (lv_at hl 3 rfl) ?_
  refine lv_iload_n hx hb dX6_onlyRoomOf_5 rfl (lv_at hl 4 rfl) ?_
  refine lv_iload_n hx hb dX6_onlyRoomOf_6 rfl (lv_at hl 2 rfl) ?_
  obtain ⟨qizh1, hf⟩ := gg_el hf
  obtain ⟨zt2, zh1, qzh1, hf⟩ := gc_el hf
  refine gx_ki (gx_runV (As := [.ref (gB E + za2), .int za3, .int za1]) (rest := []) X hw (c_X6_fillRow l E N za0 za2 za3 za1 zh qzh1) kX6_fillRow mm_X6_18 qizh1 clX6 ⟨Nat.le_of_ble_eq_true rfl, Nat.le_of_ble_eq_true rfl⟩ rfl rfl rfl hl.1 (Nat.le_of_ble_eq_true rfl) rfl dX6_onlyRoomOf_7 ⟨Nat.le_of_ble_eq_true rfl, Nat.le_of_ble_eq_true rfl⟩) hw (fun H locs hw => ?_)
  refine lv_istore (lv' := [(5, .int zt2), (4, .int (-1)), (0, .ref (gB E + za0)), (1, .int za1), (2, .ref (gB E + za2)), (3, .int za3)]) hx hb dX6_onlyRoomOf_10 hl (by decide) rfl (fun ls hl => ?_)
  refine lv_iconst (v := 0) hx hb dX6_onlyRoomOf_12 (by decide) ?_
  refine W.eq (g2 := F0 m 13 ls [.int 0]) rfl ?_
  refine lv_istore (lv' := [(6, .int 0), (5, .int zt2), (4, .int (-1)), (0, .ref (gB E + za0)), (1, .int za1), (2, .ref (gB E + za2)), (3, .int za3)]) hx hb dX6_onlyRoomOf_13 hl (by decide) rfl (fun ls hl => ?_)
  exact L_15 N za0 za1 za2 za3 (-1) zt2 0 _ _ _ ls hf hw (lv_sub hl [3, 4, 5, 6, 2, 1, 0] rfl)
abbrev rm_X7_init : Room := { frames := 1, cells := 2, slots := 40, locals := 20 }
set_option maxHeartbeats 4000000 in
set_option maxRecDepth 100000 in
theorem c_X7_init (l : Launch) (E : gE) (N : Nat) (za0 : Nat) (zh : PH) {h9 : PH} (hf : f_X7_init N za0 zh = some h9) : Met l yX7_init (gWS yX7_init cX7_init 1 none) rm_X7_init (gPc E [.ref (gB E + za0)] zh) (gQv E h9) 2 40 (gA E) := by
  refine gx_met (by decide) ?_ rfl
  intro p e s m below meth c X hr hlk hin2 hw
  have hx := X.1.1
  have hb := X.1.2.1
  have hl := lv_entry [.ref (gB E + za0)] (n := 1) (Nat.le_of_ble_eq_true rfl)
  rw [lg_entry_eq]
  generalize (lg_sl [.ref (gB E + za0)] ++ List.replicate (1 - (lg_sl [.ref (gB E + za0)]).length) Slot.unset).toArray = ls at hl ⊢
  have hl : lv_has ls 1 [(0, .ref (gB E + za0))] := hl
  unfold f_X7_init at hf
  refine lv_aload_n hx hb dX7_init_0 rfl (lv_at hl 0 rfl) ?_
  refine gx_oinit X mm_X7_1 mo_inst mo_code hl.1 dX7_init_1 (Nat.le_of_ble_eq_true rfl) (Nat.le_of_ble_eq_true rfl) ?_
  refine lv_aload_n hx hb dX7_init_4 rfl (lv_at hl 0 rfl) ?_
  refine lv_bipush (v := 32) hx hb dX7_init_5 (by decide) ?_
  obtain ⟨zr2, zh1, qzh1, hf⟩ := gc_el hf
  refine gx_newa0 X hw qzh1 ma_int (by decide) (by decide) (by decide) (Nat.le_of_ble_eq_true rfl) (Nat.le_of_ble_eq_true rfl) dX7_init_7 (fun H hw => ?_)
  obtain ⟨zh3, qzh3, hf⟩ := gb_el hf
  refine gx_putFV X hw qzh3 clX7 (by decide) mf_X7_9 rfl (hin2 rfl) rfl rfl rfl dX7_init_9 (fun H locs hw => ?_)
  refine lv_aload_n hx hb dX7_init_12 rfl (lv_at hl 0 rfl) ?_
  refine lv_bipush (v := 8) hx hb dX7_init_13 (by decide) ?_
  obtain ⟨zr5, zh4, qzh4, hf⟩ := gc_el hf
  refine gx_newa0 X hw qzh4 ma_int (by decide) (by decide) (by decide) (Nat.le_of_ble_eq_true rfl) (Nat.le_of_ble_eq_true rfl) dX7_init_15 (fun H hw => ?_)
  refine W.eq (g2 := F0 m 17 ls [.ref (gB E + zr5), .ref (gB E + za0)]) rfl ?_
  obtain ⟨zh6, qzh6, hf⟩ := gb_el hf
  refine gx_putFV X hw qzh6 clX7 (by decide) mf_X7_15 rfl (hin2 rfl) rfl rfl rfl dX7_init_17 (fun H locs hw => ?_)
  exact gx_vret X hr hlk hw hf dX7_init_20
abbrev rm_X8_init : Room := { frames := 1, cells := 5, slots := 90, locals := 20 }
set_option maxHeartbeats 4000000 in
set_option maxRecDepth 100000 in
theorem c_X8_init (l : Launch) (E : gE) (N : Nat) (za0 : Nat) (zh : PH) {h9 : PH} (hf : f_X8_init N za0 zh = some h9) : Met l yX8_init (gWS yX8_init cX8_init 1 none) rm_X8_init (gPc E [.ref (gB E + za0)] zh) (gQv E h9) 5 90 (gA E) := by
  refine gx_met (by decide) ?_ rfl
  intro p e s m below meth c X hr hlk hin2 hw
  have hx := X.1.1
  have hb := X.1.2.1
  have hl := lv_entry [.ref (gB E + za0)] (n := 1) (Nat.le_of_ble_eq_true rfl)
  rw [lg_entry_eq]
  generalize (lg_sl [.ref (gB E + za0)] ++ List.replicate (1 - (lg_sl [.ref (gB E + za0)]).length) Slot.unset).toArray = ls at hl ⊢
  have hl : lv_has ls 1 [(0, .ref (gB E + za0))] := hl
  unfold f_X8_init at hf
  refine lv_aload_n hx hb dX8_init_0 rfl (lv_at hl 0 rfl) ?_
  refine gx_oinit X mm_X8_3 mo_inst mo_code hl.1 dX8_init_1 (Nat.le_of_ble_eq_true rfl) (Nat.le_of_ble_eq_true rfl) ?_
  refine lv_aload_n hx hb dX8_init_4 rfl (lv_at hl 0 rfl) ?_
  refine lv_bipush (v := 20) hx hb dX8_init_5 (by decide) ?_
  obtain ⟨zr2, zh1, qzh1, hf⟩ := gc_el hf
  refine gx_newa0 X hw qzh1 ma_int (by decide) (by decide) (by decide) (Nat.le_of_ble_eq_true rfl) (Nat.le_of_ble_eq_true rfl) dX8_init_7 (fun H hw => ?_)
  obtain ⟨zh3, qzh3, hf⟩ := gb_el hf
  refine gx_putFV X hw qzh3 clX8 (by decide) mf_X8_9 rfl (hin2 rfl) rfl rfl rfl dX8_init_9 (fun H locs hw => ?_)
  refine lv_aload_n hx hb dX8_init_12 rfl (lv_at hl 0 rfl) ?_
  refine lv_bipush (v := 20) hx hb dX8_init_13 (by decide) ?_
  obtain ⟨zr5, zh4, qzh4, hf⟩ := gc_el hf
  refine gx_newa0 X hw qzh4 ma_int (by decide) (by decide) (by decide) (Nat.le_of_ble_eq_true rfl) (Nat.le_of_ble_eq_true rfl) dX8_init_15 (fun H hw => ?_)
  refine W.eq (g2 := F0 m 17 ls [.ref (gB E + zr5), .ref (gB E + za0)]) rfl ?_
  obtain ⟨zh6, qzh6, hf⟩ := gb_el hf
  refine gx_putFV X hw qzh6 clX8 (by decide) mf_X8_15 rfl (hin2 rfl) rfl rfl rfl dX8_init_17 (fun H locs hw => ?_)
  refine lv_aload_n hx hb dX8_init_20 rfl (lv_at hl 0 rfl) ?_
  refine lv_bipush (v := 20) hx hb dX8_init_21 (by decide) ?_
  obtain ⟨zr8, zh7, qzh7, hf⟩ := gc_el hf
  refine gx_newa0 X hw qzh7 ma_int (by decide) (by decide) (by decide) (Nat.le_of_ble_eq_true rfl) (Nat.le_of_ble_eq_true rfl) dX8_init_23 (fun H hw => ?_)
  obtain ⟨zh9, qzh9, hf⟩ := gb_el hf
  refine gx_putFV X hw qzh9 clX8 (by decide) mf_X8_18 rfl (hin2 rfl) rfl rfl rfl dX8_init_25 (fun H locs hw => ?_)
  refine lv_aload_n hx hb dX8_init_28 rfl (lv_at hl 0 rfl) ?_
  refine lv_bipush (v := 20) hx hb dX8_init_29 (by decide) ?_
  obtain ⟨zr11, zh10, qzh10, hf⟩ := gc_el hf
  refine gx_newa0 X hw qzh10 ma_int (by decide) (by decide) (by decide) (Nat.le_of_ble_eq_true rfl) (Nat.le_of_ble_eq_true rfl) dX8_init_31 (fun H hw => ?_)
  obtain ⟨zh12, qzh12, hf⟩ := gb_el hf
  refine gx_putFV X hw qzh12 clX8 (by decide) mf_X8_21 rfl (hin2 rfl) rfl rfl rfl dX8_init_33 (fun H locs hw => ?_)
  refine lv_aload_n hx hb dX8_init_36 rfl (lv_at hl 0 rfl) ?_
  refine W.eq (g2 := F0 m 37 ls [.ref (gB E + za0)]) rfl ?_
  refine lv_bipush (v := 10) hx hb dX8_init_37 (by decide) ?_
  obtain ⟨zr14, zh13, qzh13, hf⟩ := gc_el hf
  refine gx_newa0 X hw qzh13 ma_int (by decide) (by decide) (by decide) (Nat.le_of_ble_eq_true rfl) (Nat.le_of_ble_eq_true rfl) dX8_init_39 (fun H hw => ?_)
  obtain ⟨zh15, qzh15, hf⟩ := gb_el hf
  refine gx_putFV X hw qzh15 clX8 (by decide) mf_X8_24 rfl (hin2 rfl) rfl rfl rfl dX8_init_41 (fun H locs hw => ?_)
  exact gx_vret X hr hlk hw hf dX8_init_44
abbrev rm_X8_copyFrom : Room := { frames := 1, cells := 0, slots := 0, locals := 64 }
set_option maxHeartbeats 4000000 in
set_option maxRecDepth 100000 in
theorem c_X8_copyFrom (l : Launch) (E : gE) (N : Nat) (za0 : Nat) (za1 : Nat) (zh : PH) {h9 : PH} (hf : f_X8_copyFrom N za0 za1 zh = some h9) : Met l yX8_copyFrom (gWS yX8_copyFrom cX8_copyFrom 2 none) rm_X8_copyFrom (gPc E [.ref (gB E + za0), .ref (gB E + za1)] zh) (gQv E h9) 0 0 (gA E) := by
  refine gx_met (by decide) ?_ rfl
  intro p e s m below meth c X hr hlk hin2 hw
  have hx := X.1.1
  have hb := X.1.2.1
  have hl := lv_entry [.ref (gB E + za0), .ref (gB E + za1)] (n := 2) (Nat.le_of_ble_eq_true rfl)
  rw [lg_entry_eq]
  generalize (lg_sl [.ref (gB E + za0), .ref (gB E + za1)] ++ List.replicate (2 - (lg_sl [.ref (gB E + za0), .ref (gB E + za1)]).length) Slot.unset).toArray = ls at hl ⊢
  have hl : lv_has ls 2 [(0, .ref (gB E + za0)), (1, .ref (gB E + za1))] := hl
  unfold f_X8_copyFrom at hf
  refine lv_aload_n hx hb dX8_copyFrom_0 rfl (lv_at hl 1 rfl) ?_
  obtain ⟨zt1, qzt1, hf⟩ := gb_el hf
  refine gx_getR X hw qzt1 clX8 (by decide) mf_X8_9 dX8_copyFrom_1 ?_
  refine lv_iconst (v := 0) hx hb dX8_copyFrom_4 (by decide) ?_
  refine lv_aload_n hx hb dX8_copyFrom_5 rfl (lv_at hl 0 rfl) ?_
  obtain ⟨zt2, qzt2, hf⟩ := gb_el hf
  refine gx_getR X hw qzt2 clX8 (by decide) mf_X8_9 dX8_copyFrom_6 ?_
  refine lv_iconst (v := 0) hx hb dX8_copyFrom_9 (by decide) ?_
  refine lv_bipush (v := 20) hx hb dX8_copyFrom_10 (by decide) ?_
  obtain ⟨zh3, qzh3, hf⟩ := gb_el hf
  refine gx_cpI X hw qzh3 mm_X8_27 ac_n ac_s mI_java_lang_System hl.1 (Nat.le_of_ble_eq_true rfl) (Nat.le_of_ble_eq_true rfl) dX8_copyFrom_12 (fun H locs hw => ?_)
  refine lv_aload_n hx hb dX8_copyFrom_15 rfl (lv_at hl 1 rfl) ?_
  refine W.eq (g2 := F0 m 16 ls [.ref (gB E + za1)]) rfl ?_
  obtain ⟨zt4, qzt4, hf⟩ := gb_el hf
  refine gx_getR X hw qzt4 clX8 (by decide) mf_X8_15 dX8_copyFrom_16 ?_
  refine lv_iconst (v := 0) hx hb dX8_copyFrom_19 (by decide) ?_
  refine lv_aload_n hx hb dX8_copyFrom_20 rfl (lv_at hl 0 rfl) ?_
  obtain ⟨zt5, qzt5, hf⟩ := gb_el hf
  refine gx_getR X hw qzt5 clX8 (by decide) mf_X8_15 dX8_copyFrom_21 ?_
  refine lv_iconst (v := 0) hx hb dX8_copyFrom_24 (by decide) ?_
  refine lv_bipush (v := 20) hx hb dX8_copyFrom_25 (by decide) ?_
  obtain ⟨zh6, qzh6, hf⟩ := gb_el hf
  refine gx_cpI X hw qzh6 mm_X8_27 ac_n ac_s mI_java_lang_System hl.1 (Nat.le_of_ble_eq_true rfl) (Nat.le_of_ble_eq_true rfl) dX8_copyFrom_27 (fun H locs hw => ?_)
  refine lv_aload_n hx hb dX8_copyFrom_30 rfl (lv_at hl 1 rfl) ?_
  obtain ⟨zt7, qzt7, hf⟩ := gb_el hf
  refine gx_getR X hw qzt7 clX8 (by decide) mf_X8_18 dX8_copyFrom_31 ?_
  refine lv_iconst (v := 0) hx hb dX8_copyFrom_34 (by decide) ?_
  refine W.eq (g2 := F0 m 35 ls [.int 0, .ref (gB E + zt7)]) rfl ?_
  refine lv_aload_n hx hb dX8_copyFrom_35 rfl (lv_at hl 0 rfl) ?_
  obtain ⟨zt8, qzt8, hf⟩ := gb_el hf
  refine gx_getR X hw qzt8 clX8 (by decide) mf_X8_18 dX8_copyFrom_36 ?_
  refine lv_iconst (v := 0) hx hb dX8_copyFrom_39 (by decide) ?_
  refine lv_bipush (v := 20) hx hb dX8_copyFrom_40 (by decide) ?_
  obtain ⟨zh9, qzh9, hf⟩ := gb_el hf
  refine gx_cpI X hw qzh9 mm_X8_27 ac_n ac_s mI_java_lang_System hl.1 (Nat.le_of_ble_eq_true rfl) (Nat.le_of_ble_eq_true rfl) dX8_copyFrom_42 (fun H locs hw => ?_)
  refine lv_aload_n hx hb dX8_copyFrom_45 rfl (lv_at hl 0 rfl) ?_
  refine lv_aload_n hx hb dX8_copyFrom_46 rfl (lv_at hl 1 rfl) ?_
  obtain ⟨zt10, qzt10, hf⟩ := gb_el hf
  refine gx_getI X hw qzt10 clX8 (by decide) mf_X8_33 dX8_copyFrom_47 ?_
  obtain ⟨zh11, qzh11, hf⟩ := gb_el hf
  refine gx_putV X hw qzh11 clX8 (by decide) mf_X8_33 rfl rfl rfl dX8_copyFrom_50 (fun H locs hw => ?_)
  exact gx_vret X hr hlk hw hf dX8_copyFrom_53
abbrev rm_X8_add : Room := { frames := 0, cells := 0, slots := 0, locals := 0 }
set_option maxHeartbeats 4000000 in
set_option maxRecDepth 100000 in
theorem c_X8_add (l : Launch) (E : gE) (N : Nat) (za0 : Nat) (za1 : Int32) (za2 : Int32) (za3 : Int32) (zh : PH) {h9 : PH} {r9 : Int32} (hf : f_X8_add N za0 za1 za2 za3 zh = some (r9, h9)) : Met l yX8_add (gWS yX8_add cX8_add 5 (some .boolean)) rm_X8_add (gPc E [.ref (gB E + za0), .int za1, .int za2, .int za3] zh) (gQi E r9 h9) 0 0 (gA E) := by
  refine gx_met (by decide) ?_ rfl
  intro p e s m below meth c X hr hlk hin2 hw
  have hx := X.1.1
  have hb := X.1.2.1
  have hl := lv_entry [.ref (gB E + za0), .int za1, .int za2, .int za3] (n := 5) (Nat.le_of_ble_eq_true rfl)
  rw [lg_entry_eq]
  generalize (lg_sl [.ref (gB E + za0), .int za1, .int za2, .int za3] ++ List.replicate (5 - (lg_sl [.ref (gB E + za0), .int za1, .int za2, .int za3]).length) Slot.unset).toArray = ls at hl ⊢
  have hl : lv_has ls 5 [(0, .ref (gB E + za0)), (1, .int za1), (2, .int za2), (3, .int za3)] := hl
  have J_89 : ∀ (zv0 : Nat) (zv1 : Int32) (zv2 : Int32) (zv3 : Int32) (zv4 : Int32) (zh : PH) (H : Heap) (locs : List Loc) (ls : Array Slot), f_X8_add_89 N zv0 zv1 zv2 zv3 zv4 zh = some (r9, h9) → gw E s zh H locs → lv_has ls 5 [(0, .ref (gB E + zv0)), (1, .int zv1), (2, .int zv2), (3, .int zv3), (4, .int zv4)] → W p l e rm_X8_add s m [.ref (gB E + za0), .int za1, .int za2, .int za3].toArray below meth c H locs 0 0 (MQ below (gQi E r9 h9) [.ref (gB E + za0), .int za1, .int za2, .int za3].toArray s 0 0 (gA E)) (F0 m 89 ls []) := by
    intro zv0 zv1 zv2 zv3 zv4 zh H locs ls hf hw hl
    unfold f_X8_add_89 at hf
    refine lv_aload_n hx hb dX8_add_89 rfl (lv_at hl 0 rfl) ?_
    obtain ⟨zt1, qzt1, hf⟩ := gb_el hf
    refine gx_getR X hw qzt1 clX8 (by decide) mf_X8_9 dX8_add_90 ?_
    refine lv_iload hx hb dX8_add_93 (lv_at hl 4 rfl) ?_
    refine lv_iload_n hx hb dX8_add_95 rfl (lv_at hl 1 rfl) ?_
    obtain ⟨zh2, qzh2, hf⟩ := gb_el hf
    refine gx_iast X hw qzh2 dX8_add_96 (fun H locs hw => ?_)
    refine lv_aload_n hx hb dX8_add_97 rfl (lv_at hl 0 rfl) ?_
    obtain ⟨zt3, qzt3, hf⟩ := gb_el hf
    refine gx_getR X hw qzt3 clX8 (by decide) mf_X8_15 dX8_add_98 ?_
    refine lv_iload hx hb dX8_add_101 (lv_at hl 4 rfl) ?_
    refine lv_iload_n hx hb dX8_add_103 rfl (lv_at hl 2 rfl) ?_
    refine W.eq (g2 := F0 m 104 ls [.int zv2, .int zv4, .ref (gB E + zt3)]) rfl ?_
    obtain ⟨zh4, qzh4, hf⟩ := gb_el hf
    refine gx_iast X hw qzh4 dX8_add_104 (fun H locs hw => ?_)
    refine lv_aload_n hx hb dX8_add_105 rfl (lv_at hl 0 rfl) ?_
    obtain ⟨zt5, qzt5, hf⟩ := gb_el hf
    refine gx_getR X hw qzt5 clX8 (by decide) mf_X8_18 dX8_add_106 ?_
    refine lv_iload hx hb dX8_add_109 (lv_at hl 4 rfl) ?_
    refine lv_iload_n hx hb dX8_add_111 rfl (lv_at hl 3 rfl) ?_
    obtain ⟨zh6, qzh6, hf⟩ := gb_el hf
    refine gx_iast X hw qzh6 dX8_add_112 (fun H locs hw => ?_)
    refine lv_aload_n hx hb dX8_add_113 rfl (lv_at hl 0 rfl) ?_
    refine lv_dup hx hb dX8_add_114 rfl ?_
    obtain ⟨zt7, qzt7, hf⟩ := gb_el hf
    refine gx_getI X hw qzt7 clX8 (by decide) mf_X8_33 dX8_add_115 ?_
    refine lv_iconst (v := 1) hx hb dX8_add_118 (by decide) ?_
    refine W.eq (g2 := F0 m 119 ls [.int 1, .int zt7, .ref (gB E + zv0)]) rfl ?_
    refine lv_iadd hx hb dX8_add_119 ?_
    obtain ⟨zh8, qzh8, hf⟩ := gb_el hf
    refine gx_putV X hw qzh8 clX8 (by decide) mf_X8_33 rfl rfl rfl dX8_add_120 (fun H locs hw => ?_)
    refine lv_iconst (v := 1) hx hb dX8_add_123 (by decide) ?_
    exact gx_zret X hr hlk hw hf dX8_add_124
  have L_17 : ∀ (zn17 : Nat) (zv0 : Nat) (zv1 : Int32) (zv2 : Int32) (zv3 : Int32) (zv4 : Int32) (zh : PH) (H : Heap) (locs : List Loc) (ls : Array Slot), gi (fun zk zs => f_X8_add_17 N zk zs.1 zs.2.1 zs.2.2.1 zs.2.2.2.1 zs.2.2.2.2.1 zs.2.2.2.2.2) zn17 (zv0, zv1, zv2, zv3, zv4, zh) = some (r9, h9) → gw E s zh H locs → lv_has ls 5 [(0, .ref (gB E + zv0)), (1, .int zv1), (2, .int zv2), (3, .int zv3), (4, .int zv4)] → W p l e rm_X8_add s m [.ref (gB E + za0), .int za1, .int za2, .int za3].toArray below meth c H locs 0 0 (MQ below (gQi E r9 h9) [.ref (gB E + za0), .int za1, .int za2, .int za3].toArray s 0 0 (gA E)) (F0 m 17 ls []) := by
    intro zn17
    induction zn17 with
    | zero =>
      intro zv0 zv1 zv2 zv3 zv4 zh H locs ls hf
      cases hf
    | succ zn17 ih_17 =>
      intro zv0 zv1 zv2 zv3 zv4 zh H locs ls hf hw hl
      have hf := gi_s hf
      dsimp only at hf
      unfold f_X8_add_17 at hf
      refine lv_iload hx hb dX8_add_17 (lv_at hl 4 rfl) ?_
      refine lv_if_le (tgt := 89) hx hb dX8_add_19 (by decide) (fun qc1 => ?_) (fun qc1 => ?_)
      · have hf := gif_t hf qc1
        exact J_89 zv0 zv1 zv2 zv3 zv4 _ _ _ ls hf hw (lv_sub hl [0, 1, 2, 3, 4] rfl)
      · have hf := gif_f hf qc1
        refine lv_aload_n hx hb dX8_add_22 rfl (lv_at hl 0 rfl) ?_
        obtain ⟨zt2, qzt2, hf⟩ := gb_el hf
        refine gx_getR X hw qzt2 clX8 (by decide) mf_X8_18 dX8_add_23 ?_
        refine lv_iload hx hb dX8_add_26 (lv_at hl 4 rfl) ?_
        refine lv_iconst (v := 1) hx hb dX8_add_28 (by decide) ?_
        refine lv_isub hx hb dX8_add_29 ?_
        obtain ⟨zt3, qzt3, hf⟩ := gb_el hf
        refine gx_iald X hw qzt3 dX8_add_30 ?_
        refine lv_iload_n hx hb dX8_add_31 rfl (lv_at hl 3 rfl) ?_
        refine W.eq (g2 := F0 m 32 ls [.int zv3, .int zt3]) rfl ?_
        refine lv_icmp_le (tgt := 89) hx hb dX8_add_32 (by decide) (fun qc4 => ?_) (fun qc4 => ?_)
        · have hf := gif_t hf qc4
          exact J_89 zv0 zv1 zv2 zv3 zv4 _ _ _ ls hf hw (lv_sub hl [0, 1, 2, 3, 4] rfl)
        · have hf := gif_f hf qc4
          refine lv_aload_n hx hb dX8_add_35 rfl (lv_at hl 0 rfl) ?_
          obtain ⟨zt5, qzt5, hf⟩ := gb_el hf
          refine gx_getR X hw qzt5 clX8 (by decide) mf_X8_9 dX8_add_36 ?_
          refine lv_iload hx hb dX8_add_39 (lv_at hl 4 rfl) ?_
          refine lv_aload_n hx hb dX8_add_41 rfl (lv_at hl 0 rfl) ?_
          obtain ⟨zt6, qzt6, hf⟩ := gb_el hf
          refine gx_getR X hw qzt6 clX8 (by decide) mf_X8_9 dX8_add_42 ?_
          refine lv_iload hx hb dX8_add_45 (lv_at hl 4 rfl) ?_
          refine lv_iconst (v := 1) hx hb dX8_add_47 (by decide) ?_
          refine lv_isub hx hb dX8_add_48 ?_
          obtain ⟨zt7, qzt7, hf⟩ := gb_el hf
          refine gx_iald X hw qzt7 dX8_add_49 ?_
          refine W.eq (g2 := F0 m 50 ls [.int zt7, .int zv4, .ref (gB E + zt5)]) rfl ?_
          obtain ⟨zh8, qzh8, hf⟩ := gb_el hf
          refine gx_iast X hw qzh8 dX8_add_50 (fun H locs hw => ?_)
          refine lv_aload_n hx hb dX8_add_51 rfl (lv_at hl 0 rfl) ?_
          obtain ⟨zt9, qzt9, hf⟩ := gb_el hf
          refine gx_getR X hw qzt9 clX8 (by decide) mf_X8_15 dX8_add_52 ?_
          refine lv_iload hx hb dX8_add_55 (lv_at hl 4 rfl) ?_
          refine lv_aload_n hx hb dX8_add_57 rfl (lv_at hl 0 rfl) ?_
          obtain ⟨zt10, qzt10, hf⟩ := gb_el hf
          refine gx_getR X hw qzt10 clX8 (by decide) mf_X8_15 dX8_add_58 ?_
          refine lv_iload hx hb dX8_add_61 (lv_at hl 4 rfl) ?_
          refine lv_iconst (v := 1) hx hb dX8_add_63 (by decide) ?_
          refine lv_isub hx hb dX8_add_64 ?_
          obtain ⟨zt11, qzt11, hf⟩ := gb_el hf
          refine gx_iald X hw qzt11 dX8_add_65 ?_
          refine W.eq (g2 := F0 m 66 ls [.int zt11, .int zv4, .ref (gB E + zt9)]) rfl ?_
          obtain ⟨zh12, qzh12, hf⟩ := gb_el hf
          refine gx_iast X hw qzh12 dX8_add_66 (fun H locs hw => ?_)
          refine lv_aload_n hx hb dX8_add_67 rfl (lv_at hl 0 rfl) ?_
          obtain ⟨zt13, qzt13, hf⟩ := gb_el hf
          refine gx_getR X hw qzt13 clX8 (by decide) mf_X8_18 dX8_add_68 ?_
          refine lv_iload hx hb dX8_add_71 (lv_at hl 4 rfl) ?_
          refine lv_aload_n hx hb dX8_add_73 rfl (lv_at hl 0 rfl) ?_
          obtain ⟨zt14, qzt14, hf⟩ := gb_el hf
          refine gx_getR X hw qzt14 clX8 (by decide) mf_X8_18 dX8_add_74 ?_
          refine lv_iload hx hb dX8_add_77 (lv_at hl 4 rfl) ?_
          refine lv_iconst (v := 1) hx hb dX8_add_79 (by decide) ?_
          refine lv_isub hx hb dX8_add_80 ?_
          obtain ⟨zt15, qzt15, hf⟩ := gb_el hf
          refine gx_iald X hw qzt15 dX8_add_81 ?_
          refine W.eq (g2 := F0 m 82 ls [.int zt15, .int zv4, .ref (gB E + zt13)]) rfl ?_
          obtain ⟨zh16, qzh16, hf⟩ := gb_el hf
          refine gx_iast X hw qzh16 dX8_add_82 (fun H locs hw => ?_)
          obtain ⟨zx17, ezx17⟩ : ∃ y : Int32, y = zv4 + (-1) := ⟨_, rfl⟩
          have hf := gl_el hf ezx17
          refine lv_iinc (v := zx17) (lv' := [(4, .int zx17), (0, .ref (gB E + zv0)), (1, .int zv1), (2, .int zv2), (3, .int zv3)]) hx hb dX8_add_83 hl (k := 4) rfl (by rw [ezx17]; rfl) (by decide) rfl (fun ls hl => ?_)
          refine lv_goto (tgt := 17) hx hb dX8_add_86 (by decide) ?_
          exact ih_17 zv0 zv1 zv2 zv3 zx17 _ _ _ ls hf hw (lv_sub hl [1, 2, 3, 4, 0] rfl)
  unfold f_X8_add at hf
  refine lv_aload_n hx hb dX8_add_0 rfl (lv_at hl 0 rfl) ?_
  obtain ⟨zt1, qzt1, hf⟩ := gb_el hf
  refine gx_getI X hw qzt1 clX8 (by decide) mf_X8_33 dX8_add_1 ?_
  refine lv_bipush (v := 20) hx hb dX8_add_4 (by decide) ?_
  refine lv_icmp_lt (tgt := 11) hx hb dX8_add_6 (by decide) (fun qc2 => ?_) (fun qc2 => ?_)
  · have hf := gif_t hf qc2
    refine lv_aload_n hx hb dX8_add_11 rfl (lv_at hl 0 rfl) ?_
    obtain ⟨zt3, qzt3, hf⟩ := gb_el hf
    refine gx_getI X hw qzt3 clX8 (by decide) mf_X8_33 dX8_add_12 ?_
    refine lv_istore (lv' := [(4, .int zt3), (0, .ref (gB E + za0)), (1, .int za1), (2, .int za2), (3, .int za3)]) hx hb dX8_add_15 hl (by decide) rfl (fun ls hl => ?_)
    exact L_17 N za0 za1 za2 za3 zt3 _ _ _ ls hf hw (lv_sub hl [1, 2, 3, 4, 0] rfl)
  · have hf := gif_f hf qc2
    refine lv_iconst (v := 0) hx hb dX8_add_9 (by decide) ?_
    exact gx_zret X hr hlk hw hf dX8_add_10
abbrev rm_X8_isInReach : Room := { frames := 3, cells := 0, slots := 0, locals := 65 }
set_option maxHeartbeats 4000000 in
set_option maxRecDepth 100000 in
theorem c_X8_isInReach (l : Launch) (E : gE) (N : Nat) (za0 : Nat) (za1 : Nat) (za2 : Int32) (za3 : Int32) (za4 : Int32) (zh : PH) {h9 : PH} {r9 : Int32} (hf : f_X8_isInReach N za0 za1 za2 za3 za4 zh = some (r9, h9)) : Met l yX8_isInReach (gWS yX8_isInReach cX8_isInReach 5 (some .boolean)) rm_X8_isInReach (gPc E [.ref (gB E + za0), .ref (gB E + za1), .int za2, .int za3, .int za4] zh) (gQi E r9 h9) 0 0 (gA E) := by
  refine gx_met (by decide) ?_ rfl
  intro p e s m below meth c X hr hlk hin2 hw
  have hx := X.1.1
  have hb := X.1.2.1
  have hl := lv_entry [.ref (gB E + za0), .ref (gB E + za1), .int za2, .int za3, .int za4] (n := 5) (Nat.le_of_ble_eq_true rfl)
  rw [lg_entry_eq]
  generalize (lg_sl [.ref (gB E + za0), .ref (gB E + za1), .int za2, .int za3, .int za4] ++ List.replicate (5 - (lg_sl [.ref (gB E + za0), .ref (gB E + za1), .int za2, .int za3, .int za4]).length) Slot.unset).toArray = ls at hl ⊢
  have hl : lv_has ls 5 [(0, .ref (gB E + za0)), (1, .ref (gB E + za1)), (2, .int za2), (3, .int za3), (4, .int za4)] := hl
  have J_31 : ∀ (zs0 : Int32) (zh : PH) (H : Heap) (locs : List Loc) (ls : Array Slot), f_X8_isInReach_31 N zs0 zh = some (r9, h9) → gw E s zh H locs → lv_has ls 5 [] → W p l e rm_X8_isInReach s m [.ref (gB E + za0), .ref (gB E + za1), .int za2, .int za3, .int za4].toArray below meth c H locs 0 0 (MQ below (gQi E r9 h9) [.ref (gB E + za0), .ref (gB E + za1), .int za2, .int za3, .int za4].toArray s 0 0 (gA E)) (F0 m 31 ls [.int zs0]) := by
    intro zs0 zh H locs ls hf hw hl
    unfold f_X8_isInReach_31 at hf
    exact gx_zret X hr hlk hw hf dX8_isInReach_31
  unfold f_X8_isInReach at hf
  refine lv_aload_n hx hb dX8_isInReach_0 rfl (lv_at hl 1 rfl) ?_
  refine lv_aload_n hx hb dX8_isInReach_1 rfl (lv_at hl 0 rfl) ?_
  obtain ⟨zt1, qzt1, hf⟩ := gb_el hf
  refine gx_getR X hw qzt1 clX8 (by decide) mf_X8_15 dX8_isInReach_2 ?_
  refine lv_iload_n hx hb dX8_isInReach_5 rfl (lv_at hl 2 rfl) ?_
  obtain ⟨zt2, qzt2, hf⟩ := gb_el hf
  refine gx_iald X hw qzt2 dX8_isInReach_6 ?_
  refine lv_iload_n hx hb dX8_isInReach_7 rfl (lv_at hl 3 rfl) ?_
  obtain ⟨qizh3, hf⟩ := gg_el hf
  obtain ⟨zt4, zh3, qzh3, hf⟩ := gc_el hf
  refine gx_ki (gx_runV (As := [.int zt2, .int za3]) (rest := []) X hw (c_X2_walkBetween l E N za1 zt2 za3 zh qzh3) kX2_walkBetween mm_X8_57 qizh3 clX2 ⟨Nat.le_of_ble_eq_true rfl, Nat.le_of_ble_eq_true rfl⟩ rfl rfl rfl hl.1 (Nat.le_of_ble_eq_true rfl) rfl dX8_isInReach_8 ⟨Nat.le_of_ble_eq_true rfl, Nat.le_of_ble_eq_true rfl⟩) hw (fun H locs hw => ?_)
  refine lv_aload_n hx hb dX8_isInReach_11 rfl (lv_at hl 0 rfl) ?_
  obtain ⟨zt5, qzt5, hf⟩ := gb_el hf
  refine gx_getR X hw qzt5 clX8 (by decide) mf_X8_18 dX8_isInReach_12 ?_
  refine W.eq (g2 := F0 m 15 ls [.ref (gB E + zt5), .int zt4]) rfl ?_
  refine lv_iload_n hx hb dX8_isInReach_15 rfl (lv_at hl 2 rfl) ?_
  obtain ⟨zt6, qzt6, hf⟩ := gb_el hf
  refine gx_iald X hw qzt6 dX8_isInReach_16 ?_
  refine lv_iload hx hb dX8_isInReach_17 (lv_at hl 4 rfl) ?_
  refine lv_isub hx hb dX8_isInReach_19 ?_
  refine gx_abs X mm_X8_60 mt_abs mI_java_lang_Math mx_abs hl.1 (Nat.le_of_ble_eq_true rfl) (Nat.le_of_ble_eq_true rfl) (Nat.le_of_ble_eq_true rfl) (Nat.le_of_ble_eq_true rfl) dX8_isInReach_20 ?_
  refine lv_icmp_gt (tgt := 30) hx hb dX8_isInReach_23 (by decide) (fun qc7 => ?_) (fun qc7 => ?_)
  · have hf := gif_t hf qc7
    refine lv_iconst (v := 0) hx hb dX8_isInReach_30 (by decide) ?_
    exact J_31 0 _ _ _ ls hf hw (lv_sub hl [] rfl)
  · have hf := gif_f hf qc7
    refine lv_iconst (v := 1) hx hb dX8_isInReach_26 (by decide) ?_
    refine lv_goto (tgt := 31) hx hb dX8_isInReach_27 (by decide) ?_
    exact J_31 1 _ _ _ ls hf hw (lv_sub hl [] rfl)
abbrev rm_X8_possibleIn : Room := { frames := 4, cells := 0, slots := 0, locals := 89 }
set_option maxHeartbeats 4000000 in
set_option maxRecDepth 100000 in
theorem c_X8_possibleIn (l : Launch) (E : gE) (N : Nat) (za0 : Nat) (za1 : Nat) (za2 : Int32) (za3 : Int32) (zh : PH) {h9 : PH} {r9 : Int32} (hf : f_X8_possibleIn N za0 za1 za2 za3 zh = some (r9, h9)) : Met l yX8_possibleIn (gWS yX8_possibleIn cX8_possibleIn 6 (some .int)) rm_X8_possibleIn (gPc E [.ref (gB E + za0), .ref (gB E + za1), .int za2, .int za3] zh) (gQi E r9 h9) 0 0 (gA E) := by
  refine gx_met (by decide) ?_ rfl
  intro p e s m below meth c X hr hlk hin2 hw
  have hx := X.1.1
  have hb := X.1.2.1
  have hl := lv_entry [.ref (gB E + za0), .ref (gB E + za1), .int za2, .int za3] (n := 6) (Nat.le_of_ble_eq_true rfl)
  rw [lg_entry_eq]
  generalize (lg_sl [.ref (gB E + za0), .ref (gB E + za1), .int za2, .int za3] ++ List.replicate (6 - (lg_sl [.ref (gB E + za0), .ref (gB E + za1), .int za2, .int za3]).length) Slot.unset).toArray = ls at hl ⊢
  have hl : lv_has ls 6 [(0, .ref (gB E + za0)), (1, .ref (gB E + za1)), (2, .int za2), (3, .int za3)] := hl
  have L_13 : ∀ (zn13 : Nat) (zv0 : Nat) (zv1 : Nat) (zv2 : Int32) (zv3 : Int32) (zv4 : Int32) (zv5 : Int32) (zh : PH) (H : Heap) (locs : List Loc) (ls : Array Slot), gi (fun zk zs => f_X8_possibleIn_13 N zk zs.1 zs.2.1 zs.2.2.1 zs.2.2.2.1 zs.2.2.2.2.1 zs.2.2.2.2.2.1 zs.2.2.2.2.2.2) zn13 (zv0, zv1, zv2, zv3, zv4, zv5, zh) = some (r9, h9) → gw E s zh H locs → lv_has ls 6 [(0, .ref (gB E + zv0)), (1, .ref (gB E + zv1)), (2, .int zv2), (3, .int zv3), (4, .int zv4), (5, .int zv5)] → W p l e rm_X8_possibleIn s m [.ref (gB E + za0), .ref (gB E + za1), .int za2, .int za3].toArray below meth c H locs 0 0 (MQ below (gQi E r9 h9) [.ref (gB E + za0), .ref (gB E + za1), .int za2, .int za3].toArray s 0 0 (gA E)) (F0 m 13 ls []) := by
    intro zn13
    induction zn13 with
    | zero =>
      intro zv0 zv1 zv2 zv3 zv4 zv5 zh H locs ls hf
      cases hf
    | succ zn13 ih_13 =>
      have J_50 : ∀ (zv0 : Nat) (zv1 : Nat) (zv2 : Int32) (zv3 : Int32) (zv4 : Int32) (zv5 : Int32) (zh : PH) (H : Heap) (locs : List Loc) (ls : Array Slot), f_X8_possibleIn_50 N (gi (fun zk zs => f_X8_possibleIn_13 N zk zs.1 zs.2.1 zs.2.2.1 zs.2.2.2.1 zs.2.2.2.2.1 zs.2.2.2.2.2.1 zs.2.2.2.2.2.2) zn13) zv0 zv1 zv2 zv3 zv4 zv5 zh = some (r9, h9) → gw E s zh H locs → lv_has ls 6 [(0, .ref (gB E + zv0)), (1, .ref (gB E + zv1)), (2, .int zv2), (3, .int zv3), (4, .int zv4), (5, .int zv5)] → W p l e rm_X8_possibleIn s m [.ref (gB E + za0), .ref (gB E + za1), .int za2, .int za3].toArray below meth c H locs 0 0 (MQ below (gQi E r9 h9) [.ref (gB E + za0), .ref (gB E + za1), .int za2, .int za3].toArray s 0 0 (gA E)) (F0 m 50 ls []) := by
        intro zv0 zv1 zv2 zv3 zv4 zv5 zh H locs ls hf hw hl
        unfold f_X8_possibleIn_50 at hf
        obtain ⟨zx1, ezx1⟩ : ∃ y : Int32, y = zv5 + 1 := ⟨_, rfl⟩
        have hf := gl_el hf ezx1
        refine lv_iinc (v := zx1) (lv' := [(5, .int zx1), (0, .ref (gB E + zv0)), (1, .ref (gB E + zv1)), (2, .int zv2), (3, .int zv3), (4, .int zv4)]) hx hb dX8_possibleIn_50 hl (k := 5) rfl (by rw [ezx1]; rfl) (by decide) rfl (fun ls hl => ?_)
        refine lv_goto (tgt := 13) hx hb dX8_possibleIn_53 (by decide) ?_
        exact ih_13 zv0 zv1 zv2 zv3 zv4 zx1 _ _ _ ls hf hw (lv_sub hl [1, 2, 3, 4, 5, 0] rfl)
      intro zv0 zv1 zv2 zv3 zv4 zv5 zh H locs ls hf hw hl
      have hf := gi_s hf
      dsimp only at hf
      unfold f_X8_possibleIn_13 at hf
      refine lv_iload hx hb dX8_possibleIn_13 (lv_at hl 5 rfl) ?_
      refine lv_aload_n hx hb dX8_possibleIn_15 rfl (lv_at hl 0 rfl) ?_
      obtain ⟨zt1, qzt1, hf⟩ := gb_el hf
      refine gx_getI X hw qzt1 clX8 (by decide) mf_X8_33 dX8_possibleIn_16 ?_
      refine lv_icmp_ge (tgt := 56) hx hb dX8_possibleIn_19 (by decide) (fun qc2 => ?_) (fun qc2 => ?_)
      · have hf := gif_t hf qc2
        refine lv_iload hx hb dX8_possibleIn_56 (lv_at hl 4 rfl) ?_
        exact gx_iret X hr hlk hw hf dX8_possibleIn_58
      · have hf := gif_f hf qc2
        refine lv_aload_n hx hb dX8_possibleIn_22 rfl (lv_at hl 0 rfl) ?_
        refine lv_aload_n hx hb dX8_possibleIn_23 rfl (lv_at hl 1 rfl) ?_
        refine lv_iload hx hb dX8_possibleIn_24 (lv_at hl 5 rfl) ?_
        refine lv_iload_n hx hb dX8_possibleIn_26 rfl (lv_at hl 2 rfl) ?_
        refine lv_iload_n hx hb dX8_possibleIn_27 rfl (lv_at hl 3 rfl) ?_
        refine W.eq (g2 := F0 m 28 ls [.int zv3, .int zv2, .int zv5, .ref (gB E + zv1), .ref (gB E + zv0)]) rfl ?_
        obtain ⟨qizh3, hf⟩ := gg_el hf
        obtain ⟨zt4, zh3, qzh3, hf⟩ := gc_el hf
        refine gx_ki (gx_runV (As := [.ref (gB E + zv1), .int zv5, .int zv2, .int zv3]) (rest := []) X hw (c_X8_isInReach l E N zv0 zv1 zv5 zv2 zv3 zh qzh3) kX8_isInReach mm_X8_41 qizh3 clX8 ⟨Nat.le_of_ble_eq_true rfl, Nat.le_of_ble_eq_true rfl⟩ rfl rfl rfl hl.1 (Nat.le_of_ble_eq_true rfl) rfl dX8_possibleIn_28 ⟨Nat.le_of_ble_eq_true rfl, Nat.le_of_ble_eq_true rfl⟩) hw (fun H locs hw => ?_)
        refine lv_if_ne (tgt := 50) hx hb dX8_possibleIn_31 (by decide) (fun qc5 => ?_) (fun qc5 => ?_)
        · have hf := gif_f hf qc5
          exact J_50 zv0 zv1 zv2 zv3 zv4 zv5 _ _ _ ls hf hw (lv_sub hl [0, 1, 2, 3, 4, 5] rfl)
        · have hf := gif_t hf qc5
          refine lv_iload hx hb dX8_possibleIn_34 (lv_at hl 4 rfl) ?_
          refine lv_iconst (v := 1) hx hb dX8_possibleIn_36 (by decide) ?_
          refine lv_aload_n hx hb dX8_possibleIn_37 rfl (lv_at hl 0 rfl) ?_
          obtain ⟨zt6, qzt6, hf⟩ := gb_el hf
          refine gx_getR X hw qzt6 clX8 (by decide) mf_X8_9 dX8_possibleIn_38 ?_
          refine lv_iload hx hb dX8_possibleIn_41 (lv_at hl 5 rfl) ?_
          obtain ⟨zt7, qzt7, hf⟩ := gb_el hf
          refine gx_iald X hw qzt7 dX8_possibleIn_43 ?_
          refine lv_ishl hx hb dX8_possibleIn_44 ?_
          refine lv_iconst (v := (-1)) hx hb dX8_possibleIn_45 (by decide) ?_
          refine W.eq (g2 := F0 m 46 ls [.int (-1), .int (1 <<< (zt7 &&& 31)), .int zv4]) rfl ?_
          refine lv_ixor hx hb dX8_possibleIn_46 ?_
          refine lv_iand hx hb dX8_possibleIn_47 ?_
          refine lv_topi (fun zx8 ezx8 => ?_)
          have hf := gl_el hf ezx8
          refine lv_istore (lv' := [(4, .int zx8), (0, .ref (gB E + zv0)), (1, .ref (gB E + zv1)), (2, .int zv2), (3, .int zv3), (5, .int zv5)]) hx hb dX8_possibleIn_48 hl (by decide) rfl (fun ls hl => ?_)
          exact J_50 zv0 zv1 zv2 zv3 zx8 zv5 _ _ _ ls hf hw (lv_sub hl [1, 2, 3, 4, 0, 5] rfl)
  unfold f_X8_possibleIn at hf
  refine lv_iconst (v := 1) hx hb dX8_possibleIn_0 (by decide) ?_
  refine lv_aload_n hx hb dX8_possibleIn_1 rfl (lv_at hl 1 rfl) ?_
  obtain ⟨zt1, qzt1, hf⟩ := gb_el hf
  refine gx_getI X hw qzt1 clX2 (by decide) mf_X8_37 dX8_possibleIn_2 ?_
  refine lv_ishl hx hb dX8_possibleIn_5 ?_
  refine lv_iconst (v := 1) hx hb dX8_possibleIn_6 (by decide) ?_
  refine lv_isub hx hb dX8_possibleIn_7 ?_
  refine lv_topi (fun zx2 ezx2 => ?_)
  have hf := gl_el hf ezx2
  refine lv_istore (lv' := [(4, .int zx2), (0, .ref (gB E + za0)), (1, .ref (gB E + za1)), (2, .int za2), (3, .int za3)]) hx hb dX8_possibleIn_8 hl (by decide) rfl (fun ls hl => ?_)
  refine lv_iconst (v := 0) hx hb dX8_possibleIn_10 (by decide) ?_
  refine lv_istore (lv' := [(5, .int 0), (4, .int zx2), (0, .ref (gB E + za0)), (1, .ref (gB E + za1)), (2, .int za2), (3, .int za3)]) hx hb dX8_possibleIn_11 hl (by decide) rfl (fun ls hl => ?_)
  exact L_13 N za0 za1 za2 za3 zx2 0 _ _ _ ls hf hw (lv_sub hl [2, 3, 4, 5, 1, 0] rfl)
abbrev rm_X8_fewestFalse : Room := { frames := 4, cells := 0, slots := 0, locals := 89 }
set_option maxHeartbeats 4000000 in
set_option maxRecDepth 100000 in
theorem c_X8_fewestFalse (l : Launch) (E : gE) (N : Nat) (za0 : Nat) (za1 : Nat) (zh : PH) {h9 : PH} {r9 : Int32} (hf : f_X8_fewestFalse N za0 za1 zh = some (r9, h9)) : Met l yX8_fewestFalse (gWS yX8_fewestFalse cX8_fewestFalse 5 (some .int)) rm_X8_fewestFalse (gPc E [.ref (gB E + za0), .ref (gB E + za1)] zh) (gQi E r9 h9) 0 0 (gA E) := by
  refine gx_met (by decide) ?_ rfl
  intro p e s m below meth c X hr hlk hin2 hw
  have hx := X.1.1
  have hb := X.1.2.1
  have hl := lv_entry [.ref (gB E + za0), .ref (gB E + za1)] (n := 5) (Nat.le_of_ble_eq_true rfl)
  rw [lg_entry_eq]
  generalize (lg_sl [.ref (gB E + za0), .ref (gB E + za1)] ++ List.replicate (5 - (lg_sl [.ref (gB E + za0), .ref (gB E + za1)]).length) Slot.unset).toArray = ls at hl ⊢
  have hl : lv_has ls 5 [(0, .ref (gB E + za0)), (1, .ref (gB E + za1))] := hl
  have L_12 : ∀ (zn12 : Nat) (zv0 : Nat) (zv1 : Nat) (zv2 : Int32) (zv3 : Int32) (zh : PH) (H : Heap) (locs : List Loc) (ls : Array Slot), gi (fun zk zs => f_X8_fewestFalse_12 N zk zs.1 zs.2.1 zs.2.2.1 zs.2.2.2.1 zs.2.2.2.2) zn12 (zv0, zv1, zv2, zv3, zh) = some (r9, h9) → gw E s zh H locs → lv_has ls 5 [(0, .ref (gB E + zv0)), (1, .ref (gB E + zv1)), (2, .int zv2), (3, .int zv3)] → W p l e rm_X8_fewestFalse s m [.ref (gB E + za0), .ref (gB E + za1)].toArray below meth c H locs 0 0 (MQ below (gQi E r9 h9) [.ref (gB E + za0), .ref (gB E + za1)].toArray s 0 0 (gA E)) (F0 m 12 ls []) := by
    intro zn12
    induction zn12 with
    | zero =>
      intro zv0 zv1 zv2 zv3 zh H locs ls hf
      cases hf
    | succ zn12 ih_12 =>
      have L_30 : ∀ (zn30 : Nat) (zv0 : Nat) (zv1 : Nat) (zv2 : Int32) (zv3 : Int32) (zv4 : Int32) (zh : PH) (H : Heap) (locs : List Loc) (ls : Array Slot), gi (fun zk zs => f_X8_fewestFalse_30 N (gi (fun zk zs => f_X8_fewestFalse_12 N zk zs.1 zs.2.1 zs.2.2.1 zs.2.2.2.1 zs.2.2.2.2) zn12) zk zs.1 zs.2.1 zs.2.2.1 zs.2.2.2.1 zs.2.2.2.2.1 zs.2.2.2.2.2) zn30 (zv0, zv1, zv2, zv3, zv4, zh) = some (r9, h9) → gw E s zh H locs → lv_has ls 5 [(0, .ref (gB E + zv0)), (1, .ref (gB E + zv1)), (2, .int zv2), (3, .int zv3), (4, .int zv4)] → W p l e rm_X8_fewestFalse s m [.ref (gB E + za0), .ref (gB E + za1)].toArray below meth c H locs 0 0 (MQ below (gQi E r9 h9) [.ref (gB E + za0), .ref (gB E + za1)].toArray s 0 0 (gA E)) (F0 m 30 ls []) := by
        intro zn30
        induction zn30 with
        | zero =>
          intro zv0 zv1 zv2 zv3 zv4 zh H locs ls hf
          cases hf
        | succ zn30 ih_30 =>
          have J_98 : ∀ (zv0 : Nat) (zv1 : Nat) (zv2 : Int32) (zv3 : Int32) (zv4 : Int32) (zh : PH) (H : Heap) (locs : List Loc) (ls : Array Slot), f_X8_fewestFalse_98 N (gi (fun zk zs => f_X8_fewestFalse_12 N zk zs.1 zs.2.1 zs.2.2.1 zs.2.2.2.1 zs.2.2.2.2) zn12) (gi (fun zk zs => f_X8_fewestFalse_30 N (gi (fun zk zs => f_X8_fewestFalse_12 N zk zs.1 zs.2.1 zs.2.2.1 zs.2.2.2.1 zs.2.2.2.2) zn12) zk zs.1 zs.2.1 zs.2.2.1 zs.2.2.2.1 zs.2.2.2.2.1 zs.2.2.2.2.2) zn30) zv0 zv1 zv2 zv3 zv4 zh = some (r9, h9) → gw E s zh H locs → lv_has ls 5 [(0, .ref (gB E + zv0)), (1, .ref (gB E + zv1)), (2, .int zv2), (3, .int zv3), (4, .int zv4)] → W p l e rm_X8_fewestFalse s m [.ref (gB E + za0), .ref (gB E + za1)].toArray below meth c H locs 0 0 (MQ below (gQi E r9 h9) [.ref (gB E + za0), .ref (gB E + za1)].toArray s 0 0 (gA E)) (F0 m 98 ls []) := by
            intro zv0 zv1 zv2 zv3 zv4 zh H locs ls hf hw hl
            unfold f_X8_fewestFalse_98 at hf
            obtain ⟨zx1, ezx1⟩ : ∃ y : Int32, y = zv4 + 1 := ⟨_, rfl⟩
            have hf := gl_el hf ezx1
            refine lv_iinc (v := zx1) (lv' := [(4, .int zx1), (0, .ref (gB E + zv0)), (1, .ref (gB E + zv1)), (2, .int zv2), (3, .int zv3)]) hx hb dX8_fewestFalse_98 hl (k := 4) rfl (by rw [ezx1]; rfl) (by decide) rfl (fun ls hl => ?_)
            refine lv_goto (tgt := 30) hx hb dX8_fewestFalse_101 (by decide) ?_
            exact ih_30 zv0 zv1 zv2 zv3 zx1 _ _ _ ls hf hw (lv_sub hl [1, 2, 3, 4, 0] rfl)
          intro zv0 zv1 zv2 zv3 zv4 zh H locs ls hf hw hl
          have hf := gi_s hf
          dsimp only at hf
          unfold f_X8_fewestFalse_30 at hf
          refine lv_iload hx hb dX8_fewestFalse_30 (lv_at hl 4 rfl) ?_
          refine lv_iload_n hx hb dX8_fewestFalse_32 rfl (lv_at hl 3 rfl) ?_
          refine lv_icmp_ge (tgt := 104) hx hb dX8_fewestFalse_33 (by decide) (fun qc1 => ?_) (fun qc1 => ?_)
          · have hf := gif_t hf qc1
            refine lv_iconst (v := 0) hx hb dX8_fewestFalse_104 (by decide) ?_
            refine lv_aload_n hx hb dX8_fewestFalse_105 rfl (lv_at hl 0 rfl) ?_
            obtain ⟨zt2, qzt2, hf⟩ := gb_el hf
            refine gx_getR X hw qzt2 clX8 (by decide) mf_X8_21 dX8_fewestFalse_106 ?_
            refine lv_iload_n hx hb dX8_fewestFalse_109 rfl (lv_at hl 3 rfl) ?_
            obtain ⟨zt3, qzt3, hf⟩ := gb_el hf
            refine gx_iald X hw qzt3 dX8_fewestFalse_110 ?_
            refine lv_aload_n hx hb dX8_fewestFalse_111 rfl (lv_at hl 0 rfl) ?_
            refine W.eq (g2 := F0 m 112 ls [.ref (gB E + zv0), .int zt3, .int 0]) rfl ?_
            obtain ⟨zt4, qzt4, hf⟩ := gb_el hf
            refine gx_getR X hw qzt4 clX8 (by decide) mf_X8_24 dX8_fewestFalse_112 ?_
            refine lv_aload_n hx hb dX8_fewestFalse_115 rfl (lv_at hl 0 rfl) ?_
            obtain ⟨zt5, qzt5, hf⟩ := gb_el hf
            refine gx_getR X hw qzt5 clX8 (by decide) mf_X8_9 dX8_fewestFalse_116 ?_
            refine lv_iload_n hx hb dX8_fewestFalse_119 rfl (lv_at hl 3 rfl) ?_
            obtain ⟨zt6, qzt6, hf⟩ := gb_el hf
            refine gx_iald X hw qzt6 dX8_fewestFalse_120 ?_
            obtain ⟨zt7, qzt7, hf⟩ := gb_el hf
            refine gx_iald X hw qzt7 dX8_fewestFalse_121 ?_
            refine lv_isub hx hb dX8_fewestFalse_122 ?_
            refine gx_max X mm_X8_51 mt_max mI_java_lang_Math mx_max hl.1 (Nat.le_of_ble_eq_true rfl) (Nat.le_of_ble_eq_true rfl) (Nat.le_of_ble_eq_true rfl) (Nat.le_of_ble_eq_true rfl) dX8_fewestFalse_123 ?_
            refine lv_topi (fun zx8 ezx8 => ?_)
            have hf := gl_el hf ezx8
            refine lv_istore (lv' := [(4, .int zx8), (0, .ref (gB E + zv0)), (1, .ref (gB E + zv1)), (2, .int zv2), (3, .int zv3)]) hx hb dX8_fewestFalse_126 hl (by decide) rfl (fun ls hl => ?_)
            refine lv_aload_n hx hb dX8_fewestFalse_128 rfl (lv_at hl 1 rfl) ?_
            refine W.eq (g2 := F0 m 129 ls [.ref (gB E + zv0)]) rfl ?_
            obtain ⟨zt9, qzt9, hf⟩ := gb_el hf
            refine gx_getR X hw qzt9 clX8 (by decide) mf_X8_24 dX8_fewestFalse_129 ?_
            refine lv_aload_n hx hb dX8_fewestFalse_132 rfl (lv_at hl 1 rfl) ?_
            obtain ⟨zt10, qzt10, hf⟩ := gb_el hf
            refine gx_getR X hw qzt10 clX8 (by decide) mf_X8_9 dX8_fewestFalse_133 ?_
            refine lv_iload_n hx hb dX8_fewestFalse_136 rfl (lv_at hl 4 rfl) ?_
            obtain ⟨zt11, qzt11, hf⟩ := gb_el hf
            refine gx_iald X hw qzt11 dX8_fewestFalse_137 ?_
            refine lv_dup2_11 hx hb dX8_fewestFalse_138 rfl rfl ?_
            obtain ⟨zt12, qzt12, hf⟩ := gb_el hf
            refine gx_iald X hw qzt12 dX8_fewestFalse_139 ?_
            refine lv_iload hx hb dX8_fewestFalse_140 (lv_at hl 0 rfl) ?_
            refine lv_iadd hx hb dX8_fewestFalse_142 ?_
            obtain ⟨zh13, qzh13, hf⟩ := gb_el hf
            refine gx_iast X hw qzh13 dX8_fewestFalse_143 (fun H locs hw => ?_)
            refine W.eq (g2 := F0 m 144 ls []) rfl ?_
            refine lv_iload_n hx hb dX8_fewestFalse_144 rfl (lv_at hl 3 rfl) ?_
            refine lv_iload hx hb dX8_fewestFalse_145 (lv_at hl 0 rfl) ?_
            refine lv_iadd hx hb dX8_fewestFalse_147 ?_
            refine lv_topi (fun zx14 ezx14 => ?_)
            have hf := gl_el hf ezx14
            refine lv_istore_n (lv' := [(2, .int zx14), (4, .int zx8), (0, .ref (gB E + zv0)), (1, .ref (gB E + zv1)), (3, .int zv3)]) hx hb dX8_fewestFalse_148 rfl hl (by decide) rfl (fun ls hl => ?_)
            obtain ⟨zx15, ezx15⟩ : ∃ y : Int32, y = zv3 + 1 := ⟨_, rfl⟩
            have hf := gl_el hf ezx15
            refine lv_iinc (v := zx15) (lv' := [(3, .int zx15), (2, .int zx14), (4, .int zx8), (0, .ref (gB E + zv0)), (1, .ref (gB E + zv1))]) hx hb dX8_fewestFalse_149 hl (k := 4) rfl (by rw [ezx15]; rfl) (by decide) rfl (fun ls hl => ?_)
            refine lv_goto (tgt := 12) hx hb dX8_fewestFalse_152 (by decide) ?_
            exact ih_12 zv0 zv1 zx14 zx15 _ _ _ ls hf hw (lv_sub hl [3, 4, 1, 0] rfl)
          · have hf := gif_f hf qc1
            refine lv_aload_n hx hb dX8_fewestFalse_36 rfl (lv_at hl 0 rfl) ?_
            obtain ⟨zt16, qzt16, hf⟩ := gb_el hf
            refine gx_getR X hw qzt16 clX8 (by decide) mf_X8_9 dX8_fewestFalse_37 ?_
            refine lv_iload hx hb dX8_fewestFalse_40 (lv_at hl 4 rfl) ?_
            obtain ⟨zt17, qzt17, hf⟩ := gb_el hf
            refine gx_iald X hw qzt17 dX8_fewestFalse_42 ?_
            refine lv_aload_n hx hb dX8_fewestFalse_43 rfl (lv_at hl 0 rfl) ?_
            obtain ⟨zt18, qzt18, hf⟩ := gb_el hf
            refine gx_getR X hw qzt18 clX8 (by decide) mf_X8_9 dX8_fewestFalse_44 ?_
            refine W.eq (g2 := F0 m 47 ls [.ref (gB E + zt18), .int zt17]) rfl ?_
            refine lv_iload_n hx hb dX8_fewestFalse_47 rfl (lv_at hl 3 rfl) ?_
            obtain ⟨zt19, qzt19, hf⟩ := gb_el hf
            refine gx_iald X hw qzt19 dX8_fewestFalse_48 ?_
            refine lv_icmp_ne (tgt := 98) hx hb dX8_fewestFalse_49 (by decide) (fun qc20 => ?_) (fun qc20 => ?_)
            · have hf := gif_f hf qc20
              exact J_98 zv0 zv1 zv2 zv3 zv4 _ _ _ ls hf hw (lv_sub hl [0, 1, 2, 3, 4] rfl)
            · have hf := gif_t hf qc20
              refine lv_aload_n hx hb dX8_fewestFalse_52 rfl (lv_at hl 0 rfl) ?_
              refine lv_aload_n hx hb dX8_fewestFalse_53 rfl (lv_at hl 1 rfl) ?_
              refine lv_iload hx hb dX8_fewestFalse_54 (lv_at hl 4 rfl) ?_
              refine lv_aload_n hx hb dX8_fewestFalse_56 rfl (lv_at hl 0 rfl) ?_
              obtain ⟨zt21, qzt21, hf⟩ := gb_el hf
              refine gx_getR X hw qzt21 clX8 (by decide) mf_X8_15 dX8_fewestFalse_57 ?_
              refine lv_iload_n hx hb dX8_fewestFalse_60 rfl (lv_at hl 3 rfl) ?_
              obtain ⟨zt22, qzt22, hf⟩ := gb_el hf
              refine gx_iald X hw qzt22 dX8_fewestFalse_61 ?_
              refine W.eq (g2 := F0 m 62 ls [.int zt22, .int zv4, .ref (gB E + zv1), .ref (gB E + zv0)]) rfl ?_
              refine lv_aload_n hx hb dX8_fewestFalse_62 rfl (lv_at hl 0 rfl) ?_
              obtain ⟨zt23, qzt23, hf⟩ := gb_el hf
              refine gx_getR X hw qzt23 clX8 (by decide) mf_X8_18 dX8_fewestFalse_63 ?_
              refine lv_iload_n hx hb dX8_fewestFalse_66 rfl (lv_at hl 3 rfl) ?_
              obtain ⟨zt24, qzt24, hf⟩ := gb_el hf
              refine gx_iald X hw qzt24 dX8_fewestFalse_67 ?_
              obtain ⟨qizh25, hf⟩ := gg_el hf
              obtain ⟨zt26, zh25, qzh25, hf⟩ := gc_el hf
              refine gx_ki (gx_runV (As := [.ref (gB E + zv1), .int zv4, .int zt22, .int zt24]) (rest := []) X hw (c_X8_isInReach l E N zv0 zv1 zv4 zt22 zt24 zh qzh25) kX8_isInReach mm_X8_41 qizh25 clX8 ⟨Nat.le_of_ble_eq_true rfl, Nat.le_of_ble_eq_true rfl⟩ rfl rfl rfl hl.1 (Nat.le_of_ble_eq_true rfl) rfl dX8_fewestFalse_68 ⟨Nat.le_of_ble_eq_true rfl, Nat.le_of_ble_eq_true rfl⟩) hw (fun H locs hw => ?_)
              refine lv_if_eq (tgt := 98) hx hb dX8_fewestFalse_71 (by decide) (fun qc27 => ?_) (fun qc27 => ?_)
              · have hf := gif_t hf qc27
                exact J_98 zv0 zv1 zv2 zv3 zv4 _ _ _ ls hf hw (lv_sub hl [0, 1, 2, 3, 4] rfl)
              · have hf := gif_f hf qc27
                refine lv_aload_n hx hb dX8_fewestFalse_74 rfl (lv_at hl 0 rfl) ?_
                obtain ⟨zt28, qzt28, hf⟩ := gb_el hf
                refine gx_getR X hw qzt28 clX8 (by decide) mf_X8_21 dX8_fewestFalse_75 ?_
                refine lv_iload_n hx hb dX8_fewestFalse_78 rfl (lv_at hl 3 rfl) ?_
                refine lv_aload_n hx hb dX8_fewestFalse_79 rfl (lv_at hl 0 rfl) ?_
                refine W.eq (g2 := F0 m 80 ls [.ref (gB E + zv0), .int zv3, .ref (gB E + zt28)]) rfl ?_
                obtain ⟨zt29, qzt29, hf⟩ := gb_el hf
                refine gx_getR X hw qzt29 clX8 (by decide) mf_X8_21 dX8_fewestFalse_80 ?_
                refine lv_iload_n hx hb dX8_fewestFalse_83 rfl (lv_at hl 3 rfl) ?_
                obtain ⟨zt30, qzt30, hf⟩ := gb_el hf
                refine gx_iald X hw qzt30 dX8_fewestFalse_84 ?_
                refine lv_aload_n hx hb dX8_fewestFalse_85 rfl (lv_at hl 0 rfl) ?_
                obtain ⟨zt31, qzt31, hf⟩ := gb_el hf
                refine gx_getR X hw qzt31 clX8 (by decide) mf_X8_21 dX8_fewestFalse_86 ?_
                refine lv_iload hx hb dX8_fewestFalse_89 (lv_at hl 4 rfl) ?_
                obtain ⟨zt32, qzt32, hf⟩ := gb_el hf
                refine gx_iald X hw qzt32 dX8_fewestFalse_91 ?_
                refine lv_iconst (v := 1) hx hb dX8_fewestFalse_92 (by decide) ?_
                refine lv_iadd hx hb dX8_fewestFalse_93 ?_
                refine gx_max X mm_X8_51 mt_max mI_java_lang_Math mx_max hl.1 (Nat.le_of_ble_eq_true rfl) (Nat.le_of_ble_eq_true rfl) (Nat.le_of_ble_eq_true rfl) (Nat.le_of_ble_eq_true rfl) dX8_fewestFalse_94 ?_
                refine W.eq (g2 := F0 m 97 ls [.int (gmax zt30 (zt32 + 1)), .int zv3, .ref (gB E + zt28)]) rfl ?_
                obtain ⟨zh33, qzh33, hf⟩ := gb_el hf
                refine gx_iast X hw qzh33 dX8_fewestFalse_97 (fun H locs hw => ?_)
                exact J_98 zv0 zv1 zv2 zv3 zv4 _ _ _ ls hf hw (lv_sub hl [0, 1, 2, 3, 4] rfl)
      intro zv0 zv1 zv2 zv3 zh H locs ls hf hw hl
      have hf := gi_s hf
      dsimp only at hf
      unfold f_X8_fewestFalse_12 at hf
      refine lv_iload_n hx hb dX8_fewestFalse_12 rfl (lv_at hl 3 rfl) ?_
      refine lv_aload_n hx hb dX8_fewestFalse_13 rfl (lv_at hl 0 rfl) ?_
      obtain ⟨zt1, qzt1, hf⟩ := gb_el hf
      refine gx_getI X hw qzt1 clX8 (by decide) mf_X8_33 dX8_fewestFalse_14 ?_
      refine lv_icmp_ge (tgt := 155) hx hb dX8_fewestFalse_17 (by decide) (fun qc2 => ?_) (fun qc2 => ?_)
      · have hf := gif_t hf qc2
        refine lv_aload_n hx hb dX8_fewestFalse_155 rfl (lv_at hl 0 rfl) ?_
        obtain ⟨zt3, qzt3, hf⟩ := gb_el hf
        refine gx_getI X hw qzt3 clX8 (by decide) mf_X8_33 dX8_fewestFalse_156 ?_
        refine lv_iload_n hx hb dX8_fewestFalse_159 rfl (lv_at hl 2 rfl) ?_
        refine lv_isub hx hb dX8_fewestFalse_160 ?_
        exact gx_iret X hr hlk hw hf dX8_fewestFalse_161
      · have hf := gif_f hf qc2
        refine lv_aload_n hx hb dX8_fewestFalse_20 rfl (lv_at hl 0 rfl) ?_
        obtain ⟨zt4, qzt4, hf⟩ := gb_el hf
        refine gx_getR X hw qzt4 clX8 (by decide) mf_X8_21 dX8_fewestFalse_21 ?_
        refine lv_iload_n hx hb dX8_fewestFalse_24 rfl (lv_at hl 3 rfl) ?_
        refine lv_iconst (v := 1) hx hb dX8_fewestFalse_25 (by decide) ?_
        obtain ⟨zh5, qzh5, hf⟩ := gb_el hf
        refine gx_iast X hw qzh5 dX8_fewestFalse_26 (fun H locs hw => ?_)
        refine W.eq (g2 := F0 m 27 ls []) rfl ?_
        refine lv_iconst (v := 0) hx hb dX8_fewestFalse_27 (by decide) ?_
        refine lv_istore (lv' := [(4, .int 0), (0, .ref (gB E + zv0)), (1, .ref (gB E + zv1)), (2, .int zv2), (3, .int zv3)]) hx hb dX8_fewestFalse_28 hl (by decide) rfl (fun ls hl => ?_)
        exact L_30 N zv0 zv1 zv2 zv3 0 _ _ _ ls hf hw (lv_sub hl [1, 2, 3, 4, 0] rfl)
  unfold f_X8_fewestFalse at hf
  refine lv_aload_n hx hb dX8_fewestFalse_0 rfl (lv_at hl 0 rfl) ?_
  obtain ⟨zt1, qzt1, hf⟩ := gb_el hf
  refine gx_getR X hw qzt1 clX8 (by decide) mf_X8_24 dX8_fewestFalse_1 ?_
  refine lv_iconst (v := 0) hx hb dX8_fewestFalse_4 (by decide) ?_
  obtain ⟨zh2, qzh2, hf⟩ := gb_el hf
  refine gx_kv (gx_runS (As := [.ref (gB E + zt1), .int 0]) (rest := []) X hw (c_J7_fill_53178 l E N zt1 0 zh qzh2) kJ7_fill_53178 mm_X8_45 ⟨Nat.le_of_ble_eq_true rfl, Nat.le_of_ble_eq_true rfl⟩ rfl rfl rfl hl.1 (Nat.le_of_ble_eq_true rfl) rfl dX8_fewestFalse_5 ⟨Nat.le_of_ble_eq_true rfl, Nat.le_of_ble_eq_true rfl⟩) hw (fun H locs hw => ?_)
  refine lv_iconst (v := 0) hx hb dX8_fewestFalse_8 (by decide) ?_
  refine lv_istore_n (lv' := [(2, .int 0), (0, .ref (gB E + za0)), (1, .ref (gB E + za1))]) hx hb dX8_fewestFalse_9 rfl hl (by decide) rfl (fun ls hl => ?_)
  refine lv_iconst (v := 0) hx hb dX8_fewestFalse_10 (by decide) ?_
  refine lv_istore_n (lv' := [(3, .int 0), (2, .int 0), (0, .ref (gB E + za0)), (1, .ref (gB E + za1))]) hx hb dX8_fewestFalse_11 rfl hl (by decide) rfl (fun ls hl => ?_)
  exact L_12 N za0 za1 0 0 _ _ _ ls hf hw (lv_sub hl [2, 3, 1, 0] rfl)
abbrev rm_X9_init : Room := { frames := 2, cells := 51, slots := 1501, locals := 43 }
set_option maxHeartbeats 4000000 in
set_option maxRecDepth 100000 in
theorem c_X9_init (l : Launch) (E : gE) (N : Nat) (za0 : Nat) (za1 : Nat) (zh : PH) {h9 : PH} (hf : f_X9_init N za0 za1 zh = some h9) : Met l yX9_init (gWS yX9_init cX9_init 3 none) rm_X9_init (gPc E [.ref (gB E + za0), .ref (gB E + za1)] zh) (gQv E h9) 51 1501 (gA E) := by
  refine gx_met (by decide) ?_ rfl
  intro p e s m below meth c X hr hlk hin2 hw
  have hx := X.1.1
  have hb := X.1.2.1
  have hl := lv_entry [.ref (gB E + za0), .ref (gB E + za1)] (n := 3) (Nat.le_of_ble_eq_true rfl)
  rw [lg_entry_eq]
  generalize (lg_sl [.ref (gB E + za0), .ref (gB E + za1)] ++ List.replicate (3 - (lg_sl [.ref (gB E + za0), .ref (gB E + za1)]).length) Slot.unset).toArray = ls at hl ⊢
  have hl : lv_has ls 3 [(0, .ref (gB E + za0)), (1, .ref (gB E + za1))] := hl
  have L_79 : ∀ (zn79 : Nat) (zv0 : Nat) (zv2 : Int32) (zh : PH) (H : Heap) (locs : List Loc) (ls : Array Slot), zn79 ≤ 6 → gi (fun zk zs => f_X9_init_79 N zk zs.1 zs.2.1 zs.2.2) zn79 (zv0, zv2, zh) = some h9 → gw E s zh H locs → lv_has ls 3 [(0, .ref (gB E + zv0)), (2, .int zv2)] → W p l e rm_X9_init s m [.ref (gB E + za0), .ref (gB E + za1)].toArray below meth c H locs (21 + 5 * (6 - zn79)) (1201 + 50 * (6 - zn79)) (MQ below (gQv E h9) [.ref (gB E + za0), .ref (gB E + za1)].toArray s 51 1501 (gA E)) (F0 m 79 ls []) := by
    intro zn79
    induction zn79 with
    | zero =>
      intro zv0 zv2 zh H locs ls _ hf
      cases hf
    | succ zn79 ih_79 =>
      intro zv0 zv2 zh H locs ls hzn hf hw hl
      have hf := gi_s hf
      dsimp only at hf
      unfold f_X9_init_79 at hf
      refine lv_iload_n hx hb dX9_init_79 rfl (lv_at hl 1 rfl) ?_
      refine lv_aload_n hx hb dX9_init_80 rfl (lv_at hl 0 rfl) ?_
      obtain ⟨zt1, qzt1, hf⟩ := gb_el hf
      refine gx_getR X hw qzt1 clX9 (by decide) mf_X9_18 dX9_init_81 ?_
      obtain ⟨zt2, qzt2, hf⟩ := gb_el hf
      refine gx_alen X hw qzt2 rfl dX9_init_84 ?_
      refine lv_icmp_ge (tgt := 107) hx hb dX9_init_85 (by decide) (fun qc3 => ?_) (fun qc3 => ?_)
      · have hf := gif_t hf qc3
        refine W.widen (k := 51) (n := 1501) (by omega) (by omega) ?_
        exact gx_vret X hr hlk hw hf dX9_init_107
      · have hf := gif_f hf qc3
        refine lv_aload_n hx hb dX9_init_88 rfl (lv_at hl 0 rfl) ?_
        obtain ⟨zt4, qzt4, hf⟩ := gb_el hf
        refine gx_getR X hw qzt4 clX9 (by decide) mf_X9_18 dX9_init_89 ?_
        refine lv_iload_n hx hb dX9_init_92 rfl (lv_at hl 1 rfl) ?_
        obtain ⟨zr6, zh5, qzh5, hf⟩ := gc_el hf
        refine gx_new X hw qzh5 clX1 n1X1 ml_X9_9 mN_X1 mI_X1 (by dsimp only [rm_X9_init]; omega) (by dsimp only [rm_X9_init]; omega) dX9_init_93 (fun H hw => ?_)
        refine W.eq (g2 := F0 m 96 ls [.ref (gB E + zr6), .int zv2, .ref (gB E + zt4)]) rfl ?_
        refine lv_dup hx hb dX9_init_96 rfl ?_
        obtain ⟨zh7, qzh7, hf⟩ := gb_el hf
        refine gx_kv (gx_runI (As := []) (rest := [.ref (gB E + zr6), .int zv2, .ref (gB E + zt4)]) X hw (c_X1_init l E N zr6 zh5 qzh7) kX1_init mm_X9_11 ⟨by dsimp only [rm_X9_init, rm_X1_init]; omega, by dsimp only [rm_X9_init, rm_X1_init]; omega⟩ rfl rfl rfl hl.1 (Nat.le_of_ble_eq_true rfl) rfl dX9_init_97 ⟨by dsimp only [rm_X9_init]; omega, by dsimp only [rm_X9_init]; omega⟩) hw (fun H locs hw => ?_)
        obtain ⟨zh8, qzh8, hf⟩ := gb_el hf
        refine gx_aast X hw qzh8 clX1 rfl dX9_init_100 (fun H locs hw => ?_)
        obtain ⟨zx9, ezx9⟩ : ∃ y : Int32, y = zv2 + 1 := ⟨_, rfl⟩
        have hf := gl_el hf ezx9
        refine lv_iinc (v := zx9) (lv' := [(2, .int zx9), (0, .ref (gB E + zv0))]) hx hb dX9_init_101 hl (k := 1) rfl (by rw [ezx9]; rfl) (by decide) rfl (fun ls hl => ?_)
        refine lv_goto (tgt := 79) hx hb dX9_init_104 (by decide) ?_
        refine W.widen (k := 21 + 5 * (6 - zn79)) (n := 1201 + 50 * (6 - zn79)) (by omega) (by omega) ?_
        exact ih_79 zv0 zx9 _ _ _ ls (by omega) hf hw (lv_sub hl [1, 0] rfl)
  unfold f_X9_init at hf
  refine lv_aload_n hx hb dX9_init_0 rfl (lv_at hl 0 rfl) ?_
  refine gx_oinit X mm_X9_3 mo_inst mo_code hl.1 dX9_init_1 (by dsimp only [rm_X9_init]; omega) (Nat.le_of_ble_eq_true rfl) ?_
  refine lv_aload_n hx hb dX9_init_4 rfl (lv_at hl 0 rfl) ?_
  obtain ⟨zr2, zh1, qzh1, hf⟩ := gc_el hf
  refine gx_new X hw qzh1 clX1 n1X1 ml_X9_9 mN_X1 mI_X1 (by dsimp only [rm_X9_init]; omega) (by dsimp only [rm_X9_init]; omega) dX9_init_5 (fun H hw => ?_)
  refine lv_dup hx hb dX9_init_8 rfl ?_
  obtain ⟨zh3, qzh3, hf⟩ := gb_el hf
  refine gx_kv (gx_runI (As := []) (rest := [.ref (gB E + zr2), .ref (gB E + za0)]) X hw (c_X1_init l E N zr2 zh1 qzh3) kX1_init mm_X9_11 ⟨by dsimp only [rm_X9_init, rm_X1_init]; omega, by dsimp only [rm_X9_init, rm_X1_init]; omega⟩ rfl rfl rfl hl.1 (Nat.le_of_ble_eq_true rfl) rfl dX9_init_9 ⟨by dsimp only [rm_X9_init]; omega, by dsimp only [rm_X9_init]; omega⟩) hw (fun H locs hw => ?_)
  obtain ⟨zh4, qzh4, hf⟩ := gb_el hf
  refine gx_putFV X hw qzh4 clX9 (by decide) mf_X9_12 rfl (hin2 rfl) rfl rfl rfl dX9_init_12 (fun H locs hw => ?_)
  refine lv_aload_n hx hb dX9_init_15 rfl (lv_at hl 0 rfl) ?_
  refine lv_iconst (v := 5) hx hb dX9_init_16 (by decide) ?_
  refine W.eq (g2 := F0 m 17 ls [.int 5, .ref (gB E + za0)]) rfl ?_
  obtain ⟨zr6, zh5, qzh5, hf⟩ := gc_el hf
  refine gx_anew X hw qzh5 rfl (by decide) X.2.2.2.1.1 ml_X9_9 (by decide) (by decide) (by decide) (by dsimp only [rm_X9_init]; omega) (by dsimp only [rm_X9_init]; omega) dX9_init_17 (fun H hw => ?_)
  obtain ⟨zh7, qzh7, hf⟩ := gb_el hf
  refine gx_putFV X hw qzh7 clX9 (by decide) mf_X9_18 rfl (hin2 rfl) rfl rfl rfl dX9_init_20 (fun H locs hw => ?_)
  refine lv_aload_n hx hb dX9_init_23 rfl (lv_at hl 0 rfl) ?_
  obtain ⟨zr9, zh8, qzh8, hf⟩ := gc_el hf
  refine gx_new X hw qzh8 clX0 n1X0 ml_X9_22 mN_X0 mI_X0 (by dsimp only [rm_X9_init]; omega) (by dsimp only [rm_X9_init]; omega) dX9_init_24 (fun H hw => ?_)
  refine lv_dup hx hb dX9_init_27 rfl ?_
  obtain ⟨zh10, qzh10, hf⟩ := gb_el hf
  refine gx_kv (gx_runIN (As := []) (rest := [.ref (gB E + zr9), .ref (gB E + za0)]) X hw (c_X0_init l E N zr9 zh8 qzh10) kX0_init mn_X9_24 ⟨by dsimp only [rm_X9_init, rm_X0_init]; omega, by dsimp only [rm_X9_init, rm_X0_init]; omega⟩ rfl rfl rfl hl.1 (Nat.le_of_ble_eq_true rfl) rfl dX9_init_28 ⟨by dsimp only [rm_X9_init]; omega, by dsimp only [rm_X9_init]; omega⟩) hw (fun H locs hw => ?_)
  obtain ⟨zh11, qzh11, hf⟩ := gb_el hf
  refine gx_putFV X hw qzh11 clX9 (by decide) mf_X9_25 rfl (hin2 rfl) rfl rfl rfl dX9_init_31 (fun H locs hw => ?_)
  refine lv_aload_n hx hb dX9_init_34 rfl (lv_at hl 0 rfl) ?_
  obtain ⟨zr13, zh12, qzh12, hf⟩ := gc_el hf
  refine gx_new X hw qzh12 clX8 n1X8 ml_X9_29 mN_X8 mI_X8 (by dsimp only [rm_X9_init]; omega) (by dsimp only [rm_X9_init]; omega) dX9_init_35 (fun H hw => ?_)
  refine lv_dup hx hb dX9_init_38 rfl ?_
  refine W.eq (g2 := F0 m 39 ls [.ref (gB E + zr13), .ref (gB E + zr13), .ref (gB E + za0)]) rfl ?_
  obtain ⟨zh14, qzh14, hf⟩ := gb_el hf
  refine gx_kv (gx_runIN (As := []) (rest := [.ref (gB E + zr13), .ref (gB E + za0)]) X hw (c_X8_init l E N zr13 zh12 qzh14) kX8_init mn_X9_31 ⟨by dsimp only [rm_X9_init, rm_X8_init]; omega, by dsimp only [rm_X9_init, rm_X8_init]; omega⟩ rfl rfl rfl hl.1 (Nat.le_of_ble_eq_true rfl) rfl dX9_init_39 ⟨by dsimp only [rm_X9_init]; omega, by dsimp only [rm_X9_init]; omega⟩) hw (fun H locs hw => ?_)
  obtain ⟨zh15, qzh15, hf⟩ := gb_el hf
  refine gx_putFV X hw qzh15 clX9 (by decide) mf_X9_32 rfl (hin2 rfl) rfl rfl rfl dX9_init_42 (fun H locs hw => ?_)
  refine lv_aload_n hx hb dX9_init_45 rfl (lv_at hl 0 rfl) ?_
  obtain ⟨zr17, zh16, qzh16, hf⟩ := gc_el hf
  refine gx_new X hw qzh16 clX6 n1X6 ml_X9_36 mN_X6 mI_X6 (by dsimp only [rm_X9_init]; omega) (by dsimp only [rm_X9_init]; omega) dX9_init_46 (fun H hw => ?_)
  refine lv_dup hx hb dX9_init_49 rfl ?_
  obtain ⟨zh18, qzh18, hf⟩ := gb_el hf
  refine gx_kv (gx_runIN (As := []) (rest := [.ref (gB E + zr17), .ref (gB E + za0)]) X hw (c_X6_init l E N zr17 zh16 qzh18) kX6_init mn_X9_38 ⟨by dsimp only [rm_X9_init, rm_X6_init]; omega, by dsimp only [rm_X9_init, rm_X6_init]; omega⟩ rfl rfl rfl hl.1 (Nat.le_of_ble_eq_true rfl) rfl dX9_init_50 ⟨by dsimp only [rm_X9_init]; omega, by dsimp only [rm_X9_init]; omega⟩) hw (fun H locs hw => ?_)
  obtain ⟨zh19, qzh19, hf⟩ := gb_el hf
  refine gx_putFV X hw qzh19 clX9 (by decide) mf_X9_39 rfl (hin2 rfl) rfl rfl rfl dX9_init_53 (fun H locs hw => ?_)
  refine lv_aload_n hx hb dX9_init_56 rfl (lv_at hl 0 rfl) ?_
  obtain ⟨zr21, zh20, qzh20, hf⟩ := gc_el hf
  refine gx_new X hw qzh20 clX4 n1X4 ml_X9_43 mN_X4 mI_X4 (by dsimp only [rm_X9_init]; omega) (by dsimp only [rm_X9_init]; omega) dX9_init_57 (fun H hw => ?_)
  refine lv_dup hx hb dX9_init_60 rfl ?_
  refine W.eq (g2 := F0 m 61 ls [.ref (gB E + zr21), .ref (gB E + zr21), .ref (gB E + za0)]) rfl ?_
  obtain ⟨zh22, qzh22, hf⟩ := gb_el hf
  refine gx_kv (gx_runIN (As := []) (rest := [.ref (gB E + zr21), .ref (gB E + za0)]) X hw (c_X4_init l E N zr21 zh20 qzh22) kX4_init mn_X9_45 ⟨by dsimp only [rm_X9_init, rm_X4_init]; omega, by dsimp only [rm_X9_init, rm_X4_init]; omega⟩ rfl rfl rfl hl.1 (Nat.le_of_ble_eq_true rfl) rfl dX9_init_61 ⟨by dsimp only [rm_X9_init]; omega, by dsimp only [rm_X9_init]; omega⟩) hw (fun H locs hw => ?_)
  obtain ⟨zh23, qzh23, hf⟩ := gb_el hf
  refine gx_putFV X hw qzh23 clX9 (by decide) mf_X9_46 rfl (hin2 rfl) rfl rfl rfl dX9_init_64 (fun H locs hw => ?_)
  refine lv_aload_n hx hb dX9_init_67 rfl (lv_at hl 0 rfl) ?_
  refine lv_iconst (v := (-1)) hx hb dX9_init_68 (by decide) ?_
  obtain ⟨zh24, qzh24, hf⟩ := gb_el hf
  refine gx_putV X hw qzh24 clX9 (by decide) mf_X9_50 rfl rfl rfl dX9_init_69 (fun H locs hw => ?_)
  refine lv_aload_n hx hb dX9_init_72 rfl (lv_at hl 0 rfl) ?_
  refine lv_aload_n hx hb dX9_init_73 rfl (lv_at hl 1 rfl) ?_
  obtain ⟨zh25, qzh25, hf⟩ := gb_el hf
  refine gx_putFV X hw qzh25 clX9 (by decide) mf_X9_54 rfl (hin2 rfl) rfl rfl rfl dX9_init_74 (fun H locs hw => ?_)
  refine lv_iconst (v := 0) hx hb dX9_init_77 (by decide) ?_
  refine lv_istore_n (lv' := [(2, .int 0), (0, .ref (gB E + za0)), (1, .ref (gB E + za1))]) hx hb dX9_init_78 rfl hl (by decide) rfl (fun ls hl => ?_)
  exact L_79 6 za0 0 _ _ _ ls (Nat.le_refl _) hf hw (lv_sub hl [1, 0] rfl)
abbrev rm_X9_reset : Room := { frames := 2, cells := 0, slots := 0, locals := 43 }
set_option maxHeartbeats 4000000 in
set_option maxRecDepth 100000 in
theorem c_X9_reset (l : Launch) (E : gE) (N : Nat) (za0 : Nat) (za1 : Int32) (zh : PH) {h9 : PH} (hf : f_X9_reset N za0 za1 zh = some h9) : Met l yX9_reset (gWS yX9_reset cX9_reset 3 none) rm_X9_reset (gPc E [.ref (gB E + za0), .int za1] zh) (gQv E h9) 0 0 (gA E) := by
  refine gx_met (by decide) ?_ rfl
  intro p e s m below meth c X hr hlk hin2 hw
  have hx := X.1.1
  have hb := X.1.2.1
  have hl := lv_entry [.ref (gB E + za0), .int za1] (n := 3) (Nat.le_of_ble_eq_true rfl)
  rw [lg_entry_eq]
  generalize (lg_sl [.ref (gB E + za0), .int za1] ++ List.replicate (3 - (lg_sl [.ref (gB E + za0), .int za1]).length) Slot.unset).toArray = ls at hl ⊢
  have hl : lv_has ls 3 [(0, .ref (gB E + za0)), (1, .int za1)] := hl
  have L_9 : ∀ (zn9 : Nat) (zv0 : Nat) (zv1 : Int32) (zv2 : Int32) (zh : PH) (H : Heap) (locs : List Loc) (ls : Array Slot), gi (fun zk zs => f_X9_reset_9 N zk zs.1 zs.2.1 zs.2.2.1 zs.2.2.2) zn9 (zv0, zv1, zv2, zh) = some h9 → gw E s zh H locs → lv_has ls 3 [(0, .ref (gB E + zv0)), (1, .int zv1), (2, .int zv2)] → W p l e rm_X9_reset s m [.ref (gB E + za0), .int za1].toArray below meth c H locs 0 0 (MQ below (gQv E h9) [.ref (gB E + za0), .int za1].toArray s 0 0 (gA E)) (F0 m 9 ls []) := by
    intro zn9
    induction zn9 with
    | zero =>
      intro zv0 zv1 zv2 zh H locs ls hf
      cases hf
    | succ zn9 ih_9 =>
      intro zv0 zv1 zv2 zh H locs ls hf hw hl
      have hf := gi_s hf
      dsimp only at hf
      unfold f_X9_reset_9 at hf
      refine lv_iload_n hx hb dX9_reset_9 rfl (lv_at hl 2 rfl) ?_
      refine lv_aload_n hx hb dX9_reset_10 rfl (lv_at hl 0 rfl) ?_
      obtain ⟨zt1, qzt1, hf⟩ := gb_el hf
      refine gx_getR X hw qzt1 clX9 (by decide) mf_X9_18 dX9_reset_11 ?_
      obtain ⟨zt2, qzt2, hf⟩ := gb_el hf
      refine gx_alen X hw qzt2 rfl dX9_reset_14 ?_
      refine lv_icmp_ge (tgt := 33) hx hb dX9_reset_15 (by decide) (fun qc3 => ?_) (fun qc3 => ?_)
      · have hf := gif_t hf qc3
        refine lv_aload_n hx hb dX9_reset_33 rfl (lv_at hl 0 rfl) ?_
        obtain ⟨zt4, qzt4, hf⟩ := gb_el hf
        refine gx_getR X hw qzt4 clX9 (by decide) mf_X9_25 dX9_reset_34 ?_
        obtain ⟨qizh5, hf⟩ := gg_el hf
        obtain ⟨zh5, qzh5, hf⟩ := gb_el hf
        refine gx_kv (gx_runV (As := []) (rest := []) X hw (c_X0_empty l E N zt4 zh qzh5) kX0_empty mm_X9_61 qizh5 clX0 ⟨Nat.le_of_ble_eq_true rfl, Nat.le_of_ble_eq_true rfl⟩ rfl rfl rfl hl.1 (Nat.le_of_ble_eq_true rfl) rfl dX9_reset_37 ⟨Nat.le_of_ble_eq_true rfl, Nat.le_of_ble_eq_true rfl⟩) hw (fun H locs hw => ?_)
        refine lv_aload_n hx hb dX9_reset_40 rfl (lv_at hl 0 rfl) ?_
        refine W.eq (g2 := F0 m 41 ls [.ref (gB E + zv0)]) rfl ?_
        obtain ⟨zt6, qzt6, hf⟩ := gb_el hf
        refine gx_getR X hw qzt6 clX9 (by decide) mf_X9_32 dX9_reset_41 ?_
        refine lv_iconst (v := 0) hx hb dX9_reset_44 (by decide) ?_
        obtain ⟨zh7, qzh7, hf⟩ := gb_el hf
        refine gx_putV X hw qzh7 clX8 (by decide) mf_X9_62 rfl rfl rfl dX9_reset_45 (fun H locs hw => ?_)
        refine lv_aload_n hx hb dX9_reset_48 rfl (lv_at hl 0 rfl) ?_
        obtain ⟨zt8, qzt8, hf⟩ := gb_el hf
        refine gx_getR X hw qzt8 clX9 (by decide) mf_X9_39 dX9_reset_49 ?_
        obtain ⟨zt9, qzt9, hf⟩ := gb_el hf
        refine gx_getR X hw qzt9 clX6 (by decide) mf_X9_65 dX9_reset_52 ?_
        refine lv_iconst (v := 0) hx hb dX9_reset_55 (by decide) ?_
        obtain ⟨zh10, qzh10, hf⟩ := gb_el hf
        refine gx_kv (gx_runS (As := [.ref (gB E + zt9), .int 0]) (rest := []) X hw (c_J7_fill_53178 l E N zt9 0 zh7 qzh10) kJ7_fill_53178 mm_X9_69 ⟨Nat.le_of_ble_eq_true rfl, Nat.le_of_ble_eq_true rfl⟩ rfl rfl rfl hl.1 (Nat.le_of_ble_eq_true rfl) rfl dX9_reset_56 ⟨Nat.le_of_ble_eq_true rfl, Nat.le_of_ble_eq_true rfl⟩) hw (fun H locs hw => ?_)
        refine lv_aload_n hx hb dX9_reset_59 rfl (lv_at hl 0 rfl) ?_
        obtain ⟨zt11, qzt11, hf⟩ := gb_el hf
        refine gx_getR X hw qzt11 clX9 (by decide) mf_X9_46 dX9_reset_60 ?_
        refine W.eq (g2 := F0 m 63 ls [.ref (gB E + zt11)]) rfl ?_
        refine lv_iconst (v := 0) hx hb dX9_reset_63 (by decide) ?_
        obtain ⟨zh12, qzh12, hf⟩ := gb_el hf
        refine gx_putV X hw qzh12 clX4 (by decide) mf_X9_75 rfl rfl rfl dX9_reset_64 (fun H locs hw => ?_)
        refine lv_aload_n hx hb dX9_reset_67 rfl (lv_at hl 0 rfl) ?_
        refine lv_iconst (v := 0) hx hb dX9_reset_68 (by decide) ?_
        obtain ⟨zh13, qzh13, hf⟩ := gb_el hf
        refine gx_putV X hw qzh13 clX9 (by decide) mf_X9_76 rfl rfl rfl dX9_reset_69 (fun H locs hw => ?_)
        refine lv_aload_n hx hb dX9_reset_72 rfl (lv_at hl 0 rfl) ?_
        refine lv_iload_n hx hb dX9_reset_73 rfl (lv_at hl 1 rfl) ?_
        obtain ⟨zh14, qzh14, hf⟩ := gb_el hf
        refine gx_putV X hw qzh14 clX9 (by decide) mf_X9_50 rfl rfl rfl dX9_reset_74 (fun H locs hw => ?_)
        refine lv_aload_n hx hb dX9_reset_77 rfl (lv_at hl 0 rfl) ?_
        refine lv_iconst (v := 0) hx hb dX9_reset_78 (by decide) ?_
        refine W.eq (g2 := F0 m 79 ls [.int 0, .ref (gB E + zv0)]) rfl ?_
        obtain ⟨zh15, qzh15, hf⟩ := gb_el hf
        refine gx_putV X hw qzh15 clX9 (by decide) mf_X9_79 rfl rfl rfl dX9_reset_79 (fun H locs hw => ?_)
        refine lv_aload_n hx hb dX9_reset_82 rfl (lv_at hl 0 rfl) ?_
        refine lv_iconst (v := 0) hx hb dX9_reset_83 (by decide) ?_
        obtain ⟨zh16, qzh16, hf⟩ := gb_el hf
        refine gx_putV X hw qzh16 clX9 (by decide) mf_X9_82 rfl rfl rfl dX9_reset_84 (fun H locs hw => ?_)
        exact gx_vret X hr hlk hw hf dX9_reset_87
      · have hf := gif_f hf qc3
        refine lv_aload_n hx hb dX9_reset_18 rfl (lv_at hl 0 rfl) ?_
        obtain ⟨zt17, qzt17, hf⟩ := gb_el hf
        refine gx_getR X hw qzt17 clX9 (by decide) mf_X9_18 dX9_reset_19 ?_
        refine lv_iload_n hx hb dX9_reset_22 rfl (lv_at hl 2 rfl) ?_
        obtain ⟨zt18, qzt18, hf⟩ := gb_el hf
        refine gx_aaldR X hw qzt18 rfl dX9_reset_23 ?_
        refine W.eq (g2 := F0 m 24 ls [.ref (gB E + zt18)]) rfl ?_
        obtain ⟨qizh19, hf⟩ := gg_el hf
        obtain ⟨zh19, qzh19, hf⟩ := gb_el hf
        refine gx_kv (gx_runV (As := []) (rest := []) X hw (c_X1_empty l E N zt18 zh qzh19) kX1_empty mm_X9_58 qizh19 clX1 ⟨Nat.le_of_ble_eq_true rfl, Nat.le_of_ble_eq_true rfl⟩ rfl rfl rfl hl.1 (Nat.le_of_ble_eq_true rfl) rfl dX9_reset_24 ⟨Nat.le_of_ble_eq_true rfl, Nat.le_of_ble_eq_true rfl⟩) hw (fun H locs hw => ?_)
        obtain ⟨zx20, ezx20⟩ : ∃ y : Int32, y = zv2 + 1 := ⟨_, rfl⟩
        have hf := gl_el hf ezx20
        refine lv_iinc (v := zx20) (lv' := [(2, .int zx20), (0, .ref (gB E + zv0)), (1, .int zv1)]) hx hb dX9_reset_27 hl (k := 2) rfl (by rw [ezx20]; rfl) (by decide) rfl (fun ls hl => ?_)
        refine lv_goto (tgt := 9) hx hb dX9_reset_30 (by decide) ?_
        exact ih_9 zv0 zv1 zx20 _ _ _ ls hf hw (lv_sub hl [1, 2, 0] rfl)
  unfold f_X9_reset at hf
  refine lv_aload_n hx hb dX9_reset_0 rfl (lv_at hl 0 rfl) ?_
  obtain ⟨zt1, qzt1, hf⟩ := gb_el hf
  refine gx_getR X hw qzt1 clX9 (by decide) mf_X9_12 dX9_reset_1 ?_
  obtain ⟨qizh2, hf⟩ := gg_el hf
  obtain ⟨zh2, qzh2, hf⟩ := gb_el hf
  refine gx_kv (gx_runV (As := []) (rest := []) X hw (c_X1_empty l E N zt1 zh qzh2) kX1_empty mm_X9_58 qizh2 clX1 ⟨Nat.le_of_ble_eq_true rfl, Nat.le_of_ble_eq_true rfl⟩ rfl rfl rfl hl.1 (Nat.le_of_ble_eq_true rfl) rfl dX9_reset_4 ⟨Nat.le_of_ble_eq_true rfl, Nat.le_of_ble_eq_true rfl⟩) hw (fun H locs hw => ?_)
  refine lv_iconst (v := 0) hx hb dX9_reset_7 (by decide) ?_
  refine lv_istore_n (lv' := [(2, .int 0), (0, .ref (gB E + za0)), (1, .int za1)]) hx hb dX9_reset_8 rfl hl (by decide) rfl (fun ls hl => ?_)
  exact L_9 N za0 za1 0 _ _ _ ls hf hw (lv_sub hl [1, 2, 0] rfl)
abbrev rm_X9_copyFrom : Room := { frames := 2, cells := 0, slots := 0, locals := 85 }
set_option maxHeartbeats 4000000 in
set_option maxRecDepth 100000 in
theorem c_X9_copyFrom (l : Launch) (E : gE) (N : Nat) (za0 : Nat) (za1 : Nat) (zh : PH) {h9 : PH} (hf : f_X9_copyFrom N za0 za1 zh = some h9) : Met l yX9_copyFrom (gWS yX9_copyFrom cX9_copyFrom 3 none) rm_X9_copyFrom (gPc E [.ref (gB E + za0), .ref (gB E + za1)] zh) (gQv E h9) 0 0 (gA E) := by
  refine gx_met (by decide) ?_ rfl
  intro p e s m below meth c X hr hlk hin2 hw
  have hx := X.1.1
  have hb := X.1.2.1
  have hl := lv_entry [.ref (gB E + za0), .ref (gB E + za1)] (n := 3) (Nat.le_of_ble_eq_true rfl)
  rw [lg_entry_eq]
  generalize (lg_sl [.ref (gB E + za0), .ref (gB E + za1)] ++ List.replicate (3 - (lg_sl [.ref (gB E + za0), .ref (gB E + za1)]).length) Slot.unset).toArray = ls at hl ⊢
  have hl : lv_has ls 3 [(0, .ref (gB E + za0)), (1, .ref (gB E + za1))] := hl
  have L_13 : ∀ (zn13 : Nat) (zv0 : Nat) (zv1 : Nat) (zv2 : Int32) (zh : PH) (H : Heap) (locs : List Loc) (ls : Array Slot), gi (fun zk zs => f_X9_copyFrom_13 N zk zs.1 zs.2.1 zs.2.2.1 zs.2.2.2) zn13 (zv0, zv1, zv2, zh) = some h9 → gw E s zh H locs → lv_has ls 3 [(0, .ref (gB E + zv0)), (1, .ref (gB E + zv1)), (2, .int zv2)] → W p l e rm_X9_copyFrom s m [.ref (gB E + za0), .ref (gB E + za1)].toArray below meth c H locs 0 0 (MQ below (gQv E h9) [.ref (gB E + za0), .ref (gB E + za1)].toArray s 0 0 (gA E)) (F0 m 13 ls []) := by
    intro zn13
    induction zn13 with
    | zero =>
      intro zv0 zv1 zv2 zh H locs ls hf
      cases hf
    | succ zn13 ih_13 =>
      intro zv0 zv1 zv2 zh H locs ls hf hw hl
      have hf := gi_s hf
      dsimp only at hf
      unfold f_X9_copyFrom_13 at hf
      refine lv_iload_n hx hb dX9_copyFrom_13 rfl (lv_at hl 2 rfl) ?_
      refine lv_aload_n hx hb dX9_copyFrom_14 rfl (lv_at hl 0 rfl) ?_
      obtain ⟨zt1, qzt1, hf⟩ := gb_el hf
      refine gx_getR X hw qzt1 clX9 (by decide) mf_X9_18 dX9_copyFrom_15 ?_
      obtain ⟨zt2, qzt2, hf⟩ := gb_el hf
      refine gx_alen X hw qzt2 rfl dX9_copyFrom_18 ?_
      refine lv_icmp_ge (tgt := 43) hx hb dX9_copyFrom_19 (by decide) (fun qc3 => ?_) (fun qc3 => ?_)
      · have hf := gif_t hf qc3
        refine lv_aload_n hx hb dX9_copyFrom_43 rfl (lv_at hl 0 rfl) ?_
        obtain ⟨zt4, qzt4, hf⟩ := gb_el hf
        refine gx_getR X hw qzt4 clX9 (by decide) mf_X9_25 dX9_copyFrom_44 ?_
        refine lv_aload_n hx hb dX9_copyFrom_47 rfl (lv_at hl 1 rfl) ?_
        obtain ⟨zt5, qzt5, hf⟩ := gb_el hf
        refine gx_getR X hw qzt5 clX9 (by decide) mf_X9_25 dX9_copyFrom_48 ?_
        refine W.eq (g2 := F0 m 51 ls [.ref (gB E + zt5), .ref (gB E + zt4)]) rfl ?_
        obtain ⟨qizh6, hf⟩ := gg_el hf
        obtain ⟨zh6, qzh6, hf⟩ := gb_el hf
        refine gx_kv (gx_runV (As := [.ref (gB E + zt5)]) (rest := []) X hw (c_X0_copyFrom l E N zt4 zt5 zh qzh6) kX0_copyFrom mm_X9_89 qizh6 clX0 ⟨Nat.le_of_ble_eq_true rfl, Nat.le_of_ble_eq_true rfl⟩ rfl rfl rfl hl.1 (Nat.le_of_ble_eq_true rfl) rfl dX9_copyFrom_51 ⟨Nat.le_of_ble_eq_true rfl, Nat.le_of_ble_eq_true rfl⟩) hw (fun H locs hw => ?_)
        refine lv_aload_n hx hb dX9_copyFrom_54 rfl (lv_at hl 0 rfl) ?_
        obtain ⟨zt7, qzt7, hf⟩ := gb_el hf
        refine gx_getR X hw qzt7 clX9 (by decide) mf_X9_32 dX9_copyFrom_55 ?_
        refine lv_aload_n hx hb dX9_copyFrom_58 rfl (lv_at hl 1 rfl) ?_
        obtain ⟨zt8, qzt8, hf⟩ := gb_el hf
        refine gx_getR X hw qzt8 clX9 (by decide) mf_X9_32 dX9_copyFrom_59 ?_
        obtain ⟨qizh9, hf⟩ := gg_el hf
        obtain ⟨zh9, qzh9, hf⟩ := gb_el hf
        refine gx_kv (gx_runV (As := [.ref (gB E + zt8)]) (rest := []) X hw (c_X8_copyFrom l E N zt7 zt8 zh6 qzh9) kX8_copyFrom mm_X9_92 qizh9 clX8 ⟨Nat.le_of_ble_eq_true rfl, Nat.le_of_ble_eq_true rfl⟩ rfl rfl rfl hl.1 (Nat.le_of_ble_eq_true rfl) rfl dX9_copyFrom_62 ⟨Nat.le_of_ble_eq_true rfl, Nat.le_of_ble_eq_true rfl⟩) hw (fun H locs hw => ?_)
        refine lv_aload_n hx hb dX9_copyFrom_65 rfl (lv_at hl 1 rfl) ?_
        obtain ⟨zt10, qzt10, hf⟩ := gb_el hf
        refine gx_getR X hw qzt10 clX9 (by decide) mf_X9_39 dX9_copyFrom_66 ?_
        obtain ⟨zt11, qzt11, hf⟩ := gb_el hf
        refine gx_getR X hw qzt11 clX6 (by decide) mf_X9_65 dX9_copyFrom_69 ?_
        refine lv_iconst (v := 0) hx hb dX9_copyFrom_72 (by decide) ?_
        refine W.eq (g2 := F0 m 73 ls [.int 0, .ref (gB E + zt11)]) rfl ?_
        refine lv_aload_n hx hb dX9_copyFrom_73 rfl (lv_at hl 0 rfl) ?_
        obtain ⟨zt12, qzt12, hf⟩ := gb_el hf
        refine gx_getR X hw qzt12 clX9 (by decide) mf_X9_39 dX9_copyFrom_74 ?_
        obtain ⟨zt13, qzt13, hf⟩ := gb_el hf
        refine gx_getR X hw qzt13 clX6 (by decide) mf_X9_65 dX9_copyFrom_77 ?_
        refine lv_iconst (v := 0) hx hb dX9_copyFrom_80 (by decide) ?_
        refine lv_bipush (v := 10) hx hb dX9_copyFrom_81 (by decide) ?_
        obtain ⟨zh14, qzh14, hf⟩ := gb_el hf
        refine gx_cpI X hw qzh14 mm_X9_95 ac_n ac_s mI_java_lang_System hl.1 (Nat.le_of_ble_eq_true rfl) (Nat.le_of_ble_eq_true rfl) dX9_copyFrom_83 (fun H locs hw => ?_)
        refine lv_aload_n hx hb dX9_copyFrom_86 rfl (lv_at hl 0 rfl) ?_
        obtain ⟨zt15, qzt15, hf⟩ := gb_el hf
        refine gx_getR X hw qzt15 clX9 (by decide) mf_X9_46 dX9_copyFrom_87 ?_
        refine lv_aload_n hx hb dX9_copyFrom_90 rfl (lv_at hl 1 rfl) ?_
        obtain ⟨zt16, qzt16, hf⟩ := gb_el hf
        refine gx_getR X hw qzt16 clX9 (by decide) mf_X9_46 dX9_copyFrom_91 ?_
        refine W.eq (g2 := F0 m 94 ls [.ref (gB E + zt16), .ref (gB E + zt15)]) rfl ?_
        obtain ⟨qizh17, hf⟩ := gg_el hf
        obtain ⟨zh17, qzh17, hf⟩ := gb_el hf
        refine gx_kv (gx_runV (As := [.ref (gB E + zt16)]) (rest := []) X hw (c_X4_copyFrom l E N zt15 zt16 zh14 qzh17) kX4_copyFrom mm_X9_101 qizh17 clX4 ⟨Nat.le_of_ble_eq_true rfl, Nat.le_of_ble_eq_true rfl⟩ rfl rfl rfl hl.1 (Nat.le_of_ble_eq_true rfl) rfl dX9_copyFrom_94 ⟨Nat.le_of_ble_eq_true rfl, Nat.le_of_ble_eq_true rfl⟩) hw (fun H locs hw => ?_)
        refine lv_aload_n hx hb dX9_copyFrom_97 rfl (lv_at hl 0 rfl) ?_
        refine lv_aload_n hx hb dX9_copyFrom_98 rfl (lv_at hl 1 rfl) ?_
        obtain ⟨zt18, qzt18, hf⟩ := gb_el hf
        refine gx_getI X hw qzt18 clX9 (by decide) mf_X9_76 dX9_copyFrom_99 ?_
        obtain ⟨zh19, qzh19, hf⟩ := gb_el hf
        refine gx_putV X hw qzh19 clX9 (by decide) mf_X9_76 rfl rfl rfl dX9_copyFrom_102 (fun H locs hw => ?_)
        refine lv_aload_n hx hb dX9_copyFrom_105 rfl (lv_at hl 0 rfl) ?_
        refine lv_aload_n hx hb dX9_copyFrom_106 rfl (lv_at hl 1 rfl) ?_
        obtain ⟨zt20, qzt20, hf⟩ := gb_el hf
        refine gx_getI X hw qzt20 clX9 (by decide) mf_X9_50 dX9_copyFrom_107 ?_
        obtain ⟨zh21, qzh21, hf⟩ := gb_el hf
        refine gx_putV X hw qzh21 clX9 (by decide) mf_X9_50 rfl rfl rfl dX9_copyFrom_110 (fun H locs hw => ?_)
        refine lv_aload_n hx hb dX9_copyFrom_113 rfl (lv_at hl 0 rfl) ?_
        refine W.eq (g2 := F0 m 114 ls [.ref (gB E + zv0)]) rfl ?_
        refine lv_aload_n hx hb dX9_copyFrom_114 rfl (lv_at hl 1 rfl) ?_
        obtain ⟨zt22, qzt22, hf⟩ := gb_el hf
        refine gx_getI X hw qzt22 clX9 (by decide) mf_X9_79 dX9_copyFrom_115 ?_
        obtain ⟨zh23, qzh23, hf⟩ := gb_el hf
        refine gx_putV X hw qzh23 clX9 (by decide) mf_X9_79 rfl rfl rfl dX9_copyFrom_118 (fun H locs hw => ?_)
        refine lv_aload_n hx hb dX9_copyFrom_121 rfl (lv_at hl 0 rfl) ?_
        refine lv_aload_n hx hb dX9_copyFrom_122 rfl (lv_at hl 1 rfl) ?_
        obtain ⟨zt24, qzt24, hf⟩ := gb_el hf
        refine gx_getI X hw qzt24 clX9 (by decide) mf_X9_82 dX9_copyFrom_123 ?_
        obtain ⟨zh25, qzh25, hf⟩ := gb_el hf
        refine gx_putV X hw qzh25 clX9 (by decide) mf_X9_82 rfl rfl rfl dX9_copyFrom_126 (fun H locs hw => ?_)
        exact gx_vret X hr hlk hw hf dX9_copyFrom_129
      · have hf := gif_f hf qc3
        refine lv_aload_n hx hb dX9_copyFrom_22 rfl (lv_at hl 0 rfl) ?_
        obtain ⟨zt26, qzt26, hf⟩ := gb_el hf
        refine gx_getR X hw qzt26 clX9 (by decide) mf_X9_18 dX9_copyFrom_23 ?_
        refine lv_iload_n hx hb dX9_copyFrom_26 rfl (lv_at hl 2 rfl) ?_
        obtain ⟨zt27, qzt27, hf⟩ := gb_el hf
        refine gx_aaldR X hw qzt27 rfl dX9_copyFrom_27 ?_
        refine W.eq (g2 := F0 m 28 ls [.ref (gB E + zt27)]) rfl ?_
        refine lv_aload_n hx hb dX9_copyFrom_28 rfl (lv_at hl 1 rfl) ?_
        obtain ⟨zt28, qzt28, hf⟩ := gb_el hf
        refine gx_getR X hw qzt28 clX9 (by decide) mf_X9_18 dX9_copyFrom_29 ?_
        refine lv_iload_n hx hb dX9_copyFrom_32 rfl (lv_at hl 2 rfl) ?_
        obtain ⟨zt29, qzt29, hf⟩ := gb_el hf
        refine gx_aaldR X hw qzt29 rfl dX9_copyFrom_33 ?_
        obtain ⟨qizh30, hf⟩ := gg_el hf
        obtain ⟨zh30, qzh30, hf⟩ := gb_el hf
        refine gx_kv (gx_runV (As := [.ref (gB E + zt29)]) (rest := []) X hw (c_X1_copyFrom l E N zt27 zt29 zh qzh30) kX1_copyFrom mm_X9_85 qizh30 clX1 ⟨Nat.le_of_ble_eq_true rfl, Nat.le_of_ble_eq_true rfl⟩ rfl rfl rfl hl.1 (Nat.le_of_ble_eq_true rfl) rfl dX9_copyFrom_34 ⟨Nat.le_of_ble_eq_true rfl, Nat.le_of_ble_eq_true rfl⟩) hw (fun H locs hw => ?_)
        obtain ⟨zx31, ezx31⟩ : ∃ y : Int32, y = zv2 + 1 := ⟨_, rfl⟩
        have hf := gl_el hf ezx31
        refine lv_iinc (v := zx31) (lv' := [(2, .int zx31), (0, .ref (gB E + zv0)), (1, .ref (gB E + zv1))]) hx hb dX9_copyFrom_37 hl (k := 2) rfl (by rw [ezx31]; rfl) (by decide) rfl (fun ls hl => ?_)
        refine lv_goto (tgt := 13) hx hb dX9_copyFrom_40 (by decide) ?_
        exact ih_13 zv0 zv1 zx31 _ _ _ ls hf hw (lv_sub hl [1, 2, 0] rfl)
  unfold f_X9_copyFrom at hf
  refine lv_aload_n hx hb dX9_copyFrom_0 rfl (lv_at hl 0 rfl) ?_
  obtain ⟨zt1, qzt1, hf⟩ := gb_el hf
  refine gx_getR X hw qzt1 clX9 (by decide) mf_X9_12 dX9_copyFrom_1 ?_
  refine lv_aload_n hx hb dX9_copyFrom_4 rfl (lv_at hl 1 rfl) ?_
  obtain ⟨zt2, qzt2, hf⟩ := gb_el hf
  refine gx_getR X hw qzt2 clX9 (by decide) mf_X9_12 dX9_copyFrom_5 ?_
  obtain ⟨qizh3, hf⟩ := gg_el hf
  obtain ⟨zh3, qzh3, hf⟩ := gb_el hf
  refine gx_kv (gx_runV (As := [.ref (gB E + zt2)]) (rest := []) X hw (c_X1_copyFrom l E N zt1 zt2 zh qzh3) kX1_copyFrom mm_X9_85 qizh3 clX1 ⟨Nat.le_of_ble_eq_true rfl, Nat.le_of_ble_eq_true rfl⟩ rfl rfl rfl hl.1 (Nat.le_of_ble_eq_true rfl) rfl dX9_copyFrom_8 ⟨Nat.le_of_ble_eq_true rfl, Nat.le_of_ble_eq_true rfl⟩) hw (fun H locs hw => ?_)
  refine lv_iconst (v := 0) hx hb dX9_copyFrom_11 (by decide) ?_
  refine lv_istore_n (lv' := [(2, .int 0), (0, .ref (gB E + za0)), (1, .ref (gB E + za1))]) hx hb dX9_copyFrom_12 rfl hl (by decide) rfl (fun ls hl => ?_)
  exact L_13 N za0 za1 0 _ _ _ ls hf hw (lv_sub hl [1, 2, 0] rfl)
abbrev rm_X9_trialOf : Room := { frames := 0, cells := 0, slots := 0, locals := 0 }
set_option maxHeartbeats 4000000 in
set_option maxRecDepth 100000 in
theorem c_X9_trialOf (l : Launch) (E : gE) (N : Nat) (za0 : Nat) (za1 : Int32) (zh : PH) {h9 : PH} {r9 : Nat} (hf : f_X9_trialOf N za0 za1 zh = some (r9, h9)) : Met l yX9_trialOf (gWS yX9_trialOf cX9_trialOf 2 (some (.object "MoveInn$House"))) rm_X9_trialOf (gPc E [.ref (gB E + za0), .int za1] zh) (gQr E r9 h9) 0 0 (gA E) := by
  refine gx_met (by decide) ?_ rfl
  intro p e s m below meth c X hr hlk hin2 hw
  have hx := X.1.1
  have hb := X.1.2.1
  have hl := lv_entry [.ref (gB E + za0), .int za1] (n := 2) (Nat.le_of_ble_eq_true rfl)
  rw [lg_entry_eq]
  generalize (lg_sl [.ref (gB E + za0), .int za1] ++ List.replicate (2 - (lg_sl [.ref (gB E + za0), .int za1]).length) Slot.unset).toArray = ls at hl ⊢
  have hl : lv_has ls 2 [(0, .ref (gB E + za0)), (1, .int za1)] := hl
  unfold f_X9_trialOf at hf
  refine lv_aload_n hx hb dX9_trialOf_0 rfl (lv_at hl 0 rfl) ?_
  obtain ⟨zt1, qzt1, hf⟩ := gb_el hf
  refine gx_getR X hw qzt1 clX9 (by decide) mf_X9_18 dX9_trialOf_1 ?_
  refine lv_iload_n hx hb dX9_trialOf_4 rfl (lv_at hl 1 rfl) ?_
  refine lv_iconst (v := 1) hx hb dX9_trialOf_5 (by decide) ?_
  refine lv_iadd hx hb dX9_trialOf_6 ?_
  obtain ⟨zt2, qzt2, hf⟩ := gb_el hf
  refine gx_aaldR X hw qzt2 rfl dX9_trialOf_7 ?_
  exact gx_aret X hr hlk hw hf dX9_trialOf_8
abbrev rm_X9_note : Room := { frames := 2, cells := 0, slots := 0, locals := 42 }
set_option maxHeartbeats 4000000 in
set_option maxRecDepth 100000 in
theorem c_X9_note (l : Launch) (E : gE) (N : Nat) (za0 : Nat) (za1 : Int32) (zh : PH) {h9 : PH} (hf : f_X9_note N za0 za1 zh = some h9) : Met l yX9_note (gWS yX9_note cX9_note 2 none) rm_X9_note (gPc E [.ref (gB E + za0), .int za1] zh) (gQv E h9) 0 0 (gA E) := by
  refine gx_met (by decide) ?_ rfl
  intro p e s m below meth c X hr hlk hin2 hw
  have hx := X.1.1
  have hb := X.1.2.1
  have hl := lv_entry [.ref (gB E + za0), .int za1] (n := 2) (Nat.le_of_ble_eq_true rfl)
  rw [lg_entry_eq]
  generalize (lg_sl [.ref (gB E + za0), .int za1] ++ List.replicate (2 - (lg_sl [.ref (gB E + za0), .int za1]).length) Slot.unset).toArray = ls at hl ⊢
  have hl : lv_has ls 2 [(0, .ref (gB E + za0)), (1, .int za1)] := hl
  unfold f_X9_note at hf
  refine lv_aload_n hx hb dX9_note_0 rfl (lv_at hl 0 rfl) ?_
  obtain ⟨zt1, qzt1, hf⟩ := gb_el hf
  refine gx_getR X hw qzt1 clX9 (by decide) mf_X9_25 dX9_note_1 ?_
  refine lv_iload_n hx hb dX9_note_4 rfl (lv_at hl 1 rfl) ?_
  obtain ⟨qizh2, hf⟩ := gg_el hf
  obtain ⟨zh2, qzh2, hf⟩ := gb_el hf
  refine gx_kv (gx_runV (As := [.int za1]) (rest := []) X hw (c_X0_beginChain l E N zt1 za1 zh qzh2) kX0_beginChain mm_X9_125 qizh2 clX0 ⟨Nat.le_of_ble_eq_true rfl, Nat.le_of_ble_eq_true rfl⟩ rfl rfl rfl hl.1 (Nat.le_of_ble_eq_true rfl) rfl dX9_note_5 ⟨Nat.le_of_ble_eq_true rfl, Nat.le_of_ble_eq_true rfl⟩) hw (fun H locs hw => ?_)
  refine lv_aload_n hx hb dX9_note_8 rfl (lv_at hl 0 rfl) ?_
  refine lv_iload_n hx hb dX9_note_9 rfl (lv_at hl 1 rfl) ?_
  obtain ⟨zh3, qzh3, hf⟩ := gb_el hf
  refine gx_putV X hw qzh3 clX9 (by decide) mf_X9_79 rfl rfl rfl dX9_note_10 (fun H locs hw => ?_)
  refine lv_aload_n hx hb dX9_note_13 rfl (lv_at hl 0 rfl) ?_
  refine lv_dup hx hb dX9_note_14 rfl ?_
  refine W.eq (g2 := F0 m 15 ls [.ref (gB E + za0), .ref (gB E + za0)]) rfl ?_
  obtain ⟨zt4, qzt4, hf⟩ := gb_el hf
  refine gx_getI X hw qzt4 clX9 (by decide) mf_X9_82 dX9_note_15 ?_
  refine lv_iconst (v := 1) hx hb dX9_note_18 (by decide) ?_
  refine lv_iadd hx hb dX9_note_19 ?_
  obtain ⟨zh5, qzh5, hf⟩ := gb_el hf
  refine gx_putV X hw qzh5 clX9 (by decide) mf_X9_82 rfl rfl rfl dX9_note_20 (fun H locs hw => ?_)
  exact gx_vret X hr hlk hw hf dX9_note_23
abbrev rm_X9_takeIn : Room := { frames := 5, cells := 0, slots := 0, locals := 118 }
set_option maxHeartbeats 4000000 in
set_option maxRecDepth 100000 in
theorem c_X9_takeIn (l : Launch) (E : gE) (N : Nat) (za0 : Nat) (za1 : Nat) (za2 : Int32) (za3 : Int32) (zh : PH) {h9 : PH} (hf : f_X9_takeIn N za0 za1 za2 za3 zh = some h9) : Met l yX9_takeIn (gWS yX9_takeIn cX9_takeIn 5 none) rm_X9_takeIn (gPc E [.ref (gB E + za0), .ref (gB E + za1), .int za2, .int za3] zh) (gQv E h9) 0 0 (gA E) := by
  refine gx_met (by decide) ?_ rfl
  intro p e s m below meth c X hr hlk hin2 hw
  have hx := X.1.1
  have hb := X.1.2.1
  have hl := lv_entry [.ref (gB E + za0), .ref (gB E + za1), .int za2, .int za3] (n := 5) (Nat.le_of_ble_eq_true rfl)
  rw [lg_entry_eq]
  generalize (lg_sl [.ref (gB E + za0), .ref (gB E + za1), .int za2, .int za3] ++ List.replicate (5 - (lg_sl [.ref (gB E + za0), .ref (gB E + za1), .int za2, .int za3]).length) Slot.unset).toArray = ls at hl ⊢
  have hl : lv_has ls 5 [(0, .ref (gB E + za0)), (1, .ref (gB E + za1)), (2, .int za2), (3, .int za3)] := hl
  have L_21 : ∀ (zn21 : Nat) (zv0 : Nat) (zv1 : Nat) (zv2 : Int32) (zv4 : Int32) (zh : PH) (H : Heap) (locs : List Loc) (ls : Array Slot), gi (fun zk zs => f_X9_takeIn_21 N zk zs.1 zs.2.1 zs.2.2.1 zs.2.2.2.1 zs.2.2.2.2) zn21 (zv0, zv1, zv2, zv4, zh) = some h9 → gw E s zh H locs → lv_has ls 5 [(0, .ref (gB E + zv0)), (1, .ref (gB E + zv1)), (2, .int zv2), (4, .int zv4)] → W p l e rm_X9_takeIn s m [.ref (gB E + za0), .ref (gB E + za1), .int za2, .int za3].toArray below meth c H locs 0 0 (MQ below (gQv E h9) [.ref (gB E + za0), .ref (gB E + za1), .int za2, .int za3].toArray s 0 0 (gA E)) (F0 m 21 ls []) := by
    intro zn21
    induction zn21 with
    | zero =>
      intro zv0 zv1 zv2 zv4 zh H locs ls hf
      cases hf
    | succ zn21 ih_21 =>
      intro zv0 zv1 zv2 zv4 zh H locs ls hf hw hl
      have hf := gi_s hf
      dsimp only at hf
      unfold f_X9_takeIn_21 at hf
      refine lv_iload hx hb dX9_takeIn_21 (lv_at hl 3 rfl) ?_
      refine lv_aload_n hx hb dX9_takeIn_23 rfl (lv_at hl 1 rfl) ?_
      obtain ⟨zt1, qzt1, hf⟩ := gb_el hf
      refine gx_getI X hw qzt1 clX2 (by decide) mf_X9_112 dX9_takeIn_24 ?_
      refine lv_icmp_ge (tgt := 48) hx hb dX9_takeIn_27 (by decide) (fun qc2 => ?_) (fun qc2 => ?_)
      · have hf := gif_t hf qc2
        refine lv_aload_n hx hb dX9_takeIn_48 rfl (lv_at hl 0 rfl) ?_
        refine lv_dup hx hb dX9_takeIn_49 rfl ?_
        obtain ⟨zt3, qzt3, hf⟩ := gb_el hf
        refine gx_getI X hw qzt3 clX9 (by decide) mf_X9_76 dX9_takeIn_50 ?_
        refine lv_iconst (v := 1) hx hb dX9_takeIn_53 (by decide) ?_
        refine lv_iload_n hx hb dX9_takeIn_54 rfl (lv_at hl 2 rfl) ?_
        refine W.eq (g2 := F0 m 55 ls [.int zv2, .int 1, .int zt3, .ref (gB E + zv0)]) rfl ?_
        refine lv_ishl hx hb dX9_takeIn_55 ?_
        refine lv_iconst (v := (-1)) hx hb dX9_takeIn_56 (by decide) ?_
        refine lv_ixor hx hb dX9_takeIn_57 ?_
        refine lv_iand hx hb dX9_takeIn_58 ?_
        obtain ⟨zh4, qzh4, hf⟩ := gb_el hf
        refine gx_putV X hw qzh4 clX9 (by decide) mf_X9_76 rfl rfl rfl dX9_takeIn_59 (fun H locs hw => ?_)
        exact gx_vret X hr hlk hw hf dX9_takeIn_62
      · have hf := gif_f hf qc2
        refine lv_aload_n hx hb dX9_takeIn_30 rfl (lv_at hl 0 rfl) ?_
        refine lv_iload hx hb dX9_takeIn_31 (lv_at hl 3 rfl) ?_
        obtain ⟨qizh5, hf⟩ := gg_el hf
        obtain ⟨zt6, zh5, qzh5, hf⟩ := gc_el hf
        refine gx_kr (gx_runV (As := [.int zv4]) (rest := []) X hw (c_X9_trialOf l E N zv0 zv4 zh qzh5) kX9_trialOf mm_X9_117 qizh5 clX9 ⟨Nat.le_of_ble_eq_true rfl, Nat.le_of_ble_eq_true rfl⟩ rfl rfl rfl hl.1 (Nat.le_of_ble_eq_true rfl) rfl dX9_takeIn_33 ⟨Nat.le_of_ble_eq_true rfl, Nat.le_of_ble_eq_true rfl⟩) hw (fun H locs hw => ?_)
        refine lv_aload_n hx hb dX9_takeIn_36 rfl (lv_at hl 1 rfl) ?_
        refine lv_iload_n hx hb dX9_takeIn_37 rfl (lv_at hl 2 rfl) ?_
        refine W.eq (g2 := F0 m 38 ls [.int zv2, .ref (gB E + zv1), .ref (gB E + zt6)]) rfl ?_
        refine lv_null hx hb dX9_takeIn_38 ?_
        obtain ⟨qizh7, hf⟩ := gg_el hf
        obtain ⟨zh7, qzh7, hf⟩ := gb_el hf
        refine gx_kv (gx_runV (As := [.ref (gB E + zv1), .int zv2, gq E none]) (rest := []) X hw (c_X1_takeIn l E N zt6 zv1 zv2 none zh5 qzh7) kX1_takeIn mm_X9_108 qizh7 clX1 ⟨Nat.le_of_ble_eq_true rfl, Nat.le_of_ble_eq_true rfl⟩ rfl rfl rfl hl.1 (Nat.le_of_ble_eq_true rfl) rfl dX9_takeIn_39 ⟨Nat.le_of_ble_eq_true rfl, Nat.le_of_ble_eq_true rfl⟩) hw (fun H locs hw => ?_)
        obtain ⟨zx8, ezx8⟩ : ∃ y : Int32, y = zv4 + 1 := ⟨_, rfl⟩
        have hf := gl_el hf ezx8
        refine lv_iinc (v := zx8) (lv' := [(4, .int zx8), (0, .ref (gB E + zv0)), (1, .ref (gB E + zv1)), (2, .int zv2)]) hx hb dX9_takeIn_42 hl (k := 3) rfl (by rw [ezx8]; rfl) (by decide) rfl (fun ls hl => ?_)
        refine lv_goto (tgt := 21) hx hb dX9_takeIn_45 (by decide) ?_
        exact ih_21 zv0 zv1 zv2 zx8 _ _ _ ls hf hw (lv_sub hl [1, 2, 3, 0] rfl)
  unfold f_X9_takeIn at hf
  refine lv_aload_n hx hb dX9_takeIn_0 rfl (lv_at hl 0 rfl) ?_
  refine lv_iload_n hx hb dX9_takeIn_1 rfl (lv_at hl 3 rfl) ?_
  obtain ⟨qizh1, hf⟩ := gg_el hf
  obtain ⟨zh1, qzh1, hf⟩ := gb_el hf
  refine gx_kv (gx_runV (As := [.int za3]) (rest := []) X hw (c_X9_note l E N za0 za3 zh qzh1) kX9_note mm_X9_104 qizh1 clX9 ⟨Nat.le_of_ble_eq_true rfl, Nat.le_of_ble_eq_true rfl⟩ rfl rfl rfl hl.1 (Nat.le_of_ble_eq_true rfl) rfl dX9_takeIn_2 ⟨Nat.le_of_ble_eq_true rfl, Nat.le_of_ble_eq_true rfl⟩) hw (fun H locs hw => ?_)
  refine lv_aload_n hx hb dX9_takeIn_5 rfl (lv_at hl 0 rfl) ?_
  obtain ⟨zt2, qzt2, hf⟩ := gb_el hf
  refine gx_getR X hw qzt2 clX9 (by decide) mf_X9_12 dX9_takeIn_6 ?_
  refine lv_aload_n hx hb dX9_takeIn_9 rfl (lv_at hl 1 rfl) ?_
  refine lv_iload_n hx hb dX9_takeIn_10 rfl (lv_at hl 2 rfl) ?_
  refine lv_aload_n hx hb dX9_takeIn_11 rfl (lv_at hl 0 rfl) ?_
  obtain ⟨zt3, qzt3, hf⟩ := gb_el hf
  refine gx_getR X hw qzt3 clX9 (by decide) mf_X9_25 dX9_takeIn_12 ?_
  refine W.eq (g2 := F0 m 15 ls [.ref (gB E + zt3), .int za2, .ref (gB E + za1), .ref (gB E + zt2)]) rfl ?_
  obtain ⟨qizh4, hf⟩ := gg_el hf
  obtain ⟨zh4, qzh4, hf⟩ := gb_el hf
  refine gx_kv (gx_runV (As := [.ref (gB E + za1), .int za2, gq E (some zt3)]) (rest := []) X hw (c_X1_takeIn l E N zt2 za1 za2 (some zt3) zh1 qzh4) kX1_takeIn mm_X9_108 qizh4 clX1 ⟨Nat.le_of_ble_eq_true rfl, Nat.le_of_ble_eq_true rfl⟩ rfl rfl rfl hl.1 (Nat.le_of_ble_eq_true rfl) rfl dX9_takeIn_15 ⟨Nat.le_of_ble_eq_true rfl, Nat.le_of_ble_eq_true rfl⟩) hw (fun H locs hw => ?_)
  refine lv_iconst (v := (-1)) hx hb dX9_takeIn_18 (by decide) ?_
  refine lv_istore (lv' := [(4, .int (-1)), (0, .ref (gB E + za0)), (1, .ref (gB E + za1)), (2, .int za2), (3, .int za3)]) hx hb dX9_takeIn_19 hl (by decide) rfl (fun ls hl => ?_)
  exact L_21 N za0 za1 za2 (-1) _ _ _ ls hf hw (lv_sub hl [1, 2, 3, 0] rfl)
abbrev rm_X9_letOut : Room := { frames := 6, cells := 0, slots := 0, locals := 150 }
set_option maxHeartbeats 4000000 in
set_option maxRecDepth 100000 in
theorem c_X9_letOut (l : Launch) (E : gE) (N : Nat) (za0 : Nat) (za1 : Nat) (za2 : Int32) (za3 : Int32) (zh : PH) {h9 : PH} (hf : f_X9_letOut N za0 za1 za2 za3 zh = some h9) : Met l yX9_letOut (gWS yX9_letOut cX9_letOut 5 none) rm_X9_letOut (gPc E [.ref (gB E + za0), .ref (gB E + za1), .int za2, .int za3] zh) (gQv E h9) 0 0 (gA E) := by
  refine gx_met (by decide) ?_ rfl
  intro p e s m below meth c X hr hlk hin2 hw
  have hx := X.1.1
  have hb := X.1.2.1
  have hl := lv_entry [.ref (gB E + za0), .ref (gB E + za1), .int za2, .int za3] (n := 5) (Nat.le_of_ble_eq_true rfl)
  rw [lg_entry_eq]
  generalize (lg_sl [.ref (gB E + za0), .ref (gB E + za1), .int za2, .int za3] ++ List.replicate (5 - (lg_sl [.ref (gB E + za0), .ref (gB E + za1), .int za2, .int za3]).length) Slot.unset).toArray = ls at hl ⊢
  have hl : lv_has ls 5 [(0, .ref (gB E + za0)), (1, .ref (gB E + za1)), (2, .int za2), (3, .int za3)] := hl
  have L_29 : ∀ (zn29 : Nat) (zv0 : Nat) (zv1 : Nat) (zv2 : Int32) (zv4 : Int32) (zh : PH) (H : Heap) (locs : List Loc) (ls : Array Slot), gi (fun zk zs => f_X9_letOut_29 N zk zs.1 zs.2.1 zs.2.2.1 zs.2.2.2.1 zs.2.2.2.2) zn29 (zv0, zv1, zv2, zv4, zh) = some h9 → gw E s zh H locs → lv_has ls 5 [(0, .ref (gB E + zv0)), (1, .ref (gB E + zv1)), (2, .int zv2), (4, .int zv4)] → W p l e rm_X9_letOut s m [.ref (gB E + za0), .ref (gB E + za1), .int za2, .int za3].toArray below meth c H locs 0 0 (MQ below (gQv E h9) [.ref (gB E + za0), .ref (gB E + za1), .int za2, .int za3].toArray s 0 0 (gA E)) (F0 m 29 ls []) := by
    intro zn29
    induction zn29 with
    | zero =>
      intro zv0 zv1 zv2 zv4 zh H locs ls hf
      cases hf
    | succ zn29 ih_29 =>
      intro zv0 zv1 zv2 zv4 zh H locs ls hf hw hl
      have hf := gi_s hf
      dsimp only at hf
      unfold f_X9_letOut_29 at hf
      refine lv_iload hx hb dX9_letOut_29 (lv_at hl 3 rfl) ?_
      refine lv_aload_n hx hb dX9_letOut_31 rfl (lv_at hl 1 rfl) ?_
      obtain ⟨zt1, qzt1, hf⟩ := gb_el hf
      refine gx_getI X hw qzt1 clX2 (by decide) mf_X9_112 dX9_letOut_32 ?_
      refine lv_icmp_ge (tgt := 62) hx hb dX9_letOut_35 (by decide) (fun qc2 => ?_) (fun qc2 => ?_)
      · have hf := gif_t hf qc2
        exact gx_vret X hr hlk hw hf dX9_letOut_62
      · have hf := gif_f hf qc2
        refine lv_aload_n hx hb dX9_letOut_38 rfl (lv_at hl 0 rfl) ?_
        refine lv_iload hx hb dX9_letOut_39 (lv_at hl 3 rfl) ?_
        obtain ⟨qizh3, hf⟩ := gg_el hf
        obtain ⟨zt4, zh3, qzh3, hf⟩ := gc_el hf
        refine gx_kr (gx_runV (As := [.int zv4]) (rest := []) X hw (c_X9_trialOf l E N zv0 zv4 zh qzh3) kX9_trialOf mm_X9_117 qizh3 clX9 ⟨Nat.le_of_ble_eq_true rfl, Nat.le_of_ble_eq_true rfl⟩ rfl rfl rfl hl.1 (Nat.le_of_ble_eq_true rfl) rfl dX9_letOut_41 ⟨Nat.le_of_ble_eq_true rfl, Nat.le_of_ble_eq_true rfl⟩) hw (fun H locs hw => ?_)
        refine lv_aload_n hx hb dX9_letOut_44 rfl (lv_at hl 1 rfl) ?_
        refine lv_iload_n hx hb dX9_letOut_45 rfl (lv_at hl 2 rfl) ?_
        refine W.eq (g2 := F0 m 46 ls [.int zv2, .ref (gB E + zv1), .ref (gB E + zt4)]) rfl ?_
        refine lv_iload hx hb dX9_letOut_46 (lv_at hl 3 rfl) ?_
        refine lv_aload_n hx hb dX9_letOut_48 rfl (lv_at hl 0 rfl) ?_
        obtain ⟨zt5, qzt5, hf⟩ := gb_el hf
        refine gx_getR X hw qzt5 clX9 (by decide) mf_X9_54 dX9_letOut_49 ?_
        refine lv_null hx hb dX9_letOut_52 ?_
        obtain ⟨qizh6, hf⟩ := gg_el hf
        obtain ⟨zh6, qzh6, hf⟩ := gb_el hf
        refine gx_kv (gx_runV (As := [.ref (gB E + zv1), .int zv2, .int zv4, .ref (gB E + zt5), gq E none]) (rest := []) X hw (c_X1_letOut l E N zt4 zv1 zv2 zv4 zt5 none zh3 qzh6) kX1_letOut mm_X9_121 qizh6 clX1 ⟨Nat.le_of_ble_eq_true rfl, Nat.le_of_ble_eq_true rfl⟩ rfl rfl rfl hl.1 (Nat.le_of_ble_eq_true rfl) rfl dX9_letOut_53 ⟨Nat.le_of_ble_eq_true rfl, Nat.le_of_ble_eq_true rfl⟩) hw (fun H locs hw => ?_)
        obtain ⟨zx7, ezx7⟩ : ∃ y : Int32, y = zv4 + 1 := ⟨_, rfl⟩
        have hf := gl_el hf ezx7
        refine lv_iinc (v := zx7) (lv' := [(4, .int zx7), (0, .ref (gB E + zv0)), (1, .ref (gB E + zv1)), (2, .int zv2)]) hx hb dX9_letOut_56 hl (k := 3) rfl (by rw [ezx7]; rfl) (by decide) rfl (fun ls hl => ?_)
        refine lv_goto (tgt := 29) hx hb dX9_letOut_59 (by decide) ?_
        exact ih_29 zv0 zv1 zv2 zx7 _ _ _ ls hf hw (lv_sub hl [1, 2, 3, 0] rfl)
  unfold f_X9_letOut at hf
  refine lv_aload_n hx hb dX9_letOut_0 rfl (lv_at hl 0 rfl) ?_
  refine lv_iload_n hx hb dX9_letOut_1 rfl (lv_at hl 3 rfl) ?_
  obtain ⟨qizh1, hf⟩ := gg_el hf
  obtain ⟨zh1, qzh1, hf⟩ := gb_el hf
  refine gx_kv (gx_runV (As := [.int za3]) (rest := []) X hw (c_X9_note l E N za0 za3 zh qzh1) kX9_note mm_X9_104 qizh1 clX9 ⟨Nat.le_of_ble_eq_true rfl, Nat.le_of_ble_eq_true rfl⟩ rfl rfl rfl hl.1 (Nat.le_of_ble_eq_true rfl) rfl dX9_letOut_2 ⟨Nat.le_of_ble_eq_true rfl, Nat.le_of_ble_eq_true rfl⟩) hw (fun H locs hw => ?_)
  refine lv_aload_n hx hb dX9_letOut_5 rfl (lv_at hl 0 rfl) ?_
  obtain ⟨zt2, qzt2, hf⟩ := gb_el hf
  refine gx_getR X hw qzt2 clX9 (by decide) mf_X9_12 dX9_letOut_6 ?_
  refine lv_aload_n hx hb dX9_letOut_9 rfl (lv_at hl 1 rfl) ?_
  refine lv_iload_n hx hb dX9_letOut_10 rfl (lv_at hl 2 rfl) ?_
  refine lv_aload_n hx hb dX9_letOut_11 rfl (lv_at hl 0 rfl) ?_
  obtain ⟨zt3, qzt3, hf⟩ := gb_el hf
  refine gx_getI X hw qzt3 clX9 (by decide) mf_X9_50 dX9_letOut_12 ?_
  refine W.eq (g2 := F0 m 15 ls [.int zt3, .int za2, .ref (gB E + za1), .ref (gB E + zt2)]) rfl ?_
  refine lv_aload_n hx hb dX9_letOut_15 rfl (lv_at hl 0 rfl) ?_
  obtain ⟨zt4, qzt4, hf⟩ := gb_el hf
  refine gx_getR X hw qzt4 clX9 (by decide) mf_X9_54 dX9_letOut_16 ?_
  refine lv_aload_n hx hb dX9_letOut_19 rfl (lv_at hl 0 rfl) ?_
  obtain ⟨zt5, qzt5, hf⟩ := gb_el hf
  refine gx_getR X hw qzt5 clX9 (by decide) mf_X9_25 dX9_letOut_20 ?_
  obtain ⟨qizh6, hf⟩ := gg_el hf
  obtain ⟨zh6, qzh6, hf⟩ := gb_el hf
  refine gx_kv (gx_runV (As := [.ref (gB E + za1), .int za2, .int zt3, .ref (gB E + zt4), gq E (some zt5)]) (rest := []) X hw (c_X1_letOut l E N zt2 za1 za2 zt3 zt4 (some zt5) zh1 qzh6) kX1_letOut mm_X9_121 qizh6 clX1 ⟨Nat.le_of_ble_eq_true rfl, Nat.le_of_ble_eq_true rfl⟩ rfl rfl rfl hl.1 (Nat.le_of_ble_eq_true rfl) rfl dX9_letOut_23 ⟨Nat.le_of_ble_eq_true rfl, Nat.le_of_ble_eq_true rfl⟩) hw (fun H locs hw => ?_)
  refine lv_iconst (v := (-1)) hx hb dX9_letOut_26 (by decide) ?_
  refine lv_istore (lv' := [(4, .int (-1)), (0, .ref (gB E + za0)), (1, .ref (gB E + za1)), (2, .int za2), (3, .int za3)]) hx hb dX9_letOut_27 hl (by decide) rfl (fun ls hl => ?_)
  exact L_29 N za0 za1 za2 (-1) _ _ _ ls hf hw (lv_sub hl [1, 2, 3, 0] rfl)
abbrev rm_X10_init : Room := { frames := 1, cells := 1, slots := 1000, locals := 20 }
set_option maxHeartbeats 4000000 in
set_option maxRecDepth 100000 in
theorem c_X10_init (l : Launch) (E : gE) (N : Nat) (za0 : Nat) (zh : PH) {h9 : PH} (hf : f_X10_init N za0 zh = some h9) : Met l yX10_init (gWS yX10_init cX10_init 1 none) rm_X10_init (gPc E [.ref (gB E + za0)] zh) (gQv E h9) 1 1000 (gA E) := by
  refine gx_met (by decide) ?_ rfl
  intro p e s m below meth c X hr hlk hin2 hw
  have hx := X.1.1
  have hb := X.1.2.1
  have hl := lv_entry [.ref (gB E + za0)] (n := 1) (Nat.le_of_ble_eq_true rfl)
  rw [lg_entry_eq]
  generalize (lg_sl [.ref (gB E + za0)] ++ List.replicate (1 - (lg_sl [.ref (gB E + za0)]).length) Slot.unset).toArray = ls at hl ⊢
  have hl : lv_has ls 1 [(0, .ref (gB E + za0))] := hl
  unfold f_X10_init at hf
  refine lv_aload_n hx hb dX10_init_0 rfl (lv_at hl 0 rfl) ?_
  refine gx_oinit X mm_X10_3 mo_inst mo_code hl.1 dX10_init_1 (Nat.le_of_ble_eq_true rfl) (Nat.le_of_ble_eq_true rfl) ?_
  refine lv_aload_n hx hb dX10_init_4 rfl (lv_at hl 0 rfl) ?_
  refine lv_sipush (v := 1000) hx hb dX10_init_5 (by decide) ?_
  obtain ⟨zr2, zh1, qzh1, hf⟩ := gc_el hf
  refine gx_newa2 X hw qzh1 ma_byte (by decide) (by decide) (by decide) (Nat.le_of_ble_eq_true rfl) (Nat.le_of_ble_eq_true rfl) dX10_init_8 (fun H hw => ?_)
  obtain ⟨zh3, qzh3, hf⟩ := gb_el hf
  refine gx_putFV X hw qzh3 clX10 (by decide) mf_X10_9 rfl (hin2 rfl) rfl rfl rfl dX10_init_10 (fun H locs hw => ?_)
  exact gx_vret X hr hlk hw hf dX10_init_13
abbrev rm_X10_length : Room := { frames := 0, cells := 0, slots := 0, locals := 0 }
set_option maxHeartbeats 4000000 in
set_option maxRecDepth 100000 in
theorem c_X10_length (l : Launch) (E : gE) (N : Nat) (za0 : Nat) (zh : PH) {h9 : PH} {r9 : Int32} (hf : f_X10_length N za0 zh = some (r9, h9)) : Met l yX10_length (gWS yX10_length cX10_length 1 (some .int)) rm_X10_length (gPc E [.ref (gB E + za0)] zh) (gQi E r9 h9) 0 0 (gA E) := by
  refine gx_met (by decide) ?_ rfl
  intro p e s m below meth c X hr hlk hin2 hw
  have hx := X.1.1
  have hb := X.1.2.1
  have hl := lv_entry [.ref (gB E + za0)] (n := 1) (Nat.le_of_ble_eq_true rfl)
  rw [lg_entry_eq]
  generalize (lg_sl [.ref (gB E + za0)] ++ List.replicate (1 - (lg_sl [.ref (gB E + za0)]).length) Slot.unset).toArray = ls at hl ⊢
  have hl : lv_has ls 1 [(0, .ref (gB E + za0))] := hl
  unfold f_X10_length at hf
  refine lv_aload_n hx hb dX10_length_0 rfl (lv_at hl 0 rfl) ?_
  obtain ⟨zt1, qzt1, hf⟩ := gb_el hf
  refine gx_getI X hw qzt1 clX10 (by decide) mf_X10_15 dX10_length_1 ?_
  exact gx_iret X hr hlk hw hf dX10_length_4
abbrev rm_X10_empty : Room := { frames := 0, cells := 0, slots := 0, locals := 0 }
set_option maxHeartbeats 4000000 in
set_option maxRecDepth 100000 in
theorem c_X10_empty (l : Launch) (E : gE) (N : Nat) (za0 : Nat) (zh : PH) {h9 : PH} (hf : f_X10_empty N za0 zh = some h9) : Met l yX10_empty (gWS yX10_empty cX10_empty 1 none) rm_X10_empty (gPc E [.ref (gB E + za0)] zh) (gQv E h9) 0 0 (gA E) := by
  refine gx_met (by decide) ?_ rfl
  intro p e s m below meth c X hr hlk hin2 hw
  have hx := X.1.1
  have hb := X.1.2.1
  have hl := lv_entry [.ref (gB E + za0)] (n := 1) (Nat.le_of_ble_eq_true rfl)
  rw [lg_entry_eq]
  generalize (lg_sl [.ref (gB E + za0)] ++ List.replicate (1 - (lg_sl [.ref (gB E + za0)]).length) Slot.unset).toArray = ls at hl ⊢
  have hl : lv_has ls 1 [(0, .ref (gB E + za0))] := hl
  unfold f_X10_empty at hf
  refine lv_aload_n hx hb dX10_empty_0 rfl (lv_at hl 0 rfl) ?_
  refine lv_iconst (v := 0) hx hb dX10_empty_1 (by decide) ?_
  obtain ⟨zh1, qzh1, hf⟩ := gb_el hf
  refine gx_putV X hw qzh1 clX10 (by decide) mf_X10_15 rfl rfl rfl dX10_empty_2 (fun H locs hw => ?_)
  exact gx_vret X hr hlk hw hf dX10_empty_5
abbrev rm_X10_isSign : Room := { frames := 0, cells := 0, slots := 0, locals := 0 }
set_option maxHeartbeats 4000000 in
set_option maxRecDepth 100000 in
theorem c_X10_isSign (l : Launch) (E : gE) (N : Nat) (za0 : Int32) (zh : PH) {h9 : PH} {r9 : Int32} (hf : f_X10_isSign N za0 zh = some (r9, h9)) : Met l yX10_isSign (gWS yX10_isSign cX10_isSign 1 (some .boolean)) rm_X10_isSign (gPc E [.int za0] zh) (gQi E r9 h9) 0 0 (gA E) := by
  refine gx_met (by decide) ?_ rfl
  intro p e s m below meth c X hr hlk hin2 hw
  have hx := X.1.1
  have hb := X.1.2.1
  have hl := lv_entry [.int za0] (n := 1) (Nat.le_of_ble_eq_true rfl)
  rw [lg_entry_eq]
  generalize (lg_sl [.int za0] ++ List.replicate (1 - (lg_sl [.int za0]).length) Slot.unset).toArray = ls at hl ⊢
  have hl : lv_has ls 1 [(0, .int za0)] := hl
  have J_23 : ∀ (zs0 : Int32) (zh : PH) (H : Heap) (locs : List Loc) (ls : Array Slot), f_X10_isSign_23 N zs0 zh = some (r9, h9) → gw E s zh H locs → lv_has ls 1 [] → W p l e rm_X10_isSign s m [.int za0].toArray below meth c H locs 0 0 (MQ below (gQi E r9 h9) [.int za0].toArray s 0 0 (gA E)) (F0 m 23 ls [.int zs0]) := by
    intro zs0 zh H locs ls hf hw hl
    unfold f_X10_isSign_23 at hf
    exact gx_zret X hr hlk hw hf dX10_isSign_23
  have J_22 : ∀ (zh : PH) (H : Heap) (locs : List Loc) (ls : Array Slot), f_X10_isSign_22 N zh = some (r9, h9) → gw E s zh H locs → lv_has ls 1 [] → W p l e rm_X10_isSign s m [.int za0].toArray below meth c H locs 0 0 (MQ below (gQi E r9 h9) [.int za0].toArray s 0 0 (gA E)) (F0 m 22 ls []) := by
    intro zh H locs ls hf hw hl
    unfold f_X10_isSign_22 at hf
    refine lv_iconst (v := 0) hx hb dX10_isSign_22 (by decide) ?_
    exact J_23 0 _ _ _ ls hf hw (lv_sub hl [] rfl)
  have J_18 : ∀ (zh : PH) (H : Heap) (locs : List Loc) (ls : Array Slot), f_X10_isSign_18 N zh = some (r9, h9) → gw E s zh H locs → lv_has ls 1 [] → W p l e rm_X10_isSign s m [.int za0].toArray below meth c H locs 0 0 (MQ below (gQi E r9 h9) [.int za0].toArray s 0 0 (gA E)) (F0 m 18 ls []) := by
    intro zh H locs ls hf hw hl
    unfold f_X10_isSign_18 at hf
    refine lv_iconst (v := 1) hx hb dX10_isSign_18 (by decide) ?_
    refine lv_goto (tgt := 23) hx hb dX10_isSign_19 (by decide) ?_
    exact J_23 1 _ _ _ ls hf hw (lv_sub hl [] rfl)
  unfold f_X10_isSign at hf
  refine lv_iload_n hx hb dX10_isSign_0 rfl (lv_at hl 0 rfl) ?_
  refine lv_bipush (v := 10) hx hb dX10_isSign_1 (by decide) ?_
  refine lv_icmp_eq (tgt := 18) hx hb dX10_isSign_3 (by decide) (fun qc1 => ?_) (fun qc1 => ?_)
  · have hf := gif_t hf qc1
    exact J_18  _ _ _ ls hf hw (lv_sub hl [] rfl)
  · have hf := gif_f hf qc1
    refine lv_iload_n hx hb dX10_isSign_6 rfl (lv_at hl 0 rfl) ?_
    refine lv_bipush (v := 32) hx hb dX10_isSign_7 (by decide) ?_
    refine lv_icmp_lt (tgt := 22) hx hb dX10_isSign_9 (by decide) (fun qc2 => ?_) (fun qc2 => ?_)
    · have hf := gif_t hf qc2
      exact J_22  _ _ _ ls hf hw (lv_sub hl [] rfl)
    · have hf := gif_f hf qc2
      refine lv_iload_n hx hb dX10_isSign_12 rfl (lv_at hl 0 rfl) ?_
      refine lv_bipush (v := 126) hx hb dX10_isSign_13 (by decide) ?_
      refine lv_icmp_gt (tgt := 22) hx hb dX10_isSign_15 (by decide) (fun qc3 => ?_) (fun qc3 => ?_)
      · have hf := gif_t hf qc3
        exact J_22  _ _ _ ls hf hw (lv_sub hl [] rfl)
      · have hf := gif_f hf qc3
        exact J_18  _ _ _ ls hf hw (lv_sub hl [] rfl)
abbrev rm_X10_append : Room := { frames := 1, cells := 0, slots := 0, locals := 20 }
set_option maxHeartbeats 4000000 in
set_option maxRecDepth 100000 in
theorem c_X10_append (l : Launch) (E : gE) (N : Nat) (za0 : Nat) (za1 : Int64) (zh : PH) {h9 : PH} (hf : f_X10_append N za0 za1 zh = some h9) : Met l yX10_append (gWS yX10_append cX10_append 5 none) rm_X10_append (gPc E [.ref (gB E + za0), .long za1] zh) (gQv E h9) 0 0 (gA E) := by
  refine gx_met (by decide) ?_ rfl
  intro p e s m below meth c X hr hlk hin2 hw
  have hx := X.1.1
  have hb := X.1.2.1
  have hl := lv_entry [.ref (gB E + za0), .long za1] (n := 5) (Nat.le_of_ble_eq_true rfl)
  rw [lg_entry_eq]
  generalize (lg_sl [.ref (gB E + za0), .long za1] ++ List.replicate (5 - (lg_sl [.ref (gB E + za0), .long za1]).length) Slot.unset).toArray = ls at hl ⊢
  have hl : lv_has ls 5 [(0, .ref (gB E + za0)), (1, .long za1)] := hl
  have L_3 : ∀ (zn3 : Nat) (zv0 : Nat) (zv1 : Int64) (zv3 : Int32) (zh : PH) (H : Heap) (locs : List Loc) (ls : Array Slot), gi (fun zk zs => f_X10_append_3 N zk zs.1 zs.2.1 zs.2.2.1 zs.2.2.2) zn3 (zv0, zv1, zv3, zh) = some h9 → gw E s zh H locs → lv_has ls 5 [(0, .ref (gB E + zv0)), (1, .long zv1), (3, .int zv3)] → W p l e rm_X10_append s m [.ref (gB E + za0), .long za1].toArray below meth c H locs 0 0 (MQ below (gQv E h9) [.ref (gB E + za0), .long za1].toArray s 0 0 (gA E)) (F0 m 3 ls []) := by
    intro zn3
    induction zn3 with
    | zero =>
      intro zv0 zv1 zv3 zh H locs ls hf
      cases hf
    | succ zn3 ih_3 =>
      have J_57 : ∀ (zv0 : Nat) (zv1 : Int64) (zv3 : Int32) (zh : PH) (H : Heap) (locs : List Loc) (ls : Array Slot), f_X10_append_57 N (gi (fun zk zs => f_X10_append_3 N zk zs.1 zs.2.1 zs.2.2.1 zs.2.2.2) zn3) zv0 zv1 zv3 zh = some h9 → gw E s zh H locs → lv_has ls 5 [(0, .ref (gB E + zv0)), (1, .long zv1), (3, .int zv3)] → W p l e rm_X10_append s m [.ref (gB E + za0), .long za1].toArray below meth c H locs 0 0 (MQ below (gQv E h9) [.ref (gB E + za0), .long za1].toArray s 0 0 (gA E)) (F0 m 57 ls []) := by
        intro zv0 zv1 zv3 zh H locs ls hf hw hl
        unfold f_X10_append_57 at hf
        obtain ⟨zx1, ezx1⟩ : ∃ y : Int32, y = zv3 + (-8) := ⟨_, rfl⟩
        have hf := gl_el hf ezx1
        refine lv_iinc (v := zx1) (lv' := [(3, .int zx1), (0, .ref (gB E + zv0)), (1, .long zv1)]) hx hb dX10_append_57 hl (k := 2) rfl (by rw [ezx1]; rfl) (by decide) rfl (fun ls hl => ?_)
        refine lv_goto (tgt := 3) hx hb dX10_append_60 (by decide) ?_
        exact ih_3 zv0 zv1 zx1 _ _ _ ls hf hw (lv_sub hl [1, 2, 0] rfl)
      intro zv0 zv1 zv3 zh H locs ls hf hw hl
      have hf := gi_s hf
      dsimp only at hf
      unfold f_X10_append_3 at hf
      refine lv_iload_n hx hb dX10_append_3 rfl (lv_at hl 2 rfl) ?_
      refine lv_if_lt (tgt := 63) hx hb dX10_append_4 (by decide) (fun qc1 => ?_) (fun qc1 => ?_)
      · have hf := gif_t hf qc1
        exact gx_vret X hr hlk hw hf dX10_append_63
      · have hf := gif_f hf qc1
        refine lv_lload_n hx hb dX10_append_7 rfl (lv_at hl 1 rfl) ?_
        refine lv_iload_n hx hb dX10_append_8 rfl (lv_at hl 2 rfl) ?_
        refine lv_lushr hx hb dX10_append_9 rfl ?_
        refine lv_l2i hx hb dX10_append_10 rfl ?_
        refine lv_sipush (v := 255) hx hb dX10_append_11 (by decide) ?_
        refine lv_iand hx hb dX10_append_14 ?_
        refine lv_topi (fun zx2 ezx2 => ?_)
        have hf := gl_el hf ezx2
        refine lv_istore (lv' := [(4, .int zx2), (0, .ref (gB E + zv0)), (1, .long zv1), (3, .int zv3)]) hx hb dX10_append_15 hl (by decide) rfl (fun ls hl => ?_)
        refine W.eq (g2 := F0 m 17 ls []) rfl ?_
        refine lv_iload hx hb dX10_append_17 (lv_at hl 0 rfl) ?_
        obtain ⟨zt4, zh3, qzh3, hf⟩ := gc_el hf
        refine gx_ki (gx_runS (As := [.int zx2]) (rest := []) X hw (c_X10_isSign l E N zx2 zh qzh3) kX10_isSign mm_X10_19 ⟨Nat.le_of_ble_eq_true rfl, Nat.le_of_ble_eq_true rfl⟩ rfl rfl rfl hl.1 (Nat.le_of_ble_eq_true rfl) rfl dX10_append_19 ⟨Nat.le_of_ble_eq_true rfl, Nat.le_of_ble_eq_true rfl⟩) hw (fun H locs hw => ?_)
        refine lv_if_eq (tgt := 57) hx hb dX10_append_22 (by decide) (fun qc5 => ?_) (fun qc5 => ?_)
        · have hf := gif_t hf qc5
          exact J_57 zv0 zv1 zv3 _ _ _ ls hf hw (lv_sub hl [1, 2, 3] rfl)
        · have hf := gif_f hf qc5
          refine lv_aload_n hx hb dX10_append_25 rfl (lv_at hl 1 rfl) ?_
          obtain ⟨zt6, qzt6, hf⟩ := gb_el hf
          refine gx_getI X hw qzt6 clX10 (by decide) mf_X10_15 dX10_append_26 ?_
          refine lv_sipush (v := 1000) hx hb dX10_append_29 (by decide) ?_
          refine lv_icmp_ge (tgt := 57) hx hb dX10_append_32 (by decide) (fun qc7 => ?_) (fun qc7 => ?_)
          · have hf := gif_t hf qc7
            exact J_57 zv0 zv1 zv3 _ _ _ ls hf hw (lv_sub hl [1, 2, 3] rfl)
          · have hf := gif_f hf qc7
            refine lv_aload_n hx hb dX10_append_35 rfl (lv_at hl 1 rfl) ?_
            obtain ⟨zt8, qzt8, hf⟩ := gb_el hf
            refine gx_getR X hw qzt8 clX10 (by decide) mf_X10_9 dX10_append_36 ?_
            refine lv_aload_n hx hb dX10_append_39 rfl (lv_at hl 1 rfl) ?_
            refine W.eq (g2 := F0 m 40 ls [.ref (gB E + zv0), .ref (gB E + zt8)]) rfl ?_
            obtain ⟨zt9, qzt9, hf⟩ := gb_el hf
            refine gx_getI X hw qzt9 clX10 (by decide) mf_X10_15 dX10_append_40 ?_
            refine lv_iload hx hb dX10_append_43 (lv_at hl 0 rfl) ?_
            refine lv_i2b hx hb dX10_append_45 rfl ?_
            obtain ⟨zh10, qzh10, hf⟩ := gb_el hf
            refine gx_bast X hw qzh10 dX10_append_46 (fun H locs hw => ?_)
            refine lv_aload_n hx hb dX10_append_47 rfl (lv_at hl 1 rfl) ?_
            refine lv_dup hx hb dX10_append_48 rfl ?_
            obtain ⟨zt11, qzt11, hf⟩ := gb_el hf
            refine gx_getI X hw qzt11 clX10 (by decide) mf_X10_15 dX10_append_49 ?_
            refine lv_iconst (v := 1) hx hb dX10_append_52 (by decide) ?_
            refine lv_iadd hx hb dX10_append_53 ?_
            obtain ⟨zh12, qzh12, hf⟩ := gb_el hf
            refine gx_putV X hw qzh12 clX10 (by decide) mf_X10_15 rfl rfl rfl dX10_append_54 (fun H locs hw => ?_)
            exact J_57 zv0 zv1 zv3 _ _ _ ls hf hw (lv_sub hl [1, 2, 3] rfl)
  unfold f_X10_append at hf
  refine lv_bipush (v := 56) hx hb dX10_append_0 (by decide) ?_
  refine lv_istore_n (lv' := [(3, .int 56), (0, .ref (gB E + za0)), (1, .long za1)]) hx hb dX10_append_2 rfl hl (by decide) rfl (fun ls hl => ?_)
  exact L_3 N za0 za1 56 _ _ _ ls hf hw (lv_sub hl [1, 2, 0] rfl)
abbrev rm_X11_init : Room := { frames := 3, cells := 84, slots := 5911, locals := 65 }
set_option maxHeartbeats 4000000 in
set_option maxRecDepth 100000 in
theorem c_X11_init (l : Launch) (E : gE) (N : Nat) (za0 : Nat) (zh : PH) {h9 : PH} (hf : f_X11_init N za0 zh = some h9) : Met l yX11_init (gWS yX11_init cX11_init 1 none) rm_X11_init (gPc E [.ref (gB E + za0)] zh) (gQv E h9) 84 5911 (gA E) := by
  refine gx_met (by decide) ?_ rfl
  intro p e s m below meth c X hr hlk hin2 hw
  have hx := X.1.1
  have hb := X.1.2.1
  have hl := lv_entry [.ref (gB E + za0)] (n := 1) (Nat.le_of_ble_eq_true rfl)
  rw [lg_entry_eq]
  generalize (lg_sl [.ref (gB E + za0)] ++ List.replicate (1 - (lg_sl [.ref (gB E + za0)]).length) Slot.unset).toArray = ls at hl ⊢
  have hl : lv_has ls 1 [(0, .ref (gB E + za0))] := hl
  unfold f_X11_init at hf
  refine lv_aload_n hx hb dX11_init_0 rfl (lv_at hl 0 rfl) ?_
  refine gx_oinit X mm_X11_1 mo_inst mo_code hl.1 dX11_init_1 (Nat.le_of_ble_eq_true rfl) (Nat.le_of_ble_eq_true rfl) ?_
  refine lv_aload_n hx hb dX11_init_4 rfl (lv_at hl 0 rfl) ?_
  obtain ⟨zr2, zh1, qzh1, hf⟩ := gc_el hf
  refine gx_new X hw qzh1 clX10 n1X10 ml_X11_7 mN_X10 mI_X10 (Nat.le_of_ble_eq_true rfl) (Nat.le_of_ble_eq_true rfl) dX11_init_5 (fun H hw => ?_)
  refine lv_dup hx hb dX11_init_8 rfl ?_
  obtain ⟨zh3, qzh3, hf⟩ := gb_el hf
  refine gx_kv (gx_runIN (As := []) (rest := [.ref (gB E + zr2), .ref (gB E + za0)]) X hw (c_X10_init l E N zr2 zh1 qzh3) kX10_init mn_X11_9 ⟨Nat.le_of_ble_eq_true rfl, Nat.le_of_ble_eq_true rfl⟩ rfl rfl rfl hl.1 (Nat.le_of_ble_eq_true rfl) rfl dX11_init_9 ⟨Nat.le_of_ble_eq_true rfl, Nat.le_of_ble_eq_true rfl⟩) hw (fun H locs hw => ?_)
  obtain ⟨zh4, qzh4, hf⟩ := gb_el hf
  refine gx_putFV X hw qzh4 clX11 (by decide) mf_X11_10 rfl (hin2 rfl) rfl rfl rfl dX11_init_12 (fun H locs hw => ?_)
  refine lv_aload_n hx hb dX11_init_15 rfl (lv_at hl 0 rfl) ?_
  obtain ⟨zr6, zh5, qzh5, hf⟩ := gc_el hf
  refine gx_new X hw qzh5 clX3 n1X3 ml_X11_16 mN_X3 mI_X3 (Nat.le_of_ble_eq_true rfl) (Nat.le_of_ble_eq_true rfl) dX11_init_16 (fun H hw => ?_)
  refine W.eq (g2 := F0 m 19 ls [.ref (gB E + zr6), .ref (gB E + za0)]) rfl ?_
  refine lv_dup hx hb dX11_init_19 rfl ?_
  refine lv_aload_n hx hb dX11_init_20 rfl (lv_at hl 0 rfl) ?_
  obtain ⟨zt7, qzt7, hf⟩ := gb_el hf
  refine gx_getR X hw qzt7 clX11 (by decide) mf_X11_10 dX11_init_21 ?_
  obtain ⟨zh8, qzh8, hf⟩ := gb_el hf
  refine gx_kv (gx_runI (As := [.ref (gB E + zt7)]) (rest := [.ref (gB E + zr6), .ref (gB E + za0)]) X hw (c_X3_init l E N zr6 zt7 zh5 qzh8) kX3_init mm_X11_18 ⟨Nat.le_of_ble_eq_true rfl, Nat.le_of_ble_eq_true rfl⟩ rfl rfl rfl hl.1 (Nat.le_of_ble_eq_true rfl) rfl dX11_init_24 ⟨Nat.le_of_ble_eq_true rfl, Nat.le_of_ble_eq_true rfl⟩) hw (fun H locs hw => ?_)
  obtain ⟨zh9, qzh9, hf⟩ := gb_el hf
  refine gx_putFV X hw qzh9 clX11 (by decide) mf_X11_21 rfl (hin2 rfl) rfl rfl rfl dX11_init_27 (fun H locs hw => ?_)
  refine lv_aload_n hx hb dX11_init_30 rfl (lv_at hl 0 rfl) ?_
  obtain ⟨zr11, zh10, qzh10, hf⟩ := gc_el hf
  refine gx_new X hw qzh10 clX7 n1X7 ml_X11_25 mN_X7 mI_X7 (Nat.le_of_ble_eq_true rfl) (Nat.le_of_ble_eq_true rfl) dX11_init_31 (fun H hw => ?_)
  refine lv_dup hx hb dX11_init_34 rfl ?_
  obtain ⟨zh12, qzh12, hf⟩ := gb_el hf
  refine gx_kv (gx_runIN (As := []) (rest := [.ref (gB E + zr11), .ref (gB E + za0)]) X hw (c_X7_init l E N zr11 zh10 qzh12) kX7_init mn_X11_27 ⟨Nat.le_of_ble_eq_true rfl, Nat.le_of_ble_eq_true rfl⟩ rfl rfl rfl hl.1 (Nat.le_of_ble_eq_true rfl) rfl dX11_init_35 ⟨Nat.le_of_ble_eq_true rfl, Nat.le_of_ble_eq_true rfl⟩) hw (fun H locs hw => ?_)
  obtain ⟨zh13, qzh13, hf⟩ := gb_el hf
  refine gx_putFV X hw qzh13 clX11 (by decide) mf_X11_28 rfl (hin2 rfl) rfl rfl rfl dX11_init_38 (fun H locs hw => ?_)
  refine W.eq (g2 := F0 m 41 ls []) rfl ?_
  refine lv_aload_n hx hb dX11_init_41 rfl (lv_at hl 0 rfl) ?_
  obtain ⟨zr15, zh14, qzh14, hf⟩ := gc_el hf
  refine gx_new X hw qzh14 clX9 n1X9 ml_X11_32 mN_X9 mI_X9 (Nat.le_of_ble_eq_true rfl) (Nat.le_of_ble_eq_true rfl) dX11_init_42 (fun H hw => ?_)
  refine lv_dup hx hb dX11_init_45 rfl ?_
  refine lv_aload_n hx hb dX11_init_46 rfl (lv_at hl 0 rfl) ?_
  obtain ⟨zt16, qzt16, hf⟩ := gb_el hf
  refine gx_getR X hw qzt16 clX11 (by decide) mf_X11_28 dX11_init_47 ?_
  obtain ⟨zh17, qzh17, hf⟩ := gb_el hf
  refine gx_kv (gx_runI (As := [.ref (gB E + zt16)]) (rest := [.ref (gB E + zr15), .ref (gB E + za0)]) X hw (c_X9_init l E N zr15 zt16 zh14 qzh17) kX9_init mm_X11_34 ⟨Nat.le_of_ble_eq_true rfl, Nat.le_of_ble_eq_true rfl⟩ rfl rfl rfl hl.1 (Nat.le_of_ble_eq_true rfl) rfl dX11_init_50 ⟨Nat.le_of_ble_eq_true rfl, Nat.le_of_ble_eq_true rfl⟩) hw (fun H locs hw => ?_)
  obtain ⟨zh18, qzh18, hf⟩ := gb_el hf
  refine gx_putFV X hw qzh18 clX11 (by decide) mf_X11_37 rfl (hin2 rfl) rfl rfl rfl dX11_init_53 (fun H locs hw => ?_)
  refine lv_aload_n hx hb dX11_init_56 rfl (lv_at hl 0 rfl) ?_
  refine lv_iconst (v := 4) hx hb dX11_init_57 (by decide) ?_
  obtain ⟨zr20, zh19, qzh19, hf⟩ := gc_el hf
  refine gx_anew X hw qzh19 rfl (by decide) X.2.2.2.1.2 ml_X11_32 (by decide) (by decide) (by decide) (Nat.le_of_ble_eq_true rfl) (Nat.le_of_ble_eq_true rfl) dX11_init_58 (fun H hw => ?_)
  refine W.eq (g2 := F0 m 61 ls [.ref (gB E + zr20), .ref (gB E + za0)]) rfl ?_
  obtain ⟨zh21, qzh21, hf⟩ := gb_el hf
  refine gx_putFV X hw qzh21 clX11 (by decide) mf_X11_41 rfl (hin2 rfl) rfl rfl rfl dX11_init_61 (fun H locs hw => ?_)
  refine lv_aload_n hx hb dX11_init_64 rfl (lv_at hl 0 rfl) ?_
  obtain ⟨zr23, zh22, qzh22, hf⟩ := gc_el hf
  refine gx_new X hw qzh22 clX5 n1X5 ml_X11_45 mN_X5 mI_X5 (Nat.le_of_ble_eq_true rfl) (Nat.le_of_ble_eq_true rfl) dX11_init_65 (fun H hw => ?_)
  refine lv_dup hx hb dX11_init_68 rfl ?_
  obtain ⟨zh24, qzh24, hf⟩ := gb_el hf
  refine gx_kv (gx_runIN (As := []) (rest := [.ref (gB E + zr23), .ref (gB E + za0)]) X hw (c_X5_init l E N zr23 zh22 qzh24) kX5_init mn_X11_47 ⟨Nat.le_of_ble_eq_true rfl, Nat.le_of_ble_eq_true rfl⟩ rfl rfl rfl hl.1 (Nat.le_of_ble_eq_true rfl) rfl dX11_init_69 ⟨Nat.le_of_ble_eq_true rfl, Nat.le_of_ble_eq_true rfl⟩) hw (fun H locs hw => ?_)
  obtain ⟨zh25, qzh25, hf⟩ := gb_el hf
  refine gx_putFV X hw qzh25 clX11 (by decide) mf_X11_48 rfl (hin2 rfl) rfl rfl rfl dX11_init_72 (fun H locs hw => ?_)
  refine lv_aload_n hx hb dX11_init_75 rfl (lv_at hl 0 rfl) ?_
  obtain ⟨zr27, zh26, qzh26, hf⟩ := gc_el hf
  refine gx_new X hw qzh26 clX1 n1X1 ml_X11_52 mN_X1 mI_X1 (Nat.le_of_ble_eq_true rfl) (Nat.le_of_ble_eq_true rfl) dX11_init_76 (fun H hw => ?_)
  refine lv_dup hx hb dX11_init_79 rfl ?_
  obtain ⟨zh28, qzh28, hf⟩ := gb_el hf
  refine gx_kv (gx_runI (As := []) (rest := [.ref (gB E + zr27), .ref (gB E + za0)]) X hw (c_X1_init l E N zr27 zh26 qzh28) kX1_init mm_X11_54 ⟨Nat.le_of_ble_eq_true rfl, Nat.le_of_ble_eq_true rfl⟩ rfl rfl rfl hl.1 (Nat.le_of_ble_eq_true rfl) rfl dX11_init_80 ⟨Nat.le_of_ble_eq_true rfl, Nat.le_of_ble_eq_true rfl⟩) hw (fun H locs hw => ?_)
  refine W.eq (g2 := F0 m 83 ls [.ref (gB E + zr27), .ref (gB E + za0)]) rfl ?_
  obtain ⟨zh29, qzh29, hf⟩ := gb_el hf
  refine gx_putFV X hw qzh29 clX11 (by decide) mf_X11_55 rfl (hin2 rfl) rfl rfl rfl dX11_init_83 (fun H locs hw => ?_)
  refine lv_aload_n hx hb dX11_init_86 rfl (lv_at hl 0 rfl) ?_
  refine lv_bipush (v := 7) hx hb dX11_init_87 (by decide) ?_
  obtain ⟨zr31, zh30, qzh30, hf⟩ := gc_el hf
  refine gx_newa0 X hw qzh30 ma_int (by decide) (by decide) (by decide) (Nat.le_of_ble_eq_true rfl) (Nat.le_of_ble_eq_true rfl) dX11_init_89 (fun H hw => ?_)
  obtain ⟨zh32, qzh32, hf⟩ := gb_el hf
  refine gx_putFV X hw qzh32 clX11 (by decide) mf_X11_59 rfl (hin2 rfl) rfl rfl rfl dX11_init_91 (fun H locs hw => ?_)
  refine lv_aload_n hx hb dX11_init_94 rfl (lv_at hl 0 rfl) ?_
  refine lv_sipush (v := 1024) hx hb dX11_init_95 (by decide) ?_
  obtain ⟨zr34, zh33, qzh33, hf⟩ := gc_el hf
  refine gx_newa0 X hw qzh33 ma_int (by decide) (by decide) (by decide) (Nat.le_of_ble_eq_true rfl) (Nat.le_of_ble_eq_true rfl) dX11_init_98 (fun H hw => ?_)
  obtain ⟨zh35, qzh35, hf⟩ := gb_el hf
  refine gx_putFV X hw qzh35 clX11 (by decide) mf_X11_63 rfl (hin2 rfl) rfl rfl rfl dX11_init_100 (fun H locs hw => ?_)
  refine lv_aload_n hx hb dX11_init_103 rfl (lv_at hl 0 rfl) ?_
  refine W.eq (g2 := F0 m 104 ls [.ref (gB E + za0)]) rfl ?_
  obtain ⟨zr37, zh36, qzh36, hf⟩ := gc_el hf
  refine gx_new X hw qzh36 clX2 n1X2 ml_X11_66 mN_X2 mI_X2 (Nat.le_of_ble_eq_true rfl) (Nat.le_of_ble_eq_true rfl) dX11_init_104 (fun H hw => ?_)
  refine lv_dup hx hb dX11_init_107 rfl ?_
  obtain ⟨zh38, qzh38, hf⟩ := gb_el hf
  refine gx_kv (gx_runIN (As := []) (rest := [.ref (gB E + zr37), .ref (gB E + za0)]) X hw (c_X2_init l E N zr37 zh36 qzh38) kX2_init mn_X11_68 ⟨Nat.le_of_ble_eq_true rfl, Nat.le_of_ble_eq_true rfl⟩ rfl rfl rfl hl.1 (Nat.le_of_ble_eq_true rfl) rfl dX11_init_108 ⟨Nat.le_of_ble_eq_true rfl, Nat.le_of_ble_eq_true rfl⟩) hw (fun H locs hw => ?_)
  obtain ⟨zh39, qzh39, hf⟩ := gb_el hf
  refine gx_putV X hw qzh39 clX11 (by decide) mf_X11_69 rfl rfl rfl dX11_init_111 (fun H locs hw => ?_)
  refine lv_aload_n hx hb dX11_init_114 rfl (lv_at hl 0 rfl) ?_
  obtain ⟨zr41, zh40, qzh40, hf⟩ := gc_el hf
  refine gx_new X hw qzh40 clX2 n1X2 ml_X11_66 mN_X2 mI_X2 (Nat.le_of_ble_eq_true rfl) (Nat.le_of_ble_eq_true rfl) dX11_init_115 (fun H hw => ?_)
  refine lv_dup hx hb dX11_init_118 rfl ?_
  obtain ⟨zh42, qzh42, hf⟩ := gb_el hf
  refine gx_kv (gx_runIN (As := []) (rest := [.ref (gB E + zr41), .ref (gB E + za0)]) X hw (c_X2_init l E N zr41 zh40 qzh42) kX2_init mn_X11_68 ⟨Nat.le_of_ble_eq_true rfl, Nat.le_of_ble_eq_true rfl⟩ rfl rfl rfl hl.1 (Nat.le_of_ble_eq_true rfl) rfl dX11_init_119 ⟨Nat.le_of_ble_eq_true rfl, Nat.le_of_ble_eq_true rfl⟩) hw (fun H locs hw => ?_)
  obtain ⟨zh43, qzh43, hf⟩ := gb_el hf
  refine gx_putV X hw qzh43 clX11 (by decide) mf_X11_73 rfl rfl rfl dX11_init_122 (fun H locs hw => ?_)
  exact gx_vret X hr hlk hw hf dX11_init_125
