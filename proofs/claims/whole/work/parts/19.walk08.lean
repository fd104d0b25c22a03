def f_X12_rooms (N : Nat) (za0 : Nat) (zh : PH) : Option (Int32 × PH) :=
  gb (gfR 12 10 za0 zh) fun zt1 =>
  gb (arI 0 zt1 0 zh) fun zt2 =>
  some (zt2, zh)
def f_X12_guests (N : Nat) (za0 : Nat) (zh : PH) : Option (Int32 × PH) :=
  gb (gfR 12 10 za0 zh) fun zt1 =>
  gb (arI 0 zt1 1 zh) fun zt2 =>
  some (zt2, zh)
def f_X12_floorOf_18 (N : Nat) (zs0 : Int32) (zh : PH) : Option (Int32 × PH) :=
  some (zs0, zh)
def f_X12_floorOf (N : Nat) (za0 : Nat) (za1 : Int32) (zh : PH) : Option (Int32 × PH) :=
  if (0 : Int32) ≤ za1 then (
  gb (gfR 12 10 za0 zh) fun zt2 =>
  gb (arI 0 zt2 (3 + (2 * za1)) zh) fun zt3 =>
  f_X12_floorOf_18 N zt3 zh)
  else (
  f_X12_floorOf_18 N 0 zh)
def f_X12_guestOf (N : Nat) (za0 : Nat) (za1 : Int32) (za2 : Int32) (zh : PH) : Option (Int32 × PH) :=
  gb (gfR 12 10 za0 zh) fun zt1 =>
  gb (arI 0 zt1 ((23 + (3 * za1)) + za2) zh) fun zt2 =>
  some (zt2, zh)
def f_X12_isRoom_17 (N : Nat) (zs0 : Int32) (zh : PH) : Option (Int32 × PH) :=
  gg (gzb zs0) (some (zs0, zh))
def f_X12_isRoom_16 (N : Nat) (zh : PH) : Option (Int32 × PH) :=
  f_X12_isRoom_17 N 0 zh
def f_X12_isRoom (N : Nat) (za0 : Nat) (za1 : Int32) (zh : PH) : Option (Int32 × PH) :=
  if (za1 : Int32) < 0 then (
  f_X12_isRoom_16 N  zh)
  else (
  gg (gIs 12 za0 zh) <|
  gc (f_X12_rooms N za0 zh) fun zt3 zh2 =>
  if (zt3 : Int32) ≤ za1 then (
  f_X12_isRoom_16 N  zh2)
  else (
  f_X12_isRoom_17 N 1 zh2))
def f_X12_isGuest_17 (N : Nat) (zs0 : Int32) (zh : PH) : Option (Int32 × PH) :=
  gg (gzb zs0) (some (zs0, zh))
def f_X12_isGuest_16 (N : Nat) (zh : PH) : Option (Int32 × PH) :=
  f_X12_isGuest_17 N 0 zh
def f_X12_isGuest (N : Nat) (za0 : Nat) (za1 : Int32) (zh : PH) : Option (Int32 × PH) :=
  if (za1 : Int32) < 0 then (
  f_X12_isGuest_16 N  zh)
  else (
  gg (gIs 12 za0 zh) <|
  gc (f_X12_guests N za0 zh) fun zt3 zh2 =>
  if (zt3 : Int32) ≤ za1 then (
  f_X12_isGuest_16 N  zh2)
  else (
  f_X12_isGuest_17 N 1 zh2))
def f_X12_isRule_17 (N : Nat) (zs0 : Int32) (zh : PH) : Option (Int32 × PH) :=
  gg (gzb zs0) (some (zs0, zh))
def f_X12_isRule_16 (N : Nat) (zh : PH) : Option (Int32 × PH) :=
  f_X12_isRule_17 N 0 zh
def f_X12_isRule (N : Nat) (za0 : Nat) (za1 : Int32) (zh : PH) : Option (Int32 × PH) :=
  if (za1 : Int32) < 0 then (
  f_X12_isRule_16 N  zh)
  else (
  gg (gIs 12 za0 zh) <|
  gc (f_X12_rules N za0 zh) fun zt3 zh2 =>
  if (zt3 : Int32) ≤ za1 then (
  f_X12_isRule_16 N  zh2)
  else (
  f_X12_isRule_17 N 1 zh2))
def f_X12_floors_22 (N : Nat) (zs0 : Int32) (zh : PH) : Option (Int32 × PH) :=
  some (zs0, zh)
def f_X12_floors (N : Nat) (za0 : Nat) (za1 : Int32) (za2 : Int32) (zh : PH) : Option (Int32 × PH) :=
  gg (gIs 12 za0 zh) <|
  gc (f_X12_floorOf N za0 za1 zh) fun zt2 zh1 =>
  gg (gIs 12 za0 zh1) <|
  gc (f_X12_floorOf N za0 za2 zh1) fun zt4 zh3 =>
  gl ((zt2 - zt4)) fun (zx5 : Int32) =>
  if (0 : Int32) ≤ zx5 then (
  f_X12_floors_22 N zx5 zh3)
  else (
  f_X12_floors_22 N (-zx5) zh3)
def f_X12_events (N : Nat) (za0 : Nat) (zh : PH) : Option (Int32 × PH) :=
  gb (gfR 12 17 za0 zh) fun zt1 =>
  gb (arI 0 zt1 1 zh) fun zt2 =>
  some (zt2, zh)
def f_X12_eventOf (N : Nat) (za0 : Nat) (za1 : Int32) (za2 : Int32) (zh : PH) : Option (Int32 × PH) :=
  gb (gfR 12 17 za0 zh) fun zt1 =>
  gb (arI 0 zt1 ((2 + (4 * za1)) + za2) zh) fun zt2 =>
  some (zt2, zh)
def f_X12_begins_2 (N : Nat) (zk2 : (Nat × Int32 × PH) → Option PH) (zv0 : Nat) (zv1 : Int32) (zh : PH) : Option PH :=
  if (10 : Int32) ≤ zv1 then (
  gb (pfV 12 23 zv0 (.int 0) zh) fun zh2 =>
  gb (pfV 12 24 zv0 (.int 0) zh2) fun zh3 =>
  gb (pfV 12 25 zv0 (.int 0) zh3) fun zh4 =>
  gb (pfV 12 26 zv0 (.int 0) zh4) fun zh5 =>
  gb (pfV 12 27 zv0 (.int 0) zh5) fun zh6 =>
  gb (pfV 12 28 zv0 (.int 0) zh6) fun zh7 =>
  some zh7)
  else (
  gb (gfR 12 19 zv0 zh) fun zt8 =>
  gb (asI 0 zt8 zv1 (-1) zh) fun zh9 =>
  gb (gfR 12 20 zv0 zh9) fun zt10 =>
  gb (asI 0 zt10 zv1 0 zh9) fun zh11 =>
  gb (gfR 12 21 zv0 zh11) fun zt12 =>
  gb (asI 0 zt12 zv1 0 zh11) fun zh13 =>
  gb (gfR 12 22 zv0 zh13) fun zt14 =>
  gb (asI 3 zt14 zv1 0 zh13) fun zh15 =>
  gl (zv1 + 1) fun (zx16 : Int32) =>
  zk2 (zv0, zx16, zh15))
def f_X12_begins (N : Nat) (za0 : Nat) (zh : PH) : Option PH :=
  gi (fun zk zs => f_X12_begins_2 N zk zs.1 zs.2.1 zs.2.2) N (za0, 0, zh)
def f_X12_goes_258 (N : Nat) (zh : PH) : Option PH :=
  some zh
def f_X12_goes_247 (N : Nat) (zv0 : Nat) (zv1 : Int32) (zv3 : Int32) (zh : PH) : Option PH :=
  if (zv3 : Int32) < 0 then (
  f_X12_goes_258 N  zh)
  else (
  gb (gfR 12 19 zv0 zh) fun zt2 =>
  gb (asI 0 zt2 zv3 zv1 zh) fun zh3 =>
  f_X12_goes_258 N  zh3)
def f_X12_goes_236 (N : Nat) (zv0 : Nat) (zv1 : Int32) (zv2 : Int32) (zv3 : Int32) (zh : PH) : Option PH :=
  if (zv2 : Int32) < 0 then (
  f_X12_goes_247 N zv0 zv1 zv3 zh)
  else (
  gb (gfR 12 19 zv0 zh) fun zt2 =>
  gb (asI 0 zt2 zv2 (-1) zh) fun zh3 =>
  f_X12_goes_247 N zv0 zv1 zv3 zh3)
def f_X12_goes_58 (N : Nat) (zv0 : Nat) (zv1 : Int32) (zv2 : Int32) (zv3 : Int32) (zv4 : Int32) (zs0 : Int32) (zh : PH) : Option PH :=
  gg (gIs 12 zv0 zh) <|
  gc (f_X12_floors N zv0 zv2 zv3 zh) fun zt2 zh1 =>
  gl ((zs0 + (10 * zt2))) fun (zx3 : Int32) =>
  gb (gfI 12 28 zv0 zh1) fun zt4 =>
  gl ((5 * zt4)) fun (zx5 : Int32) =>
  gb (gfR 12 29 zv0 zh1) fun zt6 =>
  gb (asI 0 zt6 zx5 zv1 zh1) fun zh7 =>
  gb (gfR 12 29 zv0 zh7) fun zt8 =>
  gb (asI 0 zt8 (zx5 + 1) zv2 zh7) fun zh9 =>
  gb (gfR 12 29 zv0 zh9) fun zt10 =>
  gb (asI 0 zt10 (zx5 + 2) zv3 zh9) fun zh11 =>
  gb (gfR 12 29 zv0 zh11) fun zt12 =>
  gb (gfI 12 27 zv0 zh11) fun zt13 =>
  gb (asI 0 zt12 (zx5 + 3) zt13 zh11) fun zh14 =>
  gb (gfR 12 29 zv0 zh14) fun zt15 =>
  gb (gfI 12 27 zv0 zh14) fun zt16 =>
  gb (asI 0 zt15 (zx5 + 4) (zt16 + zv4) zh14) fun zh17 =>
  gb (gfI 12 28 zv0 zh17) fun zt18 =>
  gb (pfV 12 28 zv0 (.int (zt18 + 1)) zh17) fun zh19 =>
  gb (gfI 12 27 zv0 zh19) fun zt20 =>
  gb (pfV 12 27 zv0 (.int (zt20 + zv4)) zh19) fun zh21 =>
  gb (gfI 12 26 zv0 zh21) fun zt22 =>
  gb (pfV 12 26 zv0 (.int (zt22 + zv4)) zh21) fun zh23 =>
  gb (gfI 12 23 zv0 zh23) fun zt24 =>
  gb (pfV 12 23 zv0 (.int (zt24 + zx3)) zh23) fun zh25 =>
  gb (gfR 12 21 zv0 zh25) fun zt26 =>
  gb (arI 0 zt26 zv1 zh25) fun zt27 =>
  gb (asI 0 zt26 zv1 (zt27 + zx3) zh25) fun zh28 =>
  if (zv2 : Int32) < 0 then (
  f_X12_goes_236 N zv0 zv1 zv2 zv3 zh28)
  else (
  if (zv3 : Int32) < 0 then (
  f_X12_goes_236 N zv0 zv1 zv2 zv3 zh28)
  else (
  gb (gfI 12 25 zv0 zh28) fun zt31 =>
  gb (pfV 12 25 zv0 (.int (zt31 + 1)) zh28) fun zh32 =>
  gb (gfR 12 20 zv0 zh32) fun zt33 =>
  gb (arI 0 zt33 zv1 zh32) fun zt34 =>
  gb (asI 0 zt33 zv1 (zt34 + 1) zh32) fun zh35 =>
  gb (gfI 12 24 zv0 zh35) fun zt36 =>
  gg (gIs 12 zv0 zh35) <|
  gc (f_X12_guestOf N zv0 zv1 1 zh35) fun zt38 zh37 =>
  gb (pfV 12 24 zv0 (.int (zt36 + zt38)) zh37) fun zh39 =>
  f_X12_goes_236 N zv0 zv1 zv2 zv3 zh39))
def f_X12_goes_39 (N : Nat) (zv0 : Nat) (zv1 : Int32) (zv2 : Int32) (zv3 : Int32) (zv4 : Int32) (zs0 : Int32) (zh : PH) : Option PH :=
  f_X12_goes_58 N zv0 zv1 zv2 zv3 zv4 (zs0 + 1) zh
def f_X12_goes_30 (N : Nat) (zv0 : Nat) (zv1 : Int32) (zv2 : Int32) (zv3 : Int32) (zv4 : Int32) (zh : PH) : Option PH :=
  if (0 : Int32) ≤ zv2 then (
  f_X12_goes_39 N zv0 zv1 zv2 zv3 zv4 zv2 zh)
  else (
  f_X12_goes_39 N zv0 zv1 zv2 zv3 zv4 zv3 zh)
def f_X12_goes (N : Nat) (za0 : Nat) (za1 : Int32) (za2 : Int32) (za3 : Int32) (zh : PH) : Option PH :=
  gg (gIs 12 za0 zh) <|
  gc (f_X12_floors N za0 za2 za3 zh) fun zt2 zh1 =>
  gg (gIs 12 za0 zh1) <|
  gc (f_X12_guestOf N za0 za1 0 zh1) fun zt4 zh3 =>
  gl (((1 + (2 * zt2)) + (zt4 / 10))) fun (zx5 : Int32) =>
  if (za2 : Int32) < 0 then (
  f_X12_goes_30 N za0 za1 za2 za3 zx5 zh3)
  else (
  if (0 : Int32) ≤ za3 then (
  if (za3 : Int32) ≤ za2 then (
  f_X12_goes_58 N za0 za1 za2 za3 zx5 (za2 - za3) zh3)
  else (
  f_X12_goes_58 N za0 za1 za2 za3 zx5 (za3 - za2) zh3))
  else (
  f_X12_goes_30 N za0 za1 za2 za3 zx5 zh3))
def f_X12_firstEmpty_25 (N : Nat) (zv1 : Int32) (zh : PH) : Option (Int32 × PH) :=
  some (zv1, zh)
def f_X12_firstEmpty_2 (N : Nat) (zk2 : (Nat × Int32 × PH) → Option (Int32 × PH)) (zv0 : Nat) (zv1 : Int32) (zh : PH) : Option (Int32 × PH) :=
  gg (gIs 12 zv0 zh) <|
  gc (f_X12_rooms N zv0 zh) fun zt2 zh1 =>
  if (zt2 : Int32) ≤ zv1 then (
  f_X12_firstEmpty_25 N zv1 zh1)
  else (
  gb (gfR 12 19 zv0 zh1) fun zt4 =>
  gb (arI 0 zt4 zv1 zh1) fun zt5 =>
  if (zt5 : Int32) < 0 then (
  f_X12_firstEmpty_25 N zv1 zh1)
  else (
  gl (zv1 + 1) fun (zx7 : Int32) =>
  zk2 (zv0, zx7, zh1)))
def f_X12_firstEmpty (N : Nat) (za0 : Nat) (zh : PH) : Option (Int32 × PH) :=
  gi (fun zk zs => f_X12_firstEmpty_2 N zk zs.1 zs.2.1 zs.2.2) N (za0, 0, zh)
def f_X12_comes_12 (N : Nat) (zk12 : (Nat × Int32 × Int32 × PH) → Option PH) (zv0 : Nat) (zv1 : Int32) (zv2 : Int32) (zh : PH) : Option PH :=
  if (zv2 : Int32) ≤ 0 then (
  gg (gIs 12 zv0 zh) <|
  gb (f_X12_goes N zv0 zv1 (-1) 0 zh) fun zh2 =>
  some zh2)
  else (
  gb (gfR 12 19 zv0 zh) fun zt3 =>
  gb (arI 0 zt3 (zv2 - 1) zh) fun zt4 =>
  gg (gIs 12 zv0 zh) <|
  gb (f_X12_goes N zv0 zt4 (zv2 - 1) zv2 zh) fun zh5 =>
  gl (zv2 + (-1)) fun (zx6 : Int32) =>
  zk12 (zv0, zv1, zx6, zh5))
def f_X12_comes (N : Nat) (za0 : Nat) (za1 : Int32) (zh : PH) : Option PH :=
  gb (gfR 12 22 za0 zh) fun zt1 =>
  gb (asI 3 zt1 za1 1 zh) fun zh2 =>
  gg (gIs 12 za0 zh2) <|
  gc (f_X12_firstEmpty N za0 zh2) fun zt4 zh3 =>
  gi (fun zk zs => f_X12_comes_12 N zk zs.1 zs.2.1 zs.2.2.1 zs.2.2.2) N (za0, za1, zt4, zh3)
def f_X12_roomOf_2 (N : Nat) (zk2 : (Nat × Int32 × Int32 × PH) → Option (Int32 × PH)) (zv0 : Nat) (zv1 : Int32) (zv2 : Int32) (zh : PH) : Option (Int32 × PH) :=
  gg (gIs 12 zv0 zh) <|
  gc (f_X12_rooms N zv0 zh) fun zt2 zh1 =>
  if (zt2 : Int32) ≤ zv2 then (
  some ((-1), zh1))
  else (
  gb (gfR 12 19 zv0 zh1) fun zt4 =>
  gb (arI 0 zt4 zv2 zh1) fun zt5 =>
  if (zt5 : Int32) = zv1 then (
  some (zv2, zh1))
  else (
  gl (zv2 + 1) fun (zx7 : Int32) =>
  zk2 (zv0, zv1, zx7, zh1)))
def f_X12_roomOf (N : Nat) (za0 : Nat) (za1 : Int32) (zh : PH) : Option (Int32 × PH) :=
  gi (fun zk zs => f_X12_roomOf_2 N zk zs.1 zs.2.1 zs.2.2.1 zs.2.2.2) N (za0, za1, 0, zh)
def f_X12_givesFor (N : Nat) (za0 : Nat) (za1 : Int32) (za2 : Int32) (za3 : Int32) (za4 : Int32) (zh : PH) : Option (Int32 × PH) :=
  gb (gfR 12 15 za0 zh) fun zt1 =>
  gg (gIs 12 za0 zh) <|
  gc (f_X12_guestOf N za0 za2 0 zh) fun zt3 zh2 =>
  gb (asI 0 zt1 0 zt3 zh2) fun zh4 =>
  gb (gfR 12 15 za0 zh4) fun zt5 =>
  gg (gIs 12 za0 zh4) <|
  gc (f_X12_guestOf N za0 za2 1 zh4) fun zt7 zh6 =>
  gb (asI 0 zt5 1 zt7 zh6) fun zh8 =>
  gb (gfR 12 15 za0 zh8) fun zt9 =>
  gg (gIs 12 za0 zh8) <|
  gc (f_X12_guestOf N za0 za2 2 zh8) fun zt11 zh10 =>
  gb (asI 0 zt9 2 zt11 zh10) fun zh12 =>
  gb (gfR 12 15 za0 zh12) fun zt13 =>
  gb (asI 0 zt13 3 za3 zh12) fun zh14 =>
  gb (gfR 12 15 za0 zh14) fun zt15 =>
  gb (asI 0 zt15 4 za4 zh14) fun zh16 =>
  gb (gfR 12 15 za0 zh16) fun zt17 =>
  gg (gIs 12 za0 zh16) <|
  gc (f_X12_floors N za0 za3 za4 zh16) fun zt19 zh18 =>
  gb (asI 0 zt17 5 zt19 zh18) fun zh20 =>
  gb (gfR 12 15 za0 zh20) fun zt21 =>
  gb (gfR 12 10 za0 zh20) fun zt22 =>
  gb (arI 0 zt22 ((3 + (2 * za4)) + 1) zh20) fun zt23 =>
  gb (asI 0 zt21 6 zt23 zh20) fun zh24 =>
  gb (gfR 12 15 za0 zh24) fun zt25 =>
  gb (gfR 12 20 za0 zh24) fun zt26 =>
  gb (arI 0 zt26 za2 zh24) fun zt27 =>
  gb (asI 0 zt25 7 zt27 zh24) fun zh28 =>
  gb (gfR 12 10 za0 zh28) fun zt29 =>
  gb (arI 0 zt29 (53 + za1) zh28) fun zt30 =>
  gg (gIs 12 za0 zh28) <|
  gc (f_X12_worthAt N za0 zt30 zh28) fun zt32 zh31 =>
  some (zt32, zh31)
def f_X12_leaves_135 (N : Nat) (zh : PH) : Option PH :=
  some zh
def f_X12_leaves_129 (N : Nat) (zk13 : (Nat × Int32 × Int32 × PH) → Option PH) (zv0 : Nat) (zv2 : Int32) (zv4 : Int32) (zh : PH) : Option PH :=
  zk13 (zv0, zv2, zv4, zh)
def f_X12_leaves_102 (N : Nat) (zk13 : (Nat × Int32 × Int32 × PH) → Option PH) (zk32 : (Nat × Int32 × Int32 × Int32 × Int32 × Int32 × PH) → Option PH) (zv0 : Nat) (zv2 : Int32) (zv3 : Int32) (zv4 : Int32) (zv6 : Int32) (zs0 : Int32) (zh : PH) : Option PH :=
  gl (zv6 + 1) fun (zx1 : Int32) =>
  zk32 (zv0, zv2, zv3, zv4, zs0, zx1, zh)
def f_X12_leaves_86 (N : Nat) (zk13 : (Nat × Int32 × Int32 × PH) → Option PH) (zk32 : (Nat × Int32 × Int32 × Int32 × Int32 × Int32 × PH) → Option PH) (zv0 : Nat) (zv2 : Int32) (zv3 : Int32) (zv5 : Int32) (zv6 : Int32) (zv7 : Int32) (zs0 : Int32) (zh : PH) : Option PH :=
  if (zv7 : Int32) ≤ zv5 then (
  f_X12_leaves_102 N zk13 zk32 zv0 zv2 zv3 zs0 zv6 zv5 zh)
  else (
  f_X12_leaves_102 N zk13 zk32 zv0 zv2 zv3 zs0 zv6 zv7 zh)
def f_X12_leaves_70 (N : Nat) (zk13 : (Nat × Int32 × Int32 × PH) → Option PH) (zk32 : (Nat × Int32 × Int32 × Int32 × Int32 × Int32 × PH) → Option PH) (zv0 : Nat) (zv2 : Int32) (zv3 : Int32) (zv4 : Int32) (zv5 : Int32) (zv6 : Int32) (zs0 : Int32) (zh : PH) : Option PH :=
  if (zs0 : Int32) ≤ zv5 then (
  f_X12_leaves_86 N zk13 zk32 zv0 zv2 zv3 zv5 zv6 zs0 zv4 zh)
  else (
  f_X12_leaves_86 N zk13 zk32 zv0 zv2 zv3 zv5 zv6 zs0 zv6 zh)
def f_X12_leaves_32 (N : Nat) (zk13 : (Nat × Int32 × Int32 × PH) → Option PH) (zk32 : (Nat × Int32 × Int32 × Int32 × Int32 × Int32 × PH) → Option PH) (zv0 : Nat) (zv2 : Int32) (zv3 : Int32) (zv4 : Int32) (zv5 : Int32) (zv6 : Int32) (zh : PH) : Option PH :=
  gg (gIs 12 zv0 zh) <|
  gc (f_X12_rooms N zv0 zh) fun zt2 zh1 =>
  if (zt2 : Int32) ≤ zv6 then (
  if (zv4 : Int32) < 0 then (
  f_X12_leaves_129 N zk13 zv0 zv2 zv4 zh1)
  else (
  gb (gfR 12 19 zv0 zh1) fun zt5 =>
  gb (arI 0 zt5 zv4 zh1) fun zt6 =>
  gg (gIs 12 zv0 zh1) <|
  gb (f_X12_goes N zv0 zt6 zv4 zv3 zh1) fun zh7 =>
  f_X12_leaves_129 N zk13 zv0 zv2 zv4 zh7))
  else (
  gb (gfR 12 19 zv0 zh1) fun zt8 =>
  gb (arI 0 zt8 zv6 zh1) fun zt9 =>
  if (0 : Int32) ≤ zt9 then (
  gb (gfR 12 19 zv0 zh1) fun zt11 =>
  gb (arI 0 zt11 zv6 zh1) fun zt12 =>
  gg (gIs 12 zv0 zh1) <|
  gc (f_X12_givesFor N zv0 zv2 zt12 zv6 zv3 zh1) fun zt14 zh13 =>
  f_X12_leaves_70 N zk13 zk32 zv0 zv2 zv3 zv4 zv5 zv6 zt14 zh13)
  else (
  f_X12_leaves_70 N zk13 zk32 zv0 zv2 zv3 zv4 zv5 zv6 0 zh1))
def f_X12_leaves_13 (N : Nat) (zk13 : (Nat × Int32 × Int32 × PH) → Option PH) (zv0 : Nat) (zv2 : Int32) (zv3 : Int32) (zh : PH) : Option PH :=
  if (zv3 : Int32) < 0 then (
  f_X12_leaves_135 N  zh)
  else (
  if (zv2 : Int32) < 0 then (
  f_X12_leaves_135 N  zh)
  else (
  gl ((zv3 + 1)) fun (zx3 : Int32) =>
  gi (fun zk zs => f_X12_leaves_32 N zk13 zk zs.1 zs.2.1 zs.2.2.1 zs.2.2.2.1 zs.2.2.2.2.1 zs.2.2.2.2.2.1 zs.2.2.2.2.2.2) N (zv0, zv2, zv3, (-1), 0, zx3, zh)))
def f_X12_leaves (N : Nat) (za0 : Nat) (za1 : Int32) (za2 : Int32) (zh : PH) : Option PH :=
  gg (gIs 12 za0 zh) <|
  gc (f_X12_roomOf N za0 za1 zh) fun zt2 zh1 =>
  gg (gIs 12 za0 zh1) <|
  gb (f_X12_goes N za0 za1 zt2 (-1) zh1) fun zh3 =>
  gi (fun zk zs => f_X12_leaves_13 N zk zs.1 zs.2.1 zs.2.2.1 zs.2.2.2) N (za0, za2, zt2, zh3)
def f_X12_goesThrough_90 (N : Nat) (zk6 : (Nat × Int32 × Int32 × Int32 × PH) → Option PH) (zv0 : Nat) (zv1 : Int32) (zv2 : Int32) (zv3 : Int32) (zh : PH) : Option PH :=
  gl (zv3 + 1) fun (zx1 : Int32) =>
  zk6 (zv0, zv1, zv2, zx1, zh)
def f_X12_goesThrough_87 (N : Nat) (zk6 : (Nat × Int32 × Int32 × Int32 × PH) → Option PH) (zv0 : Nat) (zv1 : Int32) (zv2 : Int32) (zv3 : Int32) (zs0 : Int32) (zs1 : Int32) (zs2 : Nat) (zh : PH) : Option PH :=
  gg (gIs 12 zs2 zh) <|
  gb (f_X12_leaves N zs2 zs1 zs0 zh) fun zh1 =>
  f_X12_goesThrough_90 N zk6 zv0 zv1 zv2 zv3 zh1
def f_X12_goesThrough_41 (N : Nat) (zk6 : (Nat × Int32 × Int32 × Int32 × PH) → Option PH) (zv0 : Nat) (zv1 : Int32) (zv2 : Int32) (zv3 : Int32) (zs0 : Int32) (zs1 : Nat) (zh : PH) : Option PH :=
  gb (pfV 12 27 zs1 (.int zs0) zh) fun zh1 =>
  gg (gIs 12 zv0 zh1) <|
  gc (f_X12_eventOf N zv0 zv3 1 zh1) fun zt3 zh2 =>
  if (zt3 : Int32) = 0 then (
  gg (gIs 12 zv0 zh2) <|
  gc (f_X12_eventOf N zv0 zv3 0 zh2) fun zt11 zh10 =>
  gg (gIs 12 zv0 zh10) <|
  gb (f_X12_comes N zv0 zt11 zh10) fun zh12 =>
  f_X12_goesThrough_90 N zk6 zv0 zv1 zv2 zv3 zh12)
  else (
  gg (gIs 12 zv0 zh2) <|
  gc (f_X12_eventOf N zv0 zv3 0 zh2) fun zt6 zh5 =>
  if (zv1 : Int32) = 0 then (
  gg (gIs 12 zv0 zh5) <|
  gc (f_X12_eventOf N zv0 zv3 3 zh5) fun zt9 zh8 =>
  f_X12_goesThrough_87 N zk6 zv0 zv1 zv2 zv3 zt9 zt6 zv0 zh8)
  else (
  f_X12_goesThrough_87 N zk6 zv0 zv1 zv2 zv3 zv2 zt6 zv0 zh5))
def f_X12_goesThrough_6 (N : Nat) (zk6 : (Nat × Int32 × Int32 × Int32 × PH) → Option PH) (zv0 : Nat) (zv1 : Int32) (zv2 : Int32) (zv3 : Int32) (zh : PH) : Option PH :=
  gg (gIs 12 zv0 zh) <|
  gc (f_X12_events N zv0 zh) fun zt2 zh1 =>
  if (zt2 : Int32) ≤ zv3 then (
  some zh1)
  else (
  gb (gfI 12 27 zv0 zh1) fun zt4 =>
  gg (gIs 12 zv0 zh1) <|
  gc (f_X12_eventOf N zv0 zv3 2 zh1) fun zt6 zh5 =>
  if (zt6 : Int32) ≤ zt4 then (
  gb (gfI 12 27 zv0 zh5) fun zt8 =>
  f_X12_goesThrough_41 N zk6 zv0 zv1 zv2 zv3 zt8 zv0 zh5)
  else (
  gg (gIs 12 zv0 zh5) <|
  gc (f_X12_eventOf N zv0 zv3 2 zh5) fun zt10 zh9 =>
  f_X12_goesThrough_41 N zk6 zv0 zv1 zv2 zv3 zt10 zv0 zh9))
def f_X12_goesThrough (N : Nat) (za0 : Nat) (za1 : Int32) (za2 : Int32) (zh : PH) : Option PH :=
  gg (gIs 12 za0 zh) <|
  gb (f_X12_begins N za0 zh) fun zh1 =>
  gi (fun zk zs => f_X12_goesThrough_6 N zk zs.1 zs.2.1 zs.2.2.1 zs.2.2.2.1 zs.2.2.2.2) N (za0, za1, za2, 0, zh1)
def f_X12_find_18 (N : Nat) (zh : PH) : Option PH :=
  some zh
def f_X12_find (N : Nat) (za0 : Nat) (zh : PH) : Option PH :=
  gb (gfI 12 18 za0 zh) fun zt1 =>
  if (zt1 : Int32) = 0 then (
  f_X12_find_18 N  zh)
  else (
  gb (pfV 12 18 za0 (.int 0) zh) fun zh3 =>
  gg (gIs 12 za0 zh3) <|
  gb (f_X12_goesThrough N za0 0 (-1) zh3) fun zh4 =>
  f_X12_find_18 N  zh4)
def f_X12_roomNow (N : Nat) (za0 : Nat) (za1 : Int32) (zh : PH) : Option (Int32 × PH) :=
  gg (gIs 12 za0 zh) <|
  gb (f_X12_find N za0 zh) fun zh1 =>
  gg (gIs 12 za0 zh1) <|
  gc (f_X12_roomOf N za0 za1 zh1) fun zt3 zh2 =>
  some (zt3, zh2)
def f_X12_isTold (N : Nat) (za0 : Int32) (zh : PH) : Option (Int32 × PH) :=
  gc (f_X12_within N za0 0 99999 zh) fun zt2 zh1 =>
  gg (gzb zt2) (some (zt2, zh1))
def f_X12_isMinute (N : Nat) (za0 : Int32) (zh : PH) : Option (Int32 × PH) :=
  gc (f_X12_within N za0 0 999999 zh) fun zt2 zh1 =>
  gg (gzb zt2) (some (zt2, zh1))
def f_X12_insideMany_31 (N : Nat) (zk8 : (Nat × Int32 × Int32 × PH) → Option (Int32 × PH)) (zv0 : Nat) (zv2 : Int32) (zs0 : Int32) (zs1 : Int32) (zh : PH) : Option (Int32 × PH) :=
  gl ((zs1 + zs0)) fun (zx1 : Int32) =>
  gl (zv2 + 1) fun (zx2 : Int32) =>
  zk8 (zv0, zx1, zx2, zh)
def f_X12_insideMany_8 (N : Nat) (zk8 : (Nat × Int32 × Int32 × PH) → Option (Int32 × PH)) (zv0 : Nat) (zv1 : Int32) (zv2 : Int32) (zh : PH) : Option (Int32 × PH) :=
  gg (gIs 12 zv0 zh) <|
  gc (f_X12_rooms N zv0 zh) fun zt2 zh1 =>
  if (zt2 : Int32) ≤ zv2 then (
  some (zv1, zh1))
  else (
  gb (gfR 12 19 zv0 zh1) fun zt4 =>
  gb (arI 0 zt4 zv2 zh1) fun zt5 =>
  if (zt5 : Int32) < 0 then (
  f_X12_insideMany_31 N zk8 zv0 zv2 0 zv1 zh1)
  else (
  f_X12_insideMany_31 N zk8 zv0 zv2 1 zv1 zh1))
def f_X12_insideMany (N : Nat) (za0 : Nat) (zh : PH) : Option (Int32 × PH) :=
  gg (gIs 12 za0 zh) <|
  gb (f_X12_find N za0 zh) fun zh1 =>
  gi (fun zk zs => f_X12_insideMany_8 N zk zs.1 zs.2.1 zs.2.2.1 zs.2.2.2) N (za0, 0, 0, zh1)
def f_X12_room_54 (N : Nat) (zs0 : Int32) (zh : PH) : Option (Int32 × PH) :=
  some (zs0, zh)
def f_X12_room_22 (N : Nat) (zh : PH) : Option (Int32 × PH) :=
  some ((-1), zh)
def f_X12_room (N : Nat) (za0 : Nat) (za1 : Int32) (za2 : Int32) (zh : PH) : Option (Int32 × PH) :=
  gb (pfV 12 0 za0 (.int 0) zh) fun zh1 =>
  gg (gIs 12 za0 zh1) <|
  gc (f_X12_isRoom N za0 za1 zh1) fun zt3 zh2 =>
  if (zt3 : Int32) = 0 then (
  f_X12_room_22 N  zh2)
  else (
  gc (f_X12_within N za2 0 2 zh2) fun zt6 zh5 =>
  if (zt6 : Int32) = 0 then (
  f_X12_room_22 N  zh5)
  else (
  gg (gIs 12 za0 zh5) <|
  gb (f_X12_find N za0 zh5) fun zh8 =>
  if (2 : Int32) ≤ za2 then (
  gb (gfR 12 19 za0 zh8) fun zt10 =>
  gb (arI 0 zt10 za1 zh8) fun zt11 =>
  f_X12_room_54 N zt11 zh8)
  else (
  gb (gfR 12 10 za0 zh8) fun zt12 =>
  gb (arI 0 zt12 ((3 + (2 * za1)) + za2) zh8) fun zt13 =>
  f_X12_room_54 N zt13 zh8)))
def f_X12_guest_73 (N : Nat) (zs0 : Int32) (zh : PH) : Option (Int32 × PH) :=
  some (zs0, zh)
def f_X12_guest_22 (N : Nat) (zh : PH) : Option (Int32 × PH) :=
  some ((-1), zh)
def f_X12_guest (N : Nat) (za0 : Nat) (za1 : Int32) (za2 : Int32) (zh : PH) : Option (Int32 × PH) :=
  gb (pfV 12 0 za0 (.int 0) zh) fun zh1 =>
  gg (gIs 12 za0 zh1) <|
  gc (f_X12_isGuest N za0 za1 zh1) fun zt3 zh2 =>
  if (zt3 : Int32) = 0 then (
  f_X12_guest_22 N  zh2)
  else (
  gc (f_X12_within N za2 0 5 zh2) fun zt6 zh5 =>
  if (zt6 : Int32) = 0 then (
  f_X12_guest_22 N  zh5)
  else (
  gg (gIs 12 za0 zh5) <|
  gc (f_X12_roomNow N za0 za1 zh5) fun zt9 zh8 =>
  if (3 : Int32) ≤ za2 then (
  if (za2 : Int32) = 3 then (
  f_X12_guest_73 N zt9 zh8)
  else (
  if (za2 : Int32) = 4 then (
  gb (gfR 12 20 za0 zh8) fun zt15 =>
  gb (arI 0 zt15 za1 zh8) fun zt16 =>
  f_X12_guest_73 N zt16 zh8)
  else (
  gb (gfR 12 21 za0 zh8) fun zt13 =>
  gb (arI 0 zt13 za1 zh8) fun zt14 =>
  f_X12_guest_73 N zt14 zh8)))
  else (
  gg (gIs 12 za0 zh8) <|
  gc (f_X12_guestOf N za0 za1 za2 zh8) fun zt18 zh17 =>
  f_X12_guest_73 N zt18 zh17)))
def f_X12_use_20 (N : Nat) (zv0 : Nat) (zv1 : Int32) (zh : PH) : Option (Int32 × PH) :=
  gb (gfR 12 17 zv0 zh) fun zt1 =>
  gb (asI 0 zt1 0 zv1 zh) fun zh2 =>
  gg (gzb 1) (some (1, zh2))
def f_X12_use (N : Nat) (za0 : Nat) (za1 : Int32) (zh : PH) : Option (Int32 × PH) :=
  gb (pfV 12 0 za0 (.int 0) zh) fun zh1 =>
  if (za1 : Int32) = (-1) then (
  f_X12_use_20 N za0 za1 zh1)
  else (
  gg (gIs 12 za0 zh1) <|
  gc (f_X12_isRule N za0 za1 zh1) fun zt4 zh3 =>
  if (zt4 : Int32) = 0 then (
  gg (gzb 0) (some (0, zh3)))
  else (
  f_X12_use_20 N za0 za1 zh3))
abbrev rm_X12_rooms : Room := { frames := 0, cells := 0, slots := 0, locals := 0 }
set_option maxHeartbeats 4000000 in
set_option maxRecDepth 100000 in
theorem c_X12_rooms (l : Launch) (E : gE) (N : Nat) (za0 : Nat) (zh : PH) {h9 : PH} {r9 : Int32} (hf : f_X12_rooms N za0 zh = some (r9, h9)) : Met l yX12_rooms (gWS yX12_rooms cX12_rooms 1 (some .int)) rm_X12_rooms (gPc E [.ref (gB E + za0)] zh) (gQi E r9 h9) 0 0 (gA E) := by
  refine gx_met (by decide) ?_ rfl
  intro p e s m below meth c X hr hlk hin2 hw
  have hx := X.1.1
  have hb := X.1.2.1
  have hl := lv_entry [.ref (gB E + za0)] (n := 1) (Nat.le_of_ble_eq_true rfl)
  rw [lg_entry_eq]
  generalize (lg_sl [.ref (gB E + za0)] ++ List.replicate (1 - (lg_sl [.ref (gB E + za0)]).length) Slot.unset).toArray = ls at hl ⊢
  have hl : lv_has ls 1 [(0, .ref (gB E + za0))] := hl
  unfold f_X12_rooms at hf
  refine lv_aload_n hx hb dX12_rooms_0 rfl (lv_at hl 0 rfl) ?_
  obtain ⟨zt1, qzt1, hf⟩ := gb_el hf
  refine gx_getR X hw qzt1 clX12 (by decide) mf_X12_65 dX12_rooms_1 ?_
  refine lv_iconst (v := 0) hx hb dX12_rooms_4 (by decide) ?_
  obtain ⟨zt2, qzt2, hf⟩ := gb_el hf
  refine gx_iald X hw qzt2 dX12_rooms_5 ?_
  exact gx_iret X hr hlk hw hf dX12_rooms_6
abbrev rm_X12_guests : Room := { frames := 0, cells := 0, slots := 0, locals := 0 }
set_option maxHeartbeats 4000000 in
set_option maxRecDepth 100000 in
theorem c_X12_guests (l : Launch) (E : gE) (N : Nat) (za0 : Nat) (zh : PH) {h9 : PH} {r9 : Int32} (hf : f_X12_guests N za0 zh = some (r9, h9)) : Met l yX12_guests (gWS yX12_guests cX12_guests 1 (some .int)) rm_X12_guests (gPc E [.ref (gB E + za0)] zh) (gQi E r9 h9) 0 0 (gA E) := by
  refine gx_met (by decide) ?_ rfl
  intro p e s m below meth c X hr hlk hin2 hw
  have hx := X.1.1
  have hb := X.1.2.1
  have hl := lv_entry [.ref (gB E + za0)] (n := 1) (Nat.le_of_ble_eq_true rfl)
  rw [lg_entry_eq]
  generalize (lg_sl [.ref (gB E + za0)] ++ List.replicate (1 - (lg_sl [.ref (gB E + za0)]).length) Slot.unset).toArray = ls at hl ⊢
  have hl : lv_has ls 1 [(0, .ref (gB E + za0))] := hl
  unfold f_X12_guests at hf
  refine lv_aload_n hx hb dX12_guests_0 rfl (lv_at hl 0 rfl) ?_
  obtain ⟨zt1, qzt1, hf⟩ := gb_el hf
  refine gx_getR X hw qzt1 clX12 (by decide) mf_X12_65 dX12_guests_1 ?_
  refine lv_iconst (v := 1) hx hb dX12_guests_4 (by decide) ?_
  obtain ⟨zt2, qzt2, hf⟩ := gb_el hf
  refine gx_iald X hw qzt2 dX12_guests_5 ?_
  exact gx_iret X hr hlk hw hf dX12_guests_6
abbrev rm_X12_floorOf : Room := { frames := 0, cells := 0, slots := 0, locals := 0 }
set_option maxHeartbeats 4000000 in
set_option maxRecDepth 100000 in
theorem c_X12_floorOf (l : Launch) (E : gE) (N : Nat) (za0 : Nat) (za1 : Int32) (zh : PH) {h9 : PH} {r9 : Int32} (hf : f_X12_floorOf N za0 za1 zh = some (r9, h9)) : Met l yX12_floorOf (gWS yX12_floorOf cX12_floorOf 2 (some .int)) rm_X12_floorOf (gPc E [.ref (gB E + za0), .int za1] zh) (gQi E r9 h9) 0 0 (gA E) := by
  refine gx_met (by decide) ?_ rfl
  intro p e s m below meth c X hr hlk hin2 hw
  have hx := X.1.1
  have hb := X.1.2.1
  have hl := lv_entry [.ref (gB E + za0), .int za1] (n := 2) (Nat.le_of_ble_eq_true rfl)
  rw [lg_entry_eq]
  generalize (lg_sl [.ref (gB E + za0), .int za1] ++ List.replicate (2 - (lg_sl [.ref (gB E + za0), .int za1]).length) Slot.unset).toArray = ls at hl ⊢
  have hl : lv_has ls 2 [(0, .ref (gB E + za0)), (1, .int za1)] := hl
  have J_18 : ∀ (zs0 : Int32) (zh : PH) (H : Heap) (locs : List Loc) (ls : Array Slot), f_X12_floorOf_18 N zs0 zh = some (r9, h9) → gw E s zh H locs → lv_has ls 2 [] → W p l e rm_X12_floorOf s m [.ref (gB E + za0), .int za1].toArray below meth c H locs 0 0 (MQ below (gQi E r9 h9) [.ref (gB E + za0), .int za1].toArray s 0 0 (gA E)) (F0 m 18 ls [.int zs0]) := by
    intro zs0 zh H locs ls hf hw hl
    unfold f_X12_floorOf_18 at hf
    exact gx_iret X hr hlk hw hf dX12_floorOf_18
  unfold f_X12_floorOf at hf
  refine lv_iload_n hx hb dX12_floorOf_0 rfl (lv_at hl 1 rfl) ?_
  refine lv_if_ge (tgt := 8) hx hb dX12_floorOf_1 (by decide) (fun qc1 => ?_) (fun qc1 => ?_)
  · have hf := gif_t hf qc1
    refine lv_aload_n hx hb dX12_floorOf_8 rfl (lv_at hl 0 rfl) ?_
    obtain ⟨zt2, qzt2, hf⟩ := gb_el hf
    refine gx_getR X hw qzt2 clX12 (by decide) mf_X12_65 dX12_floorOf_9 ?_
    refine lv_iconst (v := 3) hx hb dX12_floorOf_12 (by decide) ?_
    refine lv_iconst (v := 2) hx hb dX12_floorOf_13 (by decide) ?_
    refine lv_iload_n hx hb dX12_floorOf_14 rfl (lv_at hl 1 rfl) ?_
    refine lv_imul hx hb dX12_floorOf_15 ?_
    refine lv_iadd hx hb dX12_floorOf_16 ?_
    refine W.eq (g2 := F0 m 17 ls [.int (3 + (2 * za1)), .ref (gB E + zt2)]) rfl ?_
    obtain ⟨zt3, qzt3, hf⟩ := gb_el hf
    refine gx_iald X hw qzt3 dX12_floorOf_17 ?_
    exact J_18 zt3 _ _ _ ls hf hw (lv_sub hl [] rfl)
  · have hf := gif_f hf qc1
    refine lv_iconst (v := 0) hx hb dX12_floorOf_4 (by decide) ?_
    refine lv_goto (tgt := 18) hx hb dX12_floorOf_5 (by decide) ?_
    exact J_18 0 _ _ _ ls hf hw (lv_sub hl [] rfl)
abbrev rm_X12_guestOf : Room := { frames := 0, cells := 0, slots := 0, locals := 0 }
set_option maxHeartbeats 4000000 in
set_option maxRecDepth 100000 in
theorem c_X12_guestOf (l : Launch) (E : gE) (N : Nat) (za0 : Nat) (za1 : Int32) (za2 : Int32) (zh : PH) {h9 : PH} {r9 : Int32} (hf : f_X12_guestOf N za0 za1 za2 zh = some (r9, h9)) : Met l yX12_guestOf (gWS yX12_guestOf cX12_guestOf 3 (some .int)) rm_X12_guestOf (gPc E [.ref (gB E + za0), .int za1, .int za2] zh) (gQi E r9 h9) 0 0 (gA E) := by
  refine gx_met (by decide) ?_ rfl
  intro p e s m below meth c X hr hlk hin2 hw
  have hx := X.1.1
  have hb := X.1.2.1
  have hl := lv_entry [.ref (gB E + za0), .int za1, .int za2] (n := 3) (Nat.le_of_ble_eq_true rfl)
  rw [lg_entry_eq]
  generalize (lg_sl [.ref (gB E + za0), .int za1, .int za2] ++ List.replicate (3 - (lg_sl [.ref (gB E + za0), .int za1, .int za2]).length) Slot.unset).toArray = ls at hl ⊢
  have hl : lv_has ls 3 [(0, .ref (gB E + za0)), (1, .int za1), (2, .int za2)] := hl
  unfold f_X12_guestOf at hf
  refine lv_aload_n hx hb dX12_guestOf_0 rfl (lv_at hl 0 rfl) ?_
  obtain ⟨zt1, qzt1, hf⟩ := gb_el hf
  refine gx_getR X hw qzt1 clX12 (by decide) mf_X12_65 dX12_guestOf_1 ?_
  refine lv_bipush (v := 23) hx hb dX12_guestOf_4 (by decide) ?_
  refine lv_iconst (v := 3) hx hb dX12_guestOf_6 (by decide) ?_
  refine lv_iload_n hx hb dX12_guestOf_7 rfl (lv_at hl 1 rfl) ?_
  refine lv_imul hx hb dX12_guestOf_8 ?_
  refine lv_iadd hx hb dX12_guestOf_9 ?_
  refine lv_iload_n hx hb dX12_guestOf_10 rfl (lv_at hl 2 rfl) ?_
  refine lv_iadd hx hb dX12_guestOf_11 ?_
  refine W.eq (g2 := F0 m 12 ls [.int ((23 + (3 * za1)) + za2), .ref (gB E + zt1)]) rfl ?_
  obtain ⟨zt2, qzt2, hf⟩ := gb_el hf
  refine gx_iald X hw qzt2 dX12_guestOf_12 ?_
  exact gx_iret X hr hlk hw hf dX12_guestOf_13
abbrev rm_X12_isRoom : Room := { frames := 1, cells := 0, slots := 0, locals := 20 }
set_option maxHeartbeats 4000000 in
set_option maxRecDepth 100000 in
theorem c_X12_isRoom (l : Launch) (E : gE) (N : Nat) (za0 : Nat) (za1 : Int32) (zh : PH) {h9 : PH} {r9 : Int32} (hf : f_X12_isRoom N za0 za1 zh = some (r9, h9)) : Met l yX12_isRoom (gWS yX12_isRoom cX12_isRoom 2 (some .boolean)) rm_X12_isRoom (gPc E [.ref (gB E + za0), .int za1] zh) (gQi E r9 h9) 0 0 (gA E) := by
  refine gx_met (by decide) ?_ rfl
  intro p e s m below meth c X hr hlk hin2 hw
  have hx := X.1.1
  have hb := X.1.2.1
  have hl := lv_entry [.ref (gB E + za0), .int za1] (n := 2) (Nat.le_of_ble_eq_true rfl)
  rw [lg_entry_eq]
  generalize (lg_sl [.ref (gB E + za0), .int za1] ++ List.replicate (2 - (lg_sl [.ref (gB E + za0), .int za1]).length) Slot.unset).toArray = ls at hl ⊢
  have hl : lv_has ls 2 [(0, .ref (gB E + za0)), (1, .int za1)] := hl
  have J_17 : ∀ (zs0 : Int32) (zh : PH) (H : Heap) (locs : List Loc) (ls : Array Slot), f_X12_isRoom_17 N zs0 zh = some (r9, h9) → gw E s zh H locs → lv_has ls 2 [] → W p l e rm_X12_isRoom s m [.ref (gB E + za0), .int za1].toArray below meth c H locs 0 0 (MQ below (gQi E r9 h9) [.ref (gB E + za0), .int za1].toArray s 0 0 (gA E)) (F0 m 17 ls [.int zs0]) := by
    intro zs0 zh H locs ls hf hw hl
    unfold f_X12_isRoom_17 at hf
    exact gx_zret X hr hlk hw hf dX12_isRoom_17
  have J_16 : ∀ (zh : PH) (H : Heap) (locs : List Loc) (ls : Array Slot), f_X12_isRoom_16 N zh = some (r9, h9) → gw E s zh H locs → lv_has ls 2 [] → W p l e rm_X12_isRoom s m [.ref (gB E + za0), .int za1].toArray below meth c H locs 0 0 (MQ below (gQi E r9 h9) [.ref (gB E + za0), .int za1].toArray s 0 0 (gA E)) (F0 m 16 ls []) := by
    intro zh H locs ls hf hw hl
    unfold f_X12_isRoom_16 at hf
    refine lv_iconst (v := 0) hx hb dX12_isRoom_16 (by decide) ?_
    exact J_17 0 _ _ _ ls hf hw (lv_sub hl [] rfl)
  unfold f_X12_isRoom at hf
  refine lv_iload_n hx hb dX12_isRoom_0 rfl (lv_at hl 1 rfl) ?_
  refine lv_if_lt (tgt := 16) hx hb dX12_isRoom_1 (by decide) (fun qc1 => ?_) (fun qc1 => ?_)
  · have hf := gif_t hf qc1
    exact J_16  _ _ _ ls hf hw (lv_sub hl [] rfl)
  · have hf := gif_f hf qc1
    refine lv_iload_n hx hb dX12_isRoom_4 rfl (lv_at hl 1 rfl) ?_
    refine lv_aload_n hx hb dX12_isRoom_5 rfl (lv_at hl 0 rfl) ?_
    obtain ⟨qizh2, hf⟩ := gg_el hf
    obtain ⟨zt3, zh2, qzh2, hf⟩ := gc_el hf
    refine gx_ki (gx_runV (As := []) (rest := [.int za1]) X hw (c_X12_rooms l E N za0 zh qzh2) kX12_rooms mm_X12_231 qizh2 clX12 ⟨Nat.le_of_ble_eq_true rfl, Nat.le_of_ble_eq_true rfl⟩ rfl rfl rfl hl.1 (Nat.le_of_ble_eq_true rfl) rfl dX12_isRoom_6 ⟨Nat.le_of_ble_eq_true rfl, Nat.le_of_ble_eq_true rfl⟩) hw (fun H locs hw => ?_)
    refine lv_icmp_ge (tgt := 16) hx hb dX12_isRoom_9 (by decide) (fun qc4 => ?_) (fun qc4 => ?_)
    · have hf := gif_t hf qc4
      exact J_16  _ _ _ ls hf hw (lv_sub hl [] rfl)
    · have hf := gif_f hf qc4
      refine lv_iconst (v := 1) hx hb dX12_isRoom_12 (by decide) ?_
      refine lv_goto (tgt := 17) hx hb dX12_isRoom_13 (by decide) ?_
      exact J_17 1 _ _ _ ls hf hw (lv_sub hl [] rfl)
abbrev rm_X12_isGuest : Room := { frames := 1, cells := 0, slots := 0, locals := 20 }
set_option maxHeartbeats 4000000 in
set_option maxRecDepth 100000 in
theorem c_X12_isGuest (l : Launch) (E : gE) (N : Nat) (za0 : Nat) (za1 : Int32) (zh : PH) {h9 : PH} {r9 : Int32} (hf : f_X12_isGuest N za0 za1 zh = some (r9, h9)) : Met l yX12_isGuest (gWS yX12_isGuest cX12_isGuest 2 (some .boolean)) rm_X12_isGuest (gPc E [.ref (gB E + za0), .int za1] zh) (gQi E r9 h9) 0 0 (gA E) := by
  refine gx_met (by decide) ?_ rfl
  intro p e s m below meth c X hr hlk hin2 hw
  have hx := X.1.1
  have hb := X.1.2.1
  have hl := lv_entry [.ref (gB E + za0), .int za1] (n := 2) (Nat.le_of_ble_eq_true rfl)
  rw [lg_entry_eq]
  generalize (lg_sl [.ref (gB E + za0), .int za1] ++ List.replicate (2 - (lg_sl [.ref (gB E + za0), .int za1]).length) Slot.unset).toArray = ls at hl ⊢
  have hl : lv_has ls 2 [(0, .ref (gB E + za0)), (1, .int za1)] := hl
  have J_17 : ∀ (zs0 : Int32) (zh : PH) (H : Heap) (locs : List Loc) (ls : Array Slot), f_X12_isGuest_17 N zs0 zh = some (r9, h9) → gw E s zh H locs → lv_has ls 2 [] → W p l e rm_X12_isGuest s m [.ref (gB E + za0), .int za1].toArray below meth c H locs 0 0 (MQ below (gQi E r9 h9) [.ref (gB E + za0), .int za1].toArray s 0 0 (gA E)) (F0 m 17 ls [.int zs0]) := by
    intro zs0 zh H locs ls hf hw hl
    unfold f_X12_isGuest_17 at hf
    exact gx_zret X hr hlk hw hf dX12_isGuest_17
  have J_16 : ∀ (zh : PH) (H : Heap) (locs : List Loc) (ls : Array Slot), f_X12_isGuest_16 N zh = some (r9, h9) → gw E s zh H locs → lv_has ls 2 [] → W p l e rm_X12_isGuest s m [.ref (gB E + za0), .int za1].toArray below meth c H locs 0 0 (MQ below (gQi E r9 h9) [.ref (gB E + za0), .int za1].toArray s 0 0 (gA E)) (F0 m 16 ls []) := by
    intro zh H locs ls hf hw hl
    unfold f_X12_isGuest_16 at hf
    refine lv_iconst (v := 0) hx hb dX12_isGuest_16 (by decide) ?_
    exact J_17 0 _ _ _ ls hf hw (lv_sub hl [] rfl)
  unfold f_X12_isGuest at hf
  refine lv_iload_n hx hb dX12_isGuest_0 rfl (lv_at hl 1 rfl) ?_
  refine lv_if_lt (tgt := 16) hx hb dX12_isGuest_1 (by decide) (fun qc1 => ?_) (fun qc1 => ?_)
  · have hf := gif_t hf qc1
    exact J_16  _ _ _ ls hf hw (lv_sub hl [] rfl)
  · have hf := gif_f hf qc1
    refine lv_iload_n hx hb dX12_isGuest_4 rfl (lv_at hl 1 rfl) ?_
    refine lv_aload_n hx hb dX12_isGuest_5 rfl (lv_at hl 0 rfl) ?_
    obtain ⟨qizh2, hf⟩ := gg_el hf
    obtain ⟨zt3, zh2, qzh2, hf⟩ := gc_el hf
    refine gx_ki (gx_runV (As := []) (rest := [.int za1]) X hw (c_X12_guests l E N za0 zh qzh2) kX12_guests mm_X12_234 qizh2 clX12 ⟨Nat.le_of_ble_eq_true rfl, Nat.le_of_ble_eq_true rfl⟩ rfl rfl rfl hl.1 (Nat.le_of_ble_eq_true rfl) rfl dX12_isGuest_6 ⟨Nat.le_of_ble_eq_true rfl, Nat.le_of_ble_eq_true rfl⟩) hw (fun H locs hw => ?_)
    refine lv_icmp_ge (tgt := 16) hx hb dX12_isGuest_9 (by decide) (fun qc4 => ?_) (fun qc4 => ?_)
    · have hf := gif_t hf qc4
      exact J_16  _ _ _ ls hf hw (lv_sub hl [] rfl)
    · have hf := gif_f hf qc4
      refine lv_iconst (v := 1) hx hb dX12_isGuest_12 (by decide) ?_
      refine lv_goto (tgt := 17) hx hb dX12_isGuest_13 (by decide) ?_
      exact J_17 1 _ _ _ ls hf hw (lv_sub hl [] rfl)
abbrev rm_X12_isRule : Room := { frames := 1, cells := 0, slots := 0, locals := 20 }
set_option maxHeartbeats 4000000 in
set_option maxRecDepth 100000 in
theorem c_X12_isRule (l : Launch) (E : gE) (N : Nat) (za0 : Nat) (za1 : Int32) (zh : PH) {h9 : PH} {r9 : Int32} (hf : f_X12_isRule N za0 za1 zh = some (r9, h9)) : Met l yX12_isRule (gWS yX12_isRule cX12_isRule 2 (some .boolean)) rm_X12_isRule (gPc E [.ref (gB E + za0), .int za1] zh) (gQi E r9 h9) 0 0 (gA E) := by
  refine gx_met (by decide) ?_ rfl
  intro p e s m below meth c X hr hlk hin2 hw
  have hx := X.1.1
  have hb := X.1.2.1
  have hl := lv_entry [.ref (gB E + za0), .int za1] (n := 2) (Nat.le_of_ble_eq_true rfl)
  rw [lg_entry_eq]
  generalize (lg_sl [.ref (gB E + za0), .int za1] ++ List.replicate (2 - (lg_sl [.ref (gB E + za0), .int za1]).length) Slot.unset).toArray = ls at hl ⊢
  have hl : lv_has ls 2 [(0, .ref (gB E + za0)), (1, .int za1)] := hl
  have J_17 : ∀ (zs0 : Int32) (zh : PH) (H : Heap) (locs : List Loc) (ls : Array Slot), f_X12_isRule_17 N zs0 zh = some (r9, h9) → gw E s zh H locs → lv_has ls 2 [] → W p l e rm_X12_isRule s m [.ref (gB E + za0), .int za1].toArray below meth c H locs 0 0 (MQ below (gQi E r9 h9) [.ref (gB E + za0), .int za1].toArray s 0 0 (gA E)) (F0 m 17 ls [.int zs0]) := by
    intro zs0 zh H locs ls hf hw hl
    unfold f_X12_isRule_17 at hf
    exact gx_zret X hr hlk hw hf dX12_isRule_17
  have J_16 : ∀ (zh : PH) (H : Heap) (locs : List Loc) (ls : Array Slot), f_X12_isRule_16 N zh = some (r9, h9) → gw E s zh H locs → lv_has ls 2 [] → W p l e rm_X12_isRule s m [.ref (gB E + za0), .int za1].toArray below meth c H locs 0 0 (MQ below (gQi E r9 h9) [.ref (gB E + za0), .int za1].toArray s 0 0 (gA E)) (F0 m 16 ls []) := by
    intro zh H locs ls hf hw hl
    unfold f_X12_isRule_16 at hf
    refine lv_iconst (v := 0) hx hb dX12_isRule_16 (by decide) ?_
    exact J_17 0 _ _ _ ls hf hw (lv_sub hl [] rfl)
  unfold f_X12_isRule at hf
  refine lv_iload_n hx hb dX12_isRule_0 rfl (lv_at hl 1 rfl) ?_
  refine lv_if_lt (tgt := 16) hx hb dX12_isRule_1 (by decide) (fun qc1 => ?_) (fun qc1 => ?_)
  · have hf := gif_t hf qc1
    exact J_16  _ _ _ ls hf hw (lv_sub hl [] rfl)
  · have hf := gif_f hf qc1
    refine lv_iload_n hx hb dX12_isRule_4 rfl (lv_at hl 1 rfl) ?_
    refine lv_aload_n hx hb dX12_isRule_5 rfl (lv_at hl 0 rfl) ?_
    obtain ⟨qizh2, hf⟩ := gg_el hf
    obtain ⟨zt3, zh2, qzh2, hf⟩ := gc_el hf
    refine gx_ki (gx_runV (As := []) (rest := [.int za1]) X hw (c_X12_rules l E N za0 zh qzh2) kX12_rules mm_X12_181 qizh2 clX12 ⟨Nat.le_of_ble_eq_true rfl, Nat.le_of_ble_eq_true rfl⟩ rfl rfl rfl hl.1 (Nat.le_of_ble_eq_true rfl) rfl dX12_isRule_6 ⟨Nat.le_of_ble_eq_true rfl, Nat.le_of_ble_eq_true rfl⟩) hw (fun H locs hw => ?_)
    refine lv_icmp_ge (tgt := 16) hx hb dX12_isRule_9 (by decide) (fun qc4 => ?_) (fun qc4 => ?_)
    · have hf := gif_t hf qc4
      exact J_16  _ _ _ ls hf hw (lv_sub hl [] rfl)
    · have hf := gif_f hf qc4
      refine lv_iconst (v := 1) hx hb dX12_isRule_12 (by decide) ?_
      refine lv_goto (tgt := 17) hx hb dX12_isRule_13 (by decide) ?_
      exact J_17 1 _ _ _ ls hf hw (lv_sub hl [] rfl)
abbrev rm_X12_floors : Room := { frames := 1, cells := 0, slots := 0, locals := 21 }
set_option maxHeartbeats 4000000 in
set_option maxRecDepth 100000 in
theorem c_X12_floors (l : Launch) (E : gE) (N : Nat) (za0 : Nat) (za1 : Int32) (za2 : Int32) (zh : PH) {h9 : PH} {r9 : Int32} (hf : f_X12_floors N za0 za1 za2 zh = some (r9, h9)) : Met l yX12_floors (gWS yX12_floors cX12_floors 4 (some .int)) rm_X12_floors (gPc E [.ref (gB E + za0), .int za1, .int za2] zh) (gQi E r9 h9) 0 0 (gA E) := by
  refine gx_met (by decide) ?_ rfl
  intro p e s m below meth c X hr hlk hin2 hw
  have hx := X.1.1
  have hb := X.1.2.1
  have hl := lv_entry [.ref (gB E + za0), .int za1, .int za2] (n := 4) (Nat.le_of_ble_eq_true rfl)
  rw [lg_entry_eq]
  generalize (lg_sl [.ref (gB E + za0), .int za1, .int za2] ++ List.replicate (4 - (lg_sl [.ref (gB E + za0), .int za1, .int za2]).length) Slot.unset).toArray = ls at hl ⊢
  have hl : lv_has ls 4 [(0, .ref (gB E + za0)), (1, .int za1), (2, .int za2)] := hl
  have J_22 : ∀ (zs0 : Int32) (zh : PH) (H : Heap) (locs : List Loc) (ls : Array Slot), f_X12_floors_22 N zs0 zh = some (r9, h9) → gw E s zh H locs → lv_has ls 4 [] → W p l e rm_X12_floors s m [.ref (gB E + za0), .int za1, .int za2].toArray below meth c H locs 0 0 (MQ below (gQi E r9 h9) [.ref (gB E + za0), .int za1, .int za2].toArray s 0 0 (gA E)) (F0 m 22 ls [.int zs0]) := by
    intro zs0 zh H locs ls hf hw hl
    unfold f_X12_floors_22 at hf
    exact gx_iret X hr hlk hw hf dX12_floors_22
  unfold f_X12_floors at hf
  refine lv_aload_n hx hb dX12_floors_0 rfl (lv_at hl 0 rfl) ?_
  refine lv_iload_n hx hb dX12_floors_1 rfl (lv_at hl 1 rfl) ?_
  obtain ⟨qizh1, hf⟩ := gg_el hf
  obtain ⟨zt2, zh1, qzh1, hf⟩ := gc_el hf
  refine gx_ki (gx_runV (As := [.int za1]) (rest := []) X hw (c_X12_floorOf l E N za0 za1 zh qzh1) kX12_floorOf mm_X12_237 qizh1 clX12 ⟨Nat.le_of_ble_eq_true rfl, Nat.le_of_ble_eq_true rfl⟩ rfl rfl rfl hl.1 (Nat.le_of_ble_eq_true rfl) rfl dX12_floors_2 ⟨Nat.le_of_ble_eq_true rfl, Nat.le_of_ble_eq_true rfl⟩) hw (fun H locs hw => ?_)
  refine lv_aload_n hx hb dX12_floors_5 rfl (lv_at hl 0 rfl) ?_
  refine lv_iload_n hx hb dX12_floors_6 rfl (lv_at hl 2 rfl) ?_
  obtain ⟨qizh3, hf⟩ := gg_el hf
  obtain ⟨zt4, zh3, qzh3, hf⟩ := gc_el hf
  refine gx_ki (gx_runV (As := [.int za2]) (rest := [.int zt2]) X hw (c_X12_floorOf l E N za0 za2 zh1 qzh3) kX12_floorOf mm_X12_237 qizh3 clX12 ⟨Nat.le_of_ble_eq_true rfl, Nat.le_of_ble_eq_true rfl⟩ rfl rfl rfl hl.1 (Nat.le_of_ble_eq_true rfl) rfl dX12_floors_7 ⟨Nat.le_of_ble_eq_true rfl, Nat.le_of_ble_eq_true rfl⟩) hw (fun H locs hw => ?_)
  refine lv_isub hx hb dX12_floors_10 ?_
  refine lv_topi (fun zx5 ezx5 => ?_)
  have hf := gl_el hf ezx5
  refine lv_istore_n (lv' := [(3, .int zx5), (0, .ref (gB E + za0)), (1, .int za1), (2, .int za2)]) hx hb dX12_floors_11 rfl hl (by decide) rfl (fun ls hl => ?_)
  refine lv_iload_n hx hb dX12_floors_12 rfl (lv_at hl 0 rfl) ?_
  refine W.eq (g2 := F0 m 13 ls [.int zx5]) rfl ?_
  refine lv_if_ge (tgt := 21) hx hb dX12_floors_13 (by decide) (fun qc6 => ?_) (fun qc6 => ?_)
  · have hf := gif_t hf qc6
    refine lv_iload_n hx hb dX12_floors_21 rfl (lv_at hl 0 rfl) ?_
    exact J_22 zx5 _ _ _ ls hf hw (lv_sub hl [] rfl)
  · have hf := gif_f hf qc6
    refine lv_iload_n hx hb dX12_floors_16 rfl (lv_at hl 0 rfl) ?_
    refine lv_ineg hx hb dX12_floors_17 ?_
    refine lv_goto (tgt := 22) hx hb dX12_floors_18 (by decide) ?_
    exact J_22 (-zx5) _ _ _ ls hf hw (lv_sub hl [] rfl)
abbrev rm_X12_events : Room := { frames := 0, cells := 0, slots := 0, locals := 0 }
set_option maxHeartbeats 4000000 in
set_option maxRecDepth 100000 in
theorem c_X12_events (l : Launch) (E : gE) (N : Nat) (za0 : Nat) (zh : PH) {h9 : PH} {r9 : Int32} (hf : f_X12_events N za0 zh = some (r9, h9)) : Met l yX12_events (gWS yX12_events cX12_events 1 (some .int)) rm_X12_events (gPc E [.ref (gB E + za0)] zh) (gQi E r9 h9) 0 0 (gA E) := by
  refine gx_met (by decide) ?_ rfl
  intro p e s m below meth c X hr hlk hin2 hw
  have hx := X.1.1
  have hb := X.1.2.1
  have hl := lv_entry [.ref (gB E + za0)] (n := 1) (Nat.le_of_ble_eq_true rfl)
  rw [lg_entry_eq]
  generalize (lg_sl [.ref (gB E + za0)] ++ List.replicate (1 - (lg_sl [.ref (gB E + za0)]).length) Slot.unset).toArray = ls at hl ⊢
  have hl : lv_has ls 1 [(0, .ref (gB E + za0))] := hl
  unfold f_X12_events at hf
  refine lv_aload_n hx hb dX12_events_0 rfl (lv_at hl 0 rfl) ?_
  obtain ⟨zt1, qzt1, hf⟩ := gb_el hf
  refine gx_getR X hw qzt1 clX12 (by decide) mf_X12_83 dX12_events_1 ?_
  refine lv_iconst (v := 1) hx hb dX12_events_4 (by decide) ?_
  obtain ⟨zt2, qzt2, hf⟩ := gb_el hf
  refine gx_iald X hw qzt2 dX12_events_5 ?_
  exact gx_iret X hr hlk hw hf dX12_events_6
abbrev rm_X12_eventOf : Room := { frames := 0, cells := 0, slots := 0, locals := 0 }
set_option maxHeartbeats 4000000 in
set_option maxRecDepth 100000 in
theorem c_X12_eventOf (l : Launch) (E : gE) (N : Nat) (za0 : Nat) (za1 : Int32) (za2 : Int32) (zh : PH) {h9 : PH} {r9 : Int32} (hf : f_X12_eventOf N za0 za1 za2 zh = some (r9, h9)) : Met l yX12_eventOf (gWS yX12_eventOf cX12_eventOf 3 (some .int)) rm_X12_eventOf (gPc E [.ref (gB E + za0), .int za1, .int za2] zh) (gQi E r9 h9) 0 0 (gA E) := by
  refine gx_met (by decide) ?_ rfl
  intro p e s m below meth c X hr hlk hin2 hw
  have hx := X.1.1
  have hb := X.1.2.1
  have hl := lv_entry [.ref (gB E + za0), .int za1, .int za2] (n := 3) (Nat.le_of_ble_eq_true rfl)
  rw [lg_entry_eq]
  generalize (lg_sl [.ref (gB E + za0), .int za1, .int za2] ++ List.replicate (3 - (lg_sl [.ref (gB E + za0), .int za1, .int za2]).length) Slot.unset).toArray = ls at hl ⊢
  have hl : lv_has ls 3 [(0, .ref (gB E + za0)), (1, .int za1), (2, .int za2)] := hl
  unfold f_X12_eventOf at hf
  refine lv_aload_n hx hb dX12_eventOf_0 rfl (lv_at hl 0 rfl) ?_
  obtain ⟨zt1, qzt1, hf⟩ := gb_el hf
  refine gx_getR X hw qzt1 clX12 (by decide) mf_X12_83 dX12_eventOf_1 ?_
  refine lv_iconst (v := 2) hx hb dX12_eventOf_4 (by decide) ?_
  refine lv_iconst (v := 4) hx hb dX12_eventOf_5 (by decide) ?_
  refine lv_iload_n hx hb dX12_eventOf_6 rfl (lv_at hl 1 rfl) ?_
  refine lv_imul hx hb dX12_eventOf_7 ?_
  refine lv_iadd hx hb dX12_eventOf_8 ?_
  refine lv_iload_n hx hb dX12_eventOf_9 rfl (lv_at hl 2 rfl) ?_
  refine lv_iadd hx hb dX12_eventOf_10 ?_
  refine W.eq (g2 := F0 m 11 ls [.int ((2 + (4 * za1)) + za2), .ref (gB E + zt1)]) rfl ?_
  obtain ⟨zt2, qzt2, hf⟩ := gb_el hf
  refine gx_iald X hw qzt2 dX12_eventOf_11 ?_
  exact gx_iret X hr hlk hw hf dX12_eventOf_12
abbrev rm_X12_begins : Room := { frames := 0, cells := 0, slots := 0, locals := 0 }
set_option maxHeartbeats 4000000 in
set_option maxRecDepth 100000 in
theorem c_X12_begins (l : Launch) (E : gE) (N : Nat) (za0 : Nat) (zh : PH) {h9 : PH} (hf : f_X12_begins N za0 zh = some h9) : Met l yX12_begins (gWS yX12_begins cX12_begins 2 none) rm_X12_begins (gPc E [.ref (gB E + za0)] zh) (gQv E h9) 0 0 (gA E) := by
  refine gx_met (by decide) ?_ rfl
  intro p e s m below meth c X hr hlk hin2 hw
  have hx := X.1.1
  have hb := X.1.2.1
  have hl := lv_entry [.ref (gB E + za0)] (n := 2) (Nat.le_of_ble_eq_true rfl)
  rw [lg_entry_eq]
  generalize (lg_sl [.ref (gB E + za0)] ++ List.replicate (2 - (lg_sl [.ref (gB E + za0)]).length) Slot.unset).toArray = ls at hl ⊢
  have hl : lv_has ls 2 [(0, .ref (gB E + za0))] := hl
  have L_2 : ∀ (zn2 : Nat) (zv0 : Nat) (zv1 : Int32) (zh : PH) (H : Heap) (locs : List Loc) (ls : Array Slot), gi (fun zk zs => f_X12_begins_2 N zk zs.1 zs.2.1 zs.2.2) zn2 (zv0, zv1, zh) = some h9 → gw E s zh H locs → lv_has ls 2 [(0, .ref (gB E + zv0)), (1, .int zv1)] → W p l e rm_X12_begins s m [.ref (gB E + za0)].toArray below meth c H locs 0 0 (MQ below (gQv E h9) [.ref (gB E + za0)].toArray s 0 0 (gA E)) (F0 m 2 ls []) := by
    intro zn2
    induction zn2 with
    | zero =>
      intro zv0 zv1 zh H locs ls hf
      cases hf
    | succ zn2 ih_2 =>
      intro zv0 zv1 zh H locs ls hf hw hl
      have hf := gi_s hf
      dsimp only at hf
      unfold f_X12_begins_2 at hf
      refine lv_iload_n hx hb dX12_begins_2 rfl (lv_at hl 1 rfl) ?_
      refine lv_bipush (v := 10) hx hb dX12_begins_3 (by decide) ?_
      refine lv_icmp_ge (tgt := 42) hx hb dX12_begins_5 (by decide) (fun qc1 => ?_) (fun qc1 => ?_)
      · have hf := gif_t hf qc1
        refine lv_aload_n hx hb dX12_begins_42 rfl (lv_at hl 0 rfl) ?_
        refine lv_iconst (v := 0) hx hb dX12_begins_43 (by decide) ?_
        obtain ⟨zh2, qzh2, hf⟩ := gb_el hf
        refine gx_putV X hw qzh2 clX12 (by decide) mf_X12_240 rfl rfl rfl dX12_begins_44 (fun H locs hw => ?_)
        refine lv_aload_n hx hb dX12_begins_47 rfl (lv_at hl 0 rfl) ?_
        refine lv_iconst (v := 0) hx hb dX12_begins_48 (by decide) ?_
        obtain ⟨zh3, qzh3, hf⟩ := gb_el hf
        refine gx_putV X hw qzh3 clX12 (by decide) mf_X12_243 rfl rfl rfl dX12_begins_49 (fun H locs hw => ?_)
        refine W.eq (g2 := F0 m 52 ls []) rfl ?_
        refine lv_aload_n hx hb dX12_begins_52 rfl (lv_at hl 0 rfl) ?_
        refine lv_iconst (v := 0) hx hb dX12_begins_53 (by decide) ?_
        obtain ⟨zh4, qzh4, hf⟩ := gb_el hf
        refine gx_putV X hw qzh4 clX12 (by decide) mf_X12_246 rfl rfl rfl dX12_begins_54 (fun H locs hw => ?_)
        refine lv_aload_n hx hb dX12_begins_57 rfl (lv_at hl 0 rfl) ?_
        refine lv_iconst (v := 0) hx hb dX12_begins_58 (by decide) ?_
        obtain ⟨zh5, qzh5, hf⟩ := gb_el hf
        refine gx_putV X hw qzh5 clX12 (by decide) mf_X12_249 rfl rfl rfl dX12_begins_59 (fun H locs hw => ?_)
        refine lv_aload_n hx hb dX12_begins_62 rfl (lv_at hl 0 rfl) ?_
        refine lv_iconst (v := 0) hx hb dX12_begins_63 (by decide) ?_
        obtain ⟨zh6, qzh6, hf⟩ := gb_el hf
        refine gx_putV X hw qzh6 clX12 (by decide) mf_X12_252 rfl rfl rfl dX12_begins_64 (fun H locs hw => ?_)
        refine lv_aload_n hx hb dX12_begins_67 rfl (lv_at hl 0 rfl) ?_
        refine W.eq (g2 := F0 m 68 ls [.ref (gB E + zv0)]) rfl ?_
        refine lv_iconst (v := 0) hx hb dX12_begins_68 (by decide) ?_
        obtain ⟨zh7, qzh7, hf⟩ := gb_el hf
        refine gx_putV X hw qzh7 clX12 (by decide) mf_X12_255 rfl rfl rfl dX12_begins_69 (fun H locs hw => ?_)
        exact gx_vret X hr hlk hw hf dX12_begins_72
      · have hf := gif_f hf qc1
        refine lv_aload_n hx hb dX12_begins_8 rfl (lv_at hl 0 rfl) ?_
        obtain ⟨zt8, qzt8, hf⟩ := gb_el hf
        refine gx_getR X hw qzt8 clX12 (by decide) mf_X12_86 dX12_begins_9 ?_
        refine lv_iload_n hx hb dX12_begins_12 rfl (lv_at hl 1 rfl) ?_
        refine lv_iconst (v := (-1)) hx hb dX12_begins_13 (by decide) ?_
        obtain ⟨zh9, qzh9, hf⟩ := gb_el hf
        refine gx_iast X hw qzh9 dX12_begins_14 (fun H locs hw => ?_)
        refine lv_aload_n hx hb dX12_begins_15 rfl (lv_at hl 0 rfl) ?_
        refine W.eq (g2 := F0 m 16 ls [.ref (gB E + zv0)]) rfl ?_
        obtain ⟨zt10, qzt10, hf⟩ := gb_el hf
        refine gx_getR X hw qzt10 clX12 (by decide) mf_X12_89 dX12_begins_16 ?_
        refine lv_iload_n hx hb dX12_begins_19 rfl (lv_at hl 1 rfl) ?_
        refine lv_iconst (v := 0) hx hb dX12_begins_20 (by decide) ?_
        obtain ⟨zh11, qzh11, hf⟩ := gb_el hf
        refine gx_iast X hw qzh11 dX12_begins_21 (fun H locs hw => ?_)
        refine lv_aload_n hx hb dX12_begins_22 rfl (lv_at hl 0 rfl) ?_
        obtain ⟨zt12, qzt12, hf⟩ := gb_el hf
        refine gx_getR X hw qzt12 clX12 (by decide) mf_X12_92 dX12_begins_23 ?_
        refine lv_iload_n hx hb dX12_begins_26 rfl (lv_at hl 1 rfl) ?_
        refine lv_iconst (v := 0) hx hb dX12_begins_27 (by decide) ?_
        obtain ⟨zh13, qzh13, hf⟩ := gb_el hf
        refine gx_iast X hw qzh13 dX12_begins_28 (fun H locs hw => ?_)
        refine lv_aload_n hx hb dX12_begins_29 rfl (lv_at hl 0 rfl) ?_
        refine W.eq (g2 := F0 m 30 ls [.ref (gB E + zv0)]) rfl ?_
        obtain ⟨zt14, qzt14, hf⟩ := gb_el hf
        refine gx_getR X hw qzt14 clX12 (by decide) mf_X12_95 dX12_begins_30 ?_
        refine lv_iload_n hx hb dX12_begins_33 rfl (lv_at hl 1 rfl) ?_
        refine lv_iconst (v := 0) hx hb dX12_begins_34 (by decide) ?_
        obtain ⟨zh15, qzh15, hf⟩ := gb_el hf
        refine gx_zast X hw qzh15 dX12_begins_35 (fun H locs hw => ?_)
        obtain ⟨zx16, ezx16⟩ : ∃ y : Int32, y = zv1 + 1 := ⟨_, rfl⟩
        have hf := gl_el hf ezx16
        refine lv_iinc (v := zx16) (lv' := [(1, .int zx16), (0, .ref (gB E + zv0))]) hx hb dX12_begins_36 hl (k := 1) rfl (by rw [ezx16]; rfl) (by decide) rfl (fun ls hl => ?_)
        refine lv_goto (tgt := 2) hx hb dX12_begins_39 (by decide) ?_
        exact ih_2 zv0 zx16 _ _ _ ls hf hw (lv_sub hl [1, 0] rfl)
  unfold f_X12_begins at hf
  refine lv_iconst (v := 0) hx hb dX12_begins_0 (by decide) ?_
  refine lv_istore_n (lv' := [(1, .int 0), (0, .ref (gB E + za0))]) hx hb dX12_begins_1 rfl hl (by decide) rfl (fun ls hl => ?_)
  exact L_2 N za0 0 _ _ _ ls hf hw (lv_sub hl [1, 0] rfl)
abbrev rm_X12_goes : Room := { frames := 2, cells := 0, slots := 0, locals := 44 }
set_option maxHeartbeats 4000000 in
set_option maxRecDepth 100000 in
theorem c_X12_goes (l : Launch) (E : gE) (N : Nat) (za0 : Nat) (za1 : Int32) (za2 : Int32) (za3 : Int32) (zh : PH) {h9 : PH} (hf : f_X12_goes N za0 za1 za2 za3 zh = some h9) : Met l yX12_goes (gWS yX12_goes cX12_goes 7 none) rm_X12_goes (gPc E [.ref (gB E + za0), .int za1, .int za2, .int za3] zh) (gQv E h9) 0 0 (gA E) := by
  refine gx_met (by decide) ?_ rfl
  intro p e s m below meth c X hr hlk hin2 hw
  have hx := X.1.1
  have hb := X.1.2.1
  have hl := lv_entry [.ref (gB E + za0), .int za1, .int za2, .int za3] (n := 7) (Nat.le_of_ble_eq_true rfl)
  rw [lg_entry_eq]
  generalize (lg_sl [.ref (gB E + za0), .int za1, .int za2, .int za3] ++ List.replicate (7 - (lg_sl [.ref (gB E + za0), .int za1, .int za2, .int za3]).length) Slot.unset).toArray = ls at hl ⊢
  have hl : lv_has ls 7 [(0, .ref (gB E + za0)), (1, .int za1), (2, .int za2), (3, .int za3)] := hl
  have J_258 : ∀ (zh : PH) (H : Heap) (locs : List Loc) (ls : Array Slot), f_X12_goes_258 N zh = some h9 → gw E s zh H locs → lv_has ls 7 [] → W p l e rm_X12_goes s m [.ref (gB E + za0), .int za1, .int za2, .int za3].toArray below meth c H locs 0 0 (MQ below (gQv E h9) [.ref (gB E + za0), .int za1, .int za2, .int za3].toArray s 0 0 (gA E)) (F0 m 258 ls []) := by
    intro zh H locs ls hf hw hl
    unfold f_X12_goes_258 at hf
    exact gx_vret X hr hlk hw hf dX12_goes_258
  have J_247 : ∀ (zv0 : Nat) (zv1 : Int32) (zv3 : Int32) (zh : PH) (H : Heap) (locs : List Loc) (ls : Array Slot), f_X12_goes_247 N zv0 zv1 zv3 zh = some h9 → gw E s zh H locs → lv_has ls 7 [(0, .ref (gB E + zv0)), (1, .int zv1), (3, .int zv3)] → W p l e rm_X12_goes s m [.ref (gB E + za0), .int za1, .int za2, .int za3].toArray below meth c H locs 0 0 (MQ below (gQv E h9) [.ref (gB E + za0), .int za1, .int za2, .int za3].toArray s 0 0 (gA E)) (F0 m 247 ls []) := by
    intro zv0 zv1 zv3 zh H locs ls hf hw hl
    unfold f_X12_goes_247 at hf
    refine lv_iload_n hx hb dX12_goes_247 rfl (lv_at hl 2 rfl) ?_
    refine lv_if_lt (tgt := 258) hx hb dX12_goes_248 (by decide) (fun qc1 => ?_) (fun qc1 => ?_)
    · have hf := gif_t hf qc1
      exact J_258  _ _ _ ls hf hw (lv_sub hl [] rfl)
    · have hf := gif_f hf qc1
      refine lv_aload_n hx hb dX12_goes_251 rfl (lv_at hl 0 rfl) ?_
      obtain ⟨zt2, qzt2, hf⟩ := gb_el hf
      refine gx_getR X hw qzt2 clX12 (by decide) mf_X12_86 dX12_goes_252 ?_
      refine lv_iload_n hx hb dX12_goes_255 rfl (lv_at hl 2 rfl) ?_
      refine lv_iload_n hx hb dX12_goes_256 rfl (lv_at hl 1 rfl) ?_
      obtain ⟨zh3, qzh3, hf⟩ := gb_el hf
      refine gx_iast X hw qzh3 dX12_goes_257 (fun H locs hw => ?_)
      exact J_258  _ _ _ ls hf hw (lv_sub hl [] rfl)
  have J_236 : ∀ (zv0 : Nat) (zv1 : Int32) (zv2 : Int32) (zv3 : Int32) (zh : PH) (H : Heap) (locs : List Loc) (ls : Array Slot), f_X12_goes_236 N zv0 zv1 zv2 zv3 zh = some h9 → gw E s zh H locs → lv_has ls 7 [(0, .ref (gB E + zv0)), (1, .int zv1), (2, .int zv2), (3, .int zv3)] → W p l e rm_X12_goes s m [.ref (gB E + za0), .int za1, .int za2, .int za3].toArray below meth c H locs 0 0 (MQ below (gQv E h9) [.ref (gB E + za0), .int za1, .int za2, .int za3].toArray s 0 0 (gA E)) (F0 m 236 ls []) := by
    intro zv0 zv1 zv2 zv3 zh H locs ls hf hw hl
    unfold f_X12_goes_236 at hf
    refine lv_iload_n hx hb dX12_goes_236 rfl (lv_at hl 2 rfl) ?_
    refine lv_if_lt (tgt := 247) hx hb dX12_goes_237 (by decide) (fun qc1 => ?_) (fun qc1 => ?_)
    · have hf := gif_t hf qc1
      exact J_247 zv0 zv1 zv3 _ _ _ ls hf hw (lv_sub hl [0, 1, 3] rfl)
    · have hf := gif_f hf qc1
      refine lv_aload_n hx hb dX12_goes_240 rfl (lv_at hl 0 rfl) ?_
      obtain ⟨zt2, qzt2, hf⟩ := gb_el hf
      refine gx_getR X hw qzt2 clX12 (by decide) mf_X12_86 dX12_goes_241 ?_
      refine lv_iload_n hx hb dX12_goes_244 rfl (lv_at hl 2 rfl) ?_
      refine lv_iconst (v := (-1)) hx hb dX12_goes_245 (by decide) ?_
      obtain ⟨zh3, qzh3, hf⟩ := gb_el hf
      refine gx_iast X hw qzh3 dX12_goes_246 (fun H locs hw => ?_)
      exact J_247 zv0 zv1 zv3 _ _ _ ls hf hw (lv_sub hl [0, 1, 3] rfl)
  have J_58 : ∀ (zv0 : Nat) (zv1 : Int32) (zv2 : Int32) (zv3 : Int32) (zv4 : Int32) (zs0 : Int32) (zh : PH) (H : Heap) (locs : List Loc) (ls : Array Slot), f_X12_goes_58 N zv0 zv1 zv2 zv3 zv4 zs0 zh = some h9 → gw E s zh H locs → lv_has ls 7 [(0, .ref (gB E + zv0)), (1, .int zv1), (2, .int zv2), (3, .int zv3), (4, .int zv4)] → W p l e rm_X12_goes s m [.ref (gB E + za0), .int za1, .int za2, .int za3].toArray below meth c H locs 0 0 (MQ below (gQv E h9) [.ref (gB E + za0), .int za1, .int za2, .int za3].toArray s 0 0 (gA E)) (F0 m 58 ls [.int zs0]) := by
    intro zv0 zv1 zv2 zv3 zv4 zs0 zh H locs ls hf hw hl
    unfold f_X12_goes_58 at hf
    refine lv_istore (lv' := [(5, .int zs0), (0, .ref (gB E + zv0)), (1, .int zv1), (2, .int zv2), (3, .int zv3), (4, .int zv4)]) hx hb dX12_goes_58 hl (by decide) rfl (fun ls hl => ?_)
    refine lv_iload hx hb dX12_goes_60 (lv_at hl 0 rfl) ?_
    refine lv_bipush (v := 10) hx hb dX12_goes_62 (by decide) ?_
    refine lv_aload_n hx hb dX12_goes_64 rfl (lv_at hl 1 rfl) ?_
    refine lv_iload_n hx hb dX12_goes_65 rfl (lv_at hl 3 rfl) ?_
    refine lv_iload_n hx hb dX12_goes_66 rfl (lv_at hl 4 rfl) ?_
    obtain ⟨qizh1, hf⟩ := gg_el hf
    obtain ⟨zt2, zh1, qzh1, hf⟩ := gc_el hf
    refine gx_ki (gx_runV (As := [.int zv2, .int zv3]) (rest := [.int 10, .int zs0]) X hw (c_X12_floors l E N zv0 zv2 zv3 zh qzh1) kX12_floors mm_X12_258 qizh1 clX12 ⟨Nat.le_of_ble_eq_true rfl, Nat.le_of_ble_eq_true rfl⟩ rfl rfl rfl hl.1 (Nat.le_of_ble_eq_true rfl) rfl dX12_goes_67 ⟨Nat.le_of_ble_eq_true rfl, Nat.le_of_ble_eq_true rfl⟩) hw (fun H locs hw => ?_)
    refine lv_imul hx hb dX12_goes_70 ?_
    refine lv_iadd hx hb dX12_goes_71 ?_
    refine W.eq (g2 := F0 m 72 ls [.int (zs0 + (10 * zt2))]) rfl ?_
    refine lv_topi (fun zx3 ezx3 => ?_)
    have hf := gl_el hf ezx3
    refine lv_istore (lv' := [(5, .int zx3), (0, .ref (gB E + zv0)), (1, .int zv1), (2, .int zv2), (3, .int zv3), (4, .int zv4)]) hx hb dX12_goes_72 hl (by decide) rfl (fun ls hl => ?_)
    refine lv_iconst (v := 5) hx hb dX12_goes_74 (by decide) ?_
    refine lv_aload_n hx hb dX12_goes_75 rfl (lv_at hl 1 rfl) ?_
    obtain ⟨zt4, qzt4, hf⟩ := gb_el hf
    refine gx_getI X hw qzt4 clX12 (by decide) mf_X12_255 dX12_goes_76 ?_
    refine lv_imul hx hb dX12_goes_79 ?_
    refine lv_topi (fun zx5 ezx5 => ?_)
    have hf := gl_el hf ezx5
    refine lv_istore (lv' := [(6, .int zx5), (5, .int zx3), (0, .ref (gB E + zv0)), (1, .int zv1), (2, .int zv2), (3, .int zv3), (4, .int zv4)]) hx hb dX12_goes_80 hl (by decide) rfl (fun ls hl => ?_)
    refine lv_aload_n hx hb dX12_goes_82 rfl (lv_at hl 2 rfl) ?_
    obtain ⟨zt6, qzt6, hf⟩ := gb_el hf
    refine gx_getR X hw qzt6 clX12 (by decide) mf_X12_99 dX12_goes_83 ?_
    refine lv_iload hx hb dX12_goes_86 (lv_at hl 0 rfl) ?_
    refine lv_iload_n hx hb dX12_goes_88 rfl (lv_at hl 3 rfl) ?_
    refine W.eq (g2 := F0 m 89 ls [.int zv1, .int zx5, .ref (gB E + zt6)]) rfl ?_
    obtain ⟨zh7, qzh7, hf⟩ := gb_el hf
    refine gx_iast X hw qzh7 dX12_goes_89 (fun H locs hw => ?_)
    refine lv_aload_n hx hb dX12_goes_90 rfl (lv_at hl 2 rfl) ?_
    obtain ⟨zt8, qzt8, hf⟩ := gb_el hf
    refine gx_getR X hw qzt8 clX12 (by decide) mf_X12_99 dX12_goes_91 ?_
    refine lv_iload hx hb dX12_goes_94 (lv_at hl 0 rfl) ?_
    refine lv_iconst (v := 1) hx hb dX12_goes_96 (by decide) ?_
    refine lv_iadd hx hb dX12_goes_97 ?_
    refine lv_iload_n hx hb dX12_goes_98 rfl (lv_at hl 4 rfl) ?_
    obtain ⟨zh9, qzh9, hf⟩ := gb_el hf
    refine gx_iast X hw qzh9 dX12_goes_99 (fun H locs hw => ?_)
    refine lv_aload_n hx hb dX12_goes_100 rfl (lv_at hl 2 rfl) ?_
    obtain ⟨zt10, qzt10, hf⟩ := gb_el hf
    refine gx_getR X hw qzt10 clX12 (by decide) mf_X12_99 dX12_goes_101 ?_
    refine W.eq (g2 := F0 m 104 ls [.ref (gB E + zt10)]) rfl ?_
    refine lv_iload hx hb dX12_goes_104 (lv_at hl 0 rfl) ?_
    refine lv_iconst (v := 2) hx hb dX12_goes_106 (by decide) ?_
    refine lv_iadd hx hb dX12_goes_107 ?_
    refine lv_iload_n hx hb dX12_goes_108 rfl (lv_at hl 5 rfl) ?_
    obtain ⟨zh11, qzh11, hf⟩ := gb_el hf
    refine gx_iast X hw qzh11 dX12_goes_109 (fun H locs hw => ?_)
    refine lv_aload_n hx hb dX12_goes_110 rfl (lv_at hl 2 rfl) ?_
    obtain ⟨zt12, qzt12, hf⟩ := gb_el hf
    refine gx_getR X hw qzt12 clX12 (by decide) mf_X12_99 dX12_goes_111 ?_
    refine lv_iload hx hb dX12_goes_114 (lv_at hl 0 rfl) ?_
    refine lv_iconst (v := 3) hx hb dX12_goes_116 (by decide) ?_
    refine lv_iadd hx hb dX12_goes_117 ?_
    refine W.eq (g2 := F0 m 118 ls [.int (zx5 + 3), .ref (gB E + zt12)]) rfl ?_
    refine lv_aload_n hx hb dX12_goes_118 rfl (lv_at hl 2 rfl) ?_
    obtain ⟨zt13, qzt13, hf⟩ := gb_el hf
    refine gx_getI X hw qzt13 clX12 (by decide) mf_X12_252 dX12_goes_119 ?_
    obtain ⟨zh14, qzh14, hf⟩ := gb_el hf
    refine gx_iast X hw qzh14 dX12_goes_122 (fun H locs hw => ?_)
    refine lv_aload_n hx hb dX12_goes_123 rfl (lv_at hl 2 rfl) ?_
    obtain ⟨zt15, qzt15, hf⟩ := gb_el hf
    refine gx_getR X hw qzt15 clX12 (by decide) mf_X12_99 dX12_goes_124 ?_
    refine lv_iload hx hb dX12_goes_127 (lv_at hl 0 rfl) ?_
    refine lv_iconst (v := 4) hx hb dX12_goes_129 (by decide) ?_
    refine lv_iadd hx hb dX12_goes_130 ?_
    refine lv_aload_n hx hb dX12_goes_131 rfl (lv_at hl 2 rfl) ?_
    obtain ⟨zt16, qzt16, hf⟩ := gb_el hf
    refine gx_getI X hw qzt16 clX12 (by decide) mf_X12_252 dX12_goes_132 ?_
    refine W.eq (g2 := F0 m 135 ls [.int zt16, .int (zx5 + 4), .ref (gB E + zt15)]) rfl ?_
    refine lv_iload hx hb dX12_goes_135 (lv_at hl 6 rfl) ?_
    refine lv_iadd hx hb dX12_goes_137 ?_
    obtain ⟨zh17, qzh17, hf⟩ := gb_el hf
    refine gx_iast X hw qzh17 dX12_goes_138 (fun H locs hw => ?_)
    refine lv_aload_n hx hb dX12_goes_139 rfl (lv_at hl 2 rfl) ?_
    refine lv_dup hx hb dX12_goes_140 rfl ?_
    obtain ⟨zt18, qzt18, hf⟩ := gb_el hf
    refine gx_getI X hw qzt18 clX12 (by decide) mf_X12_255 dX12_goes_141 ?_
    refine lv_iconst (v := 1) hx hb dX12_goes_144 (by decide) ?_
    refine lv_iadd hx hb dX12_goes_145 ?_
    obtain ⟨zh19, qzh19, hf⟩ := gb_el hf
    refine gx_putV X hw qzh19 clX12 (by decide) mf_X12_255 rfl rfl rfl dX12_goes_146 (fun H locs hw => ?_)
    refine lv_aload_n hx hb dX12_goes_149 rfl (lv_at hl 2 rfl) ?_
    refine W.eq (g2 := F0 m 150 ls [.ref (gB E + zv0)]) rfl ?_
    refine lv_dup hx hb dX12_goes_150 rfl ?_
    obtain ⟨zt20, qzt20, hf⟩ := gb_el hf
    refine gx_getI X hw qzt20 clX12 (by decide) mf_X12_252 dX12_goes_151 ?_
    refine lv_iload hx hb dX12_goes_154 (lv_at hl 6 rfl) ?_
    refine lv_iadd hx hb dX12_goes_156 ?_
    obtain ⟨zh21, qzh21, hf⟩ := gb_el hf
    refine gx_putV X hw qzh21 clX12 (by decide) mf_X12_252 rfl rfl rfl dX12_goes_157 (fun H locs hw => ?_)
    refine lv_aload_n hx hb dX12_goes_160 rfl (lv_at hl 2 rfl) ?_
    refine lv_dup hx hb dX12_goes_161 rfl ?_
    obtain ⟨zt22, qzt22, hf⟩ := gb_el hf
    refine gx_getI X hw qzt22 clX12 (by decide) mf_X12_249 dX12_goes_162 ?_
    refine lv_iload hx hb dX12_goes_165 (lv_at hl 6 rfl) ?_
    refine lv_iadd hx hb dX12_goes_167 ?_
    refine W.eq (g2 := F0 m 168 ls [.int (zt22 + zv4), .ref (gB E + zv0)]) rfl ?_
    obtain ⟨zh23, qzh23, hf⟩ := gb_el hf
    refine gx_putV X hw qzh23 clX12 (by decide) mf_X12_249 rfl rfl rfl dX12_goes_168 (fun H locs hw => ?_)
    refine lv_aload_n hx hb dX12_goes_171 rfl (lv_at hl 2 rfl) ?_
    refine lv_dup hx hb dX12_goes_172 rfl ?_
    obtain ⟨zt24, qzt24, hf⟩ := gb_el hf
    refine gx_getI X hw qzt24 clX12 (by decide) mf_X12_240 dX12_goes_173 ?_
    refine lv_iload hx hb dX12_goes_176 (lv_at hl 1 rfl) ?_
    refine lv_iadd hx hb dX12_goes_178 ?_
    obtain ⟨zh25, qzh25, hf⟩ := gb_el hf
    refine gx_putV X hw qzh25 clX12 (by decide) mf_X12_240 rfl rfl rfl dX12_goes_179 (fun H locs hw => ?_)
    refine lv_aload_n hx hb dX12_goes_182 rfl (lv_at hl 2 rfl) ?_
    obtain ⟨zt26, qzt26, hf⟩ := gb_el hf
    refine gx_getR X hw qzt26 clX12 (by decide) mf_X12_92 dX12_goes_183 ?_
    refine lv_iload_n hx hb dX12_goes_186 rfl (lv_at hl 3 rfl) ?_
    refine W.eq (g2 := F0 m 187 ls [.int zv1, .ref (gB E + zt26)]) rfl ?_
    refine lv_dup2_11 hx hb dX12_goes_187 rfl rfl ?_
    obtain ⟨zt27, qzt27, hf⟩ := gb_el hf
    refine gx_iald X hw qzt27 dX12_goes_188 ?_
    refine lv_iload hx hb dX12_goes_189 (lv_at hl 1 rfl) ?_
    refine lv_iadd hx hb dX12_goes_191 ?_
    obtain ⟨zh28, qzh28, hf⟩ := gb_el hf
    refine gx_iast X hw qzh28 dX12_goes_192 (fun H locs hw => ?_)
    refine lv_iload_n hx hb dX12_goes_193 rfl (lv_at hl 4 rfl) ?_
    refine lv_if_lt (tgt := 236) hx hb dX12_goes_194 (by decide) (fun qc29 => ?_) (fun qc29 => ?_)
    · have hf := gif_t hf qc29
      exact J_236 zv0 zv1 zv2 zv3 _ _ _ ls hf hw (lv_sub hl [2, 3, 4, 5] rfl)
    · have hf := gif_f hf qc29
      refine lv_iload_n hx hb dX12_goes_197 rfl (lv_at hl 5 rfl) ?_
      refine lv_if_lt (tgt := 236) hx hb dX12_goes_198 (by decide) (fun qc30 => ?_) (fun qc30 => ?_)
      · have hf := gif_t hf qc30
        exact J_236 zv0 zv1 zv2 zv3 _ _ _ ls hf hw (lv_sub hl [2, 3, 4, 5] rfl)
      · have hf := gif_f hf qc30
        refine lv_aload_n hx hb dX12_goes_201 rfl (lv_at hl 2 rfl) ?_
        refine W.eq (g2 := F0 m 202 ls [.ref (gB E + zv0)]) rfl ?_
        refine lv_dup hx hb dX12_goes_202 rfl ?_
        obtain ⟨zt31, qzt31, hf⟩ := gb_el hf
        refine gx_getI X hw qzt31 clX12 (by decide) mf_X12_246 dX12_goes_203 ?_
        refine lv_iconst (v := 1) hx hb dX12_goes_206 (by decide) ?_
        refine lv_iadd hx hb dX12_goes_207 ?_
        obtain ⟨zh32, qzh32, hf⟩ := gb_el hf
        refine gx_putV X hw qzh32 clX12 (by decide) mf_X12_246 rfl rfl rfl dX12_goes_208 (fun H locs hw => ?_)
        refine lv_aload_n hx hb dX12_goes_211 rfl (lv_at hl 2 rfl) ?_
        obtain ⟨zt33, qzt33, hf⟩ := gb_el hf
        refine gx_getR X hw qzt33 clX12 (by decide) mf_X12_89 dX12_goes_212 ?_
        refine lv_iload_n hx hb dX12_goes_215 rfl (lv_at hl 3 rfl) ?_
        refine lv_dup2_11 hx hb dX12_goes_216 rfl rfl ?_
        obtain ⟨zt34, qzt34, hf⟩ := gb_el hf
        refine gx_iald X hw qzt34 dX12_goes_217 ?_
        refine W.eq (g2 := F0 m 218 ls [.int zt34, .int zv1, .ref (gB E + zt33)]) rfl ?_
        refine lv_iconst (v := 1) hx hb dX12_goes_218 (by decide) ?_
        refine lv_iadd hx hb dX12_goes_219 ?_
        obtain ⟨zh35, qzh35, hf⟩ := gb_el hf
        refine gx_iast X hw qzh35 dX12_goes_220 (fun H locs hw => ?_)
        refine lv_aload_n hx hb dX12_goes_221 rfl (lv_at hl 2 rfl) ?_
        refine lv_dup hx hb dX12_goes_222 rfl ?_
        obtain ⟨zt36, qzt36, hf⟩ := gb_el hf
        refine gx_getI X hw qzt36 clX12 (by decide) mf_X12_243 dX12_goes_223 ?_
        refine lv_aload_n hx hb dX12_goes_226 rfl (lv_at hl 2 rfl) ?_
        refine lv_iload_n hx hb dX12_goes_227 rfl (lv_at hl 3 rfl) ?_
        refine lv_iconst (v := 1) hx hb dX12_goes_228 (by decide) ?_
        obtain ⟨qizh37, hf⟩ := gg_el hf
        obtain ⟨zt38, zh37, qzh37, hf⟩ := gc_el hf
        refine gx_ki (gx_runV (As := [.int zv1, .int 1]) (rest := [.int zt36, .ref (gB E + zv0)]) X hw (c_X12_guestOf l E N zv0 zv1 1 zh35 qzh37) kX12_guestOf mm_X12_261 qizh37 clX12 ⟨Nat.le_of_ble_eq_true rfl, Nat.le_of_ble_eq_true rfl⟩ rfl rfl rfl hl.1 (Nat.le_of_ble_eq_true rfl) rfl dX12_goes_229 ⟨Nat.le_of_ble_eq_true rfl, Nat.le_of_ble_eq_true rfl⟩) hw (fun H locs hw => ?_)
        refine W.eq (g2 := F0 m 232 ls [.int zt38, .int zt36, .ref (gB E + zv0)]) rfl ?_
        refine lv_iadd hx hb dX12_goes_232 ?_
        obtain ⟨zh39, qzh39, hf⟩ := gb_el hf
        refine gx_putV X hw qzh39 clX12 (by decide) mf_X12_243 rfl rfl rfl dX12_goes_233 (fun H locs hw => ?_)
        exact J_236 zv0 zv1 zv2 zv3 _ _ _ ls hf hw (lv_sub hl [2, 3, 4, 5] rfl)
  have J_39 : ∀ (zv0 : Nat) (zv1 : Int32) (zv2 : Int32) (zv3 : Int32) (zv4 : Int32) (zs0 : Int32) (zh : PH) (H : Heap) (locs : List Loc) (ls : Array Slot), f_X12_goes_39 N zv0 zv1 zv2 zv3 zv4 zs0 zh = some h9 → gw E s zh H locs → lv_has ls 7 [(0, .ref (gB E + zv0)), (1, .int zv1), (2, .int zv2), (3, .int zv3), (4, .int zv4)] → W p l e rm_X12_goes s m [.ref (gB E + za0), .int za1, .int za2, .int za3].toArray below meth c H locs 0 0 (MQ below (gQv E h9) [.ref (gB E + za0), .int za1, .int za2, .int za3].toArray s 0 0 (gA E)) (F0 m 39 ls [.int zs0]) := by
    intro zv0 zv1 zv2 zv3 zv4 zs0 zh H locs ls hf hw hl
    unfold f_X12_goes_39 at hf
    refine lv_iconst (v := 1) hx hb dX12_goes_39 (by decide) ?_
    refine lv_iadd hx hb dX12_goes_40 ?_
    refine lv_goto (tgt := 58) hx hb dX12_goes_41 (by decide) ?_
    exact J_58 zv0 zv1 zv2 zv3 zv4 (zs0 + 1) _ _ _ ls hf hw (lv_sub hl [0, 1, 2, 3, 4] rfl)
  have J_30 : ∀ (zv0 : Nat) (zv1 : Int32) (zv2 : Int32) (zv3 : Int32) (zv4 : Int32) (zh : PH) (H : Heap) (locs : List Loc) (ls : Array Slot), f_X12_goes_30 N zv0 zv1 zv2 zv3 zv4 zh = some h9 → gw E s zh H locs → lv_has ls 7 [(0, .ref (gB E + zv0)), (1, .int zv1), (2, .int zv2), (3, .int zv3), (4, .int zv4)] → W p l e rm_X12_goes s m [.ref (gB E + za0), .int za1, .int za2, .int za3].toArray below meth c H locs 0 0 (MQ below (gQv E h9) [.ref (gB E + za0), .int za1, .int za2, .int za3].toArray s 0 0 (gA E)) (F0 m 30 ls []) := by
    intro zv0 zv1 zv2 zv3 zv4 zh H locs ls hf hw hl
    unfold f_X12_goes_30 at hf
    refine lv_iload_n hx hb dX12_goes_30 rfl (lv_at hl 2 rfl) ?_
    refine lv_if_ge (tgt := 38) hx hb dX12_goes_31 (by decide) (fun qc1 => ?_) (fun qc1 => ?_)
    · have hf := gif_t hf qc1
      refine lv_iload_n hx hb dX12_goes_38 rfl (lv_at hl 2 rfl) ?_
      exact J_39 zv0 zv1 zv2 zv3 zv4 zv2 _ _ _ ls hf hw (lv_sub hl [0, 1, 2, 3, 4] rfl)
    · have hf := gif_f hf qc1
      refine lv_iload_n hx hb dX12_goes_34 rfl (lv_at hl 3 rfl) ?_
      refine lv_goto (tgt := 39) hx hb dX12_goes_35 (by decide) ?_
      exact J_39 zv0 zv1 zv2 zv3 zv4 zv3 _ _ _ ls hf hw (lv_sub hl [0, 1, 2, 3, 4] rfl)
  unfold f_X12_goes at hf
  refine lv_iconst (v := 1) hx hb dX12_goes_0 (by decide) ?_
  refine lv_iconst (v := 2) hx hb dX12_goes_1 (by decide) ?_
  refine lv_aload_n hx hb dX12_goes_2 rfl (lv_at hl 0 rfl) ?_
  refine lv_iload_n hx hb dX12_goes_3 rfl (lv_at hl 2 rfl) ?_
  refine lv_iload_n hx hb dX12_goes_4 rfl (lv_at hl 3 rfl) ?_
  obtain ⟨qizh1, hf⟩ := gg_el hf
  obtain ⟨zt2, zh1, qzh1, hf⟩ := gc_el hf
  refine gx_ki (gx_runV (As := [.int za2, .int za3]) (rest := [.int 2, .int 1]) X hw (c_X12_floors l E N za0 za2 za3 zh qzh1) kX12_floors mm_X12_258 qizh1 clX12 ⟨Nat.le_of_ble_eq_true rfl, Nat.le_of_ble_eq_true rfl⟩ rfl rfl rfl hl.1 (Nat.le_of_ble_eq_true rfl) rfl dX12_goes_5 ⟨Nat.le_of_ble_eq_true rfl, Nat.le_of_ble_eq_true rfl⟩) hw (fun H locs hw => ?_)
  refine lv_imul hx hb dX12_goes_8 ?_
  refine lv_iadd hx hb dX12_goes_9 ?_
  refine lv_aload_n hx hb dX12_goes_10 rfl (lv_at hl 0 rfl) ?_
  refine W.eq (g2 := F0 m 11 ls [.ref (gB E + za0), .int (1 + (2 * zt2))]) rfl ?_
  refine lv_iload_n hx hb dX12_goes_11 rfl (lv_at hl 1 rfl) ?_
  refine lv_iconst (v := 0) hx hb dX12_goes_12 (by decide) ?_
  obtain ⟨qizh3, hf⟩ := gg_el hf
  obtain ⟨zt4, zh3, qzh3, hf⟩ := gc_el hf
  refine gx_ki (gx_runV (As := [.int za1, .int 0]) (rest := [.int (1 + (2 * zt2))]) X hw (c_X12_guestOf l E N za0 za1 0 zh1 qzh3) kX12_guestOf mm_X12_261 qizh3 clX12 ⟨Nat.le_of_ble_eq_true rfl, Nat.le_of_ble_eq_true rfl⟩ rfl rfl rfl hl.1 (Nat.le_of_ble_eq_true rfl) rfl dX12_goes_13 ⟨Nat.le_of_ble_eq_true rfl, Nat.le_of_ble_eq_true rfl⟩) hw (fun H locs hw => ?_)
  refine lv_bipush (v := 10) hx hb dX12_goes_16 (by decide) ?_
  refine lv_idiv hx hb dX12_goes_18 (by decide) ?_
  refine lv_iadd hx hb dX12_goes_19 ?_
  refine lv_topi (fun zx5 ezx5 => ?_)
  have hf := gl_el hf ezx5
  refine lv_istore (lv' := [(4, .int zx5), (0, .ref (gB E + za0)), (1, .int za1), (2, .int za2), (3, .int za3)]) hx hb dX12_goes_20 hl (by decide) rfl (fun ls hl => ?_)
  refine lv_iload_n hx hb dX12_goes_22 rfl (lv_at hl 3 rfl) ?_
  refine lv_if_lt (tgt := 30) hx hb dX12_goes_23 (by decide) (fun qc6 => ?_) (fun qc6 => ?_)
  · have hf := gif_t hf qc6
    exact J_30 za0 za1 za2 za3 zx5 _ _ _ ls hf hw (lv_sub hl [1, 2, 3, 4, 0] rfl)
  · have hf := gif_f hf qc6
    refine lv_iload_n hx hb dX12_goes_26 rfl (lv_at hl 4 rfl) ?_
    refine W.eq (g2 := F0 m 27 ls [.int za3]) rfl ?_
    refine lv_if_ge (tgt := 44) hx hb dX12_goes_27 (by decide) (fun qc7 => ?_) (fun qc7 => ?_)
    · have hf := gif_t hf qc7
      refine lv_iload_n hx hb dX12_goes_44 rfl (lv_at hl 3 rfl) ?_
      refine lv_iload_n hx hb dX12_goes_45 rfl (lv_at hl 4 rfl) ?_
      refine lv_icmp_ge (tgt := 55) hx hb dX12_goes_46 (by decide) (fun qc8 => ?_) (fun qc8 => ?_)
      · have hf := gif_t hf qc8
        refine lv_iload_n hx hb dX12_goes_55 rfl (lv_at hl 3 rfl) ?_
        refine lv_iload_n hx hb dX12_goes_56 rfl (lv_at hl 4 rfl) ?_
        refine lv_isub hx hb dX12_goes_57 ?_
        exact J_58 za0 za1 za2 za3 zx5 (za2 - za3) _ _ _ ls hf hw (lv_sub hl [1, 2, 3, 4, 0] rfl)
      · have hf := gif_f hf qc8
        refine lv_iload_n hx hb dX12_goes_49 rfl (lv_at hl 4 rfl) ?_
        refine lv_iload_n hx hb dX12_goes_50 rfl (lv_at hl 3 rfl) ?_
        refine lv_isub hx hb dX12_goes_51 ?_
        refine lv_goto (tgt := 58) hx hb dX12_goes_52 (by decide) ?_
        exact J_58 za0 za1 za2 za3 zx5 (za3 - za2) _ _ _ ls hf hw (lv_sub hl [1, 2, 3, 4, 0] rfl)
    · have hf := gif_f hf qc7
      exact J_30 za0 za1 za2 za3 zx5 _ _ _ ls hf hw (lv_sub hl [1, 2, 3, 4, 0] rfl)
abbrev rm_X12_firstEmpty : Room := { frames := 1, cells := 0, slots := 0, locals := 20 }
set_option maxHeartbeats 4000000 in
set_option maxRecDepth 100000 in
theorem c_X12_firstEmpty (l : Launch) (E : gE) (N : Nat) (za0 : Nat) (zh : PH) {h9 : PH} {r9 : Int32} (hf : f_X12_firstEmpty N za0 zh = some (r9, h9)) : Met l yX12_firstEmpty (gWS yX12_firstEmpty cX12_firstEmpty 2 (some .int)) rm_X12_firstEmpty (gPc E [.ref (gB E + za0)] zh) (gQi E r9 h9) 0 0 (gA E) := by
  refine gx_met (by decide) ?_ rfl
  intro p e s m below meth c X hr hlk hin2 hw
  have hx := X.1.1
  have hb := X.1.2.1
  have hl := lv_entry [.ref (gB E + za0)] (n := 2) (Nat.le_of_ble_eq_true rfl)
  rw [lg_entry_eq]
  generalize (lg_sl [.ref (gB E + za0)] ++ List.replicate (2 - (lg_sl [.ref (gB E + za0)]).length) Slot.unset).toArray = ls at hl ⊢
  have hl : lv_has ls 2 [(0, .ref (gB E + za0))] := hl
  have J_25 : ∀ (zv1 : Int32) (zh : PH) (H : Heap) (locs : List Loc) (ls : Array Slot), f_X12_firstEmpty_25 N zv1 zh = some (r9, h9) → gw E s zh H locs → lv_has ls 2 [(1, .int zv1)] → W p l e rm_X12_firstEmpty s m [.ref (gB E + za0)].toArray below meth c H locs 0 0 (MQ below (gQi E r9 h9) [.ref (gB E + za0)].toArray s 0 0 (gA E)) (F0 m 25 ls []) := by
    intro zv1 zh H locs ls hf hw hl
    unfold f_X12_firstEmpty_25 at hf
    refine lv_iload_n hx hb dX12_firstEmpty_25 rfl (lv_at hl 0 rfl) ?_
    exact gx_iret X hr hlk hw hf dX12_firstEmpty_26
  have L_2 : ∀ (zn2 : Nat) (zv0 : Nat) (zv1 : Int32) (zh : PH) (H : Heap) (locs : List Loc) (ls : Array Slot), gi (fun zk zs => f_X12_firstEmpty_2 N zk zs.1 zs.2.1 zs.2.2) zn2 (zv0, zv1, zh) = some (r9, h9) → gw E s zh H locs → lv_has ls 2 [(0, .ref (gB E + zv0)), (1, .int zv1)] → W p l e rm_X12_firstEmpty s m [.ref (gB E + za0)].toArray below meth c H locs 0 0 (MQ below (gQi E r9 h9) [.ref (gB E + za0)].toArray s 0 0 (gA E)) (F0 m 2 ls []) := by
    intro zn2
    induction zn2 with
    | zero =>
      intro zv0 zv1 zh H locs ls hf
      cases hf
    | succ zn2 ih_2 =>
      intro zv0 zv1 zh H locs ls hf hw hl
      have hf := gi_s hf
      dsimp only at hf
      unfold f_X12_firstEmpty_2 at hf
      refine lv_iload_n hx hb dX12_firstEmpty_2 rfl (lv_at hl 1 rfl) ?_
      refine lv_aload_n hx hb dX12_firstEmpty_3 rfl (lv_at hl 0 rfl) ?_
      obtain ⟨qizh1, hf⟩ := gg_el hf
      obtain ⟨zt2, zh1, qzh1, hf⟩ := gc_el hf
      refine gx_ki (gx_runV (As := []) (rest := [.int zv1]) X hw (c_X12_rooms l E N zv0 zh qzh1) kX12_rooms mm_X12_231 qizh1 clX12 ⟨Nat.le_of_ble_eq_true rfl, Nat.le_of_ble_eq_true rfl⟩ rfl rfl rfl hl.1 (Nat.le_of_ble_eq_true rfl) rfl dX12_firstEmpty_4 ⟨Nat.le_of_ble_eq_true rfl, Nat.le_of_ble_eq_true rfl⟩) hw (fun H locs hw => ?_)
      refine lv_icmp_ge (tgt := 25) hx hb dX12_firstEmpty_7 (by decide) (fun qc3 => ?_) (fun qc3 => ?_)
      · have hf := gif_t hf qc3
        exact J_25 zv1 _ _ _ ls hf hw (lv_sub hl [1] rfl)
      · have hf := gif_f hf qc3
        refine lv_aload_n hx hb dX12_firstEmpty_10 rfl (lv_at hl 0 rfl) ?_
        obtain ⟨zt4, qzt4, hf⟩ := gb_el hf
        refine gx_getR X hw qzt4 clX12 (by decide) mf_X12_86 dX12_firstEmpty_11 ?_
        refine lv_iload_n hx hb dX12_firstEmpty_14 rfl (lv_at hl 1 rfl) ?_
        obtain ⟨zt5, qzt5, hf⟩ := gb_el hf
        refine gx_iald X hw qzt5 dX12_firstEmpty_15 ?_
        refine lv_if_lt (tgt := 25) hx hb dX12_firstEmpty_16 (by decide) (fun qc6 => ?_) (fun qc6 => ?_)
        · have hf := gif_t hf qc6
          exact J_25 zv1 _ _ _ ls hf hw (lv_sub hl [1] rfl)
        · have hf := gif_f hf qc6
          refine W.eq (g2 := F0 m 19 ls []) rfl ?_
          obtain ⟨zx7, ezx7⟩ : ∃ y : Int32, y = zv1 + 1 := ⟨_, rfl⟩
          have hf := gl_el hf ezx7
          refine lv_iinc (v := zx7) (lv' := [(1, .int zx7), (0, .ref (gB E + zv0))]) hx hb dX12_firstEmpty_19 hl (k := 1) rfl (by rw [ezx7]; rfl) (by decide) rfl (fun ls hl => ?_)
          refine lv_goto (tgt := 2) hx hb dX12_firstEmpty_22 (by decide) ?_
          exact ih_2 zv0 zx7 _ _ _ ls hf hw (lv_sub hl [1, 0] rfl)
  unfold f_X12_firstEmpty at hf
  refine lv_iconst (v := 0) hx hb dX12_firstEmpty_0 (by decide) ?_
  refine lv_istore_n (lv' := [(1, .int 0), (0, .ref (gB E + za0))]) hx hb dX12_firstEmpty_1 rfl hl (by decide) rfl (fun ls hl => ?_)
  exact L_2 N za0 0 _ _ _ ls hf hw (lv_sub hl [1, 0] rfl)
abbrev rm_X12_comes : Room := { frames := 3, cells := 0, slots := 0, locals := 70 }
set_option maxHeartbeats 4000000 in
set_option maxRecDepth 100000 in
theorem c_X12_comes (l : Launch) (E : gE) (N : Nat) (za0 : Nat) (za1 : Int32) (zh : PH) {h9 : PH} (hf : f_X12_comes N za0 za1 zh = some h9) : Met l yX12_comes (gWS yX12_comes cX12_comes 3 none) rm_X12_comes (gPc E [.ref (gB E + za0), .int za1] zh) (gQv E h9) 0 0 (gA E) := by
  refine gx_met (by decide) ?_ rfl
  intro p e s m below meth c X hr hlk hin2 hw
  have hx := X.1.1
  have hb := X.1.2.1
  have hl := lv_entry [.ref (gB E + za0), .int za1] (n := 3) (Nat.le_of_ble_eq_true rfl)
  rw [lg_entry_eq]
  generalize (lg_sl [.ref (gB E + za0), .int za1] ++ List.replicate (3 - (lg_sl [.ref (gB E + za0), .int za1]).length) Slot.unset).toArray = ls at hl ⊢
  have hl : lv_has ls 3 [(0, .ref (gB E + za0)), (1, .int za1)] := hl
  have L_12 : ∀ (zn12 : Nat) (zv0 : Nat) (zv1 : Int32) (zv2 : Int32) (zh : PH) (H : Heap) (locs : List Loc) (ls : Array Slot), gi (fun zk zs => f_X12_comes_12 N zk zs.1 zs.2.1 zs.2.2.1 zs.2.2.2) zn12 (zv0, zv1, zv2, zh) = some h9 → gw E s zh H locs → lv_has ls 3 [(0, .ref (gB E + zv0)), (1, .int zv1), (2, .int zv2)] → W p l e rm_X12_comes s m [.ref (gB E + za0), .int za1].toArray below meth c H locs 0 0 (MQ below (gQv E h9) [.ref (gB E + za0), .int za1].toArray s 0 0 (gA E)) (F0 m 12 ls []) := by
    intro zn12
    induction zn12 with
    | zero =>
      intro zv0 zv1 zv2 zh H locs ls hf
      cases hf
    | succ zn12 ih_12 =>
      intro zv0 zv1 zv2 zh H locs ls hf hw hl
      have hf := gi_s hf
      dsimp only at hf
      unfold f_X12_comes_12 at hf
      refine lv_iload_n hx hb dX12_comes_12 rfl (lv_at hl 2 rfl) ?_
      refine lv_if_le (tgt := 38) hx hb dX12_comes_13 (by decide) (fun qc1 => ?_) (fun qc1 => ?_)
      · have hf := gif_t hf qc1
        refine lv_aload_n hx hb dX12_comes_38 rfl (lv_at hl 0 rfl) ?_
        refine lv_iload_n hx hb dX12_comes_39 rfl (lv_at hl 1 rfl) ?_
        refine lv_iconst (v := (-1)) hx hb dX12_comes_40 (by decide) ?_
        refine lv_iconst (v := 0) hx hb dX12_comes_41 (by decide) ?_
        obtain ⟨qizh2, hf⟩ := gg_el hf
        obtain ⟨zh2, qzh2, hf⟩ := gb_el hf
        refine gx_kv (gx_runV (As := [.int zv1, .int (-1), .int 0]) (rest := []) X hw (c_X12_goes l E N zv0 zv1 (-1) 0 zh qzh2) kX12_goes mm_X12_267 qizh2 clX12 ⟨Nat.le_of_ble_eq_true rfl, Nat.le_of_ble_eq_true rfl⟩ rfl rfl rfl hl.1 (Nat.le_of_ble_eq_true rfl) rfl dX12_comes_42 ⟨Nat.le_of_ble_eq_true rfl, Nat.le_of_ble_eq_true rfl⟩) hw (fun H locs hw => ?_)
        exact gx_vret X hr hlk hw hf dX12_comes_45
      · have hf := gif_f hf qc1
        refine lv_aload_n hx hb dX12_comes_16 rfl (lv_at hl 0 rfl) ?_
        refine lv_aload_n hx hb dX12_comes_17 rfl (lv_at hl 0 rfl) ?_
        obtain ⟨zt3, qzt3, hf⟩ := gb_el hf
        refine gx_getR X hw qzt3 clX12 (by decide) mf_X12_86 dX12_comes_18 ?_
        refine lv_iload_n hx hb dX12_comes_21 rfl (lv_at hl 2 rfl) ?_
        refine lv_iconst (v := 1) hx hb dX12_comes_22 (by decide) ?_
        refine lv_isub hx hb dX12_comes_23 ?_
        obtain ⟨zt4, qzt4, hf⟩ := gb_el hf
        refine gx_iald X hw qzt4 dX12_comes_24 ?_
        refine W.eq (g2 := F0 m 25 ls [.int zt4, .ref (gB E + zv0)]) rfl ?_
        refine lv_iload_n hx hb dX12_comes_25 rfl (lv_at hl 2 rfl) ?_
        refine lv_iconst (v := 1) hx hb dX12_comes_26 (by decide) ?_
        refine lv_isub hx hb dX12_comes_27 ?_
        refine lv_iload_n hx hb dX12_comes_28 rfl (lv_at hl 2 rfl) ?_
        obtain ⟨qizh5, hf⟩ := gg_el hf
        obtain ⟨zh5, qzh5, hf⟩ := gb_el hf
        refine gx_kv (gx_runV (As := [.int zt4, .int (zv2 - 1), .int zv2]) (rest := []) X hw (c_X12_goes l E N zv0 zt4 (zv2 - 1) zv2 zh qzh5) kX12_goes mm_X12_267 qizh5 clX12 ⟨Nat.le_of_ble_eq_true rfl, Nat.le_of_ble_eq_true rfl⟩ rfl rfl rfl hl.1 (Nat.le_of_ble_eq_true rfl) rfl dX12_comes_29 ⟨Nat.le_of_ble_eq_true rfl, Nat.le_of_ble_eq_true rfl⟩) hw (fun H locs hw => ?_)
        obtain ⟨zx6, ezx6⟩ : ∃ y : Int32, y = zv2 + (-1) := ⟨_, rfl⟩
        have hf := gl_el hf ezx6
        refine lv_iinc (v := zx6) (lv' := [(2, .int zx6), (0, .ref (gB E + zv0)), (1, .int zv1)]) hx hb dX12_comes_32 hl (k := 2) rfl (by rw [ezx6]; rfl) (by decide) rfl (fun ls hl => ?_)
        refine lv_goto (tgt := 12) hx hb dX12_comes_35 (by decide) ?_
        exact ih_12 zv0 zv1 zx6 _ _ _ ls hf hw (lv_sub hl [1, 2, 0] rfl)
  unfold f_X12_comes at hf
  refine lv_aload_n hx hb dX12_comes_0 rfl (lv_at hl 0 rfl) ?_
  obtain ⟨zt1, qzt1, hf⟩ := gb_el hf
  refine gx_getR X hw qzt1 clX12 (by decide) mf_X12_95 dX12_comes_1 ?_
  refine lv_iload_n hx hb dX12_comes_4 rfl (lv_at hl 1 rfl) ?_
  refine lv_iconst (v := 1) hx hb dX12_comes_5 (by decide) ?_
  obtain ⟨zh2, qzh2, hf⟩ := gb_el hf
  refine gx_zast X hw qzh2 dX12_comes_6 (fun H locs hw => ?_)
  refine lv_aload_n hx hb dX12_comes_7 rfl (lv_at hl 0 rfl) ?_
  obtain ⟨qizh3, hf⟩ := gg_el hf
  obtain ⟨zt4, zh3, qzh3, hf⟩ := gc_el hf
  refine gx_ki (gx_runV (As := []) (rest := []) X hw (c_X12_firstEmpty l E N za0 zh2 qzh3) kX12_firstEmpty mm_X12_264 qizh3 clX12 ⟨Nat.le_of_ble_eq_true rfl, Nat.le_of_ble_eq_true rfl⟩ rfl rfl rfl hl.1 (Nat.le_of_ble_eq_true rfl) rfl dX12_comes_8 ⟨Nat.le_of_ble_eq_true rfl, Nat.le_of_ble_eq_true rfl⟩) hw (fun H locs hw => ?_)
  refine lv_istore_n (lv' := [(2, .int zt4), (0, .ref (gB E + za0)), (1, .int za1)]) hx hb dX12_comes_11 rfl hl (by decide) rfl (fun ls hl => ?_)
  exact L_12 N za0 za1 zt4 _ _ _ ls hf hw (lv_sub hl [1, 2, 0] rfl)
abbrev rm_X12_roomOf : Room := { frames := 1, cells := 0, slots := 0, locals := 20 }
set_option maxHeartbeats 4000000 in
set_option maxRecDepth 100000 in
theorem c_X12_roomOf (l : Launch) (E : gE) (N : Nat) (za0 : Nat) (za1 : Int32) (zh : PH) {h9 : PH} {r9 : Int32} (hf : f_X12_roomOf N za0 za1 zh = some (r9, h9)) : Met l yX12_roomOf (gWS yX12_roomOf cX12_roomOf 3 (some .int)) rm_X12_roomOf (gPc E [.ref (gB E + za0), .int za1] zh) (gQi E r9 h9) 0 0 (gA E) := by
  refine gx_met (by decide) ?_ rfl
  intro p e s m below meth c X hr hlk hin2 hw
  have hx := X.1.1
  have hb := X.1.2.1
  have hl := lv_entry [.ref (gB E + za0), .int za1] (n := 3) (Nat.le_of_ble_eq_true rfl)
  rw [lg_entry_eq]
  generalize (lg_sl [.ref (gB E + za0), .int za1] ++ List.replicate (3 - (lg_sl [.ref (gB E + za0), .int za1]).length) Slot.unset).toArray = ls at hl ⊢
  have hl : lv_has ls 3 [(0, .ref (gB E + za0)), (1, .int za1)] := hl
  have L_2 : ∀ (zn2 : Nat) (zv0 : Nat) (zv1 : Int32) (zv2 : Int32) (zh : PH) (H : Heap) (locs : List Loc) (ls : Array Slot), gi (fun zk zs => f_X12_roomOf_2 N zk zs.1 zs.2.1 zs.2.2.1 zs.2.2.2) zn2 (zv0, zv1, zv2, zh) = some (r9, h9) → gw E s zh H locs → lv_has ls 3 [(0, .ref (gB E + zv0)), (1, .int zv1), (2, .int zv2)] → W p l e rm_X12_roomOf s m [.ref (gB E + za0), .int za1].toArray below meth c H locs 0 0 (MQ below (gQi E r9 h9) [.ref (gB E + za0), .int za1].toArray s 0 0 (gA E)) (F0 m 2 ls []) := by
    intro zn2
    induction zn2 with
    | zero =>
      intro zv0 zv1 zv2 zh H locs ls hf
      cases hf
    | succ zn2 ih_2 =>
      intro zv0 zv1 zv2 zh H locs ls hf hw hl
      have hf := gi_s hf
      dsimp only at hf
      unfold f_X12_roomOf_2 at hf
      refine lv_iload_n hx hb dX12_roomOf_2 rfl (lv_at hl 2 rfl) ?_
      refine lv_aload_n hx hb dX12_roomOf_3 rfl (lv_at hl 0 rfl) ?_
      obtain ⟨qizh1, hf⟩ := gg_el hf
      obtain ⟨zt2, zh1, qzh1, hf⟩ := gc_el hf
      refine gx_ki (gx_runV (As := []) (rest := [.int zv2]) X hw (c_X12_rooms l E N zv0 zh qzh1) kX12_rooms mm_X12_231 qizh1 clX12 ⟨Nat.le_of_ble_eq_true rfl, Nat.le_of_ble_eq_true rfl⟩ rfl rfl rfl hl.1 (Nat.le_of_ble_eq_true rfl) rfl dX12_roomOf_4 ⟨Nat.le_of_ble_eq_true rfl, Nat.le_of_ble_eq_true rfl⟩) hw (fun H locs hw => ?_)
      refine lv_icmp_ge (tgt := 28) hx hb dX12_roomOf_7 (by decide) (fun qc3 => ?_) (fun qc3 => ?_)
      · have hf := gif_t hf qc3
        refine lv_iconst (v := (-1)) hx hb dX12_roomOf_28 (by decide) ?_
        exact gx_iret X hr hlk hw hf dX12_roomOf_29
      · have hf := gif_f hf qc3
        refine lv_aload_n hx hb dX12_roomOf_10 rfl (lv_at hl 0 rfl) ?_
        obtain ⟨zt4, qzt4, hf⟩ := gb_el hf
        refine gx_getR X hw qzt4 clX12 (by decide) mf_X12_86 dX12_roomOf_11 ?_
        refine lv_iload_n hx hb dX12_roomOf_14 rfl (lv_at hl 2 rfl) ?_
        obtain ⟨zt5, qzt5, hf⟩ := gb_el hf
        refine gx_iald X hw qzt5 dX12_roomOf_15 ?_
        refine lv_iload_n hx hb dX12_roomOf_16 rfl (lv_at hl 1 rfl) ?_
        refine W.eq (g2 := F0 m 17 ls [.int zv1, .int zt5]) rfl ?_
        refine lv_icmp_ne (tgt := 22) hx hb dX12_roomOf_17 (by decide) (fun qc6 => ?_) (fun qc6 => ?_)
        · have hf := gif_f hf qc6
          obtain ⟨zx7, ezx7⟩ : ∃ y : Int32, y = zv2 + 1 := ⟨_, rfl⟩
          have hf := gl_el hf ezx7
          refine lv_iinc (v := zx7) (lv' := [(2, .int zx7), (0, .ref (gB E + zv0)), (1, .int zv1)]) hx hb dX12_roomOf_22 hl (k := 2) rfl (by rw [ezx7]; rfl) (by decide) rfl (fun ls hl => ?_)
          refine lv_goto (tgt := 2) hx hb dX12_roomOf_25 (by decide) ?_
          exact ih_2 zv0 zv1 zx7 _ _ _ ls hf hw (lv_sub hl [1, 2, 0] rfl)
        · have hf := gif_t hf qc6
          refine lv_iload_n hx hb dX12_roomOf_20 rfl (lv_at hl 2 rfl) ?_
          exact gx_iret X hr hlk hw hf dX12_roomOf_21
  unfold f_X12_roomOf at hf
  refine lv_iconst (v := 0) hx hb dX12_roomOf_0 (by decide) ?_
  refine lv_istore_n (lv' := [(2, .int 0), (0, .ref (gB E + za0)), (1, .int za1)]) hx hb dX12_roomOf_1 rfl hl (by decide) rfl (fun ls hl => ?_)
  exact L_2 N za0 za1 0 _ _ _ ls hf hw (lv_sub hl [1, 2, 0] rfl)
abbrev rm_X12_givesFor : Room := { frames := 2, cells := 0, slots := 0, locals := 46 }
set_option maxHeartbeats 4000000 in
set_option maxRecDepth 100000 in
theorem c_X12_givesFor (l : Launch) (E : gE) (N : Nat) (za0 : Nat) (za1 : Int32) (za2 : Int32) (za3 : Int32) (za4 : Int32) (zh : PH) {h9 : PH} {r9 : Int32} (hf : f_X12_givesFor N za0 za1 za2 za3 za4 zh = some (r9, h9)) : Met l yX12_givesFor (gWS yX12_givesFor cX12_givesFor 5 (some .int)) rm_X12_givesFor (gPc E [.ref (gB E + za0), .int za1, .int za2, .int za3, .int za4] zh) (gQi E r9 h9) 0 0 (gA E) := by
  refine gx_met (by decide) ?_ rfl
  intro p e s m below meth c X hr hlk hin2 hw
  have hx := X.1.1
  have hb := X.1.2.1
  have hl := lv_entry [.ref (gB E + za0), .int za1, .int za2, .int za3, .int za4] (n := 5) (Nat.le_of_ble_eq_true rfl)
  rw [lg_entry_eq]
  generalize (lg_sl [.ref (gB E + za0), .int za1, .int za2, .int za3, .int za4] ++ List.replicate (5 - (lg_sl [.ref (gB E + za0), .int za1, .int za2, .int za3, .int za4]).length) Slot.unset).toArray = ls at hl ⊢
  have hl : lv_has ls 5 [(0, .ref (gB E + za0)), (1, .int za1), (2, .int za2), (3, .int za3), (4, .int za4)] := hl
  unfold f_X12_givesFor at hf
  refine lv_aload_n hx hb dX12_givesFor_0 rfl (lv_at hl 0 rfl) ?_
  obtain ⟨zt1, qzt1, hf⟩ := gb_el hf
  refine gx_getR X hw qzt1 clX12 (by decide) mf_X12_77 dX12_givesFor_1 ?_
  refine lv_iconst (v := 0) hx hb dX12_givesFor_4 (by decide) ?_
  refine lv_aload_n hx hb dX12_givesFor_5 rfl (lv_at hl 0 rfl) ?_
  refine lv_iload_n hx hb dX12_givesFor_6 rfl (lv_at hl 2 rfl) ?_
  refine lv_iconst (v := 0) hx hb dX12_givesFor_7 (by decide) ?_
  obtain ⟨qizh2, hf⟩ := gg_el hf
  obtain ⟨zt3, zh2, qzh2, hf⟩ := gc_el hf
  refine gx_ki (gx_runV (As := [.int za2, .int 0]) (rest := [.int 0, .ref (gB E + zt1)]) X hw (c_X12_guestOf l E N za0 za2 0 zh qzh2) kX12_guestOf mm_X12_261 qizh2 clX12 ⟨Nat.le_of_ble_eq_true rfl, Nat.le_of_ble_eq_true rfl⟩ rfl rfl rfl hl.1 (Nat.le_of_ble_eq_true rfl) rfl dX12_givesFor_8 ⟨Nat.le_of_ble_eq_true rfl, Nat.le_of_ble_eq_true rfl⟩) hw (fun H locs hw => ?_)
  obtain ⟨zh4, qzh4, hf⟩ := gb_el hf
  refine gx_iast X hw qzh4 dX12_givesFor_11 (fun H locs hw => ?_)
  refine lv_aload_n hx hb dX12_givesFor_12 rfl (lv_at hl 0 rfl) ?_
  refine W.eq (g2 := F0 m 13 ls [.ref (gB E + za0)]) rfl ?_
  obtain ⟨zt5, qzt5, hf⟩ := gb_el hf
  refine gx_getR X hw qzt5 clX12 (by decide) mf_X12_77 dX12_givesFor_13 ?_
  refine lv_iconst (v := 1) hx hb dX12_givesFor_16 (by decide) ?_
  refine lv_aload_n hx hb dX12_givesFor_17 rfl (lv_at hl 0 rfl) ?_
  refine lv_iload_n hx hb dX12_givesFor_18 rfl (lv_at hl 2 rfl) ?_
  refine lv_iconst (v := 1) hx hb dX12_givesFor_19 (by decide) ?_
  obtain ⟨qizh6, hf⟩ := gg_el hf
  obtain ⟨zt7, zh6, qzh6, hf⟩ := gc_el hf
  refine gx_ki (gx_runV (As := [.int za2, .int 1]) (rest := [.int 1, .ref (gB E + zt5)]) X hw (c_X12_guestOf l E N za0 za2 1 zh4 qzh6) kX12_guestOf mm_X12_261 qizh6 clX12 ⟨Nat.le_of_ble_eq_true rfl, Nat.le_of_ble_eq_true rfl⟩ rfl rfl rfl hl.1 (Nat.le_of_ble_eq_true rfl) rfl dX12_givesFor_20 ⟨Nat.le_of_ble_eq_true rfl, Nat.le_of_ble_eq_true rfl⟩) hw (fun H locs hw => ?_)
  obtain ⟨zh8, qzh8, hf⟩ := gb_el hf
  refine gx_iast X hw qzh8 dX12_givesFor_23 (fun H locs hw => ?_)
  refine lv_aload_n hx hb dX12_givesFor_24 rfl (lv_at hl 0 rfl) ?_
  obtain ⟨zt9, qzt9, hf⟩ := gb_el hf
  refine gx_getR X hw qzt9 clX12 (by decide) mf_X12_77 dX12_givesFor_25 ?_
  refine lv_iconst (v := 2) hx hb dX12_givesFor_28 (by decide) ?_
  refine W.eq (g2 := F0 m 29 ls [.int 2, .ref (gB E + zt9)]) rfl ?_
  refine lv_aload_n hx hb dX12_givesFor_29 rfl (lv_at hl 0 rfl) ?_
  refine lv_iload_n hx hb dX12_givesFor_30 rfl (lv_at hl 2 rfl) ?_
  refine lv_iconst (v := 2) hx hb dX12_givesFor_31 (by decide) ?_
  obtain ⟨qizh10, hf⟩ := gg_el hf
  obtain ⟨zt11, zh10, qzh10, hf⟩ := gc_el hf
  refine gx_ki (gx_runV (As := [.int za2, .int 2]) (rest := [.int 2, .ref (gB E + zt9)]) X hw (c_X12_guestOf l E N za0 za2 2 zh8 qzh10) kX12_guestOf mm_X12_261 qizh10 clX12 ⟨Nat.le_of_ble_eq_true rfl, Nat.le_of_ble_eq_true rfl⟩ rfl rfl rfl hl.1 (Nat.le_of_ble_eq_true rfl) rfl dX12_givesFor_32 ⟨Nat.le_of_ble_eq_true rfl, Nat.le_of_ble_eq_true rfl⟩) hw (fun H locs hw => ?_)
  obtain ⟨zh12, qzh12, hf⟩ := gb_el hf
  refine gx_iast X hw qzh12 dX12_givesFor_35 (fun H locs hw => ?_)
  refine lv_aload_n hx hb dX12_givesFor_36 rfl (lv_at hl 0 rfl) ?_
  obtain ⟨zt13, qzt13, hf⟩ := gb_el hf
  refine gx_getR X hw qzt13 clX12 (by decide) mf_X12_77 dX12_givesFor_37 ?_
  refine lv_iconst (v := 3) hx hb dX12_givesFor_40 (by decide) ?_
  refine lv_iload_n hx hb dX12_givesFor_41 rfl (lv_at hl 3 rfl) ?_
  obtain ⟨zh14, qzh14, hf⟩ := gb_el hf
  refine gx_iast X hw qzh14 dX12_givesFor_42 (fun H locs hw => ?_)
  refine W.eq (g2 := F0 m 43 ls []) rfl ?_
  refine lv_aload_n hx hb dX12_givesFor_43 rfl (lv_at hl 0 rfl) ?_
  obtain ⟨zt15, qzt15, hf⟩ := gb_el hf
  refine gx_getR X hw qzt15 clX12 (by decide) mf_X12_77 dX12_givesFor_44 ?_
  refine lv_iconst (v := 4) hx hb dX12_givesFor_47 (by decide) ?_
  refine lv_iload hx hb dX12_givesFor_48 (lv_at hl 4 rfl) ?_
  obtain ⟨zh16, qzh16, hf⟩ := gb_el hf
  refine gx_iast X hw qzh16 dX12_givesFor_50 (fun H locs hw => ?_)
  refine lv_aload_n hx hb dX12_givesFor_51 rfl (lv_at hl 0 rfl) ?_
  obtain ⟨zt17, qzt17, hf⟩ := gb_el hf
  refine gx_getR X hw qzt17 clX12 (by decide) mf_X12_77 dX12_givesFor_52 ?_
  refine lv_iconst (v := 5) hx hb dX12_givesFor_55 (by decide) ?_
  refine lv_aload_n hx hb dX12_givesFor_56 rfl (lv_at hl 0 rfl) ?_
  refine lv_iload_n hx hb dX12_givesFor_57 rfl (lv_at hl 3 rfl) ?_
  refine W.eq (g2 := F0 m 58 ls [.int za3, .ref (gB E + za0), .int 5, .ref (gB E + zt17)]) rfl ?_
  refine lv_iload hx hb dX12_givesFor_58 (lv_at hl 4 rfl) ?_
  obtain ⟨qizh18, hf⟩ := gg_el hf
  obtain ⟨zt19, zh18, qzh18, hf⟩ := gc_el hf
  refine gx_ki (gx_runV (As := [.int za3, .int za4]) (rest := [.int 5, .ref (gB E + zt17)]) X hw (c_X12_floors l E N za0 za3 za4 zh16 qzh18) kX12_floors mm_X12_258 qizh18 clX12 ⟨Nat.le_of_ble_eq_true rfl, Nat.le_of_ble_eq_true rfl⟩ rfl rfl rfl hl.1 (Nat.le_of_ble_eq_true rfl) rfl dX12_givesFor_60 ⟨Nat.le_of_ble_eq_true rfl, Nat.le_of_ble_eq_true rfl⟩) hw (fun H locs hw => ?_)
  obtain ⟨zh20, qzh20, hf⟩ := gb_el hf
  refine gx_iast X hw qzh20 dX12_givesFor_63 (fun H locs hw => ?_)
  refine lv_aload_n hx hb dX12_givesFor_64 rfl (lv_at hl 0 rfl) ?_
  obtain ⟨zt21, qzt21, hf⟩ := gb_el hf
  refine gx_getR X hw qzt21 clX12 (by decide) mf_X12_77 dX12_givesFor_65 ?_
  refine lv_bipush (v := 6) hx hb dX12_givesFor_68 (by decide) ?_
  refine lv_aload_n hx hb dX12_givesFor_70 rfl (lv_at hl 0 rfl) ?_
  obtain ⟨zt22, qzt22, hf⟩ := gb_el hf
  refine gx_getR X hw qzt22 clX12 (by decide) mf_X12_65 dX12_givesFor_71 ?_
  refine lv_iconst (v := 3) hx hb dX12_givesFor_74 (by decide) ?_
  refine lv_iconst (v := 2) hx hb dX12_givesFor_75 (by decide) ?_
  refine W.eq (g2 := F0 m 76 ls [.int 2, .int 3, .ref (gB E + zt22), .int 6, .ref (gB E + zt21)]) rfl ?_
  refine lv_iload hx hb dX12_givesFor_76 (lv_at hl 4 rfl) ?_
  refine lv_imul hx hb dX12_givesFor_78 ?_
  refine lv_iadd hx hb dX12_givesFor_79 ?_
  refine lv_iconst (v := 1) hx hb dX12_givesFor_80 (by decide) ?_
  refine lv_iadd hx hb dX12_givesFor_81 ?_
  obtain ⟨zt23, qzt23, hf⟩ := gb_el hf
  refine gx_iald X hw qzt23 dX12_givesFor_82 ?_
  obtain ⟨zh24, qzh24, hf⟩ := gb_el hf
  refine gx_iast X hw qzh24 dX12_givesFor_83 (fun H locs hw => ?_)
  refine lv_aload_n hx hb dX12_givesFor_84 rfl (lv_at hl 0 rfl) ?_
  obtain ⟨zt25, qzt25, hf⟩ := gb_el hf
  refine gx_getR X hw qzt25 clX12 (by decide) mf_X12_77 dX12_givesFor_85 ?_
  refine lv_bipush (v := 7) hx hb dX12_givesFor_88 (by decide) ?_
  refine W.eq (g2 := F0 m 90 ls [.int 7, .ref (gB E + zt25)]) rfl ?_
  refine lv_aload_n hx hb dX12_givesFor_90 rfl (lv_at hl 0 rfl) ?_
  obtain ⟨zt26, qzt26, hf⟩ := gb_el hf
  refine gx_getR X hw qzt26 clX12 (by decide) mf_X12_89 dX12_givesFor_91 ?_
  refine lv_iload_n hx hb dX12_givesFor_94 rfl (lv_at hl 2 rfl) ?_
  obtain ⟨zt27, qzt27, hf⟩ := gb_el hf
  refine gx_iald X hw qzt27 dX12_givesFor_95 ?_
  obtain ⟨zh28, qzh28, hf⟩ := gb_el hf
  refine gx_iast X hw qzh28 dX12_givesFor_96 (fun H locs hw => ?_)
  refine lv_aload_n hx hb dX12_givesFor_97 rfl (lv_at hl 0 rfl) ?_
  refine lv_aload_n hx hb dX12_givesFor_98 rfl (lv_at hl 0 rfl) ?_
  obtain ⟨zt29, qzt29, hf⟩ := gb_el hf
  refine gx_getR X hw qzt29 clX12 (by decide) mf_X12_65 dX12_givesFor_99 ?_
  refine lv_bipush (v := 53) hx hb dX12_givesFor_102 (by decide) ?_
  refine lv_iload_n hx hb dX12_givesFor_104 rfl (lv_at hl 1 rfl) ?_
  refine W.eq (g2 := F0 m 105 ls [.int za1, .int 53, .ref (gB E + zt29), .ref (gB E + za0)]) rfl ?_
  refine lv_iadd hx hb dX12_givesFor_105 ?_
  obtain ⟨zt30, qzt30, hf⟩ := gb_el hf
  refine gx_iald X hw qzt30 dX12_givesFor_106 ?_
  obtain ⟨qizh31, hf⟩ := gg_el hf
  obtain ⟨zt32, zh31, qzh31, hf⟩ := gc_el hf
  refine gx_ki (gx_runV (As := [.int zt30]) (rest := []) X hw (c_X12_worthAt l E N za0 zt30 zh28 qzh31) kX12_worthAt mm_X12_271 qizh31 clX12 ⟨Nat.le_of_ble_eq_true rfl, Nat.le_of_ble_eq_true rfl⟩ rfl rfl rfl hl.1 (Nat.le_of_ble_eq_true rfl) rfl dX12_givesFor_107 ⟨Nat.le_of_ble_eq_true rfl, Nat.le_of_ble_eq_true rfl⟩) hw (fun H locs hw => ?_)
  exact gx_iret X hr hlk hw hf dX12_givesFor_110
abbrev rm_X12_leaves : Room := { frames := 3, cells := 0, slots := 0, locals := 70 }
set_option maxHeartbeats 4000000 in
set_option maxRecDepth 100000 in
theorem c_X12_leaves (l : Launch) (E : gE) (N : Nat) (za0 : Nat) (za1 : Int32) (za2 : Int32) (zh : PH) {h9 : PH} (hf : f_X12_leaves N za0 za1 za2 zh = some h9) : Met l yX12_leaves (gWS yX12_leaves cX12_leaves 8 none) rm_X12_leaves (gPc E [.ref (gB E + za0), .int za1, .int za2] zh) (gQv E h9) 0 0 (gA E) := by
  refine gx_met (by decide) ?_ rfl
  intro p e s m below meth c X hr hlk hin2 hw
  have hx := X.1.1
  have hb := X.1.2.1
  have hl := lv_entry [.ref (gB E + za0), .int za1, .int za2] (n := 8) (Nat.le_of_ble_eq_true rfl)
  rw [lg_entry_eq]
  generalize (lg_sl [.ref (gB E + za0), .int za1, .int za2] ++ List.replicate (8 - (lg_sl [.ref (gB E + za0), .int za1, .int za2]).length) Slot.unset).toArray = ls at hl ⊢
  have hl : lv_has ls 8 [(0, .ref (gB E + za0)), (1, .int za1), (2, .int za2)] := hl
  have J_135 : ∀ (zh : PH) (H : Heap) (locs : List Loc) (ls : Array Slot), f_X12_leaves_135 N zh = some h9 → gw E s zh H locs → lv_has ls 8 [] → W p l e rm_X12_leaves s m [.ref (gB E + za0), .int za1, .int za2].toArray below meth c H locs 0 0 (MQ below (gQv E h9) [.ref (gB E + za0), .int za1, .int za2].toArray s 0 0 (gA E)) (F0 m 135 ls []) := by
    intro zh H locs ls hf hw hl
    unfold f_X12_leaves_135 at hf
    exact gx_vret X hr hlk hw hf dX12_leaves_135
  have L_13 : ∀ (zn13 : Nat) (zv0 : Nat) (zv2 : Int32) (zv3 : Int32) (zh : PH) (H : Heap) (locs : List Loc) (ls : Array Slot), gi (fun zk zs => f_X12_leaves_13 N zk zs.1 zs.2.1 zs.2.2.1 zs.2.2.2) zn13 (zv0, zv2, zv3, zh) = some h9 → gw E s zh H locs → lv_has ls 8 [(0, .ref (gB E + zv0)), (2, .int zv2), (3, .int zv3)] → W p l e rm_X12_leaves s m [.ref (gB E + za0), .int za1, .int za2].toArray below meth c H locs 0 0 (MQ below (gQv E h9) [.ref (gB E + za0), .int za1, .int za2].toArray s 0 0 (gA E)) (F0 m 13 ls []) := by
    intro zn13
    induction zn13 with
    | zero =>
      intro zv0 zv2 zv3 zh H locs ls hf
      cases hf
    | succ zn13 ih_13 =>
      have J_129 : ∀ (zv0 : Nat) (zv2 : Int32) (zv4 : Int32) (zh : PH) (H : Heap) (locs : List Loc) (ls : Array Slot), f_X12_leaves_129 N (gi (fun zk zs => f_X12_leaves_13 N zk zs.1 zs.2.1 zs.2.2.1 zs.2.2.2) zn13) zv0 zv2 zv4 zh = some h9 → gw E s zh H locs → lv_has ls 8 [(0, .ref (gB E + zv0)), (2, .int zv2), (4, .int zv4)] → W p l e rm_X12_leaves s m [.ref (gB E + za0), .int za1, .int za2].toArray below meth c H locs 0 0 (MQ below (gQv E h9) [.ref (gB E + za0), .int za1, .int za2].toArray s 0 0 (gA E)) (F0 m 129 ls []) := by
        intro zv0 zv2 zv4 zh H locs ls hf hw hl
        unfold f_X12_leaves_129 at hf
        refine lv_iload hx hb dX12_leaves_129 (lv_at hl 2 rfl) ?_
        refine lv_istore_n (lv' := [(3, .int zv4), (0, .ref (gB E + zv0)), (2, .int zv2), (4, .int zv4)]) hx hb dX12_leaves_131 rfl hl (by decide) rfl (fun ls hl => ?_)
        refine lv_goto (tgt := 13) hx hb dX12_leaves_132 (by decide) ?_
        exact ih_13 zv0 zv2 zv4 _ _ _ ls hf hw (lv_sub hl [1, 2, 0] rfl)
      have L_32 : ∀ (zn32 : Nat) (zv0 : Nat) (zv2 : Int32) (zv3 : Int32) (zv4 : Int32) (zv5 : Int32) (zv6 : Int32) (zh : PH) (H : Heap) (locs : List Loc) (ls : Array Slot), gi (fun zk zs => f_X12_leaves_32 N (gi (fun zk zs => f_X12_leaves_13 N zk zs.1 zs.2.1 zs.2.2.1 zs.2.2.2) zn13) zk zs.1 zs.2.1 zs.2.2.1 zs.2.2.2.1 zs.2.2.2.2.1 zs.2.2.2.2.2.1 zs.2.2.2.2.2.2) zn32 (zv0, zv2, zv3, zv4, zv5, zv6, zh) = some h9 → gw E s zh H locs → lv_has ls 8 [(0, .ref (gB E + zv0)), (2, .int zv2), (3, .int zv3), (4, .int zv4), (5, .int zv5), (6, .int zv6)] → W p l e rm_X12_leaves s m [.ref (gB E + za0), .int za1, .int za2].toArray below meth c H locs 0 0 (MQ below (gQv E h9) [.ref (gB E + za0), .int za1, .int za2].toArray s 0 0 (gA E)) (F0 m 32 ls []) := by
        intro zn32
        induction zn32 with
        | zero =>
          intro zv0 zv2 zv3 zv4 zv5 zv6 zh H locs ls hf
          cases hf
        | succ zn32 ih_32 =>
          have J_102 : ∀ (zv0 : Nat) (zv2 : Int32) (zv3 : Int32) (zv4 : Int32) (zv6 : Int32) (zs0 : Int32) (zh : PH) (H : Heap) (locs : List Loc) (ls : Array Slot), f_X12_leaves_102 N (gi (fun zk zs => f_X12_leaves_13 N zk zs.1 zs.2.1 zs.2.2.1 zs.2.2.2) zn13) (gi (fun zk zs => f_X12_leaves_32 N (gi (fun zk zs => f_X12_leaves_13 N zk zs.1 zs.2.1 zs.2.2.1 zs.2.2.2) zn13) zk zs.1 zs.2.1 zs.2.2.1 zs.2.2.2.1 zs.2.2.2.2.1 zs.2.2.2.2.2.1 zs.2.2.2.2.2.2) zn32) zv0 zv2 zv3 zv4 zv6 zs0 zh = some h9 → gw E s zh H locs → lv_has ls 8 [(0, .ref (gB E + zv0)), (2, .int zv2), (3, .int zv3), (4, .int zv4), (6, .int zv6)] → W p l e rm_X12_leaves s m [.ref (gB E + za0), .int za1, .int za2].toArray below meth c H locs 0 0 (MQ below (gQv E h9) [.ref (gB E + za0), .int za1, .int za2].toArray s 0 0 (gA E)) (F0 m 102 ls [.int zs0]) := by
            intro zv0 zv2 zv3 zv4 zv6 zs0 zh H locs ls hf hw hl
            unfold f_X12_leaves_102 at hf
            refine lv_istore (lv' := [(5, .int zs0), (0, .ref (gB E + zv0)), (2, .int zv2), (3, .int zv3), (4, .int zv4), (6, .int zv6)]) hx hb dX12_leaves_102 hl (by decide) rfl (fun ls hl => ?_)
            obtain ⟨zx1, ezx1⟩ : ∃ y : Int32, y = zv6 + 1 := ⟨_, rfl⟩
            have hf := gl_el hf ezx1
            refine lv_iinc (v := zx1) (lv' := [(6, .int zx1), (5, .int zs0), (0, .ref (gB E + zv0)), (2, .int zv2), (3, .int zv3), (4, .int zv4)]) hx hb dX12_leaves_104 hl (k := 5) rfl (by rw [ezx1]; rfl) (by decide) rfl (fun ls hl => ?_)
            refine lv_goto (tgt := 32) hx hb dX12_leaves_107 (by decide) ?_
            exact ih_32 zv0 zv2 zv3 zv4 zs0 zx1 _ _ _ ls hf hw (lv_sub hl [2, 3, 4, 5, 1, 0] rfl)
          have J_86 : ∀ (zv0 : Nat) (zv2 : Int32) (zv3 : Int32) (zv5 : Int32) (zv6 : Int32) (zv7 : Int32) (zs0 : Int32) (zh : PH) (H : Heap) (locs : List Loc) (ls : Array Slot), f_X12_leaves_86 N (gi (fun zk zs => f_X12_leaves_13 N zk zs.1 zs.2.1 zs.2.2.1 zs.2.2.2) zn13) (gi (fun zk zs => f_X12_leaves_32 N (gi (fun zk zs => f_X12_leaves_13 N zk zs.1 zs.2.1 zs.2.2.1 zs.2.2.2) zn13) zk zs.1 zs.2.1 zs.2.2.1 zs.2.2.2.1 zs.2.2.2.2.1 zs.2.2.2.2.2.1 zs.2.2.2.2.2.2) zn32) zv0 zv2 zv3 zv5 zv6 zv7 zs0 zh = some h9 → gw E s zh H locs → lv_has ls 8 [(0, .ref (gB E + zv0)), (2, .int zv2), (3, .int zv3), (5, .int zv5), (6, .int zv6), (7, .int zv7)] → W p l e rm_X12_leaves s m [.ref (gB E + za0), .int za1, .int za2].toArray below meth c H locs 0 0 (MQ below (gQv E h9) [.ref (gB E + za0), .int za1, .int za2].toArray s 0 0 (gA E)) (F0 m 86 ls [.int zs0]) := by
            intro zv0 zv2 zv3 zv5 zv6 zv7 zs0 zh H locs ls hf hw hl
            unfold f_X12_leaves_86 at hf
            refine lv_istore (lv' := [(4, .int zs0), (0, .ref (gB E + zv0)), (2, .int zv2), (3, .int zv3), (5, .int zv5), (6, .int zv6), (7, .int zv7)]) hx hb dX12_leaves_86 hl (by decide) rfl (fun ls hl => ?_)
            refine lv_iload hx hb dX12_leaves_88 (lv_at hl 6 rfl) ?_
            refine lv_iload hx hb dX12_leaves_90 (lv_at hl 4 rfl) ?_
            refine lv_icmp_le (tgt := 100) hx hb dX12_leaves_92 (by decide) (fun qc1 => ?_) (fun qc1 => ?_)
            · have hf := gif_t hf qc1
              refine lv_iload hx hb dX12_leaves_100 (lv_at hl 4 rfl) ?_
              exact J_102 zv0 zv2 zv3 zs0 zv6 zv5 _ _ _ ls hf hw (lv_sub hl [1, 2, 3, 0, 5] rfl)
            · have hf := gif_f hf qc1
              refine lv_iload hx hb dX12_leaves_95 (lv_at hl 6 rfl) ?_
              refine lv_goto (tgt := 102) hx hb dX12_leaves_97 (by decide) ?_
              exact J_102 zv0 zv2 zv3 zs0 zv6 zv7 _ _ _ ls hf hw (lv_sub hl [1, 2, 3, 0, 5] rfl)
          have J_70 : ∀ (zv0 : Nat) (zv2 : Int32) (zv3 : Int32) (zv4 : Int32) (zv5 : Int32) (zv6 : Int32) (zs0 : Int32) (zh : PH) (H : Heap) (locs : List Loc) (ls : Array Slot), f_X12_leaves_70 N (gi (fun zk zs => f_X12_leaves_13 N zk zs.1 zs.2.1 zs.2.2.1 zs.2.2.2) zn13) (gi (fun zk zs => f_X12_leaves_32 N (gi (fun zk zs => f_X12_leaves_13 N zk zs.1 zs.2.1 zs.2.2.1 zs.2.2.2) zn13) zk zs.1 zs.2.1 zs.2.2.1 zs.2.2.2.1 zs.2.2.2.2.1 zs.2.2.2.2.2.1 zs.2.2.2.2.2.2) zn32) zv0 zv2 zv3 zv4 zv5 zv6 zs0 zh = some h9 → gw E s zh H locs → lv_has ls 8 [(0, .ref (gB E + zv0)), (2, .int zv2), (3, .int zv3), (4, .int zv4), (5, .int zv5), (6, .int zv6)] → W p l e rm_X12_leaves s m [.ref (gB E + za0), .int za1, .int za2].toArray below meth c H locs 0 0 (MQ below (gQv E h9) [.ref (gB E + za0), .int za1, .int za2].toArray s 0 0 (gA E)) (F0 m 70 ls [.int zs0]) := by
            intro zv0 zv2 zv3 zv4 zv5 zv6 zs0 zh H locs ls hf hw hl
            unfold f_X12_leaves_70 at hf
            refine lv_istore (lv' := [(7, .int zs0), (0, .ref (gB E + zv0)), (2, .int zv2), (3, .int zv3), (4, .int zv4), (5, .int zv5), (6, .int zv6)]) hx hb dX12_leaves_70 hl (by decide) rfl (fun ls hl => ?_)
            refine lv_iload hx hb dX12_leaves_72 (lv_at hl 0 rfl) ?_
            refine lv_iload hx hb dX12_leaves_74 (lv_at hl 5 rfl) ?_
            refine lv_icmp_le (tgt := 84) hx hb dX12_leaves_76 (by decide) (fun qc1 => ?_) (fun qc1 => ?_)
            · have hf := gif_t hf qc1
              refine lv_iload hx hb dX12_leaves_84 (lv_at hl 4 rfl) ?_
              exact J_86 zv0 zv2 zv3 zv5 zv6 zs0 zv4 _ _ _ ls hf hw (lv_sub hl [1, 2, 3, 5, 6, 0] rfl)
            · have hf := gif_f hf qc1
              refine lv_iload hx hb dX12_leaves_79 (lv_at hl 6 rfl) ?_
              refine lv_goto (tgt := 86) hx hb dX12_leaves_81 (by decide) ?_
              exact J_86 zv0 zv2 zv3 zv5 zv6 zs0 zv6 _ _ _ ls hf hw (lv_sub hl [1, 2, 3, 5, 6, 0] rfl)
          intro zv0 zv2 zv3 zv4 zv5 zv6 zh H locs ls hf hw hl
          have hf := gi_s hf
          dsimp only at hf
          unfold f_X12_leaves_32 at hf
          refine lv_iload hx hb dX12_leaves_32 (lv_at hl 5 rfl) ?_
          refine lv_aload_n hx hb dX12_leaves_34 rfl (lv_at hl 0 rfl) ?_
          obtain ⟨qizh1, hf⟩ := gg_el hf
          obtain ⟨zt2, zh1, qzh1, hf⟩ := gc_el hf
          refine gx_ki (gx_runV (As := []) (rest := [.int zv6]) X hw (c_X12_rooms l E N zv0 zh qzh1) kX12_rooms mm_X12_231 qizh1 clX12 ⟨Nat.le_of_ble_eq_true rfl, Nat.le_of_ble_eq_true rfl⟩ rfl rfl rfl hl.1 (Nat.le_of_ble_eq_true rfl) rfl dX12_leaves_35 ⟨Nat.le_of_ble_eq_true rfl, Nat.le_of_ble_eq_true rfl⟩) hw (fun H locs hw => ?_)
          refine lv_icmp_ge (tgt := 110) hx hb dX12_leaves_38 (by decide) (fun qc3 => ?_) (fun qc3 => ?_)
          · have hf := gif_t hf qc3
            refine lv_iload hx hb dX12_leaves_110 (lv_at hl 3 rfl) ?_
            refine lv_if_lt (tgt := 129) hx hb dX12_leaves_112 (by decide) (fun qc4 => ?_) (fun qc4 => ?_)
            · have hf := gif_t hf qc4
              exact J_129 zv0 zv2 zv4 _ _ _ ls hf hw (lv_sub hl [0, 1, 3] rfl)
            · have hf := gif_f hf qc4
              refine lv_aload_n hx hb dX12_leaves_115 rfl (lv_at hl 0 rfl) ?_
              refine lv_aload_n hx hb dX12_leaves_116 rfl (lv_at hl 0 rfl) ?_
              obtain ⟨zt5, qzt5, hf⟩ := gb_el hf
              refine gx_getR X hw qzt5 clX12 (by decide) mf_X12_86 dX12_leaves_117 ?_
              refine W.eq (g2 := F0 m 120 ls [.ref (gB E + zt5), .ref (gB E + zv0)]) rfl ?_
              refine lv_iload hx hb dX12_leaves_120 (lv_at hl 3 rfl) ?_
              obtain ⟨zt6, qzt6, hf⟩ := gb_el hf
              refine gx_iald X hw qzt6 dX12_leaves_122 ?_
              refine lv_iload hx hb dX12_leaves_123 (lv_at hl 3 rfl) ?_
              refine lv_iload_n hx hb dX12_leaves_125 rfl (lv_at hl 2 rfl) ?_
              obtain ⟨qizh7, hf⟩ := gg_el hf
              obtain ⟨zh7, qzh7, hf⟩ := gb_el hf
              refine gx_kv (gx_runV (As := [.int zt6, .int zv4, .int zv3]) (rest := []) X hw (c_X12_goes l E N zv0 zt6 zv4 zv3 zh1 qzh7) kX12_goes mm_X12_267 qizh7 clX12 ⟨Nat.le_of_ble_eq_true rfl, Nat.le_of_ble_eq_true rfl⟩ rfl rfl rfl hl.1 (Nat.le_of_ble_eq_true rfl) rfl dX12_leaves_126 ⟨Nat.le_of_ble_eq_true rfl, Nat.le_of_ble_eq_true rfl⟩) hw (fun H locs hw => ?_)
              exact J_129 zv0 zv2 zv4 _ _ _ ls hf hw (lv_sub hl [0, 1, 3] rfl)
          · have hf := gif_f hf qc3
            refine lv_aload_n hx hb dX12_leaves_41 rfl (lv_at hl 0 rfl) ?_
            obtain ⟨zt8, qzt8, hf⟩ := gb_el hf
            refine gx_getR X hw qzt8 clX12 (by decide) mf_X12_86 dX12_leaves_42 ?_
            refine lv_iload hx hb dX12_leaves_45 (lv_at hl 5 rfl) ?_
            obtain ⟨zt9, qzt9, hf⟩ := gb_el hf
            refine gx_iald X hw qzt9 dX12_leaves_47 ?_
            refine lv_if_ge (tgt := 55) hx hb dX12_leaves_48 (by decide) (fun qc10 => ?_) (fun qc10 => ?_)
            · have hf := gif_t hf qc10
              refine W.eq (g2 := F0 m 55 ls []) rfl ?_
              refine lv_aload_n hx hb dX12_leaves_55 rfl (lv_at hl 0 rfl) ?_
              refine lv_iload_n hx hb dX12_leaves_56 rfl (lv_at hl 1 rfl) ?_
              refine lv_aload_n hx hb dX12_leaves_57 rfl (lv_at hl 0 rfl) ?_
              obtain ⟨zt11, qzt11, hf⟩ := gb_el hf
              refine gx_getR X hw qzt11 clX12 (by decide) mf_X12_86 dX12_leaves_58 ?_
              refine lv_iload hx hb dX12_leaves_61 (lv_at hl 5 rfl) ?_
              obtain ⟨zt12, qzt12, hf⟩ := gb_el hf
              refine gx_iald X hw qzt12 dX12_leaves_63 ?_
              refine lv_iload hx hb dX12_leaves_64 (lv_at hl 5 rfl) ?_
              refine lv_iload_n hx hb dX12_leaves_66 rfl (lv_at hl 2 rfl) ?_
              obtain ⟨qizh13, hf⟩ := gg_el hf
              obtain ⟨zt14, zh13, qzh13, hf⟩ := gc_el hf
              refine gx_ki (gx_runV (As := [.int zv2, .int zt12, .int zv6, .int zv3]) (rest := []) X hw (c_X12_givesFor l E N zv0 zv2 zt12 zv6 zv3 zh1 qzh13) kX12_givesFor mm_X12_277 qizh13 clX12 ⟨Nat.le_of_ble_eq_true rfl, Nat.le_of_ble_eq_true rfl⟩ rfl rfl rfl hl.1 (Nat.le_of_ble_eq_true rfl) rfl dX12_leaves_67 ⟨Nat.le_of_ble_eq_true rfl, Nat.le_of_ble_eq_true rfl⟩) hw (fun H locs hw => ?_)
              exact J_70 zv0 zv2 zv3 zv4 zv5 zv6 zt14 _ _ _ ls hf hw (lv_sub hl [0, 1, 2, 3, 4, 5] rfl)
            · have hf := gif_f hf qc10
              refine W.eq (g2 := F0 m 51 ls []) rfl ?_
              refine lv_iconst (v := 0) hx hb dX12_leaves_51 (by decide) ?_
              refine lv_goto (tgt := 70) hx hb dX12_leaves_52 (by decide) ?_
              exact J_70 zv0 zv2 zv3 zv4 zv5 zv6 0 _ _ _ ls hf hw (lv_sub hl [0, 1, 2, 3, 4, 5] rfl)
      intro zv0 zv2 zv3 zh H locs ls hf hw hl
      have hf := gi_s hf
      dsimp only at hf
      unfold f_X12_leaves_13 at hf
      refine lv_iload_n hx hb dX12_leaves_13 rfl (lv_at hl 2 rfl) ?_
      refine lv_if_lt (tgt := 135) hx hb dX12_leaves_14 (by decide) (fun qc1 => ?_) (fun qc1 => ?_)
      · have hf := gif_t hf qc1
        exact J_135  _ _ _ ls hf hw (lv_sub hl [] rfl)
      · have hf := gif_f hf qc1
        refine lv_iload_n hx hb dX12_leaves_17 rfl (lv_at hl 1 rfl) ?_
        refine lv_if_lt (tgt := 135) hx hb dX12_leaves_18 (by decide) (fun qc2 => ?_) (fun qc2 => ?_)
        · have hf := gif_t hf qc2
          exact J_135  _ _ _ ls hf hw (lv_sub hl [] rfl)
        · have hf := gif_f hf qc2
          refine lv_iconst (v := (-1)) hx hb dX12_leaves_21 (by decide) ?_
          refine lv_istore (lv' := [(4, .int (-1)), (0, .ref (gB E + zv0)), (2, .int zv2), (3, .int zv3)]) hx hb dX12_leaves_22 hl (by decide) rfl (fun ls hl => ?_)
          refine lv_iconst (v := 0) hx hb dX12_leaves_24 (by decide) ?_
          refine lv_istore (lv' := [(5, .int 0), (4, .int (-1)), (0, .ref (gB E + zv0)), (2, .int zv2), (3, .int zv3)]) hx hb dX12_leaves_25 hl (by decide) rfl (fun ls hl => ?_)
          refine lv_iload_n hx hb dX12_leaves_27 rfl (lv_at hl 4 rfl) ?_
          refine W.eq (g2 := F0 m 28 ls [.int zv3]) rfl ?_
          refine lv_iconst (v := 1) hx hb dX12_leaves_28 (by decide) ?_
          refine lv_iadd hx hb dX12_leaves_29 ?_
          refine lv_topi (fun zx3 ezx3 => ?_)
          have hf := gl_el hf ezx3
          refine lv_istore (lv' := [(6, .int zx3), (5, .int 0), (4, .int (-1)), (0, .ref (gB E + zv0)), (2, .int zv2), (3, .int zv3)]) hx hb dX12_leaves_30 hl (by decide) rfl (fun ls hl => ?_)
          exact L_32 N zv0 zv2 zv3 (-1) 0 zx3 _ _ _ ls hf hw (lv_sub hl [3, 4, 5, 2, 1, 0] rfl)
  unfold f_X12_leaves at hf
  refine lv_aload_n hx hb dX12_leaves_0 rfl (lv_at hl 0 rfl) ?_
  refine lv_iload_n hx hb dX12_leaves_1 rfl (lv_at hl 1 rfl) ?_
  obtain ⟨qizh1, hf⟩ := gg_el hf
  obtain ⟨zt2, zh1, qzh1, hf⟩ := gc_el hf
  refine gx_ki (gx_runV (As := [.int za1]) (rest := []) X hw (c_X12_roomOf l E N za0 za1 zh qzh1) kX12_roomOf mm_X12_274 qizh1 clX12 ⟨Nat.le_of_ble_eq_true rfl, Nat.le_of_ble_eq_true rfl⟩ rfl rfl rfl hl.1 (Nat.le_of_ble_eq_true rfl) rfl dX12_leaves_2 ⟨Nat.le_of_ble_eq_true rfl, Nat.le_of_ble_eq_true rfl⟩) hw (fun H locs hw => ?_)
  refine lv_istore_n (lv' := [(3, .int zt2), (0, .ref (gB E + za0)), (1, .int za1), (2, .int za2)]) hx hb dX12_leaves_5 rfl hl (by decide) rfl (fun ls hl => ?_)
  refine lv_aload_n hx hb dX12_leaves_6 rfl (lv_at hl 1 rfl) ?_
  refine lv_iload_n hx hb dX12_leaves_7 rfl (lv_at hl 2 rfl) ?_
  refine lv_iload_n hx hb dX12_leaves_8 rfl (lv_at hl 0 rfl) ?_
  refine lv_iconst (v := (-1)) hx hb dX12_leaves_9 (by decide) ?_
  obtain ⟨qizh3, hf⟩ := gg_el hf
  obtain ⟨zh3, qzh3, hf⟩ := gb_el hf
  refine gx_kv (gx_runV (As := [.int za1, .int zt2, .int (-1)]) (rest := []) X hw (c_X12_goes l E N za0 za1 zt2 (-1) zh1 qzh3) kX12_goes mm_X12_267 qizh3 clX12 ⟨Nat.le_of_ble_eq_true rfl, Nat.le_of_ble_eq_true rfl⟩ rfl rfl rfl hl.1 (Nat.le_of_ble_eq_true rfl) rfl dX12_leaves_10 ⟨Nat.le_of_ble_eq_true rfl, Nat.le_of_ble_eq_true rfl⟩) hw (fun H locs hw => ?_)
  exact L_13 N za0 za2 zt2 _ _ _ ls hf hw (lv_sub hl [1, 3, 0] rfl)
abbrev rm_X12_goesThrough : Room := { frames := 4, cells := 0, slots := 0, locals := 97 }
set_option maxHeartbeats 4000000 in
set_option maxRecDepth 100000 in
theorem c_X12_goesThrough (l : Launch) (E : gE) (N : Nat) (za0 : Nat) (za1 : Int32) (za2 : Int32) (zh : PH) {h9 : PH} (hf : f_X12_goesThrough N za0 za1 za2 zh = some h9) : Met l yX12_goesThrough (gWS yX12_goesThrough cX12_goesThrough 4 none) rm_X12_goesThrough (gPc E [.ref (gB E + za0), .int za1, .int za2] zh) (gQv E h9) 0 0 (gA E) := by
  refine gx_met (by decide) ?_ rfl
  intro p e s m below meth c X hr hlk hin2 hw
  have hx := X.1.1
  have hb := X.1.2.1
  have hl := lv_entry [.ref (gB E + za0), .int za1, .int za2] (n := 4) (Nat.le_of_ble_eq_true rfl)
  rw [lg_entry_eq]
  generalize (lg_sl [.ref (gB E + za0), .int za1, .int za2] ++ List.replicate (4 - (lg_sl [.ref (gB E + za0), .int za1, .int za2]).length) Slot.unset).toArray = ls at hl ⊢
  have hl : lv_has ls 4 [(0, .ref (gB E + za0)), (1, .int za1), (2, .int za2)] := hl
  have L_6 : ∀ (zn6 : Nat) (zv0 : Nat) (zv1 : Int32) (zv2 : Int32) (zv3 : Int32) (zh : PH) (H : Heap) (locs : List Loc) (ls : Array Slot), gi (fun zk zs => f_X12_goesThrough_6 N zk zs.1 zs.2.1 zs.2.2.1 zs.2.2.2.1 zs.2.2.2.2) zn6 (zv0, zv1, zv2, zv3, zh) = some h9 → gw E s zh H locs → lv_has ls 4 [(0, .ref (gB E + zv0)), (1, .int zv1), (2, .int zv2), (3, .int zv3)] → W p l e rm_X12_goesThrough s m [.ref (gB E + za0), .int za1, .int za2].toArray below meth c H locs 0 0 (MQ below (gQv E h9) [.ref (gB E + za0), .int za1, .int za2].toArray s 0 0 (gA E)) (F0 m 6 ls []) := by
    intro zn6
    induction zn6 with
    | zero =>
      intro zv0 zv1 zv2 zv3 zh H locs ls hf
      cases hf
    | succ zn6 ih_6 =>
      have J_90 : ∀ (zv0 : Nat) (zv1 : Int32) (zv2 : Int32) (zv3 : Int32) (zh : PH) (H : Heap) (locs : List Loc) (ls : Array Slot), f_X12_goesThrough_90 N (gi (fun zk zs => f_X12_goesThrough_6 N zk zs.1 zs.2.1 zs.2.2.1 zs.2.2.2.1 zs.2.2.2.2) zn6) zv0 zv1 zv2 zv3 zh = some h9 → gw E s zh H locs → lv_has ls 4 [(0, .ref (gB E + zv0)), (1, .int zv1), (2, .int zv2), (3, .int zv3)] → W p l e rm_X12_goesThrough s m [.ref (gB E + za0), .int za1, .int za2].toArray below meth c H locs 0 0 (MQ below (gQv E h9) [.ref (gB E + za0), .int za1, .int za2].toArray s 0 0 (gA E)) (F0 m 90 ls []) := by
        intro zv0 zv1 zv2 zv3 zh H locs ls hf hw hl
        unfold f_X12_goesThrough_90 at hf
        obtain ⟨zx1, ezx1⟩ : ∃ y : Int32, y = zv3 + 1 := ⟨_, rfl⟩
        have hf := gl_el hf ezx1
        refine lv_iinc (v := zx1) (lv' := [(3, .int zx1), (0, .ref (gB E + zv0)), (1, .int zv1), (2, .int zv2)]) hx hb dX12_goesThrough_90 hl (k := 3) rfl (by rw [ezx1]; rfl) (by decide) rfl (fun ls hl => ?_)
        refine lv_goto (tgt := 6) hx hb dX12_goesThrough_93 (by decide) ?_
        exact ih_6 zv0 zv1 zv2 zx1 _ _ _ ls hf hw (lv_sub hl [1, 2, 3, 0] rfl)
      have J_87 : ∀ (zv0 : Nat) (zv1 : Int32) (zv2 : Int32) (zv3 : Int32) (zs0 : Int32) (zs1 : Int32) (zs2 : Nat) (zh : PH) (H : Heap) (locs : List Loc) (ls : Array Slot), f_X12_goesThrough_87 N (gi (fun zk zs => f_X12_goesThrough_6 N zk zs.1 zs.2.1 zs.2.2.1 zs.2.2.2.1 zs.2.2.2.2) zn6) zv0 zv1 zv2 zv3 zs0 zs1 zs2 zh = some h9 → gw E s zh H locs → lv_has ls 4 [(0, .ref (gB E + zv0)), (1, .int zv1), (2, .int zv2), (3, .int zv3)] → W p l e rm_X12_goesThrough s m [.ref (gB E + za0), .int za1, .int za2].toArray below meth c H locs 0 0 (MQ below (gQv E h9) [.ref (gB E + za0), .int za1, .int za2].toArray s 0 0 (gA E)) (F0 m 87 ls [.int zs0, .int zs1, .ref (gB E + zs2)]) := by
        intro zv0 zv1 zv2 zv3 zs0 zs1 zs2 zh H locs ls hf hw hl
        unfold f_X12_goesThrough_87 at hf
        obtain ⟨qizh1, hf⟩ := gg_el hf
        obtain ⟨zh1, qzh1, hf⟩ := gb_el hf
        refine gx_kv (gx_runV (As := [.int zs1, .int zs0]) (rest := []) X hw (c_X12_leaves l E N zs2 zs1 zs0 zh qzh1) kX12_leaves mm_X12_293 qizh1 clX12 ⟨Nat.le_of_ble_eq_true rfl, Nat.le_of_ble_eq_true rfl⟩ rfl rfl rfl hl.1 (Nat.le_of_ble_eq_true rfl) rfl dX12_goesThrough_87 ⟨Nat.le_of_ble_eq_true rfl, Nat.le_of_ble_eq_true rfl⟩) hw (fun H locs hw => ?_)
        exact J_90 zv0 zv1 zv2 zv3 _ _ _ ls hf hw (lv_sub hl [0, 1, 2, 3] rfl)
      have J_41 : ∀ (zv0 : Nat) (zv1 : Int32) (zv2 : Int32) (zv3 : Int32) (zs0 : Int32) (zs1 : Nat) (zh : PH) (H : Heap) (locs : List Loc) (ls : Array Slot), f_X12_goesThrough_41 N (gi (fun zk zs => f_X12_goesThrough_6 N zk zs.1 zs.2.1 zs.2.2.1 zs.2.2.2.1 zs.2.2.2.2) zn6) zv0 zv1 zv2 zv3 zs0 zs1 zh = some h9 → gw E s zh H locs → lv_has ls 4 [(0, .ref (gB E + zv0)), (1, .int zv1), (2, .int zv2), (3, .int zv3)] → W p l e rm_X12_goesThrough s m [.ref (gB E + za0), .int za1, .int za2].toArray below meth c H locs 0 0 (MQ below (gQv E h9) [.ref (gB E + za0), .int za1, .int za2].toArray s 0 0 (gA E)) (F0 m 41 ls [.int zs0, .ref (gB E + zs1)]) := by
        intro zv0 zv1 zv2 zv3 zs0 zs1 zh H locs ls hf hw hl
        unfold f_X12_goesThrough_41 at hf
        obtain ⟨zh1, qzh1, hf⟩ := gb_el hf
        refine gx_putV X hw qzh1 clX12 (by decide) mf_X12_252 rfl rfl rfl dX12_goesThrough_41 (fun H locs hw => ?_)
        refine lv_aload_n hx hb dX12_goesThrough_44 rfl (lv_at hl 0 rfl) ?_
        refine lv_iload_n hx hb dX12_goesThrough_45 rfl (lv_at hl 3 rfl) ?_
        refine lv_iconst (v := 1) hx hb dX12_goesThrough_46 (by decide) ?_
        obtain ⟨qizh2, hf⟩ := gg_el hf
        obtain ⟨zt3, zh2, qzh2, hf⟩ := gc_el hf
        refine gx_ki (gx_runV (As := [.int zv3, .int 1]) (rest := []) X hw (c_X12_eventOf l E N zv0 zv3 1 zh1 qzh2) kX12_eventOf mm_X12_287 qizh2 clX12 ⟨Nat.le_of_ble_eq_true rfl, Nat.le_of_ble_eq_true rfl⟩ rfl rfl rfl hl.1 (Nat.le_of_ble_eq_true rfl) rfl dX12_goesThrough_47 ⟨Nat.le_of_ble_eq_true rfl, Nat.le_of_ble_eq_true rfl⟩) hw (fun H locs hw => ?_)
        refine lv_if_ne (tgt := 66) hx hb dX12_goesThrough_50 (by decide) (fun qc4 => ?_) (fun qc4 => ?_)
        · have hf := gif_f hf qc4
          refine lv_aload_n hx hb dX12_goesThrough_66 rfl (lv_at hl 0 rfl) ?_
          refine lv_aload_n hx hb dX12_goesThrough_67 rfl (lv_at hl 0 rfl) ?_
          refine lv_iload_n hx hb dX12_goesThrough_68 rfl (lv_at hl 3 rfl) ?_
          refine W.eq (g2 := F0 m 69 ls [.int zv3, .ref (gB E + zv0), .ref (gB E + zv0)]) rfl ?_
          refine lv_iconst (v := 0) hx hb dX12_goesThrough_69 (by decide) ?_
          obtain ⟨qizh5, hf⟩ := gg_el hf
          obtain ⟨zt6, zh5, qzh5, hf⟩ := gc_el hf
          refine gx_ki (gx_runV (As := [.int zv3, .int 0]) (rest := [.ref (gB E + zv0)]) X hw (c_X12_eventOf l E N zv0 zv3 0 zh2 qzh5) kX12_eventOf mm_X12_287 qizh5 clX12 ⟨Nat.le_of_ble_eq_true rfl, Nat.le_of_ble_eq_true rfl⟩ rfl rfl rfl hl.1 (Nat.le_of_ble_eq_true rfl) rfl dX12_goesThrough_70 ⟨Nat.le_of_ble_eq_true rfl, Nat.le_of_ble_eq_true rfl⟩) hw (fun H locs hw => ?_)
          refine lv_iload_n hx hb dX12_goesThrough_73 rfl (lv_at hl 1 rfl) ?_
          refine lv_if_eq (tgt := 81) hx hb dX12_goesThrough_74 (by decide) (fun qc7 => ?_) (fun qc7 => ?_)
          · have hf := gif_t hf qc7
            refine lv_aload_n hx hb dX12_goesThrough_81 rfl (lv_at hl 0 rfl) ?_
            refine lv_iload_n hx hb dX12_goesThrough_82 rfl (lv_at hl 3 rfl) ?_
            refine lv_iconst (v := 3) hx hb dX12_goesThrough_83 (by decide) ?_
            obtain ⟨qizh8, hf⟩ := gg_el hf
            obtain ⟨zt9, zh8, qzh8, hf⟩ := gc_el hf
            refine gx_ki (gx_runV (As := [.int zv3, .int 3]) (rest := [.int zt6, .ref (gB E + zv0)]) X hw (c_X12_eventOf l E N zv0 zv3 3 zh5 qzh8) kX12_eventOf mm_X12_287 qizh8 clX12 ⟨Nat.le_of_ble_eq_true rfl, Nat.le_of_ble_eq_true rfl⟩ rfl rfl rfl hl.1 (Nat.le_of_ble_eq_true rfl) rfl dX12_goesThrough_84 ⟨Nat.le_of_ble_eq_true rfl, Nat.le_of_ble_eq_true rfl⟩) hw (fun H locs hw => ?_)
            exact J_87 zv0 zv1 zv2 zv3 zt9 zt6 zv0 _ _ _ ls hf hw (lv_sub hl [0, 1, 2, 3] rfl)
          · have hf := gif_f hf qc7
            refine lv_iload_n hx hb dX12_goesThrough_77 rfl (lv_at hl 2 rfl) ?_
            refine lv_goto (tgt := 87) hx hb dX12_goesThrough_78 (by decide) ?_
            exact J_87 zv0 zv1 zv2 zv3 zv2 zt6 zv0 _ _ _ ls hf hw (lv_sub hl [0, 1, 2, 3] rfl)
        · have hf := gif_t hf qc4
          refine lv_aload_n hx hb dX12_goesThrough_53 rfl (lv_at hl 0 rfl) ?_
          refine lv_aload_n hx hb dX12_goesThrough_54 rfl (lv_at hl 0 rfl) ?_
          refine lv_iload_n hx hb dX12_goesThrough_55 rfl (lv_at hl 3 rfl) ?_
          refine W.eq (g2 := F0 m 56 ls [.int zv3, .ref (gB E + zv0), .ref (gB E + zv0)]) rfl ?_
          refine lv_iconst (v := 0) hx hb dX12_goesThrough_56 (by decide) ?_
          obtain ⟨qizh10, hf⟩ := gg_el hf
          obtain ⟨zt11, zh10, qzh10, hf⟩ := gc_el hf
          refine gx_ki (gx_runV (As := [.int zv3, .int 0]) (rest := [.ref (gB E + zv0)]) X hw (c_X12_eventOf l E N zv0 zv3 0 zh2 qzh10) kX12_eventOf mm_X12_287 qizh10 clX12 ⟨Nat.le_of_ble_eq_true rfl, Nat.le_of_ble_eq_true rfl⟩ rfl rfl rfl hl.1 (Nat.le_of_ble_eq_true rfl) rfl dX12_goesThrough_57 ⟨Nat.le_of_ble_eq_true rfl, Nat.le_of_ble_eq_true rfl⟩) hw (fun H locs hw => ?_)
          obtain ⟨qizh12, hf⟩ := gg_el hf
          obtain ⟨zh12, qzh12, hf⟩ := gb_el hf
          refine gx_kv (gx_runV (As := [.int zt11]) (rest := []) X hw (c_X12_comes l E N zv0 zt11 zh10 qzh12) kX12_comes mm_X12_290 qizh12 clX12 ⟨Nat.le_of_ble_eq_true rfl, Nat.le_of_ble_eq_true rfl⟩ rfl rfl rfl hl.1 (Nat.le_of_ble_eq_true rfl) rfl dX12_goesThrough_60 ⟨Nat.le_of_ble_eq_true rfl, Nat.le_of_ble_eq_true rfl⟩) hw (fun H locs hw => ?_)
          refine lv_goto (tgt := 90) hx hb dX12_goesThrough_63 (by decide) ?_
          exact J_90 zv0 zv1 zv2 zv3 _ _ _ ls hf hw (lv_sub hl [0, 1, 2, 3] rfl)
      intro zv0 zv1 zv2 zv3 zh H locs ls hf hw hl
      have hf := gi_s hf
      dsimp only at hf
      unfold f_X12_goesThrough_6 at hf
      refine lv_iload_n hx hb dX12_goesThrough_6 rfl (lv_at hl 3 rfl) ?_
      refine lv_aload_n hx hb dX12_goesThrough_7 rfl (lv_at hl 0 rfl) ?_
      obtain ⟨qizh1, hf⟩ := gg_el hf
      obtain ⟨zt2, zh1, qzh1, hf⟩ := gc_el hf
      refine gx_ki (gx_runV (As := []) (rest := [.int zv3]) X hw (c_X12_events l E N zv0 zh qzh1) kX12_events mm_X12_284 qizh1 clX12 ⟨Nat.le_of_ble_eq_true rfl, Nat.le_of_ble_eq_true rfl⟩ rfl rfl rfl hl.1 (Nat.le_of_ble_eq_true rfl) rfl dX12_goesThrough_8 ⟨Nat.le_of_ble_eq_true rfl, Nat.le_of_ble_eq_true rfl⟩) hw (fun H locs hw => ?_)
      refine lv_icmp_ge (tgt := 96) hx hb dX12_goesThrough_11 (by decide) (fun qc3 => ?_) (fun qc3 => ?_)
      · have hf := gif_t hf qc3
        exact gx_vret X hr hlk hw hf dX12_goesThrough_96
      · have hf := gif_f hf qc3
        refine lv_aload_n hx hb dX12_goesThrough_14 rfl (lv_at hl 0 rfl) ?_
        refine lv_aload_n hx hb dX12_goesThrough_15 rfl (lv_at hl 0 rfl) ?_
        obtain ⟨zt4, qzt4, hf⟩ := gb_el hf
        refine gx_getI X hw qzt4 clX12 (by decide) mf_X12_252 dX12_goesThrough_16 ?_
        refine lv_aload_n hx hb dX12_goesThrough_19 rfl (lv_at hl 0 rfl) ?_
        refine lv_iload_n hx hb dX12_goesThrough_20 rfl (lv_at hl 3 rfl) ?_
        refine W.eq (g2 := F0 m 21 ls [.int zv3, .ref (gB E + zv0), .int zt4, .ref (gB E + zv0)]) rfl ?_
        refine lv_iconst (v := 2) hx hb dX12_goesThrough_21 (by decide) ?_
        obtain ⟨qizh5, hf⟩ := gg_el hf
        obtain ⟨zt6, zh5, qzh5, hf⟩ := gc_el hf
        refine gx_ki (gx_runV (As := [.int zv3, .int 2]) (rest := [.int zt4, .ref (gB E + zv0)]) X hw (c_X12_eventOf l E N zv0 zv3 2 zh1 qzh5) kX12_eventOf mm_X12_287 qizh5 clX12 ⟨Nat.le_of_ble_eq_true rfl, Nat.le_of_ble_eq_true rfl⟩ rfl rfl rfl hl.1 (Nat.le_of_ble_eq_true rfl) rfl dX12_goesThrough_22 ⟨Nat.le_of_ble_eq_true rfl, Nat.le_of_ble_eq_true rfl⟩) hw (fun H locs hw => ?_)
        refine lv_icmp_ge (tgt := 37) hx hb dX12_goesThrough_25 (by decide) (fun qc7 => ?_) (fun qc7 => ?_)
        · have hf := gif_t hf qc7
          refine lv_aload_n hx hb dX12_goesThrough_37 rfl (lv_at hl 0 rfl) ?_
          obtain ⟨zt8, qzt8, hf⟩ := gb_el hf
          refine gx_getI X hw qzt8 clX12 (by decide) mf_X12_252 dX12_goesThrough_38 ?_
          exact J_41 zv0 zv1 zv2 zv3 zt8 zv0 _ _ _ ls hf hw (lv_sub hl [0, 1, 2, 3] rfl)
        · have hf := gif_f hf qc7
          refine lv_aload_n hx hb dX12_goesThrough_28 rfl (lv_at hl 0 rfl) ?_
          refine lv_iload_n hx hb dX12_goesThrough_29 rfl (lv_at hl 3 rfl) ?_
          refine lv_iconst (v := 2) hx hb dX12_goesThrough_30 (by decide) ?_
          obtain ⟨qizh9, hf⟩ := gg_el hf
          obtain ⟨zt10, zh9, qzh9, hf⟩ := gc_el hf
          refine gx_ki (gx_runV (As := [.int zv3, .int 2]) (rest := [.ref (gB E + zv0)]) X hw (c_X12_eventOf l E N zv0 zv3 2 zh5 qzh9) kX12_eventOf mm_X12_287 qizh9 clX12 ⟨Nat.le_of_ble_eq_true rfl, Nat.le_of_ble_eq_true rfl⟩ rfl rfl rfl hl.1 (Nat.le_of_ble_eq_true rfl) rfl dX12_goesThrough_31 ⟨Nat.le_of_ble_eq_true rfl, Nat.le_of_ble_eq_true rfl⟩) hw (fun H locs hw => ?_)
          refine lv_goto (tgt := 41) hx hb dX12_goesThrough_34 (by decide) ?_
          exact J_41 zv0 zv1 zv2 zv3 zt10 zv0 _ _ _ ls hf hw (lv_sub hl [0, 1, 2, 3] rfl)
  unfold f_X12_goesThrough at hf
  refine lv_aload_n hx hb dX12_goesThrough_0 rfl (lv_at hl 0 rfl) ?_
  obtain ⟨qizh1, hf⟩ := gg_el hf
  obtain ⟨zh1, qzh1, hf⟩ := gb_el hf
  refine gx_kv (gx_runV (As := []) (rest := []) X hw (c_X12_begins l E N za0 zh qzh1) kX12_begins mm_X12_281 qizh1 clX12 ⟨Nat.le_of_ble_eq_true rfl, Nat.le_of_ble_eq_true rfl⟩ rfl rfl rfl hl.1 (Nat.le_of_ble_eq_true rfl) rfl dX12_goesThrough_1 ⟨Nat.le_of_ble_eq_true rfl, Nat.le_of_ble_eq_true rfl⟩) hw (fun H locs hw => ?_)
  refine lv_iconst (v := 0) hx hb dX12_goesThrough_4 (by decide) ?_
  refine lv_istore_n (lv' := [(3, .int 0), (0, .ref (gB E + za0)), (1, .int za1), (2, .int za2)]) hx hb dX12_goesThrough_5 rfl hl (by decide) rfl (fun ls hl => ?_)
  exact L_6 N za0 za1 za2 0 _ _ _ ls hf hw (lv_sub hl [1, 2, 3, 0] rfl)
abbrev rm_X12_find : Room := { frames := 5, cells := 0, slots := 0, locals := 120 }
set_option maxHeartbeats 4000000 in
set_option maxRecDepth 100000 in
theorem c_X12_find (l : Launch) (E : gE) (N : Nat) (za0 : Nat) (zh : PH) {h9 : PH} (hf : f_X12_find N za0 zh = some h9) : Met l yX12_find (gWS yX12_find cX12_find 1 none) rm_X12_find (gPc E [.ref (gB E + za0)] zh) (gQv E h9) 0 0 (gA E) := by
  refine gx_met (by decide) ?_ rfl
  intro p e s m below meth c X hr hlk hin2 hw
  have hx := X.1.1
  have hb := X.1.2.1
  have hl := lv_entry [.ref (gB E + za0)] (n := 1) (Nat.le_of_ble_eq_true rfl)
  rw [lg_entry_eq]
  generalize (lg_sl [.ref (gB E + za0)] ++ List.replicate (1 - (lg_sl [.ref (gB E + za0)]).length) Slot.unset).toArray = ls at hl ⊢
  have hl : lv_has ls 1 [(0, .ref (gB E + za0))] := hl
  have J_18 : ∀ (zh : PH) (H : Heap) (locs : List Loc) (ls : Array Slot), f_X12_find_18 N zh = some h9 → gw E s zh H locs → lv_has ls 1 [] → W p l e rm_X12_find s m [.ref (gB E + za0)].toArray below meth c H locs 0 0 (MQ below (gQv E h9) [.ref (gB E + za0)].toArray s 0 0 (gA E)) (F0 m 18 ls []) := by
    intro zh H locs ls hf hw hl
    unfold f_X12_find_18 at hf
    exact gx_vret X hr hlk hw hf dX12_find_18
  unfold f_X12_find at hf
  refine lv_aload_n hx hb dX12_find_0 rfl (lv_at hl 0 rfl) ?_
  obtain ⟨zt1, qzt1, hf⟩ := gb_el hf
  refine gx_getI X hw qzt1 clX12 (by decide) mf_X12_123 dX12_find_1 ?_
  refine lv_if_eq (tgt := 18) hx hb dX12_find_4 (by decide) (fun qc2 => ?_) (fun qc2 => ?_)
  · have hf := gif_t hf qc2
    exact J_18  _ _ _ ls hf hw (lv_sub hl [] rfl)
  · have hf := gif_f hf qc2
    refine lv_aload_n hx hb dX12_find_7 rfl (lv_at hl 0 rfl) ?_
    refine lv_iconst (v := 0) hx hb dX12_find_8 (by decide) ?_
    obtain ⟨zh3, qzh3, hf⟩ := gb_el hf
    refine gx_putV X hw qzh3 clX12 (by decide) mf_X12_123 rfl rfl rfl dX12_find_9 (fun H locs hw => ?_)
    refine lv_aload_n hx hb dX12_find_12 rfl (lv_at hl 0 rfl) ?_
    refine lv_iconst (v := 0) hx hb dX12_find_13 (by decide) ?_
    refine lv_iconst (v := (-1)) hx hb dX12_find_14 (by decide) ?_
    refine W.eq (g2 := F0 m 15 ls [.int (-1), .int 0, .ref (gB E + za0)]) rfl ?_
    obtain ⟨qizh4, hf⟩ := gg_el hf
    obtain ⟨zh4, qzh4, hf⟩ := gb_el hf
    refine gx_kv (gx_runV (As := [.int 0, .int (-1)]) (rest := []) X hw (c_X12_goesThrough l E N za0 0 (-1) zh3 qzh4) kX12_goesThrough mm_X12_296 qizh4 clX12 ⟨Nat.le_of_ble_eq_true rfl, Nat.le_of_ble_eq_true rfl⟩ rfl rfl rfl hl.1 (Nat.le_of_ble_eq_true rfl) rfl dX12_find_15 ⟨Nat.le_of_ble_eq_true rfl, Nat.le_of_ble_eq_true rfl⟩) hw (fun H locs hw => ?_)
    exact J_18  _ _ _ ls hf hw (lv_sub hl [] rfl)
abbrev rm_X12_roomNow : Room := { frames := 6, cells := 0, slots := 0, locals := 140 }
set_option maxHeartbeats 4000000 in
set_option maxRecDepth 100000 in
theorem c_X12_roomNow (l : Launch) (E : gE) (N : Nat) (za0 : Nat) (za1 : Int32) (zh : PH) {h9 : PH} {r9 : Int32} (hf : f_X12_roomNow N za0 za1 zh = some (r9, h9)) : Met l yX12_roomNow (gWS yX12_roomNow cX12_roomNow 2 (some .int)) rm_X12_roomNow (gPc E [.ref (gB E + za0), .int za1] zh) (gQi E r9 h9) 0 0 (gA E) := by
  refine gx_met (by decide) ?_ rfl
  intro p e s m below meth c X hr hlk hin2 hw
  have hx := X.1.1
  have hb := X.1.2.1
  have hl := lv_entry [.ref (gB E + za0), .int za1] (n := 2) (Nat.le_of_ble_eq_true rfl)
  rw [lg_entry_eq]
  generalize (lg_sl [.ref (gB E + za0), .int za1] ++ List.replicate (2 - (lg_sl [.ref (gB E + za0), .int za1]).length) Slot.unset).toArray = ls at hl ⊢
  have hl : lv_has ls 2 [(0, .ref (gB E + za0)), (1, .int za1)] := hl
  unfold f_X12_roomNow at hf
  refine lv_aload_n hx hb dX12_roomNow_0 rfl (lv_at hl 0 rfl) ?_
  obtain ⟨qizh1, hf⟩ := gg_el hf
  obtain ⟨zh1, qzh1, hf⟩ := gb_el hf
  refine gx_kv (gx_runV (As := []) (rest := []) X hw (c_X12_find l E N za0 zh qzh1) kX12_find mm_X12_300 qizh1 clX12 ⟨Nat.le_of_ble_eq_true rfl, Nat.le_of_ble_eq_true rfl⟩ rfl rfl rfl hl.1 (Nat.le_of_ble_eq_true rfl) rfl dX12_roomNow_1 ⟨Nat.le_of_ble_eq_true rfl, Nat.le_of_ble_eq_true rfl⟩) hw (fun H locs hw => ?_)
  refine lv_aload_n hx hb dX12_roomNow_4 rfl (lv_at hl 0 rfl) ?_
  refine lv_iload_n hx hb dX12_roomNow_5 rfl (lv_at hl 1 rfl) ?_
  obtain ⟨qizh2, hf⟩ := gg_el hf
  obtain ⟨zt3, zh2, qzh2, hf⟩ := gc_el hf
  refine gx_ki (gx_runV (As := [.int za1]) (rest := []) X hw (c_X12_roomOf l E N za0 za1 zh1 qzh2) kX12_roomOf mm_X12_274 qizh2 clX12 ⟨Nat.le_of_ble_eq_true rfl, Nat.le_of_ble_eq_true rfl⟩ rfl rfl rfl hl.1 (Nat.le_of_ble_eq_true rfl) rfl dX12_roomNow_6 ⟨Nat.le_of_ble_eq_true rfl, Nat.le_of_ble_eq_true rfl⟩) hw (fun H locs hw => ?_)
  exact gx_iret X hr hlk hw hf dX12_roomNow_9
abbrev rm_X12_isTold : Room := { frames := 1, cells := 0, slots := 0, locals := 22 }
set_option maxHeartbeats 4000000 in
set_option maxRecDepth 100000 in
theorem c_X12_isTold (l : Launch) (E : gE) (N : Nat) (za0 : Int32) (zh : PH) {h9 : PH} {r9 : Int32} (hf : f_X12_isTold N za0 zh = some (r9, h9)) : Met l yX12_isTold (gWS yX12_isTold cX12_isTold 1 (some .boolean)) rm_X12_isTold (gPc E [.int za0] zh) (gQi E r9 h9) 0 0 (gA E) := by
  refine gx_met (by decide) ?_ rfl
  intro p e s m below meth c X hr hlk hin2 hw
  have hx := X.1.1
  have hb := X.1.2.1
  have hl := lv_entry [.int za0] (n := 1) (Nat.le_of_ble_eq_true rfl)
  rw [lg_entry_eq]
  generalize (lg_sl [.int za0] ++ List.replicate (1 - (lg_sl [.int za0]).length) Slot.unset).toArray = ls at hl ⊢
  have hl : lv_has ls 1 [(0, .int za0)] := hl
  unfold f_X12_isTold at hf
  refine lv_iload_n hx hb dX12_isTold_0 rfl (lv_at hl 0 rfl) ?_
  refine lv_iconst (v := 0) hx hb dX12_isTold_1 (by decide) ?_
  refine lv_ldcw (v := 99999) hx hb X.1.2.2.2.1 (X.1.2.2.2.2 _ mk_X12_303) dX12_isTold_2 ?_
  obtain ⟨zt2, zh1, qzh1, hf⟩ := gc_el hf
  refine gx_ki (gx_runS (As := [.int za0, .int 0, .int 99999]) (rest := []) X hw (c_X12_within l E N za0 0 99999 zh qzh1) kX12_within mm_X12_304 ⟨Nat.le_of_ble_eq_true rfl, Nat.le_of_ble_eq_true rfl⟩ rfl rfl rfl hl.1 (Nat.le_of_ble_eq_true rfl) rfl dX12_isTold_5 ⟨Nat.le_of_ble_eq_true rfl, Nat.le_of_ble_eq_true rfl⟩) hw (fun H locs hw => ?_)
  exact gx_zret X hr hlk hw hf dX12_isTold_8
abbrev rm_X12_isMinute : Room := { frames := 1, cells := 0, slots := 0, locals := 22 }
set_option maxHeartbeats 4000000 in
set_option maxRecDepth 100000 in
theorem c_X12_isMinute (l : Launch) (E : gE) (N : Nat) (za0 : Int32) (zh : PH) {h9 : PH} {r9 : Int32} (hf : f_X12_isMinute N za0 zh = some (r9, h9)) : Met l yX12_isMinute (gWS yX12_isMinute cX12_isMinute 1 (some .boolean)) rm_X12_isMinute (gPc E [.int za0] zh) (gQi E r9 h9) 0 0 (gA E) := by
  refine gx_met (by decide) ?_ rfl
  intro p e s m below meth c X hr hlk hin2 hw
  have hx := X.1.1
  have hb := X.1.2.1
  have hl := lv_entry [.int za0] (n := 1) (Nat.le_of_ble_eq_true rfl)
  rw [lg_entry_eq]
  generalize (lg_sl [.int za0] ++ List.replicate (1 - (lg_sl [.int za0]).length) Slot.unset).toArray = ls at hl ⊢
  have hl : lv_has ls 1 [(0, .int za0)] := hl
  unfold f_X12_isMinute at hf
  refine lv_iload_n hx hb dX12_isMinute_0 rfl (lv_at hl 0 rfl) ?_
  refine lv_iconst (v := 0) hx hb dX12_isMinute_1 (by decide) ?_
  refine lv_ldcw (v := 999999) hx hb X.1.2.2.2.1 (X.1.2.2.2.2 _ mk_X12_308) dX12_isMinute_2 ?_
  obtain ⟨zt2, zh1, qzh1, hf⟩ := gc_el hf
  refine gx_ki (gx_runS (As := [.int za0, .int 0, .int 999999]) (rest := []) X hw (c_X12_within l E N za0 0 999999 zh qzh1) kX12_within mm_X12_304 ⟨Nat.le_of_ble_eq_true rfl, Nat.le_of_ble_eq_true rfl⟩ rfl rfl rfl hl.1 (Nat.le_of_ble_eq_true rfl) rfl dX12_isMinute_5 ⟨Nat.le_of_ble_eq_true rfl, Nat.le_of_ble_eq_true rfl⟩) hw (fun H locs hw => ?_)
  exact gx_zret X hr hlk hw hf dX12_isMinute_8
abbrev rm_X12_insideMany : Room := { frames := 6, cells := 0, slots := 0, locals := 140 }
set_option maxHeartbeats 4000000 in
set_option maxRecDepth 100000 in
theorem c_X12_insideMany (l : Launch) (E : gE) (N : Nat) (za0 : Nat) (zh : PH) {h9 : PH} {r9 : Int32} (hf : f_X12_insideMany N za0 zh = some (r9, h9)) : Met l yX12_insideMany (gWS yX12_insideMany cX12_insideMany 3 (some .int)) rm_X12_insideMany (gPc E [.ref (gB E + za0)] zh) (gQi E r9 h9) 0 0 (gA E) := by
  refine gx_met (by decide) ?_ rfl
  intro p e s m below meth c X hr hlk hin2 hw
  have hx := X.1.1
  have hb := X.1.2.1
  have hl := lv_entry [.ref (gB E + za0)] (n := 3) (Nat.le_of_ble_eq_true rfl)
  rw [lg_entry_eq]
  generalize (lg_sl [.ref (gB E + za0)] ++ List.replicate (3 - (lg_sl [.ref (gB E + za0)]).length) Slot.unset).toArray = ls at hl ⊢
  have hl : lv_has ls 3 [(0, .ref (gB E + za0))] := hl
  have L_8 : ∀ (zn8 : Nat) (zv0 : Nat) (zv1 : Int32) (zv2 : Int32) (zh : PH) (H : Heap) (locs : List Loc) (ls : Array Slot), gi (fun zk zs => f_X12_insideMany_8 N zk zs.1 zs.2.1 zs.2.2.1 zs.2.2.2) zn8 (zv0, zv1, zv2, zh) = some (r9, h9) → gw E s zh H locs → lv_has ls 3 [(0, .ref (gB E + zv0)), (1, .int zv1), (2, .int zv2)] → W p l e rm_X12_insideMany s m [.ref (gB E + za0)].toArray below meth c H locs 0 0 (MQ below (gQi E r9 h9) [.ref (gB E + za0)].toArray s 0 0 (gA E)) (F0 m 8 ls []) := by
    intro zn8
    induction zn8 with
    | zero =>
      intro zv0 zv1 zv2 zh H locs ls hf
      cases hf
    | succ zn8 ih_8 =>
      have J_31 : ∀ (zv0 : Nat) (zv2 : Int32) (zs0 : Int32) (zs1 : Int32) (zh : PH) (H : Heap) (locs : List Loc) (ls : Array Slot), f_X12_insideMany_31 N (gi (fun zk zs => f_X12_insideMany_8 N zk zs.1 zs.2.1 zs.2.2.1 zs.2.2.2) zn8) zv0 zv2 zs0 zs1 zh = some (r9, h9) → gw E s zh H locs → lv_has ls 3 [(0, .ref (gB E + zv0)), (2, .int zv2)] → W p l e rm_X12_insideMany s m [.ref (gB E + za0)].toArray below meth c H locs 0 0 (MQ below (gQi E r9 h9) [.ref (gB E + za0)].toArray s 0 0 (gA E)) (F0 m 31 ls [.int zs0, .int zs1]) := by
        intro zv0 zv2 zs0 zs1 zh H locs ls hf hw hl
        unfold f_X12_insideMany_31 at hf
        refine lv_iadd hx hb dX12_insideMany_31 ?_
        refine lv_topi (fun zx1 ezx1 => ?_)
        have hf := gl_el hf ezx1
        refine lv_istore_n (lv' := [(1, .int zx1), (0, .ref (gB E + zv0)), (2, .int zv2)]) hx hb dX12_insideMany_32 rfl hl (by decide) rfl (fun ls hl => ?_)
        obtain ⟨zx2, ezx2⟩ : ∃ y : Int32, y = zv2 + 1 := ⟨_, rfl⟩
        have hf := gl_el hf ezx2
        refine lv_iinc (v := zx2) (lv' := [(2, .int zx2), (1, .int zx1), (0, .ref (gB E + zv0))]) hx hb dX12_insideMany_33 hl (k := 2) rfl (by rw [ezx2]; rfl) (by decide) rfl (fun ls hl => ?_)
        refine lv_goto (tgt := 8) hx hb dX12_insideMany_36 (by decide) ?_
        exact ih_8 zv0 zx1 zx2 _ _ _ ls hf hw (lv_sub hl [2, 1, 0] rfl)
      intro zv0 zv1 zv2 zh H locs ls hf hw hl
      have hf := gi_s hf
      dsimp only at hf
      unfold f_X12_insideMany_8 at hf
      refine lv_iload_n hx hb dX12_insideMany_8 rfl (lv_at hl 2 rfl) ?_
      refine lv_aload_n hx hb dX12_insideMany_9 rfl (lv_at hl 0 rfl) ?_
      obtain ⟨qizh1, hf⟩ := gg_el hf
      obtain ⟨zt2, zh1, qzh1, hf⟩ := gc_el hf
      refine gx_ki (gx_runV (As := []) (rest := [.int zv2]) X hw (c_X12_rooms l E N zv0 zh qzh1) kX12_rooms mm_X12_231 qizh1 clX12 ⟨Nat.le_of_ble_eq_true rfl, Nat.le_of_ble_eq_true rfl⟩ rfl rfl rfl hl.1 (Nat.le_of_ble_eq_true rfl) rfl dX12_insideMany_10 ⟨Nat.le_of_ble_eq_true rfl, Nat.le_of_ble_eq_true rfl⟩) hw (fun H locs hw => ?_)
      refine lv_icmp_ge (tgt := 39) hx hb dX12_insideMany_13 (by decide) (fun qc3 => ?_) (fun qc3 => ?_)
      · have hf := gif_t hf qc3
        refine lv_iload_n hx hb dX12_insideMany_39 rfl (lv_at hl 1 rfl) ?_
        exact gx_iret X hr hlk hw hf dX12_insideMany_40
      · have hf := gif_f hf qc3
        refine lv_iload_n hx hb dX12_insideMany_16 rfl (lv_at hl 1 rfl) ?_
        refine lv_aload_n hx hb dX12_insideMany_17 rfl (lv_at hl 0 rfl) ?_
        obtain ⟨zt4, qzt4, hf⟩ := gb_el hf
        refine gx_getR X hw qzt4 clX12 (by decide) mf_X12_86 dX12_insideMany_18 ?_
        refine lv_iload_n hx hb dX12_insideMany_21 rfl (lv_at hl 2 rfl) ?_
        obtain ⟨zt5, qzt5, hf⟩ := gb_el hf
        refine gx_iald X hw qzt5 dX12_insideMany_22 ?_
        refine W.eq (g2 := F0 m 23 ls [.int zt5, .int zv1]) rfl ?_
        refine lv_if_lt (tgt := 30) hx hb dX12_insideMany_23 (by decide) (fun qc6 => ?_) (fun qc6 => ?_)
        · have hf := gif_t hf qc6
          refine lv_iconst (v := 0) hx hb dX12_insideMany_30 (by decide) ?_
          exact J_31 zv0 zv2 0 zv1 _ _ _ ls hf hw (lv_sub hl [0, 2] rfl)
        · have hf := gif_f hf qc6
          refine lv_iconst (v := 1) hx hb dX12_insideMany_26 (by decide) ?_
          refine lv_goto (tgt := 31) hx hb dX12_insideMany_27 (by decide) ?_
          exact J_31 zv0 zv2 1 zv1 _ _ _ ls hf hw (lv_sub hl [0, 2] rfl)
  unfold f_X12_insideMany at hf
  refine lv_aload_n hx hb dX12_insideMany_0 rfl (lv_at hl 0 rfl) ?_
  obtain ⟨qizh1, hf⟩ := gg_el hf
  obtain ⟨zh1, qzh1, hf⟩ := gb_el hf
  refine gx_kv (gx_runV (As := []) (rest := []) X hw (c_X12_find l E N za0 zh qzh1) kX12_find mm_X12_300 qizh1 clX12 ⟨Nat.le_of_ble_eq_true rfl, Nat.le_of_ble_eq_true rfl⟩ rfl rfl rfl hl.1 (Nat.le_of_ble_eq_true rfl) rfl dX12_insideMany_1 ⟨Nat.le_of_ble_eq_true rfl, Nat.le_of_ble_eq_true rfl⟩) hw (fun H locs hw => ?_)
  refine lv_iconst (v := 0) hx hb dX12_insideMany_4 (by decide) ?_
  refine lv_istore_n (lv' := [(1, .int 0), (0, .ref (gB E + za0))]) hx hb dX12_insideMany_5 rfl hl (by decide) rfl (fun ls hl => ?_)
  refine lv_iconst (v := 0) hx hb dX12_insideMany_6 (by decide) ?_
  refine lv_istore_n (lv' := [(2, .int 0), (1, .int 0), (0, .ref (gB E + za0))]) hx hb dX12_insideMany_7 rfl hl (by decide) rfl (fun ls hl => ?_)
  exact L_8 N za0 0 0 _ _ _ ls hf hw (lv_sub hl [2, 1, 0] rfl)
abbrev rm_X12_room : Room := { frames := 6, cells := 0, slots := 0, locals := 140 }
set_option maxHeartbeats 4000000 in
set_option maxRecDepth 100000 in
theorem c_X12_room (l : Launch) (E : gE) (N : Nat) (za0 : Nat) (za1 : Int32) (za2 : Int32) (zh : PH) {h9 : PH} {r9 : Int32} (hf : f_X12_room N za0 za1 za2 zh = some (r9, h9)) : Met l yX12_room (gWS yX12_room cX12_room 3 (some .int)) rm_X12_room (gPc E [.ref (gB E + za0), .int za1, .int za2] zh) (gQi E r9 h9) 0 0 (gA E) := by
  refine gx_met (by decide) ?_ rfl
  intro p e s m below meth c X hr hlk hin2 hw
  have hx := X.1.1
  have hb := X.1.2.1
  have hl := lv_entry [.ref (gB E + za0), .int za1, .int za2] (n := 3) (Nat.le_of_ble_eq_true rfl)
  rw [lg_entry_eq]
  generalize (lg_sl [.ref (gB E + za0), .int za1, .int za2] ++ List.replicate (3 - (lg_sl [.ref (gB E + za0), .int za1, .int za2]).length) Slot.unset).toArray = ls at hl ⊢
  have hl : lv_has ls 3 [(0, .ref (gB E + za0)), (1, .int za1), (2, .int za2)] := hl
  have J_54 : ∀ (zs0 : Int32) (zh : PH) (H : Heap) (locs : List Loc) (ls : Array Slot), f_X12_room_54 N zs0 zh = some (r9, h9) → gw E s zh H locs → lv_has ls 3 [] → W p l e rm_X12_room s m [.ref (gB E + za0), .int za1, .int za2].toArray below meth c H locs 0 0 (MQ below (gQi E r9 h9) [.ref (gB E + za0), .int za1, .int za2].toArray s 0 0 (gA E)) (F0 m 54 ls [.int zs0]) := by
    intro zs0 zh H locs ls hf hw hl
    unfold f_X12_room_54 at hf
    exact gx_iret X hr hlk hw hf dX12_room_54
  have J_22 : ∀ (zh : PH) (H : Heap) (locs : List Loc) (ls : Array Slot), f_X12_room_22 N zh = some (r9, h9) → gw E s zh H locs → lv_has ls 3 [] → W p l e rm_X12_room s m [.ref (gB E + za0), .int za1, .int za2].toArray below meth c H locs 0 0 (MQ below (gQi E r9 h9) [.ref (gB E + za0), .int za1, .int za2].toArray s 0 0 (gA E)) (F0 m 22 ls []) := by
    intro zh H locs ls hf hw hl
    unfold f_X12_room_22 at hf
    refine lv_iconst (v := (-1)) hx hb dX12_room_22 (by decide) ?_
    exact gx_iret X hr hlk hw hf dX12_room_23
  unfold f_X12_room at hf
  refine lv_aload_n hx hb dX12_room_0 rfl (lv_at hl 0 rfl) ?_
  refine lv_iconst (v := 0) hx hb dX12_room_1 (by decide) ?_
  obtain ⟨zh1, qzh1, hf⟩ := gb_el hf
  refine gx_putV X hw qzh1 clX12 (by decide) mf_X12_1 rfl rfl rfl dX12_room_2 (fun H locs hw => ?_)
  refine lv_aload_n hx hb dX12_room_5 rfl (lv_at hl 0 rfl) ?_
  refine lv_iload_n hx hb dX12_room_6 rfl (lv_at hl 1 rfl) ?_
  obtain ⟨qizh2, hf⟩ := gg_el hf
  obtain ⟨zt3, zh2, qzh2, hf⟩ := gc_el hf
  refine gx_ki (gx_runV (As := [.int za1]) (rest := []) X hw (c_X12_isRoom l E N za0 za1 zh1 qzh2) kX12_isRoom mm_X12_309 qizh2 clX12 ⟨Nat.le_of_ble_eq_true rfl, Nat.le_of_ble_eq_true rfl⟩ rfl rfl rfl hl.1 (Nat.le_of_ble_eq_true rfl) rfl dX12_room_7 ⟨Nat.le_of_ble_eq_true rfl, Nat.le_of_ble_eq_true rfl⟩) hw (fun H locs hw => ?_)
  refine lv_if_eq (tgt := 22) hx hb dX12_room_10 (by decide) (fun qc4 => ?_) (fun qc4 => ?_)
  · have hf := gif_t hf qc4
    exact J_22  _ _ _ ls hf hw (lv_sub hl [] rfl)
  · have hf := gif_f hf qc4
    refine lv_iload_n hx hb dX12_room_13 rfl (lv_at hl 2 rfl) ?_
    refine lv_iconst (v := 0) hx hb dX12_room_14 (by decide) ?_
    refine W.eq (g2 := F0 m 15 ls [.int 0, .int za2]) rfl ?_
    refine lv_iconst (v := 2) hx hb dX12_room_15 (by decide) ?_
    obtain ⟨zt6, zh5, qzh5, hf⟩ := gc_el hf
    refine gx_ki (gx_runS (As := [.int za2, .int 0, .int 2]) (rest := []) X hw (c_X12_within l E N za2 0 2 zh2 qzh5) kX12_within mm_X12_304 ⟨Nat.le_of_ble_eq_true rfl, Nat.le_of_ble_eq_true rfl⟩ rfl rfl rfl hl.1 (Nat.le_of_ble_eq_true rfl) rfl dX12_room_16 ⟨Nat.le_of_ble_eq_true rfl, Nat.le_of_ble_eq_true rfl⟩) hw (fun H locs hw => ?_)
    refine lv_if_ne (tgt := 24) hx hb dX12_room_19 (by decide) (fun qc7 => ?_) (fun qc7 => ?_)
    · have hf := gif_f hf qc7
      refine lv_aload_n hx hb dX12_room_24 rfl (lv_at hl 0 rfl) ?_
      obtain ⟨qizh8, hf⟩ := gg_el hf
      obtain ⟨zh8, qzh8, hf⟩ := gb_el hf
      refine gx_kv (gx_runV (As := []) (rest := []) X hw (c_X12_find l E N za0 zh5 qzh8) kX12_find mm_X12_300 qizh8 clX12 ⟨Nat.le_of_ble_eq_true rfl, Nat.le_of_ble_eq_true rfl⟩ rfl rfl rfl hl.1 (Nat.le_of_ble_eq_true rfl) rfl dX12_room_25 ⟨Nat.le_of_ble_eq_true rfl, Nat.le_of_ble_eq_true rfl⟩) hw (fun H locs hw => ?_)
      refine lv_iload_n hx hb dX12_room_28 rfl (lv_at hl 2 rfl) ?_
      refine lv_iconst (v := 2) hx hb dX12_room_29 (by decide) ?_
      refine lv_icmp_ge (tgt := 48) hx hb dX12_room_30 (by decide) (fun qc9 => ?_) (fun qc9 => ?_)
      · have hf := gif_t hf qc9
        refine lv_aload_n hx hb dX12_room_48 rfl (lv_at hl 0 rfl) ?_
        obtain ⟨zt10, qzt10, hf⟩ := gb_el hf
        refine gx_getR X hw qzt10 clX12 (by decide) mf_X12_86 dX12_room_49 ?_
        refine W.eq (g2 := F0 m 52 ls [.ref (gB E + zt10)]) rfl ?_
        refine lv_iload_n hx hb dX12_room_52 rfl (lv_at hl 1 rfl) ?_
        obtain ⟨zt11, qzt11, hf⟩ := gb_el hf
        refine gx_iald X hw qzt11 dX12_room_53 ?_
        exact J_54 zt11 _ _ _ ls hf hw (lv_sub hl [] rfl)
      · have hf := gif_f hf qc9
        refine lv_aload_n hx hb dX12_room_33 rfl (lv_at hl 0 rfl) ?_
        obtain ⟨zt12, qzt12, hf⟩ := gb_el hf
        refine gx_getR X hw qzt12 clX12 (by decide) mf_X12_65 dX12_room_34 ?_
        refine W.eq (g2 := F0 m 37 ls [.ref (gB E + zt12)]) rfl ?_
        refine lv_iconst (v := 3) hx hb dX12_room_37 (by decide) ?_
        refine lv_iconst (v := 2) hx hb dX12_room_38 (by decide) ?_
        refine lv_iload_n hx hb dX12_room_39 rfl (lv_at hl 1 rfl) ?_
        refine lv_imul hx hb dX12_room_40 ?_
        refine lv_iadd hx hb dX12_room_41 ?_
        refine lv_iload_n hx hb dX12_room_42 rfl (lv_at hl 2 rfl) ?_
        refine lv_iadd hx hb dX12_room_43 ?_
        obtain ⟨zt13, qzt13, hf⟩ := gb_el hf
        refine gx_iald X hw qzt13 dX12_room_44 ?_
        refine lv_goto (tgt := 54) hx hb dX12_room_45 (by decide) ?_
        exact J_54 zt13 _ _ _ ls hf hw (lv_sub hl [] rfl)
    · have hf := gif_t hf qc7
      exact J_22  _ _ _ ls hf hw (lv_sub hl [] rfl)
abbrev rm_X12_guest : Room := { frames := 7, cells := 0, slots := 0, locals := 161 }
set_option maxHeartbeats 4000000 in
set_option maxRecDepth 100000 in
theorem c_X12_guest (l : Launch) (E : gE) (N : Nat) (za0 : Nat) (za1 : Int32) (za2 : Int32) (zh : PH) {h9 : PH} {r9 : Int32} (hf : f_X12_guest N za0 za1 za2 zh = some (r9, h9)) : Met l yX12_guest (gWS yX12_guest cX12_guest 4 (some .int)) rm_X12_guest (gPc E [.ref (gB E + za0), .int za1, .int za2] zh) (gQi E r9 h9) 0 0 (gA E) := by
  refine gx_met (by decide) ?_ rfl
  intro p e s m below meth c X hr hlk hin2 hw
  have hx := X.1.1
  have hb := X.1.2.1
  have hl := lv_entry [.ref (gB E + za0), .int za1, .int za2] (n := 4) (Nat.le_of_ble_eq_true rfl)
  rw [lg_entry_eq]
  generalize (lg_sl [.ref (gB E + za0), .int za1, .int za2] ++ List.replicate (4 - (lg_sl [.ref (gB E + za0), .int za1, .int za2]).length) Slot.unset).toArray = ls at hl ⊢
  have hl : lv_has ls 4 [(0, .ref (gB E + za0)), (1, .int za1), (2, .int za2)] := hl
  have J_73 : ∀ (zs0 : Int32) (zh : PH) (H : Heap) (locs : List Loc) (ls : Array Slot), f_X12_guest_73 N zs0 zh = some (r9, h9) → gw E s zh H locs → lv_has ls 4 [] → W p l e rm_X12_guest s m [.ref (gB E + za0), .int za1, .int za2].toArray below meth c H locs 0 0 (MQ below (gQi E r9 h9) [.ref (gB E + za0), .int za1, .int za2].toArray s 0 0 (gA E)) (F0 m 73 ls [.int zs0]) := by
    intro zs0 zh H locs ls hf hw hl
    unfold f_X12_guest_73 at hf
    exact gx_iret X hr hlk hw hf dX12_guest_73
  have J_22 : ∀ (zh : PH) (H : Heap) (locs : List Loc) (ls : Array Slot), f_X12_guest_22 N zh = some (r9, h9) → gw E s zh H locs → lv_has ls 4 [] → W p l e rm_X12_guest s m [.ref (gB E + za0), .int za1, .int za2].toArray below meth c H locs 0 0 (MQ below (gQi E r9 h9) [.ref (gB E + za0), .int za1, .int za2].toArray s 0 0 (gA E)) (F0 m 22 ls []) := by
    intro zh H locs ls hf hw hl
    unfold f_X12_guest_22 at hf
    refine lv_iconst (v := (-1)) hx hb dX12_guest_22 (by decide) ?_
    exact gx_iret X hr hlk hw hf dX12_guest_23
  unfold f_X12_guest at hf
  refine lv_aload_n hx hb dX12_guest_0 rfl (lv_at hl 0 rfl) ?_
  refine lv_iconst (v := 0) hx hb dX12_guest_1 (by decide) ?_
  obtain ⟨zh1, qzh1, hf⟩ := gb_el hf
  refine gx_putV X hw qzh1 clX12 (by decide) mf_X12_1 rfl rfl rfl dX12_guest_2 (fun H locs hw => ?_)
  refine lv_aload_n hx hb dX12_guest_5 rfl (lv_at hl 0 rfl) ?_
  refine lv_iload_n hx hb dX12_guest_6 rfl (lv_at hl 1 rfl) ?_
  obtain ⟨qizh2, hf⟩ := gg_el hf
  obtain ⟨zt3, zh2, qzh2, hf⟩ := gc_el hf
  refine gx_ki (gx_runV (As := [.int za1]) (rest := []) X hw (c_X12_isGuest l E N za0 za1 zh1 qzh2) kX12_isGuest mm_X12_312 qizh2 clX12 ⟨Nat.le_of_ble_eq_true rfl, Nat.le_of_ble_eq_true rfl⟩ rfl rfl rfl hl.1 (Nat.le_of_ble_eq_true rfl) rfl dX12_guest_7 ⟨Nat.le_of_ble_eq_true rfl, Nat.le_of_ble_eq_true rfl⟩) hw (fun H locs hw => ?_)
  refine lv_if_eq (tgt := 22) hx hb dX12_guest_10 (by decide) (fun qc4 => ?_) (fun qc4 => ?_)
  · have hf := gif_t hf qc4
    exact J_22  _ _ _ ls hf hw (lv_sub hl [] rfl)
  · have hf := gif_f hf qc4
    refine lv_iload_n hx hb dX12_guest_13 rfl (lv_at hl 2 rfl) ?_
    refine lv_iconst (v := 0) hx hb dX12_guest_14 (by decide) ?_
    refine W.eq (g2 := F0 m 15 ls [.int 0, .int za2]) rfl ?_
    refine lv_iconst (v := 5) hx hb dX12_guest_15 (by decide) ?_
    obtain ⟨zt6, zh5, qzh5, hf⟩ := gc_el hf
    refine gx_ki (gx_runS (As := [.int za2, .int 0, .int 5]) (rest := []) X hw (c_X12_within l E N za2 0 5 zh2 qzh5) kX12_within mm_X12_304 ⟨Nat.le_of_ble_eq_true rfl, Nat.le_of_ble_eq_true rfl⟩ rfl rfl rfl hl.1 (Nat.le_of_ble_eq_true rfl) rfl dX12_guest_16 ⟨Nat.le_of_ble_eq_true rfl, Nat.le_of_ble_eq_true rfl⟩) hw (fun H locs hw => ?_)
    refine lv_if_ne (tgt := 24) hx hb dX12_guest_19 (by decide) (fun qc7 => ?_) (fun qc7 => ?_)
    · have hf := gif_f hf qc7
      refine lv_aload_n hx hb dX12_guest_24 rfl (lv_at hl 0 rfl) ?_
      refine lv_iload_n hx hb dX12_guest_25 rfl (lv_at hl 1 rfl) ?_
      obtain ⟨qizh8, hf⟩ := gg_el hf
      obtain ⟨zt9, zh8, qzh8, hf⟩ := gc_el hf
      refine gx_ki (gx_runV (As := [.int za1]) (rest := []) X hw (c_X12_roomNow l E N za0 za1 zh5 qzh8) kX12_roomNow mm_X12_315 qizh8 clX12 ⟨Nat.le_of_ble_eq_true rfl, Nat.le_of_ble_eq_true rfl⟩ rfl rfl rfl hl.1 (Nat.le_of_ble_eq_true rfl) rfl dX12_guest_26 ⟨Nat.le_of_ble_eq_true rfl, Nat.le_of_ble_eq_true rfl⟩) hw (fun H locs hw => ?_)
      refine lv_istore_n (lv' := [(3, .int zt9), (0, .ref (gB E + za0)), (1, .int za1), (2, .int za2)]) hx hb dX12_guest_29 rfl hl (by decide) rfl (fun ls hl => ?_)
      refine lv_iload_n hx hb dX12_guest_30 rfl (lv_at hl 3 rfl) ?_
      refine lv_iconst (v := 3) hx hb dX12_guest_31 (by decide) ?_
      refine lv_icmp_ge (tgt := 44) hx hb dX12_guest_32 (by decide) (fun qc10 => ?_) (fun qc10 => ?_)
      · have hf := gif_t hf qc10
        refine W.eq (g2 := F0 m 44 ls []) rfl ?_
        refine lv_iload_n hx hb dX12_guest_44 rfl (lv_at hl 3 rfl) ?_
        refine lv_iconst (v := 3) hx hb dX12_guest_45 (by decide) ?_
        refine lv_icmp_ne (tgt := 53) hx hb dX12_guest_46 (by decide) (fun qc11 => ?_) (fun qc11 => ?_)
        · have hf := gif_f hf qc11
          refine lv_iload_n hx hb dX12_guest_53 rfl (lv_at hl 3 rfl) ?_
          refine lv_iconst (v := 4) hx hb dX12_guest_54 (by decide) ?_
          refine lv_icmp_ne (tgt := 67) hx hb dX12_guest_55 (by decide) (fun qc12 => ?_) (fun qc12 => ?_)
          · have hf := gif_f hf qc12
            refine lv_aload_n hx hb dX12_guest_67 rfl (lv_at hl 1 rfl) ?_
            obtain ⟨zt13, qzt13, hf⟩ := gb_el hf
            refine gx_getR X hw qzt13 clX12 (by decide) mf_X12_92 dX12_guest_68 ?_
            refine lv_iload_n hx hb dX12_guest_71 rfl (lv_at hl 2 rfl) ?_
            obtain ⟨zt14, qzt14, hf⟩ := gb_el hf
            refine gx_iald X hw qzt14 dX12_guest_72 ?_
            exact J_73 zt14 _ _ _ ls hf hw (lv_sub hl [] rfl)
          · have hf := gif_t hf qc12
            refine lv_aload_n hx hb dX12_guest_58 rfl (lv_at hl 1 rfl) ?_
            obtain ⟨zt15, qzt15, hf⟩ := gb_el hf
            refine gx_getR X hw qzt15 clX12 (by decide) mf_X12_89 dX12_guest_59 ?_
            refine lv_iload_n hx hb dX12_guest_62 rfl (lv_at hl 2 rfl) ?_
            obtain ⟨zt16, qzt16, hf⟩ := gb_el hf
            refine gx_iald X hw qzt16 dX12_guest_63 ?_
            refine W.eq (g2 := F0 m 64 ls [.int zt16]) rfl ?_
            refine lv_goto (tgt := 73) hx hb dX12_guest_64 (by decide) ?_
            exact J_73 zt16 _ _ _ ls hf hw (lv_sub hl [] rfl)
        · have hf := gif_t hf qc11
          refine lv_iload_n hx hb dX12_guest_49 rfl (lv_at hl 0 rfl) ?_
          refine lv_goto (tgt := 73) hx hb dX12_guest_50 (by decide) ?_
          exact J_73 zt9 _ _ _ ls hf hw (lv_sub hl [] rfl)
      · have hf := gif_f hf qc10
        refine W.eq (g2 := F0 m 35 ls []) rfl ?_
        refine lv_aload_n hx hb dX12_guest_35 rfl (lv_at hl 1 rfl) ?_
        refine lv_iload_n hx hb dX12_guest_36 rfl (lv_at hl 2 rfl) ?_
        refine lv_iload_n hx hb dX12_guest_37 rfl (lv_at hl 3 rfl) ?_
        obtain ⟨qizh17, hf⟩ := gg_el hf
        obtain ⟨zt18, zh17, qzh17, hf⟩ := gc_el hf
        refine gx_ki (gx_runV (As := [.int za1, .int za2]) (rest := []) X hw (c_X12_guestOf l E N za0 za1 za2 zh8 qzh17) kX12_guestOf mm_X12_261 qizh17 clX12 ⟨Nat.le_of_ble_eq_true rfl, Nat.le_of_ble_eq_true rfl⟩ rfl rfl rfl hl.1 (Nat.le_of_ble_eq_true rfl) rfl dX12_guest_38 ⟨Nat.le_of_ble_eq_true rfl, Nat.le_of_ble_eq_true rfl⟩) hw (fun H locs hw => ?_)
        refine lv_goto (tgt := 73) hx hb dX12_guest_41 (by decide) ?_
        exact J_73 zt18 _ _ _ ls hf hw (lv_sub hl [] rfl)
    · have hf := gif_t hf qc7
      exact J_22  _ _ _ ls hf hw (lv_sub hl [] rfl)
abbrev rm_X12_use : Room := { frames := 2, cells := 0, slots := 0, locals := 41 }
set_option maxHeartbeats 4000000 in
set_option maxRecDepth 100000 in
theorem c_X12_use (l : Launch) (E : gE) (N : Nat) (za0 : Nat) (za1 : Int32) (zh : PH) {h9 : PH} {r9 : Int32} (hf : f_X12_use N za0 za1 zh = some (r9, h9)) : Met l yX12_use (gWS yX12_use cX12_use 2 (some .boolean)) rm_X12_use (gPc E [.ref (gB E + za0), .int za1] zh) (gQi E r9 h9) 0 0 (gA E) := by
  refine gx_met (by decide) ?_ rfl
  intro p e s m below meth c X hr hlk hin2 hw
  have hx := X.1.1
  have hb := X.1.2.1
  have hl := lv_entry [.ref (gB E + za0), .int za1] (n := 2) (Nat.le_of_ble_eq_true rfl)
  rw [lg_entry_eq]
  generalize (lg_sl [.ref (gB E + za0), .int za1] ++ List.replicate (2 - (lg_sl [.ref (gB E + za0), .int za1]).length) Slot.unset).toArray = ls at hl ⊢
  have hl : lv_has ls 2 [(0, .ref (gB E + za0)), (1, .int za1)] := hl
  have J_20 : ∀ (zv0 : Nat) (zv1 : Int32) (zh : PH) (H : Heap) (locs : List Loc) (ls : Array Slot), f_X12_use_20 N zv0 zv1 zh = some (r9, h9) → gw E s zh H locs → lv_has ls 2 [(0, .ref (gB E + zv0)), (1, .int zv1)] → W p l e rm_X12_use s m [.ref (gB E + za0), .int za1].toArray below meth c H locs 0 0 (MQ below (gQi E r9 h9) [.ref (gB E + za0), .int za1].toArray s 0 0 (gA E)) (F0 m 20 ls []) := by
    intro zv0 zv1 zh H locs ls hf hw hl
    unfold f_X12_use_20 at hf
    refine lv_aload_n hx hb dX12_use_20 rfl (lv_at hl 0 rfl) ?_
    obtain ⟨zt1, qzt1, hf⟩ := gb_el hf
    refine gx_getR X hw qzt1 clX12 (by decide) mf_X12_83 dX12_use_21 ?_
    refine lv_iconst (v := 0) hx hb dX12_use_24 (by decide) ?_
    refine lv_iload_n hx hb dX12_use_25 rfl (lv_at hl 1 rfl) ?_
    obtain ⟨zh2, qzh2, hf⟩ := gb_el hf
    refine gx_iast X hw qzh2 dX12_use_26 (fun H locs hw => ?_)
    refine lv_iconst (v := 1) hx hb dX12_use_27 (by decide) ?_
    exact gx_zret X hr hlk hw hf dX12_use_28
  unfold f_X12_use at hf
  refine lv_aload_n hx hb dX12_use_0 rfl (lv_at hl 0 rfl) ?_
  refine lv_iconst (v := 0) hx hb dX12_use_1 (by decide) ?_
  obtain ⟨zh1, qzh1, hf⟩ := gb_el hf
  refine gx_putV X hw qzh1 clX12 (by decide) mf_X12_1 rfl rfl rfl dX12_use_2 (fun H locs hw => ?_)
  refine lv_iload_n hx hb dX12_use_5 rfl (lv_at hl 1 rfl) ?_
  refine lv_iconst (v := (-1)) hx hb dX12_use_6 (by decide) ?_
  refine lv_icmp_eq (tgt := 20) hx hb dX12_use_7 (by decide) (fun qc2 => ?_) (fun qc2 => ?_)
  · have hf := gif_t hf qc2
    exact J_20 za0 za1 _ _ _ ls hf hw (lv_sub hl [0, 1] rfl)
  · have hf := gif_f hf qc2
    refine lv_aload_n hx hb dX12_use_10 rfl (lv_at hl 0 rfl) ?_
    refine lv_iload_n hx hb dX12_use_11 rfl (lv_at hl 1 rfl) ?_
    obtain ⟨qizh3, hf⟩ := gg_el hf
    obtain ⟨zt4, zh3, qzh3, hf⟩ := gc_el hf
    refine gx_ki (gx_runV (As := [.int za1]) (rest := []) X hw (c_X12_isRule l E N za0 za1 zh1 qzh3) kX12_isRule mm_X12_318 qizh3 clX12 ⟨Nat.le_of_ble_eq_true rfl, Nat.le_of_ble_eq_true rfl⟩ rfl rfl rfl hl.1 (Nat.le_of_ble_eq_true rfl) rfl dX12_use_12 ⟨Nat.le_of_ble_eq_true rfl, Nat.le_of_ble_eq_true rfl⟩) hw (fun H locs hw => ?_)
    refine W.eq (g2 := F0 m 15 ls [.int zt4]) rfl ?_
    refine lv_if_ne (tgt := 20) hx hb dX12_use_15 (by decide) (fun qc5 => ?_) (fun qc5 => ?_)
    · have hf := gif_f hf qc5
      exact J_20 za0 za1 _ _ _ ls hf hw (lv_sub hl [0, 1] rfl)
    · have hf := gif_t hf qc5
      refine lv_iconst (v := 0) hx hb dX12_use_18 (by decide) ?_
      exact gx_zret X hr hlk hw hf dX12_use_19
