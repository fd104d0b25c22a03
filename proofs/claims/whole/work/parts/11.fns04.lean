def f_X12_leaves_135 (N : Nat) (zh : PH) : Option PH :=
  some zh
def f_X12_leaves_129 (N : Nat) (zk13 : (Nat × Int32 × Int32 × PH) → Option PH) (zv0 : Nat) (zv2 : Int32) (zv4 : Int32) (zh : PH) : Option PH :=
  zk13 (zv0, zv2, zv4, zh)
def f_X12_leaves_102 (N : Nat) (zk13 : (Nat × Int32 × Int32 × PH) → Option PH) (zk32 : (Nat × Int32 × Int32 × Int32 × Int32 × Int32 × PH) → Option PH) (zv0 : Nat) (zv2 : Int32) (zv3 : Int32) (zv4 : Int32) (zv6 : Int32) (zs0 : Int32) (zh : PH) : Option PH :=
  gl (zv6 + 1) fun (zx1 : Int32) =>
  zk32 (zv0, zv2, zv3, zv4, zs0, zx1, zh)
def f_X12_leaves_86 (N : Nat) (zk13 : (Nat × Int32 × Int32 × PH) → Option PH) (zk32 : (Nat × Int32 × Int32 × Int32 × Int32 × Int32 × PH) → Option PH) (zv0 : Nat) (zv2 : Int32) (zv3 : Int32) (zv5 : Int32) (zv6 : Int32) (zv7 : Int32) (zs0 : Int32) (zh : PH) : Option PH :=
  if (zv7 : Int32) ≤ zv5 then (
  f_X12_leaves_102 N zk13 zk32 zv0 zv2 zv3 zs0 zv6 zv5 zh)
  else (
  f_X12_leaves_102 N zk13 zk32 zv0 zv2 zv3 zs0 zv6 zv7 zh)
def f_X12_leaves_70 (N : Nat) (zk13 : (Nat × Int32 × Int32 × PH) → Option PH) (zk32 : (Nat × Int32 × Int32 × Int32 × Int32 × Int32 × PH) → Option PH) (zv0 : Nat) (zv2 : Int32) (zv3 : Int32) (zv4 : Int32) (zv5 : Int32) (zv6 : Int32) (zs0 : Int32) (zh : PH) : Option PH :=
  if (zs0 : Int32) ≤ zv5 then (
  f_X12_leaves_86 N zk13 zk32 zv0 zv2 zv3 zv5 zv6 zs0 zv4 zh)
  else (
  f_X12_leaves_86 N zk13 zk32 zv0 zv2 zv3 zv5 zv6 zs0 zv6 zh)
def f_X12_leaves_32 (N : Nat) (zk13 : (Nat × Int32 × Int32 × PH) → Option PH) (zk32 : (Nat × Int32 × Int32 × Int32 × Int32 × Int32 × PH) → Option PH) (zv0 : Nat) (zv2 : Int32) (zv3 : Int32) (zv4 : Int32) (zv5 : Int32) (zv6 : Int32) (zh : PH) : Option PH :=
  gg (gIs 12 zv0 zh) <|
  gc (f_X12_rooms N zv0 zh) fun zt2 zh1 =>
  if (zt2 : Int32) ≤ zv6 then (
  if (zv4 : Int32) < 0 then (
  f_X12_leaves_129 N zk13 zv0 zv2 zv4 zh1)
  else (
  gb (gfR 12 19 zv0 zh1) fun zt5 =>
  gb (arI 0 zt5 zv4 zh1) fun zt6 =>
  gg (gIs 12 zv0 zh1) <|
  gb (f_X12_goes N zv0 zt6 zv4 zv3 zh1) fun zh7 =>
  f_X12_leaves_129 N zk13 zv0 zv2 zv4 zh7))
  else (
  gb (gfR 12 19 zv0 zh1) fun zt8 =>
  gb (arI 0 zt8 zv6 zh1) fun zt9 =>
  if (0 : Int32) ≤ zt9 then (
  gb (gfR 12 19 zv0 zh1) fun zt11 =>
  gb (arI 0 zt11 zv6 zh1) fun zt12 =>
  gg (gIs 12 zv0 zh1) <|
  gc (f_X12_givesFor N zv0 zv2 zt12 zv6 zv3 zh1) fun zt14 zh13 =>
  f_X12_leaves_70 N zk13 zk32 zv0 zv2 zv3 zv4 zv5 zv6 zt14 zh13)
  else (
  f_X12_leaves_70 N zk13 zk32 zv0 zv2 zv3 zv4 zv5 zv6 0 zh1))
def f_X12_leaves_13 (N : Nat) (zk13 : (Nat × Int32 × Int32 × PH) → Option PH) (zv0 : Nat) (zv2 : Int32) (zv3 : Int32) (zh : PH) : Option PH :=
  if (zv3 : Int32) < 0 then (
  f_X12_leaves_135 N  zh)
  else (
  if (zv2 : Int32) < 0 then (
  f_X12_leaves_135 N  zh)
  else (
  gl ((zv3 + 1)) fun (zx3 : Int32) =>
  gi (fun zk zs => f_X12_leaves_32 N zk13 zk zs.1 zs.2.1 zs.2.2.1 zs.2.2.2.1 zs.2.2.2.2.1 zs.2.2.2.2.2.1 zs.2.2.2.2.2.2) N (zv0, zv2, zv3, (-1), 0, zx3, zh)))
def f_X12_leaves (N : Nat) (za0 : Nat) (za1 : Int32) (za2 : Int32) (zh : PH) : Option PH :=
  gg (gIs 12 za0 zh) <|
  gc (f_X12_roomOf N za0 za1 zh) fun zt2 zh1 =>
  gg (gIs 12 za0 zh1) <|
  gb (f_X12_goes N za0 za1 zt2 (-1) zh1) fun zh3 =>
  gi (fun zk zs => f_X12_leaves_13 N zk zs.1 zs.2.1 zs.2.2.1 zs.2.2.2) N (za0, za2, zt2, zh3)
def f_X12_goesThrough_90 (N : Nat) (zk6 : (Nat × Int32 × Int32 × Int32 × PH) → Option PH) (zv0 : Nat) (zv1 : Int32) (zv2 : Int32) (zv3 : Int32) (zh : PH) : Option PH :=
  gl (zv3 + 1) fun (zx1 : Int32) =>
  zk6 (zv0, zv1, zv2, zx1, zh)
def f_X12_goesThrough_87 (N : Nat) (zk6 : (Nat × Int32 × Int32 × Int32 × PH) → Option PH) (zv0 : Nat) (zv1 : Int32) (zv2 : Int32) (zv3 : Int32) (zs0 : Int32) (zs1 : Int32) (zs2 : Nat) (zh : PH) : Option PH :=
  gg (gIs 12 zs2 zh) <|
  gb (f_X12_leaves N zs2 zs1 zs0 zh) fun zh1 =>
  f_X12_goesThrough_90 N zk6 zv0 zv1 zv2 zv3 zh1
def f_X12_goesThrough_41 (N : Nat) (zk6 : (Nat × Int32 × Int32 × Int32 × PH) → Option PH) (zv0 : Nat) (zv1 : Int32) (zv2 : Int32) (zv3 : Int32) (zs0 : Int32) (zs1 : Nat) (zh : PH) : Option PH :=
  gb (pfV 12 27 zs1 (.int zs0) zh) fun zh1 =>
  gg (gIs 12 zv0 zh1) <|
  gc (f_X12_eventOf N zv0 zv3 1 zh1) fun zt3 zh2 =>
  if (zt3 : Int32) = 0 then (
  gg (gIs 12 zv0 zh2) <|
  gc (f_X12_eventOf N zv0 zv3 0 zh2) fun zt11 zh10 =>
  gg (gIs 12 zv0 zh10) <|
  gb (f_X12_comes N zv0 zt11 zh10) fun zh12 =>
  f_X12_goesThrough_90 N zk6 zv0 zv1 zv2 zv3 zh12)
  else (
  gg (gIs 12 zv0 zh2) <|
  gc (f_X12_eventOf N zv0 zv3 0 zh2) fun zt6 zh5 =>
  if (zv1 : Int32) = 0 then (
  gg (gIs 12 zv0 zh5) <|
  gc (f_X12_eventOf N zv0 zv3 3 zh5) fun zt9 zh8 =>
  f_X12_goesThrough_87 N zk6 zv0 zv1 zv2 zv3 zt9 zt6 zv0 zh8)
  else (
  f_X12_goesThrough_87 N zk6 zv0 zv1 zv2 zv3 zv2 zt6 zv0 zh5))
def f_X12_goesThrough_6 (N : Nat) (zk6 : (Nat × Int32 × Int32 × Int32 × PH) → Option PH) (zv0 : Nat) (zv1 : Int32) (zv2 : Int32) (zv3 : Int32) (zh : PH) : Option PH :=
  gg (gIs 12 zv0 zh) <|
  gc (f_X12_events N zv0 zh) fun zt2 zh1 =>
  if (zt2 : Int32) ≤ zv3 then (
  some zh1)
  else (
  gb (gfI 12 27 zv0 zh1) fun zt4 =>
  gg (gIs 12 zv0 zh1) <|
  gc (f_X12_eventOf N zv0 zv3 2 zh1) fun zt6 zh5 =>
  if (zt6 : Int32) ≤ zt4 then (
  gb (gfI 12 27 zv0 zh5) fun zt8 =>
  f_X12_goesThrough_41 N zk6 zv0 zv1 zv2 zv3 zt8 zv0 zh5)
  else (
  gg (gIs 12 zv0 zh5) <|
  gc (f_X12_eventOf N zv0 zv3 2 zh5) fun zt10 zh9 =>
  f_X12_goesThrough_41 N zk6 zv0 zv1 zv2 zv3 zt10 zv0 zh9))
def f_X12_goesThrough (N : Nat) (za0 : Nat) (za1 : Int32) (za2 : Int32) (zh : PH) : Option PH :=
  gg (gIs 12 za0 zh) <|
  gb (f_X12_begins N za0 zh) fun zh1 =>
  gi (fun zk zs => f_X12_goesThrough_6 N zk zs.1 zs.2.1 zs.2.2.1 zs.2.2.2.1 zs.2.2.2.2) N (za0, za1, za2, 0, zh1)
def f_X12_find_18 (N : Nat) (zh : PH) : Option PH :=
  some zh
def f_X12_find (N : Nat) (za0 : Nat) (zh : PH) : Option PH :=
  gb (gfI 12 18 za0 zh) fun zt1 =>
  if (zt1 : Int32) = 0 then (
  f_X12_find_18 N  zh)
  else (
  gb (pfV 12 18 za0 (.int 0) zh) fun zh3 =>
  gg (gIs 12 za0 zh3) <|
  gb (f_X12_goesThrough N za0 0 (-1) zh3) fun zh4 =>
  f_X12_find_18 N  zh4)
def f_X12_roomNow (N : Nat) (za0 : Nat) (za1 : Int32) (zh : PH) : Option (Int32 × PH) :=
  gg (gIs 12 za0 zh) <|
  gb (f_X12_find N za0 zh) fun zh1 =>
  gg (gIs 12 za0 zh1) <|
  gc (f_X12_roomOf N za0 za1 zh1) fun zt3 zh2 =>
  some (zt3, zh2)
def f_X12_isTold (N : Nat) (za0 : Int32) (zh : PH) : Option (Int32 × PH) :=
  gc (f_X12_within N za0 0 99999 zh) fun zt2 zh1 =>
  gg (gzb zt2) (some (zt2, zh1))
def f_X12_isMinute (N : Nat) (za0 : Int32) (zh : PH) : Option (Int32 × PH) :=
  gc (f_X12_within N za0 0 999999 zh) fun zt2 zh1 =>
  gg (gzb zt2) (some (zt2, zh1))
def f_X12_insideMany_31 (N : Nat) (zk8 : (Nat × Int32 × Int32 × PH) → Option (Int32 × PH)) (zv0 : Nat) (zv2 : Int32) (zs0 : Int32) (zs1 : Int32) (zh : PH) : Option (Int32 × PH) :=
  gl ((zs1 + zs0)) fun (zx1 : Int32) =>
  gl (zv2 + 1) fun (zx2 : Int32) =>
  zk8 (zv0, zx1, zx2, zh)
def f_X12_insideMany_8 (N : Nat) (zk8 : (Nat × Int32 × Int32 × PH) → Option (Int32 × PH)) (zv0 : Nat) (zv1 : Int32) (zv2 : Int32) (zh : PH) : Option (Int32 × PH) :=
  gg (gIs 12 zv0 zh) <|
  gc (f_X12_rooms N zv0 zh) fun zt2 zh1 =>
  if (zt2 : Int32) ≤ zv2 then (
  some (zv1, zh1))
  else (
  gb (gfR 12 19 zv0 zh1) fun zt4 =>
  gb (arI 0 zt4 zv2 zh1) fun zt5 =>
  if (zt5 : Int32) < 0 then (
  f_X12_insideMany_31 N zk8 zv0 zv2 0 zv1 zh1)
  else (
  f_X12_insideMany_31 N zk8 zv0 zv2 1 zv1 zh1))
def f_X12_insideMany (N : Nat) (za0 : Nat) (zh : PH) : Option (Int32 × PH) :=
  gg (gIs 12 za0 zh) <|
  gb (f_X12_find N za0 zh) fun zh1 =>
  gi (fun zk zs => f_X12_insideMany_8 N zk zs.1 zs.2.1 zs.2.2.1 zs.2.2.2) N (za0, 0, 0, zh1)
def f_X12_room_54 (N : Nat) (zs0 : Int32) (zh : PH) : Option (Int32 × PH) :=
  some (zs0, zh)
def f_X12_room_22 (N : Nat) (zh : PH) : Option (Int32 × PH) :=
  some ((-1), zh)
def f_X12_room (N : Nat) (za0 : Nat) (za1 : Int32) (za2 : Int32) (zh : PH) : Option (Int32 × PH) :=
  gb (pfV 12 0 za0 (.int 0) zh) fun zh1 =>
  gg (gIs 12 za0 zh1) <|
  gc (f_X12_isRoom N za0 za1 zh1) fun zt3 zh2 =>
  if (zt3 : Int32) = 0 then (
  f_X12_room_22 N  zh2)
  else (
  gc (f_X12_within N za2 0 2 zh2) fun zt6 zh5 =>
  if (zt6 : Int32) = 0 then (
  f_X12_room_22 N  zh5)
  else (
  gg (gIs 12 za0 zh5) <|
  gb (f_X12_find N za0 zh5) fun zh8 =>
  if (2 : Int32) ≤ za2 then (
  gb (gfR 12 19 za0 zh8) fun zt10 =>
  gb (arI 0 zt10 za1 zh8) fun zt11 =>
  f_X12_room_54 N zt11 zh8)
  else (
  gb (gfR 12 10 za0 zh8) fun zt12 =>
  gb (arI 0 zt12 ((3 + (2 * za1)) + za2) zh8) fun zt13 =>
  f_X12_room_54 N zt13 zh8)))
def f_X12_guest_73 (N : Nat) (zs0 : Int32) (zh : PH) : Option (Int32 × PH) :=
  some (zs0, zh)
def f_X12_guest_22 (N : Nat) (zh : PH) : Option (Int32 × PH) :=
  some ((-1), zh)
def f_X12_guest (N : Nat) (za0 : Nat) (za1 : Int32) (za2 : Int32) (zh : PH) : Option (Int32 × PH) :=
  gb (pfV 12 0 za0 (.int 0) zh) fun zh1 =>
  gg (gIs 12 za0 zh1) <|
  gc (f_X12_isGuest N za0 za1 zh1) fun zt3 zh2 =>
  if (zt3 : Int32) = 0 then (
  f_X12_guest_22 N  zh2)
  else (
  gc (f_X12_within N za2 0 5 zh2) fun zt6 zh5 =>
  if (zt6 : Int32) = 0 then (
  f_X12_guest_22 N  zh5)
  else (
  gg (gIs 12 za0 zh5) <|
  gc (f_X12_roomNow N za0 za1 zh5) fun zt9 zh8 =>
  if (3 : Int32) ≤ za2 then (
  if (za2 : Int32) = 3 then (
  f_X12_guest_73 N zt9 zh8)
  else (
  if (za2 : Int32) = 4 then (
  gb (gfR 12 20 za0 zh8) fun zt15 =>
  gb (arI 0 zt15 za1 zh8) fun zt16 =>
  f_X12_guest_73 N zt16 zh8)
  else (
  gb (gfR 12 21 za0 zh8) fun zt13 =>
  gb (arI 0 zt13 za1 zh8) fun zt14 =>
  f_X12_guest_73 N zt14 zh8)))
  else (
  gg (gIs 12 za0 zh8) <|
  gc (f_X12_guestOf N za0 za1 za2 zh8) fun zt18 zh17 =>
  f_X12_guest_73 N zt18 zh17)))
def f_X12_use_20 (N : Nat) (zv0 : Nat) (zv1 : Int32) (zh : PH) : Option (Int32 × PH) :=
  gb (gfR 12 17 zv0 zh) fun zt1 =>
  gb (asI 0 zt1 0 zv1 zh) fun zh2 =>
  gg (gzb 1) (some (1, zh2))
def f_X12_use (N : Nat) (za0 : Nat) (za1 : Int32) (zh : PH) : Option (Int32 × PH) :=
  gb (pfV 12 0 za0 (.int 0) zh) fun zh1 =>
  if (za1 : Int32) = (-1) then (
  f_X12_use_20 N za0 za1 zh1)
  else (
  gg (gIs 12 za0 zh1) <|
  gc (f_X12_isRule N za0 za1 zh1) fun zt4 zh3 =>
  if (zt4 : Int32) = 0 then (
  gg (gzb 0) (some (0, zh3)))
  else (
  f_X12_use_20 N za0 za1 zh3))
def f_X12_gives_75 (N : Nat) (zs0 : Int32) (zh : PH) : Option (Int32 × PH) :=
  some (zs0, zh)
def f_X12_gives_52 (N : Nat) (zv0 : Nat) (zv1 : Int32) (zv2 : Int32) (zv3 : Int32) (zv4 : Int32) (zs0 : Int32) (zs1 : Nat) (zh : PH) : Option (Int32 × PH) :=
  gb (pfV 12 0 zs1 (.int zs0) zh) fun zh1 =>
  gb (gfI 12 0 zv0 zh1) fun zt2 =>
  if (zt2 : Int32) ≤ 0 then (
  gg (gIs 12 zv0 zh1) <|
  gc (f_X12_givesFor N zv0 zv1 zv2 zv4 zv3 zh1) fun zt5 zh4 =>
  f_X12_gives_75 N zt5 zh4)
  else (
  f_X12_gives_75 N 0 zh1)
def f_X12_gives_51 (N : Nat) (zv0 : Nat) (zv1 : Int32) (zv2 : Int32) (zv3 : Int32) (zv4 : Int32) (zs0 : Nat) (zh : PH) : Option (Int32 × PH) :=
  f_X12_gives_52 N zv0 zv1 zv2 zv3 zv4 1 zs0 zh
def f_X12_gives_33 (N : Nat) (zv0 : Nat) (zv1 : Int32) (zv2 : Int32) (zv3 : Int32) (zs0 : Int32) (zh : PH) : Option (Int32 × PH) :=
  if (zs0 : Int32) < 0 then (
  f_X12_gives_51 N zv0 zv1 zv2 zv3 zs0 zv0 zh)
  else (
  if (zs0 : Int32) = zv3 then (
  f_X12_gives_51 N zv0 zv1 zv2 zv3 zs0 zv0 zh)
  else (
  f_X12_gives_52 N zv0 zv1 zv2 zv3 zs0 0 zv0 zh))
def f_X12_gives_32 (N : Nat) (zv0 : Nat) (zv1 : Int32) (zv2 : Int32) (zv3 : Int32) (zh : PH) : Option (Int32 × PH) :=
  f_X12_gives_33 N zv0 zv1 zv2 zv3 (-1) zh
def f_X12_gives (N : Nat) (za0 : Nat) (za1 : Int32) (za2 : Int32) (za3 : Int32) (zh : PH) : Option (Int32 × PH) :=
  gg (gIs 12 za0 zh) <|
  gc (f_X12_isRule N za0 za1 zh) fun zt2 zh1 =>
  if (zt2 : Int32) = 0 then (
  f_X12_gives_32 N za0 za1 za2 za3 zh1)
  else (
  gg (gIs 12 za0 zh1) <|
  gc (f_X12_isGuest N za0 za2 zh1) fun zt5 zh4 =>
  if (zt5 : Int32) = 0 then (
  f_X12_gives_32 N za0 za1 za2 za3 zh4)
  else (
  gg (gIs 12 za0 zh4) <|
  gc (f_X12_isRoom N za0 za3 zh4) fun zt8 zh7 =>
  if (zt8 : Int32) = 0 then (
  f_X12_gives_32 N za0 za1 za2 za3 zh7)
  else (
  gg (gIs 12 za0 zh7) <|
  gc (f_X12_roomNow N za0 za2 zh7) fun zt11 zh10 =>
  f_X12_gives_33 N za0 za1 za2 za3 zt11 zh10)))
def f_X12_whyNot_106 (N : Nat) (zs0 : Int32) (zh : PH) : Option (Int32 × PH) :=
  some (zs0, zh)
def f_X12_whyNot_92 (N : Nat) (zv0 : Nat) (zh : PH) : Option (Int32 × PH) :=
  gg (gIs 12 zv0 zh) <|
  gc (f_X12_events N zv0 zh) fun zt2 zh1 =>
  if (zt2 : Int32) = 100 then (
  f_X12_whyNot_106 N 5 zh1)
  else (
  f_X12_whyNot_106 N 0 zh1)
def f_X12_whyNot_69 (N : Nat) (zv0 : Nat) (zv3 : Int32) (zs0 : Int32) (zh : PH) : Option (Int32 × PH) :=
  if (zs0 : Int32) = zv3 then (
  if (zv3 : Int32) = 0 then (
  gg (gIs 12 zv0 zh) <|
  gc (f_X12_firstEmpty N zv0 zh) fun zt4 zh3 =>
  gg (gIs 12 zv0 zh3) <|
  gc (f_X12_rooms N zv0 zh3) fun zt6 zh5 =>
  if (zt4 : Int32) = zt6 then (
  some (4, zh5))
  else (
  f_X12_whyNot_92 N zv0 zh5))
  else (
  f_X12_whyNot_92 N zv0 zh))
  else (
  some (3, zh))
def f_X12_whyNot_54 (N : Nat) (zh : PH) : Option (Int32 × PH) :=
  some (2, zh)
def f_X12_whyNot_39 (N : Nat) (zv0 : Nat) (zv1 : Int32) (zv2 : Int32) (zv3 : Int32) (zs0 : Int32) (zh : PH) : Option (Int32 × PH) :=
  gc (f_X12_isTold N zv2 zh) fun zt2 zh1 =>
  if (zt2 : Int32) = 0 then (
  f_X12_whyNot_54 N  zh1)
  else (
  if (zs0 : Int32) ≤ zv2 then (
  gg (gIs 12 zv0 zh1) <|
  gc (f_X12_roomNow N zv0 zv1 zh1) fun zt6 zh5 =>
  if (zt6 : Int32) < 0 then (
  f_X12_whyNot_69 N zv0 zv3 0 zh5)
  else (
  f_X12_whyNot_69 N zv0 zv3 1 zh5))
  else (
  f_X12_whyNot_54 N  zh1))
def f_X12_whyNot_15 (N : Nat) (zh : PH) : Option (Int32 × PH) :=
  some (1, zh)
def f_X12_whyNot (N : Nat) (za0 : Nat) (za1 : Int32) (za2 : Int32) (za3 : Int32) (zh : PH) : Option (Int32 × PH) :=
  gg (gIs 12 za0 zh) <|
  gc (f_X12_isGuest N za0 za1 zh) fun zt2 zh1 =>
  if (zt2 : Int32) = 0 then (
  f_X12_whyNot_15 N  zh1)
  else (
  gg (gIs 12 za0 zh1) <|
  gc (f_X12_rooms N za0 zh1) fun zt5 zh4 =>
  if (zt5 : Int32) = 0 then (
  f_X12_whyNot_15 N  zh4)
  else (
  gg (gIs 12 za0 zh4) <|
  gc (f_X12_events N za0 zh4) fun zt8 zh7 =>
  if (zt8 : Int32) = 0 then (
  f_X12_whyNot_39 N za0 za1 za2 za3 0 zh7)
  else (
  gg (gIs 12 za0 zh7) <|
  gc (f_X12_events N za0 zh7) fun zt11 zh10 =>
  gg (gIs 12 za0 zh10) <|
  gc (f_X12_eventOf N za0 (zt11 - 1) 2 zh10) fun zt13 zh12 =>
  f_X12_whyNot_39 N za0 za1 za2 za3 zt13 zh12)))
def f_X12_booked (N : Nat) (za0 : Nat) (zh : PH) : Option (Int32 × PH) :=
  gb (gfR 12 17 za0 zh) fun zt1 =>
  gb (arI 0 zt1 495 zh) fun zt2 =>
  some (zt2, zh)
def f_X12_unbooks_48 (N : Nat) (zk4 : (Nat × Int32 × Int32 × Int32 × PH) → Option PH) (zv0 : Nat) (zv1 : Int32) (zv3 : Int32) (zs0 : Int32) (zs1 : Int32) (zh : PH) : Option PH :=
  gl ((zs1 + zs0)) fun (zx1 : Int32) =>
  gl (zv3 + 1) fun (zx2 : Int32) =>
  zk4 (zv0, zv1, zx1, zx2, zh)
def f_X12_unbooks_4 (N : Nat) (zk4 : (Nat × Int32 × Int32 × Int32 × PH) → Option PH) (zv0 : Nat) (zv1 : Int32) (zv2 : Int32) (zv3 : Int32) (zh : PH) : Option PH :=
  gg (gIs 12 zv0 zh) <|
  gc (f_X12_booked N zv0 zh) fun zt2 zh1 =>
  if (zt2 : Int32) ≤ zv3 then (
  gb (gfR 12 17 zv0 zh1) fun zt4 =>
  gb (asI 0 zt4 495 zv2 zh1) fun zh5 =>
  some zh5)
  else (
  gb (gfR 12 17 zv0 zh1) fun zt6 =>
  gb (arI 0 zt6 (496 + zv3) zh1) fun zt7 =>
  gb (gfR 12 17 zv0 zh1) fun zt8 =>
  gb (asI 0 zt8 (496 + zv2) zt7 zh1) fun zh9 =>
  if (zt7 : Int32) = zv1 then (
  f_X12_unbooks_48 N zk4 zv0 zv1 zv3 0 zv2 zh9)
  else (
  f_X12_unbooks_48 N zk4 zv0 zv1 zv3 1 zv2 zh9))
def f_X12_unbooks (N : Nat) (za0 : Nat) (za1 : Int32) (zh : PH) : Option PH :=
  gi (fun zk zs => f_X12_unbooks_4 N zk zs.1 zs.2.1 zs.2.2.1 zs.2.2.2.1 zs.2.2.2.2) N (za0, za1, 0, 0, zh)
def f_X12_tells_107 (N : Nat) (zh : PH) : Option (Int32 × PH) :=
  some (0, zh)
def f_X12_tells_57 (N : Nat) (zv0 : Nat) (zv1 : Int32) (zv2 : Int32) (zv3 : Int32) (zv5 : Int32) (zs0 : Int32) (zs1 : Int32) (zs2 : Nat) (zh : PH) : Option (Int32 × PH) :=
  gb (asI 0 zs2 zs1 zs0 zh) fun zh1 =>
  gb (gfR 12 17 zv0 zh1) fun zt2 =>
  gb (asI 0 zt2 (zv5 + 2) zv2 zh1) fun zh3 =>
  gb (gfR 12 17 zv0 zh3) fun zt4 =>
  gb (gfR 12 17 zv0 zh3) fun zt5 =>
  gb (arI 0 zt5 0 zh3) fun zt6 =>
  gb (asI 0 zt4 (zv5 + 3) zt6 zh3) fun zh7 =>
  gb (gfR 12 17 zv0 zh7) fun zt8 =>
  gb (arI 0 zt8 1 zh7) fun zt9 =>
  gb (asI 0 zt8 1 (zt9 + 1) zh7) fun zh10 =>
  gb (pfV 12 18 zv0 (.int 1) zh10) fun zh11 =>
  if (zv3 : Int32) = 0 then (
  gg (gIs 12 zv0 zh11) <|
  gb (f_X12_unbooks N zv0 zv1 zh11) fun zh13 =>
  f_X12_tells_107 N  zh13)
  else (
  f_X12_tells_107 N  zh11)
def f_X12_tells (N : Nat) (za0 : Nat) (za1 : Int32) (za2 : Int32) (za3 : Int32) (zh : PH) : Option (Int32 × PH) :=
  gb (pfV 12 0 za0 (.int 0) zh) fun zh1 =>
  gg (gIs 12 za0 zh1) <|
  gc (f_X12_whyNot N za0 za1 za2 za3 zh1) fun zt3 zh2 =>
  if (zt3 : Int32) ≤ 0 then (
  gg (gIs 12 za0 zh2) <|
  gc (f_X12_events N za0 zh2) fun zt6 zh5 =>
  gl ((2 + (4 * zt6))) fun (zx7 : Int32) =>
  gb (gfR 12 17 za0 zh5) fun zt8 =>
  gb (asI 0 zt8 zx7 za1 zh5) fun zh9 =>
  gb (gfR 12 17 za0 zh9) fun zt10 =>
  if (za3 : Int32) = 0 then (
  f_X12_tells_57 N za0 za1 za2 za3 zx7 0 (zx7 + 1) zt10 zh9)
  else (
  f_X12_tells_57 N za0 za1 za2 za3 zx7 1 (zx7 + 1) zt10 zh9))
  else (
  some (zt3, zh2))
def f_X12_come (N : Nat) (za0 : Nat) (za1 : Int32) (za2 : Int32) (zh : PH) : Option (Int32 × PH) :=
  gg (gIs 12 za0 zh) <|
  gc (f_X12_tells N za0 za1 za2 0 zh) fun zt2 zh1 =>
  some (zt2, zh1)
def f_X12_leave (N : Nat) (za0 : Nat) (za1 : Int32) (za2 : Int32) (zh : PH) : Option (Int32 × PH) :=
  gg (gIs 12 za0 zh) <|
  gc (f_X12_tells N za0 za1 za2 1 zh) fun zt2 zh1 =>
  some (zt2, zh1)
def f_X12_over (N : Nat) (za0 : Nat) (zh : PH) : Option (Int32 × PH) :=
  gb (pfV 12 0 za0 (.int 0) zh) fun zh1 =>
  gg (gIs 12 za0 zh1) <|
  gb (f_X12_find N za0 zh1) fun zh2 =>
  gb (gfI 12 27 za0 zh2) fun zt3 =>
  some (zt3, zh2)
def f_X12_sum (N : Nat) (za0 : Nat) (za1 : Int32) (zh : PH) : Option (Int32 × PH) :=
  gb (pfV 12 0 za0 (.int 0) zh) fun zh1 =>
  gg (gIs 12 za0 zh1) <|
  gb (f_X12_find N za0 zh1) fun zh2 =>
  if (za1 : Int32) = 0 then (
  gb (gfI 12 23 za0 zh2) fun zt4 =>
  some (zt4, zh2))
  else (
  if (za1 : Int32) = 1 then (
  gb (gfI 12 24 za0 zh2) fun zt6 =>
  some (zt6, zh2))
  else (
  if (za1 : Int32) = 2 then (
  gb (gfI 12 25 za0 zh2) fun zt8 =>
  some (zt8, zh2))
  else (
  if (za1 : Int32) = 3 then (
  gb (gfI 12 26 za0 zh2) fun zt10 =>
  some (zt10, zh2))
  else (
  some ((-1), zh2)))))
def f_X12_placeAt_72 (N : Nat) (zk5 : (Nat × Int32 × Int32 × Int32 × Int32 × PH) → Option (Int32 × PH)) (zv0 : Nat) (zv1 : Int32) (zv2 : Int32) (zv3 : Int32) (zv4 : Int32) (zh : PH) : Option (Int32 × PH) :=
  gl (zv4 + 1) fun (zx1 : Int32) =>
  zk5 (zv0, zv1, zv2, zv3, zx1, zh)
def f_X12_placeAt_71 (N : Nat) (zk5 : (Nat × Int32 × Int32 × Int32 × Int32 × PH) → Option (Int32 × PH)) (zv0 : Nat) (zv1 : Int32) (zv2 : Int32) (zv4 : Int32) (zs0 : Int32) (zh : PH) : Option (Int32 × PH) :=
  f_X12_placeAt_72 N zk5 zv0 zv1 zv2 zs0 zv4 zh
def f_X12_placeAt_5 (N : Nat) (zk5 : (Nat × Int32 × Int32 × Int32 × Int32 × PH) → Option (Int32 × PH)) (zv0 : Nat) (zv1 : Int32) (zv2 : Int32) (zv3 : Int32) (zv4 : Int32) (zh : PH) : Option (Int32 × PH) :=
  gb (gfI 12 28 zv0 zh) fun zt1 =>
  if (zt1 : Int32) ≤ zv4 then (
  some (zv3, zh))
  else (
  gl ((5 * zv4)) fun (zx3 : Int32) =>
  gb (gfR 12 29 zv0 zh) fun zt4 =>
  gb (arI 0 zt4 zx3 zh) fun zt5 =>
  if (zt5 : Int32) = zv1 then (
  gb (gfR 12 29 zv0 zh) fun zt7 =>
  gb (arI 0 zt7 (zx3 + 3) zh) fun zt8 =>
  if (zv2 : Int32) < zt8 then (
  f_X12_placeAt_72 N zk5 zv0 zv1 zv2 zv3 zv4 zh)
  else (
  gb (gfR 12 29 zv0 zh) fun zt10 =>
  gb (arI 0 zt10 (zx3 + 4) zh) fun zt11 =>
  if (zt11 : Int32) ≤ zv2 then (
  gb (gfR 12 29 zv0 zh) fun zt13 =>
  gb (arI 0 zt13 (zx3 + 2) zh) fun zt14 =>
  f_X12_placeAt_71 N zk5 zv0 zv1 zv2 zv4 zt14 zh)
  else (
  f_X12_placeAt_71 N zk5 zv0 zv1 zv2 zv4 (-2) zh)))
  else (
  f_X12_placeAt_72 N zk5 zv0 zv1 zv2 zv3 zv4 zh))
def f_X12_placeAt (N : Nat) (za0 : Nat) (za1 : Int32) (za2 : Int32) (zh : PH) : Option (Int32 × PH) :=
  gi (fun zk zs => f_X12_placeAt_5 N zk zs.1 zs.2.1 zs.2.2.1 zs.2.2.2.1 zs.2.2.2.2.1 zs.2.2.2.2.2) N (za0, za1, za2, (-1), 0, zh)
def f_X12_where_20 (N : Nat) (zh : PH) : Option (Int32 × PH) :=
  some ((-3), zh)
def f_X12_where (N : Nat) (za0 : Nat) (za1 : Int32) (za2 : Int32) (zh : PH) : Option (Int32 × PH) :=
  gb (pfV 12 0 za0 (.int 0) zh) fun zh1 =>
  gg (gIs 12 za0 zh1) <|
  gc (f_X12_isGuest N za0 za1 zh1) fun zt3 zh2 =>
  if (zt3 : Int32) = 0 then (
  f_X12_where_20 N  zh2)
  else (
  gc (f_X12_isMinute N za2 zh2) fun zt6 zh5 =>
  if (zt6 : Int32) = 0 then (
  f_X12_where_20 N  zh5)
  else (
  gg (gIs 12 za0 zh5) <|
  gb (f_X12_find N za0 zh5) fun zh8 =>
  gg (gIs 12 za0 zh8) <|
  gc (f_X12_placeAt N za0 za1 za2 zh8) fun zt10 zh9 =>
  some (zt10, zh9)))
def f_X12_whoAt_2 (N : Nat) (zk2 : (Nat × Int32 × Int32 × Int32 × PH) → Option (Int32 × PH)) (zv0 : Nat) (zv1 : Int32) (zv2 : Int32) (zv3 : Int32) (zh : PH) : Option (Int32 × PH) :=
  gg (gIs 12 zv0 zh) <|
  gc (f_X12_guests N zv0 zh) fun zt2 zh1 =>
  if (zt2 : Int32) ≤ zv3 then (
  some ((-1), zh1))
  else (
  gg (gIs 12 zv0 zh1) <|
  gc (f_X12_placeAt N zv0 zv3 zv2 zh1) fun zt5 zh4 =>
  if (zt5 : Int32) = zv1 then (
  some (zv3, zh4))
  else (
  gl (zv3 + 1) fun (zx7 : Int32) =>
  zk2 (zv0, zv1, zv2, zx7, zh4)))
def f_X12_whoAt (N : Nat) (za0 : Nat) (za1 : Int32) (za2 : Int32) (zh : PH) : Option (Int32 × PH) :=
  gi (fun zk zs => f_X12_whoAt_2 N zk zs.1 zs.2.1 zs.2.2.1 zs.2.2.2.1 zs.2.2.2.2) N (za0, za1, za2, 0, zh)
def f_X12_who_20 (N : Nat) (zh : PH) : Option (Int32 × PH) :=
  some ((-1), zh)
def f_X12_who (N : Nat) (za0 : Nat) (za1 : Int32) (za2 : Int32) (zh : PH) : Option (Int32 × PH) :=
  gb (pfV 12 0 za0 (.int 0) zh) fun zh1 =>
  gg (gIs 12 za0 zh1) <|
  gc (f_X12_isRoom N za0 za1 zh1) fun zt3 zh2 =>
  if (zt3 : Int32) = 0 then (
  f_X12_who_20 N  zh2)
  else (
  gc (f_X12_isMinute N za2 zh2) fun zt6 zh5 =>
  if (zt6 : Int32) = 0 then (
  f_X12_who_20 N  zh5)
  else (
  gg (gIs 12 za0 zh5) <|
  gb (f_X12_find N za0 zh5) fun zh8 =>
  gg (gIs 12 za0 zh8) <|
  gc (f_X12_whoAt N za0 za1 za2 zh8) fun zt10 zh9 =>
  some (zt10, zh9)))
def f_X12_letter_62 (N : Nat) (zs0 : Int32) (zh : PH) : Option (Int32 × PH) :=
  some (zs0, zh)
def f_X12_letter_32 (N : Nat) (zh : PH) : Option (Int32 × PH) :=
  some ((-1), zh)
def f_X12_letter (N : Nat) (za0 : Nat) (za1 : Int32) (za2 : Int32) (za3 : Int32) (zh : PH) : Option (Int32 × PH) :=
  gb (pfV 12 0 za0 (.int 0) zh) fun zh1 =>
  gg (gIs 12 za0 zh1) <|
  gc (f_X12_isGuest N za0 za1 zh1) fun zt3 zh2 =>
  if (zt3 : Int32) = 0 then (
  f_X12_letter_32 N  zh2)
  else (
  gc (f_X12_isMinute N za2 zh2) fun zt6 zh5 =>
  if (zt6 : Int32) = 0 then (
  f_X12_letter_32 N  zh5)
  else (
  gc (f_X12_isMinute N za3 zh5) fun zt9 zh8 =>
  if (zt9 : Int32) = 0 then (
  f_X12_letter_32 N  zh8)
  else (
  if (za2 : Int32) ≤ za3 then (
  gg (gIs 12 za0 zh8) <|
  gb (f_X12_find N za0 zh8) fun zh12 =>
  gg (gIs 12 za0 zh12) <|
  gc (f_X12_placeAt N za0 za1 za2 zh12) fun zt14 zh13 =>
  if (0 : Int32) ≤ zt14 then (
  gg (gIs 12 za0 zh13) <|
  gc (f_X12_whoAt N za0 zt14 za3 zh13) fun zt17 zh16 =>
  f_X12_letter_62 N zt17 zh16)
  else (
  f_X12_letter_62 N (-1) zh13))
  else (
  f_X12_letter_32 N  zh8))))
def f_X12_stays_4 (N : Nat) (zk4 : (Nat × Int32 × Int32 × PH) → Option (Int32 × PH)) (zv0 : Nat) (zv1 : Int32) (zv2 : Int32) (zh : PH) : Option (Int32 × PH) :=
  gb (gfI 12 28 zv0 zh) fun zt1 =>
  if (zt1 : Int32) ≤ zv2 then (
  some (100000000, zh))
  else (
  gb (gfR 12 29 zv0 zh) fun zt3 =>
  gb (arI 0 zt3 (5 * zv2) zh) fun zt4 =>
  gb (gfR 12 29 zv0 zh) fun zt5 =>
  gb (arI 0 zt5 (5 * zv1) zh) fun zt6 =>
  if (zt4 : Int32) = zt6 then (
  gb (gfR 12 29 zv0 zh) fun zt9 =>
  gb (arI 0 zt9 ((5 * zv2) + 3) zh) fun zt10 =>
  some (zt10, zh))
  else (
  gl (zv2 + 1) fun (zx8 : Int32) =>
  zk4 (zv0, zv1, zx8, zh)))
def f_X12_stays (N : Nat) (za0 : Nat) (za1 : Int32) (zh : PH) : Option (Int32 × PH) :=
  gl ((za1 + 1)) fun (zx1 : Int32) =>
  gi (fun zk zs => f_X12_stays_4 N zk zs.1 zs.2.1 zs.2.2.1 zs.2.2.2) N (za0, za1, zx1, zh)
def f_X12_trunk_153 (N : Nat) (zk44 : (Nat × Int32 × Int32 × Int32 × Int32 × Int32 × PH) → Option (Int32 × PH)) (zv0 : Nat) (zv1 : Int32) (zv2 : Int32) (zv3 : Int32) (zv4 : Int32) (zv5 : Int32) (zh : PH) : Option (Int32 × PH) :=
  gl (zv5 + 1) fun (zx1 : Int32) =>
  zk44 (zv0, zv1, zv2, zv3, zv4, zx1, zh)
def f_X12_trunk_150 (N : Nat) (zk44 : (Nat × Int32 × Int32 × Int32 × Int32 × Int32 × PH) → Option (Int32 × PH)) (zv0 : Nat) (zv1 : Int32) (zv2 : Int32) (zv3 : Int32) (zv5 : Int32) (zs0 : Int32) (zs1 : Int32) (zh : PH) : Option (Int32 × PH) :=
  gl ((zs1 ||| zs0)) fun (zx1 : Int32) =>
  f_X12_trunk_153 N zk44 zv0 zv1 zv2 zv3 zx1 zv5 zh
def f_X12_trunk_124 (N : Nat) (zk44 : (Nat × Int32 × Int32 × Int32 × Int32 × Int32 × PH) → Option (Int32 × PH)) (zv0 : Nat) (zv1 : Int32) (zv2 : Int32) (zv3 : Int32) (zv4 : Int32) (zv5 : Int32) (zv6 : Int32) (zs0 : Int32) (zh : PH) : Option (Int32 × PH) :=
  if (zs0 : Int32) < zv6 then (
  f_X12_trunk_150 N zk44 zv0 zv1 zv2 zv3 zv5 0 zv4 zh)
  else (
  gb (gfR 12 29 zv0 zh) fun zt2 =>
  gb (arI 0 zt2 (5 * zv5) zh) fun zt3 =>
  f_X12_trunk_150 N zk44 zv0 zv1 zv2 zv3 zv5 (1 <<< (zt3 &&& 31)) zv4 zh)
def f_X12_trunk_98 (N : Nat) (zk44 : (Nat × Int32 × Int32 × Int32 × Int32 × Int32 × PH) → Option (Int32 × PH)) (zv0 : Nat) (zv1 : Int32) (zv2 : Int32) (zv3 : Int32) (zv4 : Int32) (zv5 : Int32) (zs0 : Int32) (zh : PH) : Option (Int32 × PH) :=
  gg (gIs 12 zv0 zh) <|
  gc (f_X12_stays N zv0 zv5 zh) fun zt2 zh1 =>
  if (zv3 : Int32) ≤ (zt2 - 1) then (
  f_X12_trunk_124 N zk44 zv0 zv1 zv2 zv3 zv4 zv5 zs0 zv3 zh1)
  else (
  gg (gIs 12 zv0 zh1) <|
  gc (f_X12_stays N zv0 zv5 zh1) fun zt5 zh4 =>
  f_X12_trunk_124 N zk44 zv0 zv1 zv2 zv3 zv4 zv5 zs0 (zt5 - 1) zh4)
def f_X12_trunk_44 (N : Nat) (zk44 : (Nat × Int32 × Int32 × Int32 × Int32 × Int32 × PH) → Option (Int32 × PH)) (zv0 : Nat) (zv1 : Int32) (zv2 : Int32) (zv3 : Int32) (zv4 : Int32) (zv5 : Int32) (zh : PH) : Option (Int32 × PH) :=
  gb (gfI 12 28 zv0 zh) fun zt1 =>
  if (zt1 : Int32) ≤ zv5 then (
  some (zv4, zh))
  else (
  gb (gfR 12 29 zv0 zh) fun zt3 =>
  gb (arI 0 zt3 ((5 * zv5) + 2) zh) fun zt4 =>
  if (zt4 : Int32) = zv1 then (
  gb (gfR 12 29 zv0 zh) fun zt6 =>
  gb (arI 0 zt6 ((5 * zv5) + 4) zh) fun zt7 =>
  if (zv2 : Int32) ≤ zt7 then (
  gb (gfR 12 29 zv0 zh) fun zt9 =>
  gb (arI 0 zt9 ((5 * zv5) + 4) zh) fun zt10 =>
  f_X12_trunk_98 N zk44 zv0 zv1 zv2 zv3 zv4 zv5 zt10 zh)
  else (
  f_X12_trunk_98 N zk44 zv0 zv1 zv2 zv3 zv4 zv5 zv2 zh))
  else (
  f_X12_trunk_153 N zk44 zv0 zv1 zv2 zv3 zv4 zv5 zh))
def f_X12_trunk_32 (N : Nat) (zh : PH) : Option (Int32 × PH) :=
  some ((-1), zh)
def f_X12_trunk (N : Nat) (za0 : Nat) (za1 : Int32) (za2 : Int32) (za3 : Int32) (zh : PH) : Option (Int32 × PH) :=
  gb (pfV 12 0 za0 (.int 0) zh) fun zh1 =>
  gg (gIs 12 za0 zh1) <|
  gc (f_X12_isRoom N za0 za1 zh1) fun zt3 zh2 =>
  if (zt3 : Int32) = 0 then (
  f_X12_trunk_32 N  zh2)
  else (
  gc (f_X12_isMinute N za2 zh2) fun zt6 zh5 =>
  if (zt6 : Int32) = 0 then (
  f_X12_trunk_32 N  zh5)
  else (
  gc (f_X12_isMinute N za3 zh5) fun zt9 zh8 =>
  if (zt9 : Int32) = 0 then (
  f_X12_trunk_32 N  zh8)
  else (
  if (za2 : Int32) ≤ za3 then (
  gg (gIs 12 za0 zh8) <|
  gb (f_X12_find N za0 zh8) fun zh12 =>
  gi (fun zk zs => f_X12_trunk_44 N zk zs.1 zs.2.1 zs.2.2.1 zs.2.2.2.1 zs.2.2.2.2.1 zs.2.2.2.2.2.1 zs.2.2.2.2.2.2) N (za0, za1, za2, za3, 0, 0, zh12))
  else (
  f_X12_trunk_32 N  zh8))))
def f_X12_sights (N : Nat) (za0 : Nat) (zh : PH) : Option (Int32 × PH) :=
  gb (gfR 12 17 za0 zh) fun zt1 =>
  gb (arI 0 zt1 402 zh) fun zt2 =>
  some (zt2, zh)
def f_X12_sightOf (N : Nat) (za0 : Nat) (za1 : Int32) (za2 : Int32) (zh : PH) : Option (Int32 × PH) :=
  gb (gfR 12 17 za0 zh) fun zt1 =>
  gb (arI 0 zt1 ((403 + (3 * za1)) + za2) zh) fun zt2 =>
  some (zt2, zh)
def f_X12_walk_14 (N : Nat) (zv0 : Nat) (zv1 : Int32) (zv2 : Int32) (zs0 : Int32) (zh : PH) : Option (Int32 × PH) :=
  gg (gIs 12 zv0 zh) <|
  gc (f_X12_floors N zv0 zv1 zv2 zh) fun zt2 zh1 =>
  some ((zs0 + (2 * zt2)), zh1)
def f_X12_walk (N : Nat) (za0 : Nat) (za1 : Int32) (za2 : Int32) (zh : PH) : Option (Int32 × PH) :=
  if (za2 : Int32) ≤ za1 then (
  f_X12_walk_14 N za0 za1 za2 (za1 - za2) zh)
  else (
  f_X12_walk_14 N za0 za1 za2 (za2 - za1) zh)
def f_X12_apart_14 (N : Nat) (zs0 : Int32) (zh : PH) : Option (Int32 × PH) :=
  some (zs0, zh)
def f_X12_apart (N : Nat) (za0 : Int32) (za1 : Int32) (zh : PH) : Option (Int32 × PH) :=
  if (za1 : Int32) ≤ za0 then (
  f_X12_apart_14 N (za0 - za1) zh)
  else (
  f_X12_apart_14 N (za1 - za0) zh)
def f_X12_sight_37 (N : Nat) (zh : PH) : Option (Int32 × PH) :=
  some ((-1), zh)
def f_X12_sight (N : Nat) (za0 : Nat) (za1 : Int32) (za2 : Int32) (za3 : Int32) (zh : PH) : Option (Int32 × PH) :=
  gb (pfV 12 0 za0 (.int 0) zh) fun zh1 =>
  gg (gIs 12 za0 zh1) <|
  gc (f_X12_isGuest N za0 za1 zh1) fun zt3 zh2 =>
  if (zt3 : Int32) = 0 then (
  f_X12_sight_37 N  zh2)
  else (
  gg (gIs 12 za0 zh2) <|
  gc (f_X12_isRoom N za0 za2 zh2) fun zt6 zh5 =>
  if (zt6 : Int32) = 0 then (
  f_X12_sight_37 N  zh5)
  else (
  gc (f_X12_isTold N za3 zh5) fun zt9 zh8 =>
  if (zt9 : Int32) = 0 then (
  f_X12_sight_37 N  zh8)
  else (
  gg (gIs 12 za0 zh8) <|
  gc (f_X12_sights N za0 zh8) fun zt12 zh11 =>
  if (zt12 : Int32) = 20 then (
  f_X12_sight_37 N  zh11)
  else (
  gg (gIs 12 za0 zh11) <|
  gc (f_X12_sights N za0 zh11) fun zt15 zh14 =>
  gl ((403 + (3 * zt15))) fun (zx16 : Int32) =>
  gb (gfR 12 17 za0 zh14) fun zt17 =>
  gb (asI 0 zt17 zx16 za1 zh14) fun zh18 =>
  gb (gfR 12 17 za0 zh18) fun zt19 =>
  gb (asI 0 zt19 (zx16 + 1) za2 zh18) fun zh20 =>
  gb (gfR 12 17 za0 zh20) fun zt21 =>
  gb (asI 0 zt21 (zx16 + 2) za3 zh20) fun zh22 =>
  gb (gfR 12 17 za0 zh22) fun zt23 =>
  gb (arI 0 zt23 402 zh22) fun zt24 =>
  gb (asI 0 zt23 402 (zt24 + 1) zh22) fun zh25 =>
  gg (gIs 12 za0 zh25) <|
  gc (f_X12_sights N za0 zh25) fun zt27 zh26 =>
  some (zt27, zh26)))))
def f_X12_could_97 (N : Nat) (zk34 : (Nat × Int32 × Int32 × Int32 × Int32 × PH) → Option (Int32 × PH)) (zv0 : Nat) (zv1 : Int32) (zv2 : Int32) (zv4 : Int32) (zs0 : Int32) (zs1 : Int32) (zh : PH) : Option (Int32 × PH) :=
  gl ((zs1 &&& zs0)) fun (zx1 : Int32) =>
  gl (zv4 + 1) fun (zx2 : Int32) =>
  zk34 (zv0, zv1, zv2, zx1, zx2, zh)
def f_X12_could_74 (N : Nat) (zk34 : (Nat × Int32 × Int32 × Int32 × Int32 × PH) → Option (Int32 × PH)) (zv0 : Nat) (zv1 : Int32) (zv2 : Int32) (zv3 : Int32) (zv4 : Int32) (zs0 : Int32) (zh : PH) : Option (Int32 × PH) :=
  if (zs0 : Int32) = 0 then (
  gg (gIs 12 zv0 zh) <|
  gc (f_X12_sightOf N zv0 zv4 0 zh) fun zt3 zh2 =>
  f_X12_could_97 N zk34 zv0 zv1 zv2 zv4 ((1 <<< (zt3 &&& 31)) ^^^ (-1)) zv3 zh2)
  else (
  f_X12_could_97 N zk34 zv0 zv1 zv2 zv4 (-1) zv3 zh)
def f_X12_could_34 (N : Nat) (zk34 : (Nat × Int32 × Int32 × Int32 × Int32 × PH) → Option (Int32 × PH)) (zv0 : Nat) (zv1 : Int32) (zv2 : Int32) (zv3 : Int32) (zv4 : Int32) (zh : PH) : Option (Int32 × PH) :=
  gg (gIs 12 zv0 zh) <|
  gc (f_X12_sights N zv0 zh) fun zt2 zh1 =>
  if (zt2 : Int32) ≤ zv4 then (
  some (zv3, zh1))
  else (
  gg (gIs 12 zv0 zh1) <|
  gc (f_X12_sightOf N zv0 zv4 1 zh1) fun zt5 zh4 =>
  gg (gIs 12 zv0 zh4) <|
  gc (f_X12_walk N zv0 zt5 zv1 zh4) fun zt7 zh6 =>
  gg (gIs 12 zv0 zh6) <|
  gc (f_X12_sightOf N zv0 zv4 2 zh6) fun zt9 zh8 =>
  gc (f_X12_apart N zt9 zv2 zh8) fun zt11 zh10 =>
  if (zt11 : Int32) < zt7 then (
  f_X12_could_74 N zk34 zv0 zv1 zv2 zv3 zv4 0 zh10)
  else (
  f_X12_could_74 N zk34 zv0 zv1 zv2 zv3 zv4 1 zh10))
def f_X12_could_20 (N : Nat) (zh : PH) : Option (Int32 × PH) :=
  some ((-1), zh)
def f_X12_could (N : Nat) (za0 : Nat) (za1 : Int32) (za2 : Int32) (zh : PH) : Option (Int32 × PH) :=
  gb (pfV 12 0 za0 (.int 0) zh) fun zh1 =>
  gg (gIs 12 za0 zh1) <|
  gc (f_X12_isRoom N za0 za1 zh1) fun zt3 zh2 =>
  if (zt3 : Int32) = 0 then (
  f_X12_could_20 N  zh2)
  else (
  gc (f_X12_isTold N za2 zh2) fun zt6 zh5 =>
  if (zt6 : Int32) = 0 then (
  f_X12_could_20 N  zh5)
  else (
  gg (gIs 12 za0 zh5) <|
  gc (f_X12_guests N za0 zh5) fun zt9 zh8 =>
  gl (((1 <<< (zt9 &&& 31)) - 1)) fun (zx10 : Int32) =>
  gi (fun zk zs => f_X12_could_34 N zk zs.1 zs.2.1 zs.2.2.1 zs.2.2.2.1 zs.2.2.2.2.1 zs.2.2.2.2.2) N (za0, za1, za2, zx10, 0, zh8)))
def f_X12_areUnlike_54 (N : Nat) (zs0 : Int32) (zh : PH) : Option (Int32 × PH) :=
  gg (gzb zs0) (some (zs0, zh))
def f_X12_areUnlike_53 (N : Nat) (zh : PH) : Option (Int32 × PH) :=
  f_X12_areUnlike_54 N 0 zh
def f_X12_areUnlike (N : Nat) (za0 : Nat) (za1 : Int32) (za2 : Int32) (zh : PH) : Option (Int32 × PH) :=
  gg (gIs 12 za0 zh) <|
  gc (f_X12_sightOf N za0 za1 0 zh) fun zt2 zh1 =>
  gg (gIs 12 za0 zh1) <|
  gc (f_X12_sightOf N za0 za2 0 zh1) fun zt4 zh3 =>
  if (zt2 : Int32) = zt4 then (
  gg (gIs 12 za0 zh3) <|
  gc (f_X12_sightOf N za0 za1 1 zh3) fun zt7 zh6 =>
  gg (gIs 12 za0 zh6) <|
  gc (f_X12_sightOf N za0 za2 1 zh6) fun zt9 zh8 =>
  gg (gIs 12 za0 zh8) <|
  gc (f_X12_walk N za0 zt7 zt9 zh8) fun zt11 zh10 =>
  gg (gIs 12 za0 zh10) <|
  gc (f_X12_sightOf N za0 za1 2 zh10) fun zt13 zh12 =>
  gg (gIs 12 za0 zh12) <|
  gc (f_X12_sightOf N za0 za2 2 zh12) fun zt15 zh14 =>
  gc (f_X12_apart N zt13 zt15 zh14) fun zt17 zh16 =>
  if (zt11 : Int32) ≤ zt17 then (
  f_X12_areUnlike_53 N  zh16)
  else (
  f_X12_areUnlike_54 N 1 zh16))
  else (
  f_X12_areUnlike_53 N  zh3)
def f_X12_triesLiars_90 (N : Nat) (zF_X12_triesLiars : Nat → Int32 → Int32 → Int32 → PH → Option PH) (zv0 : Nat) (zv1 : Int32) (zv2 : Int32) (zv3 : Int32) (zh : PH) : Option PH :=
  gg (gIs 12 zv0 zh) <|
  gb (zF_X12_triesLiars zv0 (zv1 + 1) zv2 (zv3 + 1) zh) fun zh1 =>
  some zh1
def f_X12_triesLiars_64 (N : Nat) (zF_X12_triesLiars : Nat → Int32 → Int32 → Int32 → PH → Option PH) (zk29 : (Nat × Int32 × Int32 × Int32 × Int32 × Int32 × PH) → Option PH) (zv0 : Nat) (zv1 : Int32) (zv2 : Int32) (zv3 : Int32) (zv5 : Int32) (zs0 : Int32) (zh : PH) : Option PH :=
  gl (zv5 + 1) fun (zx1 : Int32) =>
  zk29 (zv0, zv1, zv2, zv3, zs0, zx1, zh)
def f_X12_triesLiars_63 (N : Nat) (zF_X12_triesLiars : Nat → Int32 → Int32 → Int32 → PH → Option PH) (zk29 : (Nat × Int32 × Int32 × Int32 × Int32 × Int32 × PH) → Option PH) (zv0 : Nat) (zv1 : Int32) (zv2 : Int32) (zv3 : Int32) (zv5 : Int32) (zh : PH) : Option PH :=
  f_X12_triesLiars_64 N zF_X12_triesLiars zk29 zv0 zv1 zv2 zv3 zv5 0 zh
def f_X12_triesLiars_59 (N : Nat) (zF_X12_triesLiars : Nat → Int32 → Int32 → Int32 → PH → Option PH) (zk29 : (Nat × Int32 × Int32 × Int32 × Int32 × Int32 × PH) → Option PH) (zv0 : Nat) (zv1 : Int32) (zv2 : Int32) (zv3 : Int32) (zv5 : Int32) (zh : PH) : Option PH :=
  f_X12_triesLiars_64 N zF_X12_triesLiars zk29 zv0 zv1 zv2 zv3 zv5 1 zh
def f_X12_triesLiars_29 (N : Nat) (zF_X12_triesLiars : Nat → Int32 → Int32 → Int32 → PH → Option PH) (zk29 : (Nat × Int32 × Int32 × Int32 × Int32 × Int32 × PH) → Option PH) (zv0 : Nat) (zv1 : Int32) (zv2 : Int32) (zv3 : Int32) (zv4 : Int32) (zv5 : Int32) (zh : PH) : Option PH :=
  if (zv1 : Int32) ≤ zv5 then (
  if (zv4 : Int32) = 0 then (
  f_X12_triesLiars_90 N zF_X12_triesLiars zv0 zv1 zv2 zv3 zh)
  else (
  gg (gIs 12 zv0 zh) <|
  gb (zF_X12_triesLiars zv0 (zv1 + 1) (zv2 ||| (1 <<< (zv1 &&& 31))) zv3 zh) fun zh3 =>
  f_X12_triesLiars_90 N zF_X12_triesLiars zv0 zv1 zv2 zv3 zh3))
  else (
  if (zv4 : Int32) = 0 then (
  f_X12_triesLiars_63 N zF_X12_triesLiars zk29 zv0 zv1 zv2 zv3 zv5 zh)
  else (
  if (((zv2 >>> (zv5 &&& 31)) &&& 1) : Int32) = 0 then (
  f_X12_triesLiars_59 N zF_X12_triesLiars zk29 zv0 zv1 zv2 zv3 zv5 zh)
  else (
  gg (gIs 12 zv0 zh) <|
  gc (f_X12_areUnlike N zv0 zv5 zv1 zh) fun zt7 zh6 =>
  if (zt7 : Int32) = 0 then (
  f_X12_triesLiars_59 N zF_X12_triesLiars zk29 zv0 zv1 zv2 zv3 zv5 zh6)
  else (
  f_X12_triesLiars_63 N zF_X12_triesLiars zk29 zv0 zv1 zv2 zv3 zv5 zh6))))
def b_X12_triesLiars (N : Nat) (zF_X12_triesLiars : Nat → Int32 → Int32 → Int32 → PH → Option PH) (za0 : Nat) (za1 : Int32) (za2 : Int32) (za3 : Int32) (zh : PH) : Option PH :=
  gb (gfI 12 30 za0 zh) fun zt1 =>
  if (za3 : Int32) < zt1 then (
  gg (gIs 12 za0 zh) <|
  gc (f_X12_sights N za0 zh) fun zt4 zh3 =>
  if (za1 : Int32) = zt4 then (
  gb (pfV 12 30 za0 (.int za3) zh3) fun zh6 =>
  some zh6)
  else (
  gi (fun zk zs => f_X12_triesLiars_29 N zF_X12_triesLiars zk zs.1 zs.2.1 zs.2.2.1 zs.2.2.2.1 zs.2.2.2.2.1 zs.2.2.2.2.2.1 zs.2.2.2.2.2.2) N (za0, za1, za2, za3, 1, 0, zh3)))
  else (
  some zh)
def g_gL (N : Nat) : Nat → (Nat → Int32 → Int32 → Int32 → PH → Option PH)
  | 0 => fun _ _ _ _ _ => none
  | zd + 1 => b_X12_triesLiars N (g_gL N zd)
def f_X12_triesLiars (N : Nat) (za0 : Nat) (za1 : Int32) (za2 : Int32) (za3 : Int32) (zh : PH) : Option PH := (g_gL N 32) za0 za1 za2 za3 zh
def f_X12_liars (N : Nat) (za0 : Nat) (zh : PH) : Option (Int32 × PH) :=
  gb (pfV 12 0 za0 (.int 0) zh) fun zh1 =>
  gb (pfV 12 30 za0 (.int 100000000) zh1) fun zh2 =>
  gg (gIs 12 za0 zh2) <|
  gb (f_X12_triesLiars N za0 0 0 0 zh2) fun zh3 =>
  gb (gfI 12 30 za0 zh3) fun zt4 =>
  some (zt4, zh3)
def f_X12_pageOf (N : Nat) (za0 : Nat) (za1 : Int32) (zh : PH) : Option (Int32 × PH) :=
  gb (gfR 12 17 za0 zh) fun zt1 =>
  gb (arI 0 zt1 (463 + za1) zh) fun zt2 =>
  some (zt2, zh)
def f_X12_pages_26 (N : Nat) (zk4 : (Nat × Int32 × Int32 × PH) → Option (Int32 × PH)) (zv0 : Nat) (zv2 : Int32) (zs0 : Int32) (zs1 : Int32) (zh : PH) : Option (Int32 × PH) :=
  gl ((zs1 + zs0)) fun (zx1 : Int32) =>
  gl (zv2 + 1) fun (zx2 : Int32) =>
  zk4 (zv0, zx1, zx2, zh)
def f_X12_pages_4 (N : Nat) (zk4 : (Nat × Int32 × Int32 × PH) → Option (Int32 × PH)) (zv0 : Nat) (zv1 : Int32) (zv2 : Int32) (zh : PH) : Option (Int32 × PH) :=
  gg (gIs 12 zv0 zh) <|
  gc (f_X12_guests N zv0 zh) fun zt2 zh1 =>
  if (zt2 : Int32) ≤ zv2 then (
  some (zv1, zh1))
  else (
  gg (gIs 12 zv0 zh1) <|
  gc (f_X12_pageOf N zv0 zv2 zh1) fun zt5 zh4 =>
  if (zt5 : Int32) ≤ 0 then (
  f_X12_pages_26 N zk4 zv0 zv2 0 zv1 zh4)
  else (
  f_X12_pages_26 N zk4 zv0 zv2 1 zv1 zh4))
def f_X12_pages (N : Nat) (za0 : Nat) (zh : PH) : Option (Int32 × PH) :=
  gi (fun zk zs => f_X12_pages_4 N zk zs.1 zs.2.1 zs.2.2.1 zs.2.2.2) N (za0, 0, 0, zh)
def f_X12_page_27 (N : Nat) (zh : PH) : Option (Int32 × PH) :=
  some ((-1), zh)
def f_X12_page (N : Nat) (za0 : Nat) (za1 : Int32) (za2 : Int32) (zh : PH) : Option (Int32 × PH) :=
  gb (pfV 12 0 za0 (.int 0) zh) fun zh1 =>
  gg (gIs 12 za0 zh1) <|
  gc (f_X12_isGuest N za0 za1 zh1) fun zt3 zh2 =>
  if (zt3 : Int32) = 0 then (
  f_X12_page_27 N  zh2)
  else (
  if (za2 : Int32) < 0 then (
  f_X12_page_27 N  zh2)
  else (
  gg (gIs 12 za0 zh2) <|
  gc (f_X12_rooms N za0 zh2) fun zt7 zh6 =>
  if (za2 : Int32) < (1 <<< (zt7 &&& 31)) then (
  gb (gfR 12 17 za0 zh6) fun zt9 =>
  gb (asI 0 zt9 (463 + za1) za2 zh6) fun zh10 =>
  gg (gIs 12 za0 zh10) <|
  gc (f_X12_pages N za0 zh10) fun zt12 zh11 =>
  some (zt12, zh11))
  else (
  f_X12_page_27 N  zh6)))
def f_X12_findWays_186 (N : Nat) (zk186 : (Nat × Int64 × Int32 × PH) → Option (Int64 × PH)) (zv0 : Nat) (zv3 : Int64) (zv5 : Int32) (zh : PH) : Option (Int64 × PH) :=
  if (1024 : Int32) ≤ zv5 then (
  some (zv3, zh))
  else (
  gb (gfR 12 31 zv0 zh) fun zt2 =>
  gb (arL 1 zt2 zv5 zh) fun zt3 =>
  gl ((zv3 + zt3)) fun (zx4 : Int64) =>
  gl (zv5 + 1) fun (zx5 : Int32) =>
  zk186 (zv0, zx4, zx5, zh))
def f_X12_findWays_175 (N : Nat) (zk32 : (Nat × Int32 × Int32 × Int32 × PH) → Option (Int64 × PH)) (zv0 : Nat) (zv1 : Int32) (zv2 : Int32) (zv3 : Int32) (zh : PH) : Option (Int64 × PH) :=
  gl (zv3 + 1) fun (zx1 : Int32) =>
  zk32 (zv0, zv1, zv2, zx1, zh)
def f_X12_findWays_151 (N : Nat) (zk32 : (Nat × Int32 × Int32 × Int32 × PH) → Option (Int64 × PH)) (zk69 : (Nat × Int32 × Int32 × Int32 × Int32 × Int32 × PH) → Option (Int64 × PH)) (zk88 : (Nat × Int32 × Int32 × Int32 × Int32 × Int32 × Int64 × Int32 × PH) → Option (Int64 × PH)) (zv0 : Nat) (zv1 : Int32) (zv2 : Int32) (zv3 : Int32) (zv4 : Int32) (zv5 : Int32) (zv8 : Int32) (zs0 : Int64) (zs1 : Int64) (zh : PH) : Option (Int64 × PH) :=
  gl ((zs1 + zs0)) fun (zx1 : Int64) =>
  gl (zv8 + 1) fun (zx2 : Int32) =>
  zk88 (zv0, zv1, zv2, zv3, zv4, zv5, zx1, zx2, zh)
def f_X12_findWays_124 (N : Nat) (zk32 : (Nat × Int32 × Int32 × Int32 × PH) → Option (Int64 × PH)) (zk69 : (Nat × Int32 × Int32 × Int32 × Int32 × Int32 × PH) → Option (Int64 × PH)) (zk88 : (Nat × Int32 × Int32 × Int32 × Int32 × Int32 × Int64 × Int32 × PH) → Option (Int64 × PH)) (zv0 : Nat) (zv1 : Int32) (zv2 : Int32) (zv3 : Int32) (zv4 : Int32) (zv5 : Int32) (zv6 : Int64) (zv8 : Int32) (zs0 : Int32) (zh : PH) : Option (Int64 × PH) :=
  if (zs0 : Int32) = 0 then (
  f_X12_findWays_151 N zk32 zk69 zk88 zv0 zv1 zv2 zv3 zv4 zv5 zv8 0 zv6 zh)
  else (
  gb (gfR 12 31 zv0 zh) fun zt2 =>
  gb (arL 1 zt2 (zv5 &&& ((1 <<< (zv8 &&& 31)) ^^^ (-1))) zh) fun zt3 =>
  f_X12_findWays_151 N zk32 zk69 zk88 zv0 zv1 zv2 zv3 zv4 zv5 zv8 zt3 zv6 zh)
def f_X12_findWays_123 (N : Nat) (zk32 : (Nat × Int32 × Int32 × Int32 × PH) → Option (Int64 × PH)) (zk69 : (Nat × Int32 × Int32 × Int32 × Int32 × Int32 × PH) → Option (Int64 × PH)) (zk88 : (Nat × Int32 × Int32 × Int32 × Int32 × Int32 × Int64 × Int32 × PH) → Option (Int64 × PH)) (zv0 : Nat) (zv1 : Int32) (zv2 : Int32) (zv3 : Int32) (zv4 : Int32) (zv5 : Int32) (zv6 : Int64) (zv8 : Int32) (zh : PH) : Option (Int64 × PH) :=
  f_X12_findWays_124 N zk32 zk69 zk88 zv0 zv1 zv2 zv3 zv4 zv5 zv6 zv8 0 zh
def f_X12_findWays_88 (N : Nat) (zk32 : (Nat × Int32 × Int32 × Int32 × PH) → Option (Int64 × PH)) (zk69 : (Nat × Int32 × Int32 × Int32 × Int32 × Int32 × PH) → Option (Int64 × PH)) (zk88 : (Nat × Int32 × Int32 × Int32 × Int32 × Int32 × Int64 × Int32 × PH) → Option (Int64 × PH)) (zv0 : Nat) (zv1 : Int32) (zv2 : Int32) (zv3 : Int32) (zv4 : Int32) (zv5 : Int32) (zv6 : Int64) (zv8 : Int32) (zh : PH) : Option (Int64 × PH) :=
  gg (gIs 12 zv0 zh) <|
  gc (f_X12_rooms N zv0 zh) fun zt2 zh1 =>
  if (zt2 : Int32) ≤ zv8 then (
  gb (gfR 12 31 zv0 zh1) fun zt4 =>
  gb (asL 1 zt4 zv5 zv6 zh1) fun zh5 =>
  gl (zv5 + (-1)) fun (zx6 : Int32) =>
  zk69 (zv0, zv1, zv2, zv3, zv4, zx6, zh5))
  else (
  if (((zv4 >>> (zv8 &&& 31)) &&& 1) : Int32) = 1 then (
  if (((zv5 >>> (zv8 &&& 31)) &&& 1) : Int32) = 1 then (
  f_X12_findWays_124 N zk32 zk69 zk88 zv0 zv1 zv2 zv3 zv4 zv5 zv6 zv8 1 zh1)
  else (
  f_X12_findWays_123 N zk32 zk69 zk88 zv0 zv1 zv2 zv3 zv4 zv5 zv6 zv8 zh1))
  else (
  f_X12_findWays_123 N zk32 zk69 zk88 zv0 zv1 zv2 zv3 zv4 zv5 zv6 zv8 zh1))
def f_X12_findWays_69 (N : Nat) (zk32 : (Nat × Int32 × Int32 × Int32 × PH) → Option (Int64 × PH)) (zk69 : (Nat × Int32 × Int32 × Int32 × Int32 × Int32 × PH) → Option (Int64 × PH)) (zv0 : Nat) (zv1 : Int32) (zv2 : Int32) (zv3 : Int32) (zv4 : Int32) (zv5 : Int32) (zh : PH) : Option (Int64 × PH) :=
  if (zv5 : Int32) < 0 then (
  f_X12_findWays_175 N zk32 zv0 zv1 zv2 zv3 zh)
  else (
  gg (gIs 12 zv0 zh) <|
  gc (f_X12_pageOf N zv0 zv3 zh) fun zt3 zh2 =>
  if (zt3 : Int32) ≤ 0 then (
  f_X12_findWays_175 N zk32 zv0 zv1 zv2 zv3 zh2)
  else (
  gi (fun zk zs => f_X12_findWays_88 N zk32 zk69 zk zs.1 zs.2.1 zs.2.2.1 zs.2.2.2.1 zs.2.2.2.2.1 zs.2.2.2.2.2.1 zs.2.2.2.2.2.2.1 zs.2.2.2.2.2.2.2.1 zs.2.2.2.2.2.2.2.2) N (zv0, zv1, zv2, zv3, zv4, zv5, 0, 0, zh2)))
def f_X12_findWays_62 (N : Nat) (zk32 : (Nat × Int32 × Int32 × Int32 × PH) → Option (Int64 × PH)) (zv0 : Nat) (zv1 : Int32) (zv2 : Int32) (zv3 : Int32) (zs0 : Int32) (zh : PH) : Option (Int64 × PH) :=
  gi (fun zk zs => f_X12_findWays_69 N zk32 zk zs.1 zs.2.1 zs.2.2.1 zs.2.2.2.1 zs.2.2.2.2.1 zs.2.2.2.2.2.1 zs.2.2.2.2.2.2) N (zv0, zv1, zv2, zv3, zs0, 1023, zh)
def f_X12_findWays_32 (N : Nat) (zk32 : (Nat × Int32 × Int32 × Int32 × PH) → Option (Int64 × PH)) (zv0 : Nat) (zv1 : Int32) (zv2 : Int32) (zv3 : Int32) (zh : PH) : Option (Int64 × PH) :=
  gg (gIs 12 zv0 zh) <|
  gc (f_X12_guests N zv0 zh) fun zt2 zh1 =>
  if (zt2 : Int32) ≤ zv3 then (
  gi (fun zk zs => f_X12_findWays_186 N zk zs.1 zs.2.1 zs.2.2.1 zs.2.2.2) N (zv0, 0, 0, zh1))
  else (
  if (zv3 : Int32) = zv1 then (
  gg (gIs 12 zv0 zh1) <|
  gc (f_X12_pageOf N zv0 zv3 zh1) fun zt8 zh7 =>
  f_X12_findWays_62 N zk32 zv0 zv1 zv2 zv3 (zt8 &&& (1 <<< (zv2 &&& 31))) zh7)
  else (
  gg (gIs 12 zv0 zh1) <|
  gc (f_X12_pageOf N zv0 zv3 zh1) fun zt6 zh5 =>
  f_X12_findWays_62 N zk32 zv0 zv1 zv2 zv3 zt6 zh5))
def f_X12_findWays_23 (N : Nat) (zk2 : (Nat × Int32 × Int32 × Int32 × PH) → Option (Int64 × PH)) (zv0 : Nat) (zv1 : Int32) (zv2 : Int32) (zv3 : Int32) (zs0 : Int64) (zs1 : Int32) (zs2 : Nat) (zh : PH) : Option (Int64 × PH) :=
  gb (asL 1 zs2 zs1 zs0 zh) fun zh1 =>
  gl (zv3 + 1) fun (zx2 : Int32) =>
  zk2 (zv0, zv1, zv2, zx2, zh1)
def f_X12_findWays_2 (N : Nat) (zk2 : (Nat × Int32 × Int32 × Int32 × PH) → Option (Int64 × PH)) (zv0 : Nat) (zv1 : Int32) (zv2 : Int32) (zv3 : Int32) (zh : PH) : Option (Int64 × PH) :=
  if (1024 : Int32) ≤ zv3 then (
  gi (fun zk zs => f_X12_findWays_32 N zk zs.1 zs.2.1 zs.2.2.1 zs.2.2.2.1 zs.2.2.2.2) N (zv0, zv1, zv2, 0, zh))
  else (
  gb (gfR 12 31 zv0 zh) fun zt2 =>
  if (zv3 : Int32) = 0 then (
  f_X12_findWays_23 N zk2 zv0 zv1 zv2 zv3 1 zv3 zt2 zh)
  else (
  f_X12_findWays_23 N zk2 zv0 zv1 zv2 zv3 0 zv3 zt2 zh))
def f_X12_findWays (N : Nat) (za0 : Nat) (za1 : Int32) (za2 : Int32) (zh : PH) : Option (Int64 × PH) :=
  gi (fun zk zs => f_X12_findWays_2 N zk zs.1 zs.2.1 zs.2.2.1 zs.2.2.2.1 zs.2.2.2.2) N (za0, za1, za2, 0, zh)
def f_X12_ways (N : Nat) (za0 : Nat) (zh : PH) : Option (Int64 × PH) :=
  gb (pfV 12 0 za0 (.int 0) zh) fun zh1 =>
  gg (gIs 12 za0 zh1) <|
  gc (f_X12_findWays N za0 (-1) 0 zh1) fun zt3 zh2 =>
  some (zt3, zh2)
def f_X12_sure_113 (N : Nat) (zs0 : Int32) (zh : PH) : Option (Int32 × PH) :=
  some (zs0, zh)
def f_X12_sure_95 (N : Nat) (zk30 : (Nat × Int32 × Int32 × Int32 × Int32 × PH) → Option (Int32 × PH)) (zv0 : Nat) (zv1 : Int32) (zv2 : Int32) (zv4 : Int32) (zs0 : Int32) (zs1 : Int32) (zh : PH) : Option (Int32 × PH) :=
  gl ((zs1 + zs0)) fun (zx1 : Int32) =>
  gl (zv4 + 1) fun (zx2 : Int32) =>
  zk30 (zv0, zv1, zv2, zx1, zx2, zh)
def f_X12_sure_83 (N : Nat) (zk30 : (Nat × Int32 × Int32 × Int32 × Int32 × PH) → Option (Int32 × PH)) (zv0 : Nat) (zv1 : Int32) (zv3 : Int32) (zv4 : Int32) (zv5 : Int32) (zs0 : Int32) (zh : PH) : Option (Int32 × PH) :=
  if (zv5 : Int32) = 0 then (
  f_X12_sure_95 N zk30 zv0 zv1 zs0 zv4 0 zv3 zh)
  else (
  f_X12_sure_95 N zk30 zv0 zv1 zs0 zv4 1 zv3 zh)
def f_X12_sure_70 (N : Nat) (zk30 : (Nat × Int32 × Int32 × Int32 × Int32 × PH) → Option (Int32 × PH)) (zv0 : Nat) (zv1 : Int32) (zv2 : Int32) (zv3 : Int32) (zv4 : Int32) (zs0 : Int32) (zh : PH) : Option (Int32 × PH) :=
  if (zs0 : Int32) = 0 then (
  f_X12_sure_83 N zk30 zv0 zv1 zv3 zv4 zs0 zv2 zh)
  else (
  f_X12_sure_83 N zk30 zv0 zv1 zv3 zv4 zs0 zv4 zh)
def f_X12_sure_69 (N : Nat) (zk30 : (Nat × Int32 × Int32 × Int32 × Int32 × PH) → Option (Int32 × PH)) (zv0 : Nat) (zv1 : Int32) (zv2 : Int32) (zv3 : Int32) (zv4 : Int32) (zh : PH) : Option (Int32 × PH) :=
  f_X12_sure_70 N zk30 zv0 zv1 zv2 zv3 zv4 0 zh
def f_X12_sure_30 (N : Nat) (zk30 : (Nat × Int32 × Int32 × Int32 × Int32 × PH) → Option (Int32 × PH)) (zv0 : Nat) (zv1 : Int32) (zv2 : Int32) (zv3 : Int32) (zv4 : Int32) (zh : PH) : Option (Int32 × PH) :=
  gg (gIs 12 zv0 zh) <|
  gc (f_X12_rooms N zv0 zh) fun zt2 zh1 =>
  if (zt2 : Int32) ≤ zv4 then (
  if (zv3 : Int32) = 1 then (
  f_X12_sure_113 N zv2 zh1)
  else (
  f_X12_sure_113 N (-1) zh1))
  else (
  gg (gIs 12 zv0 zh1) <|
  gc (f_X12_pageOf N zv0 zv1 zh1) fun zt6 zh5 =>
  if (((zt6 >>> (zv4 &&& 31)) &&& 1) : Int32) = 1 then (
  gg (gIs 12 zv0 zh5) <|
  gc (f_X12_findWays N zv0 zv1 zv4 zh5) fun zt9 zh8 =>
  if ((lg_cmp zt9 0) : Int32) ≤ 0 then (
  f_X12_sure_69 N zk30 zv0 zv1 zv2 zv3 zv4 zh8)
  else (
  f_X12_sure_70 N zk30 zv0 zv1 zv2 zv3 zv4 1 zh8))
  else (
  f_X12_sure_69 N zk30 zv0 zv1 zv2 zv3 zv4 zh5))
def f_X12_sure_21 (N : Nat) (zh : PH) : Option (Int32 × PH) :=
  some ((-1), zh)
def f_X12_sure (N : Nat) (za0 : Nat) (za1 : Int32) (zh : PH) : Option (Int32 × PH) :=
  gb (pfV 12 0 za0 (.int 0) zh) fun zh1 =>
  gg (gIs 12 za0 zh1) <|
  gc (f_X12_isGuest N za0 za1 zh1) fun zt3 zh2 =>
  if (zt3 : Int32) = 0 then (
  f_X12_sure_21 N  zh2)
  else (
  gg (gIs 12 za0 zh2) <|
  gc (f_X12_pageOf N za0 za1 zh2) fun zt6 zh5 =>
  if (zt6 : Int32) = 0 then (
  f_X12_sure_21 N  zh5)
  else (
  gi (fun zk zs => f_X12_sure_30 N zk zs.1 zs.2.1 zs.2.2.1 zs.2.2.2.1 zs.2.2.2.2.1 zs.2.2.2.2.2) N (za0, za1, (-1), 0, 0, zh5)))
def f_X12_jobs (N : Nat) (za0 : Nat) (zh : PH) : Option (Int32 × PH) :=
  gb (gfR 12 17 za0 zh) fun zt1 =>
  gb (arI 0 zt1 473 zh) fun zt2 =>
  some (zt2, zh)
def f_X12_jobOf (N : Nat) (za0 : Nat) (za1 : Int32) (za2 : Int32) (zh : PH) : Option (Int32 × PH) :=
  gb (gfR 12 17 za0 zh) fun zt1 =>
  gb (arI 0 zt1 ((474 + (3 * za1)) + za2) zh) fun zt2 =>
  some (zt2, zh)
def f_X12_job_44 (N : Nat) (zh : PH) : Option (Int32 × PH) :=
  some ((-1), zh)
def f_X12_job (N : Nat) (za0 : Nat) (za1 : Int32) (za2 : Int32) (za3 : Int32) (zh : PH) : Option (Int32 × PH) :=
  gb (pfV 12 0 za0 (.int 0) zh) fun zh1 =>
  gc (f_X12_within N za1 0 99 zh1) fun zt3 zh2 =>
  if (zt3 : Int32) = 0 then (
  f_X12_job_44 N  zh2)
  else (
  gc (f_X12_within N za2 1 99 zh2) fun zt6 zh5 =>
  if (zt6 : Int32) = 0 then (
  f_X12_job_44 N  zh5)
  else (
  gc (f_X12_within N za3 0 99 zh5) fun zt9 zh8 =>
  if (zt9 : Int32) = 0 then (
  f_X12_job_44 N  zh8)
  else (
  gg (gIs 12 za0 zh8) <|
  gc (f_X12_jobs N za0 zh8) fun zt12 zh11 =>
  if (zt12 : Int32) = 7 then (
  f_X12_job_44 N  zh11)
  else (
  gg (gIs 12 za0 zh11) <|
  gc (f_X12_jobs N za0 zh11) fun zt15 zh14 =>
  gl ((474 + (3 * zt15))) fun (zx16 : Int32) =>
  gb (gfR 12 17 za0 zh14) fun zt17 =>
  gb (asI 0 zt17 zx16 za1 zh14) fun zh18 =>
  gb (gfR 12 17 za0 zh18) fun zt19 =>
  gb (asI 0 zt19 (zx16 + 1) za2 zh18) fun zh20 =>
  gb (gfR 12 17 za0 zh20) fun zt21 =>
  gb (asI 0 zt21 (zx16 + 2) za3 zh20) fun zh22 =>
  gb (gfR 12 17 za0 zh22) fun zt23 =>
  gb (arI 0 zt23 473 zh22) fun zt24 =>
  gb (asI 0 zt23 473 (zt24 + 1) zh22) fun zh25 =>
  gg (gIs 12 za0 zh25) <|
  gc (f_X12_jobs N za0 zh25) fun zt27 zh26 =>
  some (zt27, zh26)))))
def f_X12_doneBy_136 (N : Nat) (zk12 : (Nat × Nat × Int32 × Int32 × Int32 × PH) → Option (Int32 × PH)) (zv0 : Nat) (zv1 : Nat) (zv2 : Int32) (zv4 : Int32) (zs0 : Int32) (zh : PH) : Option (Int32 × PH) :=
  gl (zv4 + 1) fun (zx1 : Int32) =>
  zk12 (zv0, zv1, zv2, zs0, zx1, zh)
def f_X12_doneBy_49 (N : Nat) (zk12 : (Nat × Nat × Int32 × Int32 × Int32 × PH) → Option (Int32 × PH)) (zv0 : Nat) (zv1 : Nat) (zv3 : Int32) (zv4 : Int32) (zv5 : Int32) (zs0 : Int32) (zh : PH) : Option (Int32 × PH) :=
  gb (gfI 12 36 zv0 zh) fun zt1 =>
  gg (gIs 12 zv0 zh) <|
  gc (f_X12_jobOf N zv0 zv5 0 zh) fun zt3 zh2 =>
  gb (pfV 12 36 zv0 (.int (zt1 + (zs0 - zt3))) zh2) fun zh4 =>
  gg (gIs 12 zv0 zh4) <|
  gc (f_X12_jobOf N zv0 zv5 1 zh4) fun zt6 zh5 =>
  gl ((zs0 + zt6)) fun (zx7 : Int32) =>
  gb (gfR 12 34 zv0 zh5) fun zt8 =>
  gg (gIs 12 zv0 zh5) <|
  gc (f_X12_jobOf N zv0 zv5 0 zh5) fun zt10 zh9 =>
  gb (asI 0 zt8 zv5 (zs0 - zt10) zh9) fun zh11 =>
  gb (gfR 12 35 zv0 zh11) fun zt12 =>
  gg (gIs 12 zv0 zh11) <|
  gc (f_X12_jobOf N zv0 zv5 2 zh11) fun zt14 zh13 =>
  gb (asI 0 zt12 zv5 (zx7 + zt14) zh13) fun zh15 =>
  gb (gfR 12 35 zv0 zh15) fun zt16 =>
  gb (arI 0 zt16 zv5 zh15) fun zt17 =>
  if (zt17 : Int32) ≤ zv3 then (
  f_X12_doneBy_136 N zk12 zv0 zv1 zx7 zv4 zv3 zh15)
  else (
  gb (gfR 12 35 zv0 zh15) fun zt19 =>
  gb (arI 0 zt19 zv5 zh15) fun zt20 =>
  f_X12_doneBy_136 N zk12 zv0 zv1 zx7 zv4 zt20 zh15)
def f_X12_doneBy_12 (N : Nat) (zk12 : (Nat × Nat × Int32 × Int32 × Int32 × PH) → Option (Int32 × PH)) (zv0 : Nat) (zv1 : Nat) (zv2 : Int32) (zv3 : Int32) (zv4 : Int32) (zh : PH) : Option (Int32 × PH) :=
  gg (gIs 12 zv0 zh) <|
  gc (f_X12_jobs N zv0 zh) fun zt2 zh1 =>
  if (zt2 : Int32) ≤ zv4 then (
  some (zv3, zh1))
  else (
  gb (arI 0 zv1 zv4 zh1) fun zt4 =>
  gg (gIs 12 zv0 zh1) <|
  gc (f_X12_jobOf N zv0 zt4 0 zh1) fun zt6 zh5 =>
  if (zt6 : Int32) ≤ zv2 then (
  f_X12_doneBy_49 N zk12 zv0 zv1 zv3 zv4 zt4 zv2 zh5)
  else (
  gg (gIs 12 zv0 zh5) <|
  gc (f_X12_jobOf N zv0 zt4 0 zh5) fun zt9 zh8 =>
  f_X12_doneBy_49 N zk12 zv0 zv1 zv3 zv4 zt4 zt9 zh8))
def f_X12_doneBy (N : Nat) (za0 : Nat) (za1 : Nat) (zh : PH) : Option (Int32 × PH) :=
  gb (pfV 12 36 za0 (.int 0) zh) fun zh1 =>
  gi (fun zk zs => f_X12_doneBy_12 N zk zs.1 zs.2.1 zs.2.2.1 zs.2.2.2.1 zs.2.2.2.2.1 zs.2.2.2.2.2) N (za0, za1, 0, 0, 0, zh1)
def f_X12_triesJobs_97 (N : Nat) (zF_X12_triesJobs : Nat → Int32 → Int32 → PH → Option PH) (zk62 : (Nat × Int32 × Int32 × Int32 × PH) → Option PH) (zv0 : Nat) (zv1 : Int32) (zv2 : Int32) (zv3 : Int32) (zh : PH) : Option PH :=
  gl (zv3 + 1) fun (zx1 : Int32) =>
  zk62 (zv0, zv1, zv2, zx1, zh)
def f_X12_triesJobs_62 (N : Nat) (zF_X12_triesJobs : Nat → Int32 → Int32 → PH → Option PH) (zk62 : (Nat × Int32 × Int32 × Int32 × PH) → Option PH) (zv0 : Nat) (zv1 : Int32) (zv2 : Int32) (zv3 : Int32) (zh : PH) : Option PH :=
  gg (gIs 12 zv0 zh) <|
  gc (f_X12_jobs N zv0 zh) fun zt2 zh1 =>
  if (zt2 : Int32) ≤ zv3 then (
  some zh1)
  else (
  if (((zv2 >>> (zv3 &&& 31)) &&& 1) : Int32) = 0 then (
  gb (gfR 12 32 zv0 zh1) fun zt5 =>
  gb (asI 0 zt5 zv1 zv3 zh1) fun zh6 =>
  gg (gIs 12 zv0 zh6) <|
  gb (zF_X12_triesJobs zv0 (zv1 + 1) (zv2 ||| (1 <<< (zv3 &&& 31))) zh6) fun zh7 =>
  f_X12_triesJobs_97 N zF_X12_triesJobs zk62 zv0 zv1 zv2 zv3 zh7)
  else (
  f_X12_triesJobs_97 N zF_X12_triesJobs zk62 zv0 zv1 zv2 zv3 zh1))
def f_X12_triesJobs_59 (N : Nat) (zF_X12_triesJobs : Nat → Int32 → Int32 → PH → Option PH) (zh : PH) : Option PH :=
  some zh
def f_X12_triesJobs_33 (N : Nat) (zF_X12_triesJobs : Nat → Int32 → Int32 → PH → Option PH) (zk33 : (Nat × Int32 × Int32 × PH) → Option PH) (zv0 : Nat) (zv1 : Int32) (zv4 : Int32) (zh : PH) : Option PH :=
  if (zv1 : Int32) ≤ zv4 then (
  f_X12_triesJobs_59 N zF_X12_triesJobs  zh)
  else (
  gb (gfR 12 33 zv0 zh) fun zt2 =>
  gb (gfR 12 32 zv0 zh) fun zt3 =>
  gb (arI 0 zt3 zv4 zh) fun zt4 =>
  gb (asI 0 zt2 zv4 zt4 zh) fun zh5 =>
  gl (zv4 + 1) fun (zx6 : Int32) =>
  zk33 (zv0, zv1, zx6, zh5))
def b_X12_triesJobs (N : Nat) (zF_X12_triesJobs : Nat → Int32 → Int32 → PH → Option PH) (za0 : Nat) (za1 : Int32) (za2 : Int32) (zh : PH) : Option PH :=
  gg (gIs 12 za0 zh) <|
  gc (f_X12_jobs N za0 zh) fun zt2 zh1 =>
  if (za1 : Int32) = zt2 then (
  gb (gfR 12 32 za0 zh1) fun zt4 =>
  gg (gIs 12 za0 zh1) <|
  gc (f_X12_doneBy N za0 zt4 zh1) fun zt6 zh5 =>
  gb (gfI 12 37 za0 zh5) fun zt7 =>
  if (zt7 : Int32) ≤ zt6 then (
  f_X12_triesJobs_59 N zF_X12_triesJobs  zh5)
  else (
  gb (pfV 12 37 za0 (.int zt6) zh5) fun zh9 =>
  gi (fun zk zs => f_X12_triesJobs_33 N zF_X12_triesJobs zk zs.1 zs.2.1 zs.2.2.1 zs.2.2.2) N (za0, za1, 0, zh9)))
  else (
  gi (fun zk zs => f_X12_triesJobs_62 N zF_X12_triesJobs zk zs.1 zs.2.1 zs.2.2.1 zs.2.2.2.1 zs.2.2.2.2) N (za0, za1, za2, 0, zh1))
def g_gJ (N : Nat) : Nat → (Nat → Int32 → Int32 → PH → Option PH)
  | 0 => fun _ _ _ _ => none
  | zd + 1 => b_X12_triesJobs N (g_gJ N zd)
def f_X12_triesJobs (N : Nat) (za0 : Nat) (za1 : Int32) (za2 : Int32) (zh : PH) : Option PH := (g_gJ N 16) za0 za1 za2 zh
def f_X12_mostAtOnce_82 (N : Nat) (zk4 : (Nat × Int32 × Int32 × PH) → Option (Int32 × PH)) (zv0 : Nat) (zv2 : Int32) (zs0 : Int32) (zh : PH) : Option (Int32 × PH) :=
  gl (zv2 + 1) fun (zx1 : Int32) =>
  zk4 (zv0, zs0, zx1, zh)
def f_X12_mostAtOnce_64 (N : Nat) (zk4 : (Nat × Int32 × Int32 × PH) → Option (Int32 × PH)) (zk17 : (Nat × Int32 × Int32 × Int32 × Int32 × PH) → Option (Int32 × PH)) (zv0 : Nat) (zv1 : Int32) (zv2 : Int32) (zv4 : Int32) (zs0 : Int32) (zs1 : Int32) (zh : PH) : Option (Int32 × PH) :=
  gl ((zs1 + zs0)) fun (zx1 : Int32) =>
  gl (zv4 + 1) fun (zx2 : Int32) =>
  zk17 (zv0, zv1, zv2, zx1, zx2, zh)
def f_X12_mostAtOnce_63 (N : Nat) (zk4 : (Nat × Int32 × Int32 × PH) → Option (Int32 × PH)) (zk17 : (Nat × Int32 × Int32 × Int32 × Int32 × PH) → Option (Int32 × PH)) (zv0 : Nat) (zv1 : Int32) (zv2 : Int32) (zv4 : Int32) (zs0 : Int32) (zh : PH) : Option (Int32 × PH) :=
  f_X12_mostAtOnce_64 N zk4 zk17 zv0 zv1 zv2 zv4 0 zs0 zh
def f_X12_mostAtOnce_17 (N : Nat) (zk4 : (Nat × Int32 × Int32 × PH) → Option (Int32 × PH)) (zk17 : (Nat × Int32 × Int32 × Int32 × Int32 × PH) → Option (Int32 × PH)) (zv0 : Nat) (zv1 : Int32) (zv2 : Int32) (zv3 : Int32) (zv4 : Int32) (zh : PH) : Option (Int32 × PH) :=
  gg (gIs 12 zv0 zh) <|
  gc (f_X12_jobs N zv0 zh) fun zt2 zh1 =>
  if (zt2 : Int32) ≤ zv4 then (
  if (zv3 : Int32) ≤ zv1 then (
  f_X12_mostAtOnce_82 N zk4 zv0 zv2 zv1 zh1)
  else (
  f_X12_mostAtOnce_82 N zk4 zv0 zv2 zv3 zh1))
  else (
  gb (gfR 12 34 zv0 zh1) fun zt5 =>
  gb (arI 0 zt5 zv4 zh1) fun zt6 =>
  gb (gfR 12 34 zv0 zh1) fun zt7 =>
  gb (arI 0 zt7 zv2 zh1) fun zt8 =>
  if (zt8 : Int32) < zt6 then (
  f_X12_mostAtOnce_63 N zk4 zk17 zv0 zv1 zv2 zv4 zv3 zh1)
  else (
  gb (gfR 12 34 zv0 zh1) fun zt10 =>
  gb (arI 0 zt10 zv2 zh1) fun zt11 =>
  gb (gfR 12 35 zv0 zh1) fun zt12 =>
  gb (arI 0 zt12 zv4 zh1) fun zt13 =>
  if (zt13 : Int32) ≤ zt11 then (
  f_X12_mostAtOnce_63 N zk4 zk17 zv0 zv1 zv2 zv4 zv3 zh1)
  else (
  f_X12_mostAtOnce_64 N zk4 zk17 zv0 zv1 zv2 zv4 1 zv3 zh1)))
def f_X12_mostAtOnce_4 (N : Nat) (zk4 : (Nat × Int32 × Int32 × PH) → Option (Int32 × PH)) (zv0 : Nat) (zv1 : Int32) (zv2 : Int32) (zh : PH) : Option (Int32 × PH) :=
  gg (gIs 12 zv0 zh) <|
  gc (f_X12_jobs N zv0 zh) fun zt2 zh1 =>
  if (zt2 : Int32) ≤ zv2 then (
  some (zv1, zh1))
  else (
  gi (fun zk zs => f_X12_mostAtOnce_17 N zk4 zk zs.1 zs.2.1 zs.2.2.1 zs.2.2.2.1 zs.2.2.2.2.1 zs.2.2.2.2.2) N (zv0, zv1, zv2, 0, 0, zh1))
def f_X12_mostAtOnce (N : Nat) (za0 : Nat) (zh : PH) : Option (Int32 × PH) :=
  gi (fun zk zs => f_X12_mostAtOnce_4 N zk zs.1 zs.2.1 zs.2.2.1 zs.2.2.2) N (za0, 0, 0, zh)
def f_X12_porters_95 (N : Nat) (zs0 : Int32) (zh : PH) : Option (Int32 × PH) :=
  some (zs0, zh)
def f_X12_porters_74 (N : Nat) (zs0 : Int32) (zh : PH) : Option (Int32 × PH) :=
  some (zs0, zh)
def f_X12_porters_59 (N : Nat) (zv0 : Nat) (zv1 : Int32) (zh : PH) : Option (Int32 × PH) :=
  if (zv1 : Int32) = 0 then (
  gb (gfI 12 37 zv0 zh) fun zt3 =>
  f_X12_porters_74 N zt3 zh)
  else (
  gb (gfI 12 36 zv0 zh) fun zt2 =>
  f_X12_porters_74 N zt2 zh)
def f_X12_porters_26 (N : Nat) (zh : PH) : Option (Int32 × PH) :=
  some ((-1), zh)
def f_X12_porters (N : Nat) (za0 : Nat) (za1 : Int32) (zh : PH) : Option (Int32 × PH) :=
  gb (pfV 12 0 za0 (.int 0) zh) fun zh1 =>
  gg (gIs 12 za0 zh1) <|
  gc (f_X12_jobs N za0 zh1) fun zt3 zh2 =>
  if (zt3 : Int32) = 0 then (
  f_X12_porters_26 N  zh2)
  else (
  gg (gIs 12 za0 zh2) <|
  gc (f_X12_jobs N za0 zh2) fun zt6 zh5 =>
  gc (f_X12_within N za1 0 (2 + zt6) zh5) fun zt8 zh7 =>
  if (zt8 : Int32) = 0 then (
  f_X12_porters_26 N  zh7)
  else (
  gb (pfV 12 37 za0 (.int 100000000) zh7) fun zh10 =>
  gg (gIs 12 za0 zh10) <|
  gb (f_X12_triesJobs N za0 0 0 zh10) fun zh11 =>
  gb (gfR 12 33 za0 zh11) fun zt12 =>
  gg (gIs 12 za0 zh11) <|
  gc (f_X12_doneBy N za0 zt12 zh11) fun zt14 zh13 =>
  if (za1 : Int32) = 0 then (
  f_X12_porters_59 N za0 za1 zh13)
  else (
  if (za1 : Int32) = 1 then (
  f_X12_porters_59 N za0 za1 zh13)
  else (
  if (za1 : Int32) = 2 then (
  gg (gIs 12 za0 zh13) <|
  gc (f_X12_mostAtOnce N za0 zh13) fun zt21 zh20 =>
  f_X12_porters_95 N zt21 zh20)
  else (
  gb (gfR 12 33 za0 zh13) fun zt18 =>
  gb (arI 0 zt18 (za1 - 3) zh13) fun zt19 =>
  f_X12_porters_95 N zt19 zh13)))))
def f_X12_told_47 (N : Nat) (zs0 : Int32) (zh : PH) : Option (Int32 × PH) :=
  some (zs0, zh)
def f_X12_told_7 (N : Nat) (zk7 : (Nat × Int32 × PH) → Option (Int32 × PH)) (zv0 : Nat) (zv1 : Int32) (zh : PH) : Option (Int32 × PH) :=
  gg (gIs 12 zv0 zh) <|
  gc (f_X12_jobs N zv0 zh) fun zt2 zh1 =>
  if (zt2 : Int32) ≤ zv1 then (
  gg (gIs 12 zv0 zh1) <|
  gc (f_X12_jobs N zv0 zh1) fun zt5 zh4 =>
  if (zt5 : Int32) = 0 then (
  f_X12_told_47 N (-1) zh4)
  else (
  gb (gfR 12 32 zv0 zh4) fun zt7 =>
  gg (gIs 12 zv0 zh4) <|
  gc (f_X12_doneBy N zv0 zt7 zh4) fun zt9 zh8 =>
  f_X12_told_47 N zt9 zh8))
  else (
  gb (gfR 12 32 zv0 zh1) fun zt10 =>
  gb (asI 0 zt10 zv1 zv1 zh1) fun zh11 =>
  gl (zv1 + 1) fun (zx12 : Int32) =>
  zk7 (zv0, zx12, zh11))
def f_X12_told (N : Nat) (za0 : Nat) (zh : PH) : Option (Int32 × PH) :=
  gb (pfV 12 0 za0 (.int 0) zh) fun zh1 =>
  gi (fun zk zs => f_X12_told_7 N zk zs.1 zs.2.1 zs.2.2) N (za0, 0, zh1)
def f_X12_clear (N : Nat) (za0 : Nat) (zh : PH) : Option (Int32 × PH) :=
  gb (pfV 12 0 za0 (.int 0) zh) fun zh1 =>
  gb (gfR 12 17 za0 zh1) fun zt2 =>
  gb (asI 0 zt2 402 0 zh1) fun zh3 =>
  gb (gfR 12 17 za0 zh3) fun zt4 =>
  gb (asI 0 zt4 473 0 zh3) fun zh5 =>
  gg (gzb 1) (some (1, zh5))
def f_X12_isBooked_35 (N : Nat) (zk4 : (Nat × Int32 × Int32 × Int32 × PH) → Option (Int32 × PH)) (zv0 : Nat) (zv1 : Int32) (zv3 : Int32) (zs0 : Int32) (zh : PH) : Option (Int32 × PH) :=
  gl (zv3 + 1) fun (zx1 : Int32) =>
  zk4 (zv0, zv1, zs0, zx1, zh)
def f_X12_isBooked_30 (N : Nat) (zk4 : (Nat × Int32 × Int32 × Int32 × PH) → Option (Int32 × PH)) (zv0 : Nat) (zv1 : Int32) (zv3 : Int32) (zh : PH) : Option (Int32 × PH) :=
  f_X12_isBooked_35 N zk4 zv0 zv1 zv3 1 zh
def f_X12_isBooked_4 (N : Nat) (zk4 : (Nat × Int32 × Int32 × Int32 × PH) → Option (Int32 × PH)) (zv0 : Nat) (zv1 : Int32) (zv2 : Int32) (zv3 : Int32) (zh : PH) : Option (Int32 × PH) :=
  gg (gIs 12 zv0 zh) <|
  gc (f_X12_booked N zv0 zh) fun zt2 zh1 =>
  if (zt2 : Int32) ≤ zv3 then (
  gg (gzb zv2) (some (zv2, zh1)))
  else (
  if (zv2 : Int32) = 0 then (
  gb (gfR 12 17 zv0 zh1) fun zt5 =>
  gb (arI 0 zt5 (496 + zv3) zh1) fun zt6 =>
  if (zt6 : Int32) = zv1 then (
  f_X12_isBooked_30 N zk4 zv0 zv1 zv3 zh1)
  else (
  f_X12_isBooked_35 N zk4 zv0 zv1 zv3 0 zh1))
  else (
  f_X12_isBooked_30 N zk4 zv0 zv1 zv3 zh1))
def f_X12_isBooked (N : Nat) (za0 : Nat) (za1 : Int32) (zh : PH) : Option (Int32 × PH) :=
  gi (fun zk zs => f_X12_isBooked_4 N zk zs.1 zs.2.1 zs.2.2.1 zs.2.2.2.1 zs.2.2.2.2) N (za0, za1, 0, 0, zh)
def f_X12_book_53 (N : Nat) (zh : PH) : Option (Int32 × PH) :=
  some ((-1), zh)
def f_X12_book (N : Nat) (za0 : Nat) (za1 : Int32) (zh : PH) : Option (Int32 × PH) :=
  gb (pfV 12 0 za0 (.int 0) zh) fun zh1 =>
  if (0 : Int32) ≤ za1 then (
  gg (gIs 12 za0 zh1) <|
  gc (f_X12_isGuest N za0 za1 zh1) fun zt4 zh3 =>
  if (zt4 : Int32) = 0 then (
  f_X12_book_53 N  zh3)
  else (
  gg (gIs 12 za0 zh3) <|
  gc (f_X12_roomNow N za0 za1 zh3) fun zt7 zh6 =>
  if (0 : Int32) ≤ zt7 then (
  f_X12_book_53 N  zh6)
  else (
  gg (gIs 12 za0 zh6) <|
  gc (f_X12_isBooked N za0 za1 zh6) fun zt10 zh9 =>
  if (zt10 : Int32) = 0 then (
  gg (gIs 12 za0 zh9) <|
  gc (f_X12_booked N za0 zh9) fun zt13 zh12 =>
  if (zt13 : Int32) = 7 then (
  f_X12_book_53 N  zh12)
  else (
  gb (gfR 12 17 za0 zh12) fun zt15 =>
  gg (gIs 12 za0 zh12) <|
  gc (f_X12_booked N za0 zh12) fun zt17 zh16 =>
  gb (asI 0 zt15 (496 + zt17) za1 zh16) fun zh18 =>
  gb (gfR 12 17 za0 zh18) fun zt19 =>
  gb (arI 0 zt19 495 zh18) fun zt20 =>
  gb (asI 0 zt19 495 (zt20 + 1) zh18) fun zh21 =>
  gg (gIs 12 za0 zh21) <|
  gc (f_X12_booked N za0 zh21) fun zt23 zh22 =>
  some (zt23, zh22)))
  else (
  f_X12_book_53 N  zh9))))
  else (
  gb (gfR 12 17 za0 zh1) fun zt24 =>
  gb (asI 0 zt24 495 0 zh1) fun zh25 =>
  some (0, zh25))
def f_X12_comesAll_26 (N : Nat) (zk26 : (Nat × Int32 × Int32 × Int32 × PH) → Option PH) (zv0 : Nat) (zv1 : Int32) (zv2 : Int32) (zv3 : Int32) (zh : PH) : Option PH :=
  gg (gIs 12 zv0 zh) <|
  gc (f_X12_booked N zv0 zh) fun zt2 zh1 =>
  if (zt2 : Int32) ≤ zv3 then (
  gb (gfR 12 20 zv0 zh1) fun zt4 =>
  gb (gfI 12 38 zv0 zh1) fun zt5 =>
  gb (arI 0 zt4 zt5 zh1) fun zt6 =>
  gb (pfV 12 39 zv0 (.int (zt6 - zv1)) zh1) fun zh7 =>
  gb (gfI 12 24 zv0 zh7) fun zt8 =>
  gb (pfV 12 40 zv0 (.int (zt8 - zv2)) zh7) fun zh9 =>
  gb (pfV 12 18 zv0 (.int 1) zh9) fun zh10 =>
  some zh10)
  else (
  gb (gfR 12 32 zv0 zh1) fun zt11 =>
  gb (arI 0 zt11 zv3 zh1) fun zt12 =>
  gg (gIs 12 zv0 zh1) <|
  gb (f_X12_comes N zv0 zt12 zh1) fun zh13 =>
  gl (zv3 + 1) fun (zx14 : Int32) =>
  zk26 (zv0, zv1, zv2, zx14, zh13))
def f_X12_comesAll (N : Nat) (za0 : Nat) (zh : PH) : Option PH :=
  gb (pfV 12 18 za0 (.int 1) zh) fun zh1 =>
  gg (gIs 12 za0 zh1) <|
  gb (f_X12_find N za0 zh1) fun zh2 =>
  gb (gfR 12 20 za0 zh2) fun zt3 =>
  gb (gfI 12 38 za0 zh2) fun zt4 =>
  gb (arI 0 zt3 zt4 zh2) fun zt5 =>
  gb (gfI 12 24 za0 zh2) fun zt6 =>
  gi (fun zk zs => f_X12_comesAll_26 N zk zs.1 zs.2.1 zs.2.2.1 zs.2.2.2.1 zs.2.2.2.2) N (za0, zt5, zt6, 0, zh2)
def f_X12_triesBooked_153 (N : Nat) (zF_X12_triesBooked : Nat → Int32 → Int32 → PH → Option PH) (zk110 : (Nat × Int32 × Int32 × Int32 × PH) → Option PH) (zv0 : Nat) (zv1 : Int32) (zv2 : Int32) (zv3 : Int32) (zh : PH) : Option PH :=
  gl (zv3 + 1) fun (zx1 : Int32) =>
  zk110 (zv0, zv1, zv2, zx1, zh)
def f_X12_triesBooked_110 (N : Nat) (zF_X12_triesBooked : Nat → Int32 → Int32 → PH → Option PH) (zk110 : (Nat × Int32 × Int32 × Int32 × PH) → Option PH) (zv0 : Nat) (zv1 : Int32) (zv2 : Int32) (zv3 : Int32) (zh : PH) : Option PH :=
  gg (gIs 12 zv0 zh) <|
  gc (f_X12_guests N zv0 zh) fun zt2 zh1 =>
  if (zt2 : Int32) ≤ zv3 then (
  some zh1)
  else (
  gg (gIs 12 zv0 zh1) <|
  gc (f_X12_isBooked N zv0 zv3 zh1) fun zt5 zh4 =>
  if (zt5 : Int32) = 0 then (
  f_X12_triesBooked_153 N zF_X12_triesBooked zk110 zv0 zv1 zv2 zv3 zh4)
  else (
  if (((zv2 >>> (zv3 &&& 31)) &&& 1) : Int32) = 0 then (
  gb (gfR 12 32 zv0 zh4) fun zt8 =>
  gb (asI 0 zt8 zv1 zv3 zh4) fun zh9 =>
  gg (gIs 12 zv0 zh9) <|
  gb (zF_X12_triesBooked zv0 (zv1 + 1) (zv2 ||| (1 <<< (zv3 &&& 31))) zh9) fun zh10 =>
  f_X12_triesBooked_153 N zF_X12_triesBooked zk110 zv0 zv1 zv2 zv3 zh10)
  else (
  f_X12_triesBooked_153 N zF_X12_triesBooked zk110 zv0 zv1 zv2 zv3 zh4)))
def f_X12_triesBooked_107 (N : Nat) (zF_X12_triesBooked : Nat → Int32 → Int32 → PH → Option PH) (zh : PH) : Option PH :=
  some zh
def f_X12_triesBooked_81 (N : Nat) (zF_X12_triesBooked : Nat → Int32 → Int32 → PH → Option PH) (zk81 : (Nat × Int32 × Int32 × PH) → Option PH) (zv0 : Nat) (zv1 : Int32) (zv4 : Int32) (zh : PH) : Option PH :=
  if (zv1 : Int32) ≤ zv4 then (
  f_X12_triesBooked_107 N zF_X12_triesBooked  zh)
  else (
  gb (gfR 12 41 zv0 zh) fun zt2 =>
  gb (gfR 12 32 zv0 zh) fun zt3 =>
  gb (arI 0 zt3 zv4 zh) fun zt4 =>
  gb (asI 0 zt2 zv4 zt4 zh) fun zh5 =>
  gl (zv4 + 1) fun (zx6 : Int32) =>
  zk81 (zv0, zv1, zx6, zh5))
def f_X12_triesBooked_57 (N : Nat) (zF_X12_triesBooked : Nat → Int32 → Int32 → PH → Option PH) (zv0 : Nat) (zv1 : Int32) (zs0 : Int32) (zh : PH) : Option PH :=
  if (zs0 : Int32) = 0 then (
  f_X12_triesBooked_107 N zF_X12_triesBooked  zh)
  else (
  gb (gfI 12 39 zv0 zh) fun zt2 =>
  gb (pfV 12 42 zv0 (.int zt2) zh) fun zh3 =>
  gb (gfI 12 40 zv0 zh3) fun zt4 =>
  gb (pfV 12 43 zv0 (.int zt4) zh3) fun zh5 =>
  gi (fun zk zs => f_X12_triesBooked_81 N zF_X12_triesBooked zk zs.1 zs.2.1 zs.2.2.1 zs.2.2.2) N (zv0, zv1, 0, zh5))
def f_X12_triesBooked_56 (N : Nat) (zF_X12_triesBooked : Nat → Int32 → Int32 → PH → Option PH) (zv0 : Nat) (zv1 : Int32) (zh : PH) : Option PH :=
  f_X12_triesBooked_57 N zF_X12_triesBooked zv0 zv1 0 zh
def f_X12_triesBooked_52 (N : Nat) (zF_X12_triesBooked : Nat → Int32 → Int32 → PH → Option PH) (zv0 : Nat) (zv1 : Int32) (zh : PH) : Option PH :=
  f_X12_triesBooked_57 N zF_X12_triesBooked zv0 zv1 1 zh
def b_X12_triesBooked (N : Nat) (zF_X12_triesBooked : Nat → Int32 → Int32 → PH → Option PH) (za0 : Nat) (za1 : Int32) (za2 : Int32) (zh : PH) : Option PH :=
  gg (gIs 12 za0 zh) <|
  gc (f_X12_booked N za0 zh) fun zt2 zh1 =>
  if (za1 : Int32) = zt2 then (
  gg (gIs 12 za0 zh1) <|
  gb (f_X12_comesAll N za0 zh1) fun zh4 =>
  gb (gfI 12 42 za0 zh4) fun zt5 =>
  if (zt5 : Int32) < 0 then (
  f_X12_triesBooked_52 N zF_X12_triesBooked za0 za1 zh4)
  else (
  gb (gfI 12 39 za0 zh4) fun zt7 =>
  gb (gfI 12 42 za0 zh4) fun zt8 =>
  if (zt7 : Int32) < zt8 then (
  f_X12_triesBooked_52 N zF_X12_triesBooked za0 za1 zh4)
  else (
  gb (gfI 12 39 za0 zh4) fun zt10 =>
  gb (gfI 12 42 za0 zh4) fun zt11 =>
  if (zt10 : Int32) = zt11 then (
  gb (gfI 12 40 za0 zh4) fun zt13 =>
  gb (gfI 12 43 za0 zh4) fun zt14 =>
  if (zt14 : Int32) ≤ zt13 then (
  f_X12_triesBooked_56 N zF_X12_triesBooked za0 za1 zh4)
  else (
  f_X12_triesBooked_52 N zF_X12_triesBooked za0 za1 zh4))
  else (
  f_X12_triesBooked_56 N zF_X12_triesBooked za0 za1 zh4))))
  else (
  gi (fun zk zs => f_X12_triesBooked_110 N zF_X12_triesBooked zk zs.1 zs.2.1 zs.2.2.1 zs.2.2.2.1 zs.2.2.2.2) N (za0, za1, za2, 0, zh1))
def g_gO (N : Nat) : Nat → (Nat → Int32 → Int32 → PH → Option PH)
  | 0 => fun _ _ _ _ => none
  | zd + 1 => b_X12_triesBooked N (g_gO N zd)
def f_X12_triesBooked (N : Nat) (za0 : Nat) (za1 : Int32) (za2 : Int32) (zh : PH) : Option PH := (g_gO N 16) za0 za1 za2 zh
def f_X12_order_115 (N : Nat) (zs0 : Int32) (zh : PH) : Option (Int32 × PH) :=
  some (zs0, zh)
def f_X12_order_68 (N : Nat) (zv0 : Nat) (zv1 : Int32) (zv2 : Int32) (zh : PH) : Option (Int32 × PH) :=
  gb (pfV 12 38 zv0 (.int zv1) zh) fun zh1 =>
  gb (pfV 12 42 zv0 (.int (-1)) zh1) fun zh2 =>
  gg (gIs 12 zv0 zh2) <|
  gb (f_X12_triesBooked N zv0 0 0 zh2) fun zh3 =>
  if (zv2 : Int32) = 0 then (
  gb (gfI 12 42 zv0 zh3) fun zt9 =>
  f_X12_order_115 N zt9 zh3)
  else (
  if (zv2 : Int32) = 1 then (
  gb (gfI 12 43 zv0 zh3) fun zt8 =>
  f_X12_order_115 N zt8 zh3)
  else (
  gb (gfR 12 41 zv0 zh3) fun zt6 =>
  gb (arI 0 zt6 (zv2 - 2) zh3) fun zt7 =>
  f_X12_order_115 N zt7 zh3))
def f_X12_order_66 (N : Nat) (zh : PH) : Option (Int32 × PH) :=
  some ((-1), zh)
def f_X12_order (N : Nat) (za0 : Nat) (za1 : Int32) (za2 : Int32) (zh : PH) : Option (Int32 × PH) :=
  gb (pfV 12 0 za0 (.int 0) zh) fun zh1 =>
  gg (gIs 12 za0 zh1) <|
  gc (f_X12_isGuest N za0 za1 zh1) fun zt3 zh2 =>
  if (zt3 : Int32) = 0 then (
  f_X12_order_66 N  zh2)
  else (
  gg (gIs 12 za0 zh2) <|
  gc (f_X12_booked N za0 zh2) fun zt6 zh5 =>
  gc (f_X12_within N za2 0 (1 + zt6) zh5) fun zt8 zh7 =>
  if (zt8 : Int32) = 0 then (
  f_X12_order_66 N  zh7)
  else (
  gg (gIs 12 za0 zh7) <|
  gc (f_X12_booked N za0 zh7) fun zt11 zh10 =>
  if (zt11 : Int32) = 0 then (
  f_X12_order_66 N  zh10)
  else (
  gg (gIs 12 za0 zh10) <|
  gc (f_X12_booked N za0 zh10) fun zt14 zh13 =>
  gg (gIs 12 za0 zh13) <|
  gc (f_X12_rooms N za0 zh13) fun zt16 zh15 =>
  gg (gIs 12 za0 zh15) <|
  gc (f_X12_insideMany N za0 zh15) fun zt18 zh17 =>
  if ((zt16 - zt18) : Int32) < zt14 then (
  f_X12_order_66 N  zh17)
  else (
  gg (gIs 12 za0 zh17) <|
  gc (f_X12_isBooked N za0 za1 zh17) fun zt21 zh20 =>
  if (zt21 : Int32) = 0 then (
  gg (gIs 12 za0 zh20) <|
  gc (f_X12_roomNow N za0 za1 zh20) fun zt24 zh23 =>
  if (0 : Int32) ≤ zt24 then (
  f_X12_order_68 N za0 za1 za2 zh23)
  else (
  f_X12_order_66 N  zh23))
  else (
  f_X12_order_68 N za0 za1 za2 zh20)))))
def f_X12_findTried_132 (N : Nat) (zs0 : Int32) (zs1 : Nat) (zh : PH) : Option PH :=
  gb (pfV 12 46 zs1 (.int zs0) zh) fun zh1 =>
  some zh1
def f_X12_findTried_110 (N : Nat) (zk36 : (Nat × Int32 × Int32 × Int32 × PH) → Option PH) (zv0 : Nat) (zv2 : Int32) (zv4 : Int32) (zs0 : Int32) (zh : PH) : Option PH :=
  gl (zv4 + 1) fun (zx1 : Int32) =>
  zk36 (zv0, zv2, zs0, zx1, zh)
def f_X12_findTried_109 (N : Nat) (zk36 : (Nat × Int32 × Int32 × Int32 × PH) → Option PH) (zv0 : Nat) (zv2 : Int32) (zv3 : Int32) (zv4 : Int32) (zh : PH) : Option PH :=
  f_X12_findTried_110 N zk36 zv0 zv2 zv4 zv3 zh
def f_X12_findTried_77 (N : Nat) (zk36 : (Nat × Int32 × Int32 × Int32 × PH) → Option PH) (zv0 : Nat) (zv3 : Int32) (zv4 : Int32) (zs0 : Int32) (zh : PH) : Option PH :=
  gb (gfR 12 22 zv0 zh) fun zt1 =>
  gb (arI 3 zt1 zv4 zh) fun zt2 =>
  if (zt2 : Int32) = 0 then (
  f_X12_findTried_109 N zk36 zv0 zs0 zv3 zv4 zh)
  else (
  gb (gfR 12 20 zv0 zh) fun zt4 =>
  gb (arI 0 zt4 zv4 zh) fun zt5 =>
  if (zt5 : Int32) ≤ zv3 then (
  f_X12_findTried_109 N zk36 zv0 zs0 zv3 zv4 zh)
  else (
  gb (gfR 12 20 zv0 zh) fun zt7 =>
  gb (arI 0 zt7 zv4 zh) fun zt8 =>
  f_X12_findTried_110 N zk36 zv0 zs0 zv4 zt8 zh))
def f_X12_findTried_76 (N : Nat) (zk36 : (Nat × Int32 × Int32 × Int32 × PH) → Option PH) (zv0 : Nat) (zv2 : Int32) (zv3 : Int32) (zv4 : Int32) (zh : PH) : Option PH :=
  f_X12_findTried_77 N zk36 zv0 zv3 zv4 zv2 zh
def f_X12_findTried_36 (N : Nat) (zk36 : (Nat × Int32 × Int32 × Int32 × PH) → Option PH) (zv0 : Nat) (zv2 : Int32) (zv3 : Int32) (zv4 : Int32) (zh : PH) : Option PH :=
  gg (gIs 12 zv0 zh) <|
  gc (f_X12_guests N zv0 zh) fun zt2 zh1 =>
  if (zt2 : Int32) ≤ zv4 then (
  if (zv2 : Int32) = 100000000 then (
  f_X12_findTried_132 N 0 zv0 zh1)
  else (
  f_X12_findTried_132 N (zv3 - zv2) zv0 zh1))
  else (
  gb (gfR 12 22 zv0 zh1) fun zt5 =>
  gb (arI 3 zt5 zv4 zh1) fun zt6 =>
  if (zt6 : Int32) = 0 then (
  f_X12_findTried_76 N zk36 zv0 zv2 zv3 zv4 zh1)
  else (
  gb (gfR 12 20 zv0 zh1) fun zt8 =>
  gb (arI 0 zt8 zv4 zh1) fun zt9 =>
  if (zv2 : Int32) ≤ zt9 then (
  f_X12_findTried_76 N zk36 zv0 zv2 zv3 zv4 zh1)
  else (
  gb (gfR 12 20 zv0 zh1) fun zt11 =>
  gb (arI 0 zt11 zv4 zh1) fun zt12 =>
  f_X12_findTried_77 N zk36 zv0 zv3 zv4 zt12 zh1)))
def f_X12_findTried (N : Nat) (za0 : Nat) (za1 : Int32) (zh : PH) : Option PH :=
  gg (gIs 12 za0 zh) <|
  gb (f_X12_goesThrough N za0 1 za1 zh) fun zh1 =>
  gb (pfV 12 18 za0 (.int 1) zh1) fun zh2 =>
  gb (gfI 12 23 za0 zh2) fun zt3 =>
  gb (pfV 12 44 za0 (.int zt3) zh2) fun zh4 =>
  gb (gfI 12 24 za0 zh4) fun zt5 =>
  gb (pfV 12 45 za0 (.int zt5) zh4) fun zh6 =>
  gi (fun zk zs => f_X12_findTried_36 N zk zs.1 zs.2.1 zs.2.2.1 zs.2.2.2.1 zs.2.2.2.2) N (za0, 100000000, 0, 0, zh6)
