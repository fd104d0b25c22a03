def f_X12_gives_75 (N : Nat) (zs0 : Int32) (zh : PH) : Option (Int32 × PH) :=
  some (zs0, zh)
def f_X12_gives_52 (N : Nat) (zv0 : Nat) (zv1 : Int32) (zv2 : Int32) (zv3 : Int32) (zv4 : Int32) (zs0 : Int32) (zs1 : Nat) (zh : PH) : Option (Int32 × PH) :=
  gb (pfV 12 0 zs1 (.int zs0) zh) fun zh1 =>
  gb (gfI 12 0 zv0 zh1) fun zt2 =>
  if (zt2 : Int32) ≤ 0 then (
  gg (gIs 12 zv0 zh1) <|
  gc (f_X12_givesFor N zv0 zv1 zv2 zv4 zv3 zh1) fun zt5 zh4 =>
  f_X12_gives_75 N zt5 zh4)
  else (
  f_X12_gives_75 N 0 zh1)
def f_X12_gives_51 (N : Nat) (zv0 : Nat) (zv1 : Int32) (zv2 : Int32) (zv3 : Int32) (zv4 : Int32) (zs0 : Nat) (zh : PH) : Option (Int32 × PH) :=
  f_X12_gives_52 N zv0 zv1 zv2 zv3 zv4 1 zs0 zh
def f_X12_gives_33 (N : Nat) (zv0 : Nat) (zv1 : Int32) (zv2 : Int32) (zv3 : Int32) (zs0 : Int32) (zh : PH) : Option (Int32 × PH) :=
  if (zs0 : Int32) < 0 then (
  f_X12_gives_51 N zv0 zv1 zv2 zv3 zs0 zv0 zh)
  else (
  if (zs0 : Int32) = zv3 then (
  f_X12_gives_51 N zv0 zv1 zv2 zv3 zs0 zv0 zh)
  else (
  f_X12_gives_52 N zv0 zv1 zv2 zv3 zs0 0 zv0 zh))
def f_X12_gives_32 (N : Nat) (zv0 : Nat) (zv1 : Int32) (zv2 : Int32) (zv3 : Int32) (zh : PH) : Option (Int32 × PH) :=
  f_X12_gives_33 N zv0 zv1 zv2 zv3 (-1) zh
def f_X12_gives (N : Nat) (za0 : Nat) (za1 : Int32) (za2 : Int32) (za3 : Int32) (zh : PH) : Option (Int32 × PH) :=
  gg (gIs 12 za0 zh) <|
  gc (f_X12_isRule N za0 za1 zh) fun zt2 zh1 =>
  if (zt2 : Int32) = 0 then (
  f_X12_gives_32 N za0 za1 za2 za3 zh1)
  else (
  gg (gIs 12 za0 zh1) <|
  gc (f_X12_isGuest N za0 za2 zh1) fun zt5 zh4 =>
  if (zt5 : Int32) = 0 then (
  f_X12_gives_32 N za0 za1 za2 za3 zh4)
  else (
  gg (gIs 12 za0 zh4) <|
  gc (f_X12_isRoom N za0 za3 zh4) fun zt8 zh7 =>
  if (zt8 : Int32) = 0 then (
  f_X12_gives_32 N za0 za1 za2 za3 zh7)
  else (
  gg (gIs 12 za0 zh7) <|
  gc (f_X12_roomNow N za0 za2 zh7) fun zt11 zh10 =>
  f_X12_gives_33 N za0 za1 za2 za3 zt11 zh10)))
def f_X12_whyNot_106 (N : Nat) (zs0 : Int32) (zh : PH) : Option (Int32 × PH) :=
  some (zs0, zh)
def f_X12_whyNot_92 (N : Nat) (zv0 : Nat) (zh : PH) : Option (Int32 × PH) :=
  gg (gIs 12 zv0 zh) <|
  gc (f_X12_events N zv0 zh) fun zt2 zh1 =>
  if (zt2 : Int32) = 100 then (
  f_X12_whyNot_106 N 5 zh1)
  else (
  f_X12_whyNot_106 N 0 zh1)
def f_X12_whyNot_69 (N : Nat) (zv0 : Nat) (zv3 : Int32) (zs0 : Int32) (zh : PH) : Option (Int32 × PH) :=
  if (zs0 : Int32) = zv3 then (
  if (zv3 : Int32) = 0 then (
  gg (gIs 12 zv0 zh) <|
  gc (f_X12_firstEmpty N zv0 zh) fun zt4 zh3 =>
  gg (gIs 12 zv0 zh3) <|
  gc (f_X12_rooms N zv0 zh3) fun zt6 zh5 =>
  if (zt4 : Int32) = zt6 then (
  some (4, zh5))
  else (
  f_X12_whyNot_92 N zv0 zh5))
  else (
  f_X12_whyNot_92 N zv0 zh))
  else (
  some (3, zh))
def f_X12_whyNot_54 (N : Nat) (zh : PH) : Option (Int32 × PH) :=
  some (2, zh)
def f_X12_whyNot_39 (N : Nat) (zv0 : Nat) (zv1 : Int32) (zv2 : Int32) (zv3 : Int32) (zs0 : Int32) (zh : PH) : Option (Int32 × PH) :=
  gc (f_X12_isTold N zv2 zh) fun zt2 zh1 =>
  if (zt2 : Int32) = 0 then (
  f_X12_whyNot_54 N  zh1)
  else (
  if (zs0 : Int32) ≤ zv2 then (
  gg (gIs 12 zv0 zh1) <|
  gc (f_X12_roomNow N zv0 zv1 zh1) fun zt6 zh5 =>
  if (zt6 : Int32) < 0 then (
  f_X12_whyNot_69 N zv0 zv3 0 zh5)
  else (
  f_X12_whyNot_69 N zv0 zv3 1 zh5))
  else (
  f_X12_whyNot_54 N  zh1))
def f_X12_whyNot_15 (N : Nat) (zh : PH) : Option (Int32 × PH) :=
  some (1, zh)
def f_X12_whyNot (N : Nat) (za0 : Nat) (za1 : Int32) (za2 : Int32) (za3 : Int32) (zh : PH) : Option (Int32 × PH) :=
  gg (gIs 12 za0 zh) <|
  gc (f_X12_isGuest N za0 za1 zh) fun zt2 zh1 =>
  if (zt2 : Int32) = 0 then (
  f_X12_whyNot_15 N  zh1)
  else (
  gg (gIs 12 za0 zh1) <|
  gc (f_X12_rooms N za0 zh1) fun zt5 zh4 =>
  if (zt5 : Int32) = 0 then (
  f_X12_whyNot_15 N  zh4)
  else (
  gg (gIs 12 za0 zh4) <|
  gc (f_X12_events N za0 zh4) fun zt8 zh7 =>
  if (zt8 : Int32) = 0 then (
  f_X12_whyNot_39 N za0 za1 za2 za3 0 zh7)
  else (
  gg (gIs 12 za0 zh7) <|
  gc (f_X12_events N za0 zh7) fun zt11 zh10 =>
  gg (gIs 12 za0 zh10) <|
  gc (f_X12_eventOf N za0 (zt11 - 1) 2 zh10) fun zt13 zh12 =>
  f_X12_whyNot_39 N za0 za1 za2 za3 zt13 zh12)))
def f_X12_booked (N : Nat) (za0 : Nat) (zh : PH) : Option (Int32 × PH) :=
  gb (gfR 12 17 za0 zh) fun zt1 =>
  gb (arI 0 zt1 495 zh) fun zt2 =>
  some (zt2, zh)
def f_X12_unbooks_48 (N : Nat) (zk4 : (Nat × Int32 × Int32 × Int32 × PH) → Option PH) (zv0 : Nat) (zv1 : Int32) (zv3 : Int32) (zs0 : Int32) (zs1 : Int32) (zh : PH) : Option PH :=
  gl ((zs1 + zs0)) fun (zx1 : Int32) =>
  gl (zv3 + 1) fun (zx2 : Int32) =>
  zk4 (zv0, zv1, zx1, zx2, zh)
def f_X12_unbooks_4 (N : Nat) (zk4 : (Nat × Int32 × Int32 × Int32 × PH) → Option PH) (zv0 : Nat) (zv1 : Int32) (zv2 : Int32) (zv3 : Int32) (zh : PH) : Option PH :=
  gg (gIs 12 zv0 zh) <|
  gc (f_X12_booked N zv0 zh) fun zt2 zh1 =>
  if (zt2 : Int32) ≤ zv3 then (
  gb (gfR 12 17 zv0 zh1) fun zt4 =>
  gb (asI 0 zt4 495 zv2 zh1) fun zh5 =>
  some zh5)
  else (
  gb (gfR 12 17 zv0 zh1) fun zt6 =>
  gb (arI 0 zt6 (496 + zv3) zh1) fun zt7 =>
  gb (gfR 12 17 zv0 zh1) fun zt8 =>
  gb (asI 0 zt8 (496 + zv2) zt7 zh1) fun zh9 =>
  if (zt7 : Int32) = zv1 then (
  f_X12_unbooks_48 N zk4 zv0 zv1 zv3 0 zv2 zh9)
  else (
  f_X12_unbooks_48 N zk4 zv0 zv1 zv3 1 zv2 zh9))
def f_X12_unbooks (N : Nat) (za0 : Nat) (za1 : Int32) (zh : PH) : Option PH :=
  gi (fun zk zs => f_X12_unbooks_4 N zk zs.1 zs.2.1 zs.2.2.1 zs.2.2.2.1 zs.2.2.2.2) N (za0, za1, 0, 0, zh)
def f_X12_tells_107 (N : Nat) (zh : PH) : Option (Int32 × PH) :=
  some (0, zh)
def f_X12_tells_57 (N : Nat) (zv0 : Nat) (zv1 : Int32) (zv2 : Int32) (zv3 : Int32) (zv5 : Int32) (zs0 : Int32) (zs1 : Int32) (zs2 : Nat) (zh : PH) : Option (Int32 × PH) :=
  gb (asI 0 zs2 zs1 zs0 zh) fun zh1 =>
  gb (gfR 12 17 zv0 zh1) fun zt2 =>
  gb (asI 0 zt2 (zv5 + 2) zv2 zh1) fun zh3 =>
  gb (gfR 12 17 zv0 zh3) fun zt4 =>
  gb (gfR 12 17 zv0 zh3) fun zt5 =>
  gb (arI 0 zt5 0 zh3) fun zt6 =>
  gb (asI 0 zt4 (zv5 + 3) zt6 zh3) fun zh7 =>
  gb (gfR 12 17 zv0 zh7) fun zt8 =>
  gb (arI 0 zt8 1 zh7) fun zt9 =>
  gb (asI 0 zt8 1 (zt9 + 1) zh7) fun zh10 =>
  gb (pfV 12 18 zv0 (.int 1) zh10) fun zh11 =>
  if (zv3 : Int32) = 0 then (
  gg (gIs 12 zv0 zh11) <|
  gb (f_X12_unbooks N zv0 zv1 zh11) fun zh13 =>
  f_X12_tells_107 N  zh13)
  else (
  f_X12_tells_107 N  zh11)
def f_X12_tells (N : Nat) (za0 : Nat) (za1 : Int32) (za2 : Int32) (za3 : Int32) (zh : PH) : Option (Int32 × PH) :=
  gb (pfV 12 0 za0 (.int 0) zh) fun zh1 =>
  gg (gIs 12 za0 zh1) <|
  gc (f_X12_whyNot N za0 za1 za2 za3 zh1) fun zt3 zh2 =>
  if (zt3 : Int32) ≤ 0 then (
  gg (gIs 12 za0 zh2) <|
  gc (f_X12_events N za0 zh2) fun zt6 zh5 =>
  gl ((2 + (4 * zt6))) fun (zx7 : Int32) =>
  gb (gfR 12 17 za0 zh5) fun zt8 =>
  gb (asI 0 zt8 zx7 za1 zh5) fun zh9 =>
  gb (gfR 12 17 za0 zh9) fun zt10 =>
  if (za3 : Int32) = 0 then (
  f_X12_tells_57 N za0 za1 za2 za3 zx7 0 (zx7 + 1) zt10 zh9)
  else (
  f_X12_tells_57 N za0 za1 za2 za3 zx7 1 (zx7 + 1) zt10 zh9))
  else (
  some (zt3, zh2))
def f_X12_come (N : Nat) (za0 : Nat) (za1 : Int32) (za2 : Int32) (zh : PH) : Option (Int32 × PH) :=
  gg (gIs 12 za0 zh) <|
  gc (f_X12_tells N za0 za1 za2 0 zh) fun zt2 zh1 =>
  some (zt2, zh1)
def f_X12_leave (N : Nat) (za0 : Nat) (za1 : Int32) (za2 : Int32) (zh : PH) : Option (Int32 × PH) :=
  gg (gIs 12 za0 zh) <|
  gc (f_X12_tells N za0 za1 za2 1 zh) fun zt2 zh1 =>
  some (zt2, zh1)
def f_X12_over (N : Nat) (za0 : Nat) (zh : PH) : Option (Int32 × PH) :=
  gb (pfV 12 0 za0 (.int 0) zh) fun zh1 =>
  gg (gIs 12 za0 zh1) <|
  gb (f_X12_find N za0 zh1) fun zh2 =>
  gb (gfI 12 27 za0 zh2) fun zt3 =>
  some (zt3, zh2)
def f_X12_sum (N : Nat) (za0 : Nat) (za1 : Int32) (zh : PH) : Option (Int32 × PH) :=
  gb (pfV 12 0 za0 (.int 0) zh) fun zh1 =>
  gg (gIs 12 za0 zh1) <|
  gb (f_X12_find N za0 zh1) fun zh2 =>
  if (za1 : Int32) = 0 then (
  gb (gfI 12 23 za0 zh2) fun zt4 =>
  some (zt4, zh2))
  else (
  if (za1 : Int32) = 1 then (
  gb (gfI 12 24 za0 zh2) fun zt6 =>
  some (zt6, zh2))
  else (
  if (za1 : Int32) = 2 then (
  gb (gfI 12 25 za0 zh2) fun zt8 =>
  some (zt8, zh2))
  else (
  if (za1 : Int32) = 3 then (
  gb (gfI 12 26 za0 zh2) fun zt10 =>
  some (zt10, zh2))
  else (
  some ((-1), zh2)))))
def f_X12_placeAt_72 (N : Nat) (zk5 : (Nat × Int32 × Int32 × Int32 × Int32 × PH) → Option (Int32 × PH)) (zv0 : Nat) (zv1 : Int32) (zv2 : Int32) (zv3 : Int32) (zv4 : Int32) (zh : PH) : Option (Int32 × PH) :=
  gl (zv4 + 1) fun (zx1 : Int32) =>
  zk5 (zv0, zv1, zv2, zv3, zx1, zh)
def f_X12_placeAt_71 (N : Nat) (zk5 : (Nat × Int32 × Int32 × Int32 × Int32 × PH) → Option (Int32 × PH)) (zv0 : Nat) (zv1 : Int32) (zv2 : Int32) (zv4 : Int32) (zs0 : Int32) (zh : PH) : Option (Int32 × PH) :=
  f_X12_placeAt_72 N zk5 zv0 zv1 zv2 zs0 zv4 zh
def f_X12_placeAt_5 (N : Nat) (zk5 : (Nat × Int32 × Int32 × Int32 × Int32 × PH) → Option (Int32 × PH)) (zv0 : Nat) (zv1 : Int32) (zv2 : Int32) (zv3 : Int32) (zv4 : Int32) (zh : PH) : Option (Int32 × PH) :=
  gb (gfI 12 28 zv0 zh) fun zt1 =>
  if (zt1 : Int32) ≤ zv4 then (
  some (zv3, zh))
  else (
  gl ((5 * zv4)) fun (zx3 : Int32) =>
  gb (gfR 12 29 zv0 zh) fun zt4 =>
  gb (arI 0 zt4 zx3 zh) fun zt5 =>
  if (zt5 : Int32) = zv1 then (
  gb (gfR 12 29 zv0 zh) fun zt7 =>
  gb (arI 0 zt7 (zx3 + 3) zh) fun zt8 =>
  if (zv2 : Int32) < zt8 then (
  f_X12_placeAt_72 N zk5 zv0 zv1 zv2 zv3 zv4 zh)
  else (
  gb (gfR 12 29 zv0 zh) fun zt10 =>
  gb (arI 0 zt10 (zx3 + 4) zh) fun zt11 =>
  if (zt11 : Int32) ≤ zv2 then (
  gb (gfR 12 29 zv0 zh) fun zt13 =>
  gb (arI 0 zt13 (zx3 + 2) zh) fun zt14 =>
  f_X12_placeAt_71 N zk5 zv0 zv1 zv2 zv4 zt14 zh)
  else (
  f_X12_placeAt_71 N zk5 zv0 zv1 zv2 zv4 (-2) zh)))
  else (
  f_X12_placeAt_72 N zk5 zv0 zv1 zv2 zv3 zv4 zh))
def f_X12_placeAt (N : Nat) (za0 : Nat) (za1 : Int32) (za2 : Int32) (zh : PH) : Option (Int32 × PH) :=
  gi (fun zk zs => f_X12_placeAt_5 N zk zs.1 zs.2.1 zs.2.2.1 zs.2.2.2.1 zs.2.2.2.2.1 zs.2.2.2.2.2) N (za0, za1, za2, (-1), 0, zh)
def f_X12_where_20 (N : Nat) (zh : PH) : Option (Int32 × PH) :=
  some ((-3), zh)
def f_X12_where (N : Nat) (za0 : Nat) (za1 : Int32) (za2 : Int32) (zh : PH) : Option (Int32 × PH) :=
  gb (pfV 12 0 za0 (.int 0) zh) fun zh1 =>
  gg (gIs 12 za0 zh1) <|
  gc (f_X12_isGuest N za0 za1 zh1) fun zt3 zh2 =>
  if (zt3 : Int32) = 0 then (
  f_X12_where_20 N  zh2)
  else (
  gc (f_X12_isMinute N za2 zh2) fun zt6 zh5 =>
  if (zt6 : Int32) = 0 then (
  f_X12_where_20 N  zh5)
  else (
  gg (gIs 12 za0 zh5) <|
  gb (f_X12_find N za0 zh5) fun zh8 =>
  gg (gIs 12 za0 zh8) <|
  gc (f_X12_placeAt N za0 za1 za2 zh8) fun zt10 zh9 =>
  some (zt10, zh9)))
def f_X12_whoAt_2 (N : Nat) (zk2 : (Nat × Int32 × Int32 × Int32 × PH) → Option (Int32 × PH)) (zv0 : Nat) (zv1 : Int32) (zv2 : Int32) (zv3 : Int32) (zh : PH) : Option (Int32 × PH) :=
  gg (gIs 12 zv0 zh) <|
  gc (f_X12_guests N zv0 zh) fun zt2 zh1 =>
  if (zt2 : Int32) ≤ zv3 then (
  some ((-1), zh1))
  else (
  gg (gIs 12 zv0 zh1) <|
  gc (f_X12_placeAt N zv0 zv3 zv2 zh1) fun zt5 zh4 =>
  if (zt5 : Int32) = zv1 then (
  some (zv3, zh4))
  else (
  gl (zv3 + 1) fun (zx7 : Int32) =>
  zk2 (zv0, zv1, zv2, zx7, zh4)))
def f_X12_whoAt (N : Nat) (za0 : Nat) (za1 : Int32) (za2 : Int32) (zh : PH) : Option (Int32 × PH) :=
  gi (fun zk zs => f_X12_whoAt_2 N zk zs.1 zs.2.1 zs.2.2.1 zs.2.2.2.1 zs.2.2.2.2) N (za0, za1, za2, 0, zh)
def f_X12_who_20 (N : Nat) (zh : PH) : Option (Int32 × PH) :=
  some ((-1), zh)
def f_X12_who (N : Nat) (za0 : Nat) (za1 : Int32) (za2 : Int32) (zh : PH) : Option (Int32 × PH) :=
  gb (pfV 12 0 za0 (.int 0) zh) fun zh1 =>
  gg (gIs 12 za0 zh1) <|
  gc (f_X12_isRoom N za0 za1 zh1) fun zt3 zh2 =>
  if (zt3 : Int32) = 0 then (
  f_X12_who_20 N  zh2)
  else (
  gc (f_X12_isMinute N za2 zh2) fun zt6 zh5 =>
  if (zt6 : Int32) = 0 then (
  f_X12_who_20 N  zh5)
  else (
  gg (gIs 12 za0 zh5) <|
  gb (f_X12_find N za0 zh5) fun zh8 =>
  gg (gIs 12 za0 zh8) <|
  gc (f_X12_whoAt N za0 za1 za2 zh8) fun zt10 zh9 =>
  some (zt10, zh9)))
def f_X12_letter_62 (N : Nat) (zs0 : Int32) (zh : PH) : Option (Int32 × PH) :=
  some (zs0, zh)
def f_X12_letter_32 (N : Nat) (zh : PH) : Option (Int32 × PH) :=
  some ((-1), zh)
def f_X12_letter (N : Nat) (za0 : Nat) (za1 : Int32) (za2 : Int32) (za3 : Int32) (zh : PH) : Option (Int32 × PH) :=
  gb (pfV 12 0 za0 (.int 0) zh) fun zh1 =>
  gg (gIs 12 za0 zh1) <|
  gc (f_X12_isGuest N za0 za1 zh1) fun zt3 zh2 =>
  if (zt3 : Int32) = 0 then (
  f_X12_letter_32 N  zh2)
  else (
  gc (f_X12_isMinute N za2 zh2) fun zt6 zh5 =>
  if (zt6 : Int32) = 0 then (
  f_X12_letter_32 N  zh5)
  else (
  gc (f_X12_isMinute N za3 zh5) fun zt9 zh8 =>
  if (zt9 : Int32) = 0 then (
  f_X12_letter_32 N  zh8)
  else (
  if (za2 : Int32) ≤ za3 then (
  gg (gIs 12 za0 zh8) <|
  gb (f_X12_find N za0 zh8) fun zh12 =>
  gg (gIs 12 za0 zh12) <|
  gc (f_X12_placeAt N za0 za1 za2 zh12) fun zt14 zh13 =>
  if (0 : Int32) ≤ zt14 then (
  gg (gIs 12 za0 zh13) <|
  gc (f_X12_whoAt N za0 zt14 za3 zh13) fun zt17 zh16 =>
  f_X12_letter_62 N zt17 zh16)
  else (
  f_X12_letter_62 N (-1) zh13))
  else (
  f_X12_letter_32 N  zh8))))
def f_X12_stays_4 (N : Nat) (zk4 : (Nat × Int32 × Int32 × PH) → Option (Int32 × PH)) (zv0 : Nat) (zv1 : Int32) (zv2 : Int32) (zh : PH) : Option (Int32 × PH) :=
  gb (gfI 12 28 zv0 zh) fun zt1 =>
  if (zt1 : Int32) ≤ zv2 then (
  some (100000000, zh))
  else (
  gb (gfR 12 29 zv0 zh) fun zt3 =>
  gb (arI 0 zt3 (5 * zv2) zh) fun zt4 =>
  gb (gfR 12 29 zv0 zh) fun zt5 =>
  gb (arI 0 zt5 (5 * zv1) zh) fun zt6 =>
  if (zt4 : Int32) = zt6 then (
  gb (gfR 12 29 zv0 zh) fun zt9 =>
  gb (arI 0 zt9 ((5 * zv2) + 3) zh) fun zt10 =>
  some (zt10, zh))
  else (
  gl (zv2 + 1) fun (zx8 : Int32) =>
  zk4 (zv0, zv1, zx8, zh)))
def f_X12_stays (N : Nat) (za0 : Nat) (za1 : Int32) (zh : PH) : Option (Int32 × PH) :=
  gl ((za1 + 1)) fun (zx1 : Int32) =>
  gi (fun zk zs => f_X12_stays_4 N zk zs.1 zs.2.1 zs.2.2.1 zs.2.2.2) N (za0, za1, zx1, zh)
def f_X12_trunk_153 (N : Nat) (zk44 : (Nat × Int32 × Int32 × Int32 × Int32 × Int32 × PH) → Option (Int32 × PH)) (zv0 : Nat) (zv1 : Int32) (zv2 : Int32) (zv3 : Int32) (zv4 : Int32) (zv5 : Int32) (zh : PH) : Option (Int32 × PH) :=
  gl (zv5 + 1) fun (zx1 : Int32) =>
  zk44 (zv0, zv1, zv2, zv3, zv4, zx1, zh)
def f_X12_trunk_150 (N : Nat) (zk44 : (Nat × Int32 × Int32 × Int32 × Int32 × Int32 × PH) → Option (Int32 × PH)) (zv0 : Nat) (zv1 : Int32) (zv2 : Int32) (zv3 : Int32) (zv5 : Int32) (zs0 : Int32) (zs1 : Int32) (zh : PH) : Option (Int32 × PH) :=
  gl ((zs1 ||| zs0)) fun (zx1 : Int32) =>
  f_X12_trunk_153 N zk44 zv0 zv1 zv2 zv3 zx1 zv5 zh
def f_X12_trunk_124 (N : Nat) (zk44 : (Nat × Int32 × Int32 × Int32 × Int32 × Int32 × PH) → Option (Int32 × PH)) (zv0 : Nat) (zv1 : Int32) (zv2 : Int32) (zv3 : Int32) (zv4 : Int32) (zv5 : Int32) (zv6 : Int32) (zs0 : Int32) (zh : PH) : Option (Int32 × PH) :=
  if (zs0 : Int32) < zv6 then (
  f_X12_trunk_150 N zk44 zv0 zv1 zv2 zv3 zv5 0 zv4 zh)
  else (
  gb (gfR 12 29 zv0 zh) fun zt2 =>
  gb (arI 0 zt2 (5 * zv5) zh) fun zt3 =>
  f_X12_trunk_150 N zk44 zv0 zv1 zv2 zv3 zv5 (1 <<< (zt3 &&& 31)) zv4 zh)
def f_X12_trunk_98 (N : Nat) (zk44 : (Nat × Int32 × Int32 × Int32 × Int32 × Int32 × PH) → Option (Int32 × PH)) (zv0 : Nat) (zv1 : Int32) (zv2 : Int32) (zv3 : Int32) (zv4 : Int32) (zv5 : Int32) (zs0 : Int32) (zh : PH) : Option (Int32 × PH) :=
  gg (gIs 12 zv0 zh) <|
  gc (f_X12_stays N zv0 zv5 zh) fun zt2 zh1 =>
  if (zv3 : Int32) ≤ (zt2 - 1) then (
  f_X12_trunk_124 N zk44 zv0 zv1 zv2 zv3 zv4 zv5 zs0 zv3 zh1)
  else (
  gg (gIs 12 zv0 zh1) <|
  gc (f_X12_stays N zv0 zv5 zh1) fun zt5 zh4 =>
  f_X12_trunk_124 N zk44 zv0 zv1 zv2 zv3 zv4 zv5 zs0 (zt5 - 1) zh4)
def f_X12_trunk_44 (N : Nat) (zk44 : (Nat × Int32 × Int32 × Int32 × Int32 × Int32 × PH) → Option (Int32 × PH)) (zv0 : Nat) (zv1 : Int32) (zv2 : Int32) (zv3 : Int32) (zv4 : Int32) (zv5 : Int32) (zh : PH) : Option (Int32 × PH) :=
  gb (gfI 12 28 zv0 zh) fun zt1 =>
  if (zt1 : Int32) ≤ zv5 then (
  some (zv4, zh))
  else (
  gb (gfR 12 29 zv0 zh) fun zt3 =>
  gb (arI 0 zt3 ((5 * zv5) + 2) zh) fun zt4 =>
  if (zt4 : Int32) = zv1 then (
  gb (gfR 12 29 zv0 zh) fun zt6 =>
  gb (arI 0 zt6 ((5 * zv5) + 4) zh) fun zt7 =>
  if (zv2 : Int32) ≤ zt7 then (
  gb (gfR 12 29 zv0 zh) fun zt9 =>
  gb (arI 0 zt9 ((5 * zv5) + 4) zh) fun zt10 =>
  f_X12_trunk_98 N zk44 zv0 zv1 zv2 zv3 zv4 zv5 zt10 zh)
  else (
  f_X12_trunk_98 N zk44 zv0 zv1 zv2 zv3 zv4 zv5 zv2 zh))
  else (
  f_X12_trunk_153 N zk44 zv0 zv1 zv2 zv3 zv4 zv5 zh))
def f_X12_trunk_32 (N : Nat) (zh : PH) : Option (Int32 × PH) :=
  some ((-1), zh)
def f_X12_trunk (N : Nat) (za0 : Nat) (za1 : Int32) (za2 : Int32) (za3 : Int32) (zh : PH) : Option (Int32 × PH) :=
  gb (pfV 12 0 za0 (.int 0) zh) fun zh1 =>
  gg (gIs 12 za0 zh1) <|
  gc (f_X12_isRoom N za0 za1 zh1) fun zt3 zh2 =>
  if (zt3 : Int32) = 0 then (
  f_X12_trunk_32 N  zh2)
  else (
  gc (f_X12_isMinute N za2 zh2) fun zt6 zh5 =>
  if (zt6 : Int32) = 0 then (
  f_X12_trunk_32 N  zh5)
  else (
  gc (f_X12_isMinute N za3 zh5) fun zt9 zh8 =>
  if (zt9 : Int32) = 0 then (
  f_X12_trunk_32 N  zh8)
  else (
  if (za2 : Int32) ≤ za3 then (
  gg (gIs 12 za0 zh8) <|
  gb (f_X12_find N za0 zh8) fun zh12 =>
  gi (fun zk zs => f_X12_trunk_44 N zk zs.1 zs.2.1 zs.2.2.1 zs.2.2.2.1 zs.2.2.2.2.1 zs.2.2.2.2.2.1 zs.2.2.2.2.2.2) N (za0, za1, za2, za3, 0, 0, zh12))
  else (
  f_X12_trunk_32 N  zh8))))
def f_X12_sights (N : Nat) (za0 : Nat) (zh : PH) : Option (Int32 × PH) :=
  gb (gfR 12 17 za0 zh) fun zt1 =>
  gb (arI 0 zt1 402 zh) fun zt2 =>
  some (zt2, zh)
def f_X12_sightOf (N : Nat) (za0 : Nat) (za1 : Int32) (za2 : Int32) (zh : PH) : Option (Int32 × PH) :=
  gb (gfR 12 17 za0 zh) fun zt1 =>
  gb (arI 0 zt1 ((403 + (3 * za1)) + za2) zh) fun zt2 =>
  some (zt2, zh)
def f_X12_walk_14 (N : Nat) (zv0 : Nat) (zv1 : Int32) (zv2 : Int32) (zs0 : Int32) (zh : PH) : Option (Int32 × PH) :=
  gg (gIs 12 zv0 zh) <|
  gc (f_X12_floors N zv0 zv1 zv2 zh) fun zt2 zh1 =>
  some ((zs0 + (2 * zt2)), zh1)
def f_X12_walk (N : Nat) (za0 : Nat) (za1 : Int32) (za2 : Int32) (zh : PH) : Option (Int32 × PH) :=
  if (za2 : Int32) ≤ za1 then (
  f_X12_walk_14 N za0 za1 za2 (za1 - za2) zh)
  else (
  f_X12_walk_14 N za0 za1 za2 (za2 - za1) zh)
def f_X12_apart_14 (N : Nat) (zs0 : Int32) (zh : PH) : Option (Int32 × PH) :=
  some (zs0, zh)
def f_X12_apart (N : Nat) (za0 : Int32) (za1 : Int32) (zh : PH) : Option (Int32 × PH) :=
  if (za1 : Int32) ≤ za0 then (
  f_X12_apart_14 N (za0 - za1) zh)
  else (
  f_X12_apart_14 N (za1 - za0) zh)
def f_X12_sight_37 (N : Nat) (zh : PH) : Option (Int32 × PH) :=
  some ((-1), zh)
def f_X12_sight (N : Nat) (za0 : Nat) (za1 : Int32) (za2 : Int32) (za3 : Int32) (zh : PH) : Option (Int32 × PH) :=
  gb (pfV 12 0 za0 (.int 0) zh) fun zh1 =>
  gg (gIs 12 za0 zh1) <|
  gc (f_X12_isGuest N za0 za1 zh1) fun zt3 zh2 =>
  if (zt3 : Int32) = 0 then (
  f_X12_sight_37 N  zh2)
  else (
  gg (gIs 12 za0 zh2) <|
  gc (f_X12_isRoom N za0 za2 zh2) fun zt6 zh5 =>
  if (zt6 : Int32) = 0 then (
  f_X12_sight_37 N  zh5)
  else (
  gc (f_X12_isTold N za3 zh5) fun zt9 zh8 =>
  if (zt9 : Int32) = 0 then (
  f_X12_sight_37 N  zh8)
  else (
  gg (gIs 12 za0 zh8) <|
  gc (f_X12_sights N za0 zh8) fun zt12 zh11 =>
  if (zt12 : Int32) = 20 then (
  f_X12_sight_37 N  zh11)
  else (
  gg (gIs 12 za0 zh11) <|
  gc (f_X12_sights N za0 zh11) fun zt15 zh14 =>
  gl ((403 + (3 * zt15))) fun (zx16 : Int32) =>
  gb (gfR 12 17 za0 zh14) fun zt17 =>
  gb (asI 0 zt17 zx16 za1 zh14) fun zh18 =>
  gb (gfR 12 17 za0 zh18) fun zt19 =>
  gb (asI 0 zt19 (zx16 + 1) za2 zh18) fun zh20 =>
  gb (gfR 12 17 za0 zh20) fun zt21 =>
  gb (asI 0 zt21 (zx16 + 2) za3 zh20) fun zh22 =>
  gb (gfR 12 17 za0 zh22) fun zt23 =>
  gb (arI 0 zt23 402 zh22) fun zt24 =>
  gb (asI 0 zt23 402 (zt24 + 1) zh22) fun zh25 =>
  gg (gIs 12 za0 zh25) <|
  gc (f_X12_sights N za0 zh25) fun zt27 zh26 =>
  some (zt27, zh26)))))
def f_X12_could_97 (N : Nat) (zk34 : (Nat × Int32 × Int32 × Int32 × Int32 × PH) → Option (Int32 × PH)) (zv0 : Nat) (zv1 : Int32) (zv2 : Int32) (zv4 : Int32) (zs0 : Int32) (zs1 : Int32) (zh : PH) : Option (Int32 × PH) :=
  gl ((zs1 &&& zs0)) fun (zx1 : Int32) =>
  gl (zv4 + 1) fun (zx2 : Int32) =>
  zk34 (zv0, zv1, zv2, zx1, zx2, zh)
def f_X12_could_74 (N : Nat) (zk34 : (Nat × Int32 × Int32 × Int32 × Int32 × PH) → Option (Int32 × PH)) (zv0 : Nat) (zv1 : Int32) (zv2 : Int32) (zv3 : Int32) (zv4 : Int32) (zs0 : Int32) (zh : PH) : Option (Int32 × PH) :=
  if (zs0 : Int32) = 0 then (
  gg (gIs 12 zv0 zh) <|
  gc (f_X12_sightOf N zv0 zv4 0 zh) fun zt3 zh2 =>
  f_X12_could_97 N zk34 zv0 zv1 zv2 zv4 ((1 <<< (zt3 &&& 31)) ^^^ (-1)) zv3 zh2)
  else (
  f_X12_could_97 N zk34 zv0 zv1 zv2 zv4 (-1) zv3 zh)
def f_X12_could_34 (N : Nat) (zk34 : (Nat × Int32 × Int32 × Int32 × Int32 × PH) → Option (Int32 × PH)) (zv0 : Nat) (zv1 : Int32) (zv2 : Int32) (zv3 : Int32) (zv4 : Int32) (zh : PH) : Option (Int32 × PH) :=
  gg (gIs 12 zv0 zh) <|
  gc (f_X12_sights N zv0 zh) fun zt2 zh1 =>
  if (zt2 : Int32) ≤ zv4 then (
  some (zv3, zh1))
  else (
  gg (gIs 12 zv0 zh1) <|
  gc (f_X12_sightOf N zv0 zv4 1 zh1) fun zt5 zh4 =>
  gg (gIs 12 zv0 zh4) <|
  gc (f_X12_walk N zv0 zt5 zv1 zh4) fun zt7 zh6 =>
  gg (gIs 12 zv0 zh6) <|
  gc (f_X12_sightOf N zv0 zv4 2 zh6) fun zt9 zh8 =>
  gc (f_X12_apart N zt9 zv2 zh8) fun zt11 zh10 =>
  if (zt11 : Int32) < zt7 then (
  f_X12_could_74 N zk34 zv0 zv1 zv2 zv3 zv4 0 zh10)
  else (
  f_X12_could_74 N zk34 zv0 zv1 zv2 zv3 zv4 1 zh10))
def f_X12_could_20 (N : Nat) (zh : PH) : Option (Int32 × PH) :=
  some ((-1), zh)
def f_X12_could (N : Nat) (za0 : Nat) (za1 : Int32) (za2 : Int32) (zh : PH) : Option (Int32 × PH) :=
  gb (pfV 12 0 za0 (.int 0) zh) fun zh1 =>
  gg (gIs 12 za0 zh1) <|
  gc (f_X12_isRoom N za0 za1 zh1) fun zt3 zh2 =>
  if (zt3 : Int32) = 0 then (
  f_X12_could_20 N  zh2)
  else (
  gc (f_X12_isTold N za2 zh2) fun zt6 zh5 =>
  if (zt6 : Int32) = 0 then (
  f_X12_could_20 N  zh5)
  else (
  gg (gIs 12 za0 zh5) <|
  gc (f_X12_guests N za0 zh5) fun zt9 zh8 =>
  gl (((1 <<< (zt9 &&& 31)) - 1)) fun (zx10 : Int32) =>
  gi (fun zk zs => f_X12_could_34 N zk zs.1 zs.2.1 zs.2.2.1 zs.2.2.2.1 zs.2.2.2.2.1 zs.2.2.2.2.2) N (za0, za1, za2, zx10, 0, zh8)))
def f_X12_areUnlike_54 (N : Nat) (zs0 : Int32) (zh : PH) : Option (Int32 × PH) :=
  gg (gzb zs0) (some (zs0, zh))
def f_X12_areUnlike_53 (N : Nat) (zh : PH) : Option (Int32 × PH) :=
  f_X12_areUnlike_54 N 0 zh
def f_X12_areUnlike (N : Nat) (za0 : Nat) (za1 : Int32) (za2 : Int32) (zh : PH) : Option (Int32 × PH) :=
  gg (gIs 12 za0 zh) <|
  gc (f_X12_sightOf N za0 za1 0 zh) fun zt2 zh1 =>
  gg (gIs 12 za0 zh1) <|
  gc (f_X12_sightOf N za0 za2 0 zh1) fun zt4 zh3 =>
  if (zt2 : Int32) = zt4 then (
  gg (gIs 12 za0 zh3) <|
  gc (f_X12_sightOf N za0 za1 1 zh3) fun zt7 zh6 =>
  gg (gIs 12 za0 zh6) <|
  gc (f_X12_sightOf N za0 za2 1 zh6) fun zt9 zh8 =>
  gg (gIs 12 za0 zh8) <|
  gc (f_X12_walk N za0 zt7 zt9 zh8) fun zt11 zh10 =>
  gg (gIs 12 za0 zh10) <|
  gc (f_X12_sightOf N za0 za1 2 zh10) fun zt13 zh12 =>
  gg (gIs 12 za0 zh12) <|
  gc (f_X12_sightOf N za0 za2 2 zh12) fun zt15 zh14 =>
  gc (f_X12_apart N zt13 zt15 zh14) fun zt17 zh16 =>
  if (zt11 : Int32) ≤ zt17 then (
  f_X12_areUnlike_53 N  zh16)
  else (
  f_X12_areUnlike_54 N 1 zh16))
  else (
  f_X12_areUnlike_53 N  zh3)
abbrev rm_X12_gives : Room := { frames := 7, cells := 0, slots := 0, locals := 161 }
set_option maxHeartbeats 4000000 in
set_option maxRecDepth 100000 in
theorem c_X12_gives (l : Launch) (E : gE) (N : Nat) (za0 : Nat) (za1 : Int32) (za2 : Int32) (za3 : Int32) (zh : PH) {h9 : PH} {r9 : Int32} (hf : f_X12_gives N za0 za1 za2 za3 zh = some (r9, h9)) : Met l yX12_gives (gWS yX12_gives cX12_gives 5 (some .int)) rm_X12_gives (gPc E [.ref (gB E + za0), .int za1, .int za2, .int za3] zh) (gQi E r9 h9) 0 0 (gA E) := by
  refine gx_met (by decide) ?_ rfl
  intro p e s m below meth c X hr hlk hin2 hw
  have hx := X.1.1
  have hb := X.1.2.1
  have hl := lv_entry [.ref (gB E + za0), .int za1, .int za2, .int za3] (n := 5) (Nat.le_of_ble_eq_true rfl)
  rw [lg_entry_eq]
  generalize (lg_sl [.ref (gB E + za0), .int za1, .int za2, .int za3] ++ List.replicate (5 - (lg_sl [.ref (gB E + za0), .int za1, .int za2, .int za3]).length) Slot.unset).toArray = ls at hl ⊢
  have hl : lv_has ls 5 [(0, .ref (gB E + za0)), (1, .int za1), (2, .int za2), (3, .int za3)] := hl
  have J_75 : ∀ (zs0 : Int32) (zh : PH) (H : Heap) (locs : List Loc) (ls : Array Slot), f_X12_gives_75 N zs0 zh = some (r9, h9) → gw E s zh H locs → lv_has ls 5 [] → W p l e rm_X12_gives s m [.ref (gB E + za0), .int za1, .int za2, .int za3].toArray below meth c H locs 0 0 (MQ below (gQi E r9 h9) [.ref (gB E + za0), .int za1, .int za2, .int za3].toArray s 0 0 (gA E)) (F0 m 75 ls [.int zs0]) := by
    intro zs0 zh H locs ls hf hw hl
    unfold f_X12_gives_75 at hf
    exact gx_iret X hr hlk hw hf dX12_gives_75
  have J_52 : ∀ (zv0 : Nat) (zv1 : Int32) (zv2 : Int32) (zv3 : Int32) (zv4 : Int32) (zs0 : Int32) (zs1 : Nat) (zh : PH) (H : Heap) (locs : List Loc) (ls : Array Slot), f_X12_gives_52 N zv0 zv1 zv2 zv3 zv4 zs0 zs1 zh = some (r9, h9) → gw E s zh H locs → lv_has ls 5 [(0, .ref (gB E + zv0)), (1, .int zv1), (2, .int zv2), (3, .int zv3), (4, .int zv4)] → W p l e rm_X12_gives s m [.ref (gB E + za0), .int za1, .int za2, .int za3].toArray below meth c H locs 0 0 (MQ below (gQi E r9 h9) [.ref (gB E + za0), .int za1, .int za2, .int za3].toArray s 0 0 (gA E)) (F0 m 52 ls [.int zs0, .ref (gB E + zs1)]) := by
    intro zv0 zv1 zv2 zv3 zv4 zs0 zs1 zh H locs ls hf hw hl
    unfold f_X12_gives_52 at hf
    obtain ⟨zh1, qzh1, hf⟩ := gb_el hf
    refine gx_putV X hw qzh1 clX12 (by decide) mf_X12_1 rfl rfl rfl dX12_gives_52 (fun H locs hw => ?_)
    refine lv_aload_n hx hb dX12_gives_55 rfl (lv_at hl 0 rfl) ?_
    obtain ⟨zt2, qzt2, hf⟩ := gb_el hf
    refine gx_getI X hw qzt2 clX12 (by decide) mf_X12_1 dX12_gives_56 ?_
    refine lv_if_le (tgt := 66) hx hb dX12_gives_59 (by decide) (fun qc3 => ?_) (fun qc3 => ?_)
    · have hf := gif_t hf qc3
      refine lv_aload_n hx hb dX12_gives_66 rfl (lv_at hl 0 rfl) ?_
      refine lv_iload_n hx hb dX12_gives_67 rfl (lv_at hl 1 rfl) ?_
      refine lv_iload_n hx hb dX12_gives_68 rfl (lv_at hl 2 rfl) ?_
      refine lv_iload hx hb dX12_gives_69 (lv_at hl 4 rfl) ?_
      refine lv_iload_n hx hb dX12_gives_71 rfl (lv_at hl 3 rfl) ?_
      refine W.eq (g2 := F0 m 72 ls [.int zv3, .int zv4, .int zv2, .int zv1, .ref (gB E + zv0)]) rfl ?_
      obtain ⟨qizh4, hf⟩ := gg_el hf
      obtain ⟨zt5, zh4, qzh4, hf⟩ := gc_el hf
      refine gx_ki (gx_runV (As := [.int zv1, .int zv2, .int zv4, .int zv3]) (rest := []) X hw (c_X12_givesFor l E N zv0 zv1 zv2 zv4 zv3 zh1 qzh4) kX12_givesFor mm_X12_277 qizh4 clX12 ⟨Nat.le_of_ble_eq_true rfl, Nat.le_of_ble_eq_true rfl⟩ rfl rfl rfl hl.1 (Nat.le_of_ble_eq_true rfl) rfl dX12_gives_72 ⟨Nat.le_of_ble_eq_true rfl, Nat.le_of_ble_eq_true rfl⟩) hw (fun H locs hw => ?_)
      exact J_75 zt5 _ _ _ ls hf hw (lv_sub hl [] rfl)
    · have hf := gif_f hf qc3
      refine lv_iconst (v := 0) hx hb dX12_gives_62 (by decide) ?_
      refine lv_goto (tgt := 75) hx hb dX12_gives_63 (by decide) ?_
      exact J_75 0 _ _ _ ls hf hw (lv_sub hl [] rfl)
  have J_51 : ∀ (zv0 : Nat) (zv1 : Int32) (zv2 : Int32) (zv3 : Int32) (zv4 : Int32) (zs0 : Nat) (zh : PH) (H : Heap) (locs : List Loc) (ls : Array Slot), f_X12_gives_51 N zv0 zv1 zv2 zv3 zv4 zs0 zh = some (r9, h9) → gw E s zh H locs → lv_has ls 5 [(0, .ref (gB E + zv0)), (1, .int zv1), (2, .int zv2), (3, .int zv3), (4, .int zv4)] → W p l e rm_X12_gives s m [.ref (gB E + za0), .int za1, .int za2, .int za3].toArray below meth c H locs 0 0 (MQ below (gQi E r9 h9) [.ref (gB E + za0), .int za1, .int za2, .int za3].toArray s 0 0 (gA E)) (F0 m 51 ls [.ref (gB E + zs0)]) := by
    intro zv0 zv1 zv2 zv3 zv4 zs0 zh H locs ls hf hw hl
    unfold f_X12_gives_51 at hf
    refine lv_iconst (v := 1) hx hb dX12_gives_51 (by decide) ?_
    exact J_52 zv0 zv1 zv2 zv3 zv4 1 zs0 _ _ _ ls hf hw (lv_sub hl [0, 1, 2, 3, 4] rfl)
  have J_33 : ∀ (zv0 : Nat) (zv1 : Int32) (zv2 : Int32) (zv3 : Int32) (zs0 : Int32) (zh : PH) (H : Heap) (locs : List Loc) (ls : Array Slot), f_X12_gives_33 N zv0 zv1 zv2 zv3 zs0 zh = some (r9, h9) → gw E s zh H locs → lv_has ls 5 [(0, .ref (gB E + zv0)), (1, .int zv1), (2, .int zv2), (3, .int zv3)] → W p l e rm_X12_gives s m [.ref (gB E + za0), .int za1, .int za2, .int za3].toArray below meth c H locs 0 0 (MQ below (gQi E r9 h9) [.ref (gB E + za0), .int za1, .int za2, .int za3].toArray s 0 0 (gA E)) (F0 m 33 ls [.int zs0]) := by
    intro zv0 zv1 zv2 zv3 zs0 zh H locs ls hf hw hl
    unfold f_X12_gives_33 at hf
    refine lv_istore (lv' := [(4, .int zs0), (0, .ref (gB E + zv0)), (1, .int zv1), (2, .int zv2), (3, .int zv3)]) hx hb dX12_gives_33 hl (by decide) rfl (fun ls hl => ?_)
    refine lv_aload_n hx hb dX12_gives_35 rfl (lv_at hl 1 rfl) ?_
    refine lv_iload hx hb dX12_gives_36 (lv_at hl 0 rfl) ?_
    refine lv_if_lt (tgt := 51) hx hb dX12_gives_38 (by decide) (fun qc1 => ?_) (fun qc1 => ?_)
    · have hf := gif_t hf qc1
      exact J_51 zv0 zv1 zv2 zv3 zs0 zv0 _ _ _ ls hf hw (lv_sub hl [1, 2, 3, 4, 0] rfl)
    · have hf := gif_f hf qc1
      refine lv_iload hx hb dX12_gives_41 (lv_at hl 0 rfl) ?_
      refine lv_iload_n hx hb dX12_gives_43 rfl (lv_at hl 4 rfl) ?_
      refine lv_icmp_eq (tgt := 51) hx hb dX12_gives_44 (by decide) (fun qc2 => ?_) (fun qc2 => ?_)
      · have hf := gif_t hf qc2
        exact J_51 zv0 zv1 zv2 zv3 zs0 zv0 _ _ _ ls hf hw (lv_sub hl [1, 2, 3, 4, 0] rfl)
      · have hf := gif_f hf qc2
        refine lv_iconst (v := 0) hx hb dX12_gives_47 (by decide) ?_
        refine lv_goto (tgt := 52) hx hb dX12_gives_48 (by decide) ?_
        exact J_52 zv0 zv1 zv2 zv3 zs0 0 zv0 _ _ _ ls hf hw (lv_sub hl [1, 2, 3, 4, 0] rfl)
  have J_32 : ∀ (zv0 : Nat) (zv1 : Int32) (zv2 : Int32) (zv3 : Int32) (zh : PH) (H : Heap) (locs : List Loc) (ls : Array Slot), f_X12_gives_32 N zv0 zv1 zv2 zv3 zh = some (r9, h9) → gw E s zh H locs → lv_has ls 5 [(0, .ref (gB E + zv0)), (1, .int zv1), (2, .int zv2), (3, .int zv3)] → W p l e rm_X12_gives s m [.ref (gB E + za0), .int za1, .int za2, .int za3].toArray below meth c H locs 0 0 (MQ below (gQi E r9 h9) [.ref (gB E + za0), .int za1, .int za2, .int za3].toArray s 0 0 (gA E)) (F0 m 32 ls []) := by
    intro zv0 zv1 zv2 zv3 zh H locs ls hf hw hl
    unfold f_X12_gives_32 at hf
    refine lv_iconst (v := (-1)) hx hb dX12_gives_32 (by decide) ?_
    exact J_33 zv0 zv1 zv2 zv3 (-1) _ _ _ ls hf hw (lv_sub hl [0, 1, 2, 3] rfl)
  unfold f_X12_gives at hf
  refine lv_aload_n hx hb dX12_gives_0 rfl (lv_at hl 0 rfl) ?_
  refine lv_iload_n hx hb dX12_gives_1 rfl (lv_at hl 1 rfl) ?_
  obtain ⟨qizh1, hf⟩ := gg_el hf
  obtain ⟨zt2, zh1, qzh1, hf⟩ := gc_el hf
  refine gx_ki (gx_runV (As := [.int za1]) (rest := []) X hw (c_X12_isRule l E N za0 za1 zh qzh1) kX12_isRule mm_X12_318 qizh1 clX12 ⟨Nat.le_of_ble_eq_true rfl, Nat.le_of_ble_eq_true rfl⟩ rfl rfl rfl hl.1 (Nat.le_of_ble_eq_true rfl) rfl dX12_gives_2 ⟨Nat.le_of_ble_eq_true rfl, Nat.le_of_ble_eq_true rfl⟩) hw (fun H locs hw => ?_)
  refine lv_if_eq (tgt := 32) hx hb dX12_gives_5 (by decide) (fun qc3 => ?_) (fun qc3 => ?_)
  · have hf := gif_t hf qc3
    exact J_32 za0 za1 za2 za3 _ _ _ ls hf hw (lv_sub hl [0, 1, 2, 3] rfl)
  · have hf := gif_f hf qc3
    refine lv_aload_n hx hb dX12_gives_8 rfl (lv_at hl 0 rfl) ?_
    refine lv_iload_n hx hb dX12_gives_9 rfl (lv_at hl 2 rfl) ?_
    obtain ⟨qizh4, hf⟩ := gg_el hf
    obtain ⟨zt5, zh4, qzh4, hf⟩ := gc_el hf
    refine gx_ki (gx_runV (As := [.int za2]) (rest := []) X hw (c_X12_isGuest l E N za0 za2 zh1 qzh4) kX12_isGuest mm_X12_312 qizh4 clX12 ⟨Nat.le_of_ble_eq_true rfl, Nat.le_of_ble_eq_true rfl⟩ rfl rfl rfl hl.1 (Nat.le_of_ble_eq_true rfl) rfl dX12_gives_10 ⟨Nat.le_of_ble_eq_true rfl, Nat.le_of_ble_eq_true rfl⟩) hw (fun H locs hw => ?_)
    refine lv_if_eq (tgt := 32) hx hb dX12_gives_13 (by decide) (fun qc6 => ?_) (fun qc6 => ?_)
    · have hf := gif_t hf qc6
      exact J_32 za0 za1 za2 za3 _ _ _ ls hf hw (lv_sub hl [0, 1, 2, 3] rfl)
    · have hf := gif_f hf qc6
      refine lv_aload_n hx hb dX12_gives_16 rfl (lv_at hl 0 rfl) ?_
      refine W.eq (g2 := F0 m 17 ls [.ref (gB E + za0)]) rfl ?_
      refine lv_iload_n hx hb dX12_gives_17 rfl (lv_at hl 3 rfl) ?_
      obtain ⟨qizh7, hf⟩ := gg_el hf
      obtain ⟨zt8, zh7, qzh7, hf⟩ := gc_el hf
      refine gx_ki (gx_runV (As := [.int za3]) (rest := []) X hw (c_X12_isRoom l E N za0 za3 zh4 qzh7) kX12_isRoom mm_X12_309 qizh7 clX12 ⟨Nat.le_of_ble_eq_true rfl, Nat.le_of_ble_eq_true rfl⟩ rfl rfl rfl hl.1 (Nat.le_of_ble_eq_true rfl) rfl dX12_gives_18 ⟨Nat.le_of_ble_eq_true rfl, Nat.le_of_ble_eq_true rfl⟩) hw (fun H locs hw => ?_)
      refine lv_if_eq (tgt := 32) hx hb dX12_gives_21 (by decide) (fun qc9 => ?_) (fun qc9 => ?_)
      · have hf := gif_t hf qc9
        exact J_32 za0 za1 za2 za3 _ _ _ ls hf hw (lv_sub hl [0, 1, 2, 3] rfl)
      · have hf := gif_f hf qc9
        refine lv_aload_n hx hb dX12_gives_24 rfl (lv_at hl 0 rfl) ?_
        refine lv_iload_n hx hb dX12_gives_25 rfl (lv_at hl 2 rfl) ?_
        obtain ⟨qizh10, hf⟩ := gg_el hf
        obtain ⟨zt11, zh10, qzh10, hf⟩ := gc_el hf
        refine gx_ki (gx_runV (As := [.int za2]) (rest := []) X hw (c_X12_roomNow l E N za0 za2 zh7 qzh10) kX12_roomNow mm_X12_315 qizh10 clX12 ⟨Nat.le_of_ble_eq_true rfl, Nat.le_of_ble_eq_true rfl⟩ rfl rfl rfl hl.1 (Nat.le_of_ble_eq_true rfl) rfl dX12_gives_26 ⟨Nat.le_of_ble_eq_true rfl, Nat.le_of_ble_eq_true rfl⟩) hw (fun H locs hw => ?_)
        refine lv_goto (tgt := 33) hx hb dX12_gives_29 (by decide) ?_
        exact J_33 za0 za1 za2 za3 zt11 _ _ _ ls hf hw (lv_sub hl [0, 1, 2, 3] rfl)
abbrev rm_X12_whyNot : Room := { frames := 7, cells := 0, slots := 0, locals := 161 }
set_option maxHeartbeats 4000000 in
set_option maxRecDepth 100000 in
theorem c_X12_whyNot (l : Launch) (E : gE) (N : Nat) (za0 : Nat) (za1 : Int32) (za2 : Int32) (za3 : Int32) (zh : PH) {h9 : PH} {r9 : Int32} (hf : f_X12_whyNot N za0 za1 za2 za3 zh = some (r9, h9)) : Met l yX12_whyNot (gWS yX12_whyNot cX12_whyNot 5 (some .int)) rm_X12_whyNot (gPc E [.ref (gB E + za0), .int za1, .int za2, .int za3] zh) (gQi E r9 h9) 0 0 (gA E) := by
  refine gx_met (by decide) ?_ rfl
  intro p e s m below meth c X hr hlk hin2 hw
  have hx := X.1.1
  have hb := X.1.2.1
  have hl := lv_entry [.ref (gB E + za0), .int za1, .int za2, .int za3] (n := 5) (Nat.le_of_ble_eq_true rfl)
  rw [lg_entry_eq]
  generalize (lg_sl [.ref (gB E + za0), .int za1, .int za2, .int za3] ++ List.replicate (5 - (lg_sl [.ref (gB E + za0), .int za1, .int za2, .int za3]).length) Slot.unset).toArray = ls at hl ⊢
  have hl : lv_has ls 5 [(0, .ref (gB E + za0)), (1, .int za1), (2, .int za2), (3, .int za3)] := hl
  have J_106 : ∀ (zs0 : Int32) (zh : PH) (H : Heap) (locs : List Loc) (ls : Array Slot), f_X12_whyNot_106 N zs0 zh = some (r9, h9) → gw E s zh H locs → lv_has ls 5 [] → W p l e rm_X12_whyNot s m [.ref (gB E + za0), .int za1, .int za2, .int za3].toArray below meth c H locs 0 0 (MQ below (gQi E r9 h9) [.ref (gB E + za0), .int za1, .int za2, .int za3].toArray s 0 0 (gA E)) (F0 m 106 ls [.int zs0]) := by
    intro zs0 zh H locs ls hf hw hl
    unfold f_X12_whyNot_106 at hf
    exact gx_iret X hr hlk hw hf dX12_whyNot_106
  have J_92 : ∀ (zv0 : Nat) (zh : PH) (H : Heap) (locs : List Loc) (ls : Array Slot), f_X12_whyNot_92 N zv0 zh = some (r9, h9) → gw E s zh H locs → lv_has ls 5 [(0, .ref (gB E + zv0))] → W p l e rm_X12_whyNot s m [.ref (gB E + za0), .int za1, .int za2, .int za3].toArray below meth c H locs 0 0 (MQ below (gQi E r9 h9) [.ref (gB E + za0), .int za1, .int za2, .int za3].toArray s 0 0 (gA E)) (F0 m 92 ls []) := by
    intro zv0 zh H locs ls hf hw hl
    unfold f_X12_whyNot_92 at hf
    refine lv_aload_n hx hb dX12_whyNot_92 rfl (lv_at hl 0 rfl) ?_
    obtain ⟨qizh1, hf⟩ := gg_el hf
    obtain ⟨zt2, zh1, qzh1, hf⟩ := gc_el hf
    refine gx_ki (gx_runV (As := []) (rest := []) X hw (c_X12_events l E N zv0 zh qzh1) kX12_events mm_X12_284 qizh1 clX12 ⟨Nat.le_of_ble_eq_true rfl, Nat.le_of_ble_eq_true rfl⟩ rfl rfl rfl hl.1 (Nat.le_of_ble_eq_true rfl) rfl dX12_whyNot_93 ⟨Nat.le_of_ble_eq_true rfl, Nat.le_of_ble_eq_true rfl⟩) hw (fun H locs hw => ?_)
    refine lv_bipush (v := 100) hx hb dX12_whyNot_96 (by decide) ?_
    refine lv_icmp_ne (tgt := 105) hx hb dX12_whyNot_98 (by decide) (fun qc3 => ?_) (fun qc3 => ?_)
    · have hf := gif_f hf qc3
      refine lv_iconst (v := 0) hx hb dX12_whyNot_105 (by decide) ?_
      exact J_106 0 _ _ _ ls hf hw (lv_sub hl [] rfl)
    · have hf := gif_t hf qc3
      refine lv_iconst (v := 5) hx hb dX12_whyNot_101 (by decide) ?_
      refine lv_goto (tgt := 106) hx hb dX12_whyNot_102 (by decide) ?_
      exact J_106 5 _ _ _ ls hf hw (lv_sub hl [] rfl)
  have J_69 : ∀ (zv0 : Nat) (zv3 : Int32) (zs0 : Int32) (zh : PH) (H : Heap) (locs : List Loc) (ls : Array Slot), f_X12_whyNot_69 N zv0 zv3 zs0 zh = some (r9, h9) → gw E s zh H locs → lv_has ls 5 [(0, .ref (gB E + zv0)), (3, .int zv3)] → W p l e rm_X12_whyNot s m [.ref (gB E + za0), .int za1, .int za2, .int za3].toArray below meth c H locs 0 0 (MQ below (gQi E r9 h9) [.ref (gB E + za0), .int za1, .int za2, .int za3].toArray s 0 0 (gA E)) (F0 m 69 ls [.int zs0]) := by
    intro zv0 zv3 zs0 zh H locs ls hf hw hl
    unfold f_X12_whyNot_69 at hf
    refine lv_iload_n hx hb dX12_whyNot_69 rfl (lv_at hl 1 rfl) ?_
    refine lv_icmp_eq (tgt := 75) hx hb dX12_whyNot_70 (by decide) (fun qc1 => ?_) (fun qc1 => ?_)
    · have hf := gif_t hf qc1
      refine lv_iload_n hx hb dX12_whyNot_75 rfl (lv_at hl 1 rfl) ?_
      refine lv_if_ne (tgt := 92) hx hb dX12_whyNot_76 (by decide) (fun qc2 => ?_) (fun qc2 => ?_)
      · have hf := gif_f hf qc2
        exact J_92 zv0 _ _ _ ls hf hw (lv_sub hl [0] rfl)
      · have hf := gif_t hf qc2
        refine lv_aload_n hx hb dX12_whyNot_79 rfl (lv_at hl 0 rfl) ?_
        obtain ⟨qizh3, hf⟩ := gg_el hf
        obtain ⟨zt4, zh3, qzh3, hf⟩ := gc_el hf
        refine gx_ki (gx_runV (As := []) (rest := []) X hw (c_X12_firstEmpty l E N zv0 zh qzh3) kX12_firstEmpty mm_X12_264 qizh3 clX12 ⟨Nat.le_of_ble_eq_true rfl, Nat.le_of_ble_eq_true rfl⟩ rfl rfl rfl hl.1 (Nat.le_of_ble_eq_true rfl) rfl dX12_whyNot_80 ⟨Nat.le_of_ble_eq_true rfl, Nat.le_of_ble_eq_true rfl⟩) hw (fun H locs hw => ?_)
        refine lv_aload_n hx hb dX12_whyNot_83 rfl (lv_at hl 0 rfl) ?_
        obtain ⟨qizh5, hf⟩ := gg_el hf
        obtain ⟨zt6, zh5, qzh5, hf⟩ := gc_el hf
        refine gx_ki (gx_runV (As := []) (rest := [.int zt4]) X hw (c_X12_rooms l E N zv0 zh3 qzh5) kX12_rooms mm_X12_231 qizh5 clX12 ⟨Nat.le_of_ble_eq_true rfl, Nat.le_of_ble_eq_true rfl⟩ rfl rfl rfl hl.1 (Nat.le_of_ble_eq_true rfl) rfl dX12_whyNot_84 ⟨Nat.le_of_ble_eq_true rfl, Nat.le_of_ble_eq_true rfl⟩) hw (fun H locs hw => ?_)
        refine lv_icmp_ne (tgt := 92) hx hb dX12_whyNot_87 (by decide) (fun qc7 => ?_) (fun qc7 => ?_)
        · have hf := gif_f hf qc7
          exact J_92 zv0 _ _ _ ls hf hw (lv_sub hl [0] rfl)
        · have hf := gif_t hf qc7
          refine W.eq (g2 := F0 m 90 ls []) rfl ?_
          refine lv_iconst (v := 4) hx hb dX12_whyNot_90 (by decide) ?_
          exact gx_iret X hr hlk hw hf dX12_whyNot_91
    · have hf := gif_f hf qc1
      refine lv_iconst (v := 3) hx hb dX12_whyNot_73 (by decide) ?_
      exact gx_iret X hr hlk hw hf dX12_whyNot_74
  have J_54 : ∀ (zh : PH) (H : Heap) (locs : List Loc) (ls : Array Slot), f_X12_whyNot_54 N zh = some (r9, h9) → gw E s zh H locs → lv_has ls 5 [] → W p l e rm_X12_whyNot s m [.ref (gB E + za0), .int za1, .int za2, .int za3].toArray below meth c H locs 0 0 (MQ below (gQi E r9 h9) [.ref (gB E + za0), .int za1, .int za2, .int za3].toArray s 0 0 (gA E)) (F0 m 54 ls []) := by
    intro zh H locs ls hf hw hl
    unfold f_X12_whyNot_54 at hf
    refine lv_iconst (v := 2) hx hb dX12_whyNot_54 (by decide) ?_
    exact gx_iret X hr hlk hw hf dX12_whyNot_55
  have J_39 : ∀ (zv0 : Nat) (zv1 : Int32) (zv2 : Int32) (zv3 : Int32) (zs0 : Int32) (zh : PH) (H : Heap) (locs : List Loc) (ls : Array Slot), f_X12_whyNot_39 N zv0 zv1 zv2 zv3 zs0 zh = some (r9, h9) → gw E s zh H locs → lv_has ls 5 [(0, .ref (gB E + zv0)), (1, .int zv1), (2, .int zv2), (3, .int zv3)] → W p l e rm_X12_whyNot s m [.ref (gB E + za0), .int za1, .int za2, .int za3].toArray below meth c H locs 0 0 (MQ below (gQi E r9 h9) [.ref (gB E + za0), .int za1, .int za2, .int za3].toArray s 0 0 (gA E)) (F0 m 39 ls [.int zs0]) := by
    intro zv0 zv1 zv2 zv3 zs0 zh H locs ls hf hw hl
    unfold f_X12_whyNot_39 at hf
    refine lv_istore (lv' := [(4, .int zs0), (0, .ref (gB E + zv0)), (1, .int zv1), (2, .int zv2), (3, .int zv3)]) hx hb dX12_whyNot_39 hl (by decide) rfl (fun ls hl => ?_)
    refine lv_iload_n hx hb dX12_whyNot_41 rfl (lv_at hl 3 rfl) ?_
    obtain ⟨zt2, zh1, qzh1, hf⟩ := gc_el hf
    refine gx_ki (gx_runS (As := [.int zv2]) (rest := []) X hw (c_X12_isTold l E N zv2 zh qzh1) kX12_isTold mm_X12_321 ⟨Nat.le_of_ble_eq_true rfl, Nat.le_of_ble_eq_true rfl⟩ rfl rfl rfl hl.1 (Nat.le_of_ble_eq_true rfl) rfl dX12_whyNot_42 ⟨Nat.le_of_ble_eq_true rfl, Nat.le_of_ble_eq_true rfl⟩) hw (fun H locs hw => ?_)
    refine lv_if_eq (tgt := 54) hx hb dX12_whyNot_45 (by decide) (fun qc3 => ?_) (fun qc3 => ?_)
    · have hf := gif_t hf qc3
      exact J_54  _ _ _ ls hf hw (lv_sub hl [] rfl)
    · have hf := gif_f hf qc3
      refine lv_iload_n hx hb dX12_whyNot_48 rfl (lv_at hl 3 rfl) ?_
      refine lv_iload hx hb dX12_whyNot_49 (lv_at hl 0 rfl) ?_
      refine lv_icmp_ge (tgt := 56) hx hb dX12_whyNot_51 (by decide) (fun qc4 => ?_) (fun qc4 => ?_)
      · have hf := gif_t hf qc4
        refine lv_aload_n hx hb dX12_whyNot_56 rfl (lv_at hl 1 rfl) ?_
        refine lv_iload_n hx hb dX12_whyNot_57 rfl (lv_at hl 2 rfl) ?_
        refine W.eq (g2 := F0 m 58 ls [.int zv1, .ref (gB E + zv0)]) rfl ?_
        obtain ⟨qizh5, hf⟩ := gg_el hf
        obtain ⟨zt6, zh5, qzh5, hf⟩ := gc_el hf
        refine gx_ki (gx_runV (As := [.int zv1]) (rest := []) X hw (c_X12_roomNow l E N zv0 zv1 zh1 qzh5) kX12_roomNow mm_X12_315 qizh5 clX12 ⟨Nat.le_of_ble_eq_true rfl, Nat.le_of_ble_eq_true rfl⟩ rfl rfl rfl hl.1 (Nat.le_of_ble_eq_true rfl) rfl dX12_whyNot_58 ⟨Nat.le_of_ble_eq_true rfl, Nat.le_of_ble_eq_true rfl⟩) hw (fun H locs hw => ?_)
        refine lv_if_lt (tgt := 68) hx hb dX12_whyNot_61 (by decide) (fun qc7 => ?_) (fun qc7 => ?_)
        · have hf := gif_t hf qc7
          refine lv_iconst (v := 0) hx hb dX12_whyNot_68 (by decide) ?_
          exact J_69 zv0 zv3 0 _ _ _ ls hf hw (lv_sub hl [1, 4] rfl)
        · have hf := gif_f hf qc7
          refine lv_iconst (v := 1) hx hb dX12_whyNot_64 (by decide) ?_
          refine lv_goto (tgt := 69) hx hb dX12_whyNot_65 (by decide) ?_
          exact J_69 zv0 zv3 1 _ _ _ ls hf hw (lv_sub hl [1, 4] rfl)
      · have hf := gif_f hf qc4
        exact J_54  _ _ _ ls hf hw (lv_sub hl [] rfl)
  have J_15 : ∀ (zh : PH) (H : Heap) (locs : List Loc) (ls : Array Slot), f_X12_whyNot_15 N zh = some (r9, h9) → gw E s zh H locs → lv_has ls 5 [] → W p l e rm_X12_whyNot s m [.ref (gB E + za0), .int za1, .int za2, .int za3].toArray below meth c H locs 0 0 (MQ below (gQi E r9 h9) [.ref (gB E + za0), .int za1, .int za2, .int za3].toArray s 0 0 (gA E)) (F0 m 15 ls []) := by
    intro zh H locs ls hf hw hl
    unfold f_X12_whyNot_15 at hf
    refine lv_iconst (v := 1) hx hb dX12_whyNot_15 (by decide) ?_
    exact gx_iret X hr hlk hw hf dX12_whyNot_16
  unfold f_X12_whyNot at hf
  refine lv_aload_n hx hb dX12_whyNot_0 rfl (lv_at hl 0 rfl) ?_
  refine lv_iload_n hx hb dX12_whyNot_1 rfl (lv_at hl 1 rfl) ?_
  obtain ⟨qizh1, hf⟩ := gg_el hf
  obtain ⟨zt2, zh1, qzh1, hf⟩ := gc_el hf
  refine gx_ki (gx_runV (As := [.int za1]) (rest := []) X hw (c_X12_isGuest l E N za0 za1 zh qzh1) kX12_isGuest mm_X12_312 qizh1 clX12 ⟨Nat.le_of_ble_eq_true rfl, Nat.le_of_ble_eq_true rfl⟩ rfl rfl rfl hl.1 (Nat.le_of_ble_eq_true rfl) rfl dX12_whyNot_2 ⟨Nat.le_of_ble_eq_true rfl, Nat.le_of_ble_eq_true rfl⟩) hw (fun H locs hw => ?_)
  refine lv_if_eq (tgt := 15) hx hb dX12_whyNot_5 (by decide) (fun qc3 => ?_) (fun qc3 => ?_)
  · have hf := gif_t hf qc3
    exact J_15  _ _ _ ls hf hw (lv_sub hl [] rfl)
  · have hf := gif_f hf qc3
    refine lv_aload_n hx hb dX12_whyNot_8 rfl (lv_at hl 0 rfl) ?_
    obtain ⟨qizh4, hf⟩ := gg_el hf
    obtain ⟨zt5, zh4, qzh4, hf⟩ := gc_el hf
    refine gx_ki (gx_runV (As := []) (rest := []) X hw (c_X12_rooms l E N za0 zh1 qzh4) kX12_rooms mm_X12_231 qizh4 clX12 ⟨Nat.le_of_ble_eq_true rfl, Nat.le_of_ble_eq_true rfl⟩ rfl rfl rfl hl.1 (Nat.le_of_ble_eq_true rfl) rfl dX12_whyNot_9 ⟨Nat.le_of_ble_eq_true rfl, Nat.le_of_ble_eq_true rfl⟩) hw (fun H locs hw => ?_)
    refine lv_if_ne (tgt := 17) hx hb dX12_whyNot_12 (by decide) (fun qc6 => ?_) (fun qc6 => ?_)
    · have hf := gif_f hf qc6
      refine lv_aload_n hx hb dX12_whyNot_17 rfl (lv_at hl 0 rfl) ?_
      obtain ⟨qizh7, hf⟩ := gg_el hf
      obtain ⟨zt8, zh7, qzh7, hf⟩ := gc_el hf
      refine gx_ki (gx_runV (As := []) (rest := []) X hw (c_X12_events l E N za0 zh4 qzh7) kX12_events mm_X12_284 qizh7 clX12 ⟨Nat.le_of_ble_eq_true rfl, Nat.le_of_ble_eq_true rfl⟩ rfl rfl rfl hl.1 (Nat.le_of_ble_eq_true rfl) rfl dX12_whyNot_18 ⟨Nat.le_of_ble_eq_true rfl, Nat.le_of_ble_eq_true rfl⟩) hw (fun H locs hw => ?_)
      refine W.eq (g2 := F0 m 21 ls [.int zt8]) rfl ?_
      refine lv_if_ne (tgt := 28) hx hb dX12_whyNot_21 (by decide) (fun qc9 => ?_) (fun qc9 => ?_)
      · have hf := gif_f hf qc9
        refine lv_aload_n hx hb dX12_whyNot_28 rfl (lv_at hl 0 rfl) ?_
        refine lv_aload_n hx hb dX12_whyNot_29 rfl (lv_at hl 0 rfl) ?_
        obtain ⟨qizh10, hf⟩ := gg_el hf
        obtain ⟨zt11, zh10, qzh10, hf⟩ := gc_el hf
        refine gx_ki (gx_runV (As := []) (rest := [.ref (gB E + za0)]) X hw (c_X12_events l E N za0 zh7 qzh10) kX12_events mm_X12_284 qizh10 clX12 ⟨Nat.le_of_ble_eq_true rfl, Nat.le_of_ble_eq_true rfl⟩ rfl rfl rfl hl.1 (Nat.le_of_ble_eq_true rfl) rfl dX12_whyNot_30 ⟨Nat.le_of_ble_eq_true rfl, Nat.le_of_ble_eq_true rfl⟩) hw (fun H locs hw => ?_)
        refine lv_iconst (v := 1) hx hb dX12_whyNot_33 (by decide) ?_
        refine lv_isub hx hb dX12_whyNot_34 ?_
        refine lv_iconst (v := 2) hx hb dX12_whyNot_35 (by decide) ?_
        obtain ⟨qizh12, hf⟩ := gg_el hf
        obtain ⟨zt13, zh12, qzh12, hf⟩ := gc_el hf
        refine gx_ki (gx_runV (As := [.int (zt11 - 1), .int 2]) (rest := []) X hw (c_X12_eventOf l E N za0 (zt11 - 1) 2 zh10 qzh12) kX12_eventOf mm_X12_287 qizh12 clX12 ⟨Nat.le_of_ble_eq_true rfl, Nat.le_of_ble_eq_true rfl⟩ rfl rfl rfl hl.1 (Nat.le_of_ble_eq_true rfl) rfl dX12_whyNot_36 ⟨Nat.le_of_ble_eq_true rfl, Nat.le_of_ble_eq_true rfl⟩) hw (fun H locs hw => ?_)
        exact J_39 za0 za1 za2 za3 zt13 _ _ _ ls hf hw (lv_sub hl [0, 1, 2, 3] rfl)
      · have hf := gif_t hf qc9
        refine lv_iconst (v := 0) hx hb dX12_whyNot_24 (by decide) ?_
        refine lv_goto (tgt := 39) hx hb dX12_whyNot_25 (by decide) ?_
        exact J_39 za0 za1 za2 za3 0 _ _ _ ls hf hw (lv_sub hl [0, 1, 2, 3] rfl)
    · have hf := gif_t hf qc6
      exact J_15  _ _ _ ls hf hw (lv_sub hl [] rfl)
abbrev rm_X12_booked : Room := { frames := 0, cells := 0, slots := 0, locals := 0 }
set_option maxHeartbeats 4000000 in
set_option maxRecDepth 100000 in
theorem c_X12_booked (l : Launch) (E : gE) (N : Nat) (za0 : Nat) (zh : PH) {h9 : PH} {r9 : Int32} (hf : f_X12_booked N za0 zh = some (r9, h9)) : Met l yX12_booked (gWS yX12_booked cX12_booked 1 (some .int)) rm_X12_booked (gPc E [.ref (gB E + za0)] zh) (gQi E r9 h9) 0 0 (gA E) := by
  refine gx_met (by decide) ?_ rfl
  intro p e s m below meth c X hr hlk hin2 hw
  have hx := X.1.1
  have hb := X.1.2.1
  have hl := lv_entry [.ref (gB E + za0)] (n := 1) (Nat.le_of_ble_eq_true rfl)
  rw [lg_entry_eq]
  generalize (lg_sl [.ref (gB E + za0)] ++ List.replicate (1 - (lg_sl [.ref (gB E + za0)]).length) Slot.unset).toArray = ls at hl ⊢
  have hl : lv_has ls 1 [(0, .ref (gB E + za0))] := hl
  unfold f_X12_booked at hf
  refine lv_aload_n hx hb dX12_booked_0 rfl (lv_at hl 0 rfl) ?_
  obtain ⟨zt1, qzt1, hf⟩ := gb_el hf
  refine gx_getR X hw qzt1 clX12 (by decide) mf_X12_83 dX12_booked_1 ?_
  refine lv_sipush (v := 495) hx hb dX12_booked_4 (by decide) ?_
  obtain ⟨zt2, qzt2, hf⟩ := gb_el hf
  refine gx_iald X hw qzt2 dX12_booked_7 ?_
  exact gx_iret X hr hlk hw hf dX12_booked_8
abbrev rm_X12_unbooks : Room := { frames := 1, cells := 0, slots := 0, locals := 20 }
set_option maxHeartbeats 4000000 in
set_option maxRecDepth 100000 in
theorem c_X12_unbooks (l : Launch) (E : gE) (N : Nat) (za0 : Nat) (za1 : Int32) (zh : PH) {h9 : PH} (hf : f_X12_unbooks N za0 za1 zh = some h9) : Met l yX12_unbooks (gWS yX12_unbooks cX12_unbooks 5 none) rm_X12_unbooks (gPc E [.ref (gB E + za0), .int za1] zh) (gQv E h9) 0 0 (gA E) := by
  refine gx_met (by decide) ?_ rfl
  intro p e s m below meth c X hr hlk hin2 hw
  have hx := X.1.1
  have hb := X.1.2.1
  have hl := lv_entry [.ref (gB E + za0), .int za1] (n := 5) (Nat.le_of_ble_eq_true rfl)
  rw [lg_entry_eq]
  generalize (lg_sl [.ref (gB E + za0), .int za1] ++ List.replicate (5 - (lg_sl [.ref (gB E + za0), .int za1]).length) Slot.unset).toArray = ls at hl ⊢
  have hl : lv_has ls 5 [(0, .ref (gB E + za0)), (1, .int za1)] := hl
  have L_4 : ∀ (zn4 : Nat) (zv0 : Nat) (zv1 : Int32) (zv2 : Int32) (zv3 : Int32) (zh : PH) (H : Heap) (locs : List Loc) (ls : Array Slot), gi (fun zk zs => f_X12_unbooks_4 N zk zs.1 zs.2.1 zs.2.2.1 zs.2.2.2.1 zs.2.2.2.2) zn4 (zv0, zv1, zv2, zv3, zh) = some h9 → gw E s zh H locs → lv_has ls 5 [(0, .ref (gB E + zv0)), (1, .int zv1), (2, .int zv2), (3, .int zv3)] → W p l e rm_X12_unbooks s m [.ref (gB E + za0), .int za1].toArray below meth c H locs 0 0 (MQ below (gQv E h9) [.ref (gB E + za0), .int za1].toArray s 0 0 (gA E)) (F0 m 4 ls []) := by
    intro zn4
    induction zn4 with
    | zero =>
      intro zv0 zv1 zv2 zv3 zh H locs ls hf
      cases hf
    | succ zn4 ih_4 =>
      have J_48 : ∀ (zv0 : Nat) (zv1 : Int32) (zv3 : Int32) (zs0 : Int32) (zs1 : Int32) (zh : PH) (H : Heap) (locs : List Loc) (ls : Array Slot), f_X12_unbooks_48 N (gi (fun zk zs => f_X12_unbooks_4 N zk zs.1 zs.2.1 zs.2.2.1 zs.2.2.2.1 zs.2.2.2.2) zn4) zv0 zv1 zv3 zs0 zs1 zh = some h9 → gw E s zh H locs → lv_has ls 5 [(0, .ref (gB E + zv0)), (1, .int zv1), (3, .int zv3)] → W p l e rm_X12_unbooks s m [.ref (gB E + za0), .int za1].toArray below meth c H locs 0 0 (MQ below (gQv E h9) [.ref (gB E + za0), .int za1].toArray s 0 0 (gA E)) (F0 m 48 ls [.int zs0, .int zs1]) := by
        intro zv0 zv1 zv3 zs0 zs1 zh H locs ls hf hw hl
        unfold f_X12_unbooks_48 at hf
        refine lv_iadd hx hb dX12_unbooks_48 ?_
        refine lv_topi (fun zx1 ezx1 => ?_)
        have hf := gl_el hf ezx1
        refine lv_istore_n (lv' := [(2, .int zx1), (0, .ref (gB E + zv0)), (1, .int zv1), (3, .int zv3)]) hx hb dX12_unbooks_49 rfl hl (by decide) rfl (fun ls hl => ?_)
        obtain ⟨zx2, ezx2⟩ : ∃ y : Int32, y = zv3 + 1 := ⟨_, rfl⟩
        have hf := gl_el hf ezx2
        refine lv_iinc (v := zx2) (lv' := [(3, .int zx2), (2, .int zx1), (0, .ref (gB E + zv0)), (1, .int zv1)]) hx hb dX12_unbooks_50 hl (k := 3) rfl (by rw [ezx2]; rfl) (by decide) rfl (fun ls hl => ?_)
        refine lv_goto (tgt := 4) hx hb dX12_unbooks_53 (by decide) ?_
        exact ih_4 zv0 zv1 zx1 zx2 _ _ _ ls hf hw (lv_sub hl [2, 3, 1, 0] rfl)
      intro zv0 zv1 zv2 zv3 zh H locs ls hf hw hl
      have hf := gi_s hf
      dsimp only at hf
      unfold f_X12_unbooks_4 at hf
      refine lv_iload_n hx hb dX12_unbooks_4 rfl (lv_at hl 3 rfl) ?_
      refine lv_aload_n hx hb dX12_unbooks_5 rfl (lv_at hl 0 rfl) ?_
      obtain ⟨qizh1, hf⟩ := gg_el hf
      obtain ⟨zt2, zh1, qzh1, hf⟩ := gc_el hf
      refine gx_ki (gx_runV (As := []) (rest := [.int zv3]) X hw (c_X12_booked l E N zv0 zh qzh1) kX12_booked mm_X12_331 qizh1 clX12 ⟨Nat.le_of_ble_eq_true rfl, Nat.le_of_ble_eq_true rfl⟩ rfl rfl rfl hl.1 (Nat.le_of_ble_eq_true rfl) rfl dX12_unbooks_6 ⟨Nat.le_of_ble_eq_true rfl, Nat.le_of_ble_eq_true rfl⟩) hw (fun H locs hw => ?_)
      refine lv_icmp_ge (tgt := 56) hx hb dX12_unbooks_9 (by decide) (fun qc3 => ?_) (fun qc3 => ?_)
      · have hf := gif_t hf qc3
        refine lv_aload_n hx hb dX12_unbooks_56 rfl (lv_at hl 0 rfl) ?_
        obtain ⟨zt4, qzt4, hf⟩ := gb_el hf
        refine gx_getR X hw qzt4 clX12 (by decide) mf_X12_83 dX12_unbooks_57 ?_
        refine lv_sipush (v := 495) hx hb dX12_unbooks_60 (by decide) ?_
        refine lv_iload_n hx hb dX12_unbooks_63 rfl (lv_at hl 2 rfl) ?_
        obtain ⟨zh5, qzh5, hf⟩ := gb_el hf
        refine gx_iast X hw qzh5 dX12_unbooks_64 (fun H locs hw => ?_)
        refine W.eq (g2 := F0 m 65 ls []) rfl ?_
        exact gx_vret X hr hlk hw hf dX12_unbooks_65
      · have hf := gif_f hf qc3
        refine lv_aload_n hx hb dX12_unbooks_12 rfl (lv_at hl 0 rfl) ?_
        obtain ⟨zt6, qzt6, hf⟩ := gb_el hf
        refine gx_getR X hw qzt6 clX12 (by decide) mf_X12_83 dX12_unbooks_13 ?_
        refine lv_sipush (v := 496) hx hb dX12_unbooks_16 (by decide) ?_
        refine lv_iload_n hx hb dX12_unbooks_19 rfl (lv_at hl 3 rfl) ?_
        refine lv_iadd hx hb dX12_unbooks_20 ?_
        refine W.eq (g2 := F0 m 21 ls [.int (496 + zv3), .ref (gB E + zt6)]) rfl ?_
        obtain ⟨zt7, qzt7, hf⟩ := gb_el hf
        refine gx_iald X hw qzt7 dX12_unbooks_21 ?_
        refine lv_istore (lv' := [(4, .int zt7), (0, .ref (gB E + zv0)), (1, .int zv1), (2, .int zv2), (3, .int zv3)]) hx hb dX12_unbooks_22 hl (by decide) rfl (fun ls hl => ?_)
        refine lv_aload_n hx hb dX12_unbooks_24 rfl (lv_at hl 1 rfl) ?_
        obtain ⟨zt8, qzt8, hf⟩ := gb_el hf
        refine gx_getR X hw qzt8 clX12 (by decide) mf_X12_83 dX12_unbooks_25 ?_
        refine lv_sipush (v := 496) hx hb dX12_unbooks_28 (by decide) ?_
        refine lv_iload_n hx hb dX12_unbooks_31 rfl (lv_at hl 3 rfl) ?_
        refine lv_iadd hx hb dX12_unbooks_32 ?_
        refine lv_iload hx hb dX12_unbooks_33 (lv_at hl 0 rfl) ?_
        obtain ⟨zh9, qzh9, hf⟩ := gb_el hf
        refine gx_iast X hw qzh9 dX12_unbooks_35 (fun H locs hw => ?_)
        refine lv_iload_n hx hb dX12_unbooks_36 rfl (lv_at hl 3 rfl) ?_
        refine W.eq (g2 := F0 m 37 ls [.int zv2]) rfl ?_
        refine lv_iload hx hb dX12_unbooks_37 (lv_at hl 0 rfl) ?_
        refine lv_iload_n hx hb dX12_unbooks_39 rfl (lv_at hl 2 rfl) ?_
        refine lv_icmp_ne (tgt := 47) hx hb dX12_unbooks_40 (by decide) (fun qc10 => ?_) (fun qc10 => ?_)
        · have hf := gif_f hf qc10
          refine lv_iconst (v := 1) hx hb dX12_unbooks_47 (by decide) ?_
          exact J_48 zv0 zv1 zv3 1 zv2 _ _ _ ls hf hw (lv_sub hl [1, 2, 4] rfl)
        · have hf := gif_t hf qc10
          refine lv_iconst (v := 0) hx hb dX12_unbooks_43 (by decide) ?_
          refine lv_goto (tgt := 48) hx hb dX12_unbooks_44 (by decide) ?_
          exact J_48 zv0 zv1 zv3 0 zv2 _ _ _ ls hf hw (lv_sub hl [1, 2, 4] rfl)
  unfold f_X12_unbooks at hf
  refine lv_iconst (v := 0) hx hb dX12_unbooks_0 (by decide) ?_
  refine lv_istore_n (lv' := [(2, .int 0), (0, .ref (gB E + za0)), (1, .int za1)]) hx hb dX12_unbooks_1 rfl hl (by decide) rfl (fun ls hl => ?_)
  refine lv_iconst (v := 0) hx hb dX12_unbooks_2 (by decide) ?_
  refine lv_istore_n (lv' := [(3, .int 0), (2, .int 0), (0, .ref (gB E + za0)), (1, .int za1)]) hx hb dX12_unbooks_3 rfl hl (by decide) rfl (fun ls hl => ?_)
  exact L_4 N za0 za1 0 0 _ _ _ ls hf hw (lv_sub hl [2, 3, 1, 0] rfl)
abbrev rm_X12_tells : Room := { frames := 8, cells := 0, slots := 0, locals := 185 }
set_option maxHeartbeats 4000000 in
set_option maxRecDepth 100000 in
theorem c_X12_tells (l : Launch) (E : gE) (N : Nat) (za0 : Nat) (za1 : Int32) (za2 : Int32) (za3 : Int32) (zh : PH) {h9 : PH} {r9 : Int32} (hf : f_X12_tells N za0 za1 za2 za3 zh = some (r9, h9)) : Met l yX12_tells (gWS yX12_tells cX12_tells 6 (some .int)) rm_X12_tells (gPc E [.ref (gB E + za0), .int za1, .int za2, .int za3] zh) (gQi E r9 h9) 0 0 (gA E) := by
  refine gx_met (by decide) ?_ rfl
  intro p e s m below meth c X hr hlk hin2 hw
  have hx := X.1.1
  have hb := X.1.2.1
  have hl := lv_entry [.ref (gB E + za0), .int za1, .int za2, .int za3] (n := 6) (Nat.le_of_ble_eq_true rfl)
  rw [lg_entry_eq]
  generalize (lg_sl [.ref (gB E + za0), .int za1, .int za2, .int za3] ++ List.replicate (6 - (lg_sl [.ref (gB E + za0), .int za1, .int za2, .int za3]).length) Slot.unset).toArray = ls at hl ⊢
  have hl : lv_has ls 6 [(0, .ref (gB E + za0)), (1, .int za1), (2, .int za2), (3, .int za3)] := hl
  have J_107 : ∀ (zh : PH) (H : Heap) (locs : List Loc) (ls : Array Slot), f_X12_tells_107 N zh = some (r9, h9) → gw E s zh H locs → lv_has ls 6 [] → W p l e rm_X12_tells s m [.ref (gB E + za0), .int za1, .int za2, .int za3].toArray below meth c H locs 0 0 (MQ below (gQi E r9 h9) [.ref (gB E + za0), .int za1, .int za2, .int za3].toArray s 0 0 (gA E)) (F0 m 107 ls []) := by
    intro zh H locs ls hf hw hl
    unfold f_X12_tells_107 at hf
    refine lv_iconst (v := 0) hx hb dX12_tells_107 (by decide) ?_
    exact gx_iret X hr hlk hw hf dX12_tells_108
  have J_57 : ∀ (zv0 : Nat) (zv1 : Int32) (zv2 : Int32) (zv3 : Int32) (zv5 : Int32) (zs0 : Int32) (zs1 : Int32) (zs2 : Nat) (zh : PH) (H : Heap) (locs : List Loc) (ls : Array Slot), f_X12_tells_57 N zv0 zv1 zv2 zv3 zv5 zs0 zs1 zs2 zh = some (r9, h9) → gw E s zh H locs → lv_has ls 6 [(0, .ref (gB E + zv0)), (1, .int zv1), (2, .int zv2), (3, .int zv3), (5, .int zv5)] → W p l e rm_X12_tells s m [.ref (gB E + za0), .int za1, .int za2, .int za3].toArray below meth c H locs 0 0 (MQ below (gQi E r9 h9) [.ref (gB E + za0), .int za1, .int za2, .int za3].toArray s 0 0 (gA E)) (F0 m 57 ls [.int zs0, .int zs1, .ref (gB E + zs2)]) := by
    intro zv0 zv1 zv2 zv3 zv5 zs0 zs1 zs2 zh H locs ls hf hw hl
    unfold f_X12_tells_57 at hf
    obtain ⟨zh1, qzh1, hf⟩ := gb_el hf
    refine gx_iast X hw qzh1 dX12_tells_57 (fun H locs hw => ?_)
    refine lv_aload_n hx hb dX12_tells_58 rfl (lv_at hl 0 rfl) ?_
    obtain ⟨zt2, qzt2, hf⟩ := gb_el hf
    refine gx_getR X hw qzt2 clX12 (by decide) mf_X12_83 dX12_tells_59 ?_
    refine lv_iload hx hb dX12_tells_62 (lv_at hl 4 rfl) ?_
    refine lv_iconst (v := 2) hx hb dX12_tells_64 (by decide) ?_
    refine lv_iadd hx hb dX12_tells_65 ?_
    refine lv_iload_n hx hb dX12_tells_66 rfl (lv_at hl 2 rfl) ?_
    obtain ⟨zh3, qzh3, hf⟩ := gb_el hf
    refine gx_iast X hw qzh3 dX12_tells_67 (fun H locs hw => ?_)
    refine lv_aload_n hx hb dX12_tells_68 rfl (lv_at hl 0 rfl) ?_
    refine W.eq (g2 := F0 m 69 ls [.ref (gB E + zv0)]) rfl ?_
    obtain ⟨zt4, qzt4, hf⟩ := gb_el hf
    refine gx_getR X hw qzt4 clX12 (by decide) mf_X12_83 dX12_tells_69 ?_
    refine lv_iload hx hb dX12_tells_72 (lv_at hl 4 rfl) ?_
    refine lv_iconst (v := 3) hx hb dX12_tells_74 (by decide) ?_
    refine lv_iadd hx hb dX12_tells_75 ?_
    refine lv_aload_n hx hb dX12_tells_76 rfl (lv_at hl 0 rfl) ?_
    obtain ⟨zt5, qzt5, hf⟩ := gb_el hf
    refine gx_getR X hw qzt5 clX12 (by decide) mf_X12_83 dX12_tells_77 ?_
    refine lv_iconst (v := 0) hx hb dX12_tells_80 (by decide) ?_
    obtain ⟨zt6, qzt6, hf⟩ := gb_el hf
    refine gx_iald X hw qzt6 dX12_tells_81 ?_
    obtain ⟨zh7, qzh7, hf⟩ := gb_el hf
    refine gx_iast X hw qzh7 dX12_tells_82 (fun H locs hw => ?_)
    refine lv_aload_n hx hb dX12_tells_83 rfl (lv_at hl 0 rfl) ?_
    refine W.eq (g2 := F0 m 84 ls [.ref (gB E + zv0)]) rfl ?_
    obtain ⟨zt8, qzt8, hf⟩ := gb_el hf
    refine gx_getR X hw qzt8 clX12 (by decide) mf_X12_83 dX12_tells_84 ?_
    refine lv_iconst (v := 1) hx hb dX12_tells_87 (by decide) ?_
    refine lv_dup2_11 hx hb dX12_tells_88 rfl rfl ?_
    obtain ⟨zt9, qzt9, hf⟩ := gb_el hf
    refine gx_iald X hw qzt9 dX12_tells_89 ?_
    refine lv_iconst (v := 1) hx hb dX12_tells_90 (by decide) ?_
    refine lv_iadd hx hb dX12_tells_91 ?_
    obtain ⟨zh10, qzh10, hf⟩ := gb_el hf
    refine gx_iast X hw qzh10 dX12_tells_92 (fun H locs hw => ?_)
    refine lv_aload_n hx hb dX12_tells_93 rfl (lv_at hl 0 rfl) ?_
    refine lv_iconst (v := 1) hx hb dX12_tells_94 (by decide) ?_
    obtain ⟨zh11, qzh11, hf⟩ := gb_el hf
    refine gx_putV X hw qzh11 clX12 (by decide) mf_X12_123 rfl rfl rfl dX12_tells_95 (fun H locs hw => ?_)
    refine W.eq (g2 := F0 m 98 ls []) rfl ?_
    refine lv_iload_n hx hb dX12_tells_98 rfl (lv_at hl 3 rfl) ?_
    refine lv_if_ne (tgt := 107) hx hb dX12_tells_99 (by decide) (fun qc12 => ?_) (fun qc12 => ?_)
    · have hf := gif_f hf qc12
      exact J_107  _ _ _ ls hf hw (lv_sub hl [] rfl)
    · have hf := gif_t hf qc12
      refine lv_aload_n hx hb dX12_tells_102 rfl (lv_at hl 0 rfl) ?_
      refine lv_iload_n hx hb dX12_tells_103 rfl (lv_at hl 1 rfl) ?_
      obtain ⟨qizh13, hf⟩ := gg_el hf
      obtain ⟨zh13, qzh13, hf⟩ := gb_el hf
      refine gx_kv (gx_runV (As := [.int zv1]) (rest := []) X hw (c_X12_unbooks l E N zv0 zv1 zh11 qzh13) kX12_unbooks mm_X12_328 qizh13 clX12 ⟨Nat.le_of_ble_eq_true rfl, Nat.le_of_ble_eq_true rfl⟩ rfl rfl rfl hl.1 (Nat.le_of_ble_eq_true rfl) rfl dX12_tells_104 ⟨Nat.le_of_ble_eq_true rfl, Nat.le_of_ble_eq_true rfl⟩) hw (fun H locs hw => ?_)
      exact J_107  _ _ _ ls hf hw (lv_sub hl [] rfl)
  unfold f_X12_tells at hf
  refine lv_aload_n hx hb dX12_tells_0 rfl (lv_at hl 0 rfl) ?_
  refine lv_iconst (v := 0) hx hb dX12_tells_1 (by decide) ?_
  obtain ⟨zh1, qzh1, hf⟩ := gb_el hf
  refine gx_putV X hw qzh1 clX12 (by decide) mf_X12_1 rfl rfl rfl dX12_tells_2 (fun H locs hw => ?_)
  refine lv_aload_n hx hb dX12_tells_5 rfl (lv_at hl 0 rfl) ?_
  refine lv_iload_n hx hb dX12_tells_6 rfl (lv_at hl 1 rfl) ?_
  refine lv_iload_n hx hb dX12_tells_7 rfl (lv_at hl 2 rfl) ?_
  refine lv_iload_n hx hb dX12_tells_8 rfl (lv_at hl 3 rfl) ?_
  obtain ⟨qizh2, hf⟩ := gg_el hf
  obtain ⟨zt3, zh2, qzh2, hf⟩ := gc_el hf
  refine gx_ki (gx_runV (As := [.int za1, .int za2, .int za3]) (rest := []) X hw (c_X12_whyNot l E N za0 za1 za2 za3 zh1 qzh2) kX12_whyNot mm_X12_324 qizh2 clX12 ⟨Nat.le_of_ble_eq_true rfl, Nat.le_of_ble_eq_true rfl⟩ rfl rfl rfl hl.1 (Nat.le_of_ble_eq_true rfl) rfl dX12_tells_9 ⟨Nat.le_of_ble_eq_true rfl, Nat.le_of_ble_eq_true rfl⟩) hw (fun H locs hw => ?_)
  refine lv_istore (lv' := [(4, .int zt3), (0, .ref (gB E + za0)), (1, .int za1), (2, .int za2), (3, .int za3)]) hx hb dX12_tells_12 hl (by decide) rfl (fun ls hl => ?_)
  refine W.eq (g2 := F0 m 14 ls []) rfl ?_
  refine lv_iload hx hb dX12_tells_14 (lv_at hl 0 rfl) ?_
  refine lv_if_le (tgt := 22) hx hb dX12_tells_16 (by decide) (fun qc4 => ?_) (fun qc4 => ?_)
  · have hf := gif_t hf qc4
    refine lv_iconst (v := 2) hx hb dX12_tells_22 (by decide) ?_
    refine lv_iconst (v := 4) hx hb dX12_tells_23 (by decide) ?_
    refine lv_aload_n hx hb dX12_tells_24 rfl (lv_at hl 1 rfl) ?_
    obtain ⟨qizh5, hf⟩ := gg_el hf
    obtain ⟨zt6, zh5, qzh5, hf⟩ := gc_el hf
    refine gx_ki (gx_runV (As := []) (rest := [.int 4, .int 2]) X hw (c_X12_events l E N za0 zh2 qzh5) kX12_events mm_X12_284 qizh5 clX12 ⟨Nat.le_of_ble_eq_true rfl, Nat.le_of_ble_eq_true rfl⟩ rfl rfl rfl hl.1 (Nat.le_of_ble_eq_true rfl) rfl dX12_tells_25 ⟨Nat.le_of_ble_eq_true rfl, Nat.le_of_ble_eq_true rfl⟩) hw (fun H locs hw => ?_)
    refine lv_imul hx hb dX12_tells_28 ?_
    refine lv_iadd hx hb dX12_tells_29 ?_
    refine lv_topi (fun zx7 ezx7 => ?_)
    have hf := gl_el hf ezx7
    refine lv_istore (lv' := [(5, .int zx7), (4, .int zt3), (0, .ref (gB E + za0)), (1, .int za1), (2, .int za2), (3, .int za3)]) hx hb dX12_tells_30 hl (by decide) rfl (fun ls hl => ?_)
    refine lv_aload_n hx hb dX12_tells_32 rfl (lv_at hl 2 rfl) ?_
    refine W.eq (g2 := F0 m 33 ls [.ref (gB E + za0)]) rfl ?_
    obtain ⟨zt8, qzt8, hf⟩ := gb_el hf
    refine gx_getR X hw qzt8 clX12 (by decide) mf_X12_83 dX12_tells_33 ?_
    refine lv_iload hx hb dX12_tells_36 (lv_at hl 0 rfl) ?_
    refine lv_iload_n hx hb dX12_tells_38 rfl (lv_at hl 3 rfl) ?_
    obtain ⟨zh9, qzh9, hf⟩ := gb_el hf
    refine gx_iast X hw qzh9 dX12_tells_39 (fun H locs hw => ?_)
    refine lv_aload_n hx hb dX12_tells_40 rfl (lv_at hl 2 rfl) ?_
    obtain ⟨zt10, qzt10, hf⟩ := gb_el hf
    refine gx_getR X hw qzt10 clX12 (by decide) mf_X12_83 dX12_tells_41 ?_
    refine lv_iload hx hb dX12_tells_44 (lv_at hl 0 rfl) ?_
    refine lv_iconst (v := 1) hx hb dX12_tells_46 (by decide) ?_
    refine lv_iadd hx hb dX12_tells_47 ?_
    refine lv_iload_n hx hb dX12_tells_48 rfl (lv_at hl 5 rfl) ?_
    refine W.eq (g2 := F0 m 49 ls [.int za3, .int (zx7 + 1), .ref (gB E + zt10)]) rfl ?_
    refine lv_if_eq (tgt := 56) hx hb dX12_tells_49 (by decide) (fun qc11 => ?_) (fun qc11 => ?_)
    · have hf := gif_t hf qc11
      refine lv_iconst (v := 0) hx hb dX12_tells_56 (by decide) ?_
      exact J_57 za0 za1 za2 za3 zx7 0 (zx7 + 1) zt10 _ _ _ ls hf hw (lv_sub hl [2, 3, 4, 5, 0] rfl)
    · have hf := gif_f hf qc11
      refine lv_iconst (v := 1) hx hb dX12_tells_52 (by decide) ?_
      refine lv_goto (tgt := 57) hx hb dX12_tells_53 (by decide) ?_
      exact J_57 za0 za1 za2 za3 zx7 1 (zx7 + 1) zt10 _ _ _ ls hf hw (lv_sub hl [2, 3, 4, 5, 0] rfl)
  · have hf := gif_f hf qc4
    refine lv_iload hx hb dX12_tells_19 (lv_at hl 0 rfl) ?_
    exact gx_iret X hr hlk hw hf dX12_tells_21
abbrev rm_X12_come : Room := { frames := 9, cells := 0, slots := 0, locals := 210 }
set_option maxHeartbeats 4000000 in
set_option maxRecDepth 100000 in
theorem c_X12_come (l : Launch) (E : gE) (N : Nat) (za0 : Nat) (za1 : Int32) (za2 : Int32) (zh : PH) {h9 : PH} {r9 : Int32} (hf : f_X12_come N za0 za1 za2 zh = some (r9, h9)) : Met l yX12_come (gWS yX12_come cX12_come 3 (some .int)) rm_X12_come (gPc E [.ref (gB E + za0), .int za1, .int za2] zh) (gQi E r9 h9) 0 0 (gA E) := by
  refine gx_met (by decide) ?_ rfl
  intro p e s m below meth c X hr hlk hin2 hw
  have hx := X.1.1
  have hb := X.1.2.1
  have hl := lv_entry [.ref (gB E + za0), .int za1, .int za2] (n := 3) (Nat.le_of_ble_eq_true rfl)
  rw [lg_entry_eq]
  generalize (lg_sl [.ref (gB E + za0), .int za1, .int za2] ++ List.replicate (3 - (lg_sl [.ref (gB E + za0), .int za1, .int za2]).length) Slot.unset).toArray = ls at hl ⊢
  have hl : lv_has ls 3 [(0, .ref (gB E + za0)), (1, .int za1), (2, .int za2)] := hl
  unfold f_X12_come at hf
  refine lv_aload_n hx hb dX12_come_0 rfl (lv_at hl 0 rfl) ?_
  refine lv_iload_n hx hb dX12_come_1 rfl (lv_at hl 1 rfl) ?_
  refine lv_iload_n hx hb dX12_come_2 rfl (lv_at hl 2 rfl) ?_
  refine lv_iconst (v := 0) hx hb dX12_come_3 (by decide) ?_
  obtain ⟨qizh1, hf⟩ := gg_el hf
  obtain ⟨zt2, zh1, qzh1, hf⟩ := gc_el hf
  refine gx_ki (gx_runV (As := [.int za1, .int za2, .int 0]) (rest := []) X hw (c_X12_tells l E N za0 za1 za2 0 zh qzh1) kX12_tells mm_X12_334 qizh1 clX12 ⟨Nat.le_of_ble_eq_true rfl, Nat.le_of_ble_eq_true rfl⟩ rfl rfl rfl hl.1 (Nat.le_of_ble_eq_true rfl) rfl dX12_come_4 ⟨Nat.le_of_ble_eq_true rfl, Nat.le_of_ble_eq_true rfl⟩) hw (fun H locs hw => ?_)
  exact gx_iret X hr hlk hw hf dX12_come_7
abbrev rm_X12_leave : Room := { frames := 9, cells := 0, slots := 0, locals := 210 }
set_option maxHeartbeats 4000000 in
set_option maxRecDepth 100000 in
theorem c_X12_leave (l : Launch) (E : gE) (N : Nat) (za0 : Nat) (za1 : Int32) (za2 : Int32) (zh : PH) {h9 : PH} {r9 : Int32} (hf : f_X12_leave N za0 za1 za2 zh = some (r9, h9)) : Met l yX12_leave (gWS yX12_leave cX12_leave 3 (some .int)) rm_X12_leave (gPc E [.ref (gB E + za0), .int za1, .int za2] zh) (gQi E r9 h9) 0 0 (gA E) := by
  refine gx_met (by decide) ?_ rfl
  intro p e s m below meth c X hr hlk hin2 hw
  have hx := X.1.1
  have hb := X.1.2.1
  have hl := lv_entry [.ref (gB E + za0), .int za1, .int za2] (n := 3) (Nat.le_of_ble_eq_true rfl)
  rw [lg_entry_eq]
  generalize (lg_sl [.ref (gB E + za0), .int za1, .int za2] ++ List.replicate (3 - (lg_sl [.ref (gB E + za0), .int za1, .int za2]).length) Slot.unset).toArray = ls at hl ⊢
  have hl : lv_has ls 3 [(0, .ref (gB E + za0)), (1, .int za1), (2, .int za2)] := hl
  unfold f_X12_leave at hf
  refine lv_aload_n hx hb dX12_leave_0 rfl (lv_at hl 0 rfl) ?_
  refine lv_iload_n hx hb dX12_leave_1 rfl (lv_at hl 1 rfl) ?_
  refine lv_iload_n hx hb dX12_leave_2 rfl (lv_at hl 2 rfl) ?_
  refine lv_iconst (v := 1) hx hb dX12_leave_3 (by decide) ?_
  obtain ⟨qizh1, hf⟩ := gg_el hf
  obtain ⟨zt2, zh1, qzh1, hf⟩ := gc_el hf
  refine gx_ki (gx_runV (As := [.int za1, .int za2, .int 1]) (rest := []) X hw (c_X12_tells l E N za0 za1 za2 1 zh qzh1) kX12_tells mm_X12_334 qizh1 clX12 ⟨Nat.le_of_ble_eq_true rfl, Nat.le_of_ble_eq_true rfl⟩ rfl rfl rfl hl.1 (Nat.le_of_ble_eq_true rfl) rfl dX12_leave_4 ⟨Nat.le_of_ble_eq_true rfl, Nat.le_of_ble_eq_true rfl⟩) hw (fun H locs hw => ?_)
  exact gx_iret X hr hlk hw hf dX12_leave_7
abbrev rm_X12_over : Room := { frames := 6, cells := 0, slots := 0, locals := 140 }
set_option maxHeartbeats 4000000 in
set_option maxRecDepth 100000 in
theorem c_X12_over (l : Launch) (E : gE) (N : Nat) (za0 : Nat) (zh : PH) {h9 : PH} {r9 : Int32} (hf : f_X12_over N za0 zh = some (r9, h9)) : Met l yX12_over (gWS yX12_over cX12_over 1 (some .int)) rm_X12_over (gPc E [.ref (gB E + za0)] zh) (gQi E r9 h9) 0 0 (gA E) := by
  refine gx_met (by decide) ?_ rfl
  intro p e s m below meth c X hr hlk hin2 hw
  have hx := X.1.1
  have hb := X.1.2.1
  have hl := lv_entry [.ref (gB E + za0)] (n := 1) (Nat.le_of_ble_eq_true rfl)
  rw [lg_entry_eq]
  generalize (lg_sl [.ref (gB E + za0)] ++ List.replicate (1 - (lg_sl [.ref (gB E + za0)]).length) Slot.unset).toArray = ls at hl ⊢
  have hl : lv_has ls 1 [(0, .ref (gB E + za0))] := hl
  unfold f_X12_over at hf
  refine lv_aload_n hx hb dX12_over_0 rfl (lv_at hl 0 rfl) ?_
  refine lv_iconst (v := 0) hx hb dX12_over_1 (by decide) ?_
  obtain ⟨zh1, qzh1, hf⟩ := gb_el hf
  refine gx_putV X hw qzh1 clX12 (by decide) mf_X12_1 rfl rfl rfl dX12_over_2 (fun H locs hw => ?_)
  refine lv_aload_n hx hb dX12_over_5 rfl (lv_at hl 0 rfl) ?_
  obtain ⟨qizh2, hf⟩ := gg_el hf
  obtain ⟨zh2, qzh2, hf⟩ := gb_el hf
  refine gx_kv (gx_runV (As := []) (rest := []) X hw (c_X12_find l E N za0 zh1 qzh2) kX12_find mm_X12_300 qizh2 clX12 ⟨Nat.le_of_ble_eq_true rfl, Nat.le_of_ble_eq_true rfl⟩ rfl rfl rfl hl.1 (Nat.le_of_ble_eq_true rfl) rfl dX12_over_6 ⟨Nat.le_of_ble_eq_true rfl, Nat.le_of_ble_eq_true rfl⟩) hw (fun H locs hw => ?_)
  refine lv_aload_n hx hb dX12_over_9 rfl (lv_at hl 0 rfl) ?_
  obtain ⟨zt3, qzt3, hf⟩ := gb_el hf
  refine gx_getI X hw qzt3 clX12 (by decide) mf_X12_252 dX12_over_10 ?_
  exact gx_iret X hr hlk hw hf dX12_over_13
abbrev rm_X12_sum : Room := { frames := 6, cells := 0, slots := 0, locals := 140 }
set_option maxHeartbeats 4000000 in
set_option maxRecDepth 100000 in
theorem c_X12_sum (l : Launch) (E : gE) (N : Nat) (za0 : Nat) (za1 : Int32) (zh : PH) {h9 : PH} {r9 : Int32} (hf : f_X12_sum N za0 za1 zh = some (r9, h9)) : Met l yX12_sum (gWS yX12_sum cX12_sum 2 (some .int)) rm_X12_sum (gPc E [.ref (gB E + za0), .int za1] zh) (gQi E r9 h9) 0 0 (gA E) := by
  refine gx_met (by decide) ?_ rfl
  intro p e s m below meth c X hr hlk hin2 hw
  have hx := X.1.1
  have hb := X.1.2.1
  have hl := lv_entry [.ref (gB E + za0), .int za1] (n := 2) (Nat.le_of_ble_eq_true rfl)
  rw [lg_entry_eq]
  generalize (lg_sl [.ref (gB E + za0), .int za1] ++ List.replicate (2 - (lg_sl [.ref (gB E + za0), .int za1]).length) Slot.unset).toArray = ls at hl ⊢
  have hl : lv_has ls 2 [(0, .ref (gB E + za0)), (1, .int za1)] := hl
  unfold f_X12_sum at hf
  refine lv_aload_n hx hb dX12_sum_0 rfl (lv_at hl 0 rfl) ?_
  refine lv_iconst (v := 0) hx hb dX12_sum_1 (by decide) ?_
  obtain ⟨zh1, qzh1, hf⟩ := gb_el hf
  refine gx_putV X hw qzh1 clX12 (by decide) mf_X12_1 rfl rfl rfl dX12_sum_2 (fun H locs hw => ?_)
  refine lv_aload_n hx hb dX12_sum_5 rfl (lv_at hl 0 rfl) ?_
  obtain ⟨qizh2, hf⟩ := gg_el hf
  obtain ⟨zh2, qzh2, hf⟩ := gb_el hf
  refine gx_kv (gx_runV (As := []) (rest := []) X hw (c_X12_find l E N za0 zh1 qzh2) kX12_find mm_X12_300 qizh2 clX12 ⟨Nat.le_of_ble_eq_true rfl, Nat.le_of_ble_eq_true rfl⟩ rfl rfl rfl hl.1 (Nat.le_of_ble_eq_true rfl) rfl dX12_sum_6 ⟨Nat.le_of_ble_eq_true rfl, Nat.le_of_ble_eq_true rfl⟩) hw (fun H locs hw => ?_)
  refine lv_iload_n hx hb dX12_sum_9 rfl (lv_at hl 1 rfl) ?_
  by_cases qc3 : (za1 : Int32) = 0
  · have hf := gif_t hf qc3
    refine lv_tableIn (off := 30) (tgt := 40) hx hb dX12_sum_10 (by rw [qc3]; decide) (by rw [qc3]; decide) (by rw [qc3]; rfl) (by decide) ?_
    refine lv_aload_n hx hb dX12_sum_40 rfl (lv_at hl 0 rfl) ?_
    obtain ⟨zt4, qzt4, hf⟩ := gb_el hf
    refine gx_getI X hw qzt4 clX12 (by decide) mf_X12_240 dX12_sum_41 ?_
    refine W.eq (g2 := F0 m 44 ls [.int zt4]) rfl ?_
    exact gx_iret X hr hlk hw hf dX12_sum_44
  have hf := gif_f hf qc3
  by_cases qc5 : (za1 : Int32) = 1
  · have hf := gif_t hf qc5
    refine lv_tableIn (off := 35) (tgt := 45) hx hb dX12_sum_10 (by rw [qc5]; decide) (by rw [qc5]; decide) (by rw [qc5]; rfl) (by decide) ?_
    refine lv_aload_n hx hb dX12_sum_45 rfl (lv_at hl 0 rfl) ?_
    obtain ⟨zt6, qzt6, hf⟩ := gb_el hf
    refine gx_getI X hw qzt6 clX12 (by decide) mf_X12_243 dX12_sum_46 ?_
    refine W.eq (g2 := F0 m 49 ls [.int zt6]) rfl ?_
    exact gx_iret X hr hlk hw hf dX12_sum_49
  have hf := gif_f hf qc5
  by_cases qc7 : (za1 : Int32) = 2
  · have hf := gif_t hf qc7
    refine lv_tableIn (off := 40) (tgt := 50) hx hb dX12_sum_10 (by rw [qc7]; decide) (by rw [qc7]; decide) (by rw [qc7]; rfl) (by decide) ?_
    refine lv_aload_n hx hb dX12_sum_50 rfl (lv_at hl 0 rfl) ?_
    obtain ⟨zt8, qzt8, hf⟩ := gb_el hf
    refine gx_getI X hw qzt8 clX12 (by decide) mf_X12_246 dX12_sum_51 ?_
    refine W.eq (g2 := F0 m 54 ls [.int zt8]) rfl ?_
    exact gx_iret X hr hlk hw hf dX12_sum_54
  have hf := gif_f hf qc7
  by_cases qc9 : (za1 : Int32) = 3
  · have hf := gif_t hf qc9
    refine lv_tableIn (off := 45) (tgt := 55) hx hb dX12_sum_10 (by rw [qc9]; decide) (by rw [qc9]; decide) (by rw [qc9]; rfl) (by decide) ?_
    refine lv_aload_n hx hb dX12_sum_55 rfl (lv_at hl 0 rfl) ?_
    obtain ⟨zt10, qzt10, hf⟩ := gb_el hf
    refine gx_getI X hw qzt10 clX12 (by decide) mf_X12_249 dX12_sum_56 ?_
    refine W.eq (g2 := F0 m 59 ls [.int zt10]) rfl ?_
    exact gx_iret X hr hlk hw hf dX12_sum_59
  have hf := gif_f hf qc9
  have nqc3 := lv_neT (a := 0) qc3 (by decide)
  have nqc5 := lv_neT (a := 1) qc5 (by decide)
  have nqc7 := lv_neT (a := 2) qc7 (by decide)
  have nqc9 := lv_neT (a := 3) qc9 (by decide)
  refine lv_tableOut (tgt := 60) hx hb dX12_sum_10 (by omega) (by decide) ?_
  refine lv_iconst (v := (-1)) hx hb dX12_sum_60 (by decide) ?_
  exact gx_iret X hr hlk hw hf dX12_sum_61
abbrev rm_X12_placeAt : Room := { frames := 0, cells := 0, slots := 0, locals := 0 }
set_option maxHeartbeats 4000000 in
set_option maxRecDepth 100000 in
theorem c_X12_placeAt (l : Launch) (E : gE) (N : Nat) (za0 : Nat) (za1 : Int32) (za2 : Int32) (zh : PH) {h9 : PH} {r9 : Int32} (hf : f_X12_placeAt N za0 za1 za2 zh = some (r9, h9)) : Met l yX12_placeAt (gWS yX12_placeAt cX12_placeAt 6 (some .int)) rm_X12_placeAt (gPc E [.ref (gB E + za0), .int za1, .int za2] zh) (gQi E r9 h9) 0 0 (gA E) := by
  refine gx_met (by decide) ?_ rfl
  intro p e s m below meth c X hr hlk hin2 hw
  have hx := X.1.1
  have hb := X.1.2.1
  have hl := lv_entry [.ref (gB E + za0), .int za1, .int za2] (n := 6) (Nat.le_of_ble_eq_true rfl)
  rw [lg_entry_eq]
  generalize (lg_sl [.ref (gB E + za0), .int za1, .int za2] ++ List.replicate (6 - (lg_sl [.ref (gB E + za0), .int za1, .int za2]).length) Slot.unset).toArray = ls at hl ⊢
  have hl : lv_has ls 6 [(0, .ref (gB E + za0)), (1, .int za1), (2, .int za2)] := hl
  have L_5 : ∀ (zn5 : Nat) (zv0 : Nat) (zv1 : Int32) (zv2 : Int32) (zv3 : Int32) (zv4 : Int32) (zh : PH) (H : Heap) (locs : List Loc) (ls : Array Slot), gi (fun zk zs => f_X12_placeAt_5 N zk zs.1 zs.2.1 zs.2.2.1 zs.2.2.2.1 zs.2.2.2.2.1 zs.2.2.2.2.2) zn5 (zv0, zv1, zv2, zv3, zv4, zh) = some (r9, h9) → gw E s zh H locs → lv_has ls 6 [(0, .ref (gB E + zv0)), (1, .int zv1), (2, .int zv2), (3, .int zv3), (4, .int zv4)] → W p l e rm_X12_placeAt s m [.ref (gB E + za0), .int za1, .int za2].toArray below meth c H locs 0 0 (MQ below (gQi E r9 h9) [.ref (gB E + za0), .int za1, .int za2].toArray s 0 0 (gA E)) (F0 m 5 ls []) := by
    intro zn5
    induction zn5 with
    | zero =>
      intro zv0 zv1 zv2 zv3 zv4 zh H locs ls hf
      cases hf
    | succ zn5 ih_5 =>
      have J_72 : ∀ (zv0 : Nat) (zv1 : Int32) (zv2 : Int32) (zv3 : Int32) (zv4 : Int32) (zh : PH) (H : Heap) (locs : List Loc) (ls : Array Slot), f_X12_placeAt_72 N (gi (fun zk zs => f_X12_placeAt_5 N zk zs.1 zs.2.1 zs.2.2.1 zs.2.2.2.1 zs.2.2.2.2.1 zs.2.2.2.2.2) zn5) zv0 zv1 zv2 zv3 zv4 zh = some (r9, h9) → gw E s zh H locs → lv_has ls 6 [(0, .ref (gB E + zv0)), (1, .int zv1), (2, .int zv2), (3, .int zv3), (4, .int zv4)] → W p l e rm_X12_placeAt s m [.ref (gB E + za0), .int za1, .int za2].toArray below meth c H locs 0 0 (MQ below (gQi E r9 h9) [.ref (gB E + za0), .int za1, .int za2].toArray s 0 0 (gA E)) (F0 m 72 ls []) := by
        intro zv0 zv1 zv2 zv3 zv4 zh H locs ls hf hw hl
        unfold f_X12_placeAt_72 at hf
        obtain ⟨zx1, ezx1⟩ : ∃ y : Int32, y = zv4 + 1 := ⟨_, rfl⟩
        have hf := gl_el hf ezx1
        refine lv_iinc (v := zx1) (lv' := [(4, .int zx1), (0, .ref (gB E + zv0)), (1, .int zv1), (2, .int zv2), (3, .int zv3)]) hx hb dX12_placeAt_72 hl (k := 4) rfl (by rw [ezx1]; rfl) (by decide) rfl (fun ls hl => ?_)
        refine lv_goto (tgt := 5) hx hb dX12_placeAt_75 (by decide) ?_
        exact ih_5 zv0 zv1 zv2 zv3 zx1 _ _ _ ls hf hw (lv_sub hl [1, 2, 3, 4, 0] rfl)
      have J_71 : ∀ (zv0 : Nat) (zv1 : Int32) (zv2 : Int32) (zv4 : Int32) (zs0 : Int32) (zh : PH) (H : Heap) (locs : List Loc) (ls : Array Slot), f_X12_placeAt_71 N (gi (fun zk zs => f_X12_placeAt_5 N zk zs.1 zs.2.1 zs.2.2.1 zs.2.2.2.1 zs.2.2.2.2.1 zs.2.2.2.2.2) zn5) zv0 zv1 zv2 zv4 zs0 zh = some (r9, h9) → gw E s zh H locs → lv_has ls 6 [(0, .ref (gB E + zv0)), (1, .int zv1), (2, .int zv2), (4, .int zv4)] → W p l e rm_X12_placeAt s m [.ref (gB E + za0), .int za1, .int za2].toArray below meth c H locs 0 0 (MQ below (gQi E r9 h9) [.ref (gB E + za0), .int za1, .int za2].toArray s 0 0 (gA E)) (F0 m 71 ls [.int zs0]) := by
        intro zv0 zv1 zv2 zv4 zs0 zh H locs ls hf hw hl
        unfold f_X12_placeAt_71 at hf
        refine lv_istore_n (lv' := [(3, .int zs0), (0, .ref (gB E + zv0)), (1, .int zv1), (2, .int zv2), (4, .int zv4)]) hx hb dX12_placeAt_71 rfl hl (by decide) rfl (fun ls hl => ?_)
        exact J_72 zv0 zv1 zv2 zs0 zv4 _ _ _ ls hf hw (lv_sub hl [1, 2, 3, 0, 4] rfl)
      intro zv0 zv1 zv2 zv3 zv4 zh H locs ls hf hw hl
      have hf := gi_s hf
      dsimp only at hf
      unfold f_X12_placeAt_5 at hf
      refine lv_iload hx hb dX12_placeAt_5 (lv_at hl 4 rfl) ?_
      refine lv_aload_n hx hb dX12_placeAt_7 rfl (lv_at hl 0 rfl) ?_
      obtain ⟨zt1, qzt1, hf⟩ := gb_el hf
      refine gx_getI X hw qzt1 clX12 (by decide) mf_X12_255 dX12_placeAt_8 ?_
      refine lv_icmp_ge (tgt := 78) hx hb dX12_placeAt_11 (by decide) (fun qc2 => ?_) (fun qc2 => ?_)
      · have hf := gif_t hf qc2
        refine lv_iload_n hx hb dX12_placeAt_78 rfl (lv_at hl 3 rfl) ?_
        exact gx_iret X hr hlk hw hf dX12_placeAt_79
      · have hf := gif_f hf qc2
        refine lv_iconst (v := 5) hx hb dX12_placeAt_14 (by decide) ?_
        refine lv_iload hx hb dX12_placeAt_15 (lv_at hl 4 rfl) ?_
        refine lv_imul hx hb dX12_placeAt_17 ?_
        refine lv_topi (fun zx3 ezx3 => ?_)
        have hf := gl_el hf ezx3
        refine lv_istore (lv' := [(5, .int zx3), (0, .ref (gB E + zv0)), (1, .int zv1), (2, .int zv2), (3, .int zv3), (4, .int zv4)]) hx hb dX12_placeAt_18 hl (by decide) rfl (fun ls hl => ?_)
        refine lv_aload_n hx hb dX12_placeAt_20 rfl (lv_at hl 1 rfl) ?_
        refine W.eq (g2 := F0 m 21 ls [.ref (gB E + zv0)]) rfl ?_
        obtain ⟨zt4, qzt4, hf⟩ := gb_el hf
        refine gx_getR X hw qzt4 clX12 (by decide) mf_X12_99 dX12_placeAt_21 ?_
        refine lv_iload hx hb dX12_placeAt_24 (lv_at hl 0 rfl) ?_
        obtain ⟨zt5, qzt5, hf⟩ := gb_el hf
        refine gx_iald X hw qzt5 dX12_placeAt_26 ?_
        refine lv_iload_n hx hb dX12_placeAt_27 rfl (lv_at hl 2 rfl) ?_
        refine lv_icmp_ne (tgt := 72) hx hb dX12_placeAt_28 (by decide) (fun qc6 => ?_) (fun qc6 => ?_)
        · have hf := gif_f hf qc6
          exact J_72 zv0 zv1 zv2 zv3 zv4 _ _ _ ls hf hw (lv_sub hl [1, 2, 3, 4, 5] rfl)
        · have hf := gif_t hf qc6
          refine lv_aload_n hx hb dX12_placeAt_31 rfl (lv_at hl 1 rfl) ?_
          obtain ⟨zt7, qzt7, hf⟩ := gb_el hf
          refine gx_getR X hw qzt7 clX12 (by decide) mf_X12_99 dX12_placeAt_32 ?_
          refine lv_iload hx hb dX12_placeAt_35 (lv_at hl 0 rfl) ?_
          refine lv_iconst (v := 3) hx hb dX12_placeAt_37 (by decide) ?_
          refine lv_iadd hx hb dX12_placeAt_38 ?_
          refine W.eq (g2 := F0 m 39 ls [.int (zx3 + 3), .ref (gB E + zt7)]) rfl ?_
          obtain ⟨zt8, qzt8, hf⟩ := gb_el hf
          refine gx_iald X hw qzt8 dX12_placeAt_39 ?_
          refine lv_iload_n hx hb dX12_placeAt_40 rfl (lv_at hl 3 rfl) ?_
          refine lv_icmp_gt (tgt := 72) hx hb dX12_placeAt_41 (by decide) (fun qc9 => ?_) (fun qc9 => ?_)
          · have hf := gif_t hf qc9
            exact J_72 zv0 zv1 zv2 zv3 zv4 _ _ _ ls hf hw (lv_sub hl [1, 2, 3, 4, 5] rfl)
          · have hf := gif_f hf qc9
            refine lv_iload_n hx hb dX12_placeAt_44 rfl (lv_at hl 3 rfl) ?_
            refine lv_aload_n hx hb dX12_placeAt_45 rfl (lv_at hl 1 rfl) ?_
            obtain ⟨zt10, qzt10, hf⟩ := gb_el hf
            refine gx_getR X hw qzt10 clX12 (by decide) mf_X12_99 dX12_placeAt_46 ?_
            refine lv_iload hx hb dX12_placeAt_49 (lv_at hl 0 rfl) ?_
            refine lv_iconst (v := 4) hx hb dX12_placeAt_51 (by decide) ?_
            refine lv_iadd hx hb dX12_placeAt_52 ?_
            obtain ⟨zt11, qzt11, hf⟩ := gb_el hf
            refine gx_iald X hw qzt11 dX12_placeAt_53 ?_
            refine W.eq (g2 := F0 m 54 ls [.int zt11, .int zv2]) rfl ?_
            refine lv_icmp_ge (tgt := 62) hx hb dX12_placeAt_54 (by decide) (fun qc12 => ?_) (fun qc12 => ?_)
            · have hf := gif_t hf qc12
              refine lv_aload_n hx hb dX12_placeAt_62 rfl (lv_at hl 1 rfl) ?_
              obtain ⟨zt13, qzt13, hf⟩ := gb_el hf
              refine gx_getR X hw qzt13 clX12 (by decide) mf_X12_99 dX12_placeAt_63 ?_
              refine lv_iload hx hb dX12_placeAt_66 (lv_at hl 0 rfl) ?_
              refine lv_iconst (v := 2) hx hb dX12_placeAt_68 (by decide) ?_
              refine lv_iadd hx hb dX12_placeAt_69 ?_
              obtain ⟨zt14, qzt14, hf⟩ := gb_el hf
              refine gx_iald X hw qzt14 dX12_placeAt_70 ?_
              exact J_71 zv0 zv1 zv2 zv4 zt14 _ _ _ ls hf hw (lv_sub hl [1, 2, 3, 5] rfl)
            · have hf := gif_f hf qc12
              refine lv_bipush (v := (-2)) hx hb dX12_placeAt_57 (by decide) ?_
              refine lv_goto (tgt := 71) hx hb dX12_placeAt_59 (by decide) ?_
              exact J_71 zv0 zv1 zv2 zv4 (-2) _ _ _ ls hf hw (lv_sub hl [1, 2, 3, 5] rfl)
  unfold f_X12_placeAt at hf
  refine lv_iconst (v := (-1)) hx hb dX12_placeAt_0 (by decide) ?_
  refine lv_istore_n (lv' := [(3, .int (-1)), (0, .ref (gB E + za0)), (1, .int za1), (2, .int za2)]) hx hb dX12_placeAt_1 rfl hl (by decide) rfl (fun ls hl => ?_)
  refine lv_iconst (v := 0) hx hb dX12_placeAt_2 (by decide) ?_
  refine lv_istore (lv' := [(4, .int 0), (3, .int (-1)), (0, .ref (gB E + za0)), (1, .int za1), (2, .int za2)]) hx hb dX12_placeAt_3 hl (by decide) rfl (fun ls hl => ?_)
  exact L_5 N za0 za1 za2 (-1) 0 _ _ _ ls hf hw (lv_sub hl [2, 3, 4, 1, 0] rfl)
abbrev rm_X12_where : Room := { frames := 6, cells := 0, slots := 0, locals := 140 }
set_option maxHeartbeats 4000000 in
set_option maxRecDepth 100000 in
theorem c_X12_where (l : Launch) (E : gE) (N : Nat) (za0 : Nat) (za1 : Int32) (za2 : Int32) (zh : PH) {h9 : PH} {r9 : Int32} (hf : f_X12_where N za0 za1 za2 zh = some (r9, h9)) : Met l yX12_where (gWS yX12_where cX12_where 3 (some .int)) rm_X12_where (gPc E [.ref (gB E + za0), .int za1, .int za2] zh) (gQi E r9 h9) 0 0 (gA E) := by
  refine gx_met (by decide) ?_ rfl
  intro p e s m below meth c X hr hlk hin2 hw
  have hx := X.1.1
  have hb := X.1.2.1
  have hl := lv_entry [.ref (gB E + za0), .int za1, .int za2] (n := 3) (Nat.le_of_ble_eq_true rfl)
  rw [lg_entry_eq]
  generalize (lg_sl [.ref (gB E + za0), .int za1, .int za2] ++ List.replicate (3 - (lg_sl [.ref (gB E + za0), .int za1, .int za2]).length) Slot.unset).toArray = ls at hl ⊢
  have hl : lv_has ls 3 [(0, .ref (gB E + za0)), (1, .int za1), (2, .int za2)] := hl
  have J_20 : ∀ (zh : PH) (H : Heap) (locs : List Loc) (ls : Array Slot), f_X12_where_20 N zh = some (r9, h9) → gw E s zh H locs → lv_has ls 3 [] → W p l e rm_X12_where s m [.ref (gB E + za0), .int za1, .int za2].toArray below meth c H locs 0 0 (MQ below (gQi E r9 h9) [.ref (gB E + za0), .int za1, .int za2].toArray s 0 0 (gA E)) (F0 m 20 ls []) := by
    intro zh H locs ls hf hw hl
    unfold f_X12_where_20 at hf
    refine lv_bipush (v := (-3)) hx hb dX12_where_20 (by decide) ?_
    exact gx_iret X hr hlk hw hf dX12_where_22
  unfold f_X12_where at hf
  refine lv_aload_n hx hb dX12_where_0 rfl (lv_at hl 0 rfl) ?_
  refine lv_iconst (v := 0) hx hb dX12_where_1 (by decide) ?_
  obtain ⟨zh1, qzh1, hf⟩ := gb_el hf
  refine gx_putV X hw qzh1 clX12 (by decide) mf_X12_1 rfl rfl rfl dX12_where_2 (fun H locs hw => ?_)
  refine lv_aload_n hx hb dX12_where_5 rfl (lv_at hl 0 rfl) ?_
  refine lv_iload_n hx hb dX12_where_6 rfl (lv_at hl 1 rfl) ?_
  obtain ⟨qizh2, hf⟩ := gg_el hf
  obtain ⟨zt3, zh2, qzh2, hf⟩ := gc_el hf
  refine gx_ki (gx_runV (As := [.int za1]) (rest := []) X hw (c_X12_isGuest l E N za0 za1 zh1 qzh2) kX12_isGuest mm_X12_312 qizh2 clX12 ⟨Nat.le_of_ble_eq_true rfl, Nat.le_of_ble_eq_true rfl⟩ rfl rfl rfl hl.1 (Nat.le_of_ble_eq_true rfl) rfl dX12_where_7 ⟨Nat.le_of_ble_eq_true rfl, Nat.le_of_ble_eq_true rfl⟩) hw (fun H locs hw => ?_)
  refine lv_if_eq (tgt := 20) hx hb dX12_where_10 (by decide) (fun qc4 => ?_) (fun qc4 => ?_)
  · have hf := gif_t hf qc4
    exact J_20  _ _ _ ls hf hw (lv_sub hl [] rfl)
  · have hf := gif_f hf qc4
    refine lv_iload_n hx hb dX12_where_13 rfl (lv_at hl 2 rfl) ?_
    obtain ⟨zt6, zh5, qzh5, hf⟩ := gc_el hf
    refine gx_ki (gx_runS (As := [.int za2]) (rest := []) X hw (c_X12_isMinute l E N za2 zh2 qzh5) kX12_isMinute mm_X12_337 ⟨Nat.le_of_ble_eq_true rfl, Nat.le_of_ble_eq_true rfl⟩ rfl rfl rfl hl.1 (Nat.le_of_ble_eq_true rfl) rfl dX12_where_14 ⟨Nat.le_of_ble_eq_true rfl, Nat.le_of_ble_eq_true rfl⟩) hw (fun H locs hw => ?_)
    refine W.eq (g2 := F0 m 17 ls [.int zt6]) rfl ?_
    refine lv_if_ne (tgt := 23) hx hb dX12_where_17 (by decide) (fun qc7 => ?_) (fun qc7 => ?_)
    · have hf := gif_f hf qc7
      refine lv_aload_n hx hb dX12_where_23 rfl (lv_at hl 0 rfl) ?_
      obtain ⟨qizh8, hf⟩ := gg_el hf
      obtain ⟨zh8, qzh8, hf⟩ := gb_el hf
      refine gx_kv (gx_runV (As := []) (rest := []) X hw (c_X12_find l E N za0 zh5 qzh8) kX12_find mm_X12_300 qizh8 clX12 ⟨Nat.le_of_ble_eq_true rfl, Nat.le_of_ble_eq_true rfl⟩ rfl rfl rfl hl.1 (Nat.le_of_ble_eq_true rfl) rfl dX12_where_24 ⟨Nat.le_of_ble_eq_true rfl, Nat.le_of_ble_eq_true rfl⟩) hw (fun H locs hw => ?_)
      refine lv_aload_n hx hb dX12_where_27 rfl (lv_at hl 0 rfl) ?_
      refine lv_iload_n hx hb dX12_where_28 rfl (lv_at hl 1 rfl) ?_
      refine lv_iload_n hx hb dX12_where_29 rfl (lv_at hl 2 rfl) ?_
      obtain ⟨qizh9, hf⟩ := gg_el hf
      obtain ⟨zt10, zh9, qzh9, hf⟩ := gc_el hf
      refine gx_ki (gx_runV (As := [.int za1, .int za2]) (rest := []) X hw (c_X12_placeAt l E N za0 za1 za2 zh8 qzh9) kX12_placeAt mm_X12_340 qizh9 clX12 ⟨Nat.le_of_ble_eq_true rfl, Nat.le_of_ble_eq_true rfl⟩ rfl rfl rfl hl.1 (Nat.le_of_ble_eq_true rfl) rfl dX12_where_30 ⟨Nat.le_of_ble_eq_true rfl, Nat.le_of_ble_eq_true rfl⟩) hw (fun H locs hw => ?_)
      exact gx_iret X hr hlk hw hf dX12_where_33
    · have hf := gif_t hf qc7
      exact J_20  _ _ _ ls hf hw (lv_sub hl [] rfl)
abbrev rm_X12_whoAt : Room := { frames := 1, cells := 0, slots := 0, locals := 25 }
set_option maxHeartbeats 4000000 in
set_option maxRecDepth 100000 in
theorem c_X12_whoAt (l : Launch) (E : gE) (N : Nat) (za0 : Nat) (za1 : Int32) (za2 : Int32) (zh : PH) {h9 : PH} {r9 : Int32} (hf : f_X12_whoAt N za0 za1 za2 zh = some (r9, h9)) : Met l yX12_whoAt (gWS yX12_whoAt cX12_whoAt 4 (some .int)) rm_X12_whoAt (gPc E [.ref (gB E + za0), .int za1, .int za2] zh) (gQi E r9 h9) 0 0 (gA E) := by
  refine gx_met (by decide) ?_ rfl
  intro p e s m below meth c X hr hlk hin2 hw
  have hx := X.1.1
  have hb := X.1.2.1
  have hl := lv_entry [.ref (gB E + za0), .int za1, .int za2] (n := 4) (Nat.le_of_ble_eq_true rfl)
  rw [lg_entry_eq]
  generalize (lg_sl [.ref (gB E + za0), .int za1, .int za2] ++ List.replicate (4 - (lg_sl [.ref (gB E + za0), .int za1, .int za2]).length) Slot.unset).toArray = ls at hl ⊢
  have hl : lv_has ls 4 [(0, .ref (gB E + za0)), (1, .int za1), (2, .int za2)] := hl
  have L_2 : ∀ (zn2 : Nat) (zv0 : Nat) (zv1 : Int32) (zv2 : Int32) (zv3 : Int32) (zh : PH) (H : Heap) (locs : List Loc) (ls : Array Slot), gi (fun zk zs => f_X12_whoAt_2 N zk zs.1 zs.2.1 zs.2.2.1 zs.2.2.2.1 zs.2.2.2.2) zn2 (zv0, zv1, zv2, zv3, zh) = some (r9, h9) → gw E s zh H locs → lv_has ls 4 [(0, .ref (gB E + zv0)), (1, .int zv1), (2, .int zv2), (3, .int zv3)] → W p l e rm_X12_whoAt s m [.ref (gB E + za0), .int za1, .int za2].toArray below meth c H locs 0 0 (MQ below (gQi E r9 h9) [.ref (gB E + za0), .int za1, .int za2].toArray s 0 0 (gA E)) (F0 m 2 ls []) := by
    intro zn2
    induction zn2 with
    | zero =>
      intro zv0 zv1 zv2 zv3 zh H locs ls hf
      cases hf
    | succ zn2 ih_2 =>
      intro zv0 zv1 zv2 zv3 zh H locs ls hf hw hl
      have hf := gi_s hf
      dsimp only at hf
      unfold f_X12_whoAt_2 at hf
      refine lv_iload_n hx hb dX12_whoAt_2 rfl (lv_at hl 3 rfl) ?_
      refine lv_aload_n hx hb dX12_whoAt_3 rfl (lv_at hl 0 rfl) ?_
      obtain ⟨qizh1, hf⟩ := gg_el hf
      obtain ⟨zt2, zh1, qzh1, hf⟩ := gc_el hf
      refine gx_ki (gx_runV (As := []) (rest := [.int zv3]) X hw (c_X12_guests l E N zv0 zh qzh1) kX12_guests mm_X12_234 qizh1 clX12 ⟨Nat.le_of_ble_eq_true rfl, Nat.le_of_ble_eq_true rfl⟩ rfl rfl rfl hl.1 (Nat.le_of_ble_eq_true rfl) rfl dX12_whoAt_4 ⟨Nat.le_of_ble_eq_true rfl, Nat.le_of_ble_eq_true rfl⟩) hw (fun H locs hw => ?_)
      refine lv_icmp_ge (tgt := 28) hx hb dX12_whoAt_7 (by decide) (fun qc3 => ?_) (fun qc3 => ?_)
      · have hf := gif_t hf qc3
        refine lv_iconst (v := (-1)) hx hb dX12_whoAt_28 (by decide) ?_
        exact gx_iret X hr hlk hw hf dX12_whoAt_29
      · have hf := gif_f hf qc3
        refine lv_aload_n hx hb dX12_whoAt_10 rfl (lv_at hl 0 rfl) ?_
        refine lv_iload_n hx hb dX12_whoAt_11 rfl (lv_at hl 3 rfl) ?_
        refine lv_iload_n hx hb dX12_whoAt_12 rfl (lv_at hl 2 rfl) ?_
        obtain ⟨qizh4, hf⟩ := gg_el hf
        obtain ⟨zt5, zh4, qzh4, hf⟩ := gc_el hf
        refine gx_ki (gx_runV (As := [.int zv3, .int zv2]) (rest := []) X hw (c_X12_placeAt l E N zv0 zv3 zv2 zh1 qzh4) kX12_placeAt mm_X12_340 qizh4 clX12 ⟨Nat.le_of_ble_eq_true rfl, Nat.le_of_ble_eq_true rfl⟩ rfl rfl rfl hl.1 (Nat.le_of_ble_eq_true rfl) rfl dX12_whoAt_13 ⟨Nat.le_of_ble_eq_true rfl, Nat.le_of_ble_eq_true rfl⟩) hw (fun H locs hw => ?_)
        refine lv_iload_n hx hb dX12_whoAt_16 rfl (lv_at hl 1 rfl) ?_
        refine W.eq (g2 := F0 m 17 ls [.int zv1, .int zt5]) rfl ?_
        refine lv_icmp_ne (tgt := 22) hx hb dX12_whoAt_17 (by decide) (fun qc6 => ?_) (fun qc6 => ?_)
        · have hf := gif_f hf qc6
          obtain ⟨zx7, ezx7⟩ : ∃ y : Int32, y = zv3 + 1 := ⟨_, rfl⟩
          have hf := gl_el hf ezx7
          refine lv_iinc (v := zx7) (lv' := [(3, .int zx7), (0, .ref (gB E + zv0)), (1, .int zv1), (2, .int zv2)]) hx hb dX12_whoAt_22 hl (k := 3) rfl (by rw [ezx7]; rfl) (by decide) rfl (fun ls hl => ?_)
          refine lv_goto (tgt := 2) hx hb dX12_whoAt_25 (by decide) ?_
          exact ih_2 zv0 zv1 zv2 zx7 _ _ _ ls hf hw (lv_sub hl [1, 2, 3, 0] rfl)
        · have hf := gif_t hf qc6
          refine lv_iload_n hx hb dX12_whoAt_20 rfl (lv_at hl 3 rfl) ?_
          exact gx_iret X hr hlk hw hf dX12_whoAt_21
  unfold f_X12_whoAt at hf
  refine lv_iconst (v := 0) hx hb dX12_whoAt_0 (by decide) ?_
  refine lv_istore_n (lv' := [(3, .int 0), (0, .ref (gB E + za0)), (1, .int za1), (2, .int za2)]) hx hb dX12_whoAt_1 rfl hl (by decide) rfl (fun ls hl => ?_)
  exact L_2 N za0 za1 za2 0 _ _ _ ls hf hw (lv_sub hl [1, 2, 3, 0] rfl)
abbrev rm_X12_who : Room := { frames := 6, cells := 0, slots := 0, locals := 140 }
set_option maxHeartbeats 4000000 in
set_option maxRecDepth 100000 in
theorem c_X12_who (l : Launch) (E : gE) (N : Nat) (za0 : Nat) (za1 : Int32) (za2 : Int32) (zh : PH) {h9 : PH} {r9 : Int32} (hf : f_X12_who N za0 za1 za2 zh = some (r9, h9)) : Met l yX12_who (gWS yX12_who cX12_who 3 (some .int)) rm_X12_who (gPc E [.ref (gB E + za0), .int za1, .int za2] zh) (gQi E r9 h9) 0 0 (gA E) := by
  refine gx_met (by decide) ?_ rfl
  intro p e s m below meth c X hr hlk hin2 hw
  have hx := X.1.1
  have hb := X.1.2.1
  have hl := lv_entry [.ref (gB E + za0), .int za1, .int za2] (n := 3) (Nat.le_of_ble_eq_true rfl)
  rw [lg_entry_eq]
  generalize (lg_sl [.ref (gB E + za0), .int za1, .int za2] ++ List.replicate (3 - (lg_sl [.ref (gB E + za0), .int za1, .int za2]).length) Slot.unset).toArray = ls at hl ⊢
  have hl : lv_has ls 3 [(0, .ref (gB E + za0)), (1, .int za1), (2, .int za2)] := hl
  have J_20 : ∀ (zh : PH) (H : Heap) (locs : List Loc) (ls : Array Slot), f_X12_who_20 N zh = some (r9, h9) → gw E s zh H locs → lv_has ls 3 [] → W p l e rm_X12_who s m [.ref (gB E + za0), .int za1, .int za2].toArray below meth c H locs 0 0 (MQ below (gQi E r9 h9) [.ref (gB E + za0), .int za1, .int za2].toArray s 0 0 (gA E)) (F0 m 20 ls []) := by
    intro zh H locs ls hf hw hl
    unfold f_X12_who_20 at hf
    refine lv_iconst (v := (-1)) hx hb dX12_who_20 (by decide) ?_
    exact gx_iret X hr hlk hw hf dX12_who_21
  unfold f_X12_who at hf
  refine lv_aload_n hx hb dX12_who_0 rfl (lv_at hl 0 rfl) ?_
  refine lv_iconst (v := 0) hx hb dX12_who_1 (by decide) ?_
  obtain ⟨zh1, qzh1, hf⟩ := gb_el hf
  refine gx_putV X hw qzh1 clX12 (by decide) mf_X12_1 rfl rfl rfl dX12_who_2 (fun H locs hw => ?_)
  refine lv_aload_n hx hb dX12_who_5 rfl (lv_at hl 0 rfl) ?_
  refine lv_iload_n hx hb dX12_who_6 rfl (lv_at hl 1 rfl) ?_
  obtain ⟨qizh2, hf⟩ := gg_el hf
  obtain ⟨zt3, zh2, qzh2, hf⟩ := gc_el hf
  refine gx_ki (gx_runV (As := [.int za1]) (rest := []) X hw (c_X12_isRoom l E N za0 za1 zh1 qzh2) kX12_isRoom mm_X12_309 qizh2 clX12 ⟨Nat.le_of_ble_eq_true rfl, Nat.le_of_ble_eq_true rfl⟩ rfl rfl rfl hl.1 (Nat.le_of_ble_eq_true rfl) rfl dX12_who_7 ⟨Nat.le_of_ble_eq_true rfl, Nat.le_of_ble_eq_true rfl⟩) hw (fun H locs hw => ?_)
  refine lv_if_eq (tgt := 20) hx hb dX12_who_10 (by decide) (fun qc4 => ?_) (fun qc4 => ?_)
  · have hf := gif_t hf qc4
    exact J_20  _ _ _ ls hf hw (lv_sub hl [] rfl)
  · have hf := gif_f hf qc4
    refine lv_iload_n hx hb dX12_who_13 rfl (lv_at hl 2 rfl) ?_
    obtain ⟨zt6, zh5, qzh5, hf⟩ := gc_el hf
    refine gx_ki (gx_runS (As := [.int za2]) (rest := []) X hw (c_X12_isMinute l E N za2 zh2 qzh5) kX12_isMinute mm_X12_337 ⟨Nat.le_of_ble_eq_true rfl, Nat.le_of_ble_eq_true rfl⟩ rfl rfl rfl hl.1 (Nat.le_of_ble_eq_true rfl) rfl dX12_who_14 ⟨Nat.le_of_ble_eq_true rfl, Nat.le_of_ble_eq_true rfl⟩) hw (fun H locs hw => ?_)
    refine W.eq (g2 := F0 m 17 ls [.int zt6]) rfl ?_
    refine lv_if_ne (tgt := 22) hx hb dX12_who_17 (by decide) (fun qc7 => ?_) (fun qc7 => ?_)
    · have hf := gif_f hf qc7
      refine lv_aload_n hx hb dX12_who_22 rfl (lv_at hl 0 rfl) ?_
      obtain ⟨qizh8, hf⟩ := gg_el hf
      obtain ⟨zh8, qzh8, hf⟩ := gb_el hf
      refine gx_kv (gx_runV (As := []) (rest := []) X hw (c_X12_find l E N za0 zh5 qzh8) kX12_find mm_X12_300 qizh8 clX12 ⟨Nat.le_of_ble_eq_true rfl, Nat.le_of_ble_eq_true rfl⟩ rfl rfl rfl hl.1 (Nat.le_of_ble_eq_true rfl) rfl dX12_who_23 ⟨Nat.le_of_ble_eq_true rfl, Nat.le_of_ble_eq_true rfl⟩) hw (fun H locs hw => ?_)
      refine lv_aload_n hx hb dX12_who_26 rfl (lv_at hl 0 rfl) ?_
      refine lv_iload_n hx hb dX12_who_27 rfl (lv_at hl 1 rfl) ?_
      refine lv_iload_n hx hb dX12_who_28 rfl (lv_at hl 2 rfl) ?_
      obtain ⟨qizh9, hf⟩ := gg_el hf
      obtain ⟨zt10, zh9, qzh9, hf⟩ := gc_el hf
      refine gx_ki (gx_runV (As := [.int za1, .int za2]) (rest := []) X hw (c_X12_whoAt l E N za0 za1 za2 zh8 qzh9) kX12_whoAt mm_X12_343 qizh9 clX12 ⟨Nat.le_of_ble_eq_true rfl, Nat.le_of_ble_eq_true rfl⟩ rfl rfl rfl hl.1 (Nat.le_of_ble_eq_true rfl) rfl dX12_who_29 ⟨Nat.le_of_ble_eq_true rfl, Nat.le_of_ble_eq_true rfl⟩) hw (fun H locs hw => ?_)
      exact gx_iret X hr hlk hw hf dX12_who_32
    · have hf := gif_t hf qc7
      exact J_20  _ _ _ ls hf hw (lv_sub hl [] rfl)
abbrev rm_X12_letter : Room := { frames := 6, cells := 0, slots := 0, locals := 140 }
set_option maxHeartbeats 4000000 in
set_option maxRecDepth 100000 in
theorem c_X12_letter (l : Launch) (E : gE) (N : Nat) (za0 : Nat) (za1 : Int32) (za2 : Int32) (za3 : Int32) (zh : PH) {h9 : PH} {r9 : Int32} (hf : f_X12_letter N za0 za1 za2 za3 zh = some (r9, h9)) : Met l yX12_letter (gWS yX12_letter cX12_letter 5 (some .int)) rm_X12_letter (gPc E [.ref (gB E + za0), .int za1, .int za2, .int za3] zh) (gQi E r9 h9) 0 0 (gA E) := by
  refine gx_met (by decide) ?_ rfl
  intro p e s m below meth c X hr hlk hin2 hw
  have hx := X.1.1
  have hb := X.1.2.1
  have hl := lv_entry [.ref (gB E + za0), .int za1, .int za2, .int za3] (n := 5) (Nat.le_of_ble_eq_true rfl)
  rw [lg_entry_eq]
  generalize (lg_sl [.ref (gB E + za0), .int za1, .int za2, .int za3] ++ List.replicate (5 - (lg_sl [.ref (gB E + za0), .int za1, .int za2, .int za3]).length) Slot.unset).toArray = ls at hl ⊢
  have hl : lv_has ls 5 [(0, .ref (gB E + za0)), (1, .int za1), (2, .int za2), (3, .int za3)] := hl
  have J_62 : ∀ (zs0 : Int32) (zh : PH) (H : Heap) (locs : List Loc) (ls : Array Slot), f_X12_letter_62 N zs0 zh = some (r9, h9) → gw E s zh H locs → lv_has ls 5 [] → W p l e rm_X12_letter s m [.ref (gB E + za0), .int za1, .int za2, .int za3].toArray below meth c H locs 0 0 (MQ below (gQi E r9 h9) [.ref (gB E + za0), .int za1, .int za2, .int za3].toArray s 0 0 (gA E)) (F0 m 62 ls [.int zs0]) := by
    intro zs0 zh H locs ls hf hw hl
    unfold f_X12_letter_62 at hf
    exact gx_iret X hr hlk hw hf dX12_letter_62
  have J_32 : ∀ (zh : PH) (H : Heap) (locs : List Loc) (ls : Array Slot), f_X12_letter_32 N zh = some (r9, h9) → gw E s zh H locs → lv_has ls 5 [] → W p l e rm_X12_letter s m [.ref (gB E + za0), .int za1, .int za2, .int za3].toArray below meth c H locs 0 0 (MQ below (gQi E r9 h9) [.ref (gB E + za0), .int za1, .int za2, .int za3].toArray s 0 0 (gA E)) (F0 m 32 ls []) := by
    intro zh H locs ls hf hw hl
    unfold f_X12_letter_32 at hf
    refine lv_iconst (v := (-1)) hx hb dX12_letter_32 (by decide) ?_
    exact gx_iret X hr hlk hw hf dX12_letter_33
  unfold f_X12_letter at hf
  refine lv_aload_n hx hb dX12_letter_0 rfl (lv_at hl 0 rfl) ?_
  refine lv_iconst (v := 0) hx hb dX12_letter_1 (by decide) ?_
  obtain ⟨zh1, qzh1, hf⟩ := gb_el hf
  refine gx_putV X hw qzh1 clX12 (by decide) mf_X12_1 rfl rfl rfl dX12_letter_2 (fun H locs hw => ?_)
  refine lv_aload_n hx hb dX12_letter_5 rfl (lv_at hl 0 rfl) ?_
  refine lv_iload_n hx hb dX12_letter_6 rfl (lv_at hl 1 rfl) ?_
  obtain ⟨qizh2, hf⟩ := gg_el hf
  obtain ⟨zt3, zh2, qzh2, hf⟩ := gc_el hf
  refine gx_ki (gx_runV (As := [.int za1]) (rest := []) X hw (c_X12_isGuest l E N za0 za1 zh1 qzh2) kX12_isGuest mm_X12_312 qizh2 clX12 ⟨Nat.le_of_ble_eq_true rfl, Nat.le_of_ble_eq_true rfl⟩ rfl rfl rfl hl.1 (Nat.le_of_ble_eq_true rfl) rfl dX12_letter_7 ⟨Nat.le_of_ble_eq_true rfl, Nat.le_of_ble_eq_true rfl⟩) hw (fun H locs hw => ?_)
  refine lv_if_eq (tgt := 32) hx hb dX12_letter_10 (by decide) (fun qc4 => ?_) (fun qc4 => ?_)
  · have hf := gif_t hf qc4
    exact J_32  _ _ _ ls hf hw (lv_sub hl [] rfl)
  · have hf := gif_f hf qc4
    refine lv_iload_n hx hb dX12_letter_13 rfl (lv_at hl 2 rfl) ?_
    obtain ⟨zt6, zh5, qzh5, hf⟩ := gc_el hf
    refine gx_ki (gx_runS (As := [.int za2]) (rest := []) X hw (c_X12_isMinute l E N za2 zh2 qzh5) kX12_isMinute mm_X12_337 ⟨Nat.le_of_ble_eq_true rfl, Nat.le_of_ble_eq_true rfl⟩ rfl rfl rfl hl.1 (Nat.le_of_ble_eq_true rfl) rfl dX12_letter_14 ⟨Nat.le_of_ble_eq_true rfl, Nat.le_of_ble_eq_true rfl⟩) hw (fun H locs hw => ?_)
    refine W.eq (g2 := F0 m 17 ls [.int zt6]) rfl ?_
    refine lv_if_eq (tgt := 32) hx hb dX12_letter_17 (by decide) (fun qc7 => ?_) (fun qc7 => ?_)
    · have hf := gif_t hf qc7
      exact J_32  _ _ _ ls hf hw (lv_sub hl [] rfl)
    · have hf := gif_f hf qc7
      refine lv_iload_n hx hb dX12_letter_20 rfl (lv_at hl 3 rfl) ?_
      obtain ⟨zt9, zh8, qzh8, hf⟩ := gc_el hf
      refine gx_ki (gx_runS (As := [.int za3]) (rest := []) X hw (c_X12_isMinute l E N za3 zh5 qzh8) kX12_isMinute mm_X12_337 ⟨Nat.le_of_ble_eq_true rfl, Nat.le_of_ble_eq_true rfl⟩ rfl rfl rfl hl.1 (Nat.le_of_ble_eq_true rfl) rfl dX12_letter_21 ⟨Nat.le_of_ble_eq_true rfl, Nat.le_of_ble_eq_true rfl⟩) hw (fun H locs hw => ?_)
      refine lv_if_eq (tgt := 32) hx hb dX12_letter_24 (by decide) (fun qc10 => ?_) (fun qc10 => ?_)
      · have hf := gif_t hf qc10
        exact J_32  _ _ _ ls hf hw (lv_sub hl [] rfl)
      · have hf := gif_f hf qc10
        refine lv_iload_n hx hb dX12_letter_27 rfl (lv_at hl 3 rfl) ?_
        refine lv_iload_n hx hb dX12_letter_28 rfl (lv_at hl 2 rfl) ?_
        refine lv_icmp_ge (tgt := 34) hx hb dX12_letter_29 (by decide) (fun qc11 => ?_) (fun qc11 => ?_)
        · have hf := gif_t hf qc11
          refine lv_aload_n hx hb dX12_letter_34 rfl (lv_at hl 0 rfl) ?_
          obtain ⟨qizh12, hf⟩ := gg_el hf
          obtain ⟨zh12, qzh12, hf⟩ := gb_el hf
          refine gx_kv (gx_runV (As := []) (rest := []) X hw (c_X12_find l E N za0 zh8 qzh12) kX12_find mm_X12_300 qizh12 clX12 ⟨Nat.le_of_ble_eq_true rfl, Nat.le_of_ble_eq_true rfl⟩ rfl rfl rfl hl.1 (Nat.le_of_ble_eq_true rfl) rfl dX12_letter_35 ⟨Nat.le_of_ble_eq_true rfl, Nat.le_of_ble_eq_true rfl⟩) hw (fun H locs hw => ?_)
          refine lv_aload_n hx hb dX12_letter_38 rfl (lv_at hl 0 rfl) ?_
          refine W.eq (g2 := F0 m 39 ls [.ref (gB E + za0)]) rfl ?_
          refine lv_iload_n hx hb dX12_letter_39 rfl (lv_at hl 1 rfl) ?_
          refine lv_iload_n hx hb dX12_letter_40 rfl (lv_at hl 2 rfl) ?_
          obtain ⟨qizh13, hf⟩ := gg_el hf
          obtain ⟨zt14, zh13, qzh13, hf⟩ := gc_el hf
          refine gx_ki (gx_runV (As := [.int za1, .int za2]) (rest := []) X hw (c_X12_placeAt l E N za0 za1 za2 zh12 qzh13) kX12_placeAt mm_X12_340 qizh13 clX12 ⟨Nat.le_of_ble_eq_true rfl, Nat.le_of_ble_eq_true rfl⟩ rfl rfl rfl hl.1 (Nat.le_of_ble_eq_true rfl) rfl dX12_letter_41 ⟨Nat.le_of_ble_eq_true rfl, Nat.le_of_ble_eq_true rfl⟩) hw (fun H locs hw => ?_)
          refine lv_istore (lv' := [(4, .int zt14), (0, .ref (gB E + za0)), (1, .int za1), (2, .int za2), (3, .int za3)]) hx hb dX12_letter_44 hl (by decide) rfl (fun ls hl => ?_)
          refine lv_iload hx hb dX12_letter_46 (lv_at hl 0 rfl) ?_
          refine lv_if_ge (tgt := 55) hx hb dX12_letter_48 (by decide) (fun qc15 => ?_) (fun qc15 => ?_)
          · have hf := gif_t hf qc15
            refine lv_aload_n hx hb dX12_letter_55 rfl (lv_at hl 1 rfl) ?_
            refine lv_iload hx hb dX12_letter_56 (lv_at hl 0 rfl) ?_
            refine lv_iload_n hx hb dX12_letter_58 rfl (lv_at hl 4 rfl) ?_
            obtain ⟨qizh16, hf⟩ := gg_el hf
            obtain ⟨zt17, zh16, qzh16, hf⟩ := gc_el hf
            refine gx_ki (gx_runV (As := [.int zt14, .int za3]) (rest := []) X hw (c_X12_whoAt l E N za0 zt14 za3 zh13 qzh16) kX12_whoAt mm_X12_343 qizh16 clX12 ⟨Nat.le_of_ble_eq_true rfl, Nat.le_of_ble_eq_true rfl⟩ rfl rfl rfl hl.1 (Nat.le_of_ble_eq_true rfl) rfl dX12_letter_59 ⟨Nat.le_of_ble_eq_true rfl, Nat.le_of_ble_eq_true rfl⟩) hw (fun H locs hw => ?_)
            exact J_62 zt17 _ _ _ ls hf hw (lv_sub hl [] rfl)
          · have hf := gif_f hf qc15
            refine lv_iconst (v := (-1)) hx hb dX12_letter_51 (by decide) ?_
            refine lv_goto (tgt := 62) hx hb dX12_letter_52 (by decide) ?_
            exact J_62 (-1) _ _ _ ls hf hw (lv_sub hl [] rfl)
        · have hf := gif_f hf qc11
          exact J_32  _ _ _ ls hf hw (lv_sub hl [] rfl)
abbrev rm_X12_stays : Room := { frames := 0, cells := 0, slots := 0, locals := 0 }
set_option maxHeartbeats 4000000 in
set_option maxRecDepth 100000 in
theorem c_X12_stays (l : Launch) (E : gE) (N : Nat) (za0 : Nat) (za1 : Int32) (zh : PH) {h9 : PH} {r9 : Int32} (hf : f_X12_stays N za0 za1 zh = some (r9, h9)) : Met l yX12_stays (gWS yX12_stays cX12_stays 3 (some .int)) rm_X12_stays (gPc E [.ref (gB E + za0), .int za1] zh) (gQi E r9 h9) 0 0 (gA E) := by
  refine gx_met (by decide) ?_ rfl
  intro p e s m below meth c X hr hlk hin2 hw
  have hx := X.1.1
  have hb := X.1.2.1
  have hl := lv_entry [.ref (gB E + za0), .int za1] (n := 3) (Nat.le_of_ble_eq_true rfl)
  rw [lg_entry_eq]
  generalize (lg_sl [.ref (gB E + za0), .int za1] ++ List.replicate (3 - (lg_sl [.ref (gB E + za0), .int za1]).length) Slot.unset).toArray = ls at hl ⊢
  have hl : lv_has ls 3 [(0, .ref (gB E + za0)), (1, .int za1)] := hl
  have L_4 : ∀ (zn4 : Nat) (zv0 : Nat) (zv1 : Int32) (zv2 : Int32) (zh : PH) (H : Heap) (locs : List Loc) (ls : Array Slot), gi (fun zk zs => f_X12_stays_4 N zk zs.1 zs.2.1 zs.2.2.1 zs.2.2.2) zn4 (zv0, zv1, zv2, zh) = some (r9, h9) → gw E s zh H locs → lv_has ls 3 [(0, .ref (gB E + zv0)), (1, .int zv1), (2, .int zv2)] → W p l e rm_X12_stays s m [.ref (gB E + za0), .int za1].toArray below meth c H locs 0 0 (MQ below (gQi E r9 h9) [.ref (gB E + za0), .int za1].toArray s 0 0 (gA E)) (F0 m 4 ls []) := by
    intro zn4
    induction zn4 with
    | zero =>
      intro zv0 zv1 zv2 zh H locs ls hf
      cases hf
    | succ zn4 ih_4 =>
      intro zv0 zv1 zv2 zh H locs ls hf hw hl
      have hf := gi_s hf
      dsimp only at hf
      unfold f_X12_stays_4 at hf
      refine lv_iload_n hx hb dX12_stays_4 rfl (lv_at hl 2 rfl) ?_
      refine lv_aload_n hx hb dX12_stays_5 rfl (lv_at hl 0 rfl) ?_
      obtain ⟨zt1, qzt1, hf⟩ := gb_el hf
      refine gx_getI X hw qzt1 clX12 (by decide) mf_X12_255 dX12_stays_6 ?_
      refine lv_icmp_ge (tgt := 48) hx hb dX12_stays_9 (by decide) (fun qc2 => ?_) (fun qc2 => ?_)
      · have hf := gif_t hf qc2
        refine lv_ldcw (v := 100000000) hx hb X.1.2.2.2.1 (X.1.2.2.2.2 _ mk_X12_346) dX12_stays_48 ?_
        exact gx_iret X hr hlk hw hf dX12_stays_51
      · have hf := gif_f hf qc2
        refine lv_aload_n hx hb dX12_stays_12 rfl (lv_at hl 0 rfl) ?_
        obtain ⟨zt3, qzt3, hf⟩ := gb_el hf
        refine gx_getR X hw qzt3 clX12 (by decide) mf_X12_99 dX12_stays_13 ?_
        refine lv_iconst (v := 5) hx hb dX12_stays_16 (by decide) ?_
        refine lv_iload_n hx hb dX12_stays_17 rfl (lv_at hl 2 rfl) ?_
        refine lv_imul hx hb dX12_stays_18 ?_
        refine W.eq (g2 := F0 m 19 ls [.int (5 * zv2), .ref (gB E + zt3)]) rfl ?_
        obtain ⟨zt4, qzt4, hf⟩ := gb_el hf
        refine gx_iald X hw qzt4 dX12_stays_19 ?_
        refine lv_aload_n hx hb dX12_stays_20 rfl (lv_at hl 0 rfl) ?_
        obtain ⟨zt5, qzt5, hf⟩ := gb_el hf
        refine gx_getR X hw qzt5 clX12 (by decide) mf_X12_99 dX12_stays_21 ?_
        refine lv_iconst (v := 5) hx hb dX12_stays_24 (by decide) ?_
        refine lv_iload_n hx hb dX12_stays_25 rfl (lv_at hl 1 rfl) ?_
        refine lv_imul hx hb dX12_stays_26 ?_
        obtain ⟨zt6, qzt6, hf⟩ := gb_el hf
        refine gx_iald X hw qzt6 dX12_stays_27 ?_
        refine lv_icmp_ne (tgt := 42) hx hb dX12_stays_28 (by decide) (fun qc7 => ?_) (fun qc7 => ?_)
        · have hf := gif_f hf qc7
          obtain ⟨zx8, ezx8⟩ : ∃ y : Int32, y = zv2 + 1 := ⟨_, rfl⟩
          have hf := gl_el hf ezx8
          refine lv_iinc (v := zx8) (lv' := [(2, .int zx8), (0, .ref (gB E + zv0)), (1, .int zv1)]) hx hb dX12_stays_42 hl (k := 2) rfl (by rw [ezx8]; rfl) (by decide) rfl (fun ls hl => ?_)
          refine lv_goto (tgt := 4) hx hb dX12_stays_45 (by decide) ?_
          exact ih_4 zv0 zv1 zx8 _ _ _ ls hf hw (lv_sub hl [1, 2, 0] rfl)
        · have hf := gif_t hf qc7
          refine lv_aload_n hx hb dX12_stays_31 rfl (lv_at hl 0 rfl) ?_
          obtain ⟨zt9, qzt9, hf⟩ := gb_el hf
          refine gx_getR X hw qzt9 clX12 (by decide) mf_X12_99 dX12_stays_32 ?_
          refine W.eq (g2 := F0 m 35 ls [.ref (gB E + zt9)]) rfl ?_
          refine lv_iconst (v := 5) hx hb dX12_stays_35 (by decide) ?_
          refine lv_iload_n hx hb dX12_stays_36 rfl (lv_at hl 2 rfl) ?_
          refine lv_imul hx hb dX12_stays_37 ?_
          refine lv_iconst (v := 3) hx hb dX12_stays_38 (by decide) ?_
          refine lv_iadd hx hb dX12_stays_39 ?_
          obtain ⟨zt10, qzt10, hf⟩ := gb_el hf
          refine gx_iald X hw qzt10 dX12_stays_40 ?_
          exact gx_iret X hr hlk hw hf dX12_stays_41
  unfold f_X12_stays at hf
  refine lv_iload_n hx hb dX12_stays_0 rfl (lv_at hl 1 rfl) ?_
  refine lv_iconst (v := 1) hx hb dX12_stays_1 (by decide) ?_
  refine lv_iadd hx hb dX12_stays_2 ?_
  refine lv_topi (fun zx1 ezx1 => ?_)
  have hf := gl_el hf ezx1
  refine lv_istore_n (lv' := [(2, .int zx1), (0, .ref (gB E + za0)), (1, .int za1)]) hx hb dX12_stays_3 rfl hl (by decide) rfl (fun ls hl => ?_)
  exact L_4 N za0 za1 zx1 _ _ _ ls hf hw (lv_sub hl [1, 2, 0] rfl)
abbrev rm_X12_trunk : Room := { frames := 6, cells := 0, slots := 0, locals := 140 }
set_option maxHeartbeats 4000000 in
set_option maxRecDepth 100000 in
theorem c_X12_trunk (l : Launch) (E : gE) (N : Nat) (za0 : Nat) (za1 : Int32) (za2 : Int32) (za3 : Int32) (zh : PH) {h9 : PH} {r9 : Int32} (hf : f_X12_trunk N za0 za1 za2 za3 zh = some (r9, h9)) : Met l yX12_trunk (gWS yX12_trunk cX12_trunk 8 (some .int)) rm_X12_trunk (gPc E [.ref (gB E + za0), .int za1, .int za2, .int za3] zh) (gQi E r9 h9) 0 0 (gA E) := by
  refine gx_met (by decide) ?_ rfl
  intro p e s m below meth c X hr hlk hin2 hw
  have hx := X.1.1
  have hb := X.1.2.1
  have hl := lv_entry [.ref (gB E + za0), .int za1, .int za2, .int za3] (n := 8) (Nat.le_of_ble_eq_true rfl)
  rw [lg_entry_eq]
  generalize (lg_sl [.ref (gB E + za0), .int za1, .int za2, .int za3] ++ List.replicate (8 - (lg_sl [.ref (gB E + za0), .int za1, .int za2, .int za3]).length) Slot.unset).toArray = ls at hl ⊢
  have hl : lv_has ls 8 [(0, .ref (gB E + za0)), (1, .int za1), (2, .int za2), (3, .int za3)] := hl
  have L_44 : ∀ (zn44 : Nat) (zv0 : Nat) (zv1 : Int32) (zv2 : Int32) (zv3 : Int32) (zv4 : Int32) (zv5 : Int32) (zh : PH) (H : Heap) (locs : List Loc) (ls : Array Slot), gi (fun zk zs => f_X12_trunk_44 N zk zs.1 zs.2.1 zs.2.2.1 zs.2.2.2.1 zs.2.2.2.2.1 zs.2.2.2.2.2.1 zs.2.2.2.2.2.2) zn44 (zv0, zv1, zv2, zv3, zv4, zv5, zh) = some (r9, h9) → gw E s zh H locs → lv_has ls 8 [(0, .ref (gB E + zv0)), (1, .int zv1), (2, .int zv2), (3, .int zv3), (4, .int zv4), (5, .int zv5)] → W p l e rm_X12_trunk s m [.ref (gB E + za0), .int za1, .int za2, .int za3].toArray below meth c H locs 0 0 (MQ below (gQi E r9 h9) [.ref (gB E + za0), .int za1, .int za2, .int za3].toArray s 0 0 (gA E)) (F0 m 44 ls []) := by
    intro zn44
    induction zn44 with
    | zero =>
      intro zv0 zv1 zv2 zv3 zv4 zv5 zh H locs ls hf
      cases hf
    | succ zn44 ih_44 =>
      have J_153 : ∀ (zv0 : Nat) (zv1 : Int32) (zv2 : Int32) (zv3 : Int32) (zv4 : Int32) (zv5 : Int32) (zh : PH) (H : Heap) (locs : List Loc) (ls : Array Slot), f_X12_trunk_153 N (gi (fun zk zs => f_X12_trunk_44 N zk zs.1 zs.2.1 zs.2.2.1 zs.2.2.2.1 zs.2.2.2.2.1 zs.2.2.2.2.2.1 zs.2.2.2.2.2.2) zn44) zv0 zv1 zv2 zv3 zv4 zv5 zh = some (r9, h9) → gw E s zh H locs → lv_has ls 8 [(0, .ref (gB E + zv0)), (1, .int zv1), (2, .int zv2), (3, .int zv3), (4, .int zv4), (5, .int zv5)] → W p l e rm_X12_trunk s m [.ref (gB E + za0), .int za1, .int za2, .int za3].toArray below meth c H locs 0 0 (MQ below (gQi E r9 h9) [.ref (gB E + za0), .int za1, .int za2, .int za3].toArray s 0 0 (gA E)) (F0 m 153 ls []) := by
        intro zv0 zv1 zv2 zv3 zv4 zv5 zh H locs ls hf hw hl
        unfold f_X12_trunk_153 at hf
        obtain ⟨zx1, ezx1⟩ : ∃ y : Int32, y = zv5 + 1 := ⟨_, rfl⟩
        have hf := gl_el hf ezx1
        refine lv_iinc (v := zx1) (lv' := [(5, .int zx1), (0, .ref (gB E + zv0)), (1, .int zv1), (2, .int zv2), (3, .int zv3), (4, .int zv4)]) hx hb dX12_trunk_153 hl (k := 5) rfl (by rw [ezx1]; rfl) (by decide) rfl (fun ls hl => ?_)
        refine lv_goto (tgt := 44) hx hb dX12_trunk_156 (by decide) ?_
        exact ih_44 zv0 zv1 zv2 zv3 zv4 zx1 _ _ _ ls hf hw (lv_sub hl [1, 2, 3, 4, 5, 0] rfl)
      have J_150 : ∀ (zv0 : Nat) (zv1 : Int32) (zv2 : Int32) (zv3 : Int32) (zv5 : Int32) (zs0 : Int32) (zs1 : Int32) (zh : PH) (H : Heap) (locs : List Loc) (ls : Array Slot), f_X12_trunk_150 N (gi (fun zk zs => f_X12_trunk_44 N zk zs.1 zs.2.1 zs.2.2.1 zs.2.2.2.1 zs.2.2.2.2.1 zs.2.2.2.2.2.1 zs.2.2.2.2.2.2) zn44) zv0 zv1 zv2 zv3 zv5 zs0 zs1 zh = some (r9, h9) → gw E s zh H locs → lv_has ls 8 [(0, .ref (gB E + zv0)), (1, .int zv1), (2, .int zv2), (3, .int zv3), (5, .int zv5)] → W p l e rm_X12_trunk s m [.ref (gB E + za0), .int za1, .int za2, .int za3].toArray below meth c H locs 0 0 (MQ below (gQi E r9 h9) [.ref (gB E + za0), .int za1, .int za2, .int za3].toArray s 0 0 (gA E)) (F0 m 150 ls [.int zs0, .int zs1]) := by
        intro zv0 zv1 zv2 zv3 zv5 zs0 zs1 zh H locs ls hf hw hl
        unfold f_X12_trunk_150 at hf
        refine lv_ior hx hb dX12_trunk_150 ?_
        refine lv_topi (fun zx1 ezx1 => ?_)
        have hf := gl_el hf ezx1
        refine lv_istore (lv' := [(4, .int zx1), (0, .ref (gB E + zv0)), (1, .int zv1), (2, .int zv2), (3, .int zv3), (5, .int zv5)]) hx hb dX12_trunk_151 hl (by decide) rfl (fun ls hl => ?_)
        exact J_153 zv0 zv1 zv2 zv3 zx1 zv5 _ _ _ ls hf hw (lv_sub hl [1, 2, 3, 4, 0, 5] rfl)
      have J_124 : ∀ (zv0 : Nat) (zv1 : Int32) (zv2 : Int32) (zv3 : Int32) (zv4 : Int32) (zv5 : Int32) (zv6 : Int32) (zs0 : Int32) (zh : PH) (H : Heap) (locs : List Loc) (ls : Array Slot), f_X12_trunk_124 N (gi (fun zk zs => f_X12_trunk_44 N zk zs.1 zs.2.1 zs.2.2.1 zs.2.2.2.1 zs.2.2.2.2.1 zs.2.2.2.2.2.1 zs.2.2.2.2.2.2) zn44) zv0 zv1 zv2 zv3 zv4 zv5 zv6 zs0 zh = some (r9, h9) → gw E s zh H locs → lv_has ls 8 [(0, .ref (gB E + zv0)), (1, .int zv1), (2, .int zv2), (3, .int zv3), (4, .int zv4), (5, .int zv5), (6, .int zv6)] → W p l e rm_X12_trunk s m [.ref (gB E + za0), .int za1, .int za2, .int za3].toArray below meth c H locs 0 0 (MQ below (gQi E r9 h9) [.ref (gB E + za0), .int za1, .int za2, .int za3].toArray s 0 0 (gA E)) (F0 m 124 ls [.int zs0]) := by
        intro zv0 zv1 zv2 zv3 zv4 zv5 zv6 zs0 zh H locs ls hf hw hl
        unfold f_X12_trunk_124 at hf
        refine lv_istore (lv' := [(7, .int zs0), (0, .ref (gB E + zv0)), (1, .int zv1), (2, .int zv2), (3, .int zv3), (4, .int zv4), (5, .int zv5), (6, .int zv6)]) hx hb dX12_trunk_124 hl (by decide) rfl (fun ls hl => ?_)
        refine lv_iload hx hb dX12_trunk_126 (lv_at hl 5 rfl) ?_
        refine lv_iload hx hb dX12_trunk_128 (lv_at hl 7 rfl) ?_
        refine lv_iload hx hb dX12_trunk_130 (lv_at hl 0 rfl) ?_
        refine lv_icmp_gt (tgt := 149) hx hb dX12_trunk_132 (by decide) (fun qc1 => ?_) (fun qc1 => ?_)
        · have hf := gif_t hf qc1
          refine lv_iconst (v := 0) hx hb dX12_trunk_149 (by decide) ?_
          exact J_150 zv0 zv1 zv2 zv3 zv5 0 zv4 _ _ _ ls hf hw (lv_sub hl [1, 2, 3, 4, 6] rfl)
        · have hf := gif_f hf qc1
          refine lv_iconst (v := 1) hx hb dX12_trunk_135 (by decide) ?_
          refine lv_aload_n hx hb dX12_trunk_136 rfl (lv_at hl 1 rfl) ?_
          obtain ⟨zt2, qzt2, hf⟩ := gb_el hf
          refine gx_getR X hw qzt2 clX12 (by decide) mf_X12_99 dX12_trunk_137 ?_
          refine lv_iconst (v := 5) hx hb dX12_trunk_140 (by decide) ?_
          refine W.eq (g2 := F0 m 141 ls [.int 5, .ref (gB E + zt2), .int 1, .int zv4]) rfl ?_
          refine lv_iload hx hb dX12_trunk_141 (lv_at hl 6 rfl) ?_
          refine lv_imul hx hb dX12_trunk_143 ?_
          obtain ⟨zt3, qzt3, hf⟩ := gb_el hf
          refine gx_iald X hw qzt3 dX12_trunk_144 ?_
          refine lv_ishl hx hb dX12_trunk_145 ?_
          refine lv_goto (tgt := 150) hx hb dX12_trunk_146 (by decide) ?_
          exact J_150 zv0 zv1 zv2 zv3 zv5 (1 <<< (zt3 &&& 31)) zv4 _ _ _ ls hf hw (lv_sub hl [1, 2, 3, 4, 6] rfl)
      have J_98 : ∀ (zv0 : Nat) (zv1 : Int32) (zv2 : Int32) (zv3 : Int32) (zv4 : Int32) (zv5 : Int32) (zs0 : Int32) (zh : PH) (H : Heap) (locs : List Loc) (ls : Array Slot), f_X12_trunk_98 N (gi (fun zk zs => f_X12_trunk_44 N zk zs.1 zs.2.1 zs.2.2.1 zs.2.2.2.1 zs.2.2.2.2.1 zs.2.2.2.2.2.1 zs.2.2.2.2.2.2) zn44) zv0 zv1 zv2 zv3 zv4 zv5 zs0 zh = some (r9, h9) → gw E s zh H locs → lv_has ls 8 [(0, .ref (gB E + zv0)), (1, .int zv1), (2, .int zv2), (3, .int zv3), (4, .int zv4), (5, .int zv5)] → W p l e rm_X12_trunk s m [.ref (gB E + za0), .int za1, .int za2, .int za3].toArray below meth c H locs 0 0 (MQ below (gQi E r9 h9) [.ref (gB E + za0), .int za1, .int za2, .int za3].toArray s 0 0 (gA E)) (F0 m 98 ls [.int zs0]) := by
        intro zv0 zv1 zv2 zv3 zv4 zv5 zs0 zh H locs ls hf hw hl
        unfold f_X12_trunk_98 at hf
        refine lv_istore (lv' := [(6, .int zs0), (0, .ref (gB E + zv0)), (1, .int zv1), (2, .int zv2), (3, .int zv3), (4, .int zv4), (5, .int zv5)]) hx hb dX12_trunk_98 hl (by decide) rfl (fun ls hl => ?_)
        refine lv_aload_n hx hb dX12_trunk_100 rfl (lv_at hl 1 rfl) ?_
        refine lv_iload hx hb dX12_trunk_101 (lv_at hl 6 rfl) ?_
        obtain ⟨qizh1, hf⟩ := gg_el hf
        obtain ⟨zt2, zh1, qzh1, hf⟩ := gc_el hf
        refine gx_ki (gx_runV (As := [.int zv5]) (rest := []) X hw (c_X12_stays l E N zv0 zv5 zh qzh1) kX12_stays mm_X12_347 qizh1 clX12 ⟨Nat.le_of_ble_eq_true rfl, Nat.le_of_ble_eq_true rfl⟩ rfl rfl rfl hl.1 (Nat.le_of_ble_eq_true rfl) rfl dX12_trunk_103 ⟨Nat.le_of_ble_eq_true rfl, Nat.le_of_ble_eq_true rfl⟩) hw (fun H locs hw => ?_)
        refine lv_iconst (v := 1) hx hb dX12_trunk_106 (by decide) ?_
        refine lv_isub hx hb dX12_trunk_107 ?_
        refine lv_iload_n hx hb dX12_trunk_108 rfl (lv_at hl 4 rfl) ?_
        refine lv_icmp_ge (tgt := 123) hx hb dX12_trunk_109 (by decide) (fun qc3 => ?_) (fun qc3 => ?_)
        · have hf := gif_t hf qc3
          refine lv_iload_n hx hb dX12_trunk_123 rfl (lv_at hl 4 rfl) ?_
          exact J_124 zv0 zv1 zv2 zv3 zv4 zv5 zs0 zv3 _ _ _ ls hf hw (lv_sub hl [1, 2, 3, 4, 5, 6, 0] rfl)
        · have hf := gif_f hf qc3
          refine lv_aload_n hx hb dX12_trunk_112 rfl (lv_at hl 1 rfl) ?_
          refine W.eq (g2 := F0 m 113 ls [.ref (gB E + zv0)]) rfl ?_
          refine lv_iload hx hb dX12_trunk_113 (lv_at hl 6 rfl) ?_
          obtain ⟨qizh4, hf⟩ := gg_el hf
          obtain ⟨zt5, zh4, qzh4, hf⟩ := gc_el hf
          refine gx_ki (gx_runV (As := [.int zv5]) (rest := []) X hw (c_X12_stays l E N zv0 zv5 zh1 qzh4) kX12_stays mm_X12_347 qizh4 clX12 ⟨Nat.le_of_ble_eq_true rfl, Nat.le_of_ble_eq_true rfl⟩ rfl rfl rfl hl.1 (Nat.le_of_ble_eq_true rfl) rfl dX12_trunk_115 ⟨Nat.le_of_ble_eq_true rfl, Nat.le_of_ble_eq_true rfl⟩) hw (fun H locs hw => ?_)
          refine lv_iconst (v := 1) hx hb dX12_trunk_118 (by decide) ?_
          refine lv_isub hx hb dX12_trunk_119 ?_
          refine lv_goto (tgt := 124) hx hb dX12_trunk_120 (by decide) ?_
          exact J_124 zv0 zv1 zv2 zv3 zv4 zv5 zs0 (zt5 - 1) _ _ _ ls hf hw (lv_sub hl [1, 2, 3, 4, 5, 6, 0] rfl)
      intro zv0 zv1 zv2 zv3 zv4 zv5 zh H locs ls hf hw hl
      have hf := gi_s hf
      dsimp only at hf
      unfold f_X12_trunk_44 at hf
      refine lv_iload hx hb dX12_trunk_44 (lv_at hl 5 rfl) ?_
      refine lv_aload_n hx hb dX12_trunk_46 rfl (lv_at hl 0 rfl) ?_
      obtain ⟨zt1, qzt1, hf⟩ := gb_el hf
      refine gx_getI X hw qzt1 clX12 (by decide) mf_X12_255 dX12_trunk_47 ?_
      refine lv_icmp_ge (tgt := 159) hx hb dX12_trunk_50 (by decide) (fun qc2 => ?_) (fun qc2 => ?_)
      · have hf := gif_t hf qc2
        refine lv_iload hx hb dX12_trunk_159 (lv_at hl 4 rfl) ?_
        exact gx_iret X hr hlk hw hf dX12_trunk_161
      · have hf := gif_f hf qc2
        refine lv_aload_n hx hb dX12_trunk_53 rfl (lv_at hl 0 rfl) ?_
        obtain ⟨zt3, qzt3, hf⟩ := gb_el hf
        refine gx_getR X hw qzt3 clX12 (by decide) mf_X12_99 dX12_trunk_54 ?_
        refine lv_iconst (v := 5) hx hb dX12_trunk_57 (by decide) ?_
        refine lv_iload hx hb dX12_trunk_58 (lv_at hl 5 rfl) ?_
        refine lv_imul hx hb dX12_trunk_60 ?_
        refine W.eq (g2 := F0 m 61 ls [.int (5 * zv5), .ref (gB E + zt3)]) rfl ?_
        refine lv_iconst (v := 2) hx hb dX12_trunk_61 (by decide) ?_
        refine lv_iadd hx hb dX12_trunk_62 ?_
        obtain ⟨zt4, qzt4, hf⟩ := gb_el hf
        refine gx_iald X hw qzt4 dX12_trunk_63 ?_
        refine lv_iload_n hx hb dX12_trunk_64 rfl (lv_at hl 1 rfl) ?_
        refine lv_icmp_ne (tgt := 153) hx hb dX12_trunk_65 (by decide) (fun qc5 => ?_) (fun qc5 => ?_)
        · have hf := gif_f hf qc5
          exact J_153 zv0 zv1 zv2 zv3 zv4 zv5 _ _ _ ls hf hw (lv_sub hl [0, 1, 2, 3, 4, 5] rfl)
        · have hf := gif_t hf qc5
          refine lv_aload_n hx hb dX12_trunk_68 rfl (lv_at hl 0 rfl) ?_
          obtain ⟨zt6, qzt6, hf⟩ := gb_el hf
          refine gx_getR X hw qzt6 clX12 (by decide) mf_X12_99 dX12_trunk_69 ?_
          refine lv_iconst (v := 5) hx hb dX12_trunk_72 (by decide) ?_
          refine lv_iload hx hb dX12_trunk_73 (lv_at hl 5 rfl) ?_
          refine lv_imul hx hb dX12_trunk_75 ?_
          refine W.eq (g2 := F0 m 76 ls [.int (5 * zv5), .ref (gB E + zt6)]) rfl ?_
          refine lv_iconst (v := 4) hx hb dX12_trunk_76 (by decide) ?_
          refine lv_iadd hx hb dX12_trunk_77 ?_
          obtain ⟨zt7, qzt7, hf⟩ := gb_el hf
          refine gx_iald X hw qzt7 dX12_trunk_78 ?_
          refine lv_iload_n hx hb dX12_trunk_79 rfl (lv_at hl 2 rfl) ?_
          refine lv_icmp_ge (tgt := 87) hx hb dX12_trunk_80 (by decide) (fun qc8 => ?_) (fun qc8 => ?_)
          · have hf := gif_t hf qc8
            refine lv_aload_n hx hb dX12_trunk_87 rfl (lv_at hl 0 rfl) ?_
            obtain ⟨zt9, qzt9, hf⟩ := gb_el hf
            refine gx_getR X hw qzt9 clX12 (by decide) mf_X12_99 dX12_trunk_88 ?_
            refine lv_iconst (v := 5) hx hb dX12_trunk_91 (by decide) ?_
            refine lv_iload hx hb dX12_trunk_92 (lv_at hl 5 rfl) ?_
            refine lv_imul hx hb dX12_trunk_94 ?_
            refine W.eq (g2 := F0 m 95 ls [.int (5 * zv5), .ref (gB E + zt9)]) rfl ?_
            refine lv_iconst (v := 4) hx hb dX12_trunk_95 (by decide) ?_
            refine lv_iadd hx hb dX12_trunk_96 ?_
            obtain ⟨zt10, qzt10, hf⟩ := gb_el hf
            refine gx_iald X hw qzt10 dX12_trunk_97 ?_
            exact J_98 zv0 zv1 zv2 zv3 zv4 zv5 zt10 _ _ _ ls hf hw (lv_sub hl [0, 1, 2, 3, 4, 5] rfl)
          · have hf := gif_f hf qc8
            refine lv_iload_n hx hb dX12_trunk_83 rfl (lv_at hl 2 rfl) ?_
            refine lv_goto (tgt := 98) hx hb dX12_trunk_84 (by decide) ?_
            exact J_98 zv0 zv1 zv2 zv3 zv4 zv5 zv2 _ _ _ ls hf hw (lv_sub hl [0, 1, 2, 3, 4, 5] rfl)
  have J_32 : ∀ (zh : PH) (H : Heap) (locs : List Loc) (ls : Array Slot), f_X12_trunk_32 N zh = some (r9, h9) → gw E s zh H locs → lv_has ls 8 [] → W p l e rm_X12_trunk s m [.ref (gB E + za0), .int za1, .int za2, .int za3].toArray below meth c H locs 0 0 (MQ below (gQi E r9 h9) [.ref (gB E + za0), .int za1, .int za2, .int za3].toArray s 0 0 (gA E)) (F0 m 32 ls []) := by
    intro zh H locs ls hf hw hl
    unfold f_X12_trunk_32 at hf
    refine lv_iconst (v := (-1)) hx hb dX12_trunk_32 (by decide) ?_
    exact gx_iret X hr hlk hw hf dX12_trunk_33
  unfold f_X12_trunk at hf
  refine lv_aload_n hx hb dX12_trunk_0 rfl (lv_at hl 0 rfl) ?_
  refine lv_iconst (v := 0) hx hb dX12_trunk_1 (by decide) ?_
  obtain ⟨zh1, qzh1, hf⟩ := gb_el hf
  refine gx_putV X hw qzh1 clX12 (by decide) mf_X12_1 rfl rfl rfl dX12_trunk_2 (fun H locs hw => ?_)
  refine lv_aload_n hx hb dX12_trunk_5 rfl (lv_at hl 0 rfl) ?_
  refine lv_iload_n hx hb dX12_trunk_6 rfl (lv_at hl 1 rfl) ?_
  obtain ⟨qizh2, hf⟩ := gg_el hf
  obtain ⟨zt3, zh2, qzh2, hf⟩ := gc_el hf
  refine gx_ki (gx_runV (As := [.int za1]) (rest := []) X hw (c_X12_isRoom l E N za0 za1 zh1 qzh2) kX12_isRoom mm_X12_309 qizh2 clX12 ⟨Nat.le_of_ble_eq_true rfl, Nat.le_of_ble_eq_true rfl⟩ rfl rfl rfl hl.1 (Nat.le_of_ble_eq_true rfl) rfl dX12_trunk_7 ⟨Nat.le_of_ble_eq_true rfl, Nat.le_of_ble_eq_true rfl⟩) hw (fun H locs hw => ?_)
  refine lv_if_eq (tgt := 32) hx hb dX12_trunk_10 (by decide) (fun qc4 => ?_) (fun qc4 => ?_)
  · have hf := gif_t hf qc4
    exact J_32  _ _ _ ls hf hw (lv_sub hl [] rfl)
  · have hf := gif_f hf qc4
    refine lv_iload_n hx hb dX12_trunk_13 rfl (lv_at hl 2 rfl) ?_
    obtain ⟨zt6, zh5, qzh5, hf⟩ := gc_el hf
    refine gx_ki (gx_runS (As := [.int za2]) (rest := []) X hw (c_X12_isMinute l E N za2 zh2 qzh5) kX12_isMinute mm_X12_337 ⟨Nat.le_of_ble_eq_true rfl, Nat.le_of_ble_eq_true rfl⟩ rfl rfl rfl hl.1 (Nat.le_of_ble_eq_true rfl) rfl dX12_trunk_14 ⟨Nat.le_of_ble_eq_true rfl, Nat.le_of_ble_eq_true rfl⟩) hw (fun H locs hw => ?_)
    refine W.eq (g2 := F0 m 17 ls [.int zt6]) rfl ?_
    refine lv_if_eq (tgt := 32) hx hb dX12_trunk_17 (by decide) (fun qc7 => ?_) (fun qc7 => ?_)
    · have hf := gif_t hf qc7
      exact J_32  _ _ _ ls hf hw (lv_sub hl [] rfl)
    · have hf := gif_f hf qc7
      refine lv_iload_n hx hb dX12_trunk_20 rfl (lv_at hl 3 rfl) ?_
      obtain ⟨zt9, zh8, qzh8, hf⟩ := gc_el hf
      refine gx_ki (gx_runS (As := [.int za3]) (rest := []) X hw (c_X12_isMinute l E N za3 zh5 qzh8) kX12_isMinute mm_X12_337 ⟨Nat.le_of_ble_eq_true rfl, Nat.le_of_ble_eq_true rfl⟩ rfl rfl rfl hl.1 (Nat.le_of_ble_eq_true rfl) rfl dX12_trunk_21 ⟨Nat.le_of_ble_eq_true rfl, Nat.le_of_ble_eq_true rfl⟩) hw (fun H locs hw => ?_)
      refine lv_if_eq (tgt := 32) hx hb dX12_trunk_24 (by decide) (fun qc10 => ?_) (fun qc10 => ?_)
      · have hf := gif_t hf qc10
        exact J_32  _ _ _ ls hf hw (lv_sub hl [] rfl)
      · have hf := gif_f hf qc10
        refine lv_iload_n hx hb dX12_trunk_27 rfl (lv_at hl 3 rfl) ?_
        refine lv_iload_n hx hb dX12_trunk_28 rfl (lv_at hl 2 rfl) ?_
        refine lv_icmp_ge (tgt := 34) hx hb dX12_trunk_29 (by decide) (fun qc11 => ?_) (fun qc11 => ?_)
        · have hf := gif_t hf qc11
          refine lv_aload_n hx hb dX12_trunk_34 rfl (lv_at hl 0 rfl) ?_
          obtain ⟨qizh12, hf⟩ := gg_el hf
          obtain ⟨zh12, qzh12, hf⟩ := gb_el hf
          refine gx_kv (gx_runV (As := []) (rest := []) X hw (c_X12_find l E N za0 zh8 qzh12) kX12_find mm_X12_300 qizh12 clX12 ⟨Nat.le_of_ble_eq_true rfl, Nat.le_of_ble_eq_true rfl⟩ rfl rfl rfl hl.1 (Nat.le_of_ble_eq_true rfl) rfl dX12_trunk_35 ⟨Nat.le_of_ble_eq_true rfl, Nat.le_of_ble_eq_true rfl⟩) hw (fun H locs hw => ?_)
          refine lv_iconst (v := 0) hx hb dX12_trunk_38 (by decide) ?_
          refine W.eq (g2 := F0 m 39 ls [.int 0]) rfl ?_
          refine lv_istore (lv' := [(4, .int 0), (0, .ref (gB E + za0)), (1, .int za1), (2, .int za2), (3, .int za3)]) hx hb dX12_trunk_39 hl (by decide) rfl (fun ls hl => ?_)
          refine lv_iconst (v := 0) hx hb dX12_trunk_41 (by decide) ?_
          refine lv_istore (lv' := [(5, .int 0), (4, .int 0), (0, .ref (gB E + za0)), (1, .int za1), (2, .int za2), (3, .int za3)]) hx hb dX12_trunk_42 hl (by decide) rfl (fun ls hl => ?_)
          exact L_44 N za0 za1 za2 za3 0 0 _ _ _ ls hf hw (lv_sub hl [2, 3, 4, 5, 1, 0] rfl)
        · have hf := gif_f hf qc11
          exact J_32  _ _ _ ls hf hw (lv_sub hl [] rfl)
abbrev rm_X12_sights : Room := { frames := 0, cells := 0, slots := 0, locals := 0 }
set_option maxHeartbeats 4000000 in
set_option maxRecDepth 100000 in
theorem c_X12_sights (l : Launch) (E : gE) (N : Nat) (za0 : Nat) (zh : PH) {h9 : PH} {r9 : Int32} (hf : f_X12_sights N za0 zh = some (r9, h9)) : Met l yX12_sights (gWS yX12_sights cX12_sights 1 (some .int)) rm_X12_sights (gPc E [.ref (gB E + za0)] zh) (gQi E r9 h9) 0 0 (gA E) := by
  refine gx_met (by decide) ?_ rfl
  intro p e s m below meth c X hr hlk hin2 hw
  have hx := X.1.1
  have hb := X.1.2.1
  have hl := lv_entry [.ref (gB E + za0)] (n := 1) (Nat.le_of_ble_eq_true rfl)
  rw [lg_entry_eq]
  generalize (lg_sl [.ref (gB E + za0)] ++ List.replicate (1 - (lg_sl [.ref (gB E + za0)]).length) Slot.unset).toArray = ls at hl ⊢
  have hl : lv_has ls 1 [(0, .ref (gB E + za0))] := hl
  unfold f_X12_sights at hf
  refine lv_aload_n hx hb dX12_sights_0 rfl (lv_at hl 0 rfl) ?_
  obtain ⟨zt1, qzt1, hf⟩ := gb_el hf
  refine gx_getR X hw qzt1 clX12 (by decide) mf_X12_83 dX12_sights_1 ?_
  refine lv_sipush (v := 402) hx hb dX12_sights_4 (by decide) ?_
  obtain ⟨zt2, qzt2, hf⟩ := gb_el hf
  refine gx_iald X hw qzt2 dX12_sights_7 ?_
  exact gx_iret X hr hlk hw hf dX12_sights_8
abbrev rm_X12_sightOf : Room := { frames := 0, cells := 0, slots := 0, locals := 0 }
set_option maxHeartbeats 4000000 in
set_option maxRecDepth 100000 in
theorem c_X12_sightOf (l : Launch) (E : gE) (N : Nat) (za0 : Nat) (za1 : Int32) (za2 : Int32) (zh : PH) {h9 : PH} {r9 : Int32} (hf : f_X12_sightOf N za0 za1 za2 zh = some (r9, h9)) : Met l yX12_sightOf (gWS yX12_sightOf cX12_sightOf 3 (some .int)) rm_X12_sightOf (gPc E [.ref (gB E + za0), .int za1, .int za2] zh) (gQi E r9 h9) 0 0 (gA E) := by
  refine gx_met (by decide) ?_ rfl
  intro p e s m below meth c X hr hlk hin2 hw
  have hx := X.1.1
  have hb := X.1.2.1
  have hl := lv_entry [.ref (gB E + za0), .int za1, .int za2] (n := 3) (Nat.le_of_ble_eq_true rfl)
  rw [lg_entry_eq]
  generalize (lg_sl [.ref (gB E + za0), .int za1, .int za2] ++ List.replicate (3 - (lg_sl [.ref (gB E + za0), .int za1, .int za2]).length) Slot.unset).toArray = ls at hl ⊢
  have hl : lv_has ls 3 [(0, .ref (gB E + za0)), (1, .int za1), (2, .int za2)] := hl
  unfold f_X12_sightOf at hf
  refine lv_aload_n hx hb dX12_sightOf_0 rfl (lv_at hl 0 rfl) ?_
  obtain ⟨zt1, qzt1, hf⟩ := gb_el hf
  refine gx_getR X hw qzt1 clX12 (by decide) mf_X12_83 dX12_sightOf_1 ?_
  refine lv_sipush (v := 403) hx hb dX12_sightOf_4 (by decide) ?_
  refine lv_iconst (v := 3) hx hb dX12_sightOf_7 (by decide) ?_
  refine lv_iload_n hx hb dX12_sightOf_8 rfl (lv_at hl 1 rfl) ?_
  refine lv_imul hx hb dX12_sightOf_9 ?_
  refine lv_iadd hx hb dX12_sightOf_10 ?_
  refine lv_iload_n hx hb dX12_sightOf_11 rfl (lv_at hl 2 rfl) ?_
  refine lv_iadd hx hb dX12_sightOf_12 ?_
  refine W.eq (g2 := F0 m 13 ls [.int ((403 + (3 * za1)) + za2), .ref (gB E + zt1)]) rfl ?_
  obtain ⟨zt2, qzt2, hf⟩ := gb_el hf
  refine gx_iald X hw qzt2 dX12_sightOf_13 ?_
  exact gx_iret X hr hlk hw hf dX12_sightOf_14
abbrev rm_X12_walk : Room := { frames := 2, cells := 0, slots := 0, locals := 44 }
set_option maxHeartbeats 4000000 in
set_option maxRecDepth 100000 in
theorem c_X12_walk (l : Launch) (E : gE) (N : Nat) (za0 : Nat) (za1 : Int32) (za2 : Int32) (zh : PH) {h9 : PH} {r9 : Int32} (hf : f_X12_walk N za0 za1 za2 zh = some (r9, h9)) : Met l yX12_walk (gWS yX12_walk cX12_walk 3 (some .int)) rm_X12_walk (gPc E [.ref (gB E + za0), .int za1, .int za2] zh) (gQi E r9 h9) 0 0 (gA E) := by
  refine gx_met (by decide) ?_ rfl
  intro p e s m below meth c X hr hlk hin2 hw
  have hx := X.1.1
  have hb := X.1.2.1
  have hl := lv_entry [.ref (gB E + za0), .int za1, .int za2] (n := 3) (Nat.le_of_ble_eq_true rfl)
  rw [lg_entry_eq]
  generalize (lg_sl [.ref (gB E + za0), .int za1, .int za2] ++ List.replicate (3 - (lg_sl [.ref (gB E + za0), .int za1, .int za2]).length) Slot.unset).toArray = ls at hl ⊢
  have hl : lv_has ls 3 [(0, .ref (gB E + za0)), (1, .int za1), (2, .int za2)] := hl
  have J_14 : ∀ (zv0 : Nat) (zv1 : Int32) (zv2 : Int32) (zs0 : Int32) (zh : PH) (H : Heap) (locs : List Loc) (ls : Array Slot), f_X12_walk_14 N zv0 zv1 zv2 zs0 zh = some (r9, h9) → gw E s zh H locs → lv_has ls 3 [(0, .ref (gB E + zv0)), (1, .int zv1), (2, .int zv2)] → W p l e rm_X12_walk s m [.ref (gB E + za0), .int za1, .int za2].toArray below meth c H locs 0 0 (MQ below (gQi E r9 h9) [.ref (gB E + za0), .int za1, .int za2].toArray s 0 0 (gA E)) (F0 m 14 ls [.int zs0]) := by
    intro zv0 zv1 zv2 zs0 zh H locs ls hf hw hl
    unfold f_X12_walk_14 at hf
    refine lv_iconst (v := 2) hx hb dX12_walk_14 (by decide) ?_
    refine lv_aload_n hx hb dX12_walk_15 rfl (lv_at hl 0 rfl) ?_
    refine lv_iload_n hx hb dX12_walk_16 rfl (lv_at hl 1 rfl) ?_
    refine lv_iload_n hx hb dX12_walk_17 rfl (lv_at hl 2 rfl) ?_
    obtain ⟨qizh1, hf⟩ := gg_el hf
    obtain ⟨zt2, zh1, qzh1, hf⟩ := gc_el hf
    refine gx_ki (gx_runV (As := [.int zv1, .int zv2]) (rest := [.int 2, .int zs0]) X hw (c_X12_floors l E N zv0 zv1 zv2 zh qzh1) kX12_floors mm_X12_258 qizh1 clX12 ⟨Nat.le_of_ble_eq_true rfl, Nat.le_of_ble_eq_true rfl⟩ rfl rfl rfl hl.1 (Nat.le_of_ble_eq_true rfl) rfl dX12_walk_18 ⟨Nat.le_of_ble_eq_true rfl, Nat.le_of_ble_eq_true rfl⟩) hw (fun H locs hw => ?_)
    refine lv_imul hx hb dX12_walk_21 ?_
    refine lv_iadd hx hb dX12_walk_22 ?_
    exact gx_iret X hr hlk hw hf dX12_walk_23
  unfold f_X12_walk at hf
  refine lv_iload_n hx hb dX12_walk_0 rfl (lv_at hl 1 rfl) ?_
  refine lv_iload_n hx hb dX12_walk_1 rfl (lv_at hl 2 rfl) ?_
  refine lv_icmp_ge (tgt := 11) hx hb dX12_walk_2 (by decide) (fun qc1 => ?_) (fun qc1 => ?_)
  · have hf := gif_t hf qc1
    refine lv_iload_n hx hb dX12_walk_11 rfl (lv_at hl 1 rfl) ?_
    refine lv_iload_n hx hb dX12_walk_12 rfl (lv_at hl 2 rfl) ?_
    refine lv_isub hx hb dX12_walk_13 ?_
    exact J_14 za0 za1 za2 (za1 - za2) _ _ _ ls hf hw (lv_sub hl [0, 1, 2] rfl)
  · have hf := gif_f hf qc1
    refine lv_iload_n hx hb dX12_walk_5 rfl (lv_at hl 2 rfl) ?_
    refine lv_iload_n hx hb dX12_walk_6 rfl (lv_at hl 1 rfl) ?_
    refine lv_isub hx hb dX12_walk_7 ?_
    refine lv_goto (tgt := 14) hx hb dX12_walk_8 (by decide) ?_
    exact J_14 za0 za1 za2 (za2 - za1) _ _ _ ls hf hw (lv_sub hl [0, 1, 2] rfl)
abbrev rm_X12_apart : Room := { frames := 0, cells := 0, slots := 0, locals := 0 }
set_option maxHeartbeats 4000000 in
set_option maxRecDepth 100000 in
theorem c_X12_apart (l : Launch) (E : gE) (N : Nat) (za0 : Int32) (za1 : Int32) (zh : PH) {h9 : PH} {r9 : Int32} (hf : f_X12_apart N za0 za1 zh = some (r9, h9)) : Met l yX12_apart (gWS yX12_apart cX12_apart 2 (some .int)) rm_X12_apart (gPc E [.int za0, .int za1] zh) (gQi E r9 h9) 0 0 (gA E) := by
  refine gx_met (by decide) ?_ rfl
  intro p e s m below meth c X hr hlk hin2 hw
  have hx := X.1.1
  have hb := X.1.2.1
  have hl := lv_entry [.int za0, .int za1] (n := 2) (Nat.le_of_ble_eq_true rfl)
  rw [lg_entry_eq]
  generalize (lg_sl [.int za0, .int za1] ++ List.replicate (2 - (lg_sl [.int za0, .int za1]).length) Slot.unset).toArray = ls at hl ⊢
  have hl : lv_has ls 2 [(0, .int za0), (1, .int za1)] := hl
  have J_14 : ∀ (zs0 : Int32) (zh : PH) (H : Heap) (locs : List Loc) (ls : Array Slot), f_X12_apart_14 N zs0 zh = some (r9, h9) → gw E s zh H locs → lv_has ls 2 [] → W p l e rm_X12_apart s m [.int za0, .int za1].toArray below meth c H locs 0 0 (MQ below (gQi E r9 h9) [.int za0, .int za1].toArray s 0 0 (gA E)) (F0 m 14 ls [.int zs0]) := by
    intro zs0 zh H locs ls hf hw hl
    unfold f_X12_apart_14 at hf
    exact gx_iret X hr hlk hw hf dX12_apart_14
  unfold f_X12_apart at hf
  refine lv_iload_n hx hb dX12_apart_0 rfl (lv_at hl 0 rfl) ?_
  refine lv_iload_n hx hb dX12_apart_1 rfl (lv_at hl 1 rfl) ?_
  refine lv_icmp_ge (tgt := 11) hx hb dX12_apart_2 (by decide) (fun qc1 => ?_) (fun qc1 => ?_)
  · have hf := gif_t hf qc1
    refine lv_iload_n hx hb dX12_apart_11 rfl (lv_at hl 0 rfl) ?_
    refine lv_iload_n hx hb dX12_apart_12 rfl (lv_at hl 1 rfl) ?_
    refine lv_isub hx hb dX12_apart_13 ?_
    exact J_14 (za0 - za1) _ _ _ ls hf hw (lv_sub hl [] rfl)
  · have hf := gif_f hf qc1
    refine lv_iload_n hx hb dX12_apart_5 rfl (lv_at hl 1 rfl) ?_
    refine lv_iload_n hx hb dX12_apart_6 rfl (lv_at hl 0 rfl) ?_
    refine lv_isub hx hb dX12_apart_7 ?_
    refine lv_goto (tgt := 14) hx hb dX12_apart_8 (by decide) ?_
    exact J_14 (za1 - za0) _ _ _ ls hf hw (lv_sub hl [] rfl)
abbrev rm_X12_sight : Room := { frames := 2, cells := 0, slots := 0, locals := 42 }
set_option maxHeartbeats 4000000 in
set_option maxRecDepth 100000 in
theorem c_X12_sight (l : Launch) (E : gE) (N : Nat) (za0 : Nat) (za1 : Int32) (za2 : Int32) (za3 : Int32) (zh : PH) {h9 : PH} {r9 : Int32} (hf : f_X12_sight N za0 za1 za2 za3 zh = some (r9, h9)) : Met l yX12_sight (gWS yX12_sight cX12_sight 5 (some .int)) rm_X12_sight (gPc E [.ref (gB E + za0), .int za1, .int za2, .int za3] zh) (gQi E r9 h9) 0 0 (gA E) := by
  refine gx_met (by decide) ?_ rfl
  intro p e s m below meth c X hr hlk hin2 hw
  have hx := X.1.1
  have hb := X.1.2.1
  have hl := lv_entry [.ref (gB E + za0), .int za1, .int za2, .int za3] (n := 5) (Nat.le_of_ble_eq_true rfl)
  rw [lg_entry_eq]
  generalize (lg_sl [.ref (gB E + za0), .int za1, .int za2, .int za3] ++ List.replicate (5 - (lg_sl [.ref (gB E + za0), .int za1, .int za2, .int za3]).length) Slot.unset).toArray = ls at hl ⊢
  have hl : lv_has ls 5 [(0, .ref (gB E + za0)), (1, .int za1), (2, .int za2), (3, .int za3)] := hl
  have J_37 : ∀ (zh : PH) (H : Heap) (locs : List Loc) (ls : Array Slot), f_X12_sight_37 N zh = some (r9, h9) → gw E s zh H locs → lv_has ls 5 [] → W p l e rm_X12_sight s m [.ref (gB E + za0), .int za1, .int za2, .int za3].toArray below meth c H locs 0 0 (MQ below (gQi E r9 h9) [.ref (gB E + za0), .int za1, .int za2, .int za3].toArray s 0 0 (gA E)) (F0 m 37 ls []) := by
    intro zh H locs ls hf hw hl
    unfold f_X12_sight_37 at hf
    refine lv_iconst (v := (-1)) hx hb dX12_sight_37 (by decide) ?_
    exact gx_iret X hr hlk hw hf dX12_sight_38
  unfold f_X12_sight at hf
  refine lv_aload_n hx hb dX12_sight_0 rfl (lv_at hl 0 rfl) ?_
  refine lv_iconst (v := 0) hx hb dX12_sight_1 (by decide) ?_
  obtain ⟨zh1, qzh1, hf⟩ := gb_el hf
  refine gx_putV X hw qzh1 clX12 (by decide) mf_X12_1 rfl rfl rfl dX12_sight_2 (fun H locs hw => ?_)
  refine lv_aload_n hx hb dX12_sight_5 rfl (lv_at hl 0 rfl) ?_
  refine lv_iload_n hx hb dX12_sight_6 rfl (lv_at hl 1 rfl) ?_
  obtain ⟨qizh2, hf⟩ := gg_el hf
  obtain ⟨zt3, zh2, qzh2, hf⟩ := gc_el hf
  refine gx_ki (gx_runV (As := [.int za1]) (rest := []) X hw (c_X12_isGuest l E N za0 za1 zh1 qzh2) kX12_isGuest mm_X12_312 qizh2 clX12 ⟨Nat.le_of_ble_eq_true rfl, Nat.le_of_ble_eq_true rfl⟩ rfl rfl rfl hl.1 (Nat.le_of_ble_eq_true rfl) rfl dX12_sight_7 ⟨Nat.le_of_ble_eq_true rfl, Nat.le_of_ble_eq_true rfl⟩) hw (fun H locs hw => ?_)
  refine lv_if_eq (tgt := 37) hx hb dX12_sight_10 (by decide) (fun qc4 => ?_) (fun qc4 => ?_)
  · have hf := gif_t hf qc4
    exact J_37  _ _ _ ls hf hw (lv_sub hl [] rfl)
  · have hf := gif_f hf qc4
    refine lv_aload_n hx hb dX12_sight_13 rfl (lv_at hl 0 rfl) ?_
    refine lv_iload_n hx hb dX12_sight_14 rfl (lv_at hl 2 rfl) ?_
    refine W.eq (g2 := F0 m 15 ls [.int za2, .ref (gB E + za0)]) rfl ?_
    obtain ⟨qizh5, hf⟩ := gg_el hf
    obtain ⟨zt6, zh5, qzh5, hf⟩ := gc_el hf
    refine gx_ki (gx_runV (As := [.int za2]) (rest := []) X hw (c_X12_isRoom l E N za0 za2 zh2 qzh5) kX12_isRoom mm_X12_309 qizh5 clX12 ⟨Nat.le_of_ble_eq_true rfl, Nat.le_of_ble_eq_true rfl⟩ rfl rfl rfl hl.1 (Nat.le_of_ble_eq_true rfl) rfl dX12_sight_15 ⟨Nat.le_of_ble_eq_true rfl, Nat.le_of_ble_eq_true rfl⟩) hw (fun H locs hw => ?_)
    refine lv_if_eq (tgt := 37) hx hb dX12_sight_18 (by decide) (fun qc7 => ?_) (fun qc7 => ?_)
    · have hf := gif_t hf qc7
      exact J_37  _ _ _ ls hf hw (lv_sub hl [] rfl)
    · have hf := gif_f hf qc7
      refine lv_iload_n hx hb dX12_sight_21 rfl (lv_at hl 3 rfl) ?_
      obtain ⟨zt9, zh8, qzh8, hf⟩ := gc_el hf
      refine gx_ki (gx_runS (As := [.int za3]) (rest := []) X hw (c_X12_isTold l E N za3 zh5 qzh8) kX12_isTold mm_X12_321 ⟨Nat.le_of_ble_eq_true rfl, Nat.le_of_ble_eq_true rfl⟩ rfl rfl rfl hl.1 (Nat.le_of_ble_eq_true rfl) rfl dX12_sight_22 ⟨Nat.le_of_ble_eq_true rfl, Nat.le_of_ble_eq_true rfl⟩) hw (fun H locs hw => ?_)
      refine lv_if_eq (tgt := 37) hx hb dX12_sight_25 (by decide) (fun qc10 => ?_) (fun qc10 => ?_)
      · have hf := gif_t hf qc10
        exact J_37  _ _ _ ls hf hw (lv_sub hl [] rfl)
      · have hf := gif_f hf qc10
        refine lv_aload_n hx hb dX12_sight_28 rfl (lv_at hl 0 rfl) ?_
        obtain ⟨qizh11, hf⟩ := gg_el hf
        obtain ⟨zt12, zh11, qzh11, hf⟩ := gc_el hf
        refine gx_ki (gx_runV (As := []) (rest := []) X hw (c_X12_sights l E N za0 zh8 qzh11) kX12_sights mm_X12_350 qizh11 clX12 ⟨Nat.le_of_ble_eq_true rfl, Nat.le_of_ble_eq_true rfl⟩ rfl rfl rfl hl.1 (Nat.le_of_ble_eq_true rfl) rfl dX12_sight_29 ⟨Nat.le_of_ble_eq_true rfl, Nat.le_of_ble_eq_true rfl⟩) hw (fun H locs hw => ?_)
        refine lv_bipush (v := 20) hx hb dX12_sight_32 (by decide) ?_
        refine lv_icmp_ne (tgt := 39) hx hb dX12_sight_34 (by decide) (fun qc13 => ?_) (fun qc13 => ?_)
        · have hf := gif_f hf qc13
          refine lv_sipush (v := 403) hx hb dX12_sight_39 (by decide) ?_
          refine W.eq (g2 := F0 m 42 ls [.int 403]) rfl ?_
          refine lv_iconst (v := 3) hx hb dX12_sight_42 (by decide) ?_
          refine lv_aload_n hx hb dX12_sight_43 rfl (lv_at hl 0 rfl) ?_
          obtain ⟨qizh14, hf⟩ := gg_el hf
          obtain ⟨zt15, zh14, qzh14, hf⟩ := gc_el hf
          refine gx_ki (gx_runV (As := []) (rest := [.int 3, .int 403]) X hw (c_X12_sights l E N za0 zh11 qzh14) kX12_sights mm_X12_350 qizh14 clX12 ⟨Nat.le_of_ble_eq_true rfl, Nat.le_of_ble_eq_true rfl⟩ rfl rfl rfl hl.1 (Nat.le_of_ble_eq_true rfl) rfl dX12_sight_44 ⟨Nat.le_of_ble_eq_true rfl, Nat.le_of_ble_eq_true rfl⟩) hw (fun H locs hw => ?_)
          refine lv_imul hx hb dX12_sight_47 ?_
          refine lv_iadd hx hb dX12_sight_48 ?_
          refine lv_topi (fun zx16 ezx16 => ?_)
          have hf := gl_el hf ezx16
          refine lv_istore (lv' := [(4, .int zx16), (0, .ref (gB E + za0)), (1, .int za1), (2, .int za2), (3, .int za3)]) hx hb dX12_sight_49 hl (by decide) rfl (fun ls hl => ?_)
          refine lv_aload_n hx hb dX12_sight_51 rfl (lv_at hl 1 rfl) ?_
          obtain ⟨zt17, qzt17, hf⟩ := gb_el hf
          refine gx_getR X hw qzt17 clX12 (by decide) mf_X12_83 dX12_sight_52 ?_
          refine lv_iload hx hb dX12_sight_55 (lv_at hl 0 rfl) ?_
          refine lv_iload_n hx hb dX12_sight_57 rfl (lv_at hl 2 rfl) ?_
          refine W.eq (g2 := F0 m 58 ls [.int za1, .int zx16, .ref (gB E + zt17)]) rfl ?_
          obtain ⟨zh18, qzh18, hf⟩ := gb_el hf
          refine gx_iast X hw qzh18 dX12_sight_58 (fun H locs hw => ?_)
          refine lv_aload_n hx hb dX12_sight_59 rfl (lv_at hl 1 rfl) ?_
          obtain ⟨zt19, qzt19, hf⟩ := gb_el hf
          refine gx_getR X hw qzt19 clX12 (by decide) mf_X12_83 dX12_sight_60 ?_
          refine lv_iload hx hb dX12_sight_63 (lv_at hl 0 rfl) ?_
          refine lv_iconst (v := 1) hx hb dX12_sight_65 (by decide) ?_
          refine lv_iadd hx hb dX12_sight_66 ?_
          refine lv_iload_n hx hb dX12_sight_67 rfl (lv_at hl 3 rfl) ?_
          obtain ⟨zh20, qzh20, hf⟩ := gb_el hf
          refine gx_iast X hw qzh20 dX12_sight_68 (fun H locs hw => ?_)
          refine lv_aload_n hx hb dX12_sight_69 rfl (lv_at hl 1 rfl) ?_
          obtain ⟨zt21, qzt21, hf⟩ := gb_el hf
          refine gx_getR X hw qzt21 clX12 (by decide) mf_X12_83 dX12_sight_70 ?_
          refine W.eq (g2 := F0 m 73 ls [.ref (gB E + zt21)]) rfl ?_
          refine lv_iload hx hb dX12_sight_73 (lv_at hl 0 rfl) ?_
          refine lv_iconst (v := 2) hx hb dX12_sight_75 (by decide) ?_
          refine lv_iadd hx hb dX12_sight_76 ?_
          refine lv_iload_n hx hb dX12_sight_77 rfl (lv_at hl 4 rfl) ?_
          obtain ⟨zh22, qzh22, hf⟩ := gb_el hf
          refine gx_iast X hw qzh22 dX12_sight_78 (fun H locs hw => ?_)
          refine lv_aload_n hx hb dX12_sight_79 rfl (lv_at hl 1 rfl) ?_
          obtain ⟨zt23, qzt23, hf⟩ := gb_el hf
          refine gx_getR X hw qzt23 clX12 (by decide) mf_X12_83 dX12_sight_80 ?_
          refine lv_sipush (v := 402) hx hb dX12_sight_83 (by decide) ?_
          refine lv_dup2_11 hx hb dX12_sight_86 rfl rfl ?_
          obtain ⟨zt24, qzt24, hf⟩ := gb_el hf
          refine gx_iald X hw qzt24 dX12_sight_87 ?_
          refine W.eq (g2 := F0 m 88 ls [.int zt24, .int 402, .ref (gB E + zt23)]) rfl ?_
          refine lv_iconst (v := 1) hx hb dX12_sight_88 (by decide) ?_
          refine lv_iadd hx hb dX12_sight_89 ?_
          obtain ⟨zh25, qzh25, hf⟩ := gb_el hf
          refine gx_iast X hw qzh25 dX12_sight_90 (fun H locs hw => ?_)
          refine lv_aload_n hx hb dX12_sight_91 rfl (lv_at hl 1 rfl) ?_
          obtain ⟨qizh26, hf⟩ := gg_el hf
          obtain ⟨zt27, zh26, qzh26, hf⟩ := gc_el hf
          refine gx_ki (gx_runV (As := []) (rest := []) X hw (c_X12_sights l E N za0 zh25 qzh26) kX12_sights mm_X12_350 qizh26 clX12 ⟨Nat.le_of_ble_eq_true rfl, Nat.le_of_ble_eq_true rfl⟩ rfl rfl rfl hl.1 (Nat.le_of_ble_eq_true rfl) rfl dX12_sight_92 ⟨Nat.le_of_ble_eq_true rfl, Nat.le_of_ble_eq_true rfl⟩) hw (fun H locs hw => ?_)
          exact gx_iret X hr hlk hw hf dX12_sight_95
        · have hf := gif_t hf qc13
          exact J_37  _ _ _ ls hf hw (lv_sub hl [] rfl)
abbrev rm_X12_could : Room := { frames := 3, cells := 0, slots := 0, locals := 66 }
set_option maxHeartbeats 4000000 in
set_option maxRecDepth 100000 in
theorem c_X12_could (l : Launch) (E : gE) (N : Nat) (za0 : Nat) (za1 : Int32) (za2 : Int32) (zh : PH) {h9 : PH} {r9 : Int32} (hf : f_X12_could N za0 za1 za2 zh = some (r9, h9)) : Met l yX12_could (gWS yX12_could cX12_could 6 (some .int)) rm_X12_could (gPc E [.ref (gB E + za0), .int za1, .int za2] zh) (gQi E r9 h9) 0 0 (gA E) := by
  refine gx_met (by decide) ?_ rfl
  intro p e s m below meth c X hr hlk hin2 hw
  have hx := X.1.1
  have hb := X.1.2.1
  have hl := lv_entry [.ref (gB E + za0), .int za1, .int za2] (n := 6) (Nat.le_of_ble_eq_true rfl)
  rw [lg_entry_eq]
  generalize (lg_sl [.ref (gB E + za0), .int za1, .int za2] ++ List.replicate (6 - (lg_sl [.ref (gB E + za0), .int za1, .int za2]).length) Slot.unset).toArray = ls at hl ⊢
  have hl : lv_has ls 6 [(0, .ref (gB E + za0)), (1, .int za1), (2, .int za2)] := hl
  have L_34 : ∀ (zn34 : Nat) (zv0 : Nat) (zv1 : Int32) (zv2 : Int32) (zv3 : Int32) (zv4 : Int32) (zh : PH) (H : Heap) (locs : List Loc) (ls : Array Slot), gi (fun zk zs => f_X12_could_34 N zk zs.1 zs.2.1 zs.2.2.1 zs.2.2.2.1 zs.2.2.2.2.1 zs.2.2.2.2.2) zn34 (zv0, zv1, zv2, zv3, zv4, zh) = some (r9, h9) → gw E s zh H locs → lv_has ls 6 [(0, .ref (gB E + zv0)), (1, .int zv1), (2, .int zv2), (3, .int zv3), (4, .int zv4)] → W p l e rm_X12_could s m [.ref (gB E + za0), .int za1, .int za2].toArray below meth c H locs 0 0 (MQ below (gQi E r9 h9) [.ref (gB E + za0), .int za1, .int za2].toArray s 0 0 (gA E)) (F0 m 34 ls []) := by
    intro zn34
    induction zn34 with
    | zero =>
      intro zv0 zv1 zv2 zv3 zv4 zh H locs ls hf
      cases hf
    | succ zn34 ih_34 =>
      have J_97 : ∀ (zv0 : Nat) (zv1 : Int32) (zv2 : Int32) (zv4 : Int32) (zs0 : Int32) (zs1 : Int32) (zh : PH) (H : Heap) (locs : List Loc) (ls : Array Slot), f_X12_could_97 N (gi (fun zk zs => f_X12_could_34 N zk zs.1 zs.2.1 zs.2.2.1 zs.2.2.2.1 zs.2.2.2.2.1 zs.2.2.2.2.2) zn34) zv0 zv1 zv2 zv4 zs0 zs1 zh = some (r9, h9) → gw E s zh H locs → lv_has ls 6 [(0, .ref (gB E + zv0)), (1, .int zv1), (2, .int zv2), (4, .int zv4)] → W p l e rm_X12_could s m [.ref (gB E + za0), .int za1, .int za2].toArray below meth c H locs 0 0 (MQ below (gQi E r9 h9) [.ref (gB E + za0), .int za1, .int za2].toArray s 0 0 (gA E)) (F0 m 97 ls [.int zs0, .int zs1]) := by
        intro zv0 zv1 zv2 zv4 zs0 zs1 zh H locs ls hf hw hl
        unfold f_X12_could_97 at hf
        refine lv_iand hx hb dX12_could_97 ?_
        refine lv_topi (fun zx1 ezx1 => ?_)
        have hf := gl_el hf ezx1
        refine lv_istore_n (lv' := [(3, .int zx1), (0, .ref (gB E + zv0)), (1, .int zv1), (2, .int zv2), (4, .int zv4)]) hx hb dX12_could_98 rfl hl (by decide) rfl (fun ls hl => ?_)
        obtain ⟨zx2, ezx2⟩ : ∃ y : Int32, y = zv4 + 1 := ⟨_, rfl⟩
        have hf := gl_el hf ezx2
        refine lv_iinc (v := zx2) (lv' := [(4, .int zx2), (3, .int zx1), (0, .ref (gB E + zv0)), (1, .int zv1), (2, .int zv2)]) hx hb dX12_could_99 hl (k := 4) rfl (by rw [ezx2]; rfl) (by decide) rfl (fun ls hl => ?_)
        refine lv_goto (tgt := 34) hx hb dX12_could_102 (by decide) ?_
        exact ih_34 zv0 zv1 zv2 zx1 zx2 _ _ _ ls hf hw (lv_sub hl [2, 3, 4, 1, 0] rfl)
      have J_74 : ∀ (zv0 : Nat) (zv1 : Int32) (zv2 : Int32) (zv3 : Int32) (zv4 : Int32) (zs0 : Int32) (zh : PH) (H : Heap) (locs : List Loc) (ls : Array Slot), f_X12_could_74 N (gi (fun zk zs => f_X12_could_34 N zk zs.1 zs.2.1 zs.2.2.1 zs.2.2.2.1 zs.2.2.2.2.1 zs.2.2.2.2.2) zn34) zv0 zv1 zv2 zv3 zv4 zs0 zh = some (r9, h9) → gw E s zh H locs → lv_has ls 6 [(0, .ref (gB E + zv0)), (1, .int zv1), (2, .int zv2), (3, .int zv3), (4, .int zv4)] → W p l e rm_X12_could s m [.ref (gB E + za0), .int za1, .int za2].toArray below meth c H locs 0 0 (MQ below (gQi E r9 h9) [.ref (gB E + za0), .int za1, .int za2].toArray s 0 0 (gA E)) (F0 m 74 ls [.int zs0]) := by
        intro zv0 zv1 zv2 zv3 zv4 zs0 zh H locs ls hf hw hl
        unfold f_X12_could_74 at hf
        refine lv_istore (lv' := [(5, .int zs0), (0, .ref (gB E + zv0)), (1, .int zv1), (2, .int zv2), (3, .int zv3), (4, .int zv4)]) hx hb dX12_could_74 hl (by decide) rfl (fun ls hl => ?_)
        refine lv_iload_n hx hb dX12_could_76 rfl (lv_at hl 4 rfl) ?_
        refine lv_iload hx hb dX12_could_77 (lv_at hl 0 rfl) ?_
        refine lv_if_eq (tgt := 86) hx hb dX12_could_79 (by decide) (fun qc1 => ?_) (fun qc1 => ?_)
        · have hf := gif_t hf qc1
          refine lv_iconst (v := 1) hx hb dX12_could_86 (by decide) ?_
          refine lv_aload_n hx hb dX12_could_87 rfl (lv_at hl 1 rfl) ?_
          refine lv_iload hx hb dX12_could_88 (lv_at hl 5 rfl) ?_
          refine lv_iconst (v := 0) hx hb dX12_could_90 (by decide) ?_
          obtain ⟨qizh2, hf⟩ := gg_el hf
          obtain ⟨zt3, zh2, qzh2, hf⟩ := gc_el hf
          refine gx_ki (gx_runV (As := [.int zv4, .int 0]) (rest := [.int 1, .int zv3]) X hw (c_X12_sightOf l E N zv0 zv4 0 zh qzh2) kX12_sightOf mm_X12_353 qizh2 clX12 ⟨Nat.le_of_ble_eq_true rfl, Nat.le_of_ble_eq_true rfl⟩ rfl rfl rfl hl.1 (Nat.le_of_ble_eq_true rfl) rfl dX12_could_91 ⟨Nat.le_of_ble_eq_true rfl, Nat.le_of_ble_eq_true rfl⟩) hw (fun H locs hw => ?_)
          refine W.eq (g2 := F0 m 94 ls [.int zt3, .int 1, .int zv3]) rfl ?_
          refine lv_ishl hx hb dX12_could_94 ?_
          refine lv_iconst (v := (-1)) hx hb dX12_could_95 (by decide) ?_
          refine lv_ixor hx hb dX12_could_96 ?_
          exact J_97 zv0 zv1 zv2 zv4 ((1 <<< (zt3 &&& 31)) ^^^ (-1)) zv3 _ _ _ ls hf hw (lv_sub hl [1, 2, 3, 5] rfl)
        · have hf := gif_f hf qc1
          refine lv_iconst (v := (-1)) hx hb dX12_could_82 (by decide) ?_
          refine lv_goto (tgt := 97) hx hb dX12_could_83 (by decide) ?_
          exact J_97 zv0 zv1 zv2 zv4 (-1) zv3 _ _ _ ls hf hw (lv_sub hl [1, 2, 3, 5] rfl)
      intro zv0 zv1 zv2 zv3 zv4 zh H locs ls hf hw hl
      have hf := gi_s hf
      dsimp only at hf
      unfold f_X12_could_34 at hf
      refine lv_iload hx hb dX12_could_34 (lv_at hl 4 rfl) ?_
      refine lv_aload_n hx hb dX12_could_36 rfl (lv_at hl 0 rfl) ?_
      obtain ⟨qizh1, hf⟩ := gg_el hf
      obtain ⟨zt2, zh1, qzh1, hf⟩ := gc_el hf
      refine gx_ki (gx_runV (As := []) (rest := [.int zv4]) X hw (c_X12_sights l E N zv0 zh qzh1) kX12_sights mm_X12_350 qizh1 clX12 ⟨Nat.le_of_ble_eq_true rfl, Nat.le_of_ble_eq_true rfl⟩ rfl rfl rfl hl.1 (Nat.le_of_ble_eq_true rfl) rfl dX12_could_37 ⟨Nat.le_of_ble_eq_true rfl, Nat.le_of_ble_eq_true rfl⟩) hw (fun H locs hw => ?_)
      refine lv_icmp_ge (tgt := 105) hx hb dX12_could_40 (by decide) (fun qc3 => ?_) (fun qc3 => ?_)
      · have hf := gif_t hf qc3
        refine lv_iload_n hx hb dX12_could_105 rfl (lv_at hl 3 rfl) ?_
        exact gx_iret X hr hlk hw hf dX12_could_106
      · have hf := gif_f hf qc3
        refine lv_aload_n hx hb dX12_could_43 rfl (lv_at hl 0 rfl) ?_
        refine lv_aload_n hx hb dX12_could_44 rfl (lv_at hl 0 rfl) ?_
        refine lv_iload hx hb dX12_could_45 (lv_at hl 4 rfl) ?_
        refine lv_iconst (v := 1) hx hb dX12_could_47 (by decide) ?_
        obtain ⟨qizh4, hf⟩ := gg_el hf
        obtain ⟨zt5, zh4, qzh4, hf⟩ := gc_el hf
        refine gx_ki (gx_runV (As := [.int zv4, .int 1]) (rest := [.ref (gB E + zv0)]) X hw (c_X12_sightOf l E N zv0 zv4 1 zh1 qzh4) kX12_sightOf mm_X12_353 qizh4 clX12 ⟨Nat.le_of_ble_eq_true rfl, Nat.le_of_ble_eq_true rfl⟩ rfl rfl rfl hl.1 (Nat.le_of_ble_eq_true rfl) rfl dX12_could_48 ⟨Nat.le_of_ble_eq_true rfl, Nat.le_of_ble_eq_true rfl⟩) hw (fun H locs hw => ?_)
        refine W.eq (g2 := F0 m 51 ls [.int zt5, .ref (gB E + zv0)]) rfl ?_
        refine lv_iload_n hx hb dX12_could_51 rfl (lv_at hl 1 rfl) ?_
        obtain ⟨qizh6, hf⟩ := gg_el hf
        obtain ⟨zt7, zh6, qzh6, hf⟩ := gc_el hf
        refine gx_ki (gx_runV (As := [.int zt5, .int zv1]) (rest := []) X hw (c_X12_walk l E N zv0 zt5 zv1 zh4 qzh6) kX12_walk mm_X12_356 qizh6 clX12 ⟨Nat.le_of_ble_eq_true rfl, Nat.le_of_ble_eq_true rfl⟩ rfl rfl rfl hl.1 (Nat.le_of_ble_eq_true rfl) rfl dX12_could_52 ⟨Nat.le_of_ble_eq_true rfl, Nat.le_of_ble_eq_true rfl⟩) hw (fun H locs hw => ?_)
        refine lv_aload_n hx hb dX12_could_55 rfl (lv_at hl 0 rfl) ?_
        refine lv_iload hx hb dX12_could_56 (lv_at hl 4 rfl) ?_
        refine lv_iconst (v := 2) hx hb dX12_could_58 (by decide) ?_
        obtain ⟨qizh8, hf⟩ := gg_el hf
        obtain ⟨zt9, zh8, qzh8, hf⟩ := gc_el hf
        refine gx_ki (gx_runV (As := [.int zv4, .int 2]) (rest := [.int zt7]) X hw (c_X12_sightOf l E N zv0 zv4 2 zh6 qzh8) kX12_sightOf mm_X12_353 qizh8 clX12 ⟨Nat.le_of_ble_eq_true rfl, Nat.le_of_ble_eq_true rfl⟩ rfl rfl rfl hl.1 (Nat.le_of_ble_eq_true rfl) rfl dX12_could_59 ⟨Nat.le_of_ble_eq_true rfl, Nat.le_of_ble_eq_true rfl⟩) hw (fun H locs hw => ?_)
        refine lv_iload_n hx hb dX12_could_62 rfl (lv_at hl 2 rfl) ?_
        obtain ⟨zt11, zh10, qzh10, hf⟩ := gc_el hf
        refine gx_ki (gx_runS (As := [.int zt9, .int zv2]) (rest := [.int zt7]) X hw (c_X12_apart l E N zt9 zv2 zh8 qzh10) kX12_apart mm_X12_359 ⟨Nat.le_of_ble_eq_true rfl, Nat.le_of_ble_eq_true rfl⟩ rfl rfl rfl hl.1 (Nat.le_of_ble_eq_true rfl) rfl dX12_could_63 ⟨Nat.le_of_ble_eq_true rfl, Nat.le_of_ble_eq_true rfl⟩) hw (fun H locs hw => ?_)
        refine lv_icmp_gt (tgt := 73) hx hb dX12_could_66 (by decide) (fun qc12 => ?_) (fun qc12 => ?_)
        · have hf := gif_t hf qc12
          refine lv_iconst (v := 0) hx hb dX12_could_73 (by decide) ?_
          exact J_74 zv0 zv1 zv2 zv3 zv4 0 _ _ _ ls hf hw (lv_sub hl [0, 1, 2, 3, 4] rfl)
        · have hf := gif_f hf qc12
          refine lv_iconst (v := 1) hx hb dX12_could_69 (by decide) ?_
          refine W.eq (g2 := F0 m 70 ls [.int 1]) rfl ?_
          refine lv_goto (tgt := 74) hx hb dX12_could_70 (by decide) ?_
          exact J_74 zv0 zv1 zv2 zv3 zv4 1 _ _ _ ls hf hw (lv_sub hl [0, 1, 2, 3, 4] rfl)
  have J_20 : ∀ (zh : PH) (H : Heap) (locs : List Loc) (ls : Array Slot), f_X12_could_20 N zh = some (r9, h9) → gw E s zh H locs → lv_has ls 6 [] → W p l e rm_X12_could s m [.ref (gB E + za0), .int za1, .int za2].toArray below meth c H locs 0 0 (MQ below (gQi E r9 h9) [.ref (gB E + za0), .int za1, .int za2].toArray s 0 0 (gA E)) (F0 m 20 ls []) := by
    intro zh H locs ls hf hw hl
    unfold f_X12_could_20 at hf
    refine lv_iconst (v := (-1)) hx hb dX12_could_20 (by decide) ?_
    exact gx_iret X hr hlk hw hf dX12_could_21
  unfold f_X12_could at hf
  refine lv_aload_n hx hb dX12_could_0 rfl (lv_at hl 0 rfl) ?_
  refine lv_iconst (v := 0) hx hb dX12_could_1 (by decide) ?_
  obtain ⟨zh1, qzh1, hf⟩ := gb_el hf
  refine gx_putV X hw qzh1 clX12 (by decide) mf_X12_1 rfl rfl rfl dX12_could_2 (fun H locs hw => ?_)
  refine lv_aload_n hx hb dX12_could_5 rfl (lv_at hl 0 rfl) ?_
  refine lv_iload_n hx hb dX12_could_6 rfl (lv_at hl 1 rfl) ?_
  obtain ⟨qizh2, hf⟩ := gg_el hf
  obtain ⟨zt3, zh2, qzh2, hf⟩ := gc_el hf
  refine gx_ki (gx_runV (As := [.int za1]) (rest := []) X hw (c_X12_isRoom l E N za0 za1 zh1 qzh2) kX12_isRoom mm_X12_309 qizh2 clX12 ⟨Nat.le_of_ble_eq_true rfl, Nat.le_of_ble_eq_true rfl⟩ rfl rfl rfl hl.1 (Nat.le_of_ble_eq_true rfl) rfl dX12_could_7 ⟨Nat.le_of_ble_eq_true rfl, Nat.le_of_ble_eq_true rfl⟩) hw (fun H locs hw => ?_)
  refine lv_if_eq (tgt := 20) hx hb dX12_could_10 (by decide) (fun qc4 => ?_) (fun qc4 => ?_)
  · have hf := gif_t hf qc4
    exact J_20  _ _ _ ls hf hw (lv_sub hl [] rfl)
  · have hf := gif_f hf qc4
    refine lv_iload_n hx hb dX12_could_13 rfl (lv_at hl 2 rfl) ?_
    obtain ⟨zt6, zh5, qzh5, hf⟩ := gc_el hf
    refine gx_ki (gx_runS (As := [.int za2]) (rest := []) X hw (c_X12_isTold l E N za2 zh2 qzh5) kX12_isTold mm_X12_321 ⟨Nat.le_of_ble_eq_true rfl, Nat.le_of_ble_eq_true rfl⟩ rfl rfl rfl hl.1 (Nat.le_of_ble_eq_true rfl) rfl dX12_could_14 ⟨Nat.le_of_ble_eq_true rfl, Nat.le_of_ble_eq_true rfl⟩) hw (fun H locs hw => ?_)
    refine W.eq (g2 := F0 m 17 ls [.int zt6]) rfl ?_
    refine lv_if_ne (tgt := 22) hx hb dX12_could_17 (by decide) (fun qc7 => ?_) (fun qc7 => ?_)
    · have hf := gif_f hf qc7
      refine lv_iconst (v := 1) hx hb dX12_could_22 (by decide) ?_
      refine lv_aload_n hx hb dX12_could_23 rfl (lv_at hl 0 rfl) ?_
      obtain ⟨qizh8, hf⟩ := gg_el hf
      obtain ⟨zt9, zh8, qzh8, hf⟩ := gc_el hf
      refine gx_ki (gx_runV (As := []) (rest := [.int 1]) X hw (c_X12_guests l E N za0 zh5 qzh8) kX12_guests mm_X12_234 qizh8 clX12 ⟨Nat.le_of_ble_eq_true rfl, Nat.le_of_ble_eq_true rfl⟩ rfl rfl rfl hl.1 (Nat.le_of_ble_eq_true rfl) rfl dX12_could_24 ⟨Nat.le_of_ble_eq_true rfl, Nat.le_of_ble_eq_true rfl⟩) hw (fun H locs hw => ?_)
      refine lv_ishl hx hb dX12_could_27 ?_
      refine lv_iconst (v := 1) hx hb dX12_could_28 (by decide) ?_
      refine lv_isub hx hb dX12_could_29 ?_
      refine lv_topi (fun zx10 ezx10 => ?_)
      have hf := gl_el hf ezx10
      refine lv_istore_n (lv' := [(3, .int zx10), (0, .ref (gB E + za0)), (1, .int za1), (2, .int za2)]) hx hb dX12_could_30 rfl hl (by decide) rfl (fun ls hl => ?_)
      refine lv_iconst (v := 0) hx hb dX12_could_31 (by decide) ?_
      refine lv_istore (lv' := [(4, .int 0), (3, .int zx10), (0, .ref (gB E + za0)), (1, .int za1), (2, .int za2)]) hx hb dX12_could_32 hl (by decide) rfl (fun ls hl => ?_)
      exact L_34 N za0 za1 za2 zx10 0 _ _ _ ls hf hw (lv_sub hl [2, 3, 4, 1, 0] rfl)
    · have hf := gif_t hf qc7
      exact J_20  _ _ _ ls hf hw (lv_sub hl [] rfl)
abbrev rm_X12_areUnlike : Room := { frames := 3, cells := 0, slots := 0, locals := 66 }
set_option maxHeartbeats 4000000 in
set_option maxRecDepth 100000 in
theorem c_X12_areUnlike (l : Launch) (E : gE) (N : Nat) (za0 : Nat) (za1 : Int32) (za2 : Int32) (zh : PH) {h9 : PH} {r9 : Int32} (hf : f_X12_areUnlike N za0 za1 za2 zh = some (r9, h9)) : Met l yX12_areUnlike (gWS yX12_areUnlike cX12_areUnlike 3 (some .boolean)) rm_X12_areUnlike (gPc E [.ref (gB E + za0), .int za1, .int za2] zh) (gQi E r9 h9) 0 0 (gA E) := by
  refine gx_met (by decide) ?_ rfl
  intro p e s m below meth c X hr hlk hin2 hw
  have hx := X.1.1
  have hb := X.1.2.1
  have hl := lv_entry [.ref (gB E + za0), .int za1, .int za2] (n := 3) (Nat.le_of_ble_eq_true rfl)
  rw [lg_entry_eq]
  generalize (lg_sl [.ref (gB E + za0), .int za1, .int za2] ++ List.replicate (3 - (lg_sl [.ref (gB E + za0), .int za1, .int za2]).length) Slot.unset).toArray = ls at hl ⊢
  have hl : lv_has ls 3 [(0, .ref (gB E + za0)), (1, .int za1), (2, .int za2)] := hl
  have J_54 : ∀ (zs0 : Int32) (zh : PH) (H : Heap) (locs : List Loc) (ls : Array Slot), f_X12_areUnlike_54 N zs0 zh = some (r9, h9) → gw E s zh H locs → lv_has ls 3 [] → W p l e rm_X12_areUnlike s m [.ref (gB E + za0), .int za1, .int za2].toArray below meth c H locs 0 0 (MQ below (gQi E r9 h9) [.ref (gB E + za0), .int za1, .int za2].toArray s 0 0 (gA E)) (F0 m 54 ls [.int zs0]) := by
    intro zs0 zh H locs ls hf hw hl
    unfold f_X12_areUnlike_54 at hf
    exact gx_zret X hr hlk hw hf dX12_areUnlike_54
  have J_53 : ∀ (zh : PH) (H : Heap) (locs : List Loc) (ls : Array Slot), f_X12_areUnlike_53 N zh = some (r9, h9) → gw E s zh H locs → lv_has ls 3 [] → W p l e rm_X12_areUnlike s m [.ref (gB E + za0), .int za1, .int za2].toArray below meth c H locs 0 0 (MQ below (gQi E r9 h9) [.ref (gB E + za0), .int za1, .int za2].toArray s 0 0 (gA E)) (F0 m 53 ls []) := by
    intro zh H locs ls hf hw hl
    unfold f_X12_areUnlike_53 at hf
    refine lv_iconst (v := 0) hx hb dX12_areUnlike_53 (by decide) ?_
    exact J_54 0 _ _ _ ls hf hw (lv_sub hl [] rfl)
  unfold f_X12_areUnlike at hf
  refine lv_aload_n hx hb dX12_areUnlike_0 rfl (lv_at hl 0 rfl) ?_
  refine lv_iload_n hx hb dX12_areUnlike_1 rfl (lv_at hl 1 rfl) ?_
  refine lv_iconst (v := 0) hx hb dX12_areUnlike_2 (by decide) ?_
  obtain ⟨qizh1, hf⟩ := gg_el hf
  obtain ⟨zt2, zh1, qzh1, hf⟩ := gc_el hf
  refine gx_ki (gx_runV (As := [.int za1, .int 0]) (rest := []) X hw (c_X12_sightOf l E N za0 za1 0 zh qzh1) kX12_sightOf mm_X12_353 qizh1 clX12 ⟨Nat.le_of_ble_eq_true rfl, Nat.le_of_ble_eq_true rfl⟩ rfl rfl rfl hl.1 (Nat.le_of_ble_eq_true rfl) rfl dX12_areUnlike_3 ⟨Nat.le_of_ble_eq_true rfl, Nat.le_of_ble_eq_true rfl⟩) hw (fun H locs hw => ?_)
  refine lv_aload_n hx hb dX12_areUnlike_6 rfl (lv_at hl 0 rfl) ?_
  refine lv_iload_n hx hb dX12_areUnlike_7 rfl (lv_at hl 2 rfl) ?_
  refine lv_iconst (v := 0) hx hb dX12_areUnlike_8 (by decide) ?_
  obtain ⟨qizh3, hf⟩ := gg_el hf
  obtain ⟨zt4, zh3, qzh3, hf⟩ := gc_el hf
  refine gx_ki (gx_runV (As := [.int za2, .int 0]) (rest := [.int zt2]) X hw (c_X12_sightOf l E N za0 za2 0 zh1 qzh3) kX12_sightOf mm_X12_353 qizh3 clX12 ⟨Nat.le_of_ble_eq_true rfl, Nat.le_of_ble_eq_true rfl⟩ rfl rfl rfl hl.1 (Nat.le_of_ble_eq_true rfl) rfl dX12_areUnlike_9 ⟨Nat.le_of_ble_eq_true rfl, Nat.le_of_ble_eq_true rfl⟩) hw (fun H locs hw => ?_)
  refine lv_icmp_ne (tgt := 53) hx hb dX12_areUnlike_12 (by decide) (fun qc5 => ?_) (fun qc5 => ?_)
  · have hf := gif_f hf qc5
    exact J_53  _ _ _ ls hf hw (lv_sub hl [] rfl)
  · have hf := gif_t hf qc5
    refine W.eq (g2 := F0 m 15 ls []) rfl ?_
    refine lv_aload_n hx hb dX12_areUnlike_15 rfl (lv_at hl 0 rfl) ?_
    refine lv_aload_n hx hb dX12_areUnlike_16 rfl (lv_at hl 0 rfl) ?_
    refine lv_iload_n hx hb dX12_areUnlike_17 rfl (lv_at hl 1 rfl) ?_
    refine lv_iconst (v := 1) hx hb dX12_areUnlike_18 (by decide) ?_
    obtain ⟨qizh6, hf⟩ := gg_el hf
    obtain ⟨zt7, zh6, qzh6, hf⟩ := gc_el hf
    refine gx_ki (gx_runV (As := [.int za1, .int 1]) (rest := [.ref (gB E + za0)]) X hw (c_X12_sightOf l E N za0 za1 1 zh3 qzh6) kX12_sightOf mm_X12_353 qizh6 clX12 ⟨Nat.le_of_ble_eq_true rfl, Nat.le_of_ble_eq_true rfl⟩ rfl rfl rfl hl.1 (Nat.le_of_ble_eq_true rfl) rfl dX12_areUnlike_19 ⟨Nat.le_of_ble_eq_true rfl, Nat.le_of_ble_eq_true rfl⟩) hw (fun H locs hw => ?_)
    refine lv_aload_n hx hb dX12_areUnlike_22 rfl (lv_at hl 0 rfl) ?_
    refine lv_iload_n hx hb dX12_areUnlike_23 rfl (lv_at hl 2 rfl) ?_
    refine lv_iconst (v := 1) hx hb dX12_areUnlike_24 (by decide) ?_
    obtain ⟨qizh8, hf⟩ := gg_el hf
    obtain ⟨zt9, zh8, qzh8, hf⟩ := gc_el hf
    refine gx_ki (gx_runV (As := [.int za2, .int 1]) (rest := [.int zt7, .ref (gB E + za0)]) X hw (c_X12_sightOf l E N za0 za2 1 zh6 qzh8) kX12_sightOf mm_X12_353 qizh8 clX12 ⟨Nat.le_of_ble_eq_true rfl, Nat.le_of_ble_eq_true rfl⟩ rfl rfl rfl hl.1 (Nat.le_of_ble_eq_true rfl) rfl dX12_areUnlike_25 ⟨Nat.le_of_ble_eq_true rfl, Nat.le_of_ble_eq_true rfl⟩) hw (fun H locs hw => ?_)
    obtain ⟨qizh10, hf⟩ := gg_el hf
    obtain ⟨zt11, zh10, qzh10, hf⟩ := gc_el hf
    refine gx_ki (gx_runV (As := [.int zt7, .int zt9]) (rest := []) X hw (c_X12_walk l E N za0 zt7 zt9 zh8 qzh10) kX12_walk mm_X12_356 qizh10 clX12 ⟨Nat.le_of_ble_eq_true rfl, Nat.le_of_ble_eq_true rfl⟩ rfl rfl rfl hl.1 (Nat.le_of_ble_eq_true rfl) rfl dX12_areUnlike_28 ⟨Nat.le_of_ble_eq_true rfl, Nat.le_of_ble_eq_true rfl⟩) hw (fun H locs hw => ?_)
    refine W.eq (g2 := F0 m 31 ls [.int zt11]) rfl ?_
    refine lv_aload_n hx hb dX12_areUnlike_31 rfl (lv_at hl 0 rfl) ?_
    refine lv_iload_n hx hb dX12_areUnlike_32 rfl (lv_at hl 1 rfl) ?_
    refine lv_iconst (v := 2) hx hb dX12_areUnlike_33 (by decide) ?_
    obtain ⟨qizh12, hf⟩ := gg_el hf
    obtain ⟨zt13, zh12, qzh12, hf⟩ := gc_el hf
    refine gx_ki (gx_runV (As := [.int za1, .int 2]) (rest := [.int zt11]) X hw (c_X12_sightOf l E N za0 za1 2 zh10 qzh12) kX12_sightOf mm_X12_353 qizh12 clX12 ⟨Nat.le_of_ble_eq_true rfl, Nat.le_of_ble_eq_true rfl⟩ rfl rfl rfl hl.1 (Nat.le_of_ble_eq_true rfl) rfl dX12_areUnlike_34 ⟨Nat.le_of_ble_eq_true rfl, Nat.le_of_ble_eq_true rfl⟩) hw (fun H locs hw => ?_)
    refine lv_aload_n hx hb dX12_areUnlike_37 rfl (lv_at hl 0 rfl) ?_
    refine lv_iload_n hx hb dX12_areUnlike_38 rfl (lv_at hl 2 rfl) ?_
    refine lv_iconst (v := 2) hx hb dX12_areUnlike_39 (by decide) ?_
    obtain ⟨qizh14, hf⟩ := gg_el hf
    obtain ⟨zt15, zh14, qzh14, hf⟩ := gc_el hf
    refine gx_ki (gx_runV (As := [.int za2, .int 2]) (rest := [.int zt13, .int zt11]) X hw (c_X12_sightOf l E N za0 za2 2 zh12 qzh14) kX12_sightOf mm_X12_353 qizh14 clX12 ⟨Nat.le_of_ble_eq_true rfl, Nat.le_of_ble_eq_true rfl⟩ rfl rfl rfl hl.1 (Nat.le_of_ble_eq_true rfl) rfl dX12_areUnlike_40 ⟨Nat.le_of_ble_eq_true rfl, Nat.le_of_ble_eq_true rfl⟩) hw (fun H locs hw => ?_)
    obtain ⟨zt17, zh16, qzh16, hf⟩ := gc_el hf
    refine gx_ki (gx_runS (As := [.int zt13, .int zt15]) (rest := [.int zt11]) X hw (c_X12_apart l E N zt13 zt15 zh14 qzh16) kX12_apart mm_X12_359 ⟨Nat.le_of_ble_eq_true rfl, Nat.le_of_ble_eq_true rfl⟩ rfl rfl rfl hl.1 (Nat.le_of_ble_eq_true rfl) rfl dX12_areUnlike_43 ⟨Nat.le_of_ble_eq_true rfl, Nat.le_of_ble_eq_true rfl⟩) hw (fun H locs hw => ?_)
    refine lv_icmp_le (tgt := 53) hx hb dX12_areUnlike_46 (by decide) (fun qc18 => ?_) (fun qc18 => ?_)
    · have hf := gif_t hf qc18
      exact J_53  _ _ _ ls hf hw (lv_sub hl [] rfl)
    · have hf := gif_f hf qc18
      refine W.eq (g2 := F0 m 49 ls []) rfl ?_
      refine lv_iconst (v := 1) hx hb dX12_areUnlike_49 (by decide) ?_
      refine lv_goto (tgt := 54) hx hb dX12_areUnlike_50 (by decide) ?_
      exact J_54 1 _ _ _ ls hf hw (lv_sub hl [] rfl)
