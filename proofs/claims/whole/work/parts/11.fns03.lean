def f_X11_movesByArrivals_96 (N : Nat) (zs0 : Int32) (zh : PH) : Option (Int32 × PH) :=
  some (zs0, zh)
def f_X11_movesByArrivals_59 (N : Nat) (zv0 : Nat) (zv1 : Int32) (zv3 : Int32) (zv4 : Nat) (zh : PH) : Option (Int32 × PH) :=
  if (zv3 : Int32) = 0 then (
  gb (gfR 11 6 zv0 zh) fun zt2 =>
  gb (gfR 1 2 zt2 zh) fun zt3 =>
  gb (arI 0 zt3 zv1 zh) fun zt4 =>
  gb (gfR 1 2 zv4 zh) fun zt5 =>
  gb (arI 0 zt5 zv1 zh) fun zt6 =>
  f_X11_movesByArrivals_96 N (zt4 - zt6) zh)
  else (
  gb (gfR 11 6 zv0 zh) fun zt7 =>
  gb (gfI 1 5 zt7 zh) fun zt8 =>
  gb (gfI 1 5 zv4 zh) fun zt9 =>
  f_X11_movesByArrivals_96 N (zt8 - zt9) zh)
def f_X11_movesByArrivals_21 (N : Nat) (zk21 : (Nat × Int32 × Int32 × Int32 × Nat × Int32 × PH) → Option (Int32 × PH)) (zv0 : Nat) (zv1 : Int32) (zv2 : Int32) (zv3 : Int32) (zv4 : Nat) (zv5 : Int32) (zh : PH) : Option (Int32 × PH) :=
  if (zv2 : Int32) ≤ zv5 then (
  f_X11_movesByArrivals_59 N zv0 zv1 zv3 zv4 zh)
  else (
  if (7 : Int32) ≤ zv5 then (
  f_X11_movesByArrivals_59 N zv0 zv1 zv3 zv4 zh)
  else (
  gb (gfR 11 6 zv0 zh) fun zt3 =>
  gb (gfR 11 9 zv0 zh) fun zt4 =>
  gb (gfR 11 7 zv0 zh) fun zt5 =>
  gb (arI 0 zt5 zv5 zh) fun zt6 =>
  gg (gIs 1 zt3 zh) <|
  gb (f_X1_takeIn N zt3 zt4 zt6 none zh) fun zh7 =>
  gl (zv5 + 1) fun (zx8 : Int32) =>
  zk21 (zv0, zv1, zv2, zv3, zv4, zx8, zh7)))
def f_X11_movesByArrivals (N : Nat) (za0 : Nat) (za1 : Int32) (za2 : Int32) (za3 : Int32) (zh : PH) : Option (Int32 × PH) :=
  gb (gfR 11 3 za0 zh) fun zt1 =>
  gb (gfR 9 1 zt1 zh) fun zt2 =>
  gb (gfR 11 6 za0 zh) fun zt3 =>
  gg (gIs 1 zt3 zh) <|
  gb (f_X1_copyFrom N zt3 zt2 zh) fun zh4 =>
  gi (fun zk zs => f_X11_movesByArrivals_21 N zk zs.1 zs.2.1 zs.2.2.1 zs.2.2.2.1 zs.2.2.2.2.1 zs.2.2.2.2.2.1 zs.2.2.2.2.2.2) N (za0, za1, za2, za3, zt2, 0, zh4)
def f_X11_addArrivals_39 (N : Nat) (zk5 : (Nat × Int32 × Int32 × Int32 × PH) → Option (Int32 × PH)) (zv0 : Nat) (zv1 : Int32) (zv3 : Int32) (zv4 : Int32) (zh : PH) : Option (Int32 × PH) :=
  gl (zv4 + 1) fun (zx1 : Int32) =>
  zk5 (zv0, zv1, zv3, zx1, zh)
def f_X11_addArrivals_5 (N : Nat) (zk5 : (Nat × Int32 × Int32 × Int32 × PH) → Option (Int32 × PH)) (zv0 : Nat) (zv1 : Int32) (zv3 : Int32) (zv4 : Int32) (zh : PH) : Option (Int32 × PH) :=
  if (10 : Int32) ≤ zv4 then (
  some (zv3, zh))
  else (
  gc (f_X11_bitOf N zv1 zv4 zh) fun zt3 zh2 =>
  if (zt3 : Int32) = 1 then (
  if (7 : Int32) ≤ zv3 then (
  f_X11_addArrivals_39 N zk5 zv0 zv1 zv3 zv4 zh2)
  else (
  gb (gfR 11 7 zv0 zh2) fun zt6 =>
  gb (asI 0 zt6 zv3 zv4 zh2) fun zh7 =>
  gl (zv3 + 1) fun (zx8 : Int32) =>
  f_X11_addArrivals_39 N zk5 zv0 zv1 zx8 zv4 zh7))
  else (
  f_X11_addArrivals_39 N zk5 zv0 zv1 zv3 zv4 zh2))
def f_X11_addArrivals (N : Nat) (za0 : Nat) (za1 : Int32) (za2 : Int32) (zh : PH) : Option (Int32 × PH) :=
  gi (fun zk zs => f_X11_addArrivals_5 N zk zs.1 zs.2.1 zs.2.2.1 zs.2.2.2.1 zs.2.2.2.2) N (za0, za1, za2, 0, zh)
def f_X11_planArrivals (N : Nat) (za0 : Nat) (za1 : Int32) (zh : PH) : Option PH :=
  gb (gfR 11 3 za0 zh) fun zt1 =>
  gb (gfI 9 7 zt1 zh) fun zt2 =>
  gl ((zt2 &&& ((1 <<< (za1 &&& 31)) ^^^ (-1)))) fun (zx3 : Int32) =>
  gb (gfR 11 9 za0 zh) fun zt4 =>
  gb (gfI 2 3 zt4 zh) fun zt5 =>
  gg (gIs 11 za0 zh) <|
  gc (f_X11_addArrivals N za0 (zx3 &&& (zt5 ^^^ (-1))) 0 zh) fun zt7 zh6 =>
  gb (gfR 11 9 za0 zh6) fun zt8 =>
  gb (gfI 2 3 zt8 zh6) fun zt9 =>
  gg (gIs 11 za0 zh6) <|
  gc (f_X11_addArrivals N za0 (zx3 &&& zt9) zt7 zh6) fun zt11 zh10 =>
  gb (gfR 11 3 za0 zh10) fun zt12 =>
  gb (gfI 9 7 zt12 zh10) fun zt13 =>
  gg (gIs 11 za0 zh10) <|
  gc (f_X11_addArrivals N za0 (zt13 &&& (zx3 ^^^ (-1))) zt11 zh10) fun zt15 zh14 =>
  some zh14
def f_X11_order_127 (N : Nat) (zs0 : Int32) (zh : PH) : Option (Int32 × PH) :=
  some (zs0, zh)
def f_X11_order_124 (N : Nat) (zs0 : Int32) (zs1 : Int32) (zs2 : Int32) (zs3 : Nat) (zh : PH) : Option (Int32 × PH) :=
  gg (gIs 11 zs3 zh) <|
  gc (f_X11_movesByArrivals N zs3 zs2 zs1 zs0 zh) fun zt2 zh1 =>
  f_X11_order_127 N zt2 zh1
def f_X11_order_90 (N : Nat) (zv0 : Nat) (zv1 : Int32) (zv2 : Int32) (zv3 : Int32) (zh : PH) : Option (Int32 × PH) :=
  gg (gIs 11 zv0 zh) <|
  gb (f_X11_planArrivals N zv0 zv1 zh) fun zh1 =>
  if (zv2 : Int32) < 2 then (
  if (zv2 : Int32) = 1 then (
  f_X11_order_124 N 1 zv3 zv1 zv0 zh1)
  else (
  f_X11_order_124 N 0 zv3 zv1 zv0 zh1))
  else (
  gb (gfR 11 7 zv0 zh1) fun zt4 =>
  gb (arI 0 zt4 (zv2 - 2) zh1) fun zt5 =>
  f_X11_order_127 N zt5 zh1)
def f_X11_order_58 (N : Nat) (zh : PH) : Option (Int32 × PH) :=
  some ((-1), zh)
def f_X11_order_30 (N : Nat) (zh : PH) : Option (Int32 × PH) :=
  some ((-1), zh)
def f_X11_order (N : Nat) (za0 : Nat) (za1 : Int32) (za2 : Int32) (zh : PH) : Option (Int32 × PH) :=
  gb (gfR 11 3 za0 zh) fun zt1 =>
  gb (gfI 9 7 zt1 zh) fun zt2 =>
  gc (f_J6_bitCount_0f7a4 N zt2 zh) fun zt4 zh3 =>
  gg (gIs 11 za0 zh3) <|
  gc (f_X11_isGuest N za0 za1 zh3) fun zt6 zh5 =>
  if (zt6 : Int32) = 0 then (
  f_X11_order_30 N  zh5)
  else (
  if (za2 : Int32) < 0 then (
  f_X11_order_30 N  zh5)
  else (
  if (za2 : Int32) < (2 + zt4) then (
  if (zt4 : Int32) = 0 then (
  f_X11_order_58 N  zh5)
  else (
  gb (gfR 11 9 za0 zh5) fun zt11 =>
  gb (gfI 2 0 zt11 zh5) fun zt12 =>
  gb (gfR 11 3 za0 zh5) fun zt13 =>
  gb (gfR 9 1 zt13 zh5) fun zt14 =>
  gg (gIs 1 zt14 zh5) <|
  gc (f_X1_guestsIn N zt14 zh5) fun zt16 zh15 =>
  if (zt4 : Int32) ≤ (zt12 - zt16) then (
  gb (gfR 11 3 za0 zh15) fun zt18 =>
  gb (gfR 9 1 zt18 zh15) fun zt19 =>
  gg (gIs 1 zt19 zh15) <|
  gc (f_X1_isIn N zt19 za1 zh15) fun zt21 zh20 =>
  if (zt21 : Int32) = 0 then (
  gb (gfR 11 3 za0 zh20) fun zt23 =>
  gb (gfI 9 7 zt23 zh20) fun zt24 =>
  gc (f_X11_bitOf N zt24 za1 zh20) fun zt26 zh25 =>
  if (zt26 : Int32) = 0 then (
  some ((-1), zh25))
  else (
  f_X11_order_90 N za0 za1 za2 zt4 zh25))
  else (
  f_X11_order_90 N za0 za1 za2 zt4 zh20))
  else (
  f_X11_order_58 N  zh15)))
  else (
  f_X11_order_30 N  zh5)))
def f_X11_tried_15 (N : Nat) (zv0 : Nat) (zv1 : Int32) (zv2 : Int32) (zh : PH) : Option (Int32 × PH) :=
  gb (gfR 11 3 zv0 zh) fun zt1 =>
  gg (gIs 9 zt1 zh) <|
  gc (f_X9_trialOf N zt1 zv1 zh) fun zt3 zh2 =>
  if (zv2 : Int32) = 0 then (
  gb (gfI 1 4 zt3 zh2) fun zt5 =>
  some (zt5, zh2))
  else (
  if (zv2 : Int32) = 1 then (
  gb (gfI 1 5 zt3 zh2) fun zt7 =>
  some (zt7, zh2))
  else (
  if (zv2 : Int32) = 2 then (
  gg (gIs 1 zt3 zh2) <|
  gc (f_X1_spreadOfMoves N zt3 zh2) fun zt10 zh9 =>
  some (zt10, zh9))
  else (
  some ((-1), zh2))))
def f_X11_tried (N : Nat) (za0 : Nat) (za1 : Int32) (za2 : Int32) (zh : PH) : Option (Int32 × PH) :=
  if (za1 : Int32) = (-1) then (
  f_X11_tried_15 N za0 za1 za2 zh)
  else (
  gg (gIs 11 za0 zh) <|
  gc (f_X11_isRule N za0 za1 zh) fun zt3 zh2 =>
  if (zt3 : Int32) = 0 then (
  some ((-1), zh2))
  else (
  f_X11_tried_15 N za0 za1 za2 zh2))
def f_X11_best_44 (N : Nat) (zk4 : (Nat × Int32 × Int32 × PH) → Option (Int32 × PH)) (zv0 : Nat) (zv1 : Int32) (zv2 : Int32) (zh : PH) : Option (Int32 × PH) :=
  gl (zv2 + 1) fun (zx1 : Int32) =>
  zk4 (zv0, zv1, zx1, zh)
def f_X11_best_42 (N : Nat) (zk4 : (Nat × Int32 × Int32 × PH) → Option (Int32 × PH)) (zv0 : Nat) (zv2 : Int32) (zh : PH) : Option (Int32 × PH) :=
  f_X11_best_44 N zk4 zv0 zv2 zv2 zh
def f_X11_best_4 (N : Nat) (zk4 : (Nat × Int32 × Int32 × PH) → Option (Int32 × PH)) (zv0 : Nat) (zv1 : Int32) (zv2 : Int32) (zh : PH) : Option (Int32 × PH) :=
  gb (gfR 11 9 zv0 zh) fun zt1 =>
  gb (gfI 2 2 zt1 zh) fun zt2 =>
  if (zt2 : Int32) ≤ zv2 then (
  some (zv1, zh))
  else (
  if (zv1 : Int32) = (-1) then (
  f_X11_best_42 N zk4 zv0 zv2 zh)
  else (
  gb (gfR 11 3 zv0 zh) fun zt5 =>
  gg (gIs 9 zt5 zh) <|
  gc (f_X9_trialOf N zt5 zv2 zh) fun zt7 zh6 =>
  gb (gfR 11 3 zv0 zh6) fun zt8 =>
  gg (gIs 9 zt8 zh6) <|
  gc (f_X9_trialOf N zt8 zv1 zh6) fun zt10 zh9 =>
  gg (gIs 1 zt7 zh9) <|
  gc (f_X1_isBetterThan N zt7 zt10 zh9) fun zt12 zh11 =>
  if (zt12 : Int32) = 0 then (
  f_X11_best_44 N zk4 zv0 zv1 zv2 zh11)
  else (
  f_X11_best_42 N zk4 zv0 zv2 zh11)))
def f_X11_best (N : Nat) (za0 : Nat) (zh : PH) : Option (Int32 × PH) :=
  gi (fun zk zs => f_X11_best_4 N zk zs.1 zs.2.1 zs.2.2.1 zs.2.2.2) N (za0, (-1), 0, zh)
def f_X11_goBackTo_20 (N : Nat) (zh : PH) : Option (Int32 × PH) :=
  gg (gzb 0) (some (0, zh))
def f_X11_goBackTo (N : Nat) (za0 : Nat) (za1 : Int32) (zh : PH) : Option (Int32 × PH) :=
  gb (gfI 11 11 za0 zh) fun zt1 =>
  gc (f_X11_bitOf N zt1 za1 zh) fun zt3 zh2 =>
  if (zt3 : Int32) = 0 then (
  f_X11_goBackTo_20 N  zh2)
  else (
  gb (gfR 11 4 za0 zh2) fun zt5 =>
  gb (arQ 5 zt5 za1 zh2) fun zt6 =>
  gqm zt6 (
  f_X11_goBackTo_20 N  zh2)
  (fun zp7 =>
  gb (gfR 11 3 za0 zh2) fun zt8 =>
  gb (gfR 11 4 za0 zh2) fun zt9 =>
  gb (arR 5 zt9 za1 zh2) fun zt10 =>
  gg (gIs 9 zt8 zh2) <|
  gb (f_X9_copyFrom N zt8 zt10 zh2) fun zh11 =>
  gg (gzb 1) (some (1, zh11))))
def f_X11_mark_47 (N : Nat) (zv0 : Nat) (zv1 : Int32) (zh : PH) : Option (Int32 × PH) :=
  gb (gfR 11 4 zv0 zh) fun zt1 =>
  gb (arR 5 zt1 zv1 zh) fun zt2 =>
  gb (gfR 11 3 zv0 zh) fun zt3 =>
  gg (gIs 9 zt2 zh) <|
  gb (f_X9_copyFrom N zt2 zt3 zh) fun zh4 =>
  gb (gfI 11 11 zv0 zh4) fun zt5 =>
  gb (pfV 11 11 zv0 (.int (zt5 ||| (1 <<< (zv1 &&& 31)))) zh4) fun zh6 =>
  gg (gzb 1) (some (1, zh6))
def f_X11_mark_9 (N : Nat) (zh : PH) : Option (Int32 × PH) :=
  gg (gzb 0) (some (0, zh))
def f_X11_mark (N : Nat) (za0 : Nat) (za1 : Int32) (za2 : Int32) (zh : PH) : Option (Int32 × PH) :=
  if (za1 : Int32) < 0 then (
  f_X11_mark_9 N  zh)
  else (
  if (za1 : Int32) < 4 then (
  if (za2 : Int32) = 0 then (
  gb (gfR 11 4 za0 zh) fun zt4 =>
  gb (arQ 5 zt4 za1 zh) fun zt5 =>
  gqm zt5 (
  gb (gfR 11 4 za0 zh) fun zt7 =>
  gc (nwO 9 n0X9 zh) fun zr9 zh8 =>
  gb (gfR 11 2 za0 zh8) fun zt10 =>
  gb (f_X9_init N zr9 zt10 zh8) fun zh11 =>
  gb (asQ 5 zt7 9 za1 zr9 zh11) fun zh12 =>
  f_X11_mark_47 N za0 za1 zh12)
  (fun zp6 =>
  f_X11_mark_47 N za0 za1 zh))
  else (
  gg (gIs 11 za0 zh) <|
  gc (f_X11_goBackTo N za0 za1 zh) fun zt14 zh13 =>
  gg (gzb zt14) (some (zt14, zh13))))
  else (
  f_X11_mark_9 N  zh))
def f_X11_count (N : Nat) (za0 : Nat) (za1 : Int32) (zh : PH) : Option (Int32 × PH) :=
  if (za1 : Int32) = 0 then (
  gb (gfR 11 9 za0 zh) fun zt2 =>
  gb (gfI 2 0 zt2 zh) fun zt3 =>
  some (zt3, zh))
  else (
  if (za1 : Int32) = 1 then (
  gb (gfR 11 9 za0 zh) fun zt5 =>
  gb (gfI 2 1 zt5 zh) fun zt6 =>
  some (zt6, zh))
  else (
  if (za1 : Int32) = 2 then (
  gb (gfR 11 9 za0 zh) fun zt8 =>
  gb (gfI 2 2 zt8 zh) fun zt9 =>
  some (zt9, zh))
  else (
  if (za1 : Int32) = 3 then (
  gb (gfR 11 3 za0 zh) fun zt11 =>
  gb (gfR 9 1 zt11 zh) fun zt12 =>
  gg (gIs 1 zt12 zh) <|
  gc (f_X1_guestsIn N zt12 zh) fun zt14 zh13 =>
  some (zt14, zh13))
  else (
  if (za1 : Int32) = 4 then (
  gb (gfR 11 3 za0 zh) fun zt16 =>
  gb (gfI 9 8 zt16 zh) fun zt17 =>
  some (zt17, zh))
  else (
  if (za1 : Int32) = 5 then (
  gb (gfR 11 3 za0 zh) fun zt19 =>
  gb (gfR 9 4 zt19 zh) fun zt20 =>
  gb (gfI 8 5 zt20 zh) fun zt21 =>
  some (zt21, zh))
  else (
  if (za1 : Int32) = 6 then (
  gb (gfR 11 3 za0 zh) fun zt23 =>
  gb (gfR 9 5 zt23 zh) fun zt24 =>
  gg (gIs 6 zt24 zh) <|
  gc (f_X6_pages N zt24 zh) fun zt26 zh25 =>
  some (zt26, zh25))
  else (
  if (za1 : Int32) = 7 then (
  gb (gfR 11 3 za0 zh) fun zt28 =>
  gb (gfR 9 6 zt28 zh) fun zt29 =>
  gb (gfI 4 3 zt29 zh) fun zt30 =>
  some (zt30, zh))
  else (
  if (za1 : Int32) = 8 then (
  gb (gfR 11 3 za0 zh) fun zt32 =>
  gb (gfI 9 7 zt32 zh) fun zt33 =>
  gc (f_J6_bitCount_0f7a4 N zt33 zh) fun zt35 zh34 =>
  some (zt35, zh34))
  else (
  if (za1 : Int32) = 9 then (
  gb (gfR 11 3 za0 zh) fun zt37 =>
  gb (gfI 9 10 zt37 zh) fun zt38 =>
  some (zt38, zh))
  else (
  if (za1 : Int32) = 10 then (
  gb (gfR 11 0 za0 zh) fun zt40 =>
  gg (gIs 10 zt40 zh) <|
  gc (f_X10_length N zt40 zh) fun zt42 zh41 =>
  some (zt42, zh41))
  else (
  some ((-1), zh))))))))))))
def f_X12_thrown (N : Nat) (za0 : Nat) (zh : PH) : Option (Int32 × PH) :=
  gb (gfI 12 0 za0 zh) fun zt1 =>
  some (zt1, zh)
def f_X12_lay_69 (N : Nat) (zk3 : (Nat × Int64 × Int32 × PH) → Option PH) (zv0 : Nat) (zv1 : Int64) (zv3 : Int32) (zh : PH) : Option PH :=
  gl (zv3 + (-8)) fun (zx1 : Int32) =>
  zk3 (zv0, zv1, zx1, zh)
def f_X12_lay_38 (N : Nat) (zk3 : (Nat × Int64 × Int32 × PH) → Option PH) (zv0 : Nat) (zv1 : Int64) (zv3 : Int32) (zv4 : Int32) (zh : PH) : Option PH :=
  gb (gfI 12 2 zv0 zh) fun zt1 =>
  if (1000 : Int32) ≤ zt1 then (
  f_X12_lay_69 N zk3 zv0 zv1 zv3 zh)
  else (
  gb (gfR 12 1 zv0 zh) fun zt3 =>
  gb (gfI 12 2 zv0 zh) fun zt4 =>
  gb (asI 0 zt3 zt4 zv4 zh) fun zh5 =>
  gb (gfI 12 2 zv0 zh5) fun zt6 =>
  gb (pfV 12 2 zv0 (.int (zt6 + 1)) zh5) fun zh7 =>
  f_X12_lay_69 N zk3 zv0 zv1 zv3 zh7)
def f_X12_lay_3 (N : Nat) (zk3 : (Nat × Int64 × Int32 × PH) → Option PH) (zv0 : Nat) (zv1 : Int64) (zv3 : Int32) (zh : PH) : Option PH :=
  if (zv3 : Int32) < 0 then (
  some zh)
  else (
  gl (((Int64.toInt32 (zv1 >>> (Int32.toInt64 zv3 &&& 63))) &&& 255)) fun (zx2 : Int32) =>
  if (zx2 : Int32) = 10 then (
  f_X12_lay_38 N zk3 zv0 zv1 zv3 zx2 zh)
  else (
  if (zx2 : Int32) < 32 then (
  f_X12_lay_69 N zk3 zv0 zv1 zv3 zh)
  else (
  if (126 : Int32) < zx2 then (
  f_X12_lay_69 N zk3 zv0 zv1 zv3 zh)
  else (
  f_X12_lay_38 N zk3 zv0 zv1 zv3 zx2 zh))))
def f_X12_lay (N : Nat) (za0 : Nat) (za1 : Int64) (zh : PH) : Option PH :=
  gi (fun zk zs => f_X12_lay_3 N zk zs.1 zs.2.1 zs.2.2.1 zs.2.2.2) N (za0, za1, 56, zh)
def f_X12_feed (N : Nat) (za0 : Nat) (za1 : Int64) (za3 : Int64) (za5 : Int64) (zh : PH) : Option (Int32 × PH) :=
  gb (pfV 12 0 za0 (.int 0) zh) fun zh1 =>
  gg (gIs 12 za0 zh1) <|
  gb (f_X12_lay N za0 za1 zh1) fun zh2 =>
  gg (gIs 12 za0 zh2) <|
  gb (f_X12_lay N za0 za3 zh2) fun zh3 =>
  gg (gIs 12 za0 zh3) <|
  gb (f_X12_lay N za0 za5 zh3) fun zh4 =>
  gb (gfI 12 2 za0 zh4) fun zt5 =>
  some (zt5, zh4)
def f_X12_init (N : Nat) (za0 : Nat) (zh : PH) : Option PH :=
  gc (nwA 0 1000 zh) fun zr2 zh1 =>
  gb (pfV 12 1 za0 (.ref zr2) zh1) fun zh3 =>
  gc (nwA 0 1002 zh3) fun zr5 zh4 =>
  gb (pfV 12 4 za0 (.ref zr5) zh4) fun zh6 =>
  gc (nwA 0 1002 zh6) fun zr8 zh7 =>
  gb (pfV 12 5 za0 (.ref zr8) zh7) fun zh9 =>
  gc (nwA 1 1002 zh9) fun zr11 zh10 =>
  gb (pfV 12 6 za0 (.ref zr11) zh10) fun zh12 =>
  gc (nwA 1 14 zh12) fun zr14 zh13 =>
  gb (asL 1 zr14 0 932857 zh13) fun zh15 =>
  gb (asL 1 zr14 1 14190408 zh15) fun zh16 =>
  gb (asL 1 zr14 2 38424252 zh16) fun zh17 =>
  gb (asL 1 zr14 3 103423 zh17) fun zh18 =>
  gb (asL 1 zr14 4 12777 zh18) fun zh19 =>
  gb (asL 1 zr14 5 940952 zh19) fun zh20 =>
  gb (asL 1 zr14 6 19741 zh20) fun zh21 =>
  gb (asL 1 zr14 7 1891 zh21) fun zh22 =>
  gb (asL 1 zr14 8 573 zh22) fun zh23 =>
  gb (asL 1 zr14 9 412740 zh23) fun zh24 =>
  gb (asL 1 zr14 10 9636 zh24) fun zh25 =>
  gb (asL 1 zr14 11 439334689 zh25) fun zh26 =>
  gb (asL 1 zr14 12 36643473 zh26) fun zh27 =>
  gb (asL 1 zr14 13 25154195 zh27) fun zh28 =>
  gb (pfV 12 9 za0 (.ref zr14) zh28) fun zh29 =>
  gc (nwA 0 120 zh29) fun zr31 zh30 =>
  gb (pfV 12 10 za0 (.ref zr31) zh30) fun zh32 =>
  gc (nwA 0 2200 zh32) fun zr34 zh33 =>
  gb (pfV 12 11 za0 (.ref zr34) zh33) fun zh35 =>
  gc (nwA 0 2200 zh35) fun zr37 zh36 =>
  gb (pfV 12 12 za0 (.ref zr37) zh36) fun zh38 =>
  gc (nwA 1 10 zh38) fun zr40 zh39 =>
  gb (pfV 12 14 za0 (.ref zr40) zh39) fun zh41 =>
  gc (nwA 0 8 zh41) fun zr43 zh42 =>
  gb (pfV 12 15 za0 (.ref zr43) zh42) fun zh44 =>
  gc (nwA 0 1100 zh44) fun zr46 zh45 =>
  gb (pfV 12 16 za0 (.ref zr46) zh45) fun zh47 =>
  gc (nwA 0 2600 zh47) fun zr49 zh48 =>
  gb (pfV 12 17 za0 (.ref zr49) zh48) fun zh50 =>
  gc (nwA 0 10 zh50) fun zr52 zh51 =>
  gb (pfV 12 19 za0 (.ref zr52) zh51) fun zh53 =>
  gc (nwA 0 10 zh53) fun zr55 zh54 =>
  gb (pfV 12 20 za0 (.ref zr55) zh54) fun zh56 =>
  gc (nwA 0 10 zh56) fun zr58 zh57 =>
  gb (pfV 12 21 za0 (.ref zr58) zh57) fun zh59 =>
  gc (nwA 3 10 zh59) fun zr61 zh60 =>
  gb (pfV 12 22 za0 (.ref zr61) zh60) fun zh62 =>
  gc (nwA 0 5500 zh62) fun zr64 zh63 =>
  gb (pfV 12 29 za0 (.ref zr64) zh63) fun zh65 =>
  gc (nwA 1 1024 zh65) fun zr67 zh66 =>
  gb (pfV 12 31 za0 (.ref zr67) zh66) fun zh68 =>
  gc (nwA 0 7 zh68) fun zr70 zh69 =>
  gb (pfV 12 32 za0 (.ref zr70) zh69) fun zh71 =>
  gc (nwA 0 7 zh71) fun zr73 zh72 =>
  gb (pfV 12 33 za0 (.ref zr73) zh72) fun zh74 =>
  gc (nwA 0 7 zh74) fun zr76 zh75 =>
  gb (pfV 12 34 za0 (.ref zr76) zh75) fun zh77 =>
  gc (nwA 0 7 zh77) fun zr79 zh78 =>
  gb (pfV 12 35 za0 (.ref zr79) zh78) fun zh80 =>
  gc (nwA 0 7 zh80) fun zr82 zh81 =>
  gb (pfV 12 41 za0 (.ref zr82) zh81) fun zh83 =>
  gc (nwA 3 4 zh83) fun zr85 zh84 =>
  gb (pfV 12 47 za0 (.ref zr85) zh84) fun zh86 =>
  gb (gfR 12 17 za0 zh86) fun zt87 =>
  gb (asI 0 zt87 0 (-1) zh86) fun zh88 =>
  gb (pfV 12 18 za0 (.int 1) zh88) fun zh89 =>
  some zh89
def f_X12_isLetter_17 (N : Nat) (zs0 : Int32) (zh : PH) : Option (Int32 × PH) :=
  gg (gzb zs0) (some (zs0, zh))
def f_X12_isLetter_16 (N : Nat) (zh : PH) : Option (Int32 × PH) :=
  f_X12_isLetter_17 N 0 zh
def f_X12_isLetter (N : Nat) (za0 : Int32) (zh : PH) : Option (Int32 × PH) :=
  if (za0 : Int32) < 97 then (
  f_X12_isLetter_16 N  zh)
  else (
  if (122 : Int32) < za0 then (
  f_X12_isLetter_16 N  zh)
  else (
  f_X12_isLetter_17 N 1 zh))
def f_X12_isDigit_17 (N : Nat) (zs0 : Int32) (zh : PH) : Option (Int32 × PH) :=
  gg (gzb zs0) (some (zs0, zh))
def f_X12_isDigit_16 (N : Nat) (zh : PH) : Option (Int32 × PH) :=
  f_X12_isDigit_17 N 0 zh
def f_X12_isDigit (N : Nat) (za0 : Int32) (zh : PH) : Option (Int32 × PH) :=
  if (za0 : Int32) < 48 then (
  f_X12_isDigit_16 N  zh)
  else (
  if (57 : Int32) < za0 then (
  f_X12_isDigit_16 N  zh)
  else (
  f_X12_isDigit_17 N 1 zh))
def f_X12_rank_18 (N : Nat) (zs0 : Int32) (zh : PH) : Option (Int32 × PH) :=
  some (zs0, zh)
def f_X12_rank (N : Nat) (za0 : Int32) (zh : PH) : Option (Int32 × PH) :=
  gc (f_X12_isLetter N za0 zh) fun zt2 zh1 =>
  if (zt2 : Int32) = 0 then (
  f_X12_rank_18 N (za0 - 21) zh1)
  else (
  f_X12_rank_18 N (za0 - 96) zh1)
def f_X12_isSignOf_53 (N : Nat) (zs0 : Int32) (zh : PH) : Option (Int32 × PH) :=
  gg (gzb zs0) (some (zs0, zh))
def f_X12_isSignOf_48 (N : Nat) (zh : PH) : Option (Int32 × PH) :=
  f_X12_isSignOf_53 N 1 zh
def f_X12_isSignOf (N : Nat) (za0 : Int32) (zh : PH) : Option (Int32 × PH) :=
  if (za0 : Int32) = 40 then (
  f_X12_isSignOf_48 N  zh)
  else (
  if (za0 : Int32) = 41 then (
  f_X12_isSignOf_48 N  zh)
  else (
  if (za0 : Int32) = 59 then (
  f_X12_isSignOf_48 N  zh)
  else (
  if (za0 : Int32) = 61 then (
  f_X12_isSignOf_48 N  zh)
  else (
  if (za0 : Int32) = 60 then (
  f_X12_isSignOf_48 N  zh)
  else (
  if (za0 : Int32) = 43 then (
  f_X12_isSignOf_48 N  zh)
  else (
  if (za0 : Int32) = 45 then (
  f_X12_isSignOf_48 N  zh)
  else (
  if (za0 : Int32) = 42 then (
  f_X12_isSignOf_48 N  zh)
  else (
  f_X12_isSignOf_53 N 0 zh))))))))
def f_X12_cutAll_265 (N : Nat) (zk17 : (Nat × Int32 × Int32 × PH) → Option PH) (zv0 : Nat) (zv1 : Int32) (zv2 : Int32) (zv5 : Int64) (zh : PH) : Option PH :=
  gb (gfR 12 6 zv0 zh) fun zt1 =>
  gb (asL 1 zt1 zv1 zv5 zh) fun zh2 =>
  gl (zv1 + 1) fun (zx3 : Int32) =>
  zk17 (zv0, zx3, zv2, zh2)
def f_X12_cutAll_261 (N : Nat) (zk17 : (Nat × Int32 × Int32 × PH) → Option PH) (zv0 : Nat) (zv1 : Int32) (zv2 : Int32) (zv5 : Int64) (zs0 : Int32) (zs1 : Int32) (zs2 : Nat) (zh : PH) : Option PH :=
  gb (asI 0 zs2 zs1 zs0 zh) fun zh1 =>
  gl (zv2 + 1) fun (zx2 : Int32) =>
  f_X12_cutAll_265 N zk17 zv0 zv1 zx2 zv5 zh1
def f_X12_cutAll_236 (N : Nat) (zk17 : (Nat × Int32 × Int32 × PH) → Option PH) (zv0 : Nat) (zv1 : Int32) (zv2 : Int32) (zv5 : Int64) (zs0 : Int32) (zs1 : Int32) (zs2 : Nat) (zh : PH) : Option PH :=
  gb (asI 0 zs2 zs1 zs0 zh) fun zh1 =>
  f_X12_cutAll_265 N zk17 zv0 zv1 zv2 zv5 zh1
def f_X12_cutAll_218 (N : Nat) (zk17 : (Nat × Int32 × Int32 × PH) → Option PH) (zv0 : Nat) (zv1 : Int32) (zv2 : Int32) (zv4 : Int32) (zv5 : Int64) (zh : PH) : Option PH :=
  gb (gfR 12 4 zv0 zh) fun zt1 =>
  if ((zv2 - zv4) : Int32) ≤ 4 then (
  f_X12_cutAll_236 N zk17 zv0 zv1 zv2 zv5 2 zv1 zt1 zh)
  else (
  f_X12_cutAll_236 N zk17 zv0 zv1 zv2 zv5 4 zv1 zt1 zh)
def f_X12_cutAll_210 (N : Nat) (zk17 : (Nat × Int32 × Int32 × PH) → Option PH) (zk159 : (Nat × Int32 × Int32 × Int32 × Int64 × PH) → Option PH) (zv0 : Nat) (zv1 : Int32) (zv2 : Int32) (zv4 : Int32) (zs0 : Int64) (zh : PH) : Option PH :=
  gl (zv2 + 1) fun (zx1 : Int32) =>
  zk159 (zv0, zv1, zx1, zv4, zs0, zh)
def f_X12_cutAll_159 (N : Nat) (zk17 : (Nat × Int32 × Int32 × PH) → Option PH) (zk159 : (Nat × Int32 × Int32 × Int32 × Int64 × PH) → Option PH) (zv0 : Nat) (zv1 : Int32) (zv2 : Int32) (zv4 : Int32) (zv5 : Int64) (zh : PH) : Option PH :=
  gb (gfI 12 3 zv0 zh) fun zt1 =>
  if (zt1 : Int32) ≤ zv2 then (
  f_X12_cutAll_218 N zk17 zv0 zv1 zv2 zv4 zv5 zh)
  else (
  gb (gfR 12 1 zv0 zh) fun zt3 =>
  gb (arI 0 zt3 zv2 zh) fun zt4 =>
  gc (f_X12_isDigit N zt4 zh) fun zt6 zh5 =>
  if (zt6 : Int32) = 0 then (
  f_X12_cutAll_218 N zk17 zv0 zv1 zv2 zv4 zv5 zh5)
  else (
  if (4 : Int32) ≤ (zv2 - zv4) then (
  f_X12_cutAll_210 N zk17 zk159 zv0 zv1 zv2 zv4 zv5 zh5)
  else (
  gb (gfR 12 1 zv0 zh5) fun zt9 =>
  gb (arI 0 zt9 zv2 zh5) fun zt10 =>
  f_X12_cutAll_210 N zk17 zk159 zv0 zv1 zv2 zv4 (((10 * zv5) + (Int32.toInt64 zt10)) - 48) zh5)))
def f_X12_cutAll_148 (N : Nat) (zk17 : (Nat × Int32 × Int32 × PH) → Option PH) (zv0 : Nat) (zv1 : Int32) (zv2 : Int32) (zv5 : Int64) (zs0 : Int32) (zs1 : Int32) (zs2 : Nat) (zh : PH) : Option PH :=
  gb (asI 0 zs2 zs1 zs0 zh) fun zh1 =>
  f_X12_cutAll_265 N zk17 zv0 zv1 zv2 zv5 zh1
def f_X12_cutAll_129 (N : Nat) (zk17 : (Nat × Int32 × Int32 × PH) → Option PH) (zv0 : Nat) (zv1 : Int32) (zv2 : Int32) (zv4 : Int32) (zv5 : Int64) (zh : PH) : Option PH :=
  gb (gfR 12 4 zv0 zh) fun zt1 =>
  if ((zv2 - zv4) : Int32) ≤ 8 then (
  f_X12_cutAll_148 N zk17 zv0 zv1 zv2 zv5 1 zv1 zt1 zh)
  else (
  f_X12_cutAll_148 N zk17 zv0 zv1 zv2 zv5 4 zv1 zt1 zh)
def f_X12_cutAll_121 (N : Nat) (zk17 : (Nat × Int32 × Int32 × PH) → Option PH) (zk70 : (Nat × Int32 × Int32 × Int32 × Int64 × PH) → Option PH) (zv0 : Nat) (zv1 : Int32) (zv2 : Int32) (zv4 : Int32) (zs0 : Int64) (zh : PH) : Option PH :=
  gl (zv2 + 1) fun (zx1 : Int32) =>
  zk70 (zv0, zv1, zx1, zv4, zs0, zh)
def f_X12_cutAll_70 (N : Nat) (zk17 : (Nat × Int32 × Int32 × PH) → Option PH) (zk70 : (Nat × Int32 × Int32 × Int32 × Int64 × PH) → Option PH) (zv0 : Nat) (zv1 : Int32) (zv2 : Int32) (zv4 : Int32) (zv5 : Int64) (zh : PH) : Option PH :=
  gb (gfI 12 3 zv0 zh) fun zt1 =>
  if (zt1 : Int32) ≤ zv2 then (
  f_X12_cutAll_129 N zk17 zv0 zv1 zv2 zv4 zv5 zh)
  else (
  gb (gfR 12 1 zv0 zh) fun zt3 =>
  gb (arI 0 zt3 zv2 zh) fun zt4 =>
  gc (f_X12_isLetter N zt4 zh) fun zt6 zh5 =>
  if (zt6 : Int32) = 0 then (
  f_X12_cutAll_129 N zk17 zv0 zv1 zv2 zv4 zv5 zh5)
  else (
  if (8 : Int32) ≤ (zv2 - zv4) then (
  f_X12_cutAll_121 N zk17 zk70 zv0 zv1 zv2 zv4 zv5 zh5)
  else (
  gb (gfR 12 1 zv0 zh5) fun zt9 =>
  gb (arI 0 zt9 zv2 zh5) fun zt10 =>
  gc (f_X12_rank N zt10 zh5) fun zt12 zh11 =>
  f_X12_cutAll_121 N zk17 zk70 zv0 zv1 zv2 zv4 ((37 * zv5) + (Int32.toInt64 zt12)) zh11)))
def f_X12_cutAll_44 (N : Nat) (zk17 : (Nat × Int32 × Int32 × PH) → Option PH) (zv0 : Nat) (zv1 : Int32) (zv2 : Int32) (zh : PH) : Option PH :=
  gl (zv2 + 1) fun (zx1 : Int32) =>
  zk17 (zv0, zv1, zx1, zh)
def f_X12_cutAll_17 (N : Nat) (zk17 : (Nat × Int32 × Int32 × PH) → Option PH) (zv0 : Nat) (zv1 : Int32) (zv2 : Int32) (zh : PH) : Option PH :=
  gb (gfI 12 3 zv0 zh) fun zt1 =>
  if (zt1 : Int32) ≤ zv2 then (
  gb (gfR 12 4 zv0 zh) fun zt3 =>
  gb (asI 0 zt3 zv1 0 zh) fun zh4 =>
  gb (gfR 12 5 zv0 zh4) fun zt5 =>
  gb (gfI 12 3 zv0 zh4) fun zt6 =>
  gb (asI 0 zt5 zv1 zt6 zh4) fun zh7 =>
  gb (pfV 12 7 zv0 (.int 0) zh7) fun zh8 =>
  gb (pfV 12 8 zv0 (.int 0) zh8) fun zh9 =>
  some zh9)
  else (
  gb (gfR 12 1 zv0 zh) fun zt10 =>
  gb (arI 0 zt10 zv2 zh) fun zt11 =>
  if (zt11 : Int32) = 10 then (
  f_X12_cutAll_44 N zk17 zv0 zv1 zv2 zh)
  else (
  if (zt11 : Int32) = 32 then (
  f_X12_cutAll_44 N zk17 zv0 zv1 zv2 zh)
  else (
  gb (gfR 12 5 zv0 zh) fun zt14 =>
  gb (asI 0 zt14 zv1 zv2 zh) fun zh15 =>
  gc (f_X12_isLetter N zt11 zh15) fun zt17 zh16 =>
  if (zt17 : Int32) = 0 then (
  gc (f_X12_isDigit N zt11 zh16) fun zt20 zh19 =>
  if (zt20 : Int32) = 0 then (
  gl ((Int32.toInt64 zt11)) fun (zx22 : Int64) =>
  gb (gfR 12 4 zv0 zh19) fun zt23 =>
  gc (f_X12_isSignOf N zt11 zh19) fun zt25 zh24 =>
  if (zt25 : Int32) = 0 then (
  f_X12_cutAll_261 N zk17 zv0 zv1 zv2 zx22 4 zv1 zt23 zh24)
  else (
  f_X12_cutAll_261 N zk17 zv0 zv1 zv2 zx22 3 zv1 zt23 zh24))
  else (
  gi (fun zk zs => f_X12_cutAll_159 N zk17 zk zs.1 zs.2.1 zs.2.2.1 zs.2.2.2.1 zs.2.2.2.2.1 zs.2.2.2.2.2) N (zv0, zv1, zv2, zv2, 0, zh19)))
  else (
  gi (fun zk zs => f_X12_cutAll_70 N zk17 zk zs.1 zs.2.1 zs.2.2.1 zs.2.2.2.1 zs.2.2.2.2.1 zs.2.2.2.2.2) N (zv0, zv1, zv2, zv2, 0, zh16)))))
def f_X12_cutAll (N : Nat) (za0 : Nat) (zh : PH) : Option PH :=
  gb (gfI 12 2 za0 zh) fun zt1 =>
  gb (pfV 12 3 za0 (.int zt1) zh) fun zh2 =>
  gb (pfV 12 2 za0 (.int 0) zh2) fun zh3 =>
  gi (fun zk zs => f_X12_cutAll_17 N zk zs.1 zs.2.1 zs.2.2.1 zs.2.2.2) N (za0, 0, 0, zh3)
def f_X12_wrong_25 (N : Nat) (zh : PH) : Option PH :=
  some zh
def f_X12_wrong (N : Nat) (za0 : Nat) (za1 : Int32) (zh : PH) : Option PH :=
  gb (gfI 12 8 za0 zh) fun zt1 =>
  if (zt1 : Int32) = 0 then (
  gb (gfR 12 5 za0 zh) fun zt3 =>
  gb (gfI 12 7 za0 zh) fun zt4 =>
  gb (arI 0 zt3 zt4 zh) fun zt5 =>
  gb (pfV 12 8 za0 (.int (za1 + (16 * zt5))) zh) fun zh6 =>
  f_X12_wrong_25 N  zh6)
  else (
  f_X12_wrong_25 N  zh)
def f_X12_isSign_40 (N : Nat) (zs0 : Int32) (zh : PH) : Option (Int32 × PH) :=
  gg (gzb zs0) (some (zs0, zh))
def f_X12_isSign_39 (N : Nat) (zh : PH) : Option (Int32 × PH) :=
  f_X12_isSign_40 N 0 zh
def f_X12_isSign (N : Nat) (za0 : Nat) (za1 : Int32) (zh : PH) : Option (Int32 × PH) :=
  gb (gfI 12 8 za0 zh) fun zt1 =>
  if (zt1 : Int32) = 0 then (
  gb (gfR 12 4 za0 zh) fun zt3 =>
  gb (gfI 12 7 za0 zh) fun zt4 =>
  gb (arI 0 zt3 zt4 zh) fun zt5 =>
  if (zt5 : Int32) = 3 then (
  gb (gfR 12 6 za0 zh) fun zt7 =>
  gb (gfI 12 7 za0 zh) fun zt8 =>
  gb (arL 1 zt7 zt8 zh) fun zt9 =>
  if ((lg_cmp zt9 (Int32.toInt64 za1)) : Int32) = 0 then (
  f_X12_isSign_40 N 1 zh)
  else (
  f_X12_isSign_39 N  zh))
  else (
  f_X12_isSign_39 N  zh))
  else (
  f_X12_isSign_39 N  zh)
def f_X12_isWord_44 (N : Nat) (zs0 : Int32) (zh : PH) : Option (Int32 × PH) :=
  gg (gzb zs0) (some (zs0, zh))
def f_X12_isWord_43 (N : Nat) (zh : PH) : Option (Int32 × PH) :=
  f_X12_isWord_44 N 0 zh
def f_X12_isWord (N : Nat) (za0 : Nat) (za1 : Int32) (zh : PH) : Option (Int32 × PH) :=
  gb (gfI 12 8 za0 zh) fun zt1 =>
  if (zt1 : Int32) = 0 then (
  gb (gfR 12 4 za0 zh) fun zt3 =>
  gb (gfI 12 7 za0 zh) fun zt4 =>
  gb (arI 0 zt3 zt4 zh) fun zt5 =>
  if (zt5 : Int32) = 1 then (
  gb (gfR 12 6 za0 zh) fun zt7 =>
  gb (gfI 12 7 za0 zh) fun zt8 =>
  gb (arL 1 zt7 zt8 zh) fun zt9 =>
  gb (gfR 12 9 za0 zh) fun zt10 =>
  gb (arL 1 zt10 za1 zh) fun zt11 =>
  if ((lg_cmp zt9 zt11) : Int32) = 0 then (
  f_X12_isWord_44 N 1 zh)
  else (
  f_X12_isWord_43 N  zh))
  else (
  f_X12_isWord_43 N  zh))
  else (
  f_X12_isWord_43 N  zh)
def f_X12_takeSign_26 (N : Nat) (zh : PH) : Option PH :=
  some zh
def f_X12_takeSign (N : Nat) (za0 : Nat) (za1 : Int32) (zh : PH) : Option PH :=
  gg (gIs 12 za0 zh) <|
  gc (f_X12_isSign N za0 za1 zh) fun zt2 zh1 =>
  if (zt2 : Int32) = 0 then (
  gg (gIs 12 za0 zh1) <|
  gb (f_X12_wrong N za0 1 zh1) fun zh4 =>
  f_X12_takeSign_26 N  zh4)
  else (
  gb (gfI 12 7 za0 zh1) fun zt5 =>
  gb (pfV 12 7 za0 (.int (zt5 + 1)) zh1) fun zh6 =>
  f_X12_takeSign_26 N  zh6)
def f_X12_hasSign_20 (N : Nat) (zv2 : Int32) (zs0 : Int32) (zs1 : Int32) (zs2 : Nat) (zh : PH) : Option (Int32 × PH) :=
  gb (pfV 12 7 zs2 (.int (zs1 + zs0)) zh) fun zh1 =>
  gg (gzb zv2) (some (zv2, zh1))
def f_X12_hasSign (N : Nat) (za0 : Nat) (za1 : Int32) (zh : PH) : Option (Int32 × PH) :=
  gg (gIs 12 za0 zh) <|
  gc (f_X12_isSign N za0 za1 zh) fun zt2 zh1 =>
  gb (gfI 12 7 za0 zh1) fun zt3 =>
  if (zt2 : Int32) = 0 then (
  f_X12_hasSign_20 N zt2 0 zt3 za0 zh1)
  else (
  f_X12_hasSign_20 N zt2 1 zt3 za0 zh1)
def f_X12_hasWord_20 (N : Nat) (zv2 : Int32) (zs0 : Int32) (zs1 : Int32) (zs2 : Nat) (zh : PH) : Option (Int32 × PH) :=
  gb (pfV 12 7 zs2 (.int (zs1 + zs0)) zh) fun zh1 =>
  gg (gzb zv2) (some (zv2, zh1))
def f_X12_hasWord (N : Nat) (za0 : Nat) (za1 : Int32) (zh : PH) : Option (Int32 × PH) :=
  gg (gIs 12 za0 zh) <|
  gc (f_X12_isWord N za0 za1 zh) fun zt2 zh1 =>
  gb (gfI 12 7 za0 zh1) fun zt3 =>
  if (zt2 : Int32) = 0 then (
  f_X12_hasWord_20 N zt2 0 zt3 za0 zh1)
  else (
  f_X12_hasWord_20 N zt2 1 zt3 za0 zh1)
def f_X12_takeWord_13 (N : Nat) (zh : PH) : Option PH :=
  some zh
def f_X12_takeWord (N : Nat) (za0 : Nat) (za1 : Int32) (zh : PH) : Option PH :=
  gg (gIs 12 za0 zh) <|
  gc (f_X12_hasWord N za0 za1 zh) fun zt2 zh1 =>
  if (zt2 : Int32) = 0 then (
  gg (gIs 12 za0 zh1) <|
  gb (f_X12_wrong N za0 1 zh1) fun zh4 =>
  f_X12_takeWord_13 N  zh4)
  else (
  f_X12_takeWord_13 N  zh1)
def f_X12_within_15 (N : Nat) (zs0 : Int32) (zh : PH) : Option (Int32 × PH) :=
  gg (gzb zs0) (some (zs0, zh))
def f_X12_within_14 (N : Nat) (zh : PH) : Option (Int32 × PH) :=
  f_X12_within_15 N 0 zh
def f_X12_within (N : Nat) (za0 : Int32) (za1 : Int32) (za2 : Int32) (zh : PH) : Option (Int32 × PH) :=
  if (za0 : Int32) < za1 then (
  f_X12_within_14 N  zh)
  else (
  if (za2 : Int32) < za0 then (
  f_X12_within_14 N  zh)
  else (
  f_X12_within_15 N 1 zh))
def f_X12_takeNumber_70 (N : Nat) (zv0 : Nat) (zh : PH) : Option (Int32 × PH) :=
  gb (gfI 12 8 zv0 zh) fun zt1 =>
  if (zt1 : Int32) ≤ 0 then (
  gb (gfI 12 7 zv0 zh) fun zt3 =>
  gb (pfV 12 7 zv0 (.int (zt3 + 1)) zh) fun zh4 =>
  gb (gfR 12 6 zv0 zh4) fun zt5 =>
  gb (gfI 12 7 zv0 zh4) fun zt6 =>
  gb (arL 1 zt5 (zt6 - 1) zh4) fun zt7 =>
  some ((Int64.toInt32 zt7), zh4))
  else (
  some (0, zh))
def f_X12_takeNumber_65 (N : Nat) (zv0 : Nat) (zh : PH) : Option (Int32 × PH) :=
  gg (gIs 12 zv0 zh) <|
  gb (f_X12_wrong N zv0 4 zh) fun zh1 =>
  f_X12_takeNumber_70 N zv0 zh1
def f_X12_takeNumber_28 (N : Nat) (zv0 : Nat) (zv1 : Int32) (zv2 : Int32) (zh : PH) : Option (Int32 × PH) :=
  gb (gfI 12 8 zv0 zh) fun zt1 =>
  if (zt1 : Int32) = 0 then (
  gb (gfR 12 6 zv0 zh) fun zt3 =>
  gb (gfI 12 7 zv0 zh) fun zt4 =>
  gb (arL 1 zt3 zt4 zh) fun zt5 =>
  if ((lg_cmp zt5 (Int32.toInt64 zv1)) : Int32) < 0 then (
  f_X12_takeNumber_65 N zv0 zh)
  else (
  gb (gfR 12 6 zv0 zh) fun zt7 =>
  gb (gfI 12 7 zv0 zh) fun zt8 =>
  gb (arL 1 zt7 zt8 zh) fun zt9 =>
  if ((lg_cmp zt9 (Int32.toInt64 zv2)) : Int32) ≤ 0 then (
  f_X12_takeNumber_70 N zv0 zh)
  else (
  f_X12_takeNumber_65 N zv0 zh)))
  else (
  f_X12_takeNumber_70 N zv0 zh)
def f_X12_takeNumber (N : Nat) (za0 : Nat) (za1 : Int32) (za2 : Int32) (zh : PH) : Option (Int32 × PH) :=
  gb (gfI 12 8 za0 zh) fun zt1 =>
  if (zt1 : Int32) = 0 then (
  gb (gfR 12 4 za0 zh) fun zt3 =>
  gb (gfI 12 7 za0 zh) fun zt4 =>
  gb (arI 0 zt3 zt4 zh) fun zt5 =>
  if (zt5 : Int32) = 2 then (
  f_X12_takeNumber_28 N za0 za1 za2 zh)
  else (
  gg (gIs 12 za0 zh) <|
  gb (f_X12_wrong N za0 1 zh) fun zh7 =>
  f_X12_takeNumber_70 N za0 zh7))
  else (
  f_X12_takeNumber_28 N za0 za1 za2 zh)
def f_X12_isName_62 (N : Nat) (zk28 : (Nat × Int32 × Int32 × PH) → Option (Int32 × PH)) (zv0 : Nat) (zv2 : Int32) (zs0 : Int32) (zh : PH) : Option (Int32 × PH) :=
  gl (zv2 + 1) fun (zx1 : Int32) =>
  zk28 (zv0, zs0, zx1, zh)
def f_X12_isName_61 (N : Nat) (zk28 : (Nat × Int32 × Int32 × PH) → Option (Int32 × PH)) (zv0 : Nat) (zv2 : Int32) (zh : PH) : Option (Int32 × PH) :=
  f_X12_isName_62 N zk28 zv0 zv2 0 zh
def f_X12_isName_28 (N : Nat) (zk28 : (Nat × Int32 × Int32 × PH) → Option (Int32 × PH)) (zv0 : Nat) (zv1 : Int32) (zv2 : Int32) (zh : PH) : Option (Int32 × PH) :=
  if (9 : Int32) ≤ zv2 then (
  gg (gzb zv1) (some (zv1, zh)))
  else (
  if (zv1 : Int32) = 0 then (
  f_X12_isName_61 N zk28 zv0 zv2 zh)
  else (
  gb (gfR 12 6 zv0 zh) fun zt3 =>
  gb (gfI 12 7 zv0 zh) fun zt4 =>
  gb (arL 1 zt3 zt4 zh) fun zt5 =>
  gb (gfR 12 9 zv0 zh) fun zt6 =>
  gb (arL 1 zt6 zv2 zh) fun zt7 =>
  if ((lg_cmp zt5 zt7) : Int32) = 0 then (
  f_X12_isName_61 N zk28 zv0 zv2 zh)
  else (
  f_X12_isName_62 N zk28 zv0 zv2 1 zh)))
def f_X12_isName_25 (N : Nat) (zv0 : Nat) (zs0 : Int32) (zh : PH) : Option (Int32 × PH) :=
  gi (fun zk zs => f_X12_isName_28 N zk zs.1 zs.2.1 zs.2.2.1 zs.2.2.2) N (zv0, zs0, 0, zh)
def f_X12_isName_24 (N : Nat) (zv0 : Nat) (zh : PH) : Option (Int32 × PH) :=
  f_X12_isName_25 N zv0 0 zh
def f_X12_isName (N : Nat) (za0 : Nat) (zh : PH) : Option (Int32 × PH) :=
  gb (gfI 12 8 za0 zh) fun zt1 =>
  if (zt1 : Int32) = 0 then (
  gb (gfR 12 4 za0 zh) fun zt3 =>
  gb (gfI 12 7 za0 zh) fun zt4 =>
  gb (arI 0 zt3 zt4 zh) fun zt5 =>
  if (zt5 : Int32) = 1 then (
  f_X12_isName_25 N za0 1 zh)
  else (
  f_X12_isName_24 N za0 zh))
  else (
  f_X12_isName_24 N za0 zh)
def f_X12_readGuest_174 (N : Nat) (zk144 : (Nat × Int32 × PH) → Option PH) (zv0 : Nat) (zv2 : Int32) (zs0 : Int32) (zs1 : Int32) (zh : PH) : Option PH :=
  gl ((zs1 + zs0)) fun (zx1 : Int32) =>
  gb (gfR 12 10 zv0 zh) fun zt2 =>
  gb (arI 0 zt2 zx1 zh) fun zt3 =>
  if (zt3 : Int32) = 1 then (
  gg (gIs 12 zv0 zh) <|
  gb (f_X12_wrong N zv0 3 zh) fun zh9 =>
  some zh9)
  else (
  gb (gfR 12 10 zv0 zh) fun zt5 =>
  gb (asI 0 zt5 zx1 1 zh) fun zh6 =>
  gb (gfI 12 7 zv0 zh6) fun zt7 =>
  gb (pfV 12 7 zv0 (.int (zt7 + 1)) zh6) fun zh8 =>
  zk144 (zv0, zv2, zh8))
def f_X12_readGuest_160 (N : Nat) (zk144 : (Nat × Int32 × PH) → Option PH) (zv0 : Nat) (zv2 : Int32) (zh : PH) : Option PH :=
  gg (gIs 12 zv0 zh) <|
  gc (f_X12_isWord N zv0 3 zh) fun zt2 zh1 =>
  if (zt2 : Int32) = 0 then (
  f_X12_readGuest_174 N zk144 zv0 zv2 2 zv2 zh1)
  else (
  f_X12_readGuest_174 N zk144 zv0 zv2 1 zv2 zh1)
def f_X12_readGuest_144 (N : Nat) (zk144 : (Nat × Int32 × PH) → Option PH) (zv0 : Nat) (zv2 : Int32) (zh : PH) : Option PH :=
  gg (gIs 12 zv0 zh) <|
  gc (f_X12_isWord N zv0 3 zh) fun zt2 zh1 =>
  if (zt2 : Int32) = 0 then (
  gg (gIs 12 zv0 zh1) <|
  gc (f_X12_isWord N zv0 4 zh1) fun zt5 zh4 =>
  if (zt5 : Int32) = 0 then (
  gb (gfR 12 10 zv0 zh4) fun zt7 =>
  gb (arI 0 zt7 61 zh4) fun zt8 =>
  gb (asI 0 zt7 61 (zt8 + 1) zh4) fun zh9 =>
  some zh9)
  else (
  f_X12_readGuest_160 N zk144 zv0 zv2 zh4))
  else (
  f_X12_readGuest_160 N zk144 zv0 zv2 zh1)
def f_X12_readGuest_86 (N : Nat) (zv0 : Nat) (zv1 : Int32) (zh : PH) : Option PH :=
  gb (gfI 12 8 zv0 zh) fun zt1 =>
  if (zt1 : Int32) ≤ 0 then (
  gb (gfR 12 14 zv0 zh) fun zt3 =>
  gb (gfR 12 6 zv0 zh) fun zt4 =>
  gb (gfI 12 7 zv0 zh) fun zt5 =>
  gb (arL 1 zt4 zt5 zh) fun zt6 =>
  gb (asL 1 zt3 zv1 zt6 zh) fun zh7 =>
  gb (gfI 12 7 zv0 zh7) fun zt8 =>
  gb (pfV 12 7 zv0 (.int (zt8 + 1)) zh7) fun zh9 =>
  gg (gIs 12 zv0 zh9) <|
  gb (f_X12_takeWord N zv0 2 zh9) fun zh10 =>
  gl ((83 + (3 * zv1))) fun (zx11 : Int32) =>
  gb (gfR 12 10 zv0 zh10) fun zt12 =>
  gg (gIs 12 zv0 zh10) <|
  gc (f_X12_takeNumber N zv0 0 99 zh10) fun zt14 zh13 =>
  gb (asI 0 zt12 zx11 zt14 zh13) fun zh15 =>
  gi (fun zk zs => f_X12_readGuest_144 N zk zs.1 zs.2.1 zs.2.2) N (zv0, zx11, zh15))
  else (
  some zh)
def f_X12_readGuest_80 (N : Nat) (zk44 : (Nat × Int32 × Int32 × PH) → Option PH) (zv0 : Nat) (zv1 : Int32) (zv2 : Int32) (zh : PH) : Option PH :=
  gl (zv2 + 1) fun (zx1 : Int32) =>
  zk44 (zv0, zv1, zx1, zh)
def f_X12_readGuest_44 (N : Nat) (zk44 : (Nat × Int32 × Int32 × PH) → Option PH) (zv0 : Nat) (zv1 : Int32) (zv2 : Int32) (zh : PH) : Option PH :=
  if (zv1 : Int32) ≤ zv2 then (
  f_X12_readGuest_86 N zv0 zv1 zh)
  else (
  gb (gfI 12 8 zv0 zh) fun zt2 =>
  if (zt2 : Int32) = 0 then (
  gb (gfR 12 14 zv0 zh) fun zt4 =>
  gb (arL 1 zt4 zv2 zh) fun zt5 =>
  gb (gfR 12 6 zv0 zh) fun zt6 =>
  gb (gfI 12 7 zv0 zh) fun zt7 =>
  gb (arL 1 zt6 zt7 zh) fun zt8 =>
  if ((lg_cmp zt5 zt8) : Int32) = 0 then (
  gg (gIs 12 zv0 zh) <|
  gb (f_X12_wrong N zv0 3 zh) fun zh10 =>
  f_X12_readGuest_80 N zk44 zv0 zv1 zv2 zh10)
  else (
  f_X12_readGuest_80 N zk44 zv0 zv1 zv2 zh))
  else (
  f_X12_readGuest_86 N zv0 zv1 zh))
def f_X12_readGuest_42 (N : Nat) (zv0 : Nat) (zv1 : Int32) (zh : PH) : Option PH :=
  gi (fun zk zs => f_X12_readGuest_44 N zk zs.1 zs.2.1 zs.2.2.1 zs.2.2.2) N (zv0, zv1, 0, zh)
def f_X12_readGuest (N : Nat) (za0 : Nat) (zh : PH) : Option PH :=
  gb (gfR 12 10 za0 zh) fun zt1 =>
  gb (arI 0 zt1 61 zh) fun zt2 =>
  if (zt2 : Int32) = 10 then (
  gg (gIs 12 za0 zh) <|
  gb (f_X12_wrong N za0 5 zh) fun zh10 =>
  some zh10)
  else (
  gb (gfI 12 7 za0 zh) fun zt4 =>
  gb (pfV 12 7 za0 (.int (zt4 + 1)) zh) fun zh5 =>
  gg (gIs 12 za0 zh5) <|
  gc (f_X12_isName N za0 zh5) fun zt7 zh6 =>
  if (zt7 : Int32) = 0 then (
  gg (gIs 12 za0 zh6) <|
  gb (f_X12_wrong N za0 1 zh6) fun zh9 =>
  f_X12_readGuest_42 N za0 zt2 zh9)
  else (
  f_X12_readGuest_42 N za0 zt2 zh6))
def f_X12_readRoom (N : Nat) (za0 : Nat) (zh : PH) : Option PH :=
  gb (gfR 12 10 za0 zh) fun zt1 =>
  gb (arI 0 zt1 60 zh) fun zt2 =>
  if (zt2 : Int32) = 10 then (
  gg (gIs 12 za0 zh) <|
  gb (f_X12_wrong N za0 5 zh) fun zh17 =>
  some zh17)
  else (
  gb (gfI 12 7 za0 zh) fun zt4 =>
  gb (pfV 12 7 za0 (.int (zt4 + 1)) zh) fun zh5 =>
  gb (gfR 12 10 za0 zh5) fun zt6 =>
  gg (gIs 12 za0 zh5) <|
  gc (f_X12_takeNumber N za0 0 9 zh5) fun zt8 zh7 =>
  gb (asI 0 zt6 (63 + (2 * zt2)) zt8 zh7) fun zh9 =>
  gb (gfR 12 10 za0 zh9) fun zt10 =>
  gg (gIs 12 za0 zh9) <|
  gc (f_X12_takeNumber N za0 0 1 zh9) fun zt12 zh11 =>
  gb (asI 0 zt10 ((63 + (2 * zt2)) + 1) zt12 zh11) fun zh13 =>
  gb (gfR 12 10 za0 zh13) fun zt14 =>
  gb (arI 0 zt14 60 zh13) fun zt15 =>
  gb (asI 0 zt14 60 (zt15 + 1) zh13) fun zh16 =>
  some zh16)
def f_X12_emit (N : Nat) (za0 : Nat) (za1 : Int32) (za2 : Int32) (zh : PH) : Option PH :=
  gb (gfR 12 11 za0 zh) fun zt1 =>
  gb (gfI 12 13 za0 zh) fun zt2 =>
  gb (asI 0 zt1 (1100 + zt2) za1 zh) fun zh3 =>
  gb (gfR 12 12 za0 zh3) fun zt4 =>
  gb (gfI 12 13 za0 zh3) fun zt5 =>
  gb (asI 0 zt4 (1100 + zt5) za2 zh3) fun zh6 =>
  gb (gfI 12 13 za0 zh6) fun zt7 =>
  gb (pfV 12 13 za0 (.int (zt7 + 1)) zh6) fun zh8 =>
  some zh8
def f_X12_all_57 (N : Nat) (zF_X12_all : Nat → Int32 → PH → Option PH) (zF_X12_test : Nat → Int32 → PH → Option PH) (zF_X12_sums : Nat → Int32 → PH → Option PH) (zF_X12_products : Nat → Int32 → PH → Option PH) (zF_X12_takePart : Nat → Int32 → PH → Option PH) (zk5 : (Nat × Int32 × PH) → Option PH) (zv0 : Nat) (zv1 : Int32) (zs0 : Int32) (zs1 : Nat) (zh : PH) : Option PH :=
  gg (gIs 12 zs1 zh) <|
  gb (f_X12_emit N zs1 zs0 0 zh) fun zh1 =>
  zk5 (zv0, zv1, zh1)
def f_X12_all_23 (N : Nat) (zF_X12_all : Nat → Int32 → PH → Option PH) (zF_X12_test : Nat → Int32 → PH → Option PH) (zF_X12_sums : Nat → Int32 → PH → Option PH) (zF_X12_products : Nat → Int32 → PH → Option PH) (zF_X12_takePart : Nat → Int32 → PH → Option PH) (zk5 : (Nat × Int32 × PH) → Option PH) (zv0 : Nat) (zv1 : Int32) (zh : PH) : Option PH :=
  gg (gIs 12 zv0 zh) <|
  gc (f_X12_isWord N zv0 7 zh) fun zt2 zh1 =>
  gb (gfI 12 7 zv0 zh1) fun zt3 =>
  gb (pfV 12 7 zv0 (.int (zt3 + 1)) zh1) fun zh4 =>
  gg (gIs 12 zv0 zh4) <|
  gb (zF_X12_test zv0 zv1 zh4) fun zh5 =>
  if (zt2 : Int32) = 0 then (
  f_X12_all_57 N zF_X12_all zF_X12_test zF_X12_sums zF_X12_products zF_X12_takePart zk5 zv0 zv1 10 zv0 zh5)
  else (
  f_X12_all_57 N zF_X12_all zF_X12_test zF_X12_sums zF_X12_products zF_X12_takePart zk5 zv0 zv1 9 zv0 zh5)
def f_X12_all_5 (N : Nat) (zF_X12_all : Nat → Int32 → PH → Option PH) (zF_X12_test : Nat → Int32 → PH → Option PH) (zF_X12_sums : Nat → Int32 → PH → Option PH) (zF_X12_products : Nat → Int32 → PH → Option PH) (zF_X12_takePart : Nat → Int32 → PH → Option PH) (zk5 : (Nat × Int32 × PH) → Option PH) (zv0 : Nat) (zv1 : Int32) (zh : PH) : Option PH :=
  gg (gIs 12 zv0 zh) <|
  gc (f_X12_isWord N zv0 7 zh) fun zt2 zh1 =>
  if (zt2 : Int32) = 0 then (
  gg (gIs 12 zv0 zh1) <|
  gc (f_X12_isWord N zv0 8 zh1) fun zt5 zh4 =>
  if (zt5 : Int32) = 0 then (
  some zh4)
  else (
  f_X12_all_23 N zF_X12_all zF_X12_test zF_X12_sums zF_X12_products zF_X12_takePart zk5 zv0 zv1 zh4))
  else (
  f_X12_all_23 N zF_X12_all zF_X12_test zF_X12_sums zF_X12_products zF_X12_takePart zk5 zv0 zv1 zh1)
def b_X12_all (N : Nat) (zF_X12_all : Nat → Int32 → PH → Option PH) (zF_X12_test : Nat → Int32 → PH → Option PH) (zF_X12_sums : Nat → Int32 → PH → Option PH) (zF_X12_products : Nat → Int32 → PH → Option PH) (zF_X12_takePart : Nat → Int32 → PH → Option PH) (za0 : Nat) (za1 : Int32) (zh : PH) : Option PH :=
  gg (gIs 12 za0 zh) <|
  gb (zF_X12_test za0 za1 zh) fun zh1 =>
  gi (fun zk zs => f_X12_all_5 N zF_X12_all zF_X12_test zF_X12_sums zF_X12_products zF_X12_takePart zk zs.1 zs.2.1 zs.2.2) N (za0, za1, zh1)
def f_X12_test_51 (N : Nat) (zF_X12_all : Nat → Int32 → PH → Option PH) (zF_X12_test : Nat → Int32 → PH → Option PH) (zF_X12_sums : Nat → Int32 → PH → Option PH) (zF_X12_products : Nat → Int32 → PH → Option PH) (zF_X12_takePart : Nat → Int32 → PH → Option PH) (zh : PH) : Option PH :=
  some zh
def f_X12_test_47 (N : Nat) (zF_X12_all : Nat → Int32 → PH → Option PH) (zF_X12_test : Nat → Int32 → PH → Option PH) (zF_X12_sums : Nat → Int32 → PH → Option PH) (zF_X12_products : Nat → Int32 → PH → Option PH) (zF_X12_takePart : Nat → Int32 → PH → Option PH) (zs0 : Int32) (zs1 : Nat) (zh : PH) : Option PH :=
  gg (gIs 12 zs1 zh) <|
  gb (f_X12_emit N zs1 zs0 0 zh) fun zh1 =>
  f_X12_test_51 N zF_X12_all zF_X12_test zF_X12_sums zF_X12_products zF_X12_takePart  zh1
def f_X12_test_30 (N : Nat) (zF_X12_all : Nat → Int32 → PH → Option PH) (zF_X12_test : Nat → Int32 → PH → Option PH) (zF_X12_sums : Nat → Int32 → PH → Option PH) (zF_X12_products : Nat → Int32 → PH → Option PH) (zF_X12_takePart : Nat → Int32 → PH → Option PH) (zv0 : Nat) (zv1 : Int32) (zv2 : Int32) (zh : PH) : Option PH :=
  gg (gIs 12 zv0 zh) <|
  gb (zF_X12_sums zv0 zv1 zh) fun zh1 =>
  if (zv2 : Int32) = 0 then (
  f_X12_test_47 N zF_X12_all zF_X12_test zF_X12_sums zF_X12_products zF_X12_takePart 8 zv0 zh1)
  else (
  f_X12_test_47 N zF_X12_all zF_X12_test zF_X12_sums zF_X12_products zF_X12_takePart 7 zv0 zh1)
def b_X12_test (N : Nat) (zF_X12_all : Nat → Int32 → PH → Option PH) (zF_X12_test : Nat → Int32 → PH → Option PH) (zF_X12_sums : Nat → Int32 → PH → Option PH) (zF_X12_products : Nat → Int32 → PH → Option PH) (zF_X12_takePart : Nat → Int32 → PH → Option PH) (za0 : Nat) (za1 : Int32) (zh : PH) : Option PH :=
  gg (gIs 12 za0 zh) <|
  gb (zF_X12_sums za0 za1 zh) fun zh1 =>
  gg (gIs 12 za0 zh1) <|
  gc (f_X12_isSign N za0 60 zh1) fun zt3 zh2 =>
  gg (gIs 12 za0 zh2) <|
  gc (f_X12_hasSign N za0 60 zh2) fun zt5 zh4 =>
  if (zt5 : Int32) = 0 then (
  gg (gIs 12 za0 zh4) <|
  gc (f_X12_hasSign N za0 61 zh4) fun zt8 zh7 =>
  if (zt8 : Int32) = 0 then (
  f_X12_test_51 N zF_X12_all zF_X12_test zF_X12_sums zF_X12_products zF_X12_takePart  zh7)
  else (
  f_X12_test_30 N zF_X12_all zF_X12_test zF_X12_sums zF_X12_products zF_X12_takePart za0 za1 zt3 zh7))
  else (
  f_X12_test_30 N zF_X12_all zF_X12_test zF_X12_sums zF_X12_products zF_X12_takePart za0 za1 zt3 zh4)
def f_X12_sums_55 (N : Nat) (zF_X12_all : Nat → Int32 → PH → Option PH) (zF_X12_test : Nat → Int32 → PH → Option PH) (zF_X12_sums : Nat → Int32 → PH → Option PH) (zF_X12_products : Nat → Int32 → PH → Option PH) (zF_X12_takePart : Nat → Int32 → PH → Option PH) (zk5 : (Nat × Int32 × PH) → Option PH) (zv0 : Nat) (zv1 : Int32) (zs0 : Int32) (zs1 : Nat) (zh : PH) : Option PH :=
  gg (gIs 12 zs1 zh) <|
  gb (f_X12_emit N zs1 zs0 0 zh) fun zh1 =>
  zk5 (zv0, zv1, zh1)
def f_X12_sums_23 (N : Nat) (zF_X12_all : Nat → Int32 → PH → Option PH) (zF_X12_test : Nat → Int32 → PH → Option PH) (zF_X12_sums : Nat → Int32 → PH → Option PH) (zF_X12_products : Nat → Int32 → PH → Option PH) (zF_X12_takePart : Nat → Int32 → PH → Option PH) (zk5 : (Nat × Int32 × PH) → Option PH) (zv0 : Nat) (zv1 : Int32) (zh : PH) : Option PH :=
  gg (gIs 12 zv0 zh) <|
  gc (f_X12_isSign N zv0 43 zh) fun zt2 zh1 =>
  gb (gfI 12 7 zv0 zh1) fun zt3 =>
  gb (pfV 12 7 zv0 (.int (zt3 + 1)) zh1) fun zh4 =>
  gg (gIs 12 zv0 zh4) <|
  gb (zF_X12_products zv0 zv1 zh4) fun zh5 =>
  if (zt2 : Int32) = 0 then (
  f_X12_sums_55 N zF_X12_all zF_X12_test zF_X12_sums zF_X12_products zF_X12_takePart zk5 zv0 zv1 5 zv0 zh5)
  else (
  f_X12_sums_55 N zF_X12_all zF_X12_test zF_X12_sums zF_X12_products zF_X12_takePart zk5 zv0 zv1 4 zv0 zh5)
def f_X12_sums_5 (N : Nat) (zF_X12_all : Nat → Int32 → PH → Option PH) (zF_X12_test : Nat → Int32 → PH → Option PH) (zF_X12_sums : Nat → Int32 → PH → Option PH) (zF_X12_products : Nat → Int32 → PH → Option PH) (zF_X12_takePart : Nat → Int32 → PH → Option PH) (zk5 : (Nat × Int32 × PH) → Option PH) (zv0 : Nat) (zv1 : Int32) (zh : PH) : Option PH :=
  gg (gIs 12 zv0 zh) <|
  gc (f_X12_isSign N zv0 43 zh) fun zt2 zh1 =>
  if (zt2 : Int32) = 0 then (
  gg (gIs 12 zv0 zh1) <|
  gc (f_X12_isSign N zv0 45 zh1) fun zt5 zh4 =>
  if (zt5 : Int32) = 0 then (
  some zh4)
  else (
  f_X12_sums_23 N zF_X12_all zF_X12_test zF_X12_sums zF_X12_products zF_X12_takePart zk5 zv0 zv1 zh4))
  else (
  f_X12_sums_23 N zF_X12_all zF_X12_test zF_X12_sums zF_X12_products zF_X12_takePart zk5 zv0 zv1 zh1)
def b_X12_sums (N : Nat) (zF_X12_all : Nat → Int32 → PH → Option PH) (zF_X12_test : Nat → Int32 → PH → Option PH) (zF_X12_sums : Nat → Int32 → PH → Option PH) (zF_X12_products : Nat → Int32 → PH → Option PH) (zF_X12_takePart : Nat → Int32 → PH → Option PH) (za0 : Nat) (za1 : Int32) (zh : PH) : Option PH :=
  gg (gIs 12 za0 zh) <|
  gb (zF_X12_products za0 za1 zh) fun zh1 =>
  gi (fun zk zs => f_X12_sums_5 N zF_X12_all zF_X12_test zF_X12_sums zF_X12_products zF_X12_takePart zk zs.1 zs.2.1 zs.2.2) N (za0, za1, zh1)
def f_X12_products_5 (N : Nat) (zF_X12_all : Nat → Int32 → PH → Option PH) (zF_X12_test : Nat → Int32 → PH → Option PH) (zF_X12_sums : Nat → Int32 → PH → Option PH) (zF_X12_products : Nat → Int32 → PH → Option PH) (zF_X12_takePart : Nat → Int32 → PH → Option PH) (zk5 : (Nat × Int32 × PH) → Option PH) (zv0 : Nat) (zv1 : Int32) (zh : PH) : Option PH :=
  gg (gIs 12 zv0 zh) <|
  gc (f_X12_hasSign N zv0 42 zh) fun zt2 zh1 =>
  if (zt2 : Int32) = 0 then (
  some zh1)
  else (
  gg (gIs 12 zv0 zh1) <|
  gb (zF_X12_takePart zv0 zv1 zh1) fun zh4 =>
  gg (gIs 12 zv0 zh4) <|
  gb (f_X12_emit N zv0 6 0 zh4) fun zh5 =>
  zk5 (zv0, zv1, zh5))
def b_X12_products (N : Nat) (zF_X12_all : Nat → Int32 → PH → Option PH) (zF_X12_test : Nat → Int32 → PH → Option PH) (zF_X12_sums : Nat → Int32 → PH → Option PH) (zF_X12_products : Nat → Int32 → PH → Option PH) (zF_X12_takePart : Nat → Int32 → PH → Option PH) (za0 : Nat) (za1 : Int32) (zh : PH) : Option PH :=
  gg (gIs 12 za0 zh) <|
  gb (zF_X12_takePart za0 za1 zh) fun zh1 =>
  gi (fun zk zs => f_X12_products_5 N zF_X12_all zF_X12_test zF_X12_sums zF_X12_products zF_X12_takePart zk zs.1 zs.2.1 zs.2.2) N (za0, za1, zh1)
def f_X12_takePart_222 (N : Nat) (zF_X12_all : Nat → Int32 → PH → Option PH) (zF_X12_test : Nat → Int32 → PH → Option PH) (zF_X12_sums : Nat → Int32 → PH → Option PH) (zF_X12_products : Nat → Int32 → PH → Option PH) (zF_X12_takePart : Nat → Int32 → PH → Option PH) (zh : PH) : Option PH :=
  some zh
def f_X12_takePart_209 (N : Nat) (zF_X12_all : Nat → Int32 → PH → Option PH) (zF_X12_test : Nat → Int32 → PH → Option PH) (zF_X12_sums : Nat → Int32 → PH → Option PH) (zF_X12_products : Nat → Int32 → PH → Option PH) (zF_X12_takePart : Nat → Int32 → PH → Option PH) (zv0 : Nat) (zs0 : Int32) (zs1 : Int32) (zs2 : Nat) (zh : PH) : Option PH :=
  gg (gIs 12 zs2 zh) <|
  gb (f_X12_emit N zs2 zs1 zs0 zh) fun zh1 =>
  gb (gfI 12 7 zv0 zh1) fun zt2 =>
  gb (pfV 12 7 zv0 (.int (zt2 + 1)) zh1) fun zh3 =>
  f_X12_takePart_222 N zF_X12_all zF_X12_test zF_X12_sums zF_X12_products zF_X12_takePart  zh3
def f_X12_takePart_191 (N : Nat) (zF_X12_all : Nat → Int32 → PH → Option PH) (zF_X12_test : Nat → Int32 → PH → Option PH) (zF_X12_sums : Nat → Int32 → PH → Option PH) (zF_X12_products : Nat → Int32 → PH → Option PH) (zF_X12_takePart : Nat → Int32 → PH → Option PH) (zv0 : Nat) (zv2 : Int32) (zv3 : Int32) (zs0 : Int32) (zs1 : Nat) (zh : PH) : Option PH :=
  if (zv2 : Int32) = 0 then (
  f_X12_takePart_209 N zF_X12_all zF_X12_test zF_X12_sums zF_X12_products zF_X12_takePart zv0 zv3 zs0 zs1 zh)
  else (
  gb (gfR 12 6 zv0 zh) fun zt2 =>
  gb (gfI 12 7 zv0 zh) fun zt3 =>
  gb (arL 1 zt2 zt3 zh) fun zt4 =>
  f_X12_takePart_209 N zF_X12_all zF_X12_test zF_X12_sums zF_X12_products zF_X12_takePart zv0 (Int64.toInt32 zt4) zs0 zs1 zh)
def f_X12_takePart_123 (N : Nat) (zF_X12_all : Nat → Int32 → PH → Option PH) (zF_X12_test : Nat → Int32 → PH → Option PH) (zF_X12_sums : Nat → Int32 → PH → Option PH) (zF_X12_products : Nat → Int32 → PH → Option PH) (zF_X12_takePart : Nat → Int32 → PH → Option PH) (zv0 : Nat) (zv1 : Int32) (zv2 : Int32) (zv3 : Int32) (zh : PH) : Option PH :=
  gb (gfI 12 8 zv0 zh) fun zt1 =>
  if (zt1 : Int32) ≤ 0 then (
  gg (gIs 12 zv0 zh) <|
  gc (f_X12_hasWord N zv0 6 zh) fun zt4 zh3 =>
  if (zt4 : Int32) = 0 then (
  gg (gIs 12 zv0 zh3) <|
  gc (f_X12_hasSign N zv0 40 zh3) fun zt7 zh6 =>
  if (zt7 : Int32) = 0 then (
  if (zv2 : Int32) = 0 then (
  f_X12_takePart_191 N zF_X12_all zF_X12_test zF_X12_sums zF_X12_products zF_X12_takePart zv0 zv2 zv3 2 zv0 zh6)
  else (
  f_X12_takePart_191 N zF_X12_all zF_X12_test zF_X12_sums zF_X12_products zF_X12_takePart zv0 zv2 zv3 1 zv0 zh6))
  else (
  gg (gIs 12 zv0 zh6) <|
  gb (zF_X12_all zv0 (zv1 + 1) zh6) fun zh10 =>
  gg (gIs 12 zv0 zh10) <|
  gb (f_X12_takeSign N zv0 41 zh10) fun zh11 =>
  f_X12_takePart_222 N zF_X12_all zF_X12_test zF_X12_sums zF_X12_products zF_X12_takePart  zh11))
  else (
  gg (gIs 12 zv0 zh3) <|
  gb (zF_X12_takePart zv0 (zv1 + 1) zh3) fun zh12 =>
  gg (gIs 12 zv0 zh12) <|
  gb (f_X12_emit N zv0 3 0 zh12) fun zh13 =>
  f_X12_takePart_222 N zF_X12_all zF_X12_test zF_X12_sums zF_X12_products zF_X12_takePart  zh13))
  else (
  some zh)
def f_X12_takePart_113 (N : Nat) (zF_X12_all : Nat → Int32 → PH → Option PH) (zF_X12_test : Nat → Int32 → PH → Option PH) (zF_X12_sums : Nat → Int32 → PH → Option PH) (zF_X12_products : Nat → Int32 → PH → Option PH) (zF_X12_takePart : Nat → Int32 → PH → Option PH) (zv0 : Nat) (zv1 : Int32) (zv2 : Int32) (zv3 : Int32) (zh : PH) : Option PH :=
  if (zv1 : Int32) = 5 then (
  gg (gIs 12 zv0 zh) <|
  gb (f_X12_wrong N zv0 5 zh) fun zh2 =>
  f_X12_takePart_123 N zF_X12_all zF_X12_test zF_X12_sums zF_X12_products zF_X12_takePart zv0 zv1 zv2 zv3 zh2)
  else (
  f_X12_takePart_123 N zF_X12_all zF_X12_test zF_X12_sums zF_X12_products zF_X12_takePart zv0 zv1 zv2 zv3 zh)
def f_X12_takePart_72 (N : Nat) (zF_X12_all : Nat → Int32 → PH → Option PH) (zF_X12_test : Nat → Int32 → PH → Option PH) (zF_X12_sums : Nat → Int32 → PH → Option PH) (zF_X12_products : Nat → Int32 → PH → Option PH) (zF_X12_takePart : Nat → Int32 → PH → Option PH) (zk32 : (Nat × Int32 × Int32 × Int32 × Int32 × PH) → Option PH) (zv0 : Nat) (zv1 : Int32) (zv2 : Int32) (zv4 : Int32) (zs0 : Int32) (zh : PH) : Option PH :=
  gl (zv4 + 1) fun (zx1 : Int32) =>
  zk32 (zv0, zv1, zv2, zs0, zx1, zh)
def f_X12_takePart_60 (N : Nat) (zF_X12_all : Nat → Int32 → PH → Option PH) (zF_X12_test : Nat → Int32 → PH → Option PH) (zF_X12_sums : Nat → Int32 → PH → Option PH) (zF_X12_products : Nat → Int32 → PH → Option PH) (zF_X12_takePart : Nat → Int32 → PH → Option PH) (zk32 : (Nat × Int32 × Int32 × Int32 × Int32 × PH) → Option PH) (zv0 : Nat) (zv1 : Int32) (zv2 : Int32) (zv3 : Int32) (zv4 : Int32) (zs0 : Int32) (zs1 : Nat) (zh : PH) : Option PH :=
  gg (gIs 12 zs1 zh) <|
  gc (f_X12_isWord N zs1 zs0 zh) fun zt2 zh1 =>
  if (zt2 : Int32) = 0 then (
  f_X12_takePart_72 N zF_X12_all zF_X12_test zF_X12_sums zF_X12_products zF_X12_takePart zk32 zv0 zv1 zv2 zv4 zv3 zh1)
  else (
  f_X12_takePart_72 N zF_X12_all zF_X12_test zF_X12_sums zF_X12_products zF_X12_takePart zk32 zv0 zv1 zv2 zv4 zv4 zh1)
def f_X12_takePart_32 (N : Nat) (zF_X12_all : Nat → Int32 → PH → Option PH) (zF_X12_test : Nat → Int32 → PH → Option PH) (zF_X12_sums : Nat → Int32 → PH → Option PH) (zF_X12_products : Nat → Int32 → PH → Option PH) (zF_X12_takePart : Nat → Int32 → PH → Option PH) (zk32 : (Nat × Int32 × Int32 × Int32 × Int32 × PH) → Option PH) (zv0 : Nat) (zv1 : Int32) (zv2 : Int32) (zv3 : Int32) (zv4 : Int32) (zh : PH) : Option PH :=
  if (8 : Int32) ≤ zv4 then (
  if (0 : Int32) ≤ zv3 then (
  f_X12_takePart_113 N zF_X12_all zF_X12_test zF_X12_sums zF_X12_products zF_X12_takePart zv0 zv1 zv2 zv3 zh)
  else (
  if (zv2 : Int32) = 0 then (
  gg (gIs 12 zv0 zh) <|
  gc (f_X12_isSign N zv0 40 zh) fun zt5 zh4 =>
  if (zt5 : Int32) = 0 then (
  gg (gIs 12 zv0 zh4) <|
  gc (f_X12_isWord N zv0 6 zh4) fun zt8 zh7 =>
  if (zt8 : Int32) = 0 then (
  gg (gIs 12 zv0 zh7) <|
  gb (f_X12_wrong N zv0 1 zh7) fun zh10 =>
  f_X12_takePart_123 N zF_X12_all zF_X12_test zF_X12_sums zF_X12_products zF_X12_takePart zv0 zv1 zv2 zv3 zh10)
  else (
  f_X12_takePart_113 N zF_X12_all zF_X12_test zF_X12_sums zF_X12_products zF_X12_takePart zv0 zv1 zv2 zv3 zh7))
  else (
  f_X12_takePart_113 N zF_X12_all zF_X12_test zF_X12_sums zF_X12_products zF_X12_takePart zv0 zv1 zv2 zv3 zh4))
  else (
  f_X12_takePart_113 N zF_X12_all zF_X12_test zF_X12_sums zF_X12_products zF_X12_takePart zv0 zv1 zv2 zv3 zh)))
  else (
  if (3 : Int32) ≤ zv4 then (
  f_X12_takePart_60 N zF_X12_all zF_X12_test zF_X12_sums zF_X12_products zF_X12_takePart zk32 zv0 zv1 zv2 zv3 zv4 ((9 + zv4) - 3) zv0 zh)
  else (
  f_X12_takePart_60 N zF_X12_all zF_X12_test zF_X12_sums zF_X12_products zF_X12_takePart zk32 zv0 zv1 zv2 zv3 zv4 (2 + zv4) zv0 zh))
def f_X12_takePart_26 (N : Nat) (zF_X12_all : Nat → Int32 → PH → Option PH) (zF_X12_test : Nat → Int32 → PH → Option PH) (zF_X12_sums : Nat → Int32 → PH → Option PH) (zF_X12_products : Nat → Int32 → PH → Option PH) (zF_X12_takePart : Nat → Int32 → PH → Option PH) (zv0 : Nat) (zv1 : Int32) (zs0 : Int32) (zh : PH) : Option PH :=
  gi (fun zk zs => f_X12_takePart_32 N zF_X12_all zF_X12_test zF_X12_sums zF_X12_products zF_X12_takePart zk zs.1 zs.2.1 zs.2.2.1 zs.2.2.2.1 zs.2.2.2.2.1 zs.2.2.2.2.2) N (zv0, zv1, zs0, (-1), 0, zh)
def b_X12_takePart (N : Nat) (zF_X12_all : Nat → Int32 → PH → Option PH) (zF_X12_test : Nat → Int32 → PH → Option PH) (zF_X12_sums : Nat → Int32 → PH → Option PH) (zF_X12_products : Nat → Int32 → PH → Option PH) (zF_X12_takePart : Nat → Int32 → PH → Option PH) (za0 : Nat) (za1 : Int32) (zh : PH) : Option PH :=
  gb (gfI 12 8 za0 zh) fun zt1 =>
  if (zt1 : Int32) ≤ 0 then (
  gb (gfR 12 4 za0 zh) fun zt3 =>
  gb (gfI 12 7 za0 zh) fun zt4 =>
  gb (arI 0 zt3 zt4 zh) fun zt5 =>
  if (zt5 : Int32) = 2 then (
  f_X12_takePart_26 N zF_X12_all zF_X12_test zF_X12_sums zF_X12_products zF_X12_takePart za0 za1 1 zh)
  else (
  f_X12_takePart_26 N zF_X12_all zF_X12_test zF_X12_sums zF_X12_products zF_X12_takePart za0 za1 0 zh))
  else (
  some zh)
def g_gP (N : Nat) : Nat → (Nat → Int32 → PH → Option PH) × (Nat → Int32 → PH → Option PH) × (Nat → Int32 → PH → Option PH) × (Nat → Int32 → PH → Option PH) × (Nat → Int32 → PH → Option PH)
  | 0 => (fun _ _ _ => none, fun _ _ _ => none, fun _ _ _ => none, fun _ _ _ => none, fun _ _ _ => none)
  | zd + 1 => (b_X12_all N (g_gP N zd).1 (g_gP N zd).2.1 (g_gP N zd).2.2.1 (g_gP N zd).2.2.2.1 (g_gP N zd).2.2.2.2, b_X12_test N (g_gP N zd).1 (g_gP N zd).2.1 (g_gP N zd).2.2.1 (g_gP N zd).2.2.2.1 (g_gP N zd).2.2.2.2, b_X12_sums N (g_gP N zd).1 (g_gP N zd).2.1 (g_gP N zd).2.2.1 (g_gP N zd).2.2.2.1 (g_gP N zd).2.2.2.2, b_X12_products N (g_gP N zd).1 (g_gP N zd).2.1 (g_gP N zd).2.2.1 (g_gP N zd).2.2.2.1 (g_gP N zd).2.2.2.2, b_X12_takePart N (g_gP N zd).1 (g_gP N zd).2.1 (g_gP N zd).2.2.1 (g_gP N zd).2.2.2.1 (g_gP N zd).2.2.2.2)
def f_X12_all (N : Nat) (za0 : Nat) (za1 : Int32) (zh : PH) : Option PH := (g_gP N 64).1 za0 za1 zh
def f_X12_test (N : Nat) (za0 : Nat) (za1 : Int32) (zh : PH) : Option PH := (g_gP N 64).2.1 za0 za1 zh
def f_X12_sums (N : Nat) (za0 : Nat) (za1 : Int32) (zh : PH) : Option PH := (g_gP N 64).2.2.1 za0 za1 zh
def f_X12_products (N : Nat) (za0 : Nat) (za1 : Int32) (zh : PH) : Option PH := (g_gP N 64).2.2.2.1 za0 za1 zh
def f_X12_takePart (N : Nat) (za0 : Nat) (za1 : Int32) (zh : PH) : Option PH := (g_gP N 64).2.2.2.2 za0 za1 zh
def f_X12_readRule (N : Nat) (za0 : Nat) (zh : PH) : Option PH :=
  gb (gfR 12 10 za0 zh) fun zt1 =>
  gb (arI 0 zt1 62 zh) fun zt2 =>
  if (zt2 : Int32) = 4 then (
  gg (gIs 12 za0 zh) <|
  gb (f_X12_wrong N za0 5 zh) fun zh14 =>
  some zh14)
  else (
  gb (gfI 12 7 za0 zh) fun zt4 =>
  gb (pfV 12 7 za0 (.int (zt4 + 1)) zh) fun zh5 =>
  gb (gfR 12 10 za0 zh5) fun zt6 =>
  gb (gfI 12 13 za0 zh5) fun zt7 =>
  gb (asI 0 zt6 (113 + zt2) zt7 zh5) fun zh8 =>
  gg (gIs 12 za0 zh8) <|
  gb (f_X12_all N za0 0 zh8) fun zh9 =>
  gg (gIs 12 za0 zh9) <|
  gb (f_X12_emit N za0 0 0 zh9) fun zh10 =>
  gb (gfR 12 10 za0 zh10) fun zt11 =>
  gb (arI 0 zt11 62 zh10) fun zt12 =>
  gb (asI 0 zt11 62 (zt12 + 1) zh10) fun zh13 =>
  some zh13)
def f_X12_readLine_50 (N : Nat) (zh : PH) : Option PH :=
  some zh
def f_X12_readLine (N : Nat) (za0 : Nat) (zh : PH) : Option PH :=
  gg (gIs 12 za0 zh) <|
  gc (f_X12_isWord N za0 0 zh) fun zt2 zh1 =>
  if (zt2 : Int32) = 0 then (
  gg (gIs 12 za0 zh1) <|
  gc (f_X12_isWord N za0 1 zh1) fun zt5 zh4 =>
  if (zt5 : Int32) = 0 then (
  gg (gIs 12 za0 zh4) <|
  gc (f_X12_isWord N za0 5 zh4) fun zt8 zh7 =>
  if (zt8 : Int32) = 0 then (
  gg (gIs 12 za0 zh7) <|
  gb (f_X12_wrong N za0 1 zh7) fun zh10 =>
  f_X12_readLine_50 N  zh10)
  else (
  gg (gIs 12 za0 zh7) <|
  gb (f_X12_readRule N za0 zh7) fun zh11 =>
  f_X12_readLine_50 N  zh11))
  else (
  gg (gIs 12 za0 zh4) <|
  gb (f_X12_readGuest N za0 zh4) fun zh12 =>
  f_X12_readLine_50 N  zh12))
  else (
  gg (gIs 12 za0 zh1) <|
  gb (f_X12_readRoom N za0 zh1) fun zh13 =>
  f_X12_readLine_50 N  zh13)
def f_X12_rules (N : Nat) (za0 : Nat) (zh : PH) : Option (Int32 × PH) :=
  gb (gfR 12 10 za0 zh) fun zt1 =>
  gb (arI 0 zt1 2 zh) fun zt2 =>
  some (zt2, zh)
def f_X12_inn_201 (N : Nat) (zk201 : (Nat × Int32 × PH) → Option (Int32 × PH)) (zv0 : Nat) (zv1 : Int32) (zh : PH) : Option (Int32 × PH) :=
  if (4 : Int32) ≤ zv1 then (
  gb (pfV 12 18 zv0 (.int 1) zh) fun zh2 =>
  some (0, zh2))
  else (
  gb (gfR 12 47 zv0 zh) fun zt3 =>
  gb (asI 3 zt3 zv1 0 zh) fun zh4 =>
  gl (zv1 + 1) fun (zx5 : Int32) =>
  zk201 (zv0, zx5, zh4))
def f_X12_inn_198 (N : Nat) (zv0 : Nat) (zs0 : Int32) (zs1 : Int32) (zs2 : Nat) (zh : PH) : Option (Int32 × PH) :=
  gb (asI 0 zs2 zs1 zs0 zh) fun zh1 =>
  gi (fun zk zs => f_X12_inn_201 N zk zs.1 zs.2.1 zs.2.2) N (zv0, 0, zh1)
def f_X12_inn_161 (N : Nat) (zk161 : (Nat × Int32 × PH) → Option (Int32 × PH)) (zv0 : Nat) (zv1 : Int32) (zh : PH) : Option (Int32 × PH) :=
  if (520 : Int32) ≤ zv1 then (
  gb (gfR 12 17 zv0 zh) fun zt2 =>
  gg (gIs 12 zv0 zh) <|
  gc (f_X12_rules N zv0 zh) fun zt4 zh3 =>
  if (zt4 : Int32) ≤ 0 then (
  f_X12_inn_198 N zv0 (-1) 0 zt2 zh3)
  else (
  f_X12_inn_198 N zv0 0 0 zt2 zh3))
  else (
  gb (gfR 12 17 zv0 zh) fun zt6 =>
  gb (asI 0 zt6 zv1 0 zh) fun zh7 =>
  gl (zv1 + 1) fun (zx8 : Int32) =>
  zk161 (zv0, zx8, zh7))
def f_X12_inn_113 (N : Nat) (zk113 : (Nat × Int32 × PH) → Option (Int32 × PH)) (zv0 : Nat) (zv1 : Int32) (zh : PH) : Option (Int32 × PH) :=
  gb (gfI 12 13 zv0 zh) fun zt1 =>
  if (zt1 : Int32) ≤ zv1 then (
  gi (fun zk zs => f_X12_inn_161 N zk zs.1 zs.2.1 zs.2.2) N (zv0, 0, zh))
  else (
  gb (gfR 12 11 zv0 zh) fun zt3 =>
  gb (gfR 12 11 zv0 zh) fun zt4 =>
  gb (arI 0 zt4 (1100 + zv1) zh) fun zt5 =>
  gb (asI 0 zt3 zv1 zt5 zh) fun zh6 =>
  gb (gfR 12 12 zv0 zh6) fun zt7 =>
  gb (gfR 12 12 zv0 zh6) fun zt8 =>
  gb (arI 0 zt8 (1100 + zv1) zh6) fun zt9 =>
  gb (asI 0 zt7 zv1 zt9 zh6) fun zh10 =>
  gl (zv1 + 1) fun (zx11 : Int32) =>
  zk113 (zv0, zx11, zh10))
def f_X12_inn_84 (N : Nat) (zk84 : (Nat × Int32 × PH) → Option (Int32 × PH)) (zv0 : Nat) (zv1 : Int32) (zh : PH) : Option (Int32 × PH) :=
  if (60 : Int32) ≤ zv1 then (
  gi (fun zk zs => f_X12_inn_113 N zk zs.1 zs.2.1 zs.2.2) N (zv0, 0, zh))
  else (
  gb (gfR 12 10 zv0 zh) fun zt2 =>
  gb (gfR 12 10 zv0 zh) fun zt3 =>
  gb (arI 0 zt3 (60 + zv1) zh) fun zt4 =>
  gb (asI 0 zt2 zv1 zt4 zh) fun zh5 =>
  gl (zv1 + 1) fun (zx6 : Int32) =>
  zk84 (zv0, zx6, zh5))
def f_X12_inn_70 (N : Nat) (zv0 : Nat) (zh : PH) : Option (Int32 × PH) :=
  gb (gfI 12 8 zv0 zh) fun zt1 =>
  if (zt1 : Int32) ≤ 0 then (
  gi (fun zk zs => f_X12_inn_84 N zk zs.1 zs.2.1 zs.2.2) N (zv0, 0, zh))
  else (
  gb (gfI 12 8 zv0 zh) fun zt3 =>
  some (zt3, zh))
def f_X12_inn_38 (N : Nat) (zk38 : (Nat × PH) → Option (Int32 × PH)) (zv0 : Nat) (zh : PH) : Option (Int32 × PH) :=
  gb (gfI 12 8 zv0 zh) fun zt1 =>
  if (zt1 : Int32) = 0 then (
  gb (gfR 12 4 zv0 zh) fun zt3 =>
  gb (gfI 12 7 zv0 zh) fun zt4 =>
  gb (arI 0 zt3 zt4 zh) fun zt5 =>
  if (zt5 : Int32) = 0 then (
  f_X12_inn_70 N zv0 zh)
  else (
  gg (gIs 12 zv0 zh) <|
  gb (f_X12_readLine N zv0 zh) fun zh7 =>
  gg (gIs 12 zv0 zh7) <|
  gb (f_X12_takeSign N zv0 59 zh7) fun zh8 =>
  zk38 (zv0, zh8)))
  else (
  f_X12_inn_70 N zv0 zh)
def f_X12_inn_16 (N : Nat) (zk16 : (Nat × Int32 × PH) → Option (Int32 × PH)) (zv0 : Nat) (zv1 : Int32) (zh : PH) : Option (Int32 × PH) :=
  if (60 : Int32) ≤ zv1 then (
  gi (fun zk zs => f_X12_inn_38 N zk zs.1 zs.2) N (zv0, zh))
  else (
  gb (gfR 12 10 zv0 zh) fun zt2 =>
  gb (asI 0 zt2 (60 + zv1) 0 zh) fun zh3 =>
  gl (zv1 + 1) fun (zx4 : Int32) =>
  zk16 (zv0, zx4, zh3))
def f_X12_inn (N : Nat) (za0 : Nat) (zh : PH) : Option (Int32 × PH) :=
  gb (pfV 12 0 za0 (.int 0) zh) fun zh1 =>
  gg (gIs 12 za0 zh1) <|
  gb (f_X12_cutAll N za0 zh1) fun zh2 =>
  gb (pfV 12 13 za0 (.int 0) zh2) fun zh3 =>
  gi (fun zk zs => f_X12_inn_16 N zk zs.1 zs.2.1 zs.2.2) N (za0, 0, zh3)
def f_X12_both_101 (N : Nat) (zs0 : Int32) (zh : PH) : Option (Int32 × PH) :=
  some (zs0, zh)
def f_X12_both_96 (N : Nat) (zh : PH) : Option (Int32 × PH) :=
  f_X12_both_101 N 1 zh
def f_X12_both_87 (N : Nat) (zs0 : Int32) (zh : PH) : Option (Int32 × PH) :=
  some (zs0, zh)
def f_X12_both_86 (N : Nat) (zh : PH) : Option (Int32 × PH) :=
  f_X12_both_87 N 0 zh
def f_X12_both_73 (N : Nat) (zs0 : Int32) (zh : PH) : Option (Int32 × PH) :=
  some (zs0, zh)
def f_X12_both_62 (N : Nat) (zs0 : Int32) (zh : PH) : Option (Int32 × PH) :=
  some (zs0, zh)
def f_X12_both (N : Nat) (za0 : Int32) (za1 : Int32) (za2 : Int32) (zh : PH) : Option (Int32 × PH) :=
  if (za0 : Int32) = 4 then (
  some ((za1 + za2), zh))
  else (
  if (za0 : Int32) = 5 then (
  some ((za1 - za2), zh))
  else (
  if (za0 : Int32) = 6 then (
  some ((za1 * za2), zh))
  else (
  if (za0 : Int32) = 7 then (
  if (za2 : Int32) ≤ za1 then (
  f_X12_both_62 N 0 zh)
  else (
  f_X12_both_62 N 1 zh))
  else (
  if (za0 : Int32) = 8 then (
  if (za1 : Int32) = za2 then (
  f_X12_both_73 N 1 zh)
  else (
  f_X12_both_73 N 0 zh))
  else (
  if (za0 : Int32) = 9 then (
  if (za1 : Int32) = 0 then (
  f_X12_both_86 N  zh)
  else (
  if (za2 : Int32) = 0 then (
  f_X12_both_86 N  zh)
  else (
  f_X12_both_87 N 1 zh)))
  else (
  if (za1 : Int32) = 0 then (
  if (za2 : Int32) = 0 then (
  f_X12_both_101 N 0 zh)
  else (
  f_X12_both_96 N  zh))
  else (
  f_X12_both_96 N  zh)))))))
def f_X12_worthAt_134 (N : Nat) (zk4 : (Nat × Int32 × Int32 × PH) → Option (Int32 × PH)) (zv0 : Nat) (zv2 : Int32) (zv3 : Int32) (zh : PH) : Option (Int32 × PH) :=
  gl (zv3 + 1) fun (zx1 : Int32) =>
  zk4 (zv0, zv2, zx1, zh)
def f_X12_worthAt_100 (N : Nat) (zk4 : (Nat × Int32 × Int32 × PH) → Option (Int32 × PH)) (zv0 : Nat) (zv2 : Int32) (zv3 : Int32) (zs0 : Int32) (zs1 : Int32) (zs2 : Nat) (zh : PH) : Option (Int32 × PH) :=
  gb (asI 0 zs2 zs1 zs0 zh) fun zh1 =>
  f_X12_worthAt_134 N zk4 zv0 zv2 zv3 zh1
def f_X12_worthAt_64 (N : Nat) (zk4 : (Nat × Int32 × Int32 × PH) → Option (Int32 × PH)) (zv0 : Nat) (zv2 : Int32) (zv3 : Int32) (zs0 : Int32) (zs1 : Int32) (zs2 : Nat) (zh : PH) : Option (Int32 × PH) :=
  gb (asI 0 zs2 zs1 zs0 zh) fun zh1 =>
  gl (zv2 + 1) fun (zx2 : Int32) =>
  f_X12_worthAt_134 N zk4 zv0 zx2 zv3 zh1
def f_X12_worthAt_33 (N : Nat) (zk4 : (Nat × Int32 × Int32 × PH) → Option (Int32 × PH)) (zv0 : Nat) (zv2 : Int32) (zv3 : Int32) (zv4 : Int32) (zh : PH) : Option (Int32 × PH) :=
  gb (gfR 12 16 zv0 zh) fun zt1 =>
  if (zv4 : Int32) = 1 then (
  gb (gfR 12 12 zv0 zh) fun zt7 =>
  gb (arI 0 zt7 zv3 zh) fun zt8 =>
  f_X12_worthAt_64 N zk4 zv0 zv2 zv3 zt8 zv2 zt1 zh)
  else (
  gb (gfR 12 15 zv0 zh) fun zt3 =>
  gb (gfR 12 12 zv0 zh) fun zt4 =>
  gb (arI 0 zt4 zv3 zh) fun zt5 =>
  gb (arI 0 zt3 zt5 zh) fun zt6 =>
  f_X12_worthAt_64 N zk4 zv0 zv2 zv3 zt6 zv2 zt1 zh)
def f_X12_worthAt_4 (N : Nat) (zk4 : (Nat × Int32 × Int32 × PH) → Option (Int32 × PH)) (zv0 : Nat) (zv2 : Int32) (zv3 : Int32) (zh : PH) : Option (Int32 × PH) :=
  gb (gfR 12 11 zv0 zh) fun zt1 =>
  gb (arI 0 zt1 zv3 zh) fun zt2 =>
  if (zt2 : Int32) = 0 then (
  gb (gfR 12 16 zv0 zh) fun zt4 =>
  gb (arI 0 zt4 0 zh) fun zt5 =>
  some (zt5, zh))
  else (
  gb (gfR 12 11 zv0 zh) fun zt6 =>
  gb (arI 0 zt6 zv3 zh) fun zt7 =>
  if (zt7 : Int32) = 1 then (
  f_X12_worthAt_33 N zk4 zv0 zv2 zv3 zt7 zh)
  else (
  if (zt7 : Int32) = 2 then (
  f_X12_worthAt_33 N zk4 zv0 zv2 zv3 zt7 zh)
  else (
  if (zt7 : Int32) = 3 then (
  gb (gfR 12 16 zv0 zh) fun zt20 =>
  gb (gfR 12 16 zv0 zh) fun zt21 =>
  gb (arI 0 zt21 (zv2 - 1) zh) fun zt22 =>
  if (zt22 : Int32) = 0 then (
  f_X12_worthAt_100 N zk4 zv0 zv2 zv3 1 (zv2 - 1) zt20 zh)
  else (
  f_X12_worthAt_100 N zk4 zv0 zv2 zv3 0 (zv2 - 1) zt20 zh))
  else (
  gl (zv2 + (-1)) fun (zx11 : Int32) =>
  gb (gfR 12 16 zv0 zh) fun zt12 =>
  gb (gfR 12 16 zv0 zh) fun zt13 =>
  gb (arI 0 zt13 (zx11 - 1) zh) fun zt14 =>
  gb (gfR 12 16 zv0 zh) fun zt15 =>
  gb (arI 0 zt15 zx11 zh) fun zt16 =>
  gc (f_X12_both N zt7 zt14 zt16 zh) fun zt18 zh17 =>
  gb (asI 0 zt12 (zx11 - 1) zt18 zh17) fun zh19 =>
  f_X12_worthAt_134 N zk4 zv0 zx11 zv3 zh19))))
def f_X12_worthAt (N : Nat) (za0 : Nat) (za1 : Int32) (zh : PH) : Option (Int32 × PH) :=
  gi (fun zk zs => f_X12_worthAt_4 N zk zs.1 zs.2.1 zs.2.2.1 zs.2.2.2) N (za0, 0, za1, zh)
def f_X12_rooms (N : Nat) (za0 : Nat) (zh : PH) : Option (Int32 × PH) :=
  gb (gfR 12 10 za0 zh) fun zt1 =>
  gb (arI 0 zt1 0 zh) fun zt2 =>
  some (zt2, zh)
def f_X12_guests (N : Nat) (za0 : Nat) (zh : PH) : Option (Int32 × PH) :=
  gb (gfR 12 10 za0 zh) fun zt1 =>
  gb (arI 0 zt1 1 zh) fun zt2 =>
  some (zt2, zh)
def f_X12_floorOf_18 (N : Nat) (zs0 : Int32) (zh : PH) : Option (Int32 × PH) :=
  some (zs0, zh)
def f_X12_floorOf (N : Nat) (za0 : Nat) (za1 : Int32) (zh : PH) : Option (Int32 × PH) :=
  if (0 : Int32) ≤ za1 then (
  gb (gfR 12 10 za0 zh) fun zt2 =>
  gb (arI 0 zt2 (3 + (2 * za1)) zh) fun zt3 =>
  f_X12_floorOf_18 N zt3 zh)
  else (
  f_X12_floorOf_18 N 0 zh)
def f_X12_guestOf (N : Nat) (za0 : Nat) (za1 : Int32) (za2 : Int32) (zh : PH) : Option (Int32 × PH) :=
  gb (gfR 12 10 za0 zh) fun zt1 =>
  gb (arI 0 zt1 ((23 + (3 * za1)) + za2) zh) fun zt2 =>
  some (zt2, zh)
def f_X12_isRoom_17 (N : Nat) (zs0 : Int32) (zh : PH) : Option (Int32 × PH) :=
  gg (gzb zs0) (some (zs0, zh))
def f_X12_isRoom_16 (N : Nat) (zh : PH) : Option (Int32 × PH) :=
  f_X12_isRoom_17 N 0 zh
def f_X12_isRoom (N : Nat) (za0 : Nat) (za1 : Int32) (zh : PH) : Option (Int32 × PH) :=
  if (za1 : Int32) < 0 then (
  f_X12_isRoom_16 N  zh)
  else (
  gg (gIs 12 za0 zh) <|
  gc (f_X12_rooms N za0 zh) fun zt3 zh2 =>
  if (zt3 : Int32) ≤ za1 then (
  f_X12_isRoom_16 N  zh2)
  else (
  f_X12_isRoom_17 N 1 zh2))
def f_X12_isGuest_17 (N : Nat) (zs0 : Int32) (zh : PH) : Option (Int32 × PH) :=
  gg (gzb zs0) (some (zs0, zh))
def f_X12_isGuest_16 (N : Nat) (zh : PH) : Option (Int32 × PH) :=
  f_X12_isGuest_17 N 0 zh
def f_X12_isGuest (N : Nat) (za0 : Nat) (za1 : Int32) (zh : PH) : Option (Int32 × PH) :=
  if (za1 : Int32) < 0 then (
  f_X12_isGuest_16 N  zh)
  else (
  gg (gIs 12 za0 zh) <|
  gc (f_X12_guests N za0 zh) fun zt3 zh2 =>
  if (zt3 : Int32) ≤ za1 then (
  f_X12_isGuest_16 N  zh2)
  else (
  f_X12_isGuest_17 N 1 zh2))
def f_X12_isRule_17 (N : Nat) (zs0 : Int32) (zh : PH) : Option (Int32 × PH) :=
  gg (gzb zs0) (some (zs0, zh))
def f_X12_isRule_16 (N : Nat) (zh : PH) : Option (Int32 × PH) :=
  f_X12_isRule_17 N 0 zh
def f_X12_isRule (N : Nat) (za0 : Nat) (za1 : Int32) (zh : PH) : Option (Int32 × PH) :=
  if (za1 : Int32) < 0 then (
  f_X12_isRule_16 N  zh)
  else (
  gg (gIs 12 za0 zh) <|
  gc (f_X12_rules N za0 zh) fun zt3 zh2 =>
  if (zt3 : Int32) ≤ za1 then (
  f_X12_isRule_16 N  zh2)
  else (
  f_X12_isRule_17 N 1 zh2))
def f_X12_floors_22 (N : Nat) (zs0 : Int32) (zh : PH) : Option (Int32 × PH) :=
  some (zs0, zh)
def f_X12_floors (N : Nat) (za0 : Nat) (za1 : Int32) (za2 : Int32) (zh : PH) : Option (Int32 × PH) :=
  gg (gIs 12 za0 zh) <|
  gc (f_X12_floorOf N za0 za1 zh) fun zt2 zh1 =>
  gg (gIs 12 za0 zh1) <|
  gc (f_X12_floorOf N za0 za2 zh1) fun zt4 zh3 =>
  gl ((zt2 - zt4)) fun (zx5 : Int32) =>
  if (0 : Int32) ≤ zx5 then (
  f_X12_floors_22 N zx5 zh3)
  else (
  f_X12_floors_22 N (-zx5) zh3)
def f_X12_events (N : Nat) (za0 : Nat) (zh : PH) : Option (Int32 × PH) :=
  gb (gfR 12 17 za0 zh) fun zt1 =>
  gb (arI 0 zt1 1 zh) fun zt2 =>
  some (zt2, zh)
def f_X12_eventOf (N : Nat) (za0 : Nat) (za1 : Int32) (za2 : Int32) (zh : PH) : Option (Int32 × PH) :=
  gb (gfR 12 17 za0 zh) fun zt1 =>
  gb (arI 0 zt1 ((2 + (4 * za1)) + za2) zh) fun zt2 =>
  some (zt2, zh)
def f_X12_begins_2 (N : Nat) (zk2 : (Nat × Int32 × PH) → Option PH) (zv0 : Nat) (zv1 : Int32) (zh : PH) : Option PH :=
  if (10 : Int32) ≤ zv1 then (
  gb (pfV 12 23 zv0 (.int 0) zh) fun zh2 =>
  gb (pfV 12 24 zv0 (.int 0) zh2) fun zh3 =>
  gb (pfV 12 25 zv0 (.int 0) zh3) fun zh4 =>
  gb (pfV 12 26 zv0 (.int 0) zh4) fun zh5 =>
  gb (pfV 12 27 zv0 (.int 0) zh5) fun zh6 =>
  gb (pfV 12 28 zv0 (.int 0) zh6) fun zh7 =>
  some zh7)
  else (
  gb (gfR 12 19 zv0 zh) fun zt8 =>
  gb (asI 0 zt8 zv1 (-1) zh) fun zh9 =>
  gb (gfR 12 20 zv0 zh9) fun zt10 =>
  gb (asI 0 zt10 zv1 0 zh9) fun zh11 =>
  gb (gfR 12 21 zv0 zh11) fun zt12 =>
  gb (asI 0 zt12 zv1 0 zh11) fun zh13 =>
  gb (gfR 12 22 zv0 zh13) fun zt14 =>
  gb (asI 3 zt14 zv1 0 zh13) fun zh15 =>
  gl (zv1 + 1) fun (zx16 : Int32) =>
  zk2 (zv0, zx16, zh15))
def f_X12_begins (N : Nat) (za0 : Nat) (zh : PH) : Option PH :=
  gi (fun zk zs => f_X12_begins_2 N zk zs.1 zs.2.1 zs.2.2) N (za0, 0, zh)
def f_X12_goes_258 (N : Nat) (zh : PH) : Option PH :=
  some zh
def f_X12_goes_247 (N : Nat) (zv0 : Nat) (zv1 : Int32) (zv3 : Int32) (zh : PH) : Option PH :=
  if (zv3 : Int32) < 0 then (
  f_X12_goes_258 N  zh)
  else (
  gb (gfR 12 19 zv0 zh) fun zt2 =>
  gb (asI 0 zt2 zv3 zv1 zh) fun zh3 =>
  f_X12_goes_258 N  zh3)
def f_X12_goes_236 (N : Nat) (zv0 : Nat) (zv1 : Int32) (zv2 : Int32) (zv3 : Int32) (zh : PH) : Option PH :=
  if (zv2 : Int32) < 0 then (
  f_X12_goes_247 N zv0 zv1 zv3 zh)
  else (
  gb (gfR 12 19 zv0 zh) fun zt2 =>
  gb (asI 0 zt2 zv2 (-1) zh) fun zh3 =>
  f_X12_goes_247 N zv0 zv1 zv3 zh3)
def f_X12_goes_58 (N : Nat) (zv0 : Nat) (zv1 : Int32) (zv2 : Int32) (zv3 : Int32) (zv4 : Int32) (zs0 : Int32) (zh : PH) : Option PH :=
  gg (gIs 12 zv0 zh) <|
  gc (f_X12_floors N zv0 zv2 zv3 zh) fun zt2 zh1 =>
  gl ((zs0 + (10 * zt2))) fun (zx3 : Int32) =>
  gb (gfI 12 28 zv0 zh1) fun zt4 =>
  gl ((5 * zt4)) fun (zx5 : Int32) =>
  gb (gfR 12 29 zv0 zh1) fun zt6 =>
  gb (asI 0 zt6 zx5 zv1 zh1) fun zh7 =>
  gb (gfR 12 29 zv0 zh7) fun zt8 =>
  gb (asI 0 zt8 (zx5 + 1) zv2 zh7) fun zh9 =>
  gb (gfR 12 29 zv0 zh9) fun zt10 =>
  gb (asI 0 zt10 (zx5 + 2) zv3 zh9) fun zh11 =>
  gb (gfR 12 29 zv0 zh11) fun zt12 =>
  gb (gfI 12 27 zv0 zh11) fun zt13 =>
  gb (asI 0 zt12 (zx5 + 3) zt13 zh11) fun zh14 =>
  gb (gfR 12 29 zv0 zh14) fun zt15 =>
  gb (gfI 12 27 zv0 zh14) fun zt16 =>
  gb (asI 0 zt15 (zx5 + 4) (zt16 + zv4) zh14) fun zh17 =>
  gb (gfI 12 28 zv0 zh17) fun zt18 =>
  gb (pfV 12 28 zv0 (.int (zt18 + 1)) zh17) fun zh19 =>
  gb (gfI 12 27 zv0 zh19) fun zt20 =>
  gb (pfV 12 27 zv0 (.int (zt20 + zv4)) zh19) fun zh21 =>
  gb (gfI 12 26 zv0 zh21) fun zt22 =>
  gb (pfV 12 26 zv0 (.int (zt22 + zv4)) zh21) fun zh23 =>
  gb (gfI 12 23 zv0 zh23) fun zt24 =>
  gb (pfV 12 23 zv0 (.int (zt24 + zx3)) zh23) fun zh25 =>
  gb (gfR 12 21 zv0 zh25) fun zt26 =>
  gb (arI 0 zt26 zv1 zh25) fun zt27 =>
  gb (asI 0 zt26 zv1 (zt27 + zx3) zh25) fun zh28 =>
  if (zv2 : Int32) < 0 then (
  f_X12_goes_236 N zv0 zv1 zv2 zv3 zh28)
  else (
  if (zv3 : Int32) < 0 then (
  f_X12_goes_236 N zv0 zv1 zv2 zv3 zh28)
  else (
  gb (gfI 12 25 zv0 zh28) fun zt31 =>
  gb (pfV 12 25 zv0 (.int (zt31 + 1)) zh28) fun zh32 =>
  gb (gfR 12 20 zv0 zh32) fun zt33 =>
  gb (arI 0 zt33 zv1 zh32) fun zt34 =>
  gb (asI 0 zt33 zv1 (zt34 + 1) zh32) fun zh35 =>
  gb (gfI 12 24 zv0 zh35) fun zt36 =>
  gg (gIs 12 zv0 zh35) <|
  gc (f_X12_guestOf N zv0 zv1 1 zh35) fun zt38 zh37 =>
  gb (pfV 12 24 zv0 (.int (zt36 + zt38)) zh37) fun zh39 =>
  f_X12_goes_236 N zv0 zv1 zv2 zv3 zh39))
def f_X12_goes_39 (N : Nat) (zv0 : Nat) (zv1 : Int32) (zv2 : Int32) (zv3 : Int32) (zv4 : Int32) (zs0 : Int32) (zh : PH) : Option PH :=
  f_X12_goes_58 N zv0 zv1 zv2 zv3 zv4 (zs0 + 1) zh
def f_X12_goes_30 (N : Nat) (zv0 : Nat) (zv1 : Int32) (zv2 : Int32) (zv3 : Int32) (zv4 : Int32) (zh : PH) : Option PH :=
  if (0 : Int32) ≤ zv2 then (
  f_X12_goes_39 N zv0 zv1 zv2 zv3 zv4 zv2 zh)
  else (
  f_X12_goes_39 N zv0 zv1 zv2 zv3 zv4 zv3 zh)
def f_X12_goes (N : Nat) (za0 : Nat) (za1 : Int32) (za2 : Int32) (za3 : Int32) (zh : PH) : Option PH :=
  gg (gIs 12 za0 zh) <|
  gc (f_X12_floors N za0 za2 za3 zh) fun zt2 zh1 =>
  gg (gIs 12 za0 zh1) <|
  gc (f_X12_guestOf N za0 za1 0 zh1) fun zt4 zh3 =>
  gl (((1 + (2 * zt2)) + (zt4 / 10))) fun (zx5 : Int32) =>
  if (za2 : Int32) < 0 then (
  f_X12_goes_30 N za0 za1 za2 za3 zx5 zh3)
  else (
  if (0 : Int32) ≤ za3 then (
  if (za3 : Int32) ≤ za2 then (
  f_X12_goes_58 N za0 za1 za2 za3 zx5 (za2 - za3) zh3)
  else (
  f_X12_goes_58 N za0 za1 za2 za3 zx5 (za3 - za2) zh3))
  else (
  f_X12_goes_30 N za0 za1 za2 za3 zx5 zh3))
def f_X12_firstEmpty_25 (N : Nat) (zv1 : Int32) (zh : PH) : Option (Int32 × PH) :=
  some (zv1, zh)
def f_X12_firstEmpty_2 (N : Nat) (zk2 : (Nat × Int32 × PH) → Option (Int32 × PH)) (zv0 : Nat) (zv1 : Int32) (zh : PH) : Option (Int32 × PH) :=
  gg (gIs 12 zv0 zh) <|
  gc (f_X12_rooms N zv0 zh) fun zt2 zh1 =>
  if (zt2 : Int32) ≤ zv1 then (
  f_X12_firstEmpty_25 N zv1 zh1)
  else (
  gb (gfR 12 19 zv0 zh1) fun zt4 =>
  gb (arI 0 zt4 zv1 zh1) fun zt5 =>
  if (zt5 : Int32) < 0 then (
  f_X12_firstEmpty_25 N zv1 zh1)
  else (
  gl (zv1 + 1) fun (zx7 : Int32) =>
  zk2 (zv0, zx7, zh1)))
def f_X12_firstEmpty (N : Nat) (za0 : Nat) (zh : PH) : Option (Int32 × PH) :=
  gi (fun zk zs => f_X12_firstEmpty_2 N zk zs.1 zs.2.1 zs.2.2) N (za0, 0, zh)
def f_X12_comes_12 (N : Nat) (zk12 : (Nat × Int32 × Int32 × PH) → Option PH) (zv0 : Nat) (zv1 : Int32) (zv2 : Int32) (zh : PH) : Option PH :=
  if (zv2 : Int32) ≤ 0 then (
  gg (gIs 12 zv0 zh) <|
  gb (f_X12_goes N zv0 zv1 (-1) 0 zh) fun zh2 =>
  some zh2)
  else (
  gb (gfR 12 19 zv0 zh) fun zt3 =>
  gb (arI 0 zt3 (zv2 - 1) zh) fun zt4 =>
  gg (gIs 12 zv0 zh) <|
  gb (f_X12_goes N zv0 zt4 (zv2 - 1) zv2 zh) fun zh5 =>
  gl (zv2 + (-1)) fun (zx6 : Int32) =>
  zk12 (zv0, zv1, zx6, zh5))
def f_X12_comes (N : Nat) (za0 : Nat) (za1 : Int32) (zh : PH) : Option PH :=
  gb (gfR 12 22 za0 zh) fun zt1 =>
  gb (asI 3 zt1 za1 1 zh) fun zh2 =>
  gg (gIs 12 za0 zh2) <|
  gc (f_X12_firstEmpty N za0 zh2) fun zt4 zh3 =>
  gi (fun zk zs => f_X12_comes_12 N zk zs.1 zs.2.1 zs.2.2.1 zs.2.2.2) N (za0, za1, zt4, zh3)
def f_X12_roomOf_2 (N : Nat) (zk2 : (Nat × Int32 × Int32 × PH) → Option (Int32 × PH)) (zv0 : Nat) (zv1 : Int32) (zv2 : Int32) (zh : PH) : Option (Int32 × PH) :=
  gg (gIs 12 zv0 zh) <|
  gc (f_X12_rooms N zv0 zh) fun zt2 zh1 =>
  if (zt2 : Int32) ≤ zv2 then (
  some ((-1), zh1))
  else (
  gb (gfR 12 19 zv0 zh1) fun zt4 =>
  gb (arI 0 zt4 zv2 zh1) fun zt5 =>
  if (zt5 : Int32) = zv1 then (
  some (zv2, zh1))
  else (
  gl (zv2 + 1) fun (zx7 : Int32) =>
  zk2 (zv0, zv1, zx7, zh1)))
def f_X12_roomOf (N : Nat) (za0 : Nat) (za1 : Int32) (zh : PH) : Option (Int32 × PH) :=
  gi (fun zk zs => f_X12_roomOf_2 N zk zs.1 zs.2.1 zs.2.2.1 zs.2.2.2) N (za0, za1, 0, zh)
def f_X12_givesFor (N : Nat) (za0 : Nat) (za1 : Int32) (za2 : Int32) (za3 : Int32) (za4 : Int32) (zh : PH) : Option (Int32 × PH) :=
  gb (gfR 12 15 za0 zh) fun zt1 =>
  gg (gIs 12 za0 zh) <|
  gc (f_X12_guestOf N za0 za2 0 zh) fun zt3 zh2 =>
  gb (asI 0 zt1 0 zt3 zh2) fun zh4 =>
  gb (gfR 12 15 za0 zh4) fun zt5 =>
  gg (gIs 12 za0 zh4) <|
  gc (f_X12_guestOf N za0 za2 1 zh4) fun zt7 zh6 =>
  gb (asI 0 zt5 1 zt7 zh6) fun zh8 =>
  gb (gfR 12 15 za0 zh8) fun zt9 =>
  gg (gIs 12 za0 zh8) <|
  gc (f_X12_guestOf N za0 za2 2 zh8) fun zt11 zh10 =>
  gb (asI 0 zt9 2 zt11 zh10) fun zh12 =>
  gb (gfR 12 15 za0 zh12) fun zt13 =>
  gb (asI 0 zt13 3 za3 zh12) fun zh14 =>
  gb (gfR 12 15 za0 zh14) fun zt15 =>
  gb (asI 0 zt15 4 za4 zh14) fun zh16 =>
  gb (gfR 12 15 za0 zh16) fun zt17 =>
  gg (gIs 12 za0 zh16) <|
  gc (f_X12_floors N za0 za3 za4 zh16) fun zt19 zh18 =>
  gb (asI 0 zt17 5 zt19 zh18) fun zh20 =>
  gb (gfR 12 15 za0 zh20) fun zt21 =>
  gb (gfR 12 10 za0 zh20) fun zt22 =>
  gb (arI 0 zt22 ((3 + (2 * za4)) + 1) zh20) fun zt23 =>
  gb (asI 0 zt21 6 zt23 zh20) fun zh24 =>
  gb (gfR 12 15 za0 zh24) fun zt25 =>
  gb (gfR 12 20 za0 zh24) fun zt26 =>
  gb (arI 0 zt26 za2 zh24) fun zt27 =>
  gb (asI 0 zt25 7 zt27 zh24) fun zh28 =>
  gb (gfR 12 10 za0 zh28) fun zt29 =>
  gb (arI 0 zt29 (53 + za1) zh28) fun zt30 =>
  gg (gIs 12 za0 zh28) <|
  gc (f_X12_worthAt N za0 zt30 zh28) fun zt32 zh31 =>
  some (zt32, zh31)
