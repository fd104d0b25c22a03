def f_X11_order_127 (N : Nat) (zs0 : Int32) (zh : PH) : Option (Int32 × PH) :=
  some (zs0, zh)
def f_X11_order_124 (N : Nat) (zs0 : Int32) (zs1 : Int32) (zs2 : Int32) (zs3 : Nat) (zh : PH) : Option (Int32 × PH) :=
  gg (gIs 11 zs3 zh) <|
  gc (f_X11_movesByArrivals N zs3 zs2 zs1 zs0 zh) fun zt2 zh1 =>
  f_X11_order_127 N zt2 zh1
def f_X11_order_90 (N : Nat) (zv0 : Nat) (zv1 : Int32) (zv2 : Int32) (zv3 : Int32) (zh : PH) : Option (Int32 × PH) :=
  gg (gIs 11 zv0 zh) <|
  gb (f_X11_planArrivals N zv0 zv1 zh) fun zh1 =>
  if (zv2 : Int32) < 2 then (
  if (zv2 : Int32) = 1 then (
  f_X11_order_124 N 1 zv3 zv1 zv0 zh1)
  else (
  f_X11_order_124 N 0 zv3 zv1 zv0 zh1))
  else (
  gb (gfR 11 7 zv0 zh1) fun zt4 =>
  gb (arI 0 zt4 (zv2 - 2) zh1) fun zt5 =>
  f_X11_order_127 N zt5 zh1)
def f_X11_order_58 (N : Nat) (zh : PH) : Option (Int32 × PH) :=
  some ((-1), zh)
def f_X11_order_30 (N : Nat) (zh : PH) : Option (Int32 × PH) :=
  some ((-1), zh)
def f_X11_order (N : Nat) (za0 : Nat) (za1 : Int32) (za2 : Int32) (zh : PH) : Option (Int32 × PH) :=
  gb (gfR 11 3 za0 zh) fun zt1 =>
  gb (gfI 9 7 zt1 zh) fun zt2 =>
  gc (f_J6_bitCount_0f7a4 N zt2 zh) fun zt4 zh3 =>
  gg (gIs 11 za0 zh3) <|
  gc (f_X11_isGuest N za0 za1 zh3) fun zt6 zh5 =>
  if (zt6 : Int32) = 0 then (
  f_X11_order_30 N  zh5)
  else (
  if (za2 : Int32) < 0 then (
  f_X11_order_30 N  zh5)
  else (
  if (za2 : Int32) < (2 + zt4) then (
  if (zt4 : Int32) = 0 then (
  f_X11_order_58 N  zh5)
  else (
  gb (gfR 11 9 za0 zh5) fun zt11 =>
  gb (gfI 2 0 zt11 zh5) fun zt12 =>
  gb (gfR 11 3 za0 zh5) fun zt13 =>
  gb (gfR 9 1 zt13 zh5) fun zt14 =>
  gg (gIs 1 zt14 zh5) <|
  gc (f_X1_guestsIn N zt14 zh5) fun zt16 zh15 =>
  if (zt4 : Int32) ≤ (zt12 - zt16) then (
  gb (gfR 11 3 za0 zh15) fun zt18 =>
  gb (gfR 9 1 zt18 zh15) fun zt19 =>
  gg (gIs 1 zt19 zh15) <|
  gc (f_X1_isIn N zt19 za1 zh15) fun zt21 zh20 =>
  if (zt21 : Int32) = 0 then (
  gb (gfR 11 3 za0 zh20) fun zt23 =>
  gb (gfI 9 7 zt23 zh20) fun zt24 =>
  gc (f_X11_bitOf N zt24 za1 zh20) fun zt26 zh25 =>
  if (zt26 : Int32) = 0 then (
  some ((-1), zh25))
  else (
  f_X11_order_90 N za0 za1 za2 zt4 zh25))
  else (
  f_X11_order_90 N za0 za1 za2 zt4 zh20))
  else (
  f_X11_order_58 N  zh15)))
  else (
  f_X11_order_30 N  zh5)))
def f_X11_tried_15 (N : Nat) (zv0 : Nat) (zv1 : Int32) (zv2 : Int32) (zh : PH) : Option (Int32 × PH) :=
  gb (gfR 11 3 zv0 zh) fun zt1 =>
  gg (gIs 9 zt1 zh) <|
  gc (f_X9_trialOf N zt1 zv1 zh) fun zt3 zh2 =>
  if (zv2 : Int32) = 0 then (
  gb (gfI 1 4 zt3 zh2) fun zt5 =>
  some (zt5, zh2))
  else (
  if (zv2 : Int32) = 1 then (
  gb (gfI 1 5 zt3 zh2) fun zt7 =>
  some (zt7, zh2))
  else (
  if (zv2 : Int32) = 2 then (
  gg (gIs 1 zt3 zh2) <|
  gc (f_X1_spreadOfMoves N zt3 zh2) fun zt10 zh9 =>
  some (zt10, zh9))
  else (
  some ((-1), zh2))))
def f_X11_tried (N : Nat) (za0 : Nat) (za1 : Int32) (za2 : Int32) (zh : PH) : Option (Int32 × PH) :=
  if (za1 : Int32) = (-1) then (
  f_X11_tried_15 N za0 za1 za2 zh)
  else (
  gg (gIs 11 za0 zh) <|
  gc (f_X11_isRule N za0 za1 zh) fun zt3 zh2 =>
  if (zt3 : Int32) = 0 then (
  some ((-1), zh2))
  else (
  f_X11_tried_15 N za0 za1 za2 zh2))
def f_X11_best_44 (N : Nat) (zk4 : (Nat × Int32 × Int32 × PH) → Option (Int32 × PH)) (zv0 : Nat) (zv1 : Int32) (zv2 : Int32) (zh : PH) : Option (Int32 × PH) :=
  gl (zv2 + 1) fun (zx1 : Int32) =>
  zk4 (zv0, zv1, zx1, zh)
def f_X11_best_42 (N : Nat) (zk4 : (Nat × Int32 × Int32 × PH) → Option (Int32 × PH)) (zv0 : Nat) (zv2 : Int32) (zh : PH) : Option (Int32 × PH) :=
  f_X11_best_44 N zk4 zv0 zv2 zv2 zh
def f_X11_best_4 (N : Nat) (zk4 : (Nat × Int32 × Int32 × PH) → Option (Int32 × PH)) (zv0 : Nat) (zv1 : Int32) (zv2 : Int32) (zh : PH) : Option (Int32 × PH) :=
  gb (gfR 11 9 zv0 zh) fun zt1 =>
  gb (gfI 2 2 zt1 zh) fun zt2 =>
  if (zt2 : Int32) ≤ zv2 then (
  some (zv1, zh))
  else (
  if (zv1 : Int32) = (-1) then (
  f_X11_best_42 N zk4 zv0 zv2 zh)
  else (
  gb (gfR 11 3 zv0 zh) fun zt5 =>
  gg (gIs 9 zt5 zh) <|
  gc (f_X9_trialOf N zt5 zv2 zh) fun zt7 zh6 =>
  gb (gfR 11 3 zv0 zh6) fun zt8 =>
  gg (gIs 9 zt8 zh6) <|
  gc (f_X9_trialOf N zt8 zv1 zh6) fun zt10 zh9 =>
  gg (gIs 1 zt7 zh9) <|
  gc (f_X1_isBetterThan N zt7 zt10 zh9) fun zt12 zh11 =>
  if (zt12 : Int32) = 0 then (
  f_X11_best_44 N zk4 zv0 zv1 zv2 zh11)
  else (
  f_X11_best_42 N zk4 zv0 zv2 zh11)))
def f_X11_best (N : Nat) (za0 : Nat) (zh : PH) : Option (Int32 × PH) :=
  gi (fun zk zs => f_X11_best_4 N zk zs.1 zs.2.1 zs.2.2.1 zs.2.2.2) N (za0, (-1), 0, zh)
def f_X11_goBackTo_20 (N : Nat) (zh : PH) : Option (Int32 × PH) :=
  gg (gzb 0) (some (0, zh))
def f_X11_goBackTo (N : Nat) (za0 : Nat) (za1 : Int32) (zh : PH) : Option (Int32 × PH) :=
  gb (gfI 11 11 za0 zh) fun zt1 =>
  gc (f_X11_bitOf N zt1 za1 zh) fun zt3 zh2 =>
  if (zt3 : Int32) = 0 then (
  f_X11_goBackTo_20 N  zh2)
  else (
  gb (gfR 11 4 za0 zh2) fun zt5 =>
  gb (arQ 5 zt5 za1 zh2) fun zt6 =>
  gqm zt6 (
  f_X11_goBackTo_20 N  zh2)
  (fun zp7 =>
  gb (gfR 11 3 za0 zh2) fun zt8 =>
  gb (gfR 11 4 za0 zh2) fun zt9 =>
  gb (arR 5 zt9 za1 zh2) fun zt10 =>
  gg (gIs 9 zt8 zh2) <|
  gb (f_X9_copyFrom N zt8 zt10 zh2) fun zh11 =>
  gg (gzb 1) (some (1, zh11))))
def f_X11_mark_47 (N : Nat) (zv0 : Nat) (zv1 : Int32) (zh : PH) : Option (Int32 × PH) :=
  gb (gfR 11 4 zv0 zh) fun zt1 =>
  gb (arR 5 zt1 zv1 zh) fun zt2 =>
  gb (gfR 11 3 zv0 zh) fun zt3 =>
  gg (gIs 9 zt2 zh) <|
  gb (f_X9_copyFrom N zt2 zt3 zh) fun zh4 =>
  gb (gfI 11 11 zv0 zh4) fun zt5 =>
  gb (pfV 11 11 zv0 (.int (zt5 ||| (1 <<< (zv1 &&& 31)))) zh4) fun zh6 =>
  gg (gzb 1) (some (1, zh6))
def f_X11_mark_9 (N : Nat) (zh : PH) : Option (Int32 × PH) :=
  gg (gzb 0) (some (0, zh))
def f_X11_mark (N : Nat) (za0 : Nat) (za1 : Int32) (za2 : Int32) (zh : PH) : Option (Int32 × PH) :=
  if (za1 : Int32) < 0 then (
  f_X11_mark_9 N  zh)
  else (
  if (za1 : Int32) < 4 then (
  if (za2 : Int32) = 0 then (
  gb (gfR 11 4 za0 zh) fun zt4 =>
  gb (arQ 5 zt4 za1 zh) fun zt5 =>
  gqm zt5 (
  gb (gfR 11 4 za0 zh) fun zt7 =>
  gc (nwO 9 n0X9 zh) fun zr9 zh8 =>
  gb (gfR 11 2 za0 zh8) fun zt10 =>
  gb (f_X9_init N zr9 zt10 zh8) fun zh11 =>
  gb (asQ 5 zt7 9 za1 zr9 zh11) fun zh12 =>
  f_X11_mark_47 N za0 za1 zh12)
  (fun zp6 =>
  f_X11_mark_47 N za0 za1 zh))
  else (
  gg (gIs 11 za0 zh) <|
  gc (f_X11_goBackTo N za0 za1 zh) fun zt14 zh13 =>
  gg (gzb zt14) (some (zt14, zh13))))
  else (
  f_X11_mark_9 N  zh))
def f_X11_count (N : Nat) (za0 : Nat) (za1 : Int32) (zh : PH) : Option (Int32 × PH) :=
  if (za1 : Int32) = 0 then (
  gb (gfR 11 9 za0 zh) fun zt2 =>
  gb (gfI 2 0 zt2 zh) fun zt3 =>
  some (zt3, zh))
  else (
  if (za1 : Int32) = 1 then (
  gb (gfR 11 9 za0 zh) fun zt5 =>
  gb (gfI 2 1 zt5 zh) fun zt6 =>
  some (zt6, zh))
  else (
  if (za1 : Int32) = 2 then (
  gb (gfR 11 9 za0 zh) fun zt8 =>
  gb (gfI 2 2 zt8 zh) fun zt9 =>
  some (zt9, zh))
  else (
  if (za1 : Int32) = 3 then (
  gb (gfR 11 3 za0 zh) fun zt11 =>
  gb (gfR 9 1 zt11 zh) fun zt12 =>
  gg (gIs 1 zt12 zh) <|
  gc (f_X1_guestsIn N zt12 zh) fun zt14 zh13 =>
  some (zt14, zh13))
  else (
  if (za1 : Int32) = 4 then (
  gb (gfR 11 3 za0 zh) fun zt16 =>
  gb (gfI 9 8 zt16 zh) fun zt17 =>
  some (zt17, zh))
  else (
  if (za1 : Int32) = 5 then (
  gb (gfR 11 3 za0 zh) fun zt19 =>
  gb (gfR 9 4 zt19 zh) fun zt20 =>
  gb (gfI 8 5 zt20 zh) fun zt21 =>
  some (zt21, zh))
  else (
  if (za1 : Int32) = 6 then (
  gb (gfR 11 3 za0 zh) fun zt23 =>
  gb (gfR 9 5 zt23 zh) fun zt24 =>
  gg (gIs 6 zt24 zh) <|
  gc (f_X6_pages N zt24 zh) fun zt26 zh25 =>
  some (zt26, zh25))
  else (
  if (za1 : Int32) = 7 then (
  gb (gfR 11 3 za0 zh) fun zt28 =>
  gb (gfR 9 6 zt28 zh) fun zt29 =>
  gb (gfI 4 3 zt29 zh) fun zt30 =>
  some (zt30, zh))
  else (
  if (za1 : Int32) = 8 then (
  gb (gfR 11 3 za0 zh) fun zt32 =>
  gb (gfI 9 7 zt32 zh) fun zt33 =>
  gc (f_J6_bitCount_0f7a4 N zt33 zh) fun zt35 zh34 =>
  some (zt35, zh34))
  else (
  if (za1 : Int32) = 9 then (
  gb (gfR 11 3 za0 zh) fun zt37 =>
  gb (gfI 9 10 zt37 zh) fun zt38 =>
  some (zt38, zh))
  else (
  if (za1 : Int32) = 10 then (
  gb (gfR 11 0 za0 zh) fun zt40 =>
  gg (gIs 10 zt40 zh) <|
  gc (f_X10_length N zt40 zh) fun zt42 zh41 =>
  some (zt42, zh41))
  else (
  some ((-1), zh))))))))))))
def f_X12_thrown (N : Nat) (za0 : Nat) (zh : PH) : Option (Int32 × PH) :=
  gb (gfI 12 0 za0 zh) fun zt1 =>
  some (zt1, zh)
def f_X12_lay_69 (N : Nat) (zk3 : (Nat × Int64 × Int32 × PH) → Option PH) (zv0 : Nat) (zv1 : Int64) (zv3 : Int32) (zh : PH) : Option PH :=
  gl (zv3 + (-8)) fun (zx1 : Int32) =>
  zk3 (zv0, zv1, zx1, zh)
def f_X12_lay_38 (N : Nat) (zk3 : (Nat × Int64 × Int32 × PH) → Option PH) (zv0 : Nat) (zv1 : Int64) (zv3 : Int32) (zv4 : Int32) (zh : PH) : Option PH :=
  gb (gfI 12 2 zv0 zh) fun zt1 =>
  if (1000 : Int32) ≤ zt1 then (
  f_X12_lay_69 N zk3 zv0 zv1 zv3 zh)
  else (
  gb (gfR 12 1 zv0 zh) fun zt3 =>
  gb (gfI 12 2 zv0 zh) fun zt4 =>
  gb (asI 0 zt3 zt4 zv4 zh) fun zh5 =>
  gb (gfI 12 2 zv0 zh5) fun zt6 =>
  gb (pfV 12 2 zv0 (.int (zt6 + 1)) zh5) fun zh7 =>
  f_X12_lay_69 N zk3 zv0 zv1 zv3 zh7)
def f_X12_lay_3 (N : Nat) (zk3 : (Nat × Int64 × Int32 × PH) → Option PH) (zv0 : Nat) (zv1 : Int64) (zv3 : Int32) (zh : PH) : Option PH :=
  if (zv3 : Int32) < 0 then (
  some zh)
  else (
  gl (((Int64.toInt32 (zv1 >>> (Int32.toInt64 zv3 &&& 63))) &&& 255)) fun (zx2 : Int32) =>
  if (zx2 : Int32) = 10 then (
  f_X12_lay_38 N zk3 zv0 zv1 zv3 zx2 zh)
  else (
  if (zx2 : Int32) < 32 then (
  f_X12_lay_69 N zk3 zv0 zv1 zv3 zh)
  else (
  if (126 : Int32) < zx2 then (
  f_X12_lay_69 N zk3 zv0 zv1 zv3 zh)
  else (
  f_X12_lay_38 N zk3 zv0 zv1 zv3 zx2 zh))))
def f_X12_lay (N : Nat) (za0 : Nat) (za1 : Int64) (zh : PH) : Option PH :=
  gi (fun zk zs => f_X12_lay_3 N zk zs.1 zs.2.1 zs.2.2.1 zs.2.2.2) N (za0, za1, 56, zh)
def f_X12_feed (N : Nat) (za0 : Nat) (za1 : Int64) (za3 : Int64) (za5 : Int64) (zh : PH) : Option (Int32 × PH) :=
  gb (pfV 12 0 za0 (.int 0) zh) fun zh1 =>
  gg (gIs 12 za0 zh1) <|
  gb (f_X12_lay N za0 za1 zh1) fun zh2 =>
  gg (gIs 12 za0 zh2) <|
  gb (f_X12_lay N za0 za3 zh2) fun zh3 =>
  gg (gIs 12 za0 zh3) <|
  gb (f_X12_lay N za0 za5 zh3) fun zh4 =>
  gb (gfI 12 2 za0 zh4) fun zt5 =>
  some (zt5, zh4)
def f_X12_init (N : Nat) (za0 : Nat) (zh : PH) : Option PH :=
  gc (nwA 0 1000 zh) fun zr2 zh1 =>
  gb (pfV 12 1 za0 (.ref zr2) zh1) fun zh3 =>
  gc (nwA 0 1002 zh3) fun zr5 zh4 =>
  gb (pfV 12 4 za0 (.ref zr5) zh4) fun zh6 =>
  gc (nwA 0 1002 zh6) fun zr8 zh7 =>
  gb (pfV 12 5 za0 (.ref zr8) zh7) fun zh9 =>
  gc (nwA 1 1002 zh9) fun zr11 zh10 =>
  gb (pfV 12 6 za0 (.ref zr11) zh10) fun zh12 =>
  gc (nwA 1 14 zh12) fun zr14 zh13 =>
  gb (asL 1 zr14 0 932857 zh13) fun zh15 =>
  gb (asL 1 zr14 1 14190408 zh15) fun zh16 =>
  gb (asL 1 zr14 2 38424252 zh16) fun zh17 =>
  gb (asL 1 zr14 3 103423 zh17) fun zh18 =>
  gb (asL 1 zr14 4 12777 zh18) fun zh19 =>
  gb (asL 1 zr14 5 940952 zh19) fun zh20 =>
  gb (asL 1 zr14 6 19741 zh20) fun zh21 =>
  gb (asL 1 zr14 7 1891 zh21) fun zh22 =>
  gb (asL 1 zr14 8 573 zh22) fun zh23 =>
  gb (asL 1 zr14 9 412740 zh23) fun zh24 =>
  gb (asL 1 zr14 10 9636 zh24) fun zh25 =>
  gb (asL 1 zr14 11 439334689 zh25) fun zh26 =>
  gb (asL 1 zr14 12 36643473 zh26) fun zh27 =>
  gb (asL 1 zr14 13 25154195 zh27) fun zh28 =>
  gb (pfV 12 9 za0 (.ref zr14) zh28) fun zh29 =>
  gc (nwA 0 120 zh29) fun zr31 zh30 =>
  gb (pfV 12 10 za0 (.ref zr31) zh30) fun zh32 =>
  gc (nwA 0 2200 zh32) fun zr34 zh33 =>
  gb (pfV 12 11 za0 (.ref zr34) zh33) fun zh35 =>
  gc (nwA 0 2200 zh35) fun zr37 zh36 =>
  gb (pfV 12 12 za0 (.ref zr37) zh36) fun zh38 =>
  gc (nwA 1 10 zh38) fun zr40 zh39 =>
  gb (pfV 12 14 za0 (.ref zr40) zh39) fun zh41 =>
  gc (nwA 0 8 zh41) fun zr43 zh42 =>
  gb (pfV 12 15 za0 (.ref zr43) zh42) fun zh44 =>
  gc (nwA 0 1100 zh44) fun zr46 zh45 =>
  gb (pfV 12 16 za0 (.ref zr46) zh45) fun zh47 =>
  gc (nwA 0 2600 zh47) fun zr49 zh48 =>
  gb (pfV 12 17 za0 (.ref zr49) zh48) fun zh50 =>
  gc (nwA 0 10 zh50) fun zr52 zh51 =>
  gb (pfV 12 19 za0 (.ref zr52) zh51) fun zh53 =>
  gc (nwA 0 10 zh53) fun zr55 zh54 =>
  gb (pfV 12 20 za0 (.ref zr55) zh54) fun zh56 =>
  gc (nwA 0 10 zh56) fun zr58 zh57 =>
  gb (pfV 12 21 za0 (.ref zr58) zh57) fun zh59 =>
  gc (nwA 3 10 zh59) fun zr61 zh60 =>
  gb (pfV 12 22 za0 (.ref zr61) zh60) fun zh62 =>
  gc (nwA 0 5500 zh62) fun zr64 zh63 =>
  gb (pfV 12 29 za0 (.ref zr64) zh63) fun zh65 =>
  gc (nwA 1 1024 zh65) fun zr67 zh66 =>
  gb (pfV 12 31 za0 (.ref zr67) zh66) fun zh68 =>
  gc (nwA 0 7 zh68) fun zr70 zh69 =>
  gb (pfV 12 32 za0 (.ref zr70) zh69) fun zh71 =>
  gc (nwA 0 7 zh71) fun zr73 zh72 =>
  gb (pfV 12 33 za0 (.ref zr73) zh72) fun zh74 =>
  gc (nwA 0 7 zh74) fun zr76 zh75 =>
  gb (pfV 12 34 za0 (.ref zr76) zh75) fun zh77 =>
  gc (nwA 0 7 zh77) fun zr79 zh78 =>
  gb (pfV 12 35 za0 (.ref zr79) zh78) fun zh80 =>
  gc (nwA 0 7 zh80) fun zr82 zh81 =>
  gb (pfV 12 41 za0 (.ref zr82) zh81) fun zh83 =>
  gc (nwA 3 4 zh83) fun zr85 zh84 =>
  gb (pfV 12 47 za0 (.ref zr85) zh84) fun zh86 =>
  gb (gfR 12 17 za0 zh86) fun zt87 =>
  gb (asI 0 zt87 0 (-1) zh86) fun zh88 =>
  gb (pfV 12 18 za0 (.int 1) zh88) fun zh89 =>
  some zh89
def f_X12_isLetter_17 (N : Nat) (zs0 : Int32) (zh : PH) : Option (Int32 × PH) :=
  gg (gzb zs0) (some (zs0, zh))
def f_X12_isLetter_16 (N : Nat) (zh : PH) : Option (Int32 × PH) :=
  f_X12_isLetter_17 N 0 zh
def f_X12_isLetter (N : Nat) (za0 : Int32) (zh : PH) : Option (Int32 × PH) :=
  if (za0 : Int32) < 97 then (
  f_X12_isLetter_16 N  zh)
  else (
  if (122 : Int32) < za0 then (
  f_X12_isLetter_16 N  zh)
  else (
  f_X12_isLetter_17 N 1 zh))
def f_X12_isDigit_17 (N : Nat) (zs0 : Int32) (zh : PH) : Option (Int32 × PH) :=
  gg (gzb zs0) (some (zs0, zh))
def f_X12_isDigit_16 (N : Nat) (zh : PH) : Option (Int32 × PH) :=
  f_X12_isDigit_17 N 0 zh
def f_X12_isDigit (N : Nat) (za0 : Int32) (zh : PH) : Option (Int32 × PH) :=
  if (za0 : Int32) < 48 then (
  f_X12_isDigit_16 N  zh)
  else (
  if (57 : Int32) < za0 then (
  f_X12_isDigit_16 N  zh)
  else (
  f_X12_isDigit_17 N 1 zh))
def f_X12_rank_18 (N : Nat) (zs0 : Int32) (zh : PH) : Option (Int32 × PH) :=
  some (zs0, zh)
def f_X12_rank (N : Nat) (za0 : Int32) (zh : PH) : Option (Int32 × PH) :=
  gc (f_X12_isLetter N za0 zh) fun zt2 zh1 =>
  if (zt2 : Int32) = 0 then (
  f_X12_rank_18 N (za0 - 21) zh1)
  else (
  f_X12_rank_18 N (za0 - 96) zh1)
def f_X12_isSignOf_53 (N : Nat) (zs0 : Int32) (zh : PH) : Option (Int32 × PH) :=
  gg (gzb zs0) (some (zs0, zh))
def f_X12_isSignOf_48 (N : Nat) (zh : PH) : Option (Int32 × PH) :=
  f_X12_isSignOf_53 N 1 zh
def f_X12_isSignOf (N : Nat) (za0 : Int32) (zh : PH) : Option (Int32 × PH) :=
  if (za0 : Int32) = 40 then (
  f_X12_isSignOf_48 N  zh)
  else (
  if (za0 : Int32) = 41 then (
  f_X12_isSignOf_48 N  zh)
  else (
  if (za0 : Int32) = 59 then (
  f_X12_isSignOf_48 N  zh)
  else (
  if (za0 : Int32) = 61 then (
  f_X12_isSignOf_48 N  zh)
  else (
  if (za0 : Int32) = 60 then (
  f_X12_isSignOf_48 N  zh)
  else (
  if (za0 : Int32) = 43 then (
  f_X12_isSignOf_48 N  zh)
  else (
  if (za0 : Int32) = 45 then (
  f_X12_isSignOf_48 N  zh)
  else (
  if (za0 : Int32) = 42 then (
  f_X12_isSignOf_48 N  zh)
  else (
  f_X12_isSignOf_53 N 0 zh))))))))
def f_X12_cutAll_265 (N : Nat) (zk17 : (Nat × Int32 × Int32 × PH) → Option PH) (zv0 : Nat) (zv1 : Int32) (zv2 : Int32) (zv5 : Int64) (zh : PH) : Option PH :=
  gb (gfR 12 6 zv0 zh) fun zt1 =>
  gb (asL 1 zt1 zv1 zv5 zh) fun zh2 =>
  gl (zv1 + 1) fun (zx3 : Int32) =>
  zk17 (zv0, zx3, zv2, zh2)
def f_X12_cutAll_261 (N : Nat) (zk17 : (Nat × Int32 × Int32 × PH) → Option PH) (zv0 : Nat) (zv1 : Int32) (zv2 : Int32) (zv5 : Int64) (zs0 : Int32) (zs1 : Int32) (zs2 : Nat) (zh : PH) : Option PH :=
  gb (asI 0 zs2 zs1 zs0 zh) fun zh1 =>
  gl (zv2 + 1) fun (zx2 : Int32) =>
  f_X12_cutAll_265 N zk17 zv0 zv1 zx2 zv5 zh1
def f_X12_cutAll_236 (N : Nat) (zk17 : (Nat × Int32 × Int32 × PH) → Option PH) (zv0 : Nat) (zv1 : Int32) (zv2 : Int32) (zv5 : Int64) (zs0 : Int32) (zs1 : Int32) (zs2 : Nat) (zh : PH) : Option PH :=
  gb (asI 0 zs2 zs1 zs0 zh) fun zh1 =>
  f_X12_cutAll_265 N zk17 zv0 zv1 zv2 zv5 zh1
def f_X12_cutAll_218 (N : Nat) (zk17 : (Nat × Int32 × Int32 × PH) → Option PH) (zv0 : Nat) (zv1 : Int32) (zv2 : Int32) (zv4 : Int32) (zv5 : Int64) (zh : PH) : Option PH :=
  gb (gfR 12 4 zv0 zh) fun zt1 =>
  if ((zv2 - zv4) : Int32) ≤ 4 then (
  f_X12_cutAll_236 N zk17 zv0 zv1 zv2 zv5 2 zv1 zt1 zh)
  else (
  f_X12_cutAll_236 N zk17 zv0 zv1 zv2 zv5 4 zv1 zt1 zh)
def f_X12_cutAll_210 (N : Nat) (zk17 : (Nat × Int32 × Int32 × PH) → Option PH) (zk159 : (Nat × Int32 × Int32 × Int32 × Int64 × PH) → Option PH) (zv0 : Nat) (zv1 : Int32) (zv2 : Int32) (zv4 : Int32) (zs0 : Int64) (zh : PH) : Option PH :=
  gl (zv2 + 1) fun (zx1 : Int32) =>
  zk159 (zv0, zv1, zx1, zv4, zs0, zh)
def f_X12_cutAll_159 (N : Nat) (zk17 : (Nat × Int32 × Int32 × PH) → Option PH) (zk159 : (Nat × Int32 × Int32 × Int32 × Int64 × PH) → Option PH) (zv0 : Nat) (zv1 : Int32) (zv2 : Int32) (zv4 : Int32) (zv5 : Int64) (zh : PH) : Option PH :=
  gb (gfI 12 3 zv0 zh) fun zt1 =>
  if (zt1 : Int32) ≤ zv2 then (
  f_X12_cutAll_218 N zk17 zv0 zv1 zv2 zv4 zv5 zh)
  else (
  gb (gfR 12 1 zv0 zh) fun zt3 =>
  gb (arI 0 zt3 zv2 zh) fun zt4 =>
  gc (f_X12_isDigit N zt4 zh) fun zt6 zh5 =>
  if (zt6 : Int32) = 0 then (
  f_X12_cutAll_218 N zk17 zv0 zv1 zv2 zv4 zv5 zh5)
  else (
  if (4 : Int32) ≤ (zv2 - zv4) then (
  f_X12_cutAll_210 N zk17 zk159 zv0 zv1 zv2 zv4 zv5 zh5)
  else (
  gb (gfR 12 1 zv0 zh5) fun zt9 =>
  gb (arI 0 zt9 zv2 zh5) fun zt10 =>
  f_X12_cutAll_210 N zk17 zk159 zv0 zv1 zv2 zv4 (((10 * zv5) + (Int32.toInt64 zt10)) - 48) zh5)))
def f_X12_cutAll_148 (N : Nat) (zk17 : (Nat × Int32 × Int32 × PH) → Option PH) (zv0 : Nat) (zv1 : Int32) (zv2 : Int32) (zv5 : Int64) (zs0 : Int32) (zs1 : Int32) (zs2 : Nat) (zh : PH) : Option PH :=
  gb (asI 0 zs2 zs1 zs0 zh) fun zh1 =>
  f_X12_cutAll_265 N zk17 zv0 zv1 zv2 zv5 zh1
def f_X12_cutAll_129 (N : Nat) (zk17 : (Nat × Int32 × Int32 × PH) → Option PH) (zv0 : Nat) (zv1 : Int32) (zv2 : Int32) (zv4 : Int32) (zv5 : Int64) (zh : PH) : Option PH :=
  gb (gfR 12 4 zv0 zh) fun zt1 =>
  if ((zv2 - zv4) : Int32) ≤ 8 then (
  f_X12_cutAll_148 N zk17 zv0 zv1 zv2 zv5 1 zv1 zt1 zh)
  else (
  f_X12_cutAll_148 N zk17 zv0 zv1 zv2 zv5 4 zv1 zt1 zh)
def f_X12_cutAll_121 (N : Nat) (zk17 : (Nat × Int32 × Int32 × PH) → Option PH) (zk70 : (Nat × Int32 × Int32 × Int32 × Int64 × PH) → Option PH) (zv0 : Nat) (zv1 : Int32) (zv2 : Int32) (zv4 : Int32) (zs0 : Int64) (zh : PH) : Option PH :=
  gl (zv2 + 1) fun (zx1 : Int32) =>
  zk70 (zv0, zv1, zx1, zv4, zs0, zh)
def f_X12_cutAll_70 (N : Nat) (zk17 : (Nat × Int32 × Int32 × PH) → Option PH) (zk70 : (Nat × Int32 × Int32 × Int32 × Int64 × PH) → Option PH) (zv0 : Nat) (zv1 : Int32) (zv2 : Int32) (zv4 : Int32) (zv5 : Int64) (zh : PH) : Option PH :=
  gb (gfI 12 3 zv0 zh) fun zt1 =>
  if (zt1 : Int32) ≤ zv2 then (
  f_X12_cutAll_129 N zk17 zv0 zv1 zv2 zv4 zv5 zh)
  else (
  gb (gfR 12 1 zv0 zh) fun zt3 =>
  gb (arI 0 zt3 zv2 zh) fun zt4 =>
  gc (f_X12_isLetter N zt4 zh) fun zt6 zh5 =>
  if (zt6 : Int32) = 0 then (
  f_X12_cutAll_129 N zk17 zv0 zv1 zv2 zv4 zv5 zh5)
  else (
  if (8 : Int32) ≤ (zv2 - zv4) then (
  f_X12_cutAll_121 N zk17 zk70 zv0 zv1 zv2 zv4 zv5 zh5)
  else (
  gb (gfR 12 1 zv0 zh5) fun zt9 =>
  gb (arI 0 zt9 zv2 zh5) fun zt10 =>
  gc (f_X12_rank N zt10 zh5) fun zt12 zh11 =>
  f_X12_cutAll_121 N zk17 zk70 zv0 zv1 zv2 zv4 ((37 * zv5) + (Int32.toInt64 zt12)) zh11)))
def f_X12_cutAll_44 (N : Nat) (zk17 : (Nat × Int32 × Int32 × PH) → Option PH) (zv0 : Nat) (zv1 : Int32) (zv2 : Int32) (zh : PH) : Option PH :=
  gl (zv2 + 1) fun (zx1 : Int32) =>
  zk17 (zv0, zv1, zx1, zh)
def f_X12_cutAll_17 (N : Nat) (zk17 : (Nat × Int32 × Int32 × PH) → Option PH) (zv0 : Nat) (zv1 : Int32) (zv2 : Int32) (zh : PH) : Option PH :=
  gb (gfI 12 3 zv0 zh) fun zt1 =>
  if (zt1 : Int32) ≤ zv2 then (
  gb (gfR 12 4 zv0 zh) fun zt3 =>
  gb (asI 0 zt3 zv1 0 zh) fun zh4 =>
  gb (gfR 12 5 zv0 zh4) fun zt5 =>
  gb (gfI 12 3 zv0 zh4) fun zt6 =>
  gb (asI 0 zt5 zv1 zt6 zh4) fun zh7 =>
  gb (pfV 12 7 zv0 (.int 0) zh7) fun zh8 =>
  gb (pfV 12 8 zv0 (.int 0) zh8) fun zh9 =>
  some zh9)
  else (
  gb (gfR 12 1 zv0 zh) fun zt10 =>
  gb (arI 0 zt10 zv2 zh) fun zt11 =>
  if (zt11 : Int32) = 10 then (
  f_X12_cutAll_44 N zk17 zv0 zv1 zv2 zh)
  else (
  if (zt11 : Int32) = 32 then (
  f_X12_cutAll_44 N zk17 zv0 zv1 zv2 zh)
  else (
  gb (gfR 12 5 zv0 zh) fun zt14 =>
  gb (asI 0 zt14 zv1 zv2 zh) fun zh15 =>
  gc (f_X12_isLetter N zt11 zh15) fun zt17 zh16 =>
  if (zt17 : Int32) = 0 then (
  gc (f_X12_isDigit N zt11 zh16) fun zt20 zh19 =>
  if (zt20 : Int32) = 0 then (
  gl ((Int32.toInt64 zt11)) fun (zx22 : Int64) =>
  gb (gfR 12 4 zv0 zh19) fun zt23 =>
  gc (f_X12_isSignOf N zt11 zh19) fun zt25 zh24 =>
  if (zt25 : Int32) = 0 then (
  f_X12_cutAll_261 N zk17 zv0 zv1 zv2 zx22 4 zv1 zt23 zh24)
  else (
  f_X12_cutAll_261 N zk17 zv0 zv1 zv2 zx22 3 zv1 zt23 zh24))
  else (
  gi (fun zk zs => f_X12_cutAll_159 N zk17 zk zs.1 zs.2.1 zs.2.2.1 zs.2.2.2.1 zs.2.2.2.2.1 zs.2.2.2.2.2) N (zv0, zv1, zv2, zv2, 0, zh19)))
  else (
  gi (fun zk zs => f_X12_cutAll_70 N zk17 zk zs.1 zs.2.1 zs.2.2.1 zs.2.2.2.1 zs.2.2.2.2.1 zs.2.2.2.2.2) N (zv0, zv1, zv2, zv2, 0, zh16)))))
def f_X12_cutAll (N : Nat) (za0 : Nat) (zh : PH) : Option PH :=
  gb (gfI 12 2 za0 zh) fun zt1 =>
  gb (pfV 12 3 za0 (.int zt1) zh) fun zh2 =>
  gb (pfV 12 2 za0 (.int 0) zh2) fun zh3 =>
  gi (fun zk zs => f_X12_cutAll_17 N zk zs.1 zs.2.1 zs.2.2.1 zs.2.2.2) N (za0, 0, 0, zh3)
def f_X12_wrong_25 (N : Nat) (zh : PH) : Option PH :=
  some zh
def f_X12_wrong (N : Nat) (za0 : Nat) (za1 : Int32) (zh : PH) : Option PH :=
  gb (gfI 12 8 za0 zh) fun zt1 =>
  if (zt1 : Int32) = 0 then (
  gb (gfR 12 5 za0 zh) fun zt3 =>
  gb (gfI 12 7 za0 zh) fun zt4 =>
  gb (arI 0 zt3 zt4 zh) fun zt5 =>
  gb (pfV 12 8 za0 (.int (za1 + (16 * zt5))) zh) fun zh6 =>
  f_X12_wrong_25 N  zh6)
  else (
  f_X12_wrong_25 N  zh)
abbrev rm_X11_order : Room := { frames := 6, cells := 0, slots := 0, locals := 143 }
set_option maxHeartbeats 4000000 in
set_option maxRecDepth 100000 in
theorem c_X11_order (l : Launch) (E : gE) (N : Nat) (za0 : Nat) (za1 : Int32) (za2 : Int32) (zh : PH) {h9 : PH} {r9 : Int32} (hf : f_X11_order N za0 za1 za2 zh = some (r9, h9)) : Met l yX11_order (gWS yX11_order cX11_order 4 (some .int)) rm_X11_order (gPc E [.ref (gB E + za0), .int za1, .int za2] zh) (gQi E r9 h9) 0 0 (gA E) := by
  refine gx_met (by decide) ?_ rfl
  intro p e s m below meth c X hr hlk hin2 hw
  have hx := X.1.1
  have hb := X.1.2.1
  have hl := lv_entry [.ref (gB E + za0), .int za1, .int za2] (n := 4) (Nat.le_of_ble_eq_true rfl)
  rw [lg_entry_eq]
  generalize (lg_sl [.ref (gB E + za0), .int za1, .int za2] ++ List.replicate (4 - (lg_sl [.ref (gB E + za0), .int za1, .int za2]).length) Slot.unset).toArray = ls at hl ⊢
  have hl : lv_has ls 4 [(0, .ref (gB E + za0)), (1, .int za1), (2, .int za2)] := hl
  have J_127 : ∀ (zs0 : Int32) (zh : PH) (H : Heap) (locs : List Loc) (ls : Array Slot), f_X11_order_127 N zs0 zh = some (r9, h9) → gw E s zh H locs → lv_has ls 4 [] → W p l e rm_X11_order s m [.ref (gB E + za0), .int za1, .int za2].toArray below meth c H locs 0 0 (MQ below (gQi E r9 h9) [.ref (gB E + za0), .int za1, .int za2].toArray s 0 0 (gA E)) (F0 m 127 ls [.int zs0]) := by
    intro zs0 zh H locs ls hf hw hl
    unfold f_X11_order_127 at hf
    exact gx_iret X hr hlk hw hf dX11_order_127
  have J_124 : ∀ (zs0 : Int32) (zs1 : Int32) (zs2 : Int32) (zs3 : Nat) (zh : PH) (H : Heap) (locs : List Loc) (ls : Array Slot), f_X11_order_124 N zs0 zs1 zs2 zs3 zh = some (r9, h9) → gw E s zh H locs → lv_has ls 4 [] → W p l e rm_X11_order s m [.ref (gB E + za0), .int za1, .int za2].toArray below meth c H locs 0 0 (MQ below (gQi E r9 h9) [.ref (gB E + za0), .int za1, .int za2].toArray s 0 0 (gA E)) (F0 m 124 ls [.int zs0, .int zs1, .int zs2, .ref (gB E + zs3)]) := by
    intro zs0 zs1 zs2 zs3 zh H locs ls hf hw hl
    unfold f_X11_order_124 at hf
    obtain ⟨qizh1, hf⟩ := gg_el hf
    obtain ⟨zt2, zh1, qzh1, hf⟩ := gc_el hf
    refine gx_ki (gx_runV (As := [.int zs2, .int zs1, .int zs0]) (rest := []) X hw (c_X11_movesByArrivals l E N zs3 zs2 zs1 zs0 zh qzh1) kX11_movesByArrivals mm_X11_301 qizh1 clX11 ⟨Nat.le_of_ble_eq_true rfl, Nat.le_of_ble_eq_true rfl⟩ rfl rfl rfl hl.1 (Nat.le_of_ble_eq_true rfl) rfl dX11_order_124 ⟨Nat.le_of_ble_eq_true rfl, Nat.le_of_ble_eq_true rfl⟩) hw (fun H locs hw => ?_)
    exact J_127 zt2 _ _ _ ls hf hw (lv_sub hl [] rfl)
  have J_90 : ∀ (zv0 : Nat) (zv1 : Int32) (zv2 : Int32) (zv3 : Int32) (zh : PH) (H : Heap) (locs : List Loc) (ls : Array Slot), f_X11_order_90 N zv0 zv1 zv2 zv3 zh = some (r9, h9) → gw E s zh H locs → lv_has ls 4 [(0, .ref (gB E + zv0)), (1, .int zv1), (2, .int zv2), (3, .int zv3)] → W p l e rm_X11_order s m [.ref (gB E + za0), .int za1, .int za2].toArray below meth c H locs 0 0 (MQ below (gQi E r9 h9) [.ref (gB E + za0), .int za1, .int za2].toArray s 0 0 (gA E)) (F0 m 90 ls []) := by
    intro zv0 zv1 zv2 zv3 zh H locs ls hf hw hl
    unfold f_X11_order_90 at hf
    refine lv_aload_n hx hb dX11_order_90 rfl (lv_at hl 0 rfl) ?_
    refine lv_iload_n hx hb dX11_order_91 rfl (lv_at hl 1 rfl) ?_
    obtain ⟨qizh1, hf⟩ := gg_el hf
    obtain ⟨zh1, qzh1, hf⟩ := gb_el hf
    refine gx_kv (gx_runV (As := [.int zv1]) (rest := []) X hw (c_X11_planArrivals l E N zv0 zv1 zh qzh1) kX11_planArrivals mm_X11_298 qizh1 clX11 ⟨Nat.le_of_ble_eq_true rfl, Nat.le_of_ble_eq_true rfl⟩ rfl rfl rfl hl.1 (Nat.le_of_ble_eq_true rfl) rfl dX11_order_92 ⟨Nat.le_of_ble_eq_true rfl, Nat.le_of_ble_eq_true rfl⟩) hw (fun H locs hw => ?_)
    refine lv_iload_n hx hb dX11_order_95 rfl (lv_at hl 2 rfl) ?_
    refine lv_iconst (v := 2) hx hb dX11_order_96 (by decide) ?_
    refine lv_icmp_lt (tgt := 111) hx hb dX11_order_97 (by decide) (fun qc2 => ?_) (fun qc2 => ?_)
    · have hf := gif_t hf qc2
      refine lv_aload_n hx hb dX11_order_111 rfl (lv_at hl 0 rfl) ?_
      refine lv_iload_n hx hb dX11_order_112 rfl (lv_at hl 1 rfl) ?_
      refine lv_iload_n hx hb dX11_order_113 rfl (lv_at hl 3 rfl) ?_
      refine W.eq (g2 := F0 m 114 ls [.int zv3, .int zv1, .ref (gB E + zv0)]) rfl ?_
      refine lv_iload_n hx hb dX11_order_114 rfl (lv_at hl 2 rfl) ?_
      refine lv_iconst (v := 1) hx hb dX11_order_115 (by decide) ?_
      refine lv_icmp_ne (tgt := 123) hx hb dX11_order_116 (by decide) (fun qc3 => ?_) (fun qc3 => ?_)
      · have hf := gif_f hf qc3
        refine lv_iconst (v := 0) hx hb dX11_order_123 (by decide) ?_
        exact J_124 0 zv3 zv1 zv0 _ _ _ ls hf hw (lv_sub hl [] rfl)
      · have hf := gif_t hf qc3
        refine lv_iconst (v := 1) hx hb dX11_order_119 (by decide) ?_
        refine lv_goto (tgt := 124) hx hb dX11_order_120 (by decide) ?_
        exact J_124 1 zv3 zv1 zv0 _ _ _ ls hf hw (lv_sub hl [] rfl)
    · have hf := gif_f hf qc2
      refine lv_aload_n hx hb dX11_order_100 rfl (lv_at hl 0 rfl) ?_
      obtain ⟨zt4, qzt4, hf⟩ := gb_el hf
      refine gx_getR X hw qzt4 clX11 (by decide) mf_X11_59 dX11_order_101 ?_
      refine lv_iload_n hx hb dX11_order_104 rfl (lv_at hl 2 rfl) ?_
      refine W.eq (g2 := F0 m 105 ls [.int zv2, .ref (gB E + zt4)]) rfl ?_
      refine lv_iconst (v := 2) hx hb dX11_order_105 (by decide) ?_
      refine lv_isub hx hb dX11_order_106 ?_
      obtain ⟨zt5, qzt5, hf⟩ := gb_el hf
      refine gx_iald X hw qzt5 dX11_order_107 ?_
      refine lv_goto (tgt := 127) hx hb dX11_order_108 (by decide) ?_
      exact J_127 zt5 _ _ _ ls hf hw (lv_sub hl [] rfl)
  have J_58 : ∀ (zh : PH) (H : Heap) (locs : List Loc) (ls : Array Slot), f_X11_order_58 N zh = some (r9, h9) → gw E s zh H locs → lv_has ls 4 [] → W p l e rm_X11_order s m [.ref (gB E + za0), .int za1, .int za2].toArray below meth c H locs 0 0 (MQ below (gQi E r9 h9) [.ref (gB E + za0), .int za1, .int za2].toArray s 0 0 (gA E)) (F0 m 58 ls []) := by
    intro zh H locs ls hf hw hl
    unfold f_X11_order_58 at hf
    refine lv_iconst (v := (-1)) hx hb dX11_order_58 (by decide) ?_
    exact gx_iret X hr hlk hw hf dX11_order_59
  have J_30 : ∀ (zh : PH) (H : Heap) (locs : List Loc) (ls : Array Slot), f_X11_order_30 N zh = some (r9, h9) → gw E s zh H locs → lv_has ls 4 [] → W p l e rm_X11_order s m [.ref (gB E + za0), .int za1, .int za2].toArray below meth c H locs 0 0 (MQ below (gQi E r9 h9) [.ref (gB E + za0), .int za1, .int za2].toArray s 0 0 (gA E)) (F0 m 30 ls []) := by
    intro zh H locs ls hf hw hl
    unfold f_X11_order_30 at hf
    refine lv_iconst (v := (-1)) hx hb dX11_order_30 (by decide) ?_
    exact gx_iret X hr hlk hw hf dX11_order_31
  unfold f_X11_order at hf
  refine lv_aload_n hx hb dX11_order_0 rfl (lv_at hl 0 rfl) ?_
  obtain ⟨zt1, qzt1, hf⟩ := gb_el hf
  refine gx_getR X hw qzt1 clX11 (by decide) mf_X11_37 dX11_order_1 ?_
  obtain ⟨zt2, qzt2, hf⟩ := gb_el hf
  refine gx_getI X hw qzt2 clX9 (by decide) mf_X11_283 dX11_order_4 ?_
  obtain ⟨zt4, zh3, qzh3, hf⟩ := gc_el hf
  refine gx_ki (gx_runS (As := [.int zt2]) (rest := []) X hw (c_J6_bitCount_0f7a4 l E N zt2 zh qzh3) kJ6_bitCount_0f7a4 mm_X11_289 ⟨Nat.le_of_ble_eq_true rfl, Nat.le_of_ble_eq_true rfl⟩ rfl rfl rfl hl.1 (Nat.le_of_ble_eq_true rfl) rfl dX11_order_7 ⟨Nat.le_of_ble_eq_true rfl, Nat.le_of_ble_eq_true rfl⟩) hw (fun H locs hw => ?_)
  refine lv_istore_n (lv' := [(3, .int zt4), (0, .ref (gB E + za0)), (1, .int za1), (2, .int za2)]) hx hb dX11_order_10 rfl hl (by decide) rfl (fun ls hl => ?_)
  refine lv_aload_n hx hb dX11_order_11 rfl (lv_at hl 1 rfl) ?_
  refine lv_iload_n hx hb dX11_order_12 rfl (lv_at hl 2 rfl) ?_
  obtain ⟨qizh5, hf⟩ := gg_el hf
  obtain ⟨zt6, zh5, qzh5, hf⟩ := gc_el hf
  refine gx_ki (gx_runV (As := [.int za1]) (rest := []) X hw (c_X11_isGuest l E N za0 za1 zh3 qzh5) kX11_isGuest mm_X11_118 qizh5 clX11 ⟨Nat.le_of_ble_eq_true rfl, Nat.le_of_ble_eq_true rfl⟩ rfl rfl rfl hl.1 (Nat.le_of_ble_eq_true rfl) rfl dX11_order_13 ⟨Nat.le_of_ble_eq_true rfl, Nat.le_of_ble_eq_true rfl⟩) hw (fun H locs hw => ?_)
  refine lv_if_eq (tgt := 30) hx hb dX11_order_16 (by decide) (fun qc7 => ?_) (fun qc7 => ?_)
  · have hf := gif_t hf qc7
    exact J_30  _ _ _ ls hf hw (lv_sub hl [] rfl)
  · have hf := gif_f hf qc7
    refine W.eq (g2 := F0 m 19 ls []) rfl ?_
    refine lv_iload_n hx hb dX11_order_19 rfl (lv_at hl 3 rfl) ?_
    refine lv_if_lt (tgt := 30) hx hb dX11_order_20 (by decide) (fun qc8 => ?_) (fun qc8 => ?_)
    · have hf := gif_t hf qc8
      exact J_30  _ _ _ ls hf hw (lv_sub hl [] rfl)
    · have hf := gif_f hf qc8
      refine lv_iload_n hx hb dX11_order_23 rfl (lv_at hl 3 rfl) ?_
      refine lv_iconst (v := 2) hx hb dX11_order_24 (by decide) ?_
      refine lv_iload_n hx hb dX11_order_25 rfl (lv_at hl 0 rfl) ?_
      refine lv_iadd hx hb dX11_order_26 ?_
      refine lv_icmp_lt (tgt := 32) hx hb dX11_order_27 (by decide) (fun qc9 => ?_) (fun qc9 => ?_)
      · have hf := gif_t hf qc9
        refine lv_iload_n hx hb dX11_order_32 rfl (lv_at hl 0 rfl) ?_
        refine lv_if_eq (tgt := 58) hx hb dX11_order_33 (by decide) (fun qc10 => ?_) (fun qc10 => ?_)
        · have hf := gif_t hf qc10
          exact J_58  _ _ _ ls hf hw (lv_sub hl [] rfl)
        · have hf := gif_f hf qc10
          refine lv_iload_n hx hb dX11_order_36 rfl (lv_at hl 0 rfl) ?_
          refine W.eq (g2 := F0 m 37 ls [.int zt4]) rfl ?_
          refine lv_aload_n hx hb dX11_order_37 rfl (lv_at hl 1 rfl) ?_
          obtain ⟨zt11, qzt11, hf⟩ := gb_el hf
          refine gx_getR X hw qzt11 clX11 (by decide) mf_X11_69 dX11_order_38 ?_
          obtain ⟨zt12, qzt12, hf⟩ := gb_el hf
          refine gx_getI X hw qzt12 clX2 (by decide) mf_X11_230 dX11_order_41 ?_
          refine lv_aload_n hx hb dX11_order_44 rfl (lv_at hl 1 rfl) ?_
          obtain ⟨zt13, qzt13, hf⟩ := gb_el hf
          refine gx_getR X hw qzt13 clX11 (by decide) mf_X11_37 dX11_order_45 ?_
          obtain ⟨zt14, qzt14, hf⟩ := gb_el hf
          refine gx_getR X hw qzt14 clX9 (by decide) mf_X11_112 dX11_order_48 ?_
          obtain ⟨qizh15, hf⟩ := gg_el hf
          obtain ⟨zt16, zh15, qzh15, hf⟩ := gc_el hf
          refine gx_ki (gx_runV (As := []) (rest := [.int zt12, .int zt4]) X hw (c_X1_guestsIn l E N zt14 zh5 qzh15) kX1_guestsIn mm_X11_295 qizh15 clX1 ⟨Nat.le_of_ble_eq_true rfl, Nat.le_of_ble_eq_true rfl⟩ rfl rfl rfl hl.1 (Nat.le_of_ble_eq_true rfl) rfl dX11_order_51 ⟨Nat.le_of_ble_eq_true rfl, Nat.le_of_ble_eq_true rfl⟩) hw (fun H locs hw => ?_)
          refine lv_isub hx hb dX11_order_54 ?_
          refine lv_icmp_le (tgt := 60) hx hb dX11_order_55 (by decide) (fun qc17 => ?_) (fun qc17 => ?_)
          · have hf := gif_t hf qc17
            refine lv_aload_n hx hb dX11_order_60 rfl (lv_at hl 1 rfl) ?_
            refine W.eq (g2 := F0 m 61 ls [.ref (gB E + za0)]) rfl ?_
            obtain ⟨zt18, qzt18, hf⟩ := gb_el hf
            refine gx_getR X hw qzt18 clX11 (by decide) mf_X11_37 dX11_order_61 ?_
            obtain ⟨zt19, qzt19, hf⟩ := gb_el hf
            refine gx_getR X hw qzt19 clX9 (by decide) mf_X11_112 dX11_order_64 ?_
            refine lv_iload_n hx hb dX11_order_67 rfl (lv_at hl 2 rfl) ?_
            obtain ⟨qizh20, hf⟩ := gg_el hf
            obtain ⟨zt21, zh20, qzh20, hf⟩ := gc_el hf
            refine gx_ki (gx_runV (As := [.int za1]) (rest := []) X hw (c_X1_isIn l E N zt19 za1 zh15 qzh20) kX1_isIn mm_X11_286 qizh20 clX1 ⟨Nat.le_of_ble_eq_true rfl, Nat.le_of_ble_eq_true rfl⟩ rfl rfl rfl hl.1 (Nat.le_of_ble_eq_true rfl) rfl dX11_order_68 ⟨Nat.le_of_ble_eq_true rfl, Nat.le_of_ble_eq_true rfl⟩) hw (fun H locs hw => ?_)
            refine lv_if_ne (tgt := 90) hx hb dX11_order_71 (by decide) (fun qc22 => ?_) (fun qc22 => ?_)
            · have hf := gif_f hf qc22
              exact J_90 za0 za1 za2 zt4 _ _ _ ls hf hw (lv_sub hl [1, 2, 3, 0] rfl)
            · have hf := gif_t hf qc22
              refine lv_aload_n hx hb dX11_order_74 rfl (lv_at hl 1 rfl) ?_
              obtain ⟨zt23, qzt23, hf⟩ := gb_el hf
              refine gx_getR X hw qzt23 clX11 (by decide) mf_X11_37 dX11_order_75 ?_
              obtain ⟨zt24, qzt24, hf⟩ := gb_el hf
              refine gx_getI X hw qzt24 clX9 (by decide) mf_X11_283 dX11_order_78 ?_
              refine lv_iload_n hx hb dX11_order_81 rfl (lv_at hl 2 rfl) ?_
              obtain ⟨zt26, zh25, qzh25, hf⟩ := gc_el hf
              refine gx_ki (gx_runS (As := [.int zt24, .int za1]) (rest := []) X hw (c_X11_bitOf l E N zt24 za1 zh20 qzh25) kX11_bitOf mm_X11_127 ⟨Nat.le_of_ble_eq_true rfl, Nat.le_of_ble_eq_true rfl⟩ rfl rfl rfl hl.1 (Nat.le_of_ble_eq_true rfl) rfl dX11_order_82 ⟨Nat.le_of_ble_eq_true rfl, Nat.le_of_ble_eq_true rfl⟩) hw (fun H locs hw => ?_)
              refine W.eq (g2 := F0 m 85 ls [.int zt26]) rfl ?_
              refine lv_if_ne (tgt := 90) hx hb dX11_order_85 (by decide) (fun qc27 => ?_) (fun qc27 => ?_)
              · have hf := gif_f hf qc27
                exact J_90 za0 za1 za2 zt4 _ _ _ ls hf hw (lv_sub hl [1, 2, 3, 0] rfl)
              · have hf := gif_t hf qc27
                refine lv_iconst (v := (-1)) hx hb dX11_order_88 (by decide) ?_
                exact gx_iret X hr hlk hw hf dX11_order_89
          · have hf := gif_f hf qc17
            exact J_58  _ _ _ ls hf hw (lv_sub hl [] rfl)
      · have hf := gif_f hf qc9
        exact J_30  _ _ _ ls hf hw (lv_sub hl [] rfl)
abbrev rm_X11_tried : Room := { frames := 2, cells := 0, slots := 0, locals := 44 }
set_option maxHeartbeats 4000000 in
set_option maxRecDepth 100000 in
theorem c_X11_tried (l : Launch) (E : gE) (N : Nat) (za0 : Nat) (za1 : Int32) (za2 : Int32) (zh : PH) {h9 : PH} {r9 : Int32} (hf : f_X11_tried N za0 za1 za2 zh = some (r9, h9)) : Met l yX11_tried (gWS yX11_tried cX11_tried 4 (some .int)) rm_X11_tried (gPc E [.ref (gB E + za0), .int za1, .int za2] zh) (gQi E r9 h9) 0 0 (gA E) := by
  refine gx_met (by decide) ?_ rfl
  intro p e s m below meth c X hr hlk hin2 hw
  have hx := X.1.1
  have hb := X.1.2.1
  have hl := lv_entry [.ref (gB E + za0), .int za1, .int za2] (n := 4) (Nat.le_of_ble_eq_true rfl)
  rw [lg_entry_eq]
  generalize (lg_sl [.ref (gB E + za0), .int za1, .int za2] ++ List.replicate (4 - (lg_sl [.ref (gB E + za0), .int za1, .int za2]).length) Slot.unset).toArray = ls at hl ⊢
  have hl : lv_has ls 4 [(0, .ref (gB E + za0)), (1, .int za1), (2, .int za2)] := hl
  have J_15 : ∀ (zv0 : Nat) (zv1 : Int32) (zv2 : Int32) (zh : PH) (H : Heap) (locs : List Loc) (ls : Array Slot), f_X11_tried_15 N zv0 zv1 zv2 zh = some (r9, h9) → gw E s zh H locs → lv_has ls 4 [(0, .ref (gB E + zv0)), (1, .int zv1), (2, .int zv2)] → W p l e rm_X11_tried s m [.ref (gB E + za0), .int za1, .int za2].toArray below meth c H locs 0 0 (MQ below (gQi E r9 h9) [.ref (gB E + za0), .int za1, .int za2].toArray s 0 0 (gA E)) (F0 m 15 ls []) := by
    intro zv0 zv1 zv2 zh H locs ls hf hw hl
    unfold f_X11_tried_15 at hf
    refine lv_aload_n hx hb dX11_tried_15 rfl (lv_at hl 0 rfl) ?_
    obtain ⟨zt1, qzt1, hf⟩ := gb_el hf
    refine gx_getR X hw qzt1 clX11 (by decide) mf_X11_37 dX11_tried_16 ?_
    refine lv_iload_n hx hb dX11_tried_19 rfl (lv_at hl 1 rfl) ?_
    obtain ⟨qizh2, hf⟩ := gg_el hf
    obtain ⟨zt3, zh2, qzh2, hf⟩ := gc_el hf
    refine gx_kr (gx_runV (As := [.int zv1]) (rest := []) X hw (c_X9_trialOf l E N zt1 zv1 zh qzh2) kX9_trialOf mm_X11_304 qizh2 clX9 ⟨Nat.le_of_ble_eq_true rfl, Nat.le_of_ble_eq_true rfl⟩ rfl rfl rfl hl.1 (Nat.le_of_ble_eq_true rfl) rfl dX11_tried_20 ⟨Nat.le_of_ble_eq_true rfl, Nat.le_of_ble_eq_true rfl⟩) hw (fun H locs hw => ?_)
    refine lv_astore_n (lv' := [(3, .ref (gB E + zt3)), (0, .ref (gB E + zv0)), (1, .int zv1), (2, .int zv2)]) hx hb dX11_tried_23 rfl hl (by decide) rfl (fun ls hl => ?_)
    refine lv_iload_n hx hb dX11_tried_24 rfl (lv_at hl 3 rfl) ?_
    by_cases qc4 : (zv2 : Int32) = 0
    · have hf := gif_t hf qc4
      refine lv_tableIn (off := 27) (tgt := 52) hx hb dX11_tried_25 (by rw [qc4]; decide) (by rw [qc4]; decide) (by rw [qc4]; rfl) (by decide) ?_
      refine lv_aload_n hx hb dX11_tried_52 rfl (lv_at hl 0 rfl) ?_
      obtain ⟨zt5, qzt5, hf⟩ := gb_el hf
      refine gx_getI X hw qzt5 clX1 (by decide) mf_X11_182 dX11_tried_53 ?_
      refine W.eq (g2 := F0 m 56 ls [.int zt5]) rfl ?_
      exact gx_iret X hr hlk hw hf dX11_tried_56
    have hf := gif_f hf qc4
    by_cases qc6 : (zv2 : Int32) = 1
    · have hf := gif_t hf qc6
      refine lv_tableIn (off := 32) (tgt := 57) hx hb dX11_tried_25 (by rw [qc6]; decide) (by rw [qc6]; decide) (by rw [qc6]; rfl) (by decide) ?_
      refine lv_aload_n hx hb dX11_tried_57 rfl (lv_at hl 0 rfl) ?_
      obtain ⟨zt7, qzt7, hf⟩ := gb_el hf
      refine gx_getI X hw qzt7 clX1 (by decide) mf_X11_185 dX11_tried_58 ?_
      refine W.eq (g2 := F0 m 61 ls [.int zt7]) rfl ?_
      exact gx_iret X hr hlk hw hf dX11_tried_61
    have hf := gif_f hf qc6
    by_cases qc8 : (zv2 : Int32) = 2
    · have hf := gif_t hf qc8
      refine lv_tableIn (off := 37) (tgt := 62) hx hb dX11_tried_25 (by rw [qc8]; decide) (by rw [qc8]; decide) (by rw [qc8]; rfl) (by decide) ?_
      refine lv_aload_n hx hb dX11_tried_62 rfl (lv_at hl 0 rfl) ?_
      obtain ⟨qizh9, hf⟩ := gg_el hf
      obtain ⟨zt10, zh9, qzh9, hf⟩ := gc_el hf
      refine gx_ki (gx_runV (As := []) (rest := []) X hw (c_X1_spreadOfMoves l E N zt3 zh2 qzh9) kX1_spreadOfMoves mm_X11_308 qizh9 clX1 ⟨Nat.le_of_ble_eq_true rfl, Nat.le_of_ble_eq_true rfl⟩ rfl rfl rfl hl.1 (Nat.le_of_ble_eq_true rfl) rfl dX11_tried_63 ⟨Nat.le_of_ble_eq_true rfl, Nat.le_of_ble_eq_true rfl⟩) hw (fun H locs hw => ?_)
      refine W.eq (g2 := F0 m 66 ls [.int zt10]) rfl ?_
      exact gx_iret X hr hlk hw hf dX11_tried_66
    have hf := gif_f hf qc8
    have nqc4 := lv_neT (a := 0) qc4 (by decide)
    have nqc6 := lv_neT (a := 1) qc6 (by decide)
    have nqc8 := lv_neT (a := 2) qc8 (by decide)
    refine lv_tableOut (tgt := 67) hx hb dX11_tried_25 (by omega) (by decide) ?_
    refine lv_iconst (v := (-1)) hx hb dX11_tried_67 (by decide) ?_
    exact gx_iret X hr hlk hw hf dX11_tried_68
  unfold f_X11_tried at hf
  refine lv_iload_n hx hb dX11_tried_0 rfl (lv_at hl 1 rfl) ?_
  refine lv_iconst (v := (-1)) hx hb dX11_tried_1 (by decide) ?_
  refine lv_icmp_eq (tgt := 15) hx hb dX11_tried_2 (by decide) (fun qc1 => ?_) (fun qc1 => ?_)
  · have hf := gif_t hf qc1
    exact J_15 za0 za1 za2 _ _ _ ls hf hw (lv_sub hl [0, 1, 2] rfl)
  · have hf := gif_f hf qc1
    refine lv_aload_n hx hb dX11_tried_5 rfl (lv_at hl 0 rfl) ?_
    refine lv_iload_n hx hb dX11_tried_6 rfl (lv_at hl 1 rfl) ?_
    obtain ⟨qizh2, hf⟩ := gg_el hf
    obtain ⟨zt3, zh2, qzh2, hf⟩ := gc_el hf
    refine gx_ki (gx_runV (As := [.int za1]) (rest := []) X hw (c_X11_isRule l E N za0 za1 zh qzh2) kX11_isRule mm_X11_143 qizh2 clX11 ⟨Nat.le_of_ble_eq_true rfl, Nat.le_of_ble_eq_true rfl⟩ rfl rfl rfl hl.1 (Nat.le_of_ble_eq_true rfl) rfl dX11_tried_7 ⟨Nat.le_of_ble_eq_true rfl, Nat.le_of_ble_eq_true rfl⟩) hw (fun H locs hw => ?_)
    refine lv_if_ne (tgt := 15) hx hb dX11_tried_10 (by decide) (fun qc4 => ?_) (fun qc4 => ?_)
    · have hf := gif_f hf qc4
      exact J_15 za0 za1 za2 _ _ _ ls hf hw (lv_sub hl [0, 1, 2] rfl)
    · have hf := gif_t hf qc4
      refine lv_iconst (v := (-1)) hx hb dX11_tried_13 (by decide) ?_
      exact gx_iret X hr hlk hw hf dX11_tried_14
abbrev rm_X11_best : Room := { frames := 1, cells := 0, slots := 0, locals := 21 }
set_option maxHeartbeats 4000000 in
set_option maxRecDepth 100000 in
theorem c_X11_best (l : Launch) (E : gE) (N : Nat) (za0 : Nat) (zh : PH) {h9 : PH} {r9 : Int32} (hf : f_X11_best N za0 zh = some (r9, h9)) : Met l yX11_best (gWS yX11_best cX11_best 3 (some .int)) rm_X11_best (gPc E [.ref (gB E + za0)] zh) (gQi E r9 h9) 0 0 (gA E) := by
  refine gx_met (by decide) ?_ rfl
  intro p e s m below meth c X hr hlk hin2 hw
  have hx := X.1.1
  have hb := X.1.2.1
  have hl := lv_entry [.ref (gB E + za0)] (n := 3) (Nat.le_of_ble_eq_true rfl)
  rw [lg_entry_eq]
  generalize (lg_sl [.ref (gB E + za0)] ++ List.replicate (3 - (lg_sl [.ref (gB E + za0)]).length) Slot.unset).toArray = ls at hl ⊢
  have hl : lv_has ls 3 [(0, .ref (gB E + za0))] := hl
  have L_4 : ∀ (zn4 : Nat) (zv0 : Nat) (zv1 : Int32) (zv2 : Int32) (zh : PH) (H : Heap) (locs : List Loc) (ls : Array Slot), gi (fun zk zs => f_X11_best_4 N zk zs.1 zs.2.1 zs.2.2.1 zs.2.2.2) zn4 (zv0, zv1, zv2, zh) = some (r9, h9) → gw E s zh H locs → lv_has ls 3 [(0, .ref (gB E + zv0)), (1, .int zv1), (2, .int zv2)] → W p l e rm_X11_best s m [.ref (gB E + za0)].toArray below meth c H locs 0 0 (MQ below (gQi E r9 h9) [.ref (gB E + za0)].toArray s 0 0 (gA E)) (F0 m 4 ls []) := by
    intro zn4
    induction zn4 with
    | zero =>
      intro zv0 zv1 zv2 zh H locs ls hf
      cases hf
    | succ zn4 ih_4 =>
      have J_44 : ∀ (zv0 : Nat) (zv1 : Int32) (zv2 : Int32) (zh : PH) (H : Heap) (locs : List Loc) (ls : Array Slot), f_X11_best_44 N (gi (fun zk zs => f_X11_best_4 N zk zs.1 zs.2.1 zs.2.2.1 zs.2.2.2) zn4) zv0 zv1 zv2 zh = some (r9, h9) → gw E s zh H locs → lv_has ls 3 [(0, .ref (gB E + zv0)), (1, .int zv1), (2, .int zv2)] → W p l e rm_X11_best s m [.ref (gB E + za0)].toArray below meth c H locs 0 0 (MQ below (gQi E r9 h9) [.ref (gB E + za0)].toArray s 0 0 (gA E)) (F0 m 44 ls []) := by
        intro zv0 zv1 zv2 zh H locs ls hf hw hl
        unfold f_X11_best_44 at hf
        obtain ⟨zx1, ezx1⟩ : ∃ y : Int32, y = zv2 + 1 := ⟨_, rfl⟩
        have hf := gl_el hf ezx1
        refine lv_iinc (v := zx1) (lv' := [(2, .int zx1), (0, .ref (gB E + zv0)), (1, .int zv1)]) hx hb dX11_best_44 hl (k := 2) rfl (by rw [ezx1]; rfl) (by decide) rfl (fun ls hl => ?_)
        refine lv_goto (tgt := 4) hx hb dX11_best_47 (by decide) ?_
        exact ih_4 zv0 zv1 zx1 _ _ _ ls hf hw (lv_sub hl [1, 2, 0] rfl)
      have J_42 : ∀ (zv0 : Nat) (zv2 : Int32) (zh : PH) (H : Heap) (locs : List Loc) (ls : Array Slot), f_X11_best_42 N (gi (fun zk zs => f_X11_best_4 N zk zs.1 zs.2.1 zs.2.2.1 zs.2.2.2) zn4) zv0 zv2 zh = some (r9, h9) → gw E s zh H locs → lv_has ls 3 [(0, .ref (gB E + zv0)), (2, .int zv2)] → W p l e rm_X11_best s m [.ref (gB E + za0)].toArray below meth c H locs 0 0 (MQ below (gQi E r9 h9) [.ref (gB E + za0)].toArray s 0 0 (gA E)) (F0 m 42 ls []) := by
        intro zv0 zv2 zh H locs ls hf hw hl
        unfold f_X11_best_42 at hf
        refine lv_iload_n hx hb dX11_best_42 rfl (lv_at hl 1 rfl) ?_
        refine lv_istore_n (lv' := [(1, .int zv2), (0, .ref (gB E + zv0)), (2, .int zv2)]) hx hb dX11_best_43 rfl hl (by decide) rfl (fun ls hl => ?_)
        exact J_44 zv0 zv2 zv2 _ _ _ ls hf hw (lv_sub hl [1, 0, 2] rfl)
      intro zv0 zv1 zv2 zh H locs ls hf hw hl
      have hf := gi_s hf
      dsimp only at hf
      unfold f_X11_best_4 at hf
      refine lv_iload_n hx hb dX11_best_4 rfl (lv_at hl 2 rfl) ?_
      refine lv_aload_n hx hb dX11_best_5 rfl (lv_at hl 0 rfl) ?_
      obtain ⟨zt1, qzt1, hf⟩ := gb_el hf
      refine gx_getR X hw qzt1 clX11 (by decide) mf_X11_69 dX11_best_6 ?_
      obtain ⟨zt2, qzt2, hf⟩ := gb_el hf
      refine gx_getI X hw qzt2 clX2 (by decide) mf_X11_91 dX11_best_9 ?_
      refine lv_icmp_ge (tgt := 50) hx hb dX11_best_12 (by decide) (fun qc3 => ?_) (fun qc3 => ?_)
      · have hf := gif_t hf qc3
        refine lv_iload_n hx hb dX11_best_50 rfl (lv_at hl 1 rfl) ?_
        exact gx_iret X hr hlk hw hf dX11_best_51
      · have hf := gif_f hf qc3
        refine lv_iload_n hx hb dX11_best_15 rfl (lv_at hl 1 rfl) ?_
        refine lv_iconst (v := (-1)) hx hb dX11_best_16 (by decide) ?_
        refine lv_icmp_eq (tgt := 42) hx hb dX11_best_17 (by decide) (fun qc4 => ?_) (fun qc4 => ?_)
        · have hf := gif_t hf qc4
          exact J_42 zv0 zv2 _ _ _ ls hf hw (lv_sub hl [0, 2] rfl)
        · have hf := gif_f hf qc4
          refine lv_aload_n hx hb dX11_best_20 rfl (lv_at hl 0 rfl) ?_
          refine W.eq (g2 := F0 m 21 ls [.ref (gB E + zv0)]) rfl ?_
          obtain ⟨zt5, qzt5, hf⟩ := gb_el hf
          refine gx_getR X hw qzt5 clX11 (by decide) mf_X11_37 dX11_best_21 ?_
          refine lv_iload_n hx hb dX11_best_24 rfl (lv_at hl 2 rfl) ?_
          obtain ⟨qizh6, hf⟩ := gg_el hf
          obtain ⟨zt7, zh6, qzh6, hf⟩ := gc_el hf
          refine gx_kr (gx_runV (As := [.int zv2]) (rest := []) X hw (c_X9_trialOf l E N zt5 zv2 zh qzh6) kX9_trialOf mm_X11_304 qizh6 clX9 ⟨Nat.le_of_ble_eq_true rfl, Nat.le_of_ble_eq_true rfl⟩ rfl rfl rfl hl.1 (Nat.le_of_ble_eq_true rfl) rfl dX11_best_25 ⟨Nat.le_of_ble_eq_true rfl, Nat.le_of_ble_eq_true rfl⟩) hw (fun H locs hw => ?_)
          refine lv_aload_n hx hb dX11_best_28 rfl (lv_at hl 0 rfl) ?_
          obtain ⟨zt8, qzt8, hf⟩ := gb_el hf
          refine gx_getR X hw qzt8 clX11 (by decide) mf_X11_37 dX11_best_29 ?_
          refine lv_iload_n hx hb dX11_best_32 rfl (lv_at hl 1 rfl) ?_
          obtain ⟨qizh9, hf⟩ := gg_el hf
          obtain ⟨zt10, zh9, qzh9, hf⟩ := gc_el hf
          refine gx_kr (gx_runV (As := [.int zv1]) (rest := [.ref (gB E + zt7)]) X hw (c_X9_trialOf l E N zt8 zv1 zh6 qzh9) kX9_trialOf mm_X11_304 qizh9 clX9 ⟨Nat.le_of_ble_eq_true rfl, Nat.le_of_ble_eq_true rfl⟩ rfl rfl rfl hl.1 (Nat.le_of_ble_eq_true rfl) rfl dX11_best_33 ⟨Nat.le_of_ble_eq_true rfl, Nat.le_of_ble_eq_true rfl⟩) hw (fun H locs hw => ?_)
          obtain ⟨qizh11, hf⟩ := gg_el hf
          obtain ⟨zt12, zh11, qzh11, hf⟩ := gc_el hf
          refine gx_ki (gx_runV (As := [.ref (gB E + zt10)]) (rest := []) X hw (c_X1_isBetterThan l E N zt7 zt10 zh9 qzh11) kX1_isBetterThan mm_X11_311 qizh11 clX1 ⟨Nat.le_of_ble_eq_true rfl, Nat.le_of_ble_eq_true rfl⟩ rfl rfl rfl hl.1 (Nat.le_of_ble_eq_true rfl) rfl dX11_best_36 ⟨Nat.le_of_ble_eq_true rfl, Nat.le_of_ble_eq_true rfl⟩) hw (fun H locs hw => ?_)
          refine lv_if_eq (tgt := 44) hx hb dX11_best_39 (by decide) (fun qc13 => ?_) (fun qc13 => ?_)
          · have hf := gif_t hf qc13
            exact J_44 zv0 zv1 zv2 _ _ _ ls hf hw (lv_sub hl [0, 1, 2] rfl)
          · have hf := gif_f hf qc13
            exact J_42 zv0 zv2 _ _ _ ls hf hw (lv_sub hl [0, 2] rfl)
  unfold f_X11_best at hf
  refine lv_iconst (v := (-1)) hx hb dX11_best_0 (by decide) ?_
  refine lv_istore_n (lv' := [(1, .int (-1)), (0, .ref (gB E + za0))]) hx hb dX11_best_1 rfl hl (by decide) rfl (fun ls hl => ?_)
  refine lv_iconst (v := 0) hx hb dX11_best_2 (by decide) ?_
  refine lv_istore_n (lv' := [(2, .int 0), (1, .int (-1)), (0, .ref (gB E + za0))]) hx hb dX11_best_3 rfl hl (by decide) rfl (fun ls hl => ?_)
  exact L_4 N za0 (-1) 0 _ _ _ ls hf hw (lv_sub hl [2, 1, 0] rfl)
abbrev rm_X11_goBackTo : Room := { frames := 3, cells := 0, slots := 0, locals := 107 }
set_option maxHeartbeats 4000000 in
set_option maxRecDepth 100000 in
theorem c_X11_goBackTo (l : Launch) (E : gE) (N : Nat) (za0 : Nat) (za1 : Int32) (zh : PH) {h9 : PH} {r9 : Int32} (hf : f_X11_goBackTo N za0 za1 zh = some (r9, h9)) : Met l yX11_goBackTo (gWS yX11_goBackTo cX11_goBackTo 2 (some .boolean)) rm_X11_goBackTo (gPc E [.ref (gB E + za0), .int za1] zh) (gQi E r9 h9) 0 0 (gA E) := by
  refine gx_met (by decide) ?_ rfl
  intro p e s m below meth c X hr hlk hin2 hw
  have hx := X.1.1
  have hb := X.1.2.1
  have hl := lv_entry [.ref (gB E + za0), .int za1] (n := 2) (Nat.le_of_ble_eq_true rfl)
  rw [lg_entry_eq]
  generalize (lg_sl [.ref (gB E + za0), .int za1] ++ List.replicate (2 - (lg_sl [.ref (gB E + za0), .int za1]).length) Slot.unset).toArray = ls at hl ⊢
  have hl : lv_has ls 2 [(0, .ref (gB E + za0)), (1, .int za1)] := hl
  have J_20 : ∀ (zh : PH) (H : Heap) (locs : List Loc) (ls : Array Slot), f_X11_goBackTo_20 N zh = some (r9, h9) → gw E s zh H locs → lv_has ls 2 [] → W p l e rm_X11_goBackTo s m [.ref (gB E + za0), .int za1].toArray below meth c H locs 0 0 (MQ below (gQi E r9 h9) [.ref (gB E + za0), .int za1].toArray s 0 0 (gA E)) (F0 m 20 ls []) := by
    intro zh H locs ls hf hw hl
    unfold f_X11_goBackTo_20 at hf
    refine lv_iconst (v := 0) hx hb dX11_goBackTo_20 (by decide) ?_
    exact gx_zret X hr hlk hw hf dX11_goBackTo_21
  unfold f_X11_goBackTo at hf
  refine lv_aload_n hx hb dX11_goBackTo_0 rfl (lv_at hl 0 rfl) ?_
  obtain ⟨zt1, qzt1, hf⟩ := gb_el hf
  refine gx_getI X hw qzt1 clX11 (by decide) mf_X11_99 dX11_goBackTo_1 ?_
  refine lv_iload_n hx hb dX11_goBackTo_4 rfl (lv_at hl 1 rfl) ?_
  obtain ⟨zt3, zh2, qzh2, hf⟩ := gc_el hf
  refine gx_ki (gx_runS (As := [.int zt1, .int za1]) (rest := []) X hw (c_X11_bitOf l E N zt1 za1 zh qzh2) kX11_bitOf mm_X11_127 ⟨Nat.le_of_ble_eq_true rfl, Nat.le_of_ble_eq_true rfl⟩ rfl rfl rfl hl.1 (Nat.le_of_ble_eq_true rfl) rfl dX11_goBackTo_5 ⟨Nat.le_of_ble_eq_true rfl, Nat.le_of_ble_eq_true rfl⟩) hw (fun H locs hw => ?_)
  refine lv_if_eq (tgt := 20) hx hb dX11_goBackTo_8 (by decide) (fun qc4 => ?_) (fun qc4 => ?_)
  · have hf := gif_t hf qc4
    exact J_20  _ _ _ ls hf hw (lv_sub hl [] rfl)
  · have hf := gif_f hf qc4
    refine lv_aload_n hx hb dX11_goBackTo_11 rfl (lv_at hl 0 rfl) ?_
    obtain ⟨zt5, qzt5, hf⟩ := gb_el hf
    refine gx_getR X hw qzt5 clX11 (by decide) mf_X11_41 dX11_goBackTo_12 ?_
    refine lv_iload_n hx hb dX11_goBackTo_15 rfl (lv_at hl 1 rfl) ?_
    obtain ⟨zt6, qzt6, hf⟩ := gb_el hf
    refine gx_aald X hw qzt6 rfl dX11_goBackTo_16 ?_
    refine W.eq (g2 := F0 m 17 ls [gq E zt6]) rfl ?_
    cases zt6 with
    | none =>
      have hf := gqm_n hf
      have hl : lv_has ls 2 [(0, .ref (gB E + za0)), (1, .int za1)] := hl
      refine lv_ifnonnullN hx hb dX11_goBackTo_17 ?_
      exact J_20  _ _ _ ls hf hw (lv_sub hl [] rfl)
    | some zp7 =>
      have hf := gqm_s hf
      have hl : lv_has ls 2 [(0, .ref (gB E + za0)), (1, .int za1)] := hl
      refine lv_ifnonnull (tgt := 22) hx hb dX11_goBackTo_17 (by decide) ?_
      refine lv_aload_n hx hb dX11_goBackTo_22 rfl (lv_at hl 0 rfl) ?_
      obtain ⟨zt8, qzt8, hf⟩ := gb_el hf
      refine gx_getR X hw qzt8 clX11 (by decide) mf_X11_37 dX11_goBackTo_23 ?_
      refine lv_aload_n hx hb dX11_goBackTo_26 rfl (lv_at hl 0 rfl) ?_
      obtain ⟨zt9, qzt9, hf⟩ := gb_el hf
      refine gx_getR X hw qzt9 clX11 (by decide) mf_X11_41 dX11_goBackTo_27 ?_
      refine lv_iload_n hx hb dX11_goBackTo_30 rfl (lv_at hl 1 rfl) ?_
      obtain ⟨zt10, qzt10, hf⟩ := gb_el hf
      refine gx_aaldR X hw qzt10 rfl dX11_goBackTo_31 ?_
      obtain ⟨qizh11, hf⟩ := gg_el hf
      obtain ⟨zh11, qzh11, hf⟩ := gb_el hf
      refine gx_kv (gx_runV (As := [.ref (gB E + zt10)]) (rest := []) X hw (c_X9_copyFrom l E N zt8 zt10 zh2 qzh11) kX9_copyFrom mm_X11_318 qizh11 clX9 ⟨Nat.le_of_ble_eq_true rfl, Nat.le_of_ble_eq_true rfl⟩ rfl rfl rfl hl.1 (Nat.le_of_ble_eq_true rfl) rfl dX11_goBackTo_32 ⟨Nat.le_of_ble_eq_true rfl, Nat.le_of_ble_eq_true rfl⟩) hw (fun H locs hw => ?_)
      refine lv_iconst (v := 1) hx hb dX11_goBackTo_35 (by decide) ?_
      exact gx_zret X hr hlk hw hf dX11_goBackTo_36
abbrev rm_X11_mark : Room := { frames := 4, cells := 52, slots := 1512, locals := 128 }
set_option maxHeartbeats 4000000 in
set_option maxRecDepth 100000 in
theorem c_X11_mark (l : Launch) (E : gE) (N : Nat) (za0 : Nat) (za1 : Int32) (za2 : Int32) (zh : PH) {h9 : PH} {r9 : Int32} (hf : f_X11_mark N za0 za1 za2 zh = some (r9, h9)) : Met l yX11_mark (gWS yX11_mark cX11_mark 3 (some .boolean)) rm_X11_mark (gPc E [.ref (gB E + za0), .int za1, .int za2] zh) (gQi E r9 h9) 52 1512 (gA E) := by
  refine gx_met (by decide) ?_ rfl
  intro p e s m below meth c X hr hlk hin2 hw
  have hx := X.1.1
  have hb := X.1.2.1
  have hl := lv_entry [.ref (gB E + za0), .int za1, .int za2] (n := 3) (Nat.le_of_ble_eq_true rfl)
  rw [lg_entry_eq]
  generalize (lg_sl [.ref (gB E + za0), .int za1, .int za2] ++ List.replicate (3 - (lg_sl [.ref (gB E + za0), .int za1, .int za2]).length) Slot.unset).toArray = ls at hl ⊢
  have hl : lv_has ls 3 [(0, .ref (gB E + za0)), (1, .int za1), (2, .int za2)] := hl
  have J_47 : ∀ (zv0 : Nat) (zv1 : Int32) (zh : PH) (H : Heap) (locs : List Loc) (ls : Array Slot), f_X11_mark_47 N zv0 zv1 zh = some (r9, h9) → gw E s zh H locs → lv_has ls 3 [(0, .ref (gB E + zv0)), (1, .int zv1)] → W p l e rm_X11_mark s m [.ref (gB E + za0), .int za1, .int za2].toArray below meth c H locs 52 1512 (MQ below (gQi E r9 h9) [.ref (gB E + za0), .int za1, .int za2].toArray s 52 1512 (gA E)) (F0 m 47 ls []) := by
    intro zv0 zv1 zh H locs ls hf hw hl
    unfold f_X11_mark_47 at hf
    refine lv_aload_n hx hb dX11_mark_47 rfl (lv_at hl 0 rfl) ?_
    obtain ⟨zt1, qzt1, hf⟩ := gb_el hf
    refine gx_getR X hw qzt1 clX11 (by decide) mf_X11_41 dX11_mark_48 ?_
    refine lv_iload_n hx hb dX11_mark_51 rfl (lv_at hl 1 rfl) ?_
    obtain ⟨zt2, qzt2, hf⟩ := gb_el hf
    refine gx_aaldR X hw qzt2 rfl dX11_mark_52 ?_
    refine lv_aload_n hx hb dX11_mark_53 rfl (lv_at hl 0 rfl) ?_
    obtain ⟨zt3, qzt3, hf⟩ := gb_el hf
    refine gx_getR X hw qzt3 clX11 (by decide) mf_X11_37 dX11_mark_54 ?_
    obtain ⟨qizh4, hf⟩ := gg_el hf
    obtain ⟨zh4, qzh4, hf⟩ := gb_el hf
    refine gx_kv (gx_runV (As := [.ref (gB E + zt3)]) (rest := []) X hw (c_X9_copyFrom l E N zt2 zt3 zh qzh4) kX9_copyFrom mm_X11_318 qizh4 clX9 ⟨Nat.le_of_ble_eq_true rfl, Nat.le_of_ble_eq_true rfl⟩ rfl rfl rfl hl.1 (Nat.le_of_ble_eq_true rfl) rfl dX11_mark_57 ⟨Nat.le_of_ble_eq_true rfl, Nat.le_of_ble_eq_true rfl⟩) hw (fun H locs hw => ?_)
    refine lv_aload_n hx hb dX11_mark_60 rfl (lv_at hl 0 rfl) ?_
    refine lv_dup hx hb dX11_mark_61 rfl ?_
    refine W.eq (g2 := F0 m 62 ls [.ref (gB E + zv0), .ref (gB E + zv0)]) rfl ?_
    obtain ⟨zt5, qzt5, hf⟩ := gb_el hf
    refine gx_getI X hw qzt5 clX11 (by decide) mf_X11_99 dX11_mark_62 ?_
    refine lv_iconst (v := 1) hx hb dX11_mark_65 (by decide) ?_
    refine lv_iload_n hx hb dX11_mark_66 rfl (lv_at hl 1 rfl) ?_
    refine lv_ishl hx hb dX11_mark_67 ?_
    refine lv_ior hx hb dX11_mark_68 ?_
    obtain ⟨zh6, qzh6, hf⟩ := gb_el hf
    refine gx_putV X hw qzh6 clX11 (by decide) mf_X11_99 rfl rfl rfl dX11_mark_69 (fun H locs hw => ?_)
    refine lv_iconst (v := 1) hx hb dX11_mark_72 (by decide) ?_
    exact gx_zret X hr hlk hw hf dX11_mark_73
  have J_9 : ∀ (zh : PH) (H : Heap) (locs : List Loc) (ls : Array Slot), f_X11_mark_9 N zh = some (r9, h9) → gw E s zh H locs → lv_has ls 3 [] → W p l e rm_X11_mark s m [.ref (gB E + za0), .int za1, .int za2].toArray below meth c H locs 52 1512 (MQ below (gQi E r9 h9) [.ref (gB E + za0), .int za1, .int za2].toArray s 52 1512 (gA E)) (F0 m 9 ls []) := by
    intro zh H locs ls hf hw hl
    unfold f_X11_mark_9 at hf
    refine lv_iconst (v := 0) hx hb dX11_mark_9 (by decide) ?_
    exact gx_zret X hr hlk hw hf dX11_mark_10
  unfold f_X11_mark at hf
  refine lv_iload_n hx hb dX11_mark_0 rfl (lv_at hl 1 rfl) ?_
  refine lv_if_lt (tgt := 9) hx hb dX11_mark_1 (by decide) (fun qc1 => ?_) (fun qc1 => ?_)
  · have hf := gif_t hf qc1
    refine W.widen (k := 52) (n := 1512) (Nat.le_of_ble_eq_true rfl) (Nat.le_of_ble_eq_true rfl) ?_
    exact J_9  _ _ _ ls hf hw (lv_sub hl [] rfl)
  · have hf := gif_f hf qc1
    refine lv_iload_n hx hb dX11_mark_4 rfl (lv_at hl 1 rfl) ?_
    refine lv_iconst (v := 4) hx hb dX11_mark_5 (by decide) ?_
    refine lv_icmp_lt (tgt := 11) hx hb dX11_mark_6 (by decide) (fun qc2 => ?_) (fun qc2 => ?_)
    · have hf := gif_t hf qc2
      refine lv_iload_n hx hb dX11_mark_11 rfl (lv_at hl 2 rfl) ?_
      refine lv_if_eq (tgt := 21) hx hb dX11_mark_12 (by decide) (fun qc3 => ?_) (fun qc3 => ?_)
      · have hf := gif_t hf qc3
        refine lv_aload_n hx hb dX11_mark_21 rfl (lv_at hl 0 rfl) ?_
        obtain ⟨zt4, qzt4, hf⟩ := gb_el hf
        refine gx_getR X hw qzt4 clX11 (by decide) mf_X11_41 dX11_mark_22 ?_
        refine W.eq (g2 := F0 m 25 ls [.ref (gB E + zt4)]) rfl ?_
        refine lv_iload_n hx hb dX11_mark_25 rfl (lv_at hl 1 rfl) ?_
        obtain ⟨zt5, qzt5, hf⟩ := gb_el hf
        refine gx_aald X hw qzt5 rfl dX11_mark_26 ?_
        cases zt5 with
        | none =>
          have hf := gqm_n hf
          have hl : lv_has ls 3 [(0, .ref (gB E + za0)), (1, .int za1), (2, .int za2)] := hl
          refine lv_ifnonnullN hx hb dX11_mark_27 ?_
          refine lv_aload_n hx hb dX11_mark_30 rfl (lv_at hl 0 rfl) ?_
          obtain ⟨zt7, qzt7, hf⟩ := gb_el hf
          refine gx_getR X hw qzt7 clX11 (by decide) mf_X11_41 dX11_mark_31 ?_
          refine lv_iload_n hx hb dX11_mark_34 rfl (lv_at hl 1 rfl) ?_
          obtain ⟨zr9, zh8, qzh8, hf⟩ := gc_el hf
          refine gx_new X hw qzh8 clX9 n1X9 ml_X11_32 mN_X9 mI_X9 (Nat.le_of_ble_eq_true rfl) (Nat.le_of_ble_eq_true rfl) dX11_mark_35 (fun H hw => ?_)
          refine lv_dup hx hb dX11_mark_38 rfl ?_
          refine lv_aload_n hx hb dX11_mark_39 rfl (lv_at hl 0 rfl) ?_
          obtain ⟨zt10, qzt10, hf⟩ := gb_el hf
          refine gx_getR X hw qzt10 clX11 (by decide) mf_X11_28 dX11_mark_40 ?_
          refine W.eq (g2 := F0 m 43 ls [.ref (gB E + zt10), .ref (gB E + zr9), .ref (gB E + zr9), .int za1, .ref (gB E + zt7)]) rfl ?_
          obtain ⟨zh11, qzh11, hf⟩ := gb_el hf
          refine gx_kv (gx_runI (As := [.ref (gB E + zt10)]) (rest := [.ref (gB E + zr9), .int za1, .ref (gB E + zt7)]) X hw (c_X9_init l E N zr9 zt10 zh8 qzh11) kX9_init mm_X11_34 ⟨Nat.le_of_ble_eq_true rfl, Nat.le_of_ble_eq_true rfl⟩ rfl rfl rfl hl.1 (Nat.le_of_ble_eq_true rfl) rfl dX11_mark_43 ⟨Nat.le_of_ble_eq_true rfl, Nat.le_of_ble_eq_true rfl⟩) hw (fun H locs hw => ?_)
          obtain ⟨zh12, qzh12, hf⟩ := gb_el hf
          refine gx_aast X hw qzh12 clX9 rfl dX11_mark_46 (fun H locs hw => ?_)
          exact J_47 za0 za1 _ _ _ ls hf hw (lv_sub hl [0, 1] rfl)
        | some zp6 =>
          have hf := gqm_s hf
          have hl : lv_has ls 3 [(0, .ref (gB E + za0)), (1, .int za1), (2, .int za2)] := hl
          refine lv_ifnonnull (tgt := 47) hx hb dX11_mark_27 (by decide) ?_
          refine W.widen (k := 52) (n := 1512) (Nat.le_of_ble_eq_true rfl) (Nat.le_of_ble_eq_true rfl) ?_
          exact J_47 za0 za1 _ _ _ ls hf hw (lv_sub hl [0, 1] rfl)
      · have hf := gif_f hf qc3
        refine lv_aload_n hx hb dX11_mark_15 rfl (lv_at hl 0 rfl) ?_
        refine lv_iload_n hx hb dX11_mark_16 rfl (lv_at hl 1 rfl) ?_
        refine W.eq (g2 := F0 m 17 ls [.int za1, .ref (gB E + za0)]) rfl ?_
        obtain ⟨qizh13, hf⟩ := gg_el hf
        obtain ⟨zt14, zh13, qzh13, hf⟩ := gc_el hf
        refine gx_ki (gx_runV (As := [.int za1]) (rest := []) X hw (c_X11_goBackTo l E N za0 za1 zh qzh13) kX11_goBackTo mm_X11_315 qizh13 clX11 ⟨Nat.le_of_ble_eq_true rfl, Nat.le_of_ble_eq_true rfl⟩ rfl rfl rfl hl.1 (Nat.le_of_ble_eq_true rfl) rfl dX11_mark_17 ⟨Nat.le_of_ble_eq_true rfl, Nat.le_of_ble_eq_true rfl⟩) hw (fun H locs hw => ?_)
        refine W.widen (k := 52) (n := 1512) (Nat.le_of_ble_eq_true rfl) (Nat.le_of_ble_eq_true rfl) ?_
        exact gx_zret X hr hlk hw hf dX11_mark_20
    · have hf := gif_f hf qc2
      refine W.widen (k := 52) (n := 1512) (Nat.le_of_ble_eq_true rfl) (Nat.le_of_ble_eq_true rfl) ?_
      exact J_9  _ _ _ ls hf hw (lv_sub hl [] rfl)
abbrev rm_X11_count : Room := { frames := 1, cells := 0, slots := 0, locals := 22 }
set_option maxHeartbeats 4000000 in
set_option maxRecDepth 100000 in
theorem c_X11_count (l : Launch) (E : gE) (N : Nat) (za0 : Nat) (za1 : Int32) (zh : PH) {h9 : PH} {r9 : Int32} (hf : f_X11_count N za0 za1 zh = some (r9, h9)) : Met l yX11_count (gWS yX11_count cX11_count 2 (some .int)) rm_X11_count (gPc E [.ref (gB E + za0), .int za1] zh) (gQi E r9 h9) 0 0 (gA E) := by
  refine gx_met (by decide) ?_ rfl
  intro p e s m below meth c X hr hlk hin2 hw
  have hx := X.1.1
  have hb := X.1.2.1
  have hl := lv_entry [.ref (gB E + za0), .int za1] (n := 2) (Nat.le_of_ble_eq_true rfl)
  rw [lg_entry_eq]
  generalize (lg_sl [.ref (gB E + za0), .int za1] ++ List.replicate (2 - (lg_sl [.ref (gB E + za0), .int za1]).length) Slot.unset).toArray = ls at hl ⊢
  have hl : lv_has ls 2 [(0, .ref (gB E + za0)), (1, .int za1)] := hl
  unfold f_X11_count at hf
  refine lv_iload_n hx hb dX11_count_0 rfl (lv_at hl 1 rfl) ?_
  by_cases qc1 : (za1 : Int32) = 0
  · have hf := gif_t hf qc1
    refine lv_tableIn (off := 59) (tgt := 60) hx hb dX11_count_1 (by rw [qc1]; decide) (by rw [qc1]; decide) (by rw [qc1]; rfl) (by decide) ?_
    refine lv_aload_n hx hb dX11_count_60 rfl (lv_at hl 0 rfl) ?_
    obtain ⟨zt2, qzt2, hf⟩ := gb_el hf
    refine gx_getR X hw qzt2 clX11 (by decide) mf_X11_69 dX11_count_61 ?_
    obtain ⟨zt3, qzt3, hf⟩ := gb_el hf
    refine gx_getI X hw qzt3 clX2 (by decide) mf_X11_230 dX11_count_64 ?_
    exact gx_iret X hr hlk hw hf dX11_count_67
  have hf := gif_f hf qc1
  by_cases qc4 : (za1 : Int32) = 1
  · have hf := gif_t hf qc4
    refine lv_tableIn (off := 67) (tgt := 68) hx hb dX11_count_1 (by rw [qc4]; decide) (by rw [qc4]; decide) (by rw [qc4]; rfl) (by decide) ?_
    refine lv_aload_n hx hb dX11_count_68 rfl (lv_at hl 0 rfl) ?_
    obtain ⟨zt5, qzt5, hf⟩ := gb_el hf
    refine gx_getR X hw qzt5 clX11 (by decide) mf_X11_69 dX11_count_69 ?_
    obtain ⟨zt6, qzt6, hf⟩ := gb_el hf
    refine gx_getI X hw qzt6 clX2 (by decide) mf_X11_322 dX11_count_72 ?_
    exact gx_iret X hr hlk hw hf dX11_count_75
  have hf := gif_f hf qc4
  by_cases qc7 : (za1 : Int32) = 2
  · have hf := gif_t hf qc7
    refine lv_tableIn (off := 75) (tgt := 76) hx hb dX11_count_1 (by rw [qc7]; decide) (by rw [qc7]; decide) (by rw [qc7]; rfl) (by decide) ?_
    refine lv_aload_n hx hb dX11_count_76 rfl (lv_at hl 0 rfl) ?_
    obtain ⟨zt8, qzt8, hf⟩ := gb_el hf
    refine gx_getR X hw qzt8 clX11 (by decide) mf_X11_69 dX11_count_77 ?_
    obtain ⟨zt9, qzt9, hf⟩ := gb_el hf
    refine gx_getI X hw qzt9 clX2 (by decide) mf_X11_91 dX11_count_80 ?_
    exact gx_iret X hr hlk hw hf dX11_count_83
  have hf := gif_f hf qc7
  by_cases qc10 : (za1 : Int32) = 3
  · have hf := gif_t hf qc10
    refine lv_tableIn (off := 83) (tgt := 84) hx hb dX11_count_1 (by rw [qc10]; decide) (by rw [qc10]; decide) (by rw [qc10]; rfl) (by decide) ?_
    refine lv_aload_n hx hb dX11_count_84 rfl (lv_at hl 0 rfl) ?_
    obtain ⟨zt11, qzt11, hf⟩ := gb_el hf
    refine gx_getR X hw qzt11 clX11 (by decide) mf_X11_37 dX11_count_85 ?_
    obtain ⟨zt12, qzt12, hf⟩ := gb_el hf
    refine gx_getR X hw qzt12 clX9 (by decide) mf_X11_112 dX11_count_88 ?_
    obtain ⟨qizh13, hf⟩ := gg_el hf
    obtain ⟨zt14, zh13, qzh13, hf⟩ := gc_el hf
    refine gx_ki (gx_runV (As := []) (rest := []) X hw (c_X1_guestsIn l E N zt12 zh qzh13) kX1_guestsIn mm_X11_295 qizh13 clX1 ⟨Nat.le_of_ble_eq_true rfl, Nat.le_of_ble_eq_true rfl⟩ rfl rfl rfl hl.1 (Nat.le_of_ble_eq_true rfl) rfl dX11_count_91 ⟨Nat.le_of_ble_eq_true rfl, Nat.le_of_ble_eq_true rfl⟩) hw (fun H locs hw => ?_)
    exact gx_iret X hr hlk hw hf dX11_count_94
  have hf := gif_f hf qc10
  by_cases qc15 : (za1 : Int32) = 4
  · have hf := gif_t hf qc15
    refine lv_tableIn (off := 94) (tgt := 95) hx hb dX11_count_1 (by rw [qc15]; decide) (by rw [qc15]; decide) (by rw [qc15]; rfl) (by decide) ?_
    refine lv_aload_n hx hb dX11_count_95 rfl (lv_at hl 0 rfl) ?_
    obtain ⟨zt16, qzt16, hf⟩ := gb_el hf
    refine gx_getR X hw qzt16 clX11 (by decide) mf_X11_37 dX11_count_96 ?_
    obtain ⟨zt17, qzt17, hf⟩ := gb_el hf
    refine gx_getI X hw qzt17 clX9 (by decide) mf_X11_146 dX11_count_99 ?_
    exact gx_iret X hr hlk hw hf dX11_count_102
  have hf := gif_f hf qc15
  by_cases qc18 : (za1 : Int32) = 5
  · have hf := gif_t hf qc18
    refine lv_tableIn (off := 102) (tgt := 103) hx hb dX11_count_1 (by rw [qc18]; decide) (by rw [qc18]; decide) (by rw [qc18]; rfl) (by decide) ?_
    refine lv_aload_n hx hb dX11_count_103 rfl (lv_at hl 0 rfl) ?_
    obtain ⟨zt19, qzt19, hf⟩ := gb_el hf
    refine gx_getR X hw qzt19 clX11 (by decide) mf_X11_37 dX11_count_104 ?_
    obtain ⟨zt20, qzt20, hf⟩ := gb_el hf
    refine gx_getR X hw qzt20 clX9 (by decide) mf_X11_210 dX11_count_107 ?_
    obtain ⟨zt21, qzt21, hf⟩ := gb_el hf
    refine gx_getI X hw qzt21 clX8 (by decide) mf_X11_220 dX11_count_110 ?_
    exact gx_iret X hr hlk hw hf dX11_count_113
  have hf := gif_f hf qc18
  by_cases qc22 : (za1 : Int32) = 6
  · have hf := gif_t hf qc22
    refine lv_tableIn (off := 113) (tgt := 114) hx hb dX11_count_1 (by rw [qc22]; decide) (by rw [qc22]; decide) (by rw [qc22]; rfl) (by decide) ?_
    refine lv_aload_n hx hb dX11_count_114 rfl (lv_at hl 0 rfl) ?_
    obtain ⟨zt23, qzt23, hf⟩ := gb_el hf
    refine gx_getR X hw qzt23 clX11 (by decide) mf_X11_37 dX11_count_115 ?_
    obtain ⟨zt24, qzt24, hf⟩ := gb_el hf
    refine gx_getR X hw qzt24 clX9 (by decide) mf_X11_233 dX11_count_118 ?_
    obtain ⟨qizh25, hf⟩ := gg_el hf
    obtain ⟨zt26, zh25, qzh25, hf⟩ := gc_el hf
    refine gx_ki (gx_runV (As := []) (rest := []) X hw (c_X6_pages l E N zt24 zh qzh25) kX6_pages mm_X11_242 qizh25 clX6 ⟨Nat.le_of_ble_eq_true rfl, Nat.le_of_ble_eq_true rfl⟩ rfl rfl rfl hl.1 (Nat.le_of_ble_eq_true rfl) rfl dX11_count_121 ⟨Nat.le_of_ble_eq_true rfl, Nat.le_of_ble_eq_true rfl⟩) hw (fun H locs hw => ?_)
    exact gx_iret X hr hlk hw hf dX11_count_124
  have hf := gif_f hf qc22
  by_cases qc27 : (za1 : Int32) = 7
  · have hf := gif_t hf qc27
    refine lv_tableIn (off := 124) (tgt := 125) hx hb dX11_count_1 (by rw [qc27]; decide) (by rw [qc27]; decide) (by rw [qc27]; rfl) (by decide) ?_
    refine lv_aload_n hx hb dX11_count_125 rfl (lv_at hl 0 rfl) ?_
    obtain ⟨zt28, qzt28, hf⟩ := gb_el hf
    refine gx_getR X hw qzt28 clX11 (by decide) mf_X11_37 dX11_count_126 ?_
    obtain ⟨zt29, qzt29, hf⟩ := gb_el hf
    refine gx_getR X hw qzt29 clX9 (by decide) mf_X11_256 dX11_count_129 ?_
    obtain ⟨zt30, qzt30, hf⟩ := gb_el hf
    refine gx_getI X hw qzt30 clX4 (by decide) mf_X11_263 dX11_count_132 ?_
    exact gx_iret X hr hlk hw hf dX11_count_135
  have hf := gif_f hf qc27
  by_cases qc31 : (za1 : Int32) = 8
  · have hf := gif_t hf qc31
    refine lv_tableIn (off := 135) (tgt := 136) hx hb dX11_count_1 (by rw [qc31]; decide) (by rw [qc31]; decide) (by rw [qc31]; rfl) (by decide) ?_
    refine lv_aload_n hx hb dX11_count_136 rfl (lv_at hl 0 rfl) ?_
    obtain ⟨zt32, qzt32, hf⟩ := gb_el hf
    refine gx_getR X hw qzt32 clX11 (by decide) mf_X11_37 dX11_count_137 ?_
    obtain ⟨zt33, qzt33, hf⟩ := gb_el hf
    refine gx_getI X hw qzt33 clX9 (by decide) mf_X11_283 dX11_count_140 ?_
    obtain ⟨zt35, zh34, qzh34, hf⟩ := gc_el hf
    refine gx_ki (gx_runS (As := [.int zt33]) (rest := []) X hw (c_J6_bitCount_0f7a4 l E N zt33 zh qzh34) kJ6_bitCount_0f7a4 mm_X11_289 ⟨Nat.le_of_ble_eq_true rfl, Nat.le_of_ble_eq_true rfl⟩ rfl rfl rfl hl.1 (Nat.le_of_ble_eq_true rfl) rfl dX11_count_143 ⟨Nat.le_of_ble_eq_true rfl, Nat.le_of_ble_eq_true rfl⟩) hw (fun H locs hw => ?_)
    exact gx_iret X hr hlk hw hf dX11_count_146
  have hf := gif_f hf qc31
  by_cases qc36 : (za1 : Int32) = 9
  · have hf := gif_t hf qc36
    refine lv_tableIn (off := 146) (tgt := 147) hx hb dX11_count_1 (by rw [qc36]; decide) (by rw [qc36]; decide) (by rw [qc36]; rfl) (by decide) ?_
    refine lv_aload_n hx hb dX11_count_147 rfl (lv_at hl 0 rfl) ?_
    obtain ⟨zt37, qzt37, hf⟩ := gb_el hf
    refine gx_getR X hw qzt37 clX11 (by decide) mf_X11_37 dX11_count_148 ?_
    obtain ⟨zt38, qzt38, hf⟩ := gb_el hf
    refine gx_getI X hw qzt38 clX9 (by decide) mf_X11_325 dX11_count_151 ?_
    exact gx_iret X hr hlk hw hf dX11_count_154
  have hf := gif_f hf qc36
  by_cases qc39 : (za1 : Int32) = 10
  · have hf := gif_t hf qc39
    refine lv_tableIn (off := 154) (tgt := 155) hx hb dX11_count_1 (by rw [qc39]; decide) (by rw [qc39]; decide) (by rw [qc39]; rfl) (by decide) ?_
    refine lv_aload_n hx hb dX11_count_155 rfl (lv_at hl 0 rfl) ?_
    obtain ⟨zt40, qzt40, hf⟩ := gb_el hf
    refine gx_getR X hw qzt40 clX11 (by decide) mf_X11_10 dX11_count_156 ?_
    obtain ⟨qizh41, hf⟩ := gg_el hf
    obtain ⟨zt42, zh41, qzh41, hf⟩ := gc_el hf
    refine gx_ki (gx_runV (As := []) (rest := []) X hw (c_X10_length l E N zt40 zh qzh41) kX10_length mm_X11_80 qizh41 clX10 ⟨Nat.le_of_ble_eq_true rfl, Nat.le_of_ble_eq_true rfl⟩ rfl rfl rfl hl.1 (Nat.le_of_ble_eq_true rfl) rfl dX11_count_159 ⟨Nat.le_of_ble_eq_true rfl, Nat.le_of_ble_eq_true rfl⟩) hw (fun H locs hw => ?_)
    exact gx_iret X hr hlk hw hf dX11_count_162
  have hf := gif_f hf qc39
  have nqc1 := lv_neT (a := 0) qc1 (by decide)
  have nqc4 := lv_neT (a := 1) qc4 (by decide)
  have nqc7 := lv_neT (a := 2) qc7 (by decide)
  have nqc10 := lv_neT (a := 3) qc10 (by decide)
  have nqc15 := lv_neT (a := 4) qc15 (by decide)
  have nqc18 := lv_neT (a := 5) qc18 (by decide)
  have nqc22 := lv_neT (a := 6) qc22 (by decide)
  have nqc27 := lv_neT (a := 7) qc27 (by decide)
  have nqc31 := lv_neT (a := 8) qc31 (by decide)
  have nqc36 := lv_neT (a := 9) qc36 (by decide)
  have nqc39 := lv_neT (a := 10) qc39 (by decide)
  refine lv_tableOut (tgt := 163) hx hb dX11_count_1 (by omega) (by decide) ?_
  refine lv_iconst (v := (-1)) hx hb dX11_count_163 (by decide) ?_
  exact gx_iret X hr hlk hw hf dX11_count_164
abbrev rm_X12_thrown : Room := { frames := 0, cells := 0, slots := 0, locals := 0 }
set_option maxHeartbeats 4000000 in
set_option maxRecDepth 100000 in
theorem c_X12_thrown (l : Launch) (E : gE) (N : Nat) (za0 : Nat) (zh : PH) {h9 : PH} {r9 : Int32} (hf : f_X12_thrown N za0 zh = some (r9, h9)) : Met l yX12_thrown (gWS yX12_thrown cX12_thrown 1 (some .int)) rm_X12_thrown (gPc E [.ref (gB E + za0)] zh) (gQi E r9 h9) 0 0 (gA E) := by
  refine gx_met (by decide) ?_ rfl
  intro p e s m below meth c X hr hlk hin2 hw
  have hx := X.1.1
  have hb := X.1.2.1
  have hl := lv_entry [.ref (gB E + za0)] (n := 1) (Nat.le_of_ble_eq_true rfl)
  rw [lg_entry_eq]
  generalize (lg_sl [.ref (gB E + za0)] ++ List.replicate (1 - (lg_sl [.ref (gB E + za0)]).length) Slot.unset).toArray = ls at hl ⊢
  have hl : lv_has ls 1 [(0, .ref (gB E + za0))] := hl
  unfold f_X12_thrown at hf
  refine lv_aload_n hx hb dX12_thrown_0 rfl (lv_at hl 0 rfl) ?_
  obtain ⟨zt1, qzt1, hf⟩ := gb_el hf
  refine gx_getI X hw qzt1 clX12 (by decide) mf_X12_1 dX12_thrown_1 ?_
  exact gx_iret X hr hlk hw hf dX12_thrown_4
abbrev rm_X12_lay : Room := { frames := 0, cells := 0, slots := 0, locals := 0 }
set_option maxHeartbeats 4000000 in
set_option maxRecDepth 100000 in
theorem c_X12_lay (l : Launch) (E : gE) (N : Nat) (za0 : Nat) (za1 : Int64) (zh : PH) {h9 : PH} (hf : f_X12_lay N za0 za1 zh = some h9) : Met l yX12_lay (gWS yX12_lay cX12_lay 5 none) rm_X12_lay (gPc E [.ref (gB E + za0), .long za1] zh) (gQv E h9) 0 0 (gA E) := by
  refine gx_met (by decide) ?_ rfl
  intro p e s m below meth c X hr hlk hin2 hw
  have hx := X.1.1
  have hb := X.1.2.1
  have hl := lv_entry [.ref (gB E + za0), .long za1] (n := 5) (Nat.le_of_ble_eq_true rfl)
  rw [lg_entry_eq]
  generalize (lg_sl [.ref (gB E + za0), .long za1] ++ List.replicate (5 - (lg_sl [.ref (gB E + za0), .long za1]).length) Slot.unset).toArray = ls at hl ⊢
  have hl : lv_has ls 5 [(0, .ref (gB E + za0)), (1, .long za1)] := hl
  have L_3 : ∀ (zn3 : Nat) (zv0 : Nat) (zv1 : Int64) (zv3 : Int32) (zh : PH) (H : Heap) (locs : List Loc) (ls : Array Slot), gi (fun zk zs => f_X12_lay_3 N zk zs.1 zs.2.1 zs.2.2.1 zs.2.2.2) zn3 (zv0, zv1, zv3, zh) = some h9 → gw E s zh H locs → lv_has ls 5 [(0, .ref (gB E + zv0)), (1, .long zv1), (3, .int zv3)] → W p l e rm_X12_lay s m [.ref (gB E + za0), .long za1].toArray below meth c H locs 0 0 (MQ below (gQv E h9) [.ref (gB E + za0), .long za1].toArray s 0 0 (gA E)) (F0 m 3 ls []) := by
    intro zn3
    induction zn3 with
    | zero =>
      intro zv0 zv1 zv3 zh H locs ls hf
      cases hf
    | succ zn3 ih_3 =>
      have J_69 : ∀ (zv0 : Nat) (zv1 : Int64) (zv3 : Int32) (zh : PH) (H : Heap) (locs : List Loc) (ls : Array Slot), f_X12_lay_69 N (gi (fun zk zs => f_X12_lay_3 N zk zs.1 zs.2.1 zs.2.2.1 zs.2.2.2) zn3) zv0 zv1 zv3 zh = some h9 → gw E s zh H locs → lv_has ls 5 [(0, .ref (gB E + zv0)), (1, .long zv1), (3, .int zv3)] → W p l e rm_X12_lay s m [.ref (gB E + za0), .long za1].toArray below meth c H locs 0 0 (MQ below (gQv E h9) [.ref (gB E + za0), .long za1].toArray s 0 0 (gA E)) (F0 m 69 ls []) := by
        intro zv0 zv1 zv3 zh H locs ls hf hw hl
        unfold f_X12_lay_69 at hf
        obtain ⟨zx1, ezx1⟩ : ∃ y : Int32, y = zv3 + (-8) := ⟨_, rfl⟩
        have hf := gl_el hf ezx1
        refine lv_iinc (v := zx1) (lv' := [(3, .int zx1), (0, .ref (gB E + zv0)), (1, .long zv1)]) hx hb dX12_lay_69 hl (k := 2) rfl (by rw [ezx1]; rfl) (by decide) rfl (fun ls hl => ?_)
        refine lv_goto (tgt := 3) hx hb dX12_lay_72 (by decide) ?_
        exact ih_3 zv0 zv1 zx1 _ _ _ ls hf hw (lv_sub hl [1, 2, 0] rfl)
      have J_38 : ∀ (zv0 : Nat) (zv1 : Int64) (zv3 : Int32) (zv4 : Int32) (zh : PH) (H : Heap) (locs : List Loc) (ls : Array Slot), f_X12_lay_38 N (gi (fun zk zs => f_X12_lay_3 N zk zs.1 zs.2.1 zs.2.2.1 zs.2.2.2) zn3) zv0 zv1 zv3 zv4 zh = some h9 → gw E s zh H locs → lv_has ls 5 [(0, .ref (gB E + zv0)), (1, .long zv1), (3, .int zv3), (4, .int zv4)] → W p l e rm_X12_lay s m [.ref (gB E + za0), .long za1].toArray below meth c H locs 0 0 (MQ below (gQv E h9) [.ref (gB E + za0), .long za1].toArray s 0 0 (gA E)) (F0 m 38 ls []) := by
        intro zv0 zv1 zv3 zv4 zh H locs ls hf hw hl
        unfold f_X12_lay_38 at hf
        refine lv_aload_n hx hb dX12_lay_38 rfl (lv_at hl 0 rfl) ?_
        obtain ⟨zt1, qzt1, hf⟩ := gb_el hf
        refine gx_getI X hw qzt1 clX12 (by decide) mf_X12_11 dX12_lay_39 ?_
        refine lv_sipush (v := 1000) hx hb dX12_lay_42 (by decide) ?_
        refine lv_icmp_ge (tgt := 69) hx hb dX12_lay_45 (by decide) (fun qc2 => ?_) (fun qc2 => ?_)
        · have hf := gif_t hf qc2
          exact J_69 zv0 zv1 zv3 _ _ _ ls hf hw (lv_sub hl [0, 1, 2] rfl)
        · have hf := gif_f hf qc2
          refine lv_aload_n hx hb dX12_lay_48 rfl (lv_at hl 0 rfl) ?_
          obtain ⟨zt3, qzt3, hf⟩ := gb_el hf
          refine gx_getR X hw qzt3 clX12 (by decide) mf_X12_14 dX12_lay_49 ?_
          refine lv_aload_n hx hb dX12_lay_52 rfl (lv_at hl 0 rfl) ?_
          obtain ⟨zt4, qzt4, hf⟩ := gb_el hf
          refine gx_getI X hw qzt4 clX12 (by decide) mf_X12_11 dX12_lay_53 ?_
          refine lv_iload hx hb dX12_lay_56 (lv_at hl 3 rfl) ?_
          refine W.eq (g2 := F0 m 58 ls [.int zv4, .int zt4, .ref (gB E + zt3)]) rfl ?_
          obtain ⟨zh5, qzh5, hf⟩ := gb_el hf
          refine gx_iast X hw qzh5 dX12_lay_58 (fun H locs hw => ?_)
          refine lv_aload_n hx hb dX12_lay_59 rfl (lv_at hl 0 rfl) ?_
          refine lv_dup hx hb dX12_lay_60 rfl ?_
          obtain ⟨zt6, qzt6, hf⟩ := gb_el hf
          refine gx_getI X hw qzt6 clX12 (by decide) mf_X12_11 dX12_lay_61 ?_
          refine lv_iconst (v := 1) hx hb dX12_lay_64 (by decide) ?_
          refine lv_iadd hx hb dX12_lay_65 ?_
          obtain ⟨zh7, qzh7, hf⟩ := gb_el hf
          refine gx_putV X hw qzh7 clX12 (by decide) mf_X12_11 rfl rfl rfl dX12_lay_66 (fun H locs hw => ?_)
          exact J_69 zv0 zv1 zv3 _ _ _ ls hf hw (lv_sub hl [0, 1, 2] rfl)
      intro zv0 zv1 zv3 zh H locs ls hf hw hl
      have hf := gi_s hf
      dsimp only at hf
      unfold f_X12_lay_3 at hf
      refine lv_iload_n hx hb dX12_lay_3 rfl (lv_at hl 2 rfl) ?_
      refine lv_if_lt (tgt := 75) hx hb dX12_lay_4 (by decide) (fun qc1 => ?_) (fun qc1 => ?_)
      · have hf := gif_t hf qc1
        exact gx_vret X hr hlk hw hf dX12_lay_75
      · have hf := gif_f hf qc1
        refine lv_lload_n hx hb dX12_lay_7 rfl (lv_at hl 1 rfl) ?_
        refine lv_iload_n hx hb dX12_lay_8 rfl (lv_at hl 2 rfl) ?_
        refine lv_lshr hx hb dX12_lay_9 rfl ?_
        refine lv_l2i hx hb dX12_lay_10 rfl ?_
        refine lv_sipush (v := 255) hx hb dX12_lay_11 (by decide) ?_
        refine lv_iand hx hb dX12_lay_14 ?_
        refine lv_topi (fun zx2 ezx2 => ?_)
        have hf := gl_el hf ezx2
        refine lv_istore (lv' := [(4, .int zx2), (0, .ref (gB E + zv0)), (1, .long zv1), (3, .int zv3)]) hx hb dX12_lay_15 hl (by decide) rfl (fun ls hl => ?_)
        refine W.eq (g2 := F0 m 17 ls []) rfl ?_
        refine lv_iload hx hb dX12_lay_17 (lv_at hl 0 rfl) ?_
        refine lv_bipush (v := 10) hx hb dX12_lay_19 (by decide) ?_
        refine lv_icmp_eq (tgt := 38) hx hb dX12_lay_21 (by decide) (fun qc3 => ?_) (fun qc3 => ?_)
        · have hf := gif_t hf qc3
          exact J_38 zv0 zv1 zv3 zx2 _ _ _ ls hf hw (lv_sub hl [1, 2, 3, 0] rfl)
        · have hf := gif_f hf qc3
          refine lv_iload hx hb dX12_lay_24 (lv_at hl 0 rfl) ?_
          refine lv_bipush (v := 32) hx hb dX12_lay_26 (by decide) ?_
          refine lv_icmp_lt (tgt := 69) hx hb dX12_lay_28 (by decide) (fun qc4 => ?_) (fun qc4 => ?_)
          · have hf := gif_t hf qc4
            exact J_69 zv0 zv1 zv3 _ _ _ ls hf hw (lv_sub hl [1, 2, 3] rfl)
          · have hf := gif_f hf qc4
            refine lv_iload hx hb dX12_lay_31 (lv_at hl 0 rfl) ?_
            refine lv_bipush (v := 126) hx hb dX12_lay_33 (by decide) ?_
            refine lv_icmp_gt (tgt := 69) hx hb dX12_lay_35 (by decide) (fun qc5 => ?_) (fun qc5 => ?_)
            · have hf := gif_t hf qc5
              exact J_69 zv0 zv1 zv3 _ _ _ ls hf hw (lv_sub hl [1, 2, 3] rfl)
            · have hf := gif_f hf qc5
              exact J_38 zv0 zv1 zv3 zx2 _ _ _ ls hf hw (lv_sub hl [1, 2, 3, 0] rfl)
  unfold f_X12_lay at hf
  refine lv_bipush (v := 56) hx hb dX12_lay_0 (by decide) ?_
  refine lv_istore_n (lv' := [(3, .int 56), (0, .ref (gB E + za0)), (1, .long za1)]) hx hb dX12_lay_2 rfl hl (by decide) rfl (fun ls hl => ?_)
  exact L_3 N za0 za1 56 _ _ _ ls hf hw (lv_sub hl [1, 2, 0] rfl)
abbrev rm_X12_feed : Room := { frames := 1, cells := 0, slots := 0, locals := 24 }
set_option maxHeartbeats 4000000 in
set_option maxRecDepth 100000 in
theorem c_X12_feed (l : Launch) (E : gE) (N : Nat) (za0 : Nat) (za1 : Int64) (za3 : Int64) (za5 : Int64) (zh : PH) {h9 : PH} {r9 : Int32} (hf : f_X12_feed N za0 za1 za3 za5 zh = some (r9, h9)) : Met l yX12_feed (gWS yX12_feed cX12_feed 7 (some .int)) rm_X12_feed (gPc E [.ref (gB E + za0), .long za1, .long za3, .long za5] zh) (gQi E r9 h9) 0 0 (gA E) := by
  refine gx_met (by decide) ?_ rfl
  intro p e s m below meth c X hr hlk hin2 hw
  have hx := X.1.1
  have hb := X.1.2.1
  have hl := lv_entry [.ref (gB E + za0), .long za1, .long za3, .long za5] (n := 7) (Nat.le_of_ble_eq_true rfl)
  rw [lg_entry_eq]
  generalize (lg_sl [.ref (gB E + za0), .long za1, .long za3, .long za5] ++ List.replicate (7 - (lg_sl [.ref (gB E + za0), .long za1, .long za3, .long za5]).length) Slot.unset).toArray = ls at hl ⊢
  have hl : lv_has ls 7 [(0, .ref (gB E + za0)), (1, .long za1), (3, .long za3), (5, .long za5)] := hl
  unfold f_X12_feed at hf
  refine lv_aload_n hx hb dX12_feed_0 rfl (lv_at hl 0 rfl) ?_
  refine lv_iconst (v := 0) hx hb dX12_feed_1 (by decide) ?_
  obtain ⟨zh1, qzh1, hf⟩ := gb_el hf
  refine gx_putV X hw qzh1 clX12 (by decide) mf_X12_1 rfl rfl rfl dX12_feed_2 (fun H locs hw => ?_)
  refine lv_aload_n hx hb dX12_feed_5 rfl (lv_at hl 0 rfl) ?_
  refine lv_lload_n hx hb dX12_feed_6 rfl (lv_at hl 1 rfl) ?_
  obtain ⟨qizh2, hf⟩ := gg_el hf
  obtain ⟨zh2, qzh2, hf⟩ := gb_el hf
  refine gx_kv (gx_runV (As := [.long za1]) (rest := []) X hw (c_X12_lay l E N za0 za1 zh1 qzh2) kX12_lay mm_X12_7 qizh2 clX12 ⟨Nat.le_of_ble_eq_true rfl, Nat.le_of_ble_eq_true rfl⟩ rfl rfl rfl hl.1 (Nat.le_of_ble_eq_true rfl) rfl dX12_feed_7 ⟨Nat.le_of_ble_eq_true rfl, Nat.le_of_ble_eq_true rfl⟩) hw (fun H locs hw => ?_)
  refine lv_aload_n hx hb dX12_feed_10 rfl (lv_at hl 0 rfl) ?_
  refine lv_lload_n hx hb dX12_feed_11 rfl (lv_at hl 2 rfl) ?_
  obtain ⟨qizh3, hf⟩ := gg_el hf
  obtain ⟨zh3, qzh3, hf⟩ := gb_el hf
  refine gx_kv (gx_runV (As := [.long za3]) (rest := []) X hw (c_X12_lay l E N za0 za3 zh2 qzh3) kX12_lay mm_X12_7 qizh3 clX12 ⟨Nat.le_of_ble_eq_true rfl, Nat.le_of_ble_eq_true rfl⟩ rfl rfl rfl hl.1 (Nat.le_of_ble_eq_true rfl) rfl dX12_feed_12 ⟨Nat.le_of_ble_eq_true rfl, Nat.le_of_ble_eq_true rfl⟩) hw (fun H locs hw => ?_)
  refine W.eq (g2 := F0 m 15 ls []) rfl ?_
  refine lv_aload_n hx hb dX12_feed_15 rfl (lv_at hl 0 rfl) ?_
  refine lv_lload hx hb dX12_feed_16 (lv_at hl 3 rfl) ?_
  obtain ⟨qizh4, hf⟩ := gg_el hf
  obtain ⟨zh4, qzh4, hf⟩ := gb_el hf
  refine gx_kv (gx_runV (As := [.long za5]) (rest := []) X hw (c_X12_lay l E N za0 za5 zh3 qzh4) kX12_lay mm_X12_7 qizh4 clX12 ⟨Nat.le_of_ble_eq_true rfl, Nat.le_of_ble_eq_true rfl⟩ rfl rfl rfl hl.1 (Nat.le_of_ble_eq_true rfl) rfl dX12_feed_18 ⟨Nat.le_of_ble_eq_true rfl, Nat.le_of_ble_eq_true rfl⟩) hw (fun H locs hw => ?_)
  refine lv_aload_n hx hb dX12_feed_21 rfl (lv_at hl 0 rfl) ?_
  obtain ⟨zt5, qzt5, hf⟩ := gb_el hf
  refine gx_getI X hw qzt5 clX12 (by decide) mf_X12_11 dX12_feed_22 ?_
  exact gx_iret X hr hlk hw hf dX12_feed_25
abbrev rm_X12_init : Room := { frames := 1, cells := 24, slots := 18861, locals := 20 }
set_option maxHeartbeats 4000000 in
set_option maxRecDepth 100000 in
theorem c_X12_init (l : Launch) (E : gE) (N : Nat) (za0 : Nat) (zh : PH) {h9 : PH} (hf : f_X12_init N za0 zh = some h9) : Met l yX12_init (gWS yX12_init cX12_init 1 none) rm_X12_init (gPc E [.ref (gB E + za0)] zh) (gQv E h9) 24 18861 (gA E) := by
  refine gx_met (by decide) ?_ rfl
  intro p e s m below meth c X hr hlk hin2 hw
  have hx := X.1.1
  have hb := X.1.2.1
  have hl := lv_entry [.ref (gB E + za0)] (n := 1) (Nat.le_of_ble_eq_true rfl)
  rw [lg_entry_eq]
  generalize (lg_sl [.ref (gB E + za0)] ++ List.replicate (1 - (lg_sl [.ref (gB E + za0)]).length) Slot.unset).toArray = ls at hl ⊢
  have hl : lv_has ls 1 [(0, .ref (gB E + za0))] := hl
  unfold f_X12_init at hf
  refine lv_aload_n hx hb dX12_init_0 rfl (lv_at hl 0 rfl) ?_
  refine gx_oinit X mm_X12_18 mo_inst mo_code hl.1 dX12_init_1 (Nat.le_of_ble_eq_true rfl) (Nat.le_of_ble_eq_true rfl) ?_
  refine lv_aload_n hx hb dX12_init_4 rfl (lv_at hl 0 rfl) ?_
  refine lv_sipush (v := 1000) hx hb dX12_init_5 (by decide) ?_
  obtain ⟨zr2, zh1, qzh1, hf⟩ := gc_el hf
  refine gx_newa0 X hw qzh1 ma_int (by decide) (by decide) (by decide) (Nat.le_of_ble_eq_true rfl) (Nat.le_of_ble_eq_true rfl) dX12_init_8 (fun H hw => ?_)
  obtain ⟨zh3, qzh3, hf⟩ := gb_el hf
  refine gx_putFV X hw qzh3 clX12 (by decide) mf_X12_14 rfl (hin2 rfl) rfl rfl rfl dX12_init_10 (fun H locs hw => ?_)
  refine lv_aload_n hx hb dX12_init_13 rfl (lv_at hl 0 rfl) ?_
  refine lv_sipush (v := 1002) hx hb dX12_init_14 (by decide) ?_
  obtain ⟨zr5, zh4, qzh4, hf⟩ := gc_el hf
  refine gx_newa0 X hw qzh4 ma_int (by decide) (by decide) (by decide) (Nat.le_of_ble_eq_true rfl) (Nat.le_of_ble_eq_true rfl) dX12_init_17 (fun H hw => ?_)
  refine W.eq (g2 := F0 m 19 ls [.ref (gB E + zr5), .ref (gB E + za0)]) rfl ?_
  obtain ⟨zh6, qzh6, hf⟩ := gb_el hf
  refine gx_putFV X hw qzh6 clX12 (by decide) mf_X12_24 rfl (hin2 rfl) rfl rfl rfl dX12_init_19 (fun H locs hw => ?_)
  refine lv_aload_n hx hb dX12_init_22 rfl (lv_at hl 0 rfl) ?_
  refine lv_sipush (v := 1002) hx hb dX12_init_23 (by decide) ?_
  obtain ⟨zr8, zh7, qzh7, hf⟩ := gc_el hf
  refine gx_newa0 X hw qzh7 ma_int (by decide) (by decide) (by decide) (Nat.le_of_ble_eq_true rfl) (Nat.le_of_ble_eq_true rfl) dX12_init_26 (fun H hw => ?_)
  obtain ⟨zh9, qzh9, hf⟩ := gb_el hf
  refine gx_putFV X hw qzh9 clX12 (by decide) mf_X12_27 rfl (hin2 rfl) rfl rfl rfl dX12_init_28 (fun H locs hw => ?_)
  refine lv_aload_n hx hb dX12_init_31 rfl (lv_at hl 0 rfl) ?_
  refine lv_sipush (v := 1002) hx hb dX12_init_32 (by decide) ?_
  obtain ⟨zr11, zh10, qzh10, hf⟩ := gc_el hf
  refine gx_newa1 X hw qzh10 ma_long (by decide) (by decide) (by decide) (Nat.le_of_ble_eq_true rfl) (Nat.le_of_ble_eq_true rfl) dX12_init_35 (fun H hw => ?_)
  obtain ⟨zh12, qzh12, hf⟩ := gb_el hf
  refine gx_putFV X hw qzh12 clX12 (by decide) mf_X12_30 rfl (hin2 rfl) rfl rfl rfl dX12_init_37 (fun H locs hw => ?_)
  refine lv_aload_n hx hb dX12_init_40 rfl (lv_at hl 0 rfl) ?_
  refine W.eq (g2 := F0 m 41 ls [.ref (gB E + za0)]) rfl ?_
  refine lv_bipush (v := 14) hx hb dX12_init_41 (by decide) ?_
  obtain ⟨zr14, zh13, qzh13, hf⟩ := gc_el hf
  refine gx_newa1 X hw qzh13 ma_long (by decide) (by decide) (by decide) (Nat.le_of_ble_eq_true rfl) (Nat.le_of_ble_eq_true rfl) dX12_init_43 (fun H hw => ?_)
  refine lv_dup hx hb dX12_init_45 rfl ?_
  refine lv_iconst (v := 0) hx hb dX12_init_46 (by decide) ?_
  refine lv_ldc2 (v := 932857) hx hb X.1.2.2.2.1 (X.1.2.2.2.2 _ mK_X12_34) dX12_init_47 ?_
  obtain ⟨zh15, qzh15, hf⟩ := gb_el hf
  refine gx_last X hw qzh15 dX12_init_50 (fun H locs hw => ?_)
  refine lv_dup hx hb dX12_init_51 rfl ?_
  refine lv_iconst (v := 1) hx hb dX12_init_52 (by decide) ?_
  refine lv_ldc2 (v := 14190408) hx hb X.1.2.2.2.1 (X.1.2.2.2.2 _ mK_X12_36) dX12_init_53 ?_
  obtain ⟨zh16, qzh16, hf⟩ := gb_el hf
  refine gx_last X hw qzh16 dX12_init_56 (fun H locs hw => ?_)
  refine W.eq (g2 := F0 m 57 ls [.ref (gB E + zr14), .ref (gB E + za0)]) rfl ?_
  refine lv_dup hx hb dX12_init_57 rfl ?_
  refine lv_iconst (v := 2) hx hb dX12_init_58 (by decide) ?_
  refine lv_ldc2 (v := 38424252) hx hb X.1.2.2.2.1 (X.1.2.2.2.2 _ mK_X12_38) dX12_init_59 ?_
  obtain ⟨zh17, qzh17, hf⟩ := gb_el hf
  refine gx_last X hw qzh17 dX12_init_62 (fun H locs hw => ?_)
  refine lv_dup hx hb dX12_init_63 rfl ?_
  refine lv_iconst (v := 3) hx hb dX12_init_64 (by decide) ?_
  refine lv_ldc2 (v := 103423) hx hb X.1.2.2.2.1 (X.1.2.2.2.2 _ mK_X12_40) dX12_init_65 ?_
  obtain ⟨zh18, qzh18, hf⟩ := gb_el hf
  refine gx_last X hw qzh18 dX12_init_68 (fun H locs hw => ?_)
  refine lv_dup hx hb dX12_init_69 rfl ?_
  refine lv_iconst (v := 4) hx hb dX12_init_70 (by decide) ?_
  refine W.eq (g2 := F0 m 71 ls [.int 4, .ref (gB E + zr14), .ref (gB E + zr14), .ref (gB E + za0)]) rfl ?_
  refine lv_ldc2 (v := 12777) hx hb X.1.2.2.2.1 (X.1.2.2.2.2 _ mK_X12_42) dX12_init_71 ?_
  obtain ⟨zh19, qzh19, hf⟩ := gb_el hf
  refine gx_last X hw qzh19 dX12_init_74 (fun H locs hw => ?_)
  refine lv_dup hx hb dX12_init_75 rfl ?_
  refine lv_iconst (v := 5) hx hb dX12_init_76 (by decide) ?_
  refine lv_ldc2 (v := 940952) hx hb X.1.2.2.2.1 (X.1.2.2.2.2 _ mK_X12_44) dX12_init_77 ?_
  obtain ⟨zh20, qzh20, hf⟩ := gb_el hf
  refine gx_last X hw qzh20 dX12_init_80 (fun H locs hw => ?_)
  refine lv_dup hx hb dX12_init_81 rfl ?_
  refine lv_bipush (v := 6) hx hb dX12_init_82 (by decide) ?_
  refine lv_ldc2 (v := 19741) hx hb X.1.2.2.2.1 (X.1.2.2.2.2 _ mK_X12_46) dX12_init_84 ?_
  obtain ⟨zh21, qzh21, hf⟩ := gb_el hf
  refine gx_last X hw qzh21 dX12_init_87 (fun H locs hw => ?_)
  refine W.eq (g2 := F0 m 88 ls [.ref (gB E + zr14), .ref (gB E + za0)]) rfl ?_
  refine lv_dup hx hb dX12_init_88 rfl ?_
  refine lv_bipush (v := 7) hx hb dX12_init_89 (by decide) ?_
  refine lv_ldc2 (v := 1891) hx hb X.1.2.2.2.1 (X.1.2.2.2.2 _ mK_X12_48) dX12_init_91 ?_
  obtain ⟨zh22, qzh22, hf⟩ := gb_el hf
  refine gx_last X hw qzh22 dX12_init_94 (fun H locs hw => ?_)
  refine lv_dup hx hb dX12_init_95 rfl ?_
  refine lv_bipush (v := 8) hx hb dX12_init_96 (by decide) ?_
  refine lv_ldc2 (v := 573) hx hb X.1.2.2.2.1 (X.1.2.2.2.2 _ mK_X12_50) dX12_init_98 ?_
  obtain ⟨zh23, qzh23, hf⟩ := gb_el hf
  refine gx_last X hw qzh23 dX12_init_101 (fun H locs hw => ?_)
  refine lv_dup hx hb dX12_init_102 rfl ?_
  refine lv_bipush (v := 9) hx hb dX12_init_103 (by decide) ?_
  refine W.eq (g2 := F0 m 105 ls [.int 9, .ref (gB E + zr14), .ref (gB E + zr14), .ref (gB E + za0)]) rfl ?_
  refine lv_ldc2 (v := 412740) hx hb X.1.2.2.2.1 (X.1.2.2.2.2 _ mK_X12_52) dX12_init_105 ?_
  obtain ⟨zh24, qzh24, hf⟩ := gb_el hf
  refine gx_last X hw qzh24 dX12_init_108 (fun H locs hw => ?_)
  refine lv_dup hx hb dX12_init_109 rfl ?_
  refine lv_bipush (v := 10) hx hb dX12_init_110 (by decide) ?_
  refine lv_ldc2 (v := 9636) hx hb X.1.2.2.2.1 (X.1.2.2.2.2 _ mK_X12_54) dX12_init_112 ?_
  obtain ⟨zh25, qzh25, hf⟩ := gb_el hf
  refine gx_last X hw qzh25 dX12_init_115 (fun H locs hw => ?_)
  refine lv_dup hx hb dX12_init_116 rfl ?_
  refine lv_bipush (v := 11) hx hb dX12_init_117 (by decide) ?_
  refine lv_ldc2 (v := 439334689) hx hb X.1.2.2.2.1 (X.1.2.2.2.2 _ mK_X12_56) dX12_init_119 ?_
  obtain ⟨zh26, qzh26, hf⟩ := gb_el hf
  refine gx_last X hw qzh26 dX12_init_122 (fun H locs hw => ?_)
  refine W.eq (g2 := F0 m 123 ls [.ref (gB E + zr14), .ref (gB E + za0)]) rfl ?_
  refine lv_dup hx hb dX12_init_123 rfl ?_
  refine lv_bipush (v := 12) hx hb dX12_init_124 (by decide) ?_
  refine lv_ldc2 (v := 36643473) hx hb X.1.2.2.2.1 (X.1.2.2.2.2 _ mK_X12_58) dX12_init_126 ?_
  obtain ⟨zh27, qzh27, hf⟩ := gb_el hf
  refine gx_last X hw qzh27 dX12_init_129 (fun H locs hw => ?_)
  refine lv_dup hx hb dX12_init_130 rfl ?_
  refine lv_bipush (v := 13) hx hb dX12_init_131 (by decide) ?_
  refine lv_ldc2 (v := 25154195) hx hb X.1.2.2.2.1 (X.1.2.2.2.2 _ mK_X12_60) dX12_init_133 ?_
  obtain ⟨zh28, qzh28, hf⟩ := gb_el hf
  refine gx_last X hw qzh28 dX12_init_136 (fun H locs hw => ?_)
  obtain ⟨zh29, qzh29, hf⟩ := gb_el hf
  refine gx_putFV X hw qzh29 clX12 (by decide) mf_X12_62 rfl (hin2 rfl) rfl rfl rfl dX12_init_137 (fun H locs hw => ?_)
  refine lv_aload_n hx hb dX12_init_140 rfl (lv_at hl 0 rfl) ?_
  refine W.eq (g2 := F0 m 141 ls [.ref (gB E + za0)]) rfl ?_
  refine lv_bipush (v := 120) hx hb dX12_init_141 (by decide) ?_
  obtain ⟨zr31, zh30, qzh30, hf⟩ := gc_el hf
  refine gx_newa0 X hw qzh30 ma_int (by decide) (by decide) (by decide) (Nat.le_of_ble_eq_true rfl) (Nat.le_of_ble_eq_true rfl) dX12_init_143 (fun H hw => ?_)
  obtain ⟨zh32, qzh32, hf⟩ := gb_el hf
  refine gx_putFV X hw qzh32 clX12 (by decide) mf_X12_65 rfl (hin2 rfl) rfl rfl rfl dX12_init_145 (fun H locs hw => ?_)
  refine lv_aload_n hx hb dX12_init_148 rfl (lv_at hl 0 rfl) ?_
  refine lv_sipush (v := 2200) hx hb dX12_init_149 (by decide) ?_
  obtain ⟨zr34, zh33, qzh33, hf⟩ := gc_el hf
  refine gx_newa0 X hw qzh33 ma_int (by decide) (by decide) (by decide) (Nat.le_of_ble_eq_true rfl) (Nat.le_of_ble_eq_true rfl) dX12_init_152 (fun H hw => ?_)
  obtain ⟨zh35, qzh35, hf⟩ := gb_el hf
  refine gx_putFV X hw qzh35 clX12 (by decide) mf_X12_68 rfl (hin2 rfl) rfl rfl rfl dX12_init_154 (fun H locs hw => ?_)
  refine lv_aload_n hx hb dX12_init_157 rfl (lv_at hl 0 rfl) ?_
  refine lv_sipush (v := 2200) hx hb dX12_init_158 (by decide) ?_
  obtain ⟨zr37, zh36, qzh36, hf⟩ := gc_el hf
  refine gx_newa0 X hw qzh36 ma_int (by decide) (by decide) (by decide) (Nat.le_of_ble_eq_true rfl) (Nat.le_of_ble_eq_true rfl) dX12_init_161 (fun H hw => ?_)
  refine W.eq (g2 := F0 m 163 ls [.ref (gB E + zr37), .ref (gB E + za0)]) rfl ?_
  obtain ⟨zh38, qzh38, hf⟩ := gb_el hf
  refine gx_putFV X hw qzh38 clX12 (by decide) mf_X12_71 rfl (hin2 rfl) rfl rfl rfl dX12_init_163 (fun H locs hw => ?_)
  refine lv_aload_n hx hb dX12_init_166 rfl (lv_at hl 0 rfl) ?_
  refine lv_bipush (v := 10) hx hb dX12_init_167 (by decide) ?_
  obtain ⟨zr40, zh39, qzh39, hf⟩ := gc_el hf
  refine gx_newa1 X hw qzh39 ma_long (by decide) (by decide) (by decide) (Nat.le_of_ble_eq_true rfl) (Nat.le_of_ble_eq_true rfl) dX12_init_169 (fun H hw => ?_)
  obtain ⟨zh41, qzh41, hf⟩ := gb_el hf
  refine gx_putFV X hw qzh41 clX12 (by decide) mf_X12_74 rfl (hin2 rfl) rfl rfl rfl dX12_init_171 (fun H locs hw => ?_)
  refine lv_aload_n hx hb dX12_init_174 rfl (lv_at hl 0 rfl) ?_
  refine lv_bipush (v := 8) hx hb dX12_init_175 (by decide) ?_
  obtain ⟨zr43, zh42, qzh42, hf⟩ := gc_el hf
  refine gx_newa0 X hw qzh42 ma_int (by decide) (by decide) (by decide) (Nat.le_of_ble_eq_true rfl) (Nat.le_of_ble_eq_true rfl) dX12_init_177 (fun H hw => ?_)
  obtain ⟨zh44, qzh44, hf⟩ := gb_el hf
  refine gx_putFV X hw qzh44 clX12 (by decide) mf_X12_77 rfl (hin2 rfl) rfl rfl rfl dX12_init_179 (fun H locs hw => ?_)
  refine lv_aload_n hx hb dX12_init_182 rfl (lv_at hl 0 rfl) ?_
  refine W.eq (g2 := F0 m 183 ls [.ref (gB E + za0)]) rfl ?_
  refine lv_sipush (v := 1100) hx hb dX12_init_183 (by decide) ?_
  obtain ⟨zr46, zh45, qzh45, hf⟩ := gc_el hf
  refine gx_newa0 X hw qzh45 ma_int (by decide) (by decide) (by decide) (Nat.le_of_ble_eq_true rfl) (Nat.le_of_ble_eq_true rfl) dX12_init_186 (fun H hw => ?_)
  obtain ⟨zh47, qzh47, hf⟩ := gb_el hf
  refine gx_putFV X hw qzh47 clX12 (by decide) mf_X12_80 rfl (hin2 rfl) rfl rfl rfl dX12_init_188 (fun H locs hw => ?_)
  refine lv_aload_n hx hb dX12_init_191 rfl (lv_at hl 0 rfl) ?_
  refine lv_sipush (v := 2600) hx hb dX12_init_192 (by decide) ?_
  obtain ⟨zr49, zh48, qzh48, hf⟩ := gc_el hf
  refine gx_newa0 X hw qzh48 ma_int (by decide) (by decide) (by decide) (Nat.le_of_ble_eq_true rfl) (Nat.le_of_ble_eq_true rfl) dX12_init_195 (fun H hw => ?_)
  obtain ⟨zh50, qzh50, hf⟩ := gb_el hf
  refine gx_putFV X hw qzh50 clX12 (by decide) mf_X12_83 rfl (hin2 rfl) rfl rfl rfl dX12_init_197 (fun H locs hw => ?_)
  refine lv_aload_n hx hb dX12_init_200 rfl (lv_at hl 0 rfl) ?_
  refine lv_bipush (v := 10) hx hb dX12_init_201 (by decide) ?_
  obtain ⟨zr52, zh51, qzh51, hf⟩ := gc_el hf
  refine gx_newa0 X hw qzh51 ma_int (by decide) (by decide) (by decide) (Nat.le_of_ble_eq_true rfl) (Nat.le_of_ble_eq_true rfl) dX12_init_203 (fun H hw => ?_)
  refine W.eq (g2 := F0 m 205 ls [.ref (gB E + zr52), .ref (gB E + za0)]) rfl ?_
  obtain ⟨zh53, qzh53, hf⟩ := gb_el hf
  refine gx_putFV X hw qzh53 clX12 (by decide) mf_X12_86 rfl (hin2 rfl) rfl rfl rfl dX12_init_205 (fun H locs hw => ?_)
  refine lv_aload_n hx hb dX12_init_208 rfl (lv_at hl 0 rfl) ?_
  refine lv_bipush (v := 10) hx hb dX12_init_209 (by decide) ?_
  obtain ⟨zr55, zh54, qzh54, hf⟩ := gc_el hf
  refine gx_newa0 X hw qzh54 ma_int (by decide) (by decide) (by decide) (Nat.le_of_ble_eq_true rfl) (Nat.le_of_ble_eq_true rfl) dX12_init_211 (fun H hw => ?_)
  obtain ⟨zh56, qzh56, hf⟩ := gb_el hf
  refine gx_putFV X hw qzh56 clX12 (by decide) mf_X12_89 rfl (hin2 rfl) rfl rfl rfl dX12_init_213 (fun H locs hw => ?_)
  refine lv_aload_n hx hb dX12_init_216 rfl (lv_at hl 0 rfl) ?_
  refine lv_bipush (v := 10) hx hb dX12_init_217 (by decide) ?_
  obtain ⟨zr58, zh57, qzh57, hf⟩ := gc_el hf
  refine gx_newa0 X hw qzh57 ma_int (by decide) (by decide) (by decide) (Nat.le_of_ble_eq_true rfl) (Nat.le_of_ble_eq_true rfl) dX12_init_219 (fun H hw => ?_)
  obtain ⟨zh59, qzh59, hf⟩ := gb_el hf
  refine gx_putFV X hw qzh59 clX12 (by decide) mf_X12_92 rfl (hin2 rfl) rfl rfl rfl dX12_init_221 (fun H locs hw => ?_)
  refine lv_aload_n hx hb dX12_init_224 rfl (lv_at hl 0 rfl) ?_
  refine W.eq (g2 := F0 m 225 ls [.ref (gB E + za0)]) rfl ?_
  refine lv_bipush (v := 10) hx hb dX12_init_225 (by decide) ?_
  obtain ⟨zr61, zh60, qzh60, hf⟩ := gc_el hf
  refine gx_newa3 X hw qzh60 ma_boolean (by decide) (by decide) (by decide) (Nat.le_of_ble_eq_true rfl) (Nat.le_of_ble_eq_true rfl) dX12_init_227 (fun H hw => ?_)
  obtain ⟨zh62, qzh62, hf⟩ := gb_el hf
  refine gx_putFV X hw qzh62 clX12 (by decide) mf_X12_95 rfl (hin2 rfl) rfl rfl rfl dX12_init_229 (fun H locs hw => ?_)
  refine lv_aload_n hx hb dX12_init_232 rfl (lv_at hl 0 rfl) ?_
  refine lv_sipush (v := 5500) hx hb dX12_init_233 (by decide) ?_
  obtain ⟨zr64, zh63, qzh63, hf⟩ := gc_el hf
  refine gx_newa0 X hw qzh63 ma_int (by decide) (by decide) (by decide) (Nat.le_of_ble_eq_true rfl) (Nat.le_of_ble_eq_true rfl) dX12_init_236 (fun H hw => ?_)
  obtain ⟨zh65, qzh65, hf⟩ := gb_el hf
  refine gx_putFV X hw qzh65 clX12 (by decide) mf_X12_99 rfl (hin2 rfl) rfl rfl rfl dX12_init_238 (fun H locs hw => ?_)
  refine lv_aload_n hx hb dX12_init_241 rfl (lv_at hl 0 rfl) ?_
  refine lv_sipush (v := 1024) hx hb dX12_init_242 (by decide) ?_
  obtain ⟨zr67, zh66, qzh66, hf⟩ := gc_el hf
  refine gx_newa1 X hw qzh66 ma_long (by decide) (by decide) (by decide) (Nat.le_of_ble_eq_true rfl) (Nat.le_of_ble_eq_true rfl) dX12_init_245 (fun H hw => ?_)
  refine W.eq (g2 := F0 m 247 ls [.ref (gB E + zr67), .ref (gB E + za0)]) rfl ?_
  obtain ⟨zh68, qzh68, hf⟩ := gb_el hf
  refine gx_putFV X hw qzh68 clX12 (by decide) mf_X12_102 rfl (hin2 rfl) rfl rfl rfl dX12_init_247 (fun H locs hw => ?_)
  refine lv_aload_n hx hb dX12_init_250 rfl (lv_at hl 0 rfl) ?_
  refine lv_bipush (v := 7) hx hb dX12_init_251 (by decide) ?_
  obtain ⟨zr70, zh69, qzh69, hf⟩ := gc_el hf
  refine gx_newa0 X hw qzh69 ma_int (by decide) (by decide) (by decide) (Nat.le_of_ble_eq_true rfl) (Nat.le_of_ble_eq_true rfl) dX12_init_253 (fun H hw => ?_)
  obtain ⟨zh71, qzh71, hf⟩ := gb_el hf
  refine gx_putFV X hw qzh71 clX12 (by decide) mf_X12_105 rfl (hin2 rfl) rfl rfl rfl dX12_init_255 (fun H locs hw => ?_)
  refine lv_aload_n hx hb dX12_init_258 rfl (lv_at hl 0 rfl) ?_
  refine lv_bipush (v := 7) hx hb dX12_init_259 (by decide) ?_
  obtain ⟨zr73, zh72, qzh72, hf⟩ := gc_el hf
  refine gx_newa0 X hw qzh72 ma_int (by decide) (by decide) (by decide) (Nat.le_of_ble_eq_true rfl) (Nat.le_of_ble_eq_true rfl) dX12_init_261 (fun H hw => ?_)
  obtain ⟨zh74, qzh74, hf⟩ := gb_el hf
  refine gx_putFV X hw qzh74 clX12 (by decide) mf_X12_108 rfl (hin2 rfl) rfl rfl rfl dX12_init_263 (fun H locs hw => ?_)
  refine lv_aload_n hx hb dX12_init_266 rfl (lv_at hl 0 rfl) ?_
  refine W.eq (g2 := F0 m 267 ls [.ref (gB E + za0)]) rfl ?_
  refine lv_bipush (v := 7) hx hb dX12_init_267 (by decide) ?_
  obtain ⟨zr76, zh75, qzh75, hf⟩ := gc_el hf
  refine gx_newa0 X hw qzh75 ma_int (by decide) (by decide) (by decide) (Nat.le_of_ble_eq_true rfl) (Nat.le_of_ble_eq_true rfl) dX12_init_269 (fun H hw => ?_)
  obtain ⟨zh77, qzh77, hf⟩ := gb_el hf
  refine gx_putFV X hw qzh77 clX12 (by decide) mf_X12_111 rfl (hin2 rfl) rfl rfl rfl dX12_init_271 (fun H locs hw => ?_)
  refine lv_aload_n hx hb dX12_init_274 rfl (lv_at hl 0 rfl) ?_
  refine lv_bipush (v := 7) hx hb dX12_init_275 (by decide) ?_
  obtain ⟨zr79, zh78, qzh78, hf⟩ := gc_el hf
  refine gx_newa0 X hw qzh78 ma_int (by decide) (by decide) (by decide) (Nat.le_of_ble_eq_true rfl) (Nat.le_of_ble_eq_true rfl) dX12_init_277 (fun H hw => ?_)
  obtain ⟨zh80, qzh80, hf⟩ := gb_el hf
  refine gx_putFV X hw qzh80 clX12 (by decide) mf_X12_114 rfl (hin2 rfl) rfl rfl rfl dX12_init_279 (fun H locs hw => ?_)
  refine lv_aload_n hx hb dX12_init_282 rfl (lv_at hl 0 rfl) ?_
  refine lv_bipush (v := 7) hx hb dX12_init_283 (by decide) ?_
  obtain ⟨zr82, zh81, qzh81, hf⟩ := gc_el hf
  refine gx_newa0 X hw qzh81 ma_int (by decide) (by decide) (by decide) (Nat.le_of_ble_eq_true rfl) (Nat.le_of_ble_eq_true rfl) dX12_init_285 (fun H hw => ?_)
  refine W.eq (g2 := F0 m 287 ls [.ref (gB E + zr82), .ref (gB E + za0)]) rfl ?_
  obtain ⟨zh83, qzh83, hf⟩ := gb_el hf
  refine gx_putFV X hw qzh83 clX12 (by decide) mf_X12_117 rfl (hin2 rfl) rfl rfl rfl dX12_init_287 (fun H locs hw => ?_)
  refine lv_aload_n hx hb dX12_init_290 rfl (lv_at hl 0 rfl) ?_
  refine lv_iconst (v := 4) hx hb dX12_init_291 (by decide) ?_
  obtain ⟨zr85, zh84, qzh84, hf⟩ := gc_el hf
  refine gx_newa3 X hw qzh84 ma_boolean (by decide) (by decide) (by decide) (Nat.le_of_ble_eq_true rfl) (Nat.le_of_ble_eq_true rfl) dX12_init_292 (fun H hw => ?_)
  obtain ⟨zh86, qzh86, hf⟩ := gb_el hf
  refine gx_putFV X hw qzh86 clX12 (by decide) mf_X12_120 rfl (hin2 rfl) rfl rfl rfl dX12_init_294 (fun H locs hw => ?_)
  refine lv_aload_n hx hb dX12_init_297 rfl (lv_at hl 0 rfl) ?_
  obtain ⟨zt87, qzt87, hf⟩ := gb_el hf
  refine gx_getR X hw qzt87 clX12 (by decide) mf_X12_83 dX12_init_298 ?_
  refine lv_iconst (v := 0) hx hb dX12_init_301 (by decide) ?_
  refine lv_iconst (v := (-1)) hx hb dX12_init_302 (by decide) ?_
  obtain ⟨zh88, qzh88, hf⟩ := gb_el hf
  refine gx_iast X hw qzh88 dX12_init_303 (fun H locs hw => ?_)
  refine W.eq (g2 := F0 m 304 ls []) rfl ?_
  refine lv_aload_n hx hb dX12_init_304 rfl (lv_at hl 0 rfl) ?_
  refine lv_iconst (v := 1) hx hb dX12_init_305 (by decide) ?_
  obtain ⟨zh89, qzh89, hf⟩ := gb_el hf
  refine gx_putV X hw qzh89 clX12 (by decide) mf_X12_123 rfl rfl rfl dX12_init_306 (fun H locs hw => ?_)
  exact gx_vret X hr hlk hw hf dX12_init_309
abbrev rm_X12_isLetter : Room := { frames := 0, cells := 0, slots := 0, locals := 0 }
set_option maxHeartbeats 4000000 in
set_option maxRecDepth 100000 in
theorem c_X12_isLetter (l : Launch) (E : gE) (N : Nat) (za0 : Int32) (zh : PH) {h9 : PH} {r9 : Int32} (hf : f_X12_isLetter N za0 zh = some (r9, h9)) : Met l yX12_isLetter (gWS yX12_isLetter cX12_isLetter 1 (some .boolean)) rm_X12_isLetter (gPc E [.int za0] zh) (gQi E r9 h9) 0 0 (gA E) := by
  refine gx_met (by decide) ?_ rfl
  intro p e s m below meth c X hr hlk hin2 hw
  have hx := X.1.1
  have hb := X.1.2.1
  have hl := lv_entry [.int za0] (n := 1) (Nat.le_of_ble_eq_true rfl)
  rw [lg_entry_eq]
  generalize (lg_sl [.int za0] ++ List.replicate (1 - (lg_sl [.int za0]).length) Slot.unset).toArray = ls at hl ⊢
  have hl : lv_has ls 1 [(0, .int za0)] := hl
  have J_17 : ∀ (zs0 : Int32) (zh : PH) (H : Heap) (locs : List Loc) (ls : Array Slot), f_X12_isLetter_17 N zs0 zh = some (r9, h9) → gw E s zh H locs → lv_has ls 1 [] → W p l e rm_X12_isLetter s m [.int za0].toArray below meth c H locs 0 0 (MQ below (gQi E r9 h9) [.int za0].toArray s 0 0 (gA E)) (F0 m 17 ls [.int zs0]) := by
    intro zs0 zh H locs ls hf hw hl
    unfold f_X12_isLetter_17 at hf
    exact gx_zret X hr hlk hw hf dX12_isLetter_17
  have J_16 : ∀ (zh : PH) (H : Heap) (locs : List Loc) (ls : Array Slot), f_X12_isLetter_16 N zh = some (r9, h9) → gw E s zh H locs → lv_has ls 1 [] → W p l e rm_X12_isLetter s m [.int za0].toArray below meth c H locs 0 0 (MQ below (gQi E r9 h9) [.int za0].toArray s 0 0 (gA E)) (F0 m 16 ls []) := by
    intro zh H locs ls hf hw hl
    unfold f_X12_isLetter_16 at hf
    refine lv_iconst (v := 0) hx hb dX12_isLetter_16 (by decide) ?_
    exact J_17 0 _ _ _ ls hf hw (lv_sub hl [] rfl)
  unfold f_X12_isLetter at hf
  refine lv_iload_n hx hb dX12_isLetter_0 rfl (lv_at hl 0 rfl) ?_
  refine lv_bipush (v := 97) hx hb dX12_isLetter_1 (by decide) ?_
  refine lv_icmp_lt (tgt := 16) hx hb dX12_isLetter_3 (by decide) (fun qc1 => ?_) (fun qc1 => ?_)
  · have hf := gif_t hf qc1
    exact J_16  _ _ _ ls hf hw (lv_sub hl [] rfl)
  · have hf := gif_f hf qc1
    refine lv_iload_n hx hb dX12_isLetter_6 rfl (lv_at hl 0 rfl) ?_
    refine lv_bipush (v := 122) hx hb dX12_isLetter_7 (by decide) ?_
    refine lv_icmp_gt (tgt := 16) hx hb dX12_isLetter_9 (by decide) (fun qc2 => ?_) (fun qc2 => ?_)
    · have hf := gif_t hf qc2
      exact J_16  _ _ _ ls hf hw (lv_sub hl [] rfl)
    · have hf := gif_f hf qc2
      refine lv_iconst (v := 1) hx hb dX12_isLetter_12 (by decide) ?_
      refine lv_goto (tgt := 17) hx hb dX12_isLetter_13 (by decide) ?_
      exact J_17 1 _ _ _ ls hf hw (lv_sub hl [] rfl)
abbrev rm_X12_isDigit : Room := { frames := 0, cells := 0, slots := 0, locals := 0 }
set_option maxHeartbeats 4000000 in
set_option maxRecDepth 100000 in
theorem c_X12_isDigit (l : Launch) (E : gE) (N : Nat) (za0 : Int32) (zh : PH) {h9 : PH} {r9 : Int32} (hf : f_X12_isDigit N za0 zh = some (r9, h9)) : Met l yX12_isDigit (gWS yX12_isDigit cX12_isDigit 1 (some .boolean)) rm_X12_isDigit (gPc E [.int za0] zh) (gQi E r9 h9) 0 0 (gA E) := by
  refine gx_met (by decide) ?_ rfl
  intro p e s m below meth c X hr hlk hin2 hw
  have hx := X.1.1
  have hb := X.1.2.1
  have hl := lv_entry [.int za0] (n := 1) (Nat.le_of_ble_eq_true rfl)
  rw [lg_entry_eq]
  generalize (lg_sl [.int za0] ++ List.replicate (1 - (lg_sl [.int za0]).length) Slot.unset).toArray = ls at hl ⊢
  have hl : lv_has ls 1 [(0, .int za0)] := hl
  have J_17 : ∀ (zs0 : Int32) (zh : PH) (H : Heap) (locs : List Loc) (ls : Array Slot), f_X12_isDigit_17 N zs0 zh = some (r9, h9) → gw E s zh H locs → lv_has ls 1 [] → W p l e rm_X12_isDigit s m [.int za0].toArray below meth c H locs 0 0 (MQ below (gQi E r9 h9) [.int za0].toArray s 0 0 (gA E)) (F0 m 17 ls [.int zs0]) := by
    intro zs0 zh H locs ls hf hw hl
    unfold f_X12_isDigit_17 at hf
    exact gx_zret X hr hlk hw hf dX12_isDigit_17
  have J_16 : ∀ (zh : PH) (H : Heap) (locs : List Loc) (ls : Array Slot), f_X12_isDigit_16 N zh = some (r9, h9) → gw E s zh H locs → lv_has ls 1 [] → W p l e rm_X12_isDigit s m [.int za0].toArray below meth c H locs 0 0 (MQ below (gQi E r9 h9) [.int za0].toArray s 0 0 (gA E)) (F0 m 16 ls []) := by
    intro zh H locs ls hf hw hl
    unfold f_X12_isDigit_16 at hf
    refine lv_iconst (v := 0) hx hb dX12_isDigit_16 (by decide) ?_
    exact J_17 0 _ _ _ ls hf hw (lv_sub hl [] rfl)
  unfold f_X12_isDigit at hf
  refine lv_iload_n hx hb dX12_isDigit_0 rfl (lv_at hl 0 rfl) ?_
  refine lv_bipush (v := 48) hx hb dX12_isDigit_1 (by decide) ?_
  refine lv_icmp_lt (tgt := 16) hx hb dX12_isDigit_3 (by decide) (fun qc1 => ?_) (fun qc1 => ?_)
  · have hf := gif_t hf qc1
    exact J_16  _ _ _ ls hf hw (lv_sub hl [] rfl)
  · have hf := gif_f hf qc1
    refine lv_iload_n hx hb dX12_isDigit_6 rfl (lv_at hl 0 rfl) ?_
    refine lv_bipush (v := 57) hx hb dX12_isDigit_7 (by decide) ?_
    refine lv_icmp_gt (tgt := 16) hx hb dX12_isDigit_9 (by decide) (fun qc2 => ?_) (fun qc2 => ?_)
    · have hf := gif_t hf qc2
      exact J_16  _ _ _ ls hf hw (lv_sub hl [] rfl)
    · have hf := gif_f hf qc2
      refine lv_iconst (v := 1) hx hb dX12_isDigit_12 (by decide) ?_
      refine lv_goto (tgt := 17) hx hb dX12_isDigit_13 (by decide) ?_
      exact J_17 1 _ _ _ ls hf hw (lv_sub hl [] rfl)
abbrev rm_X12_rank : Room := { frames := 1, cells := 0, slots := 0, locals := 20 }
set_option maxHeartbeats 4000000 in
set_option maxRecDepth 100000 in
theorem c_X12_rank (l : Launch) (E : gE) (N : Nat) (za0 : Int32) (zh : PH) {h9 : PH} {r9 : Int32} (hf : f_X12_rank N za0 zh = some (r9, h9)) : Met l yX12_rank (gWS yX12_rank cX12_rank 1 (some .int)) rm_X12_rank (gPc E [.int za0] zh) (gQi E r9 h9) 0 0 (gA E) := by
  refine gx_met (by decide) ?_ rfl
  intro p e s m below meth c X hr hlk hin2 hw
  have hx := X.1.1
  have hb := X.1.2.1
  have hl := lv_entry [.int za0] (n := 1) (Nat.le_of_ble_eq_true rfl)
  rw [lg_entry_eq]
  generalize (lg_sl [.int za0] ++ List.replicate (1 - (lg_sl [.int za0]).length) Slot.unset).toArray = ls at hl ⊢
  have hl : lv_has ls 1 [(0, .int za0)] := hl
  have J_18 : ∀ (zs0 : Int32) (zh : PH) (H : Heap) (locs : List Loc) (ls : Array Slot), f_X12_rank_18 N zs0 zh = some (r9, h9) → gw E s zh H locs → lv_has ls 1 [] → W p l e rm_X12_rank s m [.int za0].toArray below meth c H locs 0 0 (MQ below (gQi E r9 h9) [.int za0].toArray s 0 0 (gA E)) (F0 m 18 ls [.int zs0]) := by
    intro zs0 zh H locs ls hf hw hl
    unfold f_X12_rank_18 at hf
    exact gx_iret X hr hlk hw hf dX12_rank_18
  unfold f_X12_rank at hf
  refine lv_iload_n hx hb dX12_rank_0 rfl (lv_at hl 0 rfl) ?_
  obtain ⟨zt2, zh1, qzh1, hf⟩ := gc_el hf
  refine gx_ki (gx_runS (As := [.int za0]) (rest := []) X hw (c_X12_isLetter l E N za0 zh qzh1) kX12_isLetter mm_X12_127 ⟨Nat.le_of_ble_eq_true rfl, Nat.le_of_ble_eq_true rfl⟩ rfl rfl rfl hl.1 (Nat.le_of_ble_eq_true rfl) rfl dX12_rank_1 ⟨Nat.le_of_ble_eq_true rfl, Nat.le_of_ble_eq_true rfl⟩) hw (fun H locs hw => ?_)
  refine lv_if_eq (tgt := 14) hx hb dX12_rank_4 (by decide) (fun qc3 => ?_) (fun qc3 => ?_)
  · have hf := gif_t hf qc3
    refine lv_iload_n hx hb dX12_rank_14 rfl (lv_at hl 0 rfl) ?_
    refine lv_bipush (v := 21) hx hb dX12_rank_15 (by decide) ?_
    refine lv_isub hx hb dX12_rank_17 ?_
    exact J_18 (za0 - 21) _ _ _ ls hf hw (lv_sub hl [] rfl)
  · have hf := gif_f hf qc3
    refine lv_iload_n hx hb dX12_rank_7 rfl (lv_at hl 0 rfl) ?_
    refine lv_bipush (v := 96) hx hb dX12_rank_8 (by decide) ?_
    refine lv_isub hx hb dX12_rank_10 ?_
    refine lv_goto (tgt := 18) hx hb dX12_rank_11 (by decide) ?_
    exact J_18 (za0 - 96) _ _ _ ls hf hw (lv_sub hl [] rfl)
abbrev rm_X12_isSignOf : Room := { frames := 0, cells := 0, slots := 0, locals := 0 }
set_option maxHeartbeats 4000000 in
set_option maxRecDepth 100000 in
theorem c_X12_isSignOf (l : Launch) (E : gE) (N : Nat) (za0 : Int32) (zh : PH) {h9 : PH} {r9 : Int32} (hf : f_X12_isSignOf N za0 zh = some (r9, h9)) : Met l yX12_isSignOf (gWS yX12_isSignOf cX12_isSignOf 1 (some .boolean)) rm_X12_isSignOf (gPc E [.int za0] zh) (gQi E r9 h9) 0 0 (gA E) := by
  refine gx_met (by decide) ?_ rfl
  intro p e s m below meth c X hr hlk hin2 hw
  have hx := X.1.1
  have hb := X.1.2.1
  have hl := lv_entry [.int za0] (n := 1) (Nat.le_of_ble_eq_true rfl)
  rw [lg_entry_eq]
  generalize (lg_sl [.int za0] ++ List.replicate (1 - (lg_sl [.int za0]).length) Slot.unset).toArray = ls at hl ⊢
  have hl : lv_has ls 1 [(0, .int za0)] := hl
  have J_53 : ∀ (zs0 : Int32) (zh : PH) (H : Heap) (locs : List Loc) (ls : Array Slot), f_X12_isSignOf_53 N zs0 zh = some (r9, h9) → gw E s zh H locs → lv_has ls 1 [] → W p l e rm_X12_isSignOf s m [.int za0].toArray below meth c H locs 0 0 (MQ below (gQi E r9 h9) [.int za0].toArray s 0 0 (gA E)) (F0 m 53 ls [.int zs0]) := by
    intro zs0 zh H locs ls hf hw hl
    unfold f_X12_isSignOf_53 at hf
    exact gx_zret X hr hlk hw hf dX12_isSignOf_53
  have J_48 : ∀ (zh : PH) (H : Heap) (locs : List Loc) (ls : Array Slot), f_X12_isSignOf_48 N zh = some (r9, h9) → gw E s zh H locs → lv_has ls 1 [] → W p l e rm_X12_isSignOf s m [.int za0].toArray below meth c H locs 0 0 (MQ below (gQi E r9 h9) [.int za0].toArray s 0 0 (gA E)) (F0 m 48 ls []) := by
    intro zh H locs ls hf hw hl
    unfold f_X12_isSignOf_48 at hf
    refine lv_iconst (v := 1) hx hb dX12_isSignOf_48 (by decide) ?_
    refine lv_goto (tgt := 53) hx hb dX12_isSignOf_49 (by decide) ?_
    exact J_53 1 _ _ _ ls hf hw (lv_sub hl [] rfl)
  unfold f_X12_isSignOf at hf
  refine lv_iload_n hx hb dX12_isSignOf_0 rfl (lv_at hl 0 rfl) ?_
  refine lv_bipush (v := 40) hx hb dX12_isSignOf_1 (by decide) ?_
  refine lv_icmp_eq (tgt := 48) hx hb dX12_isSignOf_3 (by decide) (fun qc1 => ?_) (fun qc1 => ?_)
  · have hf := gif_t hf qc1
    exact J_48  _ _ _ ls hf hw (lv_sub hl [] rfl)
  · have hf := gif_f hf qc1
    refine lv_iload_n hx hb dX12_isSignOf_6 rfl (lv_at hl 0 rfl) ?_
    refine lv_bipush (v := 41) hx hb dX12_isSignOf_7 (by decide) ?_
    refine lv_icmp_eq (tgt := 48) hx hb dX12_isSignOf_9 (by decide) (fun qc2 => ?_) (fun qc2 => ?_)
    · have hf := gif_t hf qc2
      exact J_48  _ _ _ ls hf hw (lv_sub hl [] rfl)
    · have hf := gif_f hf qc2
      refine lv_iload_n hx hb dX12_isSignOf_12 rfl (lv_at hl 0 rfl) ?_
      refine lv_bipush (v := 59) hx hb dX12_isSignOf_13 (by decide) ?_
      refine lv_icmp_eq (tgt := 48) hx hb dX12_isSignOf_15 (by decide) (fun qc3 => ?_) (fun qc3 => ?_)
      · have hf := gif_t hf qc3
        exact J_48  _ _ _ ls hf hw (lv_sub hl [] rfl)
      · have hf := gif_f hf qc3
        refine W.eq (g2 := F0 m 18 ls []) rfl ?_
        refine lv_iload_n hx hb dX12_isSignOf_18 rfl (lv_at hl 0 rfl) ?_
        refine lv_bipush (v := 61) hx hb dX12_isSignOf_19 (by decide) ?_
        refine lv_icmp_eq (tgt := 48) hx hb dX12_isSignOf_21 (by decide) (fun qc4 => ?_) (fun qc4 => ?_)
        · have hf := gif_t hf qc4
          exact J_48  _ _ _ ls hf hw (lv_sub hl [] rfl)
        · have hf := gif_f hf qc4
          refine lv_iload_n hx hb dX12_isSignOf_24 rfl (lv_at hl 0 rfl) ?_
          refine lv_bipush (v := 60) hx hb dX12_isSignOf_25 (by decide) ?_
          refine lv_icmp_eq (tgt := 48) hx hb dX12_isSignOf_27 (by decide) (fun qc5 => ?_) (fun qc5 => ?_)
          · have hf := gif_t hf qc5
            exact J_48  _ _ _ ls hf hw (lv_sub hl [] rfl)
          · have hf := gif_f hf qc5
            refine lv_iload_n hx hb dX12_isSignOf_30 rfl (lv_at hl 0 rfl) ?_
            refine lv_bipush (v := 43) hx hb dX12_isSignOf_31 (by decide) ?_
            refine lv_icmp_eq (tgt := 48) hx hb dX12_isSignOf_33 (by decide) (fun qc6 => ?_) (fun qc6 => ?_)
            · have hf := gif_t hf qc6
              exact J_48  _ _ _ ls hf hw (lv_sub hl [] rfl)
            · have hf := gif_f hf qc6
              refine lv_iload_n hx hb dX12_isSignOf_36 rfl (lv_at hl 0 rfl) ?_
              refine W.eq (g2 := F0 m 37 ls [.int za0]) rfl ?_
              refine lv_bipush (v := 45) hx hb dX12_isSignOf_37 (by decide) ?_
              refine lv_icmp_eq (tgt := 48) hx hb dX12_isSignOf_39 (by decide) (fun qc7 => ?_) (fun qc7 => ?_)
              · have hf := gif_t hf qc7
                exact J_48  _ _ _ ls hf hw (lv_sub hl [] rfl)
              · have hf := gif_f hf qc7
                refine lv_iload_n hx hb dX12_isSignOf_42 rfl (lv_at hl 0 rfl) ?_
                refine lv_bipush (v := 42) hx hb dX12_isSignOf_43 (by decide) ?_
                refine lv_icmp_ne (tgt := 52) hx hb dX12_isSignOf_45 (by decide) (fun qc8 => ?_) (fun qc8 => ?_)
                · have hf := gif_f hf qc8
                  refine lv_iconst (v := 0) hx hb dX12_isSignOf_52 (by decide) ?_
                  exact J_53 0 _ _ _ ls hf hw (lv_sub hl [] rfl)
                · have hf := gif_t hf qc8
                  exact J_48  _ _ _ ls hf hw (lv_sub hl [] rfl)
abbrev rm_X12_cutAll : Room := { frames := 2, cells := 0, slots := 0, locals := 40 }
set_option maxHeartbeats 4000000 in
set_option maxRecDepth 100000 in
theorem c_X12_cutAll (l : Launch) (E : gE) (N : Nat) (za0 : Nat) (zh : PH) {h9 : PH} (hf : f_X12_cutAll N za0 zh = some h9) : Met l yX12_cutAll (gWS yX12_cutAll cX12_cutAll 7 none) rm_X12_cutAll (gPc E [.ref (gB E + za0)] zh) (gQv E h9) 0 0 (gA E) := by
  refine gx_met (by decide) ?_ rfl
  intro p e s m below meth c X hr hlk hin2 hw
  have hx := X.1.1
  have hb := X.1.2.1
  have hl := lv_entry [.ref (gB E + za0)] (n := 7) (Nat.le_of_ble_eq_true rfl)
  rw [lg_entry_eq]
  generalize (lg_sl [.ref (gB E + za0)] ++ List.replicate (7 - (lg_sl [.ref (gB E + za0)]).length) Slot.unset).toArray = ls at hl ⊢
  have hl : lv_has ls 7 [(0, .ref (gB E + za0))] := hl
  have L_17 : ∀ (zn17 : Nat) (zv0 : Nat) (zv1 : Int32) (zv2 : Int32) (zh : PH) (H : Heap) (locs : List Loc) (ls : Array Slot), gi (fun zk zs => f_X12_cutAll_17 N zk zs.1 zs.2.1 zs.2.2.1 zs.2.2.2) zn17 (zv0, zv1, zv2, zh) = some h9 → gw E s zh H locs → lv_has ls 7 [(0, .ref (gB E + zv0)), (1, .int zv1), (2, .int zv2)] → W p l e rm_X12_cutAll s m [.ref (gB E + za0)].toArray below meth c H locs 0 0 (MQ below (gQv E h9) [.ref (gB E + za0)].toArray s 0 0 (gA E)) (F0 m 17 ls []) := by
    intro zn17
    induction zn17 with
    | zero =>
      intro zv0 zv1 zv2 zh H locs ls hf
      cases hf
    | succ zn17 ih_17 =>
      have J_265 : ∀ (zv0 : Nat) (zv1 : Int32) (zv2 : Int32) (zv5 : Int64) (zh : PH) (H : Heap) (locs : List Loc) (ls : Array Slot), f_X12_cutAll_265 N (gi (fun zk zs => f_X12_cutAll_17 N zk zs.1 zs.2.1 zs.2.2.1 zs.2.2.2) zn17) zv0 zv1 zv2 zv5 zh = some h9 → gw E s zh H locs → lv_has ls 7 [(0, .ref (gB E + zv0)), (1, .int zv1), (2, .int zv2), (5, .long zv5)] → W p l e rm_X12_cutAll s m [.ref (gB E + za0)].toArray below meth c H locs 0 0 (MQ below (gQv E h9) [.ref (gB E + za0)].toArray s 0 0 (gA E)) (F0 m 265 ls []) := by
        intro zv0 zv1 zv2 zv5 zh H locs ls hf hw hl
        unfold f_X12_cutAll_265 at hf
        refine lv_aload_n hx hb dX12_cutAll_265 rfl (lv_at hl 0 rfl) ?_
        obtain ⟨zt1, qzt1, hf⟩ := gb_el hf
        refine gx_getR X hw qzt1 clX12 (by decide) mf_X12_30 dX12_cutAll_266 ?_
        refine lv_iload_n hx hb dX12_cutAll_269 rfl (lv_at hl 1 rfl) ?_
        refine lv_lload hx hb dX12_cutAll_270 (lv_at hl 3 rfl) ?_
        obtain ⟨zh2, qzh2, hf⟩ := gb_el hf
        refine gx_last X hw qzh2 dX12_cutAll_272 (fun H locs hw => ?_)
        obtain ⟨zx3, ezx3⟩ : ∃ y : Int32, y = zv1 + 1 := ⟨_, rfl⟩
        have hf := gl_el hf ezx3
        refine lv_iinc (v := zx3) (lv' := [(1, .int zx3), (0, .ref (gB E + zv0)), (2, .int zv2), (5, .long zv5)]) hx hb dX12_cutAll_273 hl (k := 1) rfl (by rw [ezx3]; rfl) (by decide) rfl (fun ls hl => ?_)
        refine lv_goto (tgt := 17) hx hb dX12_cutAll_276 (by decide) ?_
        exact ih_17 zv0 zx3 zv2 _ _ _ ls hf hw (lv_sub hl [1, 0, 2] rfl)
      have J_261 : ∀ (zv0 : Nat) (zv1 : Int32) (zv2 : Int32) (zv5 : Int64) (zs0 : Int32) (zs1 : Int32) (zs2 : Nat) (zh : PH) (H : Heap) (locs : List Loc) (ls : Array Slot), f_X12_cutAll_261 N (gi (fun zk zs => f_X12_cutAll_17 N zk zs.1 zs.2.1 zs.2.2.1 zs.2.2.2) zn17) zv0 zv1 zv2 zv5 zs0 zs1 zs2 zh = some h9 → gw E s zh H locs → lv_has ls 7 [(0, .ref (gB E + zv0)), (1, .int zv1), (2, .int zv2), (5, .long zv5)] → W p l e rm_X12_cutAll s m [.ref (gB E + za0)].toArray below meth c H locs 0 0 (MQ below (gQv E h9) [.ref (gB E + za0)].toArray s 0 0 (gA E)) (F0 m 261 ls [.int zs0, .int zs1, .ref (gB E + zs2)]) := by
        intro zv0 zv1 zv2 zv5 zs0 zs1 zs2 zh H locs ls hf hw hl
        unfold f_X12_cutAll_261 at hf
        obtain ⟨zh1, qzh1, hf⟩ := gb_el hf
        refine gx_iast X hw qzh1 dX12_cutAll_261 (fun H locs hw => ?_)
        obtain ⟨zx2, ezx2⟩ : ∃ y : Int32, y = zv2 + 1 := ⟨_, rfl⟩
        have hf := gl_el hf ezx2
        refine lv_iinc (v := zx2) (lv' := [(2, .int zx2), (0, .ref (gB E + zv0)), (1, .int zv1), (5, .long zv5)]) hx hb dX12_cutAll_262 hl (k := 2) rfl (by rw [ezx2]; rfl) (by decide) rfl (fun ls hl => ?_)
        exact J_265 zv0 zv1 zx2 zv5 _ _ _ ls hf hw (lv_sub hl [1, 2, 0, 3] rfl)
      have J_236 : ∀ (zv0 : Nat) (zv1 : Int32) (zv2 : Int32) (zv5 : Int64) (zs0 : Int32) (zs1 : Int32) (zs2 : Nat) (zh : PH) (H : Heap) (locs : List Loc) (ls : Array Slot), f_X12_cutAll_236 N (gi (fun zk zs => f_X12_cutAll_17 N zk zs.1 zs.2.1 zs.2.2.1 zs.2.2.2) zn17) zv0 zv1 zv2 zv5 zs0 zs1 zs2 zh = some h9 → gw E s zh H locs → lv_has ls 7 [(0, .ref (gB E + zv0)), (1, .int zv1), (2, .int zv2), (5, .long zv5)] → W p l e rm_X12_cutAll s m [.ref (gB E + za0)].toArray below meth c H locs 0 0 (MQ below (gQv E h9) [.ref (gB E + za0)].toArray s 0 0 (gA E)) (F0 m 236 ls [.int zs0, .int zs1, .ref (gB E + zs2)]) := by
        intro zv0 zv1 zv2 zv5 zs0 zs1 zs2 zh H locs ls hf hw hl
        unfold f_X12_cutAll_236 at hf
        obtain ⟨zh1, qzh1, hf⟩ := gb_el hf
        refine gx_iast X hw qzh1 dX12_cutAll_236 (fun H locs hw => ?_)
        refine lv_goto (tgt := 265) hx hb dX12_cutAll_237 (by decide) ?_
        exact J_265 zv0 zv1 zv2 zv5 _ _ _ ls hf hw (lv_sub hl [0, 1, 2, 3] rfl)
      have J_218 : ∀ (zv0 : Nat) (zv1 : Int32) (zv2 : Int32) (zv4 : Int32) (zv5 : Int64) (zh : PH) (H : Heap) (locs : List Loc) (ls : Array Slot), f_X12_cutAll_218 N (gi (fun zk zs => f_X12_cutAll_17 N zk zs.1 zs.2.1 zs.2.2.1 zs.2.2.2) zn17) zv0 zv1 zv2 zv4 zv5 zh = some h9 → gw E s zh H locs → lv_has ls 7 [(0, .ref (gB E + zv0)), (1, .int zv1), (2, .int zv2), (4, .int zv4), (5, .long zv5)] → W p l e rm_X12_cutAll s m [.ref (gB E + za0)].toArray below meth c H locs 0 0 (MQ below (gQv E h9) [.ref (gB E + za0)].toArray s 0 0 (gA E)) (F0 m 218 ls []) := by
        intro zv0 zv1 zv2 zv4 zv5 zh H locs ls hf hw hl
        unfold f_X12_cutAll_218 at hf
        refine lv_aload_n hx hb dX12_cutAll_218 rfl (lv_at hl 0 rfl) ?_
        obtain ⟨zt1, qzt1, hf⟩ := gb_el hf
        refine gx_getR X hw qzt1 clX12 (by decide) mf_X12_24 dX12_cutAll_219 ?_
        refine lv_iload_n hx hb dX12_cutAll_222 rfl (lv_at hl 1 rfl) ?_
        refine lv_iload_n hx hb dX12_cutAll_223 rfl (lv_at hl 2 rfl) ?_
        refine lv_iload hx hb dX12_cutAll_224 (lv_at hl 3 rfl) ?_
        refine lv_isub hx hb dX12_cutAll_226 ?_
        refine lv_iconst (v := 4) hx hb dX12_cutAll_227 (by decide) ?_
        refine lv_icmp_le (tgt := 235) hx hb dX12_cutAll_228 (by decide) (fun qc2 => ?_) (fun qc2 => ?_)
        · have hf := gif_t hf qc2
          refine lv_iconst (v := 2) hx hb dX12_cutAll_235 (by decide) ?_
          exact J_236 zv0 zv1 zv2 zv5 2 zv1 zt1 _ _ _ ls hf hw (lv_sub hl [0, 1, 2, 4] rfl)
        · have hf := gif_f hf qc2
          refine lv_iconst (v := 4) hx hb dX12_cutAll_231 (by decide) ?_
          refine W.eq (g2 := F0 m 232 ls [.int 4, .int zv1, .ref (gB E + zt1)]) rfl ?_
          refine lv_goto (tgt := 236) hx hb dX12_cutAll_232 (by decide) ?_
          exact J_236 zv0 zv1 zv2 zv5 4 zv1 zt1 _ _ _ ls hf hw (lv_sub hl [0, 1, 2, 4] rfl)
      have L_159 : ∀ (zn159 : Nat) (zv0 : Nat) (zv1 : Int32) (zv2 : Int32) (zv4 : Int32) (zv5 : Int64) (zh : PH) (H : Heap) (locs : List Loc) (ls : Array Slot), gi (fun zk zs => f_X12_cutAll_159 N (gi (fun zk zs => f_X12_cutAll_17 N zk zs.1 zs.2.1 zs.2.2.1 zs.2.2.2) zn17) zk zs.1 zs.2.1 zs.2.2.1 zs.2.2.2.1 zs.2.2.2.2.1 zs.2.2.2.2.2) zn159 (zv0, zv1, zv2, zv4, zv5, zh) = some h9 → gw E s zh H locs → lv_has ls 7 [(0, .ref (gB E + zv0)), (1, .int zv1), (2, .int zv2), (4, .int zv4), (5, .long zv5)] → W p l e rm_X12_cutAll s m [.ref (gB E + za0)].toArray below meth c H locs 0 0 (MQ below (gQv E h9) [.ref (gB E + za0)].toArray s 0 0 (gA E)) (F0 m 159 ls []) := by
        intro zn159
        induction zn159 with
        | zero =>
          intro zv0 zv1 zv2 zv4 zv5 zh H locs ls hf
          cases hf
        | succ zn159 ih_159 =>
          have J_210 : ∀ (zv0 : Nat) (zv1 : Int32) (zv2 : Int32) (zv4 : Int32) (zs0 : Int64) (zh : PH) (H : Heap) (locs : List Loc) (ls : Array Slot), f_X12_cutAll_210 N (gi (fun zk zs => f_X12_cutAll_17 N zk zs.1 zs.2.1 zs.2.2.1 zs.2.2.2) zn17) (gi (fun zk zs => f_X12_cutAll_159 N (gi (fun zk zs => f_X12_cutAll_17 N zk zs.1 zs.2.1 zs.2.2.1 zs.2.2.2) zn17) zk zs.1 zs.2.1 zs.2.2.1 zs.2.2.2.1 zs.2.2.2.2.1 zs.2.2.2.2.2) zn159) zv0 zv1 zv2 zv4 zs0 zh = some h9 → gw E s zh H locs → lv_has ls 7 [(0, .ref (gB E + zv0)), (1, .int zv1), (2, .int zv2), (4, .int zv4)] → W p l e rm_X12_cutAll s m [.ref (gB E + za0)].toArray below meth c H locs 0 0 (MQ below (gQv E h9) [.ref (gB E + za0)].toArray s 0 0 (gA E)) (F0 m 210 ls [.long zs0]) := by
            intro zv0 zv1 zv2 zv4 zs0 zh H locs ls hf hw hl
            unfold f_X12_cutAll_210 at hf
            refine lv_lstore (lv' := [(5, .long zs0), (0, .ref (gB E + zv0)), (1, .int zv1), (2, .int zv2), (4, .int zv4)]) hx hb dX12_cutAll_210 hl (by decide) rfl (fun ls hl => ?_)
            obtain ⟨zx1, ezx1⟩ : ∃ y : Int32, y = zv2 + 1 := ⟨_, rfl⟩
            have hf := gl_el hf ezx1
            refine lv_iinc (v := zx1) (lv' := [(2, .int zx1), (5, .long zs0), (0, .ref (gB E + zv0)), (1, .int zv1), (4, .int zv4)]) hx hb dX12_cutAll_212 hl (k := 3) rfl (by rw [ezx1]; rfl) (by decide) rfl (fun ls hl => ?_)
            refine lv_goto (tgt := 159) hx hb dX12_cutAll_215 (by decide) ?_
            exact ih_159 zv0 zv1 zx1 zv4 zs0 _ _ _ ls hf hw (lv_sub hl [2, 3, 0, 4, 1] rfl)
          intro zv0 zv1 zv2 zv4 zv5 zh H locs ls hf hw hl
          have hf := gi_s hf
          dsimp only at hf
          unfold f_X12_cutAll_159 at hf
          refine lv_iload_n hx hb dX12_cutAll_159 rfl (lv_at hl 2 rfl) ?_
          refine lv_aload_n hx hb dX12_cutAll_160 rfl (lv_at hl 0 rfl) ?_
          obtain ⟨zt1, qzt1, hf⟩ := gb_el hf
          refine gx_getI X hw qzt1 clX12 (by decide) mf_X12_131 dX12_cutAll_161 ?_
          refine lv_icmp_ge (tgt := 218) hx hb dX12_cutAll_164 (by decide) (fun qc2 => ?_) (fun qc2 => ?_)
          · have hf := gif_t hf qc2
            exact J_218 zv0 zv1 zv2 zv4 zv5 _ _ _ ls hf hw (lv_sub hl [0, 1, 2, 3, 4] rfl)
          · have hf := gif_f hf qc2
            refine lv_aload_n hx hb dX12_cutAll_167 rfl (lv_at hl 0 rfl) ?_
            obtain ⟨zt3, qzt3, hf⟩ := gb_el hf
            refine gx_getR X hw qzt3 clX12 (by decide) mf_X12_14 dX12_cutAll_168 ?_
            refine lv_iload_n hx hb dX12_cutAll_171 rfl (lv_at hl 2 rfl) ?_
            obtain ⟨zt4, qzt4, hf⟩ := gb_el hf
            refine gx_iald X hw qzt4 dX12_cutAll_172 ?_
            obtain ⟨zt6, zh5, qzh5, hf⟩ := gc_el hf
            refine gx_ki (gx_runS (As := [.int zt4]) (rest := []) X hw (c_X12_isDigit l E N zt4 zh qzh5) kX12_isDigit mm_X12_140 ⟨Nat.le_of_ble_eq_true rfl, Nat.le_of_ble_eq_true rfl⟩ rfl rfl rfl hl.1 (Nat.le_of_ble_eq_true rfl) rfl dX12_cutAll_173 ⟨Nat.le_of_ble_eq_true rfl, Nat.le_of_ble_eq_true rfl⟩) hw (fun H locs hw => ?_)
            refine W.eq (g2 := F0 m 176 ls [.int zt6]) rfl ?_
            refine lv_if_eq (tgt := 218) hx hb dX12_cutAll_176 (by decide) (fun qc7 => ?_) (fun qc7 => ?_)
            · have hf := gif_t hf qc7
              exact J_218 zv0 zv1 zv2 zv4 zv5 _ _ _ ls hf hw (lv_sub hl [0, 1, 2, 3, 4] rfl)
            · have hf := gif_f hf qc7
              refine lv_iload_n hx hb dX12_cutAll_179 rfl (lv_at hl 2 rfl) ?_
              refine lv_iload hx hb dX12_cutAll_180 (lv_at hl 3 rfl) ?_
              refine lv_isub hx hb dX12_cutAll_182 ?_
              refine lv_iconst (v := 4) hx hb dX12_cutAll_183 (by decide) ?_
              refine lv_icmp_ge (tgt := 208) hx hb dX12_cutAll_184 (by decide) (fun qc8 => ?_) (fun qc8 => ?_)
              · have hf := gif_t hf qc8
                refine lv_lload hx hb dX12_cutAll_208 (lv_at hl 4 rfl) ?_
                exact J_210 zv0 zv1 zv2 zv4 zv5 _ _ _ ls hf hw (lv_sub hl [0, 1, 2, 3] rfl)
              · have hf := gif_f hf qc8
                refine lv_ldc2 (v := 10) hx hb X.1.2.2.2.1 (X.1.2.2.2.2 _ mK_X12_143) dX12_cutAll_187 ?_
                refine lv_lload hx hb dX12_cutAll_190 (lv_at hl 4 rfl) ?_
                refine lv_lmul hx hb dX12_cutAll_192 ?_
                refine lv_aload_n hx hb dX12_cutAll_193 rfl (lv_at hl 0 rfl) ?_
                refine W.eq (g2 := F0 m 194 ls [.ref (gB E + zv0), .long (10 * zv5)]) rfl ?_
                obtain ⟨zt9, qzt9, hf⟩ := gb_el hf
                refine gx_getR X hw qzt9 clX12 (by decide) mf_X12_14 dX12_cutAll_194 ?_
                refine lv_iload_n hx hb dX12_cutAll_197 rfl (lv_at hl 2 rfl) ?_
                obtain ⟨zt10, qzt10, hf⟩ := gb_el hf
                refine gx_iald X hw qzt10 dX12_cutAll_198 ?_
                refine lv_i2l hx hb dX12_cutAll_199 rfl ?_
                refine lv_ladd hx hb dX12_cutAll_200 ?_
                refine lv_ldc2 (v := 48) hx hb X.1.2.2.2.1 (X.1.2.2.2.2 _ mK_X12_145) dX12_cutAll_201 ?_
                refine lv_lsub hx hb dX12_cutAll_204 ?_
                refine lv_goto (tgt := 210) hx hb dX12_cutAll_205 (by decide) ?_
                exact J_210 zv0 zv1 zv2 zv4 (((10 * zv5) + (Int32.toInt64 zt10)) - 48) _ _ _ ls hf hw (lv_sub hl [0, 1, 2, 3] rfl)
      have J_148 : ∀ (zv0 : Nat) (zv1 : Int32) (zv2 : Int32) (zv5 : Int64) (zs0 : Int32) (zs1 : Int32) (zs2 : Nat) (zh : PH) (H : Heap) (locs : List Loc) (ls : Array Slot), f_X12_cutAll_148 N (gi (fun zk zs => f_X12_cutAll_17 N zk zs.1 zs.2.1 zs.2.2.1 zs.2.2.2) zn17) zv0 zv1 zv2 zv5 zs0 zs1 zs2 zh = some h9 → gw E s zh H locs → lv_has ls 7 [(0, .ref (gB E + zv0)), (1, .int zv1), (2, .int zv2), (5, .long zv5)] → W p l e rm_X12_cutAll s m [.ref (gB E + za0)].toArray below meth c H locs 0 0 (MQ below (gQv E h9) [.ref (gB E + za0)].toArray s 0 0 (gA E)) (F0 m 148 ls [.int zs0, .int zs1, .ref (gB E + zs2)]) := by
        intro zv0 zv1 zv2 zv5 zs0 zs1 zs2 zh H locs ls hf hw hl
        unfold f_X12_cutAll_148 at hf
        obtain ⟨zh1, qzh1, hf⟩ := gb_el hf
        refine gx_iast X hw qzh1 dX12_cutAll_148 (fun H locs hw => ?_)
        refine lv_goto (tgt := 265) hx hb dX12_cutAll_149 (by decide) ?_
        exact J_265 zv0 zv1 zv2 zv5 _ _ _ ls hf hw (lv_sub hl [0, 1, 2, 3] rfl)
      have J_129 : ∀ (zv0 : Nat) (zv1 : Int32) (zv2 : Int32) (zv4 : Int32) (zv5 : Int64) (zh : PH) (H : Heap) (locs : List Loc) (ls : Array Slot), f_X12_cutAll_129 N (gi (fun zk zs => f_X12_cutAll_17 N zk zs.1 zs.2.1 zs.2.2.1 zs.2.2.2) zn17) zv0 zv1 zv2 zv4 zv5 zh = some h9 → gw E s zh H locs → lv_has ls 7 [(0, .ref (gB E + zv0)), (1, .int zv1), (2, .int zv2), (4, .int zv4), (5, .long zv5)] → W p l e rm_X12_cutAll s m [.ref (gB E + za0)].toArray below meth c H locs 0 0 (MQ below (gQv E h9) [.ref (gB E + za0)].toArray s 0 0 (gA E)) (F0 m 129 ls []) := by
        intro zv0 zv1 zv2 zv4 zv5 zh H locs ls hf hw hl
        unfold f_X12_cutAll_129 at hf
        refine lv_aload_n hx hb dX12_cutAll_129 rfl (lv_at hl 0 rfl) ?_
        obtain ⟨zt1, qzt1, hf⟩ := gb_el hf
        refine gx_getR X hw qzt1 clX12 (by decide) mf_X12_24 dX12_cutAll_130 ?_
        refine lv_iload_n hx hb dX12_cutAll_133 rfl (lv_at hl 1 rfl) ?_
        refine lv_iload_n hx hb dX12_cutAll_134 rfl (lv_at hl 2 rfl) ?_
        refine lv_iload hx hb dX12_cutAll_135 (lv_at hl 3 rfl) ?_
        refine lv_isub hx hb dX12_cutAll_137 ?_
        refine lv_bipush (v := 8) hx hb dX12_cutAll_138 (by decide) ?_
        refine lv_icmp_le (tgt := 147) hx hb dX12_cutAll_140 (by decide) (fun qc2 => ?_) (fun qc2 => ?_)
        · have hf := gif_t hf qc2
          refine lv_iconst (v := 1) hx hb dX12_cutAll_147 (by decide) ?_
          exact J_148 zv0 zv1 zv2 zv5 1 zv1 zt1 _ _ _ ls hf hw (lv_sub hl [0, 1, 2, 4] rfl)
        · have hf := gif_f hf qc2
          refine lv_iconst (v := 4) hx hb dX12_cutAll_143 (by decide) ?_
          refine W.eq (g2 := F0 m 144 ls [.int 4, .int zv1, .ref (gB E + zt1)]) rfl ?_
          refine lv_goto (tgt := 148) hx hb dX12_cutAll_144 (by decide) ?_
          exact J_148 zv0 zv1 zv2 zv5 4 zv1 zt1 _ _ _ ls hf hw (lv_sub hl [0, 1, 2, 4] rfl)
      have L_70 : ∀ (zn70 : Nat) (zv0 : Nat) (zv1 : Int32) (zv2 : Int32) (zv4 : Int32) (zv5 : Int64) (zh : PH) (H : Heap) (locs : List Loc) (ls : Array Slot), gi (fun zk zs => f_X12_cutAll_70 N (gi (fun zk zs => f_X12_cutAll_17 N zk zs.1 zs.2.1 zs.2.2.1 zs.2.2.2) zn17) zk zs.1 zs.2.1 zs.2.2.1 zs.2.2.2.1 zs.2.2.2.2.1 zs.2.2.2.2.2) zn70 (zv0, zv1, zv2, zv4, zv5, zh) = some h9 → gw E s zh H locs → lv_has ls 7 [(0, .ref (gB E + zv0)), (1, .int zv1), (2, .int zv2), (4, .int zv4), (5, .long zv5)] → W p l e rm_X12_cutAll s m [.ref (gB E + za0)].toArray below meth c H locs 0 0 (MQ below (gQv E h9) [.ref (gB E + za0)].toArray s 0 0 (gA E)) (F0 m 70 ls []) := by
        intro zn70
        induction zn70 with
        | zero =>
          intro zv0 zv1 zv2 zv4 zv5 zh H locs ls hf
          cases hf
        | succ zn70 ih_70 =>
          have J_121 : ∀ (zv0 : Nat) (zv1 : Int32) (zv2 : Int32) (zv4 : Int32) (zs0 : Int64) (zh : PH) (H : Heap) (locs : List Loc) (ls : Array Slot), f_X12_cutAll_121 N (gi (fun zk zs => f_X12_cutAll_17 N zk zs.1 zs.2.1 zs.2.2.1 zs.2.2.2) zn17) (gi (fun zk zs => f_X12_cutAll_70 N (gi (fun zk zs => f_X12_cutAll_17 N zk zs.1 zs.2.1 zs.2.2.1 zs.2.2.2) zn17) zk zs.1 zs.2.1 zs.2.2.1 zs.2.2.2.1 zs.2.2.2.2.1 zs.2.2.2.2.2) zn70) zv0 zv1 zv2 zv4 zs0 zh = some h9 → gw E s zh H locs → lv_has ls 7 [(0, .ref (gB E + zv0)), (1, .int zv1), (2, .int zv2), (4, .int zv4)] → W p l e rm_X12_cutAll s m [.ref (gB E + za0)].toArray below meth c H locs 0 0 (MQ below (gQv E h9) [.ref (gB E + za0)].toArray s 0 0 (gA E)) (F0 m 121 ls [.long zs0]) := by
            intro zv0 zv1 zv2 zv4 zs0 zh H locs ls hf hw hl
            unfold f_X12_cutAll_121 at hf
            refine lv_lstore (lv' := [(5, .long zs0), (0, .ref (gB E + zv0)), (1, .int zv1), (2, .int zv2), (4, .int zv4)]) hx hb dX12_cutAll_121 hl (by decide) rfl (fun ls hl => ?_)
            obtain ⟨zx1, ezx1⟩ : ∃ y : Int32, y = zv2 + 1 := ⟨_, rfl⟩
            have hf := gl_el hf ezx1
            refine lv_iinc (v := zx1) (lv' := [(2, .int zx1), (5, .long zs0), (0, .ref (gB E + zv0)), (1, .int zv1), (4, .int zv4)]) hx hb dX12_cutAll_123 hl (k := 3) rfl (by rw [ezx1]; rfl) (by decide) rfl (fun ls hl => ?_)
            refine lv_goto (tgt := 70) hx hb dX12_cutAll_126 (by decide) ?_
            exact ih_70 zv0 zv1 zx1 zv4 zs0 _ _ _ ls hf hw (lv_sub hl [2, 3, 0, 4, 1] rfl)
          intro zv0 zv1 zv2 zv4 zv5 zh H locs ls hf hw hl
          have hf := gi_s hf
          dsimp only at hf
          unfold f_X12_cutAll_70 at hf
          refine lv_iload_n hx hb dX12_cutAll_70 rfl (lv_at hl 2 rfl) ?_
          refine lv_aload_n hx hb dX12_cutAll_71 rfl (lv_at hl 0 rfl) ?_
          obtain ⟨zt1, qzt1, hf⟩ := gb_el hf
          refine gx_getI X hw qzt1 clX12 (by decide) mf_X12_131 dX12_cutAll_72 ?_
          refine lv_icmp_ge (tgt := 129) hx hb dX12_cutAll_75 (by decide) (fun qc2 => ?_) (fun qc2 => ?_)
          · have hf := gif_t hf qc2
            exact J_129 zv0 zv1 zv2 zv4 zv5 _ _ _ ls hf hw (lv_sub hl [0, 1, 2, 3, 4] rfl)
          · have hf := gif_f hf qc2
            refine lv_aload_n hx hb dX12_cutAll_78 rfl (lv_at hl 0 rfl) ?_
            obtain ⟨zt3, qzt3, hf⟩ := gb_el hf
            refine gx_getR X hw qzt3 clX12 (by decide) mf_X12_14 dX12_cutAll_79 ?_
            refine lv_iload_n hx hb dX12_cutAll_82 rfl (lv_at hl 2 rfl) ?_
            obtain ⟨zt4, qzt4, hf⟩ := gb_el hf
            refine gx_iald X hw qzt4 dX12_cutAll_83 ?_
            obtain ⟨zt6, zh5, qzh5, hf⟩ := gc_el hf
            refine gx_ki (gx_runS (As := [.int zt4]) (rest := []) X hw (c_X12_isLetter l E N zt4 zh qzh5) kX12_isLetter mm_X12_127 ⟨Nat.le_of_ble_eq_true rfl, Nat.le_of_ble_eq_true rfl⟩ rfl rfl rfl hl.1 (Nat.le_of_ble_eq_true rfl) rfl dX12_cutAll_84 ⟨Nat.le_of_ble_eq_true rfl, Nat.le_of_ble_eq_true rfl⟩) hw (fun H locs hw => ?_)
            refine W.eq (g2 := F0 m 87 ls [.int zt6]) rfl ?_
            refine lv_if_eq (tgt := 129) hx hb dX12_cutAll_87 (by decide) (fun qc7 => ?_) (fun qc7 => ?_)
            · have hf := gif_t hf qc7
              exact J_129 zv0 zv1 zv2 zv4 zv5 _ _ _ ls hf hw (lv_sub hl [0, 1, 2, 3, 4] rfl)
            · have hf := gif_f hf qc7
              refine lv_iload_n hx hb dX12_cutAll_90 rfl (lv_at hl 2 rfl) ?_
              refine lv_iload hx hb dX12_cutAll_91 (lv_at hl 3 rfl) ?_
              refine lv_isub hx hb dX12_cutAll_93 ?_
              refine lv_bipush (v := 8) hx hb dX12_cutAll_94 (by decide) ?_
              refine lv_icmp_ge (tgt := 119) hx hb dX12_cutAll_96 (by decide) (fun qc8 => ?_) (fun qc8 => ?_)
              · have hf := gif_t hf qc8
                refine lv_lload hx hb dX12_cutAll_119 (lv_at hl 4 rfl) ?_
                exact J_121 zv0 zv1 zv2 zv4 zv5 _ _ _ ls hf hw (lv_sub hl [0, 1, 2, 3] rfl)
              · have hf := gif_f hf qc8
                refine lv_ldc2 (v := 37) hx hb X.1.2.2.2.1 (X.1.2.2.2.2 _ mK_X12_134) dX12_cutAll_99 ?_
                refine lv_lload hx hb dX12_cutAll_102 (lv_at hl 4 rfl) ?_
                refine lv_lmul hx hb dX12_cutAll_104 ?_
                refine lv_aload_n hx hb dX12_cutAll_105 rfl (lv_at hl 0 rfl) ?_
                refine W.eq (g2 := F0 m 106 ls [.ref (gB E + zv0), .long (37 * zv5)]) rfl ?_
                obtain ⟨zt9, qzt9, hf⟩ := gb_el hf
                refine gx_getR X hw qzt9 clX12 (by decide) mf_X12_14 dX12_cutAll_106 ?_
                refine lv_iload_n hx hb dX12_cutAll_109 rfl (lv_at hl 2 rfl) ?_
                obtain ⟨zt10, qzt10, hf⟩ := gb_el hf
                refine gx_iald X hw qzt10 dX12_cutAll_110 ?_
                obtain ⟨zt12, zh11, qzh11, hf⟩ := gc_el hf
                refine gx_ki (gx_runS (As := [.int zt10]) (rest := [.long (37 * zv5)]) X hw (c_X12_rank l E N zt10 zh5 qzh11) kX12_rank mm_X12_136 ⟨Nat.le_of_ble_eq_true rfl, Nat.le_of_ble_eq_true rfl⟩ rfl rfl rfl hl.1 (Nat.le_of_ble_eq_true rfl) rfl dX12_cutAll_111 ⟨Nat.le_of_ble_eq_true rfl, Nat.le_of_ble_eq_true rfl⟩) hw (fun H locs hw => ?_)
                refine lv_i2l hx hb dX12_cutAll_114 rfl ?_
                refine lv_ladd hx hb dX12_cutAll_115 ?_
                refine lv_goto (tgt := 121) hx hb dX12_cutAll_116 (by decide) ?_
                exact J_121 zv0 zv1 zv2 zv4 ((37 * zv5) + (Int32.toInt64 zt12)) _ _ _ ls hf hw (lv_sub hl [0, 1, 2, 3] rfl)
      have J_44 : ∀ (zv0 : Nat) (zv1 : Int32) (zv2 : Int32) (zh : PH) (H : Heap) (locs : List Loc) (ls : Array Slot), f_X12_cutAll_44 N (gi (fun zk zs => f_X12_cutAll_17 N zk zs.1 zs.2.1 zs.2.2.1 zs.2.2.2) zn17) zv0 zv1 zv2 zh = some h9 → gw E s zh H locs → lv_has ls 7 [(0, .ref (gB E + zv0)), (1, .int zv1), (2, .int zv2)] → W p l e rm_X12_cutAll s m [.ref (gB E + za0)].toArray below meth c H locs 0 0 (MQ below (gQv E h9) [.ref (gB E + za0)].toArray s 0 0 (gA E)) (F0 m 44 ls []) := by
        intro zv0 zv1 zv2 zh H locs ls hf hw hl
        unfold f_X12_cutAll_44 at hf
        obtain ⟨zx1, ezx1⟩ : ∃ y : Int32, y = zv2 + 1 := ⟨_, rfl⟩
        have hf := gl_el hf ezx1
        refine lv_iinc (v := zx1) (lv' := [(2, .int zx1), (0, .ref (gB E + zv0)), (1, .int zv1)]) hx hb dX12_cutAll_44 hl (k := 2) rfl (by rw [ezx1]; rfl) (by decide) rfl (fun ls hl => ?_)
        refine lv_goto (tgt := 17) hx hb dX12_cutAll_47 (by decide) ?_
        exact ih_17 zv0 zv1 zx1 _ _ _ ls hf hw (lv_sub hl [1, 2, 0] rfl)
      intro zv0 zv1 zv2 zh H locs ls hf hw hl
      have hf := gi_s hf
      dsimp only at hf
      unfold f_X12_cutAll_17 at hf
      refine lv_iload_n hx hb dX12_cutAll_17 rfl (lv_at hl 2 rfl) ?_
      refine lv_aload_n hx hb dX12_cutAll_18 rfl (lv_at hl 0 rfl) ?_
      obtain ⟨zt1, qzt1, hf⟩ := gb_el hf
      refine gx_getI X hw qzt1 clX12 (by decide) mf_X12_131 dX12_cutAll_19 ?_
      refine lv_icmp_ge (tgt := 279) hx hb dX12_cutAll_22 (by decide) (fun qc2 => ?_) (fun qc2 => ?_)
      · have hf := gif_t hf qc2
        refine lv_aload_n hx hb dX12_cutAll_279 rfl (lv_at hl 0 rfl) ?_
        obtain ⟨zt3, qzt3, hf⟩ := gb_el hf
        refine gx_getR X hw qzt3 clX12 (by decide) mf_X12_24 dX12_cutAll_280 ?_
        refine lv_iload_n hx hb dX12_cutAll_283 rfl (lv_at hl 1 rfl) ?_
        refine lv_iconst (v := 0) hx hb dX12_cutAll_284 (by decide) ?_
        obtain ⟨zh4, qzh4, hf⟩ := gb_el hf
        refine gx_iast X hw qzh4 dX12_cutAll_285 (fun H locs hw => ?_)
        refine W.eq (g2 := F0 m 286 ls []) rfl ?_
        refine lv_aload_n hx hb dX12_cutAll_286 rfl (lv_at hl 0 rfl) ?_
        obtain ⟨zt5, qzt5, hf⟩ := gb_el hf
        refine gx_getR X hw qzt5 clX12 (by decide) mf_X12_27 dX12_cutAll_287 ?_
        refine lv_iload_n hx hb dX12_cutAll_290 rfl (lv_at hl 1 rfl) ?_
        refine lv_aload_n hx hb dX12_cutAll_291 rfl (lv_at hl 0 rfl) ?_
        obtain ⟨zt6, qzt6, hf⟩ := gb_el hf
        refine gx_getI X hw qzt6 clX12 (by decide) mf_X12_131 dX12_cutAll_292 ?_
        obtain ⟨zh7, qzh7, hf⟩ := gb_el hf
        refine gx_iast X hw qzh7 dX12_cutAll_295 (fun H locs hw => ?_)
        refine lv_aload_n hx hb dX12_cutAll_296 rfl (lv_at hl 0 rfl) ?_
        refine lv_iconst (v := 0) hx hb dX12_cutAll_297 (by decide) ?_
        obtain ⟨zh8, qzh8, hf⟩ := gb_el hf
        refine gx_putV X hw qzh8 clX12 (by decide) mf_X12_150 rfl rfl rfl dX12_cutAll_298 (fun H locs hw => ?_)
        refine lv_aload_n hx hb dX12_cutAll_301 rfl (lv_at hl 0 rfl) ?_
        refine W.eq (g2 := F0 m 302 ls [.ref (gB E + zv0)]) rfl ?_
        refine lv_iconst (v := 0) hx hb dX12_cutAll_302 (by decide) ?_
        obtain ⟨zh9, qzh9, hf⟩ := gb_el hf
        refine gx_putV X hw qzh9 clX12 (by decide) mf_X12_153 rfl rfl rfl dX12_cutAll_303 (fun H locs hw => ?_)
        exact gx_vret X hr hlk hw hf dX12_cutAll_306
      · have hf := gif_f hf qc2
        refine lv_aload_n hx hb dX12_cutAll_25 rfl (lv_at hl 0 rfl) ?_
        obtain ⟨zt10, qzt10, hf⟩ := gb_el hf
        refine gx_getR X hw qzt10 clX12 (by decide) mf_X12_14 dX12_cutAll_26 ?_
        refine lv_iload_n hx hb dX12_cutAll_29 rfl (lv_at hl 2 rfl) ?_
        obtain ⟨zt11, qzt11, hf⟩ := gb_el hf
        refine gx_iald X hw qzt11 dX12_cutAll_30 ?_
        refine lv_istore_n (lv' := [(3, .int zt11), (0, .ref (gB E + zv0)), (1, .int zv1), (2, .int zv2)]) hx hb dX12_cutAll_31 rfl hl (by decide) rfl (fun ls hl => ?_)
        refine W.eq (g2 := F0 m 32 ls []) rfl ?_
        refine lv_iload_n hx hb dX12_cutAll_32 rfl (lv_at hl 0 rfl) ?_
        refine lv_bipush (v := 10) hx hb dX12_cutAll_33 (by decide) ?_
        refine lv_icmp_eq (tgt := 44) hx hb dX12_cutAll_35 (by decide) (fun qc12 => ?_) (fun qc12 => ?_)
        · have hf := gif_t hf qc12
          exact J_44 zv0 zv1 zv2 _ _ _ ls hf hw (lv_sub hl [1, 2, 3] rfl)
        · have hf := gif_f hf qc12
          refine lv_iload_n hx hb dX12_cutAll_38 rfl (lv_at hl 0 rfl) ?_
          refine lv_bipush (v := 32) hx hb dX12_cutAll_39 (by decide) ?_
          refine lv_icmp_ne (tgt := 50) hx hb dX12_cutAll_41 (by decide) (fun qc13 => ?_) (fun qc13 => ?_)
          · have hf := gif_f hf qc13
            refine lv_iload_n hx hb dX12_cutAll_50 rfl (lv_at hl 3 rfl) ?_
            refine lv_istore (lv' := [(4, .int zv2), (3, .int zt11), (0, .ref (gB E + zv0)), (1, .int zv1), (2, .int zv2)]) hx hb dX12_cutAll_51 hl (by decide) rfl (fun ls hl => ?_)
            refine lv_lconst (v := 0) hx hb dX12_cutAll_53 (by decide) ?_
            refine lv_lstore (lv' := [(5, .long 0), (4, .int zv2), (3, .int zt11), (0, .ref (gB E + zv0)), (1, .int zv1), (2, .int zv2)]) hx hb dX12_cutAll_54 hl (by decide) rfl (fun ls hl => ?_)
            refine W.eq (g2 := F0 m 56 ls []) rfl ?_
            refine lv_aload_n hx hb dX12_cutAll_56 rfl (lv_at hl 3 rfl) ?_
            obtain ⟨zt14, qzt14, hf⟩ := gb_el hf
            refine gx_getR X hw qzt14 clX12 (by decide) mf_X12_27 dX12_cutAll_57 ?_
            refine lv_iload_n hx hb dX12_cutAll_60 rfl (lv_at hl 4 rfl) ?_
            refine lv_iload_n hx hb dX12_cutAll_61 rfl (lv_at hl 5 rfl) ?_
            obtain ⟨zh15, qzh15, hf⟩ := gb_el hf
            refine gx_iast X hw qzh15 dX12_cutAll_62 (fun H locs hw => ?_)
            refine lv_iload_n hx hb dX12_cutAll_63 rfl (lv_at hl 2 rfl) ?_
            obtain ⟨zt17, zh16, qzh16, hf⟩ := gc_el hf
            refine gx_ki (gx_runS (As := [.int zt11]) (rest := []) X hw (c_X12_isLetter l E N zt11 zh15 qzh16) kX12_isLetter mm_X12_127 ⟨Nat.le_of_ble_eq_true rfl, Nat.le_of_ble_eq_true rfl⟩ rfl rfl rfl hl.1 (Nat.le_of_ble_eq_true rfl) rfl dX12_cutAll_64 ⟨Nat.le_of_ble_eq_true rfl, Nat.le_of_ble_eq_true rfl⟩) hw (fun H locs hw => ?_)
            refine lv_if_eq (tgt := 152) hx hb dX12_cutAll_67 (by decide) (fun qc18 => ?_) (fun qc18 => ?_)
            · have hf := gif_t hf qc18
              refine lv_iload_n hx hb dX12_cutAll_152 rfl (lv_at hl 2 rfl) ?_
              obtain ⟨zt20, zh19, qzh19, hf⟩ := gc_el hf
              refine gx_ki (gx_runS (As := [.int zt11]) (rest := []) X hw (c_X12_isDigit l E N zt11 zh16 qzh19) kX12_isDigit mm_X12_140 ⟨Nat.le_of_ble_eq_true rfl, Nat.le_of_ble_eq_true rfl⟩ rfl rfl rfl hl.1 (Nat.le_of_ble_eq_true rfl) rfl dX12_cutAll_153 ⟨Nat.le_of_ble_eq_true rfl, Nat.le_of_ble_eq_true rfl⟩) hw (fun H locs hw => ?_)
              refine W.eq (g2 := F0 m 156 ls [.int zt20]) rfl ?_
              refine lv_if_eq (tgt := 240) hx hb dX12_cutAll_156 (by decide) (fun qc21 => ?_) (fun qc21 => ?_)
              · have hf := gif_t hf qc21
                refine lv_iload_n hx hb dX12_cutAll_240 rfl (lv_at hl 2 rfl) ?_
                refine lv_i2l hx hb dX12_cutAll_241 rfl ?_
                refine lv_topl (fun zx22 ezx22 => ?_)
                have hf := gl_el hf ezx22
                refine lv_lstore (lv' := [(5, .long zx22), (4, .int zv2), (3, .int zt11), (0, .ref (gB E + zv0)), (1, .int zv1), (2, .int zv2)]) hx hb dX12_cutAll_242 hl (by decide) rfl (fun ls hl => ?_)
                refine lv_aload_n hx hb dX12_cutAll_244 rfl (lv_at hl 3 rfl) ?_
                obtain ⟨zt23, qzt23, hf⟩ := gb_el hf
                refine gx_getR X hw qzt23 clX12 (by decide) mf_X12_24 dX12_cutAll_245 ?_
                refine lv_iload_n hx hb dX12_cutAll_248 rfl (lv_at hl 4 rfl) ?_
                refine lv_iload_n hx hb dX12_cutAll_249 rfl (lv_at hl 2 rfl) ?_
                obtain ⟨zt25, zh24, qzh24, hf⟩ := gc_el hf
                refine gx_ki (gx_runS (As := [.int zt11]) (rest := [.int zv1, .ref (gB E + zt23)]) X hw (c_X12_isSignOf l E N zt11 zh19 qzh24) kX12_isSignOf mm_X12_147 ⟨Nat.le_of_ble_eq_true rfl, Nat.le_of_ble_eq_true rfl⟩ rfl rfl rfl hl.1 (Nat.le_of_ble_eq_true rfl) rfl dX12_cutAll_250 ⟨Nat.le_of_ble_eq_true rfl, Nat.le_of_ble_eq_true rfl⟩) hw (fun H locs hw => ?_)
                refine lv_if_eq (tgt := 260) hx hb dX12_cutAll_253 (by decide) (fun qc26 => ?_) (fun qc26 => ?_)
                · have hf := gif_t hf qc26
                  refine W.eq (g2 := F0 m 260 ls [.int zv1, .ref (gB E + zt23)]) rfl ?_
                  refine lv_iconst (v := 4) hx hb dX12_cutAll_260 (by decide) ?_
                  exact J_261 zv0 zv1 zv2 zx22 4 zv1 zt23 _ _ _ ls hf hw (lv_sub hl [3, 4, 5, 0] rfl)
                · have hf := gif_f hf qc26
                  refine W.eq (g2 := F0 m 256 ls [.int zv1, .ref (gB E + zt23)]) rfl ?_
                  refine lv_iconst (v := 3) hx hb dX12_cutAll_256 (by decide) ?_
                  refine lv_goto (tgt := 261) hx hb dX12_cutAll_257 (by decide) ?_
                  exact J_261 zv0 zv1 zv2 zx22 3 zv1 zt23 _ _ _ ls hf hw (lv_sub hl [3, 4, 5, 0] rfl)
              · have hf := gif_f hf qc21
                exact L_159 N zv0 zv1 zv2 zv2 0 _ _ _ ls hf hw (lv_sub hl [3, 4, 5, 1, 0] rfl)
            · have hf := gif_f hf qc18
              exact L_70 N zv0 zv1 zv2 zv2 0 _ _ _ ls hf hw (lv_sub hl [3, 4, 5, 1, 0] rfl)
          · have hf := gif_t hf qc13
            exact J_44 zv0 zv1 zv2 _ _ _ ls hf hw (lv_sub hl [1, 2, 3] rfl)
  unfold f_X12_cutAll at hf
  refine lv_aload_n hx hb dX12_cutAll_0 rfl (lv_at hl 0 rfl) ?_
  refine lv_aload_n hx hb dX12_cutAll_1 rfl (lv_at hl 0 rfl) ?_
  obtain ⟨zt1, qzt1, hf⟩ := gb_el hf
  refine gx_getI X hw qzt1 clX12 (by decide) mf_X12_11 dX12_cutAll_2 ?_
  obtain ⟨zh2, qzh2, hf⟩ := gb_el hf
  refine gx_putV X hw qzh2 clX12 (by decide) mf_X12_131 rfl rfl rfl dX12_cutAll_5 (fun H locs hw => ?_)
  refine lv_aload_n hx hb dX12_cutAll_8 rfl (lv_at hl 0 rfl) ?_
  refine lv_iconst (v := 0) hx hb dX12_cutAll_9 (by decide) ?_
  obtain ⟨zh3, qzh3, hf⟩ := gb_el hf
  refine gx_putV X hw qzh3 clX12 (by decide) mf_X12_11 rfl rfl rfl dX12_cutAll_10 (fun H locs hw => ?_)
  refine lv_iconst (v := 0) hx hb dX12_cutAll_13 (by decide) ?_
  refine lv_istore_n (lv' := [(1, .int 0), (0, .ref (gB E + za0))]) hx hb dX12_cutAll_14 rfl hl (by decide) rfl (fun ls hl => ?_)
  refine W.eq (g2 := F0 m 15 ls []) rfl ?_
  refine lv_iconst (v := 0) hx hb dX12_cutAll_15 (by decide) ?_
  refine lv_istore_n (lv' := [(2, .int 0), (1, .int 0), (0, .ref (gB E + za0))]) hx hb dX12_cutAll_16 rfl hl (by decide) rfl (fun ls hl => ?_)
  exact L_17 N za0 0 0 _ _ _ ls hf hw (lv_sub hl [2, 1, 0] rfl)
abbrev rm_X12_wrong : Room := { frames := 0, cells := 0, slots := 0, locals := 0 }
set_option maxHeartbeats 4000000 in
set_option maxRecDepth 100000 in
theorem c_X12_wrong (l : Launch) (E : gE) (N : Nat) (za0 : Nat) (za1 : Int32) (zh : PH) {h9 : PH} (hf : f_X12_wrong N za0 za1 zh = some h9) : Met l yX12_wrong (gWS yX12_wrong cX12_wrong 2 none) rm_X12_wrong (gPc E [.ref (gB E + za0), .int za1] zh) (gQv E h9) 0 0 (gA E) := by
  refine gx_met (by decide) ?_ rfl
  intro p e s m below meth c X hr hlk hin2 hw
  have hx := X.1.1
  have hb := X.1.2.1
  have hl := lv_entry [.ref (gB E + za0), .int za1] (n := 2) (Nat.le_of_ble_eq_true rfl)
  rw [lg_entry_eq]
  generalize (lg_sl [.ref (gB E + za0), .int za1] ++ List.replicate (2 - (lg_sl [.ref (gB E + za0), .int za1]).length) Slot.unset).toArray = ls at hl ⊢
  have hl : lv_has ls 2 [(0, .ref (gB E + za0)), (1, .int za1)] := hl
  have J_25 : ∀ (zh : PH) (H : Heap) (locs : List Loc) (ls : Array Slot), f_X12_wrong_25 N zh = some h9 → gw E s zh H locs → lv_has ls 2 [] → W p l e rm_X12_wrong s m [.ref (gB E + za0), .int za1].toArray below meth c H locs 0 0 (MQ below (gQv E h9) [.ref (gB E + za0), .int za1].toArray s 0 0 (gA E)) (F0 m 25 ls []) := by
    intro zh H locs ls hf hw hl
    unfold f_X12_wrong_25 at hf
    exact gx_vret X hr hlk hw hf dX12_wrong_25
  unfold f_X12_wrong at hf
  refine lv_aload_n hx hb dX12_wrong_0 rfl (lv_at hl 0 rfl) ?_
  obtain ⟨zt1, qzt1, hf⟩ := gb_el hf
  refine gx_getI X hw qzt1 clX12 (by decide) mf_X12_153 dX12_wrong_1 ?_
  refine lv_if_ne (tgt := 25) hx hb dX12_wrong_4 (by decide) (fun qc2 => ?_) (fun qc2 => ?_)
  · have hf := gif_f hf qc2
    exact J_25  _ _ _ ls hf hw (lv_sub hl [] rfl)
  · have hf := gif_t hf qc2
    refine lv_aload_n hx hb dX12_wrong_7 rfl (lv_at hl 0 rfl) ?_
    refine lv_iload_n hx hb dX12_wrong_8 rfl (lv_at hl 1 rfl) ?_
    refine lv_bipush (v := 16) hx hb dX12_wrong_9 (by decide) ?_
    refine lv_aload_n hx hb dX12_wrong_11 rfl (lv_at hl 0 rfl) ?_
    obtain ⟨zt3, qzt3, hf⟩ := gb_el hf
    refine gx_getR X hw qzt3 clX12 (by decide) mf_X12_27 dX12_wrong_12 ?_
    refine lv_aload_n hx hb dX12_wrong_15 rfl (lv_at hl 0 rfl) ?_
    refine W.eq (g2 := F0 m 16 ls [.ref (gB E + za0), .ref (gB E + zt3), .int 16, .int za1, .ref (gB E + za0)]) rfl ?_
    obtain ⟨zt4, qzt4, hf⟩ := gb_el hf
    refine gx_getI X hw qzt4 clX12 (by decide) mf_X12_150 dX12_wrong_16 ?_
    obtain ⟨zt5, qzt5, hf⟩ := gb_el hf
    refine gx_iald X hw qzt5 dX12_wrong_19 ?_
    refine lv_imul hx hb dX12_wrong_20 ?_
    refine lv_iadd hx hb dX12_wrong_21 ?_
    obtain ⟨zh6, qzh6, hf⟩ := gb_el hf
    refine gx_putV X hw qzh6 clX12 (by decide) mf_X12_153 rfl rfl rfl dX12_wrong_22 (fun H locs hw => ?_)
    exact J_25  _ _ _ ls hf hw (lv_sub hl [] rfl)
