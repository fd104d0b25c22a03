def f_X12_book_53 (N : Nat) (zh : PH) : Option (Int32 × PH) :=
  some ((-1), zh)
def f_X12_book (N : Nat) (za0 : Nat) (za1 : Int32) (zh : PH) : Option (Int32 × PH) :=
  gb (pfV 12 0 za0 (.int 0) zh) fun zh1 =>
  if (0 : Int32) ≤ za1 then (
  gg (gIs 12 za0 zh1) <|
  gc (f_X12_isGuest N za0 za1 zh1) fun zt4 zh3 =>
  if (zt4 : Int32) = 0 then (
  f_X12_book_53 N  zh3)
  else (
  gg (gIs 12 za0 zh3) <|
  gc (f_X12_roomNow N za0 za1 zh3) fun zt7 zh6 =>
  if (0 : Int32) ≤ zt7 then (
  f_X12_book_53 N  zh6)
  else (
  gg (gIs 12 za0 zh6) <|
  gc (f_X12_isBooked N za0 za1 zh6) fun zt10 zh9 =>
  if (zt10 : Int32) = 0 then (
  gg (gIs 12 za0 zh9) <|
  gc (f_X12_booked N za0 zh9) fun zt13 zh12 =>
  if (zt13 : Int32) = 7 then (
  f_X12_book_53 N  zh12)
  else (
  gb (gfR 12 17 za0 zh12) fun zt15 =>
  gg (gIs 12 za0 zh12) <|
  gc (f_X12_booked N za0 zh12) fun zt17 zh16 =>
  gb (asI 0 zt15 (496 + zt17) za1 zh16) fun zh18 =>
  gb (gfR 12 17 za0 zh18) fun zt19 =>
  gb (arI 0 zt19 495 zh18) fun zt20 =>
  gb (asI 0 zt19 495 (zt20 + 1) zh18) fun zh21 =>
  gg (gIs 12 za0 zh21) <|
  gc (f_X12_booked N za0 zh21) fun zt23 zh22 =>
  some (zt23, zh22)))
  else (
  f_X12_book_53 N  zh9))))
  else (
  gb (gfR 12 17 za0 zh1) fun zt24 =>
  gb (asI 0 zt24 495 0 zh1) fun zh25 =>
  some (0, zh25))
def f_X12_comesAll_26 (N : Nat) (zk26 : (Nat × Int32 × Int32 × Int32 × PH) → Option PH) (zv0 : Nat) (zv1 : Int32) (zv2 : Int32) (zv3 : Int32) (zh : PH) : Option PH :=
  gg (gIs 12 zv0 zh) <|
  gc (f_X12_booked N zv0 zh) fun zt2 zh1 =>
  if (zt2 : Int32) ≤ zv3 then (
  gb (gfR 12 20 zv0 zh1) fun zt4 =>
  gb (gfI 12 38 zv0 zh1) fun zt5 =>
  gb (arI 0 zt4 zt5 zh1) fun zt6 =>
  gb (pfV 12 39 zv0 (.int (zt6 - zv1)) zh1) fun zh7 =>
  gb (gfI 12 24 zv0 zh7) fun zt8 =>
  gb (pfV 12 40 zv0 (.int (zt8 - zv2)) zh7) fun zh9 =>
  gb (pfV 12 18 zv0 (.int 1) zh9) fun zh10 =>
  some zh10)
  else (
  gb (gfR 12 32 zv0 zh1) fun zt11 =>
  gb (arI 0 zt11 zv3 zh1) fun zt12 =>
  gg (gIs 12 zv0 zh1) <|
  gb (f_X12_comes N zv0 zt12 zh1) fun zh13 =>
  gl (zv3 + 1) fun (zx14 : Int32) =>
  zk26 (zv0, zv1, zv2, zx14, zh13))
def f_X12_comesAll (N : Nat) (za0 : Nat) (zh : PH) : Option PH :=
  gb (pfV 12 18 za0 (.int 1) zh) fun zh1 =>
  gg (gIs 12 za0 zh1) <|
  gb (f_X12_find N za0 zh1) fun zh2 =>
  gb (gfR 12 20 za0 zh2) fun zt3 =>
  gb (gfI 12 38 za0 zh2) fun zt4 =>
  gb (arI 0 zt3 zt4 zh2) fun zt5 =>
  gb (gfI 12 24 za0 zh2) fun zt6 =>
  gi (fun zk zs => f_X12_comesAll_26 N zk zs.1 zs.2.1 zs.2.2.1 zs.2.2.2.1 zs.2.2.2.2) N (za0, zt5, zt6, 0, zh2)
def f_X12_triesBooked_153 (N : Nat) (zF_X12_triesBooked : Nat → Int32 → Int32 → PH → Option PH) (zk110 : (Nat × Int32 × Int32 × Int32 × PH) → Option PH) (zv0 : Nat) (zv1 : Int32) (zv2 : Int32) (zv3 : Int32) (zh : PH) : Option PH :=
  gl (zv3 + 1) fun (zx1 : Int32) =>
  zk110 (zv0, zv1, zv2, zx1, zh)
def f_X12_triesBooked_110 (N : Nat) (zF_X12_triesBooked : Nat → Int32 → Int32 → PH → Option PH) (zk110 : (Nat × Int32 × Int32 × Int32 × PH) → Option PH) (zv0 : Nat) (zv1 : Int32) (zv2 : Int32) (zv3 : Int32) (zh : PH) : Option PH :=
  gg (gIs 12 zv0 zh) <|
  gc (f_X12_guests N zv0 zh) fun zt2 zh1 =>
  if (zt2 : Int32) ≤ zv3 then (
  some zh1)
  else (
  gg (gIs 12 zv0 zh1) <|
  gc (f_X12_isBooked N zv0 zv3 zh1) fun zt5 zh4 =>
  if (zt5 : Int32) = 0 then (
  f_X12_triesBooked_153 N zF_X12_triesBooked zk110 zv0 zv1 zv2 zv3 zh4)
  else (
  if (((zv2 >>> (zv3 &&& 31)) &&& 1) : Int32) = 0 then (
  gb (gfR 12 32 zv0 zh4) fun zt8 =>
  gb (asI 0 zt8 zv1 zv3 zh4) fun zh9 =>
  gg (gIs 12 zv0 zh9) <|
  gb (zF_X12_triesBooked zv0 (zv1 + 1) (zv2 ||| (1 <<< (zv3 &&& 31))) zh9) fun zh10 =>
  f_X12_triesBooked_153 N zF_X12_triesBooked zk110 zv0 zv1 zv2 zv3 zh10)
  else (
  f_X12_triesBooked_153 N zF_X12_triesBooked zk110 zv0 zv1 zv2 zv3 zh4)))
def f_X12_triesBooked_107 (N : Nat) (zF_X12_triesBooked : Nat → Int32 → Int32 → PH → Option PH) (zh : PH) : Option PH :=
  some zh
def f_X12_triesBooked_81 (N : Nat) (zF_X12_triesBooked : Nat → Int32 → Int32 → PH → Option PH) (zk81 : (Nat × Int32 × Int32 × PH) → Option PH) (zv0 : Nat) (zv1 : Int32) (zv4 : Int32) (zh : PH) : Option PH :=
  if (zv1 : Int32) ≤ zv4 then (
  f_X12_triesBooked_107 N zF_X12_triesBooked  zh)
  else (
  gb (gfR 12 41 zv0 zh) fun zt2 =>
  gb (gfR 12 32 zv0 zh) fun zt3 =>
  gb (arI 0 zt3 zv4 zh) fun zt4 =>
  gb (asI 0 zt2 zv4 zt4 zh) fun zh5 =>
  gl (zv4 + 1) fun (zx6 : Int32) =>
  zk81 (zv0, zv1, zx6, zh5))
def f_X12_triesBooked_57 (N : Nat) (zF_X12_triesBooked : Nat → Int32 → Int32 → PH → Option PH) (zv0 : Nat) (zv1 : Int32) (zs0 : Int32) (zh : PH) : Option PH :=
  if (zs0 : Int32) = 0 then (
  f_X12_triesBooked_107 N zF_X12_triesBooked  zh)
  else (
  gb (gfI 12 39 zv0 zh) fun zt2 =>
  gb (pfV 12 42 zv0 (.int zt2) zh) fun zh3 =>
  gb (gfI 12 40 zv0 zh3) fun zt4 =>
  gb (pfV 12 43 zv0 (.int zt4) zh3) fun zh5 =>
  gi (fun zk zs => f_X12_triesBooked_81 N zF_X12_triesBooked zk zs.1 zs.2.1 zs.2.2.1 zs.2.2.2) N (zv0, zv1, 0, zh5))
def f_X12_triesBooked_56 (N : Nat) (zF_X12_triesBooked : Nat → Int32 → Int32 → PH → Option PH) (zv0 : Nat) (zv1 : Int32) (zh : PH) : Option PH :=
  f_X12_triesBooked_57 N zF_X12_triesBooked zv0 zv1 0 zh
def f_X12_triesBooked_52 (N : Nat) (zF_X12_triesBooked : Nat → Int32 → Int32 → PH → Option PH) (zv0 : Nat) (zv1 : Int32) (zh : PH) : Option PH :=
  f_X12_triesBooked_57 N zF_X12_triesBooked zv0 zv1 1 zh
def b_X12_triesBooked (N : Nat) (zF_X12_triesBooked : Nat → Int32 → Int32 → PH → Option PH) (za0 : Nat) (za1 : Int32) (za2 : Int32) (zh : PH) : Option PH :=
  gg (gIs 12 za0 zh) <|
  gc (f_X12_booked N za0 zh) fun zt2 zh1 =>
  if (za1 : Int32) = zt2 then (
  gg (gIs 12 za0 zh1) <|
  gb (f_X12_comesAll N za0 zh1) fun zh4 =>
  gb (gfI 12 42 za0 zh4) fun zt5 =>
  if (zt5 : Int32) < 0 then (
  f_X12_triesBooked_52 N zF_X12_triesBooked za0 za1 zh4)
  else (
  gb (gfI 12 39 za0 zh4) fun zt7 =>
  gb (gfI 12 42 za0 zh4) fun zt8 =>
  if (zt7 : Int32) < zt8 then (
  f_X12_triesBooked_52 N zF_X12_triesBooked za0 za1 zh4)
  else (
  gb (gfI 12 39 za0 zh4) fun zt10 =>
  gb (gfI 12 42 za0 zh4) fun zt11 =>
  if (zt10 : Int32) = zt11 then (
  gb (gfI 12 40 za0 zh4) fun zt13 =>
  gb (gfI 12 43 za0 zh4) fun zt14 =>
  if (zt14 : Int32) ≤ zt13 then (
  f_X12_triesBooked_56 N zF_X12_triesBooked za0 za1 zh4)
  else (
  f_X12_triesBooked_52 N zF_X12_triesBooked za0 za1 zh4))
  else (
  f_X12_triesBooked_56 N zF_X12_triesBooked za0 za1 zh4))))
  else (
  gi (fun zk zs => f_X12_triesBooked_110 N zF_X12_triesBooked zk zs.1 zs.2.1 zs.2.2.1 zs.2.2.2.1 zs.2.2.2.2) N (za0, za1, za2, 0, zh1))
def g_gO (N : Nat) : Nat → (Nat → Int32 → Int32 → PH → Option PH)
  | 0 => fun _ _ _ _ => none
  | zd + 1 => b_X12_triesBooked N (g_gO N zd)
def f_X12_triesBooked (N : Nat) (za0 : Nat) (za1 : Int32) (za2 : Int32) (zh : PH) : Option PH := (g_gO N 16) za0 za1 za2 zh
def f_X12_order_115 (N : Nat) (zs0 : Int32) (zh : PH) : Option (Int32 × PH) :=
  some (zs0, zh)
def f_X12_order_68 (N : Nat) (zv0 : Nat) (zv1 : Int32) (zv2 : Int32) (zh : PH) : Option (Int32 × PH) :=
  gb (pfV 12 38 zv0 (.int zv1) zh) fun zh1 =>
  gb (pfV 12 42 zv0 (.int (-1)) zh1) fun zh2 =>
  gg (gIs 12 zv0 zh2) <|
  gb (f_X12_triesBooked N zv0 0 0 zh2) fun zh3 =>
  if (zv2 : Int32) = 0 then (
  gb (gfI 12 42 zv0 zh3) fun zt9 =>
  f_X12_order_115 N zt9 zh3)
  else (
  if (zv2 : Int32) = 1 then (
  gb (gfI 12 43 zv0 zh3) fun zt8 =>
  f_X12_order_115 N zt8 zh3)
  else (
  gb (gfR 12 41 zv0 zh3) fun zt6 =>
  gb (arI 0 zt6 (zv2 - 2) zh3) fun zt7 =>
  f_X12_order_115 N zt7 zh3))
def f_X12_order_66 (N : Nat) (zh : PH) : Option (Int32 × PH) :=
  some ((-1), zh)
def f_X12_order (N : Nat) (za0 : Nat) (za1 : Int32) (za2 : Int32) (zh : PH) : Option (Int32 × PH) :=
  gb (pfV 12 0 za0 (.int 0) zh) fun zh1 =>
  gg (gIs 12 za0 zh1) <|
  gc (f_X12_isGuest N za0 za1 zh1) fun zt3 zh2 =>
  if (zt3 : Int32) = 0 then (
  f_X12_order_66 N  zh2)
  else (
  gg (gIs 12 za0 zh2) <|
  gc (f_X12_booked N za0 zh2) fun zt6 zh5 =>
  gc (f_X12_within N za2 0 (1 + zt6) zh5) fun zt8 zh7 =>
  if (zt8 : Int32) = 0 then (
  f_X12_order_66 N  zh7)
  else (
  gg (gIs 12 za0 zh7) <|
  gc (f_X12_booked N za0 zh7) fun zt11 zh10 =>
  if (zt11 : Int32) = 0 then (
  f_X12_order_66 N  zh10)
  else (
  gg (gIs 12 za0 zh10) <|
  gc (f_X12_booked N za0 zh10) fun zt14 zh13 =>
  gg (gIs 12 za0 zh13) <|
  gc (f_X12_rooms N za0 zh13) fun zt16 zh15 =>
  gg (gIs 12 za0 zh15) <|
  gc (f_X12_insideMany N za0 zh15) fun zt18 zh17 =>
  if ((zt16 - zt18) : Int32) < zt14 then (
  f_X12_order_66 N  zh17)
  else (
  gg (gIs 12 za0 zh17) <|
  gc (f_X12_isBooked N za0 za1 zh17) fun zt21 zh20 =>
  if (zt21 : Int32) = 0 then (
  gg (gIs 12 za0 zh20) <|
  gc (f_X12_roomNow N za0 za1 zh20) fun zt24 zh23 =>
  if (0 : Int32) ≤ zt24 then (
  f_X12_order_68 N za0 za1 za2 zh23)
  else (
  f_X12_order_66 N  zh23))
  else (
  f_X12_order_68 N za0 za1 za2 zh20)))))
def f_X12_findTried_132 (N : Nat) (zs0 : Int32) (zs1 : Nat) (zh : PH) : Option PH :=
  gb (pfV 12 46 zs1 (.int zs0) zh) fun zh1 =>
  some zh1
def f_X12_findTried_110 (N : Nat) (zk36 : (Nat × Int32 × Int32 × Int32 × PH) → Option PH) (zv0 : Nat) (zv2 : Int32) (zv4 : Int32) (zs0 : Int32) (zh : PH) : Option PH :=
  gl (zv4 + 1) fun (zx1 : Int32) =>
  zk36 (zv0, zv2, zs0, zx1, zh)
def f_X12_findTried_109 (N : Nat) (zk36 : (Nat × Int32 × Int32 × Int32 × PH) → Option PH) (zv0 : Nat) (zv2 : Int32) (zv3 : Int32) (zv4 : Int32) (zh : PH) : Option PH :=
  f_X12_findTried_110 N zk36 zv0 zv2 zv4 zv3 zh
def f_X12_findTried_77 (N : Nat) (zk36 : (Nat × Int32 × Int32 × Int32 × PH) → Option PH) (zv0 : Nat) (zv3 : Int32) (zv4 : Int32) (zs0 : Int32) (zh : PH) : Option PH :=
  gb (gfR 12 22 zv0 zh) fun zt1 =>
  gb (arI 3 zt1 zv4 zh) fun zt2 =>
  if (zt2 : Int32) = 0 then (
  f_X12_findTried_109 N zk36 zv0 zs0 zv3 zv4 zh)
  else (
  gb (gfR 12 20 zv0 zh) fun zt4 =>
  gb (arI 0 zt4 zv4 zh) fun zt5 =>
  if (zt5 : Int32) ≤ zv3 then (
  f_X12_findTried_109 N zk36 zv0 zs0 zv3 zv4 zh)
  else (
  gb (gfR 12 20 zv0 zh) fun zt7 =>
  gb (arI 0 zt7 zv4 zh) fun zt8 =>
  f_X12_findTried_110 N zk36 zv0 zs0 zv4 zt8 zh))
def f_X12_findTried_76 (N : Nat) (zk36 : (Nat × Int32 × Int32 × Int32 × PH) → Option PH) (zv0 : Nat) (zv2 : Int32) (zv3 : Int32) (zv4 : Int32) (zh : PH) : Option PH :=
  f_X12_findTried_77 N zk36 zv0 zv3 zv4 zv2 zh
def f_X12_findTried_36 (N : Nat) (zk36 : (Nat × Int32 × Int32 × Int32 × PH) → Option PH) (zv0 : Nat) (zv2 : Int32) (zv3 : Int32) (zv4 : Int32) (zh : PH) : Option PH :=
  gg (gIs 12 zv0 zh) <|
  gc (f_X12_guests N zv0 zh) fun zt2 zh1 =>
  if (zt2 : Int32) ≤ zv4 then (
  if (zv2 : Int32) = 100000000 then (
  f_X12_findTried_132 N 0 zv0 zh1)
  else (
  f_X12_findTried_132 N (zv3 - zv2) zv0 zh1))
  else (
  gb (gfR 12 22 zv0 zh1) fun zt5 =>
  gb (arI 3 zt5 zv4 zh1) fun zt6 =>
  if (zt6 : Int32) = 0 then (
  f_X12_findTried_76 N zk36 zv0 zv2 zv3 zv4 zh1)
  else (
  gb (gfR 12 20 zv0 zh1) fun zt8 =>
  gb (arI 0 zt8 zv4 zh1) fun zt9 =>
  if (zv2 : Int32) ≤ zt9 then (
  f_X12_findTried_76 N zk36 zv0 zv2 zv3 zv4 zh1)
  else (
  gb (gfR 12 20 zv0 zh1) fun zt11 =>
  gb (arI 0 zt11 zv4 zh1) fun zt12 =>
  f_X12_findTried_77 N zk36 zv0 zv3 zv4 zt12 zh1)))
def f_X12_findTried (N : Nat) (za0 : Nat) (za1 : Int32) (zh : PH) : Option PH :=
  gg (gIs 12 za0 zh) <|
  gb (f_X12_goesThrough N za0 1 za1 zh) fun zh1 =>
  gb (pfV 12 18 za0 (.int 1) zh1) fun zh2 =>
  gb (gfI 12 23 za0 zh2) fun zt3 =>
  gb (pfV 12 44 za0 (.int zt3) zh2) fun zh4 =>
  gb (gfI 12 24 za0 zh4) fun zt5 =>
  gb (pfV 12 45 za0 (.int zt5) zh4) fun zh6 =>
  gi (fun zk zs => f_X12_findTried_36 N zk zs.1 zs.2.1 zs.2.2.1 zs.2.2.2.1 zs.2.2.2.2) N (za0, 100000000, 0, 0, zh6)
def f_X12_tried_61 (N : Nat) (zs0 : Int32) (zh : PH) : Option (Int32 × PH) :=
  some (zs0, zh)
def f_X12_tried_27 (N : Nat) (zh : PH) : Option (Int32 × PH) :=
  some ((-1), zh)
def f_X12_tried_18 (N : Nat) (zv0 : Nat) (zv1 : Int32) (zv2 : Int32) (zh : PH) : Option (Int32 × PH) :=
  gc (f_X12_within N zv2 0 2 zh) fun zt2 zh1 =>
  if (zt2 : Int32) = 0 then (
  f_X12_tried_27 N  zh1)
  else (
  gg (gIs 12 zv0 zh1) <|
  gb (f_X12_findTried N zv0 zv1 zh1) fun zh4 =>
  if (zv2 : Int32) = 0 then (
  gb (gfI 12 44 zv0 zh4) fun zt9 =>
  f_X12_tried_61 N zt9 zh4)
  else (
  if (zv2 : Int32) = 1 then (
  gb (gfI 12 45 zv0 zh4) fun zt8 =>
  f_X12_tried_61 N zt8 zh4)
  else (
  gb (gfI 12 46 zv0 zh4) fun zt7 =>
  f_X12_tried_61 N zt7 zh4)))
def f_X12_tried (N : Nat) (za0 : Nat) (za1 : Int32) (za2 : Int32) (zh : PH) : Option (Int32 × PH) :=
  gb (pfV 12 0 za0 (.int 0) zh) fun zh1 =>
  if (za1 : Int32) = (-1) then (
  f_X12_tried_18 N za0 za1 za2 zh1)
  else (
  gg (gIs 12 za0 zh1) <|
  gc (f_X12_isRule N za0 za1 zh1) fun zt4 zh3 =>
  if (zt4 : Int32) = 0 then (
  f_X12_tried_27 N  zh3)
  else (
  f_X12_tried_18 N za0 za1 za2 zh3))
def f_X12_best_70 (N : Nat) (zk14 : (Nat × Int32 × Int32 × Int32 × Int32 × PH) → Option (Int32 × PH)) (zv0 : Nat) (zv1 : Int32) (zv2 : Int32) (zv3 : Int32) (zv4 : Int32) (zh : PH) : Option (Int32 × PH) :=
  gl (zv4 + 1) fun (zx1 : Int32) =>
  zk14 (zv0, zv1, zv2, zv3, zx1, zh)
def f_X12_best_57 (N : Nat) (zk14 : (Nat × Int32 × Int32 × Int32 × Int32 × PH) → Option (Int32 × PH)) (zv0 : Nat) (zv4 : Int32) (zh : PH) : Option (Int32 × PH) :=
  gb (gfI 12 44 zv0 zh) fun zt1 =>
  gb (gfI 12 45 zv0 zh) fun zt2 =>
  f_X12_best_70 N zk14 zv0 zv4 zt1 zt2 zv4 zh
def f_X12_best_14 (N : Nat) (zk14 : (Nat × Int32 × Int32 × Int32 × Int32 × PH) → Option (Int32 × PH)) (zv0 : Nat) (zv1 : Int32) (zv2 : Int32) (zv3 : Int32) (zv4 : Int32) (zh : PH) : Option (Int32 × PH) :=
  gg (gIs 12 zv0 zh) <|
  gc (f_X12_rules N zv0 zh) fun zt2 zh1 =>
  if (zt2 : Int32) ≤ zv4 then (
  some (zv1, zh1))
  else (
  gg (gIs 12 zv0 zh1) <|
  gb (f_X12_findTried N zv0 zv4 zh1) fun zh4 =>
  if (zv1 : Int32) < 0 then (
  f_X12_best_57 N zk14 zv0 zv4 zh4)
  else (
  gb (gfI 12 44 zv0 zh4) fun zt6 =>
  if (zt6 : Int32) < zv2 then (
  f_X12_best_57 N zk14 zv0 zv4 zh4)
  else (
  gb (gfI 12 44 zv0 zh4) fun zt8 =>
  if (zt8 : Int32) = zv2 then (
  gb (gfI 12 45 zv0 zh4) fun zt10 =>
  if (zv3 : Int32) ≤ zt10 then (
  f_X12_best_70 N zk14 zv0 zv1 zv2 zv3 zv4 zh4)
  else (
  f_X12_best_57 N zk14 zv0 zv4 zh4))
  else (
  f_X12_best_70 N zk14 zv0 zv1 zv2 zv3 zv4 zh4))))
def f_X12_best (N : Nat) (za0 : Nat) (zh : PH) : Option (Int32 × PH) :=
  gb (pfV 12 0 za0 (.int 0) zh) fun zh1 =>
  gi (fun zk zs => f_X12_best_14 N zk zs.1 zs.2.1 zs.2.2.1 zs.2.2.2.1 zs.2.2.2.2.1 zs.2.2.2.2.2) N (za0, (-1), 0, 0, 0, zh1)
def f_X12_mark_82 (N : Nat) (zk40 : (Nat × Int32 × Int32 × Int32 × Int32 × PH) → Option (Int32 × PH)) (zv0 : Nat) (zv1 : Int32) (zv2 : Int32) (zv3 : Int32) (zv4 : Int32) (zs0 : Int32) (zs1 : Nat) (zs2 : Int32) (zs3 : Nat) (zh : PH) : Option (Int32 × PH) :=
  gb (arI 0 zs1 zs0 zh) fun zt1 =>
  gb (asI 0 zs3 zs2 zt1 zh) fun zh2 =>
  gl (zv4 + 1) fun (zx3 : Int32) =>
  zk40 (zv0, zv1, zv2, zv3, zx3, zh2)
def f_X12_mark_65 (N : Nat) (zk40 : (Nat × Int32 × Int32 × Int32 × Int32 × PH) → Option (Int32 × PH)) (zv0 : Nat) (zv1 : Int32) (zv2 : Int32) (zv3 : Int32) (zv4 : Int32) (zs0 : Int32) (zs1 : Nat) (zh : PH) : Option (Int32 × PH) :=
  gb (gfR 12 17 zv0 zh) fun zt1 =>
  if (zv2 : Int32) = 0 then (
  f_X12_mark_82 N zk40 zv0 zv1 zv2 zv3 zv4 zv4 zt1 zs0 zs1 zh)
  else (
  f_X12_mark_82 N zk40 zv0 zv1 zv2 zv3 zv4 (zv3 + zv4) zt1 zs0 zs1 zh)
def f_X12_mark_40 (N : Nat) (zk40 : (Nat × Int32 × Int32 × Int32 × Int32 × PH) → Option (Int32 × PH)) (zv0 : Nat) (zv1 : Int32) (zv2 : Int32) (zv3 : Int32) (zv4 : Int32) (zh : PH) : Option (Int32 × PH) :=
  if (520 : Int32) ≤ zv4 then (
  gb (gfR 12 47 zv0 zh) fun zt2 =>
  gb (asI 3 zt2 zv1 1 zh) fun zh3 =>
  gb (pfV 12 18 zv0 (.int 1) zh3) fun zh4 =>
  gg (gzb 1) (some (1, zh4)))
  else (
  gb (gfR 12 17 zv0 zh) fun zt5 =>
  if (zv2 : Int32) = 0 then (
  f_X12_mark_65 N zk40 zv0 zv1 zv2 zv3 zv4 (zv3 + zv4) zt5 zh)
  else (
  f_X12_mark_65 N zk40 zv0 zv1 zv2 zv3 zv4 zv4 zt5 zh))
def f_X12_mark_29 (N : Nat) (zv0 : Nat) (zv1 : Int32) (zv2 : Int32) (zh : PH) : Option (Int32 × PH) :=
  gl ((520 * (zv1 + 1))) fun (zx1 : Int32) =>
  gi (fun zk zs => f_X12_mark_40 N zk zs.1 zs.2.1 zs.2.2.1 zs.2.2.2.1 zs.2.2.2.2.1 zs.2.2.2.2.2) N (zv0, zv1, zv2, zx1, 0, zh)
def f_X12_mark_27 (N : Nat) (zh : PH) : Option (Int32 × PH) :=
  gg (gzb 0) (some (0, zh))
def f_X12_mark (N : Nat) (za0 : Nat) (za1 : Int32) (za2 : Int32) (zh : PH) : Option (Int32 × PH) :=
  gb (pfV 12 0 za0 (.int 0) zh) fun zh1 =>
  gc (f_X12_within N za1 0 3 zh1) fun zt3 zh2 =>
  if (zt3 : Int32) = 0 then (
  f_X12_mark_27 N  zh2)
  else (
  if (za2 : Int32) = 0 then (
  f_X12_mark_29 N za0 za1 za2 zh2)
  else (
  gb (gfR 12 47 za0 zh2) fun zt6 =>
  gb (arI 3 zt6 za1 zh2) fun zt7 =>
  if (zt7 : Int32) = 0 then (
  f_X12_mark_27 N  zh2)
  else (
  f_X12_mark_29 N za0 za1 za2 zh2)))
def f_X12_count (N : Nat) (za0 : Nat) (za1 : Int32) (zh : PH) : Option (Int32 × PH) :=
  gb (pfV 12 0 za0 (.int 0) zh) fun zh1 =>
  if (za1 : Int32) = 0 then (
  gg (gIs 12 za0 zh1) <|
  gc (f_X12_rooms N za0 zh1) fun zt4 zh3 =>
  some (zt4, zh3))
  else (
  if (za1 : Int32) = 1 then (
  gg (gIs 12 za0 zh1) <|
  gc (f_X12_guests N za0 zh1) fun zt7 zh6 =>
  some (zt7, zh6))
  else (
  if (za1 : Int32) = 2 then (
  gg (gIs 12 za0 zh1) <|
  gc (f_X12_rules N za0 zh1) fun zt10 zh9 =>
  some (zt10, zh9))
  else (
  if (za1 : Int32) = 3 then (
  gg (gIs 12 za0 zh1) <|
  gc (f_X12_insideMany N za0 zh1) fun zt13 zh12 =>
  some (zt13, zh12))
  else (
  if (za1 : Int32) = 4 then (
  gb (gfR 12 17 za0 zh1) fun zt15 =>
  gb (arI 0 zt15 0 zh1) fun zt16 =>
  some (zt16, zh1))
  else (
  if (za1 : Int32) = 5 then (
  gg (gIs 12 za0 zh1) <|
  gc (f_X12_sights N za0 zh1) fun zt19 zh18 =>
  some (zt19, zh18))
  else (
  if (za1 : Int32) = 6 then (
  gg (gIs 12 za0 zh1) <|
  gc (f_X12_pages N za0 zh1) fun zt22 zh21 =>
  some (zt22, zh21))
  else (
  if (za1 : Int32) = 7 then (
  gg (gIs 12 za0 zh1) <|
  gc (f_X12_jobs N za0 zh1) fun zt25 zh24 =>
  some (zt25, zh24))
  else (
  if (za1 : Int32) = 8 then (
  gg (gIs 12 za0 zh1) <|
  gc (f_X12_booked N za0 zh1) fun zt28 zh27 =>
  some (zt28, zh27))
  else (
  if (za1 : Int32) = 9 then (
  gg (gIs 12 za0 zh1) <|
  gc (f_X12_events N za0 zh1) fun zt31 zh30 =>
  some (zt31, zh30))
  else (
  if (za1 : Int32) = 10 then (
  gb (gfI 12 2 za0 zh1) fun zt33 =>
  some (zt33, zh1))
  else (
  some ((-1), zh1))))))))))))
abbrev rm_X12_book : Room := { frames := 7, cells := 0, slots := 0, locals := 161 }
set_option maxHeartbeats 4000000 in
set_option maxRecDepth 100000 in
theorem c_X12_book (l : Launch) (E : gE) (N : Nat) (za0 : Nat) (za1 : Int32) (zh : PH) {h9 : PH} {r9 : Int32} (hf : f_X12_book N za0 za1 zh = some (r9, h9)) : Met l yX12_book (gWS yX12_book cX12_book 2 (some .int)) rm_X12_book (gPc E [.ref (gB E + za0), .int za1] zh) (gQi E r9 h9) 0 0 (gA E) := by
  refine gx_met (by decide) ?_ rfl
  intro p e s m below meth c X hr hlk hin2 hw
  have hx := X.1.1
  have hb := X.1.2.1
  have hl := lv_entry [.ref (gB E + za0), .int za1] (n := 2) (Nat.le_of_ble_eq_true rfl)
  rw [lg_entry_eq]
  generalize (lg_sl [.ref (gB E + za0), .int za1] ++ List.replicate (2 - (lg_sl [.ref (gB E + za0), .int za1]).length) Slot.unset).toArray = ls at hl ⊢
  have hl : lv_has ls 2 [(0, .ref (gB E + za0)), (1, .int za1)] := hl
  have J_53 : ∀ (zh : PH) (H : Heap) (locs : List Loc) (ls : Array Slot), f_X12_book_53 N zh = some (r9, h9) → gw E s zh H locs → lv_has ls 2 [] → W p l e rm_X12_book s m [.ref (gB E + za0), .int za1].toArray below meth c H locs 0 0 (MQ below (gQi E r9 h9) [.ref (gB E + za0), .int za1].toArray s 0 0 (gA E)) (F0 m 53 ls []) := by
    intro zh H locs ls hf hw hl
    unfold f_X12_book_53 at hf
    refine lv_iconst (v := (-1)) hx hb dX12_book_53 (by decide) ?_
    exact gx_iret X hr hlk hw hf dX12_book_54
  unfold f_X12_book at hf
  refine lv_aload_n hx hb dX12_book_0 rfl (lv_at hl 0 rfl) ?_
  refine lv_iconst (v := 0) hx hb dX12_book_1 (by decide) ?_
  obtain ⟨zh1, qzh1, hf⟩ := gb_el hf
  refine gx_putV X hw qzh1 clX12 (by decide) mf_X12_1 rfl rfl rfl dX12_book_2 (fun H locs hw => ?_)
  refine lv_iload_n hx hb dX12_book_5 rfl (lv_at hl 1 rfl) ?_
  refine lv_if_ge (tgt := 20) hx hb dX12_book_6 (by decide) (fun qc2 => ?_) (fun qc2 => ?_)
  · have hf := gif_t hf qc2
    refine lv_aload_n hx hb dX12_book_20 rfl (lv_at hl 0 rfl) ?_
    refine lv_iload_n hx hb dX12_book_21 rfl (lv_at hl 1 rfl) ?_
    obtain ⟨qizh3, hf⟩ := gg_el hf
    obtain ⟨zt4, zh3, qzh3, hf⟩ := gc_el hf
    refine gx_ki (gx_runV (As := [.int za1]) (rest := []) X hw (c_X12_isGuest l E N za0 za1 zh1 qzh3) kX12_isGuest mm_X12_312 qizh3 clX12 ⟨Nat.le_of_ble_eq_true rfl, Nat.le_of_ble_eq_true rfl⟩ rfl rfl rfl hl.1 (Nat.le_of_ble_eq_true rfl) rfl dX12_book_22 ⟨Nat.le_of_ble_eq_true rfl, Nat.le_of_ble_eq_true rfl⟩) hw (fun H locs hw => ?_)
    refine lv_if_eq (tgt := 53) hx hb dX12_book_25 (by decide) (fun qc5 => ?_) (fun qc5 => ?_)
    · have hf := gif_t hf qc5
      exact J_53  _ _ _ ls hf hw (lv_sub hl [] rfl)
    · have hf := gif_f hf qc5
      refine W.eq (g2 := F0 m 28 ls []) rfl ?_
      refine lv_aload_n hx hb dX12_book_28 rfl (lv_at hl 0 rfl) ?_
      refine lv_iload_n hx hb dX12_book_29 rfl (lv_at hl 1 rfl) ?_
      obtain ⟨qizh6, hf⟩ := gg_el hf
      obtain ⟨zt7, zh6, qzh6, hf⟩ := gc_el hf
      refine gx_ki (gx_runV (As := [.int za1]) (rest := []) X hw (c_X12_roomNow l E N za0 za1 zh3 qzh6) kX12_roomNow mm_X12_315 qizh6 clX12 ⟨Nat.le_of_ble_eq_true rfl, Nat.le_of_ble_eq_true rfl⟩ rfl rfl rfl hl.1 (Nat.le_of_ble_eq_true rfl) rfl dX12_book_30 ⟨Nat.le_of_ble_eq_true rfl, Nat.le_of_ble_eq_true rfl⟩) hw (fun H locs hw => ?_)
      refine lv_if_ge (tgt := 53) hx hb dX12_book_33 (by decide) (fun qc8 => ?_) (fun qc8 => ?_)
      · have hf := gif_t hf qc8
        exact J_53  _ _ _ ls hf hw (lv_sub hl [] rfl)
      · have hf := gif_f hf qc8
        refine lv_aload_n hx hb dX12_book_36 rfl (lv_at hl 0 rfl) ?_
        refine lv_iload_n hx hb dX12_book_37 rfl (lv_at hl 1 rfl) ?_
        obtain ⟨qizh9, hf⟩ := gg_el hf
        obtain ⟨zt10, zh9, qzh9, hf⟩ := gc_el hf
        refine gx_ki (gx_runV (As := [.int za1]) (rest := []) X hw (c_X12_isBooked l E N za0 za1 zh6 qzh9) kX12_isBooked mm_X12_404 qizh9 clX12 ⟨Nat.le_of_ble_eq_true rfl, Nat.le_of_ble_eq_true rfl⟩ rfl rfl rfl hl.1 (Nat.le_of_ble_eq_true rfl) rfl dX12_book_38 ⟨Nat.le_of_ble_eq_true rfl, Nat.le_of_ble_eq_true rfl⟩) hw (fun H locs hw => ?_)
        refine lv_if_ne (tgt := 53) hx hb dX12_book_41 (by decide) (fun qc11 => ?_) (fun qc11 => ?_)
        · have hf := gif_f hf qc11
          exact J_53  _ _ _ ls hf hw (lv_sub hl [] rfl)
        · have hf := gif_t hf qc11
          refine lv_aload_n hx hb dX12_book_44 rfl (lv_at hl 0 rfl) ?_
          obtain ⟨qizh12, hf⟩ := gg_el hf
          obtain ⟨zt13, zh12, qzh12, hf⟩ := gc_el hf
          refine gx_ki (gx_runV (As := []) (rest := []) X hw (c_X12_booked l E N za0 zh9 qzh12) kX12_booked mm_X12_331 qizh12 clX12 ⟨Nat.le_of_ble_eq_true rfl, Nat.le_of_ble_eq_true rfl⟩ rfl rfl rfl hl.1 (Nat.le_of_ble_eq_true rfl) rfl dX12_book_45 ⟨Nat.le_of_ble_eq_true rfl, Nat.le_of_ble_eq_true rfl⟩) hw (fun H locs hw => ?_)
          refine W.eq (g2 := F0 m 48 ls [.int zt13]) rfl ?_
          refine lv_bipush (v := 7) hx hb dX12_book_48 (by decide) ?_
          refine lv_icmp_ne (tgt := 55) hx hb dX12_book_50 (by decide) (fun qc14 => ?_) (fun qc14 => ?_)
          · have hf := gif_f hf qc14
            refine lv_aload_n hx hb dX12_book_55 rfl (lv_at hl 0 rfl) ?_
            obtain ⟨zt15, qzt15, hf⟩ := gb_el hf
            refine gx_getR X hw qzt15 clX12 (by decide) mf_X12_83 dX12_book_56 ?_
            refine lv_sipush (v := 496) hx hb dX12_book_59 (by decide) ?_
            refine lv_aload_n hx hb dX12_book_62 rfl (lv_at hl 0 rfl) ?_
            obtain ⟨qizh16, hf⟩ := gg_el hf
            obtain ⟨zt17, zh16, qzh16, hf⟩ := gc_el hf
            refine gx_ki (gx_runV (As := []) (rest := [.int 496, .ref (gB E + zt15)]) X hw (c_X12_booked l E N za0 zh12 qzh16) kX12_booked mm_X12_331 qizh16 clX12 ⟨Nat.le_of_ble_eq_true rfl, Nat.le_of_ble_eq_true rfl⟩ rfl rfl rfl hl.1 (Nat.le_of_ble_eq_true rfl) rfl dX12_book_63 ⟨Nat.le_of_ble_eq_true rfl, Nat.le_of_ble_eq_true rfl⟩) hw (fun H locs hw => ?_)
            refine lv_iadd hx hb dX12_book_66 ?_
            refine lv_iload_n hx hb dX12_book_67 rfl (lv_at hl 1 rfl) ?_
            obtain ⟨zh18, qzh18, hf⟩ := gb_el hf
            refine gx_iast X hw qzh18 dX12_book_68 (fun H locs hw => ?_)
            refine W.eq (g2 := F0 m 69 ls []) rfl ?_
            refine lv_aload_n hx hb dX12_book_69 rfl (lv_at hl 0 rfl) ?_
            obtain ⟨zt19, qzt19, hf⟩ := gb_el hf
            refine gx_getR X hw qzt19 clX12 (by decide) mf_X12_83 dX12_book_70 ?_
            refine lv_sipush (v := 495) hx hb dX12_book_73 (by decide) ?_
            refine lv_dup2_11 hx hb dX12_book_76 rfl rfl ?_
            obtain ⟨zt20, qzt20, hf⟩ := gb_el hf
            refine gx_iald X hw qzt20 dX12_book_77 ?_
            refine lv_iconst (v := 1) hx hb dX12_book_78 (by decide) ?_
            refine lv_iadd hx hb dX12_book_79 ?_
            obtain ⟨zh21, qzh21, hf⟩ := gb_el hf
            refine gx_iast X hw qzh21 dX12_book_80 (fun H locs hw => ?_)
            refine lv_aload_n hx hb dX12_book_81 rfl (lv_at hl 0 rfl) ?_
            obtain ⟨qizh22, hf⟩ := gg_el hf
            obtain ⟨zt23, zh22, qzh22, hf⟩ := gc_el hf
            refine gx_ki (gx_runV (As := []) (rest := []) X hw (c_X12_booked l E N za0 zh21 qzh22) kX12_booked mm_X12_331 qizh22 clX12 ⟨Nat.le_of_ble_eq_true rfl, Nat.le_of_ble_eq_true rfl⟩ rfl rfl rfl hl.1 (Nat.le_of_ble_eq_true rfl) rfl dX12_book_82 ⟨Nat.le_of_ble_eq_true rfl, Nat.le_of_ble_eq_true rfl⟩) hw (fun H locs hw => ?_)
            refine W.eq (g2 := F0 m 85 ls [.int zt23]) rfl ?_
            exact gx_iret X hr hlk hw hf dX12_book_85
          · have hf := gif_t hf qc14
            exact J_53  _ _ _ ls hf hw (lv_sub hl [] rfl)
  · have hf := gif_f hf qc2
    refine lv_aload_n hx hb dX12_book_9 rfl (lv_at hl 0 rfl) ?_
    obtain ⟨zt24, qzt24, hf⟩ := gb_el hf
    refine gx_getR X hw qzt24 clX12 (by decide) mf_X12_83 dX12_book_10 ?_
    refine lv_sipush (v := 495) hx hb dX12_book_13 (by decide) ?_
    refine lv_iconst (v := 0) hx hb dX12_book_16 (by decide) ?_
    refine W.eq (g2 := F0 m 17 ls [.int 0, .int 495, .ref (gB E + zt24)]) rfl ?_
    obtain ⟨zh25, qzh25, hf⟩ := gb_el hf
    refine gx_iast X hw qzh25 dX12_book_17 (fun H locs hw => ?_)
    refine lv_iconst (v := 0) hx hb dX12_book_18 (by decide) ?_
    exact gx_iret X hr hlk hw hf dX12_book_19
abbrev rm_X12_comesAll : Room := { frames := 6, cells := 0, slots := 0, locals := 140 }
set_option maxHeartbeats 4000000 in
set_option maxRecDepth 100000 in
theorem c_X12_comesAll (l : Launch) (E : gE) (N : Nat) (za0 : Nat) (zh : PH) {h9 : PH} (hf : f_X12_comesAll N za0 zh = some h9) : Met l yX12_comesAll (gWS yX12_comesAll cX12_comesAll 4 none) rm_X12_comesAll (gPc E [.ref (gB E + za0)] zh) (gQv E h9) 0 0 (gA E) := by
  refine gx_met (by decide) ?_ rfl
  intro p e s m below meth c X hr hlk hin2 hw
  have hx := X.1.1
  have hb := X.1.2.1
  have hl := lv_entry [.ref (gB E + za0)] (n := 4) (Nat.le_of_ble_eq_true rfl)
  rw [lg_entry_eq]
  generalize (lg_sl [.ref (gB E + za0)] ++ List.replicate (4 - (lg_sl [.ref (gB E + za0)]).length) Slot.unset).toArray = ls at hl ⊢
  have hl : lv_has ls 4 [(0, .ref (gB E + za0))] := hl
  have L_26 : ∀ (zn26 : Nat) (zv0 : Nat) (zv1 : Int32) (zv2 : Int32) (zv3 : Int32) (zh : PH) (H : Heap) (locs : List Loc) (ls : Array Slot), gi (fun zk zs => f_X12_comesAll_26 N zk zs.1 zs.2.1 zs.2.2.1 zs.2.2.2.1 zs.2.2.2.2) zn26 (zv0, zv1, zv2, zv3, zh) = some h9 → gw E s zh H locs → lv_has ls 4 [(0, .ref (gB E + zv0)), (1, .int zv1), (2, .int zv2), (3, .int zv3)] → W p l e rm_X12_comesAll s m [.ref (gB E + za0)].toArray below meth c H locs 0 0 (MQ below (gQv E h9) [.ref (gB E + za0)].toArray s 0 0 (gA E)) (F0 m 26 ls []) := by
    intro zn26
    induction zn26 with
    | zero =>
      intro zv0 zv1 zv2 zv3 zh H locs ls hf
      cases hf
    | succ zn26 ih_26 =>
      intro zv0 zv1 zv2 zv3 zh H locs ls hf hw hl
      have hf := gi_s hf
      dsimp only at hf
      unfold f_X12_comesAll_26 at hf
      refine lv_iload_n hx hb dX12_comesAll_26 rfl (lv_at hl 3 rfl) ?_
      refine lv_aload_n hx hb dX12_comesAll_27 rfl (lv_at hl 0 rfl) ?_
      obtain ⟨qizh1, hf⟩ := gg_el hf
      obtain ⟨zt2, zh1, qzh1, hf⟩ := gc_el hf
      refine gx_ki (gx_runV (As := []) (rest := [.int zv3]) X hw (c_X12_booked l E N zv0 zh qzh1) kX12_booked mm_X12_331 qizh1 clX12 ⟨Nat.le_of_ble_eq_true rfl, Nat.le_of_ble_eq_true rfl⟩ rfl rfl rfl hl.1 (Nat.le_of_ble_eq_true rfl) rfl dX12_comesAll_28 ⟨Nat.le_of_ble_eq_true rfl, Nat.le_of_ble_eq_true rfl⟩) hw (fun H locs hw => ?_)
      refine lv_icmp_ge (tgt := 50) hx hb dX12_comesAll_31 (by decide) (fun qc3 => ?_) (fun qc3 => ?_)
      · have hf := gif_t hf qc3
        refine lv_aload_n hx hb dX12_comesAll_50 rfl (lv_at hl 0 rfl) ?_
        refine lv_aload_n hx hb dX12_comesAll_51 rfl (lv_at hl 0 rfl) ?_
        obtain ⟨zt4, qzt4, hf⟩ := gb_el hf
        refine gx_getR X hw qzt4 clX12 (by decide) mf_X12_89 dX12_comesAll_52 ?_
        refine lv_aload_n hx hb dX12_comesAll_55 rfl (lv_at hl 0 rfl) ?_
        obtain ⟨zt5, qzt5, hf⟩ := gb_el hf
        refine gx_getI X hw qzt5 clX12 (by decide) mf_X12_407 dX12_comesAll_56 ?_
        refine W.eq (g2 := F0 m 59 ls [.int zt5, .ref (gB E + zt4), .ref (gB E + zv0)]) rfl ?_
        obtain ⟨zt6, qzt6, hf⟩ := gb_el hf
        refine gx_iald X hw qzt6 dX12_comesAll_59 ?_
        refine lv_iload_n hx hb dX12_comesAll_60 rfl (lv_at hl 1 rfl) ?_
        refine lv_isub hx hb dX12_comesAll_61 ?_
        obtain ⟨zh7, qzh7, hf⟩ := gb_el hf
        refine gx_putV X hw qzh7 clX12 (by decide) mf_X12_410 rfl rfl rfl dX12_comesAll_62 (fun H locs hw => ?_)
        refine lv_aload_n hx hb dX12_comesAll_65 rfl (lv_at hl 0 rfl) ?_
        refine lv_aload_n hx hb dX12_comesAll_66 rfl (lv_at hl 0 rfl) ?_
        obtain ⟨zt8, qzt8, hf⟩ := gb_el hf
        refine gx_getI X hw qzt8 clX12 (by decide) mf_X12_243 dX12_comesAll_67 ?_
        refine lv_iload_n hx hb dX12_comesAll_70 rfl (lv_at hl 2 rfl) ?_
        refine lv_isub hx hb dX12_comesAll_71 ?_
        obtain ⟨zh9, qzh9, hf⟩ := gb_el hf
        refine gx_putV X hw qzh9 clX12 (by decide) mf_X12_413 rfl rfl rfl dX12_comesAll_72 (fun H locs hw => ?_)
        refine W.eq (g2 := F0 m 75 ls []) rfl ?_
        refine lv_aload_n hx hb dX12_comesAll_75 rfl (lv_at hl 0 rfl) ?_
        refine lv_iconst (v := 1) hx hb dX12_comesAll_76 (by decide) ?_
        obtain ⟨zh10, qzh10, hf⟩ := gb_el hf
        refine gx_putV X hw qzh10 clX12 (by decide) mf_X12_123 rfl rfl rfl dX12_comesAll_77 (fun H locs hw => ?_)
        exact gx_vret X hr hlk hw hf dX12_comesAll_80
      · have hf := gif_f hf qc3
        refine lv_aload_n hx hb dX12_comesAll_34 rfl (lv_at hl 0 rfl) ?_
        refine lv_aload_n hx hb dX12_comesAll_35 rfl (lv_at hl 0 rfl) ?_
        obtain ⟨zt11, qzt11, hf⟩ := gb_el hf
        refine gx_getR X hw qzt11 clX12 (by decide) mf_X12_105 dX12_comesAll_36 ?_
        refine lv_iload_n hx hb dX12_comesAll_39 rfl (lv_at hl 3 rfl) ?_
        obtain ⟨zt12, qzt12, hf⟩ := gb_el hf
        refine gx_iald X hw qzt12 dX12_comesAll_40 ?_
        refine W.eq (g2 := F0 m 41 ls [.int zt12, .ref (gB E + zv0)]) rfl ?_
        obtain ⟨qizh13, hf⟩ := gg_el hf
        obtain ⟨zh13, qzh13, hf⟩ := gb_el hf
        refine gx_kv (gx_runV (As := [.int zt12]) (rest := []) X hw (c_X12_comes l E N zv0 zt12 zh1 qzh13) kX12_comes mm_X12_290 qizh13 clX12 ⟨Nat.le_of_ble_eq_true rfl, Nat.le_of_ble_eq_true rfl⟩ rfl rfl rfl hl.1 (Nat.le_of_ble_eq_true rfl) rfl dX12_comesAll_41 ⟨Nat.le_of_ble_eq_true rfl, Nat.le_of_ble_eq_true rfl⟩) hw (fun H locs hw => ?_)
        obtain ⟨zx14, ezx14⟩ : ∃ y : Int32, y = zv3 + 1 := ⟨_, rfl⟩
        have hf := gl_el hf ezx14
        refine lv_iinc (v := zx14) (lv' := [(3, .int zx14), (0, .ref (gB E + zv0)), (1, .int zv1), (2, .int zv2)]) hx hb dX12_comesAll_44 hl (k := 3) rfl (by rw [ezx14]; rfl) (by decide) rfl (fun ls hl => ?_)
        refine lv_goto (tgt := 26) hx hb dX12_comesAll_47 (by decide) ?_
        exact ih_26 zv0 zv1 zv2 zx14 _ _ _ ls hf hw (lv_sub hl [1, 2, 3, 0] rfl)
  unfold f_X12_comesAll at hf
  refine lv_aload_n hx hb dX12_comesAll_0 rfl (lv_at hl 0 rfl) ?_
  refine lv_iconst (v := 1) hx hb dX12_comesAll_1 (by decide) ?_
  obtain ⟨zh1, qzh1, hf⟩ := gb_el hf
  refine gx_putV X hw qzh1 clX12 (by decide) mf_X12_123 rfl rfl rfl dX12_comesAll_2 (fun H locs hw => ?_)
  refine lv_aload_n hx hb dX12_comesAll_5 rfl (lv_at hl 0 rfl) ?_
  obtain ⟨qizh2, hf⟩ := gg_el hf
  obtain ⟨zh2, qzh2, hf⟩ := gb_el hf
  refine gx_kv (gx_runV (As := []) (rest := []) X hw (c_X12_find l E N za0 zh1 qzh2) kX12_find mm_X12_300 qizh2 clX12 ⟨Nat.le_of_ble_eq_true rfl, Nat.le_of_ble_eq_true rfl⟩ rfl rfl rfl hl.1 (Nat.le_of_ble_eq_true rfl) rfl dX12_comesAll_6 ⟨Nat.le_of_ble_eq_true rfl, Nat.le_of_ble_eq_true rfl⟩) hw (fun H locs hw => ?_)
  refine lv_aload_n hx hb dX12_comesAll_9 rfl (lv_at hl 0 rfl) ?_
  obtain ⟨zt3, qzt3, hf⟩ := gb_el hf
  refine gx_getR X hw qzt3 clX12 (by decide) mf_X12_89 dX12_comesAll_10 ?_
  refine lv_aload_n hx hb dX12_comesAll_13 rfl (lv_at hl 0 rfl) ?_
  obtain ⟨zt4, qzt4, hf⟩ := gb_el hf
  refine gx_getI X hw qzt4 clX12 (by decide) mf_X12_407 dX12_comesAll_14 ?_
  refine W.eq (g2 := F0 m 17 ls [.int zt4, .ref (gB E + zt3)]) rfl ?_
  obtain ⟨zt5, qzt5, hf⟩ := gb_el hf
  refine gx_iald X hw qzt5 dX12_comesAll_17 ?_
  refine lv_istore_n (lv' := [(1, .int zt5), (0, .ref (gB E + za0))]) hx hb dX12_comesAll_18 rfl hl (by decide) rfl (fun ls hl => ?_)
  refine lv_aload_n hx hb dX12_comesAll_19 rfl (lv_at hl 1 rfl) ?_
  obtain ⟨zt6, qzt6, hf⟩ := gb_el hf
  refine gx_getI X hw qzt6 clX12 (by decide) mf_X12_243 dX12_comesAll_20 ?_
  refine lv_istore_n (lv' := [(2, .int zt6), (1, .int zt5), (0, .ref (gB E + za0))]) hx hb dX12_comesAll_23 rfl hl (by decide) rfl (fun ls hl => ?_)
  refine lv_iconst (v := 0) hx hb dX12_comesAll_24 (by decide) ?_
  refine lv_istore_n (lv' := [(3, .int 0), (2, .int zt6), (1, .int zt5), (0, .ref (gB E + za0))]) hx hb dX12_comesAll_25 rfl hl (by decide) rfl (fun ls hl => ?_)
  exact L_26 N za0 zt5 zt6 0 _ _ _ ls hf hw (lv_sub hl [3, 2, 1, 0] rfl)
abbrev rm_gO (zd : Nat) : Room := { frames := zd + 7, cells := 0, slots := 0, locals := 24 * zd + 163 }
set_option maxHeartbeats 4000000 in
set_option maxRecDepth 100000 in
theorem cg_gO (l : Launch) (E : gE) (N : Nat) : ∀ zd : Nat, (∀ (za0 : Nat) (za1 : Int32) (za2 : Int32) (zh h9 : PH), (g_gO N zd) za0 za1 za2 zh = some h9 → Met l yX12_triesBooked (gWS yX12_triesBooked cX12_triesBooked 5 none) (rm_gO zd) (gPc E [.ref (gB E + za0), .int za1, .int za2] zh) (gQv E h9) 0 0 (gA E)) := by
  intro zd
  induction zd with
  | zero => exact (fun _ _ _ _ _ hf => by cases hf)
  | succ zd ih =>
    · intro za0 za1 za2 zh h9 hf
      have hf : b_X12_triesBooked N (g_gO N zd) za0 za1 za2 zh = some h9 := hf
      refine gx_met (by decide) ?_ rfl
      intro p e s m below meth c X hr hlk hin2 hw
      have hx := X.1.1
      have hb := X.1.2.1
      have hl := lv_entry [.ref (gB E + za0), .int za1, .int za2] (n := 5) (Nat.le_of_ble_eq_true rfl)
      rw [lg_entry_eq]
      generalize (lg_sl [.ref (gB E + za0), .int za1, .int za2] ++ List.replicate (5 - (lg_sl [.ref (gB E + za0), .int za1, .int za2]).length) Slot.unset).toArray = ls at hl ⊢
      have hl : lv_has ls 5 [(0, .ref (gB E + za0)), (1, .int za1), (2, .int za2)] := hl
      have L_110 : ∀ (zn110 : Nat) (zv0 : Nat) (zv1 : Int32) (zv2 : Int32) (zv3 : Int32) (zh : PH) (H : Heap) (locs : List Loc) (ls : Array Slot), gi (fun zk zs => f_X12_triesBooked_110 N (g_gO N zd) zk zs.1 zs.2.1 zs.2.2.1 zs.2.2.2.1 zs.2.2.2.2) zn110 (zv0, zv1, zv2, zv3, zh) = some h9 → gw E s zh H locs → lv_has ls 5 [(0, .ref (gB E + zv0)), (1, .int zv1), (2, .int zv2), (3, .int zv3)] → W p l e (rm_gO (zd + 1)) s m [.ref (gB E + za0), .int za1, .int za2].toArray below meth c H locs 0 0 (MQ below (gQv E h9) [.ref (gB E + za0), .int za1, .int za2].toArray s 0 0 (gA E)) (F0 m 110 ls []) := by
        intro zn110
        induction zn110 with
        | zero =>
          intro zv0 zv1 zv2 zv3 zh H locs ls hf
          cases hf
        | succ zn110 ih_110 =>
          have J_153 : ∀ (zv0 : Nat) (zv1 : Int32) (zv2 : Int32) (zv3 : Int32) (zh : PH) (H : Heap) (locs : List Loc) (ls : Array Slot), f_X12_triesBooked_153 N (g_gO N zd) (gi (fun zk zs => f_X12_triesBooked_110 N (g_gO N zd) zk zs.1 zs.2.1 zs.2.2.1 zs.2.2.2.1 zs.2.2.2.2) zn110) zv0 zv1 zv2 zv3 zh = some h9 → gw E s zh H locs → lv_has ls 5 [(0, .ref (gB E + zv0)), (1, .int zv1), (2, .int zv2), (3, .int zv3)] → W p l e (rm_gO (zd + 1)) s m [.ref (gB E + za0), .int za1, .int za2].toArray below meth c H locs 0 0 (MQ below (gQv E h9) [.ref (gB E + za0), .int za1, .int za2].toArray s 0 0 (gA E)) (F0 m 153 ls []) := by
            intro zv0 zv1 zv2 zv3 zh H locs ls hf hw hl
            unfold f_X12_triesBooked_153 at hf
            obtain ⟨zx1, ezx1⟩ : ∃ y : Int32, y = zv3 + 1 := ⟨_, rfl⟩
            have hf := gl_el hf ezx1
            refine lv_iinc (v := zx1) (lv' := [(3, .int zx1), (0, .ref (gB E + zv0)), (1, .int zv1), (2, .int zv2)]) hx hb dX12_triesBooked_153 hl (k := 3) rfl (by rw [ezx1]; rfl) (by decide) rfl (fun ls hl => ?_)
            refine lv_goto (tgt := 110) hx hb dX12_triesBooked_156 (by decide) ?_
            exact ih_110 zv0 zv1 zv2 zx1 _ _ _ ls hf hw (lv_sub hl [1, 2, 3, 0] rfl)
          intro zv0 zv1 zv2 zv3 zh H locs ls hf hw hl
          have hf := gi_s hf
          dsimp only at hf
          unfold f_X12_triesBooked_110 at hf
          refine lv_iload_n hx hb dX12_triesBooked_110 rfl (lv_at hl 3 rfl) ?_
          refine lv_aload_n hx hb dX12_triesBooked_111 rfl (lv_at hl 0 rfl) ?_
          obtain ⟨qizh1, hf⟩ := gg_el hf
          obtain ⟨zt2, zh1, qzh1, hf⟩ := gc_el hf
          refine gx_ki (gx_runV (As := []) (rest := [.int zv3]) X hw (c_X12_guests l E N zv0 zh qzh1) kX12_guests mm_X12_234 qizh1 clX12 ⟨by dsimp only [rm_gO, rm_X12_guests]; omega, by dsimp only [rm_gO, rm_X12_guests]; omega⟩ rfl rfl rfl hl.1 (Nat.le_of_ble_eq_true rfl) rfl dX12_triesBooked_112 ⟨Nat.le_of_ble_eq_true rfl, Nat.le_of_ble_eq_true rfl⟩) hw (fun H locs hw => ?_)
          refine lv_icmp_ge (tgt := 159) hx hb dX12_triesBooked_115 (by decide) (fun qc3 => ?_) (fun qc3 => ?_)
          · have hf := gif_t hf qc3
            exact gx_vret X hr hlk hw hf dX12_triesBooked_159
          · have hf := gif_f hf qc3
            refine lv_aload_n hx hb dX12_triesBooked_118 rfl (lv_at hl 0 rfl) ?_
            refine lv_iload_n hx hb dX12_triesBooked_119 rfl (lv_at hl 3 rfl) ?_
            obtain ⟨qizh4, hf⟩ := gg_el hf
            obtain ⟨zt5, zh4, qzh4, hf⟩ := gc_el hf
            refine gx_ki (gx_runV (As := [.int zv3]) (rest := []) X hw (c_X12_isBooked l E N zv0 zv3 zh1 qzh4) kX12_isBooked mm_X12_404 qizh4 clX12 ⟨by dsimp only [rm_gO, rm_X12_isBooked]; omega, by dsimp only [rm_gO, rm_X12_isBooked]; omega⟩ rfl rfl rfl hl.1 (Nat.le_of_ble_eq_true rfl) rfl dX12_triesBooked_120 ⟨Nat.le_of_ble_eq_true rfl, Nat.le_of_ble_eq_true rfl⟩) hw (fun H locs hw => ?_)
            refine lv_if_eq (tgt := 153) hx hb dX12_triesBooked_123 (by decide) (fun qc6 => ?_) (fun qc6 => ?_)
            · have hf := gif_t hf qc6
              exact J_153 zv0 zv1 zv2 zv3 _ _ _ ls hf hw (lv_sub hl [0, 1, 2, 3] rfl)
            · have hf := gif_f hf qc6
              refine lv_iload_n hx hb dX12_triesBooked_126 rfl (lv_at hl 2 rfl) ?_
              refine W.eq (g2 := F0 m 127 ls [.int zv2]) rfl ?_
              refine lv_iload_n hx hb dX12_triesBooked_127 rfl (lv_at hl 3 rfl) ?_
              refine lv_ishr hx hb dX12_triesBooked_128 ?_
              refine lv_iconst (v := 1) hx hb dX12_triesBooked_129 (by decide) ?_
              refine lv_iand hx hb dX12_triesBooked_130 ?_
              refine lv_if_ne (tgt := 153) hx hb dX12_triesBooked_131 (by decide) (fun qc7 => ?_) (fun qc7 => ?_)
              · have hf := gif_f hf qc7
                exact J_153 zv0 zv1 zv2 zv3 _ _ _ ls hf hw (lv_sub hl [0, 1, 2, 3] rfl)
              · have hf := gif_t hf qc7
                refine lv_aload_n hx hb dX12_triesBooked_134 rfl (lv_at hl 0 rfl) ?_
                obtain ⟨zt8, qzt8, hf⟩ := gb_el hf
                refine gx_getR X hw qzt8 clX12 (by decide) mf_X12_105 dX12_triesBooked_135 ?_
                refine lv_iload_n hx hb dX12_triesBooked_138 rfl (lv_at hl 1 rfl) ?_
                refine lv_iload_n hx hb dX12_triesBooked_139 rfl (lv_at hl 3 rfl) ?_
                obtain ⟨zh9, qzh9, hf⟩ := gb_el hf
                refine gx_iast X hw qzh9 dX12_triesBooked_140 (fun H locs hw => ?_)
                refine W.eq (g2 := F0 m 141 ls []) rfl ?_
                refine lv_aload_n hx hb dX12_triesBooked_141 rfl (lv_at hl 0 rfl) ?_
                refine lv_iload_n hx hb dX12_triesBooked_142 rfl (lv_at hl 1 rfl) ?_
                refine lv_iconst (v := 1) hx hb dX12_triesBooked_143 (by decide) ?_
                refine lv_iadd hx hb dX12_triesBooked_144 ?_
                refine lv_iload_n hx hb dX12_triesBooked_145 rfl (lv_at hl 2 rfl) ?_
                refine lv_iconst (v := 1) hx hb dX12_triesBooked_146 (by decide) ?_
                refine lv_iload_n hx hb dX12_triesBooked_147 rfl (lv_at hl 3 rfl) ?_
                refine lv_ishl hx hb dX12_triesBooked_148 ?_
                refine lv_ior hx hb dX12_triesBooked_149 ?_
                obtain ⟨qizh10, hf⟩ := gg_el hf
                obtain ⟨zh10, qzh10, hf⟩ := gb_el hf
                refine gx_kv (gx_runV (As := [.int (zv1 + 1), .int (zv2 ||| (1 <<< (zv3 &&& 31)))]) (rest := []) X hw (ih zv0 (zv1 + 1) (zv2 ||| (1 <<< (zv3 &&& 31))) zh9 _ qzh10) kX12_triesBooked mm_X12_425 qizh10 clX12 ⟨by dsimp only [rm_gO]; omega, by dsimp only [rm_gO]; omega⟩ rfl rfl rfl hl.1 (Nat.le_of_ble_eq_true rfl) rfl dX12_triesBooked_150 ⟨Nat.le_of_ble_eq_true rfl, Nat.le_of_ble_eq_true rfl⟩) hw (fun H locs hw => ?_)
                exact J_153 zv0 zv1 zv2 zv3 _ _ _ ls hf hw (lv_sub hl [0, 1, 2, 3] rfl)
      have J_107 : ∀ (zh : PH) (H : Heap) (locs : List Loc) (ls : Array Slot), f_X12_triesBooked_107 N (g_gO N zd) zh = some h9 → gw E s zh H locs → lv_has ls 5 [] → W p l e (rm_gO (zd + 1)) s m [.ref (gB E + za0), .int za1, .int za2].toArray below meth c H locs 0 0 (MQ below (gQv E h9) [.ref (gB E + za0), .int za1, .int za2].toArray s 0 0 (gA E)) (F0 m 107 ls []) := by
        intro zh H locs ls hf hw hl
        unfold f_X12_triesBooked_107 at hf
        exact gx_vret X hr hlk hw hf dX12_triesBooked_107
      have L_81 : ∀ (zn81 : Nat) (zv0 : Nat) (zv1 : Int32) (zv4 : Int32) (zh : PH) (H : Heap) (locs : List Loc) (ls : Array Slot), gi (fun zk zs => f_X12_triesBooked_81 N (g_gO N zd) zk zs.1 zs.2.1 zs.2.2.1 zs.2.2.2) zn81 (zv0, zv1, zv4, zh) = some h9 → gw E s zh H locs → lv_has ls 5 [(0, .ref (gB E + zv0)), (1, .int zv1), (4, .int zv4)] → W p l e (rm_gO (zd + 1)) s m [.ref (gB E + za0), .int za1, .int za2].toArray below meth c H locs 0 0 (MQ below (gQv E h9) [.ref (gB E + za0), .int za1, .int za2].toArray s 0 0 (gA E)) (F0 m 81 ls []) := by
        intro zn81
        induction zn81 with
        | zero =>
          intro zv0 zv1 zv4 zh H locs ls hf
          cases hf
        | succ zn81 ih_81 =>
          intro zv0 zv1 zv4 zh H locs ls hf hw hl
          have hf := gi_s hf
          dsimp only at hf
          unfold f_X12_triesBooked_81 at hf
          refine lv_iload hx hb dX12_triesBooked_81 (lv_at hl 2 rfl) ?_
          refine lv_iload_n hx hb dX12_triesBooked_83 rfl (lv_at hl 1 rfl) ?_
          refine lv_icmp_ge (tgt := 107) hx hb dX12_triesBooked_84 (by decide) (fun qc1 => ?_) (fun qc1 => ?_)
          · have hf := gif_t hf qc1
            exact J_107  _ _ _ ls hf hw (lv_sub hl [] rfl)
          · have hf := gif_f hf qc1
            refine lv_aload_n hx hb dX12_triesBooked_87 rfl (lv_at hl 0 rfl) ?_
            obtain ⟨zt2, qzt2, hf⟩ := gb_el hf
            refine gx_getR X hw qzt2 clX12 (by decide) mf_X12_117 dX12_triesBooked_88 ?_
            refine lv_iload hx hb dX12_triesBooked_91 (lv_at hl 2 rfl) ?_
            refine lv_aload_n hx hb dX12_triesBooked_93 rfl (lv_at hl 0 rfl) ?_
            obtain ⟨zt3, qzt3, hf⟩ := gb_el hf
            refine gx_getR X hw qzt3 clX12 (by decide) mf_X12_105 dX12_triesBooked_94 ?_
            refine lv_iload hx hb dX12_triesBooked_97 (lv_at hl 2 rfl) ?_
            refine W.eq (g2 := F0 m 99 ls [.int zv4, .ref (gB E + zt3), .int zv4, .ref (gB E + zt2)]) rfl ?_
            obtain ⟨zt4, qzt4, hf⟩ := gb_el hf
            refine gx_iald X hw qzt4 dX12_triesBooked_99 ?_
            obtain ⟨zh5, qzh5, hf⟩ := gb_el hf
            refine gx_iast X hw qzh5 dX12_triesBooked_100 (fun H locs hw => ?_)
            obtain ⟨zx6, ezx6⟩ : ∃ y : Int32, y = zv4 + 1 := ⟨_, rfl⟩
            have hf := gl_el hf ezx6
            refine lv_iinc (v := zx6) (lv' := [(4, .int zx6), (0, .ref (gB E + zv0)), (1, .int zv1)]) hx hb dX12_triesBooked_101 hl (k := 2) rfl (by rw [ezx6]; rfl) (by decide) rfl (fun ls hl => ?_)
            refine lv_goto (tgt := 81) hx hb dX12_triesBooked_104 (by decide) ?_
            exact ih_81 zv0 zv1 zx6 _ _ _ ls hf hw (lv_sub hl [1, 2, 0] rfl)
      have J_57 : ∀ (zv0 : Nat) (zv1 : Int32) (zs0 : Int32) (zh : PH) (H : Heap) (locs : List Loc) (ls : Array Slot), f_X12_triesBooked_57 N (g_gO N zd) zv0 zv1 zs0 zh = some h9 → gw E s zh H locs → lv_has ls 5 [(0, .ref (gB E + zv0)), (1, .int zv1)] → W p l e (rm_gO (zd + 1)) s m [.ref (gB E + za0), .int za1, .int za2].toArray below meth c H locs 0 0 (MQ below (gQv E h9) [.ref (gB E + za0), .int za1, .int za2].toArray s 0 0 (gA E)) (F0 m 57 ls [.int zs0]) := by
        intro zv0 zv1 zs0 zh H locs ls hf hw hl
        unfold f_X12_triesBooked_57 at hf
        refine lv_istore_n (lv' := [(3, .int zs0), (0, .ref (gB E + zv0)), (1, .int zv1)]) hx hb dX12_triesBooked_57 rfl hl (by decide) rfl (fun ls hl => ?_)
        refine lv_iload_n hx hb dX12_triesBooked_58 rfl (lv_at hl 0 rfl) ?_
        refine lv_if_eq (tgt := 107) hx hb dX12_triesBooked_59 (by decide) (fun qc1 => ?_) (fun qc1 => ?_)
        · have hf := gif_t hf qc1
          exact J_107  _ _ _ ls hf hw (lv_sub hl [] rfl)
        · have hf := gif_f hf qc1
          refine lv_aload_n hx hb dX12_triesBooked_62 rfl (lv_at hl 1 rfl) ?_
          refine lv_aload_n hx hb dX12_triesBooked_63 rfl (lv_at hl 1 rfl) ?_
          obtain ⟨zt2, qzt2, hf⟩ := gb_el hf
          refine gx_getI X hw qzt2 clX12 (by decide) mf_X12_410 dX12_triesBooked_64 ?_
          obtain ⟨zh3, qzh3, hf⟩ := gb_el hf
          refine gx_putV X hw qzh3 clX12 (by decide) mf_X12_419 rfl rfl rfl dX12_triesBooked_67 (fun H locs hw => ?_)
          refine lv_aload_n hx hb dX12_triesBooked_70 rfl (lv_at hl 1 rfl) ?_
          refine lv_aload_n hx hb dX12_triesBooked_71 rfl (lv_at hl 1 rfl) ?_
          refine W.eq (g2 := F0 m 72 ls [.ref (gB E + zv0), .ref (gB E + zv0)]) rfl ?_
          obtain ⟨zt4, qzt4, hf⟩ := gb_el hf
          refine gx_getI X hw qzt4 clX12 (by decide) mf_X12_413 dX12_triesBooked_72 ?_
          obtain ⟨zh5, qzh5, hf⟩ := gb_el hf
          refine gx_putV X hw qzh5 clX12 (by decide) mf_X12_422 rfl rfl rfl dX12_triesBooked_75 (fun H locs hw => ?_)
          refine lv_iconst (v := 0) hx hb dX12_triesBooked_78 (by decide) ?_
          refine lv_istore (lv' := [(4, .int 0), (3, .int zs0), (0, .ref (gB E + zv0)), (1, .int zv1)]) hx hb dX12_triesBooked_79 hl (by decide) rfl (fun ls hl => ?_)
          exact L_81 N zv0 zv1 0 _ _ _ ls hf hw (lv_sub hl [2, 3, 0] rfl)
      have J_56 : ∀ (zv0 : Nat) (zv1 : Int32) (zh : PH) (H : Heap) (locs : List Loc) (ls : Array Slot), f_X12_triesBooked_56 N (g_gO N zd) zv0 zv1 zh = some h9 → gw E s zh H locs → lv_has ls 5 [(0, .ref (gB E + zv0)), (1, .int zv1)] → W p l e (rm_gO (zd + 1)) s m [.ref (gB E + za0), .int za1, .int za2].toArray below meth c H locs 0 0 (MQ below (gQv E h9) [.ref (gB E + za0), .int za1, .int za2].toArray s 0 0 (gA E)) (F0 m 56 ls []) := by
        intro zv0 zv1 zh H locs ls hf hw hl
        unfold f_X12_triesBooked_56 at hf
        refine lv_iconst (v := 0) hx hb dX12_triesBooked_56 (by decide) ?_
        exact J_57 zv0 zv1 0 _ _ _ ls hf hw (lv_sub hl [0, 1] rfl)
      have J_52 : ∀ (zv0 : Nat) (zv1 : Int32) (zh : PH) (H : Heap) (locs : List Loc) (ls : Array Slot), f_X12_triesBooked_52 N (g_gO N zd) zv0 zv1 zh = some h9 → gw E s zh H locs → lv_has ls 5 [(0, .ref (gB E + zv0)), (1, .int zv1)] → W p l e (rm_gO (zd + 1)) s m [.ref (gB E + za0), .int za1, .int za2].toArray below meth c H locs 0 0 (MQ below (gQv E h9) [.ref (gB E + za0), .int za1, .int za2].toArray s 0 0 (gA E)) (F0 m 52 ls []) := by
        intro zv0 zv1 zh H locs ls hf hw hl
        unfold f_X12_triesBooked_52 at hf
        refine lv_iconst (v := 1) hx hb dX12_triesBooked_52 (by decide) ?_
        refine lv_goto (tgt := 57) hx hb dX12_triesBooked_53 (by decide) ?_
        exact J_57 zv0 zv1 1 _ _ _ ls hf hw (lv_sub hl [0, 1] rfl)
      unfold b_X12_triesBooked at hf
      refine lv_iload_n hx hb dX12_triesBooked_0 rfl (lv_at hl 1 rfl) ?_
      refine lv_aload_n hx hb dX12_triesBooked_1 rfl (lv_at hl 0 rfl) ?_
      obtain ⟨qizh1, hf⟩ := gg_el hf
      obtain ⟨zt2, zh1, qzh1, hf⟩ := gc_el hf
      refine gx_ki (gx_runV (As := []) (rest := [.int za1]) X hw (c_X12_booked l E N za0 zh qzh1) kX12_booked mm_X12_331 qizh1 clX12 ⟨by dsimp only [rm_gO, rm_X12_booked]; omega, by dsimp only [rm_gO, rm_X12_booked]; omega⟩ rfl rfl rfl hl.1 (Nat.le_of_ble_eq_true rfl) rfl dX12_triesBooked_2 ⟨Nat.le_of_ble_eq_true rfl, Nat.le_of_ble_eq_true rfl⟩) hw (fun H locs hw => ?_)
      refine lv_icmp_ne (tgt := 108) hx hb dX12_triesBooked_5 (by decide) (fun qc3 => ?_) (fun qc3 => ?_)
      · have hf := gif_f hf qc3
        refine lv_iconst (v := 0) hx hb dX12_triesBooked_108 (by decide) ?_
        refine lv_istore_n (lv' := [(3, .int 0), (0, .ref (gB E + za0)), (1, .int za1), (2, .int za2)]) hx hb dX12_triesBooked_109 rfl hl (by decide) rfl (fun ls hl => ?_)
        exact L_110 N za0 za1 za2 0 _ _ _ ls hf hw (lv_sub hl [1, 2, 3, 0] rfl)
      · have hf := gif_t hf qc3
        refine lv_aload_n hx hb dX12_triesBooked_8 rfl (lv_at hl 0 rfl) ?_
        obtain ⟨qizh4, hf⟩ := gg_el hf
        obtain ⟨zh4, qzh4, hf⟩ := gb_el hf
        refine gx_kv (gx_runV (As := []) (rest := []) X hw (c_X12_comesAll l E N za0 zh1 qzh4) kX12_comesAll mm_X12_416 qizh4 clX12 ⟨by dsimp only [rm_gO, rm_X12_comesAll]; omega, by dsimp only [rm_gO, rm_X12_comesAll]; omega⟩ rfl rfl rfl hl.1 (Nat.le_of_ble_eq_true rfl) rfl dX12_triesBooked_9 ⟨Nat.le_of_ble_eq_true rfl, Nat.le_of_ble_eq_true rfl⟩) hw (fun H locs hw => ?_)
        refine lv_aload_n hx hb dX12_triesBooked_12 rfl (lv_at hl 0 rfl) ?_
        obtain ⟨zt5, qzt5, hf⟩ := gb_el hf
        refine gx_getI X hw qzt5 clX12 (by decide) mf_X12_419 dX12_triesBooked_13 ?_
        refine lv_if_lt (tgt := 52) hx hb dX12_triesBooked_16 (by decide) (fun qc6 => ?_) (fun qc6 => ?_)
        · have hf := gif_t hf qc6
          exact J_52 za0 za1 _ _ _ ls hf hw (lv_sub hl [0, 1] rfl)
        · have hf := gif_f hf qc6
          refine W.eq (g2 := F0 m 19 ls []) rfl ?_
          refine lv_aload_n hx hb dX12_triesBooked_19 rfl (lv_at hl 0 rfl) ?_
          obtain ⟨zt7, qzt7, hf⟩ := gb_el hf
          refine gx_getI X hw qzt7 clX12 (by decide) mf_X12_410 dX12_triesBooked_20 ?_
          refine lv_aload_n hx hb dX12_triesBooked_23 rfl (lv_at hl 0 rfl) ?_
          obtain ⟨zt8, qzt8, hf⟩ := gb_el hf
          refine gx_getI X hw qzt8 clX12 (by decide) mf_X12_419 dX12_triesBooked_24 ?_
          refine lv_icmp_lt (tgt := 52) hx hb dX12_triesBooked_27 (by decide) (fun qc9 => ?_) (fun qc9 => ?_)
          · have hf := gif_t hf qc9
            exact J_52 za0 za1 _ _ _ ls hf hw (lv_sub hl [0, 1] rfl)
          · have hf := gif_f hf qc9
            refine lv_aload_n hx hb dX12_triesBooked_30 rfl (lv_at hl 0 rfl) ?_
            obtain ⟨zt10, qzt10, hf⟩ := gb_el hf
            refine gx_getI X hw qzt10 clX12 (by decide) mf_X12_410 dX12_triesBooked_31 ?_
            refine lv_aload_n hx hb dX12_triesBooked_34 rfl (lv_at hl 0 rfl) ?_
            obtain ⟨zt11, qzt11, hf⟩ := gb_el hf
            refine gx_getI X hw qzt11 clX12 (by decide) mf_X12_419 dX12_triesBooked_35 ?_
            refine lv_icmp_ne (tgt := 56) hx hb dX12_triesBooked_38 (by decide) (fun qc12 => ?_) (fun qc12 => ?_)
            · have hf := gif_f hf qc12
              exact J_56 za0 za1 _ _ _ ls hf hw (lv_sub hl [0, 1] rfl)
            · have hf := gif_t hf qc12
              refine W.eq (g2 := F0 m 41 ls []) rfl ?_
              refine lv_aload_n hx hb dX12_triesBooked_41 rfl (lv_at hl 0 rfl) ?_
              obtain ⟨zt13, qzt13, hf⟩ := gb_el hf
              refine gx_getI X hw qzt13 clX12 (by decide) mf_X12_413 dX12_triesBooked_42 ?_
              refine lv_aload_n hx hb dX12_triesBooked_45 rfl (lv_at hl 0 rfl) ?_
              obtain ⟨zt14, qzt14, hf⟩ := gb_el hf
              refine gx_getI X hw qzt14 clX12 (by decide) mf_X12_422 dX12_triesBooked_46 ?_
              refine lv_icmp_ge (tgt := 56) hx hb dX12_triesBooked_49 (by decide) (fun qc15 => ?_) (fun qc15 => ?_)
              · have hf := gif_t hf qc15
                exact J_56 za0 za1 _ _ _ ls hf hw (lv_sub hl [0, 1] rfl)
              · have hf := gif_f hf qc15
                exact J_52 za0 za1 _ _ _ ls hf hw (lv_sub hl [0, 1] rfl)
abbrev rm_X12_triesBooked : Room := { frames := 23, cells := 0, slots := 0, locals := 547 }
theorem c_X12_triesBooked (l : Launch) (E : gE) (N : Nat) (za0 : Nat) (za1 : Int32) (za2 : Int32) (zh : PH) {h9 : PH} (hf : f_X12_triesBooked N za0 za1 za2 zh = some h9) : Met l yX12_triesBooked (gWS yX12_triesBooked cX12_triesBooked 5 none) rm_X12_triesBooked (gPc E [.ref (gB E + za0), .int za1, .int za2] zh) (gQv E h9) 0 0 (gA E) := (cg_gO l E N 16) za0 za1 za2 zh _ hf
abbrev rm_X12_order : Room := { frames := 24, cells := 0, slots := 0, locals := 571 }
set_option maxHeartbeats 4000000 in
set_option maxRecDepth 100000 in
theorem c_X12_order (l : Launch) (E : gE) (N : Nat) (za0 : Nat) (za1 : Int32) (za2 : Int32) (zh : PH) {h9 : PH} {r9 : Int32} (hf : f_X12_order N za0 za1 za2 zh = some (r9, h9)) : Met l yX12_order (gWS yX12_order cX12_order 3 (some .int)) rm_X12_order (gPc E [.ref (gB E + za0), .int za1, .int za2] zh) (gQi E r9 h9) 0 0 (gA E) := by
  refine gx_met (by decide) ?_ rfl
  intro p e s m below meth c X hr hlk hin2 hw
  have hx := X.1.1
  have hb := X.1.2.1
  have hl := lv_entry [.ref (gB E + za0), .int za1, .int za2] (n := 3) (Nat.le_of_ble_eq_true rfl)
  rw [lg_entry_eq]
  generalize (lg_sl [.ref (gB E + za0), .int za1, .int za2] ++ List.replicate (3 - (lg_sl [.ref (gB E + za0), .int za1, .int za2]).length) Slot.unset).toArray = ls at hl ⊢
  have hl : lv_has ls 3 [(0, .ref (gB E + za0)), (1, .int za1), (2, .int za2)] := hl
  have J_115 : ∀ (zs0 : Int32) (zh : PH) (H : Heap) (locs : List Loc) (ls : Array Slot), f_X12_order_115 N zs0 zh = some (r9, h9) → gw E s zh H locs → lv_has ls 3 [] → W p l e rm_X12_order s m [.ref (gB E + za0), .int za1, .int za2].toArray below meth c H locs 0 0 (MQ below (gQi E r9 h9) [.ref (gB E + za0), .int za1, .int za2].toArray s 0 0 (gA E)) (F0 m 115 ls [.int zs0]) := by
    intro zs0 zh H locs ls hf hw hl
    unfold f_X12_order_115 at hf
    exact gx_iret X hr hlk hw hf dX12_order_115
  have J_68 : ∀ (zv0 : Nat) (zv1 : Int32) (zv2 : Int32) (zh : PH) (H : Heap) (locs : List Loc) (ls : Array Slot), f_X12_order_68 N zv0 zv1 zv2 zh = some (r9, h9) → gw E s zh H locs → lv_has ls 3 [(0, .ref (gB E + zv0)), (1, .int zv1), (2, .int zv2)] → W p l e rm_X12_order s m [.ref (gB E + za0), .int za1, .int za2].toArray below meth c H locs 0 0 (MQ below (gQi E r9 h9) [.ref (gB E + za0), .int za1, .int za2].toArray s 0 0 (gA E)) (F0 m 68 ls []) := by
    intro zv0 zv1 zv2 zh H locs ls hf hw hl
    unfold f_X12_order_68 at hf
    refine lv_aload_n hx hb dX12_order_68 rfl (lv_at hl 0 rfl) ?_
    refine lv_iload_n hx hb dX12_order_69 rfl (lv_at hl 1 rfl) ?_
    obtain ⟨zh1, qzh1, hf⟩ := gb_el hf
    refine gx_putV X hw qzh1 clX12 (by decide) mf_X12_407 rfl rfl rfl dX12_order_70 (fun H locs hw => ?_)
    refine lv_aload_n hx hb dX12_order_73 rfl (lv_at hl 0 rfl) ?_
    refine lv_iconst (v := (-1)) hx hb dX12_order_74 (by decide) ?_
    obtain ⟨zh2, qzh2, hf⟩ := gb_el hf
    refine gx_putV X hw qzh2 clX12 (by decide) mf_X12_419 rfl rfl rfl dX12_order_75 (fun H locs hw => ?_)
    refine lv_aload_n hx hb dX12_order_78 rfl (lv_at hl 0 rfl) ?_
    refine lv_iconst (v := 0) hx hb dX12_order_79 (by decide) ?_
    refine lv_iconst (v := 0) hx hb dX12_order_80 (by decide) ?_
    refine W.eq (g2 := F0 m 81 ls [.int 0, .int 0, .ref (gB E + zv0)]) rfl ?_
    obtain ⟨qizh3, hf⟩ := gg_el hf
    obtain ⟨zh3, qzh3, hf⟩ := gb_el hf
    refine gx_kv (gx_runV (As := [.int 0, .int 0]) (rest := []) X hw (c_X12_triesBooked l E N zv0 0 0 zh2 qzh3) kX12_triesBooked mm_X12_425 qizh3 clX12 ⟨Nat.le_of_ble_eq_true rfl, Nat.le_of_ble_eq_true rfl⟩ rfl rfl rfl hl.1 (Nat.le_of_ble_eq_true rfl) rfl dX12_order_81 ⟨Nat.le_of_ble_eq_true rfl, Nat.le_of_ble_eq_true rfl⟩) hw (fun H locs hw => ?_)
    refine lv_iload_n hx hb dX12_order_84 rfl (lv_at hl 2 rfl) ?_
    refine lv_if_ne (tgt := 95) hx hb dX12_order_85 (by decide) (fun qc4 => ?_) (fun qc4 => ?_)
    · have hf := gif_f hf qc4
      refine lv_iload_n hx hb dX12_order_95 rfl (lv_at hl 2 rfl) ?_
      refine lv_iconst (v := 1) hx hb dX12_order_96 (by decide) ?_
      refine lv_icmp_ne (tgt := 107) hx hb dX12_order_97 (by decide) (fun qc5 => ?_) (fun qc5 => ?_)
      · have hf := gif_f hf qc5
        refine lv_aload_n hx hb dX12_order_107 rfl (lv_at hl 0 rfl) ?_
        obtain ⟨zt6, qzt6, hf⟩ := gb_el hf
        refine gx_getR X hw qzt6 clX12 (by decide) mf_X12_117 dX12_order_108 ?_
        refine lv_iload_n hx hb dX12_order_111 rfl (lv_at hl 2 rfl) ?_
        refine lv_iconst (v := 2) hx hb dX12_order_112 (by decide) ?_
        refine W.eq (g2 := F0 m 113 ls [.int 2, .int zv2, .ref (gB E + zt6)]) rfl ?_
        refine lv_isub hx hb dX12_order_113 ?_
        obtain ⟨zt7, qzt7, hf⟩ := gb_el hf
        refine gx_iald X hw qzt7 dX12_order_114 ?_
        exact J_115 zt7 _ _ _ ls hf hw (lv_sub hl [] rfl)
      · have hf := gif_t hf qc5
        refine lv_aload_n hx hb dX12_order_100 rfl (lv_at hl 0 rfl) ?_
        obtain ⟨zt8, qzt8, hf⟩ := gb_el hf
        refine gx_getI X hw qzt8 clX12 (by decide) mf_X12_422 dX12_order_101 ?_
        refine lv_goto (tgt := 115) hx hb dX12_order_104 (by decide) ?_
        exact J_115 zt8 _ _ _ ls hf hw (lv_sub hl [] rfl)
    · have hf := gif_t hf qc4
      refine lv_aload_n hx hb dX12_order_88 rfl (lv_at hl 0 rfl) ?_
      obtain ⟨zt9, qzt9, hf⟩ := gb_el hf
      refine gx_getI X hw qzt9 clX12 (by decide) mf_X12_419 dX12_order_89 ?_
      refine lv_goto (tgt := 115) hx hb dX12_order_92 (by decide) ?_
      exact J_115 zt9 _ _ _ ls hf hw (lv_sub hl [] rfl)
  have J_66 : ∀ (zh : PH) (H : Heap) (locs : List Loc) (ls : Array Slot), f_X12_order_66 N zh = some (r9, h9) → gw E s zh H locs → lv_has ls 3 [] → W p l e rm_X12_order s m [.ref (gB E + za0), .int za1, .int za2].toArray below meth c H locs 0 0 (MQ below (gQi E r9 h9) [.ref (gB E + za0), .int za1, .int za2].toArray s 0 0 (gA E)) (F0 m 66 ls []) := by
    intro zh H locs ls hf hw hl
    unfold f_X12_order_66 at hf
    refine lv_iconst (v := (-1)) hx hb dX12_order_66 (by decide) ?_
    exact gx_iret X hr hlk hw hf dX12_order_67
  unfold f_X12_order at hf
  refine lv_aload_n hx hb dX12_order_0 rfl (lv_at hl 0 rfl) ?_
  refine lv_iconst (v := 0) hx hb dX12_order_1 (by decide) ?_
  obtain ⟨zh1, qzh1, hf⟩ := gb_el hf
  refine gx_putV X hw qzh1 clX12 (by decide) mf_X12_1 rfl rfl rfl dX12_order_2 (fun H locs hw => ?_)
  refine lv_aload_n hx hb dX12_order_5 rfl (lv_at hl 0 rfl) ?_
  refine lv_iload_n hx hb dX12_order_6 rfl (lv_at hl 1 rfl) ?_
  obtain ⟨qizh2, hf⟩ := gg_el hf
  obtain ⟨zt3, zh2, qzh2, hf⟩ := gc_el hf
  refine gx_ki (gx_runV (As := [.int za1]) (rest := []) X hw (c_X12_isGuest l E N za0 za1 zh1 qzh2) kX12_isGuest mm_X12_312 qizh2 clX12 ⟨Nat.le_of_ble_eq_true rfl, Nat.le_of_ble_eq_true rfl⟩ rfl rfl rfl hl.1 (Nat.le_of_ble_eq_true rfl) rfl dX12_order_7 ⟨Nat.le_of_ble_eq_true rfl, Nat.le_of_ble_eq_true rfl⟩) hw (fun H locs hw => ?_)
  refine lv_if_eq (tgt := 66) hx hb dX12_order_10 (by decide) (fun qc4 => ?_) (fun qc4 => ?_)
  · have hf := gif_t hf qc4
    exact J_66  _ _ _ ls hf hw (lv_sub hl [] rfl)
  · have hf := gif_f hf qc4
    refine lv_iload_n hx hb dX12_order_13 rfl (lv_at hl 2 rfl) ?_
    refine lv_iconst (v := 0) hx hb dX12_order_14 (by decide) ?_
    refine W.eq (g2 := F0 m 15 ls [.int 0, .int za2]) rfl ?_
    refine lv_iconst (v := 1) hx hb dX12_order_15 (by decide) ?_
    refine lv_aload_n hx hb dX12_order_16 rfl (lv_at hl 0 rfl) ?_
    obtain ⟨qizh5, hf⟩ := gg_el hf
    obtain ⟨zt6, zh5, qzh5, hf⟩ := gc_el hf
    refine gx_ki (gx_runV (As := []) (rest := [.int 1, .int 0, .int za2]) X hw (c_X12_booked l E N za0 zh2 qzh5) kX12_booked mm_X12_331 qizh5 clX12 ⟨Nat.le_of_ble_eq_true rfl, Nat.le_of_ble_eq_true rfl⟩ rfl rfl rfl hl.1 (Nat.le_of_ble_eq_true rfl) rfl dX12_order_17 ⟨Nat.le_of_ble_eq_true rfl, Nat.le_of_ble_eq_true rfl⟩) hw (fun H locs hw => ?_)
    refine lv_iadd hx hb dX12_order_20 ?_
    obtain ⟨zt8, zh7, qzh7, hf⟩ := gc_el hf
    refine gx_ki (gx_runS (As := [.int za2, .int 0, .int (1 + zt6)]) (rest := []) X hw (c_X12_within l E N za2 0 (1 + zt6) zh5 qzh7) kX12_within mm_X12_304 ⟨Nat.le_of_ble_eq_true rfl, Nat.le_of_ble_eq_true rfl⟩ rfl rfl rfl hl.1 (Nat.le_of_ble_eq_true rfl) rfl dX12_order_21 ⟨Nat.le_of_ble_eq_true rfl, Nat.le_of_ble_eq_true rfl⟩) hw (fun H locs hw => ?_)
    refine lv_if_eq (tgt := 66) hx hb dX12_order_24 (by decide) (fun qc9 => ?_) (fun qc9 => ?_)
    · have hf := gif_t hf qc9
      exact J_66  _ _ _ ls hf hw (lv_sub hl [] rfl)
    · have hf := gif_f hf qc9
      refine lv_aload_n hx hb dX12_order_27 rfl (lv_at hl 0 rfl) ?_
      obtain ⟨qizh10, hf⟩ := gg_el hf
      obtain ⟨zt11, zh10, qzh10, hf⟩ := gc_el hf
      refine gx_ki (gx_runV (As := []) (rest := []) X hw (c_X12_booked l E N za0 zh7 qzh10) kX12_booked mm_X12_331 qizh10 clX12 ⟨Nat.le_of_ble_eq_true rfl, Nat.le_of_ble_eq_true rfl⟩ rfl rfl rfl hl.1 (Nat.le_of_ble_eq_true rfl) rfl dX12_order_28 ⟨Nat.le_of_ble_eq_true rfl, Nat.le_of_ble_eq_true rfl⟩) hw (fun H locs hw => ?_)
      refine lv_if_eq (tgt := 66) hx hb dX12_order_31 (by decide) (fun qc12 => ?_) (fun qc12 => ?_)
      · have hf := gif_t hf qc12
        exact J_66  _ _ _ ls hf hw (lv_sub hl [] rfl)
      · have hf := gif_f hf qc12
        refine lv_aload_n hx hb dX12_order_34 rfl (lv_at hl 0 rfl) ?_
        refine W.eq (g2 := F0 m 35 ls [.ref (gB E + za0)]) rfl ?_
        obtain ⟨qizh13, hf⟩ := gg_el hf
        obtain ⟨zt14, zh13, qzh13, hf⟩ := gc_el hf
        refine gx_ki (gx_runV (As := []) (rest := []) X hw (c_X12_booked l E N za0 zh10 qzh13) kX12_booked mm_X12_331 qizh13 clX12 ⟨Nat.le_of_ble_eq_true rfl, Nat.le_of_ble_eq_true rfl⟩ rfl rfl rfl hl.1 (Nat.le_of_ble_eq_true rfl) rfl dX12_order_35 ⟨Nat.le_of_ble_eq_true rfl, Nat.le_of_ble_eq_true rfl⟩) hw (fun H locs hw => ?_)
        refine lv_aload_n hx hb dX12_order_38 rfl (lv_at hl 0 rfl) ?_
        obtain ⟨qizh15, hf⟩ := gg_el hf
        obtain ⟨zt16, zh15, qzh15, hf⟩ := gc_el hf
        refine gx_ki (gx_runV (As := []) (rest := [.int zt14]) X hw (c_X12_rooms l E N za0 zh13 qzh15) kX12_rooms mm_X12_231 qizh15 clX12 ⟨Nat.le_of_ble_eq_true rfl, Nat.le_of_ble_eq_true rfl⟩ rfl rfl rfl hl.1 (Nat.le_of_ble_eq_true rfl) rfl dX12_order_39 ⟨Nat.le_of_ble_eq_true rfl, Nat.le_of_ble_eq_true rfl⟩) hw (fun H locs hw => ?_)
        refine lv_aload_n hx hb dX12_order_42 rfl (lv_at hl 0 rfl) ?_
        obtain ⟨qizh17, hf⟩ := gg_el hf
        obtain ⟨zt18, zh17, qzh17, hf⟩ := gc_el hf
        refine gx_ki (gx_runV (As := []) (rest := [.int zt16, .int zt14]) X hw (c_X12_insideMany l E N za0 zh15 qzh17) kX12_insideMany mm_X12_428 qizh17 clX12 ⟨Nat.le_of_ble_eq_true rfl, Nat.le_of_ble_eq_true rfl⟩ rfl rfl rfl hl.1 (Nat.le_of_ble_eq_true rfl) rfl dX12_order_43 ⟨Nat.le_of_ble_eq_true rfl, Nat.le_of_ble_eq_true rfl⟩) hw (fun H locs hw => ?_)
        refine lv_isub hx hb dX12_order_46 ?_
        refine lv_icmp_gt (tgt := 66) hx hb dX12_order_47 (by decide) (fun qc19 => ?_) (fun qc19 => ?_)
        · have hf := gif_t hf qc19
          exact J_66  _ _ _ ls hf hw (lv_sub hl [] rfl)
        · have hf := gif_f hf qc19
          refine lv_aload_n hx hb dX12_order_50 rfl (lv_at hl 0 rfl) ?_
          refine lv_iload_n hx hb dX12_order_51 rfl (lv_at hl 1 rfl) ?_
          obtain ⟨qizh20, hf⟩ := gg_el hf
          obtain ⟨zt21, zh20, qzh20, hf⟩ := gc_el hf
          refine gx_ki (gx_runV (As := [.int za1]) (rest := []) X hw (c_X12_isBooked l E N za0 za1 zh17 qzh20) kX12_isBooked mm_X12_404 qizh20 clX12 ⟨Nat.le_of_ble_eq_true rfl, Nat.le_of_ble_eq_true rfl⟩ rfl rfl rfl hl.1 (Nat.le_of_ble_eq_true rfl) rfl dX12_order_52 ⟨Nat.le_of_ble_eq_true rfl, Nat.le_of_ble_eq_true rfl⟩) hw (fun H locs hw => ?_)
          refine W.eq (g2 := F0 m 55 ls [.int zt21]) rfl ?_
          refine lv_if_ne (tgt := 68) hx hb dX12_order_55 (by decide) (fun qc22 => ?_) (fun qc22 => ?_)
          · have hf := gif_f hf qc22
            exact J_68 za0 za1 za2 _ _ _ ls hf hw (lv_sub hl [0, 1, 2] rfl)
          · have hf := gif_t hf qc22
            refine lv_aload_n hx hb dX12_order_58 rfl (lv_at hl 0 rfl) ?_
            refine lv_iload_n hx hb dX12_order_59 rfl (lv_at hl 1 rfl) ?_
            obtain ⟨qizh23, hf⟩ := gg_el hf
            obtain ⟨zt24, zh23, qzh23, hf⟩ := gc_el hf
            refine gx_ki (gx_runV (As := [.int za1]) (rest := []) X hw (c_X12_roomNow l E N za0 za1 zh20 qzh23) kX12_roomNow mm_X12_315 qizh23 clX12 ⟨Nat.le_of_ble_eq_true rfl, Nat.le_of_ble_eq_true rfl⟩ rfl rfl rfl hl.1 (Nat.le_of_ble_eq_true rfl) rfl dX12_order_60 ⟨Nat.le_of_ble_eq_true rfl, Nat.le_of_ble_eq_true rfl⟩) hw (fun H locs hw => ?_)
            refine lv_if_ge (tgt := 68) hx hb dX12_order_63 (by decide) (fun qc25 => ?_) (fun qc25 => ?_)
            · have hf := gif_t hf qc25
              exact J_68 za0 za1 za2 _ _ _ ls hf hw (lv_sub hl [0, 1, 2] rfl)
            · have hf := gif_f hf qc25
              exact J_66  _ _ _ ls hf hw (lv_sub hl [] rfl)
abbrev rm_X12_findTried : Room := { frames := 5, cells := 0, slots := 0, locals := 120 }
set_option maxHeartbeats 4000000 in
set_option maxRecDepth 100000 in
theorem c_X12_findTried (l : Launch) (E : gE) (N : Nat) (za0 : Nat) (za1 : Int32) (zh : PH) {h9 : PH} (hf : f_X12_findTried N za0 za1 zh = some h9) : Met l yX12_findTried (gWS yX12_findTried cX12_findTried 5 none) rm_X12_findTried (gPc E [.ref (gB E + za0), .int za1] zh) (gQv E h9) 0 0 (gA E) := by
  refine gx_met (by decide) ?_ rfl
  intro p e s m below meth c X hr hlk hin2 hw
  have hx := X.1.1
  have hb := X.1.2.1
  have hl := lv_entry [.ref (gB E + za0), .int za1] (n := 5) (Nat.le_of_ble_eq_true rfl)
  rw [lg_entry_eq]
  generalize (lg_sl [.ref (gB E + za0), .int za1] ++ List.replicate (5 - (lg_sl [.ref (gB E + za0), .int za1]).length) Slot.unset).toArray = ls at hl ⊢
  have hl : lv_has ls 5 [(0, .ref (gB E + za0)), (1, .int za1)] := hl
  have J_132 : ∀ (zs0 : Int32) (zs1 : Nat) (zh : PH) (H : Heap) (locs : List Loc) (ls : Array Slot), f_X12_findTried_132 N zs0 zs1 zh = some h9 → gw E s zh H locs → lv_has ls 5 [] → W p l e rm_X12_findTried s m [.ref (gB E + za0), .int za1].toArray below meth c H locs 0 0 (MQ below (gQv E h9) [.ref (gB E + za0), .int za1].toArray s 0 0 (gA E)) (F0 m 132 ls [.int zs0, .ref (gB E + zs1)]) := by
    intro zs0 zs1 zh H locs ls hf hw hl
    unfold f_X12_findTried_132 at hf
    obtain ⟨zh1, qzh1, hf⟩ := gb_el hf
    refine gx_putV X hw qzh1 clX12 (by decide) mf_X12_437 rfl rfl rfl dX12_findTried_132 (fun H locs hw => ?_)
    exact gx_vret X hr hlk hw hf dX12_findTried_135
  have L_36 : ∀ (zn36 : Nat) (zv0 : Nat) (zv2 : Int32) (zv3 : Int32) (zv4 : Int32) (zh : PH) (H : Heap) (locs : List Loc) (ls : Array Slot), gi (fun zk zs => f_X12_findTried_36 N zk zs.1 zs.2.1 zs.2.2.1 zs.2.2.2.1 zs.2.2.2.2) zn36 (zv0, zv2, zv3, zv4, zh) = some h9 → gw E s zh H locs → lv_has ls 5 [(0, .ref (gB E + zv0)), (2, .int zv2), (3, .int zv3), (4, .int zv4)] → W p l e rm_X12_findTried s m [.ref (gB E + za0), .int za1].toArray below meth c H locs 0 0 (MQ below (gQv E h9) [.ref (gB E + za0), .int za1].toArray s 0 0 (gA E)) (F0 m 36 ls []) := by
    intro zn36
    induction zn36 with
    | zero =>
      intro zv0 zv2 zv3 zv4 zh H locs ls hf
      cases hf
    | succ zn36 ih_36 =>
      have J_110 : ∀ (zv0 : Nat) (zv2 : Int32) (zv4 : Int32) (zs0 : Int32) (zh : PH) (H : Heap) (locs : List Loc) (ls : Array Slot), f_X12_findTried_110 N (gi (fun zk zs => f_X12_findTried_36 N zk zs.1 zs.2.1 zs.2.2.1 zs.2.2.2.1 zs.2.2.2.2) zn36) zv0 zv2 zv4 zs0 zh = some h9 → gw E s zh H locs → lv_has ls 5 [(0, .ref (gB E + zv0)), (2, .int zv2), (4, .int zv4)] → W p l e rm_X12_findTried s m [.ref (gB E + za0), .int za1].toArray below meth c H locs 0 0 (MQ below (gQv E h9) [.ref (gB E + za0), .int za1].toArray s 0 0 (gA E)) (F0 m 110 ls [.int zs0]) := by
        intro zv0 zv2 zv4 zs0 zh H locs ls hf hw hl
        unfold f_X12_findTried_110 at hf
        refine lv_istore_n (lv' := [(3, .int zs0), (0, .ref (gB E + zv0)), (2, .int zv2), (4, .int zv4)]) hx hb dX12_findTried_110 rfl hl (by decide) rfl (fun ls hl => ?_)
        obtain ⟨zx1, ezx1⟩ : ∃ y : Int32, y = zv4 + 1 := ⟨_, rfl⟩
        have hf := gl_el hf ezx1
        refine lv_iinc (v := zx1) (lv' := [(4, .int zx1), (3, .int zs0), (0, .ref (gB E + zv0)), (2, .int zv2)]) hx hb dX12_findTried_111 hl (k := 3) rfl (by rw [ezx1]; rfl) (by decide) rfl (fun ls hl => ?_)
        refine lv_goto (tgt := 36) hx hb dX12_findTried_114 (by decide) ?_
        exact ih_36 zv0 zv2 zs0 zx1 _ _ _ ls hf hw (lv_sub hl [2, 3, 1, 0] rfl)
      have J_109 : ∀ (zv0 : Nat) (zv2 : Int32) (zv3 : Int32) (zv4 : Int32) (zh : PH) (H : Heap) (locs : List Loc) (ls : Array Slot), f_X12_findTried_109 N (gi (fun zk zs => f_X12_findTried_36 N zk zs.1 zs.2.1 zs.2.2.1 zs.2.2.2.1 zs.2.2.2.2) zn36) zv0 zv2 zv3 zv4 zh = some h9 → gw E s zh H locs → lv_has ls 5 [(0, .ref (gB E + zv0)), (2, .int zv2), (3, .int zv3), (4, .int zv4)] → W p l e rm_X12_findTried s m [.ref (gB E + za0), .int za1].toArray below meth c H locs 0 0 (MQ below (gQv E h9) [.ref (gB E + za0), .int za1].toArray s 0 0 (gA E)) (F0 m 109 ls []) := by
        intro zv0 zv2 zv3 zv4 zh H locs ls hf hw hl
        unfold f_X12_findTried_109 at hf
        refine lv_iload_n hx hb dX12_findTried_109 rfl (lv_at hl 2 rfl) ?_
        exact J_110 zv0 zv2 zv4 zv3 _ _ _ ls hf hw (lv_sub hl [0, 1, 3] rfl)
      have J_77 : ∀ (zv0 : Nat) (zv3 : Int32) (zv4 : Int32) (zs0 : Int32) (zh : PH) (H : Heap) (locs : List Loc) (ls : Array Slot), f_X12_findTried_77 N (gi (fun zk zs => f_X12_findTried_36 N zk zs.1 zs.2.1 zs.2.2.1 zs.2.2.2.1 zs.2.2.2.2) zn36) zv0 zv3 zv4 zs0 zh = some h9 → gw E s zh H locs → lv_has ls 5 [(0, .ref (gB E + zv0)), (3, .int zv3), (4, .int zv4)] → W p l e rm_X12_findTried s m [.ref (gB E + za0), .int za1].toArray below meth c H locs 0 0 (MQ below (gQv E h9) [.ref (gB E + za0), .int za1].toArray s 0 0 (gA E)) (F0 m 77 ls [.int zs0]) := by
        intro zv0 zv3 zv4 zs0 zh H locs ls hf hw hl
        unfold f_X12_findTried_77 at hf
        refine lv_istore_n (lv' := [(2, .int zs0), (0, .ref (gB E + zv0)), (3, .int zv3), (4, .int zv4)]) hx hb dX12_findTried_77 rfl hl (by decide) rfl (fun ls hl => ?_)
        refine lv_aload_n hx hb dX12_findTried_78 rfl (lv_at hl 1 rfl) ?_
        obtain ⟨zt1, qzt1, hf⟩ := gb_el hf
        refine gx_getR X hw qzt1 clX12 (by decide) mf_X12_95 dX12_findTried_79 ?_
        refine lv_iload hx hb dX12_findTried_82 (lv_at hl 3 rfl) ?_
        obtain ⟨zt2, qzt2, hf⟩ := gb_el hf
        refine gx_zald X hw qzt2 dX12_findTried_84 ?_
        refine lv_if_eq (tgt := 109) hx hb dX12_findTried_85 (by decide) (fun qc3 => ?_) (fun qc3 => ?_)
        · have hf := gif_t hf qc3
          exact J_109 zv0 zs0 zv3 zv4 _ _ _ ls hf hw (lv_sub hl [1, 0, 2, 3] rfl)
        · have hf := gif_f hf qc3
          refine lv_aload_n hx hb dX12_findTried_88 rfl (lv_at hl 1 rfl) ?_
          obtain ⟨zt4, qzt4, hf⟩ := gb_el hf
          refine gx_getR X hw qzt4 clX12 (by decide) mf_X12_89 dX12_findTried_89 ?_
          refine lv_iload hx hb dX12_findTried_92 (lv_at hl 3 rfl) ?_
          refine W.eq (g2 := F0 m 94 ls [.int zv4, .ref (gB E + zt4)]) rfl ?_
          obtain ⟨zt5, qzt5, hf⟩ := gb_el hf
          refine gx_iald X hw qzt5 dX12_findTried_94 ?_
          refine lv_iload_n hx hb dX12_findTried_95 rfl (lv_at hl 2 rfl) ?_
          refine lv_icmp_le (tgt := 109) hx hb dX12_findTried_96 (by decide) (fun qc6 => ?_) (fun qc6 => ?_)
          · have hf := gif_t hf qc6
            exact J_109 zv0 zs0 zv3 zv4 _ _ _ ls hf hw (lv_sub hl [1, 0, 2, 3] rfl)
          · have hf := gif_f hf qc6
            refine lv_aload_n hx hb dX12_findTried_99 rfl (lv_at hl 1 rfl) ?_
            obtain ⟨zt7, qzt7, hf⟩ := gb_el hf
            refine gx_getR X hw qzt7 clX12 (by decide) mf_X12_89 dX12_findTried_100 ?_
            refine lv_iload hx hb dX12_findTried_103 (lv_at hl 3 rfl) ?_
            obtain ⟨zt8, qzt8, hf⟩ := gb_el hf
            refine gx_iald X hw qzt8 dX12_findTried_105 ?_
            refine lv_goto (tgt := 110) hx hb dX12_findTried_106 (by decide) ?_
            exact J_110 zv0 zs0 zv4 zt8 _ _ _ ls hf hw (lv_sub hl [1, 0, 3] rfl)
      have J_76 : ∀ (zv0 : Nat) (zv2 : Int32) (zv3 : Int32) (zv4 : Int32) (zh : PH) (H : Heap) (locs : List Loc) (ls : Array Slot), f_X12_findTried_76 N (gi (fun zk zs => f_X12_findTried_36 N zk zs.1 zs.2.1 zs.2.2.1 zs.2.2.2.1 zs.2.2.2.2) zn36) zv0 zv2 zv3 zv4 zh = some h9 → gw E s zh H locs → lv_has ls 5 [(0, .ref (gB E + zv0)), (2, .int zv2), (3, .int zv3), (4, .int zv4)] → W p l e rm_X12_findTried s m [.ref (gB E + za0), .int za1].toArray below meth c H locs 0 0 (MQ below (gQv E h9) [.ref (gB E + za0), .int za1].toArray s 0 0 (gA E)) (F0 m 76 ls []) := by
        intro zv0 zv2 zv3 zv4 zh H locs ls hf hw hl
        unfold f_X12_findTried_76 at hf
        refine lv_iload_n hx hb dX12_findTried_76 rfl (lv_at hl 1 rfl) ?_
        exact J_77 zv0 zv3 zv4 zv2 _ _ _ ls hf hw (lv_sub hl [0, 2, 3] rfl)
      intro zv0 zv2 zv3 zv4 zh H locs ls hf hw hl
      have hf := gi_s hf
      dsimp only at hf
      unfold f_X12_findTried_36 at hf
      refine lv_iload hx hb dX12_findTried_36 (lv_at hl 3 rfl) ?_
      refine lv_aload_n hx hb dX12_findTried_38 rfl (lv_at hl 0 rfl) ?_
      obtain ⟨qizh1, hf⟩ := gg_el hf
      obtain ⟨zt2, zh1, qzh1, hf⟩ := gc_el hf
      refine gx_ki (gx_runV (As := []) (rest := [.int zv4]) X hw (c_X12_guests l E N zv0 zh qzh1) kX12_guests mm_X12_234 qizh1 clX12 ⟨Nat.le_of_ble_eq_true rfl, Nat.le_of_ble_eq_true rfl⟩ rfl rfl rfl hl.1 (Nat.le_of_ble_eq_true rfl) rfl dX12_findTried_39 ⟨Nat.le_of_ble_eq_true rfl, Nat.le_of_ble_eq_true rfl⟩) hw (fun H locs hw => ?_)
      refine lv_icmp_ge (tgt := 117) hx hb dX12_findTried_42 (by decide) (fun qc3 => ?_) (fun qc3 => ?_)
      · have hf := gif_t hf qc3
        refine lv_aload_n hx hb dX12_findTried_117 rfl (lv_at hl 0 rfl) ?_
        refine lv_iload_n hx hb dX12_findTried_118 rfl (lv_at hl 1 rfl) ?_
        refine lv_ldcw (v := 100000000) hx hb X.1.2.2.2.1 (X.1.2.2.2.2 _ mk_X12_346) dX12_findTried_119 ?_
        refine lv_icmp_ne (tgt := 129) hx hb dX12_findTried_122 (by decide) (fun qc4 => ?_) (fun qc4 => ?_)
        · have hf := gif_f hf qc4
          refine lv_iload_n hx hb dX12_findTried_129 rfl (lv_at hl 2 rfl) ?_
          refine W.eq (g2 := F0 m 130 ls [.int zv3, .ref (gB E + zv0)]) rfl ?_
          refine lv_iload_n hx hb dX12_findTried_130 rfl (lv_at hl 1 rfl) ?_
          refine lv_isub hx hb dX12_findTried_131 ?_
          exact J_132 (zv3 - zv2) zv0 _ _ _ ls hf hw (lv_sub hl [] rfl)
        · have hf := gif_t hf qc4
          refine lv_iconst (v := 0) hx hb dX12_findTried_125 (by decide) ?_
          refine W.eq (g2 := F0 m 126 ls [.int 0, .ref (gB E + zv0)]) rfl ?_
          refine lv_goto (tgt := 132) hx hb dX12_findTried_126 (by decide) ?_
          exact J_132 0 zv0 _ _ _ ls hf hw (lv_sub hl [] rfl)
      · have hf := gif_f hf qc3
        refine lv_aload_n hx hb dX12_findTried_45 rfl (lv_at hl 0 rfl) ?_
        obtain ⟨zt5, qzt5, hf⟩ := gb_el hf
        refine gx_getR X hw qzt5 clX12 (by decide) mf_X12_95 dX12_findTried_46 ?_
        refine lv_iload hx hb dX12_findTried_49 (lv_at hl 3 rfl) ?_
        obtain ⟨zt6, qzt6, hf⟩ := gb_el hf
        refine gx_zald X hw qzt6 dX12_findTried_51 ?_
        refine lv_if_eq (tgt := 76) hx hb dX12_findTried_52 (by decide) (fun qc7 => ?_) (fun qc7 => ?_)
        · have hf := gif_t hf qc7
          exact J_76 zv0 zv2 zv3 zv4 _ _ _ ls hf hw (lv_sub hl [0, 1, 2, 3] rfl)
        · have hf := gif_f hf qc7
          refine W.eq (g2 := F0 m 55 ls []) rfl ?_
          refine lv_aload_n hx hb dX12_findTried_55 rfl (lv_at hl 0 rfl) ?_
          obtain ⟨zt8, qzt8, hf⟩ := gb_el hf
          refine gx_getR X hw qzt8 clX12 (by decide) mf_X12_89 dX12_findTried_56 ?_
          refine lv_iload hx hb dX12_findTried_59 (lv_at hl 3 rfl) ?_
          obtain ⟨zt9, qzt9, hf⟩ := gb_el hf
          refine gx_iald X hw qzt9 dX12_findTried_61 ?_
          refine lv_iload_n hx hb dX12_findTried_62 rfl (lv_at hl 1 rfl) ?_
          refine lv_icmp_ge (tgt := 76) hx hb dX12_findTried_63 (by decide) (fun qc10 => ?_) (fun qc10 => ?_)
          · have hf := gif_t hf qc10
            exact J_76 zv0 zv2 zv3 zv4 _ _ _ ls hf hw (lv_sub hl [0, 1, 2, 3] rfl)
          · have hf := gif_f hf qc10
            refine lv_aload_n hx hb dX12_findTried_66 rfl (lv_at hl 0 rfl) ?_
            obtain ⟨zt11, qzt11, hf⟩ := gb_el hf
            refine gx_getR X hw qzt11 clX12 (by decide) mf_X12_89 dX12_findTried_67 ?_
            refine lv_iload hx hb dX12_findTried_70 (lv_at hl 3 rfl) ?_
            obtain ⟨zt12, qzt12, hf⟩ := gb_el hf
            refine gx_iald X hw qzt12 dX12_findTried_72 ?_
            refine W.eq (g2 := F0 m 73 ls [.int zt12]) rfl ?_
            refine lv_goto (tgt := 77) hx hb dX12_findTried_73 (by decide) ?_
            exact J_77 zv0 zv3 zv4 zt12 _ _ _ ls hf hw (lv_sub hl [0, 2, 3] rfl)
  unfold f_X12_findTried at hf
  refine lv_aload_n hx hb dX12_findTried_0 rfl (lv_at hl 0 rfl) ?_
  refine lv_iconst (v := 1) hx hb dX12_findTried_1 (by decide) ?_
  refine lv_iload_n hx hb dX12_findTried_2 rfl (lv_at hl 1 rfl) ?_
  obtain ⟨qizh1, hf⟩ := gg_el hf
  obtain ⟨zh1, qzh1, hf⟩ := gb_el hf
  refine gx_kv (gx_runV (As := [.int 1, .int za1]) (rest := []) X hw (c_X12_goesThrough l E N za0 1 za1 zh qzh1) kX12_goesThrough mm_X12_296 qizh1 clX12 ⟨Nat.le_of_ble_eq_true rfl, Nat.le_of_ble_eq_true rfl⟩ rfl rfl rfl hl.1 (Nat.le_of_ble_eq_true rfl) rfl dX12_findTried_3 ⟨Nat.le_of_ble_eq_true rfl, Nat.le_of_ble_eq_true rfl⟩) hw (fun H locs hw => ?_)
  refine lv_aload_n hx hb dX12_findTried_6 rfl (lv_at hl 0 rfl) ?_
  refine lv_iconst (v := 1) hx hb dX12_findTried_7 (by decide) ?_
  obtain ⟨zh2, qzh2, hf⟩ := gb_el hf
  refine gx_putV X hw qzh2 clX12 (by decide) mf_X12_123 rfl rfl rfl dX12_findTried_8 (fun H locs hw => ?_)
  refine lv_aload_n hx hb dX12_findTried_11 rfl (lv_at hl 0 rfl) ?_
  refine lv_aload_n hx hb dX12_findTried_12 rfl (lv_at hl 0 rfl) ?_
  refine W.eq (g2 := F0 m 13 ls [.ref (gB E + za0), .ref (gB E + za0)]) rfl ?_
  obtain ⟨zt3, qzt3, hf⟩ := gb_el hf
  refine gx_getI X hw qzt3 clX12 (by decide) mf_X12_240 dX12_findTried_13 ?_
  obtain ⟨zh4, qzh4, hf⟩ := gb_el hf
  refine gx_putV X hw qzh4 clX12 (by decide) mf_X12_431 rfl rfl rfl dX12_findTried_16 (fun H locs hw => ?_)
  refine lv_aload_n hx hb dX12_findTried_19 rfl (lv_at hl 0 rfl) ?_
  refine lv_aload_n hx hb dX12_findTried_20 rfl (lv_at hl 0 rfl) ?_
  obtain ⟨zt5, qzt5, hf⟩ := gb_el hf
  refine gx_getI X hw qzt5 clX12 (by decide) mf_X12_243 dX12_findTried_21 ?_
  obtain ⟨zh6, qzh6, hf⟩ := gb_el hf
  refine gx_putV X hw qzh6 clX12 (by decide) mf_X12_434 rfl rfl rfl dX12_findTried_24 (fun H locs hw => ?_)
  refine lv_ldcw (v := 100000000) hx hb X.1.2.2.2.1 (X.1.2.2.2.2 _ mk_X12_346) dX12_findTried_27 ?_
  refine lv_istore_n (lv' := [(2, .int 100000000), (0, .ref (gB E + za0)), (1, .int za1)]) hx hb dX12_findTried_30 rfl hl (by decide) rfl (fun ls hl => ?_)
  refine lv_iconst (v := 0) hx hb dX12_findTried_31 (by decide) ?_
  refine lv_istore_n (lv' := [(3, .int 0), (2, .int 100000000), (0, .ref (gB E + za0)), (1, .int za1)]) hx hb dX12_findTried_32 rfl hl (by decide) rfl (fun ls hl => ?_)
  refine W.eq (g2 := F0 m 33 ls []) rfl ?_
  refine lv_iconst (v := 0) hx hb dX12_findTried_33 (by decide) ?_
  refine lv_istore (lv' := [(4, .int 0), (3, .int 0), (2, .int 100000000), (0, .ref (gB E + za0)), (1, .int za1)]) hx hb dX12_findTried_34 hl (by decide) rfl (fun ls hl => ?_)
  exact L_36 N za0 100000000 0 0 _ _ _ ls hf hw (lv_sub hl [3, 2, 1, 0] rfl)
abbrev rm_X12_tried : Room := { frames := 6, cells := 0, slots := 0, locals := 144 }
set_option maxHeartbeats 4000000 in
set_option maxRecDepth 100000 in
theorem c_X12_tried (l : Launch) (E : gE) (N : Nat) (za0 : Nat) (za1 : Int32) (za2 : Int32) (zh : PH) {h9 : PH} {r9 : Int32} (hf : f_X12_tried N za0 za1 za2 zh = some (r9, h9)) : Met l yX12_tried (gWS yX12_tried cX12_tried 3 (some .int)) rm_X12_tried (gPc E [.ref (gB E + za0), .int za1, .int za2] zh) (gQi E r9 h9) 0 0 (gA E) := by
  refine gx_met (by decide) ?_ rfl
  intro p e s m below meth c X hr hlk hin2 hw
  have hx := X.1.1
  have hb := X.1.2.1
  have hl := lv_entry [.ref (gB E + za0), .int za1, .int za2] (n := 3) (Nat.le_of_ble_eq_true rfl)
  rw [lg_entry_eq]
  generalize (lg_sl [.ref (gB E + za0), .int za1, .int za2] ++ List.replicate (3 - (lg_sl [.ref (gB E + za0), .int za1, .int za2]).length) Slot.unset).toArray = ls at hl ⊢
  have hl : lv_has ls 3 [(0, .ref (gB E + za0)), (1, .int za1), (2, .int za2)] := hl
  have J_61 : ∀ (zs0 : Int32) (zh : PH) (H : Heap) (locs : List Loc) (ls : Array Slot), f_X12_tried_61 N zs0 zh = some (r9, h9) → gw E s zh H locs → lv_has ls 3 [] → W p l e rm_X12_tried s m [.ref (gB E + za0), .int za1, .int za2].toArray below meth c H locs 0 0 (MQ below (gQi E r9 h9) [.ref (gB E + za0), .int za1, .int za2].toArray s 0 0 (gA E)) (F0 m 61 ls [.int zs0]) := by
    intro zs0 zh H locs ls hf hw hl
    unfold f_X12_tried_61 at hf
    exact gx_iret X hr hlk hw hf dX12_tried_61
  have J_27 : ∀ (zh : PH) (H : Heap) (locs : List Loc) (ls : Array Slot), f_X12_tried_27 N zh = some (r9, h9) → gw E s zh H locs → lv_has ls 3 [] → W p l e rm_X12_tried s m [.ref (gB E + za0), .int za1, .int za2].toArray below meth c H locs 0 0 (MQ below (gQi E r9 h9) [.ref (gB E + za0), .int za1, .int za2].toArray s 0 0 (gA E)) (F0 m 27 ls []) := by
    intro zh H locs ls hf hw hl
    unfold f_X12_tried_27 at hf
    refine lv_iconst (v := (-1)) hx hb dX12_tried_27 (by decide) ?_
    exact gx_iret X hr hlk hw hf dX12_tried_28
  have J_18 : ∀ (zv0 : Nat) (zv1 : Int32) (zv2 : Int32) (zh : PH) (H : Heap) (locs : List Loc) (ls : Array Slot), f_X12_tried_18 N zv0 zv1 zv2 zh = some (r9, h9) → gw E s zh H locs → lv_has ls 3 [(0, .ref (gB E + zv0)), (1, .int zv1), (2, .int zv2)] → W p l e rm_X12_tried s m [.ref (gB E + za0), .int za1, .int za2].toArray below meth c H locs 0 0 (MQ below (gQi E r9 h9) [.ref (gB E + za0), .int za1, .int za2].toArray s 0 0 (gA E)) (F0 m 18 ls []) := by
    intro zv0 zv1 zv2 zh H locs ls hf hw hl
    unfold f_X12_tried_18 at hf
    refine lv_iload_n hx hb dX12_tried_18 rfl (lv_at hl 2 rfl) ?_
    refine lv_iconst (v := 0) hx hb dX12_tried_19 (by decide) ?_
    refine lv_iconst (v := 2) hx hb dX12_tried_20 (by decide) ?_
    obtain ⟨zt2, zh1, qzh1, hf⟩ := gc_el hf
    refine gx_ki (gx_runS (As := [.int zv2, .int 0, .int 2]) (rest := []) X hw (c_X12_within l E N zv2 0 2 zh qzh1) kX12_within mm_X12_304 ⟨Nat.le_of_ble_eq_true rfl, Nat.le_of_ble_eq_true rfl⟩ rfl rfl rfl hl.1 (Nat.le_of_ble_eq_true rfl) rfl dX12_tried_21 ⟨Nat.le_of_ble_eq_true rfl, Nat.le_of_ble_eq_true rfl⟩) hw (fun H locs hw => ?_)
    refine lv_if_ne (tgt := 29) hx hb dX12_tried_24 (by decide) (fun qc3 => ?_) (fun qc3 => ?_)
    · have hf := gif_f hf qc3
      refine lv_aload_n hx hb dX12_tried_29 rfl (lv_at hl 0 rfl) ?_
      refine lv_iload_n hx hb dX12_tried_30 rfl (lv_at hl 1 rfl) ?_
      obtain ⟨qizh4, hf⟩ := gg_el hf
      obtain ⟨zh4, qzh4, hf⟩ := gb_el hf
      refine gx_kv (gx_runV (As := [.int zv1]) (rest := []) X hw (c_X12_findTried l E N zv0 zv1 zh1 qzh4) kX12_findTried mm_X12_440 qizh4 clX12 ⟨Nat.le_of_ble_eq_true rfl, Nat.le_of_ble_eq_true rfl⟩ rfl rfl rfl hl.1 (Nat.le_of_ble_eq_true rfl) rfl dX12_tried_31 ⟨Nat.le_of_ble_eq_true rfl, Nat.le_of_ble_eq_true rfl⟩) hw (fun H locs hw => ?_)
      refine lv_iload_n hx hb dX12_tried_34 rfl (lv_at hl 2 rfl) ?_
      refine W.eq (g2 := F0 m 35 ls [.int zv2]) rfl ?_
      refine lv_if_ne (tgt := 45) hx hb dX12_tried_35 (by decide) (fun qc5 => ?_) (fun qc5 => ?_)
      · have hf := gif_f hf qc5
        refine lv_iload_n hx hb dX12_tried_45 rfl (lv_at hl 2 rfl) ?_
        refine lv_iconst (v := 1) hx hb dX12_tried_46 (by decide) ?_
        refine lv_icmp_ne (tgt := 57) hx hb dX12_tried_47 (by decide) (fun qc6 => ?_) (fun qc6 => ?_)
        · have hf := gif_f hf qc6
          refine lv_aload_n hx hb dX12_tried_57 rfl (lv_at hl 0 rfl) ?_
          obtain ⟨zt7, qzt7, hf⟩ := gb_el hf
          refine gx_getI X hw qzt7 clX12 (by decide) mf_X12_437 dX12_tried_58 ?_
          exact J_61 zt7 _ _ _ ls hf hw (lv_sub hl [] rfl)
        · have hf := gif_t hf qc6
          refine lv_aload_n hx hb dX12_tried_50 rfl (lv_at hl 0 rfl) ?_
          obtain ⟨zt8, qzt8, hf⟩ := gb_el hf
          refine gx_getI X hw qzt8 clX12 (by decide) mf_X12_434 dX12_tried_51 ?_
          refine lv_goto (tgt := 61) hx hb dX12_tried_54 (by decide) ?_
          exact J_61 zt8 _ _ _ ls hf hw (lv_sub hl [] rfl)
      · have hf := gif_t hf qc5
        refine lv_aload_n hx hb dX12_tried_38 rfl (lv_at hl 0 rfl) ?_
        obtain ⟨zt9, qzt9, hf⟩ := gb_el hf
        refine gx_getI X hw qzt9 clX12 (by decide) mf_X12_431 dX12_tried_39 ?_
        refine lv_goto (tgt := 61) hx hb dX12_tried_42 (by decide) ?_
        exact J_61 zt9 _ _ _ ls hf hw (lv_sub hl [] rfl)
    · have hf := gif_t hf qc3
      exact J_27  _ _ _ ls hf hw (lv_sub hl [] rfl)
  unfold f_X12_tried at hf
  refine lv_aload_n hx hb dX12_tried_0 rfl (lv_at hl 0 rfl) ?_
  refine lv_iconst (v := 0) hx hb dX12_tried_1 (by decide) ?_
  obtain ⟨zh1, qzh1, hf⟩ := gb_el hf
  refine gx_putV X hw qzh1 clX12 (by decide) mf_X12_1 rfl rfl rfl dX12_tried_2 (fun H locs hw => ?_)
  refine lv_iload_n hx hb dX12_tried_5 rfl (lv_at hl 1 rfl) ?_
  refine lv_iconst (v := (-1)) hx hb dX12_tried_6 (by decide) ?_
  refine lv_icmp_eq (tgt := 18) hx hb dX12_tried_7 (by decide) (fun qc2 => ?_) (fun qc2 => ?_)
  · have hf := gif_t hf qc2
    exact J_18 za0 za1 za2 _ _ _ ls hf hw (lv_sub hl [0, 1, 2] rfl)
  · have hf := gif_f hf qc2
    refine lv_aload_n hx hb dX12_tried_10 rfl (lv_at hl 0 rfl) ?_
    refine lv_iload_n hx hb dX12_tried_11 rfl (lv_at hl 1 rfl) ?_
    obtain ⟨qizh3, hf⟩ := gg_el hf
    obtain ⟨zt4, zh3, qzh3, hf⟩ := gc_el hf
    refine gx_ki (gx_runV (As := [.int za1]) (rest := []) X hw (c_X12_isRule l E N za0 za1 zh1 qzh3) kX12_isRule mm_X12_318 qizh3 clX12 ⟨Nat.le_of_ble_eq_true rfl, Nat.le_of_ble_eq_true rfl⟩ rfl rfl rfl hl.1 (Nat.le_of_ble_eq_true rfl) rfl dX12_tried_12 ⟨Nat.le_of_ble_eq_true rfl, Nat.le_of_ble_eq_true rfl⟩) hw (fun H locs hw => ?_)
    refine W.eq (g2 := F0 m 15 ls [.int zt4]) rfl ?_
    refine lv_if_eq (tgt := 27) hx hb dX12_tried_15 (by decide) (fun qc5 => ?_) (fun qc5 => ?_)
    · have hf := gif_t hf qc5
      exact J_27  _ _ _ ls hf hw (lv_sub hl [] rfl)
    · have hf := gif_f hf qc5
      exact J_18 za0 za1 za2 _ _ _ ls hf hw (lv_sub hl [0, 1, 2] rfl)
abbrev rm_X12_best : Room := { frames := 6, cells := 0, slots := 0, locals := 144 }
set_option maxHeartbeats 4000000 in
set_option maxRecDepth 100000 in
theorem c_X12_best (l : Launch) (E : gE) (N : Nat) (za0 : Nat) (zh : PH) {h9 : PH} {r9 : Int32} (hf : f_X12_best N za0 zh = some (r9, h9)) : Met l yX12_best (gWS yX12_best cX12_best 5 (some .int)) rm_X12_best (gPc E [.ref (gB E + za0)] zh) (gQi E r9 h9) 0 0 (gA E) := by
  refine gx_met (by decide) ?_ rfl
  intro p e s m below meth c X hr hlk hin2 hw
  have hx := X.1.1
  have hb := X.1.2.1
  have hl := lv_entry [.ref (gB E + za0)] (n := 5) (Nat.le_of_ble_eq_true rfl)
  rw [lg_entry_eq]
  generalize (lg_sl [.ref (gB E + za0)] ++ List.replicate (5 - (lg_sl [.ref (gB E + za0)]).length) Slot.unset).toArray = ls at hl ⊢
  have hl : lv_has ls 5 [(0, .ref (gB E + za0))] := hl
  have L_14 : ∀ (zn14 : Nat) (zv0 : Nat) (zv1 : Int32) (zv2 : Int32) (zv3 : Int32) (zv4 : Int32) (zh : PH) (H : Heap) (locs : List Loc) (ls : Array Slot), gi (fun zk zs => f_X12_best_14 N zk zs.1 zs.2.1 zs.2.2.1 zs.2.2.2.1 zs.2.2.2.2.1 zs.2.2.2.2.2) zn14 (zv0, zv1, zv2, zv3, zv4, zh) = some (r9, h9) → gw E s zh H locs → lv_has ls 5 [(0, .ref (gB E + zv0)), (1, .int zv1), (2, .int zv2), (3, .int zv3), (4, .int zv4)] → W p l e rm_X12_best s m [.ref (gB E + za0)].toArray below meth c H locs 0 0 (MQ below (gQi E r9 h9) [.ref (gB E + za0)].toArray s 0 0 (gA E)) (F0 m 14 ls []) := by
    intro zn14
    induction zn14 with
    | zero =>
      intro zv0 zv1 zv2 zv3 zv4 zh H locs ls hf
      cases hf
    | succ zn14 ih_14 =>
      have J_70 : ∀ (zv0 : Nat) (zv1 : Int32) (zv2 : Int32) (zv3 : Int32) (zv4 : Int32) (zh : PH) (H : Heap) (locs : List Loc) (ls : Array Slot), f_X12_best_70 N (gi (fun zk zs => f_X12_best_14 N zk zs.1 zs.2.1 zs.2.2.1 zs.2.2.2.1 zs.2.2.2.2.1 zs.2.2.2.2.2) zn14) zv0 zv1 zv2 zv3 zv4 zh = some (r9, h9) → gw E s zh H locs → lv_has ls 5 [(0, .ref (gB E + zv0)), (1, .int zv1), (2, .int zv2), (3, .int zv3), (4, .int zv4)] → W p l e rm_X12_best s m [.ref (gB E + za0)].toArray below meth c H locs 0 0 (MQ below (gQi E r9 h9) [.ref (gB E + za0)].toArray s 0 0 (gA E)) (F0 m 70 ls []) := by
        intro zv0 zv1 zv2 zv3 zv4 zh H locs ls hf hw hl
        unfold f_X12_best_70 at hf
        obtain ⟨zx1, ezx1⟩ : ∃ y : Int32, y = zv4 + 1 := ⟨_, rfl⟩
        have hf := gl_el hf ezx1
        refine lv_iinc (v := zx1) (lv' := [(4, .int zx1), (0, .ref (gB E + zv0)), (1, .int zv1), (2, .int zv2), (3, .int zv3)]) hx hb dX12_best_70 hl (k := 4) rfl (by rw [ezx1]; rfl) (by decide) rfl (fun ls hl => ?_)
        refine lv_goto (tgt := 14) hx hb dX12_best_73 (by decide) ?_
        exact ih_14 zv0 zv1 zv2 zv3 zx1 _ _ _ ls hf hw (lv_sub hl [1, 2, 3, 4, 0] rfl)
      have J_57 : ∀ (zv0 : Nat) (zv4 : Int32) (zh : PH) (H : Heap) (locs : List Loc) (ls : Array Slot), f_X12_best_57 N (gi (fun zk zs => f_X12_best_14 N zk zs.1 zs.2.1 zs.2.2.1 zs.2.2.2.1 zs.2.2.2.2.1 zs.2.2.2.2.2) zn14) zv0 zv4 zh = some (r9, h9) → gw E s zh H locs → lv_has ls 5 [(0, .ref (gB E + zv0)), (4, .int zv4)] → W p l e rm_X12_best s m [.ref (gB E + za0)].toArray below meth c H locs 0 0 (MQ below (gQi E r9 h9) [.ref (gB E + za0)].toArray s 0 0 (gA E)) (F0 m 57 ls []) := by
        intro zv0 zv4 zh H locs ls hf hw hl
        unfold f_X12_best_57 at hf
        refine lv_iload hx hb dX12_best_57 (lv_at hl 1 rfl) ?_
        refine lv_istore_n (lv' := [(1, .int zv4), (0, .ref (gB E + zv0)), (4, .int zv4)]) hx hb dX12_best_59 rfl hl (by decide) rfl (fun ls hl => ?_)
        refine lv_aload_n hx hb dX12_best_60 rfl (lv_at hl 1 rfl) ?_
        obtain ⟨zt1, qzt1, hf⟩ := gb_el hf
        refine gx_getI X hw qzt1 clX12 (by decide) mf_X12_431 dX12_best_61 ?_
        refine lv_istore_n (lv' := [(2, .int zt1), (1, .int zv4), (0, .ref (gB E + zv0)), (4, .int zv4)]) hx hb dX12_best_64 rfl hl (by decide) rfl (fun ls hl => ?_)
        refine lv_aload_n hx hb dX12_best_65 rfl (lv_at hl 2 rfl) ?_
        obtain ⟨zt2, qzt2, hf⟩ := gb_el hf
        refine gx_getI X hw qzt2 clX12 (by decide) mf_X12_434 dX12_best_66 ?_
        refine lv_istore_n (lv' := [(3, .int zt2), (2, .int zt1), (1, .int zv4), (0, .ref (gB E + zv0)), (4, .int zv4)]) hx hb dX12_best_69 rfl hl (by decide) rfl (fun ls hl => ?_)
        exact J_70 zv0 zv4 zt1 zt2 zv4 _ _ _ ls hf hw (lv_sub hl [3, 2, 1, 0, 4] rfl)
      intro zv0 zv1 zv2 zv3 zv4 zh H locs ls hf hw hl
      have hf := gi_s hf
      dsimp only at hf
      unfold f_X12_best_14 at hf
      refine lv_iload hx hb dX12_best_14 (lv_at hl 4 rfl) ?_
      refine lv_aload_n hx hb dX12_best_16 rfl (lv_at hl 0 rfl) ?_
      obtain ⟨qizh1, hf⟩ := gg_el hf
      obtain ⟨zt2, zh1, qzh1, hf⟩ := gc_el hf
      refine gx_ki (gx_runV (As := []) (rest := [.int zv4]) X hw (c_X12_rules l E N zv0 zh qzh1) kX12_rules mm_X12_181 qizh1 clX12 ⟨Nat.le_of_ble_eq_true rfl, Nat.le_of_ble_eq_true rfl⟩ rfl rfl rfl hl.1 (Nat.le_of_ble_eq_true rfl) rfl dX12_best_17 ⟨Nat.le_of_ble_eq_true rfl, Nat.le_of_ble_eq_true rfl⟩) hw (fun H locs hw => ?_)
      refine lv_icmp_ge (tgt := 76) hx hb dX12_best_20 (by decide) (fun qc3 => ?_) (fun qc3 => ?_)
      · have hf := gif_t hf qc3
        refine lv_iload_n hx hb dX12_best_76 rfl (lv_at hl 1 rfl) ?_
        exact gx_iret X hr hlk hw hf dX12_best_77
      · have hf := gif_f hf qc3
        refine lv_aload_n hx hb dX12_best_23 rfl (lv_at hl 0 rfl) ?_
        refine lv_iload hx hb dX12_best_24 (lv_at hl 4 rfl) ?_
        obtain ⟨qizh4, hf⟩ := gg_el hf
        obtain ⟨zh4, qzh4, hf⟩ := gb_el hf
        refine gx_kv (gx_runV (As := [.int zv4]) (rest := []) X hw (c_X12_findTried l E N zv0 zv4 zh1 qzh4) kX12_findTried mm_X12_440 qizh4 clX12 ⟨Nat.le_of_ble_eq_true rfl, Nat.le_of_ble_eq_true rfl⟩ rfl rfl rfl hl.1 (Nat.le_of_ble_eq_true rfl) rfl dX12_best_26 ⟨Nat.le_of_ble_eq_true rfl, Nat.le_of_ble_eq_true rfl⟩) hw (fun H locs hw => ?_)
        refine lv_iload_n hx hb dX12_best_29 rfl (lv_at hl 1 rfl) ?_
        refine lv_if_lt (tgt := 57) hx hb dX12_best_30 (by decide) (fun qc5 => ?_) (fun qc5 => ?_)
        · have hf := gif_t hf qc5
          exact J_57 zv0 zv4 _ _ _ ls hf hw (lv_sub hl [0, 4] rfl)
        · have hf := gif_f hf qc5
          refine W.eq (g2 := F0 m 33 ls []) rfl ?_
          refine lv_aload_n hx hb dX12_best_33 rfl (lv_at hl 0 rfl) ?_
          obtain ⟨zt6, qzt6, hf⟩ := gb_el hf
          refine gx_getI X hw qzt6 clX12 (by decide) mf_X12_431 dX12_best_34 ?_
          refine lv_iload_n hx hb dX12_best_37 rfl (lv_at hl 2 rfl) ?_
          refine lv_icmp_lt (tgt := 57) hx hb dX12_best_38 (by decide) (fun qc7 => ?_) (fun qc7 => ?_)
          · have hf := gif_t hf qc7
            exact J_57 zv0 zv4 _ _ _ ls hf hw (lv_sub hl [0, 4] rfl)
          · have hf := gif_f hf qc7
            refine lv_aload_n hx hb dX12_best_41 rfl (lv_at hl 0 rfl) ?_
            obtain ⟨zt8, qzt8, hf⟩ := gb_el hf
            refine gx_getI X hw qzt8 clX12 (by decide) mf_X12_431 dX12_best_42 ?_
            refine lv_iload_n hx hb dX12_best_45 rfl (lv_at hl 2 rfl) ?_
            refine lv_icmp_ne (tgt := 70) hx hb dX12_best_46 (by decide) (fun qc9 => ?_) (fun qc9 => ?_)
            · have hf := gif_f hf qc9
              exact J_70 zv0 zv1 zv2 zv3 zv4 _ _ _ ls hf hw (lv_sub hl [0, 1, 2, 3, 4] rfl)
            · have hf := gif_t hf qc9
              refine lv_aload_n hx hb dX12_best_49 rfl (lv_at hl 0 rfl) ?_
              obtain ⟨zt10, qzt10, hf⟩ := gb_el hf
              refine gx_getI X hw qzt10 clX12 (by decide) mf_X12_434 dX12_best_50 ?_
              refine W.eq (g2 := F0 m 53 ls [.int zt10]) rfl ?_
              refine lv_iload_n hx hb dX12_best_53 rfl (lv_at hl 3 rfl) ?_
              refine lv_icmp_ge (tgt := 70) hx hb dX12_best_54 (by decide) (fun qc11 => ?_) (fun qc11 => ?_)
              · have hf := gif_t hf qc11
                exact J_70 zv0 zv1 zv2 zv3 zv4 _ _ _ ls hf hw (lv_sub hl [0, 1, 2, 3, 4] rfl)
              · have hf := gif_f hf qc11
                exact J_57 zv0 zv4 _ _ _ ls hf hw (lv_sub hl [0, 4] rfl)
  unfold f_X12_best at hf
  refine lv_aload_n hx hb dX12_best_0 rfl (lv_at hl 0 rfl) ?_
  refine lv_iconst (v := 0) hx hb dX12_best_1 (by decide) ?_
  obtain ⟨zh1, qzh1, hf⟩ := gb_el hf
  refine gx_putV X hw qzh1 clX12 (by decide) mf_X12_1 rfl rfl rfl dX12_best_2 (fun H locs hw => ?_)
  refine lv_iconst (v := (-1)) hx hb dX12_best_5 (by decide) ?_
  refine lv_istore_n (lv' := [(1, .int (-1)), (0, .ref (gB E + za0))]) hx hb dX12_best_6 rfl hl (by decide) rfl (fun ls hl => ?_)
  refine lv_iconst (v := 0) hx hb dX12_best_7 (by decide) ?_
  refine lv_istore_n (lv' := [(2, .int 0), (1, .int (-1)), (0, .ref (gB E + za0))]) hx hb dX12_best_8 rfl hl (by decide) rfl (fun ls hl => ?_)
  refine lv_iconst (v := 0) hx hb dX12_best_9 (by decide) ?_
  refine lv_istore_n (lv' := [(3, .int 0), (2, .int 0), (1, .int (-1)), (0, .ref (gB E + za0))]) hx hb dX12_best_10 rfl hl (by decide) rfl (fun ls hl => ?_)
  refine W.eq (g2 := F0 m 11 ls []) rfl ?_
  refine lv_iconst (v := 0) hx hb dX12_best_11 (by decide) ?_
  refine lv_istore (lv' := [(4, .int 0), (3, .int 0), (2, .int 0), (1, .int (-1)), (0, .ref (gB E + za0))]) hx hb dX12_best_12 hl (by decide) rfl (fun ls hl => ?_)
  exact L_14 N za0 (-1) 0 0 0 _ _ _ ls hf hw (lv_sub hl [4, 3, 2, 1, 0] rfl)
abbrev rm_X12_mark : Room := { frames := 1, cells := 0, slots := 0, locals := 22 }
set_option maxHeartbeats 4000000 in
set_option maxRecDepth 100000 in
theorem c_X12_mark (l : Launch) (E : gE) (N : Nat) (za0 : Nat) (za1 : Int32) (za2 : Int32) (zh : PH) {h9 : PH} {r9 : Int32} (hf : f_X12_mark N za0 za1 za2 zh = some (r9, h9)) : Met l yX12_mark (gWS yX12_mark cX12_mark 5 (some .boolean)) rm_X12_mark (gPc E [.ref (gB E + za0), .int za1, .int za2] zh) (gQi E r9 h9) 0 0 (gA E) := by
  refine gx_met (by decide) ?_ rfl
  intro p e s m below meth c X hr hlk hin2 hw
  have hx := X.1.1
  have hb := X.1.2.1
  have hl := lv_entry [.ref (gB E + za0), .int za1, .int za2] (n := 5) (Nat.le_of_ble_eq_true rfl)
  rw [lg_entry_eq]
  generalize (lg_sl [.ref (gB E + za0), .int za1, .int za2] ++ List.replicate (5 - (lg_sl [.ref (gB E + za0), .int za1, .int za2]).length) Slot.unset).toArray = ls at hl ⊢
  have hl : lv_has ls 5 [(0, .ref (gB E + za0)), (1, .int za1), (2, .int za2)] := hl
  have L_40 : ∀ (zn40 : Nat) (zv0 : Nat) (zv1 : Int32) (zv2 : Int32) (zv3 : Int32) (zv4 : Int32) (zh : PH) (H : Heap) (locs : List Loc) (ls : Array Slot), gi (fun zk zs => f_X12_mark_40 N zk zs.1 zs.2.1 zs.2.2.1 zs.2.2.2.1 zs.2.2.2.2.1 zs.2.2.2.2.2) zn40 (zv0, zv1, zv2, zv3, zv4, zh) = some (r9, h9) → gw E s zh H locs → lv_has ls 5 [(0, .ref (gB E + zv0)), (1, .int zv1), (2, .int zv2), (3, .int zv3), (4, .int zv4)] → W p l e rm_X12_mark s m [.ref (gB E + za0), .int za1, .int za2].toArray below meth c H locs 0 0 (MQ below (gQi E r9 h9) [.ref (gB E + za0), .int za1, .int za2].toArray s 0 0 (gA E)) (F0 m 40 ls []) := by
    intro zn40
    induction zn40 with
    | zero =>
      intro zv0 zv1 zv2 zv3 zv4 zh H locs ls hf
      cases hf
    | succ zn40 ih_40 =>
      have J_82 : ∀ (zv0 : Nat) (zv1 : Int32) (zv2 : Int32) (zv3 : Int32) (zv4 : Int32) (zs0 : Int32) (zs1 : Nat) (zs2 : Int32) (zs3 : Nat) (zh : PH) (H : Heap) (locs : List Loc) (ls : Array Slot), f_X12_mark_82 N (gi (fun zk zs => f_X12_mark_40 N zk zs.1 zs.2.1 zs.2.2.1 zs.2.2.2.1 zs.2.2.2.2.1 zs.2.2.2.2.2) zn40) zv0 zv1 zv2 zv3 zv4 zs0 zs1 zs2 zs3 zh = some (r9, h9) → gw E s zh H locs → lv_has ls 5 [(0, .ref (gB E + zv0)), (1, .int zv1), (2, .int zv2), (3, .int zv3), (4, .int zv4)] → W p l e rm_X12_mark s m [.ref (gB E + za0), .int za1, .int za2].toArray below meth c H locs 0 0 (MQ below (gQi E r9 h9) [.ref (gB E + za0), .int za1, .int za2].toArray s 0 0 (gA E)) (F0 m 82 ls [.int zs0, .ref (gB E + zs1), .int zs2, .ref (gB E + zs3)]) := by
        intro zv0 zv1 zv2 zv3 zv4 zs0 zs1 zs2 zs3 zh H locs ls hf hw hl
        unfold f_X12_mark_82 at hf
        obtain ⟨zt1, qzt1, hf⟩ := gb_el hf
        refine gx_iald X hw qzt1 dX12_mark_82 ?_
        obtain ⟨zh2, qzh2, hf⟩ := gb_el hf
        refine gx_iast X hw qzh2 dX12_mark_83 (fun H locs hw => ?_)
        obtain ⟨zx3, ezx3⟩ : ∃ y : Int32, y = zv4 + 1 := ⟨_, rfl⟩
        have hf := gl_el hf ezx3
        refine lv_iinc (v := zx3) (lv' := [(4, .int zx3), (0, .ref (gB E + zv0)), (1, .int zv1), (2, .int zv2), (3, .int zv3)]) hx hb dX12_mark_84 hl (k := 4) rfl (by rw [ezx3]; rfl) (by decide) rfl (fun ls hl => ?_)
        refine lv_goto (tgt := 40) hx hb dX12_mark_87 (by decide) ?_
        exact ih_40 zv0 zv1 zv2 zv3 zx3 _ _ _ ls hf hw (lv_sub hl [1, 2, 3, 4, 0] rfl)
      have J_65 : ∀ (zv0 : Nat) (zv1 : Int32) (zv2 : Int32) (zv3 : Int32) (zv4 : Int32) (zs0 : Int32) (zs1 : Nat) (zh : PH) (H : Heap) (locs : List Loc) (ls : Array Slot), f_X12_mark_65 N (gi (fun zk zs => f_X12_mark_40 N zk zs.1 zs.2.1 zs.2.2.1 zs.2.2.2.1 zs.2.2.2.2.1 zs.2.2.2.2.2) zn40) zv0 zv1 zv2 zv3 zv4 zs0 zs1 zh = some (r9, h9) → gw E s zh H locs → lv_has ls 5 [(0, .ref (gB E + zv0)), (1, .int zv1), (2, .int zv2), (3, .int zv3), (4, .int zv4)] → W p l e rm_X12_mark s m [.ref (gB E + za0), .int za1, .int za2].toArray below meth c H locs 0 0 (MQ below (gQi E r9 h9) [.ref (gB E + za0), .int za1, .int za2].toArray s 0 0 (gA E)) (F0 m 65 ls [.int zs0, .ref (gB E + zs1)]) := by
        intro zv0 zv1 zv2 zv3 zv4 zs0 zs1 zh H locs ls hf hw hl
        unfold f_X12_mark_65 at hf
        refine lv_aload_n hx hb dX12_mark_65 rfl (lv_at hl 0 rfl) ?_
        obtain ⟨zt1, qzt1, hf⟩ := gb_el hf
        refine gx_getR X hw qzt1 clX12 (by decide) mf_X12_83 dX12_mark_66 ?_
        refine lv_iload_n hx hb dX12_mark_69 rfl (lv_at hl 2 rfl) ?_
        refine lv_if_eq (tgt := 80) hx hb dX12_mark_70 (by decide) (fun qc2 => ?_) (fun qc2 => ?_)
        · have hf := gif_t hf qc2
          refine lv_iload hx hb dX12_mark_80 (lv_at hl 4 rfl) ?_
          exact J_82 zv0 zv1 zv2 zv3 zv4 zv4 zt1 zs0 zs1 _ _ _ ls hf hw (lv_sub hl [0, 1, 2, 3, 4] rfl)
        · have hf := gif_f hf qc2
          refine lv_iload_n hx hb dX12_mark_73 rfl (lv_at hl 3 rfl) ?_
          refine lv_iload hx hb dX12_mark_74 (lv_at hl 4 rfl) ?_
          refine lv_iadd hx hb dX12_mark_76 ?_
          refine lv_goto (tgt := 82) hx hb dX12_mark_77 (by decide) ?_
          exact J_82 zv0 zv1 zv2 zv3 zv4 (zv3 + zv4) zt1 zs0 zs1 _ _ _ ls hf hw (lv_sub hl [0, 1, 2, 3, 4] rfl)
      intro zv0 zv1 zv2 zv3 zv4 zh H locs ls hf hw hl
      have hf := gi_s hf
      dsimp only at hf
      unfold f_X12_mark_40 at hf
      refine lv_iload hx hb dX12_mark_40 (lv_at hl 4 rfl) ?_
      refine lv_sipush (v := 520) hx hb dX12_mark_42 (by decide) ?_
      refine lv_icmp_ge (tgt := 90) hx hb dX12_mark_45 (by decide) (fun qc1 => ?_) (fun qc1 => ?_)
      · have hf := gif_t hf qc1
        refine lv_aload_n hx hb dX12_mark_90 rfl (lv_at hl 0 rfl) ?_
        obtain ⟨zt2, qzt2, hf⟩ := gb_el hf
        refine gx_getR X hw qzt2 clX12 (by decide) mf_X12_120 dX12_mark_91 ?_
        refine lv_iload_n hx hb dX12_mark_94 rfl (lv_at hl 1 rfl) ?_
        refine lv_iconst (v := 1) hx hb dX12_mark_95 (by decide) ?_
        obtain ⟨zh3, qzh3, hf⟩ := gb_el hf
        refine gx_zast X hw qzh3 dX12_mark_96 (fun H locs hw => ?_)
        refine lv_aload_n hx hb dX12_mark_97 rfl (lv_at hl 0 rfl) ?_
        refine W.eq (g2 := F0 m 98 ls [.ref (gB E + zv0)]) rfl ?_
        refine lv_iconst (v := 1) hx hb dX12_mark_98 (by decide) ?_
        obtain ⟨zh4, qzh4, hf⟩ := gb_el hf
        refine gx_putV X hw qzh4 clX12 (by decide) mf_X12_123 rfl rfl rfl dX12_mark_99 (fun H locs hw => ?_)
        refine lv_iconst (v := 1) hx hb dX12_mark_102 (by decide) ?_
        exact gx_zret X hr hlk hw hf dX12_mark_103
      · have hf := gif_f hf qc1
        refine lv_aload_n hx hb dX12_mark_48 rfl (lv_at hl 0 rfl) ?_
        obtain ⟨zt5, qzt5, hf⟩ := gb_el hf
        refine gx_getR X hw qzt5 clX12 (by decide) mf_X12_83 dX12_mark_49 ?_
        refine lv_iload_n hx hb dX12_mark_52 rfl (lv_at hl 2 rfl) ?_
        refine lv_if_eq (tgt := 61) hx hb dX12_mark_53 (by decide) (fun qc6 => ?_) (fun qc6 => ?_)
        · have hf := gif_t hf qc6
          refine lv_iload_n hx hb dX12_mark_61 rfl (lv_at hl 3 rfl) ?_
          refine lv_iload hx hb dX12_mark_62 (lv_at hl 4 rfl) ?_
          refine W.eq (g2 := F0 m 64 ls [.int zv4, .int zv3, .ref (gB E + zt5)]) rfl ?_
          refine lv_iadd hx hb dX12_mark_64 ?_
          exact J_65 zv0 zv1 zv2 zv3 zv4 (zv3 + zv4) zt5 _ _ _ ls hf hw (lv_sub hl [0, 1, 2, 3, 4] rfl)
        · have hf := gif_f hf qc6
          refine lv_iload hx hb dX12_mark_56 (lv_at hl 4 rfl) ?_
          refine lv_goto (tgt := 65) hx hb dX12_mark_58 (by decide) ?_
          exact J_65 zv0 zv1 zv2 zv3 zv4 zv4 zt5 _ _ _ ls hf hw (lv_sub hl [0, 1, 2, 3, 4] rfl)
  have J_29 : ∀ (zv0 : Nat) (zv1 : Int32) (zv2 : Int32) (zh : PH) (H : Heap) (locs : List Loc) (ls : Array Slot), f_X12_mark_29 N zv0 zv1 zv2 zh = some (r9, h9) → gw E s zh H locs → lv_has ls 5 [(0, .ref (gB E + zv0)), (1, .int zv1), (2, .int zv2)] → W p l e rm_X12_mark s m [.ref (gB E + za0), .int za1, .int za2].toArray below meth c H locs 0 0 (MQ below (gQi E r9 h9) [.ref (gB E + za0), .int za1, .int za2].toArray s 0 0 (gA E)) (F0 m 29 ls []) := by
    intro zv0 zv1 zv2 zh H locs ls hf hw hl
    unfold f_X12_mark_29 at hf
    refine lv_sipush (v := 520) hx hb dX12_mark_29 (by decide) ?_
    refine lv_iload_n hx hb dX12_mark_32 rfl (lv_at hl 1 rfl) ?_
    refine lv_iconst (v := 1) hx hb dX12_mark_33 (by decide) ?_
    refine lv_iadd hx hb dX12_mark_34 ?_
    refine lv_imul hx hb dX12_mark_35 ?_
    refine lv_topi (fun zx1 ezx1 => ?_)
    have hf := gl_el hf ezx1
    refine lv_istore_n (lv' := [(3, .int zx1), (0, .ref (gB E + zv0)), (1, .int zv1), (2, .int zv2)]) hx hb dX12_mark_36 rfl hl (by decide) rfl (fun ls hl => ?_)
    refine lv_iconst (v := 0) hx hb dX12_mark_37 (by decide) ?_
    refine lv_istore (lv' := [(4, .int 0), (3, .int zx1), (0, .ref (gB E + zv0)), (1, .int zv1), (2, .int zv2)]) hx hb dX12_mark_38 hl (by decide) rfl (fun ls hl => ?_)
    exact L_40 N zv0 zv1 zv2 zx1 0 _ _ _ ls hf hw (lv_sub hl [2, 3, 4, 1, 0] rfl)
  have J_27 : ∀ (zh : PH) (H : Heap) (locs : List Loc) (ls : Array Slot), f_X12_mark_27 N zh = some (r9, h9) → gw E s zh H locs → lv_has ls 5 [] → W p l e rm_X12_mark s m [.ref (gB E + za0), .int za1, .int za2].toArray below meth c H locs 0 0 (MQ below (gQi E r9 h9) [.ref (gB E + za0), .int za1, .int za2].toArray s 0 0 (gA E)) (F0 m 27 ls []) := by
    intro zh H locs ls hf hw hl
    unfold f_X12_mark_27 at hf
    refine lv_iconst (v := 0) hx hb dX12_mark_27 (by decide) ?_
    exact gx_zret X hr hlk hw hf dX12_mark_28
  unfold f_X12_mark at hf
  refine lv_aload_n hx hb dX12_mark_0 rfl (lv_at hl 0 rfl) ?_
  refine lv_iconst (v := 0) hx hb dX12_mark_1 (by decide) ?_
  obtain ⟨zh1, qzh1, hf⟩ := gb_el hf
  refine gx_putV X hw qzh1 clX12 (by decide) mf_X12_1 rfl rfl rfl dX12_mark_2 (fun H locs hw => ?_)
  refine lv_iload_n hx hb dX12_mark_5 rfl (lv_at hl 1 rfl) ?_
  refine lv_iconst (v := 0) hx hb dX12_mark_6 (by decide) ?_
  refine lv_iconst (v := 3) hx hb dX12_mark_7 (by decide) ?_
  obtain ⟨zt3, zh2, qzh2, hf⟩ := gc_el hf
  refine gx_ki (gx_runS (As := [.int za1, .int 0, .int 3]) (rest := []) X hw (c_X12_within l E N za1 0 3 zh1 qzh2) kX12_within mm_X12_304 ⟨Nat.le_of_ble_eq_true rfl, Nat.le_of_ble_eq_true rfl⟩ rfl rfl rfl hl.1 (Nat.le_of_ble_eq_true rfl) rfl dX12_mark_8 ⟨Nat.le_of_ble_eq_true rfl, Nat.le_of_ble_eq_true rfl⟩) hw (fun H locs hw => ?_)
  refine lv_if_eq (tgt := 27) hx hb dX12_mark_11 (by decide) (fun qc4 => ?_) (fun qc4 => ?_)
  · have hf := gif_t hf qc4
    exact J_27  _ _ _ ls hf hw (lv_sub hl [] rfl)
  · have hf := gif_f hf qc4
    refine lv_iload_n hx hb dX12_mark_14 rfl (lv_at hl 2 rfl) ?_
    refine W.eq (g2 := F0 m 15 ls [.int za2]) rfl ?_
    refine lv_if_eq (tgt := 29) hx hb dX12_mark_15 (by decide) (fun qc5 => ?_) (fun qc5 => ?_)
    · have hf := gif_t hf qc5
      exact J_29 za0 za1 za2 _ _ _ ls hf hw (lv_sub hl [0, 1, 2] rfl)
    · have hf := gif_f hf qc5
      refine lv_aload_n hx hb dX12_mark_18 rfl (lv_at hl 0 rfl) ?_
      obtain ⟨zt6, qzt6, hf⟩ := gb_el hf
      refine gx_getR X hw qzt6 clX12 (by decide) mf_X12_120 dX12_mark_19 ?_
      refine lv_iload_n hx hb dX12_mark_22 rfl (lv_at hl 1 rfl) ?_
      obtain ⟨zt7, qzt7, hf⟩ := gb_el hf
      refine gx_zald X hw qzt7 dX12_mark_23 ?_
      refine lv_if_ne (tgt := 29) hx hb dX12_mark_24 (by decide) (fun qc8 => ?_) (fun qc8 => ?_)
      · have hf := gif_f hf qc8
        exact J_29 za0 za1 za2 _ _ _ ls hf hw (lv_sub hl [0, 1, 2] rfl)
      · have hf := gif_t hf qc8
        exact J_27  _ _ _ ls hf hw (lv_sub hl [] rfl)
abbrev rm_X12_count : Room := { frames := 7, cells := 0, slots := 0, locals := 162 }
set_option maxHeartbeats 4000000 in
set_option maxRecDepth 100000 in
theorem c_X12_count (l : Launch) (E : gE) (N : Nat) (za0 : Nat) (za1 : Int32) (zh : PH) {h9 : PH} {r9 : Int32} (hf : f_X12_count N za0 za1 zh = some (r9, h9)) : Met l yX12_count (gWS yX12_count cX12_count 2 (some .int)) rm_X12_count (gPc E [.ref (gB E + za0), .int za1] zh) (gQi E r9 h9) 0 0 (gA E) := by
  refine gx_met (by decide) ?_ rfl
  intro p e s m below meth c X hr hlk hin2 hw
  have hx := X.1.1
  have hb := X.1.2.1
  have hl := lv_entry [.ref (gB E + za0), .int za1] (n := 2) (Nat.le_of_ble_eq_true rfl)
  rw [lg_entry_eq]
  generalize (lg_sl [.ref (gB E + za0), .int za1] ++ List.replicate (2 - (lg_sl [.ref (gB E + za0), .int za1]).length) Slot.unset).toArray = ls at hl ⊢
  have hl : lv_has ls 2 [(0, .ref (gB E + za0)), (1, .int za1)] := hl
  unfold f_X12_count at hf
  refine lv_aload_n hx hb dX12_count_0 rfl (lv_at hl 0 rfl) ?_
  refine lv_iconst (v := 0) hx hb dX12_count_1 (by decide) ?_
  obtain ⟨zh1, qzh1, hf⟩ := gb_el hf
  refine gx_putV X hw qzh1 clX12 (by decide) mf_X12_1 rfl rfl rfl dX12_count_2 (fun H locs hw => ?_)
  refine lv_iload_n hx hb dX12_count_5 rfl (lv_at hl 1 rfl) ?_
  by_cases qc2 : (za1 : Int32) = 0
  · have hf := gif_t hf qc2
    refine lv_tableIn (off := 58) (tgt := 64) hx hb dX12_count_6 (by rw [qc2]; decide) (by rw [qc2]; decide) (by rw [qc2]; rfl) (by decide) ?_
    refine lv_aload_n hx hb dX12_count_64 rfl (lv_at hl 0 rfl) ?_
    obtain ⟨qizh3, hf⟩ := gg_el hf
    obtain ⟨zt4, zh3, qzh3, hf⟩ := gc_el hf
    refine gx_ki (gx_runV (As := []) (rest := []) X hw (c_X12_rooms l E N za0 zh1 qzh3) kX12_rooms mm_X12_231 qizh3 clX12 ⟨Nat.le_of_ble_eq_true rfl, Nat.le_of_ble_eq_true rfl⟩ rfl rfl rfl hl.1 (Nat.le_of_ble_eq_true rfl) rfl dX12_count_65 ⟨Nat.le_of_ble_eq_true rfl, Nat.le_of_ble_eq_true rfl⟩) hw (fun H locs hw => ?_)
    exact gx_iret X hr hlk hw hf dX12_count_68
  have hf := gif_f hf qc2
  by_cases qc5 : (za1 : Int32) = 1
  · have hf := gif_t hf qc5
    refine lv_tableIn (off := 63) (tgt := 69) hx hb dX12_count_6 (by rw [qc5]; decide) (by rw [qc5]; decide) (by rw [qc5]; rfl) (by decide) ?_
    refine lv_aload_n hx hb dX12_count_69 rfl (lv_at hl 0 rfl) ?_
    obtain ⟨qizh6, hf⟩ := gg_el hf
    obtain ⟨zt7, zh6, qzh6, hf⟩ := gc_el hf
    refine gx_ki (gx_runV (As := []) (rest := []) X hw (c_X12_guests l E N za0 zh1 qzh6) kX12_guests mm_X12_234 qizh6 clX12 ⟨Nat.le_of_ble_eq_true rfl, Nat.le_of_ble_eq_true rfl⟩ rfl rfl rfl hl.1 (Nat.le_of_ble_eq_true rfl) rfl dX12_count_70 ⟨Nat.le_of_ble_eq_true rfl, Nat.le_of_ble_eq_true rfl⟩) hw (fun H locs hw => ?_)
    exact gx_iret X hr hlk hw hf dX12_count_73
  have hf := gif_f hf qc5
  by_cases qc8 : (za1 : Int32) = 2
  · have hf := gif_t hf qc8
    refine lv_tableIn (off := 68) (tgt := 74) hx hb dX12_count_6 (by rw [qc8]; decide) (by rw [qc8]; decide) (by rw [qc8]; rfl) (by decide) ?_
    refine lv_aload_n hx hb dX12_count_74 rfl (lv_at hl 0 rfl) ?_
    obtain ⟨qizh9, hf⟩ := gg_el hf
    obtain ⟨zt10, zh9, qzh9, hf⟩ := gc_el hf
    refine gx_ki (gx_runV (As := []) (rest := []) X hw (c_X12_rules l E N za0 zh1 qzh9) kX12_rules mm_X12_181 qizh9 clX12 ⟨Nat.le_of_ble_eq_true rfl, Nat.le_of_ble_eq_true rfl⟩ rfl rfl rfl hl.1 (Nat.le_of_ble_eq_true rfl) rfl dX12_count_75 ⟨Nat.le_of_ble_eq_true rfl, Nat.le_of_ble_eq_true rfl⟩) hw (fun H locs hw => ?_)
    exact gx_iret X hr hlk hw hf dX12_count_78
  have hf := gif_f hf qc8
  by_cases qc11 : (za1 : Int32) = 3
  · have hf := gif_t hf qc11
    refine lv_tableIn (off := 73) (tgt := 79) hx hb dX12_count_6 (by rw [qc11]; decide) (by rw [qc11]; decide) (by rw [qc11]; rfl) (by decide) ?_
    refine lv_aload_n hx hb dX12_count_79 rfl (lv_at hl 0 rfl) ?_
    obtain ⟨qizh12, hf⟩ := gg_el hf
    obtain ⟨zt13, zh12, qzh12, hf⟩ := gc_el hf
    refine gx_ki (gx_runV (As := []) (rest := []) X hw (c_X12_insideMany l E N za0 zh1 qzh12) kX12_insideMany mm_X12_428 qizh12 clX12 ⟨Nat.le_of_ble_eq_true rfl, Nat.le_of_ble_eq_true rfl⟩ rfl rfl rfl hl.1 (Nat.le_of_ble_eq_true rfl) rfl dX12_count_80 ⟨Nat.le_of_ble_eq_true rfl, Nat.le_of_ble_eq_true rfl⟩) hw (fun H locs hw => ?_)
    exact gx_iret X hr hlk hw hf dX12_count_83
  have hf := gif_f hf qc11
  by_cases qc14 : (za1 : Int32) = 4
  · have hf := gif_t hf qc14
    refine lv_tableIn (off := 78) (tgt := 84) hx hb dX12_count_6 (by rw [qc14]; decide) (by rw [qc14]; decide) (by rw [qc14]; rfl) (by decide) ?_
    refine lv_aload_n hx hb dX12_count_84 rfl (lv_at hl 0 rfl) ?_
    obtain ⟨zt15, qzt15, hf⟩ := gb_el hf
    refine gx_getR X hw qzt15 clX12 (by decide) mf_X12_83 dX12_count_85 ?_
    refine lv_iconst (v := 0) hx hb dX12_count_88 (by decide) ?_
    obtain ⟨zt16, qzt16, hf⟩ := gb_el hf
    refine gx_iald X hw qzt16 dX12_count_89 ?_
    refine W.eq (g2 := F0 m 90 ls [.int zt16]) rfl ?_
    exact gx_iret X hr hlk hw hf dX12_count_90
  have hf := gif_f hf qc14
  by_cases qc17 : (za1 : Int32) = 5
  · have hf := gif_t hf qc17
    refine lv_tableIn (off := 85) (tgt := 91) hx hb dX12_count_6 (by rw [qc17]; decide) (by rw [qc17]; decide) (by rw [qc17]; rfl) (by decide) ?_
    refine lv_aload_n hx hb dX12_count_91 rfl (lv_at hl 0 rfl) ?_
    obtain ⟨qizh18, hf⟩ := gg_el hf
    obtain ⟨zt19, zh18, qzh18, hf⟩ := gc_el hf
    refine gx_ki (gx_runV (As := []) (rest := []) X hw (c_X12_sights l E N za0 zh1 qzh18) kX12_sights mm_X12_350 qizh18 clX12 ⟨Nat.le_of_ble_eq_true rfl, Nat.le_of_ble_eq_true rfl⟩ rfl rfl rfl hl.1 (Nat.le_of_ble_eq_true rfl) rfl dX12_count_92 ⟨Nat.le_of_ble_eq_true rfl, Nat.le_of_ble_eq_true rfl⟩) hw (fun H locs hw => ?_)
    exact gx_iret X hr hlk hw hf dX12_count_95
  have hf := gif_f hf qc17
  by_cases qc20 : (za1 : Int32) = 6
  · have hf := gif_t hf qc20
    refine lv_tableIn (off := 90) (tgt := 96) hx hb dX12_count_6 (by rw [qc20]; decide) (by rw [qc20]; decide) (by rw [qc20]; rfl) (by decide) ?_
    refine lv_aload_n hx hb dX12_count_96 rfl (lv_at hl 0 rfl) ?_
    obtain ⟨qizh21, hf⟩ := gg_el hf
    obtain ⟨zt22, zh21, qzh21, hf⟩ := gc_el hf
    refine gx_ki (gx_runV (As := []) (rest := []) X hw (c_X12_pages l E N za0 zh1 qzh21) kX12_pages mm_X12_375 qizh21 clX12 ⟨Nat.le_of_ble_eq_true rfl, Nat.le_of_ble_eq_true rfl⟩ rfl rfl rfl hl.1 (Nat.le_of_ble_eq_true rfl) rfl dX12_count_97 ⟨Nat.le_of_ble_eq_true rfl, Nat.le_of_ble_eq_true rfl⟩) hw (fun H locs hw => ?_)
    exact gx_iret X hr hlk hw hf dX12_count_100
  have hf := gif_f hf qc20
  by_cases qc23 : (za1 : Int32) = 7
  · have hf := gif_t hf qc23
    refine lv_tableIn (off := 95) (tgt := 101) hx hb dX12_count_6 (by rw [qc23]; decide) (by rw [qc23]; decide) (by rw [qc23]; rfl) (by decide) ?_
    refine lv_aload_n hx hb dX12_count_101 rfl (lv_at hl 0 rfl) ?_
    obtain ⟨qizh24, hf⟩ := gg_el hf
    obtain ⟨zt25, zh24, qzh24, hf⟩ := gc_el hf
    refine gx_ki (gx_runV (As := []) (rest := []) X hw (c_X12_jobs l E N za0 zh1 qzh24) kX12_jobs mm_X12_382 qizh24 clX12 ⟨Nat.le_of_ble_eq_true rfl, Nat.le_of_ble_eq_true rfl⟩ rfl rfl rfl hl.1 (Nat.le_of_ble_eq_true rfl) rfl dX12_count_102 ⟨Nat.le_of_ble_eq_true rfl, Nat.le_of_ble_eq_true rfl⟩) hw (fun H locs hw => ?_)
    exact gx_iret X hr hlk hw hf dX12_count_105
  have hf := gif_f hf qc23
  by_cases qc26 : (za1 : Int32) = 8
  · have hf := gif_t hf qc26
    refine lv_tableIn (off := 100) (tgt := 106) hx hb dX12_count_6 (by rw [qc26]; decide) (by rw [qc26]; decide) (by rw [qc26]; rfl) (by decide) ?_
    refine lv_aload_n hx hb dX12_count_106 rfl (lv_at hl 0 rfl) ?_
    obtain ⟨qizh27, hf⟩ := gg_el hf
    obtain ⟨zt28, zh27, qzh27, hf⟩ := gc_el hf
    refine gx_ki (gx_runV (As := []) (rest := []) X hw (c_X12_booked l E N za0 zh1 qzh27) kX12_booked mm_X12_331 qizh27 clX12 ⟨Nat.le_of_ble_eq_true rfl, Nat.le_of_ble_eq_true rfl⟩ rfl rfl rfl hl.1 (Nat.le_of_ble_eq_true rfl) rfl dX12_count_107 ⟨Nat.le_of_ble_eq_true rfl, Nat.le_of_ble_eq_true rfl⟩) hw (fun H locs hw => ?_)
    exact gx_iret X hr hlk hw hf dX12_count_110
  have hf := gif_f hf qc26
  by_cases qc29 : (za1 : Int32) = 9
  · have hf := gif_t hf qc29
    refine lv_tableIn (off := 105) (tgt := 111) hx hb dX12_count_6 (by rw [qc29]; decide) (by rw [qc29]; decide) (by rw [qc29]; rfl) (by decide) ?_
    refine lv_aload_n hx hb dX12_count_111 rfl (lv_at hl 0 rfl) ?_
    obtain ⟨qizh30, hf⟩ := gg_el hf
    obtain ⟨zt31, zh30, qzh30, hf⟩ := gc_el hf
    refine gx_ki (gx_runV (As := []) (rest := []) X hw (c_X12_events l E N za0 zh1 qzh30) kX12_events mm_X12_284 qizh30 clX12 ⟨Nat.le_of_ble_eq_true rfl, Nat.le_of_ble_eq_true rfl⟩ rfl rfl rfl hl.1 (Nat.le_of_ble_eq_true rfl) rfl dX12_count_112 ⟨Nat.le_of_ble_eq_true rfl, Nat.le_of_ble_eq_true rfl⟩) hw (fun H locs hw => ?_)
    exact gx_iret X hr hlk hw hf dX12_count_115
  have hf := gif_f hf qc29
  by_cases qc32 : (za1 : Int32) = 10
  · have hf := gif_t hf qc32
    refine lv_tableIn (off := 110) (tgt := 116) hx hb dX12_count_6 (by rw [qc32]; decide) (by rw [qc32]; decide) (by rw [qc32]; rfl) (by decide) ?_
    refine lv_aload_n hx hb dX12_count_116 rfl (lv_at hl 0 rfl) ?_
    obtain ⟨zt33, qzt33, hf⟩ := gb_el hf
    refine gx_getI X hw qzt33 clX12 (by decide) mf_X12_11 dX12_count_117 ?_
    exact gx_iret X hr hlk hw hf dX12_count_120
  have hf := gif_f hf qc32
  have nqc2 := lv_neT (a := 0) qc2 (by decide)
  have nqc5 := lv_neT (a := 1) qc5 (by decide)
  have nqc8 := lv_neT (a := 2) qc8 (by decide)
  have nqc11 := lv_neT (a := 3) qc11 (by decide)
  have nqc14 := lv_neT (a := 4) qc14 (by decide)
  have nqc17 := lv_neT (a := 5) qc17 (by decide)
  have nqc20 := lv_neT (a := 6) qc20 (by decide)
  have nqc23 := lv_neT (a := 7) qc23 (by decide)
  have nqc26 := lv_neT (a := 8) qc26 (by decide)
  have nqc29 := lv_neT (a := 9) qc29 (by decide)
  have nqc32 := lv_neT (a := 10) qc32 (by decide)
  refine lv_tableOut (tgt := 121) hx hb dX12_count_6 (by omega) (by decide) ?_
  refine lv_iconst (v := (-1)) hx hb dX12_count_121 (by decide) ?_
  exact gx_iret X hr hlk hw hf dX12_count_122
