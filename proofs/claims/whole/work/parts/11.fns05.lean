def f_X12_tried_61 (N : Nat) (zs0 : Int32) (zh : PH) : Option (Int32 × PH) :=
  some (zs0, zh)
def f_X12_tried_27 (N : Nat) (zh : PH) : Option (Int32 × PH) :=
  some ((-1), zh)
def f_X12_tried_18 (N : Nat) (zv0 : Nat) (zv1 : Int32) (zv2 : Int32) (zh : PH) : Option (Int32 × PH) :=
  gc (f_X12_within N zv2 0 2 zh) fun zt2 zh1 =>
  if (zt2 : Int32) = 0 then (
  f_X12_tried_27 N  zh1)
  else (
  gg (gIs 12 zv0 zh1) <|
  gb (f_X12_findTried N zv0 zv1 zh1) fun zh4 =>
  if (zv2 : Int32) = 0 then (
  gb (gfI 12 44 zv0 zh4) fun zt9 =>
  f_X12_tried_61 N zt9 zh4)
  else (
  if (zv2 : Int32) = 1 then (
  gb (gfI 12 45 zv0 zh4) fun zt8 =>
  f_X12_tried_61 N zt8 zh4)
  else (
  gb (gfI 12 46 zv0 zh4) fun zt7 =>
  f_X12_tried_61 N zt7 zh4)))
def f_X12_tried (N : Nat) (za0 : Nat) (za1 : Int32) (za2 : Int32) (zh : PH) : Option (Int32 × PH) :=
  gb (pfV 12 0 za0 (.int 0) zh) fun zh1 =>
  if (za1 : Int32) = (-1) then (
  f_X12_tried_18 N za0 za1 za2 zh1)
  else (
  gg (gIs 12 za0 zh1) <|
  gc (f_X12_isRule N za0 za1 zh1) fun zt4 zh3 =>
  if (zt4 : Int32) = 0 then (
  f_X12_tried_27 N  zh3)
  else (
  f_X12_tried_18 N za0 za1 za2 zh3))
def f_X12_best_70 (N : Nat) (zk14 : (Nat × Int32 × Int32 × Int32 × Int32 × PH) → Option (Int32 × PH)) (zv0 : Nat) (zv1 : Int32) (zv2 : Int32) (zv3 : Int32) (zv4 : Int32) (zh : PH) : Option (Int32 × PH) :=
  gl (zv4 + 1) fun (zx1 : Int32) =>
  zk14 (zv0, zv1, zv2, zv3, zx1, zh)
def f_X12_best_57 (N : Nat) (zk14 : (Nat × Int32 × Int32 × Int32 × Int32 × PH) → Option (Int32 × PH)) (zv0 : Nat) (zv4 : Int32) (zh : PH) : Option (Int32 × PH) :=
  gb (gfI 12 44 zv0 zh) fun zt1 =>
  gb (gfI 12 45 zv0 zh) fun zt2 =>
  f_X12_best_70 N zk14 zv0 zv4 zt1 zt2 zv4 zh
def f_X12_best_14 (N : Nat) (zk14 : (Nat × Int32 × Int32 × Int32 × Int32 × PH) → Option (Int32 × PH)) (zv0 : Nat) (zv1 : Int32) (zv2 : Int32) (zv3 : Int32) (zv4 : Int32) (zh : PH) : Option (Int32 × PH) :=
  gg (gIs 12 zv0 zh) <|
  gc (f_X12_rules N zv0 zh) fun zt2 zh1 =>
  if (zt2 : Int32) ≤ zv4 then (
  some (zv1, zh1))
  else (
  gg (gIs 12 zv0 zh1) <|
  gb (f_X12_findTried N zv0 zv4 zh1) fun zh4 =>
  if (zv1 : Int32) < 0 then (
  f_X12_best_57 N zk14 zv0 zv4 zh4)
  else (
  gb (gfI 12 44 zv0 zh4) fun zt6 =>
  if (zt6 : Int32) < zv2 then (
  f_X12_best_57 N zk14 zv0 zv4 zh4)
  else (
  gb (gfI 12 44 zv0 zh4) fun zt8 =>
  if (zt8 : Int32) = zv2 then (
  gb (gfI 12 45 zv0 zh4) fun zt10 =>
  if (zv3 : Int32) ≤ zt10 then (
  f_X12_best_70 N zk14 zv0 zv1 zv2 zv3 zv4 zh4)
  else (
  f_X12_best_57 N zk14 zv0 zv4 zh4))
  else (
  f_X12_best_70 N zk14 zv0 zv1 zv2 zv3 zv4 zh4))))
def f_X12_best (N : Nat) (za0 : Nat) (zh : PH) : Option (Int32 × PH) :=
  gb (pfV 12 0 za0 (.int 0) zh) fun zh1 =>
  gi (fun zk zs => f_X12_best_14 N zk zs.1 zs.2.1 zs.2.2.1 zs.2.2.2.1 zs.2.2.2.2.1 zs.2.2.2.2.2) N (za0, (-1), 0, 0, 0, zh1)
def f_X12_mark_82 (N : Nat) (zk40 : (Nat × Int32 × Int32 × Int32 × Int32 × PH) → Option (Int32 × PH)) (zv0 : Nat) (zv1 : Int32) (zv2 : Int32) (zv3 : Int32) (zv4 : Int32) (zs0 : Int32) (zs1 : Nat) (zs2 : Int32) (zs3 : Nat) (zh : PH) : Option (Int32 × PH) :=
  gb (arI 0 zs1 zs0 zh) fun zt1 =>
  gb (asI 0 zs3 zs2 zt1 zh) fun zh2 =>
  gl (zv4 + 1) fun (zx3 : Int32) =>
  zk40 (zv0, zv1, zv2, zv3, zx3, zh2)
def f_X12_mark_65 (N : Nat) (zk40 : (Nat × Int32 × Int32 × Int32 × Int32 × PH) → Option (Int32 × PH)) (zv0 : Nat) (zv1 : Int32) (zv2 : Int32) (zv3 : Int32) (zv4 : Int32) (zs0 : Int32) (zs1 : Nat) (zh : PH) : Option (Int32 × PH) :=
  gb (gfR 12 17 zv0 zh) fun zt1 =>
  if (zv2 : Int32) = 0 then (
  f_X12_mark_82 N zk40 zv0 zv1 zv2 zv3 zv4 zv4 zt1 zs0 zs1 zh)
  else (
  f_X12_mark_82 N zk40 zv0 zv1 zv2 zv3 zv4 (zv3 + zv4) zt1 zs0 zs1 zh)
def f_X12_mark_40 (N : Nat) (zk40 : (Nat × Int32 × Int32 × Int32 × Int32 × PH) → Option (Int32 × PH)) (zv0 : Nat) (zv1 : Int32) (zv2 : Int32) (zv3 : Int32) (zv4 : Int32) (zh : PH) : Option (Int32 × PH) :=
  if (520 : Int32) ≤ zv4 then (
  gb (gfR 12 47 zv0 zh) fun zt2 =>
  gb (asI 3 zt2 zv1 1 zh) fun zh3 =>
  gb (pfV 12 18 zv0 (.int 1) zh3) fun zh4 =>
  gg (gzb 1) (some (1, zh4)))
  else (
  gb (gfR 12 17 zv0 zh) fun zt5 =>
  if (zv2 : Int32) = 0 then (
  f_X12_mark_65 N zk40 zv0 zv1 zv2 zv3 zv4 (zv3 + zv4) zt5 zh)
  else (
  f_X12_mark_65 N zk40 zv0 zv1 zv2 zv3 zv4 zv4 zt5 zh))
def f_X12_mark_29 (N : Nat) (zv0 : Nat) (zv1 : Int32) (zv2 : Int32) (zh : PH) : Option (Int32 × PH) :=
  gl ((520 * (zv1 + 1))) fun (zx1 : Int32) =>
  gi (fun zk zs => f_X12_mark_40 N zk zs.1 zs.2.1 zs.2.2.1 zs.2.2.2.1 zs.2.2.2.2.1 zs.2.2.2.2.2) N (zv0, zv1, zv2, zx1, 0, zh)
def f_X12_mark_27 (N : Nat) (zh : PH) : Option (Int32 × PH) :=
  gg (gzb 0) (some (0, zh))
def f_X12_mark (N : Nat) (za0 : Nat) (za1 : Int32) (za2 : Int32) (zh : PH) : Option (Int32 × PH) :=
  gb (pfV 12 0 za0 (.int 0) zh) fun zh1 =>
  gc (f_X12_within N za1 0 3 zh1) fun zt3 zh2 =>
  if (zt3 : Int32) = 0 then (
  f_X12_mark_27 N  zh2)
  else (
  if (za2 : Int32) = 0 then (
  f_X12_mark_29 N za0 za1 za2 zh2)
  else (
  gb (gfR 12 47 za0 zh2) fun zt6 =>
  gb (arI 3 zt6 za1 zh2) fun zt7 =>
  if (zt7 : Int32) = 0 then (
  f_X12_mark_27 N  zh2)
  else (
  f_X12_mark_29 N za0 za1 za2 zh2)))
def f_X12_count (N : Nat) (za0 : Nat) (za1 : Int32) (zh : PH) : Option (Int32 × PH) :=
  gb (pfV 12 0 za0 (.int 0) zh) fun zh1 =>
  if (za1 : Int32) = 0 then (
  gg (gIs 12 za0 zh1) <|
  gc (f_X12_rooms N za0 zh1) fun zt4 zh3 =>
  some (zt4, zh3))
  else (
  if (za1 : Int32) = 1 then (
  gg (gIs 12 za0 zh1) <|
  gc (f_X12_guests N za0 zh1) fun zt7 zh6 =>
  some (zt7, zh6))
  else (
  if (za1 : Int32) = 2 then (
  gg (gIs 12 za0 zh1) <|
  gc (f_X12_rules N za0 zh1) fun zt10 zh9 =>
  some (zt10, zh9))
  else (
  if (za1 : Int32) = 3 then (
  gg (gIs 12 za0 zh1) <|
  gc (f_X12_insideMany N za0 zh1) fun zt13 zh12 =>
  some (zt13, zh12))
  else (
  if (za1 : Int32) = 4 then (
  gb (gfR 12 17 za0 zh1) fun zt15 =>
  gb (arI 0 zt15 0 zh1) fun zt16 =>
  some (zt16, zh1))
  else (
  if (za1 : Int32) = 5 then (
  gg (gIs 12 za0 zh1) <|
  gc (f_X12_sights N za0 zh1) fun zt19 zh18 =>
  some (zt19, zh18))
  else (
  if (za1 : Int32) = 6 then (
  gg (gIs 12 za0 zh1) <|
  gc (f_X12_pages N za0 zh1) fun zt22 zh21 =>
  some (zt22, zh21))
  else (
  if (za1 : Int32) = 7 then (
  gg (gIs 12 za0 zh1) <|
  gc (f_X12_jobs N za0 zh1) fun zt25 zh24 =>
  some (zt25, zh24))
  else (
  if (za1 : Int32) = 8 then (
  gg (gIs 12 za0 zh1) <|
  gc (f_X12_booked N za0 zh1) fun zt28 zh27 =>
  some (zt28, zh27))
  else (
  if (za1 : Int32) = 9 then (
  gg (gIs 12 za0 zh1) <|
  gc (f_X12_events N za0 zh1) fun zt31 zh30 =>
  some (zt31, zh30))
  else (
  if (za1 : Int32) = 10 then (
  gb (gfI 12 2 za0 zh1) fun zt33 =>
  some (zt33, zh1))
  else (
  some ((-1), zh1))))))))))))
