def f_X4_add (N : Nat) (za0 : Nat) (za1 : Int32) (za2 : Int32) (za3 : Int32) (zh : PH) : Option (Int32 × PH) :=
  gb (gfI 4 3 za0 zh) fun zt1 =>
  if (zt1 : Int32) < 7 then (
  gb (gfR 4 0 za0 zh) fun zt3 =>
  gb (gfI 4 3 za0 zh) fun zt4 =>
  gb (asI 0 zt3 zt4 za1 zh) fun zh5 =>
  gb (gfR 4 1 za0 zh5) fun zt6 =>
  gb (gfI 4 3 za0 zh5) fun zt7 =>
  gb (asI 0 zt6 zt7 za2 zh5) fun zh8 =>
  gb (gfR 4 2 za0 zh8) fun zt9 =>
  gb (gfI 4 3 za0 zh8) fun zt10 =>
  gb (asI 0 zt9 zt10 za3 zh8) fun zh11 =>
  gb (gfI 4 3 za0 zh11) fun zt12 =>
  gb (pfV 4 3 za0 (.int (zt12 + 1)) zh11) fun zh13 =>
  gg (gzb 1) (some (1, zh13)))
  else (
  gg (gzb 0) (some (0, zh)))
def f_X4_doneAsTold_6 (N : Nat) (zk6 : (Nat × Int32 × Int32 × Int32 × PH) → Option (Int32 × PH)) (zv0 : Nat) (zv1 : Int32) (zv2 : Int32) (zv3 : Int32) (zh : PH) : Option (Int32 × PH) :=
  gb (gfI 4 3 zv0 zh) fun zt1 =>
  if (zt1 : Int32) ≤ zv3 then (
  some (zv1, zh))
  else (
  gb (gfR 4 0 zv0 zh) fun zt3 =>
  gb (arI 0 zt3 zv3 zh) fun zt4 =>
  gb (gfR 4 1 zv0 zh) fun zt5 =>
  gb (arI 0 zt5 zv3 zh) fun zt6 =>
  gl (((gmax zv2 zt4) + zt6)) fun (zx7 : Int32) =>
  gb (gfR 4 2 zv0 zh) fun zt8 =>
  gb (arI 0 zt8 zv3 zh) fun zt9 =>
  gl ((gmax zv1 (zx7 + zt9))) fun (zx10 : Int32) =>
  gl (zv3 + 1) fun (zx11 : Int32) =>
  zk6 (zv0, zx10, zx7, zx11, zh))
def f_X4_doneAsTold (N : Nat) (za0 : Nat) (zh : PH) : Option (Int32 × PH) :=
  gi (fun zk zs => f_X4_doneAsTold_6 N zk zs.1 zs.2.1 zs.2.2.1 zs.2.2.2.1 zs.2.2.2.2) N (za0, 0, 0, 0, zh)
def f_X5_init (N : Nat) (za0 : Nat) (zh : PH) : Option PH :=
  gc (nwA 0 7 zh) fun zr2 zh1 =>
  gb (pfV 5 0 za0 (.ref zr2) zh1) fun zh3 =>
  gc (nwA 0 7 zh3) fun zr5 zh4 =>
  gb (pfV 5 3 za0 (.ref zr5) zh4) fun zh6 =>
  gc (nwA 0 128 zh6) fun zr8 zh7 =>
  gb (pfV 5 4 za0 (.ref zr8) zh7) fun zh9 =>
  some zh9
def f_X5_latestStart (N : Nat) (za0 : Nat) (za1 : Int32) (za2 : Int32) (za3 : Int32) (zh : PH) : Option (Int32 × PH) :=
  gb (gfR 5 4 za0 zh) fun zt1 =>
  gb (arI 0 zt1 (za2 &&& ((1 <<< (za1 &&& 31)) ^^^ (-1))) zh) fun zt2 =>
  gb (gfR 5 2 za0 zh) fun zt3 =>
  gb (gfR 4 2 zt3 zh) fun zt4 =>
  gb (arI 0 zt4 za1 zh) fun zt5 =>
  gb (gfR 5 2 za0 zh) fun zt6 =>
  gb (gfR 4 1 zt6 zh) fun zt7 =>
  gb (arI 0 zt7 za1 zh) fun zt8 =>
  some (((gmin zt2 (za3 - zt5)) - zt8), zh)
def f_X5_canBeDoneBy_128 (N : Nat) (zs0 : Int32) (zh : PH) : Option (Int32 × PH) :=
  gg (gzb zs0) (some (zs0, zh))
def f_X5_canBeDoneBy_93 (N : Nat) (zk21 : (Nat × Int32 × Int32 × Int32 × PH) → Option (Int32 × PH)) (zk32 : (Nat × Int32 × Int32 × Int32 × Int32 × Int32 × PH) → Option (Int32 × PH)) (zv0 : Nat) (zv1 : Int32) (zv2 : Int32) (zv3 : Int32) (zv4 : Int32) (zv5 : Int32) (zh : PH) : Option (Int32 × PH) :=
  gl (zv5 + 1) fun (zx1 : Int32) =>
  zk32 (zv0, zv1, zv2, zv3, zv4, zx1, zh)
def f_X5_canBeDoneBy_91 (N : Nat) (zk21 : (Nat × Int32 × Int32 × Int32 × PH) → Option (Int32 × PH)) (zk32 : (Nat × Int32 × Int32 × Int32 × Int32 × Int32 × PH) → Option (Int32 × PH)) (zv0 : Nat) (zv1 : Int32) (zv2 : Int32) (zv3 : Int32) (zv5 : Int32) (zs0 : Int32) (zh : PH) : Option (Int32 × PH) :=
  f_X5_canBeDoneBy_93 N zk21 zk32 zv0 zv1 zv2 zv3 zs0 zv5 zh
def f_X5_canBeDoneBy_32 (N : Nat) (zk21 : (Nat × Int32 × Int32 × Int32 × PH) → Option (Int32 × PH)) (zk32 : (Nat × Int32 × Int32 × Int32 × Int32 × Int32 × PH) → Option (Int32 × PH)) (zv0 : Nat) (zv1 : Int32) (zv2 : Int32) (zv3 : Int32) (zv4 : Int32) (zv5 : Int32) (zh : PH) : Option (Int32 × PH) :=
  gb (gfR 5 2 zv0 zh) fun zt1 =>
  gb (gfI 4 3 zt1 zh) fun zt2 =>
  if (zt2 : Int32) ≤ zv5 then (
  gb (gfR 5 4 zv0 zh) fun zt4 =>
  gb (asI 0 zt4 zv3 zv4 zh) fun zh5 =>
  gl (zv3 + 1) fun (zx6 : Int32) =>
  zk21 (zv0, zv1, zv2, zx6, zh5))
  else (
  gc (f_X11_bitOf N zv3 zv5 zh) fun zt8 zh7 =>
  if (zt8 : Int32) = 1 then (
  gg (gIs 5 zv0 zh7) <|
  gc (f_X5_latestStart N zv0 zv5 zv3 zv1 zh7) fun zt11 zh10 =>
  gb (gfR 5 2 zv0 zh10) fun zt12 =>
  gb (gfR 4 0 zt12 zh10) fun zt13 =>
  gb (arI 0 zt13 zv5 zh10) fun zt14 =>
  if (zt11 : Int32) < zt14 then (
  f_X5_canBeDoneBy_91 N zk21 zk32 zv0 zv1 zv2 zv3 zv5 zv4 zh10)
  else (
  f_X5_canBeDoneBy_91 N zk21 zk32 zv0 zv1 zv2 zv3 zv5 (gmax zv4 zt11) zh10))
  else (
  f_X5_canBeDoneBy_93 N zk21 zk32 zv0 zv1 zv2 zv3 zv4 zv5 zh7))
def f_X5_canBeDoneBy_21 (N : Nat) (zk21 : (Nat × Int32 × Int32 × Int32 × PH) → Option (Int32 × PH)) (zv0 : Nat) (zv1 : Int32) (zv2 : Int32) (zv3 : Int32) (zh : PH) : Option (Int32 × PH) :=
  if (zv2 : Int32) < zv3 then (
  gb (gfR 5 4 zv0 zh) fun zt2 =>
  gb (arI 0 zt2 zv2 zh) fun zt3 =>
  if (zt3 : Int32) = (-1) then (
  f_X5_canBeDoneBy_128 N 0 zh)
  else (
  f_X5_canBeDoneBy_128 N 1 zh))
  else (
  gi (fun zk zs => f_X5_canBeDoneBy_32 N zk21 zk zs.1 zs.2.1 zs.2.2.1 zs.2.2.2.1 zs.2.2.2.2.1 zs.2.2.2.2.2.1 zs.2.2.2.2.2.2) N (zv0, zv1, zv2, zv3, (-1), 0, zh))
def f_X5_canBeDoneBy (N : Nat) (za0 : Nat) (za1 : Int32) (zh : PH) : Option (Int32 × PH) :=
  gb (gfR 5 4 za0 zh) fun zt1 =>
  gb (asI 0 zt1 0 za1 zh) fun zh2 =>
  gb (gfR 5 2 za0 zh2) fun zt3 =>
  gb (gfI 4 3 zt3 zh2) fun zt4 =>
  gl (((1 <<< (zt4 &&& 31)) - 1)) fun (zx5 : Int32) =>
  gi (fun zk zs => f_X5_canBeDoneBy_21 N zk zs.1 zs.2.1 zs.2.2.1 zs.2.2.2.1 zs.2.2.2.2) N (za0, za1, zx5, 1, zh2)
def f_X5_firstInTime_50 (N : Nat) (zk2 : (Nat × Int32 × Int32 × Int32 × PH) → Option (Int32 × PH)) (zv0 : Nat) (zv1 : Int32) (zv2 : Int32) (zv3 : Int32) (zh : PH) : Option (Int32 × PH) :=
  gl (zv3 + 1) fun (zx1 : Int32) =>
  zk2 (zv0, zv1, zv2, zx1, zh)
def f_X5_firstInTime_2 (N : Nat) (zk2 : (Nat × Int32 × Int32 × Int32 × PH) → Option (Int32 × PH)) (zv0 : Nat) (zv1 : Int32) (zv2 : Int32) (zv3 : Int32) (zh : PH) : Option (Int32 × PH) :=
  gb (gfR 5 2 zv0 zh) fun zt1 =>
  gb (gfI 4 3 zt1 zh) fun zt2 =>
  if (zt2 : Int32) ≤ zv3 then (
  some ((-1), zh))
  else (
  gc (f_X11_bitOf N zv1 zv3 zh) fun zt5 zh4 =>
  if (zt5 : Int32) = 1 then (
  gb (gfR 5 2 zv0 zh4) fun zt7 =>
  gb (gfR 4 0 zt7 zh4) fun zt8 =>
  gb (arI 0 zt8 zv3 zh4) fun zt9 =>
  gb (gfI 5 1 zv0 zh4) fun zt10 =>
  gg (gIs 5 zv0 zh4) <|
  gc (f_X5_latestStart N zv0 zv3 zv1 zt10 zh4) fun zt12 zh11 =>
  if (zt12 : Int32) < (gmax zv2 zt9) then (
  f_X5_firstInTime_50 N zk2 zv0 zv1 zv2 zv3 zh11)
  else (
  some (zv3, zh11)))
  else (
  f_X5_firstInTime_50 N zk2 zv0 zv1 zv2 zv3 zh4))
def f_X5_firstInTime (N : Nat) (za0 : Nat) (za1 : Int32) (za2 : Int32) (zh : PH) : Option (Int32 × PH) :=
  gi (fun zk zs => f_X5_firstInTime_2 N zk zs.1 zs.2.1 zs.2.2.1 zs.2.2.2.1 zs.2.2.2.2) N (za0, za1, za2, 0, zh)
def f_X5_takeFirstOrder_16 (N : Nat) (zk16 : (Nat × Int32 × Int32 × Int32 × PH) → Option PH) (zv0 : Nat) (zv1 : Int32) (zv2 : Int32) (zv3 : Int32) (zh : PH) : Option PH :=
  gb (gfR 5 2 zv0 zh) fun zt1 =>
  gb (gfI 4 3 zt1 zh) fun zt2 =>
  if (zt2 : Int32) ≤ zv3 then (
  some zh)
  else (
  gg (gIs 5 zv0 zh) <|
  gc (f_X5_firstInTime N zv0 zv1 zv2 zh) fun zt5 zh4 =>
  if (zt5 : Int32) = (-1) then (
  some zh4)
  else (
  gb (gfR 5 0 zv0 zh4) fun zt7 =>
  gb (asI 0 zt7 zv3 zt5 zh4) fun zh8 =>
  gb (gfR 5 3 zv0 zh8) fun zt9 =>
  gb (gfR 5 2 zv0 zh8) fun zt10 =>
  gb (gfR 4 0 zt10 zh8) fun zt11 =>
  gb (arI 0 zt11 zt5 zh8) fun zt12 =>
  gb (asI 0 zt9 zt5 (gmax zv2 zt12) zh8) fun zh13 =>
  gb (gfR 5 3 zv0 zh13) fun zt14 =>
  gb (arI 0 zt14 zt5 zh13) fun zt15 =>
  gb (gfR 5 2 zv0 zh13) fun zt16 =>
  gb (gfR 4 1 zt16 zh13) fun zt17 =>
  gb (arI 0 zt17 zt5 zh13) fun zt18 =>
  gl ((zt15 + zt18)) fun (zx19 : Int32) =>
  gl ((zv1 &&& ((1 <<< (zt5 &&& 31)) ^^^ (-1)))) fun (zx20 : Int32) =>
  gl (zv3 + 1) fun (zx21 : Int32) =>
  zk16 (zv0, zx20, zx19, zx21, zh13)))
def f_X5_takeFirstOrder (N : Nat) (za0 : Nat) (zh : PH) : Option PH :=
  gb (gfR 5 2 za0 zh) fun zt1 =>
  gb (gfI 4 3 zt1 zh) fun zt2 =>
  gl (((1 <<< (zt2 &&& 31)) - 1)) fun (zx3 : Int32) =>
  gi (fun zk zs => f_X5_takeFirstOrder_16 N zk zs.1 zs.2.1 zs.2.2.1 zs.2.2.2.1 zs.2.2.2.2) N (za0, zx3, 0, 0, zh)
def f_X5_make_63 (N : Nat) (zv0 : Nat) (zv3 : Int32) (zh : PH) : Option PH :=
  gb (pfV 5 1 zv0 (.int zv3) zh) fun zh1 =>
  gb (gfI 5 1 zv0 zh1) fun zt2 =>
  gg (gIs 5 zv0 zh1) <|
  gc (f_X5_canBeDoneBy N zv0 zt2 zh1) fun zt4 zh3 =>
  gg (gIs 5 zv0 zh3) <|
  gb (f_X5_takeFirstOrder N zv0 zh3) fun zh5 =>
  some zh5
def f_X5_make_57 (N : Nat) (zk18 : (Nat × Int32 × Int32 × Int32 × PH) → Option PH) (zv0 : Nat) (zv2 : Int32) (zv3 : Int32) (zv4 : Int32) (zh : PH) : Option PH :=
  gl (zv4 + 1) fun (zx1 : Int32) =>
  zk18 (zv0, zv2, zv3, zx1, zh)
def f_X5_make_18 (N : Nat) (zk18 : (Nat × Int32 × Int32 × Int32 × PH) → Option PH) (zv0 : Nat) (zv2 : Int32) (zv3 : Int32) (zv4 : Int32) (zh : PH) : Option PH :=
  if (32 : Int32) ≤ zv4 then (
  f_X5_make_63 N zv0 zv3 zh)
  else (
  if (zv3 : Int32) ≤ zv2 then (
  f_X5_make_63 N zv0 zv3 zh)
  else (
  gl (((zv2 + zv3) / 2)) fun (zx3 : Int32) =>
  gg (gIs 5 zv0 zh) <|
  gc (f_X5_canBeDoneBy N zv0 zx3 zh) fun zt5 zh4 =>
  if (zt5 : Int32) = 0 then (
  gl ((zx3 + 1)) fun (zx7 : Int32) =>
  f_X5_make_57 N zk18 zv0 zx7 zv3 zv4 zh4)
  else (
  f_X5_make_57 N zk18 zv0 zv2 zx3 zv4 zh4)))
def f_X5_make (N : Nat) (za0 : Nat) (za1 : Nat) (zh : PH) : Option PH :=
  gb (pfV 5 2 za0 (.ref za1) zh) fun zh1 =>
  gb (gfR 5 2 za0 zh1) fun zt2 =>
  gg (gIs 4 zt2 zh1) <|
  gc (f_X4_doneAsTold N zt2 zh1) fun zt4 zh3 =>
  gi (fun zk zs => f_X5_make_18 N zk zs.1 zs.2.1 zs.2.2.1 zs.2.2.2.1 zs.2.2.2.2) N (za0, 0, zt4, 0, zh3)
def f_X5_waits_4 (N : Nat) (zk4 : (Nat × Int32 × Int32 × PH) → Option (Int32 × PH)) (zv0 : Nat) (zv1 : Int32) (zv2 : Int32) (zh : PH) : Option (Int32 × PH) :=
  gb (gfR 5 2 zv0 zh) fun zt1 =>
  gb (gfI 4 3 zt1 zh) fun zt2 =>
  if (zt2 : Int32) ≤ zv2 then (
  some (zv1, zh))
  else (
  gb (gfR 5 3 zv0 zh) fun zt4 =>
  gb (arI 0 zt4 zv2 zh) fun zt5 =>
  gb (gfR 5 2 zv0 zh) fun zt6 =>
  gb (gfR 4 0 zt6 zh) fun zt7 =>
  gb (arI 0 zt7 zv2 zh) fun zt8 =>
  gl ((zv1 + (zt5 - zt8))) fun (zx9 : Int32) =>
  gl (zv2 + 1) fun (zx10 : Int32) =>
  zk4 (zv0, zx9, zx10, zh))
def f_X5_waits (N : Nat) (za0 : Nat) (zh : PH) : Option (Int32 × PH) :=
  gi (fun zk zs => f_X5_waits_4 N zk zs.1 zs.2.1 zs.2.2.1 zs.2.2.2) N (za0, 0, 0, zh)
def f_X5_isAtWork_57 (N : Nat) (zs0 : Int32) (zh : PH) : Option (Int32 × PH) :=
  gg (gzb zs0) (some (zs0, zh))
def f_X5_isAtWork_56 (N : Nat) (zh : PH) : Option (Int32 × PH) :=
  f_X5_isAtWork_57 N 0 zh
def f_X5_isAtWork (N : Nat) (za0 : Nat) (za1 : Int32) (za2 : Int32) (zh : PH) : Option (Int32 × PH) :=
  gb (gfR 5 3 za0 zh) fun zt1 =>
  gb (arI 0 zt1 za1 zh) fun zt2 =>
  gb (gfR 5 2 za0 zh) fun zt3 =>
  gb (gfR 4 1 zt3 zh) fun zt4 =>
  gb (arI 0 zt4 za1 zh) fun zt5 =>
  gb (gfR 5 2 za0 zh) fun zt6 =>
  gb (gfR 4 2 zt6 zh) fun zt7 =>
  gb (arI 0 zt7 za1 zh) fun zt8 =>
  gl (((zt2 + zt5) + zt8)) fun (zx9 : Int32) =>
  gb (gfR 5 3 za0 zh) fun zt10 =>
  gb (arI 0 zt10 za1 zh) fun zt11 =>
  gb (gfR 5 2 za0 zh) fun zt12 =>
  gb (gfR 4 0 zt12 zh) fun zt13 =>
  gb (arI 0 zt13 za1 zh) fun zt14 =>
  if (za2 : Int32) < (zt11 - zt14) then (
  f_X5_isAtWork_56 N  zh)
  else (
  if (zx9 : Int32) ≤ za2 then (
  f_X5_isAtWork_56 N  zh)
  else (
  f_X5_isAtWork_57 N 1 zh))
def f_X5_portersNeeded_63 (N : Nat) (zk4 : (Nat × Int32 × Int32 × PH) → Option (Int32 × PH)) (zk20 : (Nat × Int32 × Int32 × Int32 × Int32 × PH) → Option (Int32 × PH)) (zv0 : Nat) (zv1 : Int32) (zv2 : Int32) (zv4 : Int32) (zs0 : Int32) (zs1 : Int32) (zh : PH) : Option (Int32 × PH) :=
  gl ((zs1 + zs0)) fun (zx1 : Int32) =>
  gl (zv4 + 1) fun (zx2 : Int32) =>
  zk20 (zv0, zv1, zv2, zx1, zx2, zh)
def f_X5_portersNeeded_20 (N : Nat) (zk4 : (Nat × Int32 × Int32 × PH) → Option (Int32 × PH)) (zk20 : (Nat × Int32 × Int32 × Int32 × Int32 × PH) → Option (Int32 × PH)) (zv0 : Nat) (zv1 : Int32) (zv2 : Int32) (zv3 : Int32) (zv4 : Int32) (zh : PH) : Option (Int32 × PH) :=
  gb (gfR 5 2 zv0 zh) fun zt1 =>
  gb (gfI 4 3 zt1 zh) fun zt2 =>
  if (zt2 : Int32) ≤ zv4 then (
  gl ((gmax zv1 zv3)) fun (zx4 : Int32) =>
  gl (zv2 + 1) fun (zx5 : Int32) =>
  zk4 (zv0, zx4, zx5, zh))
  else (
  gb (gfR 5 3 zv0 zh) fun zt6 =>
  gb (arI 0 zt6 zv2 zh) fun zt7 =>
  gb (gfR 5 2 zv0 zh) fun zt8 =>
  gb (gfR 4 0 zt8 zh) fun zt9 =>
  gb (arI 0 zt9 zv2 zh) fun zt10 =>
  gg (gIs 5 zv0 zh) <|
  gc (f_X5_isAtWork N zv0 zv4 (zt7 - zt10) zh) fun zt12 zh11 =>
  if (zt12 : Int32) = 0 then (
  f_X5_portersNeeded_63 N zk4 zk20 zv0 zv1 zv2 zv4 0 zv3 zh11)
  else (
  f_X5_portersNeeded_63 N zk4 zk20 zv0 zv1 zv2 zv4 1 zv3 zh11))
def f_X5_portersNeeded_4 (N : Nat) (zk4 : (Nat × Int32 × Int32 × PH) → Option (Int32 × PH)) (zv0 : Nat) (zv1 : Int32) (zv2 : Int32) (zh : PH) : Option (Int32 × PH) :=
  gb (gfR 5 2 zv0 zh) fun zt1 =>
  gb (gfI 4 3 zt1 zh) fun zt2 =>
  if (zt2 : Int32) ≤ zv2 then (
  some (zv1, zh))
  else (
  gi (fun zk zs => f_X5_portersNeeded_20 N zk4 zk zs.1 zs.2.1 zs.2.2.1 zs.2.2.2.1 zs.2.2.2.2.1 zs.2.2.2.2.2) N (zv0, zv1, zv2, 0, 0, zh))
def f_X5_portersNeeded (N : Nat) (za0 : Nat) (zh : PH) : Option (Int32 × PH) :=
  gi (fun zk zs => f_X5_portersNeeded_4 N zk zs.1 zs.2.1 zs.2.2.1 zs.2.2.2) N (za0, 0, 0, zh)
def f_X6_init (N : Nat) (za0 : Nat) (zh : PH) : Option PH :=
  gc (nwA 0 10 zh) fun zr2 zh1 =>
  gb (pfV 6 0 za0 (.ref zr2) zh1) fun zh3 =>
  gc (nwA 0 10 zh3) fun zr5 zh4 =>
  gb (pfV 6 1 za0 (.ref zr5) zh4) fun zh6 =>
  some zh6
def f_X6_pages_25 (N : Nat) (zk4 : (Nat × Int32 × Int32 × PH) → Option (Int32 × PH)) (zv0 : Nat) (zv2 : Int32) (zs0 : Int32) (zs1 : Int32) (zh : PH) : Option (Int32 × PH) :=
  gl ((zs1 + zs0)) fun (zx1 : Int32) =>
  gl (zv2 + 1) fun (zx2 : Int32) =>
  zk4 (zv0, zx1, zx2, zh)
def f_X6_pages_4 (N : Nat) (zk4 : (Nat × Int32 × Int32 × PH) → Option (Int32 × PH)) (zv0 : Nat) (zv1 : Int32) (zv2 : Int32) (zh : PH) : Option (Int32 × PH) :=
  if (10 : Int32) ≤ zv2 then (
  some (zv1, zh))
  else (
  gb (gfR 6 0 zv0 zh) fun zt2 =>
  gb (arI 0 zt2 zv2 zh) fun zt3 =>
  if (zt3 : Int32) = 0 then (
  f_X6_pages_25 N zk4 zv0 zv2 0 zv1 zh)
  else (
  f_X6_pages_25 N zk4 zv0 zv2 1 zv1 zh))
def f_X6_pages (N : Nat) (za0 : Nat) (zh : PH) : Option (Int32 × PH) :=
  gi (fun zk zs => f_X6_pages_4 N zk zs.1 zs.2.1 zs.2.2.1 zs.2.2.2) N (za0, 0, 0, zh)
def f_J6_bitCount_0f7a4 (N : Nat) (za0 : Int32) (zh : PH) : Option (Int32 × PH) :=
  gl ((za0 - (((Int32.toUInt32 za0 >>> (Int32.toUInt32 1 &&& Int32.toUInt32 31)).toInt32) &&& 1431655765))) fun (zx1 : Int32) =>
  gl (((zx1 &&& 858993459) + (((Int32.toUInt32 zx1 >>> (Int32.toUInt32 2 &&& Int32.toUInt32 31)).toInt32) &&& 858993459))) fun (zx2 : Int32) =>
  gl (((zx2 + ((Int32.toUInt32 zx2 >>> (Int32.toUInt32 4 &&& Int32.toUInt32 31)).toInt32)) &&& 252645135)) fun (zx3 : Int32) =>
  gl ((zx3 + ((Int32.toUInt32 zx3 >>> (Int32.toUInt32 8 &&& Int32.toUInt32 31)).toInt32))) fun (zx4 : Int32) =>
  gl ((zx4 + ((Int32.toUInt32 zx4 >>> (Int32.toUInt32 16 &&& Int32.toUInt32 31)).toInt32))) fun (zx5 : Int32) =>
  some ((zx5 &&& 63), zh)
def f_X6_placeNext_37 (N : Nat) (zk3 : (Nat × Int32 × Int32 × Int32 × Int32 × PH) → Option PH) (zv0 : Nat) (zv1 : Int32) (zv2 : Int32) (zv3 : Int32) (zv4 : Int32) (zh : PH) : Option PH :=
  gl (zv4 + 1) fun (zx1 : Int32) =>
  zk3 (zv0, zv1, zv2, zv3, zx1, zh)
def f_X6_placeNext_3 (N : Nat) (zk3 : (Nat × Int32 × Int32 × Int32 × Int32 × PH) → Option PH) (zv0 : Nat) (zv1 : Int32) (zv2 : Int32) (zv3 : Int32) (zv4 : Int32) (zh : PH) : Option PH :=
  if (zv3 : Int32) ≤ zv4 then (
  some zh)
  else (
  gc (f_X11_bitOf N (zv2 &&& (zv1 ^^^ (-1))) zv4 zh) fun zt3 zh2 =>
  if (zt3 : Int32) = 1 then (
  gb (arI 0 zv0 (zv1 ||| (1 <<< (zv4 &&& 31))) zh2) fun zt5 =>
  gb (arI 0 zv0 zv1 zh2) fun zt6 =>
  gb (asI 0 zv0 (zv1 ||| (1 <<< (zv4 &&& 31))) (zt5 + zt6) zh2) fun zh7 =>
  f_X6_placeNext_37 N zk3 zv0 zv1 zv2 zv3 zv4 zh7)
  else (
  f_X6_placeNext_37 N zk3 zv0 zv1 zv2 zv3 zv4 zh2))
def f_X6_placeNext (N : Nat) (za0 : Nat) (za1 : Int32) (za2 : Int32) (za3 : Int32) (zh : PH) : Option PH :=
  gi (fun zk zs => f_X6_placeNext_3 N zk zs.1 zs.2.1 zs.2.2.1 zs.2.2.2.1 zs.2.2.2.2.1 zs.2.2.2.2.2) N (za0, za1, za2, za3, 0, zh)
def f_X6_fillRow_107 (N : Nat) (zk64 : (Nat × Nat × Int32 × Int32 × Int32 × PH) → Option (Int32 × PH)) (zv0 : Nat) (zv1 : Nat) (zv2 : Int32) (zv4 : Int32) (zv5 : Int32) (zh : PH) : Option (Int32 × PH) :=
  gl (zv5 + 1) fun (zx1 : Int32) =>
  zk64 (zv0, zv1, zv2, zv4, zx1, zh)
def f_X6_fillRow_64 (N : Nat) (zk64 : (Nat × Nat × Int32 × Int32 × Int32 × PH) → Option (Int32 × PH)) (zv0 : Nat) (zv1 : Nat) (zv2 : Int32) (zv4 : Int32) (zv5 : Int32) (zh : PH) : Option (Int32 × PH) :=
  if ((1 <<< (zv2 &&& 31)) : Int32) ≤ zv5 then (
  some (zv4, zh))
  else (
  gc (f_J6_bitCount_0f7a4 N zv5 zh) fun zt3 zh2 =>
  gb (arI 0 zv1 zv5 zh2) fun zt4 =>
  if (zt4 : Int32) ≤ 0 then (
  f_X6_fillRow_107 N zk64 zv0 zv1 zv2 zv4 zv5 zh2)
  else (
  if (zv4 : Int32) ≤ zt3 then (
  f_X6_fillRow_107 N zk64 zv0 zv1 zv2 zv4 zv5 zh2)
  else (
  gb (gfR 6 1 zv0 zh2) fun zt7 =>
  gb (arI 0 zt7 zt3 zh2) fun zt8 =>
  gb (f_X6_placeNext N zv1 zv5 zt8 zv2 zh2) fun zh9 =>
  f_X6_fillRow_107 N zk64 zv0 zv1 zv2 zv4 zv5 zh9)))
def f_X6_fillRow_46 (N : Nat) (zk6 : (Nat × Nat × Int32 × Int32 × Int32 × Int32 × PH) → Option (Int32 × PH)) (zv0 : Nat) (zv1 : Nat) (zv2 : Int32) (zv3 : Int32) (zv4 : Int32) (zv5 : Int32) (zh : PH) : Option (Int32 × PH) :=
  gl (zv5 + 1) fun (zx1 : Int32) =>
  zk6 (zv0, zv1, zv2, zv3, zv4, zx1, zh)
def f_X6_fillRow_6 (N : Nat) (zk6 : (Nat × Nat × Int32 × Int32 × Int32 × Int32 × PH) → Option (Int32 × PH)) (zv0 : Nat) (zv1 : Nat) (zv2 : Int32) (zv3 : Int32) (zv4 : Int32) (zv5 : Int32) (zh : PH) : Option (Int32 × PH) :=
  if (10 : Int32) ≤ zv5 then (
  gb (f_J7_fill_53178 N zv1 0 zh) fun zh2 =>
  gb (asI 0 zv1 0 1 zh2) fun zh3 =>
  gi (fun zk zs => f_X6_fillRow_64 N zk zs.1 zs.2.1 zs.2.2.1 zs.2.2.2.1 zs.2.2.2.2.1 zs.2.2.2.2.2) N (zv0, zv1, zv2, zv4, 0, zh3))
  else (
  gb (gfR 6 0 zv0 zh) fun zt4 =>
  gb (arI 0 zt4 zv5 zh) fun zt5 =>
  if (zt5 : Int32) = 0 then (
  f_X6_fillRow_46 N zk6 zv0 zv1 zv2 zv3 zv4 zv5 zh)
  else (
  if (zv5 : Int32) = zv3 then (
  f_X6_fillRow_46 N zk6 zv0 zv1 zv2 zv3 zv4 zv5 zh)
  else (
  gb (gfR 6 1 zv0 zh) fun zt8 =>
  gb (gfR 6 0 zv0 zh) fun zt9 =>
  gb (arI 0 zt9 zv5 zh) fun zt10 =>
  gb (asI 0 zt8 zv4 zt10 zh) fun zh11 =>
  gl (zv4 + 1) fun (zx12 : Int32) =>
  f_X6_fillRow_46 N zk6 zv0 zv1 zv2 zv3 zx12 zv5 zh11)))
def f_X6_fillRow (N : Nat) (za0 : Nat) (za1 : Nat) (za2 : Int32) (za3 : Int32) (zh : PH) : Option (Int32 × PH) :=
  gi (fun zk zs => f_X6_fillRow_6 N zk zs.1 zs.2.1 zs.2.2.1 zs.2.2.2.1 zs.2.2.2.2.1 zs.2.2.2.2.2.1 zs.2.2.2.2.2.2) N (za0, za1, za2, za3, 0, 0, zh)
def f_X6_waysBeside_39 (N : Nat) (zk6 : (Int32 × Int32 × Nat × Int32 × Int32 × Int32 × PH) → Option (Int32 × PH)) (zv0 : Int32) (zv1 : Int32) (zv2 : Nat) (zv3 : Int32) (zv4 : Int32) (zv5 : Int32) (zh : PH) : Option (Int32 × PH) :=
  gl (zv5 + 1) fun (zx1 : Int32) =>
  zk6 (zv0, zv1, zv2, zv3, zv4, zx1, zh)
def f_X6_waysBeside_6 (N : Nat) (zk6 : (Int32 × Int32 × Nat × Int32 × Int32 × Int32 × PH) → Option (Int32 × PH)) (zv0 : Int32) (zv1 : Int32) (zv2 : Nat) (zv3 : Int32) (zv4 : Int32) (zv5 : Int32) (zh : PH) : Option (Int32 × PH) :=
  if ((1 <<< (zv3 &&& 31)) : Int32) ≤ zv5 then (
  some (zv4, zh))
  else (
  gc (f_J6_bitCount_0f7a4 N zv5 zh) fun zt3 zh2 =>
  if (zt3 : Int32) = zv1 then (
  if ((zv5 &&& zv0) : Int32) = 0 then (
  gb (arI 0 zv2 zv5 zh2) fun zt6 =>
  gl ((zv4 + zt6)) fun (zx7 : Int32) =>
  f_X6_waysBeside_39 N zk6 zv0 zv1 zv2 zv3 zx7 zv5 zh2)
  else (
  f_X6_waysBeside_39 N zk6 zv0 zv1 zv2 zv3 zv4 zv5 zh2))
  else (
  f_X6_waysBeside_39 N zk6 zv0 zv1 zv2 zv3 zv4 zv5 zh2))
def f_X6_waysBeside (N : Nat) (za0 : Int32) (za1 : Int32) (za2 : Nat) (za3 : Int32) (zh : PH) : Option (Int32 × PH) :=
  gi (fun zk zs => f_X6_waysBeside_6 N zk zs.1 zs.2.1 zs.2.2.1 zs.2.2.2.1 zs.2.2.2.2.1 zs.2.2.2.2.2.1 zs.2.2.2.2.2.2) N (za0, za1, za2, za3, 0, 0, zh)
def f_X6_waysInAll (N : Nat) (za0 : Nat) (za1 : Nat) (za2 : Int32) (zh : PH) : Option (Int32 × PH) :=
  gg (gIs 6 za0 zh) <|
  gc (f_X6_fillRow N za0 za1 za2 (-1) zh) fun zt2 zh1 =>
  gc (f_X6_waysBeside N 0 zt2 za1 za2 zh1) fun zt4 zh3 =>
  some (zt4, zh3)
def f_X6_onlyRoomOf_62 (N : Nat) (zk15 : (Nat × Int32 × Nat × Int32 × Int32 × Int32 × Int32 × PH) → Option (Int32 × PH)) (zv0 : Nat) (zv1 : Int32) (zv2 : Nat) (zv3 : Int32) (zv4 : Int32) (zv5 : Int32) (zv6 : Int32) (zh : PH) : Option (Int32 × PH) :=
  gl (zv6 + 1) fun (zx1 : Int32) =>
  zk15 (zv0, zv1, zv2, zv3, zv4, zv5, zx1, zh)
def f_X6_onlyRoomOf_15 (N : Nat) (zk15 : (Nat × Int32 × Nat × Int32 × Int32 × Int32 × Int32 × PH) → Option (Int32 × PH)) (zv0 : Nat) (zv1 : Int32) (zv2 : Nat) (zv3 : Int32) (zv4 : Int32) (zv5 : Int32) (zv6 : Int32) (zh : PH) : Option (Int32 × PH) :=
  if (zv3 : Int32) ≤ zv6 then (
  some (zv4, zh))
  else (
  gb (gfR 6 0 zv0 zh) fun zt2 =>
  gb (arI 0 zt2 zv1 zh) fun zt3 =>
  gc (f_X11_bitOf N zt3 zv6 zh) fun zt5 zh4 =>
  if (zt5 : Int32) = 1 then (
  gc (f_X6_waysBeside N (1 <<< (zv6 &&& 31)) zv5 zv2 zv3 zh4) fun zt8 zh7 =>
  if (zt8 : Int32) ≤ 0 then (
  f_X6_onlyRoomOf_62 N zk15 zv0 zv1 zv2 zv3 zv4 zv5 zv6 zh7)
  else (
  if (zv4 : Int32) = (-1) then (
  f_X6_onlyRoomOf_62 N zk15 zv0 zv1 zv2 zv3 zv6 zv5 zv6 zh7)
  else (
  some ((-1), zh7))))
  else (
  f_X6_onlyRoomOf_62 N zk15 zv0 zv1 zv2 zv3 zv4 zv5 zv6 zh4))
def f_X6_onlyRoomOf (N : Nat) (za0 : Nat) (za1 : Int32) (za2 : Nat) (za3 : Int32) (zh : PH) : Option (Int32 × PH) :=
  gg (gIs 6 za0 zh) <|
  gc (f_X6_fillRow N za0 za2 za3 za1 zh) fun zt2 zh1 =>
  gi (fun zk zs => f_X6_onlyRoomOf_15 N zk zs.1 zs.2.1 zs.2.2.1 zs.2.2.2.1 zs.2.2.2.2.1 zs.2.2.2.2.2.1 zs.2.2.2.2.2.2.1 zs.2.2.2.2.2.2.2) N (za0, za1, za2, za3, (-1), zt2, 0, zh1)
def f_X7_init (N : Nat) (za0 : Nat) (zh : PH) : Option PH :=
  gc (nwA 0 32 zh) fun zr2 zh1 =>
  gb (pfV 7 0 za0 (.ref zr2) zh1) fun zh3 =>
  gc (nwA 0 8 zh3) fun zr5 zh4 =>
  gb (pfV 7 2 za0 (.ref zr5) zh4) fun zh6 =>
  some zh6
def f_X8_init (N : Nat) (za0 : Nat) (zh : PH) : Option PH :=
  gc (nwA 0 20 zh) fun zr2 zh1 =>
  gb (pfV 8 0 za0 (.ref zr2) zh1) fun zh3 =>
  gc (nwA 0 20 zh3) fun zr5 zh4 =>
  gb (pfV 8 1 za0 (.ref zr5) zh4) fun zh6 =>
  gc (nwA 0 20 zh6) fun zr8 zh7 =>
  gb (pfV 8 2 za0 (.ref zr8) zh7) fun zh9 =>
  gc (nwA 0 20 zh9) fun zr11 zh10 =>
  gb (pfV 8 3 za0 (.ref zr11) zh10) fun zh12 =>
  gc (nwA 0 10 zh12) fun zr14 zh13 =>
  gb (pfV 8 4 za0 (.ref zr14) zh13) fun zh15 =>
  some zh15
def f_X8_copyFrom (N : Nat) (za0 : Nat) (za1 : Nat) (zh : PH) : Option PH :=
  gb (gfR 8 0 za1 zh) fun zt1 =>
  gb (gfR 8 0 za0 zh) fun zt2 =>
  gb (cpI 0 zt1 0 zt2 0 20 zh) fun zh3 =>
  gb (gfR 8 1 za1 zh3) fun zt4 =>
  gb (gfR 8 1 za0 zh3) fun zt5 =>
  gb (cpI 0 zt4 0 zt5 0 20 zh3) fun zh6 =>
  gb (gfR 8 2 za1 zh6) fun zt7 =>
  gb (gfR 8 2 za0 zh6) fun zt8 =>
  gb (cpI 0 zt7 0 zt8 0 20 zh6) fun zh9 =>
  gb (gfI 8 5 za1 zh9) fun zt10 =>
  gb (pfV 8 5 za0 (.int zt10) zh9) fun zh11 =>
  some zh11
def f_X8_add_89 (N : Nat) (zv0 : Nat) (zv1 : Int32) (zv2 : Int32) (zv3 : Int32) (zv4 : Int32) (zh : PH) : Option (Int32 × PH) :=
  gb (gfR 8 0 zv0 zh) fun zt1 =>
  gb (asI 0 zt1 zv4 zv1 zh) fun zh2 =>
  gb (gfR 8 1 zv0 zh2) fun zt3 =>
  gb (asI 0 zt3 zv4 zv2 zh2) fun zh4 =>
  gb (gfR 8 2 zv0 zh4) fun zt5 =>
  gb (asI 0 zt5 zv4 zv3 zh4) fun zh6 =>
  gb (gfI 8 5 zv0 zh6) fun zt7 =>
  gb (pfV 8 5 zv0 (.int (zt7 + 1)) zh6) fun zh8 =>
  gg (gzb 1) (some (1, zh8))
def f_X8_add_17 (N : Nat) (zk17 : (Nat × Int32 × Int32 × Int32 × Int32 × PH) → Option (Int32 × PH)) (zv0 : Nat) (zv1 : Int32) (zv2 : Int32) (zv3 : Int32) (zv4 : Int32) (zh : PH) : Option (Int32 × PH) :=
  if (zv4 : Int32) ≤ 0 then (
  f_X8_add_89 N zv0 zv1 zv2 zv3 zv4 zh)
  else (
  gb (gfR 8 2 zv0 zh) fun zt2 =>
  gb (arI 0 zt2 (zv4 - 1) zh) fun zt3 =>
  if (zt3 : Int32) ≤ zv3 then (
  f_X8_add_89 N zv0 zv1 zv2 zv3 zv4 zh)
  else (
  gb (gfR 8 0 zv0 zh) fun zt5 =>
  gb (gfR 8 0 zv0 zh) fun zt6 =>
  gb (arI 0 zt6 (zv4 - 1) zh) fun zt7 =>
  gb (asI 0 zt5 zv4 zt7 zh) fun zh8 =>
  gb (gfR 8 1 zv0 zh8) fun zt9 =>
  gb (gfR 8 1 zv0 zh8) fun zt10 =>
  gb (arI 0 zt10 (zv4 - 1) zh8) fun zt11 =>
  gb (asI 0 zt9 zv4 zt11 zh8) fun zh12 =>
  gb (gfR 8 2 zv0 zh12) fun zt13 =>
  gb (gfR 8 2 zv0 zh12) fun zt14 =>
  gb (arI 0 zt14 (zv4 - 1) zh12) fun zt15 =>
  gb (asI 0 zt13 zv4 zt15 zh12) fun zh16 =>
  gl (zv4 + (-1)) fun (zx17 : Int32) =>
  zk17 (zv0, zv1, zv2, zv3, zx17, zh16)))
def f_X8_add (N : Nat) (za0 : Nat) (za1 : Int32) (za2 : Int32) (za3 : Int32) (zh : PH) : Option (Int32 × PH) :=
  gb (gfI 8 5 za0 zh) fun zt1 =>
  if (zt1 : Int32) < 20 then (
  gb (gfI 8 5 za0 zh) fun zt3 =>
  gi (fun zk zs => f_X8_add_17 N zk zs.1 zs.2.1 zs.2.2.1 zs.2.2.2.1 zs.2.2.2.2.1 zs.2.2.2.2.2) N (za0, za1, za2, za3, zt3, zh))
  else (
  gg (gzb 0) (some (0, zh)))
def f_X8_isInReach_31 (N : Nat) (zs0 : Int32) (zh : PH) : Option (Int32 × PH) :=
  gg (gzb zs0) (some (zs0, zh))
def f_X8_isInReach (N : Nat) (za0 : Nat) (za1 : Nat) (za2 : Int32) (za3 : Int32) (za4 : Int32) (zh : PH) : Option (Int32 × PH) :=
  gb (gfR 8 1 za0 zh) fun zt1 =>
  gb (arI 0 zt1 za2 zh) fun zt2 =>
  gg (gIs 2 za1 zh) <|
  gc (f_X2_walkBetween N za1 zt2 za3 zh) fun zt4 zh3 =>
  gb (gfR 8 2 za0 zh3) fun zt5 =>
  gb (arI 0 zt5 za2 zh3) fun zt6 =>
  if ((gabs (zt6 - za4)) : Int32) < zt4 then (
  f_X8_isInReach_31 N 0 zh3)
  else (
  f_X8_isInReach_31 N 1 zh3)
def f_X8_possibleIn_50 (N : Nat) (zk13 : (Nat × Nat × Int32 × Int32 × Int32 × Int32 × PH) → Option (Int32 × PH)) (zv0 : Nat) (zv1 : Nat) (zv2 : Int32) (zv3 : Int32) (zv4 : Int32) (zv5 : Int32) (zh : PH) : Option (Int32 × PH) :=
  gl (zv5 + 1) fun (zx1 : Int32) =>
  zk13 (zv0, zv1, zv2, zv3, zv4, zx1, zh)
def f_X8_possibleIn_13 (N : Nat) (zk13 : (Nat × Nat × Int32 × Int32 × Int32 × Int32 × PH) → Option (Int32 × PH)) (zv0 : Nat) (zv1 : Nat) (zv2 : Int32) (zv3 : Int32) (zv4 : Int32) (zv5 : Int32) (zh : PH) : Option (Int32 × PH) :=
  gb (gfI 8 5 zv0 zh) fun zt1 =>
  if (zt1 : Int32) ≤ zv5 then (
  some (zv4, zh))
  else (
  gg (gIs 8 zv0 zh) <|
  gc (f_X8_isInReach N zv0 zv1 zv5 zv2 zv3 zh) fun zt4 zh3 =>
  if (zt4 : Int32) = 0 then (
  gb (gfR 8 0 zv0 zh3) fun zt6 =>
  gb (arI 0 zt6 zv5 zh3) fun zt7 =>
  gl ((zv4 &&& ((1 <<< (zt7 &&& 31)) ^^^ (-1)))) fun (zx8 : Int32) =>
  f_X8_possibleIn_50 N zk13 zv0 zv1 zv2 zv3 zx8 zv5 zh3)
  else (
  f_X8_possibleIn_50 N zk13 zv0 zv1 zv2 zv3 zv4 zv5 zh3))
def f_X8_possibleIn (N : Nat) (za0 : Nat) (za1 : Nat) (za2 : Int32) (za3 : Int32) (zh : PH) : Option (Int32 × PH) :=
  gb (gfI 2 1 za1 zh) fun zt1 =>
  gl (((1 <<< (zt1 &&& 31)) - 1)) fun (zx2 : Int32) =>
  gi (fun zk zs => f_X8_possibleIn_13 N zk zs.1 zs.2.1 zs.2.2.1 zs.2.2.2.1 zs.2.2.2.2.1 zs.2.2.2.2.2.1 zs.2.2.2.2.2.2) N (za0, za1, za2, za3, zx2, 0, zh)
def f_X8_fewestFalse_98 (N : Nat) (zk12 : (Nat × Nat × Int32 × Int32 × PH) → Option (Int32 × PH)) (zk30 : (Nat × Nat × Int32 × Int32 × Int32 × PH) → Option (Int32 × PH)) (zv0 : Nat) (zv1 : Nat) (zv2 : Int32) (zv3 : Int32) (zv4 : Int32) (zh : PH) : Option (Int32 × PH) :=
  gl (zv4 + 1) fun (zx1 : Int32) =>
  zk30 (zv0, zv1, zv2, zv3, zx1, zh)
def f_X8_fewestFalse_30 (N : Nat) (zk12 : (Nat × Nat × Int32 × Int32 × PH) → Option (Int32 × PH)) (zk30 : (Nat × Nat × Int32 × Int32 × Int32 × PH) → Option (Int32 × PH)) (zv0 : Nat) (zv1 : Nat) (zv2 : Int32) (zv3 : Int32) (zv4 : Int32) (zh : PH) : Option (Int32 × PH) :=
  if (zv3 : Int32) ≤ zv4 then (
  gb (gfR 8 3 zv0 zh) fun zt2 =>
  gb (arI 0 zt2 zv3 zh) fun zt3 =>
  gb (gfR 8 4 zv0 zh) fun zt4 =>
  gb (gfR 8 0 zv0 zh) fun zt5 =>
  gb (arI 0 zt5 zv3 zh) fun zt6 =>
  gb (arI 0 zt4 zt6 zh) fun zt7 =>
  gl ((gmax 0 (zt3 - zt7))) fun (zx8 : Int32) =>
  gb (gfR 8 4 zv0 zh) fun zt9 =>
  gb (gfR 8 0 zv0 zh) fun zt10 =>
  gb (arI 0 zt10 zv3 zh) fun zt11 =>
  gb (arI 0 zt9 zt11 zh) fun zt12 =>
  gb (asI 0 zt9 zt11 (zt12 + zx8) zh) fun zh13 =>
  gl ((zv2 + zx8)) fun (zx14 : Int32) =>
  gl (zv3 + 1) fun (zx15 : Int32) =>
  zk12 (zv0, zv1, zx14, zx15, zh13))
  else (
  gb (gfR 8 0 zv0 zh) fun zt16 =>
  gb (arI 0 zt16 zv4 zh) fun zt17 =>
  gb (gfR 8 0 zv0 zh) fun zt18 =>
  gb (arI 0 zt18 zv3 zh) fun zt19 =>
  if (zt17 : Int32) = zt19 then (
  gb (gfR 8 1 zv0 zh) fun zt21 =>
  gb (arI 0 zt21 zv3 zh) fun zt22 =>
  gb (gfR 8 2 zv0 zh) fun zt23 =>
  gb (arI 0 zt23 zv3 zh) fun zt24 =>
  gg (gIs 8 zv0 zh) <|
  gc (f_X8_isInReach N zv0 zv1 zv4 zt22 zt24 zh) fun zt26 zh25 =>
  if (zt26 : Int32) = 0 then (
  f_X8_fewestFalse_98 N zk12 zk30 zv0 zv1 zv2 zv3 zv4 zh25)
  else (
  gb (gfR 8 3 zv0 zh25) fun zt28 =>
  gb (gfR 8 3 zv0 zh25) fun zt29 =>
  gb (arI 0 zt29 zv3 zh25) fun zt30 =>
  gb (gfR 8 3 zv0 zh25) fun zt31 =>
  gb (arI 0 zt31 zv4 zh25) fun zt32 =>
  gb (asI 0 zt28 zv3 (gmax zt30 (zt32 + 1)) zh25) fun zh33 =>
  f_X8_fewestFalse_98 N zk12 zk30 zv0 zv1 zv2 zv3 zv4 zh33))
  else (
  f_X8_fewestFalse_98 N zk12 zk30 zv0 zv1 zv2 zv3 zv4 zh))
def f_X8_fewestFalse_12 (N : Nat) (zk12 : (Nat × Nat × Int32 × Int32 × PH) → Option (Int32 × PH)) (zv0 : Nat) (zv1 : Nat) (zv2 : Int32) (zv3 : Int32) (zh : PH) : Option (Int32 × PH) :=
  gb (gfI 8 5 zv0 zh) fun zt1 =>
  if (zt1 : Int32) ≤ zv3 then (
  gb (gfI 8 5 zv0 zh) fun zt3 =>
  some ((zt3 - zv2), zh))
  else (
  gb (gfR 8 3 zv0 zh) fun zt4 =>
  gb (asI 0 zt4 zv3 1 zh) fun zh5 =>
  gi (fun zk zs => f_X8_fewestFalse_30 N zk12 zk zs.1 zs.2.1 zs.2.2.1 zs.2.2.2.1 zs.2.2.2.2.1 zs.2.2.2.2.2) N (zv0, zv1, zv2, zv3, 0, zh5))
def f_X8_fewestFalse (N : Nat) (za0 : Nat) (za1 : Nat) (zh : PH) : Option (Int32 × PH) :=
  gb (gfR 8 4 za0 zh) fun zt1 =>
  gb (f_J7_fill_53178 N zt1 0 zh) fun zh2 =>
  gi (fun zk zs => f_X8_fewestFalse_12 N zk zs.1 zs.2.1 zs.2.2.1 zs.2.2.2.1 zs.2.2.2.2) N (za0, za1, 0, 0, zh2)
def f_X9_init_79 (N : Nat) (zk79 : (Nat × Int32 × PH) → Option PH) (zv0 : Nat) (zv2 : Int32) (zh : PH) : Option PH :=
  gb (gfR 9 2 zv0 zh) fun zt1 =>
  gb (alen 4 zt1 zh) fun zt2 =>
  if (zt2 : Int32) ≤ zv2 then (
  some zh)
  else (
  gb (gfR 9 2 zv0 zh) fun zt4 =>
  gc (nwO 1 n0X1 zh) fun zr6 zh5 =>
  gb (f_X1_init N zr6 zh5) fun zh7 =>
  gb (asQ 4 zt4 1 zv2 zr6 zh7) fun zh8 =>
  gl (zv2 + 1) fun (zx9 : Int32) =>
  zk79 (zv0, zx9, zh8))
def f_X9_init (N : Nat) (za0 : Nat) (za1 : Nat) (zh : PH) : Option PH :=
  gc (nwO 1 n0X1 zh) fun zr2 zh1 =>
  gb (f_X1_init N zr2 zh1) fun zh3 =>
  gb (pfV 9 1 za0 (.ref zr2) zh3) fun zh4 =>
  gc (nwA 4 5 zh4) fun zr6 zh5 =>
  gb (pfV 9 2 za0 (.ref zr6) zh5) fun zh7 =>
  gc (nwO 0 n0X0 zh7) fun zr9 zh8 =>
  gb (f_X0_init N zr9 zh8) fun zh10 =>
  gb (pfV 9 3 za0 (.ref zr9) zh10) fun zh11 =>
  gc (nwO 8 n0X8 zh11) fun zr13 zh12 =>
  gb (f_X8_init N zr13 zh12) fun zh14 =>
  gb (pfV 9 4 za0 (.ref zr13) zh14) fun zh15 =>
  gc (nwO 6 n0X6 zh15) fun zr17 zh16 =>
  gb (f_X6_init N zr17 zh16) fun zh18 =>
  gb (pfV 9 5 za0 (.ref zr17) zh18) fun zh19 =>
  gc (nwO 4 n0X4 zh19) fun zr21 zh20 =>
  gb (f_X4_init N zr21 zh20) fun zh22 =>
  gb (pfV 9 6 za0 (.ref zr21) zh22) fun zh23 =>
  gb (pfV 9 8 za0 (.int (-1)) zh23) fun zh24 =>
  gb (pfV 9 0 za0 (.ref za1) zh24) fun zh25 =>
  gi (fun zk zs => f_X9_init_79 N zk zs.1 zs.2.1 zs.2.2) 6 (za0, 0, zh25)
def f_X9_reset_9 (N : Nat) (zk9 : (Nat × Int32 × Int32 × PH) → Option PH) (zv0 : Nat) (zv1 : Int32) (zv2 : Int32) (zh : PH) : Option PH :=
  gb (gfR 9 2 zv0 zh) fun zt1 =>
  gb (alen 4 zt1 zh) fun zt2 =>
  if (zt2 : Int32) ≤ zv2 then (
  gb (gfR 9 3 zv0 zh) fun zt4 =>
  gg (gIs 0 zt4 zh) <|
  gb (f_X0_empty N zt4 zh) fun zh5 =>
  gb (gfR 9 4 zv0 zh5) fun zt6 =>
  gb (pfV 8 5 zt6 (.int 0) zh5) fun zh7 =>
  gb (gfR 9 5 zv0 zh7) fun zt8 =>
  gb (gfR 6 0 zt8 zh7) fun zt9 =>
  gb (f_J7_fill_53178 N zt9 0 zh7) fun zh10 =>
  gb (gfR 9 6 zv0 zh10) fun zt11 =>
  gb (pfV 4 3 zt11 (.int 0) zh10) fun zh12 =>
  gb (pfV 9 7 zv0 (.int 0) zh12) fun zh13 =>
  gb (pfV 9 8 zv0 (.int zv1) zh13) fun zh14 =>
  gb (pfV 9 9 zv0 (.int 0) zh14) fun zh15 =>
  gb (pfV 9 10 zv0 (.int 0) zh15) fun zh16 =>
  some zh16)
  else (
  gb (gfR 9 2 zv0 zh) fun zt17 =>
  gb (arR 4 zt17 zv2 zh) fun zt18 =>
  gg (gIs 1 zt18 zh) <|
  gb (f_X1_empty N zt18 zh) fun zh19 =>
  gl (zv2 + 1) fun (zx20 : Int32) =>
  zk9 (zv0, zv1, zx20, zh19))
def f_X9_reset (N : Nat) (za0 : Nat) (za1 : Int32) (zh : PH) : Option PH :=
  gb (gfR 9 1 za0 zh) fun zt1 =>
  gg (gIs 1 zt1 zh) <|
  gb (f_X1_empty N zt1 zh) fun zh2 =>
  gi (fun zk zs => f_X9_reset_9 N zk zs.1 zs.2.1 zs.2.2.1 zs.2.2.2) N (za0, za1, 0, zh2)
def f_X9_copyFrom_13 (N : Nat) (zk13 : (Nat × Nat × Int32 × PH) → Option PH) (zv0 : Nat) (zv1 : Nat) (zv2 : Int32) (zh : PH) : Option PH :=
  gb (gfR 9 2 zv0 zh) fun zt1 =>
  gb (alen 4 zt1 zh) fun zt2 =>
  if (zt2 : Int32) ≤ zv2 then (
  gb (gfR 9 3 zv0 zh) fun zt4 =>
  gb (gfR 9 3 zv1 zh) fun zt5 =>
  gg (gIs 0 zt4 zh) <|
  gb (f_X0_copyFrom N zt4 zt5 zh) fun zh6 =>
  gb (gfR 9 4 zv0 zh6) fun zt7 =>
  gb (gfR 9 4 zv1 zh6) fun zt8 =>
  gg (gIs 8 zt7 zh6) <|
  gb (f_X8_copyFrom N zt7 zt8 zh6) fun zh9 =>
  gb (gfR 9 5 zv1 zh9) fun zt10 =>
  gb (gfR 6 0 zt10 zh9) fun zt11 =>
  gb (gfR 9 5 zv0 zh9) fun zt12 =>
  gb (gfR 6 0 zt12 zh9) fun zt13 =>
  gb (cpI 0 zt11 0 zt13 0 10 zh9) fun zh14 =>
  gb (gfR 9 6 zv0 zh14) fun zt15 =>
  gb (gfR 9 6 zv1 zh14) fun zt16 =>
  gg (gIs 4 zt15 zh14) <|
  gb (f_X4_copyFrom N zt15 zt16 zh14) fun zh17 =>
  gb (gfI 9 7 zv1 zh17) fun zt18 =>
  gb (pfV 9 7 zv0 (.int zt18) zh17) fun zh19 =>
  gb (gfI 9 8 zv1 zh19) fun zt20 =>
  gb (pfV 9 8 zv0 (.int zt20) zh19) fun zh21 =>
  gb (gfI 9 9 zv1 zh21) fun zt22 =>
  gb (pfV 9 9 zv0 (.int zt22) zh21) fun zh23 =>
  gb (gfI 9 10 zv1 zh23) fun zt24 =>
  gb (pfV 9 10 zv0 (.int zt24) zh23) fun zh25 =>
  some zh25)
  else (
  gb (gfR 9 2 zv0 zh) fun zt26 =>
  gb (arR 4 zt26 zv2 zh) fun zt27 =>
  gb (gfR 9 2 zv1 zh) fun zt28 =>
  gb (arR 4 zt28 zv2 zh) fun zt29 =>
  gg (gIs 1 zt27 zh) <|
  gb (f_X1_copyFrom N zt27 zt29 zh) fun zh30 =>
  gl (zv2 + 1) fun (zx31 : Int32) =>
  zk13 (zv0, zv1, zx31, zh30))
def f_X9_copyFrom (N : Nat) (za0 : Nat) (za1 : Nat) (zh : PH) : Option PH :=
  gb (gfR 9 1 za0 zh) fun zt1 =>
  gb (gfR 9 1 za1 zh) fun zt2 =>
  gg (gIs 1 zt1 zh) <|
  gb (f_X1_copyFrom N zt1 zt2 zh) fun zh3 =>
  gi (fun zk zs => f_X9_copyFrom_13 N zk zs.1 zs.2.1 zs.2.2.1 zs.2.2.2) N (za0, za1, 0, zh3)
def f_X9_trialOf (N : Nat) (za0 : Nat) (za1 : Int32) (zh : PH) : Option (Nat × PH) :=
  gb (gfR 9 2 za0 zh) fun zt1 =>
  gb (arR 4 zt1 (za1 + 1) zh) fun zt2 =>
  some (zt2, zh)
def f_X9_note (N : Nat) (za0 : Nat) (za1 : Int32) (zh : PH) : Option PH :=
  gb (gfR 9 3 za0 zh) fun zt1 =>
  gg (gIs 0 zt1 zh) <|
  gb (f_X0_beginChain N zt1 za1 zh) fun zh2 =>
  gb (pfV 9 9 za0 (.int za1) zh2) fun zh3 =>
  gb (gfI 9 10 za0 zh3) fun zt4 =>
  gb (pfV 9 10 za0 (.int (zt4 + 1)) zh3) fun zh5 =>
  some zh5
def f_X9_takeIn_21 (N : Nat) (zk21 : (Nat × Nat × Int32 × Int32 × PH) → Option PH) (zv0 : Nat) (zv1 : Nat) (zv2 : Int32) (zv4 : Int32) (zh : PH) : Option PH :=
  gb (gfI 2 2 zv1 zh) fun zt1 =>
  if (zt1 : Int32) ≤ zv4 then (
  gb (gfI 9 7 zv0 zh) fun zt3 =>
  gb (pfV 9 7 zv0 (.int (zt3 &&& ((1 <<< (zv2 &&& 31)) ^^^ (-1)))) zh) fun zh4 =>
  some zh4)
  else (
  gg (gIs 9 zv0 zh) <|
  gc (f_X9_trialOf N zv0 zv4 zh) fun zt6 zh5 =>
  gg (gIs 1 zt6 zh5) <|
  gb (f_X1_takeIn N zt6 zv1 zv2 none zh5) fun zh7 =>
  gl (zv4 + 1) fun (zx8 : Int32) =>
  zk21 (zv0, zv1, zv2, zx8, zh7))
def f_X9_takeIn (N : Nat) (za0 : Nat) (za1 : Nat) (za2 : Int32) (za3 : Int32) (zh : PH) : Option PH :=
  gg (gIs 9 za0 zh) <|
  gb (f_X9_note N za0 za3 zh) fun zh1 =>
  gb (gfR 9 1 za0 zh1) fun zt2 =>
  gb (gfR 9 3 za0 zh1) fun zt3 =>
  gg (gIs 1 zt2 zh1) <|
  gb (f_X1_takeIn N zt2 za1 za2 (some zt3) zh1) fun zh4 =>
  gi (fun zk zs => f_X9_takeIn_21 N zk zs.1 zs.2.1 zs.2.2.1 zs.2.2.2.1 zs.2.2.2.2) N (za0, za1, za2, (-1), zh4)
def f_X9_letOut_29 (N : Nat) (zk29 : (Nat × Nat × Int32 × Int32 × PH) → Option PH) (zv0 : Nat) (zv1 : Nat) (zv2 : Int32) (zv4 : Int32) (zh : PH) : Option PH :=
  gb (gfI 2 2 zv1 zh) fun zt1 =>
  if (zt1 : Int32) ≤ zv4 then (
  some zh)
  else (
  gg (gIs 9 zv0 zh) <|
  gc (f_X9_trialOf N zv0 zv4 zh) fun zt4 zh3 =>
  gb (gfR 9 0 zv0 zh3) fun zt5 =>
  gg (gIs 1 zt4 zh3) <|
  gb (f_X1_letOut N zt4 zv1 zv2 zv4 zt5 none zh3) fun zh6 =>
  gl (zv4 + 1) fun (zx7 : Int32) =>
  zk29 (zv0, zv1, zv2, zx7, zh6))
def f_X9_letOut (N : Nat) (za0 : Nat) (za1 : Nat) (za2 : Int32) (za3 : Int32) (zh : PH) : Option PH :=
  gg (gIs 9 za0 zh) <|
  gb (f_X9_note N za0 za3 zh) fun zh1 =>
  gb (gfR 9 1 za0 zh1) fun zt2 =>
  gb (gfI 9 8 za0 zh1) fun zt3 =>
  gb (gfR 9 0 za0 zh1) fun zt4 =>
  gb (gfR 9 3 za0 zh1) fun zt5 =>
  gg (gIs 1 zt2 zh1) <|
  gb (f_X1_letOut N zt2 za1 za2 zt3 zt4 (some zt5) zh1) fun zh6 =>
  gi (fun zk zs => f_X9_letOut_29 N zk zs.1 zs.2.1 zs.2.2.1 zs.2.2.2.1 zs.2.2.2.2) N (za0, za1, za2, (-1), zh6)
def f_X10_init (N : Nat) (za0 : Nat) (zh : PH) : Option PH :=
  gc (nwA 2 1000 zh) fun zr2 zh1 =>
  gb (pfV 10 0 za0 (.ref zr2) zh1) fun zh3 =>
  some zh3
def f_X10_length (N : Nat) (za0 : Nat) (zh : PH) : Option (Int32 × PH) :=
  gb (gfI 10 1 za0 zh) fun zt1 =>
  some (zt1, zh)
def f_X10_empty (N : Nat) (za0 : Nat) (zh : PH) : Option PH :=
  gb (pfV 10 1 za0 (.int 0) zh) fun zh1 =>
  some zh1
def f_X10_isSign_23 (N : Nat) (zs0 : Int32) (zh : PH) : Option (Int32 × PH) :=
  gg (gzb zs0) (some (zs0, zh))
def f_X10_isSign_22 (N : Nat) (zh : PH) : Option (Int32 × PH) :=
  f_X10_isSign_23 N 0 zh
def f_X10_isSign_18 (N : Nat) (zh : PH) : Option (Int32 × PH) :=
  f_X10_isSign_23 N 1 zh
def f_X10_isSign (N : Nat) (za0 : Int32) (zh : PH) : Option (Int32 × PH) :=
  if (za0 : Int32) = 10 then (
  f_X10_isSign_18 N  zh)
  else (
  if (za0 : Int32) < 32 then (
  f_X10_isSign_22 N  zh)
  else (
  if (126 : Int32) < za0 then (
  f_X10_isSign_22 N  zh)
  else (
  f_X10_isSign_18 N  zh)))
def f_X10_append_57 (N : Nat) (zk3 : (Nat × Int64 × Int32 × PH) → Option PH) (zv0 : Nat) (zv1 : Int64) (zv3 : Int32) (zh : PH) : Option PH :=
  gl (zv3 + (-8)) fun (zx1 : Int32) =>
  zk3 (zv0, zv1, zx1, zh)
def f_X10_append_3 (N : Nat) (zk3 : (Nat × Int64 × Int32 × PH) → Option PH) (zv0 : Nat) (zv1 : Int64) (zv3 : Int32) (zh : PH) : Option PH :=
  if (zv3 : Int32) < 0 then (
  some zh)
  else (
  gl (((Int64.toInt32 ((Int64.toUInt64 zv1 >>> ((Int32.toInt64 zv3).toUInt64 &&& Int64.toUInt64 63)).toInt64)) &&& 255)) fun (zx2 : Int32) =>
  gc (f_X10_isSign N zx2 zh) fun zt4 zh3 =>
  if (zt4 : Int32) = 0 then (
  f_X10_append_57 N zk3 zv0 zv1 zv3 zh3)
  else (
  gb (gfI 10 1 zv0 zh3) fun zt6 =>
  if (1000 : Int32) ≤ zt6 then (
  f_X10_append_57 N zk3 zv0 zv1 zv3 zh3)
  else (
  gb (gfR 10 0 zv0 zh3) fun zt8 =>
  gb (gfI 10 1 zv0 zh3) fun zt9 =>
  gb (asI 2 zt8 zt9 ((Int32.toInt8 zx2).toInt32) zh3) fun zh10 =>
  gb (gfI 10 1 zv0 zh10) fun zt11 =>
  gb (pfV 10 1 zv0 (.int (zt11 + 1)) zh10) fun zh12 =>
  f_X10_append_57 N zk3 zv0 zv1 zv3 zh12)))
def f_X10_append (N : Nat) (za0 : Nat) (za1 : Int64) (zh : PH) : Option PH :=
  gi (fun zk zs => f_X10_append_3 N zk zs.1 zs.2.1 zs.2.2.1 zs.2.2.2) N (za0, za1, 56, zh)
def f_X11_init (N : Nat) (za0 : Nat) (zh : PH) : Option PH :=
  gc (nwO 10 n0X10 zh) fun zr2 zh1 =>
  gb (f_X10_init N zr2 zh1) fun zh3 =>
  gb (pfV 11 0 za0 (.ref zr2) zh3) fun zh4 =>
  gc (nwO 3 n0X3 zh4) fun zr6 zh5 =>
  gb (gfR 11 0 za0 zh5) fun zt7 =>
  gb (f_X3_init N zr6 zt7 zh5) fun zh8 =>
  gb (pfV 11 1 za0 (.ref zr6) zh8) fun zh9 =>
  gc (nwO 7 n0X7 zh9) fun zr11 zh10 =>
  gb (f_X7_init N zr11 zh10) fun zh12 =>
  gb (pfV 11 2 za0 (.ref zr11) zh12) fun zh13 =>
  gc (nwO 9 n0X9 zh13) fun zr15 zh14 =>
  gb (gfR 11 2 za0 zh14) fun zt16 =>
  gb (f_X9_init N zr15 zt16 zh14) fun zh17 =>
  gb (pfV 11 3 za0 (.ref zr15) zh17) fun zh18 =>
  gc (nwA 5 4 zh18) fun zr20 zh19 =>
  gb (pfV 11 4 za0 (.ref zr20) zh19) fun zh21 =>
  gc (nwO 5 n0X5 zh21) fun zr23 zh22 =>
  gb (f_X5_init N zr23 zh22) fun zh24 =>
  gb (pfV 11 5 za0 (.ref zr23) zh24) fun zh25 =>
  gc (nwO 1 n0X1 zh25) fun zr27 zh26 =>
  gb (f_X1_init N zr27 zh26) fun zh28 =>
  gb (pfV 11 6 za0 (.ref zr27) zh28) fun zh29 =>
  gc (nwA 0 7 zh29) fun zr31 zh30 =>
  gb (pfV 11 7 za0 (.ref zr31) zh30) fun zh32 =>
  gc (nwA 0 1024 zh32) fun zr34 zh33 =>
  gb (pfV 11 8 za0 (.ref zr34) zh33) fun zh35 =>
  gc (nwO 2 n0X2 zh35) fun zr37 zh36 =>
  gb (f_X2_init N zr37 zh36) fun zh38 =>
  gb (pfV 11 9 za0 (.ref zr37) zh38) fun zh39 =>
  gc (nwO 2 n0X2 zh39) fun zr41 zh40 =>
  gb (f_X2_init N zr41 zh40) fun zh42 =>
  gb (pfV 11 10 za0 (.ref zr41) zh42) fun zh43 =>
  some zh43
def f_X11_feed (N : Nat) (za0 : Nat) (za1 : Int64) (za3 : Int64) (za5 : Int64) (zh : PH) : Option (Int32 × PH) :=
  gb (gfR 11 0 za0 zh) fun zt1 =>
  gg (gIs 10 zt1 zh) <|
  gb (f_X10_append N zt1 za1 zh) fun zh2 =>
  gb (gfR 11 0 za0 zh2) fun zt3 =>
  gg (gIs 10 zt3 zh2) <|
  gb (f_X10_append N zt3 za3 zh2) fun zh4 =>
  gb (gfR 11 0 za0 zh4) fun zt5 =>
  gg (gIs 10 zt5 zh4) <|
  gb (f_X10_append N zt5 za5 zh4) fun zh6 =>
  gb (gfR 11 0 za0 zh6) fun zt7 =>
  gg (gIs 10 zt7 zh6) <|
  gc (f_X10_length N zt7 zh6) fun zt9 zh8 =>
  some (zt9, zh8)
def f_X11_inn_62 (N : Nat) (zv0 : Nat) (zs0 : Int32) (zs1 : Nat) (zh : PH) : Option (Int32 × PH) :=
  gg (gIs 9 zs1 zh) <|
  gb (f_X9_reset N zs1 zs0 zh) fun zh1 =>
  gb (pfV 11 11 zv0 (.int 0) zh1) fun zh2 =>
  some (0, zh2)
def f_X11_inn (N : Nat) (za0 : Nat) (zh : PH) : Option (Int32 × PH) :=
  gb (gfR 11 1 za0 zh) fun zt1 =>
  gb (gfR 11 10 za0 zh) fun zt2 =>
  gg (gIs 3 zt1 zh) <|
  gc (f_X3_readInto N zt1 zt2 zh) fun zt4 zh3 =>
  gb (gfR 11 0 za0 zh3) fun zt5 =>
  gg (gIs 10 zt5 zh3) <|
  gb (f_X10_empty N zt5 zh3) fun zh6 =>
  if (zt4 : Int32) = 0 then (
  gb (gfR 11 9 za0 zh6) fun zt8 =>
  gb (gfR 11 10 za0 zh6) fun zt9 =>
  gb (pfV 11 9 za0 (.ref zt9) zh6) fun zh10 =>
  gb (pfV 11 10 za0 (.ref zt8) zh10) fun zh11 =>
  gb (gfR 11 3 za0 zh11) fun zt12 =>
  gb (gfR 11 9 za0 zh11) fun zt13 =>
  gb (gfI 2 2 zt13 zh11) fun zt14 =>
  if (zt14 : Int32) ≤ 0 then (
  f_X11_inn_62 N za0 (-1) zt12 zh11)
  else (
  f_X11_inn_62 N za0 0 zt12 zh11))
  else (
  some (zt4, zh6))
def f_X11_isRoom_20 (N : Nat) (zs0 : Int32) (zh : PH) : Option (Int32 × PH) :=
  gg (gzb zs0) (some (zs0, zh))
def f_X11_isRoom_19 (N : Nat) (zh : PH) : Option (Int32 × PH) :=
  f_X11_isRoom_20 N 0 zh
def f_X11_isRoom (N : Nat) (za0 : Nat) (za1 : Int32) (zh : PH) : Option (Int32 × PH) :=
  if (za1 : Int32) < 0 then (
  f_X11_isRoom_19 N  zh)
  else (
  gb (gfR 11 9 za0 zh) fun zt2 =>
  gb (gfI 2 0 zt2 zh) fun zt3 =>
  if (zt3 : Int32) ≤ za1 then (
  f_X11_isRoom_19 N  zh)
  else (
  f_X11_isRoom_20 N 1 zh))
def f_X11_room (N : Nat) (za0 : Nat) (za1 : Int32) (za2 : Int32) (zh : PH) : Option (Int32 × PH) :=
  gg (gIs 11 za0 zh) <|
  gc (f_X11_isRoom N za0 za1 zh) fun zt2 zh1 =>
  if (zt2 : Int32) = 0 then (
  some ((-1), zh1))
  else (
  if (za2 : Int32) = 0 then (
  gb (gfR 11 9 za0 zh1) fun zt5 =>
  gb (gfR 2 5 zt5 zh1) fun zt6 =>
  gb (arI 0 zt6 za1 zh1) fun zt7 =>
  some (zt7, zh1))
  else (
  if (za2 : Int32) = 1 then (
  gb (gfR 11 9 za0 zh1) fun zt9 =>
  gb (gfR 2 6 zt9 zh1) fun zt10 =>
  gb (arI 0 zt10 za1 zh1) fun zt11 =>
  some (zt11, zh1))
  else (
  if (za2 : Int32) = 2 then (
  gb (gfR 11 3 za0 zh1) fun zt13 =>
  gb (gfR 9 1 zt13 zh1) fun zt14 =>
  gb (gfR 1 0 zt14 zh1) fun zt15 =>
  gb (arI 0 zt15 za1 zh1) fun zt16 =>
  some (zt16, zh1))
  else (
  some ((-1), zh1)))))
def f_X11_isGuest_20 (N : Nat) (zs0 : Int32) (zh : PH) : Option (Int32 × PH) :=
  gg (gzb zs0) (some (zs0, zh))
def f_X11_isGuest_19 (N : Nat) (zh : PH) : Option (Int32 × PH) :=
  f_X11_isGuest_20 N 0 zh
def f_X11_isGuest (N : Nat) (za0 : Nat) (za1 : Int32) (zh : PH) : Option (Int32 × PH) :=
  if (za1 : Int32) < 0 then (
  f_X11_isGuest_19 N  zh)
  else (
  gb (gfR 11 9 za0 zh) fun zt2 =>
  gb (gfI 2 1 zt2 zh) fun zt3 =>
  if (zt3 : Int32) ≤ za1 then (
  f_X11_isGuest_19 N  zh)
  else (
  f_X11_isGuest_20 N 1 zh))
def f_X11_guest (N : Nat) (za0 : Nat) (za1 : Int32) (za2 : Int32) (zh : PH) : Option (Int32 × PH) :=
  gg (gIs 11 za0 zh) <|
  gc (f_X11_isGuest N za0 za1 zh) fun zt2 zh1 =>
  if (zt2 : Int32) = 0 then (
  some ((-1), zh1))
  else (
  if (za2 : Int32) = 0 then (
  gb (gfR 11 9 za0 zh1) fun zt5 =>
  gb (gfR 2 7 zt5 zh1) fun zt6 =>
  gb (arI 0 zt6 za1 zh1) fun zt7 =>
  some (zt7, zh1))
  else (
  if (za2 : Int32) = 1 then (
  gb (gfR 11 9 za0 zh1) fun zt9 =>
  gb (gfI 2 3 zt9 zh1) fun zt10 =>
  gc (f_X11_bitOf N zt10 za1 zh1) fun zt12 zh11 =>
  some (zt12, zh11))
  else (
  if (za2 : Int32) = 2 then (
  gb (gfR 11 9 za0 zh1) fun zt14 =>
  gb (gfI 2 4 zt14 zh1) fun zt15 =>
  gc (f_X11_bitOf N zt15 za1 zh1) fun zt17 zh16 =>
  some (zt17, zh16))
  else (
  if (za2 : Int32) = 3 then (
  gb (gfR 11 3 za0 zh1) fun zt19 =>
  gb (gfR 9 1 zt19 zh1) fun zt20 =>
  gb (gfR 1 1 zt20 zh1) fun zt21 =>
  gb (arI 0 zt21 za1 zh1) fun zt22 =>
  some (zt22, zh1))
  else (
  if (za2 : Int32) = 4 then (
  gb (gfR 11 3 za0 zh1) fun zt24 =>
  gb (gfR 9 1 zt24 zh1) fun zt25 =>
  gb (gfR 1 2 zt25 zh1) fun zt26 =>
  gb (arI 0 zt26 za1 zh1) fun zt27 =>
  some (zt27, zh1))
  else (
  if (za2 : Int32) = 5 then (
  gb (gfR 11 3 za0 zh1) fun zt29 =>
  gb (gfR 9 1 zt29 zh1) fun zt30 =>
  gb (gfR 1 3 zt30 zh1) fun zt31 =>
  gb (arI 0 zt31 za1 zh1) fun zt32 =>
  some (zt32, zh1))
  else (
  some ((-1), zh1))))))))
def f_X11_isRule_20 (N : Nat) (zs0 : Int32) (zh : PH) : Option (Int32 × PH) :=
  gg (gzb zs0) (some (zs0, zh))
def f_X11_isRule_19 (N : Nat) (zh : PH) : Option (Int32 × PH) :=
  f_X11_isRule_20 N 0 zh
def f_X11_isRule (N : Nat) (za0 : Nat) (za1 : Int32) (zh : PH) : Option (Int32 × PH) :=
  if (za1 : Int32) < 0 then (
  f_X11_isRule_19 N  zh)
  else (
  gb (gfR 11 9 za0 zh) fun zt2 =>
  gb (gfI 2 2 zt2 zh) fun zt3 =>
  if (zt3 : Int32) ≤ za1 then (
  f_X11_isRule_19 N  zh)
  else (
  f_X11_isRule_20 N 1 zh))
def f_X11_use_15 (N : Nat) (zv0 : Nat) (zv1 : Int32) (zh : PH) : Option (Int32 × PH) :=
  gb (gfR 11 3 zv0 zh) fun zt1 =>
  gb (pfV 9 8 zt1 (.int zv1) zh) fun zh2 =>
  gg (gzb 1) (some (1, zh2))
def f_X11_use (N : Nat) (za0 : Nat) (za1 : Int32) (zh : PH) : Option (Int32 × PH) :=
  if (za1 : Int32) = (-1) then (
  f_X11_use_15 N za0 za1 zh)
  else (
  gg (gIs 11 za0 zh) <|
  gc (f_X11_isRule N za0 za1 zh) fun zt3 zh2 =>
  if (zt3 : Int32) = 0 then (
  gg (gzb 0) (some (0, zh2)))
  else (
  f_X11_use_15 N za0 za1 zh2))
def f_X11_isToldMinute_16 (N : Nat) (zs0 : Int32) (zh : PH) : Option (Int32 × PH) :=
  gg (gzb zs0) (some (zs0, zh))
def f_X11_isToldMinute_15 (N : Nat) (zh : PH) : Option (Int32 × PH) :=
  f_X11_isToldMinute_16 N 0 zh
def f_X11_isToldMinute (N : Nat) (za0 : Int32) (zh : PH) : Option (Int32 × PH) :=
  if (za0 : Int32) < 0 then (
  f_X11_isToldMinute_15 N  zh)
  else (
  if (99999 : Int32) < za0 then (
  f_X11_isToldMinute_15 N  zh)
  else (
  f_X11_isToldMinute_16 N 1 zh))
def f_X11_whyRefused_100 (N : Nat) (zs0 : Int32) (zh : PH) : Option (Int32 × PH) :=
  some (zs0, zh)
def f_X11_whyRefused_83 (N : Nat) (zv0 : Nat) (zh : PH) : Option (Int32 × PH) :=
  gb (gfR 11 3 zv0 zh) fun zt1 =>
  gb (gfI 9 10 zt1 zh) fun zt2 =>
  if (zt2 : Int32) < 100 then (
  f_X11_whyRefused_100 N 0 zh)
  else (
  f_X11_whyRefused_100 N 5 zh)
def f_X11_whyRefused_38 (N : Nat) (zh : PH) : Option (Int32 × PH) :=
  some (2, zh)
def f_X11_whyRefused_18 (N : Nat) (zh : PH) : Option (Int32 × PH) :=
  some (1, zh)
def f_X11_whyRefused (N : Nat) (za0 : Nat) (za1 : Int32) (za2 : Int32) (za3 : Int32) (zh : PH) : Option (Int32 × PH) :=
  gg (gIs 11 za0 zh) <|
  gc (f_X11_isGuest N za0 za1 zh) fun zt2 zh1 =>
  if (zt2 : Int32) = 0 then (
  f_X11_whyRefused_18 N  zh1)
  else (
  gb (gfR 11 9 za0 zh1) fun zt4 =>
  gb (gfI 2 0 zt4 zh1) fun zt5 =>
  if (zt5 : Int32) = 0 then (
  f_X11_whyRefused_18 N  zh1)
  else (
  gc (f_X11_isToldMinute N za2 zh1) fun zt8 zh7 =>
  if (zt8 : Int32) = 0 then (
  f_X11_whyRefused_38 N  zh7)
  else (
  gb (gfR 11 3 za0 zh7) fun zt10 =>
  gb (gfI 9 9 zt10 zh7) fun zt11 =>
  if (zt11 : Int32) ≤ za2 then (
  gb (gfR 11 3 za0 zh7) fun zt13 =>
  gb (gfR 9 1 zt13 zh7) fun zt14 =>
  gg (gIs 1 zt14 zh7) <|
  gc (f_X1_isIn N zt14 za1 zh7) fun zt16 zh15 =>
  if (zt16 : Int32) = za3 then (
  some (3, zh15))
  else (
  if (za3 : Int32) = 0 then (
  f_X11_whyRefused_83 N za0 zh15)
  else (
  gb (gfR 11 3 za0 zh15) fun zt19 =>
  gb (gfR 9 1 zt19 zh15) fun zt20 =>
  gg (gIs 1 zt20 zh15) <|
  gc (f_X1_guestsIn N zt20 zh15) fun zt22 zh21 =>
  gb (gfR 11 9 za0 zh21) fun zt23 =>
  gb (gfI 2 0 zt23 zh21) fun zt24 =>
  if (zt22 : Int32) < zt24 then (
  f_X11_whyRefused_83 N za0 zh21)
  else (
  some (4, zh21)))))
  else (
  f_X11_whyRefused_38 N  zh7))))
def f_X11_come_25 (N : Nat) (zv3 : Int32) (zh : PH) : Option (Int32 × PH) :=
  some (zv3, zh)
def f_X11_come (N : Nat) (za0 : Nat) (za1 : Int32) (za2 : Int32) (zh : PH) : Option (Int32 × PH) :=
  gg (gIs 11 za0 zh) <|
  gc (f_X11_whyRefused N za0 za1 za2 1 zh) fun zt2 zh1 =>
  if (zt2 : Int32) = 0 then (
  gb (gfR 11 3 za0 zh1) fun zt4 =>
  gb (gfR 11 9 za0 zh1) fun zt5 =>
  gg (gIs 9 zt4 zh1) <|
  gb (f_X9_takeIn N zt4 zt5 za1 za2 zh1) fun zh6 =>
  f_X11_come_25 N zt2 zh6)
  else (
  f_X11_come_25 N zt2 zh1)
def f_X11_leave_25 (N : Nat) (zv3 : Int32) (zh : PH) : Option (Int32 × PH) :=
  some (zv3, zh)
def f_X11_leave (N : Nat) (za0 : Nat) (za1 : Int32) (za2 : Int32) (zh : PH) : Option (Int32 × PH) :=
  gg (gIs 11 za0 zh) <|
  gc (f_X11_whyRefused N za0 za1 za2 0 zh) fun zt2 zh1 =>
  if (zt2 : Int32) = 0 then (
  gb (gfR 11 3 za0 zh1) fun zt4 =>
  gb (gfR 11 9 za0 zh1) fun zt5 =>
  gg (gIs 9 zt4 zh1) <|
  gb (f_X9_letOut N zt4 zt5 za1 za2 zh1) fun zh6 =>
  f_X11_leave_25 N zt2 zh6)
  else (
  f_X11_leave_25 N zt2 zh1)
def f_X11_over (N : Nat) (za0 : Nat) (zh : PH) : Option (Int32 × PH) :=
  gb (gfR 11 3 za0 zh) fun zt1 =>
  gb (gfR 9 3 zt1 zh) fun zt2 =>
  gb (gfI 0 2 zt2 zh) fun zt3 =>
  some (zt3, zh)
def f_X11_sum (N : Nat) (za0 : Nat) (za1 : Int32) (zh : PH) : Option (Int32 × PH) :=
  if (za1 : Int32) = 0 then (
  gb (gfR 11 3 za0 zh) fun zt2 =>
  gb (gfR 9 1 zt2 zh) fun zt3 =>
  gb (gfI 1 4 zt3 zh) fun zt4 =>
  some (zt4, zh))
  else (
  if (za1 : Int32) = 1 then (
  gb (gfR 11 3 za0 zh) fun zt6 =>
  gb (gfR 9 1 zt6 zh) fun zt7 =>
  gb (gfI 1 5 zt7 zh) fun zt8 =>
  some (zt8, zh))
  else (
  if (za1 : Int32) = 2 then (
  gb (gfR 11 3 za0 zh) fun zt10 =>
  gb (gfR 9 1 zt10 zh) fun zt11 =>
  gb (gfI 1 6 zt11 zh) fun zt12 =>
  some (zt12, zh))
  else (
  if (za1 : Int32) = 3 then (
  gb (gfR 11 3 za0 zh) fun zt14 =>
  gb (gfR 9 1 zt14 zh) fun zt15 =>
  gb (gfI 1 7 zt15 zh) fun zt16 =>
  some (zt16, zh))
  else (
  some ((-1), zh)))))
def f_X11_isAskedMinute_16 (N : Nat) (zs0 : Int32) (zh : PH) : Option (Int32 × PH) :=
  gg (gzb zs0) (some (zs0, zh))
def f_X11_isAskedMinute_15 (N : Nat) (zh : PH) : Option (Int32 × PH) :=
  f_X11_isAskedMinute_16 N 0 zh
def f_X11_isAskedMinute (N : Nat) (za0 : Int32) (zh : PH) : Option (Int32 × PH) :=
  if (za0 : Int32) < 0 then (
  f_X11_isAskedMinute_15 N  zh)
  else (
  if (999999 : Int32) < za0 then (
  f_X11_isAskedMinute_15 N  zh)
  else (
  f_X11_isAskedMinute_16 N 1 zh))
def f_X11_where_15 (N : Nat) (zh : PH) : Option (Int32 × PH) :=
  some ((-3), zh)
def f_X11_where (N : Nat) (za0 : Nat) (za1 : Int32) (za2 : Int32) (zh : PH) : Option (Int32 × PH) :=
  gg (gIs 11 za0 zh) <|
  gc (f_X11_isGuest N za0 za1 zh) fun zt2 zh1 =>
  if (zt2 : Int32) = 0 then (
  f_X11_where_15 N  zh1)
  else (
  gc (f_X11_isAskedMinute N za2 zh1) fun zt5 zh4 =>
  if (zt5 : Int32) = 0 then (
  f_X11_where_15 N  zh4)
  else (
  gb (gfR 11 3 za0 zh4) fun zt7 =>
  gb (gfR 9 3 zt7 zh4) fun zt8 =>
  gg (gIs 0 zt8 zh4) <|
  gc (f_X0_placeOf N zt8 za1 za2 zh4) fun zt10 zh9 =>
  some (zt10, zh9)))
def f_X11_who_15 (N : Nat) (zh : PH) : Option (Int32 × PH) :=
  some ((-1), zh)
def f_X11_who (N : Nat) (za0 : Nat) (za1 : Int32) (za2 : Int32) (zh : PH) : Option (Int32 × PH) :=
  gg (gIs 11 za0 zh) <|
  gc (f_X11_isRoom N za0 za1 zh) fun zt2 zh1 =>
  if (zt2 : Int32) = 0 then (
  f_X11_who_15 N  zh1)
  else (
  gc (f_X11_isAskedMinute N za2 zh1) fun zt5 zh4 =>
  if (zt5 : Int32) = 0 then (
  f_X11_who_15 N  zh4)
  else (
  gb (gfR 11 3 za0 zh4) fun zt7 =>
  gb (gfR 9 3 zt7 zh4) fun zt8 =>
  gg (gIs 0 zt8 zh4) <|
  gc (f_X0_occupantOf N zt8 za1 za2 zh4) fun zt10 zh9 =>
  some (zt10, zh9)))
def f_X11_letter_69 (N : Nat) (zs0 : Int32) (zh : PH) : Option (Int32 × PH) :=
  some (zs0, zh)
def f_X11_letter_27 (N : Nat) (zh : PH) : Option (Int32 × PH) :=
  some ((-1), zh)
def f_X11_letter (N : Nat) (za0 : Nat) (za1 : Int32) (za2 : Int32) (za3 : Int32) (zh : PH) : Option (Int32 × PH) :=
  gg (gIs 11 za0 zh) <|
  gc (f_X11_isGuest N za0 za1 zh) fun zt2 zh1 =>
  if (zt2 : Int32) = 0 then (
  f_X11_letter_27 N  zh1)
  else (
  gc (f_X11_isAskedMinute N za2 zh1) fun zt5 zh4 =>
  if (zt5 : Int32) = 0 then (
  f_X11_letter_27 N  zh4)
  else (
  gc (f_X11_isAskedMinute N za3 zh4) fun zt8 zh7 =>
  if (zt8 : Int32) = 0 then (
  f_X11_letter_27 N  zh7)
  else (
  if (za2 : Int32) ≤ za3 then (
  gb (gfR 11 3 za0 zh7) fun zt11 =>
  gb (gfR 9 3 zt11 zh7) fun zt12 =>
  gg (gIs 0 zt12 zh7) <|
  gc (f_X0_placeOf N zt12 za1 za2 zh7) fun zt14 zh13 =>
  gg (gIs 11 za0 zh13) <|
  gc (f_X11_isRoom N za0 zt14 zh13) fun zt16 zh15 =>
  if (zt16 : Int32) = 0 then (
  f_X11_letter_69 N (-1) zh15)
  else (
  gb (gfR 11 3 za0 zh15) fun zt18 =>
  gb (gfR 9 3 zt18 zh15) fun zt19 =>
  gg (gIs 0 zt19 zh15) <|
  gc (f_X0_occupantOf N zt19 zt14 za3 zh15) fun zt21 zh20 =>
  f_X11_letter_69 N zt21 zh20))
  else (
  f_X11_letter_27 N  zh7))))
def f_X11_trunk_27 (N : Nat) (zh : PH) : Option (Int32 × PH) :=
  some ((-1), zh)
def f_X11_trunk (N : Nat) (za0 : Nat) (za1 : Int32) (za2 : Int32) (za3 : Int32) (zh : PH) : Option (Int32 × PH) :=
  gg (gIs 11 za0 zh) <|
  gc (f_X11_isRoom N za0 za1 zh) fun zt2 zh1 =>
  if (zt2 : Int32) = 0 then (
  f_X11_trunk_27 N  zh1)
  else (
  gc (f_X11_isAskedMinute N za2 zh1) fun zt5 zh4 =>
  if (zt5 : Int32) = 0 then (
  f_X11_trunk_27 N  zh4)
  else (
  gc (f_X11_isAskedMinute N za3 zh4) fun zt8 zh7 =>
  if (zt8 : Int32) = 0 then (
  f_X11_trunk_27 N  zh7)
  else (
  if (za2 : Int32) ≤ za3 then (
  gb (gfR 11 3 za0 zh7) fun zt11 =>
  gb (gfR 9 3 zt11 zh7) fun zt12 =>
  gg (gIs 0 zt12 zh7) <|
  gc (f_X0_occupantsWithin N zt12 za1 za2 za3 zh7) fun zt14 zh13 =>
  some (zt14, zh13))
  else (
  f_X11_trunk_27 N  zh7))))
def f_X11_sight_55 (N : Nat) (zs0 : Int32) (zh : PH) : Option (Int32 × PH) :=
  some (zs0, zh)
def f_X11_sight_23 (N : Nat) (zh : PH) : Option (Int32 × PH) :=
  some ((-1), zh)
def f_X11_sight (N : Nat) (za0 : Nat) (za1 : Int32) (za2 : Int32) (za3 : Int32) (zh : PH) : Option (Int32 × PH) :=
  gg (gIs 11 za0 zh) <|
  gc (f_X11_isGuest N za0 za1 zh) fun zt2 zh1 =>
  if (zt2 : Int32) = 0 then (
  f_X11_sight_23 N  zh1)
  else (
  gg (gIs 11 za0 zh1) <|
  gc (f_X11_isRoom N za0 za2 zh1) fun zt5 zh4 =>
  if (zt5 : Int32) = 0 then (
  f_X11_sight_23 N  zh4)
  else (
  gc (f_X11_isToldMinute N za3 zh4) fun zt8 zh7 =>
  if (zt8 : Int32) = 0 then (
  f_X11_sight_23 N  zh7)
  else (
  gb (gfR 11 3 za0 zh7) fun zt10 =>
  gb (gfR 9 4 zt10 zh7) fun zt11 =>
  gg (gIs 8 zt11 zh7) <|
  gc (f_X8_add N zt11 za1 za2 za3 zh7) fun zt13 zh12 =>
  if (zt13 : Int32) = 0 then (
  f_X11_sight_55 N (-1) zh12)
  else (
  gb (gfR 11 3 za0 zh12) fun zt15 =>
  gb (gfR 9 4 zt15 zh12) fun zt16 =>
  gb (gfI 8 5 zt16 zh12) fun zt17 =>
  f_X11_sight_55 N zt17 zh12))))
def f_X11_could_15 (N : Nat) (zh : PH) : Option (Int32 × PH) :=
  some ((-1), zh)
def f_X11_could (N : Nat) (za0 : Nat) (za1 : Int32) (za2 : Int32) (zh : PH) : Option (Int32 × PH) :=
  gg (gIs 11 za0 zh) <|
  gc (f_X11_isRoom N za0 za1 zh) fun zt2 zh1 =>
  if (zt2 : Int32) = 0 then (
  f_X11_could_15 N  zh1)
  else (
  gc (f_X11_isToldMinute N za2 zh1) fun zt5 zh4 =>
  if (zt5 : Int32) = 0 then (
  f_X11_could_15 N  zh4)
  else (
  gb (gfR 11 3 za0 zh4) fun zt7 =>
  gb (gfR 9 4 zt7 zh4) fun zt8 =>
  gb (gfR 11 9 za0 zh4) fun zt9 =>
  gg (gIs 8 zt8 zh4) <|
  gc (f_X8_possibleIn N zt8 zt9 za1 za2 zh4) fun zt11 zh10 =>
  some (zt11, zh10)))
def f_X11_liars (N : Nat) (za0 : Nat) (zh : PH) : Option (Int32 × PH) :=
  gb (gfR 11 3 za0 zh) fun zt1 =>
  gb (gfR 9 4 zt1 zh) fun zt2 =>
  gb (gfR 11 9 za0 zh) fun zt3 =>
  gg (gIs 8 zt2 zh) <|
  gc (f_X8_fewestFalse N zt2 zt3 zh) fun zt5 zh4 =>
  some (zt5, zh4)
def f_X11_page_25 (N : Nat) (zh : PH) : Option (Int32 × PH) :=
  some ((-1), zh)
def f_X11_page (N : Nat) (za0 : Nat) (za1 : Int32) (za2 : Int32) (zh : PH) : Option (Int32 × PH) :=
  gg (gIs 11 za0 zh) <|
  gc (f_X11_isGuest N za0 za1 zh) fun zt2 zh1 =>
  if (zt2 : Int32) = 0 then (
  f_X11_page_25 N  zh1)
  else (
  if (za2 : Int32) < 0 then (
  f_X11_page_25 N  zh1)
  else (
  gb (gfR 11 9 za0 zh1) fun zt5 =>
  gb (gfI 2 0 zt5 zh1) fun zt6 =>
  if (za2 : Int32) < (1 <<< (zt6 &&& 31)) then (
  gb (gfR 11 3 za0 zh1) fun zt8 =>
  gb (gfR 9 5 zt8 zh1) fun zt9 =>
  gb (gfR 6 0 zt9 zh1) fun zt10 =>
  gb (asI 0 zt10 za1 za2 zh1) fun zh11 =>
  gb (gfR 11 3 za0 zh11) fun zt12 =>
  gb (gfR 9 5 zt12 zh11) fun zt13 =>
  gg (gIs 6 zt13 zh11) <|
  gc (f_X6_pages N zt13 zh11) fun zt15 zh14 =>
  some (zt15, zh14))
  else (
  f_X11_page_25 N  zh1)))
def f_X11_ways (N : Nat) (za0 : Nat) (zh : PH) : Option (Int64 × PH) :=
  gb (gfR 11 3 za0 zh) fun zt1 =>
  gb (gfR 9 5 zt1 zh) fun zt2 =>
  gb (gfR 11 8 za0 zh) fun zt3 =>
  gb (gfR 11 9 za0 zh) fun zt4 =>
  gb (gfI 2 0 zt4 zh) fun zt5 =>
  gg (gIs 6 zt2 zh) <|
  gc (f_X6_waysInAll N zt2 zt3 zt5 zh) fun zt7 zh6 =>
  some ((Int32.toInt64 zt7), zh6)
def f_X11_sure_34 (N : Nat) (zs0 : Int32) (zh : PH) : Option (Int32 × PH) :=
  some (zs0, zh)
def f_X11_sure (N : Nat) (za0 : Nat) (za1 : Int32) (zh : PH) : Option (Int32 × PH) :=
  gg (gIs 11 za0 zh) <|
  gc (f_X11_isGuest N za0 za1 zh) fun zt2 zh1 =>
  if (zt2 : Int32) = 0 then (
  f_X11_sure_34 N (-1) zh1)
  else (
  gb (gfR 11 3 za0 zh1) fun zt4 =>
  gb (gfR 9 5 zt4 zh1) fun zt5 =>
  gb (gfR 11 8 za0 zh1) fun zt6 =>
  gb (gfR 11 9 za0 zh1) fun zt7 =>
  gb (gfI 2 0 zt7 zh1) fun zt8 =>
  gg (gIs 6 zt5 zh1) <|
  gc (f_X6_onlyRoomOf N zt5 za1 zt6 zt8 zh1) fun zt10 zh9 =>
  f_X11_sure_34 N zt10 zh9)
def f_X11_isJobPart_15 (N : Nat) (zs0 : Int32) (zh : PH) : Option (Int32 × PH) :=
  gg (gzb zs0) (some (zs0, zh))
def f_X11_isJobPart_14 (N : Nat) (zh : PH) : Option (Int32 × PH) :=
  f_X11_isJobPart_15 N 0 zh
def f_X11_isJobPart (N : Nat) (za0 : Int32) (zh : PH) : Option (Int32 × PH) :=
  if (za0 : Int32) < 0 then (
  f_X11_isJobPart_14 N  zh)
  else (
  if (99 : Int32) < za0 then (
  f_X11_isJobPart_14 N  zh)
  else (
  f_X11_isJobPart_15 N 1 zh))
def f_X11_job_57 (N : Nat) (zs0 : Int32) (zh : PH) : Option (Int32 × PH) :=
  some (zs0, zh)
def f_X11_job_25 (N : Nat) (zh : PH) : Option (Int32 × PH) :=
  some ((-1), zh)
def f_X11_job (N : Nat) (za0 : Nat) (za1 : Int32) (za2 : Int32) (za3 : Int32) (zh : PH) : Option (Int32 × PH) :=
  gc (f_X11_isJobPart N za1 zh) fun zt2 zh1 =>
  if (zt2 : Int32) = 0 then (
  f_X11_job_25 N  zh1)
  else (
  gc (f_X11_isJobPart N za2 zh1) fun zt5 zh4 =>
  if (zt5 : Int32) = 0 then (
  f_X11_job_25 N  zh4)
  else (
  if (za2 : Int32) = 0 then (
  f_X11_job_25 N  zh4)
  else (
  gc (f_X11_isJobPart N za3 zh4) fun zt9 zh8 =>
  if (zt9 : Int32) = 0 then (
  f_X11_job_25 N  zh8)
  else (
  gb (gfR 11 3 za0 zh8) fun zt11 =>
  gb (gfR 9 6 zt11 zh8) fun zt12 =>
  gg (gIs 4 zt12 zh8) <|
  gc (f_X4_add N zt12 za1 za2 za3 zh8) fun zt14 zh13 =>
  if (zt14 : Int32) = 0 then (
  f_X11_job_57 N (-1) zh13)
  else (
  gb (gfR 11 3 za0 zh13) fun zt16 =>
  gb (gfR 9 6 zt16 zh13) fun zt17 =>
  gb (gfI 4 3 zt17 zh13) fun zt18 =>
  f_X11_job_57 N zt18 zh13)))))
def f_X11_porters_33 (N : Nat) (zh : PH) : Option (Int32 × PH) :=
  some ((-1), zh)
def f_X11_porters (N : Nat) (za0 : Nat) (za1 : Int32) (zh : PH) : Option (Int32 × PH) :=
  gb (gfR 11 3 za0 zh) fun zt1 =>
  gb (gfR 9 6 zt1 zh) fun zt2 =>
  gb (gfI 4 3 zt2 zh) fun zt3 =>
  if (zt3 : Int32) = 0 then (
  f_X11_porters_33 N  zh)
  else (
  if (za1 : Int32) < 0 then (
  f_X11_porters_33 N  zh)
  else (
  gb (gfR 11 3 za0 zh) fun zt6 =>
  gb (gfR 9 6 zt6 zh) fun zt7 =>
  gb (gfI 4 3 zt7 zh) fun zt8 =>
  if (za1 : Int32) < (3 + zt8) then (
  gb (gfR 11 5 za0 zh) fun zt10 =>
  gb (gfR 11 3 za0 zh) fun zt11 =>
  gb (gfR 9 6 zt11 zh) fun zt12 =>
  gg (gIs 5 zt10 zh) <|
  gb (f_X5_make N zt10 zt12 zh) fun zh13 =>
  if (za1 : Int32) = 0 then (
  gb (gfR 11 5 za0 zh13) fun zt15 =>
  gb (gfI 5 1 zt15 zh13) fun zt16 =>
  some (zt16, zh13))
  else (
  if (za1 : Int32) = 1 then (
  gb (gfR 11 5 za0 zh13) fun zt18 =>
  gg (gIs 5 zt18 zh13) <|
  gc (f_X5_waits N zt18 zh13) fun zt20 zh19 =>
  some (zt20, zh19))
  else (
  if (za1 : Int32) = 2 then (
  gb (gfR 11 5 za0 zh13) fun zt22 =>
  gg (gIs 5 zt22 zh13) <|
  gc (f_X5_portersNeeded N zt22 zh13) fun zt24 zh23 =>
  some (zt24, zh23))
  else (
  gb (gfR 11 5 za0 zh13) fun zt25 =>
  gb (gfR 5 0 zt25 zh13) fun zt26 =>
  gb (arI 0 zt26 (za1 - 3) zh13) fun zt27 =>
  some (zt27, zh13)))))
  else (
  f_X11_porters_33 N  zh)))
def f_X11_told_27 (N : Nat) (zs0 : Int32) (zh : PH) : Option (Int32 × PH) :=
  some (zs0, zh)
def f_X11_told (N : Nat) (za0 : Nat) (zh : PH) : Option (Int32 × PH) :=
  gb (gfR 11 3 za0 zh) fun zt1 =>
  gb (gfR 9 6 zt1 zh) fun zt2 =>
  gb (gfI 4 3 zt2 zh) fun zt3 =>
  if (zt3 : Int32) = 0 then (
  f_X11_told_27 N (-1) zh)
  else (
  gb (gfR 11 3 za0 zh) fun zt5 =>
  gb (gfR 9 6 zt5 zh) fun zt6 =>
  gg (gIs 4 zt6 zh) <|
  gc (f_X4_doneAsTold N zt6 zh) fun zt8 zh7 =>
  f_X11_told_27 N zt8 zh7)
def f_X11_clear (N : Nat) (za0 : Nat) (zh : PH) : Option (Int32 × PH) :=
  gb (gfR 11 3 za0 zh) fun zt1 =>
  gb (gfR 9 4 zt1 zh) fun zt2 =>
  gb (pfV 8 5 zt2 (.int 0) zh) fun zh3 =>
  gb (gfR 11 3 za0 zh3) fun zt4 =>
  gb (gfR 9 6 zt4 zh3) fun zt5 =>
  gb (pfV 4 3 zt5 (.int 0) zh3) fun zh6 =>
  gg (gzb 1) (some (1, zh6))
def f_X11_book_51 (N : Nat) (zh : PH) : Option (Int32 × PH) :=
  some ((-1), zh)
def f_X11_book (N : Nat) (za0 : Nat) (za1 : Int32) (zh : PH) : Option (Int32 × PH) :=
  if (0 : Int32) ≤ za1 then (
  gg (gIs 11 za0 zh) <|
  gc (f_X11_isGuest N za0 za1 zh) fun zt3 zh2 =>
  if (zt3 : Int32) = 0 then (
  f_X11_book_51 N  zh2)
  else (
  gb (gfR 11 3 za0 zh2) fun zt5 =>
  gb (gfR 9 1 zt5 zh2) fun zt6 =>
  gg (gIs 1 zt6 zh2) <|
  gc (f_X1_isIn N zt6 za1 zh2) fun zt8 zh7 =>
  if (zt8 : Int32) = 0 then (
  gb (gfR 11 3 za0 zh7) fun zt10 =>
  gb (gfI 9 7 zt10 zh7) fun zt11 =>
  gc (f_X11_bitOf N zt11 za1 zh7) fun zt13 zh12 =>
  if (zt13 : Int32) = 1 then (
  f_X11_book_51 N  zh12)
  else (
  gb (gfR 11 3 za0 zh12) fun zt15 =>
  gb (gfI 9 7 zt15 zh12) fun zt16 =>
  gc (f_J6_bitCount_0f7a4 N zt16 zh12) fun zt18 zh17 =>
  if (zt18 : Int32) < 7 then (
  gb (gfR 11 3 za0 zh17) fun zt20 =>
  gb (gfI 9 7 zt20 zh17) fun zt21 =>
  gb (pfV 9 7 zt20 (.int (zt21 ||| (1 <<< (za1 &&& 31)))) zh17) fun zh22 =>
  gb (gfR 11 3 za0 zh22) fun zt23 =>
  gb (gfI 9 7 zt23 zh22) fun zt24 =>
  gc (f_J6_bitCount_0f7a4 N zt24 zh22) fun zt26 zh25 =>
  some (zt26, zh25))
  else (
  some ((-1), zh17))))
  else (
  f_X11_book_51 N  zh7)))
  else (
  gb (gfR 11 3 za0 zh) fun zt27 =>
  gb (pfV 9 7 zt27 (.int 0) zh) fun zh28 =>
  some (0, zh28))
