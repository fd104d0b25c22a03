def f_X3_takeNumber (N : Nat) (za0 : Nat) (za1 : Int32) (zh : PH) : Option (Int32 × PH) :=
  gb (gfR 3 0 za0 zh) fun zt1 =>
  gb (gfI 10 2 zt1 zh) fun zt2 =>
  if (zt2 : Int32) = 2 then (
  gb (gfR 3 0 za0 zh) fun zt4 =>
  gb (gfI 10 4 zt4 zh) fun zt5 =>
  if (zt5 : Int32) ≤ za1 then (
  gb (gfR 3 0 za0 zh) fun zt7 =>
  gg (gIs 10 zt7 zh) <|
  gb (f_X10_advance N zt7 zh) fun zh8 =>
  some (zt5, zh8))
  else (
  gg (gIs 3 za0 zh) <|
  gc (f_X3_isWrong N za0 4 zh) fun zt10 zh9 =>
  some ((-1), zh9)))
  else (
  gg (gIs 3 za0 zh) <|
  gc (f_X3_isWrong N za0 1 zh) fun zt12 zh11 =>
  some ((-1), zh11))
def f_X3_readRoom (N : Nat) (za0 : Nat) (zh : PH) : Option (Int32 × PH) :=
  gb (gfR 3 1 za0 zh) fun zt1 =>
  gb (gfI 2 0 zt1 zh) fun zt2 =>
  if (zt2 : Int32) = 10 then (
  gg (gIs 3 za0 zh) <|
  gc (f_X3_isWrong N za0 5 zh) fun zt15 zh14 =>
  gg (gzb zt15) (some (zt15, zh14)))
  else (
  gb (gfR 3 0 za0 zh) fun zt4 =>
  gg (gIs 10 zt4 zh) <|
  gb (f_X10_advance N zt4 zh) fun zh5 =>
  gg (gIs 3 za0 zh5) <|
  gc (f_X3_takeNumber N za0 9 zh5) fun zt7 zh6 =>
  if (zt7 : Int32) = (-1) then (
  gg (gzb 0) (some (0, zh6)))
  else (
  gg (gIs 3 za0 zh6) <|
  gc (f_X3_takeNumber N za0 1 zh6) fun zt10 zh9 =>
  if (zt10 : Int32) = (-1) then (
  gg (gzb 0) (some (0, zh9)))
  else (
  gb (gfR 3 1 za0 zh9) fun zt12 =>
  gg (gIs 2 zt12 zh9) <|
  gb (f_X2_addRoom N zt12 zt7 zt10 zh9) fun zh13 =>
  gg (gzb 1) (some (1, zh13)))))
def f_X3_takeSign (N : Nat) (za0 : Nat) (za1 : Int32) (zh : PH) : Option (Int32 × PH) :=
  gb (gfR 3 0 za0 zh) fun zt1 =>
  gb (gfI 10 2 zt1 zh) fun zt2 =>
  if (zt2 : Int32) = za1 then (
  gb (gfR 3 0 za0 zh) fun zt4 =>
  gg (gIs 10 zt4 zh) <|
  gb (f_X10_advance N zt4 zh) fun zh5 =>
  gg (gzb 1) (some (1, zh5)))
  else (
  gg (gIs 3 za0 zh) <|
  gc (f_X3_isWrong N za0 1 zh) fun zt7 zh6 =>
  gg (gzb zt7) (some (zt7, zh6)))
def f_X4_init (N : Nat) (za0 : Nat) (zh : PH) : Option PH :=
  gc (nwA 0 7 zh) fun zr2 zh1 =>
  gb (pfV 4 0 za0 (.ref zr2) zh1) fun zh3 =>
  gc (nwA 0 7 zh3) fun zr5 zh4 =>
  gb (pfV 4 1 za0 (.ref zr5) zh4) fun zh6 =>
  gc (nwA 0 7 zh6) fun zr8 zh7 =>
  gb (pfV 4 2 za0 (.ref zr8) zh7) fun zh9 =>
  some zh9
def f_X4_copyFrom (N : Nat) (za0 : Nat) (za1 : Nat) (zh : PH) : Option PH :=
  gb (gfR 4 0 za1 zh) fun zt1 =>
  gb (gfR 4 0 za0 zh) fun zt2 =>
  gb (cpI 0 zt1 0 zt2 0 7 zh) fun zh3 =>
  gb (gfR 4 1 za1 zh3) fun zt4 =>
  gb (gfR 4 1 za0 zh3) fun zt5 =>
  gb (cpI 0 zt4 0 zt5 0 7 zh3) fun zh6 =>
  gb (gfR 4 2 za1 zh6) fun zt7 =>
  gb (gfR 4 2 za0 zh6) fun zt8 =>
  gb (cpI 0 zt7 0 zt8 0 7 zh6) fun zh9 =>
  gb (gfI 4 3 za1 zh9) fun zt10 =>
  gb (pfV 4 3 za0 (.int zt10) zh9) fun zh11 =>
  some zh11
def f_X4_add (N : Nat) (za0 : Nat) (za1 : Int32) (za2 : Int32) (za3 : Int32) (zh : PH) : Option (Int32 × PH) :=
  gb (gfI 4 3 za0 zh) fun zt1 =>
  if (zt1 : Int32) < 7 then (
  gb (gfR 4 0 za0 zh) fun zt3 =>
  gb (gfI 4 3 za0 zh) fun zt4 =>
  gb (asI 0 zt3 zt4 za1 zh) fun zh5 =>
  gb (gfR 4 1 za0 zh5) fun zt6 =>
  gb (gfI 4 3 za0 zh5) fun zt7 =>
  gb (asI 0 zt6 zt7 za2 zh5) fun zh8 =>
  gb (gfR 4 2 za0 zh8) fun zt9 =>
  gb (gfI 4 3 za0 zh8) fun zt10 =>
  gb (asI 0 zt9 zt10 za3 zh8) fun zh11 =>
  gb (gfI 4 3 za0 zh11) fun zt12 =>
  gb (pfV 4 3 za0 (.int (zt12 + 1)) zh11) fun zh13 =>
  gg (gzb 1) (some (1, zh13)))
  else (
  gg (gzb 0) (some (0, zh)))
def f_X4_doneAsTold_6 (N : Nat) (zk6 : (Nat × Int32 × Int32 × Int32 × PH) → Option (Int32 × PH)) (zv0 : Nat) (zv1 : Int32) (zv2 : Int32) (zv3 : Int32) (zh : PH) : Option (Int32 × PH) :=
  gb (gfI 4 3 zv0 zh) fun zt1 =>
  if (zt1 : Int32) ≤ zv3 then (
  some (zv1, zh))
  else (
  gb (gfR 4 0 zv0 zh) fun zt3 =>
  gb (arI 0 zt3 zv3 zh) fun zt4 =>
  gb (gfR 4 1 zv0 zh) fun zt5 =>
  gb (arI 0 zt5 zv3 zh) fun zt6 =>
  gl (((gmax zv2 zt4) + zt6)) fun (zx7 : Int32) =>
  gb (gfR 4 2 zv0 zh) fun zt8 =>
  gb (arI 0 zt8 zv3 zh) fun zt9 =>
  gl ((gmax zv1 (zx7 + zt9))) fun (zx10 : Int32) =>
  gl (zv3 + 1) fun (zx11 : Int32) =>
  zk6 (zv0, zx10, zx7, zx11, zh))
def f_X4_doneAsTold (N : Nat) (za0 : Nat) (zh : PH) : Option (Int32 × PH) :=
  gi (fun zk zs => f_X4_doneAsTold_6 N zk zs.1 zs.2.1 zs.2.2.1 zs.2.2.2.1 zs.2.2.2.2) N (za0, 0, 0, 0, zh)
def f_X5_init (N : Nat) (za0 : Nat) (zh : PH) : Option PH :=
  gc (nwA 0 7 zh) fun zr2 zh1 =>
  gb (pfV 5 0 za0 (.ref zr2) zh1) fun zh3 =>
  gc (nwA 0 7 zh3) fun zr5 zh4 =>
  gb (pfV 5 3 za0 (.ref zr5) zh4) fun zh6 =>
  gc (nwA 0 128 zh6) fun zr8 zh7 =>
  gb (pfV 5 4 za0 (.ref zr8) zh7) fun zh9 =>
  some zh9
def f_X5_latestStart (N : Nat) (za0 : Nat) (za1 : Int32) (za2 : Int32) (za3 : Int32) (zh : PH) : Option (Int32 × PH) :=
  gb (gfR 5 4 za0 zh) fun zt1 =>
  gb (arI 0 zt1 (za2 &&& ((1 <<< (za1 &&& 31)) ^^^ (-1))) zh) fun zt2 =>
  gb (gfR 5 2 za0 zh) fun zt3 =>
  gb (gfR 4 2 zt3 zh) fun zt4 =>
  gb (arI 0 zt4 za1 zh) fun zt5 =>
  gb (gfR 5 2 za0 zh) fun zt6 =>
  gb (gfR 4 1 zt6 zh) fun zt7 =>
  gb (arI 0 zt7 za1 zh) fun zt8 =>
  some (((gmin zt2 (za3 - zt5)) - zt8), zh)
def f_X5_canBeDoneBy_128 (N : Nat) (zs0 : Int32) (zh : PH) : Option (Int32 × PH) :=
  gg (gzb zs0) (some (zs0, zh))
def f_X5_canBeDoneBy_93 (N : Nat) (zk21 : (Nat × Int32 × Int32 × Int32 × PH) → Option (Int32 × PH)) (zk32 : (Nat × Int32 × Int32 × Int32 × Int32 × Int32 × PH) → Option (Int32 × PH)) (zv0 : Nat) (zv1 : Int32) (zv2 : Int32) (zv3 : Int32) (zv4 : Int32) (zv5 : Int32) (zh : PH) : Option (Int32 × PH) :=
  gl (zv5 + 1) fun (zx1 : Int32) =>
  zk32 (zv0, zv1, zv2, zv3, zv4, zx1, zh)
def f_X5_canBeDoneBy_91 (N : Nat) (zk21 : (Nat × Int32 × Int32 × Int32 × PH) → Option (Int32 × PH)) (zk32 : (Nat × Int32 × Int32 × Int32 × Int32 × Int32 × PH) → Option (Int32 × PH)) (zv0 : Nat) (zv1 : Int32) (zv2 : Int32) (zv3 : Int32) (zv5 : Int32) (zs0 : Int32) (zh : PH) : Option (Int32 × PH) :=
  f_X5_canBeDoneBy_93 N zk21 zk32 zv0 zv1 zv2 zv3 zs0 zv5 zh
def f_X5_canBeDoneBy_32 (N : Nat) (zk21 : (Nat × Int32 × Int32 × Int32 × PH) → Option (Int32 × PH)) (zk32 : (Nat × Int32 × Int32 × Int32 × Int32 × Int32 × PH) → Option (Int32 × PH)) (zv0 : Nat) (zv1 : Int32) (zv2 : Int32) (zv3 : Int32) (zv4 : Int32) (zv5 : Int32) (zh : PH) : Option (Int32 × PH) :=
  gb (gfR 5 2 zv0 zh) fun zt1 =>
  gb (gfI 4 3 zt1 zh) fun zt2 =>
  if (zt2 : Int32) ≤ zv5 then (
  gb (gfR 5 4 zv0 zh) fun zt4 =>
  gb (asI 0 zt4 zv3 zv4 zh) fun zh5 =>
  gl (zv3 + 1) fun (zx6 : Int32) =>
  zk21 (zv0, zv1, zv2, zx6, zh5))
  else (
  gc (f_X11_bitOf N zv3 zv5 zh) fun zt8 zh7 =>
  if (zt8 : Int32) = 1 then (
  gg (gIs 5 zv0 zh7) <|
  gc (f_X5_latestStart N zv0 zv5 zv3 zv1 zh7) fun zt11 zh10 =>
  gb (gfR 5 2 zv0 zh10) fun zt12 =>
  gb (gfR 4 0 zt12 zh10) fun zt13 =>
  gb (arI 0 zt13 zv5 zh10) fun zt14 =>
  if (zt11 : Int32) < zt14 then (
  f_X5_canBeDoneBy_91 N zk21 zk32 zv0 zv1 zv2 zv3 zv5 zv4 zh10)
  else (
  f_X5_canBeDoneBy_91 N zk21 zk32 zv0 zv1 zv2 zv3 zv5 (gmax zv4 zt11) zh10))
  else (
  f_X5_canBeDoneBy_93 N zk21 zk32 zv0 zv1 zv2 zv3 zv4 zv5 zh7))
def f_X5_canBeDoneBy_21 (N : Nat) (zk21 : (Nat × Int32 × Int32 × Int32 × PH) → Option (Int32 × PH)) (zv0 : Nat) (zv1 : Int32) (zv2 : Int32) (zv3 : Int32) (zh : PH) : Option (Int32 × PH) :=
  if (zv2 : Int32) < zv3 then (
  gb (gfR 5 4 zv0 zh) fun zt2 =>
  gb (arI 0 zt2 zv2 zh) fun zt3 =>
  if (zt3 : Int32) = (-1) then (
  f_X5_canBeDoneBy_128 N 0 zh)
  else (
  f_X5_canBeDoneBy_128 N 1 zh))
  else (
  gi (fun zk zs => f_X5_canBeDoneBy_32 N zk21 zk zs.1 zs.2.1 zs.2.2.1 zs.2.2.2.1 zs.2.2.2.2.1 zs.2.2.2.2.2.1 zs.2.2.2.2.2.2) N (zv0, zv1, zv2, zv3, (-1), 0, zh))
def f_X5_canBeDoneBy (N : Nat) (za0 : Nat) (za1 : Int32) (zh : PH) : Option (Int32 × PH) :=
  gb (gfR 5 4 za0 zh) fun zt1 =>
  gb (asI 0 zt1 0 za1 zh) fun zh2 =>
  gb (gfR 5 2 za0 zh2) fun zt3 =>
  gb (gfI 4 3 zt3 zh2) fun zt4 =>
  gl (((1 <<< (zt4 &&& 31)) - 1)) fun (zx5 : Int32) =>
  gi (fun zk zs => f_X5_canBeDoneBy_21 N zk zs.1 zs.2.1 zs.2.2.1 zs.2.2.2.1 zs.2.2.2.2) N (za0, za1, zx5, 1, zh2)
def f_X5_firstInTime_50 (N : Nat) (zk2 : (Nat × Int32 × Int32 × Int32 × PH) → Option (Int32 × PH)) (zv0 : Nat) (zv1 : Int32) (zv2 : Int32) (zv3 : Int32) (zh : PH) : Option (Int32 × PH) :=
  gl (zv3 + 1) fun (zx1 : Int32) =>
  zk2 (zv0, zv1, zv2, zx1, zh)
def f_X5_firstInTime_2 (N : Nat) (zk2 : (Nat × Int32 × Int32 × Int32 × PH) → Option (Int32 × PH)) (zv0 : Nat) (zv1 : Int32) (zv2 : Int32) (zv3 : Int32) (zh : PH) : Option (Int32 × PH) :=
  gb (gfR 5 2 zv0 zh) fun zt1 =>
  gb (gfI 4 3 zt1 zh) fun zt2 =>
  if (zt2 : Int32) ≤ zv3 then (
  some ((-1), zh))
  else (
  gc (f_X11_bitOf N zv1 zv3 zh) fun zt5 zh4 =>
  if (zt5 : Int32) = 1 then (
  gb (gfR 5 2 zv0 zh4) fun zt7 =>
  gb (gfR 4 0 zt7 zh4) fun zt8 =>
  gb (arI 0 zt8 zv3 zh4) fun zt9 =>
  gb (gfI 5 1 zv0 zh4) fun zt10 =>
  gg (gIs 5 zv0 zh4) <|
  gc (f_X5_latestStart N zv0 zv3 zv1 zt10 zh4) fun zt12 zh11 =>
  if (zt12 : Int32) < (gmax zv2 zt9) then (
  f_X5_firstInTime_50 N zk2 zv0 zv1 zv2 zv3 zh11)
  else (
  some (zv3, zh11)))
  else (
  f_X5_firstInTime_50 N zk2 zv0 zv1 zv2 zv3 zh4))
def f_X5_firstInTime (N : Nat) (za0 : Nat) (za1 : Int32) (za2 : Int32) (zh : PH) : Option (Int32 × PH) :=
  gi (fun zk zs => f_X5_firstInTime_2 N zk zs.1 zs.2.1 zs.2.2.1 zs.2.2.2.1 zs.2.2.2.2) N (za0, za1, za2, 0, zh)
def f_X5_takeFirstOrder_16 (N : Nat) (zk16 : (Nat × Int32 × Int32 × Int32 × PH) → Option PH) (zv0 : Nat) (zv1 : Int32) (zv2 : Int32) (zv3 : Int32) (zh : PH) : Option PH :=
  gb (gfR 5 2 zv0 zh) fun zt1 =>
  gb (gfI 4 3 zt1 zh) fun zt2 =>
  if (zt2 : Int32) ≤ zv3 then (
  some zh)
  else (
  gg (gIs 5 zv0 zh) <|
  gc (f_X5_firstInTime N zv0 zv1 zv2 zh) fun zt5 zh4 =>
  if (zt5 : Int32) = (-1) then (
  some zh4)
  else (
  gb (gfR 5 0 zv0 zh4) fun zt7 =>
  gb (asI 0 zt7 zv3 zt5 zh4) fun zh8 =>
  gb (gfR 5 3 zv0 zh8) fun zt9 =>
  gb (gfR 5 2 zv0 zh8) fun zt10 =>
  gb (gfR 4 0 zt10 zh8) fun zt11 =>
  gb (arI 0 zt11 zt5 zh8) fun zt12 =>
  gb (asI 0 zt9 zt5 (gmax zv2 zt12) zh8) fun zh13 =>
  gb (gfR 5 3 zv0 zh13) fun zt14 =>
  gb (arI 0 zt14 zt5 zh13) fun zt15 =>
  gb (gfR 5 2 zv0 zh13) fun zt16 =>
  gb (gfR 4 1 zt16 zh13) fun zt17 =>
  gb (arI 0 zt17 zt5 zh13) fun zt18 =>
  gl ((zt15 + zt18)) fun (zx19 : Int32) =>
  gl ((zv1 &&& ((1 <<< (zt5 &&& 31)) ^^^ (-1)))) fun (zx20 : Int32) =>
  gl (zv3 + 1) fun (zx21 : Int32) =>
  zk16 (zv0, zx20, zx19, zx21, zh13)))
def f_X5_takeFirstOrder (N : Nat) (za0 : Nat) (zh : PH) : Option PH :=
  gb (gfR 5 2 za0 zh) fun zt1 =>
  gb (gfI 4 3 zt1 zh) fun zt2 =>
  gl (((1 <<< (zt2 &&& 31)) - 1)) fun (zx3 : Int32) =>
  gi (fun zk zs => f_X5_takeFirstOrder_16 N zk zs.1 zs.2.1 zs.2.2.1 zs.2.2.2.1 zs.2.2.2.2) N (za0, zx3, 0, 0, zh)
def f_X5_make_63 (N : Nat) (zv0 : Nat) (zv3 : Int32) (zh : PH) : Option PH :=
  gb (pfV 5 1 zv0 (.int zv3) zh) fun zh1 =>
  gb (gfI 5 1 zv0 zh1) fun zt2 =>
  gg (gIs 5 zv0 zh1) <|
  gc (f_X5_canBeDoneBy N zv0 zt2 zh1) fun zt4 zh3 =>
  gg (gIs 5 zv0 zh3) <|
  gb (f_X5_takeFirstOrder N zv0 zh3) fun zh5 =>
  some zh5
def f_X5_make_57 (N : Nat) (zk18 : (Nat × Int32 × Int32 × Int32 × PH) → Option PH) (zv0 : Nat) (zv2 : Int32) (zv3 : Int32) (zv4 : Int32) (zh : PH) : Option PH :=
  gl (zv4 + 1) fun (zx1 : Int32) =>
  zk18 (zv0, zv2, zv3, zx1, zh)
def f_X5_make_18 (N : Nat) (zk18 : (Nat × Int32 × Int32 × Int32 × PH) → Option PH) (zv0 : Nat) (zv2 : Int32) (zv3 : Int32) (zv4 : Int32) (zh : PH) : Option PH :=
  if (32 : Int32) ≤ zv4 then (
  f_X5_make_63 N zv0 zv3 zh)
  else (
  if (zv3 : Int32) ≤ zv2 then (
  f_X5_make_63 N zv0 zv3 zh)
  else (
  gl (((zv2 + zv3) / 2)) fun (zx3 : Int32) =>
  gg (gIs 5 zv0 zh) <|
  gc (f_X5_canBeDoneBy N zv0 zx3 zh) fun zt5 zh4 =>
  if (zt5 : Int32) = 0 then (
  gl ((zx3 + 1)) fun (zx7 : Int32) =>
  f_X5_make_57 N zk18 zv0 zx7 zv3 zv4 zh4)
  else (
  f_X5_make_57 N zk18 zv0 zv2 zx3 zv4 zh4)))
def f_X5_make (N : Nat) (za0 : Nat) (za1 : Nat) (zh : PH) : Option PH :=
  gb (pfV 5 2 za0 (.ref za1) zh) fun zh1 =>
  gb (gfR 5 2 za0 zh1) fun zt2 =>
  gg (gIs 4 zt2 zh1) <|
  gc (f_X4_doneAsTold N zt2 zh1) fun zt4 zh3 =>
  gi (fun zk zs => f_X5_make_18 N zk zs.1 zs.2.1 zs.2.2.1 zs.2.2.2.1 zs.2.2.2.2) N (za0, 0, zt4, 0, zh3)
def f_X5_waits_4 (N : Nat) (zk4 : (Nat × Int32 × Int32 × PH) → Option (Int32 × PH)) (zv0 : Nat) (zv1 : Int32) (zv2 : Int32) (zh : PH) : Option (Int32 × PH) :=
  gb (gfR 5 2 zv0 zh) fun zt1 =>
  gb (gfI 4 3 zt1 zh) fun zt2 =>
  if (zt2 : Int32) ≤ zv2 then (
  some (zv1, zh))
  else (
  gb (gfR 5 3 zv0 zh) fun zt4 =>
  gb (arI 0 zt4 zv2 zh) fun zt5 =>
  gb (gfR 5 2 zv0 zh) fun zt6 =>
  gb (gfR 4 0 zt6 zh) fun zt7 =>
  gb (arI 0 zt7 zv2 zh) fun zt8 =>
  gl ((zv1 + (zt5 - zt8))) fun (zx9 : Int32) =>
  gl (zv2 + 1) fun (zx10 : Int32) =>
  zk4 (zv0, zx9, zx10, zh))
def f_X5_waits (N : Nat) (za0 : Nat) (zh : PH) : Option (Int32 × PH) :=
  gi (fun zk zs => f_X5_waits_4 N zk zs.1 zs.2.1 zs.2.2.1 zs.2.2.2) N (za0, 0, 0, zh)
def f_X5_isAtWork_57 (N : Nat) (zs0 : Int32) (zh : PH) : Option (Int32 × PH) :=
  gg (gzb zs0) (some (zs0, zh))
def f_X5_isAtWork_56 (N : Nat) (zh : PH) : Option (Int32 × PH) :=
  f_X5_isAtWork_57 N 0 zh
def f_X5_isAtWork (N : Nat) (za0 : Nat) (za1 : Int32) (za2 : Int32) (zh : PH) : Option (Int32 × PH) :=
  gb (gfR 5 3 za0 zh) fun zt1 =>
  gb (arI 0 zt1 za1 zh) fun zt2 =>
  gb (gfR 5 2 za0 zh) fun zt3 =>
  gb (gfR 4 1 zt3 zh) fun zt4 =>
  gb (arI 0 zt4 za1 zh) fun zt5 =>
  gb (gfR 5 2 za0 zh) fun zt6 =>
  gb (gfR 4 2 zt6 zh) fun zt7 =>
  gb (arI 0 zt7 za1 zh) fun zt8 =>
  gl (((zt2 + zt5) + zt8)) fun (zx9 : Int32) =>
  gb (gfR 5 3 za0 zh) fun zt10 =>
  gb (arI 0 zt10 za1 zh) fun zt11 =>
  gb (gfR 5 2 za0 zh) fun zt12 =>
  gb (gfR 4 0 zt12 zh) fun zt13 =>
  gb (arI 0 zt13 za1 zh) fun zt14 =>
  if (za2 : Int32) < (zt11 - zt14) then (
  f_X5_isAtWork_56 N  zh)
  else (
  if (zx9 : Int32) ≤ za2 then (
  f_X5_isAtWork_56 N  zh)
  else (
  f_X5_isAtWork_57 N 1 zh))
def f_X5_portersNeeded_63 (N : Nat) (zk4 : (Nat × Int32 × Int32 × PH) → Option (Int32 × PH)) (zk20 : (Nat × Int32 × Int32 × Int32 × Int32 × PH) → Option (Int32 × PH)) (zv0 : Nat) (zv1 : Int32) (zv2 : Int32) (zv4 : Int32) (zs0 : Int32) (zs1 : Int32) (zh : PH) : Option (Int32 × PH) :=
  gl ((zs1 + zs0)) fun (zx1 : Int32) =>
  gl (zv4 + 1) fun (zx2 : Int32) =>
  zk20 (zv0, zv1, zv2, zx1, zx2, zh)
def f_X5_portersNeeded_20 (N : Nat) (zk4 : (Nat × Int32 × Int32 × PH) → Option (Int32 × PH)) (zk20 : (Nat × Int32 × Int32 × Int32 × Int32 × PH) → Option (Int32 × PH)) (zv0 : Nat) (zv1 : Int32) (zv2 : Int32) (zv3 : Int32) (zv4 : Int32) (zh : PH) : Option (Int32 × PH) :=
  gb (gfR 5 2 zv0 zh) fun zt1 =>
  gb (gfI 4 3 zt1 zh) fun zt2 =>
  if (zt2 : Int32) ≤ zv4 then (
  gl ((gmax zv1 zv3)) fun (zx4 : Int32) =>
  gl (zv2 + 1) fun (zx5 : Int32) =>
  zk4 (zv0, zx4, zx5, zh))
  else (
  gb (gfR 5 3 zv0 zh) fun zt6 =>
  gb (arI 0 zt6 zv2 zh) fun zt7 =>
  gb (gfR 5 2 zv0 zh) fun zt8 =>
  gb (gfR 4 0 zt8 zh) fun zt9 =>
  gb (arI 0 zt9 zv2 zh) fun zt10 =>
  gg (gIs 5 zv0 zh) <|
  gc (f_X5_isAtWork N zv0 zv4 (zt7 - zt10) zh) fun zt12 zh11 =>
  if (zt12 : Int32) = 0 then (
  f_X5_portersNeeded_63 N zk4 zk20 zv0 zv1 zv2 zv4 0 zv3 zh11)
  else (
  f_X5_portersNeeded_63 N zk4 zk20 zv0 zv1 zv2 zv4 1 zv3 zh11))
def f_X5_portersNeeded_4 (N : Nat) (zk4 : (Nat × Int32 × Int32 × PH) → Option (Int32 × PH)) (zv0 : Nat) (zv1 : Int32) (zv2 : Int32) (zh : PH) : Option (Int32 × PH) :=
  gb (gfR 5 2 zv0 zh) fun zt1 =>
  gb (gfI 4 3 zt1 zh) fun zt2 =>
  if (zt2 : Int32) ≤ zv2 then (
  some (zv1, zh))
  else (
  gi (fun zk zs => f_X5_portersNeeded_20 N zk4 zk zs.1 zs.2.1 zs.2.2.1 zs.2.2.2.1 zs.2.2.2.2.1 zs.2.2.2.2.2) N (zv0, zv1, zv2, 0, 0, zh))
def f_X5_portersNeeded (N : Nat) (za0 : Nat) (zh : PH) : Option (Int32 × PH) :=
  gi (fun zk zs => f_X5_portersNeeded_4 N zk zs.1 zs.2.1 zs.2.2.1 zs.2.2.2) N (za0, 0, 0, zh)
def f_X6_init (N : Nat) (za0 : Nat) (zh : PH) : Option PH :=
  gc (nwA 0 10 zh) fun zr2 zh1 =>
  gb (pfV 6 0 za0 (.ref zr2) zh1) fun zh3 =>
  gc (nwA 0 10 zh3) fun zr5 zh4 =>
  gb (pfV 6 1 za0 (.ref zr5) zh4) fun zh6 =>
  some zh6
def f_X6_pages_25 (N : Nat) (zk4 : (Nat × Int32 × Int32 × PH) → Option (Int32 × PH)) (zv0 : Nat) (zv2 : Int32) (zs0 : Int32) (zs1 : Int32) (zh : PH) : Option (Int32 × PH) :=
  gl ((zs1 + zs0)) fun (zx1 : Int32) =>
  gl (zv2 + 1) fun (zx2 : Int32) =>
  zk4 (zv0, zx1, zx2, zh)
def f_X6_pages_4 (N : Nat) (zk4 : (Nat × Int32 × Int32 × PH) → Option (Int32 × PH)) (zv0 : Nat) (zv1 : Int32) (zv2 : Int32) (zh : PH) : Option (Int32 × PH) :=
  if (10 : Int32) ≤ zv2 then (
  some (zv1, zh))
  else (
  gb (gfR 6 0 zv0 zh) fun zt2 =>
  gb (arI 0 zt2 zv2 zh) fun zt3 =>
  if (zt3 : Int32) = 0 then (
  f_X6_pages_25 N zk4 zv0 zv2 0 zv1 zh)
  else (
  f_X6_pages_25 N zk4 zv0 zv2 1 zv1 zh))
def f_X6_pages (N : Nat) (za0 : Nat) (zh : PH) : Option (Int32 × PH) :=
  gi (fun zk zs => f_X6_pages_4 N zk zs.1 zs.2.1 zs.2.2.1 zs.2.2.2) N (za0, 0, 0, zh)
def f_J6_bitCount_0f7a4 (N : Nat) (za0 : Int32) (zh : PH) : Option (Int32 × PH) :=
  gl ((za0 - (((Int32.toUInt32 za0 >>> (Int32.toUInt32 1 &&& Int32.toUInt32 31)).toInt32) &&& 1431655765))) fun (zx1 : Int32) =>
  gl (((zx1 &&& 858993459) + (((Int32.toUInt32 zx1 >>> (Int32.toUInt32 2 &&& Int32.toUInt32 31)).toInt32) &&& 858993459))) fun (zx2 : Int32) =>
  gl (((zx2 + ((Int32.toUInt32 zx2 >>> (Int32.toUInt32 4 &&& Int32.toUInt32 31)).toInt32)) &&& 252645135)) fun (zx3 : Int32) =>
  gl ((zx3 + ((Int32.toUInt32 zx3 >>> (Int32.toUInt32 8 &&& Int32.toUInt32 31)).toInt32))) fun (zx4 : Int32) =>
  gl ((zx4 + ((Int32.toUInt32 zx4 >>> (Int32.toUInt32 16 &&& Int32.toUInt32 31)).toInt32))) fun (zx5 : Int32) =>
  some ((zx5 &&& 63), zh)
def f_X6_placeNext_37 (N : Nat) (zk3 : (Nat × Int32 × Int32 × Int32 × Int32 × PH) → Option PH) (zv0 : Nat) (zv1 : Int32) (zv2 : Int32) (zv3 : Int32) (zv4 : Int32) (zh : PH) : Option PH :=
  gl (zv4 + 1) fun (zx1 : Int32) =>
  zk3 (zv0, zv1, zv2, zv3, zx1, zh)
def f_X6_placeNext_3 (N : Nat) (zk3 : (Nat × Int32 × Int32 × Int32 × Int32 × PH) → Option PH) (zv0 : Nat) (zv1 : Int32) (zv2 : Int32) (zv3 : Int32) (zv4 : Int32) (zh : PH) : Option PH :=
  if (zv3 : Int32) ≤ zv4 then (
  some zh)
  else (
  gc (f_X11_bitOf N (zv2 &&& (zv1 ^^^ (-1))) zv4 zh) fun zt3 zh2 =>
  if (zt3 : Int32) = 1 then (
  gb (arI 0 zv0 (zv1 ||| (1 <<< (zv4 &&& 31))) zh2) fun zt5 =>
  gb (arI 0 zv0 zv1 zh2) fun zt6 =>
  gb (asI 0 zv0 (zv1 ||| (1 <<< (zv4 &&& 31))) (zt5 + zt6) zh2) fun zh7 =>
  f_X6_placeNext_37 N zk3 zv0 zv1 zv2 zv3 zv4 zh7)
  else (
  f_X6_placeNext_37 N zk3 zv0 zv1 zv2 zv3 zv4 zh2))
def f_X6_placeNext (N : Nat) (za0 : Nat) (za1 : Int32) (za2 : Int32) (za3 : Int32) (zh : PH) : Option PH :=
  gi (fun zk zs => f_X6_placeNext_3 N zk zs.1 zs.2.1 zs.2.2.1 zs.2.2.2.1 zs.2.2.2.2.1 zs.2.2.2.2.2) N (za0, za1, za2, za3, 0, zh)
def f_X6_fillRow_107 (N : Nat) (zk64 : (Nat × Nat × Int32 × Int32 × Int32 × PH) → Option (Int32 × PH)) (zv0 : Nat) (zv1 : Nat) (zv2 : Int32) (zv4 : Int32) (zv5 : Int32) (zh : PH) : Option (Int32 × PH) :=
  gl (zv5 + 1) fun (zx1 : Int32) =>
  zk64 (zv0, zv1, zv2, zv4, zx1, zh)
def f_X6_fillRow_64 (N : Nat) (zk64 : (Nat × Nat × Int32 × Int32 × Int32 × PH) → Option (Int32 × PH)) (zv0 : Nat) (zv1 : Nat) (zv2 : Int32) (zv4 : Int32) (zv5 : Int32) (zh : PH) : Option (Int32 × PH) :=
  if ((1 <<< (zv2 &&& 31)) : Int32) ≤ zv5 then (
  some (zv4, zh))
  else (
  gc (f_J6_bitCount_0f7a4 N zv5 zh) fun zt3 zh2 =>
  gb (arI 0 zv1 zv5 zh2) fun zt4 =>
  if (zt4 : Int32) ≤ 0 then (
  f_X6_fillRow_107 N zk64 zv0 zv1 zv2 zv4 zv5 zh2)
  else (
  if (zv4 : Int32) ≤ zt3 then (
  f_X6_fillRow_107 N zk64 zv0 zv1 zv2 zv4 zv5 zh2)
  else (
  gb (gfR 6 1 zv0 zh2) fun zt7 =>
  gb (arI 0 zt7 zt3 zh2) fun zt8 =>
  gb (f_X6_placeNext N zv1 zv5 zt8 zv2 zh2) fun zh9 =>
  f_X6_fillRow_107 N zk64 zv0 zv1 zv2 zv4 zv5 zh9)))
def f_X6_fillRow_46 (N : Nat) (zk6 : (Nat × Nat × Int32 × Int32 × Int32 × Int32 × PH) → Option (Int32 × PH)) (zv0 : Nat) (zv1 : Nat) (zv2 : Int32) (zv3 : Int32) (zv4 : Int32) (zv5 : Int32) (zh : PH) : Option (Int32 × PH) :=
  gl (zv5 + 1) fun (zx1 : Int32) =>
  zk6 (zv0, zv1, zv2, zv3, zv4, zx1, zh)
def f_X6_fillRow_6 (N : Nat) (zk6 : (Nat × Nat × Int32 × Int32 × Int32 × Int32 × PH) → Option (Int32 × PH)) (zv0 : Nat) (zv1 : Nat) (zv2 : Int32) (zv3 : Int32) (zv4 : Int32) (zv5 : Int32) (zh : PH) : Option (Int32 × PH) :=
  if (10 : Int32) ≤ zv5 then (
  gb (f_J7_fill_53178 N zv1 0 zh) fun zh2 =>
  gb (asI 0 zv1 0 1 zh2) fun zh3 =>
  gi (fun zk zs => f_X6_fillRow_64 N zk zs.1 zs.2.1 zs.2.2.1 zs.2.2.2.1 zs.2.2.2.2.1 zs.2.2.2.2.2) N (zv0, zv1, zv2, zv4, 0, zh3))
  else (
  gb (gfR 6 0 zv0 zh) fun zt4 =>
  gb (arI 0 zt4 zv5 zh) fun zt5 =>
  if (zt5 : Int32) = 0 then (
  f_X6_fillRow_46 N zk6 zv0 zv1 zv2 zv3 zv4 zv5 zh)
  else (
  if (zv5 : Int32) = zv3 then (
  f_X6_fillRow_46 N zk6 zv0 zv1 zv2 zv3 zv4 zv5 zh)
  else (
  gb (gfR 6 1 zv0 zh) fun zt8 =>
  gb (gfR 6 0 zv0 zh) fun zt9 =>
  gb (arI 0 zt9 zv5 zh) fun zt10 =>
  gb (asI 0 zt8 zv4 zt10 zh) fun zh11 =>
  gl (zv4 + 1) fun (zx12 : Int32) =>
  f_X6_fillRow_46 N zk6 zv0 zv1 zv2 zv3 zx12 zv5 zh11)))
def f_X6_fillRow (N : Nat) (za0 : Nat) (za1 : Nat) (za2 : Int32) (za3 : Int32) (zh : PH) : Option (Int32 × PH) :=
  gi (fun zk zs => f_X6_fillRow_6 N zk zs.1 zs.2.1 zs.2.2.1 zs.2.2.2.1 zs.2.2.2.2.1 zs.2.2.2.2.2.1 zs.2.2.2.2.2.2) N (za0, za1, za2, za3, 0, 0, zh)
abbrev rm_X3_takeNumber : Room := { frames := 2, cells := 0, slots := 0, locals := 41 }
set_option maxHeartbeats 4000000 in
set_option maxRecDepth 100000 in
theorem c_X3_takeNumber (l : Launch) (E : gE) (N : Nat) (za0 : Nat) (za1 : Int32) (zh : PH) {h9 : PH} {r9 : Int32} (hf : f_X3_takeNumber N za0 za1 zh = some (r9, h9)) : Met l yX3_takeNumber (gWS yX3_takeNumber cX3_takeNumber 3 (some .int)) rm_X3_takeNumber (gPc E [.ref (gB E + za0), .int za1] zh) (gQi E r9 h9) 0 0 (gA E) := by
  refine gx_met (by decide) ?_ rfl
  intro p e s m below meth c X hr hlk hin2 hw
  have hx := X.1.1
  have hb := X.1.2.1
  have hl := lv_entry [.ref (gB E + za0), .int za1] (n := 3) (Nat.le_of_ble_eq_true rfl)
  rw [lg_entry_eq]
  generalize (lg_sl [.ref (gB E + za0), .int za1] ++ List.replicate (3 - (lg_sl [.ref (gB E + za0), .int za1]).length) Slot.unset).toArray = ls at hl ⊢
  have hl : lv_has ls 3 [(0, .ref (gB E + za0)), (1, .int za1)] := hl
  unfold f_X3_takeNumber at hf
  refine lv_aload_n hx hb dX3_takeNumber_0 rfl (lv_at hl 0 rfl) ?_
  obtain ⟨zt1, qzt1, hf⟩ := gb_el hf
  refine gx_getR X hw qzt1 clX3 (by decide) mf_X3_9 dX3_takeNumber_1 ?_
  obtain ⟨zt2, qzt2, hf⟩ := gb_el hf
  refine gx_getI X hw qzt2 clX10 (by decide) mf_X3_33 dX3_takeNumber_4 ?_
  refine lv_iconst (v := 2) hx hb dX3_takeNumber_7 (by decide) ?_
  refine lv_icmp_eq (tgt := 19) hx hb dX3_takeNumber_8 (by decide) (fun qc3 => ?_) (fun qc3 => ?_)
  · have hf := gif_t hf qc3
    refine lv_aload_n hx hb dX3_takeNumber_19 rfl (lv_at hl 0 rfl) ?_
    obtain ⟨zt4, qzt4, hf⟩ := gb_el hf
    refine gx_getR X hw qzt4 clX3 (by decide) mf_X3_9 dX3_takeNumber_20 ?_
    obtain ⟨zt5, qzt5, hf⟩ := gb_el hf
    refine gx_getI X hw qzt5 clX10 (by decide) mf_X3_127 dX3_takeNumber_23 ?_
    refine lv_istore_n (lv' := [(2, .int zt5), (0, .ref (gB E + za0)), (1, .int za1)]) hx hb dX3_takeNumber_26 rfl hl (by decide) rfl (fun ls hl => ?_)
    refine W.eq (g2 := F0 m 27 ls []) rfl ?_
    refine lv_iload_n hx hb dX3_takeNumber_27 rfl (lv_at hl 0 rfl) ?_
    refine lv_iload_n hx hb dX3_takeNumber_28 rfl (lv_at hl 2 rfl) ?_
    refine lv_icmp_le (tgt := 40) hx hb dX3_takeNumber_29 (by decide) (fun qc6 => ?_) (fun qc6 => ?_)
    · have hf := gif_t hf qc6
      refine lv_aload_n hx hb dX3_takeNumber_40 rfl (lv_at hl 1 rfl) ?_
      obtain ⟨zt7, qzt7, hf⟩ := gb_el hf
      refine gx_getR X hw qzt7 clX3 (by decide) mf_X3_9 dX3_takeNumber_41 ?_
      obtain ⟨qizh8, hf⟩ := gg_el hf
      obtain ⟨zh8, qzh8, hf⟩ := gb_el hf
      refine gx_kv (gx_runV (As := []) (rest := []) X hw (c_X10_advance l E N zt7 zh qzh8) kX10_advance mm_X3_66 qizh8 clX10 ⟨Nat.le_of_ble_eq_true rfl, Nat.le_of_ble_eq_true rfl⟩ rfl rfl rfl hl.1 (Nat.le_of_ble_eq_true rfl) rfl dX3_takeNumber_44 ⟨Nat.le_of_ble_eq_true rfl, Nat.le_of_ble_eq_true rfl⟩) hw (fun H locs hw => ?_)
      refine lv_iload_n hx hb dX3_takeNumber_47 rfl (lv_at hl 0 rfl) ?_
      exact gx_iret X hr hlk hw hf dX3_takeNumber_48
    · have hf := gif_f hf qc6
      refine lv_aload_n hx hb dX3_takeNumber_32 rfl (lv_at hl 1 rfl) ?_
      refine lv_iconst (v := 4) hx hb dX3_takeNumber_33 (by decide) ?_
      obtain ⟨qizh9, hf⟩ := gg_el hf
      obtain ⟨zt10, zh9, qzh9, hf⟩ := gc_el hf
      refine gx_ki (gx_runV (As := [.int 4]) (rest := []) X hw (c_X3_isWrong l E N za0 4 zh qzh9) kX3_isWrong mm_X3_56 qizh9 clX3 ⟨Nat.le_of_ble_eq_true rfl, Nat.le_of_ble_eq_true rfl⟩ rfl rfl rfl hl.1 (Nat.le_of_ble_eq_true rfl) rfl dX3_takeNumber_34 ⟨Nat.le_of_ble_eq_true rfl, Nat.le_of_ble_eq_true rfl⟩) hw (fun H locs hw => ?_)
      refine lv_pop hx hb dX3_takeNumber_37 rfl ?_
      refine lv_iconst (v := (-1)) hx hb dX3_takeNumber_38 (by decide) ?_
      exact gx_iret X hr hlk hw hf dX3_takeNumber_39
  · have hf := gif_f hf qc3
    refine lv_aload_n hx hb dX3_takeNumber_11 rfl (lv_at hl 0 rfl) ?_
    refine lv_iconst (v := 1) hx hb dX3_takeNumber_12 (by decide) ?_
    obtain ⟨qizh11, hf⟩ := gg_el hf
    obtain ⟨zt12, zh11, qzh11, hf⟩ := gc_el hf
    refine gx_ki (gx_runV (As := [.int 1]) (rest := []) X hw (c_X3_isWrong l E N za0 1 zh qzh11) kX3_isWrong mm_X3_56 qizh11 clX3 ⟨Nat.le_of_ble_eq_true rfl, Nat.le_of_ble_eq_true rfl⟩ rfl rfl rfl hl.1 (Nat.le_of_ble_eq_true rfl) rfl dX3_takeNumber_13 ⟨Nat.le_of_ble_eq_true rfl, Nat.le_of_ble_eq_true rfl⟩) hw (fun H locs hw => ?_)
    refine lv_pop hx hb dX3_takeNumber_16 rfl ?_
    refine W.eq (g2 := F0 m 17 ls []) rfl ?_
    refine lv_iconst (v := (-1)) hx hb dX3_takeNumber_17 (by decide) ?_
    exact gx_iret X hr hlk hw hf dX3_takeNumber_18
abbrev rm_X3_readRoom : Room := { frames := 3, cells := 0, slots := 0, locals := 63 }
set_option maxHeartbeats 4000000 in
set_option maxRecDepth 100000 in
theorem c_X3_readRoom (l : Launch) (E : gE) (N : Nat) (za0 : Nat) (zh : PH) {h9 : PH} {r9 : Int32} (hf : f_X3_readRoom N za0 zh = some (r9, h9)) : Met l yX3_readRoom (gWS yX3_readRoom cX3_readRoom 3 (some .boolean)) rm_X3_readRoom (gPc E [.ref (gB E + za0)] zh) (gQi E r9 h9) 0 0 (gA E) := by
  refine gx_met (by decide) ?_ rfl
  intro p e s m below meth c X hr hlk hin2 hw
  have hx := X.1.1
  have hb := X.1.2.1
  have hl := lv_entry [.ref (gB E + za0)] (n := 3) (Nat.le_of_ble_eq_true rfl)
  rw [lg_entry_eq]
  generalize (lg_sl [.ref (gB E + za0)] ++ List.replicate (3 - (lg_sl [.ref (gB E + za0)]).length) Slot.unset).toArray = ls at hl ⊢
  have hl : lv_has ls 3 [(0, .ref (gB E + za0))] := hl
  unfold f_X3_readRoom at hf
  refine lv_aload_n hx hb dX3_readRoom_0 rfl (lv_at hl 0 rfl) ?_
  obtain ⟨zt1, qzt1, hf⟩ := gb_el hf
  refine gx_getR X hw qzt1 clX3 (by decide) mf_X3_15 dX3_readRoom_1 ?_
  obtain ⟨zt2, qzt2, hf⟩ := gb_el hf
  refine gx_getI X hw qzt2 clX2 (by decide) mf_X3_63 dX3_readRoom_4 ?_
  refine lv_bipush (v := 10) hx hb dX3_readRoom_7 (by decide) ?_
  refine lv_icmp_ne (tgt := 18) hx hb dX3_readRoom_9 (by decide) (fun qc3 => ?_) (fun qc3 => ?_)
  · have hf := gif_f hf qc3
    refine lv_aload_n hx hb dX3_readRoom_18 rfl (lv_at hl 0 rfl) ?_
    obtain ⟨zt4, qzt4, hf⟩ := gb_el hf
    refine gx_getR X hw qzt4 clX3 (by decide) mf_X3_9 dX3_readRoom_19 ?_
    obtain ⟨qizh5, hf⟩ := gg_el hf
    obtain ⟨zh5, qzh5, hf⟩ := gb_el hf
    refine gx_kv (gx_runV (As := []) (rest := []) X hw (c_X10_advance l E N zt4 zh qzh5) kX10_advance mm_X3_66 qizh5 clX10 ⟨Nat.le_of_ble_eq_true rfl, Nat.le_of_ble_eq_true rfl⟩ rfl rfl rfl hl.1 (Nat.le_of_ble_eq_true rfl) rfl dX3_readRoom_22 ⟨Nat.le_of_ble_eq_true rfl, Nat.le_of_ble_eq_true rfl⟩) hw (fun H locs hw => ?_)
    refine lv_aload_n hx hb dX3_readRoom_25 rfl (lv_at hl 0 rfl) ?_
    refine W.eq (g2 := F0 m 26 ls [.ref (gB E + za0)]) rfl ?_
    refine lv_bipush (v := 9) hx hb dX3_readRoom_26 (by decide) ?_
    obtain ⟨qizh6, hf⟩ := gg_el hf
    obtain ⟨zt7, zh6, qzh6, hf⟩ := gc_el hf
    refine gx_ki (gx_runV (As := [.int 9]) (rest := []) X hw (c_X3_takeNumber l E N za0 9 zh5 qzh6) kX3_takeNumber mm_X3_69 qizh6 clX3 ⟨Nat.le_of_ble_eq_true rfl, Nat.le_of_ble_eq_true rfl⟩ rfl rfl rfl hl.1 (Nat.le_of_ble_eq_true rfl) rfl dX3_readRoom_28 ⟨Nat.le_of_ble_eq_true rfl, Nat.le_of_ble_eq_true rfl⟩) hw (fun H locs hw => ?_)
    refine lv_istore_n (lv' := [(1, .int zt7), (0, .ref (gB E + za0))]) hx hb dX3_readRoom_31 rfl hl (by decide) rfl (fun ls hl => ?_)
    refine lv_iload_n hx hb dX3_readRoom_32 rfl (lv_at hl 0 rfl) ?_
    refine lv_iconst (v := (-1)) hx hb dX3_readRoom_33 (by decide) ?_
    refine lv_icmp_ne (tgt := 39) hx hb dX3_readRoom_34 (by decide) (fun qc8 => ?_) (fun qc8 => ?_)
    · have hf := gif_f hf qc8
      refine lv_aload_n hx hb dX3_readRoom_39 rfl (lv_at hl 1 rfl) ?_
      refine lv_iconst (v := 1) hx hb dX3_readRoom_40 (by decide) ?_
      obtain ⟨qizh9, hf⟩ := gg_el hf
      obtain ⟨zt10, zh9, qzh9, hf⟩ := gc_el hf
      refine gx_ki (gx_runV (As := [.int 1]) (rest := []) X hw (c_X3_takeNumber l E N za0 1 zh6 qzh9) kX3_takeNumber mm_X3_69 qizh9 clX3 ⟨Nat.le_of_ble_eq_true rfl, Nat.le_of_ble_eq_true rfl⟩ rfl rfl rfl hl.1 (Nat.le_of_ble_eq_true rfl) rfl dX3_readRoom_41 ⟨Nat.le_of_ble_eq_true rfl, Nat.le_of_ble_eq_true rfl⟩) hw (fun H locs hw => ?_)
      refine lv_istore_n (lv' := [(2, .int zt10), (1, .int zt7), (0, .ref (gB E + za0))]) hx hb dX3_readRoom_44 rfl hl (by decide) rfl (fun ls hl => ?_)
      refine W.eq (g2 := F0 m 45 ls []) rfl ?_
      refine lv_iload_n hx hb dX3_readRoom_45 rfl (lv_at hl 0 rfl) ?_
      refine lv_iconst (v := (-1)) hx hb dX3_readRoom_46 (by decide) ?_
      refine lv_icmp_ne (tgt := 52) hx hb dX3_readRoom_47 (by decide) (fun qc11 => ?_) (fun qc11 => ?_)
      · have hf := gif_f hf qc11
        refine lv_aload_n hx hb dX3_readRoom_52 rfl (lv_at hl 2 rfl) ?_
        obtain ⟨zt12, qzt12, hf⟩ := gb_el hf
        refine gx_getR X hw qzt12 clX3 (by decide) mf_X3_15 dX3_readRoom_53 ?_
        refine lv_iload_n hx hb dX3_readRoom_56 rfl (lv_at hl 1 rfl) ?_
        refine lv_iload_n hx hb dX3_readRoom_57 rfl (lv_at hl 0 rfl) ?_
        obtain ⟨qizh13, hf⟩ := gg_el hf
        obtain ⟨zh13, qzh13, hf⟩ := gb_el hf
        refine gx_kv (gx_runV (As := [.int zt7, .int zt10]) (rest := []) X hw (c_X2_addRoom l E N zt12 zt7 zt10 zh9 qzh13) kX2_addRoom mm_X3_73 qizh13 clX2 ⟨Nat.le_of_ble_eq_true rfl, Nat.le_of_ble_eq_true rfl⟩ rfl rfl rfl hl.1 (Nat.le_of_ble_eq_true rfl) rfl dX3_readRoom_58 ⟨Nat.le_of_ble_eq_true rfl, Nat.le_of_ble_eq_true rfl⟩) hw (fun H locs hw => ?_)
        refine lv_iconst (v := 1) hx hb dX3_readRoom_61 (by decide) ?_
        exact gx_zret X hr hlk hw hf dX3_readRoom_62
      · have hf := gif_t hf qc11
        refine lv_iconst (v := 0) hx hb dX3_readRoom_50 (by decide) ?_
        exact gx_zret X hr hlk hw hf dX3_readRoom_51
    · have hf := gif_t hf qc8
      refine lv_iconst (v := 0) hx hb dX3_readRoom_37 (by decide) ?_
      exact gx_zret X hr hlk hw hf dX3_readRoom_38
  · have hf := gif_t hf qc3
    refine lv_aload_n hx hb dX3_readRoom_12 rfl (lv_at hl 0 rfl) ?_
    refine lv_iconst (v := 5) hx hb dX3_readRoom_13 (by decide) ?_
    obtain ⟨qizh14, hf⟩ := gg_el hf
    obtain ⟨zt15, zh14, qzh14, hf⟩ := gc_el hf
    refine gx_ki (gx_runV (As := [.int 5]) (rest := []) X hw (c_X3_isWrong l E N za0 5 zh qzh14) kX3_isWrong mm_X3_56 qizh14 clX3 ⟨Nat.le_of_ble_eq_true rfl, Nat.le_of_ble_eq_true rfl⟩ rfl rfl rfl hl.1 (Nat.le_of_ble_eq_true rfl) rfl dX3_readRoom_14 ⟨Nat.le_of_ble_eq_true rfl, Nat.le_of_ble_eq_true rfl⟩) hw (fun H locs hw => ?_)
    exact gx_zret X hr hlk hw hf dX3_readRoom_17
abbrev rm_X3_takeSign : Room := { frames := 2, cells := 0, slots := 0, locals := 41 }
set_option maxHeartbeats 4000000 in
set_option maxRecDepth 100000 in
theorem c_X3_takeSign (l : Launch) (E : gE) (N : Nat) (za0 : Nat) (za1 : Int32) (zh : PH) {h9 : PH} {r9 : Int32} (hf : f_X3_takeSign N za0 za1 zh = some (r9, h9)) : Met l yX3_takeSign (gWS yX3_takeSign cX3_takeSign 2 (some .boolean)) rm_X3_takeSign (gPc E [.ref (gB E + za0), .int za1] zh) (gQi E r9 h9) 0 0 (gA E) := by
  refine gx_met (by decide) ?_ rfl
  intro p e s m below meth c X hr hlk hin2 hw
  have hx := X.1.1
  have hb := X.1.2.1
  have hl := lv_entry [.ref (gB E + za0), .int za1] (n := 2) (Nat.le_of_ble_eq_true rfl)
  rw [lg_entry_eq]
  generalize (lg_sl [.ref (gB E + za0), .int za1] ++ List.replicate (2 - (lg_sl [.ref (gB E + za0), .int za1]).length) Slot.unset).toArray = ls at hl ⊢
  have hl : lv_has ls 2 [(0, .ref (gB E + za0)), (1, .int za1)] := hl
  unfold f_X3_takeSign at hf
  refine lv_aload_n hx hb dX3_takeSign_0 rfl (lv_at hl 0 rfl) ?_
  obtain ⟨zt1, qzt1, hf⟩ := gb_el hf
  refine gx_getR X hw qzt1 clX3 (by decide) mf_X3_9 dX3_takeSign_1 ?_
  obtain ⟨zt2, qzt2, hf⟩ := gb_el hf
  refine gx_getI X hw qzt2 clX10 (by decide) mf_X3_33 dX3_takeSign_4 ?_
  refine lv_iload_n hx hb dX3_takeSign_7 rfl (lv_at hl 1 rfl) ?_
  refine lv_icmp_eq (tgt := 17) hx hb dX3_takeSign_8 (by decide) (fun qc3 => ?_) (fun qc3 => ?_)
  · have hf := gif_t hf qc3
    refine lv_aload_n hx hb dX3_takeSign_17 rfl (lv_at hl 0 rfl) ?_
    obtain ⟨zt4, qzt4, hf⟩ := gb_el hf
    refine gx_getR X hw qzt4 clX3 (by decide) mf_X3_9 dX3_takeSign_18 ?_
    obtain ⟨qizh5, hf⟩ := gg_el hf
    obtain ⟨zh5, qzh5, hf⟩ := gb_el hf
    refine gx_kv (gx_runV (As := []) (rest := []) X hw (c_X10_advance l E N zt4 zh qzh5) kX10_advance mm_X3_66 qizh5 clX10 ⟨Nat.le_of_ble_eq_true rfl, Nat.le_of_ble_eq_true rfl⟩ rfl rfl rfl hl.1 (Nat.le_of_ble_eq_true rfl) rfl dX3_takeSign_21 ⟨Nat.le_of_ble_eq_true rfl, Nat.le_of_ble_eq_true rfl⟩) hw (fun H locs hw => ?_)
    refine lv_iconst (v := 1) hx hb dX3_takeSign_24 (by decide) ?_
    refine W.eq (g2 := F0 m 25 ls [.int 1]) rfl ?_
    exact gx_zret X hr hlk hw hf dX3_takeSign_25
  · have hf := gif_f hf qc3
    refine lv_aload_n hx hb dX3_takeSign_11 rfl (lv_at hl 0 rfl) ?_
    refine lv_iconst (v := 1) hx hb dX3_takeSign_12 (by decide) ?_
    obtain ⟨qizh6, hf⟩ := gg_el hf
    obtain ⟨zt7, zh6, qzh6, hf⟩ := gc_el hf
    refine gx_ki (gx_runV (As := [.int 1]) (rest := []) X hw (c_X3_isWrong l E N za0 1 zh qzh6) kX3_isWrong mm_X3_56 qizh6 clX3 ⟨Nat.le_of_ble_eq_true rfl, Nat.le_of_ble_eq_true rfl⟩ rfl rfl rfl hl.1 (Nat.le_of_ble_eq_true rfl) rfl dX3_takeSign_13 ⟨Nat.le_of_ble_eq_true rfl, Nat.le_of_ble_eq_true rfl⟩) hw (fun H locs hw => ?_)
    exact gx_zret X hr hlk hw hf dX3_takeSign_16
abbrev rm_X4_init : Room := { frames := 1, cells := 3, slots := 21, locals := 20 }
set_option maxHeartbeats 4000000 in
set_option maxRecDepth 100000 in
theorem c_X4_init (l : Launch) (E : gE) (N : Nat) (za0 : Nat) (zh : PH) {h9 : PH} (hf : f_X4_init N za0 zh = some h9) : Met l yX4_init (gWS yX4_init cX4_init 1 none) rm_X4_init (gPc E [.ref (gB E + za0)] zh) (gQv E h9) 3 21 (gA E) := by
  refine gx_met (by decide) ?_ rfl
  intro p e s m below meth c X hr hlk hin2 hw
  have hx := X.1.1
  have hb := X.1.2.1
  have hl := lv_entry [.ref (gB E + za0)] (n := 1) (Nat.le_of_ble_eq_true rfl)
  rw [lg_entry_eq]
  generalize (lg_sl [.ref (gB E + za0)] ++ List.replicate (1 - (lg_sl [.ref (gB E + za0)]).length) Slot.unset).toArray = ls at hl ⊢
  have hl : lv_has ls 1 [(0, .ref (gB E + za0))] := hl
  unfold f_X4_init at hf
  refine lv_aload_n hx hb dX4_init_0 rfl (lv_at hl 0 rfl) ?_
  refine gx_oinit X mm_X4_3 mo_inst mo_code hl.1 dX4_init_1 (Nat.le_of_ble_eq_true rfl) (Nat.le_of_ble_eq_true rfl) ?_
  refine lv_aload_n hx hb dX4_init_4 rfl (lv_at hl 0 rfl) ?_
  refine lv_bipush (v := 7) hx hb dX4_init_5 (by decide) ?_
  obtain ⟨zr2, zh1, qzh1, hf⟩ := gc_el hf
  refine gx_newa0 X hw qzh1 ma_int (by decide) (by decide) (by decide) (Nat.le_of_ble_eq_true rfl) (Nat.le_of_ble_eq_true rfl) dX4_init_7 (fun H hw => ?_)
  obtain ⟨zh3, qzh3, hf⟩ := gb_el hf
  refine gx_putFV X hw qzh3 clX4 (by decide) mf_X4_9 rfl (hin2 rfl) rfl rfl rfl dX4_init_9 (fun H locs hw => ?_)
  refine lv_aload_n hx hb dX4_init_12 rfl (lv_at hl 0 rfl) ?_
  refine lv_bipush (v := 7) hx hb dX4_init_13 (by decide) ?_
  obtain ⟨zr5, zh4, qzh4, hf⟩ := gc_el hf
  refine gx_newa0 X hw qzh4 ma_int (by decide) (by decide) (by decide) (Nat.le_of_ble_eq_true rfl) (Nat.le_of_ble_eq_true rfl) dX4_init_15 (fun H hw => ?_)
  refine W.eq (g2 := F0 m 17 ls [.ref (gB E + zr5), .ref (gB E + za0)]) rfl ?_
  obtain ⟨zh6, qzh6, hf⟩ := gb_el hf
  refine gx_putFV X hw qzh6 clX4 (by decide) mf_X4_15 rfl (hin2 rfl) rfl rfl rfl dX4_init_17 (fun H locs hw => ?_)
  refine lv_aload_n hx hb dX4_init_20 rfl (lv_at hl 0 rfl) ?_
  refine lv_bipush (v := 7) hx hb dX4_init_21 (by decide) ?_
  obtain ⟨zr8, zh7, qzh7, hf⟩ := gc_el hf
  refine gx_newa0 X hw qzh7 ma_int (by decide) (by decide) (by decide) (Nat.le_of_ble_eq_true rfl) (Nat.le_of_ble_eq_true rfl) dX4_init_23 (fun H hw => ?_)
  obtain ⟨zh9, qzh9, hf⟩ := gb_el hf
  refine gx_putFV X hw qzh9 clX4 (by decide) mf_X4_18 rfl (hin2 rfl) rfl rfl rfl dX4_init_25 (fun H locs hw => ?_)
  exact gx_vret X hr hlk hw hf dX4_init_28
abbrev rm_X4_copyFrom : Room := { frames := 1, cells := 0, slots := 0, locals := 64 }
set_option maxHeartbeats 4000000 in
set_option maxRecDepth 100000 in
theorem c_X4_copyFrom (l : Launch) (E : gE) (N : Nat) (za0 : Nat) (za1 : Nat) (zh : PH) {h9 : PH} (hf : f_X4_copyFrom N za0 za1 zh = some h9) : Met l yX4_copyFrom (gWS yX4_copyFrom cX4_copyFrom 2 none) rm_X4_copyFrom (gPc E [.ref (gB E + za0), .ref (gB E + za1)] zh) (gQv E h9) 0 0 (gA E) := by
  refine gx_met (by decide) ?_ rfl
  intro p e s m below meth c X hr hlk hin2 hw
  have hx := X.1.1
  have hb := X.1.2.1
  have hl := lv_entry [.ref (gB E + za0), .ref (gB E + za1)] (n := 2) (Nat.le_of_ble_eq_true rfl)
  rw [lg_entry_eq]
  generalize (lg_sl [.ref (gB E + za0), .ref (gB E + za1)] ++ List.replicate (2 - (lg_sl [.ref (gB E + za0), .ref (gB E + za1)]).length) Slot.unset).toArray = ls at hl ⊢
  have hl : lv_has ls 2 [(0, .ref (gB E + za0)), (1, .ref (gB E + za1))] := hl
  unfold f_X4_copyFrom at hf
  refine lv_aload_n hx hb dX4_copyFrom_0 rfl (lv_at hl 1 rfl) ?_
  obtain ⟨zt1, qzt1, hf⟩ := gb_el hf
  refine gx_getR X hw qzt1 clX4 (by decide) mf_X4_9 dX4_copyFrom_1 ?_
  refine lv_iconst (v := 0) hx hb dX4_copyFrom_4 (by decide) ?_
  refine lv_aload_n hx hb dX4_copyFrom_5 rfl (lv_at hl 0 rfl) ?_
  obtain ⟨zt2, qzt2, hf⟩ := gb_el hf
  refine gx_getR X hw qzt2 clX4 (by decide) mf_X4_9 dX4_copyFrom_6 ?_
  refine lv_iconst (v := 0) hx hb dX4_copyFrom_9 (by decide) ?_
  refine lv_bipush (v := 7) hx hb dX4_copyFrom_10 (by decide) ?_
  obtain ⟨zh3, qzh3, hf⟩ := gb_el hf
  refine gx_cpI X hw qzh3 mm_X4_21 ac_n ac_s mI_java_lang_System hl.1 (Nat.le_of_ble_eq_true rfl) (Nat.le_of_ble_eq_true rfl) dX4_copyFrom_12 (fun H locs hw => ?_)
  refine lv_aload_n hx hb dX4_copyFrom_15 rfl (lv_at hl 1 rfl) ?_
  refine W.eq (g2 := F0 m 16 ls [.ref (gB E + za1)]) rfl ?_
  obtain ⟨zt4, qzt4, hf⟩ := gb_el hf
  refine gx_getR X hw qzt4 clX4 (by decide) mf_X4_15 dX4_copyFrom_16 ?_
  refine lv_iconst (v := 0) hx hb dX4_copyFrom_19 (by decide) ?_
  refine lv_aload_n hx hb dX4_copyFrom_20 rfl (lv_at hl 0 rfl) ?_
  obtain ⟨zt5, qzt5, hf⟩ := gb_el hf
  refine gx_getR X hw qzt5 clX4 (by decide) mf_X4_15 dX4_copyFrom_21 ?_
  refine lv_iconst (v := 0) hx hb dX4_copyFrom_24 (by decide) ?_
  refine lv_bipush (v := 7) hx hb dX4_copyFrom_25 (by decide) ?_
  obtain ⟨zh6, qzh6, hf⟩ := gb_el hf
  refine gx_cpI X hw qzh6 mm_X4_21 ac_n ac_s mI_java_lang_System hl.1 (Nat.le_of_ble_eq_true rfl) (Nat.le_of_ble_eq_true rfl) dX4_copyFrom_27 (fun H locs hw => ?_)
  refine lv_aload_n hx hb dX4_copyFrom_30 rfl (lv_at hl 1 rfl) ?_
  obtain ⟨zt7, qzt7, hf⟩ := gb_el hf
  refine gx_getR X hw qzt7 clX4 (by decide) mf_X4_18 dX4_copyFrom_31 ?_
  refine lv_iconst (v := 0) hx hb dX4_copyFrom_34 (by decide) ?_
  refine W.eq (g2 := F0 m 35 ls [.int 0, .ref (gB E + zt7)]) rfl ?_
  refine lv_aload_n hx hb dX4_copyFrom_35 rfl (lv_at hl 0 rfl) ?_
  obtain ⟨zt8, qzt8, hf⟩ := gb_el hf
  refine gx_getR X hw qzt8 clX4 (by decide) mf_X4_18 dX4_copyFrom_36 ?_
  refine lv_iconst (v := 0) hx hb dX4_copyFrom_39 (by decide) ?_
  refine lv_bipush (v := 7) hx hb dX4_copyFrom_40 (by decide) ?_
  obtain ⟨zh9, qzh9, hf⟩ := gb_el hf
  refine gx_cpI X hw qzh9 mm_X4_21 ac_n ac_s mI_java_lang_System hl.1 (Nat.le_of_ble_eq_true rfl) (Nat.le_of_ble_eq_true rfl) dX4_copyFrom_42 (fun H locs hw => ?_)
  refine lv_aload_n hx hb dX4_copyFrom_45 rfl (lv_at hl 0 rfl) ?_
  refine lv_aload_n hx hb dX4_copyFrom_46 rfl (lv_at hl 1 rfl) ?_
  obtain ⟨zt10, qzt10, hf⟩ := gb_el hf
  refine gx_getI X hw qzt10 clX4 (by decide) mf_X4_27 dX4_copyFrom_47 ?_
  obtain ⟨zh11, qzh11, hf⟩ := gb_el hf
  refine gx_putV X hw qzh11 clX4 (by decide) mf_X4_27 rfl rfl rfl dX4_copyFrom_50 (fun H locs hw => ?_)
  exact gx_vret X hr hlk hw hf dX4_copyFrom_53
abbrev rm_X4_add : Room := { frames := 0, cells := 0, slots := 0, locals := 0 }
set_option maxHeartbeats 4000000 in
set_option maxRecDepth 100000 in
theorem c_X4_add (l : Launch) (E : gE) (N : Nat) (za0 : Nat) (za1 : Int32) (za2 : Int32) (za3 : Int32) (zh : PH) {h9 : PH} {r9 : Int32} (hf : f_X4_add N za0 za1 za2 za3 zh = some (r9, h9)) : Met l yX4_add (gWS yX4_add cX4_add 4 (some .boolean)) rm_X4_add (gPc E [.ref (gB E + za0), .int za1, .int za2, .int za3] zh) (gQi E r9 h9) 0 0 (gA E) := by
  refine gx_met (by decide) ?_ rfl
  intro p e s m below meth c X hr hlk hin2 hw
  have hx := X.1.1
  have hb := X.1.2.1
  have hl := lv_entry [.ref (gB E + za0), .int za1, .int za2, .int za3] (n := 4) (Nat.le_of_ble_eq_true rfl)
  rw [lg_entry_eq]
  generalize (lg_sl [.ref (gB E + za0), .int za1, .int za2, .int za3] ++ List.replicate (4 - (lg_sl [.ref (gB E + za0), .int za1, .int za2, .int za3]).length) Slot.unset).toArray = ls at hl ⊢
  have hl : lv_has ls 4 [(0, .ref (gB E + za0)), (1, .int za1), (2, .int za2), (3, .int za3)] := hl
  unfold f_X4_add at hf
  refine lv_aload_n hx hb dX4_add_0 rfl (lv_at hl 0 rfl) ?_
  obtain ⟨zt1, qzt1, hf⟩ := gb_el hf
  refine gx_getI X hw qzt1 clX4 (by decide) mf_X4_27 dX4_add_1 ?_
  refine lv_bipush (v := 7) hx hb dX4_add_4 (by decide) ?_
  refine lv_icmp_lt (tgt := 11) hx hb dX4_add_6 (by decide) (fun qc2 => ?_) (fun qc2 => ?_)
  · have hf := gif_t hf qc2
    refine lv_aload_n hx hb dX4_add_11 rfl (lv_at hl 0 rfl) ?_
    obtain ⟨zt3, qzt3, hf⟩ := gb_el hf
    refine gx_getR X hw qzt3 clX4 (by decide) mf_X4_9 dX4_add_12 ?_
    refine lv_aload_n hx hb dX4_add_15 rfl (lv_at hl 0 rfl) ?_
    obtain ⟨zt4, qzt4, hf⟩ := gb_el hf
    refine gx_getI X hw qzt4 clX4 (by decide) mf_X4_27 dX4_add_16 ?_
    refine lv_iload_n hx hb dX4_add_19 rfl (lv_at hl 1 rfl) ?_
    refine W.eq (g2 := F0 m 20 ls [.int za1, .int zt4, .ref (gB E + zt3)]) rfl ?_
    obtain ⟨zh5, qzh5, hf⟩ := gb_el hf
    refine gx_iast X hw qzh5 dX4_add_20 (fun H locs hw => ?_)
    refine lv_aload_n hx hb dX4_add_21 rfl (lv_at hl 0 rfl) ?_
    obtain ⟨zt6, qzt6, hf⟩ := gb_el hf
    refine gx_getR X hw qzt6 clX4 (by decide) mf_X4_15 dX4_add_22 ?_
    refine lv_aload_n hx hb dX4_add_25 rfl (lv_at hl 0 rfl) ?_
    obtain ⟨zt7, qzt7, hf⟩ := gb_el hf
    refine gx_getI X hw qzt7 clX4 (by decide) mf_X4_27 dX4_add_26 ?_
    refine lv_iload_n hx hb dX4_add_29 rfl (lv_at hl 2 rfl) ?_
    obtain ⟨zh8, qzh8, hf⟩ := gb_el hf
    refine gx_iast X hw qzh8 dX4_add_30 (fun H locs hw => ?_)
    refine lv_aload_n hx hb dX4_add_31 rfl (lv_at hl 0 rfl) ?_
    obtain ⟨zt9, qzt9, hf⟩ := gb_el hf
    refine gx_getR X hw qzt9 clX4 (by decide) mf_X4_18 dX4_add_32 ?_
    refine lv_aload_n hx hb dX4_add_35 rfl (lv_at hl 0 rfl) ?_
    refine W.eq (g2 := F0 m 36 ls [.ref (gB E + za0), .ref (gB E + zt9)]) rfl ?_
    obtain ⟨zt10, qzt10, hf⟩ := gb_el hf
    refine gx_getI X hw qzt10 clX4 (by decide) mf_X4_27 dX4_add_36 ?_
    refine lv_iload_n hx hb dX4_add_39 rfl (lv_at hl 3 rfl) ?_
    obtain ⟨zh11, qzh11, hf⟩ := gb_el hf
    refine gx_iast X hw qzh11 dX4_add_40 (fun H locs hw => ?_)
    refine lv_aload_n hx hb dX4_add_41 rfl (lv_at hl 0 rfl) ?_
    refine lv_dup hx hb dX4_add_42 rfl ?_
    obtain ⟨zt12, qzt12, hf⟩ := gb_el hf
    refine gx_getI X hw qzt12 clX4 (by decide) mf_X4_27 dX4_add_43 ?_
    refine lv_iconst (v := 1) hx hb dX4_add_46 (by decide) ?_
    refine lv_iadd hx hb dX4_add_47 ?_
    obtain ⟨zh13, qzh13, hf⟩ := gb_el hf
    refine gx_putV X hw qzh13 clX4 (by decide) mf_X4_27 rfl rfl rfl dX4_add_48 (fun H locs hw => ?_)
    refine lv_iconst (v := 1) hx hb dX4_add_51 (by decide) ?_
    refine W.eq (g2 := F0 m 52 ls [.int 1]) rfl ?_
    exact gx_zret X hr hlk hw hf dX4_add_52
  · have hf := gif_f hf qc2
    refine lv_iconst (v := 0) hx hb dX4_add_9 (by decide) ?_
    exact gx_zret X hr hlk hw hf dX4_add_10
abbrev rm_X4_doneAsTold : Room := { frames := 1, cells := 0, slots := 0, locals := 21 }
set_option maxHeartbeats 4000000 in
set_option maxRecDepth 100000 in
theorem c_X4_doneAsTold (l : Launch) (E : gE) (N : Nat) (za0 : Nat) (zh : PH) {h9 : PH} {r9 : Int32} (hf : f_X4_doneAsTold N za0 zh = some (r9, h9)) : Met l yX4_doneAsTold (gWS yX4_doneAsTold cX4_doneAsTold 4 (some .int)) rm_X4_doneAsTold (gPc E [.ref (gB E + za0)] zh) (gQi E r9 h9) 0 0 (gA E) := by
  refine gx_met (by decide) ?_ rfl
  intro p e s m below meth c X hr hlk hin2 hw
  have hx := X.1.1
  have hb := X.1.2.1
  have hl := lv_entry [.ref (gB E + za0)] (n := 4) (Nat.le_of_ble_eq_true rfl)
  rw [lg_entry_eq]
  generalize (lg_sl [.ref (gB E + za0)] ++ List.replicate (4 - (lg_sl [.ref (gB E + za0)]).length) Slot.unset).toArray = ls at hl ⊢
  have hl : lv_has ls 4 [(0, .ref (gB E + za0))] := hl
  have L_6 : ∀ (zn6 : Nat) (zv0 : Nat) (zv1 : Int32) (zv2 : Int32) (zv3 : Int32) (zh : PH) (H : Heap) (locs : List Loc) (ls : Array Slot), gi (fun zk zs => f_X4_doneAsTold_6 N zk zs.1 zs.2.1 zs.2.2.1 zs.2.2.2.1 zs.2.2.2.2) zn6 (zv0, zv1, zv2, zv3, zh) = some (r9, h9) → gw E s zh H locs → lv_has ls 4 [(0, .ref (gB E + zv0)), (1, .int zv1), (2, .int zv2), (3, .int zv3)] → W p l e rm_X4_doneAsTold s m [.ref (gB E + za0)].toArray below meth c H locs 0 0 (MQ below (gQi E r9 h9) [.ref (gB E + za0)].toArray s 0 0 (gA E)) (F0 m 6 ls []) := by
    intro zn6
    induction zn6 with
    | zero =>
      intro zv0 zv1 zv2 zv3 zh H locs ls hf
      cases hf
    | succ zn6 ih_6 =>
      intro zv0 zv1 zv2 zv3 zh H locs ls hf hw hl
      have hf := gi_s hf
      dsimp only at hf
      unfold f_X4_doneAsTold_6 at hf
      refine lv_iload_n hx hb dX4_doneAsTold_6 rfl (lv_at hl 3 rfl) ?_
      refine lv_aload_n hx hb dX4_doneAsTold_7 rfl (lv_at hl 0 rfl) ?_
      obtain ⟨zt1, qzt1, hf⟩ := gb_el hf
      refine gx_getI X hw qzt1 clX4 (by decide) mf_X4_27 dX4_doneAsTold_8 ?_
      refine lv_icmp_ge (tgt := 51) hx hb dX4_doneAsTold_11 (by decide) (fun qc2 => ?_) (fun qc2 => ?_)
      · have hf := gif_t hf qc2
        refine lv_iload_n hx hb dX4_doneAsTold_51 rfl (lv_at hl 1 rfl) ?_
        exact gx_iret X hr hlk hw hf dX4_doneAsTold_52
      · have hf := gif_f hf qc2
        refine lv_iload_n hx hb dX4_doneAsTold_14 rfl (lv_at hl 2 rfl) ?_
        refine lv_aload_n hx hb dX4_doneAsTold_15 rfl (lv_at hl 0 rfl) ?_
        obtain ⟨zt3, qzt3, hf⟩ := gb_el hf
        refine gx_getR X hw qzt3 clX4 (by decide) mf_X4_9 dX4_doneAsTold_16 ?_
        refine lv_iload_n hx hb dX4_doneAsTold_19 rfl (lv_at hl 3 rfl) ?_
        obtain ⟨zt4, qzt4, hf⟩ := gb_el hf
        refine gx_iald X hw qzt4 dX4_doneAsTold_20 ?_
        refine W.eq (g2 := F0 m 21 ls [.int zt4, .int zv2]) rfl ?_
        refine gx_max X mm_X4_31 mt_max mI_java_lang_Math mx_max hl.1 (Nat.le_of_ble_eq_true rfl) (Nat.le_of_ble_eq_true rfl) (Nat.le_of_ble_eq_true rfl) (Nat.le_of_ble_eq_true rfl) dX4_doneAsTold_21 ?_
        refine lv_aload_n hx hb dX4_doneAsTold_24 rfl (lv_at hl 0 rfl) ?_
        obtain ⟨zt5, qzt5, hf⟩ := gb_el hf
        refine gx_getR X hw qzt5 clX4 (by decide) mf_X4_15 dX4_doneAsTold_25 ?_
        refine lv_iload_n hx hb dX4_doneAsTold_28 rfl (lv_at hl 3 rfl) ?_
        obtain ⟨zt6, qzt6, hf⟩ := gb_el hf
        refine gx_iald X hw qzt6 dX4_doneAsTold_29 ?_
        refine lv_iadd hx hb dX4_doneAsTold_30 ?_
        refine lv_topi (fun zx7 ezx7 => ?_)
        have hf := gl_el hf ezx7
        refine lv_istore_n (lv' := [(2, .int zx7), (0, .ref (gB E + zv0)), (1, .int zv1), (3, .int zv3)]) hx hb dX4_doneAsTold_31 rfl hl (by decide) rfl (fun ls hl => ?_)
        refine lv_iload_n hx hb dX4_doneAsTold_32 rfl (lv_at hl 2 rfl) ?_
        refine lv_iload_n hx hb dX4_doneAsTold_33 rfl (lv_at hl 0 rfl) ?_
        refine lv_aload_n hx hb dX4_doneAsTold_34 rfl (lv_at hl 1 rfl) ?_
        refine W.eq (g2 := F0 m 35 ls [.ref (gB E + zv0), .int zx7, .int zv1]) rfl ?_
        obtain ⟨zt8, qzt8, hf⟩ := gb_el hf
        refine gx_getR X hw qzt8 clX4 (by decide) mf_X4_18 dX4_doneAsTold_35 ?_
        refine lv_iload_n hx hb dX4_doneAsTold_38 rfl (lv_at hl 3 rfl) ?_
        obtain ⟨zt9, qzt9, hf⟩ := gb_el hf
        refine gx_iald X hw qzt9 dX4_doneAsTold_39 ?_
        refine lv_iadd hx hb dX4_doneAsTold_40 ?_
        refine gx_max X mm_X4_31 mt_max mI_java_lang_Math mx_max hl.1 (Nat.le_of_ble_eq_true rfl) (Nat.le_of_ble_eq_true rfl) (Nat.le_of_ble_eq_true rfl) (Nat.le_of_ble_eq_true rfl) dX4_doneAsTold_41 ?_
        refine lv_topi (fun zx10 ezx10 => ?_)
        have hf := gl_el hf ezx10
        refine lv_istore_n (lv' := [(1, .int zx10), (2, .int zx7), (0, .ref (gB E + zv0)), (3, .int zv3)]) hx hb dX4_doneAsTold_44 rfl hl (by decide) rfl (fun ls hl => ?_)
        obtain ⟨zx11, ezx11⟩ : ∃ y : Int32, y = zv3 + 1 := ⟨_, rfl⟩
        have hf := gl_el hf ezx11
        refine lv_iinc (v := zx11) (lv' := [(3, .int zx11), (1, .int zx10), (2, .int zx7), (0, .ref (gB E + zv0))]) hx hb dX4_doneAsTold_45 hl (k := 3) rfl (by rw [ezx11]; rfl) (by decide) rfl (fun ls hl => ?_)
        refine lv_goto (tgt := 6) hx hb dX4_doneAsTold_48 (by decide) ?_
        exact ih_6 zv0 zx10 zx7 zx11 _ _ _ ls hf hw (lv_sub hl [3, 1, 2, 0] rfl)
  unfold f_X4_doneAsTold at hf
  refine lv_iconst (v := 0) hx hb dX4_doneAsTold_0 (by decide) ?_
  refine lv_istore_n (lv' := [(1, .int 0), (0, .ref (gB E + za0))]) hx hb dX4_doneAsTold_1 rfl hl (by decide) rfl (fun ls hl => ?_)
  refine lv_iconst (v := 0) hx hb dX4_doneAsTold_2 (by decide) ?_
  refine lv_istore_n (lv' := [(2, .int 0), (1, .int 0), (0, .ref (gB E + za0))]) hx hb dX4_doneAsTold_3 rfl hl (by decide) rfl (fun ls hl => ?_)
  refine lv_iconst (v := 0) hx hb dX4_doneAsTold_4 (by decide) ?_
  refine lv_istore_n (lv' := [(3, .int 0), (2, .int 0), (1, .int 0), (0, .ref (gB E + za0))]) hx hb dX4_doneAsTold_5 rfl hl (by decide) rfl (fun ls hl => ?_)
  exact L_6 N za0 0 0 0 _ _ _ ls hf hw (lv_sub hl [3, 2, 1, 0] rfl)
abbrev rm_X5_init : Room := { frames := 1, cells := 3, slots := 142, locals := 20 }
set_option maxHeartbeats 4000000 in
set_option maxRecDepth 100000 in
theorem c_X5_init (l : Launch) (E : gE) (N : Nat) (za0 : Nat) (zh : PH) {h9 : PH} (hf : f_X5_init N za0 zh = some h9) : Met l yX5_init (gWS yX5_init cX5_init 1 none) rm_X5_init (gPc E [.ref (gB E + za0)] zh) (gQv E h9) 3 142 (gA E) := by
  refine gx_met (by decide) ?_ rfl
  intro p e s m below meth c X hr hlk hin2 hw
  have hx := X.1.1
  have hb := X.1.2.1
  have hl := lv_entry [.ref (gB E + za0)] (n := 1) (Nat.le_of_ble_eq_true rfl)
  rw [lg_entry_eq]
  generalize (lg_sl [.ref (gB E + za0)] ++ List.replicate (1 - (lg_sl [.ref (gB E + za0)]).length) Slot.unset).toArray = ls at hl ⊢
  have hl : lv_has ls 1 [(0, .ref (gB E + za0))] := hl
  unfold f_X5_init at hf
  refine lv_aload_n hx hb dX5_init_0 rfl (lv_at hl 0 rfl) ?_
  refine gx_oinit X mm_X5_3 mo_inst mo_code hl.1 dX5_init_1 (Nat.le_of_ble_eq_true rfl) (Nat.le_of_ble_eq_true rfl) ?_
  refine lv_aload_n hx hb dX5_init_4 rfl (lv_at hl 0 rfl) ?_
  refine lv_bipush (v := 7) hx hb dX5_init_5 (by decide) ?_
  obtain ⟨zr2, zh1, qzh1, hf⟩ := gc_el hf
  refine gx_newa0 X hw qzh1 ma_int (by decide) (by decide) (by decide) (Nat.le_of_ble_eq_true rfl) (Nat.le_of_ble_eq_true rfl) dX5_init_7 (fun H hw => ?_)
  obtain ⟨zh3, qzh3, hf⟩ := gb_el hf
  refine gx_putFV X hw qzh3 clX5 (by decide) mf_X5_9 rfl (hin2 rfl) rfl rfl rfl dX5_init_9 (fun H locs hw => ?_)
  refine lv_aload_n hx hb dX5_init_12 rfl (lv_at hl 0 rfl) ?_
  refine lv_bipush (v := 7) hx hb dX5_init_13 (by decide) ?_
  obtain ⟨zr5, zh4, qzh4, hf⟩ := gc_el hf
  refine gx_newa0 X hw qzh4 ma_int (by decide) (by decide) (by decide) (Nat.le_of_ble_eq_true rfl) (Nat.le_of_ble_eq_true rfl) dX5_init_15 (fun H hw => ?_)
  refine W.eq (g2 := F0 m 17 ls [.ref (gB E + zr5), .ref (gB E + za0)]) rfl ?_
  obtain ⟨zh6, qzh6, hf⟩ := gb_el hf
  refine gx_putFV X hw qzh6 clX5 (by decide) mf_X5_15 rfl (hin2 rfl) rfl rfl rfl dX5_init_17 (fun H locs hw => ?_)
  refine lv_aload_n hx hb dX5_init_20 rfl (lv_at hl 0 rfl) ?_
  refine lv_sipush (v := 128) hx hb dX5_init_21 (by decide) ?_
  obtain ⟨zr8, zh7, qzh7, hf⟩ := gc_el hf
  refine gx_newa0 X hw qzh7 ma_int (by decide) (by decide) (by decide) (Nat.le_of_ble_eq_true rfl) (Nat.le_of_ble_eq_true rfl) dX5_init_24 (fun H hw => ?_)
  obtain ⟨zh9, qzh9, hf⟩ := gb_el hf
  refine gx_putFV X hw qzh9 clX5 (by decide) mf_X5_18 rfl (hin2 rfl) rfl rfl rfl dX5_init_26 (fun H locs hw => ?_)
  exact gx_vret X hr hlk hw hf dX5_init_29
abbrev rm_X5_latestStart : Room := { frames := 1, cells := 0, slots := 0, locals := 21 }
set_option maxHeartbeats 4000000 in
set_option maxRecDepth 100000 in
theorem c_X5_latestStart (l : Launch) (E : gE) (N : Nat) (za0 : Nat) (za1 : Int32) (za2 : Int32) (za3 : Int32) (zh : PH) {h9 : PH} {r9 : Int32} (hf : f_X5_latestStart N za0 za1 za2 za3 zh = some (r9, h9)) : Met l yX5_latestStart (gWS yX5_latestStart cX5_latestStart 5 (some .int)) rm_X5_latestStart (gPc E [.ref (gB E + za0), .int za1, .int za2, .int za3] zh) (gQi E r9 h9) 0 0 (gA E) := by
  refine gx_met (by decide) ?_ rfl
  intro p e s m below meth c X hr hlk hin2 hw
  have hx := X.1.1
  have hb := X.1.2.1
  have hl := lv_entry [.ref (gB E + za0), .int za1, .int za2, .int za3] (n := 5) (Nat.le_of_ble_eq_true rfl)
  rw [lg_entry_eq]
  generalize (lg_sl [.ref (gB E + za0), .int za1, .int za2, .int za3] ++ List.replicate (5 - (lg_sl [.ref (gB E + za0), .int za1, .int za2, .int za3]).length) Slot.unset).toArray = ls at hl ⊢
  have hl : lv_has ls 5 [(0, .ref (gB E + za0)), (1, .int za1), (2, .int za2), (3, .int za3)] := hl
  unfold f_X5_latestStart at hf
  refine lv_aload_n hx hb dX5_latestStart_0 rfl (lv_at hl 0 rfl) ?_
  obtain ⟨zt1, qzt1, hf⟩ := gb_el hf
  refine gx_getR X hw qzt1 clX5 (by decide) mf_X5_18 dX5_latestStart_1 ?_
  refine lv_iload_n hx hb dX5_latestStart_4 rfl (lv_at hl 2 rfl) ?_
  refine lv_iconst (v := 1) hx hb dX5_latestStart_5 (by decide) ?_
  refine lv_iload_n hx hb dX5_latestStart_6 rfl (lv_at hl 1 rfl) ?_
  refine lv_ishl hx hb dX5_latestStart_7 ?_
  refine lv_iconst (v := (-1)) hx hb dX5_latestStart_8 (by decide) ?_
  refine lv_ixor hx hb dX5_latestStart_9 ?_
  refine lv_iand hx hb dX5_latestStart_10 ?_
  refine W.eq (g2 := F0 m 11 ls [.int (za2 &&& ((1 <<< (za1 &&& 31)) ^^^ (-1))), .ref (gB E + zt1)]) rfl ?_
  obtain ⟨zt2, qzt2, hf⟩ := gb_el hf
  refine gx_iald X hw qzt2 dX5_latestStart_11 ?_
  refine lv_istore (lv' := [(4, .int zt2), (0, .ref (gB E + za0)), (1, .int za1), (2, .int za2), (3, .int za3)]) hx hb dX5_latestStart_12 hl (by decide) rfl (fun ls hl => ?_)
  refine lv_iload hx hb dX5_latestStart_14 (lv_at hl 0 rfl) ?_
  refine lv_iload_n hx hb dX5_latestStart_16 rfl (lv_at hl 4 rfl) ?_
  refine lv_aload_n hx hb dX5_latestStart_17 rfl (lv_at hl 1 rfl) ?_
  obtain ⟨zt3, qzt3, hf⟩ := gb_el hf
  refine gx_getR X hw qzt3 clX5 (by decide) mf_X5_21 dX5_latestStart_18 ?_
  obtain ⟨zt4, qzt4, hf⟩ := gb_el hf
  refine gx_getR X hw qzt4 clX4 (by decide) mf_X5_61 dX5_latestStart_21 ?_
  refine lv_iload_n hx hb dX5_latestStart_24 rfl (lv_at hl 2 rfl) ?_
  obtain ⟨zt5, qzt5, hf⟩ := gb_el hf
  refine gx_iald X hw qzt5 dX5_latestStart_25 ?_
  refine lv_isub hx hb dX5_latestStart_26 ?_
  refine W.eq (g2 := F0 m 27 ls [.int (za3 - zt5), .int zt2]) rfl ?_
  refine gx_min X mm_X5_71 mt_min mI_java_lang_Math mx_min hl.1 (Nat.le_of_ble_eq_true rfl) (Nat.le_of_ble_eq_true rfl) (Nat.le_of_ble_eq_true rfl) (Nat.le_of_ble_eq_true rfl) dX5_latestStart_27 ?_
  refine lv_aload_n hx hb dX5_latestStart_30 rfl (lv_at hl 1 rfl) ?_
  obtain ⟨zt6, qzt6, hf⟩ := gb_el hf
  refine gx_getR X hw qzt6 clX5 (by decide) mf_X5_21 dX5_latestStart_31 ?_
  obtain ⟨zt7, qzt7, hf⟩ := gb_el hf
  refine gx_getR X hw qzt7 clX4 (by decide) mf_X5_58 dX5_latestStart_34 ?_
  refine lv_iload_n hx hb dX5_latestStart_37 rfl (lv_at hl 2 rfl) ?_
  obtain ⟨zt8, qzt8, hf⟩ := gb_el hf
  refine gx_iald X hw qzt8 dX5_latestStart_38 ?_
  refine lv_isub hx hb dX5_latestStart_39 ?_
  exact gx_iret X hr hlk hw hf dX5_latestStart_40
abbrev rm_X5_canBeDoneBy : Room := { frames := 2, cells := 0, slots := 0, locals := 45 }
set_option maxHeartbeats 4000000 in
set_option maxRecDepth 100000 in
theorem c_X5_canBeDoneBy (l : Launch) (E : gE) (N : Nat) (za0 : Nat) (za1 : Int32) (zh : PH) {h9 : PH} {r9 : Int32} (hf : f_X5_canBeDoneBy N za0 za1 zh = some (r9, h9)) : Met l yX5_canBeDoneBy (gWS yX5_canBeDoneBy cX5_canBeDoneBy 7 (some .boolean)) rm_X5_canBeDoneBy (gPc E [.ref (gB E + za0), .int za1] zh) (gQi E r9 h9) 0 0 (gA E) := by
  refine gx_met (by decide) ?_ rfl
  intro p e s m below meth c X hr hlk hin2 hw
  have hx := X.1.1
  have hb := X.1.2.1
  have hl := lv_entry [.ref (gB E + za0), .int za1] (n := 7) (Nat.le_of_ble_eq_true rfl)
  rw [lg_entry_eq]
  generalize (lg_sl [.ref (gB E + za0), .int za1] ++ List.replicate (7 - (lg_sl [.ref (gB E + za0), .int za1]).length) Slot.unset).toArray = ls at hl ⊢
  have hl : lv_has ls 7 [(0, .ref (gB E + za0)), (1, .int za1)] := hl
  have J_128 : ∀ (zs0 : Int32) (zh : PH) (H : Heap) (locs : List Loc) (ls : Array Slot), f_X5_canBeDoneBy_128 N zs0 zh = some (r9, h9) → gw E s zh H locs → lv_has ls 7 [] → W p l e rm_X5_canBeDoneBy s m [.ref (gB E + za0), .int za1].toArray below meth c H locs 0 0 (MQ below (gQi E r9 h9) [.ref (gB E + za0), .int za1].toArray s 0 0 (gA E)) (F0 m 128 ls [.int zs0]) := by
    intro zs0 zh H locs ls hf hw hl
    unfold f_X5_canBeDoneBy_128 at hf
    exact gx_zret X hr hlk hw hf dX5_canBeDoneBy_128
  have L_21 : ∀ (zn21 : Nat) (zv0 : Nat) (zv1 : Int32) (zv2 : Int32) (zv3 : Int32) (zh : PH) (H : Heap) (locs : List Loc) (ls : Array Slot), gi (fun zk zs => f_X5_canBeDoneBy_21 N zk zs.1 zs.2.1 zs.2.2.1 zs.2.2.2.1 zs.2.2.2.2) zn21 (zv0, zv1, zv2, zv3, zh) = some (r9, h9) → gw E s zh H locs → lv_has ls 7 [(0, .ref (gB E + zv0)), (1, .int zv1), (2, .int zv2), (3, .int zv3)] → W p l e rm_X5_canBeDoneBy s m [.ref (gB E + za0), .int za1].toArray below meth c H locs 0 0 (MQ below (gQi E r9 h9) [.ref (gB E + za0), .int za1].toArray s 0 0 (gA E)) (F0 m 21 ls []) := by
    intro zn21
    induction zn21 with
    | zero =>
      intro zv0 zv1 zv2 zv3 zh H locs ls hf
      cases hf
    | succ zn21 ih_21 =>
      have L_32 : ∀ (zn32 : Nat) (zv0 : Nat) (zv1 : Int32) (zv2 : Int32) (zv3 : Int32) (zv4 : Int32) (zv5 : Int32) (zh : PH) (H : Heap) (locs : List Loc) (ls : Array Slot), gi (fun zk zs => f_X5_canBeDoneBy_32 N (gi (fun zk zs => f_X5_canBeDoneBy_21 N zk zs.1 zs.2.1 zs.2.2.1 zs.2.2.2.1 zs.2.2.2.2) zn21) zk zs.1 zs.2.1 zs.2.2.1 zs.2.2.2.1 zs.2.2.2.2.1 zs.2.2.2.2.2.1 zs.2.2.2.2.2.2) zn32 (zv0, zv1, zv2, zv3, zv4, zv5, zh) = some (r9, h9) → gw E s zh H locs → lv_has ls 7 [(0, .ref (gB E + zv0)), (1, .int zv1), (2, .int zv2), (3, .int zv3), (4, .int zv4), (5, .int zv5)] → W p l e rm_X5_canBeDoneBy s m [.ref (gB E + za0), .int za1].toArray below meth c H locs 0 0 (MQ below (gQi E r9 h9) [.ref (gB E + za0), .int za1].toArray s 0 0 (gA E)) (F0 m 32 ls []) := by
        intro zn32
        induction zn32 with
        | zero =>
          intro zv0 zv1 zv2 zv3 zv4 zv5 zh H locs ls hf
          cases hf
        | succ zn32 ih_32 =>
          have J_93 : ∀ (zv0 : Nat) (zv1 : Int32) (zv2 : Int32) (zv3 : Int32) (zv4 : Int32) (zv5 : Int32) (zh : PH) (H : Heap) (locs : List Loc) (ls : Array Slot), f_X5_canBeDoneBy_93 N (gi (fun zk zs => f_X5_canBeDoneBy_21 N zk zs.1 zs.2.1 zs.2.2.1 zs.2.2.2.1 zs.2.2.2.2) zn21) (gi (fun zk zs => f_X5_canBeDoneBy_32 N (gi (fun zk zs => f_X5_canBeDoneBy_21 N zk zs.1 zs.2.1 zs.2.2.1 zs.2.2.2.1 zs.2.2.2.2) zn21) zk zs.1 zs.2.1 zs.2.2.1 zs.2.2.2.1 zs.2.2.2.2.1 zs.2.2.2.2.2.1 zs.2.2.2.2.2.2) zn32) zv0 zv1 zv2 zv3 zv4 zv5 zh = some (r9, h9) → gw E s zh H locs → lv_has ls 7 [(0, .ref (gB E + zv0)), (1, .int zv1), (2, .int zv2), (3, .int zv3), (4, .int zv4), (5, .int zv5)] → W p l e rm_X5_canBeDoneBy s m [.ref (gB E + za0), .int za1].toArray below meth c H locs 0 0 (MQ below (gQi E r9 h9) [.ref (gB E + za0), .int za1].toArray s 0 0 (gA E)) (F0 m 93 ls []) := by
            intro zv0 zv1 zv2 zv3 zv4 zv5 zh H locs ls hf hw hl
            unfold f_X5_canBeDoneBy_93 at hf
            obtain ⟨zx1, ezx1⟩ : ∃ y : Int32, y = zv5 + 1 := ⟨_, rfl⟩
            have hf := gl_el hf ezx1
            refine lv_iinc (v := zx1) (lv' := [(5, .int zx1), (0, .ref (gB E + zv0)), (1, .int zv1), (2, .int zv2), (3, .int zv3), (4, .int zv4)]) hx hb dX5_canBeDoneBy_93 hl (k := 5) rfl (by rw [ezx1]; rfl) (by decide) rfl (fun ls hl => ?_)
            refine lv_goto (tgt := 32) hx hb dX5_canBeDoneBy_96 (by decide) ?_
            exact ih_32 zv0 zv1 zv2 zv3 zv4 zx1 _ _ _ ls hf hw (lv_sub hl [1, 2, 3, 4, 5, 0] rfl)
          have J_91 : ∀ (zv0 : Nat) (zv1 : Int32) (zv2 : Int32) (zv3 : Int32) (zv5 : Int32) (zs0 : Int32) (zh : PH) (H : Heap) (locs : List Loc) (ls : Array Slot), f_X5_canBeDoneBy_91 N (gi (fun zk zs => f_X5_canBeDoneBy_21 N zk zs.1 zs.2.1 zs.2.2.1 zs.2.2.2.1 zs.2.2.2.2) zn21) (gi (fun zk zs => f_X5_canBeDoneBy_32 N (gi (fun zk zs => f_X5_canBeDoneBy_21 N zk zs.1 zs.2.1 zs.2.2.1 zs.2.2.2.1 zs.2.2.2.2) zn21) zk zs.1 zs.2.1 zs.2.2.1 zs.2.2.2.1 zs.2.2.2.2.1 zs.2.2.2.2.2.1 zs.2.2.2.2.2.2) zn32) zv0 zv1 zv2 zv3 zv5 zs0 zh = some (r9, h9) → gw E s zh H locs → lv_has ls 7 [(0, .ref (gB E + zv0)), (1, .int zv1), (2, .int zv2), (3, .int zv3), (5, .int zv5)] → W p l e rm_X5_canBeDoneBy s m [.ref (gB E + za0), .int za1].toArray below meth c H locs 0 0 (MQ below (gQi E r9 h9) [.ref (gB E + za0), .int za1].toArray s 0 0 (gA E)) (F0 m 91 ls [.int zs0]) := by
            intro zv0 zv1 zv2 zv3 zv5 zs0 zh H locs ls hf hw hl
            unfold f_X5_canBeDoneBy_91 at hf
            refine lv_istore (lv' := [(4, .int zs0), (0, .ref (gB E + zv0)), (1, .int zv1), (2, .int zv2), (3, .int zv3), (5, .int zv5)]) hx hb dX5_canBeDoneBy_91 hl (by decide) rfl (fun ls hl => ?_)
            exact J_93 zv0 zv1 zv2 zv3 zs0 zv5 _ _ _ ls hf hw (lv_sub hl [1, 2, 3, 4, 0, 5] rfl)
          intro zv0 zv1 zv2 zv3 zv4 zv5 zh H locs ls hf hw hl
          have hf := gi_s hf
          dsimp only at hf
          unfold f_X5_canBeDoneBy_32 at hf
          refine lv_iload hx hb dX5_canBeDoneBy_32 (lv_at hl 5 rfl) ?_
          refine lv_aload_n hx hb dX5_canBeDoneBy_34 rfl (lv_at hl 0 rfl) ?_
          obtain ⟨zt1, qzt1, hf⟩ := gb_el hf
          refine gx_getR X hw qzt1 clX5 (by decide) mf_X5_21 dX5_canBeDoneBy_35 ?_
          obtain ⟨zt2, qzt2, hf⟩ := gb_el hf
          refine gx_getI X hw qzt2 clX4 (by decide) mf_X5_42 dX5_canBeDoneBy_38 ?_
          refine lv_icmp_ge (tgt := 99) hx hb dX5_canBeDoneBy_41 (by decide) (fun qc3 => ?_) (fun qc3 => ?_)
          · have hf := gif_t hf qc3
            refine lv_aload_n hx hb dX5_canBeDoneBy_99 rfl (lv_at hl 0 rfl) ?_
            obtain ⟨zt4, qzt4, hf⟩ := gb_el hf
            refine gx_getR X hw qzt4 clX5 (by decide) mf_X5_18 dX5_canBeDoneBy_100 ?_
            refine lv_iload_n hx hb dX5_canBeDoneBy_103 rfl (lv_at hl 3 rfl) ?_
            refine lv_iload hx hb dX5_canBeDoneBy_104 (lv_at hl 4 rfl) ?_
            refine W.eq (g2 := F0 m 106 ls [.int zv4, .int zv3, .ref (gB E + zt4)]) rfl ?_
            obtain ⟨zh5, qzh5, hf⟩ := gb_el hf
            refine gx_iast X hw qzh5 dX5_canBeDoneBy_106 (fun H locs hw => ?_)
            obtain ⟨zx6, ezx6⟩ : ∃ y : Int32, y = zv3 + 1 := ⟨_, rfl⟩
            have hf := gl_el hf ezx6
            refine lv_iinc (v := zx6) (lv' := [(3, .int zx6), (0, .ref (gB E + zv0)), (1, .int zv1), (2, .int zv2), (4, .int zv4), (5, .int zv5)]) hx hb dX5_canBeDoneBy_107 hl (k := 3) rfl (by rw [ezx6]; rfl) (by decide) rfl (fun ls hl => ?_)
            refine lv_goto (tgt := 21) hx hb dX5_canBeDoneBy_110 (by decide) ?_
            exact ih_21 zv0 zv1 zv2 zx6 _ _ _ ls hf hw (lv_sub hl [1, 2, 3, 0] rfl)
          · have hf := gif_f hf qc3
            refine lv_iload_n hx hb dX5_canBeDoneBy_44 rfl (lv_at hl 3 rfl) ?_
            refine lv_iload hx hb dX5_canBeDoneBy_45 (lv_at hl 5 rfl) ?_
            obtain ⟨zt8, zh7, qzh7, hf⟩ := gc_el hf
            refine gx_ki (gx_runSN (As := [.int zv3, .int zv5]) (rest := []) X hw (c_X11_bitOf l E N zv3 zv5 zh qzh7) kX11_bitOf mn_X5_64 ⟨Nat.le_of_ble_eq_true rfl, Nat.le_of_ble_eq_true rfl⟩ rfl rfl rfl hl.1 (Nat.le_of_ble_eq_true rfl) rfl dX5_canBeDoneBy_47 ⟨Nat.le_of_ble_eq_true rfl, Nat.le_of_ble_eq_true rfl⟩) hw (fun H locs hw => ?_)
            refine lv_iconst (v := 1) hx hb dX5_canBeDoneBy_50 (by decide) ?_
            refine W.eq (g2 := F0 m 51 ls [.int 1, .int zt8]) rfl ?_
            refine lv_icmp_ne (tgt := 93) hx hb dX5_canBeDoneBy_51 (by decide) (fun qc9 => ?_) (fun qc9 => ?_)
            · have hf := gif_f hf qc9
              exact J_93 zv0 zv1 zv2 zv3 zv4 zv5 _ _ _ ls hf hw (lv_sub hl [0, 1, 2, 3, 4, 5] rfl)
            · have hf := gif_t hf qc9
              refine lv_aload_n hx hb dX5_canBeDoneBy_54 rfl (lv_at hl 0 rfl) ?_
              refine lv_iload hx hb dX5_canBeDoneBy_55 (lv_at hl 5 rfl) ?_
              refine lv_iload_n hx hb dX5_canBeDoneBy_57 rfl (lv_at hl 3 rfl) ?_
              refine lv_iload_n hx hb dX5_canBeDoneBy_58 rfl (lv_at hl 1 rfl) ?_
              obtain ⟨qizh10, hf⟩ := gg_el hf
              obtain ⟨zt11, zh10, qzh10, hf⟩ := gc_el hf
              refine gx_ki (gx_runV (As := [.int zv5, .int zv3, .int zv1]) (rest := []) X hw (c_X5_latestStart l E N zv0 zv5 zv3 zv1 zh7 qzh10) kX5_latestStart mm_X5_67 qizh10 clX5 ⟨Nat.le_of_ble_eq_true rfl, Nat.le_of_ble_eq_true rfl⟩ rfl rfl rfl hl.1 (Nat.le_of_ble_eq_true rfl) rfl dX5_canBeDoneBy_59 ⟨Nat.le_of_ble_eq_true rfl, Nat.le_of_ble_eq_true rfl⟩) hw (fun H locs hw => ?_)
              refine lv_istore (lv' := [(6, .int zt11), (0, .ref (gB E + zv0)), (1, .int zv1), (2, .int zv2), (3, .int zv3), (4, .int zv4), (5, .int zv5)]) hx hb dX5_canBeDoneBy_62 hl (by decide) rfl (fun ls hl => ?_)
              refine lv_iload hx hb dX5_canBeDoneBy_64 (lv_at hl 0 rfl) ?_
              refine lv_aload_n hx hb dX5_canBeDoneBy_66 rfl (lv_at hl 1 rfl) ?_
              obtain ⟨zt12, qzt12, hf⟩ := gb_el hf
              refine gx_getR X hw qzt12 clX5 (by decide) mf_X5_21 dX5_canBeDoneBy_67 ?_
              refine W.eq (g2 := F0 m 70 ls [.ref (gB E + zt12), .int zt11]) rfl ?_
              obtain ⟨zt13, qzt13, hf⟩ := gb_el hf
              refine gx_getR X hw qzt13 clX4 (by decide) mf_X5_45 dX5_canBeDoneBy_70 ?_
              refine lv_iload hx hb dX5_canBeDoneBy_73 (lv_at hl 6 rfl) ?_
              obtain ⟨zt14, qzt14, hf⟩ := gb_el hf
              refine gx_iald X hw qzt14 dX5_canBeDoneBy_75 ?_
              refine lv_icmp_lt (tgt := 89) hx hb dX5_canBeDoneBy_76 (by decide) (fun qc15 => ?_) (fun qc15 => ?_)
              · have hf := gif_t hf qc15
                refine lv_iload hx hb dX5_canBeDoneBy_89 (lv_at hl 5 rfl) ?_
                exact J_91 zv0 zv1 zv2 zv3 zv5 zv4 _ _ _ ls hf hw (lv_sub hl [1, 2, 3, 4, 6] rfl)
              · have hf := gif_f hf qc15
                refine lv_iload hx hb dX5_canBeDoneBy_79 (lv_at hl 5 rfl) ?_
                refine lv_iload hx hb dX5_canBeDoneBy_81 (lv_at hl 0 rfl) ?_
                refine gx_max X mm_X5_52 mt_max mI_java_lang_Math mx_max hl.1 (Nat.le_of_ble_eq_true rfl) (Nat.le_of_ble_eq_true rfl) (Nat.le_of_ble_eq_true rfl) (Nat.le_of_ble_eq_true rfl) dX5_canBeDoneBy_83 ?_
                refine lv_goto (tgt := 91) hx hb dX5_canBeDoneBy_86 (by decide) ?_
                exact J_91 zv0 zv1 zv2 zv3 zv5 (gmax zv4 zt11) _ _ _ ls hf hw (lv_sub hl [1, 2, 3, 4, 6] rfl)
      intro zv0 zv1 zv2 zv3 zh H locs ls hf hw hl
      have hf := gi_s hf
      dsimp only at hf
      unfold f_X5_canBeDoneBy_21 at hf
      refine lv_iload_n hx hb dX5_canBeDoneBy_21 rfl (lv_at hl 3 rfl) ?_
      refine lv_iload_n hx hb dX5_canBeDoneBy_22 rfl (lv_at hl 2 rfl) ?_
      refine lv_icmp_gt (tgt := 113) hx hb dX5_canBeDoneBy_23 (by decide) (fun qc1 => ?_) (fun qc1 => ?_)
      · have hf := gif_t hf qc1
        refine lv_aload_n hx hb dX5_canBeDoneBy_113 rfl (lv_at hl 0 rfl) ?_
        obtain ⟨zt2, qzt2, hf⟩ := gb_el hf
        refine gx_getR X hw qzt2 clX5 (by decide) mf_X5_18 dX5_canBeDoneBy_114 ?_
        refine lv_iload_n hx hb dX5_canBeDoneBy_117 rfl (lv_at hl 2 rfl) ?_
        obtain ⟨zt3, qzt3, hf⟩ := gb_el hf
        refine gx_iald X hw qzt3 dX5_canBeDoneBy_118 ?_
        refine lv_iconst (v := (-1)) hx hb dX5_canBeDoneBy_119 (by decide) ?_
        refine lv_icmp_eq (tgt := 127) hx hb dX5_canBeDoneBy_120 (by decide) (fun qc4 => ?_) (fun qc4 => ?_)
        · have hf := gif_t hf qc4
          refine W.eq (g2 := F0 m 127 ls []) rfl ?_
          refine lv_iconst (v := 0) hx hb dX5_canBeDoneBy_127 (by decide) ?_
          exact J_128 0 _ _ _ ls hf hw (lv_sub hl [] rfl)
        · have hf := gif_f hf qc4
          refine W.eq (g2 := F0 m 123 ls []) rfl ?_
          refine lv_iconst (v := 1) hx hb dX5_canBeDoneBy_123 (by decide) ?_
          refine lv_goto (tgt := 128) hx hb dX5_canBeDoneBy_124 (by decide) ?_
          exact J_128 1 _ _ _ ls hf hw (lv_sub hl [] rfl)
      · have hf := gif_f hf qc1
        refine lv_iconst (v := (-1)) hx hb dX5_canBeDoneBy_26 (by decide) ?_
        refine lv_istore (lv' := [(4, .int (-1)), (0, .ref (gB E + zv0)), (1, .int zv1), (2, .int zv2), (3, .int zv3)]) hx hb dX5_canBeDoneBy_27 hl (by decide) rfl (fun ls hl => ?_)
        refine lv_iconst (v := 0) hx hb dX5_canBeDoneBy_29 (by decide) ?_
        refine lv_istore (lv' := [(5, .int 0), (4, .int (-1)), (0, .ref (gB E + zv0)), (1, .int zv1), (2, .int zv2), (3, .int zv3)]) hx hb dX5_canBeDoneBy_30 hl (by decide) rfl (fun ls hl => ?_)
        exact L_32 N zv0 zv1 zv2 zv3 (-1) 0 _ _ _ ls hf hw (lv_sub hl [2, 3, 4, 5, 1, 0] rfl)
  unfold f_X5_canBeDoneBy at hf
  refine lv_aload_n hx hb dX5_canBeDoneBy_0 rfl (lv_at hl 0 rfl) ?_
  obtain ⟨zt1, qzt1, hf⟩ := gb_el hf
  refine gx_getR X hw qzt1 clX5 (by decide) mf_X5_18 dX5_canBeDoneBy_1 ?_
  refine lv_iconst (v := 0) hx hb dX5_canBeDoneBy_4 (by decide) ?_
  refine lv_iload_n hx hb dX5_canBeDoneBy_5 rfl (lv_at hl 1 rfl) ?_
  obtain ⟨zh2, qzh2, hf⟩ := gb_el hf
  refine gx_iast X hw qzh2 dX5_canBeDoneBy_6 (fun H locs hw => ?_)
  refine lv_iconst (v := 1) hx hb dX5_canBeDoneBy_7 (by decide) ?_
  refine lv_aload_n hx hb dX5_canBeDoneBy_8 rfl (lv_at hl 0 rfl) ?_
  obtain ⟨zt3, qzt3, hf⟩ := gb_el hf
  refine gx_getR X hw qzt3 clX5 (by decide) mf_X5_21 dX5_canBeDoneBy_9 ?_
  obtain ⟨zt4, qzt4, hf⟩ := gb_el hf
  refine gx_getI X hw qzt4 clX4 (by decide) mf_X5_42 dX5_canBeDoneBy_12 ?_
  refine W.eq (g2 := F0 m 15 ls [.int zt4, .int 1]) rfl ?_
  refine lv_ishl hx hb dX5_canBeDoneBy_15 ?_
  refine lv_iconst (v := 1) hx hb dX5_canBeDoneBy_16 (by decide) ?_
  refine lv_isub hx hb dX5_canBeDoneBy_17 ?_
  refine lv_topi (fun zx5 ezx5 => ?_)
  have hf := gl_el hf ezx5
  refine lv_istore_n (lv' := [(2, .int zx5), (0, .ref (gB E + za0)), (1, .int za1)]) hx hb dX5_canBeDoneBy_18 rfl hl (by decide) rfl (fun ls hl => ?_)
  refine lv_iconst (v := 1) hx hb dX5_canBeDoneBy_19 (by decide) ?_
  refine lv_istore_n (lv' := [(3, .int 1), (2, .int zx5), (0, .ref (gB E + za0)), (1, .int za1)]) hx hb dX5_canBeDoneBy_20 rfl hl (by decide) rfl (fun ls hl => ?_)
  exact L_21 N za0 za1 zx5 1 _ _ _ ls hf hw (lv_sub hl [2, 3, 1, 0] rfl)
abbrev rm_X5_firstInTime : Room := { frames := 2, cells := 0, slots := 0, locals := 45 }
set_option maxHeartbeats 4000000 in
set_option maxRecDepth 100000 in
theorem c_X5_firstInTime (l : Launch) (E : gE) (N : Nat) (za0 : Nat) (za1 : Int32) (za2 : Int32) (zh : PH) {h9 : PH} {r9 : Int32} (hf : f_X5_firstInTime N za0 za1 za2 zh = some (r9, h9)) : Met l yX5_firstInTime (gWS yX5_firstInTime cX5_firstInTime 4 (some .int)) rm_X5_firstInTime (gPc E [.ref (gB E + za0), .int za1, .int za2] zh) (gQi E r9 h9) 0 0 (gA E) := by
  refine gx_met (by decide) ?_ rfl
  intro p e s m below meth c X hr hlk hin2 hw
  have hx := X.1.1
  have hb := X.1.2.1
  have hl := lv_entry [.ref (gB E + za0), .int za1, .int za2] (n := 4) (Nat.le_of_ble_eq_true rfl)
  rw [lg_entry_eq]
  generalize (lg_sl [.ref (gB E + za0), .int za1, .int za2] ++ List.replicate (4 - (lg_sl [.ref (gB E + za0), .int za1, .int za2]).length) Slot.unset).toArray = ls at hl ⊢
  have hl : lv_has ls 4 [(0, .ref (gB E + za0)), (1, .int za1), (2, .int za2)] := hl
  have L_2 : ∀ (zn2 : Nat) (zv0 : Nat) (zv1 : Int32) (zv2 : Int32) (zv3 : Int32) (zh : PH) (H : Heap) (locs : List Loc) (ls : Array Slot), gi (fun zk zs => f_X5_firstInTime_2 N zk zs.1 zs.2.1 zs.2.2.1 zs.2.2.2.1 zs.2.2.2.2) zn2 (zv0, zv1, zv2, zv3, zh) = some (r9, h9) → gw E s zh H locs → lv_has ls 4 [(0, .ref (gB E + zv0)), (1, .int zv1), (2, .int zv2), (3, .int zv3)] → W p l e rm_X5_firstInTime s m [.ref (gB E + za0), .int za1, .int za2].toArray below meth c H locs 0 0 (MQ below (gQi E r9 h9) [.ref (gB E + za0), .int za1, .int za2].toArray s 0 0 (gA E)) (F0 m 2 ls []) := by
    intro zn2
    induction zn2 with
    | zero =>
      intro zv0 zv1 zv2 zv3 zh H locs ls hf
      cases hf
    | succ zn2 ih_2 =>
      have J_50 : ∀ (zv0 : Nat) (zv1 : Int32) (zv2 : Int32) (zv3 : Int32) (zh : PH) (H : Heap) (locs : List Loc) (ls : Array Slot), f_X5_firstInTime_50 N (gi (fun zk zs => f_X5_firstInTime_2 N zk zs.1 zs.2.1 zs.2.2.1 zs.2.2.2.1 zs.2.2.2.2) zn2) zv0 zv1 zv2 zv3 zh = some (r9, h9) → gw E s zh H locs → lv_has ls 4 [(0, .ref (gB E + zv0)), (1, .int zv1), (2, .int zv2), (3, .int zv3)] → W p l e rm_X5_firstInTime s m [.ref (gB E + za0), .int za1, .int za2].toArray below meth c H locs 0 0 (MQ below (gQi E r9 h9) [.ref (gB E + za0), .int za1, .int za2].toArray s 0 0 (gA E)) (F0 m 50 ls []) := by
        intro zv0 zv1 zv2 zv3 zh H locs ls hf hw hl
        unfold f_X5_firstInTime_50 at hf
        obtain ⟨zx1, ezx1⟩ : ∃ y : Int32, y = zv3 + 1 := ⟨_, rfl⟩
        have hf := gl_el hf ezx1
        refine lv_iinc (v := zx1) (lv' := [(3, .int zx1), (0, .ref (gB E + zv0)), (1, .int zv1), (2, .int zv2)]) hx hb dX5_firstInTime_50 hl (k := 3) rfl (by rw [ezx1]; rfl) (by decide) rfl (fun ls hl => ?_)
        refine lv_goto (tgt := 2) hx hb dX5_firstInTime_53 (by decide) ?_
        exact ih_2 zv0 zv1 zv2 zx1 _ _ _ ls hf hw (lv_sub hl [1, 2, 3, 0] rfl)
      intro zv0 zv1 zv2 zv3 zh H locs ls hf hw hl
      have hf := gi_s hf
      dsimp only at hf
      unfold f_X5_firstInTime_2 at hf
      refine lv_iload_n hx hb dX5_firstInTime_2 rfl (lv_at hl 3 rfl) ?_
      refine lv_aload_n hx hb dX5_firstInTime_3 rfl (lv_at hl 0 rfl) ?_
      obtain ⟨zt1, qzt1, hf⟩ := gb_el hf
      refine gx_getR X hw qzt1 clX5 (by decide) mf_X5_21 dX5_firstInTime_4 ?_
      obtain ⟨zt2, qzt2, hf⟩ := gb_el hf
      refine gx_getI X hw qzt2 clX4 (by decide) mf_X5_42 dX5_firstInTime_7 ?_
      refine lv_icmp_ge (tgt := 56) hx hb dX5_firstInTime_10 (by decide) (fun qc3 => ?_) (fun qc3 => ?_)
      · have hf := gif_t hf qc3
        refine lv_iconst (v := (-1)) hx hb dX5_firstInTime_56 (by decide) ?_
        exact gx_iret X hr hlk hw hf dX5_firstInTime_57
      · have hf := gif_f hf qc3
        refine lv_iload_n hx hb dX5_firstInTime_13 rfl (lv_at hl 1 rfl) ?_
        refine lv_iload_n hx hb dX5_firstInTime_14 rfl (lv_at hl 3 rfl) ?_
        obtain ⟨zt5, zh4, qzh4, hf⟩ := gc_el hf
        refine gx_ki (gx_runSN (As := [.int zv1, .int zv3]) (rest := []) X hw (c_X11_bitOf l E N zv1 zv3 zh qzh4) kX11_bitOf mn_X5_64 ⟨Nat.le_of_ble_eq_true rfl, Nat.le_of_ble_eq_true rfl⟩ rfl rfl rfl hl.1 (Nat.le_of_ble_eq_true rfl) rfl dX5_firstInTime_15 ⟨Nat.le_of_ble_eq_true rfl, Nat.le_of_ble_eq_true rfl⟩) hw (fun H locs hw => ?_)
        refine lv_iconst (v := 1) hx hb dX5_firstInTime_18 (by decide) ?_
        refine W.eq (g2 := F0 m 19 ls [.int 1, .int zt5]) rfl ?_
        refine lv_icmp_ne (tgt := 50) hx hb dX5_firstInTime_19 (by decide) (fun qc6 => ?_) (fun qc6 => ?_)
        · have hf := gif_f hf qc6
          exact J_50 zv0 zv1 zv2 zv3 _ _ _ ls hf hw (lv_sub hl [0, 1, 2, 3] rfl)
        · have hf := gif_t hf qc6
          refine lv_iload_n hx hb dX5_firstInTime_22 rfl (lv_at hl 2 rfl) ?_
          refine lv_aload_n hx hb dX5_firstInTime_23 rfl (lv_at hl 0 rfl) ?_
          obtain ⟨zt7, qzt7, hf⟩ := gb_el hf
          refine gx_getR X hw qzt7 clX5 (by decide) mf_X5_21 dX5_firstInTime_24 ?_
          obtain ⟨zt8, qzt8, hf⟩ := gb_el hf
          refine gx_getR X hw qzt8 clX4 (by decide) mf_X5_45 dX5_firstInTime_27 ?_
          refine lv_iload_n hx hb dX5_firstInTime_30 rfl (lv_at hl 3 rfl) ?_
          obtain ⟨zt9, qzt9, hf⟩ := gb_el hf
          refine gx_iald X hw qzt9 dX5_firstInTime_31 ?_
          refine gx_max X mm_X5_52 mt_max mI_java_lang_Math mx_max hl.1 (Nat.le_of_ble_eq_true rfl) (Nat.le_of_ble_eq_true rfl) (Nat.le_of_ble_eq_true rfl) (Nat.le_of_ble_eq_true rfl) dX5_firstInTime_32 ?_
          refine lv_aload_n hx hb dX5_firstInTime_35 rfl (lv_at hl 0 rfl) ?_
          refine lv_iload_n hx hb dX5_firstInTime_36 rfl (lv_at hl 3 rfl) ?_
          refine W.eq (g2 := F0 m 37 ls [.int zv3, .ref (gB E + zv0), .int (gmax zv2 zt9)]) rfl ?_
          refine lv_iload_n hx hb dX5_firstInTime_37 rfl (lv_at hl 1 rfl) ?_
          refine lv_aload_n hx hb dX5_firstInTime_38 rfl (lv_at hl 0 rfl) ?_
          obtain ⟨zt10, qzt10, hf⟩ := gb_el hf
          refine gx_getI X hw qzt10 clX5 (by decide) mf_X5_35 dX5_firstInTime_39 ?_
          obtain ⟨qizh11, hf⟩ := gg_el hf
          obtain ⟨zt12, zh11, qzh11, hf⟩ := gc_el hf
          refine gx_ki (gx_runV (As := [.int zv3, .int zv1, .int zt10]) (rest := [.int (gmax zv2 zt9)]) X hw (c_X5_latestStart l E N zv0 zv3 zv1 zt10 zh4 qzh11) kX5_latestStart mm_X5_67 qizh11 clX5 ⟨Nat.le_of_ble_eq_true rfl, Nat.le_of_ble_eq_true rfl⟩ rfl rfl rfl hl.1 (Nat.le_of_ble_eq_true rfl) rfl dX5_firstInTime_42 ⟨Nat.le_of_ble_eq_true rfl, Nat.le_of_ble_eq_true rfl⟩) hw (fun H locs hw => ?_)
          refine lv_icmp_gt (tgt := 50) hx hb dX5_firstInTime_45 (by decide) (fun qc13 => ?_) (fun qc13 => ?_)
          · have hf := gif_t hf qc13
            exact J_50 zv0 zv1 zv2 zv3 _ _ _ ls hf hw (lv_sub hl [0, 1, 2, 3] rfl)
          · have hf := gif_f hf qc13
            refine lv_iload_n hx hb dX5_firstInTime_48 rfl (lv_at hl 3 rfl) ?_
            exact gx_iret X hr hlk hw hf dX5_firstInTime_49
  unfold f_X5_firstInTime at hf
  refine lv_iconst (v := 0) hx hb dX5_firstInTime_0 (by decide) ?_
  refine lv_istore_n (lv' := [(3, .int 0), (0, .ref (gB E + za0)), (1, .int za1), (2, .int za2)]) hx hb dX5_firstInTime_1 rfl hl (by decide) rfl (fun ls hl => ?_)
  exact L_2 N za0 za1 za2 0 _ _ _ ls hf hw (lv_sub hl [1, 2, 3, 0] rfl)
abbrev rm_X5_takeFirstOrder : Room := { frames := 3, cells := 0, slots := 0, locals := 68 }
set_option maxHeartbeats 4000000 in
set_option maxRecDepth 100000 in
theorem c_X5_takeFirstOrder (l : Launch) (E : gE) (N : Nat) (za0 : Nat) (zh : PH) {h9 : PH} (hf : f_X5_takeFirstOrder N za0 zh = some h9) : Met l yX5_takeFirstOrder (gWS yX5_takeFirstOrder cX5_takeFirstOrder 5 none) rm_X5_takeFirstOrder (gPc E [.ref (gB E + za0)] zh) (gQv E h9) 0 0 (gA E) := by
  refine gx_met (by decide) ?_ rfl
  intro p e s m below meth c X hr hlk hin2 hw
  have hx := X.1.1
  have hb := X.1.2.1
  have hl := lv_entry [.ref (gB E + za0)] (n := 5) (Nat.le_of_ble_eq_true rfl)
  rw [lg_entry_eq]
  generalize (lg_sl [.ref (gB E + za0)] ++ List.replicate (5 - (lg_sl [.ref (gB E + za0)]).length) Slot.unset).toArray = ls at hl ⊢
  have hl : lv_has ls 5 [(0, .ref (gB E + za0))] := hl
  have L_16 : ∀ (zn16 : Nat) (zv0 : Nat) (zv1 : Int32) (zv2 : Int32) (zv3 : Int32) (zh : PH) (H : Heap) (locs : List Loc) (ls : Array Slot), gi (fun zk zs => f_X5_takeFirstOrder_16 N zk zs.1 zs.2.1 zs.2.2.1 zs.2.2.2.1 zs.2.2.2.2) zn16 (zv0, zv1, zv2, zv3, zh) = some h9 → gw E s zh H locs → lv_has ls 5 [(0, .ref (gB E + zv0)), (1, .int zv1), (2, .int zv2), (3, .int zv3)] → W p l e rm_X5_takeFirstOrder s m [.ref (gB E + za0)].toArray below meth c H locs 0 0 (MQ below (gQv E h9) [.ref (gB E + za0)].toArray s 0 0 (gA E)) (F0 m 16 ls []) := by
    intro zn16
    induction zn16 with
    | zero =>
      intro zv0 zv1 zv2 zv3 zh H locs ls hf
      cases hf
    | succ zn16 ih_16 =>
      intro zv0 zv1 zv2 zv3 zh H locs ls hf hw hl
      have hf := gi_s hf
      dsimp only at hf
      unfold f_X5_takeFirstOrder_16 at hf
      refine lv_iload_n hx hb dX5_takeFirstOrder_16 rfl (lv_at hl 3 rfl) ?_
      refine lv_aload_n hx hb dX5_takeFirstOrder_17 rfl (lv_at hl 0 rfl) ?_
      obtain ⟨zt1, qzt1, hf⟩ := gb_el hf
      refine gx_getR X hw qzt1 clX5 (by decide) mf_X5_21 dX5_takeFirstOrder_18 ?_
      obtain ⟨zt2, qzt2, hf⟩ := gb_el hf
      refine gx_getI X hw qzt2 clX4 (by decide) mf_X5_42 dX5_takeFirstOrder_21 ?_
      refine lv_icmp_ge (tgt := 105) hx hb dX5_takeFirstOrder_24 (by decide) (fun qc3 => ?_) (fun qc3 => ?_)
      · have hf := gif_t hf qc3
        exact gx_vret X hr hlk hw hf dX5_takeFirstOrder_105
      · have hf := gif_f hf qc3
        refine lv_aload_n hx hb dX5_takeFirstOrder_27 rfl (lv_at hl 0 rfl) ?_
        refine lv_iload_n hx hb dX5_takeFirstOrder_28 rfl (lv_at hl 1 rfl) ?_
        refine lv_iload_n hx hb dX5_takeFirstOrder_29 rfl (lv_at hl 2 rfl) ?_
        obtain ⟨qizh4, hf⟩ := gg_el hf
        obtain ⟨zt5, zh4, qzh4, hf⟩ := gc_el hf
        refine gx_ki (gx_runV (As := [.int zv1, .int zv2]) (rest := []) X hw (c_X5_firstInTime l E N zv0 zv1 zv2 zh qzh4) kX5_firstInTime mm_X5_74 qizh4 clX5 ⟨Nat.le_of_ble_eq_true rfl, Nat.le_of_ble_eq_true rfl⟩ rfl rfl rfl hl.1 (Nat.le_of_ble_eq_true rfl) rfl dX5_takeFirstOrder_30 ⟨Nat.le_of_ble_eq_true rfl, Nat.le_of_ble_eq_true rfl⟩) hw (fun H locs hw => ?_)
        refine W.eq (g2 := F0 m 33 ls [.int zt5]) rfl ?_
        refine lv_istore (lv' := [(4, .int zt5), (0, .ref (gB E + zv0)), (1, .int zv1), (2, .int zv2), (3, .int zv3)]) hx hb dX5_takeFirstOrder_33 hl (by decide) rfl (fun ls hl => ?_)
        refine lv_iload hx hb dX5_takeFirstOrder_35 (lv_at hl 0 rfl) ?_
        refine lv_iconst (v := (-1)) hx hb dX5_takeFirstOrder_37 (by decide) ?_
        refine lv_icmp_ne (tgt := 42) hx hb dX5_takeFirstOrder_38 (by decide) (fun qc6 => ?_) (fun qc6 => ?_)
        · have hf := gif_f hf qc6
          refine lv_aload_n hx hb dX5_takeFirstOrder_42 rfl (lv_at hl 1 rfl) ?_
          obtain ⟨zt7, qzt7, hf⟩ := gb_el hf
          refine gx_getR X hw qzt7 clX5 (by decide) mf_X5_9 dX5_takeFirstOrder_43 ?_
          refine lv_iload_n hx hb dX5_takeFirstOrder_46 rfl (lv_at hl 4 rfl) ?_
          refine lv_iload hx hb dX5_takeFirstOrder_47 (lv_at hl 0 rfl) ?_
          obtain ⟨zh8, qzh8, hf⟩ := gb_el hf
          refine gx_iast X hw qzh8 dX5_takeFirstOrder_49 (fun H locs hw => ?_)
          refine lv_aload_n hx hb dX5_takeFirstOrder_50 rfl (lv_at hl 1 rfl) ?_
          refine W.eq (g2 := F0 m 51 ls [.ref (gB E + zv0)]) rfl ?_
          obtain ⟨zt9, qzt9, hf⟩ := gb_el hf
          refine gx_getR X hw qzt9 clX5 (by decide) mf_X5_15 dX5_takeFirstOrder_51 ?_
          refine lv_iload hx hb dX5_takeFirstOrder_54 (lv_at hl 0 rfl) ?_
          refine lv_iload_n hx hb dX5_takeFirstOrder_56 rfl (lv_at hl 3 rfl) ?_
          refine lv_aload_n hx hb dX5_takeFirstOrder_57 rfl (lv_at hl 1 rfl) ?_
          obtain ⟨zt10, qzt10, hf⟩ := gb_el hf
          refine gx_getR X hw qzt10 clX5 (by decide) mf_X5_21 dX5_takeFirstOrder_58 ?_
          obtain ⟨zt11, qzt11, hf⟩ := gb_el hf
          refine gx_getR X hw qzt11 clX4 (by decide) mf_X5_45 dX5_takeFirstOrder_61 ?_
          refine lv_iload hx hb dX5_takeFirstOrder_64 (lv_at hl 0 rfl) ?_
          obtain ⟨zt12, qzt12, hf⟩ := gb_el hf
          refine gx_iald X hw qzt12 dX5_takeFirstOrder_66 ?_
          refine gx_max X mm_X5_52 mt_max mI_java_lang_Math mx_max hl.1 (Nat.le_of_ble_eq_true rfl) (Nat.le_of_ble_eq_true rfl) (Nat.le_of_ble_eq_true rfl) (Nat.le_of_ble_eq_true rfl) dX5_takeFirstOrder_67 ?_
          obtain ⟨zh13, qzh13, hf⟩ := gb_el hf
          refine gx_iast X hw qzh13 dX5_takeFirstOrder_70 (fun H locs hw => ?_)
          refine W.eq (g2 := F0 m 71 ls []) rfl ?_
          refine lv_aload_n hx hb dX5_takeFirstOrder_71 rfl (lv_at hl 1 rfl) ?_
          obtain ⟨zt14, qzt14, hf⟩ := gb_el hf
          refine gx_getR X hw qzt14 clX5 (by decide) mf_X5_15 dX5_takeFirstOrder_72 ?_
          refine lv_iload hx hb dX5_takeFirstOrder_75 (lv_at hl 0 rfl) ?_
          obtain ⟨zt15, qzt15, hf⟩ := gb_el hf
          refine gx_iald X hw qzt15 dX5_takeFirstOrder_77 ?_
          refine lv_aload_n hx hb dX5_takeFirstOrder_78 rfl (lv_at hl 1 rfl) ?_
          obtain ⟨zt16, qzt16, hf⟩ := gb_el hf
          refine gx_getR X hw qzt16 clX5 (by decide) mf_X5_21 dX5_takeFirstOrder_79 ?_
          obtain ⟨zt17, qzt17, hf⟩ := gb_el hf
          refine gx_getR X hw qzt17 clX4 (by decide) mf_X5_58 dX5_takeFirstOrder_82 ?_
          refine lv_iload hx hb dX5_takeFirstOrder_85 (lv_at hl 0 rfl) ?_
          obtain ⟨zt18, qzt18, hf⟩ := gb_el hf
          refine gx_iald X hw qzt18 dX5_takeFirstOrder_87 ?_
          refine lv_iadd hx hb dX5_takeFirstOrder_88 ?_
          refine W.eq (g2 := F0 m 89 ls [.int (zt15 + zt18)]) rfl ?_
          refine lv_topi (fun zx19 ezx19 => ?_)
          have hf := gl_el hf ezx19
          refine lv_istore_n (lv' := [(2, .int zx19), (4, .int zt5), (0, .ref (gB E + zv0)), (1, .int zv1), (3, .int zv3)]) hx hb dX5_takeFirstOrder_89 rfl hl (by decide) rfl (fun ls hl => ?_)
          refine lv_iload_n hx hb dX5_takeFirstOrder_90 rfl (lv_at hl 3 rfl) ?_
          refine lv_iconst (v := 1) hx hb dX5_takeFirstOrder_91 (by decide) ?_
          refine lv_iload hx hb dX5_takeFirstOrder_92 (lv_at hl 1 rfl) ?_
          refine lv_ishl hx hb dX5_takeFirstOrder_94 ?_
          refine lv_iconst (v := (-1)) hx hb dX5_takeFirstOrder_95 (by decide) ?_
          refine lv_ixor hx hb dX5_takeFirstOrder_96 ?_
          refine lv_iand hx hb dX5_takeFirstOrder_97 ?_
          refine lv_topi (fun zx20 ezx20 => ?_)
          have hf := gl_el hf ezx20
          refine lv_istore_n (lv' := [(1, .int zx20), (2, .int zx19), (4, .int zt5), (0, .ref (gB E + zv0)), (3, .int zv3)]) hx hb dX5_takeFirstOrder_98 rfl hl (by decide) rfl (fun ls hl => ?_)
          obtain ⟨zx21, ezx21⟩ : ∃ y : Int32, y = zv3 + 1 := ⟨_, rfl⟩
          have hf := gl_el hf ezx21
          refine lv_iinc (v := zx21) (lv' := [(3, .int zx21), (1, .int zx20), (2, .int zx19), (4, .int zt5), (0, .ref (gB E + zv0))]) hx hb dX5_takeFirstOrder_99 hl (k := 4) rfl (by rw [ezx21]; rfl) (by decide) rfl (fun ls hl => ?_)
          refine W.eq (g2 := F0 m 102 ls []) rfl ?_
          refine lv_goto (tgt := 16) hx hb dX5_takeFirstOrder_102 (by decide) ?_
          exact ih_16 zv0 zx20 zx19 zx21 _ _ _ ls hf hw (lv_sub hl [4, 1, 2, 0] rfl)
        · have hf := gif_t hf qc6
          exact gx_vret X hr hlk hw hf dX5_takeFirstOrder_41
  unfold f_X5_takeFirstOrder at hf
  refine lv_iconst (v := 1) hx hb dX5_takeFirstOrder_0 (by decide) ?_
  refine lv_aload_n hx hb dX5_takeFirstOrder_1 rfl (lv_at hl 0 rfl) ?_
  obtain ⟨zt1, qzt1, hf⟩ := gb_el hf
  refine gx_getR X hw qzt1 clX5 (by decide) mf_X5_21 dX5_takeFirstOrder_2 ?_
  obtain ⟨zt2, qzt2, hf⟩ := gb_el hf
  refine gx_getI X hw qzt2 clX4 (by decide) mf_X5_42 dX5_takeFirstOrder_5 ?_
  refine lv_ishl hx hb dX5_takeFirstOrder_8 ?_
  refine lv_iconst (v := 1) hx hb dX5_takeFirstOrder_9 (by decide) ?_
  refine lv_isub hx hb dX5_takeFirstOrder_10 ?_
  refine lv_topi (fun zx3 ezx3 => ?_)
  have hf := gl_el hf ezx3
  refine lv_istore_n (lv' := [(1, .int zx3), (0, .ref (gB E + za0))]) hx hb dX5_takeFirstOrder_11 rfl hl (by decide) rfl (fun ls hl => ?_)
  refine lv_iconst (v := 0) hx hb dX5_takeFirstOrder_12 (by decide) ?_
  refine W.eq (g2 := F0 m 13 ls [.int 0]) rfl ?_
  refine lv_istore_n (lv' := [(2, .int 0), (1, .int zx3), (0, .ref (gB E + za0))]) hx hb dX5_takeFirstOrder_13 rfl hl (by decide) rfl (fun ls hl => ?_)
  refine lv_iconst (v := 0) hx hb dX5_takeFirstOrder_14 (by decide) ?_
  refine lv_istore_n (lv' := [(3, .int 0), (2, .int 0), (1, .int zx3), (0, .ref (gB E + za0))]) hx hb dX5_takeFirstOrder_15 rfl hl (by decide) rfl (fun ls hl => ?_)
  exact L_16 N za0 zx3 0 0 _ _ _ ls hf hw (lv_sub hl [3, 2, 1, 0] rfl)
abbrev rm_X5_make : Room := { frames := 4, cells := 0, slots := 0, locals := 92 }
set_option maxHeartbeats 4000000 in
set_option maxRecDepth 100000 in
theorem c_X5_make (l : Launch) (E : gE) (N : Nat) (za0 : Nat) (za1 : Nat) (zh : PH) {h9 : PH} (hf : f_X5_make N za0 za1 zh = some h9) : Met l yX5_make (gWS yX5_make cX5_make 6 none) rm_X5_make (gPc E [.ref (gB E + za0), .ref (gB E + za1)] zh) (gQv E h9) 0 0 (gA E) := by
  refine gx_met (by decide) ?_ rfl
  intro p e s m below meth c X hr hlk hin2 hw
  have hx := X.1.1
  have hb := X.1.2.1
  have hl := lv_entry [.ref (gB E + za0), .ref (gB E + za1)] (n := 6) (Nat.le_of_ble_eq_true rfl)
  rw [lg_entry_eq]
  generalize (lg_sl [.ref (gB E + za0), .ref (gB E + za1)] ++ List.replicate (6 - (lg_sl [.ref (gB E + za0), .ref (gB E + za1)]).length) Slot.unset).toArray = ls at hl ⊢
  have hl : lv_has ls 6 [(0, .ref (gB E + za0)), (1, .ref (gB E + za1))] := hl
  have J_63 : ∀ (zv0 : Nat) (zv3 : Int32) (zh : PH) (H : Heap) (locs : List Loc) (ls : Array Slot), f_X5_make_63 N zv0 zv3 zh = some h9 → gw E s zh H locs → lv_has ls 6 [(0, .ref (gB E + zv0)), (3, .int zv3)] → W p l e rm_X5_make s m [.ref (gB E + za0), .ref (gB E + za1)].toArray below meth c H locs 0 0 (MQ below (gQv E h9) [.ref (gB E + za0), .ref (gB E + za1)].toArray s 0 0 (gA E)) (F0 m 63 ls []) := by
    intro zv0 zv3 zh H locs ls hf hw hl
    unfold f_X5_make_63 at hf
    refine lv_aload_n hx hb dX5_make_63 rfl (lv_at hl 0 rfl) ?_
    refine lv_iload_n hx hb dX5_make_64 rfl (lv_at hl 1 rfl) ?_
    obtain ⟨zh1, qzh1, hf⟩ := gb_el hf
    refine gx_putV X hw qzh1 clX5 (by decide) mf_X5_35 rfl rfl rfl dX5_make_65 (fun H locs hw => ?_)
    refine lv_aload_n hx hb dX5_make_68 rfl (lv_at hl 0 rfl) ?_
    refine lv_aload_n hx hb dX5_make_69 rfl (lv_at hl 0 rfl) ?_
    obtain ⟨zt2, qzt2, hf⟩ := gb_el hf
    refine gx_getI X hw qzt2 clX5 (by decide) mf_X5_35 dX5_make_70 ?_
    obtain ⟨qizh3, hf⟩ := gg_el hf
    obtain ⟨zt4, zh3, qzh3, hf⟩ := gc_el hf
    refine gx_ki (gx_runV (As := [.int zt2]) (rest := []) X hw (c_X5_canBeDoneBy l E N zv0 zt2 zh1 qzh3) kX5_canBeDoneBy mm_X5_31 qizh3 clX5 ⟨Nat.le_of_ble_eq_true rfl, Nat.le_of_ble_eq_true rfl⟩ rfl rfl rfl hl.1 (Nat.le_of_ble_eq_true rfl) rfl dX5_make_73 ⟨Nat.le_of_ble_eq_true rfl, Nat.le_of_ble_eq_true rfl⟩) hw (fun H locs hw => ?_)
    refine lv_pop hx hb dX5_make_76 rfl ?_
    refine lv_aload_n hx hb dX5_make_77 rfl (lv_at hl 0 rfl) ?_
    refine W.eq (g2 := F0 m 78 ls [.ref (gB E + zv0)]) rfl ?_
    obtain ⟨qizh5, hf⟩ := gg_el hf
    obtain ⟨zh5, qzh5, hf⟩ := gb_el hf
    refine gx_kv (gx_runV (As := []) (rest := []) X hw (c_X5_takeFirstOrder l E N zv0 zh3 qzh5) kX5_takeFirstOrder mm_X5_39 qizh5 clX5 ⟨Nat.le_of_ble_eq_true rfl, Nat.le_of_ble_eq_true rfl⟩ rfl rfl rfl hl.1 (Nat.le_of_ble_eq_true rfl) rfl dX5_make_78 ⟨Nat.le_of_ble_eq_true rfl, Nat.le_of_ble_eq_true rfl⟩) hw (fun H locs hw => ?_)
    exact gx_vret X hr hlk hw hf dX5_make_81
  have L_18 : ∀ (zn18 : Nat) (zv0 : Nat) (zv2 : Int32) (zv3 : Int32) (zv4 : Int32) (zh : PH) (H : Heap) (locs : List Loc) (ls : Array Slot), gi (fun zk zs => f_X5_make_18 N zk zs.1 zs.2.1 zs.2.2.1 zs.2.2.2.1 zs.2.2.2.2) zn18 (zv0, zv2, zv3, zv4, zh) = some h9 → gw E s zh H locs → lv_has ls 6 [(0, .ref (gB E + zv0)), (2, .int zv2), (3, .int zv3), (4, .int zv4)] → W p l e rm_X5_make s m [.ref (gB E + za0), .ref (gB E + za1)].toArray below meth c H locs 0 0 (MQ below (gQv E h9) [.ref (gB E + za0), .ref (gB E + za1)].toArray s 0 0 (gA E)) (F0 m 18 ls []) := by
    intro zn18
    induction zn18 with
    | zero =>
      intro zv0 zv2 zv3 zv4 zh H locs ls hf
      cases hf
    | succ zn18 ih_18 =>
      have J_57 : ∀ (zv0 : Nat) (zv2 : Int32) (zv3 : Int32) (zv4 : Int32) (zh : PH) (H : Heap) (locs : List Loc) (ls : Array Slot), f_X5_make_57 N (gi (fun zk zs => f_X5_make_18 N zk zs.1 zs.2.1 zs.2.2.1 zs.2.2.2.1 zs.2.2.2.2) zn18) zv0 zv2 zv3 zv4 zh = some h9 → gw E s zh H locs → lv_has ls 6 [(0, .ref (gB E + zv0)), (2, .int zv2), (3, .int zv3), (4, .int zv4)] → W p l e rm_X5_make s m [.ref (gB E + za0), .ref (gB E + za1)].toArray below meth c H locs 0 0 (MQ below (gQv E h9) [.ref (gB E + za0), .ref (gB E + za1)].toArray s 0 0 (gA E)) (F0 m 57 ls []) := by
        intro zv0 zv2 zv3 zv4 zh H locs ls hf hw hl
        unfold f_X5_make_57 at hf
        obtain ⟨zx1, ezx1⟩ : ∃ y : Int32, y = zv4 + 1 := ⟨_, rfl⟩
        have hf := gl_el hf ezx1
        refine lv_iinc (v := zx1) (lv' := [(4, .int zx1), (0, .ref (gB E + zv0)), (2, .int zv2), (3, .int zv3)]) hx hb dX5_make_57 hl (k := 3) rfl (by rw [ezx1]; rfl) (by decide) rfl (fun ls hl => ?_)
        refine lv_goto (tgt := 18) hx hb dX5_make_60 (by decide) ?_
        exact ih_18 zv0 zv2 zv3 zx1 _ _ _ ls hf hw (lv_sub hl [1, 2, 3, 0] rfl)
      intro zv0 zv2 zv3 zv4 zh H locs ls hf hw hl
      have hf := gi_s hf
      dsimp only at hf
      unfold f_X5_make_18 at hf
      refine lv_iload hx hb dX5_make_18 (lv_at hl 3 rfl) ?_
      refine lv_bipush (v := 32) hx hb dX5_make_20 (by decide) ?_
      refine lv_icmp_ge (tgt := 63) hx hb dX5_make_22 (by decide) (fun qc1 => ?_) (fun qc1 => ?_)
      · have hf := gif_t hf qc1
        exact J_63 zv0 zv3 _ _ _ ls hf hw (lv_sub hl [0, 2] rfl)
      · have hf := gif_f hf qc1
        refine lv_iload_n hx hb dX5_make_25 rfl (lv_at hl 1 rfl) ?_
        refine lv_iload_n hx hb dX5_make_26 rfl (lv_at hl 2 rfl) ?_
        refine lv_icmp_ge (tgt := 63) hx hb dX5_make_27 (by decide) (fun qc2 => ?_) (fun qc2 => ?_)
        · have hf := gif_t hf qc2
          exact J_63 zv0 zv3 _ _ _ ls hf hw (lv_sub hl [0, 2] rfl)
        · have hf := gif_f hf qc2
          refine lv_iload_n hx hb dX5_make_30 rfl (lv_at hl 1 rfl) ?_
          refine lv_iload_n hx hb dX5_make_31 rfl (lv_at hl 2 rfl) ?_
          refine lv_iadd hx hb dX5_make_32 ?_
          refine W.eq (g2 := F0 m 33 ls [.int (zv2 + zv3)]) rfl ?_
          refine lv_iconst (v := 2) hx hb dX5_make_33 (by decide) ?_
          refine lv_idiv hx hb dX5_make_34 (by decide) ?_
          refine lv_topi (fun zx3 ezx3 => ?_)
          have hf := gl_el hf ezx3
          refine lv_istore (lv' := [(5, .int zx3), (0, .ref (gB E + zv0)), (2, .int zv2), (3, .int zv3), (4, .int zv4)]) hx hb dX5_make_35 hl (by decide) rfl (fun ls hl => ?_)
          refine lv_aload_n hx hb dX5_make_37 rfl (lv_at hl 1 rfl) ?_
          refine lv_iload hx hb dX5_make_38 (lv_at hl 0 rfl) ?_
          obtain ⟨qizh4, hf⟩ := gg_el hf
          obtain ⟨zt5, zh4, qzh4, hf⟩ := gc_el hf
          refine gx_ki (gx_runV (As := [.int zx3]) (rest := []) X hw (c_X5_canBeDoneBy l E N zv0 zx3 zh qzh4) kX5_canBeDoneBy mm_X5_31 qizh4 clX5 ⟨Nat.le_of_ble_eq_true rfl, Nat.le_of_ble_eq_true rfl⟩ rfl rfl rfl hl.1 (Nat.le_of_ble_eq_true rfl) rfl dX5_make_40 ⟨Nat.le_of_ble_eq_true rfl, Nat.le_of_ble_eq_true rfl⟩) hw (fun H locs hw => ?_)
          refine lv_if_eq (tgt := 52) hx hb dX5_make_43 (by decide) (fun qc6 => ?_) (fun qc6 => ?_)
          · have hf := gif_t hf qc6
            refine lv_iload hx hb dX5_make_52 (lv_at hl 0 rfl) ?_
            refine lv_iconst (v := 1) hx hb dX5_make_54 (by decide) ?_
            refine lv_iadd hx hb dX5_make_55 ?_
            refine W.eq (g2 := F0 m 56 ls [.int (zx3 + 1)]) rfl ?_
            refine lv_topi (fun zx7 ezx7 => ?_)
            have hf := gl_el hf ezx7
            refine lv_istore_n (lv' := [(2, .int zx7), (5, .int zx3), (0, .ref (gB E + zv0)), (3, .int zv3), (4, .int zv4)]) hx hb dX5_make_56 rfl hl (by decide) rfl (fun ls hl => ?_)
            exact J_57 zv0 zx7 zv3 zv4 _ _ _ ls hf hw (lv_sub hl [2, 0, 3, 4] rfl)
          · have hf := gif_f hf qc6
            refine lv_iload hx hb dX5_make_46 (lv_at hl 0 rfl) ?_
            refine lv_istore_n (lv' := [(3, .int zx3), (5, .int zx3), (0, .ref (gB E + zv0)), (2, .int zv2), (4, .int zv4)]) hx hb dX5_make_48 rfl hl (by decide) rfl (fun ls hl => ?_)
            refine lv_goto (tgt := 57) hx hb dX5_make_49 (by decide) ?_
            exact J_57 zv0 zv2 zx3 zv4 _ _ _ ls hf hw (lv_sub hl [2, 3, 0, 4] rfl)
  unfold f_X5_make at hf
  refine lv_aload_n hx hb dX5_make_0 rfl (lv_at hl 0 rfl) ?_
  refine lv_aload_n hx hb dX5_make_1 rfl (lv_at hl 1 rfl) ?_
  obtain ⟨zh1, qzh1, hf⟩ := gb_el hf
  refine gx_putV X hw qzh1 clX5 (by decide) mf_X5_21 rfl rfl rfl dX5_make_2 (fun H locs hw => ?_)
  refine lv_iconst (v := 0) hx hb dX5_make_5 (by decide) ?_
  refine lv_istore_n (lv' := [(2, .int 0), (0, .ref (gB E + za0)), (1, .ref (gB E + za1))]) hx hb dX5_make_6 rfl hl (by decide) rfl (fun ls hl => ?_)
  refine lv_aload_n hx hb dX5_make_7 rfl (lv_at hl 1 rfl) ?_
  obtain ⟨zt2, qzt2, hf⟩ := gb_el hf
  refine gx_getR X hw qzt2 clX5 (by decide) mf_X5_21 dX5_make_8 ?_
  obtain ⟨qizh3, hf⟩ := gg_el hf
  obtain ⟨zt4, zh3, qzh3, hf⟩ := gc_el hf
  refine gx_ki (gx_runV (As := []) (rest := []) X hw (c_X4_doneAsTold l E N zt2 zh1 qzh3) kX4_doneAsTold mm_X5_25 qizh3 clX4 ⟨Nat.le_of_ble_eq_true rfl, Nat.le_of_ble_eq_true rfl⟩ rfl rfl rfl hl.1 (Nat.le_of_ble_eq_true rfl) rfl dX5_make_11 ⟨Nat.le_of_ble_eq_true rfl, Nat.le_of_ble_eq_true rfl⟩) hw (fun H locs hw => ?_)
  refine lv_istore_n (lv' := [(3, .int zt4), (2, .int 0), (0, .ref (gB E + za0)), (1, .ref (gB E + za1))]) hx hb dX5_make_14 rfl hl (by decide) rfl (fun ls hl => ?_)
  refine W.eq (g2 := F0 m 15 ls []) rfl ?_
  refine lv_iconst (v := 0) hx hb dX5_make_15 (by decide) ?_
  refine lv_istore (lv' := [(4, .int 0), (3, .int zt4), (2, .int 0), (0, .ref (gB E + za0)), (1, .ref (gB E + za1))]) hx hb dX5_make_16 hl (by decide) rfl (fun ls hl => ?_)
  exact L_18 N za0 0 zt4 0 _ _ _ ls hf hw (lv_sub hl [3, 2, 1, 0] rfl)
abbrev rm_X5_waits : Room := { frames := 0, cells := 0, slots := 0, locals := 0 }
set_option maxHeartbeats 4000000 in
set_option maxRecDepth 100000 in
theorem c_X5_waits (l : Launch) (E : gE) (N : Nat) (za0 : Nat) (zh : PH) {h9 : PH} {r9 : Int32} (hf : f_X5_waits N za0 zh = some (r9, h9)) : Met l yX5_waits (gWS yX5_waits cX5_waits 3 (some .int)) rm_X5_waits (gPc E [.ref (gB E + za0)] zh) (gQi E r9 h9) 0 0 (gA E) := by
  refine gx_met (by decide) ?_ rfl
  intro p e s m below meth c X hr hlk hin2 hw
  have hx := X.1.1
  have hb := X.1.2.1
  have hl := lv_entry [.ref (gB E + za0)] (n := 3) (Nat.le_of_ble_eq_true rfl)
  rw [lg_entry_eq]
  generalize (lg_sl [.ref (gB E + za0)] ++ List.replicate (3 - (lg_sl [.ref (gB E + za0)]).length) Slot.unset).toArray = ls at hl ⊢
  have hl : lv_has ls 3 [(0, .ref (gB E + za0))] := hl
  have L_4 : ∀ (zn4 : Nat) (zv0 : Nat) (zv1 : Int32) (zv2 : Int32) (zh : PH) (H : Heap) (locs : List Loc) (ls : Array Slot), gi (fun zk zs => f_X5_waits_4 N zk zs.1 zs.2.1 zs.2.2.1 zs.2.2.2) zn4 (zv0, zv1, zv2, zh) = some (r9, h9) → gw E s zh H locs → lv_has ls 3 [(0, .ref (gB E + zv0)), (1, .int zv1), (2, .int zv2)] → W p l e rm_X5_waits s m [.ref (gB E + za0)].toArray below meth c H locs 0 0 (MQ below (gQi E r9 h9) [.ref (gB E + za0)].toArray s 0 0 (gA E)) (F0 m 4 ls []) := by
    intro zn4
    induction zn4 with
    | zero =>
      intro zv0 zv1 zv2 zh H locs ls hf
      cases hf
    | succ zn4 ih_4 =>
      intro zv0 zv1 zv2 zh H locs ls hf hw hl
      have hf := gi_s hf
      dsimp only at hf
      unfold f_X5_waits_4 at hf
      refine lv_iload_n hx hb dX5_waits_4 rfl (lv_at hl 2 rfl) ?_
      refine lv_aload_n hx hb dX5_waits_5 rfl (lv_at hl 0 rfl) ?_
      obtain ⟨zt1, qzt1, hf⟩ := gb_el hf
      refine gx_getR X hw qzt1 clX5 (by decide) mf_X5_21 dX5_waits_6 ?_
      obtain ⟨zt2, qzt2, hf⟩ := gb_el hf
      refine gx_getI X hw qzt2 clX4 (by decide) mf_X5_42 dX5_waits_9 ?_
      refine lv_icmp_ge (tgt := 40) hx hb dX5_waits_12 (by decide) (fun qc3 => ?_) (fun qc3 => ?_)
      · have hf := gif_t hf qc3
        refine lv_iload_n hx hb dX5_waits_40 rfl (lv_at hl 1 rfl) ?_
        exact gx_iret X hr hlk hw hf dX5_waits_41
      · have hf := gif_f hf qc3
        refine lv_iload_n hx hb dX5_waits_15 rfl (lv_at hl 1 rfl) ?_
        refine lv_aload_n hx hb dX5_waits_16 rfl (lv_at hl 0 rfl) ?_
        obtain ⟨zt4, qzt4, hf⟩ := gb_el hf
        refine gx_getR X hw qzt4 clX5 (by decide) mf_X5_15 dX5_waits_17 ?_
        refine lv_iload_n hx hb dX5_waits_20 rfl (lv_at hl 2 rfl) ?_
        refine W.eq (g2 := F0 m 21 ls [.int zv2, .ref (gB E + zt4), .int zv1]) rfl ?_
        obtain ⟨zt5, qzt5, hf⟩ := gb_el hf
        refine gx_iald X hw qzt5 dX5_waits_21 ?_
        refine lv_aload_n hx hb dX5_waits_22 rfl (lv_at hl 0 rfl) ?_
        obtain ⟨zt6, qzt6, hf⟩ := gb_el hf
        refine gx_getR X hw qzt6 clX5 (by decide) mf_X5_21 dX5_waits_23 ?_
        obtain ⟨zt7, qzt7, hf⟩ := gb_el hf
        refine gx_getR X hw qzt7 clX4 (by decide) mf_X5_45 dX5_waits_26 ?_
        refine lv_iload_n hx hb dX5_waits_29 rfl (lv_at hl 2 rfl) ?_
        obtain ⟨zt8, qzt8, hf⟩ := gb_el hf
        refine gx_iald X hw qzt8 dX5_waits_30 ?_
        refine lv_isub hx hb dX5_waits_31 ?_
        refine lv_iadd hx hb dX5_waits_32 ?_
        refine lv_topi (fun zx9 ezx9 => ?_)
        have hf := gl_el hf ezx9
        refine lv_istore_n (lv' := [(1, .int zx9), (0, .ref (gB E + zv0)), (2, .int zv2)]) hx hb dX5_waits_33 rfl hl (by decide) rfl (fun ls hl => ?_)
        obtain ⟨zx10, ezx10⟩ : ∃ y : Int32, y = zv2 + 1 := ⟨_, rfl⟩
        have hf := gl_el hf ezx10
        refine lv_iinc (v := zx10) (lv' := [(2, .int zx10), (1, .int zx9), (0, .ref (gB E + zv0))]) hx hb dX5_waits_34 hl (k := 2) rfl (by rw [ezx10]; rfl) (by decide) rfl (fun ls hl => ?_)
        refine W.eq (g2 := F0 m 37 ls []) rfl ?_
        refine lv_goto (tgt := 4) hx hb dX5_waits_37 (by decide) ?_
        exact ih_4 zv0 zx9 zx10 _ _ _ ls hf hw (lv_sub hl [2, 1, 0] rfl)
  unfold f_X5_waits at hf
  refine lv_iconst (v := 0) hx hb dX5_waits_0 (by decide) ?_
  refine lv_istore_n (lv' := [(1, .int 0), (0, .ref (gB E + za0))]) hx hb dX5_waits_1 rfl hl (by decide) rfl (fun ls hl => ?_)
  refine lv_iconst (v := 0) hx hb dX5_waits_2 (by decide) ?_
  refine lv_istore_n (lv' := [(2, .int 0), (1, .int 0), (0, .ref (gB E + za0))]) hx hb dX5_waits_3 rfl hl (by decide) rfl (fun ls hl => ?_)
  exact L_4 N za0 0 0 _ _ _ ls hf hw (lv_sub hl [2, 1, 0] rfl)
abbrev rm_X5_isAtWork : Room := { frames := 0, cells := 0, slots := 0, locals := 0 }
set_option maxHeartbeats 4000000 in
set_option maxRecDepth 100000 in
theorem c_X5_isAtWork (l : Launch) (E : gE) (N : Nat) (za0 : Nat) (za1 : Int32) (za2 : Int32) (zh : PH) {h9 : PH} {r9 : Int32} (hf : f_X5_isAtWork N za0 za1 za2 zh = some (r9, h9)) : Met l yX5_isAtWork (gWS yX5_isAtWork cX5_isAtWork 4 (some .boolean)) rm_X5_isAtWork (gPc E [.ref (gB E + za0), .int za1, .int za2] zh) (gQi E r9 h9) 0 0 (gA E) := by
  refine gx_met (by decide) ?_ rfl
  intro p e s m below meth c X hr hlk hin2 hw
  have hx := X.1.1
  have hb := X.1.2.1
  have hl := lv_entry [.ref (gB E + za0), .int za1, .int za2] (n := 4) (Nat.le_of_ble_eq_true rfl)
  rw [lg_entry_eq]
  generalize (lg_sl [.ref (gB E + za0), .int za1, .int za2] ++ List.replicate (4 - (lg_sl [.ref (gB E + za0), .int za1, .int za2]).length) Slot.unset).toArray = ls at hl ⊢
  have hl : lv_has ls 4 [(0, .ref (gB E + za0)), (1, .int za1), (2, .int za2)] := hl
  have J_57 : ∀ (zs0 : Int32) (zh : PH) (H : Heap) (locs : List Loc) (ls : Array Slot), f_X5_isAtWork_57 N zs0 zh = some (r9, h9) → gw E s zh H locs → lv_has ls 4 [] → W p l e rm_X5_isAtWork s m [.ref (gB E + za0), .int za1, .int za2].toArray below meth c H locs 0 0 (MQ below (gQi E r9 h9) [.ref (gB E + za0), .int za1, .int za2].toArray s 0 0 (gA E)) (F0 m 57 ls [.int zs0]) := by
    intro zs0 zh H locs ls hf hw hl
    unfold f_X5_isAtWork_57 at hf
    exact gx_zret X hr hlk hw hf dX5_isAtWork_57
  have J_56 : ∀ (zh : PH) (H : Heap) (locs : List Loc) (ls : Array Slot), f_X5_isAtWork_56 N zh = some (r9, h9) → gw E s zh H locs → lv_has ls 4 [] → W p l e rm_X5_isAtWork s m [.ref (gB E + za0), .int za1, .int za2].toArray below meth c H locs 0 0 (MQ below (gQi E r9 h9) [.ref (gB E + za0), .int za1, .int za2].toArray s 0 0 (gA E)) (F0 m 56 ls []) := by
    intro zh H locs ls hf hw hl
    unfold f_X5_isAtWork_56 at hf
    refine lv_iconst (v := 0) hx hb dX5_isAtWork_56 (by decide) ?_
    exact J_57 0 _ _ _ ls hf hw (lv_sub hl [] rfl)
  unfold f_X5_isAtWork at hf
  refine lv_aload_n hx hb dX5_isAtWork_0 rfl (lv_at hl 0 rfl) ?_
  obtain ⟨zt1, qzt1, hf⟩ := gb_el hf
  refine gx_getR X hw qzt1 clX5 (by decide) mf_X5_15 dX5_isAtWork_1 ?_
  refine lv_iload_n hx hb dX5_isAtWork_4 rfl (lv_at hl 1 rfl) ?_
  obtain ⟨zt2, qzt2, hf⟩ := gb_el hf
  refine gx_iald X hw qzt2 dX5_isAtWork_5 ?_
  refine lv_aload_n hx hb dX5_isAtWork_6 rfl (lv_at hl 0 rfl) ?_
  obtain ⟨zt3, qzt3, hf⟩ := gb_el hf
  refine gx_getR X hw qzt3 clX5 (by decide) mf_X5_21 dX5_isAtWork_7 ?_
  obtain ⟨zt4, qzt4, hf⟩ := gb_el hf
  refine gx_getR X hw qzt4 clX4 (by decide) mf_X5_58 dX5_isAtWork_10 ?_
  refine lv_iload_n hx hb dX5_isAtWork_13 rfl (lv_at hl 1 rfl) ?_
  obtain ⟨zt5, qzt5, hf⟩ := gb_el hf
  refine gx_iald X hw qzt5 dX5_isAtWork_14 ?_
  refine W.eq (g2 := F0 m 15 ls [.int zt5, .int zt2]) rfl ?_
  refine lv_iadd hx hb dX5_isAtWork_15 ?_
  refine lv_aload_n hx hb dX5_isAtWork_16 rfl (lv_at hl 0 rfl) ?_
  obtain ⟨zt6, qzt6, hf⟩ := gb_el hf
  refine gx_getR X hw qzt6 clX5 (by decide) mf_X5_21 dX5_isAtWork_17 ?_
  obtain ⟨zt7, qzt7, hf⟩ := gb_el hf
  refine gx_getR X hw qzt7 clX4 (by decide) mf_X5_61 dX5_isAtWork_20 ?_
  refine lv_iload_n hx hb dX5_isAtWork_23 rfl (lv_at hl 1 rfl) ?_
  obtain ⟨zt8, qzt8, hf⟩ := gb_el hf
  refine gx_iald X hw qzt8 dX5_isAtWork_24 ?_
  refine lv_iadd hx hb dX5_isAtWork_25 ?_
  refine lv_topi (fun zx9 ezx9 => ?_)
  have hf := gl_el hf ezx9
  refine lv_istore_n (lv' := [(3, .int zx9), (0, .ref (gB E + za0)), (1, .int za1), (2, .int za2)]) hx hb dX5_isAtWork_26 rfl hl (by decide) rfl (fun ls hl => ?_)
  refine lv_aload_n hx hb dX5_isAtWork_27 rfl (lv_at hl 1 rfl) ?_
  obtain ⟨zt10, qzt10, hf⟩ := gb_el hf
  refine gx_getR X hw qzt10 clX5 (by decide) mf_X5_15 dX5_isAtWork_28 ?_
  refine W.eq (g2 := F0 m 31 ls [.ref (gB E + zt10)]) rfl ?_
  refine lv_iload_n hx hb dX5_isAtWork_31 rfl (lv_at hl 2 rfl) ?_
  obtain ⟨zt11, qzt11, hf⟩ := gb_el hf
  refine gx_iald X hw qzt11 dX5_isAtWork_32 ?_
  refine lv_aload_n hx hb dX5_isAtWork_33 rfl (lv_at hl 1 rfl) ?_
  obtain ⟨zt12, qzt12, hf⟩ := gb_el hf
  refine gx_getR X hw qzt12 clX5 (by decide) mf_X5_21 dX5_isAtWork_34 ?_
  obtain ⟨zt13, qzt13, hf⟩ := gb_el hf
  refine gx_getR X hw qzt13 clX4 (by decide) mf_X5_45 dX5_isAtWork_37 ?_
  refine lv_iload_n hx hb dX5_isAtWork_40 rfl (lv_at hl 2 rfl) ?_
  obtain ⟨zt14, qzt14, hf⟩ := gb_el hf
  refine gx_iald X hw qzt14 dX5_isAtWork_41 ?_
  refine lv_isub hx hb dX5_isAtWork_42 ?_
  refine lv_iload_n hx hb dX5_isAtWork_43 rfl (lv_at hl 3 rfl) ?_
  refine lv_icmp_gt (tgt := 56) hx hb dX5_isAtWork_44 (by decide) (fun qc15 => ?_) (fun qc15 => ?_)
  · have hf := gif_t hf qc15
    exact J_56  _ _ _ ls hf hw (lv_sub hl [] rfl)
  · have hf := gif_f hf qc15
    refine W.eq (g2 := F0 m 47 ls []) rfl ?_
    refine lv_iload_n hx hb dX5_isAtWork_47 rfl (lv_at hl 3 rfl) ?_
    refine lv_iload_n hx hb dX5_isAtWork_48 rfl (lv_at hl 0 rfl) ?_
    refine lv_icmp_ge (tgt := 56) hx hb dX5_isAtWork_49 (by decide) (fun qc16 => ?_) (fun qc16 => ?_)
    · have hf := gif_t hf qc16
      exact J_56  _ _ _ ls hf hw (lv_sub hl [] rfl)
    · have hf := gif_f hf qc16
      refine lv_iconst (v := 1) hx hb dX5_isAtWork_52 (by decide) ?_
      refine lv_goto (tgt := 57) hx hb dX5_isAtWork_53 (by decide) ?_
      exact J_57 1 _ _ _ ls hf hw (lv_sub hl [] rfl)
abbrev rm_X5_portersNeeded : Room := { frames := 1, cells := 0, slots := 0, locals := 23 }
set_option maxHeartbeats 4000000 in
set_option maxRecDepth 100000 in
theorem c_X5_portersNeeded (l : Launch) (E : gE) (N : Nat) (za0 : Nat) (zh : PH) {h9 : PH} {r9 : Int32} (hf : f_X5_portersNeeded N za0 zh = some (r9, h9)) : Met l yX5_portersNeeded (gWS yX5_portersNeeded cX5_portersNeeded 5 (some .int)) rm_X5_portersNeeded (gPc E [.ref (gB E + za0)] zh) (gQi E r9 h9) 0 0 (gA E) := by
  refine gx_met (by decide) ?_ rfl
  intro p e s m below meth c X hr hlk hin2 hw
  have hx := X.1.1
  have hb := X.1.2.1
  have hl := lv_entry [.ref (gB E + za0)] (n := 5) (Nat.le_of_ble_eq_true rfl)
  rw [lg_entry_eq]
  generalize (lg_sl [.ref (gB E + za0)] ++ List.replicate (5 - (lg_sl [.ref (gB E + za0)]).length) Slot.unset).toArray = ls at hl ⊢
  have hl : lv_has ls 5 [(0, .ref (gB E + za0))] := hl
  have L_4 : ∀ (zn4 : Nat) (zv0 : Nat) (zv1 : Int32) (zv2 : Int32) (zh : PH) (H : Heap) (locs : List Loc) (ls : Array Slot), gi (fun zk zs => f_X5_portersNeeded_4 N zk zs.1 zs.2.1 zs.2.2.1 zs.2.2.2) zn4 (zv0, zv1, zv2, zh) = some (r9, h9) → gw E s zh H locs → lv_has ls 5 [(0, .ref (gB E + zv0)), (1, .int zv1), (2, .int zv2)] → W p l e rm_X5_portersNeeded s m [.ref (gB E + za0)].toArray below meth c H locs 0 0 (MQ below (gQi E r9 h9) [.ref (gB E + za0)].toArray s 0 0 (gA E)) (F0 m 4 ls []) := by
    intro zn4
    induction zn4 with
    | zero =>
      intro zv0 zv1 zv2 zh H locs ls hf
      cases hf
    | succ zn4 ih_4 =>
      have L_20 : ∀ (zn20 : Nat) (zv0 : Nat) (zv1 : Int32) (zv2 : Int32) (zv3 : Int32) (zv4 : Int32) (zh : PH) (H : Heap) (locs : List Loc) (ls : Array Slot), gi (fun zk zs => f_X5_portersNeeded_20 N (gi (fun zk zs => f_X5_portersNeeded_4 N zk zs.1 zs.2.1 zs.2.2.1 zs.2.2.2) zn4) zk zs.1 zs.2.1 zs.2.2.1 zs.2.2.2.1 zs.2.2.2.2.1 zs.2.2.2.2.2) zn20 (zv0, zv1, zv2, zv3, zv4, zh) = some (r9, h9) → gw E s zh H locs → lv_has ls 5 [(0, .ref (gB E + zv0)), (1, .int zv1), (2, .int zv2), (3, .int zv3), (4, .int zv4)] → W p l e rm_X5_portersNeeded s m [.ref (gB E + za0)].toArray below meth c H locs 0 0 (MQ below (gQi E r9 h9) [.ref (gB E + za0)].toArray s 0 0 (gA E)) (F0 m 20 ls []) := by
        intro zn20
        induction zn20 with
        | zero =>
          intro zv0 zv1 zv2 zv3 zv4 zh H locs ls hf
          cases hf
        | succ zn20 ih_20 =>
          have J_63 : ∀ (zv0 : Nat) (zv1 : Int32) (zv2 : Int32) (zv4 : Int32) (zs0 : Int32) (zs1 : Int32) (zh : PH) (H : Heap) (locs : List Loc) (ls : Array Slot), f_X5_portersNeeded_63 N (gi (fun zk zs => f_X5_portersNeeded_4 N zk zs.1 zs.2.1 zs.2.2.1 zs.2.2.2) zn4) (gi (fun zk zs => f_X5_portersNeeded_20 N (gi (fun zk zs => f_X5_portersNeeded_4 N zk zs.1 zs.2.1 zs.2.2.1 zs.2.2.2) zn4) zk zs.1 zs.2.1 zs.2.2.1 zs.2.2.2.1 zs.2.2.2.2.1 zs.2.2.2.2.2) zn20) zv0 zv1 zv2 zv4 zs0 zs1 zh = some (r9, h9) → gw E s zh H locs → lv_has ls 5 [(0, .ref (gB E + zv0)), (1, .int zv1), (2, .int zv2), (4, .int zv4)] → W p l e rm_X5_portersNeeded s m [.ref (gB E + za0)].toArray below meth c H locs 0 0 (MQ below (gQi E r9 h9) [.ref (gB E + za0)].toArray s 0 0 (gA E)) (F0 m 63 ls [.int zs0, .int zs1]) := by
            intro zv0 zv1 zv2 zv4 zs0 zs1 zh H locs ls hf hw hl
            unfold f_X5_portersNeeded_63 at hf
            refine lv_iadd hx hb dX5_portersNeeded_63 ?_
            refine lv_topi (fun zx1 ezx1 => ?_)
            have hf := gl_el hf ezx1
            refine lv_istore_n (lv' := [(3, .int zx1), (0, .ref (gB E + zv0)), (1, .int zv1), (2, .int zv2), (4, .int zv4)]) hx hb dX5_portersNeeded_64 rfl hl (by decide) rfl (fun ls hl => ?_)
            obtain ⟨zx2, ezx2⟩ : ∃ y : Int32, y = zv4 + 1 := ⟨_, rfl⟩
            have hf := gl_el hf ezx2
            refine lv_iinc (v := zx2) (lv' := [(4, .int zx2), (3, .int zx1), (0, .ref (gB E + zv0)), (1, .int zv1), (2, .int zv2)]) hx hb dX5_portersNeeded_65 hl (k := 4) rfl (by rw [ezx2]; rfl) (by decide) rfl (fun ls hl => ?_)
            refine lv_goto (tgt := 20) hx hb dX5_portersNeeded_68 (by decide) ?_
            exact ih_20 zv0 zv1 zv2 zx1 zx2 _ _ _ ls hf hw (lv_sub hl [2, 3, 4, 1, 0] rfl)
          intro zv0 zv1 zv2 zv3 zv4 zh H locs ls hf hw hl
          have hf := gi_s hf
          dsimp only at hf
          unfold f_X5_portersNeeded_20 at hf
          refine lv_iload hx hb dX5_portersNeeded_20 (lv_at hl 4 rfl) ?_
          refine lv_aload_n hx hb dX5_portersNeeded_22 rfl (lv_at hl 0 rfl) ?_
          obtain ⟨zt1, qzt1, hf⟩ := gb_el hf
          refine gx_getR X hw qzt1 clX5 (by decide) mf_X5_21 dX5_portersNeeded_23 ?_
          obtain ⟨zt2, qzt2, hf⟩ := gb_el hf
          refine gx_getI X hw qzt2 clX4 (by decide) mf_X5_42 dX5_portersNeeded_26 ?_
          refine lv_icmp_ge (tgt := 71) hx hb dX5_portersNeeded_29 (by decide) (fun qc3 => ?_) (fun qc3 => ?_)
          · have hf := gif_t hf qc3
            refine lv_iload_n hx hb dX5_portersNeeded_71 rfl (lv_at hl 1 rfl) ?_
            refine lv_iload_n hx hb dX5_portersNeeded_72 rfl (lv_at hl 3 rfl) ?_
            refine gx_max X mm_X5_52 mt_max mI_java_lang_Math mx_max hl.1 (Nat.le_of_ble_eq_true rfl) (Nat.le_of_ble_eq_true rfl) (Nat.le_of_ble_eq_true rfl) (Nat.le_of_ble_eq_true rfl) dX5_portersNeeded_73 ?_
            refine lv_topi (fun zx4 ezx4 => ?_)
            have hf := gl_el hf ezx4
            refine lv_istore_n (lv' := [(1, .int zx4), (0, .ref (gB E + zv0)), (2, .int zv2), (3, .int zv3), (4, .int zv4)]) hx hb dX5_portersNeeded_76 rfl hl (by decide) rfl (fun ls hl => ?_)
            refine W.eq (g2 := F0 m 77 ls []) rfl ?_
            obtain ⟨zx5, ezx5⟩ : ∃ y : Int32, y = zv2 + 1 := ⟨_, rfl⟩
            have hf := gl_el hf ezx5
            refine lv_iinc (v := zx5) (lv' := [(2, .int zx5), (1, .int zx4), (0, .ref (gB E + zv0)), (3, .int zv3), (4, .int zv4)]) hx hb dX5_portersNeeded_77 hl (k := 2) rfl (by rw [ezx5]; rfl) (by decide) rfl (fun ls hl => ?_)
            refine lv_goto (tgt := 4) hx hb dX5_portersNeeded_80 (by decide) ?_
            exact ih_4 zv0 zx4 zx5 _ _ _ ls hf hw (lv_sub hl [2, 1, 0] rfl)
          · have hf := gif_f hf qc3
            refine lv_iload_n hx hb dX5_portersNeeded_32 rfl (lv_at hl 3 rfl) ?_
            refine lv_aload_n hx hb dX5_portersNeeded_33 rfl (lv_at hl 0 rfl) ?_
            refine lv_iload hx hb dX5_portersNeeded_34 (lv_at hl 4 rfl) ?_
            refine lv_aload_n hx hb dX5_portersNeeded_36 rfl (lv_at hl 0 rfl) ?_
            refine W.eq (g2 := F0 m 37 ls [.ref (gB E + zv0), .int zv4, .ref (gB E + zv0), .int zv3]) rfl ?_
            obtain ⟨zt6, qzt6, hf⟩ := gb_el hf
            refine gx_getR X hw qzt6 clX5 (by decide) mf_X5_15 dX5_portersNeeded_37 ?_
            refine lv_iload_n hx hb dX5_portersNeeded_40 rfl (lv_at hl 2 rfl) ?_
            obtain ⟨zt7, qzt7, hf⟩ := gb_el hf
            refine gx_iald X hw qzt7 dX5_portersNeeded_41 ?_
            refine lv_aload_n hx hb dX5_portersNeeded_42 rfl (lv_at hl 0 rfl) ?_
            obtain ⟨zt8, qzt8, hf⟩ := gb_el hf
            refine gx_getR X hw qzt8 clX5 (by decide) mf_X5_21 dX5_portersNeeded_43 ?_
            obtain ⟨zt9, qzt9, hf⟩ := gb_el hf
            refine gx_getR X hw qzt9 clX4 (by decide) mf_X5_45 dX5_portersNeeded_46 ?_
            refine lv_iload_n hx hb dX5_portersNeeded_49 rfl (lv_at hl 2 rfl) ?_
            obtain ⟨zt10, qzt10, hf⟩ := gb_el hf
            refine gx_iald X hw qzt10 dX5_portersNeeded_50 ?_
            refine lv_isub hx hb dX5_portersNeeded_51 ?_
            obtain ⟨qizh11, hf⟩ := gg_el hf
            obtain ⟨zt12, zh11, qzh11, hf⟩ := gc_el hf
            refine gx_ki (gx_runV (As := [.int zv4, .int (zt7 - zt10)]) (rest := [.int zv3]) X hw (c_X5_isAtWork l E N zv0 zv4 (zt7 - zt10) zh qzh11) kX5_isAtWork mm_X5_48 qizh11 clX5 ⟨Nat.le_of_ble_eq_true rfl, Nat.le_of_ble_eq_true rfl⟩ rfl rfl rfl hl.1 (Nat.le_of_ble_eq_true rfl) rfl dX5_portersNeeded_52 ⟨Nat.le_of_ble_eq_true rfl, Nat.le_of_ble_eq_true rfl⟩) hw (fun H locs hw => ?_)
            refine W.eq (g2 := F0 m 55 ls [.int zt12, .int zv3]) rfl ?_
            refine lv_if_eq (tgt := 62) hx hb dX5_portersNeeded_55 (by decide) (fun qc13 => ?_) (fun qc13 => ?_)
            · have hf := gif_t hf qc13
              refine lv_iconst (v := 0) hx hb dX5_portersNeeded_62 (by decide) ?_
              exact J_63 zv0 zv1 zv2 zv4 0 zv3 _ _ _ ls hf hw (lv_sub hl [0, 1, 2, 4] rfl)
            · have hf := gif_f hf qc13
              refine lv_iconst (v := 1) hx hb dX5_portersNeeded_58 (by decide) ?_
              refine lv_goto (tgt := 63) hx hb dX5_portersNeeded_59 (by decide) ?_
              exact J_63 zv0 zv1 zv2 zv4 1 zv3 _ _ _ ls hf hw (lv_sub hl [0, 1, 2, 4] rfl)
      intro zv0 zv1 zv2 zh H locs ls hf hw hl
      have hf := gi_s hf
      dsimp only at hf
      unfold f_X5_portersNeeded_4 at hf
      refine lv_iload_n hx hb dX5_portersNeeded_4 rfl (lv_at hl 2 rfl) ?_
      refine lv_aload_n hx hb dX5_portersNeeded_5 rfl (lv_at hl 0 rfl) ?_
      obtain ⟨zt1, qzt1, hf⟩ := gb_el hf
      refine gx_getR X hw qzt1 clX5 (by decide) mf_X5_21 dX5_portersNeeded_6 ?_
      obtain ⟨zt2, qzt2, hf⟩ := gb_el hf
      refine gx_getI X hw qzt2 clX4 (by decide) mf_X5_42 dX5_portersNeeded_9 ?_
      refine lv_icmp_ge (tgt := 83) hx hb dX5_portersNeeded_12 (by decide) (fun qc3 => ?_) (fun qc3 => ?_)
      · have hf := gif_t hf qc3
        refine lv_iload_n hx hb dX5_portersNeeded_83 rfl (lv_at hl 1 rfl) ?_
        exact gx_iret X hr hlk hw hf dX5_portersNeeded_84
      · have hf := gif_f hf qc3
        refine lv_iconst (v := 0) hx hb dX5_portersNeeded_15 (by decide) ?_
        refine lv_istore_n (lv' := [(3, .int 0), (0, .ref (gB E + zv0)), (1, .int zv1), (2, .int zv2)]) hx hb dX5_portersNeeded_16 rfl hl (by decide) rfl (fun ls hl => ?_)
        refine lv_iconst (v := 0) hx hb dX5_portersNeeded_17 (by decide) ?_
        refine lv_istore (lv' := [(4, .int 0), (3, .int 0), (0, .ref (gB E + zv0)), (1, .int zv1), (2, .int zv2)]) hx hb dX5_portersNeeded_18 hl (by decide) rfl (fun ls hl => ?_)
        exact L_20 N zv0 zv1 zv2 0 0 _ _ _ ls hf hw (lv_sub hl [2, 3, 4, 1, 0] rfl)
  unfold f_X5_portersNeeded at hf
  refine lv_iconst (v := 0) hx hb dX5_portersNeeded_0 (by decide) ?_
  refine lv_istore_n (lv' := [(1, .int 0), (0, .ref (gB E + za0))]) hx hb dX5_portersNeeded_1 rfl hl (by decide) rfl (fun ls hl => ?_)
  refine lv_iconst (v := 0) hx hb dX5_portersNeeded_2 (by decide) ?_
  refine lv_istore_n (lv' := [(2, .int 0), (1, .int 0), (0, .ref (gB E + za0))]) hx hb dX5_portersNeeded_3 rfl hl (by decide) rfl (fun ls hl => ?_)
  exact L_4 N za0 0 0 _ _ _ ls hf hw (lv_sub hl [2, 1, 0] rfl)
abbrev rm_X6_init : Room := { frames := 1, cells := 2, slots := 20, locals := 20 }
set_option maxHeartbeats 4000000 in
set_option maxRecDepth 100000 in
theorem c_X6_init (l : Launch) (E : gE) (N : Nat) (za0 : Nat) (zh : PH) {h9 : PH} (hf : f_X6_init N za0 zh = some h9) : Met l yX6_init (gWS yX6_init cX6_init 1 none) rm_X6_init (gPc E [.ref (gB E + za0)] zh) (gQv E h9) 2 20 (gA E) := by
  refine gx_met (by decide) ?_ rfl
  intro p e s m below meth c X hr hlk hin2 hw
  have hx := X.1.1
  have hb := X.1.2.1
  have hl := lv_entry [.ref (gB E + za0)] (n := 1) (Nat.le_of_ble_eq_true rfl)
  rw [lg_entry_eq]
  generalize (lg_sl [.ref (gB E + za0)] ++ List.replicate (1 - (lg_sl [.ref (gB E + za0)]).length) Slot.unset).toArray = ls at hl ⊢
  have hl : lv_has ls 1 [(0, .ref (gB E + za0))] := hl
  unfold f_X6_init at hf
  refine lv_aload_n hx hb dX6_init_0 rfl (lv_at hl 0 rfl) ?_
  refine gx_oinit X mm_X6_3 mo_inst mo_code hl.1 dX6_init_1 (Nat.le_of_ble_eq_true rfl) (Nat.le_of_ble_eq_true rfl) ?_
  refine lv_aload_n hx hb dX6_init_4 rfl (lv_at hl 0 rfl) ?_
  refine lv_bipush (v := 10) hx hb dX6_init_5 (by decide) ?_
  obtain ⟨zr2, zh1, qzh1, hf⟩ := gc_el hf
  refine gx_newa0 X hw qzh1 ma_int (by decide) (by decide) (by decide) (Nat.le_of_ble_eq_true rfl) (Nat.le_of_ble_eq_true rfl) dX6_init_7 (fun H hw => ?_)
  obtain ⟨zh3, qzh3, hf⟩ := gb_el hf
  refine gx_putFV X hw qzh3 clX6 (by decide) mf_X6_9 rfl (hin2 rfl) rfl rfl rfl dX6_init_9 (fun H locs hw => ?_)
  refine lv_aload_n hx hb dX6_init_12 rfl (lv_at hl 0 rfl) ?_
  refine lv_bipush (v := 10) hx hb dX6_init_13 (by decide) ?_
  obtain ⟨zr5, zh4, qzh4, hf⟩ := gc_el hf
  refine gx_newa0 X hw qzh4 ma_int (by decide) (by decide) (by decide) (Nat.le_of_ble_eq_true rfl) (Nat.le_of_ble_eq_true rfl) dX6_init_15 (fun H hw => ?_)
  refine W.eq (g2 := F0 m 17 ls [.ref (gB E + zr5), .ref (gB E + za0)]) rfl ?_
  obtain ⟨zh6, qzh6, hf⟩ := gb_el hf
  refine gx_putFV X hw qzh6 clX6 (by decide) mf_X6_15 rfl (hin2 rfl) rfl rfl rfl dX6_init_17 (fun H locs hw => ?_)
  exact gx_vret X hr hlk hw hf dX6_init_20
abbrev rm_X6_pages : Room := { frames := 0, cells := 0, slots := 0, locals := 0 }
set_option maxHeartbeats 4000000 in
set_option maxRecDepth 100000 in
theorem c_X6_pages (l : Launch) (E : gE) (N : Nat) (za0 : Nat) (zh : PH) {h9 : PH} {r9 : Int32} (hf : f_X6_pages N za0 zh = some (r9, h9)) : Met l yX6_pages (gWS yX6_pages cX6_pages 3 (some .int)) rm_X6_pages (gPc E [.ref (gB E + za0)] zh) (gQi E r9 h9) 0 0 (gA E) := by
  refine gx_met (by decide) ?_ rfl
  intro p e s m below meth c X hr hlk hin2 hw
  have hx := X.1.1
  have hb := X.1.2.1
  have hl := lv_entry [.ref (gB E + za0)] (n := 3) (Nat.le_of_ble_eq_true rfl)
  rw [lg_entry_eq]
  generalize (lg_sl [.ref (gB E + za0)] ++ List.replicate (3 - (lg_sl [.ref (gB E + za0)]).length) Slot.unset).toArray = ls at hl ⊢
  have hl : lv_has ls 3 [(0, .ref (gB E + za0))] := hl
  have L_4 : ∀ (zn4 : Nat) (zv0 : Nat) (zv1 : Int32) (zv2 : Int32) (zh : PH) (H : Heap) (locs : List Loc) (ls : Array Slot), gi (fun zk zs => f_X6_pages_4 N zk zs.1 zs.2.1 zs.2.2.1 zs.2.2.2) zn4 (zv0, zv1, zv2, zh) = some (r9, h9) → gw E s zh H locs → lv_has ls 3 [(0, .ref (gB E + zv0)), (1, .int zv1), (2, .int zv2)] → W p l e rm_X6_pages s m [.ref (gB E + za0)].toArray below meth c H locs 0 0 (MQ below (gQi E r9 h9) [.ref (gB E + za0)].toArray s 0 0 (gA E)) (F0 m 4 ls []) := by
    intro zn4
    induction zn4 with
    | zero =>
      intro zv0 zv1 zv2 zh H locs ls hf
      cases hf
    | succ zn4 ih_4 =>
      have J_25 : ∀ (zv0 : Nat) (zv2 : Int32) (zs0 : Int32) (zs1 : Int32) (zh : PH) (H : Heap) (locs : List Loc) (ls : Array Slot), f_X6_pages_25 N (gi (fun zk zs => f_X6_pages_4 N zk zs.1 zs.2.1 zs.2.2.1 zs.2.2.2) zn4) zv0 zv2 zs0 zs1 zh = some (r9, h9) → gw E s zh H locs → lv_has ls 3 [(0, .ref (gB E + zv0)), (2, .int zv2)] → W p l e rm_X6_pages s m [.ref (gB E + za0)].toArray below meth c H locs 0 0 (MQ below (gQi E r9 h9) [.ref (gB E + za0)].toArray s 0 0 (gA E)) (F0 m 25 ls [.int zs0, .int zs1]) := by
        intro zv0 zv2 zs0 zs1 zh H locs ls hf hw hl
        unfold f_X6_pages_25 at hf
        refine lv_iadd hx hb dX6_pages_25 ?_
        refine lv_topi (fun zx1 ezx1 => ?_)
        have hf := gl_el hf ezx1
        refine lv_istore_n (lv' := [(1, .int zx1), (0, .ref (gB E + zv0)), (2, .int zv2)]) hx hb dX6_pages_26 rfl hl (by decide) rfl (fun ls hl => ?_)
        obtain ⟨zx2, ezx2⟩ : ∃ y : Int32, y = zv2 + 1 := ⟨_, rfl⟩
        have hf := gl_el hf ezx2
        refine lv_iinc (v := zx2) (lv' := [(2, .int zx2), (1, .int zx1), (0, .ref (gB E + zv0))]) hx hb dX6_pages_27 hl (k := 2) rfl (by rw [ezx2]; rfl) (by decide) rfl (fun ls hl => ?_)
        refine lv_goto (tgt := 4) hx hb dX6_pages_30 (by decide) ?_
        exact ih_4 zv0 zx1 zx2 _ _ _ ls hf hw (lv_sub hl [2, 1, 0] rfl)
      intro zv0 zv1 zv2 zh H locs ls hf hw hl
      have hf := gi_s hf
      dsimp only at hf
      unfold f_X6_pages_4 at hf
      refine lv_iload_n hx hb dX6_pages_4 rfl (lv_at hl 2 rfl) ?_
      refine lv_bipush (v := 10) hx hb dX6_pages_5 (by decide) ?_
      refine lv_icmp_ge (tgt := 33) hx hb dX6_pages_7 (by decide) (fun qc1 => ?_) (fun qc1 => ?_)
      · have hf := gif_t hf qc1
        refine lv_iload_n hx hb dX6_pages_33 rfl (lv_at hl 1 rfl) ?_
        exact gx_iret X hr hlk hw hf dX6_pages_34
      · have hf := gif_f hf qc1
        refine lv_iload_n hx hb dX6_pages_10 rfl (lv_at hl 1 rfl) ?_
        refine lv_aload_n hx hb dX6_pages_11 rfl (lv_at hl 0 rfl) ?_
        obtain ⟨zt2, qzt2, hf⟩ := gb_el hf
        refine gx_getR X hw qzt2 clX6 (by decide) mf_X6_9 dX6_pages_12 ?_
        refine lv_iload_n hx hb dX6_pages_15 rfl (lv_at hl 2 rfl) ?_
        obtain ⟨zt3, qzt3, hf⟩ := gb_el hf
        refine gx_iald X hw qzt3 dX6_pages_16 ?_
        refine lv_if_eq (tgt := 24) hx hb dX6_pages_17 (by decide) (fun qc4 => ?_) (fun qc4 => ?_)
        · have hf := gif_t hf qc4
          refine W.eq (g2 := F0 m 24 ls [.int zv1]) rfl ?_
          refine lv_iconst (v := 0) hx hb dX6_pages_24 (by decide) ?_
          exact J_25 zv0 zv2 0 zv1 _ _ _ ls hf hw (lv_sub hl [0, 2] rfl)
        · have hf := gif_f hf qc4
          refine W.eq (g2 := F0 m 20 ls [.int zv1]) rfl ?_
          refine lv_iconst (v := 1) hx hb dX6_pages_20 (by decide) ?_
          refine lv_goto (tgt := 25) hx hb dX6_pages_21 (by decide) ?_
          exact J_25 zv0 zv2 1 zv1 _ _ _ ls hf hw (lv_sub hl [0, 2] rfl)
  unfold f_X6_pages at hf
  refine lv_iconst (v := 0) hx hb dX6_pages_0 (by decide) ?_
  refine lv_istore_n (lv' := [(1, .int 0), (0, .ref (gB E + za0))]) hx hb dX6_pages_1 rfl hl (by decide) rfl (fun ls hl => ?_)
  refine lv_iconst (v := 0) hx hb dX6_pages_2 (by decide) ?_
  refine lv_istore_n (lv' := [(2, .int 0), (1, .int 0), (0, .ref (gB E + za0))]) hx hb dX6_pages_3 rfl hl (by decide) rfl (fun ls hl => ?_)
  exact L_4 N za0 0 0 _ _ _ ls hf hw (lv_sub hl [2, 1, 0] rfl)
abbrev rm_J6_bitCount_0f7a4 : Room := { frames := 0, cells := 0, slots := 0, locals := 0 }
set_option maxHeartbeats 4000000 in
set_option maxRecDepth 100000 in
theorem c_J6_bitCount_0f7a4 (l : Launch) (E : gE) (N : Nat) (za0 : Int32) (zh : PH) {h9 : PH} {r9 : Int32} (hf : f_J6_bitCount_0f7a4 N za0 zh = some (r9, h9)) : Met l yJ6_bitCount_0f7a4 (gWS yJ6_bitCount_0f7a4 cJ6_bitCount_0f7a4 1 (some .int)) rm_J6_bitCount_0f7a4 (gPc E [.int za0] zh) (gQi E r9 h9) 0 0 (gA E) := by
  refine gx_met (by decide) ?_ rfl
  intro p e s m below meth c X hr hlk hin2 hw
  have hx := X.1.1
  have hb := X.1.2.1
  have hl := lv_entry [.int za0] (n := 1) (Nat.le_of_ble_eq_true rfl)
  rw [lg_entry_eq]
  generalize (lg_sl [.int za0] ++ List.replicate (1 - (lg_sl [.int za0]).length) Slot.unset).toArray = ls at hl ⊢
  have hl : lv_has ls 1 [(0, .int za0)] := hl
  unfold f_J6_bitCount_0f7a4 at hf
  refine lv_iload_n hx hb dJ6_bitCount_0f7a4_0 rfl (lv_at hl 0 rfl) ?_
  refine lv_iload_n hx hb dJ6_bitCount_0f7a4_1 rfl (lv_at hl 0 rfl) ?_
  refine lv_iconst (v := 1) hx hb dJ6_bitCount_0f7a4_2 (by decide) ?_
  refine lv_iushr hx hb dJ6_bitCount_0f7a4_3 rfl ?_
  refine lv_ldcw (v := 1431655765) hx hb X.1.2.2.2.1 (X.1.2.2.2.2 _ mk_java_lang_Integer_265) dJ6_bitCount_0f7a4_4 ?_
  refine lv_iand hx hb dJ6_bitCount_0f7a4_7 ?_
  refine lv_isub hx hb dJ6_bitCount_0f7a4_8 ?_
  refine lv_topi (fun zx1 ezx1 => ?_)
  have hf := gl_el hf ezx1
  refine lv_istore_n (lv' := [(0, .int zx1)]) hx hb dJ6_bitCount_0f7a4_9 rfl hl (by decide) rfl (fun ls hl => ?_)
  refine lv_iload_n hx hb dJ6_bitCount_0f7a4_10 rfl (lv_at hl 0 rfl) ?_
  refine W.eq (g2 := F0 m 11 ls [.int zx1]) rfl ?_
  refine lv_ldcw (v := 858993459) hx hb X.1.2.2.2.1 (X.1.2.2.2.2 _ mk_java_lang_Integer_266) dJ6_bitCount_0f7a4_11 ?_
  refine lv_iand hx hb dJ6_bitCount_0f7a4_14 ?_
  refine lv_iload_n hx hb dJ6_bitCount_0f7a4_15 rfl (lv_at hl 0 rfl) ?_
  refine lv_iconst (v := 2) hx hb dJ6_bitCount_0f7a4_16 (by decide) ?_
  refine lv_iushr hx hb dJ6_bitCount_0f7a4_17 rfl ?_
  refine lv_ldcw (v := 858993459) hx hb X.1.2.2.2.1 (X.1.2.2.2.2 _ mk_java_lang_Integer_266) dJ6_bitCount_0f7a4_18 ?_
  refine lv_iand hx hb dJ6_bitCount_0f7a4_21 ?_
  refine lv_iadd hx hb dJ6_bitCount_0f7a4_22 ?_
  refine lv_topi (fun zx2 ezx2 => ?_)
  have hf := gl_el hf ezx2
  refine lv_istore_n (lv' := [(0, .int zx2)]) hx hb dJ6_bitCount_0f7a4_23 rfl hl (by decide) rfl (fun ls hl => ?_)
  refine lv_iload_n hx hb dJ6_bitCount_0f7a4_24 rfl (lv_at hl 0 rfl) ?_
  refine W.eq (g2 := F0 m 25 ls [.int zx2]) rfl ?_
  refine lv_iload_n hx hb dJ6_bitCount_0f7a4_25 rfl (lv_at hl 0 rfl) ?_
  refine lv_iconst (v := 4) hx hb dJ6_bitCount_0f7a4_26 (by decide) ?_
  refine lv_iushr hx hb dJ6_bitCount_0f7a4_27 rfl ?_
  refine lv_iadd hx hb dJ6_bitCount_0f7a4_28 ?_
  refine lv_ldcw (v := 252645135) hx hb X.1.2.2.2.1 (X.1.2.2.2.2 _ mk_java_lang_Integer_267) dJ6_bitCount_0f7a4_29 ?_
  refine lv_iand hx hb dJ6_bitCount_0f7a4_32 ?_
  refine lv_topi (fun zx3 ezx3 => ?_)
  have hf := gl_el hf ezx3
  refine lv_istore_n (lv' := [(0, .int zx3)]) hx hb dJ6_bitCount_0f7a4_33 rfl hl (by decide) rfl (fun ls hl => ?_)
  refine lv_iload_n hx hb dJ6_bitCount_0f7a4_34 rfl (lv_at hl 0 rfl) ?_
  refine lv_iload_n hx hb dJ6_bitCount_0f7a4_35 rfl (lv_at hl 0 rfl) ?_
  refine lv_bipush (v := 8) hx hb dJ6_bitCount_0f7a4_36 (by decide) ?_
  refine W.eq (g2 := F0 m 38 ls [.int 8, .int zx3, .int zx3]) rfl ?_
  refine lv_iushr hx hb dJ6_bitCount_0f7a4_38 rfl ?_
  refine lv_iadd hx hb dJ6_bitCount_0f7a4_39 ?_
  refine lv_topi (fun zx4 ezx4 => ?_)
  have hf := gl_el hf ezx4
  refine lv_istore_n (lv' := [(0, .int zx4)]) hx hb dJ6_bitCount_0f7a4_40 rfl hl (by decide) rfl (fun ls hl => ?_)
  refine lv_iload_n hx hb dJ6_bitCount_0f7a4_41 rfl (lv_at hl 0 rfl) ?_
  refine lv_iload_n hx hb dJ6_bitCount_0f7a4_42 rfl (lv_at hl 0 rfl) ?_
  refine lv_bipush (v := 16) hx hb dJ6_bitCount_0f7a4_43 (by decide) ?_
  refine lv_iushr hx hb dJ6_bitCount_0f7a4_45 rfl ?_
  refine lv_iadd hx hb dJ6_bitCount_0f7a4_46 ?_
  refine lv_topi (fun zx5 ezx5 => ?_)
  have hf := gl_el hf ezx5
  refine lv_istore_n (lv' := [(0, .int zx5)]) hx hb dJ6_bitCount_0f7a4_47 rfl hl (by decide) rfl (fun ls hl => ?_)
  refine lv_iload_n hx hb dJ6_bitCount_0f7a4_48 rfl (lv_at hl 0 rfl) ?_
  refine W.eq (g2 := F0 m 49 ls [.int zx5]) rfl ?_
  refine lv_bipush (v := 63) hx hb dJ6_bitCount_0f7a4_49 (by decide) ?_
  refine lv_iand hx hb dJ6_bitCount_0f7a4_51 ?_
  exact gx_iret X hr hlk hw hf dJ6_bitCount_0f7a4_52
abbrev rm_X6_placeNext : Room := { frames := 1, cells := 0, slots := 0, locals := 21 }
set_option maxHeartbeats 4000000 in
set_option maxRecDepth 100000 in
theorem c_X6_placeNext (l : Launch) (E : gE) (N : Nat) (za0 : Nat) (za1 : Int32) (za2 : Int32) (za3 : Int32) (zh : PH) {h9 : PH} (hf : f_X6_placeNext N za0 za1 za2 za3 zh = some h9) : Met l yX6_placeNext (gWS yX6_placeNext cX6_placeNext 5 none) rm_X6_placeNext (gPc E [.ref (gB E + za0), .int za1, .int za2, .int za3] zh) (gQv E h9) 0 0 (gA E) := by
  refine gx_met (by decide) ?_ rfl
  intro p e s m below meth c X hr hlk hin2 hw
  have hx := X.1.1
  have hb := X.1.2.1
  have hl := lv_entry [.ref (gB E + za0), .int za1, .int za2, .int za3] (n := 5) (Nat.le_of_ble_eq_true rfl)
  rw [lg_entry_eq]
  generalize (lg_sl [.ref (gB E + za0), .int za1, .int za2, .int za3] ++ List.replicate (5 - (lg_sl [.ref (gB E + za0), .int za1, .int za2, .int za3]).length) Slot.unset).toArray = ls at hl ⊢
  have hl : lv_has ls 5 [(0, .ref (gB E + za0)), (1, .int za1), (2, .int za2), (3, .int za3)] := hl
  have L_3 : ∀ (zn3 : Nat) (zv0 : Nat) (zv1 : Int32) (zv2 : Int32) (zv3 : Int32) (zv4 : Int32) (zh : PH) (H : Heap) (locs : List Loc) (ls : Array Slot), gi (fun zk zs => f_X6_placeNext_3 N zk zs.1 zs.2.1 zs.2.2.1 zs.2.2.2.1 zs.2.2.2.2.1 zs.2.2.2.2.2) zn3 (zv0, zv1, zv2, zv3, zv4, zh) = some h9 → gw E s zh H locs → lv_has ls 5 [(0, .ref (gB E + zv0)), (1, .int zv1), (2, .int zv2), (3, .int zv3), (4, .int zv4)] → W p l e rm_X6_placeNext s m [.ref (gB E + za0), .int za1, .int za2, .int za3].toArray below meth c H locs 0 0 (MQ below (gQv E h9) [.ref (gB E + za0), .int za1, .int za2, .int za3].toArray s 0 0 (gA E)) (F0 m 3 ls []) := by
    intro zn3
    induction zn3 with
    | zero =>
      intro zv0 zv1 zv2 zv3 zv4 zh H locs ls hf
      cases hf
    | succ zn3 ih_3 =>
      have J_37 : ∀ (zv0 : Nat) (zv1 : Int32) (zv2 : Int32) (zv3 : Int32) (zv4 : Int32) (zh : PH) (H : Heap) (locs : List Loc) (ls : Array Slot), f_X6_placeNext_37 N (gi (fun zk zs => f_X6_placeNext_3 N zk zs.1 zs.2.1 zs.2.2.1 zs.2.2.2.1 zs.2.2.2.2.1 zs.2.2.2.2.2) zn3) zv0 zv1 zv2 zv3 zv4 zh = some h9 → gw E s zh H locs → lv_has ls 5 [(0, .ref (gB E + zv0)), (1, .int zv1), (2, .int zv2), (3, .int zv3), (4, .int zv4)] → W p l e rm_X6_placeNext s m [.ref (gB E + za0), .int za1, .int za2, .int za3].toArray below meth c H locs 0 0 (MQ below (gQv E h9) [.ref (gB E + za0), .int za1, .int za2, .int za3].toArray s 0 0 (gA E)) (F0 m 37 ls []) := by
        intro zv0 zv1 zv2 zv3 zv4 zh H locs ls hf hw hl
        unfold f_X6_placeNext_37 at hf
        obtain ⟨zx1, ezx1⟩ : ∃ y : Int32, y = zv4 + 1 := ⟨_, rfl⟩
        have hf := gl_el hf ezx1
        refine lv_iinc (v := zx1) (lv' := [(4, .int zx1), (0, .ref (gB E + zv0)), (1, .int zv1), (2, .int zv2), (3, .int zv3)]) hx hb dX6_placeNext_37 hl (k := 4) rfl (by rw [ezx1]; rfl) (by decide) rfl (fun ls hl => ?_)
        refine lv_goto (tgt := 3) hx hb dX6_placeNext_40 (by decide) ?_
        exact ih_3 zv0 zv1 zv2 zv3 zx1 _ _ _ ls hf hw (lv_sub hl [1, 2, 3, 4, 0] rfl)
      intro zv0 zv1 zv2 zv3 zv4 zh H locs ls hf hw hl
      have hf := gi_s hf
      dsimp only at hf
      unfold f_X6_placeNext_3 at hf
      refine lv_iload hx hb dX6_placeNext_3 (lv_at hl 4 rfl) ?_
      refine lv_iload_n hx hb dX6_placeNext_5 rfl (lv_at hl 3 rfl) ?_
      refine lv_icmp_ge (tgt := 43) hx hb dX6_placeNext_6 (by decide) (fun qc1 => ?_) (fun qc1 => ?_)
      · have hf := gif_t hf qc1
        exact gx_vret X hr hlk hw hf dX6_placeNext_43
      · have hf := gif_f hf qc1
        refine lv_iload_n hx hb dX6_placeNext_9 rfl (lv_at hl 2 rfl) ?_
        refine lv_iload_n hx hb dX6_placeNext_10 rfl (lv_at hl 1 rfl) ?_
        refine lv_iconst (v := (-1)) hx hb dX6_placeNext_11 (by decide) ?_
        refine lv_ixor hx hb dX6_placeNext_12 ?_
        refine lv_iand hx hb dX6_placeNext_13 ?_
        refine lv_iload hx hb dX6_placeNext_14 (lv_at hl 4 rfl) ?_
        refine W.eq (g2 := F0 m 16 ls [.int zv4, .int (zv2 &&& (zv1 ^^^ (-1)))]) rfl ?_
        obtain ⟨zt3, zh2, qzh2, hf⟩ := gc_el hf
        refine gx_ki (gx_runSN (As := [.int (zv2 &&& (zv1 ^^^ (-1))), .int zv4]) (rest := []) X hw (c_X11_bitOf l E N (zv2 &&& (zv1 ^^^ (-1))) zv4 zh qzh2) kX11_bitOf mn_X6_26 ⟨Nat.le_of_ble_eq_true rfl, Nat.le_of_ble_eq_true rfl⟩ rfl rfl rfl hl.1 (Nat.le_of_ble_eq_true rfl) rfl dX6_placeNext_16 ⟨Nat.le_of_ble_eq_true rfl, Nat.le_of_ble_eq_true rfl⟩) hw (fun H locs hw => ?_)
        refine lv_iconst (v := 1) hx hb dX6_placeNext_19 (by decide) ?_
        refine lv_icmp_ne (tgt := 37) hx hb dX6_placeNext_20 (by decide) (fun qc4 => ?_) (fun qc4 => ?_)
        · have hf := gif_f hf qc4
          exact J_37 zv0 zv1 zv2 zv3 zv4 _ _ _ ls hf hw (lv_sub hl [0, 1, 2, 3, 4] rfl)
        · have hf := gif_t hf qc4
          refine lv_aload_n hx hb dX6_placeNext_23 rfl (lv_at hl 0 rfl) ?_
          refine lv_iload_n hx hb dX6_placeNext_24 rfl (lv_at hl 1 rfl) ?_
          refine lv_iconst (v := 1) hx hb dX6_placeNext_25 (by decide) ?_
          refine lv_iload hx hb dX6_placeNext_26 (lv_at hl 4 rfl) ?_
          refine lv_ishl hx hb dX6_placeNext_28 ?_
          refine lv_ior hx hb dX6_placeNext_29 ?_
          refine lv_dup2_11 hx hb dX6_placeNext_30 rfl rfl ?_
          refine W.eq (g2 := F0 m 31 ls [.int (zv1 ||| (1 <<< (zv4 &&& 31))), .ref (gB E + zv0), .int (zv1 ||| (1 <<< (zv4 &&& 31))), .ref (gB E + zv0)]) rfl ?_
          obtain ⟨zt5, qzt5, hf⟩ := gb_el hf
          refine gx_iald X hw qzt5 dX6_placeNext_31 ?_
          refine lv_aload_n hx hb dX6_placeNext_32 rfl (lv_at hl 0 rfl) ?_
          refine lv_iload_n hx hb dX6_placeNext_33 rfl (lv_at hl 1 rfl) ?_
          obtain ⟨zt6, qzt6, hf⟩ := gb_el hf
          refine gx_iald X hw qzt6 dX6_placeNext_34 ?_
          refine lv_iadd hx hb dX6_placeNext_35 ?_
          obtain ⟨zh7, qzh7, hf⟩ := gb_el hf
          refine gx_iast X hw qzh7 dX6_placeNext_36 (fun H locs hw => ?_)
          exact J_37 zv0 zv1 zv2 zv3 zv4 _ _ _ ls hf hw (lv_sub hl [0, 1, 2, 3, 4] rfl)
  unfold f_X6_placeNext at hf
  refine lv_iconst (v := 0) hx hb dX6_placeNext_0 (by decide) ?_
  refine lv_istore (lv' := [(4, .int 0), (0, .ref (gB E + za0)), (1, .int za1), (2, .int za2), (3, .int za3)]) hx hb dX6_placeNext_1 hl (by decide) rfl (fun ls hl => ?_)
  exact L_3 N za0 za1 za2 za3 0 _ _ _ ls hf hw (lv_sub hl [1, 2, 3, 4, 0] rfl)
abbrev rm_X6_fillRow : Room := { frames := 2, cells := 0, slots := 0, locals := 45 }
set_option maxHeartbeats 4000000 in
set_option maxRecDepth 100000 in
theorem c_X6_fillRow (l : Launch) (E : gE) (N : Nat) (za0 : Nat) (za1 : Nat) (za2 : Int32) (za3 : Int32) (zh : PH) {h9 : PH} {r9 : Int32} (hf : f_X6_fillRow N za0 za1 za2 za3 zh = some (r9, h9)) : Met l yX6_fillRow (gWS yX6_fillRow cX6_fillRow 7 (some .int)) rm_X6_fillRow (gPc E [.ref (gB E + za0), .ref (gB E + za1), .int za2, .int za3] zh) (gQi E r9 h9) 0 0 (gA E) := by
  refine gx_met (by decide) ?_ rfl
  intro p e s m below meth c X hr hlk hin2 hw
  have hx := X.1.1
  have hb := X.1.2.1
  have hl := lv_entry [.ref (gB E + za0), .ref (gB E + za1), .int za2, .int za3] (n := 7) (Nat.le_of_ble_eq_true rfl)
  rw [lg_entry_eq]
  generalize (lg_sl [.ref (gB E + za0), .ref (gB E + za1), .int za2, .int za3] ++ List.replicate (7 - (lg_sl [.ref (gB E + za0), .ref (gB E + za1), .int za2, .int za3]).length) Slot.unset).toArray = ls at hl ⊢
  have hl : lv_has ls 7 [(0, .ref (gB E + za0)), (1, .ref (gB E + za1)), (2, .int za2), (3, .int za3)] := hl
  have L_64 : ∀ (zn64 : Nat) (zv0 : Nat) (zv1 : Nat) (zv2 : Int32) (zv4 : Int32) (zv5 : Int32) (zh : PH) (H : Heap) (locs : List Loc) (ls : Array Slot), gi (fun zk zs => f_X6_fillRow_64 N zk zs.1 zs.2.1 zs.2.2.1 zs.2.2.2.1 zs.2.2.2.2.1 zs.2.2.2.2.2) zn64 (zv0, zv1, zv2, zv4, zv5, zh) = some (r9, h9) → gw E s zh H locs → lv_has ls 7 [(0, .ref (gB E + zv0)), (1, .ref (gB E + zv1)), (2, .int zv2), (4, .int zv4), (5, .int zv5)] → W p l e rm_X6_fillRow s m [.ref (gB E + za0), .ref (gB E + za1), .int za2, .int za3].toArray below meth c H locs 0 0 (MQ below (gQi E r9 h9) [.ref (gB E + za0), .ref (gB E + za1), .int za2, .int za3].toArray s 0 0 (gA E)) (F0 m 64 ls []) := by
    intro zn64
    induction zn64 with
    | zero =>
      intro zv0 zv1 zv2 zv4 zv5 zh H locs ls hf
      cases hf
    | succ zn64 ih_64 =>
      have J_107 : ∀ (zv0 : Nat) (zv1 : Nat) (zv2 : Int32) (zv4 : Int32) (zv5 : Int32) (zh : PH) (H : Heap) (locs : List Loc) (ls : Array Slot), f_X6_fillRow_107 N (gi (fun zk zs => f_X6_fillRow_64 N zk zs.1 zs.2.1 zs.2.2.1 zs.2.2.2.1 zs.2.2.2.2.1 zs.2.2.2.2.2) zn64) zv0 zv1 zv2 zv4 zv5 zh = some (r9, h9) → gw E s zh H locs → lv_has ls 7 [(0, .ref (gB E + zv0)), (1, .ref (gB E + zv1)), (2, .int zv2), (4, .int zv4), (5, .int zv5)] → W p l e rm_X6_fillRow s m [.ref (gB E + za0), .ref (gB E + za1), .int za2, .int za3].toArray below meth c H locs 0 0 (MQ below (gQi E r9 h9) [.ref (gB E + za0), .ref (gB E + za1), .int za2, .int za3].toArray s 0 0 (gA E)) (F0 m 107 ls []) := by
        intro zv0 zv1 zv2 zv4 zv5 zh H locs ls hf hw hl
        unfold f_X6_fillRow_107 at hf
        obtain ⟨zx1, ezx1⟩ : ∃ y : Int32, y = zv5 + 1 := ⟨_, rfl⟩
        have hf := gl_el hf ezx1
        refine lv_iinc (v := zx1) (lv' := [(5, .int zx1), (0, .ref (gB E + zv0)), (1, .ref (gB E + zv1)), (2, .int zv2), (4, .int zv4)]) hx hb dX6_fillRow_107 hl (k := 4) rfl (by rw [ezx1]; rfl) (by decide) rfl (fun ls hl => ?_)
        refine lv_goto (tgt := 64) hx hb dX6_fillRow_110 (by decide) ?_
        exact ih_64 zv0 zv1 zv2 zv4 zx1 _ _ _ ls hf hw (lv_sub hl [1, 2, 3, 4, 0] rfl)
      intro zv0 zv1 zv2 zv4 zv5 zh H locs ls hf hw hl
      have hf := gi_s hf
      dsimp only at hf
      unfold f_X6_fillRow_64 at hf
      refine lv_iload hx hb dX6_fillRow_64 (lv_at hl 4 rfl) ?_
      refine lv_iconst (v := 1) hx hb dX6_fillRow_66 (by decide) ?_
      refine lv_iload_n hx hb dX6_fillRow_67 rfl (lv_at hl 2 rfl) ?_
      refine lv_ishl hx hb dX6_fillRow_68 ?_
      refine lv_icmp_ge (tgt := 113) hx hb dX6_fillRow_69 (by decide) (fun qc1 => ?_) (fun qc1 => ?_)
      · have hf := gif_t hf qc1
        refine lv_iload hx hb dX6_fillRow_113 (lv_at hl 3 rfl) ?_
        exact gx_iret X hr hlk hw hf dX6_fillRow_115
      · have hf := gif_f hf qc1
        refine lv_iload hx hb dX6_fillRow_72 (lv_at hl 4 rfl) ?_
        obtain ⟨zt3, zh2, qzh2, hf⟩ := gc_el hf
        refine gx_ki (gx_runS (As := [.int zv5]) (rest := []) X hw (c_J6_bitCount_0f7a4 l E N zv5 zh qzh2) kJ6_bitCount_0f7a4 mm_X6_36 ⟨Nat.le_of_ble_eq_true rfl, Nat.le_of_ble_eq_true rfl⟩ rfl rfl rfl hl.1 (Nat.le_of_ble_eq_true rfl) rfl dX6_fillRow_74 ⟨Nat.le_of_ble_eq_true rfl, Nat.le_of_ble_eq_true rfl⟩) hw (fun H locs hw => ?_)
        refine lv_istore (lv' := [(6, .int zt3), (0, .ref (gB E + zv0)), (1, .ref (gB E + zv1)), (2, .int zv2), (4, .int zv4), (5, .int zv5)]) hx hb dX6_fillRow_77 hl (by decide) rfl (fun ls hl => ?_)
        refine lv_aload_n hx hb dX6_fillRow_79 rfl (lv_at hl 2 rfl) ?_
        refine W.eq (g2 := F0 m 80 ls [.ref (gB E + zv1)]) rfl ?_
        refine lv_iload hx hb dX6_fillRow_80 (lv_at hl 5 rfl) ?_
        obtain ⟨zt4, qzt4, hf⟩ := gb_el hf
        refine gx_iald X hw qzt4 dX6_fillRow_82 ?_
        refine lv_if_le (tgt := 107) hx hb dX6_fillRow_83 (by decide) (fun qc5 => ?_) (fun qc5 => ?_)
        · have hf := gif_t hf qc5
          exact J_107 zv0 zv1 zv2 zv4 zv5 _ _ _ ls hf hw (lv_sub hl [1, 2, 3, 4, 5] rfl)
        · have hf := gif_f hf qc5
          refine lv_iload hx hb dX6_fillRow_86 (lv_at hl 0 rfl) ?_
          refine lv_iload hx hb dX6_fillRow_88 (lv_at hl 4 rfl) ?_
          refine lv_icmp_ge (tgt := 107) hx hb dX6_fillRow_90 (by decide) (fun qc6 => ?_) (fun qc6 => ?_)
          · have hf := gif_t hf qc6
            exact J_107 zv0 zv1 zv2 zv4 zv5 _ _ _ ls hf hw (lv_sub hl [1, 2, 3, 4, 5] rfl)
          · have hf := gif_f hf qc6
            refine lv_aload_n hx hb dX6_fillRow_93 rfl (lv_at hl 2 rfl) ?_
            refine lv_iload hx hb dX6_fillRow_94 (lv_at hl 5 rfl) ?_
            refine lv_aload_n hx hb dX6_fillRow_96 rfl (lv_at hl 1 rfl) ?_
            obtain ⟨zt7, qzt7, hf⟩ := gb_el hf
            refine gx_getR X hw qzt7 clX6 (by decide) mf_X6_15 dX6_fillRow_97 ?_
            refine W.eq (g2 := F0 m 100 ls [.ref (gB E + zt7), .int zv5, .ref (gB E + zv1)]) rfl ?_
            refine lv_iload hx hb dX6_fillRow_100 (lv_at hl 0 rfl) ?_
            obtain ⟨zt8, qzt8, hf⟩ := gb_el hf
            refine gx_iald X hw qzt8 dX6_fillRow_102 ?_
            refine lv_iload_n hx hb dX6_fillRow_103 rfl (lv_at hl 3 rfl) ?_
            obtain ⟨zh9, qzh9, hf⟩ := gb_el hf
            refine gx_kv (gx_runS (As := [.ref (gB E + zv1), .int zv5, .int zt8, .int zv2]) (rest := []) X hw (c_X6_placeNext l E N zv1 zv5 zt8 zv2 zh2 qzh9) kX6_placeNext mm_X6_42 ⟨Nat.le_of_ble_eq_true rfl, Nat.le_of_ble_eq_true rfl⟩ rfl rfl rfl hl.1 (Nat.le_of_ble_eq_true rfl) rfl dX6_fillRow_104 ⟨Nat.le_of_ble_eq_true rfl, Nat.le_of_ble_eq_true rfl⟩) hw (fun H locs hw => ?_)
            exact J_107 zv0 zv1 zv2 zv4 zv5 _ _ _ ls hf hw (lv_sub hl [1, 2, 3, 4, 5] rfl)
  have L_6 : ∀ (zn6 : Nat) (zv0 : Nat) (zv1 : Nat) (zv2 : Int32) (zv3 : Int32) (zv4 : Int32) (zv5 : Int32) (zh : PH) (H : Heap) (locs : List Loc) (ls : Array Slot), gi (fun zk zs => f_X6_fillRow_6 N zk zs.1 zs.2.1 zs.2.2.1 zs.2.2.2.1 zs.2.2.2.2.1 zs.2.2.2.2.2.1 zs.2.2.2.2.2.2) zn6 (zv0, zv1, zv2, zv3, zv4, zv5, zh) = some (r9, h9) → gw E s zh H locs → lv_has ls 7 [(0, .ref (gB E + zv0)), (1, .ref (gB E + zv1)), (2, .int zv2), (3, .int zv3), (4, .int zv4), (5, .int zv5)] → W p l e rm_X6_fillRow s m [.ref (gB E + za0), .ref (gB E + za1), .int za2, .int za3].toArray below meth c H locs 0 0 (MQ below (gQi E r9 h9) [.ref (gB E + za0), .ref (gB E + za1), .int za2, .int za3].toArray s 0 0 (gA E)) (F0 m 6 ls []) := by
    intro zn6
    induction zn6 with
    | zero =>
      intro zv0 zv1 zv2 zv3 zv4 zv5 zh H locs ls hf
      cases hf
    | succ zn6 ih_6 =>
      have J_46 : ∀ (zv0 : Nat) (zv1 : Nat) (zv2 : Int32) (zv3 : Int32) (zv4 : Int32) (zv5 : Int32) (zh : PH) (H : Heap) (locs : List Loc) (ls : Array Slot), f_X6_fillRow_46 N (gi (fun zk zs => f_X6_fillRow_6 N zk zs.1 zs.2.1 zs.2.2.1 zs.2.2.2.1 zs.2.2.2.2.1 zs.2.2.2.2.2.1 zs.2.2.2.2.2.2) zn6) zv0 zv1 zv2 zv3 zv4 zv5 zh = some (r9, h9) → gw E s zh H locs → lv_has ls 7 [(0, .ref (gB E + zv0)), (1, .ref (gB E + zv1)), (2, .int zv2), (3, .int zv3), (4, .int zv4), (5, .int zv5)] → W p l e rm_X6_fillRow s m [.ref (gB E + za0), .ref (gB E + za1), .int za2, .int za3].toArray below meth c H locs 0 0 (MQ below (gQi E r9 h9) [.ref (gB E + za0), .ref (gB E + za1), .int za2, .int za3].toArray s 0 0 (gA E)) (F0 m 46 ls []) := by
        intro zv0 zv1 zv2 zv3 zv4 zv5 zh H locs ls hf hw hl
        unfold f_X6_fillRow_46 at hf
        obtain ⟨zx1, ezx1⟩ : ∃ y : Int32, y = zv5 + 1 := ⟨_, rfl⟩
        have hf := gl_el hf ezx1
        refine lv_iinc (v := zx1) (lv' := [(5, .int zx1), (0, .ref (gB E + zv0)), (1, .ref (gB E + zv1)), (2, .int zv2), (3, .int zv3), (4, .int zv4)]) hx hb dX6_fillRow_46 hl (k := 5) rfl (by rw [ezx1]; rfl) (by decide) rfl (fun ls hl => ?_)
        refine lv_goto (tgt := 6) hx hb dX6_fillRow_49 (by decide) ?_
        exact ih_6 zv0 zv1 zv2 zv3 zv4 zx1 _ _ _ ls hf hw (lv_sub hl [1, 2, 3, 4, 5, 0] rfl)
      intro zv0 zv1 zv2 zv3 zv4 zv5 zh H locs ls hf hw hl
      have hf := gi_s hf
      dsimp only at hf
      unfold f_X6_fillRow_6 at hf
      refine lv_iload hx hb dX6_fillRow_6 (lv_at hl 5 rfl) ?_
      refine lv_bipush (v := 10) hx hb dX6_fillRow_8 (by decide) ?_
      refine lv_icmp_ge (tgt := 52) hx hb dX6_fillRow_10 (by decide) (fun qc1 => ?_) (fun qc1 => ?_)
      · have hf := gif_t hf qc1
        refine lv_aload_n hx hb dX6_fillRow_52 rfl (lv_at hl 1 rfl) ?_
        refine lv_iconst (v := 0) hx hb dX6_fillRow_53 (by decide) ?_
        obtain ⟨zh2, qzh2, hf⟩ := gb_el hf
        refine gx_kv (gx_runS (As := [.ref (gB E + zv1), .int 0]) (rest := []) X hw (c_J7_fill_53178 l E N zv1 0 zh qzh2) kJ7_fill_53178 mm_X6_30 ⟨Nat.le_of_ble_eq_true rfl, Nat.le_of_ble_eq_true rfl⟩ rfl rfl rfl hl.1 (Nat.le_of_ble_eq_true rfl) rfl dX6_fillRow_54 ⟨Nat.le_of_ble_eq_true rfl, Nat.le_of_ble_eq_true rfl⟩) hw (fun H locs hw => ?_)
        refine lv_aload_n hx hb dX6_fillRow_57 rfl (lv_at hl 1 rfl) ?_
        refine lv_iconst (v := 0) hx hb dX6_fillRow_58 (by decide) ?_
        refine lv_iconst (v := 1) hx hb dX6_fillRow_59 (by decide) ?_
        refine W.eq (g2 := F0 m 60 ls [.int 1, .int 0, .ref (gB E + zv1)]) rfl ?_
        obtain ⟨zh3, qzh3, hf⟩ := gb_el hf
        refine gx_iast X hw qzh3 dX6_fillRow_60 (fun H locs hw => ?_)
        refine lv_iconst (v := 0) hx hb dX6_fillRow_61 (by decide) ?_
        refine lv_istore (lv' := [(5, .int 0), (0, .ref (gB E + zv0)), (1, .ref (gB E + zv1)), (2, .int zv2), (3, .int zv3), (4, .int zv4)]) hx hb dX6_fillRow_62 hl (by decide) rfl (fun ls hl => ?_)
        exact L_64 N zv0 zv1 zv2 zv4 0 _ _ _ ls hf hw (lv_sub hl [1, 2, 3, 5, 0] rfl)
      · have hf := gif_f hf qc1
        refine lv_aload_n hx hb dX6_fillRow_13 rfl (lv_at hl 0 rfl) ?_
        obtain ⟨zt4, qzt4, hf⟩ := gb_el hf
        refine gx_getR X hw qzt4 clX6 (by decide) mf_X6_9 dX6_fillRow_14 ?_
        refine lv_iload hx hb dX6_fillRow_17 (lv_at hl 5 rfl) ?_
        obtain ⟨zt5, qzt5, hf⟩ := gb_el hf
        refine gx_iald X hw qzt5 dX6_fillRow_19 ?_
        refine lv_if_eq (tgt := 46) hx hb dX6_fillRow_20 (by decide) (fun qc6 => ?_) (fun qc6 => ?_)
        · have hf := gif_t hf qc6
          exact J_46 zv0 zv1 zv2 zv3 zv4 zv5 _ _ _ ls hf hw (lv_sub hl [0, 1, 2, 3, 4, 5] rfl)
        · have hf := gif_f hf qc6
          refine lv_iload hx hb dX6_fillRow_23 (lv_at hl 5 rfl) ?_
          refine W.eq (g2 := F0 m 25 ls [.int zv5]) rfl ?_
          refine lv_iload_n hx hb dX6_fillRow_25 rfl (lv_at hl 3 rfl) ?_
          refine lv_icmp_eq (tgt := 46) hx hb dX6_fillRow_26 (by decide) (fun qc7 => ?_) (fun qc7 => ?_)
          · have hf := gif_t hf qc7
            exact J_46 zv0 zv1 zv2 zv3 zv4 zv5 _ _ _ ls hf hw (lv_sub hl [0, 1, 2, 3, 4, 5] rfl)
          · have hf := gif_f hf qc7
            refine lv_aload_n hx hb dX6_fillRow_29 rfl (lv_at hl 0 rfl) ?_
            obtain ⟨zt8, qzt8, hf⟩ := gb_el hf
            refine gx_getR X hw qzt8 clX6 (by decide) mf_X6_15 dX6_fillRow_30 ?_
            refine lv_iload hx hb dX6_fillRow_33 (lv_at hl 4 rfl) ?_
            refine lv_aload_n hx hb dX6_fillRow_35 rfl (lv_at hl 0 rfl) ?_
            obtain ⟨zt9, qzt9, hf⟩ := gb_el hf
            refine gx_getR X hw qzt9 clX6 (by decide) mf_X6_9 dX6_fillRow_36 ?_
            refine lv_iload hx hb dX6_fillRow_39 (lv_at hl 5 rfl) ?_
            obtain ⟨zt10, qzt10, hf⟩ := gb_el hf
            refine gx_iald X hw qzt10 dX6_fillRow_41 ?_
            obtain ⟨zh11, qzh11, hf⟩ := gb_el hf
            refine gx_iast X hw qzh11 dX6_fillRow_42 (fun H locs hw => ?_)
            refine W.eq (g2 := F0 m 43 ls []) rfl ?_
            obtain ⟨zx12, ezx12⟩ : ∃ y : Int32, y = zv4 + 1 := ⟨_, rfl⟩
            have hf := gl_el hf ezx12
            refine lv_iinc (v := zx12) (lv' := [(4, .int zx12), (0, .ref (gB E + zv0)), (1, .ref (gB E + zv1)), (2, .int zv2), (3, .int zv3), (5, .int zv5)]) hx hb dX6_fillRow_43 hl (k := 4) rfl (by rw [ezx12]; rfl) (by decide) rfl (fun ls hl => ?_)
            exact J_46 zv0 zv1 zv2 zv3 zx12 zv5 _ _ _ ls hf hw (lv_sub hl [1, 2, 3, 4, 0, 5] rfl)
  unfold f_X6_fillRow at hf
  refine lv_iconst (v := 0) hx hb dX6_fillRow_0 (by decide) ?_
  refine lv_istore (lv' := [(4, .int 0), (0, .ref (gB E + za0)), (1, .ref (gB E + za1)), (2, .int za2), (3, .int za3)]) hx hb dX6_fillRow_1 hl (by decide) rfl (fun ls hl => ?_)
  refine lv_iconst (v := 0) hx hb dX6_fillRow_3 (by decide) ?_
  refine lv_istore (lv' := [(5, .int 0), (4, .int 0), (0, .ref (gB E + za0)), (1, .ref (gB E + za1)), (2, .int za2), (3, .int za3)]) hx hb dX6_fillRow_4 hl (by decide) rfl (fun ls hl => ?_)
  exact L_6 N za0 za1 za2 za3 0 0 _ _ _ ls hf hw (lv_sub hl [2, 3, 4, 5, 1, 0] rfl)
