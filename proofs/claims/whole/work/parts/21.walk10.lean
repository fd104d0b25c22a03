def f_X12_triesLiars_90 (N : Nat) (zF_X12_triesLiars : Nat → Int32 → Int32 → Int32 → PH → Option PH) (zv0 : Nat) (zv1 : Int32) (zv2 : Int32) (zv3 : Int32) (zh : PH) : Option PH :=
  gg (gIs 12 zv0 zh) <|
  gb (zF_X12_triesLiars zv0 (zv1 + 1) zv2 (zv3 + 1) zh) fun zh1 =>
  some zh1
def f_X12_triesLiars_64 (N : Nat) (zF_X12_triesLiars : Nat → Int32 → Int32 → Int32 → PH → Option PH) (zk29 : (Nat × Int32 × Int32 × Int32 × Int32 × Int32 × PH) → Option PH) (zv0 : Nat) (zv1 : Int32) (zv2 : Int32) (zv3 : Int32) (zv5 : Int32) (zs0 : Int32) (zh : PH) : Option PH :=
  gl (zv5 + 1) fun (zx1 : Int32) =>
  zk29 (zv0, zv1, zv2, zv3, zs0, zx1, zh)
def f_X12_triesLiars_63 (N : Nat) (zF_X12_triesLiars : Nat → Int32 → Int32 → Int32 → PH → Option PH) (zk29 : (Nat × Int32 × Int32 × Int32 × Int32 × Int32 × PH) → Option PH) (zv0 : Nat) (zv1 : Int32) (zv2 : Int32) (zv3 : Int32) (zv5 : Int32) (zh : PH) : Option PH :=
  f_X12_triesLiars_64 N zF_X12_triesLiars zk29 zv0 zv1 zv2 zv3 zv5 0 zh
def f_X12_triesLiars_59 (N : Nat) (zF_X12_triesLiars : Nat → Int32 → Int32 → Int32 → PH → Option PH) (zk29 : (Nat × Int32 × Int32 × Int32 × Int32 × Int32 × PH) → Option PH) (zv0 : Nat) (zv1 : Int32) (zv2 : Int32) (zv3 : Int32) (zv5 : Int32) (zh : PH) : Option PH :=
  f_X12_triesLiars_64 N zF_X12_triesLiars zk29 zv0 zv1 zv2 zv3 zv5 1 zh
def f_X12_triesLiars_29 (N : Nat) (zF_X12_triesLiars : Nat → Int32 → Int32 → Int32 → PH → Option PH) (zk29 : (Nat × Int32 × Int32 × Int32 × Int32 × Int32 × PH) → Option PH) (zv0 : Nat) (zv1 : Int32) (zv2 : Int32) (zv3 : Int32) (zv4 : Int32) (zv5 : Int32) (zh : PH) : Option PH :=
  if (zv1 : Int32) ≤ zv5 then (
  if (zv4 : Int32) = 0 then (
  f_X12_triesLiars_90 N zF_X12_triesLiars zv0 zv1 zv2 zv3 zh)
  else (
  gg (gIs 12 zv0 zh) <|
  gb (zF_X12_triesLiars zv0 (zv1 + 1) (zv2 ||| (1 <<< (zv1 &&& 31))) zv3 zh) fun zh3 =>
  f_X12_triesLiars_90 N zF_X12_triesLiars zv0 zv1 zv2 zv3 zh3))
  else (
  if (zv4 : Int32) = 0 then (
  f_X12_triesLiars_63 N zF_X12_triesLiars zk29 zv0 zv1 zv2 zv3 zv5 zh)
  else (
  if (((zv2 >>> (zv5 &&& 31)) &&& 1) : Int32) = 0 then (
  f_X12_triesLiars_59 N zF_X12_triesLiars zk29 zv0 zv1 zv2 zv3 zv5 zh)
  else (
  gg (gIs 12 zv0 zh) <|
  gc (f_X12_areUnlike N zv0 zv5 zv1 zh) fun zt7 zh6 =>
  if (zt7 : Int32) = 0 then (
  f_X12_triesLiars_59 N zF_X12_triesLiars zk29 zv0 zv1 zv2 zv3 zv5 zh6)
  else (
  f_X12_triesLiars_63 N zF_X12_triesLiars zk29 zv0 zv1 zv2 zv3 zv5 zh6))))
def b_X12_triesLiars (N : Nat) (zF_X12_triesLiars : Nat → Int32 → Int32 → Int32 → PH → Option PH) (za0 : Nat) (za1 : Int32) (za2 : Int32) (za3 : Int32) (zh : PH) : Option PH :=
  gb (gfI 12 30 za0 zh) fun zt1 =>
  if (za3 : Int32) < zt1 then (
  gg (gIs 12 za0 zh) <|
  gc (f_X12_sights N za0 zh) fun zt4 zh3 =>
  if (za1 : Int32) = zt4 then (
  gb (pfV 12 30 za0 (.int za3) zh3) fun zh6 =>
  some zh6)
  else (
  gi (fun zk zs => f_X12_triesLiars_29 N zF_X12_triesLiars zk zs.1 zs.2.1 zs.2.2.1 zs.2.2.2.1 zs.2.2.2.2.1 zs.2.2.2.2.2.1 zs.2.2.2.2.2.2) N (za0, za1, za2, za3, 1, 0, zh3)))
  else (
  some zh)
def g_gL (N : Nat) : Nat → (Nat → Int32 → Int32 → Int32 → PH → Option PH)
  | 0 => fun _ _ _ _ _ => none
  | zd + 1 => b_X12_triesLiars N (g_gL N zd)
def f_X12_triesLiars (N : Nat) (za0 : Nat) (za1 : Int32) (za2 : Int32) (za3 : Int32) (zh : PH) : Option PH := (g_gL N 32) za0 za1 za2 za3 zh
def f_X12_liars (N : Nat) (za0 : Nat) (zh : PH) : Option (Int32 × PH) :=
  gb (pfV 12 0 za0 (.int 0) zh) fun zh1 =>
  gb (pfV 12 30 za0 (.int 100000000) zh1) fun zh2 =>
  gg (gIs 12 za0 zh2) <|
  gb (f_X12_triesLiars N za0 0 0 0 zh2) fun zh3 =>
  gb (gfI 12 30 za0 zh3) fun zt4 =>
  some (zt4, zh3)
def f_X12_pageOf (N : Nat) (za0 : Nat) (za1 : Int32) (zh : PH) : Option (Int32 × PH) :=
  gb (gfR 12 17 za0 zh) fun zt1 =>
  gb (arI 0 zt1 (463 + za1) zh) fun zt2 =>
  some (zt2, zh)
def f_X12_pages_26 (N : Nat) (zk4 : (Nat × Int32 × Int32 × PH) → Option (Int32 × PH)) (zv0 : Nat) (zv2 : Int32) (zs0 : Int32) (zs1 : Int32) (zh : PH) : Option (Int32 × PH) :=
  gl ((zs1 + zs0)) fun (zx1 : Int32) =>
  gl (zv2 + 1) fun (zx2 : Int32) =>
  zk4 (zv0, zx1, zx2, zh)
def f_X12_pages_4 (N : Nat) (zk4 : (Nat × Int32 × Int32 × PH) → Option (Int32 × PH)) (zv0 : Nat) (zv1 : Int32) (zv2 : Int32) (zh : PH) : Option (Int32 × PH) :=
  gg (gIs 12 zv0 zh) <|
  gc (f_X12_guests N zv0 zh) fun zt2 zh1 =>
  if (zt2 : Int32) ≤ zv2 then (
  some (zv1, zh1))
  else (
  gg (gIs 12 zv0 zh1) <|
  gc (f_X12_pageOf N zv0 zv2 zh1) fun zt5 zh4 =>
  if (zt5 : Int32) ≤ 0 then (
  f_X12_pages_26 N zk4 zv0 zv2 0 zv1 zh4)
  else (
  f_X12_pages_26 N zk4 zv0 zv2 1 zv1 zh4))
def f_X12_pages (N : Nat) (za0 : Nat) (zh : PH) : Option (Int32 × PH) :=
  gi (fun zk zs => f_X12_pages_4 N zk zs.1 zs.2.1 zs.2.2.1 zs.2.2.2) N (za0, 0, 0, zh)
def f_X12_page_27 (N : Nat) (zh : PH) : Option (Int32 × PH) :=
  some ((-1), zh)
def f_X12_page (N : Nat) (za0 : Nat) (za1 : Int32) (za2 : Int32) (zh : PH) : Option (Int32 × PH) :=
  gb (pfV 12 0 za0 (.int 0) zh) fun zh1 =>
  gg (gIs 12 za0 zh1) <|
  gc (f_X12_isGuest N za0 za1 zh1) fun zt3 zh2 =>
  if (zt3 : Int32) = 0 then (
  f_X12_page_27 N  zh2)
  else (
  if (za2 : Int32) < 0 then (
  f_X12_page_27 N  zh2)
  else (
  gg (gIs 12 za0 zh2) <|
  gc (f_X12_rooms N za0 zh2) fun zt7 zh6 =>
  if (za2 : Int32) < (1 <<< (zt7 &&& 31)) then (
  gb (gfR 12 17 za0 zh6) fun zt9 =>
  gb (asI 0 zt9 (463 + za1) za2 zh6) fun zh10 =>
  gg (gIs 12 za0 zh10) <|
  gc (f_X12_pages N za0 zh10) fun zt12 zh11 =>
  some (zt12, zh11))
  else (
  f_X12_page_27 N  zh6)))
def f_X12_findWays_186 (N : Nat) (zk186 : (Nat × Int64 × Int32 × PH) → Option (Int64 × PH)) (zv0 : Nat) (zv3 : Int64) (zv5 : Int32) (zh : PH) : Option (Int64 × PH) :=
  if (1024 : Int32) ≤ zv5 then (
  some (zv3, zh))
  else (
  gb (gfR 12 31 zv0 zh) fun zt2 =>
  gb (arL 1 zt2 zv5 zh) fun zt3 =>
  gl ((zv3 + zt3)) fun (zx4 : Int64) =>
  gl (zv5 + 1) fun (zx5 : Int32) =>
  zk186 (zv0, zx4, zx5, zh))
def f_X12_findWays_175 (N : Nat) (zk32 : (Nat × Int32 × Int32 × Int32 × PH) → Option (Int64 × PH)) (zv0 : Nat) (zv1 : Int32) (zv2 : Int32) (zv3 : Int32) (zh : PH) : Option (Int64 × PH) :=
  gl (zv3 + 1) fun (zx1 : Int32) =>
  zk32 (zv0, zv1, zv2, zx1, zh)
def f_X12_findWays_151 (N : Nat) (zk32 : (Nat × Int32 × Int32 × Int32 × PH) → Option (Int64 × PH)) (zk69 : (Nat × Int32 × Int32 × Int32 × Int32 × Int32 × PH) → Option (Int64 × PH)) (zk88 : (Nat × Int32 × Int32 × Int32 × Int32 × Int32 × Int64 × Int32 × PH) → Option (Int64 × PH)) (zv0 : Nat) (zv1 : Int32) (zv2 : Int32) (zv3 : Int32) (zv4 : Int32) (zv5 : Int32) (zv8 : Int32) (zs0 : Int64) (zs1 : Int64) (zh : PH) : Option (Int64 × PH) :=
  gl ((zs1 + zs0)) fun (zx1 : Int64) =>
  gl (zv8 + 1) fun (zx2 : Int32) =>
  zk88 (zv0, zv1, zv2, zv3, zv4, zv5, zx1, zx2, zh)
def f_X12_findWays_124 (N : Nat) (zk32 : (Nat × Int32 × Int32 × Int32 × PH) → Option (Int64 × PH)) (zk69 : (Nat × Int32 × Int32 × Int32 × Int32 × Int32 × PH) → Option (Int64 × PH)) (zk88 : (Nat × Int32 × Int32 × Int32 × Int32 × Int32 × Int64 × Int32 × PH) → Option (Int64 × PH)) (zv0 : Nat) (zv1 : Int32) (zv2 : Int32) (zv3 : Int32) (zv4 : Int32) (zv5 : Int32) (zv6 : Int64) (zv8 : Int32) (zs0 : Int32) (zh : PH) : Option (Int64 × PH) :=
  if (zs0 : Int32) = 0 then (
  f_X12_findWays_151 N zk32 zk69 zk88 zv0 zv1 zv2 zv3 zv4 zv5 zv8 0 zv6 zh)
  else (
  gb (gfR 12 31 zv0 zh) fun zt2 =>
  gb (arL 1 zt2 (zv5 &&& ((1 <<< (zv8 &&& 31)) ^^^ (-1))) zh) fun zt3 =>
  f_X12_findWays_151 N zk32 zk69 zk88 zv0 zv1 zv2 zv3 zv4 zv5 zv8 zt3 zv6 zh)
def f_X12_findWays_123 (N : Nat) (zk32 : (Nat × Int32 × Int32 × Int32 × PH) → Option (Int64 × PH)) (zk69 : (Nat × Int32 × Int32 × Int32 × Int32 × Int32 × PH) → Option (Int64 × PH)) (zk88 : (Nat × Int32 × Int32 × Int32 × Int32 × Int32 × Int64 × Int32 × PH) → Option (Int64 × PH)) (zv0 : Nat) (zv1 : Int32) (zv2 : Int32) (zv3 : Int32) (zv4 : Int32) (zv5 : Int32) (zv6 : Int64) (zv8 : Int32) (zh : PH) : Option (Int64 × PH) :=
  f_X12_findWays_124 N zk32 zk69 zk88 zv0 zv1 zv2 zv3 zv4 zv5 zv6 zv8 0 zh
def f_X12_findWays_88 (N : Nat) (zk32 : (Nat × Int32 × Int32 × Int32 × PH) → Option (Int64 × PH)) (zk69 : (Nat × Int32 × Int32 × Int32 × Int32 × Int32 × PH) → Option (Int64 × PH)) (zk88 : (Nat × Int32 × Int32 × Int32 × Int32 × Int32 × Int64 × Int32 × PH) → Option (Int64 × PH)) (zv0 : Nat) (zv1 : Int32) (zv2 : Int32) (zv3 : Int32) (zv4 : Int32) (zv5 : Int32) (zv6 : Int64) (zv8 : Int32) (zh : PH) : Option (Int64 × PH) :=
  gg (gIs 12 zv0 zh) <|
  gc (f_X12_rooms N zv0 zh) fun zt2 zh1 =>
  if (zt2 : Int32) ≤ zv8 then (
  gb (gfR 12 31 zv0 zh1) fun zt4 =>
  gb (asL 1 zt4 zv5 zv6 zh1) fun zh5 =>
  gl (zv5 + (-1)) fun (zx6 : Int32) =>
  zk69 (zv0, zv1, zv2, zv3, zv4, zx6, zh5))
  else (
  if (((zv4 >>> (zv8 &&& 31)) &&& 1) : Int32) = 1 then (
  if (((zv5 >>> (zv8 &&& 31)) &&& 1) : Int32) = 1 then (
  f_X12_findWays_124 N zk32 zk69 zk88 zv0 zv1 zv2 zv3 zv4 zv5 zv6 zv8 1 zh1)
  else (
  f_X12_findWays_123 N zk32 zk69 zk88 zv0 zv1 zv2 zv3 zv4 zv5 zv6 zv8 zh1))
  else (
  f_X12_findWays_123 N zk32 zk69 zk88 zv0 zv1 zv2 zv3 zv4 zv5 zv6 zv8 zh1))
def f_X12_findWays_69 (N : Nat) (zk32 : (Nat × Int32 × Int32 × Int32 × PH) → Option (Int64 × PH)) (zk69 : (Nat × Int32 × Int32 × Int32 × Int32 × Int32 × PH) → Option (Int64 × PH)) (zv0 : Nat) (zv1 : Int32) (zv2 : Int32) (zv3 : Int32) (zv4 : Int32) (zv5 : Int32) (zh : PH) : Option (Int64 × PH) :=
  if (zv5 : Int32) < 0 then (
  f_X12_findWays_175 N zk32 zv0 zv1 zv2 zv3 zh)
  else (
  gg (gIs 12 zv0 zh) <|
  gc (f_X12_pageOf N zv0 zv3 zh) fun zt3 zh2 =>
  if (zt3 : Int32) ≤ 0 then (
  f_X12_findWays_175 N zk32 zv0 zv1 zv2 zv3 zh2)
  else (
  gi (fun zk zs => f_X12_findWays_88 N zk32 zk69 zk zs.1 zs.2.1 zs.2.2.1 zs.2.2.2.1 zs.2.2.2.2.1 zs.2.2.2.2.2.1 zs.2.2.2.2.2.2.1 zs.2.2.2.2.2.2.2.1 zs.2.2.2.2.2.2.2.2) N (zv0, zv1, zv2, zv3, zv4, zv5, 0, 0, zh2)))
def f_X12_findWays_62 (N : Nat) (zk32 : (Nat × Int32 × Int32 × Int32 × PH) → Option (Int64 × PH)) (zv0 : Nat) (zv1 : Int32) (zv2 : Int32) (zv3 : Int32) (zs0 : Int32) (zh : PH) : Option (Int64 × PH) :=
  gi (fun zk zs => f_X12_findWays_69 N zk32 zk zs.1 zs.2.1 zs.2.2.1 zs.2.2.2.1 zs.2.2.2.2.1 zs.2.2.2.2.2.1 zs.2.2.2.2.2.2) N (zv0, zv1, zv2, zv3, zs0, 1023, zh)
def f_X12_findWays_32 (N : Nat) (zk32 : (Nat × Int32 × Int32 × Int32 × PH) → Option (Int64 × PH)) (zv0 : Nat) (zv1 : Int32) (zv2 : Int32) (zv3 : Int32) (zh : PH) : Option (Int64 × PH) :=
  gg (gIs 12 zv0 zh) <|
  gc (f_X12_guests N zv0 zh) fun zt2 zh1 =>
  if (zt2 : Int32) ≤ zv3 then (
  gi (fun zk zs => f_X12_findWays_186 N zk zs.1 zs.2.1 zs.2.2.1 zs.2.2.2) N (zv0, 0, 0, zh1))
  else (
  if (zv3 : Int32) = zv1 then (
  gg (gIs 12 zv0 zh1) <|
  gc (f_X12_pageOf N zv0 zv3 zh1) fun zt8 zh7 =>
  f_X12_findWays_62 N zk32 zv0 zv1 zv2 zv3 (zt8 &&& (1 <<< (zv2 &&& 31))) zh7)
  else (
  gg (gIs 12 zv0 zh1) <|
  gc (f_X12_pageOf N zv0 zv3 zh1) fun zt6 zh5 =>
  f_X12_findWays_62 N zk32 zv0 zv1 zv2 zv3 zt6 zh5))
def f_X12_findWays_23 (N : Nat) (zk2 : (Nat × Int32 × Int32 × Int32 × PH) → Option (Int64 × PH)) (zv0 : Nat) (zv1 : Int32) (zv2 : Int32) (zv3 : Int32) (zs0 : Int64) (zs1 : Int32) (zs2 : Nat) (zh : PH) : Option (Int64 × PH) :=
  gb (asL 1 zs2 zs1 zs0 zh) fun zh1 =>
  gl (zv3 + 1) fun (zx2 : Int32) =>
  zk2 (zv0, zv1, zv2, zx2, zh1)
def f_X12_findWays_2 (N : Nat) (zk2 : (Nat × Int32 × Int32 × Int32 × PH) → Option (Int64 × PH)) (zv0 : Nat) (zv1 : Int32) (zv2 : Int32) (zv3 : Int32) (zh : PH) : Option (Int64 × PH) :=
  if (1024 : Int32) ≤ zv3 then (
  gi (fun zk zs => f_X12_findWays_32 N zk zs.1 zs.2.1 zs.2.2.1 zs.2.2.2.1 zs.2.2.2.2) N (zv0, zv1, zv2, 0, zh))
  else (
  gb (gfR 12 31 zv0 zh) fun zt2 =>
  if (zv3 : Int32) = 0 then (
  f_X12_findWays_23 N zk2 zv0 zv1 zv2 zv3 1 zv3 zt2 zh)
  else (
  f_X12_findWays_23 N zk2 zv0 zv1 zv2 zv3 0 zv3 zt2 zh))
def f_X12_findWays (N : Nat) (za0 : Nat) (za1 : Int32) (za2 : Int32) (zh : PH) : Option (Int64 × PH) :=
  gi (fun zk zs => f_X12_findWays_2 N zk zs.1 zs.2.1 zs.2.2.1 zs.2.2.2.1 zs.2.2.2.2) N (za0, za1, za2, 0, zh)
def f_X12_ways (N : Nat) (za0 : Nat) (zh : PH) : Option (Int64 × PH) :=
  gb (pfV 12 0 za0 (.int 0) zh) fun zh1 =>
  gg (gIs 12 za0 zh1) <|
  gc (f_X12_findWays N za0 (-1) 0 zh1) fun zt3 zh2 =>
  some (zt3, zh2)
def f_X12_sure_113 (N : Nat) (zs0 : Int32) (zh : PH) : Option (Int32 × PH) :=
  some (zs0, zh)
def f_X12_sure_95 (N : Nat) (zk30 : (Nat × Int32 × Int32 × Int32 × Int32 × PH) → Option (Int32 × PH)) (zv0 : Nat) (zv1 : Int32) (zv2 : Int32) (zv4 : Int32) (zs0 : Int32) (zs1 : Int32) (zh : PH) : Option (Int32 × PH) :=
  gl ((zs1 + zs0)) fun (zx1 : Int32) =>
  gl (zv4 + 1) fun (zx2 : Int32) =>
  zk30 (zv0, zv1, zv2, zx1, zx2, zh)
def f_X12_sure_83 (N : Nat) (zk30 : (Nat × Int32 × Int32 × Int32 × Int32 × PH) → Option (Int32 × PH)) (zv0 : Nat) (zv1 : Int32) (zv3 : Int32) (zv4 : Int32) (zv5 : Int32) (zs0 : Int32) (zh : PH) : Option (Int32 × PH) :=
  if (zv5 : Int32) = 0 then (
  f_X12_sure_95 N zk30 zv0 zv1 zs0 zv4 0 zv3 zh)
  else (
  f_X12_sure_95 N zk30 zv0 zv1 zs0 zv4 1 zv3 zh)
def f_X12_sure_70 (N : Nat) (zk30 : (Nat × Int32 × Int32 × Int32 × Int32 × PH) → Option (Int32 × PH)) (zv0 : Nat) (zv1 : Int32) (zv2 : Int32) (zv3 : Int32) (zv4 : Int32) (zs0 : Int32) (zh : PH) : Option (Int32 × PH) :=
  if (zs0 : Int32) = 0 then (
  f_X12_sure_83 N zk30 zv0 zv1 zv3 zv4 zs0 zv2 zh)
  else (
  f_X12_sure_83 N zk30 zv0 zv1 zv3 zv4 zs0 zv4 zh)
def f_X12_sure_69 (N : Nat) (zk30 : (Nat × Int32 × Int32 × Int32 × Int32 × PH) → Option (Int32 × PH)) (zv0 : Nat) (zv1 : Int32) (zv2 : Int32) (zv3 : Int32) (zv4 : Int32) (zh : PH) : Option (Int32 × PH) :=
  f_X12_sure_70 N zk30 zv0 zv1 zv2 zv3 zv4 0 zh
def f_X12_sure_30 (N : Nat) (zk30 : (Nat × Int32 × Int32 × Int32 × Int32 × PH) → Option (Int32 × PH)) (zv0 : Nat) (zv1 : Int32) (zv2 : Int32) (zv3 : Int32) (zv4 : Int32) (zh : PH) : Option (Int32 × PH) :=
  gg (gIs 12 zv0 zh) <|
  gc (f_X12_rooms N zv0 zh) fun zt2 zh1 =>
  if (zt2 : Int32) ≤ zv4 then (
  if (zv3 : Int32) = 1 then (
  f_X12_sure_113 N zv2 zh1)
  else (
  f_X12_sure_113 N (-1) zh1))
  else (
  gg (gIs 12 zv0 zh1) <|
  gc (f_X12_pageOf N zv0 zv1 zh1) fun zt6 zh5 =>
  if (((zt6 >>> (zv4 &&& 31)) &&& 1) : Int32) = 1 then (
  gg (gIs 12 zv0 zh5) <|
  gc (f_X12_findWays N zv0 zv1 zv4 zh5) fun zt9 zh8 =>
  if ((lg_cmp zt9 0) : Int32) ≤ 0 then (
  f_X12_sure_69 N zk30 zv0 zv1 zv2 zv3 zv4 zh8)
  else (
  f_X12_sure_70 N zk30 zv0 zv1 zv2 zv3 zv4 1 zh8))
  else (
  f_X12_sure_69 N zk30 zv0 zv1 zv2 zv3 zv4 zh5))
def f_X12_sure_21 (N : Nat) (zh : PH) : Option (Int32 × PH) :=
  some ((-1), zh)
def f_X12_sure (N : Nat) (za0 : Nat) (za1 : Int32) (zh : PH) : Option (Int32 × PH) :=
  gb (pfV 12 0 za0 (.int 0) zh) fun zh1 =>
  gg (gIs 12 za0 zh1) <|
  gc (f_X12_isGuest N za0 za1 zh1) fun zt3 zh2 =>
  if (zt3 : Int32) = 0 then (
  f_X12_sure_21 N  zh2)
  else (
  gg (gIs 12 za0 zh2) <|
  gc (f_X12_pageOf N za0 za1 zh2) fun zt6 zh5 =>
  if (zt6 : Int32) = 0 then (
  f_X12_sure_21 N  zh5)
  else (
  gi (fun zk zs => f_X12_sure_30 N zk zs.1 zs.2.1 zs.2.2.1 zs.2.2.2.1 zs.2.2.2.2.1 zs.2.2.2.2.2) N (za0, za1, (-1), 0, 0, zh5)))
def f_X12_jobs (N : Nat) (za0 : Nat) (zh : PH) : Option (Int32 × PH) :=
  gb (gfR 12 17 za0 zh) fun zt1 =>
  gb (arI 0 zt1 473 zh) fun zt2 =>
  some (zt2, zh)
def f_X12_jobOf (N : Nat) (za0 : Nat) (za1 : Int32) (za2 : Int32) (zh : PH) : Option (Int32 × PH) :=
  gb (gfR 12 17 za0 zh) fun zt1 =>
  gb (arI 0 zt1 ((474 + (3 * za1)) + za2) zh) fun zt2 =>
  some (zt2, zh)
def f_X12_job_44 (N : Nat) (zh : PH) : Option (Int32 × PH) :=
  some ((-1), zh)
def f_X12_job (N : Nat) (za0 : Nat) (za1 : Int32) (za2 : Int32) (za3 : Int32) (zh : PH) : Option (Int32 × PH) :=
  gb (pfV 12 0 za0 (.int 0) zh) fun zh1 =>
  gc (f_X12_within N za1 0 99 zh1) fun zt3 zh2 =>
  if (zt3 : Int32) = 0 then (
  f_X12_job_44 N  zh2)
  else (
  gc (f_X12_within N za2 1 99 zh2) fun zt6 zh5 =>
  if (zt6 : Int32) = 0 then (
  f_X12_job_44 N  zh5)
  else (
  gc (f_X12_within N za3 0 99 zh5) fun zt9 zh8 =>
  if (zt9 : Int32) = 0 then (
  f_X12_job_44 N  zh8)
  else (
  gg (gIs 12 za0 zh8) <|
  gc (f_X12_jobs N za0 zh8) fun zt12 zh11 =>
  if (zt12 : Int32) = 7 then (
  f_X12_job_44 N  zh11)
  else (
  gg (gIs 12 za0 zh11) <|
  gc (f_X12_jobs N za0 zh11) fun zt15 zh14 =>
  gl ((474 + (3 * zt15))) fun (zx16 : Int32) =>
  gb (gfR 12 17 za0 zh14) fun zt17 =>
  gb (asI 0 zt17 zx16 za1 zh14) fun zh18 =>
  gb (gfR 12 17 za0 zh18) fun zt19 =>
  gb (asI 0 zt19 (zx16 + 1) za2 zh18) fun zh20 =>
  gb (gfR 12 17 za0 zh20) fun zt21 =>
  gb (asI 0 zt21 (zx16 + 2) za3 zh20) fun zh22 =>
  gb (gfR 12 17 za0 zh22) fun zt23 =>
  gb (arI 0 zt23 473 zh22) fun zt24 =>
  gb (asI 0 zt23 473 (zt24 + 1) zh22) fun zh25 =>
  gg (gIs 12 za0 zh25) <|
  gc (f_X12_jobs N za0 zh25) fun zt27 zh26 =>
  some (zt27, zh26)))))
def f_X12_doneBy_136 (N : Nat) (zk12 : (Nat × Nat × Int32 × Int32 × Int32 × PH) → Option (Int32 × PH)) (zv0 : Nat) (zv1 : Nat) (zv2 : Int32) (zv4 : Int32) (zs0 : Int32) (zh : PH) : Option (Int32 × PH) :=
  gl (zv4 + 1) fun (zx1 : Int32) =>
  zk12 (zv0, zv1, zv2, zs0, zx1, zh)
def f_X12_doneBy_49 (N : Nat) (zk12 : (Nat × Nat × Int32 × Int32 × Int32 × PH) → Option (Int32 × PH)) (zv0 : Nat) (zv1 : Nat) (zv3 : Int32) (zv4 : Int32) (zv5 : Int32) (zs0 : Int32) (zh : PH) : Option (Int32 × PH) :=
  gb (gfI 12 36 zv0 zh) fun zt1 =>
  gg (gIs 12 zv0 zh) <|
  gc (f_X12_jobOf N zv0 zv5 0 zh) fun zt3 zh2 =>
  gb (pfV 12 36 zv0 (.int (zt1 + (zs0 - zt3))) zh2) fun zh4 =>
  gg (gIs 12 zv0 zh4) <|
  gc (f_X12_jobOf N zv0 zv5 1 zh4) fun zt6 zh5 =>
  gl ((zs0 + zt6)) fun (zx7 : Int32) =>
  gb (gfR 12 34 zv0 zh5) fun zt8 =>
  gg (gIs 12 zv0 zh5) <|
  gc (f_X12_jobOf N zv0 zv5 0 zh5) fun zt10 zh9 =>
  gb (asI 0 zt8 zv5 (zs0 - zt10) zh9) fun zh11 =>
  gb (gfR 12 35 zv0 zh11) fun zt12 =>
  gg (gIs 12 zv0 zh11) <|
  gc (f_X12_jobOf N zv0 zv5 2 zh11) fun zt14 zh13 =>
  gb (asI 0 zt12 zv5 (zx7 + zt14) zh13) fun zh15 =>
  gb (gfR 12 35 zv0 zh15) fun zt16 =>
  gb (arI 0 zt16 zv5 zh15) fun zt17 =>
  if (zt17 : Int32) ≤ zv3 then (
  f_X12_doneBy_136 N zk12 zv0 zv1 zx7 zv4 zv3 zh15)
  else (
  gb (gfR 12 35 zv0 zh15) fun zt19 =>
  gb (arI 0 zt19 zv5 zh15) fun zt20 =>
  f_X12_doneBy_136 N zk12 zv0 zv1 zx7 zv4 zt20 zh15)
def f_X12_doneBy_12 (N : Nat) (zk12 : (Nat × Nat × Int32 × Int32 × Int32 × PH) → Option (Int32 × PH)) (zv0 : Nat) (zv1 : Nat) (zv2 : Int32) (zv3 : Int32) (zv4 : Int32) (zh : PH) : Option (Int32 × PH) :=
  gg (gIs 12 zv0 zh) <|
  gc (f_X12_jobs N zv0 zh) fun zt2 zh1 =>
  if (zt2 : Int32) ≤ zv4 then (
  some (zv3, zh1))
  else (
  gb (arI 0 zv1 zv4 zh1) fun zt4 =>
  gg (gIs 12 zv0 zh1) <|
  gc (f_X12_jobOf N zv0 zt4 0 zh1) fun zt6 zh5 =>
  if (zt6 : Int32) ≤ zv2 then (
  f_X12_doneBy_49 N zk12 zv0 zv1 zv3 zv4 zt4 zv2 zh5)
  else (
  gg (gIs 12 zv0 zh5) <|
  gc (f_X12_jobOf N zv0 zt4 0 zh5) fun zt9 zh8 =>
  f_X12_doneBy_49 N zk12 zv0 zv1 zv3 zv4 zt4 zt9 zh8))
def f_X12_doneBy (N : Nat) (za0 : Nat) (za1 : Nat) (zh : PH) : Option (Int32 × PH) :=
  gb (pfV 12 36 za0 (.int 0) zh) fun zh1 =>
  gi (fun zk zs => f_X12_doneBy_12 N zk zs.1 zs.2.1 zs.2.2.1 zs.2.2.2.1 zs.2.2.2.2.1 zs.2.2.2.2.2) N (za0, za1, 0, 0, 0, zh1)
def f_X12_triesJobs_97 (N : Nat) (zF_X12_triesJobs : Nat → Int32 → Int32 → PH → Option PH) (zk62 : (Nat × Int32 × Int32 × Int32 × PH) → Option PH) (zv0 : Nat) (zv1 : Int32) (zv2 : Int32) (zv3 : Int32) (zh : PH) : Option PH :=
  gl (zv3 + 1) fun (zx1 : Int32) =>
  zk62 (zv0, zv1, zv2, zx1, zh)
def f_X12_triesJobs_62 (N : Nat) (zF_X12_triesJobs : Nat → Int32 → Int32 → PH → Option PH) (zk62 : (Nat × Int32 × Int32 × Int32 × PH) → Option PH) (zv0 : Nat) (zv1 : Int32) (zv2 : Int32) (zv3 : Int32) (zh : PH) : Option PH :=
  gg (gIs 12 zv0 zh) <|
  gc (f_X12_jobs N zv0 zh) fun zt2 zh1 =>
  if (zt2 : Int32) ≤ zv3 then (
  some zh1)
  else (
  if (((zv2 >>> (zv3 &&& 31)) &&& 1) : Int32) = 0 then (
  gb (gfR 12 32 zv0 zh1) fun zt5 =>
  gb (asI 0 zt5 zv1 zv3 zh1) fun zh6 =>
  gg (gIs 12 zv0 zh6) <|
  gb (zF_X12_triesJobs zv0 (zv1 + 1) (zv2 ||| (1 <<< (zv3 &&& 31))) zh6) fun zh7 =>
  f_X12_triesJobs_97 N zF_X12_triesJobs zk62 zv0 zv1 zv2 zv3 zh7)
  else (
  f_X12_triesJobs_97 N zF_X12_triesJobs zk62 zv0 zv1 zv2 zv3 zh1))
def f_X12_triesJobs_59 (N : Nat) (zF_X12_triesJobs : Nat → Int32 → Int32 → PH → Option PH) (zh : PH) : Option PH :=
  some zh
def f_X12_triesJobs_33 (N : Nat) (zF_X12_triesJobs : Nat → Int32 → Int32 → PH → Option PH) (zk33 : (Nat × Int32 × Int32 × PH) → Option PH) (zv0 : Nat) (zv1 : Int32) (zv4 : Int32) (zh : PH) : Option PH :=
  if (zv1 : Int32) ≤ zv4 then (
  f_X12_triesJobs_59 N zF_X12_triesJobs  zh)
  else (
  gb (gfR 12 33 zv0 zh) fun zt2 =>
  gb (gfR 12 32 zv0 zh) fun zt3 =>
  gb (arI 0 zt3 zv4 zh) fun zt4 =>
  gb (asI 0 zt2 zv4 zt4 zh) fun zh5 =>
  gl (zv4 + 1) fun (zx6 : Int32) =>
  zk33 (zv0, zv1, zx6, zh5))
def b_X12_triesJobs (N : Nat) (zF_X12_triesJobs : Nat → Int32 → Int32 → PH → Option PH) (za0 : Nat) (za1 : Int32) (za2 : Int32) (zh : PH) : Option PH :=
  gg (gIs 12 za0 zh) <|
  gc (f_X12_jobs N za0 zh) fun zt2 zh1 =>
  if (za1 : Int32) = zt2 then (
  gb (gfR 12 32 za0 zh1) fun zt4 =>
  gg (gIs 12 za0 zh1) <|
  gc (f_X12_doneBy N za0 zt4 zh1) fun zt6 zh5 =>
  gb (gfI 12 37 za0 zh5) fun zt7 =>
  if (zt7 : Int32) ≤ zt6 then (
  f_X12_triesJobs_59 N zF_X12_triesJobs  zh5)
  else (
  gb (pfV 12 37 za0 (.int zt6) zh5) fun zh9 =>
  gi (fun zk zs => f_X12_triesJobs_33 N zF_X12_triesJobs zk zs.1 zs.2.1 zs.2.2.1 zs.2.2.2) N (za0, za1, 0, zh9)))
  else (
  gi (fun zk zs => f_X12_triesJobs_62 N zF_X12_triesJobs zk zs.1 zs.2.1 zs.2.2.1 zs.2.2.2.1 zs.2.2.2.2) N (za0, za1, za2, 0, zh1))
def g_gJ (N : Nat) : Nat → (Nat → Int32 → Int32 → PH → Option PH)
  | 0 => fun _ _ _ _ => none
  | zd + 1 => b_X12_triesJobs N (g_gJ N zd)
def f_X12_triesJobs (N : Nat) (za0 : Nat) (za1 : Int32) (za2 : Int32) (zh : PH) : Option PH := (g_gJ N 16) za0 za1 za2 zh
def f_X12_mostAtOnce_82 (N : Nat) (zk4 : (Nat × Int32 × Int32 × PH) → Option (Int32 × PH)) (zv0 : Nat) (zv2 : Int32) (zs0 : Int32) (zh : PH) : Option (Int32 × PH) :=
  gl (zv2 + 1) fun (zx1 : Int32) =>
  zk4 (zv0, zs0, zx1, zh)
def f_X12_mostAtOnce_64 (N : Nat) (zk4 : (Nat × Int32 × Int32 × PH) → Option (Int32 × PH)) (zk17 : (Nat × Int32 × Int32 × Int32 × Int32 × PH) → Option (Int32 × PH)) (zv0 : Nat) (zv1 : Int32) (zv2 : Int32) (zv4 : Int32) (zs0 : Int32) (zs1 : Int32) (zh : PH) : Option (Int32 × PH) :=
  gl ((zs1 + zs0)) fun (zx1 : Int32) =>
  gl (zv4 + 1) fun (zx2 : Int32) =>
  zk17 (zv0, zv1, zv2, zx1, zx2, zh)
def f_X12_mostAtOnce_63 (N : Nat) (zk4 : (Nat × Int32 × Int32 × PH) → Option (Int32 × PH)) (zk17 : (Nat × Int32 × Int32 × Int32 × Int32 × PH) → Option (Int32 × PH)) (zv0 : Nat) (zv1 : Int32) (zv2 : Int32) (zv4 : Int32) (zs0 : Int32) (zh : PH) : Option (Int32 × PH) :=
  f_X12_mostAtOnce_64 N zk4 zk17 zv0 zv1 zv2 zv4 0 zs0 zh
def f_X12_mostAtOnce_17 (N : Nat) (zk4 : (Nat × Int32 × Int32 × PH) → Option (Int32 × PH)) (zk17 : (Nat × Int32 × Int32 × Int32 × Int32 × PH) → Option (Int32 × PH)) (zv0 : Nat) (zv1 : Int32) (zv2 : Int32) (zv3 : Int32) (zv4 : Int32) (zh : PH) : Option (Int32 × PH) :=
  gg (gIs 12 zv0 zh) <|
  gc (f_X12_jobs N zv0 zh) fun zt2 zh1 =>
  if (zt2 : Int32) ≤ zv4 then (
  if (zv3 : Int32) ≤ zv1 then (
  f_X12_mostAtOnce_82 N zk4 zv0 zv2 zv1 zh1)
  else (
  f_X12_mostAtOnce_82 N zk4 zv0 zv2 zv3 zh1))
  else (
  gb (gfR 12 34 zv0 zh1) fun zt5 =>
  gb (arI 0 zt5 zv4 zh1) fun zt6 =>
  gb (gfR 12 34 zv0 zh1) fun zt7 =>
  gb (arI 0 zt7 zv2 zh1) fun zt8 =>
  if (zt8 : Int32) < zt6 then (
  f_X12_mostAtOnce_63 N zk4 zk17 zv0 zv1 zv2 zv4 zv3 zh1)
  else (
  gb (gfR 12 34 zv0 zh1) fun zt10 =>
  gb (arI 0 zt10 zv2 zh1) fun zt11 =>
  gb (gfR 12 35 zv0 zh1) fun zt12 =>
  gb (arI 0 zt12 zv4 zh1) fun zt13 =>
  if (zt13 : Int32) ≤ zt11 then (
  f_X12_mostAtOnce_63 N zk4 zk17 zv0 zv1 zv2 zv4 zv3 zh1)
  else (
  f_X12_mostAtOnce_64 N zk4 zk17 zv0 zv1 zv2 zv4 1 zv3 zh1)))
def f_X12_mostAtOnce_4 (N : Nat) (zk4 : (Nat × Int32 × Int32 × PH) → Option (Int32 × PH)) (zv0 : Nat) (zv1 : Int32) (zv2 : Int32) (zh : PH) : Option (Int32 × PH) :=
  gg (gIs 12 zv0 zh) <|
  gc (f_X12_jobs N zv0 zh) fun zt2 zh1 =>
  if (zt2 : Int32) ≤ zv2 then (
  some (zv1, zh1))
  else (
  gi (fun zk zs => f_X12_mostAtOnce_17 N zk4 zk zs.1 zs.2.1 zs.2.2.1 zs.2.2.2.1 zs.2.2.2.2.1 zs.2.2.2.2.2) N (zv0, zv1, zv2, 0, 0, zh1))
def f_X12_mostAtOnce (N : Nat) (za0 : Nat) (zh : PH) : Option (Int32 × PH) :=
  gi (fun zk zs => f_X12_mostAtOnce_4 N zk zs.1 zs.2.1 zs.2.2.1 zs.2.2.2) N (za0, 0, 0, zh)
def f_X12_porters_95 (N : Nat) (zs0 : Int32) (zh : PH) : Option (Int32 × PH) :=
  some (zs0, zh)
def f_X12_porters_74 (N : Nat) (zs0 : Int32) (zh : PH) : Option (Int32 × PH) :=
  some (zs0, zh)
def f_X12_porters_59 (N : Nat) (zv0 : Nat) (zv1 : Int32) (zh : PH) : Option (Int32 × PH) :=
  if (zv1 : Int32) = 0 then (
  gb (gfI 12 37 zv0 zh) fun zt3 =>
  f_X12_porters_74 N zt3 zh)
  else (
  gb (gfI 12 36 zv0 zh) fun zt2 =>
  f_X12_porters_74 N zt2 zh)
def f_X12_porters_26 (N : Nat) (zh : PH) : Option (Int32 × PH) :=
  some ((-1), zh)
def f_X12_porters (N : Nat) (za0 : Nat) (za1 : Int32) (zh : PH) : Option (Int32 × PH) :=
  gb (pfV 12 0 za0 (.int 0) zh) fun zh1 =>
  gg (gIs 12 za0 zh1) <|
  gc (f_X12_jobs N za0 zh1) fun zt3 zh2 =>
  if (zt3 : Int32) = 0 then (
  f_X12_porters_26 N  zh2)
  else (
  gg (gIs 12 za0 zh2) <|
  gc (f_X12_jobs N za0 zh2) fun zt6 zh5 =>
  gc (f_X12_within N za1 0 (2 + zt6) zh5) fun zt8 zh7 =>
  if (zt8 : Int32) = 0 then (
  f_X12_porters_26 N  zh7)
  else (
  gb (pfV 12 37 za0 (.int 100000000) zh7) fun zh10 =>
  gg (gIs 12 za0 zh10) <|
  gb (f_X12_triesJobs N za0 0 0 zh10) fun zh11 =>
  gb (gfR 12 33 za0 zh11) fun zt12 =>
  gg (gIs 12 za0 zh11) <|
  gc (f_X12_doneBy N za0 zt12 zh11) fun zt14 zh13 =>
  if (za1 : Int32) = 0 then (
  f_X12_porters_59 N za0 za1 zh13)
  else (
  if (za1 : Int32) = 1 then (
  f_X12_porters_59 N za0 za1 zh13)
  else (
  if (za1 : Int32) = 2 then (
  gg (gIs 12 za0 zh13) <|
  gc (f_X12_mostAtOnce N za0 zh13) fun zt21 zh20 =>
  f_X12_porters_95 N zt21 zh20)
  else (
  gb (gfR 12 33 za0 zh13) fun zt18 =>
  gb (arI 0 zt18 (za1 - 3) zh13) fun zt19 =>
  f_X12_porters_95 N zt19 zh13)))))
def f_X12_told_47 (N : Nat) (zs0 : Int32) (zh : PH) : Option (Int32 × PH) :=
  some (zs0, zh)
def f_X12_told_7 (N : Nat) (zk7 : (Nat × Int32 × PH) → Option (Int32 × PH)) (zv0 : Nat) (zv1 : Int32) (zh : PH) : Option (Int32 × PH) :=
  gg (gIs 12 zv0 zh) <|
  gc (f_X12_jobs N zv0 zh) fun zt2 zh1 =>
  if (zt2 : Int32) ≤ zv1 then (
  gg (gIs 12 zv0 zh1) <|
  gc (f_X12_jobs N zv0 zh1) fun zt5 zh4 =>
  if (zt5 : Int32) = 0 then (
  f_X12_told_47 N (-1) zh4)
  else (
  gb (gfR 12 32 zv0 zh4) fun zt7 =>
  gg (gIs 12 zv0 zh4) <|
  gc (f_X12_doneBy N zv0 zt7 zh4) fun zt9 zh8 =>
  f_X12_told_47 N zt9 zh8))
  else (
  gb (gfR 12 32 zv0 zh1) fun zt10 =>
  gb (asI 0 zt10 zv1 zv1 zh1) fun zh11 =>
  gl (zv1 + 1) fun (zx12 : Int32) =>
  zk7 (zv0, zx12, zh11))
def f_X12_told (N : Nat) (za0 : Nat) (zh : PH) : Option (Int32 × PH) :=
  gb (pfV 12 0 za0 (.int 0) zh) fun zh1 =>
  gi (fun zk zs => f_X12_told_7 N zk zs.1 zs.2.1 zs.2.2) N (za0, 0, zh1)
def f_X12_clear (N : Nat) (za0 : Nat) (zh : PH) : Option (Int32 × PH) :=
  gb (pfV 12 0 za0 (.int 0) zh) fun zh1 =>
  gb (gfR 12 17 za0 zh1) fun zt2 =>
  gb (asI 0 zt2 402 0 zh1) fun zh3 =>
  gb (gfR 12 17 za0 zh3) fun zt4 =>
  gb (asI 0 zt4 473 0 zh3) fun zh5 =>
  gg (gzb 1) (some (1, zh5))
def f_X12_isBooked_35 (N : Nat) (zk4 : (Nat × Int32 × Int32 × Int32 × PH) → Option (Int32 × PH)) (zv0 : Nat) (zv1 : Int32) (zv3 : Int32) (zs0 : Int32) (zh : PH) : Option (Int32 × PH) :=
  gl (zv3 + 1) fun (zx1 : Int32) =>
  zk4 (zv0, zv1, zs0, zx1, zh)
def f_X12_isBooked_30 (N : Nat) (zk4 : (Nat × Int32 × Int32 × Int32 × PH) → Option (Int32 × PH)) (zv0 : Nat) (zv1 : Int32) (zv3 : Int32) (zh : PH) : Option (Int32 × PH) :=
  f_X12_isBooked_35 N zk4 zv0 zv1 zv3 1 zh
def f_X12_isBooked_4 (N : Nat) (zk4 : (Nat × Int32 × Int32 × Int32 × PH) → Option (Int32 × PH)) (zv0 : Nat) (zv1 : Int32) (zv2 : Int32) (zv3 : Int32) (zh : PH) : Option (Int32 × PH) :=
  gg (gIs 12 zv0 zh) <|
  gc (f_X12_booked N zv0 zh) fun zt2 zh1 =>
  if (zt2 : Int32) ≤ zv3 then (
  gg (gzb zv2) (some (zv2, zh1)))
  else (
  if (zv2 : Int32) = 0 then (
  gb (gfR 12 17 zv0 zh1) fun zt5 =>
  gb (arI 0 zt5 (496 + zv3) zh1) fun zt6 =>
  if (zt6 : Int32) = zv1 then (
  f_X12_isBooked_30 N zk4 zv0 zv1 zv3 zh1)
  else (
  f_X12_isBooked_35 N zk4 zv0 zv1 zv3 0 zh1))
  else (
  f_X12_isBooked_30 N zk4 zv0 zv1 zv3 zh1))
def f_X12_isBooked (N : Nat) (za0 : Nat) (za1 : Int32) (zh : PH) : Option (Int32 × PH) :=
  gi (fun zk zs => f_X12_isBooked_4 N zk zs.1 zs.2.1 zs.2.2.1 zs.2.2.2.1 zs.2.2.2.2) N (za0, za1, 0, 0, zh)
abbrev rm_gL (zd : Nat) : Room := { frames := zd + 4, cells := 0, slots := 0, locals := 25 * zd + 88 }
set_option maxHeartbeats 4000000 in
set_option maxRecDepth 100000 in
theorem cg_gL (l : Launch) (E : gE) (N : Nat) : ∀ zd : Nat, (∀ (za0 : Nat) (za1 : Int32) (za2 : Int32) (za3 : Int32) (zh h9 : PH), (g_gL N zd) za0 za1 za2 za3 zh = some h9 → Met l yX12_triesLiars (gWS yX12_triesLiars cX12_triesLiars 6 none) (rm_gL zd) (gPc E [.ref (gB E + za0), .int za1, .int za2, .int za3] zh) (gQv E h9) 0 0 (gA E)) := by
  intro zd
  induction zd with
  | zero => exact (fun _ _ _ _ _ _ hf => by cases hf)
  | succ zd ih =>
    · intro za0 za1 za2 za3 zh h9 hf
      have hf : b_X12_triesLiars N (g_gL N zd) za0 za1 za2 za3 zh = some h9 := hf
      refine gx_met (by decide) ?_ rfl
      intro p e s m below meth c X hr hlk hin2 hw
      have hx := X.1.1
      have hb := X.1.2.1
      have hl := lv_entry [.ref (gB E + za0), .int za1, .int za2, .int za3] (n := 6) (Nat.le_of_ble_eq_true rfl)
      rw [lg_entry_eq]
      generalize (lg_sl [.ref (gB E + za0), .int za1, .int za2, .int za3] ++ List.replicate (6 - (lg_sl [.ref (gB E + za0), .int za1, .int za2, .int za3]).length) Slot.unset).toArray = ls at hl ⊢
      have hl : lv_has ls 6 [(0, .ref (gB E + za0)), (1, .int za1), (2, .int za2), (3, .int za3)] := hl
      have J_90 : ∀ (zv0 : Nat) (zv1 : Int32) (zv2 : Int32) (zv3 : Int32) (zh : PH) (H : Heap) (locs : List Loc) (ls : Array Slot), f_X12_triesLiars_90 N (g_gL N zd) zv0 zv1 zv2 zv3 zh = some h9 → gw E s zh H locs → lv_has ls 6 [(0, .ref (gB E + zv0)), (1, .int zv1), (2, .int zv2), (3, .int zv3)] → W p l e (rm_gL (zd + 1)) s m [.ref (gB E + za0), .int za1, .int za2, .int za3].toArray below meth c H locs 0 0 (MQ below (gQv E h9) [.ref (gB E + za0), .int za1, .int za2, .int za3].toArray s 0 0 (gA E)) (F0 m 90 ls []) := by
        intro zv0 zv1 zv2 zv3 zh H locs ls hf hw hl
        unfold f_X12_triesLiars_90 at hf
        refine lv_aload_n hx hb dX12_triesLiars_90 rfl (lv_at hl 0 rfl) ?_
        refine lv_iload_n hx hb dX12_triesLiars_91 rfl (lv_at hl 1 rfl) ?_
        refine lv_iconst (v := 1) hx hb dX12_triesLiars_92 (by decide) ?_
        refine lv_iadd hx hb dX12_triesLiars_93 ?_
        refine lv_iload_n hx hb dX12_triesLiars_94 rfl (lv_at hl 2 rfl) ?_
        refine lv_iload_n hx hb dX12_triesLiars_95 rfl (lv_at hl 3 rfl) ?_
        refine lv_iconst (v := 1) hx hb dX12_triesLiars_96 (by decide) ?_
        refine lv_iadd hx hb dX12_triesLiars_97 ?_
        obtain ⟨qizh1, hf⟩ := gg_el hf
        obtain ⟨zh1, qzh1, hf⟩ := gb_el hf
        refine gx_kv (gx_runV (As := [.int (zv1 + 1), .int zv2, .int (zv3 + 1)]) (rest := []) X hw (ih zv0 (zv1 + 1) zv2 (zv3 + 1) zh _ qzh1) kX12_triesLiars mm_X12_369 qizh1 clX12 ⟨by dsimp only [rm_gL]; omega, by dsimp only [rm_gL]; omega⟩ rfl rfl rfl hl.1 (Nat.le_of_ble_eq_true rfl) rfl dX12_triesLiars_98 ⟨Nat.le_of_ble_eq_true rfl, Nat.le_of_ble_eq_true rfl⟩) hw (fun H locs hw => ?_)
        refine W.eq (g2 := F0 m 101 ls []) rfl ?_
        exact gx_vret X hr hlk hw hf dX12_triesLiars_101
      have L_29 : ∀ (zn29 : Nat) (zv0 : Nat) (zv1 : Int32) (zv2 : Int32) (zv3 : Int32) (zv4 : Int32) (zv5 : Int32) (zh : PH) (H : Heap) (locs : List Loc) (ls : Array Slot), gi (fun zk zs => f_X12_triesLiars_29 N (g_gL N zd) zk zs.1 zs.2.1 zs.2.2.1 zs.2.2.2.1 zs.2.2.2.2.1 zs.2.2.2.2.2.1 zs.2.2.2.2.2.2) zn29 (zv0, zv1, zv2, zv3, zv4, zv5, zh) = some h9 → gw E s zh H locs → lv_has ls 6 [(0, .ref (gB E + zv0)), (1, .int zv1), (2, .int zv2), (3, .int zv3), (4, .int zv4), (5, .int zv5)] → W p l e (rm_gL (zd + 1)) s m [.ref (gB E + za0), .int za1, .int za2, .int za3].toArray below meth c H locs 0 0 (MQ below (gQv E h9) [.ref (gB E + za0), .int za1, .int za2, .int za3].toArray s 0 0 (gA E)) (F0 m 29 ls []) := by
        intro zn29
        induction zn29 with
        | zero =>
          intro zv0 zv1 zv2 zv3 zv4 zv5 zh H locs ls hf
          cases hf
        | succ zn29 ih_29 =>
          have J_64 : ∀ (zv0 : Nat) (zv1 : Int32) (zv2 : Int32) (zv3 : Int32) (zv5 : Int32) (zs0 : Int32) (zh : PH) (H : Heap) (locs : List Loc) (ls : Array Slot), f_X12_triesLiars_64 N (g_gL N zd) (gi (fun zk zs => f_X12_triesLiars_29 N (g_gL N zd) zk zs.1 zs.2.1 zs.2.2.1 zs.2.2.2.1 zs.2.2.2.2.1 zs.2.2.2.2.2.1 zs.2.2.2.2.2.2) zn29) zv0 zv1 zv2 zv3 zv5 zs0 zh = some h9 → gw E s zh H locs → lv_has ls 6 [(0, .ref (gB E + zv0)), (1, .int zv1), (2, .int zv2), (3, .int zv3), (5, .int zv5)] → W p l e (rm_gL (zd + 1)) s m [.ref (gB E + za0), .int za1, .int za2, .int za3].toArray below meth c H locs 0 0 (MQ below (gQv E h9) [.ref (gB E + za0), .int za1, .int za2, .int za3].toArray s 0 0 (gA E)) (F0 m 64 ls [.int zs0]) := by
            intro zv0 zv1 zv2 zv3 zv5 zs0 zh H locs ls hf hw hl
            unfold f_X12_triesLiars_64 at hf
            refine lv_istore (lv' := [(4, .int zs0), (0, .ref (gB E + zv0)), (1, .int zv1), (2, .int zv2), (3, .int zv3), (5, .int zv5)]) hx hb dX12_triesLiars_64 hl (by decide) rfl (fun ls hl => ?_)
            obtain ⟨zx1, ezx1⟩ : ∃ y : Int32, y = zv5 + 1 := ⟨_, rfl⟩
            have hf := gl_el hf ezx1
            refine lv_iinc (v := zx1) (lv' := [(5, .int zx1), (4, .int zs0), (0, .ref (gB E + zv0)), (1, .int zv1), (2, .int zv2), (3, .int zv3)]) hx hb dX12_triesLiars_66 hl (k := 5) rfl (by rw [ezx1]; rfl) (by decide) rfl (fun ls hl => ?_)
            refine lv_goto (tgt := 29) hx hb dX12_triesLiars_69 (by decide) ?_
            exact ih_29 zv0 zv1 zv2 zv3 zs0 zx1 _ _ _ ls hf hw (lv_sub hl [2, 3, 4, 5, 1, 0] rfl)
          have J_63 : ∀ (zv0 : Nat) (zv1 : Int32) (zv2 : Int32) (zv3 : Int32) (zv5 : Int32) (zh : PH) (H : Heap) (locs : List Loc) (ls : Array Slot), f_X12_triesLiars_63 N (g_gL N zd) (gi (fun zk zs => f_X12_triesLiars_29 N (g_gL N zd) zk zs.1 zs.2.1 zs.2.2.1 zs.2.2.2.1 zs.2.2.2.2.1 zs.2.2.2.2.2.1 zs.2.2.2.2.2.2) zn29) zv0 zv1 zv2 zv3 zv5 zh = some h9 → gw E s zh H locs → lv_has ls 6 [(0, .ref (gB E + zv0)), (1, .int zv1), (2, .int zv2), (3, .int zv3), (5, .int zv5)] → W p l e (rm_gL (zd + 1)) s m [.ref (gB E + za0), .int za1, .int za2, .int za3].toArray below meth c H locs 0 0 (MQ below (gQv E h9) [.ref (gB E + za0), .int za1, .int za2, .int za3].toArray s 0 0 (gA E)) (F0 m 63 ls []) := by
            intro zv0 zv1 zv2 zv3 zv5 zh H locs ls hf hw hl
            unfold f_X12_triesLiars_63 at hf
            refine lv_iconst (v := 0) hx hb dX12_triesLiars_63 (by decide) ?_
            exact J_64 zv0 zv1 zv2 zv3 zv5 0 _ _ _ ls hf hw (lv_sub hl [0, 1, 2, 3, 4] rfl)
          have J_59 : ∀ (zv0 : Nat) (zv1 : Int32) (zv2 : Int32) (zv3 : Int32) (zv5 : Int32) (zh : PH) (H : Heap) (locs : List Loc) (ls : Array Slot), f_X12_triesLiars_59 N (g_gL N zd) (gi (fun zk zs => f_X12_triesLiars_29 N (g_gL N zd) zk zs.1 zs.2.1 zs.2.2.1 zs.2.2.2.1 zs.2.2.2.2.1 zs.2.2.2.2.2.1 zs.2.2.2.2.2.2) zn29) zv0 zv1 zv2 zv3 zv5 zh = some h9 → gw E s zh H locs → lv_has ls 6 [(0, .ref (gB E + zv0)), (1, .int zv1), (2, .int zv2), (3, .int zv3), (5, .int zv5)] → W p l e (rm_gL (zd + 1)) s m [.ref (gB E + za0), .int za1, .int za2, .int za3].toArray below meth c H locs 0 0 (MQ below (gQv E h9) [.ref (gB E + za0), .int za1, .int za2, .int za3].toArray s 0 0 (gA E)) (F0 m 59 ls []) := by
            intro zv0 zv1 zv2 zv3 zv5 zh H locs ls hf hw hl
            unfold f_X12_triesLiars_59 at hf
            refine lv_iconst (v := 1) hx hb dX12_triesLiars_59 (by decide) ?_
            refine lv_goto (tgt := 64) hx hb dX12_triesLiars_60 (by decide) ?_
            exact J_64 zv0 zv1 zv2 zv3 zv5 1 _ _ _ ls hf hw (lv_sub hl [0, 1, 2, 3, 4] rfl)
          intro zv0 zv1 zv2 zv3 zv4 zv5 zh H locs ls hf hw hl
          have hf := gi_s hf
          dsimp only at hf
          unfold f_X12_triesLiars_29 at hf
          refine lv_iload hx hb dX12_triesLiars_29 (lv_at hl 5 rfl) ?_
          refine lv_iload_n hx hb dX12_triesLiars_31 rfl (lv_at hl 1 rfl) ?_
          refine lv_icmp_ge (tgt := 72) hx hb dX12_triesLiars_32 (by decide) (fun qc1 => ?_) (fun qc1 => ?_)
          · have hf := gif_t hf qc1
            refine lv_iload hx hb dX12_triesLiars_72 (lv_at hl 4 rfl) ?_
            refine lv_if_eq (tgt := 90) hx hb dX12_triesLiars_74 (by decide) (fun qc2 => ?_) (fun qc2 => ?_)
            · have hf := gif_t hf qc2
              exact J_90 zv0 zv1 zv2 zv3 _ _ _ ls hf hw (lv_sub hl [0, 1, 2, 3] rfl)
            · have hf := gif_f hf qc2
              refine lv_aload_n hx hb dX12_triesLiars_77 rfl (lv_at hl 0 rfl) ?_
              refine lv_iload_n hx hb dX12_triesLiars_78 rfl (lv_at hl 1 rfl) ?_
              refine lv_iconst (v := 1) hx hb dX12_triesLiars_79 (by decide) ?_
              refine lv_iadd hx hb dX12_triesLiars_80 ?_
              refine W.eq (g2 := F0 m 81 ls [.int (zv1 + 1), .ref (gB E + zv0)]) rfl ?_
              refine lv_iload_n hx hb dX12_triesLiars_81 rfl (lv_at hl 2 rfl) ?_
              refine lv_iconst (v := 1) hx hb dX12_triesLiars_82 (by decide) ?_
              refine lv_iload_n hx hb dX12_triesLiars_83 rfl (lv_at hl 1 rfl) ?_
              refine lv_ishl hx hb dX12_triesLiars_84 ?_
              refine lv_ior hx hb dX12_triesLiars_85 ?_
              refine lv_iload_n hx hb dX12_triesLiars_86 rfl (lv_at hl 3 rfl) ?_
              obtain ⟨qizh3, hf⟩ := gg_el hf
              obtain ⟨zh3, qzh3, hf⟩ := gb_el hf
              refine gx_kv (gx_runV (As := [.int (zv1 + 1), .int (zv2 ||| (1 <<< (zv1 &&& 31))), .int zv3]) (rest := []) X hw (ih zv0 (zv1 + 1) (zv2 ||| (1 <<< (zv1 &&& 31))) zv3 zh _ qzh3) kX12_triesLiars mm_X12_369 qizh3 clX12 ⟨by dsimp only [rm_gL]; omega, by dsimp only [rm_gL]; omega⟩ rfl rfl rfl hl.1 (Nat.le_of_ble_eq_true rfl) rfl dX12_triesLiars_87 ⟨Nat.le_of_ble_eq_true rfl, Nat.le_of_ble_eq_true rfl⟩) hw (fun H locs hw => ?_)
              exact J_90 zv0 zv1 zv2 zv3 _ _ _ ls hf hw (lv_sub hl [0, 1, 2, 3] rfl)
          · have hf := gif_f hf qc1
            refine lv_iload hx hb dX12_triesLiars_35 (lv_at hl 4 rfl) ?_
            refine lv_if_eq (tgt := 63) hx hb dX12_triesLiars_37 (by decide) (fun qc4 => ?_) (fun qc4 => ?_)
            · have hf := gif_t hf qc4
              exact J_63 zv0 zv1 zv2 zv3 zv5 _ _ _ ls hf hw (lv_sub hl [0, 1, 2, 3, 5] rfl)
            · have hf := gif_f hf qc4
              refine lv_iload_n hx hb dX12_triesLiars_40 rfl (lv_at hl 2 rfl) ?_
              refine lv_iload hx hb dX12_triesLiars_41 (lv_at hl 5 rfl) ?_
              refine lv_ishr hx hb dX12_triesLiars_43 ?_
              refine lv_iconst (v := 1) hx hb dX12_triesLiars_44 (by decide) ?_
              refine W.eq (g2 := F0 m 45 ls [.int 1, .int (zv2 >>> (zv5 &&& 31))]) rfl ?_
              refine lv_iand hx hb dX12_triesLiars_45 ?_
              refine lv_if_eq (tgt := 59) hx hb dX12_triesLiars_46 (by decide) (fun qc5 => ?_) (fun qc5 => ?_)
              · have hf := gif_t hf qc5
                exact J_59 zv0 zv1 zv2 zv3 zv5 _ _ _ ls hf hw (lv_sub hl [0, 1, 2, 3, 5] rfl)
              · have hf := gif_f hf qc5
                refine lv_aload_n hx hb dX12_triesLiars_49 rfl (lv_at hl 0 rfl) ?_
                refine lv_iload hx hb dX12_triesLiars_50 (lv_at hl 5 rfl) ?_
                refine lv_iload_n hx hb dX12_triesLiars_52 rfl (lv_at hl 1 rfl) ?_
                obtain ⟨qizh6, hf⟩ := gg_el hf
                obtain ⟨zt7, zh6, qzh6, hf⟩ := gc_el hf
                refine gx_ki (gx_runV (As := [.int zv5, .int zv1]) (rest := []) X hw (c_X12_areUnlike l E N zv0 zv5 zv1 zh qzh6) kX12_areUnlike mm_X12_365 qizh6 clX12 ⟨by dsimp only [rm_gL, rm_X12_areUnlike]; omega, by dsimp only [rm_gL, rm_X12_areUnlike]; omega⟩ rfl rfl rfl hl.1 (Nat.le_of_ble_eq_true rfl) rfl dX12_triesLiars_53 ⟨Nat.le_of_ble_eq_true rfl, Nat.le_of_ble_eq_true rfl⟩) hw (fun H locs hw => ?_)
                refine lv_if_ne (tgt := 63) hx hb dX12_triesLiars_56 (by decide) (fun qc8 => ?_) (fun qc8 => ?_)
                · have hf := gif_f hf qc8
                  exact J_63 zv0 zv1 zv2 zv3 zv5 _ _ _ ls hf hw (lv_sub hl [0, 1, 2, 3, 5] rfl)
                · have hf := gif_t hf qc8
                  exact J_59 zv0 zv1 zv2 zv3 zv5 _ _ _ ls hf hw (lv_sub hl [0, 1, 2, 3, 5] rfl)
      unfold b_X12_triesLiars at hf
      refine lv_iload_n hx hb dX12_triesLiars_0 rfl (lv_at hl 3 rfl) ?_
      refine lv_aload_n hx hb dX12_triesLiars_1 rfl (lv_at hl 0 rfl) ?_
      obtain ⟨zt1, qzt1, hf⟩ := gb_el hf
      refine gx_getI X hw qzt1 clX12 (by decide) mf_X12_362 dX12_triesLiars_2 ?_
      refine lv_icmp_lt (tgt := 9) hx hb dX12_triesLiars_5 (by decide) (fun qc2 => ?_) (fun qc2 => ?_)
      · have hf := gif_t hf qc2
        refine lv_iload_n hx hb dX12_triesLiars_9 rfl (lv_at hl 1 rfl) ?_
        refine lv_aload_n hx hb dX12_triesLiars_10 rfl (lv_at hl 0 rfl) ?_
        obtain ⟨qizh3, hf⟩ := gg_el hf
        obtain ⟨zt4, zh3, qzh3, hf⟩ := gc_el hf
        refine gx_ki (gx_runV (As := []) (rest := [.int za1]) X hw (c_X12_sights l E N za0 zh qzh3) kX12_sights mm_X12_350 qizh3 clX12 ⟨by dsimp only [rm_gL, rm_X12_sights]; omega, by dsimp only [rm_gL, rm_X12_sights]; omega⟩ rfl rfl rfl hl.1 (Nat.le_of_ble_eq_true rfl) rfl dX12_triesLiars_11 ⟨Nat.le_of_ble_eq_true rfl, Nat.le_of_ble_eq_true rfl⟩) hw (fun H locs hw => ?_)
        refine lv_icmp_ne (tgt := 23) hx hb dX12_triesLiars_14 (by decide) (fun qc5 => ?_) (fun qc5 => ?_)
        · have hf := gif_f hf qc5
          refine lv_iconst (v := 1) hx hb dX12_triesLiars_23 (by decide) ?_
          refine W.eq (g2 := F0 m 24 ls [.int 1]) rfl ?_
          refine lv_istore (lv' := [(4, .int 1), (0, .ref (gB E + za0)), (1, .int za1), (2, .int za2), (3, .int za3)]) hx hb dX12_triesLiars_24 hl (by decide) rfl (fun ls hl => ?_)
          refine lv_iconst (v := 0) hx hb dX12_triesLiars_26 (by decide) ?_
          refine lv_istore (lv' := [(5, .int 0), (4, .int 1), (0, .ref (gB E + za0)), (1, .int za1), (2, .int za2), (3, .int za3)]) hx hb dX12_triesLiars_27 hl (by decide) rfl (fun ls hl => ?_)
          exact L_29 N za0 za1 za2 za3 1 0 _ _ _ ls hf hw (lv_sub hl [2, 3, 4, 5, 1, 0] rfl)
        · have hf := gif_t hf qc5
          refine lv_aload_n hx hb dX12_triesLiars_17 rfl (lv_at hl 0 rfl) ?_
          refine W.eq (g2 := F0 m 18 ls [.ref (gB E + za0)]) rfl ?_
          refine lv_iload_n hx hb dX12_triesLiars_18 rfl (lv_at hl 3 rfl) ?_
          obtain ⟨zh6, qzh6, hf⟩ := gb_el hf
          refine gx_putV X hw qzh6 clX12 (by decide) mf_X12_362 rfl rfl rfl dX12_triesLiars_19 (fun H locs hw => ?_)
          exact gx_vret X hr hlk hw hf dX12_triesLiars_22
      · have hf := gif_f hf qc2
        exact gx_vret X hr hlk hw hf dX12_triesLiars_8
abbrev rm_X12_triesLiars : Room := { frames := 36, cells := 0, slots := 0, locals := 888 }
theorem c_X12_triesLiars (l : Launch) (E : gE) (N : Nat) (za0 : Nat) (za1 : Int32) (za2 : Int32) (za3 : Int32) (zh : PH) {h9 : PH} (hf : f_X12_triesLiars N za0 za1 za2 za3 zh = some h9) : Met l yX12_triesLiars (gWS yX12_triesLiars cX12_triesLiars 6 none) rm_X12_triesLiars (gPc E [.ref (gB E + za0), .int za1, .int za2, .int za3] zh) (gQv E h9) 0 0 (gA E) := (cg_gL l E N 32) za0 za1 za2 za3 zh _ hf
abbrev rm_X12_liars : Room := { frames := 37, cells := 0, slots := 0, locals := 913 }
set_option maxHeartbeats 4000000 in
set_option maxRecDepth 100000 in
theorem c_X12_liars (l : Launch) (E : gE) (N : Nat) (za0 : Nat) (zh : PH) {h9 : PH} {r9 : Int32} (hf : f_X12_liars N za0 zh = some (r9, h9)) : Met l yX12_liars (gWS yX12_liars cX12_liars 1 (some .int)) rm_X12_liars (gPc E [.ref (gB E + za0)] zh) (gQi E r9 h9) 0 0 (gA E) := by
  refine gx_met (by decide) ?_ rfl
  intro p e s m below meth c X hr hlk hin2 hw
  have hx := X.1.1
  have hb := X.1.2.1
  have hl := lv_entry [.ref (gB E + za0)] (n := 1) (Nat.le_of_ble_eq_true rfl)
  rw [lg_entry_eq]
  generalize (lg_sl [.ref (gB E + za0)] ++ List.replicate (1 - (lg_sl [.ref (gB E + za0)]).length) Slot.unset).toArray = ls at hl ⊢
  have hl : lv_has ls 1 [(0, .ref (gB E + za0))] := hl
  unfold f_X12_liars at hf
  refine lv_aload_n hx hb dX12_liars_0 rfl (lv_at hl 0 rfl) ?_
  refine lv_iconst (v := 0) hx hb dX12_liars_1 (by decide) ?_
  obtain ⟨zh1, qzh1, hf⟩ := gb_el hf
  refine gx_putV X hw qzh1 clX12 (by decide) mf_X12_1 rfl rfl rfl dX12_liars_2 (fun H locs hw => ?_)
  refine lv_aload_n hx hb dX12_liars_5 rfl (lv_at hl 0 rfl) ?_
  refine lv_ldcw (v := 100000000) hx hb X.1.2.2.2.1 (X.1.2.2.2.2 _ mk_X12_346) dX12_liars_6 ?_
  obtain ⟨zh2, qzh2, hf⟩ := gb_el hf
  refine gx_putV X hw qzh2 clX12 (by decide) mf_X12_362 rfl rfl rfl dX12_liars_9 (fun H locs hw => ?_)
  refine lv_aload_n hx hb dX12_liars_12 rfl (lv_at hl 0 rfl) ?_
  refine lv_iconst (v := 0) hx hb dX12_liars_13 (by decide) ?_
  refine lv_iconst (v := 0) hx hb dX12_liars_14 (by decide) ?_
  refine W.eq (g2 := F0 m 15 ls [.int 0, .int 0, .ref (gB E + za0)]) rfl ?_
  refine lv_iconst (v := 0) hx hb dX12_liars_15 (by decide) ?_
  obtain ⟨qizh3, hf⟩ := gg_el hf
  obtain ⟨zh3, qzh3, hf⟩ := gb_el hf
  refine gx_kv (gx_runV (As := [.int 0, .int 0, .int 0]) (rest := []) X hw (c_X12_triesLiars l E N za0 0 0 0 zh2 qzh3) kX12_triesLiars mm_X12_369 qizh3 clX12 ⟨Nat.le_of_ble_eq_true rfl, Nat.le_of_ble_eq_true rfl⟩ rfl rfl rfl hl.1 (Nat.le_of_ble_eq_true rfl) rfl dX12_liars_16 ⟨Nat.le_of_ble_eq_true rfl, Nat.le_of_ble_eq_true rfl⟩) hw (fun H locs hw => ?_)
  refine lv_aload_n hx hb dX12_liars_19 rfl (lv_at hl 0 rfl) ?_
  obtain ⟨zt4, qzt4, hf⟩ := gb_el hf
  refine gx_getI X hw qzt4 clX12 (by decide) mf_X12_362 dX12_liars_20 ?_
  exact gx_iret X hr hlk hw hf dX12_liars_23
abbrev rm_X12_pageOf : Room := { frames := 0, cells := 0, slots := 0, locals := 0 }
set_option maxHeartbeats 4000000 in
set_option maxRecDepth 100000 in
theorem c_X12_pageOf (l : Launch) (E : gE) (N : Nat) (za0 : Nat) (za1 : Int32) (zh : PH) {h9 : PH} {r9 : Int32} (hf : f_X12_pageOf N za0 za1 zh = some (r9, h9)) : Met l yX12_pageOf (gWS yX12_pageOf cX12_pageOf 2 (some .int)) rm_X12_pageOf (gPc E [.ref (gB E + za0), .int za1] zh) (gQi E r9 h9) 0 0 (gA E) := by
  refine gx_met (by decide) ?_ rfl
  intro p e s m below meth c X hr hlk hin2 hw
  have hx := X.1.1
  have hb := X.1.2.1
  have hl := lv_entry [.ref (gB E + za0), .int za1] (n := 2) (Nat.le_of_ble_eq_true rfl)
  rw [lg_entry_eq]
  generalize (lg_sl [.ref (gB E + za0), .int za1] ++ List.replicate (2 - (lg_sl [.ref (gB E + za0), .int za1]).length) Slot.unset).toArray = ls at hl ⊢
  have hl : lv_has ls 2 [(0, .ref (gB E + za0)), (1, .int za1)] := hl
  unfold f_X12_pageOf at hf
  refine lv_aload_n hx hb dX12_pageOf_0 rfl (lv_at hl 0 rfl) ?_
  obtain ⟨zt1, qzt1, hf⟩ := gb_el hf
  refine gx_getR X hw qzt1 clX12 (by decide) mf_X12_83 dX12_pageOf_1 ?_
  refine lv_sipush (v := 463) hx hb dX12_pageOf_4 (by decide) ?_
  refine lv_iload_n hx hb dX12_pageOf_7 rfl (lv_at hl 1 rfl) ?_
  refine lv_iadd hx hb dX12_pageOf_8 ?_
  obtain ⟨zt2, qzt2, hf⟩ := gb_el hf
  refine gx_iald X hw qzt2 dX12_pageOf_9 ?_
  exact gx_iret X hr hlk hw hf dX12_pageOf_10
abbrev rm_X12_pages : Room := { frames := 1, cells := 0, slots := 0, locals := 21 }
set_option maxHeartbeats 4000000 in
set_option maxRecDepth 100000 in
theorem c_X12_pages (l : Launch) (E : gE) (N : Nat) (za0 : Nat) (zh : PH) {h9 : PH} {r9 : Int32} (hf : f_X12_pages N za0 zh = some (r9, h9)) : Met l yX12_pages (gWS yX12_pages cX12_pages 3 (some .int)) rm_X12_pages (gPc E [.ref (gB E + za0)] zh) (gQi E r9 h9) 0 0 (gA E) := by
  refine gx_met (by decide) ?_ rfl
  intro p e s m below meth c X hr hlk hin2 hw
  have hx := X.1.1
  have hb := X.1.2.1
  have hl := lv_entry [.ref (gB E + za0)] (n := 3) (Nat.le_of_ble_eq_true rfl)
  rw [lg_entry_eq]
  generalize (lg_sl [.ref (gB E + za0)] ++ List.replicate (3 - (lg_sl [.ref (gB E + za0)]).length) Slot.unset).toArray = ls at hl ⊢
  have hl : lv_has ls 3 [(0, .ref (gB E + za0))] := hl
  have L_4 : ∀ (zn4 : Nat) (zv0 : Nat) (zv1 : Int32) (zv2 : Int32) (zh : PH) (H : Heap) (locs : List Loc) (ls : Array Slot), gi (fun zk zs => f_X12_pages_4 N zk zs.1 zs.2.1 zs.2.2.1 zs.2.2.2) zn4 (zv0, zv1, zv2, zh) = some (r9, h9) → gw E s zh H locs → lv_has ls 3 [(0, .ref (gB E + zv0)), (1, .int zv1), (2, .int zv2)] → W p l e rm_X12_pages s m [.ref (gB E + za0)].toArray below meth c H locs 0 0 (MQ below (gQi E r9 h9) [.ref (gB E + za0)].toArray s 0 0 (gA E)) (F0 m 4 ls []) := by
    intro zn4
    induction zn4 with
    | zero =>
      intro zv0 zv1 zv2 zh H locs ls hf
      cases hf
    | succ zn4 ih_4 =>
      have J_26 : ∀ (zv0 : Nat) (zv2 : Int32) (zs0 : Int32) (zs1 : Int32) (zh : PH) (H : Heap) (locs : List Loc) (ls : Array Slot), f_X12_pages_26 N (gi (fun zk zs => f_X12_pages_4 N zk zs.1 zs.2.1 zs.2.2.1 zs.2.2.2) zn4) zv0 zv2 zs0 zs1 zh = some (r9, h9) → gw E s zh H locs → lv_has ls 3 [(0, .ref (gB E + zv0)), (2, .int zv2)] → W p l e rm_X12_pages s m [.ref (gB E + za0)].toArray below meth c H locs 0 0 (MQ below (gQi E r9 h9) [.ref (gB E + za0)].toArray s 0 0 (gA E)) (F0 m 26 ls [.int zs0, .int zs1]) := by
        intro zv0 zv2 zs0 zs1 zh H locs ls hf hw hl
        unfold f_X12_pages_26 at hf
        refine lv_iadd hx hb dX12_pages_26 ?_
        refine lv_topi (fun zx1 ezx1 => ?_)
        have hf := gl_el hf ezx1
        refine lv_istore_n (lv' := [(1, .int zx1), (0, .ref (gB E + zv0)), (2, .int zv2)]) hx hb dX12_pages_27 rfl hl (by decide) rfl (fun ls hl => ?_)
        obtain ⟨zx2, ezx2⟩ : ∃ y : Int32, y = zv2 + 1 := ⟨_, rfl⟩
        have hf := gl_el hf ezx2
        refine lv_iinc (v := zx2) (lv' := [(2, .int zx2), (1, .int zx1), (0, .ref (gB E + zv0))]) hx hb dX12_pages_28 hl (k := 2) rfl (by rw [ezx2]; rfl) (by decide) rfl (fun ls hl => ?_)
        refine lv_goto (tgt := 4) hx hb dX12_pages_31 (by decide) ?_
        exact ih_4 zv0 zx1 zx2 _ _ _ ls hf hw (lv_sub hl [2, 1, 0] rfl)
      intro zv0 zv1 zv2 zh H locs ls hf hw hl
      have hf := gi_s hf
      dsimp only at hf
      unfold f_X12_pages_4 at hf
      refine lv_iload_n hx hb dX12_pages_4 rfl (lv_at hl 2 rfl) ?_
      refine lv_aload_n hx hb dX12_pages_5 rfl (lv_at hl 0 rfl) ?_
      obtain ⟨qizh1, hf⟩ := gg_el hf
      obtain ⟨zt2, zh1, qzh1, hf⟩ := gc_el hf
      refine gx_ki (gx_runV (As := []) (rest := [.int zv2]) X hw (c_X12_guests l E N zv0 zh qzh1) kX12_guests mm_X12_234 qizh1 clX12 ⟨Nat.le_of_ble_eq_true rfl, Nat.le_of_ble_eq_true rfl⟩ rfl rfl rfl hl.1 (Nat.le_of_ble_eq_true rfl) rfl dX12_pages_6 ⟨Nat.le_of_ble_eq_true rfl, Nat.le_of_ble_eq_true rfl⟩) hw (fun H locs hw => ?_)
      refine lv_icmp_ge (tgt := 34) hx hb dX12_pages_9 (by decide) (fun qc3 => ?_) (fun qc3 => ?_)
      · have hf := gif_t hf qc3
        refine lv_iload_n hx hb dX12_pages_34 rfl (lv_at hl 1 rfl) ?_
        exact gx_iret X hr hlk hw hf dX12_pages_35
      · have hf := gif_f hf qc3
        refine lv_iload_n hx hb dX12_pages_12 rfl (lv_at hl 1 rfl) ?_
        refine lv_aload_n hx hb dX12_pages_13 rfl (lv_at hl 0 rfl) ?_
        refine lv_iload_n hx hb dX12_pages_14 rfl (lv_at hl 2 rfl) ?_
        obtain ⟨qizh4, hf⟩ := gg_el hf
        obtain ⟨zt5, zh4, qzh4, hf⟩ := gc_el hf
        refine gx_ki (gx_runV (As := [.int zv2]) (rest := [.int zv1]) X hw (c_X12_pageOf l E N zv0 zv2 zh1 qzh4) kX12_pageOf mm_X12_372 qizh4 clX12 ⟨Nat.le_of_ble_eq_true rfl, Nat.le_of_ble_eq_true rfl⟩ rfl rfl rfl hl.1 (Nat.le_of_ble_eq_true rfl) rfl dX12_pages_15 ⟨Nat.le_of_ble_eq_true rfl, Nat.le_of_ble_eq_true rfl⟩) hw (fun H locs hw => ?_)
        refine lv_if_le (tgt := 25) hx hb dX12_pages_18 (by decide) (fun qc6 => ?_) (fun qc6 => ?_)
        · have hf := gif_t hf qc6
          refine W.eq (g2 := F0 m 25 ls [.int zv1]) rfl ?_
          refine lv_iconst (v := 0) hx hb dX12_pages_25 (by decide) ?_
          exact J_26 zv0 zv2 0 zv1 _ _ _ ls hf hw (lv_sub hl [0, 2] rfl)
        · have hf := gif_f hf qc6
          refine W.eq (g2 := F0 m 21 ls [.int zv1]) rfl ?_
          refine lv_iconst (v := 1) hx hb dX12_pages_21 (by decide) ?_
          refine lv_goto (tgt := 26) hx hb dX12_pages_22 (by decide) ?_
          exact J_26 zv0 zv2 1 zv1 _ _ _ ls hf hw (lv_sub hl [0, 2] rfl)
  unfold f_X12_pages at hf
  refine lv_iconst (v := 0) hx hb dX12_pages_0 (by decide) ?_
  refine lv_istore_n (lv' := [(1, .int 0), (0, .ref (gB E + za0))]) hx hb dX12_pages_1 rfl hl (by decide) rfl (fun ls hl => ?_)
  refine lv_iconst (v := 0) hx hb dX12_pages_2 (by decide) ?_
  refine lv_istore_n (lv' := [(2, .int 0), (1, .int 0), (0, .ref (gB E + za0))]) hx hb dX12_pages_3 rfl hl (by decide) rfl (fun ls hl => ?_)
  exact L_4 N za0 0 0 _ _ _ ls hf hw (lv_sub hl [2, 1, 0] rfl)
abbrev rm_X12_page : Room := { frames := 2, cells := 0, slots := 0, locals := 43 }
set_option maxHeartbeats 4000000 in
set_option maxRecDepth 100000 in
theorem c_X12_page (l : Launch) (E : gE) (N : Nat) (za0 : Nat) (za1 : Int32) (za2 : Int32) (zh : PH) {h9 : PH} {r9 : Int32} (hf : f_X12_page N za0 za1 za2 zh = some (r9, h9)) : Met l yX12_page (gWS yX12_page cX12_page 3 (some .int)) rm_X12_page (gPc E [.ref (gB E + za0), .int za1, .int za2] zh) (gQi E r9 h9) 0 0 (gA E) := by
  refine gx_met (by decide) ?_ rfl
  intro p e s m below meth c X hr hlk hin2 hw
  have hx := X.1.1
  have hb := X.1.2.1
  have hl := lv_entry [.ref (gB E + za0), .int za1, .int za2] (n := 3) (Nat.le_of_ble_eq_true rfl)
  rw [lg_entry_eq]
  generalize (lg_sl [.ref (gB E + za0), .int za1, .int za2] ++ List.replicate (3 - (lg_sl [.ref (gB E + za0), .int za1, .int za2]).length) Slot.unset).toArray = ls at hl ⊢
  have hl : lv_has ls 3 [(0, .ref (gB E + za0)), (1, .int za1), (2, .int za2)] := hl
  have J_27 : ∀ (zh : PH) (H : Heap) (locs : List Loc) (ls : Array Slot), f_X12_page_27 N zh = some (r9, h9) → gw E s zh H locs → lv_has ls 3 [] → W p l e rm_X12_page s m [.ref (gB E + za0), .int za1, .int za2].toArray below meth c H locs 0 0 (MQ below (gQi E r9 h9) [.ref (gB E + za0), .int za1, .int za2].toArray s 0 0 (gA E)) (F0 m 27 ls []) := by
    intro zh H locs ls hf hw hl
    unfold f_X12_page_27 at hf
    refine lv_iconst (v := (-1)) hx hb dX12_page_27 (by decide) ?_
    exact gx_iret X hr hlk hw hf dX12_page_28
  unfold f_X12_page at hf
  refine lv_aload_n hx hb dX12_page_0 rfl (lv_at hl 0 rfl) ?_
  refine lv_iconst (v := 0) hx hb dX12_page_1 (by decide) ?_
  obtain ⟨zh1, qzh1, hf⟩ := gb_el hf
  refine gx_putV X hw qzh1 clX12 (by decide) mf_X12_1 rfl rfl rfl dX12_page_2 (fun H locs hw => ?_)
  refine lv_aload_n hx hb dX12_page_5 rfl (lv_at hl 0 rfl) ?_
  refine lv_iload_n hx hb dX12_page_6 rfl (lv_at hl 1 rfl) ?_
  obtain ⟨qizh2, hf⟩ := gg_el hf
  obtain ⟨zt3, zh2, qzh2, hf⟩ := gc_el hf
  refine gx_ki (gx_runV (As := [.int za1]) (rest := []) X hw (c_X12_isGuest l E N za0 za1 zh1 qzh2) kX12_isGuest mm_X12_312 qizh2 clX12 ⟨Nat.le_of_ble_eq_true rfl, Nat.le_of_ble_eq_true rfl⟩ rfl rfl rfl hl.1 (Nat.le_of_ble_eq_true rfl) rfl dX12_page_7 ⟨Nat.le_of_ble_eq_true rfl, Nat.le_of_ble_eq_true rfl⟩) hw (fun H locs hw => ?_)
  refine lv_if_eq (tgt := 27) hx hb dX12_page_10 (by decide) (fun qc4 => ?_) (fun qc4 => ?_)
  · have hf := gif_t hf qc4
    exact J_27  _ _ _ ls hf hw (lv_sub hl [] rfl)
  · have hf := gif_f hf qc4
    refine lv_iload_n hx hb dX12_page_13 rfl (lv_at hl 2 rfl) ?_
    refine lv_if_lt (tgt := 27) hx hb dX12_page_14 (by decide) (fun qc5 => ?_) (fun qc5 => ?_)
    · have hf := gif_t hf qc5
      exact J_27  _ _ _ ls hf hw (lv_sub hl [] rfl)
    · have hf := gif_f hf qc5
      refine W.eq (g2 := F0 m 17 ls []) rfl ?_
      refine lv_iload_n hx hb dX12_page_17 rfl (lv_at hl 2 rfl) ?_
      refine lv_iconst (v := 1) hx hb dX12_page_18 (by decide) ?_
      refine lv_aload_n hx hb dX12_page_19 rfl (lv_at hl 0 rfl) ?_
      obtain ⟨qizh6, hf⟩ := gg_el hf
      obtain ⟨zt7, zh6, qzh6, hf⟩ := gc_el hf
      refine gx_ki (gx_runV (As := []) (rest := [.int 1, .int za2]) X hw (c_X12_rooms l E N za0 zh2 qzh6) kX12_rooms mm_X12_231 qizh6 clX12 ⟨Nat.le_of_ble_eq_true rfl, Nat.le_of_ble_eq_true rfl⟩ rfl rfl rfl hl.1 (Nat.le_of_ble_eq_true rfl) rfl dX12_page_20 ⟨Nat.le_of_ble_eq_true rfl, Nat.le_of_ble_eq_true rfl⟩) hw (fun H locs hw => ?_)
      refine lv_ishl hx hb dX12_page_23 ?_
      refine lv_icmp_lt (tgt := 29) hx hb dX12_page_24 (by decide) (fun qc8 => ?_) (fun qc8 => ?_)
      · have hf := gif_t hf qc8
        refine lv_aload_n hx hb dX12_page_29 rfl (lv_at hl 0 rfl) ?_
        obtain ⟨zt9, qzt9, hf⟩ := gb_el hf
        refine gx_getR X hw qzt9 clX12 (by decide) mf_X12_83 dX12_page_30 ?_
        refine lv_sipush (v := 463) hx hb dX12_page_33 (by decide) ?_
        refine lv_iload_n hx hb dX12_page_36 rfl (lv_at hl 1 rfl) ?_
        refine W.eq (g2 := F0 m 37 ls [.int za1, .int 463, .ref (gB E + zt9)]) rfl ?_
        refine lv_iadd hx hb dX12_page_37 ?_
        refine lv_iload_n hx hb dX12_page_38 rfl (lv_at hl 2 rfl) ?_
        obtain ⟨zh10, qzh10, hf⟩ := gb_el hf
        refine gx_iast X hw qzh10 dX12_page_39 (fun H locs hw => ?_)
        refine lv_aload_n hx hb dX12_page_40 rfl (lv_at hl 0 rfl) ?_
        obtain ⟨qizh11, hf⟩ := gg_el hf
        obtain ⟨zt12, zh11, qzh11, hf⟩ := gc_el hf
        refine gx_ki (gx_runV (As := []) (rest := []) X hw (c_X12_pages l E N za0 zh10 qzh11) kX12_pages mm_X12_375 qizh11 clX12 ⟨Nat.le_of_ble_eq_true rfl, Nat.le_of_ble_eq_true rfl⟩ rfl rfl rfl hl.1 (Nat.le_of_ble_eq_true rfl) rfl dX12_page_41 ⟨Nat.le_of_ble_eq_true rfl, Nat.le_of_ble_eq_true rfl⟩) hw (fun H locs hw => ?_)
        exact gx_iret X hr hlk hw hf dX12_page_44
      · have hf := gif_f hf qc8
        exact J_27  _ _ _ ls hf hw (lv_sub hl [] rfl)
abbrev rm_X12_findWays : Room := { frames := 1, cells := 0, slots := 0, locals := 21 }
set_option maxHeartbeats 4000000 in
set_option maxRecDepth 100000 in
theorem c_X12_findWays (l : Launch) (E : gE) (N : Nat) (za0 : Nat) (za1 : Int32) (za2 : Int32) (zh : PH) {h9 : PH} {r9 : Int64} (hf : f_X12_findWays N za0 za1 za2 zh = some (r9, h9)) : Met l yX12_findWays (gWS yX12_findWays cX12_findWays 10 (some .long)) rm_X12_findWays (gPc E [.ref (gB E + za0), .int za1, .int za2] zh) (gQl E r9 h9) 0 0 (gA E) := by
  refine gx_met (by decide) ?_ rfl
  intro p e s m below meth c X hr hlk hin2 hw
  have hx := X.1.1
  have hb := X.1.2.1
  have hl := lv_entry [.ref (gB E + za0), .int za1, .int za2] (n := 10) (Nat.le_of_ble_eq_true rfl)
  rw [lg_entry_eq]
  generalize (lg_sl [.ref (gB E + za0), .int za1, .int za2] ++ List.replicate (10 - (lg_sl [.ref (gB E + za0), .int za1, .int za2]).length) Slot.unset).toArray = ls at hl ⊢
  have hl : lv_has ls 10 [(0, .ref (gB E + za0)), (1, .int za1), (2, .int za2)] := hl
  have L_186 : ∀ (zn186 : Nat) (zv0 : Nat) (zv3 : Int64) (zv5 : Int32) (zh : PH) (H : Heap) (locs : List Loc) (ls : Array Slot), gi (fun zk zs => f_X12_findWays_186 N zk zs.1 zs.2.1 zs.2.2.1 zs.2.2.2) zn186 (zv0, zv3, zv5, zh) = some (r9, h9) → gw E s zh H locs → lv_has ls 10 [(0, .ref (gB E + zv0)), (3, .long zv3), (5, .int zv5)] → W p l e rm_X12_findWays s m [.ref (gB E + za0), .int za1, .int za2].toArray below meth c H locs 0 0 (MQ below (gQl E r9 h9) [.ref (gB E + za0), .int za1, .int za2].toArray s 0 0 (gA E)) (F0 m 186 ls []) := by
    intro zn186
    induction zn186 with
    | zero =>
      intro zv0 zv3 zv5 zh H locs ls hf
      cases hf
    | succ zn186 ih_186 =>
      intro zv0 zv3 zv5 zh H locs ls hf hw hl
      have hf := gi_s hf
      dsimp only at hf
      unfold f_X12_findWays_186 at hf
      refine lv_iload hx hb dX12_findWays_186 (lv_at hl 2 rfl) ?_
      refine lv_sipush (v := 1024) hx hb dX12_findWays_188 (by decide) ?_
      refine lv_icmp_ge (tgt := 210) hx hb dX12_findWays_191 (by decide) (fun qc1 => ?_) (fun qc1 => ?_)
      · have hf := gif_t hf qc1
        refine lv_lload_n hx hb dX12_findWays_210 rfl (lv_at hl 1 rfl) ?_
        exact gx_lret X hr hlk hw hf dX12_findWays_211
      · have hf := gif_f hf qc1
        refine lv_lload_n hx hb dX12_findWays_194 rfl (lv_at hl 1 rfl) ?_
        refine lv_aload_n hx hb dX12_findWays_195 rfl (lv_at hl 0 rfl) ?_
        obtain ⟨zt2, qzt2, hf⟩ := gb_el hf
        refine gx_getR X hw qzt2 clX12 (by decide) mf_X12_102 dX12_findWays_196 ?_
        refine lv_iload hx hb dX12_findWays_199 (lv_at hl 2 rfl) ?_
        obtain ⟨zt3, qzt3, hf⟩ := gb_el hf
        refine gx_lald X hw qzt3 dX12_findWays_201 ?_
        refine lv_ladd hx hb dX12_findWays_202 ?_
        refine W.eq (g2 := F0 m 203 ls [.long (zv3 + zt3)]) rfl ?_
        refine lv_topl (fun zx4 ezx4 => ?_)
        have hf := gl_el hf ezx4
        refine lv_lstore_n (lv' := [(3, .long zx4), (0, .ref (gB E + zv0)), (5, .int zv5)]) hx hb dX12_findWays_203 rfl hl (by decide) rfl (fun ls hl => ?_)
        obtain ⟨zx5, ezx5⟩ : ∃ y : Int32, y = zv5 + 1 := ⟨_, rfl⟩
        have hf := gl_el hf ezx5
        refine lv_iinc (v := zx5) (lv' := [(5, .int zx5), (3, .long zx4), (0, .ref (gB E + zv0))]) hx hb dX12_findWays_204 hl (k := 2) rfl (by rw [ezx5]; rfl) (by decide) rfl (fun ls hl => ?_)
        refine lv_goto (tgt := 186) hx hb dX12_findWays_207 (by decide) ?_
        exact ih_186 zv0 zx4 zx5 _ _ _ ls hf hw (lv_sub hl [2, 1, 0] rfl)
  have L_32 : ∀ (zn32 : Nat) (zv0 : Nat) (zv1 : Int32) (zv2 : Int32) (zv3 : Int32) (zh : PH) (H : Heap) (locs : List Loc) (ls : Array Slot), gi (fun zk zs => f_X12_findWays_32 N zk zs.1 zs.2.1 zs.2.2.1 zs.2.2.2.1 zs.2.2.2.2) zn32 (zv0, zv1, zv2, zv3, zh) = some (r9, h9) → gw E s zh H locs → lv_has ls 10 [(0, .ref (gB E + zv0)), (1, .int zv1), (2, .int zv2), (3, .int zv3)] → W p l e rm_X12_findWays s m [.ref (gB E + za0), .int za1, .int za2].toArray below meth c H locs 0 0 (MQ below (gQl E r9 h9) [.ref (gB E + za0), .int za1, .int za2].toArray s 0 0 (gA E)) (F0 m 32 ls []) := by
    intro zn32
    induction zn32 with
    | zero =>
      intro zv0 zv1 zv2 zv3 zh H locs ls hf
      cases hf
    | succ zn32 ih_32 =>
      have J_175 : ∀ (zv0 : Nat) (zv1 : Int32) (zv2 : Int32) (zv3 : Int32) (zh : PH) (H : Heap) (locs : List Loc) (ls : Array Slot), f_X12_findWays_175 N (gi (fun zk zs => f_X12_findWays_32 N zk zs.1 zs.2.1 zs.2.2.1 zs.2.2.2.1 zs.2.2.2.2) zn32) zv0 zv1 zv2 zv3 zh = some (r9, h9) → gw E s zh H locs → lv_has ls 10 [(0, .ref (gB E + zv0)), (1, .int zv1), (2, .int zv2), (3, .int zv3)] → W p l e rm_X12_findWays s m [.ref (gB E + za0), .int za1, .int za2].toArray below meth c H locs 0 0 (MQ below (gQl E r9 h9) [.ref (gB E + za0), .int za1, .int za2].toArray s 0 0 (gA E)) (F0 m 175 ls []) := by
        intro zv0 zv1 zv2 zv3 zh H locs ls hf hw hl
        unfold f_X12_findWays_175 at hf
        obtain ⟨zx1, ezx1⟩ : ∃ y : Int32, y = zv3 + 1 := ⟨_, rfl⟩
        have hf := gl_el hf ezx1
        refine lv_iinc (v := zx1) (lv' := [(3, .int zx1), (0, .ref (gB E + zv0)), (1, .int zv1), (2, .int zv2)]) hx hb dX12_findWays_175 hl (k := 3) rfl (by rw [ezx1]; rfl) (by decide) rfl (fun ls hl => ?_)
        refine lv_goto (tgt := 32) hx hb dX12_findWays_178 (by decide) ?_
        exact ih_32 zv0 zv1 zv2 zx1 _ _ _ ls hf hw (lv_sub hl [1, 2, 3, 0] rfl)
      have L_69 : ∀ (zn69 : Nat) (zv0 : Nat) (zv1 : Int32) (zv2 : Int32) (zv3 : Int32) (zv4 : Int32) (zv5 : Int32) (zh : PH) (H : Heap) (locs : List Loc) (ls : Array Slot), gi (fun zk zs => f_X12_findWays_69 N (gi (fun zk zs => f_X12_findWays_32 N zk zs.1 zs.2.1 zs.2.2.1 zs.2.2.2.1 zs.2.2.2.2) zn32) zk zs.1 zs.2.1 zs.2.2.1 zs.2.2.2.1 zs.2.2.2.2.1 zs.2.2.2.2.2.1 zs.2.2.2.2.2.2) zn69 (zv0, zv1, zv2, zv3, zv4, zv5, zh) = some (r9, h9) → gw E s zh H locs → lv_has ls 10 [(0, .ref (gB E + zv0)), (1, .int zv1), (2, .int zv2), (3, .int zv3), (4, .int zv4), (5, .int zv5)] → W p l e rm_X12_findWays s m [.ref (gB E + za0), .int za1, .int za2].toArray below meth c H locs 0 0 (MQ below (gQl E r9 h9) [.ref (gB E + za0), .int za1, .int za2].toArray s 0 0 (gA E)) (F0 m 69 ls []) := by
        intro zn69
        induction zn69 with
        | zero =>
          intro zv0 zv1 zv2 zv3 zv4 zv5 zh H locs ls hf
          cases hf
        | succ zn69 ih_69 =>
          have L_88 : ∀ (zn88 : Nat) (zv0 : Nat) (zv1 : Int32) (zv2 : Int32) (zv3 : Int32) (zv4 : Int32) (zv5 : Int32) (zv6 : Int64) (zv8 : Int32) (zh : PH) (H : Heap) (locs : List Loc) (ls : Array Slot), gi (fun zk zs => f_X12_findWays_88 N (gi (fun zk zs => f_X12_findWays_32 N zk zs.1 zs.2.1 zs.2.2.1 zs.2.2.2.1 zs.2.2.2.2) zn32) (gi (fun zk zs => f_X12_findWays_69 N (gi (fun zk zs => f_X12_findWays_32 N zk zs.1 zs.2.1 zs.2.2.1 zs.2.2.2.1 zs.2.2.2.2) zn32) zk zs.1 zs.2.1 zs.2.2.1 zs.2.2.2.1 zs.2.2.2.2.1 zs.2.2.2.2.2.1 zs.2.2.2.2.2.2) zn69) zk zs.1 zs.2.1 zs.2.2.1 zs.2.2.2.1 zs.2.2.2.2.1 zs.2.2.2.2.2.1 zs.2.2.2.2.2.2.1 zs.2.2.2.2.2.2.2.1 zs.2.2.2.2.2.2.2.2) zn88 (zv0, zv1, zv2, zv3, zv4, zv5, zv6, zv8, zh) = some (r9, h9) → gw E s zh H locs → lv_has ls 10 [(0, .ref (gB E + zv0)), (1, .int zv1), (2, .int zv2), (3, .int zv3), (4, .int zv4), (5, .int zv5), (6, .long zv6), (8, .int zv8)] → W p l e rm_X12_findWays s m [.ref (gB E + za0), .int za1, .int za2].toArray below meth c H locs 0 0 (MQ below (gQl E r9 h9) [.ref (gB E + za0), .int za1, .int za2].toArray s 0 0 (gA E)) (F0 m 88 ls []) := by
            intro zn88
            induction zn88 with
            | zero =>
              intro zv0 zv1 zv2 zv3 zv4 zv5 zv6 zv8 zh H locs ls hf
              cases hf
            | succ zn88 ih_88 =>
              have J_151 : ∀ (zv0 : Nat) (zv1 : Int32) (zv2 : Int32) (zv3 : Int32) (zv4 : Int32) (zv5 : Int32) (zv8 : Int32) (zs0 : Int64) (zs1 : Int64) (zh : PH) (H : Heap) (locs : List Loc) (ls : Array Slot), f_X12_findWays_151 N (gi (fun zk zs => f_X12_findWays_32 N zk zs.1 zs.2.1 zs.2.2.1 zs.2.2.2.1 zs.2.2.2.2) zn32) (gi (fun zk zs => f_X12_findWays_69 N (gi (fun zk zs => f_X12_findWays_32 N zk zs.1 zs.2.1 zs.2.2.1 zs.2.2.2.1 zs.2.2.2.2) zn32) zk zs.1 zs.2.1 zs.2.2.1 zs.2.2.2.1 zs.2.2.2.2.1 zs.2.2.2.2.2.1 zs.2.2.2.2.2.2) zn69) (gi (fun zk zs => f_X12_findWays_88 N (gi (fun zk zs => f_X12_findWays_32 N zk zs.1 zs.2.1 zs.2.2.1 zs.2.2.2.1 zs.2.2.2.2) zn32) (gi (fun zk zs => f_X12_findWays_69 N (gi (fun zk zs => f_X12_findWays_32 N zk zs.1 zs.2.1 zs.2.2.1 zs.2.2.2.1 zs.2.2.2.2) zn32) zk zs.1 zs.2.1 zs.2.2.1 zs.2.2.2.1 zs.2.2.2.2.1 zs.2.2.2.2.2.1 zs.2.2.2.2.2.2) zn69) zk zs.1 zs.2.1 zs.2.2.1 zs.2.2.2.1 zs.2.2.2.2.1 zs.2.2.2.2.2.1 zs.2.2.2.2.2.2.1 zs.2.2.2.2.2.2.2.1 zs.2.2.2.2.2.2.2.2) zn88) zv0 zv1 zv2 zv3 zv4 zv5 zv8 zs0 zs1 zh = some (r9, h9) → gw E s zh H locs → lv_has ls 10 [(0, .ref (gB E + zv0)), (1, .int zv1), (2, .int zv2), (3, .int zv3), (4, .int zv4), (5, .int zv5), (8, .int zv8)] → W p l e rm_X12_findWays s m [.ref (gB E + za0), .int za1, .int za2].toArray below meth c H locs 0 0 (MQ below (gQl E r9 h9) [.ref (gB E + za0), .int za1, .int za2].toArray s 0 0 (gA E)) (F0 m 151 ls [.long zs0, .long zs1]) := by
                intro zv0 zv1 zv2 zv3 zv4 zv5 zv8 zs0 zs1 zh H locs ls hf hw hl
                unfold f_X12_findWays_151 at hf
                refine lv_ladd hx hb dX12_findWays_151 ?_
                refine lv_topl (fun zx1 ezx1 => ?_)
                have hf := gl_el hf ezx1
                refine lv_lstore (lv' := [(6, .long zx1), (0, .ref (gB E + zv0)), (1, .int zv1), (2, .int zv2), (3, .int zv3), (4, .int zv4), (5, .int zv5), (8, .int zv8)]) hx hb dX12_findWays_152 hl (by decide) rfl (fun ls hl => ?_)
                obtain ⟨zx2, ezx2⟩ : ∃ y : Int32, y = zv8 + 1 := ⟨_, rfl⟩
                have hf := gl_el hf ezx2
                refine lv_iinc (v := zx2) (lv' := [(8, .int zx2), (6, .long zx1), (0, .ref (gB E + zv0)), (1, .int zv1), (2, .int zv2), (3, .int zv3), (4, .int zv4), (5, .int zv5)]) hx hb dX12_findWays_154 hl (k := 7) rfl (by rw [ezx2]; rfl) (by decide) rfl (fun ls hl => ?_)
                refine lv_goto (tgt := 88) hx hb dX12_findWays_157 (by decide) ?_
                exact ih_88 zv0 zv1 zv2 zv3 zv4 zv5 zx1 zx2 _ _ _ ls hf hw (lv_sub hl [2, 3, 4, 5, 6, 7, 1, 0] rfl)
              have J_124 : ∀ (zv0 : Nat) (zv1 : Int32) (zv2 : Int32) (zv3 : Int32) (zv4 : Int32) (zv5 : Int32) (zv6 : Int64) (zv8 : Int32) (zs0 : Int32) (zh : PH) (H : Heap) (locs : List Loc) (ls : Array Slot), f_X12_findWays_124 N (gi (fun zk zs => f_X12_findWays_32 N zk zs.1 zs.2.1 zs.2.2.1 zs.2.2.2.1 zs.2.2.2.2) zn32) (gi (fun zk zs => f_X12_findWays_69 N (gi (fun zk zs => f_X12_findWays_32 N zk zs.1 zs.2.1 zs.2.2.1 zs.2.2.2.1 zs.2.2.2.2) zn32) zk zs.1 zs.2.1 zs.2.2.1 zs.2.2.2.1 zs.2.2.2.2.1 zs.2.2.2.2.2.1 zs.2.2.2.2.2.2) zn69) (gi (fun zk zs => f_X12_findWays_88 N (gi (fun zk zs => f_X12_findWays_32 N zk zs.1 zs.2.1 zs.2.2.1 zs.2.2.2.1 zs.2.2.2.2) zn32) (gi (fun zk zs => f_X12_findWays_69 N (gi (fun zk zs => f_X12_findWays_32 N zk zs.1 zs.2.1 zs.2.2.1 zs.2.2.2.1 zs.2.2.2.2) zn32) zk zs.1 zs.2.1 zs.2.2.1 zs.2.2.2.1 zs.2.2.2.2.1 zs.2.2.2.2.2.1 zs.2.2.2.2.2.2) zn69) zk zs.1 zs.2.1 zs.2.2.1 zs.2.2.2.1 zs.2.2.2.2.1 zs.2.2.2.2.2.1 zs.2.2.2.2.2.2.1 zs.2.2.2.2.2.2.2.1 zs.2.2.2.2.2.2.2.2) zn88) zv0 zv1 zv2 zv3 zv4 zv5 zv6 zv8 zs0 zh = some (r9, h9) → gw E s zh H locs → lv_has ls 10 [(0, .ref (gB E + zv0)), (1, .int zv1), (2, .int zv2), (3, .int zv3), (4, .int zv4), (5, .int zv5), (6, .long zv6), (8, .int zv8)] → W p l e rm_X12_findWays s m [.ref (gB E + za0), .int za1, .int za2].toArray below meth c H locs 0 0 (MQ below (gQl E r9 h9) [.ref (gB E + za0), .int za1, .int za2].toArray s 0 0 (gA E)) (F0 m 124 ls [.int zs0]) := by
                intro zv0 zv1 zv2 zv3 zv4 zv5 zv6 zv8 zs0 zh H locs ls hf hw hl
                unfold f_X12_findWays_124 at hf
                refine lv_istore (lv' := [(9, .int zs0), (0, .ref (gB E + zv0)), (1, .int zv1), (2, .int zv2), (3, .int zv3), (4, .int zv4), (5, .int zv5), (6, .long zv6), (8, .int zv8)]) hx hb dX12_findWays_124 hl (by decide) rfl (fun ls hl => ?_)
                refine lv_lload hx hb dX12_findWays_126 (lv_at hl 7 rfl) ?_
                refine lv_iload hx hb dX12_findWays_128 (lv_at hl 0 rfl) ?_
                refine lv_if_eq (tgt := 150) hx hb dX12_findWays_130 (by decide) (fun qc1 => ?_) (fun qc1 => ?_)
                · have hf := gif_t hf qc1
                  refine lv_lconst (v := 0) hx hb dX12_findWays_150 (by decide) ?_
                  exact J_151 zv0 zv1 zv2 zv3 zv4 zv5 zv8 0 zv6 _ _ _ ls hf hw (lv_sub hl [1, 2, 3, 4, 5, 6, 8] rfl)
                · have hf := gif_f hf qc1
                  refine lv_aload_n hx hb dX12_findWays_133 rfl (lv_at hl 1 rfl) ?_
                  obtain ⟨zt2, qzt2, hf⟩ := gb_el hf
                  refine gx_getR X hw qzt2 clX12 (by decide) mf_X12_102 dX12_findWays_134 ?_
                  refine lv_iload hx hb dX12_findWays_137 (lv_at hl 6 rfl) ?_
                  refine lv_iconst (v := 1) hx hb dX12_findWays_139 (by decide) ?_
                  refine lv_iload hx hb dX12_findWays_140 (lv_at hl 8 rfl) ?_
                  refine W.eq (g2 := F0 m 142 ls [.int zv8, .int 1, .int zv5, .ref (gB E + zt2), .long zv6]) rfl ?_
                  refine lv_ishl hx hb dX12_findWays_142 ?_
                  refine lv_iconst (v := (-1)) hx hb dX12_findWays_143 (by decide) ?_
                  refine lv_ixor hx hb dX12_findWays_144 ?_
                  refine lv_iand hx hb dX12_findWays_145 ?_
                  obtain ⟨zt3, qzt3, hf⟩ := gb_el hf
                  refine gx_lald X hw qzt3 dX12_findWays_146 ?_
                  refine lv_goto (tgt := 151) hx hb dX12_findWays_147 (by decide) ?_
                  exact J_151 zv0 zv1 zv2 zv3 zv4 zv5 zv8 zt3 zv6 _ _ _ ls hf hw (lv_sub hl [1, 2, 3, 4, 5, 6, 8] rfl)
              have J_123 : ∀ (zv0 : Nat) (zv1 : Int32) (zv2 : Int32) (zv3 : Int32) (zv4 : Int32) (zv5 : Int32) (zv6 : Int64) (zv8 : Int32) (zh : PH) (H : Heap) (locs : List Loc) (ls : Array Slot), f_X12_findWays_123 N (gi (fun zk zs => f_X12_findWays_32 N zk zs.1 zs.2.1 zs.2.2.1 zs.2.2.2.1 zs.2.2.2.2) zn32) (gi (fun zk zs => f_X12_findWays_69 N (gi (fun zk zs => f_X12_findWays_32 N zk zs.1 zs.2.1 zs.2.2.1 zs.2.2.2.1 zs.2.2.2.2) zn32) zk zs.1 zs.2.1 zs.2.2.1 zs.2.2.2.1 zs.2.2.2.2.1 zs.2.2.2.2.2.1 zs.2.2.2.2.2.2) zn69) (gi (fun zk zs => f_X12_findWays_88 N (gi (fun zk zs => f_X12_findWays_32 N zk zs.1 zs.2.1 zs.2.2.1 zs.2.2.2.1 zs.2.2.2.2) zn32) (gi (fun zk zs => f_X12_findWays_69 N (gi (fun zk zs => f_X12_findWays_32 N zk zs.1 zs.2.1 zs.2.2.1 zs.2.2.2.1 zs.2.2.2.2) zn32) zk zs.1 zs.2.1 zs.2.2.1 zs.2.2.2.1 zs.2.2.2.2.1 zs.2.2.2.2.2.1 zs.2.2.2.2.2.2) zn69) zk zs.1 zs.2.1 zs.2.2.1 zs.2.2.2.1 zs.2.2.2.2.1 zs.2.2.2.2.2.1 zs.2.2.2.2.2.2.1 zs.2.2.2.2.2.2.2.1 zs.2.2.2.2.2.2.2.2) zn88) zv0 zv1 zv2 zv3 zv4 zv5 zv6 zv8 zh = some (r9, h9) → gw E s zh H locs → lv_has ls 10 [(0, .ref (gB E + zv0)), (1, .int zv1), (2, .int zv2), (3, .int zv3), (4, .int zv4), (5, .int zv5), (6, .long zv6), (8, .int zv8)] → W p l e rm_X12_findWays s m [.ref (gB E + za0), .int za1, .int za2].toArray below meth c H locs 0 0 (MQ below (gQl E r9 h9) [.ref (gB E + za0), .int za1, .int za2].toArray s 0 0 (gA E)) (F0 m 123 ls []) := by
                intro zv0 zv1 zv2 zv3 zv4 zv5 zv6 zv8 zh H locs ls hf hw hl
                unfold f_X12_findWays_123 at hf
                refine lv_iconst (v := 0) hx hb dX12_findWays_123 (by decide) ?_
                exact J_124 zv0 zv1 zv2 zv3 zv4 zv5 zv6 zv8 0 _ _ _ ls hf hw (lv_sub hl [0, 1, 2, 3, 4, 5, 6, 7] rfl)
              intro zv0 zv1 zv2 zv3 zv4 zv5 zv6 zv8 zh H locs ls hf hw hl
              have hf := gi_s hf
              dsimp only at hf
              unfold f_X12_findWays_88 at hf
              refine lv_iload hx hb dX12_findWays_88 (lv_at hl 7 rfl) ?_
              refine lv_aload_n hx hb dX12_findWays_90 rfl (lv_at hl 0 rfl) ?_
              obtain ⟨qizh1, hf⟩ := gg_el hf
              obtain ⟨zt2, zh1, qzh1, hf⟩ := gc_el hf
              refine gx_ki (gx_runV (As := []) (rest := [.int zv8]) X hw (c_X12_rooms l E N zv0 zh qzh1) kX12_rooms mm_X12_231 qizh1 clX12 ⟨Nat.le_of_ble_eq_true rfl, Nat.le_of_ble_eq_true rfl⟩ rfl rfl rfl hl.1 (Nat.le_of_ble_eq_true rfl) rfl dX12_findWays_91 ⟨Nat.le_of_ble_eq_true rfl, Nat.le_of_ble_eq_true rfl⟩) hw (fun H locs hw => ?_)
              refine lv_icmp_ge (tgt := 160) hx hb dX12_findWays_94 (by decide) (fun qc3 => ?_) (fun qc3 => ?_)
              · have hf := gif_t hf qc3
                refine lv_aload_n hx hb dX12_findWays_160 rfl (lv_at hl 0 rfl) ?_
                obtain ⟨zt4, qzt4, hf⟩ := gb_el hf
                refine gx_getR X hw qzt4 clX12 (by decide) mf_X12_102 dX12_findWays_161 ?_
                refine lv_iload hx hb dX12_findWays_164 (lv_at hl 5 rfl) ?_
                refine lv_lload hx hb dX12_findWays_166 (lv_at hl 6 rfl) ?_
                obtain ⟨zh5, qzh5, hf⟩ := gb_el hf
                refine gx_last X hw qzh5 dX12_findWays_168 (fun H locs hw => ?_)
                refine W.eq (g2 := F0 m 169 ls []) rfl ?_
                obtain ⟨zx6, ezx6⟩ : ∃ y : Int32, y = zv5 + (-1) := ⟨_, rfl⟩
                have hf := gl_el hf ezx6
                refine lv_iinc (v := zx6) (lv' := [(5, .int zx6), (0, .ref (gB E + zv0)), (1, .int zv1), (2, .int zv2), (3, .int zv3), (4, .int zv4), (6, .long zv6), (8, .int zv8)]) hx hb dX12_findWays_169 hl (k := 5) rfl (by rw [ezx6]; rfl) (by decide) rfl (fun ls hl => ?_)
                refine lv_goto (tgt := 69) hx hb dX12_findWays_172 (by decide) ?_
                exact ih_69 zv0 zv1 zv2 zv3 zv4 zx6 _ _ _ ls hf hw (lv_sub hl [1, 2, 3, 4, 5, 0] rfl)
              · have hf := gif_f hf qc3
                refine lv_iload hx hb dX12_findWays_97 (lv_at hl 4 rfl) ?_
                refine lv_iload hx hb dX12_findWays_99 (lv_at hl 7 rfl) ?_
                refine lv_ishr hx hb dX12_findWays_101 ?_
                refine lv_iconst (v := 1) hx hb dX12_findWays_102 (by decide) ?_
                refine lv_iand hx hb dX12_findWays_103 ?_
                refine W.eq (g2 := F0 m 104 ls [.int ((zv4 >>> (zv8 &&& 31)) &&& 1)]) rfl ?_
                refine lv_iconst (v := 1) hx hb dX12_findWays_104 (by decide) ?_
                refine lv_icmp_ne (tgt := 123) hx hb dX12_findWays_105 (by decide) (fun qc7 => ?_) (fun qc7 => ?_)
                · have hf := gif_f hf qc7
                  exact J_123 zv0 zv1 zv2 zv3 zv4 zv5 zv6 zv8 _ _ _ ls hf hw (lv_sub hl [0, 1, 2, 3, 4, 5, 6, 7] rfl)
                · have hf := gif_t hf qc7
                  refine lv_iload hx hb dX12_findWays_108 (lv_at hl 5 rfl) ?_
                  refine lv_iload hx hb dX12_findWays_110 (lv_at hl 7 rfl) ?_
                  refine lv_ishr hx hb dX12_findWays_112 ?_
                  refine lv_iconst (v := 1) hx hb dX12_findWays_113 (by decide) ?_
                  refine lv_iand hx hb dX12_findWays_114 ?_
                  refine lv_iconst (v := 1) hx hb dX12_findWays_115 (by decide) ?_
                  refine lv_icmp_ne (tgt := 123) hx hb dX12_findWays_116 (by decide) (fun qc8 => ?_) (fun qc8 => ?_)
                  · have hf := gif_f hf qc8
                    exact J_123 zv0 zv1 zv2 zv3 zv4 zv5 zv6 zv8 _ _ _ ls hf hw (lv_sub hl [0, 1, 2, 3, 4, 5, 6, 7] rfl)
                  · have hf := gif_t hf qc8
                    refine lv_iconst (v := 1) hx hb dX12_findWays_119 (by decide) ?_
                    refine W.eq (g2 := F0 m 120 ls [.int 1]) rfl ?_
                    refine lv_goto (tgt := 124) hx hb dX12_findWays_120 (by decide) ?_
                    exact J_124 zv0 zv1 zv2 zv3 zv4 zv5 zv6 zv8 1 _ _ _ ls hf hw (lv_sub hl [0, 1, 2, 3, 4, 5, 6, 7] rfl)
          intro zv0 zv1 zv2 zv3 zv4 zv5 zh H locs ls hf hw hl
          have hf := gi_s hf
          dsimp only at hf
          unfold f_X12_findWays_69 at hf
          refine lv_iload hx hb dX12_findWays_69 (lv_at hl 5 rfl) ?_
          refine lv_if_lt (tgt := 175) hx hb dX12_findWays_71 (by decide) (fun qc1 => ?_) (fun qc1 => ?_)
          · have hf := gif_t hf qc1
            exact J_175 zv0 zv1 zv2 zv3 _ _ _ ls hf hw (lv_sub hl [0, 1, 2, 3] rfl)
          · have hf := gif_f hf qc1
            refine lv_aload_n hx hb dX12_findWays_74 rfl (lv_at hl 0 rfl) ?_
            refine lv_iload_n hx hb dX12_findWays_75 rfl (lv_at hl 3 rfl) ?_
            obtain ⟨qizh2, hf⟩ := gg_el hf
            obtain ⟨zt3, zh2, qzh2, hf⟩ := gc_el hf
            refine gx_ki (gx_runV (As := [.int zv3]) (rest := []) X hw (c_X12_pageOf l E N zv0 zv3 zh qzh2) kX12_pageOf mm_X12_372 qizh2 clX12 ⟨Nat.le_of_ble_eq_true rfl, Nat.le_of_ble_eq_true rfl⟩ rfl rfl rfl hl.1 (Nat.le_of_ble_eq_true rfl) rfl dX12_findWays_76 ⟨Nat.le_of_ble_eq_true rfl, Nat.le_of_ble_eq_true rfl⟩) hw (fun H locs hw => ?_)
            refine lv_if_le (tgt := 175) hx hb dX12_findWays_79 (by decide) (fun qc4 => ?_) (fun qc4 => ?_)
            · have hf := gif_t hf qc4
              exact J_175 zv0 zv1 zv2 zv3 _ _ _ ls hf hw (lv_sub hl [0, 1, 2, 3] rfl)
            · have hf := gif_f hf qc4
              refine lv_lconst (v := 0) hx hb dX12_findWays_82 (by decide) ?_
              refine lv_lstore (lv' := [(6, .long 0), (0, .ref (gB E + zv0)), (1, .int zv1), (2, .int zv2), (3, .int zv3), (4, .int zv4), (5, .int zv5)]) hx hb dX12_findWays_83 hl (by decide) rfl (fun ls hl => ?_)
              refine lv_iconst (v := 0) hx hb dX12_findWays_85 (by decide) ?_
              refine W.eq (g2 := F0 m 86 ls [.int 0]) rfl ?_
              refine lv_istore (lv' := [(8, .int 0), (6, .long 0), (0, .ref (gB E + zv0)), (1, .int zv1), (2, .int zv2), (3, .int zv3), (4, .int zv4), (5, .int zv5)]) hx hb dX12_findWays_86 hl (by decide) rfl (fun ls hl => ?_)
              exact L_88 N zv0 zv1 zv2 zv3 zv4 zv5 0 0 _ _ _ ls hf hw (lv_sub hl [2, 3, 4, 5, 6, 7, 1, 0] rfl)
      have J_62 : ∀ (zv0 : Nat) (zv1 : Int32) (zv2 : Int32) (zv3 : Int32) (zs0 : Int32) (zh : PH) (H : Heap) (locs : List Loc) (ls : Array Slot), f_X12_findWays_62 N (gi (fun zk zs => f_X12_findWays_32 N zk zs.1 zs.2.1 zs.2.2.1 zs.2.2.2.1 zs.2.2.2.2) zn32) zv0 zv1 zv2 zv3 zs0 zh = some (r9, h9) → gw E s zh H locs → lv_has ls 10 [(0, .ref (gB E + zv0)), (1, .int zv1), (2, .int zv2), (3, .int zv3)] → W p l e rm_X12_findWays s m [.ref (gB E + za0), .int za1, .int za2].toArray below meth c H locs 0 0 (MQ below (gQl E r9 h9) [.ref (gB E + za0), .int za1, .int za2].toArray s 0 0 (gA E)) (F0 m 62 ls [.int zs0]) := by
        intro zv0 zv1 zv2 zv3 zs0 zh H locs ls hf hw hl
        unfold f_X12_findWays_62 at hf
        refine lv_istore (lv' := [(4, .int zs0), (0, .ref (gB E + zv0)), (1, .int zv1), (2, .int zv2), (3, .int zv3)]) hx hb dX12_findWays_62 hl (by decide) rfl (fun ls hl => ?_)
        refine lv_sipush (v := 1023) hx hb dX12_findWays_64 (by decide) ?_
        refine lv_istore (lv' := [(5, .int 1023), (4, .int zs0), (0, .ref (gB E + zv0)), (1, .int zv1), (2, .int zv2), (3, .int zv3)]) hx hb dX12_findWays_67 hl (by decide) rfl (fun ls hl => ?_)
        exact L_69 N zv0 zv1 zv2 zv3 zs0 1023 _ _ _ ls hf hw (lv_sub hl [2, 3, 4, 5, 1, 0] rfl)
      intro zv0 zv1 zv2 zv3 zh H locs ls hf hw hl
      have hf := gi_s hf
      dsimp only at hf
      unfold f_X12_findWays_32 at hf
      refine lv_iload_n hx hb dX12_findWays_32 rfl (lv_at hl 3 rfl) ?_
      refine lv_aload_n hx hb dX12_findWays_33 rfl (lv_at hl 0 rfl) ?_
      obtain ⟨qizh1, hf⟩ := gg_el hf
      obtain ⟨zt2, zh1, qzh1, hf⟩ := gc_el hf
      refine gx_ki (gx_runV (As := []) (rest := [.int zv3]) X hw (c_X12_guests l E N zv0 zh qzh1) kX12_guests mm_X12_234 qizh1 clX12 ⟨Nat.le_of_ble_eq_true rfl, Nat.le_of_ble_eq_true rfl⟩ rfl rfl rfl hl.1 (Nat.le_of_ble_eq_true rfl) rfl dX12_findWays_34 ⟨Nat.le_of_ble_eq_true rfl, Nat.le_of_ble_eq_true rfl⟩) hw (fun H locs hw => ?_)
      refine lv_icmp_ge (tgt := 181) hx hb dX12_findWays_37 (by decide) (fun qc3 => ?_) (fun qc3 => ?_)
      · have hf := gif_t hf qc3
        refine lv_lconst (v := 0) hx hb dX12_findWays_181 (by decide) ?_
        refine lv_lstore_n (lv' := [(3, .long 0), (0, .ref (gB E + zv0)), (1, .int zv1), (2, .int zv2)]) hx hb dX12_findWays_182 rfl hl (by decide) rfl (fun ls hl => ?_)
        refine lv_iconst (v := 0) hx hb dX12_findWays_183 (by decide) ?_
        refine lv_istore (lv' := [(5, .int 0), (3, .long 0), (0, .ref (gB E + zv0)), (1, .int zv1), (2, .int zv2)]) hx hb dX12_findWays_184 hl (by decide) rfl (fun ls hl => ?_)
        exact L_186 N zv0 0 0 _ _ _ ls hf hw (lv_sub hl [2, 1, 0] rfl)
      · have hf := gif_f hf qc3
        refine lv_iload_n hx hb dX12_findWays_40 rfl (lv_at hl 3 rfl) ?_
        refine lv_iload_n hx hb dX12_findWays_41 rfl (lv_at hl 1 rfl) ?_
        refine lv_icmp_ne (tgt := 57) hx hb dX12_findWays_42 (by decide) (fun qc4 => ?_) (fun qc4 => ?_)
        · have hf := gif_f hf qc4
          refine lv_aload_n hx hb dX12_findWays_57 rfl (lv_at hl 0 rfl) ?_
          refine lv_iload_n hx hb dX12_findWays_58 rfl (lv_at hl 3 rfl) ?_
          refine W.eq (g2 := F0 m 59 ls [.int zv3, .ref (gB E + zv0)]) rfl ?_
          obtain ⟨qizh5, hf⟩ := gg_el hf
          obtain ⟨zt6, zh5, qzh5, hf⟩ := gc_el hf
          refine gx_ki (gx_runV (As := [.int zv3]) (rest := []) X hw (c_X12_pageOf l E N zv0 zv3 zh1 qzh5) kX12_pageOf mm_X12_372 qizh5 clX12 ⟨Nat.le_of_ble_eq_true rfl, Nat.le_of_ble_eq_true rfl⟩ rfl rfl rfl hl.1 (Nat.le_of_ble_eq_true rfl) rfl dX12_findWays_59 ⟨Nat.le_of_ble_eq_true rfl, Nat.le_of_ble_eq_true rfl⟩) hw (fun H locs hw => ?_)
          exact J_62 zv0 zv1 zv2 zv3 zt6 _ _ _ ls hf hw (lv_sub hl [0, 1, 2, 3] rfl)
        · have hf := gif_t hf qc4
          refine lv_aload_n hx hb dX12_findWays_45 rfl (lv_at hl 0 rfl) ?_
          refine lv_iload_n hx hb dX12_findWays_46 rfl (lv_at hl 3 rfl) ?_
          refine W.eq (g2 := F0 m 47 ls [.int zv3, .ref (gB E + zv0)]) rfl ?_
          obtain ⟨qizh7, hf⟩ := gg_el hf
          obtain ⟨zt8, zh7, qzh7, hf⟩ := gc_el hf
          refine gx_ki (gx_runV (As := [.int zv3]) (rest := []) X hw (c_X12_pageOf l E N zv0 zv3 zh1 qzh7) kX12_pageOf mm_X12_372 qizh7 clX12 ⟨Nat.le_of_ble_eq_true rfl, Nat.le_of_ble_eq_true rfl⟩ rfl rfl rfl hl.1 (Nat.le_of_ble_eq_true rfl) rfl dX12_findWays_47 ⟨Nat.le_of_ble_eq_true rfl, Nat.le_of_ble_eq_true rfl⟩) hw (fun H locs hw => ?_)
          refine lv_iconst (v := 1) hx hb dX12_findWays_50 (by decide) ?_
          refine lv_iload_n hx hb dX12_findWays_51 rfl (lv_at hl 2 rfl) ?_
          refine lv_ishl hx hb dX12_findWays_52 ?_
          refine lv_iand hx hb dX12_findWays_53 ?_
          refine lv_goto (tgt := 62) hx hb dX12_findWays_54 (by decide) ?_
          exact J_62 zv0 zv1 zv2 zv3 (zt8 &&& (1 <<< (zv2 &&& 31))) _ _ _ ls hf hw (lv_sub hl [0, 1, 2, 3] rfl)
  have L_2 : ∀ (zn2 : Nat) (zv0 : Nat) (zv1 : Int32) (zv2 : Int32) (zv3 : Int32) (zh : PH) (H : Heap) (locs : List Loc) (ls : Array Slot), gi (fun zk zs => f_X12_findWays_2 N zk zs.1 zs.2.1 zs.2.2.1 zs.2.2.2.1 zs.2.2.2.2) zn2 (zv0, zv1, zv2, zv3, zh) = some (r9, h9) → gw E s zh H locs → lv_has ls 10 [(0, .ref (gB E + zv0)), (1, .int zv1), (2, .int zv2), (3, .int zv3)] → W p l e rm_X12_findWays s m [.ref (gB E + za0), .int za1, .int za2].toArray below meth c H locs 0 0 (MQ below (gQl E r9 h9) [.ref (gB E + za0), .int za1, .int za2].toArray s 0 0 (gA E)) (F0 m 2 ls []) := by
    intro zn2
    induction zn2 with
    | zero =>
      intro zv0 zv1 zv2 zv3 zh H locs ls hf
      cases hf
    | succ zn2 ih_2 =>
      have J_23 : ∀ (zv0 : Nat) (zv1 : Int32) (zv2 : Int32) (zv3 : Int32) (zs0 : Int64) (zs1 : Int32) (zs2 : Nat) (zh : PH) (H : Heap) (locs : List Loc) (ls : Array Slot), f_X12_findWays_23 N (gi (fun zk zs => f_X12_findWays_2 N zk zs.1 zs.2.1 zs.2.2.1 zs.2.2.2.1 zs.2.2.2.2) zn2) zv0 zv1 zv2 zv3 zs0 zs1 zs2 zh = some (r9, h9) → gw E s zh H locs → lv_has ls 10 [(0, .ref (gB E + zv0)), (1, .int zv1), (2, .int zv2), (3, .int zv3)] → W p l e rm_X12_findWays s m [.ref (gB E + za0), .int za1, .int za2].toArray below meth c H locs 0 0 (MQ below (gQl E r9 h9) [.ref (gB E + za0), .int za1, .int za2].toArray s 0 0 (gA E)) (F0 m 23 ls [.long zs0, .int zs1, .ref (gB E + zs2)]) := by
        intro zv0 zv1 zv2 zv3 zs0 zs1 zs2 zh H locs ls hf hw hl
        unfold f_X12_findWays_23 at hf
        obtain ⟨zh1, qzh1, hf⟩ := gb_el hf
        refine gx_last X hw qzh1 dX12_findWays_23 (fun H locs hw => ?_)
        obtain ⟨zx2, ezx2⟩ : ∃ y : Int32, y = zv3 + 1 := ⟨_, rfl⟩
        have hf := gl_el hf ezx2
        refine lv_iinc (v := zx2) (lv' := [(3, .int zx2), (0, .ref (gB E + zv0)), (1, .int zv1), (2, .int zv2)]) hx hb dX12_findWays_24 hl (k := 3) rfl (by rw [ezx2]; rfl) (by decide) rfl (fun ls hl => ?_)
        refine lv_goto (tgt := 2) hx hb dX12_findWays_27 (by decide) ?_
        exact ih_2 zv0 zv1 zv2 zx2 _ _ _ ls hf hw (lv_sub hl [1, 2, 3, 0] rfl)
      intro zv0 zv1 zv2 zv3 zh H locs ls hf hw hl
      have hf := gi_s hf
      dsimp only at hf
      unfold f_X12_findWays_2 at hf
      refine lv_iload_n hx hb dX12_findWays_2 rfl (lv_at hl 3 rfl) ?_
      refine lv_sipush (v := 1024) hx hb dX12_findWays_3 (by decide) ?_
      refine lv_icmp_ge (tgt := 30) hx hb dX12_findWays_6 (by decide) (fun qc1 => ?_) (fun qc1 => ?_)
      · have hf := gif_t hf qc1
        refine lv_iconst (v := 0) hx hb dX12_findWays_30 (by decide) ?_
        refine lv_istore_n (lv' := [(3, .int 0), (0, .ref (gB E + zv0)), (1, .int zv1), (2, .int zv2)]) hx hb dX12_findWays_31 rfl hl (by decide) rfl (fun ls hl => ?_)
        exact L_32 N zv0 zv1 zv2 0 _ _ _ ls hf hw (lv_sub hl [1, 2, 3, 0] rfl)
      · have hf := gif_f hf qc1
        refine lv_aload_n hx hb dX12_findWays_9 rfl (lv_at hl 0 rfl) ?_
        obtain ⟨zt2, qzt2, hf⟩ := gb_el hf
        refine gx_getR X hw qzt2 clX12 (by decide) mf_X12_102 dX12_findWays_10 ?_
        refine lv_iload_n hx hb dX12_findWays_13 rfl (lv_at hl 3 rfl) ?_
        refine lv_iload_n hx hb dX12_findWays_14 rfl (lv_at hl 3 rfl) ?_
        refine lv_if_ne (tgt := 22) hx hb dX12_findWays_15 (by decide) (fun qc3 => ?_) (fun qc3 => ?_)
        · have hf := gif_f hf qc3
          refine lv_lconst (v := 0) hx hb dX12_findWays_22 (by decide) ?_
          exact J_23 zv0 zv1 zv2 zv3 0 zv3 zt2 _ _ _ ls hf hw (lv_sub hl [0, 1, 2, 3] rfl)
        · have hf := gif_t hf qc3
          refine lv_lconst (v := 1) hx hb dX12_findWays_18 (by decide) ?_
          refine W.eq (g2 := F0 m 19 ls [.long 1, .int zv3, .ref (gB E + zt2)]) rfl ?_
          refine lv_goto (tgt := 23) hx hb dX12_findWays_19 (by decide) ?_
          exact J_23 zv0 zv1 zv2 zv3 1 zv3 zt2 _ _ _ ls hf hw (lv_sub hl [0, 1, 2, 3] rfl)
  unfold f_X12_findWays at hf
  refine lv_iconst (v := 0) hx hb dX12_findWays_0 (by decide) ?_
  refine lv_istore_n (lv' := [(3, .int 0), (0, .ref (gB E + za0)), (1, .int za1), (2, .int za2)]) hx hb dX12_findWays_1 rfl hl (by decide) rfl (fun ls hl => ?_)
  exact L_2 N za0 za1 za2 0 _ _ _ ls hf hw (lv_sub hl [1, 2, 3, 0] rfl)
abbrev rm_X12_ways : Room := { frames := 2, cells := 0, slots := 0, locals := 50 }
set_option maxHeartbeats 4000000 in
set_option maxRecDepth 100000 in
theorem c_X12_ways (l : Launch) (E : gE) (N : Nat) (za0 : Nat) (zh : PH) {h9 : PH} {r9 : Int64} (hf : f_X12_ways N za0 zh = some (r9, h9)) : Met l yX12_ways (gWS yX12_ways cX12_ways 1 (some .long)) rm_X12_ways (gPc E [.ref (gB E + za0)] zh) (gQl E r9 h9) 0 0 (gA E) := by
  refine gx_met (by decide) ?_ rfl
  intro p e s m below meth c X hr hlk hin2 hw
  have hx := X.1.1
  have hb := X.1.2.1
  have hl := lv_entry [.ref (gB E + za0)] (n := 1) (Nat.le_of_ble_eq_true rfl)
  rw [lg_entry_eq]
  generalize (lg_sl [.ref (gB E + za0)] ++ List.replicate (1 - (lg_sl [.ref (gB E + za0)]).length) Slot.unset).toArray = ls at hl ⊢
  have hl : lv_has ls 1 [(0, .ref (gB E + za0))] := hl
  unfold f_X12_ways at hf
  refine lv_aload_n hx hb dX12_ways_0 rfl (lv_at hl 0 rfl) ?_
  refine lv_iconst (v := 0) hx hb dX12_ways_1 (by decide) ?_
  obtain ⟨zh1, qzh1, hf⟩ := gb_el hf
  refine gx_putV X hw qzh1 clX12 (by decide) mf_X12_1 rfl rfl rfl dX12_ways_2 (fun H locs hw => ?_)
  refine lv_aload_n hx hb dX12_ways_5 rfl (lv_at hl 0 rfl) ?_
  refine lv_iconst (v := (-1)) hx hb dX12_ways_6 (by decide) ?_
  refine lv_iconst (v := 0) hx hb dX12_ways_7 (by decide) ?_
  obtain ⟨qizh2, hf⟩ := gg_el hf
  obtain ⟨zt3, zh2, qzh2, hf⟩ := gc_el hf
  refine gx_kl (gx_runV (As := [.int (-1), .int 0]) (rest := []) X hw (c_X12_findWays l E N za0 (-1) 0 zh1 qzh2) kX12_findWays mm_X12_378 qizh2 clX12 ⟨Nat.le_of_ble_eq_true rfl, Nat.le_of_ble_eq_true rfl⟩ rfl rfl rfl hl.1 (Nat.le_of_ble_eq_true rfl) rfl dX12_ways_8 ⟨Nat.le_of_ble_eq_true rfl, Nat.le_of_ble_eq_true rfl⟩) hw (fun H locs hw => ?_)
  exact gx_lret X hr hlk hw hf dX12_ways_11
abbrev rm_X12_sure : Room := { frames := 2, cells := 0, slots := 0, locals := 50 }
set_option maxHeartbeats 4000000 in
set_option maxRecDepth 100000 in
theorem c_X12_sure (l : Launch) (E : gE) (N : Nat) (za0 : Nat) (za1 : Int32) (zh : PH) {h9 : PH} {r9 : Int32} (hf : f_X12_sure N za0 za1 zh = some (r9, h9)) : Met l yX12_sure (gWS yX12_sure cX12_sure 6 (some .int)) rm_X12_sure (gPc E [.ref (gB E + za0), .int za1] zh) (gQi E r9 h9) 0 0 (gA E) := by
  refine gx_met (by decide) ?_ rfl
  intro p e s m below meth c X hr hlk hin2 hw
  have hx := X.1.1
  have hb := X.1.2.1
  have hl := lv_entry [.ref (gB E + za0), .int za1] (n := 6) (Nat.le_of_ble_eq_true rfl)
  rw [lg_entry_eq]
  generalize (lg_sl [.ref (gB E + za0), .int za1] ++ List.replicate (6 - (lg_sl [.ref (gB E + za0), .int za1]).length) Slot.unset).toArray = ls at hl ⊢
  have hl : lv_has ls 6 [(0, .ref (gB E + za0)), (1, .int za1)] := hl
  have J_113 : ∀ (zs0 : Int32) (zh : PH) (H : Heap) (locs : List Loc) (ls : Array Slot), f_X12_sure_113 N zs0 zh = some (r9, h9) → gw E s zh H locs → lv_has ls 6 [] → W p l e rm_X12_sure s m [.ref (gB E + za0), .int za1].toArray below meth c H locs 0 0 (MQ below (gQi E r9 h9) [.ref (gB E + za0), .int za1].toArray s 0 0 (gA E)) (F0 m 113 ls [.int zs0]) := by
    intro zs0 zh H locs ls hf hw hl
    unfold f_X12_sure_113 at hf
    exact gx_iret X hr hlk hw hf dX12_sure_113
  have L_30 : ∀ (zn30 : Nat) (zv0 : Nat) (zv1 : Int32) (zv2 : Int32) (zv3 : Int32) (zv4 : Int32) (zh : PH) (H : Heap) (locs : List Loc) (ls : Array Slot), gi (fun zk zs => f_X12_sure_30 N zk zs.1 zs.2.1 zs.2.2.1 zs.2.2.2.1 zs.2.2.2.2.1 zs.2.2.2.2.2) zn30 (zv0, zv1, zv2, zv3, zv4, zh) = some (r9, h9) → gw E s zh H locs → lv_has ls 6 [(0, .ref (gB E + zv0)), (1, .int zv1), (2, .int zv2), (3, .int zv3), (4, .int zv4)] → W p l e rm_X12_sure s m [.ref (gB E + za0), .int za1].toArray below meth c H locs 0 0 (MQ below (gQi E r9 h9) [.ref (gB E + za0), .int za1].toArray s 0 0 (gA E)) (F0 m 30 ls []) := by
    intro zn30
    induction zn30 with
    | zero =>
      intro zv0 zv1 zv2 zv3 zv4 zh H locs ls hf
      cases hf
    | succ zn30 ih_30 =>
      have J_95 : ∀ (zv0 : Nat) (zv1 : Int32) (zv2 : Int32) (zv4 : Int32) (zs0 : Int32) (zs1 : Int32) (zh : PH) (H : Heap) (locs : List Loc) (ls : Array Slot), f_X12_sure_95 N (gi (fun zk zs => f_X12_sure_30 N zk zs.1 zs.2.1 zs.2.2.1 zs.2.2.2.1 zs.2.2.2.2.1 zs.2.2.2.2.2) zn30) zv0 zv1 zv2 zv4 zs0 zs1 zh = some (r9, h9) → gw E s zh H locs → lv_has ls 6 [(0, .ref (gB E + zv0)), (1, .int zv1), (2, .int zv2), (4, .int zv4)] → W p l e rm_X12_sure s m [.ref (gB E + za0), .int za1].toArray below meth c H locs 0 0 (MQ below (gQi E r9 h9) [.ref (gB E + za0), .int za1].toArray s 0 0 (gA E)) (F0 m 95 ls [.int zs0, .int zs1]) := by
        intro zv0 zv1 zv2 zv4 zs0 zs1 zh H locs ls hf hw hl
        unfold f_X12_sure_95 at hf
        refine lv_iadd hx hb dX12_sure_95 ?_
        refine lv_topi (fun zx1 ezx1 => ?_)
        have hf := gl_el hf ezx1
        refine lv_istore_n (lv' := [(3, .int zx1), (0, .ref (gB E + zv0)), (1, .int zv1), (2, .int zv2), (4, .int zv4)]) hx hb dX12_sure_96 rfl hl (by decide) rfl (fun ls hl => ?_)
        obtain ⟨zx2, ezx2⟩ : ∃ y : Int32, y = zv4 + 1 := ⟨_, rfl⟩
        have hf := gl_el hf ezx2
        refine lv_iinc (v := zx2) (lv' := [(4, .int zx2), (3, .int zx1), (0, .ref (gB E + zv0)), (1, .int zv1), (2, .int zv2)]) hx hb dX12_sure_97 hl (k := 4) rfl (by rw [ezx2]; rfl) (by decide) rfl (fun ls hl => ?_)
        refine lv_goto (tgt := 30) hx hb dX12_sure_100 (by decide) ?_
        exact ih_30 zv0 zv1 zv2 zx1 zx2 _ _ _ ls hf hw (lv_sub hl [2, 3, 4, 1, 0] rfl)
      have J_83 : ∀ (zv0 : Nat) (zv1 : Int32) (zv3 : Int32) (zv4 : Int32) (zv5 : Int32) (zs0 : Int32) (zh : PH) (H : Heap) (locs : List Loc) (ls : Array Slot), f_X12_sure_83 N (gi (fun zk zs => f_X12_sure_30 N zk zs.1 zs.2.1 zs.2.2.1 zs.2.2.2.1 zs.2.2.2.2.1 zs.2.2.2.2.2) zn30) zv0 zv1 zv3 zv4 zv5 zs0 zh = some (r9, h9) → gw E s zh H locs → lv_has ls 6 [(0, .ref (gB E + zv0)), (1, .int zv1), (3, .int zv3), (4, .int zv4), (5, .int zv5)] → W p l e rm_X12_sure s m [.ref (gB E + za0), .int za1].toArray below meth c H locs 0 0 (MQ below (gQi E r9 h9) [.ref (gB E + za0), .int za1].toArray s 0 0 (gA E)) (F0 m 83 ls [.int zs0]) := by
        intro zv0 zv1 zv3 zv4 zv5 zs0 zh H locs ls hf hw hl
        unfold f_X12_sure_83 at hf
        refine lv_istore_n (lv' := [(2, .int zs0), (0, .ref (gB E + zv0)), (1, .int zv1), (3, .int zv3), (4, .int zv4), (5, .int zv5)]) hx hb dX12_sure_83 rfl hl (by decide) rfl (fun ls hl => ?_)
        refine lv_iload_n hx hb dX12_sure_84 rfl (lv_at hl 3 rfl) ?_
        refine lv_iload hx hb dX12_sure_85 (lv_at hl 5 rfl) ?_
        refine lv_if_eq (tgt := 94) hx hb dX12_sure_87 (by decide) (fun qc1 => ?_) (fun qc1 => ?_)
        · have hf := gif_t hf qc1
          refine lv_iconst (v := 0) hx hb dX12_sure_94 (by decide) ?_
          exact J_95 zv0 zv1 zs0 zv4 0 zv3 _ _ _ ls hf hw (lv_sub hl [1, 2, 0, 4] rfl)
        · have hf := gif_f hf qc1
          refine lv_iconst (v := 1) hx hb dX12_sure_90 (by decide) ?_
          refine lv_goto (tgt := 95) hx hb dX12_sure_91 (by decide) ?_
          exact J_95 zv0 zv1 zs0 zv4 1 zv3 _ _ _ ls hf hw (lv_sub hl [1, 2, 0, 4] rfl)
      have J_70 : ∀ (zv0 : Nat) (zv1 : Int32) (zv2 : Int32) (zv3 : Int32) (zv4 : Int32) (zs0 : Int32) (zh : PH) (H : Heap) (locs : List Loc) (ls : Array Slot), f_X12_sure_70 N (gi (fun zk zs => f_X12_sure_30 N zk zs.1 zs.2.1 zs.2.2.1 zs.2.2.2.1 zs.2.2.2.2.1 zs.2.2.2.2.2) zn30) zv0 zv1 zv2 zv3 zv4 zs0 zh = some (r9, h9) → gw E s zh H locs → lv_has ls 6 [(0, .ref (gB E + zv0)), (1, .int zv1), (2, .int zv2), (3, .int zv3), (4, .int zv4)] → W p l e rm_X12_sure s m [.ref (gB E + za0), .int za1].toArray below meth c H locs 0 0 (MQ below (gQi E r9 h9) [.ref (gB E + za0), .int za1].toArray s 0 0 (gA E)) (F0 m 70 ls [.int zs0]) := by
        intro zv0 zv1 zv2 zv3 zv4 zs0 zh H locs ls hf hw hl
        unfold f_X12_sure_70 at hf
        refine lv_istore (lv' := [(5, .int zs0), (0, .ref (gB E + zv0)), (1, .int zv1), (2, .int zv2), (3, .int zv3), (4, .int zv4)]) hx hb dX12_sure_70 hl (by decide) rfl (fun ls hl => ?_)
        refine lv_iload hx hb dX12_sure_72 (lv_at hl 0 rfl) ?_
        refine lv_if_eq (tgt := 82) hx hb dX12_sure_74 (by decide) (fun qc1 => ?_) (fun qc1 => ?_)
        · have hf := gif_t hf qc1
          refine lv_iload_n hx hb dX12_sure_82 rfl (lv_at hl 3 rfl) ?_
          exact J_83 zv0 zv1 zv3 zv4 zs0 zv2 _ _ _ ls hf hw (lv_sub hl [1, 2, 4, 5, 0] rfl)
        · have hf := gif_f hf qc1
          refine lv_iload hx hb dX12_sure_77 (lv_at hl 5 rfl) ?_
          refine lv_goto (tgt := 83) hx hb dX12_sure_79 (by decide) ?_
          exact J_83 zv0 zv1 zv3 zv4 zs0 zv4 _ _ _ ls hf hw (lv_sub hl [1, 2, 4, 5, 0] rfl)
      have J_69 : ∀ (zv0 : Nat) (zv1 : Int32) (zv2 : Int32) (zv3 : Int32) (zv4 : Int32) (zh : PH) (H : Heap) (locs : List Loc) (ls : Array Slot), f_X12_sure_69 N (gi (fun zk zs => f_X12_sure_30 N zk zs.1 zs.2.1 zs.2.2.1 zs.2.2.2.1 zs.2.2.2.2.1 zs.2.2.2.2.2) zn30) zv0 zv1 zv2 zv3 zv4 zh = some (r9, h9) → gw E s zh H locs → lv_has ls 6 [(0, .ref (gB E + zv0)), (1, .int zv1), (2, .int zv2), (3, .int zv3), (4, .int zv4)] → W p l e rm_X12_sure s m [.ref (gB E + za0), .int za1].toArray below meth c H locs 0 0 (MQ below (gQi E r9 h9) [.ref (gB E + za0), .int za1].toArray s 0 0 (gA E)) (F0 m 69 ls []) := by
        intro zv0 zv1 zv2 zv3 zv4 zh H locs ls hf hw hl
        unfold f_X12_sure_69 at hf
        refine lv_iconst (v := 0) hx hb dX12_sure_69 (by decide) ?_
        exact J_70 zv0 zv1 zv2 zv3 zv4 0 _ _ _ ls hf hw (lv_sub hl [0, 1, 2, 3, 4] rfl)
      intro zv0 zv1 zv2 zv3 zv4 zh H locs ls hf hw hl
      have hf := gi_s hf
      dsimp only at hf
      unfold f_X12_sure_30 at hf
      refine lv_iload hx hb dX12_sure_30 (lv_at hl 4 rfl) ?_
      refine lv_aload_n hx hb dX12_sure_32 rfl (lv_at hl 0 rfl) ?_
      obtain ⟨qizh1, hf⟩ := gg_el hf
      obtain ⟨zt2, zh1, qzh1, hf⟩ := gc_el hf
      refine gx_ki (gx_runV (As := []) (rest := [.int zv4]) X hw (c_X12_rooms l E N zv0 zh qzh1) kX12_rooms mm_X12_231 qizh1 clX12 ⟨Nat.le_of_ble_eq_true rfl, Nat.le_of_ble_eq_true rfl⟩ rfl rfl rfl hl.1 (Nat.le_of_ble_eq_true rfl) rfl dX12_sure_33 ⟨Nat.le_of_ble_eq_true rfl, Nat.le_of_ble_eq_true rfl⟩) hw (fun H locs hw => ?_)
      refine lv_icmp_ge (tgt := 103) hx hb dX12_sure_36 (by decide) (fun qc3 => ?_) (fun qc3 => ?_)
      · have hf := gif_t hf qc3
        refine lv_iload_n hx hb dX12_sure_103 rfl (lv_at hl 3 rfl) ?_
        refine lv_iconst (v := 1) hx hb dX12_sure_104 (by decide) ?_
        refine lv_icmp_ne (tgt := 112) hx hb dX12_sure_105 (by decide) (fun qc4 => ?_) (fun qc4 => ?_)
        · have hf := gif_f hf qc4
          refine lv_iconst (v := (-1)) hx hb dX12_sure_112 (by decide) ?_
          exact J_113 (-1) _ _ _ ls hf hw (lv_sub hl [] rfl)
        · have hf := gif_t hf qc4
          refine lv_iload_n hx hb dX12_sure_108 rfl (lv_at hl 2 rfl) ?_
          refine lv_goto (tgt := 113) hx hb dX12_sure_109 (by decide) ?_
          exact J_113 zv2 _ _ _ ls hf hw (lv_sub hl [] rfl)
      · have hf := gif_f hf qc3
        refine lv_aload_n hx hb dX12_sure_39 rfl (lv_at hl 0 rfl) ?_
        refine lv_iload_n hx hb dX12_sure_40 rfl (lv_at hl 1 rfl) ?_
        obtain ⟨qizh5, hf⟩ := gg_el hf
        obtain ⟨zt6, zh5, qzh5, hf⟩ := gc_el hf
        refine gx_ki (gx_runV (As := [.int zv1]) (rest := []) X hw (c_X12_pageOf l E N zv0 zv1 zh1 qzh5) kX12_pageOf mm_X12_372 qizh5 clX12 ⟨Nat.le_of_ble_eq_true rfl, Nat.le_of_ble_eq_true rfl⟩ rfl rfl rfl hl.1 (Nat.le_of_ble_eq_true rfl) rfl dX12_sure_41 ⟨Nat.le_of_ble_eq_true rfl, Nat.le_of_ble_eq_true rfl⟩) hw (fun H locs hw => ?_)
        refine lv_iload hx hb dX12_sure_44 (lv_at hl 4 rfl) ?_
        refine lv_ishr hx hb dX12_sure_46 ?_
        refine W.eq (g2 := F0 m 47 ls [.int (zt6 >>> (zv4 &&& 31))]) rfl ?_
        refine lv_iconst (v := 1) hx hb dX12_sure_47 (by decide) ?_
        refine lv_iand hx hb dX12_sure_48 ?_
        refine lv_iconst (v := 1) hx hb dX12_sure_49 (by decide) ?_
        refine lv_icmp_ne (tgt := 69) hx hb dX12_sure_50 (by decide) (fun qc7 => ?_) (fun qc7 => ?_)
        · have hf := gif_f hf qc7
          exact J_69 zv0 zv1 zv2 zv3 zv4 _ _ _ ls hf hw (lv_sub hl [0, 1, 2, 3, 4] rfl)
        · have hf := gif_t hf qc7
          refine lv_aload_n hx hb dX12_sure_53 rfl (lv_at hl 0 rfl) ?_
          refine lv_iload_n hx hb dX12_sure_54 rfl (lv_at hl 1 rfl) ?_
          refine lv_iload hx hb dX12_sure_55 (lv_at hl 4 rfl) ?_
          obtain ⟨qizh8, hf⟩ := gg_el hf
          obtain ⟨zt9, zh8, qzh8, hf⟩ := gc_el hf
          refine gx_kl (gx_runV (As := [.int zv1, .int zv4]) (rest := []) X hw (c_X12_findWays l E N zv0 zv1 zv4 zh5 qzh8) kX12_findWays mm_X12_378 qizh8 clX12 ⟨Nat.le_of_ble_eq_true rfl, Nat.le_of_ble_eq_true rfl⟩ rfl rfl rfl hl.1 (Nat.le_of_ble_eq_true rfl) rfl dX12_sure_57 ⟨Nat.le_of_ble_eq_true rfl, Nat.le_of_ble_eq_true rfl⟩) hw (fun H locs hw => ?_)
          refine lv_lconst (v := 0) hx hb dX12_sure_60 (by decide) ?_
          refine W.lcmp hx hb dX12_sure_61 ?_
          refine W.eq (g2 := F0 m 62 ls [.int (lg_cmp zt9 0)]) rfl ?_
          refine lv_if_le (tgt := 69) hx hb dX12_sure_62 (by decide) (fun qc10 => ?_) (fun qc10 => ?_)
          · have hf := gif_t hf qc10
            exact J_69 zv0 zv1 zv2 zv3 zv4 _ _ _ ls hf hw (lv_sub hl [0, 1, 2, 3, 4] rfl)
          · have hf := gif_f hf qc10
            refine lv_iconst (v := 1) hx hb dX12_sure_65 (by decide) ?_
            refine lv_goto (tgt := 70) hx hb dX12_sure_66 (by decide) ?_
            exact J_70 zv0 zv1 zv2 zv3 zv4 1 _ _ _ ls hf hw (lv_sub hl [0, 1, 2, 3, 4] rfl)
  have J_21 : ∀ (zh : PH) (H : Heap) (locs : List Loc) (ls : Array Slot), f_X12_sure_21 N zh = some (r9, h9) → gw E s zh H locs → lv_has ls 6 [] → W p l e rm_X12_sure s m [.ref (gB E + za0), .int za1].toArray below meth c H locs 0 0 (MQ below (gQi E r9 h9) [.ref (gB E + za0), .int za1].toArray s 0 0 (gA E)) (F0 m 21 ls []) := by
    intro zh H locs ls hf hw hl
    unfold f_X12_sure_21 at hf
    refine lv_iconst (v := (-1)) hx hb dX12_sure_21 (by decide) ?_
    exact gx_iret X hr hlk hw hf dX12_sure_22
  unfold f_X12_sure at hf
  refine lv_aload_n hx hb dX12_sure_0 rfl (lv_at hl 0 rfl) ?_
  refine lv_iconst (v := 0) hx hb dX12_sure_1 (by decide) ?_
  obtain ⟨zh1, qzh1, hf⟩ := gb_el hf
  refine gx_putV X hw qzh1 clX12 (by decide) mf_X12_1 rfl rfl rfl dX12_sure_2 (fun H locs hw => ?_)
  refine lv_aload_n hx hb dX12_sure_5 rfl (lv_at hl 0 rfl) ?_
  refine lv_iload_n hx hb dX12_sure_6 rfl (lv_at hl 1 rfl) ?_
  obtain ⟨qizh2, hf⟩ := gg_el hf
  obtain ⟨zt3, zh2, qzh2, hf⟩ := gc_el hf
  refine gx_ki (gx_runV (As := [.int za1]) (rest := []) X hw (c_X12_isGuest l E N za0 za1 zh1 qzh2) kX12_isGuest mm_X12_312 qizh2 clX12 ⟨Nat.le_of_ble_eq_true rfl, Nat.le_of_ble_eq_true rfl⟩ rfl rfl rfl hl.1 (Nat.le_of_ble_eq_true rfl) rfl dX12_sure_7 ⟨Nat.le_of_ble_eq_true rfl, Nat.le_of_ble_eq_true rfl⟩) hw (fun H locs hw => ?_)
  refine lv_if_eq (tgt := 21) hx hb dX12_sure_10 (by decide) (fun qc4 => ?_) (fun qc4 => ?_)
  · have hf := gif_t hf qc4
    exact J_21  _ _ _ ls hf hw (lv_sub hl [] rfl)
  · have hf := gif_f hf qc4
    refine lv_aload_n hx hb dX12_sure_13 rfl (lv_at hl 0 rfl) ?_
    refine lv_iload_n hx hb dX12_sure_14 rfl (lv_at hl 1 rfl) ?_
    refine W.eq (g2 := F0 m 15 ls [.int za1, .ref (gB E + za0)]) rfl ?_
    obtain ⟨qizh5, hf⟩ := gg_el hf
    obtain ⟨zt6, zh5, qzh5, hf⟩ := gc_el hf
    refine gx_ki (gx_runV (As := [.int za1]) (rest := []) X hw (c_X12_pageOf l E N za0 za1 zh2 qzh5) kX12_pageOf mm_X12_372 qizh5 clX12 ⟨Nat.le_of_ble_eq_true rfl, Nat.le_of_ble_eq_true rfl⟩ rfl rfl rfl hl.1 (Nat.le_of_ble_eq_true rfl) rfl dX12_sure_15 ⟨Nat.le_of_ble_eq_true rfl, Nat.le_of_ble_eq_true rfl⟩) hw (fun H locs hw => ?_)
    refine lv_if_ne (tgt := 23) hx hb dX12_sure_18 (by decide) (fun qc7 => ?_) (fun qc7 => ?_)
    · have hf := gif_f hf qc7
      refine lv_iconst (v := (-1)) hx hb dX12_sure_23 (by decide) ?_
      refine lv_istore_n (lv' := [(2, .int (-1)), (0, .ref (gB E + za0)), (1, .int za1)]) hx hb dX12_sure_24 rfl hl (by decide) rfl (fun ls hl => ?_)
      refine lv_iconst (v := 0) hx hb dX12_sure_25 (by decide) ?_
      refine lv_istore_n (lv' := [(3, .int 0), (2, .int (-1)), (0, .ref (gB E + za0)), (1, .int za1)]) hx hb dX12_sure_26 rfl hl (by decide) rfl (fun ls hl => ?_)
      refine lv_iconst (v := 0) hx hb dX12_sure_27 (by decide) ?_
      refine lv_istore (lv' := [(4, .int 0), (3, .int 0), (2, .int (-1)), (0, .ref (gB E + za0)), (1, .int za1)]) hx hb dX12_sure_28 hl (by decide) rfl (fun ls hl => ?_)
      exact L_30 N za0 za1 (-1) 0 0 _ _ _ ls hf hw (lv_sub hl [3, 4, 2, 1, 0] rfl)
    · have hf := gif_t hf qc7
      exact J_21  _ _ _ ls hf hw (lv_sub hl [] rfl)
abbrev rm_X12_jobs : Room := { frames := 0, cells := 0, slots := 0, locals := 0 }
set_option maxHeartbeats 4000000 in
set_option maxRecDepth 100000 in
theorem c_X12_jobs (l : Launch) (E : gE) (N : Nat) (za0 : Nat) (zh : PH) {h9 : PH} {r9 : Int32} (hf : f_X12_jobs N za0 zh = some (r9, h9)) : Met l yX12_jobs (gWS yX12_jobs cX12_jobs 1 (some .int)) rm_X12_jobs (gPc E [.ref (gB E + za0)] zh) (gQi E r9 h9) 0 0 (gA E) := by
  refine gx_met (by decide) ?_ rfl
  intro p e s m below meth c X hr hlk hin2 hw
  have hx := X.1.1
  have hb := X.1.2.1
  have hl := lv_entry [.ref (gB E + za0)] (n := 1) (Nat.le_of_ble_eq_true rfl)
  rw [lg_entry_eq]
  generalize (lg_sl [.ref (gB E + za0)] ++ List.replicate (1 - (lg_sl [.ref (gB E + za0)]).length) Slot.unset).toArray = ls at hl ⊢
  have hl : lv_has ls 1 [(0, .ref (gB E + za0))] := hl
  unfold f_X12_jobs at hf
  refine lv_aload_n hx hb dX12_jobs_0 rfl (lv_at hl 0 rfl) ?_
  obtain ⟨zt1, qzt1, hf⟩ := gb_el hf
  refine gx_getR X hw qzt1 clX12 (by decide) mf_X12_83 dX12_jobs_1 ?_
  refine lv_sipush (v := 473) hx hb dX12_jobs_4 (by decide) ?_
  obtain ⟨zt2, qzt2, hf⟩ := gb_el hf
  refine gx_iald X hw qzt2 dX12_jobs_7 ?_
  exact gx_iret X hr hlk hw hf dX12_jobs_8
abbrev rm_X12_jobOf : Room := { frames := 0, cells := 0, slots := 0, locals := 0 }
set_option maxHeartbeats 4000000 in
set_option maxRecDepth 100000 in
theorem c_X12_jobOf (l : Launch) (E : gE) (N : Nat) (za0 : Nat) (za1 : Int32) (za2 : Int32) (zh : PH) {h9 : PH} {r9 : Int32} (hf : f_X12_jobOf N za0 za1 za2 zh = some (r9, h9)) : Met l yX12_jobOf (gWS yX12_jobOf cX12_jobOf 3 (some .int)) rm_X12_jobOf (gPc E [.ref (gB E + za0), .int za1, .int za2] zh) (gQi E r9 h9) 0 0 (gA E) := by
  refine gx_met (by decide) ?_ rfl
  intro p e s m below meth c X hr hlk hin2 hw
  have hx := X.1.1
  have hb := X.1.2.1
  have hl := lv_entry [.ref (gB E + za0), .int za1, .int za2] (n := 3) (Nat.le_of_ble_eq_true rfl)
  rw [lg_entry_eq]
  generalize (lg_sl [.ref (gB E + za0), .int za1, .int za2] ++ List.replicate (3 - (lg_sl [.ref (gB E + za0), .int za1, .int za2]).length) Slot.unset).toArray = ls at hl ⊢
  have hl : lv_has ls 3 [(0, .ref (gB E + za0)), (1, .int za1), (2, .int za2)] := hl
  unfold f_X12_jobOf at hf
  refine lv_aload_n hx hb dX12_jobOf_0 rfl (lv_at hl 0 rfl) ?_
  obtain ⟨zt1, qzt1, hf⟩ := gb_el hf
  refine gx_getR X hw qzt1 clX12 (by decide) mf_X12_83 dX12_jobOf_1 ?_
  refine lv_sipush (v := 474) hx hb dX12_jobOf_4 (by decide) ?_
  refine lv_iconst (v := 3) hx hb dX12_jobOf_7 (by decide) ?_
  refine lv_iload_n hx hb dX12_jobOf_8 rfl (lv_at hl 1 rfl) ?_
  refine lv_imul hx hb dX12_jobOf_9 ?_
  refine lv_iadd hx hb dX12_jobOf_10 ?_
  refine lv_iload_n hx hb dX12_jobOf_11 rfl (lv_at hl 2 rfl) ?_
  refine lv_iadd hx hb dX12_jobOf_12 ?_
  refine W.eq (g2 := F0 m 13 ls [.int ((474 + (3 * za1)) + za2), .ref (gB E + zt1)]) rfl ?_
  obtain ⟨zt2, qzt2, hf⟩ := gb_el hf
  refine gx_iald X hw qzt2 dX12_jobOf_13 ?_
  exact gx_iret X hr hlk hw hf dX12_jobOf_14
abbrev rm_X12_job : Room := { frames := 1, cells := 0, slots := 0, locals := 22 }
set_option maxHeartbeats 4000000 in
set_option maxRecDepth 100000 in
theorem c_X12_job (l : Launch) (E : gE) (N : Nat) (za0 : Nat) (za1 : Int32) (za2 : Int32) (za3 : Int32) (zh : PH) {h9 : PH} {r9 : Int32} (hf : f_X12_job N za0 za1 za2 za3 zh = some (r9, h9)) : Met l yX12_job (gWS yX12_job cX12_job 5 (some .int)) rm_X12_job (gPc E [.ref (gB E + za0), .int za1, .int za2, .int za3] zh) (gQi E r9 h9) 0 0 (gA E) := by
  refine gx_met (by decide) ?_ rfl
  intro p e s m below meth c X hr hlk hin2 hw
  have hx := X.1.1
  have hb := X.1.2.1
  have hl := lv_entry [.ref (gB E + za0), .int za1, .int za2, .int za3] (n := 5) (Nat.le_of_ble_eq_true rfl)
  rw [lg_entry_eq]
  generalize (lg_sl [.ref (gB E + za0), .int za1, .int za2, .int za3] ++ List.replicate (5 - (lg_sl [.ref (gB E + za0), .int za1, .int za2, .int za3]).length) Slot.unset).toArray = ls at hl ⊢
  have hl : lv_has ls 5 [(0, .ref (gB E + za0)), (1, .int za1), (2, .int za2), (3, .int za3)] := hl
  have J_44 : ∀ (zh : PH) (H : Heap) (locs : List Loc) (ls : Array Slot), f_X12_job_44 N zh = some (r9, h9) → gw E s zh H locs → lv_has ls 5 [] → W p l e rm_X12_job s m [.ref (gB E + za0), .int za1, .int za2, .int za3].toArray below meth c H locs 0 0 (MQ below (gQi E r9 h9) [.ref (gB E + za0), .int za1, .int za2, .int za3].toArray s 0 0 (gA E)) (F0 m 44 ls []) := by
    intro zh H locs ls hf hw hl
    unfold f_X12_job_44 at hf
    refine lv_iconst (v := (-1)) hx hb dX12_job_44 (by decide) ?_
    exact gx_iret X hr hlk hw hf dX12_job_45
  unfold f_X12_job at hf
  refine lv_aload_n hx hb dX12_job_0 rfl (lv_at hl 0 rfl) ?_
  refine lv_iconst (v := 0) hx hb dX12_job_1 (by decide) ?_
  obtain ⟨zh1, qzh1, hf⟩ := gb_el hf
  refine gx_putV X hw qzh1 clX12 (by decide) mf_X12_1 rfl rfl rfl dX12_job_2 (fun H locs hw => ?_)
  refine lv_iload_n hx hb dX12_job_5 rfl (lv_at hl 1 rfl) ?_
  refine lv_iconst (v := 0) hx hb dX12_job_6 (by decide) ?_
  refine lv_bipush (v := 99) hx hb dX12_job_7 (by decide) ?_
  obtain ⟨zt3, zh2, qzh2, hf⟩ := gc_el hf
  refine gx_ki (gx_runS (As := [.int za1, .int 0, .int 99]) (rest := []) X hw (c_X12_within l E N za1 0 99 zh1 qzh2) kX12_within mm_X12_304 ⟨Nat.le_of_ble_eq_true rfl, Nat.le_of_ble_eq_true rfl⟩ rfl rfl rfl hl.1 (Nat.le_of_ble_eq_true rfl) rfl dX12_job_9 ⟨Nat.le_of_ble_eq_true rfl, Nat.le_of_ble_eq_true rfl⟩) hw (fun H locs hw => ?_)
  refine lv_if_eq (tgt := 44) hx hb dX12_job_12 (by decide) (fun qc4 => ?_) (fun qc4 => ?_)
  · have hf := gif_t hf qc4
    exact J_44  _ _ _ ls hf hw (lv_sub hl [] rfl)
  · have hf := gif_f hf qc4
    refine lv_iload_n hx hb dX12_job_15 rfl (lv_at hl 2 rfl) ?_
    refine W.eq (g2 := F0 m 16 ls [.int za2]) rfl ?_
    refine lv_iconst (v := 1) hx hb dX12_job_16 (by decide) ?_
    refine lv_bipush (v := 99) hx hb dX12_job_17 (by decide) ?_
    obtain ⟨zt6, zh5, qzh5, hf⟩ := gc_el hf
    refine gx_ki (gx_runS (As := [.int za2, .int 1, .int 99]) (rest := []) X hw (c_X12_within l E N za2 1 99 zh2 qzh5) kX12_within mm_X12_304 ⟨Nat.le_of_ble_eq_true rfl, Nat.le_of_ble_eq_true rfl⟩ rfl rfl rfl hl.1 (Nat.le_of_ble_eq_true rfl) rfl dX12_job_19 ⟨Nat.le_of_ble_eq_true rfl, Nat.le_of_ble_eq_true rfl⟩) hw (fun H locs hw => ?_)
    refine lv_if_eq (tgt := 44) hx hb dX12_job_22 (by decide) (fun qc7 => ?_) (fun qc7 => ?_)
    · have hf := gif_t hf qc7
      exact J_44  _ _ _ ls hf hw (lv_sub hl [] rfl)
    · have hf := gif_f hf qc7
      refine lv_iload_n hx hb dX12_job_25 rfl (lv_at hl 3 rfl) ?_
      refine lv_iconst (v := 0) hx hb dX12_job_26 (by decide) ?_
      refine lv_bipush (v := 99) hx hb dX12_job_27 (by decide) ?_
      obtain ⟨zt9, zh8, qzh8, hf⟩ := gc_el hf
      refine gx_ki (gx_runS (As := [.int za3, .int 0, .int 99]) (rest := []) X hw (c_X12_within l E N za3 0 99 zh5 qzh8) kX12_within mm_X12_304 ⟨Nat.le_of_ble_eq_true rfl, Nat.le_of_ble_eq_true rfl⟩ rfl rfl rfl hl.1 (Nat.le_of_ble_eq_true rfl) rfl dX12_job_29 ⟨Nat.le_of_ble_eq_true rfl, Nat.le_of_ble_eq_true rfl⟩) hw (fun H locs hw => ?_)
      refine lv_if_eq (tgt := 44) hx hb dX12_job_32 (by decide) (fun qc10 => ?_) (fun qc10 => ?_)
      · have hf := gif_t hf qc10
        exact J_44  _ _ _ ls hf hw (lv_sub hl [] rfl)
      · have hf := gif_f hf qc10
        refine lv_aload_n hx hb dX12_job_35 rfl (lv_at hl 0 rfl) ?_
        refine W.eq (g2 := F0 m 36 ls [.ref (gB E + za0)]) rfl ?_
        obtain ⟨qizh11, hf⟩ := gg_el hf
        obtain ⟨zt12, zh11, qzh11, hf⟩ := gc_el hf
        refine gx_ki (gx_runV (As := []) (rest := []) X hw (c_X12_jobs l E N za0 zh8 qzh11) kX12_jobs mm_X12_382 qizh11 clX12 ⟨Nat.le_of_ble_eq_true rfl, Nat.le_of_ble_eq_true rfl⟩ rfl rfl rfl hl.1 (Nat.le_of_ble_eq_true rfl) rfl dX12_job_36 ⟨Nat.le_of_ble_eq_true rfl, Nat.le_of_ble_eq_true rfl⟩) hw (fun H locs hw => ?_)
        refine lv_bipush (v := 7) hx hb dX12_job_39 (by decide) ?_
        refine lv_icmp_ne (tgt := 46) hx hb dX12_job_41 (by decide) (fun qc13 => ?_) (fun qc13 => ?_)
        · have hf := gif_f hf qc13
          refine lv_sipush (v := 474) hx hb dX12_job_46 (by decide) ?_
          refine lv_iconst (v := 3) hx hb dX12_job_49 (by decide) ?_
          refine lv_aload_n hx hb dX12_job_50 rfl (lv_at hl 0 rfl) ?_
          obtain ⟨qizh14, hf⟩ := gg_el hf
          obtain ⟨zt15, zh14, qzh14, hf⟩ := gc_el hf
          refine gx_ki (gx_runV (As := []) (rest := [.int 3, .int 474]) X hw (c_X12_jobs l E N za0 zh11 qzh14) kX12_jobs mm_X12_382 qizh14 clX12 ⟨Nat.le_of_ble_eq_true rfl, Nat.le_of_ble_eq_true rfl⟩ rfl rfl rfl hl.1 (Nat.le_of_ble_eq_true rfl) rfl dX12_job_51 ⟨Nat.le_of_ble_eq_true rfl, Nat.le_of_ble_eq_true rfl⟩) hw (fun H locs hw => ?_)
          refine lv_imul hx hb dX12_job_54 ?_
          refine lv_iadd hx hb dX12_job_55 ?_
          refine lv_topi (fun zx16 ezx16 => ?_)
          have hf := gl_el hf ezx16
          refine lv_istore (lv' := [(4, .int zx16), (0, .ref (gB E + za0)), (1, .int za1), (2, .int za2), (3, .int za3)]) hx hb dX12_job_56 hl (by decide) rfl (fun ls hl => ?_)
          refine W.eq (g2 := F0 m 58 ls []) rfl ?_
          refine lv_aload_n hx hb dX12_job_58 rfl (lv_at hl 1 rfl) ?_
          obtain ⟨zt17, qzt17, hf⟩ := gb_el hf
          refine gx_getR X hw qzt17 clX12 (by decide) mf_X12_83 dX12_job_59 ?_
          refine lv_iload hx hb dX12_job_62 (lv_at hl 0 rfl) ?_
          refine lv_iload_n hx hb dX12_job_64 rfl (lv_at hl 2 rfl) ?_
          obtain ⟨zh18, qzh18, hf⟩ := gb_el hf
          refine gx_iast X hw qzh18 dX12_job_65 (fun H locs hw => ?_)
          refine lv_aload_n hx hb dX12_job_66 rfl (lv_at hl 1 rfl) ?_
          obtain ⟨zt19, qzt19, hf⟩ := gb_el hf
          refine gx_getR X hw qzt19 clX12 (by decide) mf_X12_83 dX12_job_67 ?_
          refine lv_iload hx hb dX12_job_70 (lv_at hl 0 rfl) ?_
          refine lv_iconst (v := 1) hx hb dX12_job_72 (by decide) ?_
          refine lv_iadd hx hb dX12_job_73 ?_
          refine W.eq (g2 := F0 m 74 ls [.int (zx16 + 1), .ref (gB E + zt19)]) rfl ?_
          refine lv_iload_n hx hb dX12_job_74 rfl (lv_at hl 3 rfl) ?_
          obtain ⟨zh20, qzh20, hf⟩ := gb_el hf
          refine gx_iast X hw qzh20 dX12_job_75 (fun H locs hw => ?_)
          refine lv_aload_n hx hb dX12_job_76 rfl (lv_at hl 1 rfl) ?_
          obtain ⟨zt21, qzt21, hf⟩ := gb_el hf
          refine gx_getR X hw qzt21 clX12 (by decide) mf_X12_83 dX12_job_77 ?_
          refine lv_iload hx hb dX12_job_80 (lv_at hl 0 rfl) ?_
          refine lv_iconst (v := 2) hx hb dX12_job_82 (by decide) ?_
          refine lv_iadd hx hb dX12_job_83 ?_
          refine lv_iload_n hx hb dX12_job_84 rfl (lv_at hl 4 rfl) ?_
          obtain ⟨zh22, qzh22, hf⟩ := gb_el hf
          refine gx_iast X hw qzh22 dX12_job_85 (fun H locs hw => ?_)
          refine lv_aload_n hx hb dX12_job_86 rfl (lv_at hl 1 rfl) ?_
          refine W.eq (g2 := F0 m 87 ls [.ref (gB E + za0)]) rfl ?_
          obtain ⟨zt23, qzt23, hf⟩ := gb_el hf
          refine gx_getR X hw qzt23 clX12 (by decide) mf_X12_83 dX12_job_87 ?_
          refine lv_sipush (v := 473) hx hb dX12_job_90 (by decide) ?_
          refine lv_dup2_11 hx hb dX12_job_93 rfl rfl ?_
          obtain ⟨zt24, qzt24, hf⟩ := gb_el hf
          refine gx_iald X hw qzt24 dX12_job_94 ?_
          refine lv_iconst (v := 1) hx hb dX12_job_95 (by decide) ?_
          refine lv_iadd hx hb dX12_job_96 ?_
          obtain ⟨zh25, qzh25, hf⟩ := gb_el hf
          refine gx_iast X hw qzh25 dX12_job_97 (fun H locs hw => ?_)
          refine lv_aload_n hx hb dX12_job_98 rfl (lv_at hl 1 rfl) ?_
          obtain ⟨qizh26, hf⟩ := gg_el hf
          obtain ⟨zt27, zh26, qzh26, hf⟩ := gc_el hf
          refine gx_ki (gx_runV (As := []) (rest := []) X hw (c_X12_jobs l E N za0 zh25 qzh26) kX12_jobs mm_X12_382 qizh26 clX12 ⟨Nat.le_of_ble_eq_true rfl, Nat.le_of_ble_eq_true rfl⟩ rfl rfl rfl hl.1 (Nat.le_of_ble_eq_true rfl) rfl dX12_job_99 ⟨Nat.le_of_ble_eq_true rfl, Nat.le_of_ble_eq_true rfl⟩) hw (fun H locs hw => ?_)
          exact gx_iret X hr hlk hw hf dX12_job_102
        · have hf := gif_t hf qc13
          exact J_44  _ _ _ ls hf hw (lv_sub hl [] rfl)
abbrev rm_X12_doneBy : Room := { frames := 1, cells := 0, slots := 0, locals := 22 }
set_option maxHeartbeats 4000000 in
set_option maxRecDepth 100000 in
theorem c_X12_doneBy (l : Launch) (E : gE) (N : Nat) (za0 : Nat) (za1 : Nat) (zh : PH) {h9 : PH} {r9 : Int32} (hf : f_X12_doneBy N za0 za1 zh = some (r9, h9)) : Met l yX12_doneBy (gWS yX12_doneBy cX12_doneBy 7 (some .int)) rm_X12_doneBy (gPc E [.ref (gB E + za0), .ref (gB E + za1)] zh) (gQi E r9 h9) 0 0 (gA E) := by
  refine gx_met (by decide) ?_ rfl
  intro p e s m below meth c X hr hlk hin2 hw
  have hx := X.1.1
  have hb := X.1.2.1
  have hl := lv_entry [.ref (gB E + za0), .ref (gB E + za1)] (n := 7) (Nat.le_of_ble_eq_true rfl)
  rw [lg_entry_eq]
  generalize (lg_sl [.ref (gB E + za0), .ref (gB E + za1)] ++ List.replicate (7 - (lg_sl [.ref (gB E + za0), .ref (gB E + za1)]).length) Slot.unset).toArray = ls at hl ⊢
  have hl : lv_has ls 7 [(0, .ref (gB E + za0)), (1, .ref (gB E + za1))] := hl
  have L_12 : ∀ (zn12 : Nat) (zv0 : Nat) (zv1 : Nat) (zv2 : Int32) (zv3 : Int32) (zv4 : Int32) (zh : PH) (H : Heap) (locs : List Loc) (ls : Array Slot), gi (fun zk zs => f_X12_doneBy_12 N zk zs.1 zs.2.1 zs.2.2.1 zs.2.2.2.1 zs.2.2.2.2.1 zs.2.2.2.2.2) zn12 (zv0, zv1, zv2, zv3, zv4, zh) = some (r9, h9) → gw E s zh H locs → lv_has ls 7 [(0, .ref (gB E + zv0)), (1, .ref (gB E + zv1)), (2, .int zv2), (3, .int zv3), (4, .int zv4)] → W p l e rm_X12_doneBy s m [.ref (gB E + za0), .ref (gB E + za1)].toArray below meth c H locs 0 0 (MQ below (gQi E r9 h9) [.ref (gB E + za0), .ref (gB E + za1)].toArray s 0 0 (gA E)) (F0 m 12 ls []) := by
    intro zn12
    induction zn12 with
    | zero =>
      intro zv0 zv1 zv2 zv3 zv4 zh H locs ls hf
      cases hf
    | succ zn12 ih_12 =>
      have J_136 : ∀ (zv0 : Nat) (zv1 : Nat) (zv2 : Int32) (zv4 : Int32) (zs0 : Int32) (zh : PH) (H : Heap) (locs : List Loc) (ls : Array Slot), f_X12_doneBy_136 N (gi (fun zk zs => f_X12_doneBy_12 N zk zs.1 zs.2.1 zs.2.2.1 zs.2.2.2.1 zs.2.2.2.2.1 zs.2.2.2.2.2) zn12) zv0 zv1 zv2 zv4 zs0 zh = some (r9, h9) → gw E s zh H locs → lv_has ls 7 [(0, .ref (gB E + zv0)), (1, .ref (gB E + zv1)), (2, .int zv2), (4, .int zv4)] → W p l e rm_X12_doneBy s m [.ref (gB E + za0), .ref (gB E + za1)].toArray below meth c H locs 0 0 (MQ below (gQi E r9 h9) [.ref (gB E + za0), .ref (gB E + za1)].toArray s 0 0 (gA E)) (F0 m 136 ls [.int zs0]) := by
        intro zv0 zv1 zv2 zv4 zs0 zh H locs ls hf hw hl
        unfold f_X12_doneBy_136 at hf
        refine lv_istore_n (lv' := [(3, .int zs0), (0, .ref (gB E + zv0)), (1, .ref (gB E + zv1)), (2, .int zv2), (4, .int zv4)]) hx hb dX12_doneBy_136 rfl hl (by decide) rfl (fun ls hl => ?_)
        obtain ⟨zx1, ezx1⟩ : ∃ y : Int32, y = zv4 + 1 := ⟨_, rfl⟩
        have hf := gl_el hf ezx1
        refine lv_iinc (v := zx1) (lv' := [(4, .int zx1), (3, .int zs0), (0, .ref (gB E + zv0)), (1, .ref (gB E + zv1)), (2, .int zv2)]) hx hb dX12_doneBy_137 hl (k := 4) rfl (by rw [ezx1]; rfl) (by decide) rfl (fun ls hl => ?_)
        refine lv_goto (tgt := 12) hx hb dX12_doneBy_140 (by decide) ?_
        exact ih_12 zv0 zv1 zv2 zs0 zx1 _ _ _ ls hf hw (lv_sub hl [2, 3, 4, 1, 0] rfl)
      have J_49 : ∀ (zv0 : Nat) (zv1 : Nat) (zv3 : Int32) (zv4 : Int32) (zv5 : Int32) (zs0 : Int32) (zh : PH) (H : Heap) (locs : List Loc) (ls : Array Slot), f_X12_doneBy_49 N (gi (fun zk zs => f_X12_doneBy_12 N zk zs.1 zs.2.1 zs.2.2.1 zs.2.2.2.1 zs.2.2.2.2.1 zs.2.2.2.2.2) zn12) zv0 zv1 zv3 zv4 zv5 zs0 zh = some (r9, h9) → gw E s zh H locs → lv_has ls 7 [(0, .ref (gB E + zv0)), (1, .ref (gB E + zv1)), (3, .int zv3), (4, .int zv4), (5, .int zv5)] → W p l e rm_X12_doneBy s m [.ref (gB E + za0), .ref (gB E + za1)].toArray below meth c H locs 0 0 (MQ below (gQi E r9 h9) [.ref (gB E + za0), .ref (gB E + za1)].toArray s 0 0 (gA E)) (F0 m 49 ls [.int zs0]) := by
        intro zv0 zv1 zv3 zv4 zv5 zs0 zh H locs ls hf hw hl
        unfold f_X12_doneBy_49 at hf
        refine lv_istore (lv' := [(6, .int zs0), (0, .ref (gB E + zv0)), (1, .ref (gB E + zv1)), (3, .int zv3), (4, .int zv4), (5, .int zv5)]) hx hb dX12_doneBy_49 hl (by decide) rfl (fun ls hl => ?_)
        refine lv_aload_n hx hb dX12_doneBy_51 rfl (lv_at hl 1 rfl) ?_
        refine lv_dup hx hb dX12_doneBy_52 rfl ?_
        obtain ⟨zt1, qzt1, hf⟩ := gb_el hf
        refine gx_getI X hw qzt1 clX12 (by decide) mf_X12_385 dX12_doneBy_53 ?_
        refine lv_iload hx hb dX12_doneBy_56 (lv_at hl 0 rfl) ?_
        refine lv_aload_n hx hb dX12_doneBy_58 rfl (lv_at hl 1 rfl) ?_
        refine lv_iload hx hb dX12_doneBy_59 (lv_at hl 5 rfl) ?_
        refine lv_iconst (v := 0) hx hb dX12_doneBy_61 (by decide) ?_
        obtain ⟨qizh2, hf⟩ := gg_el hf
        obtain ⟨zt3, zh2, qzh2, hf⟩ := gc_el hf
        refine gx_ki (gx_runV (As := [.int zv5, .int 0]) (rest := [.int zs0, .int zt1, .ref (gB E + zv0)]) X hw (c_X12_jobOf l E N zv0 zv5 0 zh qzh2) kX12_jobOf mm_X12_388 qizh2 clX12 ⟨Nat.le_of_ble_eq_true rfl, Nat.le_of_ble_eq_true rfl⟩ rfl rfl rfl hl.1 (Nat.le_of_ble_eq_true rfl) rfl dX12_doneBy_62 ⟨Nat.le_of_ble_eq_true rfl, Nat.le_of_ble_eq_true rfl⟩) hw (fun H locs hw => ?_)
        refine W.eq (g2 := F0 m 65 ls [.int zt3, .int zs0, .int zt1, .ref (gB E + zv0)]) rfl ?_
        refine lv_isub hx hb dX12_doneBy_65 ?_
        refine lv_iadd hx hb dX12_doneBy_66 ?_
        obtain ⟨zh4, qzh4, hf⟩ := gb_el hf
        refine gx_putV X hw qzh4 clX12 (by decide) mf_X12_385 rfl rfl rfl dX12_doneBy_67 (fun H locs hw => ?_)
        refine lv_iload hx hb dX12_doneBy_70 (lv_at hl 0 rfl) ?_
        refine lv_aload_n hx hb dX12_doneBy_72 rfl (lv_at hl 1 rfl) ?_
        refine lv_iload hx hb dX12_doneBy_73 (lv_at hl 5 rfl) ?_
        refine lv_iconst (v := 1) hx hb dX12_doneBy_75 (by decide) ?_
        obtain ⟨qizh5, hf⟩ := gg_el hf
        obtain ⟨zt6, zh5, qzh5, hf⟩ := gc_el hf
        refine gx_ki (gx_runV (As := [.int zv5, .int 1]) (rest := [.int zs0]) X hw (c_X12_jobOf l E N zv0 zv5 1 zh4 qzh5) kX12_jobOf mm_X12_388 qizh5 clX12 ⟨Nat.le_of_ble_eq_true rfl, Nat.le_of_ble_eq_true rfl⟩ rfl rfl rfl hl.1 (Nat.le_of_ble_eq_true rfl) rfl dX12_doneBy_76 ⟨Nat.le_of_ble_eq_true rfl, Nat.le_of_ble_eq_true rfl⟩) hw (fun H locs hw => ?_)
        refine lv_iadd hx hb dX12_doneBy_79 ?_
        refine lv_topi (fun zx7 ezx7 => ?_)
        have hf := gl_el hf ezx7
        refine lv_istore_n (lv' := [(2, .int zx7), (6, .int zs0), (0, .ref (gB E + zv0)), (1, .ref (gB E + zv1)), (3, .int zv3), (4, .int zv4), (5, .int zv5)]) hx hb dX12_doneBy_80 rfl hl (by decide) rfl (fun ls hl => ?_)
        refine W.eq (g2 := F0 m 81 ls []) rfl ?_
        refine lv_aload_n hx hb dX12_doneBy_81 rfl (lv_at hl 2 rfl) ?_
        obtain ⟨zt8, qzt8, hf⟩ := gb_el hf
        refine gx_getR X hw qzt8 clX12 (by decide) mf_X12_111 dX12_doneBy_82 ?_
        refine lv_iload hx hb dX12_doneBy_85 (lv_at hl 6 rfl) ?_
        refine lv_iload hx hb dX12_doneBy_87 (lv_at hl 1 rfl) ?_
        refine lv_aload_n hx hb dX12_doneBy_89 rfl (lv_at hl 2 rfl) ?_
        refine lv_iload hx hb dX12_doneBy_90 (lv_at hl 6 rfl) ?_
        refine lv_iconst (v := 0) hx hb dX12_doneBy_92 (by decide) ?_
        obtain ⟨qizh9, hf⟩ := gg_el hf
        obtain ⟨zt10, zh9, qzh9, hf⟩ := gc_el hf
        refine gx_ki (gx_runV (As := [.int zv5, .int 0]) (rest := [.int zs0, .int zv5, .ref (gB E + zt8)]) X hw (c_X12_jobOf l E N zv0 zv5 0 zh5 qzh9) kX12_jobOf mm_X12_388 qizh9 clX12 ⟨Nat.le_of_ble_eq_true rfl, Nat.le_of_ble_eq_true rfl⟩ rfl rfl rfl hl.1 (Nat.le_of_ble_eq_true rfl) rfl dX12_doneBy_93 ⟨Nat.le_of_ble_eq_true rfl, Nat.le_of_ble_eq_true rfl⟩) hw (fun H locs hw => ?_)
        refine lv_isub hx hb dX12_doneBy_96 ?_
        obtain ⟨zh11, qzh11, hf⟩ := gb_el hf
        refine gx_iast X hw qzh11 dX12_doneBy_97 (fun H locs hw => ?_)
        refine W.eq (g2 := F0 m 98 ls []) rfl ?_
        refine lv_aload_n hx hb dX12_doneBy_98 rfl (lv_at hl 2 rfl) ?_
        obtain ⟨zt12, qzt12, hf⟩ := gb_el hf
        refine gx_getR X hw qzt12 clX12 (by decide) mf_X12_114 dX12_doneBy_99 ?_
        refine lv_iload hx hb dX12_doneBy_102 (lv_at hl 6 rfl) ?_
        refine lv_iload_n hx hb dX12_doneBy_104 rfl (lv_at hl 0 rfl) ?_
        refine lv_aload_n hx hb dX12_doneBy_105 rfl (lv_at hl 2 rfl) ?_
        refine lv_iload hx hb dX12_doneBy_106 (lv_at hl 6 rfl) ?_
        refine lv_iconst (v := 2) hx hb dX12_doneBy_108 (by decide) ?_
        obtain ⟨qizh13, hf⟩ := gg_el hf
        obtain ⟨zt14, zh13, qzh13, hf⟩ := gc_el hf
        refine gx_ki (gx_runV (As := [.int zv5, .int 2]) (rest := [.int zx7, .int zv5, .ref (gB E + zt12)]) X hw (c_X12_jobOf l E N zv0 zv5 2 zh11 qzh13) kX12_jobOf mm_X12_388 qizh13 clX12 ⟨Nat.le_of_ble_eq_true rfl, Nat.le_of_ble_eq_true rfl⟩ rfl rfl rfl hl.1 (Nat.le_of_ble_eq_true rfl) rfl dX12_doneBy_109 ⟨Nat.le_of_ble_eq_true rfl, Nat.le_of_ble_eq_true rfl⟩) hw (fun H locs hw => ?_)
        refine lv_iadd hx hb dX12_doneBy_112 ?_
        obtain ⟨zh15, qzh15, hf⟩ := gb_el hf
        refine gx_iast X hw qzh15 dX12_doneBy_113 (fun H locs hw => ?_)
        refine W.eq (g2 := F0 m 114 ls []) rfl ?_
        refine lv_aload_n hx hb dX12_doneBy_114 rfl (lv_at hl 2 rfl) ?_
        obtain ⟨zt16, qzt16, hf⟩ := gb_el hf
        refine gx_getR X hw qzt16 clX12 (by decide) mf_X12_114 dX12_doneBy_115 ?_
        refine lv_iload hx hb dX12_doneBy_118 (lv_at hl 6 rfl) ?_
        obtain ⟨zt17, qzt17, hf⟩ := gb_el hf
        refine gx_iald X hw qzt17 dX12_doneBy_120 ?_
        refine lv_iload_n hx hb dX12_doneBy_121 rfl (lv_at hl 4 rfl) ?_
        refine lv_icmp_le (tgt := 135) hx hb dX12_doneBy_122 (by decide) (fun qc18 => ?_) (fun qc18 => ?_)
        · have hf := gif_t hf qc18
          refine lv_iload_n hx hb dX12_doneBy_135 rfl (lv_at hl 4 rfl) ?_
          exact J_136 zv0 zv1 zx7 zv4 zv3 _ _ _ ls hf hw (lv_sub hl [2, 3, 0, 5] rfl)
        · have hf := gif_f hf qc18
          refine lv_aload_n hx hb dX12_doneBy_125 rfl (lv_at hl 2 rfl) ?_
          obtain ⟨zt19, qzt19, hf⟩ := gb_el hf
          refine gx_getR X hw qzt19 clX12 (by decide) mf_X12_114 dX12_doneBy_126 ?_
          refine lv_iload hx hb dX12_doneBy_129 (lv_at hl 6 rfl) ?_
          obtain ⟨zt20, qzt20, hf⟩ := gb_el hf
          refine gx_iald X hw qzt20 dX12_doneBy_131 ?_
          refine W.eq (g2 := F0 m 132 ls [.int zt20]) rfl ?_
          refine lv_goto (tgt := 136) hx hb dX12_doneBy_132 (by decide) ?_
          exact J_136 zv0 zv1 zx7 zv4 zt20 _ _ _ ls hf hw (lv_sub hl [2, 3, 0, 5] rfl)
      intro zv0 zv1 zv2 zv3 zv4 zh H locs ls hf hw hl
      have hf := gi_s hf
      dsimp only at hf
      unfold f_X12_doneBy_12 at hf
      refine lv_iload hx hb dX12_doneBy_12 (lv_at hl 4 rfl) ?_
      refine lv_aload_n hx hb dX12_doneBy_14 rfl (lv_at hl 0 rfl) ?_
      obtain ⟨qizh1, hf⟩ := gg_el hf
      obtain ⟨zt2, zh1, qzh1, hf⟩ := gc_el hf
      refine gx_ki (gx_runV (As := []) (rest := [.int zv4]) X hw (c_X12_jobs l E N zv0 zh qzh1) kX12_jobs mm_X12_382 qizh1 clX12 ⟨Nat.le_of_ble_eq_true rfl, Nat.le_of_ble_eq_true rfl⟩ rfl rfl rfl hl.1 (Nat.le_of_ble_eq_true rfl) rfl dX12_doneBy_15 ⟨Nat.le_of_ble_eq_true rfl, Nat.le_of_ble_eq_true rfl⟩) hw (fun H locs hw => ?_)
      refine lv_icmp_ge (tgt := 143) hx hb dX12_doneBy_18 (by decide) (fun qc3 => ?_) (fun qc3 => ?_)
      · have hf := gif_t hf qc3
        refine lv_iload_n hx hb dX12_doneBy_143 rfl (lv_at hl 3 rfl) ?_
        exact gx_iret X hr hlk hw hf dX12_doneBy_144
      · have hf := gif_f hf qc3
        refine lv_aload_n hx hb dX12_doneBy_21 rfl (lv_at hl 1 rfl) ?_
        refine lv_iload hx hb dX12_doneBy_22 (lv_at hl 4 rfl) ?_
        obtain ⟨zt4, qzt4, hf⟩ := gb_el hf
        refine gx_iald X hw qzt4 dX12_doneBy_24 ?_
        refine lv_istore (lv' := [(5, .int zt4), (0, .ref (gB E + zv0)), (1, .ref (gB E + zv1)), (2, .int zv2), (3, .int zv3), (4, .int zv4)]) hx hb dX12_doneBy_25 hl (by decide) rfl (fun ls hl => ?_)
        refine lv_iload_n hx hb dX12_doneBy_27 rfl (lv_at hl 3 rfl) ?_
        refine W.eq (g2 := F0 m 28 ls [.int zv2]) rfl ?_
        refine lv_aload_n hx hb dX12_doneBy_28 rfl (lv_at hl 1 rfl) ?_
        refine lv_iload hx hb dX12_doneBy_29 (lv_at hl 0 rfl) ?_
        refine lv_iconst (v := 0) hx hb dX12_doneBy_31 (by decide) ?_
        obtain ⟨qizh5, hf⟩ := gg_el hf
        obtain ⟨zt6, zh5, qzh5, hf⟩ := gc_el hf
        refine gx_ki (gx_runV (As := [.int zt4, .int 0]) (rest := [.int zv2]) X hw (c_X12_jobOf l E N zv0 zt4 0 zh1 qzh5) kX12_jobOf mm_X12_388 qizh5 clX12 ⟨Nat.le_of_ble_eq_true rfl, Nat.le_of_ble_eq_true rfl⟩ rfl rfl rfl hl.1 (Nat.le_of_ble_eq_true rfl) rfl dX12_doneBy_32 ⟨Nat.le_of_ble_eq_true rfl, Nat.le_of_ble_eq_true rfl⟩) hw (fun H locs hw => ?_)
        refine lv_icmp_ge (tgt := 48) hx hb dX12_doneBy_35 (by decide) (fun qc7 => ?_) (fun qc7 => ?_)
        · have hf := gif_t hf qc7
          refine lv_iload_n hx hb dX12_doneBy_48 rfl (lv_at hl 3 rfl) ?_
          exact J_49 zv0 zv1 zv3 zv4 zt4 zv2 _ _ _ ls hf hw (lv_sub hl [1, 2, 4, 5, 0] rfl)
        · have hf := gif_f hf qc7
          refine lv_aload_n hx hb dX12_doneBy_38 rfl (lv_at hl 1 rfl) ?_
          refine lv_iload hx hb dX12_doneBy_39 (lv_at hl 0 rfl) ?_
          refine lv_iconst (v := 0) hx hb dX12_doneBy_41 (by decide) ?_
          obtain ⟨qizh8, hf⟩ := gg_el hf
          obtain ⟨zt9, zh8, qzh8, hf⟩ := gc_el hf
          refine gx_ki (gx_runV (As := [.int zt4, .int 0]) (rest := []) X hw (c_X12_jobOf l E N zv0 zt4 0 zh5 qzh8) kX12_jobOf mm_X12_388 qizh8 clX12 ⟨Nat.le_of_ble_eq_true rfl, Nat.le_of_ble_eq_true rfl⟩ rfl rfl rfl hl.1 (Nat.le_of_ble_eq_true rfl) rfl dX12_doneBy_42 ⟨Nat.le_of_ble_eq_true rfl, Nat.le_of_ble_eq_true rfl⟩) hw (fun H locs hw => ?_)
          refine lv_goto (tgt := 49) hx hb dX12_doneBy_45 (by decide) ?_
          exact J_49 zv0 zv1 zv3 zv4 zt4 zt9 _ _ _ ls hf hw (lv_sub hl [1, 2, 4, 5, 0] rfl)
  unfold f_X12_doneBy at hf
  refine lv_iconst (v := 0) hx hb dX12_doneBy_0 (by decide) ?_
  refine lv_istore_n (lv' := [(2, .int 0), (0, .ref (gB E + za0)), (1, .ref (gB E + za1))]) hx hb dX12_doneBy_1 rfl hl (by decide) rfl (fun ls hl => ?_)
  refine lv_iconst (v := 0) hx hb dX12_doneBy_2 (by decide) ?_
  refine lv_istore_n (lv' := [(3, .int 0), (2, .int 0), (0, .ref (gB E + za0)), (1, .ref (gB E + za1))]) hx hb dX12_doneBy_3 rfl hl (by decide) rfl (fun ls hl => ?_)
  refine lv_aload_n hx hb dX12_doneBy_4 rfl (lv_at hl 2 rfl) ?_
  refine lv_iconst (v := 0) hx hb dX12_doneBy_5 (by decide) ?_
  obtain ⟨zh1, qzh1, hf⟩ := gb_el hf
  refine gx_putV X hw qzh1 clX12 (by decide) mf_X12_385 rfl rfl rfl dX12_doneBy_6 (fun H locs hw => ?_)
  refine lv_iconst (v := 0) hx hb dX12_doneBy_9 (by decide) ?_
  refine lv_istore (lv' := [(4, .int 0), (3, .int 0), (2, .int 0), (0, .ref (gB E + za0)), (1, .ref (gB E + za1))]) hx hb dX12_doneBy_10 hl (by decide) rfl (fun ls hl => ?_)
  exact L_12 N za0 za1 0 0 0 _ _ _ ls hf hw (lv_sub hl [3, 4, 2, 1, 0] rfl)
abbrev rm_gJ (zd : Nat) : Room := { frames := zd + 2, cells := 0, slots := 0, locals := 24 * zd + 48 }
set_option maxHeartbeats 4000000 in
set_option maxRecDepth 100000 in
theorem cg_gJ (l : Launch) (E : gE) (N : Nat) : ∀ zd : Nat, (∀ (za0 : Nat) (za1 : Int32) (za2 : Int32) (zh h9 : PH), (g_gJ N zd) za0 za1 za2 zh = some h9 → Met l yX12_triesJobs (gWS yX12_triesJobs cX12_triesJobs 5 none) (rm_gJ zd) (gPc E [.ref (gB E + za0), .int za1, .int za2] zh) (gQv E h9) 0 0 (gA E)) := by
  intro zd
  induction zd with
  | zero => exact (fun _ _ _ _ _ hf => by cases hf)
  | succ zd ih =>
    · intro za0 za1 za2 zh h9 hf
      have hf : b_X12_triesJobs N (g_gJ N zd) za0 za1 za2 zh = some h9 := hf
      refine gx_met (by decide) ?_ rfl
      intro p e s m below meth c X hr hlk hin2 hw
      have hx := X.1.1
      have hb := X.1.2.1
      have hl := lv_entry [.ref (gB E + za0), .int za1, .int za2] (n := 5) (Nat.le_of_ble_eq_true rfl)
      rw [lg_entry_eq]
      generalize (lg_sl [.ref (gB E + za0), .int za1, .int za2] ++ List.replicate (5 - (lg_sl [.ref (gB E + za0), .int za1, .int za2]).length) Slot.unset).toArray = ls at hl ⊢
      have hl : lv_has ls 5 [(0, .ref (gB E + za0)), (1, .int za1), (2, .int za2)] := hl
      have L_62 : ∀ (zn62 : Nat) (zv0 : Nat) (zv1 : Int32) (zv2 : Int32) (zv3 : Int32) (zh : PH) (H : Heap) (locs : List Loc) (ls : Array Slot), gi (fun zk zs => f_X12_triesJobs_62 N (g_gJ N zd) zk zs.1 zs.2.1 zs.2.2.1 zs.2.2.2.1 zs.2.2.2.2) zn62 (zv0, zv1, zv2, zv3, zh) = some h9 → gw E s zh H locs → lv_has ls 5 [(0, .ref (gB E + zv0)), (1, .int zv1), (2, .int zv2), (3, .int zv3)] → W p l e (rm_gJ (zd + 1)) s m [.ref (gB E + za0), .int za1, .int za2].toArray below meth c H locs 0 0 (MQ below (gQv E h9) [.ref (gB E + za0), .int za1, .int za2].toArray s 0 0 (gA E)) (F0 m 62 ls []) := by
        intro zn62
        induction zn62 with
        | zero =>
          intro zv0 zv1 zv2 zv3 zh H locs ls hf
          cases hf
        | succ zn62 ih_62 =>
          have J_97 : ∀ (zv0 : Nat) (zv1 : Int32) (zv2 : Int32) (zv3 : Int32) (zh : PH) (H : Heap) (locs : List Loc) (ls : Array Slot), f_X12_triesJobs_97 N (g_gJ N zd) (gi (fun zk zs => f_X12_triesJobs_62 N (g_gJ N zd) zk zs.1 zs.2.1 zs.2.2.1 zs.2.2.2.1 zs.2.2.2.2) zn62) zv0 zv1 zv2 zv3 zh = some h9 → gw E s zh H locs → lv_has ls 5 [(0, .ref (gB E + zv0)), (1, .int zv1), (2, .int zv2), (3, .int zv3)] → W p l e (rm_gJ (zd + 1)) s m [.ref (gB E + za0), .int za1, .int za2].toArray below meth c H locs 0 0 (MQ below (gQv E h9) [.ref (gB E + za0), .int za1, .int za2].toArray s 0 0 (gA E)) (F0 m 97 ls []) := by
            intro zv0 zv1 zv2 zv3 zh H locs ls hf hw hl
            unfold f_X12_triesJobs_97 at hf
            obtain ⟨zx1, ezx1⟩ : ∃ y : Int32, y = zv3 + 1 := ⟨_, rfl⟩
            have hf := gl_el hf ezx1
            refine lv_iinc (v := zx1) (lv' := [(3, .int zx1), (0, .ref (gB E + zv0)), (1, .int zv1), (2, .int zv2)]) hx hb dX12_triesJobs_97 hl (k := 3) rfl (by rw [ezx1]; rfl) (by decide) rfl (fun ls hl => ?_)
            refine lv_goto (tgt := 62) hx hb dX12_triesJobs_100 (by decide) ?_
            exact ih_62 zv0 zv1 zv2 zx1 _ _ _ ls hf hw (lv_sub hl [1, 2, 3, 0] rfl)
          intro zv0 zv1 zv2 zv3 zh H locs ls hf hw hl
          have hf := gi_s hf
          dsimp only at hf
          unfold f_X12_triesJobs_62 at hf
          refine lv_iload_n hx hb dX12_triesJobs_62 rfl (lv_at hl 3 rfl) ?_
          refine lv_aload_n hx hb dX12_triesJobs_63 rfl (lv_at hl 0 rfl) ?_
          obtain ⟨qizh1, hf⟩ := gg_el hf
          obtain ⟨zt2, zh1, qzh1, hf⟩ := gc_el hf
          refine gx_ki (gx_runV (As := []) (rest := [.int zv3]) X hw (c_X12_jobs l E N zv0 zh qzh1) kX12_jobs mm_X12_382 qizh1 clX12 ⟨by dsimp only [rm_gJ, rm_X12_jobs]; omega, by dsimp only [rm_gJ, rm_X12_jobs]; omega⟩ rfl rfl rfl hl.1 (Nat.le_of_ble_eq_true rfl) rfl dX12_triesJobs_64 ⟨Nat.le_of_ble_eq_true rfl, Nat.le_of_ble_eq_true rfl⟩) hw (fun H locs hw => ?_)
          refine lv_icmp_ge (tgt := 103) hx hb dX12_triesJobs_67 (by decide) (fun qc3 => ?_) (fun qc3 => ?_)
          · have hf := gif_t hf qc3
            exact gx_vret X hr hlk hw hf dX12_triesJobs_103
          · have hf := gif_f hf qc3
            refine lv_iload_n hx hb dX12_triesJobs_70 rfl (lv_at hl 2 rfl) ?_
            refine lv_iload_n hx hb dX12_triesJobs_71 rfl (lv_at hl 3 rfl) ?_
            refine lv_ishr hx hb dX12_triesJobs_72 ?_
            refine lv_iconst (v := 1) hx hb dX12_triesJobs_73 (by decide) ?_
            refine lv_iand hx hb dX12_triesJobs_74 ?_
            refine W.eq (g2 := F0 m 75 ls [.int ((zv2 >>> (zv3 &&& 31)) &&& 1)]) rfl ?_
            refine lv_if_ne (tgt := 97) hx hb dX12_triesJobs_75 (by decide) (fun qc4 => ?_) (fun qc4 => ?_)
            · have hf := gif_f hf qc4
              exact J_97 zv0 zv1 zv2 zv3 _ _ _ ls hf hw (lv_sub hl [0, 1, 2, 3] rfl)
            · have hf := gif_t hf qc4
              refine lv_aload_n hx hb dX12_triesJobs_78 rfl (lv_at hl 0 rfl) ?_
              obtain ⟨zt5, qzt5, hf⟩ := gb_el hf
              refine gx_getR X hw qzt5 clX12 (by decide) mf_X12_105 dX12_triesJobs_79 ?_
              refine lv_iload_n hx hb dX12_triesJobs_82 rfl (lv_at hl 1 rfl) ?_
              refine lv_iload_n hx hb dX12_triesJobs_83 rfl (lv_at hl 3 rfl) ?_
              obtain ⟨zh6, qzh6, hf⟩ := gb_el hf
              refine gx_iast X hw qzh6 dX12_triesJobs_84 (fun H locs hw => ?_)
              refine lv_aload_n hx hb dX12_triesJobs_85 rfl (lv_at hl 0 rfl) ?_
              refine lv_iload_n hx hb dX12_triesJobs_86 rfl (lv_at hl 1 rfl) ?_
              refine lv_iconst (v := 1) hx hb dX12_triesJobs_87 (by decide) ?_
              refine lv_iadd hx hb dX12_triesJobs_88 ?_
              refine W.eq (g2 := F0 m 89 ls [.int (zv1 + 1), .ref (gB E + zv0)]) rfl ?_
              refine lv_iload_n hx hb dX12_triesJobs_89 rfl (lv_at hl 2 rfl) ?_
              refine lv_iconst (v := 1) hx hb dX12_triesJobs_90 (by decide) ?_
              refine lv_iload_n hx hb dX12_triesJobs_91 rfl (lv_at hl 3 rfl) ?_
              refine lv_ishl hx hb dX12_triesJobs_92 ?_
              refine lv_ior hx hb dX12_triesJobs_93 ?_
              obtain ⟨qizh7, hf⟩ := gg_el hf
              obtain ⟨zh7, qzh7, hf⟩ := gb_el hf
              refine gx_kv (gx_runV (As := [.int (zv1 + 1), .int (zv2 ||| (1 <<< (zv3 &&& 31)))]) (rest := []) X hw (ih zv0 (zv1 + 1) (zv2 ||| (1 <<< (zv3 &&& 31))) zh6 _ qzh7) kX12_triesJobs mm_X12_398 qizh7 clX12 ⟨by dsimp only [rm_gJ]; omega, by dsimp only [rm_gJ]; omega⟩ rfl rfl rfl hl.1 (Nat.le_of_ble_eq_true rfl) rfl dX12_triesJobs_94 ⟨Nat.le_of_ble_eq_true rfl, Nat.le_of_ble_eq_true rfl⟩) hw (fun H locs hw => ?_)
              exact J_97 zv0 zv1 zv2 zv3 _ _ _ ls hf hw (lv_sub hl [0, 1, 2, 3] rfl)
      have J_59 : ∀ (zh : PH) (H : Heap) (locs : List Loc) (ls : Array Slot), f_X12_triesJobs_59 N (g_gJ N zd) zh = some h9 → gw E s zh H locs → lv_has ls 5 [] → W p l e (rm_gJ (zd + 1)) s m [.ref (gB E + za0), .int za1, .int za2].toArray below meth c H locs 0 0 (MQ below (gQv E h9) [.ref (gB E + za0), .int za1, .int za2].toArray s 0 0 (gA E)) (F0 m 59 ls []) := by
        intro zh H locs ls hf hw hl
        unfold f_X12_triesJobs_59 at hf
        exact gx_vret X hr hlk hw hf dX12_triesJobs_59
      have L_33 : ∀ (zn33 : Nat) (zv0 : Nat) (zv1 : Int32) (zv4 : Int32) (zh : PH) (H : Heap) (locs : List Loc) (ls : Array Slot), gi (fun zk zs => f_X12_triesJobs_33 N (g_gJ N zd) zk zs.1 zs.2.1 zs.2.2.1 zs.2.2.2) zn33 (zv0, zv1, zv4, zh) = some h9 → gw E s zh H locs → lv_has ls 5 [(0, .ref (gB E + zv0)), (1, .int zv1), (4, .int zv4)] → W p l e (rm_gJ (zd + 1)) s m [.ref (gB E + za0), .int za1, .int za2].toArray below meth c H locs 0 0 (MQ below (gQv E h9) [.ref (gB E + za0), .int za1, .int za2].toArray s 0 0 (gA E)) (F0 m 33 ls []) := by
        intro zn33
        induction zn33 with
        | zero =>
          intro zv0 zv1 zv4 zh H locs ls hf
          cases hf
        | succ zn33 ih_33 =>
          intro zv0 zv1 zv4 zh H locs ls hf hw hl
          have hf := gi_s hf
          dsimp only at hf
          unfold f_X12_triesJobs_33 at hf
          refine lv_iload hx hb dX12_triesJobs_33 (lv_at hl 2 rfl) ?_
          refine lv_iload_n hx hb dX12_triesJobs_35 rfl (lv_at hl 1 rfl) ?_
          refine lv_icmp_ge (tgt := 59) hx hb dX12_triesJobs_36 (by decide) (fun qc1 => ?_) (fun qc1 => ?_)
          · have hf := gif_t hf qc1
            exact J_59  _ _ _ ls hf hw (lv_sub hl [] rfl)
          · have hf := gif_f hf qc1
            refine lv_aload_n hx hb dX12_triesJobs_39 rfl (lv_at hl 0 rfl) ?_
            obtain ⟨zt2, qzt2, hf⟩ := gb_el hf
            refine gx_getR X hw qzt2 clX12 (by decide) mf_X12_108 dX12_triesJobs_40 ?_
            refine lv_iload hx hb dX12_triesJobs_43 (lv_at hl 2 rfl) ?_
            refine lv_aload_n hx hb dX12_triesJobs_45 rfl (lv_at hl 0 rfl) ?_
            obtain ⟨zt3, qzt3, hf⟩ := gb_el hf
            refine gx_getR X hw qzt3 clX12 (by decide) mf_X12_105 dX12_triesJobs_46 ?_
            refine lv_iload hx hb dX12_triesJobs_49 (lv_at hl 2 rfl) ?_
            refine W.eq (g2 := F0 m 51 ls [.int zv4, .ref (gB E + zt3), .int zv4, .ref (gB E + zt2)]) rfl ?_
            obtain ⟨zt4, qzt4, hf⟩ := gb_el hf
            refine gx_iald X hw qzt4 dX12_triesJobs_51 ?_
            obtain ⟨zh5, qzh5, hf⟩ := gb_el hf
            refine gx_iast X hw qzh5 dX12_triesJobs_52 (fun H locs hw => ?_)
            obtain ⟨zx6, ezx6⟩ : ∃ y : Int32, y = zv4 + 1 := ⟨_, rfl⟩
            have hf := gl_el hf ezx6
            refine lv_iinc (v := zx6) (lv' := [(4, .int zx6), (0, .ref (gB E + zv0)), (1, .int zv1)]) hx hb dX12_triesJobs_53 hl (k := 2) rfl (by rw [ezx6]; rfl) (by decide) rfl (fun ls hl => ?_)
            refine lv_goto (tgt := 33) hx hb dX12_triesJobs_56 (by decide) ?_
            exact ih_33 zv0 zv1 zx6 _ _ _ ls hf hw (lv_sub hl [1, 2, 0] rfl)
      unfold b_X12_triesJobs at hf
      refine lv_iload_n hx hb dX12_triesJobs_0 rfl (lv_at hl 1 rfl) ?_
      refine lv_aload_n hx hb dX12_triesJobs_1 rfl (lv_at hl 0 rfl) ?_
      obtain ⟨qizh1, hf⟩ := gg_el hf
      obtain ⟨zt2, zh1, qzh1, hf⟩ := gc_el hf
      refine gx_ki (gx_runV (As := []) (rest := [.int za1]) X hw (c_X12_jobs l E N za0 zh qzh1) kX12_jobs mm_X12_382 qizh1 clX12 ⟨by dsimp only [rm_gJ, rm_X12_jobs]; omega, by dsimp only [rm_gJ, rm_X12_jobs]; omega⟩ rfl rfl rfl hl.1 (Nat.le_of_ble_eq_true rfl) rfl dX12_triesJobs_2 ⟨Nat.le_of_ble_eq_true rfl, Nat.le_of_ble_eq_true rfl⟩) hw (fun H locs hw => ?_)
      refine lv_icmp_ne (tgt := 60) hx hb dX12_triesJobs_5 (by decide) (fun qc3 => ?_) (fun qc3 => ?_)
      · have hf := gif_f hf qc3
        refine lv_iconst (v := 0) hx hb dX12_triesJobs_60 (by decide) ?_
        refine lv_istore_n (lv' := [(3, .int 0), (0, .ref (gB E + za0)), (1, .int za1), (2, .int za2)]) hx hb dX12_triesJobs_61 rfl hl (by decide) rfl (fun ls hl => ?_)
        exact L_62 N za0 za1 za2 0 _ _ _ ls hf hw (lv_sub hl [1, 2, 3, 0] rfl)
      · have hf := gif_t hf qc3
        refine lv_aload_n hx hb dX12_triesJobs_8 rfl (lv_at hl 0 rfl) ?_
        refine lv_aload_n hx hb dX12_triesJobs_9 rfl (lv_at hl 0 rfl) ?_
        obtain ⟨zt4, qzt4, hf⟩ := gb_el hf
        refine gx_getR X hw qzt4 clX12 (by decide) mf_X12_105 dX12_triesJobs_10 ?_
        obtain ⟨qizh5, hf⟩ := gg_el hf
        obtain ⟨zt6, zh5, qzh5, hf⟩ := gc_el hf
        refine gx_ki (gx_runV (As := [.ref (gB E + zt4)]) (rest := []) X hw (c_X12_doneBy l E N za0 zt4 zh1 qzh5) kX12_doneBy mm_X12_391 qizh5 clX12 ⟨by dsimp only [rm_gJ, rm_X12_doneBy]; omega, by dsimp only [rm_gJ, rm_X12_doneBy]; omega⟩ rfl rfl rfl hl.1 (Nat.le_of_ble_eq_true rfl) rfl dX12_triesJobs_13 ⟨Nat.le_of_ble_eq_true rfl, Nat.le_of_ble_eq_true rfl⟩) hw (fun H locs hw => ?_)
        refine lv_istore_n (lv' := [(3, .int zt6), (0, .ref (gB E + za0)), (1, .int za1), (2, .int za2)]) hx hb dX12_triesJobs_16 rfl hl (by decide) rfl (fun ls hl => ?_)
        refine W.eq (g2 := F0 m 17 ls []) rfl ?_
        refine lv_iload_n hx hb dX12_triesJobs_17 rfl (lv_at hl 0 rfl) ?_
        refine lv_aload_n hx hb dX12_triesJobs_18 rfl (lv_at hl 1 rfl) ?_
        obtain ⟨zt7, qzt7, hf⟩ := gb_el hf
        refine gx_getI X hw qzt7 clX12 (by decide) mf_X12_395 dX12_triesJobs_19 ?_
        refine lv_icmp_ge (tgt := 59) hx hb dX12_triesJobs_22 (by decide) (fun qc8 => ?_) (fun qc8 => ?_)
        · have hf := gif_t hf qc8
          exact J_59  _ _ _ ls hf hw (lv_sub hl [] rfl)
        · have hf := gif_f hf qc8
          refine lv_aload_n hx hb dX12_triesJobs_25 rfl (lv_at hl 1 rfl) ?_
          refine lv_iload_n hx hb dX12_triesJobs_26 rfl (lv_at hl 0 rfl) ?_
          obtain ⟨zh9, qzh9, hf⟩ := gb_el hf
          refine gx_putV X hw qzh9 clX12 (by decide) mf_X12_395 rfl rfl rfl dX12_triesJobs_27 (fun H locs hw => ?_)
          refine lv_iconst (v := 0) hx hb dX12_triesJobs_30 (by decide) ?_
          refine lv_istore (lv' := [(4, .int 0), (3, .int zt6), (0, .ref (gB E + za0)), (1, .int za1), (2, .int za2)]) hx hb dX12_triesJobs_31 hl (by decide) rfl (fun ls hl => ?_)
          exact L_33 N za0 za1 0 _ _ _ ls hf hw (lv_sub hl [2, 3, 0] rfl)
abbrev rm_X12_triesJobs : Room := { frames := 18, cells := 0, slots := 0, locals := 432 }
theorem c_X12_triesJobs (l : Launch) (E : gE) (N : Nat) (za0 : Nat) (za1 : Int32) (za2 : Int32) (zh : PH) {h9 : PH} (hf : f_X12_triesJobs N za0 za1 za2 zh = some h9) : Met l yX12_triesJobs (gWS yX12_triesJobs cX12_triesJobs 5 none) rm_X12_triesJobs (gPc E [.ref (gB E + za0), .int za1, .int za2] zh) (gQv E h9) 0 0 (gA E) := (cg_gJ l E N 16) za0 za1 za2 zh _ hf
abbrev rm_X12_mostAtOnce : Room := { frames := 1, cells := 0, slots := 0, locals := 20 }
set_option maxHeartbeats 4000000 in
set_option maxRecDepth 100000 in
theorem c_X12_mostAtOnce (l : Launch) (E : gE) (N : Nat) (za0 : Nat) (zh : PH) {h9 : PH} {r9 : Int32} (hf : f_X12_mostAtOnce N za0 zh = some (r9, h9)) : Met l yX12_mostAtOnce (gWS yX12_mostAtOnce cX12_mostAtOnce 5 (some .int)) rm_X12_mostAtOnce (gPc E [.ref (gB E + za0)] zh) (gQi E r9 h9) 0 0 (gA E) := by
  refine gx_met (by decide) ?_ rfl
  intro p e s m below meth c X hr hlk hin2 hw
  have hx := X.1.1
  have hb := X.1.2.1
  have hl := lv_entry [.ref (gB E + za0)] (n := 5) (Nat.le_of_ble_eq_true rfl)
  rw [lg_entry_eq]
  generalize (lg_sl [.ref (gB E + za0)] ++ List.replicate (5 - (lg_sl [.ref (gB E + za0)]).length) Slot.unset).toArray = ls at hl ⊢
  have hl : lv_has ls 5 [(0, .ref (gB E + za0))] := hl
  have L_4 : ∀ (zn4 : Nat) (zv0 : Nat) (zv1 : Int32) (zv2 : Int32) (zh : PH) (H : Heap) (locs : List Loc) (ls : Array Slot), gi (fun zk zs => f_X12_mostAtOnce_4 N zk zs.1 zs.2.1 zs.2.2.1 zs.2.2.2) zn4 (zv0, zv1, zv2, zh) = some (r9, h9) → gw E s zh H locs → lv_has ls 5 [(0, .ref (gB E + zv0)), (1, .int zv1), (2, .int zv2)] → W p l e rm_X12_mostAtOnce s m [.ref (gB E + za0)].toArray below meth c H locs 0 0 (MQ below (gQi E r9 h9) [.ref (gB E + za0)].toArray s 0 0 (gA E)) (F0 m 4 ls []) := by
    intro zn4
    induction zn4 with
    | zero =>
      intro zv0 zv1 zv2 zh H locs ls hf
      cases hf
    | succ zn4 ih_4 =>
      have J_82 : ∀ (zv0 : Nat) (zv2 : Int32) (zs0 : Int32) (zh : PH) (H : Heap) (locs : List Loc) (ls : Array Slot), f_X12_mostAtOnce_82 N (gi (fun zk zs => f_X12_mostAtOnce_4 N zk zs.1 zs.2.1 zs.2.2.1 zs.2.2.2) zn4) zv0 zv2 zs0 zh = some (r9, h9) → gw E s zh H locs → lv_has ls 5 [(0, .ref (gB E + zv0)), (2, .int zv2)] → W p l e rm_X12_mostAtOnce s m [.ref (gB E + za0)].toArray below meth c H locs 0 0 (MQ below (gQi E r9 h9) [.ref (gB E + za0)].toArray s 0 0 (gA E)) (F0 m 82 ls [.int zs0]) := by
        intro zv0 zv2 zs0 zh H locs ls hf hw hl
        unfold f_X12_mostAtOnce_82 at hf
        refine lv_istore_n (lv' := [(1, .int zs0), (0, .ref (gB E + zv0)), (2, .int zv2)]) hx hb dX12_mostAtOnce_82 rfl hl (by decide) rfl (fun ls hl => ?_)
        obtain ⟨zx1, ezx1⟩ : ∃ y : Int32, y = zv2 + 1 := ⟨_, rfl⟩
        have hf := gl_el hf ezx1
        refine lv_iinc (v := zx1) (lv' := [(2, .int zx1), (1, .int zs0), (0, .ref (gB E + zv0))]) hx hb dX12_mostAtOnce_83 hl (k := 2) rfl (by rw [ezx1]; rfl) (by decide) rfl (fun ls hl => ?_)
        refine lv_goto (tgt := 4) hx hb dX12_mostAtOnce_86 (by decide) ?_
        exact ih_4 zv0 zs0 zx1 _ _ _ ls hf hw (lv_sub hl [2, 1, 0] rfl)
      have L_17 : ∀ (zn17 : Nat) (zv0 : Nat) (zv1 : Int32) (zv2 : Int32) (zv3 : Int32) (zv4 : Int32) (zh : PH) (H : Heap) (locs : List Loc) (ls : Array Slot), gi (fun zk zs => f_X12_mostAtOnce_17 N (gi (fun zk zs => f_X12_mostAtOnce_4 N zk zs.1 zs.2.1 zs.2.2.1 zs.2.2.2) zn4) zk zs.1 zs.2.1 zs.2.2.1 zs.2.2.2.1 zs.2.2.2.2.1 zs.2.2.2.2.2) zn17 (zv0, zv1, zv2, zv3, zv4, zh) = some (r9, h9) → gw E s zh H locs → lv_has ls 5 [(0, .ref (gB E + zv0)), (1, .int zv1), (2, .int zv2), (3, .int zv3), (4, .int zv4)] → W p l e rm_X12_mostAtOnce s m [.ref (gB E + za0)].toArray below meth c H locs 0 0 (MQ below (gQi E r9 h9) [.ref (gB E + za0)].toArray s 0 0 (gA E)) (F0 m 17 ls []) := by
        intro zn17
        induction zn17 with
        | zero =>
          intro zv0 zv1 zv2 zv3 zv4 zh H locs ls hf
          cases hf
        | succ zn17 ih_17 =>
          have J_64 : ∀ (zv0 : Nat) (zv1 : Int32) (zv2 : Int32) (zv4 : Int32) (zs0 : Int32) (zs1 : Int32) (zh : PH) (H : Heap) (locs : List Loc) (ls : Array Slot), f_X12_mostAtOnce_64 N (gi (fun zk zs => f_X12_mostAtOnce_4 N zk zs.1 zs.2.1 zs.2.2.1 zs.2.2.2) zn4) (gi (fun zk zs => f_X12_mostAtOnce_17 N (gi (fun zk zs => f_X12_mostAtOnce_4 N zk zs.1 zs.2.1 zs.2.2.1 zs.2.2.2) zn4) zk zs.1 zs.2.1 zs.2.2.1 zs.2.2.2.1 zs.2.2.2.2.1 zs.2.2.2.2.2) zn17) zv0 zv1 zv2 zv4 zs0 zs1 zh = some (r9, h9) → gw E s zh H locs → lv_has ls 5 [(0, .ref (gB E + zv0)), (1, .int zv1), (2, .int zv2), (4, .int zv4)] → W p l e rm_X12_mostAtOnce s m [.ref (gB E + za0)].toArray below meth c H locs 0 0 (MQ below (gQi E r9 h9) [.ref (gB E + za0)].toArray s 0 0 (gA E)) (F0 m 64 ls [.int zs0, .int zs1]) := by
            intro zv0 zv1 zv2 zv4 zs0 zs1 zh H locs ls hf hw hl
            unfold f_X12_mostAtOnce_64 at hf
            refine lv_iadd hx hb dX12_mostAtOnce_64 ?_
            refine lv_topi (fun zx1 ezx1 => ?_)
            have hf := gl_el hf ezx1
            refine lv_istore_n (lv' := [(3, .int zx1), (0, .ref (gB E + zv0)), (1, .int zv1), (2, .int zv2), (4, .int zv4)]) hx hb dX12_mostAtOnce_65 rfl hl (by decide) rfl (fun ls hl => ?_)
            obtain ⟨zx2, ezx2⟩ : ∃ y : Int32, y = zv4 + 1 := ⟨_, rfl⟩
            have hf := gl_el hf ezx2
            refine lv_iinc (v := zx2) (lv' := [(4, .int zx2), (3, .int zx1), (0, .ref (gB E + zv0)), (1, .int zv1), (2, .int zv2)]) hx hb dX12_mostAtOnce_66 hl (k := 4) rfl (by rw [ezx2]; rfl) (by decide) rfl (fun ls hl => ?_)
            refine lv_goto (tgt := 17) hx hb dX12_mostAtOnce_69 (by decide) ?_
            exact ih_17 zv0 zv1 zv2 zx1 zx2 _ _ _ ls hf hw (lv_sub hl [2, 3, 4, 1, 0] rfl)
          have J_63 : ∀ (zv0 : Nat) (zv1 : Int32) (zv2 : Int32) (zv4 : Int32) (zs0 : Int32) (zh : PH) (H : Heap) (locs : List Loc) (ls : Array Slot), f_X12_mostAtOnce_63 N (gi (fun zk zs => f_X12_mostAtOnce_4 N zk zs.1 zs.2.1 zs.2.2.1 zs.2.2.2) zn4) (gi (fun zk zs => f_X12_mostAtOnce_17 N (gi (fun zk zs => f_X12_mostAtOnce_4 N zk zs.1 zs.2.1 zs.2.2.1 zs.2.2.2) zn4) zk zs.1 zs.2.1 zs.2.2.1 zs.2.2.2.1 zs.2.2.2.2.1 zs.2.2.2.2.2) zn17) zv0 zv1 zv2 zv4 zs0 zh = some (r9, h9) → gw E s zh H locs → lv_has ls 5 [(0, .ref (gB E + zv0)), (1, .int zv1), (2, .int zv2), (4, .int zv4)] → W p l e rm_X12_mostAtOnce s m [.ref (gB E + za0)].toArray below meth c H locs 0 0 (MQ below (gQi E r9 h9) [.ref (gB E + za0)].toArray s 0 0 (gA E)) (F0 m 63 ls [.int zs0]) := by
            intro zv0 zv1 zv2 zv4 zs0 zh H locs ls hf hw hl
            unfold f_X12_mostAtOnce_63 at hf
            refine lv_iconst (v := 0) hx hb dX12_mostAtOnce_63 (by decide) ?_
            exact J_64 zv0 zv1 zv2 zv4 0 zs0 _ _ _ ls hf hw (lv_sub hl [0, 1, 2, 3] rfl)
          intro zv0 zv1 zv2 zv3 zv4 zh H locs ls hf hw hl
          have hf := gi_s hf
          dsimp only at hf
          unfold f_X12_mostAtOnce_17 at hf
          refine lv_iload hx hb dX12_mostAtOnce_17 (lv_at hl 4 rfl) ?_
          refine lv_aload_n hx hb dX12_mostAtOnce_19 rfl (lv_at hl 0 rfl) ?_
          obtain ⟨qizh1, hf⟩ := gg_el hf
          obtain ⟨zt2, zh1, qzh1, hf⟩ := gc_el hf
          refine gx_ki (gx_runV (As := []) (rest := [.int zv4]) X hw (c_X12_jobs l E N zv0 zh qzh1) kX12_jobs mm_X12_382 qizh1 clX12 ⟨Nat.le_of_ble_eq_true rfl, Nat.le_of_ble_eq_true rfl⟩ rfl rfl rfl hl.1 (Nat.le_of_ble_eq_true rfl) rfl dX12_mostAtOnce_20 ⟨Nat.le_of_ble_eq_true rfl, Nat.le_of_ble_eq_true rfl⟩) hw (fun H locs hw => ?_)
          refine lv_icmp_ge (tgt := 72) hx hb dX12_mostAtOnce_23 (by decide) (fun qc3 => ?_) (fun qc3 => ?_)
          · have hf := gif_t hf qc3
            refine lv_iload_n hx hb dX12_mostAtOnce_72 rfl (lv_at hl 3 rfl) ?_
            refine lv_iload_n hx hb dX12_mostAtOnce_73 rfl (lv_at hl 1 rfl) ?_
            refine lv_icmp_le (tgt := 81) hx hb dX12_mostAtOnce_74 (by decide) (fun qc4 => ?_) (fun qc4 => ?_)
            · have hf := gif_t hf qc4
              refine lv_iload_n hx hb dX12_mostAtOnce_81 rfl (lv_at hl 1 rfl) ?_
              exact J_82 zv0 zv2 zv1 _ _ _ ls hf hw (lv_sub hl [0, 2] rfl)
            · have hf := gif_f hf qc4
              refine lv_iload_n hx hb dX12_mostAtOnce_77 rfl (lv_at hl 3 rfl) ?_
              refine lv_goto (tgt := 82) hx hb dX12_mostAtOnce_78 (by decide) ?_
              exact J_82 zv0 zv2 zv3 _ _ _ ls hf hw (lv_sub hl [0, 2] rfl)
          · have hf := gif_f hf qc3
            refine lv_iload_n hx hb dX12_mostAtOnce_26 rfl (lv_at hl 3 rfl) ?_
            refine lv_aload_n hx hb dX12_mostAtOnce_27 rfl (lv_at hl 0 rfl) ?_
            obtain ⟨zt5, qzt5, hf⟩ := gb_el hf
            refine gx_getR X hw qzt5 clX12 (by decide) mf_X12_111 dX12_mostAtOnce_28 ?_
            refine lv_iload hx hb dX12_mostAtOnce_31 (lv_at hl 4 rfl) ?_
            obtain ⟨zt6, qzt6, hf⟩ := gb_el hf
            refine gx_iald X hw qzt6 dX12_mostAtOnce_33 ?_
            refine W.eq (g2 := F0 m 34 ls [.int zt6, .int zv3]) rfl ?_
            refine lv_aload_n hx hb dX12_mostAtOnce_34 rfl (lv_at hl 0 rfl) ?_
            obtain ⟨zt7, qzt7, hf⟩ := gb_el hf
            refine gx_getR X hw qzt7 clX12 (by decide) mf_X12_111 dX12_mostAtOnce_35 ?_
            refine lv_iload_n hx hb dX12_mostAtOnce_38 rfl (lv_at hl 2 rfl) ?_
            obtain ⟨zt8, qzt8, hf⟩ := gb_el hf
            refine gx_iald X hw qzt8 dX12_mostAtOnce_39 ?_
            refine lv_icmp_gt (tgt := 63) hx hb dX12_mostAtOnce_40 (by decide) (fun qc9 => ?_) (fun qc9 => ?_)
            · have hf := gif_t hf qc9
              exact J_63 zv0 zv1 zv2 zv4 zv3 _ _ _ ls hf hw (lv_sub hl [0, 1, 2, 4] rfl)
            · have hf := gif_f hf qc9
              refine lv_aload_n hx hb dX12_mostAtOnce_43 rfl (lv_at hl 0 rfl) ?_
              obtain ⟨zt10, qzt10, hf⟩ := gb_el hf
              refine gx_getR X hw qzt10 clX12 (by decide) mf_X12_111 dX12_mostAtOnce_44 ?_
              refine lv_iload_n hx hb dX12_mostAtOnce_47 rfl (lv_at hl 2 rfl) ?_
              obtain ⟨zt11, qzt11, hf⟩ := gb_el hf
              refine gx_iald X hw qzt11 dX12_mostAtOnce_48 ?_
              refine lv_aload_n hx hb dX12_mostAtOnce_49 rfl (lv_at hl 0 rfl) ?_
              refine W.eq (g2 := F0 m 50 ls [.ref (gB E + zv0), .int zt11, .int zv3]) rfl ?_
              obtain ⟨zt12, qzt12, hf⟩ := gb_el hf
              refine gx_getR X hw qzt12 clX12 (by decide) mf_X12_114 dX12_mostAtOnce_50 ?_
              refine lv_iload hx hb dX12_mostAtOnce_53 (lv_at hl 4 rfl) ?_
              obtain ⟨zt13, qzt13, hf⟩ := gb_el hf
              refine gx_iald X hw qzt13 dX12_mostAtOnce_55 ?_
              refine lv_icmp_ge (tgt := 63) hx hb dX12_mostAtOnce_56 (by decide) (fun qc14 => ?_) (fun qc14 => ?_)
              · have hf := gif_t hf qc14
                exact J_63 zv0 zv1 zv2 zv4 zv3 _ _ _ ls hf hw (lv_sub hl [0, 1, 2, 4] rfl)
              · have hf := gif_f hf qc14
                refine lv_iconst (v := 1) hx hb dX12_mostAtOnce_59 (by decide) ?_
                refine lv_goto (tgt := 64) hx hb dX12_mostAtOnce_60 (by decide) ?_
                exact J_64 zv0 zv1 zv2 zv4 1 zv3 _ _ _ ls hf hw (lv_sub hl [0, 1, 2, 4] rfl)
      intro zv0 zv1 zv2 zh H locs ls hf hw hl
      have hf := gi_s hf
      dsimp only at hf
      unfold f_X12_mostAtOnce_4 at hf
      refine lv_iload_n hx hb dX12_mostAtOnce_4 rfl (lv_at hl 2 rfl) ?_
      refine lv_aload_n hx hb dX12_mostAtOnce_5 rfl (lv_at hl 0 rfl) ?_
      obtain ⟨qizh1, hf⟩ := gg_el hf
      obtain ⟨zt2, zh1, qzh1, hf⟩ := gc_el hf
      refine gx_ki (gx_runV (As := []) (rest := [.int zv2]) X hw (c_X12_jobs l E N zv0 zh qzh1) kX12_jobs mm_X12_382 qizh1 clX12 ⟨Nat.le_of_ble_eq_true rfl, Nat.le_of_ble_eq_true rfl⟩ rfl rfl rfl hl.1 (Nat.le_of_ble_eq_true rfl) rfl dX12_mostAtOnce_6 ⟨Nat.le_of_ble_eq_true rfl, Nat.le_of_ble_eq_true rfl⟩) hw (fun H locs hw => ?_)
      refine lv_icmp_ge (tgt := 89) hx hb dX12_mostAtOnce_9 (by decide) (fun qc3 => ?_) (fun qc3 => ?_)
      · have hf := gif_t hf qc3
        refine lv_iload_n hx hb dX12_mostAtOnce_89 rfl (lv_at hl 1 rfl) ?_
        exact gx_iret X hr hlk hw hf dX12_mostAtOnce_90
      · have hf := gif_f hf qc3
        refine lv_iconst (v := 0) hx hb dX12_mostAtOnce_12 (by decide) ?_
        refine lv_istore_n (lv' := [(3, .int 0), (0, .ref (gB E + zv0)), (1, .int zv1), (2, .int zv2)]) hx hb dX12_mostAtOnce_13 rfl hl (by decide) rfl (fun ls hl => ?_)
        refine lv_iconst (v := 0) hx hb dX12_mostAtOnce_14 (by decide) ?_
        refine lv_istore (lv' := [(4, .int 0), (3, .int 0), (0, .ref (gB E + zv0)), (1, .int zv1), (2, .int zv2)]) hx hb dX12_mostAtOnce_15 hl (by decide) rfl (fun ls hl => ?_)
        exact L_17 N zv0 zv1 zv2 0 0 _ _ _ ls hf hw (lv_sub hl [2, 3, 4, 1, 0] rfl)
  unfold f_X12_mostAtOnce at hf
  refine lv_iconst (v := 0) hx hb dX12_mostAtOnce_0 (by decide) ?_
  refine lv_istore_n (lv' := [(1, .int 0), (0, .ref (gB E + za0))]) hx hb dX12_mostAtOnce_1 rfl hl (by decide) rfl (fun ls hl => ?_)
  refine lv_iconst (v := 0) hx hb dX12_mostAtOnce_2 (by decide) ?_
  refine lv_istore_n (lv' := [(2, .int 0), (1, .int 0), (0, .ref (gB E + za0))]) hx hb dX12_mostAtOnce_3 rfl hl (by decide) rfl (fun ls hl => ?_)
  exact L_4 N za0 0 0 _ _ _ ls hf hw (lv_sub hl [2, 1, 0] rfl)
abbrev rm_X12_porters : Room := { frames := 19, cells := 0, slots := 0, locals := 456 }
set_option maxHeartbeats 4000000 in
set_option maxRecDepth 100000 in
theorem c_X12_porters (l : Launch) (E : gE) (N : Nat) (za0 : Nat) (za1 : Int32) (zh : PH) {h9 : PH} {r9 : Int32} (hf : f_X12_porters N za0 za1 zh = some (r9, h9)) : Met l yX12_porters (gWS yX12_porters cX12_porters 2 (some .int)) rm_X12_porters (gPc E [.ref (gB E + za0), .int za1] zh) (gQi E r9 h9) 0 0 (gA E) := by
  refine gx_met (by decide) ?_ rfl
  intro p e s m below meth c X hr hlk hin2 hw
  have hx := X.1.1
  have hb := X.1.2.1
  have hl := lv_entry [.ref (gB E + za0), .int za1] (n := 2) (Nat.le_of_ble_eq_true rfl)
  rw [lg_entry_eq]
  generalize (lg_sl [.ref (gB E + za0), .int za1] ++ List.replicate (2 - (lg_sl [.ref (gB E + za0), .int za1]).length) Slot.unset).toArray = ls at hl ⊢
  have hl : lv_has ls 2 [(0, .ref (gB E + za0)), (1, .int za1)] := hl
  have J_95 : ∀ (zs0 : Int32) (zh : PH) (H : Heap) (locs : List Loc) (ls : Array Slot), f_X12_porters_95 N zs0 zh = some (r9, h9) → gw E s zh H locs → lv_has ls 2 [] → W p l e rm_X12_porters s m [.ref (gB E + za0), .int za1].toArray below meth c H locs 0 0 (MQ below (gQi E r9 h9) [.ref (gB E + za0), .int za1].toArray s 0 0 (gA E)) (F0 m 95 ls [.int zs0]) := by
    intro zs0 zh H locs ls hf hw hl
    unfold f_X12_porters_95 at hf
    exact gx_iret X hr hlk hw hf dX12_porters_95
  have J_74 : ∀ (zs0 : Int32) (zh : PH) (H : Heap) (locs : List Loc) (ls : Array Slot), f_X12_porters_74 N zs0 zh = some (r9, h9) → gw E s zh H locs → lv_has ls 2 [] → W p l e rm_X12_porters s m [.ref (gB E + za0), .int za1].toArray below meth c H locs 0 0 (MQ below (gQi E r9 h9) [.ref (gB E + za0), .int za1].toArray s 0 0 (gA E)) (F0 m 74 ls [.int zs0]) := by
    intro zs0 zh H locs ls hf hw hl
    unfold f_X12_porters_74 at hf
    exact gx_iret X hr hlk hw hf dX12_porters_74
  have J_59 : ∀ (zv0 : Nat) (zv1 : Int32) (zh : PH) (H : Heap) (locs : List Loc) (ls : Array Slot), f_X12_porters_59 N zv0 zv1 zh = some (r9, h9) → gw E s zh H locs → lv_has ls 2 [(0, .ref (gB E + zv0)), (1, .int zv1)] → W p l e rm_X12_porters s m [.ref (gB E + za0), .int za1].toArray below meth c H locs 0 0 (MQ below (gQi E r9 h9) [.ref (gB E + za0), .int za1].toArray s 0 0 (gA E)) (F0 m 59 ls []) := by
    intro zv0 zv1 zh H locs ls hf hw hl
    unfold f_X12_porters_59 at hf
    refine lv_iload_n hx hb dX12_porters_59 rfl (lv_at hl 1 rfl) ?_
    refine lv_if_ne (tgt := 70) hx hb dX12_porters_60 (by decide) (fun qc1 => ?_) (fun qc1 => ?_)
    · have hf := gif_f hf qc1
      refine lv_aload_n hx hb dX12_porters_70 rfl (lv_at hl 0 rfl) ?_
      obtain ⟨zt2, qzt2, hf⟩ := gb_el hf
      refine gx_getI X hw qzt2 clX12 (by decide) mf_X12_385 dX12_porters_71 ?_
      exact J_74 zt2 _ _ _ ls hf hw (lv_sub hl [] rfl)
    · have hf := gif_t hf qc1
      refine lv_aload_n hx hb dX12_porters_63 rfl (lv_at hl 0 rfl) ?_
      obtain ⟨zt3, qzt3, hf⟩ := gb_el hf
      refine gx_getI X hw qzt3 clX12 (by decide) mf_X12_395 dX12_porters_64 ?_
      refine lv_goto (tgt := 74) hx hb dX12_porters_67 (by decide) ?_
      exact J_74 zt3 _ _ _ ls hf hw (lv_sub hl [] rfl)
  have J_26 : ∀ (zh : PH) (H : Heap) (locs : List Loc) (ls : Array Slot), f_X12_porters_26 N zh = some (r9, h9) → gw E s zh H locs → lv_has ls 2 [] → W p l e rm_X12_porters s m [.ref (gB E + za0), .int za1].toArray below meth c H locs 0 0 (MQ below (gQi E r9 h9) [.ref (gB E + za0), .int za1].toArray s 0 0 (gA E)) (F0 m 26 ls []) := by
    intro zh H locs ls hf hw hl
    unfold f_X12_porters_26 at hf
    refine lv_iconst (v := (-1)) hx hb dX12_porters_26 (by decide) ?_
    exact gx_iret X hr hlk hw hf dX12_porters_27
  unfold f_X12_porters at hf
  refine lv_aload_n hx hb dX12_porters_0 rfl (lv_at hl 0 rfl) ?_
  refine lv_iconst (v := 0) hx hb dX12_porters_1 (by decide) ?_
  obtain ⟨zh1, qzh1, hf⟩ := gb_el hf
  refine gx_putV X hw qzh1 clX12 (by decide) mf_X12_1 rfl rfl rfl dX12_porters_2 (fun H locs hw => ?_)
  refine lv_aload_n hx hb dX12_porters_5 rfl (lv_at hl 0 rfl) ?_
  obtain ⟨qizh2, hf⟩ := gg_el hf
  obtain ⟨zt3, zh2, qzh2, hf⟩ := gc_el hf
  refine gx_ki (gx_runV (As := []) (rest := []) X hw (c_X12_jobs l E N za0 zh1 qzh2) kX12_jobs mm_X12_382 qizh2 clX12 ⟨Nat.le_of_ble_eq_true rfl, Nat.le_of_ble_eq_true rfl⟩ rfl rfl rfl hl.1 (Nat.le_of_ble_eq_true rfl) rfl dX12_porters_6 ⟨Nat.le_of_ble_eq_true rfl, Nat.le_of_ble_eq_true rfl⟩) hw (fun H locs hw => ?_)
  refine lv_if_eq (tgt := 26) hx hb dX12_porters_9 (by decide) (fun qc4 => ?_) (fun qc4 => ?_)
  · have hf := gif_t hf qc4
    exact J_26  _ _ _ ls hf hw (lv_sub hl [] rfl)
  · have hf := gif_f hf qc4
    refine lv_iload_n hx hb dX12_porters_12 rfl (lv_at hl 1 rfl) ?_
    refine lv_iconst (v := 0) hx hb dX12_porters_13 (by decide) ?_
    refine lv_iconst (v := 2) hx hb dX12_porters_14 (by decide) ?_
    refine W.eq (g2 := F0 m 15 ls [.int 2, .int 0, .int za1]) rfl ?_
    refine lv_aload_n hx hb dX12_porters_15 rfl (lv_at hl 0 rfl) ?_
    obtain ⟨qizh5, hf⟩ := gg_el hf
    obtain ⟨zt6, zh5, qzh5, hf⟩ := gc_el hf
    refine gx_ki (gx_runV (As := []) (rest := [.int 2, .int 0, .int za1]) X hw (c_X12_jobs l E N za0 zh2 qzh5) kX12_jobs mm_X12_382 qizh5 clX12 ⟨Nat.le_of_ble_eq_true rfl, Nat.le_of_ble_eq_true rfl⟩ rfl rfl rfl hl.1 (Nat.le_of_ble_eq_true rfl) rfl dX12_porters_16 ⟨Nat.le_of_ble_eq_true rfl, Nat.le_of_ble_eq_true rfl⟩) hw (fun H locs hw => ?_)
    refine lv_iadd hx hb dX12_porters_19 ?_
    obtain ⟨zt8, zh7, qzh7, hf⟩ := gc_el hf
    refine gx_ki (gx_runS (As := [.int za1, .int 0, .int (2 + zt6)]) (rest := []) X hw (c_X12_within l E N za1 0 (2 + zt6) zh5 qzh7) kX12_within mm_X12_304 ⟨Nat.le_of_ble_eq_true rfl, Nat.le_of_ble_eq_true rfl⟩ rfl rfl rfl hl.1 (Nat.le_of_ble_eq_true rfl) rfl dX12_porters_20 ⟨Nat.le_of_ble_eq_true rfl, Nat.le_of_ble_eq_true rfl⟩) hw (fun H locs hw => ?_)
    refine lv_if_ne (tgt := 28) hx hb dX12_porters_23 (by decide) (fun qc9 => ?_) (fun qc9 => ?_)
    · have hf := gif_f hf qc9
      refine lv_aload_n hx hb dX12_porters_28 rfl (lv_at hl 0 rfl) ?_
      refine lv_ldcw (v := 100000000) hx hb X.1.2.2.2.1 (X.1.2.2.2.2 _ mk_X12_346) dX12_porters_29 ?_
      obtain ⟨zh10, qzh10, hf⟩ := gb_el hf
      refine gx_putV X hw qzh10 clX12 (by decide) mf_X12_395 rfl rfl rfl dX12_porters_32 (fun H locs hw => ?_)
      refine lv_aload_n hx hb dX12_porters_35 rfl (lv_at hl 0 rfl) ?_
      refine lv_iconst (v := 0) hx hb dX12_porters_36 (by decide) ?_
      refine W.eq (g2 := F0 m 37 ls [.int 0, .ref (gB E + za0)]) rfl ?_
      refine lv_iconst (v := 0) hx hb dX12_porters_37 (by decide) ?_
      obtain ⟨qizh11, hf⟩ := gg_el hf
      obtain ⟨zh11, qzh11, hf⟩ := gb_el hf
      refine gx_kv (gx_runV (As := [.int 0, .int 0]) (rest := []) X hw (c_X12_triesJobs l E N za0 0 0 zh10 qzh11) kX12_triesJobs mm_X12_398 qizh11 clX12 ⟨Nat.le_of_ble_eq_true rfl, Nat.le_of_ble_eq_true rfl⟩ rfl rfl rfl hl.1 (Nat.le_of_ble_eq_true rfl) rfl dX12_porters_38 ⟨Nat.le_of_ble_eq_true rfl, Nat.le_of_ble_eq_true rfl⟩) hw (fun H locs hw => ?_)
      refine lv_aload_n hx hb dX12_porters_41 rfl (lv_at hl 0 rfl) ?_
      refine lv_aload_n hx hb dX12_porters_42 rfl (lv_at hl 0 rfl) ?_
      obtain ⟨zt12, qzt12, hf⟩ := gb_el hf
      refine gx_getR X hw qzt12 clX12 (by decide) mf_X12_108 dX12_porters_43 ?_
      obtain ⟨qizh13, hf⟩ := gg_el hf
      obtain ⟨zt14, zh13, qzh13, hf⟩ := gc_el hf
      refine gx_ki (gx_runV (As := [.ref (gB E + zt12)]) (rest := []) X hw (c_X12_doneBy l E N za0 zt12 zh11 qzh13) kX12_doneBy mm_X12_391 qizh13 clX12 ⟨Nat.le_of_ble_eq_true rfl, Nat.le_of_ble_eq_true rfl⟩ rfl rfl rfl hl.1 (Nat.le_of_ble_eq_true rfl) rfl dX12_porters_46 ⟨Nat.le_of_ble_eq_true rfl, Nat.le_of_ble_eq_true rfl⟩) hw (fun H locs hw => ?_)
      refine lv_pop hx hb dX12_porters_49 rfl ?_
      refine lv_iload_n hx hb dX12_porters_50 rfl (lv_at hl 1 rfl) ?_
      refine lv_if_eq (tgt := 59) hx hb dX12_porters_51 (by decide) (fun qc15 => ?_) (fun qc15 => ?_)
      · have hf := gif_t hf qc15
        exact J_59 za0 za1 _ _ _ ls hf hw (lv_sub hl [0, 1] rfl)
      · have hf := gif_f hf qc15
        refine lv_iload_n hx hb dX12_porters_54 rfl (lv_at hl 1 rfl) ?_
        refine W.eq (g2 := F0 m 55 ls [.int za1]) rfl ?_
        refine lv_iconst (v := 1) hx hb dX12_porters_55 (by decide) ?_
        refine lv_icmp_ne (tgt := 75) hx hb dX12_porters_56 (by decide) (fun qc16 => ?_) (fun qc16 => ?_)
        · have hf := gif_f hf qc16
          refine lv_iload_n hx hb dX12_porters_75 rfl (lv_at hl 1 rfl) ?_
          refine lv_iconst (v := 2) hx hb dX12_porters_76 (by decide) ?_
          refine lv_icmp_ne (tgt := 87) hx hb dX12_porters_77 (by decide) (fun qc17 => ?_) (fun qc17 => ?_)
          · have hf := gif_f hf qc17
            refine lv_aload_n hx hb dX12_porters_87 rfl (lv_at hl 0 rfl) ?_
            obtain ⟨zt18, qzt18, hf⟩ := gb_el hf
            refine gx_getR X hw qzt18 clX12 (by decide) mf_X12_108 dX12_porters_88 ?_
            refine lv_iload_n hx hb dX12_porters_91 rfl (lv_at hl 1 rfl) ?_
            refine lv_iconst (v := 3) hx hb dX12_porters_92 (by decide) ?_
            refine lv_isub hx hb dX12_porters_93 ?_
            refine W.eq (g2 := F0 m 94 ls [.int (za1 - 3), .ref (gB E + zt18)]) rfl ?_
            obtain ⟨zt19, qzt19, hf⟩ := gb_el hf
            refine gx_iald X hw qzt19 dX12_porters_94 ?_
            exact J_95 zt19 _ _ _ ls hf hw (lv_sub hl [] rfl)
          · have hf := gif_t hf qc17
            refine lv_aload_n hx hb dX12_porters_80 rfl (lv_at hl 0 rfl) ?_
            obtain ⟨qizh20, hf⟩ := gg_el hf
            obtain ⟨zt21, zh20, qzh20, hf⟩ := gc_el hf
            refine gx_ki (gx_runV (As := []) (rest := []) X hw (c_X12_mostAtOnce l E N za0 zh13 qzh20) kX12_mostAtOnce mm_X12_401 qizh20 clX12 ⟨Nat.le_of_ble_eq_true rfl, Nat.le_of_ble_eq_true rfl⟩ rfl rfl rfl hl.1 (Nat.le_of_ble_eq_true rfl) rfl dX12_porters_81 ⟨Nat.le_of_ble_eq_true rfl, Nat.le_of_ble_eq_true rfl⟩) hw (fun H locs hw => ?_)
            refine lv_goto (tgt := 95) hx hb dX12_porters_84 (by decide) ?_
            exact J_95 zt21 _ _ _ ls hf hw (lv_sub hl [] rfl)
        · have hf := gif_t hf qc16
          exact J_59 za0 za1 _ _ _ ls hf hw (lv_sub hl [0, 1] rfl)
    · have hf := gif_t hf qc9
      exact J_26  _ _ _ ls hf hw (lv_sub hl [] rfl)
abbrev rm_X12_told : Room := { frames := 2, cells := 0, slots := 0, locals := 48 }
set_option maxHeartbeats 4000000 in
set_option maxRecDepth 100000 in
theorem c_X12_told (l : Launch) (E : gE) (N : Nat) (za0 : Nat) (zh : PH) {h9 : PH} {r9 : Int32} (hf : f_X12_told N za0 zh = some (r9, h9)) : Met l yX12_told (gWS yX12_told cX12_told 2 (some .int)) rm_X12_told (gPc E [.ref (gB E + za0)] zh) (gQi E r9 h9) 0 0 (gA E) := by
  refine gx_met (by decide) ?_ rfl
  intro p e s m below meth c X hr hlk hin2 hw
  have hx := X.1.1
  have hb := X.1.2.1
  have hl := lv_entry [.ref (gB E + za0)] (n := 2) (Nat.le_of_ble_eq_true rfl)
  rw [lg_entry_eq]
  generalize (lg_sl [.ref (gB E + za0)] ++ List.replicate (2 - (lg_sl [.ref (gB E + za0)]).length) Slot.unset).toArray = ls at hl ⊢
  have hl : lv_has ls 2 [(0, .ref (gB E + za0))] := hl
  have J_47 : ∀ (zs0 : Int32) (zh : PH) (H : Heap) (locs : List Loc) (ls : Array Slot), f_X12_told_47 N zs0 zh = some (r9, h9) → gw E s zh H locs → lv_has ls 2 [] → W p l e rm_X12_told s m [.ref (gB E + za0)].toArray below meth c H locs 0 0 (MQ below (gQi E r9 h9) [.ref (gB E + za0)].toArray s 0 0 (gA E)) (F0 m 47 ls [.int zs0]) := by
    intro zs0 zh H locs ls hf hw hl
    unfold f_X12_told_47 at hf
    exact gx_iret X hr hlk hw hf dX12_told_47
  have L_7 : ∀ (zn7 : Nat) (zv0 : Nat) (zv1 : Int32) (zh : PH) (H : Heap) (locs : List Loc) (ls : Array Slot), gi (fun zk zs => f_X12_told_7 N zk zs.1 zs.2.1 zs.2.2) zn7 (zv0, zv1, zh) = some (r9, h9) → gw E s zh H locs → lv_has ls 2 [(0, .ref (gB E + zv0)), (1, .int zv1)] → W p l e rm_X12_told s m [.ref (gB E + za0)].toArray below meth c H locs 0 0 (MQ below (gQi E r9 h9) [.ref (gB E + za0)].toArray s 0 0 (gA E)) (F0 m 7 ls []) := by
    intro zn7
    induction zn7 with
    | zero =>
      intro zv0 zv1 zh H locs ls hf
      cases hf
    | succ zn7 ih_7 =>
      intro zv0 zv1 zh H locs ls hf hw hl
      have hf := gi_s hf
      dsimp only at hf
      unfold f_X12_told_7 at hf
      refine lv_iload_n hx hb dX12_told_7 rfl (lv_at hl 1 rfl) ?_
      refine lv_aload_n hx hb dX12_told_8 rfl (lv_at hl 0 rfl) ?_
      obtain ⟨qizh1, hf⟩ := gg_el hf
      obtain ⟨zt2, zh1, qzh1, hf⟩ := gc_el hf
      refine gx_ki (gx_runV (As := []) (rest := [.int zv1]) X hw (c_X12_jobs l E N zv0 zh qzh1) kX12_jobs mm_X12_382 qizh1 clX12 ⟨Nat.le_of_ble_eq_true rfl, Nat.le_of_ble_eq_true rfl⟩ rfl rfl rfl hl.1 (Nat.le_of_ble_eq_true rfl) rfl dX12_told_9 ⟨Nat.le_of_ble_eq_true rfl, Nat.le_of_ble_eq_true rfl⟩) hw (fun H locs hw => ?_)
      refine lv_icmp_ge (tgt := 28) hx hb dX12_told_12 (by decide) (fun qc3 => ?_) (fun qc3 => ?_)
      · have hf := gif_t hf qc3
        refine lv_aload_n hx hb dX12_told_28 rfl (lv_at hl 0 rfl) ?_
        obtain ⟨qizh4, hf⟩ := gg_el hf
        obtain ⟨zt5, zh4, qzh4, hf⟩ := gc_el hf
        refine gx_ki (gx_runV (As := []) (rest := []) X hw (c_X12_jobs l E N zv0 zh1 qzh4) kX12_jobs mm_X12_382 qizh4 clX12 ⟨Nat.le_of_ble_eq_true rfl, Nat.le_of_ble_eq_true rfl⟩ rfl rfl rfl hl.1 (Nat.le_of_ble_eq_true rfl) rfl dX12_told_29 ⟨Nat.le_of_ble_eq_true rfl, Nat.le_of_ble_eq_true rfl⟩) hw (fun H locs hw => ?_)
        refine lv_if_ne (tgt := 39) hx hb dX12_told_32 (by decide) (fun qc6 => ?_) (fun qc6 => ?_)
        · have hf := gif_f hf qc6
          refine lv_aload_n hx hb dX12_told_39 rfl (lv_at hl 0 rfl) ?_
          refine lv_aload_n hx hb dX12_told_40 rfl (lv_at hl 0 rfl) ?_
          refine W.eq (g2 := F0 m 41 ls [.ref (gB E + zv0), .ref (gB E + zv0)]) rfl ?_
          obtain ⟨zt7, qzt7, hf⟩ := gb_el hf
          refine gx_getR X hw qzt7 clX12 (by decide) mf_X12_105 dX12_told_41 ?_
          obtain ⟨qizh8, hf⟩ := gg_el hf
          obtain ⟨zt9, zh8, qzh8, hf⟩ := gc_el hf
          refine gx_ki (gx_runV (As := [.ref (gB E + zt7)]) (rest := []) X hw (c_X12_doneBy l E N zv0 zt7 zh4 qzh8) kX12_doneBy mm_X12_391 qizh8 clX12 ⟨Nat.le_of_ble_eq_true rfl, Nat.le_of_ble_eq_true rfl⟩ rfl rfl rfl hl.1 (Nat.le_of_ble_eq_true rfl) rfl dX12_told_44 ⟨Nat.le_of_ble_eq_true rfl, Nat.le_of_ble_eq_true rfl⟩) hw (fun H locs hw => ?_)
          exact J_47 zt9 _ _ _ ls hf hw (lv_sub hl [] rfl)
        · have hf := gif_t hf qc6
          refine lv_iconst (v := (-1)) hx hb dX12_told_35 (by decide) ?_
          refine lv_goto (tgt := 47) hx hb dX12_told_36 (by decide) ?_
          exact J_47 (-1) _ _ _ ls hf hw (lv_sub hl [] rfl)
      · have hf := gif_f hf qc3
        refine lv_aload_n hx hb dX12_told_15 rfl (lv_at hl 0 rfl) ?_
        obtain ⟨zt10, qzt10, hf⟩ := gb_el hf
        refine gx_getR X hw qzt10 clX12 (by decide) mf_X12_105 dX12_told_16 ?_
        refine lv_iload_n hx hb dX12_told_19 rfl (lv_at hl 1 rfl) ?_
        refine lv_iload_n hx hb dX12_told_20 rfl (lv_at hl 1 rfl) ?_
        obtain ⟨zh11, qzh11, hf⟩ := gb_el hf
        refine gx_iast X hw qzh11 dX12_told_21 (fun H locs hw => ?_)
        refine W.eq (g2 := F0 m 22 ls []) rfl ?_
        obtain ⟨zx12, ezx12⟩ : ∃ y : Int32, y = zv1 + 1 := ⟨_, rfl⟩
        have hf := gl_el hf ezx12
        refine lv_iinc (v := zx12) (lv' := [(1, .int zx12), (0, .ref (gB E + zv0))]) hx hb dX12_told_22 hl (k := 1) rfl (by rw [ezx12]; rfl) (by decide) rfl (fun ls hl => ?_)
        refine lv_goto (tgt := 7) hx hb dX12_told_25 (by decide) ?_
        exact ih_7 zv0 zx12 _ _ _ ls hf hw (lv_sub hl [1, 0] rfl)
  unfold f_X12_told at hf
  refine lv_aload_n hx hb dX12_told_0 rfl (lv_at hl 0 rfl) ?_
  refine lv_iconst (v := 0) hx hb dX12_told_1 (by decide) ?_
  obtain ⟨zh1, qzh1, hf⟩ := gb_el hf
  refine gx_putV X hw qzh1 clX12 (by decide) mf_X12_1 rfl rfl rfl dX12_told_2 (fun H locs hw => ?_)
  refine lv_iconst (v := 0) hx hb dX12_told_5 (by decide) ?_
  refine lv_istore_n (lv' := [(1, .int 0), (0, .ref (gB E + za0))]) hx hb dX12_told_6 rfl hl (by decide) rfl (fun ls hl => ?_)
  exact L_7 N za0 0 _ _ _ ls hf hw (lv_sub hl [1, 0] rfl)
abbrev rm_X12_clear : Room := { frames := 0, cells := 0, slots := 0, locals := 0 }
set_option maxHeartbeats 4000000 in
set_option maxRecDepth 100000 in
theorem c_X12_clear (l : Launch) (E : gE) (N : Nat) (za0 : Nat) (zh : PH) {h9 : PH} {r9 : Int32} (hf : f_X12_clear N za0 zh = some (r9, h9)) : Met l yX12_clear (gWS yX12_clear cX12_clear 1 (some .boolean)) rm_X12_clear (gPc E [.ref (gB E + za0)] zh) (gQi E r9 h9) 0 0 (gA E) := by
  refine gx_met (by decide) ?_ rfl
  intro p e s m below meth c X hr hlk hin2 hw
  have hx := X.1.1
  have hb := X.1.2.1
  have hl := lv_entry [.ref (gB E + za0)] (n := 1) (Nat.le_of_ble_eq_true rfl)
  rw [lg_entry_eq]
  generalize (lg_sl [.ref (gB E + za0)] ++ List.replicate (1 - (lg_sl [.ref (gB E + za0)]).length) Slot.unset).toArray = ls at hl ⊢
  have hl : lv_has ls 1 [(0, .ref (gB E + za0))] := hl
  unfold f_X12_clear at hf
  refine lv_aload_n hx hb dX12_clear_0 rfl (lv_at hl 0 rfl) ?_
  refine lv_iconst (v := 0) hx hb dX12_clear_1 (by decide) ?_
  obtain ⟨zh1, qzh1, hf⟩ := gb_el hf
  refine gx_putV X hw qzh1 clX12 (by decide) mf_X12_1 rfl rfl rfl dX12_clear_2 (fun H locs hw => ?_)
  refine lv_aload_n hx hb dX12_clear_5 rfl (lv_at hl 0 rfl) ?_
  obtain ⟨zt2, qzt2, hf⟩ := gb_el hf
  refine gx_getR X hw qzt2 clX12 (by decide) mf_X12_83 dX12_clear_6 ?_
  refine lv_sipush (v := 402) hx hb dX12_clear_9 (by decide) ?_
  refine lv_iconst (v := 0) hx hb dX12_clear_12 (by decide) ?_
  obtain ⟨zh3, qzh3, hf⟩ := gb_el hf
  refine gx_iast X hw qzh3 dX12_clear_13 (fun H locs hw => ?_)
  refine lv_aload_n hx hb dX12_clear_14 rfl (lv_at hl 0 rfl) ?_
  refine W.eq (g2 := F0 m 15 ls [.ref (gB E + za0)]) rfl ?_
  obtain ⟨zt4, qzt4, hf⟩ := gb_el hf
  refine gx_getR X hw qzt4 clX12 (by decide) mf_X12_83 dX12_clear_15 ?_
  refine lv_sipush (v := 473) hx hb dX12_clear_18 (by decide) ?_
  refine lv_iconst (v := 0) hx hb dX12_clear_21 (by decide) ?_
  obtain ⟨zh5, qzh5, hf⟩ := gb_el hf
  refine gx_iast X hw qzh5 dX12_clear_22 (fun H locs hw => ?_)
  refine lv_iconst (v := 1) hx hb dX12_clear_23 (by decide) ?_
  exact gx_zret X hr hlk hw hf dX12_clear_24
abbrev rm_X12_isBooked : Room := { frames := 1, cells := 0, slots := 0, locals := 20 }
set_option maxHeartbeats 4000000 in
set_option maxRecDepth 100000 in
theorem c_X12_isBooked (l : Launch) (E : gE) (N : Nat) (za0 : Nat) (za1 : Int32) (zh : PH) {h9 : PH} {r9 : Int32} (hf : f_X12_isBooked N za0 za1 zh = some (r9, h9)) : Met l yX12_isBooked (gWS yX12_isBooked cX12_isBooked 4 (some .boolean)) rm_X12_isBooked (gPc E [.ref (gB E + za0), .int za1] zh) (gQi E r9 h9) 0 0 (gA E) := by
  refine gx_met (by decide) ?_ rfl
  intro p e s m below meth c X hr hlk hin2 hw
  have hx := X.1.1
  have hb := X.1.2.1
  have hl := lv_entry [.ref (gB E + za0), .int za1] (n := 4) (Nat.le_of_ble_eq_true rfl)
  rw [lg_entry_eq]
  generalize (lg_sl [.ref (gB E + za0), .int za1] ++ List.replicate (4 - (lg_sl [.ref (gB E + za0), .int za1]).length) Slot.unset).toArray = ls at hl ⊢
  have hl : lv_has ls 4 [(0, .ref (gB E + za0)), (1, .int za1)] := hl
  have L_4 : ∀ (zn4 : Nat) (zv0 : Nat) (zv1 : Int32) (zv2 : Int32) (zv3 : Int32) (zh : PH) (H : Heap) (locs : List Loc) (ls : Array Slot), gi (fun zk zs => f_X12_isBooked_4 N zk zs.1 zs.2.1 zs.2.2.1 zs.2.2.2.1 zs.2.2.2.2) zn4 (zv0, zv1, zv2, zv3, zh) = some (r9, h9) → gw E s zh H locs → lv_has ls 4 [(0, .ref (gB E + zv0)), (1, .int zv1), (2, .int zv2), (3, .int zv3)] → W p l e rm_X12_isBooked s m [.ref (gB E + za0), .int za1].toArray below meth c H locs 0 0 (MQ below (gQi E r9 h9) [.ref (gB E + za0), .int za1].toArray s 0 0 (gA E)) (F0 m 4 ls []) := by
    intro zn4
    induction zn4 with
    | zero =>
      intro zv0 zv1 zv2 zv3 zh H locs ls hf
      cases hf
    | succ zn4 ih_4 =>
      have J_35 : ∀ (zv0 : Nat) (zv1 : Int32) (zv3 : Int32) (zs0 : Int32) (zh : PH) (H : Heap) (locs : List Loc) (ls : Array Slot), f_X12_isBooked_35 N (gi (fun zk zs => f_X12_isBooked_4 N zk zs.1 zs.2.1 zs.2.2.1 zs.2.2.2.1 zs.2.2.2.2) zn4) zv0 zv1 zv3 zs0 zh = some (r9, h9) → gw E s zh H locs → lv_has ls 4 [(0, .ref (gB E + zv0)), (1, .int zv1), (3, .int zv3)] → W p l e rm_X12_isBooked s m [.ref (gB E + za0), .int za1].toArray below meth c H locs 0 0 (MQ below (gQi E r9 h9) [.ref (gB E + za0), .int za1].toArray s 0 0 (gA E)) (F0 m 35 ls [.int zs0]) := by
        intro zv0 zv1 zv3 zs0 zh H locs ls hf hw hl
        unfold f_X12_isBooked_35 at hf
        refine lv_istore_n (lv' := [(2, .int zs0), (0, .ref (gB E + zv0)), (1, .int zv1), (3, .int zv3)]) hx hb dX12_isBooked_35 rfl hl (by decide) rfl (fun ls hl => ?_)
        obtain ⟨zx1, ezx1⟩ : ∃ y : Int32, y = zv3 + 1 := ⟨_, rfl⟩
        have hf := gl_el hf ezx1
        refine lv_iinc (v := zx1) (lv' := [(3, .int zx1), (2, .int zs0), (0, .ref (gB E + zv0)), (1, .int zv1)]) hx hb dX12_isBooked_36 hl (k := 3) rfl (by rw [ezx1]; rfl) (by decide) rfl (fun ls hl => ?_)
        refine lv_goto (tgt := 4) hx hb dX12_isBooked_39 (by decide) ?_
        exact ih_4 zv0 zv1 zs0 zx1 _ _ _ ls hf hw (lv_sub hl [2, 3, 1, 0] rfl)
      have J_30 : ∀ (zv0 : Nat) (zv1 : Int32) (zv3 : Int32) (zh : PH) (H : Heap) (locs : List Loc) (ls : Array Slot), f_X12_isBooked_30 N (gi (fun zk zs => f_X12_isBooked_4 N zk zs.1 zs.2.1 zs.2.2.1 zs.2.2.2.1 zs.2.2.2.2) zn4) zv0 zv1 zv3 zh = some (r9, h9) → gw E s zh H locs → lv_has ls 4 [(0, .ref (gB E + zv0)), (1, .int zv1), (3, .int zv3)] → W p l e rm_X12_isBooked s m [.ref (gB E + za0), .int za1].toArray below meth c H locs 0 0 (MQ below (gQi E r9 h9) [.ref (gB E + za0), .int za1].toArray s 0 0 (gA E)) (F0 m 30 ls []) := by
        intro zv0 zv1 zv3 zh H locs ls hf hw hl
        unfold f_X12_isBooked_30 at hf
        refine lv_iconst (v := 1) hx hb dX12_isBooked_30 (by decide) ?_
        refine lv_goto (tgt := 35) hx hb dX12_isBooked_31 (by decide) ?_
        exact J_35 zv0 zv1 zv3 1 _ _ _ ls hf hw (lv_sub hl [0, 1, 2] rfl)
      intro zv0 zv1 zv2 zv3 zh H locs ls hf hw hl
      have hf := gi_s hf
      dsimp only at hf
      unfold f_X12_isBooked_4 at hf
      refine lv_iload_n hx hb dX12_isBooked_4 rfl (lv_at hl 3 rfl) ?_
      refine lv_aload_n hx hb dX12_isBooked_5 rfl (lv_at hl 0 rfl) ?_
      obtain ⟨qizh1, hf⟩ := gg_el hf
      obtain ⟨zt2, zh1, qzh1, hf⟩ := gc_el hf
      refine gx_ki (gx_runV (As := []) (rest := [.int zv3]) X hw (c_X12_booked l E N zv0 zh qzh1) kX12_booked mm_X12_331 qizh1 clX12 ⟨Nat.le_of_ble_eq_true rfl, Nat.le_of_ble_eq_true rfl⟩ rfl rfl rfl hl.1 (Nat.le_of_ble_eq_true rfl) rfl dX12_isBooked_6 ⟨Nat.le_of_ble_eq_true rfl, Nat.le_of_ble_eq_true rfl⟩) hw (fun H locs hw => ?_)
      refine lv_icmp_ge (tgt := 42) hx hb dX12_isBooked_9 (by decide) (fun qc3 => ?_) (fun qc3 => ?_)
      · have hf := gif_t hf qc3
        refine lv_iload_n hx hb dX12_isBooked_42 rfl (lv_at hl 2 rfl) ?_
        exact gx_zret X hr hlk hw hf dX12_isBooked_43
      · have hf := gif_f hf qc3
        refine lv_iload_n hx hb dX12_isBooked_12 rfl (lv_at hl 2 rfl) ?_
        refine lv_if_ne (tgt := 30) hx hb dX12_isBooked_13 (by decide) (fun qc4 => ?_) (fun qc4 => ?_)
        · have hf := gif_f hf qc4
          exact J_30 zv0 zv1 zv3 _ _ _ ls hf hw (lv_sub hl [0, 1, 3] rfl)
        · have hf := gif_t hf qc4
          refine lv_aload_n hx hb dX12_isBooked_16 rfl (lv_at hl 0 rfl) ?_
          obtain ⟨zt5, qzt5, hf⟩ := gb_el hf
          refine gx_getR X hw qzt5 clX12 (by decide) mf_X12_83 dX12_isBooked_17 ?_
          refine lv_sipush (v := 496) hx hb dX12_isBooked_20 (by decide) ?_
          refine W.eq (g2 := F0 m 23 ls [.int 496, .ref (gB E + zt5)]) rfl ?_
          refine lv_iload_n hx hb dX12_isBooked_23 rfl (lv_at hl 3 rfl) ?_
          refine lv_iadd hx hb dX12_isBooked_24 ?_
          obtain ⟨zt6, qzt6, hf⟩ := gb_el hf
          refine gx_iald X hw qzt6 dX12_isBooked_25 ?_
          refine lv_iload_n hx hb dX12_isBooked_26 rfl (lv_at hl 1 rfl) ?_
          refine lv_icmp_ne (tgt := 34) hx hb dX12_isBooked_27 (by decide) (fun qc7 => ?_) (fun qc7 => ?_)
          · have hf := gif_f hf qc7
            refine lv_iconst (v := 0) hx hb dX12_isBooked_34 (by decide) ?_
            exact J_35 zv0 zv1 zv3 0 _ _ _ ls hf hw (lv_sub hl [0, 1, 3] rfl)
          · have hf := gif_t hf qc7
            exact J_30 zv0 zv1 zv3 _ _ _ ls hf hw (lv_sub hl [0, 1, 3] rfl)
  unfold f_X12_isBooked at hf
  refine lv_iconst (v := 0) hx hb dX12_isBooked_0 (by decide) ?_
  refine lv_istore_n (lv' := [(2, .int 0), (0, .ref (gB E + za0)), (1, .int za1)]) hx hb dX12_isBooked_1 rfl hl (by decide) rfl (fun ls hl => ?_)
  refine lv_iconst (v := 0) hx hb dX12_isBooked_2 (by decide) ?_
  refine lv_istore_n (lv' := [(3, .int 0), (2, .int 0), (0, .ref (gB E + za0)), (1, .int za1)]) hx hb dX12_isBooked_3 rfl hl (by decide) rfl (fun ls hl => ?_)
  exact L_4 N za0 za1 0 0 _ _ _ ls hf hw (lv_sub hl [2, 3, 1, 0] rfl)
