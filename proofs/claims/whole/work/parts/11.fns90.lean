def f_X11_gives_60 (N : Nat) (zh : PH) : Option (Option Int32 × PH) :=
  some (none, zh ++ [.inr (13, [])])
def f_X11_gives_24 (N : Nat) (zh : PH) : Option (Option Int32 × PH) :=
  some (none, zh ++ [.inr (13, [])])
def f_X11_gives (N : Nat) (za0 : Nat) (za1 : Int32) (za2 : Int32) (za3 : Int32) (zh : PH) : Option (Option Int32 × PH) :=
  gg (gIs 11 za0 zh) <|
  gc (f_X11_isRule N za0 za1 zh) fun zt2 zh1 =>
  if (zt2 : Int32) = 0 then (
  f_X11_gives_24 N  zh1)
  else (
  gg (gIs 11 za0 zh1) <|
  gc (f_X11_isGuest N za0 za2 zh1) fun zt5 zh4 =>
  if (zt5 : Int32) = 0 then (
  f_X11_gives_24 N  zh4)
  else (
  gg (gIs 11 za0 zh4) <|
  gc (f_X11_isRoom N za0 za3 zh4) fun zt8 zh7 =>
  if (zt8 : Int32) = 0 then (
  f_X11_gives_24 N  zh7)
  else (
  gb (gfR 11 3 za0 zh7) fun zt10 =>
  gb (gfR 9 1 zt10 zh7) fun zt11 =>
  gb (gfR 1 1 zt11 zh7) fun zt12 =>
  gb (arI 0 zt12 za2 zh7) fun zt13 =>
  if (zt13 : Int32) = (-1) then (
  f_X11_gives_60 N  zh7)
  else (
  if (zt13 : Int32) = za3 then (
  f_X11_gives_60 N  zh7)
  else (
  gb (gfR 11 2 za0 zh7) fun zt16 =>
  gb (gfR 11 9 za0 zh7) fun zt17 =>
  gb (gfR 11 3 za0 zh7) fun zt18 =>
  gb (gfR 9 1 zt18 zh7) fun zt19 =>
  gg (gIs 7 zt16 zh7) <|
  gc (f_X7_value N zt16 zt17 za1 zt19 za2 za3 zh7) fun zt21 zh20 =>
  some (some zt21, zh20))))))
def f_L_gives (N : Nat) (za0 : Nat) (za1 za2 za3 : Int32) (za4 : Nat) (zh : PH) : Option (Int32 × PH) :=
  gg (gIs 11 za0 zh) <|
  gc (f_X11_gives N za0 za1 za2 za3 zh) fun zr zh1 =>
  gom zr (some (1, zh1)) fun zv =>
  gb (asL 1 za4 0 (Int32.toInt64 zv) zh1) fun zh2 =>
  some (0, zh2)
def f_L_law_1264 (N : Nat) (zL : Nat) (zxs : Nat → Int32) (zk23 : (Nat × Nat × Nat × Nat × Int32 × PH) → Option (Int32 × PH)) (zv0 : Nat) (zv1 : Nat) (zv2 : Nat) (zv3 : Nat) (zv4 : Int32) (zh : PH) : Option (Int32 × PH) :=
  gl (zv4 + 7) fun (zx1 : Int32) =>
  zk23 (zv0, zv1, zv2, zv3, zx1, zh)
def f_L_law_1231 (N : Nat) (zL : Nat) (zxs : Nat → Int32) (zk23 : (Nat × Nat × Nat × Nat × Int32 × PH) → Option (Int32 × PH)) (zv0 : Nat) (zv1 : Nat) (zv2 : Nat) (zv3 : Nat) (zv4 : Int32) (zs0 : Int32) (zs1 : Int32) (zs2 : Nat) (zs3 : Int32) (zh : PH) : Option (Int32 × PH) :=
  gg (gIs 12 zs2 zh) <|
  gc (f_X12_mark N zs2 zs1 zs0 zh) fun zt2 zh1 =>
  if (zs3 : Int32) = zt2 then (
  f_L_law_1264 N zL zxs zk23 zv0 zv1 zv2 zv3 zv4 zh1)
  else (
  some (0, zh1))
def f_L_law_1207 (N : Nat) (zL : Nat) (zxs : Nat → Int32) (zk23 : (Nat × Nat × Nat × Nat × Int32 × PH) → Option (Int32 × PH)) (zv0 : Nat) (zv1 : Nat) (zv2 : Nat) (zv3 : Nat) (zv4 : Int32) (zs0 : Int32) (zs1 : Int32) (zs2 : Nat) (zh : PH) : Option (Int32 × PH) :=
  gg (gIs 11 zs2 zh) <|
  gc (f_X11_mark N zs2 zs1 zs0 zh) fun zt2 zh1 =>
  gb (scr zL zxs (zv4 + 1)) fun zt3 =>
  gb (scr zL zxs (zv4 + 2)) fun zt4 =>
  if (zt4 : Int32) = 0 then (
  f_L_law_1231 N zL zxs zk23 zv0 zv1 zv2 zv3 zv4 0 zt3 zv2 zt2 zh1)
  else (
  f_L_law_1231 N zL zxs zk23 zv0 zv1 zv2 zv3 zv4 1 zt3 zv2 zt2 zh1)
def f_L_law_512 (N : Nat) (zL : Nat) (zxs : Nat → Int32) (zk23 : (Nat × Nat × Nat × Nat × Int32 × PH) → Option (Int32 × PH)) (zv0 : Nat) (zv1 : Nat) (zv2 : Nat) (zv3 : Nat) (zv4 : Int32) (zh : PH) : Option (Int32 × PH) :=
  f_L_law_1264 N zL zxs zk23 zv0 zv1 zv2 zv3 zv4 zh
def f_L_law_23 (N : Nat) (zL : Nat) (zxs : Nat → Int32) (zk23 : (Nat × Nat × Nat × Nat × Int32 × PH) → Option (Int32 × PH)) (zv0 : Nat) (zv1 : Nat) (zv2 : Nat) (zv3 : Nat) (zv4 : Int32) (zh : PH) : Option (Int32 × PH) :=
  if (((Int32.ofNat zL) - 7) : Int32) < zv4 then (
  some (1, zh))
  else (
  gb (scr zL zxs zv4) fun zt2 =>
  if ((zt2 &&& 31) : Int32) = 0 then (
  gb (scr zL zxs (zv4 + 1)) fun zt4 =>
  gb (scr zL zxs (zv4 + 2)) fun zt5 =>
  gb (scr zL zxs (zv4 + 3)) fun zt6 =>
  gb (scr zL zxs (zv4 + 4)) fun zt7 =>
  gb (scr zL zxs (zv4 + 5)) fun zt8 =>
  gb (scr zL zxs (zv4 + 6)) fun zt9 =>
  gg (gIs 11 zv1 zh) <|
  gc (f_X11_feed N zv1 (((Int32.toInt64 zt4) <<< (Int32.toInt64 32 &&& 63)) ||| ((Int32.toInt64 zt5) &&& 4294967295)) (((Int32.toInt64 zt6) <<< (Int32.toInt64 32 &&& 63)) ||| ((Int32.toInt64 zt7) &&& 4294967295)) (((Int32.toInt64 zt8) <<< (Int32.toInt64 32 &&& 63)) ||| ((Int32.toInt64 zt9) &&& 4294967295)) zh) fun zt11 zh10 =>
  gb (scr zL zxs (zv4 + 1)) fun zt12 =>
  gb (scr zL zxs (zv4 + 2)) fun zt13 =>
  gb (scr zL zxs (zv4 + 3)) fun zt14 =>
  gb (scr zL zxs (zv4 + 4)) fun zt15 =>
  gb (scr zL zxs (zv4 + 5)) fun zt16 =>
  gb (scr zL zxs (zv4 + 6)) fun zt17 =>
  gg (gIs 12 zv2 zh10) <|
  gc (f_X12_feed N zv2 (((Int32.toInt64 zt12) <<< (Int32.toInt64 32 &&& 63)) ||| ((Int32.toInt64 zt13) &&& 4294967295)) (((Int32.toInt64 zt14) <<< (Int32.toInt64 32 &&& 63)) ||| ((Int32.toInt64 zt15) &&& 4294967295)) (((Int32.toInt64 zt16) <<< (Int32.toInt64 32 &&& 63)) ||| ((Int32.toInt64 zt17) &&& 4294967295)) zh10) fun zt19 zh18 =>
  if (zt11 : Int32) = zt19 then (
  f_L_law_1264 N zL zxs zk23 zv0 zv1 zv2 zv3 zv4 zh18)
  else (
  some (0, zh18)))
  else (
  if ((zt2 &&& 31) : Int32) = 1 then (
  gg (gIs 11 zv1 zh) <|
  gc (f_X11_inn N zv1 zh) fun zt23 zh22 =>
  gg (gIs 12 zv2 zh22) <|
  gc (f_X12_inn N zv2 zh22) fun zt25 zh24 =>
  if (zt23 : Int32) = zt25 then (
  f_L_law_1264 N zL zxs zk23 zv0 zv1 zv2 zv3 zv4 zh24)
  else (
  some (0, zh24)))
  else (
  if ((zt2 &&& 31) : Int32) = 2 then (
  gb (scr zL zxs (zv4 + 1)) fun zt28 =>
  gb (scr zL zxs (zv4 + 2)) fun zt29 =>
  gg (gIs 11 zv1 zh) <|
  gc (f_X11_room N zv1 zt28 zt29 zh) fun zt31 zh30 =>
  gb (scr zL zxs (zv4 + 1)) fun zt32 =>
  gb (scr zL zxs (zv4 + 2)) fun zt33 =>
  gg (gIs 12 zv2 zh30) <|
  gc (f_X12_room N zv2 zt32 zt33 zh30) fun zt35 zh34 =>
  if (zt31 : Int32) = zt35 then (
  f_L_law_1264 N zL zxs zk23 zv0 zv1 zv2 zv3 zv4 zh34)
  else (
  some (0, zh34)))
  else (
  if ((zt2 &&& 31) : Int32) = 3 then (
  gb (scr zL zxs (zv4 + 1)) fun zt38 =>
  gb (scr zL zxs (zv4 + 2)) fun zt39 =>
  gg (gIs 11 zv1 zh) <|
  gc (f_X11_guest N zv1 zt38 zt39 zh) fun zt41 zh40 =>
  gb (scr zL zxs (zv4 + 1)) fun zt42 =>
  gb (scr zL zxs (zv4 + 2)) fun zt43 =>
  gg (gIs 12 zv2 zh40) <|
  gc (f_X12_guest N zv2 zt42 zt43 zh40) fun zt45 zh44 =>
  if (zt41 : Int32) = zt45 then (
  f_L_law_1264 N zL zxs zk23 zv0 zv1 zv2 zv3 zv4 zh44)
  else (
  some (0, zh44)))
  else (
  if ((zt2 &&& 31) : Int32) = 4 then (
  gb (scr zL zxs (zv4 + 1)) fun zt48 =>
  gg (gIs 11 zv1 zh) <|
  gc (f_X11_use N zv1 zt48 zh) fun zt50 zh49 =>
  gb (scr zL zxs (zv4 + 1)) fun zt51 =>
  gg (gIs 12 zv2 zh49) <|
  gc (f_X12_use N zv2 zt51 zh49) fun zt53 zh52 =>
  if (zt50 : Int32) = zt53 then (
  f_L_law_1264 N zL zxs zk23 zv0 zv1 zv2 zv3 zv4 zh52)
  else (
  some (0, zh52)))
  else (
  if ((zt2 &&& 31) : Int32) = 5 then (
  gb (scr zL zxs (zv4 + 1)) fun zt56 =>
  gb (scr zL zxs (zv4 + 2)) fun zt57 =>
  gb (scr zL zxs (zv4 + 3)) fun zt58 =>
  gc (f_L_gives N zv1 zt56 zt57 zt58 zv3 zh) fun zt59 zh60 =>
  gb (scr zL zxs (zv4 + 1)) fun zt61 =>
  gb (scr zL zxs (zv4 + 2)) fun zt62 =>
  gb (scr zL zxs (zv4 + 3)) fun zt63 =>
  gg (gIs 12 zv2 zh60) <|
  gc (f_X12_gives N zv2 zt61 zt62 zt63 zh60) fun zt65 zh64 =>
  gg (gIs 12 zv2 zh64) <|
  gc (f_X12_thrown N zv2 zh64) fun zt67 zh66 =>
  if (zt67 : Int32) = zt59 then (
  if (zt59 : Int32) = 0 then (
  gb (arL 1 zv3 0 zh66) fun zt70 =>
  if ((lg_cmp zt70 (Int32.toInt64 zt65)) : Int32) = 0 then (
  f_L_law_512 N zL zxs zk23 zv0 zv1 zv2 zv3 zv4 zh66)
  else (
  some (0, zh66)))
  else (
  f_L_law_512 N zL zxs zk23 zv0 zv1 zv2 zv3 zv4 zh66))
  else (
  some (0, zh66)))
  else (
  if ((zt2 &&& 31) : Int32) = 6 then (
  gb (scr zL zxs (zv4 + 1)) fun zt73 =>
  gb (scr zL zxs (zv4 + 2)) fun zt74 =>
  gg (gIs 11 zv1 zh) <|
  gc (f_X11_come N zv1 zt73 zt74 zh) fun zt76 zh75 =>
  gb (scr zL zxs (zv4 + 1)) fun zt77 =>
  gb (scr zL zxs (zv4 + 2)) fun zt78 =>
  gg (gIs 12 zv2 zh75) <|
  gc (f_X12_come N zv2 zt77 zt78 zh75) fun zt80 zh79 =>
  if (zt76 : Int32) = zt80 then (
  f_L_law_1264 N zL zxs zk23 zv0 zv1 zv2 zv3 zv4 zh79)
  else (
  some (0, zh79)))
  else (
  if ((zt2 &&& 31) : Int32) = 7 then (
  gb (scr zL zxs (zv4 + 1)) fun zt83 =>
  gb (scr zL zxs (zv4 + 2)) fun zt84 =>
  gg (gIs 11 zv1 zh) <|
  gc (f_X11_leave N zv1 zt83 zt84 zh) fun zt86 zh85 =>
  gb (scr zL zxs (zv4 + 1)) fun zt87 =>
  gb (scr zL zxs (zv4 + 2)) fun zt88 =>
  gg (gIs 12 zv2 zh85) <|
  gc (f_X12_leave N zv2 zt87 zt88 zh85) fun zt90 zh89 =>
  if (zt86 : Int32) = zt90 then (
  f_L_law_1264 N zL zxs zk23 zv0 zv1 zv2 zv3 zv4 zh89)
  else (
  some (0, zh89)))
  else (
  if ((zt2 &&& 31) : Int32) = 8 then (
  gg (gIs 11 zv1 zh) <|
  gc (f_X11_over N zv1 zh) fun zt94 zh93 =>
  gg (gIs 12 zv2 zh93) <|
  gc (f_X12_over N zv2 zh93) fun zt96 zh95 =>
  if (zt94 : Int32) = zt96 then (
  f_L_law_1264 N zL zxs zk23 zv0 zv1 zv2 zv3 zv4 zh95)
  else (
  some (0, zh95)))
  else (
  if ((zt2 &&& 31) : Int32) = 9 then (
  gb (scr zL zxs (zv4 + 1)) fun zt99 =>
  gg (gIs 11 zv1 zh) <|
  gc (f_X11_sum N zv1 zt99 zh) fun zt101 zh100 =>
  gb (scr zL zxs (zv4 + 1)) fun zt102 =>
  gg (gIs 12 zv2 zh100) <|
  gc (f_X12_sum N zv2 zt102 zh100) fun zt104 zh103 =>
  if (zt101 : Int32) = zt104 then (
  f_L_law_1264 N zL zxs zk23 zv0 zv1 zv2 zv3 zv4 zh103)
  else (
  some (0, zh103)))
  else (
  if ((zt2 &&& 31) : Int32) = 10 then (
  gb (scr zL zxs (zv4 + 1)) fun zt107 =>
  gb (scr zL zxs (zv4 + 2)) fun zt108 =>
  gg (gIs 11 zv1 zh) <|
  gc (f_X11_where N zv1 zt107 zt108 zh) fun zt110 zh109 =>
  gb (scr zL zxs (zv4 + 1)) fun zt111 =>
  gb (scr zL zxs (zv4 + 2)) fun zt112 =>
  gg (gIs 12 zv2 zh109) <|
  gc (f_X12_where N zv2 zt111 zt112 zh109) fun zt114 zh113 =>
  if (zt110 : Int32) = zt114 then (
  f_L_law_1264 N zL zxs zk23 zv0 zv1 zv2 zv3 zv4 zh113)
  else (
  some (0, zh113)))
  else (
  if ((zt2 &&& 31) : Int32) = 11 then (
  gb (scr zL zxs (zv4 + 1)) fun zt117 =>
  gb (scr zL zxs (zv4 + 2)) fun zt118 =>
  gg (gIs 11 zv1 zh) <|
  gc (f_X11_who N zv1 zt117 zt118 zh) fun zt120 zh119 =>
  gb (scr zL zxs (zv4 + 1)) fun zt121 =>
  gb (scr zL zxs (zv4 + 2)) fun zt122 =>
  gg (gIs 12 zv2 zh119) <|
  gc (f_X12_who N zv2 zt121 zt122 zh119) fun zt124 zh123 =>
  if (zt120 : Int32) = zt124 then (
  f_L_law_1264 N zL zxs zk23 zv0 zv1 zv2 zv3 zv4 zh123)
  else (
  some (0, zh123)))
  else (
  if ((zt2 &&& 31) : Int32) = 12 then (
  gb (scr zL zxs (zv4 + 1)) fun zt127 =>
  gb (scr zL zxs (zv4 + 2)) fun zt128 =>
  gb (scr zL zxs (zv4 + 3)) fun zt129 =>
  gg (gIs 11 zv1 zh) <|
  gc (f_X11_letter N zv1 zt127 zt128 zt129 zh) fun zt131 zh130 =>
  gb (scr zL zxs (zv4 + 1)) fun zt132 =>
  gb (scr zL zxs (zv4 + 2)) fun zt133 =>
  gb (scr zL zxs (zv4 + 3)) fun zt134 =>
  gg (gIs 12 zv2 zh130) <|
  gc (f_X12_letter N zv2 zt132 zt133 zt134 zh130) fun zt136 zh135 =>
  if (zt131 : Int32) = zt136 then (
  f_L_law_1264 N zL zxs zk23 zv0 zv1 zv2 zv3 zv4 zh135)
  else (
  some (0, zh135)))
  else (
  if ((zt2 &&& 31) : Int32) = 13 then (
  gb (scr zL zxs (zv4 + 1)) fun zt139 =>
  gb (scr zL zxs (zv4 + 2)) fun zt140 =>
  gb (scr zL zxs (zv4 + 3)) fun zt141 =>
  gg (gIs 11 zv1 zh) <|
  gc (f_X11_trunk N zv1 zt139 zt140 zt141 zh) fun zt143 zh142 =>
  gb (scr zL zxs (zv4 + 1)) fun zt144 =>
  gb (scr zL zxs (zv4 + 2)) fun zt145 =>
  gb (scr zL zxs (zv4 + 3)) fun zt146 =>
  gg (gIs 12 zv2 zh142) <|
  gc (f_X12_trunk N zv2 zt144 zt145 zt146 zh142) fun zt148 zh147 =>
  if (zt143 : Int32) = zt148 then (
  f_L_law_1264 N zL zxs zk23 zv0 zv1 zv2 zv3 zv4 zh147)
  else (
  some (0, zh147)))
  else (
  if ((zt2 &&& 31) : Int32) = 14 then (
  gb (scr zL zxs (zv4 + 1)) fun zt151 =>
  gb (scr zL zxs (zv4 + 2)) fun zt152 =>
  gb (scr zL zxs (zv4 + 3)) fun zt153 =>
  gg (gIs 11 zv1 zh) <|
  gc (f_X11_sight N zv1 zt151 zt152 zt153 zh) fun zt155 zh154 =>
  gb (scr zL zxs (zv4 + 1)) fun zt156 =>
  gb (scr zL zxs (zv4 + 2)) fun zt157 =>
  gb (scr zL zxs (zv4 + 3)) fun zt158 =>
  gg (gIs 12 zv2 zh154) <|
  gc (f_X12_sight N zv2 zt156 zt157 zt158 zh154) fun zt160 zh159 =>
  if (zt155 : Int32) = zt160 then (
  f_L_law_1264 N zL zxs zk23 zv0 zv1 zv2 zv3 zv4 zh159)
  else (
  some (0, zh159)))
  else (
  if ((zt2 &&& 31) : Int32) = 15 then (
  gb (scr zL zxs (zv4 + 1)) fun zt163 =>
  gb (scr zL zxs (zv4 + 2)) fun zt164 =>
  gg (gIs 11 zv1 zh) <|
  gc (f_X11_could N zv1 zt163 zt164 zh) fun zt166 zh165 =>
  gb (scr zL zxs (zv4 + 1)) fun zt167 =>
  gb (scr zL zxs (zv4 + 2)) fun zt168 =>
  gg (gIs 12 zv2 zh165) <|
  gc (f_X12_could N zv2 zt167 zt168 zh165) fun zt170 zh169 =>
  if (zt166 : Int32) = zt170 then (
  f_L_law_1264 N zL zxs zk23 zv0 zv1 zv2 zv3 zv4 zh169)
  else (
  some (0, zh169)))
  else (
  if ((zt2 &&& 31) : Int32) = 16 then (
  gg (gIs 11 zv1 zh) <|
  gc (f_X11_liars N zv1 zh) fun zt174 zh173 =>
  gg (gIs 12 zv2 zh173) <|
  gc (f_X12_liars N zv2 zh173) fun zt176 zh175 =>
  if (zt174 : Int32) = zt176 then (
  f_L_law_1264 N zL zxs zk23 zv0 zv1 zv2 zv3 zv4 zh175)
  else (
  some (0, zh175)))
  else (
  if ((zt2 &&& 31) : Int32) = 17 then (
  gb (scr zL zxs (zv4 + 1)) fun zt179 =>
  gb (scr zL zxs (zv4 + 2)) fun zt180 =>
  gg (gIs 11 zv1 zh) <|
  gc (f_X11_page N zv1 zt179 zt180 zh) fun zt182 zh181 =>
  gb (scr zL zxs (zv4 + 1)) fun zt183 =>
  gb (scr zL zxs (zv4 + 2)) fun zt184 =>
  gg (gIs 12 zv2 zh181) <|
  gc (f_X12_page N zv2 zt183 zt184 zh181) fun zt186 zh185 =>
  if (zt182 : Int32) = zt186 then (
  f_L_law_1264 N zL zxs zk23 zv0 zv1 zv2 zv3 zv4 zh185)
  else (
  some (0, zh185)))
  else (
  if ((zt2 &&& 31) : Int32) = 18 then (
  gg (gIs 11 zv1 zh) <|
  gc (f_X11_ways N zv1 zh) fun zt190 zh189 =>
  gg (gIs 12 zv2 zh189) <|
  gc (f_X12_ways N zv2 zh189) fun zt192 zh191 =>
  if ((lg_cmp zt190 zt192) : Int32) = 0 then (
  f_L_law_1264 N zL zxs zk23 zv0 zv1 zv2 zv3 zv4 zh191)
  else (
  some (0, zh191)))
  else (
  if ((zt2 &&& 31) : Int32) = 19 then (
  gb (scr zL zxs (zv4 + 1)) fun zt195 =>
  gg (gIs 11 zv1 zh) <|
  gc (f_X11_sure N zv1 zt195 zh) fun zt197 zh196 =>
  gb (scr zL zxs (zv4 + 1)) fun zt198 =>
  gg (gIs 12 zv2 zh196) <|
  gc (f_X12_sure N zv2 zt198 zh196) fun zt200 zh199 =>
  if (zt197 : Int32) = zt200 then (
  f_L_law_1264 N zL zxs zk23 zv0 zv1 zv2 zv3 zv4 zh199)
  else (
  some (0, zh199)))
  else (
  if ((zt2 &&& 31) : Int32) = 20 then (
  gb (scr zL zxs (zv4 + 1)) fun zt203 =>
  gb (scr zL zxs (zv4 + 2)) fun zt204 =>
  gb (scr zL zxs (zv4 + 3)) fun zt205 =>
  gg (gIs 11 zv1 zh) <|
  gc (f_X11_job N zv1 zt203 zt204 zt205 zh) fun zt207 zh206 =>
  gb (scr zL zxs (zv4 + 1)) fun zt208 =>
  gb (scr zL zxs (zv4 + 2)) fun zt209 =>
  gb (scr zL zxs (zv4 + 3)) fun zt210 =>
  gg (gIs 12 zv2 zh206) <|
  gc (f_X12_job N zv2 zt208 zt209 zt210 zh206) fun zt212 zh211 =>
  if (zt207 : Int32) = zt212 then (
  f_L_law_1264 N zL zxs zk23 zv0 zv1 zv2 zv3 zv4 zh211)
  else (
  some (0, zh211)))
  else (
  if ((zt2 &&& 31) : Int32) = 21 then (
  gb (scr zL zxs (zv4 + 1)) fun zt215 =>
  gg (gIs 11 zv1 zh) <|
  gc (f_X11_porters N zv1 zt215 zh) fun zt217 zh216 =>
  gb (scr zL zxs (zv4 + 1)) fun zt218 =>
  gg (gIs 12 zv2 zh216) <|
  gc (f_X12_porters N zv2 zt218 zh216) fun zt220 zh219 =>
  if (zt217 : Int32) = zt220 then (
  f_L_law_1264 N zL zxs zk23 zv0 zv1 zv2 zv3 zv4 zh219)
  else (
  some (0, zh219)))
  else (
  if ((zt2 &&& 31) : Int32) = 22 then (
  gg (gIs 11 zv1 zh) <|
  gc (f_X11_told N zv1 zh) fun zt224 zh223 =>
  gg (gIs 12 zv2 zh223) <|
  gc (f_X12_told N zv2 zh223) fun zt226 zh225 =>
  if (zt224 : Int32) = zt226 then (
  f_L_law_1264 N zL zxs zk23 zv0 zv1 zv2 zv3 zv4 zh225)
  else (
  some (0, zh225)))
  else (
  if ((zt2 &&& 31) : Int32) = 23 then (
  gg (gIs 11 zv1 zh) <|
  gc (f_X11_clear N zv1 zh) fun zt230 zh229 =>
  gg (gIs 12 zv2 zh229) <|
  gc (f_X12_clear N zv2 zh229) fun zt232 zh231 =>
  if (zt230 : Int32) = zt232 then (
  f_L_law_1264 N zL zxs zk23 zv0 zv1 zv2 zv3 zv4 zh231)
  else (
  some (0, zh231)))
  else (
  if ((zt2 &&& 31) : Int32) = 24 then (
  gb (scr zL zxs (zv4 + 1)) fun zt235 =>
  gg (gIs 11 zv1 zh) <|
  gc (f_X11_book N zv1 zt235 zh) fun zt237 zh236 =>
  gb (scr zL zxs (zv4 + 1)) fun zt238 =>
  gg (gIs 12 zv2 zh236) <|
  gc (f_X12_book N zv2 zt238 zh236) fun zt240 zh239 =>
  if (zt237 : Int32) = zt240 then (
  f_L_law_1264 N zL zxs zk23 zv0 zv1 zv2 zv3 zv4 zh239)
  else (
  some (0, zh239)))
  else (
  if ((zt2 &&& 31) : Int32) = 25 then (
  gb (scr zL zxs (zv4 + 1)) fun zt243 =>
  gb (scr zL zxs (zv4 + 2)) fun zt244 =>
  gg (gIs 11 zv1 zh) <|
  gc (f_X11_order N zv1 zt243 zt244 zh) fun zt246 zh245 =>
  gb (scr zL zxs (zv4 + 1)) fun zt247 =>
  gb (scr zL zxs (zv4 + 2)) fun zt248 =>
  gg (gIs 12 zv2 zh245) <|
  gc (f_X12_order N zv2 zt247 zt248 zh245) fun zt250 zh249 =>
  if (zt246 : Int32) = zt250 then (
  f_L_law_1264 N zL zxs zk23 zv0 zv1 zv2 zv3 zv4 zh249)
  else (
  some (0, zh249)))
  else (
  if ((zt2 &&& 31) : Int32) = 26 then (
  gb (scr zL zxs (zv4 + 1)) fun zt253 =>
  gb (scr zL zxs (zv4 + 2)) fun zt254 =>
  gg (gIs 11 zv1 zh) <|
  gc (f_X11_tried N zv1 zt253 zt254 zh) fun zt256 zh255 =>
  gb (scr zL zxs (zv4 + 1)) fun zt257 =>
  gb (scr zL zxs (zv4 + 2)) fun zt258 =>
  gg (gIs 12 zv2 zh255) <|
  gc (f_X12_tried N zv2 zt257 zt258 zh255) fun zt260 zh259 =>
  if (zt256 : Int32) = zt260 then (
  f_L_law_1264 N zL zxs zk23 zv0 zv1 zv2 zv3 zv4 zh259)
  else (
  some (0, zh259)))
  else (
  if ((zt2 &&& 31) : Int32) = 27 then (
  gg (gIs 11 zv1 zh) <|
  gc (f_X11_best N zv1 zh) fun zt264 zh263 =>
  gg (gIs 12 zv2 zh263) <|
  gc (f_X12_best N zv2 zh263) fun zt266 zh265 =>
  if (zt264 : Int32) = zt266 then (
  f_L_law_1264 N zL zxs zk23 zv0 zv1 zv2 zv3 zv4 zh265)
  else (
  some (0, zh265)))
  else (
  if ((zt2 &&& 31) : Int32) = 28 then (
  gb (scr zL zxs (zv4 + 1)) fun zt269 =>
  gb (scr zL zxs (zv4 + 2)) fun zt270 =>
  if (zt270 : Int32) = 0 then (
  f_L_law_1207 N zL zxs zk23 zv0 zv1 zv2 zv3 zv4 0 zt269 zv1 zh)
  else (
  f_L_law_1207 N zL zxs zk23 zv0 zv1 zv2 zv3 zv4 1 zt269 zv1 zh))
  else (
  if ((zt2 &&& 31) : Int32) = 29 then (
  gb (scr zL zxs (zv4 + 1)) fun zt273 =>
  gg (gIs 11 zv1 zh) <|
  gc (f_X11_count N zv1 zt273 zh) fun zt275 zh274 =>
  gb (scr zL zxs (zv4 + 1)) fun zt276 =>
  gg (gIs 12 zv2 zh274) <|
  gc (f_X12_count N zv2 zt276 zh274) fun zt278 zh277 =>
  if (zt275 : Int32) = zt278 then (
  f_L_law_1264 N zL zxs zk23 zv0 zv1 zv2 zv3 zv4 zh277)
  else (
  some (0, zh277)))
  else (
  f_L_law_1264 N zL zxs zk23 zv0 zv1 zv2 zv3 zv4 zh)))))))))))))))))))))))))))))))
def f_L_law (N : Nat) (zL : Nat) (zxs : Nat → Int32) (zh : PH) : Option (Int32 × PH) :=
  gc (nwO 11 n0X11 zh) fun zr2 zh1 =>
  gb (f_X11_init N zr2 zh1) fun zh3 =>
  gc (nwO 12 n0X12 zh3) fun zr5 zh4 =>
  gb (f_X12_init N zr5 zh4) fun zh6 =>
  gc (nwA 1 1 zh6) fun zr8 zh7 =>
  gi (fun zk zs => f_L_law_23 N zL zxs zk zs.1 zs.2.1 zs.2.2.1 zs.2.2.2.1 zs.2.2.2.2.1 zs.2.2.2.2.2) 513 (0, zr2, zr5, zr8, 0, zh7)
