def f_X11_feed (N : Nat) (za0 : Nat) (za1 : Int64) (za3 : Int64) (za5 : Int64) (zh : PH) : Option (Int32 × PH) :=
  gb (gfR 11 0 za0 zh) fun zt1 =>
  gg (gIs 10 zt1 zh) <|
  gb (f_X10_append N zt1 za1 zh) fun zh2 =>
  gb (gfR 11 0 za0 zh2) fun zt3 =>
  gg (gIs 10 zt3 zh2) <|
  gb (f_X10_append N zt3 za3 zh2) fun zh4 =>
  gb (gfR 11 0 za0 zh4) fun zt5 =>
  gg (gIs 10 zt5 zh4) <|
  gb (f_X10_append N zt5 za5 zh4) fun zh6 =>
  gb (gfR 11 0 za0 zh6) fun zt7 =>
  gg (gIs 10 zt7 zh6) <|
  gc (f_X10_length N zt7 zh6) fun zt9 zh8 =>
  some (zt9, zh8)
def f_X11_isRoom_20 (N : Nat) (zs0 : Int32) (zh : PH) : Option (Int32 × PH) :=
  gg (gzb zs0) (some (zs0, zh))
def f_X11_isRoom_19 (N : Nat) (zh : PH) : Option (Int32 × PH) :=
  f_X11_isRoom_20 N 0 zh
def f_X11_isRoom (N : Nat) (za0 : Nat) (za1 : Int32) (zh : PH) : Option (Int32 × PH) :=
  if (za1 : Int32) < 0 then (
  f_X11_isRoom_19 N  zh)
  else (
  gb (gfR 11 9 za0 zh) fun zt2 =>
  gb (gfI 2 0 zt2 zh) fun zt3 =>
  if (zt3 : Int32) ≤ za1 then (
  f_X11_isRoom_19 N  zh)
  else (
  f_X11_isRoom_20 N 1 zh))
def f_X11_room (N : Nat) (za0 : Nat) (za1 : Int32) (za2 : Int32) (zh : PH) : Option (Int32 × PH) :=
  gg (gIs 11 za0 zh) <|
  gc (f_X11_isRoom N za0 za1 zh) fun zt2 zh1 =>
  if (zt2 : Int32) = 0 then (
  some ((-1), zh1))
  else (
  if (za2 : Int32) = 0 then (
  gb (gfR 11 9 za0 zh1) fun zt5 =>
  gb (gfR 2 5 zt5 zh1) fun zt6 =>
  gb (arI 0 zt6 za1 zh1) fun zt7 =>
  some (zt7, zh1))
  else (
  if (za2 : Int32) = 1 then (
  gb (gfR 11 9 za0 zh1) fun zt9 =>
  gb (gfR 2 6 zt9 zh1) fun zt10 =>
  gb (arI 0 zt10 za1 zh1) fun zt11 =>
  some (zt11, zh1))
  else (
  if (za2 : Int32) = 2 then (
  gb (gfR 11 3 za0 zh1) fun zt13 =>
  gb (gfR 9 1 zt13 zh1) fun zt14 =>
  gb (gfR 1 0 zt14 zh1) fun zt15 =>
  gb (arI 0 zt15 za1 zh1) fun zt16 =>
  some (zt16, zh1))
  else (
  some ((-1), zh1)))))
def f_X11_isGuest_20 (N : Nat) (zs0 : Int32) (zh : PH) : Option (Int32 × PH) :=
  gg (gzb zs0) (some (zs0, zh))
def f_X11_isGuest_19 (N : Nat) (zh : PH) : Option (Int32 × PH) :=
  f_X11_isGuest_20 N 0 zh
def f_X11_isGuest (N : Nat) (za0 : Nat) (za1 : Int32) (zh : PH) : Option (Int32 × PH) :=
  if (za1 : Int32) < 0 then (
  f_X11_isGuest_19 N  zh)
  else (
  gb (gfR 11 9 za0 zh) fun zt2 =>
  gb (gfI 2 1 zt2 zh) fun zt3 =>
  if (zt3 : Int32) ≤ za1 then (
  f_X11_isGuest_19 N  zh)
  else (
  f_X11_isGuest_20 N 1 zh))
def f_X11_guest (N : Nat) (za0 : Nat) (za1 : Int32) (za2 : Int32) (zh : PH) : Option (Int32 × PH) :=
  gg (gIs 11 za0 zh) <|
  gc (f_X11_isGuest N za0 za1 zh) fun zt2 zh1 =>
  if (zt2 : Int32) = 0 then (
  some ((-1), zh1))
  else (
  if (za2 : Int32) = 0 then (
  gb (gfR 11 9 za0 zh1) fun zt5 =>
  gb (gfR 2 7 zt5 zh1) fun zt6 =>
  gb (arI 0 zt6 za1 zh1) fun zt7 =>
  some (zt7, zh1))
  else (
  if (za2 : Int32) = 1 then (
  gb (gfR 11 9 za0 zh1) fun zt9 =>
  gb (gfI 2 3 zt9 zh1) fun zt10 =>
  gc (f_X11_bitOf N zt10 za1 zh1) fun zt12 zh11 =>
  some (zt12, zh11))
  else (
  if (za2 : Int32) = 2 then (
  gb (gfR 11 9 za0 zh1) fun zt14 =>
  gb (gfI 2 4 zt14 zh1) fun zt15 =>
  gc (f_X11_bitOf N zt15 za1 zh1) fun zt17 zh16 =>
  some (zt17, zh16))
  else (
  if (za2 : Int32) = 3 then (
  gb (gfR 11 3 za0 zh1) fun zt19 =>
  gb (gfR 9 1 zt19 zh1) fun zt20 =>
  gb (gfR 1 1 zt20 zh1) fun zt21 =>
  gb (arI 0 zt21 za1 zh1) fun zt22 =>
  some (zt22, zh1))
  else (
  if (za2 : Int32) = 4 then (
  gb (gfR 11 3 za0 zh1) fun zt24 =>
  gb (gfR 9 1 zt24 zh1) fun zt25 =>
  gb (gfR 1 2 zt25 zh1) fun zt26 =>
  gb (arI 0 zt26 za1 zh1) fun zt27 =>
  some (zt27, zh1))
  else (
  if (za2 : Int32) = 5 then (
  gb (gfR 11 3 za0 zh1) fun zt29 =>
  gb (gfR 9 1 zt29 zh1) fun zt30 =>
  gb (gfR 1 3 zt30 zh1) fun zt31 =>
  gb (arI 0 zt31 za1 zh1) fun zt32 =>
  some (zt32, zh1))
  else (
  some ((-1), zh1))))))))
def f_X11_isRule_20 (N : Nat) (zs0 : Int32) (zh : PH) : Option (Int32 × PH) :=
  gg (gzb zs0) (some (zs0, zh))
def f_X11_isRule_19 (N : Nat) (zh : PH) : Option (Int32 × PH) :=
  f_X11_isRule_20 N 0 zh
def f_X11_isRule (N : Nat) (za0 : Nat) (za1 : Int32) (zh : PH) : Option (Int32 × PH) :=
  if (za1 : Int32) < 0 then (
  f_X11_isRule_19 N  zh)
  else (
  gb (gfR 11 9 za0 zh) fun zt2 =>
  gb (gfI 2 2 zt2 zh) fun zt3 =>
  if (zt3 : Int32) ≤ za1 then (
  f_X11_isRule_19 N  zh)
  else (
  f_X11_isRule_20 N 1 zh))
def f_X11_use_15 (N : Nat) (zv0 : Nat) (zv1 : Int32) (zh : PH) : Option (Int32 × PH) :=
  gb (gfR 11 3 zv0 zh) fun zt1 =>
  gb (pfV 9 8 zt1 (.int zv1) zh) fun zh2 =>
  gg (gzb 1) (some (1, zh2))
def f_X11_use (N : Nat) (za0 : Nat) (za1 : Int32) (zh : PH) : Option (Int32 × PH) :=
  if (za1 : Int32) = (-1) then (
  f_X11_use_15 N za0 za1 zh)
  else (
  gg (gIs 11 za0 zh) <|
  gc (f_X11_isRule N za0 za1 zh) fun zt3 zh2 =>
  if (zt3 : Int32) = 0 then (
  gg (gzb 0) (some (0, zh2)))
  else (
  f_X11_use_15 N za0 za1 zh2))
def f_X11_isToldMinute_16 (N : Nat) (zs0 : Int32) (zh : PH) : Option (Int32 × PH) :=
  gg (gzb zs0) (some (zs0, zh))
def f_X11_isToldMinute_15 (N : Nat) (zh : PH) : Option (Int32 × PH) :=
  f_X11_isToldMinute_16 N 0 zh
def f_X11_isToldMinute (N : Nat) (za0 : Int32) (zh : PH) : Option (Int32 × PH) :=
  if (za0 : Int32) < 0 then (
  f_X11_isToldMinute_15 N  zh)
  else (
  if (99999 : Int32) < za0 then (
  f_X11_isToldMinute_15 N  zh)
  else (
  f_X11_isToldMinute_16 N 1 zh))
def f_X11_whyRefused_100 (N : Nat) (zs0 : Int32) (zh : PH) : Option (Int32 × PH) :=
  some (zs0, zh)
def f_X11_whyRefused_83 (N : Nat) (zv0 : Nat) (zh : PH) : Option (Int32 × PH) :=
  gb (gfR 11 3 zv0 zh) fun zt1 =>
  gb (gfI 9 10 zt1 zh) fun zt2 =>
  if (zt2 : Int32) < 100 then (
  f_X11_whyRefused_100 N 0 zh)
  else (
  f_X11_whyRefused_100 N 5 zh)
def f_X11_whyRefused_38 (N : Nat) (zh : PH) : Option (Int32 × PH) :=
  some (2, zh)
def f_X11_whyRefused_18 (N : Nat) (zh : PH) : Option (Int32 × PH) :=
  some (1, zh)
def f_X11_whyRefused (N : Nat) (za0 : Nat) (za1 : Int32) (za2 : Int32) (za3 : Int32) (zh : PH) : Option (Int32 × PH) :=
  gg (gIs 11 za0 zh) <|
  gc (f_X11_isGuest N za0 za1 zh) fun zt2 zh1 =>
  if (zt2 : Int32) = 0 then (
  f_X11_whyRefused_18 N  zh1)
  else (
  gb (gfR 11 9 za0 zh1) fun zt4 =>
  gb (gfI 2 0 zt4 zh1) fun zt5 =>
  if (zt5 : Int32) = 0 then (
  f_X11_whyRefused_18 N  zh1)
  else (
  gc (f_X11_isToldMinute N za2 zh1) fun zt8 zh7 =>
  if (zt8 : Int32) = 0 then (
  f_X11_whyRefused_38 N  zh7)
  else (
  gb (gfR 11 3 za0 zh7) fun zt10 =>
  gb (gfI 9 9 zt10 zh7) fun zt11 =>
  if (zt11 : Int32) ≤ za2 then (
  gb (gfR 11 3 za0 zh7) fun zt13 =>
  gb (gfR 9 1 zt13 zh7) fun zt14 =>
  gg (gIs 1 zt14 zh7) <|
  gc (f_X1_isIn N zt14 za1 zh7) fun zt16 zh15 =>
  if (zt16 : Int32) = za3 then (
  some (3, zh15))
  else (
  if (za3 : Int32) = 0 then (
  f_X11_whyRefused_83 N za0 zh15)
  else (
  gb (gfR 11 3 za0 zh15) fun zt19 =>
  gb (gfR 9 1 zt19 zh15) fun zt20 =>
  gg (gIs 1 zt20 zh15) <|
  gc (f_X1_guestsIn N zt20 zh15) fun zt22 zh21 =>
  gb (gfR 11 9 za0 zh21) fun zt23 =>
  gb (gfI 2 0 zt23 zh21) fun zt24 =>
  if (zt22 : Int32) < zt24 then (
  f_X11_whyRefused_83 N za0 zh21)
  else (
  some (4, zh21)))))
  else (
  f_X11_whyRefused_38 N  zh7))))
def f_X11_come_25 (N : Nat) (zv3 : Int32) (zh : PH) : Option (Int32 × PH) :=
  some (zv3, zh)
def f_X11_come (N : Nat) (za0 : Nat) (za1 : Int32) (za2 : Int32) (zh : PH) : Option (Int32 × PH) :=
  gg (gIs 11 za0 zh) <|
  gc (f_X11_whyRefused N za0 za1 za2 1 zh) fun zt2 zh1 =>
  if (zt2 : Int32) = 0 then (
  gb (gfR 11 3 za0 zh1) fun zt4 =>
  gb (gfR 11 9 za0 zh1) fun zt5 =>
  gg (gIs 9 zt4 zh1) <|
  gb (f_X9_takeIn N zt4 zt5 za1 za2 zh1) fun zh6 =>
  f_X11_come_25 N zt2 zh6)
  else (
  f_X11_come_25 N zt2 zh1)
def f_X11_leave_25 (N : Nat) (zv3 : Int32) (zh : PH) : Option (Int32 × PH) :=
  some (zv3, zh)
def f_X11_leave (N : Nat) (za0 : Nat) (za1 : Int32) (za2 : Int32) (zh : PH) : Option (Int32 × PH) :=
  gg (gIs 11 za0 zh) <|
  gc (f_X11_whyRefused N za0 za1 za2 0 zh) fun zt2 zh1 =>
  if (zt2 : Int32) = 0 then (
  gb (gfR 11 3 za0 zh1) fun zt4 =>
  gb (gfR 11 9 za0 zh1) fun zt5 =>
  gg (gIs 9 zt4 zh1) <|
  gb (f_X9_letOut N zt4 zt5 za1 za2 zh1) fun zh6 =>
  f_X11_leave_25 N zt2 zh6)
  else (
  f_X11_leave_25 N zt2 zh1)
def f_X11_over (N : Nat) (za0 : Nat) (zh : PH) : Option (Int32 × PH) :=
  gb (gfR 11 3 za0 zh) fun zt1 =>
  gb (gfR 9 3 zt1 zh) fun zt2 =>
  gb (gfI 0 2 zt2 zh) fun zt3 =>
  some (zt3, zh)
def f_X11_sum (N : Nat) (za0 : Nat) (za1 : Int32) (zh : PH) : Option (Int32 × PH) :=
  if (za1 : Int32) = 0 then (
  gb (gfR 11 3 za0 zh) fun zt2 =>
  gb (gfR 9 1 zt2 zh) fun zt3 =>
  gb (gfI 1 4 zt3 zh) fun zt4 =>
  some (zt4, zh))
  else (
  if (za1 : Int32) = 1 then (
  gb (gfR 11 3 za0 zh) fun zt6 =>
  gb (gfR 9 1 zt6 zh) fun zt7 =>
  gb (gfI 1 5 zt7 zh) fun zt8 =>
  some (zt8, zh))
  else (
  if (za1 : Int32) = 2 then (
  gb (gfR 11 3 za0 zh) fun zt10 =>
  gb (gfR 9 1 zt10 zh) fun zt11 =>
  gb (gfI 1 6 zt11 zh) fun zt12 =>
  some (zt12, zh))
  else (
  if (za1 : Int32) = 3 then (
  gb (gfR 11 3 za0 zh) fun zt14 =>
  gb (gfR 9 1 zt14 zh) fun zt15 =>
  gb (gfI 1 7 zt15 zh) fun zt16 =>
  some (zt16, zh))
  else (
  some ((-1), zh)))))
def f_X11_isAskedMinute_16 (N : Nat) (zs0 : Int32) (zh : PH) : Option (Int32 × PH) :=
  gg (gzb zs0) (some (zs0, zh))
def f_X11_isAskedMinute_15 (N : Nat) (zh : PH) : Option (Int32 × PH) :=
  f_X11_isAskedMinute_16 N 0 zh
def f_X11_isAskedMinute (N : Nat) (za0 : Int32) (zh : PH) : Option (Int32 × PH) :=
  if (za0 : Int32) < 0 then (
  f_X11_isAskedMinute_15 N  zh)
  else (
  if (999999 : Int32) < za0 then (
  f_X11_isAskedMinute_15 N  zh)
  else (
  f_X11_isAskedMinute_16 N 1 zh))
def f_X11_where_15 (N : Nat) (zh : PH) : Option (Int32 × PH) :=
  some ((-3), zh)
def f_X11_where (N : Nat) (za0 : Nat) (za1 : Int32) (za2 : Int32) (zh : PH) : Option (Int32 × PH) :=
  gg (gIs 11 za0 zh) <|
  gc (f_X11_isGuest N za0 za1 zh) fun zt2 zh1 =>
  if (zt2 : Int32) = 0 then (
  f_X11_where_15 N  zh1)
  else (
  gc (f_X11_isAskedMinute N za2 zh1) fun zt5 zh4 =>
  if (zt5 : Int32) = 0 then (
  f_X11_where_15 N  zh4)
  else (
  gb (gfR 11 3 za0 zh4) fun zt7 =>
  gb (gfR 9 3 zt7 zh4) fun zt8 =>
  gg (gIs 0 zt8 zh4) <|
  gc (f_X0_placeOf N zt8 za1 za2 zh4) fun zt10 zh9 =>
  some (zt10, zh9)))
def f_X11_who_15 (N : Nat) (zh : PH) : Option (Int32 × PH) :=
  some ((-1), zh)
def f_X11_who (N : Nat) (za0 : Nat) (za1 : Int32) (za2 : Int32) (zh : PH) : Option (Int32 × PH) :=
  gg (gIs 11 za0 zh) <|
  gc (f_X11_isRoom N za0 za1 zh) fun zt2 zh1 =>
  if (zt2 : Int32) = 0 then (
  f_X11_who_15 N  zh1)
  else (
  gc (f_X11_isAskedMinute N za2 zh1) fun zt5 zh4 =>
  if (zt5 : Int32) = 0 then (
  f_X11_who_15 N  zh4)
  else (
  gb (gfR 11 3 za0 zh4) fun zt7 =>
  gb (gfR 9 3 zt7 zh4) fun zt8 =>
  gg (gIs 0 zt8 zh4) <|
  gc (f_X0_occupantOf N zt8 za1 za2 zh4) fun zt10 zh9 =>
  some (zt10, zh9)))
def f_X11_letter_69 (N : Nat) (zs0 : Int32) (zh : PH) : Option (Int32 × PH) :=
  some (zs0, zh)
def f_X11_letter_27 (N : Nat) (zh : PH) : Option (Int32 × PH) :=
  some ((-1), zh)
def f_X11_letter (N : Nat) (za0 : Nat) (za1 : Int32) (za2 : Int32) (za3 : Int32) (zh : PH) : Option (Int32 × PH) :=
  gg (gIs 11 za0 zh) <|
  gc (f_X11_isGuest N za0 za1 zh) fun zt2 zh1 =>
  if (zt2 : Int32) = 0 then (
  f_X11_letter_27 N  zh1)
  else (
  gc (f_X11_isAskedMinute N za2 zh1) fun zt5 zh4 =>
  if (zt5 : Int32) = 0 then (
  f_X11_letter_27 N  zh4)
  else (
  gc (f_X11_isAskedMinute N za3 zh4) fun zt8 zh7 =>
  if (zt8 : Int32) = 0 then (
  f_X11_letter_27 N  zh7)
  else (
  if (za2 : Int32) ≤ za3 then (
  gb (gfR 11 3 za0 zh7) fun zt11 =>
  gb (gfR 9 3 zt11 zh7) fun zt12 =>
  gg (gIs 0 zt12 zh7) <|
  gc (f_X0_placeOf N zt12 za1 za2 zh7) fun zt14 zh13 =>
  gg (gIs 11 za0 zh13) <|
  gc (f_X11_isRoom N za0 zt14 zh13) fun zt16 zh15 =>
  if (zt16 : Int32) = 0 then (
  f_X11_letter_69 N (-1) zh15)
  else (
  gb (gfR 11 3 za0 zh15) fun zt18 =>
  gb (gfR 9 3 zt18 zh15) fun zt19 =>
  gg (gIs 0 zt19 zh15) <|
  gc (f_X0_occupantOf N zt19 zt14 za3 zh15) fun zt21 zh20 =>
  f_X11_letter_69 N zt21 zh20))
  else (
  f_X11_letter_27 N  zh7))))
def f_X11_trunk_27 (N : Nat) (zh : PH) : Option (Int32 × PH) :=
  some ((-1), zh)
def f_X11_trunk (N : Nat) (za0 : Nat) (za1 : Int32) (za2 : Int32) (za3 : Int32) (zh : PH) : Option (Int32 × PH) :=
  gg (gIs 11 za0 zh) <|
  gc (f_X11_isRoom N za0 za1 zh) fun zt2 zh1 =>
  if (zt2 : Int32) = 0 then (
  f_X11_trunk_27 N  zh1)
  else (
  gc (f_X11_isAskedMinute N za2 zh1) fun zt5 zh4 =>
  if (zt5 : Int32) = 0 then (
  f_X11_trunk_27 N  zh4)
  else (
  gc (f_X11_isAskedMinute N za3 zh4) fun zt8 zh7 =>
  if (zt8 : Int32) = 0 then (
  f_X11_trunk_27 N  zh7)
  else (
  if (za2 : Int32) ≤ za3 then (
  gb (gfR 11 3 za0 zh7) fun zt11 =>
  gb (gfR 9 3 zt11 zh7) fun zt12 =>
  gg (gIs 0 zt12 zh7) <|
  gc (f_X0_occupantsWithin N zt12 za1 za2 za3 zh7) fun zt14 zh13 =>
  some (zt14, zh13))
  else (
  f_X11_trunk_27 N  zh7))))
def f_X11_sight_55 (N : Nat) (zs0 : Int32) (zh : PH) : Option (Int32 × PH) :=
  some (zs0, zh)
def f_X11_sight_23 (N : Nat) (zh : PH) : Option (Int32 × PH) :=
  some ((-1), zh)
def f_X11_sight (N : Nat) (za0 : Nat) (za1 : Int32) (za2 : Int32) (za3 : Int32) (zh : PH) : Option (Int32 × PH) :=
  gg (gIs 11 za0 zh) <|
  gc (f_X11_isGuest N za0 za1 zh) fun zt2 zh1 =>
  if (zt2 : Int32) = 0 then (
  f_X11_sight_23 N  zh1)
  else (
  gg (gIs 11 za0 zh1) <|
  gc (f_X11_isRoom N za0 za2 zh1) fun zt5 zh4 =>
  if (zt5 : Int32) = 0 then (
  f_X11_sight_23 N  zh4)
  else (
  gc (f_X11_isToldMinute N za3 zh4) fun zt8 zh7 =>
  if (zt8 : Int32) = 0 then (
  f_X11_sight_23 N  zh7)
  else (
  gb (gfR 11 3 za0 zh7) fun zt10 =>
  gb (gfR 9 4 zt10 zh7) fun zt11 =>
  gg (gIs 8 zt11 zh7) <|
  gc (f_X8_add N zt11 za1 za2 za3 zh7) fun zt13 zh12 =>
  if (zt13 : Int32) = 0 then (
  f_X11_sight_55 N (-1) zh12)
  else (
  gb (gfR 11 3 za0 zh12) fun zt15 =>
  gb (gfR 9 4 zt15 zh12) fun zt16 =>
  gb (gfI 8 5 zt16 zh12) fun zt17 =>
  f_X11_sight_55 N zt17 zh12))))
def f_X11_could_15 (N : Nat) (zh : PH) : Option (Int32 × PH) :=
  some ((-1), zh)
def f_X11_could (N : Nat) (za0 : Nat) (za1 : Int32) (za2 : Int32) (zh : PH) : Option (Int32 × PH) :=
  gg (gIs 11 za0 zh) <|
  gc (f_X11_isRoom N za0 za1 zh) fun zt2 zh1 =>
  if (zt2 : Int32) = 0 then (
  f_X11_could_15 N  zh1)
  else (
  gc (f_X11_isToldMinute N za2 zh1) fun zt5 zh4 =>
  if (zt5 : Int32) = 0 then (
  f_X11_could_15 N  zh4)
  else (
  gb (gfR 11 3 za0 zh4) fun zt7 =>
  gb (gfR 9 4 zt7 zh4) fun zt8 =>
  gb (gfR 11 9 za0 zh4) fun zt9 =>
  gg (gIs 8 zt8 zh4) <|
  gc (f_X8_possibleIn N zt8 zt9 za1 za2 zh4) fun zt11 zh10 =>
  some (zt11, zh10)))
def f_X11_liars (N : Nat) (za0 : Nat) (zh : PH) : Option (Int32 × PH) :=
  gb (gfR 11 3 za0 zh) fun zt1 =>
  gb (gfR 9 4 zt1 zh) fun zt2 =>
  gb (gfR 11 9 za0 zh) fun zt3 =>
  gg (gIs 8 zt2 zh) <|
  gc (f_X8_fewestFalse N zt2 zt3 zh) fun zt5 zh4 =>
  some (zt5, zh4)
def f_X11_page_25 (N : Nat) (zh : PH) : Option (Int32 × PH) :=
  some ((-1), zh)
def f_X11_page (N : Nat) (za0 : Nat) (za1 : Int32) (za2 : Int32) (zh : PH) : Option (Int32 × PH) :=
  gg (gIs 11 za0 zh) <|
  gc (f_X11_isGuest N za0 za1 zh) fun zt2 zh1 =>
  if (zt2 : Int32) = 0 then (
  f_X11_page_25 N  zh1)
  else (
  if (za2 : Int32) < 0 then (
  f_X11_page_25 N  zh1)
  else (
  gb (gfR 11 9 za0 zh1) fun zt5 =>
  gb (gfI 2 0 zt5 zh1) fun zt6 =>
  if (za2 : Int32) < (1 <<< (zt6 &&& 31)) then (
  gb (gfR 11 3 za0 zh1) fun zt8 =>
  gb (gfR 9 5 zt8 zh1) fun zt9 =>
  gb (gfR 6 0 zt9 zh1) fun zt10 =>
  gb (asI 0 zt10 za1 za2 zh1) fun zh11 =>
  gb (gfR 11 3 za0 zh11) fun zt12 =>
  gb (gfR 9 5 zt12 zh11) fun zt13 =>
  gg (gIs 6 zt13 zh11) <|
  gc (f_X6_pages N zt13 zh11) fun zt15 zh14 =>
  some (zt15, zh14))
  else (
  f_X11_page_25 N  zh1)))
def f_X11_ways (N : Nat) (za0 : Nat) (zh : PH) : Option (Int64 × PH) :=
  gb (gfR 11 3 za0 zh) fun zt1 =>
  gb (gfR 9 5 zt1 zh) fun zt2 =>
  gb (gfR 11 8 za0 zh) fun zt3 =>
  gb (gfR 11 9 za0 zh) fun zt4 =>
  gb (gfI 2 0 zt4 zh) fun zt5 =>
  gg (gIs 6 zt2 zh) <|
  gc (f_X6_waysInAll N zt2 zt3 zt5 zh) fun zt7 zh6 =>
  some ((Int32.toInt64 zt7), zh6)
def f_X11_sure_34 (N : Nat) (zs0 : Int32) (zh : PH) : Option (Int32 × PH) :=
  some (zs0, zh)
def f_X11_sure (N : Nat) (za0 : Nat) (za1 : Int32) (zh : PH) : Option (Int32 × PH) :=
  gg (gIs 11 za0 zh) <|
  gc (f_X11_isGuest N za0 za1 zh) fun zt2 zh1 =>
  if (zt2 : Int32) = 0 then (
  f_X11_sure_34 N (-1) zh1)
  else (
  gb (gfR 11 3 za0 zh1) fun zt4 =>
  gb (gfR 9 5 zt4 zh1) fun zt5 =>
  gb (gfR 11 8 za0 zh1) fun zt6 =>
  gb (gfR 11 9 za0 zh1) fun zt7 =>
  gb (gfI 2 0 zt7 zh1) fun zt8 =>
  gg (gIs 6 zt5 zh1) <|
  gc (f_X6_onlyRoomOf N zt5 za1 zt6 zt8 zh1) fun zt10 zh9 =>
  f_X11_sure_34 N zt10 zh9)
def f_X11_isJobPart_15 (N : Nat) (zs0 : Int32) (zh : PH) : Option (Int32 × PH) :=
  gg (gzb zs0) (some (zs0, zh))
def f_X11_isJobPart_14 (N : Nat) (zh : PH) : Option (Int32 × PH) :=
  f_X11_isJobPart_15 N 0 zh
def f_X11_isJobPart (N : Nat) (za0 : Int32) (zh : PH) : Option (Int32 × PH) :=
  if (za0 : Int32) < 0 then (
  f_X11_isJobPart_14 N  zh)
  else (
  if (99 : Int32) < za0 then (
  f_X11_isJobPart_14 N  zh)
  else (
  f_X11_isJobPart_15 N 1 zh))
def f_X11_job_57 (N : Nat) (zs0 : Int32) (zh : PH) : Option (Int32 × PH) :=
  some (zs0, zh)
def f_X11_job_25 (N : Nat) (zh : PH) : Option (Int32 × PH) :=
  some ((-1), zh)
def f_X11_job (N : Nat) (za0 : Nat) (za1 : Int32) (za2 : Int32) (za3 : Int32) (zh : PH) : Option (Int32 × PH) :=
  gc (f_X11_isJobPart N za1 zh) fun zt2 zh1 =>
  if (zt2 : Int32) = 0 then (
  f_X11_job_25 N  zh1)
  else (
  gc (f_X11_isJobPart N za2 zh1) fun zt5 zh4 =>
  if (zt5 : Int32) = 0 then (
  f_X11_job_25 N  zh4)
  else (
  if (za2 : Int32) = 0 then (
  f_X11_job_25 N  zh4)
  else (
  gc (f_X11_isJobPart N za3 zh4) fun zt9 zh8 =>
  if (zt9 : Int32) = 0 then (
  f_X11_job_25 N  zh8)
  else (
  gb (gfR 11 3 za0 zh8) fun zt11 =>
  gb (gfR 9 6 zt11 zh8) fun zt12 =>
  gg (gIs 4 zt12 zh8) <|
  gc (f_X4_add N zt12 za1 za2 za3 zh8) fun zt14 zh13 =>
  if (zt14 : Int32) = 0 then (
  f_X11_job_57 N (-1) zh13)
  else (
  gb (gfR 11 3 za0 zh13) fun zt16 =>
  gb (gfR 9 6 zt16 zh13) fun zt17 =>
  gb (gfI 4 3 zt17 zh13) fun zt18 =>
  f_X11_job_57 N zt18 zh13)))))
def f_X11_porters_33 (N : Nat) (zh : PH) : Option (Int32 × PH) :=
  some ((-1), zh)
def f_X11_porters (N : Nat) (za0 : Nat) (za1 : Int32) (zh : PH) : Option (Int32 × PH) :=
  gb (gfR 11 3 za0 zh) fun zt1 =>
  gb (gfR 9 6 zt1 zh) fun zt2 =>
  gb (gfI 4 3 zt2 zh) fun zt3 =>
  if (zt3 : Int32) = 0 then (
  f_X11_porters_33 N  zh)
  else (
  if (za1 : Int32) < 0 then (
  f_X11_porters_33 N  zh)
  else (
  gb (gfR 11 3 za0 zh) fun zt6 =>
  gb (gfR 9 6 zt6 zh) fun zt7 =>
  gb (gfI 4 3 zt7 zh) fun zt8 =>
  if (za1 : Int32) < (3 + zt8) then (
  gb (gfR 11 5 za0 zh) fun zt10 =>
  gb (gfR 11 3 za0 zh) fun zt11 =>
  gb (gfR 9 6 zt11 zh) fun zt12 =>
  gg (gIs 5 zt10 zh) <|
  gb (f_X5_make N zt10 zt12 zh) fun zh13 =>
  if (za1 : Int32) = 0 then (
  gb (gfR 11 5 za0 zh13) fun zt15 =>
  gb (gfI 5 1 zt15 zh13) fun zt16 =>
  some (zt16, zh13))
  else (
  if (za1 : Int32) = 1 then (
  gb (gfR 11 5 za0 zh13) fun zt18 =>
  gg (gIs 5 zt18 zh13) <|
  gc (f_X5_waits N zt18 zh13) fun zt20 zh19 =>
  some (zt20, zh19))
  else (
  if (za1 : Int32) = 2 then (
  gb (gfR 11 5 za0 zh13) fun zt22 =>
  gg (gIs 5 zt22 zh13) <|
  gc (f_X5_portersNeeded N zt22 zh13) fun zt24 zh23 =>
  some (zt24, zh23))
  else (
  gb (gfR 11 5 za0 zh13) fun zt25 =>
  gb (gfR 5 0 zt25 zh13) fun zt26 =>
  gb (arI 0 zt26 (za1 - 3) zh13) fun zt27 =>
  some (zt27, zh13)))))
  else (
  f_X11_porters_33 N  zh)))
def f_X11_told_27 (N : Nat) (zs0 : Int32) (zh : PH) : Option (Int32 × PH) :=
  some (zs0, zh)
def f_X11_told (N : Nat) (za0 : Nat) (zh : PH) : Option (Int32 × PH) :=
  gb (gfR 11 3 za0 zh) fun zt1 =>
  gb (gfR 9 6 zt1 zh) fun zt2 =>
  gb (gfI 4 3 zt2 zh) fun zt3 =>
  if (zt3 : Int32) = 0 then (
  f_X11_told_27 N (-1) zh)
  else (
  gb (gfR 11 3 za0 zh) fun zt5 =>
  gb (gfR 9 6 zt5 zh) fun zt6 =>
  gg (gIs 4 zt6 zh) <|
  gc (f_X4_doneAsTold N zt6 zh) fun zt8 zh7 =>
  f_X11_told_27 N zt8 zh7)
def f_X11_clear (N : Nat) (za0 : Nat) (zh : PH) : Option (Int32 × PH) :=
  gb (gfR 11 3 za0 zh) fun zt1 =>
  gb (gfR 9 4 zt1 zh) fun zt2 =>
  gb (pfV 8 5 zt2 (.int 0) zh) fun zh3 =>
  gb (gfR 11 3 za0 zh3) fun zt4 =>
  gb (gfR 9 6 zt4 zh3) fun zt5 =>
  gb (pfV 4 3 zt5 (.int 0) zh3) fun zh6 =>
  gg (gzb 1) (some (1, zh6))
def f_X11_book_51 (N : Nat) (zh : PH) : Option (Int32 × PH) :=
  some ((-1), zh)
def f_X11_book (N : Nat) (za0 : Nat) (za1 : Int32) (zh : PH) : Option (Int32 × PH) :=
  if (0 : Int32) ≤ za1 then (
  gg (gIs 11 za0 zh) <|
  gc (f_X11_isGuest N za0 za1 zh) fun zt3 zh2 =>
  if (zt3 : Int32) = 0 then (
  f_X11_book_51 N  zh2)
  else (
  gb (gfR 11 3 za0 zh2) fun zt5 =>
  gb (gfR 9 1 zt5 zh2) fun zt6 =>
  gg (gIs 1 zt6 zh2) <|
  gc (f_X1_isIn N zt6 za1 zh2) fun zt8 zh7 =>
  if (zt8 : Int32) = 0 then (
  gb (gfR 11 3 za0 zh7) fun zt10 =>
  gb (gfI 9 7 zt10 zh7) fun zt11 =>
  gc (f_X11_bitOf N zt11 za1 zh7) fun zt13 zh12 =>
  if (zt13 : Int32) = 1 then (
  f_X11_book_51 N  zh12)
  else (
  gb (gfR 11 3 za0 zh12) fun zt15 =>
  gb (gfI 9 7 zt15 zh12) fun zt16 =>
  gc (f_J6_bitCount_0f7a4 N zt16 zh12) fun zt18 zh17 =>
  if (zt18 : Int32) < 7 then (
  gb (gfR 11 3 za0 zh17) fun zt20 =>
  gb (gfI 9 7 zt20 zh17) fun zt21 =>
  gb (pfV 9 7 zt20 (.int (zt21 ||| (1 <<< (za1 &&& 31)))) zh17) fun zh22 =>
  gb (gfR 11 3 za0 zh22) fun zt23 =>
  gb (gfI 9 7 zt23 zh22) fun zt24 =>
  gc (f_J6_bitCount_0f7a4 N zt24 zh22) fun zt26 zh25 =>
  some (zt26, zh25))
  else (
  some ((-1), zh17))))
  else (
  f_X11_book_51 N  zh7)))
  else (
  gb (gfR 11 3 za0 zh) fun zt27 =>
  gb (pfV 9 7 zt27 (.int 0) zh) fun zh28 =>
  some (0, zh28))
def f_X11_movesByArrivals_96 (N : Nat) (zs0 : Int32) (zh : PH) : Option (Int32 × PH) :=
  some (zs0, zh)
def f_X11_movesByArrivals_59 (N : Nat) (zv0 : Nat) (zv1 : Int32) (zv3 : Int32) (zv4 : Nat) (zh : PH) : Option (Int32 × PH) :=
  if (zv3 : Int32) = 0 then (
  gb (gfR 11 6 zv0 zh) fun zt2 =>
  gb (gfR 1 2 zt2 zh) fun zt3 =>
  gb (arI 0 zt3 zv1 zh) fun zt4 =>
  gb (gfR 1 2 zv4 zh) fun zt5 =>
  gb (arI 0 zt5 zv1 zh) fun zt6 =>
  f_X11_movesByArrivals_96 N (zt4 - zt6) zh)
  else (
  gb (gfR 11 6 zv0 zh) fun zt7 =>
  gb (gfI 1 5 zt7 zh) fun zt8 =>
  gb (gfI 1 5 zv4 zh) fun zt9 =>
  f_X11_movesByArrivals_96 N (zt8 - zt9) zh)
def f_X11_movesByArrivals_21 (N : Nat) (zk21 : (Nat × Int32 × Int32 × Int32 × Nat × Int32 × PH) → Option (Int32 × PH)) (zv0 : Nat) (zv1 : Int32) (zv2 : Int32) (zv3 : Int32) (zv4 : Nat) (zv5 : Int32) (zh : PH) : Option (Int32 × PH) :=
  if (zv2 : Int32) ≤ zv5 then (
  f_X11_movesByArrivals_59 N zv0 zv1 zv3 zv4 zh)
  else (
  if (7 : Int32) ≤ zv5 then (
  f_X11_movesByArrivals_59 N zv0 zv1 zv3 zv4 zh)
  else (
  gb (gfR 11 6 zv0 zh) fun zt3 =>
  gb (gfR 11 9 zv0 zh) fun zt4 =>
  gb (gfR 11 7 zv0 zh) fun zt5 =>
  gb (arI 0 zt5 zv5 zh) fun zt6 =>
  gg (gIs 1 zt3 zh) <|
  gb (f_X1_takeIn N zt3 zt4 zt6 none zh) fun zh7 =>
  gl (zv5 + 1) fun (zx8 : Int32) =>
  zk21 (zv0, zv1, zv2, zv3, zv4, zx8, zh7)))
def f_X11_movesByArrivals (N : Nat) (za0 : Nat) (za1 : Int32) (za2 : Int32) (za3 : Int32) (zh : PH) : Option (Int32 × PH) :=
  gb (gfR 11 3 za0 zh) fun zt1 =>
  gb (gfR 9 1 zt1 zh) fun zt2 =>
  gb (gfR 11 6 za0 zh) fun zt3 =>
  gg (gIs 1 zt3 zh) <|
  gb (f_X1_copyFrom N zt3 zt2 zh) fun zh4 =>
  gi (fun zk zs => f_X11_movesByArrivals_21 N zk zs.1 zs.2.1 zs.2.2.1 zs.2.2.2.1 zs.2.2.2.2.1 zs.2.2.2.2.2.1 zs.2.2.2.2.2.2) N (za0, za1, za2, za3, zt2, 0, zh4)
def f_X11_addArrivals_39 (N : Nat) (zk5 : (Nat × Int32 × Int32 × Int32 × PH) → Option (Int32 × PH)) (zv0 : Nat) (zv1 : Int32) (zv3 : Int32) (zv4 : Int32) (zh : PH) : Option (Int32 × PH) :=
  gl (zv4 + 1) fun (zx1 : Int32) =>
  zk5 (zv0, zv1, zv3, zx1, zh)
def f_X11_addArrivals_5 (N : Nat) (zk5 : (Nat × Int32 × Int32 × Int32 × PH) → Option (Int32 × PH)) (zv0 : Nat) (zv1 : Int32) (zv3 : Int32) (zv4 : Int32) (zh : PH) : Option (Int32 × PH) :=
  if (10 : Int32) ≤ zv4 then (
  some (zv3, zh))
  else (
  gc (f_X11_bitOf N zv1 zv4 zh) fun zt3 zh2 =>
  if (zt3 : Int32) = 1 then (
  if (7 : Int32) ≤ zv3 then (
  f_X11_addArrivals_39 N zk5 zv0 zv1 zv3 zv4 zh2)
  else (
  gb (gfR 11 7 zv0 zh2) fun zt6 =>
  gb (asI 0 zt6 zv3 zv4 zh2) fun zh7 =>
  gl (zv3 + 1) fun (zx8 : Int32) =>
  f_X11_addArrivals_39 N zk5 zv0 zv1 zx8 zv4 zh7))
  else (
  f_X11_addArrivals_39 N zk5 zv0 zv1 zv3 zv4 zh2))
def f_X11_addArrivals (N : Nat) (za0 : Nat) (za1 : Int32) (za2 : Int32) (zh : PH) : Option (Int32 × PH) :=
  gi (fun zk zs => f_X11_addArrivals_5 N zk zs.1 zs.2.1 zs.2.2.1 zs.2.2.2.1 zs.2.2.2.2) N (za0, za1, za2, 0, zh)
def f_X11_planArrivals (N : Nat) (za0 : Nat) (za1 : Int32) (zh : PH) : Option PH :=
  gb (gfR 11 3 za0 zh) fun zt1 =>
  gb (gfI 9 7 zt1 zh) fun zt2 =>
  gl ((zt2 &&& ((1 <<< (za1 &&& 31)) ^^^ (-1)))) fun (zx3 : Int32) =>
  gb (gfR 11 9 za0 zh) fun zt4 =>
  gb (gfI 2 3 zt4 zh) fun zt5 =>
  gg (gIs 11 za0 zh) <|
  gc (f_X11_addArrivals N za0 (zx3 &&& (zt5 ^^^ (-1))) 0 zh) fun zt7 zh6 =>
  gb (gfR 11 9 za0 zh6) fun zt8 =>
  gb (gfI 2 3 zt8 zh6) fun zt9 =>
  gg (gIs 11 za0 zh6) <|
  gc (f_X11_addArrivals N za0 (zx3 &&& zt9) zt7 zh6) fun zt11 zh10 =>
  gb (gfR 11 3 za0 zh10) fun zt12 =>
  gb (gfI 9 7 zt12 zh10) fun zt13 =>
  gg (gIs 11 za0 zh10) <|
  gc (f_X11_addArrivals N za0 (zt13 &&& (zx3 ^^^ (-1))) zt11 zh10) fun zt15 zh14 =>
  some zh14
abbrev rm_X11_feed : Room := { frames := 2, cells := 0, slots := 0, locals := 44 }
set_option maxHeartbeats 4000000 in
set_option maxRecDepth 100000 in
theorem c_X11_feed (l : Launch) (E : gE) (N : Nat) (za0 : Nat) (za1 : Int64) (za3 : Int64) (za5 : Int64) (zh : PH) {h9 : PH} {r9 : Int32} (hf : f_X11_feed N za0 za1 za3 za5 zh = some (r9, h9)) : Met l yX11_feed (gWS yX11_feed cX11_feed 7 (some .int)) rm_X11_feed (gPc E [.ref (gB E + za0), .long za1, .long za3, .long za5] zh) (gQi E r9 h9) 0 0 (gA E) := by
  refine gx_met (by decide) ?_ rfl
  intro p e s m below meth c X hr hlk hin2 hw
  have hx := X.1.1
  have hb := X.1.2.1
  have hl := lv_entry [.ref (gB E + za0), .long za1, .long za3, .long za5] (n := 7) (Nat.le_of_ble_eq_true rfl)
  rw [lg_entry_eq]
  generalize (lg_sl [.ref (gB E + za0), .long za1, .long za3, .long za5] ++ List.replicate (7 - (lg_sl [.ref (gB E + za0), .long za1, .long za3, .long za5]).length) Slot.unset).toArray = ls at hl ⊢
  have hl : lv_has ls 7 [(0, .ref (gB E + za0)), (1, .long za1), (3, .long za3), (5, .long za5)] := hl
  unfold f_X11_feed at hf
  refine lv_aload_n hx hb dX11_feed_0 rfl (lv_at hl 0 rfl) ?_
  obtain ⟨zt1, qzt1, hf⟩ := gb_el hf
  refine gx_getR X hw qzt1 clX11 (by decide) mf_X11_10 dX11_feed_1 ?_
  refine lv_lload_n hx hb dX11_feed_4 rfl (lv_at hl 1 rfl) ?_
  obtain ⟨qizh2, hf⟩ := gg_el hf
  obtain ⟨zh2, qzh2, hf⟩ := gb_el hf
  refine gx_kv (gx_runV (As := [.long za1]) (rest := []) X hw (c_X10_append l E N zt1 za1 zh qzh2) kX10_append mm_X11_76 qizh2 clX10 ⟨Nat.le_of_ble_eq_true rfl, Nat.le_of_ble_eq_true rfl⟩ rfl rfl rfl hl.1 (Nat.le_of_ble_eq_true rfl) rfl dX11_feed_5 ⟨Nat.le_of_ble_eq_true rfl, Nat.le_of_ble_eq_true rfl⟩) hw (fun H locs hw => ?_)
  refine lv_aload_n hx hb dX11_feed_8 rfl (lv_at hl 0 rfl) ?_
  obtain ⟨zt3, qzt3, hf⟩ := gb_el hf
  refine gx_getR X hw qzt3 clX11 (by decide) mf_X11_10 dX11_feed_9 ?_
  refine lv_lload_n hx hb dX11_feed_12 rfl (lv_at hl 2 rfl) ?_
  obtain ⟨qizh4, hf⟩ := gg_el hf
  obtain ⟨zh4, qzh4, hf⟩ := gb_el hf
  refine gx_kv (gx_runV (As := [.long za3]) (rest := []) X hw (c_X10_append l E N zt3 za3 zh2 qzh4) kX10_append mm_X11_76 qizh4 clX10 ⟨Nat.le_of_ble_eq_true rfl, Nat.le_of_ble_eq_true rfl⟩ rfl rfl rfl hl.1 (Nat.le_of_ble_eq_true rfl) rfl dX11_feed_13 ⟨Nat.le_of_ble_eq_true rfl, Nat.le_of_ble_eq_true rfl⟩) hw (fun H locs hw => ?_)
  refine lv_aload_n hx hb dX11_feed_16 rfl (lv_at hl 0 rfl) ?_
  refine W.eq (g2 := F0 m 17 ls [.ref (gB E + za0)]) rfl ?_
  obtain ⟨zt5, qzt5, hf⟩ := gb_el hf
  refine gx_getR X hw qzt5 clX11 (by decide) mf_X11_10 dX11_feed_17 ?_
  refine lv_lload hx hb dX11_feed_20 (lv_at hl 3 rfl) ?_
  obtain ⟨qizh6, hf⟩ := gg_el hf
  obtain ⟨zh6, qzh6, hf⟩ := gb_el hf
  refine gx_kv (gx_runV (As := [.long za5]) (rest := []) X hw (c_X10_append l E N zt5 za5 zh4 qzh6) kX10_append mm_X11_76 qizh6 clX10 ⟨Nat.le_of_ble_eq_true rfl, Nat.le_of_ble_eq_true rfl⟩ rfl rfl rfl hl.1 (Nat.le_of_ble_eq_true rfl) rfl dX11_feed_22 ⟨Nat.le_of_ble_eq_true rfl, Nat.le_of_ble_eq_true rfl⟩) hw (fun H locs hw => ?_)
  refine lv_aload_n hx hb dX11_feed_25 rfl (lv_at hl 0 rfl) ?_
  obtain ⟨zt7, qzt7, hf⟩ := gb_el hf
  refine gx_getR X hw qzt7 clX11 (by decide) mf_X11_10 dX11_feed_26 ?_
  obtain ⟨qizh8, hf⟩ := gg_el hf
  obtain ⟨zt9, zh8, qzh8, hf⟩ := gc_el hf
  refine gx_ki (gx_runV (As := []) (rest := []) X hw (c_X10_length l E N zt7 zh6 qzh8) kX10_length mm_X11_80 qizh8 clX10 ⟨Nat.le_of_ble_eq_true rfl, Nat.le_of_ble_eq_true rfl⟩ rfl rfl rfl hl.1 (Nat.le_of_ble_eq_true rfl) rfl dX11_feed_29 ⟨Nat.le_of_ble_eq_true rfl, Nat.le_of_ble_eq_true rfl⟩) hw (fun H locs hw => ?_)
  exact gx_iret X hr hlk hw hf dX11_feed_32
abbrev rm_X11_isRoom : Room := { frames := 0, cells := 0, slots := 0, locals := 0 }
set_option maxHeartbeats 4000000 in
set_option maxRecDepth 100000 in
theorem c_X11_isRoom (l : Launch) (E : gE) (N : Nat) (za0 : Nat) (za1 : Int32) (zh : PH) {h9 : PH} {r9 : Int32} (hf : f_X11_isRoom N za0 za1 zh = some (r9, h9)) : Met l yX11_isRoom (gWS yX11_isRoom cX11_isRoom 2 (some .boolean)) rm_X11_isRoom (gPc E [.ref (gB E + za0), .int za1] zh) (gQi E r9 h9) 0 0 (gA E) := by
  refine gx_met (by decide) ?_ rfl
  intro p e s m below meth c X hr hlk hin2 hw
  have hx := X.1.1
  have hb := X.1.2.1
  have hl := lv_entry [.ref (gB E + za0), .int za1] (n := 2) (Nat.le_of_ble_eq_true rfl)
  rw [lg_entry_eq]
  generalize (lg_sl [.ref (gB E + za0), .int za1] ++ List.replicate (2 - (lg_sl [.ref (gB E + za0), .int za1]).length) Slot.unset).toArray = ls at hl ⊢
  have hl : lv_has ls 2 [(0, .ref (gB E + za0)), (1, .int za1)] := hl
  have J_20 : ∀ (zs0 : Int32) (zh : PH) (H : Heap) (locs : List Loc) (ls : Array Slot), f_X11_isRoom_20 N zs0 zh = some (r9, h9) → gw E s zh H locs → lv_has ls 2 [] → W p l e rm_X11_isRoom s m [.ref (gB E + za0), .int za1].toArray below meth c H locs 0 0 (MQ below (gQi E r9 h9) [.ref (gB E + za0), .int za1].toArray s 0 0 (gA E)) (F0 m 20 ls [.int zs0]) := by
    intro zs0 zh H locs ls hf hw hl
    unfold f_X11_isRoom_20 at hf
    exact gx_zret X hr hlk hw hf dX11_isRoom_20
  have J_19 : ∀ (zh : PH) (H : Heap) (locs : List Loc) (ls : Array Slot), f_X11_isRoom_19 N zh = some (r9, h9) → gw E s zh H locs → lv_has ls 2 [] → W p l e rm_X11_isRoom s m [.ref (gB E + za0), .int za1].toArray below meth c H locs 0 0 (MQ below (gQi E r9 h9) [.ref (gB E + za0), .int za1].toArray s 0 0 (gA E)) (F0 m 19 ls []) := by
    intro zh H locs ls hf hw hl
    unfold f_X11_isRoom_19 at hf
    refine lv_iconst (v := 0) hx hb dX11_isRoom_19 (by decide) ?_
    exact J_20 0 _ _ _ ls hf hw (lv_sub hl [] rfl)
  unfold f_X11_isRoom at hf
  refine lv_iload_n hx hb dX11_isRoom_0 rfl (lv_at hl 1 rfl) ?_
  refine lv_if_lt (tgt := 19) hx hb dX11_isRoom_1 (by decide) (fun qc1 => ?_) (fun qc1 => ?_)
  · have hf := gif_t hf qc1
    exact J_19  _ _ _ ls hf hw (lv_sub hl [] rfl)
  · have hf := gif_f hf qc1
    refine lv_iload_n hx hb dX11_isRoom_4 rfl (lv_at hl 1 rfl) ?_
    refine lv_aload_n hx hb dX11_isRoom_5 rfl (lv_at hl 0 rfl) ?_
    obtain ⟨zt2, qzt2, hf⟩ := gb_el hf
    refine gx_getR X hw qzt2 clX11 (by decide) mf_X11_69 dX11_isRoom_6 ?_
    obtain ⟨zt3, qzt3, hf⟩ := gb_el hf
    refine gx_getI X hw qzt3 clX2 (by decide) mf_X11_230 dX11_isRoom_9 ?_
    refine lv_icmp_ge (tgt := 19) hx hb dX11_isRoom_12 (by decide) (fun qc4 => ?_) (fun qc4 => ?_)
    · have hf := gif_t hf qc4
      exact J_19  _ _ _ ls hf hw (lv_sub hl [] rfl)
    · have hf := gif_f hf qc4
      refine lv_iconst (v := 1) hx hb dX11_isRoom_15 (by decide) ?_
      refine lv_goto (tgt := 20) hx hb dX11_isRoom_16 (by decide) ?_
      exact J_20 1 _ _ _ ls hf hw (lv_sub hl [] rfl)
abbrev rm_X11_room : Room := { frames := 1, cells := 0, slots := 0, locals := 21 }
set_option maxHeartbeats 4000000 in
set_option maxRecDepth 100000 in
theorem c_X11_room (l : Launch) (E : gE) (N : Nat) (za0 : Nat) (za1 : Int32) (za2 : Int32) (zh : PH) {h9 : PH} {r9 : Int32} (hf : f_X11_room N za0 za1 za2 zh = some (r9, h9)) : Met l yX11_room (gWS yX11_room cX11_room 3 (some .int)) rm_X11_room (gPc E [.ref (gB E + za0), .int za1, .int za2] zh) (gQi E r9 h9) 0 0 (gA E) := by
  refine gx_met (by decide) ?_ rfl
  intro p e s m below meth c X hr hlk hin2 hw
  have hx := X.1.1
  have hb := X.1.2.1
  have hl := lv_entry [.ref (gB E + za0), .int za1, .int za2] (n := 3) (Nat.le_of_ble_eq_true rfl)
  rw [lg_entry_eq]
  generalize (lg_sl [.ref (gB E + za0), .int za1, .int za2] ++ List.replicate (3 - (lg_sl [.ref (gB E + za0), .int za1, .int za2]).length) Slot.unset).toArray = ls at hl ⊢
  have hl : lv_has ls 3 [(0, .ref (gB E + za0)), (1, .int za1), (2, .int za2)] := hl
  unfold f_X11_room at hf
  refine lv_aload_n hx hb dX11_room_0 rfl (lv_at hl 0 rfl) ?_
  refine lv_iload_n hx hb dX11_room_1 rfl (lv_at hl 1 rfl) ?_
  obtain ⟨qizh1, hf⟩ := gg_el hf
  obtain ⟨zt2, zh1, qzh1, hf⟩ := gc_el hf
  refine gx_ki (gx_runV (As := [.int za1]) (rest := []) X hw (c_X11_isRoom l E N za0 za1 zh qzh1) kX11_isRoom mm_X11_102 qizh1 clX11 ⟨Nat.le_of_ble_eq_true rfl, Nat.le_of_ble_eq_true rfl⟩ rfl rfl rfl hl.1 (Nat.le_of_ble_eq_true rfl) rfl dX11_room_2 ⟨Nat.le_of_ble_eq_true rfl, Nat.le_of_ble_eq_true rfl⟩) hw (fun H locs hw => ?_)
  refine lv_if_ne (tgt := 10) hx hb dX11_room_5 (by decide) (fun qc3 => ?_) (fun qc3 => ?_)
  · have hf := gif_f hf qc3
    refine lv_iload_n hx hb dX11_room_10 rfl (lv_at hl 2 rfl) ?_
    by_cases qc4 : (za2 : Int32) = 0
    · have hf := gif_t hf qc4
      refine lv_tableIn (off := 25) (tgt := 36) hx hb dX11_room_11 (by rw [qc4]; decide) (by rw [qc4]; decide) (by rw [qc4]; rfl) (by decide) ?_
      refine lv_aload_n hx hb dX11_room_36 rfl (lv_at hl 0 rfl) ?_
      obtain ⟨zt5, qzt5, hf⟩ := gb_el hf
      refine gx_getR X hw qzt5 clX11 (by decide) mf_X11_69 dX11_room_37 ?_
      obtain ⟨zt6, qzt6, hf⟩ := gb_el hf
      refine gx_getR X hw qzt6 clX2 (by decide) mf_X11_106 dX11_room_40 ?_
      refine W.eq (g2 := F0 m 43 ls [.ref (gB E + zt6)]) rfl ?_
      refine lv_iload_n hx hb dX11_room_43 rfl (lv_at hl 1 rfl) ?_
      obtain ⟨zt7, qzt7, hf⟩ := gb_el hf
      refine gx_iald X hw qzt7 dX11_room_44 ?_
      exact gx_iret X hr hlk hw hf dX11_room_45
    have hf := gif_f hf qc4
    by_cases qc8 : (za2 : Int32) = 1
    · have hf := gif_t hf qc8
      refine lv_tableIn (off := 35) (tgt := 46) hx hb dX11_room_11 (by rw [qc8]; decide) (by rw [qc8]; decide) (by rw [qc8]; rfl) (by decide) ?_
      refine lv_aload_n hx hb dX11_room_46 rfl (lv_at hl 0 rfl) ?_
      obtain ⟨zt9, qzt9, hf⟩ := gb_el hf
      refine gx_getR X hw qzt9 clX11 (by decide) mf_X11_69 dX11_room_47 ?_
      obtain ⟨zt10, qzt10, hf⟩ := gb_el hf
      refine gx_getR X hw qzt10 clX2 (by decide) mf_X11_109 dX11_room_50 ?_
      refine W.eq (g2 := F0 m 53 ls [.ref (gB E + zt10)]) rfl ?_
      refine lv_iload_n hx hb dX11_room_53 rfl (lv_at hl 1 rfl) ?_
      obtain ⟨zt11, qzt11, hf⟩ := gb_el hf
      refine gx_iald X hw qzt11 dX11_room_54 ?_
      exact gx_iret X hr hlk hw hf dX11_room_55
    have hf := gif_f hf qc8
    by_cases qc12 : (za2 : Int32) = 2
    · have hf := gif_t hf qc12
      refine lv_tableIn (off := 45) (tgt := 56) hx hb dX11_room_11 (by rw [qc12]; decide) (by rw [qc12]; decide) (by rw [qc12]; rfl) (by decide) ?_
      refine lv_aload_n hx hb dX11_room_56 rfl (lv_at hl 0 rfl) ?_
      obtain ⟨zt13, qzt13, hf⟩ := gb_el hf
      refine gx_getR X hw qzt13 clX11 (by decide) mf_X11_37 dX11_room_57 ?_
      obtain ⟨zt14, qzt14, hf⟩ := gb_el hf
      refine gx_getR X hw qzt14 clX9 (by decide) mf_X11_112 dX11_room_60 ?_
      refine W.eq (g2 := F0 m 63 ls [.ref (gB E + zt14)]) rfl ?_
      obtain ⟨zt15, qzt15, hf⟩ := gb_el hf
      refine gx_getR X hw qzt15 clX1 (by decide) mf_X11_115 dX11_room_63 ?_
      refine lv_iload_n hx hb dX11_room_66 rfl (lv_at hl 1 rfl) ?_
      obtain ⟨zt16, qzt16, hf⟩ := gb_el hf
      refine gx_iald X hw qzt16 dX11_room_67 ?_
      exact gx_iret X hr hlk hw hf dX11_room_68
    have hf := gif_f hf qc12
    have nqc4 := lv_neT (a := 0) qc4 (by decide)
    have nqc8 := lv_neT (a := 1) qc8 (by decide)
    have nqc12 := lv_neT (a := 2) qc12 (by decide)
    refine lv_tableOut (tgt := 69) hx hb dX11_room_11 (by omega) (by decide) ?_
    refine lv_iconst (v := (-1)) hx hb dX11_room_69 (by decide) ?_
    exact gx_iret X hr hlk hw hf dX11_room_70
  · have hf := gif_t hf qc3
    refine lv_iconst (v := (-1)) hx hb dX11_room_8 (by decide) ?_
    exact gx_iret X hr hlk hw hf dX11_room_9
abbrev rm_X11_isGuest : Room := { frames := 0, cells := 0, slots := 0, locals := 0 }
set_option maxHeartbeats 4000000 in
set_option maxRecDepth 100000 in
theorem c_X11_isGuest (l : Launch) (E : gE) (N : Nat) (za0 : Nat) (za1 : Int32) (zh : PH) {h9 : PH} {r9 : Int32} (hf : f_X11_isGuest N za0 za1 zh = some (r9, h9)) : Met l yX11_isGuest (gWS yX11_isGuest cX11_isGuest 2 (some .boolean)) rm_X11_isGuest (gPc E [.ref (gB E + za0), .int za1] zh) (gQi E r9 h9) 0 0 (gA E) := by
  refine gx_met (by decide) ?_ rfl
  intro p e s m below meth c X hr hlk hin2 hw
  have hx := X.1.1
  have hb := X.1.2.1
  have hl := lv_entry [.ref (gB E + za0), .int za1] (n := 2) (Nat.le_of_ble_eq_true rfl)
  rw [lg_entry_eq]
  generalize (lg_sl [.ref (gB E + za0), .int za1] ++ List.replicate (2 - (lg_sl [.ref (gB E + za0), .int za1]).length) Slot.unset).toArray = ls at hl ⊢
  have hl : lv_has ls 2 [(0, .ref (gB E + za0)), (1, .int za1)] := hl
  have J_20 : ∀ (zs0 : Int32) (zh : PH) (H : Heap) (locs : List Loc) (ls : Array Slot), f_X11_isGuest_20 N zs0 zh = some (r9, h9) → gw E s zh H locs → lv_has ls 2 [] → W p l e rm_X11_isGuest s m [.ref (gB E + za0), .int za1].toArray below meth c H locs 0 0 (MQ below (gQi E r9 h9) [.ref (gB E + za0), .int za1].toArray s 0 0 (gA E)) (F0 m 20 ls [.int zs0]) := by
    intro zs0 zh H locs ls hf hw hl
    unfold f_X11_isGuest_20 at hf
    exact gx_zret X hr hlk hw hf dX11_isGuest_20
  have J_19 : ∀ (zh : PH) (H : Heap) (locs : List Loc) (ls : Array Slot), f_X11_isGuest_19 N zh = some (r9, h9) → gw E s zh H locs → lv_has ls 2 [] → W p l e rm_X11_isGuest s m [.ref (gB E + za0), .int za1].toArray below meth c H locs 0 0 (MQ below (gQi E r9 h9) [.ref (gB E + za0), .int za1].toArray s 0 0 (gA E)) (F0 m 19 ls []) := by
    intro zh H locs ls hf hw hl
    unfold f_X11_isGuest_19 at hf
    refine lv_iconst (v := 0) hx hb dX11_isGuest_19 (by decide) ?_
    exact J_20 0 _ _ _ ls hf hw (lv_sub hl [] rfl)
  unfold f_X11_isGuest at hf
  refine lv_iload_n hx hb dX11_isGuest_0 rfl (lv_at hl 1 rfl) ?_
  refine lv_if_lt (tgt := 19) hx hb dX11_isGuest_1 (by decide) (fun qc1 => ?_) (fun qc1 => ?_)
  · have hf := gif_t hf qc1
    exact J_19  _ _ _ ls hf hw (lv_sub hl [] rfl)
  · have hf := gif_f hf qc1
    refine lv_iload_n hx hb dX11_isGuest_4 rfl (lv_at hl 1 rfl) ?_
    refine lv_aload_n hx hb dX11_isGuest_5 rfl (lv_at hl 0 rfl) ?_
    obtain ⟨zt2, qzt2, hf⟩ := gb_el hf
    refine gx_getR X hw qzt2 clX11 (by decide) mf_X11_69 dX11_isGuest_6 ?_
    obtain ⟨zt3, qzt3, hf⟩ := gb_el hf
    refine gx_getI X hw qzt3 clX2 (by decide) mf_X11_322 dX11_isGuest_9 ?_
    refine lv_icmp_ge (tgt := 19) hx hb dX11_isGuest_12 (by decide) (fun qc4 => ?_) (fun qc4 => ?_)
    · have hf := gif_t hf qc4
      exact J_19  _ _ _ ls hf hw (lv_sub hl [] rfl)
    · have hf := gif_f hf qc4
      refine lv_iconst (v := 1) hx hb dX11_isGuest_15 (by decide) ?_
      refine lv_goto (tgt := 20) hx hb dX11_isGuest_16 (by decide) ?_
      exact J_20 1 _ _ _ ls hf hw (lv_sub hl [] rfl)
abbrev rm_X11_guest : Room := { frames := 1, cells := 0, slots := 0, locals := 21 }
set_option maxHeartbeats 4000000 in
set_option maxRecDepth 100000 in
theorem c_X11_guest (l : Launch) (E : gE) (N : Nat) (za0 : Nat) (za1 : Int32) (za2 : Int32) (zh : PH) {h9 : PH} {r9 : Int32} (hf : f_X11_guest N za0 za1 za2 zh = some (r9, h9)) : Met l yX11_guest (gWS yX11_guest cX11_guest 3 (some .int)) rm_X11_guest (gPc E [.ref (gB E + za0), .int za1, .int za2] zh) (gQi E r9 h9) 0 0 (gA E) := by
  refine gx_met (by decide) ?_ rfl
  intro p e s m below meth c X hr hlk hin2 hw
  have hx := X.1.1
  have hb := X.1.2.1
  have hl := lv_entry [.ref (gB E + za0), .int za1, .int za2] (n := 3) (Nat.le_of_ble_eq_true rfl)
  rw [lg_entry_eq]
  generalize (lg_sl [.ref (gB E + za0), .int za1, .int za2] ++ List.replicate (3 - (lg_sl [.ref (gB E + za0), .int za1, .int za2]).length) Slot.unset).toArray = ls at hl ⊢
  have hl : lv_has ls 3 [(0, .ref (gB E + za0)), (1, .int za1), (2, .int za2)] := hl
  unfold f_X11_guest at hf
  refine lv_aload_n hx hb dX11_guest_0 rfl (lv_at hl 0 rfl) ?_
  refine lv_iload_n hx hb dX11_guest_1 rfl (lv_at hl 1 rfl) ?_
  obtain ⟨qizh1, hf⟩ := gg_el hf
  obtain ⟨zt2, zh1, qzh1, hf⟩ := gc_el hf
  refine gx_ki (gx_runV (As := [.int za1]) (rest := []) X hw (c_X11_isGuest l E N za0 za1 zh qzh1) kX11_isGuest mm_X11_118 qizh1 clX11 ⟨Nat.le_of_ble_eq_true rfl, Nat.le_of_ble_eq_true rfl⟩ rfl rfl rfl hl.1 (Nat.le_of_ble_eq_true rfl) rfl dX11_guest_2 ⟨Nat.le_of_ble_eq_true rfl, Nat.le_of_ble_eq_true rfl⟩) hw (fun H locs hw => ?_)
  refine lv_if_ne (tgt := 10) hx hb dX11_guest_5 (by decide) (fun qc3 => ?_) (fun qc3 => ?_)
  · have hf := gif_f hf qc3
    refine lv_iload_n hx hb dX11_guest_10 rfl (lv_at hl 2 rfl) ?_
    by_cases qc4 : (za2 : Int32) = 0
    · have hf := gif_t hf qc4
      refine lv_tableIn (off := 37) (tgt := 48) hx hb dX11_guest_11 (by rw [qc4]; decide) (by rw [qc4]; decide) (by rw [qc4]; rfl) (by decide) ?_
      refine lv_aload_n hx hb dX11_guest_48 rfl (lv_at hl 0 rfl) ?_
      obtain ⟨zt5, qzt5, hf⟩ := gb_el hf
      refine gx_getR X hw qzt5 clX11 (by decide) mf_X11_69 dX11_guest_49 ?_
      obtain ⟨zt6, qzt6, hf⟩ := gb_el hf
      refine gx_getR X hw qzt6 clX2 (by decide) mf_X11_121 dX11_guest_52 ?_
      refine W.eq (g2 := F0 m 55 ls [.ref (gB E + zt6)]) rfl ?_
      refine lv_iload_n hx hb dX11_guest_55 rfl (lv_at hl 1 rfl) ?_
      obtain ⟨zt7, qzt7, hf⟩ := gb_el hf
      refine gx_iald X hw qzt7 dX11_guest_56 ?_
      exact gx_iret X hr hlk hw hf dX11_guest_57
    have hf := gif_f hf qc4
    by_cases qc8 : (za2 : Int32) = 1
    · have hf := gif_t hf qc8
      refine lv_tableIn (off := 47) (tgt := 58) hx hb dX11_guest_11 (by rw [qc8]; decide) (by rw [qc8]; decide) (by rw [qc8]; rfl) (by decide) ?_
      refine lv_aload_n hx hb dX11_guest_58 rfl (lv_at hl 0 rfl) ?_
      obtain ⟨zt9, qzt9, hf⟩ := gb_el hf
      refine gx_getR X hw qzt9 clX11 (by decide) mf_X11_69 dX11_guest_59 ?_
      obtain ⟨zt10, qzt10, hf⟩ := gb_el hf
      refine gx_getI X hw qzt10 clX2 (by decide) mf_X11_124 dX11_guest_62 ?_
      refine W.eq (g2 := F0 m 65 ls [.int zt10]) rfl ?_
      refine lv_iload_n hx hb dX11_guest_65 rfl (lv_at hl 1 rfl) ?_
      obtain ⟨zt12, zh11, qzh11, hf⟩ := gc_el hf
      refine gx_ki (gx_runS (As := [.int zt10, .int za1]) (rest := []) X hw (c_X11_bitOf l E N zt10 za1 zh1 qzh11) kX11_bitOf mm_X11_127 ⟨Nat.le_of_ble_eq_true rfl, Nat.le_of_ble_eq_true rfl⟩ rfl rfl rfl hl.1 (Nat.le_of_ble_eq_true rfl) rfl dX11_guest_66 ⟨Nat.le_of_ble_eq_true rfl, Nat.le_of_ble_eq_true rfl⟩) hw (fun H locs hw => ?_)
      exact gx_iret X hr hlk hw hf dX11_guest_69
    have hf := gif_f hf qc8
    by_cases qc13 : (za2 : Int32) = 2
    · have hf := gif_t hf qc13
      refine lv_tableIn (off := 59) (tgt := 70) hx hb dX11_guest_11 (by rw [qc13]; decide) (by rw [qc13]; decide) (by rw [qc13]; rfl) (by decide) ?_
      refine lv_aload_n hx hb dX11_guest_70 rfl (lv_at hl 0 rfl) ?_
      obtain ⟨zt14, qzt14, hf⟩ := gb_el hf
      refine gx_getR X hw qzt14 clX11 (by decide) mf_X11_69 dX11_guest_71 ?_
      obtain ⟨zt15, qzt15, hf⟩ := gb_el hf
      refine gx_getI X hw qzt15 clX2 (by decide) mf_X11_131 dX11_guest_74 ?_
      refine W.eq (g2 := F0 m 77 ls [.int zt15]) rfl ?_
      refine lv_iload_n hx hb dX11_guest_77 rfl (lv_at hl 1 rfl) ?_
      obtain ⟨zt17, zh16, qzh16, hf⟩ := gc_el hf
      refine gx_ki (gx_runS (As := [.int zt15, .int za1]) (rest := []) X hw (c_X11_bitOf l E N zt15 za1 zh1 qzh16) kX11_bitOf mm_X11_127 ⟨Nat.le_of_ble_eq_true rfl, Nat.le_of_ble_eq_true rfl⟩ rfl rfl rfl hl.1 (Nat.le_of_ble_eq_true rfl) rfl dX11_guest_78 ⟨Nat.le_of_ble_eq_true rfl, Nat.le_of_ble_eq_true rfl⟩) hw (fun H locs hw => ?_)
      exact gx_iret X hr hlk hw hf dX11_guest_81
    have hf := gif_f hf qc13
    by_cases qc18 : (za2 : Int32) = 3
    · have hf := gif_t hf qc18
      refine lv_tableIn (off := 71) (tgt := 82) hx hb dX11_guest_11 (by rw [qc18]; decide) (by rw [qc18]; decide) (by rw [qc18]; rfl) (by decide) ?_
      refine lv_aload_n hx hb dX11_guest_82 rfl (lv_at hl 0 rfl) ?_
      obtain ⟨zt19, qzt19, hf⟩ := gb_el hf
      refine gx_getR X hw qzt19 clX11 (by decide) mf_X11_37 dX11_guest_83 ?_
      obtain ⟨zt20, qzt20, hf⟩ := gb_el hf
      refine gx_getR X hw qzt20 clX9 (by decide) mf_X11_112 dX11_guest_86 ?_
      refine W.eq (g2 := F0 m 89 ls [.ref (gB E + zt20)]) rfl ?_
      obtain ⟨zt21, qzt21, hf⟩ := gb_el hf
      refine gx_getR X hw qzt21 clX1 (by decide) mf_X11_134 dX11_guest_89 ?_
      refine lv_iload_n hx hb dX11_guest_92 rfl (lv_at hl 1 rfl) ?_
      obtain ⟨zt22, qzt22, hf⟩ := gb_el hf
      refine gx_iald X hw qzt22 dX11_guest_93 ?_
      exact gx_iret X hr hlk hw hf dX11_guest_94
    have hf := gif_f hf qc18
    by_cases qc23 : (za2 : Int32) = 4
    · have hf := gif_t hf qc23
      refine lv_tableIn (off := 84) (tgt := 95) hx hb dX11_guest_11 (by rw [qc23]; decide) (by rw [qc23]; decide) (by rw [qc23]; rfl) (by decide) ?_
      refine lv_aload_n hx hb dX11_guest_95 rfl (lv_at hl 0 rfl) ?_
      obtain ⟨zt24, qzt24, hf⟩ := gb_el hf
      refine gx_getR X hw qzt24 clX11 (by decide) mf_X11_37 dX11_guest_96 ?_
      obtain ⟨zt25, qzt25, hf⟩ := gb_el hf
      refine gx_getR X hw qzt25 clX9 (by decide) mf_X11_112 dX11_guest_99 ?_
      refine W.eq (g2 := F0 m 102 ls [.ref (gB E + zt25)]) rfl ?_
      obtain ⟨zt26, qzt26, hf⟩ := gb_el hf
      refine gx_getR X hw qzt26 clX1 (by decide) mf_X11_137 dX11_guest_102 ?_
      refine lv_iload_n hx hb dX11_guest_105 rfl (lv_at hl 1 rfl) ?_
      obtain ⟨zt27, qzt27, hf⟩ := gb_el hf
      refine gx_iald X hw qzt27 dX11_guest_106 ?_
      exact gx_iret X hr hlk hw hf dX11_guest_107
    have hf := gif_f hf qc23
    by_cases qc28 : (za2 : Int32) = 5
    · have hf := gif_t hf qc28
      refine lv_tableIn (off := 97) (tgt := 108) hx hb dX11_guest_11 (by rw [qc28]; decide) (by rw [qc28]; decide) (by rw [qc28]; rfl) (by decide) ?_
      refine lv_aload_n hx hb dX11_guest_108 rfl (lv_at hl 0 rfl) ?_
      obtain ⟨zt29, qzt29, hf⟩ := gb_el hf
      refine gx_getR X hw qzt29 clX11 (by decide) mf_X11_37 dX11_guest_109 ?_
      obtain ⟨zt30, qzt30, hf⟩ := gb_el hf
      refine gx_getR X hw qzt30 clX9 (by decide) mf_X11_112 dX11_guest_112 ?_
      refine W.eq (g2 := F0 m 115 ls [.ref (gB E + zt30)]) rfl ?_
      obtain ⟨zt31, qzt31, hf⟩ := gb_el hf
      refine gx_getR X hw qzt31 clX1 (by decide) mf_X11_140 dX11_guest_115 ?_
      refine lv_iload_n hx hb dX11_guest_118 rfl (lv_at hl 1 rfl) ?_
      obtain ⟨zt32, qzt32, hf⟩ := gb_el hf
      refine gx_iald X hw qzt32 dX11_guest_119 ?_
      exact gx_iret X hr hlk hw hf dX11_guest_120
    have hf := gif_f hf qc28
    have nqc4 := lv_neT (a := 0) qc4 (by decide)
    have nqc8 := lv_neT (a := 1) qc8 (by decide)
    have nqc13 := lv_neT (a := 2) qc13 (by decide)
    have nqc18 := lv_neT (a := 3) qc18 (by decide)
    have nqc23 := lv_neT (a := 4) qc23 (by decide)
    have nqc28 := lv_neT (a := 5) qc28 (by decide)
    refine lv_tableOut (tgt := 121) hx hb dX11_guest_11 (by omega) (by decide) ?_
    refine lv_iconst (v := (-1)) hx hb dX11_guest_121 (by decide) ?_
    exact gx_iret X hr hlk hw hf dX11_guest_122
  · have hf := gif_t hf qc3
    refine lv_iconst (v := (-1)) hx hb dX11_guest_8 (by decide) ?_
    exact gx_iret X hr hlk hw hf dX11_guest_9
abbrev rm_X11_isRule : Room := { frames := 0, cells := 0, slots := 0, locals := 0 }
set_option maxHeartbeats 4000000 in
set_option maxRecDepth 100000 in
theorem c_X11_isRule (l : Launch) (E : gE) (N : Nat) (za0 : Nat) (za1 : Int32) (zh : PH) {h9 : PH} {r9 : Int32} (hf : f_X11_isRule N za0 za1 zh = some (r9, h9)) : Met l yX11_isRule (gWS yX11_isRule cX11_isRule 2 (some .boolean)) rm_X11_isRule (gPc E [.ref (gB E + za0), .int za1] zh) (gQi E r9 h9) 0 0 (gA E) := by
  refine gx_met (by decide) ?_ rfl
  intro p e s m below meth c X hr hlk hin2 hw
  have hx := X.1.1
  have hb := X.1.2.1
  have hl := lv_entry [.ref (gB E + za0), .int za1] (n := 2) (Nat.le_of_ble_eq_true rfl)
  rw [lg_entry_eq]
  generalize (lg_sl [.ref (gB E + za0), .int za1] ++ List.replicate (2 - (lg_sl [.ref (gB E + za0), .int za1]).length) Slot.unset).toArray = ls at hl ⊢
  have hl : lv_has ls 2 [(0, .ref (gB E + za0)), (1, .int za1)] := hl
  have J_20 : ∀ (zs0 : Int32) (zh : PH) (H : Heap) (locs : List Loc) (ls : Array Slot), f_X11_isRule_20 N zs0 zh = some (r9, h9) → gw E s zh H locs → lv_has ls 2 [] → W p l e rm_X11_isRule s m [.ref (gB E + za0), .int za1].toArray below meth c H locs 0 0 (MQ below (gQi E r9 h9) [.ref (gB E + za0), .int za1].toArray s 0 0 (gA E)) (F0 m 20 ls [.int zs0]) := by
    intro zs0 zh H locs ls hf hw hl
    unfold f_X11_isRule_20 at hf
    exact gx_zret X hr hlk hw hf dX11_isRule_20
  have J_19 : ∀ (zh : PH) (H : Heap) (locs : List Loc) (ls : Array Slot), f_X11_isRule_19 N zh = some (r9, h9) → gw E s zh H locs → lv_has ls 2 [] → W p l e rm_X11_isRule s m [.ref (gB E + za0), .int za1].toArray below meth c H locs 0 0 (MQ below (gQi E r9 h9) [.ref (gB E + za0), .int za1].toArray s 0 0 (gA E)) (F0 m 19 ls []) := by
    intro zh H locs ls hf hw hl
    unfold f_X11_isRule_19 at hf
    refine lv_iconst (v := 0) hx hb dX11_isRule_19 (by decide) ?_
    exact J_20 0 _ _ _ ls hf hw (lv_sub hl [] rfl)
  unfold f_X11_isRule at hf
  refine lv_iload_n hx hb dX11_isRule_0 rfl (lv_at hl 1 rfl) ?_
  refine lv_if_lt (tgt := 19) hx hb dX11_isRule_1 (by decide) (fun qc1 => ?_) (fun qc1 => ?_)
  · have hf := gif_t hf qc1
    exact J_19  _ _ _ ls hf hw (lv_sub hl [] rfl)
  · have hf := gif_f hf qc1
    refine lv_iload_n hx hb dX11_isRule_4 rfl (lv_at hl 1 rfl) ?_
    refine lv_aload_n hx hb dX11_isRule_5 rfl (lv_at hl 0 rfl) ?_
    obtain ⟨zt2, qzt2, hf⟩ := gb_el hf
    refine gx_getR X hw qzt2 clX11 (by decide) mf_X11_69 dX11_isRule_6 ?_
    obtain ⟨zt3, qzt3, hf⟩ := gb_el hf
    refine gx_getI X hw qzt3 clX2 (by decide) mf_X11_91 dX11_isRule_9 ?_
    refine lv_icmp_ge (tgt := 19) hx hb dX11_isRule_12 (by decide) (fun qc4 => ?_) (fun qc4 => ?_)
    · have hf := gif_t hf qc4
      exact J_19  _ _ _ ls hf hw (lv_sub hl [] rfl)
    · have hf := gif_f hf qc4
      refine lv_iconst (v := 1) hx hb dX11_isRule_15 (by decide) ?_
      refine lv_goto (tgt := 20) hx hb dX11_isRule_16 (by decide) ?_
      exact J_20 1 _ _ _ ls hf hw (lv_sub hl [] rfl)
abbrev rm_X11_use : Room := { frames := 1, cells := 0, slots := 0, locals := 21 }
set_option maxHeartbeats 4000000 in
set_option maxRecDepth 100000 in
theorem c_X11_use (l : Launch) (E : gE) (N : Nat) (za0 : Nat) (za1 : Int32) (zh : PH) {h9 : PH} {r9 : Int32} (hf : f_X11_use N za0 za1 zh = some (r9, h9)) : Met l yX11_use (gWS yX11_use cX11_use 2 (some .boolean)) rm_X11_use (gPc E [.ref (gB E + za0), .int za1] zh) (gQi E r9 h9) 0 0 (gA E) := by
  refine gx_met (by decide) ?_ rfl
  intro p e s m below meth c X hr hlk hin2 hw
  have hx := X.1.1
  have hb := X.1.2.1
  have hl := lv_entry [.ref (gB E + za0), .int za1] (n := 2) (Nat.le_of_ble_eq_true rfl)
  rw [lg_entry_eq]
  generalize (lg_sl [.ref (gB E + za0), .int za1] ++ List.replicate (2 - (lg_sl [.ref (gB E + za0), .int za1]).length) Slot.unset).toArray = ls at hl ⊢
  have hl : lv_has ls 2 [(0, .ref (gB E + za0)), (1, .int za1)] := hl
  have J_15 : ∀ (zv0 : Nat) (zv1 : Int32) (zh : PH) (H : Heap) (locs : List Loc) (ls : Array Slot), f_X11_use_15 N zv0 zv1 zh = some (r9, h9) → gw E s zh H locs → lv_has ls 2 [(0, .ref (gB E + zv0)), (1, .int zv1)] → W p l e rm_X11_use s m [.ref (gB E + za0), .int za1].toArray below meth c H locs 0 0 (MQ below (gQi E r9 h9) [.ref (gB E + za0), .int za1].toArray s 0 0 (gA E)) (F0 m 15 ls []) := by
    intro zv0 zv1 zh H locs ls hf hw hl
    unfold f_X11_use_15 at hf
    refine lv_aload_n hx hb dX11_use_15 rfl (lv_at hl 0 rfl) ?_
    obtain ⟨zt1, qzt1, hf⟩ := gb_el hf
    refine gx_getR X hw qzt1 clX11 (by decide) mf_X11_37 dX11_use_16 ?_
    refine lv_iload_n hx hb dX11_use_19 rfl (lv_at hl 1 rfl) ?_
    obtain ⟨zh2, qzh2, hf⟩ := gb_el hf
    refine gx_putV X hw qzh2 clX9 (by decide) mf_X11_146 rfl rfl rfl dX11_use_20 (fun H locs hw => ?_)
    refine lv_iconst (v := 1) hx hb dX11_use_23 (by decide) ?_
    exact gx_zret X hr hlk hw hf dX11_use_24
  unfold f_X11_use at hf
  refine lv_iload_n hx hb dX11_use_0 rfl (lv_at hl 1 rfl) ?_
  refine lv_iconst (v := (-1)) hx hb dX11_use_1 (by decide) ?_
  refine lv_icmp_eq (tgt := 15) hx hb dX11_use_2 (by decide) (fun qc1 => ?_) (fun qc1 => ?_)
  · have hf := gif_t hf qc1
    exact J_15 za0 za1 _ _ _ ls hf hw (lv_sub hl [0, 1] rfl)
  · have hf := gif_f hf qc1
    refine lv_aload_n hx hb dX11_use_5 rfl (lv_at hl 0 rfl) ?_
    refine lv_iload_n hx hb dX11_use_6 rfl (lv_at hl 1 rfl) ?_
    obtain ⟨qizh2, hf⟩ := gg_el hf
    obtain ⟨zt3, zh2, qzh2, hf⟩ := gc_el hf
    refine gx_ki (gx_runV (As := [.int za1]) (rest := []) X hw (c_X11_isRule l E N za0 za1 zh qzh2) kX11_isRule mm_X11_143 qizh2 clX11 ⟨Nat.le_of_ble_eq_true rfl, Nat.le_of_ble_eq_true rfl⟩ rfl rfl rfl hl.1 (Nat.le_of_ble_eq_true rfl) rfl dX11_use_7 ⟨Nat.le_of_ble_eq_true rfl, Nat.le_of_ble_eq_true rfl⟩) hw (fun H locs hw => ?_)
    refine lv_if_ne (tgt := 15) hx hb dX11_use_10 (by decide) (fun qc4 => ?_) (fun qc4 => ?_)
    · have hf := gif_f hf qc4
      exact J_15 za0 za1 _ _ _ ls hf hw (lv_sub hl [0, 1] rfl)
    · have hf := gif_t hf qc4
      refine lv_iconst (v := 0) hx hb dX11_use_13 (by decide) ?_
      exact gx_zret X hr hlk hw hf dX11_use_14
abbrev rm_X11_isToldMinute : Room := { frames := 0, cells := 0, slots := 0, locals := 0 }
set_option maxHeartbeats 4000000 in
set_option maxRecDepth 100000 in
theorem c_X11_isToldMinute (l : Launch) (E : gE) (N : Nat) (za0 : Int32) (zh : PH) {h9 : PH} {r9 : Int32} (hf : f_X11_isToldMinute N za0 zh = some (r9, h9)) : Met l yX11_isToldMinute (gWS yX11_isToldMinute cX11_isToldMinute 1 (some .boolean)) rm_X11_isToldMinute (gPc E [.int za0] zh) (gQi E r9 h9) 0 0 (gA E) := by
  refine gx_met (by decide) ?_ rfl
  intro p e s m below meth c X hr hlk hin2 hw
  have hx := X.1.1
  have hb := X.1.2.1
  have hl := lv_entry [.int za0] (n := 1) (Nat.le_of_ble_eq_true rfl)
  rw [lg_entry_eq]
  generalize (lg_sl [.int za0] ++ List.replicate (1 - (lg_sl [.int za0]).length) Slot.unset).toArray = ls at hl ⊢
  have hl : lv_has ls 1 [(0, .int za0)] := hl
  have J_16 : ∀ (zs0 : Int32) (zh : PH) (H : Heap) (locs : List Loc) (ls : Array Slot), f_X11_isToldMinute_16 N zs0 zh = some (r9, h9) → gw E s zh H locs → lv_has ls 1 [] → W p l e rm_X11_isToldMinute s m [.int za0].toArray below meth c H locs 0 0 (MQ below (gQi E r9 h9) [.int za0].toArray s 0 0 (gA E)) (F0 m 16 ls [.int zs0]) := by
    intro zs0 zh H locs ls hf hw hl
    unfold f_X11_isToldMinute_16 at hf
    exact gx_zret X hr hlk hw hf dX11_isToldMinute_16
  have J_15 : ∀ (zh : PH) (H : Heap) (locs : List Loc) (ls : Array Slot), f_X11_isToldMinute_15 N zh = some (r9, h9) → gw E s zh H locs → lv_has ls 1 [] → W p l e rm_X11_isToldMinute s m [.int za0].toArray below meth c H locs 0 0 (MQ below (gQi E r9 h9) [.int za0].toArray s 0 0 (gA E)) (F0 m 15 ls []) := by
    intro zh H locs ls hf hw hl
    unfold f_X11_isToldMinute_15 at hf
    refine lv_iconst (v := 0) hx hb dX11_isToldMinute_15 (by decide) ?_
    exact J_16 0 _ _ _ ls hf hw (lv_sub hl [] rfl)
  unfold f_X11_isToldMinute at hf
  refine lv_iload_n hx hb dX11_isToldMinute_0 rfl (lv_at hl 0 rfl) ?_
  refine lv_if_lt (tgt := 15) hx hb dX11_isToldMinute_1 (by decide) (fun qc1 => ?_) (fun qc1 => ?_)
  · have hf := gif_t hf qc1
    exact J_15  _ _ _ ls hf hw (lv_sub hl [] rfl)
  · have hf := gif_f hf qc1
    refine lv_iload_n hx hb dX11_isToldMinute_4 rfl (lv_at hl 0 rfl) ?_
    refine lv_ldcw (v := 99999) hx hb X.1.2.2.2.1 (X.1.2.2.2.2 _ mk_X11_340) dX11_isToldMinute_5 ?_
    refine lv_icmp_gt (tgt := 15) hx hb dX11_isToldMinute_8 (by decide) (fun qc2 => ?_) (fun qc2 => ?_)
    · have hf := gif_t hf qc2
      exact J_15  _ _ _ ls hf hw (lv_sub hl [] rfl)
    · have hf := gif_f hf qc2
      refine lv_iconst (v := 1) hx hb dX11_isToldMinute_11 (by decide) ?_
      refine lv_goto (tgt := 16) hx hb dX11_isToldMinute_12 (by decide) ?_
      exact J_16 1 _ _ _ ls hf hw (lv_sub hl [] rfl)
abbrev rm_X11_whyRefused : Room := { frames := 1, cells := 0, slots := 0, locals := 21 }
set_option maxHeartbeats 4000000 in
set_option maxRecDepth 100000 in
theorem c_X11_whyRefused (l : Launch) (E : gE) (N : Nat) (za0 : Nat) (za1 : Int32) (za2 : Int32) (za3 : Int32) (zh : PH) {h9 : PH} {r9 : Int32} (hf : f_X11_whyRefused N za0 za1 za2 za3 zh = some (r9, h9)) : Met l yX11_whyRefused (gWS yX11_whyRefused cX11_whyRefused 4 (some .int)) rm_X11_whyRefused (gPc E [.ref (gB E + za0), .int za1, .int za2, .int za3] zh) (gQi E r9 h9) 0 0 (gA E) := by
  refine gx_met (by decide) ?_ rfl
  intro p e s m below meth c X hr hlk hin2 hw
  have hx := X.1.1
  have hb := X.1.2.1
  have hl := lv_entry [.ref (gB E + za0), .int za1, .int za2, .int za3] (n := 4) (Nat.le_of_ble_eq_true rfl)
  rw [lg_entry_eq]
  generalize (lg_sl [.ref (gB E + za0), .int za1, .int za2, .int za3] ++ List.replicate (4 - (lg_sl [.ref (gB E + za0), .int za1, .int za2, .int za3]).length) Slot.unset).toArray = ls at hl ⊢
  have hl : lv_has ls 4 [(0, .ref (gB E + za0)), (1, .int za1), (2, .int za2), (3, .int za3)] := hl
  have J_100 : ∀ (zs0 : Int32) (zh : PH) (H : Heap) (locs : List Loc) (ls : Array Slot), f_X11_whyRefused_100 N zs0 zh = some (r9, h9) → gw E s zh H locs → lv_has ls 4 [] → W p l e rm_X11_whyRefused s m [.ref (gB E + za0), .int za1, .int za2, .int za3].toArray below meth c H locs 0 0 (MQ below (gQi E r9 h9) [.ref (gB E + za0), .int za1, .int za2, .int za3].toArray s 0 0 (gA E)) (F0 m 100 ls [.int zs0]) := by
    intro zs0 zh H locs ls hf hw hl
    unfold f_X11_whyRefused_100 at hf
    exact gx_iret X hr hlk hw hf dX11_whyRefused_100
  have J_83 : ∀ (zv0 : Nat) (zh : PH) (H : Heap) (locs : List Loc) (ls : Array Slot), f_X11_whyRefused_83 N zv0 zh = some (r9, h9) → gw E s zh H locs → lv_has ls 4 [(0, .ref (gB E + zv0))] → W p l e rm_X11_whyRefused s m [.ref (gB E + za0), .int za1, .int za2, .int za3].toArray below meth c H locs 0 0 (MQ below (gQi E r9 h9) [.ref (gB E + za0), .int za1, .int za2, .int za3].toArray s 0 0 (gA E)) (F0 m 83 ls []) := by
    intro zv0 zh H locs ls hf hw hl
    unfold f_X11_whyRefused_83 at hf
    refine lv_aload_n hx hb dX11_whyRefused_83 rfl (lv_at hl 0 rfl) ?_
    obtain ⟨zt1, qzt1, hf⟩ := gb_el hf
    refine gx_getR X hw qzt1 clX11 (by decide) mf_X11_37 dX11_whyRefused_84 ?_
    obtain ⟨zt2, qzt2, hf⟩ := gb_el hf
    refine gx_getI X hw qzt2 clX9 (by decide) mf_X11_325 dX11_whyRefused_87 ?_
    refine lv_bipush (v := 100) hx hb dX11_whyRefused_90 (by decide) ?_
    refine lv_icmp_lt (tgt := 99) hx hb dX11_whyRefused_92 (by decide) (fun qc3 => ?_) (fun qc3 => ?_)
    · have hf := gif_t hf qc3
      refine lv_iconst (v := 0) hx hb dX11_whyRefused_99 (by decide) ?_
      exact J_100 0 _ _ _ ls hf hw (lv_sub hl [] rfl)
    · have hf := gif_f hf qc3
      refine lv_iconst (v := 5) hx hb dX11_whyRefused_95 (by decide) ?_
      refine lv_goto (tgt := 100) hx hb dX11_whyRefused_96 (by decide) ?_
      exact J_100 5 _ _ _ ls hf hw (lv_sub hl [] rfl)
  have J_38 : ∀ (zh : PH) (H : Heap) (locs : List Loc) (ls : Array Slot), f_X11_whyRefused_38 N zh = some (r9, h9) → gw E s zh H locs → lv_has ls 4 [] → W p l e rm_X11_whyRefused s m [.ref (gB E + za0), .int za1, .int za2, .int za3].toArray below meth c H locs 0 0 (MQ below (gQi E r9 h9) [.ref (gB E + za0), .int za1, .int za2, .int za3].toArray s 0 0 (gA E)) (F0 m 38 ls []) := by
    intro zh H locs ls hf hw hl
    unfold f_X11_whyRefused_38 at hf
    refine lv_iconst (v := 2) hx hb dX11_whyRefused_38 (by decide) ?_
    exact gx_iret X hr hlk hw hf dX11_whyRefused_39
  have J_18 : ∀ (zh : PH) (H : Heap) (locs : List Loc) (ls : Array Slot), f_X11_whyRefused_18 N zh = some (r9, h9) → gw E s zh H locs → lv_has ls 4 [] → W p l e rm_X11_whyRefused s m [.ref (gB E + za0), .int za1, .int za2, .int za3].toArray below meth c H locs 0 0 (MQ below (gQi E r9 h9) [.ref (gB E + za0), .int za1, .int za2, .int za3].toArray s 0 0 (gA E)) (F0 m 18 ls []) := by
    intro zh H locs ls hf hw hl
    unfold f_X11_whyRefused_18 at hf
    refine lv_iconst (v := 1) hx hb dX11_whyRefused_18 (by decide) ?_
    exact gx_iret X hr hlk hw hf dX11_whyRefused_19
  unfold f_X11_whyRefused at hf
  refine lv_aload_n hx hb dX11_whyRefused_0 rfl (lv_at hl 0 rfl) ?_
  refine lv_iload_n hx hb dX11_whyRefused_1 rfl (lv_at hl 1 rfl) ?_
  obtain ⟨qizh1, hf⟩ := gg_el hf
  obtain ⟨zt2, zh1, qzh1, hf⟩ := gc_el hf
  refine gx_ki (gx_runV (As := [.int za1]) (rest := []) X hw (c_X11_isGuest l E N za0 za1 zh qzh1) kX11_isGuest mm_X11_118 qizh1 clX11 ⟨Nat.le_of_ble_eq_true rfl, Nat.le_of_ble_eq_true rfl⟩ rfl rfl rfl hl.1 (Nat.le_of_ble_eq_true rfl) rfl dX11_whyRefused_2 ⟨Nat.le_of_ble_eq_true rfl, Nat.le_of_ble_eq_true rfl⟩) hw (fun H locs hw => ?_)
  refine lv_if_eq (tgt := 18) hx hb dX11_whyRefused_5 (by decide) (fun qc3 => ?_) (fun qc3 => ?_)
  · have hf := gif_t hf qc3
    exact J_18  _ _ _ ls hf hw (lv_sub hl [] rfl)
  · have hf := gif_f hf qc3
    refine lv_aload_n hx hb dX11_whyRefused_8 rfl (lv_at hl 0 rfl) ?_
    obtain ⟨zt4, qzt4, hf⟩ := gb_el hf
    refine gx_getR X hw qzt4 clX11 (by decide) mf_X11_69 dX11_whyRefused_9 ?_
    obtain ⟨zt5, qzt5, hf⟩ := gb_el hf
    refine gx_getI X hw qzt5 clX2 (by decide) mf_X11_230 dX11_whyRefused_12 ?_
    refine lv_if_ne (tgt := 20) hx hb dX11_whyRefused_15 (by decide) (fun qc6 => ?_) (fun qc6 => ?_)
    · have hf := gif_f hf qc6
      refine lv_iload_n hx hb dX11_whyRefused_20 rfl (lv_at hl 2 rfl) ?_
      refine W.eq (g2 := F0 m 21 ls [.int za2]) rfl ?_
      obtain ⟨zt8, zh7, qzh7, hf⟩ := gc_el hf
      refine gx_ki (gx_runS (As := [.int za2]) (rest := []) X hw (c_X11_isToldMinute l E N za2 zh1 qzh7) kX11_isToldMinute mm_X11_207 ⟨Nat.le_of_ble_eq_true rfl, Nat.le_of_ble_eq_true rfl⟩ rfl rfl rfl hl.1 (Nat.le_of_ble_eq_true rfl) rfl dX11_whyRefused_21 ⟨Nat.le_of_ble_eq_true rfl, Nat.le_of_ble_eq_true rfl⟩) hw (fun H locs hw => ?_)
      refine lv_if_eq (tgt := 38) hx hb dX11_whyRefused_24 (by decide) (fun qc9 => ?_) (fun qc9 => ?_)
      · have hf := gif_t hf qc9
        exact J_38  _ _ _ ls hf hw (lv_sub hl [] rfl)
      · have hf := gif_f hf qc9
        refine lv_iload_n hx hb dX11_whyRefused_27 rfl (lv_at hl 2 rfl) ?_
        refine lv_aload_n hx hb dX11_whyRefused_28 rfl (lv_at hl 0 rfl) ?_
        obtain ⟨zt10, qzt10, hf⟩ := gb_el hf
        refine gx_getR X hw qzt10 clX11 (by decide) mf_X11_37 dX11_whyRefused_29 ?_
        obtain ⟨zt11, qzt11, hf⟩ := gb_el hf
        refine gx_getI X hw qzt11 clX9 (by decide) mf_X11_328 dX11_whyRefused_32 ?_
        refine lv_icmp_ge (tgt := 40) hx hb dX11_whyRefused_35 (by decide) (fun qc12 => ?_) (fun qc12 => ?_)
        · have hf := gif_t hf qc12
          refine lv_aload_n hx hb dX11_whyRefused_40 rfl (lv_at hl 0 rfl) ?_
          obtain ⟨zt13, qzt13, hf⟩ := gb_el hf
          refine gx_getR X hw qzt13 clX11 (by decide) mf_X11_37 dX11_whyRefused_41 ?_
          obtain ⟨zt14, qzt14, hf⟩ := gb_el hf
          refine gx_getR X hw qzt14 clX9 (by decide) mf_X11_112 dX11_whyRefused_44 ?_
          refine W.eq (g2 := F0 m 47 ls [.ref (gB E + zt14)]) rfl ?_
          refine lv_iload_n hx hb dX11_whyRefused_47 rfl (lv_at hl 1 rfl) ?_
          obtain ⟨qizh15, hf⟩ := gg_el hf
          obtain ⟨zt16, zh15, qzh15, hf⟩ := gc_el hf
          refine gx_ki (gx_runV (As := [.int za1]) (rest := []) X hw (c_X1_isIn l E N zt14 za1 zh7 qzh15) kX1_isIn mm_X11_286 qizh15 clX1 ⟨Nat.le_of_ble_eq_true rfl, Nat.le_of_ble_eq_true rfl⟩ rfl rfl rfl hl.1 (Nat.le_of_ble_eq_true rfl) rfl dX11_whyRefused_48 ⟨Nat.le_of_ble_eq_true rfl, Nat.le_of_ble_eq_true rfl⟩) hw (fun H locs hw => ?_)
          refine lv_iload_n hx hb dX11_whyRefused_51 rfl (lv_at hl 3 rfl) ?_
          refine lv_icmp_ne (tgt := 57) hx hb dX11_whyRefused_52 (by decide) (fun qc17 => ?_) (fun qc17 => ?_)
          · have hf := gif_f hf qc17
            refine lv_iload_n hx hb dX11_whyRefused_57 rfl (lv_at hl 3 rfl) ?_
            refine lv_if_eq (tgt := 83) hx hb dX11_whyRefused_58 (by decide) (fun qc18 => ?_) (fun qc18 => ?_)
            · have hf := gif_t hf qc18
              exact J_83 za0 _ _ _ ls hf hw (lv_sub hl [0] rfl)
            · have hf := gif_f hf qc18
              refine lv_aload_n hx hb dX11_whyRefused_61 rfl (lv_at hl 0 rfl) ?_
              obtain ⟨zt19, qzt19, hf⟩ := gb_el hf
              refine gx_getR X hw qzt19 clX11 (by decide) mf_X11_37 dX11_whyRefused_62 ?_
              obtain ⟨zt20, qzt20, hf⟩ := gb_el hf
              refine gx_getR X hw qzt20 clX9 (by decide) mf_X11_112 dX11_whyRefused_65 ?_
              obtain ⟨qizh21, hf⟩ := gg_el hf
              obtain ⟨zt22, zh21, qzh21, hf⟩ := gc_el hf
              refine gx_ki (gx_runV (As := []) (rest := []) X hw (c_X1_guestsIn l E N zt20 zh15 qzh21) kX1_guestsIn mm_X11_295 qizh21 clX1 ⟨Nat.le_of_ble_eq_true rfl, Nat.le_of_ble_eq_true rfl⟩ rfl rfl rfl hl.1 (Nat.le_of_ble_eq_true rfl) rfl dX11_whyRefused_68 ⟨Nat.le_of_ble_eq_true rfl, Nat.le_of_ble_eq_true rfl⟩) hw (fun H locs hw => ?_)
              refine W.eq (g2 := F0 m 71 ls [.int zt22]) rfl ?_
              refine lv_aload_n hx hb dX11_whyRefused_71 rfl (lv_at hl 0 rfl) ?_
              obtain ⟨zt23, qzt23, hf⟩ := gb_el hf
              refine gx_getR X hw qzt23 clX11 (by decide) mf_X11_69 dX11_whyRefused_72 ?_
              obtain ⟨zt24, qzt24, hf⟩ := gb_el hf
              refine gx_getI X hw qzt24 clX2 (by decide) mf_X11_230 dX11_whyRefused_75 ?_
              refine lv_icmp_lt (tgt := 83) hx hb dX11_whyRefused_78 (by decide) (fun qc25 => ?_) (fun qc25 => ?_)
              · have hf := gif_t hf qc25
                exact J_83 za0 _ _ _ ls hf hw (lv_sub hl [0] rfl)
              · have hf := gif_f hf qc25
                refine lv_iconst (v := 4) hx hb dX11_whyRefused_81 (by decide) ?_
                exact gx_iret X hr hlk hw hf dX11_whyRefused_82
          · have hf := gif_t hf qc17
            refine lv_iconst (v := 3) hx hb dX11_whyRefused_55 (by decide) ?_
            exact gx_iret X hr hlk hw hf dX11_whyRefused_56
        · have hf := gif_f hf qc12
          exact J_38  _ _ _ ls hf hw (lv_sub hl [] rfl)
    · have hf := gif_t hf qc6
      exact J_18  _ _ _ ls hf hw (lv_sub hl [] rfl)
abbrev rm_X11_come : Room := { frames := 6, cells := 0, slots := 0, locals := 142 }
set_option maxHeartbeats 4000000 in
set_option maxRecDepth 100000 in
theorem c_X11_come (l : Launch) (E : gE) (N : Nat) (za0 : Nat) (za1 : Int32) (za2 : Int32) (zh : PH) {h9 : PH} {r9 : Int32} (hf : f_X11_come N za0 za1 za2 zh = some (r9, h9)) : Met l yX11_come (gWS yX11_come cX11_come 4 (some .int)) rm_X11_come (gPc E [.ref (gB E + za0), .int za1, .int za2] zh) (gQi E r9 h9) 0 0 (gA E) := by
  refine gx_met (by decide) ?_ rfl
  intro p e s m below meth c X hr hlk hin2 hw
  have hx := X.1.1
  have hb := X.1.2.1
  have hl := lv_entry [.ref (gB E + za0), .int za1, .int za2] (n := 4) (Nat.le_of_ble_eq_true rfl)
  rw [lg_entry_eq]
  generalize (lg_sl [.ref (gB E + za0), .int za1, .int za2] ++ List.replicate (4 - (lg_sl [.ref (gB E + za0), .int za1, .int za2]).length) Slot.unset).toArray = ls at hl ⊢
  have hl : lv_has ls 4 [(0, .ref (gB E + za0)), (1, .int za1), (2, .int za2)] := hl
  have J_25 : ∀ (zv3 : Int32) (zh : PH) (H : Heap) (locs : List Loc) (ls : Array Slot), f_X11_come_25 N zv3 zh = some (r9, h9) → gw E s zh H locs → lv_has ls 4 [(3, .int zv3)] → W p l e rm_X11_come s m [.ref (gB E + za0), .int za1, .int za2].toArray below meth c H locs 0 0 (MQ below (gQi E r9 h9) [.ref (gB E + za0), .int za1, .int za2].toArray s 0 0 (gA E)) (F0 m 25 ls []) := by
    intro zv3 zh H locs ls hf hw hl
    unfold f_X11_come_25 at hf
    refine lv_iload_n hx hb dX11_come_25 rfl (lv_at hl 0 rfl) ?_
    exact gx_iret X hr hlk hw hf dX11_come_26
  unfold f_X11_come at hf
  refine lv_aload_n hx hb dX11_come_0 rfl (lv_at hl 0 rfl) ?_
  refine lv_iload_n hx hb dX11_come_1 rfl (lv_at hl 1 rfl) ?_
  refine lv_iload_n hx hb dX11_come_2 rfl (lv_at hl 2 rfl) ?_
  refine lv_iconst (v := 1) hx hb dX11_come_3 (by decide) ?_
  obtain ⟨qizh1, hf⟩ := gg_el hf
  obtain ⟨zt2, zh1, qzh1, hf⟩ := gc_el hf
  refine gx_ki (gx_runV (As := [.int za1, .int za2, .int 1]) (rest := []) X hw (c_X11_whyRefused l E N za0 za1 za2 1 zh qzh1) kX11_whyRefused mm_X11_162 qizh1 clX11 ⟨Nat.le_of_ble_eq_true rfl, Nat.le_of_ble_eq_true rfl⟩ rfl rfl rfl hl.1 (Nat.le_of_ble_eq_true rfl) rfl dX11_come_4 ⟨Nat.le_of_ble_eq_true rfl, Nat.le_of_ble_eq_true rfl⟩) hw (fun H locs hw => ?_)
  refine lv_istore_n (lv' := [(3, .int zt2), (0, .ref (gB E + za0)), (1, .int za1), (2, .int za2)]) hx hb dX11_come_7 rfl hl (by decide) rfl (fun ls hl => ?_)
  refine lv_iload_n hx hb dX11_come_8 rfl (lv_at hl 0 rfl) ?_
  refine lv_if_ne (tgt := 25) hx hb dX11_come_9 (by decide) (fun qc3 => ?_) (fun qc3 => ?_)
  · have hf := gif_f hf qc3
    exact J_25 zt2 _ _ _ ls hf hw (lv_sub hl [0] rfl)
  · have hf := gif_t hf qc3
    refine lv_aload_n hx hb dX11_come_12 rfl (lv_at hl 1 rfl) ?_
    refine W.eq (g2 := F0 m 13 ls [.ref (gB E + za0)]) rfl ?_
    obtain ⟨zt4, qzt4, hf⟩ := gb_el hf
    refine gx_getR X hw qzt4 clX11 (by decide) mf_X11_37 dX11_come_13 ?_
    refine lv_aload_n hx hb dX11_come_16 rfl (lv_at hl 1 rfl) ?_
    obtain ⟨zt5, qzt5, hf⟩ := gb_el hf
    refine gx_getR X hw qzt5 clX11 (by decide) mf_X11_69 dX11_come_17 ?_
    refine lv_iload_n hx hb dX11_come_20 rfl (lv_at hl 2 rfl) ?_
    refine lv_iload_n hx hb dX11_come_21 rfl (lv_at hl 3 rfl) ?_
    obtain ⟨qizh6, hf⟩ := gg_el hf
    obtain ⟨zh6, qzh6, hf⟩ := gb_el hf
    refine gx_kv (gx_runV (As := [.ref (gB E + zt5), .int za1, .int za2]) (rest := []) X hw (c_X9_takeIn l E N zt4 zt5 za1 za2 zh1 qzh6) kX9_takeIn mm_X11_166 qizh6 clX9 ⟨Nat.le_of_ble_eq_true rfl, Nat.le_of_ble_eq_true rfl⟩ rfl rfl rfl hl.1 (Nat.le_of_ble_eq_true rfl) rfl dX11_come_22 ⟨Nat.le_of_ble_eq_true rfl, Nat.le_of_ble_eq_true rfl⟩) hw (fun H locs hw => ?_)
    exact J_25 zt2 _ _ _ ls hf hw (lv_sub hl [0] rfl)
abbrev rm_X11_leave : Room := { frames := 7, cells := 0, slots := 0, locals := 174 }
set_option maxHeartbeats 4000000 in
set_option maxRecDepth 100000 in
theorem c_X11_leave (l : Launch) (E : gE) (N : Nat) (za0 : Nat) (za1 : Int32) (za2 : Int32) (zh : PH) {h9 : PH} {r9 : Int32} (hf : f_X11_leave N za0 za1 za2 zh = some (r9, h9)) : Met l yX11_leave (gWS yX11_leave cX11_leave 4 (some .int)) rm_X11_leave (gPc E [.ref (gB E + za0), .int za1, .int za2] zh) (gQi E r9 h9) 0 0 (gA E) := by
  refine gx_met (by decide) ?_ rfl
  intro p e s m below meth c X hr hlk hin2 hw
  have hx := X.1.1
  have hb := X.1.2.1
  have hl := lv_entry [.ref (gB E + za0), .int za1, .int za2] (n := 4) (Nat.le_of_ble_eq_true rfl)
  rw [lg_entry_eq]
  generalize (lg_sl [.ref (gB E + za0), .int za1, .int za2] ++ List.replicate (4 - (lg_sl [.ref (gB E + za0), .int za1, .int za2]).length) Slot.unset).toArray = ls at hl ⊢
  have hl : lv_has ls 4 [(0, .ref (gB E + za0)), (1, .int za1), (2, .int za2)] := hl
  have J_25 : ∀ (zv3 : Int32) (zh : PH) (H : Heap) (locs : List Loc) (ls : Array Slot), f_X11_leave_25 N zv3 zh = some (r9, h9) → gw E s zh H locs → lv_has ls 4 [(3, .int zv3)] → W p l e rm_X11_leave s m [.ref (gB E + za0), .int za1, .int za2].toArray below meth c H locs 0 0 (MQ below (gQi E r9 h9) [.ref (gB E + za0), .int za1, .int za2].toArray s 0 0 (gA E)) (F0 m 25 ls []) := by
    intro zv3 zh H locs ls hf hw hl
    unfold f_X11_leave_25 at hf
    refine lv_iload_n hx hb dX11_leave_25 rfl (lv_at hl 0 rfl) ?_
    exact gx_iret X hr hlk hw hf dX11_leave_26
  unfold f_X11_leave at hf
  refine lv_aload_n hx hb dX11_leave_0 rfl (lv_at hl 0 rfl) ?_
  refine lv_iload_n hx hb dX11_leave_1 rfl (lv_at hl 1 rfl) ?_
  refine lv_iload_n hx hb dX11_leave_2 rfl (lv_at hl 2 rfl) ?_
  refine lv_iconst (v := 0) hx hb dX11_leave_3 (by decide) ?_
  obtain ⟨qizh1, hf⟩ := gg_el hf
  obtain ⟨zt2, zh1, qzh1, hf⟩ := gc_el hf
  refine gx_ki (gx_runV (As := [.int za1, .int za2, .int 0]) (rest := []) X hw (c_X11_whyRefused l E N za0 za1 za2 0 zh qzh1) kX11_whyRefused mm_X11_162 qizh1 clX11 ⟨Nat.le_of_ble_eq_true rfl, Nat.le_of_ble_eq_true rfl⟩ rfl rfl rfl hl.1 (Nat.le_of_ble_eq_true rfl) rfl dX11_leave_4 ⟨Nat.le_of_ble_eq_true rfl, Nat.le_of_ble_eq_true rfl⟩) hw (fun H locs hw => ?_)
  refine lv_istore_n (lv' := [(3, .int zt2), (0, .ref (gB E + za0)), (1, .int za1), (2, .int za2)]) hx hb dX11_leave_7 rfl hl (by decide) rfl (fun ls hl => ?_)
  refine lv_iload_n hx hb dX11_leave_8 rfl (lv_at hl 0 rfl) ?_
  refine lv_if_ne (tgt := 25) hx hb dX11_leave_9 (by decide) (fun qc3 => ?_) (fun qc3 => ?_)
  · have hf := gif_f hf qc3
    exact J_25 zt2 _ _ _ ls hf hw (lv_sub hl [0] rfl)
  · have hf := gif_t hf qc3
    refine lv_aload_n hx hb dX11_leave_12 rfl (lv_at hl 1 rfl) ?_
    refine W.eq (g2 := F0 m 13 ls [.ref (gB E + za0)]) rfl ?_
    obtain ⟨zt4, qzt4, hf⟩ := gb_el hf
    refine gx_getR X hw qzt4 clX11 (by decide) mf_X11_37 dX11_leave_13 ?_
    refine lv_aload_n hx hb dX11_leave_16 rfl (lv_at hl 1 rfl) ?_
    obtain ⟨zt5, qzt5, hf⟩ := gb_el hf
    refine gx_getR X hw qzt5 clX11 (by decide) mf_X11_69 dX11_leave_17 ?_
    refine lv_iload_n hx hb dX11_leave_20 rfl (lv_at hl 2 rfl) ?_
    refine lv_iload_n hx hb dX11_leave_21 rfl (lv_at hl 3 rfl) ?_
    obtain ⟨qizh6, hf⟩ := gg_el hf
    obtain ⟨zh6, qzh6, hf⟩ := gb_el hf
    refine gx_kv (gx_runV (As := [.ref (gB E + zt5), .int za1, .int za2]) (rest := []) X hw (c_X9_letOut l E N zt4 zt5 za1 za2 zh1 qzh6) kX9_letOut mm_X11_170 qizh6 clX9 ⟨Nat.le_of_ble_eq_true rfl, Nat.le_of_ble_eq_true rfl⟩ rfl rfl rfl hl.1 (Nat.le_of_ble_eq_true rfl) rfl dX11_leave_22 ⟨Nat.le_of_ble_eq_true rfl, Nat.le_of_ble_eq_true rfl⟩) hw (fun H locs hw => ?_)
    exact J_25 zt2 _ _ _ ls hf hw (lv_sub hl [0] rfl)
abbrev rm_X11_over : Room := { frames := 0, cells := 0, slots := 0, locals := 0 }
set_option maxHeartbeats 4000000 in
set_option maxRecDepth 100000 in
theorem c_X11_over (l : Launch) (E : gE) (N : Nat) (za0 : Nat) (zh : PH) {h9 : PH} {r9 : Int32} (hf : f_X11_over N za0 zh = some (r9, h9)) : Met l yX11_over (gWS yX11_over cX11_over 1 (some .int)) rm_X11_over (gPc E [.ref (gB E + za0)] zh) (gQi E r9 h9) 0 0 (gA E) := by
  refine gx_met (by decide) ?_ rfl
  intro p e s m below meth c X hr hlk hin2 hw
  have hx := X.1.1
  have hb := X.1.2.1
  have hl := lv_entry [.ref (gB E + za0)] (n := 1) (Nat.le_of_ble_eq_true rfl)
  rw [lg_entry_eq]
  generalize (lg_sl [.ref (gB E + za0)] ++ List.replicate (1 - (lg_sl [.ref (gB E + za0)]).length) Slot.unset).toArray = ls at hl ⊢
  have hl : lv_has ls 1 [(0, .ref (gB E + za0))] := hl
  unfold f_X11_over at hf
  refine lv_aload_n hx hb dX11_over_0 rfl (lv_at hl 0 rfl) ?_
  obtain ⟨zt1, qzt1, hf⟩ := gb_el hf
  refine gx_getR X hw qzt1 clX11 (by decide) mf_X11_37 dX11_over_1 ?_
  obtain ⟨zt2, qzt2, hf⟩ := gb_el hf
  refine gx_getR X hw qzt2 clX9 (by decide) mf_X11_173 dX11_over_4 ?_
  obtain ⟨zt3, qzt3, hf⟩ := gb_el hf
  refine gx_getI X hw qzt3 clX0 (by decide) mf_X11_177 dX11_over_7 ?_
  exact gx_iret X hr hlk hw hf dX11_over_10
abbrev rm_X11_sum : Room := { frames := 0, cells := 0, slots := 0, locals := 0 }
set_option maxHeartbeats 4000000 in
set_option maxRecDepth 100000 in
theorem c_X11_sum (l : Launch) (E : gE) (N : Nat) (za0 : Nat) (za1 : Int32) (zh : PH) {h9 : PH} {r9 : Int32} (hf : f_X11_sum N za0 za1 zh = some (r9, h9)) : Met l yX11_sum (gWS yX11_sum cX11_sum 2 (some .int)) rm_X11_sum (gPc E [.ref (gB E + za0), .int za1] zh) (gQi E r9 h9) 0 0 (gA E) := by
  refine gx_met (by decide) ?_ rfl
  intro p e s m below meth c X hr hlk hin2 hw
  have hx := X.1.1
  have hb := X.1.2.1
  have hl := lv_entry [.ref (gB E + za0), .int za1] (n := 2) (Nat.le_of_ble_eq_true rfl)
  rw [lg_entry_eq]
  generalize (lg_sl [.ref (gB E + za0), .int za1] ++ List.replicate (2 - (lg_sl [.ref (gB E + za0), .int za1]).length) Slot.unset).toArray = ls at hl ⊢
  have hl : lv_has ls 2 [(0, .ref (gB E + za0)), (1, .int za1)] := hl
  unfold f_X11_sum at hf
  refine lv_iload_n hx hb dX11_sum_0 rfl (lv_at hl 1 rfl) ?_
  by_cases qc1 : (za1 : Int32) = 0
  · have hf := gif_t hf qc1
    refine lv_tableIn (off := 31) (tgt := 32) hx hb dX11_sum_1 (by rw [qc1]; decide) (by rw [qc1]; decide) (by rw [qc1]; rfl) (by decide) ?_
    refine lv_aload_n hx hb dX11_sum_32 rfl (lv_at hl 0 rfl) ?_
    obtain ⟨zt2, qzt2, hf⟩ := gb_el hf
    refine gx_getR X hw qzt2 clX11 (by decide) mf_X11_37 dX11_sum_33 ?_
    obtain ⟨zt3, qzt3, hf⟩ := gb_el hf
    refine gx_getR X hw qzt3 clX9 (by decide) mf_X11_112 dX11_sum_36 ?_
    obtain ⟨zt4, qzt4, hf⟩ := gb_el hf
    refine gx_getI X hw qzt4 clX1 (by decide) mf_X11_182 dX11_sum_39 ?_
    exact gx_iret X hr hlk hw hf dX11_sum_42
  have hf := gif_f hf qc1
  by_cases qc5 : (za1 : Int32) = 1
  · have hf := gif_t hf qc5
    refine lv_tableIn (off := 42) (tgt := 43) hx hb dX11_sum_1 (by rw [qc5]; decide) (by rw [qc5]; decide) (by rw [qc5]; rfl) (by decide) ?_
    refine lv_aload_n hx hb dX11_sum_43 rfl (lv_at hl 0 rfl) ?_
    obtain ⟨zt6, qzt6, hf⟩ := gb_el hf
    refine gx_getR X hw qzt6 clX11 (by decide) mf_X11_37 dX11_sum_44 ?_
    obtain ⟨zt7, qzt7, hf⟩ := gb_el hf
    refine gx_getR X hw qzt7 clX9 (by decide) mf_X11_112 dX11_sum_47 ?_
    obtain ⟨zt8, qzt8, hf⟩ := gb_el hf
    refine gx_getI X hw qzt8 clX1 (by decide) mf_X11_185 dX11_sum_50 ?_
    exact gx_iret X hr hlk hw hf dX11_sum_53
  have hf := gif_f hf qc5
  by_cases qc9 : (za1 : Int32) = 2
  · have hf := gif_t hf qc9
    refine lv_tableIn (off := 53) (tgt := 54) hx hb dX11_sum_1 (by rw [qc9]; decide) (by rw [qc9]; decide) (by rw [qc9]; rfl) (by decide) ?_
    refine lv_aload_n hx hb dX11_sum_54 rfl (lv_at hl 0 rfl) ?_
    obtain ⟨zt10, qzt10, hf⟩ := gb_el hf
    refine gx_getR X hw qzt10 clX11 (by decide) mf_X11_37 dX11_sum_55 ?_
    obtain ⟨zt11, qzt11, hf⟩ := gb_el hf
    refine gx_getR X hw qzt11 clX9 (by decide) mf_X11_112 dX11_sum_58 ?_
    obtain ⟨zt12, qzt12, hf⟩ := gb_el hf
    refine gx_getI X hw qzt12 clX1 (by decide) mf_X11_188 dX11_sum_61 ?_
    exact gx_iret X hr hlk hw hf dX11_sum_64
  have hf := gif_f hf qc9
  by_cases qc13 : (za1 : Int32) = 3
  · have hf := gif_t hf qc13
    refine lv_tableIn (off := 64) (tgt := 65) hx hb dX11_sum_1 (by rw [qc13]; decide) (by rw [qc13]; decide) (by rw [qc13]; rfl) (by decide) ?_
    refine lv_aload_n hx hb dX11_sum_65 rfl (lv_at hl 0 rfl) ?_
    obtain ⟨zt14, qzt14, hf⟩ := gb_el hf
    refine gx_getR X hw qzt14 clX11 (by decide) mf_X11_37 dX11_sum_66 ?_
    obtain ⟨zt15, qzt15, hf⟩ := gb_el hf
    refine gx_getR X hw qzt15 clX9 (by decide) mf_X11_112 dX11_sum_69 ?_
    obtain ⟨zt16, qzt16, hf⟩ := gb_el hf
    refine gx_getI X hw qzt16 clX1 (by decide) mf_X11_191 dX11_sum_72 ?_
    exact gx_iret X hr hlk hw hf dX11_sum_75
  have hf := gif_f hf qc13
  have nqc1 := lv_neT (a := 0) qc1 (by decide)
  have nqc5 := lv_neT (a := 1) qc5 (by decide)
  have nqc9 := lv_neT (a := 2) qc9 (by decide)
  have nqc13 := lv_neT (a := 3) qc13 (by decide)
  refine lv_tableOut (tgt := 76) hx hb dX11_sum_1 (by omega) (by decide) ?_
  refine lv_iconst (v := (-1)) hx hb dX11_sum_76 (by decide) ?_
  exact gx_iret X hr hlk hw hf dX11_sum_77
abbrev rm_X11_isAskedMinute : Room := { frames := 0, cells := 0, slots := 0, locals := 0 }
set_option maxHeartbeats 4000000 in
set_option maxRecDepth 100000 in
theorem c_X11_isAskedMinute (l : Launch) (E : gE) (N : Nat) (za0 : Int32) (zh : PH) {h9 : PH} {r9 : Int32} (hf : f_X11_isAskedMinute N za0 zh = some (r9, h9)) : Met l yX11_isAskedMinute (gWS yX11_isAskedMinute cX11_isAskedMinute 1 (some .boolean)) rm_X11_isAskedMinute (gPc E [.int za0] zh) (gQi E r9 h9) 0 0 (gA E) := by
  refine gx_met (by decide) ?_ rfl
  intro p e s m below meth c X hr hlk hin2 hw
  have hx := X.1.1
  have hb := X.1.2.1
  have hl := lv_entry [.int za0] (n := 1) (Nat.le_of_ble_eq_true rfl)
  rw [lg_entry_eq]
  generalize (lg_sl [.int za0] ++ List.replicate (1 - (lg_sl [.int za0]).length) Slot.unset).toArray = ls at hl ⊢
  have hl : lv_has ls 1 [(0, .int za0)] := hl
  have J_16 : ∀ (zs0 : Int32) (zh : PH) (H : Heap) (locs : List Loc) (ls : Array Slot), f_X11_isAskedMinute_16 N zs0 zh = some (r9, h9) → gw E s zh H locs → lv_has ls 1 [] → W p l e rm_X11_isAskedMinute s m [.int za0].toArray below meth c H locs 0 0 (MQ below (gQi E r9 h9) [.int za0].toArray s 0 0 (gA E)) (F0 m 16 ls [.int zs0]) := by
    intro zs0 zh H locs ls hf hw hl
    unfold f_X11_isAskedMinute_16 at hf
    exact gx_zret X hr hlk hw hf dX11_isAskedMinute_16
  have J_15 : ∀ (zh : PH) (H : Heap) (locs : List Loc) (ls : Array Slot), f_X11_isAskedMinute_15 N zh = some (r9, h9) → gw E s zh H locs → lv_has ls 1 [] → W p l e rm_X11_isAskedMinute s m [.int za0].toArray below meth c H locs 0 0 (MQ below (gQi E r9 h9) [.int za0].toArray s 0 0 (gA E)) (F0 m 15 ls []) := by
    intro zh H locs ls hf hw hl
    unfold f_X11_isAskedMinute_15 at hf
    refine lv_iconst (v := 0) hx hb dX11_isAskedMinute_15 (by decide) ?_
    exact J_16 0 _ _ _ ls hf hw (lv_sub hl [] rfl)
  unfold f_X11_isAskedMinute at hf
  refine lv_iload_n hx hb dX11_isAskedMinute_0 rfl (lv_at hl 0 rfl) ?_
  refine lv_if_lt (tgt := 15) hx hb dX11_isAskedMinute_1 (by decide) (fun qc1 => ?_) (fun qc1 => ?_)
  · have hf := gif_t hf qc1
    exact J_15  _ _ _ ls hf hw (lv_sub hl [] rfl)
  · have hf := gif_f hf qc1
    refine lv_iload_n hx hb dX11_isAskedMinute_4 rfl (lv_at hl 0 rfl) ?_
    refine lv_ldcw (v := 999999) hx hb X.1.2.2.2.1 (X.1.2.2.2.2 _ mk_X11_341) dX11_isAskedMinute_5 ?_
    refine lv_icmp_gt (tgt := 15) hx hb dX11_isAskedMinute_8 (by decide) (fun qc2 => ?_) (fun qc2 => ?_)
    · have hf := gif_t hf qc2
      exact J_15  _ _ _ ls hf hw (lv_sub hl [] rfl)
    · have hf := gif_f hf qc2
      refine lv_iconst (v := 1) hx hb dX11_isAskedMinute_11 (by decide) ?_
      refine lv_goto (tgt := 16) hx hb dX11_isAskedMinute_12 (by decide) ?_
      exact J_16 1 _ _ _ ls hf hw (lv_sub hl [] rfl)
abbrev rm_X11_where : Room := { frames := 3, cells := 0, slots := 0, locals := 65 }
set_option maxHeartbeats 4000000 in
set_option maxRecDepth 100000 in
theorem c_X11_where (l : Launch) (E : gE) (N : Nat) (za0 : Nat) (za1 : Int32) (za2 : Int32) (zh : PH) {h9 : PH} {r9 : Int32} (hf : f_X11_where N za0 za1 za2 zh = some (r9, h9)) : Met l yX11_where (gWS yX11_where cX11_where 3 (some .int)) rm_X11_where (gPc E [.ref (gB E + za0), .int za1, .int za2] zh) (gQi E r9 h9) 0 0 (gA E) := by
  refine gx_met (by decide) ?_ rfl
  intro p e s m below meth c X hr hlk hin2 hw
  have hx := X.1.1
  have hb := X.1.2.1
  have hl := lv_entry [.ref (gB E + za0), .int za1, .int za2] (n := 3) (Nat.le_of_ble_eq_true rfl)
  rw [lg_entry_eq]
  generalize (lg_sl [.ref (gB E + za0), .int za1, .int za2] ++ List.replicate (3 - (lg_sl [.ref (gB E + za0), .int za1, .int za2]).length) Slot.unset).toArray = ls at hl ⊢
  have hl : lv_has ls 3 [(0, .ref (gB E + za0)), (1, .int za1), (2, .int za2)] := hl
  have J_15 : ∀ (zh : PH) (H : Heap) (locs : List Loc) (ls : Array Slot), f_X11_where_15 N zh = some (r9, h9) → gw E s zh H locs → lv_has ls 3 [] → W p l e rm_X11_where s m [.ref (gB E + za0), .int za1, .int za2].toArray below meth c H locs 0 0 (MQ below (gQi E r9 h9) [.ref (gB E + za0), .int za1, .int za2].toArray s 0 0 (gA E)) (F0 m 15 ls []) := by
    intro zh H locs ls hf hw hl
    unfold f_X11_where_15 at hf
    refine lv_bipush (v := (-3)) hx hb dX11_where_15 (by decide) ?_
    exact gx_iret X hr hlk hw hf dX11_where_17
  unfold f_X11_where at hf
  refine lv_aload_n hx hb dX11_where_0 rfl (lv_at hl 0 rfl) ?_
  refine lv_iload_n hx hb dX11_where_1 rfl (lv_at hl 1 rfl) ?_
  obtain ⟨qizh1, hf⟩ := gg_el hf
  obtain ⟨zt2, zh1, qzh1, hf⟩ := gc_el hf
  refine gx_ki (gx_runV (As := [.int za1]) (rest := []) X hw (c_X11_isGuest l E N za0 za1 zh qzh1) kX11_isGuest mm_X11_118 qizh1 clX11 ⟨Nat.le_of_ble_eq_true rfl, Nat.le_of_ble_eq_true rfl⟩ rfl rfl rfl hl.1 (Nat.le_of_ble_eq_true rfl) rfl dX11_where_2 ⟨Nat.le_of_ble_eq_true rfl, Nat.le_of_ble_eq_true rfl⟩) hw (fun H locs hw => ?_)
  refine lv_if_eq (tgt := 15) hx hb dX11_where_5 (by decide) (fun qc3 => ?_) (fun qc3 => ?_)
  · have hf := gif_t hf qc3
    exact J_15  _ _ _ ls hf hw (lv_sub hl [] rfl)
  · have hf := gif_f hf qc3
    refine lv_iload_n hx hb dX11_where_8 rfl (lv_at hl 2 rfl) ?_
    obtain ⟨zt5, zh4, qzh4, hf⟩ := gc_el hf
    refine gx_ki (gx_runS (As := [.int za2]) (rest := []) X hw (c_X11_isAskedMinute l E N za2 zh1 qzh4) kX11_isAskedMinute mm_X11_194 ⟨Nat.le_of_ble_eq_true rfl, Nat.le_of_ble_eq_true rfl⟩ rfl rfl rfl hl.1 (Nat.le_of_ble_eq_true rfl) rfl dX11_where_9 ⟨Nat.le_of_ble_eq_true rfl, Nat.le_of_ble_eq_true rfl⟩) hw (fun H locs hw => ?_)
    refine lv_if_ne (tgt := 18) hx hb dX11_where_12 (by decide) (fun qc6 => ?_) (fun qc6 => ?_)
    · have hf := gif_f hf qc6
      refine lv_aload_n hx hb dX11_where_18 rfl (lv_at hl 0 rfl) ?_
      obtain ⟨zt7, qzt7, hf⟩ := gb_el hf
      refine gx_getR X hw qzt7 clX11 (by decide) mf_X11_37 dX11_where_19 ?_
      refine W.eq (g2 := F0 m 22 ls [.ref (gB E + zt7)]) rfl ?_
      obtain ⟨zt8, qzt8, hf⟩ := gb_el hf
      refine gx_getR X hw qzt8 clX9 (by decide) mf_X11_173 dX11_where_22 ?_
      refine lv_iload_n hx hb dX11_where_25 rfl (lv_at hl 1 rfl) ?_
      refine lv_iload_n hx hb dX11_where_26 rfl (lv_at hl 2 rfl) ?_
      obtain ⟨qizh9, hf⟩ := gg_el hf
      obtain ⟨zt10, zh9, qzh9, hf⟩ := gc_el hf
      refine gx_ki (gx_runV (As := [.int za1, .int za2]) (rest := []) X hw (c_X0_placeOf l E N zt8 za1 za2 zh4 qzh9) kX0_placeOf mm_X11_197 qizh9 clX0 ⟨Nat.le_of_ble_eq_true rfl, Nat.le_of_ble_eq_true rfl⟩ rfl rfl rfl hl.1 (Nat.le_of_ble_eq_true rfl) rfl dX11_where_27 ⟨Nat.le_of_ble_eq_true rfl, Nat.le_of_ble_eq_true rfl⟩) hw (fun H locs hw => ?_)
      exact gx_iret X hr hlk hw hf dX11_where_30
    · have hf := gif_t hf qc6
      exact J_15  _ _ _ ls hf hw (lv_sub hl [] rfl)
abbrev rm_X11_who : Room := { frames := 3, cells := 0, slots := 0, locals := 65 }
set_option maxHeartbeats 4000000 in
set_option maxRecDepth 100000 in
theorem c_X11_who (l : Launch) (E : gE) (N : Nat) (za0 : Nat) (za1 : Int32) (za2 : Int32) (zh : PH) {h9 : PH} {r9 : Int32} (hf : f_X11_who N za0 za1 za2 zh = some (r9, h9)) : Met l yX11_who (gWS yX11_who cX11_who 3 (some .int)) rm_X11_who (gPc E [.ref (gB E + za0), .int za1, .int za2] zh) (gQi E r9 h9) 0 0 (gA E) := by
  refine gx_met (by decide) ?_ rfl
  intro p e s m below meth c X hr hlk hin2 hw
  have hx := X.1.1
  have hb := X.1.2.1
  have hl := lv_entry [.ref (gB E + za0), .int za1, .int za2] (n := 3) (Nat.le_of_ble_eq_true rfl)
  rw [lg_entry_eq]
  generalize (lg_sl [.ref (gB E + za0), .int za1, .int za2] ++ List.replicate (3 - (lg_sl [.ref (gB E + za0), .int za1, .int za2]).length) Slot.unset).toArray = ls at hl ⊢
  have hl : lv_has ls 3 [(0, .ref (gB E + za0)), (1, .int za1), (2, .int za2)] := hl
  have J_15 : ∀ (zh : PH) (H : Heap) (locs : List Loc) (ls : Array Slot), f_X11_who_15 N zh = some (r9, h9) → gw E s zh H locs → lv_has ls 3 [] → W p l e rm_X11_who s m [.ref (gB E + za0), .int za1, .int za2].toArray below meth c H locs 0 0 (MQ below (gQi E r9 h9) [.ref (gB E + za0), .int za1, .int za2].toArray s 0 0 (gA E)) (F0 m 15 ls []) := by
    intro zh H locs ls hf hw hl
    unfold f_X11_who_15 at hf
    refine lv_iconst (v := (-1)) hx hb dX11_who_15 (by decide) ?_
    exact gx_iret X hr hlk hw hf dX11_who_16
  unfold f_X11_who at hf
  refine lv_aload_n hx hb dX11_who_0 rfl (lv_at hl 0 rfl) ?_
  refine lv_iload_n hx hb dX11_who_1 rfl (lv_at hl 1 rfl) ?_
  obtain ⟨qizh1, hf⟩ := gg_el hf
  obtain ⟨zt2, zh1, qzh1, hf⟩ := gc_el hf
  refine gx_ki (gx_runV (As := [.int za1]) (rest := []) X hw (c_X11_isRoom l E N za0 za1 zh qzh1) kX11_isRoom mm_X11_102 qizh1 clX11 ⟨Nat.le_of_ble_eq_true rfl, Nat.le_of_ble_eq_true rfl⟩ rfl rfl rfl hl.1 (Nat.le_of_ble_eq_true rfl) rfl dX11_who_2 ⟨Nat.le_of_ble_eq_true rfl, Nat.le_of_ble_eq_true rfl⟩) hw (fun H locs hw => ?_)
  refine lv_if_eq (tgt := 15) hx hb dX11_who_5 (by decide) (fun qc3 => ?_) (fun qc3 => ?_)
  · have hf := gif_t hf qc3
    exact J_15  _ _ _ ls hf hw (lv_sub hl [] rfl)
  · have hf := gif_f hf qc3
    refine lv_iload_n hx hb dX11_who_8 rfl (lv_at hl 2 rfl) ?_
    obtain ⟨zt5, zh4, qzh4, hf⟩ := gc_el hf
    refine gx_ki (gx_runS (As := [.int za2]) (rest := []) X hw (c_X11_isAskedMinute l E N za2 zh1 qzh4) kX11_isAskedMinute mm_X11_194 ⟨Nat.le_of_ble_eq_true rfl, Nat.le_of_ble_eq_true rfl⟩ rfl rfl rfl hl.1 (Nat.le_of_ble_eq_true rfl) rfl dX11_who_9 ⟨Nat.le_of_ble_eq_true rfl, Nat.le_of_ble_eq_true rfl⟩) hw (fun H locs hw => ?_)
    refine lv_if_ne (tgt := 17) hx hb dX11_who_12 (by decide) (fun qc6 => ?_) (fun qc6 => ?_)
    · have hf := gif_f hf qc6
      refine lv_aload_n hx hb dX11_who_17 rfl (lv_at hl 0 rfl) ?_
      obtain ⟨zt7, qzt7, hf⟩ := gb_el hf
      refine gx_getR X hw qzt7 clX11 (by decide) mf_X11_37 dX11_who_18 ?_
      refine W.eq (g2 := F0 m 21 ls [.ref (gB E + zt7)]) rfl ?_
      obtain ⟨zt8, qzt8, hf⟩ := gb_el hf
      refine gx_getR X hw qzt8 clX9 (by decide) mf_X11_173 dX11_who_21 ?_
      refine lv_iload_n hx hb dX11_who_24 rfl (lv_at hl 1 rfl) ?_
      refine lv_iload_n hx hb dX11_who_25 rfl (lv_at hl 2 rfl) ?_
      obtain ⟨qizh9, hf⟩ := gg_el hf
      obtain ⟨zt10, zh9, qzh9, hf⟩ := gc_el hf
      refine gx_ki (gx_runV (As := [.int za1, .int za2]) (rest := []) X hw (c_X0_occupantOf l E N zt8 za1 za2 zh4 qzh9) kX0_occupantOf mm_X11_200 qizh9 clX0 ⟨Nat.le_of_ble_eq_true rfl, Nat.le_of_ble_eq_true rfl⟩ rfl rfl rfl hl.1 (Nat.le_of_ble_eq_true rfl) rfl dX11_who_26 ⟨Nat.le_of_ble_eq_true rfl, Nat.le_of_ble_eq_true rfl⟩) hw (fun H locs hw => ?_)
      exact gx_iret X hr hlk hw hf dX11_who_29
    · have hf := gif_t hf qc6
      exact J_15  _ _ _ ls hf hw (lv_sub hl [] rfl)
abbrev rm_X11_letter : Room := { frames := 3, cells := 0, slots := 0, locals := 65 }
set_option maxHeartbeats 4000000 in
set_option maxRecDepth 100000 in
theorem c_X11_letter (l : Launch) (E : gE) (N : Nat) (za0 : Nat) (za1 : Int32) (za2 : Int32) (za3 : Int32) (zh : PH) {h9 : PH} {r9 : Int32} (hf : f_X11_letter N za0 za1 za2 za3 zh = some (r9, h9)) : Met l yX11_letter (gWS yX11_letter cX11_letter 5 (some .int)) rm_X11_letter (gPc E [.ref (gB E + za0), .int za1, .int za2, .int za3] zh) (gQi E r9 h9) 0 0 (gA E) := by
  refine gx_met (by decide) ?_ rfl
  intro p e s m below meth c X hr hlk hin2 hw
  have hx := X.1.1
  have hb := X.1.2.1
  have hl := lv_entry [.ref (gB E + za0), .int za1, .int za2, .int za3] (n := 5) (Nat.le_of_ble_eq_true rfl)
  rw [lg_entry_eq]
  generalize (lg_sl [.ref (gB E + za0), .int za1, .int za2, .int za3] ++ List.replicate (5 - (lg_sl [.ref (gB E + za0), .int za1, .int za2, .int za3]).length) Slot.unset).toArray = ls at hl ⊢
  have hl : lv_has ls 5 [(0, .ref (gB E + za0)), (1, .int za1), (2, .int za2), (3, .int za3)] := hl
  have J_69 : ∀ (zs0 : Int32) (zh : PH) (H : Heap) (locs : List Loc) (ls : Array Slot), f_X11_letter_69 N zs0 zh = some (r9, h9) → gw E s zh H locs → lv_has ls 5 [] → W p l e rm_X11_letter s m [.ref (gB E + za0), .int za1, .int za2, .int za3].toArray below meth c H locs 0 0 (MQ below (gQi E r9 h9) [.ref (gB E + za0), .int za1, .int za2, .int za3].toArray s 0 0 (gA E)) (F0 m 69 ls [.int zs0]) := by
    intro zs0 zh H locs ls hf hw hl
    unfold f_X11_letter_69 at hf
    exact gx_iret X hr hlk hw hf dX11_letter_69
  have J_27 : ∀ (zh : PH) (H : Heap) (locs : List Loc) (ls : Array Slot), f_X11_letter_27 N zh = some (r9, h9) → gw E s zh H locs → lv_has ls 5 [] → W p l e rm_X11_letter s m [.ref (gB E + za0), .int za1, .int za2, .int za3].toArray below meth c H locs 0 0 (MQ below (gQi E r9 h9) [.ref (gB E + za0), .int za1, .int za2, .int za3].toArray s 0 0 (gA E)) (F0 m 27 ls []) := by
    intro zh H locs ls hf hw hl
    unfold f_X11_letter_27 at hf
    refine lv_iconst (v := (-1)) hx hb dX11_letter_27 (by decide) ?_
    exact gx_iret X hr hlk hw hf dX11_letter_28
  unfold f_X11_letter at hf
  refine lv_aload_n hx hb dX11_letter_0 rfl (lv_at hl 0 rfl) ?_
  refine lv_iload_n hx hb dX11_letter_1 rfl (lv_at hl 1 rfl) ?_
  obtain ⟨qizh1, hf⟩ := gg_el hf
  obtain ⟨zt2, zh1, qzh1, hf⟩ := gc_el hf
  refine gx_ki (gx_runV (As := [.int za1]) (rest := []) X hw (c_X11_isGuest l E N za0 za1 zh qzh1) kX11_isGuest mm_X11_118 qizh1 clX11 ⟨Nat.le_of_ble_eq_true rfl, Nat.le_of_ble_eq_true rfl⟩ rfl rfl rfl hl.1 (Nat.le_of_ble_eq_true rfl) rfl dX11_letter_2 ⟨Nat.le_of_ble_eq_true rfl, Nat.le_of_ble_eq_true rfl⟩) hw (fun H locs hw => ?_)
  refine lv_if_eq (tgt := 27) hx hb dX11_letter_5 (by decide) (fun qc3 => ?_) (fun qc3 => ?_)
  · have hf := gif_t hf qc3
    exact J_27  _ _ _ ls hf hw (lv_sub hl [] rfl)
  · have hf := gif_f hf qc3
    refine lv_iload_n hx hb dX11_letter_8 rfl (lv_at hl 2 rfl) ?_
    obtain ⟨zt5, zh4, qzh4, hf⟩ := gc_el hf
    refine gx_ki (gx_runS (As := [.int za2]) (rest := []) X hw (c_X11_isAskedMinute l E N za2 zh1 qzh4) kX11_isAskedMinute mm_X11_194 ⟨Nat.le_of_ble_eq_true rfl, Nat.le_of_ble_eq_true rfl⟩ rfl rfl rfl hl.1 (Nat.le_of_ble_eq_true rfl) rfl dX11_letter_9 ⟨Nat.le_of_ble_eq_true rfl, Nat.le_of_ble_eq_true rfl⟩) hw (fun H locs hw => ?_)
    refine lv_if_eq (tgt := 27) hx hb dX11_letter_12 (by decide) (fun qc6 => ?_) (fun qc6 => ?_)
    · have hf := gif_t hf qc6
      exact J_27  _ _ _ ls hf hw (lv_sub hl [] rfl)
    · have hf := gif_f hf qc6
      refine lv_iload_n hx hb dX11_letter_15 rfl (lv_at hl 3 rfl) ?_
      obtain ⟨zt8, zh7, qzh7, hf⟩ := gc_el hf
      refine gx_ki (gx_runS (As := [.int za3]) (rest := []) X hw (c_X11_isAskedMinute l E N za3 zh4 qzh7) kX11_isAskedMinute mm_X11_194 ⟨Nat.le_of_ble_eq_true rfl, Nat.le_of_ble_eq_true rfl⟩ rfl rfl rfl hl.1 (Nat.le_of_ble_eq_true rfl) rfl dX11_letter_16 ⟨Nat.le_of_ble_eq_true rfl, Nat.le_of_ble_eq_true rfl⟩) hw (fun H locs hw => ?_)
      refine W.eq (g2 := F0 m 19 ls [.int zt8]) rfl ?_
      refine lv_if_eq (tgt := 27) hx hb dX11_letter_19 (by decide) (fun qc9 => ?_) (fun qc9 => ?_)
      · have hf := gif_t hf qc9
        exact J_27  _ _ _ ls hf hw (lv_sub hl [] rfl)
      · have hf := gif_f hf qc9
        refine lv_iload_n hx hb dX11_letter_22 rfl (lv_at hl 3 rfl) ?_
        refine lv_iload_n hx hb dX11_letter_23 rfl (lv_at hl 2 rfl) ?_
        refine lv_icmp_ge (tgt := 29) hx hb dX11_letter_24 (by decide) (fun qc10 => ?_) (fun qc10 => ?_)
        · have hf := gif_t hf qc10
          refine lv_aload_n hx hb dX11_letter_29 rfl (lv_at hl 0 rfl) ?_
          obtain ⟨zt11, qzt11, hf⟩ := gb_el hf
          refine gx_getR X hw qzt11 clX11 (by decide) mf_X11_37 dX11_letter_30 ?_
          obtain ⟨zt12, qzt12, hf⟩ := gb_el hf
          refine gx_getR X hw qzt12 clX9 (by decide) mf_X11_173 dX11_letter_33 ?_
          refine lv_iload_n hx hb dX11_letter_36 rfl (lv_at hl 1 rfl) ?_
          refine lv_iload_n hx hb dX11_letter_37 rfl (lv_at hl 2 rfl) ?_
          obtain ⟨qizh13, hf⟩ := gg_el hf
          obtain ⟨zt14, zh13, qzh13, hf⟩ := gc_el hf
          refine gx_ki (gx_runV (As := [.int za1, .int za2]) (rest := []) X hw (c_X0_placeOf l E N zt12 za1 za2 zh7 qzh13) kX0_placeOf mm_X11_197 qizh13 clX0 ⟨Nat.le_of_ble_eq_true rfl, Nat.le_of_ble_eq_true rfl⟩ rfl rfl rfl hl.1 (Nat.le_of_ble_eq_true rfl) rfl dX11_letter_38 ⟨Nat.le_of_ble_eq_true rfl, Nat.le_of_ble_eq_true rfl⟩) hw (fun H locs hw => ?_)
          refine W.eq (g2 := F0 m 41 ls [.int zt14]) rfl ?_
          refine lv_istore (lv' := [(4, .int zt14), (0, .ref (gB E + za0)), (1, .int za1), (2, .int za2), (3, .int za3)]) hx hb dX11_letter_41 hl (by decide) rfl (fun ls hl => ?_)
          refine lv_aload_n hx hb dX11_letter_43 rfl (lv_at hl 1 rfl) ?_
          refine lv_iload hx hb dX11_letter_44 (lv_at hl 0 rfl) ?_
          obtain ⟨qizh15, hf⟩ := gg_el hf
          obtain ⟨zt16, zh15, qzh15, hf⟩ := gc_el hf
          refine gx_ki (gx_runV (As := [.int zt14]) (rest := []) X hw (c_X11_isRoom l E N za0 zt14 zh13 qzh15) kX11_isRoom mm_X11_102 qizh15 clX11 ⟨Nat.le_of_ble_eq_true rfl, Nat.le_of_ble_eq_true rfl⟩ rfl rfl rfl hl.1 (Nat.le_of_ble_eq_true rfl) rfl dX11_letter_46 ⟨Nat.le_of_ble_eq_true rfl, Nat.le_of_ble_eq_true rfl⟩) hw (fun H locs hw => ?_)
          refine lv_if_eq (tgt := 68) hx hb dX11_letter_49 (by decide) (fun qc17 => ?_) (fun qc17 => ?_)
          · have hf := gif_t hf qc17
            refine lv_iconst (v := (-1)) hx hb dX11_letter_68 (by decide) ?_
            exact J_69 (-1) _ _ _ ls hf hw (lv_sub hl [] rfl)
          · have hf := gif_f hf qc17
            refine lv_aload_n hx hb dX11_letter_52 rfl (lv_at hl 1 rfl) ?_
            obtain ⟨zt18, qzt18, hf⟩ := gb_el hf
            refine gx_getR X hw qzt18 clX11 (by decide) mf_X11_37 dX11_letter_53 ?_
            obtain ⟨zt19, qzt19, hf⟩ := gb_el hf
            refine gx_getR X hw qzt19 clX9 (by decide) mf_X11_173 dX11_letter_56 ?_
            refine lv_iload hx hb dX11_letter_59 (lv_at hl 0 rfl) ?_
            refine lv_iload_n hx hb dX11_letter_61 rfl (lv_at hl 4 rfl) ?_
            refine W.eq (g2 := F0 m 62 ls [.int za3, .int zt14, .ref (gB E + zt19)]) rfl ?_
            obtain ⟨qizh20, hf⟩ := gg_el hf
            obtain ⟨zt21, zh20, qzh20, hf⟩ := gc_el hf
            refine gx_ki (gx_runV (As := [.int zt14, .int za3]) (rest := []) X hw (c_X0_occupantOf l E N zt19 zt14 za3 zh15 qzh20) kX0_occupantOf mm_X11_200 qizh20 clX0 ⟨Nat.le_of_ble_eq_true rfl, Nat.le_of_ble_eq_true rfl⟩ rfl rfl rfl hl.1 (Nat.le_of_ble_eq_true rfl) rfl dX11_letter_62 ⟨Nat.le_of_ble_eq_true rfl, Nat.le_of_ble_eq_true rfl⟩) hw (fun H locs hw => ?_)
            refine lv_goto (tgt := 69) hx hb dX11_letter_65 (by decide) ?_
            exact J_69 zt21 _ _ _ ls hf hw (lv_sub hl [] rfl)
        · have hf := gif_f hf qc10
          exact J_27  _ _ _ ls hf hw (lv_sub hl [] rfl)
abbrev rm_X11_trunk : Room := { frames := 3, cells := 0, slots := 0, locals := 69 }
set_option maxHeartbeats 4000000 in
set_option maxRecDepth 100000 in
theorem c_X11_trunk (l : Launch) (E : gE) (N : Nat) (za0 : Nat) (za1 : Int32) (za2 : Int32) (za3 : Int32) (zh : PH) {h9 : PH} {r9 : Int32} (hf : f_X11_trunk N za0 za1 za2 za3 zh = some (r9, h9)) : Met l yX11_trunk (gWS yX11_trunk cX11_trunk 4 (some .int)) rm_X11_trunk (gPc E [.ref (gB E + za0), .int za1, .int za2, .int za3] zh) (gQi E r9 h9) 0 0 (gA E) := by
  refine gx_met (by decide) ?_ rfl
  intro p e s m below meth c X hr hlk hin2 hw
  have hx := X.1.1
  have hb := X.1.2.1
  have hl := lv_entry [.ref (gB E + za0), .int za1, .int za2, .int za3] (n := 4) (Nat.le_of_ble_eq_true rfl)
  rw [lg_entry_eq]
  generalize (lg_sl [.ref (gB E + za0), .int za1, .int za2, .int za3] ++ List.replicate (4 - (lg_sl [.ref (gB E + za0), .int za1, .int za2, .int za3]).length) Slot.unset).toArray = ls at hl ⊢
  have hl : lv_has ls 4 [(0, .ref (gB E + za0)), (1, .int za1), (2, .int za2), (3, .int za3)] := hl
  have J_27 : ∀ (zh : PH) (H : Heap) (locs : List Loc) (ls : Array Slot), f_X11_trunk_27 N zh = some (r9, h9) → gw E s zh H locs → lv_has ls 4 [] → W p l e rm_X11_trunk s m [.ref (gB E + za0), .int za1, .int za2, .int za3].toArray below meth c H locs 0 0 (MQ below (gQi E r9 h9) [.ref (gB E + za0), .int za1, .int za2, .int za3].toArray s 0 0 (gA E)) (F0 m 27 ls []) := by
    intro zh H locs ls hf hw hl
    unfold f_X11_trunk_27 at hf
    refine lv_iconst (v := (-1)) hx hb dX11_trunk_27 (by decide) ?_
    exact gx_iret X hr hlk hw hf dX11_trunk_28
  unfold f_X11_trunk at hf
  refine lv_aload_n hx hb dX11_trunk_0 rfl (lv_at hl 0 rfl) ?_
  refine lv_iload_n hx hb dX11_trunk_1 rfl (lv_at hl 1 rfl) ?_
  obtain ⟨qizh1, hf⟩ := gg_el hf
  obtain ⟨zt2, zh1, qzh1, hf⟩ := gc_el hf
  refine gx_ki (gx_runV (As := [.int za1]) (rest := []) X hw (c_X11_isRoom l E N za0 za1 zh qzh1) kX11_isRoom mm_X11_102 qizh1 clX11 ⟨Nat.le_of_ble_eq_true rfl, Nat.le_of_ble_eq_true rfl⟩ rfl rfl rfl hl.1 (Nat.le_of_ble_eq_true rfl) rfl dX11_trunk_2 ⟨Nat.le_of_ble_eq_true rfl, Nat.le_of_ble_eq_true rfl⟩) hw (fun H locs hw => ?_)
  refine lv_if_eq (tgt := 27) hx hb dX11_trunk_5 (by decide) (fun qc3 => ?_) (fun qc3 => ?_)
  · have hf := gif_t hf qc3
    exact J_27  _ _ _ ls hf hw (lv_sub hl [] rfl)
  · have hf := gif_f hf qc3
    refine lv_iload_n hx hb dX11_trunk_8 rfl (lv_at hl 2 rfl) ?_
    obtain ⟨zt5, zh4, qzh4, hf⟩ := gc_el hf
    refine gx_ki (gx_runS (As := [.int za2]) (rest := []) X hw (c_X11_isAskedMinute l E N za2 zh1 qzh4) kX11_isAskedMinute mm_X11_194 ⟨Nat.le_of_ble_eq_true rfl, Nat.le_of_ble_eq_true rfl⟩ rfl rfl rfl hl.1 (Nat.le_of_ble_eq_true rfl) rfl dX11_trunk_9 ⟨Nat.le_of_ble_eq_true rfl, Nat.le_of_ble_eq_true rfl⟩) hw (fun H locs hw => ?_)
    refine lv_if_eq (tgt := 27) hx hb dX11_trunk_12 (by decide) (fun qc6 => ?_) (fun qc6 => ?_)
    · have hf := gif_t hf qc6
      exact J_27  _ _ _ ls hf hw (lv_sub hl [] rfl)
    · have hf := gif_f hf qc6
      refine lv_iload_n hx hb dX11_trunk_15 rfl (lv_at hl 3 rfl) ?_
      obtain ⟨zt8, zh7, qzh7, hf⟩ := gc_el hf
      refine gx_ki (gx_runS (As := [.int za3]) (rest := []) X hw (c_X11_isAskedMinute l E N za3 zh4 qzh7) kX11_isAskedMinute mm_X11_194 ⟨Nat.le_of_ble_eq_true rfl, Nat.le_of_ble_eq_true rfl⟩ rfl rfl rfl hl.1 (Nat.le_of_ble_eq_true rfl) rfl dX11_trunk_16 ⟨Nat.le_of_ble_eq_true rfl, Nat.le_of_ble_eq_true rfl⟩) hw (fun H locs hw => ?_)
      refine W.eq (g2 := F0 m 19 ls [.int zt8]) rfl ?_
      refine lv_if_eq (tgt := 27) hx hb dX11_trunk_19 (by decide) (fun qc9 => ?_) (fun qc9 => ?_)
      · have hf := gif_t hf qc9
        exact J_27  _ _ _ ls hf hw (lv_sub hl [] rfl)
      · have hf := gif_f hf qc9
        refine lv_iload_n hx hb dX11_trunk_22 rfl (lv_at hl 3 rfl) ?_
        refine lv_iload_n hx hb dX11_trunk_23 rfl (lv_at hl 2 rfl) ?_
        refine lv_icmp_ge (tgt := 29) hx hb dX11_trunk_24 (by decide) (fun qc10 => ?_) (fun qc10 => ?_)
        · have hf := gif_t hf qc10
          refine lv_aload_n hx hb dX11_trunk_29 rfl (lv_at hl 0 rfl) ?_
          obtain ⟨zt11, qzt11, hf⟩ := gb_el hf
          refine gx_getR X hw qzt11 clX11 (by decide) mf_X11_37 dX11_trunk_30 ?_
          obtain ⟨zt12, qzt12, hf⟩ := gb_el hf
          refine gx_getR X hw qzt12 clX9 (by decide) mf_X11_173 dX11_trunk_33 ?_
          refine lv_iload_n hx hb dX11_trunk_36 rfl (lv_at hl 1 rfl) ?_
          refine lv_iload_n hx hb dX11_trunk_37 rfl (lv_at hl 2 rfl) ?_
          refine lv_iload_n hx hb dX11_trunk_38 rfl (lv_at hl 3 rfl) ?_
          refine W.eq (g2 := F0 m 39 ls [.int za3, .int za2, .int za1, .ref (gB E + zt12)]) rfl ?_
          obtain ⟨qizh13, hf⟩ := gg_el hf
          obtain ⟨zt14, zh13, qzh13, hf⟩ := gc_el hf
          refine gx_ki (gx_runV (As := [.int za1, .int za2, .int za3]) (rest := []) X hw (c_X0_occupantsWithin l E N zt12 za1 za2 za3 zh7 qzh13) kX0_occupantsWithin mm_X11_203 qizh13 clX0 ⟨Nat.le_of_ble_eq_true rfl, Nat.le_of_ble_eq_true rfl⟩ rfl rfl rfl hl.1 (Nat.le_of_ble_eq_true rfl) rfl dX11_trunk_39 ⟨Nat.le_of_ble_eq_true rfl, Nat.le_of_ble_eq_true rfl⟩) hw (fun H locs hw => ?_)
          exact gx_iret X hr hlk hw hf dX11_trunk_42
        · have hf := gif_f hf qc10
          exact J_27  _ _ _ ls hf hw (lv_sub hl [] rfl)
abbrev rm_X11_sight : Room := { frames := 1, cells := 0, slots := 0, locals := 24 }
set_option maxHeartbeats 4000000 in
set_option maxRecDepth 100000 in
theorem c_X11_sight (l : Launch) (E : gE) (N : Nat) (za0 : Nat) (za1 : Int32) (za2 : Int32) (za3 : Int32) (zh : PH) {h9 : PH} {r9 : Int32} (hf : f_X11_sight N za0 za1 za2 za3 zh = some (r9, h9)) : Met l yX11_sight (gWS yX11_sight cX11_sight 4 (some .int)) rm_X11_sight (gPc E [.ref (gB E + za0), .int za1, .int za2, .int za3] zh) (gQi E r9 h9) 0 0 (gA E) := by
  refine gx_met (by decide) ?_ rfl
  intro p e s m below meth c X hr hlk hin2 hw
  have hx := X.1.1
  have hb := X.1.2.1
  have hl := lv_entry [.ref (gB E + za0), .int za1, .int za2, .int za3] (n := 4) (Nat.le_of_ble_eq_true rfl)
  rw [lg_entry_eq]
  generalize (lg_sl [.ref (gB E + za0), .int za1, .int za2, .int za3] ++ List.replicate (4 - (lg_sl [.ref (gB E + za0), .int za1, .int za2, .int za3]).length) Slot.unset).toArray = ls at hl ⊢
  have hl : lv_has ls 4 [(0, .ref (gB E + za0)), (1, .int za1), (2, .int za2), (3, .int za3)] := hl
  have J_55 : ∀ (zs0 : Int32) (zh : PH) (H : Heap) (locs : List Loc) (ls : Array Slot), f_X11_sight_55 N zs0 zh = some (r9, h9) → gw E s zh H locs → lv_has ls 4 [] → W p l e rm_X11_sight s m [.ref (gB E + za0), .int za1, .int za2, .int za3].toArray below meth c H locs 0 0 (MQ below (gQi E r9 h9) [.ref (gB E + za0), .int za1, .int za2, .int za3].toArray s 0 0 (gA E)) (F0 m 55 ls [.int zs0]) := by
    intro zs0 zh H locs ls hf hw hl
    unfold f_X11_sight_55 at hf
    exact gx_iret X hr hlk hw hf dX11_sight_55
  have J_23 : ∀ (zh : PH) (H : Heap) (locs : List Loc) (ls : Array Slot), f_X11_sight_23 N zh = some (r9, h9) → gw E s zh H locs → lv_has ls 4 [] → W p l e rm_X11_sight s m [.ref (gB E + za0), .int za1, .int za2, .int za3].toArray below meth c H locs 0 0 (MQ below (gQi E r9 h9) [.ref (gB E + za0), .int za1, .int za2, .int za3].toArray s 0 0 (gA E)) (F0 m 23 ls []) := by
    intro zh H locs ls hf hw hl
    unfold f_X11_sight_23 at hf
    refine lv_iconst (v := (-1)) hx hb dX11_sight_23 (by decide) ?_
    exact gx_iret X hr hlk hw hf dX11_sight_24
  unfold f_X11_sight at hf
  refine lv_aload_n hx hb dX11_sight_0 rfl (lv_at hl 0 rfl) ?_
  refine lv_iload_n hx hb dX11_sight_1 rfl (lv_at hl 1 rfl) ?_
  obtain ⟨qizh1, hf⟩ := gg_el hf
  obtain ⟨zt2, zh1, qzh1, hf⟩ := gc_el hf
  refine gx_ki (gx_runV (As := [.int za1]) (rest := []) X hw (c_X11_isGuest l E N za0 za1 zh qzh1) kX11_isGuest mm_X11_118 qizh1 clX11 ⟨Nat.le_of_ble_eq_true rfl, Nat.le_of_ble_eq_true rfl⟩ rfl rfl rfl hl.1 (Nat.le_of_ble_eq_true rfl) rfl dX11_sight_2 ⟨Nat.le_of_ble_eq_true rfl, Nat.le_of_ble_eq_true rfl⟩) hw (fun H locs hw => ?_)
  refine lv_if_eq (tgt := 23) hx hb dX11_sight_5 (by decide) (fun qc3 => ?_) (fun qc3 => ?_)
  · have hf := gif_t hf qc3
    exact J_23  _ _ _ ls hf hw (lv_sub hl [] rfl)
  · have hf := gif_f hf qc3
    refine lv_aload_n hx hb dX11_sight_8 rfl (lv_at hl 0 rfl) ?_
    refine lv_iload_n hx hb dX11_sight_9 rfl (lv_at hl 2 rfl) ?_
    obtain ⟨qizh4, hf⟩ := gg_el hf
    obtain ⟨zt5, zh4, qzh4, hf⟩ := gc_el hf
    refine gx_ki (gx_runV (As := [.int za2]) (rest := []) X hw (c_X11_isRoom l E N za0 za2 zh1 qzh4) kX11_isRoom mm_X11_102 qizh4 clX11 ⟨Nat.le_of_ble_eq_true rfl, Nat.le_of_ble_eq_true rfl⟩ rfl rfl rfl hl.1 (Nat.le_of_ble_eq_true rfl) rfl dX11_sight_10 ⟨Nat.le_of_ble_eq_true rfl, Nat.le_of_ble_eq_true rfl⟩) hw (fun H locs hw => ?_)
    refine lv_if_eq (tgt := 23) hx hb dX11_sight_13 (by decide) (fun qc6 => ?_) (fun qc6 => ?_)
    · have hf := gif_t hf qc6
      exact J_23  _ _ _ ls hf hw (lv_sub hl [] rfl)
    · have hf := gif_f hf qc6
      refine lv_iload_n hx hb dX11_sight_16 rfl (lv_at hl 3 rfl) ?_
      refine W.eq (g2 := F0 m 17 ls [.int za3]) rfl ?_
      obtain ⟨zt8, zh7, qzh7, hf⟩ := gc_el hf
      refine gx_ki (gx_runS (As := [.int za3]) (rest := []) X hw (c_X11_isToldMinute l E N za3 zh4 qzh7) kX11_isToldMinute mm_X11_207 ⟨Nat.le_of_ble_eq_true rfl, Nat.le_of_ble_eq_true rfl⟩ rfl rfl rfl hl.1 (Nat.le_of_ble_eq_true rfl) rfl dX11_sight_17 ⟨Nat.le_of_ble_eq_true rfl, Nat.le_of_ble_eq_true rfl⟩) hw (fun H locs hw => ?_)
      refine lv_if_ne (tgt := 25) hx hb dX11_sight_20 (by decide) (fun qc9 => ?_) (fun qc9 => ?_)
      · have hf := gif_f hf qc9
        refine lv_aload_n hx hb dX11_sight_25 rfl (lv_at hl 0 rfl) ?_
        obtain ⟨zt10, qzt10, hf⟩ := gb_el hf
        refine gx_getR X hw qzt10 clX11 (by decide) mf_X11_37 dX11_sight_26 ?_
        obtain ⟨zt11, qzt11, hf⟩ := gb_el hf
        refine gx_getR X hw qzt11 clX9 (by decide) mf_X11_210 dX11_sight_29 ?_
        refine lv_iload_n hx hb dX11_sight_32 rfl (lv_at hl 1 rfl) ?_
        refine lv_iload_n hx hb dX11_sight_33 rfl (lv_at hl 2 rfl) ?_
        refine lv_iload_n hx hb dX11_sight_34 rfl (lv_at hl 3 rfl) ?_
        obtain ⟨qizh12, hf⟩ := gg_el hf
        obtain ⟨zt13, zh12, qzh12, hf⟩ := gc_el hf
        refine gx_ki (gx_runV (As := [.int za1, .int za2, .int za3]) (rest := []) X hw (c_X8_add l E N zt11 za1 za2 za3 zh7 qzh12) kX8_add mm_X11_214 qizh12 clX8 ⟨Nat.le_of_ble_eq_true rfl, Nat.le_of_ble_eq_true rfl⟩ rfl rfl rfl hl.1 (Nat.le_of_ble_eq_true rfl) rfl dX11_sight_35 ⟨Nat.le_of_ble_eq_true rfl, Nat.le_of_ble_eq_true rfl⟩) hw (fun H locs hw => ?_)
        refine lv_if_eq (tgt := 54) hx hb dX11_sight_38 (by decide) (fun qc14 => ?_) (fun qc14 => ?_)
        · have hf := gif_t hf qc14
          refine W.eq (g2 := F0 m 54 ls []) rfl ?_
          refine lv_iconst (v := (-1)) hx hb dX11_sight_54 (by decide) ?_
          exact J_55 (-1) _ _ _ ls hf hw (lv_sub hl [] rfl)
        · have hf := gif_f hf qc14
          refine W.eq (g2 := F0 m 41 ls []) rfl ?_
          refine lv_aload_n hx hb dX11_sight_41 rfl (lv_at hl 0 rfl) ?_
          obtain ⟨zt15, qzt15, hf⟩ := gb_el hf
          refine gx_getR X hw qzt15 clX11 (by decide) mf_X11_37 dX11_sight_42 ?_
          obtain ⟨zt16, qzt16, hf⟩ := gb_el hf
          refine gx_getR X hw qzt16 clX9 (by decide) mf_X11_210 dX11_sight_45 ?_
          obtain ⟨zt17, qzt17, hf⟩ := gb_el hf
          refine gx_getI X hw qzt17 clX8 (by decide) mf_X11_220 dX11_sight_48 ?_
          refine lv_goto (tgt := 55) hx hb dX11_sight_51 (by decide) ?_
          exact J_55 zt17 _ _ _ ls hf hw (lv_sub hl [] rfl)
      · have hf := gif_t hf qc9
        exact J_23  _ _ _ ls hf hw (lv_sub hl [] rfl)
abbrev rm_X11_could : Room := { frames := 5, cells := 0, slots := 0, locals := 114 }
set_option maxHeartbeats 4000000 in
set_option maxRecDepth 100000 in
theorem c_X11_could (l : Launch) (E : gE) (N : Nat) (za0 : Nat) (za1 : Int32) (za2 : Int32) (zh : PH) {h9 : PH} {r9 : Int32} (hf : f_X11_could N za0 za1 za2 zh = some (r9, h9)) : Met l yX11_could (gWS yX11_could cX11_could 3 (some .int)) rm_X11_could (gPc E [.ref (gB E + za0), .int za1, .int za2] zh) (gQi E r9 h9) 0 0 (gA E) := by
  refine gx_met (by decide) ?_ rfl
  intro p e s m below meth c X hr hlk hin2 hw
  have hx := X.1.1
  have hb := X.1.2.1
  have hl := lv_entry [.ref (gB E + za0), .int za1, .int za2] (n := 3) (Nat.le_of_ble_eq_true rfl)
  rw [lg_entry_eq]
  generalize (lg_sl [.ref (gB E + za0), .int za1, .int za2] ++ List.replicate (3 - (lg_sl [.ref (gB E + za0), .int za1, .int za2]).length) Slot.unset).toArray = ls at hl ⊢
  have hl : lv_has ls 3 [(0, .ref (gB E + za0)), (1, .int za1), (2, .int za2)] := hl
  have J_15 : ∀ (zh : PH) (H : Heap) (locs : List Loc) (ls : Array Slot), f_X11_could_15 N zh = some (r9, h9) → gw E s zh H locs → lv_has ls 3 [] → W p l e rm_X11_could s m [.ref (gB E + za0), .int za1, .int za2].toArray below meth c H locs 0 0 (MQ below (gQi E r9 h9) [.ref (gB E + za0), .int za1, .int za2].toArray s 0 0 (gA E)) (F0 m 15 ls []) := by
    intro zh H locs ls hf hw hl
    unfold f_X11_could_15 at hf
    refine lv_iconst (v := (-1)) hx hb dX11_could_15 (by decide) ?_
    exact gx_iret X hr hlk hw hf dX11_could_16
  unfold f_X11_could at hf
  refine lv_aload_n hx hb dX11_could_0 rfl (lv_at hl 0 rfl) ?_
  refine lv_iload_n hx hb dX11_could_1 rfl (lv_at hl 1 rfl) ?_
  obtain ⟨qizh1, hf⟩ := gg_el hf
  obtain ⟨zt2, zh1, qzh1, hf⟩ := gc_el hf
  refine gx_ki (gx_runV (As := [.int za1]) (rest := []) X hw (c_X11_isRoom l E N za0 za1 zh qzh1) kX11_isRoom mm_X11_102 qizh1 clX11 ⟨Nat.le_of_ble_eq_true rfl, Nat.le_of_ble_eq_true rfl⟩ rfl rfl rfl hl.1 (Nat.le_of_ble_eq_true rfl) rfl dX11_could_2 ⟨Nat.le_of_ble_eq_true rfl, Nat.le_of_ble_eq_true rfl⟩) hw (fun H locs hw => ?_)
  refine lv_if_eq (tgt := 15) hx hb dX11_could_5 (by decide) (fun qc3 => ?_) (fun qc3 => ?_)
  · have hf := gif_t hf qc3
    exact J_15  _ _ _ ls hf hw (lv_sub hl [] rfl)
  · have hf := gif_f hf qc3
    refine lv_iload_n hx hb dX11_could_8 rfl (lv_at hl 2 rfl) ?_
    obtain ⟨zt5, zh4, qzh4, hf⟩ := gc_el hf
    refine gx_ki (gx_runS (As := [.int za2]) (rest := []) X hw (c_X11_isToldMinute l E N za2 zh1 qzh4) kX11_isToldMinute mm_X11_207 ⟨Nat.le_of_ble_eq_true rfl, Nat.le_of_ble_eq_true rfl⟩ rfl rfl rfl hl.1 (Nat.le_of_ble_eq_true rfl) rfl dX11_could_9 ⟨Nat.le_of_ble_eq_true rfl, Nat.le_of_ble_eq_true rfl⟩) hw (fun H locs hw => ?_)
    refine lv_if_ne (tgt := 17) hx hb dX11_could_12 (by decide) (fun qc6 => ?_) (fun qc6 => ?_)
    · have hf := gif_f hf qc6
      refine lv_aload_n hx hb dX11_could_17 rfl (lv_at hl 0 rfl) ?_
      obtain ⟨zt7, qzt7, hf⟩ := gb_el hf
      refine gx_getR X hw qzt7 clX11 (by decide) mf_X11_37 dX11_could_18 ?_
      refine W.eq (g2 := F0 m 21 ls [.ref (gB E + zt7)]) rfl ?_
      obtain ⟨zt8, qzt8, hf⟩ := gb_el hf
      refine gx_getR X hw qzt8 clX9 (by decide) mf_X11_210 dX11_could_21 ?_
      refine lv_aload_n hx hb dX11_could_24 rfl (lv_at hl 0 rfl) ?_
      obtain ⟨zt9, qzt9, hf⟩ := gb_el hf
      refine gx_getR X hw qzt9 clX11 (by decide) mf_X11_69 dX11_could_25 ?_
      refine lv_iload_n hx hb dX11_could_28 rfl (lv_at hl 1 rfl) ?_
      refine lv_iload_n hx hb dX11_could_29 rfl (lv_at hl 2 rfl) ?_
      obtain ⟨qizh10, hf⟩ := gg_el hf
      obtain ⟨zt11, zh10, qzh10, hf⟩ := gc_el hf
      refine gx_ki (gx_runV (As := [.ref (gB E + zt9), .int za1, .int za2]) (rest := []) X hw (c_X8_possibleIn l E N zt8 zt9 za1 za2 zh4 qzh10) kX8_possibleIn mm_X11_223 qizh10 clX8 ⟨Nat.le_of_ble_eq_true rfl, Nat.le_of_ble_eq_true rfl⟩ rfl rfl rfl hl.1 (Nat.le_of_ble_eq_true rfl) rfl dX11_could_30 ⟨Nat.le_of_ble_eq_true rfl, Nat.le_of_ble_eq_true rfl⟩) hw (fun H locs hw => ?_)
      exact gx_iret X hr hlk hw hf dX11_could_33
    · have hf := gif_t hf qc6
      exact J_15  _ _ _ ls hf hw (lv_sub hl [] rfl)
abbrev rm_X11_liars : Room := { frames := 5, cells := 0, slots := 0, locals := 113 }
set_option maxHeartbeats 4000000 in
set_option maxRecDepth 100000 in
theorem c_X11_liars (l : Launch) (E : gE) (N : Nat) (za0 : Nat) (zh : PH) {h9 : PH} {r9 : Int32} (hf : f_X11_liars N za0 zh = some (r9, h9)) : Met l yX11_liars (gWS yX11_liars cX11_liars 1 (some .int)) rm_X11_liars (gPc E [.ref (gB E + za0)] zh) (gQi E r9 h9) 0 0 (gA E) := by
  refine gx_met (by decide) ?_ rfl
  intro p e s m below meth c X hr hlk hin2 hw
  have hx := X.1.1
  have hb := X.1.2.1
  have hl := lv_entry [.ref (gB E + za0)] (n := 1) (Nat.le_of_ble_eq_true rfl)
  rw [lg_entry_eq]
  generalize (lg_sl [.ref (gB E + za0)] ++ List.replicate (1 - (lg_sl [.ref (gB E + za0)]).length) Slot.unset).toArray = ls at hl ⊢
  have hl : lv_has ls 1 [(0, .ref (gB E + za0))] := hl
  unfold f_X11_liars at hf
  refine lv_aload_n hx hb dX11_liars_0 rfl (lv_at hl 0 rfl) ?_
  obtain ⟨zt1, qzt1, hf⟩ := gb_el hf
  refine gx_getR X hw qzt1 clX11 (by decide) mf_X11_37 dX11_liars_1 ?_
  obtain ⟨zt2, qzt2, hf⟩ := gb_el hf
  refine gx_getR X hw qzt2 clX9 (by decide) mf_X11_210 dX11_liars_4 ?_
  refine lv_aload_n hx hb dX11_liars_7 rfl (lv_at hl 0 rfl) ?_
  obtain ⟨zt3, qzt3, hf⟩ := gb_el hf
  refine gx_getR X hw qzt3 clX11 (by decide) mf_X11_69 dX11_liars_8 ?_
  obtain ⟨qizh4, hf⟩ := gg_el hf
  obtain ⟨zt5, zh4, qzh4, hf⟩ := gc_el hf
  refine gx_ki (gx_runV (As := [.ref (gB E + zt3)]) (rest := []) X hw (c_X8_fewestFalse l E N zt2 zt3 zh qzh4) kX8_fewestFalse mm_X11_227 qizh4 clX8 ⟨Nat.le_of_ble_eq_true rfl, Nat.le_of_ble_eq_true rfl⟩ rfl rfl rfl hl.1 (Nat.le_of_ble_eq_true rfl) rfl dX11_liars_11 ⟨Nat.le_of_ble_eq_true rfl, Nat.le_of_ble_eq_true rfl⟩) hw (fun H locs hw => ?_)
  exact gx_iret X hr hlk hw hf dX11_liars_14
abbrev rm_X11_page : Room := { frames := 1, cells := 0, slots := 0, locals := 22 }
set_option maxHeartbeats 4000000 in
set_option maxRecDepth 100000 in
theorem c_X11_page (l : Launch) (E : gE) (N : Nat) (za0 : Nat) (za1 : Int32) (za2 : Int32) (zh : PH) {h9 : PH} {r9 : Int32} (hf : f_X11_page N za0 za1 za2 zh = some (r9, h9)) : Met l yX11_page (gWS yX11_page cX11_page 3 (some .int)) rm_X11_page (gPc E [.ref (gB E + za0), .int za1, .int za2] zh) (gQi E r9 h9) 0 0 (gA E) := by
  refine gx_met (by decide) ?_ rfl
  intro p e s m below meth c X hr hlk hin2 hw
  have hx := X.1.1
  have hb := X.1.2.1
  have hl := lv_entry [.ref (gB E + za0), .int za1, .int za2] (n := 3) (Nat.le_of_ble_eq_true rfl)
  rw [lg_entry_eq]
  generalize (lg_sl [.ref (gB E + za0), .int za1, .int za2] ++ List.replicate (3 - (lg_sl [.ref (gB E + za0), .int za1, .int za2]).length) Slot.unset).toArray = ls at hl ⊢
  have hl : lv_has ls 3 [(0, .ref (gB E + za0)), (1, .int za1), (2, .int za2)] := hl
  have J_25 : ∀ (zh : PH) (H : Heap) (locs : List Loc) (ls : Array Slot), f_X11_page_25 N zh = some (r9, h9) → gw E s zh H locs → lv_has ls 3 [] → W p l e rm_X11_page s m [.ref (gB E + za0), .int za1, .int za2].toArray below meth c H locs 0 0 (MQ below (gQi E r9 h9) [.ref (gB E + za0), .int za1, .int za2].toArray s 0 0 (gA E)) (F0 m 25 ls []) := by
    intro zh H locs ls hf hw hl
    unfold f_X11_page_25 at hf
    refine lv_iconst (v := (-1)) hx hb dX11_page_25 (by decide) ?_
    exact gx_iret X hr hlk hw hf dX11_page_26
  unfold f_X11_page at hf
  refine lv_aload_n hx hb dX11_page_0 rfl (lv_at hl 0 rfl) ?_
  refine lv_iload_n hx hb dX11_page_1 rfl (lv_at hl 1 rfl) ?_
  obtain ⟨qizh1, hf⟩ := gg_el hf
  obtain ⟨zt2, zh1, qzh1, hf⟩ := gc_el hf
  refine gx_ki (gx_runV (As := [.int za1]) (rest := []) X hw (c_X11_isGuest l E N za0 za1 zh qzh1) kX11_isGuest mm_X11_118 qizh1 clX11 ⟨Nat.le_of_ble_eq_true rfl, Nat.le_of_ble_eq_true rfl⟩ rfl rfl rfl hl.1 (Nat.le_of_ble_eq_true rfl) rfl dX11_page_2 ⟨Nat.le_of_ble_eq_true rfl, Nat.le_of_ble_eq_true rfl⟩) hw (fun H locs hw => ?_)
  refine lv_if_eq (tgt := 25) hx hb dX11_page_5 (by decide) (fun qc3 => ?_) (fun qc3 => ?_)
  · have hf := gif_t hf qc3
    exact J_25  _ _ _ ls hf hw (lv_sub hl [] rfl)
  · have hf := gif_f hf qc3
    refine lv_iload_n hx hb dX11_page_8 rfl (lv_at hl 2 rfl) ?_
    refine lv_if_lt (tgt := 25) hx hb dX11_page_9 (by decide) (fun qc4 => ?_) (fun qc4 => ?_)
    · have hf := gif_t hf qc4
      exact J_25  _ _ _ ls hf hw (lv_sub hl [] rfl)
    · have hf := gif_f hf qc4
      refine lv_iload_n hx hb dX11_page_12 rfl (lv_at hl 2 rfl) ?_
      refine lv_iconst (v := 1) hx hb dX11_page_13 (by decide) ?_
      refine lv_aload_n hx hb dX11_page_14 rfl (lv_at hl 0 rfl) ?_
      refine W.eq (g2 := F0 m 15 ls [.ref (gB E + za0), .int 1, .int za2]) rfl ?_
      obtain ⟨zt5, qzt5, hf⟩ := gb_el hf
      refine gx_getR X hw qzt5 clX11 (by decide) mf_X11_69 dX11_page_15 ?_
      obtain ⟨zt6, qzt6, hf⟩ := gb_el hf
      refine gx_getI X hw qzt6 clX2 (by decide) mf_X11_230 dX11_page_18 ?_
      refine lv_ishl hx hb dX11_page_21 ?_
      refine lv_icmp_lt (tgt := 27) hx hb dX11_page_22 (by decide) (fun qc7 => ?_) (fun qc7 => ?_)
      · have hf := gif_t hf qc7
        refine lv_aload_n hx hb dX11_page_27 rfl (lv_at hl 0 rfl) ?_
        obtain ⟨zt8, qzt8, hf⟩ := gb_el hf
        refine gx_getR X hw qzt8 clX11 (by decide) mf_X11_37 dX11_page_28 ?_
        obtain ⟨zt9, qzt9, hf⟩ := gb_el hf
        refine gx_getR X hw qzt9 clX9 (by decide) mf_X11_233 dX11_page_31 ?_
        obtain ⟨zt10, qzt10, hf⟩ := gb_el hf
        refine gx_getR X hw qzt10 clX6 (by decide) mf_X11_237 dX11_page_34 ?_
        refine lv_iload_n hx hb dX11_page_37 rfl (lv_at hl 1 rfl) ?_
        refine lv_iload_n hx hb dX11_page_38 rfl (lv_at hl 2 rfl) ?_
        refine W.eq (g2 := F0 m 39 ls [.int za2, .int za1, .ref (gB E + zt10)]) rfl ?_
        obtain ⟨zh11, qzh11, hf⟩ := gb_el hf
        refine gx_iast X hw qzh11 dX11_page_39 (fun H locs hw => ?_)
        refine lv_aload_n hx hb dX11_page_40 rfl (lv_at hl 0 rfl) ?_
        obtain ⟨zt12, qzt12, hf⟩ := gb_el hf
        refine gx_getR X hw qzt12 clX11 (by decide) mf_X11_37 dX11_page_41 ?_
        obtain ⟨zt13, qzt13, hf⟩ := gb_el hf
        refine gx_getR X hw qzt13 clX9 (by decide) mf_X11_233 dX11_page_44 ?_
        obtain ⟨qizh14, hf⟩ := gg_el hf
        obtain ⟨zt15, zh14, qzh14, hf⟩ := gc_el hf
        refine gx_ki (gx_runV (As := []) (rest := []) X hw (c_X6_pages l E N zt13 zh11 qzh14) kX6_pages mm_X11_242 qizh14 clX6 ⟨Nat.le_of_ble_eq_true rfl, Nat.le_of_ble_eq_true rfl⟩ rfl rfl rfl hl.1 (Nat.le_of_ble_eq_true rfl) rfl dX11_page_47 ⟨Nat.le_of_ble_eq_true rfl, Nat.le_of_ble_eq_true rfl⟩) hw (fun H locs hw => ?_)
        exact gx_iret X hr hlk hw hf dX11_page_50
      · have hf := gif_f hf qc7
        exact J_25  _ _ _ ls hf hw (lv_sub hl [] rfl)
abbrev rm_X11_ways : Room := { frames := 4, cells := 0, slots := 0, locals := 93 }
set_option maxHeartbeats 4000000 in
set_option maxRecDepth 100000 in
theorem c_X11_ways (l : Launch) (E : gE) (N : Nat) (za0 : Nat) (zh : PH) {h9 : PH} {r9 : Int64} (hf : f_X11_ways N za0 zh = some (r9, h9)) : Met l yX11_ways (gWS yX11_ways cX11_ways 1 (some .long)) rm_X11_ways (gPc E [.ref (gB E + za0)] zh) (gQl E r9 h9) 0 0 (gA E) := by
  refine gx_met (by decide) ?_ rfl
  intro p e s m below meth c X hr hlk hin2 hw
  have hx := X.1.1
  have hb := X.1.2.1
  have hl := lv_entry [.ref (gB E + za0)] (n := 1) (Nat.le_of_ble_eq_true rfl)
  rw [lg_entry_eq]
  generalize (lg_sl [.ref (gB E + za0)] ++ List.replicate (1 - (lg_sl [.ref (gB E + za0)]).length) Slot.unset).toArray = ls at hl ⊢
  have hl : lv_has ls 1 [(0, .ref (gB E + za0))] := hl
  unfold f_X11_ways at hf
  refine lv_aload_n hx hb dX11_ways_0 rfl (lv_at hl 0 rfl) ?_
  obtain ⟨zt1, qzt1, hf⟩ := gb_el hf
  refine gx_getR X hw qzt1 clX11 (by decide) mf_X11_37 dX11_ways_1 ?_
  obtain ⟨zt2, qzt2, hf⟩ := gb_el hf
  refine gx_getR X hw qzt2 clX9 (by decide) mf_X11_233 dX11_ways_4 ?_
  refine lv_aload_n hx hb dX11_ways_7 rfl (lv_at hl 0 rfl) ?_
  obtain ⟨zt3, qzt3, hf⟩ := gb_el hf
  refine gx_getR X hw qzt3 clX11 (by decide) mf_X11_63 dX11_ways_8 ?_
  refine lv_aload_n hx hb dX11_ways_11 rfl (lv_at hl 0 rfl) ?_
  obtain ⟨zt4, qzt4, hf⟩ := gb_el hf
  refine gx_getR X hw qzt4 clX11 (by decide) mf_X11_69 dX11_ways_12 ?_
  obtain ⟨zt5, qzt5, hf⟩ := gb_el hf
  refine gx_getI X hw qzt5 clX2 (by decide) mf_X11_230 dX11_ways_15 ?_
  obtain ⟨qizh6, hf⟩ := gg_el hf
  obtain ⟨zt7, zh6, qzh6, hf⟩ := gc_el hf
  refine gx_ki (gx_runV (As := [.ref (gB E + zt3), .int zt5]) (rest := []) X hw (c_X6_waysInAll l E N zt2 zt3 zt5 zh qzh6) kX6_waysInAll mm_X11_245 qizh6 clX6 ⟨Nat.le_of_ble_eq_true rfl, Nat.le_of_ble_eq_true rfl⟩ rfl rfl rfl hl.1 (Nat.le_of_ble_eq_true rfl) rfl dX11_ways_18 ⟨Nat.le_of_ble_eq_true rfl, Nat.le_of_ble_eq_true rfl⟩) hw (fun H locs hw => ?_)
  refine W.eq (g2 := F0 m 21 ls [.int zt7]) rfl ?_
  refine lv_i2l hx hb dX11_ways_21 rfl ?_
  exact gx_lret X hr hlk hw hf dX11_ways_22
abbrev rm_X11_sure : Room := { frames := 4, cells := 0, slots := 0, locals := 97 }
set_option maxHeartbeats 4000000 in
set_option maxRecDepth 100000 in
theorem c_X11_sure (l : Launch) (E : gE) (N : Nat) (za0 : Nat) (za1 : Int32) (zh : PH) {h9 : PH} {r9 : Int32} (hf : f_X11_sure N za0 za1 zh = some (r9, h9)) : Met l yX11_sure (gWS yX11_sure cX11_sure 2 (some .int)) rm_X11_sure (gPc E [.ref (gB E + za0), .int za1] zh) (gQi E r9 h9) 0 0 (gA E) := by
  refine gx_met (by decide) ?_ rfl
  intro p e s m below meth c X hr hlk hin2 hw
  have hx := X.1.1
  have hb := X.1.2.1
  have hl := lv_entry [.ref (gB E + za0), .int za1] (n := 2) (Nat.le_of_ble_eq_true rfl)
  rw [lg_entry_eq]
  generalize (lg_sl [.ref (gB E + za0), .int za1] ++ List.replicate (2 - (lg_sl [.ref (gB E + za0), .int za1]).length) Slot.unset).toArray = ls at hl ⊢
  have hl : lv_has ls 2 [(0, .ref (gB E + za0)), (1, .int za1)] := hl
  have J_34 : ∀ (zs0 : Int32) (zh : PH) (H : Heap) (locs : List Loc) (ls : Array Slot), f_X11_sure_34 N zs0 zh = some (r9, h9) → gw E s zh H locs → lv_has ls 2 [] → W p l e rm_X11_sure s m [.ref (gB E + za0), .int za1].toArray below meth c H locs 0 0 (MQ below (gQi E r9 h9) [.ref (gB E + za0), .int za1].toArray s 0 0 (gA E)) (F0 m 34 ls [.int zs0]) := by
    intro zs0 zh H locs ls hf hw hl
    unfold f_X11_sure_34 at hf
    exact gx_iret X hr hlk hw hf dX11_sure_34
  unfold f_X11_sure at hf
  refine lv_aload_n hx hb dX11_sure_0 rfl (lv_at hl 0 rfl) ?_
  refine lv_iload_n hx hb dX11_sure_1 rfl (lv_at hl 1 rfl) ?_
  obtain ⟨qizh1, hf⟩ := gg_el hf
  obtain ⟨zt2, zh1, qzh1, hf⟩ := gc_el hf
  refine gx_ki (gx_runV (As := [.int za1]) (rest := []) X hw (c_X11_isGuest l E N za0 za1 zh qzh1) kX11_isGuest mm_X11_118 qizh1 clX11 ⟨Nat.le_of_ble_eq_true rfl, Nat.le_of_ble_eq_true rfl⟩ rfl rfl rfl hl.1 (Nat.le_of_ble_eq_true rfl) rfl dX11_sure_2 ⟨Nat.le_of_ble_eq_true rfl, Nat.le_of_ble_eq_true rfl⟩) hw (fun H locs hw => ?_)
  refine lv_if_eq (tgt := 33) hx hb dX11_sure_5 (by decide) (fun qc3 => ?_) (fun qc3 => ?_)
  · have hf := gif_t hf qc3
    refine lv_iconst (v := (-1)) hx hb dX11_sure_33 (by decide) ?_
    exact J_34 (-1) _ _ _ ls hf hw (lv_sub hl [] rfl)
  · have hf := gif_f hf qc3
    refine lv_aload_n hx hb dX11_sure_8 rfl (lv_at hl 0 rfl) ?_
    obtain ⟨zt4, qzt4, hf⟩ := gb_el hf
    refine gx_getR X hw qzt4 clX11 (by decide) mf_X11_37 dX11_sure_9 ?_
    obtain ⟨zt5, qzt5, hf⟩ := gb_el hf
    refine gx_getR X hw qzt5 clX9 (by decide) mf_X11_233 dX11_sure_12 ?_
    refine lv_iload_n hx hb dX11_sure_15 rfl (lv_at hl 1 rfl) ?_
    refine lv_aload_n hx hb dX11_sure_16 rfl (lv_at hl 0 rfl) ?_
    refine W.eq (g2 := F0 m 17 ls [.ref (gB E + za0), .int za1, .ref (gB E + zt5)]) rfl ?_
    obtain ⟨zt6, qzt6, hf⟩ := gb_el hf
    refine gx_getR X hw qzt6 clX11 (by decide) mf_X11_63 dX11_sure_17 ?_
    refine lv_aload_n hx hb dX11_sure_20 rfl (lv_at hl 0 rfl) ?_
    obtain ⟨zt7, qzt7, hf⟩ := gb_el hf
    refine gx_getR X hw qzt7 clX11 (by decide) mf_X11_69 dX11_sure_21 ?_
    obtain ⟨zt8, qzt8, hf⟩ := gb_el hf
    refine gx_getI X hw qzt8 clX2 (by decide) mf_X11_230 dX11_sure_24 ?_
    obtain ⟨qizh9, hf⟩ := gg_el hf
    obtain ⟨zt10, zh9, qzh9, hf⟩ := gc_el hf
    refine gx_ki (gx_runV (As := [.int za1, .ref (gB E + zt6), .int zt8]) (rest := []) X hw (c_X6_onlyRoomOf l E N zt5 za1 zt6 zt8 zh1 qzh9) kX6_onlyRoomOf mm_X11_249 qizh9 clX6 ⟨Nat.le_of_ble_eq_true rfl, Nat.le_of_ble_eq_true rfl⟩ rfl rfl rfl hl.1 (Nat.le_of_ble_eq_true rfl) rfl dX11_sure_27 ⟨Nat.le_of_ble_eq_true rfl, Nat.le_of_ble_eq_true rfl⟩) hw (fun H locs hw => ?_)
    refine lv_goto (tgt := 34) hx hb dX11_sure_30 (by decide) ?_
    exact J_34 zt10 _ _ _ ls hf hw (lv_sub hl [] rfl)
abbrev rm_X11_isJobPart : Room := { frames := 0, cells := 0, slots := 0, locals := 0 }
set_option maxHeartbeats 4000000 in
set_option maxRecDepth 100000 in
theorem c_X11_isJobPart (l : Launch) (E : gE) (N : Nat) (za0 : Int32) (zh : PH) {h9 : PH} {r9 : Int32} (hf : f_X11_isJobPart N za0 zh = some (r9, h9)) : Met l yX11_isJobPart (gWS yX11_isJobPart cX11_isJobPart 1 (some .boolean)) rm_X11_isJobPart (gPc E [.int za0] zh) (gQi E r9 h9) 0 0 (gA E) := by
  refine gx_met (by decide) ?_ rfl
  intro p e s m below meth c X hr hlk hin2 hw
  have hx := X.1.1
  have hb := X.1.2.1
  have hl := lv_entry [.int za0] (n := 1) (Nat.le_of_ble_eq_true rfl)
  rw [lg_entry_eq]
  generalize (lg_sl [.int za0] ++ List.replicate (1 - (lg_sl [.int za0]).length) Slot.unset).toArray = ls at hl ⊢
  have hl : lv_has ls 1 [(0, .int za0)] := hl
  have J_15 : ∀ (zs0 : Int32) (zh : PH) (H : Heap) (locs : List Loc) (ls : Array Slot), f_X11_isJobPart_15 N zs0 zh = some (r9, h9) → gw E s zh H locs → lv_has ls 1 [] → W p l e rm_X11_isJobPart s m [.int za0].toArray below meth c H locs 0 0 (MQ below (gQi E r9 h9) [.int za0].toArray s 0 0 (gA E)) (F0 m 15 ls [.int zs0]) := by
    intro zs0 zh H locs ls hf hw hl
    unfold f_X11_isJobPart_15 at hf
    exact gx_zret X hr hlk hw hf dX11_isJobPart_15
  have J_14 : ∀ (zh : PH) (H : Heap) (locs : List Loc) (ls : Array Slot), f_X11_isJobPart_14 N zh = some (r9, h9) → gw E s zh H locs → lv_has ls 1 [] → W p l e rm_X11_isJobPart s m [.int za0].toArray below meth c H locs 0 0 (MQ below (gQi E r9 h9) [.int za0].toArray s 0 0 (gA E)) (F0 m 14 ls []) := by
    intro zh H locs ls hf hw hl
    unfold f_X11_isJobPart_14 at hf
    refine lv_iconst (v := 0) hx hb dX11_isJobPart_14 (by decide) ?_
    exact J_15 0 _ _ _ ls hf hw (lv_sub hl [] rfl)
  unfold f_X11_isJobPart at hf
  refine lv_iload_n hx hb dX11_isJobPart_0 rfl (lv_at hl 0 rfl) ?_
  refine lv_if_lt (tgt := 14) hx hb dX11_isJobPart_1 (by decide) (fun qc1 => ?_) (fun qc1 => ?_)
  · have hf := gif_t hf qc1
    exact J_14  _ _ _ ls hf hw (lv_sub hl [] rfl)
  · have hf := gif_f hf qc1
    refine lv_iload_n hx hb dX11_isJobPart_4 rfl (lv_at hl 0 rfl) ?_
    refine lv_bipush (v := 99) hx hb dX11_isJobPart_5 (by decide) ?_
    refine lv_icmp_gt (tgt := 14) hx hb dX11_isJobPart_7 (by decide) (fun qc2 => ?_) (fun qc2 => ?_)
    · have hf := gif_t hf qc2
      exact J_14  _ _ _ ls hf hw (lv_sub hl [] rfl)
    · have hf := gif_f hf qc2
      refine lv_iconst (v := 1) hx hb dX11_isJobPart_10 (by decide) ?_
      refine lv_goto (tgt := 15) hx hb dX11_isJobPart_11 (by decide) ?_
      exact J_15 1 _ _ _ ls hf hw (lv_sub hl [] rfl)
abbrev rm_X11_job : Room := { frames := 1, cells := 0, slots := 0, locals := 23 }
set_option maxHeartbeats 4000000 in
set_option maxRecDepth 100000 in
theorem c_X11_job (l : Launch) (E : gE) (N : Nat) (za0 : Nat) (za1 : Int32) (za2 : Int32) (za3 : Int32) (zh : PH) {h9 : PH} {r9 : Int32} (hf : f_X11_job N za0 za1 za2 za3 zh = some (r9, h9)) : Met l yX11_job (gWS yX11_job cX11_job 4 (some .int)) rm_X11_job (gPc E [.ref (gB E + za0), .int za1, .int za2, .int za3] zh) (gQi E r9 h9) 0 0 (gA E) := by
  refine gx_met (by decide) ?_ rfl
  intro p e s m below meth c X hr hlk hin2 hw
  have hx := X.1.1
  have hb := X.1.2.1
  have hl := lv_entry [.ref (gB E + za0), .int za1, .int za2, .int za3] (n := 4) (Nat.le_of_ble_eq_true rfl)
  rw [lg_entry_eq]
  generalize (lg_sl [.ref (gB E + za0), .int za1, .int za2, .int za3] ++ List.replicate (4 - (lg_sl [.ref (gB E + za0), .int za1, .int za2, .int za3]).length) Slot.unset).toArray = ls at hl ⊢
  have hl : lv_has ls 4 [(0, .ref (gB E + za0)), (1, .int za1), (2, .int za2), (3, .int za3)] := hl
  have J_57 : ∀ (zs0 : Int32) (zh : PH) (H : Heap) (locs : List Loc) (ls : Array Slot), f_X11_job_57 N zs0 zh = some (r9, h9) → gw E s zh H locs → lv_has ls 4 [] → W p l e rm_X11_job s m [.ref (gB E + za0), .int za1, .int za2, .int za3].toArray below meth c H locs 0 0 (MQ below (gQi E r9 h9) [.ref (gB E + za0), .int za1, .int za2, .int za3].toArray s 0 0 (gA E)) (F0 m 57 ls [.int zs0]) := by
    intro zs0 zh H locs ls hf hw hl
    unfold f_X11_job_57 at hf
    exact gx_iret X hr hlk hw hf dX11_job_57
  have J_25 : ∀ (zh : PH) (H : Heap) (locs : List Loc) (ls : Array Slot), f_X11_job_25 N zh = some (r9, h9) → gw E s zh H locs → lv_has ls 4 [] → W p l e rm_X11_job s m [.ref (gB E + za0), .int za1, .int za2, .int za3].toArray below meth c H locs 0 0 (MQ below (gQi E r9 h9) [.ref (gB E + za0), .int za1, .int za2, .int za3].toArray s 0 0 (gA E)) (F0 m 25 ls []) := by
    intro zh H locs ls hf hw hl
    unfold f_X11_job_25 at hf
    refine lv_iconst (v := (-1)) hx hb dX11_job_25 (by decide) ?_
    exact gx_iret X hr hlk hw hf dX11_job_26
  unfold f_X11_job at hf
  refine lv_iload_n hx hb dX11_job_0 rfl (lv_at hl 1 rfl) ?_
  obtain ⟨zt2, zh1, qzh1, hf⟩ := gc_el hf
  refine gx_ki (gx_runS (As := [.int za1]) (rest := []) X hw (c_X11_isJobPart l E N za1 zh qzh1) kX11_isJobPart mm_X11_253 ⟨Nat.le_of_ble_eq_true rfl, Nat.le_of_ble_eq_true rfl⟩ rfl rfl rfl hl.1 (Nat.le_of_ble_eq_true rfl) rfl dX11_job_1 ⟨Nat.le_of_ble_eq_true rfl, Nat.le_of_ble_eq_true rfl⟩) hw (fun H locs hw => ?_)
  refine lv_if_eq (tgt := 25) hx hb dX11_job_4 (by decide) (fun qc3 => ?_) (fun qc3 => ?_)
  · have hf := gif_t hf qc3
    exact J_25  _ _ _ ls hf hw (lv_sub hl [] rfl)
  · have hf := gif_f hf qc3
    refine lv_iload_n hx hb dX11_job_7 rfl (lv_at hl 2 rfl) ?_
    obtain ⟨zt5, zh4, qzh4, hf⟩ := gc_el hf
    refine gx_ki (gx_runS (As := [.int za2]) (rest := []) X hw (c_X11_isJobPart l E N za2 zh1 qzh4) kX11_isJobPart mm_X11_253 ⟨Nat.le_of_ble_eq_true rfl, Nat.le_of_ble_eq_true rfl⟩ rfl rfl rfl hl.1 (Nat.le_of_ble_eq_true rfl) rfl dX11_job_8 ⟨Nat.le_of_ble_eq_true rfl, Nat.le_of_ble_eq_true rfl⟩) hw (fun H locs hw => ?_)
    refine lv_if_eq (tgt := 25) hx hb dX11_job_11 (by decide) (fun qc6 => ?_) (fun qc6 => ?_)
    · have hf := gif_t hf qc6
      exact J_25  _ _ _ ls hf hw (lv_sub hl [] rfl)
    · have hf := gif_f hf qc6
      refine lv_iload_n hx hb dX11_job_14 rfl (lv_at hl 2 rfl) ?_
      refine lv_if_eq (tgt := 25) hx hb dX11_job_15 (by decide) (fun qc7 => ?_) (fun qc7 => ?_)
      · have hf := gif_t hf qc7
        exact J_25  _ _ _ ls hf hw (lv_sub hl [] rfl)
      · have hf := gif_f hf qc7
        refine lv_iload_n hx hb dX11_job_18 rfl (lv_at hl 3 rfl) ?_
        refine W.eq (g2 := F0 m 19 ls [.int za3]) rfl ?_
        obtain ⟨zt9, zh8, qzh8, hf⟩ := gc_el hf
        refine gx_ki (gx_runS (As := [.int za3]) (rest := []) X hw (c_X11_isJobPart l E N za3 zh4 qzh8) kX11_isJobPart mm_X11_253 ⟨Nat.le_of_ble_eq_true rfl, Nat.le_of_ble_eq_true rfl⟩ rfl rfl rfl hl.1 (Nat.le_of_ble_eq_true rfl) rfl dX11_job_19 ⟨Nat.le_of_ble_eq_true rfl, Nat.le_of_ble_eq_true rfl⟩) hw (fun H locs hw => ?_)
        refine lv_if_ne (tgt := 27) hx hb dX11_job_22 (by decide) (fun qc10 => ?_) (fun qc10 => ?_)
        · have hf := gif_f hf qc10
          refine lv_aload_n hx hb dX11_job_27 rfl (lv_at hl 0 rfl) ?_
          obtain ⟨zt11, qzt11, hf⟩ := gb_el hf
          refine gx_getR X hw qzt11 clX11 (by decide) mf_X11_37 dX11_job_28 ?_
          obtain ⟨zt12, qzt12, hf⟩ := gb_el hf
          refine gx_getR X hw qzt12 clX9 (by decide) mf_X11_256 dX11_job_31 ?_
          refine lv_iload_n hx hb dX11_job_34 rfl (lv_at hl 1 rfl) ?_
          refine lv_iload_n hx hb dX11_job_35 rfl (lv_at hl 2 rfl) ?_
          refine lv_iload_n hx hb dX11_job_36 rfl (lv_at hl 3 rfl) ?_
          obtain ⟨qizh13, hf⟩ := gg_el hf
          obtain ⟨zt14, zh13, qzh13, hf⟩ := gc_el hf
          refine gx_ki (gx_runV (As := [.int za1, .int za2, .int za3]) (rest := []) X hw (c_X4_add l E N zt12 za1 za2 za3 zh8 qzh13) kX4_add mm_X11_260 qizh13 clX4 ⟨Nat.le_of_ble_eq_true rfl, Nat.le_of_ble_eq_true rfl⟩ rfl rfl rfl hl.1 (Nat.le_of_ble_eq_true rfl) rfl dX11_job_37 ⟨Nat.le_of_ble_eq_true rfl, Nat.le_of_ble_eq_true rfl⟩) hw (fun H locs hw => ?_)
          refine lv_if_eq (tgt := 56) hx hb dX11_job_40 (by decide) (fun qc15 => ?_) (fun qc15 => ?_)
          · have hf := gif_t hf qc15
            refine W.eq (g2 := F0 m 56 ls []) rfl ?_
            refine lv_iconst (v := (-1)) hx hb dX11_job_56 (by decide) ?_
            exact J_57 (-1) _ _ _ ls hf hw (lv_sub hl [] rfl)
          · have hf := gif_f hf qc15
            refine W.eq (g2 := F0 m 43 ls []) rfl ?_
            refine lv_aload_n hx hb dX11_job_43 rfl (lv_at hl 0 rfl) ?_
            obtain ⟨zt16, qzt16, hf⟩ := gb_el hf
            refine gx_getR X hw qzt16 clX11 (by decide) mf_X11_37 dX11_job_44 ?_
            obtain ⟨zt17, qzt17, hf⟩ := gb_el hf
            refine gx_getR X hw qzt17 clX9 (by decide) mf_X11_256 dX11_job_47 ?_
            obtain ⟨zt18, qzt18, hf⟩ := gb_el hf
            refine gx_getI X hw qzt18 clX4 (by decide) mf_X11_263 dX11_job_50 ?_
            refine lv_goto (tgt := 57) hx hb dX11_job_53 (by decide) ?_
            exact J_57 zt18 _ _ _ ls hf hw (lv_sub hl [] rfl)
        · have hf := gif_t hf qc10
          exact J_25  _ _ _ ls hf hw (lv_sub hl [] rfl)
abbrev rm_X11_porters : Room := { frames := 5, cells := 0, slots := 0, locals := 117 }
set_option maxHeartbeats 4000000 in
set_option maxRecDepth 100000 in
theorem c_X11_porters (l : Launch) (E : gE) (N : Nat) (za0 : Nat) (za1 : Int32) (zh : PH) {h9 : PH} {r9 : Int32} (hf : f_X11_porters N za0 za1 zh = some (r9, h9)) : Met l yX11_porters (gWS yX11_porters cX11_porters 2 (some .int)) rm_X11_porters (gPc E [.ref (gB E + za0), .int za1] zh) (gQi E r9 h9) 0 0 (gA E) := by
  refine gx_met (by decide) ?_ rfl
  intro p e s m below meth c X hr hlk hin2 hw
  have hx := X.1.1
  have hb := X.1.2.1
  have hl := lv_entry [.ref (gB E + za0), .int za1] (n := 2) (Nat.le_of_ble_eq_true rfl)
  rw [lg_entry_eq]
  generalize (lg_sl [.ref (gB E + za0), .int za1] ++ List.replicate (2 - (lg_sl [.ref (gB E + za0), .int za1]).length) Slot.unset).toArray = ls at hl ⊢
  have hl : lv_has ls 2 [(0, .ref (gB E + za0)), (1, .int za1)] := hl
  have J_33 : ∀ (zh : PH) (H : Heap) (locs : List Loc) (ls : Array Slot), f_X11_porters_33 N zh = some (r9, h9) → gw E s zh H locs → lv_has ls 2 [] → W p l e rm_X11_porters s m [.ref (gB E + za0), .int za1].toArray below meth c H locs 0 0 (MQ below (gQi E r9 h9) [.ref (gB E + za0), .int za1].toArray s 0 0 (gA E)) (F0 m 33 ls []) := by
    intro zh H locs ls hf hw hl
    unfold f_X11_porters_33 at hf
    refine lv_iconst (v := (-1)) hx hb dX11_porters_33 (by decide) ?_
    exact gx_iret X hr hlk hw hf dX11_porters_34
  unfold f_X11_porters at hf
  refine lv_aload_n hx hb dX11_porters_0 rfl (lv_at hl 0 rfl) ?_
  obtain ⟨zt1, qzt1, hf⟩ := gb_el hf
  refine gx_getR X hw qzt1 clX11 (by decide) mf_X11_37 dX11_porters_1 ?_
  obtain ⟨zt2, qzt2, hf⟩ := gb_el hf
  refine gx_getR X hw qzt2 clX9 (by decide) mf_X11_256 dX11_porters_4 ?_
  obtain ⟨zt3, qzt3, hf⟩ := gb_el hf
  refine gx_getI X hw qzt3 clX4 (by decide) mf_X11_263 dX11_porters_7 ?_
  refine lv_if_eq (tgt := 33) hx hb dX11_porters_10 (by decide) (fun qc4 => ?_) (fun qc4 => ?_)
  · have hf := gif_t hf qc4
    exact J_33  _ _ _ ls hf hw (lv_sub hl [] rfl)
  · have hf := gif_f hf qc4
    refine lv_iload_n hx hb dX11_porters_13 rfl (lv_at hl 1 rfl) ?_
    refine lv_if_lt (tgt := 33) hx hb dX11_porters_14 (by decide) (fun qc5 => ?_) (fun qc5 => ?_)
    · have hf := gif_t hf qc5
      exact J_33  _ _ _ ls hf hw (lv_sub hl [] rfl)
    · have hf := gif_f hf qc5
      refine lv_iload_n hx hb dX11_porters_17 rfl (lv_at hl 1 rfl) ?_
      refine lv_iconst (v := 3) hx hb dX11_porters_18 (by decide) ?_
      refine W.eq (g2 := F0 m 19 ls [.int 3, .int za1]) rfl ?_
      refine lv_aload_n hx hb dX11_porters_19 rfl (lv_at hl 0 rfl) ?_
      obtain ⟨zt6, qzt6, hf⟩ := gb_el hf
      refine gx_getR X hw qzt6 clX11 (by decide) mf_X11_37 dX11_porters_20 ?_
      obtain ⟨zt7, qzt7, hf⟩ := gb_el hf
      refine gx_getR X hw qzt7 clX9 (by decide) mf_X11_256 dX11_porters_23 ?_
      obtain ⟨zt8, qzt8, hf⟩ := gb_el hf
      refine gx_getI X hw qzt8 clX4 (by decide) mf_X11_263 dX11_porters_26 ?_
      refine lv_iadd hx hb dX11_porters_29 ?_
      refine lv_icmp_lt (tgt := 35) hx hb dX11_porters_30 (by decide) (fun qc9 => ?_) (fun qc9 => ?_)
      · have hf := gif_t hf qc9
        refine lv_aload_n hx hb dX11_porters_35 rfl (lv_at hl 0 rfl) ?_
        obtain ⟨zt10, qzt10, hf⟩ := gb_el hf
        refine gx_getR X hw qzt10 clX11 (by decide) mf_X11_48 dX11_porters_36 ?_
        refine lv_aload_n hx hb dX11_porters_39 rfl (lv_at hl 0 rfl) ?_
        obtain ⟨zt11, qzt11, hf⟩ := gb_el hf
        refine gx_getR X hw qzt11 clX11 (by decide) mf_X11_37 dX11_porters_40 ?_
        refine W.eq (g2 := F0 m 43 ls [.ref (gB E + zt11), .ref (gB E + zt10)]) rfl ?_
        obtain ⟨zt12, qzt12, hf⟩ := gb_el hf
        refine gx_getR X hw qzt12 clX9 (by decide) mf_X11_256 dX11_porters_43 ?_
        obtain ⟨qizh13, hf⟩ := gg_el hf
        obtain ⟨zh13, qzh13, hf⟩ := gb_el hf
        refine gx_kv (gx_runV (As := [.ref (gB E + zt12)]) (rest := []) X hw (c_X5_make l E N zt10 zt12 zh qzh13) kX5_make mm_X11_264 qizh13 clX5 ⟨Nat.le_of_ble_eq_true rfl, Nat.le_of_ble_eq_true rfl⟩ rfl rfl rfl hl.1 (Nat.le_of_ble_eq_true rfl) rfl dX11_porters_46 ⟨Nat.le_of_ble_eq_true rfl, Nat.le_of_ble_eq_true rfl⟩) hw (fun H locs hw => ?_)
        refine lv_iload_n hx hb dX11_porters_49 rfl (lv_at hl 1 rfl) ?_
        by_cases qc14 : (za1 : Int32) = 0
        · have hf := gif_t hf qc14
          refine lv_tableIn (off := 26) (tgt := 76) hx hb dX11_porters_50 (by rw [qc14]; decide) (by rw [qc14]; decide) (by rw [qc14]; rfl) (by decide) ?_
          refine lv_aload_n hx hb dX11_porters_76 rfl (lv_at hl 0 rfl) ?_
          obtain ⟨zt15, qzt15, hf⟩ := gb_el hf
          refine gx_getR X hw qzt15 clX11 (by decide) mf_X11_48 dX11_porters_77 ?_
          obtain ⟨zt16, qzt16, hf⟩ := gb_el hf
          refine gx_getI X hw qzt16 clX5 (by decide) mf_X11_268 dX11_porters_80 ?_
          exact gx_iret X hr hlk hw hf dX11_porters_83
        have hf := gif_f hf qc14
        by_cases qc17 : (za1 : Int32) = 1
        · have hf := gif_t hf qc17
          refine lv_tableIn (off := 34) (tgt := 84) hx hb dX11_porters_50 (by rw [qc17]; decide) (by rw [qc17]; decide) (by rw [qc17]; rfl) (by decide) ?_
          refine lv_aload_n hx hb dX11_porters_84 rfl (lv_at hl 0 rfl) ?_
          obtain ⟨zt18, qzt18, hf⟩ := gb_el hf
          refine gx_getR X hw qzt18 clX11 (by decide) mf_X11_48 dX11_porters_85 ?_
          obtain ⟨qizh19, hf⟩ := gg_el hf
          obtain ⟨zt20, zh19, qzh19, hf⟩ := gc_el hf
          refine gx_ki (gx_runV (As := []) (rest := []) X hw (c_X5_waits l E N zt18 zh13 qzh19) kX5_waits mm_X11_271 qizh19 clX5 ⟨Nat.le_of_ble_eq_true rfl, Nat.le_of_ble_eq_true rfl⟩ rfl rfl rfl hl.1 (Nat.le_of_ble_eq_true rfl) rfl dX11_porters_88 ⟨Nat.le_of_ble_eq_true rfl, Nat.le_of_ble_eq_true rfl⟩) hw (fun H locs hw => ?_)
          exact gx_iret X hr hlk hw hf dX11_porters_91
        have hf := gif_f hf qc17
        by_cases qc21 : (za1 : Int32) = 2
        · have hf := gif_t hf qc21
          refine lv_tableIn (off := 42) (tgt := 92) hx hb dX11_porters_50 (by rw [qc21]; decide) (by rw [qc21]; decide) (by rw [qc21]; rfl) (by decide) ?_
          refine lv_aload_n hx hb dX11_porters_92 rfl (lv_at hl 0 rfl) ?_
          obtain ⟨zt22, qzt22, hf⟩ := gb_el hf
          refine gx_getR X hw qzt22 clX11 (by decide) mf_X11_48 dX11_porters_93 ?_
          obtain ⟨qizh23, hf⟩ := gg_el hf
          obtain ⟨zt24, zh23, qzh23, hf⟩ := gc_el hf
          refine gx_ki (gx_runV (As := []) (rest := []) X hw (c_X5_portersNeeded l E N zt22 zh13 qzh23) kX5_portersNeeded mm_X11_274 qizh23 clX5 ⟨Nat.le_of_ble_eq_true rfl, Nat.le_of_ble_eq_true rfl⟩ rfl rfl rfl hl.1 (Nat.le_of_ble_eq_true rfl) rfl dX11_porters_96 ⟨Nat.le_of_ble_eq_true rfl, Nat.le_of_ble_eq_true rfl⟩) hw (fun H locs hw => ?_)
          exact gx_iret X hr hlk hw hf dX11_porters_99
        have hf := gif_f hf qc21
        have nqc14 := lv_neT (a := 0) qc14 (by decide)
        have nqc17 := lv_neT (a := 1) qc17 (by decide)
        have nqc21 := lv_neT (a := 2) qc21 (by decide)
        refine lv_tableOut (tgt := 100) hx hb dX11_porters_50 (by omega) (by decide) ?_
        refine lv_aload_n hx hb dX11_porters_100 rfl (lv_at hl 0 rfl) ?_
        obtain ⟨zt25, qzt25, hf⟩ := gb_el hf
        refine gx_getR X hw qzt25 clX11 (by decide) mf_X11_48 dX11_porters_101 ?_
        obtain ⟨zt26, qzt26, hf⟩ := gb_el hf
        refine gx_getR X hw qzt26 clX5 (by decide) mf_X11_277 dX11_porters_104 ?_
        refine lv_iload_n hx hb dX11_porters_107 rfl (lv_at hl 1 rfl) ?_
        refine lv_iconst (v := 3) hx hb dX11_porters_108 (by decide) ?_
        refine lv_isub hx hb dX11_porters_109 ?_
        refine W.eq (g2 := F0 m 110 ls [.int (za1 - 3), .ref (gB E + zt26)]) rfl ?_
        obtain ⟨zt27, qzt27, hf⟩ := gb_el hf
        refine gx_iald X hw qzt27 dX11_porters_110 ?_
        exact gx_iret X hr hlk hw hf dX11_porters_111
      · have hf := gif_f hf qc9
        exact J_33  _ _ _ ls hf hw (lv_sub hl [] rfl)
abbrev rm_X11_told : Room := { frames := 2, cells := 0, slots := 0, locals := 44 }
set_option maxHeartbeats 4000000 in
set_option maxRecDepth 100000 in
theorem c_X11_told (l : Launch) (E : gE) (N : Nat) (za0 : Nat) (zh : PH) {h9 : PH} {r9 : Int32} (hf : f_X11_told N za0 zh = some (r9, h9)) : Met l yX11_told (gWS yX11_told cX11_told 1 (some .int)) rm_X11_told (gPc E [.ref (gB E + za0)] zh) (gQi E r9 h9) 0 0 (gA E) := by
  refine gx_met (by decide) ?_ rfl
  intro p e s m below meth c X hr hlk hin2 hw
  have hx := X.1.1
  have hb := X.1.2.1
  have hl := lv_entry [.ref (gB E + za0)] (n := 1) (Nat.le_of_ble_eq_true rfl)
  rw [lg_entry_eq]
  generalize (lg_sl [.ref (gB E + za0)] ++ List.replicate (1 - (lg_sl [.ref (gB E + za0)]).length) Slot.unset).toArray = ls at hl ⊢
  have hl : lv_has ls 1 [(0, .ref (gB E + za0))] := hl
  have J_27 : ∀ (zs0 : Int32) (zh : PH) (H : Heap) (locs : List Loc) (ls : Array Slot), f_X11_told_27 N zs0 zh = some (r9, h9) → gw E s zh H locs → lv_has ls 1 [] → W p l e rm_X11_told s m [.ref (gB E + za0)].toArray below meth c H locs 0 0 (MQ below (gQi E r9 h9) [.ref (gB E + za0)].toArray s 0 0 (gA E)) (F0 m 27 ls [.int zs0]) := by
    intro zs0 zh H locs ls hf hw hl
    unfold f_X11_told_27 at hf
    exact gx_iret X hr hlk hw hf dX11_told_27
  unfold f_X11_told at hf
  refine lv_aload_n hx hb dX11_told_0 rfl (lv_at hl 0 rfl) ?_
  obtain ⟨zt1, qzt1, hf⟩ := gb_el hf
  refine gx_getR X hw qzt1 clX11 (by decide) mf_X11_37 dX11_told_1 ?_
  obtain ⟨zt2, qzt2, hf⟩ := gb_el hf
  refine gx_getR X hw qzt2 clX9 (by decide) mf_X11_256 dX11_told_4 ?_
  obtain ⟨zt3, qzt3, hf⟩ := gb_el hf
  refine gx_getI X hw qzt3 clX4 (by decide) mf_X11_263 dX11_told_7 ?_
  refine lv_if_ne (tgt := 17) hx hb dX11_told_10 (by decide) (fun qc4 => ?_) (fun qc4 => ?_)
  · have hf := gif_f hf qc4
    refine lv_aload_n hx hb dX11_told_17 rfl (lv_at hl 0 rfl) ?_
    obtain ⟨zt5, qzt5, hf⟩ := gb_el hf
    refine gx_getR X hw qzt5 clX11 (by decide) mf_X11_37 dX11_told_18 ?_
    obtain ⟨zt6, qzt6, hf⟩ := gb_el hf
    refine gx_getR X hw qzt6 clX9 (by decide) mf_X11_256 dX11_told_21 ?_
    obtain ⟨qizh7, hf⟩ := gg_el hf
    obtain ⟨zt8, zh7, qzh7, hf⟩ := gc_el hf
    refine gx_ki (gx_runV (As := []) (rest := []) X hw (c_X4_doneAsTold l E N zt6 zh qzh7) kX4_doneAsTold mm_X11_280 qizh7 clX4 ⟨Nat.le_of_ble_eq_true rfl, Nat.le_of_ble_eq_true rfl⟩ rfl rfl rfl hl.1 (Nat.le_of_ble_eq_true rfl) rfl dX11_told_24 ⟨Nat.le_of_ble_eq_true rfl, Nat.le_of_ble_eq_true rfl⟩) hw (fun H locs hw => ?_)
    exact J_27 zt8 _ _ _ ls hf hw (lv_sub hl [] rfl)
  · have hf := gif_t hf qc4
    refine lv_iconst (v := (-1)) hx hb dX11_told_13 (by decide) ?_
    refine lv_goto (tgt := 27) hx hb dX11_told_14 (by decide) ?_
    exact J_27 (-1) _ _ _ ls hf hw (lv_sub hl [] rfl)
abbrev rm_X11_clear : Room := { frames := 0, cells := 0, slots := 0, locals := 0 }
set_option maxHeartbeats 4000000 in
set_option maxRecDepth 100000 in
theorem c_X11_clear (l : Launch) (E : gE) (N : Nat) (za0 : Nat) (zh : PH) {h9 : PH} {r9 : Int32} (hf : f_X11_clear N za0 zh = some (r9, h9)) : Met l yX11_clear (gWS yX11_clear cX11_clear 1 (some .boolean)) rm_X11_clear (gPc E [.ref (gB E + za0)] zh) (gQi E r9 h9) 0 0 (gA E) := by
  refine gx_met (by decide) ?_ rfl
  intro p e s m below meth c X hr hlk hin2 hw
  have hx := X.1.1
  have hb := X.1.2.1
  have hl := lv_entry [.ref (gB E + za0)] (n := 1) (Nat.le_of_ble_eq_true rfl)
  rw [lg_entry_eq]
  generalize (lg_sl [.ref (gB E + za0)] ++ List.replicate (1 - (lg_sl [.ref (gB E + za0)]).length) Slot.unset).toArray = ls at hl ⊢
  have hl : lv_has ls 1 [(0, .ref (gB E + za0))] := hl
  unfold f_X11_clear at hf
  refine lv_aload_n hx hb dX11_clear_0 rfl (lv_at hl 0 rfl) ?_
  obtain ⟨zt1, qzt1, hf⟩ := gb_el hf
  refine gx_getR X hw qzt1 clX11 (by decide) mf_X11_37 dX11_clear_1 ?_
  obtain ⟨zt2, qzt2, hf⟩ := gb_el hf
  refine gx_getR X hw qzt2 clX9 (by decide) mf_X11_210 dX11_clear_4 ?_
  refine lv_iconst (v := 0) hx hb dX11_clear_7 (by decide) ?_
  obtain ⟨zh3, qzh3, hf⟩ := gb_el hf
  refine gx_putV X hw qzh3 clX8 (by decide) mf_X11_220 rfl rfl rfl dX11_clear_8 (fun H locs hw => ?_)
  refine lv_aload_n hx hb dX11_clear_11 rfl (lv_at hl 0 rfl) ?_
  obtain ⟨zt4, qzt4, hf⟩ := gb_el hf
  refine gx_getR X hw qzt4 clX11 (by decide) mf_X11_37 dX11_clear_12 ?_
  obtain ⟨zt5, qzt5, hf⟩ := gb_el hf
  refine gx_getR X hw qzt5 clX9 (by decide) mf_X11_256 dX11_clear_15 ?_
  refine lv_iconst (v := 0) hx hb dX11_clear_18 (by decide) ?_
  refine W.eq (g2 := F0 m 19 ls [.int 0, .ref (gB E + zt5)]) rfl ?_
  obtain ⟨zh6, qzh6, hf⟩ := gb_el hf
  refine gx_putV X hw qzh6 clX4 (by decide) mf_X11_263 rfl rfl rfl dX11_clear_19 (fun H locs hw => ?_)
  refine lv_iconst (v := 1) hx hb dX11_clear_22 (by decide) ?_
  exact gx_zret X hr hlk hw hf dX11_clear_23
abbrev rm_X11_book : Room := { frames := 1, cells := 0, slots := 0, locals := 21 }
set_option maxHeartbeats 4000000 in
set_option maxRecDepth 100000 in
theorem c_X11_book (l : Launch) (E : gE) (N : Nat) (za0 : Nat) (za1 : Int32) (zh : PH) {h9 : PH} {r9 : Int32} (hf : f_X11_book N za0 za1 zh = some (r9, h9)) : Met l yX11_book (gWS yX11_book cX11_book 2 (some .int)) rm_X11_book (gPc E [.ref (gB E + za0), .int za1] zh) (gQi E r9 h9) 0 0 (gA E) := by
  refine gx_met (by decide) ?_ rfl
  intro p e s m below meth c X hr hlk hin2 hw
  have hx := X.1.1
  have hb := X.1.2.1
  have hl := lv_entry [.ref (gB E + za0), .int za1] (n := 2) (Nat.le_of_ble_eq_true rfl)
  rw [lg_entry_eq]
  generalize (lg_sl [.ref (gB E + za0), .int za1] ++ List.replicate (2 - (lg_sl [.ref (gB E + za0), .int za1]).length) Slot.unset).toArray = ls at hl ⊢
  have hl : lv_has ls 2 [(0, .ref (gB E + za0)), (1, .int za1)] := hl
  have J_51 : ∀ (zh : PH) (H : Heap) (locs : List Loc) (ls : Array Slot), f_X11_book_51 N zh = some (r9, h9) → gw E s zh H locs → lv_has ls 2 [] → W p l e rm_X11_book s m [.ref (gB E + za0), .int za1].toArray below meth c H locs 0 0 (MQ below (gQi E r9 h9) [.ref (gB E + za0), .int za1].toArray s 0 0 (gA E)) (F0 m 51 ls []) := by
    intro zh H locs ls hf hw hl
    unfold f_X11_book_51 at hf
    refine lv_iconst (v := (-1)) hx hb dX11_book_51 (by decide) ?_
    exact gx_iret X hr hlk hw hf dX11_book_52
  unfold f_X11_book at hf
  refine lv_iload_n hx hb dX11_book_0 rfl (lv_at hl 1 rfl) ?_
  refine lv_if_ge (tgt := 14) hx hb dX11_book_1 (by decide) (fun qc1 => ?_) (fun qc1 => ?_)
  · have hf := gif_t hf qc1
    refine lv_aload_n hx hb dX11_book_14 rfl (lv_at hl 0 rfl) ?_
    refine lv_iload_n hx hb dX11_book_15 rfl (lv_at hl 1 rfl) ?_
    obtain ⟨qizh2, hf⟩ := gg_el hf
    obtain ⟨zt3, zh2, qzh2, hf⟩ := gc_el hf
    refine gx_ki (gx_runV (As := [.int za1]) (rest := []) X hw (c_X11_isGuest l E N za0 za1 zh qzh2) kX11_isGuest mm_X11_118 qizh2 clX11 ⟨Nat.le_of_ble_eq_true rfl, Nat.le_of_ble_eq_true rfl⟩ rfl rfl rfl hl.1 (Nat.le_of_ble_eq_true rfl) rfl dX11_book_16 ⟨Nat.le_of_ble_eq_true rfl, Nat.le_of_ble_eq_true rfl⟩) hw (fun H locs hw => ?_)
    refine lv_if_eq (tgt := 51) hx hb dX11_book_19 (by decide) (fun qc4 => ?_) (fun qc4 => ?_)
    · have hf := gif_t hf qc4
      exact J_51  _ _ _ ls hf hw (lv_sub hl [] rfl)
    · have hf := gif_f hf qc4
      refine lv_aload_n hx hb dX11_book_22 rfl (lv_at hl 0 rfl) ?_
      obtain ⟨zt5, qzt5, hf⟩ := gb_el hf
      refine gx_getR X hw qzt5 clX11 (by decide) mf_X11_37 dX11_book_23 ?_
      obtain ⟨zt6, qzt6, hf⟩ := gb_el hf
      refine gx_getR X hw qzt6 clX9 (by decide) mf_X11_112 dX11_book_26 ?_
      refine W.eq (g2 := F0 m 29 ls [.ref (gB E + zt6)]) rfl ?_
      refine lv_iload_n hx hb dX11_book_29 rfl (lv_at hl 1 rfl) ?_
      obtain ⟨qizh7, hf⟩ := gg_el hf
      obtain ⟨zt8, zh7, qzh7, hf⟩ := gc_el hf
      refine gx_ki (gx_runV (As := [.int za1]) (rest := []) X hw (c_X1_isIn l E N zt6 za1 zh2 qzh7) kX1_isIn mm_X11_286 qizh7 clX1 ⟨Nat.le_of_ble_eq_true rfl, Nat.le_of_ble_eq_true rfl⟩ rfl rfl rfl hl.1 (Nat.le_of_ble_eq_true rfl) rfl dX11_book_30 ⟨Nat.le_of_ble_eq_true rfl, Nat.le_of_ble_eq_true rfl⟩) hw (fun H locs hw => ?_)
      refine lv_if_ne (tgt := 51) hx hb dX11_book_33 (by decide) (fun qc9 => ?_) (fun qc9 => ?_)
      · have hf := gif_f hf qc9
        exact J_51  _ _ _ ls hf hw (lv_sub hl [] rfl)
      · have hf := gif_t hf qc9
        refine lv_aload_n hx hb dX11_book_36 rfl (lv_at hl 0 rfl) ?_
        obtain ⟨zt10, qzt10, hf⟩ := gb_el hf
        refine gx_getR X hw qzt10 clX11 (by decide) mf_X11_37 dX11_book_37 ?_
        obtain ⟨zt11, qzt11, hf⟩ := gb_el hf
        refine gx_getI X hw qzt11 clX9 (by decide) mf_X11_283 dX11_book_40 ?_
        refine lv_iload_n hx hb dX11_book_43 rfl (lv_at hl 1 rfl) ?_
        obtain ⟨zt13, zh12, qzh12, hf⟩ := gc_el hf
        refine gx_ki (gx_runS (As := [.int zt11, .int za1]) (rest := []) X hw (c_X11_bitOf l E N zt11 za1 zh7 qzh12) kX11_bitOf mm_X11_127 ⟨Nat.le_of_ble_eq_true rfl, Nat.le_of_ble_eq_true rfl⟩ rfl rfl rfl hl.1 (Nat.le_of_ble_eq_true rfl) rfl dX11_book_44 ⟨Nat.le_of_ble_eq_true rfl, Nat.le_of_ble_eq_true rfl⟩) hw (fun H locs hw => ?_)
        refine lv_iconst (v := 1) hx hb dX11_book_47 (by decide) ?_
        refine lv_icmp_ne (tgt := 53) hx hb dX11_book_48 (by decide) (fun qc14 => ?_) (fun qc14 => ?_)
        · have hf := gif_f hf qc14
          refine W.eq (g2 := F0 m 53 ls []) rfl ?_
          refine lv_aload_n hx hb dX11_book_53 rfl (lv_at hl 0 rfl) ?_
          obtain ⟨zt15, qzt15, hf⟩ := gb_el hf
          refine gx_getR X hw qzt15 clX11 (by decide) mf_X11_37 dX11_book_54 ?_
          obtain ⟨zt16, qzt16, hf⟩ := gb_el hf
          refine gx_getI X hw qzt16 clX9 (by decide) mf_X11_283 dX11_book_57 ?_
          obtain ⟨zt18, zh17, qzh17, hf⟩ := gc_el hf
          refine gx_ki (gx_runS (As := [.int zt16]) (rest := []) X hw (c_J6_bitCount_0f7a4 l E N zt16 zh12 qzh17) kJ6_bitCount_0f7a4 mm_X11_289 ⟨Nat.le_of_ble_eq_true rfl, Nat.le_of_ble_eq_true rfl⟩ rfl rfl rfl hl.1 (Nat.le_of_ble_eq_true rfl) rfl dX11_book_60 ⟨Nat.le_of_ble_eq_true rfl, Nat.le_of_ble_eq_true rfl⟩) hw (fun H locs hw => ?_)
          refine lv_bipush (v := 7) hx hb dX11_book_63 (by decide) ?_
          refine lv_icmp_lt (tgt := 70) hx hb dX11_book_65 (by decide) (fun qc19 => ?_) (fun qc19 => ?_)
          · have hf := gif_t hf qc19
            refine lv_aload_n hx hb dX11_book_70 rfl (lv_at hl 0 rfl) ?_
            obtain ⟨zt20, qzt20, hf⟩ := gb_el hf
            refine gx_getR X hw qzt20 clX11 (by decide) mf_X11_37 dX11_book_71 ?_
            refine lv_dup hx hb dX11_book_74 rfl ?_
            obtain ⟨zt21, qzt21, hf⟩ := gb_el hf
            refine gx_getI X hw qzt21 clX9 (by decide) mf_X11_283 dX11_book_75 ?_
            refine W.eq (g2 := F0 m 78 ls [.int zt21, .ref (gB E + zt20)]) rfl ?_
            refine lv_iconst (v := 1) hx hb dX11_book_78 (by decide) ?_
            refine lv_iload_n hx hb dX11_book_79 rfl (lv_at hl 1 rfl) ?_
            refine lv_ishl hx hb dX11_book_80 ?_
            refine lv_ior hx hb dX11_book_81 ?_
            obtain ⟨zh22, qzh22, hf⟩ := gb_el hf
            refine gx_putV X hw qzh22 clX9 (by decide) mf_X11_283 rfl rfl rfl dX11_book_82 (fun H locs hw => ?_)
            refine lv_aload_n hx hb dX11_book_85 rfl (lv_at hl 0 rfl) ?_
            obtain ⟨zt23, qzt23, hf⟩ := gb_el hf
            refine gx_getR X hw qzt23 clX11 (by decide) mf_X11_37 dX11_book_86 ?_
            obtain ⟨zt24, qzt24, hf⟩ := gb_el hf
            refine gx_getI X hw qzt24 clX9 (by decide) mf_X11_283 dX11_book_89 ?_
            obtain ⟨zt26, zh25, qzh25, hf⟩ := gc_el hf
            refine gx_ki (gx_runS (As := [.int zt24]) (rest := []) X hw (c_J6_bitCount_0f7a4 l E N zt24 zh22 qzh25) kJ6_bitCount_0f7a4 mm_X11_289 ⟨Nat.le_of_ble_eq_true rfl, Nat.le_of_ble_eq_true rfl⟩ rfl rfl rfl hl.1 (Nat.le_of_ble_eq_true rfl) rfl dX11_book_92 ⟨Nat.le_of_ble_eq_true rfl, Nat.le_of_ble_eq_true rfl⟩) hw (fun H locs hw => ?_)
            exact gx_iret X hr hlk hw hf dX11_book_95
          · have hf := gif_f hf qc19
            refine lv_iconst (v := (-1)) hx hb dX11_book_68 (by decide) ?_
            exact gx_iret X hr hlk hw hf dX11_book_69
        · have hf := gif_t hf qc14
          exact J_51  _ _ _ ls hf hw (lv_sub hl [] rfl)
  · have hf := gif_f hf qc1
    refine lv_aload_n hx hb dX11_book_4 rfl (lv_at hl 0 rfl) ?_
    obtain ⟨zt27, qzt27, hf⟩ := gb_el hf
    refine gx_getR X hw qzt27 clX11 (by decide) mf_X11_37 dX11_book_5 ?_
    refine lv_iconst (v := 0) hx hb dX11_book_8 (by decide) ?_
    obtain ⟨zh28, qzh28, hf⟩ := gb_el hf
    refine gx_putV X hw qzh28 clX9 (by decide) mf_X11_283 rfl rfl rfl dX11_book_9 (fun H locs hw => ?_)
    refine lv_iconst (v := 0) hx hb dX11_book_12 (by decide) ?_
    exact gx_iret X hr hlk hw hf dX11_book_13
abbrev rm_X11_movesByArrivals : Room := { frames := 5, cells := 0, slots := 0, locals := 118 }
set_option maxHeartbeats 4000000 in
set_option maxRecDepth 100000 in
theorem c_X11_movesByArrivals (l : Launch) (E : gE) (N : Nat) (za0 : Nat) (za1 : Int32) (za2 : Int32) (za3 : Int32) (zh : PH) {h9 : PH} {r9 : Int32} (hf : f_X11_movesByArrivals N za0 za1 za2 za3 zh = some (r9, h9)) : Met l yX11_movesByArrivals (gWS yX11_movesByArrivals cX11_movesByArrivals 6 (some .int)) rm_X11_movesByArrivals (gPc E [.ref (gB E + za0), .int za1, .int za2, .int za3] zh) (gQi E r9 h9) 0 0 (gA E) := by
  refine gx_met (by decide) ?_ rfl
  intro p e s m below meth c X hr hlk hin2 hw
  have hx := X.1.1
  have hb := X.1.2.1
  have hl := lv_entry [.ref (gB E + za0), .int za1, .int za2, .int za3] (n := 6) (Nat.le_of_ble_eq_true rfl)
  rw [lg_entry_eq]
  generalize (lg_sl [.ref (gB E + za0), .int za1, .int za2, .int za3] ++ List.replicate (6 - (lg_sl [.ref (gB E + za0), .int za1, .int za2, .int za3]).length) Slot.unset).toArray = ls at hl ⊢
  have hl : lv_has ls 6 [(0, .ref (gB E + za0)), (1, .int za1), (2, .int za2), (3, .int za3)] := hl
  have J_96 : ∀ (zs0 : Int32) (zh : PH) (H : Heap) (locs : List Loc) (ls : Array Slot), f_X11_movesByArrivals_96 N zs0 zh = some (r9, h9) → gw E s zh H locs → lv_has ls 6 [] → W p l e rm_X11_movesByArrivals s m [.ref (gB E + za0), .int za1, .int za2, .int za3].toArray below meth c H locs 0 0 (MQ below (gQi E r9 h9) [.ref (gB E + za0), .int za1, .int za2, .int za3].toArray s 0 0 (gA E)) (F0 m 96 ls [.int zs0]) := by
    intro zs0 zh H locs ls hf hw hl
    unfold f_X11_movesByArrivals_96 at hf
    exact gx_iret X hr hlk hw hf dX11_movesByArrivals_96
  have J_59 : ∀ (zv0 : Nat) (zv1 : Int32) (zv3 : Int32) (zv4 : Nat) (zh : PH) (H : Heap) (locs : List Loc) (ls : Array Slot), f_X11_movesByArrivals_59 N zv0 zv1 zv3 zv4 zh = some (r9, h9) → gw E s zh H locs → lv_has ls 6 [(0, .ref (gB E + zv0)), (1, .int zv1), (3, .int zv3), (4, .ref (gB E + zv4))] → W p l e rm_X11_movesByArrivals s m [.ref (gB E + za0), .int za1, .int za2, .int za3].toArray below meth c H locs 0 0 (MQ below (gQi E r9 h9) [.ref (gB E + za0), .int za1, .int za2, .int za3].toArray s 0 0 (gA E)) (F0 m 59 ls []) := by
    intro zv0 zv1 zv3 zv4 zh H locs ls hf hw hl
    unfold f_X11_movesByArrivals_59 at hf
    refine lv_iload_n hx hb dX11_movesByArrivals_59 rfl (lv_at hl 2 rfl) ?_
    refine lv_if_eq (tgt := 79) hx hb dX11_movesByArrivals_60 (by decide) (fun qc1 => ?_) (fun qc1 => ?_)
    · have hf := gif_t hf qc1
      refine lv_aload_n hx hb dX11_movesByArrivals_79 rfl (lv_at hl 0 rfl) ?_
      obtain ⟨zt2, qzt2, hf⟩ := gb_el hf
      refine gx_getR X hw qzt2 clX11 (by decide) mf_X11_55 dX11_movesByArrivals_80 ?_
      obtain ⟨zt3, qzt3, hf⟩ := gb_el hf
      refine gx_getR X hw qzt3 clX1 (by decide) mf_X11_137 dX11_movesByArrivals_83 ?_
      refine lv_iload_n hx hb dX11_movesByArrivals_86 rfl (lv_at hl 1 rfl) ?_
      obtain ⟨zt4, qzt4, hf⟩ := gb_el hf
      refine gx_iald X hw qzt4 dX11_movesByArrivals_87 ?_
      refine lv_aload hx hb dX11_movesByArrivals_88 (lv_at hl 3 rfl) ?_
      obtain ⟨zt5, qzt5, hf⟩ := gb_el hf
      refine gx_getR X hw qzt5 clX1 (by decide) mf_X11_137 dX11_movesByArrivals_90 ?_
      refine W.eq (g2 := F0 m 93 ls [.ref (gB E + zt5), .int zt4]) rfl ?_
      refine lv_iload_n hx hb dX11_movesByArrivals_93 rfl (lv_at hl 1 rfl) ?_
      obtain ⟨zt6, qzt6, hf⟩ := gb_el hf
      refine gx_iald X hw qzt6 dX11_movesByArrivals_94 ?_
      refine lv_isub hx hb dX11_movesByArrivals_95 ?_
      exact J_96 (zt4 - zt6) _ _ _ ls hf hw (lv_sub hl [] rfl)
    · have hf := gif_f hf qc1
      refine lv_aload_n hx hb dX11_movesByArrivals_63 rfl (lv_at hl 0 rfl) ?_
      obtain ⟨zt7, qzt7, hf⟩ := gb_el hf
      refine gx_getR X hw qzt7 clX11 (by decide) mf_X11_55 dX11_movesByArrivals_64 ?_
      obtain ⟨zt8, qzt8, hf⟩ := gb_el hf
      refine gx_getI X hw qzt8 clX1 (by decide) mf_X11_185 dX11_movesByArrivals_67 ?_
      refine lv_aload hx hb dX11_movesByArrivals_70 (lv_at hl 3 rfl) ?_
      obtain ⟨zt9, qzt9, hf⟩ := gb_el hf
      refine gx_getI X hw qzt9 clX1 (by decide) mf_X11_185 dX11_movesByArrivals_72 ?_
      refine lv_isub hx hb dX11_movesByArrivals_75 ?_
      refine lv_goto (tgt := 96) hx hb dX11_movesByArrivals_76 (by decide) ?_
      exact J_96 (zt8 - zt9) _ _ _ ls hf hw (lv_sub hl [] rfl)
  have L_21 : ∀ (zn21 : Nat) (zv0 : Nat) (zv1 : Int32) (zv2 : Int32) (zv3 : Int32) (zv4 : Nat) (zv5 : Int32) (zh : PH) (H : Heap) (locs : List Loc) (ls : Array Slot), gi (fun zk zs => f_X11_movesByArrivals_21 N zk zs.1 zs.2.1 zs.2.2.1 zs.2.2.2.1 zs.2.2.2.2.1 zs.2.2.2.2.2.1 zs.2.2.2.2.2.2) zn21 (zv0, zv1, zv2, zv3, zv4, zv5, zh) = some (r9, h9) → gw E s zh H locs → lv_has ls 6 [(0, .ref (gB E + zv0)), (1, .int zv1), (2, .int zv2), (3, .int zv3), (4, .ref (gB E + zv4)), (5, .int zv5)] → W p l e rm_X11_movesByArrivals s m [.ref (gB E + za0), .int za1, .int za2, .int za3].toArray below meth c H locs 0 0 (MQ below (gQi E r9 h9) [.ref (gB E + za0), .int za1, .int za2, .int za3].toArray s 0 0 (gA E)) (F0 m 21 ls []) := by
    intro zn21
    induction zn21 with
    | zero =>
      intro zv0 zv1 zv2 zv3 zv4 zv5 zh H locs ls hf
      cases hf
    | succ zn21 ih_21 =>
      intro zv0 zv1 zv2 zv3 zv4 zv5 zh H locs ls hf hw hl
      have hf := gi_s hf
      dsimp only at hf
      unfold f_X11_movesByArrivals_21 at hf
      refine lv_iload hx hb dX11_movesByArrivals_21 (lv_at hl 5 rfl) ?_
      refine lv_iload_n hx hb dX11_movesByArrivals_23 rfl (lv_at hl 2 rfl) ?_
      refine lv_icmp_ge (tgt := 59) hx hb dX11_movesByArrivals_24 (by decide) (fun qc1 => ?_) (fun qc1 => ?_)
      · have hf := gif_t hf qc1
        exact J_59 zv0 zv1 zv3 zv4 _ _ _ ls hf hw (lv_sub hl [0, 1, 3, 4] rfl)
      · have hf := gif_f hf qc1
        refine lv_iload hx hb dX11_movesByArrivals_27 (lv_at hl 5 rfl) ?_
        refine lv_bipush (v := 7) hx hb dX11_movesByArrivals_29 (by decide) ?_
        refine lv_icmp_ge (tgt := 59) hx hb dX11_movesByArrivals_31 (by decide) (fun qc2 => ?_) (fun qc2 => ?_)
        · have hf := gif_t hf qc2
          exact J_59 zv0 zv1 zv3 zv4 _ _ _ ls hf hw (lv_sub hl [0, 1, 3, 4] rfl)
        · have hf := gif_f hf qc2
          refine lv_aload_n hx hb dX11_movesByArrivals_34 rfl (lv_at hl 0 rfl) ?_
          obtain ⟨zt3, qzt3, hf⟩ := gb_el hf
          refine gx_getR X hw qzt3 clX11 (by decide) mf_X11_55 dX11_movesByArrivals_35 ?_
          refine lv_aload_n hx hb dX11_movesByArrivals_38 rfl (lv_at hl 0 rfl) ?_
          refine W.eq (g2 := F0 m 39 ls [.ref (gB E + zv0), .ref (gB E + zt3)]) rfl ?_
          obtain ⟨zt4, qzt4, hf⟩ := gb_el hf
          refine gx_getR X hw qzt4 clX11 (by decide) mf_X11_69 dX11_movesByArrivals_39 ?_
          refine lv_aload_n hx hb dX11_movesByArrivals_42 rfl (lv_at hl 0 rfl) ?_
          obtain ⟨zt5, qzt5, hf⟩ := gb_el hf
          refine gx_getR X hw qzt5 clX11 (by decide) mf_X11_59 dX11_movesByArrivals_43 ?_
          refine lv_iload hx hb dX11_movesByArrivals_46 (lv_at hl 5 rfl) ?_
          obtain ⟨zt6, qzt6, hf⟩ := gb_el hf
          refine gx_iald X hw qzt6 dX11_movesByArrivals_48 ?_
          refine lv_null hx hb dX11_movesByArrivals_49 ?_
          obtain ⟨qizh7, hf⟩ := gg_el hf
          obtain ⟨zh7, qzh7, hf⟩ := gb_el hf
          refine gx_kv (gx_runV (As := [.ref (gB E + zt4), .int zt6, gq E none]) (rest := []) X hw (c_X1_takeIn l E N zt3 zt4 zt6 none zh qzh7) kX1_takeIn mm_X11_337 qizh7 clX1 ⟨Nat.le_of_ble_eq_true rfl, Nat.le_of_ble_eq_true rfl⟩ rfl rfl rfl hl.1 (Nat.le_of_ble_eq_true rfl) rfl dX11_movesByArrivals_50 ⟨Nat.le_of_ble_eq_true rfl, Nat.le_of_ble_eq_true rfl⟩) hw (fun H locs hw => ?_)
          obtain ⟨zx8, ezx8⟩ : ∃ y : Int32, y = zv5 + 1 := ⟨_, rfl⟩
          have hf := gl_el hf ezx8
          refine lv_iinc (v := zx8) (lv' := [(5, .int zx8), (0, .ref (gB E + zv0)), (1, .int zv1), (2, .int zv2), (3, .int zv3), (4, .ref (gB E + zv4))]) hx hb dX11_movesByArrivals_53 hl (k := 5) rfl (by rw [ezx8]; rfl) (by decide) rfl (fun ls hl => ?_)
          refine lv_goto (tgt := 21) hx hb dX11_movesByArrivals_56 (by decide) ?_
          exact ih_21 zv0 zv1 zv2 zv3 zv4 zx8 _ _ _ ls hf hw (lv_sub hl [1, 2, 3, 4, 5, 0] rfl)
  unfold f_X11_movesByArrivals at hf
  refine lv_aload_n hx hb dX11_movesByArrivals_0 rfl (lv_at hl 0 rfl) ?_
  obtain ⟨zt1, qzt1, hf⟩ := gb_el hf
  refine gx_getR X hw qzt1 clX11 (by decide) mf_X11_37 dX11_movesByArrivals_1 ?_
  obtain ⟨zt2, qzt2, hf⟩ := gb_el hf
  refine gx_getR X hw qzt2 clX9 (by decide) mf_X11_112 dX11_movesByArrivals_4 ?_
  refine lv_astore (lv' := [(4, .ref (gB E + zt2)), (0, .ref (gB E + za0)), (1, .int za1), (2, .int za2), (3, .int za3)]) hx hb dX11_movesByArrivals_7 hl (by decide) rfl (fun ls hl => ?_)
  refine lv_aload_n hx hb dX11_movesByArrivals_9 rfl (lv_at hl 1 rfl) ?_
  obtain ⟨zt3, qzt3, hf⟩ := gb_el hf
  refine gx_getR X hw qzt3 clX11 (by decide) mf_X11_55 dX11_movesByArrivals_10 ?_
  refine lv_aload hx hb dX11_movesByArrivals_13 (lv_at hl 0 rfl) ?_
  obtain ⟨qizh4, hf⟩ := gg_el hf
  obtain ⟨zh4, qzh4, hf⟩ := gb_el hf
  refine gx_kv (gx_runV (As := [.ref (gB E + zt2)]) (rest := []) X hw (c_X1_copyFrom l E N zt3 zt2 zh qzh4) kX1_copyFrom mm_X11_334 qizh4 clX1 ⟨Nat.le_of_ble_eq_true rfl, Nat.le_of_ble_eq_true rfl⟩ rfl rfl rfl hl.1 (Nat.le_of_ble_eq_true rfl) rfl dX11_movesByArrivals_15 ⟨Nat.le_of_ble_eq_true rfl, Nat.le_of_ble_eq_true rfl⟩) hw (fun H locs hw => ?_)
  refine lv_iconst (v := 0) hx hb dX11_movesByArrivals_18 (by decide) ?_
  refine W.eq (g2 := F0 m 19 ls [.int 0]) rfl ?_
  refine lv_istore (lv' := [(5, .int 0), (4, .ref (gB E + zt2)), (0, .ref (gB E + za0)), (1, .int za1), (2, .int za2), (3, .int za3)]) hx hb dX11_movesByArrivals_19 hl (by decide) rfl (fun ls hl => ?_)
  exact L_21 N za0 za1 za2 za3 zt2 0 _ _ _ ls hf hw (lv_sub hl [2, 3, 4, 5, 1, 0] rfl)
abbrev rm_X11_addArrivals : Room := { frames := 1, cells := 0, slots := 0, locals := 21 }
set_option maxHeartbeats 4000000 in
set_option maxRecDepth 100000 in
theorem c_X11_addArrivals (l : Launch) (E : gE) (N : Nat) (za0 : Nat) (za1 : Int32) (za2 : Int32) (zh : PH) {h9 : PH} {r9 : Int32} (hf : f_X11_addArrivals N za0 za1 za2 zh = some (r9, h9)) : Met l yX11_addArrivals (gWS yX11_addArrivals cX11_addArrivals 5 (some .int)) rm_X11_addArrivals (gPc E [.ref (gB E + za0), .int za1, .int za2] zh) (gQi E r9 h9) 0 0 (gA E) := by
  refine gx_met (by decide) ?_ rfl
  intro p e s m below meth c X hr hlk hin2 hw
  have hx := X.1.1
  have hb := X.1.2.1
  have hl := lv_entry [.ref (gB E + za0), .int za1, .int za2] (n := 5) (Nat.le_of_ble_eq_true rfl)
  rw [lg_entry_eq]
  generalize (lg_sl [.ref (gB E + za0), .int za1, .int za2] ++ List.replicate (5 - (lg_sl [.ref (gB E + za0), .int za1, .int za2]).length) Slot.unset).toArray = ls at hl ⊢
  have hl : lv_has ls 5 [(0, .ref (gB E + za0)), (1, .int za1), (2, .int za2)] := hl
  have L_5 : ∀ (zn5 : Nat) (zv0 : Nat) (zv1 : Int32) (zv3 : Int32) (zv4 : Int32) (zh : PH) (H : Heap) (locs : List Loc) (ls : Array Slot), gi (fun zk zs => f_X11_addArrivals_5 N zk zs.1 zs.2.1 zs.2.2.1 zs.2.2.2.1 zs.2.2.2.2) zn5 (zv0, zv1, zv3, zv4, zh) = some (r9, h9) → gw E s zh H locs → lv_has ls 5 [(0, .ref (gB E + zv0)), (1, .int zv1), (3, .int zv3), (4, .int zv4)] → W p l e rm_X11_addArrivals s m [.ref (gB E + za0), .int za1, .int za2].toArray below meth c H locs 0 0 (MQ below (gQi E r9 h9) [.ref (gB E + za0), .int za1, .int za2].toArray s 0 0 (gA E)) (F0 m 5 ls []) := by
    intro zn5
    induction zn5 with
    | zero =>
      intro zv0 zv1 zv3 zv4 zh H locs ls hf
      cases hf
    | succ zn5 ih_5 =>
      have J_39 : ∀ (zv0 : Nat) (zv1 : Int32) (zv3 : Int32) (zv4 : Int32) (zh : PH) (H : Heap) (locs : List Loc) (ls : Array Slot), f_X11_addArrivals_39 N (gi (fun zk zs => f_X11_addArrivals_5 N zk zs.1 zs.2.1 zs.2.2.1 zs.2.2.2.1 zs.2.2.2.2) zn5) zv0 zv1 zv3 zv4 zh = some (r9, h9) → gw E s zh H locs → lv_has ls 5 [(0, .ref (gB E + zv0)), (1, .int zv1), (3, .int zv3), (4, .int zv4)] → W p l e rm_X11_addArrivals s m [.ref (gB E + za0), .int za1, .int za2].toArray below meth c H locs 0 0 (MQ below (gQi E r9 h9) [.ref (gB E + za0), .int za1, .int za2].toArray s 0 0 (gA E)) (F0 m 39 ls []) := by
        intro zv0 zv1 zv3 zv4 zh H locs ls hf hw hl
        unfold f_X11_addArrivals_39 at hf
        obtain ⟨zx1, ezx1⟩ : ∃ y : Int32, y = zv4 + 1 := ⟨_, rfl⟩
        have hf := gl_el hf ezx1
        refine lv_iinc (v := zx1) (lv' := [(4, .int zx1), (0, .ref (gB E + zv0)), (1, .int zv1), (3, .int zv3)]) hx hb dX11_addArrivals_39 hl (k := 3) rfl (by rw [ezx1]; rfl) (by decide) rfl (fun ls hl => ?_)
        refine lv_goto (tgt := 5) hx hb dX11_addArrivals_42 (by decide) ?_
        exact ih_5 zv0 zv1 zv3 zx1 _ _ _ ls hf hw (lv_sub hl [1, 2, 3, 0] rfl)
      intro zv0 zv1 zv3 zv4 zh H locs ls hf hw hl
      have hf := gi_s hf
      dsimp only at hf
      unfold f_X11_addArrivals_5 at hf
      refine lv_iload hx hb dX11_addArrivals_5 (lv_at hl 3 rfl) ?_
      refine lv_bipush (v := 10) hx hb dX11_addArrivals_7 (by decide) ?_
      refine lv_icmp_ge (tgt := 45) hx hb dX11_addArrivals_9 (by decide) (fun qc1 => ?_) (fun qc1 => ?_)
      · have hf := gif_t hf qc1
        refine lv_iload_n hx hb dX11_addArrivals_45 rfl (lv_at hl 2 rfl) ?_
        exact gx_iret X hr hlk hw hf dX11_addArrivals_46
      · have hf := gif_f hf qc1
        refine lv_iload_n hx hb dX11_addArrivals_12 rfl (lv_at hl 1 rfl) ?_
        refine lv_iload hx hb dX11_addArrivals_13 (lv_at hl 3 rfl) ?_
        obtain ⟨zt3, zh2, qzh2, hf⟩ := gc_el hf
        refine gx_ki (gx_runS (As := [.int zv1, .int zv4]) (rest := []) X hw (c_X11_bitOf l E N zv1 zv4 zh qzh2) kX11_bitOf mm_X11_127 ⟨Nat.le_of_ble_eq_true rfl, Nat.le_of_ble_eq_true rfl⟩ rfl rfl rfl hl.1 (Nat.le_of_ble_eq_true rfl) rfl dX11_addArrivals_15 ⟨Nat.le_of_ble_eq_true rfl, Nat.le_of_ble_eq_true rfl⟩) hw (fun H locs hw => ?_)
        refine lv_iconst (v := 1) hx hb dX11_addArrivals_18 (by decide) ?_
        refine lv_icmp_ne (tgt := 39) hx hb dX11_addArrivals_19 (by decide) (fun qc4 => ?_) (fun qc4 => ?_)
        · have hf := gif_f hf qc4
          exact J_39 zv0 zv1 zv3 zv4 _ _ _ ls hf hw (lv_sub hl [0, 1, 2, 3] rfl)
        · have hf := gif_t hf qc4
          refine lv_iload_n hx hb dX11_addArrivals_22 rfl (lv_at hl 2 rfl) ?_
          refine W.eq (g2 := F0 m 23 ls [.int zv3]) rfl ?_
          refine lv_bipush (v := 7) hx hb dX11_addArrivals_23 (by decide) ?_
          refine lv_icmp_ge (tgt := 39) hx hb dX11_addArrivals_25 (by decide) (fun qc5 => ?_) (fun qc5 => ?_)
          · have hf := gif_t hf qc5
            exact J_39 zv0 zv1 zv3 zv4 _ _ _ ls hf hw (lv_sub hl [0, 1, 2, 3] rfl)
          · have hf := gif_f hf qc5
            refine lv_aload_n hx hb dX11_addArrivals_28 rfl (lv_at hl 0 rfl) ?_
            obtain ⟨zt6, qzt6, hf⟩ := gb_el hf
            refine gx_getR X hw qzt6 clX11 (by decide) mf_X11_59 dX11_addArrivals_29 ?_
            refine lv_iload_n hx hb dX11_addArrivals_32 rfl (lv_at hl 2 rfl) ?_
            refine lv_iload hx hb dX11_addArrivals_33 (lv_at hl 3 rfl) ?_
            obtain ⟨zh7, qzh7, hf⟩ := gb_el hf
            refine gx_iast X hw qzh7 dX11_addArrivals_35 (fun H locs hw => ?_)
            obtain ⟨zx8, ezx8⟩ : ∃ y : Int32, y = zv3 + 1 := ⟨_, rfl⟩
            have hf := gl_el hf ezx8
            refine lv_iinc (v := zx8) (lv' := [(3, .int zx8), (0, .ref (gB E + zv0)), (1, .int zv1), (4, .int zv4)]) hx hb dX11_addArrivals_36 hl (k := 2) rfl (by rw [ezx8]; rfl) (by decide) rfl (fun ls hl => ?_)
            exact J_39 zv0 zv1 zx8 zv4 _ _ _ ls hf hw (lv_sub hl [1, 2, 0, 3] rfl)
  unfold f_X11_addArrivals at hf
  refine lv_iload_n hx hb dX11_addArrivals_0 rfl (lv_at hl 2 rfl) ?_
  refine lv_istore_n (lv' := [(3, .int za2), (0, .ref (gB E + za0)), (1, .int za1), (2, .int za2)]) hx hb dX11_addArrivals_1 rfl hl (by decide) rfl (fun ls hl => ?_)
  refine lv_iconst (v := 0) hx hb dX11_addArrivals_2 (by decide) ?_
  refine lv_istore (lv' := [(4, .int 0), (3, .int za2), (0, .ref (gB E + za0)), (1, .int za1), (2, .int za2)]) hx hb dX11_addArrivals_3 hl (by decide) rfl (fun ls hl => ?_)
  exact L_5 N za0 za1 za2 0 _ _ _ ls hf hw (lv_sub hl [2, 3, 1, 0] rfl)
abbrev rm_X11_planArrivals : Room := { frames := 2, cells := 0, slots := 0, locals := 45 }
set_option maxHeartbeats 4000000 in
set_option maxRecDepth 100000 in
theorem c_X11_planArrivals (l : Launch) (E : gE) (N : Nat) (za0 : Nat) (za1 : Int32) (zh : PH) {h9 : PH} (hf : f_X11_planArrivals N za0 za1 zh = some h9) : Met l yX11_planArrivals (gWS yX11_planArrivals cX11_planArrivals 4 none) rm_X11_planArrivals (gPc E [.ref (gB E + za0), .int za1] zh) (gQv E h9) 0 0 (gA E) := by
  refine gx_met (by decide) ?_ rfl
  intro p e s m below meth c X hr hlk hin2 hw
  have hx := X.1.1
  have hb := X.1.2.1
  have hl := lv_entry [.ref (gB E + za0), .int za1] (n := 4) (Nat.le_of_ble_eq_true rfl)
  rw [lg_entry_eq]
  generalize (lg_sl [.ref (gB E + za0), .int za1] ++ List.replicate (4 - (lg_sl [.ref (gB E + za0), .int za1]).length) Slot.unset).toArray = ls at hl ⊢
  have hl : lv_has ls 4 [(0, .ref (gB E + za0)), (1, .int za1)] := hl
  unfold f_X11_planArrivals at hf
  refine lv_aload_n hx hb dX11_planArrivals_0 rfl (lv_at hl 0 rfl) ?_
  obtain ⟨zt1, qzt1, hf⟩ := gb_el hf
  refine gx_getR X hw qzt1 clX11 (by decide) mf_X11_37 dX11_planArrivals_1 ?_
  obtain ⟨zt2, qzt2, hf⟩ := gb_el hf
  refine gx_getI X hw qzt2 clX9 (by decide) mf_X11_283 dX11_planArrivals_4 ?_
  refine lv_iconst (v := 1) hx hb dX11_planArrivals_7 (by decide) ?_
  refine lv_iload_n hx hb dX11_planArrivals_8 rfl (lv_at hl 1 rfl) ?_
  refine lv_ishl hx hb dX11_planArrivals_9 ?_
  refine lv_iconst (v := (-1)) hx hb dX11_planArrivals_10 (by decide) ?_
  refine lv_ixor hx hb dX11_planArrivals_11 ?_
  refine lv_iand hx hb dX11_planArrivals_12 ?_
  refine W.eq (g2 := F0 m 13 ls [.int (zt2 &&& ((1 <<< (za1 &&& 31)) ^^^ (-1)))]) rfl ?_
  refine lv_topi (fun zx3 ezx3 => ?_)
  have hf := gl_el hf ezx3
  refine lv_istore_n (lv' := [(2, .int zx3), (0, .ref (gB E + za0)), (1, .int za1)]) hx hb dX11_planArrivals_13 rfl hl (by decide) rfl (fun ls hl => ?_)
  refine lv_aload_n hx hb dX11_planArrivals_14 rfl (lv_at hl 1 rfl) ?_
  refine lv_iload_n hx hb dX11_planArrivals_15 rfl (lv_at hl 0 rfl) ?_
  refine lv_aload_n hx hb dX11_planArrivals_16 rfl (lv_at hl 1 rfl) ?_
  obtain ⟨zt4, qzt4, hf⟩ := gb_el hf
  refine gx_getR X hw qzt4 clX11 (by decide) mf_X11_69 dX11_planArrivals_17 ?_
  obtain ⟨zt5, qzt5, hf⟩ := gb_el hf
  refine gx_getI X hw qzt5 clX2 (by decide) mf_X11_124 dX11_planArrivals_20 ?_
  refine lv_iconst (v := (-1)) hx hb dX11_planArrivals_23 (by decide) ?_
  refine lv_ixor hx hb dX11_planArrivals_24 ?_
  refine lv_iand hx hb dX11_planArrivals_25 ?_
  refine lv_iconst (v := 0) hx hb dX11_planArrivals_26 (by decide) ?_
  refine W.eq (g2 := F0 m 27 ls [.int 0, .int (zx3 &&& (zt5 ^^^ (-1))), .ref (gB E + za0)]) rfl ?_
  obtain ⟨qizh6, hf⟩ := gg_el hf
  obtain ⟨zt7, zh6, qzh6, hf⟩ := gc_el hf
  refine gx_ki (gx_runV (As := [.int (zx3 &&& (zt5 ^^^ (-1))), .int 0]) (rest := []) X hw (c_X11_addArrivals l E N za0 (zx3 &&& (zt5 ^^^ (-1))) 0 zh qzh6) kX11_addArrivals mm_X11_331 qizh6 clX11 ⟨Nat.le_of_ble_eq_true rfl, Nat.le_of_ble_eq_true rfl⟩ rfl rfl rfl hl.1 (Nat.le_of_ble_eq_true rfl) rfl dX11_planArrivals_27 ⟨Nat.le_of_ble_eq_true rfl, Nat.le_of_ble_eq_true rfl⟩) hw (fun H locs hw => ?_)
  refine lv_istore_n (lv' := [(3, .int zt7), (2, .int zx3), (0, .ref (gB E + za0)), (1, .int za1)]) hx hb dX11_planArrivals_30 rfl hl (by decide) rfl (fun ls hl => ?_)
  refine lv_aload_n hx hb dX11_planArrivals_31 rfl (lv_at hl 2 rfl) ?_
  refine lv_iload_n hx hb dX11_planArrivals_32 rfl (lv_at hl 1 rfl) ?_
  refine lv_aload_n hx hb dX11_planArrivals_33 rfl (lv_at hl 2 rfl) ?_
  obtain ⟨zt8, qzt8, hf⟩ := gb_el hf
  refine gx_getR X hw qzt8 clX11 (by decide) mf_X11_69 dX11_planArrivals_34 ?_
  obtain ⟨zt9, qzt9, hf⟩ := gb_el hf
  refine gx_getI X hw qzt9 clX2 (by decide) mf_X11_124 dX11_planArrivals_37 ?_
  refine lv_iand hx hb dX11_planArrivals_40 ?_
  refine lv_iload_n hx hb dX11_planArrivals_41 rfl (lv_at hl 0 rfl) ?_
  obtain ⟨qizh10, hf⟩ := gg_el hf
  obtain ⟨zt11, zh10, qzh10, hf⟩ := gc_el hf
  refine gx_ki (gx_runV (As := [.int (zx3 &&& zt9), .int zt7]) (rest := []) X hw (c_X11_addArrivals l E N za0 (zx3 &&& zt9) zt7 zh6 qzh10) kX11_addArrivals mm_X11_331 qizh10 clX11 ⟨Nat.le_of_ble_eq_true rfl, Nat.le_of_ble_eq_true rfl⟩ rfl rfl rfl hl.1 (Nat.le_of_ble_eq_true rfl) rfl dX11_planArrivals_42 ⟨Nat.le_of_ble_eq_true rfl, Nat.le_of_ble_eq_true rfl⟩) hw (fun H locs hw => ?_)
  refine W.eq (g2 := F0 m 45 ls [.int zt11]) rfl ?_
  refine lv_istore_n (lv' := [(3, .int zt11), (2, .int zx3), (0, .ref (gB E + za0)), (1, .int za1)]) hx hb dX11_planArrivals_45 rfl hl (by decide) rfl (fun ls hl => ?_)
  refine lv_aload_n hx hb dX11_planArrivals_46 rfl (lv_at hl 2 rfl) ?_
  refine lv_aload_n hx hb dX11_planArrivals_47 rfl (lv_at hl 2 rfl) ?_
  obtain ⟨zt12, qzt12, hf⟩ := gb_el hf
  refine gx_getR X hw qzt12 clX11 (by decide) mf_X11_37 dX11_planArrivals_48 ?_
  obtain ⟨zt13, qzt13, hf⟩ := gb_el hf
  refine gx_getI X hw qzt13 clX9 (by decide) mf_X11_283 dX11_planArrivals_51 ?_
  refine lv_iload_n hx hb dX11_planArrivals_54 rfl (lv_at hl 1 rfl) ?_
  refine lv_iconst (v := (-1)) hx hb dX11_planArrivals_55 (by decide) ?_
  refine lv_ixor hx hb dX11_planArrivals_56 ?_
  refine lv_iand hx hb dX11_planArrivals_57 ?_
  refine lv_iload_n hx hb dX11_planArrivals_58 rfl (lv_at hl 0 rfl) ?_
  refine W.eq (g2 := F0 m 59 ls [.int zt11, .int (zt13 &&& (zx3 ^^^ (-1))), .ref (gB E + za0)]) rfl ?_
  obtain ⟨qizh14, hf⟩ := gg_el hf
  obtain ⟨zt15, zh14, qzh14, hf⟩ := gc_el hf
  refine gx_ki (gx_runV (As := [.int (zt13 &&& (zx3 ^^^ (-1))), .int zt11]) (rest := []) X hw (c_X11_addArrivals l E N za0 (zt13 &&& (zx3 ^^^ (-1))) zt11 zh10 qzh14) kX11_addArrivals mm_X11_331 qizh14 clX11 ⟨Nat.le_of_ble_eq_true rfl, Nat.le_of_ble_eq_true rfl⟩ rfl rfl rfl hl.1 (Nat.le_of_ble_eq_true rfl) rfl dX11_planArrivals_59 ⟨Nat.le_of_ble_eq_true rfl, Nat.le_of_ble_eq_true rfl⟩) hw (fun H locs hw => ?_)
  refine lv_pop hx hb dX11_planArrivals_62 rfl ?_
  exact gx_vret X hr hlk hw hf dX11_planArrivals_63
