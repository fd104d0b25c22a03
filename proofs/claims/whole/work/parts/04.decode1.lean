theorem dX0_init_0 : decode cX0_init 0 = .ok (.aload_n 0, 1) := by decide +kernel
theorem dX0_init_1 : decode cX0_init 1 = .ok (.invokespecial 3, 3) := by decide +kernel
theorem dX0_init_4 : decode cX0_init 4 = .ok (.aload_n 0, 1) := by decide +kernel
theorem dX0_init_5 : decode cX0_init 5 = .ok (.sipush 1000, 3) := by decide +kernel
theorem dX0_init_8 : decode cX0_init 8 = .ok (.newarray .long, 2) := by decide +kernel
theorem dX0_init_10 : decode cX0_init 10 = .ok (.putfield 11, 3) := by decide +kernel
theorem dX0_init_13 : decode cX0_init 13 = .ok (.return_, 1) := by decide +kernel
theorem dX0_empty_0 : decode cX0_empty 0 = .ok (.aload_n 0, 1) := by decide +kernel
theorem dX0_empty_1 : decode cX0_empty 1 = .ok (.iconst 0, 1) := by decide +kernel
theorem dX0_empty_2 : decode cX0_empty 2 = .ok (.putfield 15, 3) := by decide +kernel
theorem dX0_empty_5 : decode cX0_empty 5 = .ok (.aload_n 0, 1) := by decide +kernel
theorem dX0_empty_6 : decode cX0_empty 6 = .ok (.iconst 0, 1) := by decide +kernel
theorem dX0_empty_7 : decode cX0_empty 7 = .ok (.putfield 19, 3) := by decide +kernel
theorem dX0_empty_10 : decode cX0_empty 10 = .ok (.return_, 1) := by decide +kernel
theorem dX0_copyFrom_0 : decode cX0_copyFrom 0 = .ok (.aload_n 1, 1) := by decide +kernel
theorem dX0_copyFrom_1 : decode cX0_copyFrom 1 = .ok (.getfield 11, 3) := by decide +kernel
theorem dX0_copyFrom_4 : decode cX0_copyFrom 4 = .ok (.iconst 0, 1) := by decide +kernel
theorem dX0_copyFrom_5 : decode cX0_copyFrom 5 = .ok (.aload_n 0, 1) := by decide +kernel
theorem dX0_copyFrom_6 : decode cX0_copyFrom 6 = .ok (.getfield 11, 3) := by decide +kernel
theorem dX0_copyFrom_9 : decode cX0_copyFrom 9 = .ok (.iconst 0, 1) := by decide +kernel
theorem dX0_copyFrom_10 : decode cX0_copyFrom 10 = .ok (.aload_n 1, 1) := by decide +kernel
theorem dX0_copyFrom_11 : decode cX0_copyFrom 11 = .ok (.getfield 15, 3) := by decide +kernel
theorem dX0_copyFrom_14 : decode cX0_copyFrom 14 = .ok (.invokestatic 22, 3) := by decide +kernel
theorem dX0_copyFrom_17 : decode cX0_copyFrom 17 = .ok (.aload_n 0, 1) := by decide +kernel
theorem dX0_copyFrom_18 : decode cX0_copyFrom 18 = .ok (.aload_n 1, 1) := by decide +kernel
theorem dX0_copyFrom_19 : decode cX0_copyFrom 19 = .ok (.getfield 15, 3) := by decide +kernel
theorem dX0_copyFrom_22 : decode cX0_copyFrom 22 = .ok (.putfield 15, 3) := by decide +kernel
theorem dX0_copyFrom_25 : decode cX0_copyFrom 25 = .ok (.aload_n 0, 1) := by decide +kernel
theorem dX0_copyFrom_26 : decode cX0_copyFrom 26 = .ok (.aload_n 1, 1) := by decide +kernel
theorem dX0_copyFrom_27 : decode cX0_copyFrom 27 = .ok (.getfield 19, 3) := by decide +kernel
theorem dX0_copyFrom_30 : decode cX0_copyFrom 30 = .ok (.putfield 19, 3) := by decide +kernel
theorem dX0_copyFrom_33 : decode cX0_copyFrom 33 = .ok (.return_, 1) := by decide +kernel
theorem dX0_beginChain_0 : decode cX0_beginChain 0 = .ok (.aload_n 0, 1) := by decide +kernel
theorem dX0_beginChain_1 : decode cX0_beginChain 1 = .ok (.aload_n 0, 1) := by decide +kernel
theorem dX0_beginChain_2 : decode cX0_beginChain 2 = .ok (.getfield 19, 3) := by decide +kernel
theorem dX0_beginChain_5 : decode cX0_beginChain 5 = .ok (.iload_n 1, 1) := by decide +kernel
theorem dX0_beginChain_6 : decode cX0_beginChain 6 = .ok (.invokestatic 28, 3) := by decide +kernel
theorem dX0_beginChain_9 : decode cX0_beginChain 9 = .ok (.putfield 19, 3) := by decide +kernel
theorem dX0_beginChain_12 : decode cX0_beginChain 12 = .ok (.return_, 1) := by decide +kernel
theorem dX0_write_0 : decode cX0_write 0 = .ok (.aload_n 0, 1) := by decide +kernel
theorem dX0_write_1 : decode cX0_write 1 = .ok (.getfield 15, 3) := by decide +kernel
theorem dX0_write_4 : decode cX0_write 4 = .ok (.sipush 1000, 3) := by decide +kernel
theorem dX0_write_7 : decode cX0_write 7 = .ok (.if_icmp .ge 71, 3) := by decide +kernel
theorem dX0_write_10 : decode cX0_write 10 = .ok (.iload_n 1, 1) := by decide +kernel
theorem dX0_write_11 : decode cX0_write 11 = .ok (.bipush 16, 2) := by decide +kernel
theorem dX0_write_13 : decode cX0_write 13 = .ok (.imul, 1) := by decide +kernel
theorem dX0_write_14 : decode cX0_write 14 = .ok (.iload_n 2, 1) := by decide +kernel
theorem dX0_write_15 : decode cX0_write 15 = .ok (.iconst (-1), 1) := by decide +kernel
theorem dX0_write_16 : decode cX0_write 16 = .ok (.isub, 1) := by decide +kernel
theorem dX0_write_17 : decode cX0_write 17 = .ok (.iadd, 1) := by decide +kernel
theorem dX0_write_18 : decode cX0_write 18 = .ok (.bipush 16, 2) := by decide +kernel
theorem dX0_write_20 : decode cX0_write 20 = .ok (.imul, 1) := by decide +kernel
theorem dX0_write_21 : decode cX0_write 21 = .ok (.iload_n 3, 1) := by decide +kernel
theorem dX0_write_22 : decode cX0_write 22 = .ok (.iconst (-1), 1) := by decide +kernel
theorem dX0_write_23 : decode cX0_write 23 = .ok (.isub, 1) := by decide +kernel
theorem dX0_write_24 : decode cX0_write 24 = .ok (.iadd, 1) := by decide +kernel
theorem dX0_write_25 : decode cX0_write 25 = .ok (.i2l, 1) := by decide +kernel
theorem dX0_write_26 : decode cX0_write 26 = .ok (.lstore 5, 2) := by decide +kernel
theorem dX0_write_28 : decode cX0_write 28 = .ok (.aload_n 0, 1) := by decide +kernel
theorem dX0_write_29 : decode cX0_write 29 = .ok (.getfield 11, 3) := by decide +kernel
theorem dX0_write_32 : decode cX0_write 32 = .ok (.aload_n 0, 1) := by decide +kernel
theorem dX0_write_33 : decode cX0_write 33 = .ok (.getfield 15, 3) := by decide +kernel
theorem dX0_write_36 : decode cX0_write 36 = .ok (.aload_n 0, 1) := by decide +kernel
theorem dX0_write_37 : decode cX0_write 37 = .ok (.getfield 19, 3) := by decide +kernel
theorem dX0_write_40 : decode cX0_write 40 = .ok (.i2l, 1) := by decide +kernel
theorem dX0_write_41 : decode cX0_write 41 = .ok (.ldc2_w 34, 3) := by decide +kernel
theorem dX0_write_44 : decode cX0_write 44 = .ok (.lmul, 1) := by decide +kernel
theorem dX0_write_45 : decode cX0_write 45 = .ok (.iload 4, 2) := by decide +kernel
theorem dX0_write_47 : decode cX0_write 47 = .ok (.i2l, 1) := by decide +kernel
theorem dX0_write_48 : decode cX0_write 48 = .ok (.ladd, 1) := by decide +kernel
theorem dX0_write_49 : decode cX0_write 49 = .ok (.ldc2_w 36, 3) := by decide +kernel
theorem dX0_write_52 : decode cX0_write 52 = .ok (.lmul, 1) := by decide +kernel
theorem dX0_write_53 : decode cX0_write 53 = .ok (.lload 5, 2) := by decide +kernel
theorem dX0_write_55 : decode cX0_write 55 = .ok (.ladd, 1) := by decide +kernel
theorem dX0_write_56 : decode cX0_write 56 = .ok (.lastore, 1) := by decide +kernel
theorem dX0_write_57 : decode cX0_write 57 = .ok (.aload_n 0, 1) := by decide +kernel
theorem dX0_write_58 : decode cX0_write 58 = .ok (.dup, 1) := by decide +kernel
theorem dX0_write_59 : decode cX0_write 59 = .ok (.getfield 15, 3) := by decide +kernel
theorem dX0_write_62 : decode cX0_write 62 = .ok (.iconst 1, 1) := by decide +kernel
theorem dX0_write_63 : decode cX0_write 63 = .ok (.iadd, 1) := by decide +kernel
theorem dX0_write_64 : decode cX0_write 64 = .ok (.putfield 15, 3) := by decide +kernel
theorem dX0_write_67 : decode cX0_write 67 = .ok (.aload_n 0, 1) := by decide +kernel
theorem dX0_write_68 : decode cX0_write 68 = .ok (.dup, 1) := by decide +kernel
theorem dX0_write_69 : decode cX0_write 69 = .ok (.getfield 19, 3) := by decide +kernel
theorem dX0_write_72 : decode cX0_write 72 = .ok (.iload 4, 2) := by decide +kernel
theorem dX0_write_74 : decode cX0_write 74 = .ok (.iadd, 1) := by decide +kernel
theorem dX0_write_75 : decode cX0_write 75 = .ok (.putfield 19, 3) := by decide +kernel
theorem dX0_write_78 : decode cX0_write 78 = .ok (.return_, 1) := by decide +kernel
theorem dX0_placeOf_0 : decode cX0_placeOf 0 = .ok (.aload_n 0, 1) := by decide +kernel
theorem dX0_placeOf_1 : decode cX0_placeOf 1 = .ok (.getfield 15, 3) := by decide +kernel
theorem dX0_placeOf_4 : decode cX0_placeOf 4 = .ok (.iconst 1, 1) := by decide +kernel
theorem dX0_placeOf_5 : decode cX0_placeOf 5 = .ok (.isub, 1) := by decide +kernel
theorem dX0_placeOf_6 : decode cX0_placeOf 6 = .ok (.istore_n 3, 1) := by decide +kernel
theorem dX0_placeOf_7 : decode cX0_placeOf 7 = .ok (.iload_n 3, 1) := by decide +kernel
theorem dX0_placeOf_8 : decode cX0_placeOf 8 = .ok (.ifCond .lt 47, 3) := by decide +kernel
theorem dX0_placeOf_11 : decode cX0_placeOf 11 = .ok (.aload_n 0, 1) := by decide +kernel
theorem dX0_placeOf_12 : decode cX0_placeOf 12 = .ok (.iload_n 3, 1) := by decide +kernel
theorem dX0_placeOf_13 : decode cX0_placeOf 13 = .ok (.invokevirtual 38, 3) := by decide +kernel
theorem dX0_placeOf_16 : decode cX0_placeOf 16 = .ok (.iload_n 1, 1) := by decide +kernel
theorem dX0_placeOf_17 : decode cX0_placeOf 17 = .ok (.if_icmp .ne 32, 3) := by decide +kernel
theorem dX0_placeOf_20 : decode cX0_placeOf 20 = .ok (.aload_n 0, 1) := by decide +kernel
theorem dX0_placeOf_21 : decode cX0_placeOf 21 = .ok (.iload_n 3, 1) := by decide +kernel
theorem dX0_placeOf_22 : decode cX0_placeOf 22 = .ok (.invokevirtual 42, 3) := by decide +kernel
theorem dX0_placeOf_25 : decode cX0_placeOf 25 = .ok (.iload_n 2, 1) := by decide +kernel
theorem dX0_placeOf_26 : decode cX0_placeOf 26 = .ok (.if_icmp .gt 23, 3) := by decide +kernel
theorem dX0_placeOf_29 : decode cX0_placeOf 29 = .ok (.aload_n 0, 1) := by decide +kernel
theorem dX0_placeOf_30 : decode cX0_placeOf 30 = .ok (.iload_n 3, 1) := by decide +kernel
theorem dX0_placeOf_31 : decode cX0_placeOf 31 = .ok (.invokevirtual 45, 3) := by decide +kernel
theorem dX0_placeOf_34 : decode cX0_placeOf 34 = .ok (.iload_n 2, 1) := by decide +kernel
theorem dX0_placeOf_35 : decode cX0_placeOf 35 = .ok (.if_icmp .gt 11, 3) := by decide +kernel
theorem dX0_placeOf_38 : decode cX0_placeOf 38 = .ok (.aload_n 0, 1) := by decide +kernel
theorem dX0_placeOf_39 : decode cX0_placeOf 39 = .ok (.iload_n 3, 1) := by decide +kernel
theorem dX0_placeOf_40 : decode cX0_placeOf 40 = .ok (.invokevirtual 48, 3) := by decide +kernel
theorem dX0_placeOf_43 : decode cX0_placeOf 43 = .ok (.goto 5, 3) := by decide +kernel
theorem dX0_placeOf_46 : decode cX0_placeOf 46 = .ok (.bipush (-2), 2) := by decide +kernel
theorem dX0_placeOf_48 : decode cX0_placeOf 48 = .ok (.ireturn, 1) := by decide +kernel
theorem dX0_placeOf_49 : decode cX0_placeOf 49 = .ok (.iinc 3 (-1), 3) := by decide +kernel
theorem dX0_placeOf_52 : decode cX0_placeOf 52 = .ok (.goto (-45), 3) := by decide +kernel
theorem dX0_placeOf_55 : decode cX0_placeOf 55 = .ok (.iconst (-1), 1) := by decide +kernel
theorem dX0_placeOf_56 : decode cX0_placeOf 56 = .ok (.ireturn, 1) := by decide +kernel
theorem dX0_occupantOf_0 : decode cX0_occupantOf 0 = .ok (.aload_n 0, 1) := by decide +kernel
theorem dX0_occupantOf_1 : decode cX0_occupantOf 1 = .ok (.getfield 15, 3) := by decide +kernel
theorem dX0_occupantOf_4 : decode cX0_occupantOf 4 = .ok (.iconst 1, 1) := by decide +kernel
theorem dX0_occupantOf_5 : decode cX0_occupantOf 5 = .ok (.isub, 1) := by decide +kernel
theorem dX0_occupantOf_6 : decode cX0_occupantOf 6 = .ok (.istore_n 3, 1) := by decide +kernel
theorem dX0_occupantOf_7 : decode cX0_occupantOf 7 = .ok (.iload_n 3, 1) := by decide +kernel
theorem dX0_occupantOf_8 : decode cX0_occupantOf 8 = .ok (.ifCond .lt 53, 3) := by decide +kernel
theorem dX0_occupantOf_11 : decode cX0_occupantOf 11 = .ok (.aload_n 0, 1) := by decide +kernel
theorem dX0_occupantOf_12 : decode cX0_occupantOf 12 = .ok (.iload_n 3, 1) := by decide +kernel
theorem dX0_occupantOf_13 : decode cX0_occupantOf 13 = .ok (.invokevirtual 48, 3) := by decide +kernel
theorem dX0_occupantOf_16 : decode cX0_occupantOf 16 = .ok (.iload_n 1, 1) := by decide +kernel
theorem dX0_occupantOf_17 : decode cX0_occupantOf 17 = .ok (.if_icmp .ne 18, 3) := by decide +kernel
theorem dX0_occupantOf_20 : decode cX0_occupantOf 20 = .ok (.aload_n 0, 1) := by decide +kernel
theorem dX0_occupantOf_21 : decode cX0_occupantOf 21 = .ok (.iload_n 3, 1) := by decide +kernel
theorem dX0_occupantOf_22 : decode cX0_occupantOf 22 = .ok (.invokevirtual 45, 3) := by decide +kernel
theorem dX0_occupantOf_25 : decode cX0_occupantOf 25 = .ok (.iload_n 2, 1) := by decide +kernel
theorem dX0_occupantOf_26 : decode cX0_occupantOf 26 = .ok (.if_icmp .gt 9, 3) := by decide +kernel
theorem dX0_occupantOf_29 : decode cX0_occupantOf 29 = .ok (.aload_n 0, 1) := by decide +kernel
theorem dX0_occupantOf_30 : decode cX0_occupantOf 30 = .ok (.iload_n 3, 1) := by decide +kernel
theorem dX0_occupantOf_31 : decode cX0_occupantOf 31 = .ok (.invokevirtual 38, 3) := by decide +kernel
theorem dX0_occupantOf_34 : decode cX0_occupantOf 34 = .ok (.ireturn, 1) := by decide +kernel
theorem dX0_occupantOf_35 : decode cX0_occupantOf 35 = .ok (.aload_n 0, 1) := by decide +kernel
theorem dX0_occupantOf_36 : decode cX0_occupantOf 36 = .ok (.iload_n 3, 1) := by decide +kernel
theorem dX0_occupantOf_37 : decode cX0_occupantOf 37 = .ok (.invokevirtual 51, 3) := by decide +kernel
theorem dX0_occupantOf_40 : decode cX0_occupantOf 40 = .ok (.iload_n 1, 1) := by decide +kernel
theorem dX0_occupantOf_41 : decode cX0_occupantOf 41 = .ok (.if_icmp .ne 14, 3) := by decide +kernel
theorem dX0_occupantOf_44 : decode cX0_occupantOf 44 = .ok (.aload_n 0, 1) := by decide +kernel
theorem dX0_occupantOf_45 : decode cX0_occupantOf 45 = .ok (.iload_n 3, 1) := by decide +kernel
theorem dX0_occupantOf_46 : decode cX0_occupantOf 46 = .ok (.invokevirtual 42, 3) := by decide +kernel
theorem dX0_occupantOf_49 : decode cX0_occupantOf 49 = .ok (.iload_n 2, 1) := by decide +kernel
theorem dX0_occupantOf_50 : decode cX0_occupantOf 50 = .ok (.if_icmp .gt 5, 3) := by decide +kernel
theorem dX0_occupantOf_53 : decode cX0_occupantOf 53 = .ok (.iconst (-1), 1) := by decide +kernel
theorem dX0_occupantOf_54 : decode cX0_occupantOf 54 = .ok (.ireturn, 1) := by decide +kernel
theorem dX0_occupantOf_55 : decode cX0_occupantOf 55 = .ok (.iinc 3 (-1), 3) := by decide +kernel
theorem dX0_occupantOf_58 : decode cX0_occupantOf 58 = .ok (.goto (-51), 3) := by decide +kernel
theorem dX0_occupantOf_61 : decode cX0_occupantOf 61 = .ok (.iconst (-1), 1) := by decide +kernel
theorem dX0_occupantOf_62 : decode cX0_occupantOf 62 = .ok (.ireturn, 1) := by decide +kernel
theorem dX0_occupantsWithin_0 : decode cX0_occupantsWithin 0 = .ok (.iconst 0, 1) := by decide +kernel
theorem dX0_occupantsWithin_1 : decode cX0_occupantsWithin 1 = .ok (.istore 4, 2) := by decide +kernel
theorem dX0_occupantsWithin_3 : decode cX0_occupantsWithin 3 = .ok (.iconst (-1), 1) := by decide +kernel
theorem dX0_occupantsWithin_4 : decode cX0_occupantsWithin 4 = .ok (.istore 5, 2) := by decide +kernel
theorem dX0_occupantsWithin_6 : decode cX0_occupantsWithin 6 = .ok (.iconst 0, 1) := by decide +kernel
theorem dX0_occupantsWithin_7 : decode cX0_occupantsWithin 7 = .ok (.istore 6, 2) := by decide +kernel
theorem dX0_occupantsWithin_9 : decode cX0_occupantsWithin 9 = .ok (.iconst 0, 1) := by decide +kernel
theorem dX0_occupantsWithin_10 : decode cX0_occupantsWithin 10 = .ok (.istore 7, 2) := by decide +kernel
theorem dX0_occupantsWithin_12 : decode cX0_occupantsWithin 12 = .ok (.iload 7, 2) := by decide +kernel
theorem dX0_occupantsWithin_14 : decode cX0_occupantsWithin 14 = .ok (.aload_n 0, 1) := by decide +kernel
theorem dX0_occupantsWithin_15 : decode cX0_occupantsWithin 15 = .ok (.getfield 15, 3) := by decide +kernel
theorem dX0_occupantsWithin_18 : decode cX0_occupantsWithin 18 = .ok (.if_icmp .ge 80, 3) := by decide +kernel
theorem dX0_occupantsWithin_21 : decode cX0_occupantsWithin 21 = .ok (.aload_n 0, 1) := by decide +kernel
theorem dX0_occupantsWithin_22 : decode cX0_occupantsWithin 22 = .ok (.iload 7, 2) := by decide +kernel
theorem dX0_occupantsWithin_24 : decode cX0_occupantsWithin 24 = .ok (.invokevirtual 42, 3) := by decide +kernel
theorem dX0_occupantsWithin_27 : decode cX0_occupantsWithin 27 = .ok (.iload_n 3, 1) := by decide +kernel
theorem dX0_occupantsWithin_28 : decode cX0_occupantsWithin 28 = .ok (.if_icmp .gt 70, 3) := by decide +kernel
theorem dX0_occupantsWithin_31 : decode cX0_occupantsWithin 31 = .ok (.aload_n 0, 1) := by decide +kernel
theorem dX0_occupantsWithin_32 : decode cX0_occupantsWithin 32 = .ok (.iload 7, 2) := by decide +kernel
theorem dX0_occupantsWithin_34 : decode cX0_occupantsWithin 34 = .ok (.invokevirtual 51, 3) := by decide +kernel
theorem dX0_occupantsWithin_37 : decode cX0_occupantsWithin 37 = .ok (.iload_n 1, 1) := by decide +kernel
theorem dX0_occupantsWithin_38 : decode cX0_occupantsWithin 38 = .ok (.if_icmp .ne 28, 3) := by decide +kernel
theorem dX0_occupantsWithin_41 : decode cX0_occupantsWithin 41 = .ok (.iload 4, 2) := by decide +kernel
theorem dX0_occupantsWithin_43 : decode cX0_occupantsWithin 43 = .ok (.iload 5, 2) := by decide +kernel
theorem dX0_occupantsWithin_45 : decode cX0_occupantsWithin 45 = .ok (.iload 6, 2) := by decide +kernel
theorem dX0_occupantsWithin_47 : decode cX0_occupantsWithin 47 = .ok (.aload_n 0, 1) := by decide +kernel
theorem dX0_occupantsWithin_48 : decode cX0_occupantsWithin 48 = .ok (.iload 7, 2) := by decide +kernel
theorem dX0_occupantsWithin_50 : decode cX0_occupantsWithin 50 = .ok (.invokevirtual 42, 3) := by decide +kernel
theorem dX0_occupantsWithin_53 : decode cX0_occupantsWithin 53 = .ok (.iload_n 2, 1) := by decide +kernel
theorem dX0_occupantsWithin_54 : decode cX0_occupantsWithin 54 = .ok (.invokestatic 54, 3) := by decide +kernel
theorem dX0_occupantsWithin_57 : decode cX0_occupantsWithin 57 = .ok (.ior, 1) := by decide +kernel
theorem dX0_occupantsWithin_58 : decode cX0_occupantsWithin 58 = .ok (.istore 4, 2) := by decide +kernel
theorem dX0_occupantsWithin_60 : decode cX0_occupantsWithin 60 = .ok (.iconst (-1), 1) := by decide +kernel
theorem dX0_occupantsWithin_61 : decode cX0_occupantsWithin 61 = .ok (.istore 5, 2) := by decide +kernel
theorem dX0_occupantsWithin_63 : decode cX0_occupantsWithin 63 = .ok (.goto 29, 3) := by decide +kernel
theorem dX0_occupantsWithin_66 : decode cX0_occupantsWithin 66 = .ok (.aload_n 0, 1) := by decide +kernel
theorem dX0_occupantsWithin_67 : decode cX0_occupantsWithin 67 = .ok (.iload 7, 2) := by decide +kernel
theorem dX0_occupantsWithin_69 : decode cX0_occupantsWithin 69 = .ok (.invokevirtual 48, 3) := by decide +kernel
theorem dX0_occupantsWithin_72 : decode cX0_occupantsWithin 72 = .ok (.iload_n 1, 1) := by decide +kernel
theorem dX0_occupantsWithin_73 : decode cX0_occupantsWithin 73 = .ok (.if_icmp .ne 19, 3) := by decide +kernel
theorem dX0_occupantsWithin_76 : decode cX0_occupantsWithin 76 = .ok (.aload_n 0, 1) := by decide +kernel
theorem dX0_occupantsWithin_77 : decode cX0_occupantsWithin 77 = .ok (.iload 7, 2) := by decide +kernel
theorem dX0_occupantsWithin_79 : decode cX0_occupantsWithin 79 = .ok (.invokevirtual 38, 3) := by decide +kernel
theorem dX0_occupantsWithin_82 : decode cX0_occupantsWithin 82 = .ok (.istore 5, 2) := by decide +kernel
theorem dX0_occupantsWithin_84 : decode cX0_occupantsWithin 84 = .ok (.aload_n 0, 1) := by decide +kernel
theorem dX0_occupantsWithin_85 : decode cX0_occupantsWithin 85 = .ok (.iload 7, 2) := by decide +kernel
theorem dX0_occupantsWithin_87 : decode cX0_occupantsWithin 87 = .ok (.invokevirtual 45, 3) := by decide +kernel
theorem dX0_occupantsWithin_90 : decode cX0_occupantsWithin 90 = .ok (.istore 6, 2) := by decide +kernel
theorem dX0_occupantsWithin_92 : decode cX0_occupantsWithin 92 = .ok (.iinc 7 1, 3) := by decide +kernel
theorem dX0_occupantsWithin_95 : decode cX0_occupantsWithin 95 = .ok (.goto (-83), 3) := by decide +kernel
theorem dX0_occupantsWithin_98 : decode cX0_occupantsWithin 98 = .ok (.iload 4, 2) := by decide +kernel
theorem dX0_occupantsWithin_100 : decode cX0_occupantsWithin 100 = .ok (.iload 5, 2) := by decide +kernel
theorem dX0_occupantsWithin_102 : decode cX0_occupantsWithin 102 = .ok (.iload 6, 2) := by decide +kernel
theorem dX0_occupantsWithin_104 : decode cX0_occupantsWithin 104 = .ok (.iload_n 3, 1) := by decide +kernel
theorem dX0_occupantsWithin_105 : decode cX0_occupantsWithin 105 = .ok (.iconst 1, 1) := by decide +kernel
theorem dX0_occupantsWithin_106 : decode cX0_occupantsWithin 106 = .ok (.iadd, 1) := by decide +kernel
theorem dX0_occupantsWithin_107 : decode cX0_occupantsWithin 107 = .ok (.iload_n 2, 1) := by decide +kernel
theorem dX0_occupantsWithin_108 : decode cX0_occupantsWithin 108 = .ok (.invokestatic 54, 3) := by decide +kernel
theorem dX0_occupantsWithin_111 : decode cX0_occupantsWithin 111 = .ok (.ior, 1) := by decide +kernel
theorem dX0_occupantsWithin_112 : decode cX0_occupantsWithin 112 = .ok (.ireturn, 1) := by decide +kernel
theorem dX0_bitIfStayed_0 : decode cX0_bitIfStayed 0 = .ok (.iload_n 0, 1) := by decide +kernel
theorem dX0_bitIfStayed_1 : decode cX0_bitIfStayed 1 = .ok (.iconst (-1), 1) := by decide +kernel
theorem dX0_bitIfStayed_2 : decode cX0_bitIfStayed 2 = .ok (.if_icmp .eq 19, 3) := by decide +kernel
theorem dX0_bitIfStayed_5 : decode cX0_bitIfStayed 5 = .ok (.iload_n 1, 1) := by decide +kernel
theorem dX0_bitIfStayed_6 : decode cX0_bitIfStayed 6 = .ok (.iload_n 2, 1) := by decide +kernel
theorem dX0_bitIfStayed_7 : decode cX0_bitIfStayed 7 = .ok (.if_icmp .ge 14, 3) := by decide +kernel
theorem dX0_bitIfStayed_10 : decode cX0_bitIfStayed 10 = .ok (.iload_n 2, 1) := by decide +kernel
theorem dX0_bitIfStayed_11 : decode cX0_bitIfStayed 11 = .ok (.iload_n 3, 1) := by decide +kernel
theorem dX0_bitIfStayed_12 : decode cX0_bitIfStayed 12 = .ok (.if_icmp .le 9, 3) := by decide +kernel
theorem dX0_bitIfStayed_15 : decode cX0_bitIfStayed 15 = .ok (.iconst 1, 1) := by decide +kernel
theorem dX0_bitIfStayed_16 : decode cX0_bitIfStayed 16 = .ok (.iload_n 0, 1) := by decide +kernel
theorem dX0_bitIfStayed_17 : decode cX0_bitIfStayed 17 = .ok (.ishl, 1) := by decide +kernel
theorem dX0_bitIfStayed_18 : decode cX0_bitIfStayed 18 = .ok (.goto 4, 3) := by decide +kernel
theorem dX0_bitIfStayed_21 : decode cX0_bitIfStayed 21 = .ok (.iconst 0, 1) := by decide +kernel
theorem dX0_bitIfStayed_22 : decode cX0_bitIfStayed 22 = .ok (.ireturn, 1) := by decide +kernel
theorem dX0_guestAt_0 : decode cX0_guestAt 0 = .ok (.aload_n 0, 1) := by decide +kernel
theorem dX0_guestAt_1 : decode cX0_guestAt 1 = .ok (.getfield 11, 3) := by decide +kernel
theorem dX0_guestAt_4 : decode cX0_guestAt 4 = .ok (.iload_n 1, 1) := by decide +kernel
theorem dX0_guestAt_5 : decode cX0_guestAt 5 = .ok (.laload, 1) := by decide +kernel
theorem dX0_guestAt_6 : decode cX0_guestAt 6 = .ok (.bipush 8, 2) := by decide +kernel
theorem dX0_guestAt_8 : decode cX0_guestAt 8 = .ok (.lshr, 1) := by decide +kernel
theorem dX0_guestAt_9 : decode cX0_guestAt 9 = .ok (.l2i, 1) := by decide +kernel
theorem dX0_guestAt_10 : decode cX0_guestAt 10 = .ok (.bipush 15, 2) := by decide +kernel
theorem dX0_guestAt_12 : decode cX0_guestAt 12 = .ok (.iand, 1) := by decide +kernel
theorem dX0_guestAt_13 : decode cX0_guestAt 13 = .ok (.ireturn, 1) := by decide +kernel
theorem dX0_fromAt_0 : decode cX0_fromAt 0 = .ok (.aload_n 0, 1) := by decide +kernel
theorem dX0_fromAt_1 : decode cX0_fromAt 1 = .ok (.getfield 11, 3) := by decide +kernel
theorem dX0_fromAt_4 : decode cX0_fromAt 4 = .ok (.iload_n 1, 1) := by decide +kernel
theorem dX0_fromAt_5 : decode cX0_fromAt 5 = .ok (.laload, 1) := by decide +kernel
theorem dX0_fromAt_6 : decode cX0_fromAt 6 = .ok (.iconst 4, 1) := by decide +kernel
theorem dX0_fromAt_7 : decode cX0_fromAt 7 = .ok (.lshr, 1) := by decide +kernel
theorem dX0_fromAt_8 : decode cX0_fromAt 8 = .ok (.l2i, 1) := by decide +kernel
theorem dX0_fromAt_9 : decode cX0_fromAt 9 = .ok (.bipush 15, 2) := by decide +kernel
theorem dX0_fromAt_11 : decode cX0_fromAt 11 = .ok (.iand, 1) := by decide +kernel
theorem dX0_fromAt_12 : decode cX0_fromAt 12 = .ok (.iconst (-1), 1) := by decide +kernel
theorem dX0_fromAt_13 : decode cX0_fromAt 13 = .ok (.iadd, 1) := by decide +kernel
theorem dX0_fromAt_14 : decode cX0_fromAt 14 = .ok (.ireturn, 1) := by decide +kernel
theorem dX0_toAt_0 : decode cX0_toAt 0 = .ok (.aload_n 0, 1) := by decide +kernel
theorem dX0_toAt_1 : decode cX0_toAt 1 = .ok (.getfield 11, 3) := by decide +kernel
theorem dX0_toAt_4 : decode cX0_toAt 4 = .ok (.iload_n 1, 1) := by decide +kernel
theorem dX0_toAt_5 : decode cX0_toAt 5 = .ok (.laload, 1) := by decide +kernel
theorem dX0_toAt_6 : decode cX0_toAt 6 = .ok (.l2i, 1) := by decide +kernel
theorem dX0_toAt_7 : decode cX0_toAt 7 = .ok (.bipush 15, 2) := by decide +kernel
theorem dX0_toAt_9 : decode cX0_toAt 9 = .ok (.iand, 1) := by decide +kernel
theorem dX0_toAt_10 : decode cX0_toAt 10 = .ok (.iconst (-1), 1) := by decide +kernel
theorem dX0_toAt_11 : decode cX0_toAt 11 = .ok (.iadd, 1) := by decide +kernel
theorem dX0_toAt_12 : decode cX0_toAt 12 = .ok (.ireturn, 1) := by decide +kernel
theorem dX0_beginAt_0 : decode cX0_beginAt 0 = .ok (.aload_n 0, 1) := by decide +kernel
theorem dX0_beginAt_1 : decode cX0_beginAt 1 = .ok (.getfield 11, 3) := by decide +kernel
theorem dX0_beginAt_4 : decode cX0_beginAt 4 = .ok (.iload_n 1, 1) := by decide +kernel
theorem dX0_beginAt_5 : decode cX0_beginAt 5 = .ok (.laload, 1) := by decide +kernel
theorem dX0_beginAt_6 : decode cX0_beginAt 6 = .ok (.bipush 20, 2) := by decide +kernel
theorem dX0_beginAt_8 : decode cX0_beginAt 8 = .ok (.lshr, 1) := by decide +kernel
theorem dX0_beginAt_9 : decode cX0_beginAt 9 = .ok (.l2i, 1) := by decide +kernel
theorem dX0_beginAt_10 : decode cX0_beginAt 10 = .ok (.ireturn, 1) := by decide +kernel
theorem dX0_endAt_0 : decode cX0_endAt 0 = .ok (.aload_n 0, 1) := by decide +kernel
theorem dX0_endAt_1 : decode cX0_endAt 1 = .ok (.iload_n 1, 1) := by decide +kernel
theorem dX0_endAt_2 : decode cX0_endAt 2 = .ok (.invokevirtual 42, 3) := by decide +kernel
theorem dX0_endAt_5 : decode cX0_endAt 5 = .ok (.aload_n 0, 1) := by decide +kernel
theorem dX0_endAt_6 : decode cX0_endAt 6 = .ok (.getfield 11, 3) := by decide +kernel
theorem dX0_endAt_9 : decode cX0_endAt 9 = .ok (.iload_n 1, 1) := by decide +kernel
theorem dX0_endAt_10 : decode cX0_endAt 10 = .ok (.laload, 1) := by decide +kernel
theorem dX0_endAt_11 : decode cX0_endAt 11 = .ok (.bipush 12, 2) := by decide +kernel
theorem dX0_endAt_13 : decode cX0_endAt 13 = .ok (.lshr, 1) := by decide +kernel
theorem dX0_endAt_14 : decode cX0_endAt 14 = .ok (.l2i, 1) := by decide +kernel
theorem dX0_endAt_15 : decode cX0_endAt 15 = .ok (.sipush 255, 3) := by decide +kernel
theorem dX0_endAt_18 : decode cX0_endAt 18 = .ok (.iand, 1) := by decide +kernel
theorem dX0_endAt_19 : decode cX0_endAt 19 = .ok (.iadd, 1) := by decide +kernel
theorem dX0_endAt_20 : decode cX0_endAt 20 = .ok (.ireturn, 1) := by decide +kernel
theorem dX1_init_0 : decode cX1_init 0 = .ok (.aload_n 0, 1) := by decide +kernel
theorem dX1_init_1 : decode cX1_init 1 = .ok (.invokespecial 3, 3) := by decide +kernel
theorem dX1_init_4 : decode cX1_init 4 = .ok (.aload_n 0, 1) := by decide +kernel
theorem dX1_init_5 : decode cX1_init 5 = .ok (.bipush 10, 2) := by decide +kernel
theorem dX1_init_7 : decode cX1_init 7 = .ok (.newarray .int, 2) := by decide +kernel
theorem dX1_init_9 : decode cX1_init 9 = .ok (.putfield 9, 3) := by decide +kernel
theorem dX1_init_12 : decode cX1_init 12 = .ok (.aload_n 0, 1) := by decide +kernel
theorem dX1_init_13 : decode cX1_init 13 = .ok (.bipush 10, 2) := by decide +kernel
theorem dX1_init_15 : decode cX1_init 15 = .ok (.newarray .int, 2) := by decide +kernel
theorem dX1_init_17 : decode cX1_init 17 = .ok (.putfield 15, 3) := by decide +kernel
theorem dX1_init_20 : decode cX1_init 20 = .ok (.aload_n 0, 1) := by decide +kernel
theorem dX1_init_21 : decode cX1_init 21 = .ok (.bipush 10, 2) := by decide +kernel
theorem dX1_init_23 : decode cX1_init 23 = .ok (.newarray .int, 2) := by decide +kernel
theorem dX1_init_25 : decode cX1_init 25 = .ok (.putfield 18, 3) := by decide +kernel
theorem dX1_init_28 : decode cX1_init 28 = .ok (.aload_n 0, 1) := by decide +kernel
theorem dX1_init_29 : decode cX1_init 29 = .ok (.bipush 10, 2) := by decide +kernel
theorem dX1_init_31 : decode cX1_init 31 = .ok (.newarray .int, 2) := by decide +kernel
theorem dX1_init_33 : decode cX1_init 33 = .ok (.putfield 21, 3) := by decide +kernel
theorem dX1_init_36 : decode cX1_init 36 = .ok (.aload_n 0, 1) := by decide +kernel
theorem dX1_init_37 : decode cX1_init 37 = .ok (.getfield 9, 3) := by decide +kernel
theorem dX1_init_40 : decode cX1_init 40 = .ok (.iconst (-1), 1) := by decide +kernel
theorem dX1_init_41 : decode cX1_init 41 = .ok (.invokestatic 24, 3) := by decide +kernel
theorem dX1_init_44 : decode cX1_init 44 = .ok (.aload_n 0, 1) := by decide +kernel
theorem dX1_init_45 : decode cX1_init 45 = .ok (.getfield 15, 3) := by decide +kernel
theorem dX1_init_48 : decode cX1_init 48 = .ok (.iconst (-1), 1) := by decide +kernel
theorem dX1_init_49 : decode cX1_init 49 = .ok (.invokestatic 24, 3) := by decide +kernel
theorem dX1_init_52 : decode cX1_init 52 = .ok (.return_, 1) := by decide +kernel
theorem dX1_empty_0 : decode cX1_empty 0 = .ok (.aload_n 0, 1) := by decide +kernel
theorem dX1_empty_1 : decode cX1_empty 1 = .ok (.getfield 9, 3) := by decide +kernel
theorem dX1_empty_4 : decode cX1_empty 4 = .ok (.iconst (-1), 1) := by decide +kernel
theorem dX1_empty_5 : decode cX1_empty 5 = .ok (.invokestatic 24, 3) := by decide +kernel
theorem dX1_empty_8 : decode cX1_empty 8 = .ok (.aload_n 0, 1) := by decide +kernel
theorem dX1_empty_9 : decode cX1_empty 9 = .ok (.getfield 15, 3) := by decide +kernel
theorem dX1_empty_12 : decode cX1_empty 12 = .ok (.iconst (-1), 1) := by decide +kernel
theorem dX1_empty_13 : decode cX1_empty 13 = .ok (.invokestatic 24, 3) := by decide +kernel
theorem dX1_empty_16 : decode cX1_empty 16 = .ok (.aload_n 0, 1) := by decide +kernel
theorem dX1_empty_17 : decode cX1_empty 17 = .ok (.getfield 18, 3) := by decide +kernel
theorem dX1_empty_20 : decode cX1_empty 20 = .ok (.iconst 0, 1) := by decide +kernel
theorem dX1_empty_21 : decode cX1_empty 21 = .ok (.invokestatic 24, 3) := by decide +kernel
theorem dX1_empty_24 : decode cX1_empty 24 = .ok (.aload_n 0, 1) := by decide +kernel
theorem dX1_empty_25 : decode cX1_empty 25 = .ok (.getfield 21, 3) := by decide +kernel
theorem dX1_empty_28 : decode cX1_empty 28 = .ok (.iconst 0, 1) := by decide +kernel
theorem dX1_empty_29 : decode cX1_empty 29 = .ok (.invokestatic 24, 3) := by decide +kernel
theorem dX1_empty_32 : decode cX1_empty 32 = .ok (.aload_n 0, 1) := by decide +kernel
theorem dX1_empty_33 : decode cX1_empty 33 = .ok (.iconst 0, 1) := by decide +kernel
theorem dX1_empty_34 : decode cX1_empty 34 = .ok (.putfield 30, 3) := by decide +kernel
theorem dX1_empty_37 : decode cX1_empty 37 = .ok (.aload_n 0, 1) := by decide +kernel
theorem dX1_empty_38 : decode cX1_empty 38 = .ok (.iconst 0, 1) := by decide +kernel
theorem dX1_empty_39 : decode cX1_empty 39 = .ok (.putfield 34, 3) := by decide +kernel
theorem dX1_empty_42 : decode cX1_empty 42 = .ok (.aload_n 0, 1) := by decide +kernel
theorem dX1_empty_43 : decode cX1_empty 43 = .ok (.iconst 0, 1) := by decide +kernel
theorem dX1_empty_44 : decode cX1_empty 44 = .ok (.putfield 37, 3) := by decide +kernel
theorem dX1_empty_47 : decode cX1_empty 47 = .ok (.aload_n 0, 1) := by decide +kernel
theorem dX1_empty_48 : decode cX1_empty 48 = .ok (.iconst 0, 1) := by decide +kernel
theorem dX1_empty_49 : decode cX1_empty 49 = .ok (.putfield 40, 3) := by decide +kernel
theorem dX1_empty_52 : decode cX1_empty 52 = .ok (.aload_n 0, 1) := by decide +kernel
theorem dX1_empty_53 : decode cX1_empty 53 = .ok (.iconst 0, 1) := by decide +kernel
theorem dX1_empty_54 : decode cX1_empty 54 = .ok (.putfield 43, 3) := by decide +kernel
theorem dX1_empty_57 : decode cX1_empty 57 = .ok (.aload_n 0, 1) := by decide +kernel
theorem dX1_empty_58 : decode cX1_empty 58 = .ok (.iconst 0, 1) := by decide +kernel
theorem dX1_empty_59 : decode cX1_empty 59 = .ok (.putfield 46, 3) := by decide +kernel
theorem dX1_empty_62 : decode cX1_empty 62 = .ok (.return_, 1) := by decide +kernel
theorem dX1_copyFrom_0 : decode cX1_copyFrom 0 = .ok (.aload_n 1, 1) := by decide +kernel
theorem dX1_copyFrom_1 : decode cX1_copyFrom 1 = .ok (.getfield 9, 3) := by decide +kernel
theorem dX1_copyFrom_4 : decode cX1_copyFrom 4 = .ok (.iconst 0, 1) := by decide +kernel
theorem dX1_copyFrom_5 : decode cX1_copyFrom 5 = .ok (.aload_n 0, 1) := by decide +kernel
theorem dX1_copyFrom_6 : decode cX1_copyFrom 6 = .ok (.getfield 9, 3) := by decide +kernel
theorem dX1_copyFrom_9 : decode cX1_copyFrom 9 = .ok (.iconst 0, 1) := by decide +kernel
theorem dX1_copyFrom_10 : decode cX1_copyFrom 10 = .ok (.bipush 10, 2) := by decide +kernel
theorem dX1_copyFrom_12 : decode cX1_copyFrom 12 = .ok (.invokestatic 49, 3) := by decide +kernel
theorem dX1_copyFrom_15 : decode cX1_copyFrom 15 = .ok (.aload_n 1, 1) := by decide +kernel
theorem dX1_copyFrom_16 : decode cX1_copyFrom 16 = .ok (.getfield 15, 3) := by decide +kernel
theorem dX1_copyFrom_19 : decode cX1_copyFrom 19 = .ok (.iconst 0, 1) := by decide +kernel
theorem dX1_copyFrom_20 : decode cX1_copyFrom 20 = .ok (.aload_n 0, 1) := by decide +kernel
theorem dX1_copyFrom_21 : decode cX1_copyFrom 21 = .ok (.getfield 15, 3) := by decide +kernel
theorem dX1_copyFrom_24 : decode cX1_copyFrom 24 = .ok (.iconst 0, 1) := by decide +kernel
theorem dX1_copyFrom_25 : decode cX1_copyFrom 25 = .ok (.bipush 10, 2) := by decide +kernel
theorem dX1_copyFrom_27 : decode cX1_copyFrom 27 = .ok (.invokestatic 49, 3) := by decide +kernel
theorem dX1_copyFrom_30 : decode cX1_copyFrom 30 = .ok (.aload_n 1, 1) := by decide +kernel
theorem dX1_copyFrom_31 : decode cX1_copyFrom 31 = .ok (.getfield 18, 3) := by decide +kernel
theorem dX1_copyFrom_34 : decode cX1_copyFrom 34 = .ok (.iconst 0, 1) := by decide +kernel
theorem dX1_copyFrom_35 : decode cX1_copyFrom 35 = .ok (.aload_n 0, 1) := by decide +kernel
theorem dX1_copyFrom_36 : decode cX1_copyFrom 36 = .ok (.getfield 18, 3) := by decide +kernel
theorem dX1_copyFrom_39 : decode cX1_copyFrom 39 = .ok (.iconst 0, 1) := by decide +kernel
theorem dX1_copyFrom_40 : decode cX1_copyFrom 40 = .ok (.bipush 10, 2) := by decide +kernel
theorem dX1_copyFrom_42 : decode cX1_copyFrom 42 = .ok (.invokestatic 49, 3) := by decide +kernel
theorem dX1_copyFrom_45 : decode cX1_copyFrom 45 = .ok (.aload_n 1, 1) := by decide +kernel
theorem dX1_copyFrom_46 : decode cX1_copyFrom 46 = .ok (.getfield 21, 3) := by decide +kernel
theorem dX1_copyFrom_49 : decode cX1_copyFrom 49 = .ok (.iconst 0, 1) := by decide +kernel
theorem dX1_copyFrom_50 : decode cX1_copyFrom 50 = .ok (.aload_n 0, 1) := by decide +kernel
theorem dX1_copyFrom_51 : decode cX1_copyFrom 51 = .ok (.getfield 21, 3) := by decide +kernel
theorem dX1_copyFrom_54 : decode cX1_copyFrom 54 = .ok (.iconst 0, 1) := by decide +kernel
theorem dX1_copyFrom_55 : decode cX1_copyFrom 55 = .ok (.bipush 10, 2) := by decide +kernel
theorem dX1_copyFrom_57 : decode cX1_copyFrom 57 = .ok (.invokestatic 49, 3) := by decide +kernel
theorem dX1_copyFrom_60 : decode cX1_copyFrom 60 = .ok (.aload_n 0, 1) := by decide +kernel
theorem dX1_copyFrom_61 : decode cX1_copyFrom 61 = .ok (.aload_n 1, 1) := by decide +kernel
theorem dX1_copyFrom_62 : decode cX1_copyFrom 62 = .ok (.getfield 30, 3) := by decide +kernel
theorem dX1_copyFrom_65 : decode cX1_copyFrom 65 = .ok (.putfield 30, 3) := by decide +kernel
theorem dX1_copyFrom_68 : decode cX1_copyFrom 68 = .ok (.aload_n 0, 1) := by decide +kernel
theorem dX1_copyFrom_69 : decode cX1_copyFrom 69 = .ok (.aload_n 1, 1) := by decide +kernel
theorem dX1_copyFrom_70 : decode cX1_copyFrom 70 = .ok (.getfield 34, 3) := by decide +kernel
theorem dX1_copyFrom_73 : decode cX1_copyFrom 73 = .ok (.putfield 34, 3) := by decide +kernel
theorem dX1_copyFrom_76 : decode cX1_copyFrom 76 = .ok (.aload_n 0, 1) := by decide +kernel
theorem dX1_copyFrom_77 : decode cX1_copyFrom 77 = .ok (.aload_n 1, 1) := by decide +kernel
theorem dX1_copyFrom_78 : decode cX1_copyFrom 78 = .ok (.getfield 37, 3) := by decide +kernel
theorem dX1_copyFrom_81 : decode cX1_copyFrom 81 = .ok (.putfield 37, 3) := by decide +kernel
theorem dX1_copyFrom_84 : decode cX1_copyFrom 84 = .ok (.aload_n 0, 1) := by decide +kernel
theorem dX1_copyFrom_85 : decode cX1_copyFrom 85 = .ok (.aload_n 1, 1) := by decide +kernel
theorem dX1_copyFrom_86 : decode cX1_copyFrom 86 = .ok (.getfield 40, 3) := by decide +kernel
theorem dX1_copyFrom_89 : decode cX1_copyFrom 89 = .ok (.putfield 40, 3) := by decide +kernel
theorem dX1_copyFrom_92 : decode cX1_copyFrom 92 = .ok (.aload_n 0, 1) := by decide +kernel
theorem dX1_copyFrom_93 : decode cX1_copyFrom 93 = .ok (.aload_n 1, 1) := by decide +kernel
theorem dX1_copyFrom_94 : decode cX1_copyFrom 94 = .ok (.getfield 43, 3) := by decide +kernel
theorem dX1_copyFrom_97 : decode cX1_copyFrom 97 = .ok (.putfield 43, 3) := by decide +kernel
theorem dX1_copyFrom_100 : decode cX1_copyFrom 100 = .ok (.aload_n 0, 1) := by decide +kernel
theorem dX1_copyFrom_101 : decode cX1_copyFrom 101 = .ok (.aload_n 1, 1) := by decide +kernel
theorem dX1_copyFrom_102 : decode cX1_copyFrom 102 = .ok (.getfield 46, 3) := by decide +kernel
theorem dX1_copyFrom_105 : decode cX1_copyFrom 105 = .ok (.putfield 46, 3) := by decide +kernel
theorem dX1_copyFrom_108 : decode cX1_copyFrom 108 = .ok (.return_, 1) := by decide +kernel
theorem dX1_isIn_0 : decode cX1_isIn 0 = .ok (.aload_n 0, 1) := by decide +kernel
theorem dX1_isIn_1 : decode cX1_isIn 1 = .ok (.getfield 15, 3) := by decide +kernel
theorem dX1_isIn_4 : decode cX1_isIn 4 = .ok (.iload_n 1, 1) := by decide +kernel
theorem dX1_isIn_5 : decode cX1_isIn 5 = .ok (.iaload, 1) := by decide +kernel
theorem dX1_isIn_6 : decode cX1_isIn 6 = .ok (.iconst (-1), 1) := by decide +kernel
theorem dX1_isIn_7 : decode cX1_isIn 7 = .ok (.if_icmp .eq 7, 3) := by decide +kernel
theorem dX1_isIn_10 : decode cX1_isIn 10 = .ok (.iconst 1, 1) := by decide +kernel
theorem dX1_isIn_11 : decode cX1_isIn 11 = .ok (.goto 4, 3) := by decide +kernel
theorem dX1_isIn_14 : decode cX1_isIn 14 = .ok (.iconst 0, 1) := by decide +kernel
theorem dX1_isIn_15 : decode cX1_isIn 15 = .ok (.ireturn, 1) := by decide +kernel
theorem dX1_guestsIn_0 : decode cX1_guestsIn 0 = .ok (.aload_n 0, 1) := by decide +kernel
theorem dX1_guestsIn_1 : decode cX1_guestsIn 1 = .ok (.getfield 43, 3) := by decide +kernel
theorem dX1_guestsIn_4 : decode cX1_guestsIn 4 = .ok (.ireturn, 1) := by decide +kernel
theorem dX1_takeIn_0 : decode cX1_takeIn 0 = .ok (.iconst 0, 1) := by decide +kernel
theorem dX1_takeIn_1 : decode cX1_takeIn 1 = .ok (.istore 4, 2) := by decide +kernel
theorem dX1_takeIn_3 : decode cX1_takeIn 3 = .ok (.iload 4, 2) := by decide +kernel
theorem dX1_takeIn_5 : decode cX1_takeIn 5 = .ok (.aload_n 1, 1) := by decide +kernel
theorem dX1_takeIn_6 : decode cX1_takeIn 6 = .ok (.getfield 55, 3) := by decide +kernel
theorem dX1_takeIn_9 : decode cX1_takeIn 9 = .ok (.if_icmp .ge 20, 3) := by decide +kernel
theorem dX1_takeIn_12 : decode cX1_takeIn 12 = .ok (.aload_n 0, 1) := by decide +kernel
theorem dX1_takeIn_13 : decode cX1_takeIn 13 = .ok (.getfield 9, 3) := by decide +kernel
theorem dX1_takeIn_16 : decode cX1_takeIn 16 = .ok (.iload 4, 2) := by decide +kernel
theorem dX1_takeIn_18 : decode cX1_takeIn 18 = .ok (.iaload, 1) := by decide +kernel
theorem dX1_takeIn_19 : decode cX1_takeIn 19 = .ok (.iconst (-1), 1) := by decide +kernel
theorem dX1_takeIn_20 : decode cX1_takeIn 20 = .ok (.if_icmp .eq 9, 3) := by decide +kernel
theorem dX1_takeIn_23 : decode cX1_takeIn 23 = .ok (.iinc 4 1, 3) := by decide +kernel
theorem dX1_takeIn_26 : decode cX1_takeIn 26 = .ok (.goto (-23), 3) := by decide +kernel
theorem dX1_takeIn_29 : decode cX1_takeIn 29 = .ok (.iload 4, 2) := by decide +kernel
theorem dX1_takeIn_31 : decode cX1_takeIn 31 = .ok (.aload_n 1, 1) := by decide +kernel
theorem dX1_takeIn_32 : decode cX1_takeIn 32 = .ok (.getfield 55, 3) := by decide +kernel
theorem dX1_takeIn_35 : decode cX1_takeIn 35 = .ok (.if_icmp .ne 4, 3) := by decide +kernel
theorem dX1_takeIn_38 : decode cX1_takeIn 38 = .ok (.return_, 1) := by decide +kernel
theorem dX1_takeIn_39 : decode cX1_takeIn 39 = .ok (.iload 4, 2) := by decide +kernel
theorem dX1_takeIn_41 : decode cX1_takeIn 41 = .ok (.istore 5, 2) := by decide +kernel
theorem dX1_takeIn_43 : decode cX1_takeIn 43 = .ok (.iload 5, 2) := by decide +kernel
theorem dX1_takeIn_45 : decode cX1_takeIn 45 = .ok (.ifCond .le 26, 3) := by decide +kernel
theorem dX1_takeIn_48 : decode cX1_takeIn 48 = .ok (.aload_n 0, 1) := by decide +kernel
theorem dX1_takeIn_49 : decode cX1_takeIn 49 = .ok (.aload_n 1, 1) := by decide +kernel
theorem dX1_takeIn_50 : decode cX1_takeIn 50 = .ok (.aload_n 0, 1) := by decide +kernel
theorem dX1_takeIn_51 : decode cX1_takeIn 51 = .ok (.getfield 9, 3) := by decide +kernel
theorem dX1_takeIn_54 : decode cX1_takeIn 54 = .ok (.iload 5, 2) := by decide +kernel
theorem dX1_takeIn_56 : decode cX1_takeIn 56 = .ok (.iconst 1, 1) := by decide +kernel
theorem dX1_takeIn_57 : decode cX1_takeIn 57 = .ok (.isub, 1) := by decide +kernel
theorem dX1_takeIn_58 : decode cX1_takeIn 58 = .ok (.iaload, 1) := by decide +kernel
theorem dX1_takeIn_59 : decode cX1_takeIn 59 = .ok (.iload 5, 2) := by decide +kernel
theorem dX1_takeIn_61 : decode cX1_takeIn 61 = .ok (.aload_n 3, 1) := by decide +kernel
theorem dX1_takeIn_62 : decode cX1_takeIn 62 = .ok (.invokevirtual 60, 3) := by decide +kernel
theorem dX1_takeIn_65 : decode cX1_takeIn 65 = .ok (.iinc 5 (-1), 3) := by decide +kernel
theorem dX1_takeIn_68 : decode cX1_takeIn 68 = .ok (.goto (-25), 3) := by decide +kernel
theorem dX1_takeIn_71 : decode cX1_takeIn 71 = .ok (.aload_n 0, 1) := by decide +kernel
theorem dX1_takeIn_72 : decode cX1_takeIn 72 = .ok (.aload_n 1, 1) := by decide +kernel
theorem dX1_takeIn_73 : decode cX1_takeIn 73 = .ok (.iload_n 2, 1) := by decide +kernel
theorem dX1_takeIn_74 : decode cX1_takeIn 74 = .ok (.iconst 0, 1) := by decide +kernel
theorem dX1_takeIn_75 : decode cX1_takeIn 75 = .ok (.aload_n 3, 1) := by decide +kernel
theorem dX1_takeIn_76 : decode cX1_takeIn 76 = .ok (.invokevirtual 60, 3) := by decide +kernel
theorem dX1_takeIn_79 : decode cX1_takeIn 79 = .ok (.aload_n 0, 1) := by decide +kernel
theorem dX1_takeIn_80 : decode cX1_takeIn 80 = .ok (.dup, 1) := by decide +kernel
theorem dX1_takeIn_81 : decode cX1_takeIn 81 = .ok (.getfield 43, 3) := by decide +kernel
theorem dX1_takeIn_84 : decode cX1_takeIn 84 = .ok (.iconst 1, 1) := by decide +kernel
theorem dX1_takeIn_85 : decode cX1_takeIn 85 = .ok (.iadd, 1) := by decide +kernel
theorem dX1_takeIn_86 : decode cX1_takeIn 86 = .ok (.putfield 43, 3) := by decide +kernel
theorem dX1_takeIn_89 : decode cX1_takeIn 89 = .ok (.aload_n 0, 1) := by decide +kernel
theorem dX1_takeIn_90 : decode cX1_takeIn 90 = .ok (.dup, 1) := by decide +kernel
theorem dX1_takeIn_91 : decode cX1_takeIn 91 = .ok (.getfield 46, 3) := by decide +kernel
theorem dX1_takeIn_94 : decode cX1_takeIn 94 = .ok (.iconst 1, 1) := by decide +kernel
theorem dX1_takeIn_95 : decode cX1_takeIn 95 = .ok (.iload_n 2, 1) := by decide +kernel
theorem dX1_takeIn_96 : decode cX1_takeIn 96 = .ok (.ishl, 1) := by decide +kernel
theorem dX1_takeIn_97 : decode cX1_takeIn 97 = .ok (.ior, 1) := by decide +kernel
theorem dX1_takeIn_98 : decode cX1_takeIn 98 = .ok (.putfield 46, 3) := by decide +kernel
theorem dX1_takeIn_101 : decode cX1_takeIn 101 = .ok (.return_, 1) := by decide +kernel
theorem dX1_letOut_0 : decode cX1_letOut 0 = .ok (.aload_n 0, 1) := by decide +kernel
theorem dX1_letOut_1 : decode cX1_letOut 1 = .ok (.getfield 15, 3) := by decide +kernel
theorem dX1_letOut_4 : decode cX1_letOut 4 = .ok (.iload_n 2, 1) := by decide +kernel
theorem dX1_letOut_5 : decode cX1_letOut 5 = .ok (.iaload, 1) := by decide +kernel
theorem dX1_letOut_6 : decode cX1_letOut 6 = .ok (.istore 6, 2) := by decide +kernel
theorem dX1_letOut_8 : decode cX1_letOut 8 = .ok (.aload_n 0, 1) := by decide +kernel
theorem dX1_letOut_9 : decode cX1_letOut 9 = .ok (.aload_n 1, 1) := by decide +kernel
theorem dX1_letOut_10 : decode cX1_letOut 10 = .ok (.iload_n 2, 1) := by decide +kernel
theorem dX1_letOut_11 : decode cX1_letOut 11 = .ok (.iconst (-1), 1) := by decide +kernel
theorem dX1_letOut_12 : decode cX1_letOut 12 = .ok (.aload 5, 2) := by decide +kernel
theorem dX1_letOut_14 : decode cX1_letOut 14 = .ok (.invokevirtual 60, 3) := by decide +kernel
theorem dX1_letOut_17 : decode cX1_letOut 17 = .ok (.aload_n 0, 1) := by decide +kernel
theorem dX1_letOut_18 : decode cX1_letOut 18 = .ok (.dup, 1) := by decide +kernel
theorem dX1_letOut_19 : decode cX1_letOut 19 = .ok (.getfield 43, 3) := by decide +kernel
theorem dX1_letOut_22 : decode cX1_letOut 22 = .ok (.iconst 1, 1) := by decide +kernel
theorem dX1_letOut_23 : decode cX1_letOut 23 = .ok (.isub, 1) := by decide +kernel
theorem dX1_letOut_24 : decode cX1_letOut 24 = .ok (.putfield 43, 3) := by decide +kernel
theorem dX1_letOut_27 : decode cX1_letOut 27 = .ok (.iload_n 3, 1) := by decide +kernel
theorem dX1_letOut_28 : decode cX1_letOut 28 = .ok (.iconst (-1), 1) := by decide +kernel
theorem dX1_letOut_29 : decode cX1_letOut 29 = .ok (.if_icmp .ne 4, 3) := by decide +kernel
theorem dX1_letOut_32 : decode cX1_letOut 32 = .ok (.return_, 1) := by decide +kernel
theorem dX1_letOut_33 : decode cX1_letOut 33 = .ok (.iconst 0, 1) := by decide +kernel
theorem dX1_letOut_34 : decode cX1_letOut 34 = .ok (.istore 7, 2) := by decide +kernel
theorem dX1_letOut_36 : decode cX1_letOut 36 = .ok (.iload 7, 2) := by decide +kernel
theorem dX1_letOut_38 : decode cX1_letOut 38 = .ok (.aload_n 1, 1) := by decide +kernel
theorem dX1_letOut_39 : decode cX1_letOut 39 = .ok (.getfield 55, 3) := by decide +kernel
theorem dX1_letOut_42 : decode cX1_letOut 42 = .ok (.if_icmp .ge 52, 3) := by decide +kernel
theorem dX1_letOut_45 : decode cX1_letOut 45 = .ok (.aload_n 0, 1) := by decide +kernel
theorem dX1_letOut_46 : decode cX1_letOut 46 = .ok (.aload_n 1, 1) := by decide +kernel
theorem dX1_letOut_47 : decode cX1_letOut 47 = .ok (.iload 6, 2) := by decide +kernel
theorem dX1_letOut_49 : decode cX1_letOut 49 = .ok (.iload_n 3, 1) := by decide +kernel
theorem dX1_letOut_50 : decode cX1_letOut 50 = .ok (.aload 4, 2) := by decide +kernel
theorem dX1_letOut_52 : decode cX1_letOut 52 = .ok (.invokevirtual 64, 3) := by decide +kernel
theorem dX1_letOut_55 : decode cX1_letOut 55 = .ok (.istore 8, 2) := by decide +kernel
theorem dX1_letOut_57 : decode cX1_letOut 57 = .ok (.iload 8, 2) := by decide +kernel
theorem dX1_letOut_59 : decode cX1_letOut 59 = .ok (.iconst (-1), 1) := by decide +kernel
theorem dX1_letOut_60 : decode cX1_letOut 60 = .ok (.if_icmp .ne 4, 3) := by decide +kernel
theorem dX1_letOut_63 : decode cX1_letOut 63 = .ok (.return_, 1) := by decide +kernel
theorem dX1_letOut_64 : decode cX1_letOut 64 = .ok (.aload_n 0, 1) := by decide +kernel
theorem dX1_letOut_65 : decode cX1_letOut 65 = .ok (.getfield 15, 3) := by decide +kernel
theorem dX1_letOut_68 : decode cX1_letOut 68 = .ok (.iload 8, 2) := by decide +kernel
theorem dX1_letOut_70 : decode cX1_letOut 70 = .ok (.iaload, 1) := by decide +kernel
theorem dX1_letOut_71 : decode cX1_letOut 71 = .ok (.istore 9, 2) := by decide +kernel
theorem dX1_letOut_73 : decode cX1_letOut 73 = .ok (.aload_n 0, 1) := by decide +kernel
theorem dX1_letOut_74 : decode cX1_letOut 74 = .ok (.aload_n 1, 1) := by decide +kernel
theorem dX1_letOut_75 : decode cX1_letOut 75 = .ok (.iload 8, 2) := by decide +kernel
theorem dX1_letOut_77 : decode cX1_letOut 77 = .ok (.iload 6, 2) := by decide +kernel
theorem dX1_letOut_79 : decode cX1_letOut 79 = .ok (.aload 5, 2) := by decide +kernel
theorem dX1_letOut_81 : decode cX1_letOut 81 = .ok (.invokevirtual 60, 3) := by decide +kernel
theorem dX1_letOut_84 : decode cX1_letOut 84 = .ok (.iload 9, 2) := by decide +kernel
theorem dX1_letOut_86 : decode cX1_letOut 86 = .ok (.istore 6, 2) := by decide +kernel
theorem dX1_letOut_88 : decode cX1_letOut 88 = .ok (.iinc 7 1, 3) := by decide +kernel
theorem dX1_letOut_91 : decode cX1_letOut 91 = .ok (.goto (-55), 3) := by decide +kernel
theorem dX1_letOut_94 : decode cX1_letOut 94 = .ok (.return_, 1) := by decide +kernel
theorem dX1_spreadOfMoves_0 : decode cX1_spreadOfMoves 0 = .ok (.iconst (-1), 1) := by decide +kernel
theorem dX1_spreadOfMoves_1 : decode cX1_spreadOfMoves 1 = .ok (.istore_n 1, 1) := by decide +kernel
theorem dX1_spreadOfMoves_2 : decode cX1_spreadOfMoves 2 = .ok (.iconst (-1), 1) := by decide +kernel
theorem dX1_spreadOfMoves_3 : decode cX1_spreadOfMoves 3 = .ok (.istore_n 2, 1) := by decide +kernel
theorem dX1_spreadOfMoves_4 : decode cX1_spreadOfMoves 4 = .ok (.iconst 0, 1) := by decide +kernel
theorem dX1_spreadOfMoves_5 : decode cX1_spreadOfMoves 5 = .ok (.istore_n 3, 1) := by decide +kernel
theorem dX1_spreadOfMoves_6 : decode cX1_spreadOfMoves 6 = .ok (.iload_n 3, 1) := by decide +kernel
theorem dX1_spreadOfMoves_7 : decode cX1_spreadOfMoves 7 = .ok (.bipush 10, 2) := by decide +kernel
theorem dX1_spreadOfMoves_9 : decode cX1_spreadOfMoves 9 = .ok (.if_icmp .ge 57, 3) := by decide +kernel
theorem dX1_spreadOfMoves_12 : decode cX1_spreadOfMoves 12 = .ok (.aload_n 0, 1) := by decide +kernel
theorem dX1_spreadOfMoves_13 : decode cX1_spreadOfMoves 13 = .ok (.getfield 46, 3) := by decide +kernel
theorem dX1_spreadOfMoves_16 : decode cX1_spreadOfMoves 16 = .ok (.iload_n 3, 1) := by decide +kernel
theorem dX1_spreadOfMoves_17 : decode cX1_spreadOfMoves 17 = .ok (.invokestatic 68, 3) := by decide +kernel
theorem dX1_spreadOfMoves_20 : decode cX1_spreadOfMoves 20 = .ok (.iconst 1, 1) := by decide +kernel
theorem dX1_spreadOfMoves_21 : decode cX1_spreadOfMoves 21 = .ok (.if_icmp .ne 39, 3) := by decide +kernel
theorem dX1_spreadOfMoves_24 : decode cX1_spreadOfMoves 24 = .ok (.iload_n 1, 1) := by decide +kernel
theorem dX1_spreadOfMoves_25 : decode cX1_spreadOfMoves 25 = .ok (.aload_n 0, 1) := by decide +kernel
theorem dX1_spreadOfMoves_26 : decode cX1_spreadOfMoves 26 = .ok (.getfield 18, 3) := by decide +kernel
theorem dX1_spreadOfMoves_29 : decode cX1_spreadOfMoves 29 = .ok (.iload_n 3, 1) := by decide +kernel
theorem dX1_spreadOfMoves_30 : decode cX1_spreadOfMoves 30 = .ok (.iaload, 1) := by decide +kernel
theorem dX1_spreadOfMoves_31 : decode cX1_spreadOfMoves 31 = .ok (.invokestatic 72, 3) := by decide +kernel
theorem dX1_spreadOfMoves_34 : decode cX1_spreadOfMoves 34 = .ok (.istore_n 1, 1) := by decide +kernel
theorem dX1_spreadOfMoves_35 : decode cX1_spreadOfMoves 35 = .ok (.iload_n 2, 1) := by decide +kernel
theorem dX1_spreadOfMoves_36 : decode cX1_spreadOfMoves 36 = .ok (.iconst (-1), 1) := by decide +kernel
theorem dX1_spreadOfMoves_37 : decode cX1_spreadOfMoves 37 = .ok (.if_icmp .ne 12, 3) := by decide +kernel
theorem dX1_spreadOfMoves_40 : decode cX1_spreadOfMoves 40 = .ok (.aload_n 0, 1) := by decide +kernel
theorem dX1_spreadOfMoves_41 : decode cX1_spreadOfMoves 41 = .ok (.getfield 18, 3) := by decide +kernel
theorem dX1_spreadOfMoves_44 : decode cX1_spreadOfMoves 44 = .ok (.iload_n 3, 1) := by decide +kernel
theorem dX1_spreadOfMoves_45 : decode cX1_spreadOfMoves 45 = .ok (.iaload, 1) := by decide +kernel
theorem dX1_spreadOfMoves_46 : decode cX1_spreadOfMoves 46 = .ok (.goto 13, 3) := by decide +kernel
theorem dX1_spreadOfMoves_49 : decode cX1_spreadOfMoves 49 = .ok (.iload_n 2, 1) := by decide +kernel
theorem dX1_spreadOfMoves_50 : decode cX1_spreadOfMoves 50 = .ok (.aload_n 0, 1) := by decide +kernel
theorem dX1_spreadOfMoves_51 : decode cX1_spreadOfMoves 51 = .ok (.getfield 18, 3) := by decide +kernel
theorem dX1_spreadOfMoves_54 : decode cX1_spreadOfMoves 54 = .ok (.iload_n 3, 1) := by decide +kernel
theorem dX1_spreadOfMoves_55 : decode cX1_spreadOfMoves 55 = .ok (.iaload, 1) := by decide +kernel
theorem dX1_spreadOfMoves_56 : decode cX1_spreadOfMoves 56 = .ok (.invokestatic 77, 3) := by decide +kernel
theorem dX1_spreadOfMoves_59 : decode cX1_spreadOfMoves 59 = .ok (.istore_n 2, 1) := by decide +kernel
theorem dX1_spreadOfMoves_60 : decode cX1_spreadOfMoves 60 = .ok (.iinc 3 1, 3) := by decide +kernel
theorem dX1_spreadOfMoves_63 : decode cX1_spreadOfMoves 63 = .ok (.goto (-57), 3) := by decide +kernel
theorem dX1_spreadOfMoves_66 : decode cX1_spreadOfMoves 66 = .ok (.iload_n 1, 1) := by decide +kernel
theorem dX1_spreadOfMoves_67 : decode cX1_spreadOfMoves 67 = .ok (.iload_n 2, 1) := by decide +kernel
theorem dX1_spreadOfMoves_68 : decode cX1_spreadOfMoves 68 = .ok (.isub, 1) := by decide +kernel
theorem dX1_spreadOfMoves_69 : decode cX1_spreadOfMoves 69 = .ok (.ireturn, 1) := by decide +kernel
theorem dX1_isBetterThan_0 : decode cX1_isBetterThan 0 = .ok (.aload_n 0, 1) := by decide +kernel
theorem dX1_isBetterThan_1 : decode cX1_isBetterThan 1 = .ok (.getfield 30, 3) := by decide +kernel
theorem dX1_isBetterThan_4 : decode cX1_isBetterThan 4 = .ok (.aload_n 1, 1) := by decide +kernel
theorem dX1_isBetterThan_5 : decode cX1_isBetterThan 5 = .ok (.getfield 30, 3) := by decide +kernel
theorem dX1_isBetterThan_8 : decode cX1_isBetterThan 8 = .ok (.if_icmp .lt 25, 3) := by decide +kernel
theorem dX1_isBetterThan_11 : decode cX1_isBetterThan 11 = .ok (.aload_n 0, 1) := by decide +kernel
theorem dX1_isBetterThan_12 : decode cX1_isBetterThan 12 = .ok (.getfield 30, 3) := by decide +kernel
theorem dX1_isBetterThan_15 : decode cX1_isBetterThan 15 = .ok (.aload_n 1, 1) := by decide +kernel
theorem dX1_isBetterThan_16 : decode cX1_isBetterThan 16 = .ok (.getfield 30, 3) := by decide +kernel
theorem dX1_isBetterThan_19 : decode cX1_isBetterThan 19 = .ok (.if_icmp .ne 18, 3) := by decide +kernel
theorem dX1_isBetterThan_22 : decode cX1_isBetterThan 22 = .ok (.aload_n 0, 1) := by decide +kernel
theorem dX1_isBetterThan_23 : decode cX1_isBetterThan 23 = .ok (.getfield 34, 3) := by decide +kernel
theorem dX1_isBetterThan_26 : decode cX1_isBetterThan 26 = .ok (.aload_n 1, 1) := by decide +kernel
theorem dX1_isBetterThan_27 : decode cX1_isBetterThan 27 = .ok (.getfield 34, 3) := by decide +kernel
theorem dX1_isBetterThan_30 : decode cX1_isBetterThan 30 = .ok (.if_icmp .ge 7, 3) := by decide +kernel
theorem dX1_isBetterThan_33 : decode cX1_isBetterThan 33 = .ok (.iconst 1, 1) := by decide +kernel
theorem dX1_isBetterThan_34 : decode cX1_isBetterThan 34 = .ok (.goto 4, 3) := by decide +kernel
theorem dX1_isBetterThan_37 : decode cX1_isBetterThan 37 = .ok (.iconst 0, 1) := by decide +kernel
theorem dX1_isBetterThan_38 : decode cX1_isBetterThan 38 = .ok (.ireturn, 1) := by decide +kernel
theorem dX1_nextFor_0 : decode cX1_nextFor 0 = .ok (.iconst (-1), 1) := by decide +kernel
theorem dX1_nextFor_1 : decode cX1_nextFor 1 = .ok (.istore 5, 2) := by decide +kernel
theorem dX1_nextFor_3 : decode cX1_nextFor 3 = .ok (.iconst 0, 1) := by decide +kernel
theorem dX1_nextFor_4 : decode cX1_nextFor 4 = .ok (.istore 6, 2) := by decide +kernel
theorem dX1_nextFor_6 : decode cX1_nextFor 6 = .ok (.iload_n 2, 1) := by decide +kernel
theorem dX1_nextFor_7 : decode cX1_nextFor 7 = .ok (.iconst 1, 1) := by decide +kernel
theorem dX1_nextFor_8 : decode cX1_nextFor 8 = .ok (.iadd, 1) := by decide +kernel
theorem dX1_nextFor_9 : decode cX1_nextFor 9 = .ok (.istore 7, 2) := by decide +kernel
theorem dX1_nextFor_11 : decode cX1_nextFor 11 = .ok (.iload 7, 2) := by decide +kernel
theorem dX1_nextFor_13 : decode cX1_nextFor 13 = .ok (.aload_n 1, 1) := by decide +kernel
theorem dX1_nextFor_14 : decode cX1_nextFor 14 = .ok (.getfield 55, 3) := by decide +kernel
theorem dX1_nextFor_17 : decode cX1_nextFor 17 = .ok (.if_icmp .ge 52, 3) := by decide +kernel
theorem dX1_nextFor_20 : decode cX1_nextFor 20 = .ok (.aload_n 0, 1) := by decide +kernel
theorem dX1_nextFor_21 : decode cX1_nextFor 21 = .ok (.getfield 9, 3) := by decide +kernel
theorem dX1_nextFor_24 : decode cX1_nextFor 24 = .ok (.iload 7, 2) := by decide +kernel
theorem dX1_nextFor_26 : decode cX1_nextFor 26 = .ok (.iaload, 1) := by decide +kernel
theorem dX1_nextFor_27 : decode cX1_nextFor 27 = .ok (.istore 8, 2) := by decide +kernel
theorem dX1_nextFor_29 : decode cX1_nextFor 29 = .ok (.iload 8, 2) := by decide +kernel
theorem dX1_nextFor_31 : decode cX1_nextFor 31 = .ok (.iconst (-1), 1) := by decide +kernel
theorem dX1_nextFor_32 : decode cX1_nextFor 32 = .ok (.if_icmp .eq 31, 3) := by decide +kernel
theorem dX1_nextFor_35 : decode cX1_nextFor 35 = .ok (.aload 4, 2) := by decide +kernel
theorem dX1_nextFor_37 : decode cX1_nextFor 37 = .ok (.aload_n 1, 1) := by decide +kernel
theorem dX1_nextFor_38 : decode cX1_nextFor 38 = .ok (.iload_n 3, 1) := by decide +kernel
theorem dX1_nextFor_39 : decode cX1_nextFor 39 = .ok (.aload_n 0, 1) := by decide +kernel
theorem dX1_nextFor_40 : decode cX1_nextFor 40 = .ok (.iload 8, 2) := by decide +kernel
theorem dX1_nextFor_42 : decode cX1_nextFor 42 = .ok (.iload_n 2, 1) := by decide +kernel
theorem dX1_nextFor_43 : decode cX1_nextFor 43 = .ok (.invokevirtual 80, 3) := by decide +kernel
theorem dX1_nextFor_46 : decode cX1_nextFor 46 = .ok (.istore 9, 2) := by decide +kernel
theorem dX1_nextFor_48 : decode cX1_nextFor 48 = .ok (.iload 9, 2) := by decide +kernel
theorem dX1_nextFor_50 : decode cX1_nextFor 50 = .ok (.iload 6, 2) := by decide +kernel
theorem dX1_nextFor_52 : decode cX1_nextFor 52 = .ok (.if_icmp .le 11, 3) := by decide +kernel
theorem dX1_nextFor_55 : decode cX1_nextFor 55 = .ok (.iload 9, 2) := by decide +kernel
theorem dX1_nextFor_57 : decode cX1_nextFor 57 = .ok (.istore 6, 2) := by decide +kernel
theorem dX1_nextFor_59 : decode cX1_nextFor 59 = .ok (.iload 8, 2) := by decide +kernel
theorem dX1_nextFor_61 : decode cX1_nextFor 61 = .ok (.istore 5, 2) := by decide +kernel
theorem dX1_nextFor_63 : decode cX1_nextFor 63 = .ok (.iinc 7 1, 3) := by decide +kernel
theorem dX1_nextFor_66 : decode cX1_nextFor 66 = .ok (.goto (-55), 3) := by decide +kernel
theorem dX1_nextFor_69 : decode cX1_nextFor 69 = .ok (.iload 5, 2) := by decide +kernel
theorem dX1_nextFor_71 : decode cX1_nextFor 71 = .ok (.ireturn, 1) := by decide +kernel
theorem dX1_go_0 : decode cX1_go 0 = .ok (.aload_n 0, 1) := by decide +kernel
theorem dX1_go_1 : decode cX1_go 1 = .ok (.getfield 15, 3) := by decide +kernel
theorem dX1_go_4 : decode cX1_go 4 = .ok (.iload_n 2, 1) := by decide +kernel
theorem dX1_go_5 : decode cX1_go 5 = .ok (.iaload, 1) := by decide +kernel
theorem dX1_go_6 : decode cX1_go 6 = .ok (.istore 5, 2) := by decide +kernel
theorem dX1_go_8 : decode cX1_go 8 = .ok (.aload_n 1, 1) := by decide +kernel
theorem dX1_go_9 : decode cX1_go 9 = .ok (.iload 5, 2) := by decide +kernel
theorem dX1_go_11 : decode cX1_go 11 = .ok (.iload_n 3, 1) := by decide +kernel
theorem dX1_go_12 : decode cX1_go 12 = .ok (.invokevirtual 86, 3) := by decide +kernel
theorem dX1_go_15 : decode cX1_go 15 = .ok (.istore 6, 2) := by decide +kernel
theorem dX1_go_17 : decode cX1_go 17 = .ok (.aload_n 1, 1) := by decide +kernel
theorem dX1_go_18 : decode cX1_go 18 = .ok (.iload_n 2, 1) := by decide +kernel
theorem dX1_go_19 : decode cX1_go 19 = .ok (.iload 5, 2) := by decide +kernel
theorem dX1_go_21 : decode cX1_go 21 = .ok (.iload_n 3, 1) := by decide +kernel
theorem dX1_go_22 : decode cX1_go 22 = .ok (.invokevirtual 89, 3) := by decide +kernel
theorem dX1_go_25 : decode cX1_go 25 = .ok (.istore 7, 2) := by decide +kernel
theorem dX1_go_27 : decode cX1_go 27 = .ok (.iload 5, 2) := by decide +kernel
theorem dX1_go_29 : decode cX1_go 29 = .ok (.iconst (-1), 1) := by decide +kernel
theorem dX1_go_30 : decode cX1_go 30 = .ok (.if_icmp .eq 11, 3) := by decide +kernel
theorem dX1_go_33 : decode cX1_go 33 = .ok (.aload_n 0, 1) := by decide +kernel
theorem dX1_go_34 : decode cX1_go 34 = .ok (.getfield 9, 3) := by decide +kernel
theorem dX1_go_37 : decode cX1_go 37 = .ok (.iload 5, 2) := by decide +kernel
theorem dX1_go_39 : decode cX1_go 39 = .ok (.iconst (-1), 1) := by decide +kernel
theorem dX1_go_40 : decode cX1_go 40 = .ok (.iastore, 1) := by decide +kernel
theorem dX1_go_41 : decode cX1_go 41 = .ok (.iload_n 3, 1) := by decide +kernel
theorem dX1_go_42 : decode cX1_go 42 = .ok (.iconst (-1), 1) := by decide +kernel
theorem dX1_go_43 : decode cX1_go 43 = .ok (.if_icmp .eq 10, 3) := by decide +kernel
theorem dX1_go_46 : decode cX1_go 46 = .ok (.aload_n 0, 1) := by decide +kernel
theorem dX1_go_47 : decode cX1_go 47 = .ok (.getfield 9, 3) := by decide +kernel
theorem dX1_go_50 : decode cX1_go 50 = .ok (.iload_n 3, 1) := by decide +kernel
theorem dX1_go_51 : decode cX1_go 51 = .ok (.iload_n 2, 1) := by decide +kernel
theorem dX1_go_52 : decode cX1_go 52 = .ok (.iastore, 1) := by decide +kernel
theorem dX1_go_53 : decode cX1_go 53 = .ok (.aload_n 0, 1) := by decide +kernel
theorem dX1_go_54 : decode cX1_go 54 = .ok (.getfield 15, 3) := by decide +kernel
theorem dX1_go_57 : decode cX1_go 57 = .ok (.iload_n 2, 1) := by decide +kernel
theorem dX1_go_58 : decode cX1_go 58 = .ok (.iload_n 3, 1) := by decide +kernel
theorem dX1_go_59 : decode cX1_go 59 = .ok (.iastore, 1) := by decide +kernel
theorem dX1_go_60 : decode cX1_go 60 = .ok (.aload_n 0, 1) := by decide +kernel
theorem dX1_go_61 : decode cX1_go 61 = .ok (.getfield 21, 3) := by decide +kernel
theorem dX1_go_64 : decode cX1_go 64 = .ok (.iload_n 2, 1) := by decide +kernel
theorem dX1_go_65 : decode cX1_go 65 = .ok (.dup2, 1) := by decide +kernel
theorem dX1_go_66 : decode cX1_go 66 = .ok (.iaload, 1) := by decide +kernel
theorem dX1_go_67 : decode cX1_go 67 = .ok (.iload 6, 2) := by decide +kernel
theorem dX1_go_69 : decode cX1_go 69 = .ok (.iadd, 1) := by decide +kernel
theorem dX1_go_70 : decode cX1_go 70 = .ok (.iastore, 1) := by decide +kernel
theorem dX1_go_71 : decode cX1_go 71 = .ok (.aload_n 0, 1) := by decide +kernel
theorem dX1_go_72 : decode cX1_go 72 = .ok (.dup, 1) := by decide +kernel
theorem dX1_go_73 : decode cX1_go 73 = .ok (.getfield 30, 3) := by decide +kernel
theorem dX1_go_76 : decode cX1_go 76 = .ok (.iload 6, 2) := by decide +kernel
theorem dX1_go_78 : decode cX1_go 78 = .ok (.iadd, 1) := by decide +kernel
theorem dX1_go_79 : decode cX1_go 79 = .ok (.putfield 30, 3) := by decide +kernel
theorem dX1_go_82 : decode cX1_go 82 = .ok (.aload_n 0, 1) := by decide +kernel
theorem dX1_go_83 : decode cX1_go 83 = .ok (.dup, 1) := by decide +kernel
theorem dX1_go_84 : decode cX1_go 84 = .ok (.getfield 40, 3) := by decide +kernel
theorem dX1_go_87 : decode cX1_go 87 = .ok (.iload 7, 2) := by decide +kernel
theorem dX1_go_89 : decode cX1_go 89 = .ok (.iadd, 1) := by decide +kernel
theorem dX1_go_90 : decode cX1_go 90 = .ok (.putfield 40, 3) := by decide +kernel
theorem dX1_go_93 : decode cX1_go 93 = .ok (.iload 5, 2) := by decide +kernel
theorem dX1_go_95 : decode cX1_go 95 = .ok (.iconst (-1), 1) := by decide +kernel
theorem dX1_go_96 : decode cX1_go 96 = .ok (.if_icmp .eq 45, 3) := by decide +kernel
theorem dX1_go_99 : decode cX1_go 99 = .ok (.iload_n 3, 1) := by decide +kernel
theorem dX1_go_100 : decode cX1_go 100 = .ok (.iconst (-1), 1) := by decide +kernel
theorem dX1_go_101 : decode cX1_go 101 = .ok (.if_icmp .eq 40, 3) := by decide +kernel
theorem dX1_go_104 : decode cX1_go 104 = .ok (.aload_n 0, 1) := by decide +kernel
theorem dX1_go_105 : decode cX1_go 105 = .ok (.getfield 18, 3) := by decide +kernel
theorem dX1_go_108 : decode cX1_go 108 = .ok (.iload_n 2, 1) := by decide +kernel
theorem dX1_go_109 : decode cX1_go 109 = .ok (.dup2, 1) := by decide +kernel
theorem dX1_go_110 : decode cX1_go 110 = .ok (.iaload, 1) := by decide +kernel
theorem dX1_go_111 : decode cX1_go 111 = .ok (.iconst 1, 1) := by decide +kernel
theorem dX1_go_112 : decode cX1_go 112 = .ok (.iadd, 1) := by decide +kernel
theorem dX1_go_113 : decode cX1_go 113 = .ok (.iastore, 1) := by decide +kernel
theorem dX1_go_114 : decode cX1_go 114 = .ok (.aload_n 0, 1) := by decide +kernel
theorem dX1_go_115 : decode cX1_go 115 = .ok (.dup, 1) := by decide +kernel
theorem dX1_go_116 : decode cX1_go 116 = .ok (.getfield 37, 3) := by decide +kernel
theorem dX1_go_119 : decode cX1_go 119 = .ok (.iconst 1, 1) := by decide +kernel
theorem dX1_go_120 : decode cX1_go 120 = .ok (.iadd, 1) := by decide +kernel
theorem dX1_go_121 : decode cX1_go 121 = .ok (.putfield 37, 3) := by decide +kernel
theorem dX1_go_124 : decode cX1_go 124 = .ok (.aload_n 0, 1) := by decide +kernel
theorem dX1_go_125 : decode cX1_go 125 = .ok (.dup, 1) := by decide +kernel
theorem dX1_go_126 : decode cX1_go 126 = .ok (.getfield 34, 3) := by decide +kernel
theorem dX1_go_129 : decode cX1_go 129 = .ok (.aload_n 1, 1) := by decide +kernel
theorem dX1_go_130 : decode cX1_go 130 = .ok (.getfield 93, 3) := by decide +kernel
theorem dX1_go_133 : decode cX1_go 133 = .ok (.iload_n 2, 1) := by decide +kernel
theorem dX1_go_134 : decode cX1_go 134 = .ok (.invokestatic 68, 3) := by decide +kernel
theorem dX1_go_137 : decode cX1_go 137 = .ok (.iadd, 1) := by decide +kernel
theorem dX1_go_138 : decode cX1_go 138 = .ok (.putfield 34, 3) := by decide +kernel
theorem dX1_go_141 : decode cX1_go 141 = .ok (.aload 4, 2) := by decide +kernel
theorem dX1_go_143 : decode cX1_go 143 = .ok (.ifnull 14, 3) := by decide +kernel
theorem dX1_go_146 : decode cX1_go 146 = .ok (.aload 4, 2) := by decide +kernel
theorem dX1_go_148 : decode cX1_go 148 = .ok (.iload_n 2, 1) := by decide +kernel
theorem dX1_go_149 : decode cX1_go 149 = .ok (.iload 5, 2) := by decide +kernel
theorem dX1_go_151 : decode cX1_go 151 = .ok (.iload_n 3, 1) := by decide +kernel
theorem dX1_go_152 : decode cX1_go 152 = .ok (.iload 7, 2) := by decide +kernel
theorem dX1_go_154 : decode cX1_go 154 = .ok (.invokevirtual 96, 3) := by decide +kernel
theorem dX1_go_157 : decode cX1_go 157 = .ok (.return_, 1) := by decide +kernel
theorem dX2_init_0 : decode cX2_init 0 = .ok (.aload_n 0, 1) := by decide +kernel
theorem dX2_init_1 : decode cX2_init 1 = .ok (.invokespecial 5, 3) := by decide +kernel
theorem dX2_init_4 : decode cX2_init 4 = .ok (.aload_n 0, 1) := by decide +kernel
theorem dX2_init_5 : decode cX2_init 5 = .ok (.bipush 10, 2) := by decide +kernel
theorem dX2_init_7 : decode cX2_init 7 = .ok (.newarray .int, 2) := by decide +kernel
theorem dX2_init_9 : decode cX2_init 9 = .ok (.putfield 11, 3) := by decide +kernel
theorem dX2_init_12 : decode cX2_init 12 = .ok (.aload_n 0, 1) := by decide +kernel
theorem dX2_init_13 : decode cX2_init 13 = .ok (.bipush 10, 2) := by decide +kernel
theorem dX2_init_15 : decode cX2_init 15 = .ok (.newarray .int, 2) := by decide +kernel
theorem dX2_init_17 : decode cX2_init 17 = .ok (.putfield 15, 3) := by decide +kernel
theorem dX2_init_20 : decode cX2_init 20 = .ok (.aload_n 0, 1) := by decide +kernel
theorem dX2_init_21 : decode cX2_init 21 = .ok (.bipush 10, 2) := by decide +kernel
theorem dX2_init_23 : decode cX2_init 23 = .ok (.newarray .int, 2) := by decide +kernel
theorem dX2_init_25 : decode cX2_init 25 = .ok (.putfield 18, 3) := by decide +kernel
theorem dX2_init_28 : decode cX2_init 28 = .ok (.aload_n 0, 1) := by decide +kernel
theorem dX2_init_29 : decode cX2_init 29 = .ok (.bipush 10, 2) := by decide +kernel
theorem dX2_init_31 : decode cX2_init 31 = .ok (.newarray .long, 2) := by decide +kernel
theorem dX2_init_33 : decode cX2_init 33 = .ok (.putfield 21, 3) := by decide +kernel
theorem dX2_init_36 : decode cX2_init 36 = .ok (.aload_n 0, 1) := by decide +kernel
theorem dX2_init_37 : decode cX2_init 37 = .ok (.sipush 1000, 3) := by decide +kernel
theorem dX2_init_40 : decode cX2_init 40 = .ok (.newarray .int, 2) := by decide +kernel
theorem dX2_init_42 : decode cX2_init 42 = .ok (.putfield 25, 3) := by decide +kernel
theorem dX2_init_45 : decode cX2_init 45 = .ok (.aload_n 0, 1) := by decide +kernel
theorem dX2_init_46 : decode cX2_init 46 = .ok (.iconst 5, 1) := by decide +kernel
theorem dX2_init_47 : decode cX2_init 47 = .ok (.newarray .int, 2) := by decide +kernel
theorem dX2_init_49 : decode cX2_init 49 = .ok (.putfield 28, 3) := by decide +kernel
theorem dX2_init_52 : decode cX2_init 52 = .ok (.return_, 1) := by decide +kernel
theorem dX2_forget_0 : decode cX2_forget 0 = .ok (.aload_n 0, 1) := by decide +kernel
theorem dX2_forget_1 : decode cX2_forget 1 = .ok (.iconst 0, 1) := by decide +kernel
theorem dX2_forget_2 : decode cX2_forget 2 = .ok (.putfield 31, 3) := by decide +kernel
theorem dX2_forget_5 : decode cX2_forget 5 = .ok (.aload_n 0, 1) := by decide +kernel
theorem dX2_forget_6 : decode cX2_forget 6 = .ok (.iconst 0, 1) := by decide +kernel
theorem dX2_forget_7 : decode cX2_forget 7 = .ok (.putfield 35, 3) := by decide +kernel
theorem dX2_forget_10 : decode cX2_forget 10 = .ok (.aload_n 0, 1) := by decide +kernel
theorem dX2_forget_11 : decode cX2_forget 11 = .ok (.iconst 0, 1) := by decide +kernel
theorem dX2_forget_12 : decode cX2_forget 12 = .ok (.putfield 38, 3) := by decide +kernel
theorem dX2_forget_15 : decode cX2_forget 15 = .ok (.aload_n 0, 1) := by decide +kernel
theorem dX2_forget_16 : decode cX2_forget 16 = .ok (.iconst 0, 1) := by decide +kernel
theorem dX2_forget_17 : decode cX2_forget 17 = .ok (.putfield 41, 3) := by decide +kernel
theorem dX2_forget_20 : decode cX2_forget 20 = .ok (.aload_n 0, 1) := by decide +kernel
theorem dX2_forget_21 : decode cX2_forget 21 = .ok (.iconst 0, 1) := by decide +kernel
theorem dX2_forget_22 : decode cX2_forget 22 = .ok (.putfield 44, 3) := by decide +kernel
theorem dX2_forget_25 : decode cX2_forget 25 = .ok (.aload_n 0, 1) := by decide +kernel
theorem dX2_forget_26 : decode cX2_forget 26 = .ok (.iconst 0, 1) := by decide +kernel
theorem dX2_forget_27 : decode cX2_forget 27 = .ok (.putfield 47, 3) := by decide +kernel
theorem dX2_forget_30 : decode cX2_forget 30 = .ok (.return_, 1) := by decide +kernel
theorem dX2_addRoom_0 : decode cX2_addRoom 0 = .ok (.aload_n 0, 1) := by decide +kernel
theorem dX2_addRoom_1 : decode cX2_addRoom 1 = .ok (.getfield 31, 3) := by decide +kernel
theorem dX2_addRoom_4 : decode cX2_addRoom 4 = .ok (.bipush 10, 2) := by decide +kernel
theorem dX2_addRoom_6 : decode cX2_addRoom 6 = .ok (.if_icmp .ge 33, 3) := by decide +kernel
theorem dX2_addRoom_9 : decode cX2_addRoom 9 = .ok (.aload_n 0, 1) := by decide +kernel
theorem dX2_addRoom_10 : decode cX2_addRoom 10 = .ok (.getfield 11, 3) := by decide +kernel
theorem dX2_addRoom_13 : decode cX2_addRoom 13 = .ok (.aload_n 0, 1) := by decide +kernel
theorem dX2_addRoom_14 : decode cX2_addRoom 14 = .ok (.getfield 31, 3) := by decide +kernel
theorem dX2_addRoom_17 : decode cX2_addRoom 17 = .ok (.iload_n 1, 1) := by decide +kernel
theorem dX2_addRoom_18 : decode cX2_addRoom 18 = .ok (.iastore, 1) := by decide +kernel
theorem dX2_addRoom_19 : decode cX2_addRoom 19 = .ok (.aload_n 0, 1) := by decide +kernel
theorem dX2_addRoom_20 : decode cX2_addRoom 20 = .ok (.getfield 15, 3) := by decide +kernel
theorem dX2_addRoom_23 : decode cX2_addRoom 23 = .ok (.aload_n 0, 1) := by decide +kernel
theorem dX2_addRoom_24 : decode cX2_addRoom 24 = .ok (.getfield 31, 3) := by decide +kernel
theorem dX2_addRoom_27 : decode cX2_addRoom 27 = .ok (.iload_n 2, 1) := by decide +kernel
theorem dX2_addRoom_28 : decode cX2_addRoom 28 = .ok (.iastore, 1) := by decide +kernel
theorem dX2_addRoom_29 : decode cX2_addRoom 29 = .ok (.aload_n 0, 1) := by decide +kernel
theorem dX2_addRoom_30 : decode cX2_addRoom 30 = .ok (.dup, 1) := by decide +kernel
theorem dX2_addRoom_31 : decode cX2_addRoom 31 = .ok (.getfield 31, 3) := by decide +kernel
theorem dX2_addRoom_34 : decode cX2_addRoom 34 = .ok (.iconst 1, 1) := by decide +kernel
theorem dX2_addRoom_35 : decode cX2_addRoom 35 = .ok (.iadd, 1) := by decide +kernel
theorem dX2_addRoom_36 : decode cX2_addRoom 36 = .ok (.putfield 31, 3) := by decide +kernel
theorem dX2_addRoom_39 : decode cX2_addRoom 39 = .ok (.return_, 1) := by decide +kernel
theorem dX2_addGuest_0 : decode cX2_addGuest 0 = .ok (.aload_n 0, 1) := by decide +kernel
theorem dX2_addGuest_1 : decode cX2_addGuest 1 = .ok (.getfield 35, 3) := by decide +kernel
theorem dX2_addGuest_4 : decode cX2_addGuest 4 = .ok (.bipush 10, 2) := by decide +kernel
theorem dX2_addGuest_6 : decode cX2_addGuest 6 = .ok (.if_icmp .ge 81, 3) := by decide +kernel
theorem dX2_addGuest_9 : decode cX2_addGuest 9 = .ok (.aload_n 0, 1) := by decide +kernel
theorem dX2_addGuest_10 : decode cX2_addGuest 10 = .ok (.getfield 21, 3) := by decide +kernel
theorem dX2_addGuest_13 : decode cX2_addGuest 13 = .ok (.aload_n 0, 1) := by decide +kernel
theorem dX2_addGuest_14 : decode cX2_addGuest 14 = .ok (.getfield 35, 3) := by decide +kernel
theorem dX2_addGuest_17 : decode cX2_addGuest 17 = .ok (.lload_n 1, 1) := by decide +kernel
theorem dX2_addGuest_18 : decode cX2_addGuest 18 = .ok (.lastore, 1) := by decide +kernel
theorem dX2_addGuest_19 : decode cX2_addGuest 19 = .ok (.aload_n 0, 1) := by decide +kernel
theorem dX2_addGuest_20 : decode cX2_addGuest 20 = .ok (.getfield 18, 3) := by decide +kernel
theorem dX2_addGuest_23 : decode cX2_addGuest 23 = .ok (.aload_n 0, 1) := by decide +kernel
theorem dX2_addGuest_24 : decode cX2_addGuest 24 = .ok (.getfield 35, 3) := by decide +kernel
theorem dX2_addGuest_27 : decode cX2_addGuest 27 = .ok (.iload_n 3, 1) := by decide +kernel
theorem dX2_addGuest_28 : decode cX2_addGuest 28 = .ok (.iastore, 1) := by decide +kernel
theorem dX2_addGuest_29 : decode cX2_addGuest 29 = .ok (.aload_n 0, 1) := by decide +kernel
theorem dX2_addGuest_30 : decode cX2_addGuest 30 = .ok (.dup, 1) := by decide +kernel
theorem dX2_addGuest_31 : decode cX2_addGuest 31 = .ok (.getfield 41, 3) := by decide +kernel
theorem dX2_addGuest_34 : decode cX2_addGuest 34 = .ok (.iload 4, 2) := by decide +kernel
theorem dX2_addGuest_36 : decode cX2_addGuest 36 = .ok (.ifCond .eq 12, 3) := by decide +kernel
theorem dX2_addGuest_39 : decode cX2_addGuest 39 = .ok (.iconst 1, 1) := by decide +kernel
theorem dX2_addGuest_40 : decode cX2_addGuest 40 = .ok (.aload_n 0, 1) := by decide +kernel
theorem dX2_addGuest_41 : decode cX2_addGuest 41 = .ok (.getfield 35, 3) := by decide +kernel
theorem dX2_addGuest_44 : decode cX2_addGuest 44 = .ok (.ishl, 1) := by decide +kernel
theorem dX2_addGuest_45 : decode cX2_addGuest 45 = .ok (.goto 4, 3) := by decide +kernel
theorem dX2_addGuest_48 : decode cX2_addGuest 48 = .ok (.iconst 0, 1) := by decide +kernel
theorem dX2_addGuest_49 : decode cX2_addGuest 49 = .ok (.ior, 1) := by decide +kernel
theorem dX2_addGuest_50 : decode cX2_addGuest 50 = .ok (.putfield 41, 3) := by decide +kernel
theorem dX2_addGuest_53 : decode cX2_addGuest 53 = .ok (.aload_n 0, 1) := by decide +kernel
theorem dX2_addGuest_54 : decode cX2_addGuest 54 = .ok (.dup, 1) := by decide +kernel
theorem dX2_addGuest_55 : decode cX2_addGuest 55 = .ok (.getfield 44, 3) := by decide +kernel
theorem dX2_addGuest_58 : decode cX2_addGuest 58 = .ok (.iload 5, 2) := by decide +kernel
theorem dX2_addGuest_60 : decode cX2_addGuest 60 = .ok (.ifCond .eq 12, 3) := by decide +kernel
theorem dX2_addGuest_63 : decode cX2_addGuest 63 = .ok (.iconst 1, 1) := by decide +kernel
theorem dX2_addGuest_64 : decode cX2_addGuest 64 = .ok (.aload_n 0, 1) := by decide +kernel
theorem dX2_addGuest_65 : decode cX2_addGuest 65 = .ok (.getfield 35, 3) := by decide +kernel
theorem dX2_addGuest_68 : decode cX2_addGuest 68 = .ok (.ishl, 1) := by decide +kernel
theorem dX2_addGuest_69 : decode cX2_addGuest 69 = .ok (.goto 4, 3) := by decide +kernel
theorem dX2_addGuest_72 : decode cX2_addGuest 72 = .ok (.iconst 0, 1) := by decide +kernel
theorem dX2_addGuest_73 : decode cX2_addGuest 73 = .ok (.ior, 1) := by decide +kernel
theorem dX2_addGuest_74 : decode cX2_addGuest 74 = .ok (.putfield 44, 3) := by decide +kernel
theorem dX2_addGuest_77 : decode cX2_addGuest 77 = .ok (.aload_n 0, 1) := by decide +kernel
theorem dX2_addGuest_78 : decode cX2_addGuest 78 = .ok (.dup, 1) := by decide +kernel
theorem dX2_addGuest_79 : decode cX2_addGuest 79 = .ok (.getfield 35, 3) := by decide +kernel
theorem dX2_addGuest_82 : decode cX2_addGuest 82 = .ok (.iconst 1, 1) := by decide +kernel
theorem dX2_addGuest_83 : decode cX2_addGuest 83 = .ok (.iadd, 1) := by decide +kernel
theorem dX2_addGuest_84 : decode cX2_addGuest 84 = .ok (.putfield 35, 3) := by decide +kernel
theorem dX2_addGuest_87 : decode cX2_addGuest 87 = .ok (.return_, 1) := by decide +kernel
theorem dX2_hasName_0 : decode cX2_hasName 0 = .ok (.iconst 0, 1) := by decide +kernel
theorem dX2_hasName_1 : decode cX2_hasName 1 = .ok (.istore_n 3, 1) := by decide +kernel
theorem dX2_hasName_2 : decode cX2_hasName 2 = .ok (.iload_n 3, 1) := by decide +kernel
theorem dX2_hasName_3 : decode cX2_hasName 3 = .ok (.aload_n 0, 1) := by decide +kernel
theorem dX2_hasName_4 : decode cX2_hasName 4 = .ok (.getfield 35, 3) := by decide +kernel
theorem dX2_hasName_7 : decode cX2_hasName 7 = .ok (.if_icmp .ge 22, 3) := by decide +kernel
theorem dX2_hasName_10 : decode cX2_hasName 10 = .ok (.aload_n 0, 1) := by decide +kernel
theorem dX2_hasName_11 : decode cX2_hasName 11 = .ok (.getfield 21, 3) := by decide +kernel
theorem dX2_hasName_14 : decode cX2_hasName 14 = .ok (.iload_n 3, 1) := by decide +kernel
theorem dX2_hasName_15 : decode cX2_hasName 15 = .ok (.laload, 1) := by decide +kernel
theorem dX2_hasName_16 : decode cX2_hasName 16 = .ok (.lload_n 1, 1) := by decide +kernel
theorem dX2_hasName_17 : decode cX2_hasName 17 = .ok (.lcmp, 1) := by decide +kernel
theorem dX2_hasName_18 : decode cX2_hasName 18 = .ok (.ifCond .ne 5, 3) := by decide +kernel
theorem dX2_hasName_21 : decode cX2_hasName 21 = .ok (.iconst 1, 1) := by decide +kernel
theorem dX2_hasName_22 : decode cX2_hasName 22 = .ok (.ireturn, 1) := by decide +kernel
theorem dX2_hasName_23 : decode cX2_hasName 23 = .ok (.iinc 3 1, 3) := by decide +kernel
theorem dX2_hasName_26 : decode cX2_hasName 26 = .ok (.goto (-24), 3) := by decide +kernel
theorem dX2_hasName_29 : decode cX2_hasName 29 = .ok (.iconst 0, 1) := by decide +kernel
theorem dX2_hasName_30 : decode cX2_hasName 30 = .ok (.ireturn, 1) := by decide +kernel
theorem dX2_addCode_0 : decode cX2_addCode 0 = .ok (.aload_n 0, 1) := by decide +kernel
theorem dX2_addCode_1 : decode cX2_addCode 1 = .ok (.getfield 47, 3) := by decide +kernel
theorem dX2_addCode_4 : decode cX2_addCode 4 = .ok (.aload_n 0, 1) := by decide +kernel
theorem dX2_addCode_5 : decode cX2_addCode 5 = .ok (.getfield 25, 3) := by decide +kernel
theorem dX2_addCode_8 : decode cX2_addCode 8 = .ok (.arraylength, 1) := by decide +kernel
theorem dX2_addCode_9 : decode cX2_addCode 9 = .ok (.if_icmp .ge 23, 3) := by decide +kernel
theorem dX2_addCode_12 : decode cX2_addCode 12 = .ok (.aload_n 0, 1) := by decide +kernel
theorem dX2_addCode_13 : decode cX2_addCode 13 = .ok (.getfield 25, 3) := by decide +kernel
theorem dX2_addCode_16 : decode cX2_addCode 16 = .ok (.aload_n 0, 1) := by decide +kernel
theorem dX2_addCode_17 : decode cX2_addCode 17 = .ok (.getfield 47, 3) := by decide +kernel
theorem dX2_addCode_20 : decode cX2_addCode 20 = .ok (.iload_n 1, 1) := by decide +kernel
theorem dX2_addCode_21 : decode cX2_addCode 21 = .ok (.iastore, 1) := by decide +kernel
theorem dX2_addCode_22 : decode cX2_addCode 22 = .ok (.aload_n 0, 1) := by decide +kernel
theorem dX2_addCode_23 : decode cX2_addCode 23 = .ok (.dup, 1) := by decide +kernel
theorem dX2_addCode_24 : decode cX2_addCode 24 = .ok (.getfield 47, 3) := by decide +kernel
theorem dX2_addCode_27 : decode cX2_addCode 27 = .ok (.iconst 1, 1) := by decide +kernel
theorem dX2_addCode_28 : decode cX2_addCode 28 = .ok (.iadd, 1) := by decide +kernel
theorem dX2_addCode_29 : decode cX2_addCode 29 = .ok (.putfield 47, 3) := by decide +kernel
theorem dX2_addCode_32 : decode cX2_addCode 32 = .ok (.return_, 1) := by decide +kernel
theorem dX2_endRule_0 : decode cX2_endRule 0 = .ok (.aload_n 0, 1) := by decide +kernel
theorem dX2_endRule_1 : decode cX2_endRule 1 = .ok (.getfield 38, 3) := by decide +kernel
theorem dX2_endRule_4 : decode cX2_endRule 4 = .ok (.iconst 4, 1) := by decide +kernel
theorem dX2_endRule_5 : decode cX2_endRule 5 = .ok (.if_icmp .ge 26, 3) := by decide +kernel
theorem dX2_endRule_8 : decode cX2_endRule 8 = .ok (.aload_n 0, 1) := by decide +kernel
theorem dX2_endRule_9 : decode cX2_endRule 9 = .ok (.dup, 1) := by decide +kernel
theorem dX2_endRule_10 : decode cX2_endRule 10 = .ok (.getfield 38, 3) := by decide +kernel
theorem dX2_endRule_13 : decode cX2_endRule 13 = .ok (.iconst 1, 1) := by decide +kernel
theorem dX2_endRule_14 : decode cX2_endRule 14 = .ok (.iadd, 1) := by decide +kernel
theorem dX2_endRule_15 : decode cX2_endRule 15 = .ok (.putfield 38, 3) := by decide +kernel
theorem dX2_endRule_18 : decode cX2_endRule 18 = .ok (.aload_n 0, 1) := by decide +kernel
theorem dX2_endRule_19 : decode cX2_endRule 19 = .ok (.getfield 28, 3) := by decide +kernel
theorem dX2_endRule_22 : decode cX2_endRule 22 = .ok (.aload_n 0, 1) := by decide +kernel
theorem dX2_endRule_23 : decode cX2_endRule 23 = .ok (.getfield 38, 3) := by decide +kernel
theorem dX2_endRule_26 : decode cX2_endRule 26 = .ok (.aload_n 0, 1) := by decide +kernel
theorem dX2_endRule_27 : decode cX2_endRule 27 = .ok (.getfield 47, 3) := by decide +kernel
theorem dX2_endRule_30 : decode cX2_endRule 30 = .ok (.iastore, 1) := by decide +kernel
theorem dX2_endRule_31 : decode cX2_endRule 31 = .ok (.return_, 1) := by decide +kernel
theorem dX2_floorsBetween_0 : decode cX2_floorsBetween 0 = .ok (.aload_n 0, 1) := by decide +kernel
theorem dX2_floorsBetween_1 : decode cX2_floorsBetween 1 = .ok (.iload_n 1, 1) := by decide +kernel
theorem dX2_floorsBetween_2 : decode cX2_floorsBetween 2 = .ok (.invokevirtual 50, 3) := by decide +kernel
theorem dX2_floorsBetween_5 : decode cX2_floorsBetween 5 = .ok (.aload_n 0, 1) := by decide +kernel
theorem dX2_floorsBetween_6 : decode cX2_floorsBetween 6 = .ok (.iload_n 2, 1) := by decide +kernel
theorem dX2_floorsBetween_7 : decode cX2_floorsBetween 7 = .ok (.invokevirtual 50, 3) := by decide +kernel
theorem dX2_floorsBetween_10 : decode cX2_floorsBetween 10 = .ok (.isub, 1) := by decide +kernel
theorem dX2_floorsBetween_11 : decode cX2_floorsBetween 11 = .ok (.invokestatic 54, 3) := by decide +kernel
theorem dX2_floorsBetween_14 : decode cX2_floorsBetween 14 = .ok (.ireturn, 1) := by decide +kernel
theorem dX2_walkBetween_0 : decode cX2_walkBetween 0 = .ok (.iload_n 1, 1) := by decide +kernel
theorem dX2_walkBetween_1 : decode cX2_walkBetween 1 = .ok (.iload_n 2, 1) := by decide +kernel
theorem dX2_walkBetween_2 : decode cX2_walkBetween 2 = .ok (.isub, 1) := by decide +kernel
theorem dX2_walkBetween_3 : decode cX2_walkBetween 3 = .ok (.invokestatic 54, 3) := by decide +kernel
theorem dX2_walkBetween_6 : decode cX2_walkBetween 6 = .ok (.iconst 2, 1) := by decide +kernel
theorem dX2_walkBetween_7 : decode cX2_walkBetween 7 = .ok (.aload_n 0, 1) := by decide +kernel
theorem dX2_walkBetween_8 : decode cX2_walkBetween 8 = .ok (.iload_n 1, 1) := by decide +kernel
theorem dX2_walkBetween_9 : decode cX2_walkBetween 9 = .ok (.iload_n 2, 1) := by decide +kernel
theorem dX2_walkBetween_10 : decode cX2_walkBetween 10 = .ok (.invokevirtual 59, 3) := by decide +kernel
theorem dX2_walkBetween_13 : decode cX2_walkBetween 13 = .ok (.imul, 1) := by decide +kernel
theorem dX2_walkBetween_14 : decode cX2_walkBetween 14 = .ok (.iadd, 1) := by decide +kernel
theorem dX2_walkBetween_15 : decode cX2_walkBetween 15 = .ok (.ireturn, 1) := by decide +kernel
theorem dX2_stepsBetween_0 : decode cX2_stepsBetween 0 = .ok (.iload_n 1, 1) := by decide +kernel
theorem dX2_stepsBetween_1 : decode cX2_stepsBetween 1 = .ok (.iload_n 2, 1) := by decide +kernel
theorem dX2_stepsBetween_2 : decode cX2_stepsBetween 2 = .ok (.isub, 1) := by decide +kernel
theorem dX2_stepsBetween_3 : decode cX2_stepsBetween 3 = .ok (.invokestatic 54, 3) := by decide +kernel
theorem dX2_stepsBetween_6 : decode cX2_stepsBetween 6 = .ok (.bipush 10, 2) := by decide +kernel
theorem dX2_stepsBetween_8 : decode cX2_stepsBetween 8 = .ok (.aload_n 0, 1) := by decide +kernel
theorem dX2_stepsBetween_9 : decode cX2_stepsBetween 9 = .ok (.iload_n 1, 1) := by decide +kernel
theorem dX2_stepsBetween_10 : decode cX2_stepsBetween 10 = .ok (.iload_n 2, 1) := by decide +kernel
theorem dX2_stepsBetween_11 : decode cX2_stepsBetween 11 = .ok (.invokevirtual 59, 3) := by decide +kernel
theorem dX2_stepsBetween_14 : decode cX2_stepsBetween 14 = .ok (.imul, 1) := by decide +kernel
theorem dX2_stepsBetween_15 : decode cX2_stepsBetween 15 = .ok (.iadd, 1) := by decide +kernel
theorem dX2_stepsBetween_16 : decode cX2_stepsBetween 16 = .ok (.ireturn, 1) := by decide +kernel
theorem dX2_minutesNeeded_0 : decode cX2_minutesNeeded 0 = .ok (.iconst 1, 1) := by decide +kernel
theorem dX2_minutesNeeded_1 : decode cX2_minutesNeeded 1 = .ok (.iconst 2, 1) := by decide +kernel
theorem dX2_minutesNeeded_2 : decode cX2_minutesNeeded 2 = .ok (.aload_n 0, 1) := by decide +kernel
theorem dX2_minutesNeeded_3 : decode cX2_minutesNeeded 3 = .ok (.iload_n 2, 1) := by decide +kernel
theorem dX2_minutesNeeded_4 : decode cX2_minutesNeeded 4 = .ok (.iload_n 3, 1) := by decide +kernel
theorem dX2_minutesNeeded_5 : decode cX2_minutesNeeded 5 = .ok (.invokevirtual 59, 3) := by decide +kernel
theorem dX2_minutesNeeded_8 : decode cX2_minutesNeeded 8 = .ok (.imul, 1) := by decide +kernel
theorem dX2_minutesNeeded_9 : decode cX2_minutesNeeded 9 = .ok (.iadd, 1) := by decide +kernel
theorem dX2_minutesNeeded_10 : decode cX2_minutesNeeded 10 = .ok (.aload_n 0, 1) := by decide +kernel
theorem dX2_minutesNeeded_11 : decode cX2_minutesNeeded 11 = .ok (.getfield 18, 3) := by decide +kernel
theorem dX2_minutesNeeded_14 : decode cX2_minutesNeeded 14 = .ok (.iload_n 1, 1) := by decide +kernel
theorem dX2_minutesNeeded_15 : decode cX2_minutesNeeded 15 = .ok (.iaload, 1) := by decide +kernel
theorem dX2_minutesNeeded_16 : decode cX2_minutesNeeded 16 = .ok (.bipush 10, 2) := by decide +kernel
theorem dX2_minutesNeeded_18 : decode cX2_minutesNeeded 18 = .ok (.idiv, 1) := by decide +kernel
theorem dX2_minutesNeeded_19 : decode cX2_minutesNeeded 19 = .ok (.iadd, 1) := by decide +kernel
theorem dX2_minutesNeeded_20 : decode cX2_minutesNeeded 20 = .ok (.ireturn, 1) := by decide +kernel
theorem dX2_floorOf_0 : decode cX2_floorOf 0 = .ok (.iload_n 1, 1) := by decide +kernel
theorem dX2_floorOf_1 : decode cX2_floorOf 1 = .ok (.ifCond .lt 20, 3) := by decide +kernel
theorem dX2_floorOf_4 : decode cX2_floorOf 4 = .ok (.iload_n 1, 1) := by decide +kernel
theorem dX2_floorOf_5 : decode cX2_floorOf 5 = .ok (.aload_n 0, 1) := by decide +kernel
theorem dX2_floorOf_6 : decode cX2_floorOf 6 = .ok (.getfield 31, 3) := by decide +kernel
theorem dX2_floorOf_9 : decode cX2_floorOf 9 = .ok (.if_icmp .ge 12, 3) := by decide +kernel
theorem dX2_floorOf_12 : decode cX2_floorOf 12 = .ok (.aload_n 0, 1) := by decide +kernel
theorem dX2_floorOf_13 : decode cX2_floorOf 13 = .ok (.getfield 11, 3) := by decide +kernel
theorem dX2_floorOf_16 : decode cX2_floorOf 16 = .ok (.iload_n 1, 1) := by decide +kernel
theorem dX2_floorOf_17 : decode cX2_floorOf 17 = .ok (.iaload, 1) := by decide +kernel
theorem dX2_floorOf_18 : decode cX2_floorOf 18 = .ok (.goto 4, 3) := by decide +kernel
theorem dX2_floorOf_21 : decode cX2_floorOf 21 = .ok (.iconst 0, 1) := by decide +kernel
theorem dX2_floorOf_22 : decode cX2_floorOf 22 = .ok (.ireturn, 1) := by decide +kernel
theorem dX3_init_0 : decode cX3_init 0 = .ok (.aload_n 0, 1) := by decide +kernel
theorem dX3_init_1 : decode cX3_init 1 = .ok (.invokespecial 3, 3) := by decide +kernel
theorem dX3_init_4 : decode cX3_init 4 = .ok (.aload_n 0, 1) := by decide +kernel
theorem dX3_init_5 : decode cX3_init 5 = .ok (.aload_n 1, 1) := by decide +kernel
theorem dX3_init_6 : decode cX3_init 6 = .ok (.putfield 9, 3) := by decide +kernel
theorem dX3_init_9 : decode cX3_init 9 = .ok (.return_, 1) := by decide +kernel
theorem dX3_readInto_0 : decode cX3_readInto 0 = .ok (.aload_n 0, 1) := by decide +kernel
theorem dX3_readInto_1 : decode cX3_readInto 1 = .ok (.aload_n 1, 1) := by decide +kernel
theorem dX3_readInto_2 : decode cX3_readInto 2 = .ok (.putfield 15, 3) := by decide +kernel
theorem dX3_readInto_5 : decode cX3_readInto 5 = .ok (.aload_n 0, 1) := by decide +kernel
theorem dX3_readInto_6 : decode cX3_readInto 6 = .ok (.getfield 15, 3) := by decide +kernel
theorem dX3_readInto_9 : decode cX3_readInto 9 = .ok (.invokevirtual 19, 3) := by decide +kernel
theorem dX3_readInto_12 : decode cX3_readInto 12 = .ok (.aload_n 0, 1) := by decide +kernel
theorem dX3_readInto_13 : decode cX3_readInto 13 = .ok (.iconst 0, 1) := by decide +kernel
theorem dX3_readInto_14 : decode cX3_readInto 14 = .ok (.putfield 24, 3) := by decide +kernel
theorem dX3_readInto_17 : decode cX3_readInto 17 = .ok (.aload_n 0, 1) := by decide +kernel
theorem dX3_readInto_18 : decode cX3_readInto 18 = .ok (.getfield 9, 3) := by decide +kernel
theorem dX3_readInto_21 : decode cX3_readInto 21 = .ok (.invokevirtual 28, 3) := by decide +kernel
theorem dX3_readInto_24 : decode cX3_readInto 24 = .ok (.iconst 0, 1) := by decide +kernel
theorem dX3_readInto_25 : decode cX3_readInto 25 = .ok (.istore_n 2, 1) := by decide +kernel
theorem dX3_readInto_26 : decode cX3_readInto 26 = .ok (.iload_n 2, 1) := by decide +kernel
theorem dX3_readInto_27 : decode cX3_readInto 27 = .ok (.sipush 1000, 3) := by decide +kernel
theorem dX3_readInto_30 : decode cX3_readInto 30 = .ok (.if_icmp .ge 100, 3) := by decide +kernel
theorem dX3_readInto_33 : decode cX3_readInto 33 = .ok (.aload_n 0, 1) := by decide +kernel
theorem dX3_readInto_34 : decode cX3_readInto 34 = .ok (.getfield 9, 3) := by decide +kernel
theorem dX3_readInto_37 : decode cX3_readInto 37 = .ok (.getfield 33, 3) := by decide +kernel
theorem dX3_readInto_40 : decode cX3_readInto 40 = .ok (.ifCond .eq 90, 3) := by decide +kernel
theorem dX3_readInto_43 : decode cX3_readInto 43 = .ok (.aload_n 0, 1) := by decide +kernel
theorem dX3_readInto_44 : decode cX3_readInto 44 = .ok (.getfield 9, 3) := by decide +kernel
theorem dX3_readInto_47 : decode cX3_readInto 47 = .ok (.ldc 36, 2) := by decide +kernel
theorem dX3_readInto_49 : decode cX3_readInto 49 = .ok (.invokevirtual 38, 3) := by decide +kernel
theorem dX3_readInto_52 : decode cX3_readInto 52 = .ok (.ifCond .eq 10, 3) := by decide +kernel
theorem dX3_readInto_55 : decode cX3_readInto 55 = .ok (.aload_n 0, 1) := by decide +kernel
theorem dX3_readInto_56 : decode cX3_readInto 56 = .ok (.invokevirtual 42, 3) := by decide +kernel
theorem dX3_readInto_59 : decode cX3_readInto 59 = .ok (.goto 46, 3) := by decide +kernel
theorem dX3_readInto_62 : decode cX3_readInto 62 = .ok (.aload_n 0, 1) := by decide +kernel
theorem dX3_readInto_63 : decode cX3_readInto 63 = .ok (.getfield 9, 3) := by decide +kernel
theorem dX3_readInto_66 : decode cX3_readInto 66 = .ok (.ldc 46, 2) := by decide +kernel
theorem dX3_readInto_68 : decode cX3_readInto 68 = .ok (.invokevirtual 38, 3) := by decide +kernel
theorem dX3_readInto_71 : decode cX3_readInto 71 = .ok (.ifCond .eq 10, 3) := by decide +kernel
theorem dX3_readInto_74 : decode cX3_readInto 74 = .ok (.aload_n 0, 1) := by decide +kernel
theorem dX3_readInto_75 : decode cX3_readInto 75 = .ok (.invokevirtual 48, 3) := by decide +kernel
theorem dX3_readInto_78 : decode cX3_readInto 78 = .ok (.goto 27, 3) := by decide +kernel
theorem dX3_readInto_81 : decode cX3_readInto 81 = .ok (.aload_n 0, 1) := by decide +kernel
theorem dX3_readInto_82 : decode cX3_readInto 82 = .ok (.getfield 9, 3) := by decide +kernel
theorem dX3_readInto_85 : decode cX3_readInto 85 = .ok (.ldc 51, 2) := by decide +kernel
theorem dX3_readInto_87 : decode cX3_readInto 87 = .ok (.invokevirtual 38, 3) := by decide +kernel
theorem dX3_readInto_90 : decode cX3_readInto 90 = .ok (.ifCond .eq 10, 3) := by decide +kernel
theorem dX3_readInto_93 : decode cX3_readInto 93 = .ok (.aload_n 0, 1) := by decide +kernel
theorem dX3_readInto_94 : decode cX3_readInto 94 = .ok (.invokevirtual 53, 3) := by decide +kernel
theorem dX3_readInto_97 : decode cX3_readInto 97 = .ok (.goto 8, 3) := by decide +kernel
theorem dX3_readInto_100 : decode cX3_readInto 100 = .ok (.aload_n 0, 1) := by decide +kernel
theorem dX3_readInto_101 : decode cX3_readInto 101 = .ok (.iconst 1, 1) := by decide +kernel
theorem dX3_readInto_102 : decode cX3_readInto 102 = .ok (.invokevirtual 56, 3) := by decide +kernel
theorem dX3_readInto_105 : decode cX3_readInto 105 = .ok (.istore_n 3, 1) := by decide +kernel
theorem dX3_readInto_106 : decode cX3_readInto 106 = .ok (.iload_n 3, 1) := by decide +kernel
theorem dX3_readInto_107 : decode cX3_readInto 107 = .ok (.ifCond .eq 12, 3) := by decide +kernel
theorem dX3_readInto_110 : decode cX3_readInto 110 = .ok (.aload_n 0, 1) := by decide +kernel
theorem dX3_readInto_111 : decode cX3_readInto 111 = .ok (.bipush 59, 2) := by decide +kernel
theorem dX3_readInto_113 : decode cX3_readInto 113 = .ok (.invokevirtual 60, 3) := by decide +kernel
theorem dX3_readInto_116 : decode cX3_readInto 116 = .ok (.ifCond .ne 8, 3) := by decide +kernel
theorem dX3_readInto_119 : decode cX3_readInto 119 = .ok (.aload_n 0, 1) := by decide +kernel
theorem dX3_readInto_120 : decode cX3_readInto 120 = .ok (.getfield 24, 3) := by decide +kernel
theorem dX3_readInto_123 : decode cX3_readInto 123 = .ok (.ireturn, 1) := by decide +kernel
theorem dX3_readInto_124 : decode cX3_readInto 124 = .ok (.iinc 2 1, 3) := by decide +kernel
theorem dX3_readInto_127 : decode cX3_readInto 127 = .ok (.goto (-101), 3) := by decide +kernel
theorem dX3_readInto_130 : decode cX3_readInto 130 = .ok (.iconst 0, 1) := by decide +kernel
theorem dX3_readInto_131 : decode cX3_readInto 131 = .ok (.ireturn, 1) := by decide +kernel
theorem dX3_readRoom_0 : decode cX3_readRoom 0 = .ok (.aload_n 0, 1) := by decide +kernel
theorem dX3_readRoom_1 : decode cX3_readRoom 1 = .ok (.getfield 15, 3) := by decide +kernel
theorem dX3_readRoom_4 : decode cX3_readRoom 4 = .ok (.getfield 63, 3) := by decide +kernel
theorem dX3_readRoom_7 : decode cX3_readRoom 7 = .ok (.bipush 10, 2) := by decide +kernel
theorem dX3_readRoom_9 : decode cX3_readRoom 9 = .ok (.if_icmp .ne 9, 3) := by decide +kernel
theorem dX3_readRoom_12 : decode cX3_readRoom 12 = .ok (.aload_n 0, 1) := by decide +kernel
theorem dX3_readRoom_13 : decode cX3_readRoom 13 = .ok (.iconst 5, 1) := by decide +kernel
theorem dX3_readRoom_14 : decode cX3_readRoom 14 = .ok (.invokevirtual 56, 3) := by decide +kernel
theorem dX3_readRoom_17 : decode cX3_readRoom 17 = .ok (.ireturn, 1) := by decide +kernel
theorem dX3_readRoom_18 : decode cX3_readRoom 18 = .ok (.aload_n 0, 1) := by decide +kernel
theorem dX3_readRoom_19 : decode cX3_readRoom 19 = .ok (.getfield 9, 3) := by decide +kernel
theorem dX3_readRoom_22 : decode cX3_readRoom 22 = .ok (.invokevirtual 66, 3) := by decide +kernel
theorem dX3_readRoom_25 : decode cX3_readRoom 25 = .ok (.aload_n 0, 1) := by decide +kernel
theorem dX3_readRoom_26 : decode cX3_readRoom 26 = .ok (.bipush 9, 2) := by decide +kernel
theorem dX3_readRoom_28 : decode cX3_readRoom 28 = .ok (.invokevirtual 69, 3) := by decide +kernel
theorem dX3_readRoom_31 : decode cX3_readRoom 31 = .ok (.istore_n 1, 1) := by decide +kernel
theorem dX3_readRoom_32 : decode cX3_readRoom 32 = .ok (.iload_n 1, 1) := by decide +kernel
theorem dX3_readRoom_33 : decode cX3_readRoom 33 = .ok (.iconst (-1), 1) := by decide +kernel
theorem dX3_readRoom_34 : decode cX3_readRoom 34 = .ok (.if_icmp .ne 5, 3) := by decide +kernel
theorem dX3_readRoom_37 : decode cX3_readRoom 37 = .ok (.iconst 0, 1) := by decide +kernel
theorem dX3_readRoom_38 : decode cX3_readRoom 38 = .ok (.ireturn, 1) := by decide +kernel
theorem dX3_readRoom_39 : decode cX3_readRoom 39 = .ok (.aload_n 0, 1) := by decide +kernel
theorem dX3_readRoom_40 : decode cX3_readRoom 40 = .ok (.iconst 1, 1) := by decide +kernel
theorem dX3_readRoom_41 : decode cX3_readRoom 41 = .ok (.invokevirtual 69, 3) := by decide +kernel
theorem dX3_readRoom_44 : decode cX3_readRoom 44 = .ok (.istore_n 2, 1) := by decide +kernel
theorem dX3_readRoom_45 : decode cX3_readRoom 45 = .ok (.iload_n 2, 1) := by decide +kernel
theorem dX3_readRoom_46 : decode cX3_readRoom 46 = .ok (.iconst (-1), 1) := by decide +kernel
theorem dX3_readRoom_47 : decode cX3_readRoom 47 = .ok (.if_icmp .ne 5, 3) := by decide +kernel
theorem dX3_readRoom_50 : decode cX3_readRoom 50 = .ok (.iconst 0, 1) := by decide +kernel
theorem dX3_readRoom_51 : decode cX3_readRoom 51 = .ok (.ireturn, 1) := by decide +kernel
theorem dX3_readRoom_52 : decode cX3_readRoom 52 = .ok (.aload_n 0, 1) := by decide +kernel
theorem dX3_readRoom_53 : decode cX3_readRoom 53 = .ok (.getfield 15, 3) := by decide +kernel
theorem dX3_readRoom_56 : decode cX3_readRoom 56 = .ok (.iload_n 1, 1) := by decide +kernel
theorem dX3_readRoom_57 : decode cX3_readRoom 57 = .ok (.iload_n 2, 1) := by decide +kernel
theorem dX3_readRoom_58 : decode cX3_readRoom 58 = .ok (.invokevirtual 73, 3) := by decide +kernel
theorem dX3_readRoom_61 : decode cX3_readRoom 61 = .ok (.iconst 1, 1) := by decide +kernel
theorem dX3_readRoom_62 : decode cX3_readRoom 62 = .ok (.ireturn, 1) := by decide +kernel
theorem dX3_readGuest_0 : decode cX3_readGuest 0 = .ok (.aload_n 0, 1) := by decide +kernel
theorem dX3_readGuest_1 : decode cX3_readGuest 1 = .ok (.getfield 15, 3) := by decide +kernel
theorem dX3_readGuest_4 : decode cX3_readGuest 4 = .ok (.getfield 77, 3) := by decide +kernel
theorem dX3_readGuest_7 : decode cX3_readGuest 7 = .ok (.bipush 10, 2) := by decide +kernel
theorem dX3_readGuest_9 : decode cX3_readGuest 9 = .ok (.if_icmp .ne 9, 3) := by decide +kernel
theorem dX3_readGuest_12 : decode cX3_readGuest 12 = .ok (.aload_n 0, 1) := by decide +kernel
theorem dX3_readGuest_13 : decode cX3_readGuest 13 = .ok (.iconst 5, 1) := by decide +kernel
theorem dX3_readGuest_14 : decode cX3_readGuest 14 = .ok (.invokevirtual 56, 3) := by decide +kernel
theorem dX3_readGuest_17 : decode cX3_readGuest 17 = .ok (.ireturn, 1) := by decide +kernel
theorem dX3_readGuest_18 : decode cX3_readGuest 18 = .ok (.aload_n 0, 1) := by decide +kernel
theorem dX3_readGuest_19 : decode cX3_readGuest 19 = .ok (.getfield 9, 3) := by decide +kernel
theorem dX3_readGuest_22 : decode cX3_readGuest 22 = .ok (.invokevirtual 66, 3) := by decide +kernel
theorem dX3_readGuest_25 : decode cX3_readGuest 25 = .ok (.aload_n 0, 1) := by decide +kernel
theorem dX3_readGuest_26 : decode cX3_readGuest 26 = .ok (.getfield 9, 3) := by decide +kernel
theorem dX3_readGuest_29 : decode cX3_readGuest 29 = .ok (.getfield 33, 3) := by decide +kernel
theorem dX3_readGuest_32 : decode cX3_readGuest 32 = .ok (.iconst 1, 1) := by decide +kernel
theorem dX3_readGuest_33 : decode cX3_readGuest 33 = .ok (.if_icmp .ne 10, 3) := by decide +kernel
theorem dX3_readGuest_36 : decode cX3_readGuest 36 = .ok (.aload_n 0, 1) := by decide +kernel
theorem dX3_readGuest_37 : decode cX3_readGuest 37 = .ok (.invokevirtual 80, 3) := by decide +kernel
theorem dX3_readGuest_40 : decode cX3_readGuest 40 = .ok (.ifCond .eq 9, 3) := by decide +kernel
theorem dX3_readGuest_43 : decode cX3_readGuest 43 = .ok (.aload_n 0, 1) := by decide +kernel
theorem dX3_readGuest_44 : decode cX3_readGuest 44 = .ok (.iconst 1, 1) := by decide +kernel
theorem dX3_readGuest_45 : decode cX3_readGuest 45 = .ok (.invokevirtual 56, 3) := by decide +kernel
theorem dX3_readGuest_48 : decode cX3_readGuest 48 = .ok (.ireturn, 1) := by decide +kernel
theorem dX3_readGuest_49 : decode cX3_readGuest 49 = .ok (.aload_n 0, 1) := by decide +kernel
theorem dX3_readGuest_50 : decode cX3_readGuest 50 = .ok (.getfield 9, 3) := by decide +kernel
theorem dX3_readGuest_53 : decode cX3_readGuest 53 = .ok (.getfield 83, 3) := by decide +kernel
theorem dX3_readGuest_56 : decode cX3_readGuest 56 = .ok (.lstore_n 1, 1) := by decide +kernel
theorem dX3_readGuest_57 : decode cX3_readGuest 57 = .ok (.aload_n 0, 1) := by decide +kernel
theorem dX3_readGuest_58 : decode cX3_readGuest 58 = .ok (.getfield 15, 3) := by decide +kernel
theorem dX3_readGuest_61 : decode cX3_readGuest 61 = .ok (.lload_n 1, 1) := by decide +kernel
theorem dX3_readGuest_62 : decode cX3_readGuest 62 = .ok (.invokevirtual 87, 3) := by decide +kernel
theorem dX3_readGuest_65 : decode cX3_readGuest 65 = .ok (.ifCond .eq 9, 3) := by decide +kernel
theorem dX3_readGuest_68 : decode cX3_readGuest 68 = .ok (.aload_n 0, 1) := by decide +kernel
theorem dX3_readGuest_69 : decode cX3_readGuest 69 = .ok (.iconst 3, 1) := by decide +kernel
theorem dX3_readGuest_70 : decode cX3_readGuest 70 = .ok (.invokevirtual 56, 3) := by decide +kernel
theorem dX3_readGuest_73 : decode cX3_readGuest 73 = .ok (.ireturn, 1) := by decide +kernel
theorem dX3_readGuest_74 : decode cX3_readGuest 74 = .ok (.aload_n 0, 1) := by decide +kernel
theorem dX3_readGuest_75 : decode cX3_readGuest 75 = .ok (.getfield 9, 3) := by decide +kernel
theorem dX3_readGuest_78 : decode cX3_readGuest 78 = .ok (.invokevirtual 66, 3) := by decide +kernel
theorem dX3_readGuest_81 : decode cX3_readGuest 81 = .ok (.aload_n 0, 1) := by decide +kernel
theorem dX3_readGuest_82 : decode cX3_readGuest 82 = .ok (.getfield 9, 3) := by decide +kernel
theorem dX3_readGuest_85 : decode cX3_readGuest 85 = .ok (.ldc 91, 2) := by decide +kernel
theorem dX3_readGuest_87 : decode cX3_readGuest 87 = .ok (.invokevirtual 38, 3) := by decide +kernel
theorem dX3_readGuest_90 : decode cX3_readGuest 90 = .ok (.ifCond .ne 9, 3) := by decide +kernel
theorem dX3_readGuest_93 : decode cX3_readGuest 93 = .ok (.aload_n 0, 1) := by decide +kernel
theorem dX3_readGuest_94 : decode cX3_readGuest 94 = .ok (.iconst 1, 1) := by decide +kernel
theorem dX3_readGuest_95 : decode cX3_readGuest 95 = .ok (.invokevirtual 56, 3) := by decide +kernel
theorem dX3_readGuest_98 : decode cX3_readGuest 98 = .ok (.ireturn, 1) := by decide +kernel
theorem dX3_readGuest_99 : decode cX3_readGuest 99 = .ok (.aload_n 0, 1) := by decide +kernel
theorem dX3_readGuest_100 : decode cX3_readGuest 100 = .ok (.getfield 9, 3) := by decide +kernel
theorem dX3_readGuest_103 : decode cX3_readGuest 103 = .ok (.invokevirtual 66, 3) := by decide +kernel
theorem dX3_readGuest_106 : decode cX3_readGuest 106 = .ok (.aload_n 0, 1) := by decide +kernel
theorem dX3_readGuest_107 : decode cX3_readGuest 107 = .ok (.bipush 99, 2) := by decide +kernel
theorem dX3_readGuest_109 : decode cX3_readGuest 109 = .ok (.invokevirtual 69, 3) := by decide +kernel
theorem dX3_readGuest_112 : decode cX3_readGuest 112 = .ok (.istore_n 3, 1) := by decide +kernel
theorem dX3_readGuest_113 : decode cX3_readGuest 113 = .ok (.iload_n 3, 1) := by decide +kernel
theorem dX3_readGuest_114 : decode cX3_readGuest 114 = .ok (.iconst (-1), 1) := by decide +kernel
theorem dX3_readGuest_115 : decode cX3_readGuest 115 = .ok (.if_icmp .eq 16, 3) := by decide +kernel
theorem dX3_readGuest_118 : decode cX3_readGuest 118 = .ok (.aload_n 0, 1) := by decide +kernel
theorem dX3_readGuest_119 : decode cX3_readGuest 119 = .ok (.lload_n 1, 1) := by decide +kernel
theorem dX3_readGuest_120 : decode cX3_readGuest 120 = .ok (.iload_n 3, 1) := by decide +kernel
theorem dX3_readGuest_121 : decode cX3_readGuest 121 = .ok (.invokevirtual 93, 3) := by decide +kernel
theorem dX3_readGuest_124 : decode cX3_readGuest 124 = .ok (.ifCond .eq 7, 3) := by decide +kernel
theorem dX3_readGuest_127 : decode cX3_readGuest 127 = .ok (.iconst 1, 1) := by decide +kernel
theorem dX3_readGuest_128 : decode cX3_readGuest 128 = .ok (.goto 4, 3) := by decide +kernel
theorem dX3_readGuest_131 : decode cX3_readGuest 131 = .ok (.iconst 0, 1) := by decide +kernel
theorem dX3_readGuest_132 : decode cX3_readGuest 132 = .ok (.ireturn, 1) := by decide +kernel
theorem dX3_readExtras_0 : decode cX3_readExtras 0 = .ok (.iconst 0, 1) := by decide +kernel
theorem dX3_readExtras_1 : decode cX3_readExtras 1 = .ok (.istore 4, 2) := by decide +kernel
theorem dX3_readExtras_3 : decode cX3_readExtras 3 = .ok (.iconst 0, 1) := by decide +kernel
theorem dX3_readExtras_4 : decode cX3_readExtras 4 = .ok (.istore 5, 2) := by decide +kernel
theorem dX3_readExtras_6 : decode cX3_readExtras 6 = .ok (.iconst 0, 1) := by decide +kernel
theorem dX3_readExtras_7 : decode cX3_readExtras 7 = .ok (.istore 6, 2) := by decide +kernel
theorem dX3_readExtras_9 : decode cX3_readExtras 9 = .ok (.iload 6, 2) := by decide +kernel
theorem dX3_readExtras_11 : decode cX3_readExtras 11 = .ok (.iconst 3, 1) := by decide +kernel
theorem dX3_readExtras_12 : decode cX3_readExtras 12 = .ok (.if_icmp .ge 93, 3) := by decide +kernel
theorem dX3_readExtras_15 : decode cX3_readExtras 15 = .ok (.aload_n 0, 1) := by decide +kernel
theorem dX3_readExtras_16 : decode cX3_readExtras 16 = .ok (.getfield 9, 3) := by decide +kernel
theorem dX3_readExtras_19 : decode cX3_readExtras 19 = .ok (.ldc 97, 2) := by decide +kernel
theorem dX3_readExtras_21 : decode cX3_readExtras 21 = .ok (.invokevirtual 38, 3) := by decide +kernel
theorem dX3_readExtras_24 : decode cX3_readExtras 24 = .ok (.istore 7, 2) := by decide +kernel
theorem dX3_readExtras_26 : decode cX3_readExtras 26 = .ok (.iload 7, 2) := by decide +kernel
theorem dX3_readExtras_28 : decode cX3_readExtras 28 = .ok (.ifCond .ne 18, 3) := by decide +kernel
theorem dX3_readExtras_31 : decode cX3_readExtras 31 = .ok (.aload_n 0, 1) := by decide +kernel
theorem dX3_readExtras_32 : decode cX3_readExtras 32 = .ok (.getfield 9, 3) := by decide +kernel
theorem dX3_readExtras_35 : decode cX3_readExtras 35 = .ok (.ldc 99, 2) := by decide +kernel
theorem dX3_readExtras_37 : decode cX3_readExtras 37 = .ok (.invokevirtual 38, 3) := by decide +kernel
theorem dX3_readExtras_40 : decode cX3_readExtras 40 = .ok (.ifCond .ne 6, 3) := by decide +kernel
theorem dX3_readExtras_43 : decode cX3_readExtras 43 = .ok (.goto 62, 3) := by decide +kernel
theorem dX3_readExtras_46 : decode cX3_readExtras 46 = .ok (.iload 7, 2) := by decide +kernel
theorem dX3_readExtras_48 : decode cX3_readExtras 48 = .ok (.ifCond .eq 11, 3) := by decide +kernel
theorem dX3_readExtras_51 : decode cX3_readExtras 51 = .ok (.iload 4, 2) := by decide +kernel
theorem dX3_readExtras_53 : decode cX3_readExtras 53 = .ok (.ifCond .eq 17, 3) := by decide +kernel
theorem dX3_readExtras_56 : decode cX3_readExtras 56 = .ok (.goto 8, 3) := by decide +kernel
theorem dX3_readExtras_59 : decode cX3_readExtras 59 = .ok (.iload 5, 2) := by decide +kernel
theorem dX3_readExtras_61 : decode cX3_readExtras 61 = .ok (.ifCond .eq 9, 3) := by decide +kernel
theorem dX3_readExtras_64 : decode cX3_readExtras 64 = .ok (.aload_n 0, 1) := by decide +kernel
theorem dX3_readExtras_65 : decode cX3_readExtras 65 = .ok (.iconst 3, 1) := by decide +kernel
theorem dX3_readExtras_66 : decode cX3_readExtras 66 = .ok (.invokevirtual 56, 3) := by decide +kernel
theorem dX3_readExtras_69 : decode cX3_readExtras 69 = .ok (.ireturn, 1) := by decide +kernel
theorem dX3_readExtras_70 : decode cX3_readExtras 70 = .ok (.iload 4, 2) := by decide +kernel
theorem dX3_readExtras_72 : decode cX3_readExtras 72 = .ok (.iload 7, 2) := by decide +kernel
theorem dX3_readExtras_74 : decode cX3_readExtras 74 = .ok (.ior, 1) := by decide +kernel
theorem dX3_readExtras_75 : decode cX3_readExtras 75 = .ok (.istore 4, 2) := by decide +kernel
theorem dX3_readExtras_77 : decode cX3_readExtras 77 = .ok (.iload 5, 2) := by decide +kernel
theorem dX3_readExtras_79 : decode cX3_readExtras 79 = .ok (.iload 7, 2) := by decide +kernel
theorem dX3_readExtras_81 : decode cX3_readExtras 81 = .ok (.ifCond .ne 7, 3) := by decide +kernel
theorem dX3_readExtras_84 : decode cX3_readExtras 84 = .ok (.iconst 1, 1) := by decide +kernel
theorem dX3_readExtras_85 : decode cX3_readExtras 85 = .ok (.goto 4, 3) := by decide +kernel
theorem dX3_readExtras_88 : decode cX3_readExtras 88 = .ok (.iconst 0, 1) := by decide +kernel
theorem dX3_readExtras_89 : decode cX3_readExtras 89 = .ok (.ior, 1) := by decide +kernel
theorem dX3_readExtras_90 : decode cX3_readExtras 90 = .ok (.istore 5, 2) := by decide +kernel
theorem dX3_readExtras_92 : decode cX3_readExtras 92 = .ok (.aload_n 0, 1) := by decide +kernel
theorem dX3_readExtras_93 : decode cX3_readExtras 93 = .ok (.getfield 9, 3) := by decide +kernel
theorem dX3_readExtras_96 : decode cX3_readExtras 96 = .ok (.invokevirtual 66, 3) := by decide +kernel
theorem dX3_readExtras_99 : decode cX3_readExtras 99 = .ok (.iinc 6 1, 3) := by decide +kernel
theorem dX3_readExtras_102 : decode cX3_readExtras 102 = .ok (.goto (-93), 3) := by decide +kernel
theorem dX3_readExtras_105 : decode cX3_readExtras 105 = .ok (.aload_n 0, 1) := by decide +kernel
theorem dX3_readExtras_106 : decode cX3_readExtras 106 = .ok (.getfield 15, 3) := by decide +kernel
theorem dX3_readExtras_109 : decode cX3_readExtras 109 = .ok (.lload_n 1, 1) := by decide +kernel
theorem dX3_readExtras_110 : decode cX3_readExtras 110 = .ok (.iload_n 3, 1) := by decide +kernel
theorem dX3_readExtras_111 : decode cX3_readExtras 111 = .ok (.iload 4, 2) := by decide +kernel
theorem dX3_readExtras_113 : decode cX3_readExtras 113 = .ok (.iload 5, 2) := by decide +kernel
theorem dX3_readExtras_115 : decode cX3_readExtras 115 = .ok (.invokevirtual 101, 3) := by decide +kernel
theorem dX3_readExtras_118 : decode cX3_readExtras 118 = .ok (.iconst 1, 1) := by decide +kernel
theorem dX3_readExtras_119 : decode cX3_readExtras 119 = .ok (.ireturn, 1) := by decide +kernel
theorem dX3_readRule_0 : decode cX3_readRule 0 = .ok (.aload_n 0, 1) := by decide +kernel
theorem dX3_readRule_1 : decode cX3_readRule 1 = .ok (.getfield 15, 3) := by decide +kernel
theorem dX3_readRule_4 : decode cX3_readRule 4 = .ok (.getfield 105, 3) := by decide +kernel
theorem dX3_readRule_7 : decode cX3_readRule 7 = .ok (.iconst 4, 1) := by decide +kernel
theorem dX3_readRule_8 : decode cX3_readRule 8 = .ok (.if_icmp .ne 9, 3) := by decide +kernel
theorem dX3_readRule_11 : decode cX3_readRule 11 = .ok (.aload_n 0, 1) := by decide +kernel
theorem dX3_readRule_12 : decode cX3_readRule 12 = .ok (.iconst 5, 1) := by decide +kernel
theorem dX3_readRule_13 : decode cX3_readRule 13 = .ok (.invokevirtual 56, 3) := by decide +kernel
theorem dX3_readRule_16 : decode cX3_readRule 16 = .ok (.ireturn, 1) := by decide +kernel
theorem dX3_readRule_17 : decode cX3_readRule 17 = .ok (.aload_n 0, 1) := by decide +kernel
theorem dX3_readRule_18 : decode cX3_readRule 18 = .ok (.getfield 9, 3) := by decide +kernel
theorem dX3_readRule_21 : decode cX3_readRule 21 = .ok (.invokevirtual 66, 3) := by decide +kernel
theorem dX3_readRule_24 : decode cX3_readRule 24 = .ok (.aload_n 0, 1) := by decide +kernel
theorem dX3_readRule_25 : decode cX3_readRule 25 = .ok (.iconst 0, 1) := by decide +kernel
theorem dX3_readRule_26 : decode cX3_readRule 26 = .ok (.iconst 0, 1) := by decide +kernel
theorem dX3_readRule_27 : decode cX3_readRule 27 = .ok (.invokevirtual 108, 3) := by decide +kernel
theorem dX3_readRule_30 : decode cX3_readRule 30 = .ok (.ifCond .ne 5, 3) := by decide +kernel
theorem dX3_readRule_33 : decode cX3_readRule 33 = .ok (.iconst 0, 1) := by decide +kernel
theorem dX3_readRule_34 : decode cX3_readRule 34 = .ok (.ireturn, 1) := by decide +kernel
theorem dX3_readRule_35 : decode cX3_readRule 35 = .ok (.aload_n 0, 1) := by decide +kernel
theorem dX3_readRule_36 : decode cX3_readRule 36 = .ok (.getfield 15, 3) := by decide +kernel
theorem dX3_readRule_39 : decode cX3_readRule 39 = .ok (.invokevirtual 112, 3) := by decide +kernel
theorem dX3_readRule_42 : decode cX3_readRule 42 = .ok (.iconst 1, 1) := by decide +kernel
theorem dX3_readRule_43 : decode cX3_readRule 43 = .ok (.ireturn, 1) := by decide +kernel
theorem dX3_readLevel_0 : decode cX3_readLevel 0 = .ok (.iload_n 1, 1) := by decide +kernel
theorem dX3_readLevel_1 : decode cX3_readLevel 1 = .ok (.iconst 4, 1) := by decide +kernel
theorem dX3_readLevel_2 : decode cX3_readLevel 2 = .ok (.if_icmp .lt 9, 3) := by decide +kernel
theorem dX3_readLevel_5 : decode cX3_readLevel 5 = .ok (.aload_n 0, 1) := by decide +kernel
theorem dX3_readLevel_6 : decode cX3_readLevel 6 = .ok (.iload_n 2, 1) := by decide +kernel
theorem dX3_readLevel_7 : decode cX3_readLevel 7 = .ok (.invokevirtual 115, 3) := by decide +kernel
theorem dX3_readLevel_10 : decode cX3_readLevel 10 = .ok (.ireturn, 1) := by decide +kernel
theorem dX3_readLevel_11 : decode cX3_readLevel 11 = .ok (.aload_n 0, 1) := by decide +kernel
theorem dX3_readLevel_12 : decode cX3_readLevel 12 = .ok (.iload_n 1, 1) := by decide +kernel
theorem dX3_readLevel_13 : decode cX3_readLevel 13 = .ok (.iconst 1, 1) := by decide +kernel
theorem dX3_readLevel_14 : decode cX3_readLevel 14 = .ok (.iadd, 1) := by decide +kernel
theorem dX3_readLevel_15 : decode cX3_readLevel 15 = .ok (.iload_n 2, 1) := by decide +kernel
theorem dX3_readLevel_16 : decode cX3_readLevel 16 = .ok (.invokevirtual 108, 3) := by decide +kernel
theorem dX3_readLevel_19 : decode cX3_readLevel 19 = .ok (.ifCond .ne 5, 3) := by decide +kernel
theorem dX3_readLevel_22 : decode cX3_readLevel 22 = .ok (.iconst 0, 1) := by decide +kernel
theorem dX3_readLevel_23 : decode cX3_readLevel 23 = .ok (.ireturn, 1) := by decide +kernel
theorem dX3_readLevel_24 : decode cX3_readLevel 24 = .ok (.iload_n 1, 1) := by decide +kernel
theorem dX3_readLevel_25 : decode cX3_readLevel 25 = .ok (.iconst 1, 1) := by decide +kernel
theorem dX3_readLevel_26 : decode cX3_readLevel 26 = .ok (.if_icmp .ne 7, 3) := by decide +kernel
theorem dX3_readLevel_29 : decode cX3_readLevel 29 = .ok (.iconst 1, 1) := by decide +kernel
theorem dX3_readLevel_30 : decode cX3_readLevel 30 = .ok (.goto 6, 3) := by decide +kernel
theorem dX3_readLevel_33 : decode cX3_readLevel 33 = .ok (.sipush 1000, 3) := by decide +kernel
theorem dX3_readLevel_36 : decode cX3_readLevel 36 = .ok (.istore_n 3, 1) := by decide +kernel
theorem dX3_readLevel_37 : decode cX3_readLevel 37 = .ok (.iconst 0, 1) := by decide +kernel
theorem dX3_readLevel_38 : decode cX3_readLevel 38 = .ok (.istore 4, 2) := by decide +kernel
theorem dX3_readLevel_40 : decode cX3_readLevel 40 = .ok (.iload 4, 2) := by decide +kernel
theorem dX3_readLevel_42 : decode cX3_readLevel 42 = .ok (.iload_n 3, 1) := by decide +kernel
theorem dX3_readLevel_43 : decode cX3_readLevel 43 = .ok (.if_icmp .ge 53, 3) := by decide +kernel
theorem dX3_readLevel_46 : decode cX3_readLevel 46 = .ok (.aload_n 0, 1) := by decide +kernel
theorem dX3_readLevel_47 : decode cX3_readLevel 47 = .ok (.iload_n 1, 1) := by decide +kernel
theorem dX3_readLevel_48 : decode cX3_readLevel 48 = .ok (.invokevirtual 118, 3) := by decide +kernel
theorem dX3_readLevel_51 : decode cX3_readLevel 51 = .ok (.istore 5, 2) := by decide +kernel
theorem dX3_readLevel_53 : decode cX3_readLevel 53 = .ok (.iload 5, 2) := by decide +kernel
theorem dX3_readLevel_55 : decode cX3_readLevel 55 = .ok (.iconst (-1), 1) := by decide +kernel
theorem dX3_readLevel_56 : decode cX3_readLevel 56 = .ok (.if_icmp .ne 5, 3) := by decide +kernel
theorem dX3_readLevel_59 : decode cX3_readLevel 59 = .ok (.iconst 1, 1) := by decide +kernel
theorem dX3_readLevel_60 : decode cX3_readLevel 60 = .ok (.ireturn, 1) := by decide +kernel
theorem dX3_readLevel_61 : decode cX3_readLevel 61 = .ok (.aload_n 0, 1) := by decide +kernel
theorem dX3_readLevel_62 : decode cX3_readLevel 62 = .ok (.getfield 9, 3) := by decide +kernel
theorem dX3_readLevel_65 : decode cX3_readLevel 65 = .ok (.invokevirtual 66, 3) := by decide +kernel
theorem dX3_readLevel_68 : decode cX3_readLevel 68 = .ok (.aload_n 0, 1) := by decide +kernel
theorem dX3_readLevel_69 : decode cX3_readLevel 69 = .ok (.iload_n 1, 1) := by decide +kernel
theorem dX3_readLevel_70 : decode cX3_readLevel 70 = .ok (.iconst 1, 1) := by decide +kernel
theorem dX3_readLevel_71 : decode cX3_readLevel 71 = .ok (.iadd, 1) := by decide +kernel
theorem dX3_readLevel_72 : decode cX3_readLevel 72 = .ok (.iload_n 2, 1) := by decide +kernel
theorem dX3_readLevel_73 : decode cX3_readLevel 73 = .ok (.invokevirtual 108, 3) := by decide +kernel
theorem dX3_readLevel_76 : decode cX3_readLevel 76 = .ok (.ifCond .ne 5, 3) := by decide +kernel
theorem dX3_readLevel_79 : decode cX3_readLevel 79 = .ok (.iconst 0, 1) := by decide +kernel
theorem dX3_readLevel_80 : decode cX3_readLevel 80 = .ok (.ireturn, 1) := by decide +kernel
theorem dX3_readLevel_81 : decode cX3_readLevel 81 = .ok (.aload_n 0, 1) := by decide +kernel
theorem dX3_readLevel_82 : decode cX3_readLevel 82 = .ok (.getfield 15, 3) := by decide +kernel
theorem dX3_readLevel_85 : decode cX3_readLevel 85 = .ok (.iload 5, 2) := by decide +kernel
theorem dX3_readLevel_87 : decode cX3_readLevel 87 = .ok (.invokevirtual 121, 3) := by decide +kernel
theorem dX3_readLevel_90 : decode cX3_readLevel 90 = .ok (.iinc 4 1, 3) := by decide +kernel
theorem dX3_readLevel_93 : decode cX3_readLevel 93 = .ok (.goto (-53), 3) := by decide +kernel
theorem dX3_readLevel_96 : decode cX3_readLevel 96 = .ok (.iconst 1, 1) := by decide +kernel
theorem dX3_readLevel_97 : decode cX3_readLevel 97 = .ok (.ireturn, 1) := by decide +kernel
theorem dX3_readPart_0 : decode cX3_readPart 0 = .ok (.aload_n 0, 1) := by decide +kernel
theorem dX3_readPart_1 : decode cX3_readPart 1 = .ok (.getfield 9, 3) := by decide +kernel
theorem dX3_readPart_4 : decode cX3_readPart 4 = .ok (.ldc 125, 2) := by decide +kernel
theorem dX3_readPart_6 : decode cX3_readPart 6 = .ok (.invokevirtual 38, 3) := by decide +kernel
theorem dX3_readPart_9 : decode cX3_readPart 9 = .ok (.istore_n 2, 1) := by decide +kernel
theorem dX3_readPart_10 : decode cX3_readPart 10 = .ok (.aload_n 0, 1) := by decide +kernel
theorem dX3_readPart_11 : decode cX3_readPart 11 = .ok (.getfield 9, 3) := by decide +kernel
theorem dX3_readPart_14 : decode cX3_readPart 14 = .ok (.getfield 33, 3) := by decide +kernel
theorem dX3_readPart_17 : decode cX3_readPart 17 = .ok (.iconst 2, 1) := by decide +kernel
theorem dX3_readPart_18 : decode cX3_readPart 18 = .ok (.if_icmp .ne 13, 3) := by decide +kernel
theorem dX3_readPart_21 : decode cX3_readPart 21 = .ok (.aload_n 0, 1) := by decide +kernel
theorem dX3_readPart_22 : decode cX3_readPart 22 = .ok (.getfield 9, 3) := by decide +kernel
theorem dX3_readPart_25 : decode cX3_readPart 25 = .ok (.getfield 127, 3) := by decide +kernel
theorem dX3_readPart_28 : decode cX3_readPart 28 = .ok (.goto 7, 3) := by decide +kernel
theorem dX3_readPart_31 : decode cX3_readPart 31 = .ok (.aload_n 0, 1) := by decide +kernel
theorem dX3_readPart_32 : decode cX3_readPart 32 = .ok (.invokevirtual 130, 3) := by decide +kernel
theorem dX3_readPart_35 : decode cX3_readPart 35 = .ok (.istore_n 3, 1) := by decide +kernel
theorem dX3_readPart_36 : decode cX3_readPart 36 = .ok (.iload_n 2, 1) := by decide +kernel
theorem dX3_readPart_37 : decode cX3_readPart 37 = .ok (.ifCond .ne 26, 3) := by decide +kernel
theorem dX3_readPart_40 : decode cX3_readPart 40 = .ok (.aload_n 0, 1) := by decide +kernel
theorem dX3_readPart_41 : decode cX3_readPart 41 = .ok (.getfield 9, 3) := by decide +kernel
theorem dX3_readPart_44 : decode cX3_readPart 44 = .ok (.getfield 33, 3) := by decide +kernel
theorem dX3_readPart_47 : decode cX3_readPart 47 = .ok (.bipush 40, 2) := by decide +kernel
theorem dX3_readPart_49 : decode cX3_readPart 49 = .ok (.if_icmp .eq 14, 3) := by decide +kernel
theorem dX3_readPart_52 : decode cX3_readPart 52 = .ok (.iload_n 3, 1) := by decide +kernel
theorem dX3_readPart_53 : decode cX3_readPart 53 = .ok (.iconst (-1), 1) := by decide +kernel
theorem dX3_readPart_54 : decode cX3_readPart 54 = .ok (.if_icmp .ne 9, 3) := by decide +kernel
theorem dX3_readPart_57 : decode cX3_readPart 57 = .ok (.aload_n 0, 1) := by decide +kernel
theorem dX3_readPart_58 : decode cX3_readPart 58 = .ok (.iconst 1, 1) := by decide +kernel
theorem dX3_readPart_59 : decode cX3_readPart 59 = .ok (.invokevirtual 56, 3) := by decide +kernel
theorem dX3_readPart_62 : decode cX3_readPart 62 = .ok (.ireturn, 1) := by decide +kernel
theorem dX3_readPart_63 : decode cX3_readPart 63 = .ok (.iload_n 1, 1) := by decide +kernel
theorem dX3_readPart_64 : decode cX3_readPart 64 = .ok (.iconst 5, 1) := by decide +kernel
theorem dX3_readPart_65 : decode cX3_readPart 65 = .ok (.if_icmp .lt 9, 3) := by decide +kernel
theorem dX3_readPart_68 : decode cX3_readPart 68 = .ok (.aload_n 0, 1) := by decide +kernel
theorem dX3_readPart_69 : decode cX3_readPart 69 = .ok (.iconst 5, 1) := by decide +kernel
theorem dX3_readPart_70 : decode cX3_readPart 70 = .ok (.invokevirtual 56, 3) := by decide +kernel
theorem dX3_readPart_73 : decode cX3_readPart 73 = .ok (.ireturn, 1) := by decide +kernel
theorem dX3_readPart_74 : decode cX3_readPart 74 = .ok (.aload_n 0, 1) := by decide +kernel
theorem dX3_readPart_75 : decode cX3_readPart 75 = .ok (.getfield 9, 3) := by decide +kernel
theorem dX3_readPart_78 : decode cX3_readPart 78 = .ok (.getfield 33, 3) := by decide +kernel
theorem dX3_readPart_81 : decode cX3_readPart 81 = .ok (.bipush 40, 2) := by decide +kernel
theorem dX3_readPart_83 : decode cX3_readPart 83 = .ok (.if_icmp .ne 7, 3) := by decide +kernel
theorem dX3_readPart_86 : decode cX3_readPart 86 = .ok (.iconst 1, 1) := by decide +kernel
theorem dX3_readPart_87 : decode cX3_readPart 87 = .ok (.goto 4, 3) := by decide +kernel
theorem dX3_readPart_90 : decode cX3_readPart 90 = .ok (.iconst 0, 1) := by decide +kernel
theorem dX3_readPart_91 : decode cX3_readPart 91 = .ok (.istore 4, 2) := by decide +kernel
theorem dX3_readPart_93 : decode cX3_readPart 93 = .ok (.aload_n 0, 1) := by decide +kernel
theorem dX3_readPart_94 : decode cX3_readPart 94 = .ok (.getfield 9, 3) := by decide +kernel
theorem dX3_readPart_97 : decode cX3_readPart 97 = .ok (.invokevirtual 66, 3) := by decide +kernel
theorem dX3_readPart_100 : decode cX3_readPart 100 = .ok (.iload 4, 2) := by decide +kernel
theorem dX3_readPart_102 : decode cX3_readPart 102 = .ok (.ifCond .eq 29, 3) := by decide +kernel
theorem dX3_readPart_105 : decode cX3_readPart 105 = .ok (.aload_n 0, 1) := by decide +kernel
theorem dX3_readPart_106 : decode cX3_readPart 106 = .ok (.iconst 0, 1) := by decide +kernel
theorem dX3_readPart_107 : decode cX3_readPart 107 = .ok (.iload_n 1, 1) := by decide +kernel
theorem dX3_readPart_108 : decode cX3_readPart 108 = .ok (.iconst 1, 1) := by decide +kernel
theorem dX3_readPart_109 : decode cX3_readPart 109 = .ok (.iadd, 1) := by decide +kernel
theorem dX3_readPart_110 : decode cX3_readPart 110 = .ok (.invokevirtual 108, 3) := by decide +kernel
theorem dX3_readPart_113 : decode cX3_readPart 113 = .ok (.ifCond .eq 16, 3) := by decide +kernel
theorem dX3_readPart_116 : decode cX3_readPart 116 = .ok (.aload_n 0, 1) := by decide +kernel
theorem dX3_readPart_117 : decode cX3_readPart 117 = .ok (.bipush 41, 2) := by decide +kernel
theorem dX3_readPart_119 : decode cX3_readPart 119 = .ok (.invokevirtual 60, 3) := by decide +kernel
theorem dX3_readPart_122 : decode cX3_readPart 122 = .ok (.ifCond .eq 7, 3) := by decide +kernel
theorem dX3_readPart_125 : decode cX3_readPart 125 = .ok (.iconst 1, 1) := by decide +kernel
theorem dX3_readPart_126 : decode cX3_readPart 126 = .ok (.goto 4, 3) := by decide +kernel
theorem dX3_readPart_129 : decode cX3_readPart 129 = .ok (.iconst 0, 1) := by decide +kernel
theorem dX3_readPart_130 : decode cX3_readPart 130 = .ok (.ireturn, 1) := by decide +kernel
theorem dX3_readPart_131 : decode cX3_readPart 131 = .ok (.iload_n 2, 1) := by decide +kernel
theorem dX3_readPart_132 : decode cX3_readPart 132 = .ok (.ifCond .eq 15, 3) := by decide +kernel
theorem dX3_readPart_135 : decode cX3_readPart 135 = .ok (.aload_n 0, 1) := by decide +kernel
theorem dX3_readPart_136 : decode cX3_readPart 136 = .ok (.iload_n 1, 1) := by decide +kernel
theorem dX3_readPart_137 : decode cX3_readPart 137 = .ok (.iconst 1, 1) := by decide +kernel
theorem dX3_readPart_138 : decode cX3_readPart 138 = .ok (.iadd, 1) := by decide +kernel
theorem dX3_readPart_139 : decode cX3_readPart 139 = .ok (.invokevirtual 115, 3) := by decide +kernel
theorem dX3_readPart_142 : decode cX3_readPart 142 = .ok (.ifCond .ne 5, 3) := by decide +kernel
theorem dX3_readPart_145 : decode cX3_readPart 145 = .ok (.iconst 0, 1) := by decide +kernel
theorem dX3_readPart_146 : decode cX3_readPart 146 = .ok (.ireturn, 1) := by decide +kernel
theorem dX3_readPart_147 : decode cX3_readPart 147 = .ok (.aload_n 0, 1) := by decide +kernel
theorem dX3_readPart_148 : decode cX3_readPart 148 = .ok (.getfield 15, 3) := by decide +kernel
theorem dX3_readPart_151 : decode cX3_readPart 151 = .ok (.iload_n 2, 1) := by decide +kernel
theorem dX3_readPart_152 : decode cX3_readPart 152 = .ok (.ifCond .eq 9, 3) := by decide +kernel
theorem dX3_readPart_155 : decode cX3_readPart 155 = .ok (.sipush 10008, 3) := by decide +kernel
theorem dX3_readPart_158 : decode cX3_readPart 158 = .ok (.goto 4, 3) := by decide +kernel
theorem dX3_readPart_161 : decode cX3_readPart 161 = .ok (.iload_n 3, 1) := by decide +kernel
theorem dX3_readPart_162 : decode cX3_readPart 162 = .ok (.invokevirtual 121, 3) := by decide +kernel
theorem dX3_readPart_165 : decode cX3_readPart 165 = .ok (.iconst 1, 1) := by decide +kernel
theorem dX3_readPart_166 : decode cX3_readPart 166 = .ok (.ireturn, 1) := by decide +kernel
theorem dX3_deedAt_0 : decode cX3_deedAt 0 = .ok (.iload_n 1, 1) := by decide +kernel
theorem dX3_deedAt_1 : decode cX3_deedAt 1 = .ok (.tableswitch 141 0 2 #[27, 65, 103], 27) := by decide +kernel
theorem dX3_deedAt_28 : decode cX3_deedAt 28 = .ok (.aload_n 0, 1) := by decide +kernel
theorem dX3_deedAt_29 : decode cX3_deedAt 29 = .ok (.getfield 9, 3) := by decide +kernel
theorem dX3_deedAt_32 : decode cX3_deedAt 32 = .ok (.ldc 134, 2) := by decide +kernel
theorem dX3_deedAt_34 : decode cX3_deedAt 34 = .ok (.invokevirtual 38, 3) := by decide +kernel
theorem dX3_deedAt_37 : decode cX3_deedAt 37 = .ok (.ifCond .eq 9, 3) := by decide +kernel
theorem dX3_deedAt_40 : decode cX3_deedAt 40 = .ok (.sipush 10009, 3) := by decide +kernel
theorem dX3_deedAt_43 : decode cX3_deedAt 43 = .ok (.goto 22, 3) := by decide +kernel
theorem dX3_deedAt_46 : decode cX3_deedAt 46 = .ok (.aload_n 0, 1) := by decide +kernel
theorem dX3_deedAt_47 : decode cX3_deedAt 47 = .ok (.getfield 9, 3) := by decide +kernel
theorem dX3_deedAt_50 : decode cX3_deedAt 50 = .ok (.ldc 136, 2) := by decide +kernel
theorem dX3_deedAt_52 : decode cX3_deedAt 52 = .ok (.invokevirtual 38, 3) := by decide +kernel
theorem dX3_deedAt_55 : decode cX3_deedAt 55 = .ok (.ifCond .eq 9, 3) := by decide +kernel
theorem dX3_deedAt_58 : decode cX3_deedAt 58 = .ok (.sipush 10010, 3) := by decide +kernel
theorem dX3_deedAt_61 : decode cX3_deedAt 61 = .ok (.goto 4, 3) := by decide +kernel
theorem dX3_deedAt_64 : decode cX3_deedAt 64 = .ok (.iconst (-1), 1) := by decide +kernel
theorem dX3_deedAt_65 : decode cX3_deedAt 65 = .ok (.ireturn, 1) := by decide +kernel
theorem dX3_deedAt_66 : decode cX3_deedAt 66 = .ok (.aload_n 0, 1) := by decide +kernel
theorem dX3_deedAt_67 : decode cX3_deedAt 67 = .ok (.getfield 9, 3) := by decide +kernel
theorem dX3_deedAt_70 : decode cX3_deedAt 70 = .ok (.getfield 33, 3) := by decide +kernel
theorem dX3_deedAt_73 : decode cX3_deedAt 73 = .ok (.bipush 60, 2) := by decide +kernel
theorem dX3_deedAt_75 : decode cX3_deedAt 75 = .ok (.if_icmp .ne 9, 3) := by decide +kernel
theorem dX3_deedAt_78 : decode cX3_deedAt 78 = .ok (.sipush 10011, 3) := by decide +kernel
theorem dX3_deedAt_81 : decode cX3_deedAt 81 = .ok (.goto 22, 3) := by decide +kernel
theorem dX3_deedAt_84 : decode cX3_deedAt 84 = .ok (.aload_n 0, 1) := by decide +kernel
theorem dX3_deedAt_85 : decode cX3_deedAt 85 = .ok (.getfield 9, 3) := by decide +kernel
theorem dX3_deedAt_88 : decode cX3_deedAt 88 = .ok (.getfield 33, 3) := by decide +kernel
theorem dX3_deedAt_91 : decode cX3_deedAt 91 = .ok (.bipush 61, 2) := by decide +kernel
theorem dX3_deedAt_93 : decode cX3_deedAt 93 = .ok (.if_icmp .ne 9, 3) := by decide +kernel
theorem dX3_deedAt_96 : decode cX3_deedAt 96 = .ok (.sipush 10012, 3) := by decide +kernel
theorem dX3_deedAt_99 : decode cX3_deedAt 99 = .ok (.goto 4, 3) := by decide +kernel
theorem dX3_deedAt_102 : decode cX3_deedAt 102 = .ok (.iconst (-1), 1) := by decide +kernel
theorem dX3_deedAt_103 : decode cX3_deedAt 103 = .ok (.ireturn, 1) := by decide +kernel
theorem dX3_deedAt_104 : decode cX3_deedAt 104 = .ok (.aload_n 0, 1) := by decide +kernel
theorem dX3_deedAt_105 : decode cX3_deedAt 105 = .ok (.getfield 9, 3) := by decide +kernel
theorem dX3_deedAt_108 : decode cX3_deedAt 108 = .ok (.getfield 33, 3) := by decide +kernel
theorem dX3_deedAt_111 : decode cX3_deedAt 111 = .ok (.bipush 43, 2) := by decide +kernel
theorem dX3_deedAt_113 : decode cX3_deedAt 113 = .ok (.if_icmp .ne 9, 3) := by decide +kernel
theorem dX3_deedAt_116 : decode cX3_deedAt 116 = .ok (.sipush 10013, 3) := by decide +kernel
theorem dX3_deedAt_119 : decode cX3_deedAt 119 = .ok (.goto 22, 3) := by decide +kernel
theorem dX3_deedAt_122 : decode cX3_deedAt 122 = .ok (.aload_n 0, 1) := by decide +kernel
theorem dX3_deedAt_123 : decode cX3_deedAt 123 = .ok (.getfield 9, 3) := by decide +kernel
theorem dX3_deedAt_126 : decode cX3_deedAt 126 = .ok (.getfield 33, 3) := by decide +kernel
theorem dX3_deedAt_129 : decode cX3_deedAt 129 = .ok (.bipush 45, 2) := by decide +kernel
theorem dX3_deedAt_131 : decode cX3_deedAt 131 = .ok (.if_icmp .ne 9, 3) := by decide +kernel
theorem dX3_deedAt_134 : decode cX3_deedAt 134 = .ok (.sipush 10014, 3) := by decide +kernel
theorem dX3_deedAt_137 : decode cX3_deedAt 137 = .ok (.goto 4, 3) := by decide +kernel
theorem dX3_deedAt_140 : decode cX3_deedAt 140 = .ok (.iconst (-1), 1) := by decide +kernel
theorem dX3_deedAt_141 : decode cX3_deedAt 141 = .ok (.ireturn, 1) := by decide +kernel
theorem dX3_deedAt_142 : decode cX3_deedAt 142 = .ok (.aload_n 0, 1) := by decide +kernel
theorem dX3_deedAt_143 : decode cX3_deedAt 143 = .ok (.getfield 9, 3) := by decide +kernel
theorem dX3_deedAt_146 : decode cX3_deedAt 146 = .ok (.getfield 33, 3) := by decide +kernel
theorem dX3_deedAt_149 : decode cX3_deedAt 149 = .ok (.bipush 42, 2) := by decide +kernel
theorem dX3_deedAt_151 : decode cX3_deedAt 151 = .ok (.if_icmp .ne 9, 3) := by decide +kernel
theorem dX3_deedAt_154 : decode cX3_deedAt 154 = .ok (.sipush 10015, 3) := by decide +kernel
theorem dX3_deedAt_157 : decode cX3_deedAt 157 = .ok (.goto 4, 3) := by decide +kernel
theorem dX3_deedAt_160 : decode cX3_deedAt 160 = .ok (.iconst (-1), 1) := by decide +kernel
theorem dX3_deedAt_161 : decode cX3_deedAt 161 = .ok (.ireturn, 1) := by decide +kernel
theorem dX3_factHere_0 : decode cX3_factHere 0 = .ok (.aload_n 0, 1) := by decide +kernel
theorem dX3_factHere_1 : decode cX3_factHere 1 = .ok (.getfield 9, 3) := by decide +kernel
theorem dX3_factHere_4 : decode cX3_factHere 4 = .ok (.ldc 91, 2) := by decide +kernel
theorem dX3_factHere_6 : decode cX3_factHere 6 = .ok (.invokevirtual 38, 3) := by decide +kernel
theorem dX3_factHere_9 : decode cX3_factHere 9 = .ok (.ifCond .eq 7, 3) := by decide +kernel
theorem dX3_factHere_12 : decode cX3_factHere 12 = .ok (.sipush 10000, 3) := by decide +kernel
theorem dX3_factHere_15 : decode cX3_factHere 15 = .ok (.ireturn, 1) := by decide +kernel
theorem dX3_factHere_16 : decode cX3_factHere 16 = .ok (.aload_n 0, 1) := by decide +kernel
theorem dX3_factHere_17 : decode cX3_factHere 17 = .ok (.getfield 9, 3) := by decide +kernel
theorem dX3_factHere_20 : decode cX3_factHere 20 = .ok (.ldc 97, 2) := by decide +kernel
theorem dX3_factHere_22 : decode cX3_factHere 22 = .ok (.invokevirtual 38, 3) := by decide +kernel
theorem dX3_factHere_25 : decode cX3_factHere 25 = .ok (.ifCond .eq 7, 3) := by decide +kernel
theorem dX3_factHere_28 : decode cX3_factHere 28 = .ok (.sipush 10001, 3) := by decide +kernel
theorem dX3_factHere_31 : decode cX3_factHere 31 = .ok (.ireturn, 1) := by decide +kernel
theorem dX3_factHere_32 : decode cX3_factHere 32 = .ok (.aload_n 0, 1) := by decide +kernel
theorem dX3_factHere_33 : decode cX3_factHere 33 = .ok (.getfield 9, 3) := by decide +kernel
theorem dX3_factHere_36 : decode cX3_factHere 36 = .ok (.ldc 99, 2) := by decide +kernel
theorem dX3_factHere_38 : decode cX3_factHere 38 = .ok (.invokevirtual 38, 3) := by decide +kernel
theorem dX3_factHere_41 : decode cX3_factHere 41 = .ok (.ifCond .eq 7, 3) := by decide +kernel
theorem dX3_factHere_44 : decode cX3_factHere 44 = .ok (.sipush 10002, 3) := by decide +kernel
theorem dX3_factHere_47 : decode cX3_factHere 47 = .ok (.ireturn, 1) := by decide +kernel
theorem dX3_factHere_48 : decode cX3_factHere 48 = .ok (.aload_n 0, 1) := by decide +kernel
theorem dX3_factHere_49 : decode cX3_factHere 49 = .ok (.getfield 9, 3) := by decide +kernel
theorem dX3_factHere_52 : decode cX3_factHere 52 = .ok (.ldc 138, 2) := by decide +kernel
theorem dX3_factHere_54 : decode cX3_factHere 54 = .ok (.invokevirtual 38, 3) := by decide +kernel
theorem dX3_factHere_57 : decode cX3_factHere 57 = .ok (.ifCond .eq 7, 3) := by decide +kernel
theorem dX3_factHere_60 : decode cX3_factHere 60 = .ok (.sipush 10003, 3) := by decide +kernel
theorem dX3_factHere_63 : decode cX3_factHere 63 = .ok (.ireturn, 1) := by decide +kernel
theorem dX3_factHere_64 : decode cX3_factHere 64 = .ok (.aload_n 0, 1) := by decide +kernel
theorem dX3_factHere_65 : decode cX3_factHere 65 = .ok (.getfield 9, 3) := by decide +kernel
theorem dX3_factHere_68 : decode cX3_factHere 68 = .ok (.ldc 140, 2) := by decide +kernel
theorem dX3_factHere_70 : decode cX3_factHere 70 = .ok (.invokevirtual 38, 3) := by decide +kernel
theorem dX3_factHere_73 : decode cX3_factHere 73 = .ok (.ifCond .eq 7, 3) := by decide +kernel
theorem dX3_factHere_76 : decode cX3_factHere 76 = .ok (.sipush 10004, 3) := by decide +kernel
theorem dX3_factHere_79 : decode cX3_factHere 79 = .ok (.ireturn, 1) := by decide +kernel
theorem dX3_factHere_80 : decode cX3_factHere 80 = .ok (.aload_n 0, 1) := by decide +kernel
theorem dX3_factHere_81 : decode cX3_factHere 81 = .ok (.getfield 9, 3) := by decide +kernel
theorem dX3_factHere_84 : decode cX3_factHere 84 = .ok (.ldc 142, 2) := by decide +kernel
theorem dX3_factHere_86 : decode cX3_factHere 86 = .ok (.invokevirtual 38, 3) := by decide +kernel
theorem dX3_factHere_89 : decode cX3_factHere 89 = .ok (.ifCond .eq 7, 3) := by decide +kernel
theorem dX3_factHere_92 : decode cX3_factHere 92 = .ok (.sipush 10005, 3) := by decide +kernel
theorem dX3_factHere_95 : decode cX3_factHere 95 = .ok (.ireturn, 1) := by decide +kernel
theorem dX3_factHere_96 : decode cX3_factHere 96 = .ok (.aload_n 0, 1) := by decide +kernel
theorem dX3_factHere_97 : decode cX3_factHere 97 = .ok (.getfield 9, 3) := by decide +kernel
theorem dX3_factHere_100 : decode cX3_factHere 100 = .ok (.ldc 144, 2) := by decide +kernel
theorem dX3_factHere_102 : decode cX3_factHere 102 = .ok (.invokevirtual 38, 3) := by decide +kernel
theorem dX3_factHere_105 : decode cX3_factHere 105 = .ok (.ifCond .eq 7, 3) := by decide +kernel
theorem dX3_factHere_108 : decode cX3_factHere 108 = .ok (.sipush 10006, 3) := by decide +kernel
theorem dX3_factHere_111 : decode cX3_factHere 111 = .ok (.ireturn, 1) := by decide +kernel
theorem dX3_factHere_112 : decode cX3_factHere 112 = .ok (.aload_n 0, 1) := by decide +kernel
theorem dX3_factHere_113 : decode cX3_factHere 113 = .ok (.getfield 9, 3) := by decide +kernel
theorem dX3_factHere_116 : decode cX3_factHere 116 = .ok (.ldc 146, 2) := by decide +kernel
theorem dX3_factHere_118 : decode cX3_factHere 118 = .ok (.invokevirtual 38, 3) := by decide +kernel
theorem dX3_factHere_121 : decode cX3_factHere 121 = .ok (.ifCond .eq 9, 3) := by decide +kernel
theorem dX3_factHere_124 : decode cX3_factHere 124 = .ok (.sipush 10007, 3) := by decide +kernel
theorem dX3_factHere_127 : decode cX3_factHere 127 = .ok (.goto 4, 3) := by decide +kernel
theorem dX3_factHere_130 : decode cX3_factHere 130 = .ok (.iconst (-1), 1) := by decide +kernel
theorem dX3_factHere_131 : decode cX3_factHere 131 = .ok (.ireturn, 1) := by decide +kernel
theorem dX3_isKept_0 : decode cX3_isKept 0 = .ok (.aload_n 0, 1) := by decide +kernel
theorem dX3_isKept_1 : decode cX3_isKept 1 = .ok (.getfield 9, 3) := by decide +kernel
theorem dX3_isKept_4 : decode cX3_isKept 4 = .ok (.ldc 36, 2) := by decide +kernel
theorem dX3_isKept_6 : decode cX3_isKept 6 = .ok (.invokevirtual 38, 3) := by decide +kernel
theorem dX3_isKept_9 : decode cX3_isKept 9 = .ok (.ifCond .ne 99, 3) := by decide +kernel
theorem dX3_isKept_12 : decode cX3_isKept 12 = .ok (.aload_n 0, 1) := by decide +kernel
theorem dX3_isKept_13 : decode cX3_isKept 13 = .ok (.getfield 9, 3) := by decide +kernel
theorem dX3_isKept_16 : decode cX3_isKept 16 = .ok (.ldc 46, 2) := by decide +kernel
theorem dX3_isKept_18 : decode cX3_isKept 18 = .ok (.invokevirtual 38, 3) := by decide +kernel
theorem dX3_isKept_21 : decode cX3_isKept 21 = .ok (.ifCond .ne 87, 3) := by decide +kernel
theorem dX3_isKept_24 : decode cX3_isKept 24 = .ok (.aload_n 0, 1) := by decide +kernel
theorem dX3_isKept_25 : decode cX3_isKept 25 = .ok (.getfield 9, 3) := by decide +kernel
theorem dX3_isKept_28 : decode cX3_isKept 28 = .ok (.ldc 91, 2) := by decide +kernel
theorem dX3_isKept_30 : decode cX3_isKept 30 = .ok (.invokevirtual 38, 3) := by decide +kernel
theorem dX3_isKept_33 : decode cX3_isKept 33 = .ok (.ifCond .ne 75, 3) := by decide +kernel
theorem dX3_isKept_36 : decode cX3_isKept 36 = .ok (.aload_n 0, 1) := by decide +kernel
theorem dX3_isKept_37 : decode cX3_isKept 37 = .ok (.getfield 9, 3) := by decide +kernel
theorem dX3_isKept_40 : decode cX3_isKept 40 = .ok (.ldc 97, 2) := by decide +kernel
theorem dX3_isKept_42 : decode cX3_isKept 42 = .ok (.invokevirtual 38, 3) := by decide +kernel
theorem dX3_isKept_45 : decode cX3_isKept 45 = .ok (.ifCond .ne 63, 3) := by decide +kernel
theorem dX3_isKept_48 : decode cX3_isKept 48 = .ok (.aload_n 0, 1) := by decide +kernel
theorem dX3_isKept_49 : decode cX3_isKept 49 = .ok (.getfield 9, 3) := by decide +kernel
theorem dX3_isKept_52 : decode cX3_isKept 52 = .ok (.ldc 99, 2) := by decide +kernel
theorem dX3_isKept_54 : decode cX3_isKept 54 = .ok (.invokevirtual 38, 3) := by decide +kernel
theorem dX3_isKept_57 : decode cX3_isKept 57 = .ok (.ifCond .ne 51, 3) := by decide +kernel
theorem dX3_isKept_60 : decode cX3_isKept 60 = .ok (.aload_n 0, 1) := by decide +kernel
theorem dX3_isKept_61 : decode cX3_isKept 61 = .ok (.getfield 9, 3) := by decide +kernel
theorem dX3_isKept_64 : decode cX3_isKept 64 = .ok (.ldc 51, 2) := by decide +kernel
theorem dX3_isKept_66 : decode cX3_isKept 66 = .ok (.invokevirtual 38, 3) := by decide +kernel
theorem dX3_isKept_69 : decode cX3_isKept 69 = .ok (.ifCond .ne 39, 3) := by decide +kernel
theorem dX3_isKept_72 : decode cX3_isKept 72 = .ok (.aload_n 0, 1) := by decide +kernel
theorem dX3_isKept_73 : decode cX3_isKept 73 = .ok (.getfield 9, 3) := by decide +kernel
theorem dX3_isKept_76 : decode cX3_isKept 76 = .ok (.ldc 125, 2) := by decide +kernel
theorem dX3_isKept_78 : decode cX3_isKept 78 = .ok (.invokevirtual 38, 3) := by decide +kernel
theorem dX3_isKept_81 : decode cX3_isKept 81 = .ok (.ifCond .ne 27, 3) := by decide +kernel
theorem dX3_isKept_84 : decode cX3_isKept 84 = .ok (.aload_n 0, 1) := by decide +kernel
theorem dX3_isKept_85 : decode cX3_isKept 85 = .ok (.getfield 9, 3) := by decide +kernel
theorem dX3_isKept_88 : decode cX3_isKept 88 = .ok (.ldc 134, 2) := by decide +kernel
theorem dX3_isKept_90 : decode cX3_isKept 90 = .ok (.invokevirtual 38, 3) := by decide +kernel
theorem dX3_isKept_93 : decode cX3_isKept 93 = .ok (.ifCond .ne 15, 3) := by decide +kernel
theorem dX3_isKept_96 : decode cX3_isKept 96 = .ok (.aload_n 0, 1) := by decide +kernel
theorem dX3_isKept_97 : decode cX3_isKept 97 = .ok (.getfield 9, 3) := by decide +kernel
theorem dX3_isKept_100 : decode cX3_isKept 100 = .ok (.ldc 136, 2) := by decide +kernel
theorem dX3_isKept_102 : decode cX3_isKept 102 = .ok (.invokevirtual 38, 3) := by decide +kernel
theorem dX3_isKept_105 : decode cX3_isKept 105 = .ok (.ifCond .eq 7, 3) := by decide +kernel
theorem dX3_isKept_108 : decode cX3_isKept 108 = .ok (.iconst 1, 1) := by decide +kernel
theorem dX3_isKept_109 : decode cX3_isKept 109 = .ok (.goto 4, 3) := by decide +kernel
theorem dX3_isKept_112 : decode cX3_isKept 112 = .ok (.iconst 0, 1) := by decide +kernel
theorem dX3_isKept_113 : decode cX3_isKept 113 = .ok (.ireturn, 1) := by decide +kernel
theorem dX3_takeNumber_0 : decode cX3_takeNumber 0 = .ok (.aload_n 0, 1) := by decide +kernel
theorem dX3_takeNumber_1 : decode cX3_takeNumber 1 = .ok (.getfield 9, 3) := by decide +kernel
theorem dX3_takeNumber_4 : decode cX3_takeNumber 4 = .ok (.getfield 33, 3) := by decide +kernel
theorem dX3_takeNumber_7 : decode cX3_takeNumber 7 = .ok (.iconst 2, 1) := by decide +kernel
theorem dX3_takeNumber_8 : decode cX3_takeNumber 8 = .ok (.if_icmp .eq 11, 3) := by decide +kernel
theorem dX3_takeNumber_11 : decode cX3_takeNumber 11 = .ok (.aload_n 0, 1) := by decide +kernel
theorem dX3_takeNumber_12 : decode cX3_takeNumber 12 = .ok (.iconst 1, 1) := by decide +kernel
theorem dX3_takeNumber_13 : decode cX3_takeNumber 13 = .ok (.invokevirtual 56, 3) := by decide +kernel
theorem dX3_takeNumber_16 : decode cX3_takeNumber 16 = .ok (.pop, 1) := by decide +kernel
theorem dX3_takeNumber_17 : decode cX3_takeNumber 17 = .ok (.iconst (-1), 1) := by decide +kernel
theorem dX3_takeNumber_18 : decode cX3_takeNumber 18 = .ok (.ireturn, 1) := by decide +kernel
theorem dX3_takeNumber_19 : decode cX3_takeNumber 19 = .ok (.aload_n 0, 1) := by decide +kernel
theorem dX3_takeNumber_20 : decode cX3_takeNumber 20 = .ok (.getfield 9, 3) := by decide +kernel
theorem dX3_takeNumber_23 : decode cX3_takeNumber 23 = .ok (.getfield 127, 3) := by decide +kernel
theorem dX3_takeNumber_26 : decode cX3_takeNumber 26 = .ok (.istore_n 2, 1) := by decide +kernel
theorem dX3_takeNumber_27 : decode cX3_takeNumber 27 = .ok (.iload_n 2, 1) := by decide +kernel
theorem dX3_takeNumber_28 : decode cX3_takeNumber 28 = .ok (.iload_n 1, 1) := by decide +kernel
theorem dX3_takeNumber_29 : decode cX3_takeNumber 29 = .ok (.if_icmp .le 11, 3) := by decide +kernel
theorem dX3_takeNumber_32 : decode cX3_takeNumber 32 = .ok (.aload_n 0, 1) := by decide +kernel
theorem dX3_takeNumber_33 : decode cX3_takeNumber 33 = .ok (.iconst 4, 1) := by decide +kernel
theorem dX3_takeNumber_34 : decode cX3_takeNumber 34 = .ok (.invokevirtual 56, 3) := by decide +kernel
theorem dX3_takeNumber_37 : decode cX3_takeNumber 37 = .ok (.pop, 1) := by decide +kernel
theorem dX3_takeNumber_38 : decode cX3_takeNumber 38 = .ok (.iconst (-1), 1) := by decide +kernel
theorem dX3_takeNumber_39 : decode cX3_takeNumber 39 = .ok (.ireturn, 1) := by decide +kernel
theorem dX3_takeNumber_40 : decode cX3_takeNumber 40 = .ok (.aload_n 0, 1) := by decide +kernel
theorem dX3_takeNumber_41 : decode cX3_takeNumber 41 = .ok (.getfield 9, 3) := by decide +kernel
theorem dX3_takeNumber_44 : decode cX3_takeNumber 44 = .ok (.invokevirtual 66, 3) := by decide +kernel
theorem dX3_takeNumber_47 : decode cX3_takeNumber 47 = .ok (.iload_n 2, 1) := by decide +kernel
theorem dX3_takeNumber_48 : decode cX3_takeNumber 48 = .ok (.ireturn, 1) := by decide +kernel
theorem dX3_takeSign_0 : decode cX3_takeSign 0 = .ok (.aload_n 0, 1) := by decide +kernel
theorem dX3_takeSign_1 : decode cX3_takeSign 1 = .ok (.getfield 9, 3) := by decide +kernel
theorem dX3_takeSign_4 : decode cX3_takeSign 4 = .ok (.getfield 33, 3) := by decide +kernel
theorem dX3_takeSign_7 : decode cX3_takeSign 7 = .ok (.iload_n 1, 1) := by decide +kernel
theorem dX3_takeSign_8 : decode cX3_takeSign 8 = .ok (.if_icmp .eq 9, 3) := by decide +kernel
theorem dX3_takeSign_11 : decode cX3_takeSign 11 = .ok (.aload_n 0, 1) := by decide +kernel
theorem dX3_takeSign_12 : decode cX3_takeSign 12 = .ok (.iconst 1, 1) := by decide +kernel
theorem dX3_takeSign_13 : decode cX3_takeSign 13 = .ok (.invokevirtual 56, 3) := by decide +kernel
theorem dX3_takeSign_16 : decode cX3_takeSign 16 = .ok (.ireturn, 1) := by decide +kernel
theorem dX3_takeSign_17 : decode cX3_takeSign 17 = .ok (.aload_n 0, 1) := by decide +kernel
theorem dX3_takeSign_18 : decode cX3_takeSign 18 = .ok (.getfield 9, 3) := by decide +kernel
theorem dX3_takeSign_21 : decode cX3_takeSign 21 = .ok (.invokevirtual 66, 3) := by decide +kernel
theorem dX3_takeSign_24 : decode cX3_takeSign 24 = .ok (.iconst 1, 1) := by decide +kernel
theorem dX3_takeSign_25 : decode cX3_takeSign 25 = .ok (.ireturn, 1) := by decide +kernel
theorem dX3_isWrong_0 : decode cX3_isWrong 0 = .ok (.aload_n 0, 1) := by decide +kernel
theorem dX3_isWrong_1 : decode cX3_isWrong 1 = .ok (.iload_n 1, 1) := by decide +kernel
theorem dX3_isWrong_2 : decode cX3_isWrong 2 = .ok (.bipush 16, 2) := by decide +kernel
theorem dX3_isWrong_4 : decode cX3_isWrong 4 = .ok (.aload_n 0, 1) := by decide +kernel
theorem dX3_isWrong_5 : decode cX3_isWrong 5 = .ok (.getfield 9, 3) := by decide +kernel
theorem dX3_isWrong_8 : decode cX3_isWrong 8 = .ok (.getfield 148, 3) := by decide +kernel
theorem dX3_isWrong_11 : decode cX3_isWrong 11 = .ok (.imul, 1) := by decide +kernel
theorem dX3_isWrong_12 : decode cX3_isWrong 12 = .ok (.iadd, 1) := by decide +kernel
theorem dX3_isWrong_13 : decode cX3_isWrong 13 = .ok (.putfield 24, 3) := by decide +kernel
theorem dX3_isWrong_16 : decode cX3_isWrong 16 = .ok (.iconst 0, 1) := by decide +kernel
theorem dX3_isWrong_17 : decode cX3_isWrong 17 = .ok (.ireturn, 1) := by decide +kernel
theorem dX4_init_0 : decode cX4_init 0 = .ok (.aload_n 0, 1) := by decide +kernel
theorem dX4_init_1 : decode cX4_init 1 = .ok (.invokespecial 3, 3) := by decide +kernel
theorem dX4_init_4 : decode cX4_init 4 = .ok (.aload_n 0, 1) := by decide +kernel
theorem dX4_init_5 : decode cX4_init 5 = .ok (.bipush 7, 2) := by decide +kernel
theorem dX4_init_7 : decode cX4_init 7 = .ok (.newarray .int, 2) := by decide +kernel
theorem dX4_init_9 : decode cX4_init 9 = .ok (.putfield 9, 3) := by decide +kernel
theorem dX4_init_12 : decode cX4_init 12 = .ok (.aload_n 0, 1) := by decide +kernel
theorem dX4_init_13 : decode cX4_init 13 = .ok (.bipush 7, 2) := by decide +kernel
theorem dX4_init_15 : decode cX4_init 15 = .ok (.newarray .int, 2) := by decide +kernel
theorem dX4_init_17 : decode cX4_init 17 = .ok (.putfield 15, 3) := by decide +kernel
theorem dX4_init_20 : decode cX4_init 20 = .ok (.aload_n 0, 1) := by decide +kernel
theorem dX4_init_21 : decode cX4_init 21 = .ok (.bipush 7, 2) := by decide +kernel
theorem dX4_init_23 : decode cX4_init 23 = .ok (.newarray .int, 2) := by decide +kernel
theorem dX4_init_25 : decode cX4_init 25 = .ok (.putfield 18, 3) := by decide +kernel
theorem dX4_init_28 : decode cX4_init 28 = .ok (.return_, 1) := by decide +kernel
theorem dX4_copyFrom_0 : decode cX4_copyFrom 0 = .ok (.aload_n 1, 1) := by decide +kernel
theorem dX4_copyFrom_1 : decode cX4_copyFrom 1 = .ok (.getfield 9, 3) := by decide +kernel
theorem dX4_copyFrom_4 : decode cX4_copyFrom 4 = .ok (.iconst 0, 1) := by decide +kernel
theorem dX4_copyFrom_5 : decode cX4_copyFrom 5 = .ok (.aload_n 0, 1) := by decide +kernel
theorem dX4_copyFrom_6 : decode cX4_copyFrom 6 = .ok (.getfield 9, 3) := by decide +kernel
theorem dX4_copyFrom_9 : decode cX4_copyFrom 9 = .ok (.iconst 0, 1) := by decide +kernel
theorem dX4_copyFrom_10 : decode cX4_copyFrom 10 = .ok (.bipush 7, 2) := by decide +kernel
theorem dX4_copyFrom_12 : decode cX4_copyFrom 12 = .ok (.invokestatic 21, 3) := by decide +kernel
theorem dX4_copyFrom_15 : decode cX4_copyFrom 15 = .ok (.aload_n 1, 1) := by decide +kernel
theorem dX4_copyFrom_16 : decode cX4_copyFrom 16 = .ok (.getfield 15, 3) := by decide +kernel
theorem dX4_copyFrom_19 : decode cX4_copyFrom 19 = .ok (.iconst 0, 1) := by decide +kernel
theorem dX4_copyFrom_20 : decode cX4_copyFrom 20 = .ok (.aload_n 0, 1) := by decide +kernel
theorem dX4_copyFrom_21 : decode cX4_copyFrom 21 = .ok (.getfield 15, 3) := by decide +kernel
theorem dX4_copyFrom_24 : decode cX4_copyFrom 24 = .ok (.iconst 0, 1) := by decide +kernel
theorem dX4_copyFrom_25 : decode cX4_copyFrom 25 = .ok (.bipush 7, 2) := by decide +kernel
theorem dX4_copyFrom_27 : decode cX4_copyFrom 27 = .ok (.invokestatic 21, 3) := by decide +kernel
theorem dX4_copyFrom_30 : decode cX4_copyFrom 30 = .ok (.aload_n 1, 1) := by decide +kernel
theorem dX4_copyFrom_31 : decode cX4_copyFrom 31 = .ok (.getfield 18, 3) := by decide +kernel
theorem dX4_copyFrom_34 : decode cX4_copyFrom 34 = .ok (.iconst 0, 1) := by decide +kernel
theorem dX4_copyFrom_35 : decode cX4_copyFrom 35 = .ok (.aload_n 0, 1) := by decide +kernel
theorem dX4_copyFrom_36 : decode cX4_copyFrom 36 = .ok (.getfield 18, 3) := by decide +kernel
theorem dX4_copyFrom_39 : decode cX4_copyFrom 39 = .ok (.iconst 0, 1) := by decide +kernel
theorem dX4_copyFrom_40 : decode cX4_copyFrom 40 = .ok (.bipush 7, 2) := by decide +kernel
theorem dX4_copyFrom_42 : decode cX4_copyFrom 42 = .ok (.invokestatic 21, 3) := by decide +kernel
theorem dX4_copyFrom_45 : decode cX4_copyFrom 45 = .ok (.aload_n 0, 1) := by decide +kernel
theorem dX4_copyFrom_46 : decode cX4_copyFrom 46 = .ok (.aload_n 1, 1) := by decide +kernel
theorem dX4_copyFrom_47 : decode cX4_copyFrom 47 = .ok (.getfield 27, 3) := by decide +kernel
theorem dX4_copyFrom_50 : decode cX4_copyFrom 50 = .ok (.putfield 27, 3) := by decide +kernel
theorem dX4_copyFrom_53 : decode cX4_copyFrom 53 = .ok (.return_, 1) := by decide +kernel
theorem dX4_add_0 : decode cX4_add 0 = .ok (.aload_n 0, 1) := by decide +kernel
theorem dX4_add_1 : decode cX4_add 1 = .ok (.getfield 27, 3) := by decide +kernel
theorem dX4_add_4 : decode cX4_add 4 = .ok (.bipush 7, 2) := by decide +kernel
theorem dX4_add_6 : decode cX4_add 6 = .ok (.if_icmp .lt 5, 3) := by decide +kernel
theorem dX4_add_9 : decode cX4_add 9 = .ok (.iconst 0, 1) := by decide +kernel
theorem dX4_add_10 : decode cX4_add 10 = .ok (.ireturn, 1) := by decide +kernel
theorem dX4_add_11 : decode cX4_add 11 = .ok (.aload_n 0, 1) := by decide +kernel
theorem dX4_add_12 : decode cX4_add 12 = .ok (.getfield 9, 3) := by decide +kernel
theorem dX4_add_15 : decode cX4_add 15 = .ok (.aload_n 0, 1) := by decide +kernel
theorem dX4_add_16 : decode cX4_add 16 = .ok (.getfield 27, 3) := by decide +kernel
theorem dX4_add_19 : decode cX4_add 19 = .ok (.iload_n 1, 1) := by decide +kernel
theorem dX4_add_20 : decode cX4_add 20 = .ok (.iastore, 1) := by decide +kernel
theorem dX4_add_21 : decode cX4_add 21 = .ok (.aload_n 0, 1) := by decide +kernel
theorem dX4_add_22 : decode cX4_add 22 = .ok (.getfield 15, 3) := by decide +kernel
theorem dX4_add_25 : decode cX4_add 25 = .ok (.aload_n 0, 1) := by decide +kernel
theorem dX4_add_26 : decode cX4_add 26 = .ok (.getfield 27, 3) := by decide +kernel
theorem dX4_add_29 : decode cX4_add 29 = .ok (.iload_n 2, 1) := by decide +kernel
theorem dX4_add_30 : decode cX4_add 30 = .ok (.iastore, 1) := by decide +kernel
theorem dX4_add_31 : decode cX4_add 31 = .ok (.aload_n 0, 1) := by decide +kernel
theorem dX4_add_32 : decode cX4_add 32 = .ok (.getfield 18, 3) := by decide +kernel
theorem dX4_add_35 : decode cX4_add 35 = .ok (.aload_n 0, 1) := by decide +kernel
theorem dX4_add_36 : decode cX4_add 36 = .ok (.getfield 27, 3) := by decide +kernel
theorem dX4_add_39 : decode cX4_add 39 = .ok (.iload_n 3, 1) := by decide +kernel
theorem dX4_add_40 : decode cX4_add 40 = .ok (.iastore, 1) := by decide +kernel
theorem dX4_add_41 : decode cX4_add 41 = .ok (.aload_n 0, 1) := by decide +kernel
theorem dX4_add_42 : decode cX4_add 42 = .ok (.dup, 1) := by decide +kernel
theorem dX4_add_43 : decode cX4_add 43 = .ok (.getfield 27, 3) := by decide +kernel
theorem dX4_add_46 : decode cX4_add 46 = .ok (.iconst 1, 1) := by decide +kernel
theorem dX4_add_47 : decode cX4_add 47 = .ok (.iadd, 1) := by decide +kernel
theorem dX4_add_48 : decode cX4_add 48 = .ok (.putfield 27, 3) := by decide +kernel
theorem dX4_add_51 : decode cX4_add 51 = .ok (.iconst 1, 1) := by decide +kernel
theorem dX4_add_52 : decode cX4_add 52 = .ok (.ireturn, 1) := by decide +kernel
theorem dX4_doneAsTold_0 : decode cX4_doneAsTold 0 = .ok (.iconst 0, 1) := by decide +kernel
theorem dX4_doneAsTold_1 : decode cX4_doneAsTold 1 = .ok (.istore_n 1, 1) := by decide +kernel
theorem dX4_doneAsTold_2 : decode cX4_doneAsTold 2 = .ok (.iconst 0, 1) := by decide +kernel
theorem dX4_doneAsTold_3 : decode cX4_doneAsTold 3 = .ok (.istore_n 2, 1) := by decide +kernel
theorem dX4_doneAsTold_4 : decode cX4_doneAsTold 4 = .ok (.iconst 0, 1) := by decide +kernel
theorem dX4_doneAsTold_5 : decode cX4_doneAsTold 5 = .ok (.istore_n 3, 1) := by decide +kernel
theorem dX4_doneAsTold_6 : decode cX4_doneAsTold 6 = .ok (.iload_n 3, 1) := by decide +kernel
theorem dX4_doneAsTold_7 : decode cX4_doneAsTold 7 = .ok (.aload_n 0, 1) := by decide +kernel
theorem dX4_doneAsTold_8 : decode cX4_doneAsTold 8 = .ok (.getfield 27, 3) := by decide +kernel
theorem dX4_doneAsTold_11 : decode cX4_doneAsTold 11 = .ok (.if_icmp .ge 40, 3) := by decide +kernel
theorem dX4_doneAsTold_14 : decode cX4_doneAsTold 14 = .ok (.iload_n 2, 1) := by decide +kernel
theorem dX4_doneAsTold_15 : decode cX4_doneAsTold 15 = .ok (.aload_n 0, 1) := by decide +kernel
theorem dX4_doneAsTold_16 : decode cX4_doneAsTold 16 = .ok (.getfield 9, 3) := by decide +kernel
theorem dX4_doneAsTold_19 : decode cX4_doneAsTold 19 = .ok (.iload_n 3, 1) := by decide +kernel
theorem dX4_doneAsTold_20 : decode cX4_doneAsTold 20 = .ok (.iaload, 1) := by decide +kernel
theorem dX4_doneAsTold_21 : decode cX4_doneAsTold 21 = .ok (.invokestatic 31, 3) := by decide +kernel
theorem dX4_doneAsTold_24 : decode cX4_doneAsTold 24 = .ok (.aload_n 0, 1) := by decide +kernel
theorem dX4_doneAsTold_25 : decode cX4_doneAsTold 25 = .ok (.getfield 15, 3) := by decide +kernel
theorem dX4_doneAsTold_28 : decode cX4_doneAsTold 28 = .ok (.iload_n 3, 1) := by decide +kernel
theorem dX4_doneAsTold_29 : decode cX4_doneAsTold 29 = .ok (.iaload, 1) := by decide +kernel
theorem dX4_doneAsTold_30 : decode cX4_doneAsTold 30 = .ok (.iadd, 1) := by decide +kernel
theorem dX4_doneAsTold_31 : decode cX4_doneAsTold 31 = .ok (.istore_n 2, 1) := by decide +kernel
theorem dX4_doneAsTold_32 : decode cX4_doneAsTold 32 = .ok (.iload_n 1, 1) := by decide +kernel
theorem dX4_doneAsTold_33 : decode cX4_doneAsTold 33 = .ok (.iload_n 2, 1) := by decide +kernel
theorem dX4_doneAsTold_34 : decode cX4_doneAsTold 34 = .ok (.aload_n 0, 1) := by decide +kernel
theorem dX4_doneAsTold_35 : decode cX4_doneAsTold 35 = .ok (.getfield 18, 3) := by decide +kernel
theorem dX4_doneAsTold_38 : decode cX4_doneAsTold 38 = .ok (.iload_n 3, 1) := by decide +kernel
theorem dX4_doneAsTold_39 : decode cX4_doneAsTold 39 = .ok (.iaload, 1) := by decide +kernel
theorem dX4_doneAsTold_40 : decode cX4_doneAsTold 40 = .ok (.iadd, 1) := by decide +kernel
theorem dX4_doneAsTold_41 : decode cX4_doneAsTold 41 = .ok (.invokestatic 31, 3) := by decide +kernel
theorem dX4_doneAsTold_44 : decode cX4_doneAsTold 44 = .ok (.istore_n 1, 1) := by decide +kernel
theorem dX4_doneAsTold_45 : decode cX4_doneAsTold 45 = .ok (.iinc 3 1, 3) := by decide +kernel
theorem dX4_doneAsTold_48 : decode cX4_doneAsTold 48 = .ok (.goto (-42), 3) := by decide +kernel
theorem dX4_doneAsTold_51 : decode cX4_doneAsTold 51 = .ok (.iload_n 1, 1) := by decide +kernel
theorem dX4_doneAsTold_52 : decode cX4_doneAsTold 52 = .ok (.ireturn, 1) := by decide +kernel
theorem dX5_init_0 : decode cX5_init 0 = .ok (.aload_n 0, 1) := by decide +kernel
theorem dX5_init_1 : decode cX5_init 1 = .ok (.invokespecial 3, 3) := by decide +kernel
theorem dX5_init_4 : decode cX5_init 4 = .ok (.aload_n 0, 1) := by decide +kernel
theorem dX5_init_5 : decode cX5_init 5 = .ok (.bipush 7, 2) := by decide +kernel
theorem dX5_init_7 : decode cX5_init 7 = .ok (.newarray .int, 2) := by decide +kernel
theorem dX5_init_9 : decode cX5_init 9 = .ok (.putfield 9, 3) := by decide +kernel
theorem dX5_init_12 : decode cX5_init 12 = .ok (.aload_n 0, 1) := by decide +kernel
theorem dX5_init_13 : decode cX5_init 13 = .ok (.bipush 7, 2) := by decide +kernel
theorem dX5_init_15 : decode cX5_init 15 = .ok (.newarray .int, 2) := by decide +kernel
theorem dX5_init_17 : decode cX5_init 17 = .ok (.putfield 15, 3) := by decide +kernel
theorem dX5_init_20 : decode cX5_init 20 = .ok (.aload_n 0, 1) := by decide +kernel
theorem dX5_init_21 : decode cX5_init 21 = .ok (.sipush 128, 3) := by decide +kernel
theorem dX5_init_24 : decode cX5_init 24 = .ok (.newarray .int, 2) := by decide +kernel
theorem dX5_init_26 : decode cX5_init 26 = .ok (.putfield 18, 3) := by decide +kernel
theorem dX5_init_29 : decode cX5_init 29 = .ok (.return_, 1) := by decide +kernel
theorem dX5_make_0 : decode cX5_make 0 = .ok (.aload_n 0, 1) := by decide +kernel
theorem dX5_make_1 : decode cX5_make 1 = .ok (.aload_n 1, 1) := by decide +kernel
theorem dX5_make_2 : decode cX5_make 2 = .ok (.putfield 21, 3) := by decide +kernel
theorem dX5_make_5 : decode cX5_make 5 = .ok (.iconst 0, 1) := by decide +kernel
theorem dX5_make_6 : decode cX5_make 6 = .ok (.istore_n 2, 1) := by decide +kernel
theorem dX5_make_7 : decode cX5_make 7 = .ok (.aload_n 0, 1) := by decide +kernel
theorem dX5_make_8 : decode cX5_make 8 = .ok (.getfield 21, 3) := by decide +kernel
theorem dX5_make_11 : decode cX5_make 11 = .ok (.invokevirtual 25, 3) := by decide +kernel
theorem dX5_make_14 : decode cX5_make 14 = .ok (.istore_n 3, 1) := by decide +kernel
theorem dX5_make_15 : decode cX5_make 15 = .ok (.iconst 0, 1) := by decide +kernel
theorem dX5_make_16 : decode cX5_make 16 = .ok (.istore 4, 2) := by decide +kernel
theorem dX5_make_18 : decode cX5_make 18 = .ok (.iload 4, 2) := by decide +kernel
theorem dX5_make_20 : decode cX5_make 20 = .ok (.bipush 32, 2) := by decide +kernel
theorem dX5_make_22 : decode cX5_make 22 = .ok (.if_icmp .ge 41, 3) := by decide +kernel
theorem dX5_make_25 : decode cX5_make 25 = .ok (.iload_n 2, 1) := by decide +kernel
theorem dX5_make_26 : decode cX5_make 26 = .ok (.iload_n 3, 1) := by decide +kernel
theorem dX5_make_27 : decode cX5_make 27 = .ok (.if_icmp .ge 36, 3) := by decide +kernel
theorem dX5_make_30 : decode cX5_make 30 = .ok (.iload_n 2, 1) := by decide +kernel
theorem dX5_make_31 : decode cX5_make 31 = .ok (.iload_n 3, 1) := by decide +kernel
theorem dX5_make_32 : decode cX5_make 32 = .ok (.iadd, 1) := by decide +kernel
theorem dX5_make_33 : decode cX5_make 33 = .ok (.iconst 2, 1) := by decide +kernel
theorem dX5_make_34 : decode cX5_make 34 = .ok (.idiv, 1) := by decide +kernel
theorem dX5_make_35 : decode cX5_make 35 = .ok (.istore 5, 2) := by decide +kernel
theorem dX5_make_37 : decode cX5_make 37 = .ok (.aload_n 0, 1) := by decide +kernel
theorem dX5_make_38 : decode cX5_make 38 = .ok (.iload 5, 2) := by decide +kernel
theorem dX5_make_40 : decode cX5_make 40 = .ok (.invokevirtual 31, 3) := by decide +kernel
theorem dX5_make_43 : decode cX5_make 43 = .ok (.ifCond .eq 9, 3) := by decide +kernel
theorem dX5_make_46 : decode cX5_make 46 = .ok (.iload 5, 2) := by decide +kernel
theorem dX5_make_48 : decode cX5_make 48 = .ok (.istore_n 3, 1) := by decide +kernel
theorem dX5_make_49 : decode cX5_make 49 = .ok (.goto 8, 3) := by decide +kernel
theorem dX5_make_52 : decode cX5_make 52 = .ok (.iload 5, 2) := by decide +kernel
theorem dX5_make_54 : decode cX5_make 54 = .ok (.iconst 1, 1) := by decide +kernel
theorem dX5_make_55 : decode cX5_make 55 = .ok (.iadd, 1) := by decide +kernel
theorem dX5_make_56 : decode cX5_make 56 = .ok (.istore_n 2, 1) := by decide +kernel
theorem dX5_make_57 : decode cX5_make 57 = .ok (.iinc 4 1, 3) := by decide +kernel
theorem dX5_make_60 : decode cX5_make 60 = .ok (.goto (-42), 3) := by decide +kernel
theorem dX5_make_63 : decode cX5_make 63 = .ok (.aload_n 0, 1) := by decide +kernel
theorem dX5_make_64 : decode cX5_make 64 = .ok (.iload_n 3, 1) := by decide +kernel
theorem dX5_make_65 : decode cX5_make 65 = .ok (.putfield 35, 3) := by decide +kernel
theorem dX5_make_68 : decode cX5_make 68 = .ok (.aload_n 0, 1) := by decide +kernel
theorem dX5_make_69 : decode cX5_make 69 = .ok (.aload_n 0, 1) := by decide +kernel
theorem dX5_make_70 : decode cX5_make 70 = .ok (.getfield 35, 3) := by decide +kernel
theorem dX5_make_73 : decode cX5_make 73 = .ok (.invokevirtual 31, 3) := by decide +kernel
theorem dX5_make_76 : decode cX5_make 76 = .ok (.pop, 1) := by decide +kernel
theorem dX5_make_77 : decode cX5_make 77 = .ok (.aload_n 0, 1) := by decide +kernel
theorem dX5_make_78 : decode cX5_make 78 = .ok (.invokevirtual 39, 3) := by decide +kernel
theorem dX5_make_81 : decode cX5_make 81 = .ok (.return_, 1) := by decide +kernel
theorem dX5_waits_0 : decode cX5_waits 0 = .ok (.iconst 0, 1) := by decide +kernel
theorem dX5_waits_1 : decode cX5_waits 1 = .ok (.istore_n 1, 1) := by decide +kernel
theorem dX5_waits_2 : decode cX5_waits 2 = .ok (.iconst 0, 1) := by decide +kernel
theorem dX5_waits_3 : decode cX5_waits 3 = .ok (.istore_n 2, 1) := by decide +kernel
theorem dX5_waits_4 : decode cX5_waits 4 = .ok (.iload_n 2, 1) := by decide +kernel
theorem dX5_waits_5 : decode cX5_waits 5 = .ok (.aload_n 0, 1) := by decide +kernel
theorem dX5_waits_6 : decode cX5_waits 6 = .ok (.getfield 21, 3) := by decide +kernel
theorem dX5_waits_9 : decode cX5_waits 9 = .ok (.getfield 42, 3) := by decide +kernel
theorem dX5_waits_12 : decode cX5_waits 12 = .ok (.if_icmp .ge 28, 3) := by decide +kernel
theorem dX5_waits_15 : decode cX5_waits 15 = .ok (.iload_n 1, 1) := by decide +kernel
theorem dX5_waits_16 : decode cX5_waits 16 = .ok (.aload_n 0, 1) := by decide +kernel
theorem dX5_waits_17 : decode cX5_waits 17 = .ok (.getfield 15, 3) := by decide +kernel
theorem dX5_waits_20 : decode cX5_waits 20 = .ok (.iload_n 2, 1) := by decide +kernel
theorem dX5_waits_21 : decode cX5_waits 21 = .ok (.iaload, 1) := by decide +kernel
theorem dX5_waits_22 : decode cX5_waits 22 = .ok (.aload_n 0, 1) := by decide +kernel
theorem dX5_waits_23 : decode cX5_waits 23 = .ok (.getfield 21, 3) := by decide +kernel
theorem dX5_waits_26 : decode cX5_waits 26 = .ok (.getfield 45, 3) := by decide +kernel
theorem dX5_waits_29 : decode cX5_waits 29 = .ok (.iload_n 2, 1) := by decide +kernel
theorem dX5_waits_30 : decode cX5_waits 30 = .ok (.iaload, 1) := by decide +kernel
theorem dX5_waits_31 : decode cX5_waits 31 = .ok (.isub, 1) := by decide +kernel
theorem dX5_waits_32 : decode cX5_waits 32 = .ok (.iadd, 1) := by decide +kernel
theorem dX5_waits_33 : decode cX5_waits 33 = .ok (.istore_n 1, 1) := by decide +kernel
theorem dX5_waits_34 : decode cX5_waits 34 = .ok (.iinc 2 1, 3) := by decide +kernel
theorem dX5_waits_37 : decode cX5_waits 37 = .ok (.goto (-33), 3) := by decide +kernel
theorem dX5_waits_40 : decode cX5_waits 40 = .ok (.iload_n 1, 1) := by decide +kernel
theorem dX5_waits_41 : decode cX5_waits 41 = .ok (.ireturn, 1) := by decide +kernel
theorem dX5_portersNeeded_0 : decode cX5_portersNeeded 0 = .ok (.iconst 0, 1) := by decide +kernel
theorem dX5_portersNeeded_1 : decode cX5_portersNeeded 1 = .ok (.istore_n 1, 1) := by decide +kernel
theorem dX5_portersNeeded_2 : decode cX5_portersNeeded 2 = .ok (.iconst 0, 1) := by decide +kernel
theorem dX5_portersNeeded_3 : decode cX5_portersNeeded 3 = .ok (.istore_n 2, 1) := by decide +kernel
theorem dX5_portersNeeded_4 : decode cX5_portersNeeded 4 = .ok (.iload_n 2, 1) := by decide +kernel
theorem dX5_portersNeeded_5 : decode cX5_portersNeeded 5 = .ok (.aload_n 0, 1) := by decide +kernel
theorem dX5_portersNeeded_6 : decode cX5_portersNeeded 6 = .ok (.getfield 21, 3) := by decide +kernel
theorem dX5_portersNeeded_9 : decode cX5_portersNeeded 9 = .ok (.getfield 42, 3) := by decide +kernel
theorem dX5_portersNeeded_12 : decode cX5_portersNeeded 12 = .ok (.if_icmp .ge 71, 3) := by decide +kernel
theorem dX5_portersNeeded_15 : decode cX5_portersNeeded 15 = .ok (.iconst 0, 1) := by decide +kernel
theorem dX5_portersNeeded_16 : decode cX5_portersNeeded 16 = .ok (.istore_n 3, 1) := by decide +kernel
theorem dX5_portersNeeded_17 : decode cX5_portersNeeded 17 = .ok (.iconst 0, 1) := by decide +kernel
theorem dX5_portersNeeded_18 : decode cX5_portersNeeded 18 = .ok (.istore 4, 2) := by decide +kernel
theorem dX5_portersNeeded_20 : decode cX5_portersNeeded 20 = .ok (.iload 4, 2) := by decide +kernel
theorem dX5_portersNeeded_22 : decode cX5_portersNeeded 22 = .ok (.aload_n 0, 1) := by decide +kernel
theorem dX5_portersNeeded_23 : decode cX5_portersNeeded 23 = .ok (.getfield 21, 3) := by decide +kernel
theorem dX5_portersNeeded_26 : decode cX5_portersNeeded 26 = .ok (.getfield 42, 3) := by decide +kernel
theorem dX5_portersNeeded_29 : decode cX5_portersNeeded 29 = .ok (.if_icmp .ge 42, 3) := by decide +kernel
theorem dX5_portersNeeded_32 : decode cX5_portersNeeded 32 = .ok (.iload_n 3, 1) := by decide +kernel
theorem dX5_portersNeeded_33 : decode cX5_portersNeeded 33 = .ok (.aload_n 0, 1) := by decide +kernel
theorem dX5_portersNeeded_34 : decode cX5_portersNeeded 34 = .ok (.iload 4, 2) := by decide +kernel
theorem dX5_portersNeeded_36 : decode cX5_portersNeeded 36 = .ok (.aload_n 0, 1) := by decide +kernel
theorem dX5_portersNeeded_37 : decode cX5_portersNeeded 37 = .ok (.getfield 15, 3) := by decide +kernel
theorem dX5_portersNeeded_40 : decode cX5_portersNeeded 40 = .ok (.iload_n 2, 1) := by decide +kernel
theorem dX5_portersNeeded_41 : decode cX5_portersNeeded 41 = .ok (.iaload, 1) := by decide +kernel
theorem dX5_portersNeeded_42 : decode cX5_portersNeeded 42 = .ok (.aload_n 0, 1) := by decide +kernel
theorem dX5_portersNeeded_43 : decode cX5_portersNeeded 43 = .ok (.getfield 21, 3) := by decide +kernel
theorem dX5_portersNeeded_46 : decode cX5_portersNeeded 46 = .ok (.getfield 45, 3) := by decide +kernel
theorem dX5_portersNeeded_49 : decode cX5_portersNeeded 49 = .ok (.iload_n 2, 1) := by decide +kernel
theorem dX5_portersNeeded_50 : decode cX5_portersNeeded 50 = .ok (.iaload, 1) := by decide +kernel
theorem dX5_portersNeeded_51 : decode cX5_portersNeeded 51 = .ok (.isub, 1) := by decide +kernel
theorem dX5_portersNeeded_52 : decode cX5_portersNeeded 52 = .ok (.invokevirtual 48, 3) := by decide +kernel
theorem dX5_portersNeeded_55 : decode cX5_portersNeeded 55 = .ok (.ifCond .eq 7, 3) := by decide +kernel
theorem dX5_portersNeeded_58 : decode cX5_portersNeeded 58 = .ok (.iconst 1, 1) := by decide +kernel
theorem dX5_portersNeeded_59 : decode cX5_portersNeeded 59 = .ok (.goto 4, 3) := by decide +kernel
theorem dX5_portersNeeded_62 : decode cX5_portersNeeded 62 = .ok (.iconst 0, 1) := by decide +kernel
theorem dX5_portersNeeded_63 : decode cX5_portersNeeded 63 = .ok (.iadd, 1) := by decide +kernel
theorem dX5_portersNeeded_64 : decode cX5_portersNeeded 64 = .ok (.istore_n 3, 1) := by decide +kernel
theorem dX5_portersNeeded_65 : decode cX5_portersNeeded 65 = .ok (.iinc 4 1, 3) := by decide +kernel
theorem dX5_portersNeeded_68 : decode cX5_portersNeeded 68 = .ok (.goto (-48), 3) := by decide +kernel
theorem dX5_portersNeeded_71 : decode cX5_portersNeeded 71 = .ok (.iload_n 1, 1) := by decide +kernel
theorem dX5_portersNeeded_72 : decode cX5_portersNeeded 72 = .ok (.iload_n 3, 1) := by decide +kernel
theorem dX5_portersNeeded_73 : decode cX5_portersNeeded 73 = .ok (.invokestatic 52, 3) := by decide +kernel
theorem dX5_portersNeeded_76 : decode cX5_portersNeeded 76 = .ok (.istore_n 1, 1) := by decide +kernel
theorem dX5_portersNeeded_77 : decode cX5_portersNeeded 77 = .ok (.iinc 2 1, 3) := by decide +kernel
theorem dX5_portersNeeded_80 : decode cX5_portersNeeded 80 = .ok (.goto (-76), 3) := by decide +kernel
theorem dX5_portersNeeded_83 : decode cX5_portersNeeded 83 = .ok (.iload_n 1, 1) := by decide +kernel
theorem dX5_portersNeeded_84 : decode cX5_portersNeeded 84 = .ok (.ireturn, 1) := by decide +kernel
theorem dX5_isAtWork_0 : decode cX5_isAtWork 0 = .ok (.aload_n 0, 1) := by decide +kernel
theorem dX5_isAtWork_1 : decode cX5_isAtWork 1 = .ok (.getfield 15, 3) := by decide +kernel
theorem dX5_isAtWork_4 : decode cX5_isAtWork 4 = .ok (.iload_n 1, 1) := by decide +kernel
theorem dX5_isAtWork_5 : decode cX5_isAtWork 5 = .ok (.iaload, 1) := by decide +kernel
theorem dX5_isAtWork_6 : decode cX5_isAtWork 6 = .ok (.aload_n 0, 1) := by decide +kernel
theorem dX5_isAtWork_7 : decode cX5_isAtWork 7 = .ok (.getfield 21, 3) := by decide +kernel
theorem dX5_isAtWork_10 : decode cX5_isAtWork 10 = .ok (.getfield 58, 3) := by decide +kernel
theorem dX5_isAtWork_13 : decode cX5_isAtWork 13 = .ok (.iload_n 1, 1) := by decide +kernel
theorem dX5_isAtWork_14 : decode cX5_isAtWork 14 = .ok (.iaload, 1) := by decide +kernel
theorem dX5_isAtWork_15 : decode cX5_isAtWork 15 = .ok (.iadd, 1) := by decide +kernel
theorem dX5_isAtWork_16 : decode cX5_isAtWork 16 = .ok (.aload_n 0, 1) := by decide +kernel
theorem dX5_isAtWork_17 : decode cX5_isAtWork 17 = .ok (.getfield 21, 3) := by decide +kernel
theorem dX5_isAtWork_20 : decode cX5_isAtWork 20 = .ok (.getfield 61, 3) := by decide +kernel
theorem dX5_isAtWork_23 : decode cX5_isAtWork 23 = .ok (.iload_n 1, 1) := by decide +kernel
theorem dX5_isAtWork_24 : decode cX5_isAtWork 24 = .ok (.iaload, 1) := by decide +kernel
theorem dX5_isAtWork_25 : decode cX5_isAtWork 25 = .ok (.iadd, 1) := by decide +kernel
theorem dX5_isAtWork_26 : decode cX5_isAtWork 26 = .ok (.istore_n 3, 1) := by decide +kernel
theorem dX5_isAtWork_27 : decode cX5_isAtWork 27 = .ok (.aload_n 0, 1) := by decide +kernel
theorem dX5_isAtWork_28 : decode cX5_isAtWork 28 = .ok (.getfield 15, 3) := by decide +kernel
theorem dX5_isAtWork_31 : decode cX5_isAtWork 31 = .ok (.iload_n 1, 1) := by decide +kernel
theorem dX5_isAtWork_32 : decode cX5_isAtWork 32 = .ok (.iaload, 1) := by decide +kernel
theorem dX5_isAtWork_33 : decode cX5_isAtWork 33 = .ok (.aload_n 0, 1) := by decide +kernel
theorem dX5_isAtWork_34 : decode cX5_isAtWork 34 = .ok (.getfield 21, 3) := by decide +kernel
theorem dX5_isAtWork_37 : decode cX5_isAtWork 37 = .ok (.getfield 45, 3) := by decide +kernel
theorem dX5_isAtWork_40 : decode cX5_isAtWork 40 = .ok (.iload_n 1, 1) := by decide +kernel
theorem dX5_isAtWork_41 : decode cX5_isAtWork 41 = .ok (.iaload, 1) := by decide +kernel
theorem dX5_isAtWork_42 : decode cX5_isAtWork 42 = .ok (.isub, 1) := by decide +kernel
theorem dX5_isAtWork_43 : decode cX5_isAtWork 43 = .ok (.iload_n 2, 1) := by decide +kernel
theorem dX5_isAtWork_44 : decode cX5_isAtWork 44 = .ok (.if_icmp .gt 12, 3) := by decide +kernel
theorem dX5_isAtWork_47 : decode cX5_isAtWork 47 = .ok (.iload_n 2, 1) := by decide +kernel
theorem dX5_isAtWork_48 : decode cX5_isAtWork 48 = .ok (.iload_n 3, 1) := by decide +kernel
theorem dX5_isAtWork_49 : decode cX5_isAtWork 49 = .ok (.if_icmp .ge 7, 3) := by decide +kernel
theorem dX5_isAtWork_52 : decode cX5_isAtWork 52 = .ok (.iconst 1, 1) := by decide +kernel
theorem dX5_isAtWork_53 : decode cX5_isAtWork 53 = .ok (.goto 4, 3) := by decide +kernel
theorem dX5_isAtWork_56 : decode cX5_isAtWork 56 = .ok (.iconst 0, 1) := by decide +kernel
theorem dX5_isAtWork_57 : decode cX5_isAtWork 57 = .ok (.ireturn, 1) := by decide +kernel
theorem dX5_canBeDoneBy_0 : decode cX5_canBeDoneBy 0 = .ok (.aload_n 0, 1) := by decide +kernel
theorem dX5_canBeDoneBy_1 : decode cX5_canBeDoneBy 1 = .ok (.getfield 18, 3) := by decide +kernel
theorem dX5_canBeDoneBy_4 : decode cX5_canBeDoneBy 4 = .ok (.iconst 0, 1) := by decide +kernel
theorem dX5_canBeDoneBy_5 : decode cX5_canBeDoneBy 5 = .ok (.iload_n 1, 1) := by decide +kernel
theorem dX5_canBeDoneBy_6 : decode cX5_canBeDoneBy 6 = .ok (.iastore, 1) := by decide +kernel
theorem dX5_canBeDoneBy_7 : decode cX5_canBeDoneBy 7 = .ok (.iconst 1, 1) := by decide +kernel
theorem dX5_canBeDoneBy_8 : decode cX5_canBeDoneBy 8 = .ok (.aload_n 0, 1) := by decide +kernel
theorem dX5_canBeDoneBy_9 : decode cX5_canBeDoneBy 9 = .ok (.getfield 21, 3) := by decide +kernel
theorem dX5_canBeDoneBy_12 : decode cX5_canBeDoneBy 12 = .ok (.getfield 42, 3) := by decide +kernel
theorem dX5_canBeDoneBy_15 : decode cX5_canBeDoneBy 15 = .ok (.ishl, 1) := by decide +kernel
theorem dX5_canBeDoneBy_16 : decode cX5_canBeDoneBy 16 = .ok (.iconst 1, 1) := by decide +kernel
theorem dX5_canBeDoneBy_17 : decode cX5_canBeDoneBy 17 = .ok (.isub, 1) := by decide +kernel
theorem dX5_canBeDoneBy_18 : decode cX5_canBeDoneBy 18 = .ok (.istore_n 2, 1) := by decide +kernel
theorem dX5_canBeDoneBy_19 : decode cX5_canBeDoneBy 19 = .ok (.iconst 1, 1) := by decide +kernel
theorem dX5_canBeDoneBy_20 : decode cX5_canBeDoneBy 20 = .ok (.istore_n 3, 1) := by decide +kernel
theorem dX5_canBeDoneBy_21 : decode cX5_canBeDoneBy 21 = .ok (.iload_n 3, 1) := by decide +kernel
theorem dX5_canBeDoneBy_22 : decode cX5_canBeDoneBy 22 = .ok (.iload_n 2, 1) := by decide +kernel
theorem dX5_canBeDoneBy_23 : decode cX5_canBeDoneBy 23 = .ok (.if_icmp .gt 90, 3) := by decide +kernel
theorem dX5_canBeDoneBy_26 : decode cX5_canBeDoneBy 26 = .ok (.iconst (-1), 1) := by decide +kernel
theorem dX5_canBeDoneBy_27 : decode cX5_canBeDoneBy 27 = .ok (.istore 4, 2) := by decide +kernel
theorem dX5_canBeDoneBy_29 : decode cX5_canBeDoneBy 29 = .ok (.iconst 0, 1) := by decide +kernel
theorem dX5_canBeDoneBy_30 : decode cX5_canBeDoneBy 30 = .ok (.istore 5, 2) := by decide +kernel
theorem dX5_canBeDoneBy_32 : decode cX5_canBeDoneBy 32 = .ok (.iload 5, 2) := by decide +kernel
theorem dX5_canBeDoneBy_34 : decode cX5_canBeDoneBy 34 = .ok (.aload_n 0, 1) := by decide +kernel
theorem dX5_canBeDoneBy_35 : decode cX5_canBeDoneBy 35 = .ok (.getfield 21, 3) := by decide +kernel
theorem dX5_canBeDoneBy_38 : decode cX5_canBeDoneBy 38 = .ok (.getfield 42, 3) := by decide +kernel
theorem dX5_canBeDoneBy_41 : decode cX5_canBeDoneBy 41 = .ok (.if_icmp .ge 58, 3) := by decide +kernel
theorem dX5_canBeDoneBy_44 : decode cX5_canBeDoneBy 44 = .ok (.iload_n 3, 1) := by decide +kernel
theorem dX5_canBeDoneBy_45 : decode cX5_canBeDoneBy 45 = .ok (.iload 5, 2) := by decide +kernel
theorem dX5_canBeDoneBy_47 : decode cX5_canBeDoneBy 47 = .ok (.invokestatic 64, 3) := by decide +kernel
theorem dX5_canBeDoneBy_50 : decode cX5_canBeDoneBy 50 = .ok (.iconst 1, 1) := by decide +kernel
theorem dX5_canBeDoneBy_51 : decode cX5_canBeDoneBy 51 = .ok (.if_icmp .ne 42, 3) := by decide +kernel
theorem dX5_canBeDoneBy_54 : decode cX5_canBeDoneBy 54 = .ok (.aload_n 0, 1) := by decide +kernel
theorem dX5_canBeDoneBy_55 : decode cX5_canBeDoneBy 55 = .ok (.iload 5, 2) := by decide +kernel
theorem dX5_canBeDoneBy_57 : decode cX5_canBeDoneBy 57 = .ok (.iload_n 3, 1) := by decide +kernel
theorem dX5_canBeDoneBy_58 : decode cX5_canBeDoneBy 58 = .ok (.iload_n 1, 1) := by decide +kernel
theorem dX5_canBeDoneBy_59 : decode cX5_canBeDoneBy 59 = .ok (.invokevirtual 67, 3) := by decide +kernel
theorem dX5_canBeDoneBy_62 : decode cX5_canBeDoneBy 62 = .ok (.istore 6, 2) := by decide +kernel
theorem dX5_canBeDoneBy_64 : decode cX5_canBeDoneBy 64 = .ok (.iload 6, 2) := by decide +kernel
theorem dX5_canBeDoneBy_66 : decode cX5_canBeDoneBy 66 = .ok (.aload_n 0, 1) := by decide +kernel
theorem dX5_canBeDoneBy_67 : decode cX5_canBeDoneBy 67 = .ok (.getfield 21, 3) := by decide +kernel
theorem dX5_canBeDoneBy_70 : decode cX5_canBeDoneBy 70 = .ok (.getfield 45, 3) := by decide +kernel
theorem dX5_canBeDoneBy_73 : decode cX5_canBeDoneBy 73 = .ok (.iload 5, 2) := by decide +kernel
theorem dX5_canBeDoneBy_75 : decode cX5_canBeDoneBy 75 = .ok (.iaload, 1) := by decide +kernel
theorem dX5_canBeDoneBy_76 : decode cX5_canBeDoneBy 76 = .ok (.if_icmp .lt 13, 3) := by decide +kernel
theorem dX5_canBeDoneBy_79 : decode cX5_canBeDoneBy 79 = .ok (.iload 4, 2) := by decide +kernel
theorem dX5_canBeDoneBy_81 : decode cX5_canBeDoneBy 81 = .ok (.iload 6, 2) := by decide +kernel
theorem dX5_canBeDoneBy_83 : decode cX5_canBeDoneBy 83 = .ok (.invokestatic 52, 3) := by decide +kernel
theorem dX5_canBeDoneBy_86 : decode cX5_canBeDoneBy 86 = .ok (.goto 5, 3) := by decide +kernel
theorem dX5_canBeDoneBy_89 : decode cX5_canBeDoneBy 89 = .ok (.iload 4, 2) := by decide +kernel
theorem dX5_canBeDoneBy_91 : decode cX5_canBeDoneBy 91 = .ok (.istore 4, 2) := by decide +kernel
theorem dX5_canBeDoneBy_93 : decode cX5_canBeDoneBy 93 = .ok (.iinc 5 1, 3) := by decide +kernel
theorem dX5_canBeDoneBy_96 : decode cX5_canBeDoneBy 96 = .ok (.goto (-64), 3) := by decide +kernel
theorem dX5_canBeDoneBy_99 : decode cX5_canBeDoneBy 99 = .ok (.aload_n 0, 1) := by decide +kernel
theorem dX5_canBeDoneBy_100 : decode cX5_canBeDoneBy 100 = .ok (.getfield 18, 3) := by decide +kernel
theorem dX5_canBeDoneBy_103 : decode cX5_canBeDoneBy 103 = .ok (.iload_n 3, 1) := by decide +kernel
theorem dX5_canBeDoneBy_104 : decode cX5_canBeDoneBy 104 = .ok (.iload 4, 2) := by decide +kernel
theorem dX5_canBeDoneBy_106 : decode cX5_canBeDoneBy 106 = .ok (.iastore, 1) := by decide +kernel
theorem dX5_canBeDoneBy_107 : decode cX5_canBeDoneBy 107 = .ok (.iinc 3 1, 3) := by decide +kernel
theorem dX5_canBeDoneBy_110 : decode cX5_canBeDoneBy 110 = .ok (.goto (-89), 3) := by decide +kernel
theorem dX5_canBeDoneBy_113 : decode cX5_canBeDoneBy 113 = .ok (.aload_n 0, 1) := by decide +kernel
theorem dX5_canBeDoneBy_114 : decode cX5_canBeDoneBy 114 = .ok (.getfield 18, 3) := by decide +kernel
theorem dX5_canBeDoneBy_117 : decode cX5_canBeDoneBy 117 = .ok (.iload_n 2, 1) := by decide +kernel
theorem dX5_canBeDoneBy_118 : decode cX5_canBeDoneBy 118 = .ok (.iaload, 1) := by decide +kernel
theorem dX5_canBeDoneBy_119 : decode cX5_canBeDoneBy 119 = .ok (.iconst (-1), 1) := by decide +kernel
theorem dX5_canBeDoneBy_120 : decode cX5_canBeDoneBy 120 = .ok (.if_icmp .eq 7, 3) := by decide +kernel
theorem dX5_canBeDoneBy_123 : decode cX5_canBeDoneBy 123 = .ok (.iconst 1, 1) := by decide +kernel
theorem dX5_canBeDoneBy_124 : decode cX5_canBeDoneBy 124 = .ok (.goto 4, 3) := by decide +kernel
theorem dX5_canBeDoneBy_127 : decode cX5_canBeDoneBy 127 = .ok (.iconst 0, 1) := by decide +kernel
theorem dX5_canBeDoneBy_128 : decode cX5_canBeDoneBy 128 = .ok (.ireturn, 1) := by decide +kernel
theorem dX5_latestStart_0 : decode cX5_latestStart 0 = .ok (.aload_n 0, 1) := by decide +kernel
theorem dX5_latestStart_1 : decode cX5_latestStart 1 = .ok (.getfield 18, 3) := by decide +kernel
theorem dX5_latestStart_4 : decode cX5_latestStart 4 = .ok (.iload_n 2, 1) := by decide +kernel
theorem dX5_latestStart_5 : decode cX5_latestStart 5 = .ok (.iconst 1, 1) := by decide +kernel
theorem dX5_latestStart_6 : decode cX5_latestStart 6 = .ok (.iload_n 1, 1) := by decide +kernel
theorem dX5_latestStart_7 : decode cX5_latestStart 7 = .ok (.ishl, 1) := by decide +kernel
theorem dX5_latestStart_8 : decode cX5_latestStart 8 = .ok (.iconst (-1), 1) := by decide +kernel
theorem dX5_latestStart_9 : decode cX5_latestStart 9 = .ok (.ixor, 1) := by decide +kernel
theorem dX5_latestStart_10 : decode cX5_latestStart 10 = .ok (.iand, 1) := by decide +kernel
theorem dX5_latestStart_11 : decode cX5_latestStart 11 = .ok (.iaload, 1) := by decide +kernel
theorem dX5_latestStart_12 : decode cX5_latestStart 12 = .ok (.istore 4, 2) := by decide +kernel
theorem dX5_latestStart_14 : decode cX5_latestStart 14 = .ok (.iload 4, 2) := by decide +kernel
theorem dX5_latestStart_16 : decode cX5_latestStart 16 = .ok (.iload_n 3, 1) := by decide +kernel
theorem dX5_latestStart_17 : decode cX5_latestStart 17 = .ok (.aload_n 0, 1) := by decide +kernel
theorem dX5_latestStart_18 : decode cX5_latestStart 18 = .ok (.getfield 21, 3) := by decide +kernel
theorem dX5_latestStart_21 : decode cX5_latestStart 21 = .ok (.getfield 61, 3) := by decide +kernel
theorem dX5_latestStart_24 : decode cX5_latestStart 24 = .ok (.iload_n 1, 1) := by decide +kernel
theorem dX5_latestStart_25 : decode cX5_latestStart 25 = .ok (.iaload, 1) := by decide +kernel
theorem dX5_latestStart_26 : decode cX5_latestStart 26 = .ok (.isub, 1) := by decide +kernel
theorem dX5_latestStart_27 : decode cX5_latestStart 27 = .ok (.invokestatic 71, 3) := by decide +kernel
theorem dX5_latestStart_30 : decode cX5_latestStart 30 = .ok (.aload_n 0, 1) := by decide +kernel
theorem dX5_latestStart_31 : decode cX5_latestStart 31 = .ok (.getfield 21, 3) := by decide +kernel
theorem dX5_latestStart_34 : decode cX5_latestStart 34 = .ok (.getfield 58, 3) := by decide +kernel
theorem dX5_latestStart_37 : decode cX5_latestStart 37 = .ok (.iload_n 1, 1) := by decide +kernel
theorem dX5_latestStart_38 : decode cX5_latestStart 38 = .ok (.iaload, 1) := by decide +kernel
theorem dX5_latestStart_39 : decode cX5_latestStart 39 = .ok (.isub, 1) := by decide +kernel
theorem dX5_latestStart_40 : decode cX5_latestStart 40 = .ok (.ireturn, 1) := by decide +kernel
theorem dX5_takeFirstOrder_0 : decode cX5_takeFirstOrder 0 = .ok (.iconst 1, 1) := by decide +kernel
theorem dX5_takeFirstOrder_1 : decode cX5_takeFirstOrder 1 = .ok (.aload_n 0, 1) := by decide +kernel
theorem dX5_takeFirstOrder_2 : decode cX5_takeFirstOrder 2 = .ok (.getfield 21, 3) := by decide +kernel
theorem dX5_takeFirstOrder_5 : decode cX5_takeFirstOrder 5 = .ok (.getfield 42, 3) := by decide +kernel
theorem dX5_takeFirstOrder_8 : decode cX5_takeFirstOrder 8 = .ok (.ishl, 1) := by decide +kernel
theorem dX5_takeFirstOrder_9 : decode cX5_takeFirstOrder 9 = .ok (.iconst 1, 1) := by decide +kernel
theorem dX5_takeFirstOrder_10 : decode cX5_takeFirstOrder 10 = .ok (.isub, 1) := by decide +kernel
theorem dX5_takeFirstOrder_11 : decode cX5_takeFirstOrder 11 = .ok (.istore_n 1, 1) := by decide +kernel
theorem dX5_takeFirstOrder_12 : decode cX5_takeFirstOrder 12 = .ok (.iconst 0, 1) := by decide +kernel
theorem dX5_takeFirstOrder_13 : decode cX5_takeFirstOrder 13 = .ok (.istore_n 2, 1) := by decide +kernel
theorem dX5_takeFirstOrder_14 : decode cX5_takeFirstOrder 14 = .ok (.iconst 0, 1) := by decide +kernel
theorem dX5_takeFirstOrder_15 : decode cX5_takeFirstOrder 15 = .ok (.istore_n 3, 1) := by decide +kernel
theorem dX5_takeFirstOrder_16 : decode cX5_takeFirstOrder 16 = .ok (.iload_n 3, 1) := by decide +kernel
theorem dX5_takeFirstOrder_17 : decode cX5_takeFirstOrder 17 = .ok (.aload_n 0, 1) := by decide +kernel
theorem dX5_takeFirstOrder_18 : decode cX5_takeFirstOrder 18 = .ok (.getfield 21, 3) := by decide +kernel
theorem dX5_takeFirstOrder_21 : decode cX5_takeFirstOrder 21 = .ok (.getfield 42, 3) := by decide +kernel
theorem dX5_takeFirstOrder_24 : decode cX5_takeFirstOrder 24 = .ok (.if_icmp .ge 81, 3) := by decide +kernel
theorem dX5_takeFirstOrder_27 : decode cX5_takeFirstOrder 27 = .ok (.aload_n 0, 1) := by decide +kernel
theorem dX5_takeFirstOrder_28 : decode cX5_takeFirstOrder 28 = .ok (.iload_n 1, 1) := by decide +kernel
theorem dX5_takeFirstOrder_29 : decode cX5_takeFirstOrder 29 = .ok (.iload_n 2, 1) := by decide +kernel
theorem dX5_takeFirstOrder_30 : decode cX5_takeFirstOrder 30 = .ok (.invokevirtual 74, 3) := by decide +kernel
theorem dX5_takeFirstOrder_33 : decode cX5_takeFirstOrder 33 = .ok (.istore 4, 2) := by decide +kernel
theorem dX5_takeFirstOrder_35 : decode cX5_takeFirstOrder 35 = .ok (.iload 4, 2) := by decide +kernel
theorem dX5_takeFirstOrder_37 : decode cX5_takeFirstOrder 37 = .ok (.iconst (-1), 1) := by decide +kernel
theorem dX5_takeFirstOrder_38 : decode cX5_takeFirstOrder 38 = .ok (.if_icmp .ne 4, 3) := by decide +kernel
theorem dX5_takeFirstOrder_41 : decode cX5_takeFirstOrder 41 = .ok (.return_, 1) := by decide +kernel
theorem dX5_takeFirstOrder_42 : decode cX5_takeFirstOrder 42 = .ok (.aload_n 0, 1) := by decide +kernel
theorem dX5_takeFirstOrder_43 : decode cX5_takeFirstOrder 43 = .ok (.getfield 9, 3) := by decide +kernel
theorem dX5_takeFirstOrder_46 : decode cX5_takeFirstOrder 46 = .ok (.iload_n 3, 1) := by decide +kernel
theorem dX5_takeFirstOrder_47 : decode cX5_takeFirstOrder 47 = .ok (.iload 4, 2) := by decide +kernel
theorem dX5_takeFirstOrder_49 : decode cX5_takeFirstOrder 49 = .ok (.iastore, 1) := by decide +kernel
theorem dX5_takeFirstOrder_50 : decode cX5_takeFirstOrder 50 = .ok (.aload_n 0, 1) := by decide +kernel
theorem dX5_takeFirstOrder_51 : decode cX5_takeFirstOrder 51 = .ok (.getfield 15, 3) := by decide +kernel
theorem dX5_takeFirstOrder_54 : decode cX5_takeFirstOrder 54 = .ok (.iload 4, 2) := by decide +kernel
theorem dX5_takeFirstOrder_56 : decode cX5_takeFirstOrder 56 = .ok (.iload_n 2, 1) := by decide +kernel
theorem dX5_takeFirstOrder_57 : decode cX5_takeFirstOrder 57 = .ok (.aload_n 0, 1) := by decide +kernel
theorem dX5_takeFirstOrder_58 : decode cX5_takeFirstOrder 58 = .ok (.getfield 21, 3) := by decide +kernel
theorem dX5_takeFirstOrder_61 : decode cX5_takeFirstOrder 61 = .ok (.getfield 45, 3) := by decide +kernel
theorem dX5_takeFirstOrder_64 : decode cX5_takeFirstOrder 64 = .ok (.iload 4, 2) := by decide +kernel
theorem dX5_takeFirstOrder_66 : decode cX5_takeFirstOrder 66 = .ok (.iaload, 1) := by decide +kernel
theorem dX5_takeFirstOrder_67 : decode cX5_takeFirstOrder 67 = .ok (.invokestatic 52, 3) := by decide +kernel
theorem dX5_takeFirstOrder_70 : decode cX5_takeFirstOrder 70 = .ok (.iastore, 1) := by decide +kernel
theorem dX5_takeFirstOrder_71 : decode cX5_takeFirstOrder 71 = .ok (.aload_n 0, 1) := by decide +kernel
theorem dX5_takeFirstOrder_72 : decode cX5_takeFirstOrder 72 = .ok (.getfield 15, 3) := by decide +kernel
theorem dX5_takeFirstOrder_75 : decode cX5_takeFirstOrder 75 = .ok (.iload 4, 2) := by decide +kernel
theorem dX5_takeFirstOrder_77 : decode cX5_takeFirstOrder 77 = .ok (.iaload, 1) := by decide +kernel
theorem dX5_takeFirstOrder_78 : decode cX5_takeFirstOrder 78 = .ok (.aload_n 0, 1) := by decide +kernel
theorem dX5_takeFirstOrder_79 : decode cX5_takeFirstOrder 79 = .ok (.getfield 21, 3) := by decide +kernel
theorem dX5_takeFirstOrder_82 : decode cX5_takeFirstOrder 82 = .ok (.getfield 58, 3) := by decide +kernel
theorem dX5_takeFirstOrder_85 : decode cX5_takeFirstOrder 85 = .ok (.iload 4, 2) := by decide +kernel
theorem dX5_takeFirstOrder_87 : decode cX5_takeFirstOrder 87 = .ok (.iaload, 1) := by decide +kernel
theorem dX5_takeFirstOrder_88 : decode cX5_takeFirstOrder 88 = .ok (.iadd, 1) := by decide +kernel
theorem dX5_takeFirstOrder_89 : decode cX5_takeFirstOrder 89 = .ok (.istore_n 2, 1) := by decide +kernel
theorem dX5_takeFirstOrder_90 : decode cX5_takeFirstOrder 90 = .ok (.iload_n 1, 1) := by decide +kernel
theorem dX5_takeFirstOrder_91 : decode cX5_takeFirstOrder 91 = .ok (.iconst 1, 1) := by decide +kernel
theorem dX5_takeFirstOrder_92 : decode cX5_takeFirstOrder 92 = .ok (.iload 4, 2) := by decide +kernel
theorem dX5_takeFirstOrder_94 : decode cX5_takeFirstOrder 94 = .ok (.ishl, 1) := by decide +kernel
theorem dX5_takeFirstOrder_95 : decode cX5_takeFirstOrder 95 = .ok (.iconst (-1), 1) := by decide +kernel
theorem dX5_takeFirstOrder_96 : decode cX5_takeFirstOrder 96 = .ok (.ixor, 1) := by decide +kernel
theorem dX5_takeFirstOrder_97 : decode cX5_takeFirstOrder 97 = .ok (.iand, 1) := by decide +kernel
theorem dX5_takeFirstOrder_98 : decode cX5_takeFirstOrder 98 = .ok (.istore_n 1, 1) := by decide +kernel
theorem dX5_takeFirstOrder_99 : decode cX5_takeFirstOrder 99 = .ok (.iinc 3 1, 3) := by decide +kernel
theorem dX5_takeFirstOrder_102 : decode cX5_takeFirstOrder 102 = .ok (.goto (-86), 3) := by decide +kernel
theorem dX5_takeFirstOrder_105 : decode cX5_takeFirstOrder 105 = .ok (.return_, 1) := by decide +kernel
theorem dX5_firstInTime_0 : decode cX5_firstInTime 0 = .ok (.iconst 0, 1) := by decide +kernel
theorem dX5_firstInTime_1 : decode cX5_firstInTime 1 = .ok (.istore_n 3, 1) := by decide +kernel
theorem dX5_firstInTime_2 : decode cX5_firstInTime 2 = .ok (.iload_n 3, 1) := by decide +kernel
theorem dX5_firstInTime_3 : decode cX5_firstInTime 3 = .ok (.aload_n 0, 1) := by decide +kernel
theorem dX5_firstInTime_4 : decode cX5_firstInTime 4 = .ok (.getfield 21, 3) := by decide +kernel
theorem dX5_firstInTime_7 : decode cX5_firstInTime 7 = .ok (.getfield 42, 3) := by decide +kernel
theorem dX5_firstInTime_10 : decode cX5_firstInTime 10 = .ok (.if_icmp .ge 46, 3) := by decide +kernel
theorem dX5_firstInTime_13 : decode cX5_firstInTime 13 = .ok (.iload_n 1, 1) := by decide +kernel
theorem dX5_firstInTime_14 : decode cX5_firstInTime 14 = .ok (.iload_n 3, 1) := by decide +kernel
theorem dX5_firstInTime_15 : decode cX5_firstInTime 15 = .ok (.invokestatic 64, 3) := by decide +kernel
theorem dX5_firstInTime_18 : decode cX5_firstInTime 18 = .ok (.iconst 1, 1) := by decide +kernel
theorem dX5_firstInTime_19 : decode cX5_firstInTime 19 = .ok (.if_icmp .ne 31, 3) := by decide +kernel
theorem dX5_firstInTime_22 : decode cX5_firstInTime 22 = .ok (.iload_n 2, 1) := by decide +kernel
theorem dX5_firstInTime_23 : decode cX5_firstInTime 23 = .ok (.aload_n 0, 1) := by decide +kernel
theorem dX5_firstInTime_24 : decode cX5_firstInTime 24 = .ok (.getfield 21, 3) := by decide +kernel
theorem dX5_firstInTime_27 : decode cX5_firstInTime 27 = .ok (.getfield 45, 3) := by decide +kernel
theorem dX5_firstInTime_30 : decode cX5_firstInTime 30 = .ok (.iload_n 3, 1) := by decide +kernel
theorem dX5_firstInTime_31 : decode cX5_firstInTime 31 = .ok (.iaload, 1) := by decide +kernel
theorem dX5_firstInTime_32 : decode cX5_firstInTime 32 = .ok (.invokestatic 52, 3) := by decide +kernel
theorem dX5_firstInTime_35 : decode cX5_firstInTime 35 = .ok (.aload_n 0, 1) := by decide +kernel
theorem dX5_firstInTime_36 : decode cX5_firstInTime 36 = .ok (.iload_n 3, 1) := by decide +kernel
theorem dX5_firstInTime_37 : decode cX5_firstInTime 37 = .ok (.iload_n 1, 1) := by decide +kernel
theorem dX5_firstInTime_38 : decode cX5_firstInTime 38 = .ok (.aload_n 0, 1) := by decide +kernel
theorem dX5_firstInTime_39 : decode cX5_firstInTime 39 = .ok (.getfield 35, 3) := by decide +kernel
theorem dX5_firstInTime_42 : decode cX5_firstInTime 42 = .ok (.invokevirtual 67, 3) := by decide +kernel
theorem dX5_firstInTime_45 : decode cX5_firstInTime 45 = .ok (.if_icmp .gt 5, 3) := by decide +kernel
theorem dX5_firstInTime_48 : decode cX5_firstInTime 48 = .ok (.iload_n 3, 1) := by decide +kernel
theorem dX5_firstInTime_49 : decode cX5_firstInTime 49 = .ok (.ireturn, 1) := by decide +kernel
theorem dX5_firstInTime_50 : decode cX5_firstInTime 50 = .ok (.iinc 3 1, 3) := by decide +kernel
theorem dX5_firstInTime_53 : decode cX5_firstInTime 53 = .ok (.goto (-51), 3) := by decide +kernel
theorem dX5_firstInTime_56 : decode cX5_firstInTime 56 = .ok (.iconst (-1), 1) := by decide +kernel
theorem dX5_firstInTime_57 : decode cX5_firstInTime 57 = .ok (.ireturn, 1) := by decide +kernel
theorem dX6_init_0 : decode cX6_init 0 = .ok (.aload_n 0, 1) := by decide +kernel
theorem dX6_init_1 : decode cX6_init 1 = .ok (.invokespecial 3, 3) := by decide +kernel
theorem dX6_init_4 : decode cX6_init 4 = .ok (.aload_n 0, 1) := by decide +kernel
theorem dX6_init_5 : decode cX6_init 5 = .ok (.bipush 10, 2) := by decide +kernel
theorem dX6_init_7 : decode cX6_init 7 = .ok (.newarray .int, 2) := by decide +kernel
theorem dX6_init_9 : decode cX6_init 9 = .ok (.putfield 9, 3) := by decide +kernel
theorem dX6_init_12 : decode cX6_init 12 = .ok (.aload_n 0, 1) := by decide +kernel
theorem dX6_init_13 : decode cX6_init 13 = .ok (.bipush 10, 2) := by decide +kernel
theorem dX6_init_15 : decode cX6_init 15 = .ok (.newarray .int, 2) := by decide +kernel
theorem dX6_init_17 : decode cX6_init 17 = .ok (.putfield 15, 3) := by decide +kernel
theorem dX6_init_20 : decode cX6_init 20 = .ok (.return_, 1) := by decide +kernel
theorem dX6_pages_0 : decode cX6_pages 0 = .ok (.iconst 0, 1) := by decide +kernel
theorem dX6_pages_1 : decode cX6_pages 1 = .ok (.istore_n 1, 1) := by decide +kernel
theorem dX6_pages_2 : decode cX6_pages 2 = .ok (.iconst 0, 1) := by decide +kernel
theorem dX6_pages_3 : decode cX6_pages 3 = .ok (.istore_n 2, 1) := by decide +kernel
theorem dX6_pages_4 : decode cX6_pages 4 = .ok (.iload_n 2, 1) := by decide +kernel
theorem dX6_pages_5 : decode cX6_pages 5 = .ok (.bipush 10, 2) := by decide +kernel
theorem dX6_pages_7 : decode cX6_pages 7 = .ok (.if_icmp .ge 26, 3) := by decide +kernel
theorem dX6_pages_10 : decode cX6_pages 10 = .ok (.iload_n 1, 1) := by decide +kernel
theorem dX6_pages_11 : decode cX6_pages 11 = .ok (.aload_n 0, 1) := by decide +kernel
theorem dX6_pages_12 : decode cX6_pages 12 = .ok (.getfield 9, 3) := by decide +kernel
theorem dX6_pages_15 : decode cX6_pages 15 = .ok (.iload_n 2, 1) := by decide +kernel
theorem dX6_pages_16 : decode cX6_pages 16 = .ok (.iaload, 1) := by decide +kernel
theorem dX6_pages_17 : decode cX6_pages 17 = .ok (.ifCond .eq 7, 3) := by decide +kernel
theorem dX6_pages_20 : decode cX6_pages 20 = .ok (.iconst 1, 1) := by decide +kernel
theorem dX6_pages_21 : decode cX6_pages 21 = .ok (.goto 4, 3) := by decide +kernel
theorem dX6_pages_24 : decode cX6_pages 24 = .ok (.iconst 0, 1) := by decide +kernel
theorem dX6_pages_25 : decode cX6_pages 25 = .ok (.iadd, 1) := by decide +kernel
theorem dX6_pages_26 : decode cX6_pages 26 = .ok (.istore_n 1, 1) := by decide +kernel
theorem dX6_pages_27 : decode cX6_pages 27 = .ok (.iinc 2 1, 3) := by decide +kernel
theorem dX6_pages_30 : decode cX6_pages 30 = .ok (.goto (-26), 3) := by decide +kernel
theorem dX6_pages_33 : decode cX6_pages 33 = .ok (.iload_n 1, 1) := by decide +kernel
theorem dX6_pages_34 : decode cX6_pages 34 = .ok (.ireturn, 1) := by decide +kernel
theorem dX6_waysInAll_0 : decode cX6_waysInAll 0 = .ok (.iconst 0, 1) := by decide +kernel
theorem dX6_waysInAll_1 : decode cX6_waysInAll 1 = .ok (.aload_n 0, 1) := by decide +kernel
theorem dX6_waysInAll_2 : decode cX6_waysInAll 2 = .ok (.aload_n 1, 1) := by decide +kernel
theorem dX6_waysInAll_3 : decode cX6_waysInAll 3 = .ok (.iload_n 2, 1) := by decide +kernel
theorem dX6_waysInAll_4 : decode cX6_waysInAll 4 = .ok (.iconst (-1), 1) := by decide +kernel
theorem dX6_waysInAll_5 : decode cX6_waysInAll 5 = .ok (.invokevirtual 18, 3) := by decide +kernel
theorem dX6_waysInAll_8 : decode cX6_waysInAll 8 = .ok (.aload_n 1, 1) := by decide +kernel
theorem dX6_waysInAll_9 : decode cX6_waysInAll 9 = .ok (.iload_n 2, 1) := by decide +kernel
theorem dX6_waysInAll_10 : decode cX6_waysInAll 10 = .ok (.invokestatic 22, 3) := by decide +kernel
theorem dX6_waysInAll_13 : decode cX6_waysInAll 13 = .ok (.ireturn, 1) := by decide +kernel
theorem dX6_onlyRoomOf_0 : decode cX6_onlyRoomOf 0 = .ok (.iconst (-1), 1) := by decide +kernel
theorem dX6_onlyRoomOf_1 : decode cX6_onlyRoomOf 1 = .ok (.istore 4, 2) := by decide +kernel
theorem dX6_onlyRoomOf_3 : decode cX6_onlyRoomOf 3 = .ok (.aload_n 0, 1) := by decide +kernel
theorem dX6_onlyRoomOf_4 : decode cX6_onlyRoomOf 4 = .ok (.aload_n 2, 1) := by decide +kernel
theorem dX6_onlyRoomOf_5 : decode cX6_onlyRoomOf 5 = .ok (.iload_n 3, 1) := by decide +kernel
theorem dX6_onlyRoomOf_6 : decode cX6_onlyRoomOf 6 = .ok (.iload_n 1, 1) := by decide +kernel
theorem dX6_onlyRoomOf_7 : decode cX6_onlyRoomOf 7 = .ok (.invokevirtual 18, 3) := by decide +kernel
theorem dX6_onlyRoomOf_10 : decode cX6_onlyRoomOf 10 = .ok (.istore 5, 2) := by decide +kernel
theorem dX6_onlyRoomOf_12 : decode cX6_onlyRoomOf 12 = .ok (.iconst 0, 1) := by decide +kernel
theorem dX6_onlyRoomOf_13 : decode cX6_onlyRoomOf 13 = .ok (.istore 6, 2) := by decide +kernel
theorem dX6_onlyRoomOf_15 : decode cX6_onlyRoomOf 15 = .ok (.iload 6, 2) := by decide +kernel
theorem dX6_onlyRoomOf_17 : decode cX6_onlyRoomOf 17 = .ok (.iload_n 3, 1) := by decide +kernel
theorem dX6_onlyRoomOf_18 : decode cX6_onlyRoomOf 18 = .ok (.if_icmp .ge 50, 3) := by decide +kernel
theorem dX6_onlyRoomOf_21 : decode cX6_onlyRoomOf 21 = .ok (.aload_n 0, 1) := by decide +kernel
theorem dX6_onlyRoomOf_22 : decode cX6_onlyRoomOf 22 = .ok (.getfield 9, 3) := by decide +kernel
theorem dX6_onlyRoomOf_25 : decode cX6_onlyRoomOf 25 = .ok (.iload_n 1, 1) := by decide +kernel
theorem dX6_onlyRoomOf_26 : decode cX6_onlyRoomOf 26 = .ok (.iaload, 1) := by decide +kernel
theorem dX6_onlyRoomOf_27 : decode cX6_onlyRoomOf 27 = .ok (.iload 6, 2) := by decide +kernel
theorem dX6_onlyRoomOf_29 : decode cX6_onlyRoomOf 29 = .ok (.invokestatic 26, 3) := by decide +kernel
theorem dX6_onlyRoomOf_32 : decode cX6_onlyRoomOf 32 = .ok (.iconst 1, 1) := by decide +kernel
theorem dX6_onlyRoomOf_33 : decode cX6_onlyRoomOf 33 = .ok (.if_icmp .ne 29, 3) := by decide +kernel
theorem dX6_onlyRoomOf_36 : decode cX6_onlyRoomOf 36 = .ok (.iconst 1, 1) := by decide +kernel
theorem dX6_onlyRoomOf_37 : decode cX6_onlyRoomOf 37 = .ok (.iload 6, 2) := by decide +kernel
theorem dX6_onlyRoomOf_39 : decode cX6_onlyRoomOf 39 = .ok (.ishl, 1) := by decide +kernel
theorem dX6_onlyRoomOf_40 : decode cX6_onlyRoomOf 40 = .ok (.iload 5, 2) := by decide +kernel
theorem dX6_onlyRoomOf_42 : decode cX6_onlyRoomOf 42 = .ok (.aload_n 2, 1) := by decide +kernel
theorem dX6_onlyRoomOf_43 : decode cX6_onlyRoomOf 43 = .ok (.iload_n 3, 1) := by decide +kernel
theorem dX6_onlyRoomOf_44 : decode cX6_onlyRoomOf 44 = .ok (.invokestatic 22, 3) := by decide +kernel
theorem dX6_onlyRoomOf_47 : decode cX6_onlyRoomOf 47 = .ok (.ifCond .le 15, 3) := by decide +kernel
theorem dX6_onlyRoomOf_50 : decode cX6_onlyRoomOf 50 = .ok (.iload 4, 2) := by decide +kernel
theorem dX6_onlyRoomOf_52 : decode cX6_onlyRoomOf 52 = .ok (.iconst (-1), 1) := by decide +kernel
theorem dX6_onlyRoomOf_53 : decode cX6_onlyRoomOf 53 = .ok (.if_icmp .eq 5, 3) := by decide +kernel
theorem dX6_onlyRoomOf_56 : decode cX6_onlyRoomOf 56 = .ok (.iconst (-1), 1) := by decide +kernel
theorem dX6_onlyRoomOf_57 : decode cX6_onlyRoomOf 57 = .ok (.ireturn, 1) := by decide +kernel
theorem dX6_onlyRoomOf_58 : decode cX6_onlyRoomOf 58 = .ok (.iload 6, 2) := by decide +kernel
theorem dX6_onlyRoomOf_60 : decode cX6_onlyRoomOf 60 = .ok (.istore 4, 2) := by decide +kernel
theorem dX6_onlyRoomOf_62 : decode cX6_onlyRoomOf 62 = .ok (.iinc 6 1, 3) := by decide +kernel
theorem dX6_onlyRoomOf_65 : decode cX6_onlyRoomOf 65 = .ok (.goto (-50), 3) := by decide +kernel
theorem dX6_onlyRoomOf_68 : decode cX6_onlyRoomOf 68 = .ok (.iload 4, 2) := by decide +kernel
theorem dX6_onlyRoomOf_70 : decode cX6_onlyRoomOf 70 = .ok (.ireturn, 1) := by decide +kernel
theorem dX6_fillRow_0 : decode cX6_fillRow 0 = .ok (.iconst 0, 1) := by decide +kernel
theorem dX6_fillRow_1 : decode cX6_fillRow 1 = .ok (.istore 4, 2) := by decide +kernel
theorem dX6_fillRow_3 : decode cX6_fillRow 3 = .ok (.iconst 0, 1) := by decide +kernel
theorem dX6_fillRow_4 : decode cX6_fillRow 4 = .ok (.istore 5, 2) := by decide +kernel
theorem dX6_fillRow_6 : decode cX6_fillRow 6 = .ok (.iload 5, 2) := by decide +kernel
theorem dX6_fillRow_8 : decode cX6_fillRow 8 = .ok (.bipush 10, 2) := by decide +kernel
theorem dX6_fillRow_10 : decode cX6_fillRow 10 = .ok (.if_icmp .ge 42, 3) := by decide +kernel
theorem dX6_fillRow_13 : decode cX6_fillRow 13 = .ok (.aload_n 0, 1) := by decide +kernel
theorem dX6_fillRow_14 : decode cX6_fillRow 14 = .ok (.getfield 9, 3) := by decide +kernel
theorem dX6_fillRow_17 : decode cX6_fillRow 17 = .ok (.iload 5, 2) := by decide +kernel
theorem dX6_fillRow_19 : decode cX6_fillRow 19 = .ok (.iaload, 1) := by decide +kernel
theorem dX6_fillRow_20 : decode cX6_fillRow 20 = .ok (.ifCond .eq 26, 3) := by decide +kernel
theorem dX6_fillRow_23 : decode cX6_fillRow 23 = .ok (.iload 5, 2) := by decide +kernel
theorem dX6_fillRow_25 : decode cX6_fillRow 25 = .ok (.iload_n 3, 1) := by decide +kernel
theorem dX6_fillRow_26 : decode cX6_fillRow 26 = .ok (.if_icmp .eq 20, 3) := by decide +kernel
theorem dX6_fillRow_29 : decode cX6_fillRow 29 = .ok (.aload_n 0, 1) := by decide +kernel
theorem dX6_fillRow_30 : decode cX6_fillRow 30 = .ok (.getfield 15, 3) := by decide +kernel
theorem dX6_fillRow_33 : decode cX6_fillRow 33 = .ok (.iload 4, 2) := by decide +kernel
theorem dX6_fillRow_35 : decode cX6_fillRow 35 = .ok (.aload_n 0, 1) := by decide +kernel
theorem dX6_fillRow_36 : decode cX6_fillRow 36 = .ok (.getfield 9, 3) := by decide +kernel
theorem dX6_fillRow_39 : decode cX6_fillRow 39 = .ok (.iload 5, 2) := by decide +kernel
theorem dX6_fillRow_41 : decode cX6_fillRow 41 = .ok (.iaload, 1) := by decide +kernel
theorem dX6_fillRow_42 : decode cX6_fillRow 42 = .ok (.iastore, 1) := by decide +kernel
theorem dX6_fillRow_43 : decode cX6_fillRow 43 = .ok (.iinc 4 1, 3) := by decide +kernel
theorem dX6_fillRow_46 : decode cX6_fillRow 46 = .ok (.iinc 5 1, 3) := by decide +kernel
theorem dX6_fillRow_49 : decode cX6_fillRow 49 = .ok (.goto (-43), 3) := by decide +kernel
theorem dX6_fillRow_52 : decode cX6_fillRow 52 = .ok (.aload_n 1, 1) := by decide +kernel
theorem dX6_fillRow_53 : decode cX6_fillRow 53 = .ok (.iconst 0, 1) := by decide +kernel
theorem dX6_fillRow_54 : decode cX6_fillRow 54 = .ok (.invokestatic 30, 3) := by decide +kernel
theorem dX6_fillRow_57 : decode cX6_fillRow 57 = .ok (.aload_n 1, 1) := by decide +kernel
theorem dX6_fillRow_58 : decode cX6_fillRow 58 = .ok (.iconst 0, 1) := by decide +kernel
theorem dX6_fillRow_59 : decode cX6_fillRow 59 = .ok (.iconst 1, 1) := by decide +kernel
theorem dX6_fillRow_60 : decode cX6_fillRow 60 = .ok (.iastore, 1) := by decide +kernel
theorem dX6_fillRow_61 : decode cX6_fillRow 61 = .ok (.iconst 0, 1) := by decide +kernel
theorem dX6_fillRow_62 : decode cX6_fillRow 62 = .ok (.istore 5, 2) := by decide +kernel
theorem dX6_fillRow_64 : decode cX6_fillRow 64 = .ok (.iload 5, 2) := by decide +kernel
theorem dX6_fillRow_66 : decode cX6_fillRow 66 = .ok (.iconst 1, 1) := by decide +kernel
theorem dX6_fillRow_67 : decode cX6_fillRow 67 = .ok (.iload_n 2, 1) := by decide +kernel
theorem dX6_fillRow_68 : decode cX6_fillRow 68 = .ok (.ishl, 1) := by decide +kernel
theorem dX6_fillRow_69 : decode cX6_fillRow 69 = .ok (.if_icmp .ge 44, 3) := by decide +kernel
theorem dX6_fillRow_72 : decode cX6_fillRow 72 = .ok (.iload 5, 2) := by decide +kernel
theorem dX6_fillRow_74 : decode cX6_fillRow 74 = .ok (.invokestatic 36, 3) := by decide +kernel
theorem dX6_fillRow_77 : decode cX6_fillRow 77 = .ok (.istore 6, 2) := by decide +kernel
theorem dX6_fillRow_79 : decode cX6_fillRow 79 = .ok (.aload_n 1, 1) := by decide +kernel
theorem dX6_fillRow_80 : decode cX6_fillRow 80 = .ok (.iload 5, 2) := by decide +kernel
theorem dX6_fillRow_82 : decode cX6_fillRow 82 = .ok (.iaload, 1) := by decide +kernel
theorem dX6_fillRow_83 : decode cX6_fillRow 83 = .ok (.ifCond .le 24, 3) := by decide +kernel
theorem dX6_fillRow_86 : decode cX6_fillRow 86 = .ok (.iload 6, 2) := by decide +kernel
theorem dX6_fillRow_88 : decode cX6_fillRow 88 = .ok (.iload 4, 2) := by decide +kernel
theorem dX6_fillRow_90 : decode cX6_fillRow 90 = .ok (.if_icmp .ge 17, 3) := by decide +kernel
theorem dX6_fillRow_93 : decode cX6_fillRow 93 = .ok (.aload_n 1, 1) := by decide +kernel
theorem dX6_fillRow_94 : decode cX6_fillRow 94 = .ok (.iload 5, 2) := by decide +kernel
theorem dX6_fillRow_96 : decode cX6_fillRow 96 = .ok (.aload_n 0, 1) := by decide +kernel
theorem dX6_fillRow_97 : decode cX6_fillRow 97 = .ok (.getfield 15, 3) := by decide +kernel
theorem dX6_fillRow_100 : decode cX6_fillRow 100 = .ok (.iload 6, 2) := by decide +kernel
theorem dX6_fillRow_102 : decode cX6_fillRow 102 = .ok (.iaload, 1) := by decide +kernel
theorem dX6_fillRow_103 : decode cX6_fillRow 103 = .ok (.iload_n 2, 1) := by decide +kernel
theorem dX6_fillRow_104 : decode cX6_fillRow 104 = .ok (.invokestatic 42, 3) := by decide +kernel
theorem dX6_fillRow_107 : decode cX6_fillRow 107 = .ok (.iinc 5 1, 3) := by decide +kernel
theorem dX6_fillRow_110 : decode cX6_fillRow 110 = .ok (.goto (-46), 3) := by decide +kernel
theorem dX6_fillRow_113 : decode cX6_fillRow 113 = .ok (.iload 4, 2) := by decide +kernel
theorem dX6_fillRow_115 : decode cX6_fillRow 115 = .ok (.ireturn, 1) := by decide +kernel
theorem dX6_placeNext_0 : decode cX6_placeNext 0 = .ok (.iconst 0, 1) := by decide +kernel
theorem dX6_placeNext_1 : decode cX6_placeNext 1 = .ok (.istore 4, 2) := by decide +kernel
theorem dX6_placeNext_3 : decode cX6_placeNext 3 = .ok (.iload 4, 2) := by decide +kernel
theorem dX6_placeNext_5 : decode cX6_placeNext 5 = .ok (.iload_n 3, 1) := by decide +kernel
theorem dX6_placeNext_6 : decode cX6_placeNext 6 = .ok (.if_icmp .ge 37, 3) := by decide +kernel
theorem dX6_placeNext_9 : decode cX6_placeNext 9 = .ok (.iload_n 2, 1) := by decide +kernel
theorem dX6_placeNext_10 : decode cX6_placeNext 10 = .ok (.iload_n 1, 1) := by decide +kernel
theorem dX6_placeNext_11 : decode cX6_placeNext 11 = .ok (.iconst (-1), 1) := by decide +kernel
theorem dX6_placeNext_12 : decode cX6_placeNext 12 = .ok (.ixor, 1) := by decide +kernel
theorem dX6_placeNext_13 : decode cX6_placeNext 13 = .ok (.iand, 1) := by decide +kernel
theorem dX6_placeNext_14 : decode cX6_placeNext 14 = .ok (.iload 4, 2) := by decide +kernel
theorem dX6_placeNext_16 : decode cX6_placeNext 16 = .ok (.invokestatic 26, 3) := by decide +kernel
theorem dX6_placeNext_19 : decode cX6_placeNext 19 = .ok (.iconst 1, 1) := by decide +kernel
theorem dX6_placeNext_20 : decode cX6_placeNext 20 = .ok (.if_icmp .ne 17, 3) := by decide +kernel
theorem dX6_placeNext_23 : decode cX6_placeNext 23 = .ok (.aload_n 0, 1) := by decide +kernel
theorem dX6_placeNext_24 : decode cX6_placeNext 24 = .ok (.iload_n 1, 1) := by decide +kernel
theorem dX6_placeNext_25 : decode cX6_placeNext 25 = .ok (.iconst 1, 1) := by decide +kernel
theorem dX6_placeNext_26 : decode cX6_placeNext 26 = .ok (.iload 4, 2) := by decide +kernel
theorem dX6_placeNext_28 : decode cX6_placeNext 28 = .ok (.ishl, 1) := by decide +kernel
theorem dX6_placeNext_29 : decode cX6_placeNext 29 = .ok (.ior, 1) := by decide +kernel
theorem dX6_placeNext_30 : decode cX6_placeNext 30 = .ok (.dup2, 1) := by decide +kernel
theorem dX6_placeNext_31 : decode cX6_placeNext 31 = .ok (.iaload, 1) := by decide +kernel
theorem dX6_placeNext_32 : decode cX6_placeNext 32 = .ok (.aload_n 0, 1) := by decide +kernel
theorem dX6_placeNext_33 : decode cX6_placeNext 33 = .ok (.iload_n 1, 1) := by decide +kernel
theorem dX6_placeNext_34 : decode cX6_placeNext 34 = .ok (.iaload, 1) := by decide +kernel
theorem dX6_placeNext_35 : decode cX6_placeNext 35 = .ok (.iadd, 1) := by decide +kernel
theorem dX6_placeNext_36 : decode cX6_placeNext 36 = .ok (.iastore, 1) := by decide +kernel
theorem dX6_placeNext_37 : decode cX6_placeNext 37 = .ok (.iinc 4 1, 3) := by decide +kernel
theorem dX6_placeNext_40 : decode cX6_placeNext 40 = .ok (.goto (-37), 3) := by decide +kernel
theorem dX6_placeNext_43 : decode cX6_placeNext 43 = .ok (.return_, 1) := by decide +kernel
theorem dX6_waysBeside_0 : decode cX6_waysBeside 0 = .ok (.iconst 0, 1) := by decide +kernel
theorem dX6_waysBeside_1 : decode cX6_waysBeside 1 = .ok (.istore 4, 2) := by decide +kernel
theorem dX6_waysBeside_3 : decode cX6_waysBeside 3 = .ok (.iconst 0, 1) := by decide +kernel
theorem dX6_waysBeside_4 : decode cX6_waysBeside 4 = .ok (.istore 5, 2) := by decide +kernel
theorem dX6_waysBeside_6 : decode cX6_waysBeside 6 = .ok (.iload 5, 2) := by decide +kernel
theorem dX6_waysBeside_8 : decode cX6_waysBeside 8 = .ok (.iconst 1, 1) := by decide +kernel
theorem dX6_waysBeside_9 : decode cX6_waysBeside 9 = .ok (.iload_n 3, 1) := by decide +kernel
theorem dX6_waysBeside_10 : decode cX6_waysBeside 10 = .ok (.ishl, 1) := by decide +kernel
theorem dX6_waysBeside_11 : decode cX6_waysBeside 11 = .ok (.if_icmp .ge 34, 3) := by decide +kernel
theorem dX6_waysBeside_14 : decode cX6_waysBeside 14 = .ok (.iload 5, 2) := by decide +kernel
theorem dX6_waysBeside_16 : decode cX6_waysBeside 16 = .ok (.invokestatic 36, 3) := by decide +kernel
theorem dX6_waysBeside_19 : decode cX6_waysBeside 19 = .ok (.iload_n 1, 1) := by decide +kernel
theorem dX6_waysBeside_20 : decode cX6_waysBeside 20 = .ok (.if_icmp .ne 19, 3) := by decide +kernel
theorem dX6_waysBeside_23 : decode cX6_waysBeside 23 = .ok (.iload 5, 2) := by decide +kernel
theorem dX6_waysBeside_25 : decode cX6_waysBeside 25 = .ok (.iload_n 0, 1) := by decide +kernel
theorem dX6_waysBeside_26 : decode cX6_waysBeside 26 = .ok (.iand, 1) := by decide +kernel
theorem dX6_waysBeside_27 : decode cX6_waysBeside 27 = .ok (.ifCond .ne 12, 3) := by decide +kernel
theorem dX6_waysBeside_30 : decode cX6_waysBeside 30 = .ok (.iload 4, 2) := by decide +kernel
theorem dX6_waysBeside_32 : decode cX6_waysBeside 32 = .ok (.aload_n 2, 1) := by decide +kernel
theorem dX6_waysBeside_33 : decode cX6_waysBeside 33 = .ok (.iload 5, 2) := by decide +kernel
theorem dX6_waysBeside_35 : decode cX6_waysBeside 35 = .ok (.iaload, 1) := by decide +kernel
theorem dX6_waysBeside_36 : decode cX6_waysBeside 36 = .ok (.iadd, 1) := by decide +kernel
theorem dX6_waysBeside_37 : decode cX6_waysBeside 37 = .ok (.istore 4, 2) := by decide +kernel
theorem dX6_waysBeside_39 : decode cX6_waysBeside 39 = .ok (.iinc 5 1, 3) := by decide +kernel
theorem dX6_waysBeside_42 : decode cX6_waysBeside 42 = .ok (.goto (-36), 3) := by decide +kernel
theorem dX6_waysBeside_45 : decode cX6_waysBeside 45 = .ok (.iload 4, 2) := by decide +kernel
theorem dX6_waysBeside_47 : decode cX6_waysBeside 47 = .ok (.ireturn, 1) := by decide +kernel
theorem dX7_init_0 : decode cX7_init 0 = .ok (.aload_n 0, 1) := by decide +kernel
theorem dX7_init_1 : decode cX7_init 1 = .ok (.invokespecial 1, 3) := by decide +kernel
theorem dX7_init_4 : decode cX7_init 4 = .ok (.aload_n 0, 1) := by decide +kernel
theorem dX7_init_5 : decode cX7_init 5 = .ok (.bipush 32, 2) := by decide +kernel
theorem dX7_init_7 : decode cX7_init 7 = .ok (.newarray .int, 2) := by decide +kernel
theorem dX7_init_9 : decode cX7_init 9 = .ok (.putfield 9, 3) := by decide +kernel
theorem dX7_init_12 : decode cX7_init 12 = .ok (.aload_n 0, 1) := by decide +kernel
theorem dX7_init_13 : decode cX7_init 13 = .ok (.bipush 8, 2) := by decide +kernel
theorem dX7_init_15 : decode cX7_init 15 = .ok (.newarray .int, 2) := by decide +kernel
theorem dX7_init_17 : decode cX7_init 17 = .ok (.putfield 15, 3) := by decide +kernel
theorem dX7_init_20 : decode cX7_init 20 = .ok (.return_, 1) := by decide +kernel
theorem dX7_value_0 : decode cX7_value 0 = .ok (.aload_n 3, 1) := by decide +kernel
theorem dX7_value_1 : decode cX7_value 1 = .ok (.getfield 18, 3) := by decide +kernel
theorem dX7_value_4 : decode cX7_value 4 = .ok (.iload 4, 2) := by decide +kernel
theorem dX7_value_6 : decode cX7_value 6 = .ok (.iaload, 1) := by decide +kernel
theorem dX7_value_7 : decode cX7_value 7 = .ok (.istore 6, 2) := by decide +kernel
theorem dX7_value_9 : decode cX7_value 9 = .ok (.aload_n 0, 1) := by decide +kernel
theorem dX7_value_10 : decode cX7_value 10 = .ok (.sipush 10000, 3) := by decide +kernel
theorem dX7_value_13 : decode cX7_value 13 = .ok (.aload_n 1, 1) := by decide +kernel
theorem dX7_value_14 : decode cX7_value 14 = .ok (.getfield 23, 3) := by decide +kernel
theorem dX7_value_17 : decode cX7_value 17 = .ok (.iload 4, 2) := by decide +kernel
theorem dX7_value_19 : decode cX7_value 19 = .ok (.iaload, 1) := by decide +kernel
theorem dX7_value_20 : decode cX7_value 20 = .ok (.invokevirtual 26, 3) := by decide +kernel
theorem dX7_value_23 : decode cX7_value 23 = .ok (.aload_n 0, 1) := by decide +kernel
theorem dX7_value_24 : decode cX7_value 24 = .ok (.sipush 10001, 3) := by decide +kernel
theorem dX7_value_27 : decode cX7_value 27 = .ok (.aload_n 1, 1) := by decide +kernel
theorem dX7_value_28 : decode cX7_value 28 = .ok (.getfield 30, 3) := by decide +kernel
theorem dX7_value_31 : decode cX7_value 31 = .ok (.iload 4, 2) := by decide +kernel
theorem dX7_value_33 : decode cX7_value 33 = .ok (.invokestatic 34, 3) := by decide +kernel
theorem dX7_value_36 : decode cX7_value 36 = .ok (.invokevirtual 26, 3) := by decide +kernel
theorem dX7_value_39 : decode cX7_value 39 = .ok (.aload_n 0, 1) := by decide +kernel
theorem dX7_value_40 : decode cX7_value 40 = .ok (.sipush 10002, 3) := by decide +kernel
theorem dX7_value_43 : decode cX7_value 43 = .ok (.aload_n 1, 1) := by decide +kernel
theorem dX7_value_44 : decode cX7_value 44 = .ok (.getfield 40, 3) := by decide +kernel
theorem dX7_value_47 : decode cX7_value 47 = .ok (.iload 4, 2) := by decide +kernel
theorem dX7_value_49 : decode cX7_value 49 = .ok (.invokestatic 34, 3) := by decide +kernel
theorem dX7_value_52 : decode cX7_value 52 = .ok (.invokevirtual 26, 3) := by decide +kernel
theorem dX7_value_55 : decode cX7_value 55 = .ok (.aload_n 0, 1) := by decide +kernel
theorem dX7_value_56 : decode cX7_value 56 = .ok (.sipush 10003, 3) := by decide +kernel
theorem dX7_value_59 : decode cX7_value 59 = .ok (.iload 6, 2) := by decide +kernel
theorem dX7_value_61 : decode cX7_value 61 = .ok (.invokevirtual 26, 3) := by decide +kernel
theorem dX7_value_64 : decode cX7_value 64 = .ok (.aload_n 0, 1) := by decide +kernel
theorem dX7_value_65 : decode cX7_value 65 = .ok (.sipush 10004, 3) := by decide +kernel
theorem dX7_value_68 : decode cX7_value 68 = .ok (.iload 5, 2) := by decide +kernel
theorem dX7_value_70 : decode cX7_value 70 = .ok (.invokevirtual 26, 3) := by decide +kernel
theorem dX7_value_73 : decode cX7_value 73 = .ok (.aload_n 0, 1) := by decide +kernel
theorem dX7_value_74 : decode cX7_value 74 = .ok (.sipush 10005, 3) := by decide +kernel
theorem dX7_value_77 : decode cX7_value 77 = .ok (.aload_n 1, 1) := by decide +kernel
theorem dX7_value_78 : decode cX7_value 78 = .ok (.iload 6, 2) := by decide +kernel
theorem dX7_value_80 : decode cX7_value 80 = .ok (.iload 5, 2) := by decide +kernel
theorem dX7_value_82 : decode cX7_value 82 = .ok (.invokevirtual 43, 3) := by decide +kernel
theorem dX7_value_85 : decode cX7_value 85 = .ok (.invokevirtual 26, 3) := by decide +kernel
theorem dX7_value_88 : decode cX7_value 88 = .ok (.aload_n 0, 1) := by decide +kernel
theorem dX7_value_89 : decode cX7_value 89 = .ok (.sipush 10006, 3) := by decide +kernel
theorem dX7_value_92 : decode cX7_value 92 = .ok (.aload_n 1, 1) := by decide +kernel
theorem dX7_value_93 : decode cX7_value 93 = .ok (.getfield 46, 3) := by decide +kernel
theorem dX7_value_96 : decode cX7_value 96 = .ok (.iload 5, 2) := by decide +kernel
theorem dX7_value_98 : decode cX7_value 98 = .ok (.iaload, 1) := by decide +kernel
theorem dX7_value_99 : decode cX7_value 99 = .ok (.invokevirtual 26, 3) := by decide +kernel
theorem dX7_value_102 : decode cX7_value 102 = .ok (.aload_n 0, 1) := by decide +kernel
theorem dX7_value_103 : decode cX7_value 103 = .ok (.sipush 10007, 3) := by decide +kernel
theorem dX7_value_106 : decode cX7_value 106 = .ok (.aload_n 3, 1) := by decide +kernel
theorem dX7_value_107 : decode cX7_value 107 = .ok (.getfield 49, 3) := by decide +kernel
theorem dX7_value_110 : decode cX7_value 110 = .ok (.iload 4, 2) := by decide +kernel
theorem dX7_value_112 : decode cX7_value 112 = .ok (.iaload, 1) := by decide +kernel
theorem dX7_value_113 : decode cX7_value 113 = .ok (.invokevirtual 26, 3) := by decide +kernel
theorem dX7_value_116 : decode cX7_value 116 = .ok (.aload_n 0, 1) := by decide +kernel
theorem dX7_value_117 : decode cX7_value 117 = .ok (.iconst 0, 1) := by decide +kernel
theorem dX7_value_118 : decode cX7_value 118 = .ok (.putfield 52, 3) := by decide +kernel
theorem dX7_value_121 : decode cX7_value 121 = .ok (.aload_n 1, 1) := by decide +kernel
theorem dX7_value_122 : decode cX7_value 122 = .ok (.getfield 55, 3) := by decide +kernel
theorem dX7_value_125 : decode cX7_value 125 = .ok (.iload_n 2, 1) := by decide +kernel
theorem dX7_value_126 : decode cX7_value 126 = .ok (.iaload, 1) := by decide +kernel
theorem dX7_value_127 : decode cX7_value 127 = .ok (.istore 7, 2) := by decide +kernel
theorem dX7_value_129 : decode cX7_value 129 = .ok (.iload 7, 2) := by decide +kernel
theorem dX7_value_131 : decode cX7_value 131 = .ok (.aload_n 1, 1) := by decide +kernel
theorem dX7_value_132 : decode cX7_value 132 = .ok (.getfield 55, 3) := by decide +kernel
theorem dX7_value_135 : decode cX7_value 135 = .ok (.iload_n 2, 1) := by decide +kernel
theorem dX7_value_136 : decode cX7_value 136 = .ok (.iconst 1, 1) := by decide +kernel
theorem dX7_value_137 : decode cX7_value 137 = .ok (.iadd, 1) := by decide +kernel
theorem dX7_value_138 : decode cX7_value 138 = .ok (.iaload, 1) := by decide +kernel
theorem dX7_value_139 : decode cX7_value 139 = .ok (.if_icmp .ge 20, 3) := by decide +kernel
theorem dX7_value_142 : decode cX7_value 142 = .ok (.aload_n 0, 1) := by decide +kernel
theorem dX7_value_143 : decode cX7_value 143 = .ok (.aload_n 1, 1) := by decide +kernel
theorem dX7_value_144 : decode cX7_value 144 = .ok (.getfield 58, 3) := by decide +kernel
theorem dX7_value_147 : decode cX7_value 147 = .ok (.iload 7, 2) := by decide +kernel
theorem dX7_value_149 : decode cX7_value 149 = .ok (.iaload, 1) := by decide +kernel
theorem dX7_value_150 : decode cX7_value 150 = .ok (.invokevirtual 61, 3) := by decide +kernel
theorem dX7_value_153 : decode cX7_value 153 = .ok (.iinc 7 1, 3) := by decide +kernel
theorem dX7_value_156 : decode cX7_value 156 = .ok (.goto (-27), 3) := by decide +kernel
theorem dX7_value_159 : decode cX7_value 159 = .ok (.aload_n 0, 1) := by decide +kernel
theorem dX7_value_160 : decode cX7_value 160 = .ok (.invokevirtual 65, 3) := by decide +kernel
theorem dX7_value_163 : decode cX7_value 163 = .ok (.ireturn, 1) := by decide +kernel
theorem dX7_setFact_0 : decode cX7_setFact 0 = .ok (.aload_n 0, 1) := by decide +kernel
theorem dX7_setFact_1 : decode cX7_setFact 1 = .ok (.getfield 15, 3) := by decide +kernel
theorem dX7_setFact_4 : decode cX7_setFact 4 = .ok (.iload_n 1, 1) := by decide +kernel
theorem dX7_setFact_5 : decode cX7_setFact 5 = .ok (.sipush 10000, 3) := by decide +kernel
theorem dX7_setFact_8 : decode cX7_setFact 8 = .ok (.isub, 1) := by decide +kernel
theorem dX7_setFact_9 : decode cX7_setFact 9 = .ok (.iload_n 2, 1) := by decide +kernel
theorem dX7_setFact_10 : decode cX7_setFact 10 = .ok (.iastore, 1) := by decide +kernel
theorem dX7_setFact_11 : decode cX7_setFact 11 = .ok (.return_, 1) := by decide +kernel
theorem dX7_take_0 : decode cX7_take 0 = .ok (.iload_n 1, 1) := by decide +kernel
theorem dX7_take_1 : decode cX7_take 1 = .ok (.sipush 10000, 3) := by decide +kernel
theorem dX7_take_4 : decode cX7_take 4 = .ok (.if_icmp .ge 11, 3) := by decide +kernel
theorem dX7_take_7 : decode cX7_take 7 = .ok (.aload_n 0, 1) := by decide +kernel
theorem dX7_take_8 : decode cX7_take 8 = .ok (.iload_n 1, 1) := by decide +kernel
theorem dX7_take_9 : decode cX7_take 9 = .ok (.invokevirtual 69, 3) := by decide +kernel
theorem dX7_take_12 : decode cX7_take 12 = .ok (.goto 76, 3) := by decide +kernel
theorem dX7_take_15 : decode cX7_take 15 = .ok (.iload_n 1, 1) := by decide +kernel
theorem dX7_take_16 : decode cX7_take 16 = .ok (.sipush 10008, 3) := by decide +kernel
theorem dX7_take_19 : decode cX7_take 19 = .ok (.if_icmp .ge 20, 3) := by decide +kernel
theorem dX7_take_22 : decode cX7_take 22 = .ok (.aload_n 0, 1) := by decide +kernel
theorem dX7_take_23 : decode cX7_take 23 = .ok (.aload_n 0, 1) := by decide +kernel
theorem dX7_take_24 : decode cX7_take 24 = .ok (.getfield 15, 3) := by decide +kernel
theorem dX7_take_27 : decode cX7_take 27 = .ok (.iload_n 1, 1) := by decide +kernel
theorem dX7_take_28 : decode cX7_take 28 = .ok (.sipush 10000, 3) := by decide +kernel
theorem dX7_take_31 : decode cX7_take 31 = .ok (.isub, 1) := by decide +kernel
theorem dX7_take_32 : decode cX7_take 32 = .ok (.iaload, 1) := by decide +kernel
theorem dX7_take_33 : decode cX7_take 33 = .ok (.invokevirtual 69, 3) := by decide +kernel
theorem dX7_take_36 : decode cX7_take 36 = .ok (.goto 52, 3) := by decide +kernel
theorem dX7_take_39 : decode cX7_take 39 = .ok (.iload_n 1, 1) := by decide +kernel
theorem dX7_take_40 : decode cX7_take 40 = .ok (.sipush 10008, 3) := by decide +kernel
theorem dX7_take_43 : decode cX7_take 43 = .ok (.if_icmp .ne 25, 3) := by decide +kernel
theorem dX7_take_46 : decode cX7_take 46 = .ok (.aload_n 0, 1) := by decide +kernel
theorem dX7_take_47 : decode cX7_take 47 = .ok (.aload_n 0, 1) := by decide +kernel
theorem dX7_take_48 : decode cX7_take 48 = .ok (.invokevirtual 65, 3) := by decide +kernel
theorem dX7_take_51 : decode cX7_take 51 = .ok (.ifCond .ne 7, 3) := by decide +kernel
theorem dX7_take_54 : decode cX7_take 54 = .ok (.iconst 1, 1) := by decide +kernel
theorem dX7_take_55 : decode cX7_take 55 = .ok (.goto 4, 3) := by decide +kernel
theorem dX7_take_58 : decode cX7_take 58 = .ok (.iconst 0, 1) := by decide +kernel
theorem dX7_take_59 : decode cX7_take 59 = .ok (.invokestatic 72, 3) := by decide +kernel
theorem dX7_take_62 : decode cX7_take 62 = .ok (.invokevirtual 69, 3) := by decide +kernel
theorem dX7_take_65 : decode cX7_take 65 = .ok (.goto 23, 3) := by decide +kernel
theorem dX7_take_68 : decode cX7_take 68 = .ok (.aload_n 0, 1) := by decide +kernel
theorem dX7_take_69 : decode cX7_take 69 = .ok (.invokevirtual 65, 3) := by decide +kernel
theorem dX7_take_72 : decode cX7_take 72 = .ok (.istore_n 2, 1) := by decide +kernel
theorem dX7_take_73 : decode cX7_take 73 = .ok (.aload_n 0, 1) := by decide +kernel
theorem dX7_take_74 : decode cX7_take 74 = .ok (.invokevirtual 65, 3) := by decide +kernel
theorem dX7_take_77 : decode cX7_take 77 = .ok (.istore_n 3, 1) := by decide +kernel
theorem dX7_take_78 : decode cX7_take 78 = .ok (.aload_n 0, 1) := by decide +kernel
theorem dX7_take_79 : decode cX7_take 79 = .ok (.iload_n 1, 1) := by decide +kernel
theorem dX7_take_80 : decode cX7_take 80 = .ok (.iload_n 3, 1) := by decide +kernel
theorem dX7_take_81 : decode cX7_take 81 = .ok (.iload_n 2, 1) := by decide +kernel
theorem dX7_take_82 : decode cX7_take 82 = .ok (.invokestatic 76, 3) := by decide +kernel
theorem dX7_take_85 : decode cX7_take 85 = .ok (.invokevirtual 69, 3) := by decide +kernel
theorem dX7_take_88 : decode cX7_take 88 = .ok (.return_, 1) := by decide +kernel
theorem dX7_joined_0 : decode cX7_joined 0 = .ok (.iload_n 0, 1) := by decide +kernel
theorem dX7_joined_1 : decode cX7_joined 1 = .ok (.tableswitch 109 10009 10014 #[39, 56, 73, 87, 101, 105], 39) := by decide +kernel
theorem dX7_joined_40 : decode cX7_joined 40 = .ok (.iload_n 1, 1) := by decide +kernel
theorem dX7_joined_41 : decode cX7_joined 41 = .ok (.ifCond .eq 11, 3) := by decide +kernel
theorem dX7_joined_44 : decode cX7_joined 44 = .ok (.iload_n 2, 1) := by decide +kernel
theorem dX7_joined_45 : decode cX7_joined 45 = .ok (.ifCond .eq 7, 3) := by decide +kernel
theorem dX7_joined_48 : decode cX7_joined 48 = .ok (.iconst 1, 1) := by decide +kernel
theorem dX7_joined_49 : decode cX7_joined 49 = .ok (.goto 4, 3) := by decide +kernel
theorem dX7_joined_52 : decode cX7_joined 52 = .ok (.iconst 0, 1) := by decide +kernel
theorem dX7_joined_53 : decode cX7_joined 53 = .ok (.invokestatic 72, 3) := by decide +kernel
theorem dX7_joined_56 : decode cX7_joined 56 = .ok (.ireturn, 1) := by decide +kernel
theorem dX7_joined_57 : decode cX7_joined 57 = .ok (.iload_n 1, 1) := by decide +kernel
theorem dX7_joined_58 : decode cX7_joined 58 = .ok (.ifCond .ne 7, 3) := by decide +kernel
theorem dX7_joined_61 : decode cX7_joined 61 = .ok (.iload_n 2, 1) := by decide +kernel
theorem dX7_joined_62 : decode cX7_joined 62 = .ok (.ifCond .eq 7, 3) := by decide +kernel
theorem dX7_joined_65 : decode cX7_joined 65 = .ok (.iconst 1, 1) := by decide +kernel
theorem dX7_joined_66 : decode cX7_joined 66 = .ok (.goto 4, 3) := by decide +kernel
theorem dX7_joined_69 : decode cX7_joined 69 = .ok (.iconst 0, 1) := by decide +kernel
theorem dX7_joined_70 : decode cX7_joined 70 = .ok (.invokestatic 72, 3) := by decide +kernel
theorem dX7_joined_73 : decode cX7_joined 73 = .ok (.ireturn, 1) := by decide +kernel
theorem dX7_joined_74 : decode cX7_joined 74 = .ok (.iload_n 1, 1) := by decide +kernel
theorem dX7_joined_75 : decode cX7_joined 75 = .ok (.iload_n 2, 1) := by decide +kernel
theorem dX7_joined_76 : decode cX7_joined 76 = .ok (.if_icmp .ge 7, 3) := by decide +kernel
theorem dX7_joined_79 : decode cX7_joined 79 = .ok (.iconst 1, 1) := by decide +kernel
theorem dX7_joined_80 : decode cX7_joined 80 = .ok (.goto 4, 3) := by decide +kernel
theorem dX7_joined_83 : decode cX7_joined 83 = .ok (.iconst 0, 1) := by decide +kernel
theorem dX7_joined_84 : decode cX7_joined 84 = .ok (.invokestatic 72, 3) := by decide +kernel
theorem dX7_joined_87 : decode cX7_joined 87 = .ok (.ireturn, 1) := by decide +kernel
theorem dX7_joined_88 : decode cX7_joined 88 = .ok (.iload_n 1, 1) := by decide +kernel
theorem dX7_joined_89 : decode cX7_joined 89 = .ok (.iload_n 2, 1) := by decide +kernel
theorem dX7_joined_90 : decode cX7_joined 90 = .ok (.if_icmp .ne 7, 3) := by decide +kernel
theorem dX7_joined_93 : decode cX7_joined 93 = .ok (.iconst 1, 1) := by decide +kernel
theorem dX7_joined_94 : decode cX7_joined 94 = .ok (.goto 4, 3) := by decide +kernel
theorem dX7_joined_97 : decode cX7_joined 97 = .ok (.iconst 0, 1) := by decide +kernel
theorem dX7_joined_98 : decode cX7_joined 98 = .ok (.invokestatic 72, 3) := by decide +kernel
theorem dX7_joined_101 : decode cX7_joined 101 = .ok (.ireturn, 1) := by decide +kernel
theorem dX7_joined_102 : decode cX7_joined 102 = .ok (.iload_n 1, 1) := by decide +kernel
theorem dX7_joined_103 : decode cX7_joined 103 = .ok (.iload_n 2, 1) := by decide +kernel
theorem dX7_joined_104 : decode cX7_joined 104 = .ok (.iadd, 1) := by decide +kernel
theorem dX7_joined_105 : decode cX7_joined 105 = .ok (.ireturn, 1) := by decide +kernel
theorem dX7_joined_106 : decode cX7_joined 106 = .ok (.iload_n 1, 1) := by decide +kernel
theorem dX7_joined_107 : decode cX7_joined 107 = .ok (.iload_n 2, 1) := by decide +kernel
theorem dX7_joined_108 : decode cX7_joined 108 = .ok (.isub, 1) := by decide +kernel
theorem dX7_joined_109 : decode cX7_joined 109 = .ok (.ireturn, 1) := by decide +kernel
theorem dX7_joined_110 : decode cX7_joined 110 = .ok (.iload_n 1, 1) := by decide +kernel
theorem dX7_joined_111 : decode cX7_joined 111 = .ok (.iload_n 2, 1) := by decide +kernel
theorem dX7_joined_112 : decode cX7_joined 112 = .ok (.imul, 1) := by decide +kernel
theorem dX7_joined_113 : decode cX7_joined 113 = .ok (.ireturn, 1) := by decide +kernel
theorem dX7_oneIf_0 : decode cX7_oneIf 0 = .ok (.iload_n 0, 1) := by decide +kernel
theorem dX7_oneIf_1 : decode cX7_oneIf 1 = .ok (.ifCond .eq 7, 3) := by decide +kernel
theorem dX7_oneIf_4 : decode cX7_oneIf 4 = .ok (.iconst 1, 1) := by decide +kernel
theorem dX7_oneIf_5 : decode cX7_oneIf 5 = .ok (.goto 4, 3) := by decide +kernel
theorem dX7_oneIf_8 : decode cX7_oneIf 8 = .ok (.iconst 0, 1) := by decide +kernel
theorem dX7_oneIf_9 : decode cX7_oneIf 9 = .ok (.ireturn, 1) := by decide +kernel
theorem dX7_push_0 : decode cX7_push 0 = .ok (.aload_n 0, 1) := by decide +kernel
theorem dX7_push_1 : decode cX7_push 1 = .ok (.getfield 52, 3) := by decide +kernel
theorem dX7_push_4 : decode cX7_push 4 = .ok (.bipush 32, 2) := by decide +kernel
theorem dX7_push_6 : decode cX7_push 6 = .ok (.if_icmp .ge 23, 3) := by decide +kernel
theorem dX7_push_9 : decode cX7_push 9 = .ok (.aload_n 0, 1) := by decide +kernel
theorem dX7_push_10 : decode cX7_push 10 = .ok (.getfield 9, 3) := by decide +kernel
theorem dX7_push_13 : decode cX7_push 13 = .ok (.aload_n 0, 1) := by decide +kernel
theorem dX7_push_14 : decode cX7_push 14 = .ok (.getfield 52, 3) := by decide +kernel
theorem dX7_push_17 : decode cX7_push 17 = .ok (.iload_n 1, 1) := by decide +kernel
theorem dX7_push_18 : decode cX7_push 18 = .ok (.iastore, 1) := by decide +kernel
theorem dX7_push_19 : decode cX7_push 19 = .ok (.aload_n 0, 1) := by decide +kernel
theorem dX7_push_20 : decode cX7_push 20 = .ok (.dup, 1) := by decide +kernel
theorem dX7_push_21 : decode cX7_push 21 = .ok (.getfield 52, 3) := by decide +kernel
theorem dX7_push_24 : decode cX7_push 24 = .ok (.iconst 1, 1) := by decide +kernel
theorem dX7_push_25 : decode cX7_push 25 = .ok (.iadd, 1) := by decide +kernel
theorem dX7_push_26 : decode cX7_push 26 = .ok (.putfield 52, 3) := by decide +kernel
theorem dX7_push_29 : decode cX7_push 29 = .ok (.return_, 1) := by decide +kernel
theorem dX7_pop_0 : decode cX7_pop 0 = .ok (.aload_n 0, 1) := by decide +kernel
theorem dX7_pop_1 : decode cX7_pop 1 = .ok (.getfield 52, 3) := by decide +kernel
theorem dX7_pop_4 : decode cX7_pop 4 = .ok (.ifCond .ne 5, 3) := by decide +kernel
theorem dX7_pop_7 : decode cX7_pop 7 = .ok (.iconst 0, 1) := by decide +kernel
theorem dX7_pop_8 : decode cX7_pop 8 = .ok (.ireturn, 1) := by decide +kernel
theorem dX7_pop_9 : decode cX7_pop 9 = .ok (.aload_n 0, 1) := by decide +kernel
theorem dX7_pop_10 : decode cX7_pop 10 = .ok (.dup, 1) := by decide +kernel
theorem dX7_pop_11 : decode cX7_pop 11 = .ok (.getfield 52, 3) := by decide +kernel
theorem dX7_pop_14 : decode cX7_pop 14 = .ok (.iconst 1, 1) := by decide +kernel
theorem dX7_pop_15 : decode cX7_pop 15 = .ok (.isub, 1) := by decide +kernel
theorem dX7_pop_16 : decode cX7_pop 16 = .ok (.putfield 52, 3) := by decide +kernel
theorem dX7_pop_19 : decode cX7_pop 19 = .ok (.aload_n 0, 1) := by decide +kernel
theorem dX7_pop_20 : decode cX7_pop 20 = .ok (.getfield 9, 3) := by decide +kernel
theorem dX7_pop_23 : decode cX7_pop 23 = .ok (.aload_n 0, 1) := by decide +kernel
theorem dX7_pop_24 : decode cX7_pop 24 = .ok (.getfield 52, 3) := by decide +kernel
theorem dX7_pop_27 : decode cX7_pop 27 = .ok (.iaload, 1) := by decide +kernel
theorem dX7_pop_28 : decode cX7_pop 28 = .ok (.ireturn, 1) := by decide +kernel
theorem dX8_init_0 : decode cX8_init 0 = .ok (.aload_n 0, 1) := by decide +kernel
theorem dX8_init_1 : decode cX8_init 1 = .ok (.invokespecial 3, 3) := by decide +kernel
theorem dX8_init_4 : decode cX8_init 4 = .ok (.aload_n 0, 1) := by decide +kernel
theorem dX8_init_5 : decode cX8_init 5 = .ok (.bipush 20, 2) := by decide +kernel
theorem dX8_init_7 : decode cX8_init 7 = .ok (.newarray .int, 2) := by decide +kernel
theorem dX8_init_9 : decode cX8_init 9 = .ok (.putfield 9, 3) := by decide +kernel
theorem dX8_init_12 : decode cX8_init 12 = .ok (.aload_n 0, 1) := by decide +kernel
theorem dX8_init_13 : decode cX8_init 13 = .ok (.bipush 20, 2) := by decide +kernel
theorem dX8_init_15 : decode cX8_init 15 = .ok (.newarray .int, 2) := by decide +kernel
theorem dX8_init_17 : decode cX8_init 17 = .ok (.putfield 15, 3) := by decide +kernel
theorem dX8_init_20 : decode cX8_init 20 = .ok (.aload_n 0, 1) := by decide +kernel
theorem dX8_init_21 : decode cX8_init 21 = .ok (.bipush 20, 2) := by decide +kernel
theorem dX8_init_23 : decode cX8_init 23 = .ok (.newarray .int, 2) := by decide +kernel
theorem dX8_init_25 : decode cX8_init 25 = .ok (.putfield 18, 3) := by decide +kernel
theorem dX8_init_28 : decode cX8_init 28 = .ok (.aload_n 0, 1) := by decide +kernel
theorem dX8_init_29 : decode cX8_init 29 = .ok (.bipush 20, 2) := by decide +kernel
theorem dX8_init_31 : decode cX8_init 31 = .ok (.newarray .int, 2) := by decide +kernel
theorem dX8_init_33 : decode cX8_init 33 = .ok (.putfield 21, 3) := by decide +kernel
theorem dX8_init_36 : decode cX8_init 36 = .ok (.aload_n 0, 1) := by decide +kernel
theorem dX8_init_37 : decode cX8_init 37 = .ok (.bipush 10, 2) := by decide +kernel
theorem dX8_init_39 : decode cX8_init 39 = .ok (.newarray .int, 2) := by decide +kernel
theorem dX8_init_41 : decode cX8_init 41 = .ok (.putfield 24, 3) := by decide +kernel
theorem dX8_init_44 : decode cX8_init 44 = .ok (.return_, 1) := by decide +kernel
theorem dX8_copyFrom_0 : decode cX8_copyFrom 0 = .ok (.aload_n 1, 1) := by decide +kernel
theorem dX8_copyFrom_1 : decode cX8_copyFrom 1 = .ok (.getfield 9, 3) := by decide +kernel
theorem dX8_copyFrom_4 : decode cX8_copyFrom 4 = .ok (.iconst 0, 1) := by decide +kernel
theorem dX8_copyFrom_5 : decode cX8_copyFrom 5 = .ok (.aload_n 0, 1) := by decide +kernel
theorem dX8_copyFrom_6 : decode cX8_copyFrom 6 = .ok (.getfield 9, 3) := by decide +kernel
theorem dX8_copyFrom_9 : decode cX8_copyFrom 9 = .ok (.iconst 0, 1) := by decide +kernel
theorem dX8_copyFrom_10 : decode cX8_copyFrom 10 = .ok (.bipush 20, 2) := by decide +kernel
theorem dX8_copyFrom_12 : decode cX8_copyFrom 12 = .ok (.invokestatic 27, 3) := by decide +kernel
theorem dX8_copyFrom_15 : decode cX8_copyFrom 15 = .ok (.aload_n 1, 1) := by decide +kernel
theorem dX8_copyFrom_16 : decode cX8_copyFrom 16 = .ok (.getfield 15, 3) := by decide +kernel
theorem dX8_copyFrom_19 : decode cX8_copyFrom 19 = .ok (.iconst 0, 1) := by decide +kernel
theorem dX8_copyFrom_20 : decode cX8_copyFrom 20 = .ok (.aload_n 0, 1) := by decide +kernel
theorem dX8_copyFrom_21 : decode cX8_copyFrom 21 = .ok (.getfield 15, 3) := by decide +kernel
theorem dX8_copyFrom_24 : decode cX8_copyFrom 24 = .ok (.iconst 0, 1) := by decide +kernel
theorem dX8_copyFrom_25 : decode cX8_copyFrom 25 = .ok (.bipush 20, 2) := by decide +kernel
theorem dX8_copyFrom_27 : decode cX8_copyFrom 27 = .ok (.invokestatic 27, 3) := by decide +kernel
theorem dX8_copyFrom_30 : decode cX8_copyFrom 30 = .ok (.aload_n 1, 1) := by decide +kernel
theorem dX8_copyFrom_31 : decode cX8_copyFrom 31 = .ok (.getfield 18, 3) := by decide +kernel
theorem dX8_copyFrom_34 : decode cX8_copyFrom 34 = .ok (.iconst 0, 1) := by decide +kernel
theorem dX8_copyFrom_35 : decode cX8_copyFrom 35 = .ok (.aload_n 0, 1) := by decide +kernel
theorem dX8_copyFrom_36 : decode cX8_copyFrom 36 = .ok (.getfield 18, 3) := by decide +kernel
theorem dX8_copyFrom_39 : decode cX8_copyFrom 39 = .ok (.iconst 0, 1) := by decide +kernel
theorem dX8_copyFrom_40 : decode cX8_copyFrom 40 = .ok (.bipush 20, 2) := by decide +kernel
theorem dX8_copyFrom_42 : decode cX8_copyFrom 42 = .ok (.invokestatic 27, 3) := by decide +kernel
theorem dX8_copyFrom_45 : decode cX8_copyFrom 45 = .ok (.aload_n 0, 1) := by decide +kernel
theorem dX8_copyFrom_46 : decode cX8_copyFrom 46 = .ok (.aload_n 1, 1) := by decide +kernel
theorem dX8_copyFrom_47 : decode cX8_copyFrom 47 = .ok (.getfield 33, 3) := by decide +kernel
theorem dX8_copyFrom_50 : decode cX8_copyFrom 50 = .ok (.putfield 33, 3) := by decide +kernel
theorem dX8_copyFrom_53 : decode cX8_copyFrom 53 = .ok (.return_, 1) := by decide +kernel
theorem dX8_add_0 : decode cX8_add 0 = .ok (.aload_n 0, 1) := by decide +kernel
theorem dX8_add_1 : decode cX8_add 1 = .ok (.getfield 33, 3) := by decide +kernel
theorem dX8_add_4 : decode cX8_add 4 = .ok (.bipush 20, 2) := by decide +kernel
theorem dX8_add_6 : decode cX8_add 6 = .ok (.if_icmp .lt 5, 3) := by decide +kernel
theorem dX8_add_9 : decode cX8_add 9 = .ok (.iconst 0, 1) := by decide +kernel
theorem dX8_add_10 : decode cX8_add 10 = .ok (.ireturn, 1) := by decide +kernel
theorem dX8_add_11 : decode cX8_add 11 = .ok (.aload_n 0, 1) := by decide +kernel
theorem dX8_add_12 : decode cX8_add 12 = .ok (.getfield 33, 3) := by decide +kernel
theorem dX8_add_15 : decode cX8_add 15 = .ok (.istore 4, 2) := by decide +kernel
theorem dX8_add_17 : decode cX8_add 17 = .ok (.iload 4, 2) := by decide +kernel
theorem dX8_add_19 : decode cX8_add 19 = .ok (.ifCond .le 70, 3) := by decide +kernel
theorem dX8_add_22 : decode cX8_add 22 = .ok (.aload_n 0, 1) := by decide +kernel
theorem dX8_add_23 : decode cX8_add 23 = .ok (.getfield 18, 3) := by decide +kernel
theorem dX8_add_26 : decode cX8_add 26 = .ok (.iload 4, 2) := by decide +kernel
theorem dX8_add_28 : decode cX8_add 28 = .ok (.iconst 1, 1) := by decide +kernel
theorem dX8_add_29 : decode cX8_add 29 = .ok (.isub, 1) := by decide +kernel
theorem dX8_add_30 : decode cX8_add 30 = .ok (.iaload, 1) := by decide +kernel
theorem dX8_add_31 : decode cX8_add 31 = .ok (.iload_n 3, 1) := by decide +kernel
theorem dX8_add_32 : decode cX8_add 32 = .ok (.if_icmp .le 57, 3) := by decide +kernel
theorem dX8_add_35 : decode cX8_add 35 = .ok (.aload_n 0, 1) := by decide +kernel
theorem dX8_add_36 : decode cX8_add 36 = .ok (.getfield 9, 3) := by decide +kernel
theorem dX8_add_39 : decode cX8_add 39 = .ok (.iload 4, 2) := by decide +kernel
theorem dX8_add_41 : decode cX8_add 41 = .ok (.aload_n 0, 1) := by decide +kernel
theorem dX8_add_42 : decode cX8_add 42 = .ok (.getfield 9, 3) := by decide +kernel
theorem dX8_add_45 : decode cX8_add 45 = .ok (.iload 4, 2) := by decide +kernel
theorem dX8_add_47 : decode cX8_add 47 = .ok (.iconst 1, 1) := by decide +kernel
theorem dX8_add_48 : decode cX8_add 48 = .ok (.isub, 1) := by decide +kernel
theorem dX8_add_49 : decode cX8_add 49 = .ok (.iaload, 1) := by decide +kernel
theorem dX8_add_50 : decode cX8_add 50 = .ok (.iastore, 1) := by decide +kernel
theorem dX8_add_51 : decode cX8_add 51 = .ok (.aload_n 0, 1) := by decide +kernel
theorem dX8_add_52 : decode cX8_add 52 = .ok (.getfield 15, 3) := by decide +kernel
theorem dX8_add_55 : decode cX8_add 55 = .ok (.iload 4, 2) := by decide +kernel
theorem dX8_add_57 : decode cX8_add 57 = .ok (.aload_n 0, 1) := by decide +kernel
theorem dX8_add_58 : decode cX8_add 58 = .ok (.getfield 15, 3) := by decide +kernel
theorem dX8_add_61 : decode cX8_add 61 = .ok (.iload 4, 2) := by decide +kernel
theorem dX8_add_63 : decode cX8_add 63 = .ok (.iconst 1, 1) := by decide +kernel
theorem dX8_add_64 : decode cX8_add 64 = .ok (.isub, 1) := by decide +kernel
theorem dX8_add_65 : decode cX8_add 65 = .ok (.iaload, 1) := by decide +kernel
theorem dX8_add_66 : decode cX8_add 66 = .ok (.iastore, 1) := by decide +kernel
theorem dX8_add_67 : decode cX8_add 67 = .ok (.aload_n 0, 1) := by decide +kernel
theorem dX8_add_68 : decode cX8_add 68 = .ok (.getfield 18, 3) := by decide +kernel
theorem dX8_add_71 : decode cX8_add 71 = .ok (.iload 4, 2) := by decide +kernel
theorem dX8_add_73 : decode cX8_add 73 = .ok (.aload_n 0, 1) := by decide +kernel
theorem dX8_add_74 : decode cX8_add 74 = .ok (.getfield 18, 3) := by decide +kernel
theorem dX8_add_77 : decode cX8_add 77 = .ok (.iload 4, 2) := by decide +kernel
theorem dX8_add_79 : decode cX8_add 79 = .ok (.iconst 1, 1) := by decide +kernel
theorem dX8_add_80 : decode cX8_add 80 = .ok (.isub, 1) := by decide +kernel
theorem dX8_add_81 : decode cX8_add 81 = .ok (.iaload, 1) := by decide +kernel
theorem dX8_add_82 : decode cX8_add 82 = .ok (.iastore, 1) := by decide +kernel
theorem dX8_add_83 : decode cX8_add 83 = .ok (.iinc 4 (-1), 3) := by decide +kernel
theorem dX8_add_86 : decode cX8_add 86 = .ok (.goto (-69), 3) := by decide +kernel
theorem dX8_add_89 : decode cX8_add 89 = .ok (.aload_n 0, 1) := by decide +kernel
theorem dX8_add_90 : decode cX8_add 90 = .ok (.getfield 9, 3) := by decide +kernel
theorem dX8_add_93 : decode cX8_add 93 = .ok (.iload 4, 2) := by decide +kernel
theorem dX8_add_95 : decode cX8_add 95 = .ok (.iload_n 1, 1) := by decide +kernel
theorem dX8_add_96 : decode cX8_add 96 = .ok (.iastore, 1) := by decide +kernel
theorem dX8_add_97 : decode cX8_add 97 = .ok (.aload_n 0, 1) := by decide +kernel
theorem dX8_add_98 : decode cX8_add 98 = .ok (.getfield 15, 3) := by decide +kernel
theorem dX8_add_101 : decode cX8_add 101 = .ok (.iload 4, 2) := by decide +kernel
theorem dX8_add_103 : decode cX8_add 103 = .ok (.iload_n 2, 1) := by decide +kernel
theorem dX8_add_104 : decode cX8_add 104 = .ok (.iastore, 1) := by decide +kernel
theorem dX8_add_105 : decode cX8_add 105 = .ok (.aload_n 0, 1) := by decide +kernel
theorem dX8_add_106 : decode cX8_add 106 = .ok (.getfield 18, 3) := by decide +kernel
theorem dX8_add_109 : decode cX8_add 109 = .ok (.iload 4, 2) := by decide +kernel
theorem dX8_add_111 : decode cX8_add 111 = .ok (.iload_n 3, 1) := by decide +kernel
theorem dX8_add_112 : decode cX8_add 112 = .ok (.iastore, 1) := by decide +kernel
theorem dX8_add_113 : decode cX8_add 113 = .ok (.aload_n 0, 1) := by decide +kernel
theorem dX8_add_114 : decode cX8_add 114 = .ok (.dup, 1) := by decide +kernel
theorem dX8_add_115 : decode cX8_add 115 = .ok (.getfield 33, 3) := by decide +kernel
theorem dX8_add_118 : decode cX8_add 118 = .ok (.iconst 1, 1) := by decide +kernel
theorem dX8_add_119 : decode cX8_add 119 = .ok (.iadd, 1) := by decide +kernel
theorem dX8_add_120 : decode cX8_add 120 = .ok (.putfield 33, 3) := by decide +kernel
theorem dX8_add_123 : decode cX8_add 123 = .ok (.iconst 1, 1) := by decide +kernel
theorem dX8_add_124 : decode cX8_add 124 = .ok (.ireturn, 1) := by decide +kernel
theorem dX8_possibleIn_0 : decode cX8_possibleIn 0 = .ok (.iconst 1, 1) := by decide +kernel
theorem dX8_possibleIn_1 : decode cX8_possibleIn 1 = .ok (.aload_n 1, 1) := by decide +kernel
theorem dX8_possibleIn_2 : decode cX8_possibleIn 2 = .ok (.getfield 37, 3) := by decide +kernel
theorem dX8_possibleIn_5 : decode cX8_possibleIn 5 = .ok (.ishl, 1) := by decide +kernel
theorem dX8_possibleIn_6 : decode cX8_possibleIn 6 = .ok (.iconst 1, 1) := by decide +kernel
theorem dX8_possibleIn_7 : decode cX8_possibleIn 7 = .ok (.isub, 1) := by decide +kernel
theorem dX8_possibleIn_8 : decode cX8_possibleIn 8 = .ok (.istore 4, 2) := by decide +kernel
theorem dX8_possibleIn_10 : decode cX8_possibleIn 10 = .ok (.iconst 0, 1) := by decide +kernel
theorem dX8_possibleIn_11 : decode cX8_possibleIn 11 = .ok (.istore 5, 2) := by decide +kernel
theorem dX8_possibleIn_13 : decode cX8_possibleIn 13 = .ok (.iload 5, 2) := by decide +kernel
theorem dX8_possibleIn_15 : decode cX8_possibleIn 15 = .ok (.aload_n 0, 1) := by decide +kernel
theorem dX8_possibleIn_16 : decode cX8_possibleIn 16 = .ok (.getfield 33, 3) := by decide +kernel
theorem dX8_possibleIn_19 : decode cX8_possibleIn 19 = .ok (.if_icmp .ge 37, 3) := by decide +kernel
theorem dX8_possibleIn_22 : decode cX8_possibleIn 22 = .ok (.aload_n 0, 1) := by decide +kernel
theorem dX8_possibleIn_23 : decode cX8_possibleIn 23 = .ok (.aload_n 1, 1) := by decide +kernel
theorem dX8_possibleIn_24 : decode cX8_possibleIn 24 = .ok (.iload 5, 2) := by decide +kernel
theorem dX8_possibleIn_26 : decode cX8_possibleIn 26 = .ok (.iload_n 2, 1) := by decide +kernel
theorem dX8_possibleIn_27 : decode cX8_possibleIn 27 = .ok (.iload_n 3, 1) := by decide +kernel
theorem dX8_possibleIn_28 : decode cX8_possibleIn 28 = .ok (.invokevirtual 41, 3) := by decide +kernel
theorem dX8_possibleIn_31 : decode cX8_possibleIn 31 = .ok (.ifCond .ne 19, 3) := by decide +kernel
theorem dX8_possibleIn_34 : decode cX8_possibleIn 34 = .ok (.iload 4, 2) := by decide +kernel
theorem dX8_possibleIn_36 : decode cX8_possibleIn 36 = .ok (.iconst 1, 1) := by decide +kernel
theorem dX8_possibleIn_37 : decode cX8_possibleIn 37 = .ok (.aload_n 0, 1) := by decide +kernel
theorem dX8_possibleIn_38 : decode cX8_possibleIn 38 = .ok (.getfield 9, 3) := by decide +kernel
theorem dX8_possibleIn_41 : decode cX8_possibleIn 41 = .ok (.iload 5, 2) := by decide +kernel
theorem dX8_possibleIn_43 : decode cX8_possibleIn 43 = .ok (.iaload, 1) := by decide +kernel
theorem dX8_possibleIn_44 : decode cX8_possibleIn 44 = .ok (.ishl, 1) := by decide +kernel
theorem dX8_possibleIn_45 : decode cX8_possibleIn 45 = .ok (.iconst (-1), 1) := by decide +kernel
theorem dX8_possibleIn_46 : decode cX8_possibleIn 46 = .ok (.ixor, 1) := by decide +kernel
theorem dX8_possibleIn_47 : decode cX8_possibleIn 47 = .ok (.iand, 1) := by decide +kernel
theorem dX8_possibleIn_48 : decode cX8_possibleIn 48 = .ok (.istore 4, 2) := by decide +kernel
theorem dX8_possibleIn_50 : decode cX8_possibleIn 50 = .ok (.iinc 5 1, 3) := by decide +kernel
theorem dX8_possibleIn_53 : decode cX8_possibleIn 53 = .ok (.goto (-40), 3) := by decide +kernel
theorem dX8_possibleIn_56 : decode cX8_possibleIn 56 = .ok (.iload 4, 2) := by decide +kernel
theorem dX8_possibleIn_58 : decode cX8_possibleIn 58 = .ok (.ireturn, 1) := by decide +kernel
theorem dX8_fewestFalse_0 : decode cX8_fewestFalse 0 = .ok (.aload_n 0, 1) := by decide +kernel
theorem dX8_fewestFalse_1 : decode cX8_fewestFalse 1 = .ok (.getfield 24, 3) := by decide +kernel
theorem dX8_fewestFalse_4 : decode cX8_fewestFalse 4 = .ok (.iconst 0, 1) := by decide +kernel
theorem dX8_fewestFalse_5 : decode cX8_fewestFalse 5 = .ok (.invokestatic 45, 3) := by decide +kernel
theorem dX8_fewestFalse_8 : decode cX8_fewestFalse 8 = .ok (.iconst 0, 1) := by decide +kernel
theorem dX8_fewestFalse_9 : decode cX8_fewestFalse 9 = .ok (.istore_n 2, 1) := by decide +kernel
theorem dX8_fewestFalse_10 : decode cX8_fewestFalse 10 = .ok (.iconst 0, 1) := by decide +kernel
theorem dX8_fewestFalse_11 : decode cX8_fewestFalse 11 = .ok (.istore_n 3, 1) := by decide +kernel
theorem dX8_fewestFalse_12 : decode cX8_fewestFalse 12 = .ok (.iload_n 3, 1) := by decide +kernel
theorem dX8_fewestFalse_13 : decode cX8_fewestFalse 13 = .ok (.aload_n 0, 1) := by decide +kernel
theorem dX8_fewestFalse_14 : decode cX8_fewestFalse 14 = .ok (.getfield 33, 3) := by decide +kernel
theorem dX8_fewestFalse_17 : decode cX8_fewestFalse 17 = .ok (.if_icmp .ge 138, 3) := by decide +kernel
theorem dX8_fewestFalse_20 : decode cX8_fewestFalse 20 = .ok (.aload_n 0, 1) := by decide +kernel
theorem dX8_fewestFalse_21 : decode cX8_fewestFalse 21 = .ok (.getfield 21, 3) := by decide +kernel
theorem dX8_fewestFalse_24 : decode cX8_fewestFalse 24 = .ok (.iload_n 3, 1) := by decide +kernel
theorem dX8_fewestFalse_25 : decode cX8_fewestFalse 25 = .ok (.iconst 1, 1) := by decide +kernel
theorem dX8_fewestFalse_26 : decode cX8_fewestFalse 26 = .ok (.iastore, 1) := by decide +kernel
theorem dX8_fewestFalse_27 : decode cX8_fewestFalse 27 = .ok (.iconst 0, 1) := by decide +kernel
theorem dX8_fewestFalse_28 : decode cX8_fewestFalse 28 = .ok (.istore 4, 2) := by decide +kernel
theorem dX8_fewestFalse_30 : decode cX8_fewestFalse 30 = .ok (.iload 4, 2) := by decide +kernel
theorem dX8_fewestFalse_32 : decode cX8_fewestFalse 32 = .ok (.iload_n 3, 1) := by decide +kernel
theorem dX8_fewestFalse_33 : decode cX8_fewestFalse 33 = .ok (.if_icmp .ge 71, 3) := by decide +kernel
theorem dX8_fewestFalse_36 : decode cX8_fewestFalse 36 = .ok (.aload_n 0, 1) := by decide +kernel
theorem dX8_fewestFalse_37 : decode cX8_fewestFalse 37 = .ok (.getfield 9, 3) := by decide +kernel
theorem dX8_fewestFalse_40 : decode cX8_fewestFalse 40 = .ok (.iload 4, 2) := by decide +kernel
theorem dX8_fewestFalse_42 : decode cX8_fewestFalse 42 = .ok (.iaload, 1) := by decide +kernel
theorem dX8_fewestFalse_43 : decode cX8_fewestFalse 43 = .ok (.aload_n 0, 1) := by decide +kernel
theorem dX8_fewestFalse_44 : decode cX8_fewestFalse 44 = .ok (.getfield 9, 3) := by decide +kernel
theorem dX8_fewestFalse_47 : decode cX8_fewestFalse 47 = .ok (.iload_n 3, 1) := by decide +kernel
theorem dX8_fewestFalse_48 : decode cX8_fewestFalse 48 = .ok (.iaload, 1) := by decide +kernel
theorem dX8_fewestFalse_49 : decode cX8_fewestFalse 49 = .ok (.if_icmp .ne 49, 3) := by decide +kernel
theorem dX8_fewestFalse_52 : decode cX8_fewestFalse 52 = .ok (.aload_n 0, 1) := by decide +kernel
theorem dX8_fewestFalse_53 : decode cX8_fewestFalse 53 = .ok (.aload_n 1, 1) := by decide +kernel
theorem dX8_fewestFalse_54 : decode cX8_fewestFalse 54 = .ok (.iload 4, 2) := by decide +kernel
theorem dX8_fewestFalse_56 : decode cX8_fewestFalse 56 = .ok (.aload_n 0, 1) := by decide +kernel
theorem dX8_fewestFalse_57 : decode cX8_fewestFalse 57 = .ok (.getfield 15, 3) := by decide +kernel
theorem dX8_fewestFalse_60 : decode cX8_fewestFalse 60 = .ok (.iload_n 3, 1) := by decide +kernel
theorem dX8_fewestFalse_61 : decode cX8_fewestFalse 61 = .ok (.iaload, 1) := by decide +kernel
theorem dX8_fewestFalse_62 : decode cX8_fewestFalse 62 = .ok (.aload_n 0, 1) := by decide +kernel
theorem dX8_fewestFalse_63 : decode cX8_fewestFalse 63 = .ok (.getfield 18, 3) := by decide +kernel
theorem dX8_fewestFalse_66 : decode cX8_fewestFalse 66 = .ok (.iload_n 3, 1) := by decide +kernel
theorem dX8_fewestFalse_67 : decode cX8_fewestFalse 67 = .ok (.iaload, 1) := by decide +kernel
theorem dX8_fewestFalse_68 : decode cX8_fewestFalse 68 = .ok (.invokevirtual 41, 3) := by decide +kernel
theorem dX8_fewestFalse_71 : decode cX8_fewestFalse 71 = .ok (.ifCond .eq 27, 3) := by decide +kernel
theorem dX8_fewestFalse_74 : decode cX8_fewestFalse 74 = .ok (.aload_n 0, 1) := by decide +kernel
theorem dX8_fewestFalse_75 : decode cX8_fewestFalse 75 = .ok (.getfield 21, 3) := by decide +kernel
theorem dX8_fewestFalse_78 : decode cX8_fewestFalse 78 = .ok (.iload_n 3, 1) := by decide +kernel
theorem dX8_fewestFalse_79 : decode cX8_fewestFalse 79 = .ok (.aload_n 0, 1) := by decide +kernel
theorem dX8_fewestFalse_80 : decode cX8_fewestFalse 80 = .ok (.getfield 21, 3) := by decide +kernel
theorem dX8_fewestFalse_83 : decode cX8_fewestFalse 83 = .ok (.iload_n 3, 1) := by decide +kernel
theorem dX8_fewestFalse_84 : decode cX8_fewestFalse 84 = .ok (.iaload, 1) := by decide +kernel
theorem dX8_fewestFalse_85 : decode cX8_fewestFalse 85 = .ok (.aload_n 0, 1) := by decide +kernel
theorem dX8_fewestFalse_86 : decode cX8_fewestFalse 86 = .ok (.getfield 21, 3) := by decide +kernel
theorem dX8_fewestFalse_89 : decode cX8_fewestFalse 89 = .ok (.iload 4, 2) := by decide +kernel
theorem dX8_fewestFalse_91 : decode cX8_fewestFalse 91 = .ok (.iaload, 1) := by decide +kernel
theorem dX8_fewestFalse_92 : decode cX8_fewestFalse 92 = .ok (.iconst 1, 1) := by decide +kernel
theorem dX8_fewestFalse_93 : decode cX8_fewestFalse 93 = .ok (.iadd, 1) := by decide +kernel
theorem dX8_fewestFalse_94 : decode cX8_fewestFalse 94 = .ok (.invokestatic 51, 3) := by decide +kernel
theorem dX8_fewestFalse_97 : decode cX8_fewestFalse 97 = .ok (.iastore, 1) := by decide +kernel
theorem dX8_fewestFalse_98 : decode cX8_fewestFalse 98 = .ok (.iinc 4 1, 3) := by decide +kernel
theorem dX8_fewestFalse_101 : decode cX8_fewestFalse 101 = .ok (.goto (-71), 3) := by decide +kernel
theorem dX8_fewestFalse_104 : decode cX8_fewestFalse 104 = .ok (.iconst 0, 1) := by decide +kernel
theorem dX8_fewestFalse_105 : decode cX8_fewestFalse 105 = .ok (.aload_n 0, 1) := by decide +kernel
theorem dX8_fewestFalse_106 : decode cX8_fewestFalse 106 = .ok (.getfield 21, 3) := by decide +kernel
theorem dX8_fewestFalse_109 : decode cX8_fewestFalse 109 = .ok (.iload_n 3, 1) := by decide +kernel
theorem dX8_fewestFalse_110 : decode cX8_fewestFalse 110 = .ok (.iaload, 1) := by decide +kernel
theorem dX8_fewestFalse_111 : decode cX8_fewestFalse 111 = .ok (.aload_n 0, 1) := by decide +kernel
theorem dX8_fewestFalse_112 : decode cX8_fewestFalse 112 = .ok (.getfield 24, 3) := by decide +kernel
theorem dX8_fewestFalse_115 : decode cX8_fewestFalse 115 = .ok (.aload_n 0, 1) := by decide +kernel
theorem dX8_fewestFalse_116 : decode cX8_fewestFalse 116 = .ok (.getfield 9, 3) := by decide +kernel
theorem dX8_fewestFalse_119 : decode cX8_fewestFalse 119 = .ok (.iload_n 3, 1) := by decide +kernel
theorem dX8_fewestFalse_120 : decode cX8_fewestFalse 120 = .ok (.iaload, 1) := by decide +kernel
theorem dX8_fewestFalse_121 : decode cX8_fewestFalse 121 = .ok (.iaload, 1) := by decide +kernel
theorem dX8_fewestFalse_122 : decode cX8_fewestFalse 122 = .ok (.isub, 1) := by decide +kernel
theorem dX8_fewestFalse_123 : decode cX8_fewestFalse 123 = .ok (.invokestatic 51, 3) := by decide +kernel
theorem dX8_fewestFalse_126 : decode cX8_fewestFalse 126 = .ok (.istore 4, 2) := by decide +kernel
theorem dX8_fewestFalse_128 : decode cX8_fewestFalse 128 = .ok (.aload_n 0, 1) := by decide +kernel
theorem dX8_fewestFalse_129 : decode cX8_fewestFalse 129 = .ok (.getfield 24, 3) := by decide +kernel
theorem dX8_fewestFalse_132 : decode cX8_fewestFalse 132 = .ok (.aload_n 0, 1) := by decide +kernel
theorem dX8_fewestFalse_133 : decode cX8_fewestFalse 133 = .ok (.getfield 9, 3) := by decide +kernel
theorem dX8_fewestFalse_136 : decode cX8_fewestFalse 136 = .ok (.iload_n 3, 1) := by decide +kernel
theorem dX8_fewestFalse_137 : decode cX8_fewestFalse 137 = .ok (.iaload, 1) := by decide +kernel
theorem dX8_fewestFalse_138 : decode cX8_fewestFalse 138 = .ok (.dup2, 1) := by decide +kernel
theorem dX8_fewestFalse_139 : decode cX8_fewestFalse 139 = .ok (.iaload, 1) := by decide +kernel
theorem dX8_fewestFalse_140 : decode cX8_fewestFalse 140 = .ok (.iload 4, 2) := by decide +kernel
theorem dX8_fewestFalse_142 : decode cX8_fewestFalse 142 = .ok (.iadd, 1) := by decide +kernel
theorem dX8_fewestFalse_143 : decode cX8_fewestFalse 143 = .ok (.iastore, 1) := by decide +kernel
theorem dX8_fewestFalse_144 : decode cX8_fewestFalse 144 = .ok (.iload_n 2, 1) := by decide +kernel
theorem dX8_fewestFalse_145 : decode cX8_fewestFalse 145 = .ok (.iload 4, 2) := by decide +kernel
theorem dX8_fewestFalse_147 : decode cX8_fewestFalse 147 = .ok (.iadd, 1) := by decide +kernel
theorem dX8_fewestFalse_148 : decode cX8_fewestFalse 148 = .ok (.istore_n 2, 1) := by decide +kernel
theorem dX8_fewestFalse_149 : decode cX8_fewestFalse 149 = .ok (.iinc 3 1, 3) := by decide +kernel
theorem dX8_fewestFalse_152 : decode cX8_fewestFalse 152 = .ok (.goto (-140), 3) := by decide +kernel
theorem dX8_fewestFalse_155 : decode cX8_fewestFalse 155 = .ok (.aload_n 0, 1) := by decide +kernel
theorem dX8_fewestFalse_156 : decode cX8_fewestFalse 156 = .ok (.getfield 33, 3) := by decide +kernel
theorem dX8_fewestFalse_159 : decode cX8_fewestFalse 159 = .ok (.iload_n 2, 1) := by decide +kernel
theorem dX8_fewestFalse_160 : decode cX8_fewestFalse 160 = .ok (.isub, 1) := by decide +kernel
theorem dX8_fewestFalse_161 : decode cX8_fewestFalse 161 = .ok (.ireturn, 1) := by decide +kernel
theorem dX8_isInReach_0 : decode cX8_isInReach 0 = .ok (.aload_n 1, 1) := by decide +kernel
theorem dX8_isInReach_1 : decode cX8_isInReach 1 = .ok (.aload_n 0, 1) := by decide +kernel
theorem dX8_isInReach_2 : decode cX8_isInReach 2 = .ok (.getfield 15, 3) := by decide +kernel
theorem dX8_isInReach_5 : decode cX8_isInReach 5 = .ok (.iload_n 2, 1) := by decide +kernel
theorem dX8_isInReach_6 : decode cX8_isInReach 6 = .ok (.iaload, 1) := by decide +kernel
theorem dX8_isInReach_7 : decode cX8_isInReach 7 = .ok (.iload_n 3, 1) := by decide +kernel
theorem dX8_isInReach_8 : decode cX8_isInReach 8 = .ok (.invokevirtual 57, 3) := by decide +kernel
theorem dX8_isInReach_11 : decode cX8_isInReach 11 = .ok (.aload_n 0, 1) := by decide +kernel
theorem dX8_isInReach_12 : decode cX8_isInReach 12 = .ok (.getfield 18, 3) := by decide +kernel
theorem dX8_isInReach_15 : decode cX8_isInReach 15 = .ok (.iload_n 2, 1) := by decide +kernel
theorem dX8_isInReach_16 : decode cX8_isInReach 16 = .ok (.iaload, 1) := by decide +kernel
theorem dX8_isInReach_17 : decode cX8_isInReach 17 = .ok (.iload 4, 2) := by decide +kernel
theorem dX8_isInReach_19 : decode cX8_isInReach 19 = .ok (.isub, 1) := by decide +kernel
theorem dX8_isInReach_20 : decode cX8_isInReach 20 = .ok (.invokestatic 60, 3) := by decide +kernel
theorem dX8_isInReach_23 : decode cX8_isInReach 23 = .ok (.if_icmp .gt 7, 3) := by decide +kernel
theorem dX8_isInReach_26 : decode cX8_isInReach 26 = .ok (.iconst 1, 1) := by decide +kernel
theorem dX8_isInReach_27 : decode cX8_isInReach 27 = .ok (.goto 4, 3) := by decide +kernel
theorem dX8_isInReach_30 : decode cX8_isInReach 30 = .ok (.iconst 0, 1) := by decide +kernel
theorem dX8_isInReach_31 : decode cX8_isInReach 31 = .ok (.ireturn, 1) := by decide +kernel
theorem dX9_init_0 : decode cX9_init 0 = .ok (.aload_n 0, 1) := by decide +kernel
theorem dX9_init_1 : decode cX9_init 1 = .ok (.invokespecial 3, 3) := by decide +kernel
theorem dX9_init_4 : decode cX9_init 4 = .ok (.aload_n 0, 1) := by decide +kernel
theorem dX9_init_5 : decode cX9_init 5 = .ok (.new 9, 3) := by decide +kernel
theorem dX9_init_8 : decode cX9_init 8 = .ok (.dup, 1) := by decide +kernel
theorem dX9_init_9 : decode cX9_init 9 = .ok (.invokespecial 11, 3) := by decide +kernel
theorem dX9_init_12 : decode cX9_init 12 = .ok (.putfield 12, 3) := by decide +kernel
theorem dX9_init_15 : decode cX9_init 15 = .ok (.aload_n 0, 1) := by decide +kernel
theorem dX9_init_16 : decode cX9_init 16 = .ok (.iconst 5, 1) := by decide +kernel
theorem dX9_init_17 : decode cX9_init 17 = .ok (.anewarray 9, 3) := by decide +kernel
theorem dX9_init_20 : decode cX9_init 20 = .ok (.putfield 18, 3) := by decide +kernel
theorem dX9_init_23 : decode cX9_init 23 = .ok (.aload_n 0, 1) := by decide +kernel
theorem dX9_init_24 : decode cX9_init 24 = .ok (.new 22, 3) := by decide +kernel
theorem dX9_init_27 : decode cX9_init 27 = .ok (.dup, 1) := by decide +kernel
theorem dX9_init_28 : decode cX9_init 28 = .ok (.invokespecial 24, 3) := by decide +kernel
theorem dX9_init_31 : decode cX9_init 31 = .ok (.putfield 25, 3) := by decide +kernel
theorem dX9_init_34 : decode cX9_init 34 = .ok (.aload_n 0, 1) := by decide +kernel
theorem dX9_init_35 : decode cX9_init 35 = .ok (.new 29, 3) := by decide +kernel
theorem dX9_init_38 : decode cX9_init 38 = .ok (.dup, 1) := by decide +kernel
theorem dX9_init_39 : decode cX9_init 39 = .ok (.invokespecial 31, 3) := by decide +kernel
theorem dX9_init_42 : decode cX9_init 42 = .ok (.putfield 32, 3) := by decide +kernel
theorem dX9_init_45 : decode cX9_init 45 = .ok (.aload_n 0, 1) := by decide +kernel
theorem dX9_init_46 : decode cX9_init 46 = .ok (.new 36, 3) := by decide +kernel
theorem dX9_init_49 : decode cX9_init 49 = .ok (.dup, 1) := by decide +kernel
theorem dX9_init_50 : decode cX9_init 50 = .ok (.invokespecial 38, 3) := by decide +kernel
theorem dX9_init_53 : decode cX9_init 53 = .ok (.putfield 39, 3) := by decide +kernel
theorem dX9_init_56 : decode cX9_init 56 = .ok (.aload_n 0, 1) := by decide +kernel
theorem dX9_init_57 : decode cX9_init 57 = .ok (.new 43, 3) := by decide +kernel
theorem dX9_init_60 : decode cX9_init 60 = .ok (.dup, 1) := by decide +kernel
theorem dX9_init_61 : decode cX9_init 61 = .ok (.invokespecial 45, 3) := by decide +kernel
theorem dX9_init_64 : decode cX9_init 64 = .ok (.putfield 46, 3) := by decide +kernel
theorem dX9_init_67 : decode cX9_init 67 = .ok (.aload_n 0, 1) := by decide +kernel
theorem dX9_init_68 : decode cX9_init 68 = .ok (.iconst (-1), 1) := by decide +kernel
theorem dX9_init_69 : decode cX9_init 69 = .ok (.putfield 50, 3) := by decide +kernel
theorem dX9_init_72 : decode cX9_init 72 = .ok (.aload_n 0, 1) := by decide +kernel
theorem dX9_init_73 : decode cX9_init 73 = .ok (.aload_n 1, 1) := by decide +kernel
theorem dX9_init_74 : decode cX9_init 74 = .ok (.putfield 54, 3) := by decide +kernel
theorem dX9_init_77 : decode cX9_init 77 = .ok (.iconst 0, 1) := by decide +kernel
theorem dX9_init_78 : decode cX9_init 78 = .ok (.istore_n 2, 1) := by decide +kernel
theorem dX9_init_79 : decode cX9_init 79 = .ok (.iload_n 2, 1) := by decide +kernel
theorem dX9_init_80 : decode cX9_init 80 = .ok (.aload_n 0, 1) := by decide +kernel
theorem dX9_init_81 : decode cX9_init 81 = .ok (.getfield 18, 3) := by decide +kernel
theorem dX9_init_84 : decode cX9_init 84 = .ok (.arraylength, 1) := by decide +kernel
theorem dX9_init_85 : decode cX9_init 85 = .ok (.if_icmp .ge 22, 3) := by decide +kernel
theorem dX9_init_88 : decode cX9_init 88 = .ok (.aload_n 0, 1) := by decide +kernel
theorem dX9_init_89 : decode cX9_init 89 = .ok (.getfield 18, 3) := by decide +kernel
theorem dX9_init_92 : decode cX9_init 92 = .ok (.iload_n 2, 1) := by decide +kernel
theorem dX9_init_93 : decode cX9_init 93 = .ok (.new 9, 3) := by decide +kernel
theorem dX9_init_96 : decode cX9_init 96 = .ok (.dup, 1) := by decide +kernel
theorem dX9_init_97 : decode cX9_init 97 = .ok (.invokespecial 11, 3) := by decide +kernel
theorem dX9_init_100 : decode cX9_init 100 = .ok (.aastore, 1) := by decide +kernel
theorem dX9_init_101 : decode cX9_init 101 = .ok (.iinc 2 1, 3) := by decide +kernel
theorem dX9_init_104 : decode cX9_init 104 = .ok (.goto (-25), 3) := by decide +kernel
theorem dX9_init_107 : decode cX9_init 107 = .ok (.return_, 1) := by decide +kernel
theorem dX9_reset_0 : decode cX9_reset 0 = .ok (.aload_n 0, 1) := by decide +kernel
theorem dX9_reset_1 : decode cX9_reset 1 = .ok (.getfield 12, 3) := by decide +kernel
theorem dX9_reset_4 : decode cX9_reset 4 = .ok (.invokevirtual 58, 3) := by decide +kernel
theorem dX9_reset_7 : decode cX9_reset 7 = .ok (.iconst 0, 1) := by decide +kernel
theorem dX9_reset_8 : decode cX9_reset 8 = .ok (.istore_n 2, 1) := by decide +kernel
theorem dX9_reset_9 : decode cX9_reset 9 = .ok (.iload_n 2, 1) := by decide +kernel
theorem dX9_reset_10 : decode cX9_reset 10 = .ok (.aload_n 0, 1) := by decide +kernel
theorem dX9_reset_11 : decode cX9_reset 11 = .ok (.getfield 18, 3) := by decide +kernel
theorem dX9_reset_14 : decode cX9_reset 14 = .ok (.arraylength, 1) := by decide +kernel
theorem dX9_reset_15 : decode cX9_reset 15 = .ok (.if_icmp .ge 18, 3) := by decide +kernel
theorem dX9_reset_18 : decode cX9_reset 18 = .ok (.aload_n 0, 1) := by decide +kernel
theorem dX9_reset_19 : decode cX9_reset 19 = .ok (.getfield 18, 3) := by decide +kernel
theorem dX9_reset_22 : decode cX9_reset 22 = .ok (.iload_n 2, 1) := by decide +kernel
theorem dX9_reset_23 : decode cX9_reset 23 = .ok (.aaload, 1) := by decide +kernel
theorem dX9_reset_24 : decode cX9_reset 24 = .ok (.invokevirtual 58, 3) := by decide +kernel
theorem dX9_reset_27 : decode cX9_reset 27 = .ok (.iinc 2 1, 3) := by decide +kernel
theorem dX9_reset_30 : decode cX9_reset 30 = .ok (.goto (-21), 3) := by decide +kernel
theorem dX9_reset_33 : decode cX9_reset 33 = .ok (.aload_n 0, 1) := by decide +kernel
theorem dX9_reset_34 : decode cX9_reset 34 = .ok (.getfield 25, 3) := by decide +kernel
theorem dX9_reset_37 : decode cX9_reset 37 = .ok (.invokevirtual 61, 3) := by decide +kernel
theorem dX9_reset_40 : decode cX9_reset 40 = .ok (.aload_n 0, 1) := by decide +kernel
theorem dX9_reset_41 : decode cX9_reset 41 = .ok (.getfield 32, 3) := by decide +kernel
theorem dX9_reset_44 : decode cX9_reset 44 = .ok (.iconst 0, 1) := by decide +kernel
theorem dX9_reset_45 : decode cX9_reset 45 = .ok (.putfield 62, 3) := by decide +kernel
theorem dX9_reset_48 : decode cX9_reset 48 = .ok (.aload_n 0, 1) := by decide +kernel
theorem dX9_reset_49 : decode cX9_reset 49 = .ok (.getfield 39, 3) := by decide +kernel
theorem dX9_reset_52 : decode cX9_reset 52 = .ok (.getfield 65, 3) := by decide +kernel
theorem dX9_reset_55 : decode cX9_reset 55 = .ok (.iconst 0, 1) := by decide +kernel
theorem dX9_reset_56 : decode cX9_reset 56 = .ok (.invokestatic 69, 3) := by decide +kernel
theorem dX9_reset_59 : decode cX9_reset 59 = .ok (.aload_n 0, 1) := by decide +kernel
theorem dX9_reset_60 : decode cX9_reset 60 = .ok (.getfield 46, 3) := by decide +kernel
theorem dX9_reset_63 : decode cX9_reset 63 = .ok (.iconst 0, 1) := by decide +kernel
theorem dX9_reset_64 : decode cX9_reset 64 = .ok (.putfield 75, 3) := by decide +kernel
theorem dX9_reset_67 : decode cX9_reset 67 = .ok (.aload_n 0, 1) := by decide +kernel
theorem dX9_reset_68 : decode cX9_reset 68 = .ok (.iconst 0, 1) := by decide +kernel
theorem dX9_reset_69 : decode cX9_reset 69 = .ok (.putfield 76, 3) := by decide +kernel
theorem dX9_reset_72 : decode cX9_reset 72 = .ok (.aload_n 0, 1) := by decide +kernel
theorem dX9_reset_73 : decode cX9_reset 73 = .ok (.iload_n 1, 1) := by decide +kernel
theorem dX9_reset_74 : decode cX9_reset 74 = .ok (.putfield 50, 3) := by decide +kernel
theorem dX9_reset_77 : decode cX9_reset 77 = .ok (.aload_n 0, 1) := by decide +kernel
theorem dX9_reset_78 : decode cX9_reset 78 = .ok (.iconst 0, 1) := by decide +kernel
theorem dX9_reset_79 : decode cX9_reset 79 = .ok (.putfield 79, 3) := by decide +kernel
theorem dX9_reset_82 : decode cX9_reset 82 = .ok (.aload_n 0, 1) := by decide +kernel
theorem dX9_reset_83 : decode cX9_reset 83 = .ok (.iconst 0, 1) := by decide +kernel
theorem dX9_reset_84 : decode cX9_reset 84 = .ok (.putfield 82, 3) := by decide +kernel
theorem dX9_reset_87 : decode cX9_reset 87 = .ok (.return_, 1) := by decide +kernel
theorem dX9_copyFrom_0 : decode cX9_copyFrom 0 = .ok (.aload_n 0, 1) := by decide +kernel
theorem dX9_copyFrom_1 : decode cX9_copyFrom 1 = .ok (.getfield 12, 3) := by decide +kernel
theorem dX9_copyFrom_4 : decode cX9_copyFrom 4 = .ok (.aload_n 1, 1) := by decide +kernel
theorem dX9_copyFrom_5 : decode cX9_copyFrom 5 = .ok (.getfield 12, 3) := by decide +kernel
theorem dX9_copyFrom_8 : decode cX9_copyFrom 8 = .ok (.invokevirtual 85, 3) := by decide +kernel
theorem dX9_copyFrom_11 : decode cX9_copyFrom 11 = .ok (.iconst 0, 1) := by decide +kernel
theorem dX9_copyFrom_12 : decode cX9_copyFrom 12 = .ok (.istore_n 2, 1) := by decide +kernel
theorem dX9_copyFrom_13 : decode cX9_copyFrom 13 = .ok (.iload_n 2, 1) := by decide +kernel
theorem dX9_copyFrom_14 : decode cX9_copyFrom 14 = .ok (.aload_n 0, 1) := by decide +kernel
theorem dX9_copyFrom_15 : decode cX9_copyFrom 15 = .ok (.getfield 18, 3) := by decide +kernel
theorem dX9_copyFrom_18 : decode cX9_copyFrom 18 = .ok (.arraylength, 1) := by decide +kernel
theorem dX9_copyFrom_19 : decode cX9_copyFrom 19 = .ok (.if_icmp .ge 24, 3) := by decide +kernel
theorem dX9_copyFrom_22 : decode cX9_copyFrom 22 = .ok (.aload_n 0, 1) := by decide +kernel
theorem dX9_copyFrom_23 : decode cX9_copyFrom 23 = .ok (.getfield 18, 3) := by decide +kernel
theorem dX9_copyFrom_26 : decode cX9_copyFrom 26 = .ok (.iload_n 2, 1) := by decide +kernel
theorem dX9_copyFrom_27 : decode cX9_copyFrom 27 = .ok (.aaload, 1) := by decide +kernel
theorem dX9_copyFrom_28 : decode cX9_copyFrom 28 = .ok (.aload_n 1, 1) := by decide +kernel
theorem dX9_copyFrom_29 : decode cX9_copyFrom 29 = .ok (.getfield 18, 3) := by decide +kernel
theorem dX9_copyFrom_32 : decode cX9_copyFrom 32 = .ok (.iload_n 2, 1) := by decide +kernel
theorem dX9_copyFrom_33 : decode cX9_copyFrom 33 = .ok (.aaload, 1) := by decide +kernel
theorem dX9_copyFrom_34 : decode cX9_copyFrom 34 = .ok (.invokevirtual 85, 3) := by decide +kernel
theorem dX9_copyFrom_37 : decode cX9_copyFrom 37 = .ok (.iinc 2 1, 3) := by decide +kernel
theorem dX9_copyFrom_40 : decode cX9_copyFrom 40 = .ok (.goto (-27), 3) := by decide +kernel
theorem dX9_copyFrom_43 : decode cX9_copyFrom 43 = .ok (.aload_n 0, 1) := by decide +kernel
theorem dX9_copyFrom_44 : decode cX9_copyFrom 44 = .ok (.getfield 25, 3) := by decide +kernel
theorem dX9_copyFrom_47 : decode cX9_copyFrom 47 = .ok (.aload_n 1, 1) := by decide +kernel
theorem dX9_copyFrom_48 : decode cX9_copyFrom 48 = .ok (.getfield 25, 3) := by decide +kernel
theorem dX9_copyFrom_51 : decode cX9_copyFrom 51 = .ok (.invokevirtual 89, 3) := by decide +kernel
theorem dX9_copyFrom_54 : decode cX9_copyFrom 54 = .ok (.aload_n 0, 1) := by decide +kernel
theorem dX9_copyFrom_55 : decode cX9_copyFrom 55 = .ok (.getfield 32, 3) := by decide +kernel
theorem dX9_copyFrom_58 : decode cX9_copyFrom 58 = .ok (.aload_n 1, 1) := by decide +kernel
theorem dX9_copyFrom_59 : decode cX9_copyFrom 59 = .ok (.getfield 32, 3) := by decide +kernel
theorem dX9_copyFrom_62 : decode cX9_copyFrom 62 = .ok (.invokevirtual 92, 3) := by decide +kernel
theorem dX9_copyFrom_65 : decode cX9_copyFrom 65 = .ok (.aload_n 1, 1) := by decide +kernel
theorem dX9_copyFrom_66 : decode cX9_copyFrom 66 = .ok (.getfield 39, 3) := by decide +kernel
theorem dX9_copyFrom_69 : decode cX9_copyFrom 69 = .ok (.getfield 65, 3) := by decide +kernel
theorem dX9_copyFrom_72 : decode cX9_copyFrom 72 = .ok (.iconst 0, 1) := by decide +kernel
theorem dX9_copyFrom_73 : decode cX9_copyFrom 73 = .ok (.aload_n 0, 1) := by decide +kernel
theorem dX9_copyFrom_74 : decode cX9_copyFrom 74 = .ok (.getfield 39, 3) := by decide +kernel
theorem dX9_copyFrom_77 : decode cX9_copyFrom 77 = .ok (.getfield 65, 3) := by decide +kernel
theorem dX9_copyFrom_80 : decode cX9_copyFrom 80 = .ok (.iconst 0, 1) := by decide +kernel
theorem dX9_copyFrom_81 : decode cX9_copyFrom 81 = .ok (.bipush 10, 2) := by decide +kernel
theorem dX9_copyFrom_83 : decode cX9_copyFrom 83 = .ok (.invokestatic 95, 3) := by decide +kernel
theorem dX9_copyFrom_86 : decode cX9_copyFrom 86 = .ok (.aload_n 0, 1) := by decide +kernel
theorem dX9_copyFrom_87 : decode cX9_copyFrom 87 = .ok (.getfield 46, 3) := by decide +kernel
theorem dX9_copyFrom_90 : decode cX9_copyFrom 90 = .ok (.aload_n 1, 1) := by decide +kernel
theorem dX9_copyFrom_91 : decode cX9_copyFrom 91 = .ok (.getfield 46, 3) := by decide +kernel
theorem dX9_copyFrom_94 : decode cX9_copyFrom 94 = .ok (.invokevirtual 101, 3) := by decide +kernel
theorem dX9_copyFrom_97 : decode cX9_copyFrom 97 = .ok (.aload_n 0, 1) := by decide +kernel
theorem dX9_copyFrom_98 : decode cX9_copyFrom 98 = .ok (.aload_n 1, 1) := by decide +kernel
theorem dX9_copyFrom_99 : decode cX9_copyFrom 99 = .ok (.getfield 76, 3) := by decide +kernel
theorem dX9_copyFrom_102 : decode cX9_copyFrom 102 = .ok (.putfield 76, 3) := by decide +kernel
theorem dX9_copyFrom_105 : decode cX9_copyFrom 105 = .ok (.aload_n 0, 1) := by decide +kernel
theorem dX9_copyFrom_106 : decode cX9_copyFrom 106 = .ok (.aload_n 1, 1) := by decide +kernel
theorem dX9_copyFrom_107 : decode cX9_copyFrom 107 = .ok (.getfield 50, 3) := by decide +kernel
theorem dX9_copyFrom_110 : decode cX9_copyFrom 110 = .ok (.putfield 50, 3) := by decide +kernel
theorem dX9_copyFrom_113 : decode cX9_copyFrom 113 = .ok (.aload_n 0, 1) := by decide +kernel
theorem dX9_copyFrom_114 : decode cX9_copyFrom 114 = .ok (.aload_n 1, 1) := by decide +kernel
theorem dX9_copyFrom_115 : decode cX9_copyFrom 115 = .ok (.getfield 79, 3) := by decide +kernel
theorem dX9_copyFrom_118 : decode cX9_copyFrom 118 = .ok (.putfield 79, 3) := by decide +kernel
theorem dX9_copyFrom_121 : decode cX9_copyFrom 121 = .ok (.aload_n 0, 1) := by decide +kernel
theorem dX9_copyFrom_122 : decode cX9_copyFrom 122 = .ok (.aload_n 1, 1) := by decide +kernel
theorem dX9_copyFrom_123 : decode cX9_copyFrom 123 = .ok (.getfield 82, 3) := by decide +kernel
theorem dX9_copyFrom_126 : decode cX9_copyFrom 126 = .ok (.putfield 82, 3) := by decide +kernel
theorem dX9_copyFrom_129 : decode cX9_copyFrom 129 = .ok (.return_, 1) := by decide +kernel
theorem dX9_trialOf_0 : decode cX9_trialOf 0 = .ok (.aload_n 0, 1) := by decide +kernel
theorem dX9_trialOf_1 : decode cX9_trialOf 1 = .ok (.getfield 18, 3) := by decide +kernel
theorem dX9_trialOf_4 : decode cX9_trialOf 4 = .ok (.iload_n 1, 1) := by decide +kernel
theorem dX9_trialOf_5 : decode cX9_trialOf 5 = .ok (.iconst 1, 1) := by decide +kernel
theorem dX9_trialOf_6 : decode cX9_trialOf 6 = .ok (.iadd, 1) := by decide +kernel
theorem dX9_trialOf_7 : decode cX9_trialOf 7 = .ok (.aaload, 1) := by decide +kernel
theorem dX9_trialOf_8 : decode cX9_trialOf 8 = .ok (.areturn, 1) := by decide +kernel
theorem dX9_takeIn_0 : decode cX9_takeIn 0 = .ok (.aload_n 0, 1) := by decide +kernel
theorem dX9_takeIn_1 : decode cX9_takeIn 1 = .ok (.iload_n 3, 1) := by decide +kernel
theorem dX9_takeIn_2 : decode cX9_takeIn 2 = .ok (.invokevirtual 104, 3) := by decide +kernel
theorem dX9_takeIn_5 : decode cX9_takeIn 5 = .ok (.aload_n 0, 1) := by decide +kernel
theorem dX9_takeIn_6 : decode cX9_takeIn 6 = .ok (.getfield 12, 3) := by decide +kernel
theorem dX9_takeIn_9 : decode cX9_takeIn 9 = .ok (.aload_n 1, 1) := by decide +kernel
theorem dX9_takeIn_10 : decode cX9_takeIn 10 = .ok (.iload_n 2, 1) := by decide +kernel
theorem dX9_takeIn_11 : decode cX9_takeIn 11 = .ok (.aload_n 0, 1) := by decide +kernel
theorem dX9_takeIn_12 : decode cX9_takeIn 12 = .ok (.getfield 25, 3) := by decide +kernel
theorem dX9_takeIn_15 : decode cX9_takeIn 15 = .ok (.invokevirtual 108, 3) := by decide +kernel
theorem dX9_takeIn_18 : decode cX9_takeIn 18 = .ok (.iconst (-1), 1) := by decide +kernel
theorem dX9_takeIn_19 : decode cX9_takeIn 19 = .ok (.istore 4, 2) := by decide +kernel
theorem dX9_takeIn_21 : decode cX9_takeIn 21 = .ok (.iload 4, 2) := by decide +kernel
theorem dX9_takeIn_23 : decode cX9_takeIn 23 = .ok (.aload_n 1, 1) := by decide +kernel
theorem dX9_takeIn_24 : decode cX9_takeIn 24 = .ok (.getfield 112, 3) := by decide +kernel
theorem dX9_takeIn_27 : decode cX9_takeIn 27 = .ok (.if_icmp .ge 21, 3) := by decide +kernel
theorem dX9_takeIn_30 : decode cX9_takeIn 30 = .ok (.aload_n 0, 1) := by decide +kernel
theorem dX9_takeIn_31 : decode cX9_takeIn 31 = .ok (.iload 4, 2) := by decide +kernel
theorem dX9_takeIn_33 : decode cX9_takeIn 33 = .ok (.invokevirtual 117, 3) := by decide +kernel
theorem dX9_takeIn_36 : decode cX9_takeIn 36 = .ok (.aload_n 1, 1) := by decide +kernel
theorem dX9_takeIn_37 : decode cX9_takeIn 37 = .ok (.iload_n 2, 1) := by decide +kernel
theorem dX9_takeIn_38 : decode cX9_takeIn 38 = .ok (.aconst_null, 1) := by decide +kernel
theorem dX9_takeIn_39 : decode cX9_takeIn 39 = .ok (.invokevirtual 108, 3) := by decide +kernel
theorem dX9_takeIn_42 : decode cX9_takeIn 42 = .ok (.iinc 4 1, 3) := by decide +kernel
theorem dX9_takeIn_45 : decode cX9_takeIn 45 = .ok (.goto (-24), 3) := by decide +kernel
theorem dX9_takeIn_48 : decode cX9_takeIn 48 = .ok (.aload_n 0, 1) := by decide +kernel
theorem dX9_takeIn_49 : decode cX9_takeIn 49 = .ok (.dup, 1) := by decide +kernel
theorem dX9_takeIn_50 : decode cX9_takeIn 50 = .ok (.getfield 76, 3) := by decide +kernel
theorem dX9_takeIn_53 : decode cX9_takeIn 53 = .ok (.iconst 1, 1) := by decide +kernel
theorem dX9_takeIn_54 : decode cX9_takeIn 54 = .ok (.iload_n 2, 1) := by decide +kernel
theorem dX9_takeIn_55 : decode cX9_takeIn 55 = .ok (.ishl, 1) := by decide +kernel
theorem dX9_takeIn_56 : decode cX9_takeIn 56 = .ok (.iconst (-1), 1) := by decide +kernel
theorem dX9_takeIn_57 : decode cX9_takeIn 57 = .ok (.ixor, 1) := by decide +kernel
theorem dX9_takeIn_58 : decode cX9_takeIn 58 = .ok (.iand, 1) := by decide +kernel
theorem dX9_takeIn_59 : decode cX9_takeIn 59 = .ok (.putfield 76, 3) := by decide +kernel
theorem dX9_takeIn_62 : decode cX9_takeIn 62 = .ok (.return_, 1) := by decide +kernel
theorem dX9_letOut_0 : decode cX9_letOut 0 = .ok (.aload_n 0, 1) := by decide +kernel
theorem dX9_letOut_1 : decode cX9_letOut 1 = .ok (.iload_n 3, 1) := by decide +kernel
theorem dX9_letOut_2 : decode cX9_letOut 2 = .ok (.invokevirtual 104, 3) := by decide +kernel
theorem dX9_letOut_5 : decode cX9_letOut 5 = .ok (.aload_n 0, 1) := by decide +kernel
theorem dX9_letOut_6 : decode cX9_letOut 6 = .ok (.getfield 12, 3) := by decide +kernel
theorem dX9_letOut_9 : decode cX9_letOut 9 = .ok (.aload_n 1, 1) := by decide +kernel
theorem dX9_letOut_10 : decode cX9_letOut 10 = .ok (.iload_n 2, 1) := by decide +kernel
theorem dX9_letOut_11 : decode cX9_letOut 11 = .ok (.aload_n 0, 1) := by decide +kernel
theorem dX9_letOut_12 : decode cX9_letOut 12 = .ok (.getfield 50, 3) := by decide +kernel
theorem dX9_letOut_15 : decode cX9_letOut 15 = .ok (.aload_n 0, 1) := by decide +kernel
theorem dX9_letOut_16 : decode cX9_letOut 16 = .ok (.getfield 54, 3) := by decide +kernel
theorem dX9_letOut_19 : decode cX9_letOut 19 = .ok (.aload_n 0, 1) := by decide +kernel
theorem dX9_letOut_20 : decode cX9_letOut 20 = .ok (.getfield 25, 3) := by decide +kernel
theorem dX9_letOut_23 : decode cX9_letOut 23 = .ok (.invokevirtual 121, 3) := by decide +kernel
theorem dX9_letOut_26 : decode cX9_letOut 26 = .ok (.iconst (-1), 1) := by decide +kernel
theorem dX9_letOut_27 : decode cX9_letOut 27 = .ok (.istore 4, 2) := by decide +kernel
theorem dX9_letOut_29 : decode cX9_letOut 29 = .ok (.iload 4, 2) := by decide +kernel
theorem dX9_letOut_31 : decode cX9_letOut 31 = .ok (.aload_n 1, 1) := by decide +kernel
theorem dX9_letOut_32 : decode cX9_letOut 32 = .ok (.getfield 112, 3) := by decide +kernel
theorem dX9_letOut_35 : decode cX9_letOut 35 = .ok (.if_icmp .ge 27, 3) := by decide +kernel
theorem dX9_letOut_38 : decode cX9_letOut 38 = .ok (.aload_n 0, 1) := by decide +kernel
theorem dX9_letOut_39 : decode cX9_letOut 39 = .ok (.iload 4, 2) := by decide +kernel
theorem dX9_letOut_41 : decode cX9_letOut 41 = .ok (.invokevirtual 117, 3) := by decide +kernel
theorem dX9_letOut_44 : decode cX9_letOut 44 = .ok (.aload_n 1, 1) := by decide +kernel
theorem dX9_letOut_45 : decode cX9_letOut 45 = .ok (.iload_n 2, 1) := by decide +kernel
theorem dX9_letOut_46 : decode cX9_letOut 46 = .ok (.iload 4, 2) := by decide +kernel
theorem dX9_letOut_48 : decode cX9_letOut 48 = .ok (.aload_n 0, 1) := by decide +kernel
theorem dX9_letOut_49 : decode cX9_letOut 49 = .ok (.getfield 54, 3) := by decide +kernel
theorem dX9_letOut_52 : decode cX9_letOut 52 = .ok (.aconst_null, 1) := by decide +kernel
theorem dX9_letOut_53 : decode cX9_letOut 53 = .ok (.invokevirtual 121, 3) := by decide +kernel
theorem dX9_letOut_56 : decode cX9_letOut 56 = .ok (.iinc 4 1, 3) := by decide +kernel
theorem dX9_letOut_59 : decode cX9_letOut 59 = .ok (.goto (-30), 3) := by decide +kernel
theorem dX9_letOut_62 : decode cX9_letOut 62 = .ok (.return_, 1) := by decide +kernel
theorem dX9_note_0 : decode cX9_note 0 = .ok (.aload_n 0, 1) := by decide +kernel
theorem dX9_note_1 : decode cX9_note 1 = .ok (.getfield 25, 3) := by decide +kernel
theorem dX9_note_4 : decode cX9_note 4 = .ok (.iload_n 1, 1) := by decide +kernel
theorem dX9_note_5 : decode cX9_note 5 = .ok (.invokevirtual 125, 3) := by decide +kernel
theorem dX9_note_8 : decode cX9_note 8 = .ok (.aload_n 0, 1) := by decide +kernel
theorem dX9_note_9 : decode cX9_note 9 = .ok (.iload_n 1, 1) := by decide +kernel
theorem dX9_note_10 : decode cX9_note 10 = .ok (.putfield 79, 3) := by decide +kernel
theorem dX9_note_13 : decode cX9_note 13 = .ok (.aload_n 0, 1) := by decide +kernel
theorem dX9_note_14 : decode cX9_note 14 = .ok (.dup, 1) := by decide +kernel
theorem dX9_note_15 : decode cX9_note 15 = .ok (.getfield 82, 3) := by decide +kernel
theorem dX9_note_18 : decode cX9_note 18 = .ok (.iconst 1, 1) := by decide +kernel
theorem dX9_note_19 : decode cX9_note 19 = .ok (.iadd, 1) := by decide +kernel
theorem dX9_note_20 : decode cX9_note 20 = .ok (.putfield 82, 3) := by decide +kernel
theorem dX9_note_23 : decode cX9_note 23 = .ok (.return_, 1) := by decide +kernel
theorem dX10_init_0 : decode cX10_init 0 = .ok (.aload_n 0, 1) := by decide +kernel
theorem dX10_init_1 : decode cX10_init 1 = .ok (.invokespecial 3, 3) := by decide +kernel
theorem dX10_init_4 : decode cX10_init 4 = .ok (.aload_n 0, 1) := by decide +kernel
theorem dX10_init_5 : decode cX10_init 5 = .ok (.sipush 1000, 3) := by decide +kernel
theorem dX10_init_8 : decode cX10_init 8 = .ok (.newarray .byte, 2) := by decide +kernel
theorem dX10_init_10 : decode cX10_init 10 = .ok (.putfield 9, 3) := by decide +kernel
theorem dX10_init_13 : decode cX10_init 13 = .ok (.return_, 1) := by decide +kernel
theorem dX10_length_0 : decode cX10_length 0 = .ok (.aload_n 0, 1) := by decide +kernel
theorem dX10_length_1 : decode cX10_length 1 = .ok (.getfield 15, 3) := by decide +kernel
theorem dX10_length_4 : decode cX10_length 4 = .ok (.ireturn, 1) := by decide +kernel
theorem dX10_empty_0 : decode cX10_empty 0 = .ok (.aload_n 0, 1) := by decide +kernel
theorem dX10_empty_1 : decode cX10_empty 1 = .ok (.iconst 0, 1) := by decide +kernel
theorem dX10_empty_2 : decode cX10_empty 2 = .ok (.putfield 15, 3) := by decide +kernel
theorem dX10_empty_5 : decode cX10_empty 5 = .ok (.return_, 1) := by decide +kernel
theorem dX10_append_0 : decode cX10_append 0 = .ok (.bipush 56, 2) := by decide +kernel
theorem dX10_append_2 : decode cX10_append 2 = .ok (.istore_n 3, 1) := by decide +kernel
theorem dX10_append_3 : decode cX10_append 3 = .ok (.iload_n 3, 1) := by decide +kernel
theorem dX10_append_4 : decode cX10_append 4 = .ok (.ifCond .lt 59, 3) := by decide +kernel
theorem dX10_append_7 : decode cX10_append 7 = .ok (.lload_n 1, 1) := by decide +kernel
theorem dX10_append_8 : decode cX10_append 8 = .ok (.iload_n 3, 1) := by decide +kernel
theorem dX10_append_9 : decode cX10_append 9 = .ok (.lushr, 1) := by decide +kernel
theorem dX10_append_10 : decode cX10_append 10 = .ok (.l2i, 1) := by decide +kernel
theorem dX10_append_11 : decode cX10_append 11 = .ok (.sipush 255, 3) := by decide +kernel
theorem dX10_append_14 : decode cX10_append 14 = .ok (.iand, 1) := by decide +kernel
theorem dX10_append_15 : decode cX10_append 15 = .ok (.istore 4, 2) := by decide +kernel
theorem dX10_append_17 : decode cX10_append 17 = .ok (.iload 4, 2) := by decide +kernel
theorem dX10_append_19 : decode cX10_append 19 = .ok (.invokestatic 19, 3) := by decide +kernel
theorem dX10_append_22 : decode cX10_append 22 = .ok (.ifCond .eq 35, 3) := by decide +kernel
theorem dX10_append_25 : decode cX10_append 25 = .ok (.aload_n 0, 1) := by decide +kernel
theorem dX10_append_26 : decode cX10_append 26 = .ok (.getfield 15, 3) := by decide +kernel
theorem dX10_append_29 : decode cX10_append 29 = .ok (.sipush 1000, 3) := by decide +kernel
theorem dX10_append_32 : decode cX10_append 32 = .ok (.if_icmp .ge 25, 3) := by decide +kernel
theorem dX10_append_35 : decode cX10_append 35 = .ok (.aload_n 0, 1) := by decide +kernel
theorem dX10_append_36 : decode cX10_append 36 = .ok (.getfield 9, 3) := by decide +kernel
theorem dX10_append_39 : decode cX10_append 39 = .ok (.aload_n 0, 1) := by decide +kernel
theorem dX10_append_40 : decode cX10_append 40 = .ok (.getfield 15, 3) := by decide +kernel
theorem dX10_append_43 : decode cX10_append 43 = .ok (.iload 4, 2) := by decide +kernel
theorem dX10_append_45 : decode cX10_append 45 = .ok (.i2b, 1) := by decide +kernel
theorem dX10_append_46 : decode cX10_append 46 = .ok (.bastore, 1) := by decide +kernel
theorem dX10_append_47 : decode cX10_append 47 = .ok (.aload_n 0, 1) := by decide +kernel
theorem dX10_append_48 : decode cX10_append 48 = .ok (.dup, 1) := by decide +kernel
theorem dX10_append_49 : decode cX10_append 49 = .ok (.getfield 15, 3) := by decide +kernel
theorem dX10_append_52 : decode cX10_append 52 = .ok (.iconst 1, 1) := by decide +kernel
theorem dX10_append_53 : decode cX10_append 53 = .ok (.iadd, 1) := by decide +kernel
theorem dX10_append_54 : decode cX10_append 54 = .ok (.putfield 15, 3) := by decide +kernel
theorem dX10_append_57 : decode cX10_append 57 = .ok (.iinc 3 (-8), 3) := by decide +kernel
theorem dX10_append_60 : decode cX10_append 60 = .ok (.goto (-57), 3) := by decide +kernel
theorem dX10_append_63 : decode cX10_append 63 = .ok (.return_, 1) := by decide +kernel
theorem dX10_goToFirstToken_0 : decode cX10_goToFirstToken 0 = .ok (.aload_n 0, 1) := by decide +kernel
theorem dX10_goToFirstToken_1 : decode cX10_goToFirstToken 1 = .ok (.iconst 0, 1) := by decide +kernel
theorem dX10_goToFirstToken_2 : decode cX10_goToFirstToken 2 = .ok (.putfield 23, 3) := by decide +kernel
theorem dX10_goToFirstToken_5 : decode cX10_goToFirstToken 5 = .ok (.aload_n 0, 1) := by decide +kernel
theorem dX10_goToFirstToken_6 : decode cX10_goToFirstToken 6 = .ok (.invokevirtual 26, 3) := by decide +kernel
theorem dX10_goToFirstToken_9 : decode cX10_goToFirstToken 9 = .ok (.return_, 1) := by decide +kernel
theorem dX10_advance_0 : decode cX10_advance 0 = .ok (.aload_n 0, 1) := by decide +kernel
theorem dX10_advance_1 : decode cX10_advance 1 = .ok (.getfield 23, 3) := by decide +kernel
theorem dX10_advance_4 : decode cX10_advance 4 = .ok (.aload_n 0, 1) := by decide +kernel
theorem dX10_advance_5 : decode cX10_advance 5 = .ok (.getfield 15, 3) := by decide +kernel
theorem dX10_advance_8 : decode cX10_advance 8 = .ok (.if_icmp .ge 31, 3) := by decide +kernel
theorem dX10_advance_11 : decode cX10_advance 11 = .ok (.aload_n 0, 1) := by decide +kernel
theorem dX10_advance_12 : decode cX10_advance 12 = .ok (.getfield 9, 3) := by decide +kernel
theorem dX10_advance_15 : decode cX10_advance 15 = .ok (.aload_n 0, 1) := by decide +kernel
theorem dX10_advance_16 : decode cX10_advance 16 = .ok (.getfield 23, 3) := by decide +kernel
theorem dX10_advance_19 : decode cX10_advance 19 = .ok (.baload, 1) := by decide +kernel
theorem dX10_advance_20 : decode cX10_advance 20 = .ok (.invokestatic 29, 3) := by decide +kernel
theorem dX10_advance_23 : decode cX10_advance 23 = .ok (.ifCond .eq 16, 3) := by decide +kernel
theorem dX10_advance_26 : decode cX10_advance 26 = .ok (.aload_n 0, 1) := by decide +kernel
theorem dX10_advance_27 : decode cX10_advance 27 = .ok (.dup, 1) := by decide +kernel
theorem dX10_advance_28 : decode cX10_advance 28 = .ok (.getfield 23, 3) := by decide +kernel
theorem dX10_advance_31 : decode cX10_advance 31 = .ok (.iconst 1, 1) := by decide +kernel
theorem dX10_advance_32 : decode cX10_advance 32 = .ok (.iadd, 1) := by decide +kernel
theorem dX10_advance_33 : decode cX10_advance 33 = .ok (.putfield 23, 3) := by decide +kernel
theorem dX10_advance_36 : decode cX10_advance 36 = .ok (.goto (-36), 3) := by decide +kernel
theorem dX10_advance_39 : decode cX10_advance 39 = .ok (.aload_n 0, 1) := by decide +kernel
theorem dX10_advance_40 : decode cX10_advance 40 = .ok (.aload_n 0, 1) := by decide +kernel
theorem dX10_advance_41 : decode cX10_advance 41 = .ok (.getfield 23, 3) := by decide +kernel
theorem dX10_advance_44 : decode cX10_advance 44 = .ok (.putfield 32, 3) := by decide +kernel
theorem dX10_advance_47 : decode cX10_advance 47 = .ok (.aload_n 0, 1) := by decide +kernel
theorem dX10_advance_48 : decode cX10_advance 48 = .ok (.lconst 0, 1) := by decide +kernel
theorem dX10_advance_49 : decode cX10_advance 49 = .ok (.putfield 35, 3) := by decide +kernel
theorem dX10_advance_52 : decode cX10_advance 52 = .ok (.aload_n 0, 1) := by decide +kernel
theorem dX10_advance_53 : decode cX10_advance 53 = .ok (.getfield 23, 3) := by decide +kernel
theorem dX10_advance_56 : decode cX10_advance 56 = .ok (.aload_n 0, 1) := by decide +kernel
theorem dX10_advance_57 : decode cX10_advance 57 = .ok (.getfield 15, 3) := by decide +kernel
theorem dX10_advance_60 : decode cX10_advance 60 = .ok (.if_icmp .ge 59, 3) := by decide +kernel
theorem dX10_advance_63 : decode cX10_advance 63 = .ok (.aload_n 0, 1) := by decide +kernel
theorem dX10_advance_64 : decode cX10_advance 64 = .ok (.getfield 9, 3) := by decide +kernel
theorem dX10_advance_67 : decode cX10_advance 67 = .ok (.aload_n 0, 1) := by decide +kernel
theorem dX10_advance_68 : decode cX10_advance 68 = .ok (.getfield 23, 3) := by decide +kernel
theorem dX10_advance_71 : decode cX10_advance 71 = .ok (.baload, 1) := by decide +kernel
theorem dX10_advance_72 : decode cX10_advance 72 = .ok (.invokestatic 39, 3) := by decide +kernel
theorem dX10_advance_75 : decode cX10_advance 75 = .ok (.ifCond .eq 44, 3) := by decide +kernel
theorem dX10_advance_78 : decode cX10_advance 78 = .ok (.aload_n 0, 1) := by decide +kernel
theorem dX10_advance_79 : decode cX10_advance 79 = .ok (.aload_n 0, 1) := by decide +kernel
theorem dX10_advance_80 : decode cX10_advance 80 = .ok (.getfield 35, 3) := by decide +kernel
theorem dX10_advance_83 : decode cX10_advance 83 = .ok (.ldc2_w 42, 3) := by decide +kernel
theorem dX10_advance_86 : decode cX10_advance 86 = .ok (.lmul, 1) := by decide +kernel
theorem dX10_advance_87 : decode cX10_advance 87 = .ok (.aload_n 0, 1) := by decide +kernel
theorem dX10_advance_88 : decode cX10_advance 88 = .ok (.getfield 9, 3) := by decide +kernel
theorem dX10_advance_91 : decode cX10_advance 91 = .ok (.aload_n 0, 1) := by decide +kernel
theorem dX10_advance_92 : decode cX10_advance 92 = .ok (.getfield 23, 3) := by decide +kernel
theorem dX10_advance_95 : decode cX10_advance 95 = .ok (.baload, 1) := by decide +kernel
theorem dX10_advance_96 : decode cX10_advance 96 = .ok (.bipush 97, 2) := by decide +kernel
theorem dX10_advance_98 : decode cX10_advance 98 = .ok (.isub, 1) := by decide +kernel
theorem dX10_advance_99 : decode cX10_advance 99 = .ok (.iconst 1, 1) := by decide +kernel
theorem dX10_advance_100 : decode cX10_advance 100 = .ok (.iadd, 1) := by decide +kernel
theorem dX10_advance_101 : decode cX10_advance 101 = .ok (.i2l, 1) := by decide +kernel
theorem dX10_advance_102 : decode cX10_advance 102 = .ok (.ladd, 1) := by decide +kernel
theorem dX10_advance_103 : decode cX10_advance 103 = .ok (.putfield 35, 3) := by decide +kernel
theorem dX10_advance_106 : decode cX10_advance 106 = .ok (.aload_n 0, 1) := by decide +kernel
theorem dX10_advance_107 : decode cX10_advance 107 = .ok (.dup, 1) := by decide +kernel
theorem dX10_advance_108 : decode cX10_advance 108 = .ok (.getfield 23, 3) := by decide +kernel
theorem dX10_advance_111 : decode cX10_advance 111 = .ok (.iconst 1, 1) := by decide +kernel
theorem dX10_advance_112 : decode cX10_advance 112 = .ok (.iadd, 1) := by decide +kernel
theorem dX10_advance_113 : decode cX10_advance 113 = .ok (.putfield 23, 3) := by decide +kernel
theorem dX10_advance_116 : decode cX10_advance 116 = .ok (.goto (-64), 3) := by decide +kernel
theorem dX10_advance_119 : decode cX10_advance 119 = .ok (.aload_n 0, 1) := by decide +kernel
theorem dX10_advance_120 : decode cX10_advance 120 = .ok (.getfield 23, 3) := by decide +kernel
theorem dX10_advance_123 : decode cX10_advance 123 = .ok (.aload_n 0, 1) := by decide +kernel
theorem dX10_advance_124 : decode cX10_advance 124 = .ok (.getfield 32, 3) := by decide +kernel
theorem dX10_advance_127 : decode cX10_advance 127 = .ok (.if_icmp .le 27, 3) := by decide +kernel
theorem dX10_advance_130 : decode cX10_advance 130 = .ok (.aload_n 0, 1) := by decide +kernel
theorem dX10_advance_131 : decode cX10_advance 131 = .ok (.aload_n 0, 1) := by decide +kernel
theorem dX10_advance_132 : decode cX10_advance 132 = .ok (.getfield 23, 3) := by decide +kernel
theorem dX10_advance_135 : decode cX10_advance 135 = .ok (.aload_n 0, 1) := by decide +kernel
theorem dX10_advance_136 : decode cX10_advance 136 = .ok (.getfield 32, 3) := by decide +kernel
theorem dX10_advance_139 : decode cX10_advance 139 = .ok (.isub, 1) := by decide +kernel
theorem dX10_advance_140 : decode cX10_advance 140 = .ok (.bipush 8, 2) := by decide +kernel
theorem dX10_advance_142 : decode cX10_advance 142 = .ok (.if_icmp .gt 7, 3) := by decide +kernel
theorem dX10_advance_145 : decode cX10_advance 145 = .ok (.iconst 1, 1) := by decide +kernel
theorem dX10_advance_146 : decode cX10_advance 146 = .ok (.goto 4, 3) := by decide +kernel
theorem dX10_advance_149 : decode cX10_advance 149 = .ok (.iconst 3, 1) := by decide +kernel
theorem dX10_advance_150 : decode cX10_advance 150 = .ok (.putfield 44, 3) := by decide +kernel
theorem dX10_advance_153 : decode cX10_advance 153 = .ok (.return_, 1) := by decide +kernel
theorem dX10_advance_154 : decode cX10_advance 154 = .ok (.aload_n 0, 1) := by decide +kernel
theorem dX10_advance_155 : decode cX10_advance 155 = .ok (.iconst 0, 1) := by decide +kernel
theorem dX10_advance_156 : decode cX10_advance 156 = .ok (.putfield 47, 3) := by decide +kernel
theorem dX10_advance_159 : decode cX10_advance 159 = .ok (.aload_n 0, 1) := by decide +kernel
theorem dX10_advance_160 : decode cX10_advance 160 = .ok (.getfield 23, 3) := by decide +kernel
theorem dX10_advance_163 : decode cX10_advance 163 = .ok (.aload_n 0, 1) := by decide +kernel
theorem dX10_advance_164 : decode cX10_advance 164 = .ok (.getfield 15, 3) := by decide +kernel
theorem dX10_advance_167 : decode cX10_advance 167 = .ok (.if_icmp .ge 55, 3) := by decide +kernel
theorem dX10_advance_170 : decode cX10_advance 170 = .ok (.aload_n 0, 1) := by decide +kernel
theorem dX10_advance_171 : decode cX10_advance 171 = .ok (.getfield 9, 3) := by decide +kernel
theorem dX10_advance_174 : decode cX10_advance 174 = .ok (.aload_n 0, 1) := by decide +kernel
theorem dX10_advance_175 : decode cX10_advance 175 = .ok (.getfield 23, 3) := by decide +kernel
theorem dX10_advance_178 : decode cX10_advance 178 = .ok (.baload, 1) := by decide +kernel
theorem dX10_advance_179 : decode cX10_advance 179 = .ok (.invokestatic 50, 3) := by decide +kernel
theorem dX10_advance_182 : decode cX10_advance 182 = .ok (.ifCond .eq 40, 3) := by decide +kernel
theorem dX10_advance_185 : decode cX10_advance 185 = .ok (.aload_n 0, 1) := by decide +kernel
theorem dX10_advance_186 : decode cX10_advance 186 = .ok (.aload_n 0, 1) := by decide +kernel
theorem dX10_advance_187 : decode cX10_advance 187 = .ok (.getfield 47, 3) := by decide +kernel
theorem dX10_advance_190 : decode cX10_advance 190 = .ok (.bipush 10, 2) := by decide +kernel
theorem dX10_advance_192 : decode cX10_advance 192 = .ok (.imul, 1) := by decide +kernel
theorem dX10_advance_193 : decode cX10_advance 193 = .ok (.aload_n 0, 1) := by decide +kernel
theorem dX10_advance_194 : decode cX10_advance 194 = .ok (.getfield 9, 3) := by decide +kernel
theorem dX10_advance_197 : decode cX10_advance 197 = .ok (.aload_n 0, 1) := by decide +kernel
theorem dX10_advance_198 : decode cX10_advance 198 = .ok (.getfield 23, 3) := by decide +kernel
theorem dX10_advance_201 : decode cX10_advance 201 = .ok (.baload, 1) := by decide +kernel
theorem dX10_advance_202 : decode cX10_advance 202 = .ok (.bipush 48, 2) := by decide +kernel
theorem dX10_advance_204 : decode cX10_advance 204 = .ok (.isub, 1) := by decide +kernel
theorem dX10_advance_205 : decode cX10_advance 205 = .ok (.iadd, 1) := by decide +kernel
theorem dX10_advance_206 : decode cX10_advance 206 = .ok (.putfield 47, 3) := by decide +kernel
