theorem dX12_leaves_56 : decode cX12_leaves 56 = .ok (.iload_n 2, 1) := by decide +kernel
theorem dX12_leaves_57 : decode cX12_leaves 57 = .ok (.aload_n 0, 1) := by decide +kernel
theorem dX12_leaves_58 : decode cX12_leaves 58 = .ok (.getfield 86, 3) := by decide +kernel
theorem dX12_leaves_61 : decode cX12_leaves 61 = .ok (.iload 6, 2) := by decide +kernel
theorem dX12_leaves_63 : decode cX12_leaves 63 = .ok (.iaload, 1) := by decide +kernel
theorem dX12_leaves_64 : decode cX12_leaves 64 = .ok (.iload 6, 2) := by decide +kernel
theorem dX12_leaves_66 : decode cX12_leaves 66 = .ok (.iload_n 3, 1) := by decide +kernel
theorem dX12_leaves_67 : decode cX12_leaves 67 = .ok (.invokevirtual 277, 3) := by decide +kernel
theorem dX12_leaves_70 : decode cX12_leaves 70 = .ok (.istore 7, 2) := by decide +kernel
theorem dX12_leaves_72 : decode cX12_leaves 72 = .ok (.iload 7, 2) := by decide +kernel
theorem dX12_leaves_74 : decode cX12_leaves 74 = .ok (.iload 5, 2) := by decide +kernel
theorem dX12_leaves_76 : decode cX12_leaves 76 = .ok (.if_icmp .le 8, 3) := by decide +kernel
theorem dX12_leaves_79 : decode cX12_leaves 79 = .ok (.iload 6, 2) := by decide +kernel
theorem dX12_leaves_81 : decode cX12_leaves 81 = .ok (.goto 5, 3) := by decide +kernel
theorem dX12_leaves_84 : decode cX12_leaves 84 = .ok (.iload 4, 2) := by decide +kernel
theorem dX12_leaves_86 : decode cX12_leaves 86 = .ok (.istore 4, 2) := by decide +kernel
theorem dX12_leaves_88 : decode cX12_leaves 88 = .ok (.iload 7, 2) := by decide +kernel
theorem dX12_leaves_90 : decode cX12_leaves 90 = .ok (.iload 5, 2) := by decide +kernel
theorem dX12_leaves_92 : decode cX12_leaves 92 = .ok (.if_icmp .le 8, 3) := by decide +kernel
theorem dX12_leaves_95 : decode cX12_leaves 95 = .ok (.iload 7, 2) := by decide +kernel
theorem dX12_leaves_97 : decode cX12_leaves 97 = .ok (.goto 5, 3) := by decide +kernel
theorem dX12_leaves_100 : decode cX12_leaves 100 = .ok (.iload 5, 2) := by decide +kernel
theorem dX12_leaves_102 : decode cX12_leaves 102 = .ok (.istore 5, 2) := by decide +kernel
theorem dX12_leaves_104 : decode cX12_leaves 104 = .ok (.iinc 6 1, 3) := by decide +kernel
theorem dX12_leaves_107 : decode cX12_leaves 107 = .ok (.goto (-75), 3) := by decide +kernel
theorem dX12_leaves_110 : decode cX12_leaves 110 = .ok (.iload 4, 2) := by decide +kernel
theorem dX12_leaves_112 : decode cX12_leaves 112 = .ok (.ifCond .lt 17, 3) := by decide +kernel
theorem dX12_leaves_115 : decode cX12_leaves 115 = .ok (.aload_n 0, 1) := by decide +kernel
theorem dX12_leaves_116 : decode cX12_leaves 116 = .ok (.aload_n 0, 1) := by decide +kernel
theorem dX12_leaves_117 : decode cX12_leaves 117 = .ok (.getfield 86, 3) := by decide +kernel
theorem dX12_leaves_120 : decode cX12_leaves 120 = .ok (.iload 4, 2) := by decide +kernel
theorem dX12_leaves_122 : decode cX12_leaves 122 = .ok (.iaload, 1) := by decide +kernel
theorem dX12_leaves_123 : decode cX12_leaves 123 = .ok (.iload 4, 2) := by decide +kernel
theorem dX12_leaves_125 : decode cX12_leaves 125 = .ok (.iload_n 3, 1) := by decide +kernel
theorem dX12_leaves_126 : decode cX12_leaves 126 = .ok (.invokevirtual 267, 3) := by decide +kernel
theorem dX12_leaves_129 : decode cX12_leaves 129 = .ok (.iload 4, 2) := by decide +kernel
theorem dX12_leaves_131 : decode cX12_leaves 131 = .ok (.istore_n 3, 1) := by decide +kernel
theorem dX12_leaves_132 : decode cX12_leaves 132 = .ok (.goto (-119), 3) := by decide +kernel
theorem dX12_leaves_135 : decode cX12_leaves 135 = .ok (.return_, 1) := by decide +kernel
theorem dX12_goesThrough_0 : decode cX12_goesThrough 0 = .ok (.aload_n 0, 1) := by decide +kernel
theorem dX12_goesThrough_1 : decode cX12_goesThrough 1 = .ok (.invokevirtual 281, 3) := by decide +kernel
theorem dX12_goesThrough_4 : decode cX12_goesThrough 4 = .ok (.iconst 0, 1) := by decide +kernel
theorem dX12_goesThrough_5 : decode cX12_goesThrough 5 = .ok (.istore_n 3, 1) := by decide +kernel
theorem dX12_goesThrough_6 : decode cX12_goesThrough 6 = .ok (.iload_n 3, 1) := by decide +kernel
theorem dX12_goesThrough_7 : decode cX12_goesThrough 7 = .ok (.aload_n 0, 1) := by decide +kernel
theorem dX12_goesThrough_8 : decode cX12_goesThrough 8 = .ok (.invokevirtual 284, 3) := by decide +kernel
theorem dX12_goesThrough_11 : decode cX12_goesThrough 11 = .ok (.if_icmp .ge 85, 3) := by decide +kernel
theorem dX12_goesThrough_14 : decode cX12_goesThrough 14 = .ok (.aload_n 0, 1) := by decide +kernel
theorem dX12_goesThrough_15 : decode cX12_goesThrough 15 = .ok (.aload_n 0, 1) := by decide +kernel
theorem dX12_goesThrough_16 : decode cX12_goesThrough 16 = .ok (.getfield 252, 3) := by decide +kernel
theorem dX12_goesThrough_19 : decode cX12_goesThrough 19 = .ok (.aload_n 0, 1) := by decide +kernel
theorem dX12_goesThrough_20 : decode cX12_goesThrough 20 = .ok (.iload_n 3, 1) := by decide +kernel
theorem dX12_goesThrough_21 : decode cX12_goesThrough 21 = .ok (.iconst 2, 1) := by decide +kernel
theorem dX12_goesThrough_22 : decode cX12_goesThrough 22 = .ok (.invokevirtual 287, 3) := by decide +kernel
theorem dX12_goesThrough_25 : decode cX12_goesThrough 25 = .ok (.if_icmp .ge 12, 3) := by decide +kernel
theorem dX12_goesThrough_28 : decode cX12_goesThrough 28 = .ok (.aload_n 0, 1) := by decide +kernel
theorem dX12_goesThrough_29 : decode cX12_goesThrough 29 = .ok (.iload_n 3, 1) := by decide +kernel
theorem dX12_goesThrough_30 : decode cX12_goesThrough 30 = .ok (.iconst 2, 1) := by decide +kernel
theorem dX12_goesThrough_31 : decode cX12_goesThrough 31 = .ok (.invokevirtual 287, 3) := by decide +kernel
theorem dX12_goesThrough_34 : decode cX12_goesThrough 34 = .ok (.goto 7, 3) := by decide +kernel
theorem dX12_goesThrough_37 : decode cX12_goesThrough 37 = .ok (.aload_n 0, 1) := by decide +kernel
theorem dX12_goesThrough_38 : decode cX12_goesThrough 38 = .ok (.getfield 252, 3) := by decide +kernel
theorem dX12_goesThrough_41 : decode cX12_goesThrough 41 = .ok (.putfield 252, 3) := by decide +kernel
theorem dX12_goesThrough_44 : decode cX12_goesThrough 44 = .ok (.aload_n 0, 1) := by decide +kernel
theorem dX12_goesThrough_45 : decode cX12_goesThrough 45 = .ok (.iload_n 3, 1) := by decide +kernel
theorem dX12_goesThrough_46 : decode cX12_goesThrough 46 = .ok (.iconst 1, 1) := by decide +kernel
theorem dX12_goesThrough_47 : decode cX12_goesThrough 47 = .ok (.invokevirtual 287, 3) := by decide +kernel
theorem dX12_goesThrough_50 : decode cX12_goesThrough 50 = .ok (.ifCond .ne 16, 3) := by decide +kernel
theorem dX12_goesThrough_53 : decode cX12_goesThrough 53 = .ok (.aload_n 0, 1) := by decide +kernel
theorem dX12_goesThrough_54 : decode cX12_goesThrough 54 = .ok (.aload_n 0, 1) := by decide +kernel
theorem dX12_goesThrough_55 : decode cX12_goesThrough 55 = .ok (.iload_n 3, 1) := by decide +kernel
theorem dX12_goesThrough_56 : decode cX12_goesThrough 56 = .ok (.iconst 0, 1) := by decide +kernel
theorem dX12_goesThrough_57 : decode cX12_goesThrough 57 = .ok (.invokevirtual 287, 3) := by decide +kernel
theorem dX12_goesThrough_60 : decode cX12_goesThrough 60 = .ok (.invokevirtual 290, 3) := by decide +kernel
theorem dX12_goesThrough_63 : decode cX12_goesThrough 63 = .ok (.goto 27, 3) := by decide +kernel
theorem dX12_goesThrough_66 : decode cX12_goesThrough 66 = .ok (.aload_n 0, 1) := by decide +kernel
theorem dX12_goesThrough_67 : decode cX12_goesThrough 67 = .ok (.aload_n 0, 1) := by decide +kernel
theorem dX12_goesThrough_68 : decode cX12_goesThrough 68 = .ok (.iload_n 3, 1) := by decide +kernel
theorem dX12_goesThrough_69 : decode cX12_goesThrough 69 = .ok (.iconst 0, 1) := by decide +kernel
theorem dX12_goesThrough_70 : decode cX12_goesThrough 70 = .ok (.invokevirtual 287, 3) := by decide +kernel
theorem dX12_goesThrough_73 : decode cX12_goesThrough 73 = .ok (.iload_n 1, 1) := by decide +kernel
theorem dX12_goesThrough_74 : decode cX12_goesThrough 74 = .ok (.ifCond .eq 7, 3) := by decide +kernel
theorem dX12_goesThrough_77 : decode cX12_goesThrough 77 = .ok (.iload_n 2, 1) := by decide +kernel
theorem dX12_goesThrough_78 : decode cX12_goesThrough 78 = .ok (.goto 9, 3) := by decide +kernel
theorem dX12_goesThrough_81 : decode cX12_goesThrough 81 = .ok (.aload_n 0, 1) := by decide +kernel
theorem dX12_goesThrough_82 : decode cX12_goesThrough 82 = .ok (.iload_n 3, 1) := by decide +kernel
theorem dX12_goesThrough_83 : decode cX12_goesThrough 83 = .ok (.iconst 3, 1) := by decide +kernel
theorem dX12_goesThrough_84 : decode cX12_goesThrough 84 = .ok (.invokevirtual 287, 3) := by decide +kernel
theorem dX12_goesThrough_87 : decode cX12_goesThrough 87 = .ok (.invokevirtual 293, 3) := by decide +kernel
theorem dX12_goesThrough_90 : decode cX12_goesThrough 90 = .ok (.iinc 3 1, 3) := by decide +kernel
theorem dX12_goesThrough_93 : decode cX12_goesThrough 93 = .ok (.goto (-87), 3) := by decide +kernel
theorem dX12_goesThrough_96 : decode cX12_goesThrough 96 = .ok (.return_, 1) := by decide +kernel
theorem dX12_find_0 : decode cX12_find 0 = .ok (.aload_n 0, 1) := by decide +kernel
theorem dX12_find_1 : decode cX12_find 1 = .ok (.getfield 123, 3) := by decide +kernel
theorem dX12_find_4 : decode cX12_find 4 = .ok (.ifCond .eq 14, 3) := by decide +kernel
theorem dX12_find_7 : decode cX12_find 7 = .ok (.aload_n 0, 1) := by decide +kernel
theorem dX12_find_8 : decode cX12_find 8 = .ok (.iconst 0, 1) := by decide +kernel
theorem dX12_find_9 : decode cX12_find 9 = .ok (.putfield 123, 3) := by decide +kernel
theorem dX12_find_12 : decode cX12_find 12 = .ok (.aload_n 0, 1) := by decide +kernel
theorem dX12_find_13 : decode cX12_find 13 = .ok (.iconst 0, 1) := by decide +kernel
theorem dX12_find_14 : decode cX12_find 14 = .ok (.iconst (-1), 1) := by decide +kernel
theorem dX12_find_15 : decode cX12_find 15 = .ok (.invokevirtual 296, 3) := by decide +kernel
theorem dX12_find_18 : decode cX12_find 18 = .ok (.return_, 1) := by decide +kernel
theorem dX12_roomNow_0 : decode cX12_roomNow 0 = .ok (.aload_n 0, 1) := by decide +kernel
theorem dX12_roomNow_1 : decode cX12_roomNow 1 = .ok (.invokevirtual 300, 3) := by decide +kernel
theorem dX12_roomNow_4 : decode cX12_roomNow 4 = .ok (.aload_n 0, 1) := by decide +kernel
theorem dX12_roomNow_5 : decode cX12_roomNow 5 = .ok (.iload_n 1, 1) := by decide +kernel
theorem dX12_roomNow_6 : decode cX12_roomNow 6 = .ok (.invokevirtual 274, 3) := by decide +kernel
theorem dX12_roomNow_9 : decode cX12_roomNow 9 = .ok (.ireturn, 1) := by decide +kernel
theorem dX12_isTold_0 : decode cX12_isTold 0 = .ok (.iload_n 0, 1) := by decide +kernel
theorem dX12_isTold_1 : decode cX12_isTold 1 = .ok (.iconst 0, 1) := by decide +kernel
theorem dX12_isTold_2 : decode cX12_isTold 2 = .ok (.ldc_w 303, 3) := by decide +kernel
theorem dX12_isTold_5 : decode cX12_isTold 5 = .ok (.invokestatic 304, 3) := by decide +kernel
theorem dX12_isTold_8 : decode cX12_isTold 8 = .ok (.ireturn, 1) := by decide +kernel
theorem dX12_isMinute_0 : decode cX12_isMinute 0 = .ok (.iload_n 0, 1) := by decide +kernel
theorem dX12_isMinute_1 : decode cX12_isMinute 1 = .ok (.iconst 0, 1) := by decide +kernel
theorem dX12_isMinute_2 : decode cX12_isMinute 2 = .ok (.ldc_w 308, 3) := by decide +kernel
theorem dX12_isMinute_5 : decode cX12_isMinute 5 = .ok (.invokestatic 304, 3) := by decide +kernel
theorem dX12_isMinute_8 : decode cX12_isMinute 8 = .ok (.ireturn, 1) := by decide +kernel
theorem dX12_insideMany_0 : decode cX12_insideMany 0 = .ok (.aload_n 0, 1) := by decide +kernel
theorem dX12_insideMany_1 : decode cX12_insideMany 1 = .ok (.invokevirtual 300, 3) := by decide +kernel
theorem dX12_insideMany_4 : decode cX12_insideMany 4 = .ok (.iconst 0, 1) := by decide +kernel
theorem dX12_insideMany_5 : decode cX12_insideMany 5 = .ok (.istore_n 1, 1) := by decide +kernel
theorem dX12_insideMany_6 : decode cX12_insideMany 6 = .ok (.iconst 0, 1) := by decide +kernel
theorem dX12_insideMany_7 : decode cX12_insideMany 7 = .ok (.istore_n 2, 1) := by decide +kernel
theorem dX12_insideMany_8 : decode cX12_insideMany 8 = .ok (.iload_n 2, 1) := by decide +kernel
theorem dX12_insideMany_9 : decode cX12_insideMany 9 = .ok (.aload_n 0, 1) := by decide +kernel
theorem dX12_insideMany_10 : decode cX12_insideMany 10 = .ok (.invokevirtual 231, 3) := by decide +kernel
theorem dX12_insideMany_13 : decode cX12_insideMany 13 = .ok (.if_icmp .ge 26, 3) := by decide +kernel
theorem dX12_insideMany_16 : decode cX12_insideMany 16 = .ok (.iload_n 1, 1) := by decide +kernel
theorem dX12_insideMany_17 : decode cX12_insideMany 17 = .ok (.aload_n 0, 1) := by decide +kernel
theorem dX12_insideMany_18 : decode cX12_insideMany 18 = .ok (.getfield 86, 3) := by decide +kernel
theorem dX12_insideMany_21 : decode cX12_insideMany 21 = .ok (.iload_n 2, 1) := by decide +kernel
theorem dX12_insideMany_22 : decode cX12_insideMany 22 = .ok (.iaload, 1) := by decide +kernel
theorem dX12_insideMany_23 : decode cX12_insideMany 23 = .ok (.ifCond .lt 7, 3) := by decide +kernel
theorem dX12_insideMany_26 : decode cX12_insideMany 26 = .ok (.iconst 1, 1) := by decide +kernel
theorem dX12_insideMany_27 : decode cX12_insideMany 27 = .ok (.goto 4, 3) := by decide +kernel
theorem dX12_insideMany_30 : decode cX12_insideMany 30 = .ok (.iconst 0, 1) := by decide +kernel
theorem dX12_insideMany_31 : decode cX12_insideMany 31 = .ok (.iadd, 1) := by decide +kernel
theorem dX12_insideMany_32 : decode cX12_insideMany 32 = .ok (.istore_n 1, 1) := by decide +kernel
theorem dX12_insideMany_33 : decode cX12_insideMany 33 = .ok (.iinc 2 1, 3) := by decide +kernel
theorem dX12_insideMany_36 : decode cX12_insideMany 36 = .ok (.goto (-28), 3) := by decide +kernel
theorem dX12_insideMany_39 : decode cX12_insideMany 39 = .ok (.iload_n 1, 1) := by decide +kernel
theorem dX12_insideMany_40 : decode cX12_insideMany 40 = .ok (.ireturn, 1) := by decide +kernel
theorem dX12_room_0 : decode cX12_room 0 = .ok (.aload_n 0, 1) := by decide +kernel
theorem dX12_room_1 : decode cX12_room 1 = .ok (.iconst 0, 1) := by decide +kernel
theorem dX12_room_2 : decode cX12_room 2 = .ok (.putfield 1, 3) := by decide +kernel
theorem dX12_room_5 : decode cX12_room 5 = .ok (.aload_n 0, 1) := by decide +kernel
theorem dX12_room_6 : decode cX12_room 6 = .ok (.iload_n 1, 1) := by decide +kernel
theorem dX12_room_7 : decode cX12_room 7 = .ok (.invokevirtual 309, 3) := by decide +kernel
theorem dX12_room_10 : decode cX12_room 10 = .ok (.ifCond .eq 12, 3) := by decide +kernel
theorem dX12_room_13 : decode cX12_room 13 = .ok (.iload_n 2, 1) := by decide +kernel
theorem dX12_room_14 : decode cX12_room 14 = .ok (.iconst 0, 1) := by decide +kernel
theorem dX12_room_15 : decode cX12_room 15 = .ok (.iconst 2, 1) := by decide +kernel
theorem dX12_room_16 : decode cX12_room 16 = .ok (.invokestatic 304, 3) := by decide +kernel
theorem dX12_room_19 : decode cX12_room 19 = .ok (.ifCond .ne 5, 3) := by decide +kernel
theorem dX12_room_22 : decode cX12_room 22 = .ok (.iconst (-1), 1) := by decide +kernel
theorem dX12_room_23 : decode cX12_room 23 = .ok (.ireturn, 1) := by decide +kernel
theorem dX12_room_24 : decode cX12_room 24 = .ok (.aload_n 0, 1) := by decide +kernel
theorem dX12_room_25 : decode cX12_room 25 = .ok (.invokevirtual 300, 3) := by decide +kernel
theorem dX12_room_28 : decode cX12_room 28 = .ok (.iload_n 2, 1) := by decide +kernel
theorem dX12_room_29 : decode cX12_room 29 = .ok (.iconst 2, 1) := by decide +kernel
theorem dX12_room_30 : decode cX12_room 30 = .ok (.if_icmp .ge 18, 3) := by decide +kernel
theorem dX12_room_33 : decode cX12_room 33 = .ok (.aload_n 0, 1) := by decide +kernel
theorem dX12_room_34 : decode cX12_room 34 = .ok (.getfield 65, 3) := by decide +kernel
theorem dX12_room_37 : decode cX12_room 37 = .ok (.iconst 3, 1) := by decide +kernel
theorem dX12_room_38 : decode cX12_room 38 = .ok (.iconst 2, 1) := by decide +kernel
theorem dX12_room_39 : decode cX12_room 39 = .ok (.iload_n 1, 1) := by decide +kernel
theorem dX12_room_40 : decode cX12_room 40 = .ok (.imul, 1) := by decide +kernel
theorem dX12_room_41 : decode cX12_room 41 = .ok (.iadd, 1) := by decide +kernel
theorem dX12_room_42 : decode cX12_room 42 = .ok (.iload_n 2, 1) := by decide +kernel
theorem dX12_room_43 : decode cX12_room 43 = .ok (.iadd, 1) := by decide +kernel
theorem dX12_room_44 : decode cX12_room 44 = .ok (.iaload, 1) := by decide +kernel
theorem dX12_room_45 : decode cX12_room 45 = .ok (.goto 9, 3) := by decide +kernel
theorem dX12_room_48 : decode cX12_room 48 = .ok (.aload_n 0, 1) := by decide +kernel
theorem dX12_room_49 : decode cX12_room 49 = .ok (.getfield 86, 3) := by decide +kernel
theorem dX12_room_52 : decode cX12_room 52 = .ok (.iload_n 1, 1) := by decide +kernel
theorem dX12_room_53 : decode cX12_room 53 = .ok (.iaload, 1) := by decide +kernel
theorem dX12_room_54 : decode cX12_room 54 = .ok (.ireturn, 1) := by decide +kernel
theorem dX12_guest_0 : decode cX12_guest 0 = .ok (.aload_n 0, 1) := by decide +kernel
theorem dX12_guest_1 : decode cX12_guest 1 = .ok (.iconst 0, 1) := by decide +kernel
theorem dX12_guest_2 : decode cX12_guest 2 = .ok (.putfield 1, 3) := by decide +kernel
theorem dX12_guest_5 : decode cX12_guest 5 = .ok (.aload_n 0, 1) := by decide +kernel
theorem dX12_guest_6 : decode cX12_guest 6 = .ok (.iload_n 1, 1) := by decide +kernel
theorem dX12_guest_7 : decode cX12_guest 7 = .ok (.invokevirtual 312, 3) := by decide +kernel
theorem dX12_guest_10 : decode cX12_guest 10 = .ok (.ifCond .eq 12, 3) := by decide +kernel
theorem dX12_guest_13 : decode cX12_guest 13 = .ok (.iload_n 2, 1) := by decide +kernel
theorem dX12_guest_14 : decode cX12_guest 14 = .ok (.iconst 0, 1) := by decide +kernel
theorem dX12_guest_15 : decode cX12_guest 15 = .ok (.iconst 5, 1) := by decide +kernel
theorem dX12_guest_16 : decode cX12_guest 16 = .ok (.invokestatic 304, 3) := by decide +kernel
theorem dX12_guest_19 : decode cX12_guest 19 = .ok (.ifCond .ne 5, 3) := by decide +kernel
theorem dX12_guest_22 : decode cX12_guest 22 = .ok (.iconst (-1), 1) := by decide +kernel
theorem dX12_guest_23 : decode cX12_guest 23 = .ok (.ireturn, 1) := by decide +kernel
theorem dX12_guest_24 : decode cX12_guest 24 = .ok (.aload_n 0, 1) := by decide +kernel
theorem dX12_guest_25 : decode cX12_guest 25 = .ok (.iload_n 1, 1) := by decide +kernel
theorem dX12_guest_26 : decode cX12_guest 26 = .ok (.invokevirtual 315, 3) := by decide +kernel
theorem dX12_guest_29 : decode cX12_guest 29 = .ok (.istore_n 3, 1) := by decide +kernel
theorem dX12_guest_30 : decode cX12_guest 30 = .ok (.iload_n 2, 1) := by decide +kernel
theorem dX12_guest_31 : decode cX12_guest 31 = .ok (.iconst 3, 1) := by decide +kernel
theorem dX12_guest_32 : decode cX12_guest 32 = .ok (.if_icmp .ge 12, 3) := by decide +kernel
theorem dX12_guest_35 : decode cX12_guest 35 = .ok (.aload_n 0, 1) := by decide +kernel
theorem dX12_guest_36 : decode cX12_guest 36 = .ok (.iload_n 1, 1) := by decide +kernel
theorem dX12_guest_37 : decode cX12_guest 37 = .ok (.iload_n 2, 1) := by decide +kernel
theorem dX12_guest_38 : decode cX12_guest 38 = .ok (.invokevirtual 261, 3) := by decide +kernel
theorem dX12_guest_41 : decode cX12_guest 41 = .ok (.goto 32, 3) := by decide +kernel
theorem dX12_guest_44 : decode cX12_guest 44 = .ok (.iload_n 2, 1) := by decide +kernel
theorem dX12_guest_45 : decode cX12_guest 45 = .ok (.iconst 3, 1) := by decide +kernel
theorem dX12_guest_46 : decode cX12_guest 46 = .ok (.if_icmp .ne 7, 3) := by decide +kernel
theorem dX12_guest_49 : decode cX12_guest 49 = .ok (.iload_n 3, 1) := by decide +kernel
theorem dX12_guest_50 : decode cX12_guest 50 = .ok (.goto 23, 3) := by decide +kernel
theorem dX12_guest_53 : decode cX12_guest 53 = .ok (.iload_n 2, 1) := by decide +kernel
theorem dX12_guest_54 : decode cX12_guest 54 = .ok (.iconst 4, 1) := by decide +kernel
theorem dX12_guest_55 : decode cX12_guest 55 = .ok (.if_icmp .ne 12, 3) := by decide +kernel
theorem dX12_guest_58 : decode cX12_guest 58 = .ok (.aload_n 0, 1) := by decide +kernel
theorem dX12_guest_59 : decode cX12_guest 59 = .ok (.getfield 89, 3) := by decide +kernel
theorem dX12_guest_62 : decode cX12_guest 62 = .ok (.iload_n 1, 1) := by decide +kernel
theorem dX12_guest_63 : decode cX12_guest 63 = .ok (.iaload, 1) := by decide +kernel
theorem dX12_guest_64 : decode cX12_guest 64 = .ok (.goto 9, 3) := by decide +kernel
theorem dX12_guest_67 : decode cX12_guest 67 = .ok (.aload_n 0, 1) := by decide +kernel
theorem dX12_guest_68 : decode cX12_guest 68 = .ok (.getfield 92, 3) := by decide +kernel
theorem dX12_guest_71 : decode cX12_guest 71 = .ok (.iload_n 1, 1) := by decide +kernel
theorem dX12_guest_72 : decode cX12_guest 72 = .ok (.iaload, 1) := by decide +kernel
theorem dX12_guest_73 : decode cX12_guest 73 = .ok (.ireturn, 1) := by decide +kernel
theorem dX12_use_0 : decode cX12_use 0 = .ok (.aload_n 0, 1) := by decide +kernel
theorem dX12_use_1 : decode cX12_use 1 = .ok (.iconst 0, 1) := by decide +kernel
theorem dX12_use_2 : decode cX12_use 2 = .ok (.putfield 1, 3) := by decide +kernel
theorem dX12_use_5 : decode cX12_use 5 = .ok (.iload_n 1, 1) := by decide +kernel
theorem dX12_use_6 : decode cX12_use 6 = .ok (.iconst (-1), 1) := by decide +kernel
theorem dX12_use_7 : decode cX12_use 7 = .ok (.if_icmp .eq 13, 3) := by decide +kernel
theorem dX12_use_10 : decode cX12_use 10 = .ok (.aload_n 0, 1) := by decide +kernel
theorem dX12_use_11 : decode cX12_use 11 = .ok (.iload_n 1, 1) := by decide +kernel
theorem dX12_use_12 : decode cX12_use 12 = .ok (.invokevirtual 318, 3) := by decide +kernel
theorem dX12_use_15 : decode cX12_use 15 = .ok (.ifCond .ne 5, 3) := by decide +kernel
theorem dX12_use_18 : decode cX12_use 18 = .ok (.iconst 0, 1) := by decide +kernel
theorem dX12_use_19 : decode cX12_use 19 = .ok (.ireturn, 1) := by decide +kernel
theorem dX12_use_20 : decode cX12_use 20 = .ok (.aload_n 0, 1) := by decide +kernel
theorem dX12_use_21 : decode cX12_use 21 = .ok (.getfield 83, 3) := by decide +kernel
theorem dX12_use_24 : decode cX12_use 24 = .ok (.iconst 0, 1) := by decide +kernel
theorem dX12_use_25 : decode cX12_use 25 = .ok (.iload_n 1, 1) := by decide +kernel
theorem dX12_use_26 : decode cX12_use 26 = .ok (.iastore, 1) := by decide +kernel
theorem dX12_use_27 : decode cX12_use 27 = .ok (.iconst 1, 1) := by decide +kernel
theorem dX12_use_28 : decode cX12_use 28 = .ok (.ireturn, 1) := by decide +kernel
theorem dX12_gives_0 : decode cX12_gives 0 = .ok (.aload_n 0, 1) := by decide +kernel
theorem dX12_gives_1 : decode cX12_gives 1 = .ok (.iload_n 1, 1) := by decide +kernel
theorem dX12_gives_2 : decode cX12_gives 2 = .ok (.invokevirtual 318, 3) := by decide +kernel
theorem dX12_gives_5 : decode cX12_gives 5 = .ok (.ifCond .eq 27, 3) := by decide +kernel
theorem dX12_gives_8 : decode cX12_gives 8 = .ok (.aload_n 0, 1) := by decide +kernel
theorem dX12_gives_9 : decode cX12_gives 9 = .ok (.iload_n 2, 1) := by decide +kernel
theorem dX12_gives_10 : decode cX12_gives 10 = .ok (.invokevirtual 312, 3) := by decide +kernel
theorem dX12_gives_13 : decode cX12_gives 13 = .ok (.ifCond .eq 19, 3) := by decide +kernel
theorem dX12_gives_16 : decode cX12_gives 16 = .ok (.aload_n 0, 1) := by decide +kernel
theorem dX12_gives_17 : decode cX12_gives 17 = .ok (.iload_n 3, 1) := by decide +kernel
theorem dX12_gives_18 : decode cX12_gives 18 = .ok (.invokevirtual 309, 3) := by decide +kernel
theorem dX12_gives_21 : decode cX12_gives 21 = .ok (.ifCond .eq 11, 3) := by decide +kernel
theorem dX12_gives_24 : decode cX12_gives 24 = .ok (.aload_n 0, 1) := by decide +kernel
theorem dX12_gives_25 : decode cX12_gives 25 = .ok (.iload_n 2, 1) := by decide +kernel
theorem dX12_gives_26 : decode cX12_gives 26 = .ok (.invokevirtual 315, 3) := by decide +kernel
theorem dX12_gives_29 : decode cX12_gives 29 = .ok (.goto 4, 3) := by decide +kernel
theorem dX12_gives_32 : decode cX12_gives 32 = .ok (.iconst (-1), 1) := by decide +kernel
theorem dX12_gives_33 : decode cX12_gives 33 = .ok (.istore 4, 2) := by decide +kernel
theorem dX12_gives_35 : decode cX12_gives 35 = .ok (.aload_n 0, 1) := by decide +kernel
theorem dX12_gives_36 : decode cX12_gives 36 = .ok (.iload 4, 2) := by decide +kernel
theorem dX12_gives_38 : decode cX12_gives 38 = .ok (.ifCond .lt 13, 3) := by decide +kernel
theorem dX12_gives_41 : decode cX12_gives 41 = .ok (.iload 4, 2) := by decide +kernel
theorem dX12_gives_43 : decode cX12_gives 43 = .ok (.iload_n 3, 1) := by decide +kernel
theorem dX12_gives_44 : decode cX12_gives 44 = .ok (.if_icmp .eq 7, 3) := by decide +kernel
theorem dX12_gives_47 : decode cX12_gives 47 = .ok (.iconst 0, 1) := by decide +kernel
theorem dX12_gives_48 : decode cX12_gives 48 = .ok (.goto 4, 3) := by decide +kernel
theorem dX12_gives_51 : decode cX12_gives 51 = .ok (.iconst 1, 1) := by decide +kernel
theorem dX12_gives_52 : decode cX12_gives 52 = .ok (.putfield 1, 3) := by decide +kernel
theorem dX12_gives_55 : decode cX12_gives 55 = .ok (.aload_n 0, 1) := by decide +kernel
theorem dX12_gives_56 : decode cX12_gives 56 = .ok (.getfield 1, 3) := by decide +kernel
theorem dX12_gives_59 : decode cX12_gives 59 = .ok (.ifCond .le 7, 3) := by decide +kernel
theorem dX12_gives_62 : decode cX12_gives 62 = .ok (.iconst 0, 1) := by decide +kernel
theorem dX12_gives_63 : decode cX12_gives 63 = .ok (.goto 12, 3) := by decide +kernel
theorem dX12_gives_66 : decode cX12_gives 66 = .ok (.aload_n 0, 1) := by decide +kernel
theorem dX12_gives_67 : decode cX12_gives 67 = .ok (.iload_n 1, 1) := by decide +kernel
theorem dX12_gives_68 : decode cX12_gives 68 = .ok (.iload_n 2, 1) := by decide +kernel
theorem dX12_gives_69 : decode cX12_gives 69 = .ok (.iload 4, 2) := by decide +kernel
theorem dX12_gives_71 : decode cX12_gives 71 = .ok (.iload_n 3, 1) := by decide +kernel
theorem dX12_gives_72 : decode cX12_gives 72 = .ok (.invokevirtual 277, 3) := by decide +kernel
theorem dX12_gives_75 : decode cX12_gives 75 = .ok (.ireturn, 1) := by decide +kernel
theorem dX12_whyNot_0 : decode cX12_whyNot 0 = .ok (.aload_n 0, 1) := by decide +kernel
theorem dX12_whyNot_1 : decode cX12_whyNot 1 = .ok (.iload_n 1, 1) := by decide +kernel
theorem dX12_whyNot_2 : decode cX12_whyNot 2 = .ok (.invokevirtual 312, 3) := by decide +kernel
theorem dX12_whyNot_5 : decode cX12_whyNot 5 = .ok (.ifCond .eq 10, 3) := by decide +kernel
theorem dX12_whyNot_8 : decode cX12_whyNot 8 = .ok (.aload_n 0, 1) := by decide +kernel
theorem dX12_whyNot_9 : decode cX12_whyNot 9 = .ok (.invokevirtual 231, 3) := by decide +kernel
theorem dX12_whyNot_12 : decode cX12_whyNot 12 = .ok (.ifCond .ne 5, 3) := by decide +kernel
theorem dX12_whyNot_15 : decode cX12_whyNot 15 = .ok (.iconst 1, 1) := by decide +kernel
theorem dX12_whyNot_16 : decode cX12_whyNot 16 = .ok (.ireturn, 1) := by decide +kernel
theorem dX12_whyNot_17 : decode cX12_whyNot 17 = .ok (.aload_n 0, 1) := by decide +kernel
theorem dX12_whyNot_18 : decode cX12_whyNot 18 = .ok (.invokevirtual 284, 3) := by decide +kernel
theorem dX12_whyNot_21 : decode cX12_whyNot 21 = .ok (.ifCond .ne 7, 3) := by decide +kernel
theorem dX12_whyNot_24 : decode cX12_whyNot 24 = .ok (.iconst 0, 1) := by decide +kernel
theorem dX12_whyNot_25 : decode cX12_whyNot 25 = .ok (.goto 14, 3) := by decide +kernel
theorem dX12_whyNot_28 : decode cX12_whyNot 28 = .ok (.aload_n 0, 1) := by decide +kernel
theorem dX12_whyNot_29 : decode cX12_whyNot 29 = .ok (.aload_n 0, 1) := by decide +kernel
theorem dX12_whyNot_30 : decode cX12_whyNot 30 = .ok (.invokevirtual 284, 3) := by decide +kernel
theorem dX12_whyNot_33 : decode cX12_whyNot 33 = .ok (.iconst 1, 1) := by decide +kernel
theorem dX12_whyNot_34 : decode cX12_whyNot 34 = .ok (.isub, 1) := by decide +kernel
theorem dX12_whyNot_35 : decode cX12_whyNot 35 = .ok (.iconst 2, 1) := by decide +kernel
theorem dX12_whyNot_36 : decode cX12_whyNot 36 = .ok (.invokevirtual 287, 3) := by decide +kernel
theorem dX12_whyNot_39 : decode cX12_whyNot 39 = .ok (.istore 4, 2) := by decide +kernel
theorem dX12_whyNot_41 : decode cX12_whyNot 41 = .ok (.iload_n 2, 1) := by decide +kernel
theorem dX12_whyNot_42 : decode cX12_whyNot 42 = .ok (.invokestatic 321, 3) := by decide +kernel
theorem dX12_whyNot_45 : decode cX12_whyNot 45 = .ok (.ifCond .eq 9, 3) := by decide +kernel
theorem dX12_whyNot_48 : decode cX12_whyNot 48 = .ok (.iload_n 2, 1) := by decide +kernel
theorem dX12_whyNot_49 : decode cX12_whyNot 49 = .ok (.iload 4, 2) := by decide +kernel
theorem dX12_whyNot_51 : decode cX12_whyNot 51 = .ok (.if_icmp .ge 5, 3) := by decide +kernel
theorem dX12_whyNot_54 : decode cX12_whyNot 54 = .ok (.iconst 2, 1) := by decide +kernel
theorem dX12_whyNot_55 : decode cX12_whyNot 55 = .ok (.ireturn, 1) := by decide +kernel
theorem dX12_whyNot_56 : decode cX12_whyNot 56 = .ok (.aload_n 0, 1) := by decide +kernel
theorem dX12_whyNot_57 : decode cX12_whyNot 57 = .ok (.iload_n 1, 1) := by decide +kernel
theorem dX12_whyNot_58 : decode cX12_whyNot 58 = .ok (.invokevirtual 315, 3) := by decide +kernel
theorem dX12_whyNot_61 : decode cX12_whyNot 61 = .ok (.ifCond .lt 7, 3) := by decide +kernel
theorem dX12_whyNot_64 : decode cX12_whyNot 64 = .ok (.iconst 1, 1) := by decide +kernel
theorem dX12_whyNot_65 : decode cX12_whyNot 65 = .ok (.goto 4, 3) := by decide +kernel
theorem dX12_whyNot_68 : decode cX12_whyNot 68 = .ok (.iconst 0, 1) := by decide +kernel
theorem dX12_whyNot_69 : decode cX12_whyNot 69 = .ok (.iload_n 3, 1) := by decide +kernel
theorem dX12_whyNot_70 : decode cX12_whyNot 70 = .ok (.if_icmp .eq 5, 3) := by decide +kernel
theorem dX12_whyNot_73 : decode cX12_whyNot 73 = .ok (.iconst 3, 1) := by decide +kernel
theorem dX12_whyNot_74 : decode cX12_whyNot 74 = .ok (.ireturn, 1) := by decide +kernel
theorem dX12_whyNot_75 : decode cX12_whyNot 75 = .ok (.iload_n 3, 1) := by decide +kernel
theorem dX12_whyNot_76 : decode cX12_whyNot 76 = .ok (.ifCond .ne 16, 3) := by decide +kernel
theorem dX12_whyNot_79 : decode cX12_whyNot 79 = .ok (.aload_n 0, 1) := by decide +kernel
theorem dX12_whyNot_80 : decode cX12_whyNot 80 = .ok (.invokevirtual 264, 3) := by decide +kernel
theorem dX12_whyNot_83 : decode cX12_whyNot 83 = .ok (.aload_n 0, 1) := by decide +kernel
theorem dX12_whyNot_84 : decode cX12_whyNot 84 = .ok (.invokevirtual 231, 3) := by decide +kernel
theorem dX12_whyNot_87 : decode cX12_whyNot 87 = .ok (.if_icmp .ne 5, 3) := by decide +kernel
theorem dX12_whyNot_90 : decode cX12_whyNot 90 = .ok (.iconst 4, 1) := by decide +kernel
theorem dX12_whyNot_91 : decode cX12_whyNot 91 = .ok (.ireturn, 1) := by decide +kernel
theorem dX12_whyNot_92 : decode cX12_whyNot 92 = .ok (.aload_n 0, 1) := by decide +kernel
theorem dX12_whyNot_93 : decode cX12_whyNot 93 = .ok (.invokevirtual 284, 3) := by decide +kernel
theorem dX12_whyNot_96 : decode cX12_whyNot 96 = .ok (.bipush 100, 2) := by decide +kernel
theorem dX12_whyNot_98 : decode cX12_whyNot 98 = .ok (.if_icmp .ne 7, 3) := by decide +kernel
theorem dX12_whyNot_101 : decode cX12_whyNot 101 = .ok (.iconst 5, 1) := by decide +kernel
theorem dX12_whyNot_102 : decode cX12_whyNot 102 = .ok (.goto 4, 3) := by decide +kernel
theorem dX12_whyNot_105 : decode cX12_whyNot 105 = .ok (.iconst 0, 1) := by decide +kernel
theorem dX12_whyNot_106 : decode cX12_whyNot 106 = .ok (.ireturn, 1) := by decide +kernel
theorem dX12_tells_0 : decode cX12_tells 0 = .ok (.aload_n 0, 1) := by decide +kernel
theorem dX12_tells_1 : decode cX12_tells 1 = .ok (.iconst 0, 1) := by decide +kernel
theorem dX12_tells_2 : decode cX12_tells 2 = .ok (.putfield 1, 3) := by decide +kernel
theorem dX12_tells_5 : decode cX12_tells 5 = .ok (.aload_n 0, 1) := by decide +kernel
theorem dX12_tells_6 : decode cX12_tells 6 = .ok (.iload_n 1, 1) := by decide +kernel
theorem dX12_tells_7 : decode cX12_tells 7 = .ok (.iload_n 2, 1) := by decide +kernel
theorem dX12_tells_8 : decode cX12_tells 8 = .ok (.iload_n 3, 1) := by decide +kernel
theorem dX12_tells_9 : decode cX12_tells 9 = .ok (.invokevirtual 324, 3) := by decide +kernel
theorem dX12_tells_12 : decode cX12_tells 12 = .ok (.istore 4, 2) := by decide +kernel
theorem dX12_tells_14 : decode cX12_tells 14 = .ok (.iload 4, 2) := by decide +kernel
theorem dX12_tells_16 : decode cX12_tells 16 = .ok (.ifCond .le 6, 3) := by decide +kernel
theorem dX12_tells_19 : decode cX12_tells 19 = .ok (.iload 4, 2) := by decide +kernel
theorem dX12_tells_21 : decode cX12_tells 21 = .ok (.ireturn, 1) := by decide +kernel
theorem dX12_tells_22 : decode cX12_tells 22 = .ok (.iconst 2, 1) := by decide +kernel
theorem dX12_tells_23 : decode cX12_tells 23 = .ok (.iconst 4, 1) := by decide +kernel
theorem dX12_tells_24 : decode cX12_tells 24 = .ok (.aload_n 0, 1) := by decide +kernel
theorem dX12_tells_25 : decode cX12_tells 25 = .ok (.invokevirtual 284, 3) := by decide +kernel
theorem dX12_tells_28 : decode cX12_tells 28 = .ok (.imul, 1) := by decide +kernel
theorem dX12_tells_29 : decode cX12_tells 29 = .ok (.iadd, 1) := by decide +kernel
theorem dX12_tells_30 : decode cX12_tells 30 = .ok (.istore 5, 2) := by decide +kernel
theorem dX12_tells_32 : decode cX12_tells 32 = .ok (.aload_n 0, 1) := by decide +kernel
theorem dX12_tells_33 : decode cX12_tells 33 = .ok (.getfield 83, 3) := by decide +kernel
theorem dX12_tells_36 : decode cX12_tells 36 = .ok (.iload 5, 2) := by decide +kernel
theorem dX12_tells_38 : decode cX12_tells 38 = .ok (.iload_n 1, 1) := by decide +kernel
theorem dX12_tells_39 : decode cX12_tells 39 = .ok (.iastore, 1) := by decide +kernel
theorem dX12_tells_40 : decode cX12_tells 40 = .ok (.aload_n 0, 1) := by decide +kernel
theorem dX12_tells_41 : decode cX12_tells 41 = .ok (.getfield 83, 3) := by decide +kernel
theorem dX12_tells_44 : decode cX12_tells 44 = .ok (.iload 5, 2) := by decide +kernel
theorem dX12_tells_46 : decode cX12_tells 46 = .ok (.iconst 1, 1) := by decide +kernel
theorem dX12_tells_47 : decode cX12_tells 47 = .ok (.iadd, 1) := by decide +kernel
theorem dX12_tells_48 : decode cX12_tells 48 = .ok (.iload_n 3, 1) := by decide +kernel
theorem dX12_tells_49 : decode cX12_tells 49 = .ok (.ifCond .eq 7, 3) := by decide +kernel
theorem dX12_tells_52 : decode cX12_tells 52 = .ok (.iconst 1, 1) := by decide +kernel
theorem dX12_tells_53 : decode cX12_tells 53 = .ok (.goto 4, 3) := by decide +kernel
theorem dX12_tells_56 : decode cX12_tells 56 = .ok (.iconst 0, 1) := by decide +kernel
theorem dX12_tells_57 : decode cX12_tells 57 = .ok (.iastore, 1) := by decide +kernel
theorem dX12_tells_58 : decode cX12_tells 58 = .ok (.aload_n 0, 1) := by decide +kernel
theorem dX12_tells_59 : decode cX12_tells 59 = .ok (.getfield 83, 3) := by decide +kernel
theorem dX12_tells_62 : decode cX12_tells 62 = .ok (.iload 5, 2) := by decide +kernel
theorem dX12_tells_64 : decode cX12_tells 64 = .ok (.iconst 2, 1) := by decide +kernel
theorem dX12_tells_65 : decode cX12_tells 65 = .ok (.iadd, 1) := by decide +kernel
theorem dX12_tells_66 : decode cX12_tells 66 = .ok (.iload_n 2, 1) := by decide +kernel
theorem dX12_tells_67 : decode cX12_tells 67 = .ok (.iastore, 1) := by decide +kernel
theorem dX12_tells_68 : decode cX12_tells 68 = .ok (.aload_n 0, 1) := by decide +kernel
theorem dX12_tells_69 : decode cX12_tells 69 = .ok (.getfield 83, 3) := by decide +kernel
theorem dX12_tells_72 : decode cX12_tells 72 = .ok (.iload 5, 2) := by decide +kernel
theorem dX12_tells_74 : decode cX12_tells 74 = .ok (.iconst 3, 1) := by decide +kernel
theorem dX12_tells_75 : decode cX12_tells 75 = .ok (.iadd, 1) := by decide +kernel
theorem dX12_tells_76 : decode cX12_tells 76 = .ok (.aload_n 0, 1) := by decide +kernel
theorem dX12_tells_77 : decode cX12_tells 77 = .ok (.getfield 83, 3) := by decide +kernel
theorem dX12_tells_80 : decode cX12_tells 80 = .ok (.iconst 0, 1) := by decide +kernel
theorem dX12_tells_81 : decode cX12_tells 81 = .ok (.iaload, 1) := by decide +kernel
theorem dX12_tells_82 : decode cX12_tells 82 = .ok (.iastore, 1) := by decide +kernel
theorem dX12_tells_83 : decode cX12_tells 83 = .ok (.aload_n 0, 1) := by decide +kernel
theorem dX12_tells_84 : decode cX12_tells 84 = .ok (.getfield 83, 3) := by decide +kernel
theorem dX12_tells_87 : decode cX12_tells 87 = .ok (.iconst 1, 1) := by decide +kernel
theorem dX12_tells_88 : decode cX12_tells 88 = .ok (.dup2, 1) := by decide +kernel
theorem dX12_tells_89 : decode cX12_tells 89 = .ok (.iaload, 1) := by decide +kernel
theorem dX12_tells_90 : decode cX12_tells 90 = .ok (.iconst 1, 1) := by decide +kernel
theorem dX12_tells_91 : decode cX12_tells 91 = .ok (.iadd, 1) := by decide +kernel
theorem dX12_tells_92 : decode cX12_tells 92 = .ok (.iastore, 1) := by decide +kernel
theorem dX12_tells_93 : decode cX12_tells 93 = .ok (.aload_n 0, 1) := by decide +kernel
theorem dX12_tells_94 : decode cX12_tells 94 = .ok (.iconst 1, 1) := by decide +kernel
theorem dX12_tells_95 : decode cX12_tells 95 = .ok (.putfield 123, 3) := by decide +kernel
theorem dX12_tells_98 : decode cX12_tells 98 = .ok (.iload_n 3, 1) := by decide +kernel
theorem dX12_tells_99 : decode cX12_tells 99 = .ok (.ifCond .ne 8, 3) := by decide +kernel
theorem dX12_tells_102 : decode cX12_tells 102 = .ok (.aload_n 0, 1) := by decide +kernel
theorem dX12_tells_103 : decode cX12_tells 103 = .ok (.iload_n 1, 1) := by decide +kernel
theorem dX12_tells_104 : decode cX12_tells 104 = .ok (.invokevirtual 328, 3) := by decide +kernel
theorem dX12_tells_107 : decode cX12_tells 107 = .ok (.iconst 0, 1) := by decide +kernel
theorem dX12_tells_108 : decode cX12_tells 108 = .ok (.ireturn, 1) := by decide +kernel
theorem dX12_unbooks_0 : decode cX12_unbooks 0 = .ok (.iconst 0, 1) := by decide +kernel
theorem dX12_unbooks_1 : decode cX12_unbooks 1 = .ok (.istore_n 2, 1) := by decide +kernel
theorem dX12_unbooks_2 : decode cX12_unbooks 2 = .ok (.iconst 0, 1) := by decide +kernel
theorem dX12_unbooks_3 : decode cX12_unbooks 3 = .ok (.istore_n 3, 1) := by decide +kernel
theorem dX12_unbooks_4 : decode cX12_unbooks 4 = .ok (.iload_n 3, 1) := by decide +kernel
theorem dX12_unbooks_5 : decode cX12_unbooks 5 = .ok (.aload_n 0, 1) := by decide +kernel
theorem dX12_unbooks_6 : decode cX12_unbooks 6 = .ok (.invokevirtual 331, 3) := by decide +kernel
theorem dX12_unbooks_9 : decode cX12_unbooks 9 = .ok (.if_icmp .ge 47, 3) := by decide +kernel
theorem dX12_unbooks_12 : decode cX12_unbooks 12 = .ok (.aload_n 0, 1) := by decide +kernel
theorem dX12_unbooks_13 : decode cX12_unbooks 13 = .ok (.getfield 83, 3) := by decide +kernel
theorem dX12_unbooks_16 : decode cX12_unbooks 16 = .ok (.sipush 496, 3) := by decide +kernel
theorem dX12_unbooks_19 : decode cX12_unbooks 19 = .ok (.iload_n 3, 1) := by decide +kernel
theorem dX12_unbooks_20 : decode cX12_unbooks 20 = .ok (.iadd, 1) := by decide +kernel
theorem dX12_unbooks_21 : decode cX12_unbooks 21 = .ok (.iaload, 1) := by decide +kernel
theorem dX12_unbooks_22 : decode cX12_unbooks 22 = .ok (.istore 4, 2) := by decide +kernel
theorem dX12_unbooks_24 : decode cX12_unbooks 24 = .ok (.aload_n 0, 1) := by decide +kernel
theorem dX12_unbooks_25 : decode cX12_unbooks 25 = .ok (.getfield 83, 3) := by decide +kernel
theorem dX12_unbooks_28 : decode cX12_unbooks 28 = .ok (.sipush 496, 3) := by decide +kernel
theorem dX12_unbooks_31 : decode cX12_unbooks 31 = .ok (.iload_n 2, 1) := by decide +kernel
theorem dX12_unbooks_32 : decode cX12_unbooks 32 = .ok (.iadd, 1) := by decide +kernel
theorem dX12_unbooks_33 : decode cX12_unbooks 33 = .ok (.iload 4, 2) := by decide +kernel
theorem dX12_unbooks_35 : decode cX12_unbooks 35 = .ok (.iastore, 1) := by decide +kernel
theorem dX12_unbooks_36 : decode cX12_unbooks 36 = .ok (.iload_n 2, 1) := by decide +kernel
theorem dX12_unbooks_37 : decode cX12_unbooks 37 = .ok (.iload 4, 2) := by decide +kernel
theorem dX12_unbooks_39 : decode cX12_unbooks 39 = .ok (.iload_n 1, 1) := by decide +kernel
theorem dX12_unbooks_40 : decode cX12_unbooks 40 = .ok (.if_icmp .ne 7, 3) := by decide +kernel
theorem dX12_unbooks_43 : decode cX12_unbooks 43 = .ok (.iconst 0, 1) := by decide +kernel
theorem dX12_unbooks_44 : decode cX12_unbooks 44 = .ok (.goto 4, 3) := by decide +kernel
theorem dX12_unbooks_47 : decode cX12_unbooks 47 = .ok (.iconst 1, 1) := by decide +kernel
theorem dX12_unbooks_48 : decode cX12_unbooks 48 = .ok (.iadd, 1) := by decide +kernel
theorem dX12_unbooks_49 : decode cX12_unbooks 49 = .ok (.istore_n 2, 1) := by decide +kernel
theorem dX12_unbooks_50 : decode cX12_unbooks 50 = .ok (.iinc 3 1, 3) := by decide +kernel
theorem dX12_unbooks_53 : decode cX12_unbooks 53 = .ok (.goto (-49), 3) := by decide +kernel
theorem dX12_unbooks_56 : decode cX12_unbooks 56 = .ok (.aload_n 0, 1) := by decide +kernel
theorem dX12_unbooks_57 : decode cX12_unbooks 57 = .ok (.getfield 83, 3) := by decide +kernel
theorem dX12_unbooks_60 : decode cX12_unbooks 60 = .ok (.sipush 495, 3) := by decide +kernel
theorem dX12_unbooks_63 : decode cX12_unbooks 63 = .ok (.iload_n 2, 1) := by decide +kernel
theorem dX12_unbooks_64 : decode cX12_unbooks 64 = .ok (.iastore, 1) := by decide +kernel
theorem dX12_unbooks_65 : decode cX12_unbooks 65 = .ok (.return_, 1) := by decide +kernel
theorem dX12_come_0 : decode cX12_come 0 = .ok (.aload_n 0, 1) := by decide +kernel
theorem dX12_come_1 : decode cX12_come 1 = .ok (.iload_n 1, 1) := by decide +kernel
theorem dX12_come_2 : decode cX12_come 2 = .ok (.iload_n 2, 1) := by decide +kernel
theorem dX12_come_3 : decode cX12_come 3 = .ok (.iconst 0, 1) := by decide +kernel
theorem dX12_come_4 : decode cX12_come 4 = .ok (.invokevirtual 334, 3) := by decide +kernel
theorem dX12_come_7 : decode cX12_come 7 = .ok (.ireturn, 1) := by decide +kernel
theorem dX12_leave_0 : decode cX12_leave 0 = .ok (.aload_n 0, 1) := by decide +kernel
theorem dX12_leave_1 : decode cX12_leave 1 = .ok (.iload_n 1, 1) := by decide +kernel
theorem dX12_leave_2 : decode cX12_leave 2 = .ok (.iload_n 2, 1) := by decide +kernel
theorem dX12_leave_3 : decode cX12_leave 3 = .ok (.iconst 1, 1) := by decide +kernel
theorem dX12_leave_4 : decode cX12_leave 4 = .ok (.invokevirtual 334, 3) := by decide +kernel
theorem dX12_leave_7 : decode cX12_leave 7 = .ok (.ireturn, 1) := by decide +kernel
theorem dX12_over_0 : decode cX12_over 0 = .ok (.aload_n 0, 1) := by decide +kernel
theorem dX12_over_1 : decode cX12_over 1 = .ok (.iconst 0, 1) := by decide +kernel
theorem dX12_over_2 : decode cX12_over 2 = .ok (.putfield 1, 3) := by decide +kernel
theorem dX12_over_5 : decode cX12_over 5 = .ok (.aload_n 0, 1) := by decide +kernel
theorem dX12_over_6 : decode cX12_over 6 = .ok (.invokevirtual 300, 3) := by decide +kernel
theorem dX12_over_9 : decode cX12_over 9 = .ok (.aload_n 0, 1) := by decide +kernel
theorem dX12_over_10 : decode cX12_over 10 = .ok (.getfield 252, 3) := by decide +kernel
theorem dX12_over_13 : decode cX12_over 13 = .ok (.ireturn, 1) := by decide +kernel
theorem dX12_sum_0 : decode cX12_sum 0 = .ok (.aload_n 0, 1) := by decide +kernel
theorem dX12_sum_1 : decode cX12_sum 1 = .ok (.iconst 0, 1) := by decide +kernel
theorem dX12_sum_2 : decode cX12_sum 2 = .ok (.putfield 1, 3) := by decide +kernel
theorem dX12_sum_5 : decode cX12_sum 5 = .ok (.aload_n 0, 1) := by decide +kernel
theorem dX12_sum_6 : decode cX12_sum 6 = .ok (.invokevirtual 300, 3) := by decide +kernel
theorem dX12_sum_9 : decode cX12_sum 9 = .ok (.iload_n 1, 1) := by decide +kernel
theorem dX12_sum_10 : decode cX12_sum 10 = .ok (.tableswitch 50 0 3 #[30, 35, 40, 45], 30) := by decide +kernel
theorem dX12_sum_40 : decode cX12_sum 40 = .ok (.aload_n 0, 1) := by decide +kernel
theorem dX12_sum_41 : decode cX12_sum 41 = .ok (.getfield 240, 3) := by decide +kernel
theorem dX12_sum_44 : decode cX12_sum 44 = .ok (.ireturn, 1) := by decide +kernel
theorem dX12_sum_45 : decode cX12_sum 45 = .ok (.aload_n 0, 1) := by decide +kernel
theorem dX12_sum_46 : decode cX12_sum 46 = .ok (.getfield 243, 3) := by decide +kernel
theorem dX12_sum_49 : decode cX12_sum 49 = .ok (.ireturn, 1) := by decide +kernel
theorem dX12_sum_50 : decode cX12_sum 50 = .ok (.aload_n 0, 1) := by decide +kernel
theorem dX12_sum_51 : decode cX12_sum 51 = .ok (.getfield 246, 3) := by decide +kernel
theorem dX12_sum_54 : decode cX12_sum 54 = .ok (.ireturn, 1) := by decide +kernel
theorem dX12_sum_55 : decode cX12_sum 55 = .ok (.aload_n 0, 1) := by decide +kernel
theorem dX12_sum_56 : decode cX12_sum 56 = .ok (.getfield 249, 3) := by decide +kernel
theorem dX12_sum_59 : decode cX12_sum 59 = .ok (.ireturn, 1) := by decide +kernel
theorem dX12_sum_60 : decode cX12_sum 60 = .ok (.iconst (-1), 1) := by decide +kernel
theorem dX12_sum_61 : decode cX12_sum 61 = .ok (.ireturn, 1) := by decide +kernel
theorem dX12_placeAt_0 : decode cX12_placeAt 0 = .ok (.iconst (-1), 1) := by decide +kernel
theorem dX12_placeAt_1 : decode cX12_placeAt 1 = .ok (.istore_n 3, 1) := by decide +kernel
theorem dX12_placeAt_2 : decode cX12_placeAt 2 = .ok (.iconst 0, 1) := by decide +kernel
theorem dX12_placeAt_3 : decode cX12_placeAt 3 = .ok (.istore 4, 2) := by decide +kernel
theorem dX12_placeAt_5 : decode cX12_placeAt 5 = .ok (.iload 4, 2) := by decide +kernel
theorem dX12_placeAt_7 : decode cX12_placeAt 7 = .ok (.aload_n 0, 1) := by decide +kernel
theorem dX12_placeAt_8 : decode cX12_placeAt 8 = .ok (.getfield 255, 3) := by decide +kernel
theorem dX12_placeAt_11 : decode cX12_placeAt 11 = .ok (.if_icmp .ge 67, 3) := by decide +kernel
theorem dX12_placeAt_14 : decode cX12_placeAt 14 = .ok (.iconst 5, 1) := by decide +kernel
theorem dX12_placeAt_15 : decode cX12_placeAt 15 = .ok (.iload 4, 2) := by decide +kernel
theorem dX12_placeAt_17 : decode cX12_placeAt 17 = .ok (.imul, 1) := by decide +kernel
theorem dX12_placeAt_18 : decode cX12_placeAt 18 = .ok (.istore 5, 2) := by decide +kernel
theorem dX12_placeAt_20 : decode cX12_placeAt 20 = .ok (.aload_n 0, 1) := by decide +kernel
theorem dX12_placeAt_21 : decode cX12_placeAt 21 = .ok (.getfield 99, 3) := by decide +kernel
theorem dX12_placeAt_24 : decode cX12_placeAt 24 = .ok (.iload 5, 2) := by decide +kernel
theorem dX12_placeAt_26 : decode cX12_placeAt 26 = .ok (.iaload, 1) := by decide +kernel
theorem dX12_placeAt_27 : decode cX12_placeAt 27 = .ok (.iload_n 1, 1) := by decide +kernel
theorem dX12_placeAt_28 : decode cX12_placeAt 28 = .ok (.if_icmp .ne 44, 3) := by decide +kernel
theorem dX12_placeAt_31 : decode cX12_placeAt 31 = .ok (.aload_n 0, 1) := by decide +kernel
theorem dX12_placeAt_32 : decode cX12_placeAt 32 = .ok (.getfield 99, 3) := by decide +kernel
theorem dX12_placeAt_35 : decode cX12_placeAt 35 = .ok (.iload 5, 2) := by decide +kernel
theorem dX12_placeAt_37 : decode cX12_placeAt 37 = .ok (.iconst 3, 1) := by decide +kernel
theorem dX12_placeAt_38 : decode cX12_placeAt 38 = .ok (.iadd, 1) := by decide +kernel
theorem dX12_placeAt_39 : decode cX12_placeAt 39 = .ok (.iaload, 1) := by decide +kernel
theorem dX12_placeAt_40 : decode cX12_placeAt 40 = .ok (.iload_n 2, 1) := by decide +kernel
theorem dX12_placeAt_41 : decode cX12_placeAt 41 = .ok (.if_icmp .gt 31, 3) := by decide +kernel
theorem dX12_placeAt_44 : decode cX12_placeAt 44 = .ok (.iload_n 2, 1) := by decide +kernel
theorem dX12_placeAt_45 : decode cX12_placeAt 45 = .ok (.aload_n 0, 1) := by decide +kernel
theorem dX12_placeAt_46 : decode cX12_placeAt 46 = .ok (.getfield 99, 3) := by decide +kernel
theorem dX12_placeAt_49 : decode cX12_placeAt 49 = .ok (.iload 5, 2) := by decide +kernel
theorem dX12_placeAt_51 : decode cX12_placeAt 51 = .ok (.iconst 4, 1) := by decide +kernel
theorem dX12_placeAt_52 : decode cX12_placeAt 52 = .ok (.iadd, 1) := by decide +kernel
theorem dX12_placeAt_53 : decode cX12_placeAt 53 = .ok (.iaload, 1) := by decide +kernel
theorem dX12_placeAt_54 : decode cX12_placeAt 54 = .ok (.if_icmp .ge 8, 3) := by decide +kernel
theorem dX12_placeAt_57 : decode cX12_placeAt 57 = .ok (.bipush (-2), 2) := by decide +kernel
theorem dX12_placeAt_59 : decode cX12_placeAt 59 = .ok (.goto 12, 3) := by decide +kernel
theorem dX12_placeAt_62 : decode cX12_placeAt 62 = .ok (.aload_n 0, 1) := by decide +kernel
theorem dX12_placeAt_63 : decode cX12_placeAt 63 = .ok (.getfield 99, 3) := by decide +kernel
theorem dX12_placeAt_66 : decode cX12_placeAt 66 = .ok (.iload 5, 2) := by decide +kernel
theorem dX12_placeAt_68 : decode cX12_placeAt 68 = .ok (.iconst 2, 1) := by decide +kernel
theorem dX12_placeAt_69 : decode cX12_placeAt 69 = .ok (.iadd, 1) := by decide +kernel
theorem dX12_placeAt_70 : decode cX12_placeAt 70 = .ok (.iaload, 1) := by decide +kernel
theorem dX12_placeAt_71 : decode cX12_placeAt 71 = .ok (.istore_n 3, 1) := by decide +kernel
theorem dX12_placeAt_72 : decode cX12_placeAt 72 = .ok (.iinc 4 1, 3) := by decide +kernel
theorem dX12_placeAt_75 : decode cX12_placeAt 75 = .ok (.goto (-70), 3) := by decide +kernel
theorem dX12_placeAt_78 : decode cX12_placeAt 78 = .ok (.iload_n 3, 1) := by decide +kernel
theorem dX12_placeAt_79 : decode cX12_placeAt 79 = .ok (.ireturn, 1) := by decide +kernel
theorem dX12_where_0 : decode cX12_where 0 = .ok (.aload_n 0, 1) := by decide +kernel
theorem dX12_where_1 : decode cX12_where 1 = .ok (.iconst 0, 1) := by decide +kernel
theorem dX12_where_2 : decode cX12_where 2 = .ok (.putfield 1, 3) := by decide +kernel
theorem dX12_where_5 : decode cX12_where 5 = .ok (.aload_n 0, 1) := by decide +kernel
theorem dX12_where_6 : decode cX12_where 6 = .ok (.iload_n 1, 1) := by decide +kernel
theorem dX12_where_7 : decode cX12_where 7 = .ok (.invokevirtual 312, 3) := by decide +kernel
theorem dX12_where_10 : decode cX12_where 10 = .ok (.ifCond .eq 10, 3) := by decide +kernel
theorem dX12_where_13 : decode cX12_where 13 = .ok (.iload_n 2, 1) := by decide +kernel
theorem dX12_where_14 : decode cX12_where 14 = .ok (.invokestatic 337, 3) := by decide +kernel
theorem dX12_where_17 : decode cX12_where 17 = .ok (.ifCond .ne 6, 3) := by decide +kernel
theorem dX12_where_20 : decode cX12_where 20 = .ok (.bipush (-3), 2) := by decide +kernel
theorem dX12_where_22 : decode cX12_where 22 = .ok (.ireturn, 1) := by decide +kernel
theorem dX12_where_23 : decode cX12_where 23 = .ok (.aload_n 0, 1) := by decide +kernel
theorem dX12_where_24 : decode cX12_where 24 = .ok (.invokevirtual 300, 3) := by decide +kernel
theorem dX12_where_27 : decode cX12_where 27 = .ok (.aload_n 0, 1) := by decide +kernel
theorem dX12_where_28 : decode cX12_where 28 = .ok (.iload_n 1, 1) := by decide +kernel
theorem dX12_where_29 : decode cX12_where 29 = .ok (.iload_n 2, 1) := by decide +kernel
theorem dX12_where_30 : decode cX12_where 30 = .ok (.invokevirtual 340, 3) := by decide +kernel
theorem dX12_where_33 : decode cX12_where 33 = .ok (.ireturn, 1) := by decide +kernel
theorem dX12_whoAt_0 : decode cX12_whoAt 0 = .ok (.iconst 0, 1) := by decide +kernel
theorem dX12_whoAt_1 : decode cX12_whoAt 1 = .ok (.istore_n 3, 1) := by decide +kernel
theorem dX12_whoAt_2 : decode cX12_whoAt 2 = .ok (.iload_n 3, 1) := by decide +kernel
theorem dX12_whoAt_3 : decode cX12_whoAt 3 = .ok (.aload_n 0, 1) := by decide +kernel
theorem dX12_whoAt_4 : decode cX12_whoAt 4 = .ok (.invokevirtual 234, 3) := by decide +kernel
theorem dX12_whoAt_7 : decode cX12_whoAt 7 = .ok (.if_icmp .ge 21, 3) := by decide +kernel
theorem dX12_whoAt_10 : decode cX12_whoAt 10 = .ok (.aload_n 0, 1) := by decide +kernel
theorem dX12_whoAt_11 : decode cX12_whoAt 11 = .ok (.iload_n 3, 1) := by decide +kernel
theorem dX12_whoAt_12 : decode cX12_whoAt 12 = .ok (.iload_n 2, 1) := by decide +kernel
theorem dX12_whoAt_13 : decode cX12_whoAt 13 = .ok (.invokevirtual 340, 3) := by decide +kernel
theorem dX12_whoAt_16 : decode cX12_whoAt 16 = .ok (.iload_n 1, 1) := by decide +kernel
theorem dX12_whoAt_17 : decode cX12_whoAt 17 = .ok (.if_icmp .ne 5, 3) := by decide +kernel
theorem dX12_whoAt_20 : decode cX12_whoAt 20 = .ok (.iload_n 3, 1) := by decide +kernel
theorem dX12_whoAt_21 : decode cX12_whoAt 21 = .ok (.ireturn, 1) := by decide +kernel
theorem dX12_whoAt_22 : decode cX12_whoAt 22 = .ok (.iinc 3 1, 3) := by decide +kernel
theorem dX12_whoAt_25 : decode cX12_whoAt 25 = .ok (.goto (-23), 3) := by decide +kernel
theorem dX12_whoAt_28 : decode cX12_whoAt 28 = .ok (.iconst (-1), 1) := by decide +kernel
theorem dX12_whoAt_29 : decode cX12_whoAt 29 = .ok (.ireturn, 1) := by decide +kernel
theorem dX12_who_0 : decode cX12_who 0 = .ok (.aload_n 0, 1) := by decide +kernel
theorem dX12_who_1 : decode cX12_who 1 = .ok (.iconst 0, 1) := by decide +kernel
theorem dX12_who_2 : decode cX12_who 2 = .ok (.putfield 1, 3) := by decide +kernel
theorem dX12_who_5 : decode cX12_who 5 = .ok (.aload_n 0, 1) := by decide +kernel
theorem dX12_who_6 : decode cX12_who 6 = .ok (.iload_n 1, 1) := by decide +kernel
theorem dX12_who_7 : decode cX12_who 7 = .ok (.invokevirtual 309, 3) := by decide +kernel
theorem dX12_who_10 : decode cX12_who 10 = .ok (.ifCond .eq 10, 3) := by decide +kernel
theorem dX12_who_13 : decode cX12_who 13 = .ok (.iload_n 2, 1) := by decide +kernel
theorem dX12_who_14 : decode cX12_who 14 = .ok (.invokestatic 337, 3) := by decide +kernel
theorem dX12_who_17 : decode cX12_who 17 = .ok (.ifCond .ne 5, 3) := by decide +kernel
theorem dX12_who_20 : decode cX12_who 20 = .ok (.iconst (-1), 1) := by decide +kernel
theorem dX12_who_21 : decode cX12_who 21 = .ok (.ireturn, 1) := by decide +kernel
theorem dX12_who_22 : decode cX12_who 22 = .ok (.aload_n 0, 1) := by decide +kernel
theorem dX12_who_23 : decode cX12_who 23 = .ok (.invokevirtual 300, 3) := by decide +kernel
theorem dX12_who_26 : decode cX12_who 26 = .ok (.aload_n 0, 1) := by decide +kernel
theorem dX12_who_27 : decode cX12_who 27 = .ok (.iload_n 1, 1) := by decide +kernel
theorem dX12_who_28 : decode cX12_who 28 = .ok (.iload_n 2, 1) := by decide +kernel
theorem dX12_who_29 : decode cX12_who 29 = .ok (.invokevirtual 343, 3) := by decide +kernel
theorem dX12_who_32 : decode cX12_who 32 = .ok (.ireturn, 1) := by decide +kernel
theorem dX12_letter_0 : decode cX12_letter 0 = .ok (.aload_n 0, 1) := by decide +kernel
theorem dX12_letter_1 : decode cX12_letter 1 = .ok (.iconst 0, 1) := by decide +kernel
theorem dX12_letter_2 : decode cX12_letter 2 = .ok (.putfield 1, 3) := by decide +kernel
theorem dX12_letter_5 : decode cX12_letter 5 = .ok (.aload_n 0, 1) := by decide +kernel
theorem dX12_letter_6 : decode cX12_letter 6 = .ok (.iload_n 1, 1) := by decide +kernel
theorem dX12_letter_7 : decode cX12_letter 7 = .ok (.invokevirtual 312, 3) := by decide +kernel
theorem dX12_letter_10 : decode cX12_letter 10 = .ok (.ifCond .eq 22, 3) := by decide +kernel
theorem dX12_letter_13 : decode cX12_letter 13 = .ok (.iload_n 2, 1) := by decide +kernel
theorem dX12_letter_14 : decode cX12_letter 14 = .ok (.invokestatic 337, 3) := by decide +kernel
theorem dX12_letter_17 : decode cX12_letter 17 = .ok (.ifCond .eq 15, 3) := by decide +kernel
theorem dX12_letter_20 : decode cX12_letter 20 = .ok (.iload_n 3, 1) := by decide +kernel
theorem dX12_letter_21 : decode cX12_letter 21 = .ok (.invokestatic 337, 3) := by decide +kernel
theorem dX12_letter_24 : decode cX12_letter 24 = .ok (.ifCond .eq 8, 3) := by decide +kernel
theorem dX12_letter_27 : decode cX12_letter 27 = .ok (.iload_n 3, 1) := by decide +kernel
theorem dX12_letter_28 : decode cX12_letter 28 = .ok (.iload_n 2, 1) := by decide +kernel
theorem dX12_letter_29 : decode cX12_letter 29 = .ok (.if_icmp .ge 5, 3) := by decide +kernel
theorem dX12_letter_32 : decode cX12_letter 32 = .ok (.iconst (-1), 1) := by decide +kernel
theorem dX12_letter_33 : decode cX12_letter 33 = .ok (.ireturn, 1) := by decide +kernel
theorem dX12_letter_34 : decode cX12_letter 34 = .ok (.aload_n 0, 1) := by decide +kernel
theorem dX12_letter_35 : decode cX12_letter 35 = .ok (.invokevirtual 300, 3) := by decide +kernel
theorem dX12_letter_38 : decode cX12_letter 38 = .ok (.aload_n 0, 1) := by decide +kernel
theorem dX12_letter_39 : decode cX12_letter 39 = .ok (.iload_n 1, 1) := by decide +kernel
theorem dX12_letter_40 : decode cX12_letter 40 = .ok (.iload_n 2, 1) := by decide +kernel
theorem dX12_letter_41 : decode cX12_letter 41 = .ok (.invokevirtual 340, 3) := by decide +kernel
theorem dX12_letter_44 : decode cX12_letter 44 = .ok (.istore 4, 2) := by decide +kernel
theorem dX12_letter_46 : decode cX12_letter 46 = .ok (.iload 4, 2) := by decide +kernel
theorem dX12_letter_48 : decode cX12_letter 48 = .ok (.ifCond .ge 7, 3) := by decide +kernel
theorem dX12_letter_51 : decode cX12_letter 51 = .ok (.iconst (-1), 1) := by decide +kernel
theorem dX12_letter_52 : decode cX12_letter 52 = .ok (.goto 10, 3) := by decide +kernel
theorem dX12_letter_55 : decode cX12_letter 55 = .ok (.aload_n 0, 1) := by decide +kernel
theorem dX12_letter_56 : decode cX12_letter 56 = .ok (.iload 4, 2) := by decide +kernel
theorem dX12_letter_58 : decode cX12_letter 58 = .ok (.iload_n 3, 1) := by decide +kernel
theorem dX12_letter_59 : decode cX12_letter 59 = .ok (.invokevirtual 343, 3) := by decide +kernel
theorem dX12_letter_62 : decode cX12_letter 62 = .ok (.ireturn, 1) := by decide +kernel
theorem dX12_stays_0 : decode cX12_stays 0 = .ok (.iload_n 1, 1) := by decide +kernel
theorem dX12_stays_1 : decode cX12_stays 1 = .ok (.iconst 1, 1) := by decide +kernel
theorem dX12_stays_2 : decode cX12_stays 2 = .ok (.iadd, 1) := by decide +kernel
theorem dX12_stays_3 : decode cX12_stays 3 = .ok (.istore_n 2, 1) := by decide +kernel
theorem dX12_stays_4 : decode cX12_stays 4 = .ok (.iload_n 2, 1) := by decide +kernel
theorem dX12_stays_5 : decode cX12_stays 5 = .ok (.aload_n 0, 1) := by decide +kernel
theorem dX12_stays_6 : decode cX12_stays 6 = .ok (.getfield 255, 3) := by decide +kernel
theorem dX12_stays_9 : decode cX12_stays 9 = .ok (.if_icmp .ge 39, 3) := by decide +kernel
theorem dX12_stays_12 : decode cX12_stays 12 = .ok (.aload_n 0, 1) := by decide +kernel
theorem dX12_stays_13 : decode cX12_stays 13 = .ok (.getfield 99, 3) := by decide +kernel
theorem dX12_stays_16 : decode cX12_stays 16 = .ok (.iconst 5, 1) := by decide +kernel
theorem dX12_stays_17 : decode cX12_stays 17 = .ok (.iload_n 2, 1) := by decide +kernel
theorem dX12_stays_18 : decode cX12_stays 18 = .ok (.imul, 1) := by decide +kernel
theorem dX12_stays_19 : decode cX12_stays 19 = .ok (.iaload, 1) := by decide +kernel
theorem dX12_stays_20 : decode cX12_stays 20 = .ok (.aload_n 0, 1) := by decide +kernel
theorem dX12_stays_21 : decode cX12_stays 21 = .ok (.getfield 99, 3) := by decide +kernel
theorem dX12_stays_24 : decode cX12_stays 24 = .ok (.iconst 5, 1) := by decide +kernel
theorem dX12_stays_25 : decode cX12_stays 25 = .ok (.iload_n 1, 1) := by decide +kernel
theorem dX12_stays_26 : decode cX12_stays 26 = .ok (.imul, 1) := by decide +kernel
theorem dX12_stays_27 : decode cX12_stays 27 = .ok (.iaload, 1) := by decide +kernel
theorem dX12_stays_28 : decode cX12_stays 28 = .ok (.if_icmp .ne 14, 3) := by decide +kernel
theorem dX12_stays_31 : decode cX12_stays 31 = .ok (.aload_n 0, 1) := by decide +kernel
theorem dX12_stays_32 : decode cX12_stays 32 = .ok (.getfield 99, 3) := by decide +kernel
theorem dX12_stays_35 : decode cX12_stays 35 = .ok (.iconst 5, 1) := by decide +kernel
theorem dX12_stays_36 : decode cX12_stays 36 = .ok (.iload_n 2, 1) := by decide +kernel
theorem dX12_stays_37 : decode cX12_stays 37 = .ok (.imul, 1) := by decide +kernel
theorem dX12_stays_38 : decode cX12_stays 38 = .ok (.iconst 3, 1) := by decide +kernel
theorem dX12_stays_39 : decode cX12_stays 39 = .ok (.iadd, 1) := by decide +kernel
theorem dX12_stays_40 : decode cX12_stays 40 = .ok (.iaload, 1) := by decide +kernel
theorem dX12_stays_41 : decode cX12_stays 41 = .ok (.ireturn, 1) := by decide +kernel
theorem dX12_stays_42 : decode cX12_stays 42 = .ok (.iinc 2 1, 3) := by decide +kernel
theorem dX12_stays_45 : decode cX12_stays 45 = .ok (.goto (-41), 3) := by decide +kernel
theorem dX12_stays_48 : decode cX12_stays 48 = .ok (.ldc_w 346, 3) := by decide +kernel
theorem dX12_stays_51 : decode cX12_stays 51 = .ok (.ireturn, 1) := by decide +kernel
theorem dX12_trunk_0 : decode cX12_trunk 0 = .ok (.aload_n 0, 1) := by decide +kernel
theorem dX12_trunk_1 : decode cX12_trunk 1 = .ok (.iconst 0, 1) := by decide +kernel
theorem dX12_trunk_2 : decode cX12_trunk 2 = .ok (.putfield 1, 3) := by decide +kernel
theorem dX12_trunk_5 : decode cX12_trunk 5 = .ok (.aload_n 0, 1) := by decide +kernel
theorem dX12_trunk_6 : decode cX12_trunk 6 = .ok (.iload_n 1, 1) := by decide +kernel
theorem dX12_trunk_7 : decode cX12_trunk 7 = .ok (.invokevirtual 309, 3) := by decide +kernel
theorem dX12_trunk_10 : decode cX12_trunk 10 = .ok (.ifCond .eq 22, 3) := by decide +kernel
theorem dX12_trunk_13 : decode cX12_trunk 13 = .ok (.iload_n 2, 1) := by decide +kernel
theorem dX12_trunk_14 : decode cX12_trunk 14 = .ok (.invokestatic 337, 3) := by decide +kernel
theorem dX12_trunk_17 : decode cX12_trunk 17 = .ok (.ifCond .eq 15, 3) := by decide +kernel
theorem dX12_trunk_20 : decode cX12_trunk 20 = .ok (.iload_n 3, 1) := by decide +kernel
theorem dX12_trunk_21 : decode cX12_trunk 21 = .ok (.invokestatic 337, 3) := by decide +kernel
theorem dX12_trunk_24 : decode cX12_trunk 24 = .ok (.ifCond .eq 8, 3) := by decide +kernel
theorem dX12_trunk_27 : decode cX12_trunk 27 = .ok (.iload_n 3, 1) := by decide +kernel
theorem dX12_trunk_28 : decode cX12_trunk 28 = .ok (.iload_n 2, 1) := by decide +kernel
theorem dX12_trunk_29 : decode cX12_trunk 29 = .ok (.if_icmp .ge 5, 3) := by decide +kernel
theorem dX12_trunk_32 : decode cX12_trunk 32 = .ok (.iconst (-1), 1) := by decide +kernel
theorem dX12_trunk_33 : decode cX12_trunk 33 = .ok (.ireturn, 1) := by decide +kernel
theorem dX12_trunk_34 : decode cX12_trunk 34 = .ok (.aload_n 0, 1) := by decide +kernel
theorem dX12_trunk_35 : decode cX12_trunk 35 = .ok (.invokevirtual 300, 3) := by decide +kernel
theorem dX12_trunk_38 : decode cX12_trunk 38 = .ok (.iconst 0, 1) := by decide +kernel
theorem dX12_trunk_39 : decode cX12_trunk 39 = .ok (.istore 4, 2) := by decide +kernel
theorem dX12_trunk_41 : decode cX12_trunk 41 = .ok (.iconst 0, 1) := by decide +kernel
theorem dX12_trunk_42 : decode cX12_trunk 42 = .ok (.istore 5, 2) := by decide +kernel
theorem dX12_trunk_44 : decode cX12_trunk 44 = .ok (.iload 5, 2) := by decide +kernel
theorem dX12_trunk_46 : decode cX12_trunk 46 = .ok (.aload_n 0, 1) := by decide +kernel
theorem dX12_trunk_47 : decode cX12_trunk 47 = .ok (.getfield 255, 3) := by decide +kernel
theorem dX12_trunk_50 : decode cX12_trunk 50 = .ok (.if_icmp .ge 109, 3) := by decide +kernel
theorem dX12_trunk_53 : decode cX12_trunk 53 = .ok (.aload_n 0, 1) := by decide +kernel
theorem dX12_trunk_54 : decode cX12_trunk 54 = .ok (.getfield 99, 3) := by decide +kernel
theorem dX12_trunk_57 : decode cX12_trunk 57 = .ok (.iconst 5, 1) := by decide +kernel
theorem dX12_trunk_58 : decode cX12_trunk 58 = .ok (.iload 5, 2) := by decide +kernel
theorem dX12_trunk_60 : decode cX12_trunk 60 = .ok (.imul, 1) := by decide +kernel
theorem dX12_trunk_61 : decode cX12_trunk 61 = .ok (.iconst 2, 1) := by decide +kernel
theorem dX12_trunk_62 : decode cX12_trunk 62 = .ok (.iadd, 1) := by decide +kernel
theorem dX12_trunk_63 : decode cX12_trunk 63 = .ok (.iaload, 1) := by decide +kernel
theorem dX12_trunk_64 : decode cX12_trunk 64 = .ok (.iload_n 1, 1) := by decide +kernel
theorem dX12_trunk_65 : decode cX12_trunk 65 = .ok (.if_icmp .ne 88, 3) := by decide +kernel
theorem dX12_trunk_68 : decode cX12_trunk 68 = .ok (.aload_n 0, 1) := by decide +kernel
theorem dX12_trunk_69 : decode cX12_trunk 69 = .ok (.getfield 99, 3) := by decide +kernel
theorem dX12_trunk_72 : decode cX12_trunk 72 = .ok (.iconst 5, 1) := by decide +kernel
theorem dX12_trunk_73 : decode cX12_trunk 73 = .ok (.iload 5, 2) := by decide +kernel
theorem dX12_trunk_75 : decode cX12_trunk 75 = .ok (.imul, 1) := by decide +kernel
theorem dX12_trunk_76 : decode cX12_trunk 76 = .ok (.iconst 4, 1) := by decide +kernel
theorem dX12_trunk_77 : decode cX12_trunk 77 = .ok (.iadd, 1) := by decide +kernel
theorem dX12_trunk_78 : decode cX12_trunk 78 = .ok (.iaload, 1) := by decide +kernel
theorem dX12_trunk_79 : decode cX12_trunk 79 = .ok (.iload_n 2, 1) := by decide +kernel
theorem dX12_trunk_80 : decode cX12_trunk 80 = .ok (.if_icmp .ge 7, 3) := by decide +kernel
theorem dX12_trunk_83 : decode cX12_trunk 83 = .ok (.iload_n 2, 1) := by decide +kernel
theorem dX12_trunk_84 : decode cX12_trunk 84 = .ok (.goto 14, 3) := by decide +kernel
theorem dX12_trunk_87 : decode cX12_trunk 87 = .ok (.aload_n 0, 1) := by decide +kernel
theorem dX12_trunk_88 : decode cX12_trunk 88 = .ok (.getfield 99, 3) := by decide +kernel
theorem dX12_trunk_91 : decode cX12_trunk 91 = .ok (.iconst 5, 1) := by decide +kernel
theorem dX12_trunk_92 : decode cX12_trunk 92 = .ok (.iload 5, 2) := by decide +kernel
theorem dX12_trunk_94 : decode cX12_trunk 94 = .ok (.imul, 1) := by decide +kernel
theorem dX12_trunk_95 : decode cX12_trunk 95 = .ok (.iconst 4, 1) := by decide +kernel
theorem dX12_trunk_96 : decode cX12_trunk 96 = .ok (.iadd, 1) := by decide +kernel
theorem dX12_trunk_97 : decode cX12_trunk 97 = .ok (.iaload, 1) := by decide +kernel
theorem dX12_trunk_98 : decode cX12_trunk 98 = .ok (.istore 6, 2) := by decide +kernel
theorem dX12_trunk_100 : decode cX12_trunk 100 = .ok (.aload_n 0, 1) := by decide +kernel
theorem dX12_trunk_101 : decode cX12_trunk 101 = .ok (.iload 5, 2) := by decide +kernel
theorem dX12_trunk_103 : decode cX12_trunk 103 = .ok (.invokevirtual 347, 3) := by decide +kernel
theorem dX12_trunk_106 : decode cX12_trunk 106 = .ok (.iconst 1, 1) := by decide +kernel
theorem dX12_trunk_107 : decode cX12_trunk 107 = .ok (.isub, 1) := by decide +kernel
theorem dX12_trunk_108 : decode cX12_trunk 108 = .ok (.iload_n 3, 1) := by decide +kernel
theorem dX12_trunk_109 : decode cX12_trunk 109 = .ok (.if_icmp .ge 14, 3) := by decide +kernel
theorem dX12_trunk_112 : decode cX12_trunk 112 = .ok (.aload_n 0, 1) := by decide +kernel
theorem dX12_trunk_113 : decode cX12_trunk 113 = .ok (.iload 5, 2) := by decide +kernel
theorem dX12_trunk_115 : decode cX12_trunk 115 = .ok (.invokevirtual 347, 3) := by decide +kernel
theorem dX12_trunk_118 : decode cX12_trunk 118 = .ok (.iconst 1, 1) := by decide +kernel
theorem dX12_trunk_119 : decode cX12_trunk 119 = .ok (.isub, 1) := by decide +kernel
theorem dX12_trunk_120 : decode cX12_trunk 120 = .ok (.goto 4, 3) := by decide +kernel
theorem dX12_trunk_123 : decode cX12_trunk 123 = .ok (.iload_n 3, 1) := by decide +kernel
theorem dX12_trunk_124 : decode cX12_trunk 124 = .ok (.istore 7, 2) := by decide +kernel
theorem dX12_trunk_126 : decode cX12_trunk 126 = .ok (.iload 4, 2) := by decide +kernel
theorem dX12_trunk_128 : decode cX12_trunk 128 = .ok (.iload 6, 2) := by decide +kernel
theorem dX12_trunk_130 : decode cX12_trunk 130 = .ok (.iload 7, 2) := by decide +kernel
theorem dX12_trunk_132 : decode cX12_trunk 132 = .ok (.if_icmp .gt 17, 3) := by decide +kernel
theorem dX12_trunk_135 : decode cX12_trunk 135 = .ok (.iconst 1, 1) := by decide +kernel
theorem dX12_trunk_136 : decode cX12_trunk 136 = .ok (.aload_n 0, 1) := by decide +kernel
theorem dX12_trunk_137 : decode cX12_trunk 137 = .ok (.getfield 99, 3) := by decide +kernel
theorem dX12_trunk_140 : decode cX12_trunk 140 = .ok (.iconst 5, 1) := by decide +kernel
theorem dX12_trunk_141 : decode cX12_trunk 141 = .ok (.iload 5, 2) := by decide +kernel
theorem dX12_trunk_143 : decode cX12_trunk 143 = .ok (.imul, 1) := by decide +kernel
theorem dX12_trunk_144 : decode cX12_trunk 144 = .ok (.iaload, 1) := by decide +kernel
theorem dX12_trunk_145 : decode cX12_trunk 145 = .ok (.ishl, 1) := by decide +kernel
theorem dX12_trunk_146 : decode cX12_trunk 146 = .ok (.goto 4, 3) := by decide +kernel
theorem dX12_trunk_149 : decode cX12_trunk 149 = .ok (.iconst 0, 1) := by decide +kernel
theorem dX12_trunk_150 : decode cX12_trunk 150 = .ok (.ior, 1) := by decide +kernel
theorem dX12_trunk_151 : decode cX12_trunk 151 = .ok (.istore 4, 2) := by decide +kernel
theorem dX12_trunk_153 : decode cX12_trunk 153 = .ok (.iinc 5 1, 3) := by decide +kernel
theorem dX12_trunk_156 : decode cX12_trunk 156 = .ok (.goto (-112), 3) := by decide +kernel
theorem dX12_trunk_159 : decode cX12_trunk 159 = .ok (.iload 4, 2) := by decide +kernel
theorem dX12_trunk_161 : decode cX12_trunk 161 = .ok (.ireturn, 1) := by decide +kernel
theorem dX12_sights_0 : decode cX12_sights 0 = .ok (.aload_n 0, 1) := by decide +kernel
theorem dX12_sights_1 : decode cX12_sights 1 = .ok (.getfield 83, 3) := by decide +kernel
theorem dX12_sights_4 : decode cX12_sights 4 = .ok (.sipush 402, 3) := by decide +kernel
theorem dX12_sights_7 : decode cX12_sights 7 = .ok (.iaload, 1) := by decide +kernel
theorem dX12_sights_8 : decode cX12_sights 8 = .ok (.ireturn, 1) := by decide +kernel
theorem dX12_sightOf_0 : decode cX12_sightOf 0 = .ok (.aload_n 0, 1) := by decide +kernel
theorem dX12_sightOf_1 : decode cX12_sightOf 1 = .ok (.getfield 83, 3) := by decide +kernel
theorem dX12_sightOf_4 : decode cX12_sightOf 4 = .ok (.sipush 403, 3) := by decide +kernel
theorem dX12_sightOf_7 : decode cX12_sightOf 7 = .ok (.iconst 3, 1) := by decide +kernel
theorem dX12_sightOf_8 : decode cX12_sightOf 8 = .ok (.iload_n 1, 1) := by decide +kernel
theorem dX12_sightOf_9 : decode cX12_sightOf 9 = .ok (.imul, 1) := by decide +kernel
theorem dX12_sightOf_10 : decode cX12_sightOf 10 = .ok (.iadd, 1) := by decide +kernel
theorem dX12_sightOf_11 : decode cX12_sightOf 11 = .ok (.iload_n 2, 1) := by decide +kernel
theorem dX12_sightOf_12 : decode cX12_sightOf 12 = .ok (.iadd, 1) := by decide +kernel
theorem dX12_sightOf_13 : decode cX12_sightOf 13 = .ok (.iaload, 1) := by decide +kernel
theorem dX12_sightOf_14 : decode cX12_sightOf 14 = .ok (.ireturn, 1) := by decide +kernel
theorem dX12_walk_0 : decode cX12_walk 0 = .ok (.iload_n 1, 1) := by decide +kernel
theorem dX12_walk_1 : decode cX12_walk 1 = .ok (.iload_n 2, 1) := by decide +kernel
theorem dX12_walk_2 : decode cX12_walk 2 = .ok (.if_icmp .ge 9, 3) := by decide +kernel
theorem dX12_walk_5 : decode cX12_walk 5 = .ok (.iload_n 2, 1) := by decide +kernel
theorem dX12_walk_6 : decode cX12_walk 6 = .ok (.iload_n 1, 1) := by decide +kernel
theorem dX12_walk_7 : decode cX12_walk 7 = .ok (.isub, 1) := by decide +kernel
theorem dX12_walk_8 : decode cX12_walk 8 = .ok (.goto 6, 3) := by decide +kernel
theorem dX12_walk_11 : decode cX12_walk 11 = .ok (.iload_n 1, 1) := by decide +kernel
theorem dX12_walk_12 : decode cX12_walk 12 = .ok (.iload_n 2, 1) := by decide +kernel
theorem dX12_walk_13 : decode cX12_walk 13 = .ok (.isub, 1) := by decide +kernel
theorem dX12_walk_14 : decode cX12_walk 14 = .ok (.iconst 2, 1) := by decide +kernel
theorem dX12_walk_15 : decode cX12_walk 15 = .ok (.aload_n 0, 1) := by decide +kernel
theorem dX12_walk_16 : decode cX12_walk 16 = .ok (.iload_n 1, 1) := by decide +kernel
theorem dX12_walk_17 : decode cX12_walk 17 = .ok (.iload_n 2, 1) := by decide +kernel
theorem dX12_walk_18 : decode cX12_walk 18 = .ok (.invokevirtual 258, 3) := by decide +kernel
theorem dX12_walk_21 : decode cX12_walk 21 = .ok (.imul, 1) := by decide +kernel
theorem dX12_walk_22 : decode cX12_walk 22 = .ok (.iadd, 1) := by decide +kernel
theorem dX12_walk_23 : decode cX12_walk 23 = .ok (.ireturn, 1) := by decide +kernel
theorem dX12_apart_0 : decode cX12_apart 0 = .ok (.iload_n 0, 1) := by decide +kernel
theorem dX12_apart_1 : decode cX12_apart 1 = .ok (.iload_n 1, 1) := by decide +kernel
theorem dX12_apart_2 : decode cX12_apart 2 = .ok (.if_icmp .ge 9, 3) := by decide +kernel
theorem dX12_apart_5 : decode cX12_apart 5 = .ok (.iload_n 1, 1) := by decide +kernel
theorem dX12_apart_6 : decode cX12_apart 6 = .ok (.iload_n 0, 1) := by decide +kernel
theorem dX12_apart_7 : decode cX12_apart 7 = .ok (.isub, 1) := by decide +kernel
theorem dX12_apart_8 : decode cX12_apart 8 = .ok (.goto 6, 3) := by decide +kernel
theorem dX12_apart_11 : decode cX12_apart 11 = .ok (.iload_n 0, 1) := by decide +kernel
theorem dX12_apart_12 : decode cX12_apart 12 = .ok (.iload_n 1, 1) := by decide +kernel
theorem dX12_apart_13 : decode cX12_apart 13 = .ok (.isub, 1) := by decide +kernel
theorem dX12_apart_14 : decode cX12_apart 14 = .ok (.ireturn, 1) := by decide +kernel
theorem dX12_sight_0 : decode cX12_sight 0 = .ok (.aload_n 0, 1) := by decide +kernel
theorem dX12_sight_1 : decode cX12_sight 1 = .ok (.iconst 0, 1) := by decide +kernel
theorem dX12_sight_2 : decode cX12_sight 2 = .ok (.putfield 1, 3) := by decide +kernel
theorem dX12_sight_5 : decode cX12_sight 5 = .ok (.aload_n 0, 1) := by decide +kernel
theorem dX12_sight_6 : decode cX12_sight 6 = .ok (.iload_n 1, 1) := by decide +kernel
theorem dX12_sight_7 : decode cX12_sight 7 = .ok (.invokevirtual 312, 3) := by decide +kernel
theorem dX12_sight_10 : decode cX12_sight 10 = .ok (.ifCond .eq 27, 3) := by decide +kernel
theorem dX12_sight_13 : decode cX12_sight 13 = .ok (.aload_n 0, 1) := by decide +kernel
theorem dX12_sight_14 : decode cX12_sight 14 = .ok (.iload_n 2, 1) := by decide +kernel
theorem dX12_sight_15 : decode cX12_sight 15 = .ok (.invokevirtual 309, 3) := by decide +kernel
theorem dX12_sight_18 : decode cX12_sight 18 = .ok (.ifCond .eq 19, 3) := by decide +kernel
theorem dX12_sight_21 : decode cX12_sight 21 = .ok (.iload_n 3, 1) := by decide +kernel
theorem dX12_sight_22 : decode cX12_sight 22 = .ok (.invokestatic 321, 3) := by decide +kernel
theorem dX12_sight_25 : decode cX12_sight 25 = .ok (.ifCond .eq 12, 3) := by decide +kernel
theorem dX12_sight_28 : decode cX12_sight 28 = .ok (.aload_n 0, 1) := by decide +kernel
theorem dX12_sight_29 : decode cX12_sight 29 = .ok (.invokevirtual 350, 3) := by decide +kernel
theorem dX12_sight_32 : decode cX12_sight 32 = .ok (.bipush 20, 2) := by decide +kernel
theorem dX12_sight_34 : decode cX12_sight 34 = .ok (.if_icmp .ne 5, 3) := by decide +kernel
theorem dX12_sight_37 : decode cX12_sight 37 = .ok (.iconst (-1), 1) := by decide +kernel
theorem dX12_sight_38 : decode cX12_sight 38 = .ok (.ireturn, 1) := by decide +kernel
theorem dX12_sight_39 : decode cX12_sight 39 = .ok (.sipush 403, 3) := by decide +kernel
theorem dX12_sight_42 : decode cX12_sight 42 = .ok (.iconst 3, 1) := by decide +kernel
theorem dX12_sight_43 : decode cX12_sight 43 = .ok (.aload_n 0, 1) := by decide +kernel
theorem dX12_sight_44 : decode cX12_sight 44 = .ok (.invokevirtual 350, 3) := by decide +kernel
theorem dX12_sight_47 : decode cX12_sight 47 = .ok (.imul, 1) := by decide +kernel
theorem dX12_sight_48 : decode cX12_sight 48 = .ok (.iadd, 1) := by decide +kernel
theorem dX12_sight_49 : decode cX12_sight 49 = .ok (.istore 4, 2) := by decide +kernel
theorem dX12_sight_51 : decode cX12_sight 51 = .ok (.aload_n 0, 1) := by decide +kernel
theorem dX12_sight_52 : decode cX12_sight 52 = .ok (.getfield 83, 3) := by decide +kernel
theorem dX12_sight_55 : decode cX12_sight 55 = .ok (.iload 4, 2) := by decide +kernel
theorem dX12_sight_57 : decode cX12_sight 57 = .ok (.iload_n 1, 1) := by decide +kernel
theorem dX12_sight_58 : decode cX12_sight 58 = .ok (.iastore, 1) := by decide +kernel
theorem dX12_sight_59 : decode cX12_sight 59 = .ok (.aload_n 0, 1) := by decide +kernel
theorem dX12_sight_60 : decode cX12_sight 60 = .ok (.getfield 83, 3) := by decide +kernel
theorem dX12_sight_63 : decode cX12_sight 63 = .ok (.iload 4, 2) := by decide +kernel
theorem dX12_sight_65 : decode cX12_sight 65 = .ok (.iconst 1, 1) := by decide +kernel
theorem dX12_sight_66 : decode cX12_sight 66 = .ok (.iadd, 1) := by decide +kernel
theorem dX12_sight_67 : decode cX12_sight 67 = .ok (.iload_n 2, 1) := by decide +kernel
theorem dX12_sight_68 : decode cX12_sight 68 = .ok (.iastore, 1) := by decide +kernel
theorem dX12_sight_69 : decode cX12_sight 69 = .ok (.aload_n 0, 1) := by decide +kernel
theorem dX12_sight_70 : decode cX12_sight 70 = .ok (.getfield 83, 3) := by decide +kernel
theorem dX12_sight_73 : decode cX12_sight 73 = .ok (.iload 4, 2) := by decide +kernel
theorem dX12_sight_75 : decode cX12_sight 75 = .ok (.iconst 2, 1) := by decide +kernel
theorem dX12_sight_76 : decode cX12_sight 76 = .ok (.iadd, 1) := by decide +kernel
theorem dX12_sight_77 : decode cX12_sight 77 = .ok (.iload_n 3, 1) := by decide +kernel
theorem dX12_sight_78 : decode cX12_sight 78 = .ok (.iastore, 1) := by decide +kernel
theorem dX12_sight_79 : decode cX12_sight 79 = .ok (.aload_n 0, 1) := by decide +kernel
theorem dX12_sight_80 : decode cX12_sight 80 = .ok (.getfield 83, 3) := by decide +kernel
theorem dX12_sight_83 : decode cX12_sight 83 = .ok (.sipush 402, 3) := by decide +kernel
theorem dX12_sight_86 : decode cX12_sight 86 = .ok (.dup2, 1) := by decide +kernel
theorem dX12_sight_87 : decode cX12_sight 87 = .ok (.iaload, 1) := by decide +kernel
theorem dX12_sight_88 : decode cX12_sight 88 = .ok (.iconst 1, 1) := by decide +kernel
theorem dX12_sight_89 : decode cX12_sight 89 = .ok (.iadd, 1) := by decide +kernel
theorem dX12_sight_90 : decode cX12_sight 90 = .ok (.iastore, 1) := by decide +kernel
theorem dX12_sight_91 : decode cX12_sight 91 = .ok (.aload_n 0, 1) := by decide +kernel
theorem dX12_sight_92 : decode cX12_sight 92 = .ok (.invokevirtual 350, 3) := by decide +kernel
theorem dX12_sight_95 : decode cX12_sight 95 = .ok (.ireturn, 1) := by decide +kernel
theorem dX12_could_0 : decode cX12_could 0 = .ok (.aload_n 0, 1) := by decide +kernel
theorem dX12_could_1 : decode cX12_could 1 = .ok (.iconst 0, 1) := by decide +kernel
theorem dX12_could_2 : decode cX12_could 2 = .ok (.putfield 1, 3) := by decide +kernel
theorem dX12_could_5 : decode cX12_could 5 = .ok (.aload_n 0, 1) := by decide +kernel
theorem dX12_could_6 : decode cX12_could 6 = .ok (.iload_n 1, 1) := by decide +kernel
theorem dX12_could_7 : decode cX12_could 7 = .ok (.invokevirtual 309, 3) := by decide +kernel
theorem dX12_could_10 : decode cX12_could 10 = .ok (.ifCond .eq 10, 3) := by decide +kernel
theorem dX12_could_13 : decode cX12_could 13 = .ok (.iload_n 2, 1) := by decide +kernel
theorem dX12_could_14 : decode cX12_could 14 = .ok (.invokestatic 321, 3) := by decide +kernel
theorem dX12_could_17 : decode cX12_could 17 = .ok (.ifCond .ne 5, 3) := by decide +kernel
theorem dX12_could_20 : decode cX12_could 20 = .ok (.iconst (-1), 1) := by decide +kernel
theorem dX12_could_21 : decode cX12_could 21 = .ok (.ireturn, 1) := by decide +kernel
theorem dX12_could_22 : decode cX12_could 22 = .ok (.iconst 1, 1) := by decide +kernel
theorem dX12_could_23 : decode cX12_could 23 = .ok (.aload_n 0, 1) := by decide +kernel
theorem dX12_could_24 : decode cX12_could 24 = .ok (.invokevirtual 234, 3) := by decide +kernel
theorem dX12_could_27 : decode cX12_could 27 = .ok (.ishl, 1) := by decide +kernel
theorem dX12_could_28 : decode cX12_could 28 = .ok (.iconst 1, 1) := by decide +kernel
theorem dX12_could_29 : decode cX12_could 29 = .ok (.isub, 1) := by decide +kernel
theorem dX12_could_30 : decode cX12_could 30 = .ok (.istore_n 3, 1) := by decide +kernel
theorem dX12_could_31 : decode cX12_could 31 = .ok (.iconst 0, 1) := by decide +kernel
theorem dX12_could_32 : decode cX12_could 32 = .ok (.istore 4, 2) := by decide +kernel
theorem dX12_could_34 : decode cX12_could 34 = .ok (.iload 4, 2) := by decide +kernel
theorem dX12_could_36 : decode cX12_could 36 = .ok (.aload_n 0, 1) := by decide +kernel
theorem dX12_could_37 : decode cX12_could 37 = .ok (.invokevirtual 350, 3) := by decide +kernel
theorem dX12_could_40 : decode cX12_could 40 = .ok (.if_icmp .ge 65, 3) := by decide +kernel
theorem dX12_could_43 : decode cX12_could 43 = .ok (.aload_n 0, 1) := by decide +kernel
theorem dX12_could_44 : decode cX12_could 44 = .ok (.aload_n 0, 1) := by decide +kernel
theorem dX12_could_45 : decode cX12_could 45 = .ok (.iload 4, 2) := by decide +kernel
theorem dX12_could_47 : decode cX12_could 47 = .ok (.iconst 1, 1) := by decide +kernel
theorem dX12_could_48 : decode cX12_could 48 = .ok (.invokevirtual 353, 3) := by decide +kernel
theorem dX12_could_51 : decode cX12_could 51 = .ok (.iload_n 1, 1) := by decide +kernel
theorem dX12_could_52 : decode cX12_could 52 = .ok (.invokevirtual 356, 3) := by decide +kernel
theorem dX12_could_55 : decode cX12_could 55 = .ok (.aload_n 0, 1) := by decide +kernel
theorem dX12_could_56 : decode cX12_could 56 = .ok (.iload 4, 2) := by decide +kernel
theorem dX12_could_58 : decode cX12_could 58 = .ok (.iconst 2, 1) := by decide +kernel
theorem dX12_could_59 : decode cX12_could 59 = .ok (.invokevirtual 353, 3) := by decide +kernel
theorem dX12_could_62 : decode cX12_could 62 = .ok (.iload_n 2, 1) := by decide +kernel
theorem dX12_could_63 : decode cX12_could 63 = .ok (.invokestatic 359, 3) := by decide +kernel
theorem dX12_could_66 : decode cX12_could 66 = .ok (.if_icmp .gt 7, 3) := by decide +kernel
theorem dX12_could_69 : decode cX12_could 69 = .ok (.iconst 1, 1) := by decide +kernel
theorem dX12_could_70 : decode cX12_could 70 = .ok (.goto 4, 3) := by decide +kernel
theorem dX12_could_73 : decode cX12_could 73 = .ok (.iconst 0, 1) := by decide +kernel
theorem dX12_could_74 : decode cX12_could 74 = .ok (.istore 5, 2) := by decide +kernel
theorem dX12_could_76 : decode cX12_could 76 = .ok (.iload_n 3, 1) := by decide +kernel
theorem dX12_could_77 : decode cX12_could 77 = .ok (.iload 5, 2) := by decide +kernel
theorem dX12_could_79 : decode cX12_could 79 = .ok (.ifCond .eq 7, 3) := by decide +kernel
theorem dX12_could_82 : decode cX12_could 82 = .ok (.iconst (-1), 1) := by decide +kernel
theorem dX12_could_83 : decode cX12_could 83 = .ok (.goto 14, 3) := by decide +kernel
theorem dX12_could_86 : decode cX12_could 86 = .ok (.iconst 1, 1) := by decide +kernel
theorem dX12_could_87 : decode cX12_could 87 = .ok (.aload_n 0, 1) := by decide +kernel
theorem dX12_could_88 : decode cX12_could 88 = .ok (.iload 4, 2) := by decide +kernel
theorem dX12_could_90 : decode cX12_could 90 = .ok (.iconst 0, 1) := by decide +kernel
theorem dX12_could_91 : decode cX12_could 91 = .ok (.invokevirtual 353, 3) := by decide +kernel
theorem dX12_could_94 : decode cX12_could 94 = .ok (.ishl, 1) := by decide +kernel
theorem dX12_could_95 : decode cX12_could 95 = .ok (.iconst (-1), 1) := by decide +kernel
theorem dX12_could_96 : decode cX12_could 96 = .ok (.ixor, 1) := by decide +kernel
theorem dX12_could_97 : decode cX12_could 97 = .ok (.iand, 1) := by decide +kernel
theorem dX12_could_98 : decode cX12_could 98 = .ok (.istore_n 3, 1) := by decide +kernel
theorem dX12_could_99 : decode cX12_could 99 = .ok (.iinc 4 1, 3) := by decide +kernel
theorem dX12_could_102 : decode cX12_could 102 = .ok (.goto (-68), 3) := by decide +kernel
theorem dX12_could_105 : decode cX12_could 105 = .ok (.iload_n 3, 1) := by decide +kernel
theorem dX12_could_106 : decode cX12_could 106 = .ok (.ireturn, 1) := by decide +kernel
theorem dX12_areUnlike_0 : decode cX12_areUnlike 0 = .ok (.aload_n 0, 1) := by decide +kernel
theorem dX12_areUnlike_1 : decode cX12_areUnlike 1 = .ok (.iload_n 1, 1) := by decide +kernel
theorem dX12_areUnlike_2 : decode cX12_areUnlike 2 = .ok (.iconst 0, 1) := by decide +kernel
theorem dX12_areUnlike_3 : decode cX12_areUnlike 3 = .ok (.invokevirtual 353, 3) := by decide +kernel
theorem dX12_areUnlike_6 : decode cX12_areUnlike 6 = .ok (.aload_n 0, 1) := by decide +kernel
theorem dX12_areUnlike_7 : decode cX12_areUnlike 7 = .ok (.iload_n 2, 1) := by decide +kernel
theorem dX12_areUnlike_8 : decode cX12_areUnlike 8 = .ok (.iconst 0, 1) := by decide +kernel
theorem dX12_areUnlike_9 : decode cX12_areUnlike 9 = .ok (.invokevirtual 353, 3) := by decide +kernel
theorem dX12_areUnlike_12 : decode cX12_areUnlike 12 = .ok (.if_icmp .ne 41, 3) := by decide +kernel
theorem dX12_areUnlike_15 : decode cX12_areUnlike 15 = .ok (.aload_n 0, 1) := by decide +kernel
theorem dX12_areUnlike_16 : decode cX12_areUnlike 16 = .ok (.aload_n 0, 1) := by decide +kernel
theorem dX12_areUnlike_17 : decode cX12_areUnlike 17 = .ok (.iload_n 1, 1) := by decide +kernel
theorem dX12_areUnlike_18 : decode cX12_areUnlike 18 = .ok (.iconst 1, 1) := by decide +kernel
theorem dX12_areUnlike_19 : decode cX12_areUnlike 19 = .ok (.invokevirtual 353, 3) := by decide +kernel
theorem dX12_areUnlike_22 : decode cX12_areUnlike 22 = .ok (.aload_n 0, 1) := by decide +kernel
theorem dX12_areUnlike_23 : decode cX12_areUnlike 23 = .ok (.iload_n 2, 1) := by decide +kernel
theorem dX12_areUnlike_24 : decode cX12_areUnlike 24 = .ok (.iconst 1, 1) := by decide +kernel
theorem dX12_areUnlike_25 : decode cX12_areUnlike 25 = .ok (.invokevirtual 353, 3) := by decide +kernel
theorem dX12_areUnlike_28 : decode cX12_areUnlike 28 = .ok (.invokevirtual 356, 3) := by decide +kernel
theorem dX12_areUnlike_31 : decode cX12_areUnlike 31 = .ok (.aload_n 0, 1) := by decide +kernel
theorem dX12_areUnlike_32 : decode cX12_areUnlike 32 = .ok (.iload_n 1, 1) := by decide +kernel
theorem dX12_areUnlike_33 : decode cX12_areUnlike 33 = .ok (.iconst 2, 1) := by decide +kernel
theorem dX12_areUnlike_34 : decode cX12_areUnlike 34 = .ok (.invokevirtual 353, 3) := by decide +kernel
theorem dX12_areUnlike_37 : decode cX12_areUnlike 37 = .ok (.aload_n 0, 1) := by decide +kernel
theorem dX12_areUnlike_38 : decode cX12_areUnlike 38 = .ok (.iload_n 2, 1) := by decide +kernel
theorem dX12_areUnlike_39 : decode cX12_areUnlike 39 = .ok (.iconst 2, 1) := by decide +kernel
theorem dX12_areUnlike_40 : decode cX12_areUnlike 40 = .ok (.invokevirtual 353, 3) := by decide +kernel
theorem dX12_areUnlike_43 : decode cX12_areUnlike 43 = .ok (.invokestatic 359, 3) := by decide +kernel
theorem dX12_areUnlike_46 : decode cX12_areUnlike 46 = .ok (.if_icmp .le 7, 3) := by decide +kernel
theorem dX12_areUnlike_49 : decode cX12_areUnlike 49 = .ok (.iconst 1, 1) := by decide +kernel
theorem dX12_areUnlike_50 : decode cX12_areUnlike 50 = .ok (.goto 4, 3) := by decide +kernel
theorem dX12_areUnlike_53 : decode cX12_areUnlike 53 = .ok (.iconst 0, 1) := by decide +kernel
theorem dX12_areUnlike_54 : decode cX12_areUnlike 54 = .ok (.ireturn, 1) := by decide +kernel
theorem dX12_triesLiars_0 : decode cX12_triesLiars 0 = .ok (.iload_n 3, 1) := by decide +kernel
theorem dX12_triesLiars_1 : decode cX12_triesLiars 1 = .ok (.aload_n 0, 1) := by decide +kernel
theorem dX12_triesLiars_2 : decode cX12_triesLiars 2 = .ok (.getfield 362, 3) := by decide +kernel
theorem dX12_triesLiars_5 : decode cX12_triesLiars 5 = .ok (.if_icmp .lt 4, 3) := by decide +kernel
theorem dX12_triesLiars_8 : decode cX12_triesLiars 8 = .ok (.return_, 1) := by decide +kernel
theorem dX12_triesLiars_9 : decode cX12_triesLiars 9 = .ok (.iload_n 1, 1) := by decide +kernel
theorem dX12_triesLiars_10 : decode cX12_triesLiars 10 = .ok (.aload_n 0, 1) := by decide +kernel
theorem dX12_triesLiars_11 : decode cX12_triesLiars 11 = .ok (.invokevirtual 350, 3) := by decide +kernel
theorem dX12_triesLiars_14 : decode cX12_triesLiars 14 = .ok (.if_icmp .ne 9, 3) := by decide +kernel
theorem dX12_triesLiars_17 : decode cX12_triesLiars 17 = .ok (.aload_n 0, 1) := by decide +kernel
theorem dX12_triesLiars_18 : decode cX12_triesLiars 18 = .ok (.iload_n 3, 1) := by decide +kernel
theorem dX12_triesLiars_19 : decode cX12_triesLiars 19 = .ok (.putfield 362, 3) := by decide +kernel
theorem dX12_triesLiars_22 : decode cX12_triesLiars 22 = .ok (.return_, 1) := by decide +kernel
theorem dX12_triesLiars_23 : decode cX12_triesLiars 23 = .ok (.iconst 1, 1) := by decide +kernel
theorem dX12_triesLiars_24 : decode cX12_triesLiars 24 = .ok (.istore 4, 2) := by decide +kernel
theorem dX12_triesLiars_26 : decode cX12_triesLiars 26 = .ok (.iconst 0, 1) := by decide +kernel
theorem dX12_triesLiars_27 : decode cX12_triesLiars 27 = .ok (.istore 5, 2) := by decide +kernel
theorem dX12_triesLiars_29 : decode cX12_triesLiars 29 = .ok (.iload 5, 2) := by decide +kernel
theorem dX12_triesLiars_31 : decode cX12_triesLiars 31 = .ok (.iload_n 1, 1) := by decide +kernel
theorem dX12_triesLiars_32 : decode cX12_triesLiars 32 = .ok (.if_icmp .ge 40, 3) := by decide +kernel
theorem dX12_triesLiars_35 : decode cX12_triesLiars 35 = .ok (.iload 4, 2) := by decide +kernel
theorem dX12_triesLiars_37 : decode cX12_triesLiars 37 = .ok (.ifCond .eq 26, 3) := by decide +kernel
theorem dX12_triesLiars_40 : decode cX12_triesLiars 40 = .ok (.iload_n 2, 1) := by decide +kernel
theorem dX12_triesLiars_41 : decode cX12_triesLiars 41 = .ok (.iload 5, 2) := by decide +kernel
theorem dX12_triesLiars_43 : decode cX12_triesLiars 43 = .ok (.ishr, 1) := by decide +kernel
theorem dX12_triesLiars_44 : decode cX12_triesLiars 44 = .ok (.iconst 1, 1) := by decide +kernel
theorem dX12_triesLiars_45 : decode cX12_triesLiars 45 = .ok (.iand, 1) := by decide +kernel
theorem dX12_triesLiars_46 : decode cX12_triesLiars 46 = .ok (.ifCond .eq 13, 3) := by decide +kernel
theorem dX12_triesLiars_49 : decode cX12_triesLiars 49 = .ok (.aload_n 0, 1) := by decide +kernel
theorem dX12_triesLiars_50 : decode cX12_triesLiars 50 = .ok (.iload 5, 2) := by decide +kernel
theorem dX12_triesLiars_52 : decode cX12_triesLiars 52 = .ok (.iload_n 1, 1) := by decide +kernel
theorem dX12_triesLiars_53 : decode cX12_triesLiars 53 = .ok (.invokevirtual 365, 3) := by decide +kernel
theorem dX12_triesLiars_56 : decode cX12_triesLiars 56 = .ok (.ifCond .ne 7, 3) := by decide +kernel
theorem dX12_triesLiars_59 : decode cX12_triesLiars 59 = .ok (.iconst 1, 1) := by decide +kernel
theorem dX12_triesLiars_60 : decode cX12_triesLiars 60 = .ok (.goto 4, 3) := by decide +kernel
theorem dX12_triesLiars_63 : decode cX12_triesLiars 63 = .ok (.iconst 0, 1) := by decide +kernel
theorem dX12_triesLiars_64 : decode cX12_triesLiars 64 = .ok (.istore 4, 2) := by decide +kernel
theorem dX12_triesLiars_66 : decode cX12_triesLiars 66 = .ok (.iinc 5 1, 3) := by decide +kernel
theorem dX12_triesLiars_69 : decode cX12_triesLiars 69 = .ok (.goto (-40), 3) := by decide +kernel
theorem dX12_triesLiars_72 : decode cX12_triesLiars 72 = .ok (.iload 4, 2) := by decide +kernel
theorem dX12_triesLiars_74 : decode cX12_triesLiars 74 = .ok (.ifCond .eq 16, 3) := by decide +kernel
theorem dX12_triesLiars_77 : decode cX12_triesLiars 77 = .ok (.aload_n 0, 1) := by decide +kernel
theorem dX12_triesLiars_78 : decode cX12_triesLiars 78 = .ok (.iload_n 1, 1) := by decide +kernel
theorem dX12_triesLiars_79 : decode cX12_triesLiars 79 = .ok (.iconst 1, 1) := by decide +kernel
theorem dX12_triesLiars_80 : decode cX12_triesLiars 80 = .ok (.iadd, 1) := by decide +kernel
theorem dX12_triesLiars_81 : decode cX12_triesLiars 81 = .ok (.iload_n 2, 1) := by decide +kernel
theorem dX12_triesLiars_82 : decode cX12_triesLiars 82 = .ok (.iconst 1, 1) := by decide +kernel
theorem dX12_triesLiars_83 : decode cX12_triesLiars 83 = .ok (.iload_n 1, 1) := by decide +kernel
theorem dX12_triesLiars_84 : decode cX12_triesLiars 84 = .ok (.ishl, 1) := by decide +kernel
theorem dX12_triesLiars_85 : decode cX12_triesLiars 85 = .ok (.ior, 1) := by decide +kernel
theorem dX12_triesLiars_86 : decode cX12_triesLiars 86 = .ok (.iload_n 3, 1) := by decide +kernel
theorem dX12_triesLiars_87 : decode cX12_triesLiars 87 = .ok (.invokevirtual 369, 3) := by decide +kernel
theorem dX12_triesLiars_90 : decode cX12_triesLiars 90 = .ok (.aload_n 0, 1) := by decide +kernel
theorem dX12_triesLiars_91 : decode cX12_triesLiars 91 = .ok (.iload_n 1, 1) := by decide +kernel
theorem dX12_triesLiars_92 : decode cX12_triesLiars 92 = .ok (.iconst 1, 1) := by decide +kernel
theorem dX12_triesLiars_93 : decode cX12_triesLiars 93 = .ok (.iadd, 1) := by decide +kernel
theorem dX12_triesLiars_94 : decode cX12_triesLiars 94 = .ok (.iload_n 2, 1) := by decide +kernel
theorem dX12_triesLiars_95 : decode cX12_triesLiars 95 = .ok (.iload_n 3, 1) := by decide +kernel
theorem dX12_triesLiars_96 : decode cX12_triesLiars 96 = .ok (.iconst 1, 1) := by decide +kernel
theorem dX12_triesLiars_97 : decode cX12_triesLiars 97 = .ok (.iadd, 1) := by decide +kernel
theorem dX12_triesLiars_98 : decode cX12_triesLiars 98 = .ok (.invokevirtual 369, 3) := by decide +kernel
theorem dX12_triesLiars_101 : decode cX12_triesLiars 101 = .ok (.return_, 1) := by decide +kernel
theorem dX12_liars_0 : decode cX12_liars 0 = .ok (.aload_n 0, 1) := by decide +kernel
theorem dX12_liars_1 : decode cX12_liars 1 = .ok (.iconst 0, 1) := by decide +kernel
theorem dX12_liars_2 : decode cX12_liars 2 = .ok (.putfield 1, 3) := by decide +kernel
theorem dX12_liars_5 : decode cX12_liars 5 = .ok (.aload_n 0, 1) := by decide +kernel
theorem dX12_liars_6 : decode cX12_liars 6 = .ok (.ldc_w 346, 3) := by decide +kernel
theorem dX12_liars_9 : decode cX12_liars 9 = .ok (.putfield 362, 3) := by decide +kernel
theorem dX12_liars_12 : decode cX12_liars 12 = .ok (.aload_n 0, 1) := by decide +kernel
theorem dX12_liars_13 : decode cX12_liars 13 = .ok (.iconst 0, 1) := by decide +kernel
theorem dX12_liars_14 : decode cX12_liars 14 = .ok (.iconst 0, 1) := by decide +kernel
theorem dX12_liars_15 : decode cX12_liars 15 = .ok (.iconst 0, 1) := by decide +kernel
theorem dX12_liars_16 : decode cX12_liars 16 = .ok (.invokevirtual 369, 3) := by decide +kernel
theorem dX12_liars_19 : decode cX12_liars 19 = .ok (.aload_n 0, 1) := by decide +kernel
theorem dX12_liars_20 : decode cX12_liars 20 = .ok (.getfield 362, 3) := by decide +kernel
theorem dX12_liars_23 : decode cX12_liars 23 = .ok (.ireturn, 1) := by decide +kernel
theorem dX12_pageOf_0 : decode cX12_pageOf 0 = .ok (.aload_n 0, 1) := by decide +kernel
theorem dX12_pageOf_1 : decode cX12_pageOf 1 = .ok (.getfield 83, 3) := by decide +kernel
theorem dX12_pageOf_4 : decode cX12_pageOf 4 = .ok (.sipush 463, 3) := by decide +kernel
theorem dX12_pageOf_7 : decode cX12_pageOf 7 = .ok (.iload_n 1, 1) := by decide +kernel
theorem dX12_pageOf_8 : decode cX12_pageOf 8 = .ok (.iadd, 1) := by decide +kernel
theorem dX12_pageOf_9 : decode cX12_pageOf 9 = .ok (.iaload, 1) := by decide +kernel
theorem dX12_pageOf_10 : decode cX12_pageOf 10 = .ok (.ireturn, 1) := by decide +kernel
theorem dX12_pages_0 : decode cX12_pages 0 = .ok (.iconst 0, 1) := by decide +kernel
theorem dX12_pages_1 : decode cX12_pages 1 = .ok (.istore_n 1, 1) := by decide +kernel
theorem dX12_pages_2 : decode cX12_pages 2 = .ok (.iconst 0, 1) := by decide +kernel
theorem dX12_pages_3 : decode cX12_pages 3 = .ok (.istore_n 2, 1) := by decide +kernel
theorem dX12_pages_4 : decode cX12_pages 4 = .ok (.iload_n 2, 1) := by decide +kernel
theorem dX12_pages_5 : decode cX12_pages 5 = .ok (.aload_n 0, 1) := by decide +kernel
theorem dX12_pages_6 : decode cX12_pages 6 = .ok (.invokevirtual 234, 3) := by decide +kernel
theorem dX12_pages_9 : decode cX12_pages 9 = .ok (.if_icmp .ge 25, 3) := by decide +kernel
theorem dX12_pages_12 : decode cX12_pages 12 = .ok (.iload_n 1, 1) := by decide +kernel
theorem dX12_pages_13 : decode cX12_pages 13 = .ok (.aload_n 0, 1) := by decide +kernel
theorem dX12_pages_14 : decode cX12_pages 14 = .ok (.iload_n 2, 1) := by decide +kernel
theorem dX12_pages_15 : decode cX12_pages 15 = .ok (.invokevirtual 372, 3) := by decide +kernel
theorem dX12_pages_18 : decode cX12_pages 18 = .ok (.ifCond .le 7, 3) := by decide +kernel
theorem dX12_pages_21 : decode cX12_pages 21 = .ok (.iconst 1, 1) := by decide +kernel
theorem dX12_pages_22 : decode cX12_pages 22 = .ok (.goto 4, 3) := by decide +kernel
theorem dX12_pages_25 : decode cX12_pages 25 = .ok (.iconst 0, 1) := by decide +kernel
theorem dX12_pages_26 : decode cX12_pages 26 = .ok (.iadd, 1) := by decide +kernel
theorem dX12_pages_27 : decode cX12_pages 27 = .ok (.istore_n 1, 1) := by decide +kernel
theorem dX12_pages_28 : decode cX12_pages 28 = .ok (.iinc 2 1, 3) := by decide +kernel
theorem dX12_pages_31 : decode cX12_pages 31 = .ok (.goto (-27), 3) := by decide +kernel
theorem dX12_pages_34 : decode cX12_pages 34 = .ok (.iload_n 1, 1) := by decide +kernel
theorem dX12_pages_35 : decode cX12_pages 35 = .ok (.ireturn, 1) := by decide +kernel
theorem dX12_page_0 : decode cX12_page 0 = .ok (.aload_n 0, 1) := by decide +kernel
theorem dX12_page_1 : decode cX12_page 1 = .ok (.iconst 0, 1) := by decide +kernel
theorem dX12_page_2 : decode cX12_page 2 = .ok (.putfield 1, 3) := by decide +kernel
theorem dX12_page_5 : decode cX12_page 5 = .ok (.aload_n 0, 1) := by decide +kernel
theorem dX12_page_6 : decode cX12_page 6 = .ok (.iload_n 1, 1) := by decide +kernel
theorem dX12_page_7 : decode cX12_page 7 = .ok (.invokevirtual 312, 3) := by decide +kernel
theorem dX12_page_10 : decode cX12_page 10 = .ok (.ifCond .eq 17, 3) := by decide +kernel
theorem dX12_page_13 : decode cX12_page 13 = .ok (.iload_n 2, 1) := by decide +kernel
theorem dX12_page_14 : decode cX12_page 14 = .ok (.ifCond .lt 13, 3) := by decide +kernel
theorem dX12_page_17 : decode cX12_page 17 = .ok (.iload_n 2, 1) := by decide +kernel
theorem dX12_page_18 : decode cX12_page 18 = .ok (.iconst 1, 1) := by decide +kernel
theorem dX12_page_19 : decode cX12_page 19 = .ok (.aload_n 0, 1) := by decide +kernel
theorem dX12_page_20 : decode cX12_page 20 = .ok (.invokevirtual 231, 3) := by decide +kernel
theorem dX12_page_23 : decode cX12_page 23 = .ok (.ishl, 1) := by decide +kernel
theorem dX12_page_24 : decode cX12_page 24 = .ok (.if_icmp .lt 5, 3) := by decide +kernel
theorem dX12_page_27 : decode cX12_page 27 = .ok (.iconst (-1), 1) := by decide +kernel
theorem dX12_page_28 : decode cX12_page 28 = .ok (.ireturn, 1) := by decide +kernel
theorem dX12_page_29 : decode cX12_page 29 = .ok (.aload_n 0, 1) := by decide +kernel
theorem dX12_page_30 : decode cX12_page 30 = .ok (.getfield 83, 3) := by decide +kernel
theorem dX12_page_33 : decode cX12_page 33 = .ok (.sipush 463, 3) := by decide +kernel
theorem dX12_page_36 : decode cX12_page 36 = .ok (.iload_n 1, 1) := by decide +kernel
theorem dX12_page_37 : decode cX12_page 37 = .ok (.iadd, 1) := by decide +kernel
theorem dX12_page_38 : decode cX12_page 38 = .ok (.iload_n 2, 1) := by decide +kernel
theorem dX12_page_39 : decode cX12_page 39 = .ok (.iastore, 1) := by decide +kernel
theorem dX12_page_40 : decode cX12_page 40 = .ok (.aload_n 0, 1) := by decide +kernel
theorem dX12_page_41 : decode cX12_page 41 = .ok (.invokevirtual 375, 3) := by decide +kernel
theorem dX12_page_44 : decode cX12_page 44 = .ok (.ireturn, 1) := by decide +kernel
theorem dX12_findWays_0 : decode cX12_findWays 0 = .ok (.iconst 0, 1) := by decide +kernel
theorem dX12_findWays_1 : decode cX12_findWays 1 = .ok (.istore_n 3, 1) := by decide +kernel
theorem dX12_findWays_2 : decode cX12_findWays 2 = .ok (.iload_n 3, 1) := by decide +kernel
theorem dX12_findWays_3 : decode cX12_findWays 3 = .ok (.sipush 1024, 3) := by decide +kernel
theorem dX12_findWays_6 : decode cX12_findWays 6 = .ok (.if_icmp .ge 24, 3) := by decide +kernel
theorem dX12_findWays_9 : decode cX12_findWays 9 = .ok (.aload_n 0, 1) := by decide +kernel
theorem dX12_findWays_10 : decode cX12_findWays 10 = .ok (.getfield 102, 3) := by decide +kernel
theorem dX12_findWays_13 : decode cX12_findWays 13 = .ok (.iload_n 3, 1) := by decide +kernel
theorem dX12_findWays_14 : decode cX12_findWays 14 = .ok (.iload_n 3, 1) := by decide +kernel
theorem dX12_findWays_15 : decode cX12_findWays 15 = .ok (.ifCond .ne 7, 3) := by decide +kernel
theorem dX12_findWays_18 : decode cX12_findWays 18 = .ok (.lconst 1, 1) := by decide +kernel
theorem dX12_findWays_19 : decode cX12_findWays 19 = .ok (.goto 4, 3) := by decide +kernel
theorem dX12_findWays_22 : decode cX12_findWays 22 = .ok (.lconst 0, 1) := by decide +kernel
theorem dX12_findWays_23 : decode cX12_findWays 23 = .ok (.lastore, 1) := by decide +kernel
theorem dX12_findWays_24 : decode cX12_findWays 24 = .ok (.iinc 3 1, 3) := by decide +kernel
theorem dX12_findWays_27 : decode cX12_findWays 27 = .ok (.goto (-25), 3) := by decide +kernel
theorem dX12_findWays_30 : decode cX12_findWays 30 = .ok (.iconst 0, 1) := by decide +kernel
theorem dX12_findWays_31 : decode cX12_findWays 31 = .ok (.istore_n 3, 1) := by decide +kernel
theorem dX12_findWays_32 : decode cX12_findWays 32 = .ok (.iload_n 3, 1) := by decide +kernel
theorem dX12_findWays_33 : decode cX12_findWays 33 = .ok (.aload_n 0, 1) := by decide +kernel
theorem dX12_findWays_34 : decode cX12_findWays 34 = .ok (.invokevirtual 234, 3) := by decide +kernel
theorem dX12_findWays_37 : decode cX12_findWays 37 = .ok (.if_icmp .ge 144, 3) := by decide +kernel
theorem dX12_findWays_40 : decode cX12_findWays 40 = .ok (.iload_n 3, 1) := by decide +kernel
theorem dX12_findWays_41 : decode cX12_findWays 41 = .ok (.iload_n 1, 1) := by decide +kernel
theorem dX12_findWays_42 : decode cX12_findWays 42 = .ok (.if_icmp .ne 15, 3) := by decide +kernel
theorem dX12_findWays_45 : decode cX12_findWays 45 = .ok (.aload_n 0, 1) := by decide +kernel
theorem dX12_findWays_46 : decode cX12_findWays 46 = .ok (.iload_n 3, 1) := by decide +kernel
theorem dX12_findWays_47 : decode cX12_findWays 47 = .ok (.invokevirtual 372, 3) := by decide +kernel
theorem dX12_findWays_50 : decode cX12_findWays 50 = .ok (.iconst 1, 1) := by decide +kernel
theorem dX12_findWays_51 : decode cX12_findWays 51 = .ok (.iload_n 2, 1) := by decide +kernel
theorem dX12_findWays_52 : decode cX12_findWays 52 = .ok (.ishl, 1) := by decide +kernel
theorem dX12_findWays_53 : decode cX12_findWays 53 = .ok (.iand, 1) := by decide +kernel
theorem dX12_findWays_54 : decode cX12_findWays 54 = .ok (.goto 8, 3) := by decide +kernel
theorem dX12_findWays_57 : decode cX12_findWays 57 = .ok (.aload_n 0, 1) := by decide +kernel
theorem dX12_findWays_58 : decode cX12_findWays 58 = .ok (.iload_n 3, 1) := by decide +kernel
theorem dX12_findWays_59 : decode cX12_findWays 59 = .ok (.invokevirtual 372, 3) := by decide +kernel
theorem dX12_findWays_62 : decode cX12_findWays 62 = .ok (.istore 4, 2) := by decide +kernel
theorem dX12_findWays_64 : decode cX12_findWays 64 = .ok (.sipush 1023, 3) := by decide +kernel
theorem dX12_findWays_67 : decode cX12_findWays 67 = .ok (.istore 5, 2) := by decide +kernel
theorem dX12_findWays_69 : decode cX12_findWays 69 = .ok (.iload 5, 2) := by decide +kernel
theorem dX12_findWays_71 : decode cX12_findWays 71 = .ok (.ifCond .lt 104, 3) := by decide +kernel
theorem dX12_findWays_74 : decode cX12_findWays 74 = .ok (.aload_n 0, 1) := by decide +kernel
theorem dX12_findWays_75 : decode cX12_findWays 75 = .ok (.iload_n 3, 1) := by decide +kernel
theorem dX12_findWays_76 : decode cX12_findWays 76 = .ok (.invokevirtual 372, 3) := by decide +kernel
theorem dX12_findWays_79 : decode cX12_findWays 79 = .ok (.ifCond .le 96, 3) := by decide +kernel
theorem dX12_findWays_82 : decode cX12_findWays 82 = .ok (.lconst 0, 1) := by decide +kernel
theorem dX12_findWays_83 : decode cX12_findWays 83 = .ok (.lstore 6, 2) := by decide +kernel
theorem dX12_findWays_85 : decode cX12_findWays 85 = .ok (.iconst 0, 1) := by decide +kernel
theorem dX12_findWays_86 : decode cX12_findWays 86 = .ok (.istore 8, 2) := by decide +kernel
theorem dX12_findWays_88 : decode cX12_findWays 88 = .ok (.iload 8, 2) := by decide +kernel
theorem dX12_findWays_90 : decode cX12_findWays 90 = .ok (.aload_n 0, 1) := by decide +kernel
theorem dX12_findWays_91 : decode cX12_findWays 91 = .ok (.invokevirtual 231, 3) := by decide +kernel
theorem dX12_findWays_94 : decode cX12_findWays 94 = .ok (.if_icmp .ge 66, 3) := by decide +kernel
theorem dX12_findWays_97 : decode cX12_findWays 97 = .ok (.iload 4, 2) := by decide +kernel
theorem dX12_findWays_99 : decode cX12_findWays 99 = .ok (.iload 8, 2) := by decide +kernel
theorem dX12_findWays_101 : decode cX12_findWays 101 = .ok (.ishr, 1) := by decide +kernel
theorem dX12_findWays_102 : decode cX12_findWays 102 = .ok (.iconst 1, 1) := by decide +kernel
theorem dX12_findWays_103 : decode cX12_findWays 103 = .ok (.iand, 1) := by decide +kernel
theorem dX12_findWays_104 : decode cX12_findWays 104 = .ok (.iconst 1, 1) := by decide +kernel
theorem dX12_findWays_105 : decode cX12_findWays 105 = .ok (.if_icmp .ne 18, 3) := by decide +kernel
theorem dX12_findWays_108 : decode cX12_findWays 108 = .ok (.iload 5, 2) := by decide +kernel
theorem dX12_findWays_110 : decode cX12_findWays 110 = .ok (.iload 8, 2) := by decide +kernel
theorem dX12_findWays_112 : decode cX12_findWays 112 = .ok (.ishr, 1) := by decide +kernel
theorem dX12_findWays_113 : decode cX12_findWays 113 = .ok (.iconst 1, 1) := by decide +kernel
theorem dX12_findWays_114 : decode cX12_findWays 114 = .ok (.iand, 1) := by decide +kernel
theorem dX12_findWays_115 : decode cX12_findWays 115 = .ok (.iconst 1, 1) := by decide +kernel
theorem dX12_findWays_116 : decode cX12_findWays 116 = .ok (.if_icmp .ne 7, 3) := by decide +kernel
theorem dX12_findWays_119 : decode cX12_findWays 119 = .ok (.iconst 1, 1) := by decide +kernel
theorem dX12_findWays_120 : decode cX12_findWays 120 = .ok (.goto 4, 3) := by decide +kernel
theorem dX12_findWays_123 : decode cX12_findWays 123 = .ok (.iconst 0, 1) := by decide +kernel
theorem dX12_findWays_124 : decode cX12_findWays 124 = .ok (.istore 9, 2) := by decide +kernel
theorem dX12_findWays_126 : decode cX12_findWays 126 = .ok (.lload 6, 2) := by decide +kernel
theorem dX12_findWays_128 : decode cX12_findWays 128 = .ok (.iload 9, 2) := by decide +kernel
theorem dX12_findWays_130 : decode cX12_findWays 130 = .ok (.ifCond .eq 20, 3) := by decide +kernel
theorem dX12_findWays_133 : decode cX12_findWays 133 = .ok (.aload_n 0, 1) := by decide +kernel
theorem dX12_findWays_134 : decode cX12_findWays 134 = .ok (.getfield 102, 3) := by decide +kernel
theorem dX12_findWays_137 : decode cX12_findWays 137 = .ok (.iload 5, 2) := by decide +kernel
theorem dX12_findWays_139 : decode cX12_findWays 139 = .ok (.iconst 1, 1) := by decide +kernel
theorem dX12_findWays_140 : decode cX12_findWays 140 = .ok (.iload 8, 2) := by decide +kernel
theorem dX12_findWays_142 : decode cX12_findWays 142 = .ok (.ishl, 1) := by decide +kernel
theorem dX12_findWays_143 : decode cX12_findWays 143 = .ok (.iconst (-1), 1) := by decide +kernel
theorem dX12_findWays_144 : decode cX12_findWays 144 = .ok (.ixor, 1) := by decide +kernel
theorem dX12_findWays_145 : decode cX12_findWays 145 = .ok (.iand, 1) := by decide +kernel
theorem dX12_findWays_146 : decode cX12_findWays 146 = .ok (.laload, 1) := by decide +kernel
theorem dX12_findWays_147 : decode cX12_findWays 147 = .ok (.goto 4, 3) := by decide +kernel
theorem dX12_findWays_150 : decode cX12_findWays 150 = .ok (.lconst 0, 1) := by decide +kernel
theorem dX12_findWays_151 : decode cX12_findWays 151 = .ok (.ladd, 1) := by decide +kernel
theorem dX12_findWays_152 : decode cX12_findWays 152 = .ok (.lstore 6, 2) := by decide +kernel
theorem dX12_findWays_154 : decode cX12_findWays 154 = .ok (.iinc 8 1, 3) := by decide +kernel
theorem dX12_findWays_157 : decode cX12_findWays 157 = .ok (.goto (-69), 3) := by decide +kernel
theorem dX12_findWays_160 : decode cX12_findWays 160 = .ok (.aload_n 0, 1) := by decide +kernel
theorem dX12_findWays_161 : decode cX12_findWays 161 = .ok (.getfield 102, 3) := by decide +kernel
theorem dX12_findWays_164 : decode cX12_findWays 164 = .ok (.iload 5, 2) := by decide +kernel
theorem dX12_findWays_166 : decode cX12_findWays 166 = .ok (.lload 6, 2) := by decide +kernel
theorem dX12_findWays_168 : decode cX12_findWays 168 = .ok (.lastore, 1) := by decide +kernel
theorem dX12_findWays_169 : decode cX12_findWays 169 = .ok (.iinc 5 (-1), 3) := by decide +kernel
theorem dX12_findWays_172 : decode cX12_findWays 172 = .ok (.goto (-103), 3) := by decide +kernel
theorem dX12_findWays_175 : decode cX12_findWays 175 = .ok (.iinc 3 1, 3) := by decide +kernel
theorem dX12_findWays_178 : decode cX12_findWays 178 = .ok (.goto (-146), 3) := by decide +kernel
theorem dX12_findWays_181 : decode cX12_findWays 181 = .ok (.lconst 0, 1) := by decide +kernel
theorem dX12_findWays_182 : decode cX12_findWays 182 = .ok (.lstore_n 3, 1) := by decide +kernel
theorem dX12_findWays_183 : decode cX12_findWays 183 = .ok (.iconst 0, 1) := by decide +kernel
theorem dX12_findWays_184 : decode cX12_findWays 184 = .ok (.istore 5, 2) := by decide +kernel
theorem dX12_findWays_186 : decode cX12_findWays 186 = .ok (.iload 5, 2) := by decide +kernel
theorem dX12_findWays_188 : decode cX12_findWays 188 = .ok (.sipush 1024, 3) := by decide +kernel
theorem dX12_findWays_191 : decode cX12_findWays 191 = .ok (.if_icmp .ge 19, 3) := by decide +kernel
theorem dX12_findWays_194 : decode cX12_findWays 194 = .ok (.lload_n 3, 1) := by decide +kernel
theorem dX12_findWays_195 : decode cX12_findWays 195 = .ok (.aload_n 0, 1) := by decide +kernel
theorem dX12_findWays_196 : decode cX12_findWays 196 = .ok (.getfield 102, 3) := by decide +kernel
theorem dX12_findWays_199 : decode cX12_findWays 199 = .ok (.iload 5, 2) := by decide +kernel
theorem dX12_findWays_201 : decode cX12_findWays 201 = .ok (.laload, 1) := by decide +kernel
theorem dX12_findWays_202 : decode cX12_findWays 202 = .ok (.ladd, 1) := by decide +kernel
theorem dX12_findWays_203 : decode cX12_findWays 203 = .ok (.lstore_n 3, 1) := by decide +kernel
theorem dX12_findWays_204 : decode cX12_findWays 204 = .ok (.iinc 5 1, 3) := by decide +kernel
theorem dX12_findWays_207 : decode cX12_findWays 207 = .ok (.goto (-21), 3) := by decide +kernel
theorem dX12_findWays_210 : decode cX12_findWays 210 = .ok (.lload_n 3, 1) := by decide +kernel
theorem dX12_findWays_211 : decode cX12_findWays 211 = .ok (.lreturn, 1) := by decide +kernel
theorem dX12_ways_0 : decode cX12_ways 0 = .ok (.aload_n 0, 1) := by decide +kernel
theorem dX12_ways_1 : decode cX12_ways 1 = .ok (.iconst 0, 1) := by decide +kernel
theorem dX12_ways_2 : decode cX12_ways 2 = .ok (.putfield 1, 3) := by decide +kernel
theorem dX12_ways_5 : decode cX12_ways 5 = .ok (.aload_n 0, 1) := by decide +kernel
theorem dX12_ways_6 : decode cX12_ways 6 = .ok (.iconst (-1), 1) := by decide +kernel
theorem dX12_ways_7 : decode cX12_ways 7 = .ok (.iconst 0, 1) := by decide +kernel
theorem dX12_ways_8 : decode cX12_ways 8 = .ok (.invokevirtual 378, 3) := by decide +kernel
theorem dX12_ways_11 : decode cX12_ways 11 = .ok (.lreturn, 1) := by decide +kernel
theorem dX12_sure_0 : decode cX12_sure 0 = .ok (.aload_n 0, 1) := by decide +kernel
theorem dX12_sure_1 : decode cX12_sure 1 = .ok (.iconst 0, 1) := by decide +kernel
theorem dX12_sure_2 : decode cX12_sure 2 = .ok (.putfield 1, 3) := by decide +kernel
theorem dX12_sure_5 : decode cX12_sure 5 = .ok (.aload_n 0, 1) := by decide +kernel
theorem dX12_sure_6 : decode cX12_sure 6 = .ok (.iload_n 1, 1) := by decide +kernel
theorem dX12_sure_7 : decode cX12_sure 7 = .ok (.invokevirtual 312, 3) := by decide +kernel
theorem dX12_sure_10 : decode cX12_sure 10 = .ok (.ifCond .eq 11, 3) := by decide +kernel
theorem dX12_sure_13 : decode cX12_sure 13 = .ok (.aload_n 0, 1) := by decide +kernel
theorem dX12_sure_14 : decode cX12_sure 14 = .ok (.iload_n 1, 1) := by decide +kernel
theorem dX12_sure_15 : decode cX12_sure 15 = .ok (.invokevirtual 372, 3) := by decide +kernel
theorem dX12_sure_18 : decode cX12_sure 18 = .ok (.ifCond .ne 5, 3) := by decide +kernel
theorem dX12_sure_21 : decode cX12_sure 21 = .ok (.iconst (-1), 1) := by decide +kernel
theorem dX12_sure_22 : decode cX12_sure 22 = .ok (.ireturn, 1) := by decide +kernel
theorem dX12_sure_23 : decode cX12_sure 23 = .ok (.iconst (-1), 1) := by decide +kernel
theorem dX12_sure_24 : decode cX12_sure 24 = .ok (.istore_n 2, 1) := by decide +kernel
theorem dX12_sure_25 : decode cX12_sure 25 = .ok (.iconst 0, 1) := by decide +kernel
theorem dX12_sure_26 : decode cX12_sure 26 = .ok (.istore_n 3, 1) := by decide +kernel
theorem dX12_sure_27 : decode cX12_sure 27 = .ok (.iconst 0, 1) := by decide +kernel
theorem dX12_sure_28 : decode cX12_sure 28 = .ok (.istore 4, 2) := by decide +kernel
theorem dX12_sure_30 : decode cX12_sure 30 = .ok (.iload 4, 2) := by decide +kernel
theorem dX12_sure_32 : decode cX12_sure 32 = .ok (.aload_n 0, 1) := by decide +kernel
theorem dX12_sure_33 : decode cX12_sure 33 = .ok (.invokevirtual 231, 3) := by decide +kernel
theorem dX12_sure_36 : decode cX12_sure 36 = .ok (.if_icmp .ge 67, 3) := by decide +kernel
theorem dX12_sure_39 : decode cX12_sure 39 = .ok (.aload_n 0, 1) := by decide +kernel
theorem dX12_sure_40 : decode cX12_sure 40 = .ok (.iload_n 1, 1) := by decide +kernel
theorem dX12_sure_41 : decode cX12_sure 41 = .ok (.invokevirtual 372, 3) := by decide +kernel
theorem dX12_sure_44 : decode cX12_sure 44 = .ok (.iload 4, 2) := by decide +kernel
theorem dX12_sure_46 : decode cX12_sure 46 = .ok (.ishr, 1) := by decide +kernel
theorem dX12_sure_47 : decode cX12_sure 47 = .ok (.iconst 1, 1) := by decide +kernel
theorem dX12_sure_48 : decode cX12_sure 48 = .ok (.iand, 1) := by decide +kernel
theorem dX12_sure_49 : decode cX12_sure 49 = .ok (.iconst 1, 1) := by decide +kernel
theorem dX12_sure_50 : decode cX12_sure 50 = .ok (.if_icmp .ne 19, 3) := by decide +kernel
theorem dX12_sure_53 : decode cX12_sure 53 = .ok (.aload_n 0, 1) := by decide +kernel
theorem dX12_sure_54 : decode cX12_sure 54 = .ok (.iload_n 1, 1) := by decide +kernel
theorem dX12_sure_55 : decode cX12_sure 55 = .ok (.iload 4, 2) := by decide +kernel
theorem dX12_sure_57 : decode cX12_sure 57 = .ok (.invokevirtual 378, 3) := by decide +kernel
theorem dX12_sure_60 : decode cX12_sure 60 = .ok (.lconst 0, 1) := by decide +kernel
theorem dX12_sure_61 : decode cX12_sure 61 = .ok (.lcmp, 1) := by decide +kernel
theorem dX12_sure_62 : decode cX12_sure 62 = .ok (.ifCond .le 7, 3) := by decide +kernel
theorem dX12_sure_65 : decode cX12_sure 65 = .ok (.iconst 1, 1) := by decide +kernel
theorem dX12_sure_66 : decode cX12_sure 66 = .ok (.goto 4, 3) := by decide +kernel
theorem dX12_sure_69 : decode cX12_sure 69 = .ok (.iconst 0, 1) := by decide +kernel
theorem dX12_sure_70 : decode cX12_sure 70 = .ok (.istore 5, 2) := by decide +kernel
theorem dX12_sure_72 : decode cX12_sure 72 = .ok (.iload 5, 2) := by decide +kernel
theorem dX12_sure_74 : decode cX12_sure 74 = .ok (.ifCond .eq 8, 3) := by decide +kernel
theorem dX12_sure_77 : decode cX12_sure 77 = .ok (.iload 4, 2) := by decide +kernel
theorem dX12_sure_79 : decode cX12_sure 79 = .ok (.goto 4, 3) := by decide +kernel
theorem dX12_sure_82 : decode cX12_sure 82 = .ok (.iload_n 2, 1) := by decide +kernel
theorem dX12_sure_83 : decode cX12_sure 83 = .ok (.istore_n 2, 1) := by decide +kernel
theorem dX12_sure_84 : decode cX12_sure 84 = .ok (.iload_n 3, 1) := by decide +kernel
theorem dX12_sure_85 : decode cX12_sure 85 = .ok (.iload 5, 2) := by decide +kernel
theorem dX12_sure_87 : decode cX12_sure 87 = .ok (.ifCond .eq 7, 3) := by decide +kernel
theorem dX12_sure_90 : decode cX12_sure 90 = .ok (.iconst 1, 1) := by decide +kernel
theorem dX12_sure_91 : decode cX12_sure 91 = .ok (.goto 4, 3) := by decide +kernel
theorem dX12_sure_94 : decode cX12_sure 94 = .ok (.iconst 0, 1) := by decide +kernel
theorem dX12_sure_95 : decode cX12_sure 95 = .ok (.iadd, 1) := by decide +kernel
theorem dX12_sure_96 : decode cX12_sure 96 = .ok (.istore_n 3, 1) := by decide +kernel
theorem dX12_sure_97 : decode cX12_sure 97 = .ok (.iinc 4 1, 3) := by decide +kernel
theorem dX12_sure_100 : decode cX12_sure 100 = .ok (.goto (-70), 3) := by decide +kernel
theorem dX12_sure_103 : decode cX12_sure 103 = .ok (.iload_n 3, 1) := by decide +kernel
theorem dX12_sure_104 : decode cX12_sure 104 = .ok (.iconst 1, 1) := by decide +kernel
theorem dX12_sure_105 : decode cX12_sure 105 = .ok (.if_icmp .ne 7, 3) := by decide +kernel
theorem dX12_sure_108 : decode cX12_sure 108 = .ok (.iload_n 2, 1) := by decide +kernel
theorem dX12_sure_109 : decode cX12_sure 109 = .ok (.goto 4, 3) := by decide +kernel
theorem dX12_sure_112 : decode cX12_sure 112 = .ok (.iconst (-1), 1) := by decide +kernel
theorem dX12_sure_113 : decode cX12_sure 113 = .ok (.ireturn, 1) := by decide +kernel
theorem dX12_jobs_0 : decode cX12_jobs 0 = .ok (.aload_n 0, 1) := by decide +kernel
theorem dX12_jobs_1 : decode cX12_jobs 1 = .ok (.getfield 83, 3) := by decide +kernel
theorem dX12_jobs_4 : decode cX12_jobs 4 = .ok (.sipush 473, 3) := by decide +kernel
theorem dX12_jobs_7 : decode cX12_jobs 7 = .ok (.iaload, 1) := by decide +kernel
theorem dX12_jobs_8 : decode cX12_jobs 8 = .ok (.ireturn, 1) := by decide +kernel
theorem dX12_jobOf_0 : decode cX12_jobOf 0 = .ok (.aload_n 0, 1) := by decide +kernel
theorem dX12_jobOf_1 : decode cX12_jobOf 1 = .ok (.getfield 83, 3) := by decide +kernel
theorem dX12_jobOf_4 : decode cX12_jobOf 4 = .ok (.sipush 474, 3) := by decide +kernel
theorem dX12_jobOf_7 : decode cX12_jobOf 7 = .ok (.iconst 3, 1) := by decide +kernel
theorem dX12_jobOf_8 : decode cX12_jobOf 8 = .ok (.iload_n 1, 1) := by decide +kernel
theorem dX12_jobOf_9 : decode cX12_jobOf 9 = .ok (.imul, 1) := by decide +kernel
theorem dX12_jobOf_10 : decode cX12_jobOf 10 = .ok (.iadd, 1) := by decide +kernel
theorem dX12_jobOf_11 : decode cX12_jobOf 11 = .ok (.iload_n 2, 1) := by decide +kernel
theorem dX12_jobOf_12 : decode cX12_jobOf 12 = .ok (.iadd, 1) := by decide +kernel
theorem dX12_jobOf_13 : decode cX12_jobOf 13 = .ok (.iaload, 1) := by decide +kernel
theorem dX12_jobOf_14 : decode cX12_jobOf 14 = .ok (.ireturn, 1) := by decide +kernel
theorem dX12_job_0 : decode cX12_job 0 = .ok (.aload_n 0, 1) := by decide +kernel
theorem dX12_job_1 : decode cX12_job 1 = .ok (.iconst 0, 1) := by decide +kernel
theorem dX12_job_2 : decode cX12_job 2 = .ok (.putfield 1, 3) := by decide +kernel
theorem dX12_job_5 : decode cX12_job 5 = .ok (.iload_n 1, 1) := by decide +kernel
theorem dX12_job_6 : decode cX12_job 6 = .ok (.iconst 0, 1) := by decide +kernel
theorem dX12_job_7 : decode cX12_job 7 = .ok (.bipush 99, 2) := by decide +kernel
theorem dX12_job_9 : decode cX12_job 9 = .ok (.invokestatic 304, 3) := by decide +kernel
theorem dX12_job_12 : decode cX12_job 12 = .ok (.ifCond .eq 32, 3) := by decide +kernel
theorem dX12_job_15 : decode cX12_job 15 = .ok (.iload_n 2, 1) := by decide +kernel
theorem dX12_job_16 : decode cX12_job 16 = .ok (.iconst 1, 1) := by decide +kernel
theorem dX12_job_17 : decode cX12_job 17 = .ok (.bipush 99, 2) := by decide +kernel
theorem dX12_job_19 : decode cX12_job 19 = .ok (.invokestatic 304, 3) := by decide +kernel
theorem dX12_job_22 : decode cX12_job 22 = .ok (.ifCond .eq 22, 3) := by decide +kernel
theorem dX12_job_25 : decode cX12_job 25 = .ok (.iload_n 3, 1) := by decide +kernel
theorem dX12_job_26 : decode cX12_job 26 = .ok (.iconst 0, 1) := by decide +kernel
theorem dX12_job_27 : decode cX12_job 27 = .ok (.bipush 99, 2) := by decide +kernel
theorem dX12_job_29 : decode cX12_job 29 = .ok (.invokestatic 304, 3) := by decide +kernel
theorem dX12_job_32 : decode cX12_job 32 = .ok (.ifCond .eq 12, 3) := by decide +kernel
theorem dX12_job_35 : decode cX12_job 35 = .ok (.aload_n 0, 1) := by decide +kernel
theorem dX12_job_36 : decode cX12_job 36 = .ok (.invokevirtual 382, 3) := by decide +kernel
theorem dX12_job_39 : decode cX12_job 39 = .ok (.bipush 7, 2) := by decide +kernel
theorem dX12_job_41 : decode cX12_job 41 = .ok (.if_icmp .ne 5, 3) := by decide +kernel
theorem dX12_job_44 : decode cX12_job 44 = .ok (.iconst (-1), 1) := by decide +kernel
theorem dX12_job_45 : decode cX12_job 45 = .ok (.ireturn, 1) := by decide +kernel
theorem dX12_job_46 : decode cX12_job 46 = .ok (.sipush 474, 3) := by decide +kernel
theorem dX12_job_49 : decode cX12_job 49 = .ok (.iconst 3, 1) := by decide +kernel
theorem dX12_job_50 : decode cX12_job 50 = .ok (.aload_n 0, 1) := by decide +kernel
theorem dX12_job_51 : decode cX12_job 51 = .ok (.invokevirtual 382, 3) := by decide +kernel
theorem dX12_job_54 : decode cX12_job 54 = .ok (.imul, 1) := by decide +kernel
theorem dX12_job_55 : decode cX12_job 55 = .ok (.iadd, 1) := by decide +kernel
theorem dX12_job_56 : decode cX12_job 56 = .ok (.istore 4, 2) := by decide +kernel
theorem dX12_job_58 : decode cX12_job 58 = .ok (.aload_n 0, 1) := by decide +kernel
theorem dX12_job_59 : decode cX12_job 59 = .ok (.getfield 83, 3) := by decide +kernel
theorem dX12_job_62 : decode cX12_job 62 = .ok (.iload 4, 2) := by decide +kernel
theorem dX12_job_64 : decode cX12_job 64 = .ok (.iload_n 1, 1) := by decide +kernel
theorem dX12_job_65 : decode cX12_job 65 = .ok (.iastore, 1) := by decide +kernel
theorem dX12_job_66 : decode cX12_job 66 = .ok (.aload_n 0, 1) := by decide +kernel
theorem dX12_job_67 : decode cX12_job 67 = .ok (.getfield 83, 3) := by decide +kernel
theorem dX12_job_70 : decode cX12_job 70 = .ok (.iload 4, 2) := by decide +kernel
theorem dX12_job_72 : decode cX12_job 72 = .ok (.iconst 1, 1) := by decide +kernel
theorem dX12_job_73 : decode cX12_job 73 = .ok (.iadd, 1) := by decide +kernel
theorem dX12_job_74 : decode cX12_job 74 = .ok (.iload_n 2, 1) := by decide +kernel
theorem dX12_job_75 : decode cX12_job 75 = .ok (.iastore, 1) := by decide +kernel
theorem dX12_job_76 : decode cX12_job 76 = .ok (.aload_n 0, 1) := by decide +kernel
theorem dX12_job_77 : decode cX12_job 77 = .ok (.getfield 83, 3) := by decide +kernel
theorem dX12_job_80 : decode cX12_job 80 = .ok (.iload 4, 2) := by decide +kernel
theorem dX12_job_82 : decode cX12_job 82 = .ok (.iconst 2, 1) := by decide +kernel
theorem dX12_job_83 : decode cX12_job 83 = .ok (.iadd, 1) := by decide +kernel
theorem dX12_job_84 : decode cX12_job 84 = .ok (.iload_n 3, 1) := by decide +kernel
theorem dX12_job_85 : decode cX12_job 85 = .ok (.iastore, 1) := by decide +kernel
theorem dX12_job_86 : decode cX12_job 86 = .ok (.aload_n 0, 1) := by decide +kernel
theorem dX12_job_87 : decode cX12_job 87 = .ok (.getfield 83, 3) := by decide +kernel
theorem dX12_job_90 : decode cX12_job 90 = .ok (.sipush 473, 3) := by decide +kernel
theorem dX12_job_93 : decode cX12_job 93 = .ok (.dup2, 1) := by decide +kernel
theorem dX12_job_94 : decode cX12_job 94 = .ok (.iaload, 1) := by decide +kernel
theorem dX12_job_95 : decode cX12_job 95 = .ok (.iconst 1, 1) := by decide +kernel
theorem dX12_job_96 : decode cX12_job 96 = .ok (.iadd, 1) := by decide +kernel
theorem dX12_job_97 : decode cX12_job 97 = .ok (.iastore, 1) := by decide +kernel
theorem dX12_job_98 : decode cX12_job 98 = .ok (.aload_n 0, 1) := by decide +kernel
theorem dX12_job_99 : decode cX12_job 99 = .ok (.invokevirtual 382, 3) := by decide +kernel
theorem dX12_job_102 : decode cX12_job 102 = .ok (.ireturn, 1) := by decide +kernel
theorem dX12_doneBy_0 : decode cX12_doneBy 0 = .ok (.iconst 0, 1) := by decide +kernel
theorem dX12_doneBy_1 : decode cX12_doneBy 1 = .ok (.istore_n 2, 1) := by decide +kernel
theorem dX12_doneBy_2 : decode cX12_doneBy 2 = .ok (.iconst 0, 1) := by decide +kernel
theorem dX12_doneBy_3 : decode cX12_doneBy 3 = .ok (.istore_n 3, 1) := by decide +kernel
theorem dX12_doneBy_4 : decode cX12_doneBy 4 = .ok (.aload_n 0, 1) := by decide +kernel
theorem dX12_doneBy_5 : decode cX12_doneBy 5 = .ok (.iconst 0, 1) := by decide +kernel
theorem dX12_doneBy_6 : decode cX12_doneBy 6 = .ok (.putfield 385, 3) := by decide +kernel
theorem dX12_doneBy_9 : decode cX12_doneBy 9 = .ok (.iconst 0, 1) := by decide +kernel
theorem dX12_doneBy_10 : decode cX12_doneBy 10 = .ok (.istore 4, 2) := by decide +kernel
theorem dX12_doneBy_12 : decode cX12_doneBy 12 = .ok (.iload 4, 2) := by decide +kernel
theorem dX12_doneBy_14 : decode cX12_doneBy 14 = .ok (.aload_n 0, 1) := by decide +kernel
theorem dX12_doneBy_15 : decode cX12_doneBy 15 = .ok (.invokevirtual 382, 3) := by decide +kernel
theorem dX12_doneBy_18 : decode cX12_doneBy 18 = .ok (.if_icmp .ge 125, 3) := by decide +kernel
theorem dX12_doneBy_21 : decode cX12_doneBy 21 = .ok (.aload_n 1, 1) := by decide +kernel
theorem dX12_doneBy_22 : decode cX12_doneBy 22 = .ok (.iload 4, 2) := by decide +kernel
theorem dX12_doneBy_24 : decode cX12_doneBy 24 = .ok (.iaload, 1) := by decide +kernel
theorem dX12_doneBy_25 : decode cX12_doneBy 25 = .ok (.istore 5, 2) := by decide +kernel
theorem dX12_doneBy_27 : decode cX12_doneBy 27 = .ok (.iload_n 2, 1) := by decide +kernel
theorem dX12_doneBy_28 : decode cX12_doneBy 28 = .ok (.aload_n 0, 1) := by decide +kernel
theorem dX12_doneBy_29 : decode cX12_doneBy 29 = .ok (.iload 5, 2) := by decide +kernel
theorem dX12_doneBy_31 : decode cX12_doneBy 31 = .ok (.iconst 0, 1) := by decide +kernel
theorem dX12_doneBy_32 : decode cX12_doneBy 32 = .ok (.invokevirtual 388, 3) := by decide +kernel
theorem dX12_doneBy_35 : decode cX12_doneBy 35 = .ok (.if_icmp .ge 13, 3) := by decide +kernel
theorem dX12_doneBy_38 : decode cX12_doneBy 38 = .ok (.aload_n 0, 1) := by decide +kernel
theorem dX12_doneBy_39 : decode cX12_doneBy 39 = .ok (.iload 5, 2) := by decide +kernel
theorem dX12_doneBy_41 : decode cX12_doneBy 41 = .ok (.iconst 0, 1) := by decide +kernel
theorem dX12_doneBy_42 : decode cX12_doneBy 42 = .ok (.invokevirtual 388, 3) := by decide +kernel
theorem dX12_doneBy_45 : decode cX12_doneBy 45 = .ok (.goto 4, 3) := by decide +kernel
theorem dX12_doneBy_48 : decode cX12_doneBy 48 = .ok (.iload_n 2, 1) := by decide +kernel
theorem dX12_doneBy_49 : decode cX12_doneBy 49 = .ok (.istore 6, 2) := by decide +kernel
theorem dX12_doneBy_51 : decode cX12_doneBy 51 = .ok (.aload_n 0, 1) := by decide +kernel
theorem dX12_doneBy_52 : decode cX12_doneBy 52 = .ok (.dup, 1) := by decide +kernel
theorem dX12_doneBy_53 : decode cX12_doneBy 53 = .ok (.getfield 385, 3) := by decide +kernel
theorem dX12_doneBy_56 : decode cX12_doneBy 56 = .ok (.iload 6, 2) := by decide +kernel
theorem dX12_doneBy_58 : decode cX12_doneBy 58 = .ok (.aload_n 0, 1) := by decide +kernel
theorem dX12_doneBy_59 : decode cX12_doneBy 59 = .ok (.iload 5, 2) := by decide +kernel
theorem dX12_doneBy_61 : decode cX12_doneBy 61 = .ok (.iconst 0, 1) := by decide +kernel
theorem dX12_doneBy_62 : decode cX12_doneBy 62 = .ok (.invokevirtual 388, 3) := by decide +kernel
theorem dX12_doneBy_65 : decode cX12_doneBy 65 = .ok (.isub, 1) := by decide +kernel
theorem dX12_doneBy_66 : decode cX12_doneBy 66 = .ok (.iadd, 1) := by decide +kernel
theorem dX12_doneBy_67 : decode cX12_doneBy 67 = .ok (.putfield 385, 3) := by decide +kernel
theorem dX12_doneBy_70 : decode cX12_doneBy 70 = .ok (.iload 6, 2) := by decide +kernel
theorem dX12_doneBy_72 : decode cX12_doneBy 72 = .ok (.aload_n 0, 1) := by decide +kernel
theorem dX12_doneBy_73 : decode cX12_doneBy 73 = .ok (.iload 5, 2) := by decide +kernel
theorem dX12_doneBy_75 : decode cX12_doneBy 75 = .ok (.iconst 1, 1) := by decide +kernel
theorem dX12_doneBy_76 : decode cX12_doneBy 76 = .ok (.invokevirtual 388, 3) := by decide +kernel
theorem dX12_doneBy_79 : decode cX12_doneBy 79 = .ok (.iadd, 1) := by decide +kernel
theorem dX12_doneBy_80 : decode cX12_doneBy 80 = .ok (.istore_n 2, 1) := by decide +kernel
theorem dX12_doneBy_81 : decode cX12_doneBy 81 = .ok (.aload_n 0, 1) := by decide +kernel
theorem dX12_doneBy_82 : decode cX12_doneBy 82 = .ok (.getfield 111, 3) := by decide +kernel
theorem dX12_doneBy_85 : decode cX12_doneBy 85 = .ok (.iload 5, 2) := by decide +kernel
theorem dX12_doneBy_87 : decode cX12_doneBy 87 = .ok (.iload 6, 2) := by decide +kernel
theorem dX12_doneBy_89 : decode cX12_doneBy 89 = .ok (.aload_n 0, 1) := by decide +kernel
theorem dX12_doneBy_90 : decode cX12_doneBy 90 = .ok (.iload 5, 2) := by decide +kernel
theorem dX12_doneBy_92 : decode cX12_doneBy 92 = .ok (.iconst 0, 1) := by decide +kernel
theorem dX12_doneBy_93 : decode cX12_doneBy 93 = .ok (.invokevirtual 388, 3) := by decide +kernel
theorem dX12_doneBy_96 : decode cX12_doneBy 96 = .ok (.isub, 1) := by decide +kernel
theorem dX12_doneBy_97 : decode cX12_doneBy 97 = .ok (.iastore, 1) := by decide +kernel
theorem dX12_doneBy_98 : decode cX12_doneBy 98 = .ok (.aload_n 0, 1) := by decide +kernel
theorem dX12_doneBy_99 : decode cX12_doneBy 99 = .ok (.getfield 114, 3) := by decide +kernel
theorem dX12_doneBy_102 : decode cX12_doneBy 102 = .ok (.iload 5, 2) := by decide +kernel
theorem dX12_doneBy_104 : decode cX12_doneBy 104 = .ok (.iload_n 2, 1) := by decide +kernel
theorem dX12_doneBy_105 : decode cX12_doneBy 105 = .ok (.aload_n 0, 1) := by decide +kernel
theorem dX12_doneBy_106 : decode cX12_doneBy 106 = .ok (.iload 5, 2) := by decide +kernel
theorem dX12_doneBy_108 : decode cX12_doneBy 108 = .ok (.iconst 2, 1) := by decide +kernel
theorem dX12_doneBy_109 : decode cX12_doneBy 109 = .ok (.invokevirtual 388, 3) := by decide +kernel
theorem dX12_doneBy_112 : decode cX12_doneBy 112 = .ok (.iadd, 1) := by decide +kernel
theorem dX12_doneBy_113 : decode cX12_doneBy 113 = .ok (.iastore, 1) := by decide +kernel
theorem dX12_doneBy_114 : decode cX12_doneBy 114 = .ok (.aload_n 0, 1) := by decide +kernel
theorem dX12_doneBy_115 : decode cX12_doneBy 115 = .ok (.getfield 114, 3) := by decide +kernel
theorem dX12_doneBy_118 : decode cX12_doneBy 118 = .ok (.iload 5, 2) := by decide +kernel
theorem dX12_doneBy_120 : decode cX12_doneBy 120 = .ok (.iaload, 1) := by decide +kernel
theorem dX12_doneBy_121 : decode cX12_doneBy 121 = .ok (.iload_n 3, 1) := by decide +kernel
theorem dX12_doneBy_122 : decode cX12_doneBy 122 = .ok (.if_icmp .le 13, 3) := by decide +kernel
theorem dX12_doneBy_125 : decode cX12_doneBy 125 = .ok (.aload_n 0, 1) := by decide +kernel
theorem dX12_doneBy_126 : decode cX12_doneBy 126 = .ok (.getfield 114, 3) := by decide +kernel
theorem dX12_doneBy_129 : decode cX12_doneBy 129 = .ok (.iload 5, 2) := by decide +kernel
theorem dX12_doneBy_131 : decode cX12_doneBy 131 = .ok (.iaload, 1) := by decide +kernel
theorem dX12_doneBy_132 : decode cX12_doneBy 132 = .ok (.goto 4, 3) := by decide +kernel
theorem dX12_doneBy_135 : decode cX12_doneBy 135 = .ok (.iload_n 3, 1) := by decide +kernel
theorem dX12_doneBy_136 : decode cX12_doneBy 136 = .ok (.istore_n 3, 1) := by decide +kernel
theorem dX12_doneBy_137 : decode cX12_doneBy 137 = .ok (.iinc 4 1, 3) := by decide +kernel
theorem dX12_doneBy_140 : decode cX12_doneBy 140 = .ok (.goto (-128), 3) := by decide +kernel
theorem dX12_doneBy_143 : decode cX12_doneBy 143 = .ok (.iload_n 3, 1) := by decide +kernel
theorem dX12_doneBy_144 : decode cX12_doneBy 144 = .ok (.ireturn, 1) := by decide +kernel
theorem dX12_triesJobs_0 : decode cX12_triesJobs 0 = .ok (.iload_n 1, 1) := by decide +kernel
theorem dX12_triesJobs_1 : decode cX12_triesJobs 1 = .ok (.aload_n 0, 1) := by decide +kernel
theorem dX12_triesJobs_2 : decode cX12_triesJobs 2 = .ok (.invokevirtual 382, 3) := by decide +kernel
theorem dX12_triesJobs_5 : decode cX12_triesJobs 5 = .ok (.if_icmp .ne 55, 3) := by decide +kernel
theorem dX12_triesJobs_8 : decode cX12_triesJobs 8 = .ok (.aload_n 0, 1) := by decide +kernel
theorem dX12_triesJobs_9 : decode cX12_triesJobs 9 = .ok (.aload_n 0, 1) := by decide +kernel
theorem dX12_triesJobs_10 : decode cX12_triesJobs 10 = .ok (.getfield 105, 3) := by decide +kernel
theorem dX12_triesJobs_13 : decode cX12_triesJobs 13 = .ok (.invokevirtual 391, 3) := by decide +kernel
theorem dX12_triesJobs_16 : decode cX12_triesJobs 16 = .ok (.istore_n 3, 1) := by decide +kernel
theorem dX12_triesJobs_17 : decode cX12_triesJobs 17 = .ok (.iload_n 3, 1) := by decide +kernel
theorem dX12_triesJobs_18 : decode cX12_triesJobs 18 = .ok (.aload_n 0, 1) := by decide +kernel
theorem dX12_triesJobs_19 : decode cX12_triesJobs 19 = .ok (.getfield 395, 3) := by decide +kernel
theorem dX12_triesJobs_22 : decode cX12_triesJobs 22 = .ok (.if_icmp .ge 37, 3) := by decide +kernel
theorem dX12_triesJobs_25 : decode cX12_triesJobs 25 = .ok (.aload_n 0, 1) := by decide +kernel
theorem dX12_triesJobs_26 : decode cX12_triesJobs 26 = .ok (.iload_n 3, 1) := by decide +kernel
theorem dX12_triesJobs_27 : decode cX12_triesJobs 27 = .ok (.putfield 395, 3) := by decide +kernel
theorem dX12_triesJobs_30 : decode cX12_triesJobs 30 = .ok (.iconst 0, 1) := by decide +kernel
theorem dX12_triesJobs_31 : decode cX12_triesJobs 31 = .ok (.istore 4, 2) := by decide +kernel
theorem dX12_triesJobs_33 : decode cX12_triesJobs 33 = .ok (.iload 4, 2) := by decide +kernel
theorem dX12_triesJobs_35 : decode cX12_triesJobs 35 = .ok (.iload_n 1, 1) := by decide +kernel
theorem dX12_triesJobs_36 : decode cX12_triesJobs 36 = .ok (.if_icmp .ge 23, 3) := by decide +kernel
theorem dX12_triesJobs_39 : decode cX12_triesJobs 39 = .ok (.aload_n 0, 1) := by decide +kernel
theorem dX12_triesJobs_40 : decode cX12_triesJobs 40 = .ok (.getfield 108, 3) := by decide +kernel
theorem dX12_triesJobs_43 : decode cX12_triesJobs 43 = .ok (.iload 4, 2) := by decide +kernel
theorem dX12_triesJobs_45 : decode cX12_triesJobs 45 = .ok (.aload_n 0, 1) := by decide +kernel
theorem dX12_triesJobs_46 : decode cX12_triesJobs 46 = .ok (.getfield 105, 3) := by decide +kernel
theorem dX12_triesJobs_49 : decode cX12_triesJobs 49 = .ok (.iload 4, 2) := by decide +kernel
theorem dX12_triesJobs_51 : decode cX12_triesJobs 51 = .ok (.iaload, 1) := by decide +kernel
theorem dX12_triesJobs_52 : decode cX12_triesJobs 52 = .ok (.iastore, 1) := by decide +kernel
theorem dX12_triesJobs_53 : decode cX12_triesJobs 53 = .ok (.iinc 4 1, 3) := by decide +kernel
theorem dX12_triesJobs_56 : decode cX12_triesJobs 56 = .ok (.goto (-23), 3) := by decide +kernel
theorem dX12_triesJobs_59 : decode cX12_triesJobs 59 = .ok (.return_, 1) := by decide +kernel
theorem dX12_triesJobs_60 : decode cX12_triesJobs 60 = .ok (.iconst 0, 1) := by decide +kernel
theorem dX12_triesJobs_61 : decode cX12_triesJobs 61 = .ok (.istore_n 3, 1) := by decide +kernel
theorem dX12_triesJobs_62 : decode cX12_triesJobs 62 = .ok (.iload_n 3, 1) := by decide +kernel
theorem dX12_triesJobs_63 : decode cX12_triesJobs 63 = .ok (.aload_n 0, 1) := by decide +kernel
theorem dX12_triesJobs_64 : decode cX12_triesJobs 64 = .ok (.invokevirtual 382, 3) := by decide +kernel
theorem dX12_triesJobs_67 : decode cX12_triesJobs 67 = .ok (.if_icmp .ge 36, 3) := by decide +kernel
theorem dX12_triesJobs_70 : decode cX12_triesJobs 70 = .ok (.iload_n 2, 1) := by decide +kernel
theorem dX12_triesJobs_71 : decode cX12_triesJobs 71 = .ok (.iload_n 3, 1) := by decide +kernel
theorem dX12_triesJobs_72 : decode cX12_triesJobs 72 = .ok (.ishr, 1) := by decide +kernel
theorem dX12_triesJobs_73 : decode cX12_triesJobs 73 = .ok (.iconst 1, 1) := by decide +kernel
theorem dX12_triesJobs_74 : decode cX12_triesJobs 74 = .ok (.iand, 1) := by decide +kernel
theorem dX12_triesJobs_75 : decode cX12_triesJobs 75 = .ok (.ifCond .ne 22, 3) := by decide +kernel
theorem dX12_triesJobs_78 : decode cX12_triesJobs 78 = .ok (.aload_n 0, 1) := by decide +kernel
theorem dX12_triesJobs_79 : decode cX12_triesJobs 79 = .ok (.getfield 105, 3) := by decide +kernel
theorem dX12_triesJobs_82 : decode cX12_triesJobs 82 = .ok (.iload_n 1, 1) := by decide +kernel
theorem dX12_triesJobs_83 : decode cX12_triesJobs 83 = .ok (.iload_n 3, 1) := by decide +kernel
theorem dX12_triesJobs_84 : decode cX12_triesJobs 84 = .ok (.iastore, 1) := by decide +kernel
theorem dX12_triesJobs_85 : decode cX12_triesJobs 85 = .ok (.aload_n 0, 1) := by decide +kernel
theorem dX12_triesJobs_86 : decode cX12_triesJobs 86 = .ok (.iload_n 1, 1) := by decide +kernel
theorem dX12_triesJobs_87 : decode cX12_triesJobs 87 = .ok (.iconst 1, 1) := by decide +kernel
theorem dX12_triesJobs_88 : decode cX12_triesJobs 88 = .ok (.iadd, 1) := by decide +kernel
theorem dX12_triesJobs_89 : decode cX12_triesJobs 89 = .ok (.iload_n 2, 1) := by decide +kernel
theorem dX12_triesJobs_90 : decode cX12_triesJobs 90 = .ok (.iconst 1, 1) := by decide +kernel
theorem dX12_triesJobs_91 : decode cX12_triesJobs 91 = .ok (.iload_n 3, 1) := by decide +kernel
theorem dX12_triesJobs_92 : decode cX12_triesJobs 92 = .ok (.ishl, 1) := by decide +kernel
theorem dX12_triesJobs_93 : decode cX12_triesJobs 93 = .ok (.ior, 1) := by decide +kernel
theorem dX12_triesJobs_94 : decode cX12_triesJobs 94 = .ok (.invokevirtual 398, 3) := by decide +kernel
theorem dX12_triesJobs_97 : decode cX12_triesJobs 97 = .ok (.iinc 3 1, 3) := by decide +kernel
theorem dX12_triesJobs_100 : decode cX12_triesJobs 100 = .ok (.goto (-38), 3) := by decide +kernel
theorem dX12_triesJobs_103 : decode cX12_triesJobs 103 = .ok (.return_, 1) := by decide +kernel
theorem dX12_porters_0 : decode cX12_porters 0 = .ok (.aload_n 0, 1) := by decide +kernel
theorem dX12_porters_1 : decode cX12_porters 1 = .ok (.iconst 0, 1) := by decide +kernel
theorem dX12_porters_2 : decode cX12_porters 2 = .ok (.putfield 1, 3) := by decide +kernel
theorem dX12_porters_5 : decode cX12_porters 5 = .ok (.aload_n 0, 1) := by decide +kernel
theorem dX12_porters_6 : decode cX12_porters 6 = .ok (.invokevirtual 382, 3) := by decide +kernel
theorem dX12_porters_9 : decode cX12_porters 9 = .ok (.ifCond .eq 17, 3) := by decide +kernel
theorem dX12_porters_12 : decode cX12_porters 12 = .ok (.iload_n 1, 1) := by decide +kernel
theorem dX12_porters_13 : decode cX12_porters 13 = .ok (.iconst 0, 1) := by decide +kernel
theorem dX12_porters_14 : decode cX12_porters 14 = .ok (.iconst 2, 1) := by decide +kernel
theorem dX12_porters_15 : decode cX12_porters 15 = .ok (.aload_n 0, 1) := by decide +kernel
theorem dX12_porters_16 : decode cX12_porters 16 = .ok (.invokevirtual 382, 3) := by decide +kernel
theorem dX12_porters_19 : decode cX12_porters 19 = .ok (.iadd, 1) := by decide +kernel
theorem dX12_porters_20 : decode cX12_porters 20 = .ok (.invokestatic 304, 3) := by decide +kernel
theorem dX12_porters_23 : decode cX12_porters 23 = .ok (.ifCond .ne 5, 3) := by decide +kernel
theorem dX12_porters_26 : decode cX12_porters 26 = .ok (.iconst (-1), 1) := by decide +kernel
theorem dX12_porters_27 : decode cX12_porters 27 = .ok (.ireturn, 1) := by decide +kernel
theorem dX12_porters_28 : decode cX12_porters 28 = .ok (.aload_n 0, 1) := by decide +kernel
theorem dX12_porters_29 : decode cX12_porters 29 = .ok (.ldc_w 346, 3) := by decide +kernel
theorem dX12_porters_32 : decode cX12_porters 32 = .ok (.putfield 395, 3) := by decide +kernel
theorem dX12_porters_35 : decode cX12_porters 35 = .ok (.aload_n 0, 1) := by decide +kernel
theorem dX12_porters_36 : decode cX12_porters 36 = .ok (.iconst 0, 1) := by decide +kernel
theorem dX12_porters_37 : decode cX12_porters 37 = .ok (.iconst 0, 1) := by decide +kernel
theorem dX12_porters_38 : decode cX12_porters 38 = .ok (.invokevirtual 398, 3) := by decide +kernel
theorem dX12_porters_41 : decode cX12_porters 41 = .ok (.aload_n 0, 1) := by decide +kernel
theorem dX12_porters_42 : decode cX12_porters 42 = .ok (.aload_n 0, 1) := by decide +kernel
theorem dX12_porters_43 : decode cX12_porters 43 = .ok (.getfield 108, 3) := by decide +kernel
theorem dX12_porters_46 : decode cX12_porters 46 = .ok (.invokevirtual 391, 3) := by decide +kernel
theorem dX12_porters_49 : decode cX12_porters 49 = .ok (.pop, 1) := by decide +kernel
theorem dX12_porters_50 : decode cX12_porters 50 = .ok (.iload_n 1, 1) := by decide +kernel
theorem dX12_porters_51 : decode cX12_porters 51 = .ok (.ifCond .eq 8, 3) := by decide +kernel
theorem dX12_porters_54 : decode cX12_porters 54 = .ok (.iload_n 1, 1) := by decide +kernel
theorem dX12_porters_55 : decode cX12_porters 55 = .ok (.iconst 1, 1) := by decide +kernel
theorem dX12_porters_56 : decode cX12_porters 56 = .ok (.if_icmp .ne 19, 3) := by decide +kernel
theorem dX12_porters_59 : decode cX12_porters 59 = .ok (.iload_n 1, 1) := by decide +kernel
theorem dX12_porters_60 : decode cX12_porters 60 = .ok (.ifCond .ne 10, 3) := by decide +kernel
theorem dX12_porters_63 : decode cX12_porters 63 = .ok (.aload_n 0, 1) := by decide +kernel
theorem dX12_porters_64 : decode cX12_porters 64 = .ok (.getfield 395, 3) := by decide +kernel
theorem dX12_porters_67 : decode cX12_porters 67 = .ok (.goto 7, 3) := by decide +kernel
theorem dX12_porters_70 : decode cX12_porters 70 = .ok (.aload_n 0, 1) := by decide +kernel
theorem dX12_porters_71 : decode cX12_porters 71 = .ok (.getfield 385, 3) := by decide +kernel
theorem dX12_porters_74 : decode cX12_porters 74 = .ok (.ireturn, 1) := by decide +kernel
theorem dX12_porters_75 : decode cX12_porters 75 = .ok (.iload_n 1, 1) := by decide +kernel
theorem dX12_porters_76 : decode cX12_porters 76 = .ok (.iconst 2, 1) := by decide +kernel
theorem dX12_porters_77 : decode cX12_porters 77 = .ok (.if_icmp .ne 10, 3) := by decide +kernel
theorem dX12_porters_80 : decode cX12_porters 80 = .ok (.aload_n 0, 1) := by decide +kernel
theorem dX12_porters_81 : decode cX12_porters 81 = .ok (.invokevirtual 401, 3) := by decide +kernel
theorem dX12_porters_84 : decode cX12_porters 84 = .ok (.goto 11, 3) := by decide +kernel
theorem dX12_porters_87 : decode cX12_porters 87 = .ok (.aload_n 0, 1) := by decide +kernel
theorem dX12_porters_88 : decode cX12_porters 88 = .ok (.getfield 108, 3) := by decide +kernel
theorem dX12_porters_91 : decode cX12_porters 91 = .ok (.iload_n 1, 1) := by decide +kernel
theorem dX12_porters_92 : decode cX12_porters 92 = .ok (.iconst 3, 1) := by decide +kernel
theorem dX12_porters_93 : decode cX12_porters 93 = .ok (.isub, 1) := by decide +kernel
theorem dX12_porters_94 : decode cX12_porters 94 = .ok (.iaload, 1) := by decide +kernel
theorem dX12_porters_95 : decode cX12_porters 95 = .ok (.ireturn, 1) := by decide +kernel
theorem dX12_mostAtOnce_0 : decode cX12_mostAtOnce 0 = .ok (.iconst 0, 1) := by decide +kernel
theorem dX12_mostAtOnce_1 : decode cX12_mostAtOnce 1 = .ok (.istore_n 1, 1) := by decide +kernel
theorem dX12_mostAtOnce_2 : decode cX12_mostAtOnce 2 = .ok (.iconst 0, 1) := by decide +kernel
theorem dX12_mostAtOnce_3 : decode cX12_mostAtOnce 3 = .ok (.istore_n 2, 1) := by decide +kernel
theorem dX12_mostAtOnce_4 : decode cX12_mostAtOnce 4 = .ok (.iload_n 2, 1) := by decide +kernel
theorem dX12_mostAtOnce_5 : decode cX12_mostAtOnce 5 = .ok (.aload_n 0, 1) := by decide +kernel
theorem dX12_mostAtOnce_6 : decode cX12_mostAtOnce 6 = .ok (.invokevirtual 382, 3) := by decide +kernel
theorem dX12_mostAtOnce_9 : decode cX12_mostAtOnce 9 = .ok (.if_icmp .ge 80, 3) := by decide +kernel
theorem dX12_mostAtOnce_12 : decode cX12_mostAtOnce 12 = .ok (.iconst 0, 1) := by decide +kernel
theorem dX12_mostAtOnce_13 : decode cX12_mostAtOnce 13 = .ok (.istore_n 3, 1) := by decide +kernel
theorem dX12_mostAtOnce_14 : decode cX12_mostAtOnce 14 = .ok (.iconst 0, 1) := by decide +kernel
theorem dX12_mostAtOnce_15 : decode cX12_mostAtOnce 15 = .ok (.istore 4, 2) := by decide +kernel
theorem dX12_mostAtOnce_17 : decode cX12_mostAtOnce 17 = .ok (.iload 4, 2) := by decide +kernel
theorem dX12_mostAtOnce_19 : decode cX12_mostAtOnce 19 = .ok (.aload_n 0, 1) := by decide +kernel
theorem dX12_mostAtOnce_20 : decode cX12_mostAtOnce 20 = .ok (.invokevirtual 382, 3) := by decide +kernel
theorem dX12_mostAtOnce_23 : decode cX12_mostAtOnce 23 = .ok (.if_icmp .ge 49, 3) := by decide +kernel
theorem dX12_mostAtOnce_26 : decode cX12_mostAtOnce 26 = .ok (.iload_n 3, 1) := by decide +kernel
theorem dX12_mostAtOnce_27 : decode cX12_mostAtOnce 27 = .ok (.aload_n 0, 1) := by decide +kernel
theorem dX12_mostAtOnce_28 : decode cX12_mostAtOnce 28 = .ok (.getfield 111, 3) := by decide +kernel
theorem dX12_mostAtOnce_31 : decode cX12_mostAtOnce 31 = .ok (.iload 4, 2) := by decide +kernel
theorem dX12_mostAtOnce_33 : decode cX12_mostAtOnce 33 = .ok (.iaload, 1) := by decide +kernel
theorem dX12_mostAtOnce_34 : decode cX12_mostAtOnce 34 = .ok (.aload_n 0, 1) := by decide +kernel
theorem dX12_mostAtOnce_35 : decode cX12_mostAtOnce 35 = .ok (.getfield 111, 3) := by decide +kernel
theorem dX12_mostAtOnce_38 : decode cX12_mostAtOnce 38 = .ok (.iload_n 2, 1) := by decide +kernel
theorem dX12_mostAtOnce_39 : decode cX12_mostAtOnce 39 = .ok (.iaload, 1) := by decide +kernel
theorem dX12_mostAtOnce_40 : decode cX12_mostAtOnce 40 = .ok (.if_icmp .gt 23, 3) := by decide +kernel
theorem dX12_mostAtOnce_43 : decode cX12_mostAtOnce 43 = .ok (.aload_n 0, 1) := by decide +kernel
theorem dX12_mostAtOnce_44 : decode cX12_mostAtOnce 44 = .ok (.getfield 111, 3) := by decide +kernel
theorem dX12_mostAtOnce_47 : decode cX12_mostAtOnce 47 = .ok (.iload_n 2, 1) := by decide +kernel
theorem dX12_mostAtOnce_48 : decode cX12_mostAtOnce 48 = .ok (.iaload, 1) := by decide +kernel
theorem dX12_mostAtOnce_49 : decode cX12_mostAtOnce 49 = .ok (.aload_n 0, 1) := by decide +kernel
theorem dX12_mostAtOnce_50 : decode cX12_mostAtOnce 50 = .ok (.getfield 114, 3) := by decide +kernel
theorem dX12_mostAtOnce_53 : decode cX12_mostAtOnce 53 = .ok (.iload 4, 2) := by decide +kernel
theorem dX12_mostAtOnce_55 : decode cX12_mostAtOnce 55 = .ok (.iaload, 1) := by decide +kernel
theorem dX12_mostAtOnce_56 : decode cX12_mostAtOnce 56 = .ok (.if_icmp .ge 7, 3) := by decide +kernel
theorem dX12_mostAtOnce_59 : decode cX12_mostAtOnce 59 = .ok (.iconst 1, 1) := by decide +kernel
theorem dX12_mostAtOnce_60 : decode cX12_mostAtOnce 60 = .ok (.goto 4, 3) := by decide +kernel
theorem dX12_mostAtOnce_63 : decode cX12_mostAtOnce 63 = .ok (.iconst 0, 1) := by decide +kernel
theorem dX12_mostAtOnce_64 : decode cX12_mostAtOnce 64 = .ok (.iadd, 1) := by decide +kernel
theorem dX12_mostAtOnce_65 : decode cX12_mostAtOnce 65 = .ok (.istore_n 3, 1) := by decide +kernel
theorem dX12_mostAtOnce_66 : decode cX12_mostAtOnce 66 = .ok (.iinc 4 1, 3) := by decide +kernel
theorem dX12_mostAtOnce_69 : decode cX12_mostAtOnce 69 = .ok (.goto (-52), 3) := by decide +kernel
theorem dX12_mostAtOnce_72 : decode cX12_mostAtOnce 72 = .ok (.iload_n 3, 1) := by decide +kernel
theorem dX12_mostAtOnce_73 : decode cX12_mostAtOnce 73 = .ok (.iload_n 1, 1) := by decide +kernel
theorem dX12_mostAtOnce_74 : decode cX12_mostAtOnce 74 = .ok (.if_icmp .le 7, 3) := by decide +kernel
theorem dX12_mostAtOnce_77 : decode cX12_mostAtOnce 77 = .ok (.iload_n 3, 1) := by decide +kernel
theorem dX12_mostAtOnce_78 : decode cX12_mostAtOnce 78 = .ok (.goto 4, 3) := by decide +kernel
theorem dX12_mostAtOnce_81 : decode cX12_mostAtOnce 81 = .ok (.iload_n 1, 1) := by decide +kernel
theorem dX12_mostAtOnce_82 : decode cX12_mostAtOnce 82 = .ok (.istore_n 1, 1) := by decide +kernel
theorem dX12_mostAtOnce_83 : decode cX12_mostAtOnce 83 = .ok (.iinc 2 1, 3) := by decide +kernel
theorem dX12_mostAtOnce_86 : decode cX12_mostAtOnce 86 = .ok (.goto (-82), 3) := by decide +kernel
theorem dX12_mostAtOnce_89 : decode cX12_mostAtOnce 89 = .ok (.iload_n 1, 1) := by decide +kernel
theorem dX12_mostAtOnce_90 : decode cX12_mostAtOnce 90 = .ok (.ireturn, 1) := by decide +kernel
theorem dX12_told_0 : decode cX12_told 0 = .ok (.aload_n 0, 1) := by decide +kernel
theorem dX12_told_1 : decode cX12_told 1 = .ok (.iconst 0, 1) := by decide +kernel
theorem dX12_told_2 : decode cX12_told 2 = .ok (.putfield 1, 3) := by decide +kernel
theorem dX12_told_5 : decode cX12_told 5 = .ok (.iconst 0, 1) := by decide +kernel
theorem dX12_told_6 : decode cX12_told 6 = .ok (.istore_n 1, 1) := by decide +kernel
theorem dX12_told_7 : decode cX12_told 7 = .ok (.iload_n 1, 1) := by decide +kernel
theorem dX12_told_8 : decode cX12_told 8 = .ok (.aload_n 0, 1) := by decide +kernel
theorem dX12_told_9 : decode cX12_told 9 = .ok (.invokevirtual 382, 3) := by decide +kernel
theorem dX12_told_12 : decode cX12_told 12 = .ok (.if_icmp .ge 16, 3) := by decide +kernel
theorem dX12_told_15 : decode cX12_told 15 = .ok (.aload_n 0, 1) := by decide +kernel
theorem dX12_told_16 : decode cX12_told 16 = .ok (.getfield 105, 3) := by decide +kernel
theorem dX12_told_19 : decode cX12_told 19 = .ok (.iload_n 1, 1) := by decide +kernel
theorem dX12_told_20 : decode cX12_told 20 = .ok (.iload_n 1, 1) := by decide +kernel
theorem dX12_told_21 : decode cX12_told 21 = .ok (.iastore, 1) := by decide +kernel
theorem dX12_told_22 : decode cX12_told 22 = .ok (.iinc 1 1, 3) := by decide +kernel
theorem dX12_told_25 : decode cX12_told 25 = .ok (.goto (-18), 3) := by decide +kernel
theorem dX12_told_28 : decode cX12_told 28 = .ok (.aload_n 0, 1) := by decide +kernel
theorem dX12_told_29 : decode cX12_told 29 = .ok (.invokevirtual 382, 3) := by decide +kernel
theorem dX12_told_32 : decode cX12_told 32 = .ok (.ifCond .ne 7, 3) := by decide +kernel
theorem dX12_told_35 : decode cX12_told 35 = .ok (.iconst (-1), 1) := by decide +kernel
theorem dX12_told_36 : decode cX12_told 36 = .ok (.goto 11, 3) := by decide +kernel
theorem dX12_told_39 : decode cX12_told 39 = .ok (.aload_n 0, 1) := by decide +kernel
theorem dX12_told_40 : decode cX12_told 40 = .ok (.aload_n 0, 1) := by decide +kernel
theorem dX12_told_41 : decode cX12_told 41 = .ok (.getfield 105, 3) := by decide +kernel
theorem dX12_told_44 : decode cX12_told 44 = .ok (.invokevirtual 391, 3) := by decide +kernel
theorem dX12_told_47 : decode cX12_told 47 = .ok (.ireturn, 1) := by decide +kernel
theorem dX12_clear_0 : decode cX12_clear 0 = .ok (.aload_n 0, 1) := by decide +kernel
theorem dX12_clear_1 : decode cX12_clear 1 = .ok (.iconst 0, 1) := by decide +kernel
theorem dX12_clear_2 : decode cX12_clear 2 = .ok (.putfield 1, 3) := by decide +kernel
theorem dX12_clear_5 : decode cX12_clear 5 = .ok (.aload_n 0, 1) := by decide +kernel
theorem dX12_clear_6 : decode cX12_clear 6 = .ok (.getfield 83, 3) := by decide +kernel
theorem dX12_clear_9 : decode cX12_clear 9 = .ok (.sipush 402, 3) := by decide +kernel
theorem dX12_clear_12 : decode cX12_clear 12 = .ok (.iconst 0, 1) := by decide +kernel
theorem dX12_clear_13 : decode cX12_clear 13 = .ok (.iastore, 1) := by decide +kernel
theorem dX12_clear_14 : decode cX12_clear 14 = .ok (.aload_n 0, 1) := by decide +kernel
theorem dX12_clear_15 : decode cX12_clear 15 = .ok (.getfield 83, 3) := by decide +kernel
theorem dX12_clear_18 : decode cX12_clear 18 = .ok (.sipush 473, 3) := by decide +kernel
theorem dX12_clear_21 : decode cX12_clear 21 = .ok (.iconst 0, 1) := by decide +kernel
theorem dX12_clear_22 : decode cX12_clear 22 = .ok (.iastore, 1) := by decide +kernel
theorem dX12_clear_23 : decode cX12_clear 23 = .ok (.iconst 1, 1) := by decide +kernel
theorem dX12_clear_24 : decode cX12_clear 24 = .ok (.ireturn, 1) := by decide +kernel
theorem dX12_booked_0 : decode cX12_booked 0 = .ok (.aload_n 0, 1) := by decide +kernel
theorem dX12_booked_1 : decode cX12_booked 1 = .ok (.getfield 83, 3) := by decide +kernel
theorem dX12_booked_4 : decode cX12_booked 4 = .ok (.sipush 495, 3) := by decide +kernel
theorem dX12_booked_7 : decode cX12_booked 7 = .ok (.iaload, 1) := by decide +kernel
theorem dX12_booked_8 : decode cX12_booked 8 = .ok (.ireturn, 1) := by decide +kernel
theorem dX12_isBooked_0 : decode cX12_isBooked 0 = .ok (.iconst 0, 1) := by decide +kernel
theorem dX12_isBooked_1 : decode cX12_isBooked 1 = .ok (.istore_n 2, 1) := by decide +kernel
theorem dX12_isBooked_2 : decode cX12_isBooked 2 = .ok (.iconst 0, 1) := by decide +kernel
theorem dX12_isBooked_3 : decode cX12_isBooked 3 = .ok (.istore_n 3, 1) := by decide +kernel
theorem dX12_isBooked_4 : decode cX12_isBooked 4 = .ok (.iload_n 3, 1) := by decide +kernel
theorem dX12_isBooked_5 : decode cX12_isBooked 5 = .ok (.aload_n 0, 1) := by decide +kernel
theorem dX12_isBooked_6 : decode cX12_isBooked 6 = .ok (.invokevirtual 331, 3) := by decide +kernel
theorem dX12_isBooked_9 : decode cX12_isBooked 9 = .ok (.if_icmp .ge 33, 3) := by decide +kernel
theorem dX12_isBooked_12 : decode cX12_isBooked 12 = .ok (.iload_n 2, 1) := by decide +kernel
theorem dX12_isBooked_13 : decode cX12_isBooked 13 = .ok (.ifCond .ne 17, 3) := by decide +kernel
theorem dX12_isBooked_16 : decode cX12_isBooked 16 = .ok (.aload_n 0, 1) := by decide +kernel
theorem dX12_isBooked_17 : decode cX12_isBooked 17 = .ok (.getfield 83, 3) := by decide +kernel
theorem dX12_isBooked_20 : decode cX12_isBooked 20 = .ok (.sipush 496, 3) := by decide +kernel
theorem dX12_isBooked_23 : decode cX12_isBooked 23 = .ok (.iload_n 3, 1) := by decide +kernel
theorem dX12_isBooked_24 : decode cX12_isBooked 24 = .ok (.iadd, 1) := by decide +kernel
theorem dX12_isBooked_25 : decode cX12_isBooked 25 = .ok (.iaload, 1) := by decide +kernel
theorem dX12_isBooked_26 : decode cX12_isBooked 26 = .ok (.iload_n 1, 1) := by decide +kernel
theorem dX12_isBooked_27 : decode cX12_isBooked 27 = .ok (.if_icmp .ne 7, 3) := by decide +kernel
theorem dX12_isBooked_30 : decode cX12_isBooked 30 = .ok (.iconst 1, 1) := by decide +kernel
theorem dX12_isBooked_31 : decode cX12_isBooked 31 = .ok (.goto 4, 3) := by decide +kernel
theorem dX12_isBooked_34 : decode cX12_isBooked 34 = .ok (.iconst 0, 1) := by decide +kernel
theorem dX12_isBooked_35 : decode cX12_isBooked 35 = .ok (.istore_n 2, 1) := by decide +kernel
theorem dX12_isBooked_36 : decode cX12_isBooked 36 = .ok (.iinc 3 1, 3) := by decide +kernel
theorem dX12_isBooked_39 : decode cX12_isBooked 39 = .ok (.goto (-35), 3) := by decide +kernel
theorem dX12_isBooked_42 : decode cX12_isBooked 42 = .ok (.iload_n 2, 1) := by decide +kernel
theorem dX12_isBooked_43 : decode cX12_isBooked 43 = .ok (.ireturn, 1) := by decide +kernel
theorem dX12_book_0 : decode cX12_book 0 = .ok (.aload_n 0, 1) := by decide +kernel
theorem dX12_book_1 : decode cX12_book 1 = .ok (.iconst 0, 1) := by decide +kernel
theorem dX12_book_2 : decode cX12_book 2 = .ok (.putfield 1, 3) := by decide +kernel
theorem dX12_book_5 : decode cX12_book 5 = .ok (.iload_n 1, 1) := by decide +kernel
theorem dX12_book_6 : decode cX12_book 6 = .ok (.ifCond .ge 14, 3) := by decide +kernel
theorem dX12_book_9 : decode cX12_book 9 = .ok (.aload_n 0, 1) := by decide +kernel
theorem dX12_book_10 : decode cX12_book 10 = .ok (.getfield 83, 3) := by decide +kernel
theorem dX12_book_13 : decode cX12_book 13 = .ok (.sipush 495, 3) := by decide +kernel
theorem dX12_book_16 : decode cX12_book 16 = .ok (.iconst 0, 1) := by decide +kernel
theorem dX12_book_17 : decode cX12_book 17 = .ok (.iastore, 1) := by decide +kernel
theorem dX12_book_18 : decode cX12_book 18 = .ok (.iconst 0, 1) := by decide +kernel
theorem dX12_book_19 : decode cX12_book 19 = .ok (.ireturn, 1) := by decide +kernel
theorem dX12_book_20 : decode cX12_book 20 = .ok (.aload_n 0, 1) := by decide +kernel
theorem dX12_book_21 : decode cX12_book 21 = .ok (.iload_n 1, 1) := by decide +kernel
theorem dX12_book_22 : decode cX12_book 22 = .ok (.invokevirtual 312, 3) := by decide +kernel
theorem dX12_book_25 : decode cX12_book 25 = .ok (.ifCond .eq 28, 3) := by decide +kernel
theorem dX12_book_28 : decode cX12_book 28 = .ok (.aload_n 0, 1) := by decide +kernel
theorem dX12_book_29 : decode cX12_book 29 = .ok (.iload_n 1, 1) := by decide +kernel
theorem dX12_book_30 : decode cX12_book 30 = .ok (.invokevirtual 315, 3) := by decide +kernel
theorem dX12_book_33 : decode cX12_book 33 = .ok (.ifCond .ge 20, 3) := by decide +kernel
theorem dX12_book_36 : decode cX12_book 36 = .ok (.aload_n 0, 1) := by decide +kernel
theorem dX12_book_37 : decode cX12_book 37 = .ok (.iload_n 1, 1) := by decide +kernel
theorem dX12_book_38 : decode cX12_book 38 = .ok (.invokevirtual 404, 3) := by decide +kernel
theorem dX12_book_41 : decode cX12_book 41 = .ok (.ifCond .ne 12, 3) := by decide +kernel
theorem dX12_book_44 : decode cX12_book 44 = .ok (.aload_n 0, 1) := by decide +kernel
theorem dX12_book_45 : decode cX12_book 45 = .ok (.invokevirtual 331, 3) := by decide +kernel
theorem dX12_book_48 : decode cX12_book 48 = .ok (.bipush 7, 2) := by decide +kernel
theorem dX12_book_50 : decode cX12_book 50 = .ok (.if_icmp .ne 5, 3) := by decide +kernel
theorem dX12_book_53 : decode cX12_book 53 = .ok (.iconst (-1), 1) := by decide +kernel
theorem dX12_book_54 : decode cX12_book 54 = .ok (.ireturn, 1) := by decide +kernel
theorem dX12_book_55 : decode cX12_book 55 = .ok (.aload_n 0, 1) := by decide +kernel
theorem dX12_book_56 : decode cX12_book 56 = .ok (.getfield 83, 3) := by decide +kernel
theorem dX12_book_59 : decode cX12_book 59 = .ok (.sipush 496, 3) := by decide +kernel
theorem dX12_book_62 : decode cX12_book 62 = .ok (.aload_n 0, 1) := by decide +kernel
theorem dX12_book_63 : decode cX12_book 63 = .ok (.invokevirtual 331, 3) := by decide +kernel
theorem dX12_book_66 : decode cX12_book 66 = .ok (.iadd, 1) := by decide +kernel
theorem dX12_book_67 : decode cX12_book 67 = .ok (.iload_n 1, 1) := by decide +kernel
theorem dX12_book_68 : decode cX12_book 68 = .ok (.iastore, 1) := by decide +kernel
theorem dX12_book_69 : decode cX12_book 69 = .ok (.aload_n 0, 1) := by decide +kernel
theorem dX12_book_70 : decode cX12_book 70 = .ok (.getfield 83, 3) := by decide +kernel
theorem dX12_book_73 : decode cX12_book 73 = .ok (.sipush 495, 3) := by decide +kernel
theorem dX12_book_76 : decode cX12_book 76 = .ok (.dup2, 1) := by decide +kernel
theorem dX12_book_77 : decode cX12_book 77 = .ok (.iaload, 1) := by decide +kernel
theorem dX12_book_78 : decode cX12_book 78 = .ok (.iconst 1, 1) := by decide +kernel
theorem dX12_book_79 : decode cX12_book 79 = .ok (.iadd, 1) := by decide +kernel
theorem dX12_book_80 : decode cX12_book 80 = .ok (.iastore, 1) := by decide +kernel
theorem dX12_book_81 : decode cX12_book 81 = .ok (.aload_n 0, 1) := by decide +kernel
theorem dX12_book_82 : decode cX12_book 82 = .ok (.invokevirtual 331, 3) := by decide +kernel
theorem dX12_book_85 : decode cX12_book 85 = .ok (.ireturn, 1) := by decide +kernel
theorem dX12_comesAll_0 : decode cX12_comesAll 0 = .ok (.aload_n 0, 1) := by decide +kernel
theorem dX12_comesAll_1 : decode cX12_comesAll 1 = .ok (.iconst 1, 1) := by decide +kernel
theorem dX12_comesAll_2 : decode cX12_comesAll 2 = .ok (.putfield 123, 3) := by decide +kernel
theorem dX12_comesAll_5 : decode cX12_comesAll 5 = .ok (.aload_n 0, 1) := by decide +kernel
theorem dX12_comesAll_6 : decode cX12_comesAll 6 = .ok (.invokevirtual 300, 3) := by decide +kernel
theorem dX12_comesAll_9 : decode cX12_comesAll 9 = .ok (.aload_n 0, 1) := by decide +kernel
theorem dX12_comesAll_10 : decode cX12_comesAll 10 = .ok (.getfield 89, 3) := by decide +kernel
theorem dX12_comesAll_13 : decode cX12_comesAll 13 = .ok (.aload_n 0, 1) := by decide +kernel
theorem dX12_comesAll_14 : decode cX12_comesAll 14 = .ok (.getfield 407, 3) := by decide +kernel
theorem dX12_comesAll_17 : decode cX12_comesAll 17 = .ok (.iaload, 1) := by decide +kernel
theorem dX12_comesAll_18 : decode cX12_comesAll 18 = .ok (.istore_n 1, 1) := by decide +kernel
theorem dX12_comesAll_19 : decode cX12_comesAll 19 = .ok (.aload_n 0, 1) := by decide +kernel
theorem dX12_comesAll_20 : decode cX12_comesAll 20 = .ok (.getfield 243, 3) := by decide +kernel
theorem dX12_comesAll_23 : decode cX12_comesAll 23 = .ok (.istore_n 2, 1) := by decide +kernel
theorem dX12_comesAll_24 : decode cX12_comesAll 24 = .ok (.iconst 0, 1) := by decide +kernel
theorem dX12_comesAll_25 : decode cX12_comesAll 25 = .ok (.istore_n 3, 1) := by decide +kernel
theorem dX12_comesAll_26 : decode cX12_comesAll 26 = .ok (.iload_n 3, 1) := by decide +kernel
theorem dX12_comesAll_27 : decode cX12_comesAll 27 = .ok (.aload_n 0, 1) := by decide +kernel
theorem dX12_comesAll_28 : decode cX12_comesAll 28 = .ok (.invokevirtual 331, 3) := by decide +kernel
theorem dX12_comesAll_31 : decode cX12_comesAll 31 = .ok (.if_icmp .ge 19, 3) := by decide +kernel
theorem dX12_comesAll_34 : decode cX12_comesAll 34 = .ok (.aload_n 0, 1) := by decide +kernel
theorem dX12_comesAll_35 : decode cX12_comesAll 35 = .ok (.aload_n 0, 1) := by decide +kernel
theorem dX12_comesAll_36 : decode cX12_comesAll 36 = .ok (.getfield 105, 3) := by decide +kernel
theorem dX12_comesAll_39 : decode cX12_comesAll 39 = .ok (.iload_n 3, 1) := by decide +kernel
theorem dX12_comesAll_40 : decode cX12_comesAll 40 = .ok (.iaload, 1) := by decide +kernel
theorem dX12_comesAll_41 : decode cX12_comesAll 41 = .ok (.invokevirtual 290, 3) := by decide +kernel
theorem dX12_comesAll_44 : decode cX12_comesAll 44 = .ok (.iinc 3 1, 3) := by decide +kernel
theorem dX12_comesAll_47 : decode cX12_comesAll 47 = .ok (.goto (-21), 3) := by decide +kernel
theorem dX12_comesAll_50 : decode cX12_comesAll 50 = .ok (.aload_n 0, 1) := by decide +kernel
theorem dX12_comesAll_51 : decode cX12_comesAll 51 = .ok (.aload_n 0, 1) := by decide +kernel
theorem dX12_comesAll_52 : decode cX12_comesAll 52 = .ok (.getfield 89, 3) := by decide +kernel
theorem dX12_comesAll_55 : decode cX12_comesAll 55 = .ok (.aload_n 0, 1) := by decide +kernel
theorem dX12_comesAll_56 : decode cX12_comesAll 56 = .ok (.getfield 407, 3) := by decide +kernel
theorem dX12_comesAll_59 : decode cX12_comesAll 59 = .ok (.iaload, 1) := by decide +kernel
theorem dX12_comesAll_60 : decode cX12_comesAll 60 = .ok (.iload_n 1, 1) := by decide +kernel
theorem dX12_comesAll_61 : decode cX12_comesAll 61 = .ok (.isub, 1) := by decide +kernel
theorem dX12_comesAll_62 : decode cX12_comesAll 62 = .ok (.putfield 410, 3) := by decide +kernel
theorem dX12_comesAll_65 : decode cX12_comesAll 65 = .ok (.aload_n 0, 1) := by decide +kernel
theorem dX12_comesAll_66 : decode cX12_comesAll 66 = .ok (.aload_n 0, 1) := by decide +kernel
theorem dX12_comesAll_67 : decode cX12_comesAll 67 = .ok (.getfield 243, 3) := by decide +kernel
theorem dX12_comesAll_70 : decode cX12_comesAll 70 = .ok (.iload_n 2, 1) := by decide +kernel
theorem dX12_comesAll_71 : decode cX12_comesAll 71 = .ok (.isub, 1) := by decide +kernel
theorem dX12_comesAll_72 : decode cX12_comesAll 72 = .ok (.putfield 413, 3) := by decide +kernel
theorem dX12_comesAll_75 : decode cX12_comesAll 75 = .ok (.aload_n 0, 1) := by decide +kernel
theorem dX12_comesAll_76 : decode cX12_comesAll 76 = .ok (.iconst 1, 1) := by decide +kernel
theorem dX12_comesAll_77 : decode cX12_comesAll 77 = .ok (.putfield 123, 3) := by decide +kernel
theorem dX12_comesAll_80 : decode cX12_comesAll 80 = .ok (.return_, 1) := by decide +kernel
theorem dX12_triesBooked_0 : decode cX12_triesBooked 0 = .ok (.iload_n 1, 1) := by decide +kernel
theorem dX12_triesBooked_1 : decode cX12_triesBooked 1 = .ok (.aload_n 0, 1) := by decide +kernel
theorem dX12_triesBooked_2 : decode cX12_triesBooked 2 = .ok (.invokevirtual 331, 3) := by decide +kernel
theorem dX12_triesBooked_5 : decode cX12_triesBooked 5 = .ok (.if_icmp .ne 103, 3) := by decide +kernel
theorem dX12_triesBooked_8 : decode cX12_triesBooked 8 = .ok (.aload_n 0, 1) := by decide +kernel
theorem dX12_triesBooked_9 : decode cX12_triesBooked 9 = .ok (.invokevirtual 416, 3) := by decide +kernel
theorem dX12_triesBooked_12 : decode cX12_triesBooked 12 = .ok (.aload_n 0, 1) := by decide +kernel
theorem dX12_triesBooked_13 : decode cX12_triesBooked 13 = .ok (.getfield 419, 3) := by decide +kernel
theorem dX12_triesBooked_16 : decode cX12_triesBooked 16 = .ok (.ifCond .lt 36, 3) := by decide +kernel
theorem dX12_triesBooked_19 : decode cX12_triesBooked 19 = .ok (.aload_n 0, 1) := by decide +kernel
theorem dX12_triesBooked_20 : decode cX12_triesBooked 20 = .ok (.getfield 410, 3) := by decide +kernel
theorem dX12_triesBooked_23 : decode cX12_triesBooked 23 = .ok (.aload_n 0, 1) := by decide +kernel
theorem dX12_triesBooked_24 : decode cX12_triesBooked 24 = .ok (.getfield 419, 3) := by decide +kernel
theorem dX12_triesBooked_27 : decode cX12_triesBooked 27 = .ok (.if_icmp .lt 25, 3) := by decide +kernel
theorem dX12_triesBooked_30 : decode cX12_triesBooked 30 = .ok (.aload_n 0, 1) := by decide +kernel
theorem dX12_triesBooked_31 : decode cX12_triesBooked 31 = .ok (.getfield 410, 3) := by decide +kernel
theorem dX12_triesBooked_34 : decode cX12_triesBooked 34 = .ok (.aload_n 0, 1) := by decide +kernel
theorem dX12_triesBooked_35 : decode cX12_triesBooked 35 = .ok (.getfield 419, 3) := by decide +kernel
theorem dX12_triesBooked_38 : decode cX12_triesBooked 38 = .ok (.if_icmp .ne 18, 3) := by decide +kernel
theorem dX12_triesBooked_41 : decode cX12_triesBooked 41 = .ok (.aload_n 0, 1) := by decide +kernel
theorem dX12_triesBooked_42 : decode cX12_triesBooked 42 = .ok (.getfield 413, 3) := by decide +kernel
theorem dX12_triesBooked_45 : decode cX12_triesBooked 45 = .ok (.aload_n 0, 1) := by decide +kernel
theorem dX12_triesBooked_46 : decode cX12_triesBooked 46 = .ok (.getfield 422, 3) := by decide +kernel
theorem dX12_triesBooked_49 : decode cX12_triesBooked 49 = .ok (.if_icmp .ge 7, 3) := by decide +kernel
theorem dX12_triesBooked_52 : decode cX12_triesBooked 52 = .ok (.iconst 1, 1) := by decide +kernel
theorem dX12_triesBooked_53 : decode cX12_triesBooked 53 = .ok (.goto 4, 3) := by decide +kernel
theorem dX12_triesBooked_56 : decode cX12_triesBooked 56 = .ok (.iconst 0, 1) := by decide +kernel
theorem dX12_triesBooked_57 : decode cX12_triesBooked 57 = .ok (.istore_n 3, 1) := by decide +kernel
theorem dX12_triesBooked_58 : decode cX12_triesBooked 58 = .ok (.iload_n 3, 1) := by decide +kernel
theorem dX12_triesBooked_59 : decode cX12_triesBooked 59 = .ok (.ifCond .eq 48, 3) := by decide +kernel
theorem dX12_triesBooked_62 : decode cX12_triesBooked 62 = .ok (.aload_n 0, 1) := by decide +kernel
theorem dX12_triesBooked_63 : decode cX12_triesBooked 63 = .ok (.aload_n 0, 1) := by decide +kernel
theorem dX12_triesBooked_64 : decode cX12_triesBooked 64 = .ok (.getfield 410, 3) := by decide +kernel
theorem dX12_triesBooked_67 : decode cX12_triesBooked 67 = .ok (.putfield 419, 3) := by decide +kernel
theorem dX12_triesBooked_70 : decode cX12_triesBooked 70 = .ok (.aload_n 0, 1) := by decide +kernel
theorem dX12_triesBooked_71 : decode cX12_triesBooked 71 = .ok (.aload_n 0, 1) := by decide +kernel
theorem dX12_triesBooked_72 : decode cX12_triesBooked 72 = .ok (.getfield 413, 3) := by decide +kernel
theorem dX12_triesBooked_75 : decode cX12_triesBooked 75 = .ok (.putfield 422, 3) := by decide +kernel
theorem dX12_triesBooked_78 : decode cX12_triesBooked 78 = .ok (.iconst 0, 1) := by decide +kernel
theorem dX12_triesBooked_79 : decode cX12_triesBooked 79 = .ok (.istore 4, 2) := by decide +kernel
theorem dX12_triesBooked_81 : decode cX12_triesBooked 81 = .ok (.iload 4, 2) := by decide +kernel
theorem dX12_triesBooked_83 : decode cX12_triesBooked 83 = .ok (.iload_n 1, 1) := by decide +kernel
theorem dX12_triesBooked_84 : decode cX12_triesBooked 84 = .ok (.if_icmp .ge 23, 3) := by decide +kernel
theorem dX12_triesBooked_87 : decode cX12_triesBooked 87 = .ok (.aload_n 0, 1) := by decide +kernel
theorem dX12_triesBooked_88 : decode cX12_triesBooked 88 = .ok (.getfield 117, 3) := by decide +kernel
theorem dX12_triesBooked_91 : decode cX12_triesBooked 91 = .ok (.iload 4, 2) := by decide +kernel
theorem dX12_triesBooked_93 : decode cX12_triesBooked 93 = .ok (.aload_n 0, 1) := by decide +kernel
theorem dX12_triesBooked_94 : decode cX12_triesBooked 94 = .ok (.getfield 105, 3) := by decide +kernel
theorem dX12_triesBooked_97 : decode cX12_triesBooked 97 = .ok (.iload 4, 2) := by decide +kernel
theorem dX12_triesBooked_99 : decode cX12_triesBooked 99 = .ok (.iaload, 1) := by decide +kernel
theorem dX12_triesBooked_100 : decode cX12_triesBooked 100 = .ok (.iastore, 1) := by decide +kernel
theorem dX12_triesBooked_101 : decode cX12_triesBooked 101 = .ok (.iinc 4 1, 3) := by decide +kernel
theorem dX12_triesBooked_104 : decode cX12_triesBooked 104 = .ok (.goto (-23), 3) := by decide +kernel
theorem dX12_triesBooked_107 : decode cX12_triesBooked 107 = .ok (.return_, 1) := by decide +kernel
theorem dX12_triesBooked_108 : decode cX12_triesBooked 108 = .ok (.iconst 0, 1) := by decide +kernel
theorem dX12_triesBooked_109 : decode cX12_triesBooked 109 = .ok (.istore_n 3, 1) := by decide +kernel
theorem dX12_triesBooked_110 : decode cX12_triesBooked 110 = .ok (.iload_n 3, 1) := by decide +kernel
theorem dX12_triesBooked_111 : decode cX12_triesBooked 111 = .ok (.aload_n 0, 1) := by decide +kernel
theorem dX12_triesBooked_112 : decode cX12_triesBooked 112 = .ok (.invokevirtual 234, 3) := by decide +kernel
theorem dX12_triesBooked_115 : decode cX12_triesBooked 115 = .ok (.if_icmp .ge 44, 3) := by decide +kernel
theorem dX12_triesBooked_118 : decode cX12_triesBooked 118 = .ok (.aload_n 0, 1) := by decide +kernel
theorem dX12_triesBooked_119 : decode cX12_triesBooked 119 = .ok (.iload_n 3, 1) := by decide +kernel
theorem dX12_triesBooked_120 : decode cX12_triesBooked 120 = .ok (.invokevirtual 404, 3) := by decide +kernel
theorem dX12_triesBooked_123 : decode cX12_triesBooked 123 = .ok (.ifCond .eq 30, 3) := by decide +kernel
theorem dX12_triesBooked_126 : decode cX12_triesBooked 126 = .ok (.iload_n 2, 1) := by decide +kernel
theorem dX12_triesBooked_127 : decode cX12_triesBooked 127 = .ok (.iload_n 3, 1) := by decide +kernel
theorem dX12_triesBooked_128 : decode cX12_triesBooked 128 = .ok (.ishr, 1) := by decide +kernel
theorem dX12_triesBooked_129 : decode cX12_triesBooked 129 = .ok (.iconst 1, 1) := by decide +kernel
theorem dX12_triesBooked_130 : decode cX12_triesBooked 130 = .ok (.iand, 1) := by decide +kernel
theorem dX12_triesBooked_131 : decode cX12_triesBooked 131 = .ok (.ifCond .ne 22, 3) := by decide +kernel
theorem dX12_triesBooked_134 : decode cX12_triesBooked 134 = .ok (.aload_n 0, 1) := by decide +kernel
theorem dX12_triesBooked_135 : decode cX12_triesBooked 135 = .ok (.getfield 105, 3) := by decide +kernel
theorem dX12_triesBooked_138 : decode cX12_triesBooked 138 = .ok (.iload_n 1, 1) := by decide +kernel
theorem dX12_triesBooked_139 : decode cX12_triesBooked 139 = .ok (.iload_n 3, 1) := by decide +kernel
theorem dX12_triesBooked_140 : decode cX12_triesBooked 140 = .ok (.iastore, 1) := by decide +kernel
theorem dX12_triesBooked_141 : decode cX12_triesBooked 141 = .ok (.aload_n 0, 1) := by decide +kernel
theorem dX12_triesBooked_142 : decode cX12_triesBooked 142 = .ok (.iload_n 1, 1) := by decide +kernel
theorem dX12_triesBooked_143 : decode cX12_triesBooked 143 = .ok (.iconst 1, 1) := by decide +kernel
theorem dX12_triesBooked_144 : decode cX12_triesBooked 144 = .ok (.iadd, 1) := by decide +kernel
theorem dX12_triesBooked_145 : decode cX12_triesBooked 145 = .ok (.iload_n 2, 1) := by decide +kernel
theorem dX12_triesBooked_146 : decode cX12_triesBooked 146 = .ok (.iconst 1, 1) := by decide +kernel
theorem dX12_triesBooked_147 : decode cX12_triesBooked 147 = .ok (.iload_n 3, 1) := by decide +kernel
theorem dX12_triesBooked_148 : decode cX12_triesBooked 148 = .ok (.ishl, 1) := by decide +kernel
theorem dX12_triesBooked_149 : decode cX12_triesBooked 149 = .ok (.ior, 1) := by decide +kernel
theorem dX12_triesBooked_150 : decode cX12_triesBooked 150 = .ok (.invokevirtual 425, 3) := by decide +kernel
theorem dX12_triesBooked_153 : decode cX12_triesBooked 153 = .ok (.iinc 3 1, 3) := by decide +kernel
theorem dX12_triesBooked_156 : decode cX12_triesBooked 156 = .ok (.goto (-46), 3) := by decide +kernel
theorem dX12_triesBooked_159 : decode cX12_triesBooked 159 = .ok (.return_, 1) := by decide +kernel
theorem dX12_order_0 : decode cX12_order 0 = .ok (.aload_n 0, 1) := by decide +kernel
theorem dX12_order_1 : decode cX12_order 1 = .ok (.iconst 0, 1) := by decide +kernel
theorem dX12_order_2 : decode cX12_order 2 = .ok (.putfield 1, 3) := by decide +kernel
theorem dX12_order_5 : decode cX12_order 5 = .ok (.aload_n 0, 1) := by decide +kernel
theorem dX12_order_6 : decode cX12_order 6 = .ok (.iload_n 1, 1) := by decide +kernel
theorem dX12_order_7 : decode cX12_order 7 = .ok (.invokevirtual 312, 3) := by decide +kernel
theorem dX12_order_10 : decode cX12_order 10 = .ok (.ifCond .eq 56, 3) := by decide +kernel
theorem dX12_order_13 : decode cX12_order 13 = .ok (.iload_n 2, 1) := by decide +kernel
theorem dX12_order_14 : decode cX12_order 14 = .ok (.iconst 0, 1) := by decide +kernel
theorem dX12_order_15 : decode cX12_order 15 = .ok (.iconst 1, 1) := by decide +kernel
theorem dX12_order_16 : decode cX12_order 16 = .ok (.aload_n 0, 1) := by decide +kernel
theorem dX12_order_17 : decode cX12_order 17 = .ok (.invokevirtual 331, 3) := by decide +kernel
theorem dX12_order_20 : decode cX12_order 20 = .ok (.iadd, 1) := by decide +kernel
theorem dX12_order_21 : decode cX12_order 21 = .ok (.invokestatic 304, 3) := by decide +kernel
theorem dX12_order_24 : decode cX12_order 24 = .ok (.ifCond .eq 42, 3) := by decide +kernel
theorem dX12_order_27 : decode cX12_order 27 = .ok (.aload_n 0, 1) := by decide +kernel
theorem dX12_order_28 : decode cX12_order 28 = .ok (.invokevirtual 331, 3) := by decide +kernel
theorem dX12_order_31 : decode cX12_order 31 = .ok (.ifCond .eq 35, 3) := by decide +kernel
theorem dX12_order_34 : decode cX12_order 34 = .ok (.aload_n 0, 1) := by decide +kernel
theorem dX12_order_35 : decode cX12_order 35 = .ok (.invokevirtual 331, 3) := by decide +kernel
theorem dX12_order_38 : decode cX12_order 38 = .ok (.aload_n 0, 1) := by decide +kernel
theorem dX12_order_39 : decode cX12_order 39 = .ok (.invokevirtual 231, 3) := by decide +kernel
theorem dX12_order_42 : decode cX12_order 42 = .ok (.aload_n 0, 1) := by decide +kernel
theorem dX12_order_43 : decode cX12_order 43 = .ok (.invokevirtual 428, 3) := by decide +kernel
theorem dX12_order_46 : decode cX12_order 46 = .ok (.isub, 1) := by decide +kernel
theorem dX12_order_47 : decode cX12_order 47 = .ok (.if_icmp .gt 19, 3) := by decide +kernel
theorem dX12_order_50 : decode cX12_order 50 = .ok (.aload_n 0, 1) := by decide +kernel
theorem dX12_order_51 : decode cX12_order 51 = .ok (.iload_n 1, 1) := by decide +kernel
theorem dX12_order_52 : decode cX12_order 52 = .ok (.invokevirtual 404, 3) := by decide +kernel
theorem dX12_order_55 : decode cX12_order 55 = .ok (.ifCond .ne 13, 3) := by decide +kernel
theorem dX12_order_58 : decode cX12_order 58 = .ok (.aload_n 0, 1) := by decide +kernel
theorem dX12_order_59 : decode cX12_order 59 = .ok (.iload_n 1, 1) := by decide +kernel
theorem dX12_order_60 : decode cX12_order 60 = .ok (.invokevirtual 315, 3) := by decide +kernel
theorem dX12_order_63 : decode cX12_order 63 = .ok (.ifCond .ge 5, 3) := by decide +kernel
theorem dX12_order_66 : decode cX12_order 66 = .ok (.iconst (-1), 1) := by decide +kernel
theorem dX12_order_67 : decode cX12_order 67 = .ok (.ireturn, 1) := by decide +kernel
theorem dX12_order_68 : decode cX12_order 68 = .ok (.aload_n 0, 1) := by decide +kernel
theorem dX12_order_69 : decode cX12_order 69 = .ok (.iload_n 1, 1) := by decide +kernel
theorem dX12_order_70 : decode cX12_order 70 = .ok (.putfield 407, 3) := by decide +kernel
theorem dX12_order_73 : decode cX12_order 73 = .ok (.aload_n 0, 1) := by decide +kernel
theorem dX12_order_74 : decode cX12_order 74 = .ok (.iconst (-1), 1) := by decide +kernel
theorem dX12_order_75 : decode cX12_order 75 = .ok (.putfield 419, 3) := by decide +kernel
theorem dX12_order_78 : decode cX12_order 78 = .ok (.aload_n 0, 1) := by decide +kernel
theorem dX12_order_79 : decode cX12_order 79 = .ok (.iconst 0, 1) := by decide +kernel
theorem dX12_order_80 : decode cX12_order 80 = .ok (.iconst 0, 1) := by decide +kernel
theorem dX12_order_81 : decode cX12_order 81 = .ok (.invokevirtual 425, 3) := by decide +kernel
theorem dX12_order_84 : decode cX12_order 84 = .ok (.iload_n 2, 1) := by decide +kernel
theorem dX12_order_85 : decode cX12_order 85 = .ok (.ifCond .ne 10, 3) := by decide +kernel
theorem dX12_order_88 : decode cX12_order 88 = .ok (.aload_n 0, 1) := by decide +kernel
theorem dX12_order_89 : decode cX12_order 89 = .ok (.getfield 419, 3) := by decide +kernel
theorem dX12_order_92 : decode cX12_order 92 = .ok (.goto 23, 3) := by decide +kernel
theorem dX12_order_95 : decode cX12_order 95 = .ok (.iload_n 2, 1) := by decide +kernel
theorem dX12_order_96 : decode cX12_order 96 = .ok (.iconst 1, 1) := by decide +kernel
theorem dX12_order_97 : decode cX12_order 97 = .ok (.if_icmp .ne 10, 3) := by decide +kernel
theorem dX12_order_100 : decode cX12_order 100 = .ok (.aload_n 0, 1) := by decide +kernel
theorem dX12_order_101 : decode cX12_order 101 = .ok (.getfield 422, 3) := by decide +kernel
theorem dX12_order_104 : decode cX12_order 104 = .ok (.goto 11, 3) := by decide +kernel
theorem dX12_order_107 : decode cX12_order 107 = .ok (.aload_n 0, 1) := by decide +kernel
theorem dX12_order_108 : decode cX12_order 108 = .ok (.getfield 117, 3) := by decide +kernel
theorem dX12_order_111 : decode cX12_order 111 = .ok (.iload_n 2, 1) := by decide +kernel
theorem dX12_order_112 : decode cX12_order 112 = .ok (.iconst 2, 1) := by decide +kernel
theorem dX12_order_113 : decode cX12_order 113 = .ok (.isub, 1) := by decide +kernel
theorem dX12_order_114 : decode cX12_order 114 = .ok (.iaload, 1) := by decide +kernel
theorem dX12_order_115 : decode cX12_order 115 = .ok (.ireturn, 1) := by decide +kernel
theorem dX12_findTried_0 : decode cX12_findTried 0 = .ok (.aload_n 0, 1) := by decide +kernel
theorem dX12_findTried_1 : decode cX12_findTried 1 = .ok (.iconst 1, 1) := by decide +kernel
theorem dX12_findTried_2 : decode cX12_findTried 2 = .ok (.iload_n 1, 1) := by decide +kernel
theorem dX12_findTried_3 : decode cX12_findTried 3 = .ok (.invokevirtual 296, 3) := by decide +kernel
theorem dX12_findTried_6 : decode cX12_findTried 6 = .ok (.aload_n 0, 1) := by decide +kernel
theorem dX12_findTried_7 : decode cX12_findTried 7 = .ok (.iconst 1, 1) := by decide +kernel
theorem dX12_findTried_8 : decode cX12_findTried 8 = .ok (.putfield 123, 3) := by decide +kernel
theorem dX12_findTried_11 : decode cX12_findTried 11 = .ok (.aload_n 0, 1) := by decide +kernel
theorem dX12_findTried_12 : decode cX12_findTried 12 = .ok (.aload_n 0, 1) := by decide +kernel
theorem dX12_findTried_13 : decode cX12_findTried 13 = .ok (.getfield 240, 3) := by decide +kernel
theorem dX12_findTried_16 : decode cX12_findTried 16 = .ok (.putfield 431, 3) := by decide +kernel
theorem dX12_findTried_19 : decode cX12_findTried 19 = .ok (.aload_n 0, 1) := by decide +kernel
theorem dX12_findTried_20 : decode cX12_findTried 20 = .ok (.aload_n 0, 1) := by decide +kernel
theorem dX12_findTried_21 : decode cX12_findTried 21 = .ok (.getfield 243, 3) := by decide +kernel
theorem dX12_findTried_24 : decode cX12_findTried 24 = .ok (.putfield 434, 3) := by decide +kernel
theorem dX12_findTried_27 : decode cX12_findTried 27 = .ok (.ldc_w 346, 3) := by decide +kernel
theorem dX12_findTried_30 : decode cX12_findTried 30 = .ok (.istore_n 2, 1) := by decide +kernel
theorem dX12_findTried_31 : decode cX12_findTried 31 = .ok (.iconst 0, 1) := by decide +kernel
theorem dX12_findTried_32 : decode cX12_findTried 32 = .ok (.istore_n 3, 1) := by decide +kernel
theorem dX12_findTried_33 : decode cX12_findTried 33 = .ok (.iconst 0, 1) := by decide +kernel
theorem dX12_findTried_34 : decode cX12_findTried 34 = .ok (.istore 4, 2) := by decide +kernel
theorem dX12_findTried_36 : decode cX12_findTried 36 = .ok (.iload 4, 2) := by decide +kernel
theorem dX12_findTried_38 : decode cX12_findTried 38 = .ok (.aload_n 0, 1) := by decide +kernel
theorem dX12_findTried_39 : decode cX12_findTried 39 = .ok (.invokevirtual 234, 3) := by decide +kernel
theorem dX12_findTried_42 : decode cX12_findTried 42 = .ok (.if_icmp .ge 75, 3) := by decide +kernel
theorem dX12_findTried_45 : decode cX12_findTried 45 = .ok (.aload_n 0, 1) := by decide +kernel
theorem dX12_findTried_46 : decode cX12_findTried 46 = .ok (.getfield 95, 3) := by decide +kernel
theorem dX12_findTried_49 : decode cX12_findTried 49 = .ok (.iload 4, 2) := by decide +kernel
theorem dX12_findTried_51 : decode cX12_findTried 51 = .ok (.baload, 1) := by decide +kernel
theorem dX12_findTried_52 : decode cX12_findTried 52 = .ok (.ifCond .eq 24, 3) := by decide +kernel
theorem dX12_findTried_55 : decode cX12_findTried 55 = .ok (.aload_n 0, 1) := by decide +kernel
theorem dX12_findTried_56 : decode cX12_findTried 56 = .ok (.getfield 89, 3) := by decide +kernel
theorem dX12_findTried_59 : decode cX12_findTried 59 = .ok (.iload 4, 2) := by decide +kernel
theorem dX12_findTried_61 : decode cX12_findTried 61 = .ok (.iaload, 1) := by decide +kernel
theorem dX12_findTried_62 : decode cX12_findTried 62 = .ok (.iload_n 2, 1) := by decide +kernel
theorem dX12_findTried_63 : decode cX12_findTried 63 = .ok (.if_icmp .ge 13, 3) := by decide +kernel
theorem dX12_findTried_66 : decode cX12_findTried 66 = .ok (.aload_n 0, 1) := by decide +kernel
theorem dX12_findTried_67 : decode cX12_findTried 67 = .ok (.getfield 89, 3) := by decide +kernel
theorem dX12_findTried_70 : decode cX12_findTried 70 = .ok (.iload 4, 2) := by decide +kernel
theorem dX12_findTried_72 : decode cX12_findTried 72 = .ok (.iaload, 1) := by decide +kernel
theorem dX12_findTried_73 : decode cX12_findTried 73 = .ok (.goto 4, 3) := by decide +kernel
theorem dX12_findTried_76 : decode cX12_findTried 76 = .ok (.iload_n 2, 1) := by decide +kernel
theorem dX12_findTried_77 : decode cX12_findTried 77 = .ok (.istore_n 2, 1) := by decide +kernel
theorem dX12_findTried_78 : decode cX12_findTried 78 = .ok (.aload_n 0, 1) := by decide +kernel
theorem dX12_findTried_79 : decode cX12_findTried 79 = .ok (.getfield 95, 3) := by decide +kernel
theorem dX12_findTried_82 : decode cX12_findTried 82 = .ok (.iload 4, 2) := by decide +kernel
theorem dX12_findTried_84 : decode cX12_findTried 84 = .ok (.baload, 1) := by decide +kernel
theorem dX12_findTried_85 : decode cX12_findTried 85 = .ok (.ifCond .eq 24, 3) := by decide +kernel
theorem dX12_findTried_88 : decode cX12_findTried 88 = .ok (.aload_n 0, 1) := by decide +kernel
theorem dX12_findTried_89 : decode cX12_findTried 89 = .ok (.getfield 89, 3) := by decide +kernel
theorem dX12_findTried_92 : decode cX12_findTried 92 = .ok (.iload 4, 2) := by decide +kernel
theorem dX12_findTried_94 : decode cX12_findTried 94 = .ok (.iaload, 1) := by decide +kernel
theorem dX12_findTried_95 : decode cX12_findTried 95 = .ok (.iload_n 3, 1) := by decide +kernel
theorem dX12_findTried_96 : decode cX12_findTried 96 = .ok (.if_icmp .le 13, 3) := by decide +kernel
theorem dX12_findTried_99 : decode cX12_findTried 99 = .ok (.aload_n 0, 1) := by decide +kernel
theorem dX12_findTried_100 : decode cX12_findTried 100 = .ok (.getfield 89, 3) := by decide +kernel
theorem dX12_findTried_103 : decode cX12_findTried 103 = .ok (.iload 4, 2) := by decide +kernel
theorem dX12_findTried_105 : decode cX12_findTried 105 = .ok (.iaload, 1) := by decide +kernel
theorem dX12_findTried_106 : decode cX12_findTried 106 = .ok (.goto 4, 3) := by decide +kernel
theorem dX12_findTried_109 : decode cX12_findTried 109 = .ok (.iload_n 3, 1) := by decide +kernel
theorem dX12_findTried_110 : decode cX12_findTried 110 = .ok (.istore_n 3, 1) := by decide +kernel
theorem dX12_findTried_111 : decode cX12_findTried 111 = .ok (.iinc 4 1, 3) := by decide +kernel
theorem dX12_findTried_114 : decode cX12_findTried 114 = .ok (.goto (-78), 3) := by decide +kernel
theorem dX12_findTried_117 : decode cX12_findTried 117 = .ok (.aload_n 0, 1) := by decide +kernel
theorem dX12_findTried_118 : decode cX12_findTried 118 = .ok (.iload_n 2, 1) := by decide +kernel
theorem dX12_findTried_119 : decode cX12_findTried 119 = .ok (.ldc_w 346, 3) := by decide +kernel
theorem dX12_findTried_122 : decode cX12_findTried 122 = .ok (.if_icmp .ne 7, 3) := by decide +kernel
theorem dX12_findTried_125 : decode cX12_findTried 125 = .ok (.iconst 0, 1) := by decide +kernel
theorem dX12_findTried_126 : decode cX12_findTried 126 = .ok (.goto 6, 3) := by decide +kernel
theorem dX12_findTried_129 : decode cX12_findTried 129 = .ok (.iload_n 3, 1) := by decide +kernel
theorem dX12_findTried_130 : decode cX12_findTried 130 = .ok (.iload_n 2, 1) := by decide +kernel
theorem dX12_findTried_131 : decode cX12_findTried 131 = .ok (.isub, 1) := by decide +kernel
theorem dX12_findTried_132 : decode cX12_findTried 132 = .ok (.putfield 437, 3) := by decide +kernel
theorem dX12_findTried_135 : decode cX12_findTried 135 = .ok (.return_, 1) := by decide +kernel
theorem dX12_tried_0 : decode cX12_tried 0 = .ok (.aload_n 0, 1) := by decide +kernel
theorem dX12_tried_1 : decode cX12_tried 1 = .ok (.iconst 0, 1) := by decide +kernel
theorem dX12_tried_2 : decode cX12_tried 2 = .ok (.putfield 1, 3) := by decide +kernel
theorem dX12_tried_5 : decode cX12_tried 5 = .ok (.iload_n 1, 1) := by decide +kernel
theorem dX12_tried_6 : decode cX12_tried 6 = .ok (.iconst (-1), 1) := by decide +kernel
theorem dX12_tried_7 : decode cX12_tried 7 = .ok (.if_icmp .eq 11, 3) := by decide +kernel
theorem dX12_tried_10 : decode cX12_tried 10 = .ok (.aload_n 0, 1) := by decide +kernel
theorem dX12_tried_11 : decode cX12_tried 11 = .ok (.iload_n 1, 1) := by decide +kernel
theorem dX12_tried_12 : decode cX12_tried 12 = .ok (.invokevirtual 318, 3) := by decide +kernel
theorem dX12_tried_15 : decode cX12_tried 15 = .ok (.ifCond .eq 12, 3) := by decide +kernel
theorem dX12_tried_18 : decode cX12_tried 18 = .ok (.iload_n 2, 1) := by decide +kernel
theorem dX12_tried_19 : decode cX12_tried 19 = .ok (.iconst 0, 1) := by decide +kernel
theorem dX12_tried_20 : decode cX12_tried 20 = .ok (.iconst 2, 1) := by decide +kernel
theorem dX12_tried_21 : decode cX12_tried 21 = .ok (.invokestatic 304, 3) := by decide +kernel
theorem dX12_tried_24 : decode cX12_tried 24 = .ok (.ifCond .ne 5, 3) := by decide +kernel
theorem dX12_tried_27 : decode cX12_tried 27 = .ok (.iconst (-1), 1) := by decide +kernel
theorem dX12_tried_28 : decode cX12_tried 28 = .ok (.ireturn, 1) := by decide +kernel
theorem dX12_tried_29 : decode cX12_tried 29 = .ok (.aload_n 0, 1) := by decide +kernel
theorem dX12_tried_30 : decode cX12_tried 30 = .ok (.iload_n 1, 1) := by decide +kernel
theorem dX12_tried_31 : decode cX12_tried 31 = .ok (.invokevirtual 440, 3) := by decide +kernel
theorem dX12_tried_34 : decode cX12_tried 34 = .ok (.iload_n 2, 1) := by decide +kernel
theorem dX12_tried_35 : decode cX12_tried 35 = .ok (.ifCond .ne 10, 3) := by decide +kernel
theorem dX12_tried_38 : decode cX12_tried 38 = .ok (.aload_n 0, 1) := by decide +kernel
theorem dX12_tried_39 : decode cX12_tried 39 = .ok (.getfield 431, 3) := by decide +kernel
theorem dX12_tried_42 : decode cX12_tried 42 = .ok (.goto 19, 3) := by decide +kernel
theorem dX12_tried_45 : decode cX12_tried 45 = .ok (.iload_n 2, 1) := by decide +kernel
theorem dX12_tried_46 : decode cX12_tried 46 = .ok (.iconst 1, 1) := by decide +kernel
theorem dX12_tried_47 : decode cX12_tried 47 = .ok (.if_icmp .ne 10, 3) := by decide +kernel
theorem dX12_tried_50 : decode cX12_tried 50 = .ok (.aload_n 0, 1) := by decide +kernel
theorem dX12_tried_51 : decode cX12_tried 51 = .ok (.getfield 434, 3) := by decide +kernel
theorem dX12_tried_54 : decode cX12_tried 54 = .ok (.goto 7, 3) := by decide +kernel
theorem dX12_tried_57 : decode cX12_tried 57 = .ok (.aload_n 0, 1) := by decide +kernel
theorem dX12_tried_58 : decode cX12_tried 58 = .ok (.getfield 437, 3) := by decide +kernel
theorem dX12_tried_61 : decode cX12_tried 61 = .ok (.ireturn, 1) := by decide +kernel
theorem dX12_best_0 : decode cX12_best 0 = .ok (.aload_n 0, 1) := by decide +kernel
theorem dX12_best_1 : decode cX12_best 1 = .ok (.iconst 0, 1) := by decide +kernel
theorem dX12_best_2 : decode cX12_best 2 = .ok (.putfield 1, 3) := by decide +kernel
theorem dX12_best_5 : decode cX12_best 5 = .ok (.iconst (-1), 1) := by decide +kernel
theorem dX12_best_6 : decode cX12_best 6 = .ok (.istore_n 1, 1) := by decide +kernel
theorem dX12_best_7 : decode cX12_best 7 = .ok (.iconst 0, 1) := by decide +kernel
theorem dX12_best_8 : decode cX12_best 8 = .ok (.istore_n 2, 1) := by decide +kernel
theorem dX12_best_9 : decode cX12_best 9 = .ok (.iconst 0, 1) := by decide +kernel
theorem dX12_best_10 : decode cX12_best 10 = .ok (.istore_n 3, 1) := by decide +kernel
theorem dX12_best_11 : decode cX12_best 11 = .ok (.iconst 0, 1) := by decide +kernel
theorem dX12_best_12 : decode cX12_best 12 = .ok (.istore 4, 2) := by decide +kernel
theorem dX12_best_14 : decode cX12_best 14 = .ok (.iload 4, 2) := by decide +kernel
theorem dX12_best_16 : decode cX12_best 16 = .ok (.aload_n 0, 1) := by decide +kernel
theorem dX12_best_17 : decode cX12_best 17 = .ok (.invokevirtual 181, 3) := by decide +kernel
theorem dX12_best_20 : decode cX12_best 20 = .ok (.if_icmp .ge 56, 3) := by decide +kernel
theorem dX12_best_23 : decode cX12_best 23 = .ok (.aload_n 0, 1) := by decide +kernel
theorem dX12_best_24 : decode cX12_best 24 = .ok (.iload 4, 2) := by decide +kernel
theorem dX12_best_26 : decode cX12_best 26 = .ok (.invokevirtual 440, 3) := by decide +kernel
theorem dX12_best_29 : decode cX12_best 29 = .ok (.iload_n 1, 1) := by decide +kernel
theorem dX12_best_30 : decode cX12_best 30 = .ok (.ifCond .lt 27, 3) := by decide +kernel
theorem dX12_best_33 : decode cX12_best 33 = .ok (.aload_n 0, 1) := by decide +kernel
theorem dX12_best_34 : decode cX12_best 34 = .ok (.getfield 431, 3) := by decide +kernel
theorem dX12_best_37 : decode cX12_best 37 = .ok (.iload_n 2, 1) := by decide +kernel
theorem dX12_best_38 : decode cX12_best 38 = .ok (.if_icmp .lt 19, 3) := by decide +kernel
theorem dX12_best_41 : decode cX12_best 41 = .ok (.aload_n 0, 1) := by decide +kernel
theorem dX12_best_42 : decode cX12_best 42 = .ok (.getfield 431, 3) := by decide +kernel
theorem dX12_best_45 : decode cX12_best 45 = .ok (.iload_n 2, 1) := by decide +kernel
theorem dX12_best_46 : decode cX12_best 46 = .ok (.if_icmp .ne 24, 3) := by decide +kernel
theorem dX12_best_49 : decode cX12_best 49 = .ok (.aload_n 0, 1) := by decide +kernel
theorem dX12_best_50 : decode cX12_best 50 = .ok (.getfield 434, 3) := by decide +kernel
theorem dX12_best_53 : decode cX12_best 53 = .ok (.iload_n 3, 1) := by decide +kernel
theorem dX12_best_54 : decode cX12_best 54 = .ok (.if_icmp .ge 16, 3) := by decide +kernel
theorem dX12_best_57 : decode cX12_best 57 = .ok (.iload 4, 2) := by decide +kernel
theorem dX12_best_59 : decode cX12_best 59 = .ok (.istore_n 1, 1) := by decide +kernel
theorem dX12_best_60 : decode cX12_best 60 = .ok (.aload_n 0, 1) := by decide +kernel
theorem dX12_best_61 : decode cX12_best 61 = .ok (.getfield 431, 3) := by decide +kernel
theorem dX12_best_64 : decode cX12_best 64 = .ok (.istore_n 2, 1) := by decide +kernel
theorem dX12_best_65 : decode cX12_best 65 = .ok (.aload_n 0, 1) := by decide +kernel
theorem dX12_best_66 : decode cX12_best 66 = .ok (.getfield 434, 3) := by decide +kernel
theorem dX12_best_69 : decode cX12_best 69 = .ok (.istore_n 3, 1) := by decide +kernel
theorem dX12_best_70 : decode cX12_best 70 = .ok (.iinc 4 1, 3) := by decide +kernel
theorem dX12_best_73 : decode cX12_best 73 = .ok (.goto (-59), 3) := by decide +kernel
theorem dX12_best_76 : decode cX12_best 76 = .ok (.iload_n 1, 1) := by decide +kernel
theorem dX12_best_77 : decode cX12_best 77 = .ok (.ireturn, 1) := by decide +kernel
theorem dX12_mark_0 : decode cX12_mark 0 = .ok (.aload_n 0, 1) := by decide +kernel
theorem dX12_mark_1 : decode cX12_mark 1 = .ok (.iconst 0, 1) := by decide +kernel
theorem dX12_mark_2 : decode cX12_mark 2 = .ok (.putfield 1, 3) := by decide +kernel
theorem dX12_mark_5 : decode cX12_mark 5 = .ok (.iload_n 1, 1) := by decide +kernel
theorem dX12_mark_6 : decode cX12_mark 6 = .ok (.iconst 0, 1) := by decide +kernel
theorem dX12_mark_7 : decode cX12_mark 7 = .ok (.iconst 3, 1) := by decide +kernel
theorem dX12_mark_8 : decode cX12_mark 8 = .ok (.invokestatic 304, 3) := by decide +kernel
theorem dX12_mark_11 : decode cX12_mark 11 = .ok (.ifCond .eq 16, 3) := by decide +kernel
theorem dX12_mark_14 : decode cX12_mark 14 = .ok (.iload_n 2, 1) := by decide +kernel
theorem dX12_mark_15 : decode cX12_mark 15 = .ok (.ifCond .eq 14, 3) := by decide +kernel
theorem dX12_mark_18 : decode cX12_mark 18 = .ok (.aload_n 0, 1) := by decide +kernel
theorem dX12_mark_19 : decode cX12_mark 19 = .ok (.getfield 120, 3) := by decide +kernel
theorem dX12_mark_22 : decode cX12_mark 22 = .ok (.iload_n 1, 1) := by decide +kernel
theorem dX12_mark_23 : decode cX12_mark 23 = .ok (.baload, 1) := by decide +kernel
theorem dX12_mark_24 : decode cX12_mark 24 = .ok (.ifCond .ne 5, 3) := by decide +kernel
theorem dX12_mark_27 : decode cX12_mark 27 = .ok (.iconst 0, 1) := by decide +kernel
theorem dX12_mark_28 : decode cX12_mark 28 = .ok (.ireturn, 1) := by decide +kernel
theorem dX12_mark_29 : decode cX12_mark 29 = .ok (.sipush 520, 3) := by decide +kernel
theorem dX12_mark_32 : decode cX12_mark 32 = .ok (.iload_n 1, 1) := by decide +kernel
theorem dX12_mark_33 : decode cX12_mark 33 = .ok (.iconst 1, 1) := by decide +kernel
theorem dX12_mark_34 : decode cX12_mark 34 = .ok (.iadd, 1) := by decide +kernel
theorem dX12_mark_35 : decode cX12_mark 35 = .ok (.imul, 1) := by decide +kernel
theorem dX12_mark_36 : decode cX12_mark 36 = .ok (.istore_n 3, 1) := by decide +kernel
theorem dX12_mark_37 : decode cX12_mark 37 = .ok (.iconst 0, 1) := by decide +kernel
theorem dX12_mark_38 : decode cX12_mark 38 = .ok (.istore 4, 2) := by decide +kernel
theorem dX12_mark_40 : decode cX12_mark 40 = .ok (.iload 4, 2) := by decide +kernel
theorem dX12_mark_42 : decode cX12_mark 42 = .ok (.sipush 520, 3) := by decide +kernel
theorem dX12_mark_45 : decode cX12_mark 45 = .ok (.if_icmp .ge 45, 3) := by decide +kernel
theorem dX12_mark_48 : decode cX12_mark 48 = .ok (.aload_n 0, 1) := by decide +kernel
theorem dX12_mark_49 : decode cX12_mark 49 = .ok (.getfield 83, 3) := by decide +kernel
theorem dX12_mark_52 : decode cX12_mark 52 = .ok (.iload_n 2, 1) := by decide +kernel
theorem dX12_mark_53 : decode cX12_mark 53 = .ok (.ifCond .eq 8, 3) := by decide +kernel
theorem dX12_mark_56 : decode cX12_mark 56 = .ok (.iload 4, 2) := by decide +kernel
theorem dX12_mark_58 : decode cX12_mark 58 = .ok (.goto 7, 3) := by decide +kernel
theorem dX12_mark_61 : decode cX12_mark 61 = .ok (.iload_n 3, 1) := by decide +kernel
theorem dX12_mark_62 : decode cX12_mark 62 = .ok (.iload 4, 2) := by decide +kernel
theorem dX12_mark_64 : decode cX12_mark 64 = .ok (.iadd, 1) := by decide +kernel
theorem dX12_mark_65 : decode cX12_mark 65 = .ok (.aload_n 0, 1) := by decide +kernel
theorem dX12_mark_66 : decode cX12_mark 66 = .ok (.getfield 83, 3) := by decide +kernel
theorem dX12_mark_69 : decode cX12_mark 69 = .ok (.iload_n 2, 1) := by decide +kernel
theorem dX12_mark_70 : decode cX12_mark 70 = .ok (.ifCond .eq 10, 3) := by decide +kernel
theorem dX12_mark_73 : decode cX12_mark 73 = .ok (.iload_n 3, 1) := by decide +kernel
theorem dX12_mark_74 : decode cX12_mark 74 = .ok (.iload 4, 2) := by decide +kernel
theorem dX12_mark_76 : decode cX12_mark 76 = .ok (.iadd, 1) := by decide +kernel
theorem dX12_mark_77 : decode cX12_mark 77 = .ok (.goto 5, 3) := by decide +kernel
theorem dX12_mark_80 : decode cX12_mark 80 = .ok (.iload 4, 2) := by decide +kernel
theorem dX12_mark_82 : decode cX12_mark 82 = .ok (.iaload, 1) := by decide +kernel
theorem dX12_mark_83 : decode cX12_mark 83 = .ok (.iastore, 1) := by decide +kernel
theorem dX12_mark_84 : decode cX12_mark 84 = .ok (.iinc 4 1, 3) := by decide +kernel
theorem dX12_mark_87 : decode cX12_mark 87 = .ok (.goto (-47), 3) := by decide +kernel
theorem dX12_mark_90 : decode cX12_mark 90 = .ok (.aload_n 0, 1) := by decide +kernel
theorem dX12_mark_91 : decode cX12_mark 91 = .ok (.getfield 120, 3) := by decide +kernel
theorem dX12_mark_94 : decode cX12_mark 94 = .ok (.iload_n 1, 1) := by decide +kernel
theorem dX12_mark_95 : decode cX12_mark 95 = .ok (.iconst 1, 1) := by decide +kernel
theorem dX12_mark_96 : decode cX12_mark 96 = .ok (.bastore, 1) := by decide +kernel
theorem dX12_mark_97 : decode cX12_mark 97 = .ok (.aload_n 0, 1) := by decide +kernel
theorem dX12_mark_98 : decode cX12_mark 98 = .ok (.iconst 1, 1) := by decide +kernel
theorem dX12_mark_99 : decode cX12_mark 99 = .ok (.putfield 123, 3) := by decide +kernel
theorem dX12_mark_102 : decode cX12_mark 102 = .ok (.iconst 1, 1) := by decide +kernel
theorem dX12_mark_103 : decode cX12_mark 103 = .ok (.ireturn, 1) := by decide +kernel
theorem dX12_count_0 : decode cX12_count 0 = .ok (.aload_n 0, 1) := by decide +kernel
theorem dX12_count_1 : decode cX12_count 1 = .ok (.iconst 0, 1) := by decide +kernel
theorem dX12_count_2 : decode cX12_count 2 = .ok (.putfield 1, 3) := by decide +kernel
theorem dX12_count_5 : decode cX12_count 5 = .ok (.iload_n 1, 1) := by decide +kernel
theorem dX12_count_6 : decode cX12_count 6 = .ok (.tableswitch 115 0 10 #[58, 63, 68, 73, 78, 85, 90, 95, 100, 105, 110], 58) := by decide +kernel
theorem dX12_count_64 : decode cX12_count 64 = .ok (.aload_n 0, 1) := by decide +kernel
theorem dX12_count_65 : decode cX12_count 65 = .ok (.invokevirtual 231, 3) := by decide +kernel
theorem dX12_count_68 : decode cX12_count 68 = .ok (.ireturn, 1) := by decide +kernel
theorem dX12_count_69 : decode cX12_count 69 = .ok (.aload_n 0, 1) := by decide +kernel
theorem dX12_count_70 : decode cX12_count 70 = .ok (.invokevirtual 234, 3) := by decide +kernel
theorem dX12_count_73 : decode cX12_count 73 = .ok (.ireturn, 1) := by decide +kernel
theorem dX12_count_74 : decode cX12_count 74 = .ok (.aload_n 0, 1) := by decide +kernel
theorem dX12_count_75 : decode cX12_count 75 = .ok (.invokevirtual 181, 3) := by decide +kernel
theorem dX12_count_78 : decode cX12_count 78 = .ok (.ireturn, 1) := by decide +kernel
theorem dX12_count_79 : decode cX12_count 79 = .ok (.aload_n 0, 1) := by decide +kernel
theorem dX12_count_80 : decode cX12_count 80 = .ok (.invokevirtual 428, 3) := by decide +kernel
theorem dX12_count_83 : decode cX12_count 83 = .ok (.ireturn, 1) := by decide +kernel
theorem dX12_count_84 : decode cX12_count 84 = .ok (.aload_n 0, 1) := by decide +kernel
theorem dX12_count_85 : decode cX12_count 85 = .ok (.getfield 83, 3) := by decide +kernel
theorem dX12_count_88 : decode cX12_count 88 = .ok (.iconst 0, 1) := by decide +kernel
theorem dX12_count_89 : decode cX12_count 89 = .ok (.iaload, 1) := by decide +kernel
theorem dX12_count_90 : decode cX12_count 90 = .ok (.ireturn, 1) := by decide +kernel
theorem dX12_count_91 : decode cX12_count 91 = .ok (.aload_n 0, 1) := by decide +kernel
theorem dX12_count_92 : decode cX12_count 92 = .ok (.invokevirtual 350, 3) := by decide +kernel
theorem dX12_count_95 : decode cX12_count 95 = .ok (.ireturn, 1) := by decide +kernel
theorem dX12_count_96 : decode cX12_count 96 = .ok (.aload_n 0, 1) := by decide +kernel
theorem dX12_count_97 : decode cX12_count 97 = .ok (.invokevirtual 375, 3) := by decide +kernel
theorem dX12_count_100 : decode cX12_count 100 = .ok (.ireturn, 1) := by decide +kernel
theorem dX12_count_101 : decode cX12_count 101 = .ok (.aload_n 0, 1) := by decide +kernel
theorem dX12_count_102 : decode cX12_count 102 = .ok (.invokevirtual 382, 3) := by decide +kernel
theorem dX12_count_105 : decode cX12_count 105 = .ok (.ireturn, 1) := by decide +kernel
theorem dX12_count_106 : decode cX12_count 106 = .ok (.aload_n 0, 1) := by decide +kernel
theorem dX12_count_107 : decode cX12_count 107 = .ok (.invokevirtual 331, 3) := by decide +kernel
theorem dX12_count_110 : decode cX12_count 110 = .ok (.ireturn, 1) := by decide +kernel
theorem dX12_count_111 : decode cX12_count 111 = .ok (.aload_n 0, 1) := by decide +kernel
theorem dX12_count_112 : decode cX12_count 112 = .ok (.invokevirtual 284, 3) := by decide +kernel
theorem dX12_count_115 : decode cX12_count 115 = .ok (.ireturn, 1) := by decide +kernel
theorem dX12_count_116 : decode cX12_count 116 = .ok (.aload_n 0, 1) := by decide +kernel
theorem dX12_count_117 : decode cX12_count 117 = .ok (.getfield 11, 3) := by decide +kernel
theorem dX12_count_120 : decode cX12_count 120 = .ok (.ireturn, 1) := by decide +kernel
theorem dX12_count_121 : decode cX12_count 121 = .ok (.iconst (-1), 1) := by decide +kernel
theorem dX12_count_122 : decode cX12_count 122 = .ok (.ireturn, 1) := by decide +kernel
theorem dJ6_bitCount_0f7a4_0 : decode cJ6_bitCount_0f7a4 0 = .ok (.iload_n 0, 1) := by decide +kernel
theorem dJ6_bitCount_0f7a4_1 : decode cJ6_bitCount_0f7a4 1 = .ok (.iload_n 0, 1) := by decide +kernel
theorem dJ6_bitCount_0f7a4_2 : decode cJ6_bitCount_0f7a4 2 = .ok (.iconst 1, 1) := by decide +kernel
theorem dJ6_bitCount_0f7a4_3 : decode cJ6_bitCount_0f7a4 3 = .ok (.iushr, 1) := by decide +kernel
theorem dJ6_bitCount_0f7a4_4 : decode cJ6_bitCount_0f7a4 4 = .ok (.ldc_w 265, 3) := by decide +kernel
theorem dJ6_bitCount_0f7a4_7 : decode cJ6_bitCount_0f7a4 7 = .ok (.iand, 1) := by decide +kernel
theorem dJ6_bitCount_0f7a4_8 : decode cJ6_bitCount_0f7a4 8 = .ok (.isub, 1) := by decide +kernel
theorem dJ6_bitCount_0f7a4_9 : decode cJ6_bitCount_0f7a4 9 = .ok (.istore_n 0, 1) := by decide +kernel
theorem dJ6_bitCount_0f7a4_10 : decode cJ6_bitCount_0f7a4 10 = .ok (.iload_n 0, 1) := by decide +kernel
theorem dJ6_bitCount_0f7a4_11 : decode cJ6_bitCount_0f7a4 11 = .ok (.ldc_w 266, 3) := by decide +kernel
theorem dJ6_bitCount_0f7a4_14 : decode cJ6_bitCount_0f7a4 14 = .ok (.iand, 1) := by decide +kernel
theorem dJ6_bitCount_0f7a4_15 : decode cJ6_bitCount_0f7a4 15 = .ok (.iload_n 0, 1) := by decide +kernel
theorem dJ6_bitCount_0f7a4_16 : decode cJ6_bitCount_0f7a4 16 = .ok (.iconst 2, 1) := by decide +kernel
theorem dJ6_bitCount_0f7a4_17 : decode cJ6_bitCount_0f7a4 17 = .ok (.iushr, 1) := by decide +kernel
theorem dJ6_bitCount_0f7a4_18 : decode cJ6_bitCount_0f7a4 18 = .ok (.ldc_w 266, 3) := by decide +kernel
theorem dJ6_bitCount_0f7a4_21 : decode cJ6_bitCount_0f7a4 21 = .ok (.iand, 1) := by decide +kernel
theorem dJ6_bitCount_0f7a4_22 : decode cJ6_bitCount_0f7a4 22 = .ok (.iadd, 1) := by decide +kernel
theorem dJ6_bitCount_0f7a4_23 : decode cJ6_bitCount_0f7a4 23 = .ok (.istore_n 0, 1) := by decide +kernel
theorem dJ6_bitCount_0f7a4_24 : decode cJ6_bitCount_0f7a4 24 = .ok (.iload_n 0, 1) := by decide +kernel
theorem dJ6_bitCount_0f7a4_25 : decode cJ6_bitCount_0f7a4 25 = .ok (.iload_n 0, 1) := by decide +kernel
theorem dJ6_bitCount_0f7a4_26 : decode cJ6_bitCount_0f7a4 26 = .ok (.iconst 4, 1) := by decide +kernel
theorem dJ6_bitCount_0f7a4_27 : decode cJ6_bitCount_0f7a4 27 = .ok (.iushr, 1) := by decide +kernel
theorem dJ6_bitCount_0f7a4_28 : decode cJ6_bitCount_0f7a4 28 = .ok (.iadd, 1) := by decide +kernel
theorem dJ6_bitCount_0f7a4_29 : decode cJ6_bitCount_0f7a4 29 = .ok (.ldc_w 267, 3) := by decide +kernel
theorem dJ6_bitCount_0f7a4_32 : decode cJ6_bitCount_0f7a4 32 = .ok (.iand, 1) := by decide +kernel
theorem dJ6_bitCount_0f7a4_33 : decode cJ6_bitCount_0f7a4 33 = .ok (.istore_n 0, 1) := by decide +kernel
theorem dJ6_bitCount_0f7a4_34 : decode cJ6_bitCount_0f7a4 34 = .ok (.iload_n 0, 1) := by decide +kernel
theorem dJ6_bitCount_0f7a4_35 : decode cJ6_bitCount_0f7a4 35 = .ok (.iload_n 0, 1) := by decide +kernel
theorem dJ6_bitCount_0f7a4_36 : decode cJ6_bitCount_0f7a4 36 = .ok (.bipush 8, 2) := by decide +kernel
theorem dJ6_bitCount_0f7a4_38 : decode cJ6_bitCount_0f7a4 38 = .ok (.iushr, 1) := by decide +kernel
theorem dJ6_bitCount_0f7a4_39 : decode cJ6_bitCount_0f7a4 39 = .ok (.iadd, 1) := by decide +kernel
theorem dJ6_bitCount_0f7a4_40 : decode cJ6_bitCount_0f7a4 40 = .ok (.istore_n 0, 1) := by decide +kernel
theorem dJ6_bitCount_0f7a4_41 : decode cJ6_bitCount_0f7a4 41 = .ok (.iload_n 0, 1) := by decide +kernel
theorem dJ6_bitCount_0f7a4_42 : decode cJ6_bitCount_0f7a4 42 = .ok (.iload_n 0, 1) := by decide +kernel
theorem dJ6_bitCount_0f7a4_43 : decode cJ6_bitCount_0f7a4 43 = .ok (.bipush 16, 2) := by decide +kernel
theorem dJ6_bitCount_0f7a4_45 : decode cJ6_bitCount_0f7a4 45 = .ok (.iushr, 1) := by decide +kernel
theorem dJ6_bitCount_0f7a4_46 : decode cJ6_bitCount_0f7a4 46 = .ok (.iadd, 1) := by decide +kernel
theorem dJ6_bitCount_0f7a4_47 : decode cJ6_bitCount_0f7a4 47 = .ok (.istore_n 0, 1) := by decide +kernel
theorem dJ6_bitCount_0f7a4_48 : decode cJ6_bitCount_0f7a4 48 = .ok (.iload_n 0, 1) := by decide +kernel
theorem dJ6_bitCount_0f7a4_49 : decode cJ6_bitCount_0f7a4 49 = .ok (.bipush 63, 2) := by decide +kernel
theorem dJ6_bitCount_0f7a4_51 : decode cJ6_bitCount_0f7a4 51 = .ok (.iand, 1) := by decide +kernel
theorem dJ6_bitCount_0f7a4_52 : decode cJ6_bitCount_0f7a4 52 = .ok (.ireturn, 1) := by decide +kernel
theorem dJ9_abs_0f7a4_0 : decode cJ9_abs_0f7a4 0 = .ok (.iload_n 0, 1) := by decide +kernel
theorem dJ9_abs_0f7a4_1 : decode cJ9_abs_0f7a4 1 = .ok (.ifCond .ge 8, 3) := by decide +kernel
theorem dJ9_abs_0f7a4_4 : decode cJ9_abs_0f7a4 4 = .ok (.iload_n 0, 1) := by decide +kernel
theorem dJ9_abs_0f7a4_5 : decode cJ9_abs_0f7a4 5 = .ok (.ineg, 1) := by decide +kernel
theorem dJ9_abs_0f7a4_6 : decode cJ9_abs_0f7a4 6 = .ok (.goto 4, 3) := by decide +kernel
theorem dJ9_abs_0f7a4_9 : decode cJ9_abs_0f7a4 9 = .ok (.iload_n 0, 1) := by decide +kernel
theorem dJ9_abs_0f7a4_10 : decode cJ9_abs_0f7a4 10 = .ok (.ireturn, 1) := by decide +kernel
theorem dJ9_max_7cf53_0 : decode cJ9_max_7cf53 0 = .ok (.iload_n 0, 1) := by decide +kernel
theorem dJ9_max_7cf53_1 : decode cJ9_max_7cf53 1 = .ok (.iload_n 1, 1) := by decide +kernel
theorem dJ9_max_7cf53_2 : decode cJ9_max_7cf53 2 = .ok (.if_icmp .lt 7, 3) := by decide +kernel
theorem dJ9_max_7cf53_5 : decode cJ9_max_7cf53 5 = .ok (.iload_n 0, 1) := by decide +kernel
theorem dJ9_max_7cf53_6 : decode cJ9_max_7cf53 6 = .ok (.goto 4, 3) := by decide +kernel
theorem dJ9_max_7cf53_9 : decode cJ9_max_7cf53 9 = .ok (.iload_n 1, 1) := by decide +kernel
theorem dJ9_max_7cf53_10 : decode cJ9_max_7cf53 10 = .ok (.ireturn, 1) := by decide +kernel
theorem dJ9_min_7cf53_0 : decode cJ9_min_7cf53 0 = .ok (.iload_n 0, 1) := by decide +kernel
theorem dJ9_min_7cf53_1 : decode cJ9_min_7cf53 1 = .ok (.iload_n 1, 1) := by decide +kernel
theorem dJ9_min_7cf53_2 : decode cJ9_min_7cf53 2 = .ok (.if_icmp .gt 7, 3) := by decide +kernel
theorem dJ9_min_7cf53_5 : decode cJ9_min_7cf53 5 = .ok (.iload_n 0, 1) := by decide +kernel
theorem dJ9_min_7cf53_6 : decode cJ9_min_7cf53 6 = .ok (.goto 4, 3) := by decide +kernel
theorem dJ9_min_7cf53_9 : decode cJ9_min_7cf53 9 = .ok (.iload_n 1, 1) := by decide +kernel
theorem dJ9_min_7cf53_10 : decode cJ9_min_7cf53 10 = .ok (.ireturn, 1) := by decide +kernel
theorem dJ0_length_8abf5_0 : decode cJ0_length_8abf5 0 = .ok (.aload_n 0, 1) := by decide +kernel
theorem dJ0_length_8abf5_1 : decode cJ0_length_8abf5 1 = .ok (.getfield 9, 3) := by decide +kernel
theorem dJ0_length_8abf5_4 : decode cJ0_length_8abf5 4 = .ok (.arraylength, 1) := by decide +kernel
theorem dJ0_length_8abf5_5 : decode cJ0_length_8abf5 5 = .ok (.aload_n 0, 1) := by decide +kernel
theorem dJ0_length_8abf5_6 : decode cJ0_length_8abf5 6 = .ok (.invokevirtual 335, 3) := by decide +kernel
theorem dJ0_length_8abf5_9 : decode cJ0_length_8abf5 9 = .ok (.ishr, 1) := by decide +kernel
theorem dJ0_length_8abf5_10 : decode cJ0_length_8abf5 10 = .ok (.ireturn, 1) := by decide +kernel
theorem dJ0_charAt_5068e_0 : decode cJ0_charAt_5068e 0 = .ok (.aload_n 0, 1) := by decide +kernel
theorem dJ0_charAt_5068e_1 : decode cJ0_charAt_5068e 1 = .ok (.invokevirtual 492, 3) := by decide +kernel
theorem dJ0_charAt_5068e_4 : decode cJ0_charAt_5068e 4 = .ok (.ifCond .eq 12, 3) := by decide +kernel
theorem dJ0_charAt_5068e_7 : decode cJ0_charAt_5068e 7 = .ok (.aload_n 0, 1) := by decide +kernel
theorem dJ0_charAt_5068e_8 : decode cJ0_charAt_5068e 8 = .ok (.getfield 9, 3) := by decide +kernel
theorem dJ0_charAt_5068e_11 : decode cJ0_charAt_5068e 11 = .ok (.iload_n 1, 1) := by decide +kernel
theorem dJ0_charAt_5068e_12 : decode cJ0_charAt_5068e 12 = .ok (.invokestatic 495, 3) := by decide +kernel
theorem dJ0_charAt_5068e_15 : decode cJ0_charAt_5068e 15 = .ok (.ireturn, 1) := by decide +kernel
theorem dJ0_charAt_5068e_16 : decode cJ0_charAt_5068e 16 = .ok (.aload_n 0, 1) := by decide +kernel
theorem dJ0_charAt_5068e_17 : decode cJ0_charAt_5068e 17 = .ok (.getfield 9, 3) := by decide +kernel
theorem dJ0_charAt_5068e_20 : decode cJ0_charAt_5068e 20 = .ok (.iload_n 1, 1) := by decide +kernel
theorem dJ0_charAt_5068e_21 : decode cJ0_charAt_5068e 21 = .ok (.invokestatic 498, 3) := by decide +kernel
theorem dJ0_charAt_5068e_24 : decode cJ0_charAt_5068e 24 = .ok (.ireturn, 1) := by decide +kernel
theorem dJ0_coder_7d493_0 : decode cJ0_coder_7d493 0 = .ok (.getstatic 38, 3) := by decide +kernel
theorem dJ0_coder_7d493_3 : decode cJ0_coder_7d493 3 = .ok (.ifCond .eq 10, 3) := by decide +kernel
theorem dJ0_coder_7d493_6 : decode cJ0_coder_7d493 6 = .ok (.aload_n 0, 1) := by decide +kernel
theorem dJ0_coder_7d493_7 : decode cJ0_coder_7d493 7 = .ok (.getfield 15, 3) := by decide +kernel
theorem dJ0_coder_7d493_10 : decode cJ0_coder_7d493 10 = .ok (.goto 4, 3) := by decide +kernel
theorem dJ0_coder_7d493_13 : decode cJ0_coder_7d493 13 = .ok (.iconst 1, 1) := by decide +kernel
theorem dJ0_coder_7d493_14 : decode cJ0_coder_7d493 14 = .ok (.ireturn, 1) := by decide +kernel
theorem dJ0_isLatin1_aae02_0 : decode cJ0_isLatin1_aae02 0 = .ok (.getstatic 38, 3) := by decide +kernel
theorem dJ0_isLatin1_aae02_3 : decode cJ0_isLatin1_aae02 3 = .ok (.ifCond .eq 14, 3) := by decide +kernel
theorem dJ0_isLatin1_aae02_6 : decode cJ0_isLatin1_aae02 6 = .ok (.aload_n 0, 1) := by decide +kernel
theorem dJ0_isLatin1_aae02_7 : decode cJ0_isLatin1_aae02 7 = .ok (.getfield 15, 3) := by decide +kernel
theorem dJ0_isLatin1_aae02_10 : decode cJ0_isLatin1_aae02 10 = .ok (.ifCond .ne 7, 3) := by decide +kernel
theorem dJ0_isLatin1_aae02_13 : decode cJ0_isLatin1_aae02 13 = .ok (.iconst 1, 1) := by decide +kernel
theorem dJ0_isLatin1_aae02_14 : decode cJ0_isLatin1_aae02 14 = .ok (.goto 4, 3) := by decide +kernel
theorem dJ0_isLatin1_aae02_17 : decode cJ0_isLatin1_aae02 17 = .ok (.iconst 0, 1) := by decide +kernel
theorem dJ0_isLatin1_aae02_18 : decode cJ0_isLatin1_aae02 18 = .ok (.ireturn, 1) := by decide +kernel
theorem dJ0_checkIndex_df160_0 : decode cJ0_checkIndex_df160 0 = .ok (.iload_n 0, 1) := by decide +kernel
theorem dJ0_checkIndex_df160_1 : decode cJ0_checkIndex_df160 1 = .ok (.iload_n 1, 1) := by decide +kernel
theorem dJ0_checkIndex_df160_2 : decode cJ0_checkIndex_df160 2 = .ok (.getstatic 1053, 3) := by decide +kernel
theorem dJ0_checkIndex_df160_5 : decode cJ0_checkIndex_df160 5 = .ok (.invokestatic 1059, 3) := by decide +kernel
theorem dJ0_checkIndex_df160_8 : decode cJ0_checkIndex_df160 8 = .ok (.pop, 1) := by decide +kernel
theorem dJ0_checkIndex_df160_9 : decode cJ0_checkIndex_df160 9 = .ok (.return_, 1) := by decide +kernel
theorem dJ1_charAt_3b067_0 : decode cJ1_charAt_3b067 0 = .ok (.iload_n 1, 1) := by decide +kernel
theorem dJ1_charAt_3b067_1 : decode cJ1_charAt_3b067 1 = .ok (.aload_n 0, 1) := by decide +kernel
theorem dJ1_charAt_3b067_2 : decode cJ1_charAt_3b067 2 = .ok (.arraylength, 1) := by decide +kernel
theorem dJ1_charAt_3b067_3 : decode cJ1_charAt_3b067 3 = .ok (.invokestatic 9, 3) := by decide +kernel
theorem dJ1_charAt_3b067_6 : decode cJ1_charAt_3b067 6 = .ok (.aload_n 0, 1) := by decide +kernel
theorem dJ1_charAt_3b067_7 : decode cJ1_charAt_3b067 7 = .ok (.iload_n 1, 1) := by decide +kernel
theorem dJ1_charAt_3b067_8 : decode cJ1_charAt_3b067 8 = .ok (.baload, 1) := by decide +kernel
theorem dJ1_charAt_3b067_9 : decode cJ1_charAt_3b067 9 = .ok (.sipush 255, 3) := by decide +kernel
theorem dJ1_charAt_3b067_12 : decode cJ1_charAt_3b067 12 = .ok (.iand, 1) := by decide +kernel
theorem dJ1_charAt_3b067_13 : decode cJ1_charAt_3b067 13 = .ok (.i2c, 1) := by decide +kernel
theorem dJ1_charAt_3b067_14 : decode cJ1_charAt_3b067 14 = .ok (.ireturn, 1) := by decide +kernel
theorem dJ2_getChar_3b067_0 : decode cJ2_getChar_3b067 0 = .ok (.getstatic 44, 3) := by decide +kernel
theorem dJ2_getChar_3b067_3 : decode cJ2_getChar_3b067 3 = .ok (.ifCond .ne 25, 3) := by decide +kernel
theorem dJ2_getChar_3b067_6 : decode cJ2_getChar_3b067 6 = .ok (.iload_n 1, 1) := by decide +kernel
theorem dJ2_getChar_3b067_7 : decode cJ2_getChar_3b067 7 = .ok (.ifCond .lt 11, 3) := by decide +kernel
theorem dJ2_getChar_3b067_10 : decode cJ2_getChar_3b067 10 = .ok (.iload_n 1, 1) := by decide +kernel
theorem dJ2_getChar_3b067_11 : decode cJ2_getChar_3b067 11 = .ok (.aload_n 0, 1) := by decide +kernel
theorem dJ2_getChar_3b067_12 : decode cJ2_getChar_3b067 12 = .ok (.invokestatic 48, 3) := by decide +kernel
theorem dJ2_getChar_3b067_15 : decode cJ2_getChar_3b067 15 = .ok (.if_icmp .lt 13, 3) := by decide +kernel
theorem dJ2_getChar_3b067_18 : decode cJ2_getChar_3b067 18 = .ok (.new 52, 3) := by decide +kernel
theorem dJ2_getChar_3b067_21 : decode cJ2_getChar_3b067 21 = .ok (.dup, 1) := by decide +kernel
theorem dJ2_getChar_3b067_22 : decode cJ2_getChar_3b067 22 = .ok (.ldc 54, 2) := by decide +kernel
theorem dJ2_getChar_3b067_24 : decode cJ2_getChar_3b067 24 = .ok (.invokespecial 56, 3) := by decide +kernel
theorem dJ2_getChar_3b067_27 : decode cJ2_getChar_3b067 27 = .ok (.athrow, 1) := by decide +kernel
theorem dJ2_getChar_3b067_28 : decode cJ2_getChar_3b067 28 = .ok (.iload_n 1, 1) := by decide +kernel
theorem dJ2_getChar_3b067_29 : decode cJ2_getChar_3b067 29 = .ok (.iconst 1, 1) := by decide +kernel
theorem dJ2_getChar_3b067_30 : decode cJ2_getChar_3b067 30 = .ok (.ishl, 1) := by decide +kernel
theorem dJ2_getChar_3b067_31 : decode cJ2_getChar_3b067 31 = .ok (.istore_n 1, 1) := by decide +kernel
theorem dJ2_getChar_3b067_32 : decode cJ2_getChar_3b067 32 = .ok (.aload_n 0, 1) := by decide +kernel
theorem dJ2_getChar_3b067_33 : decode cJ2_getChar_3b067 33 = .ok (.iload_n 1, 1) := by decide +kernel
theorem dJ2_getChar_3b067_34 : decode cJ2_getChar_3b067 34 = .ok (.iinc 1 1, 3) := by decide +kernel
theorem dJ2_getChar_3b067_37 : decode cJ2_getChar_3b067 37 = .ok (.baload, 1) := by decide +kernel
theorem dJ2_getChar_3b067_38 : decode cJ2_getChar_3b067 38 = .ok (.sipush 255, 3) := by decide +kernel
theorem dJ2_getChar_3b067_41 : decode cJ2_getChar_3b067 41 = .ok (.iand, 1) := by decide +kernel
theorem dJ2_getChar_3b067_42 : decode cJ2_getChar_3b067 42 = .ok (.getstatic 59, 3) := by decide +kernel
theorem dJ2_getChar_3b067_45 : decode cJ2_getChar_3b067 45 = .ok (.ishl, 1) := by decide +kernel
theorem dJ2_getChar_3b067_46 : decode cJ2_getChar_3b067 46 = .ok (.aload_n 0, 1) := by decide +kernel
theorem dJ2_getChar_3b067_47 : decode cJ2_getChar_3b067 47 = .ok (.iload_n 1, 1) := by decide +kernel
theorem dJ2_getChar_3b067_48 : decode cJ2_getChar_3b067 48 = .ok (.baload, 1) := by decide +kernel
theorem dJ2_getChar_3b067_49 : decode cJ2_getChar_3b067 49 = .ok (.sipush 255, 3) := by decide +kernel
theorem dJ2_getChar_3b067_52 : decode cJ2_getChar_3b067 52 = .ok (.iand, 1) := by decide +kernel
theorem dJ2_getChar_3b067_53 : decode cJ2_getChar_3b067 53 = .ok (.getstatic 63, 3) := by decide +kernel
theorem dJ2_getChar_3b067_56 : decode cJ2_getChar_3b067 56 = .ok (.ishl, 1) := by decide +kernel
theorem dJ2_getChar_3b067_57 : decode cJ2_getChar_3b067 57 = .ok (.ior, 1) := by decide +kernel
theorem dJ2_getChar_3b067_58 : decode cJ2_getChar_3b067 58 = .ok (.i2c, 1) := by decide +kernel
theorem dJ2_getChar_3b067_59 : decode cJ2_getChar_3b067 59 = .ok (.ireturn, 1) := by decide +kernel
theorem dJ2_length_9d52b_0 : decode cJ2_length_9d52b 0 = .ok (.aload_n 0, 1) := by decide +kernel
theorem dJ2_length_9d52b_1 : decode cJ2_length_9d52b 1 = .ok (.arraylength, 1) := by decide +kernel
theorem dJ2_length_9d52b_2 : decode cJ2_length_9d52b 2 = .ok (.iconst 1, 1) := by decide +kernel
theorem dJ2_length_9d52b_3 : decode cJ2_length_9d52b 3 = .ok (.ishr, 1) := by decide +kernel
theorem dJ2_length_9d52b_4 : decode cJ2_length_9d52b 4 = .ok (.ireturn, 1) := by decide +kernel
theorem dJ2_charAt_3b067_0 : decode cJ2_charAt_3b067 0 = .ok (.iload_n 1, 1) := by decide +kernel
theorem dJ2_charAt_3b067_1 : decode cJ2_charAt_3b067 1 = .ok (.aload_n 0, 1) := by decide +kernel
theorem dJ2_charAt_3b067_2 : decode cJ2_charAt_3b067 2 = .ok (.invokestatic 67, 3) := by decide +kernel
theorem dJ2_charAt_3b067_5 : decode cJ2_charAt_3b067 5 = .ok (.aload_n 0, 1) := by decide +kernel
theorem dJ2_charAt_3b067_6 : decode cJ2_charAt_3b067 6 = .ok (.iload_n 1, 1) := by decide +kernel
theorem dJ2_charAt_3b067_7 : decode cJ2_charAt_3b067 7 = .ok (.invokestatic 71, 3) := by decide +kernel
theorem dJ2_charAt_3b067_10 : decode cJ2_charAt_3b067 10 = .ok (.ireturn, 1) := by decide +kernel
theorem dJ2_checkIndex_2214a_0 : decode cJ2_checkIndex_2214a 0 = .ok (.iload_n 0, 1) := by decide +kernel
theorem dJ2_checkIndex_2214a_1 : decode cJ2_checkIndex_2214a 1 = .ok (.aload_n 1, 1) := by decide +kernel
theorem dJ2_checkIndex_2214a_2 : decode cJ2_checkIndex_2214a 2 = .ok (.invokestatic 48, 3) := by decide +kernel
theorem dJ2_checkIndex_2214a_5 : decode cJ2_checkIndex_2214a 5 = .ok (.invokestatic 414, 3) := by decide +kernel
theorem dJ2_checkIndex_2214a_8 : decode cJ2_checkIndex_2214a 8 = .ok (.return_, 1) := by decide +kernel
theorem dJ7_fill_53178_0 : decode cJ7_fill_53178 0 = .ok (.iconst 0, 1) := by decide +kernel
theorem dJ7_fill_53178_1 : decode cJ7_fill_53178 1 = .ok (.istore_n 2, 1) := by decide +kernel
theorem dJ7_fill_53178_2 : decode cJ7_fill_53178 2 = .ok (.aload_n 0, 1) := by decide +kernel
theorem dJ7_fill_53178_3 : decode cJ7_fill_53178 3 = .ok (.arraylength, 1) := by decide +kernel
theorem dJ7_fill_53178_4 : decode cJ7_fill_53178 4 = .ok (.istore_n 3, 1) := by decide +kernel
theorem dJ7_fill_53178_5 : decode cJ7_fill_53178 5 = .ok (.iload_n 2, 1) := by decide +kernel
theorem dJ7_fill_53178_6 : decode cJ7_fill_53178 6 = .ok (.iload_n 3, 1) := by decide +kernel
theorem dJ7_fill_53178_7 : decode cJ7_fill_53178 7 = .ok (.if_icmp .ge 13, 3) := by decide +kernel
theorem dJ7_fill_53178_10 : decode cJ7_fill_53178 10 = .ok (.aload_n 0, 1) := by decide +kernel
theorem dJ7_fill_53178_11 : decode cJ7_fill_53178 11 = .ok (.iload_n 2, 1) := by decide +kernel
theorem dJ7_fill_53178_12 : decode cJ7_fill_53178 12 = .ok (.iload_n 1, 1) := by decide +kernel
theorem dJ7_fill_53178_13 : decode cJ7_fill_53178 13 = .ok (.iastore, 1) := by decide +kernel
theorem dJ7_fill_53178_14 : decode cJ7_fill_53178 14 = .ok (.iinc 2 1, 3) := by decide +kernel
theorem dJ7_fill_53178_17 : decode cJ7_fill_53178 17 = .ok (.goto (-12), 3) := by decide +kernel
theorem dJ7_fill_53178_20 : decode cJ7_fill_53178 20 = .ok (.return_, 1) := by decide +kernel
theorem dJ3_checkIndex_8e157_0 : decode cJ3_checkIndex_8e157 0 = .ok (.iload_n 0, 1) := by decide +kernel
theorem dJ3_checkIndex_8e157_1 : decode cJ3_checkIndex_8e157 1 = .ok (.ifCond .lt 8, 3) := by decide +kernel
theorem dJ3_checkIndex_8e157_4 : decode cJ3_checkIndex_8e157 4 = .ok (.iload_n 0, 1) := by decide +kernel
theorem dJ3_checkIndex_8e157_5 : decode cJ3_checkIndex_8e157 5 = .ok (.iload_n 1, 1) := by decide +kernel
theorem dJ3_checkIndex_8e157_6 : decode cJ3_checkIndex_8e157 6 = .ok (.if_icmp .lt 10, 3) := by decide +kernel
theorem dJ3_checkIndex_8e157_9 : decode cJ3_checkIndex_8e157 9 = .ok (.aload_n 2, 1) := by decide +kernel
theorem dJ3_checkIndex_8e157_10 : decode cJ3_checkIndex_8e157 10 = .ok (.iload_n 0, 1) := by decide +kernel
theorem dJ3_checkIndex_8e157_11 : decode cJ3_checkIndex_8e157 11 = .ok (.iload_n 1, 1) := by decide +kernel
theorem dJ3_checkIndex_8e157_12 : decode cJ3_checkIndex_8e157 12 = .ok (.invokestatic 95, 3) := by decide +kernel
theorem dJ3_checkIndex_8e157_15 : decode cJ3_checkIndex_8e157 15 = .ok (.athrow, 1) := by decide +kernel
theorem dJ3_checkIndex_8e157_16 : decode cJ3_checkIndex_8e157 16 = .ok (.iload_n 0, 1) := by decide +kernel
theorem dJ3_checkIndex_8e157_17 : decode cJ3_checkIndex_8e157 17 = .ok (.ireturn, 1) := by decide +kernel
theorem dL_gives_0 : decode cL_gives 0 = .ok (.aload 4, 2) := by decide +kernel
theorem dL_gives_2 : decode cL_gives 2 = .ok (.iconst 0, 1) := by decide +kernel
theorem dL_gives_3 : decode cL_gives 3 = .ok (.aload_n 0, 1) := by decide +kernel
theorem dL_gives_4 : decode cL_gives 4 = .ok (.iload_n 1, 1) := by decide +kernel
theorem dL_gives_5 : decode cL_gives 5 = .ok (.iload_n 2, 1) := by decide +kernel
theorem dL_gives_6 : decode cL_gives 6 = .ok (.iload_n 3, 1) := by decide +kernel
theorem dL_gives_7 : decode cL_gives 7 = .ok (.invokevirtual 7, 3) := by decide +kernel
theorem dL_gives_10 : decode cL_gives 10 = .ok (.i2l, 1) := by decide +kernel
theorem dL_gives_11 : decode cL_gives 11 = .ok (.lastore, 1) := by decide +kernel
theorem dL_gives_12 : decode cL_gives 12 = .ok (.goto 7, 3) := by decide +kernel
theorem dL_gives_15 : decode cL_gives 15 = .ok (.astore 5, 2) := by decide +kernel
theorem dL_gives_17 : decode cL_gives 17 = .ok (.iconst 1, 1) := by decide +kernel
theorem dL_gives_18 : decode cL_gives 18 = .ok (.ireturn, 1) := by decide +kernel
theorem dL_gives_19 : decode cL_gives 19 = .ok (.iconst 0, 1) := by decide +kernel
theorem dL_gives_20 : decode cL_gives 20 = .ok (.ireturn, 1) := by decide +kernel
theorem dL_law_0 : decode cL_law 0 = .ok (.new 8, 3) := by decide +kernel
theorem dL_law_3 : decode cL_law 3 = .ok (.dup, 1) := by decide +kernel
theorem dL_law_4 : decode cL_law 4 = .ok (.invokespecial 15, 3) := by decide +kernel
theorem dL_law_7 : decode cL_law 7 = .ok (.astore_n 1, 1) := by decide +kernel
theorem dL_law_8 : decode cL_law 8 = .ok (.new 16, 3) := by decide +kernel
theorem dL_law_11 : decode cL_law 11 = .ok (.dup, 1) := by decide +kernel
theorem dL_law_12 : decode cL_law 12 = .ok (.invokespecial 18, 3) := by decide +kernel
theorem dL_law_15 : decode cL_law 15 = .ok (.astore_n 2, 1) := by decide +kernel
theorem dL_law_16 : decode cL_law 16 = .ok (.iconst 1, 1) := by decide +kernel
theorem dL_law_17 : decode cL_law 17 = .ok (.newarray .long, 2) := by decide +kernel
theorem dL_law_19 : decode cL_law 19 = .ok (.astore_n 3, 1) := by decide +kernel
theorem dL_law_20 : decode cL_law 20 = .ok (.iconst 0, 1) := by decide +kernel
theorem dL_law_21 : decode cL_law 21 = .ok (.istore 4, 2) := by decide +kernel
theorem dL_law_23 : decode cL_law 23 = .ok (.iload 4, 2) := by decide +kernel
theorem dL_law_25 : decode cL_law 25 = .ok (.aload_n 0, 1) := by decide +kernel
theorem dL_law_26 : decode cL_law 26 = .ok (.arraylength, 1) := by decide +kernel
theorem dL_law_27 : decode cL_law 27 = .ok (.bipush 7, 2) := by decide +kernel
theorem dL_law_29 : decode cL_law 29 = .ok (.isub, 1) := by decide +kernel
theorem dL_law_30 : decode cL_law 30 = .ok (.if_icmp .gt 1240, 3) := by decide +kernel
theorem dL_law_33 : decode cL_law 33 = .ok (.aload_n 0, 1) := by decide +kernel
theorem dL_law_34 : decode cL_law 34 = .ok (.iload 4, 2) := by decide +kernel
theorem dL_law_36 : decode cL_law 36 = .ok (.iaload, 1) := by decide +kernel
theorem dL_law_37 : decode cL_law 37 = .ok (.bipush 31, 2) := by decide +kernel
theorem dL_law_39 : decode cL_law 39 = .ok (.iand, 1) := by decide +kernel
theorem dL_law_40 : decode cL_law 40 = .ok (.tableswitch 1224 0 29 #[136, 283, 296, 333, 370, 395, 475, 512, 549, 562, 587, 624, 661, 710, 759, 808, 845, 858, 895, 909, 934, 983, 1008, 1021, 1034, 1059, 1096, 1133, 1146, 1199], 136) := by decide +kernel
theorem dL_law_176 : decode cL_law 176 = .ok (.aload_n 1, 1) := by decide +kernel
theorem dL_law_177 : decode cL_law 177 = .ok (.aload_n 0, 1) := by decide +kernel
theorem dL_law_178 : decode cL_law 178 = .ok (.iload 4, 2) := by decide +kernel
theorem dL_law_180 : decode cL_law 180 = .ok (.iconst 1, 1) := by decide +kernel
theorem dL_law_181 : decode cL_law 181 = .ok (.iadd, 1) := by decide +kernel
theorem dL_law_182 : decode cL_law 182 = .ok (.iaload, 1) := by decide +kernel
theorem dL_law_183 : decode cL_law 183 = .ok (.i2l, 1) := by decide +kernel
theorem dL_law_184 : decode cL_law 184 = .ok (.bipush 32, 2) := by decide +kernel
theorem dL_law_186 : decode cL_law 186 = .ok (.lshl, 1) := by decide +kernel
theorem dL_law_187 : decode cL_law 187 = .ok (.aload_n 0, 1) := by decide +kernel
theorem dL_law_188 : decode cL_law 188 = .ok (.iload 4, 2) := by decide +kernel
theorem dL_law_190 : decode cL_law 190 = .ok (.iconst 2, 1) := by decide +kernel
theorem dL_law_191 : decode cL_law 191 = .ok (.iadd, 1) := by decide +kernel
theorem dL_law_192 : decode cL_law 192 = .ok (.iaload, 1) := by decide +kernel
theorem dL_law_193 : decode cL_law 193 = .ok (.i2l, 1) := by decide +kernel
theorem dL_law_194 : decode cL_law 194 = .ok (.ldc2_w 19, 3) := by decide +kernel
theorem dL_law_197 : decode cL_law 197 = .ok (.land, 1) := by decide +kernel
theorem dL_law_198 : decode cL_law 198 = .ok (.lor, 1) := by decide +kernel
theorem dL_law_199 : decode cL_law 199 = .ok (.aload_n 0, 1) := by decide +kernel
theorem dL_law_200 : decode cL_law 200 = .ok (.iload 4, 2) := by decide +kernel
theorem dL_law_202 : decode cL_law 202 = .ok (.iconst 3, 1) := by decide +kernel
theorem dL_law_203 : decode cL_law 203 = .ok (.iadd, 1) := by decide +kernel
theorem dL_law_204 : decode cL_law 204 = .ok (.iaload, 1) := by decide +kernel
theorem dL_law_205 : decode cL_law 205 = .ok (.i2l, 1) := by decide +kernel
theorem dL_law_206 : decode cL_law 206 = .ok (.bipush 32, 2) := by decide +kernel
theorem dL_law_208 : decode cL_law 208 = .ok (.lshl, 1) := by decide +kernel
theorem dL_law_209 : decode cL_law 209 = .ok (.aload_n 0, 1) := by decide +kernel
theorem dL_law_210 : decode cL_law 210 = .ok (.iload 4, 2) := by decide +kernel
theorem dL_law_212 : decode cL_law 212 = .ok (.iconst 4, 1) := by decide +kernel
theorem dL_law_213 : decode cL_law 213 = .ok (.iadd, 1) := by decide +kernel
theorem dL_law_214 : decode cL_law 214 = .ok (.iaload, 1) := by decide +kernel
theorem dL_law_215 : decode cL_law 215 = .ok (.i2l, 1) := by decide +kernel
theorem dL_law_216 : decode cL_law 216 = .ok (.ldc2_w 19, 3) := by decide +kernel
theorem dL_law_219 : decode cL_law 219 = .ok (.land, 1) := by decide +kernel
theorem dL_law_220 : decode cL_law 220 = .ok (.lor, 1) := by decide +kernel
theorem dL_law_221 : decode cL_law 221 = .ok (.aload_n 0, 1) := by decide +kernel
theorem dL_law_222 : decode cL_law 222 = .ok (.iload 4, 2) := by decide +kernel
theorem dL_law_224 : decode cL_law 224 = .ok (.iconst 5, 1) := by decide +kernel
theorem dL_law_225 : decode cL_law 225 = .ok (.iadd, 1) := by decide +kernel
theorem dL_law_226 : decode cL_law 226 = .ok (.iaload, 1) := by decide +kernel
theorem dL_law_227 : decode cL_law 227 = .ok (.i2l, 1) := by decide +kernel
theorem dL_law_228 : decode cL_law 228 = .ok (.bipush 32, 2) := by decide +kernel
theorem dL_law_230 : decode cL_law 230 = .ok (.lshl, 1) := by decide +kernel
theorem dL_law_231 : decode cL_law 231 = .ok (.aload_n 0, 1) := by decide +kernel
theorem dL_law_232 : decode cL_law 232 = .ok (.iload 4, 2) := by decide +kernel
theorem dL_law_234 : decode cL_law 234 = .ok (.bipush 6, 2) := by decide +kernel
theorem dL_law_236 : decode cL_law 236 = .ok (.iadd, 1) := by decide +kernel
theorem dL_law_237 : decode cL_law 237 = .ok (.iaload, 1) := by decide +kernel
theorem dL_law_238 : decode cL_law 238 = .ok (.i2l, 1) := by decide +kernel
theorem dL_law_239 : decode cL_law 239 = .ok (.ldc2_w 19, 3) := by decide +kernel
theorem dL_law_242 : decode cL_law 242 = .ok (.land, 1) := by decide +kernel
theorem dL_law_243 : decode cL_law 243 = .ok (.lor, 1) := by decide +kernel
theorem dL_law_244 : decode cL_law 244 = .ok (.invokevirtual 21, 3) := by decide +kernel
theorem dL_law_247 : decode cL_law 247 = .ok (.aload_n 2, 1) := by decide +kernel
theorem dL_law_248 : decode cL_law 248 = .ok (.aload_n 0, 1) := by decide +kernel
theorem dL_law_249 : decode cL_law 249 = .ok (.iload 4, 2) := by decide +kernel
theorem dL_law_251 : decode cL_law 251 = .ok (.iconst 1, 1) := by decide +kernel
theorem dL_law_252 : decode cL_law 252 = .ok (.iadd, 1) := by decide +kernel
theorem dL_law_253 : decode cL_law 253 = .ok (.iaload, 1) := by decide +kernel
theorem dL_law_254 : decode cL_law 254 = .ok (.i2l, 1) := by decide +kernel
theorem dL_law_255 : decode cL_law 255 = .ok (.bipush 32, 2) := by decide +kernel
theorem dL_law_257 : decode cL_law 257 = .ok (.lshl, 1) := by decide +kernel
theorem dL_law_258 : decode cL_law 258 = .ok (.aload_n 0, 1) := by decide +kernel
theorem dL_law_259 : decode cL_law 259 = .ok (.iload 4, 2) := by decide +kernel
theorem dL_law_261 : decode cL_law 261 = .ok (.iconst 2, 1) := by decide +kernel
theorem dL_law_262 : decode cL_law 262 = .ok (.iadd, 1) := by decide +kernel
theorem dL_law_263 : decode cL_law 263 = .ok (.iaload, 1) := by decide +kernel
theorem dL_law_264 : decode cL_law 264 = .ok (.i2l, 1) := by decide +kernel
theorem dL_law_265 : decode cL_law 265 = .ok (.ldc2_w 19, 3) := by decide +kernel
theorem dL_law_268 : decode cL_law 268 = .ok (.land, 1) := by decide +kernel
theorem dL_law_269 : decode cL_law 269 = .ok (.lor, 1) := by decide +kernel
theorem dL_law_270 : decode cL_law 270 = .ok (.aload_n 0, 1) := by decide +kernel
theorem dL_law_271 : decode cL_law 271 = .ok (.iload 4, 2) := by decide +kernel
theorem dL_law_273 : decode cL_law 273 = .ok (.iconst 3, 1) := by decide +kernel
theorem dL_law_274 : decode cL_law 274 = .ok (.iadd, 1) := by decide +kernel
theorem dL_law_275 : decode cL_law 275 = .ok (.iaload, 1) := by decide +kernel
theorem dL_law_276 : decode cL_law 276 = .ok (.i2l, 1) := by decide +kernel
theorem dL_law_277 : decode cL_law 277 = .ok (.bipush 32, 2) := by decide +kernel
theorem dL_law_279 : decode cL_law 279 = .ok (.lshl, 1) := by decide +kernel
theorem dL_law_280 : decode cL_law 280 = .ok (.aload_n 0, 1) := by decide +kernel
theorem dL_law_281 : decode cL_law 281 = .ok (.iload 4, 2) := by decide +kernel
theorem dL_law_283 : decode cL_law 283 = .ok (.iconst 4, 1) := by decide +kernel
theorem dL_law_284 : decode cL_law 284 = .ok (.iadd, 1) := by decide +kernel
theorem dL_law_285 : decode cL_law 285 = .ok (.iaload, 1) := by decide +kernel
theorem dL_law_286 : decode cL_law 286 = .ok (.i2l, 1) := by decide +kernel
theorem dL_law_287 : decode cL_law 287 = .ok (.ldc2_w 19, 3) := by decide +kernel
theorem dL_law_290 : decode cL_law 290 = .ok (.land, 1) := by decide +kernel
theorem dL_law_291 : decode cL_law 291 = .ok (.lor, 1) := by decide +kernel
theorem dL_law_292 : decode cL_law 292 = .ok (.aload_n 0, 1) := by decide +kernel
theorem dL_law_293 : decode cL_law 293 = .ok (.iload 4, 2) := by decide +kernel
theorem dL_law_295 : decode cL_law 295 = .ok (.iconst 5, 1) := by decide +kernel
theorem dL_law_296 : decode cL_law 296 = .ok (.iadd, 1) := by decide +kernel
theorem dL_law_297 : decode cL_law 297 = .ok (.iaload, 1) := by decide +kernel
theorem dL_law_298 : decode cL_law 298 = .ok (.i2l, 1) := by decide +kernel
theorem dL_law_299 : decode cL_law 299 = .ok (.bipush 32, 2) := by decide +kernel
theorem dL_law_301 : decode cL_law 301 = .ok (.lshl, 1) := by decide +kernel
theorem dL_law_302 : decode cL_law 302 = .ok (.aload_n 0, 1) := by decide +kernel
theorem dL_law_303 : decode cL_law 303 = .ok (.iload 4, 2) := by decide +kernel
theorem dL_law_305 : decode cL_law 305 = .ok (.bipush 6, 2) := by decide +kernel
theorem dL_law_307 : decode cL_law 307 = .ok (.iadd, 1) := by decide +kernel
theorem dL_law_308 : decode cL_law 308 = .ok (.iaload, 1) := by decide +kernel
theorem dL_law_309 : decode cL_law 309 = .ok (.i2l, 1) := by decide +kernel
theorem dL_law_310 : decode cL_law 310 = .ok (.ldc2_w 19, 3) := by decide +kernel
theorem dL_law_313 : decode cL_law 313 = .ok (.land, 1) := by decide +kernel
theorem dL_law_314 : decode cL_law 314 = .ok (.lor, 1) := by decide +kernel
theorem dL_law_315 : decode cL_law 315 = .ok (.invokevirtual 25, 3) := by decide +kernel
theorem dL_law_318 : decode cL_law 318 = .ok (.if_icmp .eq 946, 3) := by decide +kernel
theorem dL_law_321 : decode cL_law 321 = .ok (.iconst 0, 1) := by decide +kernel
theorem dL_law_322 : decode cL_law 322 = .ok (.ireturn, 1) := by decide +kernel
theorem dL_law_323 : decode cL_law 323 = .ok (.aload_n 1, 1) := by decide +kernel
theorem dL_law_324 : decode cL_law 324 = .ok (.invokevirtual 26, 3) := by decide +kernel
theorem dL_law_327 : decode cL_law 327 = .ok (.aload_n 2, 1) := by decide +kernel
theorem dL_law_328 : decode cL_law 328 = .ok (.invokevirtual 30, 3) := by decide +kernel
theorem dL_law_331 : decode cL_law 331 = .ok (.if_icmp .eq 933, 3) := by decide +kernel
theorem dL_law_334 : decode cL_law 334 = .ok (.iconst 0, 1) := by decide +kernel
theorem dL_law_335 : decode cL_law 335 = .ok (.ireturn, 1) := by decide +kernel
theorem dL_law_336 : decode cL_law 336 = .ok (.aload_n 1, 1) := by decide +kernel
theorem dL_law_337 : decode cL_law 337 = .ok (.aload_n 0, 1) := by decide +kernel
theorem dL_law_338 : decode cL_law 338 = .ok (.iload 4, 2) := by decide +kernel
theorem dL_law_340 : decode cL_law 340 = .ok (.iconst 1, 1) := by decide +kernel
theorem dL_law_341 : decode cL_law 341 = .ok (.iadd, 1) := by decide +kernel
theorem dL_law_342 : decode cL_law 342 = .ok (.iaload, 1) := by decide +kernel
theorem dL_law_343 : decode cL_law 343 = .ok (.aload_n 0, 1) := by decide +kernel
theorem dL_law_344 : decode cL_law 344 = .ok (.iload 4, 2) := by decide +kernel
theorem dL_law_346 : decode cL_law 346 = .ok (.iconst 2, 1) := by decide +kernel
theorem dL_law_347 : decode cL_law 347 = .ok (.iadd, 1) := by decide +kernel
theorem dL_law_348 : decode cL_law 348 = .ok (.iaload, 1) := by decide +kernel
theorem dL_law_349 : decode cL_law 349 = .ok (.invokevirtual 31, 3) := by decide +kernel
theorem dL_law_352 : decode cL_law 352 = .ok (.aload_n 2, 1) := by decide +kernel
theorem dL_law_353 : decode cL_law 353 = .ok (.aload_n 0, 1) := by decide +kernel
theorem dL_law_354 : decode cL_law 354 = .ok (.iload 4, 2) := by decide +kernel
theorem dL_law_356 : decode cL_law 356 = .ok (.iconst 1, 1) := by decide +kernel
theorem dL_law_357 : decode cL_law 357 = .ok (.iadd, 1) := by decide +kernel
theorem dL_law_358 : decode cL_law 358 = .ok (.iaload, 1) := by decide +kernel
theorem dL_law_359 : decode cL_law 359 = .ok (.aload_n 0, 1) := by decide +kernel
theorem dL_law_360 : decode cL_law 360 = .ok (.iload 4, 2) := by decide +kernel
theorem dL_law_362 : decode cL_law 362 = .ok (.iconst 2, 1) := by decide +kernel
theorem dL_law_363 : decode cL_law 363 = .ok (.iadd, 1) := by decide +kernel
theorem dL_law_364 : decode cL_law 364 = .ok (.iaload, 1) := by decide +kernel
theorem dL_law_365 : decode cL_law 365 = .ok (.invokevirtual 35, 3) := by decide +kernel
theorem dL_law_368 : decode cL_law 368 = .ok (.if_icmp .eq 896, 3) := by decide +kernel
theorem dL_law_371 : decode cL_law 371 = .ok (.iconst 0, 1) := by decide +kernel
theorem dL_law_372 : decode cL_law 372 = .ok (.ireturn, 1) := by decide +kernel
theorem dL_law_373 : decode cL_law 373 = .ok (.aload_n 1, 1) := by decide +kernel
theorem dL_law_374 : decode cL_law 374 = .ok (.aload_n 0, 1) := by decide +kernel
theorem dL_law_375 : decode cL_law 375 = .ok (.iload 4, 2) := by decide +kernel
theorem dL_law_377 : decode cL_law 377 = .ok (.iconst 1, 1) := by decide +kernel
theorem dL_law_378 : decode cL_law 378 = .ok (.iadd, 1) := by decide +kernel
theorem dL_law_379 : decode cL_law 379 = .ok (.iaload, 1) := by decide +kernel
theorem dL_law_380 : decode cL_law 380 = .ok (.aload_n 0, 1) := by decide +kernel
theorem dL_law_381 : decode cL_law 381 = .ok (.iload 4, 2) := by decide +kernel
theorem dL_law_383 : decode cL_law 383 = .ok (.iconst 2, 1) := by decide +kernel
theorem dL_law_384 : decode cL_law 384 = .ok (.iadd, 1) := by decide +kernel
theorem dL_law_385 : decode cL_law 385 = .ok (.iaload, 1) := by decide +kernel
theorem dL_law_386 : decode cL_law 386 = .ok (.invokevirtual 36, 3) := by decide +kernel
theorem dL_law_389 : decode cL_law 389 = .ok (.aload_n 2, 1) := by decide +kernel
theorem dL_law_390 : decode cL_law 390 = .ok (.aload_n 0, 1) := by decide +kernel
theorem dL_law_391 : decode cL_law 391 = .ok (.iload 4, 2) := by decide +kernel
theorem dL_law_393 : decode cL_law 393 = .ok (.iconst 1, 1) := by decide +kernel
theorem dL_law_394 : decode cL_law 394 = .ok (.iadd, 1) := by decide +kernel
theorem dL_law_395 : decode cL_law 395 = .ok (.iaload, 1) := by decide +kernel
theorem dL_law_396 : decode cL_law 396 = .ok (.aload_n 0, 1) := by decide +kernel
theorem dL_law_397 : decode cL_law 397 = .ok (.iload 4, 2) := by decide +kernel
theorem dL_law_399 : decode cL_law 399 = .ok (.iconst 2, 1) := by decide +kernel
theorem dL_law_400 : decode cL_law 400 = .ok (.iadd, 1) := by decide +kernel
theorem dL_law_401 : decode cL_law 401 = .ok (.iaload, 1) := by decide +kernel
theorem dL_law_402 : decode cL_law 402 = .ok (.invokevirtual 39, 3) := by decide +kernel
theorem dL_law_405 : decode cL_law 405 = .ok (.if_icmp .eq 859, 3) := by decide +kernel
theorem dL_law_408 : decode cL_law 408 = .ok (.iconst 0, 1) := by decide +kernel
theorem dL_law_409 : decode cL_law 409 = .ok (.ireturn, 1) := by decide +kernel
theorem dL_law_410 : decode cL_law 410 = .ok (.aload_n 1, 1) := by decide +kernel
theorem dL_law_411 : decode cL_law 411 = .ok (.aload_n 0, 1) := by decide +kernel
theorem dL_law_412 : decode cL_law 412 = .ok (.iload 4, 2) := by decide +kernel
theorem dL_law_414 : decode cL_law 414 = .ok (.iconst 1, 1) := by decide +kernel
theorem dL_law_415 : decode cL_law 415 = .ok (.iadd, 1) := by decide +kernel
theorem dL_law_416 : decode cL_law 416 = .ok (.iaload, 1) := by decide +kernel
theorem dL_law_417 : decode cL_law 417 = .ok (.invokevirtual 40, 3) := by decide +kernel
theorem dL_law_420 : decode cL_law 420 = .ok (.aload_n 2, 1) := by decide +kernel
theorem dL_law_421 : decode cL_law 421 = .ok (.aload_n 0, 1) := by decide +kernel
theorem dL_law_422 : decode cL_law 422 = .ok (.iload 4, 2) := by decide +kernel
theorem dL_law_424 : decode cL_law 424 = .ok (.iconst 1, 1) := by decide +kernel
theorem dL_law_425 : decode cL_law 425 = .ok (.iadd, 1) := by decide +kernel
theorem dL_law_426 : decode cL_law 426 = .ok (.iaload, 1) := by decide +kernel
theorem dL_law_427 : decode cL_law 427 = .ok (.invokevirtual 44, 3) := by decide +kernel
theorem dL_law_430 : decode cL_law 430 = .ok (.if_icmp .eq 834, 3) := by decide +kernel
theorem dL_law_433 : decode cL_law 433 = .ok (.iconst 0, 1) := by decide +kernel
theorem dL_law_434 : decode cL_law 434 = .ok (.ireturn, 1) := by decide +kernel
theorem dL_law_435 : decode cL_law 435 = .ok (.aload_n 1, 1) := by decide +kernel
theorem dL_law_436 : decode cL_law 436 = .ok (.aload_n 0, 1) := by decide +kernel
theorem dL_law_437 : decode cL_law 437 = .ok (.iload 4, 2) := by decide +kernel
theorem dL_law_439 : decode cL_law 439 = .ok (.iconst 1, 1) := by decide +kernel
theorem dL_law_440 : decode cL_law 440 = .ok (.iadd, 1) := by decide +kernel
theorem dL_law_441 : decode cL_law 441 = .ok (.iaload, 1) := by decide +kernel
theorem dL_law_442 : decode cL_law 442 = .ok (.aload_n 0, 1) := by decide +kernel
theorem dL_law_443 : decode cL_law 443 = .ok (.iload 4, 2) := by decide +kernel
theorem dL_law_445 : decode cL_law 445 = .ok (.iconst 2, 1) := by decide +kernel
theorem dL_law_446 : decode cL_law 446 = .ok (.iadd, 1) := by decide +kernel
theorem dL_law_447 : decode cL_law 447 = .ok (.iaload, 1) := by decide +kernel
theorem dL_law_448 : decode cL_law 448 = .ok (.aload_n 0, 1) := by decide +kernel
theorem dL_law_449 : decode cL_law 449 = .ok (.iload 4, 2) := by decide +kernel
theorem dL_law_451 : decode cL_law 451 = .ok (.iconst 3, 1) := by decide +kernel
theorem dL_law_452 : decode cL_law 452 = .ok (.iadd, 1) := by decide +kernel
theorem dL_law_453 : decode cL_law 453 = .ok (.iaload, 1) := by decide +kernel
theorem dL_law_454 : decode cL_law 454 = .ok (.aload_n 3, 1) := by decide +kernel
theorem dL_law_455 : decode cL_law 455 = .ok (.invokestatic 45, 3) := by decide +kernel
theorem dL_law_458 : decode cL_law 458 = .ok (.istore 5, 2) := by decide +kernel
theorem dL_law_460 : decode cL_law 460 = .ok (.aload_n 2, 1) := by decide +kernel
theorem dL_law_461 : decode cL_law 461 = .ok (.aload_n 0, 1) := by decide +kernel
theorem dL_law_462 : decode cL_law 462 = .ok (.iload 4, 2) := by decide +kernel
theorem dL_law_464 : decode cL_law 464 = .ok (.iconst 1, 1) := by decide +kernel
theorem dL_law_465 : decode cL_law 465 = .ok (.iadd, 1) := by decide +kernel
theorem dL_law_466 : decode cL_law 466 = .ok (.iaload, 1) := by decide +kernel
theorem dL_law_467 : decode cL_law 467 = .ok (.aload_n 0, 1) := by decide +kernel
theorem dL_law_468 : decode cL_law 468 = .ok (.iload 4, 2) := by decide +kernel
theorem dL_law_470 : decode cL_law 470 = .ok (.iconst 2, 1) := by decide +kernel
theorem dL_law_471 : decode cL_law 471 = .ok (.iadd, 1) := by decide +kernel
theorem dL_law_472 : decode cL_law 472 = .ok (.iaload, 1) := by decide +kernel
theorem dL_law_473 : decode cL_law 473 = .ok (.aload_n 0, 1) := by decide +kernel
theorem dL_law_474 : decode cL_law 474 = .ok (.iload 4, 2) := by decide +kernel
theorem dL_law_476 : decode cL_law 476 = .ok (.iconst 3, 1) := by decide +kernel
theorem dL_law_477 : decode cL_law 477 = .ok (.iadd, 1) := by decide +kernel
theorem dL_law_478 : decode cL_law 478 = .ok (.iaload, 1) := by decide +kernel
theorem dL_law_479 : decode cL_law 479 = .ok (.invokevirtual 50, 3) := by decide +kernel
theorem dL_law_482 : decode cL_law 482 = .ok (.istore 6, 2) := by decide +kernel
theorem dL_law_484 : decode cL_law 484 = .ok (.aload_n 2, 1) := by decide +kernel
theorem dL_law_485 : decode cL_law 485 = .ok (.invokevirtual 51, 3) := by decide +kernel
theorem dL_law_488 : decode cL_law 488 = .ok (.iload 5, 2) := by decide +kernel
theorem dL_law_490 : decode cL_law 490 = .ok (.if_icmp .eq 5, 3) := by decide +kernel
theorem dL_law_493 : decode cL_law 493 = .ok (.iconst 0, 1) := by decide +kernel
theorem dL_law_494 : decode cL_law 494 = .ok (.ireturn, 1) := by decide +kernel
theorem dL_law_495 : decode cL_law 495 = .ok (.iload 5, 2) := by decide +kernel
theorem dL_law_497 : decode cL_law 497 = .ok (.ifCond .ne 15, 3) := by decide +kernel
theorem dL_law_500 : decode cL_law 500 = .ok (.aload_n 3, 1) := by decide +kernel
theorem dL_law_501 : decode cL_law 501 = .ok (.iconst 0, 1) := by decide +kernel
theorem dL_law_502 : decode cL_law 502 = .ok (.laload, 1) := by decide +kernel
theorem dL_law_503 : decode cL_law 503 = .ok (.iload 6, 2) := by decide +kernel
theorem dL_law_505 : decode cL_law 505 = .ok (.i2l, 1) := by decide +kernel
theorem dL_law_506 : decode cL_law 506 = .ok (.lcmp, 1) := by decide +kernel
theorem dL_law_507 : decode cL_law 507 = .ok (.ifCond .eq 5, 3) := by decide +kernel
theorem dL_law_510 : decode cL_law 510 = .ok (.iconst 0, 1) := by decide +kernel
theorem dL_law_511 : decode cL_law 511 = .ok (.ireturn, 1) := by decide +kernel
theorem dL_law_512 : decode cL_law 512 = .ok (.goto 752, 3) := by decide +kernel
theorem dL_law_515 : decode cL_law 515 = .ok (.aload_n 1, 1) := by decide +kernel
theorem dL_law_516 : decode cL_law 516 = .ok (.aload_n 0, 1) := by decide +kernel
theorem dL_law_517 : decode cL_law 517 = .ok (.iload 4, 2) := by decide +kernel
theorem dL_law_519 : decode cL_law 519 = .ok (.iconst 1, 1) := by decide +kernel
theorem dL_law_520 : decode cL_law 520 = .ok (.iadd, 1) := by decide +kernel
theorem dL_law_521 : decode cL_law 521 = .ok (.iaload, 1) := by decide +kernel
theorem dL_law_522 : decode cL_law 522 = .ok (.aload_n 0, 1) := by decide +kernel
theorem dL_law_523 : decode cL_law 523 = .ok (.iload 4, 2) := by decide +kernel
theorem dL_law_525 : decode cL_law 525 = .ok (.iconst 2, 1) := by decide +kernel
theorem dL_law_526 : decode cL_law 526 = .ok (.iadd, 1) := by decide +kernel
theorem dL_law_527 : decode cL_law 527 = .ok (.iaload, 1) := by decide +kernel
theorem dL_law_528 : decode cL_law 528 = .ok (.invokevirtual 54, 3) := by decide +kernel
theorem dL_law_531 : decode cL_law 531 = .ok (.aload_n 2, 1) := by decide +kernel
theorem dL_law_532 : decode cL_law 532 = .ok (.aload_n 0, 1) := by decide +kernel
theorem dL_law_533 : decode cL_law 533 = .ok (.iload 4, 2) := by decide +kernel
theorem dL_law_535 : decode cL_law 535 = .ok (.iconst 1, 1) := by decide +kernel
theorem dL_law_536 : decode cL_law 536 = .ok (.iadd, 1) := by decide +kernel
theorem dL_law_537 : decode cL_law 537 = .ok (.iaload, 1) := by decide +kernel
theorem dL_law_538 : decode cL_law 538 = .ok (.aload_n 0, 1) := by decide +kernel
theorem dL_law_539 : decode cL_law 539 = .ok (.iload 4, 2) := by decide +kernel
theorem dL_law_541 : decode cL_law 541 = .ok (.iconst 2, 1) := by decide +kernel
theorem dL_law_542 : decode cL_law 542 = .ok (.iadd, 1) := by decide +kernel
theorem dL_law_543 : decode cL_law 543 = .ok (.iaload, 1) := by decide +kernel
theorem dL_law_544 : decode cL_law 544 = .ok (.invokevirtual 57, 3) := by decide +kernel
theorem dL_law_547 : decode cL_law 547 = .ok (.if_icmp .eq 717, 3) := by decide +kernel
theorem dL_law_550 : decode cL_law 550 = .ok (.iconst 0, 1) := by decide +kernel
theorem dL_law_551 : decode cL_law 551 = .ok (.ireturn, 1) := by decide +kernel
theorem dL_law_552 : decode cL_law 552 = .ok (.aload_n 1, 1) := by decide +kernel
theorem dL_law_553 : decode cL_law 553 = .ok (.aload_n 0, 1) := by decide +kernel
theorem dL_law_554 : decode cL_law 554 = .ok (.iload 4, 2) := by decide +kernel
theorem dL_law_556 : decode cL_law 556 = .ok (.iconst 1, 1) := by decide +kernel
theorem dL_law_557 : decode cL_law 557 = .ok (.iadd, 1) := by decide +kernel
theorem dL_law_558 : decode cL_law 558 = .ok (.iaload, 1) := by decide +kernel
theorem dL_law_559 : decode cL_law 559 = .ok (.aload_n 0, 1) := by decide +kernel
theorem dL_law_560 : decode cL_law 560 = .ok (.iload 4, 2) := by decide +kernel
theorem dL_law_562 : decode cL_law 562 = .ok (.iconst 2, 1) := by decide +kernel
theorem dL_law_563 : decode cL_law 563 = .ok (.iadd, 1) := by decide +kernel
theorem dL_law_564 : decode cL_law 564 = .ok (.iaload, 1) := by decide +kernel
theorem dL_law_565 : decode cL_law 565 = .ok (.invokevirtual 58, 3) := by decide +kernel
theorem dL_law_568 : decode cL_law 568 = .ok (.aload_n 2, 1) := by decide +kernel
theorem dL_law_569 : decode cL_law 569 = .ok (.aload_n 0, 1) := by decide +kernel
theorem dL_law_570 : decode cL_law 570 = .ok (.iload 4, 2) := by decide +kernel
theorem dL_law_572 : decode cL_law 572 = .ok (.iconst 1, 1) := by decide +kernel
theorem dL_law_573 : decode cL_law 573 = .ok (.iadd, 1) := by decide +kernel
theorem dL_law_574 : decode cL_law 574 = .ok (.iaload, 1) := by decide +kernel
theorem dL_law_575 : decode cL_law 575 = .ok (.aload_n 0, 1) := by decide +kernel
theorem dL_law_576 : decode cL_law 576 = .ok (.iload 4, 2) := by decide +kernel
theorem dL_law_578 : decode cL_law 578 = .ok (.iconst 2, 1) := by decide +kernel
theorem dL_law_579 : decode cL_law 579 = .ok (.iadd, 1) := by decide +kernel
theorem dL_law_580 : decode cL_law 580 = .ok (.iaload, 1) := by decide +kernel
theorem dL_law_581 : decode cL_law 581 = .ok (.invokevirtual 61, 3) := by decide +kernel
theorem dL_law_584 : decode cL_law 584 = .ok (.if_icmp .eq 680, 3) := by decide +kernel
theorem dL_law_587 : decode cL_law 587 = .ok (.iconst 0, 1) := by decide +kernel
theorem dL_law_588 : decode cL_law 588 = .ok (.ireturn, 1) := by decide +kernel
theorem dL_law_589 : decode cL_law 589 = .ok (.aload_n 1, 1) := by decide +kernel
theorem dL_law_590 : decode cL_law 590 = .ok (.invokevirtual 62, 3) := by decide +kernel
theorem dL_law_593 : decode cL_law 593 = .ok (.aload_n 2, 1) := by decide +kernel
theorem dL_law_594 : decode cL_law 594 = .ok (.invokevirtual 65, 3) := by decide +kernel
theorem dL_law_597 : decode cL_law 597 = .ok (.if_icmp .eq 667, 3) := by decide +kernel
theorem dL_law_600 : decode cL_law 600 = .ok (.iconst 0, 1) := by decide +kernel
theorem dL_law_601 : decode cL_law 601 = .ok (.ireturn, 1) := by decide +kernel
theorem dL_law_602 : decode cL_law 602 = .ok (.aload_n 1, 1) := by decide +kernel
theorem dL_law_603 : decode cL_law 603 = .ok (.aload_n 0, 1) := by decide +kernel
theorem dL_law_604 : decode cL_law 604 = .ok (.iload 4, 2) := by decide +kernel
theorem dL_law_606 : decode cL_law 606 = .ok (.iconst 1, 1) := by decide +kernel
theorem dL_law_607 : decode cL_law 607 = .ok (.iadd, 1) := by decide +kernel
theorem dL_law_608 : decode cL_law 608 = .ok (.iaload, 1) := by decide +kernel
theorem dL_law_609 : decode cL_law 609 = .ok (.invokevirtual 66, 3) := by decide +kernel
theorem dL_law_612 : decode cL_law 612 = .ok (.aload_n 2, 1) := by decide +kernel
theorem dL_law_613 : decode cL_law 613 = .ok (.aload_n 0, 1) := by decide +kernel
theorem dL_law_614 : decode cL_law 614 = .ok (.iload 4, 2) := by decide +kernel
theorem dL_law_616 : decode cL_law 616 = .ok (.iconst 1, 1) := by decide +kernel
theorem dL_law_617 : decode cL_law 617 = .ok (.iadd, 1) := by decide +kernel
theorem dL_law_618 : decode cL_law 618 = .ok (.iaload, 1) := by decide +kernel
theorem dL_law_619 : decode cL_law 619 = .ok (.invokevirtual 70, 3) := by decide +kernel
theorem dL_law_622 : decode cL_law 622 = .ok (.if_icmp .eq 642, 3) := by decide +kernel
theorem dL_law_625 : decode cL_law 625 = .ok (.iconst 0, 1) := by decide +kernel
theorem dL_law_626 : decode cL_law 626 = .ok (.ireturn, 1) := by decide +kernel
theorem dL_law_627 : decode cL_law 627 = .ok (.aload_n 1, 1) := by decide +kernel
theorem dL_law_628 : decode cL_law 628 = .ok (.aload_n 0, 1) := by decide +kernel
theorem dL_law_629 : decode cL_law 629 = .ok (.iload 4, 2) := by decide +kernel
theorem dL_law_631 : decode cL_law 631 = .ok (.iconst 1, 1) := by decide +kernel
theorem dL_law_632 : decode cL_law 632 = .ok (.iadd, 1) := by decide +kernel
theorem dL_law_633 : decode cL_law 633 = .ok (.iaload, 1) := by decide +kernel
theorem dL_law_634 : decode cL_law 634 = .ok (.aload_n 0, 1) := by decide +kernel
theorem dL_law_635 : decode cL_law 635 = .ok (.iload 4, 2) := by decide +kernel
theorem dL_law_637 : decode cL_law 637 = .ok (.iconst 2, 1) := by decide +kernel
theorem dL_law_638 : decode cL_law 638 = .ok (.iadd, 1) := by decide +kernel
theorem dL_law_639 : decode cL_law 639 = .ok (.iaload, 1) := by decide +kernel
theorem dL_law_640 : decode cL_law 640 = .ok (.invokevirtual 71, 3) := by decide +kernel
theorem dL_law_643 : decode cL_law 643 = .ok (.aload_n 2, 1) := by decide +kernel
theorem dL_law_644 : decode cL_law 644 = .ok (.aload_n 0, 1) := by decide +kernel
theorem dL_law_645 : decode cL_law 645 = .ok (.iload 4, 2) := by decide +kernel
theorem dL_law_647 : decode cL_law 647 = .ok (.iconst 1, 1) := by decide +kernel
theorem dL_law_648 : decode cL_law 648 = .ok (.iadd, 1) := by decide +kernel
theorem dL_law_649 : decode cL_law 649 = .ok (.iaload, 1) := by decide +kernel
theorem dL_law_650 : decode cL_law 650 = .ok (.aload_n 0, 1) := by decide +kernel
theorem dL_law_651 : decode cL_law 651 = .ok (.iload 4, 2) := by decide +kernel
theorem dL_law_653 : decode cL_law 653 = .ok (.iconst 2, 1) := by decide +kernel
theorem dL_law_654 : decode cL_law 654 = .ok (.iadd, 1) := by decide +kernel
theorem dL_law_655 : decode cL_law 655 = .ok (.iaload, 1) := by decide +kernel
theorem dL_law_656 : decode cL_law 656 = .ok (.invokevirtual 74, 3) := by decide +kernel
theorem dL_law_659 : decode cL_law 659 = .ok (.if_icmp .eq 605, 3) := by decide +kernel
theorem dL_law_662 : decode cL_law 662 = .ok (.iconst 0, 1) := by decide +kernel
theorem dL_law_663 : decode cL_law 663 = .ok (.ireturn, 1) := by decide +kernel
theorem dL_law_664 : decode cL_law 664 = .ok (.aload_n 1, 1) := by decide +kernel
theorem dL_law_665 : decode cL_law 665 = .ok (.aload_n 0, 1) := by decide +kernel
theorem dL_law_666 : decode cL_law 666 = .ok (.iload 4, 2) := by decide +kernel
theorem dL_law_668 : decode cL_law 668 = .ok (.iconst 1, 1) := by decide +kernel
theorem dL_law_669 : decode cL_law 669 = .ok (.iadd, 1) := by decide +kernel
theorem dL_law_670 : decode cL_law 670 = .ok (.iaload, 1) := by decide +kernel
theorem dL_law_671 : decode cL_law 671 = .ok (.aload_n 0, 1) := by decide +kernel
theorem dL_law_672 : decode cL_law 672 = .ok (.iload 4, 2) := by decide +kernel
theorem dL_law_674 : decode cL_law 674 = .ok (.iconst 2, 1) := by decide +kernel
theorem dL_law_675 : decode cL_law 675 = .ok (.iadd, 1) := by decide +kernel
theorem dL_law_676 : decode cL_law 676 = .ok (.iaload, 1) := by decide +kernel
theorem dL_law_677 : decode cL_law 677 = .ok (.invokevirtual 75, 3) := by decide +kernel
theorem dL_law_680 : decode cL_law 680 = .ok (.aload_n 2, 1) := by decide +kernel
theorem dL_law_681 : decode cL_law 681 = .ok (.aload_n 0, 1) := by decide +kernel
theorem dL_law_682 : decode cL_law 682 = .ok (.iload 4, 2) := by decide +kernel
theorem dL_law_684 : decode cL_law 684 = .ok (.iconst 1, 1) := by decide +kernel
theorem dL_law_685 : decode cL_law 685 = .ok (.iadd, 1) := by decide +kernel
theorem dL_law_686 : decode cL_law 686 = .ok (.iaload, 1) := by decide +kernel
theorem dL_law_687 : decode cL_law 687 = .ok (.aload_n 0, 1) := by decide +kernel
theorem dL_law_688 : decode cL_law 688 = .ok (.iload 4, 2) := by decide +kernel
theorem dL_law_690 : decode cL_law 690 = .ok (.iconst 2, 1) := by decide +kernel
theorem dL_law_691 : decode cL_law 691 = .ok (.iadd, 1) := by decide +kernel
theorem dL_law_692 : decode cL_law 692 = .ok (.iaload, 1) := by decide +kernel
theorem dL_law_693 : decode cL_law 693 = .ok (.invokevirtual 78, 3) := by decide +kernel
theorem dL_law_696 : decode cL_law 696 = .ok (.if_icmp .eq 568, 3) := by decide +kernel
theorem dL_law_699 : decode cL_law 699 = .ok (.iconst 0, 1) := by decide +kernel
theorem dL_law_700 : decode cL_law 700 = .ok (.ireturn, 1) := by decide +kernel
theorem dL_law_701 : decode cL_law 701 = .ok (.aload_n 1, 1) := by decide +kernel
theorem dL_law_702 : decode cL_law 702 = .ok (.aload_n 0, 1) := by decide +kernel
theorem dL_law_703 : decode cL_law 703 = .ok (.iload 4, 2) := by decide +kernel
theorem dL_law_705 : decode cL_law 705 = .ok (.iconst 1, 1) := by decide +kernel
theorem dL_law_706 : decode cL_law 706 = .ok (.iadd, 1) := by decide +kernel
theorem dL_law_707 : decode cL_law 707 = .ok (.iaload, 1) := by decide +kernel
theorem dL_law_708 : decode cL_law 708 = .ok (.aload_n 0, 1) := by decide +kernel
theorem dL_law_709 : decode cL_law 709 = .ok (.iload 4, 2) := by decide +kernel
theorem dL_law_711 : decode cL_law 711 = .ok (.iconst 2, 1) := by decide +kernel
theorem dL_law_712 : decode cL_law 712 = .ok (.iadd, 1) := by decide +kernel
theorem dL_law_713 : decode cL_law 713 = .ok (.iaload, 1) := by decide +kernel
theorem dL_law_714 : decode cL_law 714 = .ok (.aload_n 0, 1) := by decide +kernel
theorem dL_law_715 : decode cL_law 715 = .ok (.iload 4, 2) := by decide +kernel
theorem dL_law_717 : decode cL_law 717 = .ok (.iconst 3, 1) := by decide +kernel
theorem dL_law_718 : decode cL_law 718 = .ok (.iadd, 1) := by decide +kernel
theorem dL_law_719 : decode cL_law 719 = .ok (.iaload, 1) := by decide +kernel
theorem dL_law_720 : decode cL_law 720 = .ok (.invokevirtual 79, 3) := by decide +kernel
theorem dL_law_723 : decode cL_law 723 = .ok (.aload_n 2, 1) := by decide +kernel
theorem dL_law_724 : decode cL_law 724 = .ok (.aload_n 0, 1) := by decide +kernel
theorem dL_law_725 : decode cL_law 725 = .ok (.iload 4, 2) := by decide +kernel
theorem dL_law_727 : decode cL_law 727 = .ok (.iconst 1, 1) := by decide +kernel
theorem dL_law_728 : decode cL_law 728 = .ok (.iadd, 1) := by decide +kernel
theorem dL_law_729 : decode cL_law 729 = .ok (.iaload, 1) := by decide +kernel
theorem dL_law_730 : decode cL_law 730 = .ok (.aload_n 0, 1) := by decide +kernel
theorem dL_law_731 : decode cL_law 731 = .ok (.iload 4, 2) := by decide +kernel
theorem dL_law_733 : decode cL_law 733 = .ok (.iconst 2, 1) := by decide +kernel
theorem dL_law_734 : decode cL_law 734 = .ok (.iadd, 1) := by decide +kernel
theorem dL_law_735 : decode cL_law 735 = .ok (.iaload, 1) := by decide +kernel
theorem dL_law_736 : decode cL_law 736 = .ok (.aload_n 0, 1) := by decide +kernel
theorem dL_law_737 : decode cL_law 737 = .ok (.iload 4, 2) := by decide +kernel
theorem dL_law_739 : decode cL_law 739 = .ok (.iconst 3, 1) := by decide +kernel
theorem dL_law_740 : decode cL_law 740 = .ok (.iadd, 1) := by decide +kernel
theorem dL_law_741 : decode cL_law 741 = .ok (.iaload, 1) := by decide +kernel
theorem dL_law_742 : decode cL_law 742 = .ok (.invokevirtual 82, 3) := by decide +kernel
theorem dL_law_745 : decode cL_law 745 = .ok (.if_icmp .eq 519, 3) := by decide +kernel
theorem dL_law_748 : decode cL_law 748 = .ok (.iconst 0, 1) := by decide +kernel
theorem dL_law_749 : decode cL_law 749 = .ok (.ireturn, 1) := by decide +kernel
theorem dL_law_750 : decode cL_law 750 = .ok (.aload_n 1, 1) := by decide +kernel
theorem dL_law_751 : decode cL_law 751 = .ok (.aload_n 0, 1) := by decide +kernel
theorem dL_law_752 : decode cL_law 752 = .ok (.iload 4, 2) := by decide +kernel
theorem dL_law_754 : decode cL_law 754 = .ok (.iconst 1, 1) := by decide +kernel
theorem dL_law_755 : decode cL_law 755 = .ok (.iadd, 1) := by decide +kernel
theorem dL_law_756 : decode cL_law 756 = .ok (.iaload, 1) := by decide +kernel
theorem dL_law_757 : decode cL_law 757 = .ok (.aload_n 0, 1) := by decide +kernel
theorem dL_law_758 : decode cL_law 758 = .ok (.iload 4, 2) := by decide +kernel
theorem dL_law_760 : decode cL_law 760 = .ok (.iconst 2, 1) := by decide +kernel
theorem dL_law_761 : decode cL_law 761 = .ok (.iadd, 1) := by decide +kernel
theorem dL_law_762 : decode cL_law 762 = .ok (.iaload, 1) := by decide +kernel
theorem dL_law_763 : decode cL_law 763 = .ok (.aload_n 0, 1) := by decide +kernel
theorem dL_law_764 : decode cL_law 764 = .ok (.iload 4, 2) := by decide +kernel
theorem dL_law_766 : decode cL_law 766 = .ok (.iconst 3, 1) := by decide +kernel
theorem dL_law_767 : decode cL_law 767 = .ok (.iadd, 1) := by decide +kernel
theorem dL_law_768 : decode cL_law 768 = .ok (.iaload, 1) := by decide +kernel
theorem dL_law_769 : decode cL_law 769 = .ok (.invokevirtual 83, 3) := by decide +kernel
theorem dL_law_772 : decode cL_law 772 = .ok (.aload_n 2, 1) := by decide +kernel
theorem dL_law_773 : decode cL_law 773 = .ok (.aload_n 0, 1) := by decide +kernel
theorem dL_law_774 : decode cL_law 774 = .ok (.iload 4, 2) := by decide +kernel
theorem dL_law_776 : decode cL_law 776 = .ok (.iconst 1, 1) := by decide +kernel
theorem dL_law_777 : decode cL_law 777 = .ok (.iadd, 1) := by decide +kernel
theorem dL_law_778 : decode cL_law 778 = .ok (.iaload, 1) := by decide +kernel
theorem dL_law_779 : decode cL_law 779 = .ok (.aload_n 0, 1) := by decide +kernel
theorem dL_law_780 : decode cL_law 780 = .ok (.iload 4, 2) := by decide +kernel
theorem dL_law_782 : decode cL_law 782 = .ok (.iconst 2, 1) := by decide +kernel
theorem dL_law_783 : decode cL_law 783 = .ok (.iadd, 1) := by decide +kernel
theorem dL_law_784 : decode cL_law 784 = .ok (.iaload, 1) := by decide +kernel
theorem dL_law_785 : decode cL_law 785 = .ok (.aload_n 0, 1) := by decide +kernel
theorem dL_law_786 : decode cL_law 786 = .ok (.iload 4, 2) := by decide +kernel
theorem dL_law_788 : decode cL_law 788 = .ok (.iconst 3, 1) := by decide +kernel
theorem dL_law_789 : decode cL_law 789 = .ok (.iadd, 1) := by decide +kernel
theorem dL_law_790 : decode cL_law 790 = .ok (.iaload, 1) := by decide +kernel
theorem dL_law_791 : decode cL_law 791 = .ok (.invokevirtual 86, 3) := by decide +kernel
theorem dL_law_794 : decode cL_law 794 = .ok (.if_icmp .eq 470, 3) := by decide +kernel
theorem dL_law_797 : decode cL_law 797 = .ok (.iconst 0, 1) := by decide +kernel
theorem dL_law_798 : decode cL_law 798 = .ok (.ireturn, 1) := by decide +kernel
theorem dL_law_799 : decode cL_law 799 = .ok (.aload_n 1, 1) := by decide +kernel
theorem dL_law_800 : decode cL_law 800 = .ok (.aload_n 0, 1) := by decide +kernel
theorem dL_law_801 : decode cL_law 801 = .ok (.iload 4, 2) := by decide +kernel
theorem dL_law_803 : decode cL_law 803 = .ok (.iconst 1, 1) := by decide +kernel
theorem dL_law_804 : decode cL_law 804 = .ok (.iadd, 1) := by decide +kernel
theorem dL_law_805 : decode cL_law 805 = .ok (.iaload, 1) := by decide +kernel
theorem dL_law_806 : decode cL_law 806 = .ok (.aload_n 0, 1) := by decide +kernel
theorem dL_law_807 : decode cL_law 807 = .ok (.iload 4, 2) := by decide +kernel
theorem dL_law_809 : decode cL_law 809 = .ok (.iconst 2, 1) := by decide +kernel
theorem dL_law_810 : decode cL_law 810 = .ok (.iadd, 1) := by decide +kernel
theorem dL_law_811 : decode cL_law 811 = .ok (.iaload, 1) := by decide +kernel
theorem dL_law_812 : decode cL_law 812 = .ok (.aload_n 0, 1) := by decide +kernel
theorem dL_law_813 : decode cL_law 813 = .ok (.iload 4, 2) := by decide +kernel
theorem dL_law_815 : decode cL_law 815 = .ok (.iconst 3, 1) := by decide +kernel
theorem dL_law_816 : decode cL_law 816 = .ok (.iadd, 1) := by decide +kernel
theorem dL_law_817 : decode cL_law 817 = .ok (.iaload, 1) := by decide +kernel
theorem dL_law_818 : decode cL_law 818 = .ok (.invokevirtual 87, 3) := by decide +kernel
theorem dL_law_821 : decode cL_law 821 = .ok (.aload_n 2, 1) := by decide +kernel
theorem dL_law_822 : decode cL_law 822 = .ok (.aload_n 0, 1) := by decide +kernel
theorem dL_law_823 : decode cL_law 823 = .ok (.iload 4, 2) := by decide +kernel
theorem dL_law_825 : decode cL_law 825 = .ok (.iconst 1, 1) := by decide +kernel
theorem dL_law_826 : decode cL_law 826 = .ok (.iadd, 1) := by decide +kernel
theorem dL_law_827 : decode cL_law 827 = .ok (.iaload, 1) := by decide +kernel
theorem dL_law_828 : decode cL_law 828 = .ok (.aload_n 0, 1) := by decide +kernel
theorem dL_law_829 : decode cL_law 829 = .ok (.iload 4, 2) := by decide +kernel
theorem dL_law_831 : decode cL_law 831 = .ok (.iconst 2, 1) := by decide +kernel
theorem dL_law_832 : decode cL_law 832 = .ok (.iadd, 1) := by decide +kernel
theorem dL_law_833 : decode cL_law 833 = .ok (.iaload, 1) := by decide +kernel
theorem dL_law_834 : decode cL_law 834 = .ok (.aload_n 0, 1) := by decide +kernel
theorem dL_law_835 : decode cL_law 835 = .ok (.iload 4, 2) := by decide +kernel
theorem dL_law_837 : decode cL_law 837 = .ok (.iconst 3, 1) := by decide +kernel
theorem dL_law_838 : decode cL_law 838 = .ok (.iadd, 1) := by decide +kernel
theorem dL_law_839 : decode cL_law 839 = .ok (.iaload, 1) := by decide +kernel
theorem dL_law_840 : decode cL_law 840 = .ok (.invokevirtual 90, 3) := by decide +kernel
theorem dL_law_843 : decode cL_law 843 = .ok (.if_icmp .eq 421, 3) := by decide +kernel
theorem dL_law_846 : decode cL_law 846 = .ok (.iconst 0, 1) := by decide +kernel
theorem dL_law_847 : decode cL_law 847 = .ok (.ireturn, 1) := by decide +kernel
theorem dL_law_848 : decode cL_law 848 = .ok (.aload_n 1, 1) := by decide +kernel
theorem dL_law_849 : decode cL_law 849 = .ok (.aload_n 0, 1) := by decide +kernel
theorem dL_law_850 : decode cL_law 850 = .ok (.iload 4, 2) := by decide +kernel
theorem dL_law_852 : decode cL_law 852 = .ok (.iconst 1, 1) := by decide +kernel
theorem dL_law_853 : decode cL_law 853 = .ok (.iadd, 1) := by decide +kernel
theorem dL_law_854 : decode cL_law 854 = .ok (.iaload, 1) := by decide +kernel
theorem dL_law_855 : decode cL_law 855 = .ok (.aload_n 0, 1) := by decide +kernel
theorem dL_law_856 : decode cL_law 856 = .ok (.iload 4, 2) := by decide +kernel
theorem dL_law_858 : decode cL_law 858 = .ok (.iconst 2, 1) := by decide +kernel
theorem dL_law_859 : decode cL_law 859 = .ok (.iadd, 1) := by decide +kernel
theorem dL_law_860 : decode cL_law 860 = .ok (.iaload, 1) := by decide +kernel
theorem dL_law_861 : decode cL_law 861 = .ok (.invokevirtual 91, 3) := by decide +kernel
theorem dL_law_864 : decode cL_law 864 = .ok (.aload_n 2, 1) := by decide +kernel
theorem dL_law_865 : decode cL_law 865 = .ok (.aload_n 0, 1) := by decide +kernel
theorem dL_law_866 : decode cL_law 866 = .ok (.iload 4, 2) := by decide +kernel
theorem dL_law_868 : decode cL_law 868 = .ok (.iconst 1, 1) := by decide +kernel
theorem dL_law_869 : decode cL_law 869 = .ok (.iadd, 1) := by decide +kernel
theorem dL_law_870 : decode cL_law 870 = .ok (.iaload, 1) := by decide +kernel
theorem dL_law_871 : decode cL_law 871 = .ok (.aload_n 0, 1) := by decide +kernel
theorem dL_law_872 : decode cL_law 872 = .ok (.iload 4, 2) := by decide +kernel
theorem dL_law_874 : decode cL_law 874 = .ok (.iconst 2, 1) := by decide +kernel
theorem dL_law_875 : decode cL_law 875 = .ok (.iadd, 1) := by decide +kernel
theorem dL_law_876 : decode cL_law 876 = .ok (.iaload, 1) := by decide +kernel
theorem dL_law_877 : decode cL_law 877 = .ok (.invokevirtual 94, 3) := by decide +kernel
theorem dL_law_880 : decode cL_law 880 = .ok (.if_icmp .eq 384, 3) := by decide +kernel
theorem dL_law_883 : decode cL_law 883 = .ok (.iconst 0, 1) := by decide +kernel
theorem dL_law_884 : decode cL_law 884 = .ok (.ireturn, 1) := by decide +kernel
theorem dL_law_885 : decode cL_law 885 = .ok (.aload_n 1, 1) := by decide +kernel
theorem dL_law_886 : decode cL_law 886 = .ok (.invokevirtual 95, 3) := by decide +kernel
theorem dL_law_889 : decode cL_law 889 = .ok (.aload_n 2, 1) := by decide +kernel
theorem dL_law_890 : decode cL_law 890 = .ok (.invokevirtual 98, 3) := by decide +kernel
theorem dL_law_893 : decode cL_law 893 = .ok (.if_icmp .eq 371, 3) := by decide +kernel
theorem dL_law_896 : decode cL_law 896 = .ok (.iconst 0, 1) := by decide +kernel
theorem dL_law_897 : decode cL_law 897 = .ok (.ireturn, 1) := by decide +kernel
theorem dL_law_898 : decode cL_law 898 = .ok (.aload_n 1, 1) := by decide +kernel
theorem dL_law_899 : decode cL_law 899 = .ok (.aload_n 0, 1) := by decide +kernel
theorem dL_law_900 : decode cL_law 900 = .ok (.iload 4, 2) := by decide +kernel
theorem dL_law_902 : decode cL_law 902 = .ok (.iconst 1, 1) := by decide +kernel
theorem dL_law_903 : decode cL_law 903 = .ok (.iadd, 1) := by decide +kernel
theorem dL_law_904 : decode cL_law 904 = .ok (.iaload, 1) := by decide +kernel
theorem dL_law_905 : decode cL_law 905 = .ok (.aload_n 0, 1) := by decide +kernel
theorem dL_law_906 : decode cL_law 906 = .ok (.iload 4, 2) := by decide +kernel
theorem dL_law_908 : decode cL_law 908 = .ok (.iconst 2, 1) := by decide +kernel
theorem dL_law_909 : decode cL_law 909 = .ok (.iadd, 1) := by decide +kernel
theorem dL_law_910 : decode cL_law 910 = .ok (.iaload, 1) := by decide +kernel
theorem dL_law_911 : decode cL_law 911 = .ok (.invokevirtual 99, 3) := by decide +kernel
theorem dL_law_914 : decode cL_law 914 = .ok (.aload_n 2, 1) := by decide +kernel
theorem dL_law_915 : decode cL_law 915 = .ok (.aload_n 0, 1) := by decide +kernel
theorem dL_law_916 : decode cL_law 916 = .ok (.iload 4, 2) := by decide +kernel
theorem dL_law_918 : decode cL_law 918 = .ok (.iconst 1, 1) := by decide +kernel
theorem dL_law_919 : decode cL_law 919 = .ok (.iadd, 1) := by decide +kernel
theorem dL_law_920 : decode cL_law 920 = .ok (.iaload, 1) := by decide +kernel
theorem dL_law_921 : decode cL_law 921 = .ok (.aload_n 0, 1) := by decide +kernel
theorem dL_law_922 : decode cL_law 922 = .ok (.iload 4, 2) := by decide +kernel
theorem dL_law_924 : decode cL_law 924 = .ok (.iconst 2, 1) := by decide +kernel
theorem dL_law_925 : decode cL_law 925 = .ok (.iadd, 1) := by decide +kernel
theorem dL_law_926 : decode cL_law 926 = .ok (.iaload, 1) := by decide +kernel
theorem dL_law_927 : decode cL_law 927 = .ok (.invokevirtual 102, 3) := by decide +kernel
theorem dL_law_930 : decode cL_law 930 = .ok (.if_icmp .eq 334, 3) := by decide +kernel
theorem dL_law_933 : decode cL_law 933 = .ok (.iconst 0, 1) := by decide +kernel
theorem dL_law_934 : decode cL_law 934 = .ok (.ireturn, 1) := by decide +kernel
theorem dL_law_935 : decode cL_law 935 = .ok (.aload_n 1, 1) := by decide +kernel
theorem dL_law_936 : decode cL_law 936 = .ok (.invokevirtual 103, 3) := by decide +kernel
theorem dL_law_939 : decode cL_law 939 = .ok (.aload_n 2, 1) := by decide +kernel
theorem dL_law_940 : decode cL_law 940 = .ok (.invokevirtual 107, 3) := by decide +kernel
theorem dL_law_943 : decode cL_law 943 = .ok (.lcmp, 1) := by decide +kernel
theorem dL_law_944 : decode cL_law 944 = .ok (.ifCond .eq 320, 3) := by decide +kernel
theorem dL_law_947 : decode cL_law 947 = .ok (.iconst 0, 1) := by decide +kernel
theorem dL_law_948 : decode cL_law 948 = .ok (.ireturn, 1) := by decide +kernel
theorem dL_law_949 : decode cL_law 949 = .ok (.aload_n 1, 1) := by decide +kernel
theorem dL_law_950 : decode cL_law 950 = .ok (.aload_n 0, 1) := by decide +kernel
theorem dL_law_951 : decode cL_law 951 = .ok (.iload 4, 2) := by decide +kernel
theorem dL_law_953 : decode cL_law 953 = .ok (.iconst 1, 1) := by decide +kernel
theorem dL_law_954 : decode cL_law 954 = .ok (.iadd, 1) := by decide +kernel
theorem dL_law_955 : decode cL_law 955 = .ok (.iaload, 1) := by decide +kernel
theorem dL_law_956 : decode cL_law 956 = .ok (.invokevirtual 108, 3) := by decide +kernel
theorem dL_law_959 : decode cL_law 959 = .ok (.aload_n 2, 1) := by decide +kernel
theorem dL_law_960 : decode cL_law 960 = .ok (.aload_n 0, 1) := by decide +kernel
theorem dL_law_961 : decode cL_law 961 = .ok (.iload 4, 2) := by decide +kernel
theorem dL_law_963 : decode cL_law 963 = .ok (.iconst 1, 1) := by decide +kernel
theorem dL_law_964 : decode cL_law 964 = .ok (.iadd, 1) := by decide +kernel
theorem dL_law_965 : decode cL_law 965 = .ok (.iaload, 1) := by decide +kernel
theorem dL_law_966 : decode cL_law 966 = .ok (.invokevirtual 111, 3) := by decide +kernel
theorem dL_law_969 : decode cL_law 969 = .ok (.if_icmp .eq 295, 3) := by decide +kernel
theorem dL_law_972 : decode cL_law 972 = .ok (.iconst 0, 1) := by decide +kernel
theorem dL_law_973 : decode cL_law 973 = .ok (.ireturn, 1) := by decide +kernel
theorem dL_law_974 : decode cL_law 974 = .ok (.aload_n 1, 1) := by decide +kernel
theorem dL_law_975 : decode cL_law 975 = .ok (.aload_n 0, 1) := by decide +kernel
theorem dL_law_976 : decode cL_law 976 = .ok (.iload 4, 2) := by decide +kernel
theorem dL_law_978 : decode cL_law 978 = .ok (.iconst 1, 1) := by decide +kernel
theorem dL_law_979 : decode cL_law 979 = .ok (.iadd, 1) := by decide +kernel
theorem dL_law_980 : decode cL_law 980 = .ok (.iaload, 1) := by decide +kernel
theorem dL_law_981 : decode cL_law 981 = .ok (.aload_n 0, 1) := by decide +kernel
theorem dL_law_982 : decode cL_law 982 = .ok (.iload 4, 2) := by decide +kernel
theorem dL_law_984 : decode cL_law 984 = .ok (.iconst 2, 1) := by decide +kernel
theorem dL_law_985 : decode cL_law 985 = .ok (.iadd, 1) := by decide +kernel
theorem dL_law_986 : decode cL_law 986 = .ok (.iaload, 1) := by decide +kernel
theorem dL_law_987 : decode cL_law 987 = .ok (.aload_n 0, 1) := by decide +kernel
theorem dL_law_988 : decode cL_law 988 = .ok (.iload 4, 2) := by decide +kernel
theorem dL_law_990 : decode cL_law 990 = .ok (.iconst 3, 1) := by decide +kernel
theorem dL_law_991 : decode cL_law 991 = .ok (.iadd, 1) := by decide +kernel
theorem dL_law_992 : decode cL_law 992 = .ok (.iaload, 1) := by decide +kernel
theorem dL_law_993 : decode cL_law 993 = .ok (.invokevirtual 112, 3) := by decide +kernel
theorem dL_law_996 : decode cL_law 996 = .ok (.aload_n 2, 1) := by decide +kernel
theorem dL_law_997 : decode cL_law 997 = .ok (.aload_n 0, 1) := by decide +kernel
theorem dL_law_998 : decode cL_law 998 = .ok (.iload 4, 2) := by decide +kernel
theorem dL_law_1000 : decode cL_law 1000 = .ok (.iconst 1, 1) := by decide +kernel
theorem dL_law_1001 : decode cL_law 1001 = .ok (.iadd, 1) := by decide +kernel
theorem dL_law_1002 : decode cL_law 1002 = .ok (.iaload, 1) := by decide +kernel
theorem dL_law_1003 : decode cL_law 1003 = .ok (.aload_n 0, 1) := by decide +kernel
theorem dL_law_1004 : decode cL_law 1004 = .ok (.iload 4, 2) := by decide +kernel
theorem dL_law_1006 : decode cL_law 1006 = .ok (.iconst 2, 1) := by decide +kernel
theorem dL_law_1007 : decode cL_law 1007 = .ok (.iadd, 1) := by decide +kernel
theorem dL_law_1008 : decode cL_law 1008 = .ok (.iaload, 1) := by decide +kernel
theorem dL_law_1009 : decode cL_law 1009 = .ok (.aload_n 0, 1) := by decide +kernel
theorem dL_law_1010 : decode cL_law 1010 = .ok (.iload 4, 2) := by decide +kernel
theorem dL_law_1012 : decode cL_law 1012 = .ok (.iconst 3, 1) := by decide +kernel
theorem dL_law_1013 : decode cL_law 1013 = .ok (.iadd, 1) := by decide +kernel
theorem dL_law_1014 : decode cL_law 1014 = .ok (.iaload, 1) := by decide +kernel
theorem dL_law_1015 : decode cL_law 1015 = .ok (.invokevirtual 115, 3) := by decide +kernel
theorem dL_law_1018 : decode cL_law 1018 = .ok (.if_icmp .eq 246, 3) := by decide +kernel
theorem dL_law_1021 : decode cL_law 1021 = .ok (.iconst 0, 1) := by decide +kernel
theorem dL_law_1022 : decode cL_law 1022 = .ok (.ireturn, 1) := by decide +kernel
theorem dL_law_1023 : decode cL_law 1023 = .ok (.aload_n 1, 1) := by decide +kernel
theorem dL_law_1024 : decode cL_law 1024 = .ok (.aload_n 0, 1) := by decide +kernel
theorem dL_law_1025 : decode cL_law 1025 = .ok (.iload 4, 2) := by decide +kernel
theorem dL_law_1027 : decode cL_law 1027 = .ok (.iconst 1, 1) := by decide +kernel
theorem dL_law_1028 : decode cL_law 1028 = .ok (.iadd, 1) := by decide +kernel
theorem dL_law_1029 : decode cL_law 1029 = .ok (.iaload, 1) := by decide +kernel
theorem dL_law_1030 : decode cL_law 1030 = .ok (.invokevirtual 116, 3) := by decide +kernel
theorem dL_law_1033 : decode cL_law 1033 = .ok (.aload_n 2, 1) := by decide +kernel
theorem dL_law_1034 : decode cL_law 1034 = .ok (.aload_n 0, 1) := by decide +kernel
theorem dL_law_1035 : decode cL_law 1035 = .ok (.iload 4, 2) := by decide +kernel
theorem dL_law_1037 : decode cL_law 1037 = .ok (.iconst 1, 1) := by decide +kernel
theorem dL_law_1038 : decode cL_law 1038 = .ok (.iadd, 1) := by decide +kernel
theorem dL_law_1039 : decode cL_law 1039 = .ok (.iaload, 1) := by decide +kernel
theorem dL_law_1040 : decode cL_law 1040 = .ok (.invokevirtual 119, 3) := by decide +kernel
theorem dL_law_1043 : decode cL_law 1043 = .ok (.if_icmp .eq 221, 3) := by decide +kernel
theorem dL_law_1046 : decode cL_law 1046 = .ok (.iconst 0, 1) := by decide +kernel
theorem dL_law_1047 : decode cL_law 1047 = .ok (.ireturn, 1) := by decide +kernel
theorem dL_law_1048 : decode cL_law 1048 = .ok (.aload_n 1, 1) := by decide +kernel
theorem dL_law_1049 : decode cL_law 1049 = .ok (.invokevirtual 120, 3) := by decide +kernel
theorem dL_law_1052 : decode cL_law 1052 = .ok (.aload_n 2, 1) := by decide +kernel
theorem dL_law_1053 : decode cL_law 1053 = .ok (.invokevirtual 123, 3) := by decide +kernel
theorem dL_law_1056 : decode cL_law 1056 = .ok (.if_icmp .eq 208, 3) := by decide +kernel
theorem dL_law_1059 : decode cL_law 1059 = .ok (.iconst 0, 1) := by decide +kernel
theorem dL_law_1060 : decode cL_law 1060 = .ok (.ireturn, 1) := by decide +kernel
theorem dL_law_1061 : decode cL_law 1061 = .ok (.aload_n 1, 1) := by decide +kernel
theorem dL_law_1062 : decode cL_law 1062 = .ok (.invokevirtual 124, 3) := by decide +kernel
theorem dL_law_1065 : decode cL_law 1065 = .ok (.aload_n 2, 1) := by decide +kernel
theorem dL_law_1066 : decode cL_law 1066 = .ok (.invokevirtual 128, 3) := by decide +kernel
theorem dL_law_1069 : decode cL_law 1069 = .ok (.if_icmp .eq 195, 3) := by decide +kernel
theorem dL_law_1072 : decode cL_law 1072 = .ok (.iconst 0, 1) := by decide +kernel
theorem dL_law_1073 : decode cL_law 1073 = .ok (.ireturn, 1) := by decide +kernel
theorem dL_law_1074 : decode cL_law 1074 = .ok (.aload_n 1, 1) := by decide +kernel
theorem dL_law_1075 : decode cL_law 1075 = .ok (.aload_n 0, 1) := by decide +kernel
theorem dL_law_1076 : decode cL_law 1076 = .ok (.iload 4, 2) := by decide +kernel
theorem dL_law_1078 : decode cL_law 1078 = .ok (.iconst 1, 1) := by decide +kernel
theorem dL_law_1079 : decode cL_law 1079 = .ok (.iadd, 1) := by decide +kernel
theorem dL_law_1080 : decode cL_law 1080 = .ok (.iaload, 1) := by decide +kernel
theorem dL_law_1081 : decode cL_law 1081 = .ok (.invokevirtual 129, 3) := by decide +kernel
theorem dL_law_1084 : decode cL_law 1084 = .ok (.aload_n 2, 1) := by decide +kernel
theorem dL_law_1085 : decode cL_law 1085 = .ok (.aload_n 0, 1) := by decide +kernel
theorem dL_law_1086 : decode cL_law 1086 = .ok (.iload 4, 2) := by decide +kernel
theorem dL_law_1088 : decode cL_law 1088 = .ok (.iconst 1, 1) := by decide +kernel
theorem dL_law_1089 : decode cL_law 1089 = .ok (.iadd, 1) := by decide +kernel
theorem dL_law_1090 : decode cL_law 1090 = .ok (.iaload, 1) := by decide +kernel
theorem dL_law_1091 : decode cL_law 1091 = .ok (.invokevirtual 132, 3) := by decide +kernel
theorem dL_law_1094 : decode cL_law 1094 = .ok (.if_icmp .eq 170, 3) := by decide +kernel
theorem dL_law_1097 : decode cL_law 1097 = .ok (.iconst 0, 1) := by decide +kernel
theorem dL_law_1098 : decode cL_law 1098 = .ok (.ireturn, 1) := by decide +kernel
theorem dL_law_1099 : decode cL_law 1099 = .ok (.aload_n 1, 1) := by decide +kernel
theorem dL_law_1100 : decode cL_law 1100 = .ok (.aload_n 0, 1) := by decide +kernel
theorem dL_law_1101 : decode cL_law 1101 = .ok (.iload 4, 2) := by decide +kernel
theorem dL_law_1103 : decode cL_law 1103 = .ok (.iconst 1, 1) := by decide +kernel
theorem dL_law_1104 : decode cL_law 1104 = .ok (.iadd, 1) := by decide +kernel
theorem dL_law_1105 : decode cL_law 1105 = .ok (.iaload, 1) := by decide +kernel
theorem dL_law_1106 : decode cL_law 1106 = .ok (.aload_n 0, 1) := by decide +kernel
theorem dL_law_1107 : decode cL_law 1107 = .ok (.iload 4, 2) := by decide +kernel
theorem dL_law_1109 : decode cL_law 1109 = .ok (.iconst 2, 1) := by decide +kernel
theorem dL_law_1110 : decode cL_law 1110 = .ok (.iadd, 1) := by decide +kernel
theorem dL_law_1111 : decode cL_law 1111 = .ok (.iaload, 1) := by decide +kernel
theorem dL_law_1112 : decode cL_law 1112 = .ok (.invokevirtual 133, 3) := by decide +kernel
theorem dL_law_1115 : decode cL_law 1115 = .ok (.aload_n 2, 1) := by decide +kernel
theorem dL_law_1116 : decode cL_law 1116 = .ok (.aload_n 0, 1) := by decide +kernel
theorem dL_law_1117 : decode cL_law 1117 = .ok (.iload 4, 2) := by decide +kernel
theorem dL_law_1119 : decode cL_law 1119 = .ok (.iconst 1, 1) := by decide +kernel
theorem dL_law_1120 : decode cL_law 1120 = .ok (.iadd, 1) := by decide +kernel
theorem dL_law_1121 : decode cL_law 1121 = .ok (.iaload, 1) := by decide +kernel
theorem dL_law_1122 : decode cL_law 1122 = .ok (.aload_n 0, 1) := by decide +kernel
theorem dL_law_1123 : decode cL_law 1123 = .ok (.iload 4, 2) := by decide +kernel
theorem dL_law_1125 : decode cL_law 1125 = .ok (.iconst 2, 1) := by decide +kernel
theorem dL_law_1126 : decode cL_law 1126 = .ok (.iadd, 1) := by decide +kernel
theorem dL_law_1127 : decode cL_law 1127 = .ok (.iaload, 1) := by decide +kernel
theorem dL_law_1128 : decode cL_law 1128 = .ok (.invokevirtual 136, 3) := by decide +kernel
theorem dL_law_1131 : decode cL_law 1131 = .ok (.if_icmp .eq 133, 3) := by decide +kernel
theorem dL_law_1134 : decode cL_law 1134 = .ok (.iconst 0, 1) := by decide +kernel
theorem dL_law_1135 : decode cL_law 1135 = .ok (.ireturn, 1) := by decide +kernel
theorem dL_law_1136 : decode cL_law 1136 = .ok (.aload_n 1, 1) := by decide +kernel
theorem dL_law_1137 : decode cL_law 1137 = .ok (.aload_n 0, 1) := by decide +kernel
theorem dL_law_1138 : decode cL_law 1138 = .ok (.iload 4, 2) := by decide +kernel
theorem dL_law_1140 : decode cL_law 1140 = .ok (.iconst 1, 1) := by decide +kernel
theorem dL_law_1141 : decode cL_law 1141 = .ok (.iadd, 1) := by decide +kernel
theorem dL_law_1142 : decode cL_law 1142 = .ok (.iaload, 1) := by decide +kernel
theorem dL_law_1143 : decode cL_law 1143 = .ok (.aload_n 0, 1) := by decide +kernel
theorem dL_law_1144 : decode cL_law 1144 = .ok (.iload 4, 2) := by decide +kernel
theorem dL_law_1146 : decode cL_law 1146 = .ok (.iconst 2, 1) := by decide +kernel
theorem dL_law_1147 : decode cL_law 1147 = .ok (.iadd, 1) := by decide +kernel
theorem dL_law_1148 : decode cL_law 1148 = .ok (.iaload, 1) := by decide +kernel
theorem dL_law_1149 : decode cL_law 1149 = .ok (.invokevirtual 137, 3) := by decide +kernel
theorem dL_law_1152 : decode cL_law 1152 = .ok (.aload_n 2, 1) := by decide +kernel
theorem dL_law_1153 : decode cL_law 1153 = .ok (.aload_n 0, 1) := by decide +kernel
theorem dL_law_1154 : decode cL_law 1154 = .ok (.iload 4, 2) := by decide +kernel
theorem dL_law_1156 : decode cL_law 1156 = .ok (.iconst 1, 1) := by decide +kernel
theorem dL_law_1157 : decode cL_law 1157 = .ok (.iadd, 1) := by decide +kernel
theorem dL_law_1158 : decode cL_law 1158 = .ok (.iaload, 1) := by decide +kernel
theorem dL_law_1159 : decode cL_law 1159 = .ok (.aload_n 0, 1) := by decide +kernel
theorem dL_law_1160 : decode cL_law 1160 = .ok (.iload 4, 2) := by decide +kernel
theorem dL_law_1162 : decode cL_law 1162 = .ok (.iconst 2, 1) := by decide +kernel
theorem dL_law_1163 : decode cL_law 1163 = .ok (.iadd, 1) := by decide +kernel
theorem dL_law_1164 : decode cL_law 1164 = .ok (.iaload, 1) := by decide +kernel
theorem dL_law_1165 : decode cL_law 1165 = .ok (.invokevirtual 140, 3) := by decide +kernel
theorem dL_law_1168 : decode cL_law 1168 = .ok (.if_icmp .eq 96, 3) := by decide +kernel
theorem dL_law_1171 : decode cL_law 1171 = .ok (.iconst 0, 1) := by decide +kernel
theorem dL_law_1172 : decode cL_law 1172 = .ok (.ireturn, 1) := by decide +kernel
theorem dL_law_1173 : decode cL_law 1173 = .ok (.aload_n 1, 1) := by decide +kernel
theorem dL_law_1174 : decode cL_law 1174 = .ok (.invokevirtual 141, 3) := by decide +kernel
theorem dL_law_1177 : decode cL_law 1177 = .ok (.aload_n 2, 1) := by decide +kernel
theorem dL_law_1178 : decode cL_law 1178 = .ok (.invokevirtual 144, 3) := by decide +kernel
theorem dL_law_1181 : decode cL_law 1181 = .ok (.if_icmp .eq 83, 3) := by decide +kernel
theorem dL_law_1184 : decode cL_law 1184 = .ok (.iconst 0, 1) := by decide +kernel
theorem dL_law_1185 : decode cL_law 1185 = .ok (.ireturn, 1) := by decide +kernel
theorem dL_law_1186 : decode cL_law 1186 = .ok (.aload_n 1, 1) := by decide +kernel
theorem dL_law_1187 : decode cL_law 1187 = .ok (.aload_n 0, 1) := by decide +kernel
theorem dL_law_1188 : decode cL_law 1188 = .ok (.iload 4, 2) := by decide +kernel
theorem dL_law_1190 : decode cL_law 1190 = .ok (.iconst 1, 1) := by decide +kernel
theorem dL_law_1191 : decode cL_law 1191 = .ok (.iadd, 1) := by decide +kernel
theorem dL_law_1192 : decode cL_law 1192 = .ok (.iaload, 1) := by decide +kernel
theorem dL_law_1193 : decode cL_law 1193 = .ok (.aload_n 0, 1) := by decide +kernel
theorem dL_law_1194 : decode cL_law 1194 = .ok (.iload 4, 2) := by decide +kernel
theorem dL_law_1196 : decode cL_law 1196 = .ok (.iconst 2, 1) := by decide +kernel
theorem dL_law_1197 : decode cL_law 1197 = .ok (.iadd, 1) := by decide +kernel
theorem dL_law_1198 : decode cL_law 1198 = .ok (.iaload, 1) := by decide +kernel
theorem dL_law_1199 : decode cL_law 1199 = .ok (.ifCond .eq 7, 3) := by decide +kernel
theorem dL_law_1202 : decode cL_law 1202 = .ok (.iconst 1, 1) := by decide +kernel
theorem dL_law_1203 : decode cL_law 1203 = .ok (.goto 4, 3) := by decide +kernel
theorem dL_law_1206 : decode cL_law 1206 = .ok (.iconst 0, 1) := by decide +kernel
theorem dL_law_1207 : decode cL_law 1207 = .ok (.invokevirtual 145, 3) := by decide +kernel
theorem dL_law_1210 : decode cL_law 1210 = .ok (.aload_n 2, 1) := by decide +kernel
theorem dL_law_1211 : decode cL_law 1211 = .ok (.aload_n 0, 1) := by decide +kernel
theorem dL_law_1212 : decode cL_law 1212 = .ok (.iload 4, 2) := by decide +kernel
theorem dL_law_1214 : decode cL_law 1214 = .ok (.iconst 1, 1) := by decide +kernel
theorem dL_law_1215 : decode cL_law 1215 = .ok (.iadd, 1) := by decide +kernel
theorem dL_law_1216 : decode cL_law 1216 = .ok (.iaload, 1) := by decide +kernel
theorem dL_law_1217 : decode cL_law 1217 = .ok (.aload_n 0, 1) := by decide +kernel
theorem dL_law_1218 : decode cL_law 1218 = .ok (.iload 4, 2) := by decide +kernel
theorem dL_law_1220 : decode cL_law 1220 = .ok (.iconst 2, 1) := by decide +kernel
theorem dL_law_1221 : decode cL_law 1221 = .ok (.iadd, 1) := by decide +kernel
theorem dL_law_1222 : decode cL_law 1222 = .ok (.iaload, 1) := by decide +kernel
theorem dL_law_1223 : decode cL_law 1223 = .ok (.ifCond .eq 7, 3) := by decide +kernel
theorem dL_law_1226 : decode cL_law 1226 = .ok (.iconst 1, 1) := by decide +kernel
theorem dL_law_1227 : decode cL_law 1227 = .ok (.goto 4, 3) := by decide +kernel
theorem dL_law_1230 : decode cL_law 1230 = .ok (.iconst 0, 1) := by decide +kernel
theorem dL_law_1231 : decode cL_law 1231 = .ok (.invokevirtual 149, 3) := by decide +kernel
theorem dL_law_1234 : decode cL_law 1234 = .ok (.if_icmp .eq 30, 3) := by decide +kernel
theorem dL_law_1237 : decode cL_law 1237 = .ok (.iconst 0, 1) := by decide +kernel
theorem dL_law_1238 : decode cL_law 1238 = .ok (.ireturn, 1) := by decide +kernel
theorem dL_law_1239 : decode cL_law 1239 = .ok (.aload_n 1, 1) := by decide +kernel
theorem dL_law_1240 : decode cL_law 1240 = .ok (.aload_n 0, 1) := by decide +kernel
theorem dL_law_1241 : decode cL_law 1241 = .ok (.iload 4, 2) := by decide +kernel
theorem dL_law_1243 : decode cL_law 1243 = .ok (.iconst 1, 1) := by decide +kernel
theorem dL_law_1244 : decode cL_law 1244 = .ok (.iadd, 1) := by decide +kernel
theorem dL_law_1245 : decode cL_law 1245 = .ok (.iaload, 1) := by decide +kernel
theorem dL_law_1246 : decode cL_law 1246 = .ok (.invokevirtual 150, 3) := by decide +kernel
theorem dL_law_1249 : decode cL_law 1249 = .ok (.aload_n 2, 1) := by decide +kernel
theorem dL_law_1250 : decode cL_law 1250 = .ok (.aload_n 0, 1) := by decide +kernel
theorem dL_law_1251 : decode cL_law 1251 = .ok (.iload 4, 2) := by decide +kernel
theorem dL_law_1253 : decode cL_law 1253 = .ok (.iconst 1, 1) := by decide +kernel
theorem dL_law_1254 : decode cL_law 1254 = .ok (.iadd, 1) := by decide +kernel
theorem dL_law_1255 : decode cL_law 1255 = .ok (.iaload, 1) := by decide +kernel
theorem dL_law_1256 : decode cL_law 1256 = .ok (.invokevirtual 153, 3) := by decide +kernel
theorem dL_law_1259 : decode cL_law 1259 = .ok (.if_icmp .eq 5, 3) := by decide +kernel
theorem dL_law_1262 : decode cL_law 1262 = .ok (.iconst 0, 1) := by decide +kernel
theorem dL_law_1263 : decode cL_law 1263 = .ok (.ireturn, 1) := by decide +kernel
theorem dL_law_1264 : decode cL_law 1264 = .ok (.iinc 4 7, 3) := by decide +kernel
theorem dL_law_1267 : decode cL_law 1267 = .ok (.goto (-1244), 3) := by decide +kernel
theorem dL_law_1270 : decode cL_law 1270 = .ok (.iconst 1, 1) := by decide +kernel
theorem dL_law_1271 : decode cL_law 1271 = .ok (.ireturn, 1) := by decide +kernel
