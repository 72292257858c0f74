theorem dX7_openRetained_16 : decode cX7_openRetained 16 = .ok (.iload_n 1, 1) := by decide +kernel
theorem dX7_openRetained_17 : decode cX7_openRetained 17 = .ok (.if_icmp .le 23, 3) := by decide +kernel
theorem dX7_openRetained_20 : decode cX7_openRetained 20 = .ok (.aload_n 0, 1) := by decide +kernel
theorem dX7_openRetained_21 : decode cX7_openRetained 21 = .ok (.getfield 33, 3) := by decide +kernel
theorem dX7_openRetained_24 : decode cX7_openRetained 24 = .ok (.iload_n 3, 1) := by decide +kernel
theorem dX7_openRetained_25 : decode cX7_openRetained 25 = .ok (.aload_n 0, 1) := by decide +kernel
theorem dX7_openRetained_26 : decode cX7_openRetained 26 = .ok (.getfield 33, 3) := by decide +kernel
theorem dX7_openRetained_29 : decode cX7_openRetained 29 = .ok (.iload_n 3, 1) := by decide +kernel
theorem dX7_openRetained_30 : decode cX7_openRetained 30 = .ok (.iconst 1, 1) := by decide +kernel
theorem dX7_openRetained_31 : decode cX7_openRetained 31 = .ok (.isub, 1) := by decide +kernel
theorem dX7_openRetained_32 : decode cX7_openRetained 32 = .ok (.aaload, 1) := by decide +kernel
theorem dX7_openRetained_33 : decode cX7_openRetained 33 = .ok (.aastore, 1) := by decide +kernel
theorem dX7_openRetained_34 : decode cX7_openRetained 34 = .ok (.iinc 3 (-1), 3) := by decide +kernel
theorem dX7_openRetained_37 : decode cX7_openRetained 37 = .ok (.goto (-22), 3) := by decide +kernel
theorem dX7_openRetained_40 : decode cX7_openRetained 40 = .ok (.aload_n 0, 1) := by decide +kernel
theorem dX7_openRetained_41 : decode cX7_openRetained 41 = .ok (.getfield 33, 3) := by decide +kernel
theorem dX7_openRetained_44 : decode cX7_openRetained 44 = .ok (.iload_n 1, 1) := by decide +kernel
theorem dX7_openRetained_45 : decode cX7_openRetained 45 = .ok (.aload_n 2, 1) := by decide +kernel
theorem dX7_openRetained_46 : decode cX7_openRetained 46 = .ok (.aastore, 1) := by decide +kernel
theorem dX7_openRetained_47 : decode cX7_openRetained 47 = .ok (.aload_n 0, 1) := by decide +kernel
theorem dX7_openRetained_48 : decode cX7_openRetained 48 = .ok (.dup, 1) := by decide +kernel
theorem dX7_openRetained_49 : decode cX7_openRetained 49 = .ok (.getfield 70, 3) := by decide +kernel
theorem dX7_openRetained_52 : decode cX7_openRetained 52 = .ok (.iconst 1, 1) := by decide +kernel
theorem dX7_openRetained_53 : decode cX7_openRetained 53 = .ok (.iadd, 1) := by decide +kernel
theorem dX7_openRetained_54 : decode cX7_openRetained 54 = .ok (.putfield 70, 3) := by decide +kernel
theorem dX7_openRetained_57 : decode cX7_openRetained 57 = .ok (.return_, 1) := by decide +kernel
theorem dX7_giveRetained_0 : decode cX7_giveRetained 0 = .ok (.iconst 0, 1) := by decide +kernel
theorem dX7_giveRetained_1 : decode cX7_giveRetained 1 = .ok (.istore 4, 2) := by decide +kernel
theorem dX7_giveRetained_3 : decode cX7_giveRetained 3 = .ok (.iload 4, 2) := by decide +kernel
theorem dX7_giveRetained_5 : decode cX7_giveRetained 5 = .ok (.aload_n 0, 1) := by decide +kernel
theorem dX7_giveRetained_6 : decode cX7_giveRetained 6 = .ok (.getfield 70, 3) := by decide +kernel
theorem dX7_giveRetained_9 : decode cX7_giveRetained 9 = .ok (.if_icmp .ge 59, 3) := by decide +kernel
theorem dX7_giveRetained_12 : decode cX7_giveRetained 12 = .ok (.iload 4, 2) := by decide +kernel
theorem dX7_giveRetained_14 : decode cX7_giveRetained 14 = .ok (.bipush 8, 2) := by decide +kernel
theorem dX7_giveRetained_16 : decode cX7_giveRetained 16 = .ok (.if_icmp .ge 52, 3) := by decide +kernel
theorem dX7_giveRetained_19 : decode cX7_giveRetained 19 = .ok (.aload_n 0, 1) := by decide +kernel
theorem dX7_giveRetained_20 : decode cX7_giveRetained 20 = .ok (.getfield 33, 3) := by decide +kernel
theorem dX7_giveRetained_23 : decode cX7_giveRetained 23 = .ok (.iload 4, 2) := by decide +kernel
theorem dX7_giveRetained_25 : decode cX7_giveRetained 25 = .ok (.aaload, 1) := by decide +kernel
theorem dX7_giveRetained_26 : decode cX7_giveRetained 26 = .ok (.astore 5, 2) := by decide +kernel
theorem dX7_giveRetained_28 : decode cX7_giveRetained 28 = .ok (.aload_n 2, 1) := by decide +kernel
theorem dX7_giveRetained_29 : decode cX7_giveRetained 29 = .ok (.aload 5, 2) := by decide +kernel
theorem dX7_giveRetained_31 : decode cX7_giveRetained 31 = .ok (.getfield 195, 3) := by decide +kernel
theorem dX7_giveRetained_34 : decode cX7_giveRetained 34 = .ok (.invokevirtual 214, 3) := by decide +kernel
theorem dX7_giveRetained_37 : decode cX7_giveRetained 37 = .ok (.ifCond .eq 25, 3) := by decide +kernel
theorem dX7_giveRetained_40 : decode cX7_giveRetained 40 = .ok (.aload_n 0, 1) := by decide +kernel
theorem dX7_giveRetained_41 : decode cX7_giveRetained 41 = .ok (.aload_n 0, 1) := by decide +kernel
theorem dX7_giveRetained_42 : decode cX7_giveRetained 42 = .ok (.getfield 17, 3) := by decide +kernel
theorem dX7_giveRetained_45 : decode cX7_giveRetained 45 = .ok (.iload_n 1, 1) := by decide +kernel
theorem dX7_giveRetained_46 : decode cX7_giveRetained 46 = .ok (.aaload, 1) := by decide +kernel
theorem dX7_giveRetained_47 : decode cX7_giveRetained 47 = .ok (.aload 5, 2) := by decide +kernel
theorem dX7_giveRetained_49 : decode cX7_giveRetained 49 = .ok (.aload 5, 2) := by decide +kernel
theorem dX7_giveRetained_51 : decode cX7_giveRetained 51 = .ok (.getfield 207, 3) := by decide +kernel
theorem dX7_giveRetained_54 : decode cX7_giveRetained 54 = .ok (.iload_n 3, 1) := by decide +kernel
theorem dX7_giveRetained_55 : decode cX7_giveRetained 55 = .ok (.invokestatic 128, 3) := by decide +kernel
theorem dX7_giveRetained_58 : decode cX7_giveRetained 58 = .ok (.iconst 2, 1) := by decide +kernel
theorem dX7_giveRetained_59 : decode cX7_giveRetained 59 = .ok (.invokevirtual 210, 3) := by decide +kernel
theorem dX7_giveRetained_62 : decode cX7_giveRetained 62 = .ok (.iinc 4 1, 3) := by decide +kernel
theorem dX7_giveRetained_65 : decode cX7_giveRetained 65 = .ok (.goto (-62), 3) := by decide +kernel
theorem dX7_giveRetained_68 : decode cX7_giveRetained 68 = .ok (.return_, 1) := by decide +kernel
theorem dX7_give_0 : decode cX7_give 0 = .ok (.aload_n 0, 1) := by decide +kernel
theorem dX7_give_1 : decode cX7_give 1 = .ok (.getfield 45, 3) := by decide +kernel
theorem dX7_give_4 : decode cX7_give 4 = .ok (.iconst 1, 1) := by decide +kernel
theorem dX7_give_5 : decode cX7_give 5 = .ok (.dup2, 1) := by decide +kernel
theorem dX7_give_6 : decode cX7_give 6 = .ok (.iaload, 1) := by decide +kernel
theorem dX7_give_7 : decode cX7_give 7 = .ok (.iconst 1, 1) := by decide +kernel
theorem dX7_give_8 : decode cX7_give 8 = .ok (.iadd, 1) := by decide +kernel
theorem dX7_give_9 : decode cX7_give 9 = .ok (.iastore, 1) := by decide +kernel
theorem dX7_give_10 : decode cX7_give 10 = .ok (.aload_n 0, 1) := by decide +kernel
theorem dX7_give_11 : decode cX7_give 11 = .ok (.getfield 55, 3) := by decide +kernel
theorem dX7_give_14 : decode cX7_give 14 = .ok (.aload_n 2, 1) := by decide +kernel
theorem dX7_give_15 : decode cX7_give 15 = .ok (.getfield 195, 3) := by decide +kernel
theorem dX7_give_18 : decode cX7_give 18 = .ok (.iload_n 3, 1) := by decide +kernel
theorem dX7_give_19 : decode cX7_give 19 = .ok (.aload_n 2, 1) := by decide +kernel
theorem dX7_give_20 : decode cX7_give 20 = .ok (.getfield 228, 3) := by decide +kernel
theorem dX7_give_23 : decode cX7_give 23 = .ok (.invokevirtual 237, 3) := by decide +kernel
theorem dX7_give_26 : decode cX7_give 26 = .ok (.aload_n 0, 1) := by decide +kernel
theorem dX7_give_27 : decode cX7_give 27 = .ok (.getfield 55, 3) := by decide +kernel
theorem dX7_give_30 : decode cX7_give 30 = .ok (.iload 4, 2) := by decide +kernel
theorem dX7_give_32 : decode cX7_give 32 = .ok (.putfield 241, 3) := by decide +kernel
theorem dX7_give_35 : decode cX7_give 35 = .ok (.iload_n 3, 1) := by decide +kernel
theorem dX7_give_36 : decode cX7_give 36 = .ok (.ifCond .ne 36, 3) := by decide +kernel
theorem dX7_give_39 : decode cX7_give 39 = .ok (.aload_n 1, 1) := by decide +kernel
theorem dX7_give_40 : decode cX7_give 40 = .ok (.getfield 82, 3) := by decide +kernel
theorem dX7_give_43 : decode cX7_give 43 = .ok (.ifCond .eq 16, 3) := by decide +kernel
theorem dX7_give_46 : decode cX7_give 46 = .ok (.aload_n 0, 1) := by decide +kernel
theorem dX7_give_47 : decode cX7_give 47 = .ok (.aload_n 1, 1) := by decide +kernel
theorem dX7_give_48 : decode cX7_give 48 = .ok (.aload_n 0, 1) := by decide +kernel
theorem dX7_give_49 : decode cX7_give 49 = .ok (.getfield 55, 3) := by decide +kernel
theorem dX7_give_52 : decode cX7_give 52 = .ok (.iconst 0, 1) := by decide +kernel
theorem dX7_give_53 : decode cX7_give 53 = .ok (.invokevirtual 244, 3) := by decide +kernel
theorem dX7_give_56 : decode cX7_give 56 = .ok (.goto 64, 3) := by decide +kernel
theorem dX7_give_59 : decode cX7_give 59 = .ok (.aload_n 0, 1) := by decide +kernel
theorem dX7_give_60 : decode cX7_give 60 = .ok (.getfield 45, 3) := by decide +kernel
theorem dX7_give_63 : decode cX7_give 63 = .ok (.iconst 2, 1) := by decide +kernel
theorem dX7_give_64 : decode cX7_give 64 = .ok (.dup2, 1) := by decide +kernel
theorem dX7_give_65 : decode cX7_give 65 = .ok (.iaload, 1) := by decide +kernel
theorem dX7_give_66 : decode cX7_give 66 = .ok (.iconst 1, 1) := by decide +kernel
theorem dX7_give_67 : decode cX7_give 67 = .ok (.iadd, 1) := by decide +kernel
theorem dX7_give_68 : decode cX7_give 68 = .ok (.iastore, 1) := by decide +kernel
theorem dX7_give_69 : decode cX7_give 69 = .ok (.goto 51, 3) := by decide +kernel
theorem dX7_give_72 : decode cX7_give 72 = .ok (.aload_n 1, 1) := by decide +kernel
theorem dX7_give_73 : decode cX7_give 73 = .ok (.getfield 95, 3) := by decide +kernel
theorem dX7_give_76 : decode cX7_give 76 = .ok (.getfield 248, 3) := by decide +kernel
theorem dX7_give_79 : decode cX7_give 79 = .ok (.getfield 142, 3) := by decide +kernel
theorem dX7_give_82 : decode cX7_give 82 = .ok (.ifCond .ne 23, 3) := by decide +kernel
theorem dX7_give_85 : decode cX7_give 85 = .ok (.aload_n 0, 1) := by decide +kernel
theorem dX7_give_86 : decode cX7_give 86 = .ok (.aload_n 1, 1) := by decide +kernel
theorem dX7_give_87 : decode cX7_give 87 = .ok (.invokevirtual 251, 3) := by decide +kernel
theorem dX7_give_90 : decode cX7_give 90 = .ok (.ifCond .eq 15, 3) := by decide +kernel
theorem dX7_give_93 : decode cX7_give 93 = .ok (.aload_n 0, 1) := by decide +kernel
theorem dX7_give_94 : decode cX7_give 94 = .ok (.aload_n 1, 1) := by decide +kernel
theorem dX7_give_95 : decode cX7_give 95 = .ok (.aload_n 0, 1) := by decide +kernel
theorem dX7_give_96 : decode cX7_give 96 = .ok (.getfield 55, 3) := by decide +kernel
theorem dX7_give_99 : decode cX7_give 99 = .ok (.invokevirtual 255, 3) := by decide +kernel
theorem dX7_give_102 : decode cX7_give 102 = .ok (.goto 18, 3) := by decide +kernel
theorem dX7_give_105 : decode cX7_give 105 = .ok (.aload_n 0, 1) := by decide +kernel
theorem dX7_give_106 : decode cX7_give 106 = .ok (.aload_n 1, 1) := by decide +kernel
theorem dX7_give_107 : decode cX7_give 107 = .ok (.getfield 95, 3) := by decide +kernel
theorem dX7_give_110 : decode cX7_give 110 = .ok (.getfield 248, 3) := by decide +kernel
theorem dX7_give_113 : decode cX7_give 113 = .ok (.aload_n 0, 1) := by decide +kernel
theorem dX7_give_114 : decode cX7_give 114 = .ok (.getfield 55, 3) := by decide +kernel
theorem dX7_give_117 : decode cX7_give 117 = .ok (.invokevirtual 258, 3) := by decide +kernel
theorem dX7_give_120 : decode cX7_give 120 = .ok (.return_, 1) := by decide +kernel
theorem dX7_hold_0 : decode cX7_hold 0 = .ok (.aload_n 1, 1) := by decide +kernel
theorem dX7_hold_1 : decode cX7_hold 1 = .ok (.getfield 142, 3) := by decide +kernel
theorem dX7_hold_4 : decode cX7_hold 4 = .ok (.bipush 8, 2) := by decide +kernel
theorem dX7_hold_6 : decode cX7_hold 6 = .ok (.if_icmp .lt 28, 3) := by decide +kernel
theorem dX7_hold_9 : decode cX7_hold 9 = .ok (.aload_n 0, 1) := by decide +kernel
theorem dX7_hold_10 : decode cX7_hold 10 = .ok (.getfield 45, 3) := by decide +kernel
theorem dX7_hold_13 : decode cX7_hold 13 = .ok (.iconst 2, 1) := by decide +kernel
theorem dX7_hold_14 : decode cX7_hold 14 = .ok (.dup2, 1) := by decide +kernel
theorem dX7_hold_15 : decode cX7_hold 15 = .ok (.iaload, 1) := by decide +kernel
theorem dX7_hold_16 : decode cX7_hold 16 = .ok (.iconst 1, 1) := by decide +kernel
theorem dX7_hold_17 : decode cX7_hold 17 = .ok (.iadd, 1) := by decide +kernel
theorem dX7_hold_18 : decode cX7_hold 18 = .ok (.iastore, 1) := by decide +kernel
theorem dX7_hold_19 : decode cX7_hold 19 = .ok (.aload_n 0, 1) := by decide +kernel
theorem dX7_hold_20 : decode cX7_hold 20 = .ok (.getfield 42, 3) := by decide +kernel
theorem dX7_hold_23 : decode cX7_hold 23 = .ok (.iconst 3, 1) := by decide +kernel
theorem dX7_hold_24 : decode cX7_hold 24 = .ok (.iaload, 1) := by decide +kernel
theorem dX7_hold_25 : decode cX7_hold 25 = .ok (.ifCond .ne 4, 3) := by decide +kernel
theorem dX7_hold_28 : decode cX7_hold 28 = .ok (.return_, 1) := by decide +kernel
theorem dX7_hold_29 : decode cX7_hold 29 = .ok (.aload_n 1, 1) := by decide +kernel
theorem dX7_hold_30 : decode cX7_hold 30 = .ok (.iconst 0, 1) := by decide +kernel
theorem dX7_hold_31 : decode cX7_hold 31 = .ok (.invokevirtual 262, 3) := by decide +kernel
theorem dX7_hold_34 : decode cX7_hold 34 = .ok (.aload_n 1, 1) := by decide +kernel
theorem dX7_hold_35 : decode cX7_hold 35 = .ok (.aload_n 2, 1) := by decide +kernel
theorem dX7_hold_36 : decode cX7_hold 36 = .ok (.invokevirtual 265, 3) := by decide +kernel
theorem dX7_hold_39 : decode cX7_hold 39 = .ok (.return_, 1) := by decide +kernel
theorem dX7_mayStart_0 : decode cX7_mayStart 0 = .ok (.aload_n 1, 1) := by decide +kernel
theorem dX7_mayStart_1 : decode cX7_mayStart 1 = .ok (.getfield 82, 3) := by decide +kernel
theorem dX7_mayStart_4 : decode cX7_mayStart 4 = .ok (.ifCond .eq 26, 3) := by decide +kernel
theorem dX7_mayStart_7 : decode cX7_mayStart 7 = .ok (.aload_n 1, 1) := by decide +kernel
theorem dX7_mayStart_8 : decode cX7_mayStart 8 = .ok (.getfield 95, 3) := by decide +kernel
theorem dX7_mayStart_11 : decode cX7_mayStart 11 = .ok (.getfield 138, 3) := by decide +kernel
theorem dX7_mayStart_14 : decode cX7_mayStart 14 = .ok (.getfield 142, 3) := by decide +kernel
theorem dX7_mayStart_17 : decode cX7_mayStart 17 = .ok (.aload_n 0, 1) := by decide +kernel
theorem dX7_mayStart_18 : decode cX7_mayStart 18 = .ok (.getfield 42, 3) := by decide +kernel
theorem dX7_mayStart_21 : decode cX7_mayStart 21 = .ok (.iconst 0, 1) := by decide +kernel
theorem dX7_mayStart_22 : decode cX7_mayStart 22 = .ok (.iaload, 1) := by decide +kernel
theorem dX7_mayStart_23 : decode cX7_mayStart 23 = .ok (.if_icmp .ge 7, 3) := by decide +kernel
theorem dX7_mayStart_26 : decode cX7_mayStart 26 = .ok (.iconst 1, 1) := by decide +kernel
theorem dX7_mayStart_27 : decode cX7_mayStart 27 = .ok (.goto 4, 3) := by decide +kernel
theorem dX7_mayStart_30 : decode cX7_mayStart 30 = .ok (.iconst 0, 1) := by decide +kernel
theorem dX7_mayStart_31 : decode cX7_mayStart 31 = .ok (.ireturn, 1) := by decide +kernel
theorem dX7_startFlight_0 : decode cX7_startFlight 0 = .ok (.aload_n 1, 1) := by decide +kernel
theorem dX7_startFlight_1 : decode cX7_startFlight 1 = .ok (.getfield 95, 3) := by decide +kernel
theorem dX7_startFlight_4 : decode cX7_startFlight 4 = .ok (.astore_n 3, 1) := by decide +kernel
theorem dX7_startFlight_5 : decode cX7_startFlight 5 = .ok (.aload_n 2, 1) := by decide +kernel
theorem dX7_startFlight_6 : decode cX7_startFlight 6 = .ok (.aload_n 3, 1) := by decide +kernel
theorem dX7_startFlight_7 : decode cX7_startFlight 7 = .ok (.getfield 268, 3) := by decide +kernel
theorem dX7_startFlight_10 : decode cX7_startFlight 10 = .ok (.putfield 271, 3) := by decide +kernel
theorem dX7_startFlight_13 : decode cX7_startFlight 13 = .ok (.aload_n 2, 1) := by decide +kernel
theorem dX7_startFlight_14 : decode cX7_startFlight 14 = .ok (.aload_n 2, 1) := by decide +kernel
theorem dX7_startFlight_15 : decode cX7_startFlight 15 = .ok (.getfield 207, 3) := by decide +kernel
theorem dX7_startFlight_18 : decode cX7_startFlight 18 = .ok (.iconst 1, 1) := by decide +kernel
theorem dX7_startFlight_19 : decode cX7_startFlight 19 = .ok (.if_icmp .ne 7, 3) := by decide +kernel
theorem dX7_startFlight_22 : decode cX7_startFlight 22 = .ok (.iconst 1, 1) := by decide +kernel
theorem dX7_startFlight_23 : decode cX7_startFlight 23 = .ok (.goto 4, 3) := by decide +kernel
theorem dX7_startFlight_26 : decode cX7_startFlight 26 = .ok (.iconst 2, 1) := by decide +kernel
theorem dX7_startFlight_27 : decode cX7_startFlight 27 = .ok (.putfield 274, 3) := by decide +kernel
theorem dX7_startFlight_30 : decode cX7_startFlight 30 = .ok (.aload_n 0, 1) := by decide +kernel
theorem dX7_startFlight_31 : decode cX7_startFlight 31 = .ok (.aload_n 1, 1) := by decide +kernel
theorem dX7_startFlight_32 : decode cX7_startFlight 32 = .ok (.aload_n 2, 1) := by decide +kernel
theorem dX7_startFlight_33 : decode cX7_startFlight 33 = .ok (.iconst 0, 1) := by decide +kernel
theorem dX7_startFlight_34 : decode cX7_startFlight 34 = .ok (.invokevirtual 244, 3) := by decide +kernel
theorem dX7_startFlight_37 : decode cX7_startFlight 37 = .ok (.aload_n 3, 1) := by decide +kernel
theorem dX7_startFlight_38 : decode cX7_startFlight 38 = .ok (.getfield 138, 3) := by decide +kernel
theorem dX7_startFlight_41 : decode cX7_startFlight 41 = .ok (.aload_n 2, 1) := by decide +kernel
theorem dX7_startFlight_42 : decode cX7_startFlight 42 = .ok (.invokevirtual 265, 3) := by decide +kernel
theorem dX7_startFlight_45 : decode cX7_startFlight 45 = .ok (.aload_n 3, 1) := by decide +kernel
theorem dX7_startFlight_46 : decode cX7_startFlight 46 = .ok (.invokevirtual 277, 3) := by decide +kernel
theorem dX7_startFlight_49 : decode cX7_startFlight 49 = .ok (.return_, 1) := by decide +kernel
theorem dX7_startPending_0 : decode cX7_startPending 0 = .ok (.aload_n 1, 1) := by decide +kernel
theorem dX7_startPending_1 : decode cX7_startPending 1 = .ok (.getfield 95, 3) := by decide +kernel
theorem dX7_startPending_4 : decode cX7_startPending 4 = .ok (.getfield 248, 3) := by decide +kernel
theorem dX7_startPending_7 : decode cX7_startPending 7 = .ok (.astore_n 2, 1) := by decide +kernel
theorem dX7_startPending_8 : decode cX7_startPending 8 = .ok (.iconst 0, 1) := by decide +kernel
theorem dX7_startPending_9 : decode cX7_startPending 9 = .ok (.istore_n 3, 1) := by decide +kernel
theorem dX7_startPending_10 : decode cX7_startPending 10 = .ok (.iload_n 3, 1) := by decide +kernel
theorem dX7_startPending_11 : decode cX7_startPending 11 = .ok (.bipush 8, 2) := by decide +kernel
theorem dX7_startPending_13 : decode cX7_startPending 13 = .ok (.if_icmp .ge 40, 3) := by decide +kernel
theorem dX7_startPending_16 : decode cX7_startPending 16 = .ok (.aload_n 2, 1) := by decide +kernel
theorem dX7_startPending_17 : decode cX7_startPending 17 = .ok (.getfield 142, 3) := by decide +kernel
theorem dX7_startPending_20 : decode cX7_startPending 20 = .ok (.ifCond .le 33, 3) := by decide +kernel
theorem dX7_startPending_23 : decode cX7_startPending 23 = .ok (.aload_n 0, 1) := by decide +kernel
theorem dX7_startPending_24 : decode cX7_startPending 24 = .ok (.aload_n 1, 1) := by decide +kernel
theorem dX7_startPending_25 : decode cX7_startPending 25 = .ok (.invokevirtual 251, 3) := by decide +kernel
theorem dX7_startPending_28 : decode cX7_startPending 28 = .ok (.ifCond .eq 25, 3) := by decide +kernel
theorem dX7_startPending_31 : decode cX7_startPending 31 = .ok (.aload_n 0, 1) := by decide +kernel
theorem dX7_startPending_32 : decode cX7_startPending 32 = .ok (.aload_n 1, 1) := by decide +kernel
theorem dX7_startPending_33 : decode cX7_startPending 33 = .ok (.aload_n 2, 1) := by decide +kernel
theorem dX7_startPending_34 : decode cX7_startPending 34 = .ok (.getfield 147, 3) := by decide +kernel
theorem dX7_startPending_37 : decode cX7_startPending 37 = .ok (.iconst 0, 1) := by decide +kernel
theorem dX7_startPending_38 : decode cX7_startPending 38 = .ok (.aaload, 1) := by decide +kernel
theorem dX7_startPending_39 : decode cX7_startPending 39 = .ok (.invokevirtual 255, 3) := by decide +kernel
theorem dX7_startPending_42 : decode cX7_startPending 42 = .ok (.aload_n 2, 1) := by decide +kernel
theorem dX7_startPending_43 : decode cX7_startPending 43 = .ok (.iconst 0, 1) := by decide +kernel
theorem dX7_startPending_44 : decode cX7_startPending 44 = .ok (.invokevirtual 262, 3) := by decide +kernel
theorem dX7_startPending_47 : decode cX7_startPending 47 = .ok (.iinc 3 1, 3) := by decide +kernel
theorem dX7_startPending_50 : decode cX7_startPending 50 = .ok (.goto (-40), 3) := by decide +kernel
theorem dX7_startPending_53 : decode cX7_startPending 53 = .ok (.return_, 1) := by decide +kernel
theorem dX7_takeAnswer_0 : decode cX7_takeAnswer 0 = .ok (.aload_n 1, 1) := by decide +kernel
theorem dX7_takeAnswer_1 : decode cX7_takeAnswer 1 = .ok (.getfield 95, 3) := by decide +kernel
theorem dX7_takeAnswer_4 : decode cX7_takeAnswer 4 = .ok (.getfield 138, 3) := by decide +kernel
theorem dX7_takeAnswer_7 : decode cX7_takeAnswer 7 = .ok (.astore 4, 2) := by decide +kernel
theorem dX7_takeAnswer_9 : decode cX7_takeAnswer 9 = .ok (.aload 4, 2) := by decide +kernel
theorem dX7_takeAnswer_11 : decode cX7_takeAnswer 11 = .ok (.iload_n 3, 1) := by decide +kernel
theorem dX7_takeAnswer_12 : decode cX7_takeAnswer 12 = .ok (.invokevirtual 280, 3) := by decide +kernel
theorem dX7_takeAnswer_15 : decode cX7_takeAnswer 15 = .ok (.istore 5, 2) := by decide +kernel
theorem dX7_takeAnswer_17 : decode cX7_takeAnswer 17 = .ok (.iload 5, 2) := by decide +kernel
theorem dX7_takeAnswer_19 : decode cX7_takeAnswer 19 = .ok (.ifCond .ge 5, 3) := by decide +kernel
theorem dX7_takeAnswer_22 : decode cX7_takeAnswer 22 = .ok (.iconst 0, 1) := by decide +kernel
theorem dX7_takeAnswer_23 : decode cX7_takeAnswer 23 = .ok (.ireturn, 1) := by decide +kernel
theorem dX7_takeAnswer_24 : decode cX7_takeAnswer 24 = .ok (.aload 4, 2) := by decide +kernel
theorem dX7_takeAnswer_26 : decode cX7_takeAnswer 26 = .ok (.getfield 147, 3) := by decide +kernel
theorem dX7_takeAnswer_29 : decode cX7_takeAnswer 29 = .ok (.iload 5, 2) := by decide +kernel
theorem dX7_takeAnswer_31 : decode cX7_takeAnswer 31 = .ok (.aaload, 1) := by decide +kernel
theorem dX7_takeAnswer_32 : decode cX7_takeAnswer 32 = .ok (.astore 6, 2) := by decide +kernel
theorem dX7_takeAnswer_34 : decode cX7_takeAnswer 34 = .ok (.iload_n 2, 1) := by decide +kernel
theorem dX7_takeAnswer_35 : decode cX7_takeAnswer 35 = .ok (.iconst 2, 1) := by decide +kernel
theorem dX7_takeAnswer_36 : decode cX7_takeAnswer 36 = .ok (.if_icmp .ne 27, 3) := by decide +kernel
theorem dX7_takeAnswer_39 : decode cX7_takeAnswer 39 = .ok (.aload 6, 2) := by decide +kernel
theorem dX7_takeAnswer_41 : decode cX7_takeAnswer 41 = .ok (.getfield 207, 3) := by decide +kernel
theorem dX7_takeAnswer_44 : decode cX7_takeAnswer 44 = .ok (.iconst 2, 1) := by decide +kernel
theorem dX7_takeAnswer_45 : decode cX7_takeAnswer 45 = .ok (.if_icmp .ne 18, 3) := by decide +kernel
theorem dX7_takeAnswer_48 : decode cX7_takeAnswer 48 = .ok (.aload 6, 2) := by decide +kernel
theorem dX7_takeAnswer_50 : decode cX7_takeAnswer 50 = .ok (.iconst 4, 1) := by decide +kernel
theorem dX7_takeAnswer_51 : decode cX7_takeAnswer 51 = .ok (.putfield 274, 3) := by decide +kernel
theorem dX7_takeAnswer_54 : decode cX7_takeAnswer 54 = .ok (.aload_n 0, 1) := by decide +kernel
theorem dX7_takeAnswer_55 : decode cX7_takeAnswer 55 = .ok (.aload_n 1, 1) := by decide +kernel
theorem dX7_takeAnswer_56 : decode cX7_takeAnswer 56 = .ok (.aload 6, 2) := by decide +kernel
theorem dX7_takeAnswer_58 : decode cX7_takeAnswer 58 = .ok (.invokevirtual 283, 3) := by decide +kernel
theorem dX7_takeAnswer_61 : decode cX7_takeAnswer 61 = .ok (.iconst 1, 1) := by decide +kernel
theorem dX7_takeAnswer_62 : decode cX7_takeAnswer 62 = .ok (.ireturn, 1) := by decide +kernel
theorem dX7_takeAnswer_63 : decode cX7_takeAnswer 63 = .ok (.aload 6, 2) := by decide +kernel
theorem dX7_takeAnswer_65 : decode cX7_takeAnswer 65 = .ok (.getfield 274, 3) := by decide +kernel
theorem dX7_takeAnswer_68 : decode cX7_takeAnswer 68 = .ok (.iload_n 2, 1) := by decide +kernel
theorem dX7_takeAnswer_69 : decode cX7_takeAnswer 69 = .ok (.if_icmp .eq 5, 3) := by decide +kernel
theorem dX7_takeAnswer_72 : decode cX7_takeAnswer 72 = .ok (.iconst 0, 1) := by decide +kernel
theorem dX7_takeAnswer_73 : decode cX7_takeAnswer 73 = .ok (.ireturn, 1) := by decide +kernel
theorem dX7_takeAnswer_74 : decode cX7_takeAnswer 74 = .ok (.aload_n 0, 1) := by decide +kernel
theorem dX7_takeAnswer_75 : decode cX7_takeAnswer 75 = .ok (.getfield 45, 3) := by decide +kernel
theorem dX7_takeAnswer_78 : decode cX7_takeAnswer 78 = .ok (.bipush 9, 2) := by decide +kernel
theorem dX7_takeAnswer_80 : decode cX7_takeAnswer 80 = .ok (.dup2, 1) := by decide +kernel
theorem dX7_takeAnswer_81 : decode cX7_takeAnswer 81 = .ok (.iaload, 1) := by decide +kernel
theorem dX7_takeAnswer_82 : decode cX7_takeAnswer 82 = .ok (.iconst 1, 1) := by decide +kernel
theorem dX7_takeAnswer_83 : decode cX7_takeAnswer 83 = .ok (.iadd, 1) := by decide +kernel
theorem dX7_takeAnswer_84 : decode cX7_takeAnswer 84 = .ok (.iastore, 1) := by decide +kernel
theorem dX7_takeAnswer_85 : decode cX7_takeAnswer 85 = .ok (.aload 4, 2) := by decide +kernel
theorem dX7_takeAnswer_87 : decode cX7_takeAnswer 87 = .ok (.iload 5, 2) := by decide +kernel
theorem dX7_takeAnswer_89 : decode cX7_takeAnswer 89 = .ok (.invokevirtual 262, 3) := by decide +kernel
theorem dX7_takeAnswer_92 : decode cX7_takeAnswer 92 = .ok (.aload_n 0, 1) := by decide +kernel
theorem dX7_takeAnswer_93 : decode cX7_takeAnswer 93 = .ok (.aload_n 1, 1) := by decide +kernel
theorem dX7_takeAnswer_94 : decode cX7_takeAnswer 94 = .ok (.invokevirtual 154, 3) := by decide +kernel
theorem dX7_takeAnswer_97 : decode cX7_takeAnswer 97 = .ok (.iconst 1, 1) := by decide +kernel
theorem dX7_takeAnswer_98 : decode cX7_takeAnswer 98 = .ok (.ireturn, 1) := by decide +kernel
theorem dX7_resend_0 : decode cX7_resend 0 = .ok (.aload_n 0, 1) := by decide +kernel
theorem dX7_resend_1 : decode cX7_resend 1 = .ok (.getfield 45, 3) := by decide +kernel
theorem dX7_resend_4 : decode cX7_resend 4 = .ok (.iconst 4, 1) := by decide +kernel
theorem dX7_resend_5 : decode cX7_resend 5 = .ok (.dup2, 1) := by decide +kernel
theorem dX7_resend_6 : decode cX7_resend 6 = .ok (.iaload, 1) := by decide +kernel
theorem dX7_resend_7 : decode cX7_resend 7 = .ok (.iconst 1, 1) := by decide +kernel
theorem dX7_resend_8 : decode cX7_resend 8 = .ok (.iadd, 1) := by decide +kernel
theorem dX7_resend_9 : decode cX7_resend 9 = .ok (.iastore, 1) := by decide +kernel
theorem dX7_resend_10 : decode cX7_resend 10 = .ok (.aload_n 2, 1) := by decide +kernel
theorem dX7_resend_11 : decode cX7_resend 11 = .ok (.getfield 274, 3) := by decide +kernel
theorem dX7_resend_14 : decode cX7_resend 14 = .ok (.iconst 4, 1) := by decide +kernel
theorem dX7_resend_15 : decode cX7_resend 15 = .ok (.if_icmp .ne 12, 3) := by decide +kernel
theorem dX7_resend_18 : decode cX7_resend 18 = .ok (.aload_n 0, 1) := by decide +kernel
theorem dX7_resend_19 : decode cX7_resend 19 = .ok (.aload_n 1, 1) := by decide +kernel
theorem dX7_resend_20 : decode cX7_resend 20 = .ok (.aload_n 2, 1) := by decide +kernel
theorem dX7_resend_21 : decode cX7_resend 21 = .ok (.invokevirtual 283, 3) := by decide +kernel
theorem dX7_resend_24 : decode cX7_resend 24 = .ok (.goto 10, 3) := by decide +kernel
theorem dX7_resend_27 : decode cX7_resend 27 = .ok (.aload_n 0, 1) := by decide +kernel
theorem dX7_resend_28 : decode cX7_resend 28 = .ok (.aload_n 1, 1) := by decide +kernel
theorem dX7_resend_29 : decode cX7_resend 29 = .ok (.aload_n 2, 1) := by decide +kernel
theorem dX7_resend_30 : decode cX7_resend 30 = .ok (.iconst 1, 1) := by decide +kernel
theorem dX7_resend_31 : decode cX7_resend 31 = .ok (.invokevirtual 244, 3) := by decide +kernel
theorem dX7_resend_34 : decode cX7_resend 34 = .ok (.return_, 1) := by decide +kernel
theorem dX7_sendRelease_0 : decode cX7_sendRelease 0 = .ok (.aload_n 2, 1) := by decide +kernel
theorem dX7_sendRelease_1 : decode cX7_sendRelease 1 = .ok (.aload_n 0, 1) := by decide +kernel
theorem dX7_sendRelease_2 : decode cX7_sendRelease 2 = .ok (.getfield 79, 3) := by decide +kernel
theorem dX7_sendRelease_5 : decode cX7_sendRelease 5 = .ok (.putfield 286, 3) := by decide +kernel
theorem dX7_sendRelease_8 : decode cX7_sendRelease 8 = .ok (.aload_n 0, 1) := by decide +kernel
theorem dX7_sendRelease_9 : decode cX7_sendRelease 9 = .ok (.aload_n 1, 1) := by decide +kernel
theorem dX7_sendRelease_10 : decode cX7_sendRelease 10 = .ok (.iconst 3, 1) := by decide +kernel
theorem dX7_sendRelease_11 : decode cX7_sendRelease 11 = .ok (.aload_n 2, 1) := by decide +kernel
theorem dX7_sendRelease_12 : decode cX7_sendRelease 12 = .ok (.getfield 271, 3) := by decide +kernel
theorem dX7_sendRelease_15 : decode cX7_sendRelease 15 = .ok (.invokevirtual 289, 3) := by decide +kernel
theorem dX7_sendRelease_18 : decode cX7_sendRelease 18 = .ok (.return_, 1) := by decide +kernel
theorem dX7_sendMessage_0 : decode cX7_sendMessage 0 = .ok (.aload_n 2, 1) := by decide +kernel
theorem dX7_sendMessage_1 : decode cX7_sendMessage 1 = .ok (.aload_n 0, 1) := by decide +kernel
theorem dX7_sendMessage_2 : decode cX7_sendMessage 2 = .ok (.getfield 79, 3) := by decide +kernel
theorem dX7_sendMessage_5 : decode cX7_sendMessage 5 = .ok (.putfield 286, 3) := by decide +kernel
theorem dX7_sendMessage_8 : decode cX7_sendMessage 8 = .ok (.aload_n 0, 1) := by decide +kernel
theorem dX7_sendMessage_9 : decode cX7_sendMessage 9 = .ok (.aload_n 1, 1) := by decide +kernel
theorem dX7_sendMessage_10 : decode cX7_sendMessage 10 = .ok (.invokevirtual 293, 3) := by decide +kernel
theorem dX7_sendMessage_13 : decode cX7_sendMessage 13 = .ok (.ifCond .eq 65, 3) := by decide +kernel
theorem dX7_sendMessage_16 : decode cX7_sendMessage 16 = .ok (.aload_n 1, 1) := by decide +kernel
theorem dX7_sendMessage_17 : decode cX7_sendMessage 17 = .ok (.getfield 86, 3) := by decide +kernel
theorem dX7_sendMessage_20 : decode cX7_sendMessage 20 = .ok (.invokevirtual 296, 3) := by decide +kernel
theorem dX7_sendMessage_23 : decode cX7_sendMessage 23 = .ok (.astore 4, 2) := by decide +kernel
theorem dX7_sendMessage_25 : decode cX7_sendMessage 25 = .ok (.aload 4, 2) := by decide +kernel
theorem dX7_sendMessage_27 : decode cX7_sendMessage 27 = .ok (.iconst 0, 1) := by decide +kernel
theorem dX7_sendMessage_28 : decode cX7_sendMessage 28 = .ok (.putfield 300, 3) := by decide +kernel
theorem dX7_sendMessage_31 : decode cX7_sendMessage 31 = .ok (.aload 4, 2) := by decide +kernel
theorem dX7_sendMessage_33 : decode cX7_sendMessage 33 = .ok (.aload_n 2, 1) := by decide +kernel
theorem dX7_sendMessage_34 : decode cX7_sendMessage 34 = .ok (.getfield 271, 3) := by decide +kernel
theorem dX7_sendMessage_37 : decode cX7_sendMessage 37 = .ok (.putfield 305, 3) := by decide +kernel
theorem dX7_sendMessage_40 : decode cX7_sendMessage 40 = .ok (.aload 4, 2) := by decide +kernel
theorem dX7_sendMessage_42 : decode cX7_sendMessage 42 = .ok (.aload_n 2, 1) := by decide +kernel
theorem dX7_sendMessage_43 : decode cX7_sendMessage 43 = .ok (.getfield 207, 3) := by decide +kernel
theorem dX7_sendMessage_46 : decode cX7_sendMessage 46 = .ok (.putfield 306, 3) := by decide +kernel
theorem dX7_sendMessage_49 : decode cX7_sendMessage 49 = .ok (.aload 4, 2) := by decide +kernel
theorem dX7_sendMessage_51 : decode cX7_sendMessage 51 = .ok (.aload_n 2, 1) := by decide +kernel
theorem dX7_sendMessage_52 : decode cX7_sendMessage 52 = .ok (.getfield 228, 3) := by decide +kernel
theorem dX7_sendMessage_55 : decode cX7_sendMessage 55 = .ok (.putfield 307, 3) := by decide +kernel
theorem dX7_sendMessage_58 : decode cX7_sendMessage 58 = .ok (.aload 4, 2) := by decide +kernel
theorem dX7_sendMessage_60 : decode cX7_sendMessage 60 = .ok (.aload_n 2, 1) := by decide +kernel
theorem dX7_sendMessage_61 : decode cX7_sendMessage 61 = .ok (.getfield 241, 3) := by decide +kernel
theorem dX7_sendMessage_64 : decode cX7_sendMessage 64 = .ok (.iload_n 3, 1) := by decide +kernel
theorem dX7_sendMessage_65 : decode cX7_sendMessage 65 = .ok (.iadd, 1) := by decide +kernel
theorem dX7_sendMessage_66 : decode cX7_sendMessage 66 = .ok (.putfield 308, 3) := by decide +kernel
theorem dX7_sendMessage_69 : decode cX7_sendMessage 69 = .ok (.aload 4, 2) := by decide +kernel
theorem dX7_sendMessage_71 : decode cX7_sendMessage 71 = .ok (.aload_n 2, 1) := by decide +kernel
theorem dX7_sendMessage_72 : decode cX7_sendMessage 72 = .ok (.getfield 195, 3) := by decide +kernel
theorem dX7_sendMessage_75 : decode cX7_sendMessage 75 = .ok (.putfield 309, 3) := by decide +kernel
theorem dX7_sendMessage_78 : decode cX7_sendMessage 78 = .ok (.return_, 1) := by decide +kernel
theorem dX7_sendSign_0 : decode cX7_sendSign 0 = .ok (.aload_n 0, 1) := by decide +kernel
theorem dX7_sendSign_1 : decode cX7_sendSign 1 = .ok (.aload_n 1, 1) := by decide +kernel
theorem dX7_sendSign_2 : decode cX7_sendSign 2 = .ok (.invokevirtual 293, 3) := by decide +kernel
theorem dX7_sendSign_5 : decode cX7_sendSign 5 = .ok (.ifCond .eq 51, 3) := by decide +kernel
theorem dX7_sendSign_8 : decode cX7_sendSign 8 = .ok (.aload_n 1, 1) := by decide +kernel
theorem dX7_sendSign_9 : decode cX7_sendSign 9 = .ok (.getfield 86, 3) := by decide +kernel
theorem dX7_sendSign_12 : decode cX7_sendSign 12 = .ok (.invokevirtual 296, 3) := by decide +kernel
theorem dX7_sendSign_15 : decode cX7_sendSign 15 = .ok (.astore 4, 2) := by decide +kernel
theorem dX7_sendSign_17 : decode cX7_sendSign 17 = .ok (.aload 4, 2) := by decide +kernel
theorem dX7_sendSign_19 : decode cX7_sendSign 19 = .ok (.iload_n 2, 1) := by decide +kernel
theorem dX7_sendSign_20 : decode cX7_sendSign 20 = .ok (.putfield 300, 3) := by decide +kernel
theorem dX7_sendSign_23 : decode cX7_sendSign 23 = .ok (.aload 4, 2) := by decide +kernel
theorem dX7_sendSign_25 : decode cX7_sendSign 25 = .ok (.iload_n 3, 1) := by decide +kernel
theorem dX7_sendSign_26 : decode cX7_sendSign 26 = .ok (.putfield 305, 3) := by decide +kernel
theorem dX7_sendSign_29 : decode cX7_sendSign 29 = .ok (.aload 4, 2) := by decide +kernel
theorem dX7_sendSign_31 : decode cX7_sendSign 31 = .ok (.iconst 0, 1) := by decide +kernel
theorem dX7_sendSign_32 : decode cX7_sendSign 32 = .ok (.putfield 306, 3) := by decide +kernel
theorem dX7_sendSign_35 : decode cX7_sendSign 35 = .ok (.aload 4, 2) := by decide +kernel
theorem dX7_sendSign_37 : decode cX7_sendSign 37 = .ok (.iconst 0, 1) := by decide +kernel
theorem dX7_sendSign_38 : decode cX7_sendSign 38 = .ok (.putfield 307, 3) := by decide +kernel
theorem dX7_sendSign_41 : decode cX7_sendSign 41 = .ok (.aload 4, 2) := by decide +kernel
theorem dX7_sendSign_43 : decode cX7_sendSign 43 = .ok (.iconst 0, 1) := by decide +kernel
theorem dX7_sendSign_44 : decode cX7_sendSign 44 = .ok (.putfield 308, 3) := by decide +kernel
theorem dX7_sendSign_47 : decode cX7_sendSign 47 = .ok (.aload 4, 2) := by decide +kernel
theorem dX7_sendSign_49 : decode cX7_sendSign 49 = .ok (.aload_n 0, 1) := by decide +kernel
theorem dX7_sendSign_50 : decode cX7_sendSign 50 = .ok (.getfield 9, 3) := by decide +kernel
theorem dX7_sendSign_53 : decode cX7_sendSign 53 = .ok (.putfield 309, 3) := by decide +kernel
theorem dX7_sendSign_56 : decode cX7_sendSign 56 = .ok (.return_, 1) := by decide +kernel
theorem dX7_countSent_0 : decode cX7_countSent 0 = .ok (.aload_n 1, 1) := by decide +kernel
theorem dX7_countSent_1 : decode cX7_countSent 1 = .ok (.dup, 1) := by decide +kernel
theorem dX7_countSent_2 : decode cX7_countSent 2 = .ok (.getfield 310, 3) := by decide +kernel
theorem dX7_countSent_5 : decode cX7_countSent 5 = .ok (.iconst 1, 1) := by decide +kernel
theorem dX7_countSent_6 : decode cX7_countSent 6 = .ok (.iadd, 1) := by decide +kernel
theorem dX7_countSent_7 : decode cX7_countSent 7 = .ok (.putfield 310, 3) := by decide +kernel
theorem dX7_countSent_10 : decode cX7_countSent 10 = .ok (.aload_n 1, 1) := by decide +kernel
theorem dX7_countSent_11 : decode cX7_countSent 11 = .ok (.getfield 86, 3) := by decide +kernel
theorem dX7_countSent_14 : decode cX7_countSent 14 = .ok (.getfield 313, 3) := by decide +kernel
theorem dX7_countSent_17 : decode cX7_countSent 17 = .ok (.bipush 30, 2) := by decide +kernel
theorem dX7_countSent_19 : decode cX7_countSent 19 = .ok (.if_icmp .lt 16, 3) := by decide +kernel
theorem dX7_countSent_22 : decode cX7_countSent 22 = .ok (.aload_n 0, 1) := by decide +kernel
theorem dX7_countSent_23 : decode cX7_countSent 23 = .ok (.getfield 45, 3) := by decide +kernel
theorem dX7_countSent_26 : decode cX7_countSent 26 = .ok (.bipush 8, 2) := by decide +kernel
theorem dX7_countSent_28 : decode cX7_countSent 28 = .ok (.dup2, 1) := by decide +kernel
theorem dX7_countSent_29 : decode cX7_countSent 29 = .ok (.iaload, 1) := by decide +kernel
theorem dX7_countSent_30 : decode cX7_countSent 30 = .ok (.iconst 1, 1) := by decide +kernel
theorem dX7_countSent_31 : decode cX7_countSent 31 = .ok (.iadd, 1) := by decide +kernel
theorem dX7_countSent_32 : decode cX7_countSent 32 = .ok (.iastore, 1) := by decide +kernel
theorem dX7_countSent_33 : decode cX7_countSent 33 = .ok (.iconst 0, 1) := by decide +kernel
theorem dX7_countSent_34 : decode cX7_countSent 34 = .ok (.ireturn, 1) := by decide +kernel
theorem dX7_countSent_35 : decode cX7_countSent 35 = .ok (.iconst 1, 1) := by decide +kernel
theorem dX7_countSent_36 : decode cX7_countSent 36 = .ok (.ireturn, 1) := by decide +kernel
theorem dX7_tick_0 : decode cX7_tick 0 = .ok (.aload_n 0, 1) := by decide +kernel
theorem dX7_tick_1 : decode cX7_tick 1 = .ok (.dup, 1) := by decide +kernel
theorem dX7_tick_2 : decode cX7_tick 2 = .ok (.getfield 79, 3) := by decide +kernel
theorem dX7_tick_5 : decode cX7_tick 5 = .ok (.iconst 1, 1) := by decide +kernel
theorem dX7_tick_6 : decode cX7_tick 6 = .ok (.iadd, 1) := by decide +kernel
theorem dX7_tick_7 : decode cX7_tick 7 = .ok (.putfield 79, 3) := by decide +kernel
theorem dX7_tick_10 : decode cX7_tick 10 = .ok (.iconst 0, 1) := by decide +kernel
theorem dX7_tick_11 : decode cX7_tick 11 = .ok (.istore_n 1, 1) := by decide +kernel
theorem dX7_tick_12 : decode cX7_tick 12 = .ok (.iload_n 1, 1) := by decide +kernel
theorem dX7_tick_13 : decode cX7_tick 13 = .ok (.bipush 6, 2) := by decide +kernel
theorem dX7_tick_15 : decode cX7_tick 15 = .ok (.if_icmp .ge 40, 3) := by decide +kernel
theorem dX7_tick_18 : decode cX7_tick 18 = .ok (.aload_n 0, 1) := by decide +kernel
theorem dX7_tick_19 : decode cX7_tick 19 = .ok (.getfield 17, 3) := by decide +kernel
theorem dX7_tick_22 : decode cX7_tick 22 = .ok (.iload_n 1, 1) := by decide +kernel
theorem dX7_tick_23 : decode cX7_tick 23 = .ok (.aaload, 1) := by decide +kernel
theorem dX7_tick_24 : decode cX7_tick 24 = .ok (.getfield 82, 3) := by decide +kernel
theorem dX7_tick_27 : decode cX7_tick 27 = .ok (.ifCond .eq 22, 3) := by decide +kernel
theorem dX7_tick_30 : decode cX7_tick 30 = .ok (.aload_n 0, 1) := by decide +kernel
theorem dX7_tick_31 : decode cX7_tick 31 = .ok (.getfield 42, 3) := by decide +kernel
theorem dX7_tick_34 : decode cX7_tick 34 = .ok (.iconst 1, 1) := by decide +kernel
theorem dX7_tick_35 : decode cX7_tick 35 = .ok (.iaload, 1) := by decide +kernel
theorem dX7_tick_36 : decode cX7_tick 36 = .ok (.ifCond .eq 13, 3) := by decide +kernel
theorem dX7_tick_39 : decode cX7_tick 39 = .ok (.aload_n 0, 1) := by decide +kernel
theorem dX7_tick_40 : decode cX7_tick 40 = .ok (.aload_n 0, 1) := by decide +kernel
theorem dX7_tick_41 : decode cX7_tick 41 = .ok (.getfield 17, 3) := by decide +kernel
theorem dX7_tick_44 : decode cX7_tick 44 = .ok (.iload_n 1, 1) := by decide +kernel
theorem dX7_tick_45 : decode cX7_tick 45 = .ok (.aaload, 1) := by decide +kernel
theorem dX7_tick_46 : decode cX7_tick 46 = .ok (.invokevirtual 314, 3) := by decide +kernel
theorem dX7_tick_49 : decode cX7_tick 49 = .ok (.iinc 1 1, 3) := by decide +kernel
theorem dX7_tick_52 : decode cX7_tick 52 = .ok (.goto (-40), 3) := by decide +kernel
theorem dX7_tick_55 : decode cX7_tick 55 = .ok (.iconst 0, 1) := by decide +kernel
theorem dX7_tick_56 : decode cX7_tick 56 = .ok (.istore_n 1, 1) := by decide +kernel
theorem dX7_tick_57 : decode cX7_tick 57 = .ok (.iload_n 1, 1) := by decide +kernel
theorem dX7_tick_58 : decode cX7_tick 58 = .ok (.bipush 6, 2) := by decide +kernel
theorem dX7_tick_60 : decode cX7_tick 60 = .ok (.if_icmp .ge 43, 3) := by decide +kernel
theorem dX7_tick_63 : decode cX7_tick 63 = .ok (.aload_n 0, 1) := by decide +kernel
theorem dX7_tick_64 : decode cX7_tick 64 = .ok (.getfield 17, 3) := by decide +kernel
theorem dX7_tick_67 : decode cX7_tick 67 = .ok (.iload_n 1, 1) := by decide +kernel
theorem dX7_tick_68 : decode cX7_tick 68 = .ok (.aaload, 1) := by decide +kernel
theorem dX7_tick_69 : decode cX7_tick 69 = .ok (.astore_n 2, 1) := by decide +kernel
theorem dX7_tick_70 : decode cX7_tick 70 = .ok (.aload_n 2, 1) := by decide +kernel
theorem dX7_tick_71 : decode cX7_tick 71 = .ok (.aload_n 2, 1) := by decide +kernel
theorem dX7_tick_72 : decode cX7_tick 72 = .ok (.getfield 317, 3) := by decide +kernel
theorem dX7_tick_75 : decode cX7_tick 75 = .ok (.ldc_w 321, 3) := by decide +kernel
theorem dX7_tick_78 : decode cX7_tick 78 = .ok (.fmul, 1) := by decide +kernel
theorem dX7_tick_79 : decode cX7_tick 79 = .ok (.aload_n 2, 1) := by decide +kernel
theorem dX7_tick_80 : decode cX7_tick 80 = .ok (.getfield 310, 3) := by decide +kernel
theorem dX7_tick_83 : decode cX7_tick 83 = .ok (.i2f, 1) := by decide +kernel
theorem dX7_tick_84 : decode cX7_tick 84 = .ok (.ldc_w 322, 3) := by decide +kernel
theorem dX7_tick_87 : decode cX7_tick 87 = .ok (.fmul, 1) := by decide +kernel
theorem dX7_tick_88 : decode cX7_tick 88 = .ok (.fadd, 1) := by decide +kernel
theorem dX7_tick_89 : decode cX7_tick 89 = .ok (.putfield 317, 3) := by decide +kernel
theorem dX7_tick_92 : decode cX7_tick 92 = .ok (.aload_n 2, 1) := by decide +kernel
theorem dX7_tick_93 : decode cX7_tick 93 = .ok (.iconst 0, 1) := by decide +kernel
theorem dX7_tick_94 : decode cX7_tick 94 = .ok (.putfield 310, 3) := by decide +kernel
theorem dX7_tick_97 : decode cX7_tick 97 = .ok (.iinc 1 1, 3) := by decide +kernel
theorem dX7_tick_100 : decode cX7_tick 100 = .ok (.goto (-43), 3) := by decide +kernel
theorem dX7_tick_103 : decode cX7_tick 103 = .ok (.iconst 0, 1) := by decide +kernel
theorem dX7_tick_104 : decode cX7_tick 104 = .ok (.istore_n 1, 1) := by decide +kernel
theorem dX7_tick_105 : decode cX7_tick 105 = .ok (.iload_n 1, 1) := by decide +kernel
theorem dX7_tick_106 : decode cX7_tick 106 = .ok (.bipush 6, 2) := by decide +kernel
theorem dX7_tick_108 : decode cX7_tick 108 = .ok (.if_icmp .ge 14, 3) := by decide +kernel
theorem dX7_tick_111 : decode cX7_tick 111 = .ok (.aload_n 0, 1) := by decide +kernel
theorem dX7_tick_112 : decode cX7_tick 112 = .ok (.iload_n 1, 1) := by decide +kernel
theorem dX7_tick_113 : decode cX7_tick 113 = .ok (.invokevirtual 323, 3) := by decide +kernel
theorem dX7_tick_116 : decode cX7_tick 116 = .ok (.iinc 1 1, 3) := by decide +kernel
theorem dX7_tick_119 : decode cX7_tick 119 = .ok (.goto (-14), 3) := by decide +kernel
theorem dX7_tick_122 : decode cX7_tick 122 = .ok (.return_, 1) := by decide +kernel
theorem dX7_resendLate_0 : decode cX7_resendLate 0 = .ok (.aload_n 1, 1) := by decide +kernel
theorem dX7_resendLate_1 : decode cX7_resendLate 1 = .ok (.getfield 95, 3) := by decide +kernel
theorem dX7_resendLate_4 : decode cX7_resendLate 4 = .ok (.getfield 138, 3) := by decide +kernel
theorem dX7_resendLate_7 : decode cX7_resendLate 7 = .ok (.astore_n 2, 1) := by decide +kernel
theorem dX7_resendLate_8 : decode cX7_resendLate 8 = .ok (.iconst 0, 1) := by decide +kernel
theorem dX7_resendLate_9 : decode cX7_resendLate 9 = .ok (.istore_n 3, 1) := by decide +kernel
theorem dX7_resendLate_10 : decode cX7_resendLate 10 = .ok (.iload_n 3, 1) := by decide +kernel
theorem dX7_resendLate_11 : decode cX7_resendLate 11 = .ok (.aload_n 2, 1) := by decide +kernel
theorem dX7_resendLate_12 : decode cX7_resendLate 12 = .ok (.getfield 142, 3) := by decide +kernel
theorem dX7_resendLate_15 : decode cX7_resendLate 15 = .ok (.if_icmp .ge 52, 3) := by decide +kernel
theorem dX7_resendLate_18 : decode cX7_resendLate 18 = .ok (.iload_n 3, 1) := by decide +kernel
theorem dX7_resendLate_19 : decode cX7_resendLate 19 = .ok (.aload_n 2, 1) := by decide +kernel
theorem dX7_resendLate_20 : decode cX7_resendLate 20 = .ok (.getfield 147, 3) := by decide +kernel
theorem dX7_resendLate_23 : decode cX7_resendLate 23 = .ok (.arraylength, 1) := by decide +kernel
theorem dX7_resendLate_24 : decode cX7_resendLate 24 = .ok (.if_icmp .ge 43, 3) := by decide +kernel
theorem dX7_resendLate_27 : decode cX7_resendLate 27 = .ok (.aload_n 0, 1) := by decide +kernel
theorem dX7_resendLate_28 : decode cX7_resendLate 28 = .ok (.getfield 79, 3) := by decide +kernel
theorem dX7_resendLate_31 : decode cX7_resendLate 31 = .ok (.aload_n 2, 1) := by decide +kernel
theorem dX7_resendLate_32 : decode cX7_resendLate 32 = .ok (.getfield 147, 3) := by decide +kernel
theorem dX7_resendLate_35 : decode cX7_resendLate 35 = .ok (.iload_n 3, 1) := by decide +kernel
theorem dX7_resendLate_36 : decode cX7_resendLate 36 = .ok (.aaload, 1) := by decide +kernel
theorem dX7_resendLate_37 : decode cX7_resendLate 37 = .ok (.getfield 286, 3) := by decide +kernel
theorem dX7_resendLate_40 : decode cX7_resendLate 40 = .ok (.isub, 1) := by decide +kernel
theorem dX7_resendLate_41 : decode cX7_resendLate 41 = .ok (.aload_n 0, 1) := by decide +kernel
theorem dX7_resendLate_42 : decode cX7_resendLate 42 = .ok (.getfield 42, 3) := by decide +kernel
theorem dX7_resendLate_45 : decode cX7_resendLate 45 = .ok (.iconst 1, 1) := by decide +kernel
theorem dX7_resendLate_46 : decode cX7_resendLate 46 = .ok (.iaload, 1) := by decide +kernel
theorem dX7_resendLate_47 : decode cX7_resendLate 47 = .ok (.if_icmp .lt 14, 3) := by decide +kernel
theorem dX7_resendLate_50 : decode cX7_resendLate 50 = .ok (.aload_n 0, 1) := by decide +kernel
theorem dX7_resendLate_51 : decode cX7_resendLate 51 = .ok (.aload_n 1, 1) := by decide +kernel
theorem dX7_resendLate_52 : decode cX7_resendLate 52 = .ok (.aload_n 2, 1) := by decide +kernel
theorem dX7_resendLate_53 : decode cX7_resendLate 53 = .ok (.getfield 147, 3) := by decide +kernel
theorem dX7_resendLate_56 : decode cX7_resendLate 56 = .ok (.iload_n 3, 1) := by decide +kernel
theorem dX7_resendLate_57 : decode cX7_resendLate 57 = .ok (.aaload, 1) := by decide +kernel
theorem dX7_resendLate_58 : decode cX7_resendLate 58 = .ok (.invokevirtual 150, 3) := by decide +kernel
theorem dX7_resendLate_61 : decode cX7_resendLate 61 = .ok (.iinc 3 1, 3) := by decide +kernel
theorem dX7_resendLate_64 : decode cX7_resendLate 64 = .ok (.goto (-54), 3) := by decide +kernel
theorem dX7_resendLate_67 : decode cX7_resendLate 67 = .ok (.return_, 1) := by decide +kernel
theorem dX7_expire_0 : decode cX7_expire 0 = .ok (.aload_n 0, 1) := by decide +kernel
theorem dX7_expire_1 : decode cX7_expire 1 = .ok (.getfield 17, 3) := by decide +kernel
theorem dX7_expire_4 : decode cX7_expire 4 = .ok (.iload_n 1, 1) := by decide +kernel
theorem dX7_expire_5 : decode cX7_expire 5 = .ok (.aaload, 1) := by decide +kernel
theorem dX7_expire_6 : decode cX7_expire 6 = .ok (.astore_n 2, 1) := by decide +kernel
theorem dX7_expire_7 : decode cX7_expire 7 = .ok (.aload_n 2, 1) := by decide +kernel
theorem dX7_expire_8 : decode cX7_expire 8 = .ok (.getfield 95, 3) := by decide +kernel
theorem dX7_expire_11 : decode cX7_expire 11 = .ok (.getfield 326, 3) := by decide +kernel
theorem dX7_expire_14 : decode cX7_expire 14 = .ok (.ifCond .eq 14, 3) := by decide +kernel
theorem dX7_expire_17 : decode cX7_expire 17 = .ok (.aload_n 2, 1) := by decide +kernel
theorem dX7_expire_18 : decode cX7_expire 18 = .ok (.getfield 82, 3) := by decide +kernel
theorem dX7_expire_21 : decode cX7_expire 21 = .ok (.ifCond .ne 7, 3) := by decide +kernel
theorem dX7_expire_24 : decode cX7_expire 24 = .ok (.iconst 1, 1) := by decide +kernel
theorem dX7_expire_25 : decode cX7_expire 25 = .ok (.goto 4, 3) := by decide +kernel
theorem dX7_expire_28 : decode cX7_expire 28 = .ok (.iconst 0, 1) := by decide +kernel
theorem dX7_expire_29 : decode cX7_expire 29 = .ok (.istore_n 3, 1) := by decide +kernel
theorem dX7_expire_30 : decode cX7_expire 30 = .ok (.iload_n 3, 1) := by decide +kernel
theorem dX7_expire_31 : decode cX7_expire 31 = .ok (.ifCond .eq 40, 3) := by decide +kernel
theorem dX7_expire_34 : decode cX7_expire 34 = .ok (.aload_n 0, 1) := by decide +kernel
theorem dX7_expire_35 : decode cX7_expire 35 = .ok (.getfield 79, 3) := by decide +kernel
theorem dX7_expire_38 : decode cX7_expire 38 = .ok (.aload_n 2, 1) := by decide +kernel
theorem dX7_expire_39 : decode cX7_expire 39 = .ok (.getfield 95, 3) := by decide +kernel
theorem dX7_expire_42 : decode cX7_expire 42 = .ok (.getfield 108, 3) := by decide +kernel
theorem dX7_expire_45 : decode cX7_expire 45 = .ok (.isub, 1) := by decide +kernel
theorem dX7_expire_46 : decode cX7_expire 46 = .ok (.aload_n 0, 1) := by decide +kernel
theorem dX7_expire_47 : decode cX7_expire 47 = .ok (.getfield 42, 3) := by decide +kernel
theorem dX7_expire_50 : decode cX7_expire 50 = .ok (.iconst 2, 1) := by decide +kernel
theorem dX7_expire_51 : decode cX7_expire 51 = .ok (.iaload, 1) := by decide +kernel
theorem dX7_expire_52 : decode cX7_expire 52 = .ok (.if_icmp .lt 19, 3) := by decide +kernel
theorem dX7_expire_55 : decode cX7_expire 55 = .ok (.aload_n 0, 1) := by decide +kernel
theorem dX7_expire_56 : decode cX7_expire 56 = .ok (.iload_n 1, 1) := by decide +kernel
theorem dX7_expire_57 : decode cX7_expire 57 = .ok (.invokevirtual 104, 3) := by decide +kernel
theorem dX7_expire_60 : decode cX7_expire 60 = .ok (.aload_n 0, 1) := by decide +kernel
theorem dX7_expire_61 : decode cX7_expire 61 = .ok (.getfield 45, 3) := by decide +kernel
theorem dX7_expire_64 : decode cX7_expire 64 = .ok (.bipush 7, 2) := by decide +kernel
theorem dX7_expire_66 : decode cX7_expire 66 = .ok (.dup2, 1) := by decide +kernel
theorem dX7_expire_67 : decode cX7_expire 67 = .ok (.iaload, 1) := by decide +kernel
theorem dX7_expire_68 : decode cX7_expire 68 = .ok (.iconst 1, 1) := by decide +kernel
theorem dX7_expire_69 : decode cX7_expire 69 = .ok (.iadd, 1) := by decide +kernel
theorem dX7_expire_70 : decode cX7_expire 70 = .ok (.iastore, 1) := by decide +kernel
theorem dX7_expire_71 : decode cX7_expire 71 = .ok (.return_, 1) := by decide +kernel
theorem dX8_init_0 : decode cX8_init 0 = .ok (.aload_n 0, 1) := by decide +kernel
theorem dX8_init_1 : decode cX8_init 1 = .ok (.invokespecial 1, 3) := by decide +kernel
theorem dX8_init_4 : decode cX8_init 4 = .ok (.aload_n 0, 1) := by decide +kernel
theorem dX8_init_5 : decode cX8_init 5 = .ok (.aload_n 1, 1) := by decide +kernel
theorem dX8_init_6 : decode cX8_init 6 = .ok (.putfield 7, 3) := by decide +kernel
theorem dX8_init_9 : decode cX8_init 9 = .ok (.return_, 1) := by decide +kernel
theorem dX8_copyFrom_0 : decode cX8_copyFrom 0 = .ok (.aload_n 0, 1) := by decide +kernel
theorem dX8_copyFrom_1 : decode cX8_copyFrom 1 = .ok (.aload_n 1, 1) := by decide +kernel
theorem dX8_copyFrom_2 : decode cX8_copyFrom 2 = .ok (.getfield 7, 3) := by decide +kernel
theorem dX8_copyFrom_5 : decode cX8_copyFrom 5 = .ok (.putfield 7, 3) := by decide +kernel
theorem dX8_copyFrom_8 : decode cX8_copyFrom 8 = .ok (.aload_n 0, 1) := by decide +kernel
theorem dX8_copyFrom_9 : decode cX8_copyFrom 9 = .ok (.aload_n 1, 1) := by decide +kernel
theorem dX8_copyFrom_10 : decode cX8_copyFrom 10 = .ok (.getfield 13, 3) := by decide +kernel
theorem dX8_copyFrom_13 : decode cX8_copyFrom 13 = .ok (.putfield 13, 3) := by decide +kernel
theorem dX8_copyFrom_16 : decode cX8_copyFrom 16 = .ok (.aload_n 0, 1) := by decide +kernel
theorem dX8_copyFrom_17 : decode cX8_copyFrom 17 = .ok (.aload_n 1, 1) := by decide +kernel
theorem dX8_copyFrom_18 : decode cX8_copyFrom 18 = .ok (.getfield 17, 3) := by decide +kernel
theorem dX8_copyFrom_21 : decode cX8_copyFrom 21 = .ok (.putfield 17, 3) := by decide +kernel
theorem dX8_copyFrom_24 : decode cX8_copyFrom 24 = .ok (.aload_n 0, 1) := by decide +kernel
theorem dX8_copyFrom_25 : decode cX8_copyFrom 25 = .ok (.aload_n 1, 1) := by decide +kernel
theorem dX8_copyFrom_26 : decode cX8_copyFrom 26 = .ok (.getfield 20, 3) := by decide +kernel
theorem dX8_copyFrom_29 : decode cX8_copyFrom 29 = .ok (.putfield 20, 3) := by decide +kernel
theorem dX8_copyFrom_32 : decode cX8_copyFrom 32 = .ok (.return_, 1) := by decide +kernel
theorem dX9_init_0 : decode cX9_init 0 = .ok (.aload_n 0, 1) := by decide +kernel
theorem dX9_init_1 : decode cX9_init 1 = .ok (.invokespecial 3, 3) := by decide +kernel
theorem dX9_init_4 : decode cX9_init 4 = .ok (.aload_n 0, 1) := by decide +kernel
theorem dX9_init_5 : decode cX9_init 5 = .ok (.sipush 512, 3) := by decide +kernel
theorem dX9_init_8 : decode cX9_init 8 = .ok (.anewarray 9, 3) := by decide +kernel
theorem dX9_init_11 : decode cX9_init 11 = .ok (.putfield 11, 3) := by decide +kernel
theorem dX9_init_14 : decode cX9_init 14 = .ok (.aload_n 0, 1) := by decide +kernel
theorem dX9_init_15 : decode cX9_init 15 = .ok (.sipush 512, 3) := by decide +kernel
theorem dX9_init_18 : decode cX9_init 18 = .ok (.newarray .int, 2) := by decide +kernel
theorem dX9_init_20 : decode cX9_init 20 = .ok (.putfield 17, 3) := by decide +kernel
theorem dX9_init_23 : decode cX9_init 23 = .ok (.iconst 0, 1) := by decide +kernel
theorem dX9_init_24 : decode cX9_init 24 = .ok (.istore_n 2, 1) := by decide +kernel
theorem dX9_init_25 : decode cX9_init 25 = .ok (.iload_n 2, 1) := by decide +kernel
theorem dX9_init_26 : decode cX9_init 26 = .ok (.sipush 512, 3) := by decide +kernel
theorem dX9_init_29 : decode cX9_init 29 = .ok (.if_icmp .ge 16, 3) := by decide +kernel
theorem dX9_init_32 : decode cX9_init 32 = .ok (.aload_n 0, 1) := by decide +kernel
theorem dX9_init_33 : decode cX9_init 33 = .ok (.getfield 11, 3) := by decide +kernel
theorem dX9_init_36 : decode cX9_init 36 = .ok (.iload_n 2, 1) := by decide +kernel
theorem dX9_init_37 : decode cX9_init 37 = .ok (.aload_n 1, 1) := by decide +kernel
theorem dX9_init_38 : decode cX9_init 38 = .ok (.aastore, 1) := by decide +kernel
theorem dX9_init_39 : decode cX9_init 39 = .ok (.iinc 2 1, 3) := by decide +kernel
theorem dX9_init_42 : decode cX9_init 42 = .ok (.goto (-17), 3) := by decide +kernel
theorem dX9_init_45 : decode cX9_init 45 = .ok (.return_, 1) := by decide +kernel
theorem dX9_placeOf_0 : decode cX9_placeOf 0 = .ok (.iconst 0, 1) := by decide +kernel
theorem dX9_placeOf_1 : decode cX9_placeOf 1 = .ok (.istore_n 2, 1) := by decide +kernel
theorem dX9_placeOf_2 : decode cX9_placeOf 2 = .ok (.iload_n 2, 1) := by decide +kernel
theorem dX9_placeOf_3 : decode cX9_placeOf 3 = .ok (.aload_n 0, 1) := by decide +kernel
theorem dX9_placeOf_4 : decode cX9_placeOf 4 = .ok (.getfield 21, 3) := by decide +kernel
theorem dX9_placeOf_7 : decode cX9_placeOf 7 = .ok (.if_icmp .ge 31, 3) := by decide +kernel
theorem dX9_placeOf_10 : decode cX9_placeOf 10 = .ok (.iload_n 2, 1) := by decide +kernel
theorem dX9_placeOf_11 : decode cX9_placeOf 11 = .ok (.sipush 512, 3) := by decide +kernel
theorem dX9_placeOf_14 : decode cX9_placeOf 14 = .ok (.if_icmp .ge 24, 3) := by decide +kernel
theorem dX9_placeOf_17 : decode cX9_placeOf 17 = .ok (.aload_n 0, 1) := by decide +kernel
theorem dX9_placeOf_18 : decode cX9_placeOf 18 = .ok (.getfield 11, 3) := by decide +kernel
theorem dX9_placeOf_21 : decode cX9_placeOf 21 = .ok (.iload_n 2, 1) := by decide +kernel
theorem dX9_placeOf_22 : decode cX9_placeOf 22 = .ok (.aaload, 1) := by decide +kernel
theorem dX9_placeOf_23 : decode cX9_placeOf 23 = .ok (.aload_n 1, 1) := by decide +kernel
theorem dX9_placeOf_24 : decode cX9_placeOf 24 = .ok (.invokevirtual 25, 3) := by decide +kernel
theorem dX9_placeOf_27 : decode cX9_placeOf 27 = .ok (.ifCond .eq 5, 3) := by decide +kernel
theorem dX9_placeOf_30 : decode cX9_placeOf 30 = .ok (.iload_n 2, 1) := by decide +kernel
theorem dX9_placeOf_31 : decode cX9_placeOf 31 = .ok (.ireturn, 1) := by decide +kernel
theorem dX9_placeOf_32 : decode cX9_placeOf 32 = .ok (.iinc 2 1, 3) := by decide +kernel
theorem dX9_placeOf_35 : decode cX9_placeOf 35 = .ok (.goto (-33), 3) := by decide +kernel
theorem dX9_placeOf_38 : decode cX9_placeOf 38 = .ok (.iconst (-1), 1) := by decide +kernel
theorem dX9_placeOf_39 : decode cX9_placeOf 39 = .ok (.ireturn, 1) := by decide +kernel
theorem dX9_count_0 : decode cX9_count 0 = .ok (.aload_n 0, 1) := by decide +kernel
theorem dX9_count_1 : decode cX9_count 1 = .ok (.aload_n 1, 1) := by decide +kernel
theorem dX9_count_2 : decode cX9_count 2 = .ok (.invokevirtual 29, 3) := by decide +kernel
theorem dX9_count_5 : decode cX9_count 5 = .ok (.istore_n 2, 1) := by decide +kernel
theorem dX9_count_6 : decode cX9_count 6 = .ok (.iload_n 2, 1) := by decide +kernel
theorem dX9_count_7 : decode cX9_count 7 = .ok (.ifCond .ge 49, 3) := by decide +kernel
theorem dX9_count_10 : decode cX9_count 10 = .ok (.aload_n 0, 1) := by decide +kernel
theorem dX9_count_11 : decode cX9_count 11 = .ok (.getfield 21, 3) := by decide +kernel
theorem dX9_count_14 : decode cX9_count 14 = .ok (.ifCond .lt 42, 3) := by decide +kernel
theorem dX9_count_17 : decode cX9_count 17 = .ok (.aload_n 0, 1) := by decide +kernel
theorem dX9_count_18 : decode cX9_count 18 = .ok (.getfield 21, 3) := by decide +kernel
theorem dX9_count_21 : decode cX9_count 21 = .ok (.sipush 512, 3) := by decide +kernel
theorem dX9_count_24 : decode cX9_count 24 = .ok (.if_icmp .ge 32, 3) := by decide +kernel
theorem dX9_count_27 : decode cX9_count 27 = .ok (.aload_n 0, 1) := by decide +kernel
theorem dX9_count_28 : decode cX9_count 28 = .ok (.getfield 21, 3) := by decide +kernel
theorem dX9_count_31 : decode cX9_count 31 = .ok (.istore_n 2, 1) := by decide +kernel
theorem dX9_count_32 : decode cX9_count 32 = .ok (.aload_n 0, 1) := by decide +kernel
theorem dX9_count_33 : decode cX9_count 33 = .ok (.getfield 11, 3) := by decide +kernel
theorem dX9_count_36 : decode cX9_count 36 = .ok (.iload_n 2, 1) := by decide +kernel
theorem dX9_count_37 : decode cX9_count 37 = .ok (.aload_n 1, 1) := by decide +kernel
theorem dX9_count_38 : decode cX9_count 38 = .ok (.aastore, 1) := by decide +kernel
theorem dX9_count_39 : decode cX9_count 39 = .ok (.aload_n 0, 1) := by decide +kernel
theorem dX9_count_40 : decode cX9_count 40 = .ok (.getfield 17, 3) := by decide +kernel
theorem dX9_count_43 : decode cX9_count 43 = .ok (.iload_n 2, 1) := by decide +kernel
theorem dX9_count_44 : decode cX9_count 44 = .ok (.iconst 0, 1) := by decide +kernel
theorem dX9_count_45 : decode cX9_count 45 = .ok (.iastore, 1) := by decide +kernel
theorem dX9_count_46 : decode cX9_count 46 = .ok (.aload_n 0, 1) := by decide +kernel
theorem dX9_count_47 : decode cX9_count 47 = .ok (.dup, 1) := by decide +kernel
theorem dX9_count_48 : decode cX9_count 48 = .ok (.getfield 21, 3) := by decide +kernel
theorem dX9_count_51 : decode cX9_count 51 = .ok (.iconst 1, 1) := by decide +kernel
theorem dX9_count_52 : decode cX9_count 52 = .ok (.iadd, 1) := by decide +kernel
theorem dX9_count_53 : decode cX9_count 53 = .ok (.putfield 21, 3) := by decide +kernel
theorem dX9_count_56 : decode cX9_count 56 = .ok (.iload_n 2, 1) := by decide +kernel
theorem dX9_count_57 : decode cX9_count 57 = .ok (.ifCond .lt 13, 3) := by decide +kernel
theorem dX9_count_60 : decode cX9_count 60 = .ok (.aload_n 0, 1) := by decide +kernel
theorem dX9_count_61 : decode cX9_count 61 = .ok (.getfield 17, 3) := by decide +kernel
theorem dX9_count_64 : decode cX9_count 64 = .ok (.iload_n 2, 1) := by decide +kernel
theorem dX9_count_65 : decode cX9_count 65 = .ok (.dup2, 1) := by decide +kernel
theorem dX9_count_66 : decode cX9_count 66 = .ok (.iaload, 1) := by decide +kernel
theorem dX9_count_67 : decode cX9_count 67 = .ok (.iconst 1, 1) := by decide +kernel
theorem dX9_count_68 : decode cX9_count 68 = .ok (.iadd, 1) := by decide +kernel
theorem dX9_count_69 : decode cX9_count 69 = .ok (.iastore, 1) := by decide +kernel
theorem dX9_count_70 : decode cX9_count 70 = .ok (.return_, 1) := by decide +kernel
theorem dX9_copyFrom_0 : decode cX9_copyFrom 0 = .ok (.aload_n 0, 1) := by decide +kernel
theorem dX9_copyFrom_1 : decode cX9_copyFrom 1 = .ok (.aload_n 1, 1) := by decide +kernel
theorem dX9_copyFrom_2 : decode cX9_copyFrom 2 = .ok (.getfield 21, 3) := by decide +kernel
theorem dX9_copyFrom_5 : decode cX9_copyFrom 5 = .ok (.putfield 21, 3) := by decide +kernel
theorem dX9_copyFrom_8 : decode cX9_copyFrom 8 = .ok (.iconst 0, 1) := by decide +kernel
theorem dX9_copyFrom_9 : decode cX9_copyFrom 9 = .ok (.istore_n 2, 1) := by decide +kernel
theorem dX9_copyFrom_10 : decode cX9_copyFrom 10 = .ok (.iload_n 2, 1) := by decide +kernel
theorem dX9_copyFrom_11 : decode cX9_copyFrom 11 = .ok (.aload_n 0, 1) := by decide +kernel
theorem dX9_copyFrom_12 : decode cX9_copyFrom 12 = .ok (.getfield 21, 3) := by decide +kernel
theorem dX9_copyFrom_15 : decode cX9_copyFrom 15 = .ok (.if_icmp .ge 40, 3) := by decide +kernel
theorem dX9_copyFrom_18 : decode cX9_copyFrom 18 = .ok (.iload_n 2, 1) := by decide +kernel
theorem dX9_copyFrom_19 : decode cX9_copyFrom 19 = .ok (.sipush 512, 3) := by decide +kernel
theorem dX9_copyFrom_22 : decode cX9_copyFrom 22 = .ok (.if_icmp .ge 33, 3) := by decide +kernel
theorem dX9_copyFrom_25 : decode cX9_copyFrom 25 = .ok (.aload_n 0, 1) := by decide +kernel
theorem dX9_copyFrom_26 : decode cX9_copyFrom 26 = .ok (.getfield 11, 3) := by decide +kernel
theorem dX9_copyFrom_29 : decode cX9_copyFrom 29 = .ok (.iload_n 2, 1) := by decide +kernel
theorem dX9_copyFrom_30 : decode cX9_copyFrom 30 = .ok (.aload_n 1, 1) := by decide +kernel
theorem dX9_copyFrom_31 : decode cX9_copyFrom 31 = .ok (.getfield 11, 3) := by decide +kernel
theorem dX9_copyFrom_34 : decode cX9_copyFrom 34 = .ok (.iload_n 2, 1) := by decide +kernel
theorem dX9_copyFrom_35 : decode cX9_copyFrom 35 = .ok (.aaload, 1) := by decide +kernel
theorem dX9_copyFrom_36 : decode cX9_copyFrom 36 = .ok (.aastore, 1) := by decide +kernel
theorem dX9_copyFrom_37 : decode cX9_copyFrom 37 = .ok (.aload_n 0, 1) := by decide +kernel
theorem dX9_copyFrom_38 : decode cX9_copyFrom 38 = .ok (.getfield 17, 3) := by decide +kernel
theorem dX9_copyFrom_41 : decode cX9_copyFrom 41 = .ok (.iload_n 2, 1) := by decide +kernel
theorem dX9_copyFrom_42 : decode cX9_copyFrom 42 = .ok (.aload_n 1, 1) := by decide +kernel
theorem dX9_copyFrom_43 : decode cX9_copyFrom 43 = .ok (.getfield 17, 3) := by decide +kernel
theorem dX9_copyFrom_46 : decode cX9_copyFrom 46 = .ok (.iload_n 2, 1) := by decide +kernel
theorem dX9_copyFrom_47 : decode cX9_copyFrom 47 = .ok (.iaload, 1) := by decide +kernel
theorem dX9_copyFrom_48 : decode cX9_copyFrom 48 = .ok (.iastore, 1) := by decide +kernel
theorem dX9_copyFrom_49 : decode cX9_copyFrom 49 = .ok (.iinc 2 1, 3) := by decide +kernel
theorem dX9_copyFrom_52 : decode cX9_copyFrom 52 = .ok (.goto (-42), 3) := by decide +kernel
theorem dX9_copyFrom_55 : decode cX9_copyFrom 55 = .ok (.return_, 1) := by decide +kernel
theorem dX10_init_0 : decode cX10_init 0 = .ok (.aload_n 0, 1) := by decide +kernel
theorem dX10_init_1 : decode cX10_init 1 = .ok (.invokespecial 3, 3) := by decide +kernel
theorem dX10_init_4 : decode cX10_init 4 = .ok (.iconst 0, 1) := by decide +kernel
theorem dX10_init_5 : decode cX10_init 5 = .ok (.iload_n 2, 1) := by decide +kernel
theorem dX10_init_6 : decode cX10_init 6 = .ok (.aload_n 1, 1) := by decide +kernel
theorem dX10_init_7 : decode cX10_init 7 = .ok (.arraylength, 1) := by decide +kernel
theorem dX10_init_8 : decode cX10_init 8 = .ok (.invokestatic 9, 3) := by decide +kernel
theorem dX10_init_11 : decode cX10_init 11 = .ok (.invokestatic 15, 3) := by decide +kernel
theorem dX10_init_14 : decode cX10_init 14 = .ok (.istore_n 3, 1) := by decide +kernel
theorem dX10_init_15 : decode cX10_init 15 = .ok (.iload_n 3, 1) := by decide +kernel
theorem dX10_init_16 : decode cX10_init 16 = .ok (.newarray .char, 2) := by decide +kernel
theorem dX10_init_18 : decode cX10_init 18 = .ok (.astore 4, 2) := by decide +kernel
theorem dX10_init_20 : decode cX10_init 20 = .ok (.iconst 4, 1) := by decide +kernel
theorem dX10_init_21 : decode cX10_init 21 = .ok (.newarray .long, 2) := by decide +kernel
theorem dX10_init_23 : decode cX10_init 23 = .ok (.astore 5, 2) := by decide +kernel
theorem dX10_init_25 : decode cX10_init 25 = .ok (.iconst 0, 1) := by decide +kernel
theorem dX10_init_26 : decode cX10_init 26 = .ok (.istore 6, 2) := by decide +kernel
theorem dX10_init_28 : decode cX10_init 28 = .ok (.iconst 0, 1) := by decide +kernel
theorem dX10_init_29 : decode cX10_init 29 = .ok (.istore 7, 2) := by decide +kernel
theorem dX10_init_31 : decode cX10_init 31 = .ok (.iload 7, 2) := by decide +kernel
theorem dX10_init_33 : decode cX10_init 33 = .ok (.iload_n 3, 1) := by decide +kernel
theorem dX10_init_34 : decode cX10_init 34 = .ok (.if_icmp .ge 58, 3) := by decide +kernel
theorem dX10_init_37 : decode cX10_init 37 = .ok (.aload_n 1, 1) := by decide +kernel
theorem dX10_init_38 : decode cX10_init 38 = .ok (.iload 7, 2) := by decide +kernel
theorem dX10_init_40 : decode cX10_init 40 = .ok (.caload, 1) := by decide +kernel
theorem dX10_init_41 : decode cX10_init 41 = .ok (.istore 8, 2) := by decide +kernel
theorem dX10_init_43 : decode cX10_init 43 = .ok (.aload 4, 2) := by decide +kernel
theorem dX10_init_45 : decode cX10_init 45 = .ok (.iload 7, 2) := by decide +kernel
theorem dX10_init_47 : decode cX10_init 47 = .ok (.iload 8, 2) := by decide +kernel
theorem dX10_init_49 : decode cX10_init 49 = .ok (.castore, 1) := by decide +kernel
theorem dX10_init_50 : decode cX10_init 50 = .ok (.iload 8, 2) := by decide +kernel
theorem dX10_init_52 : decode cX10_init 52 = .ok (.bipush 47, 2) := by decide +kernel
theorem dX10_init_54 : decode cX10_init 54 = .ok (.if_icmp .ne 9, 3) := by decide +kernel
theorem dX10_init_57 : decode cX10_init 57 = .ok (.iinc 6 1, 3) := by decide +kernel
theorem dX10_init_60 : decode cX10_init 60 = .ok (.goto 26, 3) := by decide +kernel
theorem dX10_init_63 : decode cX10_init 63 = .ok (.iload 6, 2) := by decide +kernel
theorem dX10_init_65 : decode cX10_init 65 = .ok (.iconst 4, 1) := by decide +kernel
theorem dX10_init_66 : decode cX10_init 66 = .ok (.if_icmp .ge 20, 3) := by decide +kernel
theorem dX10_init_69 : decode cX10_init 69 = .ok (.aload 5, 2) := by decide +kernel
theorem dX10_init_71 : decode cX10_init 71 = .ok (.iload 6, 2) := by decide +kernel
theorem dX10_init_73 : decode cX10_init 73 = .ok (.aload 5, 2) := by decide +kernel
theorem dX10_init_75 : decode cX10_init 75 = .ok (.iload 6, 2) := by decide +kernel
theorem dX10_init_77 : decode cX10_init 77 = .ok (.laload, 1) := by decide +kernel
theorem dX10_init_78 : decode cX10_init 78 = .ok (.bipush 7, 2) := by decide +kernel
theorem dX10_init_80 : decode cX10_init 80 = .ok (.lshl, 1) := by decide +kernel
theorem dX10_init_81 : decode cX10_init 81 = .ok (.iload 8, 2) := by decide +kernel
theorem dX10_init_83 : decode cX10_init 83 = .ok (.i2l, 1) := by decide +kernel
theorem dX10_init_84 : decode cX10_init 84 = .ok (.lor, 1) := by decide +kernel
theorem dX10_init_85 : decode cX10_init 85 = .ok (.lastore, 1) := by decide +kernel
theorem dX10_init_86 : decode cX10_init 86 = .ok (.iinc 7 1, 3) := by decide +kernel
theorem dX10_init_89 : decode cX10_init 89 = .ok (.goto (-58), 3) := by decide +kernel
theorem dX10_init_92 : decode cX10_init 92 = .ok (.aload_n 0, 1) := by decide +kernel
theorem dX10_init_93 : decode cX10_init 93 = .ok (.aload 4, 2) := by decide +kernel
theorem dX10_init_95 : decode cX10_init 95 = .ok (.putfield 18, 3) := by decide +kernel
theorem dX10_init_98 : decode cX10_init 98 = .ok (.aload_n 0, 1) := by decide +kernel
theorem dX10_init_99 : decode cX10_init 99 = .ok (.aload 5, 2) := by decide +kernel
theorem dX10_init_101 : decode cX10_init 101 = .ok (.putfield 24, 3) := by decide +kernel
theorem dX10_init_104 : decode cX10_init 104 = .ok (.aload_n 0, 1) := by decide +kernel
theorem dX10_init_105 : decode cX10_init 105 = .ok (.iload_n 3, 1) := by decide +kernel
theorem dX10_init_106 : decode cX10_init 106 = .ok (.ifCond .ne 7, 3) := by decide +kernel
theorem dX10_init_109 : decode cX10_init 109 = .ok (.iconst 0, 1) := by decide +kernel
theorem dX10_init_110 : decode cX10_init 110 = .ok (.goto 7, 3) := by decide +kernel
theorem dX10_init_113 : decode cX10_init 113 = .ok (.iload 6, 2) := by decide +kernel
theorem dX10_init_115 : decode cX10_init 115 = .ok (.iconst 1, 1) := by decide +kernel
theorem dX10_init_116 : decode cX10_init 116 = .ok (.iadd, 1) := by decide +kernel
theorem dX10_init_117 : decode cX10_init 117 = .ok (.putfield 28, 3) := by decide +kernel
theorem dX10_init_120 : decode cX10_init 120 = .ok (.aload_n 0, 1) := by decide +kernel
theorem dX10_init_121 : decode cX10_init 121 = .ok (.iload_n 3, 1) := by decide +kernel
theorem dX10_init_122 : decode cX10_init 122 = .ok (.ifCond .le 18, 3) := by decide +kernel
theorem dX10_init_125 : decode cX10_init 125 = .ok (.aload 4, 2) := by decide +kernel
theorem dX10_init_127 : decode cX10_init 127 = .ok (.iload_n 3, 1) := by decide +kernel
theorem dX10_init_128 : decode cX10_init 128 = .ok (.iconst 1, 1) := by decide +kernel
theorem dX10_init_129 : decode cX10_init 129 = .ok (.isub, 1) := by decide +kernel
theorem dX10_init_130 : decode cX10_init 130 = .ok (.caload, 1) := by decide +kernel
theorem dX10_init_131 : decode cX10_init 131 = .ok (.bipush 35, 2) := by decide +kernel
theorem dX10_init_133 : decode cX10_init 133 = .ok (.if_icmp .ne 7, 3) := by decide +kernel
theorem dX10_init_136 : decode cX10_init 136 = .ok (.iconst 1, 1) := by decide +kernel
theorem dX10_init_137 : decode cX10_init 137 = .ok (.goto 4, 3) := by decide +kernel
theorem dX10_init_140 : decode cX10_init 140 = .ok (.iconst 0, 1) := by decide +kernel
theorem dX10_init_141 : decode cX10_init 141 = .ok (.putfield 32, 3) := by decide +kernel
theorem dX10_init_144 : decode cX10_init 144 = .ok (.aload_n 0, 1) := by decide +kernel
theorem dX10_init_145 : decode cX10_init 145 = .ok (.aload_n 0, 1) := by decide +kernel
theorem dX10_init_146 : decode cX10_init 146 = .ok (.getfield 32, 3) := by decide +kernel
theorem dX10_init_149 : decode cX10_init 149 = .ok (.ifCond .eq 12, 3) := by decide +kernel
theorem dX10_init_152 : decode cX10_init 152 = .ok (.aload_n 0, 1) := by decide +kernel
theorem dX10_init_153 : decode cX10_init 153 = .ok (.getfield 28, 3) := by decide +kernel
theorem dX10_init_156 : decode cX10_init 156 = .ok (.iconst 1, 1) := by decide +kernel
theorem dX10_init_157 : decode cX10_init 157 = .ok (.isub, 1) := by decide +kernel
theorem dX10_init_158 : decode cX10_init 158 = .ok (.goto 7, 3) := by decide +kernel
theorem dX10_init_161 : decode cX10_init 161 = .ok (.aload_n 0, 1) := by decide +kernel
theorem dX10_init_162 : decode cX10_init 162 = .ok (.getfield 28, 3) := by decide +kernel
theorem dX10_init_165 : decode cX10_init 165 = .ok (.putfield 36, 3) := by decide +kernel
theorem dX10_init_168 : decode cX10_init 168 = .ok (.return_, 1) := by decide +kernel
theorem dX10_findError_0 : decode cX10_findError 0 = .ok (.iconst 1, 1) := by decide +kernel
theorem dX10_findError_1 : decode cX10_findError 1 = .ok (.istore_n 3, 1) := by decide +kernel
theorem dX10_findError_2 : decode cX10_findError 2 = .ok (.iconst 0, 1) := by decide +kernel
theorem dX10_findError_3 : decode cX10_findError 3 = .ok (.istore 4, 2) := by decide +kernel
theorem dX10_findError_5 : decode cX10_findError 5 = .ok (.iconst 0, 1) := by decide +kernel
theorem dX10_findError_6 : decode cX10_findError 6 = .ok (.istore 5, 2) := by decide +kernel
theorem dX10_findError_8 : decode cX10_findError 8 = .ok (.iconst 0, 1) := by decide +kernel
theorem dX10_findError_9 : decode cX10_findError 9 = .ok (.istore 6, 2) := by decide +kernel
theorem dX10_findError_11 : decode cX10_findError 11 = .ok (.iload 6, 2) := by decide +kernel
theorem dX10_findError_13 : decode cX10_findError 13 = .ok (.iload_n 1, 1) := by decide +kernel
theorem dX10_findError_14 : decode cX10_findError 14 = .ok (.if_icmp .ge 123, 3) := by decide +kernel
theorem dX10_findError_17 : decode cX10_findError 17 = .ok (.iload 6, 2) := by decide +kernel
theorem dX10_findError_19 : decode cX10_findError 19 = .ok (.aload_n 0, 1) := by decide +kernel
theorem dX10_findError_20 : decode cX10_findError 20 = .ok (.arraylength, 1) := by decide +kernel
theorem dX10_findError_21 : decode cX10_findError 21 = .ok (.if_icmp .ge 116, 3) := by decide +kernel
theorem dX10_findError_24 : decode cX10_findError 24 = .ok (.aload_n 0, 1) := by decide +kernel
theorem dX10_findError_25 : decode cX10_findError 25 = .ok (.iload 6, 2) := by decide +kernel
theorem dX10_findError_27 : decode cX10_findError 27 = .ok (.caload, 1) := by decide +kernel
theorem dX10_findError_28 : decode cX10_findError 28 = .ok (.istore 7, 2) := by decide +kernel
theorem dX10_findError_30 : decode cX10_findError 30 = .ok (.iload 7, 2) := by decide +kernel
theorem dX10_findError_32 : decode cX10_findError 32 = .ok (.bipush 47, 2) := by decide +kernel
theorem dX10_findError_34 : decode cX10_findError 34 = .ok (.if_icmp .ne 35, 3) := by decide +kernel
theorem dX10_findError_37 : decode cX10_findError 37 = .ok (.iload 4, 2) := by decide +kernel
theorem dX10_findError_39 : decode cX10_findError 39 = .ok (.ifCond .eq 15, 3) := by decide +kernel
theorem dX10_findError_42 : decode cX10_findError 42 = .ok (.iload 5, 2) := by decide +kernel
theorem dX10_findError_44 : decode cX10_findError 44 = .ok (.bipush 35, 2) := by decide +kernel
theorem dX10_findError_46 : decode cX10_findError 46 = .ok (.if_icmp .eq 8, 3) := by decide +kernel
theorem dX10_findError_49 : decode cX10_findError 49 = .ok (.iload_n 3, 1) := by decide +kernel
theorem dX10_findError_50 : decode cX10_findError 50 = .ok (.iconst 4, 1) := by decide +kernel
theorem dX10_findError_51 : decode cX10_findError 51 = .ok (.if_icmp .ne 6, 3) := by decide +kernel
theorem dX10_findError_54 : decode cX10_findError 54 = .ok (.iload 6, 2) := by decide +kernel
theorem dX10_findError_56 : decode cX10_findError 56 = .ok (.ireturn, 1) := by decide +kernel
theorem dX10_findError_57 : decode cX10_findError 57 = .ok (.iinc 3 1, 3) := by decide +kernel
theorem dX10_findError_60 : decode cX10_findError 60 = .ok (.iconst 0, 1) := by decide +kernel
theorem dX10_findError_61 : decode cX10_findError 61 = .ok (.istore 4, 2) := by decide +kernel
theorem dX10_findError_63 : decode cX10_findError 63 = .ok (.iconst 0, 1) := by decide +kernel
theorem dX10_findError_64 : decode cX10_findError 64 = .ok (.istore 5, 2) := by decide +kernel
theorem dX10_findError_66 : decode cX10_findError 66 = .ok (.goto 65, 3) := by decide +kernel
theorem dX10_findError_69 : decode cX10_findError 69 = .ok (.iload 7, 2) := by decide +kernel
theorem dX10_findError_71 : decode cX10_findError 71 = .ok (.bipush 43, 2) := by decide +kernel
theorem dX10_findError_73 : decode cX10_findError 73 = .ok (.if_icmp .eq 10, 3) := by decide +kernel
theorem dX10_findError_76 : decode cX10_findError 76 = .ok (.iload 7, 2) := by decide +kernel
theorem dX10_findError_78 : decode cX10_findError 78 = .ok (.bipush 35, 2) := by decide +kernel
theorem dX10_findError_80 : decode cX10_findError 80 = .ok (.if_icmp .ne 25, 3) := by decide +kernel
theorem dX10_findError_83 : decode cX10_findError 83 = .ok (.iload_n 2, 1) := by decide +kernel
theorem dX10_findError_84 : decode cX10_findError 84 = .ok (.ifCond .eq 8, 3) := by decide +kernel
theorem dX10_findError_87 : decode cX10_findError 87 = .ok (.iload 4, 2) := by decide +kernel
theorem dX10_findError_89 : decode cX10_findError 89 = .ok (.ifCond .eq 6, 3) := by decide +kernel
theorem dX10_findError_92 : decode cX10_findError 92 = .ok (.iload 6, 2) := by decide +kernel
theorem dX10_findError_94 : decode cX10_findError 94 = .ok (.ireturn, 1) := by decide +kernel
theorem dX10_findError_95 : decode cX10_findError 95 = .ok (.iload 7, 2) := by decide +kernel
theorem dX10_findError_97 : decode cX10_findError 97 = .ok (.istore 5, 2) := by decide +kernel
theorem dX10_findError_99 : decode cX10_findError 99 = .ok (.iconst 1, 1) := by decide +kernel
theorem dX10_findError_100 : decode cX10_findError 100 = .ok (.istore 4, 2) := by decide +kernel
theorem dX10_findError_102 : decode cX10_findError 102 = .ok (.goto 29, 3) := by decide +kernel
theorem dX10_findError_105 : decode cX10_findError 105 = .ok (.iload 7, 2) := by decide +kernel
theorem dX10_findError_107 : decode cX10_findError 107 = .ok (.invokestatic 39, 3) := by decide +kernel
theorem dX10_findError_110 : decode cX10_findError 110 = .ok (.ifCond .eq 15, 3) := by decide +kernel
theorem dX10_findError_113 : decode cX10_findError 113 = .ok (.iload 5, 2) := by decide +kernel
theorem dX10_findError_115 : decode cX10_findError 115 = .ok (.ifCond .ne 10, 3) := by decide +kernel
theorem dX10_findError_118 : decode cX10_findError 118 = .ok (.iload 4, 2) := by decide +kernel
theorem dX10_findError_120 : decode cX10_findError 120 = .ok (.bipush 6, 2) := by decide +kernel
theorem dX10_findError_122 : decode cX10_findError 122 = .ok (.if_icmp .ne 6, 3) := by decide +kernel
theorem dX10_findError_125 : decode cX10_findError 125 = .ok (.iload 6, 2) := by decide +kernel
theorem dX10_findError_127 : decode cX10_findError 127 = .ok (.ireturn, 1) := by decide +kernel
theorem dX10_findError_128 : decode cX10_findError 128 = .ok (.iinc 4 1, 3) := by decide +kernel
theorem dX10_findError_131 : decode cX10_findError 131 = .ok (.iinc 6 1, 3) := by decide +kernel
theorem dX10_findError_134 : decode cX10_findError 134 = .ok (.goto (-123), 3) := by decide +kernel
theorem dX10_findError_137 : decode cX10_findError 137 = .ok (.iload 4, 2) := by decide +kernel
theorem dX10_findError_139 : decode cX10_findError 139 = .ok (.ifCond .ne 7, 3) := by decide +kernel
theorem dX10_findError_142 : decode cX10_findError 142 = .ok (.iload_n 1, 1) := by decide +kernel
theorem dX10_findError_143 : decode cX10_findError 143 = .ok (.goto 4, 3) := by decide +kernel
theorem dX10_findError_146 : decode cX10_findError 146 = .ok (.iconst (-1), 1) := by decide +kernel
theorem dX10_findError_147 : decode cX10_findError 147 = .ok (.ireturn, 1) := by decide +kernel
theorem dX10_isPlain_0 : decode cX10_isPlain 0 = .ok (.iload_n 0, 1) := by decide +kernel
theorem dX10_isPlain_1 : decode cX10_isPlain 1 = .ok (.bipush 97, 2) := by decide +kernel
theorem dX10_isPlain_3 : decode cX10_isPlain 3 = .ok (.if_icmp .lt 9, 3) := by decide +kernel
theorem dX10_isPlain_6 : decode cX10_isPlain 6 = .ok (.iload_n 0, 1) := by decide +kernel
theorem dX10_isPlain_7 : decode cX10_isPlain 7 = .ok (.bipush 122, 2) := by decide +kernel
theorem dX10_isPlain_9 : decode cX10_isPlain 9 = .ok (.if_icmp .le 15, 3) := by decide +kernel
theorem dX10_isPlain_12 : decode cX10_isPlain 12 = .ok (.iload_n 0, 1) := by decide +kernel
theorem dX10_isPlain_13 : decode cX10_isPlain 13 = .ok (.bipush 48, 2) := by decide +kernel
theorem dX10_isPlain_15 : decode cX10_isPlain 15 = .ok (.if_icmp .lt 13, 3) := by decide +kernel
theorem dX10_isPlain_18 : decode cX10_isPlain 18 = .ok (.iload_n 0, 1) := by decide +kernel
theorem dX10_isPlain_19 : decode cX10_isPlain 19 = .ok (.bipush 57, 2) := by decide +kernel
theorem dX10_isPlain_21 : decode cX10_isPlain 21 = .ok (.if_icmp .gt 7, 3) := by decide +kernel
theorem dX10_isPlain_24 : decode cX10_isPlain 24 = .ok (.iconst 1, 1) := by decide +kernel
theorem dX10_isPlain_25 : decode cX10_isPlain 25 = .ok (.goto 4, 3) := by decide +kernel
theorem dX10_isPlain_28 : decode cX10_isPlain 28 = .ok (.iconst 0, 1) := by decide +kernel
theorem dX10_isPlain_29 : decode cX10_isPlain 29 = .ok (.ireturn, 1) := by decide +kernel
theorem dX10_sameAs_0 : decode cX10_sameAs 0 = .ok (.iconst 0, 1) := by decide +kernel
theorem dX10_sameAs_1 : decode cX10_sameAs 1 = .ok (.istore_n 2, 1) := by decide +kernel
theorem dX10_sameAs_2 : decode cX10_sameAs 2 = .ok (.iload_n 2, 1) := by decide +kernel
theorem dX10_sameAs_3 : decode cX10_sameAs 3 = .ok (.iconst 4, 1) := by decide +kernel
theorem dX10_sameAs_4 : decode cX10_sameAs 4 = .ok (.if_icmp .ge 27, 3) := by decide +kernel
theorem dX10_sameAs_7 : decode cX10_sameAs 7 = .ok (.aload_n 0, 1) := by decide +kernel
theorem dX10_sameAs_8 : decode cX10_sameAs 8 = .ok (.getfield 24, 3) := by decide +kernel
theorem dX10_sameAs_11 : decode cX10_sameAs 11 = .ok (.iload_n 2, 1) := by decide +kernel
theorem dX10_sameAs_12 : decode cX10_sameAs 12 = .ok (.laload, 1) := by decide +kernel
theorem dX10_sameAs_13 : decode cX10_sameAs 13 = .ok (.aload_n 1, 1) := by decide +kernel
theorem dX10_sameAs_14 : decode cX10_sameAs 14 = .ok (.getfield 24, 3) := by decide +kernel
theorem dX10_sameAs_17 : decode cX10_sameAs 17 = .ok (.iload_n 2, 1) := by decide +kernel
theorem dX10_sameAs_18 : decode cX10_sameAs 18 = .ok (.laload, 1) := by decide +kernel
theorem dX10_sameAs_19 : decode cX10_sameAs 19 = .ok (.lcmp, 1) := by decide +kernel
theorem dX10_sameAs_20 : decode cX10_sameAs 20 = .ok (.ifCond .eq 5, 3) := by decide +kernel
theorem dX10_sameAs_23 : decode cX10_sameAs 23 = .ok (.iconst 0, 1) := by decide +kernel
theorem dX10_sameAs_24 : decode cX10_sameAs 24 = .ok (.ireturn, 1) := by decide +kernel
theorem dX10_sameAs_25 : decode cX10_sameAs 25 = .ok (.iinc 2 1, 3) := by decide +kernel
theorem dX10_sameAs_28 : decode cX10_sameAs 28 = .ok (.goto (-26), 3) := by decide +kernel
theorem dX10_sameAs_31 : decode cX10_sameAs 31 = .ok (.iconst 1, 1) := by decide +kernel
theorem dX10_sameAs_32 : decode cX10_sameAs 32 = .ok (.ireturn, 1) := by decide +kernel
theorem dX10_order_0 : decode cX10_order 0 = .ok (.aload_n 0, 1) := by decide +kernel
theorem dX10_order_1 : decode cX10_order 1 = .ok (.getfield 18, 3) := by decide +kernel
theorem dX10_order_4 : decode cX10_order 4 = .ok (.arraylength, 1) := by decide +kernel
theorem dX10_order_5 : decode cX10_order 5 = .ok (.aload_n 1, 1) := by decide +kernel
theorem dX10_order_6 : decode cX10_order 6 = .ok (.getfield 18, 3) := by decide +kernel
theorem dX10_order_9 : decode cX10_order 9 = .ok (.arraylength, 1) := by decide +kernel
theorem dX10_order_10 : decode cX10_order 10 = .ok (.invokestatic 9, 3) := by decide +kernel
theorem dX10_order_13 : decode cX10_order 13 = .ok (.istore_n 2, 1) := by decide +kernel
theorem dX10_order_14 : decode cX10_order 14 = .ok (.iconst 0, 1) := by decide +kernel
theorem dX10_order_15 : decode cX10_order 15 = .ok (.istore_n 3, 1) := by decide +kernel
theorem dX10_order_16 : decode cX10_order 16 = .ok (.iload_n 3, 1) := by decide +kernel
theorem dX10_order_17 : decode cX10_order 17 = .ok (.iload_n 2, 1) := by decide +kernel
theorem dX10_order_18 : decode cX10_order 18 = .ok (.if_icmp .ge 38, 3) := by decide +kernel
theorem dX10_order_21 : decode cX10_order 21 = .ok (.aload_n 0, 1) := by decide +kernel
theorem dX10_order_22 : decode cX10_order 22 = .ok (.getfield 18, 3) := by decide +kernel
theorem dX10_order_25 : decode cX10_order 25 = .ok (.iload_n 3, 1) := by decide +kernel
theorem dX10_order_26 : decode cX10_order 26 = .ok (.caload, 1) := by decide +kernel
theorem dX10_order_27 : decode cX10_order 27 = .ok (.aload_n 1, 1) := by decide +kernel
theorem dX10_order_28 : decode cX10_order 28 = .ok (.getfield 18, 3) := by decide +kernel
theorem dX10_order_31 : decode cX10_order 31 = .ok (.iload_n 3, 1) := by decide +kernel
theorem dX10_order_32 : decode cX10_order 32 = .ok (.caload, 1) := by decide +kernel
theorem dX10_order_33 : decode cX10_order 33 = .ok (.if_icmp .eq 17, 3) := by decide +kernel
theorem dX10_order_36 : decode cX10_order 36 = .ok (.aload_n 0, 1) := by decide +kernel
theorem dX10_order_37 : decode cX10_order 37 = .ok (.getfield 18, 3) := by decide +kernel
theorem dX10_order_40 : decode cX10_order 40 = .ok (.iload_n 3, 1) := by decide +kernel
theorem dX10_order_41 : decode cX10_order 41 = .ok (.caload, 1) := by decide +kernel
theorem dX10_order_42 : decode cX10_order 42 = .ok (.aload_n 1, 1) := by decide +kernel
theorem dX10_order_43 : decode cX10_order 43 = .ok (.getfield 18, 3) := by decide +kernel
theorem dX10_order_46 : decode cX10_order 46 = .ok (.iload_n 3, 1) := by decide +kernel
theorem dX10_order_47 : decode cX10_order 47 = .ok (.caload, 1) := by decide +kernel
theorem dX10_order_48 : decode cX10_order 48 = .ok (.isub, 1) := by decide +kernel
theorem dX10_order_49 : decode cX10_order 49 = .ok (.ireturn, 1) := by decide +kernel
theorem dX10_order_50 : decode cX10_order 50 = .ok (.iinc 3 1, 3) := by decide +kernel
theorem dX10_order_53 : decode cX10_order 53 = .ok (.goto (-37), 3) := by decide +kernel
theorem dX10_order_56 : decode cX10_order 56 = .ok (.aload_n 0, 1) := by decide +kernel
theorem dX10_order_57 : decode cX10_order 57 = .ok (.getfield 18, 3) := by decide +kernel
theorem dX10_order_60 : decode cX10_order 60 = .ok (.arraylength, 1) := by decide +kernel
theorem dX10_order_61 : decode cX10_order 61 = .ok (.aload_n 1, 1) := by decide +kernel
theorem dX10_order_62 : decode cX10_order 62 = .ok (.getfield 18, 3) := by decide +kernel
theorem dX10_order_65 : decode cX10_order 65 = .ok (.arraylength, 1) := by decide +kernel
theorem dX10_order_66 : decode cX10_order 66 = .ok (.isub, 1) := by decide +kernel
theorem dX10_order_67 : decode cX10_order 67 = .ok (.ireturn, 1) := by decide +kernel
theorem dX10_matches_0 : decode cX10_matches 0 = .ok (.aload_n 0, 1) := by decide +kernel
theorem dX10_matches_1 : decode cX10_matches 1 = .ok (.aload_n 1, 1) := by decide +kernel
theorem dX10_matches_2 : decode cX10_matches 2 = .ok (.aload_n 1, 1) := by decide +kernel
theorem dX10_matches_3 : decode cX10_matches 3 = .ok (.getfield 28, 3) := by decide +kernel
theorem dX10_matches_6 : decode cX10_matches 6 = .ok (.invokevirtual 43, 3) := by decide +kernel
theorem dX10_matches_9 : decode cX10_matches 9 = .ok (.ireturn, 1) := by decide +kernel
theorem dX10_fits_0 : decode cX10_fits 0 = .ok (.aload_n 0, 1) := by decide +kernel
theorem dX10_fits_1 : decode cX10_fits 1 = .ok (.getfield 32, 3) := by decide +kernel
theorem dX10_fits_4 : decode cX10_fits 4 = .ok (.ifCond .eq 19, 3) := by decide +kernel
theorem dX10_fits_7 : decode cX10_fits 7 = .ok (.iload_n 1, 1) := by decide +kernel
theorem dX10_fits_8 : decode cX10_fits 8 = .ok (.aload_n 0, 1) := by decide +kernel
theorem dX10_fits_9 : decode cX10_fits 9 = .ok (.getfield 36, 3) := by decide +kernel
theorem dX10_fits_12 : decode cX10_fits 12 = .ok (.if_icmp .lt 7, 3) := by decide +kernel
theorem dX10_fits_15 : decode cX10_fits 15 = .ok (.iconst 1, 1) := by decide +kernel
theorem dX10_fits_16 : decode cX10_fits 16 = .ok (.goto 20, 3) := by decide +kernel
theorem dX10_fits_19 : decode cX10_fits 19 = .ok (.iconst 0, 1) := by decide +kernel
theorem dX10_fits_20 : decode cX10_fits 20 = .ok (.goto 16, 3) := by decide +kernel
theorem dX10_fits_23 : decode cX10_fits 23 = .ok (.iload_n 1, 1) := by decide +kernel
theorem dX10_fits_24 : decode cX10_fits 24 = .ok (.aload_n 0, 1) := by decide +kernel
theorem dX10_fits_25 : decode cX10_fits 25 = .ok (.getfield 36, 3) := by decide +kernel
theorem dX10_fits_28 : decode cX10_fits 28 = .ok (.if_icmp .ne 7, 3) := by decide +kernel
theorem dX10_fits_31 : decode cX10_fits 31 = .ok (.iconst 1, 1) := by decide +kernel
theorem dX10_fits_32 : decode cX10_fits 32 = .ok (.goto 4, 3) := by decide +kernel
theorem dX10_fits_35 : decode cX10_fits 35 = .ok (.iconst 0, 1) := by decide +kernel
theorem dX10_fits_36 : decode cX10_fits 36 = .ok (.ireturn, 1) := by decide +kernel
theorem dX10_levelAt_0 : decode cX10_levelAt 0 = .ok (.iload_n 1, 1) := by decide +kernel
theorem dX10_levelAt_1 : decode cX10_levelAt 1 = .ok (.ifCond .lt 25, 3) := by decide +kernel
theorem dX10_levelAt_4 : decode cX10_levelAt 4 = .ok (.iload_n 1, 1) := by decide +kernel
theorem dX10_levelAt_5 : decode cX10_levelAt 5 = .ok (.aload_n 0, 1) := by decide +kernel
theorem dX10_levelAt_6 : decode cX10_levelAt 6 = .ok (.getfield 36, 3) := by decide +kernel
theorem dX10_levelAt_9 : decode cX10_levelAt 9 = .ok (.if_icmp .ge 17, 3) := by decide +kernel
theorem dX10_levelAt_12 : decode cX10_levelAt 12 = .ok (.iload_n 1, 1) := by decide +kernel
theorem dX10_levelAt_13 : decode cX10_levelAt 13 = .ok (.iconst 4, 1) := by decide +kernel
theorem dX10_levelAt_14 : decode cX10_levelAt 14 = .ok (.if_icmp .ge 12, 3) := by decide +kernel
theorem dX10_levelAt_17 : decode cX10_levelAt 17 = .ok (.aload_n 0, 1) := by decide +kernel
theorem dX10_levelAt_18 : decode cX10_levelAt 18 = .ok (.getfield 24, 3) := by decide +kernel
theorem dX10_levelAt_21 : decode cX10_levelAt 21 = .ok (.iload_n 1, 1) := by decide +kernel
theorem dX10_levelAt_22 : decode cX10_levelAt 22 = .ok (.laload, 1) := by decide +kernel
theorem dX10_levelAt_23 : decode cX10_levelAt 23 = .ok (.goto 6, 3) := by decide +kernel
theorem dX10_levelAt_26 : decode cX10_levelAt 26 = .ok (.ldc2_w 54, 3) := by decide +kernel
theorem dX10_levelAt_29 : decode cX10_levelAt 29 = .ok (.lreturn, 1) := by decide +kernel
theorem dX10_coversWith_0 : decode cX10_coversWith 0 = .ok (.aload_n 0, 1) := by decide +kernel
theorem dX10_coversWith_1 : decode cX10_coversWith 1 = .ok (.iload_n 2, 1) := by decide +kernel
theorem dX10_coversWith_2 : decode cX10_coversWith 2 = .ok (.invokevirtual 47, 3) := by decide +kernel
theorem dX10_coversWith_5 : decode cX10_coversWith 5 = .ok (.ifCond .ne 5, 3) := by decide +kernel
theorem dX10_coversWith_8 : decode cX10_coversWith 8 = .ok (.iconst 0, 1) := by decide +kernel
theorem dX10_coversWith_9 : decode cX10_coversWith 9 = .ok (.ireturn, 1) := by decide +kernel
theorem dX10_coversWith_10 : decode cX10_coversWith 10 = .ok (.iconst 0, 1) := by decide +kernel
theorem dX10_coversWith_11 : decode cX10_coversWith 11 = .ok (.istore_n 3, 1) := by decide +kernel
theorem dX10_coversWith_12 : decode cX10_coversWith 12 = .ok (.iload_n 3, 1) := by decide +kernel
theorem dX10_coversWith_13 : decode cX10_coversWith 13 = .ok (.iload_n 2, 1) := by decide +kernel
theorem dX10_coversWith_14 : decode cX10_coversWith 14 = .ok (.if_icmp .ge 38, 3) := by decide +kernel
theorem dX10_coversWith_17 : decode cX10_coversWith 17 = .ok (.aload_n 0, 1) := by decide +kernel
theorem dX10_coversWith_18 : decode cX10_coversWith 18 = .ok (.iload_n 3, 1) := by decide +kernel
theorem dX10_coversWith_19 : decode cX10_coversWith 19 = .ok (.invokevirtual 56, 3) := by decide +kernel
theorem dX10_coversWith_22 : decode cX10_coversWith 22 = .ok (.lstore 4, 2) := by decide +kernel
theorem dX10_coversWith_24 : decode cX10_coversWith 24 = .ok (.lload 4, 2) := by decide +kernel
theorem dX10_coversWith_26 : decode cX10_coversWith 26 = .ok (.ldc2_w 54, 3) := by decide +kernel
theorem dX10_coversWith_29 : decode cX10_coversWith 29 = .ok (.lcmp, 1) := by decide +kernel
theorem dX10_coversWith_30 : decode cX10_coversWith 30 = .ok (.ifCond .eq 16, 3) := by decide +kernel
theorem dX10_coversWith_33 : decode cX10_coversWith 33 = .ok (.lload 4, 2) := by decide +kernel
theorem dX10_coversWith_35 : decode cX10_coversWith 35 = .ok (.aload_n 1, 1) := by decide +kernel
theorem dX10_coversWith_36 : decode cX10_coversWith 36 = .ok (.iload_n 3, 1) := by decide +kernel
theorem dX10_coversWith_37 : decode cX10_coversWith 37 = .ok (.invokevirtual 56, 3) := by decide +kernel
theorem dX10_coversWith_40 : decode cX10_coversWith 40 = .ok (.lcmp, 1) := by decide +kernel
theorem dX10_coversWith_41 : decode cX10_coversWith 41 = .ok (.ifCond .eq 5, 3) := by decide +kernel
theorem dX10_coversWith_44 : decode cX10_coversWith 44 = .ok (.iconst 0, 1) := by decide +kernel
theorem dX10_coversWith_45 : decode cX10_coversWith 45 = .ok (.ireturn, 1) := by decide +kernel
theorem dX10_coversWith_46 : decode cX10_coversWith 46 = .ok (.iinc 3 1, 3) := by decide +kernel
theorem dX10_coversWith_49 : decode cX10_coversWith 49 = .ok (.goto (-37), 3) := by decide +kernel
theorem dX10_coversWith_52 : decode cX10_coversWith 52 = .ok (.iconst 1, 1) := by decide +kernel
theorem dX10_coversWith_53 : decode cX10_coversWith 53 = .ok (.ireturn, 1) := by decide +kernel
theorem dX11_init_0 : decode cX11_init 0 = .ok (.aload_n 0, 1) := by decide +kernel
theorem dX11_init_1 : decode cX11_init 1 = .ok (.invokespecial 1, 3) := by decide +kernel
theorem dX11_init_4 : decode cX11_init 4 = .ok (.new 7, 3) := by decide +kernel
theorem dX11_init_7 : decode cX11_init 7 = .ok (.dup, 1) := by decide +kernel
theorem dX11_init_8 : decode cX11_init 8 = .ok (.iconst 0, 1) := by decide +kernel
theorem dX11_init_9 : decode cX11_init 9 = .ok (.newarray .char, 2) := by decide +kernel
theorem dX11_init_11 : decode cX11_init 11 = .ok (.iconst 0, 1) := by decide +kernel
theorem dX11_init_12 : decode cX11_init 12 = .ok (.invokespecial 9, 3) := by decide +kernel
theorem dX11_init_15 : decode cX11_init 15 = .ok (.astore_n 1, 1) := by decide +kernel
theorem dX11_init_16 : decode cX11_init 16 = .ok (.aload_n 0, 1) := by decide +kernel
theorem dX11_init_17 : decode cX11_init 17 = .ok (.bipush 30, 2) := by decide +kernel
theorem dX11_init_19 : decode cX11_init 19 = .ok (.newarray .char, 2) := by decide +kernel
theorem dX11_init_21 : decode cX11_init 21 = .ok (.putfield 14, 3) := by decide +kernel
theorem dX11_init_24 : decode cX11_init 24 = .ok (.aload_n 0, 1) := by decide +kernel
theorem dX11_init_25 : decode cX11_init 25 = .ok (.iconst (-1), 1) := by decide +kernel
theorem dX11_init_26 : decode cX11_init 26 = .ok (.putfield 18, 3) := by decide +kernel
theorem dX11_init_29 : decode cX11_init 29 = .ok (.aload_n 0, 1) := by decide +kernel
theorem dX11_init_30 : decode cX11_init 30 = .ok (.new 22, 3) := by decide +kernel
theorem dX11_init_33 : decode cX11_init 33 = .ok (.dup, 1) := by decide +kernel
theorem dX11_init_34 : decode cX11_init 34 = .ok (.aload_n 1, 1) := by decide +kernel
theorem dX11_init_35 : decode cX11_init 35 = .ok (.invokespecial 24, 3) := by decide +kernel
theorem dX11_init_38 : decode cX11_init 38 = .ok (.putfield 27, 3) := by decide +kernel
theorem dX11_init_41 : decode cX11_init 41 = .ok (.aload_n 0, 1) := by decide +kernel
theorem dX11_init_42 : decode cX11_init 42 = .ok (.new 31, 3) := by decide +kernel
theorem dX11_init_45 : decode cX11_init 45 = .ok (.dup, 1) := by decide +kernel
theorem dX11_init_46 : decode cX11_init 46 = .ok (.aload_n 1, 1) := by decide +kernel
theorem dX11_init_47 : decode cX11_init 47 = .ok (.invokespecial 33, 3) := by decide +kernel
theorem dX11_init_50 : decode cX11_init 50 = .ok (.putfield 34, 3) := by decide +kernel
theorem dX11_init_53 : decode cX11_init 53 = .ok (.aload_n 0, 1) := by decide +kernel
theorem dX11_init_54 : decode cX11_init 54 = .ok (.new 38, 3) := by decide +kernel
theorem dX11_init_57 : decode cX11_init 57 = .ok (.dup, 1) := by decide +kernel
theorem dX11_init_58 : decode cX11_init 58 = .ok (.aload_n 1, 1) := by decide +kernel
theorem dX11_init_59 : decode cX11_init 59 = .ok (.invokespecial 40, 3) := by decide +kernel
theorem dX11_init_62 : decode cX11_init 62 = .ok (.putfield 41, 3) := by decide +kernel
theorem dX11_init_65 : decode cX11_init 65 = .ok (.aload_n 0, 1) := by decide +kernel
theorem dX11_init_66 : decode cX11_init 66 = .ok (.new 38, 3) := by decide +kernel
theorem dX11_init_69 : decode cX11_init 69 = .ok (.dup, 1) := by decide +kernel
theorem dX11_init_70 : decode cX11_init 70 = .ok (.aload_n 1, 1) := by decide +kernel
theorem dX11_init_71 : decode cX11_init 71 = .ok (.invokespecial 40, 3) := by decide +kernel
theorem dX11_init_74 : decode cX11_init 74 = .ok (.putfield 45, 3) := by decide +kernel
theorem dX11_init_77 : decode cX11_init 77 = .ok (.return_, 1) := by decide +kernel
theorem dX11_append_0 : decode cX11_append 0 = .ok (.iconst 0, 1) := by decide +kernel
theorem dX11_append_1 : decode cX11_append 1 = .ok (.istore_n 2, 1) := by decide +kernel
theorem dX11_append_2 : decode cX11_append 2 = .ok (.bipush 24, 2) := by decide +kernel
theorem dX11_append_4 : decode cX11_append 4 = .ok (.istore_n 3, 1) := by decide +kernel
theorem dX11_append_5 : decode cX11_append 5 = .ok (.iload_n 3, 1) := by decide +kernel
theorem dX11_append_6 : decode cX11_append 6 = .ok (.ifCond .lt 48, 3) := by decide +kernel
theorem dX11_append_9 : decode cX11_append 9 = .ok (.iload_n 1, 1) := by decide +kernel
theorem dX11_append_10 : decode cX11_append 10 = .ok (.iload_n 3, 1) := by decide +kernel
theorem dX11_append_11 : decode cX11_append 11 = .ok (.iushr, 1) := by decide +kernel
theorem dX11_append_12 : decode cX11_append 12 = .ok (.sipush 255, 3) := by decide +kernel
theorem dX11_append_15 : decode cX11_append 15 = .ok (.iand, 1) := by decide +kernel
theorem dX11_append_16 : decode cX11_append 16 = .ok (.istore 4, 2) := by decide +kernel
theorem dX11_append_18 : decode cX11_append 18 = .ok (.iload 4, 2) := by decide +kernel
theorem dX11_append_20 : decode cX11_append 20 = .ok (.ifCond .eq 28, 3) := by decide +kernel
theorem dX11_append_23 : decode cX11_append 23 = .ok (.iload 4, 2) := by decide +kernel
theorem dX11_append_25 : decode cX11_append 25 = .ok (.bipush 33, 2) := by decide +kernel
theorem dX11_append_27 : decode cX11_append 27 = .ok (.if_icmp .lt 10, 3) := by decide +kernel
theorem dX11_append_30 : decode cX11_append 30 = .ok (.iload 4, 2) := by decide +kernel
theorem dX11_append_32 : decode cX11_append 32 = .ok (.bipush 126, 2) := by decide +kernel
theorem dX11_append_34 : decode cX11_append 34 = .ok (.if_icmp .le 11, 3) := by decide +kernel
theorem dX11_append_37 : decode cX11_append 37 = .ok (.new 48, 3) := by decide +kernel
theorem dX11_append_40 : decode cX11_append 40 = .ok (.dup, 1) := by decide +kernel
theorem dX11_append_41 : decode cX11_append 41 = .ok (.invokespecial 50, 3) := by decide +kernel
theorem dX11_append_44 : decode cX11_append 44 = .ok (.athrow, 1) := by decide +kernel
theorem dX11_append_45 : decode cX11_append 45 = .ok (.iinc 2 1, 3) := by decide +kernel
theorem dX11_append_48 : decode cX11_append 48 = .ok (.iinc 3 (-8), 3) := by decide +kernel
theorem dX11_append_51 : decode cX11_append 51 = .ok (.goto (-46), 3) := by decide +kernel
theorem dX11_append_54 : decode cX11_append 54 = .ok (.aload_n 0, 1) := by decide +kernel
theorem dX11_append_55 : decode cX11_append 55 = .ok (.getfield 51, 3) := by decide +kernel
theorem dX11_append_58 : decode cX11_append 58 = .ok (.iload_n 2, 1) := by decide +kernel
theorem dX11_append_59 : decode cX11_append 59 = .ok (.iadd, 1) := by decide +kernel
theorem dX11_append_60 : decode cX11_append 60 = .ok (.bipush 30, 2) := by decide +kernel
theorem dX11_append_62 : decode cX11_append 62 = .ok (.if_icmp .le 11, 3) := by decide +kernel
theorem dX11_append_65 : decode cX11_append 65 = .ok (.new 54, 3) := by decide +kernel
theorem dX11_append_68 : decode cX11_append 68 = .ok (.dup, 1) := by decide +kernel
theorem dX11_append_69 : decode cX11_append 69 = .ok (.invokespecial 56, 3) := by decide +kernel
theorem dX11_append_72 : decode cX11_append 72 = .ok (.athrow, 1) := by decide +kernel
theorem dX11_append_73 : decode cX11_append 73 = .ok (.bipush 24, 2) := by decide +kernel
theorem dX11_append_75 : decode cX11_append 75 = .ok (.istore_n 3, 1) := by decide +kernel
theorem dX11_append_76 : decode cX11_append 76 = .ok (.iload_n 3, 1) := by decide +kernel
theorem dX11_append_77 : decode cX11_append 77 = .ok (.ifCond .lt 64, 3) := by decide +kernel
theorem dX11_append_80 : decode cX11_append 80 = .ok (.iload_n 1, 1) := by decide +kernel
theorem dX11_append_81 : decode cX11_append 81 = .ok (.iload_n 3, 1) := by decide +kernel
theorem dX11_append_82 : decode cX11_append 82 = .ok (.iushr, 1) := by decide +kernel
theorem dX11_append_83 : decode cX11_append 83 = .ok (.sipush 255, 3) := by decide +kernel
theorem dX11_append_86 : decode cX11_append 86 = .ok (.iand, 1) := by decide +kernel
theorem dX11_append_87 : decode cX11_append 87 = .ok (.istore 4, 2) := by decide +kernel
theorem dX11_append_89 : decode cX11_append 89 = .ok (.iload 4, 2) := by decide +kernel
theorem dX11_append_91 : decode cX11_append 91 = .ok (.ifCond .eq 44, 3) := by decide +kernel
theorem dX11_append_94 : decode cX11_append 94 = .ok (.aload_n 0, 1) := by decide +kernel
theorem dX11_append_95 : decode cX11_append 95 = .ok (.getfield 51, 3) := by decide +kernel
theorem dX11_append_98 : decode cX11_append 98 = .ok (.ifCond .lt 37, 3) := by decide +kernel
theorem dX11_append_101 : decode cX11_append 101 = .ok (.aload_n 0, 1) := by decide +kernel
theorem dX11_append_102 : decode cX11_append 102 = .ok (.getfield 51, 3) := by decide +kernel
theorem dX11_append_105 : decode cX11_append 105 = .ok (.aload_n 0, 1) := by decide +kernel
theorem dX11_append_106 : decode cX11_append 106 = .ok (.getfield 14, 3) := by decide +kernel
theorem dX11_append_109 : decode cX11_append 109 = .ok (.arraylength, 1) := by decide +kernel
theorem dX11_append_110 : decode cX11_append 110 = .ok (.if_icmp .ge 25, 3) := by decide +kernel
theorem dX11_append_113 : decode cX11_append 113 = .ok (.aload_n 0, 1) := by decide +kernel
theorem dX11_append_114 : decode cX11_append 114 = .ok (.getfield 14, 3) := by decide +kernel
theorem dX11_append_117 : decode cX11_append 117 = .ok (.aload_n 0, 1) := by decide +kernel
theorem dX11_append_118 : decode cX11_append 118 = .ok (.getfield 51, 3) := by decide +kernel
theorem dX11_append_121 : decode cX11_append 121 = .ok (.iload 4, 2) := by decide +kernel
theorem dX11_append_123 : decode cX11_append 123 = .ok (.i2c, 1) := by decide +kernel
theorem dX11_append_124 : decode cX11_append 124 = .ok (.castore, 1) := by decide +kernel
theorem dX11_append_125 : decode cX11_append 125 = .ok (.aload_n 0, 1) := by decide +kernel
theorem dX11_append_126 : decode cX11_append 126 = .ok (.dup, 1) := by decide +kernel
theorem dX11_append_127 : decode cX11_append 127 = .ok (.getfield 51, 3) := by decide +kernel
theorem dX11_append_130 : decode cX11_append 130 = .ok (.iconst 1, 1) := by decide +kernel
theorem dX11_append_131 : decode cX11_append 131 = .ok (.iadd, 1) := by decide +kernel
theorem dX11_append_132 : decode cX11_append 132 = .ok (.putfield 51, 3) := by decide +kernel
theorem dX11_append_135 : decode cX11_append 135 = .ok (.iinc 3 (-8), 3) := by decide +kernel
theorem dX11_append_138 : decode cX11_append 138 = .ok (.goto (-62), 3) := by decide +kernel
theorem dX11_append_141 : decode cX11_append 141 = .ok (.aload_n 0, 1) := by decide +kernel
theorem dX11_append_142 : decode cX11_append 142 = .ok (.getfield 51, 3) := by decide +kernel
theorem dX11_append_145 : decode cX11_append 145 = .ok (.ireturn, 1) := by decide +kernel
theorem dX11_errorPosition_0 : decode cX11_errorPosition 0 = .ok (.aload_n 0, 1) := by decide +kernel
theorem dX11_errorPosition_1 : decode cX11_errorPosition 1 = .ok (.getfield 18, 3) := by decide +kernel
theorem dX11_errorPosition_4 : decode cX11_errorPosition 4 = .ok (.ireturn, 1) := by decide +kernel
theorem dX11_setOption_0 : decode cX11_setOption 0 = .ok (.iload_n 1, 1) := by decide +kernel
theorem dX11_setOption_1 : decode cX11_setOption 1 = .ok (.ifCond .lt 11, 3) := by decide +kernel
theorem dX11_setOption_4 : decode cX11_setOption 4 = .ok (.iload_n 1, 1) := by decide +kernel
theorem dX11_setOption_5 : decode cX11_setOption 5 = .ok (.getstatic 57, 3) := by decide +kernel
theorem dX11_setOption_8 : decode cX11_setOption 8 = .ok (.arraylength, 1) := by decide +kernel
theorem dX11_setOption_9 : decode cX11_setOption 9 = .ok (.if_icmp .lt 11, 3) := by decide +kernel
theorem dX11_setOption_12 : decode cX11_setOption 12 = .ok (.new 61, 3) := by decide +kernel
theorem dX11_setOption_15 : decode cX11_setOption 15 = .ok (.dup, 1) := by decide +kernel
theorem dX11_setOption_16 : decode cX11_setOption 16 = .ok (.invokespecial 63, 3) := by decide +kernel
theorem dX11_setOption_19 : decode cX11_setOption 19 = .ok (.athrow, 1) := by decide +kernel
theorem dX11_setOption_20 : decode cX11_setOption 20 = .ok (.iload_n 2, 1) := by decide +kernel
theorem dX11_setOption_21 : decode cX11_setOption 21 = .ok (.getstatic 64, 3) := by decide +kernel
theorem dX11_setOption_24 : decode cX11_setOption 24 = .ok (.iload_n 1, 1) := by decide +kernel
theorem dX11_setOption_25 : decode cX11_setOption 25 = .ok (.iaload, 1) := by decide +kernel
theorem dX11_setOption_26 : decode cX11_setOption 26 = .ok (.if_icmp .lt 12, 3) := by decide +kernel
theorem dX11_setOption_29 : decode cX11_setOption 29 = .ok (.iload_n 2, 1) := by decide +kernel
theorem dX11_setOption_30 : decode cX11_setOption 30 = .ok (.getstatic 67, 3) := by decide +kernel
theorem dX11_setOption_33 : decode cX11_setOption 33 = .ok (.iload_n 1, 1) := by decide +kernel
theorem dX11_setOption_34 : decode cX11_setOption 34 = .ok (.iaload, 1) := by decide +kernel
theorem dX11_setOption_35 : decode cX11_setOption 35 = .ok (.if_icmp .le 11, 3) := by decide +kernel
theorem dX11_setOption_38 : decode cX11_setOption 38 = .ok (.new 48, 3) := by decide +kernel
theorem dX11_setOption_41 : decode cX11_setOption 41 = .ok (.dup, 1) := by decide +kernel
theorem dX11_setOption_42 : decode cX11_setOption 42 = .ok (.invokespecial 50, 3) := by decide +kernel
theorem dX11_setOption_45 : decode cX11_setOption 45 = .ok (.athrow, 1) := by decide +kernel
theorem dX11_setOption_46 : decode cX11_setOption 46 = .ok (.aload_n 0, 1) := by decide +kernel
theorem dX11_setOption_47 : decode cX11_setOption 47 = .ok (.getfield 41, 3) := by decide +kernel
theorem dX11_setOption_50 : decode cX11_setOption 50 = .ok (.getfield 70, 3) := by decide +kernel
theorem dX11_setOption_53 : decode cX11_setOption 53 = .ok (.iload_n 1, 1) := by decide +kernel
theorem dX11_setOption_54 : decode cX11_setOption 54 = .ok (.iaload, 1) := by decide +kernel
theorem dX11_setOption_55 : decode cX11_setOption 55 = .ok (.istore_n 3, 1) := by decide +kernel
theorem dX11_setOption_56 : decode cX11_setOption 56 = .ok (.aload_n 0, 1) := by decide +kernel
theorem dX11_setOption_57 : decode cX11_setOption 57 = .ok (.getfield 41, 3) := by decide +kernel
theorem dX11_setOption_60 : decode cX11_setOption 60 = .ok (.getfield 70, 3) := by decide +kernel
theorem dX11_setOption_63 : decode cX11_setOption 63 = .ok (.iload_n 1, 1) := by decide +kernel
theorem dX11_setOption_64 : decode cX11_setOption 64 = .ok (.iload_n 2, 1) := by decide +kernel
theorem dX11_setOption_65 : decode cX11_setOption 65 = .ok (.iastore, 1) := by decide +kernel
theorem dX11_setOption_66 : decode cX11_setOption 66 = .ok (.iload_n 3, 1) := by decide +kernel
theorem dX11_setOption_67 : decode cX11_setOption 67 = .ok (.ireturn, 1) := by decide +kernel
theorem dX11_connect_0 : decode cX11_connect 0 = .ok (.iload_n 1, 1) := by decide +kernel
theorem dX11_connect_1 : decode cX11_connect 1 = .ok (.invokestatic 73, 3) := by decide +kernel
theorem dX11_connect_4 : decode cX11_connect 4 = .ok (.aload_n 0, 1) := by decide +kernel
theorem dX11_connect_5 : decode cX11_connect 5 = .ok (.getfield 41, 3) := by decide +kernel
theorem dX11_connect_8 : decode cX11_connect 8 = .ok (.getfield 77, 3) := by decide +kernel
theorem dX11_connect_11 : decode cX11_connect 11 = .ok (.iload_n 1, 1) := by decide +kernel
theorem dX11_connect_12 : decode cX11_connect 12 = .ok (.aaload, 1) := by decide +kernel
theorem dX11_connect_13 : decode cX11_connect 13 = .ok (.astore_n 3, 1) := by decide +kernel
theorem dX11_connect_14 : decode cX11_connect 14 = .ok (.aload_n 3, 1) := by decide +kernel
theorem dX11_connect_15 : decode cX11_connect 15 = .ok (.getfield 81, 3) := by decide +kernel
theorem dX11_connect_18 : decode cX11_connect 18 = .ok (.ifCond .eq 25, 3) := by decide +kernel
theorem dX11_connect_21 : decode cX11_connect 21 = .ok (.aload_n 0, 1) := by decide +kernel
theorem dX11_connect_22 : decode cX11_connect 22 = .ok (.getfield 41, 3) := by decide +kernel
theorem dX11_connect_25 : decode cX11_connect 25 = .ok (.getfield 87, 3) := by decide +kernel
theorem dX11_connect_28 : decode cX11_connect 28 = .ok (.iconst 5, 1) := by decide +kernel
theorem dX11_connect_29 : decode cX11_connect 29 = .ok (.dup2, 1) := by decide +kernel
theorem dX11_connect_30 : decode cX11_connect 30 = .ok (.iaload, 1) := by decide +kernel
theorem dX11_connect_31 : decode cX11_connect 31 = .ok (.iconst 1, 1) := by decide +kernel
theorem dX11_connect_32 : decode cX11_connect 32 = .ok (.iadd, 1) := by decide +kernel
theorem dX11_connect_33 : decode cX11_connect 33 = .ok (.iastore, 1) := by decide +kernel
theorem dX11_connect_34 : decode cX11_connect 34 = .ok (.aload_n 0, 1) := by decide +kernel
theorem dX11_connect_35 : decode cX11_connect 35 = .ok (.getfield 41, 3) := by decide +kernel
theorem dX11_connect_38 : decode cX11_connect 38 = .ok (.iload_n 1, 1) := by decide +kernel
theorem dX11_connect_39 : decode cX11_connect 39 = .ok (.invokevirtual 90, 3) := by decide +kernel
theorem dX11_connect_42 : decode cX11_connect 42 = .ok (.pop, 1) := by decide +kernel
theorem dX11_connect_43 : decode cX11_connect 43 = .ok (.iload_n 2, 1) := by decide +kernel
theorem dX11_connect_44 : decode cX11_connect 44 = .ok (.ifCond .eq 21, 3) := by decide +kernel
theorem dX11_connect_47 : decode cX11_connect 47 = .ok (.aload_n 3, 1) := by decide +kernel
theorem dX11_connect_48 : decode cX11_connect 48 = .ok (.getfield 94, 3) := by decide +kernel
theorem dX11_connect_51 : decode cX11_connect 51 = .ok (.getfield 98, 3) := by decide +kernel
theorem dX11_connect_54 : decode cX11_connect 54 = .ok (.ifCond .eq 11, 3) := by decide +kernel
theorem dX11_connect_57 : decode cX11_connect 57 = .ok (.aload_n 0, 1) := by decide +kernel
theorem dX11_connect_58 : decode cX11_connect 58 = .ok (.getfield 41, 3) := by decide +kernel
theorem dX11_connect_61 : decode cX11_connect 61 = .ok (.iload_n 1, 1) := by decide +kernel
theorem dX11_connect_62 : decode cX11_connect 62 = .ok (.invokevirtual 103, 3) := by decide +kernel
theorem dX11_connect_65 : decode cX11_connect 65 = .ok (.aload_n 3, 1) := by decide +kernel
theorem dX11_connect_66 : decode cX11_connect 66 = .ok (.iconst 1, 1) := by decide +kernel
theorem dX11_connect_67 : decode cX11_connect 67 = .ok (.putfield 81, 3) := by decide +kernel
theorem dX11_connect_70 : decode cX11_connect 70 = .ok (.aload_n 3, 1) := by decide +kernel
theorem dX11_connect_71 : decode cX11_connect 71 = .ok (.getfield 94, 3) := by decide +kernel
theorem dX11_connect_74 : decode cX11_connect 74 = .ok (.getfield 98, 3) := by decide +kernel
theorem dX11_connect_77 : decode cX11_connect 77 = .ok (.ifCond .ne 13, 3) := by decide +kernel
theorem dX11_connect_80 : decode cX11_connect 80 = .ok (.aload_n 3, 1) := by decide +kernel
theorem dX11_connect_81 : decode cX11_connect 81 = .ok (.getfield 94, 3) := by decide +kernel
theorem dX11_connect_84 : decode cX11_connect 84 = .ok (.iload_n 2, 1) := by decide +kernel
theorem dX11_connect_85 : decode cX11_connect 85 = .ok (.invokevirtual 106, 3) := by decide +kernel
theorem dX11_connect_88 : decode cX11_connect 88 = .ok (.iconst 0, 1) := by decide +kernel
theorem dX11_connect_89 : decode cX11_connect 89 = .ok (.ireturn, 1) := by decide +kernel
theorem dX11_connect_90 : decode cX11_connect 90 = .ok (.aload_n 0, 1) := by decide +kernel
theorem dX11_connect_91 : decode cX11_connect 91 = .ok (.getfield 41, 3) := by decide +kernel
theorem dX11_connect_94 : decode cX11_connect 94 = .ok (.aload_n 3, 1) := by decide +kernel
theorem dX11_connect_95 : decode cX11_connect 95 = .ok (.invokevirtual 110, 3) := by decide +kernel
theorem dX11_connect_98 : decode cX11_connect 98 = .ok (.iconst 1, 1) := by decide +kernel
theorem dX11_connect_99 : decode cX11_connect 99 = .ok (.ireturn, 1) := by decide +kernel
theorem dX11_breakConnection_0 : decode cX11_breakConnection 0 = .ok (.iload_n 1, 1) := by decide +kernel
theorem dX11_breakConnection_1 : decode cX11_breakConnection 1 = .ok (.invokestatic 73, 3) := by decide +kernel
theorem dX11_breakConnection_4 : decode cX11_breakConnection 4 = .ok (.aload_n 0, 1) := by decide +kernel
theorem dX11_breakConnection_5 : decode cX11_breakConnection 5 = .ok (.iload_n 1, 1) := by decide +kernel
theorem dX11_breakConnection_6 : decode cX11_breakConnection 6 = .ok (.invokevirtual 114, 3) := by decide +kernel
theorem dX11_breakConnection_9 : decode cX11_breakConnection 9 = .ok (.aload_n 0, 1) := by decide +kernel
theorem dX11_breakConnection_10 : decode cX11_breakConnection 10 = .ok (.getfield 41, 3) := by decide +kernel
theorem dX11_breakConnection_13 : decode cX11_breakConnection 13 = .ok (.iload_n 1, 1) := by decide +kernel
theorem dX11_breakConnection_14 : decode cX11_breakConnection 14 = .ok (.invokevirtual 90, 3) := by decide +kernel
theorem dX11_breakConnection_17 : decode cX11_breakConnection 17 = .ok (.ireturn, 1) := by decide +kernel
theorem dX11_setWill_0 : decode cX11_setWill 0 = .ok (.aload_n 0, 1) := by decide +kernel
theorem dX11_setWill_1 : decode cX11_setWill 1 = .ok (.invokevirtual 123, 3) := by decide +kernel
theorem dX11_setWill_4 : decode cX11_setWill 4 = .ok (.istore 5, 2) := by decide +kernel
theorem dX11_setWill_6 : decode cX11_setWill 6 = .ok (.iload_n 1, 1) := by decide +kernel
theorem dX11_setWill_7 : decode cX11_setWill 7 = .ok (.invokestatic 73, 3) := by decide +kernel
theorem dX11_setWill_10 : decode cX11_setWill 10 = .ok (.aload_n 0, 1) := by decide +kernel
theorem dX11_setWill_11 : decode cX11_setWill 11 = .ok (.iload 5, 2) := by decide +kernel
theorem dX11_setWill_13 : decode cX11_setWill 13 = .ok (.invokevirtual 127, 3) := by decide +kernel
theorem dX11_setWill_16 : decode cX11_setWill 16 = .ok (.astore 6, 2) := by decide +kernel
theorem dX11_setWill_18 : decode cX11_setWill 18 = .ok (.iload_n 2, 1) := by decide +kernel
theorem dX11_setWill_19 : decode cX11_setWill 19 = .ok (.iconst 0, 1) := by decide +kernel
theorem dX11_setWill_20 : decode cX11_setWill 20 = .ok (.iconst 2, 1) := by decide +kernel
theorem dX11_setWill_21 : decode cX11_setWill 21 = .ok (.invokestatic 131, 3) := by decide +kernel
theorem dX11_setWill_24 : decode cX11_setWill 24 = .ok (.iload 4, 2) := by decide +kernel
theorem dX11_setWill_26 : decode cX11_setWill 26 = .ok (.iconst 0, 1) := by decide +kernel
theorem dX11_setWill_27 : decode cX11_setWill 27 = .ok (.sipush 9999, 3) := by decide +kernel
theorem dX11_setWill_30 : decode cX11_setWill 30 = .ok (.invokestatic 131, 3) := by decide +kernel
theorem dX11_setWill_33 : decode cX11_setWill 33 = .ok (.aload_n 0, 1) := by decide +kernel
theorem dX11_setWill_34 : decode cX11_setWill 34 = .ok (.iload_n 1, 1) := by decide +kernel
theorem dX11_setWill_35 : decode cX11_setWill 35 = .ok (.invokevirtual 114, 3) := by decide +kernel
theorem dX11_setWill_38 : decode cX11_setWill 38 = .ok (.aload_n 0, 1) := by decide +kernel
theorem dX11_setWill_39 : decode cX11_setWill 39 = .ok (.getfield 41, 3) := by decide +kernel
theorem dX11_setWill_42 : decode cX11_setWill 42 = .ok (.getfield 77, 3) := by decide +kernel
theorem dX11_setWill_45 : decode cX11_setWill 45 = .ok (.iload_n 1, 1) := by decide +kernel
theorem dX11_setWill_46 : decode cX11_setWill 46 = .ok (.aaload, 1) := by decide +kernel
theorem dX11_setWill_47 : decode cX11_setWill 47 = .ok (.astore 7, 2) := by decide +kernel
theorem dX11_setWill_49 : decode cX11_setWill 49 = .ok (.aload 7, 2) := by decide +kernel
theorem dX11_setWill_51 : decode cX11_setWill 51 = .ok (.getfield 117, 3) := by decide +kernel
theorem dX11_setWill_54 : decode cX11_setWill 54 = .ok (.istore 8, 2) := by decide +kernel
theorem dX11_setWill_56 : decode cX11_setWill 56 = .ok (.aload 7, 2) := by decide +kernel
theorem dX11_setWill_58 : decode cX11_setWill 58 = .ok (.iconst 1, 1) := by decide +kernel
theorem dX11_setWill_59 : decode cX11_setWill 59 = .ok (.putfield 117, 3) := by decide +kernel
theorem dX11_setWill_62 : decode cX11_setWill 62 = .ok (.aload 7, 2) := by decide +kernel
theorem dX11_setWill_64 : decode cX11_setWill 64 = .ok (.iload_n 3, 1) := by decide +kernel
theorem dX11_setWill_65 : decode cX11_setWill 65 = .ok (.putfield 135, 3) := by decide +kernel
theorem dX11_setWill_68 : decode cX11_setWill 68 = .ok (.aload 7, 2) := by decide +kernel
theorem dX11_setWill_70 : decode cX11_setWill 70 = .ok (.getfield 138, 3) := by decide +kernel
theorem dX11_setWill_73 : decode cX11_setWill 73 = .ok (.aload 6, 2) := by decide +kernel
theorem dX11_setWill_75 : decode cX11_setWill 75 = .ok (.iload_n 2, 1) := by decide +kernel
theorem dX11_setWill_76 : decode cX11_setWill 76 = .ok (.iload 4, 2) := by decide +kernel
theorem dX11_setWill_78 : decode cX11_setWill 78 = .ok (.invokevirtual 141, 3) := by decide +kernel
theorem dX11_setWill_81 : decode cX11_setWill 81 = .ok (.iload 8, 2) := by decide +kernel
theorem dX11_setWill_83 : decode cX11_setWill 83 = .ok (.ifCond .eq 7, 3) := by decide +kernel
theorem dX11_setWill_86 : decode cX11_setWill 86 = .ok (.iconst 1, 1) := by decide +kernel
theorem dX11_setWill_87 : decode cX11_setWill 87 = .ok (.goto 4, 3) := by decide +kernel
theorem dX11_setWill_90 : decode cX11_setWill 90 = .ok (.iconst 0, 1) := by decide +kernel
theorem dX11_setWill_91 : decode cX11_setWill 91 = .ok (.ireturn, 1) := by decide +kernel
theorem dX11_sessionState_0 : decode cX11_sessionState 0 = .ok (.iload_n 1, 1) := by decide +kernel
theorem dX11_sessionState_1 : decode cX11_sessionState 1 = .ok (.invokestatic 73, 3) := by decide +kernel
theorem dX11_sessionState_4 : decode cX11_sessionState 4 = .ok (.aload_n 0, 1) := by decide +kernel
theorem dX11_sessionState_5 : decode cX11_sessionState 5 = .ok (.getfield 41, 3) := by decide +kernel
theorem dX11_sessionState_8 : decode cX11_sessionState 8 = .ok (.getfield 77, 3) := by decide +kernel
theorem dX11_sessionState_11 : decode cX11_sessionState 11 = .ok (.iload_n 1, 1) := by decide +kernel
theorem dX11_sessionState_12 : decode cX11_sessionState 12 = .ok (.aaload, 1) := by decide +kernel
theorem dX11_sessionState_13 : decode cX11_sessionState 13 = .ok (.astore_n 2, 1) := by decide +kernel
theorem dX11_sessionState_14 : decode cX11_sessionState 14 = .ok (.aload_n 2, 1) := by decide +kernel
theorem dX11_sessionState_15 : decode cX11_sessionState 15 = .ok (.getfield 94, 3) := by decide +kernel
theorem dX11_sessionState_18 : decode cX11_sessionState 18 = .ok (.getfield 98, 3) := by decide +kernel
theorem dX11_sessionState_21 : decode cX11_sessionState 21 = .ok (.ifCond .ne 5, 3) := by decide +kernel
theorem dX11_sessionState_24 : decode cX11_sessionState 24 = .ok (.iconst 0, 1) := by decide +kernel
theorem dX11_sessionState_25 : decode cX11_sessionState 25 = .ok (.ireturn, 1) := by decide +kernel
theorem dX11_sessionState_26 : decode cX11_sessionState 26 = .ok (.aload_n 2, 1) := by decide +kernel
theorem dX11_sessionState_27 : decode cX11_sessionState 27 = .ok (.getfield 81, 3) := by decide +kernel
theorem dX11_sessionState_30 : decode cX11_sessionState 30 = .ok (.ifCond .ne 5, 3) := by decide +kernel
theorem dX11_sessionState_33 : decode cX11_sessionState 33 = .ok (.iconst 1, 1) := by decide +kernel
theorem dX11_sessionState_34 : decode cX11_sessionState 34 = .ok (.ireturn, 1) := by decide +kernel
theorem dX11_sessionState_35 : decode cX11_sessionState 35 = .ok (.aload_n 2, 1) := by decide +kernel
theorem dX11_sessionState_36 : decode cX11_sessionState 36 = .ok (.getfield 94, 3) := by decide +kernel
theorem dX11_sessionState_39 : decode cX11_sessionState 39 = .ok (.getfield 145, 3) := by decide +kernel
theorem dX11_sessionState_42 : decode cX11_sessionState 42 = .ok (.ifCond .eq 7, 3) := by decide +kernel
theorem dX11_sessionState_45 : decode cX11_sessionState 45 = .ok (.iconst 3, 1) := by decide +kernel
theorem dX11_sessionState_46 : decode cX11_sessionState 46 = .ok (.goto 4, 3) := by decide +kernel
theorem dX11_sessionState_49 : decode cX11_sessionState 49 = .ok (.iconst 2, 1) := by decide +kernel
theorem dX11_sessionState_50 : decode cX11_sessionState 50 = .ok (.ireturn, 1) := by decide +kernel
theorem dX11_subscribe_0 : decode cX11_subscribe 0 = .ok (.aload_n 0, 1) := by decide +kernel
theorem dX11_subscribe_1 : decode cX11_subscribe 1 = .ok (.invokevirtual 123, 3) := by decide +kernel
theorem dX11_subscribe_4 : decode cX11_subscribe 4 = .ok (.istore 5, 2) := by decide +kernel
theorem dX11_subscribe_6 : decode cX11_subscribe 6 = .ok (.iload_n 1, 1) := by decide +kernel
theorem dX11_subscribe_7 : decode cX11_subscribe 7 = .ok (.invokestatic 73, 3) := by decide +kernel
theorem dX11_subscribe_10 : decode cX11_subscribe 10 = .ok (.aload_n 0, 1) := by decide +kernel
theorem dX11_subscribe_11 : decode cX11_subscribe 11 = .ok (.iload 5, 2) := by decide +kernel
theorem dX11_subscribe_13 : decode cX11_subscribe 13 = .ok (.invokevirtual 148, 3) := by decide +kernel
theorem dX11_subscribe_16 : decode cX11_subscribe 16 = .ok (.astore 6, 2) := by decide +kernel
theorem dX11_subscribe_18 : decode cX11_subscribe 18 = .ok (.iload_n 2, 1) := by decide +kernel
theorem dX11_subscribe_19 : decode cX11_subscribe 19 = .ok (.iconst 0, 1) := by decide +kernel
theorem dX11_subscribe_20 : decode cX11_subscribe 20 = .ok (.iconst 2, 1) := by decide +kernel
theorem dX11_subscribe_21 : decode cX11_subscribe 21 = .ok (.invokestatic 131, 3) := by decide +kernel
theorem dX11_subscribe_24 : decode cX11_subscribe 24 = .ok (.iload_n 3, 1) := by decide +kernel
theorem dX11_subscribe_25 : decode cX11_subscribe 25 = .ok (.iconst 0, 1) := by decide +kernel
theorem dX11_subscribe_26 : decode cX11_subscribe 26 = .ok (.iconst 3, 1) := by decide +kernel
theorem dX11_subscribe_27 : decode cX11_subscribe 27 = .ok (.invokestatic 131, 3) := by decide +kernel
theorem dX11_subscribe_30 : decode cX11_subscribe 30 = .ok (.iload 4, 2) := by decide +kernel
theorem dX11_subscribe_32 : decode cX11_subscribe 32 = .ok (.iconst 0, 1) := by decide +kernel
theorem dX11_subscribe_33 : decode cX11_subscribe 33 = .ok (.bipush 7, 2) := by decide +kernel
theorem dX11_subscribe_35 : decode cX11_subscribe 35 = .ok (.invokestatic 131, 3) := by decide +kernel
theorem dX11_subscribe_38 : decode cX11_subscribe 38 = .ok (.iload_n 3, 1) := by decide +kernel
theorem dX11_subscribe_39 : decode cX11_subscribe 39 = .ok (.ifCond .eq 18, 3) := by decide +kernel
theorem dX11_subscribe_42 : decode cX11_subscribe 42 = .ok (.iload 4, 2) := by decide +kernel
theorem dX11_subscribe_44 : decode cX11_subscribe 44 = .ok (.iconst 1, 1) := by decide +kernel
theorem dX11_subscribe_45 : decode cX11_subscribe 45 = .ok (.iand, 1) := by decide +kernel
theorem dX11_subscribe_46 : decode cX11_subscribe 46 = .ok (.ifCond .eq 11, 3) := by decide +kernel
theorem dX11_subscribe_49 : decode cX11_subscribe 49 = .ok (.new 48, 3) := by decide +kernel
theorem dX11_subscribe_52 : decode cX11_subscribe 52 = .ok (.dup, 1) := by decide +kernel
theorem dX11_subscribe_53 : decode cX11_subscribe 53 = .ok (.invokespecial 50, 3) := by decide +kernel
theorem dX11_subscribe_56 : decode cX11_subscribe 56 = .ok (.athrow, 1) := by decide +kernel
theorem dX11_subscribe_57 : decode cX11_subscribe 57 = .ok (.aload_n 0, 1) := by decide +kernel
theorem dX11_subscribe_58 : decode cX11_subscribe 58 = .ok (.iload_n 1, 1) := by decide +kernel
theorem dX11_subscribe_59 : decode cX11_subscribe 59 = .ok (.invokevirtual 114, 3) := by decide +kernel
theorem dX11_subscribe_62 : decode cX11_subscribe 62 = .ok (.aload_n 0, 1) := by decide +kernel
theorem dX11_subscribe_63 : decode cX11_subscribe 63 = .ok (.getfield 41, 3) := by decide +kernel
theorem dX11_subscribe_66 : decode cX11_subscribe 66 = .ok (.getfield 77, 3) := by decide +kernel
theorem dX11_subscribe_69 : decode cX11_subscribe 69 = .ok (.iload_n 1, 1) := by decide +kernel
theorem dX11_subscribe_70 : decode cX11_subscribe 70 = .ok (.aaload, 1) := by decide +kernel
theorem dX11_subscribe_71 : decode cX11_subscribe 71 = .ok (.getfield 94, 3) := by decide +kernel
theorem dX11_subscribe_74 : decode cX11_subscribe 74 = .ok (.astore 7, 2) := by decide +kernel
theorem dX11_subscribe_76 : decode cX11_subscribe 76 = .ok (.aload 7, 2) := by decide +kernel
theorem dX11_subscribe_78 : decode cX11_subscribe 78 = .ok (.aload 6, 2) := by decide +kernel
theorem dX11_subscribe_80 : decode cX11_subscribe 80 = .ok (.iload_n 3, 1) := by decide +kernel
theorem dX11_subscribe_81 : decode cX11_subscribe 81 = .ok (.invokevirtual 151, 3) := by decide +kernel
theorem dX11_subscribe_84 : decode cX11_subscribe 84 = .ok (.istore 8, 2) := by decide +kernel
theorem dX11_subscribe_86 : decode cX11_subscribe 86 = .ok (.iload 8, 2) := by decide +kernel
theorem dX11_subscribe_88 : decode cX11_subscribe 88 = .ok (.ifCond .ge 7, 3) := by decide +kernel
theorem dX11_subscribe_91 : decode cX11_subscribe 91 = .ok (.iconst 1, 1) := by decide +kernel
theorem dX11_subscribe_92 : decode cX11_subscribe 92 = .ok (.goto 4, 3) := by decide +kernel
theorem dX11_subscribe_95 : decode cX11_subscribe 95 = .ok (.iconst 0, 1) := by decide +kernel
theorem dX11_subscribe_96 : decode cX11_subscribe 96 = .ok (.istore 9, 2) := by decide +kernel
theorem dX11_subscribe_98 : decode cX11_subscribe 98 = .ok (.iload 9, 2) := by decide +kernel
theorem dX11_subscribe_100 : decode cX11_subscribe 100 = .ok (.ifCond .eq 21, 3) := by decide +kernel
theorem dX11_subscribe_103 : decode cX11_subscribe 103 = .ok (.aload 7, 2) := by decide +kernel
theorem dX11_subscribe_105 : decode cX11_subscribe 105 = .ok (.getfield 155, 3) := by decide +kernel
theorem dX11_subscribe_108 : decode cX11_subscribe 108 = .ok (.bipush 6, 2) := by decide +kernel
theorem dX11_subscribe_110 : decode cX11_subscribe 110 = .ok (.if_icmp .lt 11, 3) := by decide +kernel
theorem dX11_subscribe_113 : decode cX11_subscribe 113 = .ok (.new 54, 3) := by decide +kernel
theorem dX11_subscribe_116 : decode cX11_subscribe 116 = .ok (.dup, 1) := by decide +kernel
theorem dX11_subscribe_117 : decode cX11_subscribe 117 = .ok (.invokespecial 56, 3) := by decide +kernel
theorem dX11_subscribe_120 : decode cX11_subscribe 120 = .ok (.athrow, 1) := by decide +kernel
theorem dX11_subscribe_121 : decode cX11_subscribe 121 = .ok (.iload 9, 2) := by decide +kernel
theorem dX11_subscribe_123 : decode cX11_subscribe 123 = .ok (.ifCond .eq 23, 3) := by decide +kernel
theorem dX11_subscribe_126 : decode cX11_subscribe 126 = .ok (.aload_n 0, 1) := by decide +kernel
theorem dX11_subscribe_127 : decode cX11_subscribe 127 = .ok (.getfield 41, 3) := by decide +kernel
theorem dX11_subscribe_130 : decode cX11_subscribe 130 = .ok (.iload_n 1, 1) := by decide +kernel
theorem dX11_subscribe_131 : decode cX11_subscribe 131 = .ok (.aload 6, 2) := by decide +kernel
theorem dX11_subscribe_133 : decode cX11_subscribe 133 = .ok (.iload_n 3, 1) := by decide +kernel
theorem dX11_subscribe_134 : decode cX11_subscribe 134 = .ok (.invokevirtual 158, 3) := by decide +kernel
theorem dX11_subscribe_137 : decode cX11_subscribe 137 = .ok (.aload 7, 2) := by decide +kernel
theorem dX11_subscribe_139 : decode cX11_subscribe 139 = .ok (.getfield 155, 3) := by decide +kernel
theorem dX11_subscribe_142 : decode cX11_subscribe 142 = .ok (.iconst 1, 1) := by decide +kernel
theorem dX11_subscribe_143 : decode cX11_subscribe 143 = .ok (.isub, 1) := by decide +kernel
theorem dX11_subscribe_144 : decode cX11_subscribe 144 = .ok (.istore 8, 2) := by decide +kernel
theorem dX11_subscribe_146 : decode cX11_subscribe 146 = .ok (.iload 8, 2) := by decide +kernel
theorem dX11_subscribe_148 : decode cX11_subscribe 148 = .ok (.ifCond .lt 39, 3) := by decide +kernel
theorem dX11_subscribe_151 : decode cX11_subscribe 151 = .ok (.iload 8, 2) := by decide +kernel
theorem dX11_subscribe_153 : decode cX11_subscribe 153 = .ok (.aload 7, 2) := by decide +kernel
theorem dX11_subscribe_155 : decode cX11_subscribe 155 = .ok (.getfield 162, 3) := by decide +kernel
theorem dX11_subscribe_158 : decode cX11_subscribe 158 = .ok (.arraylength, 1) := by decide +kernel
theorem dX11_subscribe_159 : decode cX11_subscribe 159 = .ok (.if_icmp .ge 28, 3) := by decide +kernel
theorem dX11_subscribe_162 : decode cX11_subscribe 162 = .ok (.aload 7, 2) := by decide +kernel
theorem dX11_subscribe_164 : decode cX11_subscribe 164 = .ok (.getfield 162, 3) := by decide +kernel
theorem dX11_subscribe_167 : decode cX11_subscribe 167 = .ok (.iload 8, 2) := by decide +kernel
theorem dX11_subscribe_169 : decode cX11_subscribe 169 = .ok (.aaload, 1) := by decide +kernel
theorem dX11_subscribe_170 : decode cX11_subscribe 170 = .ok (.iload_n 2, 1) := by decide +kernel
theorem dX11_subscribe_171 : decode cX11_subscribe 171 = .ok (.putfield 166, 3) := by decide +kernel
theorem dX11_subscribe_174 : decode cX11_subscribe 174 = .ok (.aload 7, 2) := by decide +kernel
theorem dX11_subscribe_176 : decode cX11_subscribe 176 = .ok (.getfield 162, 3) := by decide +kernel
theorem dX11_subscribe_179 : decode cX11_subscribe 179 = .ok (.iload 8, 2) := by decide +kernel
theorem dX11_subscribe_181 : decode cX11_subscribe 181 = .ok (.aaload, 1) := by decide +kernel
theorem dX11_subscribe_182 : decode cX11_subscribe 182 = .ok (.iload 4, 2) := by decide +kernel
theorem dX11_subscribe_184 : decode cX11_subscribe 184 = .ok (.putfield 171, 3) := by decide +kernel
theorem dX11_subscribe_187 : decode cX11_subscribe 187 = .ok (.iload 4, 2) := by decide +kernel
theorem dX11_subscribe_189 : decode cX11_subscribe 189 = .ok (.iconst 2, 1) := by decide +kernel
theorem dX11_subscribe_190 : decode cX11_subscribe 190 = .ok (.iand, 1) := by decide +kernel
theorem dX11_subscribe_191 : decode cX11_subscribe 191 = .ok (.ifCond .ne 19, 3) := by decide +kernel
theorem dX11_subscribe_194 : decode cX11_subscribe 194 = .ok (.iload 9, 2) := by decide +kernel
theorem dX11_subscribe_196 : decode cX11_subscribe 196 = .ok (.ifCond .ne 10, 3) := by decide +kernel
theorem dX11_subscribe_199 : decode cX11_subscribe 199 = .ok (.iload 4, 2) := by decide +kernel
theorem dX11_subscribe_201 : decode cX11_subscribe 201 = .ok (.iconst 4, 1) := by decide +kernel
theorem dX11_subscribe_202 : decode cX11_subscribe 202 = .ok (.iand, 1) := by decide +kernel
theorem dX11_subscribe_203 : decode cX11_subscribe 203 = .ok (.ifCond .ne 7, 3) := by decide +kernel
theorem dX11_subscribe_206 : decode cX11_subscribe 206 = .ok (.iconst 1, 1) := by decide +kernel
theorem dX11_subscribe_207 : decode cX11_subscribe 207 = .ok (.goto 4, 3) := by decide +kernel
theorem dX11_subscribe_210 : decode cX11_subscribe 210 = .ok (.iconst 0, 1) := by decide +kernel
theorem dX11_subscribe_211 : decode cX11_subscribe 211 = .ok (.istore 10, 2) := by decide +kernel
theorem dX11_subscribe_213 : decode cX11_subscribe 213 = .ok (.iload_n 3, 1) := by decide +kernel
theorem dX11_subscribe_214 : decode cX11_subscribe 214 = .ok (.ifCond .ne 19, 3) := by decide +kernel
theorem dX11_subscribe_217 : decode cX11_subscribe 217 = .ok (.iload 10, 2) := by decide +kernel
theorem dX11_subscribe_219 : decode cX11_subscribe 219 = .ok (.ifCond .eq 14, 3) := by decide +kernel
theorem dX11_subscribe_222 : decode cX11_subscribe 222 = .ok (.aload_n 0, 1) := by decide +kernel
theorem dX11_subscribe_223 : decode cX11_subscribe 223 = .ok (.getfield 41, 3) := by decide +kernel
theorem dX11_subscribe_226 : decode cX11_subscribe 226 = .ok (.iload_n 1, 1) := by decide +kernel
theorem dX11_subscribe_227 : decode cX11_subscribe 227 = .ok (.aload 6, 2) := by decide +kernel
theorem dX11_subscribe_229 : decode cX11_subscribe 229 = .ok (.iload_n 2, 1) := by decide +kernel
theorem dX11_subscribe_230 : decode cX11_subscribe 230 = .ok (.invokevirtual 173, 3) := by decide +kernel
theorem dX11_subscribe_233 : decode cX11_subscribe 233 = .ok (.aload 7, 2) := by decide +kernel
theorem dX11_subscribe_235 : decode cX11_subscribe 235 = .ok (.getfield 155, 3) := by decide +kernel
theorem dX11_subscribe_238 : decode cX11_subscribe 238 = .ok (.ireturn, 1) := by decide +kernel
theorem dX11_unsubscribe_0 : decode cX11_unsubscribe 0 = .ok (.aload_n 0, 1) := by decide +kernel
theorem dX11_unsubscribe_1 : decode cX11_unsubscribe 1 = .ok (.invokevirtual 123, 3) := by decide +kernel
theorem dX11_unsubscribe_4 : decode cX11_unsubscribe 4 = .ok (.istore_n 3, 1) := by decide +kernel
theorem dX11_unsubscribe_5 : decode cX11_unsubscribe 5 = .ok (.iload_n 1, 1) := by decide +kernel
theorem dX11_unsubscribe_6 : decode cX11_unsubscribe 6 = .ok (.invokestatic 73, 3) := by decide +kernel
theorem dX11_unsubscribe_9 : decode cX11_unsubscribe 9 = .ok (.aload_n 0, 1) := by decide +kernel
theorem dX11_unsubscribe_10 : decode cX11_unsubscribe 10 = .ok (.iload_n 3, 1) := by decide +kernel
theorem dX11_unsubscribe_11 : decode cX11_unsubscribe 11 = .ok (.invokevirtual 148, 3) := by decide +kernel
theorem dX11_unsubscribe_14 : decode cX11_unsubscribe 14 = .ok (.astore 4, 2) := by decide +kernel
theorem dX11_unsubscribe_16 : decode cX11_unsubscribe 16 = .ok (.iload_n 2, 1) := by decide +kernel
theorem dX11_unsubscribe_17 : decode cX11_unsubscribe 17 = .ok (.iconst 0, 1) := by decide +kernel
theorem dX11_unsubscribe_18 : decode cX11_unsubscribe 18 = .ok (.iconst 3, 1) := by decide +kernel
theorem dX11_unsubscribe_19 : decode cX11_unsubscribe 19 = .ok (.invokestatic 131, 3) := by decide +kernel
theorem dX11_unsubscribe_22 : decode cX11_unsubscribe 22 = .ok (.aload_n 0, 1) := by decide +kernel
theorem dX11_unsubscribe_23 : decode cX11_unsubscribe 23 = .ok (.iload_n 1, 1) := by decide +kernel
theorem dX11_unsubscribe_24 : decode cX11_unsubscribe 24 = .ok (.invokevirtual 114, 3) := by decide +kernel
theorem dX11_unsubscribe_27 : decode cX11_unsubscribe 27 = .ok (.aload_n 0, 1) := by decide +kernel
theorem dX11_unsubscribe_28 : decode cX11_unsubscribe 28 = .ok (.getfield 41, 3) := by decide +kernel
theorem dX11_unsubscribe_31 : decode cX11_unsubscribe 31 = .ok (.iload_n 1, 1) := by decide +kernel
theorem dX11_unsubscribe_32 : decode cX11_unsubscribe 32 = .ok (.aload 4, 2) := by decide +kernel
theorem dX11_unsubscribe_34 : decode cX11_unsubscribe 34 = .ok (.iload_n 2, 1) := by decide +kernel
theorem dX11_unsubscribe_35 : decode cX11_unsubscribe 35 = .ok (.invokevirtual 176, 3) := by decide +kernel
theorem dX11_unsubscribe_38 : decode cX11_unsubscribe 38 = .ok (.ifCond .eq 7, 3) := by decide +kernel
theorem dX11_unsubscribe_41 : decode cX11_unsubscribe 41 = .ok (.iconst 1, 1) := by decide +kernel
theorem dX11_unsubscribe_42 : decode cX11_unsubscribe 42 = .ok (.goto 4, 3) := by decide +kernel
theorem dX11_unsubscribe_45 : decode cX11_unsubscribe 45 = .ok (.iconst 0, 1) := by decide +kernel
theorem dX11_unsubscribe_46 : decode cX11_unsubscribe 46 = .ok (.ireturn, 1) := by decide +kernel
theorem dX11_subscription_0 : decode cX11_subscription 0 = .ok (.iload_n 1, 1) := by decide +kernel
theorem dX11_subscription_1 : decode cX11_subscription 1 = .ok (.invokestatic 73, 3) := by decide +kernel
theorem dX11_subscription_4 : decode cX11_subscription 4 = .ok (.aload_n 0, 1) := by decide +kernel
theorem dX11_subscription_5 : decode cX11_subscription 5 = .ok (.iload_n 1, 1) := by decide +kernel
theorem dX11_subscription_6 : decode cX11_subscription 6 = .ok (.iload_n 2, 1) := by decide +kernel
theorem dX11_subscription_7 : decode cX11_subscription 7 = .ok (.invokevirtual 180, 3) := by decide +kernel
theorem dX11_subscription_10 : decode cX11_subscription 10 = .ok (.aload_n 0, 1) := by decide +kernel
theorem dX11_subscription_11 : decode cX11_subscription 11 = .ok (.getfield 41, 3) := by decide +kernel
theorem dX11_subscription_14 : decode cX11_subscription 14 = .ok (.getfield 77, 3) := by decide +kernel
theorem dX11_subscription_17 : decode cX11_subscription 17 = .ok (.iload_n 1, 1) := by decide +kernel
theorem dX11_subscription_18 : decode cX11_subscription 18 = .ok (.aaload, 1) := by decide +kernel
theorem dX11_subscription_19 : decode cX11_subscription 19 = .ok (.getfield 94, 3) := by decide +kernel
theorem dX11_subscription_22 : decode cX11_subscription 22 = .ok (.getfield 162, 3) := by decide +kernel
theorem dX11_subscription_25 : decode cX11_subscription 25 = .ok (.iload_n 2, 1) := by decide +kernel
theorem dX11_subscription_26 : decode cX11_subscription 26 = .ok (.aaload, 1) := by decide +kernel
theorem dX11_subscription_27 : decode cX11_subscription 27 = .ok (.astore 4, 2) := by decide +kernel
theorem dX11_subscription_29 : decode cX11_subscription 29 = .ok (.iload_n 3, 1) := by decide +kernel
theorem dX11_subscription_30 : decode cX11_subscription 30 = .ok (.tableswitch 57 0 3 #[30, 36, 42, 48], 30) := by decide +kernel
theorem dX11_subscription_60 : decode cX11_subscription 60 = .ok (.aload 4, 2) := by decide +kernel
theorem dX11_subscription_62 : decode cX11_subscription 62 = .ok (.getfield 166, 3) := by decide +kernel
theorem dX11_subscription_65 : decode cX11_subscription 65 = .ok (.ireturn, 1) := by decide +kernel
theorem dX11_subscription_66 : decode cX11_subscription 66 = .ok (.aload 4, 2) := by decide +kernel
theorem dX11_subscription_68 : decode cX11_subscription 68 = .ok (.getfield 184, 3) := by decide +kernel
theorem dX11_subscription_71 : decode cX11_subscription 71 = .ok (.ireturn, 1) := by decide +kernel
theorem dX11_subscription_72 : decode cX11_subscription 72 = .ok (.aload 4, 2) := by decide +kernel
theorem dX11_subscription_74 : decode cX11_subscription 74 = .ok (.getfield 171, 3) := by decide +kernel
theorem dX11_subscription_77 : decode cX11_subscription 77 = .ok (.ireturn, 1) := by decide +kernel
theorem dX11_subscription_78 : decode cX11_subscription 78 = .ok (.aload 4, 2) := by decide +kernel
theorem dX11_subscription_80 : decode cX11_subscription 80 = .ok (.getfield 187, 3) := by decide +kernel
theorem dX11_subscription_83 : decode cX11_subscription 83 = .ok (.getfield 191, 3) := by decide +kernel
theorem dX11_subscription_86 : decode cX11_subscription 86 = .ok (.ireturn, 1) := by decide +kernel
theorem dX11_subscription_87 : decode cX11_subscription 87 = .ok (.new 48, 3) := by decide +kernel
theorem dX11_subscription_90 : decode cX11_subscription 90 = .ok (.dup, 1) := by decide +kernel
theorem dX11_subscription_91 : decode cX11_subscription 91 = .ok (.invokespecial 50, 3) := by decide +kernel
theorem dX11_subscription_94 : decode cX11_subscription 94 = .ok (.athrow, 1) := by decide +kernel
theorem dX11_publish_0 : decode cX11_publish 0 = .ok (.aload_n 0, 1) := by decide +kernel
theorem dX11_publish_1 : decode cX11_publish 1 = .ok (.invokevirtual 123, 3) := by decide +kernel
theorem dX11_publish_4 : decode cX11_publish 4 = .ok (.istore 6, 2) := by decide +kernel
theorem dX11_publish_6 : decode cX11_publish 6 = .ok (.iload_n 1, 1) := by decide +kernel
theorem dX11_publish_7 : decode cX11_publish 7 = .ok (.invokestatic 73, 3) := by decide +kernel
theorem dX11_publish_10 : decode cX11_publish 10 = .ok (.aload_n 0, 1) := by decide +kernel
theorem dX11_publish_11 : decode cX11_publish 11 = .ok (.iload 6, 2) := by decide +kernel
theorem dX11_publish_13 : decode cX11_publish 13 = .ok (.invokevirtual 127, 3) := by decide +kernel
theorem dX11_publish_16 : decode cX11_publish 16 = .ok (.astore 7, 2) := by decide +kernel
theorem dX11_publish_18 : decode cX11_publish 18 = .ok (.iload_n 2, 1) := by decide +kernel
theorem dX11_publish_19 : decode cX11_publish 19 = .ok (.iconst 0, 1) := by decide +kernel
theorem dX11_publish_20 : decode cX11_publish 20 = .ok (.iconst 2, 1) := by decide +kernel
theorem dX11_publish_21 : decode cX11_publish 21 = .ok (.invokestatic 131, 3) := by decide +kernel
theorem dX11_publish_24 : decode cX11_publish 24 = .ok (.iload_n 2, 1) := by decide +kernel
theorem dX11_publish_25 : decode cX11_publish 25 = .ok (.ifCond .eq 10, 3) := by decide +kernel
theorem dX11_publish_28 : decode cX11_publish 28 = .ok (.iload_n 3, 1) := by decide +kernel
theorem dX11_publish_29 : decode cX11_publish 29 = .ok (.iconst 1, 1) := by decide +kernel
theorem dX11_publish_30 : decode cX11_publish 30 = .ok (.bipush 50, 2) := by decide +kernel
theorem dX11_publish_32 : decode cX11_publish 32 = .ok (.invokestatic 131, 3) := by decide +kernel
theorem dX11_publish_35 : decode cX11_publish 35 = .ok (.iload 5, 2) := by decide +kernel
theorem dX11_publish_37 : decode cX11_publish 37 = .ok (.iconst 0, 1) := by decide +kernel
theorem dX11_publish_38 : decode cX11_publish 38 = .ok (.sipush 9999, 3) := by decide +kernel
theorem dX11_publish_41 : decode cX11_publish 41 = .ok (.invokestatic 131, 3) := by decide +kernel
theorem dX11_publish_44 : decode cX11_publish 44 = .ok (.aload_n 0, 1) := by decide +kernel
theorem dX11_publish_45 : decode cX11_publish 45 = .ok (.iload_n 1, 1) := by decide +kernel
theorem dX11_publish_46 : decode cX11_publish 46 = .ok (.invokevirtual 114, 3) := by decide +kernel
theorem dX11_publish_49 : decode cX11_publish 49 = .ok (.aload_n 0, 1) := by decide +kernel
theorem dX11_publish_50 : decode cX11_publish 50 = .ok (.getfield 41, 3) := by decide +kernel
theorem dX11_publish_53 : decode cX11_publish 53 = .ok (.getfield 77, 3) := by decide +kernel
theorem dX11_publish_56 : decode cX11_publish 56 = .ok (.iload_n 1, 1) := by decide +kernel
theorem dX11_publish_57 : decode cX11_publish 57 = .ok (.aaload, 1) := by decide +kernel
theorem dX11_publish_58 : decode cX11_publish 58 = .ok (.astore 8, 2) := by decide +kernel
theorem dX11_publish_60 : decode cX11_publish 60 = .ok (.iconst 0, 1) := by decide +kernel
theorem dX11_publish_61 : decode cX11_publish 61 = .ok (.istore 9, 2) := by decide +kernel
theorem dX11_publish_63 : decode cX11_publish 63 = .ok (.iload_n 2, 1) := by decide +kernel
theorem dX11_publish_64 : decode cX11_publish 64 = .ok (.iconst 2, 1) := by decide +kernel
theorem dX11_publish_65 : decode cX11_publish 65 = .ok (.if_icmp .ne 31, 3) := by decide +kernel
theorem dX11_publish_68 : decode cX11_publish 68 = .ok (.aload 8, 2) := by decide +kernel
theorem dX11_publish_70 : decode cX11_publish 70 = .ok (.getfield 94, 3) := by decide +kernel
theorem dX11_publish_73 : decode cX11_publish 73 = .ok (.iload_n 3, 1) := by decide +kernel
theorem dX11_publish_74 : decode cX11_publish 74 = .ok (.invokevirtual 216, 3) := by decide +kernel
theorem dX11_publish_77 : decode cX11_publish 77 = .ok (.ifCond .eq 19, 3) := by decide +kernel
theorem dX11_publish_80 : decode cX11_publish 80 = .ok (.aload_n 0, 1) := by decide +kernel
theorem dX11_publish_81 : decode cX11_publish 81 = .ok (.getfield 41, 3) := by decide +kernel
theorem dX11_publish_84 : decode cX11_publish 84 = .ok (.getfield 87, 3) := by decide +kernel
theorem dX11_publish_87 : decode cX11_publish 87 = .ok (.iconst 3, 1) := by decide +kernel
theorem dX11_publish_88 : decode cX11_publish 88 = .ok (.dup2, 1) := by decide +kernel
theorem dX11_publish_89 : decode cX11_publish 89 = .ok (.iaload, 1) := by decide +kernel
theorem dX11_publish_90 : decode cX11_publish 90 = .ok (.iconst 1, 1) := by decide +kernel
theorem dX11_publish_91 : decode cX11_publish 91 = .ok (.iadd, 1) := by decide +kernel
theorem dX11_publish_92 : decode cX11_publish 92 = .ok (.iastore, 1) := by decide +kernel
theorem dX11_publish_93 : decode cX11_publish 93 = .ok (.goto 31, 3) := by decide +kernel
theorem dX11_publish_96 : decode cX11_publish 96 = .ok (.aload_n 0, 1) := by decide +kernel
theorem dX11_publish_97 : decode cX11_publish 97 = .ok (.getfield 34, 3) := by decide +kernel
theorem dX11_publish_100 : decode cX11_publish 100 = .ok (.aload 7, 2) := by decide +kernel
theorem dX11_publish_102 : decode cX11_publish 102 = .ok (.iload_n 2, 1) := by decide +kernel
theorem dX11_publish_103 : decode cX11_publish 103 = .ok (.iload 5, 2) := by decide +kernel
theorem dX11_publish_105 : decode cX11_publish 105 = .ok (.invokevirtual 141, 3) := by decide +kernel
theorem dX11_publish_108 : decode cX11_publish 108 = .ok (.aload_n 0, 1) := by decide +kernel
theorem dX11_publish_109 : decode cX11_publish 109 = .ok (.getfield 41, 3) := by decide +kernel
theorem dX11_publish_112 : decode cX11_publish 112 = .ok (.iload_n 1, 1) := by decide +kernel
theorem dX11_publish_113 : decode cX11_publish 113 = .ok (.aload_n 0, 1) := by decide +kernel
theorem dX11_publish_114 : decode cX11_publish 114 = .ok (.getfield 34, 3) := by decide +kernel
theorem dX11_publish_117 : decode cX11_publish 117 = .ok (.iload 4, 2) := by decide +kernel
theorem dX11_publish_119 : decode cX11_publish 119 = .ok (.invokevirtual 220, 3) := by decide +kernel
theorem dX11_publish_122 : decode cX11_publish 122 = .ok (.istore 9, 2) := by decide +kernel
theorem dX11_publish_124 : decode cX11_publish 124 = .ok (.iload_n 2, 1) := by decide +kernel
theorem dX11_publish_125 : decode cX11_publish 125 = .ok (.iconst 2, 1) := by decide +kernel
theorem dX11_publish_126 : decode cX11_publish 126 = .ok (.if_icmp .ne 26, 3) := by decide +kernel
theorem dX11_publish_129 : decode cX11_publish 129 = .ok (.aload 8, 2) := by decide +kernel
theorem dX11_publish_131 : decode cX11_publish 131 = .ok (.getfield 94, 3) := by decide +kernel
theorem dX11_publish_134 : decode cX11_publish 134 = .ok (.iload_n 3, 1) := by decide +kernel
theorem dX11_publish_135 : decode cX11_publish 135 = .ok (.invokevirtual 224, 3) := by decide +kernel
theorem dX11_publish_138 : decode cX11_publish 138 = .ok (.aload_n 0, 1) := by decide +kernel
theorem dX11_publish_139 : decode cX11_publish 139 = .ok (.getfield 41, 3) := by decide +kernel
theorem dX11_publish_142 : decode cX11_publish 142 = .ok (.aload 8, 2) := by decide +kernel
theorem dX11_publish_144 : decode cX11_publish 144 = .ok (.iconst 2, 1) := by decide +kernel
theorem dX11_publish_145 : decode cX11_publish 145 = .ok (.iload_n 3, 1) := by decide +kernel
theorem dX11_publish_146 : decode cX11_publish 146 = .ok (.invokevirtual 227, 3) := by decide +kernel
theorem dX11_publish_149 : decode cX11_publish 149 = .ok (.goto 19, 3) := by decide +kernel
theorem dX11_publish_152 : decode cX11_publish 152 = .ok (.iload_n 2, 1) := by decide +kernel
theorem dX11_publish_153 : decode cX11_publish 153 = .ok (.iconst 1, 1) := by decide +kernel
theorem dX11_publish_154 : decode cX11_publish 154 = .ok (.if_icmp .ne 14, 3) := by decide +kernel
theorem dX11_publish_157 : decode cX11_publish 157 = .ok (.aload_n 0, 1) := by decide +kernel
theorem dX11_publish_158 : decode cX11_publish 158 = .ok (.getfield 41, 3) := by decide +kernel
theorem dX11_publish_161 : decode cX11_publish 161 = .ok (.aload 8, 2) := by decide +kernel
theorem dX11_publish_163 : decode cX11_publish 163 = .ok (.iconst 1, 1) := by decide +kernel
theorem dX11_publish_164 : decode cX11_publish 164 = .ok (.iload_n 3, 1) := by decide +kernel
theorem dX11_publish_165 : decode cX11_publish 165 = .ok (.invokevirtual 227, 3) := by decide +kernel
theorem dX11_publish_168 : decode cX11_publish 168 = .ok (.iload 9, 2) := by decide +kernel
theorem dX11_publish_170 : decode cX11_publish 170 = .ok (.ireturn, 1) := by decide +kernel
theorem dX11_release_0 : decode cX11_release 0 = .ok (.iload_n 1, 1) := by decide +kernel
theorem dX11_release_1 : decode cX11_release 1 = .ok (.invokestatic 73, 3) := by decide +kernel
theorem dX11_release_4 : decode cX11_release 4 = .ok (.iload_n 2, 1) := by decide +kernel
theorem dX11_release_5 : decode cX11_release 5 = .ok (.iconst 1, 1) := by decide +kernel
theorem dX11_release_6 : decode cX11_release 6 = .ok (.bipush 50, 2) := by decide +kernel
theorem dX11_release_8 : decode cX11_release 8 = .ok (.invokestatic 131, 3) := by decide +kernel
theorem dX11_release_11 : decode cX11_release 11 = .ok (.aload_n 0, 1) := by decide +kernel
theorem dX11_release_12 : decode cX11_release 12 = .ok (.iload_n 1, 1) := by decide +kernel
theorem dX11_release_13 : decode cX11_release 13 = .ok (.invokevirtual 114, 3) := by decide +kernel
theorem dX11_release_16 : decode cX11_release 16 = .ok (.aload_n 0, 1) := by decide +kernel
theorem dX11_release_17 : decode cX11_release 17 = .ok (.getfield 41, 3) := by decide +kernel
theorem dX11_release_20 : decode cX11_release 20 = .ok (.getfield 77, 3) := by decide +kernel
theorem dX11_release_23 : decode cX11_release 23 = .ok (.iload_n 1, 1) := by decide +kernel
theorem dX11_release_24 : decode cX11_release 24 = .ok (.aaload, 1) := by decide +kernel
theorem dX11_release_25 : decode cX11_release 25 = .ok (.astore_n 3, 1) := by decide +kernel
theorem dX11_release_26 : decode cX11_release 26 = .ok (.aload_n 3, 1) := by decide +kernel
theorem dX11_release_27 : decode cX11_release 27 = .ok (.getfield 94, 3) := by decide +kernel
theorem dX11_release_30 : decode cX11_release 30 = .ok (.iload_n 2, 1) := by decide +kernel
theorem dX11_release_31 : decode cX11_release 31 = .ok (.invokevirtual 216, 3) := by decide +kernel
theorem dX11_release_34 : decode cX11_release 34 = .ok (.istore 4, 2) := by decide +kernel
theorem dX11_release_36 : decode cX11_release 36 = .ok (.aload_n 3, 1) := by decide +kernel
theorem dX11_release_37 : decode cX11_release 37 = .ok (.getfield 94, 3) := by decide +kernel
theorem dX11_release_40 : decode cX11_release 40 = .ok (.iload_n 2, 1) := by decide +kernel
theorem dX11_release_41 : decode cX11_release 41 = .ok (.invokevirtual 231, 3) := by decide +kernel
theorem dX11_release_44 : decode cX11_release 44 = .ok (.aload_n 0, 1) := by decide +kernel
theorem dX11_release_45 : decode cX11_release 45 = .ok (.getfield 41, 3) := by decide +kernel
theorem dX11_release_48 : decode cX11_release 48 = .ok (.aload_n 3, 1) := by decide +kernel
theorem dX11_release_49 : decode cX11_release 49 = .ok (.iconst 4, 1) := by decide +kernel
theorem dX11_release_50 : decode cX11_release 50 = .ok (.iload_n 2, 1) := by decide +kernel
theorem dX11_release_51 : decode cX11_release 51 = .ok (.invokevirtual 227, 3) := by decide +kernel
theorem dX11_release_54 : decode cX11_release 54 = .ok (.iload 4, 2) := by decide +kernel
theorem dX11_release_56 : decode cX11_release 56 = .ok (.ifCond .eq 7, 3) := by decide +kernel
theorem dX11_release_59 : decode cX11_release 59 = .ok (.iconst 1, 1) := by decide +kernel
theorem dX11_release_60 : decode cX11_release 60 = .ok (.goto 4, 3) := by decide +kernel
theorem dX11_release_63 : decode cX11_release 63 = .ok (.iconst 0, 1) := by decide +kernel
theorem dX11_release_64 : decode cX11_release 64 = .ok (.ireturn, 1) := by decide +kernel
theorem dX11_answer_0 : decode cX11_answer 0 = .ok (.iload_n 1, 1) := by decide +kernel
theorem dX11_answer_1 : decode cX11_answer 1 = .ok (.invokestatic 73, 3) := by decide +kernel
theorem dX11_answer_4 : decode cX11_answer 4 = .ok (.iload_n 2, 1) := by decide +kernel
theorem dX11_answer_5 : decode cX11_answer 5 = .ok (.iconst 1, 1) := by decide +kernel
theorem dX11_answer_6 : decode cX11_answer 6 = .ok (.if_icmp .eq 21, 3) := by decide +kernel
theorem dX11_answer_9 : decode cX11_answer 9 = .ok (.iload_n 2, 1) := by decide +kernel
theorem dX11_answer_10 : decode cX11_answer 10 = .ok (.iconst 2, 1) := by decide +kernel
theorem dX11_answer_11 : decode cX11_answer 11 = .ok (.if_icmp .eq 16, 3) := by decide +kernel
theorem dX11_answer_14 : decode cX11_answer 14 = .ok (.iload_n 2, 1) := by decide +kernel
theorem dX11_answer_15 : decode cX11_answer 15 = .ok (.iconst 4, 1) := by decide +kernel
theorem dX11_answer_16 : decode cX11_answer 16 = .ok (.if_icmp .eq 11, 3) := by decide +kernel
theorem dX11_answer_19 : decode cX11_answer 19 = .ok (.new 48, 3) := by decide +kernel
theorem dX11_answer_22 : decode cX11_answer 22 = .ok (.dup, 1) := by decide +kernel
theorem dX11_answer_23 : decode cX11_answer 23 = .ok (.invokespecial 50, 3) := by decide +kernel
theorem dX11_answer_26 : decode cX11_answer 26 = .ok (.athrow, 1) := by decide +kernel
theorem dX11_answer_27 : decode cX11_answer 27 = .ok (.iload_n 3, 1) := by decide +kernel
theorem dX11_answer_28 : decode cX11_answer 28 = .ok (.iconst 1, 1) := by decide +kernel
theorem dX11_answer_29 : decode cX11_answer 29 = .ok (.bipush 50, 2) := by decide +kernel
theorem dX11_answer_31 : decode cX11_answer 31 = .ok (.invokestatic 131, 3) := by decide +kernel
theorem dX11_answer_34 : decode cX11_answer 34 = .ok (.aload_n 0, 1) := by decide +kernel
theorem dX11_answer_35 : decode cX11_answer 35 = .ok (.iload_n 1, 1) := by decide +kernel
theorem dX11_answer_36 : decode cX11_answer 36 = .ok (.invokevirtual 114, 3) := by decide +kernel
theorem dX11_answer_39 : decode cX11_answer 39 = .ok (.aload_n 0, 1) := by decide +kernel
theorem dX11_answer_40 : decode cX11_answer 40 = .ok (.getfield 41, 3) := by decide +kernel
theorem dX11_answer_43 : decode cX11_answer 43 = .ok (.aload_n 0, 1) := by decide +kernel
theorem dX11_answer_44 : decode cX11_answer 44 = .ok (.getfield 41, 3) := by decide +kernel
theorem dX11_answer_47 : decode cX11_answer 47 = .ok (.getfield 77, 3) := by decide +kernel
theorem dX11_answer_50 : decode cX11_answer 50 = .ok (.iload_n 1, 1) := by decide +kernel
theorem dX11_answer_51 : decode cX11_answer 51 = .ok (.aaload, 1) := by decide +kernel
theorem dX11_answer_52 : decode cX11_answer 52 = .ok (.iload_n 2, 1) := by decide +kernel
theorem dX11_answer_53 : decode cX11_answer 53 = .ok (.iload_n 3, 1) := by decide +kernel
theorem dX11_answer_54 : decode cX11_answer 54 = .ok (.invokevirtual 234, 3) := by decide +kernel
theorem dX11_answer_57 : decode cX11_answer 57 = .ok (.ifCond .eq 7, 3) := by decide +kernel
theorem dX11_answer_60 : decode cX11_answer 60 = .ok (.iconst 1, 1) := by decide +kernel
theorem dX11_answer_61 : decode cX11_answer 61 = .ok (.goto 4, 3) := by decide +kernel
theorem dX11_answer_64 : decode cX11_answer 64 = .ok (.iconst 0, 1) := by decide +kernel
theorem dX11_answer_65 : decode cX11_answer 65 = .ok (.ireturn, 1) := by decide +kernel
theorem dX11_audience_0 : decode cX11_audience 0 = .ok (.aload_n 0, 1) := by decide +kernel
theorem dX11_audience_1 : decode cX11_audience 1 = .ok (.invokevirtual 123, 3) := by decide +kernel
theorem dX11_audience_4 : decode cX11_audience 4 = .ok (.istore_n 2, 1) := by decide +kernel
theorem dX11_audience_5 : decode cX11_audience 5 = .ok (.iload_n 1, 1) := by decide +kernel
theorem dX11_audience_6 : decode cX11_audience 6 = .ok (.invokestatic 73, 3) := by decide +kernel
theorem dX11_audience_9 : decode cX11_audience 9 = .ok (.aload_n 0, 1) := by decide +kernel
theorem dX11_audience_10 : decode cX11_audience 10 = .ok (.iload_n 2, 1) := by decide +kernel
theorem dX11_audience_11 : decode cX11_audience 11 = .ok (.invokevirtual 127, 3) := by decide +kernel
theorem dX11_audience_14 : decode cX11_audience 14 = .ok (.astore_n 3, 1) := by decide +kernel
theorem dX11_audience_15 : decode cX11_audience 15 = .ok (.aload_n 0, 1) := by decide +kernel
theorem dX11_audience_16 : decode cX11_audience 16 = .ok (.getfield 41, 3) := by decide +kernel
theorem dX11_audience_19 : decode cX11_audience 19 = .ok (.iload_n 1, 1) := by decide +kernel
theorem dX11_audience_20 : decode cX11_audience 20 = .ok (.aload_n 3, 1) := by decide +kernel
theorem dX11_audience_21 : decode cX11_audience 21 = .ok (.invokevirtual 238, 3) := by decide +kernel
theorem dX11_audience_24 : decode cX11_audience 24 = .ok (.ireturn, 1) := by decide +kernel
theorem dX11_receive_0 : decode cX11_receive 0 = .ok (.iload_n 1, 1) := by decide +kernel
theorem dX11_receive_1 : decode cX11_receive 1 = .ok (.invokestatic 73, 3) := by decide +kernel
theorem dX11_receive_4 : decode cX11_receive 4 = .ok (.aload_n 0, 1) := by decide +kernel
theorem dX11_receive_5 : decode cX11_receive 5 = .ok (.iload_n 1, 1) := by decide +kernel
theorem dX11_receive_6 : decode cX11_receive 6 = .ok (.invokevirtual 114, 3) := by decide +kernel
theorem dX11_receive_9 : decode cX11_receive 9 = .ok (.aload_n 0, 1) := by decide +kernel
theorem dX11_receive_10 : decode cX11_receive 10 = .ok (.getfield 41, 3) := by decide +kernel
theorem dX11_receive_13 : decode cX11_receive 13 = .ok (.getfield 77, 3) := by decide +kernel
theorem dX11_receive_16 : decode cX11_receive 16 = .ok (.iload_n 1, 1) := by decide +kernel
theorem dX11_receive_17 : decode cX11_receive 17 = .ok (.aaload, 1) := by decide +kernel
theorem dX11_receive_18 : decode cX11_receive 18 = .ok (.getfield 242, 3) := by decide +kernel
theorem dX11_receive_21 : decode cX11_receive 21 = .ok (.astore_n 2, 1) := by decide +kernel
theorem dX11_receive_22 : decode cX11_receive 22 = .ok (.aload_n 2, 1) := by decide +kernel
theorem dX11_receive_23 : decode cX11_receive 23 = .ok (.getfield 246, 3) := by decide +kernel
theorem dX11_receive_26 : decode cX11_receive 26 = .ok (.ifCond .ne 5, 3) := by decide +kernel
theorem dX11_receive_29 : decode cX11_receive 29 = .ok (.iconst (-1), 1) := by decide +kernel
theorem dX11_receive_30 : decode cX11_receive 30 = .ok (.ireturn, 1) := by decide +kernel
theorem dX11_receive_31 : decode cX11_receive 31 = .ok (.aload_n 0, 1) := by decide +kernel
theorem dX11_receive_32 : decode cX11_receive 32 = .ok (.getfield 27, 3) := by decide +kernel
theorem dX11_receive_35 : decode cX11_receive 35 = .ok (.aload_n 2, 1) := by decide +kernel
theorem dX11_receive_36 : decode cX11_receive 36 = .ok (.invokevirtual 251, 3) := by decide +kernel
theorem dX11_receive_39 : decode cX11_receive 39 = .ok (.invokevirtual 255, 3) := by decide +kernel
theorem dX11_receive_42 : decode cX11_receive 42 = .ok (.aload_n 0, 1) := by decide +kernel
theorem dX11_receive_43 : decode cX11_receive 43 = .ok (.iconst 1, 1) := by decide +kernel
theorem dX11_receive_44 : decode cX11_receive 44 = .ok (.putfield 259, 3) := by decide +kernel
theorem dX11_receive_47 : decode cX11_receive 47 = .ok (.aload_n 2, 1) := by decide +kernel
theorem dX11_receive_48 : decode cX11_receive 48 = .ok (.invokevirtual 262, 3) := by decide +kernel
theorem dX11_receive_51 : decode cX11_receive 51 = .ok (.aload_n 0, 1) := by decide +kernel
theorem dX11_receive_52 : decode cX11_receive 52 = .ok (.getfield 27, 3) := by decide +kernel
theorem dX11_receive_55 : decode cX11_receive 55 = .ok (.getfield 265, 3) := by decide +kernel
theorem dX11_receive_58 : decode cX11_receive 58 = .ok (.ireturn, 1) := by decide +kernel
theorem dX11_length_0 : decode cX11_length 0 = .ok (.iload_n 1, 1) := by decide +kernel
theorem dX11_length_1 : decode cX11_length 1 = .ok (.invokestatic 73, 3) := by decide +kernel
theorem dX11_length_4 : decode cX11_length 4 = .ok (.aload_n 0, 1) := by decide +kernel
theorem dX11_length_5 : decode cX11_length 5 = .ok (.getfield 41, 3) := by decide +kernel
theorem dX11_length_8 : decode cX11_length 8 = .ok (.getfield 77, 3) := by decide +kernel
theorem dX11_length_11 : decode cX11_length 11 = .ok (.iload_n 1, 1) := by decide +kernel
theorem dX11_length_12 : decode cX11_length 12 = .ok (.aaload, 1) := by decide +kernel
theorem dX11_length_13 : decode cX11_length 13 = .ok (.astore_n 3, 1) := by decide +kernel
theorem dX11_length_14 : decode cX11_length 14 = .ok (.iload_n 2, 1) := by decide +kernel
theorem dX11_length_15 : decode cX11_length 15 = .ok (.tableswitch 79 0 4 #[33, 41, 52, 63, 71], 33) := by decide +kernel
theorem dX11_length_48 : decode cX11_length 48 = .ok (.aload_n 3, 1) := by decide +kernel
theorem dX11_length_49 : decode cX11_length 49 = .ok (.getfield 242, 3) := by decide +kernel
theorem dX11_length_52 : decode cX11_length 52 = .ok (.getfield 246, 3) := by decide +kernel
theorem dX11_length_55 : decode cX11_length 55 = .ok (.ireturn, 1) := by decide +kernel
theorem dX11_length_56 : decode cX11_length 56 = .ok (.aload_n 3, 1) := by decide +kernel
theorem dX11_length_57 : decode cX11_length 57 = .ok (.getfield 94, 3) := by decide +kernel
theorem dX11_length_60 : decode cX11_length 60 = .ok (.getfield 287, 3) := by decide +kernel
theorem dX11_length_63 : decode cX11_length 63 = .ok (.getfield 291, 3) := by decide +kernel
theorem dX11_length_66 : decode cX11_length 66 = .ok (.ireturn, 1) := by decide +kernel
theorem dX11_length_67 : decode cX11_length 67 = .ok (.aload_n 3, 1) := by decide +kernel
theorem dX11_length_68 : decode cX11_length 68 = .ok (.getfield 94, 3) := by decide +kernel
theorem dX11_length_71 : decode cX11_length 71 = .ok (.getfield 294, 3) := by decide +kernel
theorem dX11_length_74 : decode cX11_length 74 = .ok (.getfield 291, 3) := by decide +kernel
