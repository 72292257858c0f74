theorem dX11_length_77 : decode cX11_length 77 = .ok (.ireturn, 1) := by decide +kernel
theorem dX11_length_78 : decode cX11_length 78 = .ok (.aload_n 3, 1) := by decide +kernel
theorem dX11_length_79 : decode cX11_length 79 = .ok (.getfield 94, 3) := by decide +kernel
theorem dX11_length_82 : decode cX11_length 82 = .ok (.getfield 297, 3) := by decide +kernel
theorem dX11_length_85 : decode cX11_length 85 = .ok (.ireturn, 1) := by decide +kernel
theorem dX11_length_86 : decode cX11_length 86 = .ok (.aload_n 3, 1) := by decide +kernel
theorem dX11_length_87 : decode cX11_length 87 = .ok (.getfield 94, 3) := by decide +kernel
theorem dX11_length_90 : decode cX11_length 90 = .ok (.getfield 155, 3) := by decide +kernel
theorem dX11_length_93 : decode cX11_length 93 = .ok (.ireturn, 1) := by decide +kernel
theorem dX11_length_94 : decode cX11_length 94 = .ok (.new 48, 3) := by decide +kernel
theorem dX11_length_97 : decode cX11_length 97 = .ok (.dup, 1) := by decide +kernel
theorem dX11_length_98 : decode cX11_length 98 = .ok (.invokespecial 50, 3) := by decide +kernel
theorem dX11_length_101 : decode cX11_length 101 = .ok (.athrow, 1) := by decide +kernel
theorem dX11_inFlight_0 : decode cX11_inFlight 0 = .ok (.iload_n 1, 1) := by decide +kernel
theorem dX11_inFlight_1 : decode cX11_inFlight 1 = .ok (.invokestatic 73, 3) := by decide +kernel
theorem dX11_inFlight_4 : decode cX11_inFlight 4 = .ok (.aload_n 0, 1) := by decide +kernel
theorem dX11_inFlight_5 : decode cX11_inFlight 5 = .ok (.getfield 41, 3) := by decide +kernel
theorem dX11_inFlight_8 : decode cX11_inFlight 8 = .ok (.getfield 77, 3) := by decide +kernel
theorem dX11_inFlight_11 : decode cX11_inFlight 11 = .ok (.iload_n 1, 1) := by decide +kernel
theorem dX11_inFlight_12 : decode cX11_inFlight 12 = .ok (.aaload, 1) := by decide +kernel
theorem dX11_inFlight_13 : decode cX11_inFlight 13 = .ok (.getfield 94, 3) := by decide +kernel
theorem dX11_inFlight_16 : decode cX11_inFlight 16 = .ok (.getfield 287, 3) := by decide +kernel
theorem dX11_inFlight_19 : decode cX11_inFlight 19 = .ok (.astore 4, 2) := by decide +kernel
theorem dX11_inFlight_21 : decode cX11_inFlight 21 = .ok (.iload_n 2, 1) := by decide +kernel
theorem dX11_inFlight_22 : decode cX11_inFlight 22 = .ok (.ifCond .lt 22, 3) := by decide +kernel
theorem dX11_inFlight_25 : decode cX11_inFlight 25 = .ok (.iload_n 2, 1) := by decide +kernel
theorem dX11_inFlight_26 : decode cX11_inFlight 26 = .ok (.aload 4, 2) := by decide +kernel
theorem dX11_inFlight_28 : decode cX11_inFlight 28 = .ok (.getfield 291, 3) := by decide +kernel
theorem dX11_inFlight_31 : decode cX11_inFlight 31 = .ok (.if_icmp .ge 13, 3) := by decide +kernel
theorem dX11_inFlight_34 : decode cX11_inFlight 34 = .ok (.iload_n 2, 1) := by decide +kernel
theorem dX11_inFlight_35 : decode cX11_inFlight 35 = .ok (.aload 4, 2) := by decide +kernel
theorem dX11_inFlight_37 : decode cX11_inFlight 37 = .ok (.getfield 300, 3) := by decide +kernel
theorem dX11_inFlight_40 : decode cX11_inFlight 40 = .ok (.arraylength, 1) := by decide +kernel
theorem dX11_inFlight_41 : decode cX11_inFlight 41 = .ok (.if_icmp .lt 11, 3) := by decide +kernel
theorem dX11_inFlight_44 : decode cX11_inFlight 44 = .ok (.new 61, 3) := by decide +kernel
theorem dX11_inFlight_47 : decode cX11_inFlight 47 = .ok (.dup, 1) := by decide +kernel
theorem dX11_inFlight_48 : decode cX11_inFlight 48 = .ok (.invokespecial 63, 3) := by decide +kernel
theorem dX11_inFlight_51 : decode cX11_inFlight 51 = .ok (.athrow, 1) := by decide +kernel
theorem dX11_inFlight_52 : decode cX11_inFlight 52 = .ok (.aload 4, 2) := by decide +kernel
theorem dX11_inFlight_54 : decode cX11_inFlight 54 = .ok (.getfield 300, 3) := by decide +kernel
theorem dX11_inFlight_57 : decode cX11_inFlight 57 = .ok (.iload_n 2, 1) := by decide +kernel
theorem dX11_inFlight_58 : decode cX11_inFlight 58 = .ok (.aaload, 1) := by decide +kernel
theorem dX11_inFlight_59 : decode cX11_inFlight 59 = .ok (.astore 5, 2) := by decide +kernel
theorem dX11_inFlight_61 : decode cX11_inFlight 61 = .ok (.iload_n 3, 1) := by decide +kernel
theorem dX11_inFlight_62 : decode cX11_inFlight 62 = .ok (.tableswitch 64 0 4 #[34, 40, 46, 52, 58], 34) := by decide +kernel
theorem dX11_inFlight_96 : decode cX11_inFlight 96 = .ok (.aload 5, 2) := by decide +kernel
theorem dX11_inFlight_98 : decode cX11_inFlight 98 = .ok (.getfield 304, 3) := by decide +kernel
theorem dX11_inFlight_101 : decode cX11_inFlight 101 = .ok (.ireturn, 1) := by decide +kernel
theorem dX11_inFlight_102 : decode cX11_inFlight 102 = .ok (.aload 5, 2) := by decide +kernel
theorem dX11_inFlight_104 : decode cX11_inFlight 104 = .ok (.getfield 305, 3) := by decide +kernel
theorem dX11_inFlight_107 : decode cX11_inFlight 107 = .ok (.ireturn, 1) := by decide +kernel
theorem dX11_inFlight_108 : decode cX11_inFlight 108 = .ok (.aload 5, 2) := by decide +kernel
theorem dX11_inFlight_110 : decode cX11_inFlight 110 = .ok (.getfield 306, 3) := by decide +kernel
theorem dX11_inFlight_113 : decode cX11_inFlight 113 = .ok (.ireturn, 1) := by decide +kernel
theorem dX11_inFlight_114 : decode cX11_inFlight 114 = .ok (.aload 5, 2) := by decide +kernel
theorem dX11_inFlight_116 : decode cX11_inFlight 116 = .ok (.getfield 307, 3) := by decide +kernel
theorem dX11_inFlight_119 : decode cX11_inFlight 119 = .ok (.ireturn, 1) := by decide +kernel
theorem dX11_inFlight_120 : decode cX11_inFlight 120 = .ok (.aload 5, 2) := by decide +kernel
theorem dX11_inFlight_122 : decode cX11_inFlight 122 = .ok (.getfield 310, 3) := by decide +kernel
theorem dX11_inFlight_125 : decode cX11_inFlight 125 = .ok (.ireturn, 1) := by decide +kernel
theorem dX11_inFlight_126 : decode cX11_inFlight 126 = .ok (.new 48, 3) := by decide +kernel
theorem dX11_inFlight_129 : decode cX11_inFlight 129 = .ok (.dup, 1) := by decide +kernel
theorem dX11_inFlight_130 : decode cX11_inFlight 130 = .ok (.invokespecial 50, 3) := by decide +kernel
theorem dX11_inFlight_133 : decode cX11_inFlight 133 = .ok (.athrow, 1) := by decide +kernel
theorem dX11_advance_0 : decode cX11_advance 0 = .ok (.iload_n 1, 1) := by decide +kernel
theorem dX11_advance_1 : decode cX11_advance 1 = .ok (.iconst 1, 1) := by decide +kernel
theorem dX11_advance_2 : decode cX11_advance 2 = .ok (.bipush 100, 2) := by decide +kernel
theorem dX11_advance_4 : decode cX11_advance 4 = .ok (.invokestatic 131, 3) := by decide +kernel
theorem dX11_advance_7 : decode cX11_advance 7 = .ok (.iconst 0, 1) := by decide +kernel
theorem dX11_advance_8 : decode cX11_advance 8 = .ok (.istore_n 2, 1) := by decide +kernel
theorem dX11_advance_9 : decode cX11_advance 9 = .ok (.iload_n 2, 1) := by decide +kernel
theorem dX11_advance_10 : decode cX11_advance 10 = .ok (.iload_n 1, 1) := by decide +kernel
theorem dX11_advance_11 : decode cX11_advance 11 = .ok (.if_icmp .ge 16, 3) := by decide +kernel
theorem dX11_advance_14 : decode cX11_advance 14 = .ok (.aload_n 0, 1) := by decide +kernel
theorem dX11_advance_15 : decode cX11_advance 15 = .ok (.getfield 41, 3) := by decide +kernel
theorem dX11_advance_18 : decode cX11_advance 18 = .ok (.invokevirtual 313, 3) := by decide +kernel
theorem dX11_advance_21 : decode cX11_advance 21 = .ok (.iinc 2 1, 3) := by decide +kernel
theorem dX11_advance_24 : decode cX11_advance 24 = .ok (.goto (-15), 3) := by decide +kernel
theorem dX11_advance_27 : decode cX11_advance 27 = .ok (.aload_n 0, 1) := by decide +kernel
theorem dX11_advance_28 : decode cX11_advance 28 = .ok (.getfield 41, 3) := by decide +kernel
theorem dX11_advance_31 : decode cX11_advance 31 = .ok (.getfield 316, 3) := by decide +kernel
theorem dX11_advance_34 : decode cX11_advance 34 = .ok (.ireturn, 1) := by decide +kernel
theorem dX11_load_0 : decode cX11_load 0 = .ok (.iload_n 1, 1) := by decide +kernel
theorem dX11_load_1 : decode cX11_load 1 = .ok (.invokestatic 73, 3) := by decide +kernel
theorem dX11_load_4 : decode cX11_load 4 = .ok (.aload_n 0, 1) := by decide +kernel
theorem dX11_load_5 : decode cX11_load 5 = .ok (.getfield 41, 3) := by decide +kernel
theorem dX11_load_8 : decode cX11_load 8 = .ok (.getfield 77, 3) := by decide +kernel
theorem dX11_load_11 : decode cX11_load 11 = .ok (.iload_n 1, 1) := by decide +kernel
theorem dX11_load_12 : decode cX11_load 12 = .ok (.aaload, 1) := by decide +kernel
theorem dX11_load_13 : decode cX11_load 13 = .ok (.getfield 319, 3) := by decide +kernel
theorem dX11_load_16 : decode cX11_load 16 = .ok (.ldc_w 323, 3) := by decide +kernel
theorem dX11_load_19 : decode cX11_load 19 = .ok (.fmul, 1) := by decide +kernel
theorem dX11_load_20 : decode cX11_load 20 = .ok (.f2i, 1) := by decide +kernel
theorem dX11_load_21 : decode cX11_load 21 = .ok (.ireturn, 1) := by decide +kernel
theorem dX11_retainedCount_0 : decode cX11_retainedCount 0 = .ok (.aload_n 0, 1) := by decide +kernel
theorem dX11_retainedCount_1 : decode cX11_retainedCount 1 = .ok (.getfield 41, 3) := by decide +kernel
theorem dX11_retainedCount_4 : decode cX11_retainedCount 4 = .ok (.getfield 324, 3) := by decide +kernel
theorem dX11_retainedCount_7 : decode cX11_retainedCount 7 = .ok (.ireturn, 1) := by decide +kernel
theorem dX11_retained_0 : decode cX11_retained 0 = .ok (.iload_n 1, 1) := by decide +kernel
theorem dX11_retained_1 : decode cX11_retained 1 = .ok (.ifCond .lt 26, 3) := by decide +kernel
theorem dX11_retained_4 : decode cX11_retained 4 = .ok (.iload_n 1, 1) := by decide +kernel
theorem dX11_retained_5 : decode cX11_retained 5 = .ok (.aload_n 0, 1) := by decide +kernel
theorem dX11_retained_6 : decode cX11_retained 6 = .ok (.getfield 41, 3) := by decide +kernel
theorem dX11_retained_9 : decode cX11_retained 9 = .ok (.getfield 324, 3) := by decide +kernel
theorem dX11_retained_12 : decode cX11_retained 12 = .ok (.if_icmp .ge 15, 3) := by decide +kernel
theorem dX11_retained_15 : decode cX11_retained 15 = .ok (.iload_n 1, 1) := by decide +kernel
theorem dX11_retained_16 : decode cX11_retained 16 = .ok (.aload_n 0, 1) := by decide +kernel
theorem dX11_retained_17 : decode cX11_retained 17 = .ok (.getfield 41, 3) := by decide +kernel
theorem dX11_retained_20 : decode cX11_retained 20 = .ok (.getfield 327, 3) := by decide +kernel
theorem dX11_retained_23 : decode cX11_retained 23 = .ok (.arraylength, 1) := by decide +kernel
theorem dX11_retained_24 : decode cX11_retained 24 = .ok (.if_icmp .lt 11, 3) := by decide +kernel
theorem dX11_retained_27 : decode cX11_retained 27 = .ok (.new 61, 3) := by decide +kernel
theorem dX11_retained_30 : decode cX11_retained 30 = .ok (.dup, 1) := by decide +kernel
theorem dX11_retained_31 : decode cX11_retained 31 = .ok (.invokespecial 63, 3) := by decide +kernel
theorem dX11_retained_34 : decode cX11_retained 34 = .ok (.athrow, 1) := by decide +kernel
theorem dX11_retained_35 : decode cX11_retained 35 = .ok (.aload_n 0, 1) := by decide +kernel
theorem dX11_retained_36 : decode cX11_retained 36 = .ok (.getfield 41, 3) := by decide +kernel
theorem dX11_retained_39 : decode cX11_retained 39 = .ok (.getfield 327, 3) := by decide +kernel
theorem dX11_retained_42 : decode cX11_retained 42 = .ok (.iload_n 1, 1) := by decide +kernel
theorem dX11_retained_43 : decode cX11_retained 43 = .ok (.aaload, 1) := by decide +kernel
theorem dX11_retained_44 : decode cX11_retained 44 = .ok (.astore_n 3, 1) := by decide +kernel
theorem dX11_retained_45 : decode cX11_retained 45 = .ok (.iload_n 2, 1) := by decide +kernel
theorem dX11_retained_46 : decode cX11_retained 46 = .ok (.tableswitch 45 0 2 #[26, 31, 36], 26) := by decide +kernel
theorem dX11_retained_72 : decode cX11_retained 72 = .ok (.aload_n 3, 1) := by decide +kernel
theorem dX11_retained_73 : decode cX11_retained 73 = .ok (.getfield 305, 3) := by decide +kernel
theorem dX11_retained_76 : decode cX11_retained 76 = .ok (.ireturn, 1) := by decide +kernel
theorem dX11_retained_77 : decode cX11_retained 77 = .ok (.aload_n 3, 1) := by decide +kernel
theorem dX11_retained_78 : decode cX11_retained 78 = .ok (.getfield 306, 3) := by decide +kernel
theorem dX11_retained_81 : decode cX11_retained 81 = .ok (.ireturn, 1) := by decide +kernel
theorem dX11_retained_82 : decode cX11_retained 82 = .ok (.aload_n 3, 1) := by decide +kernel
theorem dX11_retained_83 : decode cX11_retained 83 = .ok (.getfield 330, 3) := by decide +kernel
theorem dX11_retained_86 : decode cX11_retained 86 = .ok (.getfield 281, 3) := by decide +kernel
theorem dX11_retained_89 : decode cX11_retained 89 = .ok (.arraylength, 1) := by decide +kernel
theorem dX11_retained_90 : decode cX11_retained 90 = .ok (.ireturn, 1) := by decide +kernel
theorem dX11_retained_91 : decode cX11_retained 91 = .ok (.new 48, 3) := by decide +kernel
theorem dX11_retained_94 : decode cX11_retained 94 = .ok (.dup, 1) := by decide +kernel
theorem dX11_retained_95 : decode cX11_retained 95 = .ok (.invokespecial 50, 3) := by decide +kernel
theorem dX11_retained_98 : decode cX11_retained 98 = .ok (.athrow, 1) := by decide +kernel
theorem dX11_total_0 : decode cX11_total 0 = .ok (.iload_n 1, 1) := by decide +kernel
theorem dX11_total_1 : decode cX11_total 1 = .ok (.iconst 0, 1) := by decide +kernel
theorem dX11_total_2 : decode cX11_total 2 = .ok (.bipush 9, 2) := by decide +kernel
theorem dX11_total_4 : decode cX11_total 4 = .ok (.invokestatic 131, 3) := by decide +kernel
theorem dX11_total_7 : decode cX11_total 7 = .ok (.aload_n 0, 1) := by decide +kernel
theorem dX11_total_8 : decode cX11_total 8 = .ok (.getfield 41, 3) := by decide +kernel
theorem dX11_total_11 : decode cX11_total 11 = .ok (.getfield 87, 3) := by decide +kernel
theorem dX11_total_14 : decode cX11_total 14 = .ok (.iload_n 1, 1) := by decide +kernel
theorem dX11_total_15 : decode cX11_total 15 = .ok (.iaload, 1) := by decide +kernel
theorem dX11_total_16 : decode cX11_total 16 = .ok (.ireturn, 1) := by decide +kernel
theorem dX11_save_0 : decode cX11_save 0 = .ok (.aload_n 0, 1) := by decide +kernel
theorem dX11_save_1 : decode cX11_save 1 = .ok (.getfield 45, 3) := by decide +kernel
theorem dX11_save_4 : decode cX11_save 4 = .ok (.aload_n 0, 1) := by decide +kernel
theorem dX11_save_5 : decode cX11_save 5 = .ok (.getfield 41, 3) := by decide +kernel
theorem dX11_save_8 : decode cX11_save 8 = .ok (.invokevirtual 343, 3) := by decide +kernel
theorem dX11_save_11 : decode cX11_save 11 = .ok (.aload_n 0, 1) := by decide +kernel
theorem dX11_save_12 : decode cX11_save 12 = .ok (.iconst 1, 1) := by decide +kernel
theorem dX11_save_13 : decode cX11_save 13 = .ok (.putfield 346, 3) := by decide +kernel
theorem dX11_save_16 : decode cX11_save 16 = .ok (.aload_n 0, 1) := by decide +kernel
theorem dX11_save_17 : decode cX11_save 17 = .ok (.getfield 41, 3) := by decide +kernel
theorem dX11_save_20 : decode cX11_save 20 = .ok (.getfield 316, 3) := by decide +kernel
theorem dX11_save_23 : decode cX11_save 23 = .ok (.ireturn, 1) := by decide +kernel
theorem dX11_restore_0 : decode cX11_restore 0 = .ok (.aload_n 0, 1) := by decide +kernel
theorem dX11_restore_1 : decode cX11_restore 1 = .ok (.getfield 346, 3) := by decide +kernel
theorem dX11_restore_4 : decode cX11_restore 4 = .ok (.ifCond .ne 11, 3) := by decide +kernel
theorem dX11_restore_7 : decode cX11_restore 7 = .ok (.new 54, 3) := by decide +kernel
theorem dX11_restore_10 : decode cX11_restore 10 = .ok (.dup, 1) := by decide +kernel
theorem dX11_restore_11 : decode cX11_restore 11 = .ok (.invokespecial 56, 3) := by decide +kernel
theorem dX11_restore_14 : decode cX11_restore 14 = .ok (.athrow, 1) := by decide +kernel
theorem dX11_restore_15 : decode cX11_restore 15 = .ok (.aload_n 0, 1) := by decide +kernel
theorem dX11_restore_16 : decode cX11_restore 16 = .ok (.getfield 41, 3) := by decide +kernel
theorem dX11_restore_19 : decode cX11_restore 19 = .ok (.aload_n 0, 1) := by decide +kernel
theorem dX11_restore_20 : decode cX11_restore 20 = .ok (.getfield 45, 3) := by decide +kernel
theorem dX11_restore_23 : decode cX11_restore 23 = .ok (.invokevirtual 343, 3) := by decide +kernel
theorem dX11_restore_26 : decode cX11_restore 26 = .ok (.aload_n 0, 1) := by decide +kernel
theorem dX11_restore_27 : decode cX11_restore 27 = .ok (.getfield 41, 3) := by decide +kernel
theorem dX11_restore_30 : decode cX11_restore 30 = .ok (.getfield 316, 3) := by decide +kernel
theorem dX11_restore_33 : decode cX11_restore 33 = .ok (.ireturn, 1) := by decide +kernel
theorem dX11_requireClient_0 : decode cX11_requireClient 0 = .ok (.iload_n 0, 1) := by decide +kernel
theorem dX11_requireClient_1 : decode cX11_requireClient 1 = .ok (.ifCond .lt 9, 3) := by decide +kernel
theorem dX11_requireClient_4 : decode cX11_requireClient 4 = .ok (.iload_n 0, 1) := by decide +kernel
theorem dX11_requireClient_5 : decode cX11_requireClient 5 = .ok (.bipush 6, 2) := by decide +kernel
theorem dX11_requireClient_7 : decode cX11_requireClient 7 = .ok (.if_icmp .lt 11, 3) := by decide +kernel
theorem dX11_requireClient_10 : decode cX11_requireClient 10 = .ok (.new 61, 3) := by decide +kernel
theorem dX11_requireClient_13 : decode cX11_requireClient 13 = .ok (.dup, 1) := by decide +kernel
theorem dX11_requireClient_14 : decode cX11_requireClient 14 = .ok (.invokespecial 63, 3) := by decide +kernel
theorem dX11_requireClient_17 : decode cX11_requireClient 17 = .ok (.athrow, 1) := by decide +kernel
theorem dX11_requireClient_18 : decode cX11_requireClient 18 = .ok (.return_, 1) := by decide +kernel
theorem dX11_requireRange_0 : decode cX11_requireRange 0 = .ok (.iload_n 0, 1) := by decide +kernel
theorem dX11_requireRange_1 : decode cX11_requireRange 1 = .ok (.iload_n 1, 1) := by decide +kernel
theorem dX11_requireRange_2 : decode cX11_requireRange 2 = .ok (.if_icmp .lt 8, 3) := by decide +kernel
theorem dX11_requireRange_5 : decode cX11_requireRange 5 = .ok (.iload_n 0, 1) := by decide +kernel
theorem dX11_requireRange_6 : decode cX11_requireRange 6 = .ok (.iload_n 2, 1) := by decide +kernel
theorem dX11_requireRange_7 : decode cX11_requireRange 7 = .ok (.if_icmp .le 11, 3) := by decide +kernel
theorem dX11_requireRange_10 : decode cX11_requireRange 10 = .ok (.new 48, 3) := by decide +kernel
theorem dX11_requireRange_13 : decode cX11_requireRange 13 = .ok (.dup, 1) := by decide +kernel
theorem dX11_requireRange_14 : decode cX11_requireRange 14 = .ok (.invokespecial 50, 3) := by decide +kernel
theorem dX11_requireRange_17 : decode cX11_requireRange 17 = .ok (.athrow, 1) := by decide +kernel
theorem dX11_requireRange_18 : decode cX11_requireRange 18 = .ok (.return_, 1) := by decide +kernel
theorem dX11_requireConnection_0 : decode cX11_requireConnection 0 = .ok (.aload_n 0, 1) := by decide +kernel
theorem dX11_requireConnection_1 : decode cX11_requireConnection 1 = .ok (.getfield 41, 3) := by decide +kernel
theorem dX11_requireConnection_4 : decode cX11_requireConnection 4 = .ok (.getfield 77, 3) := by decide +kernel
theorem dX11_requireConnection_7 : decode cX11_requireConnection 7 = .ok (.iload_n 1, 1) := by decide +kernel
theorem dX11_requireConnection_8 : decode cX11_requireConnection 8 = .ok (.aaload, 1) := by decide +kernel
theorem dX11_requireConnection_9 : decode cX11_requireConnection 9 = .ok (.getfield 81, 3) := by decide +kernel
theorem dX11_requireConnection_12 : decode cX11_requireConnection 12 = .ok (.ifCond .ne 11, 3) := by decide +kernel
theorem dX11_requireConnection_15 : decode cX11_requireConnection 15 = .ok (.new 54, 3) := by decide +kernel
theorem dX11_requireConnection_18 : decode cX11_requireConnection 18 = .ok (.dup, 1) := by decide +kernel
theorem dX11_requireConnection_19 : decode cX11_requireConnection 19 = .ok (.invokespecial 56, 3) := by decide +kernel
theorem dX11_requireConnection_22 : decode cX11_requireConnection 22 = .ok (.athrow, 1) := by decide +kernel
theorem dX11_requireConnection_23 : decode cX11_requireConnection 23 = .ok (.return_, 1) := by decide +kernel
theorem dX11_requireSubscription_0 : decode cX11_requireSubscription 0 = .ok (.aload_n 0, 1) := by decide +kernel
theorem dX11_requireSubscription_1 : decode cX11_requireSubscription 1 = .ok (.getfield 41, 3) := by decide +kernel
theorem dX11_requireSubscription_4 : decode cX11_requireSubscription 4 = .ok (.getfield 77, 3) := by decide +kernel
theorem dX11_requireSubscription_7 : decode cX11_requireSubscription 7 = .ok (.iload_n 1, 1) := by decide +kernel
theorem dX11_requireSubscription_8 : decode cX11_requireSubscription 8 = .ok (.aaload, 1) := by decide +kernel
theorem dX11_requireSubscription_9 : decode cX11_requireSubscription 9 = .ok (.getfield 94, 3) := by decide +kernel
theorem dX11_requireSubscription_12 : decode cX11_requireSubscription 12 = .ok (.astore_n 3, 1) := by decide +kernel
theorem dX11_requireSubscription_13 : decode cX11_requireSubscription 13 = .ok (.iload_n 2, 1) := by decide +kernel
theorem dX11_requireSubscription_14 : decode cX11_requireSubscription 14 = .ok (.ifCond .lt 20, 3) := by decide +kernel
theorem dX11_requireSubscription_17 : decode cX11_requireSubscription 17 = .ok (.iload_n 2, 1) := by decide +kernel
theorem dX11_requireSubscription_18 : decode cX11_requireSubscription 18 = .ok (.aload_n 3, 1) := by decide +kernel
theorem dX11_requireSubscription_19 : decode cX11_requireSubscription 19 = .ok (.getfield 155, 3) := by decide +kernel
theorem dX11_requireSubscription_22 : decode cX11_requireSubscription 22 = .ok (.if_icmp .ge 12, 3) := by decide +kernel
theorem dX11_requireSubscription_25 : decode cX11_requireSubscription 25 = .ok (.iload_n 2, 1) := by decide +kernel
theorem dX11_requireSubscription_26 : decode cX11_requireSubscription 26 = .ok (.aload_n 3, 1) := by decide +kernel
theorem dX11_requireSubscription_27 : decode cX11_requireSubscription 27 = .ok (.getfield 162, 3) := by decide +kernel
theorem dX11_requireSubscription_30 : decode cX11_requireSubscription 30 = .ok (.arraylength, 1) := by decide +kernel
theorem dX11_requireSubscription_31 : decode cX11_requireSubscription 31 = .ok (.if_icmp .lt 11, 3) := by decide +kernel
theorem dX11_requireSubscription_34 : decode cX11_requireSubscription 34 = .ok (.new 61, 3) := by decide +kernel
theorem dX11_requireSubscription_37 : decode cX11_requireSubscription 37 = .ok (.dup, 1) := by decide +kernel
theorem dX11_requireSubscription_38 : decode cX11_requireSubscription 38 = .ok (.invokespecial 63, 3) := by decide +kernel
theorem dX11_requireSubscription_41 : decode cX11_requireSubscription 41 = .ok (.athrow, 1) := by decide +kernel
theorem dX11_requireSubscription_42 : decode cX11_requireSubscription 42 = .ok (.return_, 1) := by decide +kernel
theorem dX11_takeBuffer_0 : decode cX11_takeBuffer 0 = .ok (.aload_n 0, 1) := by decide +kernel
theorem dX11_takeBuffer_1 : decode cX11_takeBuffer 1 = .ok (.getfield 51, 3) := by decide +kernel
theorem dX11_takeBuffer_4 : decode cX11_takeBuffer 4 = .ok (.istore_n 1, 1) := by decide +kernel
theorem dX11_takeBuffer_5 : decode cX11_takeBuffer 5 = .ok (.aload_n 0, 1) := by decide +kernel
theorem dX11_takeBuffer_6 : decode cX11_takeBuffer 6 = .ok (.iconst 0, 1) := by decide +kernel
theorem dX11_takeBuffer_7 : decode cX11_takeBuffer 7 = .ok (.putfield 51, 3) := by decide +kernel
theorem dX11_takeBuffer_10 : decode cX11_takeBuffer 10 = .ok (.iload_n 1, 1) := by decide +kernel
theorem dX11_takeBuffer_11 : decode cX11_takeBuffer 11 = .ok (.ireturn, 1) := by decide +kernel
theorem dX11_readTopic_0 : decode cX11_readTopic 0 = .ok (.aload_n 0, 1) := by decide +kernel
theorem dX11_readTopic_1 : decode cX11_readTopic 1 = .ok (.iload_n 1, 1) := by decide +kernel
theorem dX11_readTopic_2 : decode cX11_readTopic 2 = .ok (.iconst 0, 1) := by decide +kernel
theorem dX11_readTopic_3 : decode cX11_readTopic 3 = .ok (.invokevirtual 349, 3) := by decide +kernel
theorem dX11_readTopic_6 : decode cX11_readTopic 6 = .ok (.areturn, 1) := by decide +kernel
theorem dX11_readFilter_0 : decode cX11_readFilter 0 = .ok (.aload_n 0, 1) := by decide +kernel
theorem dX11_readFilter_1 : decode cX11_readFilter 1 = .ok (.iload_n 1, 1) := by decide +kernel
theorem dX11_readFilter_2 : decode cX11_readFilter 2 = .ok (.iconst 1, 1) := by decide +kernel
theorem dX11_readFilter_3 : decode cX11_readFilter 3 = .ok (.invokevirtual 349, 3) := by decide +kernel
theorem dX11_readFilter_6 : decode cX11_readFilter 6 = .ok (.areturn, 1) := by decide +kernel
theorem dX11_readText_0 : decode cX11_readText 0 = .ok (.aload_n 0, 1) := by decide +kernel
theorem dX11_readText_1 : decode cX11_readText 1 = .ok (.aload_n 0, 1) := by decide +kernel
theorem dX11_readText_2 : decode cX11_readText 2 = .ok (.getfield 14, 3) := by decide +kernel
theorem dX11_readText_5 : decode cX11_readText 5 = .ok (.iload_n 1, 1) := by decide +kernel
theorem dX11_readText_6 : decode cX11_readText 6 = .ok (.iload_n 2, 1) := by decide +kernel
theorem dX11_readText_7 : decode cX11_readText 7 = .ok (.invokestatic 353, 3) := by decide +kernel
theorem dX11_readText_10 : decode cX11_readText 10 = .ok (.putfield 18, 3) := by decide +kernel
theorem dX11_readText_13 : decode cX11_readText 13 = .ok (.aload_n 0, 1) := by decide +kernel
theorem dX11_readText_14 : decode cX11_readText 14 = .ok (.getfield 18, 3) := by decide +kernel
theorem dX11_readText_17 : decode cX11_readText 17 = .ok (.ifCond .lt 11, 3) := by decide +kernel
theorem dX11_readText_20 : decode cX11_readText 20 = .ok (.new 48, 3) := by decide +kernel
theorem dX11_readText_23 : decode cX11_readText 23 = .ok (.dup, 1) := by decide +kernel
theorem dX11_readText_24 : decode cX11_readText 24 = .ok (.invokespecial 50, 3) := by decide +kernel
theorem dX11_readText_27 : decode cX11_readText 27 = .ok (.athrow, 1) := by decide +kernel
theorem dX11_readText_28 : decode cX11_readText 28 = .ok (.new 7, 3) := by decide +kernel
theorem dX11_readText_31 : decode cX11_readText 31 = .ok (.dup, 1) := by decide +kernel
theorem dX11_readText_32 : decode cX11_readText 32 = .ok (.aload_n 0, 1) := by decide +kernel
theorem dX11_readText_33 : decode cX11_readText 33 = .ok (.getfield 14, 3) := by decide +kernel
theorem dX11_readText_36 : decode cX11_readText 36 = .ok (.iload_n 1, 1) := by decide +kernel
theorem dX11_readText_37 : decode cX11_readText 37 = .ok (.invokespecial 9, 3) := by decide +kernel
theorem dX11_readText_40 : decode cX11_readText 40 = .ok (.areturn, 1) := by decide +kernel
theorem dL_cell_0 : decode cL_cell 0 = .ok (.iload_n 1, 1) := by decide +kernel
theorem dL_cell_1 : decode cL_cell 1 = .ok (.aload_n 0, 1) := by decide +kernel
theorem dL_cell_2 : decode cL_cell 2 = .ok (.arraylength, 1) := by decide +kernel
theorem dL_cell_3 : decode cL_cell 3 = .ok (.if_icmp .ge 9, 3) := by decide +kernel
theorem dL_cell_6 : decode cL_cell 6 = .ok (.aload_n 0, 1) := by decide +kernel
theorem dL_cell_7 : decode cL_cell 7 = .ok (.iload_n 1, 1) := by decide +kernel
theorem dL_cell_8 : decode cL_cell 8 = .ok (.iaload, 1) := by decide +kernel
theorem dL_cell_9 : decode cL_cell 9 = .ok (.goto 7, 3) := by decide +kernel
theorem dL_cell_12 : decode cL_cell 12 = .ok (.ldc 7, 2) := by decide +kernel
theorem dL_cell_14 : decode cL_cell 14 = .ok (.iload_n 1, 1) := by decide +kernel
theorem dL_cell_15 : decode cL_cell 15 = .ok (.imul, 1) := by decide +kernel
theorem dL_cell_16 : decode cL_cell 16 = .ok (.ireturn, 1) := by decide +kernel
theorem dL_pick_0 : decode cL_pick 0 = .ok (.aload_n 0, 1) := by decide +kernel
theorem dL_pick_1 : decode cL_pick 1 = .ok (.iload_n 1, 1) := by decide +kernel
theorem dL_pick_2 : decode cL_pick 2 = .ok (.invokestatic 8, 3) := by decide +kernel
theorem dL_pick_5 : decode cL_pick 5 = .ok (.iconst 1, 1) := by decide +kernel
theorem dL_pick_6 : decode cL_pick 6 = .ok (.iushr, 1) := by decide +kernel
theorem dL_pick_7 : decode cL_pick 7 = .ok (.iload_n 2, 1) := by decide +kernel
theorem dL_pick_8 : decode cL_pick 8 = .ok (.irem, 1) := by decide +kernel
theorem dL_pick_9 : decode cL_pick 9 = .ok (.ireturn, 1) := by decide +kernel
theorem dL_append_0 : decode cL_append 0 = .ok (.aload_n 0, 1) := by decide +kernel
theorem dL_append_1 : decode cL_append 1 = .ok (.iload_n 1, 1) := by decide +kernel
theorem dL_append_2 : decode cL_append 2 = .ok (.invokevirtual 14, 3) := by decide +kernel
theorem dL_append_5 : decode cL_append 5 = .ok (.ireturn, 1) := by decide +kernel
theorem dL_append_6 : decode cL_append 6 = .ok (.astore_n 2, 1) := by decide +kernel
theorem dL_append_7 : decode cL_append 7 = .ok (.iconst (-1), 1) := by decide +kernel
theorem dL_append_8 : decode cL_append 8 = .ok (.ireturn, 1) := by decide +kernel
theorem dL_append_9 : decode cL_append 9 = .ok (.astore_n 2, 1) := by decide +kernel
theorem dL_append_10 : decode cL_append 10 = .ok (.bipush (-2), 2) := by decide +kernel
theorem dL_append_12 : decode cL_append 12 = .ok (.ireturn, 1) := by decide +kernel
theorem dL_type_0 : decode cL_type 0 = .ok (.iconst 1, 1) := by decide +kernel
theorem dL_type_1 : decode cL_type 1 = .ok (.istore_n 2, 1) := by decide +kernel
theorem dL_type_2 : decode cL_type 2 = .ok (.iconst 0, 1) := by decide +kernel
theorem dL_type_3 : decode cL_type 3 = .ok (.istore_n 3, 1) := by decide +kernel
theorem dL_type_4 : decode cL_type 4 = .ok (.iload_n 3, 1) := by decide +kernel
theorem dL_type_5 : decode cL_type 5 = .ok (.aload_n 1, 1) := by decide +kernel
theorem dL_type_6 : decode cL_type 6 = .ok (.invokevirtual 24, 3) := by decide +kernel
theorem dL_type_9 : decode cL_type 9 = .ok (.if_icmp .ge 79, 3) := by decide +kernel
theorem dL_type_12 : decode cL_type 12 = .ok (.iconst 0, 1) := by decide +kernel
theorem dL_type_13 : decode cL_type 13 = .ok (.istore 4, 2) := by decide +kernel
theorem dL_type_15 : decode cL_type 15 = .ok (.iload_n 3, 1) := by decide +kernel
theorem dL_type_16 : decode cL_type 16 = .ok (.istore 5, 2) := by decide +kernel
theorem dL_type_18 : decode cL_type 18 = .ok (.iload 5, 2) := by decide +kernel
theorem dL_type_20 : decode cL_type 20 = .ok (.iload_n 3, 1) := by decide +kernel
theorem dL_type_21 : decode cL_type 21 = .ok (.iconst 4, 1) := by decide +kernel
theorem dL_type_22 : decode cL_type 22 = .ok (.iadd, 1) := by decide +kernel
theorem dL_type_23 : decode cL_type 23 = .ok (.if_icmp .ge 32, 3) := by decide +kernel
theorem dL_type_26 : decode cL_type 26 = .ok (.iload 5, 2) := by decide +kernel
theorem dL_type_28 : decode cL_type 28 = .ok (.aload_n 1, 1) := by decide +kernel
theorem dL_type_29 : decode cL_type 29 = .ok (.invokevirtual 24, 3) := by decide +kernel
theorem dL_type_32 : decode cL_type 32 = .ok (.if_icmp .ge 23, 3) := by decide +kernel
theorem dL_type_35 : decode cL_type 35 = .ok (.iload 4, 2) := by decide +kernel
theorem dL_type_37 : decode cL_type 37 = .ok (.bipush 8, 2) := by decide +kernel
theorem dL_type_39 : decode cL_type 39 = .ok (.ishl, 1) := by decide +kernel
theorem dL_type_40 : decode cL_type 40 = .ok (.aload_n 1, 1) := by decide +kernel
theorem dL_type_41 : decode cL_type 41 = .ok (.iload 5, 2) := by decide +kernel
theorem dL_type_43 : decode cL_type 43 = .ok (.invokevirtual 30, 3) := by decide +kernel
theorem dL_type_46 : decode cL_type 46 = .ok (.ior, 1) := by decide +kernel
theorem dL_type_47 : decode cL_type 47 = .ok (.istore 4, 2) := by decide +kernel
theorem dL_type_49 : decode cL_type 49 = .ok (.iinc 5 1, 3) := by decide +kernel
theorem dL_type_52 : decode cL_type 52 = .ok (.goto (-34), 3) := by decide +kernel
theorem dL_type_55 : decode cL_type 55 = .ok (.iload_n 2, 1) := by decide +kernel
theorem dL_type_56 : decode cL_type 56 = .ok (.aload_n 0, 1) := by decide +kernel
theorem dL_type_57 : decode cL_type 57 = .ok (.iload 4, 2) := by decide +kernel
theorem dL_type_59 : decode cL_type 59 = .ok (.invokestatic 34, 3) := by decide +kernel
theorem dL_type_62 : decode cL_type 62 = .ok (.iload_n 3, 1) := by decide +kernel
theorem dL_type_63 : decode cL_type 63 = .ok (.iconst 4, 1) := by decide +kernel
theorem dL_type_64 : decode cL_type 64 = .ok (.iadd, 1) := by decide +kernel
theorem dL_type_65 : decode cL_type 65 = .ok (.aload_n 1, 1) := by decide +kernel
theorem dL_type_66 : decode cL_type 66 = .ok (.invokevirtual 24, 3) := by decide +kernel
theorem dL_type_69 : decode cL_type 69 = .ok (.invokestatic 37, 3) := by decide +kernel
theorem dL_type_72 : decode cL_type 72 = .ok (.if_icmp .ne 7, 3) := by decide +kernel
theorem dL_type_75 : decode cL_type 75 = .ok (.iconst 1, 1) := by decide +kernel
theorem dL_type_76 : decode cL_type 76 = .ok (.goto 4, 3) := by decide +kernel
theorem dL_type_79 : decode cL_type 79 = .ok (.iconst 0, 1) := by decide +kernel
theorem dL_type_80 : decode cL_type 80 = .ok (.iand, 1) := by decide +kernel
theorem dL_type_81 : decode cL_type 81 = .ok (.istore_n 2, 1) := by decide +kernel
theorem dL_type_82 : decode cL_type 82 = .ok (.iinc 3 4, 3) := by decide +kernel
theorem dL_type_85 : decode cL_type 85 = .ok (.goto (-81), 3) := by decide +kernel
theorem dL_type_88 : decode cL_type 88 = .ok (.iload_n 2, 1) := by decide +kernel
theorem dL_type_89 : decode cL_type 89 = .ok (.ireturn, 1) := by decide +kernel
theorem dL_subscribe_0 : decode cL_subscribe 0 = .ok (.aload_n 0, 1) := by decide +kernel
theorem dL_subscribe_1 : decode cL_subscribe 1 = .ok (.iload_n 1, 1) := by decide +kernel
theorem dL_subscribe_2 : decode cL_subscribe 2 = .ok (.iload_n 2, 1) := by decide +kernel
theorem dL_subscribe_3 : decode cL_subscribe 3 = .ok (.iload_n 3, 1) := by decide +kernel
theorem dL_subscribe_4 : decode cL_subscribe 4 = .ok (.iload 4, 2) := by decide +kernel
theorem dL_subscribe_6 : decode cL_subscribe 6 = .ok (.invokevirtual 43, 3) := by decide +kernel
theorem dL_subscribe_9 : decode cL_subscribe 9 = .ok (.ireturn, 1) := by decide +kernel
theorem dL_subscribe_10 : decode cL_subscribe 10 = .ok (.astore 5, 2) := by decide +kernel
theorem dL_subscribe_12 : decode cL_subscribe 12 = .ok (.iconst (-1), 1) := by decide +kernel
theorem dL_subscribe_13 : decode cL_subscribe 13 = .ok (.ireturn, 1) := by decide +kernel
theorem dL_subscribe_14 : decode cL_subscribe 14 = .ok (.astore 5, 2) := by decide +kernel
theorem dL_subscribe_16 : decode cL_subscribe 16 = .ok (.bipush (-2), 2) := by decide +kernel
theorem dL_subscribe_18 : decode cL_subscribe 18 = .ok (.ireturn, 1) := by decide +kernel
theorem dL_subscribe_19 : decode cL_subscribe 19 = .ok (.astore 5, 2) := by decide +kernel
theorem dL_subscribe_21 : decode cL_subscribe 21 = .ok (.bipush (-3), 2) := by decide +kernel
theorem dL_subscribe_23 : decode cL_subscribe 23 = .ok (.ireturn, 1) := by decide +kernel
theorem dL_publish_0 : decode cL_publish 0 = .ok (.aload_n 0, 1) := by decide +kernel
theorem dL_publish_1 : decode cL_publish 1 = .ok (.iload_n 1, 1) := by decide +kernel
theorem dL_publish_2 : decode cL_publish 2 = .ok (.iload_n 2, 1) := by decide +kernel
theorem dL_publish_3 : decode cL_publish 3 = .ok (.iload_n 3, 1) := by decide +kernel
theorem dL_publish_4 : decode cL_publish 4 = .ok (.iload 4, 2) := by decide +kernel
theorem dL_publish_6 : decode cL_publish 6 = .ok (.iload 5, 2) := by decide +kernel
theorem dL_publish_8 : decode cL_publish 8 = .ok (.invokevirtual 49, 3) := by decide +kernel
theorem dL_publish_11 : decode cL_publish 11 = .ok (.ireturn, 1) := by decide +kernel
theorem dL_publish_12 : decode cL_publish 12 = .ok (.astore 6, 2) := by decide +kernel
theorem dL_publish_14 : decode cL_publish 14 = .ok (.iconst (-1), 1) := by decide +kernel
theorem dL_publish_15 : decode cL_publish 15 = .ok (.ireturn, 1) := by decide +kernel
theorem dL_publish_16 : decode cL_publish 16 = .ok (.astore 6, 2) := by decide +kernel
theorem dL_publish_18 : decode cL_publish 18 = .ok (.bipush (-2), 2) := by decide +kernel
theorem dL_publish_20 : decode cL_publish 20 = .ok (.ireturn, 1) := by decide +kernel
theorem dL_publish_21 : decode cL_publish 21 = .ok (.astore 6, 2) := by decide +kernel
theorem dL_publish_23 : decode cL_publish 23 = .ok (.bipush (-3), 2) := by decide +kernel
theorem dL_publish_25 : decode cL_publish 25 = .ok (.ireturn, 1) := by decide +kernel
theorem dL_audience_0 : decode cL_audience 0 = .ok (.aload_n 0, 1) := by decide +kernel
theorem dL_audience_1 : decode cL_audience 1 = .ok (.iload_n 1, 1) := by decide +kernel
theorem dL_audience_2 : decode cL_audience 2 = .ok (.invokevirtual 53, 3) := by decide +kernel
theorem dL_audience_5 : decode cL_audience 5 = .ok (.ireturn, 1) := by decide +kernel
theorem dL_audience_6 : decode cL_audience 6 = .ok (.astore_n 2, 1) := by decide +kernel
theorem dL_audience_7 : decode cL_audience 7 = .ok (.iconst (-1), 1) := by decide +kernel
theorem dL_audience_8 : decode cL_audience 8 = .ok (.ireturn, 1) := by decide +kernel
theorem dL_audience_9 : decode cL_audience 9 = .ok (.astore_n 2, 1) := by decide +kernel
theorem dL_audience_10 : decode cL_audience 10 = .ok (.bipush (-2), 2) := by decide +kernel
theorem dL_audience_12 : decode cL_audience 12 = .ok (.ireturn, 1) := by decide +kernel
theorem dL_answer_0 : decode cL_answer 0 = .ok (.aload_n 0, 1) := by decide +kernel
theorem dL_answer_1 : decode cL_answer 1 = .ok (.iload_n 1, 1) := by decide +kernel
theorem dL_answer_2 : decode cL_answer 2 = .ok (.iload_n 2, 1) := by decide +kernel
theorem dL_answer_3 : decode cL_answer 3 = .ok (.iload_n 3, 1) := by decide +kernel
theorem dL_answer_4 : decode cL_answer 4 = .ok (.invokevirtual 56, 3) := by decide +kernel
theorem dL_answer_7 : decode cL_answer 7 = .ok (.ireturn, 1) := by decide +kernel
theorem dL_answer_8 : decode cL_answer 8 = .ok (.astore 4, 2) := by decide +kernel
theorem dL_answer_10 : decode cL_answer 10 = .ok (.iconst (-1), 1) := by decide +kernel
theorem dL_answer_11 : decode cL_answer 11 = .ok (.ireturn, 1) := by decide +kernel
theorem dL_answer_12 : decode cL_answer 12 = .ok (.astore 4, 2) := by decide +kernel
theorem dL_answer_14 : decode cL_answer 14 = .ok (.bipush (-2), 2) := by decide +kernel
theorem dL_answer_16 : decode cL_answer 16 = .ok (.ireturn, 1) := by decide +kernel
theorem dL_answer_17 : decode cL_answer 17 = .ok (.astore 4, 2) := by decide +kernel
theorem dL_answer_19 : decode cL_answer 19 = .ok (.bipush (-3), 2) := by decide +kernel
theorem dL_answer_21 : decode cL_answer 21 = .ok (.ireturn, 1) := by decide +kernel
theorem dL_receive_0 : decode cL_receive 0 = .ok (.aload_n 0, 1) := by decide +kernel
theorem dL_receive_1 : decode cL_receive 1 = .ok (.iload_n 1, 1) := by decide +kernel
theorem dL_receive_2 : decode cL_receive 2 = .ok (.invokevirtual 60, 3) := by decide +kernel
theorem dL_receive_5 : decode cL_receive 5 = .ok (.ireturn, 1) := by decide +kernel
theorem dL_receive_6 : decode cL_receive 6 = .ok (.astore_n 2, 1) := by decide +kernel
theorem dL_receive_7 : decode cL_receive 7 = .ok (.bipush (-8), 2) := by decide +kernel
theorem dL_receive_9 : decode cL_receive 9 = .ok (.ireturn, 1) := by decide +kernel
theorem dL_receive_10 : decode cL_receive 10 = .ok (.astore_n 2, 1) := by decide +kernel
theorem dL_receive_11 : decode cL_receive 11 = .ok (.bipush (-9), 2) := by decide +kernel
theorem dL_receive_13 : decode cL_receive 13 = .ok (.ireturn, 1) := by decide +kernel
theorem dL_breaks_0 : decode cL_breaks 0 = .ok (.aload_n 0, 1) := by decide +kernel
theorem dL_breaks_1 : decode cL_breaks 1 = .ok (.iload_n 1, 1) := by decide +kernel
theorem dL_breaks_2 : decode cL_breaks 2 = .ok (.invokevirtual 63, 3) := by decide +kernel
theorem dL_breaks_5 : decode cL_breaks 5 = .ok (.ireturn, 1) := by decide +kernel
theorem dL_breaks_6 : decode cL_breaks 6 = .ok (.astore_n 2, 1) := by decide +kernel
theorem dL_breaks_7 : decode cL_breaks 7 = .ok (.iconst (-1), 1) := by decide +kernel
theorem dL_breaks_8 : decode cL_breaks 8 = .ok (.ireturn, 1) := by decide +kernel
theorem dL_breaks_9 : decode cL_breaks 9 = .ok (.astore_n 2, 1) := by decide +kernel
theorem dL_breaks_10 : decode cL_breaks 10 = .ok (.bipush (-2), 2) := by decide +kernel
theorem dL_breaks_12 : decode cL_breaks 12 = .ok (.ireturn, 1) := by decide +kernel
theorem dL_send_0 : decode cL_send 0 = .ok (.aload_n 0, 1) := by decide +kernel
theorem dL_send_1 : decode cL_send 1 = .ok (.aload_n 1, 1) := by decide +kernel
theorem dL_send_2 : decode cL_send 2 = .ok (.invokestatic 66, 3) := by decide +kernel
theorem dL_send_5 : decode cL_send 5 = .ok (.ifCond .eq 18, 3) := by decide +kernel
theorem dL_send_8 : decode cL_send 8 = .ok (.aload_n 0, 1) := by decide +kernel
theorem dL_send_9 : decode cL_send 9 = .ok (.iload_n 2, 1) := by decide +kernel
theorem dL_send_10 : decode cL_send 10 = .ok (.iload_n 3, 1) := by decide +kernel
theorem dL_send_11 : decode cL_send 11 = .ok (.iload 4, 2) := by decide +kernel
theorem dL_send_13 : decode cL_send 13 = .ok (.iload 5, 2) := by decide +kernel
theorem dL_send_15 : decode cL_send 15 = .ok (.iload 6, 2) := by decide +kernel
theorem dL_send_17 : decode cL_send 17 = .ok (.invokestatic 73, 3) := by decide +kernel
theorem dL_send_20 : decode cL_send 20 = .ok (.goto 5, 3) := by decide +kernel
theorem dL_send_23 : decode cL_send 23 = .ok (.bipush (-7), 2) := by decide +kernel
theorem dL_send_25 : decode cL_send 25 = .ok (.ireturn, 1) := by decide +kernel
theorem dL_unsubscribe_0 : decode cL_unsubscribe 0 = .ok (.aload_n 0, 1) := by decide +kernel
theorem dL_unsubscribe_1 : decode cL_unsubscribe 1 = .ok (.iload_n 1, 1) := by decide +kernel
theorem dL_unsubscribe_2 : decode cL_unsubscribe 2 = .ok (.iload_n 2, 1) := by decide +kernel
theorem dL_unsubscribe_3 : decode cL_unsubscribe 3 = .ok (.invokevirtual 103, 3) := by decide +kernel
theorem dL_unsubscribe_6 : decode cL_unsubscribe 6 = .ok (.ireturn, 1) := by decide +kernel
theorem dL_unsubscribe_7 : decode cL_unsubscribe 7 = .ok (.astore_n 3, 1) := by decide +kernel
theorem dL_unsubscribe_8 : decode cL_unsubscribe 8 = .ok (.iconst (-1), 1) := by decide +kernel
theorem dL_unsubscribe_9 : decode cL_unsubscribe 9 = .ok (.ireturn, 1) := by decide +kernel
theorem dL_unsubscribe_10 : decode cL_unsubscribe 10 = .ok (.astore_n 3, 1) := by decide +kernel
theorem dL_unsubscribe_11 : decode cL_unsubscribe 11 = .ok (.bipush (-2), 2) := by decide +kernel
theorem dL_unsubscribe_13 : decode cL_unsubscribe 13 = .ok (.ireturn, 1) := by decide +kernel
theorem dL_unsubscribe_14 : decode cL_unsubscribe 14 = .ok (.astore_n 3, 1) := by decide +kernel
theorem dL_unsubscribe_15 : decode cL_unsubscribe 15 = .ok (.bipush (-3), 2) := by decide +kernel
theorem dL_unsubscribe_17 : decode cL_unsubscribe 17 = .ok (.ireturn, 1) := by decide +kernel
theorem dL_setOption_0 : decode cL_setOption 0 = .ok (.aload_n 0, 1) := by decide +kernel
theorem dL_setOption_1 : decode cL_setOption 1 = .ok (.iload_n 1, 1) := by decide +kernel
theorem dL_setOption_2 : decode cL_setOption 2 = .ok (.iload_n 2, 1) := by decide +kernel
theorem dL_setOption_3 : decode cL_setOption 3 = .ok (.invokevirtual 106, 3) := by decide +kernel
theorem dL_setOption_6 : decode cL_setOption 6 = .ok (.ireturn, 1) := by decide +kernel
theorem dL_setOption_7 : decode cL_setOption 7 = .ok (.astore_n 3, 1) := by decide +kernel
theorem dL_setOption_8 : decode cL_setOption 8 = .ok (.iconst (-1), 1) := by decide +kernel
theorem dL_setOption_9 : decode cL_setOption 9 = .ok (.ireturn, 1) := by decide +kernel
theorem dL_setOption_10 : decode cL_setOption 10 = .ok (.astore_n 3, 1) := by decide +kernel
theorem dL_setOption_11 : decode cL_setOption 11 = .ok (.bipush (-2), 2) := by decide +kernel
theorem dL_setOption_13 : decode cL_setOption 13 = .ok (.ireturn, 1) := by decide +kernel
theorem dL_setWill_0 : decode cL_setWill 0 = .ok (.aload_n 0, 1) := by decide +kernel
theorem dL_setWill_1 : decode cL_setWill 1 = .ok (.iload_n 1, 1) := by decide +kernel
theorem dL_setWill_2 : decode cL_setWill 2 = .ok (.iload_n 2, 1) := by decide +kernel
theorem dL_setWill_3 : decode cL_setWill 3 = .ok (.iload_n 3, 1) := by decide +kernel
theorem dL_setWill_4 : decode cL_setWill 4 = .ok (.iload 4, 2) := by decide +kernel
theorem dL_setWill_6 : decode cL_setWill 6 = .ok (.invokevirtual 109, 3) := by decide +kernel
theorem dL_setWill_9 : decode cL_setWill 9 = .ok (.ireturn, 1) := by decide +kernel
theorem dL_setWill_10 : decode cL_setWill 10 = .ok (.astore 5, 2) := by decide +kernel
theorem dL_setWill_12 : decode cL_setWill 12 = .ok (.iconst (-1), 1) := by decide +kernel
theorem dL_setWill_13 : decode cL_setWill 13 = .ok (.ireturn, 1) := by decide +kernel
theorem dL_setWill_14 : decode cL_setWill 14 = .ok (.astore 5, 2) := by decide +kernel
theorem dL_setWill_16 : decode cL_setWill 16 = .ok (.bipush (-2), 2) := by decide +kernel
theorem dL_setWill_18 : decode cL_setWill 18 = .ok (.ireturn, 1) := by decide +kernel
theorem dL_setWill_19 : decode cL_setWill 19 = .ok (.astore 5, 2) := by decide +kernel
theorem dL_setWill_21 : decode cL_setWill 21 = .ok (.bipush (-3), 2) := by decide +kernel
theorem dL_setWill_23 : decode cL_setWill 23 = .ok (.ireturn, 1) := by decide +kernel
theorem dL_release_0 : decode cL_release 0 = .ok (.aload_n 0, 1) := by decide +kernel
theorem dL_release_1 : decode cL_release 1 = .ok (.iload_n 1, 1) := by decide +kernel
theorem dL_release_2 : decode cL_release 2 = .ok (.iload_n 2, 1) := by decide +kernel
theorem dL_release_3 : decode cL_release 3 = .ok (.invokevirtual 113, 3) := by decide +kernel
theorem dL_release_6 : decode cL_release 6 = .ok (.ireturn, 1) := by decide +kernel
theorem dL_release_7 : decode cL_release 7 = .ok (.astore_n 3, 1) := by decide +kernel
theorem dL_release_8 : decode cL_release 8 = .ok (.iconst (-1), 1) := by decide +kernel
theorem dL_release_9 : decode cL_release 9 = .ok (.ireturn, 1) := by decide +kernel
theorem dL_release_10 : decode cL_release 10 = .ok (.astore_n 3, 1) := by decide +kernel
theorem dL_release_11 : decode cL_release 11 = .ok (.bipush (-2), 2) := by decide +kernel
theorem dL_release_13 : decode cL_release 13 = .ok (.ireturn, 1) := by decide +kernel
theorem dL_release_14 : decode cL_release 14 = .ok (.astore_n 3, 1) := by decide +kernel
theorem dL_release_15 : decode cL_release 15 = .ok (.bipush (-3), 2) := by decide +kernel
theorem dL_release_17 : decode cL_release 17 = .ok (.ireturn, 1) := by decide +kernel
theorem dL_restore_0 : decode cL_restore 0 = .ok (.aload_n 0, 1) := by decide +kernel
theorem dL_restore_1 : decode cL_restore 1 = .ok (.invokevirtual 116, 3) := by decide +kernel
theorem dL_restore_4 : decode cL_restore 4 = .ok (.ireturn, 1) := by decide +kernel
theorem dL_restore_5 : decode cL_restore 5 = .ok (.astore_n 1, 1) := by decide +kernel
theorem dL_restore_6 : decode cL_restore 6 = .ok (.iconst (-1), 1) := by decide +kernel
theorem dL_restore_7 : decode cL_restore 7 = .ok (.ireturn, 1) := by decide +kernel
theorem dL_law_0 : decode cL_law 0 = .ok (.new 15, 3) := by decide +kernel
theorem dL_law_3 : decode cL_law 3 = .ok (.dup, 1) := by decide +kernel
theorem dL_law_4 : decode cL_law 4 = .ok (.invokespecial 119, 3) := by decide +kernel
theorem dL_law_7 : decode cL_law 7 = .ok (.astore_n 1, 1) := by decide +kernel
theorem dL_law_8 : decode cL_law 8 = .ok (.aload_n 1, 1) := by decide +kernel
theorem dL_law_9 : decode cL_law 9 = .ok (.invokestatic 120, 3) := by decide +kernel
theorem dL_law_12 : decode cL_law 12 = .ok (.iconst (-1), 1) := by decide +kernel
theorem dL_law_13 : decode cL_law 13 = .ok (.if_icmp .eq 5, 3) := by decide +kernel
theorem dL_law_16 : decode cL_law 16 = .ok (.iconst 0, 1) := by decide +kernel
theorem dL_law_17 : decode cL_law 17 = .ok (.ireturn, 1) := by decide +kernel
theorem dL_law_18 : decode cL_law 18 = .ok (.iconst 0, 1) := by decide +kernel
theorem dL_law_19 : decode cL_law 19 = .ok (.istore_n 2, 1) := by decide +kernel
theorem dL_law_20 : decode cL_law 20 = .ok (.iconst 0, 1) := by decide +kernel
theorem dL_law_21 : decode cL_law 21 = .ok (.istore_n 3, 1) := by decide +kernel
theorem dL_law_22 : decode cL_law 22 = .ok (.iload_n 3, 1) := by decide +kernel
theorem dL_law_23 : decode cL_law 23 = .ok (.bipush 40, 2) := by decide +kernel
theorem dL_law_25 : decode cL_law 25 = .ok (.if_icmp .ge 57, 3) := by decide +kernel
theorem dL_law_28 : decode cL_law 28 = .ok (.aload_n 0, 1) := by decide +kernel
theorem dL_law_29 : decode cL_law 29 = .ok (.iload_n 2, 1) := by decide +kernel
theorem dL_law_30 : decode cL_law 30 = .ok (.aload_n 1, 1) := by decide +kernel
theorem dL_law_31 : decode cL_law 31 = .ok (.invokestatic 123, 3) := by decide +kernel
theorem dL_law_34 : decode cL_law 34 = .ok (.ifCond .eq 17, 3) := by decide +kernel
theorem dL_law_37 : decode cL_law 37 = .ok (.aload_n 1, 1) := by decide +kernel
theorem dL_law_38 : decode cL_law 38 = .ok (.invokestatic 127, 3) := by decide +kernel
theorem dL_law_41 : decode cL_law 41 = .ok (.ifCond .eq 10, 3) := by decide +kernel
theorem dL_law_44 : decode cL_law 44 = .ok (.aload_n 1, 1) := by decide +kernel
theorem dL_law_45 : decode cL_law 45 = .ok (.invokestatic 131, 3) := by decide +kernel
theorem dL_law_48 : decode cL_law 48 = .ok (.ifCond .ne 5, 3) := by decide +kernel
theorem dL_law_51 : decode cL_law 51 = .ok (.iconst 0, 1) := by decide +kernel
theorem dL_law_52 : decode cL_law 52 = .ok (.ireturn, 1) := by decide +kernel
theorem dL_law_53 : decode cL_law 53 = .ok (.iinc 2 6, 3) := by decide +kernel
theorem dL_law_56 : decode cL_law 56 = .ok (.iload_n 3, 1) := by decide +kernel
theorem dL_law_57 : decode cL_law 57 = .ok (.bipush 13, 2) := by decide +kernel
theorem dL_law_59 : decode cL_law 59 = .ok (.irem, 1) := by decide +kernel
theorem dL_law_60 : decode cL_law 60 = .ok (.bipush 12, 2) := by decide +kernel
theorem dL_law_62 : decode cL_law 62 = .ok (.if_icmp .ne 14, 3) := by decide +kernel
theorem dL_law_65 : decode cL_law 65 = .ok (.aload_n 0, 1) := by decide +kernel
theorem dL_law_66 : decode cL_law 66 = .ok (.iload_n 2, 1) := by decide +kernel
theorem dL_law_67 : decode cL_law 67 = .ok (.aload_n 1, 1) := by decide +kernel
theorem dL_law_68 : decode cL_law 68 = .ok (.invokestatic 134, 3) := by decide +kernel
theorem dL_law_71 : decode cL_law 71 = .ok (.ifCond .ne 5, 3) := by decide +kernel
theorem dL_law_74 : decode cL_law 74 = .ok (.iconst 0, 1) := by decide +kernel
theorem dL_law_75 : decode cL_law 75 = .ok (.ireturn, 1) := by decide +kernel
theorem dL_law_76 : decode cL_law 76 = .ok (.iinc 3 1, 3) := by decide +kernel
theorem dL_law_79 : decode cL_law 79 = .ok (.goto (-57), 3) := by decide +kernel
theorem dL_law_82 : decode cL_law 82 = .ok (.iconst 1, 1) := by decide +kernel
theorem dL_law_83 : decode cL_law 83 = .ok (.ireturn, 1) := by decide +kernel
theorem dL_step_0 : decode cL_step 0 = .ok (.aload_n 0, 1) := by decide +kernel
theorem dL_step_1 : decode cL_step 1 = .ok (.iload_n 1, 1) := by decide +kernel
theorem dL_step_2 : decode cL_step 2 = .ok (.iconst 1, 1) := by decide +kernel
theorem dL_step_3 : decode cL_step 3 = .ok (.iadd, 1) := by decide +kernel
theorem dL_step_4 : decode cL_step 4 = .ok (.iconst 4, 1) := by decide +kernel
theorem dL_step_5 : decode cL_step 5 = .ok (.invokestatic 137, 3) := by decide +kernel
theorem dL_step_8 : decode cL_step 8 = .ok (.istore_n 3, 1) := by decide +kernel
theorem dL_step_9 : decode cL_step 9 = .ok (.aload_n 2, 1) := by decide +kernel
theorem dL_step_10 : decode cL_step 10 = .ok (.iload_n 3, 1) := by decide +kernel
theorem dL_step_11 : decode cL_step 11 = .ok (.invokevirtual 141, 3) := by decide +kernel
theorem dL_step_14 : decode cL_step 14 = .ok (.iconst 1, 1) := by decide +kernel
theorem dL_step_15 : decode cL_step 15 = .ok (.if_icmp .le 7, 3) := by decide +kernel
theorem dL_step_18 : decode cL_step 18 = .ok (.iconst 1, 1) := by decide +kernel
theorem dL_step_19 : decode cL_step 19 = .ok (.goto 4, 3) := by decide +kernel
theorem dL_step_22 : decode cL_step 22 = .ok (.iconst 0, 1) := by decide +kernel
theorem dL_step_23 : decode cL_step 23 = .ok (.istore 4, 2) := by decide +kernel
theorem dL_step_25 : decode cL_step 25 = .ok (.aload_n 0, 1) := by decide +kernel
theorem dL_step_26 : decode cL_step 26 = .ok (.iload_n 1, 1) := by decide +kernel
theorem dL_step_27 : decode cL_step 27 = .ok (.iconst 2, 1) := by decide +kernel
theorem dL_step_28 : decode cL_step 28 = .ok (.iadd, 1) := by decide +kernel
theorem dL_step_29 : decode cL_step 29 = .ok (.iconst 3, 1) := by decide +kernel
theorem dL_step_30 : decode cL_step 30 = .ok (.invokestatic 137, 3) := by decide +kernel
theorem dL_step_33 : decode cL_step 33 = .ok (.istore 5, 2) := by decide +kernel
theorem dL_step_35 : decode cL_step 35 = .ok (.aload_n 0, 1) := by decide +kernel
theorem dL_step_36 : decode cL_step 36 = .ok (.iload_n 1, 1) := by decide +kernel
theorem dL_step_37 : decode cL_step 37 = .ok (.bipush 14, 2) := by decide +kernel
theorem dL_step_39 : decode cL_step 39 = .ok (.invokestatic 137, 3) := by decide +kernel
theorem dL_step_42 : decode cL_step 42 = .ok (.tableswitch 348 0 10 #[58, 58, 80, 80, 80, 119, 172, 206, 245, 253, 325], 58) := by decide +kernel
theorem dL_step_100 : decode cL_step 100 = .ok (.aload_n 2, 1) := by decide +kernel
theorem dL_step_101 : decode cL_step 101 = .ok (.iload_n 3, 1) := by decide +kernel
theorem dL_step_102 : decode cL_step 102 = .ok (.aload_n 0, 1) := by decide +kernel
theorem dL_step_103 : decode cL_step 103 = .ok (.iload_n 1, 1) := by decide +kernel
theorem dL_step_104 : decode cL_step 104 = .ok (.iconst 2, 1) := by decide +kernel
theorem dL_step_105 : decode cL_step 105 = .ok (.iadd, 1) := by decide +kernel
theorem dL_step_106 : decode cL_step 106 = .ok (.iconst 2, 1) := by decide +kernel
theorem dL_step_107 : decode cL_step 107 = .ok (.invokestatic 137, 3) := by decide +kernel
theorem dL_step_110 : decode cL_step 110 = .ok (.ifCond .ne 7, 3) := by decide +kernel
theorem dL_step_113 : decode cL_step 113 = .ok (.iconst 1, 1) := by decide +kernel
theorem dL_step_114 : decode cL_step 114 = .ok (.goto 4, 3) := by decide +kernel
theorem dL_step_117 : decode cL_step 117 = .ok (.iconst 0, 1) := by decide +kernel
theorem dL_step_118 : decode cL_step 118 = .ok (.invokestatic 144, 3) := by decide +kernel
theorem dL_step_121 : decode cL_step 121 = .ok (.ireturn, 1) := by decide +kernel
theorem dL_step_122 : decode cL_step 122 = .ok (.aload_n 2, 1) := by decide +kernel
theorem dL_step_123 : decode cL_step 123 = .ok (.getstatic 148, 3) := by decide +kernel
theorem dL_step_126 : decode cL_step 126 = .ok (.aload_n 0, 1) := by decide +kernel
theorem dL_step_127 : decode cL_step 127 = .ok (.iload_n 1, 1) := by decide +kernel
theorem dL_step_128 : decode cL_step 128 = .ok (.iconst 3, 1) := by decide +kernel
theorem dL_step_129 : decode cL_step 129 = .ok (.iadd, 1) := by decide +kernel
theorem dL_step_130 : decode cL_step 130 = .ok (.bipush 16, 2) := by decide +kernel
theorem dL_step_132 : decode cL_step 132 = .ok (.invokestatic 137, 3) := by decide +kernel
theorem dL_step_135 : decode cL_step 135 = .ok (.aaload, 1) := by decide +kernel
theorem dL_step_136 : decode cL_step 136 = .ok (.iload_n 3, 1) := by decide +kernel
theorem dL_step_137 : decode cL_step 137 = .ok (.iload 5, 2) := by decide +kernel
theorem dL_step_139 : decode cL_step 139 = .ok (.aload_n 0, 1) := by decide +kernel
theorem dL_step_140 : decode cL_step 140 = .ok (.iload_n 1, 1) := by decide +kernel
theorem dL_step_141 : decode cL_step 141 = .ok (.iconst 4, 1) := by decide +kernel
theorem dL_step_142 : decode cL_step 142 = .ok (.iadd, 1) := by decide +kernel
theorem dL_step_143 : decode cL_step 143 = .ok (.iconst 3, 1) := by decide +kernel
theorem dL_step_144 : decode cL_step 144 = .ok (.invokestatic 137, 3) := by decide +kernel
theorem dL_step_147 : decode cL_step 147 = .ok (.aload_n 0, 1) := by decide +kernel
theorem dL_step_148 : decode cL_step 148 = .ok (.iload_n 1, 1) := by decide +kernel
theorem dL_step_149 : decode cL_step 149 = .ok (.iconst 5, 1) := by decide +kernel
theorem dL_step_150 : decode cL_step 150 = .ok (.iadd, 1) := by decide +kernel
theorem dL_step_151 : decode cL_step 151 = .ok (.iconst 4, 1) := by decide +kernel
theorem dL_step_152 : decode cL_step 152 = .ok (.invokestatic 137, 3) := by decide +kernel
theorem dL_step_155 : decode cL_step 155 = .ok (.iconst 2, 1) := by decide +kernel
theorem dL_step_156 : decode cL_step 156 = .ok (.imul, 1) := by decide +kernel
theorem dL_step_157 : decode cL_step 157 = .ok (.invokestatic 152, 3) := by decide +kernel
theorem dL_step_160 : decode cL_step 160 = .ok (.ireturn, 1) := by decide +kernel
theorem dL_step_161 : decode cL_step 161 = .ok (.aload_n 2, 1) := by decide +kernel
theorem dL_step_162 : decode cL_step 162 = .ok (.getstatic 148, 3) := by decide +kernel
theorem dL_step_165 : decode cL_step 165 = .ok (.aload_n 0, 1) := by decide +kernel
theorem dL_step_166 : decode cL_step 166 = .ok (.iload_n 1, 1) := by decide +kernel
theorem dL_step_167 : decode cL_step 167 = .ok (.iconst 3, 1) := by decide +kernel
theorem dL_step_168 : decode cL_step 168 = .ok (.iadd, 1) := by decide +kernel
theorem dL_step_169 : decode cL_step 169 = .ok (.bipush 16, 2) := by decide +kernel
theorem dL_step_171 : decode cL_step 171 = .ok (.invokestatic 137, 3) := by decide +kernel
theorem dL_step_174 : decode cL_step 174 = .ok (.aaload, 1) := by decide +kernel
theorem dL_step_175 : decode cL_step 175 = .ok (.invokestatic 66, 3) := by decide +kernel
theorem dL_step_178 : decode cL_step 178 = .ok (.ifCond .eq 34, 3) := by decide +kernel
theorem dL_step_181 : decode cL_step 181 = .ok (.aload_n 2, 1) := by decide +kernel
theorem dL_step_182 : decode cL_step 182 = .ok (.iload_n 3, 1) := by decide +kernel
theorem dL_step_183 : decode cL_step 183 = .ok (.aload_n 0, 1) := by decide +kernel
theorem dL_step_184 : decode cL_step 184 = .ok (.iload_n 1, 1) := by decide +kernel
theorem dL_step_185 : decode cL_step 185 = .ok (.iconst 4, 1) := by decide +kernel
theorem dL_step_186 : decode cL_step 186 = .ok (.iadd, 1) := by decide +kernel
theorem dL_step_187 : decode cL_step 187 = .ok (.iconst 3, 1) := by decide +kernel
theorem dL_step_188 : decode cL_step 188 = .ok (.invokestatic 137, 3) := by decide +kernel
theorem dL_step_191 : decode cL_step 191 = .ok (.invokestatic 156, 3) := by decide +kernel
theorem dL_step_194 : decode cL_step 194 = .ok (.iload 4, 2) := by decide +kernel
theorem dL_step_196 : decode cL_step 196 = .ok (.ifCond .eq 7, 3) := by decide +kernel
theorem dL_step_199 : decode cL_step 199 = .ok (.iconst 0, 1) := by decide +kernel
theorem dL_step_200 : decode cL_step 200 = .ok (.goto 5, 3) := by decide +kernel
theorem dL_step_203 : decode cL_step 203 = .ok (.bipush (-3), 2) := by decide +kernel
theorem dL_step_205 : decode cL_step 205 = .ok (.if_icmp .lt 7, 3) := by decide +kernel
theorem dL_step_208 : decode cL_step 208 = .ok (.iconst 1, 1) := by decide +kernel
theorem dL_step_209 : decode cL_step 209 = .ok (.goto 4, 3) := by decide +kernel
theorem dL_step_212 : decode cL_step 212 = .ok (.iconst 0, 1) := by decide +kernel
theorem dL_step_213 : decode cL_step 213 = .ok (.ireturn, 1) := by decide +kernel
theorem dL_step_214 : decode cL_step 214 = .ok (.aload_n 2, 1) := by decide +kernel
theorem dL_step_215 : decode cL_step 215 = .ok (.iload_n 3, 1) := by decide +kernel
theorem dL_step_216 : decode cL_step 216 = .ok (.invokestatic 159, 3) := by decide +kernel
theorem dL_step_219 : decode cL_step 219 = .ok (.bipush (-2), 2) := by decide +kernel
theorem dL_step_221 : decode cL_step 221 = .ok (.if_icmp .ne 7, 3) := by decide +kernel
theorem dL_step_224 : decode cL_step 224 = .ok (.iconst 1, 1) := by decide +kernel
theorem dL_step_225 : decode cL_step 225 = .ok (.goto 4, 3) := by decide +kernel
theorem dL_step_228 : decode cL_step 228 = .ok (.iconst 0, 1) := by decide +kernel
theorem dL_step_229 : decode cL_step 229 = .ok (.iload 4, 2) := by decide +kernel
theorem dL_step_231 : decode cL_step 231 = .ok (.ifCond .ne 7, 3) := by decide +kernel
theorem dL_step_234 : decode cL_step 234 = .ok (.iconst 1, 1) := by decide +kernel
theorem dL_step_235 : decode cL_step 235 = .ok (.goto 4, 3) := by decide +kernel
theorem dL_step_238 : decode cL_step 238 = .ok (.iconst 0, 1) := by decide +kernel
theorem dL_step_239 : decode cL_step 239 = .ok (.if_icmp .ne 7, 3) := by decide +kernel
theorem dL_step_242 : decode cL_step 242 = .ok (.iconst 1, 1) := by decide +kernel
theorem dL_step_243 : decode cL_step 243 = .ok (.goto 4, 3) := by decide +kernel
theorem dL_step_246 : decode cL_step 246 = .ok (.iconst 0, 1) := by decide +kernel
theorem dL_step_247 : decode cL_step 247 = .ok (.ireturn, 1) := by decide +kernel
theorem dL_step_248 : decode cL_step 248 = .ok (.aload_n 2, 1) := by decide +kernel
theorem dL_step_249 : decode cL_step 249 = .ok (.aload_n 0, 1) := by decide +kernel
theorem dL_step_250 : decode cL_step 250 = .ok (.iload_n 1, 1) := by decide +kernel
theorem dL_step_251 : decode cL_step 251 = .ok (.iconst 2, 1) := by decide +kernel
theorem dL_step_252 : decode cL_step 252 = .ok (.iadd, 1) := by decide +kernel
theorem dL_step_253 : decode cL_step 253 = .ok (.iconst 4, 1) := by decide +kernel
theorem dL_step_254 : decode cL_step 254 = .ok (.invokestatic 137, 3) := by decide +kernel
theorem dL_step_257 : decode cL_step 257 = .ok (.aload_n 0, 1) := by decide +kernel
theorem dL_step_258 : decode cL_step 258 = .ok (.iload_n 1, 1) := by decide +kernel
theorem dL_step_259 : decode cL_step 259 = .ok (.iconst 3, 1) := by decide +kernel
theorem dL_step_260 : decode cL_step 260 = .ok (.iadd, 1) := by decide +kernel
theorem dL_step_261 : decode cL_step 261 = .ok (.iconst 2, 1) := by decide +kernel
theorem dL_step_262 : decode cL_step 262 = .ok (.invokestatic 137, 3) := by decide +kernel
theorem dL_step_265 : decode cL_step 265 = .ok (.aload_n 0, 1) := by decide +kernel
theorem dL_step_266 : decode cL_step 266 = .ok (.iload_n 1, 1) := by decide +kernel
theorem dL_step_267 : decode cL_step 267 = .ok (.iconst 4, 1) := by decide +kernel
theorem dL_step_268 : decode cL_step 268 = .ok (.iadd, 1) := by decide +kernel
theorem dL_step_269 : decode cL_step 269 = .ok (.iconst 3, 1) := by decide +kernel
theorem dL_step_270 : decode cL_step 270 = .ok (.invokestatic 137, 3) := by decide +kernel
theorem dL_step_273 : decode cL_step 273 = .ok (.iadd, 1) := by decide +kernel
theorem dL_step_274 : decode cL_step 274 = .ok (.invokestatic 162, 3) := by decide +kernel
theorem dL_step_277 : decode cL_step 277 = .ok (.iconst (-1), 1) := by decide +kernel
theorem dL_step_278 : decode cL_step 278 = .ok (.if_icmp .eq 7, 3) := by decide +kernel
theorem dL_step_281 : decode cL_step 281 = .ok (.iconst 1, 1) := by decide +kernel
theorem dL_step_282 : decode cL_step 282 = .ok (.goto 4, 3) := by decide +kernel
theorem dL_step_285 : decode cL_step 285 = .ok (.iconst 0, 1) := by decide +kernel
theorem dL_step_286 : decode cL_step 286 = .ok (.ireturn, 1) := by decide +kernel
theorem dL_step_287 : decode cL_step 287 = .ok (.aload_n 2, 1) := by decide +kernel
theorem dL_step_288 : decode cL_step 288 = .ok (.iload_n 3, 1) := by decide +kernel
theorem dL_step_289 : decode cL_step 289 = .ok (.iload 4, 2) := by decide +kernel
theorem dL_step_291 : decode cL_step 291 = .ok (.invokestatic 164, 3) := by decide +kernel
theorem dL_step_294 : decode cL_step 294 = .ok (.ireturn, 1) := by decide +kernel
theorem dL_step_295 : decode cL_step 295 = .ok (.aload_n 2, 1) := by decide +kernel
theorem dL_step_296 : decode cL_step 296 = .ok (.getstatic 167, 3) := by decide +kernel
theorem dL_step_299 : decode cL_step 299 = .ok (.aload_n 0, 1) := by decide +kernel
theorem dL_step_300 : decode cL_step 300 = .ok (.iload_n 1, 1) := by decide +kernel
theorem dL_step_301 : decode cL_step 301 = .ok (.iconst 3, 1) := by decide +kernel
theorem dL_step_302 : decode cL_step 302 = .ok (.iadd, 1) := by decide +kernel
theorem dL_step_303 : decode cL_step 303 = .ok (.bipush 16, 2) := by decide +kernel
theorem dL_step_305 : decode cL_step 305 = .ok (.invokestatic 137, 3) := by decide +kernel
theorem dL_step_308 : decode cL_step 308 = .ok (.aaload, 1) := by decide +kernel
theorem dL_step_309 : decode cL_step 309 = .ok (.invokestatic 66, 3) := by decide +kernel
theorem dL_step_312 : decode cL_step 312 = .ok (.ifCond .eq 53, 3) := by decide +kernel
theorem dL_step_315 : decode cL_step 315 = .ok (.aload_n 2, 1) := by decide +kernel
theorem dL_step_316 : decode cL_step 316 = .ok (.iload_n 3, 1) := by decide +kernel
theorem dL_step_317 : decode cL_step 317 = .ok (.iload 5, 2) := by decide +kernel
theorem dL_step_319 : decode cL_step 319 = .ok (.aload_n 0, 1) := by decide +kernel
theorem dL_step_320 : decode cL_step 320 = .ok (.iload_n 1, 1) := by decide +kernel
theorem dL_step_321 : decode cL_step 321 = .ok (.iconst 4, 1) := by decide +kernel
theorem dL_step_322 : decode cL_step 322 = .ok (.iadd, 1) := by decide +kernel
theorem dL_step_323 : decode cL_step 323 = .ok (.iconst 2, 1) := by decide +kernel
theorem dL_step_324 : decode cL_step 324 = .ok (.invokestatic 137, 3) := by decide +kernel
theorem dL_step_327 : decode cL_step 327 = .ok (.ifCond .ne 7, 3) := by decide +kernel
theorem dL_step_330 : decode cL_step 330 = .ok (.iconst 1, 1) := by decide +kernel
theorem dL_step_331 : decode cL_step 331 = .ok (.goto 4, 3) := by decide +kernel
theorem dL_step_334 : decode cL_step 334 = .ok (.iconst 0, 1) := by decide +kernel
theorem dL_step_335 : decode cL_step 335 = .ok (.aload_n 0, 1) := by decide +kernel
theorem dL_step_336 : decode cL_step 336 = .ok (.iload_n 1, 1) := by decide +kernel
theorem dL_step_337 : decode cL_step 337 = .ok (.iconst 5, 1) := by decide +kernel
theorem dL_step_338 : decode cL_step 338 = .ok (.iadd, 1) := by decide +kernel
theorem dL_step_339 : decode cL_step 339 = .ok (.bipush 20, 2) := by decide +kernel
theorem dL_step_341 : decode cL_step 341 = .ok (.invokestatic 137, 3) := by decide +kernel
theorem dL_step_344 : decode cL_step 344 = .ok (.invokestatic 170, 3) := by decide +kernel
theorem dL_step_347 : decode cL_step 347 = .ok (.iload 4, 2) := by decide +kernel
theorem dL_step_349 : decode cL_step 349 = .ok (.ifCond .eq 7, 3) := by decide +kernel
theorem dL_step_352 : decode cL_step 352 = .ok (.iconst 0, 1) := by decide +kernel
theorem dL_step_353 : decode cL_step 353 = .ok (.goto 5, 3) := by decide +kernel
theorem dL_step_356 : decode cL_step 356 = .ok (.bipush (-3), 2) := by decide +kernel
theorem dL_step_358 : decode cL_step 358 = .ok (.if_icmp .lt 7, 3) := by decide +kernel
theorem dL_step_361 : decode cL_step 361 = .ok (.iconst 1, 1) := by decide +kernel
theorem dL_step_362 : decode cL_step 362 = .ok (.goto 4, 3) := by decide +kernel
theorem dL_step_365 : decode cL_step 365 = .ok (.iconst 0, 1) := by decide +kernel
theorem dL_step_366 : decode cL_step 366 = .ok (.ireturn, 1) := by decide +kernel
theorem dL_step_367 : decode cL_step 367 = .ok (.aload_n 2, 1) := by decide +kernel
theorem dL_step_368 : decode cL_step 368 = .ok (.iconst 1, 1) := by decide +kernel
theorem dL_step_369 : decode cL_step 369 = .ok (.aload_n 0, 1) := by decide +kernel
theorem dL_step_370 : decode cL_step 370 = .ok (.iload_n 1, 1) := by decide +kernel
theorem dL_step_371 : decode cL_step 371 = .ok (.iconst 2, 1) := by decide +kernel
theorem dL_step_372 : decode cL_step 372 = .ok (.iadd, 1) := by decide +kernel
theorem dL_step_373 : decode cL_step 373 = .ok (.iconst 5, 1) := by decide +kernel
theorem dL_step_374 : decode cL_step 374 = .ok (.invokestatic 137, 3) := by decide +kernel
theorem dL_step_377 : decode cL_step 377 = .ok (.iadd, 1) := by decide +kernel
theorem dL_step_378 : decode cL_step 378 = .ok (.invokevirtual 173, 3) := by decide +kernel
theorem dL_step_381 : decode cL_step 381 = .ok (.ifCond .le 7, 3) := by decide +kernel
theorem dL_step_384 : decode cL_step 384 = .ok (.iconst 1, 1) := by decide +kernel
theorem dL_step_385 : decode cL_step 385 = .ok (.goto 4, 3) := by decide +kernel
theorem dL_step_388 : decode cL_step 388 = .ok (.iconst 0, 1) := by decide +kernel
theorem dL_step_389 : decode cL_step 389 = .ok (.ireturn, 1) := by decide +kernel
theorem dL_step_390 : decode cL_step 390 = .ok (.aload_n 0, 1) := by decide +kernel
theorem dL_step_391 : decode cL_step 391 = .ok (.iload_n 1, 1) := by decide +kernel
theorem dL_step_392 : decode cL_step 392 = .ok (.aload_n 2, 1) := by decide +kernel
theorem dL_step_393 : decode cL_step 393 = .ok (.iload_n 3, 1) := by decide +kernel
theorem dL_step_394 : decode cL_step 394 = .ok (.iload 5, 2) := by decide +kernel
theorem dL_step_396 : decode cL_step 396 = .ok (.invokestatic 176, 3) := by decide +kernel
theorem dL_step_399 : decode cL_step 399 = .ok (.ireturn, 1) := by decide +kernel
theorem dL_connects_0 : decode cL_connects 0 = .ok (.aload_n 0, 1) := by decide +kernel
theorem dL_connects_1 : decode cL_connects 1 = .ok (.iload_n 1, 1) := by decide +kernel
theorem dL_connects_2 : decode cL_connects 2 = .ok (.invokevirtual 141, 3) := by decide +kernel
theorem dL_connects_5 : decode cL_connects 5 = .ok (.istore_n 3, 1) := by decide +kernel
theorem dL_connects_6 : decode cL_connects 6 = .ok (.aload_n 0, 1) := by decide +kernel
theorem dL_connects_7 : decode cL_connects 7 = .ok (.iconst 5, 1) := by decide +kernel
theorem dL_connects_8 : decode cL_connects 8 = .ok (.invokevirtual 180, 3) := by decide +kernel
theorem dL_connects_11 : decode cL_connects 11 = .ok (.istore 4, 2) := by decide +kernel
theorem dL_connects_13 : decode cL_connects 13 = .ok (.aload_n 0, 1) := by decide +kernel
theorem dL_connects_14 : decode cL_connects 14 = .ok (.iload_n 1, 1) := by decide +kernel
theorem dL_connects_15 : decode cL_connects 15 = .ok (.iload_n 2, 1) := by decide +kernel
theorem dL_connects_16 : decode cL_connects 16 = .ok (.invokevirtual 183, 3) := by decide +kernel
theorem dL_connects_19 : decode cL_connects 19 = .ok (.istore 5, 2) := by decide +kernel
theorem dL_connects_21 : decode cL_connects 21 = .ok (.iload 5, 2) := by decide +kernel
theorem dL_connects_23 : decode cL_connects 23 = .ok (.iload_n 2, 1) := by decide +kernel
theorem dL_connects_24 : decode cL_connects 24 = .ok (.ifCond .ne 17, 3) := by decide +kernel
theorem dL_connects_27 : decode cL_connects 27 = .ok (.iload_n 3, 1) := by decide +kernel
theorem dL_connects_28 : decode cL_connects 28 = .ok (.iconst 1, 1) := by decide +kernel
theorem dL_connects_29 : decode cL_connects 29 = .ok (.if_icmp .eq 8, 3) := by decide +kernel
theorem dL_connects_32 : decode cL_connects 32 = .ok (.iload_n 3, 1) := by decide +kernel
theorem dL_connects_33 : decode cL_connects 33 = .ok (.iconst 2, 1) := by decide +kernel
theorem dL_connects_34 : decode cL_connects 34 = .ok (.if_icmp .ne 7, 3) := by decide +kernel
theorem dL_connects_37 : decode cL_connects 37 = .ok (.iconst 1, 1) := by decide +kernel
theorem dL_connects_38 : decode cL_connects 38 = .ok (.goto 4, 3) := by decide +kernel
theorem dL_connects_41 : decode cL_connects 41 = .ok (.iconst 0, 1) := by decide +kernel
theorem dL_connects_42 : decode cL_connects 42 = .ok (.if_icmp .ne 7, 3) := by decide +kernel
theorem dL_connects_45 : decode cL_connects 45 = .ok (.iconst 1, 1) := by decide +kernel
theorem dL_connects_46 : decode cL_connects 46 = .ok (.goto 4, 3) := by decide +kernel
theorem dL_connects_49 : decode cL_connects 49 = .ok (.iconst 0, 1) := by decide +kernel
theorem dL_connects_50 : decode cL_connects 50 = .ok (.istore 6, 2) := by decide +kernel
theorem dL_connects_52 : decode cL_connects 52 = .ok (.iload 6, 2) := by decide +kernel
theorem dL_connects_54 : decode cL_connects 54 = .ok (.ifCond .eq 66, 3) := by decide +kernel
theorem dL_connects_57 : decode cL_connects 57 = .ok (.aload_n 0, 1) := by decide +kernel
theorem dL_connects_58 : decode cL_connects 58 = .ok (.iload_n 1, 1) := by decide +kernel
theorem dL_connects_59 : decode cL_connects 59 = .ok (.invokevirtual 141, 3) := by decide +kernel
theorem dL_connects_62 : decode cL_connects 62 = .ok (.iload_n 2, 1) := by decide +kernel
theorem dL_connects_63 : decode cL_connects 63 = .ok (.ifCond .eq 7, 3) := by decide +kernel
theorem dL_connects_66 : decode cL_connects 66 = .ok (.iconst 3, 1) := by decide +kernel
theorem dL_connects_67 : decode cL_connects 67 = .ok (.goto 4, 3) := by decide +kernel
theorem dL_connects_70 : decode cL_connects 70 = .ok (.iconst 2, 1) := by decide +kernel
theorem dL_connects_71 : decode cL_connects 71 = .ok (.if_icmp .ne 49, 3) := by decide +kernel
theorem dL_connects_74 : decode cL_connects 74 = .ok (.aload_n 0, 1) := by decide +kernel
theorem dL_connects_75 : decode cL_connects 75 = .ok (.iconst 5, 1) := by decide +kernel
theorem dL_connects_76 : decode cL_connects 76 = .ok (.invokevirtual 180, 3) := by decide +kernel
theorem dL_connects_79 : decode cL_connects 79 = .ok (.iload 4, 2) := by decide +kernel
theorem dL_connects_81 : decode cL_connects 81 = .ok (.iload_n 3, 1) := by decide +kernel
theorem dL_connects_82 : decode cL_connects 82 = .ok (.iconst 1, 1) := by decide +kernel
theorem dL_connects_83 : decode cL_connects 83 = .ok (.if_icmp .le 7, 3) := by decide +kernel
theorem dL_connects_86 : decode cL_connects 86 = .ok (.iconst 1, 1) := by decide +kernel
theorem dL_connects_87 : decode cL_connects 87 = .ok (.goto 4, 3) := by decide +kernel
theorem dL_connects_90 : decode cL_connects 90 = .ok (.iconst 0, 1) := by decide +kernel
theorem dL_connects_91 : decode cL_connects 91 = .ok (.iadd, 1) := by decide +kernel
theorem dL_connects_92 : decode cL_connects 92 = .ok (.if_icmp .ne 28, 3) := by decide +kernel
theorem dL_connects_95 : decode cL_connects 95 = .ok (.aload_n 0, 1) := by decide +kernel
theorem dL_connects_96 : decode cL_connects 96 = .ok (.iload_n 1, 1) := by decide +kernel
theorem dL_connects_97 : decode cL_connects 97 = .ok (.iconst 4, 1) := by decide +kernel
theorem dL_connects_98 : decode cL_connects 98 = .ok (.invokevirtual 187, 3) := by decide +kernel
theorem dL_connects_101 : decode cL_connects 101 = .ok (.iload 5, 2) := by decide +kernel
theorem dL_connects_103 : decode cL_connects 103 = .ok (.iconst 1, 1) := by decide +kernel
theorem dL_connects_104 : decode cL_connects 104 = .ok (.if_icmp .ne 8, 3) := by decide +kernel
theorem dL_connects_107 : decode cL_connects 107 = .ok (.bipush 6, 2) := by decide +kernel
theorem dL_connects_109 : decode cL_connects 109 = .ok (.goto 4, 3) := by decide +kernel
theorem dL_connects_112 : decode cL_connects 112 = .ok (.iconst 0, 1) := by decide +kernel
theorem dL_connects_113 : decode cL_connects 113 = .ok (.if_icmp .gt 7, 3) := by decide +kernel
theorem dL_connects_116 : decode cL_connects 116 = .ok (.iconst 1, 1) := by decide +kernel
theorem dL_connects_117 : decode cL_connects 117 = .ok (.goto 4, 3) := by decide +kernel
theorem dL_connects_120 : decode cL_connects 120 = .ok (.iconst 0, 1) := by decide +kernel
theorem dL_connects_121 : decode cL_connects 121 = .ok (.ireturn, 1) := by decide +kernel
theorem dL_subscribes_0 : decode cL_subscribes 0 = .ok (.aload_n 0, 1) := by decide +kernel
theorem dL_subscribes_1 : decode cL_subscribes 1 = .ok (.iload_n 2, 1) := by decide +kernel
theorem dL_subscribes_2 : decode cL_subscribes 2 = .ok (.iconst 4, 1) := by decide +kernel
theorem dL_subscribes_3 : decode cL_subscribes 3 = .ok (.invokevirtual 187, 3) := by decide +kernel
theorem dL_subscribes_6 : decode cL_subscribes 6 = .ok (.istore 6, 2) := by decide +kernel
theorem dL_subscribes_8 : decode cL_subscribes 8 = .ok (.aload_n 0, 1) := by decide +kernel
theorem dL_subscribes_9 : decode cL_subscribes 9 = .ok (.iload_n 2, 1) := by decide +kernel
theorem dL_subscribes_10 : decode cL_subscribes 10 = .ok (.invokevirtual 141, 3) := by decide +kernel
theorem dL_subscribes_13 : decode cL_subscribes 13 = .ok (.iconst 1, 1) := by decide +kernel
theorem dL_subscribes_14 : decode cL_subscribes 14 = .ok (.if_icmp .le 7, 3) := by decide +kernel
theorem dL_subscribes_17 : decode cL_subscribes 17 = .ok (.iconst 1, 1) := by decide +kernel
theorem dL_subscribes_18 : decode cL_subscribes 18 = .ok (.goto 4, 3) := by decide +kernel
theorem dL_subscribes_21 : decode cL_subscribes 21 = .ok (.iconst 0, 1) := by decide +kernel
theorem dL_subscribes_22 : decode cL_subscribes 22 = .ok (.istore 7, 2) := by decide +kernel
theorem dL_subscribes_24 : decode cL_subscribes 24 = .ok (.aload_n 0, 1) := by decide +kernel
theorem dL_subscribes_25 : decode cL_subscribes 25 = .ok (.aload_n 1, 1) := by decide +kernel
theorem dL_subscribes_26 : decode cL_subscribes 26 = .ok (.invokestatic 66, 3) := by decide +kernel
theorem dL_subscribes_29 : decode cL_subscribes 29 = .ok (.ifCond .eq 16, 3) := by decide +kernel
theorem dL_subscribes_32 : decode cL_subscribes 32 = .ok (.aload_n 0, 1) := by decide +kernel
theorem dL_subscribes_33 : decode cL_subscribes 33 = .ok (.iload_n 2, 1) := by decide +kernel
theorem dL_subscribes_34 : decode cL_subscribes 34 = .ok (.iload_n 3, 1) := by decide +kernel
theorem dL_subscribes_35 : decode cL_subscribes 35 = .ok (.iload 4, 2) := by decide +kernel
theorem dL_subscribes_37 : decode cL_subscribes 37 = .ok (.iload 5, 2) := by decide +kernel
theorem dL_subscribes_39 : decode cL_subscribes 39 = .ok (.invokestatic 70, 3) := by decide +kernel
theorem dL_subscribes_42 : decode cL_subscribes 42 = .ok (.goto 5, 3) := by decide +kernel
theorem dL_subscribes_45 : decode cL_subscribes 45 = .ok (.bipush (-7), 2) := by decide +kernel
theorem dL_subscribes_47 : decode cL_subscribes 47 = .ok (.istore 8, 2) := by decide +kernel
theorem dL_subscribes_49 : decode cL_subscribes 49 = .ok (.aload_n 0, 1) := by decide +kernel
theorem dL_subscribes_50 : decode cL_subscribes 50 = .ok (.iload_n 2, 1) := by decide +kernel
theorem dL_subscribes_51 : decode cL_subscribes 51 = .ok (.iconst 4, 1) := by decide +kernel
theorem dL_subscribes_52 : decode cL_subscribes 52 = .ok (.invokevirtual 187, 3) := by decide +kernel
theorem dL_subscribes_55 : decode cL_subscribes 55 = .ok (.iload 8, 2) := by decide +kernel
theorem dL_subscribes_57 : decode cL_subscribes 57 = .ok (.ifCond .ge 8, 3) := by decide +kernel
theorem dL_subscribes_60 : decode cL_subscribes 60 = .ok (.iload 6, 2) := by decide +kernel
theorem dL_subscribes_62 : decode cL_subscribes 62 = .ok (.goto 5, 3) := by decide +kernel
theorem dL_subscribes_65 : decode cL_subscribes 65 = .ok (.iload 8, 2) := by decide +kernel
theorem dL_subscribes_67 : decode cL_subscribes 67 = .ok (.if_icmp .ne 7, 3) := by decide +kernel
theorem dL_subscribes_70 : decode cL_subscribes 70 = .ok (.iconst 1, 1) := by decide +kernel
theorem dL_subscribes_71 : decode cL_subscribes 71 = .ok (.goto 4, 3) := by decide +kernel
theorem dL_subscribes_74 : decode cL_subscribes 74 = .ok (.iconst 0, 1) := by decide +kernel
theorem dL_subscribes_75 : decode cL_subscribes 75 = .ok (.istore 9, 2) := by decide +kernel
theorem dL_subscribes_77 : decode cL_subscribes 77 = .ok (.iload 9, 2) := by decide +kernel
theorem dL_subscribes_79 : decode cL_subscribes 79 = .ok (.ifCond .eq 52, 3) := by decide +kernel
theorem dL_subscribes_82 : decode cL_subscribes 82 = .ok (.iload 7, 2) := by decide +kernel
theorem dL_subscribes_84 : decode cL_subscribes 84 = .ok (.ifCond .eq 36, 3) := by decide +kernel
theorem dL_subscribes_87 : decode cL_subscribes 87 = .ok (.iload 8, 2) := by decide +kernel
theorem dL_subscribes_89 : decode cL_subscribes 89 = .ok (.iload 6, 2) := by decide +kernel
theorem dL_subscribes_91 : decode cL_subscribes 91 = .ok (.if_icmp .eq 36, 3) := by decide +kernel
theorem dL_subscribes_94 : decode cL_subscribes 94 = .ok (.iload 8, 2) := by decide +kernel
theorem dL_subscribes_96 : decode cL_subscribes 96 = .ok (.iload 6, 2) := by decide +kernel
theorem dL_subscribes_98 : decode cL_subscribes 98 = .ok (.iconst 1, 1) := by decide +kernel
theorem dL_subscribes_99 : decode cL_subscribes 99 = .ok (.iadd, 1) := by decide +kernel
theorem dL_subscribes_100 : decode cL_subscribes 100 = .ok (.if_icmp .eq 27, 3) := by decide +kernel
theorem dL_subscribes_103 : decode cL_subscribes 103 = .ok (.iload 8, 2) := by decide +kernel
theorem dL_subscribes_105 : decode cL_subscribes 105 = .ok (.bipush (-3), 2) := by decide +kernel
theorem dL_subscribes_107 : decode cL_subscribes 107 = .ok (.if_icmp .ne 24, 3) := by decide +kernel
theorem dL_subscribes_110 : decode cL_subscribes 110 = .ok (.iload 6, 2) := by decide +kernel
theorem dL_subscribes_112 : decode cL_subscribes 112 = .ok (.bipush 6, 2) := by decide +kernel
theorem dL_subscribes_114 : decode cL_subscribes 114 = .ok (.if_icmp .ne 17, 3) := by decide +kernel
theorem dL_subscribes_117 : decode cL_subscribes 117 = .ok (.goto 10, 3) := by decide +kernel
theorem dL_subscribes_120 : decode cL_subscribes 120 = .ok (.iload 8, 2) := by decide +kernel
theorem dL_subscribes_122 : decode cL_subscribes 122 = .ok (.bipush (-3), 2) := by decide +kernel
theorem dL_subscribes_124 : decode cL_subscribes 124 = .ok (.if_icmp .ne 7, 3) := by decide +kernel
theorem dL_subscribes_127 : decode cL_subscribes 127 = .ok (.iconst 1, 1) := by decide +kernel
theorem dL_subscribes_128 : decode cL_subscribes 128 = .ok (.goto 4, 3) := by decide +kernel
theorem dL_subscribes_131 : decode cL_subscribes 131 = .ok (.iconst 0, 1) := by decide +kernel
theorem dL_subscribes_132 : decode cL_subscribes 132 = .ok (.ireturn, 1) := by decide +kernel
theorem dL_answers_0 : decode cL_answers 0 = .ok (.iload_n 2, 1) := by decide +kernel
theorem dL_answers_1 : decode cL_answers 1 = .ok (.ifCond .eq 12, 3) := by decide +kernel
theorem dL_answers_4 : decode cL_answers 4 = .ok (.aload_n 0, 1) := by decide +kernel
theorem dL_answers_5 : decode cL_answers 5 = .ok (.iload_n 1, 1) := by decide +kernel
theorem dL_answers_6 : decode cL_answers 6 = .ok (.iconst 1, 1) := by decide +kernel
theorem dL_answers_7 : decode cL_answers 7 = .ok (.invokevirtual 187, 3) := by decide +kernel
theorem dL_answers_10 : decode cL_answers 10 = .ok (.ifCond .ne 29, 3) := by decide +kernel
theorem dL_answers_13 : decode cL_answers 13 = .ok (.aload_n 0, 1) := by decide +kernel
theorem dL_answers_14 : decode cL_answers 14 = .ok (.iload_n 1, 1) := by decide +kernel
theorem dL_answers_15 : decode cL_answers 15 = .ok (.iconst 1, 1) := by decide +kernel
theorem dL_answers_16 : decode cL_answers 16 = .ok (.iconst 1, 1) := by decide +kernel
theorem dL_answers_17 : decode cL_answers 17 = .ok (.invokestatic 189, 3) := by decide +kernel
theorem dL_answers_20 : decode cL_answers 20 = .ok (.iload_n 2, 1) := by decide +kernel
theorem dL_answers_21 : decode cL_answers 21 = .ok (.ifCond .eq 7, 3) := by decide +kernel
theorem dL_answers_24 : decode cL_answers 24 = .ok (.iconst 0, 1) := by decide +kernel
theorem dL_answers_25 : decode cL_answers 25 = .ok (.goto 5, 3) := by decide +kernel
theorem dL_answers_28 : decode cL_answers 28 = .ok (.bipush (-3), 2) := by decide +kernel
theorem dL_answers_30 : decode cL_answers 30 = .ok (.if_icmp .ne 7, 3) := by decide +kernel
theorem dL_answers_33 : decode cL_answers 33 = .ok (.iconst 1, 1) := by decide +kernel
theorem dL_answers_34 : decode cL_answers 34 = .ok (.goto 4, 3) := by decide +kernel
theorem dL_answers_37 : decode cL_answers 37 = .ok (.iconst 0, 1) := by decide +kernel
theorem dL_answers_38 : decode cL_answers 38 = .ok (.ireturn, 1) := by decide +kernel
theorem dL_answers_39 : decode cL_answers 39 = .ok (.aload_n 0, 1) := by decide +kernel
theorem dL_answers_40 : decode cL_answers 40 = .ok (.iload_n 1, 1) := by decide +kernel
theorem dL_answers_41 : decode cL_answers 41 = .ok (.iconst 0, 1) := by decide +kernel
theorem dL_answers_42 : decode cL_answers 42 = .ok (.iconst 0, 1) := by decide +kernel
theorem dL_answers_43 : decode cL_answers 43 = .ok (.invokevirtual 192, 3) := by decide +kernel
theorem dL_answers_46 : decode cL_answers 46 = .ok (.istore_n 3, 1) := by decide +kernel
theorem dL_answers_47 : decode cL_answers 47 = .ok (.aload_n 0, 1) := by decide +kernel
theorem dL_answers_48 : decode cL_answers 48 = .ok (.iload_n 1, 1) := by decide +kernel
theorem dL_answers_49 : decode cL_answers 49 = .ok (.iconst 1, 1) := by decide +kernel
theorem dL_answers_50 : decode cL_answers 50 = .ok (.invokevirtual 187, 3) := by decide +kernel
theorem dL_answers_53 : decode cL_answers 53 = .ok (.aload_n 0, 1) := by decide +kernel
theorem dL_answers_54 : decode cL_answers 54 = .ok (.iload_n 1, 1) := by decide +kernel
theorem dL_answers_55 : decode cL_answers 55 = .ok (.iconst 2, 1) := by decide +kernel
theorem dL_answers_56 : decode cL_answers 56 = .ok (.invokevirtual 187, 3) := by decide +kernel
theorem dL_answers_59 : decode cL_answers 59 = .ok (.iadd, 1) := by decide +kernel
theorem dL_answers_60 : decode cL_answers 60 = .ok (.istore 4, 2) := by decide +kernel
theorem dL_answers_62 : decode cL_answers 62 = .ok (.aload_n 0, 1) := by decide +kernel
theorem dL_answers_63 : decode cL_answers 63 = .ok (.iload_n 1, 1) := by decide +kernel
theorem dL_answers_64 : decode cL_answers 64 = .ok (.iconst 0, 1) := by decide +kernel
theorem dL_answers_65 : decode cL_answers 65 = .ok (.iconst 3, 1) := by decide +kernel
theorem dL_answers_66 : decode cL_answers 66 = .ok (.invokevirtual 192, 3) := by decide +kernel
theorem dL_answers_69 : decode cL_answers 69 = .ok (.istore 5, 2) := by decide +kernel
theorem dL_answers_71 : decode cL_answers 71 = .ok (.aload_n 0, 1) := by decide +kernel
theorem dL_answers_72 : decode cL_answers 72 = .ok (.bipush 9, 2) := by decide +kernel
theorem dL_answers_74 : decode cL_answers 74 = .ok (.invokevirtual 180, 3) := by decide +kernel
theorem dL_answers_77 : decode cL_answers 77 = .ok (.istore 6, 2) := by decide +kernel
theorem dL_answers_79 : decode cL_answers 79 = .ok (.aload_n 0, 1) := by decide +kernel
theorem dL_answers_80 : decode cL_answers 80 = .ok (.iload_n 1, 1) := by decide +kernel
theorem dL_answers_81 : decode cL_answers 81 = .ok (.iload 5, 2) := by decide +kernel
theorem dL_answers_83 : decode cL_answers 83 = .ok (.iload_n 3, 1) := by decide +kernel
theorem dL_answers_84 : decode cL_answers 84 = .ok (.invokestatic 189, 3) := by decide +kernel
theorem dL_answers_87 : decode cL_answers 87 = .ok (.iconst 1, 1) := by decide +kernel
theorem dL_answers_88 : decode cL_answers 88 = .ok (.if_icmp .ne 30, 3) := by decide +kernel
theorem dL_answers_91 : decode cL_answers 91 = .ok (.aload_n 0, 1) := by decide +kernel
theorem dL_answers_92 : decode cL_answers 92 = .ok (.bipush 9, 2) := by decide +kernel
theorem dL_answers_94 : decode cL_answers 94 = .ok (.invokevirtual 180, 3) := by decide +kernel
theorem dL_answers_97 : decode cL_answers 97 = .ok (.iload 6, 2) := by decide +kernel
theorem dL_answers_99 : decode cL_answers 99 = .ok (.iload 5, 2) := by decide +kernel
theorem dL_answers_101 : decode cL_answers 101 = .ok (.iconst 2, 1) := by decide +kernel
theorem dL_answers_102 : decode cL_answers 102 = .ok (.if_icmp .ne 7, 3) := by decide +kernel
theorem dL_answers_105 : decode cL_answers 105 = .ok (.iconst 0, 1) := by decide +kernel
theorem dL_answers_106 : decode cL_answers 106 = .ok (.goto 4, 3) := by decide +kernel
theorem dL_answers_109 : decode cL_answers 109 = .ok (.iconst 1, 1) := by decide +kernel
theorem dL_answers_110 : decode cL_answers 110 = .ok (.iadd, 1) := by decide +kernel
theorem dL_answers_111 : decode cL_answers 111 = .ok (.if_icmp .ne 7, 3) := by decide +kernel
theorem dL_answers_114 : decode cL_answers 114 = .ok (.iconst 1, 1) := by decide +kernel
theorem dL_answers_115 : decode cL_answers 115 = .ok (.goto 4, 3) := by decide +kernel
theorem dL_answers_118 : decode cL_answers 118 = .ok (.iconst 0, 1) := by decide +kernel
theorem dL_answers_119 : decode cL_answers 119 = .ok (.istore 7, 2) := by decide +kernel
theorem dL_answers_121 : decode cL_answers 121 = .ok (.iload 7, 2) := by decide +kernel
theorem dL_answers_123 : decode cL_answers 123 = .ok (.ifCond .eq 37, 3) := by decide +kernel
theorem dL_answers_126 : decode cL_answers 126 = .ok (.aload_n 0, 1) := by decide +kernel
theorem dL_answers_127 : decode cL_answers 127 = .ok (.iload_n 1, 1) := by decide +kernel
theorem dL_answers_128 : decode cL_answers 128 = .ok (.iconst 1, 1) := by decide +kernel
theorem dL_answers_129 : decode cL_answers 129 = .ok (.invokevirtual 187, 3) := by decide +kernel
theorem dL_answers_132 : decode cL_answers 132 = .ok (.aload_n 0, 1) := by decide +kernel
theorem dL_answers_133 : decode cL_answers 133 = .ok (.iload_n 1, 1) := by decide +kernel
theorem dL_answers_134 : decode cL_answers 134 = .ok (.iconst 2, 1) := by decide +kernel
theorem dL_answers_135 : decode cL_answers 135 = .ok (.invokevirtual 187, 3) := by decide +kernel
theorem dL_answers_138 : decode cL_answers 138 = .ok (.iadd, 1) := by decide +kernel
theorem dL_answers_139 : decode cL_answers 139 = .ok (.iload 4, 2) := by decide +kernel
theorem dL_answers_141 : decode cL_answers 141 = .ok (.iload 5, 2) := by decide +kernel
theorem dL_answers_143 : decode cL_answers 143 = .ok (.iconst 2, 1) := by decide +kernel
theorem dL_answers_144 : decode cL_answers 144 = .ok (.if_icmp .ne 7, 3) := by decide +kernel
theorem dL_answers_147 : decode cL_answers 147 = .ok (.iconst 0, 1) := by decide +kernel
theorem dL_answers_148 : decode cL_answers 148 = .ok (.goto 4, 3) := by decide +kernel
theorem dL_answers_151 : decode cL_answers 151 = .ok (.iconst 1, 1) := by decide +kernel
theorem dL_answers_152 : decode cL_answers 152 = .ok (.isub, 1) := by decide +kernel
theorem dL_answers_153 : decode cL_answers 153 = .ok (.if_icmp .ne 7, 3) := by decide +kernel
theorem dL_answers_156 : decode cL_answers 156 = .ok (.iconst 1, 1) := by decide +kernel
theorem dL_answers_157 : decode cL_answers 157 = .ok (.goto 4, 3) := by decide +kernel
theorem dL_answers_160 : decode cL_answers 160 = .ok (.iconst 0, 1) := by decide +kernel
theorem dL_answers_161 : decode cL_answers 161 = .ok (.ireturn, 1) := by decide +kernel
theorem dL_publishes_0 : decode cL_publishes 0 = .ok (.aload_n 2, 1) := by decide +kernel
theorem dL_publishes_1 : decode cL_publishes 1 = .ok (.iload_n 3, 1) := by decide +kernel
theorem dL_publishes_2 : decode cL_publishes 2 = .ok (.invokevirtual 141, 3) := by decide +kernel
theorem dL_publishes_5 : decode cL_publishes 5 = .ok (.iconst 1, 1) := by decide +kernel
theorem dL_publishes_6 : decode cL_publishes 6 = .ok (.if_icmp .le 7, 3) := by decide +kernel
theorem dL_publishes_9 : decode cL_publishes 9 = .ok (.iconst 1, 1) := by decide +kernel
theorem dL_publishes_10 : decode cL_publishes 10 = .ok (.goto 4, 3) := by decide +kernel
theorem dL_publishes_13 : decode cL_publishes 13 = .ok (.iconst 0, 1) := by decide +kernel
theorem dL_publishes_14 : decode cL_publishes 14 = .ok (.istore 5, 2) := by decide +kernel
theorem dL_publishes_16 : decode cL_publishes 16 = .ok (.getstatic 167, 3) := by decide +kernel
theorem dL_publishes_19 : decode cL_publishes 19 = .ok (.aload_n 0, 1) := by decide +kernel
theorem dL_publishes_20 : decode cL_publishes 20 = .ok (.iload_n 1, 1) := by decide +kernel
theorem dL_publishes_21 : decode cL_publishes 21 = .ok (.iconst 3, 1) := by decide +kernel
theorem dL_publishes_22 : decode cL_publishes 22 = .ok (.iadd, 1) := by decide +kernel
theorem dL_publishes_23 : decode cL_publishes 23 = .ok (.bipush 16, 2) := by decide +kernel
theorem dL_publishes_25 : decode cL_publishes 25 = .ok (.invokestatic 137, 3) := by decide +kernel
theorem dL_publishes_28 : decode cL_publishes 28 = .ok (.aaload, 1) := by decide +kernel
theorem dL_publishes_29 : decode cL_publishes 29 = .ok (.astore 6, 2) := by decide +kernel
theorem dL_publishes_31 : decode cL_publishes 31 = .ok (.iconst 1, 1) := by decide +kernel
theorem dL_publishes_32 : decode cL_publishes 32 = .ok (.aload_n 0, 1) := by decide +kernel
theorem dL_publishes_33 : decode cL_publishes 33 = .ok (.iload_n 1, 1) := by decide +kernel
theorem dL_publishes_34 : decode cL_publishes 34 = .ok (.iconst 4, 1) := by decide +kernel
theorem dL_publishes_35 : decode cL_publishes 35 = .ok (.iadd, 1) := by decide +kernel
theorem dL_publishes_36 : decode cL_publishes 36 = .ok (.iconst 5, 1) := by decide +kernel
theorem dL_publishes_37 : decode cL_publishes 37 = .ok (.invokestatic 137, 3) := by decide +kernel
theorem dL_publishes_40 : decode cL_publishes 40 = .ok (.iadd, 1) := by decide +kernel
theorem dL_publishes_41 : decode cL_publishes 41 = .ok (.istore 7, 2) := by decide +kernel
theorem dL_publishes_43 : decode cL_publishes 43 = .ok (.aload_n 2, 1) := by decide +kernel
theorem dL_publishes_44 : decode cL_publishes 44 = .ok (.aload 6, 2) := by decide +kernel
theorem dL_publishes_46 : decode cL_publishes 46 = .ok (.invokestatic 66, 3) := by decide +kernel
theorem dL_publishes_49 : decode cL_publishes 49 = .ok (.ifCond .eq 11, 3) := by decide +kernel
theorem dL_publishes_52 : decode cL_publishes 52 = .ok (.aload_n 2, 1) := by decide +kernel
theorem dL_publishes_53 : decode cL_publishes 53 = .ok (.iload_n 3, 1) := by decide +kernel
theorem dL_publishes_54 : decode cL_publishes 54 = .ok (.invokestatic 195, 3) := by decide +kernel
theorem dL_publishes_57 : decode cL_publishes 57 = .ok (.goto 5, 3) := by decide +kernel
theorem dL_publishes_60 : decode cL_publishes 60 = .ok (.bipush (-7), 2) := by decide +kernel
theorem dL_publishes_62 : decode cL_publishes 62 = .ok (.istore 8, 2) := by decide +kernel
theorem dL_publishes_64 : decode cL_publishes 64 = .ok (.aload_n 2, 1) := by decide +kernel
theorem dL_publishes_65 : decode cL_publishes 65 = .ok (.iconst 1, 1) := by decide +kernel
theorem dL_publishes_66 : decode cL_publishes 66 = .ok (.invokevirtual 180, 3) := by decide +kernel
theorem dL_publishes_69 : decode cL_publishes 69 = .ok (.istore 9, 2) := by decide +kernel
theorem dL_publishes_71 : decode cL_publishes 71 = .ok (.aload_n 2, 1) := by decide +kernel
theorem dL_publishes_72 : decode cL_publishes 72 = .ok (.iconst 0, 1) := by decide +kernel
theorem dL_publishes_73 : decode cL_publishes 73 = .ok (.invokevirtual 180, 3) := by decide +kernel
theorem dL_publishes_76 : decode cL_publishes 76 = .ok (.istore 10, 2) := by decide +kernel
theorem dL_publishes_78 : decode cL_publishes 78 = .ok (.aload_n 2, 1) := by decide +kernel
theorem dL_publishes_79 : decode cL_publishes 79 = .ok (.iconst 3, 1) := by decide +kernel
theorem dL_publishes_80 : decode cL_publishes 80 = .ok (.invokevirtual 180, 3) := by decide +kernel
theorem dL_publishes_83 : decode cL_publishes 83 = .ok (.istore 11, 2) := by decide +kernel
theorem dL_publishes_85 : decode cL_publishes 85 = .ok (.aload_n 2, 1) := by decide +kernel
theorem dL_publishes_86 : decode cL_publishes 86 = .ok (.iload_n 3, 1) := by decide +kernel
theorem dL_publishes_87 : decode cL_publishes 87 = .ok (.iconst 3, 1) := by decide +kernel
theorem dL_publishes_88 : decode cL_publishes 88 = .ok (.invokevirtual 187, 3) := by decide +kernel
theorem dL_publishes_91 : decode cL_publishes 91 = .ok (.istore 12, 2) := by decide +kernel
theorem dL_publishes_93 : decode cL_publishes 93 = .ok (.aload_n 2, 1) := by decide +kernel
theorem dL_publishes_94 : decode cL_publishes 94 = .ok (.aload 6, 2) := by decide +kernel
theorem dL_publishes_96 : decode cL_publishes 96 = .ok (.iload_n 3, 1) := by decide +kernel
theorem dL_publishes_97 : decode cL_publishes 97 = .ok (.iload 4, 2) := by decide +kernel
theorem dL_publishes_99 : decode cL_publishes 99 = .ok (.iload 7, 2) := by decide +kernel
theorem dL_publishes_101 : decode cL_publishes 101 = .ok (.aload_n 0, 1) := by decide +kernel
theorem dL_publishes_102 : decode cL_publishes 102 = .ok (.iload_n 1, 1) := by decide +kernel
theorem dL_publishes_103 : decode cL_publishes 103 = .ok (.iconst 5, 1) := by decide +kernel
theorem dL_publishes_104 : decode cL_publishes 104 = .ok (.iadd, 1) := by decide +kernel
theorem dL_publishes_105 : decode cL_publishes 105 = .ok (.iconst 3, 1) := by decide +kernel
theorem dL_publishes_106 : decode cL_publishes 106 = .ok (.invokestatic 137, 3) := by decide +kernel
theorem dL_publishes_109 : decode cL_publishes 109 = .ok (.ifCond .ne 7, 3) := by decide +kernel
theorem dL_publishes_112 : decode cL_publishes 112 = .ok (.iconst 1, 1) := by decide +kernel
theorem dL_publishes_113 : decode cL_publishes 113 = .ok (.goto 4, 3) := by decide +kernel
theorem dL_publishes_116 : decode cL_publishes 116 = .ok (.iconst 0, 1) := by decide +kernel
theorem dL_publishes_117 : decode cL_publishes 117 = .ok (.aload_n 0, 1) := by decide +kernel
theorem dL_publishes_118 : decode cL_publishes 118 = .ok (.iload_n 1, 1) := by decide +kernel
theorem dL_publishes_119 : decode cL_publishes 119 = .ok (.iconst 5, 1) := by decide +kernel
theorem dL_publishes_120 : decode cL_publishes 120 = .ok (.iadd, 1) := by decide +kernel
theorem dL_publishes_121 : decode cL_publishes 121 = .ok (.bipush 30, 2) := by decide +kernel
theorem dL_publishes_123 : decode cL_publishes 123 = .ok (.invokestatic 137, 3) := by decide +kernel
theorem dL_publishes_126 : decode cL_publishes 126 = .ok (.invokestatic 197, 3) := by decide +kernel
theorem dL_publishes_129 : decode cL_publishes 129 = .ok (.istore 13, 2) := by decide +kernel
theorem dL_publishes_131 : decode cL_publishes 131 = .ok (.iload 5, 2) := by decide +kernel
theorem dL_publishes_133 : decode cL_publishes 133 = .ok (.ifCond .ne 36, 3) := by decide +kernel
theorem dL_publishes_136 : decode cL_publishes 136 = .ok (.iload 13, 2) := by decide +kernel
theorem dL_publishes_138 : decode cL_publishes 138 = .ok (.bipush (-3), 2) := by decide +kernel
theorem dL_publishes_140 : decode cL_publishes 140 = .ok (.if_icmp .ne 27, 3) := by decide +kernel
theorem dL_publishes_143 : decode cL_publishes 143 = .ok (.aload_n 2, 1) := by decide +kernel
theorem dL_publishes_144 : decode cL_publishes 144 = .ok (.iconst 0, 1) := by decide +kernel
theorem dL_publishes_145 : decode cL_publishes 145 = .ok (.invokevirtual 180, 3) := by decide +kernel
theorem dL_publishes_148 : decode cL_publishes 148 = .ok (.iload 10, 2) := by decide +kernel
theorem dL_publishes_150 : decode cL_publishes 150 = .ok (.if_icmp .ne 17, 3) := by decide +kernel
theorem dL_publishes_153 : decode cL_publishes 153 = .ok (.aload_n 2, 1) := by decide +kernel
theorem dL_publishes_154 : decode cL_publishes 154 = .ok (.iconst 1, 1) := by decide +kernel
theorem dL_publishes_155 : decode cL_publishes 155 = .ok (.invokevirtual 180, 3) := by decide +kernel
theorem dL_publishes_158 : decode cL_publishes 158 = .ok (.iload 9, 2) := by decide +kernel
theorem dL_publishes_160 : decode cL_publishes 160 = .ok (.if_icmp .ne 7, 3) := by decide +kernel
theorem dL_publishes_163 : decode cL_publishes 163 = .ok (.iconst 1, 1) := by decide +kernel
theorem dL_publishes_164 : decode cL_publishes 164 = .ok (.goto 4, 3) := by decide +kernel
theorem dL_publishes_167 : decode cL_publishes 167 = .ok (.iconst 0, 1) := by decide +kernel
theorem dL_publishes_168 : decode cL_publishes 168 = .ok (.ireturn, 1) := by decide +kernel
theorem dL_publishes_169 : decode cL_publishes 169 = .ok (.aload_n 2, 1) := by decide +kernel
theorem dL_publishes_170 : decode cL_publishes 170 = .ok (.iconst 3, 1) := by decide +kernel
theorem dL_publishes_171 : decode cL_publishes 171 = .ok (.invokevirtual 180, 3) := by decide +kernel
theorem dL_publishes_174 : decode cL_publishes 174 = .ok (.iload 11, 2) := by decide +kernel
theorem dL_publishes_176 : decode cL_publishes 176 = .ok (.iconst 1, 1) := by decide +kernel
theorem dL_publishes_177 : decode cL_publishes 177 = .ok (.iadd, 1) := by decide +kernel
theorem dL_publishes_178 : decode cL_publishes 178 = .ok (.if_icmp .ne 7, 3) := by decide +kernel
theorem dL_publishes_181 : decode cL_publishes 181 = .ok (.iconst 1, 1) := by decide +kernel
theorem dL_publishes_182 : decode cL_publishes 182 = .ok (.goto 4, 3) := by decide +kernel
theorem dL_publishes_185 : decode cL_publishes 185 = .ok (.iconst 0, 1) := by decide +kernel
theorem dL_publishes_186 : decode cL_publishes 186 = .ok (.istore 14, 2) := by decide +kernel
theorem dL_publishes_188 : decode cL_publishes 188 = .ok (.iload 14, 2) := by decide +kernel
theorem dL_publishes_190 : decode cL_publishes 190 = .ok (.ifCond .eq 43, 3) := by decide +kernel
theorem dL_publishes_193 : decode cL_publishes 193 = .ok (.iload 13, 2) := by decide +kernel
theorem dL_publishes_195 : decode cL_publishes 195 = .ok (.ifCond .ne 34, 3) := by decide +kernel
theorem dL_publishes_198 : decode cL_publishes 198 = .ok (.iload 4, 2) := by decide +kernel
theorem dL_publishes_200 : decode cL_publishes 200 = .ok (.iconst 2, 1) := by decide +kernel
theorem dL_publishes_201 : decode cL_publishes 201 = .ok (.if_icmp .ne 28, 3) := by decide +kernel
theorem dL_publishes_204 : decode cL_publishes 204 = .ok (.aload_n 2, 1) := by decide +kernel
theorem dL_publishes_205 : decode cL_publishes 205 = .ok (.iconst 0, 1) := by decide +kernel
theorem dL_publishes_206 : decode cL_publishes 206 = .ok (.invokevirtual 180, 3) := by decide +kernel
theorem dL_publishes_209 : decode cL_publishes 209 = .ok (.iload 10, 2) := by decide +kernel
theorem dL_publishes_211 : decode cL_publishes 211 = .ok (.if_icmp .ne 18, 3) := by decide +kernel
theorem dL_publishes_214 : decode cL_publishes 214 = .ok (.aload_n 2, 1) := by decide +kernel
theorem dL_publishes_215 : decode cL_publishes 215 = .ok (.iload_n 3, 1) := by decide +kernel
theorem dL_publishes_216 : decode cL_publishes 216 = .ok (.iconst 3, 1) := by decide +kernel
theorem dL_publishes_217 : decode cL_publishes 217 = .ok (.invokevirtual 187, 3) := by decide +kernel
theorem dL_publishes_220 : decode cL_publishes 220 = .ok (.iload 12, 2) := by decide +kernel
theorem dL_publishes_222 : decode cL_publishes 222 = .ok (.if_icmp .ne 7, 3) := by decide +kernel
theorem dL_publishes_225 : decode cL_publishes 225 = .ok (.iconst 1, 1) := by decide +kernel
theorem dL_publishes_226 : decode cL_publishes 226 = .ok (.goto 31, 3) := by decide +kernel
theorem dL_publishes_229 : decode cL_publishes 229 = .ok (.iconst 0, 1) := by decide +kernel
theorem dL_publishes_230 : decode cL_publishes 230 = .ok (.goto 27, 3) := by decide +kernel
theorem dL_publishes_233 : decode cL_publishes 233 = .ok (.iload 13, 2) := by decide +kernel
theorem dL_publishes_235 : decode cL_publishes 235 = .ok (.iload 8, 2) := by decide +kernel
theorem dL_publishes_237 : decode cL_publishes 237 = .ok (.if_icmp .ne 19, 3) := by decide +kernel
theorem dL_publishes_240 : decode cL_publishes 240 = .ok (.aload_n 2, 1) := by decide +kernel
theorem dL_publishes_241 : decode cL_publishes 241 = .ok (.iconst 0, 1) := by decide +kernel
theorem dL_publishes_242 : decode cL_publishes 242 = .ok (.invokevirtual 180, 3) := by decide +kernel
theorem dL_publishes_245 : decode cL_publishes 245 = .ok (.iload 10, 2) := by decide +kernel
theorem dL_publishes_247 : decode cL_publishes 247 = .ok (.iconst 1, 1) := by decide +kernel
theorem dL_publishes_248 : decode cL_publishes 248 = .ok (.iadd, 1) := by decide +kernel
theorem dL_publishes_249 : decode cL_publishes 249 = .ok (.if_icmp .ne 7, 3) := by decide +kernel
theorem dL_publishes_252 : decode cL_publishes 252 = .ok (.iconst 1, 1) := by decide +kernel
theorem dL_publishes_253 : decode cL_publishes 253 = .ok (.goto 4, 3) := by decide +kernel
theorem dL_publishes_256 : decode cL_publishes 256 = .ok (.iconst 0, 1) := by decide +kernel
theorem dL_publishes_257 : decode cL_publishes 257 = .ok (.istore 15, 2) := by decide +kernel
theorem dL_publishes_259 : decode cL_publishes 259 = .ok (.iload 15, 2) := by decide +kernel
theorem dL_publishes_261 : decode cL_publishes 261 = .ok (.aload_n 2, 1) := by decide +kernel
theorem dL_publishes_262 : decode cL_publishes 262 = .ok (.iconst 1, 1) := by decide +kernel
theorem dL_publishes_263 : decode cL_publishes 263 = .ok (.invokevirtual 180, 3) := by decide +kernel
theorem dL_publishes_266 : decode cL_publishes 266 = .ok (.iload 9, 2) := by decide +kernel
theorem dL_publishes_268 : decode cL_publishes 268 = .ok (.iload 13, 2) := by decide +kernel
theorem dL_publishes_270 : decode cL_publishes 270 = .ok (.iadd, 1) := by decide +kernel
theorem dL_publishes_271 : decode cL_publishes 271 = .ok (.if_icmp .ne 35, 3) := by decide +kernel
theorem dL_publishes_274 : decode cL_publishes 274 = .ok (.iload 14, 2) := by decide +kernel
theorem dL_publishes_276 : decode cL_publishes 276 = .ok (.ifCond .ne 26, 3) := by decide +kernel
theorem dL_publishes_279 : decode cL_publishes 279 = .ok (.aload_n 2, 1) := by decide +kernel
theorem dL_publishes_280 : decode cL_publishes 280 = .ok (.iload_n 3, 1) := by decide +kernel
theorem dL_publishes_281 : decode cL_publishes 281 = .ok (.iconst 3, 1) := by decide +kernel
theorem dL_publishes_282 : decode cL_publishes 282 = .ok (.invokevirtual 187, 3) := by decide +kernel
theorem dL_publishes_285 : decode cL_publishes 285 = .ok (.iload 12, 2) := by decide +kernel
theorem dL_publishes_287 : decode cL_publishes 287 = .ok (.iload 4, 2) := by decide +kernel
theorem dL_publishes_289 : decode cL_publishes 289 = .ok (.iconst 2, 1) := by decide +kernel
theorem dL_publishes_290 : decode cL_publishes 290 = .ok (.if_icmp .ne 7, 3) := by decide +kernel
theorem dL_publishes_293 : decode cL_publishes 293 = .ok (.iconst 1, 1) := by decide +kernel
theorem dL_publishes_294 : decode cL_publishes 294 = .ok (.goto 4, 3) := by decide +kernel
theorem dL_publishes_297 : decode cL_publishes 297 = .ok (.iconst 0, 1) := by decide +kernel
theorem dL_publishes_298 : decode cL_publishes 298 = .ok (.iadd, 1) := by decide +kernel
theorem dL_publishes_299 : decode cL_publishes 299 = .ok (.if_icmp .ne 7, 3) := by decide +kernel
theorem dL_publishes_302 : decode cL_publishes 302 = .ok (.iconst 1, 1) := by decide +kernel
theorem dL_publishes_303 : decode cL_publishes 303 = .ok (.goto 4, 3) := by decide +kernel
theorem dL_publishes_306 : decode cL_publishes 306 = .ok (.iconst 0, 1) := by decide +kernel
theorem dL_publishes_307 : decode cL_publishes 307 = .ok (.iand, 1) := by decide +kernel
theorem dL_publishes_308 : decode cL_publishes 308 = .ok (.istore 15, 2) := by decide +kernel
theorem dL_publishes_310 : decode cL_publishes 310 = .ok (.iload 15, 2) := by decide +kernel
theorem dL_publishes_312 : decode cL_publishes 312 = .ok (.ifCond .eq 35, 3) := by decide +kernel
theorem dL_publishes_315 : decode cL_publishes 315 = .ok (.iload 4, 2) := by decide +kernel
theorem dL_publishes_317 : decode cL_publishes 317 = .ok (.iconst 2, 1) := by decide +kernel
theorem dL_publishes_318 : decode cL_publishes 318 = .ok (.if_icmp .lt 25, 3) := by decide +kernel
theorem dL_publishes_321 : decode cL_publishes 321 = .ok (.aload_n 0, 1) := by decide +kernel
theorem dL_publishes_322 : decode cL_publishes 322 = .ok (.iload_n 1, 1) := by decide +kernel
theorem dL_publishes_323 : decode cL_publishes 323 = .ok (.iconst 2, 1) := by decide +kernel
theorem dL_publishes_324 : decode cL_publishes 324 = .ok (.iadd, 1) := by decide +kernel
theorem dL_publishes_325 : decode cL_publishes 325 = .ok (.iconst 2, 1) := by decide +kernel
theorem dL_publishes_326 : decode cL_publishes 326 = .ok (.invokestatic 137, 3) := by decide +kernel
theorem dL_publishes_329 : decode cL_publishes 329 = .ok (.ifCond .eq 14, 3) := by decide +kernel
theorem dL_publishes_332 : decode cL_publishes 332 = .ok (.aload_n 2, 1) := by decide +kernel
theorem dL_publishes_333 : decode cL_publishes 333 = .ok (.iload_n 3, 1) := by decide +kernel
theorem dL_publishes_334 : decode cL_publishes 334 = .ok (.iload 7, 2) := by decide +kernel
theorem dL_publishes_336 : decode cL_publishes 336 = .ok (.invokestatic 201, 3) := by decide +kernel
theorem dL_publishes_339 : decode cL_publishes 339 = .ok (.iconst 1, 1) := by decide +kernel
theorem dL_publishes_340 : decode cL_publishes 340 = .ok (.if_icmp .ne 7, 3) := by decide +kernel
theorem dL_publishes_343 : decode cL_publishes 343 = .ok (.iconst 1, 1) := by decide +kernel
theorem dL_publishes_344 : decode cL_publishes 344 = .ok (.goto 4, 3) := by decide +kernel
theorem dL_publishes_347 : decode cL_publishes 347 = .ok (.iconst 0, 1) := by decide +kernel
theorem dL_publishes_348 : decode cL_publishes 348 = .ok (.ireturn, 1) := by decide +kernel
theorem dL_isSound_0 : decode cL_isSound 0 = .ok (.aload_n 0, 1) := by decide +kernel
theorem dL_isSound_1 : decode cL_isSound 1 = .ok (.invokevirtual 203, 3) := by decide +kernel
theorem dL_isSound_4 : decode cL_isSound 4 = .ok (.bipush 8, 2) := by decide +kernel
theorem dL_isSound_6 : decode cL_isSound 6 = .ok (.if_icmp .gt 15, 3) := by decide +kernel
theorem dL_isSound_9 : decode cL_isSound 9 = .ok (.aload_n 0, 1) := by decide +kernel
theorem dL_isSound_10 : decode cL_isSound 10 = .ok (.invokevirtual 206, 3) := by decide +kernel
theorem dL_isSound_13 : decode cL_isSound 13 = .ok (.iconst (-1), 1) := by decide +kernel
theorem dL_isSound_14 : decode cL_isSound 14 = .ok (.if_icmp .ne 7, 3) := by decide +kernel
theorem dL_isSound_17 : decode cL_isSound 17 = .ok (.iconst 1, 1) := by decide +kernel
theorem dL_isSound_18 : decode cL_isSound 18 = .ok (.goto 4, 3) := by decide +kernel
theorem dL_isSound_21 : decode cL_isSound 21 = .ok (.iconst 0, 1) := by decide +kernel
theorem dL_isSound_22 : decode cL_isSound 22 = .ok (.istore_n 1, 1) := by decide +kernel
theorem dL_isSound_23 : decode cL_isSound 23 = .ok (.iconst 0, 1) := by decide +kernel
theorem dL_isSound_24 : decode cL_isSound 24 = .ok (.istore_n 2, 1) := by decide +kernel
theorem dL_isSound_25 : decode cL_isSound 25 = .ok (.iload_n 2, 1) := by decide +kernel
theorem dL_isSound_26 : decode cL_isSound 26 = .ok (.bipush 6, 2) := by decide +kernel
theorem dL_isSound_28 : decode cL_isSound 28 = .ok (.if_icmp .ge 294, 3) := by decide +kernel
theorem dL_isSound_31 : decode cL_isSound 31 = .ok (.aload_n 0, 1) := by decide +kernel
theorem dL_isSound_32 : decode cL_isSound 32 = .ok (.iload_n 2, 1) := by decide +kernel
theorem dL_isSound_33 : decode cL_isSound 33 = .ok (.invokevirtual 141, 3) := by decide +kernel
theorem dL_isSound_36 : decode cL_isSound 36 = .ok (.istore_n 3, 1) := by decide +kernel
theorem dL_isSound_37 : decode cL_isSound 37 = .ok (.iload_n 1, 1) := by decide +kernel
theorem dL_isSound_38 : decode cL_isSound 38 = .ok (.aload_n 0, 1) := by decide +kernel
theorem dL_isSound_39 : decode cL_isSound 39 = .ok (.iload_n 2, 1) := by decide +kernel
theorem dL_isSound_40 : decode cL_isSound 40 = .ok (.iconst 0, 1) := by decide +kernel
theorem dL_isSound_41 : decode cL_isSound 41 = .ok (.invokevirtual 187, 3) := by decide +kernel
theorem dL_isSound_44 : decode cL_isSound 44 = .ok (.iload_n 3, 1) := by decide +kernel
theorem dL_isSound_45 : decode cL_isSound 45 = .ok (.iconst 1, 1) := by decide +kernel
theorem dL_isSound_46 : decode cL_isSound 46 = .ok (.if_icmp .le 8, 3) := by decide +kernel
theorem dL_isSound_49 : decode cL_isSound 49 = .ok (.bipush 30, 2) := by decide +kernel
theorem dL_isSound_51 : decode cL_isSound 51 = .ok (.goto 4, 3) := by decide +kernel
theorem dL_isSound_54 : decode cL_isSound 54 = .ok (.iconst 0, 1) := by decide +kernel
theorem dL_isSound_55 : decode cL_isSound 55 = .ok (.if_icmp .gt 47, 3) := by decide +kernel
theorem dL_isSound_58 : decode cL_isSound 58 = .ok (.aload_n 0, 1) := by decide +kernel
theorem dL_isSound_59 : decode cL_isSound 59 = .ok (.iload_n 2, 1) := by decide +kernel
theorem dL_isSound_60 : decode cL_isSound 60 = .ok (.iconst 1, 1) := by decide +kernel
theorem dL_isSound_61 : decode cL_isSound 61 = .ok (.invokevirtual 187, 3) := by decide +kernel
theorem dL_isSound_64 : decode cL_isSound 64 = .ok (.iconst 5, 1) := by decide +kernel
theorem dL_isSound_65 : decode cL_isSound 65 = .ok (.if_icmp .gt 37, 3) := by decide +kernel
theorem dL_isSound_68 : decode cL_isSound 68 = .ok (.aload_n 0, 1) := by decide +kernel
theorem dL_isSound_69 : decode cL_isSound 69 = .ok (.iload_n 2, 1) := by decide +kernel
theorem dL_isSound_70 : decode cL_isSound 70 = .ok (.iconst 2, 1) := by decide +kernel
theorem dL_isSound_71 : decode cL_isSound 71 = .ok (.invokevirtual 187, 3) := by decide +kernel
theorem dL_isSound_74 : decode cL_isSound 74 = .ok (.bipush 8, 2) := by decide +kernel
theorem dL_isSound_76 : decode cL_isSound 76 = .ok (.if_icmp .gt 26, 3) := by decide +kernel
theorem dL_isSound_79 : decode cL_isSound 79 = .ok (.aload_n 0, 1) := by decide +kernel
theorem dL_isSound_80 : decode cL_isSound 80 = .ok (.iload_n 2, 1) := by decide +kernel
theorem dL_isSound_81 : decode cL_isSound 81 = .ok (.iconst 4, 1) := by decide +kernel
theorem dL_isSound_82 : decode cL_isSound 82 = .ok (.invokevirtual 187, 3) := by decide +kernel
theorem dL_isSound_85 : decode cL_isSound 85 = .ok (.bipush 6, 2) := by decide +kernel
theorem dL_isSound_87 : decode cL_isSound 87 = .ok (.if_icmp .gt 15, 3) := by decide +kernel
theorem dL_isSound_90 : decode cL_isSound 90 = .ok (.aload_n 0, 1) := by decide +kernel
theorem dL_isSound_91 : decode cL_isSound 91 = .ok (.iload_n 2, 1) := by decide +kernel
theorem dL_isSound_92 : decode cL_isSound 92 = .ok (.invokevirtual 209, 3) := by decide +kernel
theorem dL_isSound_95 : decode cL_isSound 95 = .ok (.ifCond .lt 7, 3) := by decide +kernel
theorem dL_isSound_98 : decode cL_isSound 98 = .ok (.iconst 1, 1) := by decide +kernel
theorem dL_isSound_99 : decode cL_isSound 99 = .ok (.goto 4, 3) := by decide +kernel
theorem dL_isSound_102 : decode cL_isSound 102 = .ok (.iconst 0, 1) := by decide +kernel
theorem dL_isSound_103 : decode cL_isSound 103 = .ok (.iand, 1) := by decide +kernel
theorem dL_isSound_104 : decode cL_isSound 104 = .ok (.istore_n 1, 1) := by decide +kernel
theorem dL_isSound_105 : decode cL_isSound 105 = .ok (.iload_n 1, 1) := by decide +kernel
theorem dL_isSound_106 : decode cL_isSound 106 = .ok (.iload_n 3, 1) := by decide +kernel
theorem dL_isSound_107 : decode cL_isSound 107 = .ok (.ifCond .gt 33, 3) := by decide +kernel
theorem dL_isSound_110 : decode cL_isSound 110 = .ok (.aload_n 0, 1) := by decide +kernel
theorem dL_isSound_111 : decode cL_isSound 111 = .ok (.iload_n 2, 1) := by decide +kernel
theorem dL_isSound_112 : decode cL_isSound 112 = .ok (.iconst 1, 1) := by decide +kernel
theorem dL_isSound_113 : decode cL_isSound 113 = .ok (.invokevirtual 187, 3) := by decide +kernel
theorem dL_isSound_116 : decode cL_isSound 116 = .ok (.aload_n 0, 1) := by decide +kernel
theorem dL_isSound_117 : decode cL_isSound 117 = .ok (.iload_n 2, 1) := by decide +kernel
theorem dL_isSound_118 : decode cL_isSound 118 = .ok (.iconst 2, 1) := by decide +kernel
theorem dL_isSound_119 : decode cL_isSound 119 = .ok (.invokevirtual 187, 3) := by decide +kernel
theorem dL_isSound_122 : decode cL_isSound 122 = .ok (.iadd, 1) := by decide +kernel
theorem dL_isSound_123 : decode cL_isSound 123 = .ok (.aload_n 0, 1) := by decide +kernel
theorem dL_isSound_124 : decode cL_isSound 124 = .ok (.iload_n 2, 1) := by decide +kernel
theorem dL_isSound_125 : decode cL_isSound 125 = .ok (.iconst 3, 1) := by decide +kernel
theorem dL_isSound_126 : decode cL_isSound 126 = .ok (.invokevirtual 187, 3) := by decide +kernel
theorem dL_isSound_129 : decode cL_isSound 129 = .ok (.iadd, 1) := by decide +kernel
theorem dL_isSound_130 : decode cL_isSound 130 = .ok (.aload_n 0, 1) := by decide +kernel
theorem dL_isSound_131 : decode cL_isSound 131 = .ok (.iload_n 2, 1) := by decide +kernel
theorem dL_isSound_132 : decode cL_isSound 132 = .ok (.iconst 4, 1) := by decide +kernel
theorem dL_isSound_133 : decode cL_isSound 133 = .ok (.invokevirtual 187, 3) := by decide +kernel
theorem dL_isSound_136 : decode cL_isSound 136 = .ok (.iadd, 1) := by decide +kernel
theorem dL_isSound_137 : decode cL_isSound 137 = .ok (.ifCond .ne 7, 3) := by decide +kernel
theorem dL_isSound_140 : decode cL_isSound 140 = .ok (.iconst 1, 1) := by decide +kernel
theorem dL_isSound_141 : decode cL_isSound 141 = .ok (.goto 4, 3) := by decide +kernel
theorem dL_isSound_144 : decode cL_isSound 144 = .ok (.iconst 0, 1) := by decide +kernel
theorem dL_isSound_145 : decode cL_isSound 145 = .ok (.iand, 1) := by decide +kernel
theorem dL_isSound_146 : decode cL_isSound 146 = .ok (.istore_n 1, 1) := by decide +kernel
theorem dL_isSound_147 : decode cL_isSound 147 = .ok (.iconst 0, 1) := by decide +kernel
theorem dL_isSound_148 : decode cL_isSound 148 = .ok (.istore 4, 2) := by decide +kernel
theorem dL_isSound_150 : decode cL_isSound 150 = .ok (.iconst 0, 1) := by decide +kernel
theorem dL_isSound_151 : decode cL_isSound 151 = .ok (.istore 5, 2) := by decide +kernel
theorem dL_isSound_153 : decode cL_isSound 153 = .ok (.iload 5, 2) := by decide +kernel
theorem dL_isSound_155 : decode cL_isSound 155 = .ok (.aload_n 0, 1) := by decide +kernel
theorem dL_isSound_156 : decode cL_isSound 156 = .ok (.iload_n 2, 1) := by decide +kernel
theorem dL_isSound_157 : decode cL_isSound 157 = .ok (.iconst 1, 1) := by decide +kernel
theorem dL_isSound_158 : decode cL_isSound 158 = .ok (.invokevirtual 187, 3) := by decide +kernel
theorem dL_isSound_161 : decode cL_isSound 161 = .ok (.if_icmp .ge 139, 3) := by decide +kernel
theorem dL_isSound_164 : decode cL_isSound 164 = .ok (.aload_n 0, 1) := by decide +kernel
theorem dL_isSound_165 : decode cL_isSound 165 = .ok (.iload_n 2, 1) := by decide +kernel
theorem dL_isSound_166 : decode cL_isSound 166 = .ok (.iload 5, 2) := by decide +kernel
theorem dL_isSound_168 : decode cL_isSound 168 = .ok (.iconst 0, 1) := by decide +kernel
theorem dL_isSound_169 : decode cL_isSound 169 = .ok (.invokevirtual 192, 3) := by decide +kernel
theorem dL_isSound_172 : decode cL_isSound 172 = .ok (.istore 6, 2) := by decide +kernel
theorem dL_isSound_174 : decode cL_isSound 174 = .ok (.iconst 0, 1) := by decide +kernel
theorem dL_isSound_175 : decode cL_isSound 175 = .ok (.istore 7, 2) := by decide +kernel
theorem dL_isSound_177 : decode cL_isSound 177 = .ok (.iload 7, 2) := by decide +kernel
theorem dL_isSound_179 : decode cL_isSound 179 = .ok (.iload 5, 2) := by decide +kernel
theorem dL_isSound_181 : decode cL_isSound 181 = .ok (.if_icmp .ge 30, 3) := by decide +kernel
theorem dL_isSound_184 : decode cL_isSound 184 = .ok (.iload_n 1, 1) := by decide +kernel
theorem dL_isSound_185 : decode cL_isSound 185 = .ok (.aload_n 0, 1) := by decide +kernel
theorem dL_isSound_186 : decode cL_isSound 186 = .ok (.iload_n 2, 1) := by decide +kernel
theorem dL_isSound_187 : decode cL_isSound 187 = .ok (.iload 7, 2) := by decide +kernel
theorem dL_isSound_189 : decode cL_isSound 189 = .ok (.iconst 0, 1) := by decide +kernel
theorem dL_isSound_190 : decode cL_isSound 190 = .ok (.invokevirtual 192, 3) := by decide +kernel
theorem dL_isSound_193 : decode cL_isSound 193 = .ok (.iload 6, 2) := by decide +kernel
theorem dL_isSound_195 : decode cL_isSound 195 = .ok (.if_icmp .eq 7, 3) := by decide +kernel
theorem dL_isSound_198 : decode cL_isSound 198 = .ok (.iconst 1, 1) := by decide +kernel
theorem dL_isSound_199 : decode cL_isSound 199 = .ok (.goto 4, 3) := by decide +kernel
theorem dL_isSound_202 : decode cL_isSound 202 = .ok (.iconst 0, 1) := by decide +kernel
theorem dL_isSound_203 : decode cL_isSound 203 = .ok (.iand, 1) := by decide +kernel
theorem dL_isSound_204 : decode cL_isSound 204 = .ok (.istore_n 1, 1) := by decide +kernel
theorem dL_isSound_205 : decode cL_isSound 205 = .ok (.iinc 7 1, 3) := by decide +kernel
theorem dL_isSound_208 : decode cL_isSound 208 = .ok (.goto (-31), 3) := by decide +kernel
theorem dL_isSound_211 : decode cL_isSound 211 = .ok (.iload 4, 2) := by decide +kernel
theorem dL_isSound_213 : decode cL_isSound 213 = .ok (.iload 6, 2) := by decide +kernel
theorem dL_isSound_215 : decode cL_isSound 215 = .ok (.iadd, 1) := by decide +kernel
theorem dL_isSound_216 : decode cL_isSound 216 = .ok (.istore 4, 2) := by decide +kernel
theorem dL_isSound_218 : decode cL_isSound 218 = .ok (.iload_n 1, 1) := by decide +kernel
theorem dL_isSound_219 : decode cL_isSound 219 = .ok (.iload 6, 2) := by decide +kernel
theorem dL_isSound_221 : decode cL_isSound 221 = .ok (.iconst 1, 1) := by decide +kernel
theorem dL_isSound_222 : decode cL_isSound 222 = .ok (.if_icmp .lt 69, 3) := by decide +kernel
theorem dL_isSound_225 : decode cL_isSound 225 = .ok (.iload 6, 2) := by decide +kernel
theorem dL_isSound_227 : decode cL_isSound 227 = .ok (.bipush 50, 2) := by decide +kernel
theorem dL_isSound_229 : decode cL_isSound 229 = .ok (.if_icmp .gt 62, 3) := by decide +kernel
theorem dL_isSound_232 : decode cL_isSound 232 = .ok (.aload_n 0, 1) := by decide +kernel
theorem dL_isSound_233 : decode cL_isSound 233 = .ok (.iload_n 2, 1) := by decide +kernel
theorem dL_isSound_234 : decode cL_isSound 234 = .ok (.iload 5, 2) := by decide +kernel
theorem dL_isSound_236 : decode cL_isSound 236 = .ok (.iconst 1, 1) := by decide +kernel
theorem dL_isSound_237 : decode cL_isSound 237 = .ok (.invokevirtual 192, 3) := by decide +kernel
theorem dL_isSound_240 : decode cL_isSound 240 = .ok (.iconst 1, 1) := by decide +kernel
theorem dL_isSound_241 : decode cL_isSound 241 = .ok (.if_icmp .lt 50, 3) := by decide +kernel
theorem dL_isSound_244 : decode cL_isSound 244 = .ok (.aload_n 0, 1) := by decide +kernel
theorem dL_isSound_245 : decode cL_isSound 245 = .ok (.iload_n 2, 1) := by decide +kernel
theorem dL_isSound_246 : decode cL_isSound 246 = .ok (.iload 5, 2) := by decide +kernel
theorem dL_isSound_248 : decode cL_isSound 248 = .ok (.iconst 3, 1) := by decide +kernel
theorem dL_isSound_249 : decode cL_isSound 249 = .ok (.invokevirtual 192, 3) := by decide +kernel
theorem dL_isSound_252 : decode cL_isSound 252 = .ok (.aload_n 0, 1) := by decide +kernel
theorem dL_isSound_253 : decode cL_isSound 253 = .ok (.iload_n 2, 1) := by decide +kernel
theorem dL_isSound_254 : decode cL_isSound 254 = .ok (.iload 5, 2) := by decide +kernel
theorem dL_isSound_256 : decode cL_isSound 256 = .ok (.iconst 1, 1) := by decide +kernel
theorem dL_isSound_257 : decode cL_isSound 257 = .ok (.invokevirtual 192, 3) := by decide +kernel
theorem dL_isSound_260 : decode cL_isSound 260 = .ok (.if_icmp .eq 27, 3) := by decide +kernel
theorem dL_isSound_263 : decode cL_isSound 263 = .ok (.aload_n 0, 1) := by decide +kernel
theorem dL_isSound_264 : decode cL_isSound 264 = .ok (.iload_n 2, 1) := by decide +kernel
theorem dL_isSound_265 : decode cL_isSound 265 = .ok (.iload 5, 2) := by decide +kernel
theorem dL_isSound_267 : decode cL_isSound 267 = .ok (.iconst 1, 1) := by decide +kernel
theorem dL_isSound_268 : decode cL_isSound 268 = .ok (.invokevirtual 192, 3) := by decide +kernel
theorem dL_isSound_271 : decode cL_isSound 271 = .ok (.iconst 2, 1) := by decide +kernel
theorem dL_isSound_272 : decode cL_isSound 272 = .ok (.if_icmp .ne 19, 3) := by decide +kernel
theorem dL_isSound_275 : decode cL_isSound 275 = .ok (.aload_n 0, 1) := by decide +kernel
theorem dL_isSound_276 : decode cL_isSound 276 = .ok (.iload_n 2, 1) := by decide +kernel
theorem dL_isSound_277 : decode cL_isSound 277 = .ok (.iload 5, 2) := by decide +kernel
theorem dL_isSound_279 : decode cL_isSound 279 = .ok (.iconst 3, 1) := by decide +kernel
theorem dL_isSound_280 : decode cL_isSound 280 = .ok (.invokevirtual 192, 3) := by decide +kernel
theorem dL_isSound_283 : decode cL_isSound 283 = .ok (.iconst 4, 1) := by decide +kernel
theorem dL_isSound_284 : decode cL_isSound 284 = .ok (.if_icmp .ne 7, 3) := by decide +kernel
theorem dL_isSound_287 : decode cL_isSound 287 = .ok (.iconst 1, 1) := by decide +kernel
theorem dL_isSound_288 : decode cL_isSound 288 = .ok (.goto 4, 3) := by decide +kernel
theorem dL_isSound_291 : decode cL_isSound 291 = .ok (.iconst 0, 1) := by decide +kernel
theorem dL_isSound_292 : decode cL_isSound 292 = .ok (.iand, 1) := by decide +kernel
theorem dL_isSound_293 : decode cL_isSound 293 = .ok (.istore_n 1, 1) := by decide +kernel
theorem dL_isSound_294 : decode cL_isSound 294 = .ok (.iinc 5 1, 3) := by decide +kernel
theorem dL_isSound_297 : decode cL_isSound 297 = .ok (.goto (-144), 3) := by decide +kernel
theorem dL_isSound_300 : decode cL_isSound 300 = .ok (.iload_n 1, 1) := by decide +kernel
theorem dL_isSound_301 : decode cL_isSound 301 = .ok (.iload 4, 2) := by decide +kernel
theorem dL_isSound_303 : decode cL_isSound 303 = .ok (.sipush 250, 3) := by decide +kernel
theorem dL_isSound_306 : decode cL_isSound 306 = .ok (.if_icmp .gt 7, 3) := by decide +kernel
theorem dL_isSound_309 : decode cL_isSound 309 = .ok (.iconst 1, 1) := by decide +kernel
theorem dL_isSound_310 : decode cL_isSound 310 = .ok (.goto 4, 3) := by decide +kernel
theorem dL_isSound_313 : decode cL_isSound 313 = .ok (.iconst 0, 1) := by decide +kernel
theorem dL_isSound_314 : decode cL_isSound 314 = .ok (.iand, 1) := by decide +kernel
theorem dL_isSound_315 : decode cL_isSound 315 = .ok (.istore_n 1, 1) := by decide +kernel
theorem dL_isSound_316 : decode cL_isSound 316 = .ok (.iinc 2 1, 3) := by decide +kernel
theorem dL_isSound_319 : decode cL_isSound 319 = .ok (.goto (-294), 3) := by decide +kernel
theorem dL_isSound_322 : decode cL_isSound 322 = .ok (.iconst 0, 1) := by decide +kernel
theorem dL_isSound_323 : decode cL_isSound 323 = .ok (.istore_n 2, 1) := by decide +kernel
theorem dL_isSound_324 : decode cL_isSound 324 = .ok (.iload_n 2, 1) := by decide +kernel
theorem dL_isSound_325 : decode cL_isSound 325 = .ok (.aload_n 0, 1) := by decide +kernel
theorem dL_isSound_326 : decode cL_isSound 326 = .ok (.invokevirtual 203, 3) := by decide +kernel
theorem dL_isSound_329 : decode cL_isSound 329 = .ok (.if_icmp .ge 47, 3) := by decide +kernel
theorem dL_isSound_332 : decode cL_isSound 332 = .ok (.iload_n 1, 1) := by decide +kernel
theorem dL_isSound_333 : decode cL_isSound 333 = .ok (.aload_n 0, 1) := by decide +kernel
theorem dL_isSound_334 : decode cL_isSound 334 = .ok (.iload_n 2, 1) := by decide +kernel
theorem dL_isSound_335 : decode cL_isSound 335 = .ok (.iconst 1, 1) := by decide +kernel
theorem dL_isSound_336 : decode cL_isSound 336 = .ok (.invokevirtual 212, 3) := by decide +kernel
theorem dL_isSound_339 : decode cL_isSound 339 = .ok (.iconst 1, 1) := by decide +kernel
theorem dL_isSound_340 : decode cL_isSound 340 = .ok (.if_icmp .lt 27, 3) := by decide +kernel
theorem dL_isSound_343 : decode cL_isSound 343 = .ok (.aload_n 0, 1) := by decide +kernel
theorem dL_isSound_344 : decode cL_isSound 344 = .ok (.iload_n 2, 1) := by decide +kernel
theorem dL_isSound_345 : decode cL_isSound 345 = .ok (.iconst 2, 1) := by decide +kernel
theorem dL_isSound_346 : decode cL_isSound 346 = .ok (.invokevirtual 212, 3) := by decide +kernel
theorem dL_isSound_349 : decode cL_isSound 349 = .ok (.iconst 1, 1) := by decide +kernel
theorem dL_isSound_350 : decode cL_isSound 350 = .ok (.if_icmp .lt 17, 3) := by decide +kernel
theorem dL_isSound_353 : decode cL_isSound 353 = .ok (.aload_n 0, 1) := by decide +kernel
theorem dL_isSound_354 : decode cL_isSound 354 = .ok (.iload_n 2, 1) := by decide +kernel
theorem dL_isSound_355 : decode cL_isSound 355 = .ok (.iconst 0, 1) := by decide +kernel
theorem dL_isSound_356 : decode cL_isSound 356 = .ok (.invokevirtual 212, 3) := by decide +kernel
theorem dL_isSound_359 : decode cL_isSound 359 = .ok (.iconst 2, 1) := by decide +kernel
theorem dL_isSound_360 : decode cL_isSound 360 = .ok (.if_icmp .gt 7, 3) := by decide +kernel
theorem dL_isSound_363 : decode cL_isSound 363 = .ok (.iconst 1, 1) := by decide +kernel
theorem dL_isSound_364 : decode cL_isSound 364 = .ok (.goto 4, 3) := by decide +kernel
theorem dL_isSound_367 : decode cL_isSound 367 = .ok (.iconst 0, 1) := by decide +kernel
theorem dL_isSound_368 : decode cL_isSound 368 = .ok (.iand, 1) := by decide +kernel
theorem dL_isSound_369 : decode cL_isSound 369 = .ok (.istore_n 1, 1) := by decide +kernel
theorem dL_isSound_370 : decode cL_isSound 370 = .ok (.iinc 2 1, 3) := by decide +kernel
theorem dL_isSound_373 : decode cL_isSound 373 = .ok (.goto (-49), 3) := by decide +kernel
theorem dL_isSound_376 : decode cL_isSound 376 = .ok (.iload_n 1, 1) := by decide +kernel
theorem dL_isSound_377 : decode cL_isSound 377 = .ok (.ireturn, 1) := by decide +kernel
theorem dL_sum_0 : decode cL_sum 0 = .ok (.bipush 7, 2) := by decide +kernel
theorem dL_sum_2 : decode cL_sum 2 = .ok (.istore_n 1, 1) := by decide +kernel
theorem dL_sum_3 : decode cL_sum 3 = .ok (.iconst 0, 1) := by decide +kernel
theorem dL_sum_4 : decode cL_sum 4 = .ok (.istore_n 2, 1) := by decide +kernel
theorem dL_sum_5 : decode cL_sum 5 = .ok (.iload_n 2, 1) := by decide +kernel
theorem dL_sum_6 : decode cL_sum 6 = .ok (.bipush 10, 2) := by decide +kernel
theorem dL_sum_8 : decode cL_sum 8 = .ok (.if_icmp .ge 20, 3) := by decide +kernel
theorem dL_sum_11 : decode cL_sum 11 = .ok (.bipush 31, 2) := by decide +kernel
theorem dL_sum_13 : decode cL_sum 13 = .ok (.iload_n 1, 1) := by decide +kernel
theorem dL_sum_14 : decode cL_sum 14 = .ok (.imul, 1) := by decide +kernel
theorem dL_sum_15 : decode cL_sum 15 = .ok (.aload_n 0, 1) := by decide +kernel
theorem dL_sum_16 : decode cL_sum 16 = .ok (.iload_n 2, 1) := by decide +kernel
theorem dL_sum_17 : decode cL_sum 17 = .ok (.invokevirtual 180, 3) := by decide +kernel
theorem dL_sum_20 : decode cL_sum 20 = .ok (.iadd, 1) := by decide +kernel
theorem dL_sum_21 : decode cL_sum 21 = .ok (.istore_n 1, 1) := by decide +kernel
theorem dL_sum_22 : decode cL_sum 22 = .ok (.iinc 2 1, 3) := by decide +kernel
theorem dL_sum_25 : decode cL_sum 25 = .ok (.goto (-20), 3) := by decide +kernel
theorem dL_sum_28 : decode cL_sum 28 = .ok (.iconst 0, 1) := by decide +kernel
theorem dL_sum_29 : decode cL_sum 29 = .ok (.istore_n 2, 1) := by decide +kernel
theorem dL_sum_30 : decode cL_sum 30 = .ok (.iload_n 2, 1) := by decide +kernel
theorem dL_sum_31 : decode cL_sum 31 = .ok (.bipush 6, 2) := by decide +kernel
theorem dL_sum_33 : decode cL_sum 33 = .ok (.if_icmp .ge 178, 3) := by decide +kernel
theorem dL_sum_36 : decode cL_sum 36 = .ok (.bipush 31, 2) := by decide +kernel
theorem dL_sum_38 : decode cL_sum 38 = .ok (.iload_n 1, 1) := by decide +kernel
theorem dL_sum_39 : decode cL_sum 39 = .ok (.imul, 1) := by decide +kernel
theorem dL_sum_40 : decode cL_sum 40 = .ok (.aload_n 0, 1) := by decide +kernel
theorem dL_sum_41 : decode cL_sum 41 = .ok (.iload_n 2, 1) := by decide +kernel
theorem dL_sum_42 : decode cL_sum 42 = .ok (.invokevirtual 141, 3) := by decide +kernel
theorem dL_sum_45 : decode cL_sum 45 = .ok (.iadd, 1) := by decide +kernel
theorem dL_sum_46 : decode cL_sum 46 = .ok (.iconst 4, 1) := by decide +kernel
theorem dL_sum_47 : decode cL_sum 47 = .ok (.aload_n 0, 1) := by decide +kernel
theorem dL_sum_48 : decode cL_sum 48 = .ok (.iload_n 2, 1) := by decide +kernel
theorem dL_sum_49 : decode cL_sum 49 = .ok (.invokevirtual 209, 3) := by decide +kernel
theorem dL_sum_52 : decode cL_sum 52 = .ok (.imul, 1) := by decide +kernel
theorem dL_sum_53 : decode cL_sum 53 = .ok (.iadd, 1) := by decide +kernel
theorem dL_sum_54 : decode cL_sum 54 = .ok (.istore_n 1, 1) := by decide +kernel
theorem dL_sum_55 : decode cL_sum 55 = .ok (.iconst 0, 1) := by decide +kernel
theorem dL_sum_56 : decode cL_sum 56 = .ok (.istore_n 3, 1) := by decide +kernel
theorem dL_sum_57 : decode cL_sum 57 = .ok (.iload_n 3, 1) := by decide +kernel
theorem dL_sum_58 : decode cL_sum 58 = .ok (.iconst 5, 1) := by decide +kernel
theorem dL_sum_59 : decode cL_sum 59 = .ok (.if_icmp .ge 21, 3) := by decide +kernel
theorem dL_sum_62 : decode cL_sum 62 = .ok (.bipush 31, 2) := by decide +kernel
theorem dL_sum_64 : decode cL_sum 64 = .ok (.iload_n 1, 1) := by decide +kernel
theorem dL_sum_65 : decode cL_sum 65 = .ok (.imul, 1) := by decide +kernel
theorem dL_sum_66 : decode cL_sum 66 = .ok (.aload_n 0, 1) := by decide +kernel
theorem dL_sum_67 : decode cL_sum 67 = .ok (.iload_n 2, 1) := by decide +kernel
theorem dL_sum_68 : decode cL_sum 68 = .ok (.iload_n 3, 1) := by decide +kernel
theorem dL_sum_69 : decode cL_sum 69 = .ok (.invokevirtual 187, 3) := by decide +kernel
theorem dL_sum_72 : decode cL_sum 72 = .ok (.iadd, 1) := by decide +kernel
theorem dL_sum_73 : decode cL_sum 73 = .ok (.istore_n 1, 1) := by decide +kernel
theorem dL_sum_74 : decode cL_sum 74 = .ok (.iinc 3 1, 3) := by decide +kernel
theorem dL_sum_77 : decode cL_sum 77 = .ok (.goto (-20), 3) := by decide +kernel
theorem dL_sum_80 : decode cL_sum 80 = .ok (.iconst 0, 1) := by decide +kernel
theorem dL_sum_81 : decode cL_sum 81 = .ok (.istore_n 3, 1) := by decide +kernel
theorem dL_sum_82 : decode cL_sum 82 = .ok (.iload_n 3, 1) := by decide +kernel
theorem dL_sum_83 : decode cL_sum 83 = .ok (.aload_n 0, 1) := by decide +kernel
theorem dL_sum_84 : decode cL_sum 84 = .ok (.iload_n 2, 1) := by decide +kernel
theorem dL_sum_85 : decode cL_sum 85 = .ok (.iconst 1, 1) := by decide +kernel
theorem dL_sum_86 : decode cL_sum 86 = .ok (.invokevirtual 187, 3) := by decide +kernel
theorem dL_sum_89 : decode cL_sum 89 = .ok (.if_icmp .ge 52, 3) := by decide +kernel
theorem dL_sum_92 : decode cL_sum 92 = .ok (.bipush 31, 2) := by decide +kernel
theorem dL_sum_94 : decode cL_sum 94 = .ok (.iload_n 1, 1) := by decide +kernel
theorem dL_sum_95 : decode cL_sum 95 = .ok (.imul, 1) := by decide +kernel
theorem dL_sum_96 : decode cL_sum 96 = .ok (.aload_n 0, 1) := by decide +kernel
theorem dL_sum_97 : decode cL_sum 97 = .ok (.iload_n 2, 1) := by decide +kernel
theorem dL_sum_98 : decode cL_sum 98 = .ok (.iload_n 3, 1) := by decide +kernel
theorem dL_sum_99 : decode cL_sum 99 = .ok (.iconst 0, 1) := by decide +kernel
theorem dL_sum_100 : decode cL_sum 100 = .ok (.invokevirtual 192, 3) := by decide +kernel
theorem dL_sum_103 : decode cL_sum 103 = .ok (.iadd, 1) := by decide +kernel
theorem dL_sum_104 : decode cL_sum 104 = .ok (.bipush 60, 2) := by decide +kernel
theorem dL_sum_106 : decode cL_sum 106 = .ok (.aload_n 0, 1) := by decide +kernel
theorem dL_sum_107 : decode cL_sum 107 = .ok (.iload_n 2, 1) := by decide +kernel
theorem dL_sum_108 : decode cL_sum 108 = .ok (.iload_n 3, 1) := by decide +kernel
theorem dL_sum_109 : decode cL_sum 109 = .ok (.iconst 2, 1) := by decide +kernel
theorem dL_sum_110 : decode cL_sum 110 = .ok (.invokevirtual 192, 3) := by decide +kernel
theorem dL_sum_113 : decode cL_sum 113 = .ok (.imul, 1) := by decide +kernel
theorem dL_sum_114 : decode cL_sum 114 = .ok (.iadd, 1) := by decide +kernel
theorem dL_sum_115 : decode cL_sum 115 = .ok (.aload_n 0, 1) := by decide +kernel
theorem dL_sum_116 : decode cL_sum 116 = .ok (.iload_n 2, 1) := by decide +kernel
theorem dL_sum_117 : decode cL_sum 117 = .ok (.iload_n 3, 1) := by decide +kernel
theorem dL_sum_118 : decode cL_sum 118 = .ok (.iconst 3, 1) := by decide +kernel
theorem dL_sum_119 : decode cL_sum 119 = .ok (.invokevirtual 192, 3) := by decide +kernel
theorem dL_sum_122 : decode cL_sum 122 = .ok (.iadd, 1) := by decide +kernel
theorem dL_sum_123 : decode cL_sum 123 = .ok (.bipush 7, 2) := by decide +kernel
theorem dL_sum_125 : decode cL_sum 125 = .ok (.aload_n 0, 1) := by decide +kernel
theorem dL_sum_126 : decode cL_sum 126 = .ok (.iload_n 2, 1) := by decide +kernel
theorem dL_sum_127 : decode cL_sum 127 = .ok (.iload_n 3, 1) := by decide +kernel
theorem dL_sum_128 : decode cL_sum 128 = .ok (.iconst 4, 1) := by decide +kernel
theorem dL_sum_129 : decode cL_sum 129 = .ok (.invokevirtual 192, 3) := by decide +kernel
theorem dL_sum_132 : decode cL_sum 132 = .ok (.imul, 1) := by decide +kernel
theorem dL_sum_133 : decode cL_sum 133 = .ok (.iadd, 1) := by decide +kernel
theorem dL_sum_134 : decode cL_sum 134 = .ok (.istore_n 1, 1) := by decide +kernel
theorem dL_sum_135 : decode cL_sum 135 = .ok (.iinc 3 1, 3) := by decide +kernel
theorem dL_sum_138 : decode cL_sum 138 = .ok (.goto (-56), 3) := by decide +kernel
theorem dL_sum_141 : decode cL_sum 141 = .ok (.iconst 0, 1) := by decide +kernel
theorem dL_sum_142 : decode cL_sum 142 = .ok (.istore_n 3, 1) := by decide +kernel
theorem dL_sum_143 : decode cL_sum 143 = .ok (.iload_n 3, 1) := by decide +kernel
theorem dL_sum_144 : decode cL_sum 144 = .ok (.aload_n 0, 1) := by decide +kernel
theorem dL_sum_145 : decode cL_sum 145 = .ok (.iload_n 2, 1) := by decide +kernel
theorem dL_sum_146 : decode cL_sum 146 = .ok (.iconst 4, 1) := by decide +kernel
theorem dL_sum_147 : decode cL_sum 147 = .ok (.invokevirtual 187, 3) := by decide +kernel
theorem dL_sum_150 : decode cL_sum 150 = .ok (.if_icmp .ge 55, 3) := by decide +kernel
theorem dL_sum_153 : decode cL_sum 153 = .ok (.bipush 31, 2) := by decide +kernel
theorem dL_sum_155 : decode cL_sum 155 = .ok (.iload_n 1, 1) := by decide +kernel
theorem dL_sum_156 : decode cL_sum 156 = .ok (.imul, 1) := by decide +kernel
theorem dL_sum_157 : decode cL_sum 157 = .ok (.aload_n 0, 1) := by decide +kernel
theorem dL_sum_158 : decode cL_sum 158 = .ok (.iload_n 2, 1) := by decide +kernel
theorem dL_sum_159 : decode cL_sum 159 = .ok (.iload_n 3, 1) := by decide +kernel
theorem dL_sum_160 : decode cL_sum 160 = .ok (.iconst 0, 1) := by decide +kernel
theorem dL_sum_161 : decode cL_sum 161 = .ok (.invokevirtual 215, 3) := by decide +kernel
theorem dL_sum_164 : decode cL_sum 164 = .ok (.iadd, 1) := by decide +kernel
theorem dL_sum_165 : decode cL_sum 165 = .ok (.iconst 5, 1) := by decide +kernel
theorem dL_sum_166 : decode cL_sum 166 = .ok (.aload_n 0, 1) := by decide +kernel
theorem dL_sum_167 : decode cL_sum 167 = .ok (.iload_n 2, 1) := by decide +kernel
theorem dL_sum_168 : decode cL_sum 168 = .ok (.iload_n 3, 1) := by decide +kernel
theorem dL_sum_169 : decode cL_sum 169 = .ok (.iconst 1, 1) := by decide +kernel
theorem dL_sum_170 : decode cL_sum 170 = .ok (.invokevirtual 215, 3) := by decide +kernel
theorem dL_sum_173 : decode cL_sum 173 = .ok (.imul, 1) := by decide +kernel
theorem dL_sum_174 : decode cL_sum 174 = .ok (.iadd, 1) := by decide +kernel
theorem dL_sum_175 : decode cL_sum 175 = .ok (.bipush 25, 2) := by decide +kernel
theorem dL_sum_177 : decode cL_sum 177 = .ok (.aload_n 0, 1) := by decide +kernel
theorem dL_sum_178 : decode cL_sum 178 = .ok (.iload_n 2, 1) := by decide +kernel
theorem dL_sum_179 : decode cL_sum 179 = .ok (.iload_n 3, 1) := by decide +kernel
theorem dL_sum_180 : decode cL_sum 180 = .ok (.iconst 2, 1) := by decide +kernel
theorem dL_sum_181 : decode cL_sum 181 = .ok (.invokevirtual 215, 3) := by decide +kernel
theorem dL_sum_184 : decode cL_sum 184 = .ok (.imul, 1) := by decide +kernel
theorem dL_sum_185 : decode cL_sum 185 = .ok (.iadd, 1) := by decide +kernel
theorem dL_sum_186 : decode cL_sum 186 = .ok (.sipush 300, 3) := by decide +kernel
theorem dL_sum_189 : decode cL_sum 189 = .ok (.aload_n 0, 1) := by decide +kernel
theorem dL_sum_190 : decode cL_sum 190 = .ok (.iload_n 2, 1) := by decide +kernel
theorem dL_sum_191 : decode cL_sum 191 = .ok (.iload_n 3, 1) := by decide +kernel
theorem dL_sum_192 : decode cL_sum 192 = .ok (.iconst 3, 1) := by decide +kernel
theorem dL_sum_193 : decode cL_sum 193 = .ok (.invokevirtual 215, 3) := by decide +kernel
theorem dL_sum_196 : decode cL_sum 196 = .ok (.imul, 1) := by decide +kernel
theorem dL_sum_197 : decode cL_sum 197 = .ok (.iadd, 1) := by decide +kernel
theorem dL_sum_198 : decode cL_sum 198 = .ok (.istore_n 1, 1) := by decide +kernel
theorem dL_sum_199 : decode cL_sum 199 = .ok (.iinc 3 1, 3) := by decide +kernel
theorem dL_sum_202 : decode cL_sum 202 = .ok (.goto (-59), 3) := by decide +kernel
theorem dL_sum_205 : decode cL_sum 205 = .ok (.iinc 2 1, 3) := by decide +kernel
theorem dL_sum_208 : decode cL_sum 208 = .ok (.goto (-178), 3) := by decide +kernel
theorem dL_sum_211 : decode cL_sum 211 = .ok (.iconst 0, 1) := by decide +kernel
theorem dL_sum_212 : decode cL_sum 212 = .ok (.istore_n 2, 1) := by decide +kernel
theorem dL_sum_213 : decode cL_sum 213 = .ok (.iload_n 2, 1) := by decide +kernel
theorem dL_sum_214 : decode cL_sum 214 = .ok (.aload_n 0, 1) := by decide +kernel
theorem dL_sum_215 : decode cL_sum 215 = .ok (.invokevirtual 203, 3) := by decide +kernel
theorem dL_sum_218 : decode cL_sum 218 = .ok (.if_icmp .ge 40, 3) := by decide +kernel
theorem dL_sum_221 : decode cL_sum 221 = .ok (.bipush 31, 2) := by decide +kernel
theorem dL_sum_223 : decode cL_sum 223 = .ok (.iload_n 1, 1) := by decide +kernel
theorem dL_sum_224 : decode cL_sum 224 = .ok (.imul, 1) := by decide +kernel
theorem dL_sum_225 : decode cL_sum 225 = .ok (.aload_n 0, 1) := by decide +kernel
theorem dL_sum_226 : decode cL_sum 226 = .ok (.iload_n 2, 1) := by decide +kernel
theorem dL_sum_227 : decode cL_sum 227 = .ok (.iconst 0, 1) := by decide +kernel
theorem dL_sum_228 : decode cL_sum 228 = .ok (.invokevirtual 212, 3) := by decide +kernel
theorem dL_sum_231 : decode cL_sum 231 = .ok (.iadd, 1) := by decide +kernel
theorem dL_sum_232 : decode cL_sum 232 = .ok (.iconst 3, 1) := by decide +kernel
theorem dL_sum_233 : decode cL_sum 233 = .ok (.aload_n 0, 1) := by decide +kernel
theorem dL_sum_234 : decode cL_sum 234 = .ok (.iload_n 2, 1) := by decide +kernel
theorem dL_sum_235 : decode cL_sum 235 = .ok (.iconst 1, 1) := by decide +kernel
theorem dL_sum_236 : decode cL_sum 236 = .ok (.invokevirtual 212, 3) := by decide +kernel
theorem dL_sum_239 : decode cL_sum 239 = .ok (.imul, 1) := by decide +kernel
theorem dL_sum_240 : decode cL_sum 240 = .ok (.iadd, 1) := by decide +kernel
theorem dL_sum_241 : decode cL_sum 241 = .ok (.ldc 218, 2) := by decide +kernel
theorem dL_sum_243 : decode cL_sum 243 = .ok (.aload_n 0, 1) := by decide +kernel
theorem dL_sum_244 : decode cL_sum 244 = .ok (.iload_n 2, 1) := by decide +kernel
theorem dL_sum_245 : decode cL_sum 245 = .ok (.iconst 2, 1) := by decide +kernel
theorem dL_sum_246 : decode cL_sum 246 = .ok (.invokevirtual 212, 3) := by decide +kernel
theorem dL_sum_249 : decode cL_sum 249 = .ok (.imul, 1) := by decide +kernel
theorem dL_sum_250 : decode cL_sum 250 = .ok (.iadd, 1) := by decide +kernel
theorem dL_sum_251 : decode cL_sum 251 = .ok (.istore_n 1, 1) := by decide +kernel
theorem dL_sum_252 : decode cL_sum 252 = .ok (.iinc 2 1, 3) := by decide +kernel
theorem dL_sum_255 : decode cL_sum 255 = .ok (.goto (-42), 3) := by decide +kernel
theorem dL_sum_258 : decode cL_sum 258 = .ok (.iload_n 1, 1) := by decide +kernel
theorem dL_sum_259 : decode cL_sum 259 = .ok (.ireturn, 1) := by decide +kernel
theorem dL_areRefused_0 : decode cL_areRefused 0 = .ok (.aload_n 0, 1) := by decide +kernel
theorem dL_areRefused_1 : decode cL_areRefused 1 = .ok (.invokestatic 219, 3) := by decide +kernel
theorem dL_areRefused_4 : decode cL_areRefused 4 = .ok (.istore_n 1, 1) := by decide +kernel
theorem dL_areRefused_5 : decode cL_areRefused 5 = .ok (.aload_n 0, 1) := by decide +kernel
theorem dL_areRefused_6 : decode cL_areRefused 6 = .ok (.ldc 222, 2) := by decide +kernel
theorem dL_areRefused_8 : decode cL_areRefused 8 = .ok (.invokestatic 66, 3) := by decide +kernel
theorem dL_areRefused_11 : decode cL_areRefused 11 = .ok (.ifCond .eq 56, 3) := by decide +kernel
theorem dL_areRefused_14 : decode cL_areRefused 14 = .ok (.aload_n 0, 1) := by decide +kernel
theorem dL_areRefused_15 : decode cL_areRefused 15 = .ok (.bipush 6, 2) := by decide +kernel
theorem dL_areRefused_17 : decode cL_areRefused 17 = .ok (.iconst 0, 1) := by decide +kernel
theorem dL_areRefused_18 : decode cL_areRefused 18 = .ok (.iconst 0, 1) := by decide +kernel
theorem dL_areRefused_19 : decode cL_areRefused 19 = .ok (.iconst 0, 1) := by decide +kernel
theorem dL_areRefused_20 : decode cL_areRefused 20 = .ok (.invokestatic 70, 3) := by decide +kernel
theorem dL_areRefused_23 : decode cL_areRefused 23 = .ok (.iconst (-1), 1) := by decide +kernel
theorem dL_areRefused_24 : decode cL_areRefused 24 = .ok (.if_icmp .ne 43, 3) := by decide +kernel
theorem dL_areRefused_27 : decode cL_areRefused 27 = .ok (.aload_n 0, 1) := by decide +kernel
theorem dL_areRefused_28 : decode cL_areRefused 28 = .ok (.ldc 222, 2) := by decide +kernel
theorem dL_areRefused_30 : decode cL_areRefused 30 = .ok (.iconst 5, 1) := by decide +kernel
theorem dL_areRefused_31 : decode cL_areRefused 31 = .ok (.iconst 1, 1) := by decide +kernel
theorem dL_areRefused_32 : decode cL_areRefused 32 = .ok (.iconst 1, 1) := by decide +kernel
theorem dL_areRefused_33 : decode cL_areRefused 33 = .ok (.iconst 1, 1) := by decide +kernel
theorem dL_areRefused_34 : decode cL_areRefused 34 = .ok (.iconst 5, 1) := by decide +kernel
theorem dL_areRefused_35 : decode cL_areRefused 35 = .ok (.invokestatic 197, 3) := by decide +kernel
theorem dL_areRefused_38 : decode cL_areRefused 38 = .ok (.bipush (-3), 2) := by decide +kernel
theorem dL_areRefused_40 : decode cL_areRefused 40 = .ok (.if_icmp .ne 27, 3) := by decide +kernel
theorem dL_areRefused_43 : decode cL_areRefused 43 = .ok (.aload_n 0, 1) := by decide +kernel
theorem dL_areRefused_44 : decode cL_areRefused 44 = .ok (.bipush 6, 2) := by decide +kernel
theorem dL_areRefused_46 : decode cL_areRefused 46 = .ok (.invokestatic 159, 3) := by decide +kernel
theorem dL_areRefused_49 : decode cL_areRefused 49 = .ok (.iconst (-1), 1) := by decide +kernel
theorem dL_areRefused_50 : decode cL_areRefused 50 = .ok (.if_icmp .ne 17, 3) := by decide +kernel
theorem dL_areRefused_53 : decode cL_areRefused 53 = .ok (.aload_n 0, 1) := by decide +kernel
theorem dL_areRefused_54 : decode cL_areRefused 54 = .ok (.iconst 5, 1) := by decide +kernel
theorem dL_areRefused_55 : decode cL_areRefused 55 = .ok (.invokestatic 159, 3) := by decide +kernel
theorem dL_areRefused_58 : decode cL_areRefused 58 = .ok (.bipush (-2), 2) := by decide +kernel
theorem dL_areRefused_60 : decode cL_areRefused 60 = .ok (.if_icmp .ne 7, 3) := by decide +kernel
theorem dL_areRefused_63 : decode cL_areRefused 63 = .ok (.iconst 1, 1) := by decide +kernel
theorem dL_areRefused_64 : decode cL_areRefused 64 = .ok (.goto 4, 3) := by decide +kernel
theorem dL_areRefused_67 : decode cL_areRefused 67 = .ok (.iconst 0, 1) := by decide +kernel
theorem dL_areRefused_68 : decode cL_areRefused 68 = .ok (.istore_n 2, 1) := by decide +kernel
theorem dL_areRefused_69 : decode cL_areRefused 69 = .ok (.iload_n 2, 1) := by decide +kernel
theorem dL_areRefused_70 : decode cL_areRefused 70 = .ok (.aload_n 0, 1) := by decide +kernel
theorem dL_areRefused_71 : decode cL_areRefused 71 = .ok (.ldc 222, 2) := by decide +kernel
theorem dL_areRefused_73 : decode cL_areRefused 73 = .ok (.invokestatic 66, 3) := by decide +kernel
theorem dL_areRefused_76 : decode cL_areRefused 76 = .ok (.ifCond .eq 64, 3) := by decide +kernel
theorem dL_areRefused_79 : decode cL_areRefused 79 = .ok (.aload_n 0, 1) := by decide +kernel
theorem dL_areRefused_80 : decode cL_areRefused 80 = .ok (.iconst 0, 1) := by decide +kernel
theorem dL_areRefused_81 : decode cL_areRefused 81 = .ok (.iconst 0, 1) := by decide +kernel
theorem dL_areRefused_82 : decode cL_areRefused 82 = .ok (.iconst 1, 1) := by decide +kernel
theorem dL_areRefused_83 : decode cL_areRefused 83 = .ok (.iconst 1, 1) := by decide +kernel
theorem dL_areRefused_84 : decode cL_areRefused 84 = .ok (.invokestatic 70, 3) := by decide +kernel
theorem dL_areRefused_87 : decode cL_areRefused 87 = .ok (.bipush (-2), 2) := by decide +kernel
theorem dL_areRefused_89 : decode cL_areRefused 89 = .ok (.if_icmp .ne 51, 3) := by decide +kernel
theorem dL_areRefused_92 : decode cL_areRefused 92 = .ok (.aload_n 0, 1) := by decide +kernel
theorem dL_areRefused_93 : decode cL_areRefused 93 = .ok (.iconst 0, 1) := by decide +kernel
theorem dL_areRefused_94 : decode cL_areRefused 94 = .ok (.iconst 3, 1) := by decide +kernel
theorem dL_areRefused_95 : decode cL_areRefused 95 = .ok (.iconst 1, 1) := by decide +kernel
theorem dL_areRefused_96 : decode cL_areRefused 96 = .ok (.invokestatic 189, 3) := by decide +kernel
theorem dL_areRefused_99 : decode cL_areRefused 99 = .ok (.bipush (-2), 2) := by decide +kernel
theorem dL_areRefused_101 : decode cL_areRefused 101 = .ok (.if_icmp .ne 39, 3) := by decide +kernel
theorem dL_areRefused_104 : decode cL_areRefused 104 = .ok (.aload_n 0, 1) := by decide +kernel
theorem dL_areRefused_105 : decode cL_areRefused 105 = .ok (.iconst 0, 1) := by decide +kernel
theorem dL_areRefused_106 : decode cL_areRefused 106 = .ok (.iconst 0, 1) := by decide +kernel
theorem dL_areRefused_107 : decode cL_areRefused 107 = .ok (.invokestatic 162, 3) := by decide +kernel
theorem dL_areRefused_110 : decode cL_areRefused 110 = .ok (.bipush (-2), 2) := by decide +kernel
theorem dL_areRefused_112 : decode cL_areRefused 112 = .ok (.if_icmp .ne 28, 3) := by decide +kernel
theorem dL_areRefused_115 : decode cL_areRefused 115 = .ok (.aload_n 0, 1) := by decide +kernel
theorem dL_areRefused_116 : decode cL_areRefused 116 = .ok (.bipush 6, 2) := by decide +kernel
theorem dL_areRefused_118 : decode cL_areRefused 118 = .ok (.invokestatic 76, 3) := by decide +kernel
theorem dL_areRefused_121 : decode cL_areRefused 121 = .ok (.bipush (-8), 2) := by decide +kernel
theorem dL_areRefused_123 : decode cL_areRefused 123 = .ok (.if_icmp .ne 17, 3) := by decide +kernel
theorem dL_areRefused_126 : decode cL_areRefused 126 = .ok (.aload_n 0, 1) := by decide +kernel
theorem dL_areRefused_127 : decode cL_areRefused 127 = .ok (.iconst 5, 1) := by decide +kernel
theorem dL_areRefused_128 : decode cL_areRefused 128 = .ok (.invokestatic 76, 3) := by decide +kernel
theorem dL_areRefused_131 : decode cL_areRefused 131 = .ok (.bipush (-9), 2) := by decide +kernel
theorem dL_areRefused_133 : decode cL_areRefused 133 = .ok (.if_icmp .ne 7, 3) := by decide +kernel
theorem dL_areRefused_136 : decode cL_areRefused 136 = .ok (.iconst 1, 1) := by decide +kernel
theorem dL_areRefused_137 : decode cL_areRefused 137 = .ok (.goto 4, 3) := by decide +kernel
theorem dL_areRefused_140 : decode cL_areRefused 140 = .ok (.iconst 0, 1) := by decide +kernel
theorem dL_areRefused_141 : decode cL_areRefused 141 = .ok (.iand, 1) := by decide +kernel
theorem dL_areRefused_142 : decode cL_areRefused 142 = .ok (.istore_n 2, 1) := by decide +kernel
theorem dL_areRefused_143 : decode cL_areRefused 143 = .ok (.iload_n 2, 1) := by decide +kernel
theorem dL_areRefused_144 : decode cL_areRefused 144 = .ok (.ifCond .eq 15, 3) := by decide +kernel
theorem dL_areRefused_147 : decode cL_areRefused 147 = .ok (.aload_n 0, 1) := by decide +kernel
theorem dL_areRefused_148 : decode cL_areRefused 148 = .ok (.invokestatic 219, 3) := by decide +kernel
theorem dL_areRefused_151 : decode cL_areRefused 151 = .ok (.iload_n 1, 1) := by decide +kernel
theorem dL_areRefused_152 : decode cL_areRefused 152 = .ok (.if_icmp .ne 7, 3) := by decide +kernel
theorem dL_areRefused_155 : decode cL_areRefused 155 = .ok (.iconst 1, 1) := by decide +kernel
theorem dL_areRefused_156 : decode cL_areRefused 156 = .ok (.goto 4, 3) := by decide +kernel
theorem dL_areRefused_159 : decode cL_areRefused 159 = .ok (.iconst 0, 1) := by decide +kernel
theorem dL_areRefused_160 : decode cL_areRefused 160 = .ok (.ireturn, 1) := by decide +kernel
theorem dL_isKept_0 : decode cL_isKept 0 = .ok (.aload_n 2, 1) := by decide +kernel
theorem dL_isKept_1 : decode cL_isKept 1 = .ok (.invokevirtual 224, 3) := by decide +kernel
theorem dL_isKept_4 : decode cL_isKept 4 = .ok (.istore_n 3, 1) := by decide +kernel
theorem dL_isKept_5 : decode cL_isKept 5 = .ok (.aload_n 2, 1) := by decide +kernel
theorem dL_isKept_6 : decode cL_isKept 6 = .ok (.invokestatic 219, 3) := by decide +kernel
theorem dL_isKept_9 : decode cL_isKept 9 = .ok (.istore 4, 2) := by decide +kernel
theorem dL_isKept_11 : decode cL_isKept 11 = .ok (.iconst 1, 1) := by decide +kernel
theorem dL_isKept_12 : decode cL_isKept 12 = .ok (.istore 5, 2) := by decide +kernel
theorem dL_isKept_14 : decode cL_isKept 14 = .ok (.iconst 0, 1) := by decide +kernel
theorem dL_isKept_15 : decode cL_isKept 15 = .ok (.istore 6, 2) := by decide +kernel
theorem dL_isKept_17 : decode cL_isKept 17 = .ok (.iload 6, 2) := by decide +kernel
theorem dL_isKept_19 : decode cL_isKept 19 = .ok (.iconst 5, 1) := by decide +kernel
theorem dL_isKept_20 : decode cL_isKept 20 = .ok (.if_icmp .ge 28, 3) := by decide +kernel
theorem dL_isKept_23 : decode cL_isKept 23 = .ok (.iload 5, 2) := by decide +kernel
theorem dL_isKept_25 : decode cL_isKept 25 = .ok (.aload_n 0, 1) := by decide +kernel
theorem dL_isKept_26 : decode cL_isKept 26 = .ok (.iload_n 1, 1) := by decide +kernel
theorem dL_isKept_27 : decode cL_isKept 27 = .ok (.bipush 6, 2) := by decide +kernel
theorem dL_isKept_29 : decode cL_isKept 29 = .ok (.iload 6, 2) := by decide +kernel
theorem dL_isKept_31 : decode cL_isKept 31 = .ok (.imul, 1) := by decide +kernel
theorem dL_isKept_32 : decode cL_isKept 32 = .ok (.iadd, 1) := by decide +kernel
theorem dL_isKept_33 : decode cL_isKept 33 = .ok (.iconst 3, 1) := by decide +kernel
theorem dL_isKept_34 : decode cL_isKept 34 = .ok (.iadd, 1) := by decide +kernel
theorem dL_isKept_35 : decode cL_isKept 35 = .ok (.aload_n 2, 1) := by decide +kernel
theorem dL_isKept_36 : decode cL_isKept 36 = .ok (.invokestatic 123, 3) := by decide +kernel
theorem dL_isKept_39 : decode cL_isKept 39 = .ok (.iand, 1) := by decide +kernel
theorem dL_isKept_40 : decode cL_isKept 40 = .ok (.istore 5, 2) := by decide +kernel
theorem dL_isKept_42 : decode cL_isKept 42 = .ok (.iinc 6 1, 3) := by decide +kernel
theorem dL_isKept_45 : decode cL_isKept 45 = .ok (.goto (-28), 3) := by decide +kernel
theorem dL_isKept_48 : decode cL_isKept 48 = .ok (.iload 5, 2) := by decide +kernel
theorem dL_isKept_50 : decode cL_isKept 50 = .ok (.ifCond .eq 35, 3) := by decide +kernel
theorem dL_isKept_53 : decode cL_isKept 53 = .ok (.aload_n 2, 1) := by decide +kernel
theorem dL_isKept_54 : decode cL_isKept 54 = .ok (.invokestatic 120, 3) := by decide +kernel
theorem dL_isKept_57 : decode cL_isKept 57 = .ok (.iload_n 3, 1) := by decide +kernel
theorem dL_isKept_58 : decode cL_isKept 58 = .ok (.if_icmp .ne 27, 3) := by decide +kernel
theorem dL_isKept_61 : decode cL_isKept 61 = .ok (.aload_n 2, 1) := by decide +kernel
theorem dL_isKept_62 : decode cL_isKept 62 = .ok (.invokestatic 219, 3) := by decide +kernel
theorem dL_isKept_65 : decode cL_isKept 65 = .ok (.iload 4, 2) := by decide +kernel
theorem dL_isKept_67 : decode cL_isKept 67 = .ok (.if_icmp .ne 18, 3) := by decide +kernel
theorem dL_isKept_70 : decode cL_isKept 70 = .ok (.aload_n 2, 1) := by decide +kernel
theorem dL_isKept_71 : decode cL_isKept 71 = .ok (.iconst 1, 1) := by decide +kernel
theorem dL_isKept_72 : decode cL_isKept 72 = .ok (.invokevirtual 173, 3) := by decide +kernel
theorem dL_isKept_75 : decode cL_isKept 75 = .ok (.iload_n 3, 1) := by decide +kernel
theorem dL_isKept_76 : decode cL_isKept 76 = .ok (.iconst 1, 1) := by decide +kernel
theorem dL_isKept_77 : decode cL_isKept 77 = .ok (.iadd, 1) := by decide +kernel
theorem dL_isKept_78 : decode cL_isKept 78 = .ok (.if_icmp .ne 7, 3) := by decide +kernel
theorem dL_isKept_81 : decode cL_isKept 81 = .ok (.iconst 1, 1) := by decide +kernel
theorem dL_isKept_82 : decode cL_isKept 82 = .ok (.goto 4, 3) := by decide +kernel
theorem dL_isKept_85 : decode cL_isKept 85 = .ok (.iconst 0, 1) := by decide +kernel
theorem dL_isKept_86 : decode cL_isKept 86 = .ok (.ireturn, 1) := by decide +kernel
