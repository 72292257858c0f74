theorem dX11_topicCharacter_43 : decode cX11_topicCharacter 43 = .ok (.athrow, 1) := by decide +kernel
theorem dX11_topicCharacter_44 : decode cX11_topicCharacter 44 = .ok (.aload_n 2, 1) := by decide +kernel
theorem dX11_topicCharacter_45 : decode cX11_topicCharacter 45 = .ok (.iload_n 1, 1) := by decide +kernel
theorem dX11_topicCharacter_46 : decode cX11_topicCharacter 46 = .ok (.caload, 1) := by decide +kernel
theorem dX11_topicCharacter_47 : decode cX11_topicCharacter 47 = .ok (.ireturn, 1) := by decide +kernel
theorem dX11_lose_0 : decode cX11_lose 0 = .ok (.iload_n 1, 1) := by decide +kernel
theorem dX11_lose_1 : decode cX11_lose 1 = .ok (.invokestatic 73, 3) := by decide +kernel
theorem dX11_lose_4 : decode cX11_lose 4 = .ok (.aload_n 0, 1) := by decide +kernel
theorem dX11_lose_5 : decode cX11_lose 5 = .ok (.iload_n 1, 1) := by decide +kernel
theorem dX11_lose_6 : decode cX11_lose 6 = .ok (.invokevirtual 114, 3) := by decide +kernel
theorem dX11_lose_9 : decode cX11_lose 9 = .ok (.aload_n 0, 1) := by decide +kernel
theorem dX11_lose_10 : decode cX11_lose 10 = .ok (.getfield 41, 3) := by decide +kernel
theorem dX11_lose_13 : decode cX11_lose 13 = .ok (.getfield 77, 3) := by decide +kernel
theorem dX11_lose_16 : decode cX11_lose 16 = .ok (.iload_n 1, 1) := by decide +kernel
theorem dX11_lose_17 : decode cX11_lose 17 = .ok (.aaload, 1) := by decide +kernel
theorem dX11_lose_18 : decode cX11_lose 18 = .ok (.getfield 242, 3) := by decide +kernel
theorem dX11_lose_21 : decode cX11_lose 21 = .ok (.astore_n 2, 1) := by decide +kernel
theorem dX11_lose_22 : decode cX11_lose 22 = .ok (.aload_n 2, 1) := by decide +kernel
theorem dX11_lose_23 : decode cX11_lose 23 = .ok (.getfield 246, 3) := by decide +kernel
theorem dX11_lose_26 : decode cX11_lose 26 = .ok (.ifCond .ne 5, 3) := by decide +kernel
theorem dX11_lose_29 : decode cX11_lose 29 = .ok (.iconst (-1), 1) := by decide +kernel
theorem dX11_lose_30 : decode cX11_lose 30 = .ok (.ireturn, 1) := by decide +kernel
theorem dX11_lose_31 : decode cX11_lose 31 = .ok (.aload_n 2, 1) := by decide +kernel
theorem dX11_lose_32 : decode cX11_lose 32 = .ok (.invokevirtual 251, 3) := by decide +kernel
theorem dX11_lose_35 : decode cX11_lose 35 = .ok (.getfield 265, 3) := by decide +kernel
theorem dX11_lose_38 : decode cX11_lose 38 = .ok (.istore_n 3, 1) := by decide +kernel
theorem dX11_lose_39 : decode cX11_lose 39 = .ok (.aload_n 2, 1) := by decide +kernel
theorem dX11_lose_40 : decode cX11_lose 40 = .ok (.invokevirtual 262, 3) := by decide +kernel
theorem dX11_lose_43 : decode cX11_lose 43 = .ok (.iload_n 3, 1) := by decide +kernel
theorem dX11_lose_44 : decode cX11_lose 44 = .ok (.ireturn, 1) := by decide +kernel
theorem dX11_repeat_0 : decode cX11_repeat 0 = .ok (.iload_n 1, 1) := by decide +kernel
theorem dX11_repeat_1 : decode cX11_repeat 1 = .ok (.invokestatic 73, 3) := by decide +kernel
theorem dX11_repeat_4 : decode cX11_repeat 4 = .ok (.aload_n 0, 1) := by decide +kernel
theorem dX11_repeat_5 : decode cX11_repeat 5 = .ok (.iload_n 1, 1) := by decide +kernel
theorem dX11_repeat_6 : decode cX11_repeat 6 = .ok (.invokevirtual 114, 3) := by decide +kernel
theorem dX11_repeat_9 : decode cX11_repeat 9 = .ok (.aload_n 0, 1) := by decide +kernel
theorem dX11_repeat_10 : decode cX11_repeat 10 = .ok (.getfield 41, 3) := by decide +kernel
theorem dX11_repeat_13 : decode cX11_repeat 13 = .ok (.getfield 77, 3) := by decide +kernel
theorem dX11_repeat_16 : decode cX11_repeat 16 = .ok (.iload_n 1, 1) := by decide +kernel
theorem dX11_repeat_17 : decode cX11_repeat 17 = .ok (.aaload, 1) := by decide +kernel
theorem dX11_repeat_18 : decode cX11_repeat 18 = .ok (.getfield 242, 3) := by decide +kernel
theorem dX11_repeat_21 : decode cX11_repeat 21 = .ok (.astore_n 2, 1) := by decide +kernel
theorem dX11_repeat_22 : decode cX11_repeat 22 = .ok (.aload_n 2, 1) := by decide +kernel
theorem dX11_repeat_23 : decode cX11_repeat 23 = .ok (.getfield 246, 3) := by decide +kernel
theorem dX11_repeat_26 : decode cX11_repeat 26 = .ok (.ifCond .ne 11, 3) := by decide +kernel
theorem dX11_repeat_29 : decode cX11_repeat 29 = .ok (.new 54, 3) := by decide +kernel
theorem dX11_repeat_32 : decode cX11_repeat 32 = .ok (.dup, 1) := by decide +kernel
theorem dX11_repeat_33 : decode cX11_repeat 33 = .ok (.invokespecial 56, 3) := by decide +kernel
theorem dX11_repeat_36 : decode cX11_repeat 36 = .ok (.athrow, 1) := by decide +kernel
theorem dX11_repeat_37 : decode cX11_repeat 37 = .ok (.aload_n 2, 1) := by decide +kernel
theorem dX11_repeat_38 : decode cX11_repeat 38 = .ok (.getfield 246, 3) := by decide +kernel
theorem dX11_repeat_41 : decode cX11_repeat 41 = .ok (.bipush 30, 2) := by decide +kernel
theorem dX11_repeat_43 : decode cX11_repeat 43 = .ok (.if_icmp .ge 16, 3) := by decide +kernel
theorem dX11_repeat_46 : decode cX11_repeat 46 = .ok (.aload_n 2, 1) := by decide +kernel
theorem dX11_repeat_47 : decode cX11_repeat 47 = .ok (.invokevirtual 251, 3) := by decide +kernel
theorem dX11_repeat_50 : decode cX11_repeat 50 = .ok (.astore_n 3, 1) := by decide +kernel
theorem dX11_repeat_51 : decode cX11_repeat 51 = .ok (.aload_n 2, 1) := by decide +kernel
theorem dX11_repeat_52 : decode cX11_repeat 52 = .ok (.invokevirtual 284, 3) := by decide +kernel
theorem dX11_repeat_55 : decode cX11_repeat 55 = .ok (.aload_n 3, 1) := by decide +kernel
theorem dX11_repeat_56 : decode cX11_repeat 56 = .ok (.invokevirtual 255, 3) := by decide +kernel
theorem dX11_repeat_59 : decode cX11_repeat 59 = .ok (.aload_n 2, 1) := by decide +kernel
theorem dX11_repeat_60 : decode cX11_repeat 60 = .ok (.getfield 246, 3) := by decide +kernel
theorem dX11_repeat_63 : decode cX11_repeat 63 = .ok (.ireturn, 1) := by decide +kernel
theorem dX11_length_0 : decode cX11_length 0 = .ok (.iload_n 1, 1) := by decide +kernel
theorem dX11_length_1 : decode cX11_length 1 = .ok (.invokestatic 73, 3) := by decide +kernel
theorem dX11_length_4 : decode cX11_length 4 = .ok (.aload_n 0, 1) := by decide +kernel
theorem dX11_length_5 : decode cX11_length 5 = .ok (.getfield 41, 3) := by decide +kernel
theorem dX11_length_8 : decode cX11_length 8 = .ok (.getfield 77, 3) := by decide +kernel
theorem dX11_length_11 : decode cX11_length 11 = .ok (.iload_n 1, 1) := by decide +kernel
theorem dX11_length_12 : decode cX11_length 12 = .ok (.aaload, 1) := by decide +kernel
theorem dX11_length_13 : decode cX11_length 13 = .ok (.astore_n 3, 1) := by decide +kernel
theorem dX11_length_14 : decode cX11_length 14 = .ok (.iload_n 2, 1) := by decide +kernel
theorem dX11_length_15 : decode cX11_length 15 = .ok (.tableswitch 79 0 4 #[33, 41, 52, 63, 71], 33) := by decide +kernel
theorem dX11_length_48 : decode cX11_length 48 = .ok (.aload_n 3, 1) := by decide +kernel
theorem dX11_length_49 : decode cX11_length 49 = .ok (.getfield 242, 3) := by decide +kernel
theorem dX11_length_52 : decode cX11_length 52 = .ok (.getfield 246, 3) := by decide +kernel
theorem dX11_length_55 : decode cX11_length 55 = .ok (.ireturn, 1) := by decide +kernel
theorem dX11_length_56 : decode cX11_length 56 = .ok (.aload_n 3, 1) := by decide +kernel
theorem dX11_length_57 : decode cX11_length 57 = .ok (.getfield 94, 3) := by decide +kernel
theorem dX11_length_60 : decode cX11_length 60 = .ok (.getfield 287, 3) := by decide +kernel
theorem dX11_length_63 : decode cX11_length 63 = .ok (.getfield 291, 3) := by decide +kernel
theorem dX11_length_66 : decode cX11_length 66 = .ok (.ireturn, 1) := by decide +kernel
theorem dX11_length_67 : decode cX11_length 67 = .ok (.aload_n 3, 1) := by decide +kernel
theorem dX11_length_68 : decode cX11_length 68 = .ok (.getfield 94, 3) := by decide +kernel
theorem dX11_length_71 : decode cX11_length 71 = .ok (.getfield 294, 3) := by decide +kernel
theorem dX11_length_74 : decode cX11_length 74 = .ok (.getfield 291, 3) := by decide +kernel
theorem dX11_length_77 : decode cX11_length 77 = .ok (.ireturn, 1) := by decide +kernel
theorem dX11_length_78 : decode cX11_length 78 = .ok (.aload_n 3, 1) := by decide +kernel
theorem dX11_length_79 : decode cX11_length 79 = .ok (.getfield 94, 3) := by decide +kernel
theorem dX11_length_82 : decode cX11_length 82 = .ok (.getfield 297, 3) := by decide +kernel
theorem dX11_length_85 : decode cX11_length 85 = .ok (.ireturn, 1) := by decide +kernel
theorem dX11_length_86 : decode cX11_length 86 = .ok (.aload_n 3, 1) := by decide +kernel
theorem dX11_length_87 : decode cX11_length 87 = .ok (.getfield 94, 3) := by decide +kernel
theorem dX11_length_90 : decode cX11_length 90 = .ok (.getfield 155, 3) := by decide +kernel
theorem dX11_length_93 : decode cX11_length 93 = .ok (.ireturn, 1) := by decide +kernel
theorem dX11_length_94 : decode cX11_length 94 = .ok (.new 48, 3) := by decide +kernel
theorem dX11_length_97 : decode cX11_length 97 = .ok (.dup, 1) := by decide +kernel
theorem dX11_length_98 : decode cX11_length 98 = .ok (.invokespecial 50, 3) := by decide +kernel
theorem dX11_length_101 : decode cX11_length 101 = .ok (.athrow, 1) := by decide +kernel
theorem dX11_inFlight_0 : decode cX11_inFlight 0 = .ok (.iload_n 1, 1) := by decide +kernel
theorem dX11_inFlight_1 : decode cX11_inFlight 1 = .ok (.invokestatic 73, 3) := by decide +kernel
theorem dX11_inFlight_4 : decode cX11_inFlight 4 = .ok (.aload_n 0, 1) := by decide +kernel
theorem dX11_inFlight_5 : decode cX11_inFlight 5 = .ok (.getfield 41, 3) := by decide +kernel
theorem dX11_inFlight_8 : decode cX11_inFlight 8 = .ok (.getfield 77, 3) := by decide +kernel
theorem dX11_inFlight_11 : decode cX11_inFlight 11 = .ok (.iload_n 1, 1) := by decide +kernel
theorem dX11_inFlight_12 : decode cX11_inFlight 12 = .ok (.aaload, 1) := by decide +kernel
theorem dX11_inFlight_13 : decode cX11_inFlight 13 = .ok (.getfield 94, 3) := by decide +kernel
theorem dX11_inFlight_16 : decode cX11_inFlight 16 = .ok (.getfield 287, 3) := by decide +kernel
theorem dX11_inFlight_19 : decode cX11_inFlight 19 = .ok (.astore 4, 2) := by decide +kernel
theorem dX11_inFlight_21 : decode cX11_inFlight 21 = .ok (.iload_n 2, 1) := by decide +kernel
theorem dX11_inFlight_22 : decode cX11_inFlight 22 = .ok (.ifCond .lt 22, 3) := by decide +kernel
theorem dX11_inFlight_25 : decode cX11_inFlight 25 = .ok (.iload_n 2, 1) := by decide +kernel
theorem dX11_inFlight_26 : decode cX11_inFlight 26 = .ok (.aload 4, 2) := by decide +kernel
theorem dX11_inFlight_28 : decode cX11_inFlight 28 = .ok (.getfield 291, 3) := by decide +kernel
theorem dX11_inFlight_31 : decode cX11_inFlight 31 = .ok (.if_icmp .ge 13, 3) := by decide +kernel
theorem dX11_inFlight_34 : decode cX11_inFlight 34 = .ok (.iload_n 2, 1) := by decide +kernel
theorem dX11_inFlight_35 : decode cX11_inFlight 35 = .ok (.aload 4, 2) := by decide +kernel
theorem dX11_inFlight_37 : decode cX11_inFlight 37 = .ok (.getfield 300, 3) := by decide +kernel
theorem dX11_inFlight_40 : decode cX11_inFlight 40 = .ok (.arraylength, 1) := by decide +kernel
theorem dX11_inFlight_41 : decode cX11_inFlight 41 = .ok (.if_icmp .lt 11, 3) := by decide +kernel
theorem dX11_inFlight_44 : decode cX11_inFlight 44 = .ok (.new 61, 3) := by decide +kernel
theorem dX11_inFlight_47 : decode cX11_inFlight 47 = .ok (.dup, 1) := by decide +kernel
theorem dX11_inFlight_48 : decode cX11_inFlight 48 = .ok (.invokespecial 63, 3) := by decide +kernel
theorem dX11_inFlight_51 : decode cX11_inFlight 51 = .ok (.athrow, 1) := by decide +kernel
theorem dX11_inFlight_52 : decode cX11_inFlight 52 = .ok (.aload 4, 2) := by decide +kernel
theorem dX11_inFlight_54 : decode cX11_inFlight 54 = .ok (.getfield 300, 3) := by decide +kernel
theorem dX11_inFlight_57 : decode cX11_inFlight 57 = .ok (.iload_n 2, 1) := by decide +kernel
theorem dX11_inFlight_58 : decode cX11_inFlight 58 = .ok (.aaload, 1) := by decide +kernel
theorem dX11_inFlight_59 : decode cX11_inFlight 59 = .ok (.astore 5, 2) := by decide +kernel
theorem dX11_inFlight_61 : decode cX11_inFlight 61 = .ok (.iload_n 3, 1) := by decide +kernel
theorem dX11_inFlight_62 : decode cX11_inFlight 62 = .ok (.tableswitch 64 0 4 #[34, 40, 46, 52, 58], 34) := by decide +kernel
theorem dX11_inFlight_96 : decode cX11_inFlight 96 = .ok (.aload 5, 2) := by decide +kernel
theorem dX11_inFlight_98 : decode cX11_inFlight 98 = .ok (.getfield 304, 3) := by decide +kernel
theorem dX11_inFlight_101 : decode cX11_inFlight 101 = .ok (.ireturn, 1) := by decide +kernel
theorem dX11_inFlight_102 : decode cX11_inFlight 102 = .ok (.aload 5, 2) := by decide +kernel
theorem dX11_inFlight_104 : decode cX11_inFlight 104 = .ok (.getfield 305, 3) := by decide +kernel
theorem dX11_inFlight_107 : decode cX11_inFlight 107 = .ok (.ireturn, 1) := by decide +kernel
theorem dX11_inFlight_108 : decode cX11_inFlight 108 = .ok (.aload 5, 2) := by decide +kernel
theorem dX11_inFlight_110 : decode cX11_inFlight 110 = .ok (.getfield 306, 3) := by decide +kernel
theorem dX11_inFlight_113 : decode cX11_inFlight 113 = .ok (.ireturn, 1) := by decide +kernel
theorem dX11_inFlight_114 : decode cX11_inFlight 114 = .ok (.aload 5, 2) := by decide +kernel
theorem dX11_inFlight_116 : decode cX11_inFlight 116 = .ok (.getfield 307, 3) := by decide +kernel
theorem dX11_inFlight_119 : decode cX11_inFlight 119 = .ok (.ireturn, 1) := by decide +kernel
theorem dX11_inFlight_120 : decode cX11_inFlight 120 = .ok (.aload 5, 2) := by decide +kernel
theorem dX11_inFlight_122 : decode cX11_inFlight 122 = .ok (.getfield 310, 3) := by decide +kernel
theorem dX11_inFlight_125 : decode cX11_inFlight 125 = .ok (.ireturn, 1) := by decide +kernel
theorem dX11_inFlight_126 : decode cX11_inFlight 126 = .ok (.new 48, 3) := by decide +kernel
theorem dX11_inFlight_129 : decode cX11_inFlight 129 = .ok (.dup, 1) := by decide +kernel
theorem dX11_inFlight_130 : decode cX11_inFlight 130 = .ok (.invokespecial 50, 3) := by decide +kernel
theorem dX11_inFlight_133 : decode cX11_inFlight 133 = .ok (.athrow, 1) := by decide +kernel
theorem dX11_advance_0 : decode cX11_advance 0 = .ok (.iload_n 1, 1) := by decide +kernel
theorem dX11_advance_1 : decode cX11_advance 1 = .ok (.iconst 1, 1) := by decide +kernel
theorem dX11_advance_2 : decode cX11_advance 2 = .ok (.bipush 100, 2) := by decide +kernel
theorem dX11_advance_4 : decode cX11_advance 4 = .ok (.invokestatic 131, 3) := by decide +kernel
theorem dX11_advance_7 : decode cX11_advance 7 = .ok (.iconst 0, 1) := by decide +kernel
theorem dX11_advance_8 : decode cX11_advance 8 = .ok (.istore_n 2, 1) := by decide +kernel
theorem dX11_advance_9 : decode cX11_advance 9 = .ok (.iload_n 2, 1) := by decide +kernel
theorem dX11_advance_10 : decode cX11_advance 10 = .ok (.iload_n 1, 1) := by decide +kernel
theorem dX11_advance_11 : decode cX11_advance 11 = .ok (.if_icmp .ge 16, 3) := by decide +kernel
theorem dX11_advance_14 : decode cX11_advance 14 = .ok (.aload_n 0, 1) := by decide +kernel
theorem dX11_advance_15 : decode cX11_advance 15 = .ok (.getfield 41, 3) := by decide +kernel
theorem dX11_advance_18 : decode cX11_advance 18 = .ok (.invokevirtual 313, 3) := by decide +kernel
theorem dX11_advance_21 : decode cX11_advance 21 = .ok (.iinc 2 1, 3) := by decide +kernel
theorem dX11_advance_24 : decode cX11_advance 24 = .ok (.goto (-15), 3) := by decide +kernel
theorem dX11_advance_27 : decode cX11_advance 27 = .ok (.aload_n 0, 1) := by decide +kernel
theorem dX11_advance_28 : decode cX11_advance 28 = .ok (.getfield 41, 3) := by decide +kernel
theorem dX11_advance_31 : decode cX11_advance 31 = .ok (.getfield 316, 3) := by decide +kernel
theorem dX11_advance_34 : decode cX11_advance 34 = .ok (.ireturn, 1) := by decide +kernel
theorem dX11_load_0 : decode cX11_load 0 = .ok (.iload_n 1, 1) := by decide +kernel
theorem dX11_load_1 : decode cX11_load 1 = .ok (.invokestatic 73, 3) := by decide +kernel
theorem dX11_load_4 : decode cX11_load 4 = .ok (.aload_n 0, 1) := by decide +kernel
theorem dX11_load_5 : decode cX11_load 5 = .ok (.getfield 41, 3) := by decide +kernel
theorem dX11_load_8 : decode cX11_load 8 = .ok (.getfield 77, 3) := by decide +kernel
theorem dX11_load_11 : decode cX11_load 11 = .ok (.iload_n 1, 1) := by decide +kernel
theorem dX11_load_12 : decode cX11_load 12 = .ok (.aaload, 1) := by decide +kernel
theorem dX11_load_13 : decode cX11_load 13 = .ok (.getfield 319, 3) := by decide +kernel
theorem dX11_load_16 : decode cX11_load 16 = .ok (.ldc_w 323, 3) := by decide +kernel
theorem dX11_load_19 : decode cX11_load 19 = .ok (.fmul, 1) := by decide +kernel
theorem dX11_load_20 : decode cX11_load 20 = .ok (.f2i, 1) := by decide +kernel
theorem dX11_load_21 : decode cX11_load 21 = .ok (.ireturn, 1) := by decide +kernel
theorem dX11_retainedCount_0 : decode cX11_retainedCount 0 = .ok (.aload_n 0, 1) := by decide +kernel
theorem dX11_retainedCount_1 : decode cX11_retainedCount 1 = .ok (.getfield 41, 3) := by decide +kernel
theorem dX11_retainedCount_4 : decode cX11_retainedCount 4 = .ok (.getfield 324, 3) := by decide +kernel
theorem dX11_retainedCount_7 : decode cX11_retainedCount 7 = .ok (.ireturn, 1) := by decide +kernel
theorem dX11_retained_0 : decode cX11_retained 0 = .ok (.iload_n 1, 1) := by decide +kernel
theorem dX11_retained_1 : decode cX11_retained 1 = .ok (.ifCond .lt 26, 3) := by decide +kernel
theorem dX11_retained_4 : decode cX11_retained 4 = .ok (.iload_n 1, 1) := by decide +kernel
theorem dX11_retained_5 : decode cX11_retained 5 = .ok (.aload_n 0, 1) := by decide +kernel
theorem dX11_retained_6 : decode cX11_retained 6 = .ok (.getfield 41, 3) := by decide +kernel
theorem dX11_retained_9 : decode cX11_retained 9 = .ok (.getfield 324, 3) := by decide +kernel
theorem dX11_retained_12 : decode cX11_retained 12 = .ok (.if_icmp .ge 15, 3) := by decide +kernel
theorem dX11_retained_15 : decode cX11_retained 15 = .ok (.iload_n 1, 1) := by decide +kernel
theorem dX11_retained_16 : decode cX11_retained 16 = .ok (.aload_n 0, 1) := by decide +kernel
theorem dX11_retained_17 : decode cX11_retained 17 = .ok (.getfield 41, 3) := by decide +kernel
theorem dX11_retained_20 : decode cX11_retained 20 = .ok (.getfield 327, 3) := by decide +kernel
theorem dX11_retained_23 : decode cX11_retained 23 = .ok (.arraylength, 1) := by decide +kernel
theorem dX11_retained_24 : decode cX11_retained 24 = .ok (.if_icmp .lt 11, 3) := by decide +kernel
theorem dX11_retained_27 : decode cX11_retained 27 = .ok (.new 61, 3) := by decide +kernel
theorem dX11_retained_30 : decode cX11_retained 30 = .ok (.dup, 1) := by decide +kernel
theorem dX11_retained_31 : decode cX11_retained 31 = .ok (.invokespecial 63, 3) := by decide +kernel
theorem dX11_retained_34 : decode cX11_retained 34 = .ok (.athrow, 1) := by decide +kernel
theorem dX11_retained_35 : decode cX11_retained 35 = .ok (.aload_n 0, 1) := by decide +kernel
theorem dX11_retained_36 : decode cX11_retained 36 = .ok (.getfield 41, 3) := by decide +kernel
theorem dX11_retained_39 : decode cX11_retained 39 = .ok (.getfield 327, 3) := by decide +kernel
theorem dX11_retained_42 : decode cX11_retained 42 = .ok (.iload_n 1, 1) := by decide +kernel
theorem dX11_retained_43 : decode cX11_retained 43 = .ok (.aaload, 1) := by decide +kernel
theorem dX11_retained_44 : decode cX11_retained 44 = .ok (.astore_n 3, 1) := by decide +kernel
theorem dX11_retained_45 : decode cX11_retained 45 = .ok (.iload_n 2, 1) := by decide +kernel
theorem dX11_retained_46 : decode cX11_retained 46 = .ok (.tableswitch 45 0 2 #[26, 31, 36], 26) := by decide +kernel
theorem dX11_retained_72 : decode cX11_retained 72 = .ok (.aload_n 3, 1) := by decide +kernel
theorem dX11_retained_73 : decode cX11_retained 73 = .ok (.getfield 305, 3) := by decide +kernel
theorem dX11_retained_76 : decode cX11_retained 76 = .ok (.ireturn, 1) := by decide +kernel
theorem dX11_retained_77 : decode cX11_retained 77 = .ok (.aload_n 3, 1) := by decide +kernel
theorem dX11_retained_78 : decode cX11_retained 78 = .ok (.getfield 306, 3) := by decide +kernel
theorem dX11_retained_81 : decode cX11_retained 81 = .ok (.ireturn, 1) := by decide +kernel
theorem dX11_retained_82 : decode cX11_retained 82 = .ok (.aload_n 3, 1) := by decide +kernel
theorem dX11_retained_83 : decode cX11_retained 83 = .ok (.getfield 330, 3) := by decide +kernel
theorem dX11_retained_86 : decode cX11_retained 86 = .ok (.getfield 281, 3) := by decide +kernel
theorem dX11_retained_89 : decode cX11_retained 89 = .ok (.arraylength, 1) := by decide +kernel
theorem dX11_retained_90 : decode cX11_retained 90 = .ok (.ireturn, 1) := by decide +kernel
theorem dX11_retained_91 : decode cX11_retained 91 = .ok (.new 48, 3) := by decide +kernel
theorem dX11_retained_94 : decode cX11_retained 94 = .ok (.dup, 1) := by decide +kernel
theorem dX11_retained_95 : decode cX11_retained 95 = .ok (.invokespecial 50, 3) := by decide +kernel
theorem dX11_retained_98 : decode cX11_retained 98 = .ok (.athrow, 1) := by decide +kernel
theorem dX11_published_0 : decode cX11_published 0 = .ok (.aload_n 0, 1) := by decide +kernel
theorem dX11_published_1 : decode cX11_published 1 = .ok (.invokevirtual 123, 3) := by decide +kernel
theorem dX11_published_4 : decode cX11_published 4 = .ok (.istore_n 1, 1) := by decide +kernel
theorem dX11_published_5 : decode cX11_published 5 = .ok (.aload_n 0, 1) := by decide +kernel
theorem dX11_published_6 : decode cX11_published 6 = .ok (.iload_n 1, 1) := by decide +kernel
theorem dX11_published_7 : decode cX11_published 7 = .ok (.invokevirtual 127, 3) := by decide +kernel
theorem dX11_published_10 : decode cX11_published 10 = .ok (.astore_n 2, 1) := by decide +kernel
theorem dX11_published_11 : decode cX11_published 11 = .ok (.aload_n 0, 1) := by decide +kernel
theorem dX11_published_12 : decode cX11_published 12 = .ok (.getfield 41, 3) := by decide +kernel
theorem dX11_published_15 : decode cX11_published 15 = .ok (.getfield 331, 3) := by decide +kernel
theorem dX11_published_18 : decode cX11_published 18 = .ok (.aload_n 2, 1) := by decide +kernel
theorem dX11_published_19 : decode cX11_published 19 = .ok (.invokevirtual 335, 3) := by decide +kernel
theorem dX11_published_22 : decode cX11_published 22 = .ok (.istore_n 3, 1) := by decide +kernel
theorem dX11_published_23 : decode cX11_published 23 = .ok (.iload_n 3, 1) := by decide +kernel
theorem dX11_published_24 : decode cX11_published 24 = .ok (.ifCond .ge 7, 3) := by decide +kernel
theorem dX11_published_27 : decode cX11_published 27 = .ok (.iconst 0, 1) := by decide +kernel
theorem dX11_published_28 : decode cX11_published 28 = .ok (.goto 15, 3) := by decide +kernel
theorem dX11_published_31 : decode cX11_published 31 = .ok (.aload_n 0, 1) := by decide +kernel
theorem dX11_published_32 : decode cX11_published 32 = .ok (.getfield 41, 3) := by decide +kernel
theorem dX11_published_35 : decode cX11_published 35 = .ok (.getfield 331, 3) := by decide +kernel
theorem dX11_published_38 : decode cX11_published 38 = .ok (.getfield 340, 3) := by decide +kernel
theorem dX11_published_41 : decode cX11_published 41 = .ok (.iload_n 3, 1) := by decide +kernel
theorem dX11_published_42 : decode cX11_published 42 = .ok (.iaload, 1) := by decide +kernel
theorem dX11_published_43 : decode cX11_published 43 = .ok (.ireturn, 1) := by decide +kernel
theorem dX11_total_0 : decode cX11_total 0 = .ok (.iload_n 1, 1) := by decide +kernel
theorem dX11_total_1 : decode cX11_total 1 = .ok (.iconst 0, 1) := by decide +kernel
theorem dX11_total_2 : decode cX11_total 2 = .ok (.bipush 9, 2) := by decide +kernel
theorem dX11_total_4 : decode cX11_total 4 = .ok (.invokestatic 131, 3) := by decide +kernel
theorem dX11_total_7 : decode cX11_total 7 = .ok (.aload_n 0, 1) := by decide +kernel
theorem dX11_total_8 : decode cX11_total 8 = .ok (.getfield 41, 3) := by decide +kernel
theorem dX11_total_11 : decode cX11_total 11 = .ok (.getfield 87, 3) := by decide +kernel
theorem dX11_total_14 : decode cX11_total 14 = .ok (.iload_n 1, 1) := by decide +kernel
theorem dX11_total_15 : decode cX11_total 15 = .ok (.iaload, 1) := by decide +kernel
theorem dX11_total_16 : decode cX11_total 16 = .ok (.ireturn, 1) := by decide +kernel
theorem dX11_save_0 : decode cX11_save 0 = .ok (.aload_n 0, 1) := by decide +kernel
theorem dX11_save_1 : decode cX11_save 1 = .ok (.getfield 45, 3) := by decide +kernel
theorem dX11_save_4 : decode cX11_save 4 = .ok (.aload_n 0, 1) := by decide +kernel
theorem dX11_save_5 : decode cX11_save 5 = .ok (.getfield 41, 3) := by decide +kernel
theorem dX11_save_8 : decode cX11_save 8 = .ok (.invokevirtual 343, 3) := by decide +kernel
theorem dX11_save_11 : decode cX11_save 11 = .ok (.aload_n 0, 1) := by decide +kernel
theorem dX11_save_12 : decode cX11_save 12 = .ok (.iconst 1, 1) := by decide +kernel
theorem dX11_save_13 : decode cX11_save 13 = .ok (.putfield 346, 3) := by decide +kernel
theorem dX11_save_16 : decode cX11_save 16 = .ok (.aload_n 0, 1) := by decide +kernel
theorem dX11_save_17 : decode cX11_save 17 = .ok (.getfield 41, 3) := by decide +kernel
theorem dX11_save_20 : decode cX11_save 20 = .ok (.getfield 316, 3) := by decide +kernel
theorem dX11_save_23 : decode cX11_save 23 = .ok (.ireturn, 1) := by decide +kernel
theorem dX11_restore_0 : decode cX11_restore 0 = .ok (.aload_n 0, 1) := by decide +kernel
theorem dX11_restore_1 : decode cX11_restore 1 = .ok (.getfield 346, 3) := by decide +kernel
theorem dX11_restore_4 : decode cX11_restore 4 = .ok (.ifCond .ne 11, 3) := by decide +kernel
theorem dX11_restore_7 : decode cX11_restore 7 = .ok (.new 54, 3) := by decide +kernel
theorem dX11_restore_10 : decode cX11_restore 10 = .ok (.dup, 1) := by decide +kernel
theorem dX11_restore_11 : decode cX11_restore 11 = .ok (.invokespecial 56, 3) := by decide +kernel
theorem dX11_restore_14 : decode cX11_restore 14 = .ok (.athrow, 1) := by decide +kernel
theorem dX11_restore_15 : decode cX11_restore 15 = .ok (.aload_n 0, 1) := by decide +kernel
theorem dX11_restore_16 : decode cX11_restore 16 = .ok (.getfield 41, 3) := by decide +kernel
theorem dX11_restore_19 : decode cX11_restore 19 = .ok (.aload_n 0, 1) := by decide +kernel
theorem dX11_restore_20 : decode cX11_restore 20 = .ok (.getfield 45, 3) := by decide +kernel
theorem dX11_restore_23 : decode cX11_restore 23 = .ok (.invokevirtual 343, 3) := by decide +kernel
theorem dX11_restore_26 : decode cX11_restore 26 = .ok (.aload_n 0, 1) := by decide +kernel
theorem dX11_restore_27 : decode cX11_restore 27 = .ok (.getfield 41, 3) := by decide +kernel
theorem dX11_restore_30 : decode cX11_restore 30 = .ok (.getfield 316, 3) := by decide +kernel
theorem dX11_restore_33 : decode cX11_restore 33 = .ok (.ireturn, 1) := by decide +kernel
theorem dX11_requireClient_0 : decode cX11_requireClient 0 = .ok (.iload_n 0, 1) := by decide +kernel
theorem dX11_requireClient_1 : decode cX11_requireClient 1 = .ok (.ifCond .lt 9, 3) := by decide +kernel
theorem dX11_requireClient_4 : decode cX11_requireClient 4 = .ok (.iload_n 0, 1) := by decide +kernel
theorem dX11_requireClient_5 : decode cX11_requireClient 5 = .ok (.bipush 6, 2) := by decide +kernel
theorem dX11_requireClient_7 : decode cX11_requireClient 7 = .ok (.if_icmp .lt 11, 3) := by decide +kernel
theorem dX11_requireClient_10 : decode cX11_requireClient 10 = .ok (.new 61, 3) := by decide +kernel
theorem dX11_requireClient_13 : decode cX11_requireClient 13 = .ok (.dup, 1) := by decide +kernel
theorem dX11_requireClient_14 : decode cX11_requireClient 14 = .ok (.invokespecial 63, 3) := by decide +kernel
theorem dX11_requireClient_17 : decode cX11_requireClient 17 = .ok (.athrow, 1) := by decide +kernel
theorem dX11_requireClient_18 : decode cX11_requireClient 18 = .ok (.return_, 1) := by decide +kernel
theorem dX11_requireRange_0 : decode cX11_requireRange 0 = .ok (.iload_n 0, 1) := by decide +kernel
theorem dX11_requireRange_1 : decode cX11_requireRange 1 = .ok (.iload_n 1, 1) := by decide +kernel
theorem dX11_requireRange_2 : decode cX11_requireRange 2 = .ok (.if_icmp .lt 8, 3) := by decide +kernel
theorem dX11_requireRange_5 : decode cX11_requireRange 5 = .ok (.iload_n 0, 1) := by decide +kernel
theorem dX11_requireRange_6 : decode cX11_requireRange 6 = .ok (.iload_n 2, 1) := by decide +kernel
theorem dX11_requireRange_7 : decode cX11_requireRange 7 = .ok (.if_icmp .le 11, 3) := by decide +kernel
theorem dX11_requireRange_10 : decode cX11_requireRange 10 = .ok (.new 48, 3) := by decide +kernel
theorem dX11_requireRange_13 : decode cX11_requireRange 13 = .ok (.dup, 1) := by decide +kernel
theorem dX11_requireRange_14 : decode cX11_requireRange 14 = .ok (.invokespecial 50, 3) := by decide +kernel
theorem dX11_requireRange_17 : decode cX11_requireRange 17 = .ok (.athrow, 1) := by decide +kernel
theorem dX11_requireRange_18 : decode cX11_requireRange 18 = .ok (.return_, 1) := by decide +kernel
theorem dX11_requireConnection_0 : decode cX11_requireConnection 0 = .ok (.aload_n 0, 1) := by decide +kernel
theorem dX11_requireConnection_1 : decode cX11_requireConnection 1 = .ok (.getfield 41, 3) := by decide +kernel
theorem dX11_requireConnection_4 : decode cX11_requireConnection 4 = .ok (.getfield 77, 3) := by decide +kernel
theorem dX11_requireConnection_7 : decode cX11_requireConnection 7 = .ok (.iload_n 1, 1) := by decide +kernel
theorem dX11_requireConnection_8 : decode cX11_requireConnection 8 = .ok (.aaload, 1) := by decide +kernel
theorem dX11_requireConnection_9 : decode cX11_requireConnection 9 = .ok (.getfield 81, 3) := by decide +kernel
theorem dX11_requireConnection_12 : decode cX11_requireConnection 12 = .ok (.ifCond .ne 11, 3) := by decide +kernel
theorem dX11_requireConnection_15 : decode cX11_requireConnection 15 = .ok (.new 54, 3) := by decide +kernel
theorem dX11_requireConnection_18 : decode cX11_requireConnection 18 = .ok (.dup, 1) := by decide +kernel
theorem dX11_requireConnection_19 : decode cX11_requireConnection 19 = .ok (.invokespecial 56, 3) := by decide +kernel
theorem dX11_requireConnection_22 : decode cX11_requireConnection 22 = .ok (.athrow, 1) := by decide +kernel
theorem dX11_requireConnection_23 : decode cX11_requireConnection 23 = .ok (.return_, 1) := by decide +kernel
theorem dX11_requireSubscription_0 : decode cX11_requireSubscription 0 = .ok (.aload_n 0, 1) := by decide +kernel
theorem dX11_requireSubscription_1 : decode cX11_requireSubscription 1 = .ok (.getfield 41, 3) := by decide +kernel
theorem dX11_requireSubscription_4 : decode cX11_requireSubscription 4 = .ok (.getfield 77, 3) := by decide +kernel
theorem dX11_requireSubscription_7 : decode cX11_requireSubscription 7 = .ok (.iload_n 1, 1) := by decide +kernel
theorem dX11_requireSubscription_8 : decode cX11_requireSubscription 8 = .ok (.aaload, 1) := by decide +kernel
theorem dX11_requireSubscription_9 : decode cX11_requireSubscription 9 = .ok (.getfield 94, 3) := by decide +kernel
theorem dX11_requireSubscription_12 : decode cX11_requireSubscription 12 = .ok (.astore_n 3, 1) := by decide +kernel
theorem dX11_requireSubscription_13 : decode cX11_requireSubscription 13 = .ok (.iload_n 2, 1) := by decide +kernel
theorem dX11_requireSubscription_14 : decode cX11_requireSubscription 14 = .ok (.ifCond .lt 20, 3) := by decide +kernel
theorem dX11_requireSubscription_17 : decode cX11_requireSubscription 17 = .ok (.iload_n 2, 1) := by decide +kernel
theorem dX11_requireSubscription_18 : decode cX11_requireSubscription 18 = .ok (.aload_n 3, 1) := by decide +kernel
theorem dX11_requireSubscription_19 : decode cX11_requireSubscription 19 = .ok (.getfield 155, 3) := by decide +kernel
theorem dX11_requireSubscription_22 : decode cX11_requireSubscription 22 = .ok (.if_icmp .ge 12, 3) := by decide +kernel
theorem dX11_requireSubscription_25 : decode cX11_requireSubscription 25 = .ok (.iload_n 2, 1) := by decide +kernel
theorem dX11_requireSubscription_26 : decode cX11_requireSubscription 26 = .ok (.aload_n 3, 1) := by decide +kernel
theorem dX11_requireSubscription_27 : decode cX11_requireSubscription 27 = .ok (.getfield 162, 3) := by decide +kernel
theorem dX11_requireSubscription_30 : decode cX11_requireSubscription 30 = .ok (.arraylength, 1) := by decide +kernel
theorem dX11_requireSubscription_31 : decode cX11_requireSubscription 31 = .ok (.if_icmp .lt 11, 3) := by decide +kernel
theorem dX11_requireSubscription_34 : decode cX11_requireSubscription 34 = .ok (.new 61, 3) := by decide +kernel
theorem dX11_requireSubscription_37 : decode cX11_requireSubscription 37 = .ok (.dup, 1) := by decide +kernel
theorem dX11_requireSubscription_38 : decode cX11_requireSubscription 38 = .ok (.invokespecial 63, 3) := by decide +kernel
theorem dX11_requireSubscription_41 : decode cX11_requireSubscription 41 = .ok (.athrow, 1) := by decide +kernel
theorem dX11_requireSubscription_42 : decode cX11_requireSubscription 42 = .ok (.return_, 1) := by decide +kernel
theorem dX11_takeBuffer_0 : decode cX11_takeBuffer 0 = .ok (.aload_n 0, 1) := by decide +kernel
theorem dX11_takeBuffer_1 : decode cX11_takeBuffer 1 = .ok (.getfield 51, 3) := by decide +kernel
theorem dX11_takeBuffer_4 : decode cX11_takeBuffer 4 = .ok (.istore_n 1, 1) := by decide +kernel
theorem dX11_takeBuffer_5 : decode cX11_takeBuffer 5 = .ok (.aload_n 0, 1) := by decide +kernel
theorem dX11_takeBuffer_6 : decode cX11_takeBuffer 6 = .ok (.iconst 0, 1) := by decide +kernel
theorem dX11_takeBuffer_7 : decode cX11_takeBuffer 7 = .ok (.putfield 51, 3) := by decide +kernel
theorem dX11_takeBuffer_10 : decode cX11_takeBuffer 10 = .ok (.iload_n 1, 1) := by decide +kernel
theorem dX11_takeBuffer_11 : decode cX11_takeBuffer 11 = .ok (.ireturn, 1) := by decide +kernel
theorem dX11_readTopic_0 : decode cX11_readTopic 0 = .ok (.aload_n 0, 1) := by decide +kernel
theorem dX11_readTopic_1 : decode cX11_readTopic 1 = .ok (.iload_n 1, 1) := by decide +kernel
theorem dX11_readTopic_2 : decode cX11_readTopic 2 = .ok (.iconst 0, 1) := by decide +kernel
theorem dX11_readTopic_3 : decode cX11_readTopic 3 = .ok (.invokevirtual 349, 3) := by decide +kernel
theorem dX11_readTopic_6 : decode cX11_readTopic 6 = .ok (.areturn, 1) := by decide +kernel
theorem dX11_readFilter_0 : decode cX11_readFilter 0 = .ok (.aload_n 0, 1) := by decide +kernel
theorem dX11_readFilter_1 : decode cX11_readFilter 1 = .ok (.iload_n 1, 1) := by decide +kernel
theorem dX11_readFilter_2 : decode cX11_readFilter 2 = .ok (.iconst 1, 1) := by decide +kernel
theorem dX11_readFilter_3 : decode cX11_readFilter 3 = .ok (.invokevirtual 349, 3) := by decide +kernel
theorem dX11_readFilter_6 : decode cX11_readFilter 6 = .ok (.areturn, 1) := by decide +kernel
theorem dX11_readText_0 : decode cX11_readText 0 = .ok (.aload_n 0, 1) := by decide +kernel
theorem dX11_readText_1 : decode cX11_readText 1 = .ok (.aload_n 0, 1) := by decide +kernel
theorem dX11_readText_2 : decode cX11_readText 2 = .ok (.getfield 14, 3) := by decide +kernel
theorem dX11_readText_5 : decode cX11_readText 5 = .ok (.iload_n 1, 1) := by decide +kernel
theorem dX11_readText_6 : decode cX11_readText 6 = .ok (.iload_n 2, 1) := by decide +kernel
theorem dX11_readText_7 : decode cX11_readText 7 = .ok (.invokestatic 353, 3) := by decide +kernel
theorem dX11_readText_10 : decode cX11_readText 10 = .ok (.putfield 18, 3) := by decide +kernel
theorem dX11_readText_13 : decode cX11_readText 13 = .ok (.aload_n 0, 1) := by decide +kernel
theorem dX11_readText_14 : decode cX11_readText 14 = .ok (.getfield 18, 3) := by decide +kernel
theorem dX11_readText_17 : decode cX11_readText 17 = .ok (.ifCond .lt 11, 3) := by decide +kernel
theorem dX11_readText_20 : decode cX11_readText 20 = .ok (.new 48, 3) := by decide +kernel
theorem dX11_readText_23 : decode cX11_readText 23 = .ok (.dup, 1) := by decide +kernel
theorem dX11_readText_24 : decode cX11_readText 24 = .ok (.invokespecial 50, 3) := by decide +kernel
theorem dX11_readText_27 : decode cX11_readText 27 = .ok (.athrow, 1) := by decide +kernel
theorem dX11_readText_28 : decode cX11_readText 28 = .ok (.new 7, 3) := by decide +kernel
theorem dX11_readText_31 : decode cX11_readText 31 = .ok (.dup, 1) := by decide +kernel
theorem dX11_readText_32 : decode cX11_readText 32 = .ok (.aload_n 0, 1) := by decide +kernel
theorem dX11_readText_33 : decode cX11_readText 33 = .ok (.getfield 14, 3) := by decide +kernel
theorem dX11_readText_36 : decode cX11_readText 36 = .ok (.iload_n 1, 1) := by decide +kernel
theorem dX11_readText_37 : decode cX11_readText 37 = .ok (.invokespecial 9, 3) := by decide +kernel
theorem dX11_readText_40 : decode cX11_readText 40 = .ok (.areturn, 1) := by decide +kernel
theorem dX12_init_0 : decode cX12_init 0 = .ok (.aload_n 0, 1) := by decide +kernel
theorem dX12_init_1 : decode cX12_init 1 = .ok (.invokespecial 1, 3) := by decide +kernel
theorem dX12_init_4 : decode cX12_init 4 = .ok (.aload_n 0, 1) := by decide +kernel
theorem dX12_init_5 : decode cX12_init 5 = .ok (.sipush 2718, 3) := by decide +kernel
theorem dX12_init_8 : decode cX12_init 8 = .ok (.newarray .int, 2) := by decide +kernel
theorem dX12_init_10 : decode cX12_init 10 = .ok (.putfield 9, 3) := by decide +kernel
theorem dX12_init_13 : decode cX12_init 13 = .ok (.aload_n 0, 1) := by decide +kernel
theorem dX12_init_14 : decode cX12_init 14 = .ok (.sipush 3800, 3) := by decide +kernel
theorem dX12_init_17 : decode cX12_init 17 = .ok (.newarray .long, 2) := by decide +kernel
theorem dX12_init_19 : decode cX12_init 19 = .ok (.putfield 13, 3) := by decide +kernel
theorem dX12_init_22 : decode cX12_init 22 = .ok (.aload_n 0, 1) := by decide +kernel
theorem dX12_init_23 : decode cX12_init 23 = .ok (.bipush 6, 2) := by decide +kernel
theorem dX12_init_25 : decode cX12_init 25 = .ok (.newarray .float, 2) := by decide +kernel
theorem dX12_init_27 : decode cX12_init 27 = .ok (.putfield 17, 3) := by decide +kernel
theorem dX12_init_30 : decode cX12_init 30 = .ok (.aload_n 0, 1) := by decide +kernel
theorem dX12_init_31 : decode cX12_init 31 = .ok (.sipush 2718, 3) := by decide +kernel
theorem dX12_init_34 : decode cX12_init 34 = .ok (.newarray .int, 2) := by decide +kernel
theorem dX12_init_36 : decode cX12_init 36 = .ok (.putfield 21, 3) := by decide +kernel
theorem dX12_init_39 : decode cX12_init 39 = .ok (.aload_n 0, 1) := by decide +kernel
theorem dX12_init_40 : decode cX12_init 40 = .ok (.sipush 3800, 3) := by decide +kernel
theorem dX12_init_43 : decode cX12_init 43 = .ok (.newarray .long, 2) := by decide +kernel
theorem dX12_init_45 : decode cX12_init 45 = .ok (.putfield 24, 3) := by decide +kernel
theorem dX12_init_48 : decode cX12_init 48 = .ok (.aload_n 0, 1) := by decide +kernel
theorem dX12_init_49 : decode cX12_init 49 = .ok (.bipush 6, 2) := by decide +kernel
theorem dX12_init_51 : decode cX12_init 51 = .ok (.newarray .float, 2) := by decide +kernel
theorem dX12_init_53 : decode cX12_init 53 = .ok (.putfield 27, 3) := by decide +kernel
theorem dX12_init_56 : decode cX12_init 56 = .ok (.aload_n 0, 1) := by decide +kernel
theorem dX12_init_57 : decode cX12_init 57 = .ok (.bipush 30, 2) := by decide +kernel
theorem dX12_init_59 : decode cX12_init 59 = .ok (.newarray .int, 2) := by decide +kernel
theorem dX12_init_61 : decode cX12_init 61 = .ok (.putfield 30, 3) := by decide +kernel
theorem dX12_init_64 : decode cX12_init 64 = .ok (.aload_n 0, 1) := by decide +kernel
theorem dX12_init_65 : decode cX12_init 65 = .ok (.iconst (-1), 1) := by decide +kernel
theorem dX12_init_66 : decode cX12_init 66 = .ok (.putfield 33, 3) := by decide +kernel
theorem dX12_init_69 : decode cX12_init 69 = .ok (.aload_n 0, 1) := by decide +kernel
theorem dX12_init_70 : decode cX12_init 70 = .ok (.iconst 4, 1) := by decide +kernel
theorem dX12_init_71 : decode cX12_init 71 = .ok (.newarray .long, 2) := by decide +kernel
theorem dX12_init_73 : decode cX12_init 73 = .ok (.putfield 37, 3) := by decide +kernel
theorem dX12_init_76 : decode cX12_init 76 = .ok (.aload_n 0, 1) := by decide +kernel
theorem dX12_init_77 : decode cX12_init 77 = .ok (.iconst 4, 1) := by decide +kernel
theorem dX12_init_78 : decode cX12_init 78 = .ok (.newarray .long, 2) := by decide +kernel
theorem dX12_init_80 : decode cX12_init 80 = .ok (.putfield 40, 3) := by decide +kernel
theorem dX12_init_83 : decode cX12_init 83 = .ok (.aload_n 0, 1) := by decide +kernel
theorem dX12_init_84 : decode cX12_init 84 = .ok (.iconst 4, 1) := by decide +kernel
theorem dX12_init_85 : decode cX12_init 85 = .ok (.newarray .long, 2) := by decide +kernel
theorem dX12_init_87 : decode cX12_init 87 = .ok (.putfield 43, 3) := by decide +kernel
theorem dX12_init_90 : decode cX12_init 90 = .ok (.aload_n 0, 1) := by decide +kernel
theorem dX12_init_91 : decode cX12_init 91 = .ok (.bipush 6, 2) := by decide +kernel
theorem dX12_init_93 : decode cX12_init 93 = .ok (.newarray .int, 2) := by decide +kernel
theorem dX12_init_95 : decode cX12_init 95 = .ok (.putfield 46, 3) := by decide +kernel
theorem dX12_init_98 : decode cX12_init 98 = .ok (.aload_n 0, 1) := by decide +kernel
theorem dX12_init_99 : decode cX12_init 99 = .ok (.iconst 4, 1) := by decide +kernel
theorem dX12_init_100 : decode cX12_init 100 = .ok (.newarray .long, 2) := by decide +kernel
theorem dX12_init_102 : decode cX12_init 102 = .ok (.putfield 49, 3) := by decide +kernel
theorem dX12_init_105 : decode cX12_init 105 = .ok (.aload_n 0, 1) := by decide +kernel
theorem dX12_init_106 : decode cX12_init 106 = .ok (.getfield 9, 3) := by decide +kernel
theorem dX12_init_109 : decode cX12_init 109 = .ok (.iconst 1, 1) := by decide +kernel
theorem dX12_init_110 : decode cX12_init 110 = .ok (.iconst 3, 1) := by decide +kernel
theorem dX12_init_111 : decode cX12_init 111 = .ok (.iastore, 1) := by decide +kernel
theorem dX12_init_112 : decode cX12_init 112 = .ok (.aload_n 0, 1) := by decide +kernel
theorem dX12_init_113 : decode cX12_init 113 = .ok (.getfield 9, 3) := by decide +kernel
theorem dX12_init_116 : decode cX12_init 116 = .ok (.iconst 3, 1) := by decide +kernel
theorem dX12_init_117 : decode cX12_init 117 = .ok (.bipush 20, 2) := by decide +kernel
theorem dX12_init_119 : decode cX12_init 119 = .ok (.iastore, 1) := by decide +kernel
theorem dX12_init_120 : decode cX12_init 120 = .ok (.return_, 1) := by decide +kernel
theorem dX12_thrown_0 : decode cX12_thrown 0 = .ok (.aload_n 0, 1) := by decide +kernel
theorem dX12_thrown_1 : decode cX12_thrown 1 = .ok (.getfield 52, 3) := by decide +kernel
theorem dX12_thrown_4 : decode cX12_thrown 4 = .ok (.ireturn, 1) := by decide +kernel
theorem dX12_fails_0 : decode cX12_fails 0 = .ok (.aload_n 0, 1) := by decide +kernel
theorem dX12_fails_1 : decode cX12_fails 1 = .ok (.iload_n 1, 1) := by decide +kernel
theorem dX12_fails_2 : decode cX12_fails 2 = .ok (.putfield 52, 3) := by decide +kernel
theorem dX12_fails_5 : decode cX12_fails 5 = .ok (.iconst 0, 1) := by decide +kernel
theorem dX12_fails_6 : decode cX12_fails 6 = .ok (.ireturn, 1) := by decide +kernel
theorem dX12_in_0 : decode cX12_in 0 = .ok (.iload_n 0, 1) := by decide +kernel
theorem dX12_in_1 : decode cX12_in 1 = .ok (.iload_n 1, 1) := by decide +kernel
theorem dX12_in_2 : decode cX12_in 2 = .ok (.if_icmp .lt 12, 3) := by decide +kernel
theorem dX12_in_5 : decode cX12_in 5 = .ok (.iload_n 0, 1) := by decide +kernel
theorem dX12_in_6 : decode cX12_in 6 = .ok (.iload_n 2, 1) := by decide +kernel
theorem dX12_in_7 : decode cX12_in 7 = .ok (.if_icmp .gt 7, 3) := by decide +kernel
theorem dX12_in_10 : decode cX12_in 10 = .ok (.iconst 1, 1) := by decide +kernel
theorem dX12_in_11 : decode cX12_in 11 = .ok (.goto 4, 3) := by decide +kernel
theorem dX12_in_14 : decode cX12_in 14 = .ok (.iconst 0, 1) := by decide +kernel
theorem dX12_in_15 : decode cX12_in 15 = .ok (.ireturn, 1) := by decide +kernel
theorem dX12_isClient_0 : decode cX12_isClient 0 = .ok (.iload_n 0, 1) := by decide +kernel
theorem dX12_isClient_1 : decode cX12_isClient 1 = .ok (.iconst 0, 1) := by decide +kernel
theorem dX12_isClient_2 : decode cX12_isClient 2 = .ok (.iconst 5, 1) := by decide +kernel
theorem dX12_isClient_3 : decode cX12_isClient 3 = .ok (.invokestatic 55, 3) := by decide +kernel
theorem dX12_isClient_6 : decode cX12_isClient 6 = .ok (.ireturn, 1) := by decide +kernel
theorem dX12_lesser_0 : decode cX12_lesser 0 = .ok (.iload_n 0, 1) := by decide +kernel
theorem dX12_lesser_1 : decode cX12_lesser 1 = .ok (.iload_n 1, 1) := by decide +kernel
theorem dX12_lesser_2 : decode cX12_lesser 2 = .ok (.if_icmp .ge 7, 3) := by decide +kernel
theorem dX12_lesser_5 : decode cX12_lesser 5 = .ok (.iload_n 0, 1) := by decide +kernel
theorem dX12_lesser_6 : decode cX12_lesser 6 = .ok (.goto 4, 3) := by decide +kernel
theorem dX12_lesser_9 : decode cX12_lesser 9 = .ok (.iload_n 1, 1) := by decide +kernel
theorem dX12_lesser_10 : decode cX12_lesser 10 = .ok (.ireturn, 1) := by decide +kernel
theorem dX12_isOn_0 : decode cX12_isOn 0 = .ok (.aload_n 0, 1) := by decide +kernel
theorem dX12_isOn_1 : decode cX12_isOn 1 = .ok (.getfield 9, 3) := by decide +kernel
theorem dX12_isOn_4 : decode cX12_isOn 4 = .ok (.bipush 32, 2) := by decide +kernel
theorem dX12_isOn_6 : decode cX12_isOn 6 = .ok (.iload_n 1, 1) := by decide +kernel
theorem dX12_isOn_7 : decode cX12_isOn 7 = .ok (.iadd, 1) := by decide +kernel
theorem dX12_isOn_8 : decode cX12_isOn 8 = .ok (.iaload, 1) := by decide +kernel
theorem dX12_isOn_9 : decode cX12_isOn 9 = .ok (.iconst 1, 1) := by decide +kernel
theorem dX12_isOn_10 : decode cX12_isOn 10 = .ok (.if_icmp .ne 7, 3) := by decide +kernel
theorem dX12_isOn_13 : decode cX12_isOn 13 = .ok (.iconst 1, 1) := by decide +kernel
theorem dX12_isOn_14 : decode cX12_isOn 14 = .ok (.goto 4, 3) := by decide +kernel
theorem dX12_isOn_17 : decode cX12_isOn 17 = .ok (.iconst 0, 1) := by decide +kernel
theorem dX12_isOn_18 : decode cX12_isOn 18 = .ok (.ireturn, 1) := by decide +kernel
theorem dX12_sign_0 : decode cX12_sign 0 = .ok (.iload_n 0, 1) := by decide +kernel
theorem dX12_sign_1 : decode cX12_sign 1 = .ok (.bipush 48, 2) := by decide +kernel
theorem dX12_sign_3 : decode cX12_sign 3 = .ok (.bipush 57, 2) := by decide +kernel
theorem dX12_sign_5 : decode cX12_sign 5 = .ok (.invokestatic 55, 3) := by decide +kernel
theorem dX12_sign_8 : decode cX12_sign 8 = .ok (.ifCond .eq 12, 3) := by decide +kernel
theorem dX12_sign_11 : decode cX12_sign 11 = .ok (.iload_n 0, 1) := by decide +kernel
theorem dX12_sign_12 : decode cX12_sign 12 = .ok (.bipush 48, 2) := by decide +kernel
theorem dX12_sign_14 : decode cX12_sign 14 = .ok (.isub, 1) := by decide +kernel
theorem dX12_sign_15 : decode cX12_sign 15 = .ok (.iconst 1, 1) := by decide +kernel
theorem dX12_sign_16 : decode cX12_sign 16 = .ok (.iadd, 1) := by decide +kernel
theorem dX12_sign_17 : decode cX12_sign 17 = .ok (.goto 25, 3) := by decide +kernel
theorem dX12_sign_20 : decode cX12_sign 20 = .ok (.iload_n 0, 1) := by decide +kernel
theorem dX12_sign_21 : decode cX12_sign 21 = .ok (.bipush 97, 2) := by decide +kernel
theorem dX12_sign_23 : decode cX12_sign 23 = .ok (.bipush 122, 2) := by decide +kernel
theorem dX12_sign_25 : decode cX12_sign 25 = .ok (.invokestatic 55, 3) := by decide +kernel
theorem dX12_sign_28 : decode cX12_sign 28 = .ok (.ifCond .eq 13, 3) := by decide +kernel
theorem dX12_sign_31 : decode cX12_sign 31 = .ok (.iload_n 0, 1) := by decide +kernel
theorem dX12_sign_32 : decode cX12_sign 32 = .ok (.bipush 97, 2) := by decide +kernel
theorem dX12_sign_34 : decode cX12_sign 34 = .ok (.isub, 1) := by decide +kernel
theorem dX12_sign_35 : decode cX12_sign 35 = .ok (.bipush 11, 2) := by decide +kernel
theorem dX12_sign_37 : decode cX12_sign 37 = .ok (.iadd, 1) := by decide +kernel
theorem dX12_sign_38 : decode cX12_sign 38 = .ok (.goto 4, 3) := by decide +kernel
theorem dX12_sign_41 : decode cX12_sign 41 = .ok (.iconst 0, 1) := by decide +kernel
theorem dX12_sign_42 : decode cX12_sign 42 = .ok (.ireturn, 1) := by decide +kernel
theorem dX12_signHere_0 : decode cX12_signHere 0 = .ok (.iload_n 1, 1) := by decide +kernel
theorem dX12_signHere_1 : decode cX12_signHere 1 = .ok (.aload_n 0, 1) := by decide +kernel
theorem dX12_signHere_2 : decode cX12_signHere 2 = .ok (.getfield 59, 3) := by decide +kernel
theorem dX12_signHere_5 : decode cX12_signHere 5 = .ok (.if_icmp .ge 15, 3) := by decide +kernel
theorem dX12_signHere_8 : decode cX12_signHere 8 = .ok (.aload_n 0, 1) := by decide +kernel
theorem dX12_signHere_9 : decode cX12_signHere 9 = .ok (.getfield 30, 3) := by decide +kernel
theorem dX12_signHere_12 : decode cX12_signHere 12 = .ok (.iload_n 1, 1) := by decide +kernel
theorem dX12_signHere_13 : decode cX12_signHere 13 = .ok (.iaload, 1) := by decide +kernel
theorem dX12_signHere_14 : decode cX12_signHere 14 = .ok (.invokestatic 62, 3) := by decide +kernel
theorem dX12_signHere_17 : decode cX12_signHere 17 = .ok (.goto 4, 3) := by decide +kernel
theorem dX12_signHere_20 : decode cX12_signHere 20 = .ok (.iconst 0, 1) := by decide +kernel
theorem dX12_signHere_21 : decode cX12_signHere 21 = .ok (.ireturn, 1) := by decide +kernel
theorem dX12_reads_0 : decode cX12_reads 0 = .ok (.iconst 0, 1) := by decide +kernel
theorem dX12_reads_1 : decode cX12_reads 1 = .ok (.istore_n 2, 1) := by decide +kernel
theorem dX12_reads_2 : decode cX12_reads 2 = .ok (.iload_n 2, 1) := by decide +kernel
theorem dX12_reads_3 : decode cX12_reads 3 = .ok (.iconst 4, 1) := by decide +kernel
theorem dX12_reads_4 : decode cX12_reads 4 = .ok (.if_icmp .ge 16, 3) := by decide +kernel
theorem dX12_reads_7 : decode cX12_reads 7 = .ok (.aload_n 0, 1) := by decide +kernel
theorem dX12_reads_8 : decode cX12_reads 8 = .ok (.getfield 37, 3) := by decide +kernel
theorem dX12_reads_11 : decode cX12_reads 11 = .ok (.iload_n 2, 1) := by decide +kernel
theorem dX12_reads_12 : decode cX12_reads 12 = .ok (.lconst 0, 1) := by decide +kernel
theorem dX12_reads_13 : decode cX12_reads 13 = .ok (.lastore, 1) := by decide +kernel
theorem dX12_reads_14 : decode cX12_reads 14 = .ok (.iinc 2 1, 3) := by decide +kernel
theorem dX12_reads_17 : decode cX12_reads 17 = .ok (.goto (-15), 3) := by decide +kernel
theorem dX12_reads_20 : decode cX12_reads 20 = .ok (.aload_n 0, 1) := by decide +kernel
theorem dX12_reads_21 : decode cX12_reads 21 = .ok (.iconst 0, 1) := by decide +kernel
theorem dX12_reads_22 : decode cX12_reads 22 = .ok (.putfield 66, 3) := by decide +kernel
theorem dX12_reads_25 : decode cX12_reads 25 = .ok (.aload_n 0, 1) := by decide +kernel
theorem dX12_reads_26 : decode cX12_reads 26 = .ok (.iconst (-1), 1) := by decide +kernel
theorem dX12_reads_27 : decode cX12_reads 27 = .ok (.putfield 33, 3) := by decide +kernel
theorem dX12_reads_30 : decode cX12_reads 30 = .ok (.iconst 0, 1) := by decide +kernel
theorem dX12_reads_31 : decode cX12_reads 31 = .ok (.istore_n 2, 1) := by decide +kernel
theorem dX12_reads_32 : decode cX12_reads 32 = .ok (.iconst 1, 1) := by decide +kernel
theorem dX12_reads_33 : decode cX12_reads 33 = .ok (.istore_n 3, 1) := by decide +kernel
theorem dX12_reads_34 : decode cX12_reads 34 = .ok (.iload_n 3, 1) := by decide +kernel
theorem dX12_reads_35 : decode cX12_reads 35 = .ok (.ifCond .eq 274, 3) := by decide +kernel
theorem dX12_reads_38 : decode cX12_reads 38 = .ok (.iload_n 2, 1) := by decide +kernel
theorem dX12_reads_39 : decode cX12_reads 39 = .ok (.istore 4, 2) := by decide +kernel
theorem dX12_reads_41 : decode cX12_reads 41 = .ok (.iload_n 1, 1) := by decide +kernel
theorem dX12_reads_42 : decode cX12_reads 42 = .ok (.ifCond .eq 37, 3) := by decide +kernel
theorem dX12_reads_45 : decode cX12_reads 45 = .ok (.iload_n 2, 1) := by decide +kernel
theorem dX12_reads_46 : decode cX12_reads 46 = .ok (.aload_n 0, 1) := by decide +kernel
theorem dX12_reads_47 : decode cX12_reads 47 = .ok (.getfield 59, 3) := by decide +kernel
theorem dX12_reads_50 : decode cX12_reads 50 = .ok (.if_icmp .ge 29, 3) := by decide +kernel
theorem dX12_reads_53 : decode cX12_reads 53 = .ok (.aload_n 0, 1) := by decide +kernel
theorem dX12_reads_54 : decode cX12_reads 54 = .ok (.getfield 30, 3) := by decide +kernel
theorem dX12_reads_57 : decode cX12_reads 57 = .ok (.iload_n 2, 1) := by decide +kernel
theorem dX12_reads_58 : decode cX12_reads 58 = .ok (.iaload, 1) := by decide +kernel
theorem dX12_reads_59 : decode cX12_reads 59 = .ok (.bipush 43, 2) := by decide +kernel
theorem dX12_reads_61 : decode cX12_reads 61 = .ok (.if_icmp .eq 14, 3) := by decide +kernel
theorem dX12_reads_64 : decode cX12_reads 64 = .ok (.aload_n 0, 1) := by decide +kernel
theorem dX12_reads_65 : decode cX12_reads 65 = .ok (.getfield 30, 3) := by decide +kernel
theorem dX12_reads_68 : decode cX12_reads 68 = .ok (.iload_n 2, 1) := by decide +kernel
theorem dX12_reads_69 : decode cX12_reads 69 = .ok (.iaload, 1) := by decide +kernel
theorem dX12_reads_70 : decode cX12_reads 70 = .ok (.bipush 35, 2) := by decide +kernel
theorem dX12_reads_72 : decode cX12_reads 72 = .ok (.if_icmp .ne 7, 3) := by decide +kernel
theorem dX12_reads_75 : decode cX12_reads 75 = .ok (.iconst 1, 1) := by decide +kernel
theorem dX12_reads_76 : decode cX12_reads 76 = .ok (.goto 4, 3) := by decide +kernel
theorem dX12_reads_79 : decode cX12_reads 79 = .ok (.iconst 0, 1) := by decide +kernel
theorem dX12_reads_80 : decode cX12_reads 80 = .ok (.istore 5, 2) := by decide +kernel
theorem dX12_reads_82 : decode cX12_reads 82 = .ok (.iload 5, 2) := by decide +kernel
theorem dX12_reads_84 : decode cX12_reads 84 = .ok (.ifCond .eq 18, 3) := by decide +kernel
theorem dX12_reads_87 : decode cX12_reads 87 = .ok (.aload_n 0, 1) := by decide +kernel
theorem dX12_reads_88 : decode cX12_reads 88 = .ok (.getfield 30, 3) := by decide +kernel
theorem dX12_reads_91 : decode cX12_reads 91 = .ok (.iload_n 2, 1) := by decide +kernel
theorem dX12_reads_92 : decode cX12_reads 92 = .ok (.iaload, 1) := by decide +kernel
theorem dX12_reads_93 : decode cX12_reads 93 = .ok (.bipush 35, 2) := by decide +kernel
theorem dX12_reads_95 : decode cX12_reads 95 = .ok (.if_icmp .ne 7, 3) := by decide +kernel
theorem dX12_reads_98 : decode cX12_reads 98 = .ok (.iconst 1, 1) := by decide +kernel
theorem dX12_reads_99 : decode cX12_reads 99 = .ok (.goto 4, 3) := by decide +kernel
theorem dX12_reads_102 : decode cX12_reads 102 = .ok (.iconst 0, 1) := by decide +kernel
theorem dX12_reads_103 : decode cX12_reads 103 = .ok (.istore 6, 2) := by decide +kernel
theorem dX12_reads_105 : decode cX12_reads 105 = .ok (.lconst 0, 1) := by decide +kernel
theorem dX12_reads_106 : decode cX12_reads 106 = .ok (.lstore 7, 2) := by decide +kernel
theorem dX12_reads_108 : decode cX12_reads 108 = .ok (.iconst 0, 1) := by decide +kernel
theorem dX12_reads_109 : decode cX12_reads 109 = .ok (.istore 9, 2) := by decide +kernel
theorem dX12_reads_111 : decode cX12_reads 111 = .ok (.iload 5, 2) := by decide +kernel
theorem dX12_reads_113 : decode cX12_reads 113 = .ok (.ifCond .ne 42, 3) := by decide +kernel
theorem dX12_reads_116 : decode cX12_reads 116 = .ok (.iload 9, 2) := by decide +kernel
theorem dX12_reads_118 : decode cX12_reads 118 = .ok (.bipush 6, 2) := by decide +kernel
theorem dX12_reads_120 : decode cX12_reads 120 = .ok (.if_icmp .ge 35, 3) := by decide +kernel
theorem dX12_reads_123 : decode cX12_reads 123 = .ok (.aload_n 0, 1) := by decide +kernel
theorem dX12_reads_124 : decode cX12_reads 124 = .ok (.iload_n 2, 1) := by decide +kernel
theorem dX12_reads_125 : decode cX12_reads 125 = .ok (.invokevirtual 69, 3) := by decide +kernel
theorem dX12_reads_128 : decode cX12_reads 128 = .ok (.ifCond .le 27, 3) := by decide +kernel
theorem dX12_reads_131 : decode cX12_reads 131 = .ok (.ldc2_w 72, 3) := by decide +kernel
theorem dX12_reads_134 : decode cX12_reads 134 = .ok (.lload 7, 2) := by decide +kernel
theorem dX12_reads_136 : decode cX12_reads 136 = .ok (.lmul, 1) := by decide +kernel
theorem dX12_reads_137 : decode cX12_reads 137 = .ok (.aload_n 0, 1) := by decide +kernel
theorem dX12_reads_138 : decode cX12_reads 138 = .ok (.iload_n 2, 1) := by decide +kernel
theorem dX12_reads_139 : decode cX12_reads 139 = .ok (.invokevirtual 69, 3) := by decide +kernel
theorem dX12_reads_142 : decode cX12_reads 142 = .ok (.i2l, 1) := by decide +kernel
theorem dX12_reads_143 : decode cX12_reads 143 = .ok (.ladd, 1) := by decide +kernel
theorem dX12_reads_144 : decode cX12_reads 144 = .ok (.lstore 7, 2) := by decide +kernel
theorem dX12_reads_146 : decode cX12_reads 146 = .ok (.iinc 9 1, 3) := by decide +kernel
theorem dX12_reads_149 : decode cX12_reads 149 = .ok (.iinc 2 1, 3) := by decide +kernel
theorem dX12_reads_152 : decode cX12_reads 152 = .ok (.goto (-41), 3) := by decide +kernel
theorem dX12_reads_155 : decode cX12_reads 155 = .ok (.iload 9, 2) := by decide +kernel
theorem dX12_reads_157 : decode cX12_reads 157 = .ok (.istore 10, 2) := by decide +kernel
theorem dX12_reads_159 : decode cX12_reads 159 = .ok (.iload 10, 2) := by decide +kernel
theorem dX12_reads_161 : decode cX12_reads 161 = .ok (.bipush 6, 2) := by decide +kernel
theorem dX12_reads_163 : decode cX12_reads 163 = .ok (.if_icmp .ge 17, 3) := by decide +kernel
theorem dX12_reads_166 : decode cX12_reads 166 = .ok (.lload 7, 2) := by decide +kernel
theorem dX12_reads_168 : decode cX12_reads 168 = .ok (.ldc2_w 72, 3) := by decide +kernel
theorem dX12_reads_171 : decode cX12_reads 171 = .ok (.lmul, 1) := by decide +kernel
theorem dX12_reads_172 : decode cX12_reads 172 = .ok (.lstore 7, 2) := by decide +kernel
theorem dX12_reads_174 : decode cX12_reads 174 = .ok (.iinc 10 1, 3) := by decide +kernel
theorem dX12_reads_177 : decode cX12_reads 177 = .ok (.goto (-18), 3) := by decide +kernel
theorem dX12_reads_180 : decode cX12_reads 180 = .ok (.iload_n 2, 1) := by decide +kernel
theorem dX12_reads_181 : decode cX12_reads 181 = .ok (.iload 5, 2) := by decide +kernel
theorem dX12_reads_183 : decode cX12_reads 183 = .ok (.ifCond .eq 7, 3) := by decide +kernel
theorem dX12_reads_186 : decode cX12_reads 186 = .ok (.iconst 1, 1) := by decide +kernel
theorem dX12_reads_187 : decode cX12_reads 187 = .ok (.goto 4, 3) := by decide +kernel
theorem dX12_reads_190 : decode cX12_reads 190 = .ok (.iconst 0, 1) := by decide +kernel
theorem dX12_reads_191 : decode cX12_reads 191 = .ok (.iadd, 1) := by decide +kernel
theorem dX12_reads_192 : decode cX12_reads 192 = .ok (.istore_n 2, 1) := by decide +kernel
theorem dX12_reads_193 : decode cX12_reads 193 = .ok (.iconst 0, 1) := by decide +kernel
theorem dX12_reads_194 : decode cX12_reads 194 = .ok (.istore_n 3, 1) := by decide +kernel
theorem dX12_reads_195 : decode cX12_reads 195 = .ok (.iload_n 2, 1) := by decide +kernel
theorem dX12_reads_196 : decode cX12_reads 196 = .ok (.iload 4, 2) := by decide +kernel
theorem dX12_reads_198 : decode cX12_reads 198 = .ok (.if_icmp .ne 11, 3) := by decide +kernel
theorem dX12_reads_201 : decode cX12_reads 201 = .ok (.aload_n 0, 1) := by decide +kernel
theorem dX12_reads_202 : decode cX12_reads 202 = .ok (.iload_n 2, 1) := by decide +kernel
theorem dX12_reads_203 : decode cX12_reads 203 = .ok (.putfield 33, 3) := by decide +kernel
theorem dX12_reads_206 : decode cX12_reads 206 = .ok (.goto 100, 3) := by decide +kernel
theorem dX12_reads_209 : decode cX12_reads 209 = .ok (.aload_n 0, 1) := by decide +kernel
theorem dX12_reads_210 : decode cX12_reads 210 = .ok (.getfield 37, 3) := by decide +kernel
theorem dX12_reads_213 : decode cX12_reads 213 = .ok (.aload_n 0, 1) := by decide +kernel
theorem dX12_reads_214 : decode cX12_reads 214 = .ok (.getfield 66, 3) := by decide +kernel
theorem dX12_reads_217 : decode cX12_reads 217 = .ok (.iload 6, 2) := by decide +kernel
theorem dX12_reads_219 : decode cX12_reads 219 = .ok (.ifCond .eq 9, 3) := by decide +kernel
theorem dX12_reads_222 : decode cX12_reads 222 = .ok (.ldc2_w 74, 3) := by decide +kernel
theorem dX12_reads_225 : decode cX12_reads 225 = .ok (.goto 16, 3) := by decide +kernel
theorem dX12_reads_228 : decode cX12_reads 228 = .ok (.iload 5, 2) := by decide +kernel
theorem dX12_reads_230 : decode cX12_reads 230 = .ok (.ifCond .eq 9, 3) := by decide +kernel
theorem dX12_reads_233 : decode cX12_reads 233 = .ok (.ldc2_w 76, 3) := by decide +kernel
theorem dX12_reads_236 : decode cX12_reads 236 = .ok (.goto 5, 3) := by decide +kernel
theorem dX12_reads_239 : decode cX12_reads 239 = .ok (.lload 7, 2) := by decide +kernel
theorem dX12_reads_241 : decode cX12_reads 241 = .ok (.lastore, 1) := by decide +kernel
theorem dX12_reads_242 : decode cX12_reads 242 = .ok (.aload_n 0, 1) := by decide +kernel
theorem dX12_reads_243 : decode cX12_reads 243 = .ok (.dup, 1) := by decide +kernel
theorem dX12_reads_244 : decode cX12_reads 244 = .ok (.getfield 66, 3) := by decide +kernel
theorem dX12_reads_247 : decode cX12_reads 247 = .ok (.iconst 1, 1) := by decide +kernel
theorem dX12_reads_248 : decode cX12_reads 248 = .ok (.iadd, 1) := by decide +kernel
theorem dX12_reads_249 : decode cX12_reads 249 = .ok (.putfield 66, 3) := by decide +kernel
theorem dX12_reads_252 : decode cX12_reads 252 = .ok (.iload_n 2, 1) := by decide +kernel
theorem dX12_reads_253 : decode cX12_reads 253 = .ok (.aload_n 0, 1) := by decide +kernel
theorem dX12_reads_254 : decode cX12_reads 254 = .ok (.getfield 59, 3) := by decide +kernel
theorem dX12_reads_257 : decode cX12_reads 257 = .ok (.if_icmp .ge 49, 3) := by decide +kernel
theorem dX12_reads_260 : decode cX12_reads 260 = .ok (.iload 6, 2) := by decide +kernel
theorem dX12_reads_262 : decode cX12_reads 262 = .ok (.ifCond .ne 26, 3) := by decide +kernel
theorem dX12_reads_265 : decode cX12_reads 265 = .ok (.aload_n 0, 1) := by decide +kernel
theorem dX12_reads_266 : decode cX12_reads 266 = .ok (.getfield 66, 3) := by decide +kernel
theorem dX12_reads_269 : decode cX12_reads 269 = .ok (.iconst 4, 1) := by decide +kernel
theorem dX12_reads_270 : decode cX12_reads 270 = .ok (.if_icmp .ge 18, 3) := by decide +kernel
theorem dX12_reads_273 : decode cX12_reads 273 = .ok (.aload_n 0, 1) := by decide +kernel
theorem dX12_reads_274 : decode cX12_reads 274 = .ok (.getfield 30, 3) := by decide +kernel
theorem dX12_reads_277 : decode cX12_reads 277 = .ok (.iload_n 2, 1) := by decide +kernel
theorem dX12_reads_278 : decode cX12_reads 278 = .ok (.iaload, 1) := by decide +kernel
theorem dX12_reads_279 : decode cX12_reads 279 = .ok (.bipush 47, 2) := by decide +kernel
theorem dX12_reads_281 : decode cX12_reads 281 = .ok (.if_icmp .ne 7, 3) := by decide +kernel
theorem dX12_reads_284 : decode cX12_reads 284 = .ok (.iconst 1, 1) := by decide +kernel
theorem dX12_reads_285 : decode cX12_reads 285 = .ok (.goto 4, 3) := by decide +kernel
theorem dX12_reads_288 : decode cX12_reads 288 = .ok (.iconst 0, 1) := by decide +kernel
theorem dX12_reads_289 : decode cX12_reads 289 = .ok (.istore_n 3, 1) := by decide +kernel
theorem dX12_reads_290 : decode cX12_reads 290 = .ok (.aload_n 0, 1) := by decide +kernel
theorem dX12_reads_291 : decode cX12_reads 291 = .ok (.iload_n 3, 1) := by decide +kernel
theorem dX12_reads_292 : decode cX12_reads 292 = .ok (.ifCond .eq 7, 3) := by decide +kernel
theorem dX12_reads_295 : decode cX12_reads 295 = .ok (.iconst (-1), 1) := by decide +kernel
theorem dX12_reads_296 : decode cX12_reads 296 = .ok (.goto 4, 3) := by decide +kernel
theorem dX12_reads_299 : decode cX12_reads 299 = .ok (.iload_n 2, 1) := by decide +kernel
theorem dX12_reads_300 : decode cX12_reads 300 = .ok (.putfield 33, 3) := by decide +kernel
theorem dX12_reads_303 : decode cX12_reads 303 = .ok (.iinc 2 1, 3) := by decide +kernel
theorem dX12_reads_306 : decode cX12_reads 306 = .ok (.goto (-272), 3) := by decide +kernel
theorem dX12_reads_309 : decode cX12_reads 309 = .ok (.aload_n 0, 1) := by decide +kernel
theorem dX12_reads_310 : decode cX12_reads 310 = .ok (.iconst 0, 1) := by decide +kernel
theorem dX12_reads_311 : decode cX12_reads 311 = .ok (.putfield 59, 3) := by decide +kernel
theorem dX12_reads_314 : decode cX12_reads 314 = .ok (.aload_n 0, 1) := by decide +kernel
theorem dX12_reads_315 : decode cX12_reads 315 = .ok (.getfield 33, 3) := by decide +kernel
theorem dX12_reads_318 : decode cX12_reads 318 = .ok (.iconst (-1), 1) := by decide +kernel
theorem dX12_reads_319 : decode cX12_reads 319 = .ok (.if_icmp .ne 7, 3) := by decide +kernel
theorem dX12_reads_322 : decode cX12_reads 322 = .ok (.iconst 1, 1) := by decide +kernel
theorem dX12_reads_323 : decode cX12_reads 323 = .ok (.goto 4, 3) := by decide +kernel
theorem dX12_reads_326 : decode cX12_reads 326 = .ok (.iconst 0, 1) := by decide +kernel
theorem dX12_reads_327 : decode cX12_reads 327 = .ok (.ireturn, 1) := by decide +kernel
theorem dX12_signsOf_0 : decode cX12_signsOf 0 = .ok (.bipush 6, 2) := by decide +kernel
theorem dX12_signsOf_2 : decode cX12_signsOf 2 = .ok (.istore_n 2, 1) := by decide +kernel
theorem dX12_signsOf_3 : decode cX12_signsOf 3 = .ok (.lload_n 0, 1) := by decide +kernel
theorem dX12_signsOf_4 : decode cX12_signsOf 4 = .ok (.lstore_n 3, 1) := by decide +kernel
theorem dX12_signsOf_5 : decode cX12_signsOf 5 = .ok (.iload_n 2, 1) := by decide +kernel
theorem dX12_signsOf_6 : decode cX12_signsOf 6 = .ok (.ifCond .le 25, 3) := by decide +kernel
theorem dX12_signsOf_9 : decode cX12_signsOf 9 = .ok (.lload_n 3, 1) := by decide +kernel
theorem dX12_signsOf_10 : decode cX12_signsOf 10 = .ok (.ldc2_w 72, 3) := by decide +kernel
theorem dX12_signsOf_13 : decode cX12_signsOf 13 = .ok (.lrem, 1) := by decide +kernel
theorem dX12_signsOf_14 : decode cX12_signsOf 14 = .ok (.lconst 0, 1) := by decide +kernel
theorem dX12_signsOf_15 : decode cX12_signsOf 15 = .ok (.lcmp, 1) := by decide +kernel
theorem dX12_signsOf_16 : decode cX12_signsOf 16 = .ok (.ifCond .ne 15, 3) := by decide +kernel
theorem dX12_signsOf_19 : decode cX12_signsOf 19 = .ok (.iinc 2 (-1), 3) := by decide +kernel
theorem dX12_signsOf_22 : decode cX12_signsOf 22 = .ok (.lload_n 3, 1) := by decide +kernel
theorem dX12_signsOf_23 : decode cX12_signsOf 23 = .ok (.ldc2_w 72, 3) := by decide +kernel
theorem dX12_signsOf_26 : decode cX12_signsOf 26 = .ok (.ldiv, 1) := by decide +kernel
theorem dX12_signsOf_27 : decode cX12_signsOf 27 = .ok (.lstore_n 3, 1) := by decide +kernel
theorem dX12_signsOf_28 : decode cX12_signsOf 28 = .ok (.goto (-23), 3) := by decide +kernel
theorem dX12_signsOf_31 : decode cX12_signsOf 31 = .ok (.iload_n 2, 1) := by decide +kernel
theorem dX12_signsOf_32 : decode cX12_signsOf 32 = .ok (.ireturn, 1) := by decide +kernel
theorem dX12_levelsOf_0 : decode cX12_levelsOf 0 = .ok (.iconst 0, 1) := by decide +kernel
theorem dX12_levelsOf_1 : decode cX12_levelsOf 1 = .ok (.istore_n 2, 1) := by decide +kernel
theorem dX12_levelsOf_2 : decode cX12_levelsOf 2 = .ok (.iload_n 2, 1) := by decide +kernel
theorem dX12_levelsOf_3 : decode cX12_levelsOf 3 = .ok (.iconst 4, 1) := by decide +kernel
theorem dX12_levelsOf_4 : decode cX12_levelsOf 4 = .ok (.if_icmp .ge 19, 3) := by decide +kernel
theorem dX12_levelsOf_7 : decode cX12_levelsOf 7 = .ok (.aload_n 0, 1) := by decide +kernel
theorem dX12_levelsOf_8 : decode cX12_levelsOf 8 = .ok (.iload_n 1, 1) := by decide +kernel
theorem dX12_levelsOf_9 : decode cX12_levelsOf 9 = .ok (.iload_n 2, 1) := by decide +kernel
theorem dX12_levelsOf_10 : decode cX12_levelsOf 10 = .ok (.iadd, 1) := by decide +kernel
theorem dX12_levelsOf_11 : decode cX12_levelsOf 11 = .ok (.laload, 1) := by decide +kernel
theorem dX12_levelsOf_12 : decode cX12_levelsOf 12 = .ok (.lconst 0, 1) := by decide +kernel
theorem dX12_levelsOf_13 : decode cX12_levelsOf 13 = .ok (.lcmp, 1) := by decide +kernel
theorem dX12_levelsOf_14 : decode cX12_levelsOf 14 = .ok (.ifCond .eq 9, 3) := by decide +kernel
theorem dX12_levelsOf_17 : decode cX12_levelsOf 17 = .ok (.iinc 2 1, 3) := by decide +kernel
theorem dX12_levelsOf_20 : decode cX12_levelsOf 20 = .ok (.goto (-18), 3) := by decide +kernel
theorem dX12_levelsOf_23 : decode cX12_levelsOf 23 = .ok (.iload_n 2, 1) := by decide +kernel
theorem dX12_levelsOf_24 : decode cX12_levelsOf 24 = .ok (.ireturn, 1) := by decide +kernel
theorem dX12_lengthOf_0 : decode cX12_lengthOf 0 = .ok (.aload_n 0, 1) := by decide +kernel
theorem dX12_lengthOf_1 : decode cX12_lengthOf 1 = .ok (.iload_n 1, 1) := by decide +kernel
theorem dX12_lengthOf_2 : decode cX12_lengthOf 2 = .ok (.invokestatic 78, 3) := by decide +kernel
theorem dX12_lengthOf_5 : decode cX12_lengthOf 5 = .ok (.istore_n 2, 1) := by decide +kernel
theorem dX12_lengthOf_6 : decode cX12_lengthOf 6 = .ok (.iload_n 2, 1) := by decide +kernel
theorem dX12_lengthOf_7 : decode cX12_lengthOf 7 = .ok (.ifCond .ne 7, 3) := by decide +kernel
theorem dX12_lengthOf_10 : decode cX12_lengthOf 10 = .ok (.iconst 0, 1) := by decide +kernel
theorem dX12_lengthOf_11 : decode cX12_lengthOf 11 = .ok (.goto 6, 3) := by decide +kernel
theorem dX12_lengthOf_14 : decode cX12_lengthOf 14 = .ok (.iload_n 2, 1) := by decide +kernel
theorem dX12_lengthOf_15 : decode cX12_lengthOf 15 = .ok (.iconst 1, 1) := by decide +kernel
theorem dX12_lengthOf_16 : decode cX12_lengthOf 16 = .ok (.isub, 1) := by decide +kernel
theorem dX12_lengthOf_17 : decode cX12_lengthOf 17 = .ok (.istore_n 3, 1) := by decide +kernel
theorem dX12_lengthOf_18 : decode cX12_lengthOf 18 = .ok (.iconst 0, 1) := by decide +kernel
theorem dX12_lengthOf_19 : decode cX12_lengthOf 19 = .ok (.istore 4, 2) := by decide +kernel
theorem dX12_lengthOf_21 : decode cX12_lengthOf 21 = .ok (.iload 4, 2) := by decide +kernel
theorem dX12_lengthOf_23 : decode cX12_lengthOf 23 = .ok (.iload_n 2, 1) := by decide +kernel
theorem dX12_lengthOf_24 : decode cX12_lengthOf 24 = .ok (.if_icmp .ge 21, 3) := by decide +kernel
theorem dX12_lengthOf_27 : decode cX12_lengthOf 27 = .ok (.iload_n 3, 1) := by decide +kernel
theorem dX12_lengthOf_28 : decode cX12_lengthOf 28 = .ok (.aload_n 0, 1) := by decide +kernel
theorem dX12_lengthOf_29 : decode cX12_lengthOf 29 = .ok (.iload_n 1, 1) := by decide +kernel
theorem dX12_lengthOf_30 : decode cX12_lengthOf 30 = .ok (.iload 4, 2) := by decide +kernel
theorem dX12_lengthOf_32 : decode cX12_lengthOf 32 = .ok (.iadd, 1) := by decide +kernel
theorem dX12_lengthOf_33 : decode cX12_lengthOf 33 = .ok (.laload, 1) := by decide +kernel
theorem dX12_lengthOf_34 : decode cX12_lengthOf 34 = .ok (.invokestatic 82, 3) := by decide +kernel
theorem dX12_lengthOf_37 : decode cX12_lengthOf 37 = .ok (.iadd, 1) := by decide +kernel
theorem dX12_lengthOf_38 : decode cX12_lengthOf 38 = .ok (.istore_n 3, 1) := by decide +kernel
theorem dX12_lengthOf_39 : decode cX12_lengthOf 39 = .ok (.iinc 4 1, 3) := by decide +kernel
theorem dX12_lengthOf_42 : decode cX12_lengthOf 42 = .ok (.goto (-21), 3) := by decide +kernel
theorem dX12_lengthOf_45 : decode cX12_lengthOf 45 = .ok (.iload_n 3, 1) := by decide +kernel
theorem dX12_lengthOf_46 : decode cX12_lengthOf 46 = .ok (.ireturn, 1) := by decide +kernel
theorem dX12_characterOf_0 : decode cX12_characterOf 0 = .ok (.iload_n 2, 1) := by decide +kernel
theorem dX12_characterOf_1 : decode cX12_characterOf 1 = .ok (.istore_n 3, 1) := by decide +kernel
theorem dX12_characterOf_2 : decode cX12_characterOf 2 = .ok (.iconst 0, 1) := by decide +kernel
theorem dX12_characterOf_3 : decode cX12_characterOf 3 = .ok (.istore 4, 2) := by decide +kernel
theorem dX12_characterOf_5 : decode cX12_characterOf 5 = .ok (.iload_n 3, 1) := by decide +kernel
theorem dX12_characterOf_6 : decode cX12_characterOf 6 = .ok (.aload_n 0, 1) := by decide +kernel
theorem dX12_characterOf_7 : decode cX12_characterOf 7 = .ok (.iload_n 1, 1) := by decide +kernel
theorem dX12_characterOf_8 : decode cX12_characterOf 8 = .ok (.iload 4, 2) := by decide +kernel
theorem dX12_characterOf_10 : decode cX12_characterOf 10 = .ok (.iadd, 1) := by decide +kernel
theorem dX12_characterOf_11 : decode cX12_characterOf 11 = .ok (.laload, 1) := by decide +kernel
theorem dX12_characterOf_12 : decode cX12_characterOf 12 = .ok (.invokestatic 82, 3) := by decide +kernel
theorem dX12_characterOf_15 : decode cX12_characterOf 15 = .ok (.if_icmp .le 23, 3) := by decide +kernel
theorem dX12_characterOf_18 : decode cX12_characterOf 18 = .ok (.iload_n 3, 1) := by decide +kernel
theorem dX12_characterOf_19 : decode cX12_characterOf 19 = .ok (.aload_n 0, 1) := by decide +kernel
theorem dX12_characterOf_20 : decode cX12_characterOf 20 = .ok (.iload_n 1, 1) := by decide +kernel
theorem dX12_characterOf_21 : decode cX12_characterOf 21 = .ok (.iload 4, 2) := by decide +kernel
theorem dX12_characterOf_23 : decode cX12_characterOf 23 = .ok (.iadd, 1) := by decide +kernel
theorem dX12_characterOf_24 : decode cX12_characterOf 24 = .ok (.laload, 1) := by decide +kernel
theorem dX12_characterOf_25 : decode cX12_characterOf 25 = .ok (.invokestatic 82, 3) := by decide +kernel
theorem dX12_characterOf_28 : decode cX12_characterOf 28 = .ok (.iconst 1, 1) := by decide +kernel
theorem dX12_characterOf_29 : decode cX12_characterOf 29 = .ok (.iadd, 1) := by decide +kernel
theorem dX12_characterOf_30 : decode cX12_characterOf 30 = .ok (.isub, 1) := by decide +kernel
theorem dX12_characterOf_31 : decode cX12_characterOf 31 = .ok (.istore_n 3, 1) := by decide +kernel
theorem dX12_characterOf_32 : decode cX12_characterOf 32 = .ok (.iinc 4 1, 3) := by decide +kernel
theorem dX12_characterOf_35 : decode cX12_characterOf 35 = .ok (.goto (-30), 3) := by decide +kernel
theorem dX12_characterOf_38 : decode cX12_characterOf 38 = .ok (.iload_n 3, 1) := by decide +kernel
theorem dX12_characterOf_39 : decode cX12_characterOf 39 = .ok (.aload_n 0, 1) := by decide +kernel
theorem dX12_characterOf_40 : decode cX12_characterOf 40 = .ok (.iload_n 1, 1) := by decide +kernel
theorem dX12_characterOf_41 : decode cX12_characterOf 41 = .ok (.iload 4, 2) := by decide +kernel
theorem dX12_characterOf_43 : decode cX12_characterOf 43 = .ok (.iadd, 1) := by decide +kernel
theorem dX12_characterOf_44 : decode cX12_characterOf 44 = .ok (.laload, 1) := by decide +kernel
theorem dX12_characterOf_45 : decode cX12_characterOf 45 = .ok (.invokestatic 82, 3) := by decide +kernel
theorem dX12_characterOf_48 : decode cX12_characterOf 48 = .ok (.if_icmp .ne 6, 3) := by decide +kernel
theorem dX12_characterOf_51 : decode cX12_characterOf 51 = .ok (.bipush 47, 2) := by decide +kernel
theorem dX12_characterOf_53 : decode cX12_characterOf 53 = .ok (.ireturn, 1) := by decide +kernel
theorem dX12_characterOf_54 : decode cX12_characterOf 54 = .ok (.aload_n 0, 1) := by decide +kernel
theorem dX12_characterOf_55 : decode cX12_characterOf 55 = .ok (.iload_n 1, 1) := by decide +kernel
theorem dX12_characterOf_56 : decode cX12_characterOf 56 = .ok (.iload 4, 2) := by decide +kernel
theorem dX12_characterOf_58 : decode cX12_characterOf 58 = .ok (.iadd, 1) := by decide +kernel
theorem dX12_characterOf_59 : decode cX12_characterOf 59 = .ok (.laload, 1) := by decide +kernel
theorem dX12_characterOf_60 : decode cX12_characterOf 60 = .ok (.lstore 5, 2) := by decide +kernel
theorem dX12_characterOf_62 : decode cX12_characterOf 62 = .ok (.iload_n 3, 1) := by decide +kernel
theorem dX12_characterOf_63 : decode cX12_characterOf 63 = .ok (.istore 7, 2) := by decide +kernel
theorem dX12_characterOf_65 : decode cX12_characterOf 65 = .ok (.iload 7, 2) := by decide +kernel
theorem dX12_characterOf_67 : decode cX12_characterOf 67 = .ok (.iconst 5, 1) := by decide +kernel
theorem dX12_characterOf_68 : decode cX12_characterOf 68 = .ok (.if_icmp .ge 17, 3) := by decide +kernel
theorem dX12_characterOf_71 : decode cX12_characterOf 71 = .ok (.lload 5, 2) := by decide +kernel
theorem dX12_characterOf_73 : decode cX12_characterOf 73 = .ok (.ldc2_w 72, 3) := by decide +kernel
theorem dX12_characterOf_76 : decode cX12_characterOf 76 = .ok (.ldiv, 1) := by decide +kernel
theorem dX12_characterOf_77 : decode cX12_characterOf 77 = .ok (.lstore 5, 2) := by decide +kernel
theorem dX12_characterOf_79 : decode cX12_characterOf 79 = .ok (.iinc 7 1, 3) := by decide +kernel
theorem dX12_characterOf_82 : decode cX12_characterOf 82 = .ok (.goto (-17), 3) := by decide +kernel
theorem dX12_characterOf_85 : decode cX12_characterOf 85 = .ok (.lload 5, 2) := by decide +kernel
theorem dX12_characterOf_87 : decode cX12_characterOf 87 = .ok (.ldc2_w 72, 3) := by decide +kernel
theorem dX12_characterOf_90 : decode cX12_characterOf 90 = .ok (.lrem, 1) := by decide +kernel
theorem dX12_characterOf_91 : decode cX12_characterOf 91 = .ok (.l2i, 1) := by decide +kernel
theorem dX12_characterOf_92 : decode cX12_characterOf 92 = .ok (.istore 7, 2) := by decide +kernel
theorem dX12_characterOf_94 : decode cX12_characterOf 94 = .ok (.iload 7, 2) := by decide +kernel
theorem dX12_characterOf_96 : decode cX12_characterOf 96 = .ok (.bipush 11, 2) := by decide +kernel
theorem dX12_characterOf_98 : decode cX12_characterOf 98 = .ok (.if_icmp .ge 13, 3) := by decide +kernel
theorem dX12_characterOf_101 : decode cX12_characterOf 101 = .ok (.bipush 48, 2) := by decide +kernel
theorem dX12_characterOf_103 : decode cX12_characterOf 103 = .ok (.iload 7, 2) := by decide +kernel
theorem dX12_characterOf_105 : decode cX12_characterOf 105 = .ok (.iadd, 1) := by decide +kernel
theorem dX12_characterOf_106 : decode cX12_characterOf 106 = .ok (.iconst 1, 1) := by decide +kernel
theorem dX12_characterOf_107 : decode cX12_characterOf 107 = .ok (.isub, 1) := by decide +kernel
theorem dX12_characterOf_108 : decode cX12_characterOf 108 = .ok (.goto 11, 3) := by decide +kernel
theorem dX12_characterOf_111 : decode cX12_characterOf 111 = .ok (.bipush 97, 2) := by decide +kernel
theorem dX12_characterOf_113 : decode cX12_characterOf 113 = .ok (.iload 7, 2) := by decide +kernel
theorem dX12_characterOf_115 : decode cX12_characterOf 115 = .ok (.iadd, 1) := by decide +kernel
theorem dX12_characterOf_116 : decode cX12_characterOf 116 = .ok (.bipush 11, 2) := by decide +kernel
theorem dX12_characterOf_118 : decode cX12_characterOf 118 = .ok (.isub, 1) := by decide +kernel
theorem dX12_characterOf_119 : decode cX12_characterOf 119 = .ok (.ireturn, 1) := by decide +kernel
theorem dX12_moves_0 : decode cX12_moves 0 = .ok (.iconst 0, 1) := by decide +kernel
theorem dX12_moves_1 : decode cX12_moves 1 = .ok (.istore 4, 2) := by decide +kernel
theorem dX12_moves_3 : decode cX12_moves 3 = .ok (.iload 4, 2) := by decide +kernel
theorem dX12_moves_5 : decode cX12_moves 5 = .ok (.iconst 4, 1) := by decide +kernel
theorem dX12_moves_6 : decode cX12_moves 6 = .ok (.if_icmp .ge 21, 3) := by decide +kernel
theorem dX12_moves_9 : decode cX12_moves 9 = .ok (.aload_n 2, 1) := by decide +kernel
theorem dX12_moves_10 : decode cX12_moves 10 = .ok (.iload_n 3, 1) := by decide +kernel
theorem dX12_moves_11 : decode cX12_moves 11 = .ok (.iload 4, 2) := by decide +kernel
theorem dX12_moves_13 : decode cX12_moves 13 = .ok (.iadd, 1) := by decide +kernel
theorem dX12_moves_14 : decode cX12_moves 14 = .ok (.aload_n 0, 1) := by decide +kernel
theorem dX12_moves_15 : decode cX12_moves 15 = .ok (.iload_n 1, 1) := by decide +kernel
theorem dX12_moves_16 : decode cX12_moves 16 = .ok (.iload 4, 2) := by decide +kernel
theorem dX12_moves_18 : decode cX12_moves 18 = .ok (.iadd, 1) := by decide +kernel
theorem dX12_moves_19 : decode cX12_moves 19 = .ok (.laload, 1) := by decide +kernel
theorem dX12_moves_20 : decode cX12_moves 20 = .ok (.lastore, 1) := by decide +kernel
theorem dX12_moves_21 : decode cX12_moves 21 = .ok (.iinc 4 1, 3) := by decide +kernel
theorem dX12_moves_24 : decode cX12_moves 24 = .ok (.goto (-21), 3) := by decide +kernel
theorem dX12_moves_27 : decode cX12_moves 27 = .ok (.return_, 1) := by decide +kernel
theorem dX12_isSame_0 : decode cX12_isSame 0 = .ok (.iconst 1, 1) := by decide +kernel
theorem dX12_isSame_1 : decode cX12_isSame 1 = .ok (.istore 4, 2) := by decide +kernel
theorem dX12_isSame_3 : decode cX12_isSame 3 = .ok (.iconst 0, 1) := by decide +kernel
theorem dX12_isSame_4 : decode cX12_isSame 4 = .ok (.istore 5, 2) := by decide +kernel
theorem dX12_isSame_6 : decode cX12_isSame 6 = .ok (.iload 5, 2) := by decide +kernel
theorem dX12_isSame_8 : decode cX12_isSame 8 = .ok (.iconst 4, 1) := by decide +kernel
theorem dX12_isSame_9 : decode cX12_isSame 9 = .ok (.if_icmp .ge 37, 3) := by decide +kernel
theorem dX12_isSame_12 : decode cX12_isSame 12 = .ok (.iload 4, 2) := by decide +kernel
theorem dX12_isSame_14 : decode cX12_isSame 14 = .ok (.ifCond .eq 23, 3) := by decide +kernel
theorem dX12_isSame_17 : decode cX12_isSame 17 = .ok (.aload_n 0, 1) := by decide +kernel
theorem dX12_isSame_18 : decode cX12_isSame 18 = .ok (.iload_n 1, 1) := by decide +kernel
theorem dX12_isSame_19 : decode cX12_isSame 19 = .ok (.iload 5, 2) := by decide +kernel
theorem dX12_isSame_21 : decode cX12_isSame 21 = .ok (.iadd, 1) := by decide +kernel
theorem dX12_isSame_22 : decode cX12_isSame 22 = .ok (.laload, 1) := by decide +kernel
theorem dX12_isSame_23 : decode cX12_isSame 23 = .ok (.aload_n 2, 1) := by decide +kernel
theorem dX12_isSame_24 : decode cX12_isSame 24 = .ok (.iload_n 3, 1) := by decide +kernel
theorem dX12_isSame_25 : decode cX12_isSame 25 = .ok (.iload 5, 2) := by decide +kernel
theorem dX12_isSame_27 : decode cX12_isSame 27 = .ok (.iadd, 1) := by decide +kernel
theorem dX12_isSame_28 : decode cX12_isSame 28 = .ok (.laload, 1) := by decide +kernel
theorem dX12_isSame_29 : decode cX12_isSame 29 = .ok (.lcmp, 1) := by decide +kernel
theorem dX12_isSame_30 : decode cX12_isSame 30 = .ok (.ifCond .ne 7, 3) := by decide +kernel
theorem dX12_isSame_33 : decode cX12_isSame 33 = .ok (.iconst 1, 1) := by decide +kernel
theorem dX12_isSame_34 : decode cX12_isSame 34 = .ok (.goto 4, 3) := by decide +kernel
theorem dX12_isSame_37 : decode cX12_isSame 37 = .ok (.iconst 0, 1) := by decide +kernel
theorem dX12_isSame_38 : decode cX12_isSame 38 = .ok (.istore 4, 2) := by decide +kernel
theorem dX12_isSame_40 : decode cX12_isSame 40 = .ok (.iinc 5 1, 3) := by decide +kernel
theorem dX12_isSame_43 : decode cX12_isSame 43 = .ok (.goto (-37), 3) := by decide +kernel
theorem dX12_isSame_46 : decode cX12_isSame 46 = .ok (.iload 4, 2) := by decide +kernel
theorem dX12_isSame_48 : decode cX12_isSame 48 = .ok (.ireturn, 1) := by decide +kernel
theorem dX12_isBefore_0 : decode cX12_isBefore 0 = .ok (.iconst 0, 1) := by decide +kernel
theorem dX12_isBefore_1 : decode cX12_isBefore 1 = .ok (.istore 4, 2) := by decide +kernel
theorem dX12_isBefore_3 : decode cX12_isBefore 3 = .ok (.iload 4, 2) := by decide +kernel
theorem dX12_isBefore_5 : decode cX12_isBefore 5 = .ok (.iconst 4, 1) := by decide +kernel
theorem dX12_isBefore_6 : decode cX12_isBefore 6 = .ok (.if_icmp .ge 47, 3) := by decide +kernel
theorem dX12_isBefore_9 : decode cX12_isBefore 9 = .ok (.aload_n 0, 1) := by decide +kernel
theorem dX12_isBefore_10 : decode cX12_isBefore 10 = .ok (.iload_n 1, 1) := by decide +kernel
theorem dX12_isBefore_11 : decode cX12_isBefore 11 = .ok (.iload 4, 2) := by decide +kernel
theorem dX12_isBefore_13 : decode cX12_isBefore 13 = .ok (.iadd, 1) := by decide +kernel
theorem dX12_isBefore_14 : decode cX12_isBefore 14 = .ok (.laload, 1) := by decide +kernel
theorem dX12_isBefore_15 : decode cX12_isBefore 15 = .ok (.aload_n 2, 1) := by decide +kernel
theorem dX12_isBefore_16 : decode cX12_isBefore 16 = .ok (.iload_n 3, 1) := by decide +kernel
theorem dX12_isBefore_17 : decode cX12_isBefore 17 = .ok (.iload 4, 2) := by decide +kernel
theorem dX12_isBefore_19 : decode cX12_isBefore 19 = .ok (.iadd, 1) := by decide +kernel
theorem dX12_isBefore_20 : decode cX12_isBefore 20 = .ok (.laload, 1) := by decide +kernel
theorem dX12_isBefore_21 : decode cX12_isBefore 21 = .ok (.lcmp, 1) := by decide +kernel
theorem dX12_isBefore_22 : decode cX12_isBefore 22 = .ok (.ifCond .eq 25, 3) := by decide +kernel
theorem dX12_isBefore_25 : decode cX12_isBefore 25 = .ok (.aload_n 0, 1) := by decide +kernel
theorem dX12_isBefore_26 : decode cX12_isBefore 26 = .ok (.iload_n 1, 1) := by decide +kernel
theorem dX12_isBefore_27 : decode cX12_isBefore 27 = .ok (.iload 4, 2) := by decide +kernel
theorem dX12_isBefore_29 : decode cX12_isBefore 29 = .ok (.iadd, 1) := by decide +kernel
theorem dX12_isBefore_30 : decode cX12_isBefore 30 = .ok (.laload, 1) := by decide +kernel
theorem dX12_isBefore_31 : decode cX12_isBefore 31 = .ok (.aload_n 2, 1) := by decide +kernel
theorem dX12_isBefore_32 : decode cX12_isBefore 32 = .ok (.iload_n 3, 1) := by decide +kernel
theorem dX12_isBefore_33 : decode cX12_isBefore 33 = .ok (.iload 4, 2) := by decide +kernel
theorem dX12_isBefore_35 : decode cX12_isBefore 35 = .ok (.iadd, 1) := by decide +kernel
theorem dX12_isBefore_36 : decode cX12_isBefore 36 = .ok (.laload, 1) := by decide +kernel
theorem dX12_isBefore_37 : decode cX12_isBefore 37 = .ok (.lcmp, 1) := by decide +kernel
theorem dX12_isBefore_38 : decode cX12_isBefore 38 = .ok (.ifCond .ge 7, 3) := by decide +kernel
theorem dX12_isBefore_41 : decode cX12_isBefore 41 = .ok (.iconst 1, 1) := by decide +kernel
theorem dX12_isBefore_42 : decode cX12_isBefore 42 = .ok (.goto 4, 3) := by decide +kernel
theorem dX12_isBefore_45 : decode cX12_isBefore 45 = .ok (.iconst 0, 1) := by decide +kernel
theorem dX12_isBefore_46 : decode cX12_isBefore 46 = .ok (.ireturn, 1) := by decide +kernel
theorem dX12_isBefore_47 : decode cX12_isBefore 47 = .ok (.iinc 4 1, 3) := by decide +kernel
theorem dX12_isBefore_50 : decode cX12_isBefore 50 = .ok (.goto (-47), 3) := by decide +kernel
theorem dX12_isBefore_53 : decode cX12_isBefore 53 = .ok (.iconst 0, 1) := by decide +kernel
theorem dX12_isBefore_54 : decode cX12_isBefore 54 = .ok (.ireturn, 1) := by decide +kernel
theorem dX12_matches_0 : decode cX12_matches 0 = .ok (.aload_n 0, 1) := by decide +kernel
theorem dX12_matches_1 : decode cX12_matches 1 = .ok (.getfield 40, 3) := by decide +kernel
theorem dX12_matches_4 : decode cX12_matches 4 = .ok (.iconst 0, 1) := by decide +kernel
theorem dX12_matches_5 : decode cX12_matches 5 = .ok (.invokestatic 78, 3) := by decide +kernel
theorem dX12_matches_8 : decode cX12_matches 8 = .ok (.istore_n 3, 1) := by decide +kernel
theorem dX12_matches_9 : decode cX12_matches 9 = .ok (.iconst 0, 1) := by decide +kernel
theorem dX12_matches_10 : decode cX12_matches 10 = .ok (.istore 4, 2) := by decide +kernel
theorem dX12_matches_12 : decode cX12_matches 12 = .ok (.iload 4, 2) := by decide +kernel
theorem dX12_matches_14 : decode cX12_matches 14 = .ok (.iload_n 2, 1) := by decide +kernel
theorem dX12_matches_15 : decode cX12_matches 15 = .ok (.if_icmp .ge 71, 3) := by decide +kernel
theorem dX12_matches_18 : decode cX12_matches 18 = .ok (.aload_n 0, 1) := by decide +kernel
theorem dX12_matches_19 : decode cX12_matches 19 = .ok (.getfield 13, 3) := by decide +kernel
theorem dX12_matches_22 : decode cX12_matches 22 = .ok (.iload_n 1, 1) := by decide +kernel
theorem dX12_matches_23 : decode cX12_matches 23 = .ok (.iload 4, 2) := by decide +kernel
theorem dX12_matches_25 : decode cX12_matches 25 = .ok (.iadd, 1) := by decide +kernel
theorem dX12_matches_26 : decode cX12_matches 26 = .ok (.laload, 1) := by decide +kernel
theorem dX12_matches_27 : decode cX12_matches 27 = .ok (.ldc2_w 74, 3) := by decide +kernel
theorem dX12_matches_30 : decode cX12_matches 30 = .ok (.lcmp, 1) := by decide +kernel
theorem dX12_matches_31 : decode cX12_matches 31 = .ok (.ifCond .ne 5, 3) := by decide +kernel
theorem dX12_matches_34 : decode cX12_matches 34 = .ok (.iconst 1, 1) := by decide +kernel
theorem dX12_matches_35 : decode cX12_matches 35 = .ok (.ireturn, 1) := by decide +kernel
theorem dX12_matches_36 : decode cX12_matches 36 = .ok (.iload 4, 2) := by decide +kernel
theorem dX12_matches_38 : decode cX12_matches 38 = .ok (.iload_n 3, 1) := by decide +kernel
theorem dX12_matches_39 : decode cX12_matches 39 = .ok (.if_icmp .ge 39, 3) := by decide +kernel
theorem dX12_matches_42 : decode cX12_matches 42 = .ok (.aload_n 0, 1) := by decide +kernel
theorem dX12_matches_43 : decode cX12_matches 43 = .ok (.getfield 13, 3) := by decide +kernel
theorem dX12_matches_46 : decode cX12_matches 46 = .ok (.iload_n 1, 1) := by decide +kernel
theorem dX12_matches_47 : decode cX12_matches 47 = .ok (.iload 4, 2) := by decide +kernel
theorem dX12_matches_49 : decode cX12_matches 49 = .ok (.iadd, 1) := by decide +kernel
theorem dX12_matches_50 : decode cX12_matches 50 = .ok (.laload, 1) := by decide +kernel
theorem dX12_matches_51 : decode cX12_matches 51 = .ok (.ldc2_w 76, 3) := by decide +kernel
theorem dX12_matches_54 : decode cX12_matches 54 = .ok (.lcmp, 1) := by decide +kernel
theorem dX12_matches_55 : decode cX12_matches 55 = .ok (.ifCond .eq 25, 3) := by decide +kernel
theorem dX12_matches_58 : decode cX12_matches 58 = .ok (.aload_n 0, 1) := by decide +kernel
theorem dX12_matches_59 : decode cX12_matches 59 = .ok (.getfield 13, 3) := by decide +kernel
theorem dX12_matches_62 : decode cX12_matches 62 = .ok (.iload_n 1, 1) := by decide +kernel
theorem dX12_matches_63 : decode cX12_matches 63 = .ok (.iload 4, 2) := by decide +kernel
theorem dX12_matches_65 : decode cX12_matches 65 = .ok (.iadd, 1) := by decide +kernel
theorem dX12_matches_66 : decode cX12_matches 66 = .ok (.laload, 1) := by decide +kernel
theorem dX12_matches_67 : decode cX12_matches 67 = .ok (.aload_n 0, 1) := by decide +kernel
theorem dX12_matches_68 : decode cX12_matches 68 = .ok (.getfield 40, 3) := by decide +kernel
theorem dX12_matches_71 : decode cX12_matches 71 = .ok (.iload 4, 2) := by decide +kernel
theorem dX12_matches_73 : decode cX12_matches 73 = .ok (.laload, 1) := by decide +kernel
theorem dX12_matches_74 : decode cX12_matches 74 = .ok (.lcmp, 1) := by decide +kernel
theorem dX12_matches_75 : decode cX12_matches 75 = .ok (.ifCond .eq 5, 3) := by decide +kernel
theorem dX12_matches_78 : decode cX12_matches 78 = .ok (.iconst 0, 1) := by decide +kernel
theorem dX12_matches_79 : decode cX12_matches 79 = .ok (.ireturn, 1) := by decide +kernel
theorem dX12_matches_80 : decode cX12_matches 80 = .ok (.iinc 4 1, 3) := by decide +kernel
theorem dX12_matches_83 : decode cX12_matches 83 = .ok (.goto (-71), 3) := by decide +kernel
theorem dX12_matches_86 : decode cX12_matches 86 = .ok (.iload_n 3, 1) := by decide +kernel
theorem dX12_matches_87 : decode cX12_matches 87 = .ok (.iload_n 2, 1) := by decide +kernel
theorem dX12_matches_88 : decode cX12_matches 88 = .ok (.if_icmp .ne 7, 3) := by decide +kernel
theorem dX12_matches_91 : decode cX12_matches 91 = .ok (.iconst 1, 1) := by decide +kernel
theorem dX12_matches_92 : decode cX12_matches 92 = .ok (.goto 4, 3) := by decide +kernel
theorem dX12_matches_95 : decode cX12_matches 95 = .ok (.iconst 0, 1) := by decide +kernel
theorem dX12_matches_96 : decode cX12_matches 96 = .ok (.ireturn, 1) := by decide +kernel
theorem dX12_append_0 : decode cX12_append 0 = .ok (.aload_n 0, 1) := by decide +kernel
theorem dX12_append_1 : decode cX12_append 1 = .ok (.iconst 0, 1) := by decide +kernel
theorem dX12_append_2 : decode cX12_append 2 = .ok (.putfield 52, 3) := by decide +kernel
theorem dX12_append_5 : decode cX12_append 5 = .ok (.iconst 0, 1) := by decide +kernel
theorem dX12_append_6 : decode cX12_append 6 = .ok (.istore_n 2, 1) := by decide +kernel
theorem dX12_append_7 : decode cX12_append 7 = .ok (.bipush 24, 2) := by decide +kernel
theorem dX12_append_9 : decode cX12_append 9 = .ok (.istore_n 3, 1) := by decide +kernel
theorem dX12_append_10 : decode cX12_append 10 = .ok (.iload_n 3, 1) := by decide +kernel
theorem dX12_append_11 : decode cX12_append 11 = .ok (.ifCond .lt 54, 3) := by decide +kernel
theorem dX12_append_14 : decode cX12_append 14 = .ok (.iload_n 1, 1) := by decide +kernel
theorem dX12_append_15 : decode cX12_append 15 = .ok (.iload_n 3, 1) := by decide +kernel
theorem dX12_append_16 : decode cX12_append 16 = .ok (.iushr, 1) := by decide +kernel
theorem dX12_append_17 : decode cX12_append 17 = .ok (.sipush 255, 3) := by decide +kernel
theorem dX12_append_20 : decode cX12_append 20 = .ok (.iand, 1) := by decide +kernel
theorem dX12_append_21 : decode cX12_append 21 = .ok (.istore 4, 2) := by decide +kernel
theorem dX12_append_23 : decode cX12_append 23 = .ok (.iload 4, 2) := by decide +kernel
theorem dX12_append_25 : decode cX12_append 25 = .ok (.ifCond .eq 21, 3) := by decide +kernel
theorem dX12_append_28 : decode cX12_append 28 = .ok (.iload 4, 2) := by decide +kernel
theorem dX12_append_30 : decode cX12_append 30 = .ok (.bipush 33, 2) := by decide +kernel
theorem dX12_append_32 : decode cX12_append 32 = .ok (.bipush 126, 2) := by decide +kernel
theorem dX12_append_34 : decode cX12_append 34 = .ok (.invokestatic 55, 3) := by decide +kernel
theorem dX12_append_37 : decode cX12_append 37 = .ok (.ifCond .ne 9, 3) := by decide +kernel
theorem dX12_append_40 : decode cX12_append 40 = .ok (.aload_n 0, 1) := by decide +kernel
theorem dX12_append_41 : decode cX12_append 41 = .ok (.iconst 1, 1) := by decide +kernel
theorem dX12_append_42 : decode cX12_append 42 = .ok (.invokevirtual 86, 3) := by decide +kernel
theorem dX12_append_45 : decode cX12_append 45 = .ok (.ireturn, 1) := by decide +kernel
theorem dX12_append_46 : decode cX12_append 46 = .ok (.iload_n 2, 1) := by decide +kernel
theorem dX12_append_47 : decode cX12_append 47 = .ok (.iload 4, 2) := by decide +kernel
theorem dX12_append_49 : decode cX12_append 49 = .ok (.ifCond .ne 7, 3) := by decide +kernel
theorem dX12_append_52 : decode cX12_append 52 = .ok (.iconst 0, 1) := by decide +kernel
theorem dX12_append_53 : decode cX12_append 53 = .ok (.goto 4, 3) := by decide +kernel
theorem dX12_append_56 : decode cX12_append 56 = .ok (.iconst 1, 1) := by decide +kernel
theorem dX12_append_57 : decode cX12_append 57 = .ok (.iadd, 1) := by decide +kernel
theorem dX12_append_58 : decode cX12_append 58 = .ok (.istore_n 2, 1) := by decide +kernel
theorem dX12_append_59 : decode cX12_append 59 = .ok (.iinc 3 (-8), 3) := by decide +kernel
theorem dX12_append_62 : decode cX12_append 62 = .ok (.goto (-52), 3) := by decide +kernel
theorem dX12_append_65 : decode cX12_append 65 = .ok (.aload_n 0, 1) := by decide +kernel
theorem dX12_append_66 : decode cX12_append 66 = .ok (.getfield 59, 3) := by decide +kernel
theorem dX12_append_69 : decode cX12_append 69 = .ok (.iload_n 2, 1) := by decide +kernel
theorem dX12_append_70 : decode cX12_append 70 = .ok (.iadd, 1) := by decide +kernel
theorem dX12_append_71 : decode cX12_append 71 = .ok (.bipush 30, 2) := by decide +kernel
theorem dX12_append_73 : decode cX12_append 73 = .ok (.if_icmp .le 9, 3) := by decide +kernel
theorem dX12_append_76 : decode cX12_append 76 = .ok (.aload_n 0, 1) := by decide +kernel
theorem dX12_append_77 : decode cX12_append 77 = .ok (.iconst 2, 1) := by decide +kernel
theorem dX12_append_78 : decode cX12_append 78 = .ok (.invokevirtual 86, 3) := by decide +kernel
theorem dX12_append_81 : decode cX12_append 81 = .ok (.ireturn, 1) := by decide +kernel
theorem dX12_append_82 : decode cX12_append 82 = .ok (.bipush 24, 2) := by decide +kernel
theorem dX12_append_84 : decode cX12_append 84 = .ok (.istore_n 3, 1) := by decide +kernel
theorem dX12_append_85 : decode cX12_append 85 = .ok (.iload_n 3, 1) := by decide +kernel
theorem dX12_append_86 : decode cX12_append 86 = .ok (.ifCond .lt 45, 3) := by decide +kernel
theorem dX12_append_89 : decode cX12_append 89 = .ok (.iload_n 1, 1) := by decide +kernel
theorem dX12_append_90 : decode cX12_append 90 = .ok (.iload_n 3, 1) := by decide +kernel
theorem dX12_append_91 : decode cX12_append 91 = .ok (.iushr, 1) := by decide +kernel
theorem dX12_append_92 : decode cX12_append 92 = .ok (.sipush 255, 3) := by decide +kernel
theorem dX12_append_95 : decode cX12_append 95 = .ok (.iand, 1) := by decide +kernel
theorem dX12_append_96 : decode cX12_append 96 = .ok (.ifCond .eq 29, 3) := by decide +kernel
theorem dX12_append_99 : decode cX12_append 99 = .ok (.aload_n 0, 1) := by decide +kernel
theorem dX12_append_100 : decode cX12_append 100 = .ok (.getfield 30, 3) := by decide +kernel
theorem dX12_append_103 : decode cX12_append 103 = .ok (.aload_n 0, 1) := by decide +kernel
theorem dX12_append_104 : decode cX12_append 104 = .ok (.getfield 59, 3) := by decide +kernel
theorem dX12_append_107 : decode cX12_append 107 = .ok (.iload_n 1, 1) := by decide +kernel
theorem dX12_append_108 : decode cX12_append 108 = .ok (.iload_n 3, 1) := by decide +kernel
theorem dX12_append_109 : decode cX12_append 109 = .ok (.iushr, 1) := by decide +kernel
theorem dX12_append_110 : decode cX12_append 110 = .ok (.sipush 255, 3) := by decide +kernel
theorem dX12_append_113 : decode cX12_append 113 = .ok (.iand, 1) := by decide +kernel
theorem dX12_append_114 : decode cX12_append 114 = .ok (.iastore, 1) := by decide +kernel
theorem dX12_append_115 : decode cX12_append 115 = .ok (.aload_n 0, 1) := by decide +kernel
theorem dX12_append_116 : decode cX12_append 116 = .ok (.dup, 1) := by decide +kernel
theorem dX12_append_117 : decode cX12_append 117 = .ok (.getfield 59, 3) := by decide +kernel
theorem dX12_append_120 : decode cX12_append 120 = .ok (.iconst 1, 1) := by decide +kernel
theorem dX12_append_121 : decode cX12_append 121 = .ok (.iadd, 1) := by decide +kernel
theorem dX12_append_122 : decode cX12_append 122 = .ok (.putfield 59, 3) := by decide +kernel
theorem dX12_append_125 : decode cX12_append 125 = .ok (.iinc 3 (-8), 3) := by decide +kernel
theorem dX12_append_128 : decode cX12_append 128 = .ok (.goto (-43), 3) := by decide +kernel
theorem dX12_append_131 : decode cX12_append 131 = .ok (.aload_n 0, 1) := by decide +kernel
theorem dX12_append_132 : decode cX12_append 132 = .ok (.getfield 59, 3) := by decide +kernel
theorem dX12_append_135 : decode cX12_append 135 = .ok (.ireturn, 1) := by decide +kernel
theorem dX12_errorPosition_0 : decode cX12_errorPosition 0 = .ok (.aload_n 0, 1) := by decide +kernel
theorem dX12_errorPosition_1 : decode cX12_errorPosition 1 = .ok (.iconst 0, 1) := by decide +kernel
theorem dX12_errorPosition_2 : decode cX12_errorPosition 2 = .ok (.putfield 52, 3) := by decide +kernel
theorem dX12_errorPosition_5 : decode cX12_errorPosition 5 = .ok (.aload_n 0, 1) := by decide +kernel
theorem dX12_errorPosition_6 : decode cX12_errorPosition 6 = .ok (.getfield 33, 3) := by decide +kernel
theorem dX12_errorPosition_9 : decode cX12_errorPosition 9 = .ok (.ireturn, 1) := by decide +kernel
theorem dX12_isValue_0 : decode cX12_isValue 0 = .ok (.iload_n 0, 1) := by decide +kernel
theorem dX12_isValue_1 : decode cX12_isValue 1 = .ok (.ifCond .ne 12, 3) := by decide +kernel
theorem dX12_isValue_4 : decode cX12_isValue 4 = .ok (.iload_n 1, 1) := by decide +kernel
theorem dX12_isValue_5 : decode cX12_isValue 5 = .ok (.iconst 1, 1) := by decide +kernel
theorem dX12_isValue_6 : decode cX12_isValue 6 = .ok (.iconst 5, 1) := by decide +kernel
theorem dX12_isValue_7 : decode cX12_isValue 7 = .ok (.invokestatic 55, 3) := by decide +kernel
theorem dX12_isValue_10 : decode cX12_isValue 10 = .ok (.goto 39, 3) := by decide +kernel
theorem dX12_isValue_13 : decode cX12_isValue 13 = .ok (.iload_n 0, 1) := by decide +kernel
theorem dX12_isValue_14 : decode cX12_isValue 14 = .ok (.iconst 1, 1) := by decide +kernel
theorem dX12_isValue_15 : decode cX12_isValue 15 = .ok (.if_icmp .ne 13, 3) := by decide +kernel
theorem dX12_isValue_18 : decode cX12_isValue 18 = .ok (.iload_n 1, 1) := by decide +kernel
theorem dX12_isValue_19 : decode cX12_isValue 19 = .ok (.iconst 0, 1) := by decide +kernel
theorem dX12_isValue_20 : decode cX12_isValue 20 = .ok (.bipush 20, 2) := by decide +kernel
theorem dX12_isValue_22 : decode cX12_isValue 22 = .ok (.invokestatic 55, 3) := by decide +kernel
theorem dX12_isValue_25 : decode cX12_isValue 25 = .ok (.goto 24, 3) := by decide +kernel
theorem dX12_isValue_28 : decode cX12_isValue 28 = .ok (.iload_n 0, 1) := by decide +kernel
theorem dX12_isValue_29 : decode cX12_isValue 29 = .ok (.iconst 2, 1) := by decide +kernel
theorem dX12_isValue_30 : decode cX12_isValue 30 = .ok (.if_icmp .ne 13, 3) := by decide +kernel
theorem dX12_isValue_33 : decode cX12_isValue 33 = .ok (.iload_n 1, 1) := by decide +kernel
theorem dX12_isValue_34 : decode cX12_isValue 34 = .ok (.iconst 1, 1) := by decide +kernel
theorem dX12_isValue_35 : decode cX12_isValue 35 = .ok (.bipush 100, 2) := by decide +kernel
theorem dX12_isValue_37 : decode cX12_isValue 37 = .ok (.invokestatic 55, 3) := by decide +kernel
theorem dX12_isValue_40 : decode cX12_isValue 40 = .ok (.goto 9, 3) := by decide +kernel
theorem dX12_isValue_43 : decode cX12_isValue 43 = .ok (.iload_n 1, 1) := by decide +kernel
theorem dX12_isValue_44 : decode cX12_isValue 44 = .ok (.iconst 0, 1) := by decide +kernel
theorem dX12_isValue_45 : decode cX12_isValue 45 = .ok (.iconst 1, 1) := by decide +kernel
theorem dX12_isValue_46 : decode cX12_isValue 46 = .ok (.invokestatic 55, 3) := by decide +kernel
theorem dX12_isValue_49 : decode cX12_isValue 49 = .ok (.ireturn, 1) := by decide +kernel
theorem dX12_setOption_0 : decode cX12_setOption 0 = .ok (.aload_n 0, 1) := by decide +kernel
theorem dX12_setOption_1 : decode cX12_setOption 1 = .ok (.iconst 0, 1) := by decide +kernel
theorem dX12_setOption_2 : decode cX12_setOption 2 = .ok (.putfield 52, 3) := by decide +kernel
theorem dX12_setOption_5 : decode cX12_setOption 5 = .ok (.iload_n 1, 1) := by decide +kernel
theorem dX12_setOption_6 : decode cX12_setOption 6 = .ok (.iconst 0, 1) := by decide +kernel
theorem dX12_setOption_7 : decode cX12_setOption 7 = .ok (.iconst 3, 1) := by decide +kernel
theorem dX12_setOption_8 : decode cX12_setOption 8 = .ok (.invokestatic 55, 3) := by decide +kernel
theorem dX12_setOption_11 : decode cX12_setOption 11 = .ok (.ifCond .ne 9, 3) := by decide +kernel
theorem dX12_setOption_14 : decode cX12_setOption 14 = .ok (.aload_n 0, 1) := by decide +kernel
theorem dX12_setOption_15 : decode cX12_setOption 15 = .ok (.iconst 1, 1) := by decide +kernel
theorem dX12_setOption_16 : decode cX12_setOption 16 = .ok (.invokevirtual 86, 3) := by decide +kernel
theorem dX12_setOption_19 : decode cX12_setOption 19 = .ok (.ireturn, 1) := by decide +kernel
theorem dX12_setOption_20 : decode cX12_setOption 20 = .ok (.iload_n 1, 1) := by decide +kernel
theorem dX12_setOption_21 : decode cX12_setOption 21 = .ok (.iload_n 2, 1) := by decide +kernel
theorem dX12_setOption_22 : decode cX12_setOption 22 = .ok (.invokestatic 89, 3) := by decide +kernel
theorem dX12_setOption_25 : decode cX12_setOption 25 = .ok (.ifCond .ne 9, 3) := by decide +kernel
theorem dX12_setOption_28 : decode cX12_setOption 28 = .ok (.aload_n 0, 1) := by decide +kernel
theorem dX12_setOption_29 : decode cX12_setOption 29 = .ok (.iconst 2, 1) := by decide +kernel
theorem dX12_setOption_30 : decode cX12_setOption 30 = .ok (.invokevirtual 86, 3) := by decide +kernel
theorem dX12_setOption_33 : decode cX12_setOption 33 = .ok (.ireturn, 1) := by decide +kernel
theorem dX12_setOption_34 : decode cX12_setOption 34 = .ok (.aload_n 0, 1) := by decide +kernel
theorem dX12_setOption_35 : decode cX12_setOption 35 = .ok (.getfield 9, 3) := by decide +kernel
theorem dX12_setOption_38 : decode cX12_setOption 38 = .ok (.iconst 1, 1) := by decide +kernel
theorem dX12_setOption_39 : decode cX12_setOption 39 = .ok (.iload_n 1, 1) := by decide +kernel
theorem dX12_setOption_40 : decode cX12_setOption 40 = .ok (.iadd, 1) := by decide +kernel
theorem dX12_setOption_41 : decode cX12_setOption 41 = .ok (.iaload, 1) := by decide +kernel
theorem dX12_setOption_42 : decode cX12_setOption 42 = .ok (.istore_n 3, 1) := by decide +kernel
theorem dX12_setOption_43 : decode cX12_setOption 43 = .ok (.aload_n 0, 1) := by decide +kernel
theorem dX12_setOption_44 : decode cX12_setOption 44 = .ok (.getfield 9, 3) := by decide +kernel
theorem dX12_setOption_47 : decode cX12_setOption 47 = .ok (.iconst 1, 1) := by decide +kernel
theorem dX12_setOption_48 : decode cX12_setOption 48 = .ok (.iload_n 1, 1) := by decide +kernel
theorem dX12_setOption_49 : decode cX12_setOption 49 = .ok (.iadd, 1) := by decide +kernel
theorem dX12_setOption_50 : decode cX12_setOption 50 = .ok (.iload_n 2, 1) := by decide +kernel
theorem dX12_setOption_51 : decode cX12_setOption 51 = .ok (.iastore, 1) := by decide +kernel
theorem dX12_setOption_52 : decode cX12_setOption 52 = .ok (.iload_n 3, 1) := by decide +kernel
theorem dX12_setOption_53 : decode cX12_setOption 53 = .ok (.ireturn, 1) := by decide +kernel
theorem dX12_sends_0 : decode cX12_sends 0 = .ok (.aload_n 0, 1) := by decide +kernel
theorem dX12_sends_1 : decode cX12_sends 1 = .ok (.getfield 9, 3) := by decide +kernel
theorem dX12_sends_4 : decode cX12_sends 4 = .ok (.bipush 80, 2) := by decide +kernel
theorem dX12_sends_6 : decode cX12_sends 6 = .ok (.iload_n 1, 1) := by decide +kernel
theorem dX12_sends_7 : decode cX12_sends 7 = .ok (.iadd, 1) := by decide +kernel
theorem dX12_sends_8 : decode cX12_sends 8 = .ok (.dup2, 1) := by decide +kernel
theorem dX12_sends_9 : decode cX12_sends 9 = .ok (.iaload, 1) := by decide +kernel
theorem dX12_sends_10 : decode cX12_sends 10 = .ok (.iconst 1, 1) := by decide +kernel
theorem dX12_sends_11 : decode cX12_sends 11 = .ok (.iadd, 1) := by decide +kernel
theorem dX12_sends_12 : decode cX12_sends 12 = .ok (.iastore, 1) := by decide +kernel
theorem dX12_sends_13 : decode cX12_sends 13 = .ok (.aload_n 0, 1) := by decide +kernel
theorem dX12_sends_14 : decode cX12_sends 14 = .ok (.getfield 9, 3) := by decide +kernel
theorem dX12_sends_17 : decode cX12_sends 17 = .ok (.bipush 68, 2) := by decide +kernel
theorem dX12_sends_19 : decode cX12_sends 19 = .ok (.iload_n 1, 1) := by decide +kernel
theorem dX12_sends_20 : decode cX12_sends 20 = .ok (.iadd, 1) := by decide +kernel
theorem dX12_sends_21 : decode cX12_sends 21 = .ok (.iaload, 1) := by decide +kernel
theorem dX12_sends_22 : decode cX12_sends 22 = .ok (.bipush 30, 2) := by decide +kernel
theorem dX12_sends_24 : decode cX12_sends 24 = .ok (.if_icmp .ne 15, 3) := by decide +kernel
theorem dX12_sends_27 : decode cX12_sends 27 = .ok (.aload_n 0, 1) := by decide +kernel
theorem dX12_sends_28 : decode cX12_sends 28 = .ok (.getfield 9, 3) := by decide +kernel
theorem dX12_sends_31 : decode cX12_sends 31 = .ok (.bipush 13, 2) := by decide +kernel
theorem dX12_sends_33 : decode cX12_sends 33 = .ok (.dup2, 1) := by decide +kernel
theorem dX12_sends_34 : decode cX12_sends 34 = .ok (.iaload, 1) := by decide +kernel
theorem dX12_sends_35 : decode cX12_sends 35 = .ok (.iconst 1, 1) := by decide +kernel
theorem dX12_sends_36 : decode cX12_sends 36 = .ok (.iadd, 1) := by decide +kernel
theorem dX12_sends_37 : decode cX12_sends 37 = .ok (.iastore, 1) := by decide +kernel
theorem dX12_sends_38 : decode cX12_sends 38 = .ok (.return_, 1) := by decide +kernel
theorem dX12_sends_39 : decode cX12_sends 39 = .ok (.aload_n 0, 1) := by decide +kernel
theorem dX12_sends_40 : decode cX12_sends 40 = .ok (.iload_n 1, 1) := by decide +kernel
theorem dX12_sends_41 : decode cX12_sends 41 = .ok (.iload_n 2, 1) := by decide +kernel
theorem dX12_sends_42 : decode cX12_sends 42 = .ok (.iload_n 3, 1) := by decide +kernel
theorem dX12_sends_43 : decode cX12_sends 43 = .ok (.iload 4, 2) := by decide +kernel
theorem dX12_sends_45 : decode cX12_sends 45 = .ok (.iload 5, 2) := by decide +kernel
theorem dX12_sends_47 : decode cX12_sends 47 = .ok (.iload 6, 2) := by decide +kernel
theorem dX12_sends_49 : decode cX12_sends 49 = .ok (.aload 7, 2) := by decide +kernel
theorem dX12_sends_51 : decode cX12_sends 51 = .ok (.iload 8, 2) := by decide +kernel
theorem dX12_sends_53 : decode cX12_sends 53 = .ok (.invokevirtual 93, 3) := by decide +kernel
theorem dX12_sends_56 : decode cX12_sends 56 = .ok (.return_, 1) := by decide +kernel
theorem dX12_appends_0 : decode cX12_appends 0 = .ok (.bipush 30, 2) := by decide +kernel
theorem dX12_appends_2 : decode cX12_appends 2 = .ok (.iload_n 1, 1) := by decide +kernel
theorem dX12_appends_3 : decode cX12_appends 3 = .ok (.imul, 1) := by decide +kernel
theorem dX12_appends_4 : decode cX12_appends 4 = .ok (.aload_n 0, 1) := by decide +kernel
theorem dX12_appends_5 : decode cX12_appends 5 = .ok (.getfield 9, 3) := by decide +kernel
theorem dX12_appends_8 : decode cX12_appends 8 = .ok (.bipush 68, 2) := by decide +kernel
theorem dX12_appends_10 : decode cX12_appends 10 = .ok (.iload_n 1, 1) := by decide +kernel
theorem dX12_appends_11 : decode cX12_appends 11 = .ok (.iadd, 1) := by decide +kernel
theorem dX12_appends_12 : decode cX12_appends 12 = .ok (.iaload, 1) := by decide +kernel
theorem dX12_appends_13 : decode cX12_appends 13 = .ok (.iadd, 1) := by decide +kernel
theorem dX12_appends_14 : decode cX12_appends 14 = .ok (.istore 9, 2) := by decide +kernel
theorem dX12_appends_16 : decode cX12_appends 16 = .ok (.aload_n 0, 1) := by decide +kernel
theorem dX12_appends_17 : decode cX12_appends 17 = .ok (.getfield 9, 3) := by decide +kernel
theorem dX12_appends_20 : decode cX12_appends 20 = .ok (.sipush 878, 3) := by decide +kernel
theorem dX12_appends_23 : decode cX12_appends 23 = .ok (.iload 9, 2) := by decide +kernel
theorem dX12_appends_25 : decode cX12_appends 25 = .ok (.iadd, 1) := by decide +kernel
theorem dX12_appends_26 : decode cX12_appends 26 = .ok (.iload_n 2, 1) := by decide +kernel
theorem dX12_appends_27 : decode cX12_appends 27 = .ok (.iastore, 1) := by decide +kernel
theorem dX12_appends_28 : decode cX12_appends 28 = .ok (.aload_n 0, 1) := by decide +kernel
theorem dX12_appends_29 : decode cX12_appends 29 = .ok (.getfield 9, 3) := by decide +kernel
theorem dX12_appends_32 : decode cX12_appends 32 = .ok (.sipush 1058, 3) := by decide +kernel
theorem dX12_appends_35 : decode cX12_appends 35 = .ok (.iload 9, 2) := by decide +kernel
theorem dX12_appends_37 : decode cX12_appends 37 = .ok (.iadd, 1) := by decide +kernel
theorem dX12_appends_38 : decode cX12_appends 38 = .ok (.iload_n 3, 1) := by decide +kernel
theorem dX12_appends_39 : decode cX12_appends 39 = .ok (.iastore, 1) := by decide +kernel
theorem dX12_appends_40 : decode cX12_appends 40 = .ok (.aload_n 0, 1) := by decide +kernel
theorem dX12_appends_41 : decode cX12_appends 41 = .ok (.getfield 9, 3) := by decide +kernel
theorem dX12_appends_44 : decode cX12_appends 44 = .ok (.sipush 1238, 3) := by decide +kernel
theorem dX12_appends_47 : decode cX12_appends 47 = .ok (.iload 9, 2) := by decide +kernel
theorem dX12_appends_49 : decode cX12_appends 49 = .ok (.iadd, 1) := by decide +kernel
theorem dX12_appends_50 : decode cX12_appends 50 = .ok (.iload 4, 2) := by decide +kernel
theorem dX12_appends_52 : decode cX12_appends 52 = .ok (.iastore, 1) := by decide +kernel
theorem dX12_appends_53 : decode cX12_appends 53 = .ok (.aload_n 0, 1) := by decide +kernel
theorem dX12_appends_54 : decode cX12_appends 54 = .ok (.getfield 9, 3) := by decide +kernel
theorem dX12_appends_57 : decode cX12_appends 57 = .ok (.sipush 1418, 3) := by decide +kernel
theorem dX12_appends_60 : decode cX12_appends 60 = .ok (.iload 9, 2) := by decide +kernel
theorem dX12_appends_62 : decode cX12_appends 62 = .ok (.iadd, 1) := by decide +kernel
theorem dX12_appends_63 : decode cX12_appends 63 = .ok (.iload 5, 2) := by decide +kernel
theorem dX12_appends_65 : decode cX12_appends 65 = .ok (.iastore, 1) := by decide +kernel
theorem dX12_appends_66 : decode cX12_appends 66 = .ok (.aload_n 0, 1) := by decide +kernel
theorem dX12_appends_67 : decode cX12_appends 67 = .ok (.getfield 9, 3) := by decide +kernel
theorem dX12_appends_70 : decode cX12_appends 70 = .ok (.sipush 1598, 3) := by decide +kernel
theorem dX12_appends_73 : decode cX12_appends 73 = .ok (.iload 9, 2) := by decide +kernel
theorem dX12_appends_75 : decode cX12_appends 75 = .ok (.iadd, 1) := by decide +kernel
theorem dX12_appends_76 : decode cX12_appends 76 = .ok (.iload 6, 2) := by decide +kernel
theorem dX12_appends_78 : decode cX12_appends 78 = .ok (.iastore, 1) := by decide +kernel
theorem dX12_appends_79 : decode cX12_appends 79 = .ok (.aload 7, 2) := by decide +kernel
theorem dX12_appends_81 : decode cX12_appends 81 = .ok (.iload 8, 2) := by decide +kernel
theorem dX12_appends_83 : decode cX12_appends 83 = .ok (.aload_n 0, 1) := by decide +kernel
theorem dX12_appends_84 : decode cX12_appends 84 = .ok (.getfield 13, 3) := by decide +kernel
theorem dX12_appends_87 : decode cX12_appends 87 = .ok (.sipush 504, 3) := by decide +kernel
theorem dX12_appends_90 : decode cX12_appends 90 = .ok (.iconst 4, 1) := by decide +kernel
theorem dX12_appends_91 : decode cX12_appends 91 = .ok (.iload 9, 2) := by decide +kernel
theorem dX12_appends_93 : decode cX12_appends 93 = .ok (.imul, 1) := by decide +kernel
theorem dX12_appends_94 : decode cX12_appends 94 = .ok (.iadd, 1) := by decide +kernel
theorem dX12_appends_95 : decode cX12_appends 95 = .ok (.invokestatic 97, 3) := by decide +kernel
theorem dX12_appends_98 : decode cX12_appends 98 = .ok (.aload_n 0, 1) := by decide +kernel
theorem dX12_appends_99 : decode cX12_appends 99 = .ok (.getfield 9, 3) := by decide +kernel
theorem dX12_appends_102 : decode cX12_appends 102 = .ok (.bipush 68, 2) := by decide +kernel
theorem dX12_appends_104 : decode cX12_appends 104 = .ok (.iload_n 1, 1) := by decide +kernel
theorem dX12_appends_105 : decode cX12_appends 105 = .ok (.iadd, 1) := by decide +kernel
theorem dX12_appends_106 : decode cX12_appends 106 = .ok (.dup2, 1) := by decide +kernel
theorem dX12_appends_107 : decode cX12_appends 107 = .ok (.iaload, 1) := by decide +kernel
theorem dX12_appends_108 : decode cX12_appends 108 = .ok (.iconst 1, 1) := by decide +kernel
theorem dX12_appends_109 : decode cX12_appends 109 = .ok (.iadd, 1) := by decide +kernel
theorem dX12_appends_110 : decode cX12_appends 110 = .ok (.iastore, 1) := by decide +kernel
theorem dX12_appends_111 : decode cX12_appends 111 = .ok (.return_, 1) := by decide +kernel
theorem dX12_answers_0 : decode cX12_answers 0 = .ok (.aload_n 0, 1) := by decide +kernel
theorem dX12_answers_1 : decode cX12_answers 1 = .ok (.iload_n 1, 1) := by decide +kernel
theorem dX12_answers_2 : decode cX12_answers 2 = .ok (.iload_n 2, 1) := by decide +kernel
theorem dX12_answers_3 : decode cX12_answers 3 = .ok (.iload_n 3, 1) := by decide +kernel
theorem dX12_answers_4 : decode cX12_answers 4 = .ok (.iconst 0, 1) := by decide +kernel
theorem dX12_answers_5 : decode cX12_answers 5 = .ok (.iconst 0, 1) := by decide +kernel
theorem dX12_answers_6 : decode cX12_answers 6 = .ok (.iconst 0, 1) := by decide +kernel
theorem dX12_answers_7 : decode cX12_answers 7 = .ok (.aload_n 0, 1) := by decide +kernel
theorem dX12_answers_8 : decode cX12_answers 8 = .ok (.getfield 43, 3) := by decide +kernel
theorem dX12_answers_11 : decode cX12_answers 11 = .ok (.iconst 0, 1) := by decide +kernel
theorem dX12_answers_12 : decode cX12_answers 12 = .ok (.invokevirtual 101, 3) := by decide +kernel
theorem dX12_answers_15 : decode cX12_answers 15 = .ok (.return_, 1) := by decide +kernel
theorem dX12_isInFlight_0 : decode cX12_isInFlight 0 = .ok (.iconst 0, 1) := by decide +kernel
theorem dX12_isInFlight_1 : decode cX12_isInFlight 1 = .ok (.istore_n 3, 1) := by decide +kernel
theorem dX12_isInFlight_2 : decode cX12_isInFlight 2 = .ok (.iconst 0, 1) := by decide +kernel
theorem dX12_isInFlight_3 : decode cX12_isInFlight 3 = .ok (.istore 4, 2) := by decide +kernel
theorem dX12_isInFlight_5 : decode cX12_isInFlight 5 = .ok (.iload 4, 2) := by decide +kernel
theorem dX12_isInFlight_7 : decode cX12_isInFlight 7 = .ok (.aload_n 0, 1) := by decide +kernel
theorem dX12_isInFlight_8 : decode cX12_isInFlight 8 = .ok (.getfield 9, 3) := by decide +kernel
theorem dX12_isInFlight_11 : decode cX12_isInFlight 11 = .ok (.bipush 56, 2) := by decide +kernel
theorem dX12_isInFlight_13 : decode cX12_isInFlight 13 = .ok (.iload_n 1, 1) := by decide +kernel
theorem dX12_isInFlight_14 : decode cX12_isInFlight 14 = .ok (.iadd, 1) := by decide +kernel
theorem dX12_isInFlight_15 : decode cX12_isInFlight 15 = .ok (.iaload, 1) := by decide +kernel
theorem dX12_isInFlight_16 : decode cX12_isInFlight 16 = .ok (.if_icmp .ge 38, 3) := by decide +kernel
theorem dX12_isInFlight_19 : decode cX12_isInFlight 19 = .ok (.iload_n 3, 1) := by decide +kernel
theorem dX12_isInFlight_20 : decode cX12_isInFlight 20 = .ok (.ifCond .ne 22, 3) := by decide +kernel
theorem dX12_isInFlight_23 : decode cX12_isInFlight 23 = .ok (.aload_n 0, 1) := by decide +kernel
theorem dX12_isInFlight_24 : decode cX12_isInFlight 24 = .ok (.getfield 9, 3) := by decide +kernel
theorem dX12_isInFlight_27 : decode cX12_isInFlight 27 = .ok (.sipush 554, 3) := by decide +kernel
theorem dX12_isInFlight_30 : decode cX12_isInFlight 30 = .ok (.iconst 5, 1) := by decide +kernel
theorem dX12_isInFlight_31 : decode cX12_isInFlight 31 = .ok (.iload_n 1, 1) := by decide +kernel
theorem dX12_isInFlight_32 : decode cX12_isInFlight 32 = .ok (.imul, 1) := by decide +kernel
theorem dX12_isInFlight_33 : decode cX12_isInFlight 33 = .ok (.iadd, 1) := by decide +kernel
theorem dX12_isInFlight_34 : decode cX12_isInFlight 34 = .ok (.iload 4, 2) := by decide +kernel
theorem dX12_isInFlight_36 : decode cX12_isInFlight 36 = .ok (.iadd, 1) := by decide +kernel
theorem dX12_isInFlight_37 : decode cX12_isInFlight 37 = .ok (.iaload, 1) := by decide +kernel
theorem dX12_isInFlight_38 : decode cX12_isInFlight 38 = .ok (.iload_n 2, 1) := by decide +kernel
theorem dX12_isInFlight_39 : decode cX12_isInFlight 39 = .ok (.if_icmp .ne 7, 3) := by decide +kernel
theorem dX12_isInFlight_42 : decode cX12_isInFlight 42 = .ok (.iconst 1, 1) := by decide +kernel
theorem dX12_isInFlight_43 : decode cX12_isInFlight 43 = .ok (.goto 4, 3) := by decide +kernel
theorem dX12_isInFlight_46 : decode cX12_isInFlight 46 = .ok (.iconst 0, 1) := by decide +kernel
theorem dX12_isInFlight_47 : decode cX12_isInFlight 47 = .ok (.istore_n 3, 1) := by decide +kernel
theorem dX12_isInFlight_48 : decode cX12_isInFlight 48 = .ok (.iinc 4 1, 3) := by decide +kernel
theorem dX12_isInFlight_51 : decode cX12_isInFlight 51 = .ok (.goto (-46), 3) := by decide +kernel
theorem dX12_isInFlight_54 : decode cX12_isInFlight 54 = .ok (.iload_n 3, 1) := by decide +kernel
theorem dX12_isInFlight_55 : decode cX12_isInFlight 55 = .ok (.ireturn, 1) := by decide +kernel
theorem dX12_flies_0 : decode cX12_flies 0 = .ok (.iconst 5, 1) := by decide +kernel
theorem dX12_flies_1 : decode cX12_flies 1 = .ok (.iload_n 1, 1) := by decide +kernel
theorem dX12_flies_2 : decode cX12_flies 2 = .ok (.imul, 1) := by decide +kernel
theorem dX12_flies_3 : decode cX12_flies 3 = .ok (.aload_n 0, 1) := by decide +kernel
theorem dX12_flies_4 : decode cX12_flies 4 = .ok (.getfield 9, 3) := by decide +kernel
theorem dX12_flies_7 : decode cX12_flies 7 = .ok (.bipush 56, 2) := by decide +kernel
theorem dX12_flies_9 : decode cX12_flies 9 = .ok (.iload_n 1, 1) := by decide +kernel
theorem dX12_flies_10 : decode cX12_flies 10 = .ok (.iadd, 1) := by decide +kernel
theorem dX12_flies_11 : decode cX12_flies 11 = .ok (.iaload, 1) := by decide +kernel
theorem dX12_flies_12 : decode cX12_flies 12 = .ok (.iadd, 1) := by decide +kernel
theorem dX12_flies_13 : decode cX12_flies 13 = .ok (.istore 7, 2) := by decide +kernel
theorem dX12_flies_15 : decode cX12_flies 15 = .ok (.aload_n 0, 1) := by decide +kernel
theorem dX12_flies_16 : decode cX12_flies 16 = .ok (.getfield 9, 3) := by decide +kernel
theorem dX12_flies_19 : decode cX12_flies 19 = .ok (.bipush 44, 2) := by decide +kernel
theorem dX12_flies_21 : decode cX12_flies 21 = .ok (.iload_n 1, 1) := by decide +kernel
theorem dX12_flies_22 : decode cX12_flies 22 = .ok (.iadd, 1) := by decide +kernel
theorem dX12_flies_23 : decode cX12_flies 23 = .ok (.iaload, 1) := by decide +kernel
theorem dX12_flies_24 : decode cX12_flies 24 = .ok (.istore 8, 2) := by decide +kernel
theorem dX12_flies_26 : decode cX12_flies 26 = .ok (.aload_n 0, 1) := by decide +kernel
theorem dX12_flies_27 : decode cX12_flies 27 = .ok (.getfield 9, 3) := by decide +kernel
theorem dX12_flies_30 : decode cX12_flies 30 = .ok (.sipush 554, 3) := by decide +kernel
theorem dX12_flies_33 : decode cX12_flies 33 = .ok (.iload 7, 2) := by decide +kernel
theorem dX12_flies_35 : decode cX12_flies 35 = .ok (.iadd, 1) := by decide +kernel
theorem dX12_flies_36 : decode cX12_flies 36 = .ok (.iload 8, 2) := by decide +kernel
theorem dX12_flies_38 : decode cX12_flies 38 = .ok (.iastore, 1) := by decide +kernel
theorem dX12_flies_39 : decode cX12_flies 39 = .ok (.aload_n 0, 1) := by decide +kernel
theorem dX12_flies_40 : decode cX12_flies 40 = .ok (.getfield 9, 3) := by decide +kernel
theorem dX12_flies_43 : decode cX12_flies 43 = .ok (.sipush 584, 3) := by decide +kernel
theorem dX12_flies_46 : decode cX12_flies 46 = .ok (.iload 7, 2) := by decide +kernel
theorem dX12_flies_48 : decode cX12_flies 48 = .ok (.iadd, 1) := by decide +kernel
theorem dX12_flies_49 : decode cX12_flies 49 = .ok (.iload_n 2, 1) := by decide +kernel
theorem dX12_flies_50 : decode cX12_flies 50 = .ok (.iastore, 1) := by decide +kernel
theorem dX12_flies_51 : decode cX12_flies 51 = .ok (.aload_n 0, 1) := by decide +kernel
theorem dX12_flies_52 : decode cX12_flies 52 = .ok (.getfield 9, 3) := by decide +kernel
theorem dX12_flies_55 : decode cX12_flies 55 = .ok (.sipush 614, 3) := by decide +kernel
theorem dX12_flies_58 : decode cX12_flies 58 = .ok (.iload 7, 2) := by decide +kernel
theorem dX12_flies_60 : decode cX12_flies 60 = .ok (.iadd, 1) := by decide +kernel
theorem dX12_flies_61 : decode cX12_flies 61 = .ok (.iload_n 3, 1) := by decide +kernel
theorem dX12_flies_62 : decode cX12_flies 62 = .ok (.iastore, 1) := by decide +kernel
theorem dX12_flies_63 : decode cX12_flies 63 = .ok (.aload_n 0, 1) := by decide +kernel
theorem dX12_flies_64 : decode cX12_flies 64 = .ok (.getfield 9, 3) := by decide +kernel
theorem dX12_flies_67 : decode cX12_flies 67 = .ok (.sipush 644, 3) := by decide +kernel
theorem dX12_flies_70 : decode cX12_flies 70 = .ok (.iload 7, 2) := by decide +kernel
theorem dX12_flies_72 : decode cX12_flies 72 = .ok (.iadd, 1) := by decide +kernel
theorem dX12_flies_73 : decode cX12_flies 73 = .ok (.iload 4, 2) := by decide +kernel
theorem dX12_flies_75 : decode cX12_flies 75 = .ok (.iastore, 1) := by decide +kernel
theorem dX12_flies_76 : decode cX12_flies 76 = .ok (.aload_n 0, 1) := by decide +kernel
theorem dX12_flies_77 : decode cX12_flies 77 = .ok (.getfield 9, 3) := by decide +kernel
theorem dX12_flies_80 : decode cX12_flies 80 = .ok (.sipush 674, 3) := by decide +kernel
theorem dX12_flies_83 : decode cX12_flies 83 = .ok (.iload 7, 2) := by decide +kernel
theorem dX12_flies_85 : decode cX12_flies 85 = .ok (.iadd, 1) := by decide +kernel
theorem dX12_flies_86 : decode cX12_flies 86 = .ok (.iload_n 2, 1) := by decide +kernel
theorem dX12_flies_87 : decode cX12_flies 87 = .ok (.iastore, 1) := by decide +kernel
theorem dX12_flies_88 : decode cX12_flies 88 = .ok (.aload_n 0, 1) := by decide +kernel
theorem dX12_flies_89 : decode cX12_flies 89 = .ok (.getfield 9, 3) := by decide +kernel
theorem dX12_flies_92 : decode cX12_flies 92 = .ok (.sipush 704, 3) := by decide +kernel
theorem dX12_flies_95 : decode cX12_flies 95 = .ok (.iload 7, 2) := by decide +kernel
theorem dX12_flies_97 : decode cX12_flies 97 = .ok (.iadd, 1) := by decide +kernel
theorem dX12_flies_98 : decode cX12_flies 98 = .ok (.aload_n 0, 1) := by decide +kernel
theorem dX12_flies_99 : decode cX12_flies 99 = .ok (.getfield 9, 3) := by decide +kernel
theorem dX12_flies_102 : decode cX12_flies 102 = .ok (.iconst 0, 1) := by decide +kernel
theorem dX12_flies_103 : decode cX12_flies 103 = .ok (.iaload, 1) := by decide +kernel
theorem dX12_flies_104 : decode cX12_flies 104 = .ok (.iastore, 1) := by decide +kernel
theorem dX12_flies_105 : decode cX12_flies 105 = .ok (.aload 5, 2) := by decide +kernel
theorem dX12_flies_107 : decode cX12_flies 107 = .ok (.iload 6, 2) := by decide +kernel
theorem dX12_flies_109 : decode cX12_flies 109 = .ok (.aload_n 0, 1) := by decide +kernel
theorem dX12_flies_110 : decode cX12_flies 110 = .ok (.getfield 13, 3) := by decide +kernel
theorem dX12_flies_113 : decode cX12_flies 113 = .ok (.sipush 168, 3) := by decide +kernel
theorem dX12_flies_116 : decode cX12_flies 116 = .ok (.iconst 4, 1) := by decide +kernel
theorem dX12_flies_117 : decode cX12_flies 117 = .ok (.iload 7, 2) := by decide +kernel
theorem dX12_flies_119 : decode cX12_flies 119 = .ok (.imul, 1) := by decide +kernel
theorem dX12_flies_120 : decode cX12_flies 120 = .ok (.iadd, 1) := by decide +kernel
theorem dX12_flies_121 : decode cX12_flies 121 = .ok (.invokestatic 97, 3) := by decide +kernel
theorem dX12_flies_124 : decode cX12_flies 124 = .ok (.aload_n 0, 1) := by decide +kernel
theorem dX12_flies_125 : decode cX12_flies 125 = .ok (.getfield 9, 3) := by decide +kernel
theorem dX12_flies_128 : decode cX12_flies 128 = .ok (.bipush 56, 2) := by decide +kernel
theorem dX12_flies_130 : decode cX12_flies 130 = .ok (.iload_n 1, 1) := by decide +kernel
theorem dX12_flies_131 : decode cX12_flies 131 = .ok (.iadd, 1) := by decide +kernel
theorem dX12_flies_132 : decode cX12_flies 132 = .ok (.dup2, 1) := by decide +kernel
theorem dX12_flies_133 : decode cX12_flies 133 = .ok (.iaload, 1) := by decide +kernel
theorem dX12_flies_134 : decode cX12_flies 134 = .ok (.iconst 1, 1) := by decide +kernel
theorem dX12_flies_135 : decode cX12_flies 135 = .ok (.iadd, 1) := by decide +kernel
theorem dX12_flies_136 : decode cX12_flies 136 = .ok (.iastore, 1) := by decide +kernel
theorem dX12_flies_137 : decode cX12_flies 137 = .ok (.aload_n 0, 1) := by decide +kernel
theorem dX12_flies_138 : decode cX12_flies 138 = .ok (.iload_n 1, 1) := by decide +kernel
theorem dX12_flies_139 : decode cX12_flies 139 = .ok (.iconst 0, 1) := by decide +kernel
theorem dX12_flies_140 : decode cX12_flies 140 = .ok (.iload 8, 2) := by decide +kernel
theorem dX12_flies_142 : decode cX12_flies 142 = .ok (.iload_n 2, 1) := by decide +kernel
theorem dX12_flies_143 : decode cX12_flies 143 = .ok (.iload_n 3, 1) := by decide +kernel
theorem dX12_flies_144 : decode cX12_flies 144 = .ok (.iconst 2, 1) := by decide +kernel
theorem dX12_flies_145 : decode cX12_flies 145 = .ok (.iload 4, 2) := by decide +kernel
theorem dX12_flies_147 : decode cX12_flies 147 = .ok (.imul, 1) := by decide +kernel
theorem dX12_flies_148 : decode cX12_flies 148 = .ok (.aload_n 0, 1) := by decide +kernel
theorem dX12_flies_149 : decode cX12_flies 149 = .ok (.getfield 13, 3) := by decide +kernel
theorem dX12_flies_152 : decode cX12_flies 152 = .ok (.sipush 168, 3) := by decide +kernel
theorem dX12_flies_155 : decode cX12_flies 155 = .ok (.iconst 4, 1) := by decide +kernel
theorem dX12_flies_156 : decode cX12_flies 156 = .ok (.iload 7, 2) := by decide +kernel
theorem dX12_flies_158 : decode cX12_flies 158 = .ok (.imul, 1) := by decide +kernel
theorem dX12_flies_159 : decode cX12_flies 159 = .ok (.iadd, 1) := by decide +kernel
theorem dX12_flies_160 : decode cX12_flies 160 = .ok (.invokevirtual 101, 3) := by decide +kernel
theorem dX12_flies_163 : decode cX12_flies 163 = .ok (.iload 8, 2) := by decide +kernel
theorem dX12_flies_165 : decode cX12_flies 165 = .ok (.bipush 50, 2) := by decide +kernel
theorem dX12_flies_167 : decode cX12_flies 167 = .ok (.irem, 1) := by decide +kernel
theorem dX12_flies_168 : decode cX12_flies 168 = .ok (.iconst 1, 1) := by decide +kernel
theorem dX12_flies_169 : decode cX12_flies 169 = .ok (.iadd, 1) := by decide +kernel
theorem dX12_flies_170 : decode cX12_flies 170 = .ok (.istore 8, 2) := by decide +kernel
theorem dX12_flies_172 : decode cX12_flies 172 = .ok (.aload_n 0, 1) := by decide +kernel
theorem dX12_flies_173 : decode cX12_flies 173 = .ok (.iload_n 1, 1) := by decide +kernel
theorem dX12_flies_174 : decode cX12_flies 174 = .ok (.iload 8, 2) := by decide +kernel
theorem dX12_flies_176 : decode cX12_flies 176 = .ok (.invokevirtual 104, 3) := by decide +kernel
theorem dX12_flies_179 : decode cX12_flies 179 = .ok (.ifCond .eq 15, 3) := by decide +kernel
theorem dX12_flies_182 : decode cX12_flies 182 = .ok (.iload 8, 2) := by decide +kernel
theorem dX12_flies_184 : decode cX12_flies 184 = .ok (.bipush 50, 2) := by decide +kernel
theorem dX12_flies_186 : decode cX12_flies 186 = .ok (.irem, 1) := by decide +kernel
theorem dX12_flies_187 : decode cX12_flies 187 = .ok (.iconst 1, 1) := by decide +kernel
theorem dX12_flies_188 : decode cX12_flies 188 = .ok (.iadd, 1) := by decide +kernel
theorem dX12_flies_189 : decode cX12_flies 189 = .ok (.istore 8, 2) := by decide +kernel
theorem dX12_flies_191 : decode cX12_flies 191 = .ok (.goto (-19), 3) := by decide +kernel
theorem dX12_flies_194 : decode cX12_flies 194 = .ok (.aload_n 0, 1) := by decide +kernel
theorem dX12_flies_195 : decode cX12_flies 195 = .ok (.getfield 9, 3) := by decide +kernel
theorem dX12_flies_198 : decode cX12_flies 198 = .ok (.bipush 44, 2) := by decide +kernel
theorem dX12_flies_200 : decode cX12_flies 200 = .ok (.iload_n 1, 1) := by decide +kernel
theorem dX12_flies_201 : decode cX12_flies 201 = .ok (.iadd, 1) := by decide +kernel
theorem dX12_flies_202 : decode cX12_flies 202 = .ok (.iload 8, 2) := by decide +kernel
theorem dX12_flies_204 : decode cX12_flies 204 = .ok (.iastore, 1) := by decide +kernel
theorem dX12_flies_205 : decode cX12_flies 205 = .ok (.return_, 1) := by decide +kernel
theorem dX12_takesPending_0 : decode cX12_takesPending 0 = .ok (.bipush 8, 2) := by decide +kernel
theorem dX12_takesPending_2 : decode cX12_takesPending 2 = .ok (.iload_n 1, 1) := by decide +kernel
theorem dX12_takesPending_3 : decode cX12_takesPending 3 = .ok (.imul, 1) := by decide +kernel
theorem dX12_takesPending_4 : decode cX12_takesPending 4 = .ok (.iload_n 2, 1) := by decide +kernel
theorem dX12_takesPending_5 : decode cX12_takesPending 5 = .ok (.iadd, 1) := by decide +kernel
theorem dX12_takesPending_6 : decode cX12_takesPending 6 = .ok (.istore_n 3, 1) := by decide +kernel
theorem dX12_takesPending_7 : decode cX12_takesPending 7 = .ok (.iload_n 3, 1) := by decide +kernel
theorem dX12_takesPending_8 : decode cX12_takesPending 8 = .ok (.bipush 8, 2) := by decide +kernel
theorem dX12_takesPending_10 : decode cX12_takesPending 10 = .ok (.iload_n 1, 1) := by decide +kernel
theorem dX12_takesPending_11 : decode cX12_takesPending 11 = .ok (.imul, 1) := by decide +kernel
theorem dX12_takesPending_12 : decode cX12_takesPending 12 = .ok (.aload_n 0, 1) := by decide +kernel
theorem dX12_takesPending_13 : decode cX12_takesPending 13 = .ok (.getfield 9, 3) := by decide +kernel
theorem dX12_takesPending_16 : decode cX12_takesPending 16 = .ok (.bipush 62, 2) := by decide +kernel
theorem dX12_takesPending_18 : decode cX12_takesPending 18 = .ok (.iload_n 1, 1) := by decide +kernel
theorem dX12_takesPending_19 : decode cX12_takesPending 19 = .ok (.iadd, 1) := by decide +kernel
theorem dX12_takesPending_20 : decode cX12_takesPending 20 = .ok (.iaload, 1) := by decide +kernel
theorem dX12_takesPending_21 : decode cX12_takesPending 21 = .ok (.iadd, 1) := by decide +kernel
theorem dX12_takesPending_22 : decode cX12_takesPending 22 = .ok (.iconst 1, 1) := by decide +kernel
theorem dX12_takesPending_23 : decode cX12_takesPending 23 = .ok (.isub, 1) := by decide +kernel
theorem dX12_takesPending_24 : decode cX12_takesPending 24 = .ok (.if_icmp .ge 102, 3) := by decide +kernel
theorem dX12_takesPending_27 : decode cX12_takesPending 27 = .ok (.aload_n 0, 1) := by decide +kernel
theorem dX12_takesPending_28 : decode cX12_takesPending 28 = .ok (.getfield 9, 3) := by decide +kernel
theorem dX12_takesPending_31 : decode cX12_takesPending 31 = .ok (.sipush 734, 3) := by decide +kernel
theorem dX12_takesPending_34 : decode cX12_takesPending 34 = .ok (.iload_n 3, 1) := by decide +kernel
theorem dX12_takesPending_35 : decode cX12_takesPending 35 = .ok (.iadd, 1) := by decide +kernel
theorem dX12_takesPending_36 : decode cX12_takesPending 36 = .ok (.aload_n 0, 1) := by decide +kernel
theorem dX12_takesPending_37 : decode cX12_takesPending 37 = .ok (.getfield 9, 3) := by decide +kernel
theorem dX12_takesPending_40 : decode cX12_takesPending 40 = .ok (.sipush 734, 3) := by decide +kernel
theorem dX12_takesPending_43 : decode cX12_takesPending 43 = .ok (.iload_n 3, 1) := by decide +kernel
theorem dX12_takesPending_44 : decode cX12_takesPending 44 = .ok (.iadd, 1) := by decide +kernel
theorem dX12_takesPending_45 : decode cX12_takesPending 45 = .ok (.iconst 1, 1) := by decide +kernel
theorem dX12_takesPending_46 : decode cX12_takesPending 46 = .ok (.iadd, 1) := by decide +kernel
theorem dX12_takesPending_47 : decode cX12_takesPending 47 = .ok (.iaload, 1) := by decide +kernel
theorem dX12_takesPending_48 : decode cX12_takesPending 48 = .ok (.iastore, 1) := by decide +kernel
theorem dX12_takesPending_49 : decode cX12_takesPending 49 = .ok (.aload_n 0, 1) := by decide +kernel
theorem dX12_takesPending_50 : decode cX12_takesPending 50 = .ok (.getfield 9, 3) := by decide +kernel
theorem dX12_takesPending_53 : decode cX12_takesPending 53 = .ok (.sipush 782, 3) := by decide +kernel
theorem dX12_takesPending_56 : decode cX12_takesPending 56 = .ok (.iload_n 3, 1) := by decide +kernel
theorem dX12_takesPending_57 : decode cX12_takesPending 57 = .ok (.iadd, 1) := by decide +kernel
theorem dX12_takesPending_58 : decode cX12_takesPending 58 = .ok (.aload_n 0, 1) := by decide +kernel
theorem dX12_takesPending_59 : decode cX12_takesPending 59 = .ok (.getfield 9, 3) := by decide +kernel
theorem dX12_takesPending_62 : decode cX12_takesPending 62 = .ok (.sipush 782, 3) := by decide +kernel
theorem dX12_takesPending_65 : decode cX12_takesPending 65 = .ok (.iload_n 3, 1) := by decide +kernel
theorem dX12_takesPending_66 : decode cX12_takesPending 66 = .ok (.iadd, 1) := by decide +kernel
theorem dX12_takesPending_67 : decode cX12_takesPending 67 = .ok (.iconst 1, 1) := by decide +kernel
theorem dX12_takesPending_68 : decode cX12_takesPending 68 = .ok (.iadd, 1) := by decide +kernel
theorem dX12_takesPending_69 : decode cX12_takesPending 69 = .ok (.iaload, 1) := by decide +kernel
theorem dX12_takesPending_70 : decode cX12_takesPending 70 = .ok (.iastore, 1) := by decide +kernel
theorem dX12_takesPending_71 : decode cX12_takesPending 71 = .ok (.aload_n 0, 1) := by decide +kernel
theorem dX12_takesPending_72 : decode cX12_takesPending 72 = .ok (.getfield 9, 3) := by decide +kernel
theorem dX12_takesPending_75 : decode cX12_takesPending 75 = .ok (.sipush 830, 3) := by decide +kernel
theorem dX12_takesPending_78 : decode cX12_takesPending 78 = .ok (.iload_n 3, 1) := by decide +kernel
theorem dX12_takesPending_79 : decode cX12_takesPending 79 = .ok (.iadd, 1) := by decide +kernel
theorem dX12_takesPending_80 : decode cX12_takesPending 80 = .ok (.aload_n 0, 1) := by decide +kernel
theorem dX12_takesPending_81 : decode cX12_takesPending 81 = .ok (.getfield 9, 3) := by decide +kernel
theorem dX12_takesPending_84 : decode cX12_takesPending 84 = .ok (.sipush 830, 3) := by decide +kernel
theorem dX12_takesPending_87 : decode cX12_takesPending 87 = .ok (.iload_n 3, 1) := by decide +kernel
theorem dX12_takesPending_88 : decode cX12_takesPending 88 = .ok (.iadd, 1) := by decide +kernel
theorem dX12_takesPending_89 : decode cX12_takesPending 89 = .ok (.iconst 1, 1) := by decide +kernel
theorem dX12_takesPending_90 : decode cX12_takesPending 90 = .ok (.iadd, 1) := by decide +kernel
theorem dX12_takesPending_91 : decode cX12_takesPending 91 = .ok (.iaload, 1) := by decide +kernel
theorem dX12_takesPending_92 : decode cX12_takesPending 92 = .ok (.iastore, 1) := by decide +kernel
theorem dX12_takesPending_93 : decode cX12_takesPending 93 = .ok (.aload_n 0, 1) := by decide +kernel
theorem dX12_takesPending_94 : decode cX12_takesPending 94 = .ok (.getfield 13, 3) := by decide +kernel
theorem dX12_takesPending_97 : decode cX12_takesPending 97 = .ok (.sipush 312, 3) := by decide +kernel
theorem dX12_takesPending_100 : decode cX12_takesPending 100 = .ok (.iconst 4, 1) := by decide +kernel
theorem dX12_takesPending_101 : decode cX12_takesPending 101 = .ok (.iload_n 3, 1) := by decide +kernel
theorem dX12_takesPending_102 : decode cX12_takesPending 102 = .ok (.iconst 1, 1) := by decide +kernel
theorem dX12_takesPending_103 : decode cX12_takesPending 103 = .ok (.iadd, 1) := by decide +kernel
theorem dX12_takesPending_104 : decode cX12_takesPending 104 = .ok (.imul, 1) := by decide +kernel
theorem dX12_takesPending_105 : decode cX12_takesPending 105 = .ok (.iadd, 1) := by decide +kernel
theorem dX12_takesPending_106 : decode cX12_takesPending 106 = .ok (.aload_n 0, 1) := by decide +kernel
theorem dX12_takesPending_107 : decode cX12_takesPending 107 = .ok (.getfield 13, 3) := by decide +kernel
theorem dX12_takesPending_110 : decode cX12_takesPending 110 = .ok (.sipush 312, 3) := by decide +kernel
theorem dX12_takesPending_113 : decode cX12_takesPending 113 = .ok (.iconst 4, 1) := by decide +kernel
theorem dX12_takesPending_114 : decode cX12_takesPending 114 = .ok (.iload_n 3, 1) := by decide +kernel
theorem dX12_takesPending_115 : decode cX12_takesPending 115 = .ok (.imul, 1) := by decide +kernel
theorem dX12_takesPending_116 : decode cX12_takesPending 116 = .ok (.iadd, 1) := by decide +kernel
theorem dX12_takesPending_117 : decode cX12_takesPending 117 = .ok (.invokestatic 97, 3) := by decide +kernel
theorem dX12_takesPending_120 : decode cX12_takesPending 120 = .ok (.iinc 3 1, 3) := by decide +kernel
theorem dX12_takesPending_123 : decode cX12_takesPending 123 = .ok (.goto (-116), 3) := by decide +kernel
theorem dX12_takesPending_126 : decode cX12_takesPending 126 = .ok (.aload_n 0, 1) := by decide +kernel
theorem dX12_takesPending_127 : decode cX12_takesPending 127 = .ok (.getfield 9, 3) := by decide +kernel
theorem dX12_takesPending_130 : decode cX12_takesPending 130 = .ok (.bipush 62, 2) := by decide +kernel
theorem dX12_takesPending_132 : decode cX12_takesPending 132 = .ok (.iload_n 1, 1) := by decide +kernel
theorem dX12_takesPending_133 : decode cX12_takesPending 133 = .ok (.iadd, 1) := by decide +kernel
theorem dX12_takesPending_134 : decode cX12_takesPending 134 = .ok (.dup2, 1) := by decide +kernel
theorem dX12_takesPending_135 : decode cX12_takesPending 135 = .ok (.iaload, 1) := by decide +kernel
theorem dX12_takesPending_136 : decode cX12_takesPending 136 = .ok (.iconst 1, 1) := by decide +kernel
theorem dX12_takesPending_137 : decode cX12_takesPending 137 = .ok (.isub, 1) := by decide +kernel
theorem dX12_takesPending_138 : decode cX12_takesPending 138 = .ok (.iastore, 1) := by decide +kernel
theorem dX12_takesPending_139 : decode cX12_takesPending 139 = .ok (.return_, 1) := by decide +kernel
theorem dX12_goesOn_0 : decode cX12_goesOn 0 = .ok (.aload_n 0, 1) := by decide +kernel
theorem dX12_goesOn_1 : decode cX12_goesOn 1 = .ok (.iload_n 1, 1) := by decide +kernel
theorem dX12_goesOn_2 : decode cX12_goesOn 2 = .ok (.invokevirtual 107, 3) := by decide +kernel
theorem dX12_goesOn_5 : decode cX12_goesOn 5 = .ok (.ifCond .eq 93, 3) := by decide +kernel
theorem dX12_goesOn_8 : decode cX12_goesOn 8 = .ok (.aload_n 0, 1) := by decide +kernel
theorem dX12_goesOn_9 : decode cX12_goesOn 9 = .ok (.getfield 9, 3) := by decide +kernel
theorem dX12_goesOn_12 : decode cX12_goesOn 12 = .ok (.bipush 62, 2) := by decide +kernel
theorem dX12_goesOn_14 : decode cX12_goesOn 14 = .ok (.iload_n 1, 1) := by decide +kernel
theorem dX12_goesOn_15 : decode cX12_goesOn 15 = .ok (.iadd, 1) := by decide +kernel
theorem dX12_goesOn_16 : decode cX12_goesOn 16 = .ok (.iaload, 1) := by decide +kernel
theorem dX12_goesOn_17 : decode cX12_goesOn 17 = .ok (.ifCond .le 81, 3) := by decide +kernel
theorem dX12_goesOn_20 : decode cX12_goesOn 20 = .ok (.aload_n 0, 1) := by decide +kernel
theorem dX12_goesOn_21 : decode cX12_goesOn 21 = .ok (.getfield 9, 3) := by decide +kernel
theorem dX12_goesOn_24 : decode cX12_goesOn 24 = .ok (.bipush 56, 2) := by decide +kernel
theorem dX12_goesOn_26 : decode cX12_goesOn 26 = .ok (.iload_n 1, 1) := by decide +kernel
theorem dX12_goesOn_27 : decode cX12_goesOn 27 = .ok (.iadd, 1) := by decide +kernel
theorem dX12_goesOn_28 : decode cX12_goesOn 28 = .ok (.iaload, 1) := by decide +kernel
theorem dX12_goesOn_29 : decode cX12_goesOn 29 = .ok (.aload_n 0, 1) := by decide +kernel
theorem dX12_goesOn_30 : decode cX12_goesOn 30 = .ok (.getfield 9, 3) := by decide +kernel
theorem dX12_goesOn_33 : decode cX12_goesOn 33 = .ok (.iconst 1, 1) := by decide +kernel
theorem dX12_goesOn_34 : decode cX12_goesOn 34 = .ok (.iaload, 1) := by decide +kernel
theorem dX12_goesOn_35 : decode cX12_goesOn 35 = .ok (.if_icmp .ge 63, 3) := by decide +kernel
theorem dX12_goesOn_38 : decode cX12_goesOn 38 = .ok (.bipush 8, 2) := by decide +kernel
theorem dX12_goesOn_40 : decode cX12_goesOn 40 = .ok (.iload_n 1, 1) := by decide +kernel
theorem dX12_goesOn_41 : decode cX12_goesOn 41 = .ok (.imul, 1) := by decide +kernel
theorem dX12_goesOn_42 : decode cX12_goesOn 42 = .ok (.istore_n 2, 1) := by decide +kernel
theorem dX12_goesOn_43 : decode cX12_goesOn 43 = .ok (.aload_n 0, 1) := by decide +kernel
theorem dX12_goesOn_44 : decode cX12_goesOn 44 = .ok (.iload_n 1, 1) := by decide +kernel
theorem dX12_goesOn_45 : decode cX12_goesOn 45 = .ok (.aload_n 0, 1) := by decide +kernel
theorem dX12_goesOn_46 : decode cX12_goesOn 46 = .ok (.getfield 9, 3) := by decide +kernel
theorem dX12_goesOn_49 : decode cX12_goesOn 49 = .ok (.sipush 734, 3) := by decide +kernel
theorem dX12_goesOn_52 : decode cX12_goesOn 52 = .ok (.iload_n 2, 1) := by decide +kernel
theorem dX12_goesOn_53 : decode cX12_goesOn 53 = .ok (.iadd, 1) := by decide +kernel
theorem dX12_goesOn_54 : decode cX12_goesOn 54 = .ok (.iaload, 1) := by decide +kernel
theorem dX12_goesOn_55 : decode cX12_goesOn 55 = .ok (.aload_n 0, 1) := by decide +kernel
theorem dX12_goesOn_56 : decode cX12_goesOn 56 = .ok (.getfield 9, 3) := by decide +kernel
theorem dX12_goesOn_59 : decode cX12_goesOn 59 = .ok (.sipush 782, 3) := by decide +kernel
theorem dX12_goesOn_62 : decode cX12_goesOn 62 = .ok (.iload_n 2, 1) := by decide +kernel
theorem dX12_goesOn_63 : decode cX12_goesOn 63 = .ok (.iadd, 1) := by decide +kernel
theorem dX12_goesOn_64 : decode cX12_goesOn 64 = .ok (.iaload, 1) := by decide +kernel
theorem dX12_goesOn_65 : decode cX12_goesOn 65 = .ok (.aload_n 0, 1) := by decide +kernel
theorem dX12_goesOn_66 : decode cX12_goesOn 66 = .ok (.getfield 9, 3) := by decide +kernel
theorem dX12_goesOn_69 : decode cX12_goesOn 69 = .ok (.sipush 830, 3) := by decide +kernel
theorem dX12_goesOn_72 : decode cX12_goesOn 72 = .ok (.iload_n 2, 1) := by decide +kernel
theorem dX12_goesOn_73 : decode cX12_goesOn 73 = .ok (.iadd, 1) := by decide +kernel
theorem dX12_goesOn_74 : decode cX12_goesOn 74 = .ok (.iaload, 1) := by decide +kernel
theorem dX12_goesOn_75 : decode cX12_goesOn 75 = .ok (.aload_n 0, 1) := by decide +kernel
theorem dX12_goesOn_76 : decode cX12_goesOn 76 = .ok (.getfield 13, 3) := by decide +kernel
theorem dX12_goesOn_79 : decode cX12_goesOn 79 = .ok (.sipush 312, 3) := by decide +kernel
theorem dX12_goesOn_82 : decode cX12_goesOn 82 = .ok (.iconst 4, 1) := by decide +kernel
theorem dX12_goesOn_83 : decode cX12_goesOn 83 = .ok (.iload_n 2, 1) := by decide +kernel
theorem dX12_goesOn_84 : decode cX12_goesOn 84 = .ok (.imul, 1) := by decide +kernel
theorem dX12_goesOn_85 : decode cX12_goesOn 85 = .ok (.iadd, 1) := by decide +kernel
theorem dX12_goesOn_86 : decode cX12_goesOn 86 = .ok (.invokevirtual 111, 3) := by decide +kernel
theorem dX12_goesOn_89 : decode cX12_goesOn 89 = .ok (.aload_n 0, 1) := by decide +kernel
theorem dX12_goesOn_90 : decode cX12_goesOn 90 = .ok (.iload_n 1, 1) := by decide +kernel
theorem dX12_goesOn_91 : decode cX12_goesOn 91 = .ok (.iconst 0, 1) := by decide +kernel
theorem dX12_goesOn_92 : decode cX12_goesOn 92 = .ok (.invokevirtual 115, 3) := by decide +kernel
theorem dX12_goesOn_95 : decode cX12_goesOn 95 = .ok (.goto (-95), 3) := by decide +kernel
theorem dX12_goesOn_98 : decode cX12_goesOn 98 = .ok (.return_, 1) := by decide +kernel
theorem dX12_waits_0 : decode cX12_waits 0 = .ok (.aload_n 0, 1) := by decide +kernel
theorem dX12_waits_1 : decode cX12_waits 1 = .ok (.getfield 9, 3) := by decide +kernel
theorem dX12_waits_4 : decode cX12_waits 4 = .ok (.bipush 62, 2) := by decide +kernel
theorem dX12_waits_6 : decode cX12_waits 6 = .ok (.iload_n 1, 1) := by decide +kernel
theorem dX12_waits_7 : decode cX12_waits 7 = .ok (.iadd, 1) := by decide +kernel
theorem dX12_waits_8 : decode cX12_waits 8 = .ok (.iaload, 1) := by decide +kernel
theorem dX12_waits_9 : decode cX12_waits 9 = .ok (.bipush 8, 2) := by decide +kernel
theorem dX12_waits_11 : decode cX12_waits 11 = .ok (.if_icmp .ne 30, 3) := by decide +kernel
theorem dX12_waits_14 : decode cX12_waits 14 = .ok (.aload_n 0, 1) := by decide +kernel
theorem dX12_waits_15 : decode cX12_waits 15 = .ok (.getfield 9, 3) := by decide +kernel
theorem dX12_waits_18 : decode cX12_waits 18 = .ok (.bipush 7, 2) := by decide +kernel
theorem dX12_waits_20 : decode cX12_waits 20 = .ok (.dup2, 1) := by decide +kernel
theorem dX12_waits_21 : decode cX12_waits 21 = .ok (.iaload, 1) := by decide +kernel
theorem dX12_waits_22 : decode cX12_waits 22 = .ok (.iconst 1, 1) := by decide +kernel
theorem dX12_waits_23 : decode cX12_waits 23 = .ok (.iadd, 1) := by decide +kernel
theorem dX12_waits_24 : decode cX12_waits 24 = .ok (.iastore, 1) := by decide +kernel
theorem dX12_waits_25 : decode cX12_waits 25 = .ok (.aload_n 0, 1) := by decide +kernel
theorem dX12_waits_26 : decode cX12_waits 26 = .ok (.getfield 9, 3) := by decide +kernel
theorem dX12_waits_29 : decode cX12_waits 29 = .ok (.iconst 4, 1) := by decide +kernel
theorem dX12_waits_30 : decode cX12_waits 30 = .ok (.iaload, 1) := by decide +kernel
theorem dX12_waits_31 : decode cX12_waits 31 = .ok (.ifCond .ne 4, 3) := by decide +kernel
theorem dX12_waits_34 : decode cX12_waits 34 = .ok (.return_, 1) := by decide +kernel
theorem dX12_waits_35 : decode cX12_waits 35 = .ok (.aload_n 0, 1) := by decide +kernel
theorem dX12_waits_36 : decode cX12_waits 36 = .ok (.iload_n 1, 1) := by decide +kernel
theorem dX12_waits_37 : decode cX12_waits 37 = .ok (.iconst 0, 1) := by decide +kernel
theorem dX12_waits_38 : decode cX12_waits 38 = .ok (.invokevirtual 115, 3) := by decide +kernel
theorem dX12_waits_41 : decode cX12_waits 41 = .ok (.bipush 8, 2) := by decide +kernel
theorem dX12_waits_43 : decode cX12_waits 43 = .ok (.iload_n 1, 1) := by decide +kernel
theorem dX12_waits_44 : decode cX12_waits 44 = .ok (.imul, 1) := by decide +kernel
theorem dX12_waits_45 : decode cX12_waits 45 = .ok (.aload_n 0, 1) := by decide +kernel
theorem dX12_waits_46 : decode cX12_waits 46 = .ok (.getfield 9, 3) := by decide +kernel
theorem dX12_waits_49 : decode cX12_waits 49 = .ok (.bipush 62, 2) := by decide +kernel
theorem dX12_waits_51 : decode cX12_waits 51 = .ok (.iload_n 1, 1) := by decide +kernel
theorem dX12_waits_52 : decode cX12_waits 52 = .ok (.iadd, 1) := by decide +kernel
theorem dX12_waits_53 : decode cX12_waits 53 = .ok (.iaload, 1) := by decide +kernel
theorem dX12_waits_54 : decode cX12_waits 54 = .ok (.iadd, 1) := by decide +kernel
theorem dX12_waits_55 : decode cX12_waits 55 = .ok (.istore 5, 2) := by decide +kernel
theorem dX12_waits_57 : decode cX12_waits 57 = .ok (.aload_n 0, 1) := by decide +kernel
theorem dX12_waits_58 : decode cX12_waits 58 = .ok (.getfield 9, 3) := by decide +kernel
theorem dX12_waits_61 : decode cX12_waits 61 = .ok (.sipush 734, 3) := by decide +kernel
theorem dX12_waits_64 : decode cX12_waits 64 = .ok (.iload 5, 2) := by decide +kernel
theorem dX12_waits_66 : decode cX12_waits 66 = .ok (.iadd, 1) := by decide +kernel
theorem dX12_waits_67 : decode cX12_waits 67 = .ok (.iload_n 2, 1) := by decide +kernel
theorem dX12_waits_68 : decode cX12_waits 68 = .ok (.iastore, 1) := by decide +kernel
theorem dX12_waits_69 : decode cX12_waits 69 = .ok (.aload_n 0, 1) := by decide +kernel
theorem dX12_waits_70 : decode cX12_waits 70 = .ok (.getfield 9, 3) := by decide +kernel
theorem dX12_waits_73 : decode cX12_waits 73 = .ok (.sipush 782, 3) := by decide +kernel
theorem dX12_waits_76 : decode cX12_waits 76 = .ok (.iload 5, 2) := by decide +kernel
theorem dX12_waits_78 : decode cX12_waits 78 = .ok (.iadd, 1) := by decide +kernel
theorem dX12_waits_79 : decode cX12_waits 79 = .ok (.iload_n 3, 1) := by decide +kernel
theorem dX12_waits_80 : decode cX12_waits 80 = .ok (.iastore, 1) := by decide +kernel
theorem dX12_waits_81 : decode cX12_waits 81 = .ok (.aload_n 0, 1) := by decide +kernel
theorem dX12_waits_82 : decode cX12_waits 82 = .ok (.getfield 9, 3) := by decide +kernel
theorem dX12_waits_85 : decode cX12_waits 85 = .ok (.sipush 830, 3) := by decide +kernel
theorem dX12_waits_88 : decode cX12_waits 88 = .ok (.iload 5, 2) := by decide +kernel
theorem dX12_waits_90 : decode cX12_waits 90 = .ok (.iadd, 1) := by decide +kernel
theorem dX12_waits_91 : decode cX12_waits 91 = .ok (.iload 4, 2) := by decide +kernel
theorem dX12_waits_93 : decode cX12_waits 93 = .ok (.iastore, 1) := by decide +kernel
theorem dX12_waits_94 : decode cX12_waits 94 = .ok (.aload_n 0, 1) := by decide +kernel
theorem dX12_waits_95 : decode cX12_waits 95 = .ok (.getfield 40, 3) := by decide +kernel
theorem dX12_waits_98 : decode cX12_waits 98 = .ok (.iconst 0, 1) := by decide +kernel
theorem dX12_waits_99 : decode cX12_waits 99 = .ok (.aload_n 0, 1) := by decide +kernel
theorem dX12_waits_100 : decode cX12_waits 100 = .ok (.getfield 13, 3) := by decide +kernel
theorem dX12_waits_103 : decode cX12_waits 103 = .ok (.sipush 312, 3) := by decide +kernel
theorem dX12_waits_106 : decode cX12_waits 106 = .ok (.iconst 4, 1) := by decide +kernel
theorem dX12_waits_107 : decode cX12_waits 107 = .ok (.iload 5, 2) := by decide +kernel
theorem dX12_waits_109 : decode cX12_waits 109 = .ok (.imul, 1) := by decide +kernel
theorem dX12_waits_110 : decode cX12_waits 110 = .ok (.iadd, 1) := by decide +kernel
theorem dX12_waits_111 : decode cX12_waits 111 = .ok (.invokestatic 97, 3) := by decide +kernel
theorem dX12_waits_114 : decode cX12_waits 114 = .ok (.aload_n 0, 1) := by decide +kernel
theorem dX12_waits_115 : decode cX12_waits 115 = .ok (.getfield 9, 3) := by decide +kernel
theorem dX12_waits_118 : decode cX12_waits 118 = .ok (.bipush 62, 2) := by decide +kernel
theorem dX12_waits_120 : decode cX12_waits 120 = .ok (.iload_n 1, 1) := by decide +kernel
theorem dX12_waits_121 : decode cX12_waits 121 = .ok (.iadd, 1) := by decide +kernel
theorem dX12_waits_122 : decode cX12_waits 122 = .ok (.dup2, 1) := by decide +kernel
theorem dX12_waits_123 : decode cX12_waits 123 = .ok (.iaload, 1) := by decide +kernel
theorem dX12_waits_124 : decode cX12_waits 124 = .ok (.iconst 1, 1) := by decide +kernel
theorem dX12_waits_125 : decode cX12_waits 125 = .ok (.iadd, 1) := by decide +kernel
theorem dX12_waits_126 : decode cX12_waits 126 = .ok (.iastore, 1) := by decide +kernel
theorem dX12_waits_127 : decode cX12_waits 127 = .ok (.return_, 1) := by decide +kernel
theorem dX12_gives_0 : decode cX12_gives 0 = .ok (.aload_n 0, 1) := by decide +kernel
theorem dX12_gives_1 : decode cX12_gives 1 = .ok (.getfield 9, 3) := by decide +kernel
theorem dX12_gives_4 : decode cX12_gives 4 = .ok (.bipush 6, 2) := by decide +kernel
theorem dX12_gives_6 : decode cX12_gives 6 = .ok (.dup2, 1) := by decide +kernel
theorem dX12_gives_7 : decode cX12_gives 7 = .ok (.iaload, 1) := by decide +kernel
theorem dX12_gives_8 : decode cX12_gives 8 = .ok (.iconst 1, 1) := by decide +kernel
theorem dX12_gives_9 : decode cX12_gives 9 = .ok (.iadd, 1) := by decide +kernel
theorem dX12_gives_10 : decode cX12_gives 10 = .ok (.iastore, 1) := by decide +kernel
theorem dX12_gives_11 : decode cX12_gives 11 = .ok (.iload_n 2, 1) := by decide +kernel
theorem dX12_gives_12 : decode cX12_gives 12 = .ok (.ifCond .ne 46, 3) := by decide +kernel
theorem dX12_gives_15 : decode cX12_gives 15 = .ok (.aload_n 0, 1) := by decide +kernel
theorem dX12_gives_16 : decode cX12_gives 16 = .ok (.iload_n 1, 1) := by decide +kernel
theorem dX12_gives_17 : decode cX12_gives 17 = .ok (.invokevirtual 107, 3) := by decide +kernel
theorem dX12_gives_20 : decode cX12_gives 20 = .ok (.ifCond .eq 24, 3) := by decide +kernel
theorem dX12_gives_23 : decode cX12_gives 23 = .ok (.aload_n 0, 1) := by decide +kernel
theorem dX12_gives_24 : decode cX12_gives 24 = .ok (.iload_n 1, 1) := by decide +kernel
theorem dX12_gives_25 : decode cX12_gives 25 = .ok (.iconst 0, 1) := by decide +kernel
theorem dX12_gives_26 : decode cX12_gives 26 = .ok (.iconst 0, 1) := by decide +kernel
theorem dX12_gives_27 : decode cX12_gives 27 = .ok (.iconst 0, 1) := by decide +kernel
theorem dX12_gives_28 : decode cX12_gives 28 = .ok (.iload_n 3, 1) := by decide +kernel
theorem dX12_gives_29 : decode cX12_gives 29 = .ok (.iconst 2, 1) := by decide +kernel
theorem dX12_gives_30 : decode cX12_gives 30 = .ok (.iload 4, 2) := by decide +kernel
theorem dX12_gives_32 : decode cX12_gives 32 = .ok (.imul, 1) := by decide +kernel
theorem dX12_gives_33 : decode cX12_gives 33 = .ok (.aload_n 0, 1) := by decide +kernel
theorem dX12_gives_34 : decode cX12_gives 34 = .ok (.getfield 40, 3) := by decide +kernel
theorem dX12_gives_37 : decode cX12_gives 37 = .ok (.iconst 0, 1) := by decide +kernel
theorem dX12_gives_38 : decode cX12_gives 38 = .ok (.invokevirtual 101, 3) := by decide +kernel
theorem dX12_gives_41 : decode cX12_gives 41 = .ok (.goto 81, 3) := by decide +kernel
theorem dX12_gives_44 : decode cX12_gives 44 = .ok (.aload_n 0, 1) := by decide +kernel
theorem dX12_gives_45 : decode cX12_gives 45 = .ok (.getfield 9, 3) := by decide +kernel
theorem dX12_gives_48 : decode cX12_gives 48 = .ok (.bipush 7, 2) := by decide +kernel
theorem dX12_gives_50 : decode cX12_gives 50 = .ok (.dup2, 1) := by decide +kernel
theorem dX12_gives_51 : decode cX12_gives 51 = .ok (.iaload, 1) := by decide +kernel
theorem dX12_gives_52 : decode cX12_gives 52 = .ok (.iconst 1, 1) := by decide +kernel
theorem dX12_gives_53 : decode cX12_gives 53 = .ok (.iadd, 1) := by decide +kernel
theorem dX12_gives_54 : decode cX12_gives 54 = .ok (.iastore, 1) := by decide +kernel
theorem dX12_gives_55 : decode cX12_gives 55 = .ok (.goto 67, 3) := by decide +kernel
theorem dX12_gives_58 : decode cX12_gives 58 = .ok (.aload_n 0, 1) := by decide +kernel
theorem dX12_gives_59 : decode cX12_gives 59 = .ok (.iload_n 1, 1) := by decide +kernel
theorem dX12_gives_60 : decode cX12_gives 60 = .ok (.invokevirtual 107, 3) := by decide +kernel
theorem dX12_gives_63 : decode cX12_gives 63 = .ok (.ifCond .eq 50, 3) := by decide +kernel
theorem dX12_gives_66 : decode cX12_gives 66 = .ok (.aload_n 0, 1) := by decide +kernel
theorem dX12_gives_67 : decode cX12_gives 67 = .ok (.getfield 9, 3) := by decide +kernel
theorem dX12_gives_70 : decode cX12_gives 70 = .ok (.bipush 56, 2) := by decide +kernel
theorem dX12_gives_72 : decode cX12_gives 72 = .ok (.iload_n 1, 1) := by decide +kernel
theorem dX12_gives_73 : decode cX12_gives 73 = .ok (.iadd, 1) := by decide +kernel
theorem dX12_gives_74 : decode cX12_gives 74 = .ok (.iaload, 1) := by decide +kernel
theorem dX12_gives_75 : decode cX12_gives 75 = .ok (.aload_n 0, 1) := by decide +kernel
theorem dX12_gives_76 : decode cX12_gives 76 = .ok (.getfield 9, 3) := by decide +kernel
theorem dX12_gives_79 : decode cX12_gives 79 = .ok (.iconst 1, 1) := by decide +kernel
theorem dX12_gives_80 : decode cX12_gives 80 = .ok (.iaload, 1) := by decide +kernel
theorem dX12_gives_81 : decode cX12_gives 81 = .ok (.if_icmp .ge 32, 3) := by decide +kernel
theorem dX12_gives_84 : decode cX12_gives 84 = .ok (.aload_n 0, 1) := by decide +kernel
theorem dX12_gives_85 : decode cX12_gives 85 = .ok (.getfield 9, 3) := by decide +kernel
theorem dX12_gives_88 : decode cX12_gives 88 = .ok (.bipush 62, 2) := by decide +kernel
theorem dX12_gives_90 : decode cX12_gives 90 = .ok (.iload_n 1, 1) := by decide +kernel
theorem dX12_gives_91 : decode cX12_gives 91 = .ok (.iadd, 1) := by decide +kernel
theorem dX12_gives_92 : decode cX12_gives 92 = .ok (.iaload, 1) := by decide +kernel
theorem dX12_gives_93 : decode cX12_gives 93 = .ok (.ifCond .ne 20, 3) := by decide +kernel
theorem dX12_gives_96 : decode cX12_gives 96 = .ok (.aload_n 0, 1) := by decide +kernel
theorem dX12_gives_97 : decode cX12_gives 97 = .ok (.iload_n 1, 1) := by decide +kernel
theorem dX12_gives_98 : decode cX12_gives 98 = .ok (.iload_n 2, 1) := by decide +kernel
theorem dX12_gives_99 : decode cX12_gives 99 = .ok (.iload_n 3, 1) := by decide +kernel
theorem dX12_gives_100 : decode cX12_gives 100 = .ok (.iload 4, 2) := by decide +kernel
theorem dX12_gives_102 : decode cX12_gives 102 = .ok (.aload_n 0, 1) := by decide +kernel
theorem dX12_gives_103 : decode cX12_gives 103 = .ok (.getfield 40, 3) := by decide +kernel
theorem dX12_gives_106 : decode cX12_gives 106 = .ok (.iconst 0, 1) := by decide +kernel
theorem dX12_gives_107 : decode cX12_gives 107 = .ok (.invokevirtual 111, 3) := by decide +kernel
theorem dX12_gives_110 : decode cX12_gives 110 = .ok (.goto 12, 3) := by decide +kernel
theorem dX12_gives_113 : decode cX12_gives 113 = .ok (.aload_n 0, 1) := by decide +kernel
theorem dX12_gives_114 : decode cX12_gives 114 = .ok (.iload_n 1, 1) := by decide +kernel
theorem dX12_gives_115 : decode cX12_gives 115 = .ok (.iload_n 2, 1) := by decide +kernel
theorem dX12_gives_116 : decode cX12_gives 116 = .ok (.iload_n 3, 1) := by decide +kernel
theorem dX12_gives_117 : decode cX12_gives 117 = .ok (.iload 4, 2) := by decide +kernel
theorem dX12_gives_119 : decode cX12_gives 119 = .ok (.invokevirtual 119, 3) := by decide +kernel
theorem dX12_gives_122 : decode cX12_gives 122 = .ok (.return_, 1) := by decide +kernel
theorem dX12_sendsAgain_0 : decode cX12_sendsAgain 0 = .ok (.iconst 5, 1) := by decide +kernel
theorem dX12_sendsAgain_1 : decode cX12_sendsAgain 1 = .ok (.iload_n 1, 1) := by decide +kernel
theorem dX12_sendsAgain_2 : decode cX12_sendsAgain 2 = .ok (.imul, 1) := by decide +kernel
theorem dX12_sendsAgain_3 : decode cX12_sendsAgain 3 = .ok (.iload_n 2, 1) := by decide +kernel
theorem dX12_sendsAgain_4 : decode cX12_sendsAgain 4 = .ok (.iadd, 1) := by decide +kernel
theorem dX12_sendsAgain_5 : decode cX12_sendsAgain 5 = .ok (.istore_n 3, 1) := by decide +kernel
theorem dX12_sendsAgain_6 : decode cX12_sendsAgain 6 = .ok (.aload_n 0, 1) := by decide +kernel
theorem dX12_sendsAgain_7 : decode cX12_sendsAgain 7 = .ok (.getfield 9, 3) := by decide +kernel
theorem dX12_sendsAgain_10 : decode cX12_sendsAgain 10 = .ok (.sipush 704, 3) := by decide +kernel
theorem dX12_sendsAgain_13 : decode cX12_sendsAgain 13 = .ok (.iload_n 3, 1) := by decide +kernel
theorem dX12_sendsAgain_14 : decode cX12_sendsAgain 14 = .ok (.iadd, 1) := by decide +kernel
theorem dX12_sendsAgain_15 : decode cX12_sendsAgain 15 = .ok (.aload_n 0, 1) := by decide +kernel
theorem dX12_sendsAgain_16 : decode cX12_sendsAgain 16 = .ok (.getfield 9, 3) := by decide +kernel
theorem dX12_sendsAgain_19 : decode cX12_sendsAgain 19 = .ok (.iconst 0, 1) := by decide +kernel
theorem dX12_sendsAgain_20 : decode cX12_sendsAgain 20 = .ok (.iaload, 1) := by decide +kernel
theorem dX12_sendsAgain_21 : decode cX12_sendsAgain 21 = .ok (.iastore, 1) := by decide +kernel
theorem dX12_sendsAgain_22 : decode cX12_sendsAgain 22 = .ok (.aload_n 0, 1) := by decide +kernel
theorem dX12_sendsAgain_23 : decode cX12_sendsAgain 23 = .ok (.getfield 9, 3) := by decide +kernel
theorem dX12_sendsAgain_26 : decode cX12_sendsAgain 26 = .ok (.bipush 9, 2) := by decide +kernel
theorem dX12_sendsAgain_28 : decode cX12_sendsAgain 28 = .ok (.dup2, 1) := by decide +kernel
theorem dX12_sendsAgain_29 : decode cX12_sendsAgain 29 = .ok (.iaload, 1) := by decide +kernel
theorem dX12_sendsAgain_30 : decode cX12_sendsAgain 30 = .ok (.iconst 1, 1) := by decide +kernel
theorem dX12_sendsAgain_31 : decode cX12_sendsAgain 31 = .ok (.iadd, 1) := by decide +kernel
theorem dX12_sendsAgain_32 : decode cX12_sendsAgain 32 = .ok (.iastore, 1) := by decide +kernel
theorem dX12_sendsAgain_33 : decode cX12_sendsAgain 33 = .ok (.aload_n 0, 1) := by decide +kernel
theorem dX12_sendsAgain_34 : decode cX12_sendsAgain 34 = .ok (.getfield 9, 3) := by decide +kernel
theorem dX12_sendsAgain_37 : decode cX12_sendsAgain 37 = .ok (.sipush 674, 3) := by decide +kernel
theorem dX12_sendsAgain_40 : decode cX12_sendsAgain 40 = .ok (.iload_n 3, 1) := by decide +kernel
theorem dX12_sendsAgain_41 : decode cX12_sendsAgain 41 = .ok (.iadd, 1) := by decide +kernel
theorem dX12_sendsAgain_42 : decode cX12_sendsAgain 42 = .ok (.iaload, 1) := by decide +kernel
theorem dX12_sendsAgain_43 : decode cX12_sendsAgain 43 = .ok (.iconst 4, 1) := by decide +kernel
theorem dX12_sendsAgain_44 : decode cX12_sendsAgain 44 = .ok (.if_icmp .ne 22, 3) := by decide +kernel
theorem dX12_sendsAgain_47 : decode cX12_sendsAgain 47 = .ok (.aload_n 0, 1) := by decide +kernel
theorem dX12_sendsAgain_48 : decode cX12_sendsAgain 48 = .ok (.iload_n 1, 1) := by decide +kernel
theorem dX12_sendsAgain_49 : decode cX12_sendsAgain 49 = .ok (.iconst 3, 1) := by decide +kernel
theorem dX12_sendsAgain_50 : decode cX12_sendsAgain 50 = .ok (.aload_n 0, 1) := by decide +kernel
theorem dX12_sendsAgain_51 : decode cX12_sendsAgain 51 = .ok (.getfield 9, 3) := by decide +kernel
theorem dX12_sendsAgain_54 : decode cX12_sendsAgain 54 = .ok (.sipush 554, 3) := by decide +kernel
theorem dX12_sendsAgain_57 : decode cX12_sendsAgain 57 = .ok (.iload_n 3, 1) := by decide +kernel
theorem dX12_sendsAgain_58 : decode cX12_sendsAgain 58 = .ok (.iadd, 1) := by decide +kernel
theorem dX12_sendsAgain_59 : decode cX12_sendsAgain 59 = .ok (.iaload, 1) := by decide +kernel
theorem dX12_sendsAgain_60 : decode cX12_sendsAgain 60 = .ok (.invokevirtual 123, 3) := by decide +kernel
theorem dX12_sendsAgain_63 : decode cX12_sendsAgain 63 = .ok (.goto 64, 3) := by decide +kernel
theorem dX12_sendsAgain_66 : decode cX12_sendsAgain 66 = .ok (.aload_n 0, 1) := by decide +kernel
theorem dX12_sendsAgain_67 : decode cX12_sendsAgain 67 = .ok (.iload_n 1, 1) := by decide +kernel
theorem dX12_sendsAgain_68 : decode cX12_sendsAgain 68 = .ok (.iconst 0, 1) := by decide +kernel
theorem dX12_sendsAgain_69 : decode cX12_sendsAgain 69 = .ok (.aload_n 0, 1) := by decide +kernel
theorem dX12_sendsAgain_70 : decode cX12_sendsAgain 70 = .ok (.getfield 9, 3) := by decide +kernel
theorem dX12_sendsAgain_73 : decode cX12_sendsAgain 73 = .ok (.sipush 554, 3) := by decide +kernel
theorem dX12_sendsAgain_76 : decode cX12_sendsAgain 76 = .ok (.iload_n 3, 1) := by decide +kernel
theorem dX12_sendsAgain_77 : decode cX12_sendsAgain 77 = .ok (.iadd, 1) := by decide +kernel
theorem dX12_sendsAgain_78 : decode cX12_sendsAgain 78 = .ok (.iaload, 1) := by decide +kernel
theorem dX12_sendsAgain_79 : decode cX12_sendsAgain 79 = .ok (.aload_n 0, 1) := by decide +kernel
theorem dX12_sendsAgain_80 : decode cX12_sendsAgain 80 = .ok (.getfield 9, 3) := by decide +kernel
theorem dX12_sendsAgain_83 : decode cX12_sendsAgain 83 = .ok (.sipush 584, 3) := by decide +kernel
theorem dX12_sendsAgain_86 : decode cX12_sendsAgain 86 = .ok (.iload_n 3, 1) := by decide +kernel
theorem dX12_sendsAgain_87 : decode cX12_sendsAgain 87 = .ok (.iadd, 1) := by decide +kernel
theorem dX12_sendsAgain_88 : decode cX12_sendsAgain 88 = .ok (.iaload, 1) := by decide +kernel
theorem dX12_sendsAgain_89 : decode cX12_sendsAgain 89 = .ok (.aload_n 0, 1) := by decide +kernel
theorem dX12_sendsAgain_90 : decode cX12_sendsAgain 90 = .ok (.getfield 9, 3) := by decide +kernel
theorem dX12_sendsAgain_93 : decode cX12_sendsAgain 93 = .ok (.sipush 614, 3) := by decide +kernel
theorem dX12_sendsAgain_96 : decode cX12_sendsAgain 96 = .ok (.iload_n 3, 1) := by decide +kernel
theorem dX12_sendsAgain_97 : decode cX12_sendsAgain 97 = .ok (.iadd, 1) := by decide +kernel
theorem dX12_sendsAgain_98 : decode cX12_sendsAgain 98 = .ok (.iaload, 1) := by decide +kernel
theorem dX12_sendsAgain_99 : decode cX12_sendsAgain 99 = .ok (.iconst 1, 1) := by decide +kernel
theorem dX12_sendsAgain_100 : decode cX12_sendsAgain 100 = .ok (.iconst 2, 1) := by decide +kernel
theorem dX12_sendsAgain_101 : decode cX12_sendsAgain 101 = .ok (.aload_n 0, 1) := by decide +kernel
theorem dX12_sendsAgain_102 : decode cX12_sendsAgain 102 = .ok (.getfield 9, 3) := by decide +kernel
theorem dX12_sendsAgain_105 : decode cX12_sendsAgain 105 = .ok (.sipush 644, 3) := by decide +kernel
theorem dX12_sendsAgain_108 : decode cX12_sendsAgain 108 = .ok (.iload_n 3, 1) := by decide +kernel
theorem dX12_sendsAgain_109 : decode cX12_sendsAgain 109 = .ok (.iadd, 1) := by decide +kernel
theorem dX12_sendsAgain_110 : decode cX12_sendsAgain 110 = .ok (.iaload, 1) := by decide +kernel
theorem dX12_sendsAgain_111 : decode cX12_sendsAgain 111 = .ok (.imul, 1) := by decide +kernel
theorem dX12_sendsAgain_112 : decode cX12_sendsAgain 112 = .ok (.iadd, 1) := by decide +kernel
theorem dX12_sendsAgain_113 : decode cX12_sendsAgain 113 = .ok (.aload_n 0, 1) := by decide +kernel
theorem dX12_sendsAgain_114 : decode cX12_sendsAgain 114 = .ok (.getfield 13, 3) := by decide +kernel
theorem dX12_sendsAgain_117 : decode cX12_sendsAgain 117 = .ok (.sipush 168, 3) := by decide +kernel
theorem dX12_sendsAgain_120 : decode cX12_sendsAgain 120 = .ok (.iconst 4, 1) := by decide +kernel
theorem dX12_sendsAgain_121 : decode cX12_sendsAgain 121 = .ok (.iload_n 3, 1) := by decide +kernel
theorem dX12_sendsAgain_122 : decode cX12_sendsAgain 122 = .ok (.imul, 1) := by decide +kernel
theorem dX12_sendsAgain_123 : decode cX12_sendsAgain 123 = .ok (.iadd, 1) := by decide +kernel
theorem dX12_sendsAgain_124 : decode cX12_sendsAgain 124 = .ok (.invokevirtual 101, 3) := by decide +kernel
theorem dX12_sendsAgain_127 : decode cX12_sendsAgain 127 = .ok (.return_, 1) := by decide +kernel
theorem dX12_ends_0 : decode cX12_ends 0 = .ok (.iconst 5, 1) := by decide +kernel
theorem dX12_ends_1 : decode cX12_ends 1 = .ok (.iload_n 1, 1) := by decide +kernel
theorem dX12_ends_2 : decode cX12_ends 2 = .ok (.imul, 1) := by decide +kernel
theorem dX12_ends_3 : decode cX12_ends 3 = .ok (.iload_n 2, 1) := by decide +kernel
theorem dX12_ends_4 : decode cX12_ends 4 = .ok (.iadd, 1) := by decide +kernel
theorem dX12_ends_5 : decode cX12_ends 5 = .ok (.istore_n 3, 1) := by decide +kernel
theorem dX12_ends_6 : decode cX12_ends 6 = .ok (.iload_n 3, 1) := by decide +kernel
theorem dX12_ends_7 : decode cX12_ends 7 = .ok (.iconst 5, 1) := by decide +kernel
theorem dX12_ends_8 : decode cX12_ends 8 = .ok (.iload_n 1, 1) := by decide +kernel
theorem dX12_ends_9 : decode cX12_ends 9 = .ok (.imul, 1) := by decide +kernel
theorem dX12_ends_10 : decode cX12_ends 10 = .ok (.aload_n 0, 1) := by decide +kernel
theorem dX12_ends_11 : decode cX12_ends 11 = .ok (.getfield 9, 3) := by decide +kernel
theorem dX12_ends_14 : decode cX12_ends 14 = .ok (.bipush 56, 2) := by decide +kernel
theorem dX12_ends_16 : decode cX12_ends 16 = .ok (.iload_n 1, 1) := by decide +kernel
theorem dX12_ends_17 : decode cX12_ends 17 = .ok (.iadd, 1) := by decide +kernel
theorem dX12_ends_18 : decode cX12_ends 18 = .ok (.iaload, 1) := by decide +kernel
theorem dX12_ends_19 : decode cX12_ends 19 = .ok (.iadd, 1) := by decide +kernel
theorem dX12_ends_20 : decode cX12_ends 20 = .ok (.iconst 1, 1) := by decide +kernel
theorem dX12_ends_21 : decode cX12_ends 21 = .ok (.isub, 1) := by decide +kernel
theorem dX12_ends_22 : decode cX12_ends 22 = .ok (.if_icmp .ge 168, 3) := by decide +kernel
theorem dX12_ends_25 : decode cX12_ends 25 = .ok (.aload_n 0, 1) := by decide +kernel
theorem dX12_ends_26 : decode cX12_ends 26 = .ok (.getfield 9, 3) := by decide +kernel
theorem dX12_ends_29 : decode cX12_ends 29 = .ok (.sipush 554, 3) := by decide +kernel
theorem dX12_ends_32 : decode cX12_ends 32 = .ok (.iload_n 3, 1) := by decide +kernel
theorem dX12_ends_33 : decode cX12_ends 33 = .ok (.iadd, 1) := by decide +kernel
theorem dX12_ends_34 : decode cX12_ends 34 = .ok (.aload_n 0, 1) := by decide +kernel
theorem dX12_ends_35 : decode cX12_ends 35 = .ok (.getfield 9, 3) := by decide +kernel
theorem dX12_ends_38 : decode cX12_ends 38 = .ok (.sipush 554, 3) := by decide +kernel
theorem dX12_ends_41 : decode cX12_ends 41 = .ok (.iload_n 3, 1) := by decide +kernel
theorem dX12_ends_42 : decode cX12_ends 42 = .ok (.iadd, 1) := by decide +kernel
theorem dX12_ends_43 : decode cX12_ends 43 = .ok (.iconst 1, 1) := by decide +kernel
theorem dX12_ends_44 : decode cX12_ends 44 = .ok (.iadd, 1) := by decide +kernel
theorem dX12_ends_45 : decode cX12_ends 45 = .ok (.iaload, 1) := by decide +kernel
theorem dX12_ends_46 : decode cX12_ends 46 = .ok (.iastore, 1) := by decide +kernel
theorem dX12_ends_47 : decode cX12_ends 47 = .ok (.aload_n 0, 1) := by decide +kernel
theorem dX12_ends_48 : decode cX12_ends 48 = .ok (.getfield 9, 3) := by decide +kernel
theorem dX12_ends_51 : decode cX12_ends 51 = .ok (.sipush 584, 3) := by decide +kernel
theorem dX12_ends_54 : decode cX12_ends 54 = .ok (.iload_n 3, 1) := by decide +kernel
theorem dX12_ends_55 : decode cX12_ends 55 = .ok (.iadd, 1) := by decide +kernel
theorem dX12_ends_56 : decode cX12_ends 56 = .ok (.aload_n 0, 1) := by decide +kernel
theorem dX12_ends_57 : decode cX12_ends 57 = .ok (.getfield 9, 3) := by decide +kernel
theorem dX12_ends_60 : decode cX12_ends 60 = .ok (.sipush 584, 3) := by decide +kernel
theorem dX12_ends_63 : decode cX12_ends 63 = .ok (.iload_n 3, 1) := by decide +kernel
theorem dX12_ends_64 : decode cX12_ends 64 = .ok (.iadd, 1) := by decide +kernel
theorem dX12_ends_65 : decode cX12_ends 65 = .ok (.iconst 1, 1) := by decide +kernel
theorem dX12_ends_66 : decode cX12_ends 66 = .ok (.iadd, 1) := by decide +kernel
theorem dX12_ends_67 : decode cX12_ends 67 = .ok (.iaload, 1) := by decide +kernel
theorem dX12_ends_68 : decode cX12_ends 68 = .ok (.iastore, 1) := by decide +kernel
theorem dX12_ends_69 : decode cX12_ends 69 = .ok (.aload_n 0, 1) := by decide +kernel
theorem dX12_ends_70 : decode cX12_ends 70 = .ok (.getfield 9, 3) := by decide +kernel
theorem dX12_ends_73 : decode cX12_ends 73 = .ok (.sipush 614, 3) := by decide +kernel
theorem dX12_ends_76 : decode cX12_ends 76 = .ok (.iload_n 3, 1) := by decide +kernel
theorem dX12_ends_77 : decode cX12_ends 77 = .ok (.iadd, 1) := by decide +kernel
theorem dX12_ends_78 : decode cX12_ends 78 = .ok (.aload_n 0, 1) := by decide +kernel
theorem dX12_ends_79 : decode cX12_ends 79 = .ok (.getfield 9, 3) := by decide +kernel
theorem dX12_ends_82 : decode cX12_ends 82 = .ok (.sipush 614, 3) := by decide +kernel
theorem dX12_ends_85 : decode cX12_ends 85 = .ok (.iload_n 3, 1) := by decide +kernel
theorem dX12_ends_86 : decode cX12_ends 86 = .ok (.iadd, 1) := by decide +kernel
theorem dX12_ends_87 : decode cX12_ends 87 = .ok (.iconst 1, 1) := by decide +kernel
theorem dX12_ends_88 : decode cX12_ends 88 = .ok (.iadd, 1) := by decide +kernel
theorem dX12_ends_89 : decode cX12_ends 89 = .ok (.iaload, 1) := by decide +kernel
theorem dX12_ends_90 : decode cX12_ends 90 = .ok (.iastore, 1) := by decide +kernel
theorem dX12_ends_91 : decode cX12_ends 91 = .ok (.aload_n 0, 1) := by decide +kernel
theorem dX12_ends_92 : decode cX12_ends 92 = .ok (.getfield 9, 3) := by decide +kernel
theorem dX12_ends_95 : decode cX12_ends 95 = .ok (.sipush 644, 3) := by decide +kernel
theorem dX12_ends_98 : decode cX12_ends 98 = .ok (.iload_n 3, 1) := by decide +kernel
theorem dX12_ends_99 : decode cX12_ends 99 = .ok (.iadd, 1) := by decide +kernel
theorem dX12_ends_100 : decode cX12_ends 100 = .ok (.aload_n 0, 1) := by decide +kernel
theorem dX12_ends_101 : decode cX12_ends 101 = .ok (.getfield 9, 3) := by decide +kernel
theorem dX12_ends_104 : decode cX12_ends 104 = .ok (.sipush 644, 3) := by decide +kernel
theorem dX12_ends_107 : decode cX12_ends 107 = .ok (.iload_n 3, 1) := by decide +kernel
theorem dX12_ends_108 : decode cX12_ends 108 = .ok (.iadd, 1) := by decide +kernel
theorem dX12_ends_109 : decode cX12_ends 109 = .ok (.iconst 1, 1) := by decide +kernel
theorem dX12_ends_110 : decode cX12_ends 110 = .ok (.iadd, 1) := by decide +kernel
theorem dX12_ends_111 : decode cX12_ends 111 = .ok (.iaload, 1) := by decide +kernel
theorem dX12_ends_112 : decode cX12_ends 112 = .ok (.iastore, 1) := by decide +kernel
theorem dX12_ends_113 : decode cX12_ends 113 = .ok (.aload_n 0, 1) := by decide +kernel
theorem dX12_ends_114 : decode cX12_ends 114 = .ok (.getfield 9, 3) := by decide +kernel
theorem dX12_ends_117 : decode cX12_ends 117 = .ok (.sipush 674, 3) := by decide +kernel
theorem dX12_ends_120 : decode cX12_ends 120 = .ok (.iload_n 3, 1) := by decide +kernel
theorem dX12_ends_121 : decode cX12_ends 121 = .ok (.iadd, 1) := by decide +kernel
theorem dX12_ends_122 : decode cX12_ends 122 = .ok (.aload_n 0, 1) := by decide +kernel
theorem dX12_ends_123 : decode cX12_ends 123 = .ok (.getfield 9, 3) := by decide +kernel
theorem dX12_ends_126 : decode cX12_ends 126 = .ok (.sipush 674, 3) := by decide +kernel
theorem dX12_ends_129 : decode cX12_ends 129 = .ok (.iload_n 3, 1) := by decide +kernel
theorem dX12_ends_130 : decode cX12_ends 130 = .ok (.iadd, 1) := by decide +kernel
theorem dX12_ends_131 : decode cX12_ends 131 = .ok (.iconst 1, 1) := by decide +kernel
theorem dX12_ends_132 : decode cX12_ends 132 = .ok (.iadd, 1) := by decide +kernel
theorem dX12_ends_133 : decode cX12_ends 133 = .ok (.iaload, 1) := by decide +kernel
theorem dX12_ends_134 : decode cX12_ends 134 = .ok (.iastore, 1) := by decide +kernel
theorem dX12_ends_135 : decode cX12_ends 135 = .ok (.aload_n 0, 1) := by decide +kernel
theorem dX12_ends_136 : decode cX12_ends 136 = .ok (.getfield 9, 3) := by decide +kernel
theorem dX12_ends_139 : decode cX12_ends 139 = .ok (.sipush 704, 3) := by decide +kernel
theorem dX12_ends_142 : decode cX12_ends 142 = .ok (.iload_n 3, 1) := by decide +kernel
theorem dX12_ends_143 : decode cX12_ends 143 = .ok (.iadd, 1) := by decide +kernel
theorem dX12_ends_144 : decode cX12_ends 144 = .ok (.aload_n 0, 1) := by decide +kernel
theorem dX12_ends_145 : decode cX12_ends 145 = .ok (.getfield 9, 3) := by decide +kernel
theorem dX12_ends_148 : decode cX12_ends 148 = .ok (.sipush 704, 3) := by decide +kernel
theorem dX12_ends_151 : decode cX12_ends 151 = .ok (.iload_n 3, 1) := by decide +kernel
theorem dX12_ends_152 : decode cX12_ends 152 = .ok (.iadd, 1) := by decide +kernel
theorem dX12_ends_153 : decode cX12_ends 153 = .ok (.iconst 1, 1) := by decide +kernel
theorem dX12_ends_154 : decode cX12_ends 154 = .ok (.iadd, 1) := by decide +kernel
theorem dX12_ends_155 : decode cX12_ends 155 = .ok (.iaload, 1) := by decide +kernel
theorem dX12_ends_156 : decode cX12_ends 156 = .ok (.iastore, 1) := by decide +kernel
theorem dX12_ends_157 : decode cX12_ends 157 = .ok (.aload_n 0, 1) := by decide +kernel
theorem dX12_ends_158 : decode cX12_ends 158 = .ok (.getfield 13, 3) := by decide +kernel
theorem dX12_ends_161 : decode cX12_ends 161 = .ok (.sipush 168, 3) := by decide +kernel
theorem dX12_ends_164 : decode cX12_ends 164 = .ok (.iconst 4, 1) := by decide +kernel
theorem dX12_ends_165 : decode cX12_ends 165 = .ok (.iload_n 3, 1) := by decide +kernel
theorem dX12_ends_166 : decode cX12_ends 166 = .ok (.iconst 1, 1) := by decide +kernel
theorem dX12_ends_167 : decode cX12_ends 167 = .ok (.iadd, 1) := by decide +kernel
theorem dX12_ends_168 : decode cX12_ends 168 = .ok (.imul, 1) := by decide +kernel
theorem dX12_ends_169 : decode cX12_ends 169 = .ok (.iadd, 1) := by decide +kernel
theorem dX12_ends_170 : decode cX12_ends 170 = .ok (.aload_n 0, 1) := by decide +kernel
theorem dX12_ends_171 : decode cX12_ends 171 = .ok (.getfield 13, 3) := by decide +kernel
theorem dX12_ends_174 : decode cX12_ends 174 = .ok (.sipush 168, 3) := by decide +kernel
theorem dX12_ends_177 : decode cX12_ends 177 = .ok (.iconst 4, 1) := by decide +kernel
theorem dX12_ends_178 : decode cX12_ends 178 = .ok (.iload_n 3, 1) := by decide +kernel
theorem dX12_ends_179 : decode cX12_ends 179 = .ok (.imul, 1) := by decide +kernel
theorem dX12_ends_180 : decode cX12_ends 180 = .ok (.iadd, 1) := by decide +kernel
theorem dX12_ends_181 : decode cX12_ends 181 = .ok (.invokestatic 97, 3) := by decide +kernel
theorem dX12_ends_184 : decode cX12_ends 184 = .ok (.iinc 3 1, 3) := by decide +kernel
theorem dX12_ends_187 : decode cX12_ends 187 = .ok (.goto (-181), 3) := by decide +kernel
theorem dX12_ends_190 : decode cX12_ends 190 = .ok (.aload_n 0, 1) := by decide +kernel
theorem dX12_ends_191 : decode cX12_ends 191 = .ok (.getfield 9, 3) := by decide +kernel
theorem dX12_ends_194 : decode cX12_ends 194 = .ok (.bipush 56, 2) := by decide +kernel
theorem dX12_ends_196 : decode cX12_ends 196 = .ok (.iload_n 1, 1) := by decide +kernel
theorem dX12_ends_197 : decode cX12_ends 197 = .ok (.iadd, 1) := by decide +kernel
theorem dX12_ends_198 : decode cX12_ends 198 = .ok (.dup2, 1) := by decide +kernel
theorem dX12_ends_199 : decode cX12_ends 199 = .ok (.iaload, 1) := by decide +kernel
theorem dX12_ends_200 : decode cX12_ends 200 = .ok (.iconst 1, 1) := by decide +kernel
theorem dX12_ends_201 : decode cX12_ends 201 = .ok (.isub, 1) := by decide +kernel
theorem dX12_ends_202 : decode cX12_ends 202 = .ok (.iastore, 1) := by decide +kernel
theorem dX12_ends_203 : decode cX12_ends 203 = .ok (.aload_n 0, 1) := by decide +kernel
theorem dX12_ends_204 : decode cX12_ends 204 = .ok (.getfield 9, 3) := by decide +kernel
theorem dX12_ends_207 : decode cX12_ends 207 = .ok (.bipush 14, 2) := by decide +kernel
theorem dX12_ends_209 : decode cX12_ends 209 = .ok (.dup2, 1) := by decide +kernel
theorem dX12_ends_210 : decode cX12_ends 210 = .ok (.iaload, 1) := by decide +kernel
theorem dX12_ends_211 : decode cX12_ends 211 = .ok (.iconst 1, 1) := by decide +kernel
theorem dX12_ends_212 : decode cX12_ends 212 = .ok (.iadd, 1) := by decide +kernel
theorem dX12_ends_213 : decode cX12_ends 213 = .ok (.iastore, 1) := by decide +kernel
theorem dX12_ends_214 : decode cX12_ends 214 = .ok (.aload_n 0, 1) := by decide +kernel
theorem dX12_ends_215 : decode cX12_ends 215 = .ok (.iload_n 1, 1) := by decide +kernel
theorem dX12_ends_216 : decode cX12_ends 216 = .ok (.invokevirtual 127, 3) := by decide +kernel
theorem dX12_ends_219 : decode cX12_ends 219 = .ok (.return_, 1) := by decide +kernel
theorem dX12_publishedAt_0 : decode cX12_publishedAt 0 = .ok (.iconst (-1), 1) := by decide +kernel
theorem dX12_publishedAt_1 : decode cX12_publishedAt 1 = .ok (.istore_n 3, 1) := by decide +kernel
theorem dX12_publishedAt_2 : decode cX12_publishedAt 2 = .ok (.iconst 0, 1) := by decide +kernel
theorem dX12_publishedAt_3 : decode cX12_publishedAt 3 = .ok (.istore 4, 2) := by decide +kernel
theorem dX12_publishedAt_5 : decode cX12_publishedAt 5 = .ok (.iload 4, 2) := by decide +kernel
theorem dX12_publishedAt_7 : decode cX12_publishedAt 7 = .ok (.aload_n 0, 1) := by decide +kernel
theorem dX12_publishedAt_8 : decode cX12_publishedAt 8 = .ok (.getfield 9, 3) := by decide +kernel
theorem dX12_publishedAt_11 : decode cX12_publishedAt 11 = .ok (.bipush 17, 2) := by decide +kernel
theorem dX12_publishedAt_13 : decode cX12_publishedAt 13 = .ok (.iaload, 1) := by decide +kernel
theorem dX12_publishedAt_14 : decode cX12_publishedAt 14 = .ok (.if_icmp .ge 36, 3) := by decide +kernel
theorem dX12_publishedAt_17 : decode cX12_publishedAt 17 = .ok (.aload_n 0, 1) := by decide +kernel
theorem dX12_publishedAt_18 : decode cX12_publishedAt 18 = .ok (.getfield 13, 3) := by decide +kernel
theorem dX12_publishedAt_21 : decode cX12_publishedAt 21 = .ok (.sipush 1400, 3) := by decide +kernel
theorem dX12_publishedAt_24 : decode cX12_publishedAt 24 = .ok (.iconst 4, 1) := by decide +kernel
theorem dX12_publishedAt_25 : decode cX12_publishedAt 25 = .ok (.iload 4, 2) := by decide +kernel
theorem dX12_publishedAt_27 : decode cX12_publishedAt 27 = .ok (.imul, 1) := by decide +kernel
theorem dX12_publishedAt_28 : decode cX12_publishedAt 28 = .ok (.iadd, 1) := by decide +kernel
theorem dX12_publishedAt_29 : decode cX12_publishedAt 29 = .ok (.aload_n 1, 1) := by decide +kernel
theorem dX12_publishedAt_30 : decode cX12_publishedAt 30 = .ok (.iload_n 2, 1) := by decide +kernel
theorem dX12_publishedAt_31 : decode cX12_publishedAt 31 = .ok (.invokestatic 131, 3) := by decide +kernel
theorem dX12_publishedAt_34 : decode cX12_publishedAt 34 = .ok (.ifCond .eq 8, 3) := by decide +kernel
theorem dX12_publishedAt_37 : decode cX12_publishedAt 37 = .ok (.iload 4, 2) := by decide +kernel
theorem dX12_publishedAt_39 : decode cX12_publishedAt 39 = .ok (.goto 4, 3) := by decide +kernel
theorem dX12_publishedAt_42 : decode cX12_publishedAt 42 = .ok (.iload_n 3, 1) := by decide +kernel
theorem dX12_publishedAt_43 : decode cX12_publishedAt 43 = .ok (.istore_n 3, 1) := by decide +kernel
theorem dX12_publishedAt_44 : decode cX12_publishedAt 44 = .ok (.iinc 4 1, 3) := by decide +kernel
theorem dX12_publishedAt_47 : decode cX12_publishedAt 47 = .ok (.goto (-42), 3) := by decide +kernel
theorem dX12_publishedAt_50 : decode cX12_publishedAt 50 = .ok (.iload_n 3, 1) := by decide +kernel
theorem dX12_publishedAt_51 : decode cX12_publishedAt 51 = .ok (.ireturn, 1) := by decide +kernel
theorem dX12_counts_0 : decode cX12_counts 0 = .ok (.aload_n 0, 1) := by decide +kernel
theorem dX12_counts_1 : decode cX12_counts 1 = .ok (.aload_n 0, 1) := by decide +kernel
theorem dX12_counts_2 : decode cX12_counts 2 = .ok (.getfield 40, 3) := by decide +kernel
theorem dX12_counts_5 : decode cX12_counts 5 = .ok (.iconst 0, 1) := by decide +kernel
theorem dX12_counts_6 : decode cX12_counts 6 = .ok (.invokevirtual 135, 3) := by decide +kernel
theorem dX12_counts_9 : decode cX12_counts 9 = .ok (.istore_n 1, 1) := by decide +kernel
theorem dX12_counts_10 : decode cX12_counts 10 = .ok (.iload_n 1, 1) := by decide +kernel
theorem dX12_counts_11 : decode cX12_counts 11 = .ok (.iconst (-1), 1) := by decide +kernel
theorem dX12_counts_12 : decode cX12_counts 12 = .ok (.if_icmp .ne 52, 3) := by decide +kernel
theorem dX12_counts_15 : decode cX12_counts 15 = .ok (.aload_n 0, 1) := by decide +kernel
theorem dX12_counts_16 : decode cX12_counts 16 = .ok (.getfield 9, 3) := by decide +kernel
theorem dX12_counts_19 : decode cX12_counts 19 = .ok (.bipush 17, 2) := by decide +kernel
theorem dX12_counts_21 : decode cX12_counts 21 = .ok (.iaload, 1) := by decide +kernel
theorem dX12_counts_22 : decode cX12_counts 22 = .ok (.istore_n 1, 1) := by decide +kernel
theorem dX12_counts_23 : decode cX12_counts 23 = .ok (.aload_n 0, 1) := by decide +kernel
theorem dX12_counts_24 : decode cX12_counts 24 = .ok (.getfield 40, 3) := by decide +kernel
theorem dX12_counts_27 : decode cX12_counts 27 = .ok (.iconst 0, 1) := by decide +kernel
theorem dX12_counts_28 : decode cX12_counts 28 = .ok (.aload_n 0, 1) := by decide +kernel
theorem dX12_counts_29 : decode cX12_counts 29 = .ok (.getfield 13, 3) := by decide +kernel
theorem dX12_counts_32 : decode cX12_counts 32 = .ok (.sipush 1400, 3) := by decide +kernel
theorem dX12_counts_35 : decode cX12_counts 35 = .ok (.iconst 4, 1) := by decide +kernel
theorem dX12_counts_36 : decode cX12_counts 36 = .ok (.iload_n 1, 1) := by decide +kernel
theorem dX12_counts_37 : decode cX12_counts 37 = .ok (.imul, 1) := by decide +kernel
theorem dX12_counts_38 : decode cX12_counts 38 = .ok (.iadd, 1) := by decide +kernel
theorem dX12_counts_39 : decode cX12_counts 39 = .ok (.invokestatic 97, 3) := by decide +kernel
theorem dX12_counts_42 : decode cX12_counts 42 = .ok (.aload_n 0, 1) := by decide +kernel
theorem dX12_counts_43 : decode cX12_counts 43 = .ok (.getfield 9, 3) := by decide +kernel
theorem dX12_counts_46 : decode cX12_counts 46 = .ok (.sipush 2118, 3) := by decide +kernel
theorem dX12_counts_49 : decode cX12_counts 49 = .ok (.iload_n 1, 1) := by decide +kernel
theorem dX12_counts_50 : decode cX12_counts 50 = .ok (.iadd, 1) := by decide +kernel
theorem dX12_counts_51 : decode cX12_counts 51 = .ok (.iconst 0, 1) := by decide +kernel
theorem dX12_counts_52 : decode cX12_counts 52 = .ok (.iastore, 1) := by decide +kernel
theorem dX12_counts_53 : decode cX12_counts 53 = .ok (.aload_n 0, 1) := by decide +kernel
theorem dX12_counts_54 : decode cX12_counts 54 = .ok (.getfield 9, 3) := by decide +kernel
theorem dX12_counts_57 : decode cX12_counts 57 = .ok (.bipush 17, 2) := by decide +kernel
theorem dX12_counts_59 : decode cX12_counts 59 = .ok (.dup2, 1) := by decide +kernel
theorem dX12_counts_60 : decode cX12_counts 60 = .ok (.iaload, 1) := by decide +kernel
theorem dX12_counts_61 : decode cX12_counts 61 = .ok (.iconst 1, 1) := by decide +kernel
theorem dX12_counts_62 : decode cX12_counts 62 = .ok (.iadd, 1) := by decide +kernel
theorem dX12_counts_63 : decode cX12_counts 63 = .ok (.iastore, 1) := by decide +kernel
theorem dX12_counts_64 : decode cX12_counts 64 = .ok (.aload_n 0, 1) := by decide +kernel
theorem dX12_counts_65 : decode cX12_counts 65 = .ok (.getfield 9, 3) := by decide +kernel
theorem dX12_counts_68 : decode cX12_counts 68 = .ok (.sipush 2118, 3) := by decide +kernel
theorem dX12_counts_71 : decode cX12_counts 71 = .ok (.iload_n 1, 1) := by decide +kernel
theorem dX12_counts_72 : decode cX12_counts 72 = .ok (.iadd, 1) := by decide +kernel
theorem dX12_counts_73 : decode cX12_counts 73 = .ok (.dup2, 1) := by decide +kernel
theorem dX12_counts_74 : decode cX12_counts 74 = .ok (.iaload, 1) := by decide +kernel
theorem dX12_counts_75 : decode cX12_counts 75 = .ok (.iconst 1, 1) := by decide +kernel
theorem dX12_counts_76 : decode cX12_counts 76 = .ok (.iadd, 1) := by decide +kernel
theorem dX12_counts_77 : decode cX12_counts 77 = .ok (.iastore, 1) := by decide +kernel
theorem dX12_counts_78 : decode cX12_counts 78 = .ok (.aload_n 0, 1) := by decide +kernel
theorem dX12_counts_79 : decode cX12_counts 79 = .ok (.getfield 9, 3) := by decide +kernel
theorem dX12_counts_82 : decode cX12_counts 82 = .ok (.iconst 5, 1) := by decide +kernel
theorem dX12_counts_83 : decode cX12_counts 83 = .ok (.dup2, 1) := by decide +kernel
theorem dX12_counts_84 : decode cX12_counts 84 = .ok (.iaload, 1) := by decide +kernel
theorem dX12_counts_85 : decode cX12_counts 85 = .ok (.iconst 1, 1) := by decide +kernel
theorem dX12_counts_86 : decode cX12_counts 86 = .ok (.iadd, 1) := by decide +kernel
theorem dX12_counts_87 : decode cX12_counts 87 = .ok (.iastore, 1) := by decide +kernel
theorem dX12_counts_88 : decode cX12_counts 88 = .ok (.return_, 1) := by decide +kernel
theorem dX12_retains_0 : decode cX12_retains 0 = .ok (.iconst 0, 1) := by decide +kernel
theorem dX12_retains_1 : decode cX12_retains 1 = .ok (.istore_n 3, 1) := by decide +kernel
theorem dX12_retains_2 : decode cX12_retains 2 = .ok (.iload_n 3, 1) := by decide +kernel
theorem dX12_retains_3 : decode cX12_retains 3 = .ok (.aload_n 0, 1) := by decide +kernel
theorem dX12_retains_4 : decode cX12_retains 4 = .ok (.getfield 9, 3) := by decide +kernel
theorem dX12_retains_7 : decode cX12_retains 7 = .ok (.bipush 15, 2) := by decide +kernel
theorem dX12_retains_9 : decode cX12_retains 9 = .ok (.iaload, 1) := by decide +kernel
theorem dX12_retains_10 : decode cX12_retains 10 = .ok (.if_icmp .ge 31, 3) := by decide +kernel
theorem dX12_retains_13 : decode cX12_retains 13 = .ok (.aload_n 0, 1) := by decide +kernel
theorem dX12_retains_14 : decode cX12_retains 14 = .ok (.getfield 13, 3) := by decide +kernel
theorem dX12_retains_17 : decode cX12_retains 17 = .ok (.sipush 1224, 3) := by decide +kernel
theorem dX12_retains_20 : decode cX12_retains 20 = .ok (.iconst 4, 1) := by decide +kernel
theorem dX12_retains_21 : decode cX12_retains 21 = .ok (.iload_n 3, 1) := by decide +kernel
theorem dX12_retains_22 : decode cX12_retains 22 = .ok (.imul, 1) := by decide +kernel
theorem dX12_retains_23 : decode cX12_retains 23 = .ok (.iadd, 1) := by decide +kernel
theorem dX12_retains_24 : decode cX12_retains 24 = .ok (.aload_n 0, 1) := by decide +kernel
theorem dX12_retains_25 : decode cX12_retains 25 = .ok (.getfield 40, 3) := by decide +kernel
theorem dX12_retains_28 : decode cX12_retains 28 = .ok (.iconst 0, 1) := by decide +kernel
theorem dX12_retains_29 : decode cX12_retains 29 = .ok (.invokestatic 138, 3) := by decide +kernel
theorem dX12_retains_32 : decode cX12_retains 32 = .ok (.ifCond .eq 9, 3) := by decide +kernel
theorem dX12_retains_35 : decode cX12_retains 35 = .ok (.iinc 3 1, 3) := by decide +kernel
theorem dX12_retains_38 : decode cX12_retains 38 = .ok (.goto (-36), 3) := by decide +kernel
theorem dX12_retains_41 : decode cX12_retains 41 = .ok (.iload_n 3, 1) := by decide +kernel
theorem dX12_retains_42 : decode cX12_retains 42 = .ok (.aload_n 0, 1) := by decide +kernel
theorem dX12_retains_43 : decode cX12_retains 43 = .ok (.getfield 9, 3) := by decide +kernel
theorem dX12_retains_46 : decode cX12_retains 46 = .ok (.bipush 15, 2) := by decide +kernel
theorem dX12_retains_48 : decode cX12_retains 48 = .ok (.iaload, 1) := by decide +kernel
theorem dX12_retains_49 : decode cX12_retains 49 = .ok (.if_icmp .ge 29, 3) := by decide +kernel
theorem dX12_retains_52 : decode cX12_retains 52 = .ok (.aload_n 0, 1) := by decide +kernel
theorem dX12_retains_53 : decode cX12_retains 53 = .ok (.getfield 13, 3) := by decide +kernel
theorem dX12_retains_56 : decode cX12_retains 56 = .ok (.sipush 1224, 3) := by decide +kernel
theorem dX12_retains_59 : decode cX12_retains 59 = .ok (.iconst 4, 1) := by decide +kernel
theorem dX12_retains_60 : decode cX12_retains 60 = .ok (.iload_n 3, 1) := by decide +kernel
theorem dX12_retains_61 : decode cX12_retains 61 = .ok (.imul, 1) := by decide +kernel
theorem dX12_retains_62 : decode cX12_retains 62 = .ok (.iadd, 1) := by decide +kernel
theorem dX12_retains_63 : decode cX12_retains 63 = .ok (.aload_n 0, 1) := by decide +kernel
theorem dX12_retains_64 : decode cX12_retains 64 = .ok (.getfield 40, 3) := by decide +kernel
theorem dX12_retains_67 : decode cX12_retains 67 = .ok (.iconst 0, 1) := by decide +kernel
theorem dX12_retains_68 : decode cX12_retains 68 = .ok (.invokestatic 131, 3) := by decide +kernel
theorem dX12_retains_71 : decode cX12_retains 71 = .ok (.ifCond .eq 7, 3) := by decide +kernel
theorem dX12_retains_74 : decode cX12_retains 74 = .ok (.iconst 1, 1) := by decide +kernel
theorem dX12_retains_75 : decode cX12_retains 75 = .ok (.goto 4, 3) := by decide +kernel
theorem dX12_retains_78 : decode cX12_retains 78 = .ok (.iconst 0, 1) := by decide +kernel
theorem dX12_retains_79 : decode cX12_retains 79 = .ok (.istore 4, 2) := by decide +kernel
theorem dX12_retains_81 : decode cX12_retains 81 = .ok (.iload_n 2, 1) := by decide +kernel
theorem dX12_retains_82 : decode cX12_retains 82 = .ok (.ifCond .ne 14, 3) := by decide +kernel
theorem dX12_retains_85 : decode cX12_retains 85 = .ok (.iload 4, 2) := by decide +kernel
theorem dX12_retains_87 : decode cX12_retains 87 = .ok (.ifCond .eq 8, 3) := by decide +kernel
theorem dX12_retains_90 : decode cX12_retains 90 = .ok (.aload_n 0, 1) := by decide +kernel
theorem dX12_retains_91 : decode cX12_retains 91 = .ok (.iload_n 3, 1) := by decide +kernel
theorem dX12_retains_92 : decode cX12_retains 92 = .ok (.invokevirtual 141, 3) := by decide +kernel
theorem dX12_retains_95 : decode cX12_retains 95 = .ok (.return_, 1) := by decide +kernel
theorem dX12_retains_96 : decode cX12_retains 96 = .ok (.iload 4, 2) := by decide +kernel
theorem dX12_retains_98 : decode cX12_retains 98 = .ok (.ifCond .ne 16, 3) := by decide +kernel
theorem dX12_retains_101 : decode cX12_retains 101 = .ok (.aload_n 0, 1) := by decide +kernel
theorem dX12_retains_102 : decode cX12_retains 102 = .ok (.getfield 9, 3) := by decide +kernel
theorem dX12_retains_105 : decode cX12_retains 105 = .ok (.bipush 15, 2) := by decide +kernel
theorem dX12_retains_107 : decode cX12_retains 107 = .ok (.iaload, 1) := by decide +kernel
theorem dX12_retains_108 : decode cX12_retains 108 = .ok (.bipush 8, 2) := by decide +kernel
theorem dX12_retains_110 : decode cX12_retains 110 = .ok (.if_icmp .ne 4, 3) := by decide +kernel
theorem dX12_retains_113 : decode cX12_retains 113 = .ok (.return_, 1) := by decide +kernel
theorem dX12_retains_114 : decode cX12_retains 114 = .ok (.aload_n 0, 1) := by decide +kernel
theorem dX12_retains_115 : decode cX12_retains 115 = .ok (.getfield 9, 3) := by decide +kernel
theorem dX12_retains_118 : decode cX12_retains 118 = .ok (.bipush 15, 2) := by decide +kernel
theorem dX12_retains_120 : decode cX12_retains 120 = .ok (.iaload, 1) := by decide +kernel
theorem dX12_retains_121 : decode cX12_retains 121 = .ok (.istore 5, 2) := by decide +kernel
theorem dX12_retains_123 : decode cX12_retains 123 = .ok (.iload 4, 2) := by decide +kernel
theorem dX12_retains_125 : decode cX12_retains 125 = .ok (.ifCond .ne 92, 3) := by decide +kernel
theorem dX12_retains_128 : decode cX12_retains 128 = .ok (.iload 5, 2) := by decide +kernel
theorem dX12_retains_130 : decode cX12_retains 130 = .ok (.iload_n 3, 1) := by decide +kernel
theorem dX12_retains_131 : decode cX12_retains 131 = .ok (.if_icmp .le 86, 3) := by decide +kernel
theorem dX12_retains_134 : decode cX12_retains 134 = .ok (.aload_n 0, 1) := by decide +kernel
theorem dX12_retains_135 : decode cX12_retains 135 = .ok (.getfield 9, 3) := by decide +kernel
theorem dX12_retains_138 : decode cX12_retains 138 = .ok (.sipush 1778, 3) := by decide +kernel
theorem dX12_retains_141 : decode cX12_retains 141 = .ok (.iload 5, 2) := by decide +kernel
theorem dX12_retains_143 : decode cX12_retains 143 = .ok (.iadd, 1) := by decide +kernel
theorem dX12_retains_144 : decode cX12_retains 144 = .ok (.aload_n 0, 1) := by decide +kernel
theorem dX12_retains_145 : decode cX12_retains 145 = .ok (.getfield 9, 3) := by decide +kernel
theorem dX12_retains_148 : decode cX12_retains 148 = .ok (.sipush 1778, 3) := by decide +kernel
theorem dX12_retains_151 : decode cX12_retains 151 = .ok (.iload 5, 2) := by decide +kernel
theorem dX12_retains_153 : decode cX12_retains 153 = .ok (.iadd, 1) := by decide +kernel
theorem dX12_retains_154 : decode cX12_retains 154 = .ok (.iconst 1, 1) := by decide +kernel
theorem dX12_retains_155 : decode cX12_retains 155 = .ok (.isub, 1) := by decide +kernel
theorem dX12_retains_156 : decode cX12_retains 156 = .ok (.iaload, 1) := by decide +kernel
theorem dX12_retains_157 : decode cX12_retains 157 = .ok (.iastore, 1) := by decide +kernel
theorem dX12_retains_158 : decode cX12_retains 158 = .ok (.aload_n 0, 1) := by decide +kernel
theorem dX12_retains_159 : decode cX12_retains 159 = .ok (.getfield 9, 3) := by decide +kernel
theorem dX12_retains_162 : decode cX12_retains 162 = .ok (.sipush 1786, 3) := by decide +kernel
theorem dX12_retains_165 : decode cX12_retains 165 = .ok (.iload 5, 2) := by decide +kernel
theorem dX12_retains_167 : decode cX12_retains 167 = .ok (.iadd, 1) := by decide +kernel
theorem dX12_retains_168 : decode cX12_retains 168 = .ok (.aload_n 0, 1) := by decide +kernel
theorem dX12_retains_169 : decode cX12_retains 169 = .ok (.getfield 9, 3) := by decide +kernel
theorem dX12_retains_172 : decode cX12_retains 172 = .ok (.sipush 1786, 3) := by decide +kernel
theorem dX12_retains_175 : decode cX12_retains 175 = .ok (.iload 5, 2) := by decide +kernel
theorem dX12_retains_177 : decode cX12_retains 177 = .ok (.iadd, 1) := by decide +kernel
theorem dX12_retains_178 : decode cX12_retains 178 = .ok (.iconst 1, 1) := by decide +kernel
theorem dX12_retains_179 : decode cX12_retains 179 = .ok (.isub, 1) := by decide +kernel
theorem dX12_retains_180 : decode cX12_retains 180 = .ok (.iaload, 1) := by decide +kernel
theorem dX12_retains_181 : decode cX12_retains 181 = .ok (.iastore, 1) := by decide +kernel
theorem dX12_retains_182 : decode cX12_retains 182 = .ok (.aload_n 0, 1) := by decide +kernel
theorem dX12_retains_183 : decode cX12_retains 183 = .ok (.getfield 13, 3) := by decide +kernel
theorem dX12_retains_186 : decode cX12_retains 186 = .ok (.sipush 1224, 3) := by decide +kernel
theorem dX12_retains_189 : decode cX12_retains 189 = .ok (.iconst 4, 1) := by decide +kernel
theorem dX12_retains_190 : decode cX12_retains 190 = .ok (.iload 5, 2) := by decide +kernel
theorem dX12_retains_192 : decode cX12_retains 192 = .ok (.iconst 1, 1) := by decide +kernel
theorem dX12_retains_193 : decode cX12_retains 193 = .ok (.isub, 1) := by decide +kernel
theorem dX12_retains_194 : decode cX12_retains 194 = .ok (.imul, 1) := by decide +kernel
theorem dX12_retains_195 : decode cX12_retains 195 = .ok (.iadd, 1) := by decide +kernel
theorem dX12_retains_196 : decode cX12_retains 196 = .ok (.aload_n 0, 1) := by decide +kernel
theorem dX12_retains_197 : decode cX12_retains 197 = .ok (.getfield 13, 3) := by decide +kernel
theorem dX12_retains_200 : decode cX12_retains 200 = .ok (.sipush 1224, 3) := by decide +kernel
theorem dX12_retains_203 : decode cX12_retains 203 = .ok (.iconst 4, 1) := by decide +kernel
theorem dX12_retains_204 : decode cX12_retains 204 = .ok (.iload 5, 2) := by decide +kernel
theorem dX12_retains_206 : decode cX12_retains 206 = .ok (.imul, 1) := by decide +kernel
theorem dX12_retains_207 : decode cX12_retains 207 = .ok (.iadd, 1) := by decide +kernel
theorem dX12_retains_208 : decode cX12_retains 208 = .ok (.invokestatic 97, 3) := by decide +kernel
theorem dX12_retains_211 : decode cX12_retains 211 = .ok (.iinc 5 (-1), 3) := by decide +kernel
theorem dX12_retains_214 : decode cX12_retains 214 = .ok (.goto (-91), 3) := by decide +kernel
theorem dX12_retains_217 : decode cX12_retains 217 = .ok (.aload_n 0, 1) := by decide +kernel
theorem dX12_retains_218 : decode cX12_retains 218 = .ok (.getfield 9, 3) := by decide +kernel
theorem dX12_retains_221 : decode cX12_retains 221 = .ok (.bipush 15, 2) := by decide +kernel
theorem dX12_retains_223 : decode cX12_retains 223 = .ok (.dup2, 1) := by decide +kernel
theorem dX12_retains_224 : decode cX12_retains 224 = .ok (.iaload, 1) := by decide +kernel
theorem dX12_retains_225 : decode cX12_retains 225 = .ok (.iload 4, 2) := by decide +kernel
theorem dX12_retains_227 : decode cX12_retains 227 = .ok (.ifCond .eq 7, 3) := by decide +kernel
theorem dX12_retains_230 : decode cX12_retains 230 = .ok (.iconst 0, 1) := by decide +kernel
theorem dX12_retains_231 : decode cX12_retains 231 = .ok (.goto 4, 3) := by decide +kernel
theorem dX12_retains_234 : decode cX12_retains 234 = .ok (.iconst 1, 1) := by decide +kernel
theorem dX12_retains_235 : decode cX12_retains 235 = .ok (.iadd, 1) := by decide +kernel
theorem dX12_retains_236 : decode cX12_retains 236 = .ok (.iastore, 1) := by decide +kernel
theorem dX12_retains_237 : decode cX12_retains 237 = .ok (.aload_n 0, 1) := by decide +kernel
theorem dX12_retains_238 : decode cX12_retains 238 = .ok (.getfield 9, 3) := by decide +kernel
theorem dX12_retains_241 : decode cX12_retains 241 = .ok (.sipush 1778, 3) := by decide +kernel
theorem dX12_retains_244 : decode cX12_retains 244 = .ok (.iload_n 3, 1) := by decide +kernel
theorem dX12_retains_245 : decode cX12_retains 245 = .ok (.iadd, 1) := by decide +kernel
theorem dX12_retains_246 : decode cX12_retains 246 = .ok (.iload_n 1, 1) := by decide +kernel
theorem dX12_retains_247 : decode cX12_retains 247 = .ok (.iastore, 1) := by decide +kernel
theorem dX12_retains_248 : decode cX12_retains 248 = .ok (.aload_n 0, 1) := by decide +kernel
theorem dX12_retains_249 : decode cX12_retains 249 = .ok (.getfield 9, 3) := by decide +kernel
theorem dX12_retains_252 : decode cX12_retains 252 = .ok (.sipush 1786, 3) := by decide +kernel
theorem dX12_retains_255 : decode cX12_retains 255 = .ok (.iload_n 3, 1) := by decide +kernel
theorem dX12_retains_256 : decode cX12_retains 256 = .ok (.iadd, 1) := by decide +kernel
theorem dX12_retains_257 : decode cX12_retains 257 = .ok (.iload_n 2, 1) := by decide +kernel
theorem dX12_retains_258 : decode cX12_retains 258 = .ok (.iastore, 1) := by decide +kernel
theorem dX12_retains_259 : decode cX12_retains 259 = .ok (.aload_n 0, 1) := by decide +kernel
theorem dX12_retains_260 : decode cX12_retains 260 = .ok (.getfield 40, 3) := by decide +kernel
theorem dX12_retains_263 : decode cX12_retains 263 = .ok (.iconst 0, 1) := by decide +kernel
theorem dX12_retains_264 : decode cX12_retains 264 = .ok (.aload_n 0, 1) := by decide +kernel
theorem dX12_retains_265 : decode cX12_retains 265 = .ok (.getfield 13, 3) := by decide +kernel
theorem dX12_retains_268 : decode cX12_retains 268 = .ok (.sipush 1224, 3) := by decide +kernel
theorem dX12_retains_271 : decode cX12_retains 271 = .ok (.iconst 4, 1) := by decide +kernel
theorem dX12_retains_272 : decode cX12_retains 272 = .ok (.iload_n 3, 1) := by decide +kernel
theorem dX12_retains_273 : decode cX12_retains 273 = .ok (.imul, 1) := by decide +kernel
theorem dX12_retains_274 : decode cX12_retains 274 = .ok (.iadd, 1) := by decide +kernel
theorem dX12_retains_275 : decode cX12_retains 275 = .ok (.invokestatic 97, 3) := by decide +kernel
theorem dX12_retains_278 : decode cX12_retains 278 = .ok (.return_, 1) := by decide +kernel
theorem dX12_forgetsRetained_0 : decode cX12_forgetsRetained 0 = .ok (.iload_n 1, 1) := by decide +kernel
theorem dX12_forgetsRetained_1 : decode cX12_forgetsRetained 1 = .ok (.istore_n 2, 1) := by decide +kernel
theorem dX12_forgetsRetained_2 : decode cX12_forgetsRetained 2 = .ok (.iload_n 2, 1) := by decide +kernel
theorem dX12_forgetsRetained_3 : decode cX12_forgetsRetained 3 = .ok (.aload_n 0, 1) := by decide +kernel
theorem dX12_forgetsRetained_4 : decode cX12_forgetsRetained 4 = .ok (.getfield 9, 3) := by decide +kernel
theorem dX12_forgetsRetained_7 : decode cX12_forgetsRetained 7 = .ok (.bipush 15, 2) := by decide +kernel
theorem dX12_forgetsRetained_9 : decode cX12_forgetsRetained 9 = .ok (.iaload, 1) := by decide +kernel
theorem dX12_forgetsRetained_10 : decode cX12_forgetsRetained 10 = .ok (.iconst 1, 1) := by decide +kernel
theorem dX12_forgetsRetained_11 : decode cX12_forgetsRetained 11 = .ok (.isub, 1) := by decide +kernel
theorem dX12_forgetsRetained_12 : decode cX12_forgetsRetained 12 = .ok (.if_icmp .ge 80, 3) := by decide +kernel
theorem dX12_forgetsRetained_15 : decode cX12_forgetsRetained 15 = .ok (.aload_n 0, 1) := by decide +kernel
theorem dX12_forgetsRetained_16 : decode cX12_forgetsRetained 16 = .ok (.getfield 9, 3) := by decide +kernel
theorem dX12_forgetsRetained_19 : decode cX12_forgetsRetained 19 = .ok (.sipush 1778, 3) := by decide +kernel
theorem dX12_forgetsRetained_22 : decode cX12_forgetsRetained 22 = .ok (.iload_n 2, 1) := by decide +kernel
theorem dX12_forgetsRetained_23 : decode cX12_forgetsRetained 23 = .ok (.iadd, 1) := by decide +kernel
theorem dX12_forgetsRetained_24 : decode cX12_forgetsRetained 24 = .ok (.aload_n 0, 1) := by decide +kernel
theorem dX12_forgetsRetained_25 : decode cX12_forgetsRetained 25 = .ok (.getfield 9, 3) := by decide +kernel
theorem dX12_forgetsRetained_28 : decode cX12_forgetsRetained 28 = .ok (.sipush 1778, 3) := by decide +kernel
theorem dX12_forgetsRetained_31 : decode cX12_forgetsRetained 31 = .ok (.iload_n 2, 1) := by decide +kernel
theorem dX12_forgetsRetained_32 : decode cX12_forgetsRetained 32 = .ok (.iadd, 1) := by decide +kernel
theorem dX12_forgetsRetained_33 : decode cX12_forgetsRetained 33 = .ok (.iconst 1, 1) := by decide +kernel
theorem dX12_forgetsRetained_34 : decode cX12_forgetsRetained 34 = .ok (.iadd, 1) := by decide +kernel
theorem dX12_forgetsRetained_35 : decode cX12_forgetsRetained 35 = .ok (.iaload, 1) := by decide +kernel
theorem dX12_forgetsRetained_36 : decode cX12_forgetsRetained 36 = .ok (.iastore, 1) := by decide +kernel
theorem dX12_forgetsRetained_37 : decode cX12_forgetsRetained 37 = .ok (.aload_n 0, 1) := by decide +kernel
theorem dX12_forgetsRetained_38 : decode cX12_forgetsRetained 38 = .ok (.getfield 9, 3) := by decide +kernel
theorem dX12_forgetsRetained_41 : decode cX12_forgetsRetained 41 = .ok (.sipush 1786, 3) := by decide +kernel
theorem dX12_forgetsRetained_44 : decode cX12_forgetsRetained 44 = .ok (.iload_n 2, 1) := by decide +kernel
theorem dX12_forgetsRetained_45 : decode cX12_forgetsRetained 45 = .ok (.iadd, 1) := by decide +kernel
theorem dX12_forgetsRetained_46 : decode cX12_forgetsRetained 46 = .ok (.aload_n 0, 1) := by decide +kernel
theorem dX12_forgetsRetained_47 : decode cX12_forgetsRetained 47 = .ok (.getfield 9, 3) := by decide +kernel
theorem dX12_forgetsRetained_50 : decode cX12_forgetsRetained 50 = .ok (.sipush 1786, 3) := by decide +kernel
theorem dX12_forgetsRetained_53 : decode cX12_forgetsRetained 53 = .ok (.iload_n 2, 1) := by decide +kernel
theorem dX12_forgetsRetained_54 : decode cX12_forgetsRetained 54 = .ok (.iadd, 1) := by decide +kernel
theorem dX12_forgetsRetained_55 : decode cX12_forgetsRetained 55 = .ok (.iconst 1, 1) := by decide +kernel
theorem dX12_forgetsRetained_56 : decode cX12_forgetsRetained 56 = .ok (.iadd, 1) := by decide +kernel
theorem dX12_forgetsRetained_57 : decode cX12_forgetsRetained 57 = .ok (.iaload, 1) := by decide +kernel
theorem dX12_forgetsRetained_58 : decode cX12_forgetsRetained 58 = .ok (.iastore, 1) := by decide +kernel
theorem dX12_forgetsRetained_59 : decode cX12_forgetsRetained 59 = .ok (.aload_n 0, 1) := by decide +kernel
theorem dX12_forgetsRetained_60 : decode cX12_forgetsRetained 60 = .ok (.getfield 13, 3) := by decide +kernel
theorem dX12_forgetsRetained_63 : decode cX12_forgetsRetained 63 = .ok (.sipush 1224, 3) := by decide +kernel
theorem dX12_forgetsRetained_66 : decode cX12_forgetsRetained 66 = .ok (.iconst 4, 1) := by decide +kernel
theorem dX12_forgetsRetained_67 : decode cX12_forgetsRetained 67 = .ok (.iload_n 2, 1) := by decide +kernel
theorem dX12_forgetsRetained_68 : decode cX12_forgetsRetained 68 = .ok (.iconst 1, 1) := by decide +kernel
theorem dX12_forgetsRetained_69 : decode cX12_forgetsRetained 69 = .ok (.iadd, 1) := by decide +kernel
theorem dX12_forgetsRetained_70 : decode cX12_forgetsRetained 70 = .ok (.imul, 1) := by decide +kernel
theorem dX12_forgetsRetained_71 : decode cX12_forgetsRetained 71 = .ok (.iadd, 1) := by decide +kernel
theorem dX12_forgetsRetained_72 : decode cX12_forgetsRetained 72 = .ok (.aload_n 0, 1) := by decide +kernel
theorem dX12_forgetsRetained_73 : decode cX12_forgetsRetained 73 = .ok (.getfield 13, 3) := by decide +kernel
theorem dX12_forgetsRetained_76 : decode cX12_forgetsRetained 76 = .ok (.sipush 1224, 3) := by decide +kernel
theorem dX12_forgetsRetained_79 : decode cX12_forgetsRetained 79 = .ok (.iconst 4, 1) := by decide +kernel
theorem dX12_forgetsRetained_80 : decode cX12_forgetsRetained 80 = .ok (.iload_n 2, 1) := by decide +kernel
theorem dX12_forgetsRetained_81 : decode cX12_forgetsRetained 81 = .ok (.imul, 1) := by decide +kernel
theorem dX12_forgetsRetained_82 : decode cX12_forgetsRetained 82 = .ok (.iadd, 1) := by decide +kernel
theorem dX12_forgetsRetained_83 : decode cX12_forgetsRetained 83 = .ok (.invokestatic 97, 3) := by decide +kernel
theorem dX12_forgetsRetained_86 : decode cX12_forgetsRetained 86 = .ok (.iinc 2 1, 3) := by decide +kernel
theorem dX12_forgetsRetained_89 : decode cX12_forgetsRetained 89 = .ok (.goto (-87), 3) := by decide +kernel
theorem dX12_forgetsRetained_92 : decode cX12_forgetsRetained 92 = .ok (.aload_n 0, 1) := by decide +kernel
theorem dX12_forgetsRetained_93 : decode cX12_forgetsRetained 93 = .ok (.getfield 9, 3) := by decide +kernel
theorem dX12_forgetsRetained_96 : decode cX12_forgetsRetained 96 = .ok (.bipush 15, 2) := by decide +kernel
theorem dX12_forgetsRetained_98 : decode cX12_forgetsRetained 98 = .ok (.dup2, 1) := by decide +kernel
theorem dX12_forgetsRetained_99 : decode cX12_forgetsRetained 99 = .ok (.iaload, 1) := by decide +kernel
theorem dX12_forgetsRetained_100 : decode cX12_forgetsRetained 100 = .ok (.iconst 1, 1) := by decide +kernel
theorem dX12_forgetsRetained_101 : decode cX12_forgetsRetained 101 = .ok (.isub, 1) := by decide +kernel
theorem dX12_forgetsRetained_102 : decode cX12_forgetsRetained 102 = .ok (.iastore, 1) := by decide +kernel
theorem dX12_forgetsRetained_103 : decode cX12_forgetsRetained 103 = .ok (.return_, 1) := by decide +kernel
theorem dX12_bestOf_0 : decode cX12_bestOf 0 = .ok (.iconst (-1), 1) := by decide +kernel
theorem dX12_bestOf_1 : decode cX12_bestOf 1 = .ok (.istore_n 3, 1) := by decide +kernel
theorem dX12_bestOf_2 : decode cX12_bestOf 2 = .ok (.bipush 6, 2) := by decide +kernel
theorem dX12_bestOf_4 : decode cX12_bestOf 4 = .ok (.iload_n 1, 1) := by decide +kernel
theorem dX12_bestOf_5 : decode cX12_bestOf 5 = .ok (.imul, 1) := by decide +kernel
theorem dX12_bestOf_6 : decode cX12_bestOf 6 = .ok (.istore 4, 2) := by decide +kernel
theorem dX12_bestOf_8 : decode cX12_bestOf 8 = .ok (.iload 4, 2) := by decide +kernel
theorem dX12_bestOf_10 : decode cX12_bestOf 10 = .ok (.bipush 6, 2) := by decide +kernel
theorem dX12_bestOf_12 : decode cX12_bestOf 12 = .ok (.iload_n 1, 1) := by decide +kernel
theorem dX12_bestOf_13 : decode cX12_bestOf 13 = .ok (.imul, 1) := by decide +kernel
theorem dX12_bestOf_14 : decode cX12_bestOf 14 = .ok (.aload_n 0, 1) := by decide +kernel
theorem dX12_bestOf_15 : decode cX12_bestOf 15 = .ok (.getfield 9, 3) := by decide +kernel
theorem dX12_bestOf_18 : decode cX12_bestOf 18 = .ok (.bipush 50, 2) := by decide +kernel
theorem dX12_bestOf_20 : decode cX12_bestOf 20 = .ok (.iload_n 1, 1) := by decide +kernel
theorem dX12_bestOf_21 : decode cX12_bestOf 21 = .ok (.iadd, 1) := by decide +kernel
theorem dX12_bestOf_22 : decode cX12_bestOf 22 = .ok (.iaload, 1) := by decide +kernel
theorem dX12_bestOf_23 : decode cX12_bestOf 23 = .ok (.iadd, 1) := by decide +kernel
theorem dX12_bestOf_24 : decode cX12_bestOf 24 = .ok (.if_icmp .ge 113, 3) := by decide +kernel
theorem dX12_bestOf_27 : decode cX12_bestOf 27 = .ok (.aload_n 0, 1) := by decide +kernel
theorem dX12_bestOf_28 : decode cX12_bestOf 28 = .ok (.getfield 9, 3) := by decide +kernel
theorem dX12_bestOf_31 : decode cX12_bestOf 31 = .ok (.sipush 446, 3) := by decide +kernel
theorem dX12_bestOf_34 : decode cX12_bestOf 34 = .ok (.iload 4, 2) := by decide +kernel
theorem dX12_bestOf_36 : decode cX12_bestOf 36 = .ok (.iadd, 1) := by decide +kernel
theorem dX12_bestOf_37 : decode cX12_bestOf 37 = .ok (.iaload, 1) := by decide +kernel
theorem dX12_bestOf_38 : decode cX12_bestOf 38 = .ok (.ifCond .ne 44, 3) := by decide +kernel
theorem dX12_bestOf_41 : decode cX12_bestOf 41 = .ok (.iload_n 1, 1) := by decide +kernel
theorem dX12_bestOf_42 : decode cX12_bestOf 42 = .ok (.iload_n 2, 1) := by decide +kernel
theorem dX12_bestOf_43 : decode cX12_bestOf 43 = .ok (.if_icmp .ne 20, 3) := by decide +kernel
theorem dX12_bestOf_46 : decode cX12_bestOf 46 = .ok (.aload_n 0, 1) := by decide +kernel
theorem dX12_bestOf_47 : decode cX12_bestOf 47 = .ok (.getfield 9, 3) := by decide +kernel
theorem dX12_bestOf_50 : decode cX12_bestOf 50 = .ok (.sipush 482, 3) := by decide +kernel
theorem dX12_bestOf_53 : decode cX12_bestOf 53 = .ok (.iload 4, 2) := by decide +kernel
theorem dX12_bestOf_55 : decode cX12_bestOf 55 = .ok (.iadd, 1) := by decide +kernel
theorem dX12_bestOf_56 : decode cX12_bestOf 56 = .ok (.iaload, 1) := by decide +kernel
theorem dX12_bestOf_57 : decode cX12_bestOf 57 = .ok (.iconst 2, 1) := by decide +kernel
theorem dX12_bestOf_58 : decode cX12_bestOf 58 = .ok (.irem, 1) := by decide +kernel
theorem dX12_bestOf_59 : decode cX12_bestOf 59 = .ok (.iconst 1, 1) := by decide +kernel
theorem dX12_bestOf_60 : decode cX12_bestOf 60 = .ok (.if_icmp .eq 22, 3) := by decide +kernel
theorem dX12_bestOf_63 : decode cX12_bestOf 63 = .ok (.aload_n 0, 1) := by decide +kernel
theorem dX12_bestOf_64 : decode cX12_bestOf 64 = .ok (.getfield 9, 3) := by decide +kernel
theorem dX12_bestOf_67 : decode cX12_bestOf 67 = .ok (.sipush 410, 3) := by decide +kernel
theorem dX12_bestOf_70 : decode cX12_bestOf 70 = .ok (.iload 4, 2) := by decide +kernel
theorem dX12_bestOf_72 : decode cX12_bestOf 72 = .ok (.iadd, 1) := by decide +kernel
theorem dX12_bestOf_73 : decode cX12_bestOf 73 = .ok (.iaload, 1) := by decide +kernel
theorem dX12_bestOf_74 : decode cX12_bestOf 74 = .ok (.iload_n 3, 1) := by decide +kernel
theorem dX12_bestOf_75 : decode cX12_bestOf 75 = .ok (.if_icmp .le 7, 3) := by decide +kernel
theorem dX12_bestOf_78 : decode cX12_bestOf 78 = .ok (.iconst 1, 1) := by decide +kernel
theorem dX12_bestOf_79 : decode cX12_bestOf 79 = .ok (.goto 4, 3) := by decide +kernel
theorem dX12_bestOf_82 : decode cX12_bestOf 82 = .ok (.iconst 0, 1) := by decide +kernel
theorem dX12_bestOf_83 : decode cX12_bestOf 83 = .ok (.istore 5, 2) := by decide +kernel
theorem dX12_bestOf_85 : decode cX12_bestOf 85 = .ok (.iload 5, 2) := by decide +kernel
theorem dX12_bestOf_87 : decode cX12_bestOf 87 = .ok (.ifCond .eq 42, 3) := by decide +kernel
theorem dX12_bestOf_90 : decode cX12_bestOf 90 = .ok (.aload_n 0, 1) := by decide +kernel
theorem dX12_bestOf_91 : decode cX12_bestOf 91 = .ok (.bipush 24, 2) := by decide +kernel
theorem dX12_bestOf_93 : decode cX12_bestOf 93 = .ok (.iconst 4, 1) := by decide +kernel
theorem dX12_bestOf_94 : decode cX12_bestOf 94 = .ok (.iload 4, 2) := by decide +kernel
theorem dX12_bestOf_96 : decode cX12_bestOf 96 = .ok (.imul, 1) := by decide +kernel
theorem dX12_bestOf_97 : decode cX12_bestOf 97 = .ok (.iadd, 1) := by decide +kernel
theorem dX12_bestOf_98 : decode cX12_bestOf 98 = .ok (.aload_n 0, 1) := by decide +kernel
theorem dX12_bestOf_99 : decode cX12_bestOf 99 = .ok (.getfield 9, 3) := by decide +kernel
theorem dX12_bestOf_102 : decode cX12_bestOf 102 = .ok (.sipush 518, 3) := by decide +kernel
theorem dX12_bestOf_105 : decode cX12_bestOf 105 = .ok (.iload 4, 2) := by decide +kernel
theorem dX12_bestOf_107 : decode cX12_bestOf 107 = .ok (.iadd, 1) := by decide +kernel
theorem dX12_bestOf_108 : decode cX12_bestOf 108 = .ok (.iaload, 1) := by decide +kernel
theorem dX12_bestOf_109 : decode cX12_bestOf 109 = .ok (.invokevirtual 144, 3) := by decide +kernel
theorem dX12_bestOf_112 : decode cX12_bestOf 112 = .ok (.ifCond .eq 17, 3) := by decide +kernel
theorem dX12_bestOf_115 : decode cX12_bestOf 115 = .ok (.aload_n 0, 1) := by decide +kernel
theorem dX12_bestOf_116 : decode cX12_bestOf 116 = .ok (.getfield 9, 3) := by decide +kernel
theorem dX12_bestOf_119 : decode cX12_bestOf 119 = .ok (.sipush 410, 3) := by decide +kernel
theorem dX12_bestOf_122 : decode cX12_bestOf 122 = .ok (.iload 4, 2) := by decide +kernel
theorem dX12_bestOf_124 : decode cX12_bestOf 124 = .ok (.iadd, 1) := by decide +kernel
theorem dX12_bestOf_125 : decode cX12_bestOf 125 = .ok (.iaload, 1) := by decide +kernel
theorem dX12_bestOf_126 : decode cX12_bestOf 126 = .ok (.goto 4, 3) := by decide +kernel
theorem dX12_bestOf_129 : decode cX12_bestOf 129 = .ok (.iload_n 3, 1) := by decide +kernel
theorem dX12_bestOf_130 : decode cX12_bestOf 130 = .ok (.istore_n 3, 1) := by decide +kernel
theorem dX12_bestOf_131 : decode cX12_bestOf 131 = .ok (.iinc 4 1, 3) := by decide +kernel
theorem dX12_bestOf_134 : decode cX12_bestOf 134 = .ok (.goto (-126), 3) := by decide +kernel
theorem dX12_bestOf_137 : decode cX12_bestOf 137 = .ok (.iload_n 3, 1) := by decide +kernel
theorem dX12_bestOf_138 : decode cX12_bestOf 138 = .ok (.ireturn, 1) := by decide +kernel
theorem dX12_isShareOf_0 : decode cX12_isShareOf 0 = .ok (.aload_n 0, 1) := by decide +kernel
theorem dX12_isShareOf_1 : decode cX12_isShareOf 1 = .ok (.getfield 9, 3) := by decide +kernel
theorem dX12_isShareOf_4 : decode cX12_isShareOf 4 = .ok (.sipush 446, 3) := by decide +kernel
theorem dX12_isShareOf_7 : decode cX12_isShareOf 7 = .ok (.iload_n 1, 1) := by decide +kernel
theorem dX12_isShareOf_8 : decode cX12_isShareOf 8 = .ok (.iadd, 1) := by decide +kernel
theorem dX12_isShareOf_9 : decode cX12_isShareOf 9 = .ok (.iaload, 1) := by decide +kernel
theorem dX12_isShareOf_10 : decode cX12_isShareOf 10 = .ok (.aload_n 0, 1) := by decide +kernel
theorem dX12_isShareOf_11 : decode cX12_isShareOf 11 = .ok (.getfield 9, 3) := by decide +kernel
theorem dX12_isShareOf_14 : decode cX12_isShareOf 14 = .ok (.sipush 1794, 3) := by decide +kernel
theorem dX12_isShareOf_17 : decode cX12_isShareOf 17 = .ok (.iload_n 3, 1) := by decide +kernel
theorem dX12_isShareOf_18 : decode cX12_isShareOf 18 = .ok (.iadd, 1) := by decide +kernel
theorem dX12_isShareOf_19 : decode cX12_isShareOf 19 = .ok (.iaload, 1) := by decide +kernel
theorem dX12_isShareOf_20 : decode cX12_isShareOf 20 = .ok (.if_icmp .ne 34, 3) := by decide +kernel
theorem dX12_isShareOf_23 : decode cX12_isShareOf 23 = .ok (.aload_n 0, 1) := by decide +kernel
theorem dX12_isShareOf_24 : decode cX12_isShareOf 24 = .ok (.getfield 13, 3) := by decide +kernel
theorem dX12_isShareOf_27 : decode cX12_isShareOf 27 = .ok (.bipush 24, 2) := by decide +kernel
theorem dX12_isShareOf_29 : decode cX12_isShareOf 29 = .ok (.iconst 4, 1) := by decide +kernel
theorem dX12_isShareOf_30 : decode cX12_isShareOf 30 = .ok (.iload_n 1, 1) := by decide +kernel
theorem dX12_isShareOf_31 : decode cX12_isShareOf 31 = .ok (.imul, 1) := by decide +kernel
theorem dX12_isShareOf_32 : decode cX12_isShareOf 32 = .ok (.iadd, 1) := by decide +kernel
theorem dX12_isShareOf_33 : decode cX12_isShareOf 33 = .ok (.aload_n 0, 1) := by decide +kernel
theorem dX12_isShareOf_34 : decode cX12_isShareOf 34 = .ok (.getfield 13, 3) := by decide +kernel
theorem dX12_isShareOf_37 : decode cX12_isShareOf 37 = .ok (.sipush 1256, 3) := by decide +kernel
theorem dX12_isShareOf_40 : decode cX12_isShareOf 40 = .ok (.iconst 4, 1) := by decide +kernel
theorem dX12_isShareOf_41 : decode cX12_isShareOf 41 = .ok (.iload_n 3, 1) := by decide +kernel
theorem dX12_isShareOf_42 : decode cX12_isShareOf 42 = .ok (.imul, 1) := by decide +kernel
theorem dX12_isShareOf_43 : decode cX12_isShareOf 43 = .ok (.iadd, 1) := by decide +kernel
theorem dX12_isShareOf_44 : decode cX12_isShareOf 44 = .ok (.invokestatic 131, 3) := by decide +kernel
theorem dX12_isShareOf_47 : decode cX12_isShareOf 47 = .ok (.ifCond .eq 7, 3) := by decide +kernel
theorem dX12_isShareOf_50 : decode cX12_isShareOf 50 = .ok (.iconst 1, 1) := by decide +kernel
theorem dX12_isShareOf_51 : decode cX12_isShareOf 51 = .ok (.goto 4, 3) := by decide +kernel
theorem dX12_isShareOf_54 : decode cX12_isShareOf 54 = .ok (.iconst 0, 1) := by decide +kernel
theorem dX12_isShareOf_55 : decode cX12_isShareOf 55 = .ok (.ireturn, 1) := by decide +kernel
theorem dX12_gradeIn_0 : decode cX12_gradeIn 0 = .ok (.iconst 0, 1) := by decide +kernel
theorem dX12_gradeIn_1 : decode cX12_gradeIn 1 = .ok (.istore_n 3, 1) := by decide +kernel
theorem dX12_gradeIn_2 : decode cX12_gradeIn 2 = .ok (.bipush 6, 2) := by decide +kernel
theorem dX12_gradeIn_4 : decode cX12_gradeIn 4 = .ok (.iload_n 2, 1) := by decide +kernel
theorem dX12_gradeIn_5 : decode cX12_gradeIn 5 = .ok (.imul, 1) := by decide +kernel
theorem dX12_gradeIn_6 : decode cX12_gradeIn 6 = .ok (.istore 4, 2) := by decide +kernel
theorem dX12_gradeIn_8 : decode cX12_gradeIn 8 = .ok (.iload 4, 2) := by decide +kernel
theorem dX12_gradeIn_10 : decode cX12_gradeIn 10 = .ok (.bipush 6, 2) := by decide +kernel
theorem dX12_gradeIn_12 : decode cX12_gradeIn 12 = .ok (.iload_n 2, 1) := by decide +kernel
theorem dX12_gradeIn_13 : decode cX12_gradeIn 13 = .ok (.imul, 1) := by decide +kernel
theorem dX12_gradeIn_14 : decode cX12_gradeIn 14 = .ok (.aload_n 0, 1) := by decide +kernel
theorem dX12_gradeIn_15 : decode cX12_gradeIn 15 = .ok (.getfield 9, 3) := by decide +kernel
theorem dX12_gradeIn_18 : decode cX12_gradeIn 18 = .ok (.bipush 50, 2) := by decide +kernel
theorem dX12_gradeIn_20 : decode cX12_gradeIn 20 = .ok (.iload_n 2, 1) := by decide +kernel
theorem dX12_gradeIn_21 : decode cX12_gradeIn 21 = .ok (.iadd, 1) := by decide +kernel
theorem dX12_gradeIn_22 : decode cX12_gradeIn 22 = .ok (.iaload, 1) := by decide +kernel
theorem dX12_gradeIn_23 : decode cX12_gradeIn 23 = .ok (.iadd, 1) := by decide +kernel
theorem dX12_gradeIn_24 : decode cX12_gradeIn 24 = .ok (.if_icmp .ge 36, 3) := by decide +kernel
theorem dX12_gradeIn_27 : decode cX12_gradeIn 27 = .ok (.aload_n 0, 1) := by decide +kernel
theorem dX12_gradeIn_28 : decode cX12_gradeIn 28 = .ok (.iload 4, 2) := by decide +kernel
theorem dX12_gradeIn_30 : decode cX12_gradeIn 30 = .ok (.iload_n 2, 1) := by decide +kernel
theorem dX12_gradeIn_31 : decode cX12_gradeIn 31 = .ok (.iload_n 1, 1) := by decide +kernel
theorem dX12_gradeIn_32 : decode cX12_gradeIn 32 = .ok (.invokevirtual 147, 3) := by decide +kernel
theorem dX12_gradeIn_35 : decode cX12_gradeIn 35 = .ok (.ifCond .eq 17, 3) := by decide +kernel
theorem dX12_gradeIn_38 : decode cX12_gradeIn 38 = .ok (.aload_n 0, 1) := by decide +kernel
theorem dX12_gradeIn_39 : decode cX12_gradeIn 39 = .ok (.getfield 9, 3) := by decide +kernel
theorem dX12_gradeIn_42 : decode cX12_gradeIn 42 = .ok (.sipush 410, 3) := by decide +kernel
theorem dX12_gradeIn_45 : decode cX12_gradeIn 45 = .ok (.iload 4, 2) := by decide +kernel
theorem dX12_gradeIn_47 : decode cX12_gradeIn 47 = .ok (.iadd, 1) := by decide +kernel
theorem dX12_gradeIn_48 : decode cX12_gradeIn 48 = .ok (.iaload, 1) := by decide +kernel
theorem dX12_gradeIn_49 : decode cX12_gradeIn 49 = .ok (.goto 4, 3) := by decide +kernel
theorem dX12_gradeIn_52 : decode cX12_gradeIn 52 = .ok (.iload_n 3, 1) := by decide +kernel
theorem dX12_gradeIn_53 : decode cX12_gradeIn 53 = .ok (.istore_n 3, 1) := by decide +kernel
theorem dX12_gradeIn_54 : decode cX12_gradeIn 54 = .ok (.iinc 4 1, 3) := by decide +kernel
theorem dX12_gradeIn_57 : decode cX12_gradeIn 57 = .ok (.goto (-49), 3) := by decide +kernel
theorem dX12_gradeIn_60 : decode cX12_gradeIn 60 = .ok (.iload_n 3, 1) := by decide +kernel
theorem dX12_gradeIn_61 : decode cX12_gradeIn 61 = .ok (.ireturn, 1) := by decide +kernel
theorem dX12_chooses_0 : decode cX12_chooses 0 = .ok (.sipush 1902, 3) := by decide +kernel
theorem dX12_chooses_3 : decode cX12_chooses 3 = .ok (.bipush 6, 2) := by decide +kernel
theorem dX12_chooses_5 : decode cX12_chooses 5 = .ok (.iload_n 1, 1) := by decide +kernel
theorem dX12_chooses_6 : decode cX12_chooses 6 = .ok (.imul, 1) := by decide +kernel
theorem dX12_chooses_7 : decode cX12_chooses 7 = .ok (.iadd, 1) := by decide +kernel
theorem dX12_chooses_8 : decode cX12_chooses 8 = .ok (.istore_n 2, 1) := by decide +kernel
theorem dX12_chooses_9 : decode cX12_chooses 9 = .ok (.iconst 0, 1) := by decide +kernel
theorem dX12_chooses_10 : decode cX12_chooses 10 = .ok (.istore_n 3, 1) := by decide +kernel
theorem dX12_chooses_11 : decode cX12_chooses 11 = .ok (.iload_n 3, 1) := by decide +kernel
theorem dX12_chooses_12 : decode cX12_chooses 12 = .ok (.aload_n 0, 1) := by decide +kernel
theorem dX12_chooses_13 : decode cX12_chooses 13 = .ok (.getfield 9, 3) := by decide +kernel
theorem dX12_chooses_16 : decode cX12_chooses 16 = .ok (.sipush 1866, 3) := by decide +kernel
theorem dX12_chooses_19 : decode cX12_chooses 19 = .ok (.iload_n 1, 1) := by decide +kernel
theorem dX12_chooses_20 : decode cX12_chooses 20 = .ok (.iadd, 1) := by decide +kernel
theorem dX12_chooses_21 : decode cX12_chooses 21 = .ok (.iaload, 1) := by decide +kernel
theorem dX12_chooses_22 : decode cX12_chooses 22 = .ok (.if_icmp .ge 24, 3) := by decide +kernel
theorem dX12_chooses_25 : decode cX12_chooses 25 = .ok (.aload_n 0, 1) := by decide +kernel
theorem dX12_chooses_26 : decode cX12_chooses 26 = .ok (.aload_n 0, 1) := by decide +kernel
theorem dX12_chooses_27 : decode cX12_chooses 27 = .ok (.getfield 9, 3) := by decide +kernel
theorem dX12_chooses_30 : decode cX12_chooses 30 = .ok (.iload_n 2, 1) := by decide +kernel
theorem dX12_chooses_31 : decode cX12_chooses 31 = .ok (.iload_n 3, 1) := by decide +kernel
theorem dX12_chooses_32 : decode cX12_chooses 32 = .ok (.iadd, 1) := by decide +kernel
theorem dX12_chooses_33 : decode cX12_chooses 33 = .ok (.iaload, 1) := by decide +kernel
theorem dX12_chooses_34 : decode cX12_chooses 34 = .ok (.invokevirtual 107, 3) := by decide +kernel
theorem dX12_chooses_37 : decode cX12_chooses 37 = .ok (.ifCond .ne 9, 3) := by decide +kernel
theorem dX12_chooses_40 : decode cX12_chooses 40 = .ok (.iinc 3 1, 3) := by decide +kernel
theorem dX12_chooses_43 : decode cX12_chooses 43 = .ok (.goto (-32), 3) := by decide +kernel
theorem dX12_chooses_46 : decode cX12_chooses 46 = .ok (.iload_n 3, 1) := by decide +kernel
theorem dX12_chooses_47 : decode cX12_chooses 47 = .ok (.aload_n 0, 1) := by decide +kernel
theorem dX12_chooses_48 : decode cX12_chooses 48 = .ok (.getfield 9, 3) := by decide +kernel
theorem dX12_chooses_51 : decode cX12_chooses 51 = .ok (.sipush 1866, 3) := by decide +kernel
theorem dX12_chooses_54 : decode cX12_chooses 54 = .ok (.iload_n 1, 1) := by decide +kernel
theorem dX12_chooses_55 : decode cX12_chooses 55 = .ok (.iadd, 1) := by decide +kernel
theorem dX12_chooses_56 : decode cX12_chooses 56 = .ok (.iaload, 1) := by decide +kernel
theorem dX12_chooses_57 : decode cX12_chooses 57 = .ok (.if_icmp .ne 7, 3) := by decide +kernel
theorem dX12_chooses_60 : decode cX12_chooses 60 = .ok (.iconst 0, 1) := by decide +kernel
theorem dX12_chooses_61 : decode cX12_chooses 61 = .ok (.goto 4, 3) := by decide +kernel
theorem dX12_chooses_64 : decode cX12_chooses 64 = .ok (.iload_n 3, 1) := by decide +kernel
theorem dX12_chooses_65 : decode cX12_chooses 65 = .ok (.istore_n 3, 1) := by decide +kernel
theorem dX12_chooses_66 : decode cX12_chooses 66 = .ok (.aload_n 0, 1) := by decide +kernel
theorem dX12_chooses_67 : decode cX12_chooses 67 = .ok (.getfield 9, 3) := by decide +kernel
theorem dX12_chooses_70 : decode cX12_chooses 70 = .ok (.iload_n 2, 1) := by decide +kernel
theorem dX12_chooses_71 : decode cX12_chooses 71 = .ok (.iload_n 3, 1) := by decide +kernel
theorem dX12_chooses_72 : decode cX12_chooses 72 = .ok (.iadd, 1) := by decide +kernel
theorem dX12_chooses_73 : decode cX12_chooses 73 = .ok (.iaload, 1) := by decide +kernel
theorem dX12_chooses_74 : decode cX12_chooses 74 = .ok (.istore 4, 2) := by decide +kernel
theorem dX12_chooses_76 : decode cX12_chooses 76 = .ok (.iload_n 3, 1) := by decide +kernel
theorem dX12_chooses_77 : decode cX12_chooses 77 = .ok (.istore 5, 2) := by decide +kernel
theorem dX12_chooses_79 : decode cX12_chooses 79 = .ok (.iload 5, 2) := by decide +kernel
theorem dX12_chooses_81 : decode cX12_chooses 81 = .ok (.aload_n 0, 1) := by decide +kernel
theorem dX12_chooses_82 : decode cX12_chooses 82 = .ok (.getfield 9, 3) := by decide +kernel
theorem dX12_chooses_85 : decode cX12_chooses 85 = .ok (.sipush 1866, 3) := by decide +kernel
theorem dX12_chooses_88 : decode cX12_chooses 88 = .ok (.iload_n 1, 1) := by decide +kernel
theorem dX12_chooses_89 : decode cX12_chooses 89 = .ok (.iadd, 1) := by decide +kernel
theorem dX12_chooses_90 : decode cX12_chooses 90 = .ok (.iaload, 1) := by decide +kernel
theorem dX12_chooses_91 : decode cX12_chooses 91 = .ok (.iconst 1, 1) := by decide +kernel
theorem dX12_chooses_92 : decode cX12_chooses 92 = .ok (.isub, 1) := by decide +kernel
theorem dX12_chooses_93 : decode cX12_chooses 93 = .ok (.if_icmp .ge 29, 3) := by decide +kernel
theorem dX12_chooses_96 : decode cX12_chooses 96 = .ok (.aload_n 0, 1) := by decide +kernel
theorem dX12_chooses_97 : decode cX12_chooses 97 = .ok (.getfield 9, 3) := by decide +kernel
theorem dX12_chooses_100 : decode cX12_chooses 100 = .ok (.iload_n 2, 1) := by decide +kernel
theorem dX12_chooses_101 : decode cX12_chooses 101 = .ok (.iload 5, 2) := by decide +kernel
theorem dX12_chooses_103 : decode cX12_chooses 103 = .ok (.iadd, 1) := by decide +kernel
theorem dX12_chooses_104 : decode cX12_chooses 104 = .ok (.aload_n 0, 1) := by decide +kernel
theorem dX12_chooses_105 : decode cX12_chooses 105 = .ok (.getfield 9, 3) := by decide +kernel
theorem dX12_chooses_108 : decode cX12_chooses 108 = .ok (.iload_n 2, 1) := by decide +kernel
theorem dX12_chooses_109 : decode cX12_chooses 109 = .ok (.iload 5, 2) := by decide +kernel
theorem dX12_chooses_111 : decode cX12_chooses 111 = .ok (.iadd, 1) := by decide +kernel
theorem dX12_chooses_112 : decode cX12_chooses 112 = .ok (.iconst 1, 1) := by decide +kernel
theorem dX12_chooses_113 : decode cX12_chooses 113 = .ok (.iadd, 1) := by decide +kernel
theorem dX12_chooses_114 : decode cX12_chooses 114 = .ok (.iaload, 1) := by decide +kernel
theorem dX12_chooses_115 : decode cX12_chooses 115 = .ok (.iastore, 1) := by decide +kernel
theorem dX12_chooses_116 : decode cX12_chooses 116 = .ok (.iinc 5 1, 3) := by decide +kernel
theorem dX12_chooses_119 : decode cX12_chooses 119 = .ok (.goto (-40), 3) := by decide +kernel
theorem dX12_chooses_122 : decode cX12_chooses 122 = .ok (.aload_n 0, 1) := by decide +kernel
theorem dX12_chooses_123 : decode cX12_chooses 123 = .ok (.getfield 9, 3) := by decide +kernel
theorem dX12_chooses_126 : decode cX12_chooses 126 = .ok (.iload_n 2, 1) := by decide +kernel
theorem dX12_chooses_127 : decode cX12_chooses 127 = .ok (.aload_n 0, 1) := by decide +kernel
theorem dX12_chooses_128 : decode cX12_chooses 128 = .ok (.getfield 9, 3) := by decide +kernel
theorem dX12_chooses_131 : decode cX12_chooses 131 = .ok (.sipush 1866, 3) := by decide +kernel
theorem dX12_chooses_134 : decode cX12_chooses 134 = .ok (.iload_n 1, 1) := by decide +kernel
theorem dX12_chooses_135 : decode cX12_chooses 135 = .ok (.iadd, 1) := by decide +kernel
theorem dX12_chooses_136 : decode cX12_chooses 136 = .ok (.iaload, 1) := by decide +kernel
theorem dX12_chooses_137 : decode cX12_chooses 137 = .ok (.iadd, 1) := by decide +kernel
theorem dX12_chooses_138 : decode cX12_chooses 138 = .ok (.iconst 1, 1) := by decide +kernel
theorem dX12_chooses_139 : decode cX12_chooses 139 = .ok (.isub, 1) := by decide +kernel
theorem dX12_chooses_140 : decode cX12_chooses 140 = .ok (.iload 4, 2) := by decide +kernel
theorem dX12_chooses_142 : decode cX12_chooses 142 = .ok (.iastore, 1) := by decide +kernel
theorem dX12_chooses_143 : decode cX12_chooses 143 = .ok (.iload 4, 2) := by decide +kernel
theorem dX12_chooses_145 : decode cX12_chooses 145 = .ok (.ireturn, 1) := by decide +kernel
theorem dX12_publishes_0 : decode cX12_publishes 0 = .ok (.aload_n 0, 1) := by decide +kernel
theorem dX12_publishes_1 : decode cX12_publishes 1 = .ok (.invokevirtual 150, 3) := by decide +kernel
theorem dX12_publishes_4 : decode cX12_publishes 4 = .ok (.iload_n 3, 1) := by decide +kernel
theorem dX12_publishes_5 : decode cX12_publishes 5 = .ok (.ifCond .eq 10, 3) := by decide +kernel
theorem dX12_publishes_8 : decode cX12_publishes 8 = .ok (.aload_n 0, 1) := by decide +kernel
theorem dX12_publishes_9 : decode cX12_publishes 9 = .ok (.iload_n 2, 1) := by decide +kernel
theorem dX12_publishes_10 : decode cX12_publishes 10 = .ok (.iload 4, 2) := by decide +kernel
theorem dX12_publishes_12 : decode cX12_publishes 12 = .ok (.invokevirtual 153, 3) := by decide +kernel
theorem dX12_publishes_15 : decode cX12_publishes 15 = .ok (.iconst 0, 1) := by decide +kernel
theorem dX12_publishes_16 : decode cX12_publishes 16 = .ok (.istore 5, 2) := by decide +kernel
theorem dX12_publishes_18 : decode cX12_publishes 18 = .ok (.iconst 0, 1) := by decide +kernel
theorem dX12_publishes_19 : decode cX12_publishes 19 = .ok (.istore 6, 2) := by decide +kernel
theorem dX12_publishes_21 : decode cX12_publishes 21 = .ok (.iload 6, 2) := by decide +kernel
theorem dX12_publishes_23 : decode cX12_publishes 23 = .ok (.bipush 6, 2) := by decide +kernel
theorem dX12_publishes_25 : decode cX12_publishes 25 = .ok (.if_icmp .ge 60, 3) := by decide +kernel
theorem dX12_publishes_28 : decode cX12_publishes 28 = .ok (.aload_n 0, 1) := by decide +kernel
theorem dX12_publishes_29 : decode cX12_publishes 29 = .ok (.getfield 9, 3) := by decide +kernel
theorem dX12_publishes_32 : decode cX12_publishes 32 = .ok (.bipush 20, 2) := by decide +kernel
theorem dX12_publishes_34 : decode cX12_publishes 34 = .ok (.iload 6, 2) := by decide +kernel
theorem dX12_publishes_36 : decode cX12_publishes 36 = .ok (.iadd, 1) := by decide +kernel
theorem dX12_publishes_37 : decode cX12_publishes 37 = .ok (.iaload, 1) := by decide +kernel
theorem dX12_publishes_38 : decode cX12_publishes 38 = .ok (.iconst 1, 1) := by decide +kernel
theorem dX12_publishes_39 : decode cX12_publishes 39 = .ok (.if_icmp .ne 13, 3) := by decide +kernel
theorem dX12_publishes_42 : decode cX12_publishes 42 = .ok (.aload_n 0, 1) := by decide +kernel
theorem dX12_publishes_43 : decode cX12_publishes 43 = .ok (.iload 6, 2) := by decide +kernel
theorem dX12_publishes_45 : decode cX12_publishes 45 = .ok (.iload_n 1, 1) := by decide +kernel
theorem dX12_publishes_46 : decode cX12_publishes 46 = .ok (.invokevirtual 156, 3) := by decide +kernel
theorem dX12_publishes_49 : decode cX12_publishes 49 = .ok (.goto 4, 3) := by decide +kernel
theorem dX12_publishes_52 : decode cX12_publishes 52 = .ok (.iconst (-1), 1) := by decide +kernel
theorem dX12_publishes_53 : decode cX12_publishes 53 = .ok (.istore 7, 2) := by decide +kernel
theorem dX12_publishes_55 : decode cX12_publishes 55 = .ok (.iload 7, 2) := by decide +kernel
theorem dX12_publishes_57 : decode cX12_publishes 57 = .ok (.iconst (-1), 1) := by decide +kernel
theorem dX12_publishes_58 : decode cX12_publishes 58 = .ok (.if_icmp .eq 21, 3) := by decide +kernel
theorem dX12_publishes_61 : decode cX12_publishes 61 = .ok (.aload_n 0, 1) := by decide +kernel
theorem dX12_publishes_62 : decode cX12_publishes 62 = .ok (.iload 6, 2) := by decide +kernel
theorem dX12_publishes_64 : decode cX12_publishes 64 = .ok (.iload_n 2, 1) := by decide +kernel
theorem dX12_publishes_65 : decode cX12_publishes 65 = .ok (.iload 7, 2) := by decide +kernel
theorem dX12_publishes_67 : decode cX12_publishes 67 = .ok (.invokestatic 160, 3) := by decide +kernel
theorem dX12_publishes_70 : decode cX12_publishes 70 = .ok (.iload 4, 2) := by decide +kernel
theorem dX12_publishes_72 : decode cX12_publishes 72 = .ok (.iconst 0, 1) := by decide +kernel
theorem dX12_publishes_73 : decode cX12_publishes 73 = .ok (.invokevirtual 163, 3) := by decide +kernel
theorem dX12_publishes_76 : decode cX12_publishes 76 = .ok (.iinc 5 1, 3) := by decide +kernel
theorem dX12_publishes_79 : decode cX12_publishes 79 = .ok (.iinc 6 1, 3) := by decide +kernel
theorem dX12_publishes_82 : decode cX12_publishes 82 = .ok (.goto (-61), 3) := by decide +kernel
theorem dX12_publishes_85 : decode cX12_publishes 85 = .ok (.iconst 0, 1) := by decide +kernel
theorem dX12_publishes_86 : decode cX12_publishes 86 = .ok (.istore 6, 2) := by decide +kernel
theorem dX12_publishes_88 : decode cX12_publishes 88 = .ok (.iload 6, 2) := by decide +kernel
theorem dX12_publishes_90 : decode cX12_publishes 90 = .ok (.aload_n 0, 1) := by decide +kernel
theorem dX12_publishes_91 : decode cX12_publishes 91 = .ok (.getfield 9, 3) := by decide +kernel
theorem dX12_publishes_94 : decode cX12_publishes 94 = .ok (.bipush 16, 2) := by decide +kernel
theorem dX12_publishes_96 : decode cX12_publishes 96 = .ok (.iaload, 1) := by decide +kernel
theorem dX12_publishes_97 : decode cX12_publishes 97 = .ok (.if_icmp .ge 67, 3) := by decide +kernel
theorem dX12_publishes_100 : decode cX12_publishes 100 = .ok (.aload_n 0, 1) := by decide +kernel
theorem dX12_publishes_101 : decode cX12_publishes 101 = .ok (.sipush 1256, 3) := by decide +kernel
theorem dX12_publishes_104 : decode cX12_publishes 104 = .ok (.iconst 4, 1) := by decide +kernel
theorem dX12_publishes_105 : decode cX12_publishes 105 = .ok (.iload 6, 2) := by decide +kernel
theorem dX12_publishes_107 : decode cX12_publishes 107 = .ok (.imul, 1) := by decide +kernel
theorem dX12_publishes_108 : decode cX12_publishes 108 = .ok (.iadd, 1) := by decide +kernel
theorem dX12_publishes_109 : decode cX12_publishes 109 = .ok (.aload_n 0, 1) := by decide +kernel
theorem dX12_publishes_110 : decode cX12_publishes 110 = .ok (.getfield 9, 3) := by decide +kernel
theorem dX12_publishes_113 : decode cX12_publishes 113 = .ok (.sipush 1830, 3) := by decide +kernel
theorem dX12_publishes_116 : decode cX12_publishes 116 = .ok (.iload 6, 2) := by decide +kernel
theorem dX12_publishes_118 : decode cX12_publishes 118 = .ok (.iadd, 1) := by decide +kernel
theorem dX12_publishes_119 : decode cX12_publishes 119 = .ok (.iaload, 1) := by decide +kernel
theorem dX12_publishes_120 : decode cX12_publishes 120 = .ok (.invokevirtual 144, 3) := by decide +kernel
theorem dX12_publishes_123 : decode cX12_publishes 123 = .ok (.ifCond .eq 35, 3) := by decide +kernel
theorem dX12_publishes_126 : decode cX12_publishes 126 = .ok (.aload_n 0, 1) := by decide +kernel
theorem dX12_publishes_127 : decode cX12_publishes 127 = .ok (.iload 6, 2) := by decide +kernel
theorem dX12_publishes_129 : decode cX12_publishes 129 = .ok (.invokevirtual 166, 3) := by decide +kernel
theorem dX12_publishes_132 : decode cX12_publishes 132 = .ok (.istore 7, 2) := by decide +kernel
theorem dX12_publishes_134 : decode cX12_publishes 134 = .ok (.aload_n 0, 1) := by decide +kernel
theorem dX12_publishes_135 : decode cX12_publishes 135 = .ok (.iload 7, 2) := by decide +kernel
theorem dX12_publishes_137 : decode cX12_publishes 137 = .ok (.iload_n 2, 1) := by decide +kernel
theorem dX12_publishes_138 : decode cX12_publishes 138 = .ok (.aload_n 0, 1) := by decide +kernel
theorem dX12_publishes_139 : decode cX12_publishes 139 = .ok (.iload 6, 2) := by decide +kernel
theorem dX12_publishes_141 : decode cX12_publishes 141 = .ok (.iload 7, 2) := by decide +kernel
theorem dX12_publishes_143 : decode cX12_publishes 143 = .ok (.invokevirtual 169, 3) := by decide +kernel
theorem dX12_publishes_146 : decode cX12_publishes 146 = .ok (.invokestatic 160, 3) := by decide +kernel
theorem dX12_publishes_149 : decode cX12_publishes 149 = .ok (.iload 4, 2) := by decide +kernel
theorem dX12_publishes_151 : decode cX12_publishes 151 = .ok (.iconst 0, 1) := by decide +kernel
theorem dX12_publishes_152 : decode cX12_publishes 152 = .ok (.invokevirtual 163, 3) := by decide +kernel
theorem dX12_publishes_155 : decode cX12_publishes 155 = .ok (.iinc 5 1, 3) := by decide +kernel
theorem dX12_publishes_158 : decode cX12_publishes 158 = .ok (.iinc 6 1, 3) := by decide +kernel
theorem dX12_publishes_161 : decode cX12_publishes 161 = .ok (.goto (-73), 3) := by decide +kernel
theorem dX12_publishes_164 : decode cX12_publishes 164 = .ok (.iload 5, 2) := by decide +kernel
theorem dX12_publishes_166 : decode cX12_publishes 166 = .ok (.ireturn, 1) := by decide +kernel
theorem dX12_forgetsShare_0 : decode cX12_forgetsShare 0 = .ok (.iload_n 1, 1) := by decide +kernel
theorem dX12_forgetsShare_1 : decode cX12_forgetsShare 1 = .ok (.istore_n 2, 1) := by decide +kernel
theorem dX12_forgetsShare_2 : decode cX12_forgetsShare 2 = .ok (.iload_n 2, 1) := by decide +kernel
theorem dX12_forgetsShare_3 : decode cX12_forgetsShare 3 = .ok (.aload_n 0, 1) := by decide +kernel
theorem dX12_forgetsShare_4 : decode cX12_forgetsShare 4 = .ok (.getfield 9, 3) := by decide +kernel
theorem dX12_forgetsShare_7 : decode cX12_forgetsShare 7 = .ok (.bipush 16, 2) := by decide +kernel
theorem dX12_forgetsShare_9 : decode cX12_forgetsShare 9 = .ok (.iaload, 1) := by decide +kernel
theorem dX12_forgetsShare_10 : decode cX12_forgetsShare 10 = .ok (.iconst 1, 1) := by decide +kernel
theorem dX12_forgetsShare_11 : decode cX12_forgetsShare 11 = .ok (.isub, 1) := by decide +kernel
theorem dX12_forgetsShare_12 : decode cX12_forgetsShare 12 = .ok (.if_icmp .ge 148, 3) := by decide +kernel
theorem dX12_forgetsShare_15 : decode cX12_forgetsShare 15 = .ok (.aload_n 0, 1) := by decide +kernel
theorem dX12_forgetsShare_16 : decode cX12_forgetsShare 16 = .ok (.getfield 9, 3) := by decide +kernel
theorem dX12_forgetsShare_19 : decode cX12_forgetsShare 19 = .ok (.sipush 1794, 3) := by decide +kernel
theorem dX12_forgetsShare_22 : decode cX12_forgetsShare 22 = .ok (.iload_n 2, 1) := by decide +kernel
theorem dX12_forgetsShare_23 : decode cX12_forgetsShare 23 = .ok (.iadd, 1) := by decide +kernel
theorem dX12_forgetsShare_24 : decode cX12_forgetsShare 24 = .ok (.aload_n 0, 1) := by decide +kernel
theorem dX12_forgetsShare_25 : decode cX12_forgetsShare 25 = .ok (.getfield 9, 3) := by decide +kernel
theorem dX12_forgetsShare_28 : decode cX12_forgetsShare 28 = .ok (.sipush 1794, 3) := by decide +kernel
theorem dX12_forgetsShare_31 : decode cX12_forgetsShare 31 = .ok (.iload_n 2, 1) := by decide +kernel
theorem dX12_forgetsShare_32 : decode cX12_forgetsShare 32 = .ok (.iadd, 1) := by decide +kernel
theorem dX12_forgetsShare_33 : decode cX12_forgetsShare 33 = .ok (.iconst 1, 1) := by decide +kernel
theorem dX12_forgetsShare_34 : decode cX12_forgetsShare 34 = .ok (.iadd, 1) := by decide +kernel
theorem dX12_forgetsShare_35 : decode cX12_forgetsShare 35 = .ok (.iaload, 1) := by decide +kernel
theorem dX12_forgetsShare_36 : decode cX12_forgetsShare 36 = .ok (.iastore, 1) := by decide +kernel
theorem dX12_forgetsShare_37 : decode cX12_forgetsShare 37 = .ok (.aload_n 0, 1) := by decide +kernel
theorem dX12_forgetsShare_38 : decode cX12_forgetsShare 38 = .ok (.getfield 9, 3) := by decide +kernel
theorem dX12_forgetsShare_41 : decode cX12_forgetsShare 41 = .ok (.sipush 1830, 3) := by decide +kernel
theorem dX12_forgetsShare_44 : decode cX12_forgetsShare 44 = .ok (.iload_n 2, 1) := by decide +kernel
theorem dX12_forgetsShare_45 : decode cX12_forgetsShare 45 = .ok (.iadd, 1) := by decide +kernel
theorem dX12_forgetsShare_46 : decode cX12_forgetsShare 46 = .ok (.aload_n 0, 1) := by decide +kernel
theorem dX12_forgetsShare_47 : decode cX12_forgetsShare 47 = .ok (.getfield 9, 3) := by decide +kernel
theorem dX12_forgetsShare_50 : decode cX12_forgetsShare 50 = .ok (.sipush 1830, 3) := by decide +kernel
theorem dX12_forgetsShare_53 : decode cX12_forgetsShare 53 = .ok (.iload_n 2, 1) := by decide +kernel
theorem dX12_forgetsShare_54 : decode cX12_forgetsShare 54 = .ok (.iadd, 1) := by decide +kernel
theorem dX12_forgetsShare_55 : decode cX12_forgetsShare 55 = .ok (.iconst 1, 1) := by decide +kernel
theorem dX12_forgetsShare_56 : decode cX12_forgetsShare 56 = .ok (.iadd, 1) := by decide +kernel
theorem dX12_forgetsShare_57 : decode cX12_forgetsShare 57 = .ok (.iaload, 1) := by decide +kernel
theorem dX12_forgetsShare_58 : decode cX12_forgetsShare 58 = .ok (.iastore, 1) := by decide +kernel
theorem dX12_forgetsShare_59 : decode cX12_forgetsShare 59 = .ok (.aload_n 0, 1) := by decide +kernel
theorem dX12_forgetsShare_60 : decode cX12_forgetsShare 60 = .ok (.getfield 9, 3) := by decide +kernel
theorem dX12_forgetsShare_63 : decode cX12_forgetsShare 63 = .ok (.sipush 1866, 3) := by decide +kernel
theorem dX12_forgetsShare_66 : decode cX12_forgetsShare 66 = .ok (.iload_n 2, 1) := by decide +kernel
theorem dX12_forgetsShare_67 : decode cX12_forgetsShare 67 = .ok (.iadd, 1) := by decide +kernel
theorem dX12_forgetsShare_68 : decode cX12_forgetsShare 68 = .ok (.aload_n 0, 1) := by decide +kernel
theorem dX12_forgetsShare_69 : decode cX12_forgetsShare 69 = .ok (.getfield 9, 3) := by decide +kernel
theorem dX12_forgetsShare_72 : decode cX12_forgetsShare 72 = .ok (.sipush 1866, 3) := by decide +kernel
theorem dX12_forgetsShare_75 : decode cX12_forgetsShare 75 = .ok (.iload_n 2, 1) := by decide +kernel
theorem dX12_forgetsShare_76 : decode cX12_forgetsShare 76 = .ok (.iadd, 1) := by decide +kernel
theorem dX12_forgetsShare_77 : decode cX12_forgetsShare 77 = .ok (.iconst 1, 1) := by decide +kernel
theorem dX12_forgetsShare_78 : decode cX12_forgetsShare 78 = .ok (.iadd, 1) := by decide +kernel
theorem dX12_forgetsShare_79 : decode cX12_forgetsShare 79 = .ok (.iaload, 1) := by decide +kernel
theorem dX12_forgetsShare_80 : decode cX12_forgetsShare 80 = .ok (.iastore, 1) := by decide +kernel
theorem dX12_forgetsShare_81 : decode cX12_forgetsShare 81 = .ok (.iconst 0, 1) := by decide +kernel
theorem dX12_forgetsShare_82 : decode cX12_forgetsShare 82 = .ok (.istore_n 3, 1) := by decide +kernel
theorem dX12_forgetsShare_83 : decode cX12_forgetsShare 83 = .ok (.iload_n 3, 1) := by decide +kernel
theorem dX12_forgetsShare_84 : decode cX12_forgetsShare 84 = .ok (.bipush 6, 2) := by decide +kernel
theorem dX12_forgetsShare_86 : decode cX12_forgetsShare 86 = .ok (.if_icmp .ge 41, 3) := by decide +kernel
theorem dX12_forgetsShare_89 : decode cX12_forgetsShare 89 = .ok (.aload_n 0, 1) := by decide +kernel
theorem dX12_forgetsShare_90 : decode cX12_forgetsShare 90 = .ok (.getfield 9, 3) := by decide +kernel
theorem dX12_forgetsShare_93 : decode cX12_forgetsShare 93 = .ok (.sipush 1902, 3) := by decide +kernel
theorem dX12_forgetsShare_96 : decode cX12_forgetsShare 96 = .ok (.bipush 6, 2) := by decide +kernel
theorem dX12_forgetsShare_98 : decode cX12_forgetsShare 98 = .ok (.iload_n 2, 1) := by decide +kernel
theorem dX12_forgetsShare_99 : decode cX12_forgetsShare 99 = .ok (.imul, 1) := by decide +kernel
theorem dX12_forgetsShare_100 : decode cX12_forgetsShare 100 = .ok (.iadd, 1) := by decide +kernel
theorem dX12_forgetsShare_101 : decode cX12_forgetsShare 101 = .ok (.iload_n 3, 1) := by decide +kernel
theorem dX12_forgetsShare_102 : decode cX12_forgetsShare 102 = .ok (.iadd, 1) := by decide +kernel
theorem dX12_forgetsShare_103 : decode cX12_forgetsShare 103 = .ok (.aload_n 0, 1) := by decide +kernel
theorem dX12_forgetsShare_104 : decode cX12_forgetsShare 104 = .ok (.getfield 9, 3) := by decide +kernel
theorem dX12_forgetsShare_107 : decode cX12_forgetsShare 107 = .ok (.sipush 1902, 3) := by decide +kernel
theorem dX12_forgetsShare_110 : decode cX12_forgetsShare 110 = .ok (.bipush 6, 2) := by decide +kernel
theorem dX12_forgetsShare_112 : decode cX12_forgetsShare 112 = .ok (.iload_n 2, 1) := by decide +kernel
theorem dX12_forgetsShare_113 : decode cX12_forgetsShare 113 = .ok (.iconst 1, 1) := by decide +kernel
theorem dX12_forgetsShare_114 : decode cX12_forgetsShare 114 = .ok (.iadd, 1) := by decide +kernel
theorem dX12_forgetsShare_115 : decode cX12_forgetsShare 115 = .ok (.imul, 1) := by decide +kernel
theorem dX12_forgetsShare_116 : decode cX12_forgetsShare 116 = .ok (.iadd, 1) := by decide +kernel
theorem dX12_forgetsShare_117 : decode cX12_forgetsShare 117 = .ok (.iload_n 3, 1) := by decide +kernel
theorem dX12_forgetsShare_118 : decode cX12_forgetsShare 118 = .ok (.iadd, 1) := by decide +kernel
theorem dX12_forgetsShare_119 : decode cX12_forgetsShare 119 = .ok (.iaload, 1) := by decide +kernel
theorem dX12_forgetsShare_120 : decode cX12_forgetsShare 120 = .ok (.iastore, 1) := by decide +kernel
theorem dX12_forgetsShare_121 : decode cX12_forgetsShare 121 = .ok (.iinc 3 1, 3) := by decide +kernel
theorem dX12_forgetsShare_124 : decode cX12_forgetsShare 124 = .ok (.goto (-41), 3) := by decide +kernel
theorem dX12_forgetsShare_127 : decode cX12_forgetsShare 127 = .ok (.aload_n 0, 1) := by decide +kernel
theorem dX12_forgetsShare_128 : decode cX12_forgetsShare 128 = .ok (.getfield 13, 3) := by decide +kernel
theorem dX12_forgetsShare_131 : decode cX12_forgetsShare 131 = .ok (.sipush 1256, 3) := by decide +kernel
theorem dX12_forgetsShare_134 : decode cX12_forgetsShare 134 = .ok (.iconst 4, 1) := by decide +kernel
theorem dX12_forgetsShare_135 : decode cX12_forgetsShare 135 = .ok (.iload_n 2, 1) := by decide +kernel
theorem dX12_forgetsShare_136 : decode cX12_forgetsShare 136 = .ok (.iconst 1, 1) := by decide +kernel
theorem dX12_forgetsShare_137 : decode cX12_forgetsShare 137 = .ok (.iadd, 1) := by decide +kernel
theorem dX12_forgetsShare_138 : decode cX12_forgetsShare 138 = .ok (.imul, 1) := by decide +kernel
theorem dX12_forgetsShare_139 : decode cX12_forgetsShare 139 = .ok (.iadd, 1) := by decide +kernel
theorem dX12_forgetsShare_140 : decode cX12_forgetsShare 140 = .ok (.aload_n 0, 1) := by decide +kernel
theorem dX12_forgetsShare_141 : decode cX12_forgetsShare 141 = .ok (.getfield 13, 3) := by decide +kernel
theorem dX12_forgetsShare_144 : decode cX12_forgetsShare 144 = .ok (.sipush 1256, 3) := by decide +kernel
theorem dX12_forgetsShare_147 : decode cX12_forgetsShare 147 = .ok (.iconst 4, 1) := by decide +kernel
theorem dX12_forgetsShare_148 : decode cX12_forgetsShare 148 = .ok (.iload_n 2, 1) := by decide +kernel
theorem dX12_forgetsShare_149 : decode cX12_forgetsShare 149 = .ok (.imul, 1) := by decide +kernel
theorem dX12_forgetsShare_150 : decode cX12_forgetsShare 150 = .ok (.iadd, 1) := by decide +kernel
theorem dX12_forgetsShare_151 : decode cX12_forgetsShare 151 = .ok (.invokestatic 97, 3) := by decide +kernel
theorem dX12_forgetsShare_154 : decode cX12_forgetsShare 154 = .ok (.iinc 2 1, 3) := by decide +kernel
theorem dX12_forgetsShare_157 : decode cX12_forgetsShare 157 = .ok (.goto (-155), 3) := by decide +kernel
theorem dX12_forgetsShare_160 : decode cX12_forgetsShare 160 = .ok (.aload_n 0, 1) := by decide +kernel
theorem dX12_forgetsShare_161 : decode cX12_forgetsShare 161 = .ok (.getfield 9, 3) := by decide +kernel
theorem dX12_forgetsShare_164 : decode cX12_forgetsShare 164 = .ok (.bipush 16, 2) := by decide +kernel
theorem dX12_forgetsShare_166 : decode cX12_forgetsShare 166 = .ok (.dup2, 1) := by decide +kernel
theorem dX12_forgetsShare_167 : decode cX12_forgetsShare 167 = .ok (.iaload, 1) := by decide +kernel
theorem dX12_forgetsShare_168 : decode cX12_forgetsShare 168 = .ok (.iconst 1, 1) := by decide +kernel
theorem dX12_forgetsShare_169 : decode cX12_forgetsShare 169 = .ok (.isub, 1) := by decide +kernel
theorem dX12_forgetsShare_170 : decode cX12_forgetsShare 170 = .ok (.iastore, 1) := by decide +kernel
theorem dX12_forgetsShare_171 : decode cX12_forgetsShare 171 = .ok (.return_, 1) := by decide +kernel
theorem dX12_leavesShare_0 : decode cX12_leavesShare 0 = .ok (.iconst 0, 1) := by decide +kernel
theorem dX12_leavesShare_1 : decode cX12_leavesShare 1 = .ok (.istore_n 3, 1) := by decide +kernel
theorem dX12_leavesShare_2 : decode cX12_leavesShare 2 = .ok (.iload_n 3, 1) := by decide +kernel
theorem dX12_leavesShare_3 : decode cX12_leavesShare 3 = .ok (.aload_n 0, 1) := by decide +kernel
theorem dX12_leavesShare_4 : decode cX12_leavesShare 4 = .ok (.getfield 9, 3) := by decide +kernel
theorem dX12_leavesShare_7 : decode cX12_leavesShare 7 = .ok (.bipush 16, 2) := by decide +kernel
theorem dX12_leavesShare_9 : decode cX12_leavesShare 9 = .ok (.iaload, 1) := by decide +kernel
theorem dX12_leavesShare_10 : decode cX12_leavesShare 10 = .ok (.if_icmp .ge 19, 3) := by decide +kernel
theorem dX12_leavesShare_13 : decode cX12_leavesShare 13 = .ok (.aload_n 0, 1) := by decide +kernel
theorem dX12_leavesShare_14 : decode cX12_leavesShare 14 = .ok (.iload_n 2, 1) := by decide +kernel
theorem dX12_leavesShare_15 : decode cX12_leavesShare 15 = .ok (.iload_n 1, 1) := by decide +kernel
theorem dX12_leavesShare_16 : decode cX12_leavesShare 16 = .ok (.iload_n 3, 1) := by decide +kernel
theorem dX12_leavesShare_17 : decode cX12_leavesShare 17 = .ok (.invokevirtual 147, 3) := by decide +kernel
theorem dX12_leavesShare_20 : decode cX12_leavesShare 20 = .ok (.ifCond .ne 9, 3) := by decide +kernel
theorem dX12_leavesShare_23 : decode cX12_leavesShare 23 = .ok (.iinc 3 1, 3) := by decide +kernel
theorem dX12_leavesShare_26 : decode cX12_leavesShare 26 = .ok (.goto (-24), 3) := by decide +kernel
theorem dX12_leavesShare_29 : decode cX12_leavesShare 29 = .ok (.iload_n 3, 1) := by decide +kernel
theorem dX12_leavesShare_30 : decode cX12_leavesShare 30 = .ok (.aload_n 0, 1) := by decide +kernel
theorem dX12_leavesShare_31 : decode cX12_leavesShare 31 = .ok (.getfield 9, 3) := by decide +kernel
theorem dX12_leavesShare_34 : decode cX12_leavesShare 34 = .ok (.bipush 16, 2) := by decide +kernel
theorem dX12_leavesShare_36 : decode cX12_leavesShare 36 = .ok (.iaload, 1) := by decide +kernel
theorem dX12_leavesShare_37 : decode cX12_leavesShare 37 = .ok (.if_icmp .ne 4, 3) := by decide +kernel
theorem dX12_leavesShare_40 : decode cX12_leavesShare 40 = .ok (.return_, 1) := by decide +kernel
theorem dX12_leavesShare_41 : decode cX12_leavesShare 41 = .ok (.sipush 1902, 3) := by decide +kernel
theorem dX12_leavesShare_44 : decode cX12_leavesShare 44 = .ok (.bipush 6, 2) := by decide +kernel
theorem dX12_leavesShare_46 : decode cX12_leavesShare 46 = .ok (.iload_n 3, 1) := by decide +kernel
theorem dX12_leavesShare_47 : decode cX12_leavesShare 47 = .ok (.imul, 1) := by decide +kernel
theorem dX12_leavesShare_48 : decode cX12_leavesShare 48 = .ok (.iadd, 1) := by decide +kernel
theorem dX12_leavesShare_49 : decode cX12_leavesShare 49 = .ok (.istore 4, 2) := by decide +kernel
theorem dX12_leavesShare_51 : decode cX12_leavesShare 51 = .ok (.iconst 0, 1) := by decide +kernel
theorem dX12_leavesShare_52 : decode cX12_leavesShare 52 = .ok (.istore 5, 2) := by decide +kernel
theorem dX12_leavesShare_54 : decode cX12_leavesShare 54 = .ok (.aload_n 0, 1) := by decide +kernel
theorem dX12_leavesShare_55 : decode cX12_leavesShare 55 = .ok (.getfield 9, 3) := by decide +kernel
theorem dX12_leavesShare_58 : decode cX12_leavesShare 58 = .ok (.iload 4, 2) := by decide +kernel
theorem dX12_leavesShare_60 : decode cX12_leavesShare 60 = .ok (.iload 5, 2) := by decide +kernel
theorem dX12_leavesShare_62 : decode cX12_leavesShare 62 = .ok (.iadd, 1) := by decide +kernel
theorem dX12_leavesShare_63 : decode cX12_leavesShare 63 = .ok (.iaload, 1) := by decide +kernel
theorem dX12_leavesShare_64 : decode cX12_leavesShare 64 = .ok (.iload_n 1, 1) := by decide +kernel
theorem dX12_leavesShare_65 : decode cX12_leavesShare 65 = .ok (.if_icmp .eq 9, 3) := by decide +kernel
theorem dX12_leavesShare_68 : decode cX12_leavesShare 68 = .ok (.iinc 5 1, 3) := by decide +kernel
theorem dX12_leavesShare_71 : decode cX12_leavesShare 71 = .ok (.goto (-17), 3) := by decide +kernel
theorem dX12_leavesShare_74 : decode cX12_leavesShare 74 = .ok (.iload 5, 2) := by decide +kernel
theorem dX12_leavesShare_76 : decode cX12_leavesShare 76 = .ok (.istore 6, 2) := by decide +kernel
theorem dX12_leavesShare_78 : decode cX12_leavesShare 78 = .ok (.iload 6, 2) := by decide +kernel
theorem dX12_leavesShare_80 : decode cX12_leavesShare 80 = .ok (.aload_n 0, 1) := by decide +kernel
theorem dX12_leavesShare_81 : decode cX12_leavesShare 81 = .ok (.getfield 9, 3) := by decide +kernel
theorem dX12_leavesShare_84 : decode cX12_leavesShare 84 = .ok (.sipush 1866, 3) := by decide +kernel
theorem dX12_leavesShare_87 : decode cX12_leavesShare 87 = .ok (.iload_n 3, 1) := by decide +kernel
theorem dX12_leavesShare_88 : decode cX12_leavesShare 88 = .ok (.iadd, 1) := by decide +kernel
theorem dX12_leavesShare_89 : decode cX12_leavesShare 89 = .ok (.iaload, 1) := by decide +kernel
theorem dX12_leavesShare_90 : decode cX12_leavesShare 90 = .ok (.iconst 1, 1) := by decide +kernel
theorem dX12_leavesShare_91 : decode cX12_leavesShare 91 = .ok (.isub, 1) := by decide +kernel
theorem dX12_leavesShare_92 : decode cX12_leavesShare 92 = .ok (.if_icmp .ge 31, 3) := by decide +kernel
theorem dX12_leavesShare_95 : decode cX12_leavesShare 95 = .ok (.aload_n 0, 1) := by decide +kernel
theorem dX12_leavesShare_96 : decode cX12_leavesShare 96 = .ok (.getfield 9, 3) := by decide +kernel
theorem dX12_leavesShare_99 : decode cX12_leavesShare 99 = .ok (.iload 4, 2) := by decide +kernel
theorem dX12_leavesShare_101 : decode cX12_leavesShare 101 = .ok (.iload 6, 2) := by decide +kernel
theorem dX12_leavesShare_103 : decode cX12_leavesShare 103 = .ok (.iadd, 1) := by decide +kernel
theorem dX12_leavesShare_104 : decode cX12_leavesShare 104 = .ok (.aload_n 0, 1) := by decide +kernel
theorem dX12_leavesShare_105 : decode cX12_leavesShare 105 = .ok (.getfield 9, 3) := by decide +kernel
theorem dX12_leavesShare_108 : decode cX12_leavesShare 108 = .ok (.iload 4, 2) := by decide +kernel
theorem dX12_leavesShare_110 : decode cX12_leavesShare 110 = .ok (.iload 6, 2) := by decide +kernel
theorem dX12_leavesShare_112 : decode cX12_leavesShare 112 = .ok (.iadd, 1) := by decide +kernel
theorem dX12_leavesShare_113 : decode cX12_leavesShare 113 = .ok (.iconst 1, 1) := by decide +kernel
theorem dX12_leavesShare_114 : decode cX12_leavesShare 114 = .ok (.iadd, 1) := by decide +kernel
theorem dX12_leavesShare_115 : decode cX12_leavesShare 115 = .ok (.iaload, 1) := by decide +kernel
theorem dX12_leavesShare_116 : decode cX12_leavesShare 116 = .ok (.iastore, 1) := by decide +kernel
theorem dX12_leavesShare_117 : decode cX12_leavesShare 117 = .ok (.iinc 6 1, 3) := by decide +kernel
theorem dX12_leavesShare_120 : decode cX12_leavesShare 120 = .ok (.goto (-42), 3) := by decide +kernel
theorem dX12_leavesShare_123 : decode cX12_leavesShare 123 = .ok (.aload_n 0, 1) := by decide +kernel
theorem dX12_leavesShare_124 : decode cX12_leavesShare 124 = .ok (.getfield 9, 3) := by decide +kernel
theorem dX12_leavesShare_127 : decode cX12_leavesShare 127 = .ok (.sipush 1866, 3) := by decide +kernel
theorem dX12_leavesShare_130 : decode cX12_leavesShare 130 = .ok (.iload_n 3, 1) := by decide +kernel
theorem dX12_leavesShare_131 : decode cX12_leavesShare 131 = .ok (.iadd, 1) := by decide +kernel
theorem dX12_leavesShare_132 : decode cX12_leavesShare 132 = .ok (.dup2, 1) := by decide +kernel
theorem dX12_leavesShare_133 : decode cX12_leavesShare 133 = .ok (.iaload, 1) := by decide +kernel
theorem dX12_leavesShare_134 : decode cX12_leavesShare 134 = .ok (.iconst 1, 1) := by decide +kernel
theorem dX12_leavesShare_135 : decode cX12_leavesShare 135 = .ok (.isub, 1) := by decide +kernel
theorem dX12_leavesShare_136 : decode cX12_leavesShare 136 = .ok (.iastore, 1) := by decide +kernel
theorem dX12_leavesShare_137 : decode cX12_leavesShare 137 = .ok (.aload_n 0, 1) := by decide +kernel
theorem dX12_leavesShare_138 : decode cX12_leavesShare 138 = .ok (.getfield 9, 3) := by decide +kernel
theorem dX12_leavesShare_141 : decode cX12_leavesShare 141 = .ok (.sipush 1866, 3) := by decide +kernel
theorem dX12_leavesShare_144 : decode cX12_leavesShare 144 = .ok (.iload_n 3, 1) := by decide +kernel
theorem dX12_leavesShare_145 : decode cX12_leavesShare 145 = .ok (.iadd, 1) := by decide +kernel
theorem dX12_leavesShare_146 : decode cX12_leavesShare 146 = .ok (.iaload, 1) := by decide +kernel
theorem dX12_leavesShare_147 : decode cX12_leavesShare 147 = .ok (.ifCond .ne 8, 3) := by decide +kernel
theorem dX12_leavesShare_150 : decode cX12_leavesShare 150 = .ok (.aload_n 0, 1) := by decide +kernel
theorem dX12_leavesShare_151 : decode cX12_leavesShare 151 = .ok (.iload_n 3, 1) := by decide +kernel
theorem dX12_leavesShare_152 : decode cX12_leavesShare 152 = .ok (.invokevirtual 172, 3) := by decide +kernel
theorem dX12_leavesShare_155 : decode cX12_leavesShare 155 = .ok (.return_, 1) := by decide +kernel
theorem dX12_joinsShare_0 : decode cX12_joinsShare 0 = .ok (.iconst 0, 1) := by decide +kernel
theorem dX12_joinsShare_1 : decode cX12_joinsShare 1 = .ok (.istore_n 3, 1) := by decide +kernel
theorem dX12_joinsShare_2 : decode cX12_joinsShare 2 = .ok (.iload_n 3, 1) := by decide +kernel
theorem dX12_joinsShare_3 : decode cX12_joinsShare 3 = .ok (.aload_n 0, 1) := by decide +kernel
theorem dX12_joinsShare_4 : decode cX12_joinsShare 4 = .ok (.getfield 9, 3) := by decide +kernel
theorem dX12_joinsShare_7 : decode cX12_joinsShare 7 = .ok (.bipush 16, 2) := by decide +kernel
theorem dX12_joinsShare_9 : decode cX12_joinsShare 9 = .ok (.iaload, 1) := by decide +kernel
theorem dX12_joinsShare_10 : decode cX12_joinsShare 10 = .ok (.if_icmp .ge 19, 3) := by decide +kernel
theorem dX12_joinsShare_13 : decode cX12_joinsShare 13 = .ok (.aload_n 0, 1) := by decide +kernel
theorem dX12_joinsShare_14 : decode cX12_joinsShare 14 = .ok (.iload_n 2, 1) := by decide +kernel
theorem dX12_joinsShare_15 : decode cX12_joinsShare 15 = .ok (.iload_n 1, 1) := by decide +kernel
theorem dX12_joinsShare_16 : decode cX12_joinsShare 16 = .ok (.iload_n 3, 1) := by decide +kernel
theorem dX12_joinsShare_17 : decode cX12_joinsShare 17 = .ok (.invokevirtual 147, 3) := by decide +kernel
theorem dX12_joinsShare_20 : decode cX12_joinsShare 20 = .ok (.ifCond .ne 9, 3) := by decide +kernel
theorem dX12_joinsShare_23 : decode cX12_joinsShare 23 = .ok (.iinc 3 1, 3) := by decide +kernel
theorem dX12_joinsShare_26 : decode cX12_joinsShare 26 = .ok (.goto (-24), 3) := by decide +kernel
theorem dX12_joinsShare_29 : decode cX12_joinsShare 29 = .ok (.iload_n 3, 1) := by decide +kernel
theorem dX12_joinsShare_30 : decode cX12_joinsShare 30 = .ok (.aload_n 0, 1) := by decide +kernel
theorem dX12_joinsShare_31 : decode cX12_joinsShare 31 = .ok (.getfield 9, 3) := by decide +kernel
theorem dX12_joinsShare_34 : decode cX12_joinsShare 34 = .ok (.bipush 16, 2) := by decide +kernel
theorem dX12_joinsShare_36 : decode cX12_joinsShare 36 = .ok (.iaload, 1) := by decide +kernel
theorem dX12_joinsShare_37 : decode cX12_joinsShare 37 = .ok (.if_icmp .ne 89, 3) := by decide +kernel
theorem dX12_joinsShare_40 : decode cX12_joinsShare 40 = .ok (.aload_n 0, 1) := by decide +kernel
theorem dX12_joinsShare_41 : decode cX12_joinsShare 41 = .ok (.getfield 9, 3) := by decide +kernel
theorem dX12_joinsShare_44 : decode cX12_joinsShare 44 = .ok (.sipush 1794, 3) := by decide +kernel
theorem dX12_joinsShare_47 : decode cX12_joinsShare 47 = .ok (.iload_n 3, 1) := by decide +kernel
theorem dX12_joinsShare_48 : decode cX12_joinsShare 48 = .ok (.iadd, 1) := by decide +kernel
theorem dX12_joinsShare_49 : decode cX12_joinsShare 49 = .ok (.aload_n 0, 1) := by decide +kernel
theorem dX12_joinsShare_50 : decode cX12_joinsShare 50 = .ok (.getfield 9, 3) := by decide +kernel
theorem dX12_joinsShare_53 : decode cX12_joinsShare 53 = .ok (.sipush 446, 3) := by decide +kernel
theorem dX12_joinsShare_56 : decode cX12_joinsShare 56 = .ok (.iload_n 2, 1) := by decide +kernel
theorem dX12_joinsShare_57 : decode cX12_joinsShare 57 = .ok (.iadd, 1) := by decide +kernel
theorem dX12_joinsShare_58 : decode cX12_joinsShare 58 = .ok (.iaload, 1) := by decide +kernel
theorem dX12_joinsShare_59 : decode cX12_joinsShare 59 = .ok (.iastore, 1) := by decide +kernel
theorem dX12_joinsShare_60 : decode cX12_joinsShare 60 = .ok (.aload_n 0, 1) := by decide +kernel
theorem dX12_joinsShare_61 : decode cX12_joinsShare 61 = .ok (.getfield 9, 3) := by decide +kernel
theorem dX12_joinsShare_64 : decode cX12_joinsShare 64 = .ok (.sipush 1830, 3) := by decide +kernel
theorem dX12_joinsShare_67 : decode cX12_joinsShare 67 = .ok (.iload_n 3, 1) := by decide +kernel
theorem dX12_joinsShare_68 : decode cX12_joinsShare 68 = .ok (.iadd, 1) := by decide +kernel
theorem dX12_joinsShare_69 : decode cX12_joinsShare 69 = .ok (.aload_n 0, 1) := by decide +kernel
theorem dX12_joinsShare_70 : decode cX12_joinsShare 70 = .ok (.getfield 9, 3) := by decide +kernel
theorem dX12_joinsShare_73 : decode cX12_joinsShare 73 = .ok (.sipush 518, 3) := by decide +kernel
theorem dX12_joinsShare_76 : decode cX12_joinsShare 76 = .ok (.iload_n 2, 1) := by decide +kernel
theorem dX12_joinsShare_77 : decode cX12_joinsShare 77 = .ok (.iadd, 1) := by decide +kernel
theorem dX12_joinsShare_78 : decode cX12_joinsShare 78 = .ok (.iaload, 1) := by decide +kernel
theorem dX12_joinsShare_79 : decode cX12_joinsShare 79 = .ok (.iastore, 1) := by decide +kernel
theorem dX12_joinsShare_80 : decode cX12_joinsShare 80 = .ok (.aload_n 0, 1) := by decide +kernel
theorem dX12_joinsShare_81 : decode cX12_joinsShare 81 = .ok (.getfield 9, 3) := by decide +kernel
theorem dX12_joinsShare_84 : decode cX12_joinsShare 84 = .ok (.sipush 1866, 3) := by decide +kernel
theorem dX12_joinsShare_87 : decode cX12_joinsShare 87 = .ok (.iload_n 3, 1) := by decide +kernel
theorem dX12_joinsShare_88 : decode cX12_joinsShare 88 = .ok (.iadd, 1) := by decide +kernel
theorem dX12_joinsShare_89 : decode cX12_joinsShare 89 = .ok (.iconst 0, 1) := by decide +kernel
theorem dX12_joinsShare_90 : decode cX12_joinsShare 90 = .ok (.iastore, 1) := by decide +kernel
theorem dX12_joinsShare_91 : decode cX12_joinsShare 91 = .ok (.aload_n 0, 1) := by decide +kernel
theorem dX12_joinsShare_92 : decode cX12_joinsShare 92 = .ok (.getfield 13, 3) := by decide +kernel
theorem dX12_joinsShare_95 : decode cX12_joinsShare 95 = .ok (.bipush 24, 2) := by decide +kernel
theorem dX12_joinsShare_97 : decode cX12_joinsShare 97 = .ok (.iconst 4, 1) := by decide +kernel
theorem dX12_joinsShare_98 : decode cX12_joinsShare 98 = .ok (.iload_n 2, 1) := by decide +kernel
theorem dX12_joinsShare_99 : decode cX12_joinsShare 99 = .ok (.imul, 1) := by decide +kernel
theorem dX12_joinsShare_100 : decode cX12_joinsShare 100 = .ok (.iadd, 1) := by decide +kernel
theorem dX12_joinsShare_101 : decode cX12_joinsShare 101 = .ok (.aload_n 0, 1) := by decide +kernel
theorem dX12_joinsShare_102 : decode cX12_joinsShare 102 = .ok (.getfield 13, 3) := by decide +kernel
theorem dX12_joinsShare_105 : decode cX12_joinsShare 105 = .ok (.sipush 1256, 3) := by decide +kernel
theorem dX12_joinsShare_108 : decode cX12_joinsShare 108 = .ok (.iconst 4, 1) := by decide +kernel
theorem dX12_joinsShare_109 : decode cX12_joinsShare 109 = .ok (.iload_n 3, 1) := by decide +kernel
theorem dX12_joinsShare_110 : decode cX12_joinsShare 110 = .ok (.imul, 1) := by decide +kernel
theorem dX12_joinsShare_111 : decode cX12_joinsShare 111 = .ok (.iadd, 1) := by decide +kernel
theorem dX12_joinsShare_112 : decode cX12_joinsShare 112 = .ok (.invokestatic 97, 3) := by decide +kernel
theorem dX12_joinsShare_115 : decode cX12_joinsShare 115 = .ok (.aload_n 0, 1) := by decide +kernel
theorem dX12_joinsShare_116 : decode cX12_joinsShare 116 = .ok (.getfield 9, 3) := by decide +kernel
theorem dX12_joinsShare_119 : decode cX12_joinsShare 119 = .ok (.bipush 16, 2) := by decide +kernel
theorem dX12_joinsShare_121 : decode cX12_joinsShare 121 = .ok (.dup2, 1) := by decide +kernel
theorem dX12_joinsShare_122 : decode cX12_joinsShare 122 = .ok (.iaload, 1) := by decide +kernel
theorem dX12_joinsShare_123 : decode cX12_joinsShare 123 = .ok (.iconst 1, 1) := by decide +kernel
theorem dX12_joinsShare_124 : decode cX12_joinsShare 124 = .ok (.iadd, 1) := by decide +kernel
theorem dX12_joinsShare_125 : decode cX12_joinsShare 125 = .ok (.iastore, 1) := by decide +kernel
theorem dX12_joinsShare_126 : decode cX12_joinsShare 126 = .ok (.aload_n 0, 1) := by decide +kernel
theorem dX12_joinsShare_127 : decode cX12_joinsShare 127 = .ok (.getfield 9, 3) := by decide +kernel
theorem dX12_joinsShare_130 : decode cX12_joinsShare 130 = .ok (.sipush 1902, 3) := by decide +kernel
theorem dX12_joinsShare_133 : decode cX12_joinsShare 133 = .ok (.bipush 6, 2) := by decide +kernel
theorem dX12_joinsShare_135 : decode cX12_joinsShare 135 = .ok (.iload_n 3, 1) := by decide +kernel
theorem dX12_joinsShare_136 : decode cX12_joinsShare 136 = .ok (.imul, 1) := by decide +kernel
theorem dX12_joinsShare_137 : decode cX12_joinsShare 137 = .ok (.iadd, 1) := by decide +kernel
theorem dX12_joinsShare_138 : decode cX12_joinsShare 138 = .ok (.aload_n 0, 1) := by decide +kernel
theorem dX12_joinsShare_139 : decode cX12_joinsShare 139 = .ok (.getfield 9, 3) := by decide +kernel
theorem dX12_joinsShare_142 : decode cX12_joinsShare 142 = .ok (.sipush 1866, 3) := by decide +kernel
theorem dX12_joinsShare_145 : decode cX12_joinsShare 145 = .ok (.iload_n 3, 1) := by decide +kernel
theorem dX12_joinsShare_146 : decode cX12_joinsShare 146 = .ok (.iadd, 1) := by decide +kernel
theorem dX12_joinsShare_147 : decode cX12_joinsShare 147 = .ok (.iaload, 1) := by decide +kernel
theorem dX12_joinsShare_148 : decode cX12_joinsShare 148 = .ok (.iadd, 1) := by decide +kernel
theorem dX12_joinsShare_149 : decode cX12_joinsShare 149 = .ok (.iload_n 1, 1) := by decide +kernel
theorem dX12_joinsShare_150 : decode cX12_joinsShare 150 = .ok (.iastore, 1) := by decide +kernel
theorem dX12_joinsShare_151 : decode cX12_joinsShare 151 = .ok (.aload_n 0, 1) := by decide +kernel
theorem dX12_joinsShare_152 : decode cX12_joinsShare 152 = .ok (.getfield 9, 3) := by decide +kernel
theorem dX12_joinsShare_155 : decode cX12_joinsShare 155 = .ok (.sipush 1866, 3) := by decide +kernel
theorem dX12_joinsShare_158 : decode cX12_joinsShare 158 = .ok (.iload_n 3, 1) := by decide +kernel
theorem dX12_joinsShare_159 : decode cX12_joinsShare 159 = .ok (.iadd, 1) := by decide +kernel
theorem dX12_joinsShare_160 : decode cX12_joinsShare 160 = .ok (.dup2, 1) := by decide +kernel
theorem dX12_joinsShare_161 : decode cX12_joinsShare 161 = .ok (.iaload, 1) := by decide +kernel
theorem dX12_joinsShare_162 : decode cX12_joinsShare 162 = .ok (.iconst 1, 1) := by decide +kernel
theorem dX12_joinsShare_163 : decode cX12_joinsShare 163 = .ok (.iadd, 1) := by decide +kernel
theorem dX12_joinsShare_164 : decode cX12_joinsShare 164 = .ok (.iastore, 1) := by decide +kernel
theorem dX12_joinsShare_165 : decode cX12_joinsShare 165 = .ok (.return_, 1) := by decide +kernel
theorem dX12_drops_0 : decode cX12_drops 0 = .ok (.aload_n 0, 1) := by decide +kernel
theorem dX12_drops_1 : decode cX12_drops 1 = .ok (.getfield 9, 3) := by decide +kernel
theorem dX12_drops_4 : decode cX12_drops 4 = .ok (.sipush 446, 3) := by decide +kernel
theorem dX12_drops_7 : decode cX12_drops 7 = .ok (.iload_n 2, 1) := by decide +kernel
theorem dX12_drops_8 : decode cX12_drops 8 = .ok (.iadd, 1) := by decide +kernel
theorem dX12_drops_9 : decode cX12_drops 9 = .ok (.iaload, 1) := by decide +kernel
theorem dX12_drops_10 : decode cX12_drops 10 = .ok (.ifCond .le 9, 3) := by decide +kernel
theorem dX12_drops_13 : decode cX12_drops 13 = .ok (.aload_n 0, 1) := by decide +kernel
theorem dX12_drops_14 : decode cX12_drops 14 = .ok (.iload_n 1, 1) := by decide +kernel
theorem dX12_drops_15 : decode cX12_drops 15 = .ok (.iload_n 2, 1) := by decide +kernel
theorem dX12_drops_16 : decode cX12_drops 16 = .ok (.invokevirtual 175, 3) := by decide +kernel
theorem dX12_drops_19 : decode cX12_drops 19 = .ok (.iload_n 2, 1) := by decide +kernel
theorem dX12_drops_20 : decode cX12_drops 20 = .ok (.istore_n 3, 1) := by decide +kernel
theorem dX12_drops_21 : decode cX12_drops 21 = .ok (.iload_n 3, 1) := by decide +kernel
theorem dX12_drops_22 : decode cX12_drops 22 = .ok (.bipush 6, 2) := by decide +kernel
theorem dX12_drops_24 : decode cX12_drops 24 = .ok (.iload_n 1, 1) := by decide +kernel
theorem dX12_drops_25 : decode cX12_drops 25 = .ok (.imul, 1) := by decide +kernel
theorem dX12_drops_26 : decode cX12_drops 26 = .ok (.aload_n 0, 1) := by decide +kernel
theorem dX12_drops_27 : decode cX12_drops 27 = .ok (.getfield 9, 3) := by decide +kernel
theorem dX12_drops_30 : decode cX12_drops 30 = .ok (.bipush 50, 2) := by decide +kernel
theorem dX12_drops_32 : decode cX12_drops 32 = .ok (.iload_n 1, 1) := by decide +kernel
theorem dX12_drops_33 : decode cX12_drops 33 = .ok (.iadd, 1) := by decide +kernel
theorem dX12_drops_34 : decode cX12_drops 34 = .ok (.iaload, 1) := by decide +kernel
theorem dX12_drops_35 : decode cX12_drops 35 = .ok (.iadd, 1) := by decide +kernel
theorem dX12_drops_36 : decode cX12_drops 36 = .ok (.iconst 1, 1) := by decide +kernel
theorem dX12_drops_37 : decode cX12_drops 37 = .ok (.isub, 1) := by decide +kernel
theorem dX12_drops_38 : decode cX12_drops 38 = .ok (.if_icmp .ge 122, 3) := by decide +kernel
theorem dX12_drops_41 : decode cX12_drops 41 = .ok (.aload_n 0, 1) := by decide +kernel
theorem dX12_drops_42 : decode cX12_drops 42 = .ok (.getfield 9, 3) := by decide +kernel
theorem dX12_drops_45 : decode cX12_drops 45 = .ok (.sipush 410, 3) := by decide +kernel
theorem dX12_drops_48 : decode cX12_drops 48 = .ok (.iload_n 3, 1) := by decide +kernel
theorem dX12_drops_49 : decode cX12_drops 49 = .ok (.iadd, 1) := by decide +kernel
theorem dX12_drops_50 : decode cX12_drops 50 = .ok (.aload_n 0, 1) := by decide +kernel
theorem dX12_drops_51 : decode cX12_drops 51 = .ok (.getfield 9, 3) := by decide +kernel
theorem dX12_drops_54 : decode cX12_drops 54 = .ok (.sipush 410, 3) := by decide +kernel
theorem dX12_drops_57 : decode cX12_drops 57 = .ok (.iload_n 3, 1) := by decide +kernel
theorem dX12_drops_58 : decode cX12_drops 58 = .ok (.iadd, 1) := by decide +kernel
theorem dX12_drops_59 : decode cX12_drops 59 = .ok (.iconst 1, 1) := by decide +kernel
theorem dX12_drops_60 : decode cX12_drops 60 = .ok (.iadd, 1) := by decide +kernel
theorem dX12_drops_61 : decode cX12_drops 61 = .ok (.iaload, 1) := by decide +kernel
theorem dX12_drops_62 : decode cX12_drops 62 = .ok (.iastore, 1) := by decide +kernel
theorem dX12_drops_63 : decode cX12_drops 63 = .ok (.aload_n 0, 1) := by decide +kernel
theorem dX12_drops_64 : decode cX12_drops 64 = .ok (.getfield 9, 3) := by decide +kernel
theorem dX12_drops_67 : decode cX12_drops 67 = .ok (.sipush 446, 3) := by decide +kernel
theorem dX12_drops_70 : decode cX12_drops 70 = .ok (.iload_n 3, 1) := by decide +kernel
theorem dX12_drops_71 : decode cX12_drops 71 = .ok (.iadd, 1) := by decide +kernel
theorem dX12_drops_72 : decode cX12_drops 72 = .ok (.aload_n 0, 1) := by decide +kernel
theorem dX12_drops_73 : decode cX12_drops 73 = .ok (.getfield 9, 3) := by decide +kernel
theorem dX12_drops_76 : decode cX12_drops 76 = .ok (.sipush 446, 3) := by decide +kernel
theorem dX12_drops_79 : decode cX12_drops 79 = .ok (.iload_n 3, 1) := by decide +kernel
theorem dX12_drops_80 : decode cX12_drops 80 = .ok (.iadd, 1) := by decide +kernel
theorem dX12_drops_81 : decode cX12_drops 81 = .ok (.iconst 1, 1) := by decide +kernel
theorem dX12_drops_82 : decode cX12_drops 82 = .ok (.iadd, 1) := by decide +kernel
theorem dX12_drops_83 : decode cX12_drops 83 = .ok (.iaload, 1) := by decide +kernel
theorem dX12_drops_84 : decode cX12_drops 84 = .ok (.iastore, 1) := by decide +kernel
theorem dX12_drops_85 : decode cX12_drops 85 = .ok (.aload_n 0, 1) := by decide +kernel
theorem dX12_drops_86 : decode cX12_drops 86 = .ok (.getfield 9, 3) := by decide +kernel
theorem dX12_drops_89 : decode cX12_drops 89 = .ok (.sipush 482, 3) := by decide +kernel
theorem dX12_drops_92 : decode cX12_drops 92 = .ok (.iload_n 3, 1) := by decide +kernel
theorem dX12_drops_93 : decode cX12_drops 93 = .ok (.iadd, 1) := by decide +kernel
theorem dX12_drops_94 : decode cX12_drops 94 = .ok (.aload_n 0, 1) := by decide +kernel
theorem dX12_drops_95 : decode cX12_drops 95 = .ok (.getfield 9, 3) := by decide +kernel
theorem dX12_drops_98 : decode cX12_drops 98 = .ok (.sipush 482, 3) := by decide +kernel
theorem dX12_drops_101 : decode cX12_drops 101 = .ok (.iload_n 3, 1) := by decide +kernel
theorem dX12_drops_102 : decode cX12_drops 102 = .ok (.iadd, 1) := by decide +kernel
theorem dX12_drops_103 : decode cX12_drops 103 = .ok (.iconst 1, 1) := by decide +kernel
theorem dX12_drops_104 : decode cX12_drops 104 = .ok (.iadd, 1) := by decide +kernel
theorem dX12_drops_105 : decode cX12_drops 105 = .ok (.iaload, 1) := by decide +kernel
theorem dX12_drops_106 : decode cX12_drops 106 = .ok (.iastore, 1) := by decide +kernel
theorem dX12_drops_107 : decode cX12_drops 107 = .ok (.aload_n 0, 1) := by decide +kernel
theorem dX12_drops_108 : decode cX12_drops 108 = .ok (.getfield 9, 3) := by decide +kernel
theorem dX12_drops_111 : decode cX12_drops 111 = .ok (.sipush 518, 3) := by decide +kernel
theorem dX12_drops_114 : decode cX12_drops 114 = .ok (.iload_n 3, 1) := by decide +kernel
theorem dX12_drops_115 : decode cX12_drops 115 = .ok (.iadd, 1) := by decide +kernel
theorem dX12_drops_116 : decode cX12_drops 116 = .ok (.aload_n 0, 1) := by decide +kernel
theorem dX12_drops_117 : decode cX12_drops 117 = .ok (.getfield 9, 3) := by decide +kernel
theorem dX12_drops_120 : decode cX12_drops 120 = .ok (.sipush 518, 3) := by decide +kernel
theorem dX12_drops_123 : decode cX12_drops 123 = .ok (.iload_n 3, 1) := by decide +kernel
theorem dX12_drops_124 : decode cX12_drops 124 = .ok (.iadd, 1) := by decide +kernel
theorem dX12_drops_125 : decode cX12_drops 125 = .ok (.iconst 1, 1) := by decide +kernel
theorem dX12_drops_126 : decode cX12_drops 126 = .ok (.iadd, 1) := by decide +kernel
theorem dX12_drops_127 : decode cX12_drops 127 = .ok (.iaload, 1) := by decide +kernel
theorem dX12_drops_128 : decode cX12_drops 128 = .ok (.iastore, 1) := by decide +kernel
theorem dX12_drops_129 : decode cX12_drops 129 = .ok (.aload_n 0, 1) := by decide +kernel
theorem dX12_drops_130 : decode cX12_drops 130 = .ok (.getfield 13, 3) := by decide +kernel
theorem dX12_drops_133 : decode cX12_drops 133 = .ok (.bipush 24, 2) := by decide +kernel
theorem dX12_drops_135 : decode cX12_drops 135 = .ok (.iconst 4, 1) := by decide +kernel
theorem dX12_drops_136 : decode cX12_drops 136 = .ok (.iload_n 3, 1) := by decide +kernel
theorem dX12_drops_137 : decode cX12_drops 137 = .ok (.iconst 1, 1) := by decide +kernel
theorem dX12_drops_138 : decode cX12_drops 138 = .ok (.iadd, 1) := by decide +kernel
theorem dX12_drops_139 : decode cX12_drops 139 = .ok (.imul, 1) := by decide +kernel
theorem dX12_drops_140 : decode cX12_drops 140 = .ok (.iadd, 1) := by decide +kernel
theorem dX12_drops_141 : decode cX12_drops 141 = .ok (.aload_n 0, 1) := by decide +kernel
theorem dX12_drops_142 : decode cX12_drops 142 = .ok (.getfield 13, 3) := by decide +kernel
theorem dX12_drops_145 : decode cX12_drops 145 = .ok (.bipush 24, 2) := by decide +kernel
theorem dX12_drops_147 : decode cX12_drops 147 = .ok (.iconst 4, 1) := by decide +kernel
theorem dX12_drops_148 : decode cX12_drops 148 = .ok (.iload_n 3, 1) := by decide +kernel
theorem dX12_drops_149 : decode cX12_drops 149 = .ok (.imul, 1) := by decide +kernel
theorem dX12_drops_150 : decode cX12_drops 150 = .ok (.iadd, 1) := by decide +kernel
theorem dX12_drops_151 : decode cX12_drops 151 = .ok (.invokestatic 97, 3) := by decide +kernel
theorem dX12_drops_154 : decode cX12_drops 154 = .ok (.iinc 3 1, 3) := by decide +kernel
theorem dX12_drops_157 : decode cX12_drops 157 = .ok (.goto (-136), 3) := by decide +kernel
theorem dX12_drops_160 : decode cX12_drops 160 = .ok (.aload_n 0, 1) := by decide +kernel
theorem dX12_drops_161 : decode cX12_drops 161 = .ok (.getfield 9, 3) := by decide +kernel
theorem dX12_drops_164 : decode cX12_drops 164 = .ok (.bipush 50, 2) := by decide +kernel
theorem dX12_drops_166 : decode cX12_drops 166 = .ok (.iload_n 1, 1) := by decide +kernel
theorem dX12_drops_167 : decode cX12_drops 167 = .ok (.iadd, 1) := by decide +kernel
theorem dX12_drops_168 : decode cX12_drops 168 = .ok (.dup2, 1) := by decide +kernel
theorem dX12_drops_169 : decode cX12_drops 169 = .ok (.iaload, 1) := by decide +kernel
theorem dX12_drops_170 : decode cX12_drops 170 = .ok (.iconst 1, 1) := by decide +kernel
theorem dX12_drops_171 : decode cX12_drops 171 = .ok (.isub, 1) := by decide +kernel
theorem dX12_drops_172 : decode cX12_drops 172 = .ok (.iastore, 1) := by decide +kernel
theorem dX12_drops_173 : decode cX12_drops 173 = .ok (.return_, 1) := by decide +kernel
theorem dX12_removes_0 : decode cX12_removes 0 = .ok (.aload_n 0, 1) := by decide +kernel
theorem dX12_removes_1 : decode cX12_removes 1 = .ok (.getfield 9, 3) := by decide +kernel
theorem dX12_removes_4 : decode cX12_removes 4 = .ok (.bipush 50, 2) := by decide +kernel
theorem dX12_removes_6 : decode cX12_removes 6 = .ok (.iload_n 1, 1) := by decide +kernel
theorem dX12_removes_7 : decode cX12_removes 7 = .ok (.iadd, 1) := by decide +kernel
theorem dX12_removes_8 : decode cX12_removes 8 = .ok (.iaload, 1) := by decide +kernel
theorem dX12_removes_9 : decode cX12_removes 9 = .ok (.ifCond .le 15, 3) := by decide +kernel
theorem dX12_removes_12 : decode cX12_removes 12 = .ok (.aload_n 0, 1) := by decide +kernel
theorem dX12_removes_13 : decode cX12_removes 13 = .ok (.iload_n 1, 1) := by decide +kernel
theorem dX12_removes_14 : decode cX12_removes 14 = .ok (.bipush 6, 2) := by decide +kernel
theorem dX12_removes_16 : decode cX12_removes 16 = .ok (.iload_n 1, 1) := by decide +kernel
theorem dX12_removes_17 : decode cX12_removes 17 = .ok (.imul, 1) := by decide +kernel
theorem dX12_removes_18 : decode cX12_removes 18 = .ok (.invokevirtual 178, 3) := by decide +kernel
theorem dX12_removes_21 : decode cX12_removes 21 = .ok (.goto (-21), 3) := by decide +kernel
theorem dX12_removes_24 : decode cX12_removes 24 = .ok (.aload_n 0, 1) := by decide +kernel
theorem dX12_removes_25 : decode cX12_removes 25 = .ok (.getfield 9, 3) := by decide +kernel
theorem dX12_removes_28 : decode cX12_removes 28 = .ok (.bipush 20, 2) := by decide +kernel
theorem dX12_removes_30 : decode cX12_removes 30 = .ok (.iload_n 1, 1) := by decide +kernel
theorem dX12_removes_31 : decode cX12_removes 31 = .ok (.iadd, 1) := by decide +kernel
theorem dX12_removes_32 : decode cX12_removes 32 = .ok (.iconst 0, 1) := by decide +kernel
theorem dX12_removes_33 : decode cX12_removes 33 = .ok (.iastore, 1) := by decide +kernel
theorem dX12_removes_34 : decode cX12_removes 34 = .ok (.aload_n 0, 1) := by decide +kernel
theorem dX12_removes_35 : decode cX12_removes 35 = .ok (.getfield 9, 3) := by decide +kernel
theorem dX12_removes_38 : decode cX12_removes 38 = .ok (.bipush 56, 2) := by decide +kernel
theorem dX12_removes_40 : decode cX12_removes 40 = .ok (.iload_n 1, 1) := by decide +kernel
theorem dX12_removes_41 : decode cX12_removes 41 = .ok (.iadd, 1) := by decide +kernel
theorem dX12_removes_42 : decode cX12_removes 42 = .ok (.iconst 0, 1) := by decide +kernel
theorem dX12_removes_43 : decode cX12_removes 43 = .ok (.iastore, 1) := by decide +kernel
theorem dX12_removes_44 : decode cX12_removes 44 = .ok (.aload_n 0, 1) := by decide +kernel
theorem dX12_removes_45 : decode cX12_removes 45 = .ok (.getfield 9, 3) := by decide +kernel
theorem dX12_removes_48 : decode cX12_removes 48 = .ok (.bipush 62, 2) := by decide +kernel
theorem dX12_removes_50 : decode cX12_removes 50 = .ok (.iload_n 1, 1) := by decide +kernel
theorem dX12_removes_51 : decode cX12_removes 51 = .ok (.iadd, 1) := by decide +kernel
theorem dX12_removes_52 : decode cX12_removes 52 = .ok (.iconst 0, 1) := by decide +kernel
theorem dX12_removes_53 : decode cX12_removes 53 = .ok (.iastore, 1) := by decide +kernel
theorem dX12_removes_54 : decode cX12_removes 54 = .ok (.iconst 0, 1) := by decide +kernel
theorem dX12_removes_55 : decode cX12_removes 55 = .ok (.istore_n 2, 1) := by decide +kernel
theorem dX12_removes_56 : decode cX12_removes 56 = .ok (.iload_n 2, 1) := by decide +kernel
theorem dX12_removes_57 : decode cX12_removes 57 = .ok (.bipush 50, 2) := by decide +kernel
theorem dX12_removes_59 : decode cX12_removes 59 = .ok (.if_icmp .gt 24, 3) := by decide +kernel
theorem dX12_removes_62 : decode cX12_removes 62 = .ok (.aload_n 0, 1) := by decide +kernel
theorem dX12_removes_63 : decode cX12_removes 63 = .ok (.getfield 9, 3) := by decide +kernel
theorem dX12_removes_66 : decode cX12_removes 66 = .ok (.bipush 104, 2) := by decide +kernel
theorem dX12_removes_68 : decode cX12_removes 68 = .ok (.bipush 51, 2) := by decide +kernel
theorem dX12_removes_70 : decode cX12_removes 70 = .ok (.iload_n 1, 1) := by decide +kernel
theorem dX12_removes_71 : decode cX12_removes 71 = .ok (.imul, 1) := by decide +kernel
theorem dX12_removes_72 : decode cX12_removes 72 = .ok (.iadd, 1) := by decide +kernel
theorem dX12_removes_73 : decode cX12_removes 73 = .ok (.iload_n 2, 1) := by decide +kernel
theorem dX12_removes_74 : decode cX12_removes 74 = .ok (.iadd, 1) := by decide +kernel
theorem dX12_removes_75 : decode cX12_removes 75 = .ok (.iconst 0, 1) := by decide +kernel
theorem dX12_removes_76 : decode cX12_removes 76 = .ok (.iastore, 1) := by decide +kernel
theorem dX12_removes_77 : decode cX12_removes 77 = .ok (.iinc 2 1, 3) := by decide +kernel
theorem dX12_removes_80 : decode cX12_removes 80 = .ok (.goto (-24), 3) := by decide +kernel
theorem dX12_removes_83 : decode cX12_removes 83 = .ok (.return_, 1) := by decide +kernel
theorem dX12_leaves_0 : decode cX12_leaves 0 = .ok (.aload_n 0, 1) := by decide +kernel
theorem dX12_leaves_1 : decode cX12_leaves 1 = .ok (.getfield 9, 3) := by decide +kernel
theorem dX12_leaves_4 : decode cX12_leaves 4 = .ok (.bipush 32, 2) := by decide +kernel
theorem dX12_leaves_6 : decode cX12_leaves 6 = .ok (.iload_n 1, 1) := by decide +kernel
theorem dX12_leaves_7 : decode cX12_leaves 7 = .ok (.iadd, 1) := by decide +kernel
theorem dX12_leaves_8 : decode cX12_leaves 8 = .ok (.iconst 0, 1) := by decide +kernel
theorem dX12_leaves_9 : decode cX12_leaves 9 = .ok (.iastore, 1) := by decide +kernel
theorem dX12_leaves_10 : decode cX12_leaves 10 = .ok (.aload_n 0, 1) := by decide +kernel
theorem dX12_leaves_11 : decode cX12_leaves 11 = .ok (.getfield 9, 3) := by decide +kernel
theorem dX12_leaves_14 : decode cX12_leaves 14 = .ok (.bipush 68, 2) := by decide +kernel
theorem dX12_leaves_16 : decode cX12_leaves 16 = .ok (.iload_n 1, 1) := by decide +kernel
theorem dX12_leaves_17 : decode cX12_leaves 17 = .ok (.iadd, 1) := by decide +kernel
theorem dX12_leaves_18 : decode cX12_leaves 18 = .ok (.iconst 0, 1) := by decide +kernel
theorem dX12_leaves_19 : decode cX12_leaves 19 = .ok (.iastore, 1) := by decide +kernel
theorem dX12_leaves_20 : decode cX12_leaves 20 = .ok (.aload_n 0, 1) := by decide +kernel
theorem dX12_leaves_21 : decode cX12_leaves 21 = .ok (.getfield 9, 3) := by decide +kernel
theorem dX12_leaves_24 : decode cX12_leaves 24 = .ok (.bipush 38, 2) := by decide +kernel
theorem dX12_leaves_26 : decode cX12_leaves 26 = .ok (.iload_n 1, 1) := by decide +kernel
theorem dX12_leaves_27 : decode cX12_leaves 27 = .ok (.iadd, 1) := by decide +kernel
theorem dX12_leaves_28 : decode cX12_leaves 28 = .ok (.aload_n 0, 1) := by decide +kernel
theorem dX12_leaves_29 : decode cX12_leaves 29 = .ok (.getfield 9, 3) := by decide +kernel
theorem dX12_leaves_32 : decode cX12_leaves 32 = .ok (.iconst 0, 1) := by decide +kernel
theorem dX12_leaves_33 : decode cX12_leaves 33 = .ok (.iaload, 1) := by decide +kernel
theorem dX12_leaves_34 : decode cX12_leaves 34 = .ok (.iastore, 1) := by decide +kernel
theorem dX12_leaves_35 : decode cX12_leaves 35 = .ok (.aload_n 0, 1) := by decide +kernel
theorem dX12_leaves_36 : decode cX12_leaves 36 = .ok (.getfield 9, 3) := by decide +kernel
theorem dX12_leaves_39 : decode cX12_leaves 39 = .ok (.bipush 26, 2) := by decide +kernel
theorem dX12_leaves_41 : decode cX12_leaves 41 = .ok (.iload_n 1, 1) := by decide +kernel
theorem dX12_leaves_42 : decode cX12_leaves 42 = .ok (.iadd, 1) := by decide +kernel
theorem dX12_leaves_43 : decode cX12_leaves 43 = .ok (.iaload, 1) := by decide +kernel
theorem dX12_leaves_44 : decode cX12_leaves 44 = .ok (.iconst 1, 1) := by decide +kernel
theorem dX12_leaves_45 : decode cX12_leaves 45 = .ok (.if_icmp .ne 8, 3) := by decide +kernel
theorem dX12_leaves_48 : decode cX12_leaves 48 = .ok (.aload_n 0, 1) := by decide +kernel
theorem dX12_leaves_49 : decode cX12_leaves 49 = .ok (.iload_n 1, 1) := by decide +kernel
theorem dX12_leaves_50 : decode cX12_leaves 50 = .ok (.invokevirtual 181, 3) := by decide +kernel
theorem dX12_leaves_53 : decode cX12_leaves 53 = .ok (.return_, 1) := by decide +kernel
theorem dX12_breaks_0 : decode cX12_breaks 0 = .ok (.aload_n 0, 1) := by decide +kernel
theorem dX12_breaks_1 : decode cX12_breaks 1 = .ok (.iload_n 1, 1) := by decide +kernel
theorem dX12_breaks_2 : decode cX12_breaks 2 = .ok (.invokevirtual 184, 3) := by decide +kernel
theorem dX12_breaks_5 : decode cX12_breaks 5 = .ok (.aload_n 0, 1) := by decide +kernel
theorem dX12_breaks_6 : decode cX12_breaks 6 = .ok (.getfield 9, 3) := by decide +kernel
theorem dX12_breaks_9 : decode cX12_breaks 9 = .ok (.bipush 74, 2) := by decide +kernel
theorem dX12_breaks_11 : decode cX12_breaks 11 = .ok (.iload_n 1, 1) := by decide +kernel
theorem dX12_breaks_12 : decode cX12_breaks 12 = .ok (.iadd, 1) := by decide +kernel
theorem dX12_breaks_13 : decode cX12_breaks 13 = .ok (.iaload, 1) := by decide +kernel
theorem dX12_breaks_14 : decode cX12_breaks 14 = .ok (.ifCond .ne 5, 3) := by decide +kernel
theorem dX12_breaks_17 : decode cX12_breaks 17 = .ok (.iconst 0, 1) := by decide +kernel
theorem dX12_breaks_18 : decode cX12_breaks 18 = .ok (.ireturn, 1) := by decide +kernel
theorem dX12_breaks_19 : decode cX12_breaks 19 = .ok (.aload_n 0, 1) := by decide +kernel
theorem dX12_breaks_20 : decode cX12_breaks 20 = .ok (.getfield 9, 3) := by decide +kernel
theorem dX12_breaks_23 : decode cX12_breaks 23 = .ok (.bipush 74, 2) := by decide +kernel
theorem dX12_breaks_25 : decode cX12_breaks 25 = .ok (.iload_n 1, 1) := by decide +kernel
theorem dX12_breaks_26 : decode cX12_breaks 26 = .ok (.iadd, 1) := by decide +kernel
theorem dX12_breaks_27 : decode cX12_breaks 27 = .ok (.iconst 0, 1) := by decide +kernel
theorem dX12_breaks_28 : decode cX12_breaks 28 = .ok (.iastore, 1) := by decide +kernel
theorem dX12_breaks_29 : decode cX12_breaks 29 = .ok (.aload_n 0, 1) := by decide +kernel
theorem dX12_breaks_30 : decode cX12_breaks 30 = .ok (.getfield 9, 3) := by decide +kernel
theorem dX12_breaks_33 : decode cX12_breaks 33 = .ok (.bipush 11, 2) := by decide +kernel
theorem dX12_breaks_35 : decode cX12_breaks 35 = .ok (.dup2, 1) := by decide +kernel
theorem dX12_breaks_36 : decode cX12_breaks 36 = .ok (.iaload, 1) := by decide +kernel
theorem dX12_breaks_37 : decode cX12_breaks 37 = .ok (.iconst 1, 1) := by decide +kernel
theorem dX12_breaks_38 : decode cX12_breaks 38 = .ok (.iadd, 1) := by decide +kernel
theorem dX12_breaks_39 : decode cX12_breaks 39 = .ok (.iastore, 1) := by decide +kernel
theorem dX12_breaks_40 : decode cX12_breaks 40 = .ok (.aload_n 0, 1) := by decide +kernel
theorem dX12_breaks_41 : decode cX12_breaks 41 = .ok (.getfield 13, 3) := by decide +kernel
theorem dX12_breaks_44 : decode cX12_breaks 44 = .ok (.iconst 0, 1) := by decide +kernel
theorem dX12_breaks_45 : decode cX12_breaks 45 = .ok (.iconst 4, 1) := by decide +kernel
theorem dX12_breaks_46 : decode cX12_breaks 46 = .ok (.iload_n 1, 1) := by decide +kernel
theorem dX12_breaks_47 : decode cX12_breaks 47 = .ok (.imul, 1) := by decide +kernel
theorem dX12_breaks_48 : decode cX12_breaks 48 = .ok (.iadd, 1) := by decide +kernel
theorem dX12_breaks_49 : decode cX12_breaks 49 = .ok (.aload_n 0, 1) := by decide +kernel
theorem dX12_breaks_50 : decode cX12_breaks 50 = .ok (.getfield 40, 3) := by decide +kernel
theorem dX12_breaks_53 : decode cX12_breaks 53 = .ok (.iconst 0, 1) := by decide +kernel
theorem dX12_breaks_54 : decode cX12_breaks 54 = .ok (.invokestatic 97, 3) := by decide +kernel
theorem dX12_breaks_57 : decode cX12_breaks 57 = .ok (.aload_n 0, 1) := by decide +kernel
theorem dX12_breaks_58 : decode cX12_breaks 58 = .ok (.iload_n 1, 1) := by decide +kernel
theorem dX12_breaks_59 : decode cX12_breaks 59 = .ok (.aload_n 0, 1) := by decide +kernel
theorem dX12_breaks_60 : decode cX12_breaks 60 = .ok (.getfield 9, 3) := by decide +kernel
theorem dX12_breaks_63 : decode cX12_breaks 63 = .ok (.bipush 86, 2) := by decide +kernel
theorem dX12_breaks_65 : decode cX12_breaks 65 = .ok (.iload_n 1, 1) := by decide +kernel
theorem dX12_breaks_66 : decode cX12_breaks 66 = .ok (.iadd, 1) := by decide +kernel
theorem dX12_breaks_67 : decode cX12_breaks 67 = .ok (.iaload, 1) := by decide +kernel
theorem dX12_breaks_68 : decode cX12_breaks 68 = .ok (.aload_n 0, 1) := by decide +kernel
theorem dX12_breaks_69 : decode cX12_breaks 69 = .ok (.getfield 9, 3) := by decide +kernel
theorem dX12_breaks_72 : decode cX12_breaks 72 = .ok (.bipush 92, 2) := by decide +kernel
theorem dX12_breaks_74 : decode cX12_breaks 74 = .ok (.iload_n 1, 1) := by decide +kernel
theorem dX12_breaks_75 : decode cX12_breaks 75 = .ok (.iadd, 1) := by decide +kernel
theorem dX12_breaks_76 : decode cX12_breaks 76 = .ok (.iaload, 1) := by decide +kernel
theorem dX12_breaks_77 : decode cX12_breaks 77 = .ok (.iconst 1, 1) := by decide +kernel
theorem dX12_breaks_78 : decode cX12_breaks 78 = .ok (.if_icmp .ne 7, 3) := by decide +kernel
theorem dX12_breaks_81 : decode cX12_breaks 81 = .ok (.iconst 1, 1) := by decide +kernel
theorem dX12_breaks_82 : decode cX12_breaks 82 = .ok (.goto 4, 3) := by decide +kernel
theorem dX12_breaks_85 : decode cX12_breaks 85 = .ok (.iconst 0, 1) := by decide +kernel
theorem dX12_breaks_86 : decode cX12_breaks 86 = .ok (.aload_n 0, 1) := by decide +kernel
theorem dX12_breaks_87 : decode cX12_breaks 87 = .ok (.getfield 9, 3) := by decide +kernel
theorem dX12_breaks_90 : decode cX12_breaks 90 = .ok (.bipush 98, 2) := by decide +kernel
theorem dX12_breaks_92 : decode cX12_breaks 92 = .ok (.iload_n 1, 1) := by decide +kernel
theorem dX12_breaks_93 : decode cX12_breaks 93 = .ok (.iadd, 1) := by decide +kernel
theorem dX12_breaks_94 : decode cX12_breaks 94 = .ok (.iaload, 1) := by decide +kernel
theorem dX12_breaks_95 : decode cX12_breaks 95 = .ok (.invokevirtual 187, 3) := by decide +kernel
theorem dX12_breaks_98 : decode cX12_breaks 98 = .ok (.istore_n 2, 1) := by decide +kernel
theorem dX12_breaks_99 : decode cX12_breaks 99 = .ok (.iconst 1, 1) := by decide +kernel
theorem dX12_breaks_100 : decode cX12_breaks 100 = .ok (.ireturn, 1) := by decide +kernel
theorem dX12_connect_0 : decode cX12_connect 0 = .ok (.aload_n 0, 1) := by decide +kernel
theorem dX12_connect_1 : decode cX12_connect 1 = .ok (.iconst 0, 1) := by decide +kernel
theorem dX12_connect_2 : decode cX12_connect 2 = .ok (.putfield 52, 3) := by decide +kernel
theorem dX12_connect_5 : decode cX12_connect 5 = .ok (.iload_n 1, 1) := by decide +kernel
theorem dX12_connect_6 : decode cX12_connect 6 = .ok (.invokestatic 191, 3) := by decide +kernel
theorem dX12_connect_9 : decode cX12_connect 9 = .ok (.ifCond .ne 9, 3) := by decide +kernel
theorem dX12_connect_12 : decode cX12_connect 12 = .ok (.aload_n 0, 1) := by decide +kernel
theorem dX12_connect_13 : decode cX12_connect 13 = .ok (.iconst 1, 1) := by decide +kernel
theorem dX12_connect_14 : decode cX12_connect 14 = .ok (.invokevirtual 86, 3) := by decide +kernel
theorem dX12_connect_17 : decode cX12_connect 17 = .ok (.ireturn, 1) := by decide +kernel
theorem dX12_connect_18 : decode cX12_connect 18 = .ok (.aload_n 0, 1) := by decide +kernel
theorem dX12_connect_19 : decode cX12_connect 19 = .ok (.iload_n 1, 1) := by decide +kernel
theorem dX12_connect_20 : decode cX12_connect 20 = .ok (.invokevirtual 107, 3) := by decide +kernel
theorem dX12_connect_23 : decode cX12_connect 23 = .ok (.ifCond .eq 20, 3) := by decide +kernel
theorem dX12_connect_26 : decode cX12_connect 26 = .ok (.aload_n 0, 1) := by decide +kernel
theorem dX12_connect_27 : decode cX12_connect 27 = .ok (.getfield 9, 3) := by decide +kernel
theorem dX12_connect_30 : decode cX12_connect 30 = .ok (.bipush 10, 2) := by decide +kernel
theorem dX12_connect_32 : decode cX12_connect 32 = .ok (.dup2, 1) := by decide +kernel
theorem dX12_connect_33 : decode cX12_connect 33 = .ok (.iaload, 1) := by decide +kernel
theorem dX12_connect_34 : decode cX12_connect 34 = .ok (.iconst 1, 1) := by decide +kernel
theorem dX12_connect_35 : decode cX12_connect 35 = .ok (.iadd, 1) := by decide +kernel
theorem dX12_connect_36 : decode cX12_connect 36 = .ok (.iastore, 1) := by decide +kernel
theorem dX12_connect_37 : decode cX12_connect 37 = .ok (.aload_n 0, 1) := by decide +kernel
theorem dX12_connect_38 : decode cX12_connect 38 = .ok (.iload_n 1, 1) := by decide +kernel
theorem dX12_connect_39 : decode cX12_connect 39 = .ok (.invokevirtual 194, 3) := by decide +kernel
theorem dX12_connect_42 : decode cX12_connect 42 = .ok (.istore_n 3, 1) := by decide +kernel
theorem dX12_connect_43 : decode cX12_connect 43 = .ok (.aload_n 0, 1) := by decide +kernel
theorem dX12_connect_44 : decode cX12_connect 44 = .ok (.getfield 9, 3) := by decide +kernel
theorem dX12_connect_47 : decode cX12_connect 47 = .ok (.bipush 20, 2) := by decide +kernel
theorem dX12_connect_49 : decode cX12_connect 49 = .ok (.iload_n 1, 1) := by decide +kernel
theorem dX12_connect_50 : decode cX12_connect 50 = .ok (.iadd, 1) := by decide +kernel
theorem dX12_connect_51 : decode cX12_connect 51 = .ok (.iaload, 1) := by decide +kernel
theorem dX12_connect_52 : decode cX12_connect 52 = .ok (.iconst 1, 1) := by decide +kernel
theorem dX12_connect_53 : decode cX12_connect 53 = .ok (.if_icmp .ne 11, 3) := by decide +kernel
theorem dX12_connect_56 : decode cX12_connect 56 = .ok (.iload_n 2, 1) := by decide +kernel
theorem dX12_connect_57 : decode cX12_connect 57 = .ok (.ifCond .ne 7, 3) := by decide +kernel
theorem dX12_connect_60 : decode cX12_connect 60 = .ok (.iconst 1, 1) := by decide +kernel
theorem dX12_connect_61 : decode cX12_connect 61 = .ok (.goto 4, 3) := by decide +kernel
theorem dX12_connect_64 : decode cX12_connect 64 = .ok (.iconst 0, 1) := by decide +kernel
theorem dX12_connect_65 : decode cX12_connect 65 = .ok (.istore_n 3, 1) := by decide +kernel
theorem dX12_connect_66 : decode cX12_connect 66 = .ok (.iload_n 3, 1) := by decide +kernel
theorem dX12_connect_67 : decode cX12_connect 67 = .ok (.ifCond .ne 28, 3) := by decide +kernel
theorem dX12_connect_70 : decode cX12_connect 70 = .ok (.aload_n 0, 1) := by decide +kernel
theorem dX12_connect_71 : decode cX12_connect 71 = .ok (.iload_n 1, 1) := by decide +kernel
theorem dX12_connect_72 : decode cX12_connect 72 = .ok (.invokevirtual 181, 3) := by decide +kernel
theorem dX12_connect_75 : decode cX12_connect 75 = .ok (.aload_n 0, 1) := by decide +kernel
theorem dX12_connect_76 : decode cX12_connect 76 = .ok (.getfield 9, 3) := by decide +kernel
theorem dX12_connect_79 : decode cX12_connect 79 = .ok (.bipush 20, 2) := by decide +kernel
theorem dX12_connect_81 : decode cX12_connect 81 = .ok (.iload_n 1, 1) := by decide +kernel
theorem dX12_connect_82 : decode cX12_connect 82 = .ok (.iadd, 1) := by decide +kernel
theorem dX12_connect_83 : decode cX12_connect 83 = .ok (.iconst 1, 1) := by decide +kernel
theorem dX12_connect_84 : decode cX12_connect 84 = .ok (.iastore, 1) := by decide +kernel
theorem dX12_connect_85 : decode cX12_connect 85 = .ok (.aload_n 0, 1) := by decide +kernel
theorem dX12_connect_86 : decode cX12_connect 86 = .ok (.getfield 9, 3) := by decide +kernel
theorem dX12_connect_89 : decode cX12_connect 89 = .ok (.bipush 44, 2) := by decide +kernel
theorem dX12_connect_91 : decode cX12_connect 91 = .ok (.iload_n 1, 1) := by decide +kernel
theorem dX12_connect_92 : decode cX12_connect 92 = .ok (.iadd, 1) := by decide +kernel
theorem dX12_connect_93 : decode cX12_connect 93 = .ok (.iconst 1, 1) := by decide +kernel
theorem dX12_connect_94 : decode cX12_connect 94 = .ok (.iastore, 1) := by decide +kernel
theorem dX12_connect_95 : decode cX12_connect 95 = .ok (.aload_n 0, 1) := by decide +kernel
theorem dX12_connect_96 : decode cX12_connect 96 = .ok (.getfield 9, 3) := by decide +kernel
theorem dX12_connect_99 : decode cX12_connect 99 = .ok (.bipush 26, 2) := by decide +kernel
theorem dX12_connect_101 : decode cX12_connect 101 = .ok (.iload_n 1, 1) := by decide +kernel
theorem dX12_connect_102 : decode cX12_connect 102 = .ok (.iadd, 1) := by decide +kernel
theorem dX12_connect_103 : decode cX12_connect 103 = .ok (.iload_n 2, 1) := by decide +kernel
theorem dX12_connect_104 : decode cX12_connect 104 = .ok (.ifCond .eq 7, 3) := by decide +kernel
theorem dX12_connect_107 : decode cX12_connect 107 = .ok (.iconst 1, 1) := by decide +kernel
theorem dX12_connect_108 : decode cX12_connect 108 = .ok (.goto 4, 3) := by decide +kernel
theorem dX12_connect_111 : decode cX12_connect 111 = .ok (.iconst 0, 1) := by decide +kernel
theorem dX12_connect_112 : decode cX12_connect 112 = .ok (.iastore, 1) := by decide +kernel
theorem dX12_connect_113 : decode cX12_connect 113 = .ok (.aload_n 0, 1) := by decide +kernel
theorem dX12_connect_114 : decode cX12_connect 114 = .ok (.getfield 9, 3) := by decide +kernel
theorem dX12_connect_117 : decode cX12_connect 117 = .ok (.bipush 32, 2) := by decide +kernel
theorem dX12_connect_119 : decode cX12_connect 119 = .ok (.iload_n 1, 1) := by decide +kernel
theorem dX12_connect_120 : decode cX12_connect 120 = .ok (.iadd, 1) := by decide +kernel
theorem dX12_connect_121 : decode cX12_connect 121 = .ok (.iconst 1, 1) := by decide +kernel
theorem dX12_connect_122 : decode cX12_connect 122 = .ok (.iastore, 1) := by decide +kernel
theorem dX12_connect_123 : decode cX12_connect 123 = .ok (.aload_n 0, 1) := by decide +kernel
theorem dX12_connect_124 : decode cX12_connect 124 = .ok (.getfield 9, 3) := by decide +kernel
theorem dX12_connect_127 : decode cX12_connect 127 = .ok (.bipush 68, 2) := by decide +kernel
theorem dX12_connect_129 : decode cX12_connect 129 = .ok (.iload_n 1, 1) := by decide +kernel
theorem dX12_connect_130 : decode cX12_connect 130 = .ok (.iadd, 1) := by decide +kernel
theorem dX12_connect_131 : decode cX12_connect 131 = .ok (.iconst 0, 1) := by decide +kernel
theorem dX12_connect_132 : decode cX12_connect 132 = .ok (.iastore, 1) := by decide +kernel
theorem dX12_connect_133 : decode cX12_connect 133 = .ok (.iconst 0, 1) := by decide +kernel
theorem dX12_connect_134 : decode cX12_connect 134 = .ok (.istore 4, 2) := by decide +kernel
theorem dX12_connect_136 : decode cX12_connect 136 = .ok (.iload 4, 2) := by decide +kernel
theorem dX12_connect_138 : decode cX12_connect 138 = .ok (.aload_n 0, 1) := by decide +kernel
theorem dX12_connect_139 : decode cX12_connect 139 = .ok (.getfield 9, 3) := by decide +kernel
theorem dX12_connect_142 : decode cX12_connect 142 = .ok (.bipush 56, 2) := by decide +kernel
theorem dX12_connect_144 : decode cX12_connect 144 = .ok (.iload_n 1, 1) := by decide +kernel
theorem dX12_connect_145 : decode cX12_connect 145 = .ok (.iadd, 1) := by decide +kernel
theorem dX12_connect_146 : decode cX12_connect 146 = .ok (.iaload, 1) := by decide +kernel
theorem dX12_connect_147 : decode cX12_connect 147 = .ok (.if_icmp .ge 16, 3) := by decide +kernel
theorem dX12_connect_150 : decode cX12_connect 150 = .ok (.aload_n 0, 1) := by decide +kernel
theorem dX12_connect_151 : decode cX12_connect 151 = .ok (.iload_n 1, 1) := by decide +kernel
theorem dX12_connect_152 : decode cX12_connect 152 = .ok (.iload 4, 2) := by decide +kernel
theorem dX12_connect_154 : decode cX12_connect 154 = .ok (.invokevirtual 197, 3) := by decide +kernel
theorem dX12_connect_157 : decode cX12_connect 157 = .ok (.iinc 4 1, 3) := by decide +kernel
theorem dX12_connect_160 : decode cX12_connect 160 = .ok (.goto (-24), 3) := by decide +kernel
theorem dX12_connect_163 : decode cX12_connect 163 = .ok (.aload_n 0, 1) := by decide +kernel
theorem dX12_connect_164 : decode cX12_connect 164 = .ok (.iload_n 1, 1) := by decide +kernel
theorem dX12_connect_165 : decode cX12_connect 165 = .ok (.invokevirtual 127, 3) := by decide +kernel
theorem dX12_connect_168 : decode cX12_connect 168 = .ok (.iload_n 3, 1) := by decide +kernel
theorem dX12_connect_169 : decode cX12_connect 169 = .ok (.ifCond .eq 7, 3) := by decide +kernel
theorem dX12_connect_172 : decode cX12_connect 172 = .ok (.iconst 1, 1) := by decide +kernel
theorem dX12_connect_173 : decode cX12_connect 173 = .ok (.goto 4, 3) := by decide +kernel
theorem dX12_connect_176 : decode cX12_connect 176 = .ok (.iconst 0, 1) := by decide +kernel
theorem dX12_connect_177 : decode cX12_connect 177 = .ok (.ireturn, 1) := by decide +kernel
theorem dX12_disconnect_0 : decode cX12_disconnect 0 = .ok (.aload_n 0, 1) := by decide +kernel
theorem dX12_disconnect_1 : decode cX12_disconnect 1 = .ok (.iconst 0, 1) := by decide +kernel
theorem dX12_disconnect_2 : decode cX12_disconnect 2 = .ok (.putfield 52, 3) := by decide +kernel
theorem dX12_disconnect_5 : decode cX12_disconnect 5 = .ok (.iload_n 1, 1) := by decide +kernel
theorem dX12_disconnect_6 : decode cX12_disconnect 6 = .ok (.invokestatic 191, 3) := by decide +kernel
theorem dX12_disconnect_9 : decode cX12_disconnect 9 = .ok (.ifCond .ne 9, 3) := by decide +kernel
theorem dX12_disconnect_12 : decode cX12_disconnect 12 = .ok (.aload_n 0, 1) := by decide +kernel
theorem dX12_disconnect_13 : decode cX12_disconnect 13 = .ok (.iconst 1, 1) := by decide +kernel
theorem dX12_disconnect_14 : decode cX12_disconnect 14 = .ok (.invokevirtual 86, 3) := by decide +kernel
theorem dX12_disconnect_17 : decode cX12_disconnect 17 = .ok (.ireturn, 1) := by decide +kernel
theorem dX12_disconnect_18 : decode cX12_disconnect 18 = .ok (.aload_n 0, 1) := by decide +kernel
theorem dX12_disconnect_19 : decode cX12_disconnect 19 = .ok (.iload_n 1, 1) := by decide +kernel
theorem dX12_disconnect_20 : decode cX12_disconnect 20 = .ok (.invokevirtual 107, 3) := by decide +kernel
theorem dX12_disconnect_23 : decode cX12_disconnect 23 = .ok (.ifCond .ne 9, 3) := by decide +kernel
theorem dX12_disconnect_26 : decode cX12_disconnect 26 = .ok (.aload_n 0, 1) := by decide +kernel
theorem dX12_disconnect_27 : decode cX12_disconnect 27 = .ok (.iconst 2, 1) := by decide +kernel
theorem dX12_disconnect_28 : decode cX12_disconnect 28 = .ok (.invokevirtual 86, 3) := by decide +kernel
theorem dX12_disconnect_31 : decode cX12_disconnect 31 = .ok (.ireturn, 1) := by decide +kernel
theorem dX12_disconnect_32 : decode cX12_disconnect 32 = .ok (.aload_n 0, 1) := by decide +kernel
theorem dX12_disconnect_33 : decode cX12_disconnect 33 = .ok (.getfield 9, 3) := by decide +kernel
theorem dX12_disconnect_36 : decode cX12_disconnect 36 = .ok (.bipush 74, 2) := by decide +kernel
theorem dX12_disconnect_38 : decode cX12_disconnect 38 = .ok (.iload_n 1, 1) := by decide +kernel
theorem dX12_disconnect_39 : decode cX12_disconnect 39 = .ok (.iadd, 1) := by decide +kernel
theorem dX12_disconnect_40 : decode cX12_disconnect 40 = .ok (.iconst 0, 1) := by decide +kernel
theorem dX12_disconnect_41 : decode cX12_disconnect 41 = .ok (.iastore, 1) := by decide +kernel
theorem dX12_disconnect_42 : decode cX12_disconnect 42 = .ok (.aload_n 0, 1) := by decide +kernel
theorem dX12_disconnect_43 : decode cX12_disconnect 43 = .ok (.iload_n 1, 1) := by decide +kernel
theorem dX12_disconnect_44 : decode cX12_disconnect 44 = .ok (.invokevirtual 184, 3) := by decide +kernel
theorem dX12_disconnect_47 : decode cX12_disconnect 47 = .ok (.aload_n 0, 1) := by decide +kernel
theorem dX12_disconnect_48 : decode cX12_disconnect 48 = .ok (.getfield 9, 3) := by decide +kernel
theorem dX12_disconnect_51 : decode cX12_disconnect 51 = .ok (.bipush 20, 2) := by decide +kernel
theorem dX12_disconnect_53 : decode cX12_disconnect 53 = .ok (.iload_n 1, 1) := by decide +kernel
theorem dX12_disconnect_54 : decode cX12_disconnect 54 = .ok (.iadd, 1) := by decide +kernel
theorem dX12_disconnect_55 : decode cX12_disconnect 55 = .ok (.iaload, 1) := by decide +kernel
theorem dX12_disconnect_56 : decode cX12_disconnect 56 = .ok (.ireturn, 1) := by decide +kernel
theorem dX12_breakConnection_0 : decode cX12_breakConnection 0 = .ok (.aload_n 0, 1) := by decide +kernel
theorem dX12_breakConnection_1 : decode cX12_breakConnection 1 = .ok (.iconst 0, 1) := by decide +kernel
theorem dX12_breakConnection_2 : decode cX12_breakConnection 2 = .ok (.putfield 52, 3) := by decide +kernel
theorem dX12_breakConnection_5 : decode cX12_breakConnection 5 = .ok (.iload_n 1, 1) := by decide +kernel
theorem dX12_breakConnection_6 : decode cX12_breakConnection 6 = .ok (.invokestatic 191, 3) := by decide +kernel
theorem dX12_breakConnection_9 : decode cX12_breakConnection 9 = .ok (.ifCond .ne 9, 3) := by decide +kernel
theorem dX12_breakConnection_12 : decode cX12_breakConnection 12 = .ok (.aload_n 0, 1) := by decide +kernel
theorem dX12_breakConnection_13 : decode cX12_breakConnection 13 = .ok (.iconst 1, 1) := by decide +kernel
theorem dX12_breakConnection_14 : decode cX12_breakConnection 14 = .ok (.invokevirtual 86, 3) := by decide +kernel
theorem dX12_breakConnection_17 : decode cX12_breakConnection 17 = .ok (.ireturn, 1) := by decide +kernel
theorem dX12_breakConnection_18 : decode cX12_breakConnection 18 = .ok (.aload_n 0, 1) := by decide +kernel
theorem dX12_breakConnection_19 : decode cX12_breakConnection 19 = .ok (.iload_n 1, 1) := by decide +kernel
theorem dX12_breakConnection_20 : decode cX12_breakConnection 20 = .ok (.invokevirtual 107, 3) := by decide +kernel
theorem dX12_breakConnection_23 : decode cX12_breakConnection 23 = .ok (.ifCond .eq 11, 3) := by decide +kernel
theorem dX12_breakConnection_26 : decode cX12_breakConnection 26 = .ok (.aload_n 0, 1) := by decide +kernel
theorem dX12_breakConnection_27 : decode cX12_breakConnection 27 = .ok (.iload_n 1, 1) := by decide +kernel
theorem dX12_breakConnection_28 : decode cX12_breakConnection 28 = .ok (.invokevirtual 194, 3) := by decide +kernel
theorem dX12_breakConnection_31 : decode cX12_breakConnection 31 = .ok (.goto 8, 3) := by decide +kernel
theorem dX12_breakConnection_34 : decode cX12_breakConnection 34 = .ok (.aload_n 0, 1) := by decide +kernel
theorem dX12_breakConnection_35 : decode cX12_breakConnection 35 = .ok (.iconst 2, 1) := by decide +kernel
theorem dX12_breakConnection_36 : decode cX12_breakConnection 36 = .ok (.invokevirtual 86, 3) := by decide +kernel
theorem dX12_breakConnection_39 : decode cX12_breakConnection 39 = .ok (.ireturn, 1) := by decide +kernel
theorem dX12_failsUnread_0 : decode cX12_failsUnread 0 = .ok (.aload_n 0, 1) := by decide +kernel
theorem dX12_failsUnread_1 : decode cX12_failsUnread 1 = .ok (.iconst 0, 1) := by decide +kernel
theorem dX12_failsUnread_2 : decode cX12_failsUnread 2 = .ok (.putfield 59, 3) := by decide +kernel
theorem dX12_failsUnread_5 : decode cX12_failsUnread 5 = .ok (.aload_n 0, 1) := by decide +kernel
theorem dX12_failsUnread_6 : decode cX12_failsUnread 6 = .ok (.iload_n 1, 1) := by decide +kernel
theorem dX12_failsUnread_7 : decode cX12_failsUnread 7 = .ok (.invokevirtual 86, 3) := by decide +kernel
theorem dX12_failsUnread_10 : decode cX12_failsUnread 10 = .ok (.ireturn, 1) := by decide +kernel
theorem dX12_setWill_0 : decode cX12_setWill 0 = .ok (.aload_n 0, 1) := by decide +kernel
theorem dX12_setWill_1 : decode cX12_setWill 1 = .ok (.iconst 0, 1) := by decide +kernel
theorem dX12_setWill_2 : decode cX12_setWill 2 = .ok (.putfield 52, 3) := by decide +kernel
theorem dX12_setWill_5 : decode cX12_setWill 5 = .ok (.iload_n 1, 1) := by decide +kernel
theorem dX12_setWill_6 : decode cX12_setWill 6 = .ok (.invokestatic 191, 3) := by decide +kernel
theorem dX12_setWill_9 : decode cX12_setWill 9 = .ok (.ifCond .ne 9, 3) := by decide +kernel
theorem dX12_setWill_12 : decode cX12_setWill 12 = .ok (.aload_n 0, 1) := by decide +kernel
theorem dX12_setWill_13 : decode cX12_setWill 13 = .ok (.iconst 1, 1) := by decide +kernel
theorem dX12_setWill_14 : decode cX12_setWill 14 = .ok (.invokevirtual 200, 3) := by decide +kernel
theorem dX12_setWill_17 : decode cX12_setWill 17 = .ok (.ireturn, 1) := by decide +kernel
theorem dX12_setWill_18 : decode cX12_setWill 18 = .ok (.aload_n 0, 1) := by decide +kernel
theorem dX12_setWill_19 : decode cX12_setWill 19 = .ok (.iconst 0, 1) := by decide +kernel
theorem dX12_setWill_20 : decode cX12_setWill 20 = .ok (.invokevirtual 203, 3) := by decide +kernel
theorem dX12_setWill_23 : decode cX12_setWill 23 = .ok (.ifCond .eq 24, 3) := by decide +kernel
theorem dX12_setWill_26 : decode cX12_setWill 26 = .ok (.iload_n 2, 1) := by decide +kernel
theorem dX12_setWill_27 : decode cX12_setWill 27 = .ok (.iconst 0, 1) := by decide +kernel
theorem dX12_setWill_28 : decode cX12_setWill 28 = .ok (.iconst 2, 1) := by decide +kernel
theorem dX12_setWill_29 : decode cX12_setWill 29 = .ok (.invokestatic 55, 3) := by decide +kernel
theorem dX12_setWill_32 : decode cX12_setWill 32 = .ok (.ifCond .eq 15, 3) := by decide +kernel
theorem dX12_setWill_35 : decode cX12_setWill 35 = .ok (.iload 4, 2) := by decide +kernel
theorem dX12_setWill_37 : decode cX12_setWill 37 = .ok (.iconst 0, 1) := by decide +kernel
theorem dX12_setWill_38 : decode cX12_setWill 38 = .ok (.sipush 9999, 3) := by decide +kernel
theorem dX12_setWill_41 : decode cX12_setWill 41 = .ok (.invokestatic 55, 3) := by decide +kernel
theorem dX12_setWill_44 : decode cX12_setWill 44 = .ok (.ifCond .ne 9, 3) := by decide +kernel
theorem dX12_setWill_47 : decode cX12_setWill 47 = .ok (.aload_n 0, 1) := by decide +kernel
theorem dX12_setWill_48 : decode cX12_setWill 48 = .ok (.iconst 2, 1) := by decide +kernel
theorem dX12_setWill_49 : decode cX12_setWill 49 = .ok (.invokevirtual 86, 3) := by decide +kernel
theorem dX12_setWill_52 : decode cX12_setWill 52 = .ok (.ireturn, 1) := by decide +kernel
theorem dX12_setWill_53 : decode cX12_setWill 53 = .ok (.aload_n 0, 1) := by decide +kernel
theorem dX12_setWill_54 : decode cX12_setWill 54 = .ok (.iload_n 1, 1) := by decide +kernel
theorem dX12_setWill_55 : decode cX12_setWill 55 = .ok (.invokevirtual 107, 3) := by decide +kernel
theorem dX12_setWill_58 : decode cX12_setWill 58 = .ok (.ifCond .ne 9, 3) := by decide +kernel
theorem dX12_setWill_61 : decode cX12_setWill 61 = .ok (.aload_n 0, 1) := by decide +kernel
theorem dX12_setWill_62 : decode cX12_setWill 62 = .ok (.iconst 3, 1) := by decide +kernel
theorem dX12_setWill_63 : decode cX12_setWill 63 = .ok (.invokevirtual 86, 3) := by decide +kernel
theorem dX12_setWill_66 : decode cX12_setWill 66 = .ok (.ireturn, 1) := by decide +kernel
theorem dX12_setWill_67 : decode cX12_setWill 67 = .ok (.aload_n 0, 1) := by decide +kernel
theorem dX12_setWill_68 : decode cX12_setWill 68 = .ok (.getfield 9, 3) := by decide +kernel
theorem dX12_setWill_71 : decode cX12_setWill 71 = .ok (.bipush 74, 2) := by decide +kernel
theorem dX12_setWill_73 : decode cX12_setWill 73 = .ok (.iload_n 1, 1) := by decide +kernel
theorem dX12_setWill_74 : decode cX12_setWill 74 = .ok (.iadd, 1) := by decide +kernel
theorem dX12_setWill_75 : decode cX12_setWill 75 = .ok (.iaload, 1) := by decide +kernel
theorem dX12_setWill_76 : decode cX12_setWill 76 = .ok (.istore 5, 2) := by decide +kernel
theorem dX12_setWill_78 : decode cX12_setWill 78 = .ok (.aload_n 0, 1) := by decide +kernel
theorem dX12_setWill_79 : decode cX12_setWill 79 = .ok (.getfield 9, 3) := by decide +kernel
theorem dX12_setWill_82 : decode cX12_setWill 82 = .ok (.bipush 74, 2) := by decide +kernel
theorem dX12_setWill_84 : decode cX12_setWill 84 = .ok (.iload_n 1, 1) := by decide +kernel
theorem dX12_setWill_85 : decode cX12_setWill 85 = .ok (.iadd, 1) := by decide +kernel
theorem dX12_setWill_86 : decode cX12_setWill 86 = .ok (.iconst 1, 1) := by decide +kernel
theorem dX12_setWill_87 : decode cX12_setWill 87 = .ok (.iastore, 1) := by decide +kernel
theorem dX12_setWill_88 : decode cX12_setWill 88 = .ok (.aload_n 0, 1) := by decide +kernel
theorem dX12_setWill_89 : decode cX12_setWill 89 = .ok (.getfield 9, 3) := by decide +kernel
theorem dX12_setWill_92 : decode cX12_setWill 92 = .ok (.bipush 86, 2) := by decide +kernel
theorem dX12_setWill_94 : decode cX12_setWill 94 = .ok (.iload_n 1, 1) := by decide +kernel
theorem dX12_setWill_95 : decode cX12_setWill 95 = .ok (.iadd, 1) := by decide +kernel
theorem dX12_setWill_96 : decode cX12_setWill 96 = .ok (.iload_n 2, 1) := by decide +kernel
theorem dX12_setWill_97 : decode cX12_setWill 97 = .ok (.iastore, 1) := by decide +kernel
theorem dX12_setWill_98 : decode cX12_setWill 98 = .ok (.aload_n 0, 1) := by decide +kernel
theorem dX12_setWill_99 : decode cX12_setWill 99 = .ok (.getfield 9, 3) := by decide +kernel
theorem dX12_setWill_102 : decode cX12_setWill 102 = .ok (.bipush 92, 2) := by decide +kernel
theorem dX12_setWill_104 : decode cX12_setWill 104 = .ok (.iload_n 1, 1) := by decide +kernel
theorem dX12_setWill_105 : decode cX12_setWill 105 = .ok (.iadd, 1) := by decide +kernel
theorem dX12_setWill_106 : decode cX12_setWill 106 = .ok (.iload_n 3, 1) := by decide +kernel
theorem dX12_setWill_107 : decode cX12_setWill 107 = .ok (.ifCond .eq 7, 3) := by decide +kernel
theorem dX12_setWill_110 : decode cX12_setWill 110 = .ok (.iconst 1, 1) := by decide +kernel
theorem dX12_setWill_111 : decode cX12_setWill 111 = .ok (.goto 4, 3) := by decide +kernel
theorem dX12_setWill_114 : decode cX12_setWill 114 = .ok (.iconst 0, 1) := by decide +kernel
theorem dX12_setWill_115 : decode cX12_setWill 115 = .ok (.iastore, 1) := by decide +kernel
theorem dX12_setWill_116 : decode cX12_setWill 116 = .ok (.aload_n 0, 1) := by decide +kernel
theorem dX12_setWill_117 : decode cX12_setWill 117 = .ok (.getfield 9, 3) := by decide +kernel
theorem dX12_setWill_120 : decode cX12_setWill 120 = .ok (.bipush 98, 2) := by decide +kernel
theorem dX12_setWill_122 : decode cX12_setWill 122 = .ok (.iload_n 1, 1) := by decide +kernel
theorem dX12_setWill_123 : decode cX12_setWill 123 = .ok (.iadd, 1) := by decide +kernel
theorem dX12_setWill_124 : decode cX12_setWill 124 = .ok (.iload 4, 2) := by decide +kernel
theorem dX12_setWill_126 : decode cX12_setWill 126 = .ok (.iastore, 1) := by decide +kernel
theorem dX12_setWill_127 : decode cX12_setWill 127 = .ok (.aload_n 0, 1) := by decide +kernel
theorem dX12_setWill_128 : decode cX12_setWill 128 = .ok (.getfield 37, 3) := by decide +kernel
theorem dX12_setWill_131 : decode cX12_setWill 131 = .ok (.iconst 0, 1) := by decide +kernel
theorem dX12_setWill_132 : decode cX12_setWill 132 = .ok (.aload_n 0, 1) := by decide +kernel
theorem dX12_setWill_133 : decode cX12_setWill 133 = .ok (.getfield 13, 3) := by decide +kernel
theorem dX12_setWill_136 : decode cX12_setWill 136 = .ok (.iconst 0, 1) := by decide +kernel
theorem dX12_setWill_137 : decode cX12_setWill 137 = .ok (.iconst 4, 1) := by decide +kernel
theorem dX12_setWill_138 : decode cX12_setWill 138 = .ok (.iload_n 1, 1) := by decide +kernel
theorem dX12_setWill_139 : decode cX12_setWill 139 = .ok (.imul, 1) := by decide +kernel
theorem dX12_setWill_140 : decode cX12_setWill 140 = .ok (.iadd, 1) := by decide +kernel
theorem dX12_setWill_141 : decode cX12_setWill 141 = .ok (.invokestatic 97, 3) := by decide +kernel
theorem dX12_setWill_144 : decode cX12_setWill 144 = .ok (.iload 5, 2) := by decide +kernel
theorem dX12_setWill_146 : decode cX12_setWill 146 = .ok (.ireturn, 1) := by decide +kernel
theorem dX12_sessionState_0 : decode cX12_sessionState 0 = .ok (.aload_n 0, 1) := by decide +kernel
theorem dX12_sessionState_1 : decode cX12_sessionState 1 = .ok (.iconst 0, 1) := by decide +kernel
theorem dX12_sessionState_2 : decode cX12_sessionState 2 = .ok (.putfield 52, 3) := by decide +kernel
theorem dX12_sessionState_5 : decode cX12_sessionState 5 = .ok (.iload_n 1, 1) := by decide +kernel
theorem dX12_sessionState_6 : decode cX12_sessionState 6 = .ok (.invokestatic 191, 3) := by decide +kernel
theorem dX12_sessionState_9 : decode cX12_sessionState 9 = .ok (.ifCond .ne 9, 3) := by decide +kernel
theorem dX12_sessionState_12 : decode cX12_sessionState 12 = .ok (.aload_n 0, 1) := by decide +kernel
theorem dX12_sessionState_13 : decode cX12_sessionState 13 = .ok (.iconst 1, 1) := by decide +kernel
theorem dX12_sessionState_14 : decode cX12_sessionState 14 = .ok (.invokevirtual 86, 3) := by decide +kernel
theorem dX12_sessionState_17 : decode cX12_sessionState 17 = .ok (.ireturn, 1) := by decide +kernel
theorem dX12_sessionState_18 : decode cX12_sessionState 18 = .ok (.aload_n 0, 1) := by decide +kernel
theorem dX12_sessionState_19 : decode cX12_sessionState 19 = .ok (.getfield 9, 3) := by decide +kernel
theorem dX12_sessionState_22 : decode cX12_sessionState 22 = .ok (.bipush 20, 2) := by decide +kernel
theorem dX12_sessionState_24 : decode cX12_sessionState 24 = .ok (.iload_n 1, 1) := by decide +kernel
theorem dX12_sessionState_25 : decode cX12_sessionState 25 = .ok (.iadd, 1) := by decide +kernel
theorem dX12_sessionState_26 : decode cX12_sessionState 26 = .ok (.iaload, 1) := by decide +kernel
theorem dX12_sessionState_27 : decode cX12_sessionState 27 = .ok (.ifCond .ne 7, 3) := by decide +kernel
theorem dX12_sessionState_30 : decode cX12_sessionState 30 = .ok (.iconst 0, 1) := by decide +kernel
theorem dX12_sessionState_31 : decode cX12_sessionState 31 = .ok (.goto 32, 3) := by decide +kernel
theorem dX12_sessionState_34 : decode cX12_sessionState 34 = .ok (.aload_n 0, 1) := by decide +kernel
theorem dX12_sessionState_35 : decode cX12_sessionState 35 = .ok (.iload_n 1, 1) := by decide +kernel
theorem dX12_sessionState_36 : decode cX12_sessionState 36 = .ok (.invokevirtual 107, 3) := by decide +kernel
theorem dX12_sessionState_39 : decode cX12_sessionState 39 = .ok (.ifCond .ne 7, 3) := by decide +kernel
theorem dX12_sessionState_42 : decode cX12_sessionState 42 = .ok (.iconst 1, 1) := by decide +kernel
theorem dX12_sessionState_43 : decode cX12_sessionState 43 = .ok (.goto 20, 3) := by decide +kernel
theorem dX12_sessionState_46 : decode cX12_sessionState 46 = .ok (.aload_n 0, 1) := by decide +kernel
theorem dX12_sessionState_47 : decode cX12_sessionState 47 = .ok (.getfield 9, 3) := by decide +kernel
theorem dX12_sessionState_50 : decode cX12_sessionState 50 = .ok (.bipush 26, 2) := by decide +kernel
theorem dX12_sessionState_52 : decode cX12_sessionState 52 = .ok (.iload_n 1, 1) := by decide +kernel
theorem dX12_sessionState_53 : decode cX12_sessionState 53 = .ok (.iadd, 1) := by decide +kernel
theorem dX12_sessionState_54 : decode cX12_sessionState 54 = .ok (.iaload, 1) := by decide +kernel
theorem dX12_sessionState_55 : decode cX12_sessionState 55 = .ok (.ifCond .ne 7, 3) := by decide +kernel
theorem dX12_sessionState_58 : decode cX12_sessionState 58 = .ok (.iconst 2, 1) := by decide +kernel
theorem dX12_sessionState_59 : decode cX12_sessionState 59 = .ok (.goto 4, 3) := by decide +kernel
theorem dX12_sessionState_62 : decode cX12_sessionState 62 = .ok (.iconst 3, 1) := by decide +kernel
theorem dX12_sessionState_63 : decode cX12_sessionState 63 = .ok (.ireturn, 1) := by decide +kernel
theorem dX12_placeOf_0 : decode cX12_placeOf 0 = .ok (.iconst (-1), 1) := by decide +kernel
theorem dX12_placeOf_1 : decode cX12_placeOf 1 = .ok (.istore_n 3, 1) := by decide +kernel
theorem dX12_placeOf_2 : decode cX12_placeOf 2 = .ok (.bipush 6, 2) := by decide +kernel
theorem dX12_placeOf_4 : decode cX12_placeOf 4 = .ok (.iload_n 1, 1) := by decide +kernel
theorem dX12_placeOf_5 : decode cX12_placeOf 5 = .ok (.imul, 1) := by decide +kernel
theorem dX12_placeOf_6 : decode cX12_placeOf 6 = .ok (.istore 4, 2) := by decide +kernel
theorem dX12_placeOf_8 : decode cX12_placeOf 8 = .ok (.iload 4, 2) := by decide +kernel
theorem dX12_placeOf_10 : decode cX12_placeOf 10 = .ok (.bipush 6, 2) := by decide +kernel
theorem dX12_placeOf_12 : decode cX12_placeOf 12 = .ok (.iload_n 1, 1) := by decide +kernel
theorem dX12_placeOf_13 : decode cX12_placeOf 13 = .ok (.imul, 1) := by decide +kernel
theorem dX12_placeOf_14 : decode cX12_placeOf 14 = .ok (.aload_n 0, 1) := by decide +kernel
theorem dX12_placeOf_15 : decode cX12_placeOf 15 = .ok (.getfield 9, 3) := by decide +kernel
theorem dX12_placeOf_18 : decode cX12_placeOf 18 = .ok (.bipush 50, 2) := by decide +kernel
theorem dX12_placeOf_20 : decode cX12_placeOf 20 = .ok (.iload_n 1, 1) := by decide +kernel
theorem dX12_placeOf_21 : decode cX12_placeOf 21 = .ok (.iadd, 1) := by decide +kernel
theorem dX12_placeOf_22 : decode cX12_placeOf 22 = .ok (.iaload, 1) := by decide +kernel
theorem dX12_placeOf_23 : decode cX12_placeOf 23 = .ok (.iadd, 1) := by decide +kernel
theorem dX12_placeOf_24 : decode cX12_placeOf 24 = .ok (.if_icmp .ge 53, 3) := by decide +kernel
theorem dX12_placeOf_27 : decode cX12_placeOf 27 = .ok (.aload_n 0, 1) := by decide +kernel
theorem dX12_placeOf_28 : decode cX12_placeOf 28 = .ok (.getfield 9, 3) := by decide +kernel
theorem dX12_placeOf_31 : decode cX12_placeOf 31 = .ok (.sipush 446, 3) := by decide +kernel
theorem dX12_placeOf_34 : decode cX12_placeOf 34 = .ok (.iload 4, 2) := by decide +kernel
theorem dX12_placeOf_36 : decode cX12_placeOf 36 = .ok (.iadd, 1) := by decide +kernel
theorem dX12_placeOf_37 : decode cX12_placeOf 37 = .ok (.iaload, 1) := by decide +kernel
theorem dX12_placeOf_38 : decode cX12_placeOf 38 = .ok (.iload_n 2, 1) := by decide +kernel
theorem dX12_placeOf_39 : decode cX12_placeOf 39 = .ok (.if_icmp .ne 30, 3) := by decide +kernel
theorem dX12_placeOf_42 : decode cX12_placeOf 42 = .ok (.aload_n 0, 1) := by decide +kernel
theorem dX12_placeOf_43 : decode cX12_placeOf 43 = .ok (.getfield 13, 3) := by decide +kernel
theorem dX12_placeOf_46 : decode cX12_placeOf 46 = .ok (.bipush 24, 2) := by decide +kernel
theorem dX12_placeOf_48 : decode cX12_placeOf 48 = .ok (.iconst 4, 1) := by decide +kernel
theorem dX12_placeOf_49 : decode cX12_placeOf 49 = .ok (.iload 4, 2) := by decide +kernel
theorem dX12_placeOf_51 : decode cX12_placeOf 51 = .ok (.imul, 1) := by decide +kernel
theorem dX12_placeOf_52 : decode cX12_placeOf 52 = .ok (.iadd, 1) := by decide +kernel
theorem dX12_placeOf_53 : decode cX12_placeOf 53 = .ok (.aload_n 0, 1) := by decide +kernel
theorem dX12_placeOf_54 : decode cX12_placeOf 54 = .ok (.getfield 37, 3) := by decide +kernel
theorem dX12_placeOf_57 : decode cX12_placeOf 57 = .ok (.iconst 0, 1) := by decide +kernel
theorem dX12_placeOf_58 : decode cX12_placeOf 58 = .ok (.invokestatic 131, 3) := by decide +kernel
theorem dX12_placeOf_61 : decode cX12_placeOf 61 = .ok (.ifCond .eq 8, 3) := by decide +kernel
theorem dX12_placeOf_64 : decode cX12_placeOf 64 = .ok (.iload 4, 2) := by decide +kernel
theorem dX12_placeOf_66 : decode cX12_placeOf 66 = .ok (.goto 4, 3) := by decide +kernel
theorem dX12_placeOf_69 : decode cX12_placeOf 69 = .ok (.iload_n 3, 1) := by decide +kernel
theorem dX12_placeOf_70 : decode cX12_placeOf 70 = .ok (.istore_n 3, 1) := by decide +kernel
theorem dX12_placeOf_71 : decode cX12_placeOf 71 = .ok (.iinc 4 1, 3) := by decide +kernel
theorem dX12_placeOf_74 : decode cX12_placeOf 74 = .ok (.goto (-66), 3) := by decide +kernel
theorem dX12_placeOf_77 : decode cX12_placeOf 77 = .ok (.iload_n 3, 1) := by decide +kernel
theorem dX12_placeOf_78 : decode cX12_placeOf 78 = .ok (.ireturn, 1) := by decide +kernel
theorem dX12_givesRetained_0 : decode cX12_givesRetained 0 = .ok (.iconst 0, 1) := by decide +kernel
theorem dX12_givesRetained_1 : decode cX12_givesRetained 1 = .ok (.istore_n 3, 1) := by decide +kernel
theorem dX12_givesRetained_2 : decode cX12_givesRetained 2 = .ok (.iload_n 3, 1) := by decide +kernel
theorem dX12_givesRetained_3 : decode cX12_givesRetained 3 = .ok (.aload_n 0, 1) := by decide +kernel
theorem dX12_givesRetained_4 : decode cX12_givesRetained 4 = .ok (.getfield 9, 3) := by decide +kernel
theorem dX12_givesRetained_7 : decode cX12_givesRetained 7 = .ok (.bipush 15, 2) := by decide +kernel
theorem dX12_givesRetained_9 : decode cX12_givesRetained 9 = .ok (.iaload, 1) := by decide +kernel
theorem dX12_givesRetained_10 : decode cX12_givesRetained 10 = .ok (.if_icmp .ge 90, 3) := by decide +kernel
theorem dX12_givesRetained_13 : decode cX12_givesRetained 13 = .ok (.aload_n 0, 1) := by decide +kernel
theorem dX12_givesRetained_14 : decode cX12_givesRetained 14 = .ok (.getfield 13, 3) := by decide +kernel
theorem dX12_givesRetained_17 : decode cX12_givesRetained 17 = .ok (.sipush 1224, 3) := by decide +kernel
theorem dX12_givesRetained_20 : decode cX12_givesRetained 20 = .ok (.iconst 4, 1) := by decide +kernel
theorem dX12_givesRetained_21 : decode cX12_givesRetained 21 = .ok (.iload_n 3, 1) := by decide +kernel
theorem dX12_givesRetained_22 : decode cX12_givesRetained 22 = .ok (.imul, 1) := by decide +kernel
theorem dX12_givesRetained_23 : decode cX12_givesRetained 23 = .ok (.iadd, 1) := by decide +kernel
theorem dX12_givesRetained_24 : decode cX12_givesRetained 24 = .ok (.aload_n 0, 1) := by decide +kernel
theorem dX12_givesRetained_25 : decode cX12_givesRetained 25 = .ok (.getfield 40, 3) := by decide +kernel
theorem dX12_givesRetained_28 : decode cX12_givesRetained 28 = .ok (.iconst 0, 1) := by decide +kernel
theorem dX12_givesRetained_29 : decode cX12_givesRetained 29 = .ok (.invokestatic 97, 3) := by decide +kernel
theorem dX12_givesRetained_32 : decode cX12_givesRetained 32 = .ok (.aload_n 0, 1) := by decide +kernel
theorem dX12_givesRetained_33 : decode cX12_givesRetained 33 = .ok (.bipush 24, 2) := by decide +kernel
theorem dX12_givesRetained_35 : decode cX12_givesRetained 35 = .ok (.iconst 4, 1) := by decide +kernel
theorem dX12_givesRetained_36 : decode cX12_givesRetained 36 = .ok (.iload_n 2, 1) := by decide +kernel
theorem dX12_givesRetained_37 : decode cX12_givesRetained 37 = .ok (.imul, 1) := by decide +kernel
theorem dX12_givesRetained_38 : decode cX12_givesRetained 38 = .ok (.iadd, 1) := by decide +kernel
theorem dX12_givesRetained_39 : decode cX12_givesRetained 39 = .ok (.aload_n 0, 1) := by decide +kernel
theorem dX12_givesRetained_40 : decode cX12_givesRetained 40 = .ok (.getfield 9, 3) := by decide +kernel
theorem dX12_givesRetained_43 : decode cX12_givesRetained 43 = .ok (.sipush 518, 3) := by decide +kernel
theorem dX12_givesRetained_46 : decode cX12_givesRetained 46 = .ok (.iload_n 2, 1) := by decide +kernel
theorem dX12_givesRetained_47 : decode cX12_givesRetained 47 = .ok (.iadd, 1) := by decide +kernel
theorem dX12_givesRetained_48 : decode cX12_givesRetained 48 = .ok (.iaload, 1) := by decide +kernel
theorem dX12_givesRetained_49 : decode cX12_givesRetained 49 = .ok (.invokevirtual 144, 3) := by decide +kernel
theorem dX12_givesRetained_52 : decode cX12_givesRetained 52 = .ok (.ifCond .eq 42, 3) := by decide +kernel
theorem dX12_givesRetained_55 : decode cX12_givesRetained 55 = .ok (.aload_n 0, 1) := by decide +kernel
theorem dX12_givesRetained_56 : decode cX12_givesRetained 56 = .ok (.iload_n 1, 1) := by decide +kernel
theorem dX12_givesRetained_57 : decode cX12_givesRetained 57 = .ok (.aload_n 0, 1) := by decide +kernel
theorem dX12_givesRetained_58 : decode cX12_givesRetained 58 = .ok (.getfield 9, 3) := by decide +kernel
theorem dX12_givesRetained_61 : decode cX12_givesRetained 61 = .ok (.sipush 1778, 3) := by decide +kernel
theorem dX12_givesRetained_64 : decode cX12_givesRetained 64 = .ok (.iload_n 3, 1) := by decide +kernel
theorem dX12_givesRetained_65 : decode cX12_givesRetained 65 = .ok (.iadd, 1) := by decide +kernel
theorem dX12_givesRetained_66 : decode cX12_givesRetained 66 = .ok (.iaload, 1) := by decide +kernel
theorem dX12_givesRetained_67 : decode cX12_givesRetained 67 = .ok (.aload_n 0, 1) := by decide +kernel
theorem dX12_givesRetained_68 : decode cX12_givesRetained 68 = .ok (.getfield 9, 3) := by decide +kernel
theorem dX12_givesRetained_71 : decode cX12_givesRetained 71 = .ok (.sipush 410, 3) := by decide +kernel
theorem dX12_givesRetained_74 : decode cX12_givesRetained 74 = .ok (.iload_n 2, 1) := by decide +kernel
theorem dX12_givesRetained_75 : decode cX12_givesRetained 75 = .ok (.iadd, 1) := by decide +kernel
theorem dX12_givesRetained_76 : decode cX12_givesRetained 76 = .ok (.iaload, 1) := by decide +kernel
theorem dX12_givesRetained_77 : decode cX12_givesRetained 77 = .ok (.invokestatic 160, 3) := by decide +kernel
theorem dX12_givesRetained_80 : decode cX12_givesRetained 80 = .ok (.aload_n 0, 1) := by decide +kernel
theorem dX12_givesRetained_81 : decode cX12_givesRetained 81 = .ok (.getfield 9, 3) := by decide +kernel
theorem dX12_givesRetained_84 : decode cX12_givesRetained 84 = .ok (.sipush 1786, 3) := by decide +kernel
theorem dX12_givesRetained_87 : decode cX12_givesRetained 87 = .ok (.iload_n 3, 1) := by decide +kernel
theorem dX12_givesRetained_88 : decode cX12_givesRetained 88 = .ok (.iadd, 1) := by decide +kernel
theorem dX12_givesRetained_89 : decode cX12_givesRetained 89 = .ok (.iaload, 1) := by decide +kernel
theorem dX12_givesRetained_90 : decode cX12_givesRetained 90 = .ok (.iconst 1, 1) := by decide +kernel
theorem dX12_givesRetained_91 : decode cX12_givesRetained 91 = .ok (.invokevirtual 163, 3) := by decide +kernel
theorem dX12_givesRetained_94 : decode cX12_givesRetained 94 = .ok (.iinc 3 1, 3) := by decide +kernel
theorem dX12_givesRetained_97 : decode cX12_givesRetained 97 = .ok (.goto (-95), 3) := by decide +kernel
theorem dX12_givesRetained_100 : decode cX12_givesRetained 100 = .ok (.return_, 1) := by decide +kernel
theorem dX12_subscribe_0 : decode cX12_subscribe 0 = .ok (.aload_n 0, 1) := by decide +kernel
theorem dX12_subscribe_1 : decode cX12_subscribe 1 = .ok (.iconst 0, 1) := by decide +kernel
theorem dX12_subscribe_2 : decode cX12_subscribe 2 = .ok (.putfield 52, 3) := by decide +kernel
theorem dX12_subscribe_5 : decode cX12_subscribe 5 = .ok (.iload_n 1, 1) := by decide +kernel
theorem dX12_subscribe_6 : decode cX12_subscribe 6 = .ok (.invokestatic 191, 3) := by decide +kernel
theorem dX12_subscribe_9 : decode cX12_subscribe 9 = .ok (.ifCond .ne 9, 3) := by decide +kernel
theorem dX12_subscribe_12 : decode cX12_subscribe 12 = .ok (.aload_n 0, 1) := by decide +kernel
theorem dX12_subscribe_13 : decode cX12_subscribe 13 = .ok (.iconst 1, 1) := by decide +kernel
theorem dX12_subscribe_14 : decode cX12_subscribe 14 = .ok (.invokevirtual 200, 3) := by decide +kernel
theorem dX12_subscribe_17 : decode cX12_subscribe 17 = .ok (.ireturn, 1) := by decide +kernel
theorem dX12_subscribe_18 : decode cX12_subscribe 18 = .ok (.aload_n 0, 1) := by decide +kernel
theorem dX12_subscribe_19 : decode cX12_subscribe 19 = .ok (.iconst 1, 1) := by decide +kernel
theorem dX12_subscribe_20 : decode cX12_subscribe 20 = .ok (.invokevirtual 203, 3) := by decide +kernel
theorem dX12_subscribe_23 : decode cX12_subscribe 23 = .ok (.ifCond .eq 44, 3) := by decide +kernel
theorem dX12_subscribe_26 : decode cX12_subscribe 26 = .ok (.iload_n 2, 1) := by decide +kernel
theorem dX12_subscribe_27 : decode cX12_subscribe 27 = .ok (.iconst 0, 1) := by decide +kernel
theorem dX12_subscribe_28 : decode cX12_subscribe 28 = .ok (.iconst 2, 1) := by decide +kernel
theorem dX12_subscribe_29 : decode cX12_subscribe 29 = .ok (.invokestatic 55, 3) := by decide +kernel
theorem dX12_subscribe_32 : decode cX12_subscribe 32 = .ok (.ifCond .eq 35, 3) := by decide +kernel
theorem dX12_subscribe_35 : decode cX12_subscribe 35 = .ok (.iload_n 3, 1) := by decide +kernel
theorem dX12_subscribe_36 : decode cX12_subscribe 36 = .ok (.iconst 0, 1) := by decide +kernel
theorem dX12_subscribe_37 : decode cX12_subscribe 37 = .ok (.iconst 3, 1) := by decide +kernel
theorem dX12_subscribe_38 : decode cX12_subscribe 38 = .ok (.invokestatic 55, 3) := by decide +kernel
theorem dX12_subscribe_41 : decode cX12_subscribe 41 = .ok (.ifCond .eq 26, 3) := by decide +kernel
theorem dX12_subscribe_44 : decode cX12_subscribe 44 = .ok (.iload 4, 2) := by decide +kernel
theorem dX12_subscribe_46 : decode cX12_subscribe 46 = .ok (.iconst 0, 1) := by decide +kernel
theorem dX12_subscribe_47 : decode cX12_subscribe 47 = .ok (.bipush 7, 2) := by decide +kernel
theorem dX12_subscribe_49 : decode cX12_subscribe 49 = .ok (.invokestatic 55, 3) := by decide +kernel
theorem dX12_subscribe_52 : decode cX12_subscribe 52 = .ok (.ifCond .eq 15, 3) := by decide +kernel
theorem dX12_subscribe_55 : decode cX12_subscribe 55 = .ok (.iload_n 3, 1) := by decide +kernel
theorem dX12_subscribe_56 : decode cX12_subscribe 56 = .ok (.ifCond .le 17, 3) := by decide +kernel
theorem dX12_subscribe_59 : decode cX12_subscribe 59 = .ok (.iload 4, 2) := by decide +kernel
theorem dX12_subscribe_61 : decode cX12_subscribe 61 = .ok (.iconst 2, 1) := by decide +kernel
theorem dX12_subscribe_62 : decode cX12_subscribe 62 = .ok (.irem, 1) := by decide +kernel
theorem dX12_subscribe_63 : decode cX12_subscribe 63 = .ok (.iconst 1, 1) := by decide +kernel
theorem dX12_subscribe_64 : decode cX12_subscribe 64 = .ok (.if_icmp .ne 9, 3) := by decide +kernel
theorem dX12_subscribe_67 : decode cX12_subscribe 67 = .ok (.aload_n 0, 1) := by decide +kernel
theorem dX12_subscribe_68 : decode cX12_subscribe 68 = .ok (.iconst 2, 1) := by decide +kernel
theorem dX12_subscribe_69 : decode cX12_subscribe 69 = .ok (.invokevirtual 86, 3) := by decide +kernel
theorem dX12_subscribe_72 : decode cX12_subscribe 72 = .ok (.ireturn, 1) := by decide +kernel
theorem dX12_subscribe_73 : decode cX12_subscribe 73 = .ok (.aload_n 0, 1) := by decide +kernel
theorem dX12_subscribe_74 : decode cX12_subscribe 74 = .ok (.iload_n 1, 1) := by decide +kernel
theorem dX12_subscribe_75 : decode cX12_subscribe 75 = .ok (.invokevirtual 107, 3) := by decide +kernel
theorem dX12_subscribe_78 : decode cX12_subscribe 78 = .ok (.ifCond .ne 9, 3) := by decide +kernel
theorem dX12_subscribe_81 : decode cX12_subscribe 81 = .ok (.aload_n 0, 1) := by decide +kernel
theorem dX12_subscribe_82 : decode cX12_subscribe 82 = .ok (.iconst 3, 1) := by decide +kernel
theorem dX12_subscribe_83 : decode cX12_subscribe 83 = .ok (.invokevirtual 86, 3) := by decide +kernel
theorem dX12_subscribe_86 : decode cX12_subscribe 86 = .ok (.ireturn, 1) := by decide +kernel
theorem dX12_subscribe_87 : decode cX12_subscribe 87 = .ok (.aload_n 0, 1) := by decide +kernel
theorem dX12_subscribe_88 : decode cX12_subscribe 88 = .ok (.iload_n 1, 1) := by decide +kernel
theorem dX12_subscribe_89 : decode cX12_subscribe 89 = .ok (.iload_n 3, 1) := by decide +kernel
theorem dX12_subscribe_90 : decode cX12_subscribe 90 = .ok (.invokevirtual 207, 3) := by decide +kernel
theorem dX12_subscribe_93 : decode cX12_subscribe 93 = .ok (.istore 5, 2) := by decide +kernel
theorem dX12_subscribe_95 : decode cX12_subscribe 95 = .ok (.iload 5, 2) := by decide +kernel
theorem dX12_subscribe_97 : decode cX12_subscribe 97 = .ok (.iconst (-1), 1) := by decide +kernel
theorem dX12_subscribe_98 : decode cX12_subscribe 98 = .ok (.if_icmp .ne 7, 3) := by decide +kernel
theorem dX12_subscribe_101 : decode cX12_subscribe 101 = .ok (.iconst 1, 1) := by decide +kernel
theorem dX12_subscribe_102 : decode cX12_subscribe 102 = .ok (.goto 4, 3) := by decide +kernel
theorem dX12_subscribe_105 : decode cX12_subscribe 105 = .ok (.iconst 0, 1) := by decide +kernel
theorem dX12_subscribe_106 : decode cX12_subscribe 106 = .ok (.istore 6, 2) := by decide +kernel
theorem dX12_subscribe_108 : decode cX12_subscribe 108 = .ok (.iload 6, 2) := by decide +kernel
theorem dX12_subscribe_110 : decode cX12_subscribe 110 = .ok (.ifCond .eq 23, 3) := by decide +kernel
theorem dX12_subscribe_113 : decode cX12_subscribe 113 = .ok (.aload_n 0, 1) := by decide +kernel
theorem dX12_subscribe_114 : decode cX12_subscribe 114 = .ok (.getfield 9, 3) := by decide +kernel
theorem dX12_subscribe_117 : decode cX12_subscribe 117 = .ok (.bipush 50, 2) := by decide +kernel
theorem dX12_subscribe_119 : decode cX12_subscribe 119 = .ok (.iload_n 1, 1) := by decide +kernel
theorem dX12_subscribe_120 : decode cX12_subscribe 120 = .ok (.iadd, 1) := by decide +kernel
theorem dX12_subscribe_121 : decode cX12_subscribe 121 = .ok (.iaload, 1) := by decide +kernel
theorem dX12_subscribe_122 : decode cX12_subscribe 122 = .ok (.bipush 6, 2) := by decide +kernel
theorem dX12_subscribe_124 : decode cX12_subscribe 124 = .ok (.if_icmp .ne 9, 3) := by decide +kernel
theorem dX12_subscribe_127 : decode cX12_subscribe 127 = .ok (.aload_n 0, 1) := by decide +kernel
theorem dX12_subscribe_128 : decode cX12_subscribe 128 = .ok (.iconst 3, 1) := by decide +kernel
theorem dX12_subscribe_129 : decode cX12_subscribe 129 = .ok (.invokevirtual 86, 3) := by decide +kernel
theorem dX12_subscribe_132 : decode cX12_subscribe 132 = .ok (.ireturn, 1) := by decide +kernel
theorem dX12_subscribe_133 : decode cX12_subscribe 133 = .ok (.iload 6, 2) := by decide +kernel
theorem dX12_subscribe_135 : decode cX12_subscribe 135 = .ok (.ifCond .eq 20, 3) := by decide +kernel
theorem dX12_subscribe_138 : decode cX12_subscribe 138 = .ok (.bipush 6, 2) := by decide +kernel
theorem dX12_subscribe_140 : decode cX12_subscribe 140 = .ok (.iload_n 1, 1) := by decide +kernel
theorem dX12_subscribe_141 : decode cX12_subscribe 141 = .ok (.imul, 1) := by decide +kernel
theorem dX12_subscribe_142 : decode cX12_subscribe 142 = .ok (.aload_n 0, 1) := by decide +kernel
theorem dX12_subscribe_143 : decode cX12_subscribe 143 = .ok (.getfield 9, 3) := by decide +kernel
theorem dX12_subscribe_146 : decode cX12_subscribe 146 = .ok (.bipush 50, 2) := by decide +kernel
theorem dX12_subscribe_148 : decode cX12_subscribe 148 = .ok (.iload_n 1, 1) := by decide +kernel
theorem dX12_subscribe_149 : decode cX12_subscribe 149 = .ok (.iadd, 1) := by decide +kernel
theorem dX12_subscribe_150 : decode cX12_subscribe 150 = .ok (.iaload, 1) := by decide +kernel
theorem dX12_subscribe_151 : decode cX12_subscribe 151 = .ok (.iadd, 1) := by decide +kernel
theorem dX12_subscribe_152 : decode cX12_subscribe 152 = .ok (.goto 5, 3) := by decide +kernel
theorem dX12_subscribe_155 : decode cX12_subscribe 155 = .ok (.iload 5, 2) := by decide +kernel
theorem dX12_subscribe_157 : decode cX12_subscribe 157 = .ok (.istore 5, 2) := by decide +kernel
theorem dX12_subscribe_159 : decode cX12_subscribe 159 = .ok (.aload_n 0, 1) := by decide +kernel
theorem dX12_subscribe_160 : decode cX12_subscribe 160 = .ok (.getfield 9, 3) := by decide +kernel
theorem dX12_subscribe_163 : decode cX12_subscribe 163 = .ok (.sipush 410, 3) := by decide +kernel
theorem dX12_subscribe_166 : decode cX12_subscribe 166 = .ok (.iload 5, 2) := by decide +kernel
theorem dX12_subscribe_168 : decode cX12_subscribe 168 = .ok (.iadd, 1) := by decide +kernel
theorem dX12_subscribe_169 : decode cX12_subscribe 169 = .ok (.iload_n 2, 1) := by decide +kernel
theorem dX12_subscribe_170 : decode cX12_subscribe 170 = .ok (.iastore, 1) := by decide +kernel
theorem dX12_subscribe_171 : decode cX12_subscribe 171 = .ok (.aload_n 0, 1) := by decide +kernel
theorem dX12_subscribe_172 : decode cX12_subscribe 172 = .ok (.getfield 9, 3) := by decide +kernel
theorem dX12_subscribe_175 : decode cX12_subscribe 175 = .ok (.sipush 482, 3) := by decide +kernel
theorem dX12_subscribe_178 : decode cX12_subscribe 178 = .ok (.iload 5, 2) := by decide +kernel
theorem dX12_subscribe_180 : decode cX12_subscribe 180 = .ok (.iadd, 1) := by decide +kernel
theorem dX12_subscribe_181 : decode cX12_subscribe 181 = .ok (.iload 4, 2) := by decide +kernel
theorem dX12_subscribe_183 : decode cX12_subscribe 183 = .ok (.iastore, 1) := by decide +kernel
theorem dX12_subscribe_184 : decode cX12_subscribe 184 = .ok (.iload 6, 2) := by decide +kernel
theorem dX12_subscribe_186 : decode cX12_subscribe 186 = .ok (.ifCond .eq 73, 3) := by decide +kernel
theorem dX12_subscribe_189 : decode cX12_subscribe 189 = .ok (.aload_n 0, 1) := by decide +kernel
theorem dX12_subscribe_190 : decode cX12_subscribe 190 = .ok (.getfield 9, 3) := by decide +kernel
theorem dX12_subscribe_193 : decode cX12_subscribe 193 = .ok (.sipush 446, 3) := by decide +kernel
theorem dX12_subscribe_196 : decode cX12_subscribe 196 = .ok (.iload 5, 2) := by decide +kernel
theorem dX12_subscribe_198 : decode cX12_subscribe 198 = .ok (.iadd, 1) := by decide +kernel
theorem dX12_subscribe_199 : decode cX12_subscribe 199 = .ok (.iload_n 3, 1) := by decide +kernel
theorem dX12_subscribe_200 : decode cX12_subscribe 200 = .ok (.iastore, 1) := by decide +kernel
theorem dX12_subscribe_201 : decode cX12_subscribe 201 = .ok (.aload_n 0, 1) := by decide +kernel
theorem dX12_subscribe_202 : decode cX12_subscribe 202 = .ok (.getfield 9, 3) := by decide +kernel
theorem dX12_subscribe_205 : decode cX12_subscribe 205 = .ok (.sipush 518, 3) := by decide +kernel
theorem dX12_subscribe_208 : decode cX12_subscribe 208 = .ok (.iload 5, 2) := by decide +kernel
theorem dX12_subscribe_210 : decode cX12_subscribe 210 = .ok (.iadd, 1) := by decide +kernel
theorem dX12_subscribe_211 : decode cX12_subscribe 211 = .ok (.aload_n 0, 1) := by decide +kernel
theorem dX12_subscribe_212 : decode cX12_subscribe 212 = .ok (.getfield 66, 3) := by decide +kernel
theorem dX12_subscribe_215 : decode cX12_subscribe 215 = .ok (.iastore, 1) := by decide +kernel
theorem dX12_subscribe_216 : decode cX12_subscribe 216 = .ok (.aload_n 0, 1) := by decide +kernel
theorem dX12_subscribe_217 : decode cX12_subscribe 217 = .ok (.getfield 37, 3) := by decide +kernel
theorem dX12_subscribe_220 : decode cX12_subscribe 220 = .ok (.iconst 0, 1) := by decide +kernel
theorem dX12_subscribe_221 : decode cX12_subscribe 221 = .ok (.aload_n 0, 1) := by decide +kernel
theorem dX12_subscribe_222 : decode cX12_subscribe 222 = .ok (.getfield 13, 3) := by decide +kernel
theorem dX12_subscribe_225 : decode cX12_subscribe 225 = .ok (.bipush 24, 2) := by decide +kernel
theorem dX12_subscribe_227 : decode cX12_subscribe 227 = .ok (.iconst 4, 1) := by decide +kernel
theorem dX12_subscribe_228 : decode cX12_subscribe 228 = .ok (.iload 5, 2) := by decide +kernel
theorem dX12_subscribe_230 : decode cX12_subscribe 230 = .ok (.imul, 1) := by decide +kernel
theorem dX12_subscribe_231 : decode cX12_subscribe 231 = .ok (.iadd, 1) := by decide +kernel
theorem dX12_subscribe_232 : decode cX12_subscribe 232 = .ok (.invokestatic 97, 3) := by decide +kernel
theorem dX12_subscribe_235 : decode cX12_subscribe 235 = .ok (.aload_n 0, 1) := by decide +kernel
theorem dX12_subscribe_236 : decode cX12_subscribe 236 = .ok (.getfield 9, 3) := by decide +kernel
theorem dX12_subscribe_239 : decode cX12_subscribe 239 = .ok (.bipush 50, 2) := by decide +kernel
theorem dX12_subscribe_241 : decode cX12_subscribe 241 = .ok (.iload_n 1, 1) := by decide +kernel
theorem dX12_subscribe_242 : decode cX12_subscribe 242 = .ok (.iadd, 1) := by decide +kernel
theorem dX12_subscribe_243 : decode cX12_subscribe 243 = .ok (.dup2, 1) := by decide +kernel
theorem dX12_subscribe_244 : decode cX12_subscribe 244 = .ok (.iaload, 1) := by decide +kernel
theorem dX12_subscribe_245 : decode cX12_subscribe 245 = .ok (.iconst 1, 1) := by decide +kernel
theorem dX12_subscribe_246 : decode cX12_subscribe 246 = .ok (.iadd, 1) := by decide +kernel
theorem dX12_subscribe_247 : decode cX12_subscribe 247 = .ok (.iastore, 1) := by decide +kernel
theorem dX12_subscribe_248 : decode cX12_subscribe 248 = .ok (.iload_n 3, 1) := by decide +kernel
theorem dX12_subscribe_249 : decode cX12_subscribe 249 = .ok (.ifCond .le 10, 3) := by decide +kernel
theorem dX12_subscribe_252 : decode cX12_subscribe 252 = .ok (.aload_n 0, 1) := by decide +kernel
theorem dX12_subscribe_253 : decode cX12_subscribe 253 = .ok (.iload_n 1, 1) := by decide +kernel
theorem dX12_subscribe_254 : decode cX12_subscribe 254 = .ok (.iload 5, 2) := by decide +kernel
theorem dX12_subscribe_256 : decode cX12_subscribe 256 = .ok (.invokevirtual 210, 3) := by decide +kernel
theorem dX12_subscribe_259 : decode cX12_subscribe 259 = .ok (.iload_n 3, 1) := by decide +kernel
theorem dX12_subscribe_260 : decode cX12_subscribe 260 = .ok (.ifCond .ne 30, 3) := by decide +kernel
theorem dX12_subscribe_263 : decode cX12_subscribe 263 = .ok (.iload 4, 2) := by decide +kernel
theorem dX12_subscribe_265 : decode cX12_subscribe 265 = .ok (.iconst 2, 1) := by decide +kernel
theorem dX12_subscribe_266 : decode cX12_subscribe 266 = .ok (.idiv, 1) := by decide +kernel
theorem dX12_subscribe_267 : decode cX12_subscribe 267 = .ok (.iconst 2, 1) := by decide +kernel
theorem dX12_subscribe_268 : decode cX12_subscribe 268 = .ok (.irem, 1) := by decide +kernel
theorem dX12_subscribe_269 : decode cX12_subscribe 269 = .ok (.ifCond .ne 21, 3) := by decide +kernel
theorem dX12_subscribe_272 : decode cX12_subscribe 272 = .ok (.iload 6, 2) := by decide +kernel
