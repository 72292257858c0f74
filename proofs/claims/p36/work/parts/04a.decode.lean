theorem dX0_init_0 : decode cX0_init 0 = .ok (.aload_n 0, 1) := by decide +kernel
theorem dX0_init_1 : decode cX0_init 1 = .ok (.invokespecial 1, 3) := by decide +kernel
theorem dX0_init_4 : decode cX0_init 4 = .ok (.aload_n 0, 1) := by decide +kernel
theorem dX0_init_5 : decode cX0_init 5 = .ok (.new 7, 3) := by decide +kernel
theorem dX0_init_8 : decode cX0_init 8 = .ok (.dup, 1) := by decide +kernel
theorem dX0_init_9 : decode cX0_init 9 = .ok (.aload_n 1, 1) := by decide +kernel
theorem dX0_init_10 : decode cX0_init 10 = .ok (.invokespecial 9, 3) := by decide +kernel
theorem dX0_init_13 : decode cX0_init 13 = .ok (.putfield 12, 3) := by decide +kernel
theorem dX0_init_16 : decode cX0_init 16 = .ok (.aload_n 0, 1) := by decide +kernel
theorem dX0_init_17 : decode cX0_init 17 = .ok (.new 18, 3) := by decide +kernel
theorem dX0_init_20 : decode cX0_init 20 = .ok (.dup, 1) := by decide +kernel
theorem dX0_init_21 : decode cX0_init 21 = .ok (.aload_n 1, 1) := by decide +kernel
theorem dX0_init_22 : decode cX0_init 22 = .ok (.invokespecial 20, 3) := by decide +kernel
theorem dX0_init_25 : decode cX0_init 25 = .ok (.putfield 21, 3) := by decide +kernel
theorem dX0_init_28 : decode cX0_init 28 = .ok (.aload_n 0, 1) := by decide +kernel
theorem dX0_init_29 : decode cX0_init 29 = .ok (.new 25, 3) := by decide +kernel
theorem dX0_init_32 : decode cX0_init 32 = .ok (.dup, 1) := by decide +kernel
theorem dX0_init_33 : decode cX0_init 33 = .ok (.aload_n 1, 1) := by decide +kernel
theorem dX0_init_34 : decode cX0_init 34 = .ok (.invokespecial 27, 3) := by decide +kernel
theorem dX0_init_37 : decode cX0_init 37 = .ok (.putfield 28, 3) := by decide +kernel
theorem dX0_init_40 : decode cX0_init 40 = .ok (.return_, 1) := by decide +kernel
theorem dX0_copyFrom_0 : decode cX0_copyFrom 0 = .ok (.aload_n 0, 1) := by decide +kernel
theorem dX0_copyFrom_1 : decode cX0_copyFrom 1 = .ok (.aload_n 1, 1) := by decide +kernel
theorem dX0_copyFrom_2 : decode cX0_copyFrom 2 = .ok (.getfield 32, 3) := by decide +kernel
theorem dX0_copyFrom_5 : decode cX0_copyFrom 5 = .ok (.putfield 32, 3) := by decide +kernel
theorem dX0_copyFrom_8 : decode cX0_copyFrom 8 = .ok (.aload_n 0, 1) := by decide +kernel
theorem dX0_copyFrom_9 : decode cX0_copyFrom 9 = .ok (.aload_n 1, 1) := by decide +kernel
theorem dX0_copyFrom_10 : decode cX0_copyFrom 10 = .ok (.getfield 36, 3) := by decide +kernel
theorem dX0_copyFrom_13 : decode cX0_copyFrom 13 = .ok (.putfield 36, 3) := by decide +kernel
theorem dX0_copyFrom_16 : decode cX0_copyFrom 16 = .ok (.aload_n 0, 1) := by decide +kernel
theorem dX0_copyFrom_17 : decode cX0_copyFrom 17 = .ok (.aload_n 1, 1) := by decide +kernel
theorem dX0_copyFrom_18 : decode cX0_copyFrom 18 = .ok (.getfield 39, 3) := by decide +kernel
theorem dX0_copyFrom_21 : decode cX0_copyFrom 21 = .ok (.putfield 39, 3) := by decide +kernel
theorem dX0_copyFrom_24 : decode cX0_copyFrom 24 = .ok (.aload_n 0, 1) := by decide +kernel
theorem dX0_copyFrom_25 : decode cX0_copyFrom 25 = .ok (.getfield 12, 3) := by decide +kernel
theorem dX0_copyFrom_28 : decode cX0_copyFrom 28 = .ok (.aload_n 1, 1) := by decide +kernel
theorem dX0_copyFrom_29 : decode cX0_copyFrom 29 = .ok (.getfield 12, 3) := by decide +kernel
theorem dX0_copyFrom_32 : decode cX0_copyFrom 32 = .ok (.invokevirtual 42, 3) := by decide +kernel
theorem dX0_copyFrom_35 : decode cX0_copyFrom 35 = .ok (.aload_n 0, 1) := by decide +kernel
theorem dX0_copyFrom_36 : decode cX0_copyFrom 36 = .ok (.getfield 21, 3) := by decide +kernel
theorem dX0_copyFrom_39 : decode cX0_copyFrom 39 = .ok (.aload_n 1, 1) := by decide +kernel
theorem dX0_copyFrom_40 : decode cX0_copyFrom 40 = .ok (.getfield 21, 3) := by decide +kernel
theorem dX0_copyFrom_43 : decode cX0_copyFrom 43 = .ok (.invokevirtual 46, 3) := by decide +kernel
theorem dX0_copyFrom_46 : decode cX0_copyFrom 46 = .ok (.aload_n 0, 1) := by decide +kernel
theorem dX0_copyFrom_47 : decode cX0_copyFrom 47 = .ok (.getfield 28, 3) := by decide +kernel
theorem dX0_copyFrom_50 : decode cX0_copyFrom 50 = .ok (.aload_n 1, 1) := by decide +kernel
theorem dX0_copyFrom_51 : decode cX0_copyFrom 51 = .ok (.getfield 28, 3) := by decide +kernel
theorem dX0_copyFrom_54 : decode cX0_copyFrom 54 = .ok (.invokevirtual 49, 3) := by decide +kernel
theorem dX0_copyFrom_57 : decode cX0_copyFrom 57 = .ok (.aload_n 0, 1) := by decide +kernel
theorem dX0_copyFrom_58 : decode cX0_copyFrom 58 = .ok (.aload_n 1, 1) := by decide +kernel
theorem dX0_copyFrom_59 : decode cX0_copyFrom 59 = .ok (.getfield 52, 3) := by decide +kernel
theorem dX0_copyFrom_62 : decode cX0_copyFrom 62 = .ok (.putfield 52, 3) := by decide +kernel
theorem dX0_copyFrom_65 : decode cX0_copyFrom 65 = .ok (.aload_n 0, 1) := by decide +kernel
theorem dX0_copyFrom_66 : decode cX0_copyFrom 66 = .ok (.aload_n 1, 1) := by decide +kernel
theorem dX0_copyFrom_67 : decode cX0_copyFrom 67 = .ok (.getfield 56, 3) := by decide +kernel
theorem dX0_copyFrom_70 : decode cX0_copyFrom 70 = .ok (.putfield 56, 3) := by decide +kernel
theorem dX0_copyFrom_73 : decode cX0_copyFrom 73 = .ok (.return_, 1) := by decide +kernel
theorem dX1_init_0 : decode cX1_init 0 = .ok (.aload_n 0, 1) := by decide +kernel
theorem dX1_init_1 : decode cX1_init 1 = .ok (.invokespecial 1, 3) := by decide +kernel
theorem dX1_init_4 : decode cX1_init 4 = .ok (.aload_n 0, 1) := by decide +kernel
theorem dX1_init_5 : decode cX1_init 5 = .ok (.aload_n 1, 1) := by decide +kernel
theorem dX1_init_6 : decode cX1_init 6 = .ok (.putfield 7, 3) := by decide +kernel
theorem dX1_init_9 : decode cX1_init 9 = .ok (.return_, 1) := by decide +kernel
theorem dX1_fill_0 : decode cX1_fill 0 = .ok (.aload_n 0, 1) := by decide +kernel
theorem dX1_fill_1 : decode cX1_fill 1 = .ok (.aload_n 1, 1) := by decide +kernel
theorem dX1_fill_2 : decode cX1_fill 2 = .ok (.putfield 7, 3) := by decide +kernel
theorem dX1_fill_5 : decode cX1_fill 5 = .ok (.aload_n 0, 1) := by decide +kernel
theorem dX1_fill_6 : decode cX1_fill 6 = .ok (.iload_n 2, 1) := by decide +kernel
theorem dX1_fill_7 : decode cX1_fill 7 = .ok (.putfield 13, 3) := by decide +kernel
theorem dX1_fill_10 : decode cX1_fill 10 = .ok (.aload_n 0, 1) := by decide +kernel
theorem dX1_fill_11 : decode cX1_fill 11 = .ok (.iload_n 3, 1) := by decide +kernel
theorem dX1_fill_12 : decode cX1_fill 12 = .ok (.putfield 17, 3) := by decide +kernel
theorem dX1_fill_15 : decode cX1_fill 15 = .ok (.aload_n 0, 1) := by decide +kernel
theorem dX1_fill_16 : decode cX1_fill 16 = .ok (.iconst 0, 1) := by decide +kernel
theorem dX1_fill_17 : decode cX1_fill 17 = .ok (.putfield 20, 3) := by decide +kernel
theorem dX1_fill_20 : decode cX1_fill 20 = .ok (.aload_n 0, 1) := by decide +kernel
theorem dX1_fill_21 : decode cX1_fill 21 = .ok (.iconst 0, 1) := by decide +kernel
theorem dX1_fill_22 : decode cX1_fill 22 = .ok (.putfield 23, 3) := by decide +kernel
theorem dX1_fill_25 : decode cX1_fill 25 = .ok (.aload_n 0, 1) := by decide +kernel
theorem dX1_fill_26 : decode cX1_fill 26 = .ok (.iconst 0, 1) := by decide +kernel
theorem dX1_fill_27 : decode cX1_fill 27 = .ok (.putfield 26, 3) := by decide +kernel
theorem dX1_fill_30 : decode cX1_fill 30 = .ok (.aload_n 0, 1) := by decide +kernel
theorem dX1_fill_31 : decode cX1_fill 31 = .ok (.iconst 0, 1) := by decide +kernel
theorem dX1_fill_32 : decode cX1_fill 32 = .ok (.putfield 29, 3) := by decide +kernel
theorem dX1_fill_35 : decode cX1_fill 35 = .ok (.return_, 1) := by decide +kernel
theorem dX1_copyFrom_0 : decode cX1_copyFrom 0 = .ok (.aload_n 0, 1) := by decide +kernel
theorem dX1_copyFrom_1 : decode cX1_copyFrom 1 = .ok (.aload_n 1, 1) := by decide +kernel
theorem dX1_copyFrom_2 : decode cX1_copyFrom 2 = .ok (.getfield 7, 3) := by decide +kernel
theorem dX1_copyFrom_5 : decode cX1_copyFrom 5 = .ok (.putfield 7, 3) := by decide +kernel
theorem dX1_copyFrom_8 : decode cX1_copyFrom 8 = .ok (.aload_n 0, 1) := by decide +kernel
theorem dX1_copyFrom_9 : decode cX1_copyFrom 9 = .ok (.aload_n 1, 1) := by decide +kernel
theorem dX1_copyFrom_10 : decode cX1_copyFrom 10 = .ok (.getfield 13, 3) := by decide +kernel
theorem dX1_copyFrom_13 : decode cX1_copyFrom 13 = .ok (.putfield 13, 3) := by decide +kernel
theorem dX1_copyFrom_16 : decode cX1_copyFrom 16 = .ok (.aload_n 0, 1) := by decide +kernel
theorem dX1_copyFrom_17 : decode cX1_copyFrom 17 = .ok (.aload_n 1, 1) := by decide +kernel
theorem dX1_copyFrom_18 : decode cX1_copyFrom 18 = .ok (.getfield 17, 3) := by decide +kernel
theorem dX1_copyFrom_21 : decode cX1_copyFrom 21 = .ok (.putfield 17, 3) := by decide +kernel
theorem dX1_copyFrom_24 : decode cX1_copyFrom 24 = .ok (.aload_n 0, 1) := by decide +kernel
theorem dX1_copyFrom_25 : decode cX1_copyFrom 25 = .ok (.aload_n 1, 1) := by decide +kernel
theorem dX1_copyFrom_26 : decode cX1_copyFrom 26 = .ok (.getfield 20, 3) := by decide +kernel
theorem dX1_copyFrom_29 : decode cX1_copyFrom 29 = .ok (.putfield 20, 3) := by decide +kernel
theorem dX1_copyFrom_32 : decode cX1_copyFrom 32 = .ok (.aload_n 0, 1) := by decide +kernel
theorem dX1_copyFrom_33 : decode cX1_copyFrom 33 = .ok (.aload_n 1, 1) := by decide +kernel
theorem dX1_copyFrom_34 : decode cX1_copyFrom 34 = .ok (.getfield 23, 3) := by decide +kernel
theorem dX1_copyFrom_37 : decode cX1_copyFrom 37 = .ok (.putfield 23, 3) := by decide +kernel
theorem dX1_copyFrom_40 : decode cX1_copyFrom 40 = .ok (.aload_n 0, 1) := by decide +kernel
theorem dX1_copyFrom_41 : decode cX1_copyFrom 41 = .ok (.aload_n 1, 1) := by decide +kernel
theorem dX1_copyFrom_42 : decode cX1_copyFrom 42 = .ok (.getfield 26, 3) := by decide +kernel
theorem dX1_copyFrom_45 : decode cX1_copyFrom 45 = .ok (.putfield 26, 3) := by decide +kernel
theorem dX1_copyFrom_48 : decode cX1_copyFrom 48 = .ok (.aload_n 0, 1) := by decide +kernel
theorem dX1_copyFrom_49 : decode cX1_copyFrom 49 = .ok (.aload_n 1, 1) := by decide +kernel
theorem dX1_copyFrom_50 : decode cX1_copyFrom 50 = .ok (.getfield 29, 3) := by decide +kernel
theorem dX1_copyFrom_53 : decode cX1_copyFrom 53 = .ok (.putfield 29, 3) := by decide +kernel
theorem dX1_copyFrom_56 : decode cX1_copyFrom 56 = .ok (.return_, 1) := by decide +kernel
theorem dX2_init_0 : decode cX2_init 0 = .ok (.aload_n 0, 1) := by decide +kernel
theorem dX2_init_1 : decode cX2_init 1 = .ok (.invokespecial 1, 3) := by decide +kernel
theorem dX2_init_4 : decode cX2_init 4 = .ok (.aload_n 0, 1) := by decide +kernel
theorem dX2_init_5 : decode cX2_init 5 = .ok (.iconst 1, 1) := by decide +kernel
theorem dX2_init_6 : decode cX2_init 6 = .ok (.iload_n 1, 1) := by decide +kernel
theorem dX2_init_7 : decode cX2_init 7 = .ok (.invokestatic 7, 3) := by decide +kernel
theorem dX2_init_10 : decode cX2_init 10 = .ok (.anewarray 13, 3) := by decide +kernel
theorem dX2_init_13 : decode cX2_init 13 = .ok (.putfield 15, 3) := by decide +kernel
theorem dX2_init_16 : decode cX2_init 16 = .ok (.iconst 0, 1) := by decide +kernel
theorem dX2_init_17 : decode cX2_init 17 = .ok (.istore_n 3, 1) := by decide +kernel
theorem dX2_init_18 : decode cX2_init 18 = .ok (.iload_n 3, 1) := by decide +kernel
theorem dX2_init_19 : decode cX2_init 19 = .ok (.aload_n 0, 1) := by decide +kernel
theorem dX2_init_20 : decode cX2_init 20 = .ok (.getfield 15, 3) := by decide +kernel
theorem dX2_init_23 : decode cX2_init 23 = .ok (.arraylength, 1) := by decide +kernel
theorem dX2_init_24 : decode cX2_init 24 = .ok (.if_icmp .ge 23, 3) := by decide +kernel
theorem dX2_init_27 : decode cX2_init 27 = .ok (.aload_n 0, 1) := by decide +kernel
theorem dX2_init_28 : decode cX2_init 28 = .ok (.getfield 15, 3) := by decide +kernel
theorem dX2_init_31 : decode cX2_init 31 = .ok (.iload_n 3, 1) := by decide +kernel
theorem dX2_init_32 : decode cX2_init 32 = .ok (.new 13, 3) := by decide +kernel
theorem dX2_init_35 : decode cX2_init 35 = .ok (.dup, 1) := by decide +kernel
theorem dX2_init_36 : decode cX2_init 36 = .ok (.aload_n 2, 1) := by decide +kernel
theorem dX2_init_37 : decode cX2_init 37 = .ok (.invokespecial 21, 3) := by decide +kernel
theorem dX2_init_40 : decode cX2_init 40 = .ok (.aastore, 1) := by decide +kernel
theorem dX2_init_41 : decode cX2_init 41 = .ok (.iinc 3 1, 3) := by decide +kernel
theorem dX2_init_44 : decode cX2_init 44 = .ok (.goto (-26), 3) := by decide +kernel
theorem dX2_init_47 : decode cX2_init 47 = .ok (.return_, 1) := by decide +kernel
theorem dX2_add_0 : decode cX2_add 0 = .ok (.aload_n 0, 1) := by decide +kernel
theorem dX2_add_1 : decode cX2_add 1 = .ok (.getfield 24, 3) := by decide +kernel
theorem dX2_add_4 : decode cX2_add 4 = .ok (.ifCond .lt 38, 3) := by decide +kernel
theorem dX2_add_7 : decode cX2_add 7 = .ok (.aload_n 0, 1) := by decide +kernel
theorem dX2_add_8 : decode cX2_add 8 = .ok (.getfield 24, 3) := by decide +kernel
theorem dX2_add_11 : decode cX2_add 11 = .ok (.aload_n 0, 1) := by decide +kernel
theorem dX2_add_12 : decode cX2_add 12 = .ok (.getfield 15, 3) := by decide +kernel
theorem dX2_add_15 : decode cX2_add 15 = .ok (.arraylength, 1) := by decide +kernel
theorem dX2_add_16 : decode cX2_add 16 = .ok (.if_icmp .ge 26, 3) := by decide +kernel
theorem dX2_add_19 : decode cX2_add 19 = .ok (.aload_n 0, 1) := by decide +kernel
theorem dX2_add_20 : decode cX2_add 20 = .ok (.getfield 15, 3) := by decide +kernel
theorem dX2_add_23 : decode cX2_add 23 = .ok (.aload_n 0, 1) := by decide +kernel
theorem dX2_add_24 : decode cX2_add 24 = .ok (.getfield 24, 3) := by decide +kernel
theorem dX2_add_27 : decode cX2_add 27 = .ok (.aaload, 1) := by decide +kernel
theorem dX2_add_28 : decode cX2_add 28 = .ok (.aload_n 1, 1) := by decide +kernel
theorem dX2_add_29 : decode cX2_add 29 = .ok (.invokevirtual 28, 3) := by decide +kernel
theorem dX2_add_32 : decode cX2_add 32 = .ok (.aload_n 0, 1) := by decide +kernel
theorem dX2_add_33 : decode cX2_add 33 = .ok (.dup, 1) := by decide +kernel
theorem dX2_add_34 : decode cX2_add 34 = .ok (.getfield 24, 3) := by decide +kernel
theorem dX2_add_37 : decode cX2_add 37 = .ok (.iconst 1, 1) := by decide +kernel
theorem dX2_add_38 : decode cX2_add 38 = .ok (.iadd, 1) := by decide +kernel
theorem dX2_add_39 : decode cX2_add 39 = .ok (.putfield 24, 3) := by decide +kernel
theorem dX2_add_42 : decode cX2_add 42 = .ok (.return_, 1) := by decide +kernel
theorem dX2_removeAt_0 : decode cX2_removeAt 0 = .ok (.iload_n 1, 1) := by decide +kernel
theorem dX2_removeAt_1 : decode cX2_removeAt 1 = .ok (.ifCond .lt 23, 3) := by decide +kernel
theorem dX2_removeAt_4 : decode cX2_removeAt 4 = .ok (.iload_n 1, 1) := by decide +kernel
theorem dX2_removeAt_5 : decode cX2_removeAt 5 = .ok (.aload_n 0, 1) := by decide +kernel
theorem dX2_removeAt_6 : decode cX2_removeAt 6 = .ok (.getfield 24, 3) := by decide +kernel
theorem dX2_removeAt_9 : decode cX2_removeAt 9 = .ok (.if_icmp .ge 15, 3) := by decide +kernel
theorem dX2_removeAt_12 : decode cX2_removeAt 12 = .ok (.aload_n 0, 1) := by decide +kernel
theorem dX2_removeAt_13 : decode cX2_removeAt 13 = .ok (.getfield 24, 3) := by decide +kernel
theorem dX2_removeAt_16 : decode cX2_removeAt 16 = .ok (.aload_n 0, 1) := by decide +kernel
theorem dX2_removeAt_17 : decode cX2_removeAt 17 = .ok (.getfield 15, 3) := by decide +kernel
theorem dX2_removeAt_20 : decode cX2_removeAt 20 = .ok (.arraylength, 1) := by decide +kernel
theorem dX2_removeAt_21 : decode cX2_removeAt 21 = .ok (.if_icmp .le 4, 3) := by decide +kernel
theorem dX2_removeAt_24 : decode cX2_removeAt 24 = .ok (.return_, 1) := by decide +kernel
theorem dX2_removeAt_25 : decode cX2_removeAt 25 = .ok (.aload_n 0, 1) := by decide +kernel
theorem dX2_removeAt_26 : decode cX2_removeAt 26 = .ok (.getfield 15, 3) := by decide +kernel
theorem dX2_removeAt_29 : decode cX2_removeAt 29 = .ok (.iload_n 1, 1) := by decide +kernel
theorem dX2_removeAt_30 : decode cX2_removeAt 30 = .ok (.aaload, 1) := by decide +kernel
theorem dX2_removeAt_31 : decode cX2_removeAt 31 = .ok (.astore_n 2, 1) := by decide +kernel
theorem dX2_removeAt_32 : decode cX2_removeAt 32 = .ok (.iload_n 1, 1) := by decide +kernel
theorem dX2_removeAt_33 : decode cX2_removeAt 33 = .ok (.istore_n 3, 1) := by decide +kernel
theorem dX2_removeAt_34 : decode cX2_removeAt 34 = .ok (.iload_n 3, 1) := by decide +kernel
theorem dX2_removeAt_35 : decode cX2_removeAt 35 = .ok (.iconst 1, 1) := by decide +kernel
theorem dX2_removeAt_36 : decode cX2_removeAt 36 = .ok (.iadd, 1) := by decide +kernel
theorem dX2_removeAt_37 : decode cX2_removeAt 37 = .ok (.aload_n 0, 1) := by decide +kernel
theorem dX2_removeAt_38 : decode cX2_removeAt 38 = .ok (.getfield 24, 3) := by decide +kernel
theorem dX2_removeAt_41 : decode cX2_removeAt 41 = .ok (.if_icmp .ge 23, 3) := by decide +kernel
theorem dX2_removeAt_44 : decode cX2_removeAt 44 = .ok (.aload_n 0, 1) := by decide +kernel
theorem dX2_removeAt_45 : decode cX2_removeAt 45 = .ok (.getfield 15, 3) := by decide +kernel
theorem dX2_removeAt_48 : decode cX2_removeAt 48 = .ok (.iload_n 3, 1) := by decide +kernel
theorem dX2_removeAt_49 : decode cX2_removeAt 49 = .ok (.aload_n 0, 1) := by decide +kernel
theorem dX2_removeAt_50 : decode cX2_removeAt 50 = .ok (.getfield 15, 3) := by decide +kernel
theorem dX2_removeAt_53 : decode cX2_removeAt 53 = .ok (.iload_n 3, 1) := by decide +kernel
theorem dX2_removeAt_54 : decode cX2_removeAt 54 = .ok (.iconst 1, 1) := by decide +kernel
theorem dX2_removeAt_55 : decode cX2_removeAt 55 = .ok (.iadd, 1) := by decide +kernel
theorem dX2_removeAt_56 : decode cX2_removeAt 56 = .ok (.aaload, 1) := by decide +kernel
theorem dX2_removeAt_57 : decode cX2_removeAt 57 = .ok (.aastore, 1) := by decide +kernel
theorem dX2_removeAt_58 : decode cX2_removeAt 58 = .ok (.iinc 3 1, 3) := by decide +kernel
theorem dX2_removeAt_61 : decode cX2_removeAt 61 = .ok (.goto (-27), 3) := by decide +kernel
theorem dX2_removeAt_64 : decode cX2_removeAt 64 = .ok (.aload_n 0, 1) := by decide +kernel
theorem dX2_removeAt_65 : decode cX2_removeAt 65 = .ok (.getfield 15, 3) := by decide +kernel
theorem dX2_removeAt_68 : decode cX2_removeAt 68 = .ok (.aload_n 0, 1) := by decide +kernel
theorem dX2_removeAt_69 : decode cX2_removeAt 69 = .ok (.getfield 24, 3) := by decide +kernel
theorem dX2_removeAt_72 : decode cX2_removeAt 72 = .ok (.iconst 1, 1) := by decide +kernel
theorem dX2_removeAt_73 : decode cX2_removeAt 73 = .ok (.isub, 1) := by decide +kernel
theorem dX2_removeAt_74 : decode cX2_removeAt 74 = .ok (.aload_n 2, 1) := by decide +kernel
theorem dX2_removeAt_75 : decode cX2_removeAt 75 = .ok (.aastore, 1) := by decide +kernel
theorem dX2_removeAt_76 : decode cX2_removeAt 76 = .ok (.aload_n 0, 1) := by decide +kernel
theorem dX2_removeAt_77 : decode cX2_removeAt 77 = .ok (.dup, 1) := by decide +kernel
theorem dX2_removeAt_78 : decode cX2_removeAt 78 = .ok (.getfield 24, 3) := by decide +kernel
theorem dX2_removeAt_81 : decode cX2_removeAt 81 = .ok (.iconst 1, 1) := by decide +kernel
theorem dX2_removeAt_82 : decode cX2_removeAt 82 = .ok (.isub, 1) := by decide +kernel
theorem dX2_removeAt_83 : decode cX2_removeAt 83 = .ok (.putfield 24, 3) := by decide +kernel
theorem dX2_removeAt_86 : decode cX2_removeAt 86 = .ok (.return_, 1) := by decide +kernel
theorem dX2_placeOf_0 : decode cX2_placeOf 0 = .ok (.iconst 0, 1) := by decide +kernel
theorem dX2_placeOf_1 : decode cX2_placeOf 1 = .ok (.istore_n 2, 1) := by decide +kernel
theorem dX2_placeOf_2 : decode cX2_placeOf 2 = .ok (.iload_n 2, 1) := by decide +kernel
theorem dX2_placeOf_3 : decode cX2_placeOf 3 = .ok (.aload_n 0, 1) := by decide +kernel
theorem dX2_placeOf_4 : decode cX2_placeOf 4 = .ok (.getfield 24, 3) := by decide +kernel
theorem dX2_placeOf_7 : decode cX2_placeOf 7 = .ok (.if_icmp .ge 33, 3) := by decide +kernel
theorem dX2_placeOf_10 : decode cX2_placeOf 10 = .ok (.iload_n 2, 1) := by decide +kernel
theorem dX2_placeOf_11 : decode cX2_placeOf 11 = .ok (.aload_n 0, 1) := by decide +kernel
theorem dX2_placeOf_12 : decode cX2_placeOf 12 = .ok (.getfield 15, 3) := by decide +kernel
theorem dX2_placeOf_15 : decode cX2_placeOf 15 = .ok (.arraylength, 1) := by decide +kernel
theorem dX2_placeOf_16 : decode cX2_placeOf 16 = .ok (.if_icmp .ge 24, 3) := by decide +kernel
theorem dX2_placeOf_19 : decode cX2_placeOf 19 = .ok (.aload_n 0, 1) := by decide +kernel
theorem dX2_placeOf_20 : decode cX2_placeOf 20 = .ok (.getfield 15, 3) := by decide +kernel
theorem dX2_placeOf_23 : decode cX2_placeOf 23 = .ok (.iload_n 2, 1) := by decide +kernel
theorem dX2_placeOf_24 : decode cX2_placeOf 24 = .ok (.aaload, 1) := by decide +kernel
theorem dX2_placeOf_25 : decode cX2_placeOf 25 = .ok (.getfield 32, 3) := by decide +kernel
theorem dX2_placeOf_28 : decode cX2_placeOf 28 = .ok (.iload_n 1, 1) := by decide +kernel
theorem dX2_placeOf_29 : decode cX2_placeOf 29 = .ok (.if_icmp .ne 5, 3) := by decide +kernel
theorem dX2_placeOf_32 : decode cX2_placeOf 32 = .ok (.iload_n 2, 1) := by decide +kernel
theorem dX2_placeOf_33 : decode cX2_placeOf 33 = .ok (.ireturn, 1) := by decide +kernel
theorem dX2_placeOf_34 : decode cX2_placeOf 34 = .ok (.iinc 2 1, 3) := by decide +kernel
theorem dX2_placeOf_37 : decode cX2_placeOf 37 = .ok (.goto (-35), 3) := by decide +kernel
theorem dX2_placeOf_40 : decode cX2_placeOf 40 = .ok (.iconst (-1), 1) := by decide +kernel
theorem dX2_placeOf_41 : decode cX2_placeOf 41 = .ok (.ireturn, 1) := by decide +kernel
theorem dX2_copyFrom_0 : decode cX2_copyFrom 0 = .ok (.aload_n 0, 1) := by decide +kernel
theorem dX2_copyFrom_1 : decode cX2_copyFrom 1 = .ok (.aload_n 1, 1) := by decide +kernel
theorem dX2_copyFrom_2 : decode cX2_copyFrom 2 = .ok (.getfield 24, 3) := by decide +kernel
theorem dX2_copyFrom_5 : decode cX2_copyFrom 5 = .ok (.putfield 24, 3) := by decide +kernel
theorem dX2_copyFrom_8 : decode cX2_copyFrom 8 = .ok (.iconst 0, 1) := by decide +kernel
theorem dX2_copyFrom_9 : decode cX2_copyFrom 9 = .ok (.istore_n 2, 1) := by decide +kernel
theorem dX2_copyFrom_10 : decode cX2_copyFrom 10 = .ok (.iload_n 2, 1) := by decide +kernel
theorem dX2_copyFrom_11 : decode cX2_copyFrom 11 = .ok (.aload_n 0, 1) := by decide +kernel
theorem dX2_copyFrom_12 : decode cX2_copyFrom 12 = .ok (.getfield 24, 3) := by decide +kernel
theorem dX2_copyFrom_15 : decode cX2_copyFrom 15 = .ok (.if_icmp .ge 42, 3) := by decide +kernel
theorem dX2_copyFrom_18 : decode cX2_copyFrom 18 = .ok (.iload_n 2, 1) := by decide +kernel
theorem dX2_copyFrom_19 : decode cX2_copyFrom 19 = .ok (.aload_n 0, 1) := by decide +kernel
theorem dX2_copyFrom_20 : decode cX2_copyFrom 20 = .ok (.getfield 15, 3) := by decide +kernel
theorem dX2_copyFrom_23 : decode cX2_copyFrom 23 = .ok (.arraylength, 1) := by decide +kernel
theorem dX2_copyFrom_24 : decode cX2_copyFrom 24 = .ok (.if_icmp .ge 33, 3) := by decide +kernel
theorem dX2_copyFrom_27 : decode cX2_copyFrom 27 = .ok (.iload_n 2, 1) := by decide +kernel
theorem dX2_copyFrom_28 : decode cX2_copyFrom 28 = .ok (.aload_n 1, 1) := by decide +kernel
theorem dX2_copyFrom_29 : decode cX2_copyFrom 29 = .ok (.getfield 15, 3) := by decide +kernel
theorem dX2_copyFrom_32 : decode cX2_copyFrom 32 = .ok (.arraylength, 1) := by decide +kernel
theorem dX2_copyFrom_33 : decode cX2_copyFrom 33 = .ok (.if_icmp .ge 24, 3) := by decide +kernel
theorem dX2_copyFrom_36 : decode cX2_copyFrom 36 = .ok (.aload_n 0, 1) := by decide +kernel
theorem dX2_copyFrom_37 : decode cX2_copyFrom 37 = .ok (.getfield 15, 3) := by decide +kernel
theorem dX2_copyFrom_40 : decode cX2_copyFrom 40 = .ok (.iload_n 2, 1) := by decide +kernel
theorem dX2_copyFrom_41 : decode cX2_copyFrom 41 = .ok (.aaload, 1) := by decide +kernel
theorem dX2_copyFrom_42 : decode cX2_copyFrom 42 = .ok (.aload_n 1, 1) := by decide +kernel
theorem dX2_copyFrom_43 : decode cX2_copyFrom 43 = .ok (.getfield 15, 3) := by decide +kernel
theorem dX2_copyFrom_46 : decode cX2_copyFrom 46 = .ok (.iload_n 2, 1) := by decide +kernel
theorem dX2_copyFrom_47 : decode cX2_copyFrom 47 = .ok (.aaload, 1) := by decide +kernel
theorem dX2_copyFrom_48 : decode cX2_copyFrom 48 = .ok (.invokevirtual 28, 3) := by decide +kernel
theorem dX2_copyFrom_51 : decode cX2_copyFrom 51 = .ok (.iinc 2 1, 3) := by decide +kernel
theorem dX2_copyFrom_54 : decode cX2_copyFrom 54 = .ok (.goto (-44), 3) := by decide +kernel
theorem dX2_copyFrom_57 : decode cX2_copyFrom 57 = .ok (.return_, 1) := by decide +kernel
theorem dX3_init_0 : decode cX3_init 0 = .ok (.aload_n 0, 1) := by decide +kernel
theorem dX3_init_1 : decode cX3_init 1 = .ok (.invokespecial 1, 3) := by decide +kernel
theorem dX3_init_4 : decode cX3_init 4 = .ok (.aload_n 0, 1) := by decide +kernel
theorem dX3_init_5 : decode cX3_init 5 = .ok (.aload_n 1, 1) := by decide +kernel
theorem dX3_init_6 : decode cX3_init 6 = .ok (.putfield 7, 3) := by decide +kernel
theorem dX3_init_9 : decode cX3_init 9 = .ok (.return_, 1) := by decide +kernel
theorem dX3_copyFrom_0 : decode cX3_copyFrom 0 = .ok (.aload_n 0, 1) := by decide +kernel
theorem dX3_copyFrom_1 : decode cX3_copyFrom 1 = .ok (.aload_n 1, 1) := by decide +kernel
theorem dX3_copyFrom_2 : decode cX3_copyFrom 2 = .ok (.getfield 13, 3) := by decide +kernel
theorem dX3_copyFrom_5 : decode cX3_copyFrom 5 = .ok (.putfield 13, 3) := by decide +kernel
theorem dX3_copyFrom_8 : decode cX3_copyFrom 8 = .ok (.aload_n 0, 1) := by decide +kernel
theorem dX3_copyFrom_9 : decode cX3_copyFrom 9 = .ok (.aload_n 1, 1) := by decide +kernel
theorem dX3_copyFrom_10 : decode cX3_copyFrom 10 = .ok (.getfield 17, 3) := by decide +kernel
theorem dX3_copyFrom_13 : decode cX3_copyFrom 13 = .ok (.putfield 17, 3) := by decide +kernel
theorem dX3_copyFrom_16 : decode cX3_copyFrom 16 = .ok (.aload_n 0, 1) := by decide +kernel
theorem dX3_copyFrom_17 : decode cX3_copyFrom 17 = .ok (.aload_n 1, 1) := by decide +kernel
theorem dX3_copyFrom_18 : decode cX3_copyFrom 18 = .ok (.getfield 20, 3) := by decide +kernel
theorem dX3_copyFrom_21 : decode cX3_copyFrom 21 = .ok (.putfield 20, 3) := by decide +kernel
theorem dX3_copyFrom_24 : decode cX3_copyFrom 24 = .ok (.aload_n 0, 1) := by decide +kernel
theorem dX3_copyFrom_25 : decode cX3_copyFrom 25 = .ok (.aload_n 1, 1) := by decide +kernel
theorem dX3_copyFrom_26 : decode cX3_copyFrom 26 = .ok (.getfield 23, 3) := by decide +kernel
theorem dX3_copyFrom_29 : decode cX3_copyFrom 29 = .ok (.putfield 23, 3) := by decide +kernel
theorem dX3_copyFrom_32 : decode cX3_copyFrom 32 = .ok (.aload_n 0, 1) := by decide +kernel
theorem dX3_copyFrom_33 : decode cX3_copyFrom 33 = .ok (.aload_n 1, 1) := by decide +kernel
theorem dX3_copyFrom_34 : decode cX3_copyFrom 34 = .ok (.getfield 26, 3) := by decide +kernel
theorem dX3_copyFrom_37 : decode cX3_copyFrom 37 = .ok (.putfield 26, 3) := by decide +kernel
theorem dX3_copyFrom_40 : decode cX3_copyFrom 40 = .ok (.aload_n 0, 1) := by decide +kernel
theorem dX3_copyFrom_41 : decode cX3_copyFrom 41 = .ok (.aload_n 1, 1) := by decide +kernel
theorem dX3_copyFrom_42 : decode cX3_copyFrom 42 = .ok (.getfield 7, 3) := by decide +kernel
theorem dX3_copyFrom_45 : decode cX3_copyFrom 45 = .ok (.putfield 7, 3) := by decide +kernel
theorem dX3_copyFrom_48 : decode cX3_copyFrom 48 = .ok (.return_, 1) := by decide +kernel
theorem dX4_init_0 : decode cX4_init 0 = .ok (.aload_n 0, 1) := by decide +kernel
theorem dX4_init_1 : decode cX4_init 1 = .ok (.invokespecial 3, 3) := by decide +kernel
theorem dX4_init_4 : decode cX4_init 4 = .ok (.aload_n 0, 1) := by decide +kernel
theorem dX4_init_5 : decode cX4_init 5 = .ok (.bipush 30, 2) := by decide +kernel
theorem dX4_init_7 : decode cX4_init 7 = .ok (.anewarray 9, 3) := by decide +kernel
theorem dX4_init_10 : decode cX4_init 10 = .ok (.putfield 11, 3) := by decide +kernel
theorem dX4_init_13 : decode cX4_init 13 = .ok (.iconst 0, 1) := by decide +kernel
theorem dX4_init_14 : decode cX4_init 14 = .ok (.istore_n 2, 1) := by decide +kernel
theorem dX4_init_15 : decode cX4_init 15 = .ok (.iload_n 2, 1) := by decide +kernel
theorem dX4_init_16 : decode cX4_init 16 = .ok (.bipush 30, 2) := by decide +kernel
theorem dX4_init_18 : decode cX4_init 18 = .ok (.if_icmp .ge 23, 3) := by decide +kernel
theorem dX4_init_21 : decode cX4_init 21 = .ok (.aload_n 0, 1) := by decide +kernel
theorem dX4_init_22 : decode cX4_init 22 = .ok (.getfield 11, 3) := by decide +kernel
theorem dX4_init_25 : decode cX4_init 25 = .ok (.iload_n 2, 1) := by decide +kernel
theorem dX4_init_26 : decode cX4_init 26 = .ok (.new 9, 3) := by decide +kernel
theorem dX4_init_29 : decode cX4_init 29 = .ok (.dup, 1) := by decide +kernel
theorem dX4_init_30 : decode cX4_init 30 = .ok (.aload_n 1, 1) := by decide +kernel
theorem dX4_init_31 : decode cX4_init 31 = .ok (.invokespecial 17, 3) := by decide +kernel
theorem dX4_init_34 : decode cX4_init 34 = .ok (.aastore, 1) := by decide +kernel
theorem dX4_init_35 : decode cX4_init 35 = .ok (.iinc 2 1, 3) := by decide +kernel
theorem dX4_init_38 : decode cX4_init 38 = .ok (.goto (-23), 3) := by decide +kernel
theorem dX4_init_41 : decode cX4_init 41 = .ok (.return_, 1) := by decide +kernel
theorem dX4_head_0 : decode cX4_head 0 = .ok (.aload_n 0, 1) := by decide +kernel
theorem dX4_head_1 : decode cX4_head 1 = .ok (.getfield 11, 3) := by decide +kernel
theorem dX4_head_4 : decode cX4_head 4 = .ok (.aload_n 0, 1) := by decide +kernel
theorem dX4_head_5 : decode cX4_head 5 = .ok (.getfield 20, 3) := by decide +kernel
theorem dX4_head_8 : decode cX4_head 8 = .ok (.aaload, 1) := by decide +kernel
theorem dX4_head_9 : decode cX4_head 9 = .ok (.areturn, 1) := by decide +kernel
theorem dX4_extend_0 : decode cX4_extend 0 = .ok (.aload_n 0, 1) := by decide +kernel
theorem dX4_extend_1 : decode cX4_extend 1 = .ok (.getfield 24, 3) := by decide +kernel
theorem dX4_extend_4 : decode cX4_extend 4 = .ok (.bipush 30, 2) := by decide +kernel
theorem dX4_extend_6 : decode cX4_extend 6 = .ok (.if_icmp .ge 13, 3) := by decide +kernel
theorem dX4_extend_9 : decode cX4_extend 9 = .ok (.aload_n 0, 1) := by decide +kernel
theorem dX4_extend_10 : decode cX4_extend 10 = .ok (.dup, 1) := by decide +kernel
theorem dX4_extend_11 : decode cX4_extend 11 = .ok (.getfield 24, 3) := by decide +kernel
theorem dX4_extend_14 : decode cX4_extend 14 = .ok (.iconst 1, 1) := by decide +kernel
theorem dX4_extend_15 : decode cX4_extend 15 = .ok (.iadd, 1) := by decide +kernel
theorem dX4_extend_16 : decode cX4_extend 16 = .ok (.putfield 24, 3) := by decide +kernel
theorem dX4_extend_19 : decode cX4_extend 19 = .ok (.aload_n 0, 1) := by decide +kernel
theorem dX4_extend_20 : decode cX4_extend 20 = .ok (.getfield 11, 3) := by decide +kernel
theorem dX4_extend_23 : decode cX4_extend 23 = .ok (.aload_n 0, 1) := by decide +kernel
theorem dX4_extend_24 : decode cX4_extend 24 = .ok (.getfield 20, 3) := by decide +kernel
theorem dX4_extend_27 : decode cX4_extend 27 = .ok (.aload_n 0, 1) := by decide +kernel
theorem dX4_extend_28 : decode cX4_extend 28 = .ok (.getfield 24, 3) := by decide +kernel
theorem dX4_extend_31 : decode cX4_extend 31 = .ok (.iadd, 1) := by decide +kernel
theorem dX4_extend_32 : decode cX4_extend 32 = .ok (.iconst 1, 1) := by decide +kernel
theorem dX4_extend_33 : decode cX4_extend 33 = .ok (.isub, 1) := by decide +kernel
theorem dX4_extend_34 : decode cX4_extend 34 = .ok (.bipush 30, 2) := by decide +kernel
theorem dX4_extend_36 : decode cX4_extend 36 = .ok (.irem, 1) := by decide +kernel
theorem dX4_extend_37 : decode cX4_extend 37 = .ok (.aaload, 1) := by decide +kernel
theorem dX4_extend_38 : decode cX4_extend 38 = .ok (.areturn, 1) := by decide +kernel
theorem dX4_dropFirst_0 : decode cX4_dropFirst 0 = .ok (.aload_n 0, 1) := by decide +kernel
theorem dX4_dropFirst_1 : decode cX4_dropFirst 1 = .ok (.getfield 24, 3) := by decide +kernel
theorem dX4_dropFirst_4 : decode cX4_dropFirst 4 = .ok (.ifCond .le 26, 3) := by decide +kernel
theorem dX4_dropFirst_7 : decode cX4_dropFirst 7 = .ok (.aload_n 0, 1) := by decide +kernel
theorem dX4_dropFirst_8 : decode cX4_dropFirst 8 = .ok (.aload_n 0, 1) := by decide +kernel
theorem dX4_dropFirst_9 : decode cX4_dropFirst 9 = .ok (.getfield 20, 3) := by decide +kernel
theorem dX4_dropFirst_12 : decode cX4_dropFirst 12 = .ok (.iconst 1, 1) := by decide +kernel
theorem dX4_dropFirst_13 : decode cX4_dropFirst 13 = .ok (.iadd, 1) := by decide +kernel
theorem dX4_dropFirst_14 : decode cX4_dropFirst 14 = .ok (.bipush 30, 2) := by decide +kernel
theorem dX4_dropFirst_16 : decode cX4_dropFirst 16 = .ok (.irem, 1) := by decide +kernel
theorem dX4_dropFirst_17 : decode cX4_dropFirst 17 = .ok (.putfield 20, 3) := by decide +kernel
theorem dX4_dropFirst_20 : decode cX4_dropFirst 20 = .ok (.aload_n 0, 1) := by decide +kernel
theorem dX4_dropFirst_21 : decode cX4_dropFirst 21 = .ok (.dup, 1) := by decide +kernel
theorem dX4_dropFirst_22 : decode cX4_dropFirst 22 = .ok (.getfield 24, 3) := by decide +kernel
theorem dX4_dropFirst_25 : decode cX4_dropFirst 25 = .ok (.iconst 1, 1) := by decide +kernel
theorem dX4_dropFirst_26 : decode cX4_dropFirst 26 = .ok (.isub, 1) := by decide +kernel
theorem dX4_dropFirst_27 : decode cX4_dropFirst 27 = .ok (.putfield 24, 3) := by decide +kernel
theorem dX4_dropFirst_30 : decode cX4_dropFirst 30 = .ok (.return_, 1) := by decide +kernel
theorem dX4_clear_0 : decode cX4_clear 0 = .ok (.aload_n 0, 1) := by decide +kernel
theorem dX4_clear_1 : decode cX4_clear 1 = .ok (.iconst 0, 1) := by decide +kernel
theorem dX4_clear_2 : decode cX4_clear 2 = .ok (.putfield 20, 3) := by decide +kernel
theorem dX4_clear_5 : decode cX4_clear 5 = .ok (.aload_n 0, 1) := by decide +kernel
theorem dX4_clear_6 : decode cX4_clear 6 = .ok (.iconst 0, 1) := by decide +kernel
theorem dX4_clear_7 : decode cX4_clear 7 = .ok (.putfield 24, 3) := by decide +kernel
theorem dX4_clear_10 : decode cX4_clear 10 = .ok (.return_, 1) := by decide +kernel
theorem dX4_copyFrom_0 : decode cX4_copyFrom 0 = .ok (.aload_n 0, 1) := by decide +kernel
theorem dX4_copyFrom_1 : decode cX4_copyFrom 1 = .ok (.iconst 0, 1) := by decide +kernel
theorem dX4_copyFrom_2 : decode cX4_copyFrom 2 = .ok (.putfield 20, 3) := by decide +kernel
theorem dX4_copyFrom_5 : decode cX4_copyFrom 5 = .ok (.aload_n 0, 1) := by decide +kernel
theorem dX4_copyFrom_6 : decode cX4_copyFrom 6 = .ok (.aload_n 1, 1) := by decide +kernel
theorem dX4_copyFrom_7 : decode cX4_copyFrom 7 = .ok (.getfield 24, 3) := by decide +kernel
theorem dX4_copyFrom_10 : decode cX4_copyFrom 10 = .ok (.putfield 24, 3) := by decide +kernel
theorem dX4_copyFrom_13 : decode cX4_copyFrom 13 = .ok (.iconst 0, 1) := by decide +kernel
theorem dX4_copyFrom_14 : decode cX4_copyFrom 14 = .ok (.istore_n 2, 1) := by decide +kernel
theorem dX4_copyFrom_15 : decode cX4_copyFrom 15 = .ok (.iload_n 2, 1) := by decide +kernel
theorem dX4_copyFrom_16 : decode cX4_copyFrom 16 = .ok (.aload_n 0, 1) := by decide +kernel
theorem dX4_copyFrom_17 : decode cX4_copyFrom 17 = .ok (.getfield 24, 3) := by decide +kernel
theorem dX4_copyFrom_20 : decode cX4_copyFrom 20 = .ok (.if_icmp .ge 38, 3) := by decide +kernel
theorem dX4_copyFrom_23 : decode cX4_copyFrom 23 = .ok (.iload_n 2, 1) := by decide +kernel
theorem dX4_copyFrom_24 : decode cX4_copyFrom 24 = .ok (.bipush 30, 2) := by decide +kernel
theorem dX4_copyFrom_26 : decode cX4_copyFrom 26 = .ok (.if_icmp .ge 32, 3) := by decide +kernel
theorem dX4_copyFrom_29 : decode cX4_copyFrom 29 = .ok (.aload_n 0, 1) := by decide +kernel
theorem dX4_copyFrom_30 : decode cX4_copyFrom 30 = .ok (.getfield 11, 3) := by decide +kernel
theorem dX4_copyFrom_33 : decode cX4_copyFrom 33 = .ok (.iload_n 2, 1) := by decide +kernel
theorem dX4_copyFrom_34 : decode cX4_copyFrom 34 = .ok (.aaload, 1) := by decide +kernel
theorem dX4_copyFrom_35 : decode cX4_copyFrom 35 = .ok (.aload_n 1, 1) := by decide +kernel
theorem dX4_copyFrom_36 : decode cX4_copyFrom 36 = .ok (.getfield 11, 3) := by decide +kernel
theorem dX4_copyFrom_39 : decode cX4_copyFrom 39 = .ok (.aload_n 1, 1) := by decide +kernel
theorem dX4_copyFrom_40 : decode cX4_copyFrom 40 = .ok (.getfield 20, 3) := by decide +kernel
theorem dX4_copyFrom_43 : decode cX4_copyFrom 43 = .ok (.iload_n 2, 1) := by decide +kernel
theorem dX4_copyFrom_44 : decode cX4_copyFrom 44 = .ok (.iadd, 1) := by decide +kernel
theorem dX4_copyFrom_45 : decode cX4_copyFrom 45 = .ok (.bipush 30, 2) := by decide +kernel
theorem dX4_copyFrom_47 : decode cX4_copyFrom 47 = .ok (.irem, 1) := by decide +kernel
theorem dX4_copyFrom_48 : decode cX4_copyFrom 48 = .ok (.aaload, 1) := by decide +kernel
theorem dX4_copyFrom_49 : decode cX4_copyFrom 49 = .ok (.invokevirtual 27, 3) := by decide +kernel
theorem dX4_copyFrom_52 : decode cX4_copyFrom 52 = .ok (.iinc 2 1, 3) := by decide +kernel
theorem dX4_copyFrom_55 : decode cX4_copyFrom 55 = .ok (.goto (-40), 3) := by decide +kernel
theorem dX4_copyFrom_58 : decode cX4_copyFrom 58 = .ok (.return_, 1) := by decide +kernel
theorem dX5_init_0 : decode cX5_init 0 = .ok (.aload_n 0, 1) := by decide +kernel
theorem dX5_init_1 : decode cX5_init 1 = .ok (.invokespecial 3, 3) := by decide +kernel
theorem dX5_init_4 : decode cX5_init 4 = .ok (.aload_n 0, 1) := by decide +kernel
theorem dX5_init_5 : decode cX5_init 5 = .ok (.bipush 51, 2) := by decide +kernel
theorem dX5_init_7 : decode cX5_init 7 = .ok (.newarray .boolean, 2) := by decide +kernel
theorem dX5_init_9 : decode cX5_init 9 = .ok (.putfield 9, 3) := by decide +kernel
theorem dX5_init_12 : decode cX5_init 12 = .ok (.aload_n 0, 1) := by decide +kernel
theorem dX5_init_13 : decode cX5_init 13 = .ok (.bipush 6, 2) := by decide +kernel
theorem dX5_init_15 : decode cX5_init 15 = .ok (.anewarray 15, 3) := by decide +kernel
theorem dX5_init_18 : decode cX5_init 18 = .ok (.putfield 17, 3) := by decide +kernel
theorem dX5_init_21 : decode cX5_init 21 = .ok (.iconst 0, 1) := by decide +kernel
theorem dX5_init_22 : decode cX5_init 22 = .ok (.istore_n 2, 1) := by decide +kernel
theorem dX5_init_23 : decode cX5_init 23 = .ok (.iload_n 2, 1) := by decide +kernel
theorem dX5_init_24 : decode cX5_init 24 = .ok (.bipush 6, 2) := by decide +kernel
theorem dX5_init_26 : decode cX5_init 26 = .ok (.if_icmp .ge 23, 3) := by decide +kernel
theorem dX5_init_29 : decode cX5_init 29 = .ok (.aload_n 0, 1) := by decide +kernel
theorem dX5_init_30 : decode cX5_init 30 = .ok (.getfield 17, 3) := by decide +kernel
theorem dX5_init_33 : decode cX5_init 33 = .ok (.iload_n 2, 1) := by decide +kernel
theorem dX5_init_34 : decode cX5_init 34 = .ok (.new 15, 3) := by decide +kernel
theorem dX5_init_37 : decode cX5_init 37 = .ok (.dup, 1) := by decide +kernel
theorem dX5_init_38 : decode cX5_init 38 = .ok (.aload_n 1, 1) := by decide +kernel
theorem dX5_init_39 : decode cX5_init 39 = .ok (.invokespecial 21, 3) := by decide +kernel
theorem dX5_init_42 : decode cX5_init 42 = .ok (.aastore, 1) := by decide +kernel
theorem dX5_init_43 : decode cX5_init 43 = .ok (.iinc 2 1, 3) := by decide +kernel
theorem dX5_init_46 : decode cX5_init 46 = .ok (.goto (-23), 3) := by decide +kernel
theorem dX5_init_49 : decode cX5_init 49 = .ok (.aload_n 0, 1) := by decide +kernel
theorem dX5_init_50 : decode cX5_init 50 = .ok (.new 24, 3) := by decide +kernel
theorem dX5_init_53 : decode cX5_init 53 = .ok (.dup, 1) := by decide +kernel
theorem dX5_init_54 : decode cX5_init 54 = .ok (.iconst 5, 1) := by decide +kernel
theorem dX5_init_55 : decode cX5_init 55 = .ok (.aload_n 1, 1) := by decide +kernel
theorem dX5_init_56 : decode cX5_init 56 = .ok (.invokespecial 26, 3) := by decide +kernel
theorem dX5_init_59 : decode cX5_init 59 = .ok (.putfield 29, 3) := by decide +kernel
theorem dX5_init_62 : decode cX5_init 62 = .ok (.aload_n 0, 1) := by decide +kernel
theorem dX5_init_63 : decode cX5_init 63 = .ok (.new 24, 3) := by decide +kernel
theorem dX5_init_66 : decode cX5_init 66 = .ok (.dup, 1) := by decide +kernel
theorem dX5_init_67 : decode cX5_init 67 = .ok (.bipush 8, 2) := by decide +kernel
theorem dX5_init_69 : decode cX5_init 69 = .ok (.aload_n 1, 1) := by decide +kernel
theorem dX5_init_70 : decode cX5_init 70 = .ok (.invokespecial 26, 3) := by decide +kernel
theorem dX5_init_73 : decode cX5_init 73 = .ok (.putfield 33, 3) := by decide +kernel
theorem dX5_init_76 : decode cX5_init 76 = .ok (.return_, 1) := by decide +kernel
theorem dX5_begin_0 : decode cX5_begin 0 = .ok (.aload_n 0, 1) := by decide +kernel
theorem dX5_begin_1 : decode cX5_begin 1 = .ok (.invokevirtual 36, 3) := by decide +kernel
theorem dX5_begin_4 : decode cX5_begin 4 = .ok (.aload_n 0, 1) := by decide +kernel
theorem dX5_begin_5 : decode cX5_begin 5 = .ok (.iconst 1, 1) := by decide +kernel
theorem dX5_begin_6 : decode cX5_begin 6 = .ok (.putfield 39, 3) := by decide +kernel
theorem dX5_begin_9 : decode cX5_begin 9 = .ok (.aload_n 0, 1) := by decide +kernel
theorem dX5_begin_10 : decode cX5_begin 10 = .ok (.iload_n 1, 1) := by decide +kernel
theorem dX5_begin_11 : decode cX5_begin 11 = .ok (.putfield 43, 3) := by decide +kernel
theorem dX5_begin_14 : decode cX5_begin 14 = .ok (.return_, 1) := by decide +kernel
theorem dX5_clear_0 : decode cX5_clear 0 = .ok (.aload_n 0, 1) := by decide +kernel
theorem dX5_clear_1 : decode cX5_clear 1 = .ok (.iconst 0, 1) := by decide +kernel
theorem dX5_clear_2 : decode cX5_clear 2 = .ok (.putfield 39, 3) := by decide +kernel
theorem dX5_clear_5 : decode cX5_clear 5 = .ok (.aload_n 0, 1) := by decide +kernel
theorem dX5_clear_6 : decode cX5_clear 6 = .ok (.iconst 0, 1) := by decide +kernel
theorem dX5_clear_7 : decode cX5_clear 7 = .ok (.putfield 43, 3) := by decide +kernel
theorem dX5_clear_10 : decode cX5_clear 10 = .ok (.aload_n 0, 1) := by decide +kernel
theorem dX5_clear_11 : decode cX5_clear 11 = .ok (.iconst 0, 1) := by decide +kernel
theorem dX5_clear_12 : decode cX5_clear 12 = .ok (.putfield 46, 3) := by decide +kernel
theorem dX5_clear_15 : decode cX5_clear 15 = .ok (.aload_n 0, 1) := by decide +kernel
theorem dX5_clear_16 : decode cX5_clear 16 = .ok (.iconst 1, 1) := by decide +kernel
theorem dX5_clear_17 : decode cX5_clear 17 = .ok (.putfield 50, 3) := by decide +kernel
theorem dX5_clear_20 : decode cX5_clear 20 = .ok (.iconst 0, 1) := by decide +kernel
theorem dX5_clear_21 : decode cX5_clear 21 = .ok (.istore_n 1, 1) := by decide +kernel
theorem dX5_clear_22 : decode cX5_clear 22 = .ok (.iload_n 1, 1) := by decide +kernel
theorem dX5_clear_23 : decode cX5_clear 23 = .ok (.aload_n 0, 1) := by decide +kernel
theorem dX5_clear_24 : decode cX5_clear 24 = .ok (.getfield 9, 3) := by decide +kernel
theorem dX5_clear_27 : decode cX5_clear 27 = .ok (.arraylength, 1) := by decide +kernel
theorem dX5_clear_28 : decode cX5_clear 28 = .ok (.if_icmp .ge 16, 3) := by decide +kernel
theorem dX5_clear_31 : decode cX5_clear 31 = .ok (.aload_n 0, 1) := by decide +kernel
theorem dX5_clear_32 : decode cX5_clear 32 = .ok (.getfield 9, 3) := by decide +kernel
theorem dX5_clear_35 : decode cX5_clear 35 = .ok (.iload_n 1, 1) := by decide +kernel
theorem dX5_clear_36 : decode cX5_clear 36 = .ok (.iconst 0, 1) := by decide +kernel
theorem dX5_clear_37 : decode cX5_clear 37 = .ok (.bastore, 1) := by decide +kernel
theorem dX5_clear_38 : decode cX5_clear 38 = .ok (.iinc 1 1, 3) := by decide +kernel
theorem dX5_clear_41 : decode cX5_clear 41 = .ok (.goto (-19), 3) := by decide +kernel
theorem dX5_clear_44 : decode cX5_clear 44 = .ok (.aload_n 0, 1) := by decide +kernel
theorem dX5_clear_45 : decode cX5_clear 45 = .ok (.iconst 0, 1) := by decide +kernel
theorem dX5_clear_46 : decode cX5_clear 46 = .ok (.putfield 53, 3) := by decide +kernel
theorem dX5_clear_49 : decode cX5_clear 49 = .ok (.aload_n 0, 1) := by decide +kernel
theorem dX5_clear_50 : decode cX5_clear 50 = .ok (.iconst 0, 1) := by decide +kernel
theorem dX5_clear_51 : decode cX5_clear 51 = .ok (.putfield 56, 3) := by decide +kernel
theorem dX5_clear_54 : decode cX5_clear 54 = .ok (.aload_n 0, 1) := by decide +kernel
theorem dX5_clear_55 : decode cX5_clear 55 = .ok (.getfield 29, 3) := by decide +kernel
theorem dX5_clear_58 : decode cX5_clear 58 = .ok (.iconst 0, 1) := by decide +kernel
theorem dX5_clear_59 : decode cX5_clear 59 = .ok (.putfield 59, 3) := by decide +kernel
theorem dX5_clear_62 : decode cX5_clear 62 = .ok (.aload_n 0, 1) := by decide +kernel
theorem dX5_clear_63 : decode cX5_clear 63 = .ok (.getfield 33, 3) := by decide +kernel
theorem dX5_clear_66 : decode cX5_clear 66 = .ok (.iconst 0, 1) := by decide +kernel
theorem dX5_clear_67 : decode cX5_clear 67 = .ok (.putfield 59, 3) := by decide +kernel
theorem dX5_clear_70 : decode cX5_clear 70 = .ok (.return_, 1) := by decide +kernel
theorem dX5_keeps_0 : decode cX5_keeps 0 = .ok (.iload_n 1, 1) := by decide +kernel
theorem dX5_keeps_1 : decode cX5_keeps 1 = .ok (.ifCond .lt 25, 3) := by decide +kernel
theorem dX5_keeps_4 : decode cX5_keeps 4 = .ok (.iload_n 1, 1) := by decide +kernel
theorem dX5_keeps_5 : decode cX5_keeps 5 = .ok (.aload_n 0, 1) := by decide +kernel
theorem dX5_keeps_6 : decode cX5_keeps 6 = .ok (.getfield 9, 3) := by decide +kernel
theorem dX5_keeps_9 : decode cX5_keeps 9 = .ok (.arraylength, 1) := by decide +kernel
theorem dX5_keeps_10 : decode cX5_keeps 10 = .ok (.if_icmp .ge 16, 3) := by decide +kernel
theorem dX5_keeps_13 : decode cX5_keeps 13 = .ok (.aload_n 0, 1) := by decide +kernel
theorem dX5_keeps_14 : decode cX5_keeps 14 = .ok (.getfield 9, 3) := by decide +kernel
theorem dX5_keeps_17 : decode cX5_keeps 17 = .ok (.iload_n 1, 1) := by decide +kernel
theorem dX5_keeps_18 : decode cX5_keeps 18 = .ok (.baload, 1) := by decide +kernel
theorem dX5_keeps_19 : decode cX5_keeps 19 = .ok (.ifCond .eq 7, 3) := by decide +kernel
theorem dX5_keeps_22 : decode cX5_keeps 22 = .ok (.iconst 1, 1) := by decide +kernel
theorem dX5_keeps_23 : decode cX5_keeps 23 = .ok (.goto 4, 3) := by decide +kernel
theorem dX5_keeps_26 : decode cX5_keeps 26 = .ok (.iconst 0, 1) := by decide +kernel
theorem dX5_keeps_27 : decode cX5_keeps 27 = .ok (.ireturn, 1) := by decide +kernel
theorem dX5_keep_0 : decode cX5_keep 0 = .ok (.iload_n 1, 1) := by decide +kernel
theorem dX5_keep_1 : decode cX5_keep 1 = .ok (.ifCond .lt 38, 3) := by decide +kernel
theorem dX5_keep_4 : decode cX5_keep 4 = .ok (.iload_n 1, 1) := by decide +kernel
theorem dX5_keep_5 : decode cX5_keep 5 = .ok (.aload_n 0, 1) := by decide +kernel
theorem dX5_keep_6 : decode cX5_keep 6 = .ok (.getfield 9, 3) := by decide +kernel
theorem dX5_keep_9 : decode cX5_keep 9 = .ok (.arraylength, 1) := by decide +kernel
theorem dX5_keep_10 : decode cX5_keep 10 = .ok (.if_icmp .ge 29, 3) := by decide +kernel
theorem dX5_keep_13 : decode cX5_keep 13 = .ok (.aload_n 0, 1) := by decide +kernel
theorem dX5_keep_14 : decode cX5_keep 14 = .ok (.getfield 9, 3) := by decide +kernel
theorem dX5_keep_17 : decode cX5_keep 17 = .ok (.iload_n 1, 1) := by decide +kernel
theorem dX5_keep_18 : decode cX5_keep 18 = .ok (.baload, 1) := by decide +kernel
theorem dX5_keep_19 : decode cX5_keep 19 = .ok (.ifCond .ne 20, 3) := by decide +kernel
theorem dX5_keep_22 : decode cX5_keep 22 = .ok (.aload_n 0, 1) := by decide +kernel
theorem dX5_keep_23 : decode cX5_keep 23 = .ok (.getfield 9, 3) := by decide +kernel
theorem dX5_keep_26 : decode cX5_keep 26 = .ok (.iload_n 1, 1) := by decide +kernel
theorem dX5_keep_27 : decode cX5_keep 27 = .ok (.iconst 1, 1) := by decide +kernel
theorem dX5_keep_28 : decode cX5_keep 28 = .ok (.bastore, 1) := by decide +kernel
theorem dX5_keep_29 : decode cX5_keep 29 = .ok (.aload_n 0, 1) := by decide +kernel
theorem dX5_keep_30 : decode cX5_keep 30 = .ok (.dup, 1) := by decide +kernel
theorem dX5_keep_31 : decode cX5_keep 31 = .ok (.getfield 53, 3) := by decide +kernel
theorem dX5_keep_34 : decode cX5_keep 34 = .ok (.iconst 1, 1) := by decide +kernel
theorem dX5_keep_35 : decode cX5_keep 35 = .ok (.iadd, 1) := by decide +kernel
theorem dX5_keep_36 : decode cX5_keep 36 = .ok (.putfield 53, 3) := by decide +kernel
theorem dX5_keep_39 : decode cX5_keep 39 = .ok (.return_, 1) := by decide +kernel
theorem dX5_forget_0 : decode cX5_forget 0 = .ok (.aload_n 0, 1) := by decide +kernel
theorem dX5_forget_1 : decode cX5_forget 1 = .ok (.iload_n 1, 1) := by decide +kernel
theorem dX5_forget_2 : decode cX5_forget 2 = .ok (.invokevirtual 62, 3) := by decide +kernel
theorem dX5_forget_5 : decode cX5_forget 5 = .ok (.ifCond .eq 20, 3) := by decide +kernel
theorem dX5_forget_8 : decode cX5_forget 8 = .ok (.aload_n 0, 1) := by decide +kernel
theorem dX5_forget_9 : decode cX5_forget 9 = .ok (.getfield 9, 3) := by decide +kernel
theorem dX5_forget_12 : decode cX5_forget 12 = .ok (.iload_n 1, 1) := by decide +kernel
theorem dX5_forget_13 : decode cX5_forget 13 = .ok (.iconst 0, 1) := by decide +kernel
theorem dX5_forget_14 : decode cX5_forget 14 = .ok (.bastore, 1) := by decide +kernel
theorem dX5_forget_15 : decode cX5_forget 15 = .ok (.aload_n 0, 1) := by decide +kernel
theorem dX5_forget_16 : decode cX5_forget 16 = .ok (.dup, 1) := by decide +kernel
theorem dX5_forget_17 : decode cX5_forget 17 = .ok (.getfield 53, 3) := by decide +kernel
theorem dX5_forget_20 : decode cX5_forget 20 = .ok (.iconst 1, 1) := by decide +kernel
theorem dX5_forget_21 : decode cX5_forget 21 = .ok (.isub, 1) := by decide +kernel
theorem dX5_forget_22 : decode cX5_forget 22 = .ok (.putfield 53, 3) := by decide +kernel
theorem dX5_forget_25 : decode cX5_forget 25 = .ok (.return_, 1) := by decide +kernel
theorem dX5_placeOf_0 : decode cX5_placeOf 0 = .ok (.iconst 0, 1) := by decide +kernel
theorem dX5_placeOf_1 : decode cX5_placeOf 1 = .ok (.istore_n 3, 1) := by decide +kernel
theorem dX5_placeOf_2 : decode cX5_placeOf 2 = .ok (.iload_n 3, 1) := by decide +kernel
theorem dX5_placeOf_3 : decode cX5_placeOf 3 = .ok (.aload_n 0, 1) := by decide +kernel
theorem dX5_placeOf_4 : decode cX5_placeOf 4 = .ok (.getfield 56, 3) := by decide +kernel
theorem dX5_placeOf_7 : decode cX5_placeOf 7 = .ok (.if_icmp .ge 46, 3) := by decide +kernel
theorem dX5_placeOf_10 : decode cX5_placeOf 10 = .ok (.iload_n 3, 1) := by decide +kernel
theorem dX5_placeOf_11 : decode cX5_placeOf 11 = .ok (.bipush 6, 2) := by decide +kernel
theorem dX5_placeOf_13 : decode cX5_placeOf 13 = .ok (.if_icmp .ge 40, 3) := by decide +kernel
theorem dX5_placeOf_16 : decode cX5_placeOf 16 = .ok (.aload_n 0, 1) := by decide +kernel
theorem dX5_placeOf_17 : decode cX5_placeOf 17 = .ok (.getfield 17, 3) := by decide +kernel
theorem dX5_placeOf_20 : decode cX5_placeOf 20 = .ok (.iload_n 3, 1) := by decide +kernel
theorem dX5_placeOf_21 : decode cX5_placeOf 21 = .ok (.aaload, 1) := by decide +kernel
theorem dX5_placeOf_22 : decode cX5_placeOf 22 = .ok (.getfield 66, 3) := by decide +kernel
theorem dX5_placeOf_25 : decode cX5_placeOf 25 = .ok (.iload_n 2, 1) := by decide +kernel
theorem dX5_placeOf_26 : decode cX5_placeOf 26 = .ok (.if_icmp .ne 21, 3) := by decide +kernel
theorem dX5_placeOf_29 : decode cX5_placeOf 29 = .ok (.aload_n 0, 1) := by decide +kernel
theorem dX5_placeOf_30 : decode cX5_placeOf 30 = .ok (.getfield 17, 3) := by decide +kernel
theorem dX5_placeOf_33 : decode cX5_placeOf 33 = .ok (.iload_n 3, 1) := by decide +kernel
theorem dX5_placeOf_34 : decode cX5_placeOf 34 = .ok (.aaload, 1) := by decide +kernel
theorem dX5_placeOf_35 : decode cX5_placeOf 35 = .ok (.getfield 69, 3) := by decide +kernel
theorem dX5_placeOf_38 : decode cX5_placeOf 38 = .ok (.aload_n 1, 1) := by decide +kernel
theorem dX5_placeOf_39 : decode cX5_placeOf 39 = .ok (.invokevirtual 73, 3) := by decide +kernel
theorem dX5_placeOf_42 : decode cX5_placeOf 42 = .ok (.ifCond .eq 5, 3) := by decide +kernel
theorem dX5_placeOf_45 : decode cX5_placeOf 45 = .ok (.iload_n 3, 1) := by decide +kernel
theorem dX5_placeOf_46 : decode cX5_placeOf 46 = .ok (.ireturn, 1) := by decide +kernel
theorem dX5_placeOf_47 : decode cX5_placeOf 47 = .ok (.iinc 3 1, 3) := by decide +kernel
theorem dX5_placeOf_50 : decode cX5_placeOf 50 = .ok (.goto (-48), 3) := by decide +kernel
theorem dX5_placeOf_53 : decode cX5_placeOf 53 = .ok (.iconst (-1), 1) := by decide +kernel
theorem dX5_placeOf_54 : decode cX5_placeOf 54 = .ok (.ireturn, 1) := by decide +kernel
theorem dX5_gradeOf_0 : decode cX5_gradeOf 0 = .ok (.aload_n 0, 1) := by decide +kernel
theorem dX5_gradeOf_1 : decode cX5_gradeOf 1 = .ok (.aload_n 1, 1) := by decide +kernel
theorem dX5_gradeOf_2 : decode cX5_gradeOf 2 = .ok (.iload_n 2, 1) := by decide +kernel
theorem dX5_gradeOf_3 : decode cX5_gradeOf 3 = .ok (.invokevirtual 79, 3) := by decide +kernel
theorem dX5_gradeOf_6 : decode cX5_gradeOf 6 = .ok (.istore_n 3, 1) := by decide +kernel
theorem dX5_gradeOf_7 : decode cX5_gradeOf 7 = .ok (.iload_n 3, 1) := by decide +kernel
theorem dX5_gradeOf_8 : decode cX5_gradeOf 8 = .ok (.ifCond .ge 7, 3) := by decide +kernel
theorem dX5_gradeOf_11 : decode cX5_gradeOf 11 = .ok (.iconst 0, 1) := by decide +kernel
theorem dX5_gradeOf_12 : decode cX5_gradeOf 12 = .ok (.goto 12, 3) := by decide +kernel
theorem dX5_gradeOf_15 : decode cX5_gradeOf 15 = .ok (.aload_n 0, 1) := by decide +kernel
theorem dX5_gradeOf_16 : decode cX5_gradeOf 16 = .ok (.getfield 17, 3) := by decide +kernel
theorem dX5_gradeOf_19 : decode cX5_gradeOf 19 = .ok (.iload_n 3, 1) := by decide +kernel
theorem dX5_gradeOf_20 : decode cX5_gradeOf 20 = .ok (.aaload, 1) := by decide +kernel
theorem dX5_gradeOf_21 : decode cX5_gradeOf 21 = .ok (.getfield 83, 3) := by decide +kernel
theorem dX5_gradeOf_24 : decode cX5_gradeOf 24 = .ok (.ireturn, 1) := by decide +kernel
theorem dX5_addSubscription_0 : decode cX5_addSubscription 0 = .ok (.aload_n 0, 1) := by decide +kernel
theorem dX5_addSubscription_1 : decode cX5_addSubscription 1 = .ok (.getfield 56, 3) := by decide +kernel
theorem dX5_addSubscription_4 : decode cX5_addSubscription 4 = .ok (.ifCond .lt 52, 3) := by decide +kernel
theorem dX5_addSubscription_7 : decode cX5_addSubscription 7 = .ok (.aload_n 0, 1) := by decide +kernel
theorem dX5_addSubscription_8 : decode cX5_addSubscription 8 = .ok (.getfield 56, 3) := by decide +kernel
theorem dX5_addSubscription_11 : decode cX5_addSubscription 11 = .ok (.bipush 6, 2) := by decide +kernel
theorem dX5_addSubscription_13 : decode cX5_addSubscription 13 = .ok (.if_icmp .ge 43, 3) := by decide +kernel
theorem dX5_addSubscription_16 : decode cX5_addSubscription 16 = .ok (.aload_n 0, 1) := by decide +kernel
theorem dX5_addSubscription_17 : decode cX5_addSubscription 17 = .ok (.getfield 17, 3) := by decide +kernel
theorem dX5_addSubscription_20 : decode cX5_addSubscription 20 = .ok (.aload_n 0, 1) := by decide +kernel
theorem dX5_addSubscription_21 : decode cX5_addSubscription 21 = .ok (.getfield 56, 3) := by decide +kernel
theorem dX5_addSubscription_24 : decode cX5_addSubscription 24 = .ok (.aaload, 1) := by decide +kernel
theorem dX5_addSubscription_25 : decode cX5_addSubscription 25 = .ok (.astore_n 3, 1) := by decide +kernel
theorem dX5_addSubscription_26 : decode cX5_addSubscription 26 = .ok (.aload_n 3, 1) := by decide +kernel
theorem dX5_addSubscription_27 : decode cX5_addSubscription 27 = .ok (.aload_n 1, 1) := by decide +kernel
theorem dX5_addSubscription_28 : decode cX5_addSubscription 28 = .ok (.putfield 69, 3) := by decide +kernel
theorem dX5_addSubscription_31 : decode cX5_addSubscription 31 = .ok (.aload_n 3, 1) := by decide +kernel
theorem dX5_addSubscription_32 : decode cX5_addSubscription 32 = .ok (.iload_n 2, 1) := by decide +kernel
theorem dX5_addSubscription_33 : decode cX5_addSubscription 33 = .ok (.putfield 66, 3) := by decide +kernel
theorem dX5_addSubscription_36 : decode cX5_addSubscription 36 = .ok (.aload_n 3, 1) := by decide +kernel
theorem dX5_addSubscription_37 : decode cX5_addSubscription 37 = .ok (.iconst 0, 1) := by decide +kernel
theorem dX5_addSubscription_38 : decode cX5_addSubscription 38 = .ok (.putfield 83, 3) := by decide +kernel
theorem dX5_addSubscription_41 : decode cX5_addSubscription 41 = .ok (.aload_n 3, 1) := by decide +kernel
theorem dX5_addSubscription_42 : decode cX5_addSubscription 42 = .ok (.iconst 0, 1) := by decide +kernel
theorem dX5_addSubscription_43 : decode cX5_addSubscription 43 = .ok (.putfield 86, 3) := by decide +kernel
theorem dX5_addSubscription_46 : decode cX5_addSubscription 46 = .ok (.aload_n 0, 1) := by decide +kernel
theorem dX5_addSubscription_47 : decode cX5_addSubscription 47 = .ok (.dup, 1) := by decide +kernel
theorem dX5_addSubscription_48 : decode cX5_addSubscription 48 = .ok (.getfield 56, 3) := by decide +kernel
theorem dX5_addSubscription_51 : decode cX5_addSubscription 51 = .ok (.iconst 1, 1) := by decide +kernel
theorem dX5_addSubscription_52 : decode cX5_addSubscription 52 = .ok (.iadd, 1) := by decide +kernel
theorem dX5_addSubscription_53 : decode cX5_addSubscription 53 = .ok (.putfield 56, 3) := by decide +kernel
theorem dX5_addSubscription_56 : decode cX5_addSubscription 56 = .ok (.return_, 1) := by decide +kernel
theorem dX5_removeSubscriptionAt_0 : decode cX5_removeSubscriptionAt 0 = .ok (.iload_n 1, 1) := by decide +kernel
theorem dX5_removeSubscriptionAt_1 : decode cX5_removeSubscriptionAt 1 = .ok (.ifCond .lt 20, 3) := by decide +kernel
theorem dX5_removeSubscriptionAt_4 : decode cX5_removeSubscriptionAt 4 = .ok (.iload_n 1, 1) := by decide +kernel
theorem dX5_removeSubscriptionAt_5 : decode cX5_removeSubscriptionAt 5 = .ok (.aload_n 0, 1) := by decide +kernel
theorem dX5_removeSubscriptionAt_6 : decode cX5_removeSubscriptionAt 6 = .ok (.getfield 56, 3) := by decide +kernel
theorem dX5_removeSubscriptionAt_9 : decode cX5_removeSubscriptionAt 9 = .ok (.if_icmp .ge 12, 3) := by decide +kernel
theorem dX5_removeSubscriptionAt_12 : decode cX5_removeSubscriptionAt 12 = .ok (.aload_n 0, 1) := by decide +kernel
theorem dX5_removeSubscriptionAt_13 : decode cX5_removeSubscriptionAt 13 = .ok (.getfield 56, 3) := by decide +kernel
theorem dX5_removeSubscriptionAt_16 : decode cX5_removeSubscriptionAt 16 = .ok (.bipush 6, 2) := by decide +kernel
theorem dX5_removeSubscriptionAt_18 : decode cX5_removeSubscriptionAt 18 = .ok (.if_icmp .le 4, 3) := by decide +kernel
theorem dX5_removeSubscriptionAt_21 : decode cX5_removeSubscriptionAt 21 = .ok (.return_, 1) := by decide +kernel
theorem dX5_removeSubscriptionAt_22 : decode cX5_removeSubscriptionAt 22 = .ok (.aload_n 0, 1) := by decide +kernel
theorem dX5_removeSubscriptionAt_23 : decode cX5_removeSubscriptionAt 23 = .ok (.getfield 17, 3) := by decide +kernel
theorem dX5_removeSubscriptionAt_26 : decode cX5_removeSubscriptionAt 26 = .ok (.iload_n 1, 1) := by decide +kernel
theorem dX5_removeSubscriptionAt_27 : decode cX5_removeSubscriptionAt 27 = .ok (.aaload, 1) := by decide +kernel
theorem dX5_removeSubscriptionAt_28 : decode cX5_removeSubscriptionAt 28 = .ok (.astore_n 2, 1) := by decide +kernel
theorem dX5_removeSubscriptionAt_29 : decode cX5_removeSubscriptionAt 29 = .ok (.iload_n 1, 1) := by decide +kernel
theorem dX5_removeSubscriptionAt_30 : decode cX5_removeSubscriptionAt 30 = .ok (.istore_n 3, 1) := by decide +kernel
theorem dX5_removeSubscriptionAt_31 : decode cX5_removeSubscriptionAt 31 = .ok (.iload_n 3, 1) := by decide +kernel
theorem dX5_removeSubscriptionAt_32 : decode cX5_removeSubscriptionAt 32 = .ok (.iconst 1, 1) := by decide +kernel
theorem dX5_removeSubscriptionAt_33 : decode cX5_removeSubscriptionAt 33 = .ok (.iadd, 1) := by decide +kernel
theorem dX5_removeSubscriptionAt_34 : decode cX5_removeSubscriptionAt 34 = .ok (.aload_n 0, 1) := by decide +kernel
theorem dX5_removeSubscriptionAt_35 : decode cX5_removeSubscriptionAt 35 = .ok (.getfield 56, 3) := by decide +kernel
theorem dX5_removeSubscriptionAt_38 : decode cX5_removeSubscriptionAt 38 = .ok (.if_icmp .ge 23, 3) := by decide +kernel
theorem dX5_removeSubscriptionAt_41 : decode cX5_removeSubscriptionAt 41 = .ok (.aload_n 0, 1) := by decide +kernel
theorem dX5_removeSubscriptionAt_42 : decode cX5_removeSubscriptionAt 42 = .ok (.getfield 17, 3) := by decide +kernel
theorem dX5_removeSubscriptionAt_45 : decode cX5_removeSubscriptionAt 45 = .ok (.iload_n 3, 1) := by decide +kernel
theorem dX5_removeSubscriptionAt_46 : decode cX5_removeSubscriptionAt 46 = .ok (.aload_n 0, 1) := by decide +kernel
theorem dX5_removeSubscriptionAt_47 : decode cX5_removeSubscriptionAt 47 = .ok (.getfield 17, 3) := by decide +kernel
theorem dX5_removeSubscriptionAt_50 : decode cX5_removeSubscriptionAt 50 = .ok (.iload_n 3, 1) := by decide +kernel
theorem dX5_removeSubscriptionAt_51 : decode cX5_removeSubscriptionAt 51 = .ok (.iconst 1, 1) := by decide +kernel
theorem dX5_removeSubscriptionAt_52 : decode cX5_removeSubscriptionAt 52 = .ok (.iadd, 1) := by decide +kernel
theorem dX5_removeSubscriptionAt_53 : decode cX5_removeSubscriptionAt 53 = .ok (.aaload, 1) := by decide +kernel
theorem dX5_removeSubscriptionAt_54 : decode cX5_removeSubscriptionAt 54 = .ok (.aastore, 1) := by decide +kernel
theorem dX5_removeSubscriptionAt_55 : decode cX5_removeSubscriptionAt 55 = .ok (.iinc 3 1, 3) := by decide +kernel
theorem dX5_removeSubscriptionAt_58 : decode cX5_removeSubscriptionAt 58 = .ok (.goto (-27), 3) := by decide +kernel
theorem dX5_removeSubscriptionAt_61 : decode cX5_removeSubscriptionAt 61 = .ok (.aload_n 0, 1) := by decide +kernel
theorem dX5_removeSubscriptionAt_62 : decode cX5_removeSubscriptionAt 62 = .ok (.getfield 17, 3) := by decide +kernel
theorem dX5_removeSubscriptionAt_65 : decode cX5_removeSubscriptionAt 65 = .ok (.aload_n 0, 1) := by decide +kernel
theorem dX5_removeSubscriptionAt_66 : decode cX5_removeSubscriptionAt 66 = .ok (.getfield 56, 3) := by decide +kernel
theorem dX5_removeSubscriptionAt_69 : decode cX5_removeSubscriptionAt 69 = .ok (.iconst 1, 1) := by decide +kernel
theorem dX5_removeSubscriptionAt_70 : decode cX5_removeSubscriptionAt 70 = .ok (.isub, 1) := by decide +kernel
theorem dX5_removeSubscriptionAt_71 : decode cX5_removeSubscriptionAt 71 = .ok (.aload_n 2, 1) := by decide +kernel
theorem dX5_removeSubscriptionAt_72 : decode cX5_removeSubscriptionAt 72 = .ok (.aastore, 1) := by decide +kernel
theorem dX5_removeSubscriptionAt_73 : decode cX5_removeSubscriptionAt 73 = .ok (.aload_n 0, 1) := by decide +kernel
theorem dX5_removeSubscriptionAt_74 : decode cX5_removeSubscriptionAt 74 = .ok (.dup, 1) := by decide +kernel
theorem dX5_removeSubscriptionAt_75 : decode cX5_removeSubscriptionAt 75 = .ok (.getfield 56, 3) := by decide +kernel
theorem dX5_removeSubscriptionAt_78 : decode cX5_removeSubscriptionAt 78 = .ok (.iconst 1, 1) := by decide +kernel
theorem dX5_removeSubscriptionAt_79 : decode cX5_removeSubscriptionAt 79 = .ok (.isub, 1) := by decide +kernel
theorem dX5_removeSubscriptionAt_80 : decode cX5_removeSubscriptionAt 80 = .ok (.putfield 56, 3) := by decide +kernel
theorem dX5_removeSubscriptionAt_83 : decode cX5_removeSubscriptionAt 83 = .ok (.return_, 1) := by decide +kernel
theorem dX5_greatestGrade_0 : decode cX5_greatestGrade 0 = .ok (.iconst (-1), 1) := by decide +kernel
theorem dX5_greatestGrade_1 : decode cX5_greatestGrade 1 = .ok (.istore_n 3, 1) := by decide +kernel
theorem dX5_greatestGrade_2 : decode cX5_greatestGrade 2 = .ok (.iconst 0, 1) := by decide +kernel
theorem dX5_greatestGrade_3 : decode cX5_greatestGrade 3 = .ok (.istore 4, 2) := by decide +kernel
theorem dX5_greatestGrade_5 : decode cX5_greatestGrade 5 = .ok (.iload 4, 2) := by decide +kernel
theorem dX5_greatestGrade_7 : decode cX5_greatestGrade 7 = .ok (.aload_n 0, 1) := by decide +kernel
theorem dX5_greatestGrade_8 : decode cX5_greatestGrade 8 = .ok (.getfield 56, 3) := by decide +kernel
theorem dX5_greatestGrade_11 : decode cX5_greatestGrade 11 = .ok (.if_icmp .ge 81, 3) := by decide +kernel
theorem dX5_greatestGrade_14 : decode cX5_greatestGrade 14 = .ok (.iload 4, 2) := by decide +kernel
theorem dX5_greatestGrade_16 : decode cX5_greatestGrade 16 = .ok (.bipush 6, 2) := by decide +kernel
theorem dX5_greatestGrade_18 : decode cX5_greatestGrade 18 = .ok (.if_icmp .ge 74, 3) := by decide +kernel
theorem dX5_greatestGrade_21 : decode cX5_greatestGrade 21 = .ok (.aload_n 0, 1) := by decide +kernel
theorem dX5_greatestGrade_22 : decode cX5_greatestGrade 22 = .ok (.getfield 17, 3) := by decide +kernel
theorem dX5_greatestGrade_25 : decode cX5_greatestGrade 25 = .ok (.iload 4, 2) := by decide +kernel
theorem dX5_greatestGrade_27 : decode cX5_greatestGrade 27 = .ok (.aaload, 1) := by decide +kernel
theorem dX5_greatestGrade_28 : decode cX5_greatestGrade 28 = .ok (.astore 5, 2) := by decide +kernel
theorem dX5_greatestGrade_30 : decode cX5_greatestGrade 30 = .ok (.iload_n 2, 1) := by decide +kernel
theorem dX5_greatestGrade_31 : decode cX5_greatestGrade 31 = .ok (.ifCond .eq 17, 3) := by decide +kernel
theorem dX5_greatestGrade_34 : decode cX5_greatestGrade 34 = .ok (.aload 5, 2) := by decide +kernel
theorem dX5_greatestGrade_36 : decode cX5_greatestGrade 36 = .ok (.getfield 86, 3) := by decide +kernel
theorem dX5_greatestGrade_39 : decode cX5_greatestGrade 39 = .ok (.iconst 1, 1) := by decide +kernel
theorem dX5_greatestGrade_40 : decode cX5_greatestGrade 40 = .ok (.iand, 1) := by decide +kernel
theorem dX5_greatestGrade_41 : decode cX5_greatestGrade 41 = .ok (.ifCond .eq 7, 3) := by decide +kernel
theorem dX5_greatestGrade_44 : decode cX5_greatestGrade 44 = .ok (.iconst 1, 1) := by decide +kernel
theorem dX5_greatestGrade_45 : decode cX5_greatestGrade 45 = .ok (.goto 4, 3) := by decide +kernel
theorem dX5_greatestGrade_48 : decode cX5_greatestGrade 48 = .ok (.iconst 0, 1) := by decide +kernel
theorem dX5_greatestGrade_49 : decode cX5_greatestGrade 49 = .ok (.istore 6, 2) := by decide +kernel
theorem dX5_greatestGrade_51 : decode cX5_greatestGrade 51 = .ok (.aload 5, 2) := by decide +kernel
theorem dX5_greatestGrade_53 : decode cX5_greatestGrade 53 = .ok (.getfield 66, 3) := by decide +kernel
theorem dX5_greatestGrade_56 : decode cX5_greatestGrade 56 = .ok (.ifCond .ne 30, 3) := by decide +kernel
theorem dX5_greatestGrade_59 : decode cX5_greatestGrade 59 = .ok (.iload 6, 2) := by decide +kernel
theorem dX5_greatestGrade_61 : decode cX5_greatestGrade 61 = .ok (.ifCond .ne 25, 3) := by decide +kernel
theorem dX5_greatestGrade_64 : decode cX5_greatestGrade 64 = .ok (.aload 5, 2) := by decide +kernel
theorem dX5_greatestGrade_66 : decode cX5_greatestGrade 66 = .ok (.getfield 69, 3) := by decide +kernel
theorem dX5_greatestGrade_69 : decode cX5_greatestGrade 69 = .ok (.aload_n 1, 1) := by decide +kernel
theorem dX5_greatestGrade_70 : decode cX5_greatestGrade 70 = .ok (.invokevirtual 89, 3) := by decide +kernel
theorem dX5_greatestGrade_73 : decode cX5_greatestGrade 73 = .ok (.ifCond .eq 13, 3) := by decide +kernel
theorem dX5_greatestGrade_76 : decode cX5_greatestGrade 76 = .ok (.iload_n 3, 1) := by decide +kernel
theorem dX5_greatestGrade_77 : decode cX5_greatestGrade 77 = .ok (.aload 5, 2) := by decide +kernel
theorem dX5_greatestGrade_79 : decode cX5_greatestGrade 79 = .ok (.getfield 83, 3) := by decide +kernel
theorem dX5_greatestGrade_82 : decode cX5_greatestGrade 82 = .ok (.invokestatic 92, 3) := by decide +kernel
theorem dX5_greatestGrade_85 : decode cX5_greatestGrade 85 = .ok (.istore_n 3, 1) := by decide +kernel
theorem dX5_greatestGrade_86 : decode cX5_greatestGrade 86 = .ok (.iinc 4 1, 3) := by decide +kernel
theorem dX5_greatestGrade_89 : decode cX5_greatestGrade 89 = .ok (.goto (-84), 3) := by decide +kernel
theorem dX5_greatestGrade_92 : decode cX5_greatestGrade 92 = .ok (.iload_n 3, 1) := by decide +kernel
theorem dX5_greatestGrade_93 : decode cX5_greatestGrade 93 = .ok (.ireturn, 1) := by decide +kernel
theorem dX5_stepIdentifier_0 : decode cX5_stepIdentifier 0 = .ok (.iconst 0, 1) := by decide +kernel
theorem dX5_stepIdentifier_1 : decode cX5_stepIdentifier 1 = .ok (.istore_n 1, 1) := by decide +kernel
theorem dX5_stepIdentifier_2 : decode cX5_stepIdentifier 2 = .ok (.iload_n 1, 1) := by decide +kernel
theorem dX5_stepIdentifier_3 : decode cX5_stepIdentifier 3 = .ok (.bipush 50, 2) := by decide +kernel
theorem dX5_stepIdentifier_5 : decode cX5_stepIdentifier 5 = .ok (.if_icmp .ge 47, 3) := by decide +kernel
theorem dX5_stepIdentifier_8 : decode cX5_stepIdentifier 8 = .ok (.aload_n 0, 1) := by decide +kernel
theorem dX5_stepIdentifier_9 : decode cX5_stepIdentifier 9 = .ok (.aload_n 0, 1) := by decide +kernel
theorem dX5_stepIdentifier_10 : decode cX5_stepIdentifier 10 = .ok (.getfield 50, 3) := by decide +kernel
theorem dX5_stepIdentifier_13 : decode cX5_stepIdentifier 13 = .ok (.bipush 50, 2) := by decide +kernel
theorem dX5_stepIdentifier_15 : decode cX5_stepIdentifier 15 = .ok (.if_icmp .lt 7, 3) := by decide +kernel
theorem dX5_stepIdentifier_18 : decode cX5_stepIdentifier 18 = .ok (.iconst 1, 1) := by decide +kernel
theorem dX5_stepIdentifier_19 : decode cX5_stepIdentifier 19 = .ok (.goto 9, 3) := by decide +kernel
theorem dX5_stepIdentifier_22 : decode cX5_stepIdentifier 22 = .ok (.aload_n 0, 1) := by decide +kernel
theorem dX5_stepIdentifier_23 : decode cX5_stepIdentifier 23 = .ok (.getfield 50, 3) := by decide +kernel
theorem dX5_stepIdentifier_26 : decode cX5_stepIdentifier 26 = .ok (.iconst 1, 1) := by decide +kernel
theorem dX5_stepIdentifier_27 : decode cX5_stepIdentifier 27 = .ok (.iadd, 1) := by decide +kernel
theorem dX5_stepIdentifier_28 : decode cX5_stepIdentifier 28 = .ok (.putfield 50, 3) := by decide +kernel
theorem dX5_stepIdentifier_31 : decode cX5_stepIdentifier 31 = .ok (.aload_n 0, 1) := by decide +kernel
theorem dX5_stepIdentifier_32 : decode cX5_stepIdentifier 32 = .ok (.getfield 29, 3) := by decide +kernel
theorem dX5_stepIdentifier_35 : decode cX5_stepIdentifier 35 = .ok (.aload_n 0, 1) := by decide +kernel
theorem dX5_stepIdentifier_36 : decode cX5_stepIdentifier 36 = .ok (.getfield 50, 3) := by decide +kernel
theorem dX5_stepIdentifier_39 : decode cX5_stepIdentifier 39 = .ok (.invokevirtual 98, 3) := by decide +kernel
theorem dX5_stepIdentifier_42 : decode cX5_stepIdentifier 42 = .ok (.ifCond .ge 4, 3) := by decide +kernel
theorem dX5_stepIdentifier_45 : decode cX5_stepIdentifier 45 = .ok (.return_, 1) := by decide +kernel
theorem dX5_stepIdentifier_46 : decode cX5_stepIdentifier 46 = .ok (.iinc 1 1, 3) := by decide +kernel
theorem dX5_stepIdentifier_49 : decode cX5_stepIdentifier 49 = .ok (.goto (-47), 3) := by decide +kernel
theorem dX5_stepIdentifier_52 : decode cX5_stepIdentifier 52 = .ok (.return_, 1) := by decide +kernel
theorem dX5_copyFrom_0 : decode cX5_copyFrom 0 = .ok (.aload_n 0, 1) := by decide +kernel
theorem dX5_copyFrom_1 : decode cX5_copyFrom 1 = .ok (.aload_n 1, 1) := by decide +kernel
theorem dX5_copyFrom_2 : decode cX5_copyFrom 2 = .ok (.getfield 39, 3) := by decide +kernel
theorem dX5_copyFrom_5 : decode cX5_copyFrom 5 = .ok (.putfield 39, 3) := by decide +kernel
theorem dX5_copyFrom_8 : decode cX5_copyFrom 8 = .ok (.aload_n 0, 1) := by decide +kernel
theorem dX5_copyFrom_9 : decode cX5_copyFrom 9 = .ok (.aload_n 1, 1) := by decide +kernel
theorem dX5_copyFrom_10 : decode cX5_copyFrom 10 = .ok (.getfield 43, 3) := by decide +kernel
theorem dX5_copyFrom_13 : decode cX5_copyFrom 13 = .ok (.putfield 43, 3) := by decide +kernel
theorem dX5_copyFrom_16 : decode cX5_copyFrom 16 = .ok (.aload_n 0, 1) := by decide +kernel
theorem dX5_copyFrom_17 : decode cX5_copyFrom 17 = .ok (.aload_n 1, 1) := by decide +kernel
theorem dX5_copyFrom_18 : decode cX5_copyFrom 18 = .ok (.getfield 46, 3) := by decide +kernel
theorem dX5_copyFrom_21 : decode cX5_copyFrom 21 = .ok (.putfield 46, 3) := by decide +kernel
theorem dX5_copyFrom_24 : decode cX5_copyFrom 24 = .ok (.aload_n 0, 1) := by decide +kernel
theorem dX5_copyFrom_25 : decode cX5_copyFrom 25 = .ok (.aload_n 1, 1) := by decide +kernel
theorem dX5_copyFrom_26 : decode cX5_copyFrom 26 = .ok (.getfield 50, 3) := by decide +kernel
theorem dX5_copyFrom_29 : decode cX5_copyFrom 29 = .ok (.putfield 50, 3) := by decide +kernel
theorem dX5_copyFrom_32 : decode cX5_copyFrom 32 = .ok (.iconst 0, 1) := by decide +kernel
theorem dX5_copyFrom_33 : decode cX5_copyFrom 33 = .ok (.istore_n 2, 1) := by decide +kernel
theorem dX5_copyFrom_34 : decode cX5_copyFrom 34 = .ok (.iload_n 2, 1) := by decide +kernel
theorem dX5_copyFrom_35 : decode cX5_copyFrom 35 = .ok (.aload_n 0, 1) := by decide +kernel
theorem dX5_copyFrom_36 : decode cX5_copyFrom 36 = .ok (.getfield 9, 3) := by decide +kernel
theorem dX5_copyFrom_39 : decode cX5_copyFrom 39 = .ok (.arraylength, 1) := by decide +kernel
theorem dX5_copyFrom_40 : decode cX5_copyFrom 40 = .ok (.if_icmp .ge 21, 3) := by decide +kernel
theorem dX5_copyFrom_43 : decode cX5_copyFrom 43 = .ok (.aload_n 0, 1) := by decide +kernel
theorem dX5_copyFrom_44 : decode cX5_copyFrom 44 = .ok (.getfield 9, 3) := by decide +kernel
theorem dX5_copyFrom_47 : decode cX5_copyFrom 47 = .ok (.iload_n 2, 1) := by decide +kernel
theorem dX5_copyFrom_48 : decode cX5_copyFrom 48 = .ok (.aload_n 1, 1) := by decide +kernel
theorem dX5_copyFrom_49 : decode cX5_copyFrom 49 = .ok (.getfield 9, 3) := by decide +kernel
theorem dX5_copyFrom_52 : decode cX5_copyFrom 52 = .ok (.iload_n 2, 1) := by decide +kernel
theorem dX5_copyFrom_53 : decode cX5_copyFrom 53 = .ok (.baload, 1) := by decide +kernel
theorem dX5_copyFrom_54 : decode cX5_copyFrom 54 = .ok (.bastore, 1) := by decide +kernel
theorem dX5_copyFrom_55 : decode cX5_copyFrom 55 = .ok (.iinc 2 1, 3) := by decide +kernel
theorem dX5_copyFrom_58 : decode cX5_copyFrom 58 = .ok (.goto (-24), 3) := by decide +kernel
theorem dX5_copyFrom_61 : decode cX5_copyFrom 61 = .ok (.aload_n 0, 1) := by decide +kernel
theorem dX5_copyFrom_62 : decode cX5_copyFrom 62 = .ok (.aload_n 1, 1) := by decide +kernel
theorem dX5_copyFrom_63 : decode cX5_copyFrom 63 = .ok (.getfield 53, 3) := by decide +kernel
theorem dX5_copyFrom_66 : decode cX5_copyFrom 66 = .ok (.putfield 53, 3) := by decide +kernel
theorem dX5_copyFrom_69 : decode cX5_copyFrom 69 = .ok (.aload_n 0, 1) := by decide +kernel
theorem dX5_copyFrom_70 : decode cX5_copyFrom 70 = .ok (.aload_n 1, 1) := by decide +kernel
theorem dX5_copyFrom_71 : decode cX5_copyFrom 71 = .ok (.getfield 56, 3) := by decide +kernel
theorem dX5_copyFrom_74 : decode cX5_copyFrom 74 = .ok (.putfield 56, 3) := by decide +kernel
theorem dX5_copyFrom_77 : decode cX5_copyFrom 77 = .ok (.iconst 0, 1) := by decide +kernel
theorem dX5_copyFrom_78 : decode cX5_copyFrom 78 = .ok (.istore_n 2, 1) := by decide +kernel
theorem dX5_copyFrom_79 : decode cX5_copyFrom 79 = .ok (.iload_n 2, 1) := by decide +kernel
theorem dX5_copyFrom_80 : decode cX5_copyFrom 80 = .ok (.aload_n 0, 1) := by decide +kernel
theorem dX5_copyFrom_81 : decode cX5_copyFrom 81 = .ok (.getfield 56, 3) := by decide +kernel
theorem dX5_copyFrom_84 : decode cX5_copyFrom 84 = .ok (.if_icmp .ge 30, 3) := by decide +kernel
theorem dX5_copyFrom_87 : decode cX5_copyFrom 87 = .ok (.iload_n 2, 1) := by decide +kernel
theorem dX5_copyFrom_88 : decode cX5_copyFrom 88 = .ok (.bipush 6, 2) := by decide +kernel
theorem dX5_copyFrom_90 : decode cX5_copyFrom 90 = .ok (.if_icmp .ge 24, 3) := by decide +kernel
theorem dX5_copyFrom_93 : decode cX5_copyFrom 93 = .ok (.aload_n 0, 1) := by decide +kernel
theorem dX5_copyFrom_94 : decode cX5_copyFrom 94 = .ok (.getfield 17, 3) := by decide +kernel
theorem dX5_copyFrom_97 : decode cX5_copyFrom 97 = .ok (.iload_n 2, 1) := by decide +kernel
theorem dX5_copyFrom_98 : decode cX5_copyFrom 98 = .ok (.aaload, 1) := by decide +kernel
theorem dX5_copyFrom_99 : decode cX5_copyFrom 99 = .ok (.aload_n 1, 1) := by decide +kernel
theorem dX5_copyFrom_100 : decode cX5_copyFrom 100 = .ok (.getfield 17, 3) := by decide +kernel
theorem dX5_copyFrom_103 : decode cX5_copyFrom 103 = .ok (.iload_n 2, 1) := by decide +kernel
theorem dX5_copyFrom_104 : decode cX5_copyFrom 104 = .ok (.aaload, 1) := by decide +kernel
theorem dX5_copyFrom_105 : decode cX5_copyFrom 105 = .ok (.invokevirtual 101, 3) := by decide +kernel
theorem dX5_copyFrom_108 : decode cX5_copyFrom 108 = .ok (.iinc 2 1, 3) := by decide +kernel
theorem dX5_copyFrom_111 : decode cX5_copyFrom 111 = .ok (.goto (-32), 3) := by decide +kernel
theorem dX5_copyFrom_114 : decode cX5_copyFrom 114 = .ok (.aload_n 0, 1) := by decide +kernel
theorem dX5_copyFrom_115 : decode cX5_copyFrom 115 = .ok (.getfield 29, 3) := by decide +kernel
theorem dX5_copyFrom_118 : decode cX5_copyFrom 118 = .ok (.aload_n 1, 1) := by decide +kernel
theorem dX5_copyFrom_119 : decode cX5_copyFrom 119 = .ok (.getfield 29, 3) := by decide +kernel
theorem dX5_copyFrom_122 : decode cX5_copyFrom 122 = .ok (.invokevirtual 105, 3) := by decide +kernel
theorem dX5_copyFrom_125 : decode cX5_copyFrom 125 = .ok (.aload_n 0, 1) := by decide +kernel
theorem dX5_copyFrom_126 : decode cX5_copyFrom 126 = .ok (.getfield 33, 3) := by decide +kernel
theorem dX5_copyFrom_129 : decode cX5_copyFrom 129 = .ok (.aload_n 1, 1) := by decide +kernel
theorem dX5_copyFrom_130 : decode cX5_copyFrom 130 = .ok (.getfield 33, 3) := by decide +kernel
theorem dX5_copyFrom_133 : decode cX5_copyFrom 133 = .ok (.invokevirtual 105, 3) := by decide +kernel
theorem dX5_copyFrom_136 : decode cX5_copyFrom 136 = .ok (.return_, 1) := by decide +kernel
theorem dX6_init_0 : decode cX6_init 0 = .ok (.aload_n 0, 1) := by decide +kernel
theorem dX6_init_1 : decode cX6_init 1 = .ok (.invokespecial 3, 3) := by decide +kernel
theorem dX6_init_4 : decode cX6_init 4 = .ok (.aload_n 0, 1) := by decide +kernel
theorem dX6_init_5 : decode cX6_init 5 = .ok (.aload_n 1, 1) := by decide +kernel
theorem dX6_init_6 : decode cX6_init 6 = .ok (.putfield 9, 3) := by decide +kernel
theorem dX6_init_9 : decode cX6_init 9 = .ok (.aload_n 0, 1) := by decide +kernel
theorem dX6_init_10 : decode cX6_init 10 = .ok (.bipush 6, 2) := by decide +kernel
theorem dX6_init_12 : decode cX6_init 12 = .ok (.newarray .int, 2) := by decide +kernel
theorem dX6_init_14 : decode cX6_init 14 = .ok (.putfield 15, 3) := by decide +kernel
theorem dX6_init_17 : decode cX6_init 17 = .ok (.return_, 1) := by decide +kernel
theorem dX6_addMember_0 : decode cX6_addMember 0 = .ok (.aload_n 0, 1) := by decide +kernel
theorem dX6_addMember_1 : decode cX6_addMember 1 = .ok (.getfield 19, 3) := by decide +kernel
theorem dX6_addMember_4 : decode cX6_addMember 4 = .ok (.ifCond .lt 32, 3) := by decide +kernel
theorem dX6_addMember_7 : decode cX6_addMember 7 = .ok (.aload_n 0, 1) := by decide +kernel
theorem dX6_addMember_8 : decode cX6_addMember 8 = .ok (.getfield 19, 3) := by decide +kernel
theorem dX6_addMember_11 : decode cX6_addMember 11 = .ok (.bipush 6, 2) := by decide +kernel
theorem dX6_addMember_13 : decode cX6_addMember 13 = .ok (.if_icmp .ge 23, 3) := by decide +kernel
theorem dX6_addMember_16 : decode cX6_addMember 16 = .ok (.aload_n 0, 1) := by decide +kernel
theorem dX6_addMember_17 : decode cX6_addMember 17 = .ok (.getfield 15, 3) := by decide +kernel
theorem dX6_addMember_20 : decode cX6_addMember 20 = .ok (.aload_n 0, 1) := by decide +kernel
theorem dX6_addMember_21 : decode cX6_addMember 21 = .ok (.getfield 19, 3) := by decide +kernel
theorem dX6_addMember_24 : decode cX6_addMember 24 = .ok (.iload_n 1, 1) := by decide +kernel
theorem dX6_addMember_25 : decode cX6_addMember 25 = .ok (.iastore, 1) := by decide +kernel
theorem dX6_addMember_26 : decode cX6_addMember 26 = .ok (.aload_n 0, 1) := by decide +kernel
theorem dX6_addMember_27 : decode cX6_addMember 27 = .ok (.dup, 1) := by decide +kernel
theorem dX6_addMember_28 : decode cX6_addMember 28 = .ok (.getfield 19, 3) := by decide +kernel
theorem dX6_addMember_31 : decode cX6_addMember 31 = .ok (.iconst 1, 1) := by decide +kernel
theorem dX6_addMember_32 : decode cX6_addMember 32 = .ok (.iadd, 1) := by decide +kernel
theorem dX6_addMember_33 : decode cX6_addMember 33 = .ok (.putfield 19, 3) := by decide +kernel
theorem dX6_addMember_36 : decode cX6_addMember 36 = .ok (.return_, 1) := by decide +kernel
theorem dX6_removeMember_0 : decode cX6_removeMember 0 = .ok (.iconst 0, 1) := by decide +kernel
theorem dX6_removeMember_1 : decode cX6_removeMember 1 = .ok (.istore_n 2, 1) := by decide +kernel
theorem dX6_removeMember_2 : decode cX6_removeMember 2 = .ok (.iconst 0, 1) := by decide +kernel
theorem dX6_removeMember_3 : decode cX6_removeMember 3 = .ok (.istore_n 3, 1) := by decide +kernel
theorem dX6_removeMember_4 : decode cX6_removeMember 4 = .ok (.iload_n 3, 1) := by decide +kernel
theorem dX6_removeMember_5 : decode cX6_removeMember 5 = .ok (.aload_n 0, 1) := by decide +kernel
theorem dX6_removeMember_6 : decode cX6_removeMember 6 = .ok (.getfield 19, 3) := by decide +kernel
theorem dX6_removeMember_9 : decode cX6_removeMember 9 = .ok (.if_icmp .ge 40, 3) := by decide +kernel
theorem dX6_removeMember_12 : decode cX6_removeMember 12 = .ok (.iload_n 3, 1) := by decide +kernel
theorem dX6_removeMember_13 : decode cX6_removeMember 13 = .ok (.bipush 6, 2) := by decide +kernel
theorem dX6_removeMember_15 : decode cX6_removeMember 15 = .ok (.if_icmp .ge 34, 3) := by decide +kernel
theorem dX6_removeMember_18 : decode cX6_removeMember 18 = .ok (.aload_n 0, 1) := by decide +kernel
theorem dX6_removeMember_19 : decode cX6_removeMember 19 = .ok (.getfield 15, 3) := by decide +kernel
theorem dX6_removeMember_22 : decode cX6_removeMember 22 = .ok (.iload_n 3, 1) := by decide +kernel
theorem dX6_removeMember_23 : decode cX6_removeMember 23 = .ok (.iaload, 1) := by decide +kernel
theorem dX6_removeMember_24 : decode cX6_removeMember 24 = .ok (.iload_n 1, 1) := by decide +kernel
theorem dX6_removeMember_25 : decode cX6_removeMember 25 = .ok (.if_icmp .eq 18, 3) := by decide +kernel
theorem dX6_removeMember_28 : decode cX6_removeMember 28 = .ok (.aload_n 0, 1) := by decide +kernel
theorem dX6_removeMember_29 : decode cX6_removeMember 29 = .ok (.getfield 15, 3) := by decide +kernel
theorem dX6_removeMember_32 : decode cX6_removeMember 32 = .ok (.iload_n 2, 1) := by decide +kernel
theorem dX6_removeMember_33 : decode cX6_removeMember 33 = .ok (.aload_n 0, 1) := by decide +kernel
theorem dX6_removeMember_34 : decode cX6_removeMember 34 = .ok (.getfield 15, 3) := by decide +kernel
theorem dX6_removeMember_37 : decode cX6_removeMember 37 = .ok (.iload_n 3, 1) := by decide +kernel
theorem dX6_removeMember_38 : decode cX6_removeMember 38 = .ok (.iaload, 1) := by decide +kernel
theorem dX6_removeMember_39 : decode cX6_removeMember 39 = .ok (.iastore, 1) := by decide +kernel
theorem dX6_removeMember_40 : decode cX6_removeMember 40 = .ok (.iinc 2 1, 3) := by decide +kernel
theorem dX6_removeMember_43 : decode cX6_removeMember 43 = .ok (.iinc 3 1, 3) := by decide +kernel
theorem dX6_removeMember_46 : decode cX6_removeMember 46 = .ok (.goto (-42), 3) := by decide +kernel
theorem dX6_removeMember_49 : decode cX6_removeMember 49 = .ok (.aload_n 0, 1) := by decide +kernel
theorem dX6_removeMember_50 : decode cX6_removeMember 50 = .ok (.iload_n 2, 1) := by decide +kernel
theorem dX6_removeMember_51 : decode cX6_removeMember 51 = .ok (.putfield 19, 3) := by decide +kernel
theorem dX6_removeMember_54 : decode cX6_removeMember 54 = .ok (.return_, 1) := by decide +kernel
theorem dX6_copyFrom_0 : decode cX6_copyFrom 0 = .ok (.aload_n 0, 1) := by decide +kernel
theorem dX6_copyFrom_1 : decode cX6_copyFrom 1 = .ok (.aload_n 1, 1) := by decide +kernel
theorem dX6_copyFrom_2 : decode cX6_copyFrom 2 = .ok (.getfield 9, 3) := by decide +kernel
theorem dX6_copyFrom_5 : decode cX6_copyFrom 5 = .ok (.putfield 9, 3) := by decide +kernel
theorem dX6_copyFrom_8 : decode cX6_copyFrom 8 = .ok (.aload_n 0, 1) := by decide +kernel
theorem dX6_copyFrom_9 : decode cX6_copyFrom 9 = .ok (.aload_n 1, 1) := by decide +kernel
theorem dX6_copyFrom_10 : decode cX6_copyFrom 10 = .ok (.getfield 23, 3) := by decide +kernel
theorem dX6_copyFrom_13 : decode cX6_copyFrom 13 = .ok (.putfield 23, 3) := by decide +kernel
theorem dX6_copyFrom_16 : decode cX6_copyFrom 16 = .ok (.iconst 0, 1) := by decide +kernel
theorem dX6_copyFrom_17 : decode cX6_copyFrom 17 = .ok (.istore_n 2, 1) := by decide +kernel
theorem dX6_copyFrom_18 : decode cX6_copyFrom 18 = .ok (.iload_n 2, 1) := by decide +kernel
theorem dX6_copyFrom_19 : decode cX6_copyFrom 19 = .ok (.bipush 6, 2) := by decide +kernel
theorem dX6_copyFrom_21 : decode cX6_copyFrom 21 = .ok (.if_icmp .ge 21, 3) := by decide +kernel
theorem dX6_copyFrom_24 : decode cX6_copyFrom 24 = .ok (.aload_n 0, 1) := by decide +kernel
theorem dX6_copyFrom_25 : decode cX6_copyFrom 25 = .ok (.getfield 15, 3) := by decide +kernel
theorem dX6_copyFrom_28 : decode cX6_copyFrom 28 = .ok (.iload_n 2, 1) := by decide +kernel
theorem dX6_copyFrom_29 : decode cX6_copyFrom 29 = .ok (.aload_n 1, 1) := by decide +kernel
theorem dX6_copyFrom_30 : decode cX6_copyFrom 30 = .ok (.getfield 15, 3) := by decide +kernel
theorem dX6_copyFrom_33 : decode cX6_copyFrom 33 = .ok (.iload_n 2, 1) := by decide +kernel
theorem dX6_copyFrom_34 : decode cX6_copyFrom 34 = .ok (.iaload, 1) := by decide +kernel
theorem dX6_copyFrom_35 : decode cX6_copyFrom 35 = .ok (.iastore, 1) := by decide +kernel
theorem dX6_copyFrom_36 : decode cX6_copyFrom 36 = .ok (.iinc 2 1, 3) := by decide +kernel
theorem dX6_copyFrom_39 : decode cX6_copyFrom 39 = .ok (.goto (-21), 3) := by decide +kernel
theorem dX6_copyFrom_42 : decode cX6_copyFrom 42 = .ok (.aload_n 0, 1) := by decide +kernel
theorem dX6_copyFrom_43 : decode cX6_copyFrom 43 = .ok (.aload_n 1, 1) := by decide +kernel
theorem dX6_copyFrom_44 : decode cX6_copyFrom 44 = .ok (.getfield 19, 3) := by decide +kernel
theorem dX6_copyFrom_47 : decode cX6_copyFrom 47 = .ok (.putfield 19, 3) := by decide +kernel
theorem dX6_copyFrom_50 : decode cX6_copyFrom 50 = .ok (.return_, 1) := by decide +kernel
theorem dX7_init_0 : decode cX7_init 0 = .ok (.aload_n 0, 1) := by decide +kernel
theorem dX7_init_1 : decode cX7_init 1 = .ok (.invokespecial 3, 3) := by decide +kernel
theorem dX7_init_4 : decode cX7_init 4 = .ok (.aload_n 0, 1) := by decide +kernel
theorem dX7_init_5 : decode cX7_init 5 = .ok (.aload_n 1, 1) := by decide +kernel
theorem dX7_init_6 : decode cX7_init 6 = .ok (.putfield 9, 3) := by decide +kernel
theorem dX7_init_9 : decode cX7_init 9 = .ok (.aload_n 0, 1) := by decide +kernel
theorem dX7_init_10 : decode cX7_init 10 = .ok (.bipush 6, 2) := by decide +kernel
theorem dX7_init_12 : decode cX7_init 12 = .ok (.anewarray 15, 3) := by decide +kernel
theorem dX7_init_15 : decode cX7_init 15 = .ok (.putfield 17, 3) := by decide +kernel
theorem dX7_init_18 : decode cX7_init 18 = .ok (.iconst 0, 1) := by decide +kernel
theorem dX7_init_19 : decode cX7_init 19 = .ok (.istore_n 2, 1) := by decide +kernel
theorem dX7_init_20 : decode cX7_init 20 = .ok (.iload_n 2, 1) := by decide +kernel
theorem dX7_init_21 : decode cX7_init 21 = .ok (.bipush 6, 2) := by decide +kernel
theorem dX7_init_23 : decode cX7_init 23 = .ok (.if_icmp .ge 23, 3) := by decide +kernel
theorem dX7_init_26 : decode cX7_init 26 = .ok (.aload_n 0, 1) := by decide +kernel
theorem dX7_init_27 : decode cX7_init 27 = .ok (.getfield 17, 3) := by decide +kernel
theorem dX7_init_30 : decode cX7_init 30 = .ok (.iload_n 2, 1) := by decide +kernel
theorem dX7_init_31 : decode cX7_init 31 = .ok (.new 15, 3) := by decide +kernel
theorem dX7_init_34 : decode cX7_init 34 = .ok (.dup, 1) := by decide +kernel
theorem dX7_init_35 : decode cX7_init 35 = .ok (.aload_n 1, 1) := by decide +kernel
theorem dX7_init_36 : decode cX7_init 36 = .ok (.invokespecial 21, 3) := by decide +kernel
theorem dX7_init_39 : decode cX7_init 39 = .ok (.aastore, 1) := by decide +kernel
theorem dX7_init_40 : decode cX7_init 40 = .ok (.iinc 2 1, 3) := by decide +kernel
theorem dX7_init_43 : decode cX7_init 43 = .ok (.goto (-23), 3) := by decide +kernel
theorem dX7_init_46 : decode cX7_init 46 = .ok (.aload_n 0, 1) := by decide +kernel
theorem dX7_init_47 : decode cX7_init 47 = .ok (.bipush 36, 2) := by decide +kernel
theorem dX7_init_49 : decode cX7_init 49 = .ok (.anewarray 24, 3) := by decide +kernel
theorem dX7_init_52 : decode cX7_init 52 = .ok (.putfield 26, 3) := by decide +kernel
theorem dX7_init_55 : decode cX7_init 55 = .ok (.iconst 0, 1) := by decide +kernel
theorem dX7_init_56 : decode cX7_init 56 = .ok (.istore_n 2, 1) := by decide +kernel
theorem dX7_init_57 : decode cX7_init 57 = .ok (.iload_n 2, 1) := by decide +kernel
theorem dX7_init_58 : decode cX7_init 58 = .ok (.bipush 36, 2) := by decide +kernel
theorem dX7_init_60 : decode cX7_init 60 = .ok (.if_icmp .ge 23, 3) := by decide +kernel
theorem dX7_init_63 : decode cX7_init 63 = .ok (.aload_n 0, 1) := by decide +kernel
theorem dX7_init_64 : decode cX7_init 64 = .ok (.getfield 26, 3) := by decide +kernel
theorem dX7_init_67 : decode cX7_init 67 = .ok (.iload_n 2, 1) := by decide +kernel
theorem dX7_init_68 : decode cX7_init 68 = .ok (.new 24, 3) := by decide +kernel
theorem dX7_init_71 : decode cX7_init 71 = .ok (.dup, 1) := by decide +kernel
theorem dX7_init_72 : decode cX7_init 72 = .ok (.aload_n 1, 1) := by decide +kernel
theorem dX7_init_73 : decode cX7_init 73 = .ok (.invokespecial 30, 3) := by decide +kernel
theorem dX7_init_76 : decode cX7_init 76 = .ok (.aastore, 1) := by decide +kernel
theorem dX7_init_77 : decode cX7_init 77 = .ok (.iinc 2 1, 3) := by decide +kernel
theorem dX7_init_80 : decode cX7_init 80 = .ok (.goto (-23), 3) := by decide +kernel
theorem dX7_init_83 : decode cX7_init 83 = .ok (.aload_n 0, 1) := by decide +kernel
theorem dX7_init_84 : decode cX7_init 84 = .ok (.bipush 8, 2) := by decide +kernel
theorem dX7_init_86 : decode cX7_init 86 = .ok (.anewarray 31, 3) := by decide +kernel
theorem dX7_init_89 : decode cX7_init 89 = .ok (.putfield 33, 3) := by decide +kernel
theorem dX7_init_92 : decode cX7_init 92 = .ok (.iconst 0, 1) := by decide +kernel
theorem dX7_init_93 : decode cX7_init 93 = .ok (.istore_n 2, 1) := by decide +kernel
theorem dX7_init_94 : decode cX7_init 94 = .ok (.iload_n 2, 1) := by decide +kernel
theorem dX7_init_95 : decode cX7_init 95 = .ok (.bipush 8, 2) := by decide +kernel
theorem dX7_init_97 : decode cX7_init 97 = .ok (.if_icmp .ge 23, 3) := by decide +kernel
theorem dX7_init_100 : decode cX7_init 100 = .ok (.aload_n 0, 1) := by decide +kernel
theorem dX7_init_101 : decode cX7_init 101 = .ok (.getfield 33, 3) := by decide +kernel
theorem dX7_init_104 : decode cX7_init 104 = .ok (.iload_n 2, 1) := by decide +kernel
theorem dX7_init_105 : decode cX7_init 105 = .ok (.new 31, 3) := by decide +kernel
theorem dX7_init_108 : decode cX7_init 108 = .ok (.dup, 1) := by decide +kernel
theorem dX7_init_109 : decode cX7_init 109 = .ok (.aload_n 1, 1) := by decide +kernel
theorem dX7_init_110 : decode cX7_init 110 = .ok (.invokespecial 37, 3) := by decide +kernel
theorem dX7_init_113 : decode cX7_init 113 = .ok (.aastore, 1) := by decide +kernel
theorem dX7_init_114 : decode cX7_init 114 = .ok (.iinc 2 1, 3) := by decide +kernel
theorem dX7_init_117 : decode cX7_init 117 = .ok (.goto (-23), 3) := by decide +kernel
theorem dX7_init_120 : decode cX7_init 120 = .ok (.aload_n 0, 1) := by decide +kernel
theorem dX7_init_121 : decode cX7_init 121 = .ok (.getstatic 38, 3) := by decide +kernel
theorem dX7_init_124 : decode cX7_init 124 = .ok (.arraylength, 1) := by decide +kernel
theorem dX7_init_125 : decode cX7_init 125 = .ok (.newarray .int, 2) := by decide +kernel
theorem dX7_init_127 : decode cX7_init 127 = .ok (.putfield 42, 3) := by decide +kernel
theorem dX7_init_130 : decode cX7_init 130 = .ok (.iconst 0, 1) := by decide +kernel
theorem dX7_init_131 : decode cX7_init 131 = .ok (.istore_n 2, 1) := by decide +kernel
theorem dX7_init_132 : decode cX7_init 132 = .ok (.iload_n 2, 1) := by decide +kernel
theorem dX7_init_133 : decode cX7_init 133 = .ok (.getstatic 38, 3) := by decide +kernel
theorem dX7_init_136 : decode cX7_init 136 = .ok (.arraylength, 1) := by decide +kernel
theorem dX7_init_137 : decode cX7_init 137 = .ok (.if_icmp .ge 20, 3) := by decide +kernel
theorem dX7_init_140 : decode cX7_init 140 = .ok (.aload_n 0, 1) := by decide +kernel
theorem dX7_init_141 : decode cX7_init 141 = .ok (.getfield 42, 3) := by decide +kernel
theorem dX7_init_144 : decode cX7_init 144 = .ok (.iload_n 2, 1) := by decide +kernel
theorem dX7_init_145 : decode cX7_init 145 = .ok (.getstatic 38, 3) := by decide +kernel
theorem dX7_init_148 : decode cX7_init 148 = .ok (.iload_n 2, 1) := by decide +kernel
theorem dX7_init_149 : decode cX7_init 149 = .ok (.iaload, 1) := by decide +kernel
theorem dX7_init_150 : decode cX7_init 150 = .ok (.iastore, 1) := by decide +kernel
theorem dX7_init_151 : decode cX7_init 151 = .ok (.iinc 2 1, 3) := by decide +kernel
theorem dX7_init_154 : decode cX7_init 154 = .ok (.goto (-22), 3) := by decide +kernel
theorem dX7_init_157 : decode cX7_init 157 = .ok (.aload_n 0, 1) := by decide +kernel
theorem dX7_init_158 : decode cX7_init 158 = .ok (.bipush 10, 2) := by decide +kernel
theorem dX7_init_160 : decode cX7_init 160 = .ok (.newarray .int, 2) := by decide +kernel
theorem dX7_init_162 : decode cX7_init 162 = .ok (.putfield 45, 3) := by decide +kernel
theorem dX7_init_165 : decode cX7_init 165 = .ok (.aload_n 0, 1) := by decide +kernel
theorem dX7_init_166 : decode cX7_init 166 = .ok (.new 48, 3) := by decide +kernel
theorem dX7_init_169 : decode cX7_init 169 = .ok (.dup, 1) := by decide +kernel
theorem dX7_init_170 : decode cX7_init 170 = .ok (.aload_n 1, 1) := by decide +kernel
theorem dX7_init_171 : decode cX7_init 171 = .ok (.invokespecial 50, 3) := by decide +kernel
theorem dX7_init_174 : decode cX7_init 174 = .ok (.putfield 51, 3) := by decide +kernel
theorem dX7_init_177 : decode cX7_init 177 = .ok (.aload_n 0, 1) := by decide +kernel
theorem dX7_init_178 : decode cX7_init 178 = .ok (.new 31, 3) := by decide +kernel
theorem dX7_init_181 : decode cX7_init 181 = .ok (.dup, 1) := by decide +kernel
theorem dX7_init_182 : decode cX7_init 182 = .ok (.aload_n 1, 1) := by decide +kernel
theorem dX7_init_183 : decode cX7_init 183 = .ok (.invokespecial 37, 3) := by decide +kernel
theorem dX7_init_186 : decode cX7_init 186 = .ok (.putfield 55, 3) := by decide +kernel
theorem dX7_init_189 : decode cX7_init 189 = .ok (.return_, 1) := by decide +kernel
theorem dX7_copyFrom_0 : decode cX7_copyFrom 0 = .ok (.iconst 0, 1) := by decide +kernel
theorem dX7_copyFrom_1 : decode cX7_copyFrom 1 = .ok (.istore_n 2, 1) := by decide +kernel
theorem dX7_copyFrom_2 : decode cX7_copyFrom 2 = .ok (.iload_n 2, 1) := by decide +kernel
theorem dX7_copyFrom_3 : decode cX7_copyFrom 3 = .ok (.bipush 6, 2) := by decide +kernel
theorem dX7_copyFrom_5 : decode cX7_copyFrom 5 = .ok (.if_icmp .ge 24, 3) := by decide +kernel
theorem dX7_copyFrom_8 : decode cX7_copyFrom 8 = .ok (.aload_n 0, 1) := by decide +kernel
theorem dX7_copyFrom_9 : decode cX7_copyFrom 9 = .ok (.getfield 17, 3) := by decide +kernel
theorem dX7_copyFrom_12 : decode cX7_copyFrom 12 = .ok (.iload_n 2, 1) := by decide +kernel
theorem dX7_copyFrom_13 : decode cX7_copyFrom 13 = .ok (.aaload, 1) := by decide +kernel
theorem dX7_copyFrom_14 : decode cX7_copyFrom 14 = .ok (.aload_n 1, 1) := by decide +kernel
theorem dX7_copyFrom_15 : decode cX7_copyFrom 15 = .ok (.getfield 17, 3) := by decide +kernel
theorem dX7_copyFrom_18 : decode cX7_copyFrom 18 = .ok (.iload_n 2, 1) := by decide +kernel
theorem dX7_copyFrom_19 : decode cX7_copyFrom 19 = .ok (.aaload, 1) := by decide +kernel
theorem dX7_copyFrom_20 : decode cX7_copyFrom 20 = .ok (.invokevirtual 59, 3) := by decide +kernel
theorem dX7_copyFrom_23 : decode cX7_copyFrom 23 = .ok (.iinc 2 1, 3) := by decide +kernel
theorem dX7_copyFrom_26 : decode cX7_copyFrom 26 = .ok (.goto (-24), 3) := by decide +kernel
theorem dX7_copyFrom_29 : decode cX7_copyFrom 29 = .ok (.aload_n 0, 1) := by decide +kernel
theorem dX7_copyFrom_30 : decode cX7_copyFrom 30 = .ok (.aload_n 1, 1) := by decide +kernel
theorem dX7_copyFrom_31 : decode cX7_copyFrom 31 = .ok (.getfield 63, 3) := by decide +kernel
theorem dX7_copyFrom_34 : decode cX7_copyFrom 34 = .ok (.putfield 63, 3) := by decide +kernel
theorem dX7_copyFrom_37 : decode cX7_copyFrom 37 = .ok (.iconst 0, 1) := by decide +kernel
theorem dX7_copyFrom_38 : decode cX7_copyFrom 38 = .ok (.istore_n 2, 1) := by decide +kernel
theorem dX7_copyFrom_39 : decode cX7_copyFrom 39 = .ok (.iload_n 2, 1) := by decide +kernel
theorem dX7_copyFrom_40 : decode cX7_copyFrom 40 = .ok (.aload_n 0, 1) := by decide +kernel
theorem dX7_copyFrom_41 : decode cX7_copyFrom 41 = .ok (.getfield 63, 3) := by decide +kernel
theorem dX7_copyFrom_44 : decode cX7_copyFrom 44 = .ok (.if_icmp .ge 30, 3) := by decide +kernel
theorem dX7_copyFrom_47 : decode cX7_copyFrom 47 = .ok (.iload_n 2, 1) := by decide +kernel
theorem dX7_copyFrom_48 : decode cX7_copyFrom 48 = .ok (.bipush 36, 2) := by decide +kernel
theorem dX7_copyFrom_50 : decode cX7_copyFrom 50 = .ok (.if_icmp .ge 24, 3) := by decide +kernel
theorem dX7_copyFrom_53 : decode cX7_copyFrom 53 = .ok (.aload_n 0, 1) := by decide +kernel
theorem dX7_copyFrom_54 : decode cX7_copyFrom 54 = .ok (.getfield 26, 3) := by decide +kernel
theorem dX7_copyFrom_57 : decode cX7_copyFrom 57 = .ok (.iload_n 2, 1) := by decide +kernel
theorem dX7_copyFrom_58 : decode cX7_copyFrom 58 = .ok (.aaload, 1) := by decide +kernel
theorem dX7_copyFrom_59 : decode cX7_copyFrom 59 = .ok (.aload_n 1, 1) := by decide +kernel
theorem dX7_copyFrom_60 : decode cX7_copyFrom 60 = .ok (.getfield 26, 3) := by decide +kernel
theorem dX7_copyFrom_63 : decode cX7_copyFrom 63 = .ok (.iload_n 2, 1) := by decide +kernel
theorem dX7_copyFrom_64 : decode cX7_copyFrom 64 = .ok (.aaload, 1) := by decide +kernel
theorem dX7_copyFrom_65 : decode cX7_copyFrom 65 = .ok (.invokevirtual 67, 3) := by decide +kernel
theorem dX7_copyFrom_68 : decode cX7_copyFrom 68 = .ok (.iinc 2 1, 3) := by decide +kernel
theorem dX7_copyFrom_71 : decode cX7_copyFrom 71 = .ok (.goto (-32), 3) := by decide +kernel
theorem dX7_copyFrom_74 : decode cX7_copyFrom 74 = .ok (.aload_n 0, 1) := by decide +kernel
theorem dX7_copyFrom_75 : decode cX7_copyFrom 75 = .ok (.aload_n 1, 1) := by decide +kernel
theorem dX7_copyFrom_76 : decode cX7_copyFrom 76 = .ok (.getfield 70, 3) := by decide +kernel
theorem dX7_copyFrom_79 : decode cX7_copyFrom 79 = .ok (.putfield 70, 3) := by decide +kernel
theorem dX7_copyFrom_82 : decode cX7_copyFrom 82 = .ok (.iconst 0, 1) := by decide +kernel
theorem dX7_copyFrom_83 : decode cX7_copyFrom 83 = .ok (.istore_n 2, 1) := by decide +kernel
theorem dX7_copyFrom_84 : decode cX7_copyFrom 84 = .ok (.iload_n 2, 1) := by decide +kernel
theorem dX7_copyFrom_85 : decode cX7_copyFrom 85 = .ok (.aload_n 0, 1) := by decide +kernel
theorem dX7_copyFrom_86 : decode cX7_copyFrom 86 = .ok (.getfield 70, 3) := by decide +kernel
theorem dX7_copyFrom_89 : decode cX7_copyFrom 89 = .ok (.if_icmp .ge 30, 3) := by decide +kernel
theorem dX7_copyFrom_92 : decode cX7_copyFrom 92 = .ok (.iload_n 2, 1) := by decide +kernel
theorem dX7_copyFrom_93 : decode cX7_copyFrom 93 = .ok (.bipush 8, 2) := by decide +kernel
theorem dX7_copyFrom_95 : decode cX7_copyFrom 95 = .ok (.if_icmp .ge 24, 3) := by decide +kernel
theorem dX7_copyFrom_98 : decode cX7_copyFrom 98 = .ok (.aload_n 0, 1) := by decide +kernel
theorem dX7_copyFrom_99 : decode cX7_copyFrom 99 = .ok (.getfield 33, 3) := by decide +kernel
theorem dX7_copyFrom_102 : decode cX7_copyFrom 102 = .ok (.iload_n 2, 1) := by decide +kernel
theorem dX7_copyFrom_103 : decode cX7_copyFrom 103 = .ok (.aaload, 1) := by decide +kernel
theorem dX7_copyFrom_104 : decode cX7_copyFrom 104 = .ok (.aload_n 1, 1) := by decide +kernel
theorem dX7_copyFrom_105 : decode cX7_copyFrom 105 = .ok (.getfield 33, 3) := by decide +kernel
theorem dX7_copyFrom_108 : decode cX7_copyFrom 108 = .ok (.iload_n 2, 1) := by decide +kernel
theorem dX7_copyFrom_109 : decode cX7_copyFrom 109 = .ok (.aaload, 1) := by decide +kernel
theorem dX7_copyFrom_110 : decode cX7_copyFrom 110 = .ok (.invokevirtual 73, 3) := by decide +kernel
theorem dX7_copyFrom_113 : decode cX7_copyFrom 113 = .ok (.iinc 2 1, 3) := by decide +kernel
theorem dX7_copyFrom_116 : decode cX7_copyFrom 116 = .ok (.goto (-32), 3) := by decide +kernel
theorem dX7_copyFrom_119 : decode cX7_copyFrom 119 = .ok (.iconst 0, 1) := by decide +kernel
theorem dX7_copyFrom_120 : decode cX7_copyFrom 120 = .ok (.istore_n 2, 1) := by decide +kernel
theorem dX7_copyFrom_121 : decode cX7_copyFrom 121 = .ok (.iload_n 2, 1) := by decide +kernel
theorem dX7_copyFrom_122 : decode cX7_copyFrom 122 = .ok (.aload_n 0, 1) := by decide +kernel
theorem dX7_copyFrom_123 : decode cX7_copyFrom 123 = .ok (.getfield 42, 3) := by decide +kernel
theorem dX7_copyFrom_126 : decode cX7_copyFrom 126 = .ok (.arraylength, 1) := by decide +kernel
theorem dX7_copyFrom_127 : decode cX7_copyFrom 127 = .ok (.if_icmp .ge 21, 3) := by decide +kernel
theorem dX7_copyFrom_130 : decode cX7_copyFrom 130 = .ok (.aload_n 0, 1) := by decide +kernel
theorem dX7_copyFrom_131 : decode cX7_copyFrom 131 = .ok (.getfield 42, 3) := by decide +kernel
theorem dX7_copyFrom_134 : decode cX7_copyFrom 134 = .ok (.iload_n 2, 1) := by decide +kernel
theorem dX7_copyFrom_135 : decode cX7_copyFrom 135 = .ok (.aload_n 1, 1) := by decide +kernel
theorem dX7_copyFrom_136 : decode cX7_copyFrom 136 = .ok (.getfield 42, 3) := by decide +kernel
theorem dX7_copyFrom_139 : decode cX7_copyFrom 139 = .ok (.iload_n 2, 1) := by decide +kernel
theorem dX7_copyFrom_140 : decode cX7_copyFrom 140 = .ok (.iaload, 1) := by decide +kernel
theorem dX7_copyFrom_141 : decode cX7_copyFrom 141 = .ok (.iastore, 1) := by decide +kernel
theorem dX7_copyFrom_142 : decode cX7_copyFrom 142 = .ok (.iinc 2 1, 3) := by decide +kernel
theorem dX7_copyFrom_145 : decode cX7_copyFrom 145 = .ok (.goto (-24), 3) := by decide +kernel
theorem dX7_copyFrom_148 : decode cX7_copyFrom 148 = .ok (.iconst 0, 1) := by decide +kernel
theorem dX7_copyFrom_149 : decode cX7_copyFrom 149 = .ok (.istore_n 2, 1) := by decide +kernel
theorem dX7_copyFrom_150 : decode cX7_copyFrom 150 = .ok (.iload_n 2, 1) := by decide +kernel
theorem dX7_copyFrom_151 : decode cX7_copyFrom 151 = .ok (.bipush 10, 2) := by decide +kernel
theorem dX7_copyFrom_153 : decode cX7_copyFrom 153 = .ok (.if_icmp .ge 21, 3) := by decide +kernel
theorem dX7_copyFrom_156 : decode cX7_copyFrom 156 = .ok (.aload_n 0, 1) := by decide +kernel
theorem dX7_copyFrom_157 : decode cX7_copyFrom 157 = .ok (.getfield 45, 3) := by decide +kernel
theorem dX7_copyFrom_160 : decode cX7_copyFrom 160 = .ok (.iload_n 2, 1) := by decide +kernel
theorem dX7_copyFrom_161 : decode cX7_copyFrom 161 = .ok (.aload_n 1, 1) := by decide +kernel
theorem dX7_copyFrom_162 : decode cX7_copyFrom 162 = .ok (.getfield 45, 3) := by decide +kernel
theorem dX7_copyFrom_165 : decode cX7_copyFrom 165 = .ok (.iload_n 2, 1) := by decide +kernel
theorem dX7_copyFrom_166 : decode cX7_copyFrom 166 = .ok (.iaload, 1) := by decide +kernel
theorem dX7_copyFrom_167 : decode cX7_copyFrom 167 = .ok (.iastore, 1) := by decide +kernel
theorem dX7_copyFrom_168 : decode cX7_copyFrom 168 = .ok (.iinc 2 1, 3) := by decide +kernel
theorem dX7_copyFrom_171 : decode cX7_copyFrom 171 = .ok (.goto (-21), 3) := by decide +kernel
theorem dX7_copyFrom_174 : decode cX7_copyFrom 174 = .ok (.aload_n 0, 1) := by decide +kernel
theorem dX7_copyFrom_175 : decode cX7_copyFrom 175 = .ok (.getfield 51, 3) := by decide +kernel
theorem dX7_copyFrom_178 : decode cX7_copyFrom 178 = .ok (.aload_n 1, 1) := by decide +kernel
theorem dX7_copyFrom_179 : decode cX7_copyFrom 179 = .ok (.getfield 51, 3) := by decide +kernel
theorem dX7_copyFrom_182 : decode cX7_copyFrom 182 = .ok (.invokevirtual 76, 3) := by decide +kernel
theorem dX7_copyFrom_185 : decode cX7_copyFrom 185 = .ok (.aload_n 0, 1) := by decide +kernel
theorem dX7_copyFrom_186 : decode cX7_copyFrom 186 = .ok (.aload_n 1, 1) := by decide +kernel
theorem dX7_copyFrom_187 : decode cX7_copyFrom 187 = .ok (.getfield 79, 3) := by decide +kernel
theorem dX7_copyFrom_190 : decode cX7_copyFrom 190 = .ok (.putfield 79, 3) := by decide +kernel
theorem dX7_copyFrom_193 : decode cX7_copyFrom 193 = .ok (.return_, 1) := by decide +kernel
theorem dX7_endConnection_0 : decode cX7_endConnection 0 = .ok (.aload_n 0, 1) := by decide +kernel
theorem dX7_endConnection_1 : decode cX7_endConnection 1 = .ok (.getfield 17, 3) := by decide +kernel
theorem dX7_endConnection_4 : decode cX7_endConnection 4 = .ok (.iload_n 1, 1) := by decide +kernel
theorem dX7_endConnection_5 : decode cX7_endConnection 5 = .ok (.aaload, 1) := by decide +kernel
theorem dX7_endConnection_6 : decode cX7_endConnection 6 = .ok (.astore_n 2, 1) := by decide +kernel
theorem dX7_endConnection_7 : decode cX7_endConnection 7 = .ok (.aload_n 2, 1) := by decide +kernel
theorem dX7_endConnection_8 : decode cX7_endConnection 8 = .ok (.iconst 0, 1) := by decide +kernel
theorem dX7_endConnection_9 : decode cX7_endConnection 9 = .ok (.putfield 82, 3) := by decide +kernel
theorem dX7_endConnection_12 : decode cX7_endConnection 12 = .ok (.aload_n 2, 1) := by decide +kernel
theorem dX7_endConnection_13 : decode cX7_endConnection 13 = .ok (.getfield 86, 3) := by decide +kernel
theorem dX7_endConnection_16 : decode cX7_endConnection 16 = .ok (.invokevirtual 90, 3) := by decide +kernel
theorem dX7_endConnection_19 : decode cX7_endConnection 19 = .ok (.aload_n 2, 1) := by decide +kernel
theorem dX7_endConnection_20 : decode cX7_endConnection 20 = .ok (.getfield 95, 3) := by decide +kernel
theorem dX7_endConnection_23 : decode cX7_endConnection 23 = .ok (.getfield 99, 3) := by decide +kernel
theorem dX7_endConnection_26 : decode cX7_endConnection 26 = .ok (.ifCond .eq 11, 3) := by decide +kernel
theorem dX7_endConnection_29 : decode cX7_endConnection 29 = .ok (.aload_n 0, 1) := by decide +kernel
theorem dX7_endConnection_30 : decode cX7_endConnection 30 = .ok (.iload_n 1, 1) := by decide +kernel
theorem dX7_endConnection_31 : decode cX7_endConnection 31 = .ok (.invokevirtual 104, 3) := by decide +kernel
theorem dX7_endConnection_34 : decode cX7_endConnection 34 = .ok (.goto 14, 3) := by decide +kernel
theorem dX7_endConnection_37 : decode cX7_endConnection 37 = .ok (.aload_n 2, 1) := by decide +kernel
theorem dX7_endConnection_38 : decode cX7_endConnection 38 = .ok (.getfield 95, 3) := by decide +kernel
theorem dX7_endConnection_41 : decode cX7_endConnection 41 = .ok (.aload_n 0, 1) := by decide +kernel
theorem dX7_endConnection_42 : decode cX7_endConnection 42 = .ok (.getfield 79, 3) := by decide +kernel
theorem dX7_endConnection_45 : decode cX7_endConnection 45 = .ok (.putfield 108, 3) := by decide +kernel
theorem dX7_endConnection_48 : decode cX7_endConnection 48 = .ok (.return_, 1) := by decide +kernel
theorem dX7_failConnection_0 : decode cX7_failConnection 0 = .ok (.aload_n 0, 1) := by decide +kernel
theorem dX7_failConnection_1 : decode cX7_failConnection 1 = .ok (.iload_n 1, 1) := by decide +kernel
theorem dX7_failConnection_2 : decode cX7_failConnection 2 = .ok (.invokevirtual 111, 3) := by decide +kernel
theorem dX7_failConnection_5 : decode cX7_failConnection 5 = .ok (.aload_n 0, 1) := by decide +kernel
theorem dX7_failConnection_6 : decode cX7_failConnection 6 = .ok (.getfield 17, 3) := by decide +kernel
theorem dX7_failConnection_9 : decode cX7_failConnection 9 = .ok (.iload_n 1, 1) := by decide +kernel
theorem dX7_failConnection_10 : decode cX7_failConnection 10 = .ok (.aaload, 1) := by decide +kernel
theorem dX7_failConnection_11 : decode cX7_failConnection 11 = .ok (.astore_n 2, 1) := by decide +kernel
theorem dX7_failConnection_12 : decode cX7_failConnection 12 = .ok (.aload_n 2, 1) := by decide +kernel
theorem dX7_failConnection_13 : decode cX7_failConnection 13 = .ok (.getfield 114, 3) := by decide +kernel
theorem dX7_failConnection_16 : decode cX7_failConnection 16 = .ok (.ifCond .ne 5, 3) := by decide +kernel
theorem dX7_failConnection_19 : decode cX7_failConnection 19 = .ok (.iconst 0, 1) := by decide +kernel
theorem dX7_failConnection_20 : decode cX7_failConnection 20 = .ok (.ireturn, 1) := by decide +kernel
theorem dX7_failConnection_21 : decode cX7_failConnection 21 = .ok (.aload_n 2, 1) := by decide +kernel
theorem dX7_failConnection_22 : decode cX7_failConnection 22 = .ok (.iconst 0, 1) := by decide +kernel
theorem dX7_failConnection_23 : decode cX7_failConnection 23 = .ok (.putfield 114, 3) := by decide +kernel
theorem dX7_failConnection_26 : decode cX7_failConnection 26 = .ok (.aload_n 0, 1) := by decide +kernel
theorem dX7_failConnection_27 : decode cX7_failConnection 27 = .ok (.getfield 45, 3) := by decide +kernel
theorem dX7_failConnection_30 : decode cX7_failConnection 30 = .ok (.bipush 6, 2) := by decide +kernel
theorem dX7_failConnection_32 : decode cX7_failConnection 32 = .ok (.dup2, 1) := by decide +kernel
theorem dX7_failConnection_33 : decode cX7_failConnection 33 = .ok (.iaload, 1) := by decide +kernel
theorem dX7_failConnection_34 : decode cX7_failConnection 34 = .ok (.iconst 1, 1) := by decide +kernel
theorem dX7_failConnection_35 : decode cX7_failConnection 35 = .ok (.iadd, 1) := by decide +kernel
theorem dX7_failConnection_36 : decode cX7_failConnection 36 = .ok (.iastore, 1) := by decide +kernel
theorem dX7_failConnection_37 : decode cX7_failConnection 37 = .ok (.aload_n 0, 1) := by decide +kernel
theorem dX7_failConnection_38 : decode cX7_failConnection 38 = .ok (.iload_n 1, 1) := by decide +kernel
theorem dX7_failConnection_39 : decode cX7_failConnection 39 = .ok (.aload_n 2, 1) := by decide +kernel
theorem dX7_failConnection_40 : decode cX7_failConnection 40 = .ok (.getfield 117, 3) := by decide +kernel
theorem dX7_failConnection_43 : decode cX7_failConnection 43 = .ok (.aload_n 2, 1) := by decide +kernel
theorem dX7_failConnection_44 : decode cX7_failConnection 44 = .ok (.getfield 120, 3) := by decide +kernel
theorem dX7_failConnection_47 : decode cX7_failConnection 47 = .ok (.invokevirtual 123, 3) := by decide +kernel
theorem dX7_failConnection_50 : decode cX7_failConnection 50 = .ok (.pop, 1) := by decide +kernel
theorem dX7_failConnection_51 : decode cX7_failConnection 51 = .ok (.iconst 1, 1) := by decide +kernel
theorem dX7_failConnection_52 : decode cX7_failConnection 52 = .ok (.ireturn, 1) := by decide +kernel
theorem dX7_removeSession_0 : decode cX7_removeSession 0 = .ok (.aload_n 0, 1) := by decide +kernel
theorem dX7_removeSession_1 : decode cX7_removeSession 1 = .ok (.getfield 17, 3) := by decide +kernel
theorem dX7_removeSession_4 : decode cX7_removeSession 4 = .ok (.iload_n 1, 1) := by decide +kernel
theorem dX7_removeSession_5 : decode cX7_removeSession 5 = .ok (.aaload, 1) := by decide +kernel
theorem dX7_removeSession_6 : decode cX7_removeSession 6 = .ok (.getfield 95, 3) := by decide +kernel
theorem dX7_removeSession_9 : decode cX7_removeSession 9 = .ok (.invokevirtual 127, 3) := by decide +kernel
theorem dX7_removeSession_12 : decode cX7_removeSession 12 = .ok (.aload_n 0, 1) := by decide +kernel
theorem dX7_removeSession_13 : decode cX7_removeSession 13 = .ok (.getfield 63, 3) := by decide +kernel
theorem dX7_removeSession_16 : decode cX7_removeSession 16 = .ok (.bipush 36, 2) := by decide +kernel
theorem dX7_removeSession_18 : decode cX7_removeSession 18 = .ok (.invokestatic 128, 3) := by decide +kernel
theorem dX7_removeSession_21 : decode cX7_removeSession 21 = .ok (.iconst 1, 1) := by decide +kernel
theorem dX7_removeSession_22 : decode cX7_removeSession 22 = .ok (.isub, 1) := by decide +kernel
theorem dX7_removeSession_23 : decode cX7_removeSession 23 = .ok (.istore_n 2, 1) := by decide +kernel
theorem dX7_removeSession_24 : decode cX7_removeSession 24 = .ok (.iload_n 2, 1) := by decide +kernel
theorem dX7_removeSession_25 : decode cX7_removeSession 25 = .ok (.ifCond .lt 15, 3) := by decide +kernel
theorem dX7_removeSession_28 : decode cX7_removeSession 28 = .ok (.aload_n 0, 1) := by decide +kernel
theorem dX7_removeSession_29 : decode cX7_removeSession 29 = .ok (.iload_n 2, 1) := by decide +kernel
theorem dX7_removeSession_30 : decode cX7_removeSession 30 = .ok (.iload_n 1, 1) := by decide +kernel
theorem dX7_removeSession_31 : decode cX7_removeSession 31 = .ok (.invokevirtual 134, 3) := by decide +kernel
theorem dX7_removeSession_34 : decode cX7_removeSession 34 = .ok (.iinc 2 (-1), 3) := by decide +kernel
theorem dX7_removeSession_37 : decode cX7_removeSession 37 = .ok (.goto (-13), 3) := by decide +kernel
theorem dX7_removeSession_40 : decode cX7_removeSession 40 = .ok (.return_, 1) := by decide +kernel
theorem dX7_resume_0 : decode cX7_resume 0 = .ok (.aload_n 1, 1) := by decide +kernel
theorem dX7_resume_1 : decode cX7_resume 1 = .ok (.getfield 95, 3) := by decide +kernel
theorem dX7_resume_4 : decode cX7_resume 4 = .ok (.getfield 138, 3) := by decide +kernel
theorem dX7_resume_7 : decode cX7_resume 7 = .ok (.astore_n 2, 1) := by decide +kernel
theorem dX7_resume_8 : decode cX7_resume 8 = .ok (.iconst 0, 1) := by decide +kernel
theorem dX7_resume_9 : decode cX7_resume 9 = .ok (.istore_n 3, 1) := by decide +kernel
theorem dX7_resume_10 : decode cX7_resume 10 = .ok (.iload_n 3, 1) := by decide +kernel
theorem dX7_resume_11 : decode cX7_resume 11 = .ok (.aload_n 2, 1) := by decide +kernel
theorem dX7_resume_12 : decode cX7_resume 12 = .ok (.getfield 142, 3) := by decide +kernel
theorem dX7_resume_15 : decode cX7_resume 15 = .ok (.if_icmp .ge 29, 3) := by decide +kernel
theorem dX7_resume_18 : decode cX7_resume 18 = .ok (.iload_n 3, 1) := by decide +kernel
theorem dX7_resume_19 : decode cX7_resume 19 = .ok (.aload_n 2, 1) := by decide +kernel
theorem dX7_resume_20 : decode cX7_resume 20 = .ok (.getfield 147, 3) := by decide +kernel
theorem dX7_resume_23 : decode cX7_resume 23 = .ok (.arraylength, 1) := by decide +kernel
theorem dX7_resume_24 : decode cX7_resume 24 = .ok (.if_icmp .ge 20, 3) := by decide +kernel
theorem dX7_resume_27 : decode cX7_resume 27 = .ok (.aload_n 0, 1) := by decide +kernel
theorem dX7_resume_28 : decode cX7_resume 28 = .ok (.aload_n 1, 1) := by decide +kernel
theorem dX7_resume_29 : decode cX7_resume 29 = .ok (.aload_n 2, 1) := by decide +kernel
theorem dX7_resume_30 : decode cX7_resume 30 = .ok (.getfield 147, 3) := by decide +kernel
theorem dX7_resume_33 : decode cX7_resume 33 = .ok (.iload_n 3, 1) := by decide +kernel
theorem dX7_resume_34 : decode cX7_resume 34 = .ok (.aaload, 1) := by decide +kernel
theorem dX7_resume_35 : decode cX7_resume 35 = .ok (.invokevirtual 150, 3) := by decide +kernel
theorem dX7_resume_38 : decode cX7_resume 38 = .ok (.iinc 3 1, 3) := by decide +kernel
theorem dX7_resume_41 : decode cX7_resume 41 = .ok (.goto (-31), 3) := by decide +kernel
theorem dX7_resume_44 : decode cX7_resume 44 = .ok (.aload_n 0, 1) := by decide +kernel
theorem dX7_resume_45 : decode cX7_resume 45 = .ok (.aload_n 1, 1) := by decide +kernel
theorem dX7_resume_46 : decode cX7_resume 46 = .ok (.invokevirtual 154, 3) := by decide +kernel
theorem dX7_resume_49 : decode cX7_resume 49 = .ok (.return_, 1) := by decide +kernel
theorem dX7_addSubscription_0 : decode cX7_addSubscription 0 = .ok (.aload_n 0, 1) := by decide +kernel
theorem dX7_addSubscription_1 : decode cX7_addSubscription 1 = .ok (.getfield 17, 3) := by decide +kernel
theorem dX7_addSubscription_4 : decode cX7_addSubscription 4 = .ok (.iload_n 1, 1) := by decide +kernel
theorem dX7_addSubscription_5 : decode cX7_addSubscription 5 = .ok (.aaload, 1) := by decide +kernel
theorem dX7_addSubscription_6 : decode cX7_addSubscription 6 = .ok (.getfield 95, 3) := by decide +kernel
theorem dX7_addSubscription_9 : decode cX7_addSubscription 9 = .ok (.aload_n 2, 1) := by decide +kernel
theorem dX7_addSubscription_10 : decode cX7_addSubscription 10 = .ok (.iload_n 3, 1) := by decide +kernel
theorem dX7_addSubscription_11 : decode cX7_addSubscription 11 = .ok (.invokevirtual 157, 3) := by decide +kernel
theorem dX7_addSubscription_14 : decode cX7_addSubscription 14 = .ok (.iload_n 3, 1) := by decide +kernel
theorem dX7_addSubscription_15 : decode cX7_addSubscription 15 = .ok (.ifCond .ne 4, 3) := by decide +kernel
theorem dX7_addSubscription_18 : decode cX7_addSubscription 18 = .ok (.return_, 1) := by decide +kernel
theorem dX7_addSubscription_19 : decode cX7_addSubscription 19 = .ok (.aload_n 0, 1) := by decide +kernel
theorem dX7_addSubscription_20 : decode cX7_addSubscription 20 = .ok (.aload_n 2, 1) := by decide +kernel
theorem dX7_addSubscription_21 : decode cX7_addSubscription 21 = .ok (.iload_n 3, 1) := by decide +kernel
theorem dX7_addSubscription_22 : decode cX7_addSubscription 22 = .ok (.invokevirtual 161, 3) := by decide +kernel
theorem dX7_addSubscription_25 : decode cX7_addSubscription 25 = .ok (.istore 4, 2) := by decide +kernel
theorem dX7_addSubscription_27 : decode cX7_addSubscription 27 = .ok (.iload 4, 2) := by decide +kernel
theorem dX7_addSubscription_29 : decode cX7_addSubscription 29 = .ok (.ifCond .ge 68, 3) := by decide +kernel
theorem dX7_addSubscription_32 : decode cX7_addSubscription 32 = .ok (.aload_n 0, 1) := by decide +kernel
theorem dX7_addSubscription_33 : decode cX7_addSubscription 33 = .ok (.getfield 63, 3) := by decide +kernel
theorem dX7_addSubscription_36 : decode cX7_addSubscription 36 = .ok (.ifCond .lt 61, 3) := by decide +kernel
theorem dX7_addSubscription_39 : decode cX7_addSubscription 39 = .ok (.aload_n 0, 1) := by decide +kernel
theorem dX7_addSubscription_40 : decode cX7_addSubscription 40 = .ok (.getfield 63, 3) := by decide +kernel
theorem dX7_addSubscription_43 : decode cX7_addSubscription 43 = .ok (.bipush 36, 2) := by decide +kernel
theorem dX7_addSubscription_45 : decode cX7_addSubscription 45 = .ok (.if_icmp .ge 52, 3) := by decide +kernel
theorem dX7_addSubscription_48 : decode cX7_addSubscription 48 = .ok (.aload_n 0, 1) := by decide +kernel
theorem dX7_addSubscription_49 : decode cX7_addSubscription 49 = .ok (.getfield 63, 3) := by decide +kernel
theorem dX7_addSubscription_52 : decode cX7_addSubscription 52 = .ok (.istore 4, 2) := by decide +kernel
theorem dX7_addSubscription_54 : decode cX7_addSubscription 54 = .ok (.aload_n 0, 1) := by decide +kernel
theorem dX7_addSubscription_55 : decode cX7_addSubscription 55 = .ok (.getfield 26, 3) := by decide +kernel
theorem dX7_addSubscription_58 : decode cX7_addSubscription 58 = .ok (.iload 4, 2) := by decide +kernel
theorem dX7_addSubscription_60 : decode cX7_addSubscription 60 = .ok (.aaload, 1) := by decide +kernel
theorem dX7_addSubscription_61 : decode cX7_addSubscription 61 = .ok (.aload_n 2, 1) := by decide +kernel
theorem dX7_addSubscription_62 : decode cX7_addSubscription 62 = .ok (.putfield 165, 3) := by decide +kernel
theorem dX7_addSubscription_65 : decode cX7_addSubscription 65 = .ok (.aload_n 0, 1) := by decide +kernel
theorem dX7_addSubscription_66 : decode cX7_addSubscription 66 = .ok (.getfield 26, 3) := by decide +kernel
theorem dX7_addSubscription_69 : decode cX7_addSubscription 69 = .ok (.iload 4, 2) := by decide +kernel
theorem dX7_addSubscription_71 : decode cX7_addSubscription 71 = .ok (.aaload, 1) := by decide +kernel
theorem dX7_addSubscription_72 : decode cX7_addSubscription 72 = .ok (.iload_n 3, 1) := by decide +kernel
theorem dX7_addSubscription_73 : decode cX7_addSubscription 73 = .ok (.putfield 168, 3) := by decide +kernel
theorem dX7_addSubscription_76 : decode cX7_addSubscription 76 = .ok (.aload_n 0, 1) := by decide +kernel
theorem dX7_addSubscription_77 : decode cX7_addSubscription 77 = .ok (.getfield 26, 3) := by decide +kernel
theorem dX7_addSubscription_80 : decode cX7_addSubscription 80 = .ok (.iload 4, 2) := by decide +kernel
theorem dX7_addSubscription_82 : decode cX7_addSubscription 82 = .ok (.aaload, 1) := by decide +kernel
theorem dX7_addSubscription_83 : decode cX7_addSubscription 83 = .ok (.iconst 0, 1) := by decide +kernel
theorem dX7_addSubscription_84 : decode cX7_addSubscription 84 = .ok (.putfield 171, 3) := by decide +kernel
theorem dX7_addSubscription_87 : decode cX7_addSubscription 87 = .ok (.aload_n 0, 1) := by decide +kernel
theorem dX7_addSubscription_88 : decode cX7_addSubscription 88 = .ok (.dup, 1) := by decide +kernel
theorem dX7_addSubscription_89 : decode cX7_addSubscription 89 = .ok (.getfield 63, 3) := by decide +kernel
theorem dX7_addSubscription_92 : decode cX7_addSubscription 92 = .ok (.iconst 1, 1) := by decide +kernel
theorem dX7_addSubscription_93 : decode cX7_addSubscription 93 = .ok (.iadd, 1) := by decide +kernel
theorem dX7_addSubscription_94 : decode cX7_addSubscription 94 = .ok (.putfield 63, 3) := by decide +kernel
theorem dX7_addSubscription_97 : decode cX7_addSubscription 97 = .ok (.iload 4, 2) := by decide +kernel
theorem dX7_addSubscription_99 : decode cX7_addSubscription 99 = .ok (.ifCond .lt 14, 3) := by decide +kernel
theorem dX7_addSubscription_102 : decode cX7_addSubscription 102 = .ok (.aload_n 0, 1) := by decide +kernel
theorem dX7_addSubscription_103 : decode cX7_addSubscription 103 = .ok (.getfield 26, 3) := by decide +kernel
theorem dX7_addSubscription_106 : decode cX7_addSubscription 106 = .ok (.iload 4, 2) := by decide +kernel
theorem dX7_addSubscription_108 : decode cX7_addSubscription 108 = .ok (.aaload, 1) := by decide +kernel
theorem dX7_addSubscription_109 : decode cX7_addSubscription 109 = .ok (.iload_n 1, 1) := by decide +kernel
theorem dX7_addSubscription_110 : decode cX7_addSubscription 110 = .ok (.invokevirtual 174, 3) := by decide +kernel
theorem dX7_addSubscription_113 : decode cX7_addSubscription 113 = .ok (.return_, 1) := by decide +kernel
theorem dX7_removeSubscription_0 : decode cX7_removeSubscription 0 = .ok (.aload_n 0, 1) := by decide +kernel
theorem dX7_removeSubscription_1 : decode cX7_removeSubscription 1 = .ok (.getfield 17, 3) := by decide +kernel
theorem dX7_removeSubscription_4 : decode cX7_removeSubscription 4 = .ok (.iload_n 1, 1) := by decide +kernel
theorem dX7_removeSubscription_5 : decode cX7_removeSubscription 5 = .ok (.aaload, 1) := by decide +kernel
theorem dX7_removeSubscription_6 : decode cX7_removeSubscription 6 = .ok (.getfield 95, 3) := by decide +kernel
theorem dX7_removeSubscription_9 : decode cX7_removeSubscription 9 = .ok (.astore 4, 2) := by decide +kernel
theorem dX7_removeSubscription_11 : decode cX7_removeSubscription 11 = .ok (.aload 4, 2) := by decide +kernel
theorem dX7_removeSubscription_13 : decode cX7_removeSubscription 13 = .ok (.aload_n 2, 1) := by decide +kernel
theorem dX7_removeSubscription_14 : decode cX7_removeSubscription 14 = .ok (.iload_n 3, 1) := by decide +kernel
theorem dX7_removeSubscription_15 : decode cX7_removeSubscription 15 = .ok (.invokevirtual 177, 3) := by decide +kernel
theorem dX7_removeSubscription_18 : decode cX7_removeSubscription 18 = .ok (.istore 5, 2) := by decide +kernel
theorem dX7_removeSubscription_20 : decode cX7_removeSubscription 20 = .ok (.iload 5, 2) := by decide +kernel
theorem dX7_removeSubscription_22 : decode cX7_removeSubscription 22 = .ok (.ifCond .ge 5, 3) := by decide +kernel
theorem dX7_removeSubscription_25 : decode cX7_removeSubscription 25 = .ok (.iconst 0, 1) := by decide +kernel
theorem dX7_removeSubscription_26 : decode cX7_removeSubscription 26 = .ok (.ireturn, 1) := by decide +kernel
theorem dX7_removeSubscription_27 : decode cX7_removeSubscription 27 = .ok (.aload 4, 2) := by decide +kernel
theorem dX7_removeSubscription_29 : decode cX7_removeSubscription 29 = .ok (.iload 5, 2) := by decide +kernel
theorem dX7_removeSubscription_31 : decode cX7_removeSubscription 31 = .ok (.invokevirtual 180, 3) := by decide +kernel
theorem dX7_removeSubscription_34 : decode cX7_removeSubscription 34 = .ok (.iload_n 3, 1) := by decide +kernel
theorem dX7_removeSubscription_35 : decode cX7_removeSubscription 35 = .ok (.ifCond .eq 14, 3) := by decide +kernel
theorem dX7_removeSubscription_38 : decode cX7_removeSubscription 38 = .ok (.aload_n 0, 1) := by decide +kernel
theorem dX7_removeSubscription_39 : decode cX7_removeSubscription 39 = .ok (.aload_n 0, 1) := by decide +kernel
theorem dX7_removeSubscription_40 : decode cX7_removeSubscription 40 = .ok (.aload_n 2, 1) := by decide +kernel
theorem dX7_removeSubscription_41 : decode cX7_removeSubscription 41 = .ok (.iload_n 3, 1) := by decide +kernel
theorem dX7_removeSubscription_42 : decode cX7_removeSubscription 42 = .ok (.invokevirtual 161, 3) := by decide +kernel
theorem dX7_removeSubscription_45 : decode cX7_removeSubscription 45 = .ok (.iload_n 1, 1) := by decide +kernel
theorem dX7_removeSubscription_46 : decode cX7_removeSubscription 46 = .ok (.invokevirtual 134, 3) := by decide +kernel
theorem dX7_removeSubscription_49 : decode cX7_removeSubscription 49 = .ok (.iconst 1, 1) := by decide +kernel
theorem dX7_removeSubscription_50 : decode cX7_removeSubscription 50 = .ok (.ireturn, 1) := by decide +kernel
theorem dX7_placeOfShare_0 : decode cX7_placeOfShare 0 = .ok (.iconst 0, 1) := by decide +kernel
theorem dX7_placeOfShare_1 : decode cX7_placeOfShare 1 = .ok (.istore_n 3, 1) := by decide +kernel
theorem dX7_placeOfShare_2 : decode cX7_placeOfShare 2 = .ok (.iload_n 3, 1) := by decide +kernel
theorem dX7_placeOfShare_3 : decode cX7_placeOfShare 3 = .ok (.aload_n 0, 1) := by decide +kernel
theorem dX7_placeOfShare_4 : decode cX7_placeOfShare 4 = .ok (.getfield 63, 3) := by decide +kernel
theorem dX7_placeOfShare_7 : decode cX7_placeOfShare 7 = .ok (.if_icmp .ge 46, 3) := by decide +kernel
theorem dX7_placeOfShare_10 : decode cX7_placeOfShare 10 = .ok (.iload_n 3, 1) := by decide +kernel
theorem dX7_placeOfShare_11 : decode cX7_placeOfShare 11 = .ok (.bipush 36, 2) := by decide +kernel
theorem dX7_placeOfShare_13 : decode cX7_placeOfShare 13 = .ok (.if_icmp .ge 40, 3) := by decide +kernel
theorem dX7_placeOfShare_16 : decode cX7_placeOfShare 16 = .ok (.aload_n 0, 1) := by decide +kernel
theorem dX7_placeOfShare_17 : decode cX7_placeOfShare 17 = .ok (.getfield 26, 3) := by decide +kernel
theorem dX7_placeOfShare_20 : decode cX7_placeOfShare 20 = .ok (.iload_n 3, 1) := by decide +kernel
theorem dX7_placeOfShare_21 : decode cX7_placeOfShare 21 = .ok (.aaload, 1) := by decide +kernel
theorem dX7_placeOfShare_22 : decode cX7_placeOfShare 22 = .ok (.getfield 168, 3) := by decide +kernel
theorem dX7_placeOfShare_25 : decode cX7_placeOfShare 25 = .ok (.iload_n 2, 1) := by decide +kernel
theorem dX7_placeOfShare_26 : decode cX7_placeOfShare 26 = .ok (.if_icmp .ne 21, 3) := by decide +kernel
theorem dX7_placeOfShare_29 : decode cX7_placeOfShare 29 = .ok (.aload_n 0, 1) := by decide +kernel
theorem dX7_placeOfShare_30 : decode cX7_placeOfShare 30 = .ok (.getfield 26, 3) := by decide +kernel
theorem dX7_placeOfShare_33 : decode cX7_placeOfShare 33 = .ok (.iload_n 3, 1) := by decide +kernel
theorem dX7_placeOfShare_34 : decode cX7_placeOfShare 34 = .ok (.aaload, 1) := by decide +kernel
theorem dX7_placeOfShare_35 : decode cX7_placeOfShare 35 = .ok (.getfield 165, 3) := by decide +kernel
theorem dX7_placeOfShare_38 : decode cX7_placeOfShare 38 = .ok (.aload_n 1, 1) := by decide +kernel
theorem dX7_placeOfShare_39 : decode cX7_placeOfShare 39 = .ok (.invokevirtual 183, 3) := by decide +kernel
theorem dX7_placeOfShare_42 : decode cX7_placeOfShare 42 = .ok (.ifCond .eq 5, 3) := by decide +kernel
theorem dX7_placeOfShare_45 : decode cX7_placeOfShare 45 = .ok (.iload_n 3, 1) := by decide +kernel
theorem dX7_placeOfShare_46 : decode cX7_placeOfShare 46 = .ok (.ireturn, 1) := by decide +kernel
theorem dX7_placeOfShare_47 : decode cX7_placeOfShare 47 = .ok (.iinc 3 1, 3) := by decide +kernel
theorem dX7_placeOfShare_50 : decode cX7_placeOfShare 50 = .ok (.goto (-48), 3) := by decide +kernel
theorem dX7_placeOfShare_53 : decode cX7_placeOfShare 53 = .ok (.iconst (-1), 1) := by decide +kernel
theorem dX7_placeOfShare_54 : decode cX7_placeOfShare 54 = .ok (.ireturn, 1) := by decide +kernel
theorem dX7_leaveShare_0 : decode cX7_leaveShare 0 = .ok (.iload_n 1, 1) := by decide +kernel
theorem dX7_leaveShare_1 : decode cX7_leaveShare 1 = .ok (.ifCond .lt 20, 3) := by decide +kernel
theorem dX7_leaveShare_4 : decode cX7_leaveShare 4 = .ok (.iload_n 1, 1) := by decide +kernel
theorem dX7_leaveShare_5 : decode cX7_leaveShare 5 = .ok (.aload_n 0, 1) := by decide +kernel
theorem dX7_leaveShare_6 : decode cX7_leaveShare 6 = .ok (.getfield 63, 3) := by decide +kernel
theorem dX7_leaveShare_9 : decode cX7_leaveShare 9 = .ok (.if_icmp .ge 12, 3) := by decide +kernel
theorem dX7_leaveShare_12 : decode cX7_leaveShare 12 = .ok (.aload_n 0, 1) := by decide +kernel
theorem dX7_leaveShare_13 : decode cX7_leaveShare 13 = .ok (.getfield 63, 3) := by decide +kernel
theorem dX7_leaveShare_16 : decode cX7_leaveShare 16 = .ok (.bipush 36, 2) := by decide +kernel
theorem dX7_leaveShare_18 : decode cX7_leaveShare 18 = .ok (.if_icmp .le 4, 3) := by decide +kernel
theorem dX7_leaveShare_21 : decode cX7_leaveShare 21 = .ok (.return_, 1) := by decide +kernel
theorem dX7_leaveShare_22 : decode cX7_leaveShare 22 = .ok (.aload_n 0, 1) := by decide +kernel
theorem dX7_leaveShare_23 : decode cX7_leaveShare 23 = .ok (.getfield 26, 3) := by decide +kernel
theorem dX7_leaveShare_26 : decode cX7_leaveShare 26 = .ok (.iload_n 1, 1) := by decide +kernel
theorem dX7_leaveShare_27 : decode cX7_leaveShare 27 = .ok (.aaload, 1) := by decide +kernel
theorem dX7_leaveShare_28 : decode cX7_leaveShare 28 = .ok (.astore_n 3, 1) := by decide +kernel
theorem dX7_leaveShare_29 : decode cX7_leaveShare 29 = .ok (.aload_n 3, 1) := by decide +kernel
theorem dX7_leaveShare_30 : decode cX7_leaveShare 30 = .ok (.iload_n 2, 1) := by decide +kernel
theorem dX7_leaveShare_31 : decode cX7_leaveShare 31 = .ok (.invokevirtual 189, 3) := by decide +kernel
theorem dX7_leaveShare_34 : decode cX7_leaveShare 34 = .ok (.aload_n 3, 1) := by decide +kernel
theorem dX7_leaveShare_35 : decode cX7_leaveShare 35 = .ok (.getfield 171, 3) := by decide +kernel
theorem dX7_leaveShare_38 : decode cX7_leaveShare 38 = .ok (.ifCond .le 4, 3) := by decide +kernel
theorem dX7_leaveShare_41 : decode cX7_leaveShare 41 = .ok (.return_, 1) := by decide +kernel
theorem dX7_leaveShare_42 : decode cX7_leaveShare 42 = .ok (.iload_n 1, 1) := by decide +kernel
theorem dX7_leaveShare_43 : decode cX7_leaveShare 43 = .ok (.istore 4, 2) := by decide +kernel
theorem dX7_leaveShare_45 : decode cX7_leaveShare 45 = .ok (.iload 4, 2) := by decide +kernel
theorem dX7_leaveShare_47 : decode cX7_leaveShare 47 = .ok (.iconst 1, 1) := by decide +kernel
theorem dX7_leaveShare_48 : decode cX7_leaveShare 48 = .ok (.iadd, 1) := by decide +kernel
theorem dX7_leaveShare_49 : decode cX7_leaveShare 49 = .ok (.aload_n 0, 1) := by decide +kernel
theorem dX7_leaveShare_50 : decode cX7_leaveShare 50 = .ok (.getfield 63, 3) := by decide +kernel
theorem dX7_leaveShare_53 : decode cX7_leaveShare 53 = .ok (.if_icmp .ge 25, 3) := by decide +kernel
theorem dX7_leaveShare_56 : decode cX7_leaveShare 56 = .ok (.aload_n 0, 1) := by decide +kernel
theorem dX7_leaveShare_57 : decode cX7_leaveShare 57 = .ok (.getfield 26, 3) := by decide +kernel
theorem dX7_leaveShare_60 : decode cX7_leaveShare 60 = .ok (.iload 4, 2) := by decide +kernel
theorem dX7_leaveShare_62 : decode cX7_leaveShare 62 = .ok (.aload_n 0, 1) := by decide +kernel
theorem dX7_leaveShare_63 : decode cX7_leaveShare 63 = .ok (.getfield 26, 3) := by decide +kernel
theorem dX7_leaveShare_66 : decode cX7_leaveShare 66 = .ok (.iload 4, 2) := by decide +kernel
theorem dX7_leaveShare_68 : decode cX7_leaveShare 68 = .ok (.iconst 1, 1) := by decide +kernel
theorem dX7_leaveShare_69 : decode cX7_leaveShare 69 = .ok (.iadd, 1) := by decide +kernel
theorem dX7_leaveShare_70 : decode cX7_leaveShare 70 = .ok (.aaload, 1) := by decide +kernel
theorem dX7_leaveShare_71 : decode cX7_leaveShare 71 = .ok (.aastore, 1) := by decide +kernel
theorem dX7_leaveShare_72 : decode cX7_leaveShare 72 = .ok (.iinc 4 1, 3) := by decide +kernel
theorem dX7_leaveShare_75 : decode cX7_leaveShare 75 = .ok (.goto (-30), 3) := by decide +kernel
theorem dX7_leaveShare_78 : decode cX7_leaveShare 78 = .ok (.aload_n 0, 1) := by decide +kernel
theorem dX7_leaveShare_79 : decode cX7_leaveShare 79 = .ok (.getfield 26, 3) := by decide +kernel
theorem dX7_leaveShare_82 : decode cX7_leaveShare 82 = .ok (.aload_n 0, 1) := by decide +kernel
theorem dX7_leaveShare_83 : decode cX7_leaveShare 83 = .ok (.getfield 63, 3) := by decide +kernel
theorem dX7_leaveShare_86 : decode cX7_leaveShare 86 = .ok (.iconst 1, 1) := by decide +kernel
theorem dX7_leaveShare_87 : decode cX7_leaveShare 87 = .ok (.isub, 1) := by decide +kernel
theorem dX7_leaveShare_88 : decode cX7_leaveShare 88 = .ok (.aload_n 3, 1) := by decide +kernel
theorem dX7_leaveShare_89 : decode cX7_leaveShare 89 = .ok (.aastore, 1) := by decide +kernel
theorem dX7_leaveShare_90 : decode cX7_leaveShare 90 = .ok (.aload_n 0, 1) := by decide +kernel
theorem dX7_leaveShare_91 : decode cX7_leaveShare 91 = .ok (.dup, 1) := by decide +kernel
theorem dX7_leaveShare_92 : decode cX7_leaveShare 92 = .ok (.getfield 63, 3) := by decide +kernel
theorem dX7_leaveShare_95 : decode cX7_leaveShare 95 = .ok (.iconst 1, 1) := by decide +kernel
theorem dX7_leaveShare_96 : decode cX7_leaveShare 96 = .ok (.isub, 1) := by decide +kernel
theorem dX7_leaveShare_97 : decode cX7_leaveShare 97 = .ok (.putfield 63, 3) := by decide +kernel
theorem dX7_leaveShare_100 : decode cX7_leaveShare 100 = .ok (.return_, 1) := by decide +kernel
theorem dX7_takeMember_0 : decode cX7_takeMember 0 = .ok (.aload_n 1, 1) := by decide +kernel
theorem dX7_takeMember_1 : decode cX7_takeMember 1 = .ok (.getfield 192, 3) := by decide +kernel
theorem dX7_takeMember_4 : decode cX7_takeMember 4 = .ok (.iconst 0, 1) := by decide +kernel
theorem dX7_takeMember_5 : decode cX7_takeMember 5 = .ok (.iaload, 1) := by decide +kernel
theorem dX7_takeMember_6 : decode cX7_takeMember 6 = .ok (.istore_n 2, 1) := by decide +kernel
theorem dX7_takeMember_7 : decode cX7_takeMember 7 = .ok (.iconst 0, 1) := by decide +kernel
theorem dX7_takeMember_8 : decode cX7_takeMember 8 = .ok (.istore_n 3, 1) := by decide +kernel
theorem dX7_takeMember_9 : decode cX7_takeMember 9 = .ok (.iload_n 3, 1) := by decide +kernel
theorem dX7_takeMember_10 : decode cX7_takeMember 10 = .ok (.aload_n 1, 1) := by decide +kernel
theorem dX7_takeMember_11 : decode cX7_takeMember 11 = .ok (.getfield 171, 3) := by decide +kernel
theorem dX7_takeMember_14 : decode cX7_takeMember 14 = .ok (.if_icmp .ge 42, 3) := by decide +kernel
theorem dX7_takeMember_17 : decode cX7_takeMember 17 = .ok (.iload_n 3, 1) := by decide +kernel
theorem dX7_takeMember_18 : decode cX7_takeMember 18 = .ok (.bipush 6, 2) := by decide +kernel
theorem dX7_takeMember_20 : decode cX7_takeMember 20 = .ok (.if_icmp .ge 36, 3) := by decide +kernel
theorem dX7_takeMember_23 : decode cX7_takeMember 23 = .ok (.aload_n 0, 1) := by decide +kernel
theorem dX7_takeMember_24 : decode cX7_takeMember 24 = .ok (.getfield 17, 3) := by decide +kernel
theorem dX7_takeMember_27 : decode cX7_takeMember 27 = .ok (.aload_n 1, 1) := by decide +kernel
theorem dX7_takeMember_28 : decode cX7_takeMember 28 = .ok (.getfield 192, 3) := by decide +kernel
theorem dX7_takeMember_31 : decode cX7_takeMember 31 = .ok (.iload_n 3, 1) := by decide +kernel
theorem dX7_takeMember_32 : decode cX7_takeMember 32 = .ok (.iaload, 1) := by decide +kernel
theorem dX7_takeMember_33 : decode cX7_takeMember 33 = .ok (.aaload, 1) := by decide +kernel
theorem dX7_takeMember_34 : decode cX7_takeMember 34 = .ok (.getfield 82, 3) := by decide +kernel
theorem dX7_takeMember_37 : decode cX7_takeMember 37 = .ok (.ifCond .eq 13, 3) := by decide +kernel
theorem dX7_takeMember_40 : decode cX7_takeMember 40 = .ok (.aload_n 1, 1) := by decide +kernel
theorem dX7_takeMember_41 : decode cX7_takeMember 41 = .ok (.getfield 192, 3) := by decide +kernel
theorem dX7_takeMember_44 : decode cX7_takeMember 44 = .ok (.iload_n 3, 1) := by decide +kernel
theorem dX7_takeMember_45 : decode cX7_takeMember 45 = .ok (.iaload, 1) := by decide +kernel
theorem dX7_takeMember_46 : decode cX7_takeMember 46 = .ok (.istore_n 2, 1) := by decide +kernel
theorem dX7_takeMember_47 : decode cX7_takeMember 47 = .ok (.goto 9, 3) := by decide +kernel
theorem dX7_takeMember_50 : decode cX7_takeMember 50 = .ok (.iinc 3 1, 3) := by decide +kernel
theorem dX7_takeMember_53 : decode cX7_takeMember 53 = .ok (.goto (-44), 3) := by decide +kernel
theorem dX7_takeMember_56 : decode cX7_takeMember 56 = .ok (.aload_n 1, 1) := by decide +kernel
theorem dX7_takeMember_57 : decode cX7_takeMember 57 = .ok (.iload_n 2, 1) := by decide +kernel
theorem dX7_takeMember_58 : decode cX7_takeMember 58 = .ok (.invokevirtual 189, 3) := by decide +kernel
theorem dX7_takeMember_61 : decode cX7_takeMember 61 = .ok (.aload_n 1, 1) := by decide +kernel
theorem dX7_takeMember_62 : decode cX7_takeMember 62 = .ok (.iload_n 2, 1) := by decide +kernel
theorem dX7_takeMember_63 : decode cX7_takeMember 63 = .ok (.invokevirtual 174, 3) := by decide +kernel
theorem dX7_takeMember_66 : decode cX7_takeMember 66 = .ok (.iload_n 2, 1) := by decide +kernel
theorem dX7_takeMember_67 : decode cX7_takeMember 67 = .ok (.ireturn, 1) := by decide +kernel
theorem dX7_spread_0 : decode cX7_spread 0 = .ok (.aload_n 0, 1) := by decide +kernel
theorem dX7_spread_1 : decode cX7_spread 1 = .ok (.getfield 45, 3) := by decide +kernel
theorem dX7_spread_4 : decode cX7_spread 4 = .ok (.iconst 0, 1) := by decide +kernel
theorem dX7_spread_5 : decode cX7_spread 5 = .ok (.dup2, 1) := by decide +kernel
theorem dX7_spread_6 : decode cX7_spread 6 = .ok (.iaload, 1) := by decide +kernel
theorem dX7_spread_7 : decode cX7_spread 7 = .ok (.iconst 1, 1) := by decide +kernel
theorem dX7_spread_8 : decode cX7_spread 8 = .ok (.iadd, 1) := by decide +kernel
theorem dX7_spread_9 : decode cX7_spread 9 = .ok (.iastore, 1) := by decide +kernel
theorem dX7_spread_10 : decode cX7_spread 10 = .ok (.aload_n 0, 1) := by decide +kernel
theorem dX7_spread_11 : decode cX7_spread 11 = .ok (.getfield 51, 3) := by decide +kernel
theorem dX7_spread_14 : decode cX7_spread 14 = .ok (.aload_n 2, 1) := by decide +kernel
theorem dX7_spread_15 : decode cX7_spread 15 = .ok (.getfield 195, 3) := by decide +kernel
theorem dX7_spread_18 : decode cX7_spread 18 = .ok (.invokevirtual 198, 3) := by decide +kernel
theorem dX7_spread_21 : decode cX7_spread 21 = .ok (.iload_n 3, 1) := by decide +kernel
theorem dX7_spread_22 : decode cX7_spread 22 = .ok (.ifCond .eq 8, 3) := by decide +kernel
theorem dX7_spread_25 : decode cX7_spread 25 = .ok (.aload_n 0, 1) := by decide +kernel
theorem dX7_spread_26 : decode cX7_spread 26 = .ok (.aload_n 2, 1) := by decide +kernel
theorem dX7_spread_27 : decode cX7_spread 27 = .ok (.invokevirtual 200, 3) := by decide +kernel
theorem dX7_spread_30 : decode cX7_spread 30 = .ok (.iconst 0, 1) := by decide +kernel
theorem dX7_spread_31 : decode cX7_spread 31 = .ok (.istore 4, 2) := by decide +kernel
theorem dX7_spread_33 : decode cX7_spread 33 = .ok (.iconst 0, 1) := by decide +kernel
theorem dX7_spread_34 : decode cX7_spread 34 = .ok (.istore 5, 2) := by decide +kernel
theorem dX7_spread_36 : decode cX7_spread 36 = .ok (.iload 5, 2) := by decide +kernel
theorem dX7_spread_38 : decode cX7_spread 38 = .ok (.bipush 6, 2) := by decide +kernel
theorem dX7_spread_40 : decode cX7_spread 40 = .ok (.if_icmp .ge 69, 3) := by decide +kernel
theorem dX7_spread_43 : decode cX7_spread 43 = .ok (.aload_n 0, 1) := by decide +kernel
theorem dX7_spread_44 : decode cX7_spread 44 = .ok (.getfield 17, 3) := by decide +kernel
theorem dX7_spread_47 : decode cX7_spread 47 = .ok (.iload 5, 2) := by decide +kernel
theorem dX7_spread_49 : decode cX7_spread 49 = .ok (.aaload, 1) := by decide +kernel
theorem dX7_spread_50 : decode cX7_spread 50 = .ok (.getfield 95, 3) := by decide +kernel
theorem dX7_spread_53 : decode cX7_spread 53 = .ok (.aload_n 2, 1) := by decide +kernel
theorem dX7_spread_54 : decode cX7_spread 54 = .ok (.getfield 195, 3) := by decide +kernel
theorem dX7_spread_57 : decode cX7_spread 57 = .ok (.iload 5, 2) := by decide +kernel
theorem dX7_spread_59 : decode cX7_spread 59 = .ok (.iload_n 1, 1) := by decide +kernel
theorem dX7_spread_60 : decode cX7_spread 60 = .ok (.if_icmp .ne 7, 3) := by decide +kernel
theorem dX7_spread_63 : decode cX7_spread 63 = .ok (.iconst 1, 1) := by decide +kernel
theorem dX7_spread_64 : decode cX7_spread 64 = .ok (.goto 4, 3) := by decide +kernel
theorem dX7_spread_67 : decode cX7_spread 67 = .ok (.iconst 0, 1) := by decide +kernel
theorem dX7_spread_68 : decode cX7_spread 68 = .ok (.invokevirtual 203, 3) := by decide +kernel
theorem dX7_spread_71 : decode cX7_spread 71 = .ok (.istore 6, 2) := by decide +kernel
theorem dX7_spread_73 : decode cX7_spread 73 = .ok (.iload 6, 2) := by decide +kernel
theorem dX7_spread_75 : decode cX7_spread 75 = .ok (.ifCond .lt 28, 3) := by decide +kernel
theorem dX7_spread_78 : decode cX7_spread 78 = .ok (.aload_n 0, 1) := by decide +kernel
theorem dX7_spread_79 : decode cX7_spread 79 = .ok (.aload_n 0, 1) := by decide +kernel
theorem dX7_spread_80 : decode cX7_spread 80 = .ok (.getfield 17, 3) := by decide +kernel
theorem dX7_spread_83 : decode cX7_spread 83 = .ok (.iload 5, 2) := by decide +kernel
theorem dX7_spread_85 : decode cX7_spread 85 = .ok (.aaload, 1) := by decide +kernel
theorem dX7_spread_86 : decode cX7_spread 86 = .ok (.aload_n 2, 1) := by decide +kernel
theorem dX7_spread_87 : decode cX7_spread 87 = .ok (.aload_n 2, 1) := by decide +kernel
theorem dX7_spread_88 : decode cX7_spread 88 = .ok (.getfield 207, 3) := by decide +kernel
theorem dX7_spread_91 : decode cX7_spread 91 = .ok (.iload 6, 2) := by decide +kernel
theorem dX7_spread_93 : decode cX7_spread 93 = .ok (.invokestatic 128, 3) := by decide +kernel
theorem dX7_spread_96 : decode cX7_spread 96 = .ok (.iconst 0, 1) := by decide +kernel
theorem dX7_spread_97 : decode cX7_spread 97 = .ok (.invokevirtual 210, 3) := by decide +kernel
theorem dX7_spread_100 : decode cX7_spread 100 = .ok (.iinc 4 1, 3) := by decide +kernel
theorem dX7_spread_103 : decode cX7_spread 103 = .ok (.iinc 5 1, 3) := by decide +kernel
theorem dX7_spread_106 : decode cX7_spread 106 = .ok (.goto (-70), 3) := by decide +kernel
theorem dX7_spread_109 : decode cX7_spread 109 = .ok (.iconst 0, 1) := by decide +kernel
theorem dX7_spread_110 : decode cX7_spread 110 = .ok (.istore 5, 2) := by decide +kernel
theorem dX7_spread_112 : decode cX7_spread 112 = .ok (.iload 5, 2) := by decide +kernel
theorem dX7_spread_114 : decode cX7_spread 114 = .ok (.aload_n 0, 1) := by decide +kernel
theorem dX7_spread_115 : decode cX7_spread 115 = .ok (.getfield 63, 3) := by decide +kernel
theorem dX7_spread_118 : decode cX7_spread 118 = .ok (.if_icmp .ge 93, 3) := by decide +kernel
theorem dX7_spread_121 : decode cX7_spread 121 = .ok (.iload 5, 2) := by decide +kernel
theorem dX7_spread_123 : decode cX7_spread 123 = .ok (.bipush 36, 2) := by decide +kernel
theorem dX7_spread_125 : decode cX7_spread 125 = .ok (.if_icmp .ge 86, 3) := by decide +kernel
theorem dX7_spread_128 : decode cX7_spread 128 = .ok (.aload_n 0, 1) := by decide +kernel
theorem dX7_spread_129 : decode cX7_spread 129 = .ok (.getfield 26, 3) := by decide +kernel
theorem dX7_spread_132 : decode cX7_spread 132 = .ok (.iload 5, 2) := by decide +kernel
theorem dX7_spread_134 : decode cX7_spread 134 = .ok (.aaload, 1) := by decide +kernel
theorem dX7_spread_135 : decode cX7_spread 135 = .ok (.astore 6, 2) := by decide +kernel
theorem dX7_spread_137 : decode cX7_spread 137 = .ok (.aload 6, 2) := by decide +kernel
theorem dX7_spread_139 : decode cX7_spread 139 = .ok (.getfield 165, 3) := by decide +kernel
theorem dX7_spread_142 : decode cX7_spread 142 = .ok (.aload_n 2, 1) := by decide +kernel
theorem dX7_spread_143 : decode cX7_spread 143 = .ok (.getfield 195, 3) := by decide +kernel
theorem dX7_spread_146 : decode cX7_spread 146 = .ok (.invokevirtual 214, 3) := by decide +kernel
theorem dX7_spread_149 : decode cX7_spread 149 = .ok (.ifCond .eq 56, 3) := by decide +kernel
theorem dX7_spread_152 : decode cX7_spread 152 = .ok (.aload_n 0, 1) := by decide +kernel
theorem dX7_spread_153 : decode cX7_spread 153 = .ok (.getfield 17, 3) := by decide +kernel
theorem dX7_spread_156 : decode cX7_spread 156 = .ok (.aload_n 0, 1) := by decide +kernel
theorem dX7_spread_157 : decode cX7_spread 157 = .ok (.aload 6, 2) := by decide +kernel
theorem dX7_spread_159 : decode cX7_spread 159 = .ok (.invokevirtual 217, 3) := by decide +kernel
theorem dX7_spread_162 : decode cX7_spread 162 = .ok (.aaload, 1) := by decide +kernel
theorem dX7_spread_163 : decode cX7_spread 163 = .ok (.astore 7, 2) := by decide +kernel
theorem dX7_spread_165 : decode cX7_spread 165 = .ok (.aload 7, 2) := by decide +kernel
theorem dX7_spread_167 : decode cX7_spread 167 = .ok (.getfield 95, 3) := by decide +kernel
theorem dX7_spread_170 : decode cX7_spread 170 = .ok (.aload 6, 2) := by decide +kernel
theorem dX7_spread_172 : decode cX7_spread 172 = .ok (.getfield 165, 3) := by decide +kernel
theorem dX7_spread_175 : decode cX7_spread 175 = .ok (.aload 6, 2) := by decide +kernel
theorem dX7_spread_177 : decode cX7_spread 177 = .ok (.getfield 168, 3) := by decide +kernel
theorem dX7_spread_180 : decode cX7_spread 180 = .ok (.invokevirtual 221, 3) := by decide +kernel
theorem dX7_spread_183 : decode cX7_spread 183 = .ok (.istore 8, 2) := by decide +kernel
theorem dX7_spread_185 : decode cX7_spread 185 = .ok (.aload_n 0, 1) := by decide +kernel
theorem dX7_spread_186 : decode cX7_spread 186 = .ok (.aload 7, 2) := by decide +kernel
theorem dX7_spread_188 : decode cX7_spread 188 = .ok (.aload_n 2, 1) := by decide +kernel
theorem dX7_spread_189 : decode cX7_spread 189 = .ok (.aload_n 2, 1) := by decide +kernel
theorem dX7_spread_190 : decode cX7_spread 190 = .ok (.getfield 207, 3) := by decide +kernel
theorem dX7_spread_193 : decode cX7_spread 193 = .ok (.iload 8, 2) := by decide +kernel
theorem dX7_spread_195 : decode cX7_spread 195 = .ok (.invokestatic 128, 3) := by decide +kernel
theorem dX7_spread_198 : decode cX7_spread 198 = .ok (.iconst 0, 1) := by decide +kernel
theorem dX7_spread_199 : decode cX7_spread 199 = .ok (.invokevirtual 210, 3) := by decide +kernel
theorem dX7_spread_202 : decode cX7_spread 202 = .ok (.iinc 4 1, 3) := by decide +kernel
theorem dX7_spread_205 : decode cX7_spread 205 = .ok (.iinc 5 1, 3) := by decide +kernel
theorem dX7_spread_208 : decode cX7_spread 208 = .ok (.goto (-96), 3) := by decide +kernel
theorem dX7_spread_211 : decode cX7_spread 211 = .ok (.iload 4, 2) := by decide +kernel
theorem dX7_spread_213 : decode cX7_spread 213 = .ok (.ireturn, 1) := by decide +kernel
theorem dX7_countAudience_0 : decode cX7_countAudience 0 = .ok (.iconst 0, 1) := by decide +kernel
theorem dX7_countAudience_1 : decode cX7_countAudience 1 = .ok (.istore_n 3, 1) := by decide +kernel
theorem dX7_countAudience_2 : decode cX7_countAudience 2 = .ok (.iconst 0, 1) := by decide +kernel
theorem dX7_countAudience_3 : decode cX7_countAudience 3 = .ok (.istore 4, 2) := by decide +kernel
theorem dX7_countAudience_5 : decode cX7_countAudience 5 = .ok (.iload 4, 2) := by decide +kernel
theorem dX7_countAudience_7 : decode cX7_countAudience 7 = .ok (.bipush 6, 2) := by decide +kernel
theorem dX7_countAudience_9 : decode cX7_countAudience 9 = .ok (.if_icmp .ge 40, 3) := by decide +kernel
theorem dX7_countAudience_12 : decode cX7_countAudience 12 = .ok (.aload_n 0, 1) := by decide +kernel
theorem dX7_countAudience_13 : decode cX7_countAudience 13 = .ok (.getfield 17, 3) := by decide +kernel
theorem dX7_countAudience_16 : decode cX7_countAudience 16 = .ok (.iload 4, 2) := by decide +kernel
theorem dX7_countAudience_18 : decode cX7_countAudience 18 = .ok (.aaload, 1) := by decide +kernel
theorem dX7_countAudience_19 : decode cX7_countAudience 19 = .ok (.getfield 95, 3) := by decide +kernel
theorem dX7_countAudience_22 : decode cX7_countAudience 22 = .ok (.aload_n 2, 1) := by decide +kernel
theorem dX7_countAudience_23 : decode cX7_countAudience 23 = .ok (.iload 4, 2) := by decide +kernel
theorem dX7_countAudience_25 : decode cX7_countAudience 25 = .ok (.iload_n 1, 1) := by decide +kernel
theorem dX7_countAudience_26 : decode cX7_countAudience 26 = .ok (.if_icmp .ne 7, 3) := by decide +kernel
theorem dX7_countAudience_29 : decode cX7_countAudience 29 = .ok (.iconst 1, 1) := by decide +kernel
theorem dX7_countAudience_30 : decode cX7_countAudience 30 = .ok (.goto 4, 3) := by decide +kernel
theorem dX7_countAudience_33 : decode cX7_countAudience 33 = .ok (.iconst 0, 1) := by decide +kernel
theorem dX7_countAudience_34 : decode cX7_countAudience 34 = .ok (.invokevirtual 203, 3) := by decide +kernel
theorem dX7_countAudience_37 : decode cX7_countAudience 37 = .ok (.ifCond .lt 6, 3) := by decide +kernel
theorem dX7_countAudience_40 : decode cX7_countAudience 40 = .ok (.iinc 3 1, 3) := by decide +kernel
theorem dX7_countAudience_43 : decode cX7_countAudience 43 = .ok (.iinc 4 1, 3) := by decide +kernel
theorem dX7_countAudience_46 : decode cX7_countAudience 46 = .ok (.goto (-41), 3) := by decide +kernel
theorem dX7_countAudience_49 : decode cX7_countAudience 49 = .ok (.iconst 0, 1) := by decide +kernel
theorem dX7_countAudience_50 : decode cX7_countAudience 50 = .ok (.istore 4, 2) := by decide +kernel
theorem dX7_countAudience_52 : decode cX7_countAudience 52 = .ok (.iload 4, 2) := by decide +kernel
theorem dX7_countAudience_54 : decode cX7_countAudience 54 = .ok (.aload_n 0, 1) := by decide +kernel
theorem dX7_countAudience_55 : decode cX7_countAudience 55 = .ok (.getfield 63, 3) := by decide +kernel
theorem dX7_countAudience_58 : decode cX7_countAudience 58 = .ok (.if_icmp .ge 36, 3) := by decide +kernel
theorem dX7_countAudience_61 : decode cX7_countAudience 61 = .ok (.iload 4, 2) := by decide +kernel
theorem dX7_countAudience_63 : decode cX7_countAudience 63 = .ok (.bipush 36, 2) := by decide +kernel
theorem dX7_countAudience_65 : decode cX7_countAudience 65 = .ok (.if_icmp .ge 29, 3) := by decide +kernel
theorem dX7_countAudience_68 : decode cX7_countAudience 68 = .ok (.aload_n 0, 1) := by decide +kernel
theorem dX7_countAudience_69 : decode cX7_countAudience 69 = .ok (.getfield 26, 3) := by decide +kernel
theorem dX7_countAudience_72 : decode cX7_countAudience 72 = .ok (.iload 4, 2) := by decide +kernel
theorem dX7_countAudience_74 : decode cX7_countAudience 74 = .ok (.aaload, 1) := by decide +kernel
theorem dX7_countAudience_75 : decode cX7_countAudience 75 = .ok (.getfield 165, 3) := by decide +kernel
theorem dX7_countAudience_78 : decode cX7_countAudience 78 = .ok (.aload_n 2, 1) := by decide +kernel
theorem dX7_countAudience_79 : decode cX7_countAudience 79 = .ok (.invokevirtual 214, 3) := by decide +kernel
theorem dX7_countAudience_82 : decode cX7_countAudience 82 = .ok (.ifCond .eq 6, 3) := by decide +kernel
theorem dX7_countAudience_85 : decode cX7_countAudience 85 = .ok (.iinc 3 1, 3) := by decide +kernel
theorem dX7_countAudience_88 : decode cX7_countAudience 88 = .ok (.iinc 4 1, 3) := by decide +kernel
theorem dX7_countAudience_91 : decode cX7_countAudience 91 = .ok (.goto (-39), 3) := by decide +kernel
theorem dX7_countAudience_94 : decode cX7_countAudience 94 = .ok (.iload_n 3, 1) := by decide +kernel
theorem dX7_countAudience_95 : decode cX7_countAudience 95 = .ok (.ireturn, 1) := by decide +kernel
theorem dX7_keepRetained_0 : decode cX7_keepRetained 0 = .ok (.iconst 0, 1) := by decide +kernel
theorem dX7_keepRetained_1 : decode cX7_keepRetained 1 = .ok (.istore_n 2, 1) := by decide +kernel
theorem dX7_keepRetained_2 : decode cX7_keepRetained 2 = .ok (.iload_n 2, 1) := by decide +kernel
theorem dX7_keepRetained_3 : decode cX7_keepRetained 3 = .ok (.aload_n 0, 1) := by decide +kernel
theorem dX7_keepRetained_4 : decode cX7_keepRetained 4 = .ok (.getfield 70, 3) := by decide +kernel
theorem dX7_keepRetained_7 : decode cX7_keepRetained 7 = .ok (.if_icmp .ge 34, 3) := by decide +kernel
theorem dX7_keepRetained_10 : decode cX7_keepRetained 10 = .ok (.iload_n 2, 1) := by decide +kernel
theorem dX7_keepRetained_11 : decode cX7_keepRetained 11 = .ok (.bipush 8, 2) := by decide +kernel
theorem dX7_keepRetained_13 : decode cX7_keepRetained 13 = .ok (.if_icmp .ge 28, 3) := by decide +kernel
theorem dX7_keepRetained_16 : decode cX7_keepRetained 16 = .ok (.aload_n 0, 1) := by decide +kernel
theorem dX7_keepRetained_17 : decode cX7_keepRetained 17 = .ok (.getfield 33, 3) := by decide +kernel
theorem dX7_keepRetained_20 : decode cX7_keepRetained 20 = .ok (.iload_n 2, 1) := by decide +kernel
theorem dX7_keepRetained_21 : decode cX7_keepRetained 21 = .ok (.aaload, 1) := by decide +kernel
theorem dX7_keepRetained_22 : decode cX7_keepRetained 22 = .ok (.getfield 195, 3) := by decide +kernel
theorem dX7_keepRetained_25 : decode cX7_keepRetained 25 = .ok (.aload_n 1, 1) := by decide +kernel
theorem dX7_keepRetained_26 : decode cX7_keepRetained 26 = .ok (.getfield 195, 3) := by decide +kernel
theorem dX7_keepRetained_29 : decode cX7_keepRetained 29 = .ok (.invokevirtual 224, 3) := by decide +kernel
theorem dX7_keepRetained_32 : decode cX7_keepRetained 32 = .ok (.ifCond .ge 9, 3) := by decide +kernel
theorem dX7_keepRetained_35 : decode cX7_keepRetained 35 = .ok (.iinc 2 1, 3) := by decide +kernel
theorem dX7_keepRetained_38 : decode cX7_keepRetained 38 = .ok (.goto (-36), 3) := by decide +kernel
theorem dX7_keepRetained_41 : decode cX7_keepRetained 41 = .ok (.iload_n 2, 1) := by decide +kernel
theorem dX7_keepRetained_42 : decode cX7_keepRetained 42 = .ok (.aload_n 0, 1) := by decide +kernel
theorem dX7_keepRetained_43 : decode cX7_keepRetained 43 = .ok (.getfield 70, 3) := by decide +kernel
theorem dX7_keepRetained_46 : decode cX7_keepRetained 46 = .ok (.if_icmp .ge 32, 3) := by decide +kernel
theorem dX7_keepRetained_49 : decode cX7_keepRetained 49 = .ok (.iload_n 2, 1) := by decide +kernel
theorem dX7_keepRetained_50 : decode cX7_keepRetained 50 = .ok (.bipush 8, 2) := by decide +kernel
theorem dX7_keepRetained_52 : decode cX7_keepRetained 52 = .ok (.if_icmp .ge 26, 3) := by decide +kernel
theorem dX7_keepRetained_55 : decode cX7_keepRetained 55 = .ok (.aload_n 0, 1) := by decide +kernel
theorem dX7_keepRetained_56 : decode cX7_keepRetained 56 = .ok (.getfield 33, 3) := by decide +kernel
theorem dX7_keepRetained_59 : decode cX7_keepRetained 59 = .ok (.iload_n 2, 1) := by decide +kernel
theorem dX7_keepRetained_60 : decode cX7_keepRetained 60 = .ok (.aaload, 1) := by decide +kernel
theorem dX7_keepRetained_61 : decode cX7_keepRetained 61 = .ok (.getfield 195, 3) := by decide +kernel
theorem dX7_keepRetained_64 : decode cX7_keepRetained 64 = .ok (.aload_n 1, 1) := by decide +kernel
theorem dX7_keepRetained_65 : decode cX7_keepRetained 65 = .ok (.getfield 195, 3) := by decide +kernel
theorem dX7_keepRetained_68 : decode cX7_keepRetained 68 = .ok (.invokevirtual 183, 3) := by decide +kernel
theorem dX7_keepRetained_71 : decode cX7_keepRetained 71 = .ok (.ifCond .eq 7, 3) := by decide +kernel
theorem dX7_keepRetained_74 : decode cX7_keepRetained 74 = .ok (.iconst 1, 1) := by decide +kernel
theorem dX7_keepRetained_75 : decode cX7_keepRetained 75 = .ok (.goto 4, 3) := by decide +kernel
theorem dX7_keepRetained_78 : decode cX7_keepRetained 78 = .ok (.iconst 0, 1) := by decide +kernel
theorem dX7_keepRetained_79 : decode cX7_keepRetained 79 = .ok (.istore_n 3, 1) := by decide +kernel
theorem dX7_keepRetained_80 : decode cX7_keepRetained 80 = .ok (.aload_n 1, 1) := by decide +kernel
theorem dX7_keepRetained_81 : decode cX7_keepRetained 81 = .ok (.getfield 228, 3) := by decide +kernel
theorem dX7_keepRetained_84 : decode cX7_keepRetained 84 = .ok (.ifCond .ne 13, 3) := by decide +kernel
theorem dX7_keepRetained_87 : decode cX7_keepRetained 87 = .ok (.iload_n 3, 1) := by decide +kernel
theorem dX7_keepRetained_88 : decode cX7_keepRetained 88 = .ok (.ifCond .eq 8, 3) := by decide +kernel
theorem dX7_keepRetained_91 : decode cX7_keepRetained 91 = .ok (.aload_n 0, 1) := by decide +kernel
theorem dX7_keepRetained_92 : decode cX7_keepRetained 92 = .ok (.iload_n 2, 1) := by decide +kernel
theorem dX7_keepRetained_93 : decode cX7_keepRetained 93 = .ok (.invokevirtual 231, 3) := by decide +kernel
theorem dX7_keepRetained_96 : decode cX7_keepRetained 96 = .ok (.return_, 1) := by decide +kernel
theorem dX7_keepRetained_97 : decode cX7_keepRetained 97 = .ok (.iload_n 3, 1) := by decide +kernel
theorem dX7_keepRetained_98 : decode cX7_keepRetained 98 = .ok (.ifCond .ne 18, 3) := by decide +kernel
theorem dX7_keepRetained_101 : decode cX7_keepRetained 101 = .ok (.aload_n 0, 1) := by decide +kernel
theorem dX7_keepRetained_102 : decode cX7_keepRetained 102 = .ok (.getfield 70, 3) := by decide +kernel
theorem dX7_keepRetained_105 : decode cX7_keepRetained 105 = .ok (.bipush 8, 2) := by decide +kernel
theorem dX7_keepRetained_107 : decode cX7_keepRetained 107 = .ok (.if_icmp .lt 4, 3) := by decide +kernel
theorem dX7_keepRetained_110 : decode cX7_keepRetained 110 = .ok (.return_, 1) := by decide +kernel
theorem dX7_keepRetained_111 : decode cX7_keepRetained 111 = .ok (.aload_n 0, 1) := by decide +kernel
theorem dX7_keepRetained_112 : decode cX7_keepRetained 112 = .ok (.iload_n 2, 1) := by decide +kernel
theorem dX7_keepRetained_113 : decode cX7_keepRetained 113 = .ok (.invokevirtual 234, 3) := by decide +kernel
theorem dX7_keepRetained_116 : decode cX7_keepRetained 116 = .ok (.aload_n 0, 1) := by decide +kernel
theorem dX7_keepRetained_117 : decode cX7_keepRetained 117 = .ok (.getfield 33, 3) := by decide +kernel
theorem dX7_keepRetained_120 : decode cX7_keepRetained 120 = .ok (.iload_n 2, 1) := by decide +kernel
theorem dX7_keepRetained_121 : decode cX7_keepRetained 121 = .ok (.aaload, 1) := by decide +kernel
theorem dX7_keepRetained_122 : decode cX7_keepRetained 122 = .ok (.aload_n 1, 1) := by decide +kernel
theorem dX7_keepRetained_123 : decode cX7_keepRetained 123 = .ok (.invokevirtual 73, 3) := by decide +kernel
theorem dX7_keepRetained_126 : decode cX7_keepRetained 126 = .ok (.return_, 1) := by decide +kernel
theorem dX7_dropRetained_0 : decode cX7_dropRetained 0 = .ok (.aload_n 0, 1) := by decide +kernel
theorem dX7_dropRetained_1 : decode cX7_dropRetained 1 = .ok (.getfield 33, 3) := by decide +kernel
theorem dX7_dropRetained_4 : decode cX7_dropRetained 4 = .ok (.iload_n 1, 1) := by decide +kernel
theorem dX7_dropRetained_5 : decode cX7_dropRetained 5 = .ok (.aaload, 1) := by decide +kernel
theorem dX7_dropRetained_6 : decode cX7_dropRetained 6 = .ok (.astore_n 2, 1) := by decide +kernel
theorem dX7_dropRetained_7 : decode cX7_dropRetained 7 = .ok (.iload_n 1, 1) := by decide +kernel
theorem dX7_dropRetained_8 : decode cX7_dropRetained 8 = .ok (.istore_n 3, 1) := by decide +kernel
theorem dX7_dropRetained_9 : decode cX7_dropRetained 9 = .ok (.iload_n 3, 1) := by decide +kernel
theorem dX7_dropRetained_10 : decode cX7_dropRetained 10 = .ok (.iconst 1, 1) := by decide +kernel
theorem dX7_dropRetained_11 : decode cX7_dropRetained 11 = .ok (.iadd, 1) := by decide +kernel
theorem dX7_dropRetained_12 : decode cX7_dropRetained 12 = .ok (.aload_n 0, 1) := by decide +kernel
theorem dX7_dropRetained_13 : decode cX7_dropRetained 13 = .ok (.getfield 70, 3) := by decide +kernel
theorem dX7_dropRetained_16 : decode cX7_dropRetained 16 = .ok (.if_icmp .ge 23, 3) := by decide +kernel
theorem dX7_dropRetained_19 : decode cX7_dropRetained 19 = .ok (.aload_n 0, 1) := by decide +kernel
theorem dX7_dropRetained_20 : decode cX7_dropRetained 20 = .ok (.getfield 33, 3) := by decide +kernel
theorem dX7_dropRetained_23 : decode cX7_dropRetained 23 = .ok (.iload_n 3, 1) := by decide +kernel
theorem dX7_dropRetained_24 : decode cX7_dropRetained 24 = .ok (.aload_n 0, 1) := by decide +kernel
theorem dX7_dropRetained_25 : decode cX7_dropRetained 25 = .ok (.getfield 33, 3) := by decide +kernel
theorem dX7_dropRetained_28 : decode cX7_dropRetained 28 = .ok (.iload_n 3, 1) := by decide +kernel
theorem dX7_dropRetained_29 : decode cX7_dropRetained 29 = .ok (.iconst 1, 1) := by decide +kernel
theorem dX7_dropRetained_30 : decode cX7_dropRetained 30 = .ok (.iadd, 1) := by decide +kernel
theorem dX7_dropRetained_31 : decode cX7_dropRetained 31 = .ok (.aaload, 1) := by decide +kernel
theorem dX7_dropRetained_32 : decode cX7_dropRetained 32 = .ok (.aastore, 1) := by decide +kernel
theorem dX7_dropRetained_33 : decode cX7_dropRetained 33 = .ok (.iinc 3 1, 3) := by decide +kernel
theorem dX7_dropRetained_36 : decode cX7_dropRetained 36 = .ok (.goto (-27), 3) := by decide +kernel
theorem dX7_dropRetained_39 : decode cX7_dropRetained 39 = .ok (.aload_n 0, 1) := by decide +kernel
theorem dX7_dropRetained_40 : decode cX7_dropRetained 40 = .ok (.getfield 33, 3) := by decide +kernel
theorem dX7_dropRetained_43 : decode cX7_dropRetained 43 = .ok (.aload_n 0, 1) := by decide +kernel
theorem dX7_dropRetained_44 : decode cX7_dropRetained 44 = .ok (.getfield 70, 3) := by decide +kernel
theorem dX7_dropRetained_47 : decode cX7_dropRetained 47 = .ok (.iconst 1, 1) := by decide +kernel
theorem dX7_dropRetained_48 : decode cX7_dropRetained 48 = .ok (.isub, 1) := by decide +kernel
theorem dX7_dropRetained_49 : decode cX7_dropRetained 49 = .ok (.aload_n 2, 1) := by decide +kernel
theorem dX7_dropRetained_50 : decode cX7_dropRetained 50 = .ok (.aastore, 1) := by decide +kernel
theorem dX7_dropRetained_51 : decode cX7_dropRetained 51 = .ok (.aload_n 0, 1) := by decide +kernel
theorem dX7_dropRetained_52 : decode cX7_dropRetained 52 = .ok (.dup, 1) := by decide +kernel
theorem dX7_dropRetained_53 : decode cX7_dropRetained 53 = .ok (.getfield 70, 3) := by decide +kernel
theorem dX7_dropRetained_56 : decode cX7_dropRetained 56 = .ok (.iconst 1, 1) := by decide +kernel
theorem dX7_dropRetained_57 : decode cX7_dropRetained 57 = .ok (.isub, 1) := by decide +kernel
theorem dX7_dropRetained_58 : decode cX7_dropRetained 58 = .ok (.putfield 70, 3) := by decide +kernel
theorem dX7_dropRetained_61 : decode cX7_dropRetained 61 = .ok (.return_, 1) := by decide +kernel
theorem dX7_openRetained_0 : decode cX7_openRetained 0 = .ok (.aload_n 0, 1) := by decide +kernel
theorem dX7_openRetained_1 : decode cX7_openRetained 1 = .ok (.getfield 33, 3) := by decide +kernel
theorem dX7_openRetained_4 : decode cX7_openRetained 4 = .ok (.aload_n 0, 1) := by decide +kernel
theorem dX7_openRetained_5 : decode cX7_openRetained 5 = .ok (.getfield 70, 3) := by decide +kernel
theorem dX7_openRetained_8 : decode cX7_openRetained 8 = .ok (.aaload, 1) := by decide +kernel
theorem dX7_openRetained_9 : decode cX7_openRetained 9 = .ok (.astore_n 2, 1) := by decide +kernel
theorem dX7_openRetained_10 : decode cX7_openRetained 10 = .ok (.aload_n 0, 1) := by decide +kernel
theorem dX7_openRetained_11 : decode cX7_openRetained 11 = .ok (.getfield 70, 3) := by decide +kernel
theorem dX7_openRetained_14 : decode cX7_openRetained 14 = .ok (.istore_n 3, 1) := by decide +kernel
theorem dX7_openRetained_15 : decode cX7_openRetained 15 = .ok (.iload_n 3, 1) := by decide +kernel
