theorem dX0_init_0 : decode cX0_init 0 = .ok (.aload_n 0, 1) := by decide +kernel
theorem dX0_init_1 : decode cX0_init 1 = .ok (.invokespecial 1, 3) := by decide +kernel
theorem dX0_init_4 : decode cX0_init 4 = .ok (.aload_n 0, 1) := by decide +kernel
theorem dX0_init_5 : decode cX0_init 5 = .ok (.new 7, 3) := by decide +kernel
theorem dX0_init_8 : decode cX0_init 8 = .ok (.dup, 1) := by decide +kernel
theorem dX0_init_9 : decode cX0_init 9 = .ok (.aload_n 1, 1) := by decide +kernel
theorem dX0_init_10 : decode cX0_init 10 = .ok (.invokespecial 9, 3) := by decide +kernel
theorem dX0_init_13 : decode cX0_init 13 = .ok (.putfield 12, 3) := by decide +kernel
theorem dX0_init_16 : decode cX0_init 16 = .ok (.aload_n 0, 1) := by decide +kernel
theorem dX0_init_17 : decode cX0_init 17 = .ok (.new 18, 3) := by decide +kernel
theorem dX0_init_20 : decode cX0_init 20 = .ok (.dup, 1) := by decide +kernel
theorem dX0_init_21 : decode cX0_init 21 = .ok (.aload_n 1, 1) := by decide +kernel
theorem dX0_init_22 : decode cX0_init 22 = .ok (.invokespecial 20, 3) := by decide +kernel
theorem dX0_init_25 : decode cX0_init 25 = .ok (.putfield 21, 3) := by decide +kernel
theorem dX0_init_28 : decode cX0_init 28 = .ok (.aload_n 0, 1) := by decide +kernel
theorem dX0_init_29 : decode cX0_init 29 = .ok (.new 25, 3) := by decide +kernel
theorem dX0_init_32 : decode cX0_init 32 = .ok (.dup, 1) := by decide +kernel
theorem dX0_init_33 : decode cX0_init 33 = .ok (.aload_n 1, 1) := by decide +kernel
theorem dX0_init_34 : decode cX0_init 34 = .ok (.invokespecial 27, 3) := by decide +kernel
theorem dX0_init_37 : decode cX0_init 37 = .ok (.putfield 28, 3) := by decide +kernel
theorem dX0_init_40 : decode cX0_init 40 = .ok (.return_, 1) := by decide +kernel
theorem dX0_copyFrom_0 : decode cX0_copyFrom 0 = .ok (.aload_n 0, 1) := by decide +kernel
theorem dX0_copyFrom_1 : decode cX0_copyFrom 1 = .ok (.aload_n 1, 1) := by decide +kernel
theorem dX0_copyFrom_2 : decode cX0_copyFrom 2 = .ok (.getfield 32, 3) := by decide +kernel
theorem dX0_copyFrom_5 : decode cX0_copyFrom 5 = .ok (.putfield 32, 3) := by decide +kernel
theorem dX0_copyFrom_8 : decode cX0_copyFrom 8 = .ok (.aload_n 0, 1) := by decide +kernel
theorem dX0_copyFrom_9 : decode cX0_copyFrom 9 = .ok (.aload_n 1, 1) := by decide +kernel
theorem dX0_copyFrom_10 : decode cX0_copyFrom 10 = .ok (.getfield 36, 3) := by decide +kernel
theorem dX0_copyFrom_13 : decode cX0_copyFrom 13 = .ok (.putfield 36, 3) := by decide +kernel
theorem dX0_copyFrom_16 : decode cX0_copyFrom 16 = .ok (.aload_n 0, 1) := by decide +kernel
theorem dX0_copyFrom_17 : decode cX0_copyFrom 17 = .ok (.aload_n 1, 1) := by decide +kernel
theorem dX0_copyFrom_18 : decode cX0_copyFrom 18 = .ok (.getfield 39, 3) := by decide +kernel
theorem dX0_copyFrom_21 : decode cX0_copyFrom 21 = .ok (.putfield 39, 3) := by decide +kernel
theorem dX0_copyFrom_24 : decode cX0_copyFrom 24 = .ok (.aload_n 0, 1) := by decide +kernel
theorem dX0_copyFrom_25 : decode cX0_copyFrom 25 = .ok (.getfield 12, 3) := by decide +kernel
theorem dX0_copyFrom_28 : decode cX0_copyFrom 28 = .ok (.aload_n 1, 1) := by decide +kernel
theorem dX0_copyFrom_29 : decode cX0_copyFrom 29 = .ok (.getfield 12, 3) := by decide +kernel
theorem dX0_copyFrom_32 : decode cX0_copyFrom 32 = .ok (.invokevirtual 42, 3) := by decide +kernel
theorem dX0_copyFrom_35 : decode cX0_copyFrom 35 = .ok (.aload_n 0, 1) := by decide +kernel
theorem dX0_copyFrom_36 : decode cX0_copyFrom 36 = .ok (.getfield 21, 3) := by decide +kernel
theorem dX0_copyFrom_39 : decode cX0_copyFrom 39 = .ok (.aload_n 1, 1) := by decide +kernel
theorem dX0_copyFrom_40 : decode cX0_copyFrom 40 = .ok (.getfield 21, 3) := by decide +kernel
theorem dX0_copyFrom_43 : decode cX0_copyFrom 43 = .ok (.invokevirtual 46, 3) := by decide +kernel
theorem dX0_copyFrom_46 : decode cX0_copyFrom 46 = .ok (.aload_n 0, 1) := by decide +kernel
theorem dX0_copyFrom_47 : decode cX0_copyFrom 47 = .ok (.getfield 28, 3) := by decide +kernel
theorem dX0_copyFrom_50 : decode cX0_copyFrom 50 = .ok (.aload_n 1, 1) := by decide +kernel
theorem dX0_copyFrom_51 : decode cX0_copyFrom 51 = .ok (.getfield 28, 3) := by decide +kernel
theorem dX0_copyFrom_54 : decode cX0_copyFrom 54 = .ok (.invokevirtual 49, 3) := by decide +kernel
theorem dX0_copyFrom_57 : decode cX0_copyFrom 57 = .ok (.aload_n 0, 1) := by decide +kernel
theorem dX0_copyFrom_58 : decode cX0_copyFrom 58 = .ok (.aload_n 1, 1) := by decide +kernel
theorem dX0_copyFrom_59 : decode cX0_copyFrom 59 = .ok (.getfield 52, 3) := by decide +kernel
theorem dX0_copyFrom_62 : decode cX0_copyFrom 62 = .ok (.putfield 52, 3) := by decide +kernel
theorem dX0_copyFrom_65 : decode cX0_copyFrom 65 = .ok (.aload_n 0, 1) := by decide +kernel
theorem dX0_copyFrom_66 : decode cX0_copyFrom 66 = .ok (.aload_n 1, 1) := by decide +kernel
theorem dX0_copyFrom_67 : decode cX0_copyFrom 67 = .ok (.getfield 56, 3) := by decide +kernel
theorem dX0_copyFrom_70 : decode cX0_copyFrom 70 = .ok (.putfield 56, 3) := by decide +kernel
theorem dX0_copyFrom_73 : decode cX0_copyFrom 73 = .ok (.return_, 1) := by decide +kernel
theorem dX1_init_0 : decode cX1_init 0 = .ok (.aload_n 0, 1) := by decide +kernel
theorem dX1_init_1 : decode cX1_init 1 = .ok (.invokespecial 1, 3) := by decide +kernel
theorem dX1_init_4 : decode cX1_init 4 = .ok (.aload_n 0, 1) := by decide +kernel
theorem dX1_init_5 : decode cX1_init 5 = .ok (.aload_n 1, 1) := by decide +kernel
theorem dX1_init_6 : decode cX1_init 6 = .ok (.putfield 7, 3) := by decide +kernel
theorem dX1_init_9 : decode cX1_init 9 = .ok (.return_, 1) := by decide +kernel
theorem dX1_fill_0 : decode cX1_fill 0 = .ok (.aload_n 0, 1) := by decide +kernel
theorem dX1_fill_1 : decode cX1_fill 1 = .ok (.aload_n 1, 1) := by decide +kernel
theorem dX1_fill_2 : decode cX1_fill 2 = .ok (.putfield 7, 3) := by decide +kernel
theorem dX1_fill_5 : decode cX1_fill 5 = .ok (.aload_n 0, 1) := by decide +kernel
theorem dX1_fill_6 : decode cX1_fill 6 = .ok (.iload_n 2, 1) := by decide +kernel
theorem dX1_fill_7 : decode cX1_fill 7 = .ok (.putfield 13, 3) := by decide +kernel
theorem dX1_fill_10 : decode cX1_fill 10 = .ok (.aload_n 0, 1) := by decide +kernel
theorem dX1_fill_11 : decode cX1_fill 11 = .ok (.iload_n 3, 1) := by decide +kernel
theorem dX1_fill_12 : decode cX1_fill 12 = .ok (.putfield 17, 3) := by decide +kernel
theorem dX1_fill_15 : decode cX1_fill 15 = .ok (.aload_n 0, 1) := by decide +kernel
theorem dX1_fill_16 : decode cX1_fill 16 = .ok (.iconst 0, 1) := by decide +kernel
theorem dX1_fill_17 : decode cX1_fill 17 = .ok (.putfield 20, 3) := by decide +kernel
theorem dX1_fill_20 : decode cX1_fill 20 = .ok (.aload_n 0, 1) := by decide +kernel
theorem dX1_fill_21 : decode cX1_fill 21 = .ok (.iconst 0, 1) := by decide +kernel
theorem dX1_fill_22 : decode cX1_fill 22 = .ok (.putfield 23, 3) := by decide +kernel
theorem dX1_fill_25 : decode cX1_fill 25 = .ok (.aload_n 0, 1) := by decide +kernel
theorem dX1_fill_26 : decode cX1_fill 26 = .ok (.iconst 0, 1) := by decide +kernel
theorem dX1_fill_27 : decode cX1_fill 27 = .ok (.putfield 26, 3) := by decide +kernel
theorem dX1_fill_30 : decode cX1_fill 30 = .ok (.aload_n 0, 1) := by decide +kernel
theorem dX1_fill_31 : decode cX1_fill 31 = .ok (.iconst 0, 1) := by decide +kernel
theorem dX1_fill_32 : decode cX1_fill 32 = .ok (.putfield 29, 3) := by decide +kernel
theorem dX1_fill_35 : decode cX1_fill 35 = .ok (.return_, 1) := by decide +kernel
theorem dX1_copyFrom_0 : decode cX1_copyFrom 0 = .ok (.aload_n 0, 1) := by decide +kernel
theorem dX1_copyFrom_1 : decode cX1_copyFrom 1 = .ok (.aload_n 1, 1) := by decide +kernel
theorem dX1_copyFrom_2 : decode cX1_copyFrom 2 = .ok (.getfield 7, 3) := by decide +kernel
theorem dX1_copyFrom_5 : decode cX1_copyFrom 5 = .ok (.putfield 7, 3) := by decide +kernel
theorem dX1_copyFrom_8 : decode cX1_copyFrom 8 = .ok (.aload_n 0, 1) := by decide +kernel
theorem dX1_copyFrom_9 : decode cX1_copyFrom 9 = .ok (.aload_n 1, 1) := by decide +kernel
theorem dX1_copyFrom_10 : decode cX1_copyFrom 10 = .ok (.getfield 13, 3) := by decide +kernel
theorem dX1_copyFrom_13 : decode cX1_copyFrom 13 = .ok (.putfield 13, 3) := by decide +kernel
theorem dX1_copyFrom_16 : decode cX1_copyFrom 16 = .ok (.aload_n 0, 1) := by decide +kernel
theorem dX1_copyFrom_17 : decode cX1_copyFrom 17 = .ok (.aload_n 1, 1) := by decide +kernel
theorem dX1_copyFrom_18 : decode cX1_copyFrom 18 = .ok (.getfield 17, 3) := by decide +kernel
theorem dX1_copyFrom_21 : decode cX1_copyFrom 21 = .ok (.putfield 17, 3) := by decide +kernel
theorem dX1_copyFrom_24 : decode cX1_copyFrom 24 = .ok (.aload_n 0, 1) := by decide +kernel
theorem dX1_copyFrom_25 : decode cX1_copyFrom 25 = .ok (.aload_n 1, 1) := by decide +kernel
theorem dX1_copyFrom_26 : decode cX1_copyFrom 26 = .ok (.getfield 20, 3) := by decide +kernel
theorem dX1_copyFrom_29 : decode cX1_copyFrom 29 = .ok (.putfield 20, 3) := by decide +kernel
theorem dX1_copyFrom_32 : decode cX1_copyFrom 32 = .ok (.aload_n 0, 1) := by decide +kernel
theorem dX1_copyFrom_33 : decode cX1_copyFrom 33 = .ok (.aload_n 1, 1) := by decide +kernel
theorem dX1_copyFrom_34 : decode cX1_copyFrom 34 = .ok (.getfield 23, 3) := by decide +kernel
theorem dX1_copyFrom_37 : decode cX1_copyFrom 37 = .ok (.putfield 23, 3) := by decide +kernel
theorem dX1_copyFrom_40 : decode cX1_copyFrom 40 = .ok (.aload_n 0, 1) := by decide +kernel
theorem dX1_copyFrom_41 : decode cX1_copyFrom 41 = .ok (.aload_n 1, 1) := by decide +kernel
theorem dX1_copyFrom_42 : decode cX1_copyFrom 42 = .ok (.getfield 26, 3) := by decide +kernel
theorem dX1_copyFrom_45 : decode cX1_copyFrom 45 = .ok (.putfield 26, 3) := by decide +kernel
theorem dX1_copyFrom_48 : decode cX1_copyFrom 48 = .ok (.aload_n 0, 1) := by decide +kernel
theorem dX1_copyFrom_49 : decode cX1_copyFrom 49 = .ok (.aload_n 1, 1) := by decide +kernel
theorem dX1_copyFrom_50 : decode cX1_copyFrom 50 = .ok (.getfield 29, 3) := by decide +kernel
theorem dX1_copyFrom_53 : decode cX1_copyFrom 53 = .ok (.putfield 29, 3) := by decide +kernel
theorem dX1_copyFrom_56 : decode cX1_copyFrom 56 = .ok (.return_, 1) := by decide +kernel
theorem dX2_init_0 : decode cX2_init 0 = .ok (.aload_n 0, 1) := by decide +kernel
theorem dX2_init_1 : decode cX2_init 1 = .ok (.invokespecial 1, 3) := by decide +kernel
theorem dX2_init_4 : decode cX2_init 4 = .ok (.aload_n 0, 1) := by decide +kernel
theorem dX2_init_5 : decode cX2_init 5 = .ok (.iconst 1, 1) := by decide +kernel
theorem dX2_init_6 : decode cX2_init 6 = .ok (.iload_n 1, 1) := by decide +kernel
theorem dX2_init_7 : decode cX2_init 7 = .ok (.invokestatic 7, 3) := by decide +kernel
theorem dX2_init_10 : decode cX2_init 10 = .ok (.anewarray 13, 3) := by decide +kernel
theorem dX2_init_13 : decode cX2_init 13 = .ok (.putfield 15, 3) := by decide +kernel
theorem dX2_init_16 : decode cX2_init 16 = .ok (.iconst 0, 1) := by decide +kernel
theorem dX2_init_17 : decode cX2_init 17 = .ok (.istore_n 3, 1) := by decide +kernel
theorem dX2_init_18 : decode cX2_init 18 = .ok (.iload_n 3, 1) := by decide +kernel
theorem dX2_init_19 : decode cX2_init 19 = .ok (.aload_n 0, 1) := by decide +kernel
theorem dX2_init_20 : decode cX2_init 20 = .ok (.getfield 15, 3) := by decide +kernel
theorem dX2_init_23 : decode cX2_init 23 = .ok (.arraylength, 1) := by decide +kernel
theorem dX2_init_24 : decode cX2_init 24 = .ok (.if_icmp .ge 23, 3) := by decide +kernel
theorem dX2_init_27 : decode cX2_init 27 = .ok (.aload_n 0, 1) := by decide +kernel
theorem dX2_init_28 : decode cX2_init 28 = .ok (.getfield 15, 3) := by decide +kernel
theorem dX2_init_31 : decode cX2_init 31 = .ok (.iload_n 3, 1) := by decide +kernel
theorem dX2_init_32 : decode cX2_init 32 = .ok (.new 13, 3) := by decide +kernel
theorem dX2_init_35 : decode cX2_init 35 = .ok (.dup, 1) := by decide +kernel
theorem dX2_init_36 : decode cX2_init 36 = .ok (.aload_n 2, 1) := by decide +kernel
theorem dX2_init_37 : decode cX2_init 37 = .ok (.invokespecial 21, 3) := by decide +kernel
theorem dX2_init_40 : decode cX2_init 40 = .ok (.aastore, 1) := by decide +kernel
theorem dX2_init_41 : decode cX2_init 41 = .ok (.iinc 3 1, 3) := by decide +kernel
theorem dX2_init_44 : decode cX2_init 44 = .ok (.goto (-26), 3) := by decide +kernel
theorem dX2_init_47 : decode cX2_init 47 = .ok (.return_, 1) := by decide +kernel
theorem dX2_add_0 : decode cX2_add 0 = .ok (.aload_n 0, 1) := by decide +kernel
theorem dX2_add_1 : decode cX2_add 1 = .ok (.getfield 24, 3) := by decide +kernel
theorem dX2_add_4 : decode cX2_add 4 = .ok (.ifCond .lt 38, 3) := by decide +kernel
theorem dX2_add_7 : decode cX2_add 7 = .ok (.aload_n 0, 1) := by decide +kernel
theorem dX2_add_8 : decode cX2_add 8 = .ok (.getfield 24, 3) := by decide +kernel
theorem dX2_add_11 : decode cX2_add 11 = .ok (.aload_n 0, 1) := by decide +kernel
theorem dX2_add_12 : decode cX2_add 12 = .ok (.getfield 15, 3) := by decide +kernel
theorem dX2_add_15 : decode cX2_add 15 = .ok (.arraylength, 1) := by decide +kernel
theorem dX2_add_16 : decode cX2_add 16 = .ok (.if_icmp .ge 26, 3) := by decide +kernel
theorem dX2_add_19 : decode cX2_add 19 = .ok (.aload_n 0, 1) := by decide +kernel
theorem dX2_add_20 : decode cX2_add 20 = .ok (.getfield 15, 3) := by decide +kernel
theorem dX2_add_23 : decode cX2_add 23 = .ok (.aload_n 0, 1) := by decide +kernel
theorem dX2_add_24 : decode cX2_add 24 = .ok (.getfield 24, 3) := by decide +kernel
theorem dX2_add_27 : decode cX2_add 27 = .ok (.aaload, 1) := by decide +kernel
theorem dX2_add_28 : decode cX2_add 28 = .ok (.aload_n 1, 1) := by decide +kernel
theorem dX2_add_29 : decode cX2_add 29 = .ok (.invokevirtual 28, 3) := by decide +kernel
theorem dX2_add_32 : decode cX2_add 32 = .ok (.aload_n 0, 1) := by decide +kernel
theorem dX2_add_33 : decode cX2_add 33 = .ok (.dup, 1) := by decide +kernel
theorem dX2_add_34 : decode cX2_add 34 = .ok (.getfield 24, 3) := by decide +kernel
theorem dX2_add_37 : decode cX2_add 37 = .ok (.iconst 1, 1) := by decide +kernel
theorem dX2_add_38 : decode cX2_add 38 = .ok (.iadd, 1) := by decide +kernel
theorem dX2_add_39 : decode cX2_add 39 = .ok (.putfield 24, 3) := by decide +kernel
theorem dX2_add_42 : decode cX2_add 42 = .ok (.return_, 1) := by decide +kernel
theorem dX2_removeAt_0 : decode cX2_removeAt 0 = .ok (.iload_n 1, 1) := by decide +kernel
theorem dX2_removeAt_1 : decode cX2_removeAt 1 = .ok (.ifCond .lt 23, 3) := by decide +kernel
theorem dX2_removeAt_4 : decode cX2_removeAt 4 = .ok (.iload_n 1, 1) := by decide +kernel
theorem dX2_removeAt_5 : decode cX2_removeAt 5 = .ok (.aload_n 0, 1) := by decide +kernel
theorem dX2_removeAt_6 : decode cX2_removeAt 6 = .ok (.getfield 24, 3) := by decide +kernel
theorem dX2_removeAt_9 : decode cX2_removeAt 9 = .ok (.if_icmp .ge 15, 3) := by decide +kernel
theorem dX2_removeAt_12 : decode cX2_removeAt 12 = .ok (.aload_n 0, 1) := by decide +kernel
theorem dX2_removeAt_13 : decode cX2_removeAt 13 = .ok (.getfield 24, 3) := by decide +kernel
theorem dX2_removeAt_16 : decode cX2_removeAt 16 = .ok (.aload_n 0, 1) := by decide +kernel
theorem dX2_removeAt_17 : decode cX2_removeAt 17 = .ok (.getfield 15, 3) := by decide +kernel
theorem dX2_removeAt_20 : decode cX2_removeAt 20 = .ok (.arraylength, 1) := by decide +kernel
theorem dX2_removeAt_21 : decode cX2_removeAt 21 = .ok (.if_icmp .le 4, 3) := by decide +kernel
theorem dX2_removeAt_24 : decode cX2_removeAt 24 = .ok (.return_, 1) := by decide +kernel
theorem dX2_removeAt_25 : decode cX2_removeAt 25 = .ok (.aload_n 0, 1) := by decide +kernel
theorem dX2_removeAt_26 : decode cX2_removeAt 26 = .ok (.getfield 15, 3) := by decide +kernel
theorem dX2_removeAt_29 : decode cX2_removeAt 29 = .ok (.iload_n 1, 1) := by decide +kernel
theorem dX2_removeAt_30 : decode cX2_removeAt 30 = .ok (.aaload, 1) := by decide +kernel
theorem dX2_removeAt_31 : decode cX2_removeAt 31 = .ok (.astore_n 2, 1) := by decide +kernel
theorem dX2_removeAt_32 : decode cX2_removeAt 32 = .ok (.iload_n 1, 1) := by decide +kernel
theorem dX2_removeAt_33 : decode cX2_removeAt 33 = .ok (.istore_n 3, 1) := by decide +kernel
theorem dX2_removeAt_34 : decode cX2_removeAt 34 = .ok (.iload_n 3, 1) := by decide +kernel
theorem dX2_removeAt_35 : decode cX2_removeAt 35 = .ok (.iconst 1, 1) := by decide +kernel
theorem dX2_removeAt_36 : decode cX2_removeAt 36 = .ok (.iadd, 1) := by decide +kernel
theorem dX2_removeAt_37 : decode cX2_removeAt 37 = .ok (.aload_n 0, 1) := by decide +kernel
theorem dX2_removeAt_38 : decode cX2_removeAt 38 = .ok (.getfield 24, 3) := by decide +kernel
theorem dX2_removeAt_41 : decode cX2_removeAt 41 = .ok (.if_icmp .ge 23, 3) := by decide +kernel
theorem dX2_removeAt_44 : decode cX2_removeAt 44 = .ok (.aload_n 0, 1) := by decide +kernel
theorem dX2_removeAt_45 : decode cX2_removeAt 45 = .ok (.getfield 15, 3) := by decide +kernel
theorem dX2_removeAt_48 : decode cX2_removeAt 48 = .ok (.iload_n 3, 1) := by decide +kernel
theorem dX2_removeAt_49 : decode cX2_removeAt 49 = .ok (.aload_n 0, 1) := by decide +kernel
theorem dX2_removeAt_50 : decode cX2_removeAt 50 = .ok (.getfield 15, 3) := by decide +kernel
theorem dX2_removeAt_53 : decode cX2_removeAt 53 = .ok (.iload_n 3, 1) := by decide +kernel
theorem dX2_removeAt_54 : decode cX2_removeAt 54 = .ok (.iconst 1, 1) := by decide +kernel
theorem dX2_removeAt_55 : decode cX2_removeAt 55 = .ok (.iadd, 1) := by decide +kernel
theorem dX2_removeAt_56 : decode cX2_removeAt 56 = .ok (.aaload, 1) := by decide +kernel
theorem dX2_removeAt_57 : decode cX2_removeAt 57 = .ok (.aastore, 1) := by decide +kernel
theorem dX2_removeAt_58 : decode cX2_removeAt 58 = .ok (.iinc 3 1, 3) := by decide +kernel
theorem dX2_removeAt_61 : decode cX2_removeAt 61 = .ok (.goto (-27), 3) := by decide +kernel
theorem dX2_removeAt_64 : decode cX2_removeAt 64 = .ok (.aload_n 0, 1) := by decide +kernel
theorem dX2_removeAt_65 : decode cX2_removeAt 65 = .ok (.getfield 15, 3) := by decide +kernel
theorem dX2_removeAt_68 : decode cX2_removeAt 68 = .ok (.aload_n 0, 1) := by decide +kernel
theorem dX2_removeAt_69 : decode cX2_removeAt 69 = .ok (.getfield 24, 3) := by decide +kernel
theorem dX2_removeAt_72 : decode cX2_removeAt 72 = .ok (.iconst 1, 1) := by decide +kernel
theorem dX2_removeAt_73 : decode cX2_removeAt 73 = .ok (.isub, 1) := by decide +kernel
theorem dX2_removeAt_74 : decode cX2_removeAt 74 = .ok (.aload_n 2, 1) := by decide +kernel
theorem dX2_removeAt_75 : decode cX2_removeAt 75 = .ok (.aastore, 1) := by decide +kernel
theorem dX2_removeAt_76 : decode cX2_removeAt 76 = .ok (.aload_n 0, 1) := by decide +kernel
theorem dX2_removeAt_77 : decode cX2_removeAt 77 = .ok (.dup, 1) := by decide +kernel
theorem dX2_removeAt_78 : decode cX2_removeAt 78 = .ok (.getfield 24, 3) := by decide +kernel
theorem dX2_removeAt_81 : decode cX2_removeAt 81 = .ok (.iconst 1, 1) := by decide +kernel
theorem dX2_removeAt_82 : decode cX2_removeAt 82 = .ok (.isub, 1) := by decide +kernel
theorem dX2_removeAt_83 : decode cX2_removeAt 83 = .ok (.putfield 24, 3) := by decide +kernel
theorem dX2_removeAt_86 : decode cX2_removeAt 86 = .ok (.return_, 1) := by decide +kernel
theorem dX2_placeOf_0 : decode cX2_placeOf 0 = .ok (.iconst 0, 1) := by decide +kernel
theorem dX2_placeOf_1 : decode cX2_placeOf 1 = .ok (.istore_n 2, 1) := by decide +kernel
theorem dX2_placeOf_2 : decode cX2_placeOf 2 = .ok (.iload_n 2, 1) := by decide +kernel
theorem dX2_placeOf_3 : decode cX2_placeOf 3 = .ok (.aload_n 0, 1) := by decide +kernel
theorem dX2_placeOf_4 : decode cX2_placeOf 4 = .ok (.getfield 24, 3) := by decide +kernel
theorem dX2_placeOf_7 : decode cX2_placeOf 7 = .ok (.if_icmp .ge 33, 3) := by decide +kernel
theorem dX2_placeOf_10 : decode cX2_placeOf 10 = .ok (.iload_n 2, 1) := by decide +kernel
theorem dX2_placeOf_11 : decode cX2_placeOf 11 = .ok (.aload_n 0, 1) := by decide +kernel
theorem dX2_placeOf_12 : decode cX2_placeOf 12 = .ok (.getfield 15, 3) := by decide +kernel
theorem dX2_placeOf_15 : decode cX2_placeOf 15 = .ok (.arraylength, 1) := by decide +kernel
theorem dX2_placeOf_16 : decode cX2_placeOf 16 = .ok (.if_icmp .ge 24, 3) := by decide +kernel
theorem dX2_placeOf_19 : decode cX2_placeOf 19 = .ok (.aload_n 0, 1) := by decide +kernel
theorem dX2_placeOf_20 : decode cX2_placeOf 20 = .ok (.getfield 15, 3) := by decide +kernel
theorem dX2_placeOf_23 : decode cX2_placeOf 23 = .ok (.iload_n 2, 1) := by decide +kernel
theorem dX2_placeOf_24 : decode cX2_placeOf 24 = .ok (.aaload, 1) := by decide +kernel
theorem dX2_placeOf_25 : decode cX2_placeOf 25 = .ok (.getfield 32, 3) := by decide +kernel
theorem dX2_placeOf_28 : decode cX2_placeOf 28 = .ok (.iload_n 1, 1) := by decide +kernel
theorem dX2_placeOf_29 : decode cX2_placeOf 29 = .ok (.if_icmp .ne 5, 3) := by decide +kernel
theorem dX2_placeOf_32 : decode cX2_placeOf 32 = .ok (.iload_n 2, 1) := by decide +kernel
theorem dX2_placeOf_33 : decode cX2_placeOf 33 = .ok (.ireturn, 1) := by decide +kernel
theorem dX2_placeOf_34 : decode cX2_placeOf 34 = .ok (.iinc 2 1, 3) := by decide +kernel
theorem dX2_placeOf_37 : decode cX2_placeOf 37 = .ok (.goto (-35), 3) := by decide +kernel
theorem dX2_placeOf_40 : decode cX2_placeOf 40 = .ok (.iconst (-1), 1) := by decide +kernel
theorem dX2_placeOf_41 : decode cX2_placeOf 41 = .ok (.ireturn, 1) := by decide +kernel
theorem dX2_copyFrom_0 : decode cX2_copyFrom 0 = .ok (.aload_n 0, 1) := by decide +kernel
theorem dX2_copyFrom_1 : decode cX2_copyFrom 1 = .ok (.aload_n 1, 1) := by decide +kernel
theorem dX2_copyFrom_2 : decode cX2_copyFrom 2 = .ok (.getfield 24, 3) := by decide +kernel
theorem dX2_copyFrom_5 : decode cX2_copyFrom 5 = .ok (.putfield 24, 3) := by decide +kernel
theorem dX2_copyFrom_8 : decode cX2_copyFrom 8 = .ok (.iconst 0, 1) := by decide +kernel
theorem dX2_copyFrom_9 : decode cX2_copyFrom 9 = .ok (.istore_n 2, 1) := by decide +kernel
theorem dX2_copyFrom_10 : decode cX2_copyFrom 10 = .ok (.iload_n 2, 1) := by decide +kernel
theorem dX2_copyFrom_11 : decode cX2_copyFrom 11 = .ok (.aload_n 0, 1) := by decide +kernel
theorem dX2_copyFrom_12 : decode cX2_copyFrom 12 = .ok (.getfield 24, 3) := by decide +kernel
theorem dX2_copyFrom_15 : decode cX2_copyFrom 15 = .ok (.if_icmp .ge 42, 3) := by decide +kernel
theorem dX2_copyFrom_18 : decode cX2_copyFrom 18 = .ok (.iload_n 2, 1) := by decide +kernel
theorem dX2_copyFrom_19 : decode cX2_copyFrom 19 = .ok (.aload_n 0, 1) := by decide +kernel
theorem dX2_copyFrom_20 : decode cX2_copyFrom 20 = .ok (.getfield 15, 3) := by decide +kernel
theorem dX2_copyFrom_23 : decode cX2_copyFrom 23 = .ok (.arraylength, 1) := by decide +kernel
theorem dX2_copyFrom_24 : decode cX2_copyFrom 24 = .ok (.if_icmp .ge 33, 3) := by decide +kernel
theorem dX2_copyFrom_27 : decode cX2_copyFrom 27 = .ok (.iload_n 2, 1) := by decide +kernel
theorem dX2_copyFrom_28 : decode cX2_copyFrom 28 = .ok (.aload_n 1, 1) := by decide +kernel
theorem dX2_copyFrom_29 : decode cX2_copyFrom 29 = .ok (.getfield 15, 3) := by decide +kernel
theorem dX2_copyFrom_32 : decode cX2_copyFrom 32 = .ok (.arraylength, 1) := by decide +kernel
theorem dX2_copyFrom_33 : decode cX2_copyFrom 33 = .ok (.if_icmp .ge 24, 3) := by decide +kernel
theorem dX2_copyFrom_36 : decode cX2_copyFrom 36 = .ok (.aload_n 0, 1) := by decide +kernel
theorem dX2_copyFrom_37 : decode cX2_copyFrom 37 = .ok (.getfield 15, 3) := by decide +kernel
theorem dX2_copyFrom_40 : decode cX2_copyFrom 40 = .ok (.iload_n 2, 1) := by decide +kernel
theorem dX2_copyFrom_41 : decode cX2_copyFrom 41 = .ok (.aaload, 1) := by decide +kernel
theorem dX2_copyFrom_42 : decode cX2_copyFrom 42 = .ok (.aload_n 1, 1) := by decide +kernel
theorem dX2_copyFrom_43 : decode cX2_copyFrom 43 = .ok (.getfield 15, 3) := by decide +kernel
theorem dX2_copyFrom_46 : decode cX2_copyFrom 46 = .ok (.iload_n 2, 1) := by decide +kernel
theorem dX2_copyFrom_47 : decode cX2_copyFrom 47 = .ok (.aaload, 1) := by decide +kernel
theorem dX2_copyFrom_48 : decode cX2_copyFrom 48 = .ok (.invokevirtual 28, 3) := by decide +kernel
theorem dX2_copyFrom_51 : decode cX2_copyFrom 51 = .ok (.iinc 2 1, 3) := by decide +kernel
theorem dX2_copyFrom_54 : decode cX2_copyFrom 54 = .ok (.goto (-44), 3) := by decide +kernel
theorem dX2_copyFrom_57 : decode cX2_copyFrom 57 = .ok (.return_, 1) := by decide +kernel
theorem dX3_init_0 : decode cX3_init 0 = .ok (.aload_n 0, 1) := by decide +kernel
theorem dX3_init_1 : decode cX3_init 1 = .ok (.invokespecial 1, 3) := by decide +kernel
theorem dX3_init_4 : decode cX3_init 4 = .ok (.aload_n 0, 1) := by decide +kernel
theorem dX3_init_5 : decode cX3_init 5 = .ok (.aload_n 1, 1) := by decide +kernel
theorem dX3_init_6 : decode cX3_init 6 = .ok (.putfield 7, 3) := by decide +kernel
theorem dX3_init_9 : decode cX3_init 9 = .ok (.return_, 1) := by decide +kernel
theorem dX3_copyFrom_0 : decode cX3_copyFrom 0 = .ok (.aload_n 0, 1) := by decide +kernel
theorem dX3_copyFrom_1 : decode cX3_copyFrom 1 = .ok (.aload_n 1, 1) := by decide +kernel
theorem dX3_copyFrom_2 : decode cX3_copyFrom 2 = .ok (.getfield 13, 3) := by decide +kernel
theorem dX3_copyFrom_5 : decode cX3_copyFrom 5 = .ok (.putfield 13, 3) := by decide +kernel
theorem dX3_copyFrom_8 : decode cX3_copyFrom 8 = .ok (.aload_n 0, 1) := by decide +kernel
theorem dX3_copyFrom_9 : decode cX3_copyFrom 9 = .ok (.aload_n 1, 1) := by decide +kernel
theorem dX3_copyFrom_10 : decode cX3_copyFrom 10 = .ok (.getfield 17, 3) := by decide +kernel
theorem dX3_copyFrom_13 : decode cX3_copyFrom 13 = .ok (.putfield 17, 3) := by decide +kernel
theorem dX3_copyFrom_16 : decode cX3_copyFrom 16 = .ok (.aload_n 0, 1) := by decide +kernel
theorem dX3_copyFrom_17 : decode cX3_copyFrom 17 = .ok (.aload_n 1, 1) := by decide +kernel
theorem dX3_copyFrom_18 : decode cX3_copyFrom 18 = .ok (.getfield 20, 3) := by decide +kernel
theorem dX3_copyFrom_21 : decode cX3_copyFrom 21 = .ok (.putfield 20, 3) := by decide +kernel
theorem dX3_copyFrom_24 : decode cX3_copyFrom 24 = .ok (.aload_n 0, 1) := by decide +kernel
theorem dX3_copyFrom_25 : decode cX3_copyFrom 25 = .ok (.aload_n 1, 1) := by decide +kernel
theorem dX3_copyFrom_26 : decode cX3_copyFrom 26 = .ok (.getfield 23, 3) := by decide +kernel
theorem dX3_copyFrom_29 : decode cX3_copyFrom 29 = .ok (.putfield 23, 3) := by decide +kernel
theorem dX3_copyFrom_32 : decode cX3_copyFrom 32 = .ok (.aload_n 0, 1) := by decide +kernel
theorem dX3_copyFrom_33 : decode cX3_copyFrom 33 = .ok (.aload_n 1, 1) := by decide +kernel
theorem dX3_copyFrom_34 : decode cX3_copyFrom 34 = .ok (.getfield 26, 3) := by decide +kernel
theorem dX3_copyFrom_37 : decode cX3_copyFrom 37 = .ok (.putfield 26, 3) := by decide +kernel
theorem dX3_copyFrom_40 : decode cX3_copyFrom 40 = .ok (.aload_n 0, 1) := by decide +kernel
theorem dX3_copyFrom_41 : decode cX3_copyFrom 41 = .ok (.aload_n 1, 1) := by decide +kernel
theorem dX3_copyFrom_42 : decode cX3_copyFrom 42 = .ok (.getfield 7, 3) := by decide +kernel
theorem dX3_copyFrom_45 : decode cX3_copyFrom 45 = .ok (.putfield 7, 3) := by decide +kernel
theorem dX3_copyFrom_48 : decode cX3_copyFrom 48 = .ok (.return_, 1) := by decide +kernel
theorem dX4_init_0 : decode cX4_init 0 = .ok (.aload_n 0, 1) := by decide +kernel
theorem dX4_init_1 : decode cX4_init 1 = .ok (.invokespecial 3, 3) := by decide +kernel
theorem dX4_init_4 : decode cX4_init 4 = .ok (.aload_n 0, 1) := by decide +kernel
theorem dX4_init_5 : decode cX4_init 5 = .ok (.bipush 30, 2) := by decide +kernel
theorem dX4_init_7 : decode cX4_init 7 = .ok (.anewarray 9, 3) := by decide +kernel
theorem dX4_init_10 : decode cX4_init 10 = .ok (.putfield 11, 3) := by decide +kernel
theorem dX4_init_13 : decode cX4_init 13 = .ok (.iconst 0, 1) := by decide +kernel
theorem dX4_init_14 : decode cX4_init 14 = .ok (.istore_n 2, 1) := by decide +kernel
theorem dX4_init_15 : decode cX4_init 15 = .ok (.iload_n 2, 1) := by decide +kernel
theorem dX4_init_16 : decode cX4_init 16 = .ok (.bipush 30, 2) := by decide +kernel
theorem dX4_init_18 : decode cX4_init 18 = .ok (.if_icmp .ge 23, 3) := by decide +kernel
theorem dX4_init_21 : decode cX4_init 21 = .ok (.aload_n 0, 1) := by decide +kernel
theorem dX4_init_22 : decode cX4_init 22 = .ok (.getfield 11, 3) := by decide +kernel
theorem dX4_init_25 : decode cX4_init 25 = .ok (.iload_n 2, 1) := by decide +kernel
theorem dX4_init_26 : decode cX4_init 26 = .ok (.new 9, 3) := by decide +kernel
theorem dX4_init_29 : decode cX4_init 29 = .ok (.dup, 1) := by decide +kernel
theorem dX4_init_30 : decode cX4_init 30 = .ok (.aload_n 1, 1) := by decide +kernel
theorem dX4_init_31 : decode cX4_init 31 = .ok (.invokespecial 17, 3) := by decide +kernel
theorem dX4_init_34 : decode cX4_init 34 = .ok (.aastore, 1) := by decide +kernel
theorem dX4_init_35 : decode cX4_init 35 = .ok (.iinc 2 1, 3) := by decide +kernel
theorem dX4_init_38 : decode cX4_init 38 = .ok (.goto (-23), 3) := by decide +kernel
theorem dX4_init_41 : decode cX4_init 41 = .ok (.return_, 1) := by decide +kernel
theorem dX4_head_0 : decode cX4_head 0 = .ok (.aload_n 0, 1) := by decide +kernel
theorem dX4_head_1 : decode cX4_head 1 = .ok (.getfield 11, 3) := by decide +kernel
theorem dX4_head_4 : decode cX4_head 4 = .ok (.aload_n 0, 1) := by decide +kernel
theorem dX4_head_5 : decode cX4_head 5 = .ok (.getfield 20, 3) := by decide +kernel
theorem dX4_head_8 : decode cX4_head 8 = .ok (.aaload, 1) := by decide +kernel
theorem dX4_head_9 : decode cX4_head 9 = .ok (.areturn, 1) := by decide +kernel
theorem dX4_extend_0 : decode cX4_extend 0 = .ok (.aload_n 0, 1) := by decide +kernel
theorem dX4_extend_1 : decode cX4_extend 1 = .ok (.getfield 24, 3) := by decide +kernel
theorem dX4_extend_4 : decode cX4_extend 4 = .ok (.bipush 30, 2) := by decide +kernel
theorem dX4_extend_6 : decode cX4_extend 6 = .ok (.if_icmp .ge 13, 3) := by decide +kernel
theorem dX4_extend_9 : decode cX4_extend 9 = .ok (.aload_n 0, 1) := by decide +kernel
theorem dX4_extend_10 : decode cX4_extend 10 = .ok (.dup, 1) := by decide +kernel
theorem dX4_extend_11 : decode cX4_extend 11 = .ok (.getfield 24, 3) := by decide +kernel
theorem dX4_extend_14 : decode cX4_extend 14 = .ok (.iconst 1, 1) := by decide +kernel
theorem dX4_extend_15 : decode cX4_extend 15 = .ok (.iadd, 1) := by decide +kernel
theorem dX4_extend_16 : decode cX4_extend 16 = .ok (.putfield 24, 3) := by decide +kernel
theorem dX4_extend_19 : decode cX4_extend 19 = .ok (.aload_n 0, 1) := by decide +kernel
theorem dX4_extend_20 : decode cX4_extend 20 = .ok (.getfield 11, 3) := by decide +kernel
theorem dX4_extend_23 : decode cX4_extend 23 = .ok (.aload_n 0, 1) := by decide +kernel
theorem dX4_extend_24 : decode cX4_extend 24 = .ok (.getfield 20, 3) := by decide +kernel
theorem dX4_extend_27 : decode cX4_extend 27 = .ok (.aload_n 0, 1) := by decide +kernel
theorem dX4_extend_28 : decode cX4_extend 28 = .ok (.getfield 24, 3) := by decide +kernel
theorem dX4_extend_31 : decode cX4_extend 31 = .ok (.iadd, 1) := by decide +kernel
theorem dX4_extend_32 : decode cX4_extend 32 = .ok (.iconst 1, 1) := by decide +kernel
theorem dX4_extend_33 : decode cX4_extend 33 = .ok (.isub, 1) := by decide +kernel
theorem dX4_extend_34 : decode cX4_extend 34 = .ok (.bipush 30, 2) := by decide +kernel
theorem dX4_extend_36 : decode cX4_extend 36 = .ok (.irem, 1) := by decide +kernel
theorem dX4_extend_37 : decode cX4_extend 37 = .ok (.aaload, 1) := by decide +kernel
theorem dX4_extend_38 : decode cX4_extend 38 = .ok (.areturn, 1) := by decide +kernel
theorem dX4_dropFirst_0 : decode cX4_dropFirst 0 = .ok (.aload_n 0, 1) := by decide +kernel
theorem dX4_dropFirst_1 : decode cX4_dropFirst 1 = .ok (.getfield 24, 3) := by decide +kernel
theorem dX4_dropFirst_4 : decode cX4_dropFirst 4 = .ok (.ifCond .le 26, 3) := by decide +kernel
theorem dX4_dropFirst_7 : decode cX4_dropFirst 7 = .ok (.aload_n 0, 1) := by decide +kernel
theorem dX4_dropFirst_8 : decode cX4_dropFirst 8 = .ok (.aload_n 0, 1) := by decide +kernel
theorem dX4_dropFirst_9 : decode cX4_dropFirst 9 = .ok (.getfield 20, 3) := by decide +kernel
theorem dX4_dropFirst_12 : decode cX4_dropFirst 12 = .ok (.iconst 1, 1) := by decide +kernel
theorem dX4_dropFirst_13 : decode cX4_dropFirst 13 = .ok (.iadd, 1) := by decide +kernel
theorem dX4_dropFirst_14 : decode cX4_dropFirst 14 = .ok (.bipush 30, 2) := by decide +kernel
theorem dX4_dropFirst_16 : decode cX4_dropFirst 16 = .ok (.irem, 1) := by decide +kernel
theorem dX4_dropFirst_17 : decode cX4_dropFirst 17 = .ok (.putfield 20, 3) := by decide +kernel
theorem dX4_dropFirst_20 : decode cX4_dropFirst 20 = .ok (.aload_n 0, 1) := by decide +kernel
theorem dX4_dropFirst_21 : decode cX4_dropFirst 21 = .ok (.dup, 1) := by decide +kernel
theorem dX4_dropFirst_22 : decode cX4_dropFirst 22 = .ok (.getfield 24, 3) := by decide +kernel
theorem dX4_dropFirst_25 : decode cX4_dropFirst 25 = .ok (.iconst 1, 1) := by decide +kernel
theorem dX4_dropFirst_26 : decode cX4_dropFirst 26 = .ok (.isub, 1) := by decide +kernel
theorem dX4_dropFirst_27 : decode cX4_dropFirst 27 = .ok (.putfield 24, 3) := by decide +kernel
theorem dX4_dropFirst_30 : decode cX4_dropFirst 30 = .ok (.return_, 1) := by decide +kernel
theorem dX4_clear_0 : decode cX4_clear 0 = .ok (.aload_n 0, 1) := by decide +kernel
theorem dX4_clear_1 : decode cX4_clear 1 = .ok (.iconst 0, 1) := by decide +kernel
theorem dX4_clear_2 : decode cX4_clear 2 = .ok (.putfield 20, 3) := by decide +kernel
theorem dX4_clear_5 : decode cX4_clear 5 = .ok (.aload_n 0, 1) := by decide +kernel
theorem dX4_clear_6 : decode cX4_clear 6 = .ok (.iconst 0, 1) := by decide +kernel
theorem dX4_clear_7 : decode cX4_clear 7 = .ok (.putfield 24, 3) := by decide +kernel
theorem dX4_clear_10 : decode cX4_clear 10 = .ok (.return_, 1) := by decide +kernel
theorem dX4_copyFrom_0 : decode cX4_copyFrom 0 = .ok (.aload_n 0, 1) := by decide +kernel
theorem dX4_copyFrom_1 : decode cX4_copyFrom 1 = .ok (.iconst 0, 1) := by decide +kernel
theorem dX4_copyFrom_2 : decode cX4_copyFrom 2 = .ok (.putfield 20, 3) := by decide +kernel
theorem dX4_copyFrom_5 : decode cX4_copyFrom 5 = .ok (.aload_n 0, 1) := by decide +kernel
theorem dX4_copyFrom_6 : decode cX4_copyFrom 6 = .ok (.aload_n 1, 1) := by decide +kernel
theorem dX4_copyFrom_7 : decode cX4_copyFrom 7 = .ok (.getfield 24, 3) := by decide +kernel
theorem dX4_copyFrom_10 : decode cX4_copyFrom 10 = .ok (.putfield 24, 3) := by decide +kernel
theorem dX4_copyFrom_13 : decode cX4_copyFrom 13 = .ok (.iconst 0, 1) := by decide +kernel
theorem dX4_copyFrom_14 : decode cX4_copyFrom 14 = .ok (.istore_n 2, 1) := by decide +kernel
theorem dX4_copyFrom_15 : decode cX4_copyFrom 15 = .ok (.iload_n 2, 1) := by decide +kernel
theorem dX4_copyFrom_16 : decode cX4_copyFrom 16 = .ok (.aload_n 0, 1) := by decide +kernel
theorem dX4_copyFrom_17 : decode cX4_copyFrom 17 = .ok (.getfield 24, 3) := by decide +kernel
theorem dX4_copyFrom_20 : decode cX4_copyFrom 20 = .ok (.if_icmp .ge 38, 3) := by decide +kernel
theorem dX4_copyFrom_23 : decode cX4_copyFrom 23 = .ok (.iload_n 2, 1) := by decide +kernel
theorem dX4_copyFrom_24 : decode cX4_copyFrom 24 = .ok (.bipush 30, 2) := by decide +kernel
theorem dX4_copyFrom_26 : decode cX4_copyFrom 26 = .ok (.if_icmp .ge 32, 3) := by decide +kernel
theorem dX4_copyFrom_29 : decode cX4_copyFrom 29 = .ok (.aload_n 0, 1) := by decide +kernel
theorem dX4_copyFrom_30 : decode cX4_copyFrom 30 = .ok (.getfield 11, 3) := by decide +kernel
theorem dX4_copyFrom_33 : decode cX4_copyFrom 33 = .ok (.iload_n 2, 1) := by decide +kernel
theorem dX4_copyFrom_34 : decode cX4_copyFrom 34 = .ok (.aaload, 1) := by decide +kernel
theorem dX4_copyFrom_35 : decode cX4_copyFrom 35 = .ok (.aload_n 1, 1) := by decide +kernel
theorem dX4_copyFrom_36 : decode cX4_copyFrom 36 = .ok (.getfield 11, 3) := by decide +kernel
theorem dX4_copyFrom_39 : decode cX4_copyFrom 39 = .ok (.aload_n 1, 1) := by decide +kernel
theorem dX4_copyFrom_40 : decode cX4_copyFrom 40 = .ok (.getfield 20, 3) := by decide +kernel
theorem dX4_copyFrom_43 : decode cX4_copyFrom 43 = .ok (.iload_n 2, 1) := by decide +kernel
theorem dX4_copyFrom_44 : decode cX4_copyFrom 44 = .ok (.iadd, 1) := by decide +kernel
theorem dX4_copyFrom_45 : decode cX4_copyFrom 45 = .ok (.bipush 30, 2) := by decide +kernel
theorem dX4_copyFrom_47 : decode cX4_copyFrom 47 = .ok (.irem, 1) := by decide +kernel
theorem dX4_copyFrom_48 : decode cX4_copyFrom 48 = .ok (.aaload, 1) := by decide +kernel
theorem dX4_copyFrom_49 : decode cX4_copyFrom 49 = .ok (.invokevirtual 27, 3) := by decide +kernel
theorem dX4_copyFrom_52 : decode cX4_copyFrom 52 = .ok (.iinc 2 1, 3) := by decide +kernel
theorem dX4_copyFrom_55 : decode cX4_copyFrom 55 = .ok (.goto (-40), 3) := by decide +kernel
theorem dX4_copyFrom_58 : decode cX4_copyFrom 58 = .ok (.return_, 1) := by decide +kernel
theorem dX5_init_0 : decode cX5_init 0 = .ok (.aload_n 0, 1) := by decide +kernel
theorem dX5_init_1 : decode cX5_init 1 = .ok (.invokespecial 3, 3) := by decide +kernel
theorem dX5_init_4 : decode cX5_init 4 = .ok (.aload_n 0, 1) := by decide +kernel
theorem dX5_init_5 : decode cX5_init 5 = .ok (.bipush 51, 2) := by decide +kernel
theorem dX5_init_7 : decode cX5_init 7 = .ok (.newarray .boolean, 2) := by decide +kernel
theorem dX5_init_9 : decode cX5_init 9 = .ok (.putfield 9, 3) := by decide +kernel
theorem dX5_init_12 : decode cX5_init 12 = .ok (.aload_n 0, 1) := by decide +kernel
theorem dX5_init_13 : decode cX5_init 13 = .ok (.bipush 6, 2) := by decide +kernel
theorem dX5_init_15 : decode cX5_init 15 = .ok (.anewarray 15, 3) := by decide +kernel
theorem dX5_init_18 : decode cX5_init 18 = .ok (.putfield 17, 3) := by decide +kernel
theorem dX5_init_21 : decode cX5_init 21 = .ok (.iconst 0, 1) := by decide +kernel
theorem dX5_init_22 : decode cX5_init 22 = .ok (.istore_n 2, 1) := by decide +kernel
theorem dX5_init_23 : decode cX5_init 23 = .ok (.iload_n 2, 1) := by decide +kernel
theorem dX5_init_24 : decode cX5_init 24 = .ok (.bipush 6, 2) := by decide +kernel
theorem dX5_init_26 : decode cX5_init 26 = .ok (.if_icmp .ge 23, 3) := by decide +kernel
theorem dX5_init_29 : decode cX5_init 29 = .ok (.aload_n 0, 1) := by decide +kernel
theorem dX5_init_30 : decode cX5_init 30 = .ok (.getfield 17, 3) := by decide +kernel
theorem dX5_init_33 : decode cX5_init 33 = .ok (.iload_n 2, 1) := by decide +kernel
theorem dX5_init_34 : decode cX5_init 34 = .ok (.new 15, 3) := by decide +kernel
theorem dX5_init_37 : decode cX5_init 37 = .ok (.dup, 1) := by decide +kernel
theorem dX5_init_38 : decode cX5_init 38 = .ok (.aload_n 1, 1) := by decide +kernel
theorem dX5_init_39 : decode cX5_init 39 = .ok (.invokespecial 21, 3) := by decide +kernel
theorem dX5_init_42 : decode cX5_init 42 = .ok (.aastore, 1) := by decide +kernel
theorem dX5_init_43 : decode cX5_init 43 = .ok (.iinc 2 1, 3) := by decide +kernel
theorem dX5_init_46 : decode cX5_init 46 = .ok (.goto (-23), 3) := by decide +kernel
theorem dX5_init_49 : decode cX5_init 49 = .ok (.aload_n 0, 1) := by decide +kernel
theorem dX5_init_50 : decode cX5_init 50 = .ok (.new 24, 3) := by decide +kernel
theorem dX5_init_53 : decode cX5_init 53 = .ok (.dup, 1) := by decide +kernel
theorem dX5_init_54 : decode cX5_init 54 = .ok (.iconst 5, 1) := by decide +kernel
theorem dX5_init_55 : decode cX5_init 55 = .ok (.aload_n 1, 1) := by decide +kernel
theorem dX5_init_56 : decode cX5_init 56 = .ok (.invokespecial 26, 3) := by decide +kernel
theorem dX5_init_59 : decode cX5_init 59 = .ok (.putfield 29, 3) := by decide +kernel
theorem dX5_init_62 : decode cX5_init 62 = .ok (.aload_n 0, 1) := by decide +kernel
theorem dX5_init_63 : decode cX5_init 63 = .ok (.new 24, 3) := by decide +kernel
theorem dX5_init_66 : decode cX5_init 66 = .ok (.dup, 1) := by decide +kernel
theorem dX5_init_67 : decode cX5_init 67 = .ok (.bipush 8, 2) := by decide +kernel
theorem dX5_init_69 : decode cX5_init 69 = .ok (.aload_n 1, 1) := by decide +kernel
theorem dX5_init_70 : decode cX5_init 70 = .ok (.invokespecial 26, 3) := by decide +kernel
theorem dX5_init_73 : decode cX5_init 73 = .ok (.putfield 33, 3) := by decide +kernel
theorem dX5_init_76 : decode cX5_init 76 = .ok (.return_, 1) := by decide +kernel
theorem dX5_begin_0 : decode cX5_begin 0 = .ok (.aload_n 0, 1) := by decide +kernel
theorem dX5_begin_1 : decode cX5_begin 1 = .ok (.invokevirtual 36, 3) := by decide +kernel
theorem dX5_begin_4 : decode cX5_begin 4 = .ok (.aload_n 0, 1) := by decide +kernel
theorem dX5_begin_5 : decode cX5_begin 5 = .ok (.iconst 1, 1) := by decide +kernel
theorem dX5_begin_6 : decode cX5_begin 6 = .ok (.putfield 39, 3) := by decide +kernel
theorem dX5_begin_9 : decode cX5_begin 9 = .ok (.aload_n 0, 1) := by decide +kernel
theorem dX5_begin_10 : decode cX5_begin 10 = .ok (.iload_n 1, 1) := by decide +kernel
theorem dX5_begin_11 : decode cX5_begin 11 = .ok (.putfield 43, 3) := by decide +kernel
theorem dX5_begin_14 : decode cX5_begin 14 = .ok (.return_, 1) := by decide +kernel
theorem dX5_clear_0 : decode cX5_clear 0 = .ok (.aload_n 0, 1) := by decide +kernel
theorem dX5_clear_1 : decode cX5_clear 1 = .ok (.iconst 0, 1) := by decide +kernel
theorem dX5_clear_2 : decode cX5_clear 2 = .ok (.putfield 39, 3) := by decide +kernel
theorem dX5_clear_5 : decode cX5_clear 5 = .ok (.aload_n 0, 1) := by decide +kernel
theorem dX5_clear_6 : decode cX5_clear 6 = .ok (.iconst 0, 1) := by decide +kernel
theorem dX5_clear_7 : decode cX5_clear 7 = .ok (.putfield 43, 3) := by decide +kernel
theorem dX5_clear_10 : decode cX5_clear 10 = .ok (.aload_n 0, 1) := by decide +kernel
theorem dX5_clear_11 : decode cX5_clear 11 = .ok (.iconst 0, 1) := by decide +kernel
theorem dX5_clear_12 : decode cX5_clear 12 = .ok (.putfield 46, 3) := by decide +kernel
theorem dX5_clear_15 : decode cX5_clear 15 = .ok (.aload_n 0, 1) := by decide +kernel
theorem dX5_clear_16 : decode cX5_clear 16 = .ok (.iconst 1, 1) := by decide +kernel
theorem dX5_clear_17 : decode cX5_clear 17 = .ok (.putfield 50, 3) := by decide +kernel
theorem dX5_clear_20 : decode cX5_clear 20 = .ok (.iconst 0, 1) := by decide +kernel
theorem dX5_clear_21 : decode cX5_clear 21 = .ok (.istore_n 1, 1) := by decide +kernel
theorem dX5_clear_22 : decode cX5_clear 22 = .ok (.iload_n 1, 1) := by decide +kernel
theorem dX5_clear_23 : decode cX5_clear 23 = .ok (.aload_n 0, 1) := by decide +kernel
theorem dX5_clear_24 : decode cX5_clear 24 = .ok (.getfield 9, 3) := by decide +kernel
theorem dX5_clear_27 : decode cX5_clear 27 = .ok (.arraylength, 1) := by decide +kernel
theorem dX5_clear_28 : decode cX5_clear 28 = .ok (.if_icmp .ge 16, 3) := by decide +kernel
theorem dX5_clear_31 : decode cX5_clear 31 = .ok (.aload_n 0, 1) := by decide +kernel
theorem dX5_clear_32 : decode cX5_clear 32 = .ok (.getfield 9, 3) := by decide +kernel
theorem dX5_clear_35 : decode cX5_clear 35 = .ok (.iload_n 1, 1) := by decide +kernel
theorem dX5_clear_36 : decode cX5_clear 36 = .ok (.iconst 0, 1) := by decide +kernel
theorem dX5_clear_37 : decode cX5_clear 37 = .ok (.bastore, 1) := by decide +kernel
theorem dX5_clear_38 : decode cX5_clear 38 = .ok (.iinc 1 1, 3) := by decide +kernel
theorem dX5_clear_41 : decode cX5_clear 41 = .ok (.goto (-19), 3) := by decide +kernel
theorem dX5_clear_44 : decode cX5_clear 44 = .ok (.aload_n 0, 1) := by decide +kernel
theorem dX5_clear_45 : decode cX5_clear 45 = .ok (.iconst 0, 1) := by decide +kernel
theorem dX5_clear_46 : decode cX5_clear 46 = .ok (.putfield 53, 3) := by decide +kernel
theorem dX5_clear_49 : decode cX5_clear 49 = .ok (.aload_n 0, 1) := by decide +kernel
theorem dX5_clear_50 : decode cX5_clear 50 = .ok (.iconst 0, 1) := by decide +kernel
theorem dX5_clear_51 : decode cX5_clear 51 = .ok (.putfield 56, 3) := by decide +kernel
theorem dX5_clear_54 : decode cX5_clear 54 = .ok (.aload_n 0, 1) := by decide +kernel
theorem dX5_clear_55 : decode cX5_clear 55 = .ok (.getfield 29, 3) := by decide +kernel
theorem dX5_clear_58 : decode cX5_clear 58 = .ok (.iconst 0, 1) := by decide +kernel
theorem dX5_clear_59 : decode cX5_clear 59 = .ok (.putfield 59, 3) := by decide +kernel
theorem dX5_clear_62 : decode cX5_clear 62 = .ok (.aload_n 0, 1) := by decide +kernel
theorem dX5_clear_63 : decode cX5_clear 63 = .ok (.getfield 33, 3) := by decide +kernel
theorem dX5_clear_66 : decode cX5_clear 66 = .ok (.iconst 0, 1) := by decide +kernel
theorem dX5_clear_67 : decode cX5_clear 67 = .ok (.putfield 59, 3) := by decide +kernel
theorem dX5_clear_70 : decode cX5_clear 70 = .ok (.return_, 1) := by decide +kernel
theorem dX5_keeps_0 : decode cX5_keeps 0 = .ok (.iload_n 1, 1) := by decide +kernel
theorem dX5_keeps_1 : decode cX5_keeps 1 = .ok (.ifCond .lt 25, 3) := by decide +kernel
theorem dX5_keeps_4 : decode cX5_keeps 4 = .ok (.iload_n 1, 1) := by decide +kernel
theorem dX5_keeps_5 : decode cX5_keeps 5 = .ok (.aload_n 0, 1) := by decide +kernel
theorem dX5_keeps_6 : decode cX5_keeps 6 = .ok (.getfield 9, 3) := by decide +kernel
theorem dX5_keeps_9 : decode cX5_keeps 9 = .ok (.arraylength, 1) := by decide +kernel
theorem dX5_keeps_10 : decode cX5_keeps 10 = .ok (.if_icmp .ge 16, 3) := by decide +kernel
theorem dX5_keeps_13 : decode cX5_keeps 13 = .ok (.aload_n 0, 1) := by decide +kernel
theorem dX5_keeps_14 : decode cX5_keeps 14 = .ok (.getfield 9, 3) := by decide +kernel
theorem dX5_keeps_17 : decode cX5_keeps 17 = .ok (.iload_n 1, 1) := by decide +kernel
theorem dX5_keeps_18 : decode cX5_keeps 18 = .ok (.baload, 1) := by decide +kernel
theorem dX5_keeps_19 : decode cX5_keeps 19 = .ok (.ifCond .eq 7, 3) := by decide +kernel
theorem dX5_keeps_22 : decode cX5_keeps 22 = .ok (.iconst 1, 1) := by decide +kernel
theorem dX5_keeps_23 : decode cX5_keeps 23 = .ok (.goto 4, 3) := by decide +kernel
theorem dX5_keeps_26 : decode cX5_keeps 26 = .ok (.iconst 0, 1) := by decide +kernel
theorem dX5_keeps_27 : decode cX5_keeps 27 = .ok (.ireturn, 1) := by decide +kernel
theorem dX5_keep_0 : decode cX5_keep 0 = .ok (.iload_n 1, 1) := by decide +kernel
theorem dX5_keep_1 : decode cX5_keep 1 = .ok (.ifCond .lt 38, 3) := by decide +kernel
theorem dX5_keep_4 : decode cX5_keep 4 = .ok (.iload_n 1, 1) := by decide +kernel
theorem dX5_keep_5 : decode cX5_keep 5 = .ok (.aload_n 0, 1) := by decide +kernel
theorem dX5_keep_6 : decode cX5_keep 6 = .ok (.getfield 9, 3) := by decide +kernel
theorem dX5_keep_9 : decode cX5_keep 9 = .ok (.arraylength, 1) := by decide +kernel
theorem dX5_keep_10 : decode cX5_keep 10 = .ok (.if_icmp .ge 29, 3) := by decide +kernel
theorem dX5_keep_13 : decode cX5_keep 13 = .ok (.aload_n 0, 1) := by decide +kernel
theorem dX5_keep_14 : decode cX5_keep 14 = .ok (.getfield 9, 3) := by decide +kernel
theorem dX5_keep_17 : decode cX5_keep 17 = .ok (.iload_n 1, 1) := by decide +kernel
theorem dX5_keep_18 : decode cX5_keep 18 = .ok (.baload, 1) := by decide +kernel
theorem dX5_keep_19 : decode cX5_keep 19 = .ok (.ifCond .ne 20, 3) := by decide +kernel
theorem dX5_keep_22 : decode cX5_keep 22 = .ok (.aload_n 0, 1) := by decide +kernel
theorem dX5_keep_23 : decode cX5_keep 23 = .ok (.getfield 9, 3) := by decide +kernel
theorem dX5_keep_26 : decode cX5_keep 26 = .ok (.iload_n 1, 1) := by decide +kernel
theorem dX5_keep_27 : decode cX5_keep 27 = .ok (.iconst 1, 1) := by decide +kernel
theorem dX5_keep_28 : decode cX5_keep 28 = .ok (.bastore, 1) := by decide +kernel
theorem dX5_keep_29 : decode cX5_keep 29 = .ok (.aload_n 0, 1) := by decide +kernel
theorem dX5_keep_30 : decode cX5_keep 30 = .ok (.dup, 1) := by decide +kernel
theorem dX5_keep_31 : decode cX5_keep 31 = .ok (.getfield 53, 3) := by decide +kernel
theorem dX5_keep_34 : decode cX5_keep 34 = .ok (.iconst 1, 1) := by decide +kernel
theorem dX5_keep_35 : decode cX5_keep 35 = .ok (.iadd, 1) := by decide +kernel
theorem dX5_keep_36 : decode cX5_keep 36 = .ok (.putfield 53, 3) := by decide +kernel
theorem dX5_keep_39 : decode cX5_keep 39 = .ok (.return_, 1) := by decide +kernel
theorem dX5_forget_0 : decode cX5_forget 0 = .ok (.aload_n 0, 1) := by decide +kernel
theorem dX5_forget_1 : decode cX5_forget 1 = .ok (.iload_n 1, 1) := by decide +kernel
theorem dX5_forget_2 : decode cX5_forget 2 = .ok (.invokevirtual 62, 3) := by decide +kernel
theorem dX5_forget_5 : decode cX5_forget 5 = .ok (.ifCond .eq 20, 3) := by decide +kernel
theorem dX5_forget_8 : decode cX5_forget 8 = .ok (.aload_n 0, 1) := by decide +kernel
theorem dX5_forget_9 : decode cX5_forget 9 = .ok (.getfield 9, 3) := by decide +kernel
theorem dX5_forget_12 : decode cX5_forget 12 = .ok (.iload_n 1, 1) := by decide +kernel
theorem dX5_forget_13 : decode cX5_forget 13 = .ok (.iconst 0, 1) := by decide +kernel
theorem dX5_forget_14 : decode cX5_forget 14 = .ok (.bastore, 1) := by decide +kernel
theorem dX5_forget_15 : decode cX5_forget 15 = .ok (.aload_n 0, 1) := by decide +kernel
theorem dX5_forget_16 : decode cX5_forget 16 = .ok (.dup, 1) := by decide +kernel
theorem dX5_forget_17 : decode cX5_forget 17 = .ok (.getfield 53, 3) := by decide +kernel
theorem dX5_forget_20 : decode cX5_forget 20 = .ok (.iconst 1, 1) := by decide +kernel
theorem dX5_forget_21 : decode cX5_forget 21 = .ok (.isub, 1) := by decide +kernel
theorem dX5_forget_22 : decode cX5_forget 22 = .ok (.putfield 53, 3) := by decide +kernel
theorem dX5_forget_25 : decode cX5_forget 25 = .ok (.return_, 1) := by decide +kernel
theorem dX5_placeOf_0 : decode cX5_placeOf 0 = .ok (.iconst 0, 1) := by decide +kernel
theorem dX5_placeOf_1 : decode cX5_placeOf 1 = .ok (.istore_n 3, 1) := by decide +kernel
theorem dX5_placeOf_2 : decode cX5_placeOf 2 = .ok (.iload_n 3, 1) := by decide +kernel
theorem dX5_placeOf_3 : decode cX5_placeOf 3 = .ok (.aload_n 0, 1) := by decide +kernel
theorem dX5_placeOf_4 : decode cX5_placeOf 4 = .ok (.getfield 56, 3) := by decide +kernel
theorem dX5_placeOf_7 : decode cX5_placeOf 7 = .ok (.if_icmp .ge 46, 3) := by decide +kernel
theorem dX5_placeOf_10 : decode cX5_placeOf 10 = .ok (.iload_n 3, 1) := by decide +kernel
theorem dX5_placeOf_11 : decode cX5_placeOf 11 = .ok (.bipush 6, 2) := by decide +kernel
theorem dX5_placeOf_13 : decode cX5_placeOf 13 = .ok (.if_icmp .ge 40, 3) := by decide +kernel
theorem dX5_placeOf_16 : decode cX5_placeOf 16 = .ok (.aload_n 0, 1) := by decide +kernel
theorem dX5_placeOf_17 : decode cX5_placeOf 17 = .ok (.getfield 17, 3) := by decide +kernel
theorem dX5_placeOf_20 : decode cX5_placeOf 20 = .ok (.iload_n 3, 1) := by decide +kernel
theorem dX5_placeOf_21 : decode cX5_placeOf 21 = .ok (.aaload, 1) := by decide +kernel
theorem dX5_placeOf_22 : decode cX5_placeOf 22 = .ok (.getfield 66, 3) := by decide +kernel
theorem dX5_placeOf_25 : decode cX5_placeOf 25 = .ok (.iload_n 2, 1) := by decide +kernel
theorem dX5_placeOf_26 : decode cX5_placeOf 26 = .ok (.if_icmp .ne 21, 3) := by decide +kernel
theorem dX5_placeOf_29 : decode cX5_placeOf 29 = .ok (.aload_n 0, 1) := by decide +kernel
theorem dX5_placeOf_30 : decode cX5_placeOf 30 = .ok (.getfield 17, 3) := by decide +kernel
theorem dX5_placeOf_33 : decode cX5_placeOf 33 = .ok (.iload_n 3, 1) := by decide +kernel
theorem dX5_placeOf_34 : decode cX5_placeOf 34 = .ok (.aaload, 1) := by decide +kernel
theorem dX5_placeOf_35 : decode cX5_placeOf 35 = .ok (.getfield 69, 3) := by decide +kernel
theorem dX5_placeOf_38 : decode cX5_placeOf 38 = .ok (.aload_n 1, 1) := by decide +kernel
theorem dX5_placeOf_39 : decode cX5_placeOf 39 = .ok (.invokevirtual 73, 3) := by decide +kernel
theorem dX5_placeOf_42 : decode cX5_placeOf 42 = .ok (.ifCond .eq 5, 3) := by decide +kernel
theorem dX5_placeOf_45 : decode cX5_placeOf 45 = .ok (.iload_n 3, 1) := by decide +kernel
theorem dX5_placeOf_46 : decode cX5_placeOf 46 = .ok (.ireturn, 1) := by decide +kernel
theorem dX5_placeOf_47 : decode cX5_placeOf 47 = .ok (.iinc 3 1, 3) := by decide +kernel
theorem dX5_placeOf_50 : decode cX5_placeOf 50 = .ok (.goto (-48), 3) := by decide +kernel
theorem dX5_placeOf_53 : decode cX5_placeOf 53 = .ok (.iconst (-1), 1) := by decide +kernel
theorem dX5_placeOf_54 : decode cX5_placeOf 54 = .ok (.ireturn, 1) := by decide +kernel
theorem dX5_gradeOf_0 : decode cX5_gradeOf 0 = .ok (.aload_n 0, 1) := by decide +kernel
theorem dX5_gradeOf_1 : decode cX5_gradeOf 1 = .ok (.aload_n 1, 1) := by decide +kernel
theorem dX5_gradeOf_2 : decode cX5_gradeOf 2 = .ok (.iload_n 2, 1) := by decide +kernel
theorem dX5_gradeOf_3 : decode cX5_gradeOf 3 = .ok (.invokevirtual 79, 3) := by decide +kernel
theorem dX5_gradeOf_6 : decode cX5_gradeOf 6 = .ok (.istore_n 3, 1) := by decide +kernel
theorem dX5_gradeOf_7 : decode cX5_gradeOf 7 = .ok (.iload_n 3, 1) := by decide +kernel
theorem dX5_gradeOf_8 : decode cX5_gradeOf 8 = .ok (.ifCond .ge 7, 3) := by decide +kernel
theorem dX5_gradeOf_11 : decode cX5_gradeOf 11 = .ok (.iconst 0, 1) := by decide +kernel
theorem dX5_gradeOf_12 : decode cX5_gradeOf 12 = .ok (.goto 12, 3) := by decide +kernel
theorem dX5_gradeOf_15 : decode cX5_gradeOf 15 = .ok (.aload_n 0, 1) := by decide +kernel
theorem dX5_gradeOf_16 : decode cX5_gradeOf 16 = .ok (.getfield 17, 3) := by decide +kernel
theorem dX5_gradeOf_19 : decode cX5_gradeOf 19 = .ok (.iload_n 3, 1) := by decide +kernel
theorem dX5_gradeOf_20 : decode cX5_gradeOf 20 = .ok (.aaload, 1) := by decide +kernel
theorem dX5_gradeOf_21 : decode cX5_gradeOf 21 = .ok (.getfield 83, 3) := by decide +kernel
theorem dX5_gradeOf_24 : decode cX5_gradeOf 24 = .ok (.ireturn, 1) := by decide +kernel
theorem dX5_addSubscription_0 : decode cX5_addSubscription 0 = .ok (.aload_n 0, 1) := by decide +kernel
theorem dX5_addSubscription_1 : decode cX5_addSubscription 1 = .ok (.getfield 56, 3) := by decide +kernel
theorem dX5_addSubscription_4 : decode cX5_addSubscription 4 = .ok (.ifCond .lt 52, 3) := by decide +kernel
theorem dX5_addSubscription_7 : decode cX5_addSubscription 7 = .ok (.aload_n 0, 1) := by decide +kernel
theorem dX5_addSubscription_8 : decode cX5_addSubscription 8 = .ok (.getfield 56, 3) := by decide +kernel
theorem dX5_addSubscription_11 : decode cX5_addSubscription 11 = .ok (.bipush 6, 2) := by decide +kernel
theorem dX5_addSubscription_13 : decode cX5_addSubscription 13 = .ok (.if_icmp .ge 43, 3) := by decide +kernel
theorem dX5_addSubscription_16 : decode cX5_addSubscription 16 = .ok (.aload_n 0, 1) := by decide +kernel
theorem dX5_addSubscription_17 : decode cX5_addSubscription 17 = .ok (.getfield 17, 3) := by decide +kernel
theorem dX5_addSubscription_20 : decode cX5_addSubscription 20 = .ok (.aload_n 0, 1) := by decide +kernel
theorem dX5_addSubscription_21 : decode cX5_addSubscription 21 = .ok (.getfield 56, 3) := by decide +kernel
theorem dX5_addSubscription_24 : decode cX5_addSubscription 24 = .ok (.aaload, 1) := by decide +kernel
theorem dX5_addSubscription_25 : decode cX5_addSubscription 25 = .ok (.astore_n 3, 1) := by decide +kernel
theorem dX5_addSubscription_26 : decode cX5_addSubscription 26 = .ok (.aload_n 3, 1) := by decide +kernel
theorem dX5_addSubscription_27 : decode cX5_addSubscription 27 = .ok (.aload_n 1, 1) := by decide +kernel
theorem dX5_addSubscription_28 : decode cX5_addSubscription 28 = .ok (.putfield 69, 3) := by decide +kernel
theorem dX5_addSubscription_31 : decode cX5_addSubscription 31 = .ok (.aload_n 3, 1) := by decide +kernel
theorem dX5_addSubscription_32 : decode cX5_addSubscription 32 = .ok (.iload_n 2, 1) := by decide +kernel
theorem dX5_addSubscription_33 : decode cX5_addSubscription 33 = .ok (.putfield 66, 3) := by decide +kernel
theorem dX5_addSubscription_36 : decode cX5_addSubscription 36 = .ok (.aload_n 3, 1) := by decide +kernel
theorem dX5_addSubscription_37 : decode cX5_addSubscription 37 = .ok (.iconst 0, 1) := by decide +kernel
theorem dX5_addSubscription_38 : decode cX5_addSubscription 38 = .ok (.putfield 83, 3) := by decide +kernel
theorem dX5_addSubscription_41 : decode cX5_addSubscription 41 = .ok (.aload_n 3, 1) := by decide +kernel
theorem dX5_addSubscription_42 : decode cX5_addSubscription 42 = .ok (.iconst 0, 1) := by decide +kernel
theorem dX5_addSubscription_43 : decode cX5_addSubscription 43 = .ok (.putfield 86, 3) := by decide +kernel
theorem dX5_addSubscription_46 : decode cX5_addSubscription 46 = .ok (.aload_n 0, 1) := by decide +kernel
theorem dX5_addSubscription_47 : decode cX5_addSubscription 47 = .ok (.dup, 1) := by decide +kernel
theorem dX5_addSubscription_48 : decode cX5_addSubscription 48 = .ok (.getfield 56, 3) := by decide +kernel
theorem dX5_addSubscription_51 : decode cX5_addSubscription 51 = .ok (.iconst 1, 1) := by decide +kernel
theorem dX5_addSubscription_52 : decode cX5_addSubscription 52 = .ok (.iadd, 1) := by decide +kernel
theorem dX5_addSubscription_53 : decode cX5_addSubscription 53 = .ok (.putfield 56, 3) := by decide +kernel
theorem dX5_addSubscription_56 : decode cX5_addSubscription 56 = .ok (.return_, 1) := by decide +kernel
theorem dX5_removeSubscriptionAt_0 : decode cX5_removeSubscriptionAt 0 = .ok (.iload_n 1, 1) := by decide +kernel
theorem dX5_removeSubscriptionAt_1 : decode cX5_removeSubscriptionAt 1 = .ok (.ifCond .lt 20, 3) := by decide +kernel
theorem dX5_removeSubscriptionAt_4 : decode cX5_removeSubscriptionAt 4 = .ok (.iload_n 1, 1) := by decide +kernel
theorem dX5_removeSubscriptionAt_5 : decode cX5_removeSubscriptionAt 5 = .ok (.aload_n 0, 1) := by decide +kernel
theorem dX5_removeSubscriptionAt_6 : decode cX5_removeSubscriptionAt 6 = .ok (.getfield 56, 3) := by decide +kernel
theorem dX5_removeSubscriptionAt_9 : decode cX5_removeSubscriptionAt 9 = .ok (.if_icmp .ge 12, 3) := by decide +kernel
theorem dX5_removeSubscriptionAt_12 : decode cX5_removeSubscriptionAt 12 = .ok (.aload_n 0, 1) := by decide +kernel
theorem dX5_removeSubscriptionAt_13 : decode cX5_removeSubscriptionAt 13 = .ok (.getfield 56, 3) := by decide +kernel
theorem dX5_removeSubscriptionAt_16 : decode cX5_removeSubscriptionAt 16 = .ok (.bipush 6, 2) := by decide +kernel
theorem dX5_removeSubscriptionAt_18 : decode cX5_removeSubscriptionAt 18 = .ok (.if_icmp .le 4, 3) := by decide +kernel
theorem dX5_removeSubscriptionAt_21 : decode cX5_removeSubscriptionAt 21 = .ok (.return_, 1) := by decide +kernel
theorem dX5_removeSubscriptionAt_22 : decode cX5_removeSubscriptionAt 22 = .ok (.aload_n 0, 1) := by decide +kernel
theorem dX5_removeSubscriptionAt_23 : decode cX5_removeSubscriptionAt 23 = .ok (.getfield 17, 3) := by decide +kernel
theorem dX5_removeSubscriptionAt_26 : decode cX5_removeSubscriptionAt 26 = .ok (.iload_n 1, 1) := by decide +kernel
theorem dX5_removeSubscriptionAt_27 : decode cX5_removeSubscriptionAt 27 = .ok (.aaload, 1) := by decide +kernel
theorem dX5_removeSubscriptionAt_28 : decode cX5_removeSubscriptionAt 28 = .ok (.astore_n 2, 1) := by decide +kernel
theorem dX5_removeSubscriptionAt_29 : decode cX5_removeSubscriptionAt 29 = .ok (.iload_n 1, 1) := by decide +kernel
theorem dX5_removeSubscriptionAt_30 : decode cX5_removeSubscriptionAt 30 = .ok (.istore_n 3, 1) := by decide +kernel
theorem dX5_removeSubscriptionAt_31 : decode cX5_removeSubscriptionAt 31 = .ok (.iload_n 3, 1) := by decide +kernel
theorem dX5_removeSubscriptionAt_32 : decode cX5_removeSubscriptionAt 32 = .ok (.iconst 1, 1) := by decide +kernel
theorem dX5_removeSubscriptionAt_33 : decode cX5_removeSubscriptionAt 33 = .ok (.iadd, 1) := by decide +kernel
theorem dX5_removeSubscriptionAt_34 : decode cX5_removeSubscriptionAt 34 = .ok (.aload_n 0, 1) := by decide +kernel
theorem dX5_removeSubscriptionAt_35 : decode cX5_removeSubscriptionAt 35 = .ok (.getfield 56, 3) := by decide +kernel
theorem dX5_removeSubscriptionAt_38 : decode cX5_removeSubscriptionAt 38 = .ok (.if_icmp .ge 23, 3) := by decide +kernel
theorem dX5_removeSubscriptionAt_41 : decode cX5_removeSubscriptionAt 41 = .ok (.aload_n 0, 1) := by decide +kernel
theorem dX5_removeSubscriptionAt_42 : decode cX5_removeSubscriptionAt 42 = .ok (.getfield 17, 3) := by decide +kernel
theorem dX5_removeSubscriptionAt_45 : decode cX5_removeSubscriptionAt 45 = .ok (.iload_n 3, 1) := by decide +kernel
theorem dX5_removeSubscriptionAt_46 : decode cX5_removeSubscriptionAt 46 = .ok (.aload_n 0, 1) := by decide +kernel
theorem dX5_removeSubscriptionAt_47 : decode cX5_removeSubscriptionAt 47 = .ok (.getfield 17, 3) := by decide +kernel
theorem dX5_removeSubscriptionAt_50 : decode cX5_removeSubscriptionAt 50 = .ok (.iload_n 3, 1) := by decide +kernel
theorem dX5_removeSubscriptionAt_51 : decode cX5_removeSubscriptionAt 51 = .ok (.iconst 1, 1) := by decide +kernel
theorem dX5_removeSubscriptionAt_52 : decode cX5_removeSubscriptionAt 52 = .ok (.iadd, 1) := by decide +kernel
theorem dX5_removeSubscriptionAt_53 : decode cX5_removeSubscriptionAt 53 = .ok (.aaload, 1) := by decide +kernel
theorem dX5_removeSubscriptionAt_54 : decode cX5_removeSubscriptionAt 54 = .ok (.aastore, 1) := by decide +kernel
theorem dX5_removeSubscriptionAt_55 : decode cX5_removeSubscriptionAt 55 = .ok (.iinc 3 1, 3) := by decide +kernel
theorem dX5_removeSubscriptionAt_58 : decode cX5_removeSubscriptionAt 58 = .ok (.goto (-27), 3) := by decide +kernel
theorem dX5_removeSubscriptionAt_61 : decode cX5_removeSubscriptionAt 61 = .ok (.aload_n 0, 1) := by decide +kernel
theorem dX5_removeSubscriptionAt_62 : decode cX5_removeSubscriptionAt 62 = .ok (.getfield 17, 3) := by decide +kernel
theorem dX5_removeSubscriptionAt_65 : decode cX5_removeSubscriptionAt 65 = .ok (.aload_n 0, 1) := by decide +kernel
theorem dX5_removeSubscriptionAt_66 : decode cX5_removeSubscriptionAt 66 = .ok (.getfield 56, 3) := by decide +kernel
theorem dX5_removeSubscriptionAt_69 : decode cX5_removeSubscriptionAt 69 = .ok (.iconst 1, 1) := by decide +kernel
theorem dX5_removeSubscriptionAt_70 : decode cX5_removeSubscriptionAt 70 = .ok (.isub, 1) := by decide +kernel
theorem dX5_removeSubscriptionAt_71 : decode cX5_removeSubscriptionAt 71 = .ok (.aload_n 2, 1) := by decide +kernel
theorem dX5_removeSubscriptionAt_72 : decode cX5_removeSubscriptionAt 72 = .ok (.aastore, 1) := by decide +kernel
theorem dX5_removeSubscriptionAt_73 : decode cX5_removeSubscriptionAt 73 = .ok (.aload_n 0, 1) := by decide +kernel
theorem dX5_removeSubscriptionAt_74 : decode cX5_removeSubscriptionAt 74 = .ok (.dup, 1) := by decide +kernel
theorem dX5_removeSubscriptionAt_75 : decode cX5_removeSubscriptionAt 75 = .ok (.getfield 56, 3) := by decide +kernel
theorem dX5_removeSubscriptionAt_78 : decode cX5_removeSubscriptionAt 78 = .ok (.iconst 1, 1) := by decide +kernel
theorem dX5_removeSubscriptionAt_79 : decode cX5_removeSubscriptionAt 79 = .ok (.isub, 1) := by decide +kernel
theorem dX5_removeSubscriptionAt_80 : decode cX5_removeSubscriptionAt 80 = .ok (.putfield 56, 3) := by decide +kernel
theorem dX5_removeSubscriptionAt_83 : decode cX5_removeSubscriptionAt 83 = .ok (.return_, 1) := by decide +kernel
theorem dX5_greatestGrade_0 : decode cX5_greatestGrade 0 = .ok (.iconst (-1), 1) := by decide +kernel
theorem dX5_greatestGrade_1 : decode cX5_greatestGrade 1 = .ok (.istore_n 3, 1) := by decide +kernel
theorem dX5_greatestGrade_2 : decode cX5_greatestGrade 2 = .ok (.iconst 0, 1) := by decide +kernel
theorem dX5_greatestGrade_3 : decode cX5_greatestGrade 3 = .ok (.istore 4, 2) := by decide +kernel
theorem dX5_greatestGrade_5 : decode cX5_greatestGrade 5 = .ok (.iload 4, 2) := by decide +kernel
theorem dX5_greatestGrade_7 : decode cX5_greatestGrade 7 = .ok (.aload_n 0, 1) := by decide +kernel
theorem dX5_greatestGrade_8 : decode cX5_greatestGrade 8 = .ok (.getfield 56, 3) := by decide +kernel
theorem dX5_greatestGrade_11 : decode cX5_greatestGrade 11 = .ok (.if_icmp .ge 81, 3) := by decide +kernel
theorem dX5_greatestGrade_14 : decode cX5_greatestGrade 14 = .ok (.iload 4, 2) := by decide +kernel
theorem dX5_greatestGrade_16 : decode cX5_greatestGrade 16 = .ok (.bipush 6, 2) := by decide +kernel
theorem dX5_greatestGrade_18 : decode cX5_greatestGrade 18 = .ok (.if_icmp .ge 74, 3) := by decide +kernel
theorem dX5_greatestGrade_21 : decode cX5_greatestGrade 21 = .ok (.aload_n 0, 1) := by decide +kernel
theorem dX5_greatestGrade_22 : decode cX5_greatestGrade 22 = .ok (.getfield 17, 3) := by decide +kernel
theorem dX5_greatestGrade_25 : decode cX5_greatestGrade 25 = .ok (.iload 4, 2) := by decide +kernel
theorem dX5_greatestGrade_27 : decode cX5_greatestGrade 27 = .ok (.aaload, 1) := by decide +kernel
theorem dX5_greatestGrade_28 : decode cX5_greatestGrade 28 = .ok (.astore 5, 2) := by decide +kernel
theorem dX5_greatestGrade_30 : decode cX5_greatestGrade 30 = .ok (.iload_n 2, 1) := by decide +kernel
theorem dX5_greatestGrade_31 : decode cX5_greatestGrade 31 = .ok (.ifCond .eq 17, 3) := by decide +kernel
theorem dX5_greatestGrade_34 : decode cX5_greatestGrade 34 = .ok (.aload 5, 2) := by decide +kernel
theorem dX5_greatestGrade_36 : decode cX5_greatestGrade 36 = .ok (.getfield 86, 3) := by decide +kernel
theorem dX5_greatestGrade_39 : decode cX5_greatestGrade 39 = .ok (.iconst 1, 1) := by decide +kernel
theorem dX5_greatestGrade_40 : decode cX5_greatestGrade 40 = .ok (.iand, 1) := by decide +kernel
theorem dX5_greatestGrade_41 : decode cX5_greatestGrade 41 = .ok (.ifCond .eq 7, 3) := by decide +kernel
theorem dX5_greatestGrade_44 : decode cX5_greatestGrade 44 = .ok (.iconst 1, 1) := by decide +kernel
theorem dX5_greatestGrade_45 : decode cX5_greatestGrade 45 = .ok (.goto 4, 3) := by decide +kernel
theorem dX5_greatestGrade_48 : decode cX5_greatestGrade 48 = .ok (.iconst 0, 1) := by decide +kernel
theorem dX5_greatestGrade_49 : decode cX5_greatestGrade 49 = .ok (.istore 6, 2) := by decide +kernel
theorem dX5_greatestGrade_51 : decode cX5_greatestGrade 51 = .ok (.aload 5, 2) := by decide +kernel
theorem dX5_greatestGrade_53 : decode cX5_greatestGrade 53 = .ok (.getfield 66, 3) := by decide +kernel
theorem dX5_greatestGrade_56 : decode cX5_greatestGrade 56 = .ok (.ifCond .ne 30, 3) := by decide +kernel
theorem dX5_greatestGrade_59 : decode cX5_greatestGrade 59 = .ok (.iload 6, 2) := by decide +kernel
theorem dX5_greatestGrade_61 : decode cX5_greatestGrade 61 = .ok (.ifCond .ne 25, 3) := by decide +kernel
theorem dX5_greatestGrade_64 : decode cX5_greatestGrade 64 = .ok (.aload 5, 2) := by decide +kernel
theorem dX5_greatestGrade_66 : decode cX5_greatestGrade 66 = .ok (.getfield 69, 3) := by decide +kernel
theorem dX5_greatestGrade_69 : decode cX5_greatestGrade 69 = .ok (.aload_n 1, 1) := by decide +kernel
theorem dX5_greatestGrade_70 : decode cX5_greatestGrade 70 = .ok (.invokevirtual 89, 3) := by decide +kernel
theorem dX5_greatestGrade_73 : decode cX5_greatestGrade 73 = .ok (.ifCond .eq 13, 3) := by decide +kernel
theorem dX5_greatestGrade_76 : decode cX5_greatestGrade 76 = .ok (.iload_n 3, 1) := by decide +kernel
theorem dX5_greatestGrade_77 : decode cX5_greatestGrade 77 = .ok (.aload 5, 2) := by decide +kernel
theorem dX5_greatestGrade_79 : decode cX5_greatestGrade 79 = .ok (.getfield 83, 3) := by decide +kernel
theorem dX5_greatestGrade_82 : decode cX5_greatestGrade 82 = .ok (.invokestatic 92, 3) := by decide +kernel
theorem dX5_greatestGrade_85 : decode cX5_greatestGrade 85 = .ok (.istore_n 3, 1) := by decide +kernel
theorem dX5_greatestGrade_86 : decode cX5_greatestGrade 86 = .ok (.iinc 4 1, 3) := by decide +kernel
theorem dX5_greatestGrade_89 : decode cX5_greatestGrade 89 = .ok (.goto (-84), 3) := by decide +kernel
theorem dX5_greatestGrade_92 : decode cX5_greatestGrade 92 = .ok (.iload_n 3, 1) := by decide +kernel
theorem dX5_greatestGrade_93 : decode cX5_greatestGrade 93 = .ok (.ireturn, 1) := by decide +kernel
theorem dX5_stepIdentifier_0 : decode cX5_stepIdentifier 0 = .ok (.iconst 0, 1) := by decide +kernel
theorem dX5_stepIdentifier_1 : decode cX5_stepIdentifier 1 = .ok (.istore_n 1, 1) := by decide +kernel
theorem dX5_stepIdentifier_2 : decode cX5_stepIdentifier 2 = .ok (.iload_n 1, 1) := by decide +kernel
theorem dX5_stepIdentifier_3 : decode cX5_stepIdentifier 3 = .ok (.bipush 50, 2) := by decide +kernel
theorem dX5_stepIdentifier_5 : decode cX5_stepIdentifier 5 = .ok (.if_icmp .ge 47, 3) := by decide +kernel
theorem dX5_stepIdentifier_8 : decode cX5_stepIdentifier 8 = .ok (.aload_n 0, 1) := by decide +kernel
theorem dX5_stepIdentifier_9 : decode cX5_stepIdentifier 9 = .ok (.aload_n 0, 1) := by decide +kernel
theorem dX5_stepIdentifier_10 : decode cX5_stepIdentifier 10 = .ok (.getfield 50, 3) := by decide +kernel
theorem dX5_stepIdentifier_13 : decode cX5_stepIdentifier 13 = .ok (.bipush 50, 2) := by decide +kernel
theorem dX5_stepIdentifier_15 : decode cX5_stepIdentifier 15 = .ok (.if_icmp .lt 7, 3) := by decide +kernel
theorem dX5_stepIdentifier_18 : decode cX5_stepIdentifier 18 = .ok (.iconst 1, 1) := by decide +kernel
theorem dX5_stepIdentifier_19 : decode cX5_stepIdentifier 19 = .ok (.goto 9, 3) := by decide +kernel
theorem dX5_stepIdentifier_22 : decode cX5_stepIdentifier 22 = .ok (.aload_n 0, 1) := by decide +kernel
theorem dX5_stepIdentifier_23 : decode cX5_stepIdentifier 23 = .ok (.getfield 50, 3) := by decide +kernel
theorem dX5_stepIdentifier_26 : decode cX5_stepIdentifier 26 = .ok (.iconst 1, 1) := by decide +kernel
theorem dX5_stepIdentifier_27 : decode cX5_stepIdentifier 27 = .ok (.iadd, 1) := by decide +kernel
theorem dX5_stepIdentifier_28 : decode cX5_stepIdentifier 28 = .ok (.putfield 50, 3) := by decide +kernel
theorem dX5_stepIdentifier_31 : decode cX5_stepIdentifier 31 = .ok (.aload_n 0, 1) := by decide +kernel
theorem dX5_stepIdentifier_32 : decode cX5_stepIdentifier 32 = .ok (.getfield 29, 3) := by decide +kernel
theorem dX5_stepIdentifier_35 : decode cX5_stepIdentifier 35 = .ok (.aload_n 0, 1) := by decide +kernel
theorem dX5_stepIdentifier_36 : decode cX5_stepIdentifier 36 = .ok (.getfield 50, 3) := by decide +kernel
theorem dX5_stepIdentifier_39 : decode cX5_stepIdentifier 39 = .ok (.invokevirtual 98, 3) := by decide +kernel
theorem dX5_stepIdentifier_42 : decode cX5_stepIdentifier 42 = .ok (.ifCond .ge 4, 3) := by decide +kernel
theorem dX5_stepIdentifier_45 : decode cX5_stepIdentifier 45 = .ok (.return_, 1) := by decide +kernel
theorem dX5_stepIdentifier_46 : decode cX5_stepIdentifier 46 = .ok (.iinc 1 1, 3) := by decide +kernel
theorem dX5_stepIdentifier_49 : decode cX5_stepIdentifier 49 = .ok (.goto (-47), 3) := by decide +kernel
theorem dX5_stepIdentifier_52 : decode cX5_stepIdentifier 52 = .ok (.return_, 1) := by decide +kernel
theorem dX5_copyFrom_0 : decode cX5_copyFrom 0 = .ok (.aload_n 0, 1) := by decide +kernel
theorem dX5_copyFrom_1 : decode cX5_copyFrom 1 = .ok (.aload_n 1, 1) := by decide +kernel
theorem dX5_copyFrom_2 : decode cX5_copyFrom 2 = .ok (.getfield 39, 3) := by decide +kernel
theorem dX5_copyFrom_5 : decode cX5_copyFrom 5 = .ok (.putfield 39, 3) := by decide +kernel
theorem dX5_copyFrom_8 : decode cX5_copyFrom 8 = .ok (.aload_n 0, 1) := by decide +kernel
theorem dX5_copyFrom_9 : decode cX5_copyFrom 9 = .ok (.aload_n 1, 1) := by decide +kernel
theorem dX5_copyFrom_10 : decode cX5_copyFrom 10 = .ok (.getfield 43, 3) := by decide +kernel
theorem dX5_copyFrom_13 : decode cX5_copyFrom 13 = .ok (.putfield 43, 3) := by decide +kernel
theorem dX5_copyFrom_16 : decode cX5_copyFrom 16 = .ok (.aload_n 0, 1) := by decide +kernel
theorem dX5_copyFrom_17 : decode cX5_copyFrom 17 = .ok (.aload_n 1, 1) := by decide +kernel
theorem dX5_copyFrom_18 : decode cX5_copyFrom 18 = .ok (.getfield 46, 3) := by decide +kernel
theorem dX5_copyFrom_21 : decode cX5_copyFrom 21 = .ok (.putfield 46, 3) := by decide +kernel
theorem dX5_copyFrom_24 : decode cX5_copyFrom 24 = .ok (.aload_n 0, 1) := by decide +kernel
theorem dX5_copyFrom_25 : decode cX5_copyFrom 25 = .ok (.aload_n 1, 1) := by decide +kernel
theorem dX5_copyFrom_26 : decode cX5_copyFrom 26 = .ok (.getfield 50, 3) := by decide +kernel
theorem dX5_copyFrom_29 : decode cX5_copyFrom 29 = .ok (.putfield 50, 3) := by decide +kernel
theorem dX5_copyFrom_32 : decode cX5_copyFrom 32 = .ok (.iconst 0, 1) := by decide +kernel
theorem dX5_copyFrom_33 : decode cX5_copyFrom 33 = .ok (.istore_n 2, 1) := by decide +kernel
theorem dX5_copyFrom_34 : decode cX5_copyFrom 34 = .ok (.iload_n 2, 1) := by decide +kernel
theorem dX5_copyFrom_35 : decode cX5_copyFrom 35 = .ok (.aload_n 0, 1) := by decide +kernel
theorem dX5_copyFrom_36 : decode cX5_copyFrom 36 = .ok (.getfield 9, 3) := by decide +kernel
theorem dX5_copyFrom_39 : decode cX5_copyFrom 39 = .ok (.arraylength, 1) := by decide +kernel
theorem dX5_copyFrom_40 : decode cX5_copyFrom 40 = .ok (.if_icmp .ge 21, 3) := by decide +kernel
theorem dX5_copyFrom_43 : decode cX5_copyFrom 43 = .ok (.aload_n 0, 1) := by decide +kernel
theorem dX5_copyFrom_44 : decode cX5_copyFrom 44 = .ok (.getfield 9, 3) := by decide +kernel
theorem dX5_copyFrom_47 : decode cX5_copyFrom 47 = .ok (.iload_n 2, 1) := by decide +kernel
theorem dX5_copyFrom_48 : decode cX5_copyFrom 48 = .ok (.aload_n 1, 1) := by decide +kernel
theorem dX5_copyFrom_49 : decode cX5_copyFrom 49 = .ok (.getfield 9, 3) := by decide +kernel
theorem dX5_copyFrom_52 : decode cX5_copyFrom 52 = .ok (.iload_n 2, 1) := by decide +kernel
theorem dX5_copyFrom_53 : decode cX5_copyFrom 53 = .ok (.baload, 1) := by decide +kernel
theorem dX5_copyFrom_54 : decode cX5_copyFrom 54 = .ok (.bastore, 1) := by decide +kernel
theorem dX5_copyFrom_55 : decode cX5_copyFrom 55 = .ok (.iinc 2 1, 3) := by decide +kernel
theorem dX5_copyFrom_58 : decode cX5_copyFrom 58 = .ok (.goto (-24), 3) := by decide +kernel
theorem dX5_copyFrom_61 : decode cX5_copyFrom 61 = .ok (.aload_n 0, 1) := by decide +kernel
theorem dX5_copyFrom_62 : decode cX5_copyFrom 62 = .ok (.aload_n 1, 1) := by decide +kernel
theorem dX5_copyFrom_63 : decode cX5_copyFrom 63 = .ok (.getfield 53, 3) := by decide +kernel
theorem dX5_copyFrom_66 : decode cX5_copyFrom 66 = .ok (.putfield 53, 3) := by decide +kernel
theorem dX5_copyFrom_69 : decode cX5_copyFrom 69 = .ok (.aload_n 0, 1) := by decide +kernel
theorem dX5_copyFrom_70 : decode cX5_copyFrom 70 = .ok (.aload_n 1, 1) := by decide +kernel
theorem dX5_copyFrom_71 : decode cX5_copyFrom 71 = .ok (.getfield 56, 3) := by decide +kernel
theorem dX5_copyFrom_74 : decode cX5_copyFrom 74 = .ok (.putfield 56, 3) := by decide +kernel
theorem dX5_copyFrom_77 : decode cX5_copyFrom 77 = .ok (.iconst 0, 1) := by decide +kernel
theorem dX5_copyFrom_78 : decode cX5_copyFrom 78 = .ok (.istore_n 2, 1) := by decide +kernel
theorem dX5_copyFrom_79 : decode cX5_copyFrom 79 = .ok (.iload_n 2, 1) := by decide +kernel
theorem dX5_copyFrom_80 : decode cX5_copyFrom 80 = .ok (.aload_n 0, 1) := by decide +kernel
theorem dX5_copyFrom_81 : decode cX5_copyFrom 81 = .ok (.getfield 56, 3) := by decide +kernel
theorem dX5_copyFrom_84 : decode cX5_copyFrom 84 = .ok (.if_icmp .ge 30, 3) := by decide +kernel
theorem dX5_copyFrom_87 : decode cX5_copyFrom 87 = .ok (.iload_n 2, 1) := by decide +kernel
theorem dX5_copyFrom_88 : decode cX5_copyFrom 88 = .ok (.bipush 6, 2) := by decide +kernel
theorem dX5_copyFrom_90 : decode cX5_copyFrom 90 = .ok (.if_icmp .ge 24, 3) := by decide +kernel
theorem dX5_copyFrom_93 : decode cX5_copyFrom 93 = .ok (.aload_n 0, 1) := by decide +kernel
theorem dX5_copyFrom_94 : decode cX5_copyFrom 94 = .ok (.getfield 17, 3) := by decide +kernel
theorem dX5_copyFrom_97 : decode cX5_copyFrom 97 = .ok (.iload_n 2, 1) := by decide +kernel
theorem dX5_copyFrom_98 : decode cX5_copyFrom 98 = .ok (.aaload, 1) := by decide +kernel
theorem dX5_copyFrom_99 : decode cX5_copyFrom 99 = .ok (.aload_n 1, 1) := by decide +kernel
theorem dX5_copyFrom_100 : decode cX5_copyFrom 100 = .ok (.getfield 17, 3) := by decide +kernel
theorem dX5_copyFrom_103 : decode cX5_copyFrom 103 = .ok (.iload_n 2, 1) := by decide +kernel
theorem dX5_copyFrom_104 : decode cX5_copyFrom 104 = .ok (.aaload, 1) := by decide +kernel
theorem dX5_copyFrom_105 : decode cX5_copyFrom 105 = .ok (.invokevirtual 101, 3) := by decide +kernel
theorem dX5_copyFrom_108 : decode cX5_copyFrom 108 = .ok (.iinc 2 1, 3) := by decide +kernel
theorem dX5_copyFrom_111 : decode cX5_copyFrom 111 = .ok (.goto (-32), 3) := by decide +kernel
theorem dX5_copyFrom_114 : decode cX5_copyFrom 114 = .ok (.aload_n 0, 1) := by decide +kernel
theorem dX5_copyFrom_115 : decode cX5_copyFrom 115 = .ok (.getfield 29, 3) := by decide +kernel
theorem dX5_copyFrom_118 : decode cX5_copyFrom 118 = .ok (.aload_n 1, 1) := by decide +kernel
theorem dX5_copyFrom_119 : decode cX5_copyFrom 119 = .ok (.getfield 29, 3) := by decide +kernel
theorem dX5_copyFrom_122 : decode cX5_copyFrom 122 = .ok (.invokevirtual 105, 3) := by decide +kernel
theorem dX5_copyFrom_125 : decode cX5_copyFrom 125 = .ok (.aload_n 0, 1) := by decide +kernel
theorem dX5_copyFrom_126 : decode cX5_copyFrom 126 = .ok (.getfield 33, 3) := by decide +kernel
theorem dX5_copyFrom_129 : decode cX5_copyFrom 129 = .ok (.aload_n 1, 1) := by decide +kernel
theorem dX5_copyFrom_130 : decode cX5_copyFrom 130 = .ok (.getfield 33, 3) := by decide +kernel
theorem dX5_copyFrom_133 : decode cX5_copyFrom 133 = .ok (.invokevirtual 105, 3) := by decide +kernel
theorem dX5_copyFrom_136 : decode cX5_copyFrom 136 = .ok (.return_, 1) := by decide +kernel
theorem dX6_init_0 : decode cX6_init 0 = .ok (.aload_n 0, 1) := by decide +kernel
theorem dX6_init_1 : decode cX6_init 1 = .ok (.invokespecial 3, 3) := by decide +kernel
theorem dX6_init_4 : decode cX6_init 4 = .ok (.aload_n 0, 1) := by decide +kernel
theorem dX6_init_5 : decode cX6_init 5 = .ok (.aload_n 1, 1) := by decide +kernel
theorem dX6_init_6 : decode cX6_init 6 = .ok (.putfield 9, 3) := by decide +kernel
theorem dX6_init_9 : decode cX6_init 9 = .ok (.aload_n 0, 1) := by decide +kernel
theorem dX6_init_10 : decode cX6_init 10 = .ok (.bipush 6, 2) := by decide +kernel
theorem dX6_init_12 : decode cX6_init 12 = .ok (.newarray .int, 2) := by decide +kernel
theorem dX6_init_14 : decode cX6_init 14 = .ok (.putfield 15, 3) := by decide +kernel
theorem dX6_init_17 : decode cX6_init 17 = .ok (.return_, 1) := by decide +kernel
theorem dX6_addMember_0 : decode cX6_addMember 0 = .ok (.aload_n 0, 1) := by decide +kernel
theorem dX6_addMember_1 : decode cX6_addMember 1 = .ok (.getfield 19, 3) := by decide +kernel
theorem dX6_addMember_4 : decode cX6_addMember 4 = .ok (.ifCond .lt 32, 3) := by decide +kernel
theorem dX6_addMember_7 : decode cX6_addMember 7 = .ok (.aload_n 0, 1) := by decide +kernel
theorem dX6_addMember_8 : decode cX6_addMember 8 = .ok (.getfield 19, 3) := by decide +kernel
theorem dX6_addMember_11 : decode cX6_addMember 11 = .ok (.bipush 6, 2) := by decide +kernel
theorem dX6_addMember_13 : decode cX6_addMember 13 = .ok (.if_icmp .ge 23, 3) := by decide +kernel
theorem dX6_addMember_16 : decode cX6_addMember 16 = .ok (.aload_n 0, 1) := by decide +kernel
theorem dX6_addMember_17 : decode cX6_addMember 17 = .ok (.getfield 15, 3) := by decide +kernel
theorem dX6_addMember_20 : decode cX6_addMember 20 = .ok (.aload_n 0, 1) := by decide +kernel
theorem dX6_addMember_21 : decode cX6_addMember 21 = .ok (.getfield 19, 3) := by decide +kernel
theorem dX6_addMember_24 : decode cX6_addMember 24 = .ok (.iload_n 1, 1) := by decide +kernel
theorem dX6_addMember_25 : decode cX6_addMember 25 = .ok (.iastore, 1) := by decide +kernel
theorem dX6_addMember_26 : decode cX6_addMember 26 = .ok (.aload_n 0, 1) := by decide +kernel
theorem dX6_addMember_27 : decode cX6_addMember 27 = .ok (.dup, 1) := by decide +kernel
theorem dX6_addMember_28 : decode cX6_addMember 28 = .ok (.getfield 19, 3) := by decide +kernel
theorem dX6_addMember_31 : decode cX6_addMember 31 = .ok (.iconst 1, 1) := by decide +kernel
theorem dX6_addMember_32 : decode cX6_addMember 32 = .ok (.iadd, 1) := by decide +kernel
theorem dX6_addMember_33 : decode cX6_addMember 33 = .ok (.putfield 19, 3) := by decide +kernel
theorem dX6_addMember_36 : decode cX6_addMember 36 = .ok (.return_, 1) := by decide +kernel
theorem dX6_removeMember_0 : decode cX6_removeMember 0 = .ok (.iconst 0, 1) := by decide +kernel
theorem dX6_removeMember_1 : decode cX6_removeMember 1 = .ok (.istore_n 2, 1) := by decide +kernel
theorem dX6_removeMember_2 : decode cX6_removeMember 2 = .ok (.iconst 0, 1) := by decide +kernel
theorem dX6_removeMember_3 : decode cX6_removeMember 3 = .ok (.istore_n 3, 1) := by decide +kernel
theorem dX6_removeMember_4 : decode cX6_removeMember 4 = .ok (.iload_n 3, 1) := by decide +kernel
theorem dX6_removeMember_5 : decode cX6_removeMember 5 = .ok (.aload_n 0, 1) := by decide +kernel
theorem dX6_removeMember_6 : decode cX6_removeMember 6 = .ok (.getfield 19, 3) := by decide +kernel
theorem dX6_removeMember_9 : decode cX6_removeMember 9 = .ok (.if_icmp .ge 40, 3) := by decide +kernel
theorem dX6_removeMember_12 : decode cX6_removeMember 12 = .ok (.iload_n 3, 1) := by decide +kernel
theorem dX6_removeMember_13 : decode cX6_removeMember 13 = .ok (.bipush 6, 2) := by decide +kernel
theorem dX6_removeMember_15 : decode cX6_removeMember 15 = .ok (.if_icmp .ge 34, 3) := by decide +kernel
theorem dX6_removeMember_18 : decode cX6_removeMember 18 = .ok (.aload_n 0, 1) := by decide +kernel
theorem dX6_removeMember_19 : decode cX6_removeMember 19 = .ok (.getfield 15, 3) := by decide +kernel
theorem dX6_removeMember_22 : decode cX6_removeMember 22 = .ok (.iload_n 3, 1) := by decide +kernel
theorem dX6_removeMember_23 : decode cX6_removeMember 23 = .ok (.iaload, 1) := by decide +kernel
theorem dX6_removeMember_24 : decode cX6_removeMember 24 = .ok (.iload_n 1, 1) := by decide +kernel
theorem dX6_removeMember_25 : decode cX6_removeMember 25 = .ok (.if_icmp .eq 18, 3) := by decide +kernel
theorem dX6_removeMember_28 : decode cX6_removeMember 28 = .ok (.aload_n 0, 1) := by decide +kernel
theorem dX6_removeMember_29 : decode cX6_removeMember 29 = .ok (.getfield 15, 3) := by decide +kernel
theorem dX6_removeMember_32 : decode cX6_removeMember 32 = .ok (.iload_n 2, 1) := by decide +kernel
theorem dX6_removeMember_33 : decode cX6_removeMember 33 = .ok (.aload_n 0, 1) := by decide +kernel
theorem dX6_removeMember_34 : decode cX6_removeMember 34 = .ok (.getfield 15, 3) := by decide +kernel
theorem dX6_removeMember_37 : decode cX6_removeMember 37 = .ok (.iload_n 3, 1) := by decide +kernel
theorem dX6_removeMember_38 : decode cX6_removeMember 38 = .ok (.iaload, 1) := by decide +kernel
theorem dX6_removeMember_39 : decode cX6_removeMember 39 = .ok (.iastore, 1) := by decide +kernel
theorem dX6_removeMember_40 : decode cX6_removeMember 40 = .ok (.iinc 2 1, 3) := by decide +kernel
theorem dX6_removeMember_43 : decode cX6_removeMember 43 = .ok (.iinc 3 1, 3) := by decide +kernel
theorem dX6_removeMember_46 : decode cX6_removeMember 46 = .ok (.goto (-42), 3) := by decide +kernel
theorem dX6_removeMember_49 : decode cX6_removeMember 49 = .ok (.aload_n 0, 1) := by decide +kernel
theorem dX6_removeMember_50 : decode cX6_removeMember 50 = .ok (.iload_n 2, 1) := by decide +kernel
theorem dX6_removeMember_51 : decode cX6_removeMember 51 = .ok (.putfield 19, 3) := by decide +kernel
theorem dX6_removeMember_54 : decode cX6_removeMember 54 = .ok (.return_, 1) := by decide +kernel
theorem dX6_copyFrom_0 : decode cX6_copyFrom 0 = .ok (.aload_n 0, 1) := by decide +kernel
theorem dX6_copyFrom_1 : decode cX6_copyFrom 1 = .ok (.aload_n 1, 1) := by decide +kernel
theorem dX6_copyFrom_2 : decode cX6_copyFrom 2 = .ok (.getfield 9, 3) := by decide +kernel
theorem dX6_copyFrom_5 : decode cX6_copyFrom 5 = .ok (.putfield 9, 3) := by decide +kernel
theorem dX6_copyFrom_8 : decode cX6_copyFrom 8 = .ok (.aload_n 0, 1) := by decide +kernel
theorem dX6_copyFrom_9 : decode cX6_copyFrom 9 = .ok (.aload_n 1, 1) := by decide +kernel
theorem dX6_copyFrom_10 : decode cX6_copyFrom 10 = .ok (.getfield 23, 3) := by decide +kernel
theorem dX6_copyFrom_13 : decode cX6_copyFrom 13 = .ok (.putfield 23, 3) := by decide +kernel
theorem dX6_copyFrom_16 : decode cX6_copyFrom 16 = .ok (.iconst 0, 1) := by decide +kernel
theorem dX6_copyFrom_17 : decode cX6_copyFrom 17 = .ok (.istore_n 2, 1) := by decide +kernel
theorem dX6_copyFrom_18 : decode cX6_copyFrom 18 = .ok (.iload_n 2, 1) := by decide +kernel
theorem dX6_copyFrom_19 : decode cX6_copyFrom 19 = .ok (.bipush 6, 2) := by decide +kernel
theorem dX6_copyFrom_21 : decode cX6_copyFrom 21 = .ok (.if_icmp .ge 21, 3) := by decide +kernel
theorem dX6_copyFrom_24 : decode cX6_copyFrom 24 = .ok (.aload_n 0, 1) := by decide +kernel
theorem dX6_copyFrom_25 : decode cX6_copyFrom 25 = .ok (.getfield 15, 3) := by decide +kernel
theorem dX6_copyFrom_28 : decode cX6_copyFrom 28 = .ok (.iload_n 2, 1) := by decide +kernel
theorem dX6_copyFrom_29 : decode cX6_copyFrom 29 = .ok (.aload_n 1, 1) := by decide +kernel
theorem dX6_copyFrom_30 : decode cX6_copyFrom 30 = .ok (.getfield 15, 3) := by decide +kernel
theorem dX6_copyFrom_33 : decode cX6_copyFrom 33 = .ok (.iload_n 2, 1) := by decide +kernel
theorem dX6_copyFrom_34 : decode cX6_copyFrom 34 = .ok (.iaload, 1) := by decide +kernel
theorem dX6_copyFrom_35 : decode cX6_copyFrom 35 = .ok (.iastore, 1) := by decide +kernel
theorem dX6_copyFrom_36 : decode cX6_copyFrom 36 = .ok (.iinc 2 1, 3) := by decide +kernel
theorem dX6_copyFrom_39 : decode cX6_copyFrom 39 = .ok (.goto (-21), 3) := by decide +kernel
theorem dX6_copyFrom_42 : decode cX6_copyFrom 42 = .ok (.aload_n 0, 1) := by decide +kernel
theorem dX6_copyFrom_43 : decode cX6_copyFrom 43 = .ok (.aload_n 1, 1) := by decide +kernel
theorem dX6_copyFrom_44 : decode cX6_copyFrom 44 = .ok (.getfield 19, 3) := by decide +kernel
theorem dX6_copyFrom_47 : decode cX6_copyFrom 47 = .ok (.putfield 19, 3) := by decide +kernel
theorem dX6_copyFrom_50 : decode cX6_copyFrom 50 = .ok (.return_, 1) := by decide +kernel
theorem dX7_init_0 : decode cX7_init 0 = .ok (.aload_n 0, 1) := by decide +kernel
theorem dX7_init_1 : decode cX7_init 1 = .ok (.invokespecial 3, 3) := by decide +kernel
theorem dX7_init_4 : decode cX7_init 4 = .ok (.aload_n 0, 1) := by decide +kernel
theorem dX7_init_5 : decode cX7_init 5 = .ok (.aload_n 1, 1) := by decide +kernel
theorem dX7_init_6 : decode cX7_init 6 = .ok (.putfield 9, 3) := by decide +kernel
theorem dX7_init_9 : decode cX7_init 9 = .ok (.aload_n 0, 1) := by decide +kernel
theorem dX7_init_10 : decode cX7_init 10 = .ok (.bipush 6, 2) := by decide +kernel
theorem dX7_init_12 : decode cX7_init 12 = .ok (.anewarray 15, 3) := by decide +kernel
theorem dX7_init_15 : decode cX7_init 15 = .ok (.putfield 17, 3) := by decide +kernel
theorem dX7_init_18 : decode cX7_init 18 = .ok (.iconst 0, 1) := by decide +kernel
theorem dX7_init_19 : decode cX7_init 19 = .ok (.istore_n 2, 1) := by decide +kernel
theorem dX7_init_20 : decode cX7_init 20 = .ok (.iload_n 2, 1) := by decide +kernel
theorem dX7_init_21 : decode cX7_init 21 = .ok (.bipush 6, 2) := by decide +kernel
theorem dX7_init_23 : decode cX7_init 23 = .ok (.if_icmp .ge 23, 3) := by decide +kernel
theorem dX7_init_26 : decode cX7_init 26 = .ok (.aload_n 0, 1) := by decide +kernel
theorem dX7_init_27 : decode cX7_init 27 = .ok (.getfield 17, 3) := by decide +kernel
theorem dX7_init_30 : decode cX7_init 30 = .ok (.iload_n 2, 1) := by decide +kernel
theorem dX7_init_31 : decode cX7_init 31 = .ok (.new 15, 3) := by decide +kernel
theorem dX7_init_34 : decode cX7_init 34 = .ok (.dup, 1) := by decide +kernel
theorem dX7_init_35 : decode cX7_init 35 = .ok (.aload_n 1, 1) := by decide +kernel
theorem dX7_init_36 : decode cX7_init 36 = .ok (.invokespecial 21, 3) := by decide +kernel
theorem dX7_init_39 : decode cX7_init 39 = .ok (.aastore, 1) := by decide +kernel
theorem dX7_init_40 : decode cX7_init 40 = .ok (.iinc 2 1, 3) := by decide +kernel
theorem dX7_init_43 : decode cX7_init 43 = .ok (.goto (-23), 3) := by decide +kernel
theorem dX7_init_46 : decode cX7_init 46 = .ok (.aload_n 0, 1) := by decide +kernel
theorem dX7_init_47 : decode cX7_init 47 = .ok (.bipush 36, 2) := by decide +kernel
theorem dX7_init_49 : decode cX7_init 49 = .ok (.anewarray 24, 3) := by decide +kernel
theorem dX7_init_52 : decode cX7_init 52 = .ok (.putfield 26, 3) := by decide +kernel
theorem dX7_init_55 : decode cX7_init 55 = .ok (.iconst 0, 1) := by decide +kernel
theorem dX7_init_56 : decode cX7_init 56 = .ok (.istore_n 2, 1) := by decide +kernel
theorem dX7_init_57 : decode cX7_init 57 = .ok (.iload_n 2, 1) := by decide +kernel
theorem dX7_init_58 : decode cX7_init 58 = .ok (.bipush 36, 2) := by decide +kernel
theorem dX7_init_60 : decode cX7_init 60 = .ok (.if_icmp .ge 23, 3) := by decide +kernel
theorem dX7_init_63 : decode cX7_init 63 = .ok (.aload_n 0, 1) := by decide +kernel
theorem dX7_init_64 : decode cX7_init 64 = .ok (.getfield 26, 3) := by decide +kernel
theorem dX7_init_67 : decode cX7_init 67 = .ok (.iload_n 2, 1) := by decide +kernel
theorem dX7_init_68 : decode cX7_init 68 = .ok (.new 24, 3) := by decide +kernel
theorem dX7_init_71 : decode cX7_init 71 = .ok (.dup, 1) := by decide +kernel
theorem dX7_init_72 : decode cX7_init 72 = .ok (.aload_n 1, 1) := by decide +kernel
theorem dX7_init_73 : decode cX7_init 73 = .ok (.invokespecial 30, 3) := by decide +kernel
theorem dX7_init_76 : decode cX7_init 76 = .ok (.aastore, 1) := by decide +kernel
theorem dX7_init_77 : decode cX7_init 77 = .ok (.iinc 2 1, 3) := by decide +kernel
theorem dX7_init_80 : decode cX7_init 80 = .ok (.goto (-23), 3) := by decide +kernel
theorem dX7_init_83 : decode cX7_init 83 = .ok (.aload_n 0, 1) := by decide +kernel
theorem dX7_init_84 : decode cX7_init 84 = .ok (.bipush 8, 2) := by decide +kernel
theorem dX7_init_86 : decode cX7_init 86 = .ok (.anewarray 31, 3) := by decide +kernel
theorem dX7_init_89 : decode cX7_init 89 = .ok (.putfield 33, 3) := by decide +kernel
theorem dX7_init_92 : decode cX7_init 92 = .ok (.iconst 0, 1) := by decide +kernel
theorem dX7_init_93 : decode cX7_init 93 = .ok (.istore_n 2, 1) := by decide +kernel
theorem dX7_init_94 : decode cX7_init 94 = .ok (.iload_n 2, 1) := by decide +kernel
theorem dX7_init_95 : decode cX7_init 95 = .ok (.bipush 8, 2) := by decide +kernel
theorem dX7_init_97 : decode cX7_init 97 = .ok (.if_icmp .ge 23, 3) := by decide +kernel
theorem dX7_init_100 : decode cX7_init 100 = .ok (.aload_n 0, 1) := by decide +kernel
theorem dX7_init_101 : decode cX7_init 101 = .ok (.getfield 33, 3) := by decide +kernel
theorem dX7_init_104 : decode cX7_init 104 = .ok (.iload_n 2, 1) := by decide +kernel
theorem dX7_init_105 : decode cX7_init 105 = .ok (.new 31, 3) := by decide +kernel
theorem dX7_init_108 : decode cX7_init 108 = .ok (.dup, 1) := by decide +kernel
theorem dX7_init_109 : decode cX7_init 109 = .ok (.aload_n 1, 1) := by decide +kernel
theorem dX7_init_110 : decode cX7_init 110 = .ok (.invokespecial 37, 3) := by decide +kernel
theorem dX7_init_113 : decode cX7_init 113 = .ok (.aastore, 1) := by decide +kernel
theorem dX7_init_114 : decode cX7_init 114 = .ok (.iinc 2 1, 3) := by decide +kernel
theorem dX7_init_117 : decode cX7_init 117 = .ok (.goto (-23), 3) := by decide +kernel
theorem dX7_init_120 : decode cX7_init 120 = .ok (.aload_n 0, 1) := by decide +kernel
theorem dX7_init_121 : decode cX7_init 121 = .ok (.getstatic 38, 3) := by decide +kernel
theorem dX7_init_124 : decode cX7_init 124 = .ok (.arraylength, 1) := by decide +kernel
theorem dX7_init_125 : decode cX7_init 125 = .ok (.newarray .int, 2) := by decide +kernel
theorem dX7_init_127 : decode cX7_init 127 = .ok (.putfield 42, 3) := by decide +kernel
theorem dX7_init_130 : decode cX7_init 130 = .ok (.iconst 0, 1) := by decide +kernel
theorem dX7_init_131 : decode cX7_init 131 = .ok (.istore_n 2, 1) := by decide +kernel
theorem dX7_init_132 : decode cX7_init 132 = .ok (.iload_n 2, 1) := by decide +kernel
theorem dX7_init_133 : decode cX7_init 133 = .ok (.getstatic 38, 3) := by decide +kernel
theorem dX7_init_136 : decode cX7_init 136 = .ok (.arraylength, 1) := by decide +kernel
theorem dX7_init_137 : decode cX7_init 137 = .ok (.if_icmp .ge 20, 3) := by decide +kernel
theorem dX7_init_140 : decode cX7_init 140 = .ok (.aload_n 0, 1) := by decide +kernel
theorem dX7_init_141 : decode cX7_init 141 = .ok (.getfield 42, 3) := by decide +kernel
theorem dX7_init_144 : decode cX7_init 144 = .ok (.iload_n 2, 1) := by decide +kernel
theorem dX7_init_145 : decode cX7_init 145 = .ok (.getstatic 38, 3) := by decide +kernel
theorem dX7_init_148 : decode cX7_init 148 = .ok (.iload_n 2, 1) := by decide +kernel
theorem dX7_init_149 : decode cX7_init 149 = .ok (.iaload, 1) := by decide +kernel
theorem dX7_init_150 : decode cX7_init 150 = .ok (.iastore, 1) := by decide +kernel
theorem dX7_init_151 : decode cX7_init 151 = .ok (.iinc 2 1, 3) := by decide +kernel
theorem dX7_init_154 : decode cX7_init 154 = .ok (.goto (-22), 3) := by decide +kernel
theorem dX7_init_157 : decode cX7_init 157 = .ok (.aload_n 0, 1) := by decide +kernel
theorem dX7_init_158 : decode cX7_init 158 = .ok (.bipush 10, 2) := by decide +kernel
theorem dX7_init_160 : decode cX7_init 160 = .ok (.newarray .int, 2) := by decide +kernel
theorem dX7_init_162 : decode cX7_init 162 = .ok (.putfield 45, 3) := by decide +kernel
theorem dX7_init_165 : decode cX7_init 165 = .ok (.aload_n 0, 1) := by decide +kernel
theorem dX7_init_166 : decode cX7_init 166 = .ok (.new 48, 3) := by decide +kernel
theorem dX7_init_169 : decode cX7_init 169 = .ok (.dup, 1) := by decide +kernel
theorem dX7_init_170 : decode cX7_init 170 = .ok (.aload_n 1, 1) := by decide +kernel
theorem dX7_init_171 : decode cX7_init 171 = .ok (.invokespecial 50, 3) := by decide +kernel
theorem dX7_init_174 : decode cX7_init 174 = .ok (.putfield 51, 3) := by decide +kernel
theorem dX7_init_177 : decode cX7_init 177 = .ok (.aload_n 0, 1) := by decide +kernel
theorem dX7_init_178 : decode cX7_init 178 = .ok (.new 31, 3) := by decide +kernel
theorem dX7_init_181 : decode cX7_init 181 = .ok (.dup, 1) := by decide +kernel
theorem dX7_init_182 : decode cX7_init 182 = .ok (.aload_n 1, 1) := by decide +kernel
theorem dX7_init_183 : decode cX7_init 183 = .ok (.invokespecial 37, 3) := by decide +kernel
theorem dX7_init_186 : decode cX7_init 186 = .ok (.putfield 55, 3) := by decide +kernel
theorem dX7_init_189 : decode cX7_init 189 = .ok (.return_, 1) := by decide +kernel
theorem dX7_copyFrom_0 : decode cX7_copyFrom 0 = .ok (.iconst 0, 1) := by decide +kernel
theorem dX7_copyFrom_1 : decode cX7_copyFrom 1 = .ok (.istore_n 2, 1) := by decide +kernel
theorem dX7_copyFrom_2 : decode cX7_copyFrom 2 = .ok (.iload_n 2, 1) := by decide +kernel
theorem dX7_copyFrom_3 : decode cX7_copyFrom 3 = .ok (.bipush 6, 2) := by decide +kernel
theorem dX7_copyFrom_5 : decode cX7_copyFrom 5 = .ok (.if_icmp .ge 24, 3) := by decide +kernel
theorem dX7_copyFrom_8 : decode cX7_copyFrom 8 = .ok (.aload_n 0, 1) := by decide +kernel
theorem dX7_copyFrom_9 : decode cX7_copyFrom 9 = .ok (.getfield 17, 3) := by decide +kernel
theorem dX7_copyFrom_12 : decode cX7_copyFrom 12 = .ok (.iload_n 2, 1) := by decide +kernel
theorem dX7_copyFrom_13 : decode cX7_copyFrom 13 = .ok (.aaload, 1) := by decide +kernel
theorem dX7_copyFrom_14 : decode cX7_copyFrom 14 = .ok (.aload_n 1, 1) := by decide +kernel
theorem dX7_copyFrom_15 : decode cX7_copyFrom 15 = .ok (.getfield 17, 3) := by decide +kernel
theorem dX7_copyFrom_18 : decode cX7_copyFrom 18 = .ok (.iload_n 2, 1) := by decide +kernel
theorem dX7_copyFrom_19 : decode cX7_copyFrom 19 = .ok (.aaload, 1) := by decide +kernel
theorem dX7_copyFrom_20 : decode cX7_copyFrom 20 = .ok (.invokevirtual 59, 3) := by decide +kernel
theorem dX7_copyFrom_23 : decode cX7_copyFrom 23 = .ok (.iinc 2 1, 3) := by decide +kernel
theorem dX7_copyFrom_26 : decode cX7_copyFrom 26 = .ok (.goto (-24), 3) := by decide +kernel
theorem dX7_copyFrom_29 : decode cX7_copyFrom 29 = .ok (.aload_n 0, 1) := by decide +kernel
theorem dX7_copyFrom_30 : decode cX7_copyFrom 30 = .ok (.aload_n 1, 1) := by decide +kernel
theorem dX7_copyFrom_31 : decode cX7_copyFrom 31 = .ok (.getfield 63, 3) := by decide +kernel
theorem dX7_copyFrom_34 : decode cX7_copyFrom 34 = .ok (.putfield 63, 3) := by decide +kernel
theorem dX7_copyFrom_37 : decode cX7_copyFrom 37 = .ok (.iconst 0, 1) := by decide +kernel
theorem dX7_copyFrom_38 : decode cX7_copyFrom 38 = .ok (.istore_n 2, 1) := by decide +kernel
theorem dX7_copyFrom_39 : decode cX7_copyFrom 39 = .ok (.iload_n 2, 1) := by decide +kernel
theorem dX7_copyFrom_40 : decode cX7_copyFrom 40 = .ok (.aload_n 0, 1) := by decide +kernel
theorem dX7_copyFrom_41 : decode cX7_copyFrom 41 = .ok (.getfield 63, 3) := by decide +kernel
theorem dX7_copyFrom_44 : decode cX7_copyFrom 44 = .ok (.if_icmp .ge 30, 3) := by decide +kernel
theorem dX7_copyFrom_47 : decode cX7_copyFrom 47 = .ok (.iload_n 2, 1) := by decide +kernel
theorem dX7_copyFrom_48 : decode cX7_copyFrom 48 = .ok (.bipush 36, 2) := by decide +kernel
theorem dX7_copyFrom_50 : decode cX7_copyFrom 50 = .ok (.if_icmp .ge 24, 3) := by decide +kernel
theorem dX7_copyFrom_53 : decode cX7_copyFrom 53 = .ok (.aload_n 0, 1) := by decide +kernel
theorem dX7_copyFrom_54 : decode cX7_copyFrom 54 = .ok (.getfield 26, 3) := by decide +kernel
theorem dX7_copyFrom_57 : decode cX7_copyFrom 57 = .ok (.iload_n 2, 1) := by decide +kernel
theorem dX7_copyFrom_58 : decode cX7_copyFrom 58 = .ok (.aaload, 1) := by decide +kernel
theorem dX7_copyFrom_59 : decode cX7_copyFrom 59 = .ok (.aload_n 1, 1) := by decide +kernel
theorem dX7_copyFrom_60 : decode cX7_copyFrom 60 = .ok (.getfield 26, 3) := by decide +kernel
theorem dX7_copyFrom_63 : decode cX7_copyFrom 63 = .ok (.iload_n 2, 1) := by decide +kernel
theorem dX7_copyFrom_64 : decode cX7_copyFrom 64 = .ok (.aaload, 1) := by decide +kernel
theorem dX7_copyFrom_65 : decode cX7_copyFrom 65 = .ok (.invokevirtual 67, 3) := by decide +kernel
theorem dX7_copyFrom_68 : decode cX7_copyFrom 68 = .ok (.iinc 2 1, 3) := by decide +kernel
theorem dX7_copyFrom_71 : decode cX7_copyFrom 71 = .ok (.goto (-32), 3) := by decide +kernel
theorem dX7_copyFrom_74 : decode cX7_copyFrom 74 = .ok (.aload_n 0, 1) := by decide +kernel
theorem dX7_copyFrom_75 : decode cX7_copyFrom 75 = .ok (.aload_n 1, 1) := by decide +kernel
theorem dX7_copyFrom_76 : decode cX7_copyFrom 76 = .ok (.getfield 70, 3) := by decide +kernel
theorem dX7_copyFrom_79 : decode cX7_copyFrom 79 = .ok (.putfield 70, 3) := by decide +kernel
theorem dX7_copyFrom_82 : decode cX7_copyFrom 82 = .ok (.iconst 0, 1) := by decide +kernel
theorem dX7_copyFrom_83 : decode cX7_copyFrom 83 = .ok (.istore_n 2, 1) := by decide +kernel
theorem dX7_copyFrom_84 : decode cX7_copyFrom 84 = .ok (.iload_n 2, 1) := by decide +kernel
theorem dX7_copyFrom_85 : decode cX7_copyFrom 85 = .ok (.aload_n 0, 1) := by decide +kernel
theorem dX7_copyFrom_86 : decode cX7_copyFrom 86 = .ok (.getfield 70, 3) := by decide +kernel
theorem dX7_copyFrom_89 : decode cX7_copyFrom 89 = .ok (.if_icmp .ge 30, 3) := by decide +kernel
theorem dX7_copyFrom_92 : decode cX7_copyFrom 92 = .ok (.iload_n 2, 1) := by decide +kernel
theorem dX7_copyFrom_93 : decode cX7_copyFrom 93 = .ok (.bipush 8, 2) := by decide +kernel
theorem dX7_copyFrom_95 : decode cX7_copyFrom 95 = .ok (.if_icmp .ge 24, 3) := by decide +kernel
theorem dX7_copyFrom_98 : decode cX7_copyFrom 98 = .ok (.aload_n 0, 1) := by decide +kernel
theorem dX7_copyFrom_99 : decode cX7_copyFrom 99 = .ok (.getfield 33, 3) := by decide +kernel
theorem dX7_copyFrom_102 : decode cX7_copyFrom 102 = .ok (.iload_n 2, 1) := by decide +kernel
theorem dX7_copyFrom_103 : decode cX7_copyFrom 103 = .ok (.aaload, 1) := by decide +kernel
theorem dX7_copyFrom_104 : decode cX7_copyFrom 104 = .ok (.aload_n 1, 1) := by decide +kernel
theorem dX7_copyFrom_105 : decode cX7_copyFrom 105 = .ok (.getfield 33, 3) := by decide +kernel
theorem dX7_copyFrom_108 : decode cX7_copyFrom 108 = .ok (.iload_n 2, 1) := by decide +kernel
theorem dX7_copyFrom_109 : decode cX7_copyFrom 109 = .ok (.aaload, 1) := by decide +kernel
theorem dX7_copyFrom_110 : decode cX7_copyFrom 110 = .ok (.invokevirtual 73, 3) := by decide +kernel
theorem dX7_copyFrom_113 : decode cX7_copyFrom 113 = .ok (.iinc 2 1, 3) := by decide +kernel
theorem dX7_copyFrom_116 : decode cX7_copyFrom 116 = .ok (.goto (-32), 3) := by decide +kernel
theorem dX7_copyFrom_119 : decode cX7_copyFrom 119 = .ok (.iconst 0, 1) := by decide +kernel
theorem dX7_copyFrom_120 : decode cX7_copyFrom 120 = .ok (.istore_n 2, 1) := by decide +kernel
theorem dX7_copyFrom_121 : decode cX7_copyFrom 121 = .ok (.iload_n 2, 1) := by decide +kernel
theorem dX7_copyFrom_122 : decode cX7_copyFrom 122 = .ok (.aload_n 0, 1) := by decide +kernel
theorem dX7_copyFrom_123 : decode cX7_copyFrom 123 = .ok (.getfield 42, 3) := by decide +kernel
theorem dX7_copyFrom_126 : decode cX7_copyFrom 126 = .ok (.arraylength, 1) := by decide +kernel
theorem dX7_copyFrom_127 : decode cX7_copyFrom 127 = .ok (.if_icmp .ge 21, 3) := by decide +kernel
theorem dX7_copyFrom_130 : decode cX7_copyFrom 130 = .ok (.aload_n 0, 1) := by decide +kernel
theorem dX7_copyFrom_131 : decode cX7_copyFrom 131 = .ok (.getfield 42, 3) := by decide +kernel
theorem dX7_copyFrom_134 : decode cX7_copyFrom 134 = .ok (.iload_n 2, 1) := by decide +kernel
theorem dX7_copyFrom_135 : decode cX7_copyFrom 135 = .ok (.aload_n 1, 1) := by decide +kernel
theorem dX7_copyFrom_136 : decode cX7_copyFrom 136 = .ok (.getfield 42, 3) := by decide +kernel
theorem dX7_copyFrom_139 : decode cX7_copyFrom 139 = .ok (.iload_n 2, 1) := by decide +kernel
theorem dX7_copyFrom_140 : decode cX7_copyFrom 140 = .ok (.iaload, 1) := by decide +kernel
theorem dX7_copyFrom_141 : decode cX7_copyFrom 141 = .ok (.iastore, 1) := by decide +kernel
theorem dX7_copyFrom_142 : decode cX7_copyFrom 142 = .ok (.iinc 2 1, 3) := by decide +kernel
theorem dX7_copyFrom_145 : decode cX7_copyFrom 145 = .ok (.goto (-24), 3) := by decide +kernel
theorem dX7_copyFrom_148 : decode cX7_copyFrom 148 = .ok (.iconst 0, 1) := by decide +kernel
theorem dX7_copyFrom_149 : decode cX7_copyFrom 149 = .ok (.istore_n 2, 1) := by decide +kernel
theorem dX7_copyFrom_150 : decode cX7_copyFrom 150 = .ok (.iload_n 2, 1) := by decide +kernel
theorem dX7_copyFrom_151 : decode cX7_copyFrom 151 = .ok (.bipush 10, 2) := by decide +kernel
theorem dX7_copyFrom_153 : decode cX7_copyFrom 153 = .ok (.if_icmp .ge 21, 3) := by decide +kernel
theorem dX7_copyFrom_156 : decode cX7_copyFrom 156 = .ok (.aload_n 0, 1) := by decide +kernel
theorem dX7_copyFrom_157 : decode cX7_copyFrom 157 = .ok (.getfield 45, 3) := by decide +kernel
theorem dX7_copyFrom_160 : decode cX7_copyFrom 160 = .ok (.iload_n 2, 1) := by decide +kernel
theorem dX7_copyFrom_161 : decode cX7_copyFrom 161 = .ok (.aload_n 1, 1) := by decide +kernel
theorem dX7_copyFrom_162 : decode cX7_copyFrom 162 = .ok (.getfield 45, 3) := by decide +kernel
theorem dX7_copyFrom_165 : decode cX7_copyFrom 165 = .ok (.iload_n 2, 1) := by decide +kernel
theorem dX7_copyFrom_166 : decode cX7_copyFrom 166 = .ok (.iaload, 1) := by decide +kernel
theorem dX7_copyFrom_167 : decode cX7_copyFrom 167 = .ok (.iastore, 1) := by decide +kernel
theorem dX7_copyFrom_168 : decode cX7_copyFrom 168 = .ok (.iinc 2 1, 3) := by decide +kernel
theorem dX7_copyFrom_171 : decode cX7_copyFrom 171 = .ok (.goto (-21), 3) := by decide +kernel
theorem dX7_copyFrom_174 : decode cX7_copyFrom 174 = .ok (.aload_n 0, 1) := by decide +kernel
theorem dX7_copyFrom_175 : decode cX7_copyFrom 175 = .ok (.getfield 51, 3) := by decide +kernel
theorem dX7_copyFrom_178 : decode cX7_copyFrom 178 = .ok (.aload_n 1, 1) := by decide +kernel
theorem dX7_copyFrom_179 : decode cX7_copyFrom 179 = .ok (.getfield 51, 3) := by decide +kernel
theorem dX7_copyFrom_182 : decode cX7_copyFrom 182 = .ok (.invokevirtual 76, 3) := by decide +kernel
theorem dX7_copyFrom_185 : decode cX7_copyFrom 185 = .ok (.aload_n 0, 1) := by decide +kernel
theorem dX7_copyFrom_186 : decode cX7_copyFrom 186 = .ok (.aload_n 1, 1) := by decide +kernel
theorem dX7_copyFrom_187 : decode cX7_copyFrom 187 = .ok (.getfield 79, 3) := by decide +kernel
theorem dX7_copyFrom_190 : decode cX7_copyFrom 190 = .ok (.putfield 79, 3) := by decide +kernel
theorem dX7_copyFrom_193 : decode cX7_copyFrom 193 = .ok (.return_, 1) := by decide +kernel
theorem dX7_endConnection_0 : decode cX7_endConnection 0 = .ok (.aload_n 0, 1) := by decide +kernel
theorem dX7_endConnection_1 : decode cX7_endConnection 1 = .ok (.getfield 17, 3) := by decide +kernel
theorem dX7_endConnection_4 : decode cX7_endConnection 4 = .ok (.iload_n 1, 1) := by decide +kernel
theorem dX7_endConnection_5 : decode cX7_endConnection 5 = .ok (.aaload, 1) := by decide +kernel
theorem dX7_endConnection_6 : decode cX7_endConnection 6 = .ok (.astore_n 2, 1) := by decide +kernel
theorem dX7_endConnection_7 : decode cX7_endConnection 7 = .ok (.aload_n 2, 1) := by decide +kernel
theorem dX7_endConnection_8 : decode cX7_endConnection 8 = .ok (.iconst 0, 1) := by decide +kernel
theorem dX7_endConnection_9 : decode cX7_endConnection 9 = .ok (.putfield 82, 3) := by decide +kernel
theorem dX7_endConnection_12 : decode cX7_endConnection 12 = .ok (.aload_n 2, 1) := by decide +kernel
theorem dX7_endConnection_13 : decode cX7_endConnection 13 = .ok (.getfield 86, 3) := by decide +kernel
theorem dX7_endConnection_16 : decode cX7_endConnection 16 = .ok (.invokevirtual 90, 3) := by decide +kernel
theorem dX7_endConnection_19 : decode cX7_endConnection 19 = .ok (.aload_n 2, 1) := by decide +kernel
theorem dX7_endConnection_20 : decode cX7_endConnection 20 = .ok (.getfield 95, 3) := by decide +kernel
theorem dX7_endConnection_23 : decode cX7_endConnection 23 = .ok (.getfield 99, 3) := by decide +kernel
theorem dX7_endConnection_26 : decode cX7_endConnection 26 = .ok (.ifCond .eq 11, 3) := by decide +kernel
theorem dX7_endConnection_29 : decode cX7_endConnection 29 = .ok (.aload_n 0, 1) := by decide +kernel
theorem dX7_endConnection_30 : decode cX7_endConnection 30 = .ok (.iload_n 1, 1) := by decide +kernel
theorem dX7_endConnection_31 : decode cX7_endConnection 31 = .ok (.invokevirtual 104, 3) := by decide +kernel
theorem dX7_endConnection_34 : decode cX7_endConnection 34 = .ok (.goto 14, 3) := by decide +kernel
theorem dX7_endConnection_37 : decode cX7_endConnection 37 = .ok (.aload_n 2, 1) := by decide +kernel
theorem dX7_endConnection_38 : decode cX7_endConnection 38 = .ok (.getfield 95, 3) := by decide +kernel
theorem dX7_endConnection_41 : decode cX7_endConnection 41 = .ok (.aload_n 0, 1) := by decide +kernel
theorem dX7_endConnection_42 : decode cX7_endConnection 42 = .ok (.getfield 79, 3) := by decide +kernel
theorem dX7_endConnection_45 : decode cX7_endConnection 45 = .ok (.putfield 108, 3) := by decide +kernel
theorem dX7_endConnection_48 : decode cX7_endConnection 48 = .ok (.return_, 1) := by decide +kernel
theorem dX7_failConnection_0 : decode cX7_failConnection 0 = .ok (.aload_n 0, 1) := by decide +kernel
theorem dX7_failConnection_1 : decode cX7_failConnection 1 = .ok (.iload_n 1, 1) := by decide +kernel
theorem dX7_failConnection_2 : decode cX7_failConnection 2 = .ok (.invokevirtual 111, 3) := by decide +kernel
theorem dX7_failConnection_5 : decode cX7_failConnection 5 = .ok (.aload_n 0, 1) := by decide +kernel
theorem dX7_failConnection_6 : decode cX7_failConnection 6 = .ok (.getfield 17, 3) := by decide +kernel
theorem dX7_failConnection_9 : decode cX7_failConnection 9 = .ok (.iload_n 1, 1) := by decide +kernel
theorem dX7_failConnection_10 : decode cX7_failConnection 10 = .ok (.aaload, 1) := by decide +kernel
theorem dX7_failConnection_11 : decode cX7_failConnection 11 = .ok (.astore_n 2, 1) := by decide +kernel
theorem dX7_failConnection_12 : decode cX7_failConnection 12 = .ok (.aload_n 2, 1) := by decide +kernel
theorem dX7_failConnection_13 : decode cX7_failConnection 13 = .ok (.getfield 114, 3) := by decide +kernel
theorem dX7_failConnection_16 : decode cX7_failConnection 16 = .ok (.ifCond .ne 5, 3) := by decide +kernel
theorem dX7_failConnection_19 : decode cX7_failConnection 19 = .ok (.iconst 0, 1) := by decide +kernel
theorem dX7_failConnection_20 : decode cX7_failConnection 20 = .ok (.ireturn, 1) := by decide +kernel
theorem dX7_failConnection_21 : decode cX7_failConnection 21 = .ok (.aload_n 2, 1) := by decide +kernel
theorem dX7_failConnection_22 : decode cX7_failConnection 22 = .ok (.iconst 0, 1) := by decide +kernel
theorem dX7_failConnection_23 : decode cX7_failConnection 23 = .ok (.putfield 114, 3) := by decide +kernel
theorem dX7_failConnection_26 : decode cX7_failConnection 26 = .ok (.aload_n 0, 1) := by decide +kernel
theorem dX7_failConnection_27 : decode cX7_failConnection 27 = .ok (.getfield 45, 3) := by decide +kernel
theorem dX7_failConnection_30 : decode cX7_failConnection 30 = .ok (.bipush 6, 2) := by decide +kernel
theorem dX7_failConnection_32 : decode cX7_failConnection 32 = .ok (.dup2, 1) := by decide +kernel
theorem dX7_failConnection_33 : decode cX7_failConnection 33 = .ok (.iaload, 1) := by decide +kernel
theorem dX7_failConnection_34 : decode cX7_failConnection 34 = .ok (.iconst 1, 1) := by decide +kernel
theorem dX7_failConnection_35 : decode cX7_failConnection 35 = .ok (.iadd, 1) := by decide +kernel
theorem dX7_failConnection_36 : decode cX7_failConnection 36 = .ok (.iastore, 1) := by decide +kernel
theorem dX7_failConnection_37 : decode cX7_failConnection 37 = .ok (.aload_n 0, 1) := by decide +kernel
theorem dX7_failConnection_38 : decode cX7_failConnection 38 = .ok (.iload_n 1, 1) := by decide +kernel
theorem dX7_failConnection_39 : decode cX7_failConnection 39 = .ok (.aload_n 2, 1) := by decide +kernel
theorem dX7_failConnection_40 : decode cX7_failConnection 40 = .ok (.getfield 117, 3) := by decide +kernel
theorem dX7_failConnection_43 : decode cX7_failConnection 43 = .ok (.aload_n 2, 1) := by decide +kernel
theorem dX7_failConnection_44 : decode cX7_failConnection 44 = .ok (.getfield 120, 3) := by decide +kernel
theorem dX7_failConnection_47 : decode cX7_failConnection 47 = .ok (.invokevirtual 123, 3) := by decide +kernel
theorem dX7_failConnection_50 : decode cX7_failConnection 50 = .ok (.pop, 1) := by decide +kernel
theorem dX7_failConnection_51 : decode cX7_failConnection 51 = .ok (.iconst 1, 1) := by decide +kernel
theorem dX7_failConnection_52 : decode cX7_failConnection 52 = .ok (.ireturn, 1) := by decide +kernel
theorem dX7_removeSession_0 : decode cX7_removeSession 0 = .ok (.aload_n 0, 1) := by decide +kernel
theorem dX7_removeSession_1 : decode cX7_removeSession 1 = .ok (.getfield 17, 3) := by decide +kernel
theorem dX7_removeSession_4 : decode cX7_removeSession 4 = .ok (.iload_n 1, 1) := by decide +kernel
theorem dX7_removeSession_5 : decode cX7_removeSession 5 = .ok (.aaload, 1) := by decide +kernel
theorem dX7_removeSession_6 : decode cX7_removeSession 6 = .ok (.getfield 95, 3) := by decide +kernel
theorem dX7_removeSession_9 : decode cX7_removeSession 9 = .ok (.invokevirtual 127, 3) := by decide +kernel
theorem dX7_removeSession_12 : decode cX7_removeSession 12 = .ok (.aload_n 0, 1) := by decide +kernel
theorem dX7_removeSession_13 : decode cX7_removeSession 13 = .ok (.getfield 63, 3) := by decide +kernel
theorem dX7_removeSession_16 : decode cX7_removeSession 16 = .ok (.bipush 36, 2) := by decide +kernel
theorem dX7_removeSession_18 : decode cX7_removeSession 18 = .ok (.invokestatic 128, 3) := by decide +kernel
theorem dX7_removeSession_21 : decode cX7_removeSession 21 = .ok (.iconst 1, 1) := by decide +kernel
theorem dX7_removeSession_22 : decode cX7_removeSession 22 = .ok (.isub, 1) := by decide +kernel
theorem dX7_removeSession_23 : decode cX7_removeSession 23 = .ok (.istore_n 2, 1) := by decide +kernel
theorem dX7_removeSession_24 : decode cX7_removeSession 24 = .ok (.iload_n 2, 1) := by decide +kernel
theorem dX7_removeSession_25 : decode cX7_removeSession 25 = .ok (.ifCond .lt 15, 3) := by decide +kernel
theorem dX7_removeSession_28 : decode cX7_removeSession 28 = .ok (.aload_n 0, 1) := by decide +kernel
theorem dX7_removeSession_29 : decode cX7_removeSession 29 = .ok (.iload_n 2, 1) := by decide +kernel
theorem dX7_removeSession_30 : decode cX7_removeSession 30 = .ok (.iload_n 1, 1) := by decide +kernel
theorem dX7_removeSession_31 : decode cX7_removeSession 31 = .ok (.invokevirtual 134, 3) := by decide +kernel
theorem dX7_removeSession_34 : decode cX7_removeSession 34 = .ok (.iinc 2 (-1), 3) := by decide +kernel
theorem dX7_removeSession_37 : decode cX7_removeSession 37 = .ok (.goto (-13), 3) := by decide +kernel
theorem dX7_removeSession_40 : decode cX7_removeSession 40 = .ok (.return_, 1) := by decide +kernel
theorem dX7_resume_0 : decode cX7_resume 0 = .ok (.aload_n 1, 1) := by decide +kernel
theorem dX7_resume_1 : decode cX7_resume 1 = .ok (.getfield 95, 3) := by decide +kernel
theorem dX7_resume_4 : decode cX7_resume 4 = .ok (.getfield 138, 3) := by decide +kernel
theorem dX7_resume_7 : decode cX7_resume 7 = .ok (.astore_n 2, 1) := by decide +kernel
theorem dX7_resume_8 : decode cX7_resume 8 = .ok (.iconst 0, 1) := by decide +kernel
theorem dX7_resume_9 : decode cX7_resume 9 = .ok (.istore_n 3, 1) := by decide +kernel
theorem dX7_resume_10 : decode cX7_resume 10 = .ok (.iload_n 3, 1) := by decide +kernel
theorem dX7_resume_11 : decode cX7_resume 11 = .ok (.aload_n 2, 1) := by decide +kernel
theorem dX7_resume_12 : decode cX7_resume 12 = .ok (.getfield 142, 3) := by decide +kernel
theorem dX7_resume_15 : decode cX7_resume 15 = .ok (.if_icmp .ge 29, 3) := by decide +kernel
theorem dX7_resume_18 : decode cX7_resume 18 = .ok (.iload_n 3, 1) := by decide +kernel
theorem dX7_resume_19 : decode cX7_resume 19 = .ok (.aload_n 2, 1) := by decide +kernel
theorem dX7_resume_20 : decode cX7_resume 20 = .ok (.getfield 147, 3) := by decide +kernel
theorem dX7_resume_23 : decode cX7_resume 23 = .ok (.arraylength, 1) := by decide +kernel
theorem dX7_resume_24 : decode cX7_resume 24 = .ok (.if_icmp .ge 20, 3) := by decide +kernel
theorem dX7_resume_27 : decode cX7_resume 27 = .ok (.aload_n 0, 1) := by decide +kernel
theorem dX7_resume_28 : decode cX7_resume 28 = .ok (.aload_n 1, 1) := by decide +kernel
theorem dX7_resume_29 : decode cX7_resume 29 = .ok (.aload_n 2, 1) := by decide +kernel
theorem dX7_resume_30 : decode cX7_resume 30 = .ok (.getfield 147, 3) := by decide +kernel
theorem dX7_resume_33 : decode cX7_resume 33 = .ok (.iload_n 3, 1) := by decide +kernel
theorem dX7_resume_34 : decode cX7_resume 34 = .ok (.aaload, 1) := by decide +kernel
theorem dX7_resume_35 : decode cX7_resume 35 = .ok (.invokevirtual 150, 3) := by decide +kernel
theorem dX7_resume_38 : decode cX7_resume 38 = .ok (.iinc 3 1, 3) := by decide +kernel
theorem dX7_resume_41 : decode cX7_resume 41 = .ok (.goto (-31), 3) := by decide +kernel
theorem dX7_resume_44 : decode cX7_resume 44 = .ok (.aload_n 0, 1) := by decide +kernel
theorem dX7_resume_45 : decode cX7_resume 45 = .ok (.aload_n 1, 1) := by decide +kernel
theorem dX7_resume_46 : decode cX7_resume 46 = .ok (.invokevirtual 154, 3) := by decide +kernel
theorem dX7_resume_49 : decode cX7_resume 49 = .ok (.return_, 1) := by decide +kernel
theorem dX7_addSubscription_0 : decode cX7_addSubscription 0 = .ok (.aload_n 0, 1) := by decide +kernel
theorem dX7_addSubscription_1 : decode cX7_addSubscription 1 = .ok (.getfield 17, 3) := by decide +kernel
theorem dX7_addSubscription_4 : decode cX7_addSubscription 4 = .ok (.iload_n 1, 1) := by decide +kernel
theorem dX7_addSubscription_5 : decode cX7_addSubscription 5 = .ok (.aaload, 1) := by decide +kernel
theorem dX7_addSubscription_6 : decode cX7_addSubscription 6 = .ok (.getfield 95, 3) := by decide +kernel
theorem dX7_addSubscription_9 : decode cX7_addSubscription 9 = .ok (.aload_n 2, 1) := by decide +kernel
theorem dX7_addSubscription_10 : decode cX7_addSubscription 10 = .ok (.iload_n 3, 1) := by decide +kernel
theorem dX7_addSubscription_11 : decode cX7_addSubscription 11 = .ok (.invokevirtual 157, 3) := by decide +kernel
theorem dX7_addSubscription_14 : decode cX7_addSubscription 14 = .ok (.iload_n 3, 1) := by decide +kernel
theorem dX7_addSubscription_15 : decode cX7_addSubscription 15 = .ok (.ifCond .ne 4, 3) := by decide +kernel
theorem dX7_addSubscription_18 : decode cX7_addSubscription 18 = .ok (.return_, 1) := by decide +kernel
theorem dX7_addSubscription_19 : decode cX7_addSubscription 19 = .ok (.aload_n 0, 1) := by decide +kernel
theorem dX7_addSubscription_20 : decode cX7_addSubscription 20 = .ok (.aload_n 2, 1) := by decide +kernel
theorem dX7_addSubscription_21 : decode cX7_addSubscription 21 = .ok (.iload_n 3, 1) := by decide +kernel
theorem dX7_addSubscription_22 : decode cX7_addSubscription 22 = .ok (.invokevirtual 161, 3) := by decide +kernel
theorem dX7_addSubscription_25 : decode cX7_addSubscription 25 = .ok (.istore 4, 2) := by decide +kernel
theorem dX7_addSubscription_27 : decode cX7_addSubscription 27 = .ok (.iload 4, 2) := by decide +kernel
theorem dX7_addSubscription_29 : decode cX7_addSubscription 29 = .ok (.ifCond .ge 68, 3) := by decide +kernel
theorem dX7_addSubscription_32 : decode cX7_addSubscription 32 = .ok (.aload_n 0, 1) := by decide +kernel
theorem dX7_addSubscription_33 : decode cX7_addSubscription 33 = .ok (.getfield 63, 3) := by decide +kernel
theorem dX7_addSubscription_36 : decode cX7_addSubscription 36 = .ok (.ifCond .lt 61, 3) := by decide +kernel
theorem dX7_addSubscription_39 : decode cX7_addSubscription 39 = .ok (.aload_n 0, 1) := by decide +kernel
theorem dX7_addSubscription_40 : decode cX7_addSubscription 40 = .ok (.getfield 63, 3) := by decide +kernel
theorem dX7_addSubscription_43 : decode cX7_addSubscription 43 = .ok (.bipush 36, 2) := by decide +kernel
theorem dX7_addSubscription_45 : decode cX7_addSubscription 45 = .ok (.if_icmp .ge 52, 3) := by decide +kernel
theorem dX7_addSubscription_48 : decode cX7_addSubscription 48 = .ok (.aload_n 0, 1) := by decide +kernel
theorem dX7_addSubscription_49 : decode cX7_addSubscription 49 = .ok (.getfield 63, 3) := by decide +kernel
theorem dX7_addSubscription_52 : decode cX7_addSubscription 52 = .ok (.istore 4, 2) := by decide +kernel
theorem dX7_addSubscription_54 : decode cX7_addSubscription 54 = .ok (.aload_n 0, 1) := by decide +kernel
theorem dX7_addSubscription_55 : decode cX7_addSubscription 55 = .ok (.getfield 26, 3) := by decide +kernel
theorem dX7_addSubscription_58 : decode cX7_addSubscription 58 = .ok (.iload 4, 2) := by decide +kernel
theorem dX7_addSubscription_60 : decode cX7_addSubscription 60 = .ok (.aaload, 1) := by decide +kernel
theorem dX7_addSubscription_61 : decode cX7_addSubscription 61 = .ok (.aload_n 2, 1) := by decide +kernel
theorem dX7_addSubscription_62 : decode cX7_addSubscription 62 = .ok (.putfield 165, 3) := by decide +kernel
theorem dX7_addSubscription_65 : decode cX7_addSubscription 65 = .ok (.aload_n 0, 1) := by decide +kernel
theorem dX7_addSubscription_66 : decode cX7_addSubscription 66 = .ok (.getfield 26, 3) := by decide +kernel
theorem dX7_addSubscription_69 : decode cX7_addSubscription 69 = .ok (.iload 4, 2) := by decide +kernel
theorem dX7_addSubscription_71 : decode cX7_addSubscription 71 = .ok (.aaload, 1) := by decide +kernel
theorem dX7_addSubscription_72 : decode cX7_addSubscription 72 = .ok (.iload_n 3, 1) := by decide +kernel
theorem dX7_addSubscription_73 : decode cX7_addSubscription 73 = .ok (.putfield 168, 3) := by decide +kernel
theorem dX7_addSubscription_76 : decode cX7_addSubscription 76 = .ok (.aload_n 0, 1) := by decide +kernel
theorem dX7_addSubscription_77 : decode cX7_addSubscription 77 = .ok (.getfield 26, 3) := by decide +kernel
theorem dX7_addSubscription_80 : decode cX7_addSubscription 80 = .ok (.iload 4, 2) := by decide +kernel
theorem dX7_addSubscription_82 : decode cX7_addSubscription 82 = .ok (.aaload, 1) := by decide +kernel
theorem dX7_addSubscription_83 : decode cX7_addSubscription 83 = .ok (.iconst 0, 1) := by decide +kernel
theorem dX7_addSubscription_84 : decode cX7_addSubscription 84 = .ok (.putfield 171, 3) := by decide +kernel
theorem dX7_addSubscription_87 : decode cX7_addSubscription 87 = .ok (.aload_n 0, 1) := by decide +kernel
theorem dX7_addSubscription_88 : decode cX7_addSubscription 88 = .ok (.dup, 1) := by decide +kernel
theorem dX7_addSubscription_89 : decode cX7_addSubscription 89 = .ok (.getfield 63, 3) := by decide +kernel
theorem dX7_addSubscription_92 : decode cX7_addSubscription 92 = .ok (.iconst 1, 1) := by decide +kernel
theorem dX7_addSubscription_93 : decode cX7_addSubscription 93 = .ok (.iadd, 1) := by decide +kernel
theorem dX7_addSubscription_94 : decode cX7_addSubscription 94 = .ok (.putfield 63, 3) := by decide +kernel
theorem dX7_addSubscription_97 : decode cX7_addSubscription 97 = .ok (.iload 4, 2) := by decide +kernel
theorem dX7_addSubscription_99 : decode cX7_addSubscription 99 = .ok (.ifCond .lt 14, 3) := by decide +kernel
theorem dX7_addSubscription_102 : decode cX7_addSubscription 102 = .ok (.aload_n 0, 1) := by decide +kernel
theorem dX7_addSubscription_103 : decode cX7_addSubscription 103 = .ok (.getfield 26, 3) := by decide +kernel
theorem dX7_addSubscription_106 : decode cX7_addSubscription 106 = .ok (.iload 4, 2) := by decide +kernel
theorem dX7_addSubscription_108 : decode cX7_addSubscription 108 = .ok (.aaload, 1) := by decide +kernel
theorem dX7_addSubscription_109 : decode cX7_addSubscription 109 = .ok (.iload_n 1, 1) := by decide +kernel
theorem dX7_addSubscription_110 : decode cX7_addSubscription 110 = .ok (.invokevirtual 174, 3) := by decide +kernel
theorem dX7_addSubscription_113 : decode cX7_addSubscription 113 = .ok (.return_, 1) := by decide +kernel
theorem dX7_removeSubscription_0 : decode cX7_removeSubscription 0 = .ok (.aload_n 0, 1) := by decide +kernel
theorem dX7_removeSubscription_1 : decode cX7_removeSubscription 1 = .ok (.getfield 17, 3) := by decide +kernel
theorem dX7_removeSubscription_4 : decode cX7_removeSubscription 4 = .ok (.iload_n 1, 1) := by decide +kernel
theorem dX7_removeSubscription_5 : decode cX7_removeSubscription 5 = .ok (.aaload, 1) := by decide +kernel
theorem dX7_removeSubscription_6 : decode cX7_removeSubscription 6 = .ok (.getfield 95, 3) := by decide +kernel
theorem dX7_removeSubscription_9 : decode cX7_removeSubscription 9 = .ok (.astore 4, 2) := by decide +kernel
theorem dX7_removeSubscription_11 : decode cX7_removeSubscription 11 = .ok (.aload 4, 2) := by decide +kernel
theorem dX7_removeSubscription_13 : decode cX7_removeSubscription 13 = .ok (.aload_n 2, 1) := by decide +kernel
theorem dX7_removeSubscription_14 : decode cX7_removeSubscription 14 = .ok (.iload_n 3, 1) := by decide +kernel
theorem dX7_removeSubscription_15 : decode cX7_removeSubscription 15 = .ok (.invokevirtual 177, 3) := by decide +kernel
theorem dX7_removeSubscription_18 : decode cX7_removeSubscription 18 = .ok (.istore 5, 2) := by decide +kernel
theorem dX7_removeSubscription_20 : decode cX7_removeSubscription 20 = .ok (.iload 5, 2) := by decide +kernel
theorem dX7_removeSubscription_22 : decode cX7_removeSubscription 22 = .ok (.ifCond .ge 5, 3) := by decide +kernel
theorem dX7_removeSubscription_25 : decode cX7_removeSubscription 25 = .ok (.iconst 0, 1) := by decide +kernel
theorem dX7_removeSubscription_26 : decode cX7_removeSubscription 26 = .ok (.ireturn, 1) := by decide +kernel
theorem dX7_removeSubscription_27 : decode cX7_removeSubscription 27 = .ok (.aload 4, 2) := by decide +kernel
theorem dX7_removeSubscription_29 : decode cX7_removeSubscription 29 = .ok (.iload 5, 2) := by decide +kernel
theorem dX7_removeSubscription_31 : decode cX7_removeSubscription 31 = .ok (.invokevirtual 180, 3) := by decide +kernel
theorem dX7_removeSubscription_34 : decode cX7_removeSubscription 34 = .ok (.iload_n 3, 1) := by decide +kernel
theorem dX7_removeSubscription_35 : decode cX7_removeSubscription 35 = .ok (.ifCond .eq 14, 3) := by decide +kernel
theorem dX7_removeSubscription_38 : decode cX7_removeSubscription 38 = .ok (.aload_n 0, 1) := by decide +kernel
theorem dX7_removeSubscription_39 : decode cX7_removeSubscription 39 = .ok (.aload_n 0, 1) := by decide +kernel
theorem dX7_removeSubscription_40 : decode cX7_removeSubscription 40 = .ok (.aload_n 2, 1) := by decide +kernel
theorem dX7_removeSubscription_41 : decode cX7_removeSubscription 41 = .ok (.iload_n 3, 1) := by decide +kernel
theorem dX7_removeSubscription_42 : decode cX7_removeSubscription 42 = .ok (.invokevirtual 161, 3) := by decide +kernel
theorem dX7_removeSubscription_45 : decode cX7_removeSubscription 45 = .ok (.iload_n 1, 1) := by decide +kernel
theorem dX7_removeSubscription_46 : decode cX7_removeSubscription 46 = .ok (.invokevirtual 134, 3) := by decide +kernel
theorem dX7_removeSubscription_49 : decode cX7_removeSubscription 49 = .ok (.iconst 1, 1) := by decide +kernel
theorem dX7_removeSubscription_50 : decode cX7_removeSubscription 50 = .ok (.ireturn, 1) := by decide +kernel
theorem dX7_placeOfShare_0 : decode cX7_placeOfShare 0 = .ok (.iconst 0, 1) := by decide +kernel
theorem dX7_placeOfShare_1 : decode cX7_placeOfShare 1 = .ok (.istore_n 3, 1) := by decide +kernel
theorem dX7_placeOfShare_2 : decode cX7_placeOfShare 2 = .ok (.iload_n 3, 1) := by decide +kernel
theorem dX7_placeOfShare_3 : decode cX7_placeOfShare 3 = .ok (.aload_n 0, 1) := by decide +kernel
theorem dX7_placeOfShare_4 : decode cX7_placeOfShare 4 = .ok (.getfield 63, 3) := by decide +kernel
theorem dX7_placeOfShare_7 : decode cX7_placeOfShare 7 = .ok (.if_icmp .ge 46, 3) := by decide +kernel
theorem dX7_placeOfShare_10 : decode cX7_placeOfShare 10 = .ok (.iload_n 3, 1) := by decide +kernel
theorem dX7_placeOfShare_11 : decode cX7_placeOfShare 11 = .ok (.bipush 36, 2) := by decide +kernel
theorem dX7_placeOfShare_13 : decode cX7_placeOfShare 13 = .ok (.if_icmp .ge 40, 3) := by decide +kernel
theorem dX7_placeOfShare_16 : decode cX7_placeOfShare 16 = .ok (.aload_n 0, 1) := by decide +kernel
theorem dX7_placeOfShare_17 : decode cX7_placeOfShare 17 = .ok (.getfield 26, 3) := by decide +kernel
theorem dX7_placeOfShare_20 : decode cX7_placeOfShare 20 = .ok (.iload_n 3, 1) := by decide +kernel
theorem dX7_placeOfShare_21 : decode cX7_placeOfShare 21 = .ok (.aaload, 1) := by decide +kernel
theorem dX7_placeOfShare_22 : decode cX7_placeOfShare 22 = .ok (.getfield 168, 3) := by decide +kernel
theorem dX7_placeOfShare_25 : decode cX7_placeOfShare 25 = .ok (.iload_n 2, 1) := by decide +kernel
theorem dX7_placeOfShare_26 : decode cX7_placeOfShare 26 = .ok (.if_icmp .ne 21, 3) := by decide +kernel
theorem dX7_placeOfShare_29 : decode cX7_placeOfShare 29 = .ok (.aload_n 0, 1) := by decide +kernel
theorem dX7_placeOfShare_30 : decode cX7_placeOfShare 30 = .ok (.getfield 26, 3) := by decide +kernel
theorem dX7_placeOfShare_33 : decode cX7_placeOfShare 33 = .ok (.iload_n 3, 1) := by decide +kernel
theorem dX7_placeOfShare_34 : decode cX7_placeOfShare 34 = .ok (.aaload, 1) := by decide +kernel
theorem dX7_placeOfShare_35 : decode cX7_placeOfShare 35 = .ok (.getfield 165, 3) := by decide +kernel
theorem dX7_placeOfShare_38 : decode cX7_placeOfShare 38 = .ok (.aload_n 1, 1) := by decide +kernel
theorem dX7_placeOfShare_39 : decode cX7_placeOfShare 39 = .ok (.invokevirtual 183, 3) := by decide +kernel
theorem dX7_placeOfShare_42 : decode cX7_placeOfShare 42 = .ok (.ifCond .eq 5, 3) := by decide +kernel
theorem dX7_placeOfShare_45 : decode cX7_placeOfShare 45 = .ok (.iload_n 3, 1) := by decide +kernel
theorem dX7_placeOfShare_46 : decode cX7_placeOfShare 46 = .ok (.ireturn, 1) := by decide +kernel
theorem dX7_placeOfShare_47 : decode cX7_placeOfShare 47 = .ok (.iinc 3 1, 3) := by decide +kernel
theorem dX7_placeOfShare_50 : decode cX7_placeOfShare 50 = .ok (.goto (-48), 3) := by decide +kernel
theorem dX7_placeOfShare_53 : decode cX7_placeOfShare 53 = .ok (.iconst (-1), 1) := by decide +kernel
theorem dX7_placeOfShare_54 : decode cX7_placeOfShare 54 = .ok (.ireturn, 1) := by decide +kernel
theorem dX7_leaveShare_0 : decode cX7_leaveShare 0 = .ok (.iload_n 1, 1) := by decide +kernel
theorem dX7_leaveShare_1 : decode cX7_leaveShare 1 = .ok (.ifCond .lt 20, 3) := by decide +kernel
theorem dX7_leaveShare_4 : decode cX7_leaveShare 4 = .ok (.iload_n 1, 1) := by decide +kernel
theorem dX7_leaveShare_5 : decode cX7_leaveShare 5 = .ok (.aload_n 0, 1) := by decide +kernel
theorem dX7_leaveShare_6 : decode cX7_leaveShare 6 = .ok (.getfield 63, 3) := by decide +kernel
theorem dX7_leaveShare_9 : decode cX7_leaveShare 9 = .ok (.if_icmp .ge 12, 3) := by decide +kernel
theorem dX7_leaveShare_12 : decode cX7_leaveShare 12 = .ok (.aload_n 0, 1) := by decide +kernel
theorem dX7_leaveShare_13 : decode cX7_leaveShare 13 = .ok (.getfield 63, 3) := by decide +kernel
theorem dX7_leaveShare_16 : decode cX7_leaveShare 16 = .ok (.bipush 36, 2) := by decide +kernel
theorem dX7_leaveShare_18 : decode cX7_leaveShare 18 = .ok (.if_icmp .le 4, 3) := by decide +kernel
theorem dX7_leaveShare_21 : decode cX7_leaveShare 21 = .ok (.return_, 1) := by decide +kernel
theorem dX7_leaveShare_22 : decode cX7_leaveShare 22 = .ok (.aload_n 0, 1) := by decide +kernel
theorem dX7_leaveShare_23 : decode cX7_leaveShare 23 = .ok (.getfield 26, 3) := by decide +kernel
theorem dX7_leaveShare_26 : decode cX7_leaveShare 26 = .ok (.iload_n 1, 1) := by decide +kernel
theorem dX7_leaveShare_27 : decode cX7_leaveShare 27 = .ok (.aaload, 1) := by decide +kernel
theorem dX7_leaveShare_28 : decode cX7_leaveShare 28 = .ok (.astore_n 3, 1) := by decide +kernel
theorem dX7_leaveShare_29 : decode cX7_leaveShare 29 = .ok (.aload_n 3, 1) := by decide +kernel
theorem dX7_leaveShare_30 : decode cX7_leaveShare 30 = .ok (.iload_n 2, 1) := by decide +kernel
theorem dX7_leaveShare_31 : decode cX7_leaveShare 31 = .ok (.invokevirtual 189, 3) := by decide +kernel
theorem dX7_leaveShare_34 : decode cX7_leaveShare 34 = .ok (.aload_n 3, 1) := by decide +kernel
theorem dX7_leaveShare_35 : decode cX7_leaveShare 35 = .ok (.getfield 171, 3) := by decide +kernel
theorem dX7_leaveShare_38 : decode cX7_leaveShare 38 = .ok (.ifCond .le 4, 3) := by decide +kernel
theorem dX7_leaveShare_41 : decode cX7_leaveShare 41 = .ok (.return_, 1) := by decide +kernel
theorem dX7_leaveShare_42 : decode cX7_leaveShare 42 = .ok (.iload_n 1, 1) := by decide +kernel
theorem dX7_leaveShare_43 : decode cX7_leaveShare 43 = .ok (.istore 4, 2) := by decide +kernel
theorem dX7_leaveShare_45 : decode cX7_leaveShare 45 = .ok (.iload 4, 2) := by decide +kernel
theorem dX7_leaveShare_47 : decode cX7_leaveShare 47 = .ok (.iconst 1, 1) := by decide +kernel
theorem dX7_leaveShare_48 : decode cX7_leaveShare 48 = .ok (.iadd, 1) := by decide +kernel
theorem dX7_leaveShare_49 : decode cX7_leaveShare 49 = .ok (.aload_n 0, 1) := by decide +kernel
theorem dX7_leaveShare_50 : decode cX7_leaveShare 50 = .ok (.getfield 63, 3) := by decide +kernel
theorem dX7_leaveShare_53 : decode cX7_leaveShare 53 = .ok (.if_icmp .ge 25, 3) := by decide +kernel
theorem dX7_leaveShare_56 : decode cX7_leaveShare 56 = .ok (.aload_n 0, 1) := by decide +kernel
theorem dX7_leaveShare_57 : decode cX7_leaveShare 57 = .ok (.getfield 26, 3) := by decide +kernel
theorem dX7_leaveShare_60 : decode cX7_leaveShare 60 = .ok (.iload 4, 2) := by decide +kernel
theorem dX7_leaveShare_62 : decode cX7_leaveShare 62 = .ok (.aload_n 0, 1) := by decide +kernel
theorem dX7_leaveShare_63 : decode cX7_leaveShare 63 = .ok (.getfield 26, 3) := by decide +kernel
theorem dX7_leaveShare_66 : decode cX7_leaveShare 66 = .ok (.iload 4, 2) := by decide +kernel
theorem dX7_leaveShare_68 : decode cX7_leaveShare 68 = .ok (.iconst 1, 1) := by decide +kernel
theorem dX7_leaveShare_69 : decode cX7_leaveShare 69 = .ok (.iadd, 1) := by decide +kernel
theorem dX7_leaveShare_70 : decode cX7_leaveShare 70 = .ok (.aaload, 1) := by decide +kernel
theorem dX7_leaveShare_71 : decode cX7_leaveShare 71 = .ok (.aastore, 1) := by decide +kernel
theorem dX7_leaveShare_72 : decode cX7_leaveShare 72 = .ok (.iinc 4 1, 3) := by decide +kernel
theorem dX7_leaveShare_75 : decode cX7_leaveShare 75 = .ok (.goto (-30), 3) := by decide +kernel
theorem dX7_leaveShare_78 : decode cX7_leaveShare 78 = .ok (.aload_n 0, 1) := by decide +kernel
theorem dX7_leaveShare_79 : decode cX7_leaveShare 79 = .ok (.getfield 26, 3) := by decide +kernel
theorem dX7_leaveShare_82 : decode cX7_leaveShare 82 = .ok (.aload_n 0, 1) := by decide +kernel
theorem dX7_leaveShare_83 : decode cX7_leaveShare 83 = .ok (.getfield 63, 3) := by decide +kernel
theorem dX7_leaveShare_86 : decode cX7_leaveShare 86 = .ok (.iconst 1, 1) := by decide +kernel
theorem dX7_leaveShare_87 : decode cX7_leaveShare 87 = .ok (.isub, 1) := by decide +kernel
theorem dX7_leaveShare_88 : decode cX7_leaveShare 88 = .ok (.aload_n 3, 1) := by decide +kernel
theorem dX7_leaveShare_89 : decode cX7_leaveShare 89 = .ok (.aastore, 1) := by decide +kernel
theorem dX7_leaveShare_90 : decode cX7_leaveShare 90 = .ok (.aload_n 0, 1) := by decide +kernel
theorem dX7_leaveShare_91 : decode cX7_leaveShare 91 = .ok (.dup, 1) := by decide +kernel
theorem dX7_leaveShare_92 : decode cX7_leaveShare 92 = .ok (.getfield 63, 3) := by decide +kernel
theorem dX7_leaveShare_95 : decode cX7_leaveShare 95 = .ok (.iconst 1, 1) := by decide +kernel
theorem dX7_leaveShare_96 : decode cX7_leaveShare 96 = .ok (.isub, 1) := by decide +kernel
theorem dX7_leaveShare_97 : decode cX7_leaveShare 97 = .ok (.putfield 63, 3) := by decide +kernel
theorem dX7_leaveShare_100 : decode cX7_leaveShare 100 = .ok (.return_, 1) := by decide +kernel
theorem dX7_takeMember_0 : decode cX7_takeMember 0 = .ok (.aload_n 1, 1) := by decide +kernel
theorem dX7_takeMember_1 : decode cX7_takeMember 1 = .ok (.getfield 192, 3) := by decide +kernel
theorem dX7_takeMember_4 : decode cX7_takeMember 4 = .ok (.iconst 0, 1) := by decide +kernel
theorem dX7_takeMember_5 : decode cX7_takeMember 5 = .ok (.iaload, 1) := by decide +kernel
theorem dX7_takeMember_6 : decode cX7_takeMember 6 = .ok (.istore_n 2, 1) := by decide +kernel
theorem dX7_takeMember_7 : decode cX7_takeMember 7 = .ok (.iconst 0, 1) := by decide +kernel
theorem dX7_takeMember_8 : decode cX7_takeMember 8 = .ok (.istore_n 3, 1) := by decide +kernel
theorem dX7_takeMember_9 : decode cX7_takeMember 9 = .ok (.iload_n 3, 1) := by decide +kernel
theorem dX7_takeMember_10 : decode cX7_takeMember 10 = .ok (.aload_n 1, 1) := by decide +kernel
theorem dX7_takeMember_11 : decode cX7_takeMember 11 = .ok (.getfield 171, 3) := by decide +kernel
theorem dX7_takeMember_14 : decode cX7_takeMember 14 = .ok (.if_icmp .ge 42, 3) := by decide +kernel
theorem dX7_takeMember_17 : decode cX7_takeMember 17 = .ok (.iload_n 3, 1) := by decide +kernel
theorem dX7_takeMember_18 : decode cX7_takeMember 18 = .ok (.bipush 6, 2) := by decide +kernel
theorem dX7_takeMember_20 : decode cX7_takeMember 20 = .ok (.if_icmp .ge 36, 3) := by decide +kernel
theorem dX7_takeMember_23 : decode cX7_takeMember 23 = .ok (.aload_n 0, 1) := by decide +kernel
theorem dX7_takeMember_24 : decode cX7_takeMember 24 = .ok (.getfield 17, 3) := by decide +kernel
theorem dX7_takeMember_27 : decode cX7_takeMember 27 = .ok (.aload_n 1, 1) := by decide +kernel
theorem dX7_takeMember_28 : decode cX7_takeMember 28 = .ok (.getfield 192, 3) := by decide +kernel
theorem dX7_takeMember_31 : decode cX7_takeMember 31 = .ok (.iload_n 3, 1) := by decide +kernel
theorem dX7_takeMember_32 : decode cX7_takeMember 32 = .ok (.iaload, 1) := by decide +kernel
theorem dX7_takeMember_33 : decode cX7_takeMember 33 = .ok (.aaload, 1) := by decide +kernel
theorem dX7_takeMember_34 : decode cX7_takeMember 34 = .ok (.getfield 82, 3) := by decide +kernel
theorem dX7_takeMember_37 : decode cX7_takeMember 37 = .ok (.ifCond .eq 13, 3) := by decide +kernel
theorem dX7_takeMember_40 : decode cX7_takeMember 40 = .ok (.aload_n 1, 1) := by decide +kernel
theorem dX7_takeMember_41 : decode cX7_takeMember 41 = .ok (.getfield 192, 3) := by decide +kernel
theorem dX7_takeMember_44 : decode cX7_takeMember 44 = .ok (.iload_n 3, 1) := by decide +kernel
theorem dX7_takeMember_45 : decode cX7_takeMember 45 = .ok (.iaload, 1) := by decide +kernel
theorem dX7_takeMember_46 : decode cX7_takeMember 46 = .ok (.istore_n 2, 1) := by decide +kernel
theorem dX7_takeMember_47 : decode cX7_takeMember 47 = .ok (.goto 9, 3) := by decide +kernel
theorem dX7_takeMember_50 : decode cX7_takeMember 50 = .ok (.iinc 3 1, 3) := by decide +kernel
theorem dX7_takeMember_53 : decode cX7_takeMember 53 = .ok (.goto (-44), 3) := by decide +kernel
theorem dX7_takeMember_56 : decode cX7_takeMember 56 = .ok (.aload_n 1, 1) := by decide +kernel
theorem dX7_takeMember_57 : decode cX7_takeMember 57 = .ok (.iload_n 2, 1) := by decide +kernel
theorem dX7_takeMember_58 : decode cX7_takeMember 58 = .ok (.invokevirtual 189, 3) := by decide +kernel
theorem dX7_takeMember_61 : decode cX7_takeMember 61 = .ok (.aload_n 1, 1) := by decide +kernel
theorem dX7_takeMember_62 : decode cX7_takeMember 62 = .ok (.iload_n 2, 1) := by decide +kernel
theorem dX7_takeMember_63 : decode cX7_takeMember 63 = .ok (.invokevirtual 174, 3) := by decide +kernel
theorem dX7_takeMember_66 : decode cX7_takeMember 66 = .ok (.iload_n 2, 1) := by decide +kernel
theorem dX7_takeMember_67 : decode cX7_takeMember 67 = .ok (.ireturn, 1) := by decide +kernel
theorem dX7_spread_0 : decode cX7_spread 0 = .ok (.aload_n 0, 1) := by decide +kernel
theorem dX7_spread_1 : decode cX7_spread 1 = .ok (.getfield 45, 3) := by decide +kernel
theorem dX7_spread_4 : decode cX7_spread 4 = .ok (.iconst 0, 1) := by decide +kernel
theorem dX7_spread_5 : decode cX7_spread 5 = .ok (.dup2, 1) := by decide +kernel
theorem dX7_spread_6 : decode cX7_spread 6 = .ok (.iaload, 1) := by decide +kernel
theorem dX7_spread_7 : decode cX7_spread 7 = .ok (.iconst 1, 1) := by decide +kernel
theorem dX7_spread_8 : decode cX7_spread 8 = .ok (.iadd, 1) := by decide +kernel
theorem dX7_spread_9 : decode cX7_spread 9 = .ok (.iastore, 1) := by decide +kernel
theorem dX7_spread_10 : decode cX7_spread 10 = .ok (.aload_n 0, 1) := by decide +kernel
theorem dX7_spread_11 : decode cX7_spread 11 = .ok (.getfield 51, 3) := by decide +kernel
theorem dX7_spread_14 : decode cX7_spread 14 = .ok (.aload_n 2, 1) := by decide +kernel
theorem dX7_spread_15 : decode cX7_spread 15 = .ok (.getfield 195, 3) := by decide +kernel
theorem dX7_spread_18 : decode cX7_spread 18 = .ok (.invokevirtual 198, 3) := by decide +kernel
theorem dX7_spread_21 : decode cX7_spread 21 = .ok (.iload_n 3, 1) := by decide +kernel
theorem dX7_spread_22 : decode cX7_spread 22 = .ok (.ifCond .eq 8, 3) := by decide +kernel
theorem dX7_spread_25 : decode cX7_spread 25 = .ok (.aload_n 0, 1) := by decide +kernel
theorem dX7_spread_26 : decode cX7_spread 26 = .ok (.aload_n 2, 1) := by decide +kernel
theorem dX7_spread_27 : decode cX7_spread 27 = .ok (.invokevirtual 200, 3) := by decide +kernel
theorem dX7_spread_30 : decode cX7_spread 30 = .ok (.iconst 0, 1) := by decide +kernel
theorem dX7_spread_31 : decode cX7_spread 31 = .ok (.istore 4, 2) := by decide +kernel
theorem dX7_spread_33 : decode cX7_spread 33 = .ok (.iconst 0, 1) := by decide +kernel
theorem dX7_spread_34 : decode cX7_spread 34 = .ok (.istore 5, 2) := by decide +kernel
theorem dX7_spread_36 : decode cX7_spread 36 = .ok (.iload 5, 2) := by decide +kernel
theorem dX7_spread_38 : decode cX7_spread 38 = .ok (.bipush 6, 2) := by decide +kernel
theorem dX7_spread_40 : decode cX7_spread 40 = .ok (.if_icmp .ge 69, 3) := by decide +kernel
theorem dX7_spread_43 : decode cX7_spread 43 = .ok (.aload_n 0, 1) := by decide +kernel
theorem dX7_spread_44 : decode cX7_spread 44 = .ok (.getfield 17, 3) := by decide +kernel
theorem dX7_spread_47 : decode cX7_spread 47 = .ok (.iload 5, 2) := by decide +kernel
theorem dX7_spread_49 : decode cX7_spread 49 = .ok (.aaload, 1) := by decide +kernel
theorem dX7_spread_50 : decode cX7_spread 50 = .ok (.getfield 95, 3) := by decide +kernel
theorem dX7_spread_53 : decode cX7_spread 53 = .ok (.aload_n 2, 1) := by decide +kernel
theorem dX7_spread_54 : decode cX7_spread 54 = .ok (.getfield 195, 3) := by decide +kernel
theorem dX7_spread_57 : decode cX7_spread 57 = .ok (.iload 5, 2) := by decide +kernel
theorem dX7_spread_59 : decode cX7_spread 59 = .ok (.iload_n 1, 1) := by decide +kernel
theorem dX7_spread_60 : decode cX7_spread 60 = .ok (.if_icmp .ne 7, 3) := by decide +kernel
theorem dX7_spread_63 : decode cX7_spread 63 = .ok (.iconst 1, 1) := by decide +kernel
theorem dX7_spread_64 : decode cX7_spread 64 = .ok (.goto 4, 3) := by decide +kernel
theorem dX7_spread_67 : decode cX7_spread 67 = .ok (.iconst 0, 1) := by decide +kernel
theorem dX7_spread_68 : decode cX7_spread 68 = .ok (.invokevirtual 203, 3) := by decide +kernel
theorem dX7_spread_71 : decode cX7_spread 71 = .ok (.istore 6, 2) := by decide +kernel
theorem dX7_spread_73 : decode cX7_spread 73 = .ok (.iload 6, 2) := by decide +kernel
theorem dX7_spread_75 : decode cX7_spread 75 = .ok (.ifCond .lt 28, 3) := by decide +kernel
theorem dX7_spread_78 : decode cX7_spread 78 = .ok (.aload_n 0, 1) := by decide +kernel
theorem dX7_spread_79 : decode cX7_spread 79 = .ok (.aload_n 0, 1) := by decide +kernel
theorem dX7_spread_80 : decode cX7_spread 80 = .ok (.getfield 17, 3) := by decide +kernel
theorem dX7_spread_83 : decode cX7_spread 83 = .ok (.iload 5, 2) := by decide +kernel
theorem dX7_spread_85 : decode cX7_spread 85 = .ok (.aaload, 1) := by decide +kernel
theorem dX7_spread_86 : decode cX7_spread 86 = .ok (.aload_n 2, 1) := by decide +kernel
theorem dX7_spread_87 : decode cX7_spread 87 = .ok (.aload_n 2, 1) := by decide +kernel
theorem dX7_spread_88 : decode cX7_spread 88 = .ok (.getfield 207, 3) := by decide +kernel
theorem dX7_spread_91 : decode cX7_spread 91 = .ok (.iload 6, 2) := by decide +kernel
theorem dX7_spread_93 : decode cX7_spread 93 = .ok (.invokestatic 128, 3) := by decide +kernel
theorem dX7_spread_96 : decode cX7_spread 96 = .ok (.iconst 0, 1) := by decide +kernel
theorem dX7_spread_97 : decode cX7_spread 97 = .ok (.invokevirtual 210, 3) := by decide +kernel
theorem dX7_spread_100 : decode cX7_spread 100 = .ok (.iinc 4 1, 3) := by decide +kernel
theorem dX7_spread_103 : decode cX7_spread 103 = .ok (.iinc 5 1, 3) := by decide +kernel
theorem dX7_spread_106 : decode cX7_spread 106 = .ok (.goto (-70), 3) := by decide +kernel
theorem dX7_spread_109 : decode cX7_spread 109 = .ok (.iconst 0, 1) := by decide +kernel
theorem dX7_spread_110 : decode cX7_spread 110 = .ok (.istore 5, 2) := by decide +kernel
theorem dX7_spread_112 : decode cX7_spread 112 = .ok (.iload 5, 2) := by decide +kernel
theorem dX7_spread_114 : decode cX7_spread 114 = .ok (.aload_n 0, 1) := by decide +kernel
theorem dX7_spread_115 : decode cX7_spread 115 = .ok (.getfield 63, 3) := by decide +kernel
theorem dX7_spread_118 : decode cX7_spread 118 = .ok (.if_icmp .ge 93, 3) := by decide +kernel
theorem dX7_spread_121 : decode cX7_spread 121 = .ok (.iload 5, 2) := by decide +kernel
theorem dX7_spread_123 : decode cX7_spread 123 = .ok (.bipush 36, 2) := by decide +kernel
theorem dX7_spread_125 : decode cX7_spread 125 = .ok (.if_icmp .ge 86, 3) := by decide +kernel
theorem dX7_spread_128 : decode cX7_spread 128 = .ok (.aload_n 0, 1) := by decide +kernel
theorem dX7_spread_129 : decode cX7_spread 129 = .ok (.getfield 26, 3) := by decide +kernel
theorem dX7_spread_132 : decode cX7_spread 132 = .ok (.iload 5, 2) := by decide +kernel
theorem dX7_spread_134 : decode cX7_spread 134 = .ok (.aaload, 1) := by decide +kernel
theorem dX7_spread_135 : decode cX7_spread 135 = .ok (.astore 6, 2) := by decide +kernel
theorem dX7_spread_137 : decode cX7_spread 137 = .ok (.aload 6, 2) := by decide +kernel
theorem dX7_spread_139 : decode cX7_spread 139 = .ok (.getfield 165, 3) := by decide +kernel
theorem dX7_spread_142 : decode cX7_spread 142 = .ok (.aload_n 2, 1) := by decide +kernel
theorem dX7_spread_143 : decode cX7_spread 143 = .ok (.getfield 195, 3) := by decide +kernel
theorem dX7_spread_146 : decode cX7_spread 146 = .ok (.invokevirtual 214, 3) := by decide +kernel
theorem dX7_spread_149 : decode cX7_spread 149 = .ok (.ifCond .eq 56, 3) := by decide +kernel
theorem dX7_spread_152 : decode cX7_spread 152 = .ok (.aload_n 0, 1) := by decide +kernel
theorem dX7_spread_153 : decode cX7_spread 153 = .ok (.getfield 17, 3) := by decide +kernel
theorem dX7_spread_156 : decode cX7_spread 156 = .ok (.aload_n 0, 1) := by decide +kernel
theorem dX7_spread_157 : decode cX7_spread 157 = .ok (.aload 6, 2) := by decide +kernel
theorem dX7_spread_159 : decode cX7_spread 159 = .ok (.invokevirtual 217, 3) := by decide +kernel
theorem dX7_spread_162 : decode cX7_spread 162 = .ok (.aaload, 1) := by decide +kernel
theorem dX7_spread_163 : decode cX7_spread 163 = .ok (.astore 7, 2) := by decide +kernel
theorem dX7_spread_165 : decode cX7_spread 165 = .ok (.aload 7, 2) := by decide +kernel
theorem dX7_spread_167 : decode cX7_spread 167 = .ok (.getfield 95, 3) := by decide +kernel
theorem dX7_spread_170 : decode cX7_spread 170 = .ok (.aload 6, 2) := by decide +kernel
theorem dX7_spread_172 : decode cX7_spread 172 = .ok (.getfield 165, 3) := by decide +kernel
theorem dX7_spread_175 : decode cX7_spread 175 = .ok (.aload 6, 2) := by decide +kernel
theorem dX7_spread_177 : decode cX7_spread 177 = .ok (.getfield 168, 3) := by decide +kernel
theorem dX7_spread_180 : decode cX7_spread 180 = .ok (.invokevirtual 221, 3) := by decide +kernel
theorem dX7_spread_183 : decode cX7_spread 183 = .ok (.istore 8, 2) := by decide +kernel
theorem dX7_spread_185 : decode cX7_spread 185 = .ok (.aload_n 0, 1) := by decide +kernel
theorem dX7_spread_186 : decode cX7_spread 186 = .ok (.aload 7, 2) := by decide +kernel
theorem dX7_spread_188 : decode cX7_spread 188 = .ok (.aload_n 2, 1) := by decide +kernel
theorem dX7_spread_189 : decode cX7_spread 189 = .ok (.aload_n 2, 1) := by decide +kernel
theorem dX7_spread_190 : decode cX7_spread 190 = .ok (.getfield 207, 3) := by decide +kernel
theorem dX7_spread_193 : decode cX7_spread 193 = .ok (.iload 8, 2) := by decide +kernel
theorem dX7_spread_195 : decode cX7_spread 195 = .ok (.invokestatic 128, 3) := by decide +kernel
theorem dX7_spread_198 : decode cX7_spread 198 = .ok (.iconst 0, 1) := by decide +kernel
theorem dX7_spread_199 : decode cX7_spread 199 = .ok (.invokevirtual 210, 3) := by decide +kernel
theorem dX7_spread_202 : decode cX7_spread 202 = .ok (.iinc 4 1, 3) := by decide +kernel
theorem dX7_spread_205 : decode cX7_spread 205 = .ok (.iinc 5 1, 3) := by decide +kernel
theorem dX7_spread_208 : decode cX7_spread 208 = .ok (.goto (-96), 3) := by decide +kernel
theorem dX7_spread_211 : decode cX7_spread 211 = .ok (.iload 4, 2) := by decide +kernel
theorem dX7_spread_213 : decode cX7_spread 213 = .ok (.ireturn, 1) := by decide +kernel
theorem dX7_countAudience_0 : decode cX7_countAudience 0 = .ok (.iconst 0, 1) := by decide +kernel
theorem dX7_countAudience_1 : decode cX7_countAudience 1 = .ok (.istore_n 3, 1) := by decide +kernel
theorem dX7_countAudience_2 : decode cX7_countAudience 2 = .ok (.iconst 0, 1) := by decide +kernel
theorem dX7_countAudience_3 : decode cX7_countAudience 3 = .ok (.istore 4, 2) := by decide +kernel
theorem dX7_countAudience_5 : decode cX7_countAudience 5 = .ok (.iload 4, 2) := by decide +kernel
theorem dX7_countAudience_7 : decode cX7_countAudience 7 = .ok (.bipush 6, 2) := by decide +kernel
theorem dX7_countAudience_9 : decode cX7_countAudience 9 = .ok (.if_icmp .ge 40, 3) := by decide +kernel
theorem dX7_countAudience_12 : decode cX7_countAudience 12 = .ok (.aload_n 0, 1) := by decide +kernel
theorem dX7_countAudience_13 : decode cX7_countAudience 13 = .ok (.getfield 17, 3) := by decide +kernel
theorem dX7_countAudience_16 : decode cX7_countAudience 16 = .ok (.iload 4, 2) := by decide +kernel
theorem dX7_countAudience_18 : decode cX7_countAudience 18 = .ok (.aaload, 1) := by decide +kernel
theorem dX7_countAudience_19 : decode cX7_countAudience 19 = .ok (.getfield 95, 3) := by decide +kernel
theorem dX7_countAudience_22 : decode cX7_countAudience 22 = .ok (.aload_n 2, 1) := by decide +kernel
theorem dX7_countAudience_23 : decode cX7_countAudience 23 = .ok (.iload 4, 2) := by decide +kernel
theorem dX7_countAudience_25 : decode cX7_countAudience 25 = .ok (.iload_n 1, 1) := by decide +kernel
theorem dX7_countAudience_26 : decode cX7_countAudience 26 = .ok (.if_icmp .ne 7, 3) := by decide +kernel
theorem dX7_countAudience_29 : decode cX7_countAudience 29 = .ok (.iconst 1, 1) := by decide +kernel
theorem dX7_countAudience_30 : decode cX7_countAudience 30 = .ok (.goto 4, 3) := by decide +kernel
theorem dX7_countAudience_33 : decode cX7_countAudience 33 = .ok (.iconst 0, 1) := by decide +kernel
theorem dX7_countAudience_34 : decode cX7_countAudience 34 = .ok (.invokevirtual 203, 3) := by decide +kernel
theorem dX7_countAudience_37 : decode cX7_countAudience 37 = .ok (.ifCond .lt 6, 3) := by decide +kernel
theorem dX7_countAudience_40 : decode cX7_countAudience 40 = .ok (.iinc 3 1, 3) := by decide +kernel
theorem dX7_countAudience_43 : decode cX7_countAudience 43 = .ok (.iinc 4 1, 3) := by decide +kernel
theorem dX7_countAudience_46 : decode cX7_countAudience 46 = .ok (.goto (-41), 3) := by decide +kernel
theorem dX7_countAudience_49 : decode cX7_countAudience 49 = .ok (.iconst 0, 1) := by decide +kernel
theorem dX7_countAudience_50 : decode cX7_countAudience 50 = .ok (.istore 4, 2) := by decide +kernel
theorem dX7_countAudience_52 : decode cX7_countAudience 52 = .ok (.iload 4, 2) := by decide +kernel
theorem dX7_countAudience_54 : decode cX7_countAudience 54 = .ok (.aload_n 0, 1) := by decide +kernel
theorem dX7_countAudience_55 : decode cX7_countAudience 55 = .ok (.getfield 63, 3) := by decide +kernel
theorem dX7_countAudience_58 : decode cX7_countAudience 58 = .ok (.if_icmp .ge 36, 3) := by decide +kernel
theorem dX7_countAudience_61 : decode cX7_countAudience 61 = .ok (.iload 4, 2) := by decide +kernel
theorem dX7_countAudience_63 : decode cX7_countAudience 63 = .ok (.bipush 36, 2) := by decide +kernel
theorem dX7_countAudience_65 : decode cX7_countAudience 65 = .ok (.if_icmp .ge 29, 3) := by decide +kernel
theorem dX7_countAudience_68 : decode cX7_countAudience 68 = .ok (.aload_n 0, 1) := by decide +kernel
theorem dX7_countAudience_69 : decode cX7_countAudience 69 = .ok (.getfield 26, 3) := by decide +kernel
theorem dX7_countAudience_72 : decode cX7_countAudience 72 = .ok (.iload 4, 2) := by decide +kernel
theorem dX7_countAudience_74 : decode cX7_countAudience 74 = .ok (.aaload, 1) := by decide +kernel
theorem dX7_countAudience_75 : decode cX7_countAudience 75 = .ok (.getfield 165, 3) := by decide +kernel
theorem dX7_countAudience_78 : decode cX7_countAudience 78 = .ok (.aload_n 2, 1) := by decide +kernel
theorem dX7_countAudience_79 : decode cX7_countAudience 79 = .ok (.invokevirtual 214, 3) := by decide +kernel
theorem dX7_countAudience_82 : decode cX7_countAudience 82 = .ok (.ifCond .eq 6, 3) := by decide +kernel
theorem dX7_countAudience_85 : decode cX7_countAudience 85 = .ok (.iinc 3 1, 3) := by decide +kernel
theorem dX7_countAudience_88 : decode cX7_countAudience 88 = .ok (.iinc 4 1, 3) := by decide +kernel
theorem dX7_countAudience_91 : decode cX7_countAudience 91 = .ok (.goto (-39), 3) := by decide +kernel
theorem dX7_countAudience_94 : decode cX7_countAudience 94 = .ok (.iload_n 3, 1) := by decide +kernel
theorem dX7_countAudience_95 : decode cX7_countAudience 95 = .ok (.ireturn, 1) := by decide +kernel
theorem dX7_keepRetained_0 : decode cX7_keepRetained 0 = .ok (.iconst 0, 1) := by decide +kernel
theorem dX7_keepRetained_1 : decode cX7_keepRetained 1 = .ok (.istore_n 2, 1) := by decide +kernel
theorem dX7_keepRetained_2 : decode cX7_keepRetained 2 = .ok (.iload_n 2, 1) := by decide +kernel
theorem dX7_keepRetained_3 : decode cX7_keepRetained 3 = .ok (.aload_n 0, 1) := by decide +kernel
theorem dX7_keepRetained_4 : decode cX7_keepRetained 4 = .ok (.getfield 70, 3) := by decide +kernel
theorem dX7_keepRetained_7 : decode cX7_keepRetained 7 = .ok (.if_icmp .ge 34, 3) := by decide +kernel
theorem dX7_keepRetained_10 : decode cX7_keepRetained 10 = .ok (.iload_n 2, 1) := by decide +kernel
theorem dX7_keepRetained_11 : decode cX7_keepRetained 11 = .ok (.bipush 8, 2) := by decide +kernel
theorem dX7_keepRetained_13 : decode cX7_keepRetained 13 = .ok (.if_icmp .ge 28, 3) := by decide +kernel
theorem dX7_keepRetained_16 : decode cX7_keepRetained 16 = .ok (.aload_n 0, 1) := by decide +kernel
theorem dX7_keepRetained_17 : decode cX7_keepRetained 17 = .ok (.getfield 33, 3) := by decide +kernel
theorem dX7_keepRetained_20 : decode cX7_keepRetained 20 = .ok (.iload_n 2, 1) := by decide +kernel
theorem dX7_keepRetained_21 : decode cX7_keepRetained 21 = .ok (.aaload, 1) := by decide +kernel
theorem dX7_keepRetained_22 : decode cX7_keepRetained 22 = .ok (.getfield 195, 3) := by decide +kernel
theorem dX7_keepRetained_25 : decode cX7_keepRetained 25 = .ok (.aload_n 1, 1) := by decide +kernel
theorem dX7_keepRetained_26 : decode cX7_keepRetained 26 = .ok (.getfield 195, 3) := by decide +kernel
theorem dX7_keepRetained_29 : decode cX7_keepRetained 29 = .ok (.invokevirtual 224, 3) := by decide +kernel
theorem dX7_keepRetained_32 : decode cX7_keepRetained 32 = .ok (.ifCond .ge 9, 3) := by decide +kernel
theorem dX7_keepRetained_35 : decode cX7_keepRetained 35 = .ok (.iinc 2 1, 3) := by decide +kernel
theorem dX7_keepRetained_38 : decode cX7_keepRetained 38 = .ok (.goto (-36), 3) := by decide +kernel
theorem dX7_keepRetained_41 : decode cX7_keepRetained 41 = .ok (.iload_n 2, 1) := by decide +kernel
theorem dX7_keepRetained_42 : decode cX7_keepRetained 42 = .ok (.aload_n 0, 1) := by decide +kernel
theorem dX7_keepRetained_43 : decode cX7_keepRetained 43 = .ok (.getfield 70, 3) := by decide +kernel
theorem dX7_keepRetained_46 : decode cX7_keepRetained 46 = .ok (.if_icmp .ge 32, 3) := by decide +kernel
theorem dX7_keepRetained_49 : decode cX7_keepRetained 49 = .ok (.iload_n 2, 1) := by decide +kernel
theorem dX7_keepRetained_50 : decode cX7_keepRetained 50 = .ok (.bipush 8, 2) := by decide +kernel
theorem dX7_keepRetained_52 : decode cX7_keepRetained 52 = .ok (.if_icmp .ge 26, 3) := by decide +kernel
theorem dX7_keepRetained_55 : decode cX7_keepRetained 55 = .ok (.aload_n 0, 1) := by decide +kernel
theorem dX7_keepRetained_56 : decode cX7_keepRetained 56 = .ok (.getfield 33, 3) := by decide +kernel
theorem dX7_keepRetained_59 : decode cX7_keepRetained 59 = .ok (.iload_n 2, 1) := by decide +kernel
theorem dX7_keepRetained_60 : decode cX7_keepRetained 60 = .ok (.aaload, 1) := by decide +kernel
theorem dX7_keepRetained_61 : decode cX7_keepRetained 61 = .ok (.getfield 195, 3) := by decide +kernel
theorem dX7_keepRetained_64 : decode cX7_keepRetained 64 = .ok (.aload_n 1, 1) := by decide +kernel
theorem dX7_keepRetained_65 : decode cX7_keepRetained 65 = .ok (.getfield 195, 3) := by decide +kernel
theorem dX7_keepRetained_68 : decode cX7_keepRetained 68 = .ok (.invokevirtual 183, 3) := by decide +kernel
theorem dX7_keepRetained_71 : decode cX7_keepRetained 71 = .ok (.ifCond .eq 7, 3) := by decide +kernel
theorem dX7_keepRetained_74 : decode cX7_keepRetained 74 = .ok (.iconst 1, 1) := by decide +kernel
theorem dX7_keepRetained_75 : decode cX7_keepRetained 75 = .ok (.goto 4, 3) := by decide +kernel
theorem dX7_keepRetained_78 : decode cX7_keepRetained 78 = .ok (.iconst 0, 1) := by decide +kernel
theorem dX7_keepRetained_79 : decode cX7_keepRetained 79 = .ok (.istore_n 3, 1) := by decide +kernel
theorem dX7_keepRetained_80 : decode cX7_keepRetained 80 = .ok (.aload_n 1, 1) := by decide +kernel
theorem dX7_keepRetained_81 : decode cX7_keepRetained 81 = .ok (.getfield 228, 3) := by decide +kernel
theorem dX7_keepRetained_84 : decode cX7_keepRetained 84 = .ok (.ifCond .ne 13, 3) := by decide +kernel
theorem dX7_keepRetained_87 : decode cX7_keepRetained 87 = .ok (.iload_n 3, 1) := by decide +kernel
theorem dX7_keepRetained_88 : decode cX7_keepRetained 88 = .ok (.ifCond .eq 8, 3) := by decide +kernel
theorem dX7_keepRetained_91 : decode cX7_keepRetained 91 = .ok (.aload_n 0, 1) := by decide +kernel
theorem dX7_keepRetained_92 : decode cX7_keepRetained 92 = .ok (.iload_n 2, 1) := by decide +kernel
theorem dX7_keepRetained_93 : decode cX7_keepRetained 93 = .ok (.invokevirtual 231, 3) := by decide +kernel
theorem dX7_keepRetained_96 : decode cX7_keepRetained 96 = .ok (.return_, 1) := by decide +kernel
theorem dX7_keepRetained_97 : decode cX7_keepRetained 97 = .ok (.iload_n 3, 1) := by decide +kernel
theorem dX7_keepRetained_98 : decode cX7_keepRetained 98 = .ok (.ifCond .ne 18, 3) := by decide +kernel
theorem dX7_keepRetained_101 : decode cX7_keepRetained 101 = .ok (.aload_n 0, 1) := by decide +kernel
theorem dX7_keepRetained_102 : decode cX7_keepRetained 102 = .ok (.getfield 70, 3) := by decide +kernel
theorem dX7_keepRetained_105 : decode cX7_keepRetained 105 = .ok (.bipush 8, 2) := by decide +kernel
theorem dX7_keepRetained_107 : decode cX7_keepRetained 107 = .ok (.if_icmp .lt 4, 3) := by decide +kernel
theorem dX7_keepRetained_110 : decode cX7_keepRetained 110 = .ok (.return_, 1) := by decide +kernel
theorem dX7_keepRetained_111 : decode cX7_keepRetained 111 = .ok (.aload_n 0, 1) := by decide +kernel
theorem dX7_keepRetained_112 : decode cX7_keepRetained 112 = .ok (.iload_n 2, 1) := by decide +kernel
theorem dX7_keepRetained_113 : decode cX7_keepRetained 113 = .ok (.invokevirtual 234, 3) := by decide +kernel
theorem dX7_keepRetained_116 : decode cX7_keepRetained 116 = .ok (.aload_n 0, 1) := by decide +kernel
theorem dX7_keepRetained_117 : decode cX7_keepRetained 117 = .ok (.getfield 33, 3) := by decide +kernel
theorem dX7_keepRetained_120 : decode cX7_keepRetained 120 = .ok (.iload_n 2, 1) := by decide +kernel
theorem dX7_keepRetained_121 : decode cX7_keepRetained 121 = .ok (.aaload, 1) := by decide +kernel
theorem dX7_keepRetained_122 : decode cX7_keepRetained 122 = .ok (.aload_n 1, 1) := by decide +kernel
theorem dX7_keepRetained_123 : decode cX7_keepRetained 123 = .ok (.invokevirtual 73, 3) := by decide +kernel
theorem dX7_keepRetained_126 : decode cX7_keepRetained 126 = .ok (.return_, 1) := by decide +kernel
theorem dX7_dropRetained_0 : decode cX7_dropRetained 0 = .ok (.aload_n 0, 1) := by decide +kernel
theorem dX7_dropRetained_1 : decode cX7_dropRetained 1 = .ok (.getfield 33, 3) := by decide +kernel
theorem dX7_dropRetained_4 : decode cX7_dropRetained 4 = .ok (.iload_n 1, 1) := by decide +kernel
theorem dX7_dropRetained_5 : decode cX7_dropRetained 5 = .ok (.aaload, 1) := by decide +kernel
theorem dX7_dropRetained_6 : decode cX7_dropRetained 6 = .ok (.astore_n 2, 1) := by decide +kernel
theorem dX7_dropRetained_7 : decode cX7_dropRetained 7 = .ok (.iload_n 1, 1) := by decide +kernel
theorem dX7_dropRetained_8 : decode cX7_dropRetained 8 = .ok (.istore_n 3, 1) := by decide +kernel
theorem dX7_dropRetained_9 : decode cX7_dropRetained 9 = .ok (.iload_n 3, 1) := by decide +kernel
theorem dX7_dropRetained_10 : decode cX7_dropRetained 10 = .ok (.iconst 1, 1) := by decide +kernel
theorem dX7_dropRetained_11 : decode cX7_dropRetained 11 = .ok (.iadd, 1) := by decide +kernel
theorem dX7_dropRetained_12 : decode cX7_dropRetained 12 = .ok (.aload_n 0, 1) := by decide +kernel
theorem dX7_dropRetained_13 : decode cX7_dropRetained 13 = .ok (.getfield 70, 3) := by decide +kernel
theorem dX7_dropRetained_16 : decode cX7_dropRetained 16 = .ok (.if_icmp .ge 23, 3) := by decide +kernel
theorem dX7_dropRetained_19 : decode cX7_dropRetained 19 = .ok (.aload_n 0, 1) := by decide +kernel
theorem dX7_dropRetained_20 : decode cX7_dropRetained 20 = .ok (.getfield 33, 3) := by decide +kernel
theorem dX7_dropRetained_23 : decode cX7_dropRetained 23 = .ok (.iload_n 3, 1) := by decide +kernel
theorem dX7_dropRetained_24 : decode cX7_dropRetained 24 = .ok (.aload_n 0, 1) := by decide +kernel
theorem dX7_dropRetained_25 : decode cX7_dropRetained 25 = .ok (.getfield 33, 3) := by decide +kernel
theorem dX7_dropRetained_28 : decode cX7_dropRetained 28 = .ok (.iload_n 3, 1) := by decide +kernel
theorem dX7_dropRetained_29 : decode cX7_dropRetained 29 = .ok (.iconst 1, 1) := by decide +kernel
theorem dX7_dropRetained_30 : decode cX7_dropRetained 30 = .ok (.iadd, 1) := by decide +kernel
theorem dX7_dropRetained_31 : decode cX7_dropRetained 31 = .ok (.aaload, 1) := by decide +kernel
theorem dX7_dropRetained_32 : decode cX7_dropRetained 32 = .ok (.aastore, 1) := by decide +kernel
theorem dX7_dropRetained_33 : decode cX7_dropRetained 33 = .ok (.iinc 3 1, 3) := by decide +kernel
theorem dX7_dropRetained_36 : decode cX7_dropRetained 36 = .ok (.goto (-27), 3) := by decide +kernel
theorem dX7_dropRetained_39 : decode cX7_dropRetained 39 = .ok (.aload_n 0, 1) := by decide +kernel
theorem dX7_dropRetained_40 : decode cX7_dropRetained 40 = .ok (.getfield 33, 3) := by decide +kernel
theorem dX7_dropRetained_43 : decode cX7_dropRetained 43 = .ok (.aload_n 0, 1) := by decide +kernel
theorem dX7_dropRetained_44 : decode cX7_dropRetained 44 = .ok (.getfield 70, 3) := by decide +kernel
theorem dX7_dropRetained_47 : decode cX7_dropRetained 47 = .ok (.iconst 1, 1) := by decide +kernel
theorem dX7_dropRetained_48 : decode cX7_dropRetained 48 = .ok (.isub, 1) := by decide +kernel
theorem dX7_dropRetained_49 : decode cX7_dropRetained 49 = .ok (.aload_n 2, 1) := by decide +kernel
theorem dX7_dropRetained_50 : decode cX7_dropRetained 50 = .ok (.aastore, 1) := by decide +kernel
theorem dX7_dropRetained_51 : decode cX7_dropRetained 51 = .ok (.aload_n 0, 1) := by decide +kernel
theorem dX7_dropRetained_52 : decode cX7_dropRetained 52 = .ok (.dup, 1) := by decide +kernel
theorem dX7_dropRetained_53 : decode cX7_dropRetained 53 = .ok (.getfield 70, 3) := by decide +kernel
theorem dX7_dropRetained_56 : decode cX7_dropRetained 56 = .ok (.iconst 1, 1) := by decide +kernel
theorem dX7_dropRetained_57 : decode cX7_dropRetained 57 = .ok (.isub, 1) := by decide +kernel
theorem dX7_dropRetained_58 : decode cX7_dropRetained 58 = .ok (.putfield 70, 3) := by decide +kernel
theorem dX7_dropRetained_61 : decode cX7_dropRetained 61 = .ok (.return_, 1) := by decide +kernel
theorem dX7_openRetained_0 : decode cX7_openRetained 0 = .ok (.aload_n 0, 1) := by decide +kernel
theorem dX7_openRetained_1 : decode cX7_openRetained 1 = .ok (.getfield 33, 3) := by decide +kernel
theorem dX7_openRetained_4 : decode cX7_openRetained 4 = .ok (.aload_n 0, 1) := by decide +kernel
theorem dX7_openRetained_5 : decode cX7_openRetained 5 = .ok (.getfield 70, 3) := by decide +kernel
theorem dX7_openRetained_8 : decode cX7_openRetained 8 = .ok (.aaload, 1) := by decide +kernel
theorem dX7_openRetained_9 : decode cX7_openRetained 9 = .ok (.astore_n 2, 1) := by decide +kernel
theorem dX7_openRetained_10 : decode cX7_openRetained 10 = .ok (.aload_n 0, 1) := by decide +kernel
theorem dX7_openRetained_11 : decode cX7_openRetained 11 = .ok (.getfield 70, 3) := by decide +kernel
theorem dX7_openRetained_14 : decode cX7_openRetained 14 = .ok (.istore_n 3, 1) := by decide +kernel
theorem dX7_openRetained_15 : decode cX7_openRetained 15 = .ok (.iload_n 3, 1) := by decide +kernel
theorem dX7_openRetained_16 : decode cX7_openRetained 16 = .ok (.iload_n 1, 1) := by decide +kernel
theorem dX7_openRetained_17 : decode cX7_openRetained 17 = .ok (.if_icmp .le 23, 3) := by decide +kernel
theorem dX7_openRetained_20 : decode cX7_openRetained 20 = .ok (.aload_n 0, 1) := by decide +kernel
theorem dX7_openRetained_21 : decode cX7_openRetained 21 = .ok (.getfield 33, 3) := by decide +kernel
theorem dX7_openRetained_24 : decode cX7_openRetained 24 = .ok (.iload_n 3, 1) := by decide +kernel
theorem dX7_openRetained_25 : decode cX7_openRetained 25 = .ok (.aload_n 0, 1) := by decide +kernel
theorem dX7_openRetained_26 : decode cX7_openRetained 26 = .ok (.getfield 33, 3) := by decide +kernel
theorem dX7_openRetained_29 : decode cX7_openRetained 29 = .ok (.iload_n 3, 1) := by decide +kernel
theorem dX7_openRetained_30 : decode cX7_openRetained 30 = .ok (.iconst 1, 1) := by decide +kernel
theorem dX7_openRetained_31 : decode cX7_openRetained 31 = .ok (.isub, 1) := by decide +kernel
theorem dX7_openRetained_32 : decode cX7_openRetained 32 = .ok (.aaload, 1) := by decide +kernel
theorem dX7_openRetained_33 : decode cX7_openRetained 33 = .ok (.aastore, 1) := by decide +kernel
theorem dX7_openRetained_34 : decode cX7_openRetained 34 = .ok (.iinc 3 (-1), 3) := by decide +kernel
theorem dX7_openRetained_37 : decode cX7_openRetained 37 = .ok (.goto (-22), 3) := by decide +kernel
theorem dX7_openRetained_40 : decode cX7_openRetained 40 = .ok (.aload_n 0, 1) := by decide +kernel
theorem dX7_openRetained_41 : decode cX7_openRetained 41 = .ok (.getfield 33, 3) := by decide +kernel
theorem dX7_openRetained_44 : decode cX7_openRetained 44 = .ok (.iload_n 1, 1) := by decide +kernel
theorem dX7_openRetained_45 : decode cX7_openRetained 45 = .ok (.aload_n 2, 1) := by decide +kernel
theorem dX7_openRetained_46 : decode cX7_openRetained 46 = .ok (.aastore, 1) := by decide +kernel
theorem dX7_openRetained_47 : decode cX7_openRetained 47 = .ok (.aload_n 0, 1) := by decide +kernel
theorem dX7_openRetained_48 : decode cX7_openRetained 48 = .ok (.dup, 1) := by decide +kernel
theorem dX7_openRetained_49 : decode cX7_openRetained 49 = .ok (.getfield 70, 3) := by decide +kernel
theorem dX7_openRetained_52 : decode cX7_openRetained 52 = .ok (.iconst 1, 1) := by decide +kernel
theorem dX7_openRetained_53 : decode cX7_openRetained 53 = .ok (.iadd, 1) := by decide +kernel
theorem dX7_openRetained_54 : decode cX7_openRetained 54 = .ok (.putfield 70, 3) := by decide +kernel
theorem dX7_openRetained_57 : decode cX7_openRetained 57 = .ok (.return_, 1) := by decide +kernel
theorem dX7_giveRetained_0 : decode cX7_giveRetained 0 = .ok (.iconst 0, 1) := by decide +kernel
theorem dX7_giveRetained_1 : decode cX7_giveRetained 1 = .ok (.istore 4, 2) := by decide +kernel
theorem dX7_giveRetained_3 : decode cX7_giveRetained 3 = .ok (.iload 4, 2) := by decide +kernel
theorem dX7_giveRetained_5 : decode cX7_giveRetained 5 = .ok (.aload_n 0, 1) := by decide +kernel
theorem dX7_giveRetained_6 : decode cX7_giveRetained 6 = .ok (.getfield 70, 3) := by decide +kernel
theorem dX7_giveRetained_9 : decode cX7_giveRetained 9 = .ok (.if_icmp .ge 59, 3) := by decide +kernel
theorem dX7_giveRetained_12 : decode cX7_giveRetained 12 = .ok (.iload 4, 2) := by decide +kernel
theorem dX7_giveRetained_14 : decode cX7_giveRetained 14 = .ok (.bipush 8, 2) := by decide +kernel
theorem dX7_giveRetained_16 : decode cX7_giveRetained 16 = .ok (.if_icmp .ge 52, 3) := by decide +kernel
theorem dX7_giveRetained_19 : decode cX7_giveRetained 19 = .ok (.aload_n 0, 1) := by decide +kernel
theorem dX7_giveRetained_20 : decode cX7_giveRetained 20 = .ok (.getfield 33, 3) := by decide +kernel
theorem dX7_giveRetained_23 : decode cX7_giveRetained 23 = .ok (.iload 4, 2) := by decide +kernel
theorem dX7_giveRetained_25 : decode cX7_giveRetained 25 = .ok (.aaload, 1) := by decide +kernel
theorem dX7_giveRetained_26 : decode cX7_giveRetained 26 = .ok (.astore 5, 2) := by decide +kernel
theorem dX7_giveRetained_28 : decode cX7_giveRetained 28 = .ok (.aload_n 2, 1) := by decide +kernel
theorem dX7_giveRetained_29 : decode cX7_giveRetained 29 = .ok (.aload 5, 2) := by decide +kernel
theorem dX7_giveRetained_31 : decode cX7_giveRetained 31 = .ok (.getfield 195, 3) := by decide +kernel
theorem dX7_giveRetained_34 : decode cX7_giveRetained 34 = .ok (.invokevirtual 214, 3) := by decide +kernel
theorem dX7_giveRetained_37 : decode cX7_giveRetained 37 = .ok (.ifCond .eq 25, 3) := by decide +kernel
theorem dX7_giveRetained_40 : decode cX7_giveRetained 40 = .ok (.aload_n 0, 1) := by decide +kernel
theorem dX7_giveRetained_41 : decode cX7_giveRetained 41 = .ok (.aload_n 0, 1) := by decide +kernel
theorem dX7_giveRetained_42 : decode cX7_giveRetained 42 = .ok (.getfield 17, 3) := by decide +kernel
theorem dX7_giveRetained_45 : decode cX7_giveRetained 45 = .ok (.iload_n 1, 1) := by decide +kernel
theorem dX7_giveRetained_46 : decode cX7_giveRetained 46 = .ok (.aaload, 1) := by decide +kernel
theorem dX7_giveRetained_47 : decode cX7_giveRetained 47 = .ok (.aload 5, 2) := by decide +kernel
theorem dX7_giveRetained_49 : decode cX7_giveRetained 49 = .ok (.aload 5, 2) := by decide +kernel
theorem dX7_giveRetained_51 : decode cX7_giveRetained 51 = .ok (.getfield 207, 3) := by decide +kernel
theorem dX7_giveRetained_54 : decode cX7_giveRetained 54 = .ok (.iload_n 3, 1) := by decide +kernel
theorem dX7_giveRetained_55 : decode cX7_giveRetained 55 = .ok (.invokestatic 128, 3) := by decide +kernel
theorem dX7_giveRetained_58 : decode cX7_giveRetained 58 = .ok (.iconst 2, 1) := by decide +kernel
theorem dX7_giveRetained_59 : decode cX7_giveRetained 59 = .ok (.invokevirtual 210, 3) := by decide +kernel
theorem dX7_giveRetained_62 : decode cX7_giveRetained 62 = .ok (.iinc 4 1, 3) := by decide +kernel
theorem dX7_giveRetained_65 : decode cX7_giveRetained 65 = .ok (.goto (-62), 3) := by decide +kernel
theorem dX7_giveRetained_68 : decode cX7_giveRetained 68 = .ok (.return_, 1) := by decide +kernel
theorem dX7_give_0 : decode cX7_give 0 = .ok (.aload_n 0, 1) := by decide +kernel
theorem dX7_give_1 : decode cX7_give 1 = .ok (.getfield 45, 3) := by decide +kernel
theorem dX7_give_4 : decode cX7_give 4 = .ok (.iconst 1, 1) := by decide +kernel
theorem dX7_give_5 : decode cX7_give 5 = .ok (.dup2, 1) := by decide +kernel
theorem dX7_give_6 : decode cX7_give 6 = .ok (.iaload, 1) := by decide +kernel
theorem dX7_give_7 : decode cX7_give 7 = .ok (.iconst 1, 1) := by decide +kernel
theorem dX7_give_8 : decode cX7_give 8 = .ok (.iadd, 1) := by decide +kernel
theorem dX7_give_9 : decode cX7_give 9 = .ok (.iastore, 1) := by decide +kernel
theorem dX7_give_10 : decode cX7_give 10 = .ok (.aload_n 0, 1) := by decide +kernel
theorem dX7_give_11 : decode cX7_give 11 = .ok (.getfield 55, 3) := by decide +kernel
theorem dX7_give_14 : decode cX7_give 14 = .ok (.aload_n 2, 1) := by decide +kernel
theorem dX7_give_15 : decode cX7_give 15 = .ok (.getfield 195, 3) := by decide +kernel
theorem dX7_give_18 : decode cX7_give 18 = .ok (.iload_n 3, 1) := by decide +kernel
theorem dX7_give_19 : decode cX7_give 19 = .ok (.aload_n 2, 1) := by decide +kernel
theorem dX7_give_20 : decode cX7_give 20 = .ok (.getfield 228, 3) := by decide +kernel
theorem dX7_give_23 : decode cX7_give 23 = .ok (.invokevirtual 237, 3) := by decide +kernel
theorem dX7_give_26 : decode cX7_give 26 = .ok (.aload_n 0, 1) := by decide +kernel
theorem dX7_give_27 : decode cX7_give 27 = .ok (.getfield 55, 3) := by decide +kernel
theorem dX7_give_30 : decode cX7_give 30 = .ok (.iload 4, 2) := by decide +kernel
theorem dX7_give_32 : decode cX7_give 32 = .ok (.putfield 241, 3) := by decide +kernel
theorem dX7_give_35 : decode cX7_give 35 = .ok (.iload_n 3, 1) := by decide +kernel
theorem dX7_give_36 : decode cX7_give 36 = .ok (.ifCond .ne 36, 3) := by decide +kernel
theorem dX7_give_39 : decode cX7_give 39 = .ok (.aload_n 1, 1) := by decide +kernel
theorem dX7_give_40 : decode cX7_give 40 = .ok (.getfield 82, 3) := by decide +kernel
theorem dX7_give_43 : decode cX7_give 43 = .ok (.ifCond .eq 16, 3) := by decide +kernel
theorem dX7_give_46 : decode cX7_give 46 = .ok (.aload_n 0, 1) := by decide +kernel
theorem dX7_give_47 : decode cX7_give 47 = .ok (.aload_n 1, 1) := by decide +kernel
theorem dX7_give_48 : decode cX7_give 48 = .ok (.aload_n 0, 1) := by decide +kernel
theorem dX7_give_49 : decode cX7_give 49 = .ok (.getfield 55, 3) := by decide +kernel
theorem dX7_give_52 : decode cX7_give 52 = .ok (.iconst 0, 1) := by decide +kernel
theorem dX7_give_53 : decode cX7_give 53 = .ok (.invokevirtual 244, 3) := by decide +kernel
theorem dX7_give_56 : decode cX7_give 56 = .ok (.goto 64, 3) := by decide +kernel
theorem dX7_give_59 : decode cX7_give 59 = .ok (.aload_n 0, 1) := by decide +kernel
theorem dX7_give_60 : decode cX7_give 60 = .ok (.getfield 45, 3) := by decide +kernel
theorem dX7_give_63 : decode cX7_give 63 = .ok (.iconst 2, 1) := by decide +kernel
theorem dX7_give_64 : decode cX7_give 64 = .ok (.dup2, 1) := by decide +kernel
theorem dX7_give_65 : decode cX7_give 65 = .ok (.iaload, 1) := by decide +kernel
theorem dX7_give_66 : decode cX7_give 66 = .ok (.iconst 1, 1) := by decide +kernel
theorem dX7_give_67 : decode cX7_give 67 = .ok (.iadd, 1) := by decide +kernel
theorem dX7_give_68 : decode cX7_give 68 = .ok (.iastore, 1) := by decide +kernel
theorem dX7_give_69 : decode cX7_give 69 = .ok (.goto 51, 3) := by decide +kernel
theorem dX7_give_72 : decode cX7_give 72 = .ok (.aload_n 1, 1) := by decide +kernel
theorem dX7_give_73 : decode cX7_give 73 = .ok (.getfield 95, 3) := by decide +kernel
theorem dX7_give_76 : decode cX7_give 76 = .ok (.getfield 248, 3) := by decide +kernel
theorem dX7_give_79 : decode cX7_give 79 = .ok (.getfield 142, 3) := by decide +kernel
theorem dX7_give_82 : decode cX7_give 82 = .ok (.ifCond .ne 23, 3) := by decide +kernel
theorem dX7_give_85 : decode cX7_give 85 = .ok (.aload_n 0, 1) := by decide +kernel
theorem dX7_give_86 : decode cX7_give 86 = .ok (.aload_n 1, 1) := by decide +kernel
theorem dX7_give_87 : decode cX7_give 87 = .ok (.invokevirtual 251, 3) := by decide +kernel
theorem dX7_give_90 : decode cX7_give 90 = .ok (.ifCond .eq 15, 3) := by decide +kernel
theorem dX7_give_93 : decode cX7_give 93 = .ok (.aload_n 0, 1) := by decide +kernel
theorem dX7_give_94 : decode cX7_give 94 = .ok (.aload_n 1, 1) := by decide +kernel
theorem dX7_give_95 : decode cX7_give 95 = .ok (.aload_n 0, 1) := by decide +kernel
theorem dX7_give_96 : decode cX7_give 96 = .ok (.getfield 55, 3) := by decide +kernel
theorem dX7_give_99 : decode cX7_give 99 = .ok (.invokevirtual 255, 3) := by decide +kernel
theorem dX7_give_102 : decode cX7_give 102 = .ok (.goto 18, 3) := by decide +kernel
theorem dX7_give_105 : decode cX7_give 105 = .ok (.aload_n 0, 1) := by decide +kernel
theorem dX7_give_106 : decode cX7_give 106 = .ok (.aload_n 1, 1) := by decide +kernel
theorem dX7_give_107 : decode cX7_give 107 = .ok (.getfield 95, 3) := by decide +kernel
theorem dX7_give_110 : decode cX7_give 110 = .ok (.getfield 248, 3) := by decide +kernel
theorem dX7_give_113 : decode cX7_give 113 = .ok (.aload_n 0, 1) := by decide +kernel
theorem dX7_give_114 : decode cX7_give 114 = .ok (.getfield 55, 3) := by decide +kernel
theorem dX7_give_117 : decode cX7_give 117 = .ok (.invokevirtual 258, 3) := by decide +kernel
theorem dX7_give_120 : decode cX7_give 120 = .ok (.return_, 1) := by decide +kernel
theorem dX7_hold_0 : decode cX7_hold 0 = .ok (.aload_n 1, 1) := by decide +kernel
theorem dX7_hold_1 : decode cX7_hold 1 = .ok (.getfield 142, 3) := by decide +kernel
theorem dX7_hold_4 : decode cX7_hold 4 = .ok (.bipush 8, 2) := by decide +kernel
theorem dX7_hold_6 : decode cX7_hold 6 = .ok (.if_icmp .lt 28, 3) := by decide +kernel
theorem dX7_hold_9 : decode cX7_hold 9 = .ok (.aload_n 0, 1) := by decide +kernel
theorem dX7_hold_10 : decode cX7_hold 10 = .ok (.getfield 45, 3) := by decide +kernel
theorem dX7_hold_13 : decode cX7_hold 13 = .ok (.iconst 2, 1) := by decide +kernel
theorem dX7_hold_14 : decode cX7_hold 14 = .ok (.dup2, 1) := by decide +kernel
theorem dX7_hold_15 : decode cX7_hold 15 = .ok (.iaload, 1) := by decide +kernel
theorem dX7_hold_16 : decode cX7_hold 16 = .ok (.iconst 1, 1) := by decide +kernel
theorem dX7_hold_17 : decode cX7_hold 17 = .ok (.iadd, 1) := by decide +kernel
theorem dX7_hold_18 : decode cX7_hold 18 = .ok (.iastore, 1) := by decide +kernel
theorem dX7_hold_19 : decode cX7_hold 19 = .ok (.aload_n 0, 1) := by decide +kernel
theorem dX7_hold_20 : decode cX7_hold 20 = .ok (.getfield 42, 3) := by decide +kernel
theorem dX7_hold_23 : decode cX7_hold 23 = .ok (.iconst 3, 1) := by decide +kernel
theorem dX7_hold_24 : decode cX7_hold 24 = .ok (.iaload, 1) := by decide +kernel
theorem dX7_hold_25 : decode cX7_hold 25 = .ok (.ifCond .ne 4, 3) := by decide +kernel
theorem dX7_hold_28 : decode cX7_hold 28 = .ok (.return_, 1) := by decide +kernel
theorem dX7_hold_29 : decode cX7_hold 29 = .ok (.aload_n 1, 1) := by decide +kernel
theorem dX7_hold_30 : decode cX7_hold 30 = .ok (.iconst 0, 1) := by decide +kernel
theorem dX7_hold_31 : decode cX7_hold 31 = .ok (.invokevirtual 262, 3) := by decide +kernel
theorem dX7_hold_34 : decode cX7_hold 34 = .ok (.aload_n 1, 1) := by decide +kernel
theorem dX7_hold_35 : decode cX7_hold 35 = .ok (.aload_n 2, 1) := by decide +kernel
theorem dX7_hold_36 : decode cX7_hold 36 = .ok (.invokevirtual 265, 3) := by decide +kernel
theorem dX7_hold_39 : decode cX7_hold 39 = .ok (.return_, 1) := by decide +kernel
theorem dX7_mayStart_0 : decode cX7_mayStart 0 = .ok (.aload_n 1, 1) := by decide +kernel
theorem dX7_mayStart_1 : decode cX7_mayStart 1 = .ok (.getfield 82, 3) := by decide +kernel
theorem dX7_mayStart_4 : decode cX7_mayStart 4 = .ok (.ifCond .eq 26, 3) := by decide +kernel
theorem dX7_mayStart_7 : decode cX7_mayStart 7 = .ok (.aload_n 1, 1) := by decide +kernel
theorem dX7_mayStart_8 : decode cX7_mayStart 8 = .ok (.getfield 95, 3) := by decide +kernel
theorem dX7_mayStart_11 : decode cX7_mayStart 11 = .ok (.getfield 138, 3) := by decide +kernel
theorem dX7_mayStart_14 : decode cX7_mayStart 14 = .ok (.getfield 142, 3) := by decide +kernel
theorem dX7_mayStart_17 : decode cX7_mayStart 17 = .ok (.aload_n 0, 1) := by decide +kernel
theorem dX7_mayStart_18 : decode cX7_mayStart 18 = .ok (.getfield 42, 3) := by decide +kernel
theorem dX7_mayStart_21 : decode cX7_mayStart 21 = .ok (.iconst 0, 1) := by decide +kernel
theorem dX7_mayStart_22 : decode cX7_mayStart 22 = .ok (.iaload, 1) := by decide +kernel
theorem dX7_mayStart_23 : decode cX7_mayStart 23 = .ok (.if_icmp .ge 7, 3) := by decide +kernel
theorem dX7_mayStart_26 : decode cX7_mayStart 26 = .ok (.iconst 1, 1) := by decide +kernel
theorem dX7_mayStart_27 : decode cX7_mayStart 27 = .ok (.goto 4, 3) := by decide +kernel
theorem dX7_mayStart_30 : decode cX7_mayStart 30 = .ok (.iconst 0, 1) := by decide +kernel
theorem dX7_mayStart_31 : decode cX7_mayStart 31 = .ok (.ireturn, 1) := by decide +kernel
theorem dX7_startFlight_0 : decode cX7_startFlight 0 = .ok (.aload_n 1, 1) := by decide +kernel
theorem dX7_startFlight_1 : decode cX7_startFlight 1 = .ok (.getfield 95, 3) := by decide +kernel
theorem dX7_startFlight_4 : decode cX7_startFlight 4 = .ok (.astore_n 3, 1) := by decide +kernel
theorem dX7_startFlight_5 : decode cX7_startFlight 5 = .ok (.aload_n 2, 1) := by decide +kernel
theorem dX7_startFlight_6 : decode cX7_startFlight 6 = .ok (.aload_n 3, 1) := by decide +kernel
theorem dX7_startFlight_7 : decode cX7_startFlight 7 = .ok (.getfield 268, 3) := by decide +kernel
theorem dX7_startFlight_10 : decode cX7_startFlight 10 = .ok (.putfield 271, 3) := by decide +kernel
theorem dX7_startFlight_13 : decode cX7_startFlight 13 = .ok (.aload_n 2, 1) := by decide +kernel
theorem dX7_startFlight_14 : decode cX7_startFlight 14 = .ok (.aload_n 2, 1) := by decide +kernel
theorem dX7_startFlight_15 : decode cX7_startFlight 15 = .ok (.getfield 207, 3) := by decide +kernel
theorem dX7_startFlight_18 : decode cX7_startFlight 18 = .ok (.iconst 1, 1) := by decide +kernel
theorem dX7_startFlight_19 : decode cX7_startFlight 19 = .ok (.if_icmp .ne 7, 3) := by decide +kernel
theorem dX7_startFlight_22 : decode cX7_startFlight 22 = .ok (.iconst 1, 1) := by decide +kernel
theorem dX7_startFlight_23 : decode cX7_startFlight 23 = .ok (.goto 4, 3) := by decide +kernel
theorem dX7_startFlight_26 : decode cX7_startFlight 26 = .ok (.iconst 2, 1) := by decide +kernel
theorem dX7_startFlight_27 : decode cX7_startFlight 27 = .ok (.putfield 274, 3) := by decide +kernel
theorem dX7_startFlight_30 : decode cX7_startFlight 30 = .ok (.aload_n 0, 1) := by decide +kernel
theorem dX7_startFlight_31 : decode cX7_startFlight 31 = .ok (.aload_n 1, 1) := by decide +kernel
theorem dX7_startFlight_32 : decode cX7_startFlight 32 = .ok (.aload_n 2, 1) := by decide +kernel
theorem dX7_startFlight_33 : decode cX7_startFlight 33 = .ok (.iconst 0, 1) := by decide +kernel
theorem dX7_startFlight_34 : decode cX7_startFlight 34 = .ok (.invokevirtual 244, 3) := by decide +kernel
theorem dX7_startFlight_37 : decode cX7_startFlight 37 = .ok (.aload_n 3, 1) := by decide +kernel
theorem dX7_startFlight_38 : decode cX7_startFlight 38 = .ok (.getfield 138, 3) := by decide +kernel
theorem dX7_startFlight_41 : decode cX7_startFlight 41 = .ok (.aload_n 2, 1) := by decide +kernel
theorem dX7_startFlight_42 : decode cX7_startFlight 42 = .ok (.invokevirtual 265, 3) := by decide +kernel
theorem dX7_startFlight_45 : decode cX7_startFlight 45 = .ok (.aload_n 3, 1) := by decide +kernel
theorem dX7_startFlight_46 : decode cX7_startFlight 46 = .ok (.invokevirtual 277, 3) := by decide +kernel
theorem dX7_startFlight_49 : decode cX7_startFlight 49 = .ok (.return_, 1) := by decide +kernel
theorem dX7_startPending_0 : decode cX7_startPending 0 = .ok (.aload_n 1, 1) := by decide +kernel
theorem dX7_startPending_1 : decode cX7_startPending 1 = .ok (.getfield 95, 3) := by decide +kernel
theorem dX7_startPending_4 : decode cX7_startPending 4 = .ok (.getfield 248, 3) := by decide +kernel
theorem dX7_startPending_7 : decode cX7_startPending 7 = .ok (.astore_n 2, 1) := by decide +kernel
theorem dX7_startPending_8 : decode cX7_startPending 8 = .ok (.iconst 0, 1) := by decide +kernel
theorem dX7_startPending_9 : decode cX7_startPending 9 = .ok (.istore_n 3, 1) := by decide +kernel
theorem dX7_startPending_10 : decode cX7_startPending 10 = .ok (.iload_n 3, 1) := by decide +kernel
theorem dX7_startPending_11 : decode cX7_startPending 11 = .ok (.bipush 8, 2) := by decide +kernel
theorem dX7_startPending_13 : decode cX7_startPending 13 = .ok (.if_icmp .ge 40, 3) := by decide +kernel
theorem dX7_startPending_16 : decode cX7_startPending 16 = .ok (.aload_n 2, 1) := by decide +kernel
theorem dX7_startPending_17 : decode cX7_startPending 17 = .ok (.getfield 142, 3) := by decide +kernel
theorem dX7_startPending_20 : decode cX7_startPending 20 = .ok (.ifCond .le 33, 3) := by decide +kernel
theorem dX7_startPending_23 : decode cX7_startPending 23 = .ok (.aload_n 0, 1) := by decide +kernel
theorem dX7_startPending_24 : decode cX7_startPending 24 = .ok (.aload_n 1, 1) := by decide +kernel
theorem dX7_startPending_25 : decode cX7_startPending 25 = .ok (.invokevirtual 251, 3) := by decide +kernel
theorem dX7_startPending_28 : decode cX7_startPending 28 = .ok (.ifCond .eq 25, 3) := by decide +kernel
theorem dX7_startPending_31 : decode cX7_startPending 31 = .ok (.aload_n 0, 1) := by decide +kernel
theorem dX7_startPending_32 : decode cX7_startPending 32 = .ok (.aload_n 1, 1) := by decide +kernel
theorem dX7_startPending_33 : decode cX7_startPending 33 = .ok (.aload_n 2, 1) := by decide +kernel
theorem dX7_startPending_34 : decode cX7_startPending 34 = .ok (.getfield 147, 3) := by decide +kernel
theorem dX7_startPending_37 : decode cX7_startPending 37 = .ok (.iconst 0, 1) := by decide +kernel
theorem dX7_startPending_38 : decode cX7_startPending 38 = .ok (.aaload, 1) := by decide +kernel
theorem dX7_startPending_39 : decode cX7_startPending 39 = .ok (.invokevirtual 255, 3) := by decide +kernel
theorem dX7_startPending_42 : decode cX7_startPending 42 = .ok (.aload_n 2, 1) := by decide +kernel
theorem dX7_startPending_43 : decode cX7_startPending 43 = .ok (.iconst 0, 1) := by decide +kernel
theorem dX7_startPending_44 : decode cX7_startPending 44 = .ok (.invokevirtual 262, 3) := by decide +kernel
theorem dX7_startPending_47 : decode cX7_startPending 47 = .ok (.iinc 3 1, 3) := by decide +kernel
theorem dX7_startPending_50 : decode cX7_startPending 50 = .ok (.goto (-40), 3) := by decide +kernel
theorem dX7_startPending_53 : decode cX7_startPending 53 = .ok (.return_, 1) := by decide +kernel
theorem dX7_takeAnswer_0 : decode cX7_takeAnswer 0 = .ok (.aload_n 1, 1) := by decide +kernel
theorem dX7_takeAnswer_1 : decode cX7_takeAnswer 1 = .ok (.getfield 95, 3) := by decide +kernel
theorem dX7_takeAnswer_4 : decode cX7_takeAnswer 4 = .ok (.getfield 138, 3) := by decide +kernel
theorem dX7_takeAnswer_7 : decode cX7_takeAnswer 7 = .ok (.astore 4, 2) := by decide +kernel
theorem dX7_takeAnswer_9 : decode cX7_takeAnswer 9 = .ok (.aload 4, 2) := by decide +kernel
theorem dX7_takeAnswer_11 : decode cX7_takeAnswer 11 = .ok (.iload_n 3, 1) := by decide +kernel
theorem dX7_takeAnswer_12 : decode cX7_takeAnswer 12 = .ok (.invokevirtual 280, 3) := by decide +kernel
theorem dX7_takeAnswer_15 : decode cX7_takeAnswer 15 = .ok (.istore 5, 2) := by decide +kernel
theorem dX7_takeAnswer_17 : decode cX7_takeAnswer 17 = .ok (.iload 5, 2) := by decide +kernel
theorem dX7_takeAnswer_19 : decode cX7_takeAnswer 19 = .ok (.ifCond .ge 5, 3) := by decide +kernel
theorem dX7_takeAnswer_22 : decode cX7_takeAnswer 22 = .ok (.iconst 0, 1) := by decide +kernel
theorem dX7_takeAnswer_23 : decode cX7_takeAnswer 23 = .ok (.ireturn, 1) := by decide +kernel
theorem dX7_takeAnswer_24 : decode cX7_takeAnswer 24 = .ok (.aload 4, 2) := by decide +kernel
theorem dX7_takeAnswer_26 : decode cX7_takeAnswer 26 = .ok (.getfield 147, 3) := by decide +kernel
theorem dX7_takeAnswer_29 : decode cX7_takeAnswer 29 = .ok (.iload 5, 2) := by decide +kernel
theorem dX7_takeAnswer_31 : decode cX7_takeAnswer 31 = .ok (.aaload, 1) := by decide +kernel
theorem dX7_takeAnswer_32 : decode cX7_takeAnswer 32 = .ok (.astore 6, 2) := by decide +kernel
theorem dX7_takeAnswer_34 : decode cX7_takeAnswer 34 = .ok (.iload_n 2, 1) := by decide +kernel
theorem dX7_takeAnswer_35 : decode cX7_takeAnswer 35 = .ok (.iconst 2, 1) := by decide +kernel
theorem dX7_takeAnswer_36 : decode cX7_takeAnswer 36 = .ok (.if_icmp .ne 27, 3) := by decide +kernel
theorem dX7_takeAnswer_39 : decode cX7_takeAnswer 39 = .ok (.aload 6, 2) := by decide +kernel
theorem dX7_takeAnswer_41 : decode cX7_takeAnswer 41 = .ok (.getfield 207, 3) := by decide +kernel
theorem dX7_takeAnswer_44 : decode cX7_takeAnswer 44 = .ok (.iconst 2, 1) := by decide +kernel
theorem dX7_takeAnswer_45 : decode cX7_takeAnswer 45 = .ok (.if_icmp .ne 18, 3) := by decide +kernel
theorem dX7_takeAnswer_48 : decode cX7_takeAnswer 48 = .ok (.aload 6, 2) := by decide +kernel
theorem dX7_takeAnswer_50 : decode cX7_takeAnswer 50 = .ok (.iconst 4, 1) := by decide +kernel
theorem dX7_takeAnswer_51 : decode cX7_takeAnswer 51 = .ok (.putfield 274, 3) := by decide +kernel
theorem dX7_takeAnswer_54 : decode cX7_takeAnswer 54 = .ok (.aload_n 0, 1) := by decide +kernel
theorem dX7_takeAnswer_55 : decode cX7_takeAnswer 55 = .ok (.aload_n 1, 1) := by decide +kernel
theorem dX7_takeAnswer_56 : decode cX7_takeAnswer 56 = .ok (.aload 6, 2) := by decide +kernel
theorem dX7_takeAnswer_58 : decode cX7_takeAnswer 58 = .ok (.invokevirtual 283, 3) := by decide +kernel
theorem dX7_takeAnswer_61 : decode cX7_takeAnswer 61 = .ok (.iconst 1, 1) := by decide +kernel
theorem dX7_takeAnswer_62 : decode cX7_takeAnswer 62 = .ok (.ireturn, 1) := by decide +kernel
theorem dX7_takeAnswer_63 : decode cX7_takeAnswer 63 = .ok (.aload 6, 2) := by decide +kernel
theorem dX7_takeAnswer_65 : decode cX7_takeAnswer 65 = .ok (.getfield 274, 3) := by decide +kernel
theorem dX7_takeAnswer_68 : decode cX7_takeAnswer 68 = .ok (.iload_n 2, 1) := by decide +kernel
theorem dX7_takeAnswer_69 : decode cX7_takeAnswer 69 = .ok (.if_icmp .eq 5, 3) := by decide +kernel
theorem dX7_takeAnswer_72 : decode cX7_takeAnswer 72 = .ok (.iconst 0, 1) := by decide +kernel
theorem dX7_takeAnswer_73 : decode cX7_takeAnswer 73 = .ok (.ireturn, 1) := by decide +kernel
theorem dX7_takeAnswer_74 : decode cX7_takeAnswer 74 = .ok (.aload_n 0, 1) := by decide +kernel
theorem dX7_takeAnswer_75 : decode cX7_takeAnswer 75 = .ok (.getfield 45, 3) := by decide +kernel
theorem dX7_takeAnswer_78 : decode cX7_takeAnswer 78 = .ok (.bipush 9, 2) := by decide +kernel
theorem dX7_takeAnswer_80 : decode cX7_takeAnswer 80 = .ok (.dup2, 1) := by decide +kernel
theorem dX7_takeAnswer_81 : decode cX7_takeAnswer 81 = .ok (.iaload, 1) := by decide +kernel
theorem dX7_takeAnswer_82 : decode cX7_takeAnswer 82 = .ok (.iconst 1, 1) := by decide +kernel
theorem dX7_takeAnswer_83 : decode cX7_takeAnswer 83 = .ok (.iadd, 1) := by decide +kernel
theorem dX7_takeAnswer_84 : decode cX7_takeAnswer 84 = .ok (.iastore, 1) := by decide +kernel
theorem dX7_takeAnswer_85 : decode cX7_takeAnswer 85 = .ok (.aload 4, 2) := by decide +kernel
theorem dX7_takeAnswer_87 : decode cX7_takeAnswer 87 = .ok (.iload 5, 2) := by decide +kernel
theorem dX7_takeAnswer_89 : decode cX7_takeAnswer 89 = .ok (.invokevirtual 262, 3) := by decide +kernel
theorem dX7_takeAnswer_92 : decode cX7_takeAnswer 92 = .ok (.aload_n 0, 1) := by decide +kernel
theorem dX7_takeAnswer_93 : decode cX7_takeAnswer 93 = .ok (.aload_n 1, 1) := by decide +kernel
theorem dX7_takeAnswer_94 : decode cX7_takeAnswer 94 = .ok (.invokevirtual 154, 3) := by decide +kernel
theorem dX7_takeAnswer_97 : decode cX7_takeAnswer 97 = .ok (.iconst 1, 1) := by decide +kernel
theorem dX7_takeAnswer_98 : decode cX7_takeAnswer 98 = .ok (.ireturn, 1) := by decide +kernel
theorem dX7_resend_0 : decode cX7_resend 0 = .ok (.aload_n 0, 1) := by decide +kernel
theorem dX7_resend_1 : decode cX7_resend 1 = .ok (.getfield 45, 3) := by decide +kernel
theorem dX7_resend_4 : decode cX7_resend 4 = .ok (.iconst 4, 1) := by decide +kernel
theorem dX7_resend_5 : decode cX7_resend 5 = .ok (.dup2, 1) := by decide +kernel
theorem dX7_resend_6 : decode cX7_resend 6 = .ok (.iaload, 1) := by decide +kernel
theorem dX7_resend_7 : decode cX7_resend 7 = .ok (.iconst 1, 1) := by decide +kernel
theorem dX7_resend_8 : decode cX7_resend 8 = .ok (.iadd, 1) := by decide +kernel
theorem dX7_resend_9 : decode cX7_resend 9 = .ok (.iastore, 1) := by decide +kernel
theorem dX7_resend_10 : decode cX7_resend 10 = .ok (.aload_n 2, 1) := by decide +kernel
theorem dX7_resend_11 : decode cX7_resend 11 = .ok (.getfield 274, 3) := by decide +kernel
theorem dX7_resend_14 : decode cX7_resend 14 = .ok (.iconst 4, 1) := by decide +kernel
theorem dX7_resend_15 : decode cX7_resend 15 = .ok (.if_icmp .ne 12, 3) := by decide +kernel
theorem dX7_resend_18 : decode cX7_resend 18 = .ok (.aload_n 0, 1) := by decide +kernel
theorem dX7_resend_19 : decode cX7_resend 19 = .ok (.aload_n 1, 1) := by decide +kernel
theorem dX7_resend_20 : decode cX7_resend 20 = .ok (.aload_n 2, 1) := by decide +kernel
theorem dX7_resend_21 : decode cX7_resend 21 = .ok (.invokevirtual 283, 3) := by decide +kernel
theorem dX7_resend_24 : decode cX7_resend 24 = .ok (.goto 10, 3) := by decide +kernel
theorem dX7_resend_27 : decode cX7_resend 27 = .ok (.aload_n 0, 1) := by decide +kernel
theorem dX7_resend_28 : decode cX7_resend 28 = .ok (.aload_n 1, 1) := by decide +kernel
theorem dX7_resend_29 : decode cX7_resend 29 = .ok (.aload_n 2, 1) := by decide +kernel
theorem dX7_resend_30 : decode cX7_resend 30 = .ok (.iconst 1, 1) := by decide +kernel
theorem dX7_resend_31 : decode cX7_resend 31 = .ok (.invokevirtual 244, 3) := by decide +kernel
theorem dX7_resend_34 : decode cX7_resend 34 = .ok (.return_, 1) := by decide +kernel
theorem dX7_sendRelease_0 : decode cX7_sendRelease 0 = .ok (.aload_n 2, 1) := by decide +kernel
theorem dX7_sendRelease_1 : decode cX7_sendRelease 1 = .ok (.aload_n 0, 1) := by decide +kernel
theorem dX7_sendRelease_2 : decode cX7_sendRelease 2 = .ok (.getfield 79, 3) := by decide +kernel
theorem dX7_sendRelease_5 : decode cX7_sendRelease 5 = .ok (.putfield 286, 3) := by decide +kernel
theorem dX7_sendRelease_8 : decode cX7_sendRelease 8 = .ok (.aload_n 0, 1) := by decide +kernel
theorem dX7_sendRelease_9 : decode cX7_sendRelease 9 = .ok (.aload_n 1, 1) := by decide +kernel
theorem dX7_sendRelease_10 : decode cX7_sendRelease 10 = .ok (.iconst 3, 1) := by decide +kernel
theorem dX7_sendRelease_11 : decode cX7_sendRelease 11 = .ok (.aload_n 2, 1) := by decide +kernel
theorem dX7_sendRelease_12 : decode cX7_sendRelease 12 = .ok (.getfield 271, 3) := by decide +kernel
theorem dX7_sendRelease_15 : decode cX7_sendRelease 15 = .ok (.invokevirtual 289, 3) := by decide +kernel
theorem dX7_sendRelease_18 : decode cX7_sendRelease 18 = .ok (.return_, 1) := by decide +kernel
theorem dX7_sendMessage_0 : decode cX7_sendMessage 0 = .ok (.aload_n 2, 1) := by decide +kernel
theorem dX7_sendMessage_1 : decode cX7_sendMessage 1 = .ok (.aload_n 0, 1) := by decide +kernel
theorem dX7_sendMessage_2 : decode cX7_sendMessage 2 = .ok (.getfield 79, 3) := by decide +kernel
theorem dX7_sendMessage_5 : decode cX7_sendMessage 5 = .ok (.putfield 286, 3) := by decide +kernel
theorem dX7_sendMessage_8 : decode cX7_sendMessage 8 = .ok (.aload_n 0, 1) := by decide +kernel
theorem dX7_sendMessage_9 : decode cX7_sendMessage 9 = .ok (.aload_n 1, 1) := by decide +kernel
theorem dX7_sendMessage_10 : decode cX7_sendMessage 10 = .ok (.invokevirtual 293, 3) := by decide +kernel
theorem dX7_sendMessage_13 : decode cX7_sendMessage 13 = .ok (.ifCond .eq 65, 3) := by decide +kernel
theorem dX7_sendMessage_16 : decode cX7_sendMessage 16 = .ok (.aload_n 1, 1) := by decide +kernel
theorem dX7_sendMessage_17 : decode cX7_sendMessage 17 = .ok (.getfield 86, 3) := by decide +kernel
theorem dX7_sendMessage_20 : decode cX7_sendMessage 20 = .ok (.invokevirtual 296, 3) := by decide +kernel
theorem dX7_sendMessage_23 : decode cX7_sendMessage 23 = .ok (.astore 4, 2) := by decide +kernel
theorem dX7_sendMessage_25 : decode cX7_sendMessage 25 = .ok (.aload 4, 2) := by decide +kernel
theorem dX7_sendMessage_27 : decode cX7_sendMessage 27 = .ok (.iconst 0, 1) := by decide +kernel
theorem dX7_sendMessage_28 : decode cX7_sendMessage 28 = .ok (.putfield 300, 3) := by decide +kernel
theorem dX7_sendMessage_31 : decode cX7_sendMessage 31 = .ok (.aload 4, 2) := by decide +kernel
theorem dX7_sendMessage_33 : decode cX7_sendMessage 33 = .ok (.aload_n 2, 1) := by decide +kernel
theorem dX7_sendMessage_34 : decode cX7_sendMessage 34 = .ok (.getfield 271, 3) := by decide +kernel
theorem dX7_sendMessage_37 : decode cX7_sendMessage 37 = .ok (.putfield 305, 3) := by decide +kernel
theorem dX7_sendMessage_40 : decode cX7_sendMessage 40 = .ok (.aload 4, 2) := by decide +kernel
theorem dX7_sendMessage_42 : decode cX7_sendMessage 42 = .ok (.aload_n 2, 1) := by decide +kernel
theorem dX7_sendMessage_43 : decode cX7_sendMessage 43 = .ok (.getfield 207, 3) := by decide +kernel
theorem dX7_sendMessage_46 : decode cX7_sendMessage 46 = .ok (.putfield 306, 3) := by decide +kernel
theorem dX7_sendMessage_49 : decode cX7_sendMessage 49 = .ok (.aload 4, 2) := by decide +kernel
theorem dX7_sendMessage_51 : decode cX7_sendMessage 51 = .ok (.aload_n 2, 1) := by decide +kernel
theorem dX7_sendMessage_52 : decode cX7_sendMessage 52 = .ok (.getfield 228, 3) := by decide +kernel
theorem dX7_sendMessage_55 : decode cX7_sendMessage 55 = .ok (.putfield 307, 3) := by decide +kernel
theorem dX7_sendMessage_58 : decode cX7_sendMessage 58 = .ok (.aload 4, 2) := by decide +kernel
theorem dX7_sendMessage_60 : decode cX7_sendMessage 60 = .ok (.aload_n 2, 1) := by decide +kernel
theorem dX7_sendMessage_61 : decode cX7_sendMessage 61 = .ok (.getfield 241, 3) := by decide +kernel
theorem dX7_sendMessage_64 : decode cX7_sendMessage 64 = .ok (.iload_n 3, 1) := by decide +kernel
theorem dX7_sendMessage_65 : decode cX7_sendMessage 65 = .ok (.iadd, 1) := by decide +kernel
theorem dX7_sendMessage_66 : decode cX7_sendMessage 66 = .ok (.putfield 308, 3) := by decide +kernel
theorem dX7_sendMessage_69 : decode cX7_sendMessage 69 = .ok (.aload 4, 2) := by decide +kernel
theorem dX7_sendMessage_71 : decode cX7_sendMessage 71 = .ok (.aload_n 2, 1) := by decide +kernel
theorem dX7_sendMessage_72 : decode cX7_sendMessage 72 = .ok (.getfield 195, 3) := by decide +kernel
theorem dX7_sendMessage_75 : decode cX7_sendMessage 75 = .ok (.putfield 309, 3) := by decide +kernel
theorem dX7_sendMessage_78 : decode cX7_sendMessage 78 = .ok (.return_, 1) := by decide +kernel
theorem dX7_sendSign_0 : decode cX7_sendSign 0 = .ok (.aload_n 0, 1) := by decide +kernel
theorem dX7_sendSign_1 : decode cX7_sendSign 1 = .ok (.aload_n 1, 1) := by decide +kernel
theorem dX7_sendSign_2 : decode cX7_sendSign 2 = .ok (.invokevirtual 293, 3) := by decide +kernel
theorem dX7_sendSign_5 : decode cX7_sendSign 5 = .ok (.ifCond .eq 51, 3) := by decide +kernel
theorem dX7_sendSign_8 : decode cX7_sendSign 8 = .ok (.aload_n 1, 1) := by decide +kernel
theorem dX7_sendSign_9 : decode cX7_sendSign 9 = .ok (.getfield 86, 3) := by decide +kernel
theorem dX7_sendSign_12 : decode cX7_sendSign 12 = .ok (.invokevirtual 296, 3) := by decide +kernel
theorem dX7_sendSign_15 : decode cX7_sendSign 15 = .ok (.astore 4, 2) := by decide +kernel
theorem dX7_sendSign_17 : decode cX7_sendSign 17 = .ok (.aload 4, 2) := by decide +kernel
theorem dX7_sendSign_19 : decode cX7_sendSign 19 = .ok (.iload_n 2, 1) := by decide +kernel
theorem dX7_sendSign_20 : decode cX7_sendSign 20 = .ok (.putfield 300, 3) := by decide +kernel
theorem dX7_sendSign_23 : decode cX7_sendSign 23 = .ok (.aload 4, 2) := by decide +kernel
theorem dX7_sendSign_25 : decode cX7_sendSign 25 = .ok (.iload_n 3, 1) := by decide +kernel
theorem dX7_sendSign_26 : decode cX7_sendSign 26 = .ok (.putfield 305, 3) := by decide +kernel
theorem dX7_sendSign_29 : decode cX7_sendSign 29 = .ok (.aload 4, 2) := by decide +kernel
theorem dX7_sendSign_31 : decode cX7_sendSign 31 = .ok (.iconst 0, 1) := by decide +kernel
theorem dX7_sendSign_32 : decode cX7_sendSign 32 = .ok (.putfield 306, 3) := by decide +kernel
theorem dX7_sendSign_35 : decode cX7_sendSign 35 = .ok (.aload 4, 2) := by decide +kernel
theorem dX7_sendSign_37 : decode cX7_sendSign 37 = .ok (.iconst 0, 1) := by decide +kernel
theorem dX7_sendSign_38 : decode cX7_sendSign 38 = .ok (.putfield 307, 3) := by decide +kernel
theorem dX7_sendSign_41 : decode cX7_sendSign 41 = .ok (.aload 4, 2) := by decide +kernel
theorem dX7_sendSign_43 : decode cX7_sendSign 43 = .ok (.iconst 0, 1) := by decide +kernel
theorem dX7_sendSign_44 : decode cX7_sendSign 44 = .ok (.putfield 308, 3) := by decide +kernel
theorem dX7_sendSign_47 : decode cX7_sendSign 47 = .ok (.aload 4, 2) := by decide +kernel
theorem dX7_sendSign_49 : decode cX7_sendSign 49 = .ok (.aload_n 0, 1) := by decide +kernel
theorem dX7_sendSign_50 : decode cX7_sendSign 50 = .ok (.getfield 9, 3) := by decide +kernel
theorem dX7_sendSign_53 : decode cX7_sendSign 53 = .ok (.putfield 309, 3) := by decide +kernel
theorem dX7_sendSign_56 : decode cX7_sendSign 56 = .ok (.return_, 1) := by decide +kernel
theorem dX7_countSent_0 : decode cX7_countSent 0 = .ok (.aload_n 1, 1) := by decide +kernel
theorem dX7_countSent_1 : decode cX7_countSent 1 = .ok (.dup, 1) := by decide +kernel
theorem dX7_countSent_2 : decode cX7_countSent 2 = .ok (.getfield 310, 3) := by decide +kernel
theorem dX7_countSent_5 : decode cX7_countSent 5 = .ok (.iconst 1, 1) := by decide +kernel
theorem dX7_countSent_6 : decode cX7_countSent 6 = .ok (.iadd, 1) := by decide +kernel
theorem dX7_countSent_7 : decode cX7_countSent 7 = .ok (.putfield 310, 3) := by decide +kernel
theorem dX7_countSent_10 : decode cX7_countSent 10 = .ok (.aload_n 1, 1) := by decide +kernel
theorem dX7_countSent_11 : decode cX7_countSent 11 = .ok (.getfield 86, 3) := by decide +kernel
theorem dX7_countSent_14 : decode cX7_countSent 14 = .ok (.getfield 313, 3) := by decide +kernel
theorem dX7_countSent_17 : decode cX7_countSent 17 = .ok (.bipush 30, 2) := by decide +kernel
theorem dX7_countSent_19 : decode cX7_countSent 19 = .ok (.if_icmp .lt 16, 3) := by decide +kernel
theorem dX7_countSent_22 : decode cX7_countSent 22 = .ok (.aload_n 0, 1) := by decide +kernel
theorem dX7_countSent_23 : decode cX7_countSent 23 = .ok (.getfield 45, 3) := by decide +kernel
theorem dX7_countSent_26 : decode cX7_countSent 26 = .ok (.bipush 8, 2) := by decide +kernel
theorem dX7_countSent_28 : decode cX7_countSent 28 = .ok (.dup2, 1) := by decide +kernel
theorem dX7_countSent_29 : decode cX7_countSent 29 = .ok (.iaload, 1) := by decide +kernel
theorem dX7_countSent_30 : decode cX7_countSent 30 = .ok (.iconst 1, 1) := by decide +kernel
theorem dX7_countSent_31 : decode cX7_countSent 31 = .ok (.iadd, 1) := by decide +kernel
theorem dX7_countSent_32 : decode cX7_countSent 32 = .ok (.iastore, 1) := by decide +kernel
theorem dX7_countSent_33 : decode cX7_countSent 33 = .ok (.iconst 0, 1) := by decide +kernel
theorem dX7_countSent_34 : decode cX7_countSent 34 = .ok (.ireturn, 1) := by decide +kernel
theorem dX7_countSent_35 : decode cX7_countSent 35 = .ok (.iconst 1, 1) := by decide +kernel
theorem dX7_countSent_36 : decode cX7_countSent 36 = .ok (.ireturn, 1) := by decide +kernel
theorem dX7_tick_0 : decode cX7_tick 0 = .ok (.aload_n 0, 1) := by decide +kernel
theorem dX7_tick_1 : decode cX7_tick 1 = .ok (.dup, 1) := by decide +kernel
theorem dX7_tick_2 : decode cX7_tick 2 = .ok (.getfield 79, 3) := by decide +kernel
theorem dX7_tick_5 : decode cX7_tick 5 = .ok (.iconst 1, 1) := by decide +kernel
theorem dX7_tick_6 : decode cX7_tick 6 = .ok (.iadd, 1) := by decide +kernel
theorem dX7_tick_7 : decode cX7_tick 7 = .ok (.putfield 79, 3) := by decide +kernel
theorem dX7_tick_10 : decode cX7_tick 10 = .ok (.iconst 0, 1) := by decide +kernel
theorem dX7_tick_11 : decode cX7_tick 11 = .ok (.istore_n 1, 1) := by decide +kernel
theorem dX7_tick_12 : decode cX7_tick 12 = .ok (.iload_n 1, 1) := by decide +kernel
theorem dX7_tick_13 : decode cX7_tick 13 = .ok (.bipush 6, 2) := by decide +kernel
theorem dX7_tick_15 : decode cX7_tick 15 = .ok (.if_icmp .ge 40, 3) := by decide +kernel
theorem dX7_tick_18 : decode cX7_tick 18 = .ok (.aload_n 0, 1) := by decide +kernel
theorem dX7_tick_19 : decode cX7_tick 19 = .ok (.getfield 17, 3) := by decide +kernel
theorem dX7_tick_22 : decode cX7_tick 22 = .ok (.iload_n 1, 1) := by decide +kernel
theorem dX7_tick_23 : decode cX7_tick 23 = .ok (.aaload, 1) := by decide +kernel
theorem dX7_tick_24 : decode cX7_tick 24 = .ok (.getfield 82, 3) := by decide +kernel
theorem dX7_tick_27 : decode cX7_tick 27 = .ok (.ifCond .eq 22, 3) := by decide +kernel
theorem dX7_tick_30 : decode cX7_tick 30 = .ok (.aload_n 0, 1) := by decide +kernel
theorem dX7_tick_31 : decode cX7_tick 31 = .ok (.getfield 42, 3) := by decide +kernel
theorem dX7_tick_34 : decode cX7_tick 34 = .ok (.iconst 1, 1) := by decide +kernel
theorem dX7_tick_35 : decode cX7_tick 35 = .ok (.iaload, 1) := by decide +kernel
theorem dX7_tick_36 : decode cX7_tick 36 = .ok (.ifCond .eq 13, 3) := by decide +kernel
theorem dX7_tick_39 : decode cX7_tick 39 = .ok (.aload_n 0, 1) := by decide +kernel
theorem dX7_tick_40 : decode cX7_tick 40 = .ok (.aload_n 0, 1) := by decide +kernel
theorem dX7_tick_41 : decode cX7_tick 41 = .ok (.getfield 17, 3) := by decide +kernel
theorem dX7_tick_44 : decode cX7_tick 44 = .ok (.iload_n 1, 1) := by decide +kernel
theorem dX7_tick_45 : decode cX7_tick 45 = .ok (.aaload, 1) := by decide +kernel
theorem dX7_tick_46 : decode cX7_tick 46 = .ok (.invokevirtual 314, 3) := by decide +kernel
theorem dX7_tick_49 : decode cX7_tick 49 = .ok (.iinc 1 1, 3) := by decide +kernel
theorem dX7_tick_52 : decode cX7_tick 52 = .ok (.goto (-40), 3) := by decide +kernel
theorem dX7_tick_55 : decode cX7_tick 55 = .ok (.iconst 0, 1) := by decide +kernel
theorem dX7_tick_56 : decode cX7_tick 56 = .ok (.istore_n 1, 1) := by decide +kernel
theorem dX7_tick_57 : decode cX7_tick 57 = .ok (.iload_n 1, 1) := by decide +kernel
theorem dX7_tick_58 : decode cX7_tick 58 = .ok (.bipush 6, 2) := by decide +kernel
theorem dX7_tick_60 : decode cX7_tick 60 = .ok (.if_icmp .ge 43, 3) := by decide +kernel
theorem dX7_tick_63 : decode cX7_tick 63 = .ok (.aload_n 0, 1) := by decide +kernel
theorem dX7_tick_64 : decode cX7_tick 64 = .ok (.getfield 17, 3) := by decide +kernel
theorem dX7_tick_67 : decode cX7_tick 67 = .ok (.iload_n 1, 1) := by decide +kernel
theorem dX7_tick_68 : decode cX7_tick 68 = .ok (.aaload, 1) := by decide +kernel
theorem dX7_tick_69 : decode cX7_tick 69 = .ok (.astore_n 2, 1) := by decide +kernel
theorem dX7_tick_70 : decode cX7_tick 70 = .ok (.aload_n 2, 1) := by decide +kernel
theorem dX7_tick_71 : decode cX7_tick 71 = .ok (.aload_n 2, 1) := by decide +kernel
theorem dX7_tick_72 : decode cX7_tick 72 = .ok (.getfield 317, 3) := by decide +kernel
theorem dX7_tick_75 : decode cX7_tick 75 = .ok (.ldc_w 321, 3) := by decide +kernel
theorem dX7_tick_78 : decode cX7_tick 78 = .ok (.fmul, 1) := by decide +kernel
theorem dX7_tick_79 : decode cX7_tick 79 = .ok (.aload_n 2, 1) := by decide +kernel
theorem dX7_tick_80 : decode cX7_tick 80 = .ok (.getfield 310, 3) := by decide +kernel
theorem dX7_tick_83 : decode cX7_tick 83 = .ok (.i2f, 1) := by decide +kernel
theorem dX7_tick_84 : decode cX7_tick 84 = .ok (.ldc_w 322, 3) := by decide +kernel
theorem dX7_tick_87 : decode cX7_tick 87 = .ok (.fmul, 1) := by decide +kernel
theorem dX7_tick_88 : decode cX7_tick 88 = .ok (.fadd, 1) := by decide +kernel
theorem dX7_tick_89 : decode cX7_tick 89 = .ok (.putfield 317, 3) := by decide +kernel
theorem dX7_tick_92 : decode cX7_tick 92 = .ok (.aload_n 2, 1) := by decide +kernel
theorem dX7_tick_93 : decode cX7_tick 93 = .ok (.iconst 0, 1) := by decide +kernel
theorem dX7_tick_94 : decode cX7_tick 94 = .ok (.putfield 310, 3) := by decide +kernel
theorem dX7_tick_97 : decode cX7_tick 97 = .ok (.iinc 1 1, 3) := by decide +kernel
theorem dX7_tick_100 : decode cX7_tick 100 = .ok (.goto (-43), 3) := by decide +kernel
theorem dX7_tick_103 : decode cX7_tick 103 = .ok (.iconst 0, 1) := by decide +kernel
theorem dX7_tick_104 : decode cX7_tick 104 = .ok (.istore_n 1, 1) := by decide +kernel
theorem dX7_tick_105 : decode cX7_tick 105 = .ok (.iload_n 1, 1) := by decide +kernel
theorem dX7_tick_106 : decode cX7_tick 106 = .ok (.bipush 6, 2) := by decide +kernel
theorem dX7_tick_108 : decode cX7_tick 108 = .ok (.if_icmp .ge 14, 3) := by decide +kernel
theorem dX7_tick_111 : decode cX7_tick 111 = .ok (.aload_n 0, 1) := by decide +kernel
theorem dX7_tick_112 : decode cX7_tick 112 = .ok (.iload_n 1, 1) := by decide +kernel
theorem dX7_tick_113 : decode cX7_tick 113 = .ok (.invokevirtual 323, 3) := by decide +kernel
theorem dX7_tick_116 : decode cX7_tick 116 = .ok (.iinc 1 1, 3) := by decide +kernel
theorem dX7_tick_119 : decode cX7_tick 119 = .ok (.goto (-14), 3) := by decide +kernel
theorem dX7_tick_122 : decode cX7_tick 122 = .ok (.return_, 1) := by decide +kernel
theorem dX7_resendLate_0 : decode cX7_resendLate 0 = .ok (.aload_n 1, 1) := by decide +kernel
theorem dX7_resendLate_1 : decode cX7_resendLate 1 = .ok (.getfield 95, 3) := by decide +kernel
theorem dX7_resendLate_4 : decode cX7_resendLate 4 = .ok (.getfield 138, 3) := by decide +kernel
theorem dX7_resendLate_7 : decode cX7_resendLate 7 = .ok (.astore_n 2, 1) := by decide +kernel
theorem dX7_resendLate_8 : decode cX7_resendLate 8 = .ok (.iconst 0, 1) := by decide +kernel
theorem dX7_resendLate_9 : decode cX7_resendLate 9 = .ok (.istore_n 3, 1) := by decide +kernel
theorem dX7_resendLate_10 : decode cX7_resendLate 10 = .ok (.iload_n 3, 1) := by decide +kernel
theorem dX7_resendLate_11 : decode cX7_resendLate 11 = .ok (.aload_n 2, 1) := by decide +kernel
theorem dX7_resendLate_12 : decode cX7_resendLate 12 = .ok (.getfield 142, 3) := by decide +kernel
theorem dX7_resendLate_15 : decode cX7_resendLate 15 = .ok (.if_icmp .ge 52, 3) := by decide +kernel
theorem dX7_resendLate_18 : decode cX7_resendLate 18 = .ok (.iload_n 3, 1) := by decide +kernel
theorem dX7_resendLate_19 : decode cX7_resendLate 19 = .ok (.aload_n 2, 1) := by decide +kernel
theorem dX7_resendLate_20 : decode cX7_resendLate 20 = .ok (.getfield 147, 3) := by decide +kernel
theorem dX7_resendLate_23 : decode cX7_resendLate 23 = .ok (.arraylength, 1) := by decide +kernel
theorem dX7_resendLate_24 : decode cX7_resendLate 24 = .ok (.if_icmp .ge 43, 3) := by decide +kernel
theorem dX7_resendLate_27 : decode cX7_resendLate 27 = .ok (.aload_n 0, 1) := by decide +kernel
theorem dX7_resendLate_28 : decode cX7_resendLate 28 = .ok (.getfield 79, 3) := by decide +kernel
theorem dX7_resendLate_31 : decode cX7_resendLate 31 = .ok (.aload_n 2, 1) := by decide +kernel
theorem dX7_resendLate_32 : decode cX7_resendLate 32 = .ok (.getfield 147, 3) := by decide +kernel
theorem dX7_resendLate_35 : decode cX7_resendLate 35 = .ok (.iload_n 3, 1) := by decide +kernel
theorem dX7_resendLate_36 : decode cX7_resendLate 36 = .ok (.aaload, 1) := by decide +kernel
theorem dX7_resendLate_37 : decode cX7_resendLate 37 = .ok (.getfield 286, 3) := by decide +kernel
theorem dX7_resendLate_40 : decode cX7_resendLate 40 = .ok (.isub, 1) := by decide +kernel
theorem dX7_resendLate_41 : decode cX7_resendLate 41 = .ok (.aload_n 0, 1) := by decide +kernel
theorem dX7_resendLate_42 : decode cX7_resendLate 42 = .ok (.getfield 42, 3) := by decide +kernel
theorem dX7_resendLate_45 : decode cX7_resendLate 45 = .ok (.iconst 1, 1) := by decide +kernel
theorem dX7_resendLate_46 : decode cX7_resendLate 46 = .ok (.iaload, 1) := by decide +kernel
theorem dX7_resendLate_47 : decode cX7_resendLate 47 = .ok (.if_icmp .lt 14, 3) := by decide +kernel
theorem dX7_resendLate_50 : decode cX7_resendLate 50 = .ok (.aload_n 0, 1) := by decide +kernel
theorem dX7_resendLate_51 : decode cX7_resendLate 51 = .ok (.aload_n 1, 1) := by decide +kernel
theorem dX7_resendLate_52 : decode cX7_resendLate 52 = .ok (.aload_n 2, 1) := by decide +kernel
theorem dX7_resendLate_53 : decode cX7_resendLate 53 = .ok (.getfield 147, 3) := by decide +kernel
theorem dX7_resendLate_56 : decode cX7_resendLate 56 = .ok (.iload_n 3, 1) := by decide +kernel
theorem dX7_resendLate_57 : decode cX7_resendLate 57 = .ok (.aaload, 1) := by decide +kernel
theorem dX7_resendLate_58 : decode cX7_resendLate 58 = .ok (.invokevirtual 150, 3) := by decide +kernel
theorem dX7_resendLate_61 : decode cX7_resendLate 61 = .ok (.iinc 3 1, 3) := by decide +kernel
theorem dX7_resendLate_64 : decode cX7_resendLate 64 = .ok (.goto (-54), 3) := by decide +kernel
theorem dX7_resendLate_67 : decode cX7_resendLate 67 = .ok (.return_, 1) := by decide +kernel
theorem dX7_expire_0 : decode cX7_expire 0 = .ok (.aload_n 0, 1) := by decide +kernel
theorem dX7_expire_1 : decode cX7_expire 1 = .ok (.getfield 17, 3) := by decide +kernel
theorem dX7_expire_4 : decode cX7_expire 4 = .ok (.iload_n 1, 1) := by decide +kernel
theorem dX7_expire_5 : decode cX7_expire 5 = .ok (.aaload, 1) := by decide +kernel
theorem dX7_expire_6 : decode cX7_expire 6 = .ok (.astore_n 2, 1) := by decide +kernel
theorem dX7_expire_7 : decode cX7_expire 7 = .ok (.aload_n 2, 1) := by decide +kernel
theorem dX7_expire_8 : decode cX7_expire 8 = .ok (.getfield 95, 3) := by decide +kernel
theorem dX7_expire_11 : decode cX7_expire 11 = .ok (.getfield 326, 3) := by decide +kernel
theorem dX7_expire_14 : decode cX7_expire 14 = .ok (.ifCond .eq 14, 3) := by decide +kernel
theorem dX7_expire_17 : decode cX7_expire 17 = .ok (.aload_n 2, 1) := by decide +kernel
theorem dX7_expire_18 : decode cX7_expire 18 = .ok (.getfield 82, 3) := by decide +kernel
theorem dX7_expire_21 : decode cX7_expire 21 = .ok (.ifCond .ne 7, 3) := by decide +kernel
theorem dX7_expire_24 : decode cX7_expire 24 = .ok (.iconst 1, 1) := by decide +kernel
theorem dX7_expire_25 : decode cX7_expire 25 = .ok (.goto 4, 3) := by decide +kernel
theorem dX7_expire_28 : decode cX7_expire 28 = .ok (.iconst 0, 1) := by decide +kernel
theorem dX7_expire_29 : decode cX7_expire 29 = .ok (.istore_n 3, 1) := by decide +kernel
theorem dX7_expire_30 : decode cX7_expire 30 = .ok (.iload_n 3, 1) := by decide +kernel
theorem dX7_expire_31 : decode cX7_expire 31 = .ok (.ifCond .eq 40, 3) := by decide +kernel
theorem dX7_expire_34 : decode cX7_expire 34 = .ok (.aload_n 0, 1) := by decide +kernel
theorem dX7_expire_35 : decode cX7_expire 35 = .ok (.getfield 79, 3) := by decide +kernel
theorem dX7_expire_38 : decode cX7_expire 38 = .ok (.aload_n 2, 1) := by decide +kernel
theorem dX7_expire_39 : decode cX7_expire 39 = .ok (.getfield 95, 3) := by decide +kernel
theorem dX7_expire_42 : decode cX7_expire 42 = .ok (.getfield 108, 3) := by decide +kernel
theorem dX7_expire_45 : decode cX7_expire 45 = .ok (.isub, 1) := by decide +kernel
theorem dX7_expire_46 : decode cX7_expire 46 = .ok (.aload_n 0, 1) := by decide +kernel
theorem dX7_expire_47 : decode cX7_expire 47 = .ok (.getfield 42, 3) := by decide +kernel
theorem dX7_expire_50 : decode cX7_expire 50 = .ok (.iconst 2, 1) := by decide +kernel
theorem dX7_expire_51 : decode cX7_expire 51 = .ok (.iaload, 1) := by decide +kernel
theorem dX7_expire_52 : decode cX7_expire 52 = .ok (.if_icmp .lt 19, 3) := by decide +kernel
theorem dX7_expire_55 : decode cX7_expire 55 = .ok (.aload_n 0, 1) := by decide +kernel
theorem dX7_expire_56 : decode cX7_expire 56 = .ok (.iload_n 1, 1) := by decide +kernel
theorem dX7_expire_57 : decode cX7_expire 57 = .ok (.invokevirtual 104, 3) := by decide +kernel
theorem dX7_expire_60 : decode cX7_expire 60 = .ok (.aload_n 0, 1) := by decide +kernel
theorem dX7_expire_61 : decode cX7_expire 61 = .ok (.getfield 45, 3) := by decide +kernel
theorem dX7_expire_64 : decode cX7_expire 64 = .ok (.bipush 7, 2) := by decide +kernel
theorem dX7_expire_66 : decode cX7_expire 66 = .ok (.dup2, 1) := by decide +kernel
theorem dX7_expire_67 : decode cX7_expire 67 = .ok (.iaload, 1) := by decide +kernel
theorem dX7_expire_68 : decode cX7_expire 68 = .ok (.iconst 1, 1) := by decide +kernel
theorem dX7_expire_69 : decode cX7_expire 69 = .ok (.iadd, 1) := by decide +kernel
theorem dX7_expire_70 : decode cX7_expire 70 = .ok (.iastore, 1) := by decide +kernel
theorem dX7_expire_71 : decode cX7_expire 71 = .ok (.return_, 1) := by decide +kernel
theorem dX8_init_0 : decode cX8_init 0 = .ok (.aload_n 0, 1) := by decide +kernel
theorem dX8_init_1 : decode cX8_init 1 = .ok (.invokespecial 1, 3) := by decide +kernel
theorem dX8_init_4 : decode cX8_init 4 = .ok (.aload_n 0, 1) := by decide +kernel
theorem dX8_init_5 : decode cX8_init 5 = .ok (.aload_n 1, 1) := by decide +kernel
theorem dX8_init_6 : decode cX8_init 6 = .ok (.putfield 7, 3) := by decide +kernel
theorem dX8_init_9 : decode cX8_init 9 = .ok (.return_, 1) := by decide +kernel
theorem dX8_copyFrom_0 : decode cX8_copyFrom 0 = .ok (.aload_n 0, 1) := by decide +kernel
theorem dX8_copyFrom_1 : decode cX8_copyFrom 1 = .ok (.aload_n 1, 1) := by decide +kernel
theorem dX8_copyFrom_2 : decode cX8_copyFrom 2 = .ok (.getfield 7, 3) := by decide +kernel
theorem dX8_copyFrom_5 : decode cX8_copyFrom 5 = .ok (.putfield 7, 3) := by decide +kernel
theorem dX8_copyFrom_8 : decode cX8_copyFrom 8 = .ok (.aload_n 0, 1) := by decide +kernel
theorem dX8_copyFrom_9 : decode cX8_copyFrom 9 = .ok (.aload_n 1, 1) := by decide +kernel
theorem dX8_copyFrom_10 : decode cX8_copyFrom 10 = .ok (.getfield 13, 3) := by decide +kernel
theorem dX8_copyFrom_13 : decode cX8_copyFrom 13 = .ok (.putfield 13, 3) := by decide +kernel
theorem dX8_copyFrom_16 : decode cX8_copyFrom 16 = .ok (.aload_n 0, 1) := by decide +kernel
theorem dX8_copyFrom_17 : decode cX8_copyFrom 17 = .ok (.aload_n 1, 1) := by decide +kernel
theorem dX8_copyFrom_18 : decode cX8_copyFrom 18 = .ok (.getfield 17, 3) := by decide +kernel
theorem dX8_copyFrom_21 : decode cX8_copyFrom 21 = .ok (.putfield 17, 3) := by decide +kernel
theorem dX8_copyFrom_24 : decode cX8_copyFrom 24 = .ok (.aload_n 0, 1) := by decide +kernel
theorem dX8_copyFrom_25 : decode cX8_copyFrom 25 = .ok (.aload_n 1, 1) := by decide +kernel
theorem dX8_copyFrom_26 : decode cX8_copyFrom 26 = .ok (.getfield 20, 3) := by decide +kernel
theorem dX8_copyFrom_29 : decode cX8_copyFrom 29 = .ok (.putfield 20, 3) := by decide +kernel
theorem dX8_copyFrom_32 : decode cX8_copyFrom 32 = .ok (.return_, 1) := by decide +kernel
theorem dX9_init_0 : decode cX9_init 0 = .ok (.aload_n 0, 1) := by decide +kernel
theorem dX9_init_1 : decode cX9_init 1 = .ok (.invokespecial 3, 3) := by decide +kernel
theorem dX9_init_4 : decode cX9_init 4 = .ok (.aload_n 0, 1) := by decide +kernel
theorem dX9_init_5 : decode cX9_init 5 = .ok (.sipush 512, 3) := by decide +kernel
theorem dX9_init_8 : decode cX9_init 8 = .ok (.anewarray 9, 3) := by decide +kernel
theorem dX9_init_11 : decode cX9_init 11 = .ok (.putfield 11, 3) := by decide +kernel
theorem dX9_init_14 : decode cX9_init 14 = .ok (.aload_n 0, 1) := by decide +kernel
theorem dX9_init_15 : decode cX9_init 15 = .ok (.sipush 512, 3) := by decide +kernel
theorem dX9_init_18 : decode cX9_init 18 = .ok (.newarray .int, 2) := by decide +kernel
theorem dX9_init_20 : decode cX9_init 20 = .ok (.putfield 17, 3) := by decide +kernel
theorem dX9_init_23 : decode cX9_init 23 = .ok (.iconst 0, 1) := by decide +kernel
theorem dX9_init_24 : decode cX9_init 24 = .ok (.istore_n 2, 1) := by decide +kernel
theorem dX9_init_25 : decode cX9_init 25 = .ok (.iload_n 2, 1) := by decide +kernel
theorem dX9_init_26 : decode cX9_init 26 = .ok (.sipush 512, 3) := by decide +kernel
theorem dX9_init_29 : decode cX9_init 29 = .ok (.if_icmp .ge 16, 3) := by decide +kernel
theorem dX9_init_32 : decode cX9_init 32 = .ok (.aload_n 0, 1) := by decide +kernel
theorem dX9_init_33 : decode cX9_init 33 = .ok (.getfield 11, 3) := by decide +kernel
theorem dX9_init_36 : decode cX9_init 36 = .ok (.iload_n 2, 1) := by decide +kernel
theorem dX9_init_37 : decode cX9_init 37 = .ok (.aload_n 1, 1) := by decide +kernel
theorem dX9_init_38 : decode cX9_init 38 = .ok (.aastore, 1) := by decide +kernel
theorem dX9_init_39 : decode cX9_init 39 = .ok (.iinc 2 1, 3) := by decide +kernel
theorem dX9_init_42 : decode cX9_init 42 = .ok (.goto (-17), 3) := by decide +kernel
theorem dX9_init_45 : decode cX9_init 45 = .ok (.return_, 1) := by decide +kernel
theorem dX9_placeOf_0 : decode cX9_placeOf 0 = .ok (.iconst 0, 1) := by decide +kernel
theorem dX9_placeOf_1 : decode cX9_placeOf 1 = .ok (.istore_n 2, 1) := by decide +kernel
theorem dX9_placeOf_2 : decode cX9_placeOf 2 = .ok (.iload_n 2, 1) := by decide +kernel
theorem dX9_placeOf_3 : decode cX9_placeOf 3 = .ok (.aload_n 0, 1) := by decide +kernel
theorem dX9_placeOf_4 : decode cX9_placeOf 4 = .ok (.getfield 21, 3) := by decide +kernel
theorem dX9_placeOf_7 : decode cX9_placeOf 7 = .ok (.if_icmp .ge 31, 3) := by decide +kernel
theorem dX9_placeOf_10 : decode cX9_placeOf 10 = .ok (.iload_n 2, 1) := by decide +kernel
theorem dX9_placeOf_11 : decode cX9_placeOf 11 = .ok (.sipush 512, 3) := by decide +kernel
theorem dX9_placeOf_14 : decode cX9_placeOf 14 = .ok (.if_icmp .ge 24, 3) := by decide +kernel
theorem dX9_placeOf_17 : decode cX9_placeOf 17 = .ok (.aload_n 0, 1) := by decide +kernel
theorem dX9_placeOf_18 : decode cX9_placeOf 18 = .ok (.getfield 11, 3) := by decide +kernel
theorem dX9_placeOf_21 : decode cX9_placeOf 21 = .ok (.iload_n 2, 1) := by decide +kernel
theorem dX9_placeOf_22 : decode cX9_placeOf 22 = .ok (.aaload, 1) := by decide +kernel
theorem dX9_placeOf_23 : decode cX9_placeOf 23 = .ok (.aload_n 1, 1) := by decide +kernel
theorem dX9_placeOf_24 : decode cX9_placeOf 24 = .ok (.invokevirtual 25, 3) := by decide +kernel
theorem dX9_placeOf_27 : decode cX9_placeOf 27 = .ok (.ifCond .eq 5, 3) := by decide +kernel
theorem dX9_placeOf_30 : decode cX9_placeOf 30 = .ok (.iload_n 2, 1) := by decide +kernel
theorem dX9_placeOf_31 : decode cX9_placeOf 31 = .ok (.ireturn, 1) := by decide +kernel
theorem dX9_placeOf_32 : decode cX9_placeOf 32 = .ok (.iinc 2 1, 3) := by decide +kernel
theorem dX9_placeOf_35 : decode cX9_placeOf 35 = .ok (.goto (-33), 3) := by decide +kernel
theorem dX9_placeOf_38 : decode cX9_placeOf 38 = .ok (.iconst (-1), 1) := by decide +kernel
theorem dX9_placeOf_39 : decode cX9_placeOf 39 = .ok (.ireturn, 1) := by decide +kernel
theorem dX9_count_0 : decode cX9_count 0 = .ok (.aload_n 0, 1) := by decide +kernel
theorem dX9_count_1 : decode cX9_count 1 = .ok (.aload_n 1, 1) := by decide +kernel
theorem dX9_count_2 : decode cX9_count 2 = .ok (.invokevirtual 29, 3) := by decide +kernel
theorem dX9_count_5 : decode cX9_count 5 = .ok (.istore_n 2, 1) := by decide +kernel
theorem dX9_count_6 : decode cX9_count 6 = .ok (.iload_n 2, 1) := by decide +kernel
theorem dX9_count_7 : decode cX9_count 7 = .ok (.ifCond .ge 49, 3) := by decide +kernel
theorem dX9_count_10 : decode cX9_count 10 = .ok (.aload_n 0, 1) := by decide +kernel
theorem dX9_count_11 : decode cX9_count 11 = .ok (.getfield 21, 3) := by decide +kernel
theorem dX9_count_14 : decode cX9_count 14 = .ok (.ifCond .lt 42, 3) := by decide +kernel
theorem dX9_count_17 : decode cX9_count 17 = .ok (.aload_n 0, 1) := by decide +kernel
theorem dX9_count_18 : decode cX9_count 18 = .ok (.getfield 21, 3) := by decide +kernel
theorem dX9_count_21 : decode cX9_count 21 = .ok (.sipush 512, 3) := by decide +kernel
theorem dX9_count_24 : decode cX9_count 24 = .ok (.if_icmp .ge 32, 3) := by decide +kernel
theorem dX9_count_27 : decode cX9_count 27 = .ok (.aload_n 0, 1) := by decide +kernel
theorem dX9_count_28 : decode cX9_count 28 = .ok (.getfield 21, 3) := by decide +kernel
theorem dX9_count_31 : decode cX9_count 31 = .ok (.istore_n 2, 1) := by decide +kernel
theorem dX9_count_32 : decode cX9_count 32 = .ok (.aload_n 0, 1) := by decide +kernel
theorem dX9_count_33 : decode cX9_count 33 = .ok (.getfield 11, 3) := by decide +kernel
theorem dX9_count_36 : decode cX9_count 36 = .ok (.iload_n 2, 1) := by decide +kernel
theorem dX9_count_37 : decode cX9_count 37 = .ok (.aload_n 1, 1) := by decide +kernel
theorem dX9_count_38 : decode cX9_count 38 = .ok (.aastore, 1) := by decide +kernel
theorem dX9_count_39 : decode cX9_count 39 = .ok (.aload_n 0, 1) := by decide +kernel
theorem dX9_count_40 : decode cX9_count 40 = .ok (.getfield 17, 3) := by decide +kernel
theorem dX9_count_43 : decode cX9_count 43 = .ok (.iload_n 2, 1) := by decide +kernel
theorem dX9_count_44 : decode cX9_count 44 = .ok (.iconst 0, 1) := by decide +kernel
theorem dX9_count_45 : decode cX9_count 45 = .ok (.iastore, 1) := by decide +kernel
theorem dX9_count_46 : decode cX9_count 46 = .ok (.aload_n 0, 1) := by decide +kernel
theorem dX9_count_47 : decode cX9_count 47 = .ok (.dup, 1) := by decide +kernel
theorem dX9_count_48 : decode cX9_count 48 = .ok (.getfield 21, 3) := by decide +kernel
theorem dX9_count_51 : decode cX9_count 51 = .ok (.iconst 1, 1) := by decide +kernel
theorem dX9_count_52 : decode cX9_count 52 = .ok (.iadd, 1) := by decide +kernel
theorem dX9_count_53 : decode cX9_count 53 = .ok (.putfield 21, 3) := by decide +kernel
theorem dX9_count_56 : decode cX9_count 56 = .ok (.iload_n 2, 1) := by decide +kernel
theorem dX9_count_57 : decode cX9_count 57 = .ok (.ifCond .lt 13, 3) := by decide +kernel
theorem dX9_count_60 : decode cX9_count 60 = .ok (.aload_n 0, 1) := by decide +kernel
theorem dX9_count_61 : decode cX9_count 61 = .ok (.getfield 17, 3) := by decide +kernel
theorem dX9_count_64 : decode cX9_count 64 = .ok (.iload_n 2, 1) := by decide +kernel
theorem dX9_count_65 : decode cX9_count 65 = .ok (.dup2, 1) := by decide +kernel
theorem dX9_count_66 : decode cX9_count 66 = .ok (.iaload, 1) := by decide +kernel
theorem dX9_count_67 : decode cX9_count 67 = .ok (.iconst 1, 1) := by decide +kernel
theorem dX9_count_68 : decode cX9_count 68 = .ok (.iadd, 1) := by decide +kernel
theorem dX9_count_69 : decode cX9_count 69 = .ok (.iastore, 1) := by decide +kernel
theorem dX9_count_70 : decode cX9_count 70 = .ok (.return_, 1) := by decide +kernel
theorem dX9_copyFrom_0 : decode cX9_copyFrom 0 = .ok (.aload_n 0, 1) := by decide +kernel
theorem dX9_copyFrom_1 : decode cX9_copyFrom 1 = .ok (.aload_n 1, 1) := by decide +kernel
theorem dX9_copyFrom_2 : decode cX9_copyFrom 2 = .ok (.getfield 21, 3) := by decide +kernel
theorem dX9_copyFrom_5 : decode cX9_copyFrom 5 = .ok (.putfield 21, 3) := by decide +kernel
theorem dX9_copyFrom_8 : decode cX9_copyFrom 8 = .ok (.iconst 0, 1) := by decide +kernel
theorem dX9_copyFrom_9 : decode cX9_copyFrom 9 = .ok (.istore_n 2, 1) := by decide +kernel
theorem dX9_copyFrom_10 : decode cX9_copyFrom 10 = .ok (.iload_n 2, 1) := by decide +kernel
theorem dX9_copyFrom_11 : decode cX9_copyFrom 11 = .ok (.aload_n 0, 1) := by decide +kernel
theorem dX9_copyFrom_12 : decode cX9_copyFrom 12 = .ok (.getfield 21, 3) := by decide +kernel
theorem dX9_copyFrom_15 : decode cX9_copyFrom 15 = .ok (.if_icmp .ge 40, 3) := by decide +kernel
theorem dX9_copyFrom_18 : decode cX9_copyFrom 18 = .ok (.iload_n 2, 1) := by decide +kernel
theorem dX9_copyFrom_19 : decode cX9_copyFrom 19 = .ok (.sipush 512, 3) := by decide +kernel
theorem dX9_copyFrom_22 : decode cX9_copyFrom 22 = .ok (.if_icmp .ge 33, 3) := by decide +kernel
theorem dX9_copyFrom_25 : decode cX9_copyFrom 25 = .ok (.aload_n 0, 1) := by decide +kernel
theorem dX9_copyFrom_26 : decode cX9_copyFrom 26 = .ok (.getfield 11, 3) := by decide +kernel
theorem dX9_copyFrom_29 : decode cX9_copyFrom 29 = .ok (.iload_n 2, 1) := by decide +kernel
theorem dX9_copyFrom_30 : decode cX9_copyFrom 30 = .ok (.aload_n 1, 1) := by decide +kernel
theorem dX9_copyFrom_31 : decode cX9_copyFrom 31 = .ok (.getfield 11, 3) := by decide +kernel
theorem dX9_copyFrom_34 : decode cX9_copyFrom 34 = .ok (.iload_n 2, 1) := by decide +kernel
theorem dX9_copyFrom_35 : decode cX9_copyFrom 35 = .ok (.aaload, 1) := by decide +kernel
theorem dX9_copyFrom_36 : decode cX9_copyFrom 36 = .ok (.aastore, 1) := by decide +kernel
theorem dX9_copyFrom_37 : decode cX9_copyFrom 37 = .ok (.aload_n 0, 1) := by decide +kernel
theorem dX9_copyFrom_38 : decode cX9_copyFrom 38 = .ok (.getfield 17, 3) := by decide +kernel
theorem dX9_copyFrom_41 : decode cX9_copyFrom 41 = .ok (.iload_n 2, 1) := by decide +kernel
theorem dX9_copyFrom_42 : decode cX9_copyFrom 42 = .ok (.aload_n 1, 1) := by decide +kernel
theorem dX9_copyFrom_43 : decode cX9_copyFrom 43 = .ok (.getfield 17, 3) := by decide +kernel
theorem dX9_copyFrom_46 : decode cX9_copyFrom 46 = .ok (.iload_n 2, 1) := by decide +kernel
theorem dX9_copyFrom_47 : decode cX9_copyFrom 47 = .ok (.iaload, 1) := by decide +kernel
theorem dX9_copyFrom_48 : decode cX9_copyFrom 48 = .ok (.iastore, 1) := by decide +kernel
theorem dX9_copyFrom_49 : decode cX9_copyFrom 49 = .ok (.iinc 2 1, 3) := by decide +kernel
theorem dX9_copyFrom_52 : decode cX9_copyFrom 52 = .ok (.goto (-42), 3) := by decide +kernel
theorem dX9_copyFrom_55 : decode cX9_copyFrom 55 = .ok (.return_, 1) := by decide +kernel
theorem dX10_init_0 : decode cX10_init 0 = .ok (.aload_n 0, 1) := by decide +kernel
theorem dX10_init_1 : decode cX10_init 1 = .ok (.invokespecial 3, 3) := by decide +kernel
theorem dX10_init_4 : decode cX10_init 4 = .ok (.iconst 0, 1) := by decide +kernel
theorem dX10_init_5 : decode cX10_init 5 = .ok (.iload_n 2, 1) := by decide +kernel
theorem dX10_init_6 : decode cX10_init 6 = .ok (.aload_n 1, 1) := by decide +kernel
theorem dX10_init_7 : decode cX10_init 7 = .ok (.arraylength, 1) := by decide +kernel
theorem dX10_init_8 : decode cX10_init 8 = .ok (.invokestatic 9, 3) := by decide +kernel
theorem dX10_init_11 : decode cX10_init 11 = .ok (.invokestatic 15, 3) := by decide +kernel
theorem dX10_init_14 : decode cX10_init 14 = .ok (.istore_n 3, 1) := by decide +kernel
theorem dX10_init_15 : decode cX10_init 15 = .ok (.iload_n 3, 1) := by decide +kernel
theorem dX10_init_16 : decode cX10_init 16 = .ok (.newarray .char, 2) := by decide +kernel
theorem dX10_init_18 : decode cX10_init 18 = .ok (.astore 4, 2) := by decide +kernel
theorem dX10_init_20 : decode cX10_init 20 = .ok (.iconst 4, 1) := by decide +kernel
theorem dX10_init_21 : decode cX10_init 21 = .ok (.newarray .long, 2) := by decide +kernel
theorem dX10_init_23 : decode cX10_init 23 = .ok (.astore 5, 2) := by decide +kernel
theorem dX10_init_25 : decode cX10_init 25 = .ok (.iconst 0, 1) := by decide +kernel
theorem dX10_init_26 : decode cX10_init 26 = .ok (.istore 6, 2) := by decide +kernel
theorem dX10_init_28 : decode cX10_init 28 = .ok (.iconst 0, 1) := by decide +kernel
theorem dX10_init_29 : decode cX10_init 29 = .ok (.istore 7, 2) := by decide +kernel
theorem dX10_init_31 : decode cX10_init 31 = .ok (.iload 7, 2) := by decide +kernel
theorem dX10_init_33 : decode cX10_init 33 = .ok (.iload_n 3, 1) := by decide +kernel
theorem dX10_init_34 : decode cX10_init 34 = .ok (.if_icmp .ge 58, 3) := by decide +kernel
theorem dX10_init_37 : decode cX10_init 37 = .ok (.aload_n 1, 1) := by decide +kernel
theorem dX10_init_38 : decode cX10_init 38 = .ok (.iload 7, 2) := by decide +kernel
theorem dX10_init_40 : decode cX10_init 40 = .ok (.caload, 1) := by decide +kernel
theorem dX10_init_41 : decode cX10_init 41 = .ok (.istore 8, 2) := by decide +kernel
theorem dX10_init_43 : decode cX10_init 43 = .ok (.aload 4, 2) := by decide +kernel
theorem dX10_init_45 : decode cX10_init 45 = .ok (.iload 7, 2) := by decide +kernel
theorem dX10_init_47 : decode cX10_init 47 = .ok (.iload 8, 2) := by decide +kernel
theorem dX10_init_49 : decode cX10_init 49 = .ok (.castore, 1) := by decide +kernel
theorem dX10_init_50 : decode cX10_init 50 = .ok (.iload 8, 2) := by decide +kernel
theorem dX10_init_52 : decode cX10_init 52 = .ok (.bipush 47, 2) := by decide +kernel
theorem dX10_init_54 : decode cX10_init 54 = .ok (.if_icmp .ne 9, 3) := by decide +kernel
theorem dX10_init_57 : decode cX10_init 57 = .ok (.iinc 6 1, 3) := by decide +kernel
theorem dX10_init_60 : decode cX10_init 60 = .ok (.goto 26, 3) := by decide +kernel
theorem dX10_init_63 : decode cX10_init 63 = .ok (.iload 6, 2) := by decide +kernel
theorem dX10_init_65 : decode cX10_init 65 = .ok (.iconst 4, 1) := by decide +kernel
theorem dX10_init_66 : decode cX10_init 66 = .ok (.if_icmp .ge 20, 3) := by decide +kernel
theorem dX10_init_69 : decode cX10_init 69 = .ok (.aload 5, 2) := by decide +kernel
theorem dX10_init_71 : decode cX10_init 71 = .ok (.iload 6, 2) := by decide +kernel
theorem dX10_init_73 : decode cX10_init 73 = .ok (.aload 5, 2) := by decide +kernel
theorem dX10_init_75 : decode cX10_init 75 = .ok (.iload 6, 2) := by decide +kernel
theorem dX10_init_77 : decode cX10_init 77 = .ok (.laload, 1) := by decide +kernel
theorem dX10_init_78 : decode cX10_init 78 = .ok (.bipush 7, 2) := by decide +kernel
theorem dX10_init_80 : decode cX10_init 80 = .ok (.lshl, 1) := by decide +kernel
theorem dX10_init_81 : decode cX10_init 81 = .ok (.iload 8, 2) := by decide +kernel
theorem dX10_init_83 : decode cX10_init 83 = .ok (.i2l, 1) := by decide +kernel
theorem dX10_init_84 : decode cX10_init 84 = .ok (.lor, 1) := by decide +kernel
theorem dX10_init_85 : decode cX10_init 85 = .ok (.lastore, 1) := by decide +kernel
theorem dX10_init_86 : decode cX10_init 86 = .ok (.iinc 7 1, 3) := by decide +kernel
theorem dX10_init_89 : decode cX10_init 89 = .ok (.goto (-58), 3) := by decide +kernel
theorem dX10_init_92 : decode cX10_init 92 = .ok (.aload_n 0, 1) := by decide +kernel
theorem dX10_init_93 : decode cX10_init 93 = .ok (.aload 4, 2) := by decide +kernel
theorem dX10_init_95 : decode cX10_init 95 = .ok (.putfield 18, 3) := by decide +kernel
theorem dX10_init_98 : decode cX10_init 98 = .ok (.aload_n 0, 1) := by decide +kernel
theorem dX10_init_99 : decode cX10_init 99 = .ok (.aload 5, 2) := by decide +kernel
theorem dX10_init_101 : decode cX10_init 101 = .ok (.putfield 24, 3) := by decide +kernel
theorem dX10_init_104 : decode cX10_init 104 = .ok (.aload_n 0, 1) := by decide +kernel
theorem dX10_init_105 : decode cX10_init 105 = .ok (.iload_n 3, 1) := by decide +kernel
theorem dX10_init_106 : decode cX10_init 106 = .ok (.ifCond .ne 7, 3) := by decide +kernel
theorem dX10_init_109 : decode cX10_init 109 = .ok (.iconst 0, 1) := by decide +kernel
theorem dX10_init_110 : decode cX10_init 110 = .ok (.goto 7, 3) := by decide +kernel
theorem dX10_init_113 : decode cX10_init 113 = .ok (.iload 6, 2) := by decide +kernel
theorem dX10_init_115 : decode cX10_init 115 = .ok (.iconst 1, 1) := by decide +kernel
theorem dX10_init_116 : decode cX10_init 116 = .ok (.iadd, 1) := by decide +kernel
theorem dX10_init_117 : decode cX10_init 117 = .ok (.putfield 28, 3) := by decide +kernel
theorem dX10_init_120 : decode cX10_init 120 = .ok (.aload_n 0, 1) := by decide +kernel
theorem dX10_init_121 : decode cX10_init 121 = .ok (.iload_n 3, 1) := by decide +kernel
theorem dX10_init_122 : decode cX10_init 122 = .ok (.ifCond .le 18, 3) := by decide +kernel
theorem dX10_init_125 : decode cX10_init 125 = .ok (.aload 4, 2) := by decide +kernel
theorem dX10_init_127 : decode cX10_init 127 = .ok (.iload_n 3, 1) := by decide +kernel
theorem dX10_init_128 : decode cX10_init 128 = .ok (.iconst 1, 1) := by decide +kernel
theorem dX10_init_129 : decode cX10_init 129 = .ok (.isub, 1) := by decide +kernel
theorem dX10_init_130 : decode cX10_init 130 = .ok (.caload, 1) := by decide +kernel
theorem dX10_init_131 : decode cX10_init 131 = .ok (.bipush 35, 2) := by decide +kernel
theorem dX10_init_133 : decode cX10_init 133 = .ok (.if_icmp .ne 7, 3) := by decide +kernel
theorem dX10_init_136 : decode cX10_init 136 = .ok (.iconst 1, 1) := by decide +kernel
theorem dX10_init_137 : decode cX10_init 137 = .ok (.goto 4, 3) := by decide +kernel
theorem dX10_init_140 : decode cX10_init 140 = .ok (.iconst 0, 1) := by decide +kernel
theorem dX10_init_141 : decode cX10_init 141 = .ok (.putfield 32, 3) := by decide +kernel
theorem dX10_init_144 : decode cX10_init 144 = .ok (.aload_n 0, 1) := by decide +kernel
theorem dX10_init_145 : decode cX10_init 145 = .ok (.aload_n 0, 1) := by decide +kernel
theorem dX10_init_146 : decode cX10_init 146 = .ok (.getfield 32, 3) := by decide +kernel
theorem dX10_init_149 : decode cX10_init 149 = .ok (.ifCond .eq 12, 3) := by decide +kernel
theorem dX10_init_152 : decode cX10_init 152 = .ok (.aload_n 0, 1) := by decide +kernel
theorem dX10_init_153 : decode cX10_init 153 = .ok (.getfield 28, 3) := by decide +kernel
theorem dX10_init_156 : decode cX10_init 156 = .ok (.iconst 1, 1) := by decide +kernel
theorem dX10_init_157 : decode cX10_init 157 = .ok (.isub, 1) := by decide +kernel
theorem dX10_init_158 : decode cX10_init 158 = .ok (.goto 7, 3) := by decide +kernel
theorem dX10_init_161 : decode cX10_init 161 = .ok (.aload_n 0, 1) := by decide +kernel
theorem dX10_init_162 : decode cX10_init 162 = .ok (.getfield 28, 3) := by decide +kernel
theorem dX10_init_165 : decode cX10_init 165 = .ok (.putfield 36, 3) := by decide +kernel
theorem dX10_init_168 : decode cX10_init 168 = .ok (.return_, 1) := by decide +kernel
theorem dX10_findError_0 : decode cX10_findError 0 = .ok (.iconst 1, 1) := by decide +kernel
theorem dX10_findError_1 : decode cX10_findError 1 = .ok (.istore_n 3, 1) := by decide +kernel
theorem dX10_findError_2 : decode cX10_findError 2 = .ok (.iconst 0, 1) := by decide +kernel
theorem dX10_findError_3 : decode cX10_findError 3 = .ok (.istore 4, 2) := by decide +kernel
theorem dX10_findError_5 : decode cX10_findError 5 = .ok (.iconst 0, 1) := by decide +kernel
theorem dX10_findError_6 : decode cX10_findError 6 = .ok (.istore 5, 2) := by decide +kernel
theorem dX10_findError_8 : decode cX10_findError 8 = .ok (.iconst 0, 1) := by decide +kernel
theorem dX10_findError_9 : decode cX10_findError 9 = .ok (.istore 6, 2) := by decide +kernel
theorem dX10_findError_11 : decode cX10_findError 11 = .ok (.iload 6, 2) := by decide +kernel
theorem dX10_findError_13 : decode cX10_findError 13 = .ok (.iload_n 1, 1) := by decide +kernel
theorem dX10_findError_14 : decode cX10_findError 14 = .ok (.if_icmp .ge 123, 3) := by decide +kernel
theorem dX10_findError_17 : decode cX10_findError 17 = .ok (.iload 6, 2) := by decide +kernel
theorem dX10_findError_19 : decode cX10_findError 19 = .ok (.aload_n 0, 1) := by decide +kernel
theorem dX10_findError_20 : decode cX10_findError 20 = .ok (.arraylength, 1) := by decide +kernel
theorem dX10_findError_21 : decode cX10_findError 21 = .ok (.if_icmp .ge 116, 3) := by decide +kernel
theorem dX10_findError_24 : decode cX10_findError 24 = .ok (.aload_n 0, 1) := by decide +kernel
theorem dX10_findError_25 : decode cX10_findError 25 = .ok (.iload 6, 2) := by decide +kernel
theorem dX10_findError_27 : decode cX10_findError 27 = .ok (.caload, 1) := by decide +kernel
theorem dX10_findError_28 : decode cX10_findError 28 = .ok (.istore 7, 2) := by decide +kernel
theorem dX10_findError_30 : decode cX10_findError 30 = .ok (.iload 7, 2) := by decide +kernel
theorem dX10_findError_32 : decode cX10_findError 32 = .ok (.bipush 47, 2) := by decide +kernel
theorem dX10_findError_34 : decode cX10_findError 34 = .ok (.if_icmp .ne 35, 3) := by decide +kernel
theorem dX10_findError_37 : decode cX10_findError 37 = .ok (.iload 4, 2) := by decide +kernel
theorem dX10_findError_39 : decode cX10_findError 39 = .ok (.ifCond .eq 15, 3) := by decide +kernel
theorem dX10_findError_42 : decode cX10_findError 42 = .ok (.iload 5, 2) := by decide +kernel
theorem dX10_findError_44 : decode cX10_findError 44 = .ok (.bipush 35, 2) := by decide +kernel
theorem dX10_findError_46 : decode cX10_findError 46 = .ok (.if_icmp .eq 8, 3) := by decide +kernel
theorem dX10_findError_49 : decode cX10_findError 49 = .ok (.iload_n 3, 1) := by decide +kernel
theorem dX10_findError_50 : decode cX10_findError 50 = .ok (.iconst 4, 1) := by decide +kernel
theorem dX10_findError_51 : decode cX10_findError 51 = .ok (.if_icmp .ne 6, 3) := by decide +kernel
theorem dX10_findError_54 : decode cX10_findError 54 = .ok (.iload 6, 2) := by decide +kernel
theorem dX10_findError_56 : decode cX10_findError 56 = .ok (.ireturn, 1) := by decide +kernel
theorem dX10_findError_57 : decode cX10_findError 57 = .ok (.iinc 3 1, 3) := by decide +kernel
theorem dX10_findError_60 : decode cX10_findError 60 = .ok (.iconst 0, 1) := by decide +kernel
theorem dX10_findError_61 : decode cX10_findError 61 = .ok (.istore 4, 2) := by decide +kernel
theorem dX10_findError_63 : decode cX10_findError 63 = .ok (.iconst 0, 1) := by decide +kernel
theorem dX10_findError_64 : decode cX10_findError 64 = .ok (.istore 5, 2) := by decide +kernel
theorem dX10_findError_66 : decode cX10_findError 66 = .ok (.goto 65, 3) := by decide +kernel
theorem dX10_findError_69 : decode cX10_findError 69 = .ok (.iload 7, 2) := by decide +kernel
theorem dX10_findError_71 : decode cX10_findError 71 = .ok (.bipush 43, 2) := by decide +kernel
theorem dX10_findError_73 : decode cX10_findError 73 = .ok (.if_icmp .eq 10, 3) := by decide +kernel
theorem dX10_findError_76 : decode cX10_findError 76 = .ok (.iload 7, 2) := by decide +kernel
theorem dX10_findError_78 : decode cX10_findError 78 = .ok (.bipush 35, 2) := by decide +kernel
theorem dX10_findError_80 : decode cX10_findError 80 = .ok (.if_icmp .ne 25, 3) := by decide +kernel
theorem dX10_findError_83 : decode cX10_findError 83 = .ok (.iload_n 2, 1) := by decide +kernel
theorem dX10_findError_84 : decode cX10_findError 84 = .ok (.ifCond .eq 8, 3) := by decide +kernel
theorem dX10_findError_87 : decode cX10_findError 87 = .ok (.iload 4, 2) := by decide +kernel
theorem dX10_findError_89 : decode cX10_findError 89 = .ok (.ifCond .eq 6, 3) := by decide +kernel
theorem dX10_findError_92 : decode cX10_findError 92 = .ok (.iload 6, 2) := by decide +kernel
theorem dX10_findError_94 : decode cX10_findError 94 = .ok (.ireturn, 1) := by decide +kernel
theorem dX10_findError_95 : decode cX10_findError 95 = .ok (.iload 7, 2) := by decide +kernel
theorem dX10_findError_97 : decode cX10_findError 97 = .ok (.istore 5, 2) := by decide +kernel
theorem dX10_findError_99 : decode cX10_findError 99 = .ok (.iconst 1, 1) := by decide +kernel
theorem dX10_findError_100 : decode cX10_findError 100 = .ok (.istore 4, 2) := by decide +kernel
theorem dX10_findError_102 : decode cX10_findError 102 = .ok (.goto 29, 3) := by decide +kernel
theorem dX10_findError_105 : decode cX10_findError 105 = .ok (.iload 7, 2) := by decide +kernel
theorem dX10_findError_107 : decode cX10_findError 107 = .ok (.invokestatic 39, 3) := by decide +kernel
theorem dX10_findError_110 : decode cX10_findError 110 = .ok (.ifCond .eq 15, 3) := by decide +kernel
theorem dX10_findError_113 : decode cX10_findError 113 = .ok (.iload 5, 2) := by decide +kernel
theorem dX10_findError_115 : decode cX10_findError 115 = .ok (.ifCond .ne 10, 3) := by decide +kernel
theorem dX10_findError_118 : decode cX10_findError 118 = .ok (.iload 4, 2) := by decide +kernel
theorem dX10_findError_120 : decode cX10_findError 120 = .ok (.bipush 6, 2) := by decide +kernel
theorem dX10_findError_122 : decode cX10_findError 122 = .ok (.if_icmp .ne 6, 3) := by decide +kernel
theorem dX10_findError_125 : decode cX10_findError 125 = .ok (.iload 6, 2) := by decide +kernel
theorem dX10_findError_127 : decode cX10_findError 127 = .ok (.ireturn, 1) := by decide +kernel
theorem dX10_findError_128 : decode cX10_findError 128 = .ok (.iinc 4 1, 3) := by decide +kernel
theorem dX10_findError_131 : decode cX10_findError 131 = .ok (.iinc 6 1, 3) := by decide +kernel
theorem dX10_findError_134 : decode cX10_findError 134 = .ok (.goto (-123), 3) := by decide +kernel
theorem dX10_findError_137 : decode cX10_findError 137 = .ok (.iload 4, 2) := by decide +kernel
theorem dX10_findError_139 : decode cX10_findError 139 = .ok (.ifCond .ne 7, 3) := by decide +kernel
theorem dX10_findError_142 : decode cX10_findError 142 = .ok (.iload_n 1, 1) := by decide +kernel
theorem dX10_findError_143 : decode cX10_findError 143 = .ok (.goto 4, 3) := by decide +kernel
theorem dX10_findError_146 : decode cX10_findError 146 = .ok (.iconst (-1), 1) := by decide +kernel
theorem dX10_findError_147 : decode cX10_findError 147 = .ok (.ireturn, 1) := by decide +kernel
theorem dX10_isPlain_0 : decode cX10_isPlain 0 = .ok (.iload_n 0, 1) := by decide +kernel
theorem dX10_isPlain_1 : decode cX10_isPlain 1 = .ok (.bipush 97, 2) := by decide +kernel
theorem dX10_isPlain_3 : decode cX10_isPlain 3 = .ok (.if_icmp .lt 9, 3) := by decide +kernel
theorem dX10_isPlain_6 : decode cX10_isPlain 6 = .ok (.iload_n 0, 1) := by decide +kernel
theorem dX10_isPlain_7 : decode cX10_isPlain 7 = .ok (.bipush 122, 2) := by decide +kernel
theorem dX10_isPlain_9 : decode cX10_isPlain 9 = .ok (.if_icmp .le 15, 3) := by decide +kernel
theorem dX10_isPlain_12 : decode cX10_isPlain 12 = .ok (.iload_n 0, 1) := by decide +kernel
theorem dX10_isPlain_13 : decode cX10_isPlain 13 = .ok (.bipush 48, 2) := by decide +kernel
theorem dX10_isPlain_15 : decode cX10_isPlain 15 = .ok (.if_icmp .lt 13, 3) := by decide +kernel
theorem dX10_isPlain_18 : decode cX10_isPlain 18 = .ok (.iload_n 0, 1) := by decide +kernel
theorem dX10_isPlain_19 : decode cX10_isPlain 19 = .ok (.bipush 57, 2) := by decide +kernel
theorem dX10_isPlain_21 : decode cX10_isPlain 21 = .ok (.if_icmp .gt 7, 3) := by decide +kernel
theorem dX10_isPlain_24 : decode cX10_isPlain 24 = .ok (.iconst 1, 1) := by decide +kernel
theorem dX10_isPlain_25 : decode cX10_isPlain 25 = .ok (.goto 4, 3) := by decide +kernel
theorem dX10_isPlain_28 : decode cX10_isPlain 28 = .ok (.iconst 0, 1) := by decide +kernel
theorem dX10_isPlain_29 : decode cX10_isPlain 29 = .ok (.ireturn, 1) := by decide +kernel
theorem dX10_sameAs_0 : decode cX10_sameAs 0 = .ok (.iconst 0, 1) := by decide +kernel
theorem dX10_sameAs_1 : decode cX10_sameAs 1 = .ok (.istore_n 2, 1) := by decide +kernel
theorem dX10_sameAs_2 : decode cX10_sameAs 2 = .ok (.iload_n 2, 1) := by decide +kernel
theorem dX10_sameAs_3 : decode cX10_sameAs 3 = .ok (.iconst 4, 1) := by decide +kernel
theorem dX10_sameAs_4 : decode cX10_sameAs 4 = .ok (.if_icmp .ge 27, 3) := by decide +kernel
theorem dX10_sameAs_7 : decode cX10_sameAs 7 = .ok (.aload_n 0, 1) := by decide +kernel
theorem dX10_sameAs_8 : decode cX10_sameAs 8 = .ok (.getfield 24, 3) := by decide +kernel
theorem dX10_sameAs_11 : decode cX10_sameAs 11 = .ok (.iload_n 2, 1) := by decide +kernel
theorem dX10_sameAs_12 : decode cX10_sameAs 12 = .ok (.laload, 1) := by decide +kernel
theorem dX10_sameAs_13 : decode cX10_sameAs 13 = .ok (.aload_n 1, 1) := by decide +kernel
theorem dX10_sameAs_14 : decode cX10_sameAs 14 = .ok (.getfield 24, 3) := by decide +kernel
theorem dX10_sameAs_17 : decode cX10_sameAs 17 = .ok (.iload_n 2, 1) := by decide +kernel
theorem dX10_sameAs_18 : decode cX10_sameAs 18 = .ok (.laload, 1) := by decide +kernel
theorem dX10_sameAs_19 : decode cX10_sameAs 19 = .ok (.lcmp, 1) := by decide +kernel
theorem dX10_sameAs_20 : decode cX10_sameAs 20 = .ok (.ifCond .eq 5, 3) := by decide +kernel
theorem dX10_sameAs_23 : decode cX10_sameAs 23 = .ok (.iconst 0, 1) := by decide +kernel
theorem dX10_sameAs_24 : decode cX10_sameAs 24 = .ok (.ireturn, 1) := by decide +kernel
theorem dX10_sameAs_25 : decode cX10_sameAs 25 = .ok (.iinc 2 1, 3) := by decide +kernel
theorem dX10_sameAs_28 : decode cX10_sameAs 28 = .ok (.goto (-26), 3) := by decide +kernel
theorem dX10_sameAs_31 : decode cX10_sameAs 31 = .ok (.iconst 1, 1) := by decide +kernel
theorem dX10_sameAs_32 : decode cX10_sameAs 32 = .ok (.ireturn, 1) := by decide +kernel
theorem dX10_order_0 : decode cX10_order 0 = .ok (.aload_n 0, 1) := by decide +kernel
theorem dX10_order_1 : decode cX10_order 1 = .ok (.getfield 18, 3) := by decide +kernel
theorem dX10_order_4 : decode cX10_order 4 = .ok (.arraylength, 1) := by decide +kernel
theorem dX10_order_5 : decode cX10_order 5 = .ok (.aload_n 1, 1) := by decide +kernel
theorem dX10_order_6 : decode cX10_order 6 = .ok (.getfield 18, 3) := by decide +kernel
theorem dX10_order_9 : decode cX10_order 9 = .ok (.arraylength, 1) := by decide +kernel
theorem dX10_order_10 : decode cX10_order 10 = .ok (.invokestatic 9, 3) := by decide +kernel
theorem dX10_order_13 : decode cX10_order 13 = .ok (.istore_n 2, 1) := by decide +kernel
theorem dX10_order_14 : decode cX10_order 14 = .ok (.iconst 0, 1) := by decide +kernel
theorem dX10_order_15 : decode cX10_order 15 = .ok (.istore_n 3, 1) := by decide +kernel
theorem dX10_order_16 : decode cX10_order 16 = .ok (.iload_n 3, 1) := by decide +kernel
theorem dX10_order_17 : decode cX10_order 17 = .ok (.iload_n 2, 1) := by decide +kernel
theorem dX10_order_18 : decode cX10_order 18 = .ok (.if_icmp .ge 38, 3) := by decide +kernel
theorem dX10_order_21 : decode cX10_order 21 = .ok (.aload_n 0, 1) := by decide +kernel
theorem dX10_order_22 : decode cX10_order 22 = .ok (.getfield 18, 3) := by decide +kernel
theorem dX10_order_25 : decode cX10_order 25 = .ok (.iload_n 3, 1) := by decide +kernel
theorem dX10_order_26 : decode cX10_order 26 = .ok (.caload, 1) := by decide +kernel
theorem dX10_order_27 : decode cX10_order 27 = .ok (.aload_n 1, 1) := by decide +kernel
theorem dX10_order_28 : decode cX10_order 28 = .ok (.getfield 18, 3) := by decide +kernel
theorem dX10_order_31 : decode cX10_order 31 = .ok (.iload_n 3, 1) := by decide +kernel
theorem dX10_order_32 : decode cX10_order 32 = .ok (.caload, 1) := by decide +kernel
theorem dX10_order_33 : decode cX10_order 33 = .ok (.if_icmp .eq 17, 3) := by decide +kernel
theorem dX10_order_36 : decode cX10_order 36 = .ok (.aload_n 0, 1) := by decide +kernel
theorem dX10_order_37 : decode cX10_order 37 = .ok (.getfield 18, 3) := by decide +kernel
theorem dX10_order_40 : decode cX10_order 40 = .ok (.iload_n 3, 1) := by decide +kernel
theorem dX10_order_41 : decode cX10_order 41 = .ok (.caload, 1) := by decide +kernel
theorem dX10_order_42 : decode cX10_order 42 = .ok (.aload_n 1, 1) := by decide +kernel
theorem dX10_order_43 : decode cX10_order 43 = .ok (.getfield 18, 3) := by decide +kernel
theorem dX10_order_46 : decode cX10_order 46 = .ok (.iload_n 3, 1) := by decide +kernel
theorem dX10_order_47 : decode cX10_order 47 = .ok (.caload, 1) := by decide +kernel
theorem dX10_order_48 : decode cX10_order 48 = .ok (.isub, 1) := by decide +kernel
theorem dX10_order_49 : decode cX10_order 49 = .ok (.ireturn, 1) := by decide +kernel
theorem dX10_order_50 : decode cX10_order 50 = .ok (.iinc 3 1, 3) := by decide +kernel
theorem dX10_order_53 : decode cX10_order 53 = .ok (.goto (-37), 3) := by decide +kernel
theorem dX10_order_56 : decode cX10_order 56 = .ok (.aload_n 0, 1) := by decide +kernel
theorem dX10_order_57 : decode cX10_order 57 = .ok (.getfield 18, 3) := by decide +kernel
theorem dX10_order_60 : decode cX10_order 60 = .ok (.arraylength, 1) := by decide +kernel
theorem dX10_order_61 : decode cX10_order 61 = .ok (.aload_n 1, 1) := by decide +kernel
theorem dX10_order_62 : decode cX10_order 62 = .ok (.getfield 18, 3) := by decide +kernel
theorem dX10_order_65 : decode cX10_order 65 = .ok (.arraylength, 1) := by decide +kernel
theorem dX10_order_66 : decode cX10_order 66 = .ok (.isub, 1) := by decide +kernel
theorem dX10_order_67 : decode cX10_order 67 = .ok (.ireturn, 1) := by decide +kernel
theorem dX10_matches_0 : decode cX10_matches 0 = .ok (.aload_n 0, 1) := by decide +kernel
theorem dX10_matches_1 : decode cX10_matches 1 = .ok (.aload_n 1, 1) := by decide +kernel
theorem dX10_matches_2 : decode cX10_matches 2 = .ok (.aload_n 1, 1) := by decide +kernel
theorem dX10_matches_3 : decode cX10_matches 3 = .ok (.getfield 28, 3) := by decide +kernel
theorem dX10_matches_6 : decode cX10_matches 6 = .ok (.invokevirtual 43, 3) := by decide +kernel
theorem dX10_matches_9 : decode cX10_matches 9 = .ok (.ireturn, 1) := by decide +kernel
theorem dX10_meets_0 : decode cX10_meets 0 = .ok (.iconst 1, 1) := by decide +kernel
theorem dX10_meets_1 : decode cX10_meets 1 = .ok (.istore_n 2, 1) := by decide +kernel
theorem dX10_meets_2 : decode cX10_meets 2 = .ok (.iload_n 2, 1) := by decide +kernel
theorem dX10_meets_3 : decode cX10_meets 3 = .ok (.iconst 4, 1) := by decide +kernel
theorem dX10_meets_4 : decode cX10_meets 4 = .ok (.if_icmp .gt 36, 3) := by decide +kernel
theorem dX10_meets_7 : decode cX10_meets 7 = .ok (.aload_n 0, 1) := by decide +kernel
theorem dX10_meets_8 : decode cX10_meets 8 = .ok (.iload_n 2, 1) := by decide +kernel
theorem dX10_meets_9 : decode cX10_meets 9 = .ok (.invokevirtual 47, 3) := by decide +kernel
theorem dX10_meets_12 : decode cX10_meets 12 = .ok (.ifCond .eq 22, 3) := by decide +kernel
theorem dX10_meets_15 : decode cX10_meets 15 = .ok (.aload_n 1, 1) := by decide +kernel
theorem dX10_meets_16 : decode cX10_meets 16 = .ok (.iload_n 2, 1) := by decide +kernel
theorem dX10_meets_17 : decode cX10_meets 17 = .ok (.invokevirtual 47, 3) := by decide +kernel
theorem dX10_meets_20 : decode cX10_meets 20 = .ok (.ifCond .eq 14, 3) := by decide +kernel
theorem dX10_meets_23 : decode cX10_meets 23 = .ok (.aload_n 0, 1) := by decide +kernel
theorem dX10_meets_24 : decode cX10_meets 24 = .ok (.aload_n 1, 1) := by decide +kernel
theorem dX10_meets_25 : decode cX10_meets 25 = .ok (.iload_n 2, 1) := by decide +kernel
theorem dX10_meets_26 : decode cX10_meets 26 = .ok (.invokevirtual 51, 3) := by decide +kernel
theorem dX10_meets_29 : decode cX10_meets 29 = .ok (.ifCond .eq 5, 3) := by decide +kernel
theorem dX10_meets_32 : decode cX10_meets 32 = .ok (.iconst 1, 1) := by decide +kernel
theorem dX10_meets_33 : decode cX10_meets 33 = .ok (.ireturn, 1) := by decide +kernel
theorem dX10_meets_34 : decode cX10_meets 34 = .ok (.iinc 2 1, 3) := by decide +kernel
theorem dX10_meets_37 : decode cX10_meets 37 = .ok (.goto (-35), 3) := by decide +kernel
theorem dX10_meets_40 : decode cX10_meets 40 = .ok (.iconst 0, 1) := by decide +kernel
theorem dX10_meets_41 : decode cX10_meets 41 = .ok (.ireturn, 1) := by decide +kernel
theorem dX10_covers_0 : decode cX10_covers 0 = .ok (.iconst 1, 1) := by decide +kernel
theorem dX10_covers_1 : decode cX10_covers 1 = .ok (.istore_n 2, 1) := by decide +kernel
theorem dX10_covers_2 : decode cX10_covers 2 = .ok (.iload_n 2, 1) := by decide +kernel
theorem dX10_covers_3 : decode cX10_covers 3 = .ok (.iconst 4, 1) := by decide +kernel
theorem dX10_covers_4 : decode cX10_covers 4 = .ok (.if_icmp .gt 28, 3) := by decide +kernel
theorem dX10_covers_7 : decode cX10_covers 7 = .ok (.aload_n 1, 1) := by decide +kernel
theorem dX10_covers_8 : decode cX10_covers 8 = .ok (.iload_n 2, 1) := by decide +kernel
theorem dX10_covers_9 : decode cX10_covers 9 = .ok (.invokevirtual 47, 3) := by decide +kernel
theorem dX10_covers_12 : decode cX10_covers 12 = .ok (.ifCond .eq 14, 3) := by decide +kernel
theorem dX10_covers_15 : decode cX10_covers 15 = .ok (.aload_n 0, 1) := by decide +kernel
theorem dX10_covers_16 : decode cX10_covers 16 = .ok (.aload_n 1, 1) := by decide +kernel
theorem dX10_covers_17 : decode cX10_covers 17 = .ok (.iload_n 2, 1) := by decide +kernel
theorem dX10_covers_18 : decode cX10_covers 18 = .ok (.invokevirtual 43, 3) := by decide +kernel
theorem dX10_covers_21 : decode cX10_covers 21 = .ok (.ifCond .ne 5, 3) := by decide +kernel
theorem dX10_covers_24 : decode cX10_covers 24 = .ok (.iconst 0, 1) := by decide +kernel
theorem dX10_covers_25 : decode cX10_covers 25 = .ok (.ireturn, 1) := by decide +kernel
theorem dX10_covers_26 : decode cX10_covers 26 = .ok (.iinc 2 1, 3) := by decide +kernel
theorem dX10_covers_29 : decode cX10_covers 29 = .ok (.goto (-27), 3) := by decide +kernel
theorem dX10_covers_32 : decode cX10_covers 32 = .ok (.iconst 1, 1) := by decide +kernel
theorem dX10_covers_33 : decode cX10_covers 33 = .ok (.ireturn, 1) := by decide +kernel
theorem dX10_fits_0 : decode cX10_fits 0 = .ok (.aload_n 0, 1) := by decide +kernel
theorem dX10_fits_1 : decode cX10_fits 1 = .ok (.getfield 32, 3) := by decide +kernel
theorem dX10_fits_4 : decode cX10_fits 4 = .ok (.ifCond .eq 19, 3) := by decide +kernel
theorem dX10_fits_7 : decode cX10_fits 7 = .ok (.iload_n 1, 1) := by decide +kernel
theorem dX10_fits_8 : decode cX10_fits 8 = .ok (.aload_n 0, 1) := by decide +kernel
theorem dX10_fits_9 : decode cX10_fits 9 = .ok (.getfield 36, 3) := by decide +kernel
theorem dX10_fits_12 : decode cX10_fits 12 = .ok (.if_icmp .lt 7, 3) := by decide +kernel
theorem dX10_fits_15 : decode cX10_fits 15 = .ok (.iconst 1, 1) := by decide +kernel
theorem dX10_fits_16 : decode cX10_fits 16 = .ok (.goto 20, 3) := by decide +kernel
theorem dX10_fits_19 : decode cX10_fits 19 = .ok (.iconst 0, 1) := by decide +kernel
theorem dX10_fits_20 : decode cX10_fits 20 = .ok (.goto 16, 3) := by decide +kernel
theorem dX10_fits_23 : decode cX10_fits 23 = .ok (.iload_n 1, 1) := by decide +kernel
theorem dX10_fits_24 : decode cX10_fits 24 = .ok (.aload_n 0, 1) := by decide +kernel
theorem dX10_fits_25 : decode cX10_fits 25 = .ok (.getfield 36, 3) := by decide +kernel
theorem dX10_fits_28 : decode cX10_fits 28 = .ok (.if_icmp .ne 7, 3) := by decide +kernel
theorem dX10_fits_31 : decode cX10_fits 31 = .ok (.iconst 1, 1) := by decide +kernel
theorem dX10_fits_32 : decode cX10_fits 32 = .ok (.goto 4, 3) := by decide +kernel
theorem dX10_fits_35 : decode cX10_fits 35 = .ok (.iconst 0, 1) := by decide +kernel
theorem dX10_fits_36 : decode cX10_fits 36 = .ok (.ireturn, 1) := by decide +kernel
theorem dX10_levelAt_0 : decode cX10_levelAt 0 = .ok (.iload_n 1, 1) := by decide +kernel
theorem dX10_levelAt_1 : decode cX10_levelAt 1 = .ok (.ifCond .lt 25, 3) := by decide +kernel
theorem dX10_levelAt_4 : decode cX10_levelAt 4 = .ok (.iload_n 1, 1) := by decide +kernel
theorem dX10_levelAt_5 : decode cX10_levelAt 5 = .ok (.aload_n 0, 1) := by decide +kernel
theorem dX10_levelAt_6 : decode cX10_levelAt 6 = .ok (.getfield 36, 3) := by decide +kernel
theorem dX10_levelAt_9 : decode cX10_levelAt 9 = .ok (.if_icmp .ge 17, 3) := by decide +kernel
theorem dX10_levelAt_12 : decode cX10_levelAt 12 = .ok (.iload_n 1, 1) := by decide +kernel
theorem dX10_levelAt_13 : decode cX10_levelAt 13 = .ok (.iconst 4, 1) := by decide +kernel
theorem dX10_levelAt_14 : decode cX10_levelAt 14 = .ok (.if_icmp .ge 12, 3) := by decide +kernel
theorem dX10_levelAt_17 : decode cX10_levelAt 17 = .ok (.aload_n 0, 1) := by decide +kernel
theorem dX10_levelAt_18 : decode cX10_levelAt 18 = .ok (.getfield 24, 3) := by decide +kernel
theorem dX10_levelAt_21 : decode cX10_levelAt 21 = .ok (.iload_n 1, 1) := by decide +kernel
theorem dX10_levelAt_22 : decode cX10_levelAt 22 = .ok (.laload, 1) := by decide +kernel
theorem dX10_levelAt_23 : decode cX10_levelAt 23 = .ok (.goto 6, 3) := by decide +kernel
theorem dX10_levelAt_26 : decode cX10_levelAt 26 = .ok (.ldc2_w 54, 3) := by decide +kernel
theorem dX10_levelAt_29 : decode cX10_levelAt 29 = .ok (.lreturn, 1) := by decide +kernel
theorem dX10_meetsWith_0 : decode cX10_meetsWith 0 = .ok (.iconst 0, 1) := by decide +kernel
theorem dX10_meetsWith_1 : decode cX10_meetsWith 1 = .ok (.istore_n 3, 1) := by decide +kernel
theorem dX10_meetsWith_2 : decode cX10_meetsWith 2 = .ok (.iload_n 3, 1) := by decide +kernel
theorem dX10_meetsWith_3 : decode cX10_meetsWith 3 = .ok (.iload_n 2, 1) := by decide +kernel
theorem dX10_meetsWith_4 : decode cX10_meetsWith 4 = .ok (.if_icmp .ge 51, 3) := by decide +kernel
theorem dX10_meetsWith_7 : decode cX10_meetsWith 7 = .ok (.aload_n 0, 1) := by decide +kernel
theorem dX10_meetsWith_8 : decode cX10_meetsWith 8 = .ok (.iload_n 3, 1) := by decide +kernel
theorem dX10_meetsWith_9 : decode cX10_meetsWith 9 = .ok (.invokevirtual 56, 3) := by decide +kernel
theorem dX10_meetsWith_12 : decode cX10_meetsWith 12 = .ok (.lstore 4, 2) := by decide +kernel
theorem dX10_meetsWith_14 : decode cX10_meetsWith 14 = .ok (.aload_n 1, 1) := by decide +kernel
theorem dX10_meetsWith_15 : decode cX10_meetsWith 15 = .ok (.iload_n 3, 1) := by decide +kernel
theorem dX10_meetsWith_16 : decode cX10_meetsWith 16 = .ok (.invokevirtual 56, 3) := by decide +kernel
theorem dX10_meetsWith_19 : decode cX10_meetsWith 19 = .ok (.lstore 6, 2) := by decide +kernel
theorem dX10_meetsWith_21 : decode cX10_meetsWith 21 = .ok (.lload 4, 2) := by decide +kernel
theorem dX10_meetsWith_23 : decode cX10_meetsWith 23 = .ok (.lload 6, 2) := by decide +kernel
theorem dX10_meetsWith_25 : decode cX10_meetsWith 25 = .ok (.lcmp, 1) := by decide +kernel
theorem dX10_meetsWith_26 : decode cX10_meetsWith 26 = .ok (.ifCond .eq 23, 3) := by decide +kernel
theorem dX10_meetsWith_29 : decode cX10_meetsWith 29 = .ok (.lload 4, 2) := by decide +kernel
theorem dX10_meetsWith_31 : decode cX10_meetsWith 31 = .ok (.ldc2_w 54, 3) := by decide +kernel
theorem dX10_meetsWith_34 : decode cX10_meetsWith 34 = .ok (.lcmp, 1) := by decide +kernel
theorem dX10_meetsWith_35 : decode cX10_meetsWith 35 = .ok (.ifCond .eq 14, 3) := by decide +kernel
theorem dX10_meetsWith_38 : decode cX10_meetsWith 38 = .ok (.lload 6, 2) := by decide +kernel
theorem dX10_meetsWith_40 : decode cX10_meetsWith 40 = .ok (.ldc2_w 54, 3) := by decide +kernel
theorem dX10_meetsWith_43 : decode cX10_meetsWith 43 = .ok (.lcmp, 1) := by decide +kernel
theorem dX10_meetsWith_44 : decode cX10_meetsWith 44 = .ok (.ifCond .eq 5, 3) := by decide +kernel
theorem dX10_meetsWith_47 : decode cX10_meetsWith 47 = .ok (.iconst 0, 1) := by decide +kernel
theorem dX10_meetsWith_48 : decode cX10_meetsWith 48 = .ok (.ireturn, 1) := by decide +kernel
theorem dX10_meetsWith_49 : decode cX10_meetsWith 49 = .ok (.iinc 3 1, 3) := by decide +kernel
theorem dX10_meetsWith_52 : decode cX10_meetsWith 52 = .ok (.goto (-50), 3) := by decide +kernel
theorem dX10_meetsWith_55 : decode cX10_meetsWith 55 = .ok (.iconst 1, 1) := by decide +kernel
theorem dX10_meetsWith_56 : decode cX10_meetsWith 56 = .ok (.ireturn, 1) := by decide +kernel
theorem dX10_coversWith_0 : decode cX10_coversWith 0 = .ok (.aload_n 0, 1) := by decide +kernel
theorem dX10_coversWith_1 : decode cX10_coversWith 1 = .ok (.iload_n 2, 1) := by decide +kernel
theorem dX10_coversWith_2 : decode cX10_coversWith 2 = .ok (.invokevirtual 47, 3) := by decide +kernel
theorem dX10_coversWith_5 : decode cX10_coversWith 5 = .ok (.ifCond .ne 5, 3) := by decide +kernel
theorem dX10_coversWith_8 : decode cX10_coversWith 8 = .ok (.iconst 0, 1) := by decide +kernel
theorem dX10_coversWith_9 : decode cX10_coversWith 9 = .ok (.ireturn, 1) := by decide +kernel
theorem dX10_coversWith_10 : decode cX10_coversWith 10 = .ok (.iconst 0, 1) := by decide +kernel
theorem dX10_coversWith_11 : decode cX10_coversWith 11 = .ok (.istore_n 3, 1) := by decide +kernel
theorem dX10_coversWith_12 : decode cX10_coversWith 12 = .ok (.iload_n 3, 1) := by decide +kernel
theorem dX10_coversWith_13 : decode cX10_coversWith 13 = .ok (.iload_n 2, 1) := by decide +kernel
theorem dX10_coversWith_14 : decode cX10_coversWith 14 = .ok (.if_icmp .ge 38, 3) := by decide +kernel
theorem dX10_coversWith_17 : decode cX10_coversWith 17 = .ok (.aload_n 0, 1) := by decide +kernel
theorem dX10_coversWith_18 : decode cX10_coversWith 18 = .ok (.iload_n 3, 1) := by decide +kernel
theorem dX10_coversWith_19 : decode cX10_coversWith 19 = .ok (.invokevirtual 56, 3) := by decide +kernel
theorem dX10_coversWith_22 : decode cX10_coversWith 22 = .ok (.lstore 4, 2) := by decide +kernel
theorem dX10_coversWith_24 : decode cX10_coversWith 24 = .ok (.lload 4, 2) := by decide +kernel
theorem dX10_coversWith_26 : decode cX10_coversWith 26 = .ok (.ldc2_w 54, 3) := by decide +kernel
theorem dX10_coversWith_29 : decode cX10_coversWith 29 = .ok (.lcmp, 1) := by decide +kernel
theorem dX10_coversWith_30 : decode cX10_coversWith 30 = .ok (.ifCond .eq 16, 3) := by decide +kernel
theorem dX10_coversWith_33 : decode cX10_coversWith 33 = .ok (.lload 4, 2) := by decide +kernel
theorem dX10_coversWith_35 : decode cX10_coversWith 35 = .ok (.aload_n 1, 1) := by decide +kernel
theorem dX10_coversWith_36 : decode cX10_coversWith 36 = .ok (.iload_n 3, 1) := by decide +kernel
theorem dX10_coversWith_37 : decode cX10_coversWith 37 = .ok (.invokevirtual 56, 3) := by decide +kernel
theorem dX10_coversWith_40 : decode cX10_coversWith 40 = .ok (.lcmp, 1) := by decide +kernel
theorem dX10_coversWith_41 : decode cX10_coversWith 41 = .ok (.ifCond .eq 5, 3) := by decide +kernel
theorem dX10_coversWith_44 : decode cX10_coversWith 44 = .ok (.iconst 0, 1) := by decide +kernel
theorem dX10_coversWith_45 : decode cX10_coversWith 45 = .ok (.ireturn, 1) := by decide +kernel
theorem dX10_coversWith_46 : decode cX10_coversWith 46 = .ok (.iinc 3 1, 3) := by decide +kernel
theorem dX10_coversWith_49 : decode cX10_coversWith 49 = .ok (.goto (-37), 3) := by decide +kernel
theorem dX10_coversWith_52 : decode cX10_coversWith 52 = .ok (.iconst 1, 1) := by decide +kernel
theorem dX10_coversWith_53 : decode cX10_coversWith 53 = .ok (.ireturn, 1) := by decide +kernel
theorem dX11_init_0 : decode cX11_init 0 = .ok (.aload_n 0, 1) := by decide +kernel
theorem dX11_init_1 : decode cX11_init 1 = .ok (.invokespecial 1, 3) := by decide +kernel
theorem dX11_init_4 : decode cX11_init 4 = .ok (.new 7, 3) := by decide +kernel
theorem dX11_init_7 : decode cX11_init 7 = .ok (.dup, 1) := by decide +kernel
theorem dX11_init_8 : decode cX11_init 8 = .ok (.iconst 0, 1) := by decide +kernel
theorem dX11_init_9 : decode cX11_init 9 = .ok (.newarray .char, 2) := by decide +kernel
theorem dX11_init_11 : decode cX11_init 11 = .ok (.iconst 0, 1) := by decide +kernel
theorem dX11_init_12 : decode cX11_init 12 = .ok (.invokespecial 9, 3) := by decide +kernel
theorem dX11_init_15 : decode cX11_init 15 = .ok (.astore_n 1, 1) := by decide +kernel
theorem dX11_init_16 : decode cX11_init 16 = .ok (.aload_n 0, 1) := by decide +kernel
theorem dX11_init_17 : decode cX11_init 17 = .ok (.bipush 30, 2) := by decide +kernel
theorem dX11_init_19 : decode cX11_init 19 = .ok (.newarray .char, 2) := by decide +kernel
theorem dX11_init_21 : decode cX11_init 21 = .ok (.putfield 14, 3) := by decide +kernel
theorem dX11_init_24 : decode cX11_init 24 = .ok (.aload_n 0, 1) := by decide +kernel
theorem dX11_init_25 : decode cX11_init 25 = .ok (.iconst (-1), 1) := by decide +kernel
theorem dX11_init_26 : decode cX11_init 26 = .ok (.putfield 18, 3) := by decide +kernel
theorem dX11_init_29 : decode cX11_init 29 = .ok (.aload_n 0, 1) := by decide +kernel
theorem dX11_init_30 : decode cX11_init 30 = .ok (.new 22, 3) := by decide +kernel
theorem dX11_init_33 : decode cX11_init 33 = .ok (.dup, 1) := by decide +kernel
theorem dX11_init_34 : decode cX11_init 34 = .ok (.aload_n 1, 1) := by decide +kernel
theorem dX11_init_35 : decode cX11_init 35 = .ok (.invokespecial 24, 3) := by decide +kernel
theorem dX11_init_38 : decode cX11_init 38 = .ok (.putfield 27, 3) := by decide +kernel
theorem dX11_init_41 : decode cX11_init 41 = .ok (.aload_n 0, 1) := by decide +kernel
theorem dX11_init_42 : decode cX11_init 42 = .ok (.new 31, 3) := by decide +kernel
theorem dX11_init_45 : decode cX11_init 45 = .ok (.dup, 1) := by decide +kernel
theorem dX11_init_46 : decode cX11_init 46 = .ok (.aload_n 1, 1) := by decide +kernel
theorem dX11_init_47 : decode cX11_init 47 = .ok (.invokespecial 33, 3) := by decide +kernel
theorem dX11_init_50 : decode cX11_init 50 = .ok (.putfield 34, 3) := by decide +kernel
theorem dX11_init_53 : decode cX11_init 53 = .ok (.aload_n 0, 1) := by decide +kernel
theorem dX11_init_54 : decode cX11_init 54 = .ok (.new 38, 3) := by decide +kernel
theorem dX11_init_57 : decode cX11_init 57 = .ok (.dup, 1) := by decide +kernel
theorem dX11_init_58 : decode cX11_init 58 = .ok (.aload_n 1, 1) := by decide +kernel
theorem dX11_init_59 : decode cX11_init 59 = .ok (.invokespecial 40, 3) := by decide +kernel
theorem dX11_init_62 : decode cX11_init 62 = .ok (.putfield 41, 3) := by decide +kernel
theorem dX11_init_65 : decode cX11_init 65 = .ok (.aload_n 0, 1) := by decide +kernel
theorem dX11_init_66 : decode cX11_init 66 = .ok (.new 38, 3) := by decide +kernel
theorem dX11_init_69 : decode cX11_init 69 = .ok (.dup, 1) := by decide +kernel
theorem dX11_init_70 : decode cX11_init 70 = .ok (.aload_n 1, 1) := by decide +kernel
theorem dX11_init_71 : decode cX11_init 71 = .ok (.invokespecial 40, 3) := by decide +kernel
theorem dX11_init_74 : decode cX11_init 74 = .ok (.putfield 45, 3) := by decide +kernel
theorem dX11_init_77 : decode cX11_init 77 = .ok (.return_, 1) := by decide +kernel
theorem dX11_append_0 : decode cX11_append 0 = .ok (.iconst 0, 1) := by decide +kernel
theorem dX11_append_1 : decode cX11_append 1 = .ok (.istore_n 2, 1) := by decide +kernel
theorem dX11_append_2 : decode cX11_append 2 = .ok (.bipush 24, 2) := by decide +kernel
theorem dX11_append_4 : decode cX11_append 4 = .ok (.istore_n 3, 1) := by decide +kernel
theorem dX11_append_5 : decode cX11_append 5 = .ok (.iload_n 3, 1) := by decide +kernel
theorem dX11_append_6 : decode cX11_append 6 = .ok (.ifCond .lt 48, 3) := by decide +kernel
theorem dX11_append_9 : decode cX11_append 9 = .ok (.iload_n 1, 1) := by decide +kernel
theorem dX11_append_10 : decode cX11_append 10 = .ok (.iload_n 3, 1) := by decide +kernel
theorem dX11_append_11 : decode cX11_append 11 = .ok (.iushr, 1) := by decide +kernel
theorem dX11_append_12 : decode cX11_append 12 = .ok (.sipush 255, 3) := by decide +kernel
theorem dX11_append_15 : decode cX11_append 15 = .ok (.iand, 1) := by decide +kernel
theorem dX11_append_16 : decode cX11_append 16 = .ok (.istore 4, 2) := by decide +kernel
theorem dX11_append_18 : decode cX11_append 18 = .ok (.iload 4, 2) := by decide +kernel
theorem dX11_append_20 : decode cX11_append 20 = .ok (.ifCond .eq 28, 3) := by decide +kernel
theorem dX11_append_23 : decode cX11_append 23 = .ok (.iload 4, 2) := by decide +kernel
theorem dX11_append_25 : decode cX11_append 25 = .ok (.bipush 33, 2) := by decide +kernel
theorem dX11_append_27 : decode cX11_append 27 = .ok (.if_icmp .lt 10, 3) := by decide +kernel
theorem dX11_append_30 : decode cX11_append 30 = .ok (.iload 4, 2) := by decide +kernel
theorem dX11_append_32 : decode cX11_append 32 = .ok (.bipush 126, 2) := by decide +kernel
theorem dX11_append_34 : decode cX11_append 34 = .ok (.if_icmp .le 11, 3) := by decide +kernel
theorem dX11_append_37 : decode cX11_append 37 = .ok (.new 48, 3) := by decide +kernel
theorem dX11_append_40 : decode cX11_append 40 = .ok (.dup, 1) := by decide +kernel
theorem dX11_append_41 : decode cX11_append 41 = .ok (.invokespecial 50, 3) := by decide +kernel
theorem dX11_append_44 : decode cX11_append 44 = .ok (.athrow, 1) := by decide +kernel
theorem dX11_append_45 : decode cX11_append 45 = .ok (.iinc 2 1, 3) := by decide +kernel
theorem dX11_append_48 : decode cX11_append 48 = .ok (.iinc 3 (-8), 3) := by decide +kernel
theorem dX11_append_51 : decode cX11_append 51 = .ok (.goto (-46), 3) := by decide +kernel
theorem dX11_append_54 : decode cX11_append 54 = .ok (.aload_n 0, 1) := by decide +kernel
theorem dX11_append_55 : decode cX11_append 55 = .ok (.getfield 51, 3) := by decide +kernel
theorem dX11_append_58 : decode cX11_append 58 = .ok (.iload_n 2, 1) := by decide +kernel
theorem dX11_append_59 : decode cX11_append 59 = .ok (.iadd, 1) := by decide +kernel
theorem dX11_append_60 : decode cX11_append 60 = .ok (.bipush 30, 2) := by decide +kernel
theorem dX11_append_62 : decode cX11_append 62 = .ok (.if_icmp .le 11, 3) := by decide +kernel
theorem dX11_append_65 : decode cX11_append 65 = .ok (.new 54, 3) := by decide +kernel
theorem dX11_append_68 : decode cX11_append 68 = .ok (.dup, 1) := by decide +kernel
theorem dX11_append_69 : decode cX11_append 69 = .ok (.invokespecial 56, 3) := by decide +kernel
theorem dX11_append_72 : decode cX11_append 72 = .ok (.athrow, 1) := by decide +kernel
theorem dX11_append_73 : decode cX11_append 73 = .ok (.bipush 24, 2) := by decide +kernel
theorem dX11_append_75 : decode cX11_append 75 = .ok (.istore_n 3, 1) := by decide +kernel
theorem dX11_append_76 : decode cX11_append 76 = .ok (.iload_n 3, 1) := by decide +kernel
theorem dX11_append_77 : decode cX11_append 77 = .ok (.ifCond .lt 64, 3) := by decide +kernel
theorem dX11_append_80 : decode cX11_append 80 = .ok (.iload_n 1, 1) := by decide +kernel
theorem dX11_append_81 : decode cX11_append 81 = .ok (.iload_n 3, 1) := by decide +kernel
theorem dX11_append_82 : decode cX11_append 82 = .ok (.iushr, 1) := by decide +kernel
theorem dX11_append_83 : decode cX11_append 83 = .ok (.sipush 255, 3) := by decide +kernel
theorem dX11_append_86 : decode cX11_append 86 = .ok (.iand, 1) := by decide +kernel
theorem dX11_append_87 : decode cX11_append 87 = .ok (.istore 4, 2) := by decide +kernel
theorem dX11_append_89 : decode cX11_append 89 = .ok (.iload 4, 2) := by decide +kernel
theorem dX11_append_91 : decode cX11_append 91 = .ok (.ifCond .eq 44, 3) := by decide +kernel
theorem dX11_append_94 : decode cX11_append 94 = .ok (.aload_n 0, 1) := by decide +kernel
theorem dX11_append_95 : decode cX11_append 95 = .ok (.getfield 51, 3) := by decide +kernel
theorem dX11_append_98 : decode cX11_append 98 = .ok (.ifCond .lt 37, 3) := by decide +kernel
theorem dX11_append_101 : decode cX11_append 101 = .ok (.aload_n 0, 1) := by decide +kernel
theorem dX11_append_102 : decode cX11_append 102 = .ok (.getfield 51, 3) := by decide +kernel
theorem dX11_append_105 : decode cX11_append 105 = .ok (.aload_n 0, 1) := by decide +kernel
theorem dX11_append_106 : decode cX11_append 106 = .ok (.getfield 14, 3) := by decide +kernel
theorem dX11_append_109 : decode cX11_append 109 = .ok (.arraylength, 1) := by decide +kernel
theorem dX11_append_110 : decode cX11_append 110 = .ok (.if_icmp .ge 25, 3) := by decide +kernel
theorem dX11_append_113 : decode cX11_append 113 = .ok (.aload_n 0, 1) := by decide +kernel
theorem dX11_append_114 : decode cX11_append 114 = .ok (.getfield 14, 3) := by decide +kernel
theorem dX11_append_117 : decode cX11_append 117 = .ok (.aload_n 0, 1) := by decide +kernel
theorem dX11_append_118 : decode cX11_append 118 = .ok (.getfield 51, 3) := by decide +kernel
theorem dX11_append_121 : decode cX11_append 121 = .ok (.iload 4, 2) := by decide +kernel
theorem dX11_append_123 : decode cX11_append 123 = .ok (.i2c, 1) := by decide +kernel
theorem dX11_append_124 : decode cX11_append 124 = .ok (.castore, 1) := by decide +kernel
theorem dX11_append_125 : decode cX11_append 125 = .ok (.aload_n 0, 1) := by decide +kernel
theorem dX11_append_126 : decode cX11_append 126 = .ok (.dup, 1) := by decide +kernel
theorem dX11_append_127 : decode cX11_append 127 = .ok (.getfield 51, 3) := by decide +kernel
theorem dX11_append_130 : decode cX11_append 130 = .ok (.iconst 1, 1) := by decide +kernel
theorem dX11_append_131 : decode cX11_append 131 = .ok (.iadd, 1) := by decide +kernel
theorem dX11_append_132 : decode cX11_append 132 = .ok (.putfield 51, 3) := by decide +kernel
theorem dX11_append_135 : decode cX11_append 135 = .ok (.iinc 3 (-8), 3) := by decide +kernel
theorem dX11_append_138 : decode cX11_append 138 = .ok (.goto (-62), 3) := by decide +kernel
theorem dX11_append_141 : decode cX11_append 141 = .ok (.aload_n 0, 1) := by decide +kernel
theorem dX11_append_142 : decode cX11_append 142 = .ok (.getfield 51, 3) := by decide +kernel
theorem dX11_append_145 : decode cX11_append 145 = .ok (.ireturn, 1) := by decide +kernel
theorem dX11_errorPosition_0 : decode cX11_errorPosition 0 = .ok (.aload_n 0, 1) := by decide +kernel
theorem dX11_errorPosition_1 : decode cX11_errorPosition 1 = .ok (.getfield 18, 3) := by decide +kernel
theorem dX11_errorPosition_4 : decode cX11_errorPosition 4 = .ok (.ireturn, 1) := by decide +kernel
theorem dX11_setOption_0 : decode cX11_setOption 0 = .ok (.iload_n 1, 1) := by decide +kernel
theorem dX11_setOption_1 : decode cX11_setOption 1 = .ok (.ifCond .lt 11, 3) := by decide +kernel
theorem dX11_setOption_4 : decode cX11_setOption 4 = .ok (.iload_n 1, 1) := by decide +kernel
theorem dX11_setOption_5 : decode cX11_setOption 5 = .ok (.getstatic 57, 3) := by decide +kernel
theorem dX11_setOption_8 : decode cX11_setOption 8 = .ok (.arraylength, 1) := by decide +kernel
theorem dX11_setOption_9 : decode cX11_setOption 9 = .ok (.if_icmp .lt 11, 3) := by decide +kernel
theorem dX11_setOption_12 : decode cX11_setOption 12 = .ok (.new 61, 3) := by decide +kernel
theorem dX11_setOption_15 : decode cX11_setOption 15 = .ok (.dup, 1) := by decide +kernel
theorem dX11_setOption_16 : decode cX11_setOption 16 = .ok (.invokespecial 63, 3) := by decide +kernel
theorem dX11_setOption_19 : decode cX11_setOption 19 = .ok (.athrow, 1) := by decide +kernel
theorem dX11_setOption_20 : decode cX11_setOption 20 = .ok (.iload_n 2, 1) := by decide +kernel
theorem dX11_setOption_21 : decode cX11_setOption 21 = .ok (.getstatic 64, 3) := by decide +kernel
theorem dX11_setOption_24 : decode cX11_setOption 24 = .ok (.iload_n 1, 1) := by decide +kernel
theorem dX11_setOption_25 : decode cX11_setOption 25 = .ok (.iaload, 1) := by decide +kernel
theorem dX11_setOption_26 : decode cX11_setOption 26 = .ok (.if_icmp .lt 12, 3) := by decide +kernel
theorem dX11_setOption_29 : decode cX11_setOption 29 = .ok (.iload_n 2, 1) := by decide +kernel
theorem dX11_setOption_30 : decode cX11_setOption 30 = .ok (.getstatic 67, 3) := by decide +kernel
theorem dX11_setOption_33 : decode cX11_setOption 33 = .ok (.iload_n 1, 1) := by decide +kernel
theorem dX11_setOption_34 : decode cX11_setOption 34 = .ok (.iaload, 1) := by decide +kernel
theorem dX11_setOption_35 : decode cX11_setOption 35 = .ok (.if_icmp .le 11, 3) := by decide +kernel
theorem dX11_setOption_38 : decode cX11_setOption 38 = .ok (.new 48, 3) := by decide +kernel
theorem dX11_setOption_41 : decode cX11_setOption 41 = .ok (.dup, 1) := by decide +kernel
theorem dX11_setOption_42 : decode cX11_setOption 42 = .ok (.invokespecial 50, 3) := by decide +kernel
theorem dX11_setOption_45 : decode cX11_setOption 45 = .ok (.athrow, 1) := by decide +kernel
theorem dX11_setOption_46 : decode cX11_setOption 46 = .ok (.aload_n 0, 1) := by decide +kernel
theorem dX11_setOption_47 : decode cX11_setOption 47 = .ok (.getfield 41, 3) := by decide +kernel
theorem dX11_setOption_50 : decode cX11_setOption 50 = .ok (.getfield 70, 3) := by decide +kernel
theorem dX11_setOption_53 : decode cX11_setOption 53 = .ok (.iload_n 1, 1) := by decide +kernel
theorem dX11_setOption_54 : decode cX11_setOption 54 = .ok (.iaload, 1) := by decide +kernel
theorem dX11_setOption_55 : decode cX11_setOption 55 = .ok (.istore_n 3, 1) := by decide +kernel
theorem dX11_setOption_56 : decode cX11_setOption 56 = .ok (.aload_n 0, 1) := by decide +kernel
theorem dX11_setOption_57 : decode cX11_setOption 57 = .ok (.getfield 41, 3) := by decide +kernel
theorem dX11_setOption_60 : decode cX11_setOption 60 = .ok (.getfield 70, 3) := by decide +kernel
theorem dX11_setOption_63 : decode cX11_setOption 63 = .ok (.iload_n 1, 1) := by decide +kernel
theorem dX11_setOption_64 : decode cX11_setOption 64 = .ok (.iload_n 2, 1) := by decide +kernel
theorem dX11_setOption_65 : decode cX11_setOption 65 = .ok (.iastore, 1) := by decide +kernel
theorem dX11_setOption_66 : decode cX11_setOption 66 = .ok (.iload_n 3, 1) := by decide +kernel
theorem dX11_setOption_67 : decode cX11_setOption 67 = .ok (.ireturn, 1) := by decide +kernel
theorem dX11_connect_0 : decode cX11_connect 0 = .ok (.iload_n 1, 1) := by decide +kernel
theorem dX11_connect_1 : decode cX11_connect 1 = .ok (.invokestatic 73, 3) := by decide +kernel
theorem dX11_connect_4 : decode cX11_connect 4 = .ok (.aload_n 0, 1) := by decide +kernel
theorem dX11_connect_5 : decode cX11_connect 5 = .ok (.getfield 41, 3) := by decide +kernel
theorem dX11_connect_8 : decode cX11_connect 8 = .ok (.getfield 77, 3) := by decide +kernel
theorem dX11_connect_11 : decode cX11_connect 11 = .ok (.iload_n 1, 1) := by decide +kernel
theorem dX11_connect_12 : decode cX11_connect 12 = .ok (.aaload, 1) := by decide +kernel
theorem dX11_connect_13 : decode cX11_connect 13 = .ok (.astore_n 3, 1) := by decide +kernel
theorem dX11_connect_14 : decode cX11_connect 14 = .ok (.aload_n 3, 1) := by decide +kernel
theorem dX11_connect_15 : decode cX11_connect 15 = .ok (.getfield 81, 3) := by decide +kernel
theorem dX11_connect_18 : decode cX11_connect 18 = .ok (.ifCond .eq 25, 3) := by decide +kernel
theorem dX11_connect_21 : decode cX11_connect 21 = .ok (.aload_n 0, 1) := by decide +kernel
theorem dX11_connect_22 : decode cX11_connect 22 = .ok (.getfield 41, 3) := by decide +kernel
theorem dX11_connect_25 : decode cX11_connect 25 = .ok (.getfield 87, 3) := by decide +kernel
theorem dX11_connect_28 : decode cX11_connect 28 = .ok (.iconst 5, 1) := by decide +kernel
theorem dX11_connect_29 : decode cX11_connect 29 = .ok (.dup2, 1) := by decide +kernel
theorem dX11_connect_30 : decode cX11_connect 30 = .ok (.iaload, 1) := by decide +kernel
theorem dX11_connect_31 : decode cX11_connect 31 = .ok (.iconst 1, 1) := by decide +kernel
theorem dX11_connect_32 : decode cX11_connect 32 = .ok (.iadd, 1) := by decide +kernel
theorem dX11_connect_33 : decode cX11_connect 33 = .ok (.iastore, 1) := by decide +kernel
theorem dX11_connect_34 : decode cX11_connect 34 = .ok (.aload_n 0, 1) := by decide +kernel
theorem dX11_connect_35 : decode cX11_connect 35 = .ok (.getfield 41, 3) := by decide +kernel
theorem dX11_connect_38 : decode cX11_connect 38 = .ok (.iload_n 1, 1) := by decide +kernel
theorem dX11_connect_39 : decode cX11_connect 39 = .ok (.invokevirtual 90, 3) := by decide +kernel
theorem dX11_connect_42 : decode cX11_connect 42 = .ok (.pop, 1) := by decide +kernel
theorem dX11_connect_43 : decode cX11_connect 43 = .ok (.iload_n 2, 1) := by decide +kernel
theorem dX11_connect_44 : decode cX11_connect 44 = .ok (.ifCond .eq 21, 3) := by decide +kernel
theorem dX11_connect_47 : decode cX11_connect 47 = .ok (.aload_n 3, 1) := by decide +kernel
theorem dX11_connect_48 : decode cX11_connect 48 = .ok (.getfield 94, 3) := by decide +kernel
theorem dX11_connect_51 : decode cX11_connect 51 = .ok (.getfield 98, 3) := by decide +kernel
theorem dX11_connect_54 : decode cX11_connect 54 = .ok (.ifCond .eq 11, 3) := by decide +kernel
theorem dX11_connect_57 : decode cX11_connect 57 = .ok (.aload_n 0, 1) := by decide +kernel
theorem dX11_connect_58 : decode cX11_connect 58 = .ok (.getfield 41, 3) := by decide +kernel
theorem dX11_connect_61 : decode cX11_connect 61 = .ok (.iload_n 1, 1) := by decide +kernel
theorem dX11_connect_62 : decode cX11_connect 62 = .ok (.invokevirtual 103, 3) := by decide +kernel
theorem dX11_connect_65 : decode cX11_connect 65 = .ok (.aload_n 3, 1) := by decide +kernel
theorem dX11_connect_66 : decode cX11_connect 66 = .ok (.iconst 1, 1) := by decide +kernel
theorem dX11_connect_67 : decode cX11_connect 67 = .ok (.putfield 81, 3) := by decide +kernel
theorem dX11_connect_70 : decode cX11_connect 70 = .ok (.aload_n 3, 1) := by decide +kernel
theorem dX11_connect_71 : decode cX11_connect 71 = .ok (.getfield 94, 3) := by decide +kernel
theorem dX11_connect_74 : decode cX11_connect 74 = .ok (.getfield 98, 3) := by decide +kernel
theorem dX11_connect_77 : decode cX11_connect 77 = .ok (.ifCond .ne 13, 3) := by decide +kernel
theorem dX11_connect_80 : decode cX11_connect 80 = .ok (.aload_n 3, 1) := by decide +kernel
theorem dX11_connect_81 : decode cX11_connect 81 = .ok (.getfield 94, 3) := by decide +kernel
theorem dX11_connect_84 : decode cX11_connect 84 = .ok (.iload_n 2, 1) := by decide +kernel
theorem dX11_connect_85 : decode cX11_connect 85 = .ok (.invokevirtual 106, 3) := by decide +kernel
theorem dX11_connect_88 : decode cX11_connect 88 = .ok (.iconst 0, 1) := by decide +kernel
theorem dX11_connect_89 : decode cX11_connect 89 = .ok (.ireturn, 1) := by decide +kernel
theorem dX11_connect_90 : decode cX11_connect 90 = .ok (.aload_n 0, 1) := by decide +kernel
theorem dX11_connect_91 : decode cX11_connect 91 = .ok (.getfield 41, 3) := by decide +kernel
theorem dX11_connect_94 : decode cX11_connect 94 = .ok (.aload_n 3, 1) := by decide +kernel
theorem dX11_connect_95 : decode cX11_connect 95 = .ok (.invokevirtual 110, 3) := by decide +kernel
theorem dX11_connect_98 : decode cX11_connect 98 = .ok (.iconst 1, 1) := by decide +kernel
theorem dX11_connect_99 : decode cX11_connect 99 = .ok (.ireturn, 1) := by decide +kernel
theorem dX11_disconnect_0 : decode cX11_disconnect 0 = .ok (.iload_n 1, 1) := by decide +kernel
theorem dX11_disconnect_1 : decode cX11_disconnect 1 = .ok (.invokestatic 73, 3) := by decide +kernel
theorem dX11_disconnect_4 : decode cX11_disconnect 4 = .ok (.aload_n 0, 1) := by decide +kernel
theorem dX11_disconnect_5 : decode cX11_disconnect 5 = .ok (.iload_n 1, 1) := by decide +kernel
theorem dX11_disconnect_6 : decode cX11_disconnect 6 = .ok (.invokevirtual 114, 3) := by decide +kernel
theorem dX11_disconnect_9 : decode cX11_disconnect 9 = .ok (.aload_n 0, 1) := by decide +kernel
theorem dX11_disconnect_10 : decode cX11_disconnect 10 = .ok (.getfield 41, 3) := by decide +kernel
theorem dX11_disconnect_13 : decode cX11_disconnect 13 = .ok (.getfield 77, 3) := by decide +kernel
theorem dX11_disconnect_16 : decode cX11_disconnect 16 = .ok (.iload_n 1, 1) := by decide +kernel
theorem dX11_disconnect_17 : decode cX11_disconnect 17 = .ok (.aaload, 1) := by decide +kernel
theorem dX11_disconnect_18 : decode cX11_disconnect 18 = .ok (.astore_n 2, 1) := by decide +kernel
theorem dX11_disconnect_19 : decode cX11_disconnect 19 = .ok (.aload_n 2, 1) := by decide +kernel
theorem dX11_disconnect_20 : decode cX11_disconnect 20 = .ok (.iconst 0, 1) := by decide +kernel
theorem dX11_disconnect_21 : decode cX11_disconnect 21 = .ok (.putfield 117, 3) := by decide +kernel
theorem dX11_disconnect_24 : decode cX11_disconnect 24 = .ok (.aload_n 0, 1) := by decide +kernel
theorem dX11_disconnect_25 : decode cX11_disconnect 25 = .ok (.getfield 41, 3) := by decide +kernel
theorem dX11_disconnect_28 : decode cX11_disconnect 28 = .ok (.iload_n 1, 1) := by decide +kernel
theorem dX11_disconnect_29 : decode cX11_disconnect 29 = .ok (.invokevirtual 120, 3) := by decide +kernel
theorem dX11_disconnect_32 : decode cX11_disconnect 32 = .ok (.aload_n 2, 1) := by decide +kernel
theorem dX11_disconnect_33 : decode cX11_disconnect 33 = .ok (.getfield 94, 3) := by decide +kernel
theorem dX11_disconnect_36 : decode cX11_disconnect 36 = .ok (.getfield 98, 3) := by decide +kernel
theorem dX11_disconnect_39 : decode cX11_disconnect 39 = .ok (.ifCond .eq 7, 3) := by decide +kernel
theorem dX11_disconnect_42 : decode cX11_disconnect 42 = .ok (.iconst 1, 1) := by decide +kernel
theorem dX11_disconnect_43 : decode cX11_disconnect 43 = .ok (.goto 4, 3) := by decide +kernel
theorem dX11_disconnect_46 : decode cX11_disconnect 46 = .ok (.iconst 0, 1) := by decide +kernel
theorem dX11_disconnect_47 : decode cX11_disconnect 47 = .ok (.ireturn, 1) := by decide +kernel
theorem dX11_breakConnection_0 : decode cX11_breakConnection 0 = .ok (.iload_n 1, 1) := by decide +kernel
theorem dX11_breakConnection_1 : decode cX11_breakConnection 1 = .ok (.invokestatic 73, 3) := by decide +kernel
theorem dX11_breakConnection_4 : decode cX11_breakConnection 4 = .ok (.aload_n 0, 1) := by decide +kernel
theorem dX11_breakConnection_5 : decode cX11_breakConnection 5 = .ok (.iload_n 1, 1) := by decide +kernel
theorem dX11_breakConnection_6 : decode cX11_breakConnection 6 = .ok (.invokevirtual 114, 3) := by decide +kernel
theorem dX11_breakConnection_9 : decode cX11_breakConnection 9 = .ok (.aload_n 0, 1) := by decide +kernel
theorem dX11_breakConnection_10 : decode cX11_breakConnection 10 = .ok (.getfield 41, 3) := by decide +kernel
theorem dX11_breakConnection_13 : decode cX11_breakConnection 13 = .ok (.iload_n 1, 1) := by decide +kernel
theorem dX11_breakConnection_14 : decode cX11_breakConnection 14 = .ok (.invokevirtual 90, 3) := by decide +kernel
theorem dX11_breakConnection_17 : decode cX11_breakConnection 17 = .ok (.ireturn, 1) := by decide +kernel
theorem dX11_setWill_0 : decode cX11_setWill 0 = .ok (.aload_n 0, 1) := by decide +kernel
theorem dX11_setWill_1 : decode cX11_setWill 1 = .ok (.invokevirtual 123, 3) := by decide +kernel
theorem dX11_setWill_4 : decode cX11_setWill 4 = .ok (.istore 5, 2) := by decide +kernel
theorem dX11_setWill_6 : decode cX11_setWill 6 = .ok (.iload_n 1, 1) := by decide +kernel
theorem dX11_setWill_7 : decode cX11_setWill 7 = .ok (.invokestatic 73, 3) := by decide +kernel
theorem dX11_setWill_10 : decode cX11_setWill 10 = .ok (.aload_n 0, 1) := by decide +kernel
theorem dX11_setWill_11 : decode cX11_setWill 11 = .ok (.iload 5, 2) := by decide +kernel
theorem dX11_setWill_13 : decode cX11_setWill 13 = .ok (.invokevirtual 127, 3) := by decide +kernel
theorem dX11_setWill_16 : decode cX11_setWill 16 = .ok (.astore 6, 2) := by decide +kernel
theorem dX11_setWill_18 : decode cX11_setWill 18 = .ok (.iload_n 2, 1) := by decide +kernel
theorem dX11_setWill_19 : decode cX11_setWill 19 = .ok (.iconst 0, 1) := by decide +kernel
theorem dX11_setWill_20 : decode cX11_setWill 20 = .ok (.iconst 2, 1) := by decide +kernel
theorem dX11_setWill_21 : decode cX11_setWill 21 = .ok (.invokestatic 131, 3) := by decide +kernel
theorem dX11_setWill_24 : decode cX11_setWill 24 = .ok (.iload 4, 2) := by decide +kernel
theorem dX11_setWill_26 : decode cX11_setWill 26 = .ok (.iconst 0, 1) := by decide +kernel
theorem dX11_setWill_27 : decode cX11_setWill 27 = .ok (.sipush 9999, 3) := by decide +kernel
theorem dX11_setWill_30 : decode cX11_setWill 30 = .ok (.invokestatic 131, 3) := by decide +kernel
theorem dX11_setWill_33 : decode cX11_setWill 33 = .ok (.aload_n 0, 1) := by decide +kernel
theorem dX11_setWill_34 : decode cX11_setWill 34 = .ok (.iload_n 1, 1) := by decide +kernel
theorem dX11_setWill_35 : decode cX11_setWill 35 = .ok (.invokevirtual 114, 3) := by decide +kernel
theorem dX11_setWill_38 : decode cX11_setWill 38 = .ok (.aload_n 0, 1) := by decide +kernel
theorem dX11_setWill_39 : decode cX11_setWill 39 = .ok (.getfield 41, 3) := by decide +kernel
theorem dX11_setWill_42 : decode cX11_setWill 42 = .ok (.getfield 77, 3) := by decide +kernel
theorem dX11_setWill_45 : decode cX11_setWill 45 = .ok (.iload_n 1, 1) := by decide +kernel
theorem dX11_setWill_46 : decode cX11_setWill 46 = .ok (.aaload, 1) := by decide +kernel
theorem dX11_setWill_47 : decode cX11_setWill 47 = .ok (.astore 7, 2) := by decide +kernel
theorem dX11_setWill_49 : decode cX11_setWill 49 = .ok (.aload 7, 2) := by decide +kernel
theorem dX11_setWill_51 : decode cX11_setWill 51 = .ok (.getfield 117, 3) := by decide +kernel
theorem dX11_setWill_54 : decode cX11_setWill 54 = .ok (.istore 8, 2) := by decide +kernel
theorem dX11_setWill_56 : decode cX11_setWill 56 = .ok (.aload 7, 2) := by decide +kernel
theorem dX11_setWill_58 : decode cX11_setWill 58 = .ok (.iconst 1, 1) := by decide +kernel
theorem dX11_setWill_59 : decode cX11_setWill 59 = .ok (.putfield 117, 3) := by decide +kernel
theorem dX11_setWill_62 : decode cX11_setWill 62 = .ok (.aload 7, 2) := by decide +kernel
theorem dX11_setWill_64 : decode cX11_setWill 64 = .ok (.iload_n 3, 1) := by decide +kernel
theorem dX11_setWill_65 : decode cX11_setWill 65 = .ok (.putfield 135, 3) := by decide +kernel
theorem dX11_setWill_68 : decode cX11_setWill 68 = .ok (.aload 7, 2) := by decide +kernel
theorem dX11_setWill_70 : decode cX11_setWill 70 = .ok (.getfield 138, 3) := by decide +kernel
theorem dX11_setWill_73 : decode cX11_setWill 73 = .ok (.aload 6, 2) := by decide +kernel
theorem dX11_setWill_75 : decode cX11_setWill 75 = .ok (.iload_n 2, 1) := by decide +kernel
theorem dX11_setWill_76 : decode cX11_setWill 76 = .ok (.iload 4, 2) := by decide +kernel
theorem dX11_setWill_78 : decode cX11_setWill 78 = .ok (.invokevirtual 141, 3) := by decide +kernel
theorem dX11_setWill_81 : decode cX11_setWill 81 = .ok (.iload 8, 2) := by decide +kernel
theorem dX11_setWill_83 : decode cX11_setWill 83 = .ok (.ifCond .eq 7, 3) := by decide +kernel
theorem dX11_setWill_86 : decode cX11_setWill 86 = .ok (.iconst 1, 1) := by decide +kernel
theorem dX11_setWill_87 : decode cX11_setWill 87 = .ok (.goto 4, 3) := by decide +kernel
theorem dX11_setWill_90 : decode cX11_setWill 90 = .ok (.iconst 0, 1) := by decide +kernel
theorem dX11_setWill_91 : decode cX11_setWill 91 = .ok (.ireturn, 1) := by decide +kernel
theorem dX11_sessionState_0 : decode cX11_sessionState 0 = .ok (.iload_n 1, 1) := by decide +kernel
theorem dX11_sessionState_1 : decode cX11_sessionState 1 = .ok (.invokestatic 73, 3) := by decide +kernel
theorem dX11_sessionState_4 : decode cX11_sessionState 4 = .ok (.aload_n 0, 1) := by decide +kernel
theorem dX11_sessionState_5 : decode cX11_sessionState 5 = .ok (.getfield 41, 3) := by decide +kernel
theorem dX11_sessionState_8 : decode cX11_sessionState 8 = .ok (.getfield 77, 3) := by decide +kernel
theorem dX11_sessionState_11 : decode cX11_sessionState 11 = .ok (.iload_n 1, 1) := by decide +kernel
theorem dX11_sessionState_12 : decode cX11_sessionState 12 = .ok (.aaload, 1) := by decide +kernel
theorem dX11_sessionState_13 : decode cX11_sessionState 13 = .ok (.astore_n 2, 1) := by decide +kernel
theorem dX11_sessionState_14 : decode cX11_sessionState 14 = .ok (.aload_n 2, 1) := by decide +kernel
theorem dX11_sessionState_15 : decode cX11_sessionState 15 = .ok (.getfield 94, 3) := by decide +kernel
theorem dX11_sessionState_18 : decode cX11_sessionState 18 = .ok (.getfield 98, 3) := by decide +kernel
theorem dX11_sessionState_21 : decode cX11_sessionState 21 = .ok (.ifCond .ne 5, 3) := by decide +kernel
theorem dX11_sessionState_24 : decode cX11_sessionState 24 = .ok (.iconst 0, 1) := by decide +kernel
theorem dX11_sessionState_25 : decode cX11_sessionState 25 = .ok (.ireturn, 1) := by decide +kernel
theorem dX11_sessionState_26 : decode cX11_sessionState 26 = .ok (.aload_n 2, 1) := by decide +kernel
theorem dX11_sessionState_27 : decode cX11_sessionState 27 = .ok (.getfield 81, 3) := by decide +kernel
theorem dX11_sessionState_30 : decode cX11_sessionState 30 = .ok (.ifCond .ne 5, 3) := by decide +kernel
theorem dX11_sessionState_33 : decode cX11_sessionState 33 = .ok (.iconst 1, 1) := by decide +kernel
theorem dX11_sessionState_34 : decode cX11_sessionState 34 = .ok (.ireturn, 1) := by decide +kernel
theorem dX11_sessionState_35 : decode cX11_sessionState 35 = .ok (.aload_n 2, 1) := by decide +kernel
theorem dX11_sessionState_36 : decode cX11_sessionState 36 = .ok (.getfield 94, 3) := by decide +kernel
theorem dX11_sessionState_39 : decode cX11_sessionState 39 = .ok (.getfield 145, 3) := by decide +kernel
theorem dX11_sessionState_42 : decode cX11_sessionState 42 = .ok (.ifCond .eq 7, 3) := by decide +kernel
theorem dX11_sessionState_45 : decode cX11_sessionState 45 = .ok (.iconst 3, 1) := by decide +kernel
theorem dX11_sessionState_46 : decode cX11_sessionState 46 = .ok (.goto 4, 3) := by decide +kernel
theorem dX11_sessionState_49 : decode cX11_sessionState 49 = .ok (.iconst 2, 1) := by decide +kernel
theorem dX11_sessionState_50 : decode cX11_sessionState 50 = .ok (.ireturn, 1) := by decide +kernel
theorem dX11_subscribe_0 : decode cX11_subscribe 0 = .ok (.aload_n 0, 1) := by decide +kernel
theorem dX11_subscribe_1 : decode cX11_subscribe 1 = .ok (.invokevirtual 123, 3) := by decide +kernel
theorem dX11_subscribe_4 : decode cX11_subscribe 4 = .ok (.istore 5, 2) := by decide +kernel
theorem dX11_subscribe_6 : decode cX11_subscribe 6 = .ok (.iload_n 1, 1) := by decide +kernel
theorem dX11_subscribe_7 : decode cX11_subscribe 7 = .ok (.invokestatic 73, 3) := by decide +kernel
theorem dX11_subscribe_10 : decode cX11_subscribe 10 = .ok (.aload_n 0, 1) := by decide +kernel
theorem dX11_subscribe_11 : decode cX11_subscribe 11 = .ok (.iload 5, 2) := by decide +kernel
theorem dX11_subscribe_13 : decode cX11_subscribe 13 = .ok (.invokevirtual 148, 3) := by decide +kernel
theorem dX11_subscribe_16 : decode cX11_subscribe 16 = .ok (.astore 6, 2) := by decide +kernel
theorem dX11_subscribe_18 : decode cX11_subscribe 18 = .ok (.iload_n 2, 1) := by decide +kernel
theorem dX11_subscribe_19 : decode cX11_subscribe 19 = .ok (.iconst 0, 1) := by decide +kernel
theorem dX11_subscribe_20 : decode cX11_subscribe 20 = .ok (.iconst 2, 1) := by decide +kernel
theorem dX11_subscribe_21 : decode cX11_subscribe 21 = .ok (.invokestatic 131, 3) := by decide +kernel
theorem dX11_subscribe_24 : decode cX11_subscribe 24 = .ok (.iload_n 3, 1) := by decide +kernel
theorem dX11_subscribe_25 : decode cX11_subscribe 25 = .ok (.iconst 0, 1) := by decide +kernel
theorem dX11_subscribe_26 : decode cX11_subscribe 26 = .ok (.iconst 3, 1) := by decide +kernel
theorem dX11_subscribe_27 : decode cX11_subscribe 27 = .ok (.invokestatic 131, 3) := by decide +kernel
theorem dX11_subscribe_30 : decode cX11_subscribe 30 = .ok (.iload 4, 2) := by decide +kernel
theorem dX11_subscribe_32 : decode cX11_subscribe 32 = .ok (.iconst 0, 1) := by decide +kernel
theorem dX11_subscribe_33 : decode cX11_subscribe 33 = .ok (.bipush 7, 2) := by decide +kernel
theorem dX11_subscribe_35 : decode cX11_subscribe 35 = .ok (.invokestatic 131, 3) := by decide +kernel
theorem dX11_subscribe_38 : decode cX11_subscribe 38 = .ok (.iload_n 3, 1) := by decide +kernel
theorem dX11_subscribe_39 : decode cX11_subscribe 39 = .ok (.ifCond .eq 18, 3) := by decide +kernel
theorem dX11_subscribe_42 : decode cX11_subscribe 42 = .ok (.iload 4, 2) := by decide +kernel
theorem dX11_subscribe_44 : decode cX11_subscribe 44 = .ok (.iconst 1, 1) := by decide +kernel
theorem dX11_subscribe_45 : decode cX11_subscribe 45 = .ok (.iand, 1) := by decide +kernel
theorem dX11_subscribe_46 : decode cX11_subscribe 46 = .ok (.ifCond .eq 11, 3) := by decide +kernel
theorem dX11_subscribe_49 : decode cX11_subscribe 49 = .ok (.new 48, 3) := by decide +kernel
theorem dX11_subscribe_52 : decode cX11_subscribe 52 = .ok (.dup, 1) := by decide +kernel
theorem dX11_subscribe_53 : decode cX11_subscribe 53 = .ok (.invokespecial 50, 3) := by decide +kernel
theorem dX11_subscribe_56 : decode cX11_subscribe 56 = .ok (.athrow, 1) := by decide +kernel
theorem dX11_subscribe_57 : decode cX11_subscribe 57 = .ok (.aload_n 0, 1) := by decide +kernel
theorem dX11_subscribe_58 : decode cX11_subscribe 58 = .ok (.iload_n 1, 1) := by decide +kernel
theorem dX11_subscribe_59 : decode cX11_subscribe 59 = .ok (.invokevirtual 114, 3) := by decide +kernel
theorem dX11_subscribe_62 : decode cX11_subscribe 62 = .ok (.aload_n 0, 1) := by decide +kernel
theorem dX11_subscribe_63 : decode cX11_subscribe 63 = .ok (.getfield 41, 3) := by decide +kernel
theorem dX11_subscribe_66 : decode cX11_subscribe 66 = .ok (.getfield 77, 3) := by decide +kernel
theorem dX11_subscribe_69 : decode cX11_subscribe 69 = .ok (.iload_n 1, 1) := by decide +kernel
theorem dX11_subscribe_70 : decode cX11_subscribe 70 = .ok (.aaload, 1) := by decide +kernel
theorem dX11_subscribe_71 : decode cX11_subscribe 71 = .ok (.getfield 94, 3) := by decide +kernel
theorem dX11_subscribe_74 : decode cX11_subscribe 74 = .ok (.astore 7, 2) := by decide +kernel
theorem dX11_subscribe_76 : decode cX11_subscribe 76 = .ok (.aload 7, 2) := by decide +kernel
theorem dX11_subscribe_78 : decode cX11_subscribe 78 = .ok (.aload 6, 2) := by decide +kernel
theorem dX11_subscribe_80 : decode cX11_subscribe 80 = .ok (.iload_n 3, 1) := by decide +kernel
theorem dX11_subscribe_81 : decode cX11_subscribe 81 = .ok (.invokevirtual 151, 3) := by decide +kernel
theorem dX11_subscribe_84 : decode cX11_subscribe 84 = .ok (.istore 8, 2) := by decide +kernel
theorem dX11_subscribe_86 : decode cX11_subscribe 86 = .ok (.iload 8, 2) := by decide +kernel
theorem dX11_subscribe_88 : decode cX11_subscribe 88 = .ok (.ifCond .ge 7, 3) := by decide +kernel
theorem dX11_subscribe_91 : decode cX11_subscribe 91 = .ok (.iconst 1, 1) := by decide +kernel
theorem dX11_subscribe_92 : decode cX11_subscribe 92 = .ok (.goto 4, 3) := by decide +kernel
theorem dX11_subscribe_95 : decode cX11_subscribe 95 = .ok (.iconst 0, 1) := by decide +kernel
theorem dX11_subscribe_96 : decode cX11_subscribe 96 = .ok (.istore 9, 2) := by decide +kernel
theorem dX11_subscribe_98 : decode cX11_subscribe 98 = .ok (.iload 9, 2) := by decide +kernel
theorem dX11_subscribe_100 : decode cX11_subscribe 100 = .ok (.ifCond .eq 21, 3) := by decide +kernel
theorem dX11_subscribe_103 : decode cX11_subscribe 103 = .ok (.aload 7, 2) := by decide +kernel
theorem dX11_subscribe_105 : decode cX11_subscribe 105 = .ok (.getfield 155, 3) := by decide +kernel
theorem dX11_subscribe_108 : decode cX11_subscribe 108 = .ok (.bipush 6, 2) := by decide +kernel
theorem dX11_subscribe_110 : decode cX11_subscribe 110 = .ok (.if_icmp .lt 11, 3) := by decide +kernel
theorem dX11_subscribe_113 : decode cX11_subscribe 113 = .ok (.new 54, 3) := by decide +kernel
theorem dX11_subscribe_116 : decode cX11_subscribe 116 = .ok (.dup, 1) := by decide +kernel
theorem dX11_subscribe_117 : decode cX11_subscribe 117 = .ok (.invokespecial 56, 3) := by decide +kernel
theorem dX11_subscribe_120 : decode cX11_subscribe 120 = .ok (.athrow, 1) := by decide +kernel
theorem dX11_subscribe_121 : decode cX11_subscribe 121 = .ok (.iload 9, 2) := by decide +kernel
theorem dX11_subscribe_123 : decode cX11_subscribe 123 = .ok (.ifCond .eq 23, 3) := by decide +kernel
theorem dX11_subscribe_126 : decode cX11_subscribe 126 = .ok (.aload_n 0, 1) := by decide +kernel
theorem dX11_subscribe_127 : decode cX11_subscribe 127 = .ok (.getfield 41, 3) := by decide +kernel
theorem dX11_subscribe_130 : decode cX11_subscribe 130 = .ok (.iload_n 1, 1) := by decide +kernel
theorem dX11_subscribe_131 : decode cX11_subscribe 131 = .ok (.aload 6, 2) := by decide +kernel
theorem dX11_subscribe_133 : decode cX11_subscribe 133 = .ok (.iload_n 3, 1) := by decide +kernel
theorem dX11_subscribe_134 : decode cX11_subscribe 134 = .ok (.invokevirtual 158, 3) := by decide +kernel
theorem dX11_subscribe_137 : decode cX11_subscribe 137 = .ok (.aload 7, 2) := by decide +kernel
theorem dX11_subscribe_139 : decode cX11_subscribe 139 = .ok (.getfield 155, 3) := by decide +kernel
theorem dX11_subscribe_142 : decode cX11_subscribe 142 = .ok (.iconst 1, 1) := by decide +kernel
theorem dX11_subscribe_143 : decode cX11_subscribe 143 = .ok (.isub, 1) := by decide +kernel
theorem dX11_subscribe_144 : decode cX11_subscribe 144 = .ok (.istore 8, 2) := by decide +kernel
theorem dX11_subscribe_146 : decode cX11_subscribe 146 = .ok (.iload 8, 2) := by decide +kernel
theorem dX11_subscribe_148 : decode cX11_subscribe 148 = .ok (.ifCond .lt 39, 3) := by decide +kernel
theorem dX11_subscribe_151 : decode cX11_subscribe 151 = .ok (.iload 8, 2) := by decide +kernel
theorem dX11_subscribe_153 : decode cX11_subscribe 153 = .ok (.aload 7, 2) := by decide +kernel
theorem dX11_subscribe_155 : decode cX11_subscribe 155 = .ok (.getfield 162, 3) := by decide +kernel
theorem dX11_subscribe_158 : decode cX11_subscribe 158 = .ok (.arraylength, 1) := by decide +kernel
theorem dX11_subscribe_159 : decode cX11_subscribe 159 = .ok (.if_icmp .ge 28, 3) := by decide +kernel
theorem dX11_subscribe_162 : decode cX11_subscribe 162 = .ok (.aload 7, 2) := by decide +kernel
theorem dX11_subscribe_164 : decode cX11_subscribe 164 = .ok (.getfield 162, 3) := by decide +kernel
theorem dX11_subscribe_167 : decode cX11_subscribe 167 = .ok (.iload 8, 2) := by decide +kernel
theorem dX11_subscribe_169 : decode cX11_subscribe 169 = .ok (.aaload, 1) := by decide +kernel
theorem dX11_subscribe_170 : decode cX11_subscribe 170 = .ok (.iload_n 2, 1) := by decide +kernel
theorem dX11_subscribe_171 : decode cX11_subscribe 171 = .ok (.putfield 166, 3) := by decide +kernel
theorem dX11_subscribe_174 : decode cX11_subscribe 174 = .ok (.aload 7, 2) := by decide +kernel
theorem dX11_subscribe_176 : decode cX11_subscribe 176 = .ok (.getfield 162, 3) := by decide +kernel
theorem dX11_subscribe_179 : decode cX11_subscribe 179 = .ok (.iload 8, 2) := by decide +kernel
theorem dX11_subscribe_181 : decode cX11_subscribe 181 = .ok (.aaload, 1) := by decide +kernel
theorem dX11_subscribe_182 : decode cX11_subscribe 182 = .ok (.iload 4, 2) := by decide +kernel
theorem dX11_subscribe_184 : decode cX11_subscribe 184 = .ok (.putfield 171, 3) := by decide +kernel
theorem dX11_subscribe_187 : decode cX11_subscribe 187 = .ok (.iload 4, 2) := by decide +kernel
theorem dX11_subscribe_189 : decode cX11_subscribe 189 = .ok (.iconst 2, 1) := by decide +kernel
theorem dX11_subscribe_190 : decode cX11_subscribe 190 = .ok (.iand, 1) := by decide +kernel
theorem dX11_subscribe_191 : decode cX11_subscribe 191 = .ok (.ifCond .ne 19, 3) := by decide +kernel
theorem dX11_subscribe_194 : decode cX11_subscribe 194 = .ok (.iload 9, 2) := by decide +kernel
theorem dX11_subscribe_196 : decode cX11_subscribe 196 = .ok (.ifCond .ne 10, 3) := by decide +kernel
theorem dX11_subscribe_199 : decode cX11_subscribe 199 = .ok (.iload 4, 2) := by decide +kernel
theorem dX11_subscribe_201 : decode cX11_subscribe 201 = .ok (.iconst 4, 1) := by decide +kernel
theorem dX11_subscribe_202 : decode cX11_subscribe 202 = .ok (.iand, 1) := by decide +kernel
theorem dX11_subscribe_203 : decode cX11_subscribe 203 = .ok (.ifCond .ne 7, 3) := by decide +kernel
theorem dX11_subscribe_206 : decode cX11_subscribe 206 = .ok (.iconst 1, 1) := by decide +kernel
theorem dX11_subscribe_207 : decode cX11_subscribe 207 = .ok (.goto 4, 3) := by decide +kernel
theorem dX11_subscribe_210 : decode cX11_subscribe 210 = .ok (.iconst 0, 1) := by decide +kernel
theorem dX11_subscribe_211 : decode cX11_subscribe 211 = .ok (.istore 10, 2) := by decide +kernel
theorem dX11_subscribe_213 : decode cX11_subscribe 213 = .ok (.iload_n 3, 1) := by decide +kernel
theorem dX11_subscribe_214 : decode cX11_subscribe 214 = .ok (.ifCond .ne 19, 3) := by decide +kernel
theorem dX11_subscribe_217 : decode cX11_subscribe 217 = .ok (.iload 10, 2) := by decide +kernel
theorem dX11_subscribe_219 : decode cX11_subscribe 219 = .ok (.ifCond .eq 14, 3) := by decide +kernel
theorem dX11_subscribe_222 : decode cX11_subscribe 222 = .ok (.aload_n 0, 1) := by decide +kernel
theorem dX11_subscribe_223 : decode cX11_subscribe 223 = .ok (.getfield 41, 3) := by decide +kernel
theorem dX11_subscribe_226 : decode cX11_subscribe 226 = .ok (.iload_n 1, 1) := by decide +kernel
theorem dX11_subscribe_227 : decode cX11_subscribe 227 = .ok (.aload 6, 2) := by decide +kernel
theorem dX11_subscribe_229 : decode cX11_subscribe 229 = .ok (.iload_n 2, 1) := by decide +kernel
theorem dX11_subscribe_230 : decode cX11_subscribe 230 = .ok (.invokevirtual 173, 3) := by decide +kernel
theorem dX11_subscribe_233 : decode cX11_subscribe 233 = .ok (.aload 7, 2) := by decide +kernel
theorem dX11_subscribe_235 : decode cX11_subscribe 235 = .ok (.getfield 155, 3) := by decide +kernel
theorem dX11_subscribe_238 : decode cX11_subscribe 238 = .ok (.ireturn, 1) := by decide +kernel
theorem dX11_unsubscribe_0 : decode cX11_unsubscribe 0 = .ok (.aload_n 0, 1) := by decide +kernel
theorem dX11_unsubscribe_1 : decode cX11_unsubscribe 1 = .ok (.invokevirtual 123, 3) := by decide +kernel
theorem dX11_unsubscribe_4 : decode cX11_unsubscribe 4 = .ok (.istore_n 3, 1) := by decide +kernel
theorem dX11_unsubscribe_5 : decode cX11_unsubscribe 5 = .ok (.iload_n 1, 1) := by decide +kernel
theorem dX11_unsubscribe_6 : decode cX11_unsubscribe 6 = .ok (.invokestatic 73, 3) := by decide +kernel
theorem dX11_unsubscribe_9 : decode cX11_unsubscribe 9 = .ok (.aload_n 0, 1) := by decide +kernel
theorem dX11_unsubscribe_10 : decode cX11_unsubscribe 10 = .ok (.iload_n 3, 1) := by decide +kernel
theorem dX11_unsubscribe_11 : decode cX11_unsubscribe 11 = .ok (.invokevirtual 148, 3) := by decide +kernel
theorem dX11_unsubscribe_14 : decode cX11_unsubscribe 14 = .ok (.astore 4, 2) := by decide +kernel
theorem dX11_unsubscribe_16 : decode cX11_unsubscribe 16 = .ok (.iload_n 2, 1) := by decide +kernel
theorem dX11_unsubscribe_17 : decode cX11_unsubscribe 17 = .ok (.iconst 0, 1) := by decide +kernel
theorem dX11_unsubscribe_18 : decode cX11_unsubscribe 18 = .ok (.iconst 3, 1) := by decide +kernel
theorem dX11_unsubscribe_19 : decode cX11_unsubscribe 19 = .ok (.invokestatic 131, 3) := by decide +kernel
theorem dX11_unsubscribe_22 : decode cX11_unsubscribe 22 = .ok (.aload_n 0, 1) := by decide +kernel
theorem dX11_unsubscribe_23 : decode cX11_unsubscribe 23 = .ok (.iload_n 1, 1) := by decide +kernel
theorem dX11_unsubscribe_24 : decode cX11_unsubscribe 24 = .ok (.invokevirtual 114, 3) := by decide +kernel
theorem dX11_unsubscribe_27 : decode cX11_unsubscribe 27 = .ok (.aload_n 0, 1) := by decide +kernel
theorem dX11_unsubscribe_28 : decode cX11_unsubscribe 28 = .ok (.getfield 41, 3) := by decide +kernel
theorem dX11_unsubscribe_31 : decode cX11_unsubscribe 31 = .ok (.iload_n 1, 1) := by decide +kernel
theorem dX11_unsubscribe_32 : decode cX11_unsubscribe 32 = .ok (.aload 4, 2) := by decide +kernel
theorem dX11_unsubscribe_34 : decode cX11_unsubscribe 34 = .ok (.iload_n 2, 1) := by decide +kernel
theorem dX11_unsubscribe_35 : decode cX11_unsubscribe 35 = .ok (.invokevirtual 176, 3) := by decide +kernel
theorem dX11_unsubscribe_38 : decode cX11_unsubscribe 38 = .ok (.ifCond .eq 7, 3) := by decide +kernel
theorem dX11_unsubscribe_41 : decode cX11_unsubscribe 41 = .ok (.iconst 1, 1) := by decide +kernel
theorem dX11_unsubscribe_42 : decode cX11_unsubscribe 42 = .ok (.goto 4, 3) := by decide +kernel
theorem dX11_unsubscribe_45 : decode cX11_unsubscribe 45 = .ok (.iconst 0, 1) := by decide +kernel
theorem dX11_unsubscribe_46 : decode cX11_unsubscribe 46 = .ok (.ireturn, 1) := by decide +kernel
theorem dX11_subscription_0 : decode cX11_subscription 0 = .ok (.iload_n 1, 1) := by decide +kernel
theorem dX11_subscription_1 : decode cX11_subscription 1 = .ok (.invokestatic 73, 3) := by decide +kernel
theorem dX11_subscription_4 : decode cX11_subscription 4 = .ok (.aload_n 0, 1) := by decide +kernel
theorem dX11_subscription_5 : decode cX11_subscription 5 = .ok (.iload_n 1, 1) := by decide +kernel
theorem dX11_subscription_6 : decode cX11_subscription 6 = .ok (.iload_n 2, 1) := by decide +kernel
theorem dX11_subscription_7 : decode cX11_subscription 7 = .ok (.invokevirtual 180, 3) := by decide +kernel
theorem dX11_subscription_10 : decode cX11_subscription 10 = .ok (.aload_n 0, 1) := by decide +kernel
theorem dX11_subscription_11 : decode cX11_subscription 11 = .ok (.getfield 41, 3) := by decide +kernel
theorem dX11_subscription_14 : decode cX11_subscription 14 = .ok (.getfield 77, 3) := by decide +kernel
theorem dX11_subscription_17 : decode cX11_subscription 17 = .ok (.iload_n 1, 1) := by decide +kernel
theorem dX11_subscription_18 : decode cX11_subscription 18 = .ok (.aaload, 1) := by decide +kernel
theorem dX11_subscription_19 : decode cX11_subscription 19 = .ok (.getfield 94, 3) := by decide +kernel
theorem dX11_subscription_22 : decode cX11_subscription 22 = .ok (.getfield 162, 3) := by decide +kernel
theorem dX11_subscription_25 : decode cX11_subscription 25 = .ok (.iload_n 2, 1) := by decide +kernel
theorem dX11_subscription_26 : decode cX11_subscription 26 = .ok (.aaload, 1) := by decide +kernel
theorem dX11_subscription_27 : decode cX11_subscription 27 = .ok (.astore 4, 2) := by decide +kernel
theorem dX11_subscription_29 : decode cX11_subscription 29 = .ok (.iload_n 3, 1) := by decide +kernel
theorem dX11_subscription_30 : decode cX11_subscription 30 = .ok (.tableswitch 57 0 3 #[30, 36, 42, 48], 30) := by decide +kernel
theorem dX11_subscription_60 : decode cX11_subscription 60 = .ok (.aload 4, 2) := by decide +kernel
theorem dX11_subscription_62 : decode cX11_subscription 62 = .ok (.getfield 166, 3) := by decide +kernel
theorem dX11_subscription_65 : decode cX11_subscription 65 = .ok (.ireturn, 1) := by decide +kernel
theorem dX11_subscription_66 : decode cX11_subscription 66 = .ok (.aload 4, 2) := by decide +kernel
theorem dX11_subscription_68 : decode cX11_subscription 68 = .ok (.getfield 184, 3) := by decide +kernel
theorem dX11_subscription_71 : decode cX11_subscription 71 = .ok (.ireturn, 1) := by decide +kernel
theorem dX11_subscription_72 : decode cX11_subscription 72 = .ok (.aload 4, 2) := by decide +kernel
theorem dX11_subscription_74 : decode cX11_subscription 74 = .ok (.getfield 171, 3) := by decide +kernel
theorem dX11_subscription_77 : decode cX11_subscription 77 = .ok (.ireturn, 1) := by decide +kernel
theorem dX11_subscription_78 : decode cX11_subscription 78 = .ok (.aload 4, 2) := by decide +kernel
theorem dX11_subscription_80 : decode cX11_subscription 80 = .ok (.getfield 187, 3) := by decide +kernel
theorem dX11_subscription_83 : decode cX11_subscription 83 = .ok (.getfield 191, 3) := by decide +kernel
theorem dX11_subscription_86 : decode cX11_subscription 86 = .ok (.ireturn, 1) := by decide +kernel
theorem dX11_subscription_87 : decode cX11_subscription 87 = .ok (.new 48, 3) := by decide +kernel
theorem dX11_subscription_90 : decode cX11_subscription 90 = .ok (.dup, 1) := by decide +kernel
theorem dX11_subscription_91 : decode cX11_subscription 91 = .ok (.invokespecial 50, 3) := by decide +kernel
theorem dX11_subscription_94 : decode cX11_subscription 94 = .ok (.athrow, 1) := by decide +kernel
theorem dX11_relation_0 : decode cX11_relation 0 = .ok (.iload_n 1, 1) := by decide +kernel
theorem dX11_relation_1 : decode cX11_relation 1 = .ok (.invokestatic 73, 3) := by decide +kernel
theorem dX11_relation_4 : decode cX11_relation 4 = .ok (.aload_n 0, 1) := by decide +kernel
theorem dX11_relation_5 : decode cX11_relation 5 = .ok (.iload_n 1, 1) := by decide +kernel
theorem dX11_relation_6 : decode cX11_relation 6 = .ok (.iload_n 2, 1) := by decide +kernel
theorem dX11_relation_7 : decode cX11_relation 7 = .ok (.invokevirtual 180, 3) := by decide +kernel
theorem dX11_relation_10 : decode cX11_relation 10 = .ok (.aload_n 0, 1) := by decide +kernel
theorem dX11_relation_11 : decode cX11_relation 11 = .ok (.iload_n 1, 1) := by decide +kernel
theorem dX11_relation_12 : decode cX11_relation 12 = .ok (.iload_n 3, 1) := by decide +kernel
theorem dX11_relation_13 : decode cX11_relation 13 = .ok (.invokevirtual 180, 3) := by decide +kernel
theorem dX11_relation_16 : decode cX11_relation 16 = .ok (.aload_n 0, 1) := by decide +kernel
theorem dX11_relation_17 : decode cX11_relation 17 = .ok (.getfield 41, 3) := by decide +kernel
theorem dX11_relation_20 : decode cX11_relation 20 = .ok (.getfield 77, 3) := by decide +kernel
theorem dX11_relation_23 : decode cX11_relation 23 = .ok (.iload_n 1, 1) := by decide +kernel
theorem dX11_relation_24 : decode cX11_relation 24 = .ok (.aaload, 1) := by decide +kernel
theorem dX11_relation_25 : decode cX11_relation 25 = .ok (.getfield 94, 3) := by decide +kernel
theorem dX11_relation_28 : decode cX11_relation 28 = .ok (.getfield 162, 3) := by decide +kernel
theorem dX11_relation_31 : decode cX11_relation 31 = .ok (.astore 4, 2) := by decide +kernel
theorem dX11_relation_33 : decode cX11_relation 33 = .ok (.aload 4, 2) := by decide +kernel
theorem dX11_relation_35 : decode cX11_relation 35 = .ok (.iload_n 2, 1) := by decide +kernel
theorem dX11_relation_36 : decode cX11_relation 36 = .ok (.aaload, 1) := by decide +kernel
theorem dX11_relation_37 : decode cX11_relation 37 = .ok (.getfield 187, 3) := by decide +kernel
theorem dX11_relation_40 : decode cX11_relation 40 = .ok (.astore 5, 2) := by decide +kernel
theorem dX11_relation_42 : decode cX11_relation 42 = .ok (.aload 4, 2) := by decide +kernel
theorem dX11_relation_44 : decode cX11_relation 44 = .ok (.iload_n 3, 1) := by decide +kernel
theorem dX11_relation_45 : decode cX11_relation 45 = .ok (.aaload, 1) := by decide +kernel
theorem dX11_relation_46 : decode cX11_relation 46 = .ok (.getfield 187, 3) := by decide +kernel
theorem dX11_relation_49 : decode cX11_relation 49 = .ok (.astore 6, 2) := by decide +kernel
theorem dX11_relation_51 : decode cX11_relation 51 = .ok (.aload 5, 2) := by decide +kernel
theorem dX11_relation_53 : decode cX11_relation 53 = .ok (.aload 6, 2) := by decide +kernel
theorem dX11_relation_55 : decode cX11_relation 55 = .ok (.invokevirtual 194, 3) := by decide +kernel
theorem dX11_relation_58 : decode cX11_relation 58 = .ok (.ifCond .ne 5, 3) := by decide +kernel
theorem dX11_relation_61 : decode cX11_relation 61 = .ok (.iconst 0, 1) := by decide +kernel
theorem dX11_relation_62 : decode cX11_relation 62 = .ok (.ireturn, 1) := by decide +kernel
theorem dX11_relation_63 : decode cX11_relation 63 = .ok (.iconst 1, 1) := by decide +kernel
theorem dX11_relation_64 : decode cX11_relation 64 = .ok (.aload 5, 2) := by decide +kernel
theorem dX11_relation_66 : decode cX11_relation 66 = .ok (.aload 6, 2) := by decide +kernel
theorem dX11_relation_68 : decode cX11_relation 68 = .ok (.invokevirtual 198, 3) := by decide +kernel
theorem dX11_relation_71 : decode cX11_relation 71 = .ok (.ifCond .eq 7, 3) := by decide +kernel
theorem dX11_relation_74 : decode cX11_relation 74 = .ok (.iconst 2, 1) := by decide +kernel
theorem dX11_relation_75 : decode cX11_relation 75 = .ok (.goto 4, 3) := by decide +kernel
theorem dX11_relation_78 : decode cX11_relation 78 = .ok (.iconst 0, 1) := by decide +kernel
theorem dX11_relation_79 : decode cX11_relation 79 = .ok (.iadd, 1) := by decide +kernel
theorem dX11_relation_80 : decode cX11_relation 80 = .ok (.aload 6, 2) := by decide +kernel
theorem dX11_relation_82 : decode cX11_relation 82 = .ok (.aload 5, 2) := by decide +kernel
theorem dX11_relation_84 : decode cX11_relation 84 = .ok (.invokevirtual 198, 3) := by decide +kernel
theorem dX11_relation_87 : decode cX11_relation 87 = .ok (.ifCond .eq 7, 3) := by decide +kernel
theorem dX11_relation_90 : decode cX11_relation 90 = .ok (.iconst 4, 1) := by decide +kernel
theorem dX11_relation_91 : decode cX11_relation 91 = .ok (.goto 4, 3) := by decide +kernel
theorem dX11_relation_94 : decode cX11_relation 94 = .ok (.iconst 0, 1) := by decide +kernel
theorem dX11_relation_95 : decode cX11_relation 95 = .ok (.iadd, 1) := by decide +kernel
theorem dX11_relation_96 : decode cX11_relation 96 = .ok (.ireturn, 1) := by decide +kernel
theorem dX11_shareSize_0 : decode cX11_shareSize 0 = .ok (.aload_n 0, 1) := by decide +kernel
theorem dX11_shareSize_1 : decode cX11_shareSize 1 = .ok (.invokevirtual 123, 3) := by decide +kernel
theorem dX11_shareSize_4 : decode cX11_shareSize 4 = .ok (.istore_n 2, 1) := by decide +kernel
theorem dX11_shareSize_5 : decode cX11_shareSize 5 = .ok (.aload_n 0, 1) := by decide +kernel
theorem dX11_shareSize_6 : decode cX11_shareSize 6 = .ok (.iload_n 2, 1) := by decide +kernel
theorem dX11_shareSize_7 : decode cX11_shareSize 7 = .ok (.invokevirtual 148, 3) := by decide +kernel
theorem dX11_shareSize_10 : decode cX11_shareSize 10 = .ok (.astore_n 3, 1) := by decide +kernel
theorem dX11_shareSize_11 : decode cX11_shareSize 11 = .ok (.iload_n 1, 1) := by decide +kernel
theorem dX11_shareSize_12 : decode cX11_shareSize 12 = .ok (.iconst 1, 1) := by decide +kernel
theorem dX11_shareSize_13 : decode cX11_shareSize 13 = .ok (.iconst 3, 1) := by decide +kernel
theorem dX11_shareSize_14 : decode cX11_shareSize 14 = .ok (.invokestatic 131, 3) := by decide +kernel
theorem dX11_shareSize_17 : decode cX11_shareSize 17 = .ok (.aload_n 0, 1) := by decide +kernel
theorem dX11_shareSize_18 : decode cX11_shareSize 18 = .ok (.getfield 41, 3) := by decide +kernel
theorem dX11_shareSize_21 : decode cX11_shareSize 21 = .ok (.aload_n 3, 1) := by decide +kernel
theorem dX11_shareSize_22 : decode cX11_shareSize 22 = .ok (.iload_n 1, 1) := by decide +kernel
theorem dX11_shareSize_23 : decode cX11_shareSize 23 = .ok (.invokevirtual 201, 3) := by decide +kernel
theorem dX11_shareSize_26 : decode cX11_shareSize 26 = .ok (.istore 4, 2) := by decide +kernel
theorem dX11_shareSize_28 : decode cX11_shareSize 28 = .ok (.iload 4, 2) := by decide +kernel
theorem dX11_shareSize_30 : decode cX11_shareSize 30 = .ok (.ifCond .ge 7, 3) := by decide +kernel
theorem dX11_shareSize_33 : decode cX11_shareSize 33 = .ok (.iconst 0, 1) := by decide +kernel
theorem dX11_shareSize_34 : decode cX11_shareSize 34 = .ok (.goto 16, 3) := by decide +kernel
theorem dX11_shareSize_37 : decode cX11_shareSize 37 = .ok (.aload_n 0, 1) := by decide +kernel
theorem dX11_shareSize_38 : decode cX11_shareSize 38 = .ok (.getfield 41, 3) := by decide +kernel
theorem dX11_shareSize_41 : decode cX11_shareSize 41 = .ok (.getfield 204, 3) := by decide +kernel
theorem dX11_shareSize_44 : decode cX11_shareSize 44 = .ok (.iload 4, 2) := by decide +kernel
theorem dX11_shareSize_46 : decode cX11_shareSize 46 = .ok (.aaload, 1) := by decide +kernel
theorem dX11_shareSize_47 : decode cX11_shareSize 47 = .ok (.getfield 208, 3) := by decide +kernel
theorem dX11_shareSize_50 : decode cX11_shareSize 50 = .ok (.ireturn, 1) := by decide +kernel
theorem dX11_shareMember_0 : decode cX11_shareMember 0 = .ok (.aload_n 0, 1) := by decide +kernel
theorem dX11_shareMember_1 : decode cX11_shareMember 1 = .ok (.invokevirtual 123, 3) := by decide +kernel
theorem dX11_shareMember_4 : decode cX11_shareMember 4 = .ok (.istore_n 3, 1) := by decide +kernel
theorem dX11_shareMember_5 : decode cX11_shareMember 5 = .ok (.aload_n 0, 1) := by decide +kernel
theorem dX11_shareMember_6 : decode cX11_shareMember 6 = .ok (.iload_n 3, 1) := by decide +kernel
theorem dX11_shareMember_7 : decode cX11_shareMember 7 = .ok (.invokevirtual 148, 3) := by decide +kernel
theorem dX11_shareMember_10 : decode cX11_shareMember 10 = .ok (.astore 4, 2) := by decide +kernel
theorem dX11_shareMember_12 : decode cX11_shareMember 12 = .ok (.iload_n 1, 1) := by decide +kernel
theorem dX11_shareMember_13 : decode cX11_shareMember 13 = .ok (.iconst 1, 1) := by decide +kernel
theorem dX11_shareMember_14 : decode cX11_shareMember 14 = .ok (.iconst 3, 1) := by decide +kernel
theorem dX11_shareMember_15 : decode cX11_shareMember 15 = .ok (.invokestatic 131, 3) := by decide +kernel
theorem dX11_shareMember_18 : decode cX11_shareMember 18 = .ok (.aload_n 0, 1) := by decide +kernel
theorem dX11_shareMember_19 : decode cX11_shareMember 19 = .ok (.getfield 41, 3) := by decide +kernel
theorem dX11_shareMember_22 : decode cX11_shareMember 22 = .ok (.aload 4, 2) := by decide +kernel
theorem dX11_shareMember_24 : decode cX11_shareMember 24 = .ok (.iload_n 1, 1) := by decide +kernel
theorem dX11_shareMember_25 : decode cX11_shareMember 25 = .ok (.invokevirtual 201, 3) := by decide +kernel
theorem dX11_shareMember_28 : decode cX11_shareMember 28 = .ok (.istore 5, 2) := by decide +kernel
theorem dX11_shareMember_30 : decode cX11_shareMember 30 = .ok (.iload 5, 2) := by decide +kernel
theorem dX11_shareMember_32 : decode cX11_shareMember 32 = .ok (.ifCond .lt 24, 3) := by decide +kernel
theorem dX11_shareMember_35 : decode cX11_shareMember 35 = .ok (.iload_n 2, 1) := by decide +kernel
theorem dX11_shareMember_36 : decode cX11_shareMember 36 = .ok (.ifCond .lt 20, 3) := by decide +kernel
theorem dX11_shareMember_39 : decode cX11_shareMember 39 = .ok (.iload_n 2, 1) := by decide +kernel
theorem dX11_shareMember_40 : decode cX11_shareMember 40 = .ok (.aload_n 0, 1) := by decide +kernel
theorem dX11_shareMember_41 : decode cX11_shareMember 41 = .ok (.getfield 41, 3) := by decide +kernel
theorem dX11_shareMember_44 : decode cX11_shareMember 44 = .ok (.getfield 204, 3) := by decide +kernel
theorem dX11_shareMember_47 : decode cX11_shareMember 47 = .ok (.iload 5, 2) := by decide +kernel
theorem dX11_shareMember_49 : decode cX11_shareMember 49 = .ok (.aaload, 1) := by decide +kernel
theorem dX11_shareMember_50 : decode cX11_shareMember 50 = .ok (.getfield 208, 3) := by decide +kernel
theorem dX11_shareMember_53 : decode cX11_shareMember 53 = .ok (.if_icmp .lt 11, 3) := by decide +kernel
theorem dX11_shareMember_56 : decode cX11_shareMember 56 = .ok (.new 61, 3) := by decide +kernel
theorem dX11_shareMember_59 : decode cX11_shareMember 59 = .ok (.dup, 1) := by decide +kernel
theorem dX11_shareMember_60 : decode cX11_shareMember 60 = .ok (.invokespecial 63, 3) := by decide +kernel
theorem dX11_shareMember_63 : decode cX11_shareMember 63 = .ok (.athrow, 1) := by decide +kernel
theorem dX11_shareMember_64 : decode cX11_shareMember 64 = .ok (.aload_n 0, 1) := by decide +kernel
theorem dX11_shareMember_65 : decode cX11_shareMember 65 = .ok (.getfield 41, 3) := by decide +kernel
theorem dX11_shareMember_68 : decode cX11_shareMember 68 = .ok (.getfield 204, 3) := by decide +kernel
theorem dX11_shareMember_71 : decode cX11_shareMember 71 = .ok (.iload 5, 2) := by decide +kernel
theorem dX11_shareMember_73 : decode cX11_shareMember 73 = .ok (.aaload, 1) := by decide +kernel
theorem dX11_shareMember_74 : decode cX11_shareMember 74 = .ok (.getfield 213, 3) := by decide +kernel
theorem dX11_shareMember_77 : decode cX11_shareMember 77 = .ok (.iload_n 2, 1) := by decide +kernel
theorem dX11_shareMember_78 : decode cX11_shareMember 78 = .ok (.iaload, 1) := by decide +kernel
theorem dX11_shareMember_79 : decode cX11_shareMember 79 = .ok (.ireturn, 1) := by decide +kernel
theorem dX11_publish_0 : decode cX11_publish 0 = .ok (.aload_n 0, 1) := by decide +kernel
theorem dX11_publish_1 : decode cX11_publish 1 = .ok (.invokevirtual 123, 3) := by decide +kernel
theorem dX11_publish_4 : decode cX11_publish 4 = .ok (.istore 6, 2) := by decide +kernel
theorem dX11_publish_6 : decode cX11_publish 6 = .ok (.iload_n 1, 1) := by decide +kernel
theorem dX11_publish_7 : decode cX11_publish 7 = .ok (.invokestatic 73, 3) := by decide +kernel
theorem dX11_publish_10 : decode cX11_publish 10 = .ok (.aload_n 0, 1) := by decide +kernel
theorem dX11_publish_11 : decode cX11_publish 11 = .ok (.iload 6, 2) := by decide +kernel
theorem dX11_publish_13 : decode cX11_publish 13 = .ok (.invokevirtual 127, 3) := by decide +kernel
theorem dX11_publish_16 : decode cX11_publish 16 = .ok (.astore 7, 2) := by decide +kernel
theorem dX11_publish_18 : decode cX11_publish 18 = .ok (.iload_n 2, 1) := by decide +kernel
theorem dX11_publish_19 : decode cX11_publish 19 = .ok (.iconst 0, 1) := by decide +kernel
theorem dX11_publish_20 : decode cX11_publish 20 = .ok (.iconst 2, 1) := by decide +kernel
theorem dX11_publish_21 : decode cX11_publish 21 = .ok (.invokestatic 131, 3) := by decide +kernel
theorem dX11_publish_24 : decode cX11_publish 24 = .ok (.iload_n 2, 1) := by decide +kernel
theorem dX11_publish_25 : decode cX11_publish 25 = .ok (.ifCond .eq 10, 3) := by decide +kernel
theorem dX11_publish_28 : decode cX11_publish 28 = .ok (.iload_n 3, 1) := by decide +kernel
theorem dX11_publish_29 : decode cX11_publish 29 = .ok (.iconst 1, 1) := by decide +kernel
theorem dX11_publish_30 : decode cX11_publish 30 = .ok (.bipush 50, 2) := by decide +kernel
theorem dX11_publish_32 : decode cX11_publish 32 = .ok (.invokestatic 131, 3) := by decide +kernel
theorem dX11_publish_35 : decode cX11_publish 35 = .ok (.iload 5, 2) := by decide +kernel
theorem dX11_publish_37 : decode cX11_publish 37 = .ok (.iconst 0, 1) := by decide +kernel
theorem dX11_publish_38 : decode cX11_publish 38 = .ok (.sipush 9999, 3) := by decide +kernel
theorem dX11_publish_41 : decode cX11_publish 41 = .ok (.invokestatic 131, 3) := by decide +kernel
theorem dX11_publish_44 : decode cX11_publish 44 = .ok (.aload_n 0, 1) := by decide +kernel
theorem dX11_publish_45 : decode cX11_publish 45 = .ok (.iload_n 1, 1) := by decide +kernel
theorem dX11_publish_46 : decode cX11_publish 46 = .ok (.invokevirtual 114, 3) := by decide +kernel
theorem dX11_publish_49 : decode cX11_publish 49 = .ok (.aload_n 0, 1) := by decide +kernel
theorem dX11_publish_50 : decode cX11_publish 50 = .ok (.getfield 41, 3) := by decide +kernel
theorem dX11_publish_53 : decode cX11_publish 53 = .ok (.getfield 77, 3) := by decide +kernel
theorem dX11_publish_56 : decode cX11_publish 56 = .ok (.iload_n 1, 1) := by decide +kernel
theorem dX11_publish_57 : decode cX11_publish 57 = .ok (.aaload, 1) := by decide +kernel
theorem dX11_publish_58 : decode cX11_publish 58 = .ok (.astore 8, 2) := by decide +kernel
theorem dX11_publish_60 : decode cX11_publish 60 = .ok (.iconst 0, 1) := by decide +kernel
theorem dX11_publish_61 : decode cX11_publish 61 = .ok (.istore 9, 2) := by decide +kernel
theorem dX11_publish_63 : decode cX11_publish 63 = .ok (.iload_n 2, 1) := by decide +kernel
theorem dX11_publish_64 : decode cX11_publish 64 = .ok (.iconst 2, 1) := by decide +kernel
theorem dX11_publish_65 : decode cX11_publish 65 = .ok (.if_icmp .ne 31, 3) := by decide +kernel
theorem dX11_publish_68 : decode cX11_publish 68 = .ok (.aload 8, 2) := by decide +kernel
theorem dX11_publish_70 : decode cX11_publish 70 = .ok (.getfield 94, 3) := by decide +kernel
theorem dX11_publish_73 : decode cX11_publish 73 = .ok (.iload_n 3, 1) := by decide +kernel
theorem dX11_publish_74 : decode cX11_publish 74 = .ok (.invokevirtual 216, 3) := by decide +kernel
theorem dX11_publish_77 : decode cX11_publish 77 = .ok (.ifCond .eq 19, 3) := by decide +kernel
theorem dX11_publish_80 : decode cX11_publish 80 = .ok (.aload_n 0, 1) := by decide +kernel
theorem dX11_publish_81 : decode cX11_publish 81 = .ok (.getfield 41, 3) := by decide +kernel
theorem dX11_publish_84 : decode cX11_publish 84 = .ok (.getfield 87, 3) := by decide +kernel
theorem dX11_publish_87 : decode cX11_publish 87 = .ok (.iconst 3, 1) := by decide +kernel
theorem dX11_publish_88 : decode cX11_publish 88 = .ok (.dup2, 1) := by decide +kernel
theorem dX11_publish_89 : decode cX11_publish 89 = .ok (.iaload, 1) := by decide +kernel
theorem dX11_publish_90 : decode cX11_publish 90 = .ok (.iconst 1, 1) := by decide +kernel
theorem dX11_publish_91 : decode cX11_publish 91 = .ok (.iadd, 1) := by decide +kernel
theorem dX11_publish_92 : decode cX11_publish 92 = .ok (.iastore, 1) := by decide +kernel
theorem dX11_publish_93 : decode cX11_publish 93 = .ok (.goto 31, 3) := by decide +kernel
theorem dX11_publish_96 : decode cX11_publish 96 = .ok (.aload_n 0, 1) := by decide +kernel
theorem dX11_publish_97 : decode cX11_publish 97 = .ok (.getfield 34, 3) := by decide +kernel
theorem dX11_publish_100 : decode cX11_publish 100 = .ok (.aload 7, 2) := by decide +kernel
theorem dX11_publish_102 : decode cX11_publish 102 = .ok (.iload_n 2, 1) := by decide +kernel
theorem dX11_publish_103 : decode cX11_publish 103 = .ok (.iload 5, 2) := by decide +kernel
theorem dX11_publish_105 : decode cX11_publish 105 = .ok (.invokevirtual 141, 3) := by decide +kernel
theorem dX11_publish_108 : decode cX11_publish 108 = .ok (.aload_n 0, 1) := by decide +kernel
theorem dX11_publish_109 : decode cX11_publish 109 = .ok (.getfield 41, 3) := by decide +kernel
theorem dX11_publish_112 : decode cX11_publish 112 = .ok (.iload_n 1, 1) := by decide +kernel
theorem dX11_publish_113 : decode cX11_publish 113 = .ok (.aload_n 0, 1) := by decide +kernel
theorem dX11_publish_114 : decode cX11_publish 114 = .ok (.getfield 34, 3) := by decide +kernel
theorem dX11_publish_117 : decode cX11_publish 117 = .ok (.iload 4, 2) := by decide +kernel
theorem dX11_publish_119 : decode cX11_publish 119 = .ok (.invokevirtual 220, 3) := by decide +kernel
theorem dX11_publish_122 : decode cX11_publish 122 = .ok (.istore 9, 2) := by decide +kernel
theorem dX11_publish_124 : decode cX11_publish 124 = .ok (.iload_n 2, 1) := by decide +kernel
theorem dX11_publish_125 : decode cX11_publish 125 = .ok (.iconst 2, 1) := by decide +kernel
theorem dX11_publish_126 : decode cX11_publish 126 = .ok (.if_icmp .ne 26, 3) := by decide +kernel
theorem dX11_publish_129 : decode cX11_publish 129 = .ok (.aload 8, 2) := by decide +kernel
theorem dX11_publish_131 : decode cX11_publish 131 = .ok (.getfield 94, 3) := by decide +kernel
theorem dX11_publish_134 : decode cX11_publish 134 = .ok (.iload_n 3, 1) := by decide +kernel
theorem dX11_publish_135 : decode cX11_publish 135 = .ok (.invokevirtual 224, 3) := by decide +kernel
theorem dX11_publish_138 : decode cX11_publish 138 = .ok (.aload_n 0, 1) := by decide +kernel
theorem dX11_publish_139 : decode cX11_publish 139 = .ok (.getfield 41, 3) := by decide +kernel
theorem dX11_publish_142 : decode cX11_publish 142 = .ok (.aload 8, 2) := by decide +kernel
theorem dX11_publish_144 : decode cX11_publish 144 = .ok (.iconst 2, 1) := by decide +kernel
theorem dX11_publish_145 : decode cX11_publish 145 = .ok (.iload_n 3, 1) := by decide +kernel
theorem dX11_publish_146 : decode cX11_publish 146 = .ok (.invokevirtual 227, 3) := by decide +kernel
theorem dX11_publish_149 : decode cX11_publish 149 = .ok (.goto 19, 3) := by decide +kernel
theorem dX11_publish_152 : decode cX11_publish 152 = .ok (.iload_n 2, 1) := by decide +kernel
theorem dX11_publish_153 : decode cX11_publish 153 = .ok (.iconst 1, 1) := by decide +kernel
theorem dX11_publish_154 : decode cX11_publish 154 = .ok (.if_icmp .ne 14, 3) := by decide +kernel
theorem dX11_publish_157 : decode cX11_publish 157 = .ok (.aload_n 0, 1) := by decide +kernel
theorem dX11_publish_158 : decode cX11_publish 158 = .ok (.getfield 41, 3) := by decide +kernel
theorem dX11_publish_161 : decode cX11_publish 161 = .ok (.aload 8, 2) := by decide +kernel
theorem dX11_publish_163 : decode cX11_publish 163 = .ok (.iconst 1, 1) := by decide +kernel
theorem dX11_publish_164 : decode cX11_publish 164 = .ok (.iload_n 3, 1) := by decide +kernel
theorem dX11_publish_165 : decode cX11_publish 165 = .ok (.invokevirtual 227, 3) := by decide +kernel
theorem dX11_publish_168 : decode cX11_publish 168 = .ok (.iload 9, 2) := by decide +kernel
theorem dX11_publish_170 : decode cX11_publish 170 = .ok (.ireturn, 1) := by decide +kernel
theorem dX11_release_0 : decode cX11_release 0 = .ok (.iload_n 1, 1) := by decide +kernel
theorem dX11_release_1 : decode cX11_release 1 = .ok (.invokestatic 73, 3) := by decide +kernel
theorem dX11_release_4 : decode cX11_release 4 = .ok (.iload_n 2, 1) := by decide +kernel
theorem dX11_release_5 : decode cX11_release 5 = .ok (.iconst 1, 1) := by decide +kernel
theorem dX11_release_6 : decode cX11_release 6 = .ok (.bipush 50, 2) := by decide +kernel
theorem dX11_release_8 : decode cX11_release 8 = .ok (.invokestatic 131, 3) := by decide +kernel
theorem dX11_release_11 : decode cX11_release 11 = .ok (.aload_n 0, 1) := by decide +kernel
theorem dX11_release_12 : decode cX11_release 12 = .ok (.iload_n 1, 1) := by decide +kernel
theorem dX11_release_13 : decode cX11_release 13 = .ok (.invokevirtual 114, 3) := by decide +kernel
theorem dX11_release_16 : decode cX11_release 16 = .ok (.aload_n 0, 1) := by decide +kernel
theorem dX11_release_17 : decode cX11_release 17 = .ok (.getfield 41, 3) := by decide +kernel
theorem dX11_release_20 : decode cX11_release 20 = .ok (.getfield 77, 3) := by decide +kernel
theorem dX11_release_23 : decode cX11_release 23 = .ok (.iload_n 1, 1) := by decide +kernel
theorem dX11_release_24 : decode cX11_release 24 = .ok (.aaload, 1) := by decide +kernel
theorem dX11_release_25 : decode cX11_release 25 = .ok (.astore_n 3, 1) := by decide +kernel
theorem dX11_release_26 : decode cX11_release 26 = .ok (.aload_n 3, 1) := by decide +kernel
theorem dX11_release_27 : decode cX11_release 27 = .ok (.getfield 94, 3) := by decide +kernel
theorem dX11_release_30 : decode cX11_release 30 = .ok (.iload_n 2, 1) := by decide +kernel
theorem dX11_release_31 : decode cX11_release 31 = .ok (.invokevirtual 216, 3) := by decide +kernel
theorem dX11_release_34 : decode cX11_release 34 = .ok (.istore 4, 2) := by decide +kernel
theorem dX11_release_36 : decode cX11_release 36 = .ok (.aload_n 3, 1) := by decide +kernel
theorem dX11_release_37 : decode cX11_release 37 = .ok (.getfield 94, 3) := by decide +kernel
theorem dX11_release_40 : decode cX11_release 40 = .ok (.iload_n 2, 1) := by decide +kernel
theorem dX11_release_41 : decode cX11_release 41 = .ok (.invokevirtual 231, 3) := by decide +kernel
theorem dX11_release_44 : decode cX11_release 44 = .ok (.aload_n 0, 1) := by decide +kernel
theorem dX11_release_45 : decode cX11_release 45 = .ok (.getfield 41, 3) := by decide +kernel
theorem dX11_release_48 : decode cX11_release 48 = .ok (.aload_n 3, 1) := by decide +kernel
theorem dX11_release_49 : decode cX11_release 49 = .ok (.iconst 4, 1) := by decide +kernel
theorem dX11_release_50 : decode cX11_release 50 = .ok (.iload_n 2, 1) := by decide +kernel
theorem dX11_release_51 : decode cX11_release 51 = .ok (.invokevirtual 227, 3) := by decide +kernel
theorem dX11_release_54 : decode cX11_release 54 = .ok (.iload 4, 2) := by decide +kernel
theorem dX11_release_56 : decode cX11_release 56 = .ok (.ifCond .eq 7, 3) := by decide +kernel
theorem dX11_release_59 : decode cX11_release 59 = .ok (.iconst 1, 1) := by decide +kernel
theorem dX11_release_60 : decode cX11_release 60 = .ok (.goto 4, 3) := by decide +kernel
theorem dX11_release_63 : decode cX11_release 63 = .ok (.iconst 0, 1) := by decide +kernel
theorem dX11_release_64 : decode cX11_release 64 = .ok (.ireturn, 1) := by decide +kernel
theorem dX11_answer_0 : decode cX11_answer 0 = .ok (.iload_n 1, 1) := by decide +kernel
theorem dX11_answer_1 : decode cX11_answer 1 = .ok (.invokestatic 73, 3) := by decide +kernel
theorem dX11_answer_4 : decode cX11_answer 4 = .ok (.iload_n 2, 1) := by decide +kernel
theorem dX11_answer_5 : decode cX11_answer 5 = .ok (.iconst 1, 1) := by decide +kernel
theorem dX11_answer_6 : decode cX11_answer 6 = .ok (.if_icmp .eq 21, 3) := by decide +kernel
theorem dX11_answer_9 : decode cX11_answer 9 = .ok (.iload_n 2, 1) := by decide +kernel
theorem dX11_answer_10 : decode cX11_answer 10 = .ok (.iconst 2, 1) := by decide +kernel
theorem dX11_answer_11 : decode cX11_answer 11 = .ok (.if_icmp .eq 16, 3) := by decide +kernel
theorem dX11_answer_14 : decode cX11_answer 14 = .ok (.iload_n 2, 1) := by decide +kernel
theorem dX11_answer_15 : decode cX11_answer 15 = .ok (.iconst 4, 1) := by decide +kernel
theorem dX11_answer_16 : decode cX11_answer 16 = .ok (.if_icmp .eq 11, 3) := by decide +kernel
theorem dX11_answer_19 : decode cX11_answer 19 = .ok (.new 48, 3) := by decide +kernel
theorem dX11_answer_22 : decode cX11_answer 22 = .ok (.dup, 1) := by decide +kernel
theorem dX11_answer_23 : decode cX11_answer 23 = .ok (.invokespecial 50, 3) := by decide +kernel
theorem dX11_answer_26 : decode cX11_answer 26 = .ok (.athrow, 1) := by decide +kernel
theorem dX11_answer_27 : decode cX11_answer 27 = .ok (.iload_n 3, 1) := by decide +kernel
theorem dX11_answer_28 : decode cX11_answer 28 = .ok (.iconst 1, 1) := by decide +kernel
theorem dX11_answer_29 : decode cX11_answer 29 = .ok (.bipush 50, 2) := by decide +kernel
theorem dX11_answer_31 : decode cX11_answer 31 = .ok (.invokestatic 131, 3) := by decide +kernel
theorem dX11_answer_34 : decode cX11_answer 34 = .ok (.aload_n 0, 1) := by decide +kernel
theorem dX11_answer_35 : decode cX11_answer 35 = .ok (.iload_n 1, 1) := by decide +kernel
theorem dX11_answer_36 : decode cX11_answer 36 = .ok (.invokevirtual 114, 3) := by decide +kernel
theorem dX11_answer_39 : decode cX11_answer 39 = .ok (.aload_n 0, 1) := by decide +kernel
theorem dX11_answer_40 : decode cX11_answer 40 = .ok (.getfield 41, 3) := by decide +kernel
theorem dX11_answer_43 : decode cX11_answer 43 = .ok (.aload_n 0, 1) := by decide +kernel
theorem dX11_answer_44 : decode cX11_answer 44 = .ok (.getfield 41, 3) := by decide +kernel
theorem dX11_answer_47 : decode cX11_answer 47 = .ok (.getfield 77, 3) := by decide +kernel
theorem dX11_answer_50 : decode cX11_answer 50 = .ok (.iload_n 1, 1) := by decide +kernel
theorem dX11_answer_51 : decode cX11_answer 51 = .ok (.aaload, 1) := by decide +kernel
theorem dX11_answer_52 : decode cX11_answer 52 = .ok (.iload_n 2, 1) := by decide +kernel
theorem dX11_answer_53 : decode cX11_answer 53 = .ok (.iload_n 3, 1) := by decide +kernel
theorem dX11_answer_54 : decode cX11_answer 54 = .ok (.invokevirtual 234, 3) := by decide +kernel
theorem dX11_answer_57 : decode cX11_answer 57 = .ok (.ifCond .eq 7, 3) := by decide +kernel
theorem dX11_answer_60 : decode cX11_answer 60 = .ok (.iconst 1, 1) := by decide +kernel
theorem dX11_answer_61 : decode cX11_answer 61 = .ok (.goto 4, 3) := by decide +kernel
theorem dX11_answer_64 : decode cX11_answer 64 = .ok (.iconst 0, 1) := by decide +kernel
theorem dX11_answer_65 : decode cX11_answer 65 = .ok (.ireturn, 1) := by decide +kernel
theorem dX11_audience_0 : decode cX11_audience 0 = .ok (.aload_n 0, 1) := by decide +kernel
theorem dX11_audience_1 : decode cX11_audience 1 = .ok (.invokevirtual 123, 3) := by decide +kernel
theorem dX11_audience_4 : decode cX11_audience 4 = .ok (.istore_n 2, 1) := by decide +kernel
theorem dX11_audience_5 : decode cX11_audience 5 = .ok (.iload_n 1, 1) := by decide +kernel
theorem dX11_audience_6 : decode cX11_audience 6 = .ok (.invokestatic 73, 3) := by decide +kernel
theorem dX11_audience_9 : decode cX11_audience 9 = .ok (.aload_n 0, 1) := by decide +kernel
theorem dX11_audience_10 : decode cX11_audience 10 = .ok (.iload_n 2, 1) := by decide +kernel
theorem dX11_audience_11 : decode cX11_audience 11 = .ok (.invokevirtual 127, 3) := by decide +kernel
theorem dX11_audience_14 : decode cX11_audience 14 = .ok (.astore_n 3, 1) := by decide +kernel
theorem dX11_audience_15 : decode cX11_audience 15 = .ok (.aload_n 0, 1) := by decide +kernel
theorem dX11_audience_16 : decode cX11_audience 16 = .ok (.getfield 41, 3) := by decide +kernel
theorem dX11_audience_19 : decode cX11_audience 19 = .ok (.iload_n 1, 1) := by decide +kernel
theorem dX11_audience_20 : decode cX11_audience 20 = .ok (.aload_n 3, 1) := by decide +kernel
theorem dX11_audience_21 : decode cX11_audience 21 = .ok (.invokevirtual 238, 3) := by decide +kernel
theorem dX11_audience_24 : decode cX11_audience 24 = .ok (.ireturn, 1) := by decide +kernel
theorem dX11_receive_0 : decode cX11_receive 0 = .ok (.iload_n 1, 1) := by decide +kernel
theorem dX11_receive_1 : decode cX11_receive 1 = .ok (.invokestatic 73, 3) := by decide +kernel
theorem dX11_receive_4 : decode cX11_receive 4 = .ok (.aload_n 0, 1) := by decide +kernel
theorem dX11_receive_5 : decode cX11_receive 5 = .ok (.iload_n 1, 1) := by decide +kernel
theorem dX11_receive_6 : decode cX11_receive 6 = .ok (.invokevirtual 114, 3) := by decide +kernel
theorem dX11_receive_9 : decode cX11_receive 9 = .ok (.aload_n 0, 1) := by decide +kernel
theorem dX11_receive_10 : decode cX11_receive 10 = .ok (.getfield 41, 3) := by decide +kernel
theorem dX11_receive_13 : decode cX11_receive 13 = .ok (.getfield 77, 3) := by decide +kernel
theorem dX11_receive_16 : decode cX11_receive 16 = .ok (.iload_n 1, 1) := by decide +kernel
theorem dX11_receive_17 : decode cX11_receive 17 = .ok (.aaload, 1) := by decide +kernel
theorem dX11_receive_18 : decode cX11_receive 18 = .ok (.getfield 242, 3) := by decide +kernel
theorem dX11_receive_21 : decode cX11_receive 21 = .ok (.astore_n 2, 1) := by decide +kernel
theorem dX11_receive_22 : decode cX11_receive 22 = .ok (.aload_n 2, 1) := by decide +kernel
theorem dX11_receive_23 : decode cX11_receive 23 = .ok (.getfield 246, 3) := by decide +kernel
theorem dX11_receive_26 : decode cX11_receive 26 = .ok (.ifCond .ne 5, 3) := by decide +kernel
theorem dX11_receive_29 : decode cX11_receive 29 = .ok (.iconst (-1), 1) := by decide +kernel
theorem dX11_receive_30 : decode cX11_receive 30 = .ok (.ireturn, 1) := by decide +kernel
theorem dX11_receive_31 : decode cX11_receive 31 = .ok (.aload_n 0, 1) := by decide +kernel
theorem dX11_receive_32 : decode cX11_receive 32 = .ok (.getfield 27, 3) := by decide +kernel
theorem dX11_receive_35 : decode cX11_receive 35 = .ok (.aload_n 2, 1) := by decide +kernel
theorem dX11_receive_36 : decode cX11_receive 36 = .ok (.invokevirtual 251, 3) := by decide +kernel
theorem dX11_receive_39 : decode cX11_receive 39 = .ok (.invokevirtual 255, 3) := by decide +kernel
theorem dX11_receive_42 : decode cX11_receive 42 = .ok (.aload_n 0, 1) := by decide +kernel
theorem dX11_receive_43 : decode cX11_receive 43 = .ok (.iconst 1, 1) := by decide +kernel
theorem dX11_receive_44 : decode cX11_receive 44 = .ok (.putfield 259, 3) := by decide +kernel
theorem dX11_receive_47 : decode cX11_receive 47 = .ok (.aload_n 2, 1) := by decide +kernel
theorem dX11_receive_48 : decode cX11_receive 48 = .ok (.invokevirtual 262, 3) := by decide +kernel
theorem dX11_receive_51 : decode cX11_receive 51 = .ok (.aload_n 0, 1) := by decide +kernel
theorem dX11_receive_52 : decode cX11_receive 52 = .ok (.getfield 27, 3) := by decide +kernel
theorem dX11_receive_55 : decode cX11_receive 55 = .ok (.getfield 265, 3) := by decide +kernel
theorem dX11_receive_58 : decode cX11_receive 58 = .ok (.ireturn, 1) := by decide +kernel
theorem dX11_packet_0 : decode cX11_packet 0 = .ok (.iload_n 1, 1) := by decide +kernel
theorem dX11_packet_1 : decode cX11_packet 1 = .ok (.iconst 0, 1) := by decide +kernel
theorem dX11_packet_2 : decode cX11_packet 2 = .ok (.iconst 5, 1) := by decide +kernel
theorem dX11_packet_3 : decode cX11_packet 3 = .ok (.invokestatic 131, 3) := by decide +kernel
theorem dX11_packet_6 : decode cX11_packet 6 = .ok (.aload_n 0, 1) := by decide +kernel
theorem dX11_packet_7 : decode cX11_packet 7 = .ok (.getfield 259, 3) := by decide +kernel
theorem dX11_packet_10 : decode cX11_packet 10 = .ok (.ifCond .ne 11, 3) := by decide +kernel
theorem dX11_packet_13 : decode cX11_packet 13 = .ok (.new 54, 3) := by decide +kernel
theorem dX11_packet_16 : decode cX11_packet 16 = .ok (.dup, 1) := by decide +kernel
theorem dX11_packet_17 : decode cX11_packet 17 = .ok (.invokespecial 56, 3) := by decide +kernel
theorem dX11_packet_20 : decode cX11_packet 20 = .ok (.athrow, 1) := by decide +kernel
theorem dX11_packet_21 : decode cX11_packet 21 = .ok (.iload_n 1, 1) := by decide +kernel
theorem dX11_packet_22 : decode cX11_packet 22 = .ok (.tableswitch 74 0 4 #[34, 42, 50, 58, 66], 34) := by decide +kernel
theorem dX11_packet_56 : decode cX11_packet 56 = .ok (.aload_n 0, 1) := by decide +kernel
theorem dX11_packet_57 : decode cX11_packet 57 = .ok (.getfield 27, 3) := by decide +kernel
theorem dX11_packet_60 : decode cX11_packet 60 = .ok (.getfield 265, 3) := by decide +kernel
theorem dX11_packet_63 : decode cX11_packet 63 = .ok (.ireturn, 1) := by decide +kernel
theorem dX11_packet_64 : decode cX11_packet 64 = .ok (.aload_n 0, 1) := by decide +kernel
theorem dX11_packet_65 : decode cX11_packet 65 = .ok (.getfield 27, 3) := by decide +kernel
theorem dX11_packet_68 : decode cX11_packet 68 = .ok (.getfield 268, 3) := by decide +kernel
theorem dX11_packet_71 : decode cX11_packet 71 = .ok (.ireturn, 1) := by decide +kernel
theorem dX11_packet_72 : decode cX11_packet 72 = .ok (.aload_n 0, 1) := by decide +kernel
theorem dX11_packet_73 : decode cX11_packet 73 = .ok (.getfield 27, 3) := by decide +kernel
theorem dX11_packet_76 : decode cX11_packet 76 = .ok (.getfield 271, 3) := by decide +kernel
theorem dX11_packet_79 : decode cX11_packet 79 = .ok (.ireturn, 1) := by decide +kernel
theorem dX11_packet_80 : decode cX11_packet 80 = .ok (.aload_n 0, 1) := by decide +kernel
theorem dX11_packet_81 : decode cX11_packet 81 = .ok (.getfield 27, 3) := by decide +kernel
theorem dX11_packet_84 : decode cX11_packet 84 = .ok (.getfield 272, 3) := by decide +kernel
theorem dX11_packet_87 : decode cX11_packet 87 = .ok (.ireturn, 1) := by decide +kernel
theorem dX11_packet_88 : decode cX11_packet 88 = .ok (.aload_n 0, 1) := by decide +kernel
theorem dX11_packet_89 : decode cX11_packet 89 = .ok (.getfield 27, 3) := by decide +kernel
theorem dX11_packet_92 : decode cX11_packet 92 = .ok (.getfield 275, 3) := by decide +kernel
theorem dX11_packet_95 : decode cX11_packet 95 = .ok (.ireturn, 1) := by decide +kernel
theorem dX11_packet_96 : decode cX11_packet 96 = .ok (.aload_n 0, 1) := by decide +kernel
theorem dX11_packet_97 : decode cX11_packet 97 = .ok (.getfield 27, 3) := by decide +kernel
theorem dX11_packet_100 : decode cX11_packet 100 = .ok (.getfield 278, 3) := by decide +kernel
theorem dX11_packet_103 : decode cX11_packet 103 = .ok (.getfield 281, 3) := by decide +kernel
theorem dX11_packet_106 : decode cX11_packet 106 = .ok (.arraylength, 1) := by decide +kernel
theorem dX11_packet_107 : decode cX11_packet 107 = .ok (.ireturn, 1) := by decide +kernel
theorem dX11_topicCharacter_0 : decode cX11_topicCharacter 0 = .ok (.aload_n 0, 1) := by decide +kernel
theorem dX11_topicCharacter_1 : decode cX11_topicCharacter 1 = .ok (.getfield 259, 3) := by decide +kernel
theorem dX11_topicCharacter_4 : decode cX11_topicCharacter 4 = .ok (.ifCond .ne 11, 3) := by decide +kernel
theorem dX11_topicCharacter_7 : decode cX11_topicCharacter 7 = .ok (.new 54, 3) := by decide +kernel
theorem dX11_topicCharacter_10 : decode cX11_topicCharacter 10 = .ok (.dup, 1) := by decide +kernel
theorem dX11_topicCharacter_11 : decode cX11_topicCharacter 11 = .ok (.invokespecial 56, 3) := by decide +kernel
theorem dX11_topicCharacter_14 : decode cX11_topicCharacter 14 = .ok (.athrow, 1) := by decide +kernel
theorem dX11_topicCharacter_15 : decode cX11_topicCharacter 15 = .ok (.aload_n 0, 1) := by decide +kernel
theorem dX11_topicCharacter_16 : decode cX11_topicCharacter 16 = .ok (.getfield 27, 3) := by decide +kernel
theorem dX11_topicCharacter_19 : decode cX11_topicCharacter 19 = .ok (.getfield 278, 3) := by decide +kernel
theorem dX11_topicCharacter_22 : decode cX11_topicCharacter 22 = .ok (.getfield 281, 3) := by decide +kernel
theorem dX11_topicCharacter_25 : decode cX11_topicCharacter 25 = .ok (.astore_n 2, 1) := by decide +kernel
theorem dX11_topicCharacter_26 : decode cX11_topicCharacter 26 = .ok (.iload_n 1, 1) := by decide +kernel
theorem dX11_topicCharacter_27 : decode cX11_topicCharacter 27 = .ok (.ifCond .lt 9, 3) := by decide +kernel
theorem dX11_topicCharacter_30 : decode cX11_topicCharacter 30 = .ok (.iload_n 1, 1) := by decide +kernel
theorem dX11_topicCharacter_31 : decode cX11_topicCharacter 31 = .ok (.aload_n 2, 1) := by decide +kernel
theorem dX11_topicCharacter_32 : decode cX11_topicCharacter 32 = .ok (.arraylength, 1) := by decide +kernel
theorem dX11_topicCharacter_33 : decode cX11_topicCharacter 33 = .ok (.if_icmp .lt 11, 3) := by decide +kernel
theorem dX11_topicCharacter_36 : decode cX11_topicCharacter 36 = .ok (.new 61, 3) := by decide +kernel
theorem dX11_topicCharacter_39 : decode cX11_topicCharacter 39 = .ok (.dup, 1) := by decide +kernel
theorem dX11_topicCharacter_40 : decode cX11_topicCharacter 40 = .ok (.invokespecial 63, 3) := by decide +kernel
