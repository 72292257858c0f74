theorem dX12_subscribe_274 : decode cX12_subscribe 274 = .ok (.ifCond .ne 9, 3) := by decide +kernel
theorem dX12_subscribe_277 : decode cX12_subscribe 277 = .ok (.iload 4, 2) := by decide +kernel
theorem dX12_subscribe_279 : decode cX12_subscribe 279 = .ok (.iconst 4, 1) := by decide +kernel
theorem dX12_subscribe_280 : decode cX12_subscribe 280 = .ok (.if_icmp .ge 10, 3) := by decide +kernel
theorem dX12_subscribe_283 : decode cX12_subscribe 283 = .ok (.aload_n 0, 1) := by decide +kernel
theorem dX12_subscribe_284 : decode cX12_subscribe 284 = .ok (.iload_n 1, 1) := by decide +kernel
theorem dX12_subscribe_285 : decode cX12_subscribe 285 = .ok (.iload 5, 2) := by decide +kernel
theorem dX12_subscribe_287 : decode cX12_subscribe 287 = .ok (.invokevirtual 213, 3) := by decide +kernel
theorem dX12_subscribe_290 : decode cX12_subscribe 290 = .ok (.aload_n 0, 1) := by decide +kernel
theorem dX12_subscribe_291 : decode cX12_subscribe 291 = .ok (.getfield 9, 3) := by decide +kernel
theorem dX12_subscribe_294 : decode cX12_subscribe 294 = .ok (.bipush 50, 2) := by decide +kernel
theorem dX12_subscribe_296 : decode cX12_subscribe 296 = .ok (.iload_n 1, 1) := by decide +kernel
theorem dX12_subscribe_297 : decode cX12_subscribe 297 = .ok (.iadd, 1) := by decide +kernel
theorem dX12_subscribe_298 : decode cX12_subscribe 298 = .ok (.iaload, 1) := by decide +kernel
theorem dX12_subscribe_299 : decode cX12_subscribe 299 = .ok (.ireturn, 1) := by decide +kernel
theorem dX12_unsubscribe_0 : decode cX12_unsubscribe 0 = .ok (.aload_n 0, 1) := by decide +kernel
theorem dX12_unsubscribe_1 : decode cX12_unsubscribe 1 = .ok (.iconst 0, 1) := by decide +kernel
theorem dX12_unsubscribe_2 : decode cX12_unsubscribe 2 = .ok (.putfield 52, 3) := by decide +kernel
theorem dX12_unsubscribe_5 : decode cX12_unsubscribe 5 = .ok (.iload_n 1, 1) := by decide +kernel
theorem dX12_unsubscribe_6 : decode cX12_unsubscribe 6 = .ok (.invokestatic 191, 3) := by decide +kernel
theorem dX12_unsubscribe_9 : decode cX12_unsubscribe 9 = .ok (.ifCond .ne 9, 3) := by decide +kernel
theorem dX12_unsubscribe_12 : decode cX12_unsubscribe 12 = .ok (.aload_n 0, 1) := by decide +kernel
theorem dX12_unsubscribe_13 : decode cX12_unsubscribe 13 = .ok (.iconst 1, 1) := by decide +kernel
theorem dX12_unsubscribe_14 : decode cX12_unsubscribe 14 = .ok (.invokevirtual 200, 3) := by decide +kernel
theorem dX12_unsubscribe_17 : decode cX12_unsubscribe 17 = .ok (.ireturn, 1) := by decide +kernel
theorem dX12_unsubscribe_18 : decode cX12_unsubscribe 18 = .ok (.aload_n 0, 1) := by decide +kernel
theorem dX12_unsubscribe_19 : decode cX12_unsubscribe 19 = .ok (.iconst 1, 1) := by decide +kernel
theorem dX12_unsubscribe_20 : decode cX12_unsubscribe 20 = .ok (.invokevirtual 203, 3) := by decide +kernel
theorem dX12_unsubscribe_23 : decode cX12_unsubscribe 23 = .ok (.ifCond .eq 12, 3) := by decide +kernel
theorem dX12_unsubscribe_26 : decode cX12_unsubscribe 26 = .ok (.iload_n 2, 1) := by decide +kernel
theorem dX12_unsubscribe_27 : decode cX12_unsubscribe 27 = .ok (.iconst 0, 1) := by decide +kernel
theorem dX12_unsubscribe_28 : decode cX12_unsubscribe 28 = .ok (.iconst 3, 1) := by decide +kernel
theorem dX12_unsubscribe_29 : decode cX12_unsubscribe 29 = .ok (.invokestatic 55, 3) := by decide +kernel
theorem dX12_unsubscribe_32 : decode cX12_unsubscribe 32 = .ok (.ifCond .ne 9, 3) := by decide +kernel
theorem dX12_unsubscribe_35 : decode cX12_unsubscribe 35 = .ok (.aload_n 0, 1) := by decide +kernel
theorem dX12_unsubscribe_36 : decode cX12_unsubscribe 36 = .ok (.iconst 2, 1) := by decide +kernel
theorem dX12_unsubscribe_37 : decode cX12_unsubscribe 37 = .ok (.invokevirtual 86, 3) := by decide +kernel
theorem dX12_unsubscribe_40 : decode cX12_unsubscribe 40 = .ok (.ireturn, 1) := by decide +kernel
theorem dX12_unsubscribe_41 : decode cX12_unsubscribe 41 = .ok (.aload_n 0, 1) := by decide +kernel
theorem dX12_unsubscribe_42 : decode cX12_unsubscribe 42 = .ok (.iload_n 1, 1) := by decide +kernel
theorem dX12_unsubscribe_43 : decode cX12_unsubscribe 43 = .ok (.invokevirtual 107, 3) := by decide +kernel
theorem dX12_unsubscribe_46 : decode cX12_unsubscribe 46 = .ok (.ifCond .ne 9, 3) := by decide +kernel
theorem dX12_unsubscribe_49 : decode cX12_unsubscribe 49 = .ok (.aload_n 0, 1) := by decide +kernel
theorem dX12_unsubscribe_50 : decode cX12_unsubscribe 50 = .ok (.iconst 3, 1) := by decide +kernel
theorem dX12_unsubscribe_51 : decode cX12_unsubscribe 51 = .ok (.invokevirtual 86, 3) := by decide +kernel
theorem dX12_unsubscribe_54 : decode cX12_unsubscribe 54 = .ok (.ireturn, 1) := by decide +kernel
theorem dX12_unsubscribe_55 : decode cX12_unsubscribe 55 = .ok (.aload_n 0, 1) := by decide +kernel
theorem dX12_unsubscribe_56 : decode cX12_unsubscribe 56 = .ok (.iload_n 1, 1) := by decide +kernel
theorem dX12_unsubscribe_57 : decode cX12_unsubscribe 57 = .ok (.iload_n 2, 1) := by decide +kernel
theorem dX12_unsubscribe_58 : decode cX12_unsubscribe 58 = .ok (.invokevirtual 207, 3) := by decide +kernel
theorem dX12_unsubscribe_61 : decode cX12_unsubscribe 61 = .ok (.istore_n 3, 1) := by decide +kernel
theorem dX12_unsubscribe_62 : decode cX12_unsubscribe 62 = .ok (.iload_n 3, 1) := by decide +kernel
theorem dX12_unsubscribe_63 : decode cX12_unsubscribe 63 = .ok (.iconst (-1), 1) := by decide +kernel
theorem dX12_unsubscribe_64 : decode cX12_unsubscribe 64 = .ok (.if_icmp .ne 5, 3) := by decide +kernel
theorem dX12_unsubscribe_67 : decode cX12_unsubscribe 67 = .ok (.iconst 0, 1) := by decide +kernel
theorem dX12_unsubscribe_68 : decode cX12_unsubscribe 68 = .ok (.ireturn, 1) := by decide +kernel
theorem dX12_unsubscribe_69 : decode cX12_unsubscribe 69 = .ok (.aload_n 0, 1) := by decide +kernel
theorem dX12_unsubscribe_70 : decode cX12_unsubscribe 70 = .ok (.iload_n 1, 1) := by decide +kernel
theorem dX12_unsubscribe_71 : decode cX12_unsubscribe 71 = .ok (.iload_n 3, 1) := by decide +kernel
theorem dX12_unsubscribe_72 : decode cX12_unsubscribe 72 = .ok (.invokevirtual 178, 3) := by decide +kernel
theorem dX12_unsubscribe_75 : decode cX12_unsubscribe 75 = .ok (.iconst 1, 1) := by decide +kernel
theorem dX12_unsubscribe_76 : decode cX12_unsubscribe 76 = .ok (.ireturn, 1) := by decide +kernel
theorem dX12_isSubscription_0 : decode cX12_isSubscription 0 = .ok (.iload_n 1, 1) := by decide +kernel
theorem dX12_isSubscription_1 : decode cX12_isSubscription 1 = .ok (.invokestatic 191, 3) := by decide +kernel
theorem dX12_isSubscription_4 : decode cX12_isSubscription 4 = .ok (.ifCond .eq 26, 3) := by decide +kernel
theorem dX12_isSubscription_7 : decode cX12_isSubscription 7 = .ok (.iload_n 2, 1) := by decide +kernel
theorem dX12_isSubscription_8 : decode cX12_isSubscription 8 = .ok (.iconst 0, 1) := by decide +kernel
theorem dX12_isSubscription_9 : decode cX12_isSubscription 9 = .ok (.aload_n 0, 1) := by decide +kernel
theorem dX12_isSubscription_10 : decode cX12_isSubscription 10 = .ok (.getfield 9, 3) := by decide +kernel
theorem dX12_isSubscription_13 : decode cX12_isSubscription 13 = .ok (.bipush 50, 2) := by decide +kernel
theorem dX12_isSubscription_15 : decode cX12_isSubscription 15 = .ok (.iload_n 1, 1) := by decide +kernel
theorem dX12_isSubscription_16 : decode cX12_isSubscription 16 = .ok (.iadd, 1) := by decide +kernel
theorem dX12_isSubscription_17 : decode cX12_isSubscription 17 = .ok (.iaload, 1) := by decide +kernel
theorem dX12_isSubscription_18 : decode cX12_isSubscription 18 = .ok (.iconst 1, 1) := by decide +kernel
theorem dX12_isSubscription_19 : decode cX12_isSubscription 19 = .ok (.isub, 1) := by decide +kernel
theorem dX12_isSubscription_20 : decode cX12_isSubscription 20 = .ok (.invokestatic 55, 3) := by decide +kernel
theorem dX12_isSubscription_23 : decode cX12_isSubscription 23 = .ok (.ifCond .eq 7, 3) := by decide +kernel
theorem dX12_isSubscription_26 : decode cX12_isSubscription 26 = .ok (.iconst 1, 1) := by decide +kernel
theorem dX12_isSubscription_27 : decode cX12_isSubscription 27 = .ok (.goto 4, 3) := by decide +kernel
theorem dX12_isSubscription_30 : decode cX12_isSubscription 30 = .ok (.iconst 0, 1) := by decide +kernel
theorem dX12_isSubscription_31 : decode cX12_isSubscription 31 = .ok (.ireturn, 1) := by decide +kernel
theorem dX12_subscription_0 : decode cX12_subscription 0 = .ok (.aload_n 0, 1) := by decide +kernel
theorem dX12_subscription_1 : decode cX12_subscription 1 = .ok (.iconst 0, 1) := by decide +kernel
theorem dX12_subscription_2 : decode cX12_subscription 2 = .ok (.putfield 52, 3) := by decide +kernel
theorem dX12_subscription_5 : decode cX12_subscription 5 = .ok (.aload_n 0, 1) := by decide +kernel
theorem dX12_subscription_6 : decode cX12_subscription 6 = .ok (.iload_n 1, 1) := by decide +kernel
theorem dX12_subscription_7 : decode cX12_subscription 7 = .ok (.iload_n 2, 1) := by decide +kernel
theorem dX12_subscription_8 : decode cX12_subscription 8 = .ok (.invokevirtual 216, 3) := by decide +kernel
theorem dX12_subscription_11 : decode cX12_subscription 11 = .ok (.ifCond .ne 9, 3) := by decide +kernel
theorem dX12_subscription_14 : decode cX12_subscription 14 = .ok (.aload_n 0, 1) := by decide +kernel
theorem dX12_subscription_15 : decode cX12_subscription 15 = .ok (.iconst 1, 1) := by decide +kernel
theorem dX12_subscription_16 : decode cX12_subscription 16 = .ok (.invokevirtual 86, 3) := by decide +kernel
theorem dX12_subscription_19 : decode cX12_subscription 19 = .ok (.ireturn, 1) := by decide +kernel
theorem dX12_subscription_20 : decode cX12_subscription 20 = .ok (.iload_n 3, 1) := by decide +kernel
theorem dX12_subscription_21 : decode cX12_subscription 21 = .ok (.iconst 0, 1) := by decide +kernel
theorem dX12_subscription_22 : decode cX12_subscription 22 = .ok (.iconst 3, 1) := by decide +kernel
theorem dX12_subscription_23 : decode cX12_subscription 23 = .ok (.invokestatic 55, 3) := by decide +kernel
theorem dX12_subscription_26 : decode cX12_subscription 26 = .ok (.ifCond .ne 9, 3) := by decide +kernel
theorem dX12_subscription_29 : decode cX12_subscription 29 = .ok (.aload_n 0, 1) := by decide +kernel
theorem dX12_subscription_30 : decode cX12_subscription 30 = .ok (.iconst 2, 1) := by decide +kernel
theorem dX12_subscription_31 : decode cX12_subscription 31 = .ok (.invokevirtual 86, 3) := by decide +kernel
theorem dX12_subscription_34 : decode cX12_subscription 34 = .ok (.ireturn, 1) := by decide +kernel
theorem dX12_subscription_35 : decode cX12_subscription 35 = .ok (.aload_n 0, 1) := by decide +kernel
theorem dX12_subscription_36 : decode cX12_subscription 36 = .ok (.getfield 9, 3) := by decide +kernel
theorem dX12_subscription_39 : decode cX12_subscription 39 = .ok (.sipush 410, 3) := by decide +kernel
theorem dX12_subscription_42 : decode cX12_subscription 42 = .ok (.bipush 36, 2) := by decide +kernel
theorem dX12_subscription_44 : decode cX12_subscription 44 = .ok (.iload_n 3, 1) := by decide +kernel
theorem dX12_subscription_45 : decode cX12_subscription 45 = .ok (.imul, 1) := by decide +kernel
theorem dX12_subscription_46 : decode cX12_subscription 46 = .ok (.iadd, 1) := by decide +kernel
theorem dX12_subscription_47 : decode cX12_subscription 47 = .ok (.bipush 6, 2) := by decide +kernel
theorem dX12_subscription_49 : decode cX12_subscription 49 = .ok (.iload_n 1, 1) := by decide +kernel
theorem dX12_subscription_50 : decode cX12_subscription 50 = .ok (.imul, 1) := by decide +kernel
theorem dX12_subscription_51 : decode cX12_subscription 51 = .ok (.iadd, 1) := by decide +kernel
theorem dX12_subscription_52 : decode cX12_subscription 52 = .ok (.iload_n 2, 1) := by decide +kernel
theorem dX12_subscription_53 : decode cX12_subscription 53 = .ok (.iadd, 1) := by decide +kernel
theorem dX12_subscription_54 : decode cX12_subscription 54 = .ok (.iaload, 1) := by decide +kernel
theorem dX12_subscription_55 : decode cX12_subscription 55 = .ok (.ireturn, 1) := by decide +kernel
theorem dX12_isHashed_0 : decode cX12_isHashed 0 = .ok (.aload_n 0, 1) := by decide +kernel
theorem dX12_isHashed_1 : decode cX12_isHashed 1 = .ok (.getfield 13, 3) := by decide +kernel
theorem dX12_isHashed_4 : decode cX12_isHashed 4 = .ok (.bipush 24, 2) := by decide +kernel
theorem dX12_isHashed_6 : decode cX12_isHashed 6 = .ok (.iconst 4, 1) := by decide +kernel
theorem dX12_isHashed_7 : decode cX12_isHashed 7 = .ok (.iload_n 1, 1) := by decide +kernel
theorem dX12_isHashed_8 : decode cX12_isHashed 8 = .ok (.imul, 1) := by decide +kernel
theorem dX12_isHashed_9 : decode cX12_isHashed 9 = .ok (.iadd, 1) := by decide +kernel
theorem dX12_isHashed_10 : decode cX12_isHashed 10 = .ok (.aload_n 0, 1) := by decide +kernel
theorem dX12_isHashed_11 : decode cX12_isHashed 11 = .ok (.getfield 9, 3) := by decide +kernel
theorem dX12_isHashed_14 : decode cX12_isHashed 14 = .ok (.sipush 518, 3) := by decide +kernel
theorem dX12_isHashed_17 : decode cX12_isHashed 17 = .ok (.iload_n 1, 1) := by decide +kernel
theorem dX12_isHashed_18 : decode cX12_isHashed 18 = .ok (.iadd, 1) := by decide +kernel
theorem dX12_isHashed_19 : decode cX12_isHashed 19 = .ok (.iaload, 1) := by decide +kernel
theorem dX12_isHashed_20 : decode cX12_isHashed 20 = .ok (.iadd, 1) := by decide +kernel
theorem dX12_isHashed_21 : decode cX12_isHashed 21 = .ok (.iconst 1, 1) := by decide +kernel
theorem dX12_isHashed_22 : decode cX12_isHashed 22 = .ok (.isub, 1) := by decide +kernel
theorem dX12_isHashed_23 : decode cX12_isHashed 23 = .ok (.laload, 1) := by decide +kernel
theorem dX12_isHashed_24 : decode cX12_isHashed 24 = .ok (.ldc2_w 74, 3) := by decide +kernel
theorem dX12_isHashed_27 : decode cX12_isHashed 27 = .ok (.lcmp, 1) := by decide +kernel
theorem dX12_isHashed_28 : decode cX12_isHashed 28 = .ok (.ifCond .ne 7, 3) := by decide +kernel
theorem dX12_isHashed_31 : decode cX12_isHashed 31 = .ok (.iconst 1, 1) := by decide +kernel
theorem dX12_isHashed_32 : decode cX12_isHashed 32 = .ok (.goto 4, 3) := by decide +kernel
theorem dX12_isHashed_35 : decode cX12_isHashed 35 = .ok (.iconst 0, 1) := by decide +kernel
theorem dX12_isHashed_36 : decode cX12_isHashed 36 = .ok (.ireturn, 1) := by decide +kernel
theorem dX12_reaches_0 : decode cX12_reaches 0 = .ok (.aload_n 0, 1) := by decide +kernel
theorem dX12_reaches_1 : decode cX12_reaches 1 = .ok (.iload_n 1, 1) := by decide +kernel
theorem dX12_reaches_2 : decode cX12_reaches 2 = .ok (.invokevirtual 219, 3) := by decide +kernel
theorem dX12_reaches_5 : decode cX12_reaches 5 = .ok (.ifCond .eq 27, 3) := by decide +kernel
theorem dX12_reaches_8 : decode cX12_reaches 8 = .ok (.iload_n 2, 1) := by decide +kernel
theorem dX12_reaches_9 : decode cX12_reaches 9 = .ok (.aload_n 0, 1) := by decide +kernel
theorem dX12_reaches_10 : decode cX12_reaches 10 = .ok (.getfield 9, 3) := by decide +kernel
theorem dX12_reaches_13 : decode cX12_reaches 13 = .ok (.sipush 518, 3) := by decide +kernel
theorem dX12_reaches_16 : decode cX12_reaches 16 = .ok (.iload_n 1, 1) := by decide +kernel
theorem dX12_reaches_17 : decode cX12_reaches 17 = .ok (.iadd, 1) := by decide +kernel
theorem dX12_reaches_18 : decode cX12_reaches 18 = .ok (.iaload, 1) := by decide +kernel
theorem dX12_reaches_19 : decode cX12_reaches 19 = .ok (.iconst 1, 1) := by decide +kernel
theorem dX12_reaches_20 : decode cX12_reaches 20 = .ok (.isub, 1) := by decide +kernel
theorem dX12_reaches_21 : decode cX12_reaches 21 = .ok (.if_icmp .lt 7, 3) := by decide +kernel
theorem dX12_reaches_24 : decode cX12_reaches 24 = .ok (.iconst 1, 1) := by decide +kernel
theorem dX12_reaches_25 : decode cX12_reaches 25 = .ok (.goto 26, 3) := by decide +kernel
theorem dX12_reaches_28 : decode cX12_reaches 28 = .ok (.iconst 0, 1) := by decide +kernel
theorem dX12_reaches_29 : decode cX12_reaches 29 = .ok (.goto 22, 3) := by decide +kernel
theorem dX12_reaches_32 : decode cX12_reaches 32 = .ok (.iload_n 2, 1) := by decide +kernel
theorem dX12_reaches_33 : decode cX12_reaches 33 = .ok (.aload_n 0, 1) := by decide +kernel
theorem dX12_reaches_34 : decode cX12_reaches 34 = .ok (.getfield 9, 3) := by decide +kernel
theorem dX12_reaches_37 : decode cX12_reaches 37 = .ok (.sipush 518, 3) := by decide +kernel
theorem dX12_reaches_40 : decode cX12_reaches 40 = .ok (.iload_n 1, 1) := by decide +kernel
theorem dX12_reaches_41 : decode cX12_reaches 41 = .ok (.iadd, 1) := by decide +kernel
theorem dX12_reaches_42 : decode cX12_reaches 42 = .ok (.iaload, 1) := by decide +kernel
theorem dX12_reaches_43 : decode cX12_reaches 43 = .ok (.if_icmp .ne 7, 3) := by decide +kernel
theorem dX12_reaches_46 : decode cX12_reaches 46 = .ok (.iconst 1, 1) := by decide +kernel
theorem dX12_reaches_47 : decode cX12_reaches 47 = .ok (.goto 4, 3) := by decide +kernel
theorem dX12_reaches_50 : decode cX12_reaches 50 = .ok (.iconst 0, 1) := by decide +kernel
theorem dX12_reaches_51 : decode cX12_reaches 51 = .ok (.ireturn, 1) := by decide +kernel
theorem dX12_levelAt_0 : decode cX12_levelAt 0 = .ok (.iload_n 2, 1) := by decide +kernel
theorem dX12_levelAt_1 : decode cX12_levelAt 1 = .ok (.aload_n 0, 1) := by decide +kernel
theorem dX12_levelAt_2 : decode cX12_levelAt 2 = .ok (.getfield 9, 3) := by decide +kernel
theorem dX12_levelAt_5 : decode cX12_levelAt 5 = .ok (.sipush 518, 3) := by decide +kernel
theorem dX12_levelAt_8 : decode cX12_levelAt 8 = .ok (.iload_n 1, 1) := by decide +kernel
theorem dX12_levelAt_9 : decode cX12_levelAt 9 = .ok (.iadd, 1) := by decide +kernel
theorem dX12_levelAt_10 : decode cX12_levelAt 10 = .ok (.iaload, 1) := by decide +kernel
theorem dX12_levelAt_11 : decode cX12_levelAt 11 = .ok (.if_icmp .ge 23, 3) := by decide +kernel
theorem dX12_levelAt_14 : decode cX12_levelAt 14 = .ok (.aload_n 0, 1) := by decide +kernel
theorem dX12_levelAt_15 : decode cX12_levelAt 15 = .ok (.getfield 13, 3) := by decide +kernel
theorem dX12_levelAt_18 : decode cX12_levelAt 18 = .ok (.bipush 24, 2) := by decide +kernel
theorem dX12_levelAt_20 : decode cX12_levelAt 20 = .ok (.iconst 4, 1) := by decide +kernel
theorem dX12_levelAt_21 : decode cX12_levelAt 21 = .ok (.iload_n 1, 1) := by decide +kernel
theorem dX12_levelAt_22 : decode cX12_levelAt 22 = .ok (.imul, 1) := by decide +kernel
theorem dX12_levelAt_23 : decode cX12_levelAt 23 = .ok (.iadd, 1) := by decide +kernel
theorem dX12_levelAt_24 : decode cX12_levelAt 24 = .ok (.iload_n 2, 1) := by decide +kernel
theorem dX12_levelAt_25 : decode cX12_levelAt 25 = .ok (.iadd, 1) := by decide +kernel
theorem dX12_levelAt_26 : decode cX12_levelAt 26 = .ok (.laload, 1) := by decide +kernel
theorem dX12_levelAt_27 : decode cX12_levelAt 27 = .ok (.ldc2_w 74, 3) := by decide +kernel
theorem dX12_levelAt_30 : decode cX12_levelAt 30 = .ok (.lcmp, 1) := by decide +kernel
theorem dX12_levelAt_31 : decode cX12_levelAt 31 = .ok (.ifCond .ne 9, 3) := by decide +kernel
theorem dX12_levelAt_34 : decode cX12_levelAt 34 = .ok (.ldc2_w 76, 3) := by decide +kernel
theorem dX12_levelAt_37 : decode cX12_levelAt 37 = .ok (.goto 16, 3) := by decide +kernel
theorem dX12_levelAt_40 : decode cX12_levelAt 40 = .ok (.aload_n 0, 1) := by decide +kernel
theorem dX12_levelAt_41 : decode cX12_levelAt 41 = .ok (.getfield 13, 3) := by decide +kernel
theorem dX12_levelAt_44 : decode cX12_levelAt 44 = .ok (.bipush 24, 2) := by decide +kernel
theorem dX12_levelAt_46 : decode cX12_levelAt 46 = .ok (.iconst 4, 1) := by decide +kernel
theorem dX12_levelAt_47 : decode cX12_levelAt 47 = .ok (.iload_n 1, 1) := by decide +kernel
theorem dX12_levelAt_48 : decode cX12_levelAt 48 = .ok (.imul, 1) := by decide +kernel
theorem dX12_levelAt_49 : decode cX12_levelAt 49 = .ok (.iadd, 1) := by decide +kernel
theorem dX12_levelAt_50 : decode cX12_levelAt 50 = .ok (.iload_n 2, 1) := by decide +kernel
theorem dX12_levelAt_51 : decode cX12_levelAt 51 = .ok (.iadd, 1) := by decide +kernel
theorem dX12_levelAt_52 : decode cX12_levelAt 52 = .ok (.laload, 1) := by decide +kernel
theorem dX12_levelAt_53 : decode cX12_levelAt 53 = .ok (.lreturn, 1) := by decide +kernel
theorem dX12_areMeeting_0 : decode cX12_areMeeting 0 = .ok (.iconst 0, 1) := by decide +kernel
theorem dX12_areMeeting_1 : decode cX12_areMeeting 1 = .ok (.istore_n 3, 1) := by decide +kernel
theorem dX12_areMeeting_2 : decode cX12_areMeeting 2 = .ok (.iconst 1, 1) := by decide +kernel
theorem dX12_areMeeting_3 : decode cX12_areMeeting 3 = .ok (.istore 4, 2) := by decide +kernel
theorem dX12_areMeeting_5 : decode cX12_areMeeting 5 = .ok (.iload 4, 2) := by decide +kernel
theorem dX12_areMeeting_7 : decode cX12_areMeeting 7 = .ok (.iconst 4, 1) := by decide +kernel
theorem dX12_areMeeting_8 : decode cX12_areMeeting 8 = .ok (.if_icmp .gt 125, 3) := by decide +kernel
theorem dX12_areMeeting_11 : decode cX12_areMeeting 11 = .ok (.aload_n 0, 1) := by decide +kernel
theorem dX12_areMeeting_12 : decode cX12_areMeeting 12 = .ok (.iload_n 1, 1) := by decide +kernel
theorem dX12_areMeeting_13 : decode cX12_areMeeting 13 = .ok (.iload 4, 2) := by decide +kernel
theorem dX12_areMeeting_15 : decode cX12_areMeeting 15 = .ok (.invokevirtual 222, 3) := by decide +kernel
theorem dX12_areMeeting_18 : decode cX12_areMeeting 18 = .ok (.ifCond .eq 17, 3) := by decide +kernel
theorem dX12_areMeeting_21 : decode cX12_areMeeting 21 = .ok (.aload_n 0, 1) := by decide +kernel
theorem dX12_areMeeting_22 : decode cX12_areMeeting 22 = .ok (.iload_n 2, 1) := by decide +kernel
theorem dX12_areMeeting_23 : decode cX12_areMeeting 23 = .ok (.iload 4, 2) := by decide +kernel
theorem dX12_areMeeting_25 : decode cX12_areMeeting 25 = .ok (.invokevirtual 222, 3) := by decide +kernel
theorem dX12_areMeeting_28 : decode cX12_areMeeting 28 = .ok (.ifCond .eq 7, 3) := by decide +kernel
theorem dX12_areMeeting_31 : decode cX12_areMeeting 31 = .ok (.iconst 1, 1) := by decide +kernel
theorem dX12_areMeeting_32 : decode cX12_areMeeting 32 = .ok (.goto 4, 3) := by decide +kernel
theorem dX12_areMeeting_35 : decode cX12_areMeeting 35 = .ok (.iconst 0, 1) := by decide +kernel
theorem dX12_areMeeting_36 : decode cX12_areMeeting 36 = .ok (.istore 5, 2) := by decide +kernel
theorem dX12_areMeeting_38 : decode cX12_areMeeting 38 = .ok (.iconst 0, 1) := by decide +kernel
theorem dX12_areMeeting_39 : decode cX12_areMeeting 39 = .ok (.istore 6, 2) := by decide +kernel
theorem dX12_areMeeting_41 : decode cX12_areMeeting 41 = .ok (.iload 6, 2) := by decide +kernel
theorem dX12_areMeeting_43 : decode cX12_areMeeting 43 = .ok (.iload 4, 2) := by decide +kernel
theorem dX12_areMeeting_45 : decode cX12_areMeeting 45 = .ok (.if_icmp .ge 67, 3) := by decide +kernel
theorem dX12_areMeeting_48 : decode cX12_areMeeting 48 = .ok (.iload 5, 2) := by decide +kernel
theorem dX12_areMeeting_50 : decode cX12_areMeeting 50 = .ok (.ifCond .eq 62, 3) := by decide +kernel
theorem dX12_areMeeting_53 : decode cX12_areMeeting 53 = .ok (.aload_n 0, 1) := by decide +kernel
theorem dX12_areMeeting_54 : decode cX12_areMeeting 54 = .ok (.iload_n 1, 1) := by decide +kernel
theorem dX12_areMeeting_55 : decode cX12_areMeeting 55 = .ok (.iload 6, 2) := by decide +kernel
theorem dX12_areMeeting_57 : decode cX12_areMeeting 57 = .ok (.invokevirtual 225, 3) := by decide +kernel
theorem dX12_areMeeting_60 : decode cX12_areMeeting 60 = .ok (.ldc2_w 76, 3) := by decide +kernel
theorem dX12_areMeeting_63 : decode cX12_areMeeting 63 = .ok (.lcmp, 1) := by decide +kernel
theorem dX12_areMeeting_64 : decode cX12_areMeeting 64 = .ok (.ifCond .eq 35, 3) := by decide +kernel
theorem dX12_areMeeting_67 : decode cX12_areMeeting 67 = .ok (.aload_n 0, 1) := by decide +kernel
theorem dX12_areMeeting_68 : decode cX12_areMeeting 68 = .ok (.iload_n 2, 1) := by decide +kernel
theorem dX12_areMeeting_69 : decode cX12_areMeeting 69 = .ok (.iload 6, 2) := by decide +kernel
theorem dX12_areMeeting_71 : decode cX12_areMeeting 71 = .ok (.invokevirtual 225, 3) := by decide +kernel
theorem dX12_areMeeting_74 : decode cX12_areMeeting 74 = .ok (.ldc2_w 76, 3) := by decide +kernel
theorem dX12_areMeeting_77 : decode cX12_areMeeting 77 = .ok (.lcmp, 1) := by decide +kernel
theorem dX12_areMeeting_78 : decode cX12_areMeeting 78 = .ok (.ifCond .eq 21, 3) := by decide +kernel
theorem dX12_areMeeting_81 : decode cX12_areMeeting 81 = .ok (.aload_n 0, 1) := by decide +kernel
theorem dX12_areMeeting_82 : decode cX12_areMeeting 82 = .ok (.iload_n 1, 1) := by decide +kernel
theorem dX12_areMeeting_83 : decode cX12_areMeeting 83 = .ok (.iload 6, 2) := by decide +kernel
theorem dX12_areMeeting_85 : decode cX12_areMeeting 85 = .ok (.invokevirtual 225, 3) := by decide +kernel
theorem dX12_areMeeting_88 : decode cX12_areMeeting 88 = .ok (.aload_n 0, 1) := by decide +kernel
theorem dX12_areMeeting_89 : decode cX12_areMeeting 89 = .ok (.iload_n 2, 1) := by decide +kernel
theorem dX12_areMeeting_90 : decode cX12_areMeeting 90 = .ok (.iload 6, 2) := by decide +kernel
theorem dX12_areMeeting_92 : decode cX12_areMeeting 92 = .ok (.invokevirtual 225, 3) := by decide +kernel
theorem dX12_areMeeting_95 : decode cX12_areMeeting 95 = .ok (.lcmp, 1) := by decide +kernel
theorem dX12_areMeeting_96 : decode cX12_areMeeting 96 = .ok (.ifCond .ne 7, 3) := by decide +kernel
theorem dX12_areMeeting_99 : decode cX12_areMeeting 99 = .ok (.iconst 1, 1) := by decide +kernel
theorem dX12_areMeeting_100 : decode cX12_areMeeting 100 = .ok (.goto 4, 3) := by decide +kernel
theorem dX12_areMeeting_103 : decode cX12_areMeeting 103 = .ok (.iconst 0, 1) := by decide +kernel
theorem dX12_areMeeting_104 : decode cX12_areMeeting 104 = .ok (.istore 5, 2) := by decide +kernel
theorem dX12_areMeeting_106 : decode cX12_areMeeting 106 = .ok (.iinc 6 1, 3) := by decide +kernel
theorem dX12_areMeeting_109 : decode cX12_areMeeting 109 = .ok (.goto (-68), 3) := by decide +kernel
theorem dX12_areMeeting_112 : decode cX12_areMeeting 112 = .ok (.iload_n 3, 1) := by decide +kernel
theorem dX12_areMeeting_113 : decode cX12_areMeeting 113 = .ok (.ifCond .ne 8, 3) := by decide +kernel
theorem dX12_areMeeting_116 : decode cX12_areMeeting 116 = .ok (.iload 5, 2) := by decide +kernel
theorem dX12_areMeeting_118 : decode cX12_areMeeting 118 = .ok (.ifCond .eq 7, 3) := by decide +kernel
theorem dX12_areMeeting_121 : decode cX12_areMeeting 121 = .ok (.iconst 1, 1) := by decide +kernel
theorem dX12_areMeeting_122 : decode cX12_areMeeting 122 = .ok (.goto 4, 3) := by decide +kernel
theorem dX12_areMeeting_125 : decode cX12_areMeeting 125 = .ok (.iconst 0, 1) := by decide +kernel
theorem dX12_areMeeting_126 : decode cX12_areMeeting 126 = .ok (.istore_n 3, 1) := by decide +kernel
theorem dX12_areMeeting_127 : decode cX12_areMeeting 127 = .ok (.iinc 4 1, 3) := by decide +kernel
theorem dX12_areMeeting_130 : decode cX12_areMeeting 130 = .ok (.goto (-125), 3) := by decide +kernel
theorem dX12_areMeeting_133 : decode cX12_areMeeting 133 = .ok (.iload_n 3, 1) := by decide +kernel
theorem dX12_areMeeting_134 : decode cX12_areMeeting 134 = .ok (.ireturn, 1) := by decide +kernel
theorem dX12_isOver_0 : decode cX12_isOver 0 = .ok (.iconst 1, 1) := by decide +kernel
theorem dX12_isOver_1 : decode cX12_isOver 1 = .ok (.istore_n 3, 1) := by decide +kernel
theorem dX12_isOver_2 : decode cX12_isOver 2 = .ok (.iconst 1, 1) := by decide +kernel
theorem dX12_isOver_3 : decode cX12_isOver 3 = .ok (.istore 4, 2) := by decide +kernel
theorem dX12_isOver_5 : decode cX12_isOver 5 = .ok (.iload 4, 2) := by decide +kernel
theorem dX12_isOver_7 : decode cX12_isOver 7 = .ok (.iconst 4, 1) := by decide +kernel
theorem dX12_isOver_8 : decode cX12_isOver 8 = .ok (.if_icmp .gt 103, 3) := by decide +kernel
theorem dX12_isOver_11 : decode cX12_isOver 11 = .ok (.aload_n 0, 1) := by decide +kernel
theorem dX12_isOver_12 : decode cX12_isOver 12 = .ok (.iload_n 1, 1) := by decide +kernel
theorem dX12_isOver_13 : decode cX12_isOver 13 = .ok (.iload 4, 2) := by decide +kernel
theorem dX12_isOver_15 : decode cX12_isOver 15 = .ok (.invokevirtual 222, 3) := by decide +kernel
theorem dX12_isOver_18 : decode cX12_isOver 18 = .ok (.istore 5, 2) := by decide +kernel
theorem dX12_isOver_20 : decode cX12_isOver 20 = .ok (.iconst 0, 1) := by decide +kernel
theorem dX12_isOver_21 : decode cX12_isOver 21 = .ok (.istore 6, 2) := by decide +kernel
theorem dX12_isOver_23 : decode cX12_isOver 23 = .ok (.iload 6, 2) := by decide +kernel
theorem dX12_isOver_25 : decode cX12_isOver 25 = .ok (.iload 4, 2) := by decide +kernel
theorem dX12_isOver_27 : decode cX12_isOver 27 = .ok (.if_icmp .ge 53, 3) := by decide +kernel
theorem dX12_isOver_30 : decode cX12_isOver 30 = .ok (.iload 5, 2) := by decide +kernel
theorem dX12_isOver_32 : decode cX12_isOver 32 = .ok (.ifCond .eq 48, 3) := by decide +kernel
theorem dX12_isOver_35 : decode cX12_isOver 35 = .ok (.aload_n 0, 1) := by decide +kernel
theorem dX12_isOver_36 : decode cX12_isOver 36 = .ok (.iload_n 1, 1) := by decide +kernel
theorem dX12_isOver_37 : decode cX12_isOver 37 = .ok (.iload 6, 2) := by decide +kernel
theorem dX12_isOver_39 : decode cX12_isOver 39 = .ok (.invokevirtual 225, 3) := by decide +kernel
theorem dX12_isOver_42 : decode cX12_isOver 42 = .ok (.ldc2_w 76, 3) := by decide +kernel
theorem dX12_isOver_45 : decode cX12_isOver 45 = .ok (.lcmp, 1) := by decide +kernel
theorem dX12_isOver_46 : decode cX12_isOver 46 = .ok (.ifCond .eq 21, 3) := by decide +kernel
theorem dX12_isOver_49 : decode cX12_isOver 49 = .ok (.aload_n 0, 1) := by decide +kernel
theorem dX12_isOver_50 : decode cX12_isOver 50 = .ok (.iload_n 1, 1) := by decide +kernel
theorem dX12_isOver_51 : decode cX12_isOver 51 = .ok (.iload 6, 2) := by decide +kernel
theorem dX12_isOver_53 : decode cX12_isOver 53 = .ok (.invokevirtual 225, 3) := by decide +kernel
theorem dX12_isOver_56 : decode cX12_isOver 56 = .ok (.aload_n 0, 1) := by decide +kernel
theorem dX12_isOver_57 : decode cX12_isOver 57 = .ok (.iload_n 2, 1) := by decide +kernel
theorem dX12_isOver_58 : decode cX12_isOver 58 = .ok (.iload 6, 2) := by decide +kernel
theorem dX12_isOver_60 : decode cX12_isOver 60 = .ok (.invokevirtual 225, 3) := by decide +kernel
theorem dX12_isOver_63 : decode cX12_isOver 63 = .ok (.lcmp, 1) := by decide +kernel
theorem dX12_isOver_64 : decode cX12_isOver 64 = .ok (.ifCond .ne 7, 3) := by decide +kernel
theorem dX12_isOver_67 : decode cX12_isOver 67 = .ok (.iconst 1, 1) := by decide +kernel
theorem dX12_isOver_68 : decode cX12_isOver 68 = .ok (.goto 4, 3) := by decide +kernel
theorem dX12_isOver_71 : decode cX12_isOver 71 = .ok (.iconst 0, 1) := by decide +kernel
theorem dX12_isOver_72 : decode cX12_isOver 72 = .ok (.istore 5, 2) := by decide +kernel
theorem dX12_isOver_74 : decode cX12_isOver 74 = .ok (.iinc 6 1, 3) := by decide +kernel
theorem dX12_isOver_77 : decode cX12_isOver 77 = .ok (.goto (-54), 3) := by decide +kernel
theorem dX12_isOver_80 : decode cX12_isOver 80 = .ok (.iload_n 3, 1) := by decide +kernel
theorem dX12_isOver_81 : decode cX12_isOver 81 = .ok (.ifCond .eq 22, 3) := by decide +kernel
theorem dX12_isOver_84 : decode cX12_isOver 84 = .ok (.iload 5, 2) := by decide +kernel
theorem dX12_isOver_86 : decode cX12_isOver 86 = .ok (.ifCond .ne 13, 3) := by decide +kernel
theorem dX12_isOver_89 : decode cX12_isOver 89 = .ok (.aload_n 0, 1) := by decide +kernel
theorem dX12_isOver_90 : decode cX12_isOver 90 = .ok (.iload_n 2, 1) := by decide +kernel
theorem dX12_isOver_91 : decode cX12_isOver 91 = .ok (.iload 4, 2) := by decide +kernel
theorem dX12_isOver_93 : decode cX12_isOver 93 = .ok (.invokevirtual 222, 3) := by decide +kernel
theorem dX12_isOver_96 : decode cX12_isOver 96 = .ok (.ifCond .ne 7, 3) := by decide +kernel
theorem dX12_isOver_99 : decode cX12_isOver 99 = .ok (.iconst 1, 1) := by decide +kernel
theorem dX12_isOver_100 : decode cX12_isOver 100 = .ok (.goto 4, 3) := by decide +kernel
theorem dX12_isOver_103 : decode cX12_isOver 103 = .ok (.iconst 0, 1) := by decide +kernel
theorem dX12_isOver_104 : decode cX12_isOver 104 = .ok (.istore_n 3, 1) := by decide +kernel
theorem dX12_isOver_105 : decode cX12_isOver 105 = .ok (.iinc 4 1, 3) := by decide +kernel
theorem dX12_isOver_108 : decode cX12_isOver 108 = .ok (.goto (-103), 3) := by decide +kernel
theorem dX12_isOver_111 : decode cX12_isOver 111 = .ok (.iload_n 3, 1) := by decide +kernel
theorem dX12_isOver_112 : decode cX12_isOver 112 = .ok (.ireturn, 1) := by decide +kernel
theorem dX12_relation_0 : decode cX12_relation 0 = .ok (.aload_n 0, 1) := by decide +kernel
theorem dX12_relation_1 : decode cX12_relation 1 = .ok (.iconst 0, 1) := by decide +kernel
theorem dX12_relation_2 : decode cX12_relation 2 = .ok (.putfield 52, 3) := by decide +kernel
theorem dX12_relation_5 : decode cX12_relation 5 = .ok (.aload_n 0, 1) := by decide +kernel
theorem dX12_relation_6 : decode cX12_relation 6 = .ok (.iload_n 1, 1) := by decide +kernel
theorem dX12_relation_7 : decode cX12_relation 7 = .ok (.iload_n 2, 1) := by decide +kernel
theorem dX12_relation_8 : decode cX12_relation 8 = .ok (.invokevirtual 216, 3) := by decide +kernel
theorem dX12_relation_11 : decode cX12_relation 11 = .ok (.ifCond .eq 12, 3) := by decide +kernel
theorem dX12_relation_14 : decode cX12_relation 14 = .ok (.aload_n 0, 1) := by decide +kernel
theorem dX12_relation_15 : decode cX12_relation 15 = .ok (.iload_n 1, 1) := by decide +kernel
theorem dX12_relation_16 : decode cX12_relation 16 = .ok (.iload_n 3, 1) := by decide +kernel
theorem dX12_relation_17 : decode cX12_relation 17 = .ok (.invokevirtual 216, 3) := by decide +kernel
theorem dX12_relation_20 : decode cX12_relation 20 = .ok (.ifCond .ne 9, 3) := by decide +kernel
theorem dX12_relation_23 : decode cX12_relation 23 = .ok (.aload_n 0, 1) := by decide +kernel
theorem dX12_relation_24 : decode cX12_relation 24 = .ok (.iconst 1, 1) := by decide +kernel
theorem dX12_relation_25 : decode cX12_relation 25 = .ok (.invokevirtual 86, 3) := by decide +kernel
theorem dX12_relation_28 : decode cX12_relation 28 = .ok (.ireturn, 1) := by decide +kernel
theorem dX12_relation_29 : decode cX12_relation 29 = .ok (.bipush 6, 2) := by decide +kernel
theorem dX12_relation_31 : decode cX12_relation 31 = .ok (.iload_n 1, 1) := by decide +kernel
theorem dX12_relation_32 : decode cX12_relation 32 = .ok (.imul, 1) := by decide +kernel
theorem dX12_relation_33 : decode cX12_relation 33 = .ok (.iload_n 2, 1) := by decide +kernel
theorem dX12_relation_34 : decode cX12_relation 34 = .ok (.iadd, 1) := by decide +kernel
theorem dX12_relation_35 : decode cX12_relation 35 = .ok (.istore 4, 2) := by decide +kernel
theorem dX12_relation_37 : decode cX12_relation 37 = .ok (.bipush 6, 2) := by decide +kernel
theorem dX12_relation_39 : decode cX12_relation 39 = .ok (.iload_n 1, 1) := by decide +kernel
theorem dX12_relation_40 : decode cX12_relation 40 = .ok (.imul, 1) := by decide +kernel
theorem dX12_relation_41 : decode cX12_relation 41 = .ok (.iload_n 3, 1) := by decide +kernel
theorem dX12_relation_42 : decode cX12_relation 42 = .ok (.iadd, 1) := by decide +kernel
theorem dX12_relation_43 : decode cX12_relation 43 = .ok (.istore 5, 2) := by decide +kernel
theorem dX12_relation_45 : decode cX12_relation 45 = .ok (.aload_n 0, 1) := by decide +kernel
theorem dX12_relation_46 : decode cX12_relation 46 = .ok (.iload 4, 2) := by decide +kernel
theorem dX12_relation_48 : decode cX12_relation 48 = .ok (.iload 5, 2) := by decide +kernel
theorem dX12_relation_50 : decode cX12_relation 50 = .ok (.invokevirtual 229, 3) := by decide +kernel
theorem dX12_relation_53 : decode cX12_relation 53 = .ok (.ifCond .eq 41, 3) := by decide +kernel
theorem dX12_relation_56 : decode cX12_relation 56 = .ok (.iconst 1, 1) := by decide +kernel
theorem dX12_relation_57 : decode cX12_relation 57 = .ok (.aload_n 0, 1) := by decide +kernel
theorem dX12_relation_58 : decode cX12_relation 58 = .ok (.iload 4, 2) := by decide +kernel
theorem dX12_relation_60 : decode cX12_relation 60 = .ok (.iload 5, 2) := by decide +kernel
theorem dX12_relation_62 : decode cX12_relation 62 = .ok (.invokevirtual 232, 3) := by decide +kernel
theorem dX12_relation_65 : decode cX12_relation 65 = .ok (.ifCond .eq 7, 3) := by decide +kernel
theorem dX12_relation_68 : decode cX12_relation 68 = .ok (.iconst 2, 1) := by decide +kernel
theorem dX12_relation_69 : decode cX12_relation 69 = .ok (.goto 4, 3) := by decide +kernel
theorem dX12_relation_72 : decode cX12_relation 72 = .ok (.iconst 0, 1) := by decide +kernel
theorem dX12_relation_73 : decode cX12_relation 73 = .ok (.iadd, 1) := by decide +kernel
theorem dX12_relation_74 : decode cX12_relation 74 = .ok (.aload_n 0, 1) := by decide +kernel
theorem dX12_relation_75 : decode cX12_relation 75 = .ok (.iload 5, 2) := by decide +kernel
theorem dX12_relation_77 : decode cX12_relation 77 = .ok (.iload 4, 2) := by decide +kernel
theorem dX12_relation_79 : decode cX12_relation 79 = .ok (.invokevirtual 232, 3) := by decide +kernel
theorem dX12_relation_82 : decode cX12_relation 82 = .ok (.ifCond .eq 7, 3) := by decide +kernel
theorem dX12_relation_85 : decode cX12_relation 85 = .ok (.iconst 4, 1) := by decide +kernel
theorem dX12_relation_86 : decode cX12_relation 86 = .ok (.goto 4, 3) := by decide +kernel
theorem dX12_relation_89 : decode cX12_relation 89 = .ok (.iconst 0, 1) := by decide +kernel
theorem dX12_relation_90 : decode cX12_relation 90 = .ok (.iadd, 1) := by decide +kernel
theorem dX12_relation_91 : decode cX12_relation 91 = .ok (.goto 4, 3) := by decide +kernel
theorem dX12_relation_94 : decode cX12_relation 94 = .ok (.iconst 0, 1) := by decide +kernel
theorem dX12_relation_95 : decode cX12_relation 95 = .ok (.ireturn, 1) := by decide +kernel
theorem dX12_shareOf_0 : decode cX12_shareOf 0 = .ok (.iconst (-1), 1) := by decide +kernel
theorem dX12_shareOf_1 : decode cX12_shareOf 1 = .ok (.istore_n 2, 1) := by decide +kernel
theorem dX12_shareOf_2 : decode cX12_shareOf 2 = .ok (.iconst 0, 1) := by decide +kernel
theorem dX12_shareOf_3 : decode cX12_shareOf 3 = .ok (.istore_n 3, 1) := by decide +kernel
theorem dX12_shareOf_4 : decode cX12_shareOf 4 = .ok (.iload_n 3, 1) := by decide +kernel
theorem dX12_shareOf_5 : decode cX12_shareOf 5 = .ok (.aload_n 0, 1) := by decide +kernel
theorem dX12_shareOf_6 : decode cX12_shareOf 6 = .ok (.getfield 9, 3) := by decide +kernel
theorem dX12_shareOf_9 : decode cX12_shareOf 9 = .ok (.bipush 16, 2) := by decide +kernel
theorem dX12_shareOf_11 : decode cX12_shareOf 11 = .ok (.iaload, 1) := by decide +kernel
theorem dX12_shareOf_12 : decode cX12_shareOf 12 = .ok (.if_icmp .ge 51, 3) := by decide +kernel
theorem dX12_shareOf_15 : decode cX12_shareOf 15 = .ok (.aload_n 0, 1) := by decide +kernel
theorem dX12_shareOf_16 : decode cX12_shareOf 16 = .ok (.getfield 9, 3) := by decide +kernel
theorem dX12_shareOf_19 : decode cX12_shareOf 19 = .ok (.sipush 1794, 3) := by decide +kernel
theorem dX12_shareOf_22 : decode cX12_shareOf 22 = .ok (.iload_n 3, 1) := by decide +kernel
theorem dX12_shareOf_23 : decode cX12_shareOf 23 = .ok (.iadd, 1) := by decide +kernel
theorem dX12_shareOf_24 : decode cX12_shareOf 24 = .ok (.iaload, 1) := by decide +kernel
theorem dX12_shareOf_25 : decode cX12_shareOf 25 = .ok (.iload_n 1, 1) := by decide +kernel
theorem dX12_shareOf_26 : decode cX12_shareOf 26 = .ok (.if_icmp .ne 29, 3) := by decide +kernel
theorem dX12_shareOf_29 : decode cX12_shareOf 29 = .ok (.aload_n 0, 1) := by decide +kernel
theorem dX12_shareOf_30 : decode cX12_shareOf 30 = .ok (.getfield 13, 3) := by decide +kernel
theorem dX12_shareOf_33 : decode cX12_shareOf 33 = .ok (.sipush 1256, 3) := by decide +kernel
theorem dX12_shareOf_36 : decode cX12_shareOf 36 = .ok (.iconst 4, 1) := by decide +kernel
theorem dX12_shareOf_37 : decode cX12_shareOf 37 = .ok (.iload_n 3, 1) := by decide +kernel
theorem dX12_shareOf_38 : decode cX12_shareOf 38 = .ok (.imul, 1) := by decide +kernel
theorem dX12_shareOf_39 : decode cX12_shareOf 39 = .ok (.iadd, 1) := by decide +kernel
theorem dX12_shareOf_40 : decode cX12_shareOf 40 = .ok (.aload_n 0, 1) := by decide +kernel
theorem dX12_shareOf_41 : decode cX12_shareOf 41 = .ok (.getfield 37, 3) := by decide +kernel
theorem dX12_shareOf_44 : decode cX12_shareOf 44 = .ok (.iconst 0, 1) := by decide +kernel
theorem dX12_shareOf_45 : decode cX12_shareOf 45 = .ok (.invokestatic 131, 3) := by decide +kernel
theorem dX12_shareOf_48 : decode cX12_shareOf 48 = .ok (.ifCond .eq 7, 3) := by decide +kernel
theorem dX12_shareOf_51 : decode cX12_shareOf 51 = .ok (.iload_n 3, 1) := by decide +kernel
theorem dX12_shareOf_52 : decode cX12_shareOf 52 = .ok (.goto 4, 3) := by decide +kernel
theorem dX12_shareOf_55 : decode cX12_shareOf 55 = .ok (.iload_n 2, 1) := by decide +kernel
theorem dX12_shareOf_56 : decode cX12_shareOf 56 = .ok (.istore_n 2, 1) := by decide +kernel
theorem dX12_shareOf_57 : decode cX12_shareOf 57 = .ok (.iinc 3 1, 3) := by decide +kernel
theorem dX12_shareOf_60 : decode cX12_shareOf 60 = .ok (.goto (-56), 3) := by decide +kernel
theorem dX12_shareOf_63 : decode cX12_shareOf 63 = .ok (.iload_n 2, 1) := by decide +kernel
theorem dX12_shareOf_64 : decode cX12_shareOf 64 = .ok (.ireturn, 1) := by decide +kernel
theorem dX12_shareSize_0 : decode cX12_shareSize 0 = .ok (.aload_n 0, 1) := by decide +kernel
theorem dX12_shareSize_1 : decode cX12_shareSize 1 = .ok (.iconst 0, 1) := by decide +kernel
theorem dX12_shareSize_2 : decode cX12_shareSize 2 = .ok (.putfield 52, 3) := by decide +kernel
theorem dX12_shareSize_5 : decode cX12_shareSize 5 = .ok (.aload_n 0, 1) := by decide +kernel
theorem dX12_shareSize_6 : decode cX12_shareSize 6 = .ok (.iconst 1, 1) := by decide +kernel
theorem dX12_shareSize_7 : decode cX12_shareSize 7 = .ok (.invokevirtual 203, 3) := by decide +kernel
theorem dX12_shareSize_10 : decode cX12_shareSize 10 = .ok (.ifCond .eq 12, 3) := by decide +kernel
theorem dX12_shareSize_13 : decode cX12_shareSize 13 = .ok (.iload_n 1, 1) := by decide +kernel
theorem dX12_shareSize_14 : decode cX12_shareSize 14 = .ok (.iconst 1, 1) := by decide +kernel
theorem dX12_shareSize_15 : decode cX12_shareSize 15 = .ok (.iconst 3, 1) := by decide +kernel
theorem dX12_shareSize_16 : decode cX12_shareSize 16 = .ok (.invokestatic 55, 3) := by decide +kernel
theorem dX12_shareSize_19 : decode cX12_shareSize 19 = .ok (.ifCond .ne 9, 3) := by decide +kernel
theorem dX12_shareSize_22 : decode cX12_shareSize 22 = .ok (.aload_n 0, 1) := by decide +kernel
theorem dX12_shareSize_23 : decode cX12_shareSize 23 = .ok (.iconst 1, 1) := by decide +kernel
theorem dX12_shareSize_24 : decode cX12_shareSize 24 = .ok (.invokevirtual 86, 3) := by decide +kernel
theorem dX12_shareSize_27 : decode cX12_shareSize 27 = .ok (.ireturn, 1) := by decide +kernel
theorem dX12_shareSize_28 : decode cX12_shareSize 28 = .ok (.aload_n 0, 1) := by decide +kernel
theorem dX12_shareSize_29 : decode cX12_shareSize 29 = .ok (.iload_n 1, 1) := by decide +kernel
theorem dX12_shareSize_30 : decode cX12_shareSize 30 = .ok (.invokevirtual 235, 3) := by decide +kernel
theorem dX12_shareSize_33 : decode cX12_shareSize 33 = .ok (.istore_n 2, 1) := by decide +kernel
theorem dX12_shareSize_34 : decode cX12_shareSize 34 = .ok (.iload_n 2, 1) := by decide +kernel
theorem dX12_shareSize_35 : decode cX12_shareSize 35 = .ok (.iconst (-1), 1) := by decide +kernel
theorem dX12_shareSize_36 : decode cX12_shareSize 36 = .ok (.if_icmp .ne 7, 3) := by decide +kernel
theorem dX12_shareSize_39 : decode cX12_shareSize 39 = .ok (.iconst 0, 1) := by decide +kernel
theorem dX12_shareSize_40 : decode cX12_shareSize 40 = .ok (.goto 13, 3) := by decide +kernel
theorem dX12_shareSize_43 : decode cX12_shareSize 43 = .ok (.aload_n 0, 1) := by decide +kernel
theorem dX12_shareSize_44 : decode cX12_shareSize 44 = .ok (.getfield 9, 3) := by decide +kernel
theorem dX12_shareSize_47 : decode cX12_shareSize 47 = .ok (.sipush 1866, 3) := by decide +kernel
theorem dX12_shareSize_50 : decode cX12_shareSize 50 = .ok (.iload_n 2, 1) := by decide +kernel
theorem dX12_shareSize_51 : decode cX12_shareSize 51 = .ok (.iadd, 1) := by decide +kernel
theorem dX12_shareSize_52 : decode cX12_shareSize 52 = .ok (.iaload, 1) := by decide +kernel
theorem dX12_shareSize_53 : decode cX12_shareSize 53 = .ok (.ireturn, 1) := by decide +kernel
theorem dX12_shareMember_0 : decode cX12_shareMember 0 = .ok (.aload_n 0, 1) := by decide +kernel
theorem dX12_shareMember_1 : decode cX12_shareMember 1 = .ok (.iconst 0, 1) := by decide +kernel
theorem dX12_shareMember_2 : decode cX12_shareMember 2 = .ok (.putfield 52, 3) := by decide +kernel
theorem dX12_shareMember_5 : decode cX12_shareMember 5 = .ok (.aload_n 0, 1) := by decide +kernel
theorem dX12_shareMember_6 : decode cX12_shareMember 6 = .ok (.iconst 1, 1) := by decide +kernel
theorem dX12_shareMember_7 : decode cX12_shareMember 7 = .ok (.invokevirtual 203, 3) := by decide +kernel
theorem dX12_shareMember_10 : decode cX12_shareMember 10 = .ok (.ifCond .eq 12, 3) := by decide +kernel
theorem dX12_shareMember_13 : decode cX12_shareMember 13 = .ok (.iload_n 1, 1) := by decide +kernel
theorem dX12_shareMember_14 : decode cX12_shareMember 14 = .ok (.iconst 1, 1) := by decide +kernel
theorem dX12_shareMember_15 : decode cX12_shareMember 15 = .ok (.iconst 3, 1) := by decide +kernel
theorem dX12_shareMember_16 : decode cX12_shareMember 16 = .ok (.invokestatic 55, 3) := by decide +kernel
theorem dX12_shareMember_19 : decode cX12_shareMember 19 = .ok (.ifCond .ne 9, 3) := by decide +kernel
theorem dX12_shareMember_22 : decode cX12_shareMember 22 = .ok (.aload_n 0, 1) := by decide +kernel
theorem dX12_shareMember_23 : decode cX12_shareMember 23 = .ok (.iconst 1, 1) := by decide +kernel
theorem dX12_shareMember_24 : decode cX12_shareMember 24 = .ok (.invokevirtual 86, 3) := by decide +kernel
theorem dX12_shareMember_27 : decode cX12_shareMember 27 = .ok (.ireturn, 1) := by decide +kernel
theorem dX12_shareMember_28 : decode cX12_shareMember 28 = .ok (.aload_n 0, 1) := by decide +kernel
theorem dX12_shareMember_29 : decode cX12_shareMember 29 = .ok (.iload_n 1, 1) := by decide +kernel
theorem dX12_shareMember_30 : decode cX12_shareMember 30 = .ok (.invokevirtual 235, 3) := by decide +kernel
theorem dX12_shareMember_33 : decode cX12_shareMember 33 = .ok (.istore_n 3, 1) := by decide +kernel
theorem dX12_shareMember_34 : decode cX12_shareMember 34 = .ok (.iload_n 3, 1) := by decide +kernel
theorem dX12_shareMember_35 : decode cX12_shareMember 35 = .ok (.iconst (-1), 1) := by decide +kernel
theorem dX12_shareMember_36 : decode cX12_shareMember 36 = .ok (.if_icmp .eq 23, 3) := by decide +kernel
theorem dX12_shareMember_39 : decode cX12_shareMember 39 = .ok (.iload_n 2, 1) := by decide +kernel
theorem dX12_shareMember_40 : decode cX12_shareMember 40 = .ok (.iconst 0, 1) := by decide +kernel
theorem dX12_shareMember_41 : decode cX12_shareMember 41 = .ok (.aload_n 0, 1) := by decide +kernel
theorem dX12_shareMember_42 : decode cX12_shareMember 42 = .ok (.getfield 9, 3) := by decide +kernel
theorem dX12_shareMember_45 : decode cX12_shareMember 45 = .ok (.sipush 1866, 3) := by decide +kernel
theorem dX12_shareMember_48 : decode cX12_shareMember 48 = .ok (.iload_n 3, 1) := by decide +kernel
theorem dX12_shareMember_49 : decode cX12_shareMember 49 = .ok (.iadd, 1) := by decide +kernel
theorem dX12_shareMember_50 : decode cX12_shareMember 50 = .ok (.iaload, 1) := by decide +kernel
theorem dX12_shareMember_51 : decode cX12_shareMember 51 = .ok (.iconst 1, 1) := by decide +kernel
theorem dX12_shareMember_52 : decode cX12_shareMember 52 = .ok (.isub, 1) := by decide +kernel
theorem dX12_shareMember_53 : decode cX12_shareMember 53 = .ok (.invokestatic 55, 3) := by decide +kernel
theorem dX12_shareMember_56 : decode cX12_shareMember 56 = .ok (.ifCond .ne 9, 3) := by decide +kernel
theorem dX12_shareMember_59 : decode cX12_shareMember 59 = .ok (.aload_n 0, 1) := by decide +kernel
theorem dX12_shareMember_60 : decode cX12_shareMember 60 = .ok (.iconst 2, 1) := by decide +kernel
theorem dX12_shareMember_61 : decode cX12_shareMember 61 = .ok (.invokevirtual 86, 3) := by decide +kernel
theorem dX12_shareMember_64 : decode cX12_shareMember 64 = .ok (.ireturn, 1) := by decide +kernel
theorem dX12_shareMember_65 : decode cX12_shareMember 65 = .ok (.aload_n 0, 1) := by decide +kernel
theorem dX12_shareMember_66 : decode cX12_shareMember 66 = .ok (.getfield 9, 3) := by decide +kernel
theorem dX12_shareMember_69 : decode cX12_shareMember 69 = .ok (.sipush 1902, 3) := by decide +kernel
theorem dX12_shareMember_72 : decode cX12_shareMember 72 = .ok (.bipush 6, 2) := by decide +kernel
theorem dX12_shareMember_74 : decode cX12_shareMember 74 = .ok (.iload_n 3, 1) := by decide +kernel
theorem dX12_shareMember_75 : decode cX12_shareMember 75 = .ok (.imul, 1) := by decide +kernel
theorem dX12_shareMember_76 : decode cX12_shareMember 76 = .ok (.iadd, 1) := by decide +kernel
theorem dX12_shareMember_77 : decode cX12_shareMember 77 = .ok (.iload_n 2, 1) := by decide +kernel
theorem dX12_shareMember_78 : decode cX12_shareMember 78 = .ok (.iadd, 1) := by decide +kernel
theorem dX12_shareMember_79 : decode cX12_shareMember 79 = .ok (.iaload, 1) := by decide +kernel
theorem dX12_shareMember_80 : decode cX12_shareMember 80 = .ok (.ireturn, 1) := by decide +kernel
theorem dX12_refused_0 : decode cX12_refused 0 = .ok (.iload_n 1, 1) := by decide +kernel
theorem dX12_refused_1 : decode cX12_refused 1 = .ok (.invokestatic 191, 3) := by decide +kernel
theorem dX12_refused_4 : decode cX12_refused 4 = .ok (.ifCond .ne 5, 3) := by decide +kernel
theorem dX12_refused_7 : decode cX12_refused 7 = .ok (.iconst 1, 1) := by decide +kernel
theorem dX12_refused_8 : decode cX12_refused 8 = .ok (.ireturn, 1) := by decide +kernel
theorem dX12_refused_9 : decode cX12_refused 9 = .ok (.aload_n 0, 1) := by decide +kernel
theorem dX12_refused_10 : decode cX12_refused 10 = .ok (.iload_n 1, 1) := by decide +kernel
theorem dX12_refused_11 : decode cX12_refused 11 = .ok (.invokevirtual 107, 3) := by decide +kernel
theorem dX12_refused_14 : decode cX12_refused 14 = .ok (.ifCond .eq 7, 3) := by decide +kernel
theorem dX12_refused_17 : decode cX12_refused 17 = .ok (.iconst 0, 1) := by decide +kernel
theorem dX12_refused_18 : decode cX12_refused 18 = .ok (.goto 4, 3) := by decide +kernel
theorem dX12_refused_21 : decode cX12_refused 21 = .ok (.iconst 2, 1) := by decide +kernel
theorem dX12_refused_22 : decode cX12_refused 22 = .ok (.ireturn, 1) := by decide +kernel
theorem dX12_publish_0 : decode cX12_publish 0 = .ok (.aload_n 0, 1) := by decide +kernel
theorem dX12_publish_1 : decode cX12_publish 1 = .ok (.iconst 0, 1) := by decide +kernel
theorem dX12_publish_2 : decode cX12_publish 2 = .ok (.putfield 52, 3) := by decide +kernel
theorem dX12_publish_5 : decode cX12_publish 5 = .ok (.iload_n 1, 1) := by decide +kernel
theorem dX12_publish_6 : decode cX12_publish 6 = .ok (.invokestatic 191, 3) := by decide +kernel
theorem dX12_publish_9 : decode cX12_publish 9 = .ok (.ifCond .ne 9, 3) := by decide +kernel
theorem dX12_publish_12 : decode cX12_publish 12 = .ok (.aload_n 0, 1) := by decide +kernel
theorem dX12_publish_13 : decode cX12_publish 13 = .ok (.iconst 1, 1) := by decide +kernel
theorem dX12_publish_14 : decode cX12_publish 14 = .ok (.invokevirtual 200, 3) := by decide +kernel
theorem dX12_publish_17 : decode cX12_publish 17 = .ok (.ireturn, 1) := by decide +kernel
theorem dX12_publish_18 : decode cX12_publish 18 = .ok (.aload_n 0, 1) := by decide +kernel
theorem dX12_publish_19 : decode cX12_publish 19 = .ok (.iconst 0, 1) := by decide +kernel
theorem dX12_publish_20 : decode cX12_publish 20 = .ok (.invokevirtual 203, 3) := by decide +kernel
theorem dX12_publish_23 : decode cX12_publish 23 = .ok (.ifCond .eq 38, 3) := by decide +kernel
theorem dX12_publish_26 : decode cX12_publish 26 = .ok (.iload_n 2, 1) := by decide +kernel
theorem dX12_publish_27 : decode cX12_publish 27 = .ok (.iconst 0, 1) := by decide +kernel
theorem dX12_publish_28 : decode cX12_publish 28 = .ok (.iconst 2, 1) := by decide +kernel
theorem dX12_publish_29 : decode cX12_publish 29 = .ok (.invokestatic 55, 3) := by decide +kernel
theorem dX12_publish_32 : decode cX12_publish 32 = .ok (.ifCond .eq 29, 3) := by decide +kernel
theorem dX12_publish_35 : decode cX12_publish 35 = .ok (.iload_n 2, 1) := by decide +kernel
theorem dX12_publish_36 : decode cX12_publish 36 = .ok (.ifCond .le 13, 3) := by decide +kernel
theorem dX12_publish_39 : decode cX12_publish 39 = .ok (.iload_n 3, 1) := by decide +kernel
theorem dX12_publish_40 : decode cX12_publish 40 = .ok (.iconst 1, 1) := by decide +kernel
theorem dX12_publish_41 : decode cX12_publish 41 = .ok (.bipush 50, 2) := by decide +kernel
theorem dX12_publish_43 : decode cX12_publish 43 = .ok (.invokestatic 55, 3) := by decide +kernel
theorem dX12_publish_46 : decode cX12_publish 46 = .ok (.ifCond .eq 15, 3) := by decide +kernel
theorem dX12_publish_49 : decode cX12_publish 49 = .ok (.iload 5, 2) := by decide +kernel
theorem dX12_publish_51 : decode cX12_publish 51 = .ok (.iconst 0, 1) := by decide +kernel
theorem dX12_publish_52 : decode cX12_publish 52 = .ok (.sipush 9999, 3) := by decide +kernel
theorem dX12_publish_55 : decode cX12_publish 55 = .ok (.invokestatic 55, 3) := by decide +kernel
theorem dX12_publish_58 : decode cX12_publish 58 = .ok (.ifCond .ne 9, 3) := by decide +kernel
theorem dX12_publish_61 : decode cX12_publish 61 = .ok (.aload_n 0, 1) := by decide +kernel
theorem dX12_publish_62 : decode cX12_publish 62 = .ok (.iconst 2, 1) := by decide +kernel
theorem dX12_publish_63 : decode cX12_publish 63 = .ok (.invokevirtual 86, 3) := by decide +kernel
theorem dX12_publish_66 : decode cX12_publish 66 = .ok (.ireturn, 1) := by decide +kernel
theorem dX12_publish_67 : decode cX12_publish 67 = .ok (.aload_n 0, 1) := by decide +kernel
theorem dX12_publish_68 : decode cX12_publish 68 = .ok (.iload_n 1, 1) := by decide +kernel
theorem dX12_publish_69 : decode cX12_publish 69 = .ok (.invokevirtual 107, 3) := by decide +kernel
theorem dX12_publish_72 : decode cX12_publish 72 = .ok (.ifCond .ne 9, 3) := by decide +kernel
theorem dX12_publish_75 : decode cX12_publish 75 = .ok (.aload_n 0, 1) := by decide +kernel
theorem dX12_publish_76 : decode cX12_publish 76 = .ok (.iconst 3, 1) := by decide +kernel
theorem dX12_publish_77 : decode cX12_publish 77 = .ok (.invokevirtual 86, 3) := by decide +kernel
theorem dX12_publish_80 : decode cX12_publish 80 = .ok (.ireturn, 1) := by decide +kernel
theorem dX12_publish_81 : decode cX12_publish 81 = .ok (.bipush 104, 2) := by decide +kernel
theorem dX12_publish_83 : decode cX12_publish 83 = .ok (.bipush 51, 2) := by decide +kernel
theorem dX12_publish_85 : decode cX12_publish 85 = .ok (.iload_n 1, 1) := by decide +kernel
theorem dX12_publish_86 : decode cX12_publish 86 = .ok (.imul, 1) := by decide +kernel
theorem dX12_publish_87 : decode cX12_publish 87 = .ok (.iadd, 1) := by decide +kernel
theorem dX12_publish_88 : decode cX12_publish 88 = .ok (.iload_n 2, 1) := by decide +kernel
theorem dX12_publish_89 : decode cX12_publish 89 = .ok (.iconst 2, 1) := by decide +kernel
theorem dX12_publish_90 : decode cX12_publish 90 = .ok (.if_icmp .ne 7, 3) := by decide +kernel
theorem dX12_publish_93 : decode cX12_publish 93 = .ok (.iload_n 3, 1) := by decide +kernel
theorem dX12_publish_94 : decode cX12_publish 94 = .ok (.goto 4, 3) := by decide +kernel
theorem dX12_publish_97 : decode cX12_publish 97 = .ok (.iconst 0, 1) := by decide +kernel
theorem dX12_publish_98 : decode cX12_publish 98 = .ok (.iadd, 1) := by decide +kernel
theorem dX12_publish_99 : decode cX12_publish 99 = .ok (.istore 6, 2) := by decide +kernel
theorem dX12_publish_101 : decode cX12_publish 101 = .ok (.iload_n 2, 1) := by decide +kernel
theorem dX12_publish_102 : decode cX12_publish 102 = .ok (.iconst 2, 1) := by decide +kernel
theorem dX12_publish_103 : decode cX12_publish 103 = .ok (.if_icmp .ne 18, 3) := by decide +kernel
theorem dX12_publish_106 : decode cX12_publish 106 = .ok (.aload_n 0, 1) := by decide +kernel
theorem dX12_publish_107 : decode cX12_publish 107 = .ok (.getfield 9, 3) := by decide +kernel
theorem dX12_publish_110 : decode cX12_publish 110 = .ok (.iload 6, 2) := by decide +kernel
theorem dX12_publish_112 : decode cX12_publish 112 = .ok (.iaload, 1) := by decide +kernel
theorem dX12_publish_113 : decode cX12_publish 113 = .ok (.iconst 1, 1) := by decide +kernel
theorem dX12_publish_114 : decode cX12_publish 114 = .ok (.if_icmp .ne 7, 3) := by decide +kernel
theorem dX12_publish_117 : decode cX12_publish 117 = .ok (.iconst 1, 1) := by decide +kernel
theorem dX12_publish_118 : decode cX12_publish 118 = .ok (.goto 4, 3) := by decide +kernel
theorem dX12_publish_121 : decode cX12_publish 121 = .ok (.iconst 0, 1) := by decide +kernel
theorem dX12_publish_122 : decode cX12_publish 122 = .ok (.istore 7, 2) := by decide +kernel
theorem dX12_publish_124 : decode cX12_publish 124 = .ok (.iconst 0, 1) := by decide +kernel
theorem dX12_publish_125 : decode cX12_publish 125 = .ok (.istore 8, 2) := by decide +kernel
theorem dX12_publish_127 : decode cX12_publish 127 = .ok (.iload 7, 2) := by decide +kernel
theorem dX12_publish_129 : decode cX12_publish 129 = .ok (.ifCond .eq 17, 3) := by decide +kernel
theorem dX12_publish_132 : decode cX12_publish 132 = .ok (.aload_n 0, 1) := by decide +kernel
theorem dX12_publish_133 : decode cX12_publish 133 = .ok (.getfield 9, 3) := by decide +kernel
theorem dX12_publish_136 : decode cX12_publish 136 = .ok (.bipush 8, 2) := by decide +kernel
theorem dX12_publish_138 : decode cX12_publish 138 = .ok (.dup2, 1) := by decide +kernel
theorem dX12_publish_139 : decode cX12_publish 139 = .ok (.iaload, 1) := by decide +kernel
theorem dX12_publish_140 : decode cX12_publish 140 = .ok (.iconst 1, 1) := by decide +kernel
theorem dX12_publish_141 : decode cX12_publish 141 = .ok (.iadd, 1) := by decide +kernel
theorem dX12_publish_142 : decode cX12_publish 142 = .ok (.iastore, 1) := by decide +kernel
theorem dX12_publish_143 : decode cX12_publish 143 = .ok (.goto 28, 3) := by decide +kernel
theorem dX12_publish_146 : decode cX12_publish 146 = .ok (.aload_n 0, 1) := by decide +kernel
theorem dX12_publish_147 : decode cX12_publish 147 = .ok (.getfield 37, 3) := by decide +kernel
theorem dX12_publish_150 : decode cX12_publish 150 = .ok (.iconst 0, 1) := by decide +kernel
theorem dX12_publish_151 : decode cX12_publish 151 = .ok (.aload_n 0, 1) := by decide +kernel
theorem dX12_publish_152 : decode cX12_publish 152 = .ok (.getfield 40, 3) := by decide +kernel
theorem dX12_publish_155 : decode cX12_publish 155 = .ok (.iconst 0, 1) := by decide +kernel
theorem dX12_publish_156 : decode cX12_publish 156 = .ok (.invokestatic 97, 3) := by decide +kernel
theorem dX12_publish_159 : decode cX12_publish 159 = .ok (.aload_n 0, 1) := by decide +kernel
theorem dX12_publish_160 : decode cX12_publish 160 = .ok (.iload_n 1, 1) := by decide +kernel
theorem dX12_publish_161 : decode cX12_publish 161 = .ok (.iload_n 2, 1) := by decide +kernel
theorem dX12_publish_162 : decode cX12_publish 162 = .ok (.iload 4, 2) := by decide +kernel
theorem dX12_publish_164 : decode cX12_publish 164 = .ok (.iload 5, 2) := by decide +kernel
theorem dX12_publish_166 : decode cX12_publish 166 = .ok (.invokevirtual 187, 3) := by decide +kernel
theorem dX12_publish_169 : decode cX12_publish 169 = .ok (.istore 8, 2) := by decide +kernel
theorem dX12_publish_171 : decode cX12_publish 171 = .ok (.iload_n 2, 1) := by decide +kernel
theorem dX12_publish_172 : decode cX12_publish 172 = .ok (.iconst 2, 1) := by decide +kernel
theorem dX12_publish_173 : decode cX12_publish 173 = .ok (.if_icmp .ne 11, 3) := by decide +kernel
theorem dX12_publish_176 : decode cX12_publish 176 = .ok (.aload_n 0, 1) := by decide +kernel
theorem dX12_publish_177 : decode cX12_publish 177 = .ok (.getfield 9, 3) := by decide +kernel
theorem dX12_publish_180 : decode cX12_publish 180 = .ok (.iload 6, 2) := by decide +kernel
theorem dX12_publish_182 : decode cX12_publish 182 = .ok (.iconst 1, 1) := by decide +kernel
theorem dX12_publish_183 : decode cX12_publish 183 = .ok (.iastore, 1) := by decide +kernel
theorem dX12_publish_184 : decode cX12_publish 184 = .ok (.iload_n 2, 1) := by decide +kernel
theorem dX12_publish_185 : decode cX12_publish 185 = .ok (.ifCond .le 10, 3) := by decide +kernel
theorem dX12_publish_188 : decode cX12_publish 188 = .ok (.aload_n 0, 1) := by decide +kernel
theorem dX12_publish_189 : decode cX12_publish 189 = .ok (.iload_n 1, 1) := by decide +kernel
theorem dX12_publish_190 : decode cX12_publish 190 = .ok (.iload_n 2, 1) := by decide +kernel
theorem dX12_publish_191 : decode cX12_publish 191 = .ok (.iload_n 3, 1) := by decide +kernel
theorem dX12_publish_192 : decode cX12_publish 192 = .ok (.invokevirtual 123, 3) := by decide +kernel
theorem dX12_publish_195 : decode cX12_publish 195 = .ok (.iload 8, 2) := by decide +kernel
theorem dX12_publish_197 : decode cX12_publish 197 = .ok (.ireturn, 1) := by decide +kernel
theorem dX12_release_0 : decode cX12_release 0 = .ok (.aload_n 0, 1) := by decide +kernel
theorem dX12_release_1 : decode cX12_release 1 = .ok (.iconst 0, 1) := by decide +kernel
theorem dX12_release_2 : decode cX12_release 2 = .ok (.putfield 52, 3) := by decide +kernel
theorem dX12_release_5 : decode cX12_release 5 = .ok (.iload_n 1, 1) := by decide +kernel
theorem dX12_release_6 : decode cX12_release 6 = .ok (.invokestatic 191, 3) := by decide +kernel
theorem dX12_release_9 : decode cX12_release 9 = .ok (.ifCond .ne 9, 3) := by decide +kernel
theorem dX12_release_12 : decode cX12_release 12 = .ok (.aload_n 0, 1) := by decide +kernel
theorem dX12_release_13 : decode cX12_release 13 = .ok (.iconst 1, 1) := by decide +kernel
theorem dX12_release_14 : decode cX12_release 14 = .ok (.invokevirtual 86, 3) := by decide +kernel
theorem dX12_release_17 : decode cX12_release 17 = .ok (.ireturn, 1) := by decide +kernel
theorem dX12_release_18 : decode cX12_release 18 = .ok (.iload_n 2, 1) := by decide +kernel
theorem dX12_release_19 : decode cX12_release 19 = .ok (.iconst 1, 1) := by decide +kernel
theorem dX12_release_20 : decode cX12_release 20 = .ok (.bipush 50, 2) := by decide +kernel
theorem dX12_release_22 : decode cX12_release 22 = .ok (.invokestatic 55, 3) := by decide +kernel
theorem dX12_release_25 : decode cX12_release 25 = .ok (.ifCond .ne 9, 3) := by decide +kernel
theorem dX12_release_28 : decode cX12_release 28 = .ok (.aload_n 0, 1) := by decide +kernel
theorem dX12_release_29 : decode cX12_release 29 = .ok (.iconst 2, 1) := by decide +kernel
theorem dX12_release_30 : decode cX12_release 30 = .ok (.invokevirtual 86, 3) := by decide +kernel
theorem dX12_release_33 : decode cX12_release 33 = .ok (.ireturn, 1) := by decide +kernel
theorem dX12_release_34 : decode cX12_release 34 = .ok (.aload_n 0, 1) := by decide +kernel
theorem dX12_release_35 : decode cX12_release 35 = .ok (.iload_n 1, 1) := by decide +kernel
theorem dX12_release_36 : decode cX12_release 36 = .ok (.invokevirtual 107, 3) := by decide +kernel
theorem dX12_release_39 : decode cX12_release 39 = .ok (.ifCond .ne 9, 3) := by decide +kernel
theorem dX12_release_42 : decode cX12_release 42 = .ok (.aload_n 0, 1) := by decide +kernel
theorem dX12_release_43 : decode cX12_release 43 = .ok (.iconst 3, 1) := by decide +kernel
theorem dX12_release_44 : decode cX12_release 44 = .ok (.invokevirtual 86, 3) := by decide +kernel
theorem dX12_release_47 : decode cX12_release 47 = .ok (.ireturn, 1) := by decide +kernel
theorem dX12_release_48 : decode cX12_release 48 = .ok (.bipush 104, 2) := by decide +kernel
theorem dX12_release_50 : decode cX12_release 50 = .ok (.bipush 51, 2) := by decide +kernel
theorem dX12_release_52 : decode cX12_release 52 = .ok (.iload_n 1, 1) := by decide +kernel
theorem dX12_release_53 : decode cX12_release 53 = .ok (.imul, 1) := by decide +kernel
theorem dX12_release_54 : decode cX12_release 54 = .ok (.iadd, 1) := by decide +kernel
theorem dX12_release_55 : decode cX12_release 55 = .ok (.iload_n 2, 1) := by decide +kernel
theorem dX12_release_56 : decode cX12_release 56 = .ok (.iadd, 1) := by decide +kernel
theorem dX12_release_57 : decode cX12_release 57 = .ok (.istore_n 3, 1) := by decide +kernel
theorem dX12_release_58 : decode cX12_release 58 = .ok (.aload_n 0, 1) := by decide +kernel
theorem dX12_release_59 : decode cX12_release 59 = .ok (.getfield 9, 3) := by decide +kernel
theorem dX12_release_62 : decode cX12_release 62 = .ok (.iload_n 3, 1) := by decide +kernel
theorem dX12_release_63 : decode cX12_release 63 = .ok (.iaload, 1) := by decide +kernel
theorem dX12_release_64 : decode cX12_release 64 = .ok (.istore 4, 2) := by decide +kernel
theorem dX12_release_66 : decode cX12_release 66 = .ok (.aload_n 0, 1) := by decide +kernel
theorem dX12_release_67 : decode cX12_release 67 = .ok (.getfield 9, 3) := by decide +kernel
theorem dX12_release_70 : decode cX12_release 70 = .ok (.iload_n 3, 1) := by decide +kernel
theorem dX12_release_71 : decode cX12_release 71 = .ok (.iconst 0, 1) := by decide +kernel
theorem dX12_release_72 : decode cX12_release 72 = .ok (.iastore, 1) := by decide +kernel
theorem dX12_release_73 : decode cX12_release 73 = .ok (.aload_n 0, 1) := by decide +kernel
theorem dX12_release_74 : decode cX12_release 74 = .ok (.iload_n 1, 1) := by decide +kernel
theorem dX12_release_75 : decode cX12_release 75 = .ok (.iconst 4, 1) := by decide +kernel
theorem dX12_release_76 : decode cX12_release 76 = .ok (.iload_n 2, 1) := by decide +kernel
theorem dX12_release_77 : decode cX12_release 77 = .ok (.invokevirtual 123, 3) := by decide +kernel
theorem dX12_release_80 : decode cX12_release 80 = .ok (.iload 4, 2) := by decide +kernel
theorem dX12_release_82 : decode cX12_release 82 = .ok (.ireturn, 1) := by decide +kernel
theorem dX12_flightOf_0 : decode cX12_flightOf 0 = .ok (.iconst (-1), 1) := by decide +kernel
theorem dX12_flightOf_1 : decode cX12_flightOf 1 = .ok (.istore_n 3, 1) := by decide +kernel
theorem dX12_flightOf_2 : decode cX12_flightOf 2 = .ok (.iconst 0, 1) := by decide +kernel
theorem dX12_flightOf_3 : decode cX12_flightOf 3 = .ok (.istore 4, 2) := by decide +kernel
theorem dX12_flightOf_5 : decode cX12_flightOf 5 = .ok (.iload 4, 2) := by decide +kernel
theorem dX12_flightOf_7 : decode cX12_flightOf 7 = .ok (.aload_n 0, 1) := by decide +kernel
theorem dX12_flightOf_8 : decode cX12_flightOf 8 = .ok (.getfield 9, 3) := by decide +kernel
theorem dX12_flightOf_11 : decode cX12_flightOf 11 = .ok (.bipush 56, 2) := by decide +kernel
theorem dX12_flightOf_13 : decode cX12_flightOf 13 = .ok (.iload_n 1, 1) := by decide +kernel
theorem dX12_flightOf_14 : decode cX12_flightOf 14 = .ok (.iadd, 1) := by decide +kernel
theorem dX12_flightOf_15 : decode cX12_flightOf 15 = .ok (.iaload, 1) := by decide +kernel
theorem dX12_flightOf_16 : decode cX12_flightOf 16 = .ok (.if_icmp .ge 35, 3) := by decide +kernel
theorem dX12_flightOf_19 : decode cX12_flightOf 19 = .ok (.aload_n 0, 1) := by decide +kernel
theorem dX12_flightOf_20 : decode cX12_flightOf 20 = .ok (.getfield 9, 3) := by decide +kernel
theorem dX12_flightOf_23 : decode cX12_flightOf 23 = .ok (.sipush 554, 3) := by decide +kernel
theorem dX12_flightOf_26 : decode cX12_flightOf 26 = .ok (.iconst 5, 1) := by decide +kernel
theorem dX12_flightOf_27 : decode cX12_flightOf 27 = .ok (.iload_n 1, 1) := by decide +kernel
theorem dX12_flightOf_28 : decode cX12_flightOf 28 = .ok (.imul, 1) := by decide +kernel
theorem dX12_flightOf_29 : decode cX12_flightOf 29 = .ok (.iadd, 1) := by decide +kernel
theorem dX12_flightOf_30 : decode cX12_flightOf 30 = .ok (.iload 4, 2) := by decide +kernel
theorem dX12_flightOf_32 : decode cX12_flightOf 32 = .ok (.iadd, 1) := by decide +kernel
theorem dX12_flightOf_33 : decode cX12_flightOf 33 = .ok (.iaload, 1) := by decide +kernel
theorem dX12_flightOf_34 : decode cX12_flightOf 34 = .ok (.iload_n 2, 1) := by decide +kernel
theorem dX12_flightOf_35 : decode cX12_flightOf 35 = .ok (.if_icmp .ne 8, 3) := by decide +kernel
theorem dX12_flightOf_38 : decode cX12_flightOf 38 = .ok (.iload 4, 2) := by decide +kernel
theorem dX12_flightOf_40 : decode cX12_flightOf 40 = .ok (.goto 4, 3) := by decide +kernel
theorem dX12_flightOf_43 : decode cX12_flightOf 43 = .ok (.iload_n 3, 1) := by decide +kernel
theorem dX12_flightOf_44 : decode cX12_flightOf 44 = .ok (.istore_n 3, 1) := by decide +kernel
theorem dX12_flightOf_45 : decode cX12_flightOf 45 = .ok (.iinc 4 1, 3) := by decide +kernel
theorem dX12_flightOf_48 : decode cX12_flightOf 48 = .ok (.goto (-43), 3) := by decide +kernel
theorem dX12_flightOf_51 : decode cX12_flightOf 51 = .ok (.iload_n 3, 1) := by decide +kernel
theorem dX12_flightOf_52 : decode cX12_flightOf 52 = .ok (.ireturn, 1) := by decide +kernel
theorem dX12_answer_0 : decode cX12_answer 0 = .ok (.aload_n 0, 1) := by decide +kernel
theorem dX12_answer_1 : decode cX12_answer 1 = .ok (.iconst 0, 1) := by decide +kernel
theorem dX12_answer_2 : decode cX12_answer 2 = .ok (.putfield 52, 3) := by decide +kernel
theorem dX12_answer_5 : decode cX12_answer 5 = .ok (.iload_n 1, 1) := by decide +kernel
theorem dX12_answer_6 : decode cX12_answer 6 = .ok (.invokestatic 191, 3) := by decide +kernel
theorem dX12_answer_9 : decode cX12_answer 9 = .ok (.ifCond .ne 9, 3) := by decide +kernel
theorem dX12_answer_12 : decode cX12_answer 12 = .ok (.aload_n 0, 1) := by decide +kernel
theorem dX12_answer_13 : decode cX12_answer 13 = .ok (.iconst 1, 1) := by decide +kernel
theorem dX12_answer_14 : decode cX12_answer 14 = .ok (.invokevirtual 86, 3) := by decide +kernel
theorem dX12_answer_17 : decode cX12_answer 17 = .ok (.ireturn, 1) := by decide +kernel
theorem dX12_answer_18 : decode cX12_answer 18 = .ok (.iload_n 2, 1) := by decide +kernel
theorem dX12_answer_19 : decode cX12_answer 19 = .ok (.iconst 1, 1) := by decide +kernel
theorem dX12_answer_20 : decode cX12_answer 20 = .ok (.if_icmp .eq 13, 3) := by decide +kernel
theorem dX12_answer_23 : decode cX12_answer 23 = .ok (.iload_n 2, 1) := by decide +kernel
theorem dX12_answer_24 : decode cX12_answer 24 = .ok (.iconst 2, 1) := by decide +kernel
theorem dX12_answer_25 : decode cX12_answer 25 = .ok (.if_icmp .eq 8, 3) := by decide +kernel
theorem dX12_answer_28 : decode cX12_answer 28 = .ok (.iload_n 2, 1) := by decide +kernel
theorem dX12_answer_29 : decode cX12_answer 29 = .ok (.iconst 4, 1) := by decide +kernel
theorem dX12_answer_30 : decode cX12_answer 30 = .ok (.if_icmp .ne 13, 3) := by decide +kernel
theorem dX12_answer_33 : decode cX12_answer 33 = .ok (.iload_n 3, 1) := by decide +kernel
theorem dX12_answer_34 : decode cX12_answer 34 = .ok (.iconst 1, 1) := by decide +kernel
theorem dX12_answer_35 : decode cX12_answer 35 = .ok (.bipush 50, 2) := by decide +kernel
theorem dX12_answer_37 : decode cX12_answer 37 = .ok (.invokestatic 55, 3) := by decide +kernel
theorem dX12_answer_40 : decode cX12_answer 40 = .ok (.ifCond .ne 9, 3) := by decide +kernel
theorem dX12_answer_43 : decode cX12_answer 43 = .ok (.aload_n 0, 1) := by decide +kernel
theorem dX12_answer_44 : decode cX12_answer 44 = .ok (.iconst 2, 1) := by decide +kernel
theorem dX12_answer_45 : decode cX12_answer 45 = .ok (.invokevirtual 86, 3) := by decide +kernel
theorem dX12_answer_48 : decode cX12_answer 48 = .ok (.ireturn, 1) := by decide +kernel
theorem dX12_answer_49 : decode cX12_answer 49 = .ok (.aload_n 0, 1) := by decide +kernel
theorem dX12_answer_50 : decode cX12_answer 50 = .ok (.iload_n 1, 1) := by decide +kernel
theorem dX12_answer_51 : decode cX12_answer 51 = .ok (.invokevirtual 107, 3) := by decide +kernel
theorem dX12_answer_54 : decode cX12_answer 54 = .ok (.ifCond .ne 9, 3) := by decide +kernel
theorem dX12_answer_57 : decode cX12_answer 57 = .ok (.aload_n 0, 1) := by decide +kernel
theorem dX12_answer_58 : decode cX12_answer 58 = .ok (.iconst 3, 1) := by decide +kernel
theorem dX12_answer_59 : decode cX12_answer 59 = .ok (.invokevirtual 86, 3) := by decide +kernel
theorem dX12_answer_62 : decode cX12_answer 62 = .ok (.ireturn, 1) := by decide +kernel
theorem dX12_answer_63 : decode cX12_answer 63 = .ok (.aload_n 0, 1) := by decide +kernel
theorem dX12_answer_64 : decode cX12_answer 64 = .ok (.iload_n 1, 1) := by decide +kernel
theorem dX12_answer_65 : decode cX12_answer 65 = .ok (.iload_n 3, 1) := by decide +kernel
theorem dX12_answer_66 : decode cX12_answer 66 = .ok (.invokevirtual 238, 3) := by decide +kernel
theorem dX12_answer_69 : decode cX12_answer 69 = .ok (.istore 4, 2) := by decide +kernel
theorem dX12_answer_71 : decode cX12_answer 71 = .ok (.iload 4, 2) := by decide +kernel
theorem dX12_answer_73 : decode cX12_answer 73 = .ok (.iconst (-1), 1) := by decide +kernel
theorem dX12_answer_74 : decode cX12_answer 74 = .ok (.if_icmp .ne 5, 3) := by decide +kernel
theorem dX12_answer_77 : decode cX12_answer 77 = .ok (.iconst 0, 1) := by decide +kernel
theorem dX12_answer_78 : decode cX12_answer 78 = .ok (.ireturn, 1) := by decide +kernel
theorem dX12_answer_79 : decode cX12_answer 79 = .ok (.iconst 5, 1) := by decide +kernel
theorem dX12_answer_80 : decode cX12_answer 80 = .ok (.iload_n 1, 1) := by decide +kernel
theorem dX12_answer_81 : decode cX12_answer 81 = .ok (.imul, 1) := by decide +kernel
theorem dX12_answer_82 : decode cX12_answer 82 = .ok (.iload 4, 2) := by decide +kernel
theorem dX12_answer_84 : decode cX12_answer 84 = .ok (.iadd, 1) := by decide +kernel
theorem dX12_answer_85 : decode cX12_answer 85 = .ok (.istore 5, 2) := by decide +kernel
theorem dX12_answer_87 : decode cX12_answer 87 = .ok (.iload_n 2, 1) := by decide +kernel
theorem dX12_answer_88 : decode cX12_answer 88 = .ok (.iconst 1, 1) := by decide +kernel
theorem dX12_answer_89 : decode cX12_answer 89 = .ok (.if_icmp .ne 26, 3) := by decide +kernel
theorem dX12_answer_92 : decode cX12_answer 92 = .ok (.aload_n 0, 1) := by decide +kernel
theorem dX12_answer_93 : decode cX12_answer 93 = .ok (.getfield 9, 3) := by decide +kernel
theorem dX12_answer_96 : decode cX12_answer 96 = .ok (.sipush 584, 3) := by decide +kernel
theorem dX12_answer_99 : decode cX12_answer 99 = .ok (.iload 5, 2) := by decide +kernel
theorem dX12_answer_101 : decode cX12_answer 101 = .ok (.iadd, 1) := by decide +kernel
theorem dX12_answer_102 : decode cX12_answer 102 = .ok (.iaload, 1) := by decide +kernel
theorem dX12_answer_103 : decode cX12_answer 103 = .ok (.iconst 1, 1) := by decide +kernel
theorem dX12_answer_104 : decode cX12_answer 104 = .ok (.if_icmp .ne 7, 3) := by decide +kernel
theorem dX12_answer_107 : decode cX12_answer 107 = .ok (.iconst 1, 1) := by decide +kernel
theorem dX12_answer_108 : decode cX12_answer 108 = .ok (.goto 55, 3) := by decide +kernel
theorem dX12_answer_111 : decode cX12_answer 111 = .ok (.iconst 0, 1) := by decide +kernel
theorem dX12_answer_112 : decode cX12_answer 112 = .ok (.goto 51, 3) := by decide +kernel
theorem dX12_answer_115 : decode cX12_answer 115 = .ok (.iload_n 2, 1) := by decide +kernel
theorem dX12_answer_116 : decode cX12_answer 116 = .ok (.iconst 2, 1) := by decide +kernel
theorem dX12_answer_117 : decode cX12_answer 117 = .ok (.if_icmp .ne 26, 3) := by decide +kernel
theorem dX12_answer_120 : decode cX12_answer 120 = .ok (.aload_n 0, 1) := by decide +kernel
theorem dX12_answer_121 : decode cX12_answer 121 = .ok (.getfield 9, 3) := by decide +kernel
theorem dX12_answer_124 : decode cX12_answer 124 = .ok (.sipush 584, 3) := by decide +kernel
theorem dX12_answer_127 : decode cX12_answer 127 = .ok (.iload 5, 2) := by decide +kernel
theorem dX12_answer_129 : decode cX12_answer 129 = .ok (.iadd, 1) := by decide +kernel
theorem dX12_answer_130 : decode cX12_answer 130 = .ok (.iaload, 1) := by decide +kernel
theorem dX12_answer_131 : decode cX12_answer 131 = .ok (.iconst 2, 1) := by decide +kernel
theorem dX12_answer_132 : decode cX12_answer 132 = .ok (.if_icmp .ne 7, 3) := by decide +kernel
theorem dX12_answer_135 : decode cX12_answer 135 = .ok (.iconst 1, 1) := by decide +kernel
theorem dX12_answer_136 : decode cX12_answer 136 = .ok (.goto 27, 3) := by decide +kernel
theorem dX12_answer_139 : decode cX12_answer 139 = .ok (.iconst 0, 1) := by decide +kernel
theorem dX12_answer_140 : decode cX12_answer 140 = .ok (.goto 23, 3) := by decide +kernel
theorem dX12_answer_143 : decode cX12_answer 143 = .ok (.aload_n 0, 1) := by decide +kernel
theorem dX12_answer_144 : decode cX12_answer 144 = .ok (.getfield 9, 3) := by decide +kernel
theorem dX12_answer_147 : decode cX12_answer 147 = .ok (.sipush 674, 3) := by decide +kernel
theorem dX12_answer_150 : decode cX12_answer 150 = .ok (.iload 5, 2) := by decide +kernel
theorem dX12_answer_152 : decode cX12_answer 152 = .ok (.iadd, 1) := by decide +kernel
theorem dX12_answer_153 : decode cX12_answer 153 = .ok (.iaload, 1) := by decide +kernel
theorem dX12_answer_154 : decode cX12_answer 154 = .ok (.iconst 4, 1) := by decide +kernel
theorem dX12_answer_155 : decode cX12_answer 155 = .ok (.if_icmp .ne 7, 3) := by decide +kernel
theorem dX12_answer_158 : decode cX12_answer 158 = .ok (.iconst 1, 1) := by decide +kernel
theorem dX12_answer_159 : decode cX12_answer 159 = .ok (.goto 4, 3) := by decide +kernel
theorem dX12_answer_162 : decode cX12_answer 162 = .ok (.iconst 0, 1) := by decide +kernel
theorem dX12_answer_163 : decode cX12_answer 163 = .ok (.istore 6, 2) := by decide +kernel
theorem dX12_answer_165 : decode cX12_answer 165 = .ok (.iload 6, 2) := by decide +kernel
theorem dX12_answer_167 : decode cX12_answer 167 = .ok (.ifCond .ne 5, 3) := by decide +kernel
theorem dX12_answer_170 : decode cX12_answer 170 = .ok (.iconst 0, 1) := by decide +kernel
theorem dX12_answer_171 : decode cX12_answer 171 = .ok (.ireturn, 1) := by decide +kernel
theorem dX12_answer_172 : decode cX12_answer 172 = .ok (.iload_n 2, 1) := by decide +kernel
theorem dX12_answer_173 : decode cX12_answer 173 = .ok (.iconst 2, 1) := by decide +kernel
theorem dX12_answer_174 : decode cX12_answer 174 = .ok (.if_icmp .ne 42, 3) := by decide +kernel
theorem dX12_answer_177 : decode cX12_answer 177 = .ok (.aload_n 0, 1) := by decide +kernel
theorem dX12_answer_178 : decode cX12_answer 178 = .ok (.getfield 9, 3) := by decide +kernel
theorem dX12_answer_181 : decode cX12_answer 181 = .ok (.sipush 674, 3) := by decide +kernel
theorem dX12_answer_184 : decode cX12_answer 184 = .ok (.iload 5, 2) := by decide +kernel
theorem dX12_answer_186 : decode cX12_answer 186 = .ok (.iadd, 1) := by decide +kernel
theorem dX12_answer_187 : decode cX12_answer 187 = .ok (.iconst 4, 1) := by decide +kernel
theorem dX12_answer_188 : decode cX12_answer 188 = .ok (.iastore, 1) := by decide +kernel
theorem dX12_answer_189 : decode cX12_answer 189 = .ok (.aload_n 0, 1) := by decide +kernel
theorem dX12_answer_190 : decode cX12_answer 190 = .ok (.getfield 9, 3) := by decide +kernel
theorem dX12_answer_193 : decode cX12_answer 193 = .ok (.sipush 704, 3) := by decide +kernel
theorem dX12_answer_196 : decode cX12_answer 196 = .ok (.iload 5, 2) := by decide +kernel
theorem dX12_answer_198 : decode cX12_answer 198 = .ok (.iadd, 1) := by decide +kernel
theorem dX12_answer_199 : decode cX12_answer 199 = .ok (.aload_n 0, 1) := by decide +kernel
theorem dX12_answer_200 : decode cX12_answer 200 = .ok (.getfield 9, 3) := by decide +kernel
theorem dX12_answer_203 : decode cX12_answer 203 = .ok (.iconst 0, 1) := by decide +kernel
theorem dX12_answer_204 : decode cX12_answer 204 = .ok (.iaload, 1) := by decide +kernel
theorem dX12_answer_205 : decode cX12_answer 205 = .ok (.iastore, 1) := by decide +kernel
theorem dX12_answer_206 : decode cX12_answer 206 = .ok (.aload_n 0, 1) := by decide +kernel
theorem dX12_answer_207 : decode cX12_answer 207 = .ok (.iload_n 1, 1) := by decide +kernel
theorem dX12_answer_208 : decode cX12_answer 208 = .ok (.iconst 3, 1) := by decide +kernel
theorem dX12_answer_209 : decode cX12_answer 209 = .ok (.iload_n 3, 1) := by decide +kernel
theorem dX12_answer_210 : decode cX12_answer 210 = .ok (.invokevirtual 123, 3) := by decide +kernel
theorem dX12_answer_213 : decode cX12_answer 213 = .ok (.goto 10, 3) := by decide +kernel
theorem dX12_answer_216 : decode cX12_answer 216 = .ok (.aload_n 0, 1) := by decide +kernel
theorem dX12_answer_217 : decode cX12_answer 217 = .ok (.iload_n 1, 1) := by decide +kernel
theorem dX12_answer_218 : decode cX12_answer 218 = .ok (.iload 4, 2) := by decide +kernel
theorem dX12_answer_220 : decode cX12_answer 220 = .ok (.invokevirtual 241, 3) := by decide +kernel
theorem dX12_answer_223 : decode cX12_answer 223 = .ok (.iconst 1, 1) := by decide +kernel
theorem dX12_answer_224 : decode cX12_answer 224 = .ok (.ireturn, 1) := by decide +kernel
theorem dX12_audience_0 : decode cX12_audience 0 = .ok (.aload_n 0, 1) := by decide +kernel
theorem dX12_audience_1 : decode cX12_audience 1 = .ok (.iconst 0, 1) := by decide +kernel
theorem dX12_audience_2 : decode cX12_audience 2 = .ok (.putfield 52, 3) := by decide +kernel
theorem dX12_audience_5 : decode cX12_audience 5 = .ok (.iload_n 1, 1) := by decide +kernel
theorem dX12_audience_6 : decode cX12_audience 6 = .ok (.invokestatic 191, 3) := by decide +kernel
theorem dX12_audience_9 : decode cX12_audience 9 = .ok (.ifCond .ne 9, 3) := by decide +kernel
theorem dX12_audience_12 : decode cX12_audience 12 = .ok (.aload_n 0, 1) := by decide +kernel
theorem dX12_audience_13 : decode cX12_audience 13 = .ok (.iconst 1, 1) := by decide +kernel
theorem dX12_audience_14 : decode cX12_audience 14 = .ok (.invokevirtual 200, 3) := by decide +kernel
theorem dX12_audience_17 : decode cX12_audience 17 = .ok (.ireturn, 1) := by decide +kernel
theorem dX12_audience_18 : decode cX12_audience 18 = .ok (.aload_n 0, 1) := by decide +kernel
theorem dX12_audience_19 : decode cX12_audience 19 = .ok (.iconst 0, 1) := by decide +kernel
theorem dX12_audience_20 : decode cX12_audience 20 = .ok (.invokevirtual 203, 3) := by decide +kernel
theorem dX12_audience_23 : decode cX12_audience 23 = .ok (.ifCond .ne 9, 3) := by decide +kernel
theorem dX12_audience_26 : decode cX12_audience 26 = .ok (.aload_n 0, 1) := by decide +kernel
theorem dX12_audience_27 : decode cX12_audience 27 = .ok (.iconst 2, 1) := by decide +kernel
theorem dX12_audience_28 : decode cX12_audience 28 = .ok (.invokevirtual 86, 3) := by decide +kernel
theorem dX12_audience_31 : decode cX12_audience 31 = .ok (.ireturn, 1) := by decide +kernel
theorem dX12_audience_32 : decode cX12_audience 32 = .ok (.aload_n 0, 1) := by decide +kernel
theorem dX12_audience_33 : decode cX12_audience 33 = .ok (.getfield 37, 3) := by decide +kernel
theorem dX12_audience_36 : decode cX12_audience 36 = .ok (.iconst 0, 1) := by decide +kernel
theorem dX12_audience_37 : decode cX12_audience 37 = .ok (.aload_n 0, 1) := by decide +kernel
theorem dX12_audience_38 : decode cX12_audience 38 = .ok (.getfield 40, 3) := by decide +kernel
theorem dX12_audience_41 : decode cX12_audience 41 = .ok (.iconst 0, 1) := by decide +kernel
theorem dX12_audience_42 : decode cX12_audience 42 = .ok (.invokestatic 97, 3) := by decide +kernel
theorem dX12_audience_45 : decode cX12_audience 45 = .ok (.iconst 0, 1) := by decide +kernel
theorem dX12_audience_46 : decode cX12_audience 46 = .ok (.istore_n 2, 1) := by decide +kernel
theorem dX12_audience_47 : decode cX12_audience 47 = .ok (.iconst 0, 1) := by decide +kernel
theorem dX12_audience_48 : decode cX12_audience 48 = .ok (.istore_n 3, 1) := by decide +kernel
theorem dX12_audience_49 : decode cX12_audience 49 = .ok (.iload_n 3, 1) := by decide +kernel
theorem dX12_audience_50 : decode cX12_audience 50 = .ok (.bipush 6, 2) := by decide +kernel
theorem dX12_audience_52 : decode cX12_audience 52 = .ok (.if_icmp .ge 40, 3) := by decide +kernel
theorem dX12_audience_55 : decode cX12_audience 55 = .ok (.iload_n 2, 1) := by decide +kernel
theorem dX12_audience_56 : decode cX12_audience 56 = .ok (.aload_n 0, 1) := by decide +kernel
theorem dX12_audience_57 : decode cX12_audience 57 = .ok (.getfield 9, 3) := by decide +kernel
theorem dX12_audience_60 : decode cX12_audience 60 = .ok (.bipush 20, 2) := by decide +kernel
theorem dX12_audience_62 : decode cX12_audience 62 = .ok (.iload_n 3, 1) := by decide +kernel
theorem dX12_audience_63 : decode cX12_audience 63 = .ok (.iadd, 1) := by decide +kernel
theorem dX12_audience_64 : decode cX12_audience 64 = .ok (.iaload, 1) := by decide +kernel
theorem dX12_audience_65 : decode cX12_audience 65 = .ok (.iconst 1, 1) := by decide +kernel
theorem dX12_audience_66 : decode cX12_audience 66 = .ok (.if_icmp .ne 17, 3) := by decide +kernel
theorem dX12_audience_69 : decode cX12_audience 69 = .ok (.aload_n 0, 1) := by decide +kernel
theorem dX12_audience_70 : decode cX12_audience 70 = .ok (.iload_n 3, 1) := by decide +kernel
theorem dX12_audience_71 : decode cX12_audience 71 = .ok (.iload_n 1, 1) := by decide +kernel
theorem dX12_audience_72 : decode cX12_audience 72 = .ok (.invokevirtual 156, 3) := by decide +kernel
theorem dX12_audience_75 : decode cX12_audience 75 = .ok (.iconst (-1), 1) := by decide +kernel
theorem dX12_audience_76 : decode cX12_audience 76 = .ok (.if_icmp .eq 7, 3) := by decide +kernel
theorem dX12_audience_79 : decode cX12_audience 79 = .ok (.iconst 1, 1) := by decide +kernel
theorem dX12_audience_80 : decode cX12_audience 80 = .ok (.goto 4, 3) := by decide +kernel
theorem dX12_audience_83 : decode cX12_audience 83 = .ok (.iconst 0, 1) := by decide +kernel
theorem dX12_audience_84 : decode cX12_audience 84 = .ok (.iadd, 1) := by decide +kernel
theorem dX12_audience_85 : decode cX12_audience 85 = .ok (.istore_n 2, 1) := by decide +kernel
theorem dX12_audience_86 : decode cX12_audience 86 = .ok (.iinc 3 1, 3) := by decide +kernel
theorem dX12_audience_89 : decode cX12_audience 89 = .ok (.goto (-40), 3) := by decide +kernel
theorem dX12_audience_92 : decode cX12_audience 92 = .ok (.iconst 0, 1) := by decide +kernel
theorem dX12_audience_93 : decode cX12_audience 93 = .ok (.istore_n 3, 1) := by decide +kernel
theorem dX12_audience_94 : decode cX12_audience 94 = .ok (.iload_n 3, 1) := by decide +kernel
theorem dX12_audience_95 : decode cX12_audience 95 = .ok (.aload_n 0, 1) := by decide +kernel
theorem dX12_audience_96 : decode cX12_audience 96 = .ok (.getfield 9, 3) := by decide +kernel
theorem dX12_audience_99 : decode cX12_audience 99 = .ok (.bipush 16, 2) := by decide +kernel
theorem dX12_audience_101 : decode cX12_audience 101 = .ok (.iaload, 1) := by decide +kernel
theorem dX12_audience_102 : decode cX12_audience 102 = .ok (.if_icmp .ge 41, 3) := by decide +kernel
theorem dX12_audience_105 : decode cX12_audience 105 = .ok (.iload_n 2, 1) := by decide +kernel
theorem dX12_audience_106 : decode cX12_audience 106 = .ok (.aload_n 0, 1) := by decide +kernel
theorem dX12_audience_107 : decode cX12_audience 107 = .ok (.sipush 1256, 3) := by decide +kernel
theorem dX12_audience_110 : decode cX12_audience 110 = .ok (.iconst 4, 1) := by decide +kernel
theorem dX12_audience_111 : decode cX12_audience 111 = .ok (.iload_n 3, 1) := by decide +kernel
theorem dX12_audience_112 : decode cX12_audience 112 = .ok (.imul, 1) := by decide +kernel
theorem dX12_audience_113 : decode cX12_audience 113 = .ok (.iadd, 1) := by decide +kernel
theorem dX12_audience_114 : decode cX12_audience 114 = .ok (.aload_n 0, 1) := by decide +kernel
theorem dX12_audience_115 : decode cX12_audience 115 = .ok (.getfield 9, 3) := by decide +kernel
theorem dX12_audience_118 : decode cX12_audience 118 = .ok (.sipush 1830, 3) := by decide +kernel
theorem dX12_audience_121 : decode cX12_audience 121 = .ok (.iload_n 3, 1) := by decide +kernel
theorem dX12_audience_122 : decode cX12_audience 122 = .ok (.iadd, 1) := by decide +kernel
theorem dX12_audience_123 : decode cX12_audience 123 = .ok (.iaload, 1) := by decide +kernel
theorem dX12_audience_124 : decode cX12_audience 124 = .ok (.invokevirtual 144, 3) := by decide +kernel
theorem dX12_audience_127 : decode cX12_audience 127 = .ok (.ifCond .eq 7, 3) := by decide +kernel
theorem dX12_audience_130 : decode cX12_audience 130 = .ok (.iconst 1, 1) := by decide +kernel
theorem dX12_audience_131 : decode cX12_audience 131 = .ok (.goto 4, 3) := by decide +kernel
theorem dX12_audience_134 : decode cX12_audience 134 = .ok (.iconst 0, 1) := by decide +kernel
theorem dX12_audience_135 : decode cX12_audience 135 = .ok (.iadd, 1) := by decide +kernel
theorem dX12_audience_136 : decode cX12_audience 136 = .ok (.istore_n 2, 1) := by decide +kernel
theorem dX12_audience_137 : decode cX12_audience 137 = .ok (.iinc 3 1, 3) := by decide +kernel
theorem dX12_audience_140 : decode cX12_audience 140 = .ok (.goto (-46), 3) := by decide +kernel
theorem dX12_audience_143 : decode cX12_audience 143 = .ok (.iload_n 2, 1) := by decide +kernel
theorem dX12_audience_144 : decode cX12_audience 144 = .ok (.ireturn, 1) := by decide +kernel
theorem dX12_takesPacket_0 : decode cX12_takesPacket 0 = .ok (.bipush 30, 2) := by decide +kernel
theorem dX12_takesPacket_2 : decode cX12_takesPacket 2 = .ok (.iload_n 1, 1) := by decide +kernel
theorem dX12_takesPacket_3 : decode cX12_takesPacket 3 = .ok (.imul, 1) := by decide +kernel
theorem dX12_takesPacket_4 : decode cX12_takesPacket 4 = .ok (.istore_n 2, 1) := by decide +kernel
theorem dX12_takesPacket_5 : decode cX12_takesPacket 5 = .ok (.iload_n 2, 1) := by decide +kernel
theorem dX12_takesPacket_6 : decode cX12_takesPacket 6 = .ok (.bipush 30, 2) := by decide +kernel
theorem dX12_takesPacket_8 : decode cX12_takesPacket 8 = .ok (.iload_n 1, 1) := by decide +kernel
theorem dX12_takesPacket_9 : decode cX12_takesPacket 9 = .ok (.imul, 1) := by decide +kernel
theorem dX12_takesPacket_10 : decode cX12_takesPacket 10 = .ok (.aload_n 0, 1) := by decide +kernel
theorem dX12_takesPacket_11 : decode cX12_takesPacket 11 = .ok (.getfield 9, 3) := by decide +kernel
theorem dX12_takesPacket_14 : decode cX12_takesPacket 14 = .ok (.bipush 68, 2) := by decide +kernel
theorem dX12_takesPacket_16 : decode cX12_takesPacket 16 = .ok (.iload_n 1, 1) := by decide +kernel
theorem dX12_takesPacket_17 : decode cX12_takesPacket 17 = .ok (.iadd, 1) := by decide +kernel
theorem dX12_takesPacket_18 : decode cX12_takesPacket 18 = .ok (.iaload, 1) := by decide +kernel
theorem dX12_takesPacket_19 : decode cX12_takesPacket 19 = .ok (.iadd, 1) := by decide +kernel
theorem dX12_takesPacket_20 : decode cX12_takesPacket 20 = .ok (.iconst 1, 1) := by decide +kernel
theorem dX12_takesPacket_21 : decode cX12_takesPacket 21 = .ok (.isub, 1) := by decide +kernel
theorem dX12_takesPacket_22 : decode cX12_takesPacket 22 = .ok (.if_icmp .ge 146, 3) := by decide +kernel
theorem dX12_takesPacket_25 : decode cX12_takesPacket 25 = .ok (.aload_n 0, 1) := by decide +kernel
theorem dX12_takesPacket_26 : decode cX12_takesPacket 26 = .ok (.getfield 9, 3) := by decide +kernel
theorem dX12_takesPacket_29 : decode cX12_takesPacket 29 = .ok (.sipush 878, 3) := by decide +kernel
theorem dX12_takesPacket_32 : decode cX12_takesPacket 32 = .ok (.iload_n 2, 1) := by decide +kernel
theorem dX12_takesPacket_33 : decode cX12_takesPacket 33 = .ok (.iadd, 1) := by decide +kernel
theorem dX12_takesPacket_34 : decode cX12_takesPacket 34 = .ok (.aload_n 0, 1) := by decide +kernel
theorem dX12_takesPacket_35 : decode cX12_takesPacket 35 = .ok (.getfield 9, 3) := by decide +kernel
theorem dX12_takesPacket_38 : decode cX12_takesPacket 38 = .ok (.sipush 878, 3) := by decide +kernel
theorem dX12_takesPacket_41 : decode cX12_takesPacket 41 = .ok (.iload_n 2, 1) := by decide +kernel
theorem dX12_takesPacket_42 : decode cX12_takesPacket 42 = .ok (.iadd, 1) := by decide +kernel
theorem dX12_takesPacket_43 : decode cX12_takesPacket 43 = .ok (.iconst 1, 1) := by decide +kernel
theorem dX12_takesPacket_44 : decode cX12_takesPacket 44 = .ok (.iadd, 1) := by decide +kernel
theorem dX12_takesPacket_45 : decode cX12_takesPacket 45 = .ok (.iaload, 1) := by decide +kernel
theorem dX12_takesPacket_46 : decode cX12_takesPacket 46 = .ok (.iastore, 1) := by decide +kernel
theorem dX12_takesPacket_47 : decode cX12_takesPacket 47 = .ok (.aload_n 0, 1) := by decide +kernel
theorem dX12_takesPacket_48 : decode cX12_takesPacket 48 = .ok (.getfield 9, 3) := by decide +kernel
theorem dX12_takesPacket_51 : decode cX12_takesPacket 51 = .ok (.sipush 1058, 3) := by decide +kernel
theorem dX12_takesPacket_54 : decode cX12_takesPacket 54 = .ok (.iload_n 2, 1) := by decide +kernel
theorem dX12_takesPacket_55 : decode cX12_takesPacket 55 = .ok (.iadd, 1) := by decide +kernel
theorem dX12_takesPacket_56 : decode cX12_takesPacket 56 = .ok (.aload_n 0, 1) := by decide +kernel
theorem dX12_takesPacket_57 : decode cX12_takesPacket 57 = .ok (.getfield 9, 3) := by decide +kernel
theorem dX12_takesPacket_60 : decode cX12_takesPacket 60 = .ok (.sipush 1058, 3) := by decide +kernel
theorem dX12_takesPacket_63 : decode cX12_takesPacket 63 = .ok (.iload_n 2, 1) := by decide +kernel
theorem dX12_takesPacket_64 : decode cX12_takesPacket 64 = .ok (.iadd, 1) := by decide +kernel
theorem dX12_takesPacket_65 : decode cX12_takesPacket 65 = .ok (.iconst 1, 1) := by decide +kernel
theorem dX12_takesPacket_66 : decode cX12_takesPacket 66 = .ok (.iadd, 1) := by decide +kernel
theorem dX12_takesPacket_67 : decode cX12_takesPacket 67 = .ok (.iaload, 1) := by decide +kernel
theorem dX12_takesPacket_68 : decode cX12_takesPacket 68 = .ok (.iastore, 1) := by decide +kernel
theorem dX12_takesPacket_69 : decode cX12_takesPacket 69 = .ok (.aload_n 0, 1) := by decide +kernel
theorem dX12_takesPacket_70 : decode cX12_takesPacket 70 = .ok (.getfield 9, 3) := by decide +kernel
theorem dX12_takesPacket_73 : decode cX12_takesPacket 73 = .ok (.sipush 1238, 3) := by decide +kernel
theorem dX12_takesPacket_76 : decode cX12_takesPacket 76 = .ok (.iload_n 2, 1) := by decide +kernel
theorem dX12_takesPacket_77 : decode cX12_takesPacket 77 = .ok (.iadd, 1) := by decide +kernel
theorem dX12_takesPacket_78 : decode cX12_takesPacket 78 = .ok (.aload_n 0, 1) := by decide +kernel
theorem dX12_takesPacket_79 : decode cX12_takesPacket 79 = .ok (.getfield 9, 3) := by decide +kernel
theorem dX12_takesPacket_82 : decode cX12_takesPacket 82 = .ok (.sipush 1238, 3) := by decide +kernel
theorem dX12_takesPacket_85 : decode cX12_takesPacket 85 = .ok (.iload_n 2, 1) := by decide +kernel
theorem dX12_takesPacket_86 : decode cX12_takesPacket 86 = .ok (.iadd, 1) := by decide +kernel
theorem dX12_takesPacket_87 : decode cX12_takesPacket 87 = .ok (.iconst 1, 1) := by decide +kernel
theorem dX12_takesPacket_88 : decode cX12_takesPacket 88 = .ok (.iadd, 1) := by decide +kernel
theorem dX12_takesPacket_89 : decode cX12_takesPacket 89 = .ok (.iaload, 1) := by decide +kernel
theorem dX12_takesPacket_90 : decode cX12_takesPacket 90 = .ok (.iastore, 1) := by decide +kernel
theorem dX12_takesPacket_91 : decode cX12_takesPacket 91 = .ok (.aload_n 0, 1) := by decide +kernel
theorem dX12_takesPacket_92 : decode cX12_takesPacket 92 = .ok (.getfield 9, 3) := by decide +kernel
theorem dX12_takesPacket_95 : decode cX12_takesPacket 95 = .ok (.sipush 1418, 3) := by decide +kernel
theorem dX12_takesPacket_98 : decode cX12_takesPacket 98 = .ok (.iload_n 2, 1) := by decide +kernel
theorem dX12_takesPacket_99 : decode cX12_takesPacket 99 = .ok (.iadd, 1) := by decide +kernel
theorem dX12_takesPacket_100 : decode cX12_takesPacket 100 = .ok (.aload_n 0, 1) := by decide +kernel
theorem dX12_takesPacket_101 : decode cX12_takesPacket 101 = .ok (.getfield 9, 3) := by decide +kernel
theorem dX12_takesPacket_104 : decode cX12_takesPacket 104 = .ok (.sipush 1418, 3) := by decide +kernel
theorem dX12_takesPacket_107 : decode cX12_takesPacket 107 = .ok (.iload_n 2, 1) := by decide +kernel
theorem dX12_takesPacket_108 : decode cX12_takesPacket 108 = .ok (.iadd, 1) := by decide +kernel
theorem dX12_takesPacket_109 : decode cX12_takesPacket 109 = .ok (.iconst 1, 1) := by decide +kernel
theorem dX12_takesPacket_110 : decode cX12_takesPacket 110 = .ok (.iadd, 1) := by decide +kernel
theorem dX12_takesPacket_111 : decode cX12_takesPacket 111 = .ok (.iaload, 1) := by decide +kernel
theorem dX12_takesPacket_112 : decode cX12_takesPacket 112 = .ok (.iastore, 1) := by decide +kernel
theorem dX12_takesPacket_113 : decode cX12_takesPacket 113 = .ok (.aload_n 0, 1) := by decide +kernel
theorem dX12_takesPacket_114 : decode cX12_takesPacket 114 = .ok (.getfield 9, 3) := by decide +kernel
theorem dX12_takesPacket_117 : decode cX12_takesPacket 117 = .ok (.sipush 1598, 3) := by decide +kernel
theorem dX12_takesPacket_120 : decode cX12_takesPacket 120 = .ok (.iload_n 2, 1) := by decide +kernel
theorem dX12_takesPacket_121 : decode cX12_takesPacket 121 = .ok (.iadd, 1) := by decide +kernel
theorem dX12_takesPacket_122 : decode cX12_takesPacket 122 = .ok (.aload_n 0, 1) := by decide +kernel
theorem dX12_takesPacket_123 : decode cX12_takesPacket 123 = .ok (.getfield 9, 3) := by decide +kernel
theorem dX12_takesPacket_126 : decode cX12_takesPacket 126 = .ok (.sipush 1598, 3) := by decide +kernel
theorem dX12_takesPacket_129 : decode cX12_takesPacket 129 = .ok (.iload_n 2, 1) := by decide +kernel
theorem dX12_takesPacket_130 : decode cX12_takesPacket 130 = .ok (.iadd, 1) := by decide +kernel
theorem dX12_takesPacket_131 : decode cX12_takesPacket 131 = .ok (.iconst 1, 1) := by decide +kernel
theorem dX12_takesPacket_132 : decode cX12_takesPacket 132 = .ok (.iadd, 1) := by decide +kernel
theorem dX12_takesPacket_133 : decode cX12_takesPacket 133 = .ok (.iaload, 1) := by decide +kernel
theorem dX12_takesPacket_134 : decode cX12_takesPacket 134 = .ok (.iastore, 1) := by decide +kernel
theorem dX12_takesPacket_135 : decode cX12_takesPacket 135 = .ok (.aload_n 0, 1) := by decide +kernel
theorem dX12_takesPacket_136 : decode cX12_takesPacket 136 = .ok (.getfield 13, 3) := by decide +kernel
theorem dX12_takesPacket_139 : decode cX12_takesPacket 139 = .ok (.sipush 504, 3) := by decide +kernel
theorem dX12_takesPacket_142 : decode cX12_takesPacket 142 = .ok (.iconst 4, 1) := by decide +kernel
theorem dX12_takesPacket_143 : decode cX12_takesPacket 143 = .ok (.iload_n 2, 1) := by decide +kernel
theorem dX12_takesPacket_144 : decode cX12_takesPacket 144 = .ok (.iconst 1, 1) := by decide +kernel
theorem dX12_takesPacket_145 : decode cX12_takesPacket 145 = .ok (.iadd, 1) := by decide +kernel
theorem dX12_takesPacket_146 : decode cX12_takesPacket 146 = .ok (.imul, 1) := by decide +kernel
theorem dX12_takesPacket_147 : decode cX12_takesPacket 147 = .ok (.iadd, 1) := by decide +kernel
theorem dX12_takesPacket_148 : decode cX12_takesPacket 148 = .ok (.aload_n 0, 1) := by decide +kernel
theorem dX12_takesPacket_149 : decode cX12_takesPacket 149 = .ok (.getfield 13, 3) := by decide +kernel
theorem dX12_takesPacket_152 : decode cX12_takesPacket 152 = .ok (.sipush 504, 3) := by decide +kernel
theorem dX12_takesPacket_155 : decode cX12_takesPacket 155 = .ok (.iconst 4, 1) := by decide +kernel
theorem dX12_takesPacket_156 : decode cX12_takesPacket 156 = .ok (.iload_n 2, 1) := by decide +kernel
theorem dX12_takesPacket_157 : decode cX12_takesPacket 157 = .ok (.imul, 1) := by decide +kernel
theorem dX12_takesPacket_158 : decode cX12_takesPacket 158 = .ok (.iadd, 1) := by decide +kernel
theorem dX12_takesPacket_159 : decode cX12_takesPacket 159 = .ok (.invokestatic 97, 3) := by decide +kernel
theorem dX12_takesPacket_162 : decode cX12_takesPacket 162 = .ok (.iinc 2 1, 3) := by decide +kernel
theorem dX12_takesPacket_165 : decode cX12_takesPacket 165 = .ok (.goto (-160), 3) := by decide +kernel
theorem dX12_takesPacket_168 : decode cX12_takesPacket 168 = .ok (.aload_n 0, 1) := by decide +kernel
theorem dX12_takesPacket_169 : decode cX12_takesPacket 169 = .ok (.getfield 9, 3) := by decide +kernel
theorem dX12_takesPacket_172 : decode cX12_takesPacket 172 = .ok (.bipush 68, 2) := by decide +kernel
theorem dX12_takesPacket_174 : decode cX12_takesPacket 174 = .ok (.iload_n 1, 1) := by decide +kernel
theorem dX12_takesPacket_175 : decode cX12_takesPacket 175 = .ok (.iadd, 1) := by decide +kernel
theorem dX12_takesPacket_176 : decode cX12_takesPacket 176 = .ok (.dup2, 1) := by decide +kernel
theorem dX12_takesPacket_177 : decode cX12_takesPacket 177 = .ok (.iaload, 1) := by decide +kernel
theorem dX12_takesPacket_178 : decode cX12_takesPacket 178 = .ok (.iconst 1, 1) := by decide +kernel
theorem dX12_takesPacket_179 : decode cX12_takesPacket 179 = .ok (.isub, 1) := by decide +kernel
theorem dX12_takesPacket_180 : decode cX12_takesPacket 180 = .ok (.iastore, 1) := by decide +kernel
theorem dX12_takesPacket_181 : decode cX12_takesPacket 181 = .ok (.return_, 1) := by decide +kernel
theorem dX12_receive_0 : decode cX12_receive 0 = .ok (.aload_n 0, 1) := by decide +kernel
theorem dX12_receive_1 : decode cX12_receive 1 = .ok (.iconst 0, 1) := by decide +kernel
theorem dX12_receive_2 : decode cX12_receive 2 = .ok (.putfield 52, 3) := by decide +kernel
theorem dX12_receive_5 : decode cX12_receive 5 = .ok (.aload_n 0, 1) := by decide +kernel
theorem dX12_receive_6 : decode cX12_receive 6 = .ok (.iload_n 1, 1) := by decide +kernel
theorem dX12_receive_7 : decode cX12_receive 7 = .ok (.invokevirtual 244, 3) := by decide +kernel
theorem dX12_receive_10 : decode cX12_receive 10 = .ok (.istore_n 2, 1) := by decide +kernel
theorem dX12_receive_11 : decode cX12_receive 11 = .ok (.iload_n 2, 1) := by decide +kernel
theorem dX12_receive_12 : decode cX12_receive 12 = .ok (.ifCond .le 9, 3) := by decide +kernel
theorem dX12_receive_15 : decode cX12_receive 15 = .ok (.aload_n 0, 1) := by decide +kernel
theorem dX12_receive_16 : decode cX12_receive 16 = .ok (.iload_n 2, 1) := by decide +kernel
theorem dX12_receive_17 : decode cX12_receive 17 = .ok (.invokevirtual 86, 3) := by decide +kernel
theorem dX12_receive_20 : decode cX12_receive 20 = .ok (.ireturn, 1) := by decide +kernel
theorem dX12_receive_21 : decode cX12_receive 21 = .ok (.aload_n 0, 1) := by decide +kernel
theorem dX12_receive_22 : decode cX12_receive 22 = .ok (.getfield 9, 3) := by decide +kernel
theorem dX12_receive_25 : decode cX12_receive 25 = .ok (.bipush 68, 2) := by decide +kernel
theorem dX12_receive_27 : decode cX12_receive 27 = .ok (.iload_n 1, 1) := by decide +kernel
theorem dX12_receive_28 : decode cX12_receive 28 = .ok (.iadd, 1) := by decide +kernel
theorem dX12_receive_29 : decode cX12_receive 29 = .ok (.iaload, 1) := by decide +kernel
theorem dX12_receive_30 : decode cX12_receive 30 = .ok (.ifCond .ne 5, 3) := by decide +kernel
theorem dX12_receive_33 : decode cX12_receive 33 = .ok (.iconst (-1), 1) := by decide +kernel
theorem dX12_receive_34 : decode cX12_receive 34 = .ok (.ireturn, 1) := by decide +kernel
theorem dX12_receive_35 : decode cX12_receive 35 = .ok (.bipush 30, 2) := by decide +kernel
theorem dX12_receive_37 : decode cX12_receive 37 = .ok (.iload_n 1, 1) := by decide +kernel
theorem dX12_receive_38 : decode cX12_receive 38 = .ok (.imul, 1) := by decide +kernel
theorem dX12_receive_39 : decode cX12_receive 39 = .ok (.istore_n 3, 1) := by decide +kernel
theorem dX12_receive_40 : decode cX12_receive 40 = .ok (.iconst 0, 1) := by decide +kernel
theorem dX12_receive_41 : decode cX12_receive 41 = .ok (.istore 4, 2) := by decide +kernel
theorem dX12_receive_43 : decode cX12_receive 43 = .ok (.iload 4, 2) := by decide +kernel
theorem dX12_receive_45 : decode cX12_receive 45 = .ok (.iconst 5, 1) := by decide +kernel
theorem dX12_receive_46 : decode cX12_receive 46 = .ok (.if_icmp .ge 33, 3) := by decide +kernel
theorem dX12_receive_49 : decode cX12_receive 49 = .ok (.aload_n 0, 1) := by decide +kernel
theorem dX12_receive_50 : decode cX12_receive 50 = .ok (.getfield 46, 3) := by decide +kernel
theorem dX12_receive_53 : decode cX12_receive 53 = .ok (.iload 4, 2) := by decide +kernel
theorem dX12_receive_55 : decode cX12_receive 55 = .ok (.aload_n 0, 1) := by decide +kernel
theorem dX12_receive_56 : decode cX12_receive 56 = .ok (.getfield 9, 3) := by decide +kernel
theorem dX12_receive_59 : decode cX12_receive 59 = .ok (.sipush 878, 3) := by decide +kernel
theorem dX12_receive_62 : decode cX12_receive 62 = .ok (.sipush 180, 3) := by decide +kernel
theorem dX12_receive_65 : decode cX12_receive 65 = .ok (.iload 4, 2) := by decide +kernel
theorem dX12_receive_67 : decode cX12_receive 67 = .ok (.imul, 1) := by decide +kernel
theorem dX12_receive_68 : decode cX12_receive 68 = .ok (.iadd, 1) := by decide +kernel
theorem dX12_receive_69 : decode cX12_receive 69 = .ok (.iload_n 3, 1) := by decide +kernel
theorem dX12_receive_70 : decode cX12_receive 70 = .ok (.iadd, 1) := by decide +kernel
theorem dX12_receive_71 : decode cX12_receive 71 = .ok (.iaload, 1) := by decide +kernel
theorem dX12_receive_72 : decode cX12_receive 72 = .ok (.iastore, 1) := by decide +kernel
theorem dX12_receive_73 : decode cX12_receive 73 = .ok (.iinc 4 1, 3) := by decide +kernel
theorem dX12_receive_76 : decode cX12_receive 76 = .ok (.goto (-33), 3) := by decide +kernel
theorem dX12_receive_79 : decode cX12_receive 79 = .ok (.aload_n 0, 1) := by decide +kernel
theorem dX12_receive_80 : decode cX12_receive 80 = .ok (.getfield 13, 3) := by decide +kernel
theorem dX12_receive_83 : decode cX12_receive 83 = .ok (.sipush 504, 3) := by decide +kernel
theorem dX12_receive_86 : decode cX12_receive 86 = .ok (.iconst 4, 1) := by decide +kernel
theorem dX12_receive_87 : decode cX12_receive 87 = .ok (.iload_n 3, 1) := by decide +kernel
theorem dX12_receive_88 : decode cX12_receive 88 = .ok (.imul, 1) := by decide +kernel
theorem dX12_receive_89 : decode cX12_receive 89 = .ok (.iadd, 1) := by decide +kernel
theorem dX12_receive_90 : decode cX12_receive 90 = .ok (.aload_n 0, 1) := by decide +kernel
theorem dX12_receive_91 : decode cX12_receive 91 = .ok (.getfield 49, 3) := by decide +kernel
theorem dX12_receive_94 : decode cX12_receive 94 = .ok (.iconst 0, 1) := by decide +kernel
theorem dX12_receive_95 : decode cX12_receive 95 = .ok (.invokestatic 97, 3) := by decide +kernel
theorem dX12_receive_98 : decode cX12_receive 98 = .ok (.aload_n 0, 1) := by decide +kernel
theorem dX12_receive_99 : decode cX12_receive 99 = .ok (.getfield 46, 3) := by decide +kernel
theorem dX12_receive_102 : decode cX12_receive 102 = .ok (.iconst 5, 1) := by decide +kernel
theorem dX12_receive_103 : decode cX12_receive 103 = .ok (.aload_n 0, 1) := by decide +kernel
theorem dX12_receive_104 : decode cX12_receive 104 = .ok (.getfield 49, 3) := by decide +kernel
theorem dX12_receive_107 : decode cX12_receive 107 = .ok (.iconst 0, 1) := by decide +kernel
theorem dX12_receive_108 : decode cX12_receive 108 = .ok (.invokestatic 247, 3) := by decide +kernel
theorem dX12_receive_111 : decode cX12_receive 111 = .ok (.iastore, 1) := by decide +kernel
theorem dX12_receive_112 : decode cX12_receive 112 = .ok (.aload_n 0, 1) := by decide +kernel
theorem dX12_receive_113 : decode cX12_receive 113 = .ok (.iconst 1, 1) := by decide +kernel
theorem dX12_receive_114 : decode cX12_receive 114 = .ok (.putfield 250, 3) := by decide +kernel
theorem dX12_receive_117 : decode cX12_receive 117 = .ok (.aload_n 0, 1) := by decide +kernel
theorem dX12_receive_118 : decode cX12_receive 118 = .ok (.iload_n 1, 1) := by decide +kernel
theorem dX12_receive_119 : decode cX12_receive 119 = .ok (.invokevirtual 254, 3) := by decide +kernel
theorem dX12_receive_122 : decode cX12_receive 122 = .ok (.aload_n 0, 1) := by decide +kernel
theorem dX12_receive_123 : decode cX12_receive 123 = .ok (.getfield 46, 3) := by decide +kernel
theorem dX12_receive_126 : decode cX12_receive 126 = .ok (.iconst 0, 1) := by decide +kernel
theorem dX12_receive_127 : decode cX12_receive 127 = .ok (.iaload, 1) := by decide +kernel
theorem dX12_receive_128 : decode cX12_receive 128 = .ok (.ireturn, 1) := by decide +kernel
theorem dX12_packet_0 : decode cX12_packet 0 = .ok (.aload_n 0, 1) := by decide +kernel
theorem dX12_packet_1 : decode cX12_packet 1 = .ok (.iconst 0, 1) := by decide +kernel
theorem dX12_packet_2 : decode cX12_packet 2 = .ok (.putfield 52, 3) := by decide +kernel
theorem dX12_packet_5 : decode cX12_packet 5 = .ok (.iload_n 1, 1) := by decide +kernel
theorem dX12_packet_6 : decode cX12_packet 6 = .ok (.iconst 0, 1) := by decide +kernel
theorem dX12_packet_7 : decode cX12_packet 7 = .ok (.iconst 5, 1) := by decide +kernel
theorem dX12_packet_8 : decode cX12_packet 8 = .ok (.invokestatic 55, 3) := by decide +kernel
theorem dX12_packet_11 : decode cX12_packet 11 = .ok (.ifCond .ne 9, 3) := by decide +kernel
theorem dX12_packet_14 : decode cX12_packet 14 = .ok (.aload_n 0, 1) := by decide +kernel
theorem dX12_packet_15 : decode cX12_packet 15 = .ok (.iconst 1, 1) := by decide +kernel
theorem dX12_packet_16 : decode cX12_packet 16 = .ok (.invokevirtual 86, 3) := by decide +kernel
theorem dX12_packet_19 : decode cX12_packet 19 = .ok (.ireturn, 1) := by decide +kernel
theorem dX12_packet_20 : decode cX12_packet 20 = .ok (.aload_n 0, 1) := by decide +kernel
theorem dX12_packet_21 : decode cX12_packet 21 = .ok (.getfield 250, 3) := by decide +kernel
theorem dX12_packet_24 : decode cX12_packet 24 = .ok (.ifCond .eq 12, 3) := by decide +kernel
theorem dX12_packet_27 : decode cX12_packet 27 = .ok (.aload_n 0, 1) := by decide +kernel
theorem dX12_packet_28 : decode cX12_packet 28 = .ok (.getfield 46, 3) := by decide +kernel
theorem dX12_packet_31 : decode cX12_packet 31 = .ok (.iload_n 1, 1) := by decide +kernel
theorem dX12_packet_32 : decode cX12_packet 32 = .ok (.iaload, 1) := by decide +kernel
theorem dX12_packet_33 : decode cX12_packet 33 = .ok (.goto 8, 3) := by decide +kernel
theorem dX12_packet_36 : decode cX12_packet 36 = .ok (.aload_n 0, 1) := by decide +kernel
theorem dX12_packet_37 : decode cX12_packet 37 = .ok (.iconst 2, 1) := by decide +kernel
theorem dX12_packet_38 : decode cX12_packet 38 = .ok (.invokevirtual 86, 3) := by decide +kernel
theorem dX12_packet_41 : decode cX12_packet 41 = .ok (.ireturn, 1) := by decide +kernel
theorem dX12_topicCharacter_0 : decode cX12_topicCharacter 0 = .ok (.aload_n 0, 1) := by decide +kernel
theorem dX12_topicCharacter_1 : decode cX12_topicCharacter 1 = .ok (.iconst 0, 1) := by decide +kernel
theorem dX12_topicCharacter_2 : decode cX12_topicCharacter 2 = .ok (.putfield 52, 3) := by decide +kernel
theorem dX12_topicCharacter_5 : decode cX12_topicCharacter 5 = .ok (.aload_n 0, 1) := by decide +kernel
theorem dX12_topicCharacter_6 : decode cX12_topicCharacter 6 = .ok (.getfield 250, 3) := by decide +kernel
theorem dX12_topicCharacter_9 : decode cX12_topicCharacter 9 = .ok (.ifCond .ne 9, 3) := by decide +kernel
theorem dX12_topicCharacter_12 : decode cX12_topicCharacter 12 = .ok (.aload_n 0, 1) := by decide +kernel
theorem dX12_topicCharacter_13 : decode cX12_topicCharacter 13 = .ok (.iconst 1, 1) := by decide +kernel
theorem dX12_topicCharacter_14 : decode cX12_topicCharacter 14 = .ok (.invokevirtual 86, 3) := by decide +kernel
theorem dX12_topicCharacter_17 : decode cX12_topicCharacter 17 = .ok (.ireturn, 1) := by decide +kernel
theorem dX12_topicCharacter_18 : decode cX12_topicCharacter 18 = .ok (.iload_n 1, 1) := by decide +kernel
theorem dX12_topicCharacter_19 : decode cX12_topicCharacter 19 = .ok (.iconst 0, 1) := by decide +kernel
theorem dX12_topicCharacter_20 : decode cX12_topicCharacter 20 = .ok (.aload_n 0, 1) := by decide +kernel
theorem dX12_topicCharacter_21 : decode cX12_topicCharacter 21 = .ok (.getfield 46, 3) := by decide +kernel
theorem dX12_topicCharacter_24 : decode cX12_topicCharacter 24 = .ok (.iconst 5, 1) := by decide +kernel
theorem dX12_topicCharacter_25 : decode cX12_topicCharacter 25 = .ok (.iaload, 1) := by decide +kernel
theorem dX12_topicCharacter_26 : decode cX12_topicCharacter 26 = .ok (.iconst 1, 1) := by decide +kernel
theorem dX12_topicCharacter_27 : decode cX12_topicCharacter 27 = .ok (.isub, 1) := by decide +kernel
theorem dX12_topicCharacter_28 : decode cX12_topicCharacter 28 = .ok (.invokestatic 55, 3) := by decide +kernel
theorem dX12_topicCharacter_31 : decode cX12_topicCharacter 31 = .ok (.ifCond .eq 15, 3) := by decide +kernel
theorem dX12_topicCharacter_34 : decode cX12_topicCharacter 34 = .ok (.aload_n 0, 1) := by decide +kernel
theorem dX12_topicCharacter_35 : decode cX12_topicCharacter 35 = .ok (.getfield 49, 3) := by decide +kernel
theorem dX12_topicCharacter_38 : decode cX12_topicCharacter 38 = .ok (.iconst 0, 1) := by decide +kernel
theorem dX12_topicCharacter_39 : decode cX12_topicCharacter 39 = .ok (.iload_n 1, 1) := by decide +kernel
theorem dX12_topicCharacter_40 : decode cX12_topicCharacter 40 = .ok (.invokestatic 257, 3) := by decide +kernel
theorem dX12_topicCharacter_43 : decode cX12_topicCharacter 43 = .ok (.goto 8, 3) := by decide +kernel
theorem dX12_topicCharacter_46 : decode cX12_topicCharacter 46 = .ok (.aload_n 0, 1) := by decide +kernel
theorem dX12_topicCharacter_47 : decode cX12_topicCharacter 47 = .ok (.iconst 2, 1) := by decide +kernel
theorem dX12_topicCharacter_48 : decode cX12_topicCharacter 48 = .ok (.invokevirtual 86, 3) := by decide +kernel
theorem dX12_topicCharacter_51 : decode cX12_topicCharacter 51 = .ok (.ireturn, 1) := by decide +kernel
theorem dX12_lose_0 : decode cX12_lose 0 = .ok (.aload_n 0, 1) := by decide +kernel
theorem dX12_lose_1 : decode cX12_lose 1 = .ok (.iconst 0, 1) := by decide +kernel
theorem dX12_lose_2 : decode cX12_lose 2 = .ok (.putfield 52, 3) := by decide +kernel
theorem dX12_lose_5 : decode cX12_lose 5 = .ok (.aload_n 0, 1) := by decide +kernel
theorem dX12_lose_6 : decode cX12_lose 6 = .ok (.iload_n 1, 1) := by decide +kernel
theorem dX12_lose_7 : decode cX12_lose 7 = .ok (.invokevirtual 244, 3) := by decide +kernel
theorem dX12_lose_10 : decode cX12_lose 10 = .ok (.istore_n 2, 1) := by decide +kernel
theorem dX12_lose_11 : decode cX12_lose 11 = .ok (.iload_n 2, 1) := by decide +kernel
theorem dX12_lose_12 : decode cX12_lose 12 = .ok (.ifCond .le 9, 3) := by decide +kernel
theorem dX12_lose_15 : decode cX12_lose 15 = .ok (.aload_n 0, 1) := by decide +kernel
theorem dX12_lose_16 : decode cX12_lose 16 = .ok (.iload_n 2, 1) := by decide +kernel
theorem dX12_lose_17 : decode cX12_lose 17 = .ok (.invokevirtual 86, 3) := by decide +kernel
theorem dX12_lose_20 : decode cX12_lose 20 = .ok (.ireturn, 1) := by decide +kernel
theorem dX12_lose_21 : decode cX12_lose 21 = .ok (.aload_n 0, 1) := by decide +kernel
theorem dX12_lose_22 : decode cX12_lose 22 = .ok (.getfield 9, 3) := by decide +kernel
theorem dX12_lose_25 : decode cX12_lose 25 = .ok (.bipush 68, 2) := by decide +kernel
theorem dX12_lose_27 : decode cX12_lose 27 = .ok (.iload_n 1, 1) := by decide +kernel
theorem dX12_lose_28 : decode cX12_lose 28 = .ok (.iadd, 1) := by decide +kernel
theorem dX12_lose_29 : decode cX12_lose 29 = .ok (.iaload, 1) := by decide +kernel
theorem dX12_lose_30 : decode cX12_lose 30 = .ok (.ifCond .ne 5, 3) := by decide +kernel
theorem dX12_lose_33 : decode cX12_lose 33 = .ok (.iconst (-1), 1) := by decide +kernel
theorem dX12_lose_34 : decode cX12_lose 34 = .ok (.ireturn, 1) := by decide +kernel
theorem dX12_lose_35 : decode cX12_lose 35 = .ok (.aload_n 0, 1) := by decide +kernel
theorem dX12_lose_36 : decode cX12_lose 36 = .ok (.getfield 9, 3) := by decide +kernel
theorem dX12_lose_39 : decode cX12_lose 39 = .ok (.sipush 878, 3) := by decide +kernel
theorem dX12_lose_42 : decode cX12_lose 42 = .ok (.bipush 30, 2) := by decide +kernel
theorem dX12_lose_44 : decode cX12_lose 44 = .ok (.iload_n 1, 1) := by decide +kernel
theorem dX12_lose_45 : decode cX12_lose 45 = .ok (.imul, 1) := by decide +kernel
theorem dX12_lose_46 : decode cX12_lose 46 = .ok (.iadd, 1) := by decide +kernel
theorem dX12_lose_47 : decode cX12_lose 47 = .ok (.iaload, 1) := by decide +kernel
theorem dX12_lose_48 : decode cX12_lose 48 = .ok (.istore_n 3, 1) := by decide +kernel
theorem dX12_lose_49 : decode cX12_lose 49 = .ok (.aload_n 0, 1) := by decide +kernel
theorem dX12_lose_50 : decode cX12_lose 50 = .ok (.iload_n 1, 1) := by decide +kernel
theorem dX12_lose_51 : decode cX12_lose 51 = .ok (.invokevirtual 254, 3) := by decide +kernel
theorem dX12_lose_54 : decode cX12_lose 54 = .ok (.iload_n 3, 1) := by decide +kernel
theorem dX12_lose_55 : decode cX12_lose 55 = .ok (.ireturn, 1) := by decide +kernel
theorem dX12_repeat_0 : decode cX12_repeat 0 = .ok (.aload_n 0, 1) := by decide +kernel
theorem dX12_repeat_1 : decode cX12_repeat 1 = .ok (.iconst 0, 1) := by decide +kernel
theorem dX12_repeat_2 : decode cX12_repeat 2 = .ok (.putfield 52, 3) := by decide +kernel
theorem dX12_repeat_5 : decode cX12_repeat 5 = .ok (.aload_n 0, 1) := by decide +kernel
theorem dX12_repeat_6 : decode cX12_repeat 6 = .ok (.iload_n 1, 1) := by decide +kernel
theorem dX12_repeat_7 : decode cX12_repeat 7 = .ok (.invokevirtual 244, 3) := by decide +kernel
theorem dX12_repeat_10 : decode cX12_repeat 10 = .ok (.istore_n 2, 1) := by decide +kernel
theorem dX12_repeat_11 : decode cX12_repeat 11 = .ok (.iload_n 2, 1) := by decide +kernel
theorem dX12_repeat_12 : decode cX12_repeat 12 = .ok (.ifCond .le 9, 3) := by decide +kernel
theorem dX12_repeat_15 : decode cX12_repeat 15 = .ok (.aload_n 0, 1) := by decide +kernel
theorem dX12_repeat_16 : decode cX12_repeat 16 = .ok (.iload_n 2, 1) := by decide +kernel
theorem dX12_repeat_17 : decode cX12_repeat 17 = .ok (.invokevirtual 86, 3) := by decide +kernel
theorem dX12_repeat_20 : decode cX12_repeat 20 = .ok (.ireturn, 1) := by decide +kernel
theorem dX12_repeat_21 : decode cX12_repeat 21 = .ok (.aload_n 0, 1) := by decide +kernel
theorem dX12_repeat_22 : decode cX12_repeat 22 = .ok (.getfield 9, 3) := by decide +kernel
theorem dX12_repeat_25 : decode cX12_repeat 25 = .ok (.bipush 68, 2) := by decide +kernel
theorem dX12_repeat_27 : decode cX12_repeat 27 = .ok (.iload_n 1, 1) := by decide +kernel
theorem dX12_repeat_28 : decode cX12_repeat 28 = .ok (.iadd, 1) := by decide +kernel
theorem dX12_repeat_29 : decode cX12_repeat 29 = .ok (.iaload, 1) := by decide +kernel
theorem dX12_repeat_30 : decode cX12_repeat 30 = .ok (.ifCond .ne 9, 3) := by decide +kernel
theorem dX12_repeat_33 : decode cX12_repeat 33 = .ok (.aload_n 0, 1) := by decide +kernel
theorem dX12_repeat_34 : decode cX12_repeat 34 = .ok (.iconst 2, 1) := by decide +kernel
theorem dX12_repeat_35 : decode cX12_repeat 35 = .ok (.invokevirtual 86, 3) := by decide +kernel
theorem dX12_repeat_38 : decode cX12_repeat 38 = .ok (.ireturn, 1) := by decide +kernel
theorem dX12_repeat_39 : decode cX12_repeat 39 = .ok (.bipush 30, 2) := by decide +kernel
theorem dX12_repeat_41 : decode cX12_repeat 41 = .ok (.iload_n 1, 1) := by decide +kernel
theorem dX12_repeat_42 : decode cX12_repeat 42 = .ok (.imul, 1) := by decide +kernel
theorem dX12_repeat_43 : decode cX12_repeat 43 = .ok (.istore_n 3, 1) := by decide +kernel
theorem dX12_repeat_44 : decode cX12_repeat 44 = .ok (.aload_n 0, 1) := by decide +kernel
theorem dX12_repeat_45 : decode cX12_repeat 45 = .ok (.getfield 9, 3) := by decide +kernel
theorem dX12_repeat_48 : decode cX12_repeat 48 = .ok (.bipush 68, 2) := by decide +kernel
theorem dX12_repeat_50 : decode cX12_repeat 50 = .ok (.iload_n 1, 1) := by decide +kernel
theorem dX12_repeat_51 : decode cX12_repeat 51 = .ok (.iadd, 1) := by decide +kernel
theorem dX12_repeat_52 : decode cX12_repeat 52 = .ok (.iaload, 1) := by decide +kernel
theorem dX12_repeat_53 : decode cX12_repeat 53 = .ok (.bipush 30, 2) := by decide +kernel
theorem dX12_repeat_55 : decode cX12_repeat 55 = .ok (.if_icmp .ge 69, 3) := by decide +kernel
theorem dX12_repeat_58 : decode cX12_repeat 58 = .ok (.aload_n 0, 1) := by decide +kernel
theorem dX12_repeat_59 : decode cX12_repeat 59 = .ok (.iload_n 1, 1) := by decide +kernel
theorem dX12_repeat_60 : decode cX12_repeat 60 = .ok (.aload_n 0, 1) := by decide +kernel
theorem dX12_repeat_61 : decode cX12_repeat 61 = .ok (.getfield 9, 3) := by decide +kernel
theorem dX12_repeat_64 : decode cX12_repeat 64 = .ok (.sipush 878, 3) := by decide +kernel
theorem dX12_repeat_67 : decode cX12_repeat 67 = .ok (.iload_n 3, 1) := by decide +kernel
theorem dX12_repeat_68 : decode cX12_repeat 68 = .ok (.iadd, 1) := by decide +kernel
theorem dX12_repeat_69 : decode cX12_repeat 69 = .ok (.iaload, 1) := by decide +kernel
theorem dX12_repeat_70 : decode cX12_repeat 70 = .ok (.aload_n 0, 1) := by decide +kernel
theorem dX12_repeat_71 : decode cX12_repeat 71 = .ok (.getfield 9, 3) := by decide +kernel
theorem dX12_repeat_74 : decode cX12_repeat 74 = .ok (.sipush 1058, 3) := by decide +kernel
theorem dX12_repeat_77 : decode cX12_repeat 77 = .ok (.iload_n 3, 1) := by decide +kernel
theorem dX12_repeat_78 : decode cX12_repeat 78 = .ok (.iadd, 1) := by decide +kernel
theorem dX12_repeat_79 : decode cX12_repeat 79 = .ok (.iaload, 1) := by decide +kernel
theorem dX12_repeat_80 : decode cX12_repeat 80 = .ok (.aload_n 0, 1) := by decide +kernel
theorem dX12_repeat_81 : decode cX12_repeat 81 = .ok (.getfield 9, 3) := by decide +kernel
theorem dX12_repeat_84 : decode cX12_repeat 84 = .ok (.sipush 1238, 3) := by decide +kernel
theorem dX12_repeat_87 : decode cX12_repeat 87 = .ok (.iload_n 3, 1) := by decide +kernel
theorem dX12_repeat_88 : decode cX12_repeat 88 = .ok (.iadd, 1) := by decide +kernel
theorem dX12_repeat_89 : decode cX12_repeat 89 = .ok (.iaload, 1) := by decide +kernel
theorem dX12_repeat_90 : decode cX12_repeat 90 = .ok (.aload_n 0, 1) := by decide +kernel
theorem dX12_repeat_91 : decode cX12_repeat 91 = .ok (.getfield 9, 3) := by decide +kernel
theorem dX12_repeat_94 : decode cX12_repeat 94 = .ok (.sipush 1418, 3) := by decide +kernel
theorem dX12_repeat_97 : decode cX12_repeat 97 = .ok (.iload_n 3, 1) := by decide +kernel
theorem dX12_repeat_98 : decode cX12_repeat 98 = .ok (.iadd, 1) := by decide +kernel
theorem dX12_repeat_99 : decode cX12_repeat 99 = .ok (.iaload, 1) := by decide +kernel
theorem dX12_repeat_100 : decode cX12_repeat 100 = .ok (.aload_n 0, 1) := by decide +kernel
theorem dX12_repeat_101 : decode cX12_repeat 101 = .ok (.getfield 9, 3) := by decide +kernel
theorem dX12_repeat_104 : decode cX12_repeat 104 = .ok (.sipush 1598, 3) := by decide +kernel
theorem dX12_repeat_107 : decode cX12_repeat 107 = .ok (.iload_n 3, 1) := by decide +kernel
theorem dX12_repeat_108 : decode cX12_repeat 108 = .ok (.iadd, 1) := by decide +kernel
theorem dX12_repeat_109 : decode cX12_repeat 109 = .ok (.iaload, 1) := by decide +kernel
theorem dX12_repeat_110 : decode cX12_repeat 110 = .ok (.aload_n 0, 1) := by decide +kernel
theorem dX12_repeat_111 : decode cX12_repeat 111 = .ok (.getfield 13, 3) := by decide +kernel
theorem dX12_repeat_114 : decode cX12_repeat 114 = .ok (.sipush 504, 3) := by decide +kernel
theorem dX12_repeat_117 : decode cX12_repeat 117 = .ok (.iconst 4, 1) := by decide +kernel
theorem dX12_repeat_118 : decode cX12_repeat 118 = .ok (.iload_n 3, 1) := by decide +kernel
theorem dX12_repeat_119 : decode cX12_repeat 119 = .ok (.imul, 1) := by decide +kernel
theorem dX12_repeat_120 : decode cX12_repeat 120 = .ok (.iadd, 1) := by decide +kernel
theorem dX12_repeat_121 : decode cX12_repeat 121 = .ok (.invokevirtual 93, 3) := by decide +kernel
theorem dX12_repeat_124 : decode cX12_repeat 124 = .ok (.aload_n 0, 1) := by decide +kernel
theorem dX12_repeat_125 : decode cX12_repeat 125 = .ok (.getfield 9, 3) := by decide +kernel
theorem dX12_repeat_128 : decode cX12_repeat 128 = .ok (.bipush 68, 2) := by decide +kernel
theorem dX12_repeat_130 : decode cX12_repeat 130 = .ok (.iload_n 1, 1) := by decide +kernel
theorem dX12_repeat_131 : decode cX12_repeat 131 = .ok (.iadd, 1) := by decide +kernel
theorem dX12_repeat_132 : decode cX12_repeat 132 = .ok (.iaload, 1) := by decide +kernel
theorem dX12_repeat_133 : decode cX12_repeat 133 = .ok (.ireturn, 1) := by decide +kernel
theorem dX12_kepts_0 : decode cX12_kepts 0 = .ok (.iconst 0, 1) := by decide +kernel
theorem dX12_kepts_1 : decode cX12_kepts 1 = .ok (.istore_n 2, 1) := by decide +kernel
theorem dX12_kepts_2 : decode cX12_kepts 2 = .ok (.iconst 1, 1) := by decide +kernel
theorem dX12_kepts_3 : decode cX12_kepts 3 = .ok (.istore_n 3, 1) := by decide +kernel
theorem dX12_kepts_4 : decode cX12_kepts 4 = .ok (.iload_n 3, 1) := by decide +kernel
theorem dX12_kepts_5 : decode cX12_kepts 5 = .ok (.bipush 50, 2) := by decide +kernel
theorem dX12_kepts_7 : decode cX12_kepts 7 = .ok (.if_icmp .gt 26, 3) := by decide +kernel
theorem dX12_kepts_10 : decode cX12_kepts 10 = .ok (.iload_n 2, 1) := by decide +kernel
theorem dX12_kepts_11 : decode cX12_kepts 11 = .ok (.aload_n 0, 1) := by decide +kernel
theorem dX12_kepts_12 : decode cX12_kepts 12 = .ok (.getfield 9, 3) := by decide +kernel
theorem dX12_kepts_15 : decode cX12_kepts 15 = .ok (.bipush 104, 2) := by decide +kernel
theorem dX12_kepts_17 : decode cX12_kepts 17 = .ok (.bipush 51, 2) := by decide +kernel
theorem dX12_kepts_19 : decode cX12_kepts 19 = .ok (.iload_n 1, 1) := by decide +kernel
theorem dX12_kepts_20 : decode cX12_kepts 20 = .ok (.imul, 1) := by decide +kernel
theorem dX12_kepts_21 : decode cX12_kepts 21 = .ok (.iadd, 1) := by decide +kernel
theorem dX12_kepts_22 : decode cX12_kepts 22 = .ok (.iload_n 3, 1) := by decide +kernel
theorem dX12_kepts_23 : decode cX12_kepts 23 = .ok (.iadd, 1) := by decide +kernel
theorem dX12_kepts_24 : decode cX12_kepts 24 = .ok (.iaload, 1) := by decide +kernel
theorem dX12_kepts_25 : decode cX12_kepts 25 = .ok (.iadd, 1) := by decide +kernel
theorem dX12_kepts_26 : decode cX12_kepts 26 = .ok (.istore_n 2, 1) := by decide +kernel
theorem dX12_kepts_27 : decode cX12_kepts 27 = .ok (.iinc 3 1, 3) := by decide +kernel
theorem dX12_kepts_30 : decode cX12_kepts 30 = .ok (.goto (-26), 3) := by decide +kernel
theorem dX12_kepts_33 : decode cX12_kepts 33 = .ok (.iload_n 2, 1) := by decide +kernel
theorem dX12_kepts_34 : decode cX12_kepts 34 = .ok (.ireturn, 1) := by decide +kernel
theorem dX12_length_0 : decode cX12_length 0 = .ok (.aload_n 0, 1) := by decide +kernel
theorem dX12_length_1 : decode cX12_length 1 = .ok (.iconst 0, 1) := by decide +kernel
theorem dX12_length_2 : decode cX12_length 2 = .ok (.putfield 52, 3) := by decide +kernel
theorem dX12_length_5 : decode cX12_length 5 = .ok (.iload_n 1, 1) := by decide +kernel
theorem dX12_length_6 : decode cX12_length 6 = .ok (.invokestatic 191, 3) := by decide +kernel
theorem dX12_length_9 : decode cX12_length 9 = .ok (.ifCond .ne 9, 3) := by decide +kernel
theorem dX12_length_12 : decode cX12_length 12 = .ok (.aload_n 0, 1) := by decide +kernel
theorem dX12_length_13 : decode cX12_length 13 = .ok (.iconst 1, 1) := by decide +kernel
theorem dX12_length_14 : decode cX12_length 14 = .ok (.invokevirtual 86, 3) := by decide +kernel
theorem dX12_length_17 : decode cX12_length 17 = .ok (.ireturn, 1) := by decide +kernel
theorem dX12_length_18 : decode cX12_length 18 = .ok (.iload_n 2, 1) := by decide +kernel
theorem dX12_length_19 : decode cX12_length 19 = .ok (.tableswitch 79 0 4 #[33, 43, 53, 63, 69], 33) := by decide +kernel
theorem dX12_length_52 : decode cX12_length 52 = .ok (.aload_n 0, 1) := by decide +kernel
theorem dX12_length_53 : decode cX12_length 53 = .ok (.getfield 9, 3) := by decide +kernel
theorem dX12_length_56 : decode cX12_length 56 = .ok (.bipush 68, 2) := by decide +kernel
theorem dX12_length_58 : decode cX12_length 58 = .ok (.iload_n 1, 1) := by decide +kernel
theorem dX12_length_59 : decode cX12_length 59 = .ok (.iadd, 1) := by decide +kernel
theorem dX12_length_60 : decode cX12_length 60 = .ok (.iaload, 1) := by decide +kernel
theorem dX12_length_61 : decode cX12_length 61 = .ok (.ireturn, 1) := by decide +kernel
theorem dX12_length_62 : decode cX12_length 62 = .ok (.aload_n 0, 1) := by decide +kernel
theorem dX12_length_63 : decode cX12_length 63 = .ok (.getfield 9, 3) := by decide +kernel
theorem dX12_length_66 : decode cX12_length 66 = .ok (.bipush 56, 2) := by decide +kernel
theorem dX12_length_68 : decode cX12_length 68 = .ok (.iload_n 1, 1) := by decide +kernel
theorem dX12_length_69 : decode cX12_length 69 = .ok (.iadd, 1) := by decide +kernel
theorem dX12_length_70 : decode cX12_length 70 = .ok (.iaload, 1) := by decide +kernel
theorem dX12_length_71 : decode cX12_length 71 = .ok (.ireturn, 1) := by decide +kernel
theorem dX12_length_72 : decode cX12_length 72 = .ok (.aload_n 0, 1) := by decide +kernel
theorem dX12_length_73 : decode cX12_length 73 = .ok (.getfield 9, 3) := by decide +kernel
theorem dX12_length_76 : decode cX12_length 76 = .ok (.bipush 62, 2) := by decide +kernel
theorem dX12_length_78 : decode cX12_length 78 = .ok (.iload_n 1, 1) := by decide +kernel
theorem dX12_length_79 : decode cX12_length 79 = .ok (.iadd, 1) := by decide +kernel
theorem dX12_length_80 : decode cX12_length 80 = .ok (.iaload, 1) := by decide +kernel
theorem dX12_length_81 : decode cX12_length 81 = .ok (.ireturn, 1) := by decide +kernel
theorem dX12_length_82 : decode cX12_length 82 = .ok (.aload_n 0, 1) := by decide +kernel
theorem dX12_length_83 : decode cX12_length 83 = .ok (.iload_n 1, 1) := by decide +kernel
theorem dX12_length_84 : decode cX12_length 84 = .ok (.invokevirtual 261, 3) := by decide +kernel
theorem dX12_length_87 : decode cX12_length 87 = .ok (.ireturn, 1) := by decide +kernel
theorem dX12_length_88 : decode cX12_length 88 = .ok (.aload_n 0, 1) := by decide +kernel
theorem dX12_length_89 : decode cX12_length 89 = .ok (.getfield 9, 3) := by decide +kernel
theorem dX12_length_92 : decode cX12_length 92 = .ok (.bipush 50, 2) := by decide +kernel
theorem dX12_length_94 : decode cX12_length 94 = .ok (.iload_n 1, 1) := by decide +kernel
theorem dX12_length_95 : decode cX12_length 95 = .ok (.iadd, 1) := by decide +kernel
theorem dX12_length_96 : decode cX12_length 96 = .ok (.iaload, 1) := by decide +kernel
theorem dX12_length_97 : decode cX12_length 97 = .ok (.ireturn, 1) := by decide +kernel
theorem dX12_length_98 : decode cX12_length 98 = .ok (.aload_n 0, 1) := by decide +kernel
theorem dX12_length_99 : decode cX12_length 99 = .ok (.iconst 2, 1) := by decide +kernel
theorem dX12_length_100 : decode cX12_length 100 = .ok (.invokevirtual 86, 3) := by decide +kernel
theorem dX12_length_103 : decode cX12_length 103 = .ok (.ireturn, 1) := by decide +kernel
theorem dX12_inFlight_0 : decode cX12_inFlight 0 = .ok (.aload_n 0, 1) := by decide +kernel
theorem dX12_inFlight_1 : decode cX12_inFlight 1 = .ok (.iconst 0, 1) := by decide +kernel
theorem dX12_inFlight_2 : decode cX12_inFlight 2 = .ok (.putfield 52, 3) := by decide +kernel
theorem dX12_inFlight_5 : decode cX12_inFlight 5 = .ok (.iload_n 1, 1) := by decide +kernel
theorem dX12_inFlight_6 : decode cX12_inFlight 6 = .ok (.invokestatic 191, 3) := by decide +kernel
theorem dX12_inFlight_9 : decode cX12_inFlight 9 = .ok (.ifCond .eq 22, 3) := by decide +kernel
theorem dX12_inFlight_12 : decode cX12_inFlight 12 = .ok (.iload_n 2, 1) := by decide +kernel
theorem dX12_inFlight_13 : decode cX12_inFlight 13 = .ok (.iconst 0, 1) := by decide +kernel
theorem dX12_inFlight_14 : decode cX12_inFlight 14 = .ok (.aload_n 0, 1) := by decide +kernel
theorem dX12_inFlight_15 : decode cX12_inFlight 15 = .ok (.getfield 9, 3) := by decide +kernel
theorem dX12_inFlight_18 : decode cX12_inFlight 18 = .ok (.bipush 56, 2) := by decide +kernel
theorem dX12_inFlight_20 : decode cX12_inFlight 20 = .ok (.iload_n 1, 1) := by decide +kernel
theorem dX12_inFlight_21 : decode cX12_inFlight 21 = .ok (.iadd, 1) := by decide +kernel
theorem dX12_inFlight_22 : decode cX12_inFlight 22 = .ok (.iaload, 1) := by decide +kernel
theorem dX12_inFlight_23 : decode cX12_inFlight 23 = .ok (.iconst 1, 1) := by decide +kernel
theorem dX12_inFlight_24 : decode cX12_inFlight 24 = .ok (.isub, 1) := by decide +kernel
theorem dX12_inFlight_25 : decode cX12_inFlight 25 = .ok (.invokestatic 55, 3) := by decide +kernel
theorem dX12_inFlight_28 : decode cX12_inFlight 28 = .ok (.ifCond .ne 9, 3) := by decide +kernel
theorem dX12_inFlight_31 : decode cX12_inFlight 31 = .ok (.aload_n 0, 1) := by decide +kernel
theorem dX12_inFlight_32 : decode cX12_inFlight 32 = .ok (.iconst 1, 1) := by decide +kernel
theorem dX12_inFlight_33 : decode cX12_inFlight 33 = .ok (.invokevirtual 86, 3) := by decide +kernel
theorem dX12_inFlight_36 : decode cX12_inFlight 36 = .ok (.ireturn, 1) := by decide +kernel
theorem dX12_inFlight_37 : decode cX12_inFlight 37 = .ok (.iconst 5, 1) := by decide +kernel
theorem dX12_inFlight_38 : decode cX12_inFlight 38 = .ok (.iload_n 1, 1) := by decide +kernel
theorem dX12_inFlight_39 : decode cX12_inFlight 39 = .ok (.imul, 1) := by decide +kernel
theorem dX12_inFlight_40 : decode cX12_inFlight 40 = .ok (.iload_n 2, 1) := by decide +kernel
theorem dX12_inFlight_41 : decode cX12_inFlight 41 = .ok (.iadd, 1) := by decide +kernel
theorem dX12_inFlight_42 : decode cX12_inFlight 42 = .ok (.istore 4, 2) := by decide +kernel
theorem dX12_inFlight_44 : decode cX12_inFlight 44 = .ok (.iload_n 3, 1) := by decide +kernel
theorem dX12_inFlight_45 : decode cX12_inFlight 45 = .ok (.tableswitch 95 0 4 #[35, 47, 59, 71, 83], 35) := by decide +kernel
theorem dX12_inFlight_80 : decode cX12_inFlight 80 = .ok (.aload_n 0, 1) := by decide +kernel
theorem dX12_inFlight_81 : decode cX12_inFlight 81 = .ok (.getfield 9, 3) := by decide +kernel
theorem dX12_inFlight_84 : decode cX12_inFlight 84 = .ok (.sipush 554, 3) := by decide +kernel
theorem dX12_inFlight_87 : decode cX12_inFlight 87 = .ok (.iload 4, 2) := by decide +kernel
theorem dX12_inFlight_89 : decode cX12_inFlight 89 = .ok (.iadd, 1) := by decide +kernel
theorem dX12_inFlight_90 : decode cX12_inFlight 90 = .ok (.iaload, 1) := by decide +kernel
theorem dX12_inFlight_91 : decode cX12_inFlight 91 = .ok (.ireturn, 1) := by decide +kernel
theorem dX12_inFlight_92 : decode cX12_inFlight 92 = .ok (.aload_n 0, 1) := by decide +kernel
theorem dX12_inFlight_93 : decode cX12_inFlight 93 = .ok (.getfield 9, 3) := by decide +kernel
theorem dX12_inFlight_96 : decode cX12_inFlight 96 = .ok (.sipush 584, 3) := by decide +kernel
theorem dX12_inFlight_99 : decode cX12_inFlight 99 = .ok (.iload 4, 2) := by decide +kernel
theorem dX12_inFlight_101 : decode cX12_inFlight 101 = .ok (.iadd, 1) := by decide +kernel
theorem dX12_inFlight_102 : decode cX12_inFlight 102 = .ok (.iaload, 1) := by decide +kernel
theorem dX12_inFlight_103 : decode cX12_inFlight 103 = .ok (.ireturn, 1) := by decide +kernel
theorem dX12_inFlight_104 : decode cX12_inFlight 104 = .ok (.aload_n 0, 1) := by decide +kernel
theorem dX12_inFlight_105 : decode cX12_inFlight 105 = .ok (.getfield 9, 3) := by decide +kernel
theorem dX12_inFlight_108 : decode cX12_inFlight 108 = .ok (.sipush 614, 3) := by decide +kernel
theorem dX12_inFlight_111 : decode cX12_inFlight 111 = .ok (.iload 4, 2) := by decide +kernel
theorem dX12_inFlight_113 : decode cX12_inFlight 113 = .ok (.iadd, 1) := by decide +kernel
theorem dX12_inFlight_114 : decode cX12_inFlight 114 = .ok (.iaload, 1) := by decide +kernel
theorem dX12_inFlight_115 : decode cX12_inFlight 115 = .ok (.ireturn, 1) := by decide +kernel
theorem dX12_inFlight_116 : decode cX12_inFlight 116 = .ok (.aload_n 0, 1) := by decide +kernel
theorem dX12_inFlight_117 : decode cX12_inFlight 117 = .ok (.getfield 9, 3) := by decide +kernel
theorem dX12_inFlight_120 : decode cX12_inFlight 120 = .ok (.sipush 674, 3) := by decide +kernel
theorem dX12_inFlight_123 : decode cX12_inFlight 123 = .ok (.iload 4, 2) := by decide +kernel
theorem dX12_inFlight_125 : decode cX12_inFlight 125 = .ok (.iadd, 1) := by decide +kernel
theorem dX12_inFlight_126 : decode cX12_inFlight 126 = .ok (.iaload, 1) := by decide +kernel
theorem dX12_inFlight_127 : decode cX12_inFlight 127 = .ok (.ireturn, 1) := by decide +kernel
theorem dX12_inFlight_128 : decode cX12_inFlight 128 = .ok (.aload_n 0, 1) := by decide +kernel
theorem dX12_inFlight_129 : decode cX12_inFlight 129 = .ok (.getfield 9, 3) := by decide +kernel
theorem dX12_inFlight_132 : decode cX12_inFlight 132 = .ok (.sipush 704, 3) := by decide +kernel
theorem dX12_inFlight_135 : decode cX12_inFlight 135 = .ok (.iload 4, 2) := by decide +kernel
theorem dX12_inFlight_137 : decode cX12_inFlight 137 = .ok (.iadd, 1) := by decide +kernel
theorem dX12_inFlight_138 : decode cX12_inFlight 138 = .ok (.iaload, 1) := by decide +kernel
theorem dX12_inFlight_139 : decode cX12_inFlight 139 = .ok (.ireturn, 1) := by decide +kernel
theorem dX12_inFlight_140 : decode cX12_inFlight 140 = .ok (.aload_n 0, 1) := by decide +kernel
theorem dX12_inFlight_141 : decode cX12_inFlight 141 = .ok (.iconst 2, 1) := by decide +kernel
theorem dX12_inFlight_142 : decode cX12_inFlight 142 = .ok (.invokevirtual 86, 3) := by decide +kernel
theorem dX12_inFlight_145 : decode cX12_inFlight 145 = .ok (.ireturn, 1) := by decide +kernel
theorem dX12_timesOut_0 : decode cX12_timesOut 0 = .ok (.iconst 0, 1) := by decide +kernel
theorem dX12_timesOut_1 : decode cX12_timesOut 1 = .ok (.istore_n 2, 1) := by decide +kernel
theorem dX12_timesOut_2 : decode cX12_timesOut 2 = .ok (.iload_n 2, 1) := by decide +kernel
theorem dX12_timesOut_3 : decode cX12_timesOut 3 = .ok (.aload_n 0, 1) := by decide +kernel
theorem dX12_timesOut_4 : decode cX12_timesOut 4 = .ok (.getfield 9, 3) := by decide +kernel
theorem dX12_timesOut_7 : decode cX12_timesOut 7 = .ok (.bipush 56, 2) := by decide +kernel
theorem dX12_timesOut_9 : decode cX12_timesOut 9 = .ok (.iload_n 1, 1) := by decide +kernel
theorem dX12_timesOut_10 : decode cX12_timesOut 10 = .ok (.iadd, 1) := by decide +kernel
theorem dX12_timesOut_11 : decode cX12_timesOut 11 = .ok (.iaload, 1) := by decide +kernel
theorem dX12_timesOut_12 : decode cX12_timesOut 12 = .ok (.if_icmp .ge 45, 3) := by decide +kernel
theorem dX12_timesOut_15 : decode cX12_timesOut 15 = .ok (.aload_n 0, 1) := by decide +kernel
theorem dX12_timesOut_16 : decode cX12_timesOut 16 = .ok (.getfield 9, 3) := by decide +kernel
theorem dX12_timesOut_19 : decode cX12_timesOut 19 = .ok (.iconst 0, 1) := by decide +kernel
theorem dX12_timesOut_20 : decode cX12_timesOut 20 = .ok (.iaload, 1) := by decide +kernel
theorem dX12_timesOut_21 : decode cX12_timesOut 21 = .ok (.aload_n 0, 1) := by decide +kernel
theorem dX12_timesOut_22 : decode cX12_timesOut 22 = .ok (.getfield 9, 3) := by decide +kernel
theorem dX12_timesOut_25 : decode cX12_timesOut 25 = .ok (.sipush 704, 3) := by decide +kernel
theorem dX12_timesOut_28 : decode cX12_timesOut 28 = .ok (.iconst 5, 1) := by decide +kernel
theorem dX12_timesOut_29 : decode cX12_timesOut 29 = .ok (.iload_n 1, 1) := by decide +kernel
theorem dX12_timesOut_30 : decode cX12_timesOut 30 = .ok (.imul, 1) := by decide +kernel
theorem dX12_timesOut_31 : decode cX12_timesOut 31 = .ok (.iadd, 1) := by decide +kernel
theorem dX12_timesOut_32 : decode cX12_timesOut 32 = .ok (.iload_n 2, 1) := by decide +kernel
theorem dX12_timesOut_33 : decode cX12_timesOut 33 = .ok (.iadd, 1) := by decide +kernel
theorem dX12_timesOut_34 : decode cX12_timesOut 34 = .ok (.iaload, 1) := by decide +kernel
theorem dX12_timesOut_35 : decode cX12_timesOut 35 = .ok (.isub, 1) := by decide +kernel
theorem dX12_timesOut_36 : decode cX12_timesOut 36 = .ok (.aload_n 0, 1) := by decide +kernel
theorem dX12_timesOut_37 : decode cX12_timesOut 37 = .ok (.getfield 9, 3) := by decide +kernel
theorem dX12_timesOut_40 : decode cX12_timesOut 40 = .ok (.iconst 2, 1) := by decide +kernel
theorem dX12_timesOut_41 : decode cX12_timesOut 41 = .ok (.iaload, 1) := by decide +kernel
theorem dX12_timesOut_42 : decode cX12_timesOut 42 = .ok (.if_icmp .lt 9, 3) := by decide +kernel
theorem dX12_timesOut_45 : decode cX12_timesOut 45 = .ok (.aload_n 0, 1) := by decide +kernel
theorem dX12_timesOut_46 : decode cX12_timesOut 46 = .ok (.iload_n 1, 1) := by decide +kernel
theorem dX12_timesOut_47 : decode cX12_timesOut 47 = .ok (.iload_n 2, 1) := by decide +kernel
theorem dX12_timesOut_48 : decode cX12_timesOut 48 = .ok (.invokevirtual 197, 3) := by decide +kernel
theorem dX12_timesOut_51 : decode cX12_timesOut 51 = .ok (.iinc 2 1, 3) := by decide +kernel
theorem dX12_timesOut_54 : decode cX12_timesOut 54 = .ok (.goto (-52), 3) := by decide +kernel
theorem dX12_timesOut_57 : decode cX12_timesOut 57 = .ok (.return_, 1) := by decide +kernel
theorem dX12_ticks_0 : decode cX12_ticks 0 = .ok (.aload_n 0, 1) := by decide +kernel
theorem dX12_ticks_1 : decode cX12_ticks 1 = .ok (.getfield 9, 3) := by decide +kernel
theorem dX12_ticks_4 : decode cX12_ticks 4 = .ok (.iconst 0, 1) := by decide +kernel
theorem dX12_ticks_5 : decode cX12_ticks 5 = .ok (.dup2, 1) := by decide +kernel
theorem dX12_ticks_6 : decode cX12_ticks 6 = .ok (.iaload, 1) := by decide +kernel
theorem dX12_ticks_7 : decode cX12_ticks 7 = .ok (.iconst 1, 1) := by decide +kernel
theorem dX12_ticks_8 : decode cX12_ticks 8 = .ok (.iadd, 1) := by decide +kernel
theorem dX12_ticks_9 : decode cX12_ticks 9 = .ok (.iastore, 1) := by decide +kernel
theorem dX12_ticks_10 : decode cX12_ticks 10 = .ok (.iconst 0, 1) := by decide +kernel
theorem dX12_ticks_11 : decode cX12_ticks 11 = .ok (.istore_n 1, 1) := by decide +kernel
theorem dX12_ticks_12 : decode cX12_ticks 12 = .ok (.iload_n 1, 1) := by decide +kernel
theorem dX12_ticks_13 : decode cX12_ticks 13 = .ok (.bipush 6, 2) := by decide +kernel
theorem dX12_ticks_15 : decode cX12_ticks 15 = .ok (.if_icmp .ge 31, 3) := by decide +kernel
theorem dX12_ticks_18 : decode cX12_ticks 18 = .ok (.aload_n 0, 1) := by decide +kernel
theorem dX12_ticks_19 : decode cX12_ticks 19 = .ok (.iload_n 1, 1) := by decide +kernel
theorem dX12_ticks_20 : decode cX12_ticks 20 = .ok (.invokevirtual 107, 3) := by decide +kernel
theorem dX12_ticks_23 : decode cX12_ticks 23 = .ok (.ifCond .eq 17, 3) := by decide +kernel
theorem dX12_ticks_26 : decode cX12_ticks 26 = .ok (.aload_n 0, 1) := by decide +kernel
theorem dX12_ticks_27 : decode cX12_ticks 27 = .ok (.getfield 9, 3) := by decide +kernel
theorem dX12_ticks_30 : decode cX12_ticks 30 = .ok (.iconst 2, 1) := by decide +kernel
theorem dX12_ticks_31 : decode cX12_ticks 31 = .ok (.iaload, 1) := by decide +kernel
theorem dX12_ticks_32 : decode cX12_ticks 32 = .ok (.ifCond .le 8, 3) := by decide +kernel
theorem dX12_ticks_35 : decode cX12_ticks 35 = .ok (.aload_n 0, 1) := by decide +kernel
theorem dX12_ticks_36 : decode cX12_ticks 36 = .ok (.iload_n 1, 1) := by decide +kernel
theorem dX12_ticks_37 : decode cX12_ticks 37 = .ok (.invokevirtual 264, 3) := by decide +kernel
theorem dX12_ticks_40 : decode cX12_ticks 40 = .ok (.iinc 1 1, 3) := by decide +kernel
theorem dX12_ticks_43 : decode cX12_ticks 43 = .ok (.goto (-31), 3) := by decide +kernel
theorem dX12_ticks_46 : decode cX12_ticks 46 = .ok (.iconst 0, 1) := by decide +kernel
theorem dX12_ticks_47 : decode cX12_ticks 47 = .ok (.istore_n 1, 1) := by decide +kernel
theorem dX12_ticks_48 : decode cX12_ticks 48 = .ok (.iload_n 1, 1) := by decide +kernel
theorem dX12_ticks_49 : decode cX12_ticks 49 = .ok (.bipush 6, 2) := by decide +kernel
theorem dX12_ticks_51 : decode cX12_ticks 51 = .ok (.if_icmp .ge 50, 3) := by decide +kernel
theorem dX12_ticks_54 : decode cX12_ticks 54 = .ok (.aload_n 0, 1) := by decide +kernel
theorem dX12_ticks_55 : decode cX12_ticks 55 = .ok (.getfield 17, 3) := by decide +kernel
theorem dX12_ticks_58 : decode cX12_ticks 58 = .ok (.iload_n 1, 1) := by decide +kernel
theorem dX12_ticks_59 : decode cX12_ticks 59 = .ok (.aload_n 0, 1) := by decide +kernel
theorem dX12_ticks_60 : decode cX12_ticks 60 = .ok (.getfield 17, 3) := by decide +kernel
theorem dX12_ticks_63 : decode cX12_ticks 63 = .ok (.iload_n 1, 1) := by decide +kernel
theorem dX12_ticks_64 : decode cX12_ticks 64 = .ok (.faload, 1) := by decide +kernel
theorem dX12_ticks_65 : decode cX12_ticks 65 = .ok (.ldc_w 267, 3) := by decide +kernel
theorem dX12_ticks_68 : decode cX12_ticks 68 = .ok (.fmul, 1) := by decide +kernel
theorem dX12_ticks_69 : decode cX12_ticks 69 = .ok (.aload_n 0, 1) := by decide +kernel
theorem dX12_ticks_70 : decode cX12_ticks 70 = .ok (.getfield 9, 3) := by decide +kernel
theorem dX12_ticks_73 : decode cX12_ticks 73 = .ok (.bipush 80, 2) := by decide +kernel
theorem dX12_ticks_75 : decode cX12_ticks 75 = .ok (.iload_n 1, 1) := by decide +kernel
theorem dX12_ticks_76 : decode cX12_ticks 76 = .ok (.iadd, 1) := by decide +kernel
theorem dX12_ticks_77 : decode cX12_ticks 77 = .ok (.iaload, 1) := by decide +kernel
theorem dX12_ticks_78 : decode cX12_ticks 78 = .ok (.i2f, 1) := by decide +kernel
theorem dX12_ticks_79 : decode cX12_ticks 79 = .ok (.ldc_w 268, 3) := by decide +kernel
theorem dX12_ticks_82 : decode cX12_ticks 82 = .ok (.fmul, 1) := by decide +kernel
theorem dX12_ticks_83 : decode cX12_ticks 83 = .ok (.fadd, 1) := by decide +kernel
theorem dX12_ticks_84 : decode cX12_ticks 84 = .ok (.fastore, 1) := by decide +kernel
theorem dX12_ticks_85 : decode cX12_ticks 85 = .ok (.aload_n 0, 1) := by decide +kernel
theorem dX12_ticks_86 : decode cX12_ticks 86 = .ok (.getfield 9, 3) := by decide +kernel
theorem dX12_ticks_89 : decode cX12_ticks 89 = .ok (.bipush 80, 2) := by decide +kernel
theorem dX12_ticks_91 : decode cX12_ticks 91 = .ok (.iload_n 1, 1) := by decide +kernel
theorem dX12_ticks_92 : decode cX12_ticks 92 = .ok (.iadd, 1) := by decide +kernel
theorem dX12_ticks_93 : decode cX12_ticks 93 = .ok (.iconst 0, 1) := by decide +kernel
theorem dX12_ticks_94 : decode cX12_ticks 94 = .ok (.iastore, 1) := by decide +kernel
theorem dX12_ticks_95 : decode cX12_ticks 95 = .ok (.iinc 1 1, 3) := by decide +kernel
theorem dX12_ticks_98 : decode cX12_ticks 98 = .ok (.goto (-50), 3) := by decide +kernel
theorem dX12_ticks_101 : decode cX12_ticks 101 = .ok (.iconst 0, 1) := by decide +kernel
theorem dX12_ticks_102 : decode cX12_ticks 102 = .ok (.istore_n 1, 1) := by decide +kernel
theorem dX12_ticks_103 : decode cX12_ticks 103 = .ok (.iload_n 1, 1) := by decide +kernel
theorem dX12_ticks_104 : decode cX12_ticks 104 = .ok (.bipush 6, 2) := by decide +kernel
theorem dX12_ticks_106 : decode cX12_ticks 106 = .ok (.if_icmp .ge 71, 3) := by decide +kernel
theorem dX12_ticks_109 : decode cX12_ticks 109 = .ok (.aload_n 0, 1) := by decide +kernel
theorem dX12_ticks_110 : decode cX12_ticks 110 = .ok (.getfield 9, 3) := by decide +kernel
theorem dX12_ticks_113 : decode cX12_ticks 113 = .ok (.bipush 20, 2) := by decide +kernel
theorem dX12_ticks_115 : decode cX12_ticks 115 = .ok (.iload_n 1, 1) := by decide +kernel
theorem dX12_ticks_116 : decode cX12_ticks 116 = .ok (.iadd, 1) := by decide +kernel
theorem dX12_ticks_117 : decode cX12_ticks 117 = .ok (.iaload, 1) := by decide +kernel
theorem dX12_ticks_118 : decode cX12_ticks 118 = .ok (.iconst 1, 1) := by decide +kernel
theorem dX12_ticks_119 : decode cX12_ticks 119 = .ok (.if_icmp .ne 52, 3) := by decide +kernel
theorem dX12_ticks_122 : decode cX12_ticks 122 = .ok (.aload_n 0, 1) := by decide +kernel
theorem dX12_ticks_123 : decode cX12_ticks 123 = .ok (.iload_n 1, 1) := by decide +kernel
theorem dX12_ticks_124 : decode cX12_ticks 124 = .ok (.invokevirtual 107, 3) := by decide +kernel
theorem dX12_ticks_127 : decode cX12_ticks 127 = .ok (.ifCond .ne 44, 3) := by decide +kernel
theorem dX12_ticks_130 : decode cX12_ticks 130 = .ok (.aload_n 0, 1) := by decide +kernel
theorem dX12_ticks_131 : decode cX12_ticks 131 = .ok (.getfield 9, 3) := by decide +kernel
theorem dX12_ticks_134 : decode cX12_ticks 134 = .ok (.iconst 0, 1) := by decide +kernel
theorem dX12_ticks_135 : decode cX12_ticks 135 = .ok (.iaload, 1) := by decide +kernel
theorem dX12_ticks_136 : decode cX12_ticks 136 = .ok (.aload_n 0, 1) := by decide +kernel
theorem dX12_ticks_137 : decode cX12_ticks 137 = .ok (.getfield 9, 3) := by decide +kernel
theorem dX12_ticks_140 : decode cX12_ticks 140 = .ok (.bipush 38, 2) := by decide +kernel
theorem dX12_ticks_142 : decode cX12_ticks 142 = .ok (.iload_n 1, 1) := by decide +kernel
theorem dX12_ticks_143 : decode cX12_ticks 143 = .ok (.iadd, 1) := by decide +kernel
theorem dX12_ticks_144 : decode cX12_ticks 144 = .ok (.iaload, 1) := by decide +kernel
theorem dX12_ticks_145 : decode cX12_ticks 145 = .ok (.isub, 1) := by decide +kernel
theorem dX12_ticks_146 : decode cX12_ticks 146 = .ok (.aload_n 0, 1) := by decide +kernel
theorem dX12_ticks_147 : decode cX12_ticks 147 = .ok (.getfield 9, 3) := by decide +kernel
theorem dX12_ticks_150 : decode cX12_ticks 150 = .ok (.iconst 3, 1) := by decide +kernel
theorem dX12_ticks_151 : decode cX12_ticks 151 = .ok (.iaload, 1) := by decide +kernel
theorem dX12_ticks_152 : decode cX12_ticks 152 = .ok (.if_icmp .lt 19, 3) := by decide +kernel
theorem dX12_ticks_155 : decode cX12_ticks 155 = .ok (.aload_n 0, 1) := by decide +kernel
theorem dX12_ticks_156 : decode cX12_ticks 156 = .ok (.iload_n 1, 1) := by decide +kernel
theorem dX12_ticks_157 : decode cX12_ticks 157 = .ok (.invokevirtual 181, 3) := by decide +kernel
theorem dX12_ticks_160 : decode cX12_ticks 160 = .ok (.aload_n 0, 1) := by decide +kernel
theorem dX12_ticks_161 : decode cX12_ticks 161 = .ok (.getfield 9, 3) := by decide +kernel
theorem dX12_ticks_164 : decode cX12_ticks 164 = .ok (.bipush 12, 2) := by decide +kernel
theorem dX12_ticks_166 : decode cX12_ticks 166 = .ok (.dup2, 1) := by decide +kernel
theorem dX12_ticks_167 : decode cX12_ticks 167 = .ok (.iaload, 1) := by decide +kernel
theorem dX12_ticks_168 : decode cX12_ticks 168 = .ok (.iconst 1, 1) := by decide +kernel
theorem dX12_ticks_169 : decode cX12_ticks 169 = .ok (.iadd, 1) := by decide +kernel
theorem dX12_ticks_170 : decode cX12_ticks 170 = .ok (.iastore, 1) := by decide +kernel
theorem dX12_ticks_171 : decode cX12_ticks 171 = .ok (.iinc 1 1, 3) := by decide +kernel
theorem dX12_ticks_174 : decode cX12_ticks 174 = .ok (.goto (-71), 3) := by decide +kernel
theorem dX12_ticks_177 : decode cX12_ticks 177 = .ok (.return_, 1) := by decide +kernel
theorem dX12_advance_0 : decode cX12_advance 0 = .ok (.aload_n 0, 1) := by decide +kernel
theorem dX12_advance_1 : decode cX12_advance 1 = .ok (.iconst 0, 1) := by decide +kernel
theorem dX12_advance_2 : decode cX12_advance 2 = .ok (.putfield 52, 3) := by decide +kernel
theorem dX12_advance_5 : decode cX12_advance 5 = .ok (.iload_n 1, 1) := by decide +kernel
theorem dX12_advance_6 : decode cX12_advance 6 = .ok (.iconst 1, 1) := by decide +kernel
theorem dX12_advance_7 : decode cX12_advance 7 = .ok (.bipush 100, 2) := by decide +kernel
theorem dX12_advance_9 : decode cX12_advance 9 = .ok (.invokestatic 55, 3) := by decide +kernel
theorem dX12_advance_12 : decode cX12_advance 12 = .ok (.ifCond .ne 9, 3) := by decide +kernel
theorem dX12_advance_15 : decode cX12_advance 15 = .ok (.aload_n 0, 1) := by decide +kernel
theorem dX12_advance_16 : decode cX12_advance 16 = .ok (.iconst 1, 1) := by decide +kernel
theorem dX12_advance_17 : decode cX12_advance 17 = .ok (.invokevirtual 86, 3) := by decide +kernel
theorem dX12_advance_20 : decode cX12_advance 20 = .ok (.ireturn, 1) := by decide +kernel
theorem dX12_advance_21 : decode cX12_advance 21 = .ok (.iconst 0, 1) := by decide +kernel
theorem dX12_advance_22 : decode cX12_advance 22 = .ok (.istore_n 2, 1) := by decide +kernel
theorem dX12_advance_23 : decode cX12_advance 23 = .ok (.iload_n 2, 1) := by decide +kernel
theorem dX12_advance_24 : decode cX12_advance 24 = .ok (.iload_n 1, 1) := by decide +kernel
theorem dX12_advance_25 : decode cX12_advance 25 = .ok (.if_icmp .ge 13, 3) := by decide +kernel
theorem dX12_advance_28 : decode cX12_advance 28 = .ok (.aload_n 0, 1) := by decide +kernel
theorem dX12_advance_29 : decode cX12_advance 29 = .ok (.invokevirtual 269, 3) := by decide +kernel
theorem dX12_advance_32 : decode cX12_advance 32 = .ok (.iinc 2 1, 3) := by decide +kernel
theorem dX12_advance_35 : decode cX12_advance 35 = .ok (.goto (-12), 3) := by decide +kernel
theorem dX12_advance_38 : decode cX12_advance 38 = .ok (.aload_n 0, 1) := by decide +kernel
theorem dX12_advance_39 : decode cX12_advance 39 = .ok (.getfield 9, 3) := by decide +kernel
theorem dX12_advance_42 : decode cX12_advance 42 = .ok (.iconst 0, 1) := by decide +kernel
theorem dX12_advance_43 : decode cX12_advance 43 = .ok (.iaload, 1) := by decide +kernel
theorem dX12_advance_44 : decode cX12_advance 44 = .ok (.ireturn, 1) := by decide +kernel
theorem dX12_load_0 : decode cX12_load 0 = .ok (.aload_n 0, 1) := by decide +kernel
theorem dX12_load_1 : decode cX12_load 1 = .ok (.iconst 0, 1) := by decide +kernel
theorem dX12_load_2 : decode cX12_load 2 = .ok (.putfield 52, 3) := by decide +kernel
theorem dX12_load_5 : decode cX12_load 5 = .ok (.iload_n 1, 1) := by decide +kernel
theorem dX12_load_6 : decode cX12_load 6 = .ok (.invokestatic 191, 3) := by decide +kernel
theorem dX12_load_9 : decode cX12_load 9 = .ok (.ifCond .eq 17, 3) := by decide +kernel
theorem dX12_load_12 : decode cX12_load 12 = .ok (.aload_n 0, 1) := by decide +kernel
theorem dX12_load_13 : decode cX12_load 13 = .ok (.getfield 17, 3) := by decide +kernel
theorem dX12_load_16 : decode cX12_load 16 = .ok (.iload_n 1, 1) := by decide +kernel
theorem dX12_load_17 : decode cX12_load 17 = .ok (.faload, 1) := by decide +kernel
theorem dX12_load_18 : decode cX12_load 18 = .ok (.ldc_w 272, 3) := by decide +kernel
theorem dX12_load_21 : decode cX12_load 21 = .ok (.fmul, 1) := by decide +kernel
theorem dX12_load_22 : decode cX12_load 22 = .ok (.f2i, 1) := by decide +kernel
theorem dX12_load_23 : decode cX12_load 23 = .ok (.goto 8, 3) := by decide +kernel
theorem dX12_load_26 : decode cX12_load 26 = .ok (.aload_n 0, 1) := by decide +kernel
theorem dX12_load_27 : decode cX12_load 27 = .ok (.iconst 1, 1) := by decide +kernel
theorem dX12_load_28 : decode cX12_load 28 = .ok (.invokevirtual 86, 3) := by decide +kernel
theorem dX12_load_31 : decode cX12_load 31 = .ok (.ireturn, 1) := by decide +kernel
theorem dX12_retainedCount_0 : decode cX12_retainedCount 0 = .ok (.aload_n 0, 1) := by decide +kernel
theorem dX12_retainedCount_1 : decode cX12_retainedCount 1 = .ok (.iconst 0, 1) := by decide +kernel
theorem dX12_retainedCount_2 : decode cX12_retainedCount 2 = .ok (.putfield 52, 3) := by decide +kernel
theorem dX12_retainedCount_5 : decode cX12_retainedCount 5 = .ok (.aload_n 0, 1) := by decide +kernel
theorem dX12_retainedCount_6 : decode cX12_retainedCount 6 = .ok (.getfield 9, 3) := by decide +kernel
theorem dX12_retainedCount_9 : decode cX12_retainedCount 9 = .ok (.bipush 15, 2) := by decide +kernel
theorem dX12_retainedCount_11 : decode cX12_retainedCount 11 = .ok (.iaload, 1) := by decide +kernel
theorem dX12_retainedCount_12 : decode cX12_retainedCount 12 = .ok (.ireturn, 1) := by decide +kernel
theorem dX12_retained_0 : decode cX12_retained 0 = .ok (.aload_n 0, 1) := by decide +kernel
theorem dX12_retained_1 : decode cX12_retained 1 = .ok (.iconst 0, 1) := by decide +kernel
theorem dX12_retained_2 : decode cX12_retained 2 = .ok (.putfield 52, 3) := by decide +kernel
theorem dX12_retained_5 : decode cX12_retained 5 = .ok (.iload_n 1, 1) := by decide +kernel
theorem dX12_retained_6 : decode cX12_retained 6 = .ok (.iconst 0, 1) := by decide +kernel
theorem dX12_retained_7 : decode cX12_retained 7 = .ok (.aload_n 0, 1) := by decide +kernel
theorem dX12_retained_8 : decode cX12_retained 8 = .ok (.getfield 9, 3) := by decide +kernel
theorem dX12_retained_11 : decode cX12_retained 11 = .ok (.bipush 15, 2) := by decide +kernel
theorem dX12_retained_13 : decode cX12_retained 13 = .ok (.iaload, 1) := by decide +kernel
theorem dX12_retained_14 : decode cX12_retained 14 = .ok (.iconst 1, 1) := by decide +kernel
theorem dX12_retained_15 : decode cX12_retained 15 = .ok (.isub, 1) := by decide +kernel
theorem dX12_retained_16 : decode cX12_retained 16 = .ok (.invokestatic 55, 3) := by decide +kernel
theorem dX12_retained_19 : decode cX12_retained 19 = .ok (.ifCond .ne 9, 3) := by decide +kernel
theorem dX12_retained_22 : decode cX12_retained 22 = .ok (.aload_n 0, 1) := by decide +kernel
theorem dX12_retained_23 : decode cX12_retained 23 = .ok (.iconst 1, 1) := by decide +kernel
theorem dX12_retained_24 : decode cX12_retained 24 = .ok (.invokevirtual 86, 3) := by decide +kernel
theorem dX12_retained_27 : decode cX12_retained 27 = .ok (.ireturn, 1) := by decide +kernel
theorem dX12_retained_28 : decode cX12_retained 28 = .ok (.iload_n 2, 1) := by decide +kernel
theorem dX12_retained_29 : decode cX12_retained 29 = .ok (.tableswitch 64 0 2 #[27, 38, 49], 27) := by decide +kernel
theorem dX12_retained_56 : decode cX12_retained 56 = .ok (.aload_n 0, 1) := by decide +kernel
theorem dX12_retained_57 : decode cX12_retained 57 = .ok (.getfield 9, 3) := by decide +kernel
theorem dX12_retained_60 : decode cX12_retained 60 = .ok (.sipush 1778, 3) := by decide +kernel
theorem dX12_retained_63 : decode cX12_retained 63 = .ok (.iload_n 1, 1) := by decide +kernel
theorem dX12_retained_64 : decode cX12_retained 64 = .ok (.iadd, 1) := by decide +kernel
theorem dX12_retained_65 : decode cX12_retained 65 = .ok (.iaload, 1) := by decide +kernel
theorem dX12_retained_66 : decode cX12_retained 66 = .ok (.ireturn, 1) := by decide +kernel
theorem dX12_retained_67 : decode cX12_retained 67 = .ok (.aload_n 0, 1) := by decide +kernel
theorem dX12_retained_68 : decode cX12_retained 68 = .ok (.getfield 9, 3) := by decide +kernel
theorem dX12_retained_71 : decode cX12_retained 71 = .ok (.sipush 1786, 3) := by decide +kernel
theorem dX12_retained_74 : decode cX12_retained 74 = .ok (.iload_n 1, 1) := by decide +kernel
theorem dX12_retained_75 : decode cX12_retained 75 = .ok (.iadd, 1) := by decide +kernel
theorem dX12_retained_76 : decode cX12_retained 76 = .ok (.iaload, 1) := by decide +kernel
theorem dX12_retained_77 : decode cX12_retained 77 = .ok (.ireturn, 1) := by decide +kernel
theorem dX12_retained_78 : decode cX12_retained 78 = .ok (.aload_n 0, 1) := by decide +kernel
theorem dX12_retained_79 : decode cX12_retained 79 = .ok (.getfield 13, 3) := by decide +kernel
theorem dX12_retained_82 : decode cX12_retained 82 = .ok (.sipush 1224, 3) := by decide +kernel
theorem dX12_retained_85 : decode cX12_retained 85 = .ok (.iconst 4, 1) := by decide +kernel
theorem dX12_retained_86 : decode cX12_retained 86 = .ok (.iload_n 1, 1) := by decide +kernel
theorem dX12_retained_87 : decode cX12_retained 87 = .ok (.imul, 1) := by decide +kernel
theorem dX12_retained_88 : decode cX12_retained 88 = .ok (.iadd, 1) := by decide +kernel
theorem dX12_retained_89 : decode cX12_retained 89 = .ok (.invokestatic 247, 3) := by decide +kernel
theorem dX12_retained_92 : decode cX12_retained 92 = .ok (.ireturn, 1) := by decide +kernel
theorem dX12_retained_93 : decode cX12_retained 93 = .ok (.aload_n 0, 1) := by decide +kernel
theorem dX12_retained_94 : decode cX12_retained 94 = .ok (.iconst 2, 1) := by decide +kernel
theorem dX12_retained_95 : decode cX12_retained 95 = .ok (.invokevirtual 86, 3) := by decide +kernel
theorem dX12_retained_98 : decode cX12_retained 98 = .ok (.ireturn, 1) := by decide +kernel
theorem dX12_published_0 : decode cX12_published 0 = .ok (.aload_n 0, 1) := by decide +kernel
theorem dX12_published_1 : decode cX12_published 1 = .ok (.iconst 0, 1) := by decide +kernel
theorem dX12_published_2 : decode cX12_published 2 = .ok (.putfield 52, 3) := by decide +kernel
theorem dX12_published_5 : decode cX12_published 5 = .ok (.aload_n 0, 1) := by decide +kernel
theorem dX12_published_6 : decode cX12_published 6 = .ok (.iconst 0, 1) := by decide +kernel
theorem dX12_published_7 : decode cX12_published 7 = .ok (.invokevirtual 203, 3) := by decide +kernel
theorem dX12_published_10 : decode cX12_published 10 = .ok (.ifCond .ne 9, 3) := by decide +kernel
theorem dX12_published_13 : decode cX12_published 13 = .ok (.aload_n 0, 1) := by decide +kernel
theorem dX12_published_14 : decode cX12_published 14 = .ok (.iconst 1, 1) := by decide +kernel
theorem dX12_published_15 : decode cX12_published 15 = .ok (.invokevirtual 86, 3) := by decide +kernel
theorem dX12_published_18 : decode cX12_published 18 = .ok (.ireturn, 1) := by decide +kernel
theorem dX12_published_19 : decode cX12_published 19 = .ok (.aload_n 0, 1) := by decide +kernel
theorem dX12_published_20 : decode cX12_published 20 = .ok (.aload_n 0, 1) := by decide +kernel
theorem dX12_published_21 : decode cX12_published 21 = .ok (.getfield 37, 3) := by decide +kernel
theorem dX12_published_24 : decode cX12_published 24 = .ok (.iconst 0, 1) := by decide +kernel
theorem dX12_published_25 : decode cX12_published 25 = .ok (.invokevirtual 135, 3) := by decide +kernel
theorem dX12_published_28 : decode cX12_published 28 = .ok (.istore_n 1, 1) := by decide +kernel
theorem dX12_published_29 : decode cX12_published 29 = .ok (.iload_n 1, 1) := by decide +kernel
theorem dX12_published_30 : decode cX12_published 30 = .ok (.iconst (-1), 1) := by decide +kernel
theorem dX12_published_31 : decode cX12_published 31 = .ok (.if_icmp .ne 7, 3) := by decide +kernel
theorem dX12_published_34 : decode cX12_published 34 = .ok (.iconst 0, 1) := by decide +kernel
theorem dX12_published_35 : decode cX12_published 35 = .ok (.goto 13, 3) := by decide +kernel
theorem dX12_published_38 : decode cX12_published 38 = .ok (.aload_n 0, 1) := by decide +kernel
theorem dX12_published_39 : decode cX12_published 39 = .ok (.getfield 9, 3) := by decide +kernel
theorem dX12_published_42 : decode cX12_published 42 = .ok (.sipush 2118, 3) := by decide +kernel
theorem dX12_published_45 : decode cX12_published 45 = .ok (.iload_n 1, 1) := by decide +kernel
theorem dX12_published_46 : decode cX12_published 46 = .ok (.iadd, 1) := by decide +kernel
theorem dX12_published_47 : decode cX12_published 47 = .ok (.iaload, 1) := by decide +kernel
theorem dX12_published_48 : decode cX12_published 48 = .ok (.ireturn, 1) := by decide +kernel
theorem dX12_total_0 : decode cX12_total 0 = .ok (.aload_n 0, 1) := by decide +kernel
theorem dX12_total_1 : decode cX12_total 1 = .ok (.iconst 0, 1) := by decide +kernel
theorem dX12_total_2 : decode cX12_total 2 = .ok (.putfield 52, 3) := by decide +kernel
theorem dX12_total_5 : decode cX12_total 5 = .ok (.iload_n 1, 1) := by decide +kernel
theorem dX12_total_6 : decode cX12_total 6 = .ok (.iconst 0, 1) := by decide +kernel
theorem dX12_total_7 : decode cX12_total 7 = .ok (.bipush 9, 2) := by decide +kernel
theorem dX12_total_9 : decode cX12_total 9 = .ok (.invokestatic 55, 3) := by decide +kernel
theorem dX12_total_12 : decode cX12_total 12 = .ok (.ifCond .eq 14, 3) := by decide +kernel
theorem dX12_total_15 : decode cX12_total 15 = .ok (.aload_n 0, 1) := by decide +kernel
theorem dX12_total_16 : decode cX12_total 16 = .ok (.getfield 9, 3) := by decide +kernel
theorem dX12_total_19 : decode cX12_total 19 = .ok (.iconst 5, 1) := by decide +kernel
theorem dX12_total_20 : decode cX12_total 20 = .ok (.iload_n 1, 1) := by decide +kernel
theorem dX12_total_21 : decode cX12_total 21 = .ok (.iadd, 1) := by decide +kernel
theorem dX12_total_22 : decode cX12_total 22 = .ok (.iaload, 1) := by decide +kernel
theorem dX12_total_23 : decode cX12_total 23 = .ok (.goto 8, 3) := by decide +kernel
theorem dX12_total_26 : decode cX12_total 26 = .ok (.aload_n 0, 1) := by decide +kernel
theorem dX12_total_27 : decode cX12_total 27 = .ok (.iconst 1, 1) := by decide +kernel
theorem dX12_total_28 : decode cX12_total 28 = .ok (.invokevirtual 86, 3) := by decide +kernel
theorem dX12_total_31 : decode cX12_total 31 = .ok (.ireturn, 1) := by decide +kernel
theorem dX12_save_0 : decode cX12_save 0 = .ok (.aload_n 0, 1) := by decide +kernel
theorem dX12_save_1 : decode cX12_save 1 = .ok (.iconst 0, 1) := by decide +kernel
theorem dX12_save_2 : decode cX12_save 2 = .ok (.putfield 52, 3) := by decide +kernel
theorem dX12_save_5 : decode cX12_save 5 = .ok (.iconst 0, 1) := by decide +kernel
theorem dX12_save_6 : decode cX12_save 6 = .ok (.istore_n 1, 1) := by decide +kernel
theorem dX12_save_7 : decode cX12_save 7 = .ok (.iload_n 1, 1) := by decide +kernel
theorem dX12_save_8 : decode cX12_save 8 = .ok (.sipush 2718, 3) := by decide +kernel
theorem dX12_save_11 : decode cX12_save 11 = .ok (.if_icmp .ge 21, 3) := by decide +kernel
theorem dX12_save_14 : decode cX12_save 14 = .ok (.aload_n 0, 1) := by decide +kernel
theorem dX12_save_15 : decode cX12_save 15 = .ok (.getfield 21, 3) := by decide +kernel
theorem dX12_save_18 : decode cX12_save 18 = .ok (.iload_n 1, 1) := by decide +kernel
theorem dX12_save_19 : decode cX12_save 19 = .ok (.aload_n 0, 1) := by decide +kernel
theorem dX12_save_20 : decode cX12_save 20 = .ok (.getfield 9, 3) := by decide +kernel
theorem dX12_save_23 : decode cX12_save 23 = .ok (.iload_n 1, 1) := by decide +kernel
theorem dX12_save_24 : decode cX12_save 24 = .ok (.iaload, 1) := by decide +kernel
theorem dX12_save_25 : decode cX12_save 25 = .ok (.iastore, 1) := by decide +kernel
theorem dX12_save_26 : decode cX12_save 26 = .ok (.iinc 1 1, 3) := by decide +kernel
theorem dX12_save_29 : decode cX12_save 29 = .ok (.goto (-22), 3) := by decide +kernel
theorem dX12_save_32 : decode cX12_save 32 = .ok (.iconst 0, 1) := by decide +kernel
theorem dX12_save_33 : decode cX12_save 33 = .ok (.istore_n 1, 1) := by decide +kernel
theorem dX12_save_34 : decode cX12_save 34 = .ok (.iload_n 1, 1) := by decide +kernel
theorem dX12_save_35 : decode cX12_save 35 = .ok (.sipush 3800, 3) := by decide +kernel
theorem dX12_save_38 : decode cX12_save 38 = .ok (.if_icmp .ge 21, 3) := by decide +kernel
theorem dX12_save_41 : decode cX12_save 41 = .ok (.aload_n 0, 1) := by decide +kernel
theorem dX12_save_42 : decode cX12_save 42 = .ok (.getfield 24, 3) := by decide +kernel
theorem dX12_save_45 : decode cX12_save 45 = .ok (.iload_n 1, 1) := by decide +kernel
theorem dX12_save_46 : decode cX12_save 46 = .ok (.aload_n 0, 1) := by decide +kernel
theorem dX12_save_47 : decode cX12_save 47 = .ok (.getfield 13, 3) := by decide +kernel
theorem dX12_save_50 : decode cX12_save 50 = .ok (.iload_n 1, 1) := by decide +kernel
theorem dX12_save_51 : decode cX12_save 51 = .ok (.laload, 1) := by decide +kernel
theorem dX12_save_52 : decode cX12_save 52 = .ok (.lastore, 1) := by decide +kernel
theorem dX12_save_53 : decode cX12_save 53 = .ok (.iinc 1 1, 3) := by decide +kernel
theorem dX12_save_56 : decode cX12_save 56 = .ok (.goto (-22), 3) := by decide +kernel
theorem dX12_save_59 : decode cX12_save 59 = .ok (.iconst 0, 1) := by decide +kernel
theorem dX12_save_60 : decode cX12_save 60 = .ok (.istore_n 1, 1) := by decide +kernel
theorem dX12_save_61 : decode cX12_save 61 = .ok (.iload_n 1, 1) := by decide +kernel
theorem dX12_save_62 : decode cX12_save 62 = .ok (.bipush 6, 2) := by decide +kernel
theorem dX12_save_64 : decode cX12_save 64 = .ok (.if_icmp .ge 21, 3) := by decide +kernel
theorem dX12_save_67 : decode cX12_save 67 = .ok (.aload_n 0, 1) := by decide +kernel
theorem dX12_save_68 : decode cX12_save 68 = .ok (.getfield 27, 3) := by decide +kernel
theorem dX12_save_71 : decode cX12_save 71 = .ok (.iload_n 1, 1) := by decide +kernel
theorem dX12_save_72 : decode cX12_save 72 = .ok (.aload_n 0, 1) := by decide +kernel
theorem dX12_save_73 : decode cX12_save 73 = .ok (.getfield 17, 3) := by decide +kernel
theorem dX12_save_76 : decode cX12_save 76 = .ok (.iload_n 1, 1) := by decide +kernel
theorem dX12_save_77 : decode cX12_save 77 = .ok (.faload, 1) := by decide +kernel
theorem dX12_save_78 : decode cX12_save 78 = .ok (.fastore, 1) := by decide +kernel
theorem dX12_save_79 : decode cX12_save 79 = .ok (.iinc 1 1, 3) := by decide +kernel
theorem dX12_save_82 : decode cX12_save 82 = .ok (.goto (-21), 3) := by decide +kernel
theorem dX12_save_85 : decode cX12_save 85 = .ok (.aload_n 0, 1) := by decide +kernel
theorem dX12_save_86 : decode cX12_save 86 = .ok (.iconst 1, 1) := by decide +kernel
theorem dX12_save_87 : decode cX12_save 87 = .ok (.putfield 273, 3) := by decide +kernel
theorem dX12_save_90 : decode cX12_save 90 = .ok (.aload_n 0, 1) := by decide +kernel
theorem dX12_save_91 : decode cX12_save 91 = .ok (.getfield 9, 3) := by decide +kernel
theorem dX12_save_94 : decode cX12_save 94 = .ok (.iconst 0, 1) := by decide +kernel
theorem dX12_save_95 : decode cX12_save 95 = .ok (.iaload, 1) := by decide +kernel
theorem dX12_save_96 : decode cX12_save 96 = .ok (.ireturn, 1) := by decide +kernel
theorem dX12_restore_0 : decode cX12_restore 0 = .ok (.aload_n 0, 1) := by decide +kernel
theorem dX12_restore_1 : decode cX12_restore 1 = .ok (.iconst 0, 1) := by decide +kernel
theorem dX12_restore_2 : decode cX12_restore 2 = .ok (.putfield 52, 3) := by decide +kernel
theorem dX12_restore_5 : decode cX12_restore 5 = .ok (.aload_n 0, 1) := by decide +kernel
theorem dX12_restore_6 : decode cX12_restore 6 = .ok (.getfield 273, 3) := by decide +kernel
theorem dX12_restore_9 : decode cX12_restore 9 = .ok (.ifCond .ne 9, 3) := by decide +kernel
theorem dX12_restore_12 : decode cX12_restore 12 = .ok (.aload_n 0, 1) := by decide +kernel
theorem dX12_restore_13 : decode cX12_restore 13 = .ok (.iconst 1, 1) := by decide +kernel
theorem dX12_restore_14 : decode cX12_restore 14 = .ok (.invokevirtual 86, 3) := by decide +kernel
theorem dX12_restore_17 : decode cX12_restore 17 = .ok (.ireturn, 1) := by decide +kernel
theorem dX12_restore_18 : decode cX12_restore 18 = .ok (.iconst 0, 1) := by decide +kernel
theorem dX12_restore_19 : decode cX12_restore 19 = .ok (.istore_n 1, 1) := by decide +kernel
theorem dX12_restore_20 : decode cX12_restore 20 = .ok (.iload_n 1, 1) := by decide +kernel
theorem dX12_restore_21 : decode cX12_restore 21 = .ok (.sipush 2718, 3) := by decide +kernel
theorem dX12_restore_24 : decode cX12_restore 24 = .ok (.if_icmp .ge 21, 3) := by decide +kernel
theorem dX12_restore_27 : decode cX12_restore 27 = .ok (.aload_n 0, 1) := by decide +kernel
theorem dX12_restore_28 : decode cX12_restore 28 = .ok (.getfield 9, 3) := by decide +kernel
theorem dX12_restore_31 : decode cX12_restore 31 = .ok (.iload_n 1, 1) := by decide +kernel
theorem dX12_restore_32 : decode cX12_restore 32 = .ok (.aload_n 0, 1) := by decide +kernel
theorem dX12_restore_33 : decode cX12_restore 33 = .ok (.getfield 21, 3) := by decide +kernel
theorem dX12_restore_36 : decode cX12_restore 36 = .ok (.iload_n 1, 1) := by decide +kernel
theorem dX12_restore_37 : decode cX12_restore 37 = .ok (.iaload, 1) := by decide +kernel
theorem dX12_restore_38 : decode cX12_restore 38 = .ok (.iastore, 1) := by decide +kernel
theorem dX12_restore_39 : decode cX12_restore 39 = .ok (.iinc 1 1, 3) := by decide +kernel
theorem dX12_restore_42 : decode cX12_restore 42 = .ok (.goto (-22), 3) := by decide +kernel
theorem dX12_restore_45 : decode cX12_restore 45 = .ok (.iconst 0, 1) := by decide +kernel
theorem dX12_restore_46 : decode cX12_restore 46 = .ok (.istore_n 1, 1) := by decide +kernel
theorem dX12_restore_47 : decode cX12_restore 47 = .ok (.iload_n 1, 1) := by decide +kernel
theorem dX12_restore_48 : decode cX12_restore 48 = .ok (.sipush 3800, 3) := by decide +kernel
theorem dX12_restore_51 : decode cX12_restore 51 = .ok (.if_icmp .ge 21, 3) := by decide +kernel
theorem dX12_restore_54 : decode cX12_restore 54 = .ok (.aload_n 0, 1) := by decide +kernel
theorem dX12_restore_55 : decode cX12_restore 55 = .ok (.getfield 13, 3) := by decide +kernel
theorem dX12_restore_58 : decode cX12_restore 58 = .ok (.iload_n 1, 1) := by decide +kernel
theorem dX12_restore_59 : decode cX12_restore 59 = .ok (.aload_n 0, 1) := by decide +kernel
theorem dX12_restore_60 : decode cX12_restore 60 = .ok (.getfield 24, 3) := by decide +kernel
theorem dX12_restore_63 : decode cX12_restore 63 = .ok (.iload_n 1, 1) := by decide +kernel
theorem dX12_restore_64 : decode cX12_restore 64 = .ok (.laload, 1) := by decide +kernel
theorem dX12_restore_65 : decode cX12_restore 65 = .ok (.lastore, 1) := by decide +kernel
theorem dX12_restore_66 : decode cX12_restore 66 = .ok (.iinc 1 1, 3) := by decide +kernel
theorem dX12_restore_69 : decode cX12_restore 69 = .ok (.goto (-22), 3) := by decide +kernel
theorem dX12_restore_72 : decode cX12_restore 72 = .ok (.iconst 0, 1) := by decide +kernel
theorem dX12_restore_73 : decode cX12_restore 73 = .ok (.istore_n 1, 1) := by decide +kernel
theorem dX12_restore_74 : decode cX12_restore 74 = .ok (.iload_n 1, 1) := by decide +kernel
theorem dX12_restore_75 : decode cX12_restore 75 = .ok (.bipush 6, 2) := by decide +kernel
theorem dX12_restore_77 : decode cX12_restore 77 = .ok (.if_icmp .ge 21, 3) := by decide +kernel
theorem dX12_restore_80 : decode cX12_restore 80 = .ok (.aload_n 0, 1) := by decide +kernel
theorem dX12_restore_81 : decode cX12_restore 81 = .ok (.getfield 17, 3) := by decide +kernel
theorem dX12_restore_84 : decode cX12_restore 84 = .ok (.iload_n 1, 1) := by decide +kernel
theorem dX12_restore_85 : decode cX12_restore 85 = .ok (.aload_n 0, 1) := by decide +kernel
theorem dX12_restore_86 : decode cX12_restore 86 = .ok (.getfield 27, 3) := by decide +kernel
theorem dX12_restore_89 : decode cX12_restore 89 = .ok (.iload_n 1, 1) := by decide +kernel
theorem dX12_restore_90 : decode cX12_restore 90 = .ok (.faload, 1) := by decide +kernel
theorem dX12_restore_91 : decode cX12_restore 91 = .ok (.fastore, 1) := by decide +kernel
theorem dX12_restore_92 : decode cX12_restore 92 = .ok (.iinc 1 1, 3) := by decide +kernel
theorem dX12_restore_95 : decode cX12_restore 95 = .ok (.goto (-21), 3) := by decide +kernel
theorem dX12_restore_98 : decode cX12_restore 98 = .ok (.aload_n 0, 1) := by decide +kernel
theorem dX12_restore_99 : decode cX12_restore 99 = .ok (.getfield 9, 3) := by decide +kernel
theorem dX12_restore_102 : decode cX12_restore 102 = .ok (.iconst 0, 1) := by decide +kernel
theorem dX12_restore_103 : decode cX12_restore 103 = .ok (.iaload, 1) := by decide +kernel
theorem dX12_restore_104 : decode cX12_restore 104 = .ok (.ireturn, 1) := by decide +kernel
theorem dL_append_0 : decode cL_append 0 = .ok (.aload_n 2, 1) := by decide +kernel
theorem dL_append_1 : decode cL_append 1 = .ok (.iconst 0, 1) := by decide +kernel
theorem dL_append_2 : decode cL_append 2 = .ok (.aload_n 0, 1) := by decide +kernel
theorem dL_append_3 : decode cL_append 3 = .ok (.iload_n 1, 1) := by decide +kernel
theorem dL_append_4 : decode cL_append 4 = .ok (.invokevirtual 7, 3) := by decide +kernel
theorem dL_append_7 : decode cL_append 7 = .ok (.i2l, 1) := by decide +kernel
theorem dL_append_8 : decode cL_append 8 = .ok (.lastore, 1) := by decide +kernel
theorem dL_append_9 : decode cL_append 9 = .ok (.goto 9, 3) := by decide +kernel
theorem dL_append_12 : decode cL_append 12 = .ok (.astore_n 3, 1) := by decide +kernel
theorem dL_append_13 : decode cL_append 13 = .ok (.iconst 1, 1) := by decide +kernel
theorem dL_append_14 : decode cL_append 14 = .ok (.ireturn, 1) := by decide +kernel
theorem dL_append_15 : decode cL_append 15 = .ok (.astore_n 3, 1) := by decide +kernel
theorem dL_append_16 : decode cL_append 16 = .ok (.iconst 2, 1) := by decide +kernel
theorem dL_append_17 : decode cL_append 17 = .ok (.ireturn, 1) := by decide +kernel
theorem dL_append_18 : decode cL_append 18 = .ok (.iconst 0, 1) := by decide +kernel
theorem dL_append_19 : decode cL_append 19 = .ok (.ireturn, 1) := by decide +kernel
theorem dL_setOption_0 : decode cL_setOption 0 = .ok (.aload_n 3, 1) := by decide +kernel
theorem dL_setOption_1 : decode cL_setOption 1 = .ok (.iconst 0, 1) := by decide +kernel
theorem dL_setOption_2 : decode cL_setOption 2 = .ok (.aload_n 0, 1) := by decide +kernel
theorem dL_setOption_3 : decode cL_setOption 3 = .ok (.iload_n 1, 1) := by decide +kernel
theorem dL_setOption_4 : decode cL_setOption 4 = .ok (.iload_n 2, 1) := by decide +kernel
theorem dL_setOption_5 : decode cL_setOption 5 = .ok (.invokevirtual 17, 3) := by decide +kernel
theorem dL_setOption_8 : decode cL_setOption 8 = .ok (.i2l, 1) := by decide +kernel
theorem dL_setOption_9 : decode cL_setOption 9 = .ok (.lastore, 1) := by decide +kernel
theorem dL_setOption_10 : decode cL_setOption 10 = .ok (.goto 11, 3) := by decide +kernel
theorem dL_setOption_13 : decode cL_setOption 13 = .ok (.astore 4, 2) := by decide +kernel
theorem dL_setOption_15 : decode cL_setOption 15 = .ok (.iconst 1, 1) := by decide +kernel
theorem dL_setOption_16 : decode cL_setOption 16 = .ok (.ireturn, 1) := by decide +kernel
theorem dL_setOption_17 : decode cL_setOption 17 = .ok (.astore 4, 2) := by decide +kernel
theorem dL_setOption_19 : decode cL_setOption 19 = .ok (.iconst 2, 1) := by decide +kernel
theorem dL_setOption_20 : decode cL_setOption 20 = .ok (.ireturn, 1) := by decide +kernel
theorem dL_setOption_21 : decode cL_setOption 21 = .ok (.iconst 0, 1) := by decide +kernel
theorem dL_setOption_22 : decode cL_setOption 22 = .ok (.ireturn, 1) := by decide +kernel
theorem dL_connect_0 : decode cL_connect 0 = .ok (.aload_n 3, 1) := by decide +kernel
theorem dL_connect_1 : decode cL_connect 1 = .ok (.iconst 0, 1) := by decide +kernel
theorem dL_connect_2 : decode cL_connect 2 = .ok (.aload_n 0, 1) := by decide +kernel
theorem dL_connect_3 : decode cL_connect 3 = .ok (.iload_n 1, 1) := by decide +kernel
theorem dL_connect_4 : decode cL_connect 4 = .ok (.iload_n 2, 1) := by decide +kernel
theorem dL_connect_5 : decode cL_connect 5 = .ok (.invokevirtual 23, 3) := by decide +kernel
theorem dL_connect_8 : decode cL_connect 8 = .ok (.i2l, 1) := by decide +kernel
theorem dL_connect_9 : decode cL_connect 9 = .ok (.lastore, 1) := by decide +kernel
theorem dL_connect_10 : decode cL_connect 10 = .ok (.goto 7, 3) := by decide +kernel
theorem dL_connect_13 : decode cL_connect 13 = .ok (.astore 4, 2) := by decide +kernel
theorem dL_connect_15 : decode cL_connect 15 = .ok (.iconst 1, 1) := by decide +kernel
theorem dL_connect_16 : decode cL_connect 16 = .ok (.ireturn, 1) := by decide +kernel
theorem dL_connect_17 : decode cL_connect 17 = .ok (.iconst 0, 1) := by decide +kernel
theorem dL_connect_18 : decode cL_connect 18 = .ok (.ireturn, 1) := by decide +kernel
theorem dL_disconnect_0 : decode cL_disconnect 0 = .ok (.aload_n 2, 1) := by decide +kernel
theorem dL_disconnect_1 : decode cL_disconnect 1 = .ok (.iconst 0, 1) := by decide +kernel
theorem dL_disconnect_2 : decode cL_disconnect 2 = .ok (.aload_n 0, 1) := by decide +kernel
theorem dL_disconnect_3 : decode cL_disconnect 3 = .ok (.iload_n 1, 1) := by decide +kernel
theorem dL_disconnect_4 : decode cL_disconnect 4 = .ok (.invokevirtual 27, 3) := by decide +kernel
theorem dL_disconnect_7 : decode cL_disconnect 7 = .ok (.i2l, 1) := by decide +kernel
theorem dL_disconnect_8 : decode cL_disconnect 8 = .ok (.lastore, 1) := by decide +kernel
theorem dL_disconnect_9 : decode cL_disconnect 9 = .ok (.goto 9, 3) := by decide +kernel
theorem dL_disconnect_12 : decode cL_disconnect 12 = .ok (.astore_n 3, 1) := by decide +kernel
theorem dL_disconnect_13 : decode cL_disconnect 13 = .ok (.iconst 1, 1) := by decide +kernel
theorem dL_disconnect_14 : decode cL_disconnect 14 = .ok (.ireturn, 1) := by decide +kernel
theorem dL_disconnect_15 : decode cL_disconnect 15 = .ok (.astore_n 3, 1) := by decide +kernel
theorem dL_disconnect_16 : decode cL_disconnect 16 = .ok (.iconst 2, 1) := by decide +kernel
theorem dL_disconnect_17 : decode cL_disconnect 17 = .ok (.ireturn, 1) := by decide +kernel
theorem dL_disconnect_18 : decode cL_disconnect 18 = .ok (.iconst 0, 1) := by decide +kernel
theorem dL_disconnect_19 : decode cL_disconnect 19 = .ok (.ireturn, 1) := by decide +kernel
theorem dL_breakConnection_0 : decode cL_breakConnection 0 = .ok (.aload_n 2, 1) := by decide +kernel
theorem dL_breakConnection_1 : decode cL_breakConnection 1 = .ok (.iconst 0, 1) := by decide +kernel
theorem dL_breakConnection_2 : decode cL_breakConnection 2 = .ok (.aload_n 0, 1) := by decide +kernel
theorem dL_breakConnection_3 : decode cL_breakConnection 3 = .ok (.iload_n 1, 1) := by decide +kernel
theorem dL_breakConnection_4 : decode cL_breakConnection 4 = .ok (.invokevirtual 30, 3) := by decide +kernel
theorem dL_breakConnection_7 : decode cL_breakConnection 7 = .ok (.i2l, 1) := by decide +kernel
theorem dL_breakConnection_8 : decode cL_breakConnection 8 = .ok (.lastore, 1) := by decide +kernel
theorem dL_breakConnection_9 : decode cL_breakConnection 9 = .ok (.goto 9, 3) := by decide +kernel
theorem dL_breakConnection_12 : decode cL_breakConnection 12 = .ok (.astore_n 3, 1) := by decide +kernel
theorem dL_breakConnection_13 : decode cL_breakConnection 13 = .ok (.iconst 1, 1) := by decide +kernel
theorem dL_breakConnection_14 : decode cL_breakConnection 14 = .ok (.ireturn, 1) := by decide +kernel
theorem dL_breakConnection_15 : decode cL_breakConnection 15 = .ok (.astore_n 3, 1) := by decide +kernel
theorem dL_breakConnection_16 : decode cL_breakConnection 16 = .ok (.iconst 2, 1) := by decide +kernel
theorem dL_breakConnection_17 : decode cL_breakConnection 17 = .ok (.ireturn, 1) := by decide +kernel
theorem dL_breakConnection_18 : decode cL_breakConnection 18 = .ok (.iconst 0, 1) := by decide +kernel
theorem dL_breakConnection_19 : decode cL_breakConnection 19 = .ok (.ireturn, 1) := by decide +kernel
theorem dL_setWill_0 : decode cL_setWill 0 = .ok (.aload 5, 2) := by decide +kernel
theorem dL_setWill_2 : decode cL_setWill 2 = .ok (.iconst 0, 1) := by decide +kernel
theorem dL_setWill_3 : decode cL_setWill 3 = .ok (.aload_n 0, 1) := by decide +kernel
theorem dL_setWill_4 : decode cL_setWill 4 = .ok (.iload_n 1, 1) := by decide +kernel
theorem dL_setWill_5 : decode cL_setWill 5 = .ok (.iload_n 2, 1) := by decide +kernel
theorem dL_setWill_6 : decode cL_setWill 6 = .ok (.iload_n 3, 1) := by decide +kernel
theorem dL_setWill_7 : decode cL_setWill 7 = .ok (.iload 4, 2) := by decide +kernel
theorem dL_setWill_9 : decode cL_setWill 9 = .ok (.invokevirtual 33, 3) := by decide +kernel
theorem dL_setWill_12 : decode cL_setWill 12 = .ok (.i2l, 1) := by decide +kernel
theorem dL_setWill_13 : decode cL_setWill 13 = .ok (.lastore, 1) := by decide +kernel
theorem dL_setWill_14 : decode cL_setWill 14 = .ok (.goto 15, 3) := by decide +kernel
theorem dL_setWill_17 : decode cL_setWill 17 = .ok (.astore 6, 2) := by decide +kernel
theorem dL_setWill_19 : decode cL_setWill 19 = .ok (.iconst 1, 1) := by decide +kernel
theorem dL_setWill_20 : decode cL_setWill 20 = .ok (.ireturn, 1) := by decide +kernel
theorem dL_setWill_21 : decode cL_setWill 21 = .ok (.astore 6, 2) := by decide +kernel
theorem dL_setWill_23 : decode cL_setWill 23 = .ok (.iconst 2, 1) := by decide +kernel
theorem dL_setWill_24 : decode cL_setWill 24 = .ok (.ireturn, 1) := by decide +kernel
theorem dL_setWill_25 : decode cL_setWill 25 = .ok (.astore 6, 2) := by decide +kernel
theorem dL_setWill_27 : decode cL_setWill 27 = .ok (.iconst 3, 1) := by decide +kernel
theorem dL_setWill_28 : decode cL_setWill 28 = .ok (.ireturn, 1) := by decide +kernel
theorem dL_setWill_29 : decode cL_setWill 29 = .ok (.iconst 0, 1) := by decide +kernel
theorem dL_setWill_30 : decode cL_setWill 30 = .ok (.ireturn, 1) := by decide +kernel
theorem dL_sessionState_0 : decode cL_sessionState 0 = .ok (.aload_n 2, 1) := by decide +kernel
theorem dL_sessionState_1 : decode cL_sessionState 1 = .ok (.iconst 0, 1) := by decide +kernel
theorem dL_sessionState_2 : decode cL_sessionState 2 = .ok (.aload_n 0, 1) := by decide +kernel
theorem dL_sessionState_3 : decode cL_sessionState 3 = .ok (.iload_n 1, 1) := by decide +kernel
theorem dL_sessionState_4 : decode cL_sessionState 4 = .ok (.invokevirtual 37, 3) := by decide +kernel
theorem dL_sessionState_7 : decode cL_sessionState 7 = .ok (.i2l, 1) := by decide +kernel
theorem dL_sessionState_8 : decode cL_sessionState 8 = .ok (.lastore, 1) := by decide +kernel
theorem dL_sessionState_9 : decode cL_sessionState 9 = .ok (.goto 6, 3) := by decide +kernel
theorem dL_sessionState_12 : decode cL_sessionState 12 = .ok (.astore_n 3, 1) := by decide +kernel
theorem dL_sessionState_13 : decode cL_sessionState 13 = .ok (.iconst 1, 1) := by decide +kernel
theorem dL_sessionState_14 : decode cL_sessionState 14 = .ok (.ireturn, 1) := by decide +kernel
theorem dL_sessionState_15 : decode cL_sessionState 15 = .ok (.iconst 0, 1) := by decide +kernel
theorem dL_sessionState_16 : decode cL_sessionState 16 = .ok (.ireturn, 1) := by decide +kernel
theorem dL_subscribe_0 : decode cL_subscribe 0 = .ok (.aload 5, 2) := by decide +kernel
theorem dL_subscribe_2 : decode cL_subscribe 2 = .ok (.iconst 0, 1) := by decide +kernel
theorem dL_subscribe_3 : decode cL_subscribe 3 = .ok (.aload_n 0, 1) := by decide +kernel
theorem dL_subscribe_4 : decode cL_subscribe 4 = .ok (.iload_n 1, 1) := by decide +kernel
theorem dL_subscribe_5 : decode cL_subscribe 5 = .ok (.iload_n 2, 1) := by decide +kernel
theorem dL_subscribe_6 : decode cL_subscribe 6 = .ok (.iload_n 3, 1) := by decide +kernel
theorem dL_subscribe_7 : decode cL_subscribe 7 = .ok (.iload 4, 2) := by decide +kernel
theorem dL_subscribe_9 : decode cL_subscribe 9 = .ok (.invokevirtual 40, 3) := by decide +kernel
theorem dL_subscribe_12 : decode cL_subscribe 12 = .ok (.i2l, 1) := by decide +kernel
theorem dL_subscribe_13 : decode cL_subscribe 13 = .ok (.lastore, 1) := by decide +kernel
theorem dL_subscribe_14 : decode cL_subscribe 14 = .ok (.goto 15, 3) := by decide +kernel
theorem dL_subscribe_17 : decode cL_subscribe 17 = .ok (.astore 6, 2) := by decide +kernel
theorem dL_subscribe_19 : decode cL_subscribe 19 = .ok (.iconst 1, 1) := by decide +kernel
theorem dL_subscribe_20 : decode cL_subscribe 20 = .ok (.ireturn, 1) := by decide +kernel
theorem dL_subscribe_21 : decode cL_subscribe 21 = .ok (.astore 6, 2) := by decide +kernel
theorem dL_subscribe_23 : decode cL_subscribe 23 = .ok (.iconst 2, 1) := by decide +kernel
theorem dL_subscribe_24 : decode cL_subscribe 24 = .ok (.ireturn, 1) := by decide +kernel
theorem dL_subscribe_25 : decode cL_subscribe 25 = .ok (.astore 6, 2) := by decide +kernel
theorem dL_subscribe_27 : decode cL_subscribe 27 = .ok (.iconst 3, 1) := by decide +kernel
theorem dL_subscribe_28 : decode cL_subscribe 28 = .ok (.ireturn, 1) := by decide +kernel
theorem dL_subscribe_29 : decode cL_subscribe 29 = .ok (.iconst 0, 1) := by decide +kernel
theorem dL_subscribe_30 : decode cL_subscribe 30 = .ok (.ireturn, 1) := by decide +kernel
theorem dL_unsubscribe_0 : decode cL_unsubscribe 0 = .ok (.aload_n 3, 1) := by decide +kernel
theorem dL_unsubscribe_1 : decode cL_unsubscribe 1 = .ok (.iconst 0, 1) := by decide +kernel
theorem dL_unsubscribe_2 : decode cL_unsubscribe 2 = .ok (.aload_n 0, 1) := by decide +kernel
theorem dL_unsubscribe_3 : decode cL_unsubscribe 3 = .ok (.iload_n 1, 1) := by decide +kernel
theorem dL_unsubscribe_4 : decode cL_unsubscribe 4 = .ok (.iload_n 2, 1) := by decide +kernel
theorem dL_unsubscribe_5 : decode cL_unsubscribe 5 = .ok (.invokevirtual 44, 3) := by decide +kernel
theorem dL_unsubscribe_8 : decode cL_unsubscribe 8 = .ok (.i2l, 1) := by decide +kernel
theorem dL_unsubscribe_9 : decode cL_unsubscribe 9 = .ok (.lastore, 1) := by decide +kernel
theorem dL_unsubscribe_10 : decode cL_unsubscribe 10 = .ok (.goto 15, 3) := by decide +kernel
theorem dL_unsubscribe_13 : decode cL_unsubscribe 13 = .ok (.astore 4, 2) := by decide +kernel
theorem dL_unsubscribe_15 : decode cL_unsubscribe 15 = .ok (.iconst 1, 1) := by decide +kernel
theorem dL_unsubscribe_16 : decode cL_unsubscribe 16 = .ok (.ireturn, 1) := by decide +kernel
theorem dL_unsubscribe_17 : decode cL_unsubscribe 17 = .ok (.astore 4, 2) := by decide +kernel
theorem dL_unsubscribe_19 : decode cL_unsubscribe 19 = .ok (.iconst 2, 1) := by decide +kernel
theorem dL_unsubscribe_20 : decode cL_unsubscribe 20 = .ok (.ireturn, 1) := by decide +kernel
theorem dL_unsubscribe_21 : decode cL_unsubscribe 21 = .ok (.astore 4, 2) := by decide +kernel
theorem dL_unsubscribe_23 : decode cL_unsubscribe 23 = .ok (.iconst 3, 1) := by decide +kernel
theorem dL_unsubscribe_24 : decode cL_unsubscribe 24 = .ok (.ireturn, 1) := by decide +kernel
theorem dL_unsubscribe_25 : decode cL_unsubscribe 25 = .ok (.iconst 0, 1) := by decide +kernel
theorem dL_unsubscribe_26 : decode cL_unsubscribe 26 = .ok (.ireturn, 1) := by decide +kernel
theorem dL_subscription_0 : decode cL_subscription 0 = .ok (.aload 4, 2) := by decide +kernel
theorem dL_subscription_2 : decode cL_subscription 2 = .ok (.iconst 0, 1) := by decide +kernel
theorem dL_subscription_3 : decode cL_subscription 3 = .ok (.aload_n 0, 1) := by decide +kernel
theorem dL_subscription_4 : decode cL_subscription 4 = .ok (.iload_n 1, 1) := by decide +kernel
theorem dL_subscription_5 : decode cL_subscription 5 = .ok (.iload_n 2, 1) := by decide +kernel
theorem dL_subscription_6 : decode cL_subscription 6 = .ok (.iload_n 3, 1) := by decide +kernel
theorem dL_subscription_7 : decode cL_subscription 7 = .ok (.invokevirtual 47, 3) := by decide +kernel
theorem dL_subscription_10 : decode cL_subscription 10 = .ok (.i2l, 1) := by decide +kernel
theorem dL_subscription_11 : decode cL_subscription 11 = .ok (.lastore, 1) := by decide +kernel
theorem dL_subscription_12 : decode cL_subscription 12 = .ok (.goto 11, 3) := by decide +kernel
theorem dL_subscription_15 : decode cL_subscription 15 = .ok (.astore 5, 2) := by decide +kernel
theorem dL_subscription_17 : decode cL_subscription 17 = .ok (.iconst 1, 1) := by decide +kernel
theorem dL_subscription_18 : decode cL_subscription 18 = .ok (.ireturn, 1) := by decide +kernel
theorem dL_subscription_19 : decode cL_subscription 19 = .ok (.astore 5, 2) := by decide +kernel
theorem dL_subscription_21 : decode cL_subscription 21 = .ok (.iconst 2, 1) := by decide +kernel
theorem dL_subscription_22 : decode cL_subscription 22 = .ok (.ireturn, 1) := by decide +kernel
theorem dL_subscription_23 : decode cL_subscription 23 = .ok (.iconst 0, 1) := by decide +kernel
theorem dL_subscription_24 : decode cL_subscription 24 = .ok (.ireturn, 1) := by decide +kernel
theorem dL_relation_0 : decode cL_relation 0 = .ok (.aload 4, 2) := by decide +kernel
theorem dL_relation_2 : decode cL_relation 2 = .ok (.iconst 0, 1) := by decide +kernel
theorem dL_relation_3 : decode cL_relation 3 = .ok (.aload_n 0, 1) := by decide +kernel
theorem dL_relation_4 : decode cL_relation 4 = .ok (.iload_n 1, 1) := by decide +kernel
theorem dL_relation_5 : decode cL_relation 5 = .ok (.iload_n 2, 1) := by decide +kernel
theorem dL_relation_6 : decode cL_relation 6 = .ok (.iload_n 3, 1) := by decide +kernel
theorem dL_relation_7 : decode cL_relation 7 = .ok (.invokevirtual 51, 3) := by decide +kernel
theorem dL_relation_10 : decode cL_relation 10 = .ok (.i2l, 1) := by decide +kernel
theorem dL_relation_11 : decode cL_relation 11 = .ok (.lastore, 1) := by decide +kernel
theorem dL_relation_12 : decode cL_relation 12 = .ok (.goto 7, 3) := by decide +kernel
theorem dL_relation_15 : decode cL_relation 15 = .ok (.astore 5, 2) := by decide +kernel
theorem dL_relation_17 : decode cL_relation 17 = .ok (.iconst 1, 1) := by decide +kernel
theorem dL_relation_18 : decode cL_relation 18 = .ok (.ireturn, 1) := by decide +kernel
theorem dL_relation_19 : decode cL_relation 19 = .ok (.iconst 0, 1) := by decide +kernel
theorem dL_relation_20 : decode cL_relation 20 = .ok (.ireturn, 1) := by decide +kernel
theorem dL_shareSize_0 : decode cL_shareSize 0 = .ok (.aload_n 2, 1) := by decide +kernel
theorem dL_shareSize_1 : decode cL_shareSize 1 = .ok (.iconst 0, 1) := by decide +kernel
theorem dL_shareSize_2 : decode cL_shareSize 2 = .ok (.aload_n 0, 1) := by decide +kernel
theorem dL_shareSize_3 : decode cL_shareSize 3 = .ok (.iload_n 1, 1) := by decide +kernel
theorem dL_shareSize_4 : decode cL_shareSize 4 = .ok (.invokevirtual 54, 3) := by decide +kernel
theorem dL_shareSize_7 : decode cL_shareSize 7 = .ok (.i2l, 1) := by decide +kernel
theorem dL_shareSize_8 : decode cL_shareSize 8 = .ok (.lastore, 1) := by decide +kernel
theorem dL_shareSize_9 : decode cL_shareSize 9 = .ok (.goto 6, 3) := by decide +kernel
theorem dL_shareSize_12 : decode cL_shareSize 12 = .ok (.astore_n 3, 1) := by decide +kernel
theorem dL_shareSize_13 : decode cL_shareSize 13 = .ok (.iconst 1, 1) := by decide +kernel
theorem dL_shareSize_14 : decode cL_shareSize 14 = .ok (.ireturn, 1) := by decide +kernel
theorem dL_shareSize_15 : decode cL_shareSize 15 = .ok (.iconst 0, 1) := by decide +kernel
theorem dL_shareSize_16 : decode cL_shareSize 16 = .ok (.ireturn, 1) := by decide +kernel
theorem dL_shareMember_0 : decode cL_shareMember 0 = .ok (.aload_n 3, 1) := by decide +kernel
theorem dL_shareMember_1 : decode cL_shareMember 1 = .ok (.iconst 0, 1) := by decide +kernel
theorem dL_shareMember_2 : decode cL_shareMember 2 = .ok (.aload_n 0, 1) := by decide +kernel
theorem dL_shareMember_3 : decode cL_shareMember 3 = .ok (.iload_n 1, 1) := by decide +kernel
theorem dL_shareMember_4 : decode cL_shareMember 4 = .ok (.iload_n 2, 1) := by decide +kernel
theorem dL_shareMember_5 : decode cL_shareMember 5 = .ok (.invokevirtual 57, 3) := by decide +kernel
theorem dL_shareMember_8 : decode cL_shareMember 8 = .ok (.i2l, 1) := by decide +kernel
theorem dL_shareMember_9 : decode cL_shareMember 9 = .ok (.lastore, 1) := by decide +kernel
theorem dL_shareMember_10 : decode cL_shareMember 10 = .ok (.goto 11, 3) := by decide +kernel
theorem dL_shareMember_13 : decode cL_shareMember 13 = .ok (.astore 4, 2) := by decide +kernel
theorem dL_shareMember_15 : decode cL_shareMember 15 = .ok (.iconst 1, 1) := by decide +kernel
theorem dL_shareMember_16 : decode cL_shareMember 16 = .ok (.ireturn, 1) := by decide +kernel
theorem dL_shareMember_17 : decode cL_shareMember 17 = .ok (.astore 4, 2) := by decide +kernel
theorem dL_shareMember_19 : decode cL_shareMember 19 = .ok (.iconst 2, 1) := by decide +kernel
theorem dL_shareMember_20 : decode cL_shareMember 20 = .ok (.ireturn, 1) := by decide +kernel
theorem dL_shareMember_21 : decode cL_shareMember 21 = .ok (.iconst 0, 1) := by decide +kernel
theorem dL_shareMember_22 : decode cL_shareMember 22 = .ok (.ireturn, 1) := by decide +kernel
theorem dL_publish_0 : decode cL_publish 0 = .ok (.aload 6, 2) := by decide +kernel
theorem dL_publish_2 : decode cL_publish 2 = .ok (.iconst 0, 1) := by decide +kernel
theorem dL_publish_3 : decode cL_publish 3 = .ok (.aload_n 0, 1) := by decide +kernel
theorem dL_publish_4 : decode cL_publish 4 = .ok (.iload_n 1, 1) := by decide +kernel
theorem dL_publish_5 : decode cL_publish 5 = .ok (.iload_n 2, 1) := by decide +kernel
theorem dL_publish_6 : decode cL_publish 6 = .ok (.iload_n 3, 1) := by decide +kernel
theorem dL_publish_7 : decode cL_publish 7 = .ok (.iload 4, 2) := by decide +kernel
theorem dL_publish_9 : decode cL_publish 9 = .ok (.iload 5, 2) := by decide +kernel
theorem dL_publish_11 : decode cL_publish 11 = .ok (.invokevirtual 60, 3) := by decide +kernel
theorem dL_publish_14 : decode cL_publish 14 = .ok (.i2l, 1) := by decide +kernel
theorem dL_publish_15 : decode cL_publish 15 = .ok (.lastore, 1) := by decide +kernel
theorem dL_publish_16 : decode cL_publish 16 = .ok (.goto 15, 3) := by decide +kernel
theorem dL_publish_19 : decode cL_publish 19 = .ok (.astore 7, 2) := by decide +kernel
theorem dL_publish_21 : decode cL_publish 21 = .ok (.iconst 1, 1) := by decide +kernel
theorem dL_publish_22 : decode cL_publish 22 = .ok (.ireturn, 1) := by decide +kernel
theorem dL_publish_23 : decode cL_publish 23 = .ok (.astore 7, 2) := by decide +kernel
theorem dL_publish_25 : decode cL_publish 25 = .ok (.iconst 2, 1) := by decide +kernel
theorem dL_publish_26 : decode cL_publish 26 = .ok (.ireturn, 1) := by decide +kernel
theorem dL_publish_27 : decode cL_publish 27 = .ok (.astore 7, 2) := by decide +kernel
theorem dL_publish_29 : decode cL_publish 29 = .ok (.iconst 3, 1) := by decide +kernel
theorem dL_publish_30 : decode cL_publish 30 = .ok (.ireturn, 1) := by decide +kernel
theorem dL_publish_31 : decode cL_publish 31 = .ok (.iconst 0, 1) := by decide +kernel
theorem dL_publish_32 : decode cL_publish 32 = .ok (.ireturn, 1) := by decide +kernel
theorem dL_release_0 : decode cL_release 0 = .ok (.aload_n 3, 1) := by decide +kernel
theorem dL_release_1 : decode cL_release 1 = .ok (.iconst 0, 1) := by decide +kernel
theorem dL_release_2 : decode cL_release 2 = .ok (.aload_n 0, 1) := by decide +kernel
theorem dL_release_3 : decode cL_release 3 = .ok (.iload_n 1, 1) := by decide +kernel
theorem dL_release_4 : decode cL_release 4 = .ok (.iload_n 2, 1) := by decide +kernel
theorem dL_release_5 : decode cL_release 5 = .ok (.invokevirtual 64, 3) := by decide +kernel
theorem dL_release_8 : decode cL_release 8 = .ok (.i2l, 1) := by decide +kernel
theorem dL_release_9 : decode cL_release 9 = .ok (.lastore, 1) := by decide +kernel
theorem dL_release_10 : decode cL_release 10 = .ok (.goto 15, 3) := by decide +kernel
theorem dL_release_13 : decode cL_release 13 = .ok (.astore 4, 2) := by decide +kernel
theorem dL_release_15 : decode cL_release 15 = .ok (.iconst 1, 1) := by decide +kernel
theorem dL_release_16 : decode cL_release 16 = .ok (.ireturn, 1) := by decide +kernel
theorem dL_release_17 : decode cL_release 17 = .ok (.astore 4, 2) := by decide +kernel
theorem dL_release_19 : decode cL_release 19 = .ok (.iconst 2, 1) := by decide +kernel
theorem dL_release_20 : decode cL_release 20 = .ok (.ireturn, 1) := by decide +kernel
theorem dL_release_21 : decode cL_release 21 = .ok (.astore 4, 2) := by decide +kernel
theorem dL_release_23 : decode cL_release 23 = .ok (.iconst 3, 1) := by decide +kernel
theorem dL_release_24 : decode cL_release 24 = .ok (.ireturn, 1) := by decide +kernel
theorem dL_release_25 : decode cL_release 25 = .ok (.iconst 0, 1) := by decide +kernel
theorem dL_release_26 : decode cL_release 26 = .ok (.ireturn, 1) := by decide +kernel
theorem dL_answer_0 : decode cL_answer 0 = .ok (.aload 4, 2) := by decide +kernel
theorem dL_answer_2 : decode cL_answer 2 = .ok (.iconst 0, 1) := by decide +kernel
theorem dL_answer_3 : decode cL_answer 3 = .ok (.aload_n 0, 1) := by decide +kernel
theorem dL_answer_4 : decode cL_answer 4 = .ok (.iload_n 1, 1) := by decide +kernel
theorem dL_answer_5 : decode cL_answer 5 = .ok (.iload_n 2, 1) := by decide +kernel
theorem dL_answer_6 : decode cL_answer 6 = .ok (.iload_n 3, 1) := by decide +kernel
theorem dL_answer_7 : decode cL_answer 7 = .ok (.invokevirtual 67, 3) := by decide +kernel
theorem dL_answer_10 : decode cL_answer 10 = .ok (.i2l, 1) := by decide +kernel
theorem dL_answer_11 : decode cL_answer 11 = .ok (.lastore, 1) := by decide +kernel
theorem dL_answer_12 : decode cL_answer 12 = .ok (.goto 15, 3) := by decide +kernel
theorem dL_answer_15 : decode cL_answer 15 = .ok (.astore 5, 2) := by decide +kernel
theorem dL_answer_17 : decode cL_answer 17 = .ok (.iconst 1, 1) := by decide +kernel
theorem dL_answer_18 : decode cL_answer 18 = .ok (.ireturn, 1) := by decide +kernel
theorem dL_answer_19 : decode cL_answer 19 = .ok (.astore 5, 2) := by decide +kernel
theorem dL_answer_21 : decode cL_answer 21 = .ok (.iconst 2, 1) := by decide +kernel
theorem dL_answer_22 : decode cL_answer 22 = .ok (.ireturn, 1) := by decide +kernel
theorem dL_answer_23 : decode cL_answer 23 = .ok (.astore 5, 2) := by decide +kernel
theorem dL_answer_25 : decode cL_answer 25 = .ok (.iconst 3, 1) := by decide +kernel
theorem dL_answer_26 : decode cL_answer 26 = .ok (.ireturn, 1) := by decide +kernel
theorem dL_answer_27 : decode cL_answer 27 = .ok (.iconst 0, 1) := by decide +kernel
theorem dL_answer_28 : decode cL_answer 28 = .ok (.ireturn, 1) := by decide +kernel
theorem dL_audience_0 : decode cL_audience 0 = .ok (.aload_n 2, 1) := by decide +kernel
theorem dL_audience_1 : decode cL_audience 1 = .ok (.iconst 0, 1) := by decide +kernel
theorem dL_audience_2 : decode cL_audience 2 = .ok (.aload_n 0, 1) := by decide +kernel
theorem dL_audience_3 : decode cL_audience 3 = .ok (.iload_n 1, 1) := by decide +kernel
theorem dL_audience_4 : decode cL_audience 4 = .ok (.invokevirtual 70, 3) := by decide +kernel
theorem dL_audience_7 : decode cL_audience 7 = .ok (.i2l, 1) := by decide +kernel
theorem dL_audience_8 : decode cL_audience 8 = .ok (.lastore, 1) := by decide +kernel
theorem dL_audience_9 : decode cL_audience 9 = .ok (.goto 9, 3) := by decide +kernel
theorem dL_audience_12 : decode cL_audience 12 = .ok (.astore_n 3, 1) := by decide +kernel
theorem dL_audience_13 : decode cL_audience 13 = .ok (.iconst 1, 1) := by decide +kernel
theorem dL_audience_14 : decode cL_audience 14 = .ok (.ireturn, 1) := by decide +kernel
theorem dL_audience_15 : decode cL_audience 15 = .ok (.astore_n 3, 1) := by decide +kernel
theorem dL_audience_16 : decode cL_audience 16 = .ok (.iconst 2, 1) := by decide +kernel
theorem dL_audience_17 : decode cL_audience 17 = .ok (.ireturn, 1) := by decide +kernel
theorem dL_audience_18 : decode cL_audience 18 = .ok (.iconst 0, 1) := by decide +kernel
theorem dL_audience_19 : decode cL_audience 19 = .ok (.ireturn, 1) := by decide +kernel
theorem dL_receive_0 : decode cL_receive 0 = .ok (.aload_n 2, 1) := by decide +kernel
theorem dL_receive_1 : decode cL_receive 1 = .ok (.iconst 0, 1) := by decide +kernel
theorem dL_receive_2 : decode cL_receive 2 = .ok (.aload_n 0, 1) := by decide +kernel
theorem dL_receive_3 : decode cL_receive 3 = .ok (.iload_n 1, 1) := by decide +kernel
theorem dL_receive_4 : decode cL_receive 4 = .ok (.invokevirtual 73, 3) := by decide +kernel
theorem dL_receive_7 : decode cL_receive 7 = .ok (.i2l, 1) := by decide +kernel
theorem dL_receive_8 : decode cL_receive 8 = .ok (.lastore, 1) := by decide +kernel
theorem dL_receive_9 : decode cL_receive 9 = .ok (.goto 9, 3) := by decide +kernel
theorem dL_receive_12 : decode cL_receive 12 = .ok (.astore_n 3, 1) := by decide +kernel
theorem dL_receive_13 : decode cL_receive 13 = .ok (.iconst 1, 1) := by decide +kernel
theorem dL_receive_14 : decode cL_receive 14 = .ok (.ireturn, 1) := by decide +kernel
theorem dL_receive_15 : decode cL_receive 15 = .ok (.astore_n 3, 1) := by decide +kernel
theorem dL_receive_16 : decode cL_receive 16 = .ok (.iconst 2, 1) := by decide +kernel
theorem dL_receive_17 : decode cL_receive 17 = .ok (.ireturn, 1) := by decide +kernel
theorem dL_receive_18 : decode cL_receive 18 = .ok (.iconst 0, 1) := by decide +kernel
theorem dL_receive_19 : decode cL_receive 19 = .ok (.ireturn, 1) := by decide +kernel
theorem dL_packet_0 : decode cL_packet 0 = .ok (.aload_n 2, 1) := by decide +kernel
theorem dL_packet_1 : decode cL_packet 1 = .ok (.iconst 0, 1) := by decide +kernel
theorem dL_packet_2 : decode cL_packet 2 = .ok (.aload_n 0, 1) := by decide +kernel
theorem dL_packet_3 : decode cL_packet 3 = .ok (.iload_n 1, 1) := by decide +kernel
theorem dL_packet_4 : decode cL_packet 4 = .ok (.invokevirtual 76, 3) := by decide +kernel
theorem dL_packet_7 : decode cL_packet 7 = .ok (.i2l, 1) := by decide +kernel
theorem dL_packet_8 : decode cL_packet 8 = .ok (.lastore, 1) := by decide +kernel
theorem dL_packet_9 : decode cL_packet 9 = .ok (.goto 9, 3) := by decide +kernel
theorem dL_packet_12 : decode cL_packet 12 = .ok (.astore_n 3, 1) := by decide +kernel
theorem dL_packet_13 : decode cL_packet 13 = .ok (.iconst 1, 1) := by decide +kernel
theorem dL_packet_14 : decode cL_packet 14 = .ok (.ireturn, 1) := by decide +kernel
theorem dL_packet_15 : decode cL_packet 15 = .ok (.astore_n 3, 1) := by decide +kernel
theorem dL_packet_16 : decode cL_packet 16 = .ok (.iconst 2, 1) := by decide +kernel
theorem dL_packet_17 : decode cL_packet 17 = .ok (.ireturn, 1) := by decide +kernel
theorem dL_packet_18 : decode cL_packet 18 = .ok (.iconst 0, 1) := by decide +kernel
theorem dL_packet_19 : decode cL_packet 19 = .ok (.ireturn, 1) := by decide +kernel
theorem dL_topicCharacter_0 : decode cL_topicCharacter 0 = .ok (.aload_n 2, 1) := by decide +kernel
theorem dL_topicCharacter_1 : decode cL_topicCharacter 1 = .ok (.iconst 0, 1) := by decide +kernel
theorem dL_topicCharacter_2 : decode cL_topicCharacter 2 = .ok (.aload_n 0, 1) := by decide +kernel
theorem dL_topicCharacter_3 : decode cL_topicCharacter 3 = .ok (.iload_n 1, 1) := by decide +kernel
theorem dL_topicCharacter_4 : decode cL_topicCharacter 4 = .ok (.invokevirtual 79, 3) := by decide +kernel
theorem dL_topicCharacter_7 : decode cL_topicCharacter 7 = .ok (.i2l, 1) := by decide +kernel
theorem dL_topicCharacter_8 : decode cL_topicCharacter 8 = .ok (.lastore, 1) := by decide +kernel
theorem dL_topicCharacter_9 : decode cL_topicCharacter 9 = .ok (.goto 9, 3) := by decide +kernel
theorem dL_topicCharacter_12 : decode cL_topicCharacter 12 = .ok (.astore_n 3, 1) := by decide +kernel
theorem dL_topicCharacter_13 : decode cL_topicCharacter 13 = .ok (.iconst 1, 1) := by decide +kernel
theorem dL_topicCharacter_14 : decode cL_topicCharacter 14 = .ok (.ireturn, 1) := by decide +kernel
theorem dL_topicCharacter_15 : decode cL_topicCharacter 15 = .ok (.astore_n 3, 1) := by decide +kernel
theorem dL_topicCharacter_16 : decode cL_topicCharacter 16 = .ok (.iconst 2, 1) := by decide +kernel
theorem dL_topicCharacter_17 : decode cL_topicCharacter 17 = .ok (.ireturn, 1) := by decide +kernel
theorem dL_topicCharacter_18 : decode cL_topicCharacter 18 = .ok (.iconst 0, 1) := by decide +kernel
theorem dL_topicCharacter_19 : decode cL_topicCharacter 19 = .ok (.ireturn, 1) := by decide +kernel
theorem dL_lose_0 : decode cL_lose 0 = .ok (.aload_n 2, 1) := by decide +kernel
theorem dL_lose_1 : decode cL_lose 1 = .ok (.iconst 0, 1) := by decide +kernel
theorem dL_lose_2 : decode cL_lose 2 = .ok (.aload_n 0, 1) := by decide +kernel
theorem dL_lose_3 : decode cL_lose 3 = .ok (.iload_n 1, 1) := by decide +kernel
theorem dL_lose_4 : decode cL_lose 4 = .ok (.invokevirtual 82, 3) := by decide +kernel
theorem dL_lose_7 : decode cL_lose 7 = .ok (.i2l, 1) := by decide +kernel
theorem dL_lose_8 : decode cL_lose 8 = .ok (.lastore, 1) := by decide +kernel
theorem dL_lose_9 : decode cL_lose 9 = .ok (.goto 9, 3) := by decide +kernel
theorem dL_lose_12 : decode cL_lose 12 = .ok (.astore_n 3, 1) := by decide +kernel
theorem dL_lose_13 : decode cL_lose 13 = .ok (.iconst 1, 1) := by decide +kernel
theorem dL_lose_14 : decode cL_lose 14 = .ok (.ireturn, 1) := by decide +kernel
theorem dL_lose_15 : decode cL_lose 15 = .ok (.astore_n 3, 1) := by decide +kernel
theorem dL_lose_16 : decode cL_lose 16 = .ok (.iconst 2, 1) := by decide +kernel
theorem dL_lose_17 : decode cL_lose 17 = .ok (.ireturn, 1) := by decide +kernel
theorem dL_lose_18 : decode cL_lose 18 = .ok (.iconst 0, 1) := by decide +kernel
theorem dL_lose_19 : decode cL_lose 19 = .ok (.ireturn, 1) := by decide +kernel
theorem dL_repeat_0 : decode cL_repeat 0 = .ok (.aload_n 2, 1) := by decide +kernel
theorem dL_repeat_1 : decode cL_repeat 1 = .ok (.iconst 0, 1) := by decide +kernel
theorem dL_repeat_2 : decode cL_repeat 2 = .ok (.aload_n 0, 1) := by decide +kernel
theorem dL_repeat_3 : decode cL_repeat 3 = .ok (.iload_n 1, 1) := by decide +kernel
theorem dL_repeat_4 : decode cL_repeat 4 = .ok (.invokevirtual 85, 3) := by decide +kernel
theorem dL_repeat_7 : decode cL_repeat 7 = .ok (.i2l, 1) := by decide +kernel
theorem dL_repeat_8 : decode cL_repeat 8 = .ok (.lastore, 1) := by decide +kernel
theorem dL_repeat_9 : decode cL_repeat 9 = .ok (.goto 9, 3) := by decide +kernel
theorem dL_repeat_12 : decode cL_repeat 12 = .ok (.astore_n 3, 1) := by decide +kernel
theorem dL_repeat_13 : decode cL_repeat 13 = .ok (.iconst 1, 1) := by decide +kernel
theorem dL_repeat_14 : decode cL_repeat 14 = .ok (.ireturn, 1) := by decide +kernel
theorem dL_repeat_15 : decode cL_repeat 15 = .ok (.astore_n 3, 1) := by decide +kernel
theorem dL_repeat_16 : decode cL_repeat 16 = .ok (.iconst 2, 1) := by decide +kernel
theorem dL_repeat_17 : decode cL_repeat 17 = .ok (.ireturn, 1) := by decide +kernel
theorem dL_repeat_18 : decode cL_repeat 18 = .ok (.iconst 0, 1) := by decide +kernel
theorem dL_repeat_19 : decode cL_repeat 19 = .ok (.ireturn, 1) := by decide +kernel
theorem dL_length_0 : decode cL_length 0 = .ok (.aload_n 3, 1) := by decide +kernel
theorem dL_length_1 : decode cL_length 1 = .ok (.iconst 0, 1) := by decide +kernel
theorem dL_length_2 : decode cL_length 2 = .ok (.aload_n 0, 1) := by decide +kernel
theorem dL_length_3 : decode cL_length 3 = .ok (.iload_n 1, 1) := by decide +kernel
theorem dL_length_4 : decode cL_length 4 = .ok (.iload_n 2, 1) := by decide +kernel
theorem dL_length_5 : decode cL_length 5 = .ok (.invokevirtual 88, 3) := by decide +kernel
theorem dL_length_8 : decode cL_length 8 = .ok (.i2l, 1) := by decide +kernel
theorem dL_length_9 : decode cL_length 9 = .ok (.lastore, 1) := by decide +kernel
theorem dL_length_10 : decode cL_length 10 = .ok (.goto 11, 3) := by decide +kernel
theorem dL_length_13 : decode cL_length 13 = .ok (.astore 4, 2) := by decide +kernel
theorem dL_length_15 : decode cL_length 15 = .ok (.iconst 1, 1) := by decide +kernel
theorem dL_length_16 : decode cL_length 16 = .ok (.ireturn, 1) := by decide +kernel
theorem dL_length_17 : decode cL_length 17 = .ok (.astore 4, 2) := by decide +kernel
theorem dL_length_19 : decode cL_length 19 = .ok (.iconst 2, 1) := by decide +kernel
theorem dL_length_20 : decode cL_length 20 = .ok (.ireturn, 1) := by decide +kernel
theorem dL_length_21 : decode cL_length 21 = .ok (.iconst 0, 1) := by decide +kernel
theorem dL_length_22 : decode cL_length 22 = .ok (.ireturn, 1) := by decide +kernel
theorem dL_inFlight_0 : decode cL_inFlight 0 = .ok (.aload 4, 2) := by decide +kernel
theorem dL_inFlight_2 : decode cL_inFlight 2 = .ok (.iconst 0, 1) := by decide +kernel
theorem dL_inFlight_3 : decode cL_inFlight 3 = .ok (.aload_n 0, 1) := by decide +kernel
theorem dL_inFlight_4 : decode cL_inFlight 4 = .ok (.iload_n 1, 1) := by decide +kernel
theorem dL_inFlight_5 : decode cL_inFlight 5 = .ok (.iload_n 2, 1) := by decide +kernel
theorem dL_inFlight_6 : decode cL_inFlight 6 = .ok (.iload_n 3, 1) := by decide +kernel
theorem dL_inFlight_7 : decode cL_inFlight 7 = .ok (.invokevirtual 91, 3) := by decide +kernel
theorem dL_inFlight_10 : decode cL_inFlight 10 = .ok (.i2l, 1) := by decide +kernel
theorem dL_inFlight_11 : decode cL_inFlight 11 = .ok (.lastore, 1) := by decide +kernel
theorem dL_inFlight_12 : decode cL_inFlight 12 = .ok (.goto 11, 3) := by decide +kernel
theorem dL_inFlight_15 : decode cL_inFlight 15 = .ok (.astore 5, 2) := by decide +kernel
theorem dL_inFlight_17 : decode cL_inFlight 17 = .ok (.iconst 1, 1) := by decide +kernel
theorem dL_inFlight_18 : decode cL_inFlight 18 = .ok (.ireturn, 1) := by decide +kernel
theorem dL_inFlight_19 : decode cL_inFlight 19 = .ok (.astore 5, 2) := by decide +kernel
theorem dL_inFlight_21 : decode cL_inFlight 21 = .ok (.iconst 2, 1) := by decide +kernel
theorem dL_inFlight_22 : decode cL_inFlight 22 = .ok (.ireturn, 1) := by decide +kernel
theorem dL_inFlight_23 : decode cL_inFlight 23 = .ok (.iconst 0, 1) := by decide +kernel
theorem dL_inFlight_24 : decode cL_inFlight 24 = .ok (.ireturn, 1) := by decide +kernel
theorem dL_advance_0 : decode cL_advance 0 = .ok (.aload_n 2, 1) := by decide +kernel
theorem dL_advance_1 : decode cL_advance 1 = .ok (.iconst 0, 1) := by decide +kernel
theorem dL_advance_2 : decode cL_advance 2 = .ok (.aload_n 0, 1) := by decide +kernel
theorem dL_advance_3 : decode cL_advance 3 = .ok (.iload_n 1, 1) := by decide +kernel
theorem dL_advance_4 : decode cL_advance 4 = .ok (.invokevirtual 94, 3) := by decide +kernel
theorem dL_advance_7 : decode cL_advance 7 = .ok (.i2l, 1) := by decide +kernel
theorem dL_advance_8 : decode cL_advance 8 = .ok (.lastore, 1) := by decide +kernel
theorem dL_advance_9 : decode cL_advance 9 = .ok (.goto 6, 3) := by decide +kernel
theorem dL_advance_12 : decode cL_advance 12 = .ok (.astore_n 3, 1) := by decide +kernel
theorem dL_advance_13 : decode cL_advance 13 = .ok (.iconst 1, 1) := by decide +kernel
theorem dL_advance_14 : decode cL_advance 14 = .ok (.ireturn, 1) := by decide +kernel
theorem dL_advance_15 : decode cL_advance 15 = .ok (.iconst 0, 1) := by decide +kernel
theorem dL_advance_16 : decode cL_advance 16 = .ok (.ireturn, 1) := by decide +kernel
theorem dL_load_0 : decode cL_load 0 = .ok (.aload_n 2, 1) := by decide +kernel
theorem dL_load_1 : decode cL_load 1 = .ok (.iconst 0, 1) := by decide +kernel
theorem dL_load_2 : decode cL_load 2 = .ok (.aload_n 0, 1) := by decide +kernel
theorem dL_load_3 : decode cL_load 3 = .ok (.iload_n 1, 1) := by decide +kernel
theorem dL_load_4 : decode cL_load 4 = .ok (.invokevirtual 97, 3) := by decide +kernel
theorem dL_load_7 : decode cL_load 7 = .ok (.i2l, 1) := by decide +kernel
theorem dL_load_8 : decode cL_load 8 = .ok (.lastore, 1) := by decide +kernel
theorem dL_load_9 : decode cL_load 9 = .ok (.goto 6, 3) := by decide +kernel
theorem dL_load_12 : decode cL_load 12 = .ok (.astore_n 3, 1) := by decide +kernel
theorem dL_load_13 : decode cL_load 13 = .ok (.iconst 1, 1) := by decide +kernel
theorem dL_load_14 : decode cL_load 14 = .ok (.ireturn, 1) := by decide +kernel
theorem dL_load_15 : decode cL_load 15 = .ok (.iconst 0, 1) := by decide +kernel
theorem dL_load_16 : decode cL_load 16 = .ok (.ireturn, 1) := by decide +kernel
theorem dL_retained_0 : decode cL_retained 0 = .ok (.aload_n 3, 1) := by decide +kernel
theorem dL_retained_1 : decode cL_retained 1 = .ok (.iconst 0, 1) := by decide +kernel
theorem dL_retained_2 : decode cL_retained 2 = .ok (.aload_n 0, 1) := by decide +kernel
theorem dL_retained_3 : decode cL_retained 3 = .ok (.iload_n 1, 1) := by decide +kernel
theorem dL_retained_4 : decode cL_retained 4 = .ok (.iload_n 2, 1) := by decide +kernel
theorem dL_retained_5 : decode cL_retained 5 = .ok (.invokevirtual 100, 3) := by decide +kernel
theorem dL_retained_8 : decode cL_retained 8 = .ok (.i2l, 1) := by decide +kernel
theorem dL_retained_9 : decode cL_retained 9 = .ok (.lastore, 1) := by decide +kernel
theorem dL_retained_10 : decode cL_retained 10 = .ok (.goto 11, 3) := by decide +kernel
theorem dL_retained_13 : decode cL_retained 13 = .ok (.astore 4, 2) := by decide +kernel
theorem dL_retained_15 : decode cL_retained 15 = .ok (.iconst 1, 1) := by decide +kernel
theorem dL_retained_16 : decode cL_retained 16 = .ok (.ireturn, 1) := by decide +kernel
theorem dL_retained_17 : decode cL_retained 17 = .ok (.astore 4, 2) := by decide +kernel
theorem dL_retained_19 : decode cL_retained 19 = .ok (.iconst 2, 1) := by decide +kernel
theorem dL_retained_20 : decode cL_retained 20 = .ok (.ireturn, 1) := by decide +kernel
theorem dL_retained_21 : decode cL_retained 21 = .ok (.iconst 0, 1) := by decide +kernel
theorem dL_retained_22 : decode cL_retained 22 = .ok (.ireturn, 1) := by decide +kernel
theorem dL_published_0 : decode cL_published 0 = .ok (.aload_n 1, 1) := by decide +kernel
theorem dL_published_1 : decode cL_published 1 = .ok (.iconst 0, 1) := by decide +kernel
theorem dL_published_2 : decode cL_published 2 = .ok (.aload_n 0, 1) := by decide +kernel
theorem dL_published_3 : decode cL_published 3 = .ok (.invokevirtual 103, 3) := by decide +kernel
theorem dL_published_6 : decode cL_published 6 = .ok (.i2l, 1) := by decide +kernel
theorem dL_published_7 : decode cL_published 7 = .ok (.lastore, 1) := by decide +kernel
theorem dL_published_8 : decode cL_published 8 = .ok (.goto 6, 3) := by decide +kernel
theorem dL_published_11 : decode cL_published 11 = .ok (.astore_n 2, 1) := by decide +kernel
theorem dL_published_12 : decode cL_published 12 = .ok (.iconst 1, 1) := by decide +kernel
theorem dL_published_13 : decode cL_published 13 = .ok (.ireturn, 1) := by decide +kernel
theorem dL_published_14 : decode cL_published 14 = .ok (.iconst 0, 1) := by decide +kernel
theorem dL_published_15 : decode cL_published 15 = .ok (.ireturn, 1) := by decide +kernel
theorem dL_total_0 : decode cL_total 0 = .ok (.aload_n 2, 1) := by decide +kernel
theorem dL_total_1 : decode cL_total 1 = .ok (.iconst 0, 1) := by decide +kernel
theorem dL_total_2 : decode cL_total 2 = .ok (.aload_n 0, 1) := by decide +kernel
theorem dL_total_3 : decode cL_total 3 = .ok (.iload_n 1, 1) := by decide +kernel
theorem dL_total_4 : decode cL_total 4 = .ok (.invokevirtual 107, 3) := by decide +kernel
theorem dL_total_7 : decode cL_total 7 = .ok (.i2l, 1) := by decide +kernel
theorem dL_total_8 : decode cL_total 8 = .ok (.lastore, 1) := by decide +kernel
theorem dL_total_9 : decode cL_total 9 = .ok (.goto 6, 3) := by decide +kernel
theorem dL_total_12 : decode cL_total 12 = .ok (.astore_n 3, 1) := by decide +kernel
theorem dL_total_13 : decode cL_total 13 = .ok (.iconst 1, 1) := by decide +kernel
theorem dL_total_14 : decode cL_total 14 = .ok (.ireturn, 1) := by decide +kernel
theorem dL_total_15 : decode cL_total 15 = .ok (.iconst 0, 1) := by decide +kernel
theorem dL_total_16 : decode cL_total 16 = .ok (.ireturn, 1) := by decide +kernel
theorem dL_restore_0 : decode cL_restore 0 = .ok (.aload_n 1, 1) := by decide +kernel
theorem dL_restore_1 : decode cL_restore 1 = .ok (.iconst 0, 1) := by decide +kernel
theorem dL_restore_2 : decode cL_restore 2 = .ok (.aload_n 0, 1) := by decide +kernel
theorem dL_restore_3 : decode cL_restore 3 = .ok (.invokevirtual 110, 3) := by decide +kernel
theorem dL_restore_6 : decode cL_restore 6 = .ok (.i2l, 1) := by decide +kernel
theorem dL_restore_7 : decode cL_restore 7 = .ok (.lastore, 1) := by decide +kernel
theorem dL_restore_8 : decode cL_restore 8 = .ok (.goto 6, 3) := by decide +kernel
theorem dL_restore_11 : decode cL_restore 11 = .ok (.astore_n 2, 1) := by decide +kernel
theorem dL_restore_12 : decode cL_restore 12 = .ok (.iconst 1, 1) := by decide +kernel
theorem dL_restore_13 : decode cL_restore 13 = .ok (.ireturn, 1) := by decide +kernel
theorem dL_restore_14 : decode cL_restore 14 = .ok (.iconst 0, 1) := by decide +kernel
theorem dL_restore_15 : decode cL_restore 15 = .ok (.ireturn, 1) := by decide +kernel
theorem dL_law_0 : decode cL_law 0 = .ok (.new 8, 3) := by decide +kernel
theorem dL_law_3 : decode cL_law 3 = .ok (.dup, 1) := by decide +kernel
theorem dL_law_4 : decode cL_law 4 = .ok (.invokespecial 113, 3) := by decide +kernel
theorem dL_law_7 : decode cL_law 7 = .ok (.astore_n 1, 1) := by decide +kernel
theorem dL_law_8 : decode cL_law 8 = .ok (.new 114, 3) := by decide +kernel
theorem dL_law_11 : decode cL_law 11 = .ok (.dup, 1) := by decide +kernel
theorem dL_law_12 : decode cL_law 12 = .ok (.invokespecial 116, 3) := by decide +kernel
theorem dL_law_15 : decode cL_law 15 = .ok (.astore_n 2, 1) := by decide +kernel
theorem dL_law_16 : decode cL_law 16 = .ok (.iconst 1, 1) := by decide +kernel
theorem dL_law_17 : decode cL_law 17 = .ok (.newarray .long, 2) := by decide +kernel
theorem dL_law_19 : decode cL_law 19 = .ok (.astore_n 3, 1) := by decide +kernel
theorem dL_law_20 : decode cL_law 20 = .ok (.iconst 0, 1) := by decide +kernel
theorem dL_law_21 : decode cL_law 21 = .ok (.istore 4, 2) := by decide +kernel
theorem dL_law_23 : decode cL_law 23 = .ok (.iload 4, 2) := by decide +kernel
theorem dL_law_25 : decode cL_law 25 = .ok (.aload_n 0, 1) := by decide +kernel
theorem dL_law_26 : decode cL_law 26 = .ok (.arraylength, 1) := by decide +kernel
theorem dL_law_27 : decode cL_law 27 = .ok (.bipush 6, 2) := by decide +kernel
theorem dL_law_29 : decode cL_law 29 = .ok (.isub, 1) := by decide +kernel
theorem dL_law_30 : decode cL_law 30 = .ok (.if_icmp .gt 2207, 3) := by decide +kernel
theorem dL_law_33 : decode cL_law 33 = .ok (.aload_n 0, 1) := by decide +kernel
theorem dL_law_34 : decode cL_law 34 = .ok (.iload 4, 2) := by decide +kernel
theorem dL_law_36 : decode cL_law 36 = .ok (.iaload, 1) := by decide +kernel
theorem dL_law_37 : decode cL_law 37 = .ok (.bipush 63, 2) := by decide +kernel
theorem dL_law_39 : decode cL_law 39 = .ok (.iand, 1) := by decide +kernel
theorem dL_law_40 : decode cL_law 40 = .ok (.tableswitch 2191 0 32 #[148, 204, 217, 285, 369, 425, 481, 589, 645, 737, 805, 885, 965, 1021, 1089, 1209, 1277, 1357, 1413, 1469, 1525, 1581, 1637, 1693, 1761, 1841, 1897, 1953, 1966, 2034, 2078, 2134, 2147], 148) := by decide +kernel
theorem dL_law_188 : decode cL_law 188 = .ok (.aload_n 1, 1) := by decide +kernel
theorem dL_law_189 : decode cL_law 189 = .ok (.aload_n 0, 1) := by decide +kernel
theorem dL_law_190 : decode cL_law 190 = .ok (.iload 4, 2) := by decide +kernel
theorem dL_law_192 : decode cL_law 192 = .ok (.iconst 1, 1) := by decide +kernel
theorem dL_law_193 : decode cL_law 193 = .ok (.iadd, 1) := by decide +kernel
theorem dL_law_194 : decode cL_law 194 = .ok (.iaload, 1) := by decide +kernel
theorem dL_law_195 : decode cL_law 195 = .ok (.aload_n 3, 1) := by decide +kernel
theorem dL_law_196 : decode cL_law 196 = .ok (.invokestatic 117, 3) := by decide +kernel
theorem dL_law_199 : decode cL_law 199 = .ok (.istore 5, 2) := by decide +kernel
theorem dL_law_201 : decode cL_law 201 = .ok (.aload_n 2, 1) := by decide +kernel
theorem dL_law_202 : decode cL_law 202 = .ok (.aload_n 0, 1) := by decide +kernel
theorem dL_law_203 : decode cL_law 203 = .ok (.iload 4, 2) := by decide +kernel
theorem dL_law_205 : decode cL_law 205 = .ok (.iconst 1, 1) := by decide +kernel
theorem dL_law_206 : decode cL_law 206 = .ok (.iadd, 1) := by decide +kernel
theorem dL_law_207 : decode cL_law 207 = .ok (.iaload, 1) := by decide +kernel
theorem dL_law_208 : decode cL_law 208 = .ok (.invokevirtual 122, 3) := by decide +kernel
theorem dL_law_211 : decode cL_law 211 = .ok (.istore 6, 2) := by decide +kernel
theorem dL_law_213 : decode cL_law 213 = .ok (.aload_n 2, 1) := by decide +kernel
theorem dL_law_214 : decode cL_law 214 = .ok (.invokevirtual 123, 3) := by decide +kernel
theorem dL_law_217 : decode cL_law 217 = .ok (.iload 5, 2) := by decide +kernel
theorem dL_law_219 : decode cL_law 219 = .ok (.if_icmp .eq 5, 3) := by decide +kernel
theorem dL_law_222 : decode cL_law 222 = .ok (.iconst 0, 1) := by decide +kernel
theorem dL_law_223 : decode cL_law 223 = .ok (.ireturn, 1) := by decide +kernel
theorem dL_law_224 : decode cL_law 224 = .ok (.iload 5, 2) := by decide +kernel
theorem dL_law_226 : decode cL_law 226 = .ok (.ifCond .ne 15, 3) := by decide +kernel
theorem dL_law_229 : decode cL_law 229 = .ok (.aload_n 3, 1) := by decide +kernel
theorem dL_law_230 : decode cL_law 230 = .ok (.iconst 0, 1) := by decide +kernel
theorem dL_law_231 : decode cL_law 231 = .ok (.laload, 1) := by decide +kernel
theorem dL_law_232 : decode cL_law 232 = .ok (.iload 6, 2) := by decide +kernel
theorem dL_law_234 : decode cL_law 234 = .ok (.i2l, 1) := by decide +kernel
theorem dL_law_235 : decode cL_law 235 = .ok (.lcmp, 1) := by decide +kernel
theorem dL_law_236 : decode cL_law 236 = .ok (.ifCond .eq 5, 3) := by decide +kernel
theorem dL_law_239 : decode cL_law 239 = .ok (.iconst 0, 1) := by decide +kernel
theorem dL_law_240 : decode cL_law 240 = .ok (.ireturn, 1) := by decide +kernel
theorem dL_law_241 : decode cL_law 241 = .ok (.goto 1990, 3) := by decide +kernel
theorem dL_law_244 : decode cL_law 244 = .ok (.aload_n 1, 1) := by decide +kernel
theorem dL_law_245 : decode cL_law 245 = .ok (.invokevirtual 126, 3) := by decide +kernel
theorem dL_law_248 : decode cL_law 248 = .ok (.aload_n 2, 1) := by decide +kernel
theorem dL_law_249 : decode cL_law 249 = .ok (.invokevirtual 129, 3) := by decide +kernel
theorem dL_law_252 : decode cL_law 252 = .ok (.if_icmp .eq 1979, 3) := by decide +kernel
theorem dL_law_255 : decode cL_law 255 = .ok (.iconst 0, 1) := by decide +kernel
theorem dL_law_256 : decode cL_law 256 = .ok (.ireturn, 1) := by decide +kernel
theorem dL_law_257 : decode cL_law 257 = .ok (.aload_n 1, 1) := by decide +kernel
theorem dL_law_258 : decode cL_law 258 = .ok (.aload_n 0, 1) := by decide +kernel
theorem dL_law_259 : decode cL_law 259 = .ok (.iload 4, 2) := by decide +kernel
theorem dL_law_261 : decode cL_law 261 = .ok (.iconst 1, 1) := by decide +kernel
theorem dL_law_262 : decode cL_law 262 = .ok (.iadd, 1) := by decide +kernel
theorem dL_law_263 : decode cL_law 263 = .ok (.iaload, 1) := by decide +kernel
theorem dL_law_264 : decode cL_law 264 = .ok (.aload_n 0, 1) := by decide +kernel
theorem dL_law_265 : decode cL_law 265 = .ok (.iload 4, 2) := by decide +kernel
theorem dL_law_267 : decode cL_law 267 = .ok (.iconst 2, 1) := by decide +kernel
theorem dL_law_268 : decode cL_law 268 = .ok (.iadd, 1) := by decide +kernel
theorem dL_law_269 : decode cL_law 269 = .ok (.iaload, 1) := by decide +kernel
theorem dL_law_270 : decode cL_law 270 = .ok (.aload_n 3, 1) := by decide +kernel
theorem dL_law_271 : decode cL_law 271 = .ok (.invokestatic 130, 3) := by decide +kernel
theorem dL_law_274 : decode cL_law 274 = .ok (.istore 5, 2) := by decide +kernel
theorem dL_law_276 : decode cL_law 276 = .ok (.aload_n 2, 1) := by decide +kernel
theorem dL_law_277 : decode cL_law 277 = .ok (.aload_n 0, 1) := by decide +kernel
theorem dL_law_278 : decode cL_law 278 = .ok (.iload 4, 2) := by decide +kernel
theorem dL_law_280 : decode cL_law 280 = .ok (.iconst 1, 1) := by decide +kernel
theorem dL_law_281 : decode cL_law 281 = .ok (.iadd, 1) := by decide +kernel
theorem dL_law_282 : decode cL_law 282 = .ok (.iaload, 1) := by decide +kernel
theorem dL_law_283 : decode cL_law 283 = .ok (.aload_n 0, 1) := by decide +kernel
theorem dL_law_284 : decode cL_law 284 = .ok (.iload 4, 2) := by decide +kernel
theorem dL_law_286 : decode cL_law 286 = .ok (.iconst 2, 1) := by decide +kernel
theorem dL_law_287 : decode cL_law 287 = .ok (.iadd, 1) := by decide +kernel
theorem dL_law_288 : decode cL_law 288 = .ok (.iaload, 1) := by decide +kernel
theorem dL_law_289 : decode cL_law 289 = .ok (.invokevirtual 133, 3) := by decide +kernel
theorem dL_law_292 : decode cL_law 292 = .ok (.istore 6, 2) := by decide +kernel
theorem dL_law_294 : decode cL_law 294 = .ok (.aload_n 2, 1) := by decide +kernel
theorem dL_law_295 : decode cL_law 295 = .ok (.invokevirtual 123, 3) := by decide +kernel
theorem dL_law_298 : decode cL_law 298 = .ok (.iload 5, 2) := by decide +kernel
theorem dL_law_300 : decode cL_law 300 = .ok (.if_icmp .eq 5, 3) := by decide +kernel
theorem dL_law_303 : decode cL_law 303 = .ok (.iconst 0, 1) := by decide +kernel
theorem dL_law_304 : decode cL_law 304 = .ok (.ireturn, 1) := by decide +kernel
theorem dL_law_305 : decode cL_law 305 = .ok (.iload 5, 2) := by decide +kernel
theorem dL_law_307 : decode cL_law 307 = .ok (.ifCond .ne 15, 3) := by decide +kernel
theorem dL_law_310 : decode cL_law 310 = .ok (.aload_n 3, 1) := by decide +kernel
theorem dL_law_311 : decode cL_law 311 = .ok (.iconst 0, 1) := by decide +kernel
theorem dL_law_312 : decode cL_law 312 = .ok (.laload, 1) := by decide +kernel
theorem dL_law_313 : decode cL_law 313 = .ok (.iload 6, 2) := by decide +kernel
theorem dL_law_315 : decode cL_law 315 = .ok (.i2l, 1) := by decide +kernel
theorem dL_law_316 : decode cL_law 316 = .ok (.lcmp, 1) := by decide +kernel
theorem dL_law_317 : decode cL_law 317 = .ok (.ifCond .eq 5, 3) := by decide +kernel
theorem dL_law_320 : decode cL_law 320 = .ok (.iconst 0, 1) := by decide +kernel
theorem dL_law_321 : decode cL_law 321 = .ok (.ireturn, 1) := by decide +kernel
theorem dL_law_322 : decode cL_law 322 = .ok (.goto 1909, 3) := by decide +kernel
theorem dL_law_325 : decode cL_law 325 = .ok (.aload_n 1, 1) := by decide +kernel
theorem dL_law_326 : decode cL_law 326 = .ok (.aload_n 0, 1) := by decide +kernel
theorem dL_law_327 : decode cL_law 327 = .ok (.iload 4, 2) := by decide +kernel
theorem dL_law_329 : decode cL_law 329 = .ok (.iconst 1, 1) := by decide +kernel
theorem dL_law_330 : decode cL_law 330 = .ok (.iadd, 1) := by decide +kernel
theorem dL_law_331 : decode cL_law 331 = .ok (.iaload, 1) := by decide +kernel
theorem dL_law_332 : decode cL_law 332 = .ok (.aload_n 0, 1) := by decide +kernel
theorem dL_law_333 : decode cL_law 333 = .ok (.iload 4, 2) := by decide +kernel
theorem dL_law_335 : decode cL_law 335 = .ok (.iconst 2, 1) := by decide +kernel
theorem dL_law_336 : decode cL_law 336 = .ok (.iadd, 1) := by decide +kernel
theorem dL_law_337 : decode cL_law 337 = .ok (.iaload, 1) := by decide +kernel
theorem dL_law_338 : decode cL_law 338 = .ok (.ifCond .eq 7, 3) := by decide +kernel
theorem dL_law_341 : decode cL_law 341 = .ok (.iconst 1, 1) := by decide +kernel
theorem dL_law_342 : decode cL_law 342 = .ok (.goto 4, 3) := by decide +kernel
theorem dL_law_345 : decode cL_law 345 = .ok (.iconst 0, 1) := by decide +kernel
theorem dL_law_346 : decode cL_law 346 = .ok (.aload_n 3, 1) := by decide +kernel
theorem dL_law_347 : decode cL_law 347 = .ok (.invokestatic 134, 3) := by decide +kernel
theorem dL_law_350 : decode cL_law 350 = .ok (.istore 5, 2) := by decide +kernel
theorem dL_law_352 : decode cL_law 352 = .ok (.aload_n 2, 1) := by decide +kernel
theorem dL_law_353 : decode cL_law 353 = .ok (.aload_n 0, 1) := by decide +kernel
theorem dL_law_354 : decode cL_law 354 = .ok (.iload 4, 2) := by decide +kernel
theorem dL_law_356 : decode cL_law 356 = .ok (.iconst 1, 1) := by decide +kernel
theorem dL_law_357 : decode cL_law 357 = .ok (.iadd, 1) := by decide +kernel
theorem dL_law_358 : decode cL_law 358 = .ok (.iaload, 1) := by decide +kernel
theorem dL_law_359 : decode cL_law 359 = .ok (.aload_n 0, 1) := by decide +kernel
theorem dL_law_360 : decode cL_law 360 = .ok (.iload 4, 2) := by decide +kernel
theorem dL_law_362 : decode cL_law 362 = .ok (.iconst 2, 1) := by decide +kernel
theorem dL_law_363 : decode cL_law 363 = .ok (.iadd, 1) := by decide +kernel
theorem dL_law_364 : decode cL_law 364 = .ok (.iaload, 1) := by decide +kernel
theorem dL_law_365 : decode cL_law 365 = .ok (.ifCond .eq 7, 3) := by decide +kernel
theorem dL_law_368 : decode cL_law 368 = .ok (.iconst 1, 1) := by decide +kernel
theorem dL_law_369 : decode cL_law 369 = .ok (.goto 4, 3) := by decide +kernel
theorem dL_law_372 : decode cL_law 372 = .ok (.iconst 0, 1) := by decide +kernel
theorem dL_law_373 : decode cL_law 373 = .ok (.invokevirtual 137, 3) := by decide +kernel
theorem dL_law_376 : decode cL_law 376 = .ok (.istore 6, 2) := by decide +kernel
theorem dL_law_378 : decode cL_law 378 = .ok (.aload_n 2, 1) := by decide +kernel
theorem dL_law_379 : decode cL_law 379 = .ok (.invokevirtual 123, 3) := by decide +kernel
theorem dL_law_382 : decode cL_law 382 = .ok (.iload 5, 2) := by decide +kernel
theorem dL_law_384 : decode cL_law 384 = .ok (.if_icmp .eq 5, 3) := by decide +kernel
theorem dL_law_387 : decode cL_law 387 = .ok (.iconst 0, 1) := by decide +kernel
theorem dL_law_388 : decode cL_law 388 = .ok (.ireturn, 1) := by decide +kernel
theorem dL_law_389 : decode cL_law 389 = .ok (.iload 5, 2) := by decide +kernel
theorem dL_law_391 : decode cL_law 391 = .ok (.ifCond .ne 15, 3) := by decide +kernel
theorem dL_law_394 : decode cL_law 394 = .ok (.aload_n 3, 1) := by decide +kernel
theorem dL_law_395 : decode cL_law 395 = .ok (.iconst 0, 1) := by decide +kernel
theorem dL_law_396 : decode cL_law 396 = .ok (.laload, 1) := by decide +kernel
theorem dL_law_397 : decode cL_law 397 = .ok (.iload 6, 2) := by decide +kernel
theorem dL_law_399 : decode cL_law 399 = .ok (.i2l, 1) := by decide +kernel
theorem dL_law_400 : decode cL_law 400 = .ok (.lcmp, 1) := by decide +kernel
theorem dL_law_401 : decode cL_law 401 = .ok (.ifCond .eq 5, 3) := by decide +kernel
theorem dL_law_404 : decode cL_law 404 = .ok (.iconst 0, 1) := by decide +kernel
theorem dL_law_405 : decode cL_law 405 = .ok (.ireturn, 1) := by decide +kernel
theorem dL_law_406 : decode cL_law 406 = .ok (.goto 1825, 3) := by decide +kernel
theorem dL_law_409 : decode cL_law 409 = .ok (.aload_n 1, 1) := by decide +kernel
theorem dL_law_410 : decode cL_law 410 = .ok (.aload_n 0, 1) := by decide +kernel
theorem dL_law_411 : decode cL_law 411 = .ok (.iload 4, 2) := by decide +kernel
theorem dL_law_413 : decode cL_law 413 = .ok (.iconst 1, 1) := by decide +kernel
theorem dL_law_414 : decode cL_law 414 = .ok (.iadd, 1) := by decide +kernel
theorem dL_law_415 : decode cL_law 415 = .ok (.iaload, 1) := by decide +kernel
theorem dL_law_416 : decode cL_law 416 = .ok (.aload_n 3, 1) := by decide +kernel
theorem dL_law_417 : decode cL_law 417 = .ok (.invokestatic 138, 3) := by decide +kernel
theorem dL_law_420 : decode cL_law 420 = .ok (.istore 5, 2) := by decide +kernel
theorem dL_law_422 : decode cL_law 422 = .ok (.aload_n 2, 1) := by decide +kernel
theorem dL_law_423 : decode cL_law 423 = .ok (.aload_n 0, 1) := by decide +kernel
theorem dL_law_424 : decode cL_law 424 = .ok (.iload 4, 2) := by decide +kernel
theorem dL_law_426 : decode cL_law 426 = .ok (.iconst 1, 1) := by decide +kernel
theorem dL_law_427 : decode cL_law 427 = .ok (.iadd, 1) := by decide +kernel
theorem dL_law_428 : decode cL_law 428 = .ok (.iaload, 1) := by decide +kernel
theorem dL_law_429 : decode cL_law 429 = .ok (.invokevirtual 140, 3) := by decide +kernel
theorem dL_law_432 : decode cL_law 432 = .ok (.istore 6, 2) := by decide +kernel
theorem dL_law_434 : decode cL_law 434 = .ok (.aload_n 2, 1) := by decide +kernel
theorem dL_law_435 : decode cL_law 435 = .ok (.invokevirtual 123, 3) := by decide +kernel
theorem dL_law_438 : decode cL_law 438 = .ok (.iload 5, 2) := by decide +kernel
theorem dL_law_440 : decode cL_law 440 = .ok (.if_icmp .eq 5, 3) := by decide +kernel
theorem dL_law_443 : decode cL_law 443 = .ok (.iconst 0, 1) := by decide +kernel
theorem dL_law_444 : decode cL_law 444 = .ok (.ireturn, 1) := by decide +kernel
theorem dL_law_445 : decode cL_law 445 = .ok (.iload 5, 2) := by decide +kernel
theorem dL_law_447 : decode cL_law 447 = .ok (.ifCond .ne 15, 3) := by decide +kernel
theorem dL_law_450 : decode cL_law 450 = .ok (.aload_n 3, 1) := by decide +kernel
theorem dL_law_451 : decode cL_law 451 = .ok (.iconst 0, 1) := by decide +kernel
theorem dL_law_452 : decode cL_law 452 = .ok (.laload, 1) := by decide +kernel
theorem dL_law_453 : decode cL_law 453 = .ok (.iload 6, 2) := by decide +kernel
theorem dL_law_455 : decode cL_law 455 = .ok (.i2l, 1) := by decide +kernel
theorem dL_law_456 : decode cL_law 456 = .ok (.lcmp, 1) := by decide +kernel
theorem dL_law_457 : decode cL_law 457 = .ok (.ifCond .eq 5, 3) := by decide +kernel
theorem dL_law_460 : decode cL_law 460 = .ok (.iconst 0, 1) := by decide +kernel
theorem dL_law_461 : decode cL_law 461 = .ok (.ireturn, 1) := by decide +kernel
theorem dL_law_462 : decode cL_law 462 = .ok (.goto 1769, 3) := by decide +kernel
theorem dL_law_465 : decode cL_law 465 = .ok (.aload_n 1, 1) := by decide +kernel
theorem dL_law_466 : decode cL_law 466 = .ok (.aload_n 0, 1) := by decide +kernel
theorem dL_law_467 : decode cL_law 467 = .ok (.iload 4, 2) := by decide +kernel
theorem dL_law_469 : decode cL_law 469 = .ok (.iconst 1, 1) := by decide +kernel
theorem dL_law_470 : decode cL_law 470 = .ok (.iadd, 1) := by decide +kernel
theorem dL_law_471 : decode cL_law 471 = .ok (.iaload, 1) := by decide +kernel
theorem dL_law_472 : decode cL_law 472 = .ok (.aload_n 3, 1) := by decide +kernel
theorem dL_law_473 : decode cL_law 473 = .ok (.invokestatic 141, 3) := by decide +kernel
theorem dL_law_476 : decode cL_law 476 = .ok (.istore 5, 2) := by decide +kernel
theorem dL_law_478 : decode cL_law 478 = .ok (.aload_n 2, 1) := by decide +kernel
theorem dL_law_479 : decode cL_law 479 = .ok (.aload_n 0, 1) := by decide +kernel
theorem dL_law_480 : decode cL_law 480 = .ok (.iload 4, 2) := by decide +kernel
theorem dL_law_482 : decode cL_law 482 = .ok (.iconst 1, 1) := by decide +kernel
theorem dL_law_483 : decode cL_law 483 = .ok (.iadd, 1) := by decide +kernel
theorem dL_law_484 : decode cL_law 484 = .ok (.iaload, 1) := by decide +kernel
theorem dL_law_485 : decode cL_law 485 = .ok (.invokevirtual 143, 3) := by decide +kernel
theorem dL_law_488 : decode cL_law 488 = .ok (.istore 6, 2) := by decide +kernel
theorem dL_law_490 : decode cL_law 490 = .ok (.aload_n 2, 1) := by decide +kernel
theorem dL_law_491 : decode cL_law 491 = .ok (.invokevirtual 123, 3) := by decide +kernel
theorem dL_law_494 : decode cL_law 494 = .ok (.iload 5, 2) := by decide +kernel
theorem dL_law_496 : decode cL_law 496 = .ok (.if_icmp .eq 5, 3) := by decide +kernel
theorem dL_law_499 : decode cL_law 499 = .ok (.iconst 0, 1) := by decide +kernel
theorem dL_law_500 : decode cL_law 500 = .ok (.ireturn, 1) := by decide +kernel
theorem dL_law_501 : decode cL_law 501 = .ok (.iload 5, 2) := by decide +kernel
theorem dL_law_503 : decode cL_law 503 = .ok (.ifCond .ne 15, 3) := by decide +kernel
theorem dL_law_506 : decode cL_law 506 = .ok (.aload_n 3, 1) := by decide +kernel
theorem dL_law_507 : decode cL_law 507 = .ok (.iconst 0, 1) := by decide +kernel
theorem dL_law_508 : decode cL_law 508 = .ok (.laload, 1) := by decide +kernel
theorem dL_law_509 : decode cL_law 509 = .ok (.iload 6, 2) := by decide +kernel
theorem dL_law_511 : decode cL_law 511 = .ok (.i2l, 1) := by decide +kernel
theorem dL_law_512 : decode cL_law 512 = .ok (.lcmp, 1) := by decide +kernel
theorem dL_law_513 : decode cL_law 513 = .ok (.ifCond .eq 5, 3) := by decide +kernel
theorem dL_law_516 : decode cL_law 516 = .ok (.iconst 0, 1) := by decide +kernel
theorem dL_law_517 : decode cL_law 517 = .ok (.ireturn, 1) := by decide +kernel
theorem dL_law_518 : decode cL_law 518 = .ok (.goto 1713, 3) := by decide +kernel
theorem dL_law_521 : decode cL_law 521 = .ok (.aload_n 1, 1) := by decide +kernel
theorem dL_law_522 : decode cL_law 522 = .ok (.aload_n 0, 1) := by decide +kernel
theorem dL_law_523 : decode cL_law 523 = .ok (.iload 4, 2) := by decide +kernel
theorem dL_law_525 : decode cL_law 525 = .ok (.iconst 1, 1) := by decide +kernel
theorem dL_law_526 : decode cL_law 526 = .ok (.iadd, 1) := by decide +kernel
theorem dL_law_527 : decode cL_law 527 = .ok (.iaload, 1) := by decide +kernel
theorem dL_law_528 : decode cL_law 528 = .ok (.aload_n 0, 1) := by decide +kernel
theorem dL_law_529 : decode cL_law 529 = .ok (.iload 4, 2) := by decide +kernel
theorem dL_law_531 : decode cL_law 531 = .ok (.iconst 2, 1) := by decide +kernel
theorem dL_law_532 : decode cL_law 532 = .ok (.iadd, 1) := by decide +kernel
theorem dL_law_533 : decode cL_law 533 = .ok (.iaload, 1) := by decide +kernel
theorem dL_law_534 : decode cL_law 534 = .ok (.aload_n 0, 1) := by decide +kernel
theorem dL_law_535 : decode cL_law 535 = .ok (.iload 4, 2) := by decide +kernel
theorem dL_law_537 : decode cL_law 537 = .ok (.iconst 3, 1) := by decide +kernel
theorem dL_law_538 : decode cL_law 538 = .ok (.iadd, 1) := by decide +kernel
theorem dL_law_539 : decode cL_law 539 = .ok (.iaload, 1) := by decide +kernel
theorem dL_law_540 : decode cL_law 540 = .ok (.ifCond .eq 7, 3) := by decide +kernel
theorem dL_law_543 : decode cL_law 543 = .ok (.iconst 1, 1) := by decide +kernel
theorem dL_law_544 : decode cL_law 544 = .ok (.goto 4, 3) := by decide +kernel
theorem dL_law_547 : decode cL_law 547 = .ok (.iconst 0, 1) := by decide +kernel
theorem dL_law_548 : decode cL_law 548 = .ok (.aload_n 0, 1) := by decide +kernel
theorem dL_law_549 : decode cL_law 549 = .ok (.iload 4, 2) := by decide +kernel
theorem dL_law_551 : decode cL_law 551 = .ok (.iconst 4, 1) := by decide +kernel
theorem dL_law_552 : decode cL_law 552 = .ok (.iadd, 1) := by decide +kernel
theorem dL_law_553 : decode cL_law 553 = .ok (.iaload, 1) := by decide +kernel
theorem dL_law_554 : decode cL_law 554 = .ok (.aload_n 3, 1) := by decide +kernel
theorem dL_law_555 : decode cL_law 555 = .ok (.invokestatic 144, 3) := by decide +kernel
theorem dL_law_558 : decode cL_law 558 = .ok (.istore 5, 2) := by decide +kernel
theorem dL_law_560 : decode cL_law 560 = .ok (.aload_n 2, 1) := by decide +kernel
theorem dL_law_561 : decode cL_law 561 = .ok (.aload_n 0, 1) := by decide +kernel
theorem dL_law_562 : decode cL_law 562 = .ok (.iload 4, 2) := by decide +kernel
theorem dL_law_564 : decode cL_law 564 = .ok (.iconst 1, 1) := by decide +kernel
theorem dL_law_565 : decode cL_law 565 = .ok (.iadd, 1) := by decide +kernel
theorem dL_law_566 : decode cL_law 566 = .ok (.iaload, 1) := by decide +kernel
theorem dL_law_567 : decode cL_law 567 = .ok (.aload_n 0, 1) := by decide +kernel
theorem dL_law_568 : decode cL_law 568 = .ok (.iload 4, 2) := by decide +kernel
theorem dL_law_570 : decode cL_law 570 = .ok (.iconst 2, 1) := by decide +kernel
theorem dL_law_571 : decode cL_law 571 = .ok (.iadd, 1) := by decide +kernel
theorem dL_law_572 : decode cL_law 572 = .ok (.iaload, 1) := by decide +kernel
theorem dL_law_573 : decode cL_law 573 = .ok (.aload_n 0, 1) := by decide +kernel
theorem dL_law_574 : decode cL_law 574 = .ok (.iload 4, 2) := by decide +kernel
theorem dL_law_576 : decode cL_law 576 = .ok (.iconst 3, 1) := by decide +kernel
theorem dL_law_577 : decode cL_law 577 = .ok (.iadd, 1) := by decide +kernel
theorem dL_law_578 : decode cL_law 578 = .ok (.iaload, 1) := by decide +kernel
theorem dL_law_579 : decode cL_law 579 = .ok (.ifCond .eq 7, 3) := by decide +kernel
theorem dL_law_582 : decode cL_law 582 = .ok (.iconst 1, 1) := by decide +kernel
theorem dL_law_583 : decode cL_law 583 = .ok (.goto 4, 3) := by decide +kernel
theorem dL_law_586 : decode cL_law 586 = .ok (.iconst 0, 1) := by decide +kernel
theorem dL_law_587 : decode cL_law 587 = .ok (.aload_n 0, 1) := by decide +kernel
theorem dL_law_588 : decode cL_law 588 = .ok (.iload 4, 2) := by decide +kernel
theorem dL_law_590 : decode cL_law 590 = .ok (.iconst 4, 1) := by decide +kernel
theorem dL_law_591 : decode cL_law 591 = .ok (.iadd, 1) := by decide +kernel
theorem dL_law_592 : decode cL_law 592 = .ok (.iaload, 1) := by decide +kernel
theorem dL_law_593 : decode cL_law 593 = .ok (.invokevirtual 147, 3) := by decide +kernel
theorem dL_law_596 : decode cL_law 596 = .ok (.istore 6, 2) := by decide +kernel
theorem dL_law_598 : decode cL_law 598 = .ok (.aload_n 2, 1) := by decide +kernel
theorem dL_law_599 : decode cL_law 599 = .ok (.invokevirtual 123, 3) := by decide +kernel
theorem dL_law_602 : decode cL_law 602 = .ok (.iload 5, 2) := by decide +kernel
theorem dL_law_604 : decode cL_law 604 = .ok (.if_icmp .eq 5, 3) := by decide +kernel
theorem dL_law_607 : decode cL_law 607 = .ok (.iconst 0, 1) := by decide +kernel
theorem dL_law_608 : decode cL_law 608 = .ok (.ireturn, 1) := by decide +kernel
theorem dL_law_609 : decode cL_law 609 = .ok (.iload 5, 2) := by decide +kernel
theorem dL_law_611 : decode cL_law 611 = .ok (.ifCond .ne 15, 3) := by decide +kernel
theorem dL_law_614 : decode cL_law 614 = .ok (.aload_n 3, 1) := by decide +kernel
theorem dL_law_615 : decode cL_law 615 = .ok (.iconst 0, 1) := by decide +kernel
theorem dL_law_616 : decode cL_law 616 = .ok (.laload, 1) := by decide +kernel
theorem dL_law_617 : decode cL_law 617 = .ok (.iload 6, 2) := by decide +kernel
theorem dL_law_619 : decode cL_law 619 = .ok (.i2l, 1) := by decide +kernel
theorem dL_law_620 : decode cL_law 620 = .ok (.lcmp, 1) := by decide +kernel
theorem dL_law_621 : decode cL_law 621 = .ok (.ifCond .eq 5, 3) := by decide +kernel
theorem dL_law_624 : decode cL_law 624 = .ok (.iconst 0, 1) := by decide +kernel
theorem dL_law_625 : decode cL_law 625 = .ok (.ireturn, 1) := by decide +kernel
theorem dL_law_626 : decode cL_law 626 = .ok (.goto 1605, 3) := by decide +kernel
theorem dL_law_629 : decode cL_law 629 = .ok (.aload_n 1, 1) := by decide +kernel
theorem dL_law_630 : decode cL_law 630 = .ok (.aload_n 0, 1) := by decide +kernel
theorem dL_law_631 : decode cL_law 631 = .ok (.iload 4, 2) := by decide +kernel
theorem dL_law_633 : decode cL_law 633 = .ok (.iconst 1, 1) := by decide +kernel
theorem dL_law_634 : decode cL_law 634 = .ok (.iadd, 1) := by decide +kernel
theorem dL_law_635 : decode cL_law 635 = .ok (.iaload, 1) := by decide +kernel
theorem dL_law_636 : decode cL_law 636 = .ok (.aload_n 3, 1) := by decide +kernel
theorem dL_law_637 : decode cL_law 637 = .ok (.invokestatic 148, 3) := by decide +kernel
theorem dL_law_640 : decode cL_law 640 = .ok (.istore 5, 2) := by decide +kernel
theorem dL_law_642 : decode cL_law 642 = .ok (.aload_n 2, 1) := by decide +kernel
theorem dL_law_643 : decode cL_law 643 = .ok (.aload_n 0, 1) := by decide +kernel
theorem dL_law_644 : decode cL_law 644 = .ok (.iload 4, 2) := by decide +kernel
theorem dL_law_646 : decode cL_law 646 = .ok (.iconst 1, 1) := by decide +kernel
theorem dL_law_647 : decode cL_law 647 = .ok (.iadd, 1) := by decide +kernel
theorem dL_law_648 : decode cL_law 648 = .ok (.iaload, 1) := by decide +kernel
theorem dL_law_649 : decode cL_law 649 = .ok (.invokevirtual 150, 3) := by decide +kernel
theorem dL_law_652 : decode cL_law 652 = .ok (.istore 6, 2) := by decide +kernel
theorem dL_law_654 : decode cL_law 654 = .ok (.aload_n 2, 1) := by decide +kernel
theorem dL_law_655 : decode cL_law 655 = .ok (.invokevirtual 123, 3) := by decide +kernel
theorem dL_law_658 : decode cL_law 658 = .ok (.iload 5, 2) := by decide +kernel
theorem dL_law_660 : decode cL_law 660 = .ok (.if_icmp .eq 5, 3) := by decide +kernel
theorem dL_law_663 : decode cL_law 663 = .ok (.iconst 0, 1) := by decide +kernel
theorem dL_law_664 : decode cL_law 664 = .ok (.ireturn, 1) := by decide +kernel
theorem dL_law_665 : decode cL_law 665 = .ok (.iload 5, 2) := by decide +kernel
theorem dL_law_667 : decode cL_law 667 = .ok (.ifCond .ne 15, 3) := by decide +kernel
theorem dL_law_670 : decode cL_law 670 = .ok (.aload_n 3, 1) := by decide +kernel
theorem dL_law_671 : decode cL_law 671 = .ok (.iconst 0, 1) := by decide +kernel
theorem dL_law_672 : decode cL_law 672 = .ok (.laload, 1) := by decide +kernel
theorem dL_law_673 : decode cL_law 673 = .ok (.iload 6, 2) := by decide +kernel
theorem dL_law_675 : decode cL_law 675 = .ok (.i2l, 1) := by decide +kernel
theorem dL_law_676 : decode cL_law 676 = .ok (.lcmp, 1) := by decide +kernel
theorem dL_law_677 : decode cL_law 677 = .ok (.ifCond .eq 5, 3) := by decide +kernel
theorem dL_law_680 : decode cL_law 680 = .ok (.iconst 0, 1) := by decide +kernel
theorem dL_law_681 : decode cL_law 681 = .ok (.ireturn, 1) := by decide +kernel
theorem dL_law_682 : decode cL_law 682 = .ok (.goto 1549, 3) := by decide +kernel
theorem dL_law_685 : decode cL_law 685 = .ok (.aload_n 1, 1) := by decide +kernel
theorem dL_law_686 : decode cL_law 686 = .ok (.aload_n 0, 1) := by decide +kernel
theorem dL_law_687 : decode cL_law 687 = .ok (.iload 4, 2) := by decide +kernel
theorem dL_law_689 : decode cL_law 689 = .ok (.iconst 1, 1) := by decide +kernel
theorem dL_law_690 : decode cL_law 690 = .ok (.iadd, 1) := by decide +kernel
theorem dL_law_691 : decode cL_law 691 = .ok (.iaload, 1) := by decide +kernel
theorem dL_law_692 : decode cL_law 692 = .ok (.aload_n 0, 1) := by decide +kernel
theorem dL_law_693 : decode cL_law 693 = .ok (.iload 4, 2) := by decide +kernel
theorem dL_law_695 : decode cL_law 695 = .ok (.iconst 2, 1) := by decide +kernel
theorem dL_law_696 : decode cL_law 696 = .ok (.iadd, 1) := by decide +kernel
theorem dL_law_697 : decode cL_law 697 = .ok (.iaload, 1) := by decide +kernel
theorem dL_law_698 : decode cL_law 698 = .ok (.aload_n 0, 1) := by decide +kernel
theorem dL_law_699 : decode cL_law 699 = .ok (.iload 4, 2) := by decide +kernel
theorem dL_law_701 : decode cL_law 701 = .ok (.iconst 3, 1) := by decide +kernel
theorem dL_law_702 : decode cL_law 702 = .ok (.iadd, 1) := by decide +kernel
theorem dL_law_703 : decode cL_law 703 = .ok (.iaload, 1) := by decide +kernel
theorem dL_law_704 : decode cL_law 704 = .ok (.aload_n 0, 1) := by decide +kernel
theorem dL_law_705 : decode cL_law 705 = .ok (.iload 4, 2) := by decide +kernel
theorem dL_law_707 : decode cL_law 707 = .ok (.iconst 4, 1) := by decide +kernel
theorem dL_law_708 : decode cL_law 708 = .ok (.iadd, 1) := by decide +kernel
theorem dL_law_709 : decode cL_law 709 = .ok (.iaload, 1) := by decide +kernel
theorem dL_law_710 : decode cL_law 710 = .ok (.aload_n 3, 1) := by decide +kernel
theorem dL_law_711 : decode cL_law 711 = .ok (.invokestatic 151, 3) := by decide +kernel
theorem dL_law_714 : decode cL_law 714 = .ok (.istore 5, 2) := by decide +kernel
theorem dL_law_716 : decode cL_law 716 = .ok (.aload_n 2, 1) := by decide +kernel
theorem dL_law_717 : decode cL_law 717 = .ok (.aload_n 0, 1) := by decide +kernel
theorem dL_law_718 : decode cL_law 718 = .ok (.iload 4, 2) := by decide +kernel
theorem dL_law_720 : decode cL_law 720 = .ok (.iconst 1, 1) := by decide +kernel
theorem dL_law_721 : decode cL_law 721 = .ok (.iadd, 1) := by decide +kernel
theorem dL_law_722 : decode cL_law 722 = .ok (.iaload, 1) := by decide +kernel
theorem dL_law_723 : decode cL_law 723 = .ok (.aload_n 0, 1) := by decide +kernel
theorem dL_law_724 : decode cL_law 724 = .ok (.iload 4, 2) := by decide +kernel
theorem dL_law_726 : decode cL_law 726 = .ok (.iconst 2, 1) := by decide +kernel
theorem dL_law_727 : decode cL_law 727 = .ok (.iadd, 1) := by decide +kernel
theorem dL_law_728 : decode cL_law 728 = .ok (.iaload, 1) := by decide +kernel
theorem dL_law_729 : decode cL_law 729 = .ok (.aload_n 0, 1) := by decide +kernel
theorem dL_law_730 : decode cL_law 730 = .ok (.iload 4, 2) := by decide +kernel
theorem dL_law_732 : decode cL_law 732 = .ok (.iconst 3, 1) := by decide +kernel
theorem dL_law_733 : decode cL_law 733 = .ok (.iadd, 1) := by decide +kernel
theorem dL_law_734 : decode cL_law 734 = .ok (.iaload, 1) := by decide +kernel
theorem dL_law_735 : decode cL_law 735 = .ok (.aload_n 0, 1) := by decide +kernel
theorem dL_law_736 : decode cL_law 736 = .ok (.iload 4, 2) := by decide +kernel
theorem dL_law_738 : decode cL_law 738 = .ok (.iconst 4, 1) := by decide +kernel
theorem dL_law_739 : decode cL_law 739 = .ok (.iadd, 1) := by decide +kernel
theorem dL_law_740 : decode cL_law 740 = .ok (.iaload, 1) := by decide +kernel
theorem dL_law_741 : decode cL_law 741 = .ok (.invokevirtual 154, 3) := by decide +kernel
theorem dL_law_744 : decode cL_law 744 = .ok (.istore 6, 2) := by decide +kernel
theorem dL_law_746 : decode cL_law 746 = .ok (.aload_n 2, 1) := by decide +kernel
theorem dL_law_747 : decode cL_law 747 = .ok (.invokevirtual 123, 3) := by decide +kernel
theorem dL_law_750 : decode cL_law 750 = .ok (.iload 5, 2) := by decide +kernel
theorem dL_law_752 : decode cL_law 752 = .ok (.if_icmp .eq 5, 3) := by decide +kernel
theorem dL_law_755 : decode cL_law 755 = .ok (.iconst 0, 1) := by decide +kernel
theorem dL_law_756 : decode cL_law 756 = .ok (.ireturn, 1) := by decide +kernel
theorem dL_law_757 : decode cL_law 757 = .ok (.iload 5, 2) := by decide +kernel
theorem dL_law_759 : decode cL_law 759 = .ok (.ifCond .ne 15, 3) := by decide +kernel
theorem dL_law_762 : decode cL_law 762 = .ok (.aload_n 3, 1) := by decide +kernel
theorem dL_law_763 : decode cL_law 763 = .ok (.iconst 0, 1) := by decide +kernel
theorem dL_law_764 : decode cL_law 764 = .ok (.laload, 1) := by decide +kernel
theorem dL_law_765 : decode cL_law 765 = .ok (.iload 6, 2) := by decide +kernel
theorem dL_law_767 : decode cL_law 767 = .ok (.i2l, 1) := by decide +kernel
theorem dL_law_768 : decode cL_law 768 = .ok (.lcmp, 1) := by decide +kernel
theorem dL_law_769 : decode cL_law 769 = .ok (.ifCond .eq 5, 3) := by decide +kernel
theorem dL_law_772 : decode cL_law 772 = .ok (.iconst 0, 1) := by decide +kernel
theorem dL_law_773 : decode cL_law 773 = .ok (.ireturn, 1) := by decide +kernel
theorem dL_law_774 : decode cL_law 774 = .ok (.goto 1457, 3) := by decide +kernel
theorem dL_law_777 : decode cL_law 777 = .ok (.aload_n 1, 1) := by decide +kernel
theorem dL_law_778 : decode cL_law 778 = .ok (.aload_n 0, 1) := by decide +kernel
theorem dL_law_779 : decode cL_law 779 = .ok (.iload 4, 2) := by decide +kernel
theorem dL_law_781 : decode cL_law 781 = .ok (.iconst 1, 1) := by decide +kernel
theorem dL_law_782 : decode cL_law 782 = .ok (.iadd, 1) := by decide +kernel
theorem dL_law_783 : decode cL_law 783 = .ok (.iaload, 1) := by decide +kernel
theorem dL_law_784 : decode cL_law 784 = .ok (.aload_n 0, 1) := by decide +kernel
theorem dL_law_785 : decode cL_law 785 = .ok (.iload 4, 2) := by decide +kernel
theorem dL_law_787 : decode cL_law 787 = .ok (.iconst 2, 1) := by decide +kernel
theorem dL_law_788 : decode cL_law 788 = .ok (.iadd, 1) := by decide +kernel
theorem dL_law_789 : decode cL_law 789 = .ok (.iaload, 1) := by decide +kernel
theorem dL_law_790 : decode cL_law 790 = .ok (.aload_n 3, 1) := by decide +kernel
theorem dL_law_791 : decode cL_law 791 = .ok (.invokestatic 155, 3) := by decide +kernel
theorem dL_law_794 : decode cL_law 794 = .ok (.istore 5, 2) := by decide +kernel
theorem dL_law_796 : decode cL_law 796 = .ok (.aload_n 2, 1) := by decide +kernel
theorem dL_law_797 : decode cL_law 797 = .ok (.aload_n 0, 1) := by decide +kernel
theorem dL_law_798 : decode cL_law 798 = .ok (.iload 4, 2) := by decide +kernel
theorem dL_law_800 : decode cL_law 800 = .ok (.iconst 1, 1) := by decide +kernel
theorem dL_law_801 : decode cL_law 801 = .ok (.iadd, 1) := by decide +kernel
theorem dL_law_802 : decode cL_law 802 = .ok (.iaload, 1) := by decide +kernel
theorem dL_law_803 : decode cL_law 803 = .ok (.aload_n 0, 1) := by decide +kernel
theorem dL_law_804 : decode cL_law 804 = .ok (.iload 4, 2) := by decide +kernel
theorem dL_law_806 : decode cL_law 806 = .ok (.iconst 2, 1) := by decide +kernel
theorem dL_law_807 : decode cL_law 807 = .ok (.iadd, 1) := by decide +kernel
theorem dL_law_808 : decode cL_law 808 = .ok (.iaload, 1) := by decide +kernel
theorem dL_law_809 : decode cL_law 809 = .ok (.invokevirtual 157, 3) := by decide +kernel
theorem dL_law_812 : decode cL_law 812 = .ok (.istore 6, 2) := by decide +kernel
theorem dL_law_814 : decode cL_law 814 = .ok (.aload_n 2, 1) := by decide +kernel
theorem dL_law_815 : decode cL_law 815 = .ok (.invokevirtual 123, 3) := by decide +kernel
theorem dL_law_818 : decode cL_law 818 = .ok (.iload 5, 2) := by decide +kernel
theorem dL_law_820 : decode cL_law 820 = .ok (.if_icmp .eq 5, 3) := by decide +kernel
theorem dL_law_823 : decode cL_law 823 = .ok (.iconst 0, 1) := by decide +kernel
theorem dL_law_824 : decode cL_law 824 = .ok (.ireturn, 1) := by decide +kernel
theorem dL_law_825 : decode cL_law 825 = .ok (.iload 5, 2) := by decide +kernel
theorem dL_law_827 : decode cL_law 827 = .ok (.ifCond .ne 15, 3) := by decide +kernel
theorem dL_law_830 : decode cL_law 830 = .ok (.aload_n 3, 1) := by decide +kernel
theorem dL_law_831 : decode cL_law 831 = .ok (.iconst 0, 1) := by decide +kernel
theorem dL_law_832 : decode cL_law 832 = .ok (.laload, 1) := by decide +kernel
theorem dL_law_833 : decode cL_law 833 = .ok (.iload 6, 2) := by decide +kernel
theorem dL_law_835 : decode cL_law 835 = .ok (.i2l, 1) := by decide +kernel
theorem dL_law_836 : decode cL_law 836 = .ok (.lcmp, 1) := by decide +kernel
theorem dL_law_837 : decode cL_law 837 = .ok (.ifCond .eq 5, 3) := by decide +kernel
theorem dL_law_840 : decode cL_law 840 = .ok (.iconst 0, 1) := by decide +kernel
theorem dL_law_841 : decode cL_law 841 = .ok (.ireturn, 1) := by decide +kernel
theorem dL_law_842 : decode cL_law 842 = .ok (.goto 1389, 3) := by decide +kernel
theorem dL_law_845 : decode cL_law 845 = .ok (.aload_n 1, 1) := by decide +kernel
theorem dL_law_846 : decode cL_law 846 = .ok (.aload_n 0, 1) := by decide +kernel
theorem dL_law_847 : decode cL_law 847 = .ok (.iload 4, 2) := by decide +kernel
theorem dL_law_849 : decode cL_law 849 = .ok (.iconst 1, 1) := by decide +kernel
theorem dL_law_850 : decode cL_law 850 = .ok (.iadd, 1) := by decide +kernel
theorem dL_law_851 : decode cL_law 851 = .ok (.iaload, 1) := by decide +kernel
theorem dL_law_852 : decode cL_law 852 = .ok (.aload_n 0, 1) := by decide +kernel
theorem dL_law_853 : decode cL_law 853 = .ok (.iload 4, 2) := by decide +kernel
theorem dL_law_855 : decode cL_law 855 = .ok (.iconst 2, 1) := by decide +kernel
theorem dL_law_856 : decode cL_law 856 = .ok (.iadd, 1) := by decide +kernel
theorem dL_law_857 : decode cL_law 857 = .ok (.iaload, 1) := by decide +kernel
theorem dL_law_858 : decode cL_law 858 = .ok (.aload_n 0, 1) := by decide +kernel
theorem dL_law_859 : decode cL_law 859 = .ok (.iload 4, 2) := by decide +kernel
theorem dL_law_861 : decode cL_law 861 = .ok (.iconst 3, 1) := by decide +kernel
theorem dL_law_862 : decode cL_law 862 = .ok (.iadd, 1) := by decide +kernel
theorem dL_law_863 : decode cL_law 863 = .ok (.iaload, 1) := by decide +kernel
theorem dL_law_864 : decode cL_law 864 = .ok (.aload_n 3, 1) := by decide +kernel
theorem dL_law_865 : decode cL_law 865 = .ok (.invokestatic 158, 3) := by decide +kernel
theorem dL_law_868 : decode cL_law 868 = .ok (.istore 5, 2) := by decide +kernel
theorem dL_law_870 : decode cL_law 870 = .ok (.aload_n 2, 1) := by decide +kernel
theorem dL_law_871 : decode cL_law 871 = .ok (.aload_n 0, 1) := by decide +kernel
theorem dL_law_872 : decode cL_law 872 = .ok (.iload 4, 2) := by decide +kernel
theorem dL_law_874 : decode cL_law 874 = .ok (.iconst 1, 1) := by decide +kernel
theorem dL_law_875 : decode cL_law 875 = .ok (.iadd, 1) := by decide +kernel
theorem dL_law_876 : decode cL_law 876 = .ok (.iaload, 1) := by decide +kernel
theorem dL_law_877 : decode cL_law 877 = .ok (.aload_n 0, 1) := by decide +kernel
theorem dL_law_878 : decode cL_law 878 = .ok (.iload 4, 2) := by decide +kernel
theorem dL_law_880 : decode cL_law 880 = .ok (.iconst 2, 1) := by decide +kernel
theorem dL_law_881 : decode cL_law 881 = .ok (.iadd, 1) := by decide +kernel
theorem dL_law_882 : decode cL_law 882 = .ok (.iaload, 1) := by decide +kernel
theorem dL_law_883 : decode cL_law 883 = .ok (.aload_n 0, 1) := by decide +kernel
theorem dL_law_884 : decode cL_law 884 = .ok (.iload 4, 2) := by decide +kernel
theorem dL_law_886 : decode cL_law 886 = .ok (.iconst 3, 1) := by decide +kernel
theorem dL_law_887 : decode cL_law 887 = .ok (.iadd, 1) := by decide +kernel
theorem dL_law_888 : decode cL_law 888 = .ok (.iaload, 1) := by decide +kernel
theorem dL_law_889 : decode cL_law 889 = .ok (.invokevirtual 161, 3) := by decide +kernel
theorem dL_law_892 : decode cL_law 892 = .ok (.istore 6, 2) := by decide +kernel
theorem dL_law_894 : decode cL_law 894 = .ok (.aload_n 2, 1) := by decide +kernel
theorem dL_law_895 : decode cL_law 895 = .ok (.invokevirtual 123, 3) := by decide +kernel
theorem dL_law_898 : decode cL_law 898 = .ok (.iload 5, 2) := by decide +kernel
theorem dL_law_900 : decode cL_law 900 = .ok (.if_icmp .eq 5, 3) := by decide +kernel
theorem dL_law_903 : decode cL_law 903 = .ok (.iconst 0, 1) := by decide +kernel
theorem dL_law_904 : decode cL_law 904 = .ok (.ireturn, 1) := by decide +kernel
theorem dL_law_905 : decode cL_law 905 = .ok (.iload 5, 2) := by decide +kernel
theorem dL_law_907 : decode cL_law 907 = .ok (.ifCond .ne 15, 3) := by decide +kernel
theorem dL_law_910 : decode cL_law 910 = .ok (.aload_n 3, 1) := by decide +kernel
theorem dL_law_911 : decode cL_law 911 = .ok (.iconst 0, 1) := by decide +kernel
theorem dL_law_912 : decode cL_law 912 = .ok (.laload, 1) := by decide +kernel
theorem dL_law_913 : decode cL_law 913 = .ok (.iload 6, 2) := by decide +kernel
theorem dL_law_915 : decode cL_law 915 = .ok (.i2l, 1) := by decide +kernel
theorem dL_law_916 : decode cL_law 916 = .ok (.lcmp, 1) := by decide +kernel
theorem dL_law_917 : decode cL_law 917 = .ok (.ifCond .eq 5, 3) := by decide +kernel
theorem dL_law_920 : decode cL_law 920 = .ok (.iconst 0, 1) := by decide +kernel
theorem dL_law_921 : decode cL_law 921 = .ok (.ireturn, 1) := by decide +kernel
theorem dL_law_922 : decode cL_law 922 = .ok (.goto 1309, 3) := by decide +kernel
theorem dL_law_925 : decode cL_law 925 = .ok (.aload_n 1, 1) := by decide +kernel
theorem dL_law_926 : decode cL_law 926 = .ok (.aload_n 0, 1) := by decide +kernel
theorem dL_law_927 : decode cL_law 927 = .ok (.iload 4, 2) := by decide +kernel
theorem dL_law_929 : decode cL_law 929 = .ok (.iconst 1, 1) := by decide +kernel
theorem dL_law_930 : decode cL_law 930 = .ok (.iadd, 1) := by decide +kernel
theorem dL_law_931 : decode cL_law 931 = .ok (.iaload, 1) := by decide +kernel
theorem dL_law_932 : decode cL_law 932 = .ok (.aload_n 0, 1) := by decide +kernel
theorem dL_law_933 : decode cL_law 933 = .ok (.iload 4, 2) := by decide +kernel
theorem dL_law_935 : decode cL_law 935 = .ok (.iconst 2, 1) := by decide +kernel
theorem dL_law_936 : decode cL_law 936 = .ok (.iadd, 1) := by decide +kernel
theorem dL_law_937 : decode cL_law 937 = .ok (.iaload, 1) := by decide +kernel
theorem dL_law_938 : decode cL_law 938 = .ok (.aload_n 0, 1) := by decide +kernel
theorem dL_law_939 : decode cL_law 939 = .ok (.iload 4, 2) := by decide +kernel
theorem dL_law_941 : decode cL_law 941 = .ok (.iconst 3, 1) := by decide +kernel
theorem dL_law_942 : decode cL_law 942 = .ok (.iadd, 1) := by decide +kernel
theorem dL_law_943 : decode cL_law 943 = .ok (.iaload, 1) := by decide +kernel
theorem dL_law_944 : decode cL_law 944 = .ok (.aload_n 3, 1) := by decide +kernel
theorem dL_law_945 : decode cL_law 945 = .ok (.invokestatic 162, 3) := by decide +kernel
theorem dL_law_948 : decode cL_law 948 = .ok (.istore 5, 2) := by decide +kernel
theorem dL_law_950 : decode cL_law 950 = .ok (.aload_n 2, 1) := by decide +kernel
theorem dL_law_951 : decode cL_law 951 = .ok (.aload_n 0, 1) := by decide +kernel
theorem dL_law_952 : decode cL_law 952 = .ok (.iload 4, 2) := by decide +kernel
theorem dL_law_954 : decode cL_law 954 = .ok (.iconst 1, 1) := by decide +kernel
theorem dL_law_955 : decode cL_law 955 = .ok (.iadd, 1) := by decide +kernel
theorem dL_law_956 : decode cL_law 956 = .ok (.iaload, 1) := by decide +kernel
theorem dL_law_957 : decode cL_law 957 = .ok (.aload_n 0, 1) := by decide +kernel
theorem dL_law_958 : decode cL_law 958 = .ok (.iload 4, 2) := by decide +kernel
theorem dL_law_960 : decode cL_law 960 = .ok (.iconst 2, 1) := by decide +kernel
theorem dL_law_961 : decode cL_law 961 = .ok (.iadd, 1) := by decide +kernel
theorem dL_law_962 : decode cL_law 962 = .ok (.iaload, 1) := by decide +kernel
theorem dL_law_963 : decode cL_law 963 = .ok (.aload_n 0, 1) := by decide +kernel
theorem dL_law_964 : decode cL_law 964 = .ok (.iload 4, 2) := by decide +kernel
theorem dL_law_966 : decode cL_law 966 = .ok (.iconst 3, 1) := by decide +kernel
theorem dL_law_967 : decode cL_law 967 = .ok (.iadd, 1) := by decide +kernel
theorem dL_law_968 : decode cL_law 968 = .ok (.iaload, 1) := by decide +kernel
theorem dL_law_969 : decode cL_law 969 = .ok (.invokevirtual 164, 3) := by decide +kernel
theorem dL_law_972 : decode cL_law 972 = .ok (.istore 6, 2) := by decide +kernel
theorem dL_law_974 : decode cL_law 974 = .ok (.aload_n 2, 1) := by decide +kernel
theorem dL_law_975 : decode cL_law 975 = .ok (.invokevirtual 123, 3) := by decide +kernel
theorem dL_law_978 : decode cL_law 978 = .ok (.iload 5, 2) := by decide +kernel
theorem dL_law_980 : decode cL_law 980 = .ok (.if_icmp .eq 5, 3) := by decide +kernel
theorem dL_law_983 : decode cL_law 983 = .ok (.iconst 0, 1) := by decide +kernel
theorem dL_law_984 : decode cL_law 984 = .ok (.ireturn, 1) := by decide +kernel
theorem dL_law_985 : decode cL_law 985 = .ok (.iload 5, 2) := by decide +kernel
theorem dL_law_987 : decode cL_law 987 = .ok (.ifCond .ne 15, 3) := by decide +kernel
theorem dL_law_990 : decode cL_law 990 = .ok (.aload_n 3, 1) := by decide +kernel
theorem dL_law_991 : decode cL_law 991 = .ok (.iconst 0, 1) := by decide +kernel
theorem dL_law_992 : decode cL_law 992 = .ok (.laload, 1) := by decide +kernel
theorem dL_law_993 : decode cL_law 993 = .ok (.iload 6, 2) := by decide +kernel
theorem dL_law_995 : decode cL_law 995 = .ok (.i2l, 1) := by decide +kernel
theorem dL_law_996 : decode cL_law 996 = .ok (.lcmp, 1) := by decide +kernel
theorem dL_law_997 : decode cL_law 997 = .ok (.ifCond .eq 5, 3) := by decide +kernel
theorem dL_law_1000 : decode cL_law 1000 = .ok (.iconst 0, 1) := by decide +kernel
theorem dL_law_1001 : decode cL_law 1001 = .ok (.ireturn, 1) := by decide +kernel
theorem dL_law_1002 : decode cL_law 1002 = .ok (.goto 1229, 3) := by decide +kernel
theorem dL_law_1005 : decode cL_law 1005 = .ok (.aload_n 1, 1) := by decide +kernel
theorem dL_law_1006 : decode cL_law 1006 = .ok (.aload_n 0, 1) := by decide +kernel
theorem dL_law_1007 : decode cL_law 1007 = .ok (.iload 4, 2) := by decide +kernel
theorem dL_law_1009 : decode cL_law 1009 = .ok (.iconst 1, 1) := by decide +kernel
theorem dL_law_1010 : decode cL_law 1010 = .ok (.iadd, 1) := by decide +kernel
theorem dL_law_1011 : decode cL_law 1011 = .ok (.iaload, 1) := by decide +kernel
theorem dL_law_1012 : decode cL_law 1012 = .ok (.aload_n 3, 1) := by decide +kernel
theorem dL_law_1013 : decode cL_law 1013 = .ok (.invokestatic 165, 3) := by decide +kernel
theorem dL_law_1016 : decode cL_law 1016 = .ok (.istore 5, 2) := by decide +kernel
theorem dL_law_1018 : decode cL_law 1018 = .ok (.aload_n 2, 1) := by decide +kernel
theorem dL_law_1019 : decode cL_law 1019 = .ok (.aload_n 0, 1) := by decide +kernel
theorem dL_law_1020 : decode cL_law 1020 = .ok (.iload 4, 2) := by decide +kernel
theorem dL_law_1022 : decode cL_law 1022 = .ok (.iconst 1, 1) := by decide +kernel
theorem dL_law_1023 : decode cL_law 1023 = .ok (.iadd, 1) := by decide +kernel
theorem dL_law_1024 : decode cL_law 1024 = .ok (.iaload, 1) := by decide +kernel
theorem dL_law_1025 : decode cL_law 1025 = .ok (.invokevirtual 167, 3) := by decide +kernel
theorem dL_law_1028 : decode cL_law 1028 = .ok (.istore 6, 2) := by decide +kernel
theorem dL_law_1030 : decode cL_law 1030 = .ok (.aload_n 2, 1) := by decide +kernel
theorem dL_law_1031 : decode cL_law 1031 = .ok (.invokevirtual 123, 3) := by decide +kernel
theorem dL_law_1034 : decode cL_law 1034 = .ok (.iload 5, 2) := by decide +kernel
theorem dL_law_1036 : decode cL_law 1036 = .ok (.if_icmp .eq 5, 3) := by decide +kernel
theorem dL_law_1039 : decode cL_law 1039 = .ok (.iconst 0, 1) := by decide +kernel
theorem dL_law_1040 : decode cL_law 1040 = .ok (.ireturn, 1) := by decide +kernel
theorem dL_law_1041 : decode cL_law 1041 = .ok (.iload 5, 2) := by decide +kernel
theorem dL_law_1043 : decode cL_law 1043 = .ok (.ifCond .ne 15, 3) := by decide +kernel
theorem dL_law_1046 : decode cL_law 1046 = .ok (.aload_n 3, 1) := by decide +kernel
theorem dL_law_1047 : decode cL_law 1047 = .ok (.iconst 0, 1) := by decide +kernel
theorem dL_law_1048 : decode cL_law 1048 = .ok (.laload, 1) := by decide +kernel
theorem dL_law_1049 : decode cL_law 1049 = .ok (.iload 6, 2) := by decide +kernel
theorem dL_law_1051 : decode cL_law 1051 = .ok (.i2l, 1) := by decide +kernel
theorem dL_law_1052 : decode cL_law 1052 = .ok (.lcmp, 1) := by decide +kernel
theorem dL_law_1053 : decode cL_law 1053 = .ok (.ifCond .eq 5, 3) := by decide +kernel
theorem dL_law_1056 : decode cL_law 1056 = .ok (.iconst 0, 1) := by decide +kernel
theorem dL_law_1057 : decode cL_law 1057 = .ok (.ireturn, 1) := by decide +kernel
theorem dL_law_1058 : decode cL_law 1058 = .ok (.goto 1173, 3) := by decide +kernel
theorem dL_law_1061 : decode cL_law 1061 = .ok (.aload_n 1, 1) := by decide +kernel
theorem dL_law_1062 : decode cL_law 1062 = .ok (.aload_n 0, 1) := by decide +kernel
theorem dL_law_1063 : decode cL_law 1063 = .ok (.iload 4, 2) := by decide +kernel
theorem dL_law_1065 : decode cL_law 1065 = .ok (.iconst 1, 1) := by decide +kernel
theorem dL_law_1066 : decode cL_law 1066 = .ok (.iadd, 1) := by decide +kernel
theorem dL_law_1067 : decode cL_law 1067 = .ok (.iaload, 1) := by decide +kernel
theorem dL_law_1068 : decode cL_law 1068 = .ok (.aload_n 0, 1) := by decide +kernel
theorem dL_law_1069 : decode cL_law 1069 = .ok (.iload 4, 2) := by decide +kernel
theorem dL_law_1071 : decode cL_law 1071 = .ok (.iconst 2, 1) := by decide +kernel
theorem dL_law_1072 : decode cL_law 1072 = .ok (.iadd, 1) := by decide +kernel
theorem dL_law_1073 : decode cL_law 1073 = .ok (.iaload, 1) := by decide +kernel
theorem dL_law_1074 : decode cL_law 1074 = .ok (.aload_n 3, 1) := by decide +kernel
theorem dL_law_1075 : decode cL_law 1075 = .ok (.invokestatic 168, 3) := by decide +kernel
theorem dL_law_1078 : decode cL_law 1078 = .ok (.istore 5, 2) := by decide +kernel
theorem dL_law_1080 : decode cL_law 1080 = .ok (.aload_n 2, 1) := by decide +kernel
theorem dL_law_1081 : decode cL_law 1081 = .ok (.aload_n 0, 1) := by decide +kernel
theorem dL_law_1082 : decode cL_law 1082 = .ok (.iload 4, 2) := by decide +kernel
theorem dL_law_1084 : decode cL_law 1084 = .ok (.iconst 1, 1) := by decide +kernel
theorem dL_law_1085 : decode cL_law 1085 = .ok (.iadd, 1) := by decide +kernel
theorem dL_law_1086 : decode cL_law 1086 = .ok (.iaload, 1) := by decide +kernel
theorem dL_law_1087 : decode cL_law 1087 = .ok (.aload_n 0, 1) := by decide +kernel
theorem dL_law_1088 : decode cL_law 1088 = .ok (.iload 4, 2) := by decide +kernel
theorem dL_law_1090 : decode cL_law 1090 = .ok (.iconst 2, 1) := by decide +kernel
theorem dL_law_1091 : decode cL_law 1091 = .ok (.iadd, 1) := by decide +kernel
theorem dL_law_1092 : decode cL_law 1092 = .ok (.iaload, 1) := by decide +kernel
theorem dL_law_1093 : decode cL_law 1093 = .ok (.invokevirtual 170, 3) := by decide +kernel
theorem dL_law_1096 : decode cL_law 1096 = .ok (.istore 6, 2) := by decide +kernel
theorem dL_law_1098 : decode cL_law 1098 = .ok (.aload_n 2, 1) := by decide +kernel
theorem dL_law_1099 : decode cL_law 1099 = .ok (.invokevirtual 123, 3) := by decide +kernel
theorem dL_law_1102 : decode cL_law 1102 = .ok (.iload 5, 2) := by decide +kernel
theorem dL_law_1104 : decode cL_law 1104 = .ok (.if_icmp .eq 5, 3) := by decide +kernel
theorem dL_law_1107 : decode cL_law 1107 = .ok (.iconst 0, 1) := by decide +kernel
theorem dL_law_1108 : decode cL_law 1108 = .ok (.ireturn, 1) := by decide +kernel
theorem dL_law_1109 : decode cL_law 1109 = .ok (.iload 5, 2) := by decide +kernel
theorem dL_law_1111 : decode cL_law 1111 = .ok (.ifCond .ne 15, 3) := by decide +kernel
theorem dL_law_1114 : decode cL_law 1114 = .ok (.aload_n 3, 1) := by decide +kernel
theorem dL_law_1115 : decode cL_law 1115 = .ok (.iconst 0, 1) := by decide +kernel
theorem dL_law_1116 : decode cL_law 1116 = .ok (.laload, 1) := by decide +kernel
theorem dL_law_1117 : decode cL_law 1117 = .ok (.iload 6, 2) := by decide +kernel
theorem dL_law_1119 : decode cL_law 1119 = .ok (.i2l, 1) := by decide +kernel
theorem dL_law_1120 : decode cL_law 1120 = .ok (.lcmp, 1) := by decide +kernel
theorem dL_law_1121 : decode cL_law 1121 = .ok (.ifCond .eq 5, 3) := by decide +kernel
theorem dL_law_1124 : decode cL_law 1124 = .ok (.iconst 0, 1) := by decide +kernel
theorem dL_law_1125 : decode cL_law 1125 = .ok (.ireturn, 1) := by decide +kernel
theorem dL_law_1126 : decode cL_law 1126 = .ok (.goto 1105, 3) := by decide +kernel
theorem dL_law_1129 : decode cL_law 1129 = .ok (.aload_n 1, 1) := by decide +kernel
theorem dL_law_1130 : decode cL_law 1130 = .ok (.aload_n 0, 1) := by decide +kernel
theorem dL_law_1131 : decode cL_law 1131 = .ok (.iload 4, 2) := by decide +kernel
theorem dL_law_1133 : decode cL_law 1133 = .ok (.iconst 1, 1) := by decide +kernel
theorem dL_law_1134 : decode cL_law 1134 = .ok (.iadd, 1) := by decide +kernel
theorem dL_law_1135 : decode cL_law 1135 = .ok (.iaload, 1) := by decide +kernel
theorem dL_law_1136 : decode cL_law 1136 = .ok (.aload_n 0, 1) := by decide +kernel
theorem dL_law_1137 : decode cL_law 1137 = .ok (.iload 4, 2) := by decide +kernel
theorem dL_law_1139 : decode cL_law 1139 = .ok (.iconst 2, 1) := by decide +kernel
theorem dL_law_1140 : decode cL_law 1140 = .ok (.iadd, 1) := by decide +kernel
theorem dL_law_1141 : decode cL_law 1141 = .ok (.iaload, 1) := by decide +kernel
theorem dL_law_1142 : decode cL_law 1142 = .ok (.aload_n 0, 1) := by decide +kernel
theorem dL_law_1143 : decode cL_law 1143 = .ok (.iload 4, 2) := by decide +kernel
theorem dL_law_1145 : decode cL_law 1145 = .ok (.iconst 3, 1) := by decide +kernel
theorem dL_law_1146 : decode cL_law 1146 = .ok (.iadd, 1) := by decide +kernel
theorem dL_law_1147 : decode cL_law 1147 = .ok (.iaload, 1) := by decide +kernel
theorem dL_law_1148 : decode cL_law 1148 = .ok (.aload_n 0, 1) := by decide +kernel
theorem dL_law_1149 : decode cL_law 1149 = .ok (.iload 4, 2) := by decide +kernel
theorem dL_law_1151 : decode cL_law 1151 = .ok (.iconst 4, 1) := by decide +kernel
theorem dL_law_1152 : decode cL_law 1152 = .ok (.iadd, 1) := by decide +kernel
theorem dL_law_1153 : decode cL_law 1153 = .ok (.iaload, 1) := by decide +kernel
theorem dL_law_1154 : decode cL_law 1154 = .ok (.ifCond .eq 7, 3) := by decide +kernel
theorem dL_law_1157 : decode cL_law 1157 = .ok (.iconst 1, 1) := by decide +kernel
theorem dL_law_1158 : decode cL_law 1158 = .ok (.goto 4, 3) := by decide +kernel
theorem dL_law_1161 : decode cL_law 1161 = .ok (.iconst 0, 1) := by decide +kernel
theorem dL_law_1162 : decode cL_law 1162 = .ok (.aload_n 0, 1) := by decide +kernel
theorem dL_law_1163 : decode cL_law 1163 = .ok (.iload 4, 2) := by decide +kernel
theorem dL_law_1165 : decode cL_law 1165 = .ok (.iconst 5, 1) := by decide +kernel
theorem dL_law_1166 : decode cL_law 1166 = .ok (.iadd, 1) := by decide +kernel
theorem dL_law_1167 : decode cL_law 1167 = .ok (.iaload, 1) := by decide +kernel
theorem dL_law_1168 : decode cL_law 1168 = .ok (.aload_n 3, 1) := by decide +kernel
theorem dL_law_1169 : decode cL_law 1169 = .ok (.invokestatic 171, 3) := by decide +kernel
theorem dL_law_1172 : decode cL_law 1172 = .ok (.istore 5, 2) := by decide +kernel
theorem dL_law_1174 : decode cL_law 1174 = .ok (.aload_n 2, 1) := by decide +kernel
theorem dL_law_1175 : decode cL_law 1175 = .ok (.aload_n 0, 1) := by decide +kernel
theorem dL_law_1176 : decode cL_law 1176 = .ok (.iload 4, 2) := by decide +kernel
theorem dL_law_1178 : decode cL_law 1178 = .ok (.iconst 1, 1) := by decide +kernel
theorem dL_law_1179 : decode cL_law 1179 = .ok (.iadd, 1) := by decide +kernel
theorem dL_law_1180 : decode cL_law 1180 = .ok (.iaload, 1) := by decide +kernel
theorem dL_law_1181 : decode cL_law 1181 = .ok (.aload_n 0, 1) := by decide +kernel
theorem dL_law_1182 : decode cL_law 1182 = .ok (.iload 4, 2) := by decide +kernel
theorem dL_law_1184 : decode cL_law 1184 = .ok (.iconst 2, 1) := by decide +kernel
theorem dL_law_1185 : decode cL_law 1185 = .ok (.iadd, 1) := by decide +kernel
theorem dL_law_1186 : decode cL_law 1186 = .ok (.iaload, 1) := by decide +kernel
theorem dL_law_1187 : decode cL_law 1187 = .ok (.aload_n 0, 1) := by decide +kernel
theorem dL_law_1188 : decode cL_law 1188 = .ok (.iload 4, 2) := by decide +kernel
theorem dL_law_1190 : decode cL_law 1190 = .ok (.iconst 3, 1) := by decide +kernel
theorem dL_law_1191 : decode cL_law 1191 = .ok (.iadd, 1) := by decide +kernel
theorem dL_law_1192 : decode cL_law 1192 = .ok (.iaload, 1) := by decide +kernel
theorem dL_law_1193 : decode cL_law 1193 = .ok (.aload_n 0, 1) := by decide +kernel
theorem dL_law_1194 : decode cL_law 1194 = .ok (.iload 4, 2) := by decide +kernel
theorem dL_law_1196 : decode cL_law 1196 = .ok (.iconst 4, 1) := by decide +kernel
theorem dL_law_1197 : decode cL_law 1197 = .ok (.iadd, 1) := by decide +kernel
theorem dL_law_1198 : decode cL_law 1198 = .ok (.iaload, 1) := by decide +kernel
theorem dL_law_1199 : decode cL_law 1199 = .ok (.ifCond .eq 7, 3) := by decide +kernel
theorem dL_law_1202 : decode cL_law 1202 = .ok (.iconst 1, 1) := by decide +kernel
theorem dL_law_1203 : decode cL_law 1203 = .ok (.goto 4, 3) := by decide +kernel
theorem dL_law_1206 : decode cL_law 1206 = .ok (.iconst 0, 1) := by decide +kernel
theorem dL_law_1207 : decode cL_law 1207 = .ok (.aload_n 0, 1) := by decide +kernel
theorem dL_law_1208 : decode cL_law 1208 = .ok (.iload 4, 2) := by decide +kernel
theorem dL_law_1210 : decode cL_law 1210 = .ok (.iconst 5, 1) := by decide +kernel
theorem dL_law_1211 : decode cL_law 1211 = .ok (.iadd, 1) := by decide +kernel
theorem dL_law_1212 : decode cL_law 1212 = .ok (.iaload, 1) := by decide +kernel
theorem dL_law_1213 : decode cL_law 1213 = .ok (.invokevirtual 174, 3) := by decide +kernel
theorem dL_law_1216 : decode cL_law 1216 = .ok (.istore 6, 2) := by decide +kernel
theorem dL_law_1218 : decode cL_law 1218 = .ok (.aload_n 2, 1) := by decide +kernel
theorem dL_law_1219 : decode cL_law 1219 = .ok (.invokevirtual 123, 3) := by decide +kernel
theorem dL_law_1222 : decode cL_law 1222 = .ok (.iload 5, 2) := by decide +kernel
theorem dL_law_1224 : decode cL_law 1224 = .ok (.if_icmp .eq 5, 3) := by decide +kernel
theorem dL_law_1227 : decode cL_law 1227 = .ok (.iconst 0, 1) := by decide +kernel
theorem dL_law_1228 : decode cL_law 1228 = .ok (.ireturn, 1) := by decide +kernel
theorem dL_law_1229 : decode cL_law 1229 = .ok (.iload 5, 2) := by decide +kernel
theorem dL_law_1231 : decode cL_law 1231 = .ok (.ifCond .ne 15, 3) := by decide +kernel
theorem dL_law_1234 : decode cL_law 1234 = .ok (.aload_n 3, 1) := by decide +kernel
theorem dL_law_1235 : decode cL_law 1235 = .ok (.iconst 0, 1) := by decide +kernel
theorem dL_law_1236 : decode cL_law 1236 = .ok (.laload, 1) := by decide +kernel
theorem dL_law_1237 : decode cL_law 1237 = .ok (.iload 6, 2) := by decide +kernel
theorem dL_law_1239 : decode cL_law 1239 = .ok (.i2l, 1) := by decide +kernel
theorem dL_law_1240 : decode cL_law 1240 = .ok (.lcmp, 1) := by decide +kernel
theorem dL_law_1241 : decode cL_law 1241 = .ok (.ifCond .eq 5, 3) := by decide +kernel
theorem dL_law_1244 : decode cL_law 1244 = .ok (.iconst 0, 1) := by decide +kernel
theorem dL_law_1245 : decode cL_law 1245 = .ok (.ireturn, 1) := by decide +kernel
theorem dL_law_1246 : decode cL_law 1246 = .ok (.goto 985, 3) := by decide +kernel
theorem dL_law_1249 : decode cL_law 1249 = .ok (.aload_n 1, 1) := by decide +kernel
theorem dL_law_1250 : decode cL_law 1250 = .ok (.aload_n 0, 1) := by decide +kernel
theorem dL_law_1251 : decode cL_law 1251 = .ok (.iload 4, 2) := by decide +kernel
theorem dL_law_1253 : decode cL_law 1253 = .ok (.iconst 1, 1) := by decide +kernel
theorem dL_law_1254 : decode cL_law 1254 = .ok (.iadd, 1) := by decide +kernel
theorem dL_law_1255 : decode cL_law 1255 = .ok (.iaload, 1) := by decide +kernel
theorem dL_law_1256 : decode cL_law 1256 = .ok (.aload_n 0, 1) := by decide +kernel
theorem dL_law_1257 : decode cL_law 1257 = .ok (.iload 4, 2) := by decide +kernel
theorem dL_law_1259 : decode cL_law 1259 = .ok (.iconst 2, 1) := by decide +kernel
theorem dL_law_1260 : decode cL_law 1260 = .ok (.iadd, 1) := by decide +kernel
theorem dL_law_1261 : decode cL_law 1261 = .ok (.iaload, 1) := by decide +kernel
theorem dL_law_1262 : decode cL_law 1262 = .ok (.aload_n 3, 1) := by decide +kernel
theorem dL_law_1263 : decode cL_law 1263 = .ok (.invokestatic 175, 3) := by decide +kernel
theorem dL_law_1266 : decode cL_law 1266 = .ok (.istore 5, 2) := by decide +kernel
theorem dL_law_1268 : decode cL_law 1268 = .ok (.aload_n 2, 1) := by decide +kernel
theorem dL_law_1269 : decode cL_law 1269 = .ok (.aload_n 0, 1) := by decide +kernel
theorem dL_law_1270 : decode cL_law 1270 = .ok (.iload 4, 2) := by decide +kernel
theorem dL_law_1272 : decode cL_law 1272 = .ok (.iconst 1, 1) := by decide +kernel
theorem dL_law_1273 : decode cL_law 1273 = .ok (.iadd, 1) := by decide +kernel
theorem dL_law_1274 : decode cL_law 1274 = .ok (.iaload, 1) := by decide +kernel
theorem dL_law_1275 : decode cL_law 1275 = .ok (.aload_n 0, 1) := by decide +kernel
theorem dL_law_1276 : decode cL_law 1276 = .ok (.iload 4, 2) := by decide +kernel
theorem dL_law_1278 : decode cL_law 1278 = .ok (.iconst 2, 1) := by decide +kernel
theorem dL_law_1279 : decode cL_law 1279 = .ok (.iadd, 1) := by decide +kernel
theorem dL_law_1280 : decode cL_law 1280 = .ok (.iaload, 1) := by decide +kernel
theorem dL_law_1281 : decode cL_law 1281 = .ok (.invokevirtual 177, 3) := by decide +kernel
theorem dL_law_1284 : decode cL_law 1284 = .ok (.istore 6, 2) := by decide +kernel
theorem dL_law_1286 : decode cL_law 1286 = .ok (.aload_n 2, 1) := by decide +kernel
theorem dL_law_1287 : decode cL_law 1287 = .ok (.invokevirtual 123, 3) := by decide +kernel
theorem dL_law_1290 : decode cL_law 1290 = .ok (.iload 5, 2) := by decide +kernel
theorem dL_law_1292 : decode cL_law 1292 = .ok (.if_icmp .eq 5, 3) := by decide +kernel
theorem dL_law_1295 : decode cL_law 1295 = .ok (.iconst 0, 1) := by decide +kernel
theorem dL_law_1296 : decode cL_law 1296 = .ok (.ireturn, 1) := by decide +kernel
theorem dL_law_1297 : decode cL_law 1297 = .ok (.iload 5, 2) := by decide +kernel
theorem dL_law_1299 : decode cL_law 1299 = .ok (.ifCond .ne 15, 3) := by decide +kernel
theorem dL_law_1302 : decode cL_law 1302 = .ok (.aload_n 3, 1) := by decide +kernel
theorem dL_law_1303 : decode cL_law 1303 = .ok (.iconst 0, 1) := by decide +kernel
theorem dL_law_1304 : decode cL_law 1304 = .ok (.laload, 1) := by decide +kernel
theorem dL_law_1305 : decode cL_law 1305 = .ok (.iload 6, 2) := by decide +kernel
theorem dL_law_1307 : decode cL_law 1307 = .ok (.i2l, 1) := by decide +kernel
theorem dL_law_1308 : decode cL_law 1308 = .ok (.lcmp, 1) := by decide +kernel
theorem dL_law_1309 : decode cL_law 1309 = .ok (.ifCond .eq 5, 3) := by decide +kernel
theorem dL_law_1312 : decode cL_law 1312 = .ok (.iconst 0, 1) := by decide +kernel
theorem dL_law_1313 : decode cL_law 1313 = .ok (.ireturn, 1) := by decide +kernel
theorem dL_law_1314 : decode cL_law 1314 = .ok (.goto 917, 3) := by decide +kernel
theorem dL_law_1317 : decode cL_law 1317 = .ok (.aload_n 1, 1) := by decide +kernel
theorem dL_law_1318 : decode cL_law 1318 = .ok (.aload_n 0, 1) := by decide +kernel
theorem dL_law_1319 : decode cL_law 1319 = .ok (.iload 4, 2) := by decide +kernel
theorem dL_law_1321 : decode cL_law 1321 = .ok (.iconst 1, 1) := by decide +kernel
theorem dL_law_1322 : decode cL_law 1322 = .ok (.iadd, 1) := by decide +kernel
theorem dL_law_1323 : decode cL_law 1323 = .ok (.iaload, 1) := by decide +kernel
theorem dL_law_1324 : decode cL_law 1324 = .ok (.aload_n 0, 1) := by decide +kernel
theorem dL_law_1325 : decode cL_law 1325 = .ok (.iload 4, 2) := by decide +kernel
theorem dL_law_1327 : decode cL_law 1327 = .ok (.iconst 2, 1) := by decide +kernel
theorem dL_law_1328 : decode cL_law 1328 = .ok (.iadd, 1) := by decide +kernel
theorem dL_law_1329 : decode cL_law 1329 = .ok (.iaload, 1) := by decide +kernel
theorem dL_law_1330 : decode cL_law 1330 = .ok (.aload_n 0, 1) := by decide +kernel
theorem dL_law_1331 : decode cL_law 1331 = .ok (.iload 4, 2) := by decide +kernel
theorem dL_law_1333 : decode cL_law 1333 = .ok (.iconst 3, 1) := by decide +kernel
theorem dL_law_1334 : decode cL_law 1334 = .ok (.iadd, 1) := by decide +kernel
theorem dL_law_1335 : decode cL_law 1335 = .ok (.iaload, 1) := by decide +kernel
theorem dL_law_1336 : decode cL_law 1336 = .ok (.aload_n 3, 1) := by decide +kernel
theorem dL_law_1337 : decode cL_law 1337 = .ok (.invokestatic 178, 3) := by decide +kernel
theorem dL_law_1340 : decode cL_law 1340 = .ok (.istore 5, 2) := by decide +kernel
theorem dL_law_1342 : decode cL_law 1342 = .ok (.aload_n 2, 1) := by decide +kernel
theorem dL_law_1343 : decode cL_law 1343 = .ok (.aload_n 0, 1) := by decide +kernel
theorem dL_law_1344 : decode cL_law 1344 = .ok (.iload 4, 2) := by decide +kernel
theorem dL_law_1346 : decode cL_law 1346 = .ok (.iconst 1, 1) := by decide +kernel
theorem dL_law_1347 : decode cL_law 1347 = .ok (.iadd, 1) := by decide +kernel
theorem dL_law_1348 : decode cL_law 1348 = .ok (.iaload, 1) := by decide +kernel
theorem dL_law_1349 : decode cL_law 1349 = .ok (.aload_n 0, 1) := by decide +kernel
theorem dL_law_1350 : decode cL_law 1350 = .ok (.iload 4, 2) := by decide +kernel
theorem dL_law_1352 : decode cL_law 1352 = .ok (.iconst 2, 1) := by decide +kernel
theorem dL_law_1353 : decode cL_law 1353 = .ok (.iadd, 1) := by decide +kernel
theorem dL_law_1354 : decode cL_law 1354 = .ok (.iaload, 1) := by decide +kernel
theorem dL_law_1355 : decode cL_law 1355 = .ok (.aload_n 0, 1) := by decide +kernel
theorem dL_law_1356 : decode cL_law 1356 = .ok (.iload 4, 2) := by decide +kernel
theorem dL_law_1358 : decode cL_law 1358 = .ok (.iconst 3, 1) := by decide +kernel
theorem dL_law_1359 : decode cL_law 1359 = .ok (.iadd, 1) := by decide +kernel
theorem dL_law_1360 : decode cL_law 1360 = .ok (.iaload, 1) := by decide +kernel
theorem dL_law_1361 : decode cL_law 1361 = .ok (.invokevirtual 180, 3) := by decide +kernel
theorem dL_law_1364 : decode cL_law 1364 = .ok (.istore 6, 2) := by decide +kernel
theorem dL_law_1366 : decode cL_law 1366 = .ok (.aload_n 2, 1) := by decide +kernel
theorem dL_law_1367 : decode cL_law 1367 = .ok (.invokevirtual 123, 3) := by decide +kernel
theorem dL_law_1370 : decode cL_law 1370 = .ok (.iload 5, 2) := by decide +kernel
theorem dL_law_1372 : decode cL_law 1372 = .ok (.if_icmp .eq 5, 3) := by decide +kernel
theorem dL_law_1375 : decode cL_law 1375 = .ok (.iconst 0, 1) := by decide +kernel
theorem dL_law_1376 : decode cL_law 1376 = .ok (.ireturn, 1) := by decide +kernel
theorem dL_law_1377 : decode cL_law 1377 = .ok (.iload 5, 2) := by decide +kernel
theorem dL_law_1379 : decode cL_law 1379 = .ok (.ifCond .ne 15, 3) := by decide +kernel
theorem dL_law_1382 : decode cL_law 1382 = .ok (.aload_n 3, 1) := by decide +kernel
theorem dL_law_1383 : decode cL_law 1383 = .ok (.iconst 0, 1) := by decide +kernel
theorem dL_law_1384 : decode cL_law 1384 = .ok (.laload, 1) := by decide +kernel
theorem dL_law_1385 : decode cL_law 1385 = .ok (.iload 6, 2) := by decide +kernel
theorem dL_law_1387 : decode cL_law 1387 = .ok (.i2l, 1) := by decide +kernel
theorem dL_law_1388 : decode cL_law 1388 = .ok (.lcmp, 1) := by decide +kernel
theorem dL_law_1389 : decode cL_law 1389 = .ok (.ifCond .eq 5, 3) := by decide +kernel
theorem dL_law_1392 : decode cL_law 1392 = .ok (.iconst 0, 1) := by decide +kernel
theorem dL_law_1393 : decode cL_law 1393 = .ok (.ireturn, 1) := by decide +kernel
theorem dL_law_1394 : decode cL_law 1394 = .ok (.goto 837, 3) := by decide +kernel
theorem dL_law_1397 : decode cL_law 1397 = .ok (.aload_n 1, 1) := by decide +kernel
theorem dL_law_1398 : decode cL_law 1398 = .ok (.aload_n 0, 1) := by decide +kernel
theorem dL_law_1399 : decode cL_law 1399 = .ok (.iload 4, 2) := by decide +kernel
theorem dL_law_1401 : decode cL_law 1401 = .ok (.iconst 1, 1) := by decide +kernel
theorem dL_law_1402 : decode cL_law 1402 = .ok (.iadd, 1) := by decide +kernel
theorem dL_law_1403 : decode cL_law 1403 = .ok (.iaload, 1) := by decide +kernel
theorem dL_law_1404 : decode cL_law 1404 = .ok (.aload_n 3, 1) := by decide +kernel
theorem dL_law_1405 : decode cL_law 1405 = .ok (.invokestatic 181, 3) := by decide +kernel
theorem dL_law_1408 : decode cL_law 1408 = .ok (.istore 5, 2) := by decide +kernel
theorem dL_law_1410 : decode cL_law 1410 = .ok (.aload_n 2, 1) := by decide +kernel
theorem dL_law_1411 : decode cL_law 1411 = .ok (.aload_n 0, 1) := by decide +kernel
theorem dL_law_1412 : decode cL_law 1412 = .ok (.iload 4, 2) := by decide +kernel
theorem dL_law_1414 : decode cL_law 1414 = .ok (.iconst 1, 1) := by decide +kernel
theorem dL_law_1415 : decode cL_law 1415 = .ok (.iadd, 1) := by decide +kernel
theorem dL_law_1416 : decode cL_law 1416 = .ok (.iaload, 1) := by decide +kernel
theorem dL_law_1417 : decode cL_law 1417 = .ok (.invokevirtual 183, 3) := by decide +kernel
theorem dL_law_1420 : decode cL_law 1420 = .ok (.istore 6, 2) := by decide +kernel
theorem dL_law_1422 : decode cL_law 1422 = .ok (.aload_n 2, 1) := by decide +kernel
theorem dL_law_1423 : decode cL_law 1423 = .ok (.invokevirtual 123, 3) := by decide +kernel
theorem dL_law_1426 : decode cL_law 1426 = .ok (.iload 5, 2) := by decide +kernel
theorem dL_law_1428 : decode cL_law 1428 = .ok (.if_icmp .eq 5, 3) := by decide +kernel
theorem dL_law_1431 : decode cL_law 1431 = .ok (.iconst 0, 1) := by decide +kernel
theorem dL_law_1432 : decode cL_law 1432 = .ok (.ireturn, 1) := by decide +kernel
theorem dL_law_1433 : decode cL_law 1433 = .ok (.iload 5, 2) := by decide +kernel
theorem dL_law_1435 : decode cL_law 1435 = .ok (.ifCond .ne 15, 3) := by decide +kernel
theorem dL_law_1438 : decode cL_law 1438 = .ok (.aload_n 3, 1) := by decide +kernel
theorem dL_law_1439 : decode cL_law 1439 = .ok (.iconst 0, 1) := by decide +kernel
theorem dL_law_1440 : decode cL_law 1440 = .ok (.laload, 1) := by decide +kernel
theorem dL_law_1441 : decode cL_law 1441 = .ok (.iload 6, 2) := by decide +kernel
theorem dL_law_1443 : decode cL_law 1443 = .ok (.i2l, 1) := by decide +kernel
theorem dL_law_1444 : decode cL_law 1444 = .ok (.lcmp, 1) := by decide +kernel
theorem dL_law_1445 : decode cL_law 1445 = .ok (.ifCond .eq 5, 3) := by decide +kernel
theorem dL_law_1448 : decode cL_law 1448 = .ok (.iconst 0, 1) := by decide +kernel
theorem dL_law_1449 : decode cL_law 1449 = .ok (.ireturn, 1) := by decide +kernel
theorem dL_law_1450 : decode cL_law 1450 = .ok (.goto 781, 3) := by decide +kernel
theorem dL_law_1453 : decode cL_law 1453 = .ok (.aload_n 1, 1) := by decide +kernel
theorem dL_law_1454 : decode cL_law 1454 = .ok (.aload_n 0, 1) := by decide +kernel
theorem dL_law_1455 : decode cL_law 1455 = .ok (.iload 4, 2) := by decide +kernel
theorem dL_law_1457 : decode cL_law 1457 = .ok (.iconst 1, 1) := by decide +kernel
theorem dL_law_1458 : decode cL_law 1458 = .ok (.iadd, 1) := by decide +kernel
theorem dL_law_1459 : decode cL_law 1459 = .ok (.iaload, 1) := by decide +kernel
theorem dL_law_1460 : decode cL_law 1460 = .ok (.aload_n 3, 1) := by decide +kernel
theorem dL_law_1461 : decode cL_law 1461 = .ok (.invokestatic 184, 3) := by decide +kernel
theorem dL_law_1464 : decode cL_law 1464 = .ok (.istore 5, 2) := by decide +kernel
theorem dL_law_1466 : decode cL_law 1466 = .ok (.aload_n 2, 1) := by decide +kernel
theorem dL_law_1467 : decode cL_law 1467 = .ok (.aload_n 0, 1) := by decide +kernel
theorem dL_law_1468 : decode cL_law 1468 = .ok (.iload 4, 2) := by decide +kernel
theorem dL_law_1470 : decode cL_law 1470 = .ok (.iconst 1, 1) := by decide +kernel
theorem dL_law_1471 : decode cL_law 1471 = .ok (.iadd, 1) := by decide +kernel
theorem dL_law_1472 : decode cL_law 1472 = .ok (.iaload, 1) := by decide +kernel
theorem dL_law_1473 : decode cL_law 1473 = .ok (.invokevirtual 186, 3) := by decide +kernel
theorem dL_law_1476 : decode cL_law 1476 = .ok (.istore 6, 2) := by decide +kernel
theorem dL_law_1478 : decode cL_law 1478 = .ok (.aload_n 2, 1) := by decide +kernel
theorem dL_law_1479 : decode cL_law 1479 = .ok (.invokevirtual 123, 3) := by decide +kernel
theorem dL_law_1482 : decode cL_law 1482 = .ok (.iload 5, 2) := by decide +kernel
theorem dL_law_1484 : decode cL_law 1484 = .ok (.if_icmp .eq 5, 3) := by decide +kernel
theorem dL_law_1487 : decode cL_law 1487 = .ok (.iconst 0, 1) := by decide +kernel
theorem dL_law_1488 : decode cL_law 1488 = .ok (.ireturn, 1) := by decide +kernel
theorem dL_law_1489 : decode cL_law 1489 = .ok (.iload 5, 2) := by decide +kernel
theorem dL_law_1491 : decode cL_law 1491 = .ok (.ifCond .ne 15, 3) := by decide +kernel
theorem dL_law_1494 : decode cL_law 1494 = .ok (.aload_n 3, 1) := by decide +kernel
theorem dL_law_1495 : decode cL_law 1495 = .ok (.iconst 0, 1) := by decide +kernel
theorem dL_law_1496 : decode cL_law 1496 = .ok (.laload, 1) := by decide +kernel
theorem dL_law_1497 : decode cL_law 1497 = .ok (.iload 6, 2) := by decide +kernel
theorem dL_law_1499 : decode cL_law 1499 = .ok (.i2l, 1) := by decide +kernel
theorem dL_law_1500 : decode cL_law 1500 = .ok (.lcmp, 1) := by decide +kernel
theorem dL_law_1501 : decode cL_law 1501 = .ok (.ifCond .eq 5, 3) := by decide +kernel
theorem dL_law_1504 : decode cL_law 1504 = .ok (.iconst 0, 1) := by decide +kernel
theorem dL_law_1505 : decode cL_law 1505 = .ok (.ireturn, 1) := by decide +kernel
theorem dL_law_1506 : decode cL_law 1506 = .ok (.goto 725, 3) := by decide +kernel
theorem dL_law_1509 : decode cL_law 1509 = .ok (.aload_n 1, 1) := by decide +kernel
theorem dL_law_1510 : decode cL_law 1510 = .ok (.aload_n 0, 1) := by decide +kernel
theorem dL_law_1511 : decode cL_law 1511 = .ok (.iload 4, 2) := by decide +kernel
theorem dL_law_1513 : decode cL_law 1513 = .ok (.iconst 1, 1) := by decide +kernel
theorem dL_law_1514 : decode cL_law 1514 = .ok (.iadd, 1) := by decide +kernel
theorem dL_law_1515 : decode cL_law 1515 = .ok (.iaload, 1) := by decide +kernel
theorem dL_law_1516 : decode cL_law 1516 = .ok (.aload_n 3, 1) := by decide +kernel
theorem dL_law_1517 : decode cL_law 1517 = .ok (.invokestatic 187, 3) := by decide +kernel
theorem dL_law_1520 : decode cL_law 1520 = .ok (.istore 5, 2) := by decide +kernel
theorem dL_law_1522 : decode cL_law 1522 = .ok (.aload_n 2, 1) := by decide +kernel
theorem dL_law_1523 : decode cL_law 1523 = .ok (.aload_n 0, 1) := by decide +kernel
theorem dL_law_1524 : decode cL_law 1524 = .ok (.iload 4, 2) := by decide +kernel
theorem dL_law_1526 : decode cL_law 1526 = .ok (.iconst 1, 1) := by decide +kernel
theorem dL_law_1527 : decode cL_law 1527 = .ok (.iadd, 1) := by decide +kernel
theorem dL_law_1528 : decode cL_law 1528 = .ok (.iaload, 1) := by decide +kernel
theorem dL_law_1529 : decode cL_law 1529 = .ok (.invokevirtual 189, 3) := by decide +kernel
theorem dL_law_1532 : decode cL_law 1532 = .ok (.istore 6, 2) := by decide +kernel
theorem dL_law_1534 : decode cL_law 1534 = .ok (.aload_n 2, 1) := by decide +kernel
theorem dL_law_1535 : decode cL_law 1535 = .ok (.invokevirtual 123, 3) := by decide +kernel
theorem dL_law_1538 : decode cL_law 1538 = .ok (.iload 5, 2) := by decide +kernel
theorem dL_law_1540 : decode cL_law 1540 = .ok (.if_icmp .eq 5, 3) := by decide +kernel
theorem dL_law_1543 : decode cL_law 1543 = .ok (.iconst 0, 1) := by decide +kernel
theorem dL_law_1544 : decode cL_law 1544 = .ok (.ireturn, 1) := by decide +kernel
theorem dL_law_1545 : decode cL_law 1545 = .ok (.iload 5, 2) := by decide +kernel
theorem dL_law_1547 : decode cL_law 1547 = .ok (.ifCond .ne 15, 3) := by decide +kernel
theorem dL_law_1550 : decode cL_law 1550 = .ok (.aload_n 3, 1) := by decide +kernel
theorem dL_law_1551 : decode cL_law 1551 = .ok (.iconst 0, 1) := by decide +kernel
theorem dL_law_1552 : decode cL_law 1552 = .ok (.laload, 1) := by decide +kernel
theorem dL_law_1553 : decode cL_law 1553 = .ok (.iload 6, 2) := by decide +kernel
theorem dL_law_1555 : decode cL_law 1555 = .ok (.i2l, 1) := by decide +kernel
theorem dL_law_1556 : decode cL_law 1556 = .ok (.lcmp, 1) := by decide +kernel
theorem dL_law_1557 : decode cL_law 1557 = .ok (.ifCond .eq 5, 3) := by decide +kernel
theorem dL_law_1560 : decode cL_law 1560 = .ok (.iconst 0, 1) := by decide +kernel
theorem dL_law_1561 : decode cL_law 1561 = .ok (.ireturn, 1) := by decide +kernel
theorem dL_law_1562 : decode cL_law 1562 = .ok (.goto 669, 3) := by decide +kernel
theorem dL_law_1565 : decode cL_law 1565 = .ok (.aload_n 1, 1) := by decide +kernel
theorem dL_law_1566 : decode cL_law 1566 = .ok (.aload_n 0, 1) := by decide +kernel
theorem dL_law_1567 : decode cL_law 1567 = .ok (.iload 4, 2) := by decide +kernel
theorem dL_law_1569 : decode cL_law 1569 = .ok (.iconst 1, 1) := by decide +kernel
theorem dL_law_1570 : decode cL_law 1570 = .ok (.iadd, 1) := by decide +kernel
theorem dL_law_1571 : decode cL_law 1571 = .ok (.iaload, 1) := by decide +kernel
theorem dL_law_1572 : decode cL_law 1572 = .ok (.aload_n 3, 1) := by decide +kernel
theorem dL_law_1573 : decode cL_law 1573 = .ok (.invokestatic 190, 3) := by decide +kernel
theorem dL_law_1576 : decode cL_law 1576 = .ok (.istore 5, 2) := by decide +kernel
theorem dL_law_1578 : decode cL_law 1578 = .ok (.aload_n 2, 1) := by decide +kernel
theorem dL_law_1579 : decode cL_law 1579 = .ok (.aload_n 0, 1) := by decide +kernel
theorem dL_law_1580 : decode cL_law 1580 = .ok (.iload 4, 2) := by decide +kernel
theorem dL_law_1582 : decode cL_law 1582 = .ok (.iconst 1, 1) := by decide +kernel
theorem dL_law_1583 : decode cL_law 1583 = .ok (.iadd, 1) := by decide +kernel
theorem dL_law_1584 : decode cL_law 1584 = .ok (.iaload, 1) := by decide +kernel
theorem dL_law_1585 : decode cL_law 1585 = .ok (.invokevirtual 192, 3) := by decide +kernel
theorem dL_law_1588 : decode cL_law 1588 = .ok (.istore 6, 2) := by decide +kernel
theorem dL_law_1590 : decode cL_law 1590 = .ok (.aload_n 2, 1) := by decide +kernel
theorem dL_law_1591 : decode cL_law 1591 = .ok (.invokevirtual 123, 3) := by decide +kernel
theorem dL_law_1594 : decode cL_law 1594 = .ok (.iload 5, 2) := by decide +kernel
theorem dL_law_1596 : decode cL_law 1596 = .ok (.if_icmp .eq 5, 3) := by decide +kernel
theorem dL_law_1599 : decode cL_law 1599 = .ok (.iconst 0, 1) := by decide +kernel
theorem dL_law_1600 : decode cL_law 1600 = .ok (.ireturn, 1) := by decide +kernel
theorem dL_law_1601 : decode cL_law 1601 = .ok (.iload 5, 2) := by decide +kernel
theorem dL_law_1603 : decode cL_law 1603 = .ok (.ifCond .ne 15, 3) := by decide +kernel
theorem dL_law_1606 : decode cL_law 1606 = .ok (.aload_n 3, 1) := by decide +kernel
theorem dL_law_1607 : decode cL_law 1607 = .ok (.iconst 0, 1) := by decide +kernel
theorem dL_law_1608 : decode cL_law 1608 = .ok (.laload, 1) := by decide +kernel
theorem dL_law_1609 : decode cL_law 1609 = .ok (.iload 6, 2) := by decide +kernel
theorem dL_law_1611 : decode cL_law 1611 = .ok (.i2l, 1) := by decide +kernel
theorem dL_law_1612 : decode cL_law 1612 = .ok (.lcmp, 1) := by decide +kernel
theorem dL_law_1613 : decode cL_law 1613 = .ok (.ifCond .eq 5, 3) := by decide +kernel
theorem dL_law_1616 : decode cL_law 1616 = .ok (.iconst 0, 1) := by decide +kernel
theorem dL_law_1617 : decode cL_law 1617 = .ok (.ireturn, 1) := by decide +kernel
theorem dL_law_1618 : decode cL_law 1618 = .ok (.goto 613, 3) := by decide +kernel
theorem dL_law_1621 : decode cL_law 1621 = .ok (.aload_n 1, 1) := by decide +kernel
theorem dL_law_1622 : decode cL_law 1622 = .ok (.aload_n 0, 1) := by decide +kernel
theorem dL_law_1623 : decode cL_law 1623 = .ok (.iload 4, 2) := by decide +kernel
theorem dL_law_1625 : decode cL_law 1625 = .ok (.iconst 1, 1) := by decide +kernel
theorem dL_law_1626 : decode cL_law 1626 = .ok (.iadd, 1) := by decide +kernel
theorem dL_law_1627 : decode cL_law 1627 = .ok (.iaload, 1) := by decide +kernel
theorem dL_law_1628 : decode cL_law 1628 = .ok (.aload_n 3, 1) := by decide +kernel
theorem dL_law_1629 : decode cL_law 1629 = .ok (.invokestatic 193, 3) := by decide +kernel
theorem dL_law_1632 : decode cL_law 1632 = .ok (.istore 5, 2) := by decide +kernel
theorem dL_law_1634 : decode cL_law 1634 = .ok (.aload_n 2, 1) := by decide +kernel
theorem dL_law_1635 : decode cL_law 1635 = .ok (.aload_n 0, 1) := by decide +kernel
theorem dL_law_1636 : decode cL_law 1636 = .ok (.iload 4, 2) := by decide +kernel
theorem dL_law_1638 : decode cL_law 1638 = .ok (.iconst 1, 1) := by decide +kernel
theorem dL_law_1639 : decode cL_law 1639 = .ok (.iadd, 1) := by decide +kernel
theorem dL_law_1640 : decode cL_law 1640 = .ok (.iaload, 1) := by decide +kernel
theorem dL_law_1641 : decode cL_law 1641 = .ok (.invokevirtual 195, 3) := by decide +kernel
theorem dL_law_1644 : decode cL_law 1644 = .ok (.istore 6, 2) := by decide +kernel
theorem dL_law_1646 : decode cL_law 1646 = .ok (.aload_n 2, 1) := by decide +kernel
theorem dL_law_1647 : decode cL_law 1647 = .ok (.invokevirtual 123, 3) := by decide +kernel
theorem dL_law_1650 : decode cL_law 1650 = .ok (.iload 5, 2) := by decide +kernel
theorem dL_law_1652 : decode cL_law 1652 = .ok (.if_icmp .eq 5, 3) := by decide +kernel
theorem dL_law_1655 : decode cL_law 1655 = .ok (.iconst 0, 1) := by decide +kernel
theorem dL_law_1656 : decode cL_law 1656 = .ok (.ireturn, 1) := by decide +kernel
theorem dL_law_1657 : decode cL_law 1657 = .ok (.iload 5, 2) := by decide +kernel
theorem dL_law_1659 : decode cL_law 1659 = .ok (.ifCond .ne 15, 3) := by decide +kernel
theorem dL_law_1662 : decode cL_law 1662 = .ok (.aload_n 3, 1) := by decide +kernel
theorem dL_law_1663 : decode cL_law 1663 = .ok (.iconst 0, 1) := by decide +kernel
theorem dL_law_1664 : decode cL_law 1664 = .ok (.laload, 1) := by decide +kernel
theorem dL_law_1665 : decode cL_law 1665 = .ok (.iload 6, 2) := by decide +kernel
theorem dL_law_1667 : decode cL_law 1667 = .ok (.i2l, 1) := by decide +kernel
theorem dL_law_1668 : decode cL_law 1668 = .ok (.lcmp, 1) := by decide +kernel
theorem dL_law_1669 : decode cL_law 1669 = .ok (.ifCond .eq 5, 3) := by decide +kernel
theorem dL_law_1672 : decode cL_law 1672 = .ok (.iconst 0, 1) := by decide +kernel
theorem dL_law_1673 : decode cL_law 1673 = .ok (.ireturn, 1) := by decide +kernel
theorem dL_law_1674 : decode cL_law 1674 = .ok (.goto 557, 3) := by decide +kernel
theorem dL_law_1677 : decode cL_law 1677 = .ok (.aload_n 1, 1) := by decide +kernel
theorem dL_law_1678 : decode cL_law 1678 = .ok (.aload_n 0, 1) := by decide +kernel
theorem dL_law_1679 : decode cL_law 1679 = .ok (.iload 4, 2) := by decide +kernel
theorem dL_law_1681 : decode cL_law 1681 = .ok (.iconst 1, 1) := by decide +kernel
theorem dL_law_1682 : decode cL_law 1682 = .ok (.iadd, 1) := by decide +kernel
theorem dL_law_1683 : decode cL_law 1683 = .ok (.iaload, 1) := by decide +kernel
theorem dL_law_1684 : decode cL_law 1684 = .ok (.aload_n 3, 1) := by decide +kernel
theorem dL_law_1685 : decode cL_law 1685 = .ok (.invokestatic 196, 3) := by decide +kernel
theorem dL_law_1688 : decode cL_law 1688 = .ok (.istore 5, 2) := by decide +kernel
theorem dL_law_1690 : decode cL_law 1690 = .ok (.aload_n 2, 1) := by decide +kernel
theorem dL_law_1691 : decode cL_law 1691 = .ok (.aload_n 0, 1) := by decide +kernel
theorem dL_law_1692 : decode cL_law 1692 = .ok (.iload 4, 2) := by decide +kernel
theorem dL_law_1694 : decode cL_law 1694 = .ok (.iconst 1, 1) := by decide +kernel
theorem dL_law_1695 : decode cL_law 1695 = .ok (.iadd, 1) := by decide +kernel
theorem dL_law_1696 : decode cL_law 1696 = .ok (.iaload, 1) := by decide +kernel
theorem dL_law_1697 : decode cL_law 1697 = .ok (.invokevirtual 198, 3) := by decide +kernel
theorem dL_law_1700 : decode cL_law 1700 = .ok (.istore 6, 2) := by decide +kernel
theorem dL_law_1702 : decode cL_law 1702 = .ok (.aload_n 2, 1) := by decide +kernel
theorem dL_law_1703 : decode cL_law 1703 = .ok (.invokevirtual 123, 3) := by decide +kernel
theorem dL_law_1706 : decode cL_law 1706 = .ok (.iload 5, 2) := by decide +kernel
theorem dL_law_1708 : decode cL_law 1708 = .ok (.if_icmp .eq 5, 3) := by decide +kernel
theorem dL_law_1711 : decode cL_law 1711 = .ok (.iconst 0, 1) := by decide +kernel
theorem dL_law_1712 : decode cL_law 1712 = .ok (.ireturn, 1) := by decide +kernel
theorem dL_law_1713 : decode cL_law 1713 = .ok (.iload 5, 2) := by decide +kernel
theorem dL_law_1715 : decode cL_law 1715 = .ok (.ifCond .ne 15, 3) := by decide +kernel
theorem dL_law_1718 : decode cL_law 1718 = .ok (.aload_n 3, 1) := by decide +kernel
theorem dL_law_1719 : decode cL_law 1719 = .ok (.iconst 0, 1) := by decide +kernel
theorem dL_law_1720 : decode cL_law 1720 = .ok (.laload, 1) := by decide +kernel
theorem dL_law_1721 : decode cL_law 1721 = .ok (.iload 6, 2) := by decide +kernel
theorem dL_law_1723 : decode cL_law 1723 = .ok (.i2l, 1) := by decide +kernel
theorem dL_law_1724 : decode cL_law 1724 = .ok (.lcmp, 1) := by decide +kernel
theorem dL_law_1725 : decode cL_law 1725 = .ok (.ifCond .eq 5, 3) := by decide +kernel
theorem dL_law_1728 : decode cL_law 1728 = .ok (.iconst 0, 1) := by decide +kernel
theorem dL_law_1729 : decode cL_law 1729 = .ok (.ireturn, 1) := by decide +kernel
theorem dL_law_1730 : decode cL_law 1730 = .ok (.goto 501, 3) := by decide +kernel
theorem dL_law_1733 : decode cL_law 1733 = .ok (.aload_n 1, 1) := by decide +kernel
theorem dL_law_1734 : decode cL_law 1734 = .ok (.aload_n 0, 1) := by decide +kernel
theorem dL_law_1735 : decode cL_law 1735 = .ok (.iload 4, 2) := by decide +kernel
theorem dL_law_1737 : decode cL_law 1737 = .ok (.iconst 1, 1) := by decide +kernel
theorem dL_law_1738 : decode cL_law 1738 = .ok (.iadd, 1) := by decide +kernel
theorem dL_law_1739 : decode cL_law 1739 = .ok (.iaload, 1) := by decide +kernel
theorem dL_law_1740 : decode cL_law 1740 = .ok (.aload_n 0, 1) := by decide +kernel
theorem dL_law_1741 : decode cL_law 1741 = .ok (.iload 4, 2) := by decide +kernel
theorem dL_law_1743 : decode cL_law 1743 = .ok (.iconst 2, 1) := by decide +kernel
theorem dL_law_1744 : decode cL_law 1744 = .ok (.iadd, 1) := by decide +kernel
theorem dL_law_1745 : decode cL_law 1745 = .ok (.iaload, 1) := by decide +kernel
theorem dL_law_1746 : decode cL_law 1746 = .ok (.aload_n 3, 1) := by decide +kernel
theorem dL_law_1747 : decode cL_law 1747 = .ok (.invokestatic 199, 3) := by decide +kernel
theorem dL_law_1750 : decode cL_law 1750 = .ok (.istore 5, 2) := by decide +kernel
theorem dL_law_1752 : decode cL_law 1752 = .ok (.aload_n 2, 1) := by decide +kernel
theorem dL_law_1753 : decode cL_law 1753 = .ok (.aload_n 0, 1) := by decide +kernel
theorem dL_law_1754 : decode cL_law 1754 = .ok (.iload 4, 2) := by decide +kernel
theorem dL_law_1756 : decode cL_law 1756 = .ok (.iconst 1, 1) := by decide +kernel
theorem dL_law_1757 : decode cL_law 1757 = .ok (.iadd, 1) := by decide +kernel
theorem dL_law_1758 : decode cL_law 1758 = .ok (.iaload, 1) := by decide +kernel
theorem dL_law_1759 : decode cL_law 1759 = .ok (.aload_n 0, 1) := by decide +kernel
theorem dL_law_1760 : decode cL_law 1760 = .ok (.iload 4, 2) := by decide +kernel
theorem dL_law_1762 : decode cL_law 1762 = .ok (.iconst 2, 1) := by decide +kernel
theorem dL_law_1763 : decode cL_law 1763 = .ok (.iadd, 1) := by decide +kernel
theorem dL_law_1764 : decode cL_law 1764 = .ok (.iaload, 1) := by decide +kernel
theorem dL_law_1765 : decode cL_law 1765 = .ok (.invokevirtual 201, 3) := by decide +kernel
theorem dL_law_1768 : decode cL_law 1768 = .ok (.istore 6, 2) := by decide +kernel
theorem dL_law_1770 : decode cL_law 1770 = .ok (.aload_n 2, 1) := by decide +kernel
theorem dL_law_1771 : decode cL_law 1771 = .ok (.invokevirtual 123, 3) := by decide +kernel
theorem dL_law_1774 : decode cL_law 1774 = .ok (.iload 5, 2) := by decide +kernel
theorem dL_law_1776 : decode cL_law 1776 = .ok (.if_icmp .eq 5, 3) := by decide +kernel
theorem dL_law_1779 : decode cL_law 1779 = .ok (.iconst 0, 1) := by decide +kernel
theorem dL_law_1780 : decode cL_law 1780 = .ok (.ireturn, 1) := by decide +kernel
theorem dL_law_1781 : decode cL_law 1781 = .ok (.iload 5, 2) := by decide +kernel
theorem dL_law_1783 : decode cL_law 1783 = .ok (.ifCond .ne 15, 3) := by decide +kernel
theorem dL_law_1786 : decode cL_law 1786 = .ok (.aload_n 3, 1) := by decide +kernel
theorem dL_law_1787 : decode cL_law 1787 = .ok (.iconst 0, 1) := by decide +kernel
theorem dL_law_1788 : decode cL_law 1788 = .ok (.laload, 1) := by decide +kernel
theorem dL_law_1789 : decode cL_law 1789 = .ok (.iload 6, 2) := by decide +kernel
theorem dL_law_1791 : decode cL_law 1791 = .ok (.i2l, 1) := by decide +kernel
theorem dL_law_1792 : decode cL_law 1792 = .ok (.lcmp, 1) := by decide +kernel
theorem dL_law_1793 : decode cL_law 1793 = .ok (.ifCond .eq 5, 3) := by decide +kernel
theorem dL_law_1796 : decode cL_law 1796 = .ok (.iconst 0, 1) := by decide +kernel
theorem dL_law_1797 : decode cL_law 1797 = .ok (.ireturn, 1) := by decide +kernel
theorem dL_law_1798 : decode cL_law 1798 = .ok (.goto 433, 3) := by decide +kernel
theorem dL_law_1801 : decode cL_law 1801 = .ok (.aload_n 1, 1) := by decide +kernel
theorem dL_law_1802 : decode cL_law 1802 = .ok (.aload_n 0, 1) := by decide +kernel
theorem dL_law_1803 : decode cL_law 1803 = .ok (.iload 4, 2) := by decide +kernel
theorem dL_law_1805 : decode cL_law 1805 = .ok (.iconst 1, 1) := by decide +kernel
theorem dL_law_1806 : decode cL_law 1806 = .ok (.iadd, 1) := by decide +kernel
theorem dL_law_1807 : decode cL_law 1807 = .ok (.iaload, 1) := by decide +kernel
theorem dL_law_1808 : decode cL_law 1808 = .ok (.aload_n 0, 1) := by decide +kernel
theorem dL_law_1809 : decode cL_law 1809 = .ok (.iload 4, 2) := by decide +kernel
theorem dL_law_1811 : decode cL_law 1811 = .ok (.iconst 2, 1) := by decide +kernel
theorem dL_law_1812 : decode cL_law 1812 = .ok (.iadd, 1) := by decide +kernel
theorem dL_law_1813 : decode cL_law 1813 = .ok (.iaload, 1) := by decide +kernel
theorem dL_law_1814 : decode cL_law 1814 = .ok (.aload_n 0, 1) := by decide +kernel
theorem dL_law_1815 : decode cL_law 1815 = .ok (.iload 4, 2) := by decide +kernel
theorem dL_law_1817 : decode cL_law 1817 = .ok (.iconst 3, 1) := by decide +kernel
theorem dL_law_1818 : decode cL_law 1818 = .ok (.iadd, 1) := by decide +kernel
theorem dL_law_1819 : decode cL_law 1819 = .ok (.iaload, 1) := by decide +kernel
theorem dL_law_1820 : decode cL_law 1820 = .ok (.aload_n 3, 1) := by decide +kernel
theorem dL_law_1821 : decode cL_law 1821 = .ok (.invokestatic 202, 3) := by decide +kernel
theorem dL_law_1824 : decode cL_law 1824 = .ok (.istore 5, 2) := by decide +kernel
theorem dL_law_1826 : decode cL_law 1826 = .ok (.aload_n 2, 1) := by decide +kernel
theorem dL_law_1827 : decode cL_law 1827 = .ok (.aload_n 0, 1) := by decide +kernel
theorem dL_law_1828 : decode cL_law 1828 = .ok (.iload 4, 2) := by decide +kernel
theorem dL_law_1830 : decode cL_law 1830 = .ok (.iconst 1, 1) := by decide +kernel
theorem dL_law_1831 : decode cL_law 1831 = .ok (.iadd, 1) := by decide +kernel
theorem dL_law_1832 : decode cL_law 1832 = .ok (.iaload, 1) := by decide +kernel
theorem dL_law_1833 : decode cL_law 1833 = .ok (.aload_n 0, 1) := by decide +kernel
theorem dL_law_1834 : decode cL_law 1834 = .ok (.iload 4, 2) := by decide +kernel
theorem dL_law_1836 : decode cL_law 1836 = .ok (.iconst 2, 1) := by decide +kernel
theorem dL_law_1837 : decode cL_law 1837 = .ok (.iadd, 1) := by decide +kernel
theorem dL_law_1838 : decode cL_law 1838 = .ok (.iaload, 1) := by decide +kernel
theorem dL_law_1839 : decode cL_law 1839 = .ok (.aload_n 0, 1) := by decide +kernel
theorem dL_law_1840 : decode cL_law 1840 = .ok (.iload 4, 2) := by decide +kernel
theorem dL_law_1842 : decode cL_law 1842 = .ok (.iconst 3, 1) := by decide +kernel
theorem dL_law_1843 : decode cL_law 1843 = .ok (.iadd, 1) := by decide +kernel
theorem dL_law_1844 : decode cL_law 1844 = .ok (.iaload, 1) := by decide +kernel
theorem dL_law_1845 : decode cL_law 1845 = .ok (.invokevirtual 204, 3) := by decide +kernel
theorem dL_law_1848 : decode cL_law 1848 = .ok (.istore 6, 2) := by decide +kernel
theorem dL_law_1850 : decode cL_law 1850 = .ok (.aload_n 2, 1) := by decide +kernel
theorem dL_law_1851 : decode cL_law 1851 = .ok (.invokevirtual 123, 3) := by decide +kernel
theorem dL_law_1854 : decode cL_law 1854 = .ok (.iload 5, 2) := by decide +kernel
theorem dL_law_1856 : decode cL_law 1856 = .ok (.if_icmp .eq 5, 3) := by decide +kernel
theorem dL_law_1859 : decode cL_law 1859 = .ok (.iconst 0, 1) := by decide +kernel
theorem dL_law_1860 : decode cL_law 1860 = .ok (.ireturn, 1) := by decide +kernel
theorem dL_law_1861 : decode cL_law 1861 = .ok (.iload 5, 2) := by decide +kernel
theorem dL_law_1863 : decode cL_law 1863 = .ok (.ifCond .ne 15, 3) := by decide +kernel
theorem dL_law_1866 : decode cL_law 1866 = .ok (.aload_n 3, 1) := by decide +kernel
theorem dL_law_1867 : decode cL_law 1867 = .ok (.iconst 0, 1) := by decide +kernel
theorem dL_law_1868 : decode cL_law 1868 = .ok (.laload, 1) := by decide +kernel
theorem dL_law_1869 : decode cL_law 1869 = .ok (.iload 6, 2) := by decide +kernel
theorem dL_law_1871 : decode cL_law 1871 = .ok (.i2l, 1) := by decide +kernel
theorem dL_law_1872 : decode cL_law 1872 = .ok (.lcmp, 1) := by decide +kernel
theorem dL_law_1873 : decode cL_law 1873 = .ok (.ifCond .eq 5, 3) := by decide +kernel
theorem dL_law_1876 : decode cL_law 1876 = .ok (.iconst 0, 1) := by decide +kernel
theorem dL_law_1877 : decode cL_law 1877 = .ok (.ireturn, 1) := by decide +kernel
theorem dL_law_1878 : decode cL_law 1878 = .ok (.goto 353, 3) := by decide +kernel
theorem dL_law_1881 : decode cL_law 1881 = .ok (.aload_n 1, 1) := by decide +kernel
theorem dL_law_1882 : decode cL_law 1882 = .ok (.aload_n 0, 1) := by decide +kernel
theorem dL_law_1883 : decode cL_law 1883 = .ok (.iload 4, 2) := by decide +kernel
theorem dL_law_1885 : decode cL_law 1885 = .ok (.iconst 1, 1) := by decide +kernel
theorem dL_law_1886 : decode cL_law 1886 = .ok (.iadd, 1) := by decide +kernel
theorem dL_law_1887 : decode cL_law 1887 = .ok (.iaload, 1) := by decide +kernel
theorem dL_law_1888 : decode cL_law 1888 = .ok (.aload_n 3, 1) := by decide +kernel
theorem dL_law_1889 : decode cL_law 1889 = .ok (.invokestatic 205, 3) := by decide +kernel
theorem dL_law_1892 : decode cL_law 1892 = .ok (.istore 5, 2) := by decide +kernel
theorem dL_law_1894 : decode cL_law 1894 = .ok (.aload_n 2, 1) := by decide +kernel
theorem dL_law_1895 : decode cL_law 1895 = .ok (.aload_n 0, 1) := by decide +kernel
theorem dL_law_1896 : decode cL_law 1896 = .ok (.iload 4, 2) := by decide +kernel
theorem dL_law_1898 : decode cL_law 1898 = .ok (.iconst 1, 1) := by decide +kernel
theorem dL_law_1899 : decode cL_law 1899 = .ok (.iadd, 1) := by decide +kernel
theorem dL_law_1900 : decode cL_law 1900 = .ok (.iaload, 1) := by decide +kernel
theorem dL_law_1901 : decode cL_law 1901 = .ok (.invokevirtual 207, 3) := by decide +kernel
theorem dL_law_1904 : decode cL_law 1904 = .ok (.istore 6, 2) := by decide +kernel
theorem dL_law_1906 : decode cL_law 1906 = .ok (.aload_n 2, 1) := by decide +kernel
theorem dL_law_1907 : decode cL_law 1907 = .ok (.invokevirtual 123, 3) := by decide +kernel
theorem dL_law_1910 : decode cL_law 1910 = .ok (.iload 5, 2) := by decide +kernel
theorem dL_law_1912 : decode cL_law 1912 = .ok (.if_icmp .eq 5, 3) := by decide +kernel
theorem dL_law_1915 : decode cL_law 1915 = .ok (.iconst 0, 1) := by decide +kernel
theorem dL_law_1916 : decode cL_law 1916 = .ok (.ireturn, 1) := by decide +kernel
theorem dL_law_1917 : decode cL_law 1917 = .ok (.iload 5, 2) := by decide +kernel
theorem dL_law_1919 : decode cL_law 1919 = .ok (.ifCond .ne 15, 3) := by decide +kernel
theorem dL_law_1922 : decode cL_law 1922 = .ok (.aload_n 3, 1) := by decide +kernel
theorem dL_law_1923 : decode cL_law 1923 = .ok (.iconst 0, 1) := by decide +kernel
theorem dL_law_1924 : decode cL_law 1924 = .ok (.laload, 1) := by decide +kernel
theorem dL_law_1925 : decode cL_law 1925 = .ok (.iload 6, 2) := by decide +kernel
theorem dL_law_1927 : decode cL_law 1927 = .ok (.i2l, 1) := by decide +kernel
theorem dL_law_1928 : decode cL_law 1928 = .ok (.lcmp, 1) := by decide +kernel
theorem dL_law_1929 : decode cL_law 1929 = .ok (.ifCond .eq 5, 3) := by decide +kernel
theorem dL_law_1932 : decode cL_law 1932 = .ok (.iconst 0, 1) := by decide +kernel
theorem dL_law_1933 : decode cL_law 1933 = .ok (.ireturn, 1) := by decide +kernel
theorem dL_law_1934 : decode cL_law 1934 = .ok (.goto 297, 3) := by decide +kernel
theorem dL_law_1937 : decode cL_law 1937 = .ok (.aload_n 1, 1) := by decide +kernel
theorem dL_law_1938 : decode cL_law 1938 = .ok (.aload_n 0, 1) := by decide +kernel
theorem dL_law_1939 : decode cL_law 1939 = .ok (.iload 4, 2) := by decide +kernel
theorem dL_law_1941 : decode cL_law 1941 = .ok (.iconst 1, 1) := by decide +kernel
theorem dL_law_1942 : decode cL_law 1942 = .ok (.iadd, 1) := by decide +kernel
theorem dL_law_1943 : decode cL_law 1943 = .ok (.iaload, 1) := by decide +kernel
theorem dL_law_1944 : decode cL_law 1944 = .ok (.aload_n 3, 1) := by decide +kernel
theorem dL_law_1945 : decode cL_law 1945 = .ok (.invokestatic 208, 3) := by decide +kernel
theorem dL_law_1948 : decode cL_law 1948 = .ok (.istore 5, 2) := by decide +kernel
theorem dL_law_1950 : decode cL_law 1950 = .ok (.aload_n 2, 1) := by decide +kernel
theorem dL_law_1951 : decode cL_law 1951 = .ok (.aload_n 0, 1) := by decide +kernel
theorem dL_law_1952 : decode cL_law 1952 = .ok (.iload 4, 2) := by decide +kernel
theorem dL_law_1954 : decode cL_law 1954 = .ok (.iconst 1, 1) := by decide +kernel
theorem dL_law_1955 : decode cL_law 1955 = .ok (.iadd, 1) := by decide +kernel
theorem dL_law_1956 : decode cL_law 1956 = .ok (.iaload, 1) := by decide +kernel
theorem dL_law_1957 : decode cL_law 1957 = .ok (.invokevirtual 210, 3) := by decide +kernel
theorem dL_law_1960 : decode cL_law 1960 = .ok (.istore 6, 2) := by decide +kernel
theorem dL_law_1962 : decode cL_law 1962 = .ok (.aload_n 2, 1) := by decide +kernel
theorem dL_law_1963 : decode cL_law 1963 = .ok (.invokevirtual 123, 3) := by decide +kernel
theorem dL_law_1966 : decode cL_law 1966 = .ok (.iload 5, 2) := by decide +kernel
theorem dL_law_1968 : decode cL_law 1968 = .ok (.if_icmp .eq 5, 3) := by decide +kernel
theorem dL_law_1971 : decode cL_law 1971 = .ok (.iconst 0, 1) := by decide +kernel
theorem dL_law_1972 : decode cL_law 1972 = .ok (.ireturn, 1) := by decide +kernel
theorem dL_law_1973 : decode cL_law 1973 = .ok (.iload 5, 2) := by decide +kernel
theorem dL_law_1975 : decode cL_law 1975 = .ok (.ifCond .ne 15, 3) := by decide +kernel
theorem dL_law_1978 : decode cL_law 1978 = .ok (.aload_n 3, 1) := by decide +kernel
theorem dL_law_1979 : decode cL_law 1979 = .ok (.iconst 0, 1) := by decide +kernel
theorem dL_law_1980 : decode cL_law 1980 = .ok (.laload, 1) := by decide +kernel
theorem dL_law_1981 : decode cL_law 1981 = .ok (.iload 6, 2) := by decide +kernel
theorem dL_law_1983 : decode cL_law 1983 = .ok (.i2l, 1) := by decide +kernel
theorem dL_law_1984 : decode cL_law 1984 = .ok (.lcmp, 1) := by decide +kernel
theorem dL_law_1985 : decode cL_law 1985 = .ok (.ifCond .eq 5, 3) := by decide +kernel
theorem dL_law_1988 : decode cL_law 1988 = .ok (.iconst 0, 1) := by decide +kernel
theorem dL_law_1989 : decode cL_law 1989 = .ok (.ireturn, 1) := by decide +kernel
theorem dL_law_1990 : decode cL_law 1990 = .ok (.goto 241, 3) := by decide +kernel
theorem dL_law_1993 : decode cL_law 1993 = .ok (.aload_n 1, 1) := by decide +kernel
theorem dL_law_1994 : decode cL_law 1994 = .ok (.invokevirtual 211, 3) := by decide +kernel
theorem dL_law_1997 : decode cL_law 1997 = .ok (.aload_n 2, 1) := by decide +kernel
theorem dL_law_1998 : decode cL_law 1998 = .ok (.invokevirtual 214, 3) := by decide +kernel
theorem dL_law_2001 : decode cL_law 2001 = .ok (.if_icmp .eq 230, 3) := by decide +kernel
theorem dL_law_2004 : decode cL_law 2004 = .ok (.iconst 0, 1) := by decide +kernel
theorem dL_law_2005 : decode cL_law 2005 = .ok (.ireturn, 1) := by decide +kernel
theorem dL_law_2006 : decode cL_law 2006 = .ok (.aload_n 1, 1) := by decide +kernel
theorem dL_law_2007 : decode cL_law 2007 = .ok (.aload_n 0, 1) := by decide +kernel
theorem dL_law_2008 : decode cL_law 2008 = .ok (.iload 4, 2) := by decide +kernel
theorem dL_law_2010 : decode cL_law 2010 = .ok (.iconst 1, 1) := by decide +kernel
theorem dL_law_2011 : decode cL_law 2011 = .ok (.iadd, 1) := by decide +kernel
theorem dL_law_2012 : decode cL_law 2012 = .ok (.iaload, 1) := by decide +kernel
theorem dL_law_2013 : decode cL_law 2013 = .ok (.aload_n 0, 1) := by decide +kernel
theorem dL_law_2014 : decode cL_law 2014 = .ok (.iload 4, 2) := by decide +kernel
theorem dL_law_2016 : decode cL_law 2016 = .ok (.iconst 2, 1) := by decide +kernel
theorem dL_law_2017 : decode cL_law 2017 = .ok (.iadd, 1) := by decide +kernel
theorem dL_law_2018 : decode cL_law 2018 = .ok (.iaload, 1) := by decide +kernel
theorem dL_law_2019 : decode cL_law 2019 = .ok (.aload_n 3, 1) := by decide +kernel
theorem dL_law_2020 : decode cL_law 2020 = .ok (.invokestatic 215, 3) := by decide +kernel
theorem dL_law_2023 : decode cL_law 2023 = .ok (.istore 5, 2) := by decide +kernel
theorem dL_law_2025 : decode cL_law 2025 = .ok (.aload_n 2, 1) := by decide +kernel
theorem dL_law_2026 : decode cL_law 2026 = .ok (.aload_n 0, 1) := by decide +kernel
theorem dL_law_2027 : decode cL_law 2027 = .ok (.iload 4, 2) := by decide +kernel
theorem dL_law_2029 : decode cL_law 2029 = .ok (.iconst 1, 1) := by decide +kernel
theorem dL_law_2030 : decode cL_law 2030 = .ok (.iadd, 1) := by decide +kernel
theorem dL_law_2031 : decode cL_law 2031 = .ok (.iaload, 1) := by decide +kernel
theorem dL_law_2032 : decode cL_law 2032 = .ok (.aload_n 0, 1) := by decide +kernel
theorem dL_law_2033 : decode cL_law 2033 = .ok (.iload 4, 2) := by decide +kernel
theorem dL_law_2035 : decode cL_law 2035 = .ok (.iconst 2, 1) := by decide +kernel
theorem dL_law_2036 : decode cL_law 2036 = .ok (.iadd, 1) := by decide +kernel
theorem dL_law_2037 : decode cL_law 2037 = .ok (.iaload, 1) := by decide +kernel
theorem dL_law_2038 : decode cL_law 2038 = .ok (.invokevirtual 217, 3) := by decide +kernel
theorem dL_law_2041 : decode cL_law 2041 = .ok (.istore 6, 2) := by decide +kernel
theorem dL_law_2043 : decode cL_law 2043 = .ok (.aload_n 2, 1) := by decide +kernel
theorem dL_law_2044 : decode cL_law 2044 = .ok (.invokevirtual 123, 3) := by decide +kernel
theorem dL_law_2047 : decode cL_law 2047 = .ok (.iload 5, 2) := by decide +kernel
theorem dL_law_2049 : decode cL_law 2049 = .ok (.if_icmp .eq 5, 3) := by decide +kernel
theorem dL_law_2052 : decode cL_law 2052 = .ok (.iconst 0, 1) := by decide +kernel
theorem dL_law_2053 : decode cL_law 2053 = .ok (.ireturn, 1) := by decide +kernel
theorem dL_law_2054 : decode cL_law 2054 = .ok (.iload 5, 2) := by decide +kernel
theorem dL_law_2056 : decode cL_law 2056 = .ok (.ifCond .ne 15, 3) := by decide +kernel
theorem dL_law_2059 : decode cL_law 2059 = .ok (.aload_n 3, 1) := by decide +kernel
theorem dL_law_2060 : decode cL_law 2060 = .ok (.iconst 0, 1) := by decide +kernel
theorem dL_law_2061 : decode cL_law 2061 = .ok (.laload, 1) := by decide +kernel
theorem dL_law_2062 : decode cL_law 2062 = .ok (.iload 6, 2) := by decide +kernel
theorem dL_law_2064 : decode cL_law 2064 = .ok (.i2l, 1) := by decide +kernel
theorem dL_law_2065 : decode cL_law 2065 = .ok (.lcmp, 1) := by decide +kernel
theorem dL_law_2066 : decode cL_law 2066 = .ok (.ifCond .eq 5, 3) := by decide +kernel
theorem dL_law_2069 : decode cL_law 2069 = .ok (.iconst 0, 1) := by decide +kernel
theorem dL_law_2070 : decode cL_law 2070 = .ok (.ireturn, 1) := by decide +kernel
theorem dL_law_2071 : decode cL_law 2071 = .ok (.goto 160, 3) := by decide +kernel
theorem dL_law_2074 : decode cL_law 2074 = .ok (.aload_n 1, 1) := by decide +kernel
theorem dL_law_2075 : decode cL_law 2075 = .ok (.aload_n 3, 1) := by decide +kernel
theorem dL_law_2076 : decode cL_law 2076 = .ok (.invokestatic 218, 3) := by decide +kernel
theorem dL_law_2079 : decode cL_law 2079 = .ok (.istore 5, 2) := by decide +kernel
theorem dL_law_2081 : decode cL_law 2081 = .ok (.aload_n 2, 1) := by decide +kernel
theorem dL_law_2082 : decode cL_law 2082 = .ok (.invokevirtual 221, 3) := by decide +kernel
theorem dL_law_2085 : decode cL_law 2085 = .ok (.istore 6, 2) := by decide +kernel
theorem dL_law_2087 : decode cL_law 2087 = .ok (.aload_n 2, 1) := by decide +kernel
theorem dL_law_2088 : decode cL_law 2088 = .ok (.invokevirtual 123, 3) := by decide +kernel
theorem dL_law_2091 : decode cL_law 2091 = .ok (.iload 5, 2) := by decide +kernel
theorem dL_law_2093 : decode cL_law 2093 = .ok (.if_icmp .eq 5, 3) := by decide +kernel
theorem dL_law_2096 : decode cL_law 2096 = .ok (.iconst 0, 1) := by decide +kernel
theorem dL_law_2097 : decode cL_law 2097 = .ok (.ireturn, 1) := by decide +kernel
theorem dL_law_2098 : decode cL_law 2098 = .ok (.iload 5, 2) := by decide +kernel
theorem dL_law_2100 : decode cL_law 2100 = .ok (.ifCond .ne 15, 3) := by decide +kernel
theorem dL_law_2103 : decode cL_law 2103 = .ok (.aload_n 3, 1) := by decide +kernel
theorem dL_law_2104 : decode cL_law 2104 = .ok (.iconst 0, 1) := by decide +kernel
theorem dL_law_2105 : decode cL_law 2105 = .ok (.laload, 1) := by decide +kernel
theorem dL_law_2106 : decode cL_law 2106 = .ok (.iload 6, 2) := by decide +kernel
theorem dL_law_2108 : decode cL_law 2108 = .ok (.i2l, 1) := by decide +kernel
theorem dL_law_2109 : decode cL_law 2109 = .ok (.lcmp, 1) := by decide +kernel
theorem dL_law_2110 : decode cL_law 2110 = .ok (.ifCond .eq 5, 3) := by decide +kernel
theorem dL_law_2113 : decode cL_law 2113 = .ok (.iconst 0, 1) := by decide +kernel
theorem dL_law_2114 : decode cL_law 2114 = .ok (.ireturn, 1) := by decide +kernel
theorem dL_law_2115 : decode cL_law 2115 = .ok (.goto 116, 3) := by decide +kernel
theorem dL_law_2118 : decode cL_law 2118 = .ok (.aload_n 1, 1) := by decide +kernel
theorem dL_law_2119 : decode cL_law 2119 = .ok (.aload_n 0, 1) := by decide +kernel
theorem dL_law_2120 : decode cL_law 2120 = .ok (.iload 4, 2) := by decide +kernel
theorem dL_law_2122 : decode cL_law 2122 = .ok (.iconst 1, 1) := by decide +kernel
theorem dL_law_2123 : decode cL_law 2123 = .ok (.iadd, 1) := by decide +kernel
theorem dL_law_2124 : decode cL_law 2124 = .ok (.iaload, 1) := by decide +kernel
theorem dL_law_2125 : decode cL_law 2125 = .ok (.aload_n 3, 1) := by decide +kernel
theorem dL_law_2126 : decode cL_law 2126 = .ok (.invokestatic 222, 3) := by decide +kernel
theorem dL_law_2129 : decode cL_law 2129 = .ok (.istore 5, 2) := by decide +kernel
theorem dL_law_2131 : decode cL_law 2131 = .ok (.aload_n 2, 1) := by decide +kernel
theorem dL_law_2132 : decode cL_law 2132 = .ok (.aload_n 0, 1) := by decide +kernel
theorem dL_law_2133 : decode cL_law 2133 = .ok (.iload 4, 2) := by decide +kernel
theorem dL_law_2135 : decode cL_law 2135 = .ok (.iconst 1, 1) := by decide +kernel
theorem dL_law_2136 : decode cL_law 2136 = .ok (.iadd, 1) := by decide +kernel
theorem dL_law_2137 : decode cL_law 2137 = .ok (.iaload, 1) := by decide +kernel
theorem dL_law_2138 : decode cL_law 2138 = .ok (.invokevirtual 224, 3) := by decide +kernel
theorem dL_law_2141 : decode cL_law 2141 = .ok (.istore 6, 2) := by decide +kernel
theorem dL_law_2143 : decode cL_law 2143 = .ok (.aload_n 2, 1) := by decide +kernel
theorem dL_law_2144 : decode cL_law 2144 = .ok (.invokevirtual 123, 3) := by decide +kernel
theorem dL_law_2147 : decode cL_law 2147 = .ok (.iload 5, 2) := by decide +kernel
theorem dL_law_2149 : decode cL_law 2149 = .ok (.if_icmp .eq 5, 3) := by decide +kernel
theorem dL_law_2152 : decode cL_law 2152 = .ok (.iconst 0, 1) := by decide +kernel
theorem dL_law_2153 : decode cL_law 2153 = .ok (.ireturn, 1) := by decide +kernel
theorem dL_law_2154 : decode cL_law 2154 = .ok (.iload 5, 2) := by decide +kernel
theorem dL_law_2156 : decode cL_law 2156 = .ok (.ifCond .ne 15, 3) := by decide +kernel
theorem dL_law_2159 : decode cL_law 2159 = .ok (.aload_n 3, 1) := by decide +kernel
theorem dL_law_2160 : decode cL_law 2160 = .ok (.iconst 0, 1) := by decide +kernel
theorem dL_law_2161 : decode cL_law 2161 = .ok (.laload, 1) := by decide +kernel
theorem dL_law_2162 : decode cL_law 2162 = .ok (.iload 6, 2) := by decide +kernel
theorem dL_law_2164 : decode cL_law 2164 = .ok (.i2l, 1) := by decide +kernel
theorem dL_law_2165 : decode cL_law 2165 = .ok (.lcmp, 1) := by decide +kernel
theorem dL_law_2166 : decode cL_law 2166 = .ok (.ifCond .eq 5, 3) := by decide +kernel
theorem dL_law_2169 : decode cL_law 2169 = .ok (.iconst 0, 1) := by decide +kernel
theorem dL_law_2170 : decode cL_law 2170 = .ok (.ireturn, 1) := by decide +kernel
theorem dL_law_2171 : decode cL_law 2171 = .ok (.goto 60, 3) := by decide +kernel
theorem dL_law_2174 : decode cL_law 2174 = .ok (.aload_n 1, 1) := by decide +kernel
theorem dL_law_2175 : decode cL_law 2175 = .ok (.invokevirtual 225, 3) := by decide +kernel
theorem dL_law_2178 : decode cL_law 2178 = .ok (.aload_n 2, 1) := by decide +kernel
theorem dL_law_2179 : decode cL_law 2179 = .ok (.invokevirtual 228, 3) := by decide +kernel
theorem dL_law_2182 : decode cL_law 2182 = .ok (.if_icmp .eq 49, 3) := by decide +kernel
theorem dL_law_2185 : decode cL_law 2185 = .ok (.iconst 0, 1) := by decide +kernel
theorem dL_law_2186 : decode cL_law 2186 = .ok (.ireturn, 1) := by decide +kernel
theorem dL_law_2187 : decode cL_law 2187 = .ok (.aload_n 1, 1) := by decide +kernel
theorem dL_law_2188 : decode cL_law 2188 = .ok (.aload_n 3, 1) := by decide +kernel
theorem dL_law_2189 : decode cL_law 2189 = .ok (.invokestatic 229, 3) := by decide +kernel
theorem dL_law_2192 : decode cL_law 2192 = .ok (.istore 5, 2) := by decide +kernel
theorem dL_law_2194 : decode cL_law 2194 = .ok (.aload_n 2, 1) := by decide +kernel
theorem dL_law_2195 : decode cL_law 2195 = .ok (.invokevirtual 231, 3) := by decide +kernel
theorem dL_law_2198 : decode cL_law 2198 = .ok (.istore 6, 2) := by decide +kernel
theorem dL_law_2200 : decode cL_law 2200 = .ok (.aload_n 2, 1) := by decide +kernel
theorem dL_law_2201 : decode cL_law 2201 = .ok (.invokevirtual 123, 3) := by decide +kernel
theorem dL_law_2204 : decode cL_law 2204 = .ok (.iload 5, 2) := by decide +kernel
theorem dL_law_2206 : decode cL_law 2206 = .ok (.if_icmp .eq 5, 3) := by decide +kernel
theorem dL_law_2209 : decode cL_law 2209 = .ok (.iconst 0, 1) := by decide +kernel
theorem dL_law_2210 : decode cL_law 2210 = .ok (.ireturn, 1) := by decide +kernel
theorem dL_law_2211 : decode cL_law 2211 = .ok (.iload 5, 2) := by decide +kernel
theorem dL_law_2213 : decode cL_law 2213 = .ok (.ifCond .ne 15, 3) := by decide +kernel
theorem dL_law_2216 : decode cL_law 2216 = .ok (.aload_n 3, 1) := by decide +kernel
theorem dL_law_2217 : decode cL_law 2217 = .ok (.iconst 0, 1) := by decide +kernel
theorem dL_law_2218 : decode cL_law 2218 = .ok (.laload, 1) := by decide +kernel
theorem dL_law_2219 : decode cL_law 2219 = .ok (.iload 6, 2) := by decide +kernel
theorem dL_law_2221 : decode cL_law 2221 = .ok (.i2l, 1) := by decide +kernel
theorem dL_law_2222 : decode cL_law 2222 = .ok (.lcmp, 1) := by decide +kernel
theorem dL_law_2223 : decode cL_law 2223 = .ok (.ifCond .eq 5, 3) := by decide +kernel
theorem dL_law_2226 : decode cL_law 2226 = .ok (.iconst 0, 1) := by decide +kernel
theorem dL_law_2227 : decode cL_law 2227 = .ok (.ireturn, 1) := by decide +kernel
theorem dL_law_2228 : decode cL_law 2228 = .ok (.goto 3, 3) := by decide +kernel
theorem dL_law_2231 : decode cL_law 2231 = .ok (.iinc 4 6, 3) := by decide +kernel
theorem dL_law_2234 : decode cL_law 2234 = .ok (.goto (-2211), 3) := by decide +kernel
theorem dL_law_2237 : decode cL_law 2237 = .ok (.iconst 1, 1) := by decide +kernel
theorem dL_law_2238 : decode cL_law 2238 = .ok (.ireturn, 1) := by decide +kernel
