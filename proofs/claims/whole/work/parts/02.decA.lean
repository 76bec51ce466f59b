theorem dX0_init_0 : decode cX0_init 0 = .ok (.aload_n 0, 1) := by decide +kernel
theorem dX0_init_1 : decode cX0_init 1 = .ok (.invokespecial 5, 3) := by decide +kernel
theorem dX0_init_4 : decode cX0_init 4 = .ok (.aload_n 0, 1) := by decide +kernel
theorem dX0_init_5 : decode cX0_init 5 = .ok (.bipush 64, 2) := by decide +kernel
theorem dX0_init_7 : decode cX0_init 7 = .ok (.newarray .int, 2) := by decide +kernel
theorem dX0_init_9 : decode cX0_init 9 = .ok (.putfield 11, 3) := by decide +kernel
theorem dX0_init_12 : decode cX0_init 12 = .ok (.aload_n 0, 1) := by decide +kernel
theorem dX0_init_13 : decode cX0_init 13 = .ok (.bipush 64, 2) := by decide +kernel
theorem dX0_init_15 : decode cX0_init 15 = .ok (.newarray .int, 2) := by decide +kernel
theorem dX0_init_17 : decode cX0_init 17 = .ok (.putfield 15, 3) := by decide +kernel
theorem dX0_init_20 : decode cX0_init 20 = .ok (.aload_n 0, 1) := by decide +kernel
theorem dX0_init_21 : decode cX0_init 21 = .ok (.iconst 5, 1) := by decide +kernel
theorem dX0_init_22 : decode cX0_init 22 = .ok (.newarray .int, 2) := by decide +kernel
theorem dX0_init_24 : decode cX0_init 24 = .ok (.putfield 18, 3) := by decide +kernel
theorem dX0_init_27 : decode cX0_init 27 = .ok (.return_, 1) := by decide +kernel
theorem dX0_firstSwap_0 : decode cX0_firstSwap 0 = .ok (.iconst 0, 1) := by decide +kernel
theorem dX0_firstSwap_1 : decode cX0_firstSwap 1 = .ok (.istore_n 3, 1) := by decide +kernel
theorem dX0_firstSwap_2 : decode cX0_firstSwap 2 = .ok (.iload_n 3, 1) := by decide +kernel
theorem dX0_firstSwap_3 : decode cX0_firstSwap 3 = .ok (.aload_n 1, 1) := by decide +kernel
theorem dX0_firstSwap_4 : decode cX0_firstSwap 4 = .ok (.getfield 21, 3) := by decide +kernel
theorem dX0_firstSwap_7 : decode cX0_firstSwap 7 = .ok (.if_icmp .ge 48, 3) := by decide +kernel
theorem dX0_firstSwap_10 : decode cX0_firstSwap 10 = .ok (.iload_n 3, 1) := by decide +kernel
theorem dX0_firstSwap_11 : decode cX0_firstSwap 11 = .ok (.iconst 1, 1) := by decide +kernel
theorem dX0_firstSwap_12 : decode cX0_firstSwap 12 = .ok (.iadd, 1) := by decide +kernel
theorem dX0_firstSwap_13 : decode cX0_firstSwap 13 = .ok (.istore 4, 2) := by decide +kernel
theorem dX0_firstSwap_15 : decode cX0_firstSwap 15 = .ok (.iload 4, 2) := by decide +kernel
theorem dX0_firstSwap_17 : decode cX0_firstSwap 17 = .ok (.aload_n 1, 1) := by decide +kernel
theorem dX0_firstSwap_18 : decode cX0_firstSwap 18 = .ok (.getfield 21, 3) := by decide +kernel
theorem dX0_firstSwap_21 : decode cX0_firstSwap 21 = .ok (.if_icmp .ge 28, 3) := by decide +kernel
theorem dX0_firstSwap_24 : decode cX0_firstSwap 24 = .ok (.aload_n 1, 1) := by decide +kernel
theorem dX0_firstSwap_25 : decode cX0_firstSwap 25 = .ok (.aload_n 2, 1) := by decide +kernel
theorem dX0_firstSwap_26 : decode cX0_firstSwap 26 = .ok (.iload_n 3, 1) := by decide +kernel
theorem dX0_firstSwap_27 : decode cX0_firstSwap 27 = .ok (.iload 4, 2) := by decide +kernel
theorem dX0_firstSwap_29 : decode cX0_firstSwap 29 = .ok (.invokestatic 27, 3) := by decide +kernel
theorem dX0_firstSwap_32 : decode cX0_firstSwap 32 = .ok (.ifCond .eq 11, 3) := by decide +kernel
theorem dX0_firstSwap_35 : decode cX0_firstSwap 35 = .ok (.bipush 10, 2) := by decide +kernel
theorem dX0_firstSwap_37 : decode cX0_firstSwap 37 = .ok (.iload_n 3, 1) := by decide +kernel
theorem dX0_firstSwap_38 : decode cX0_firstSwap 38 = .ok (.imul, 1) := by decide +kernel
theorem dX0_firstSwap_39 : decode cX0_firstSwap 39 = .ok (.iload 4, 2) := by decide +kernel
theorem dX0_firstSwap_41 : decode cX0_firstSwap 41 = .ok (.iadd, 1) := by decide +kernel
theorem dX0_firstSwap_42 : decode cX0_firstSwap 42 = .ok (.ireturn, 1) := by decide +kernel
theorem dX0_firstSwap_43 : decode cX0_firstSwap 43 = .ok (.iinc 4 1, 3) := by decide +kernel
theorem dX0_firstSwap_46 : decode cX0_firstSwap 46 = .ok (.goto (-31), 3) := by decide +kernel
theorem dX0_firstSwap_49 : decode cX0_firstSwap 49 = .ok (.iinc 3 1, 3) := by decide +kernel
theorem dX0_firstSwap_52 : decode cX0_firstSwap 52 = .ok (.goto (-50), 3) := by decide +kernel
theorem dX0_firstSwap_55 : decode cX0_firstSwap 55 = .ok (.bipush (-4), 2) := by decide +kernel
theorem dX0_firstSwap_57 : decode cX0_firstSwap 57 = .ok (.ireturn, 1) := by decide +kernel
theorem dX0_bothGain_0 : decode cX0_bothGain 0 = .ok (.aload_n 1, 1) := by decide +kernel
theorem dX0_bothGain_1 : decode cX0_bothGain 1 = .ok (.iload_n 2, 1) := by decide +kernel
theorem dX0_bothGain_2 : decode cX0_bothGain 2 = .ok (.invokevirtual 31, 3) := by decide +kernel
theorem dX0_bothGain_5 : decode cX0_bothGain 5 = .ok (.istore 4, 2) := by decide +kernel
theorem dX0_bothGain_7 : decode cX0_bothGain 7 = .ok (.aload_n 1, 1) := by decide +kernel
theorem dX0_bothGain_8 : decode cX0_bothGain 8 = .ok (.iload_n 3, 1) := by decide +kernel
theorem dX0_bothGain_9 : decode cX0_bothGain 9 = .ok (.invokevirtual 31, 3) := by decide +kernel
theorem dX0_bothGain_12 : decode cX0_bothGain 12 = .ok (.istore 5, 2) := by decide +kernel
theorem dX0_bothGain_14 : decode cX0_bothGain 14 = .ok (.iload 4, 2) := by decide +kernel
theorem dX0_bothGain_16 : decode cX0_bothGain 16 = .ok (.bipush (-4), 2) := by decide +kernel
theorem dX0_bothGain_18 : decode cX0_bothGain 18 = .ok (.if_icmp .eq 17, 3) := by decide +kernel
theorem dX0_bothGain_21 : decode cX0_bothGain 21 = .ok (.iload 5, 2) := by decide +kernel
theorem dX0_bothGain_23 : decode cX0_bothGain 23 = .ok (.bipush (-4), 2) := by decide +kernel
theorem dX0_bothGain_25 : decode cX0_bothGain 25 = .ok (.if_icmp .eq 10, 3) := by decide +kernel
theorem dX0_bothGain_28 : decode cX0_bothGain 28 = .ok (.iload 4, 2) := by decide +kernel
theorem dX0_bothGain_30 : decode cX0_bothGain 30 = .ok (.iload 5, 2) := by decide +kernel
theorem dX0_bothGain_32 : decode cX0_bothGain 32 = .ok (.if_icmp .ne 5, 3) := by decide +kernel
theorem dX0_bothGain_35 : decode cX0_bothGain 35 = .ok (.iconst 0, 1) := by decide +kernel
theorem dX0_bothGain_36 : decode cX0_bothGain 36 = .ok (.ireturn, 1) := by decide +kernel
theorem dX0_bothGain_37 : decode cX0_bothGain 37 = .ok (.iconst 1, 1) := by decide +kernel
theorem dX0_bothGain_38 : decode cX0_bothGain 38 = .ok (.iload_n 2, 1) := by decide +kernel
theorem dX0_bothGain_39 : decode cX0_bothGain 39 = .ok (.ishl, 1) := by decide +kernel
theorem dX0_bothGain_40 : decode cX0_bothGain 40 = .ok (.iconst 1, 1) := by decide +kernel
theorem dX0_bothGain_41 : decode cX0_bothGain 41 = .ok (.iload_n 3, 1) := by decide +kernel
theorem dX0_bothGain_42 : decode cX0_bothGain 42 = .ok (.ishl, 1) := by decide +kernel
theorem dX0_bothGain_43 : decode cX0_bothGain 43 = .ok (.ior, 1) := by decide +kernel
theorem dX0_bothGain_44 : decode cX0_bothGain 44 = .ok (.istore 6, 2) := by decide +kernel
theorem dX0_bothGain_46 : decode cX0_bothGain 46 = .ok (.aload_n 0, 1) := by decide +kernel
theorem dX0_bothGain_47 : decode cX0_bothGain 47 = .ok (.aload_n 1, 1) := by decide +kernel
theorem dX0_bothGain_48 : decode cX0_bothGain 48 = .ok (.iload 4, 2) := by decide +kernel
theorem dX0_bothGain_50 : decode cX0_bothGain 50 = .ok (.iload 6, 2) := by decide +kernel
theorem dX0_bothGain_52 : decode cX0_bothGain 52 = .ok (.invokestatic 37, 3) := by decide +kernel
theorem dX0_bothGain_55 : decode cX0_bothGain 55 = .ok (.ifCond .le 19, 3) := by decide +kernel
theorem dX0_bothGain_58 : decode cX0_bothGain 58 = .ok (.aload_n 0, 1) := by decide +kernel
theorem dX0_bothGain_59 : decode cX0_bothGain 59 = .ok (.aload_n 1, 1) := by decide +kernel
theorem dX0_bothGain_60 : decode cX0_bothGain 60 = .ok (.iload 5, 2) := by decide +kernel
theorem dX0_bothGain_62 : decode cX0_bothGain 62 = .ok (.iload 6, 2) := by decide +kernel
theorem dX0_bothGain_64 : decode cX0_bothGain 64 = .ok (.invokestatic 37, 3) := by decide +kernel
theorem dX0_bothGain_67 : decode cX0_bothGain 67 = .ok (.ifCond .le 7, 3) := by decide +kernel
theorem dX0_bothGain_70 : decode cX0_bothGain 70 = .ok (.iconst 1, 1) := by decide +kernel
theorem dX0_bothGain_71 : decode cX0_bothGain 71 = .ok (.goto 4, 3) := by decide +kernel
theorem dX0_bothGain_74 : decode cX0_bothGain 74 = .ok (.iconst 0, 1) := by decide +kernel
theorem dX0_bothGain_75 : decode cX0_bothGain 75 = .ok (.ireturn, 1) := by decide +kernel
theorem dX0_change_0 : decode cX0_change 0 = .ok (.aload_n 1, 1) := by decide +kernel
theorem dX0_change_1 : decode cX0_change 1 = .ok (.iload_n 2, 1) := by decide +kernel
theorem dX0_change_2 : decode cX0_change 2 = .ok (.invokevirtual 41, 3) := by decide +kernel
theorem dX0_change_5 : decode cX0_change 5 = .ok (.istore 4, 2) := by decide +kernel
theorem dX0_change_7 : decode cX0_change 7 = .ok (.aload_n 0, 1) := by decide +kernel
theorem dX0_change_8 : decode cX0_change 8 = .ok (.iload_n 2, 1) := by decide +kernel
theorem dX0_change_9 : decode cX0_change 9 = .ok (.iload 4, 2) := by decide +kernel
theorem dX0_change_11 : decode cX0_change 11 = .ok (.iload_n 3, 1) := by decide +kernel
theorem dX0_change_12 : decode cX0_change 12 = .ok (.ixor, 1) := by decide +kernel
theorem dX0_change_13 : decode cX0_change 13 = .ok (.invokevirtual 44, 3) := by decide +kernel
theorem dX0_change_16 : decode cX0_change 16 = .ok (.aload_n 0, 1) := by decide +kernel
theorem dX0_change_17 : decode cX0_change 17 = .ok (.iload_n 2, 1) := by decide +kernel
theorem dX0_change_18 : decode cX0_change 18 = .ok (.iload 4, 2) := by decide +kernel
theorem dX0_change_20 : decode cX0_change 20 = .ok (.invokevirtual 44, 3) := by decide +kernel
theorem dX0_change_23 : decode cX0_change 23 = .ok (.isub, 1) := by decide +kernel
theorem dX0_change_24 : decode cX0_change 24 = .ok (.ireturn, 1) := by decide +kernel
theorem dX0_firstGift_0 : decode cX0_firstGift 0 = .ok (.iconst 0, 1) := by decide +kernel
theorem dX0_firstGift_1 : decode cX0_firstGift 1 = .ok (.istore_n 3, 1) := by decide +kernel
theorem dX0_firstGift_2 : decode cX0_firstGift 2 = .ok (.iload_n 3, 1) := by decide +kernel
theorem dX0_firstGift_3 : decode cX0_firstGift 3 = .ok (.aload_n 1, 1) := by decide +kernel
theorem dX0_firstGift_4 : decode cX0_firstGift 4 = .ok (.getfield 21, 3) := by decide +kernel
theorem dX0_firstGift_7 : decode cX0_firstGift 7 = .ok (.if_icmp .ge 46, 3) := by decide +kernel
theorem dX0_firstGift_10 : decode cX0_firstGift 10 = .ok (.iconst 0, 1) := by decide +kernel
theorem dX0_firstGift_11 : decode cX0_firstGift 11 = .ok (.istore 4, 2) := by decide +kernel
theorem dX0_firstGift_13 : decode cX0_firstGift 13 = .ok (.iload 4, 2) := by decide +kernel
theorem dX0_firstGift_15 : decode cX0_firstGift 15 = .ok (.aload_n 1, 1) := by decide +kernel
theorem dX0_firstGift_16 : decode cX0_firstGift 16 = .ok (.getfield 48, 3) := by decide +kernel
theorem dX0_firstGift_19 : decode cX0_firstGift 19 = .ok (.if_icmp .ge 28, 3) := by decide +kernel
theorem dX0_firstGift_22 : decode cX0_firstGift 22 = .ok (.aload_n 1, 1) := by decide +kernel
theorem dX0_firstGift_23 : decode cX0_firstGift 23 = .ok (.aload_n 2, 1) := by decide +kernel
theorem dX0_firstGift_24 : decode cX0_firstGift 24 = .ok (.iload_n 3, 1) := by decide +kernel
theorem dX0_firstGift_25 : decode cX0_firstGift 25 = .ok (.iload 4, 2) := by decide +kernel
theorem dX0_firstGift_27 : decode cX0_firstGift 27 = .ok (.invokestatic 51, 3) := by decide +kernel
theorem dX0_firstGift_30 : decode cX0_firstGift 30 = .ok (.ifCond .eq 11, 3) := by decide +kernel
theorem dX0_firstGift_33 : decode cX0_firstGift 33 = .ok (.bipush 10, 2) := by decide +kernel
theorem dX0_firstGift_35 : decode cX0_firstGift 35 = .ok (.iload_n 3, 1) := by decide +kernel
theorem dX0_firstGift_36 : decode cX0_firstGift 36 = .ok (.imul, 1) := by decide +kernel
theorem dX0_firstGift_37 : decode cX0_firstGift 37 = .ok (.iload 4, 2) := by decide +kernel
theorem dX0_firstGift_39 : decode cX0_firstGift 39 = .ok (.iadd, 1) := by decide +kernel
theorem dX0_firstGift_40 : decode cX0_firstGift 40 = .ok (.ireturn, 1) := by decide +kernel
theorem dX0_firstGift_41 : decode cX0_firstGift 41 = .ok (.iinc 4 1, 3) := by decide +kernel
theorem dX0_firstGift_44 : decode cX0_firstGift 44 = .ok (.goto (-31), 3) := by decide +kernel
theorem dX0_firstGift_47 : decode cX0_firstGift 47 = .ok (.iinc 3 1, 3) := by decide +kernel
theorem dX0_firstGift_50 : decode cX0_firstGift 50 = .ok (.goto (-48), 3) := by decide +kernel
theorem dX0_firstGift_53 : decode cX0_firstGift 53 = .ok (.bipush (-4), 2) := by decide +kernel
theorem dX0_firstGift_55 : decode cX0_firstGift 55 = .ok (.ireturn, 1) := by decide +kernel
theorem dX0_isGoodGift_0 : decode cX0_isGoodGift 0 = .ok (.aload_n 1, 1) := by decide +kernel
theorem dX0_isGoodGift_1 : decode cX0_isGoodGift 1 = .ok (.iload_n 2, 1) := by decide +kernel
theorem dX0_isGoodGift_2 : decode cX0_isGoodGift 2 = .ok (.invokevirtual 31, 3) := by decide +kernel
theorem dX0_isGoodGift_5 : decode cX0_isGoodGift 5 = .ok (.istore 4, 2) := by decide +kernel
theorem dX0_isGoodGift_7 : decode cX0_isGoodGift 7 = .ok (.iload 4, 2) := by decide +kernel
theorem dX0_isGoodGift_9 : decode cX0_isGoodGift 9 = .ok (.bipush (-4), 2) := by decide +kernel
theorem dX0_isGoodGift_11 : decode cX0_isGoodGift 11 = .ok (.if_icmp .eq 9, 3) := by decide +kernel
theorem dX0_isGoodGift_14 : decode cX0_isGoodGift 14 = .ok (.iload 4, 2) := by decide +kernel
theorem dX0_isGoodGift_16 : decode cX0_isGoodGift 16 = .ok (.iload_n 3, 1) := by decide +kernel
theorem dX0_isGoodGift_17 : decode cX0_isGoodGift 17 = .ok (.if_icmp .ne 5, 3) := by decide +kernel
theorem dX0_isGoodGift_20 : decode cX0_isGoodGift 20 = .ok (.iconst 0, 1) := by decide +kernel
theorem dX0_isGoodGift_21 : decode cX0_isGoodGift 21 = .ok (.ireturn, 1) := by decide +kernel
theorem dX0_isGoodGift_22 : decode cX0_isGoodGift 22 = .ok (.aload_n 0, 1) := by decide +kernel
theorem dX0_isGoodGift_23 : decode cX0_isGoodGift 23 = .ok (.aload_n 1, 1) := by decide +kernel
theorem dX0_isGoodGift_24 : decode cX0_isGoodGift 24 = .ok (.iload 4, 2) := by decide +kernel
theorem dX0_isGoodGift_26 : decode cX0_isGoodGift 26 = .ok (.iconst 1, 1) := by decide +kernel
theorem dX0_isGoodGift_27 : decode cX0_isGoodGift 27 = .ok (.iload_n 2, 1) := by decide +kernel
theorem dX0_isGoodGift_28 : decode cX0_isGoodGift 28 = .ok (.ishl, 1) := by decide +kernel
theorem dX0_isGoodGift_29 : decode cX0_isGoodGift 29 = .ok (.invokestatic 37, 3) := by decide +kernel
theorem dX0_isGoodGift_32 : decode cX0_isGoodGift 32 = .ok (.istore 5, 2) := by decide +kernel
theorem dX0_isGoodGift_34 : decode cX0_isGoodGift 34 = .ok (.aload_n 0, 1) := by decide +kernel
theorem dX0_isGoodGift_35 : decode cX0_isGoodGift 35 = .ok (.aload_n 1, 1) := by decide +kernel
theorem dX0_isGoodGift_36 : decode cX0_isGoodGift 36 = .ok (.iload_n 3, 1) := by decide +kernel
theorem dX0_isGoodGift_37 : decode cX0_isGoodGift 37 = .ok (.iconst 1, 1) := by decide +kernel
theorem dX0_isGoodGift_38 : decode cX0_isGoodGift 38 = .ok (.iload_n 2, 1) := by decide +kernel
theorem dX0_isGoodGift_39 : decode cX0_isGoodGift 39 = .ok (.ishl, 1) := by decide +kernel
theorem dX0_isGoodGift_40 : decode cX0_isGoodGift 40 = .ok (.invokestatic 37, 3) := by decide +kernel
theorem dX0_isGoodGift_43 : decode cX0_isGoodGift 43 = .ok (.istore 6, 2) := by decide +kernel
theorem dX0_isGoodGift_45 : decode cX0_isGoodGift 45 = .ok (.iload 5, 2) := by decide +kernel
theorem dX0_isGoodGift_47 : decode cX0_isGoodGift 47 = .ok (.ifCond .lt 20, 3) := by decide +kernel
theorem dX0_isGoodGift_50 : decode cX0_isGoodGift 50 = .ok (.iload 6, 2) := by decide +kernel
theorem dX0_isGoodGift_52 : decode cX0_isGoodGift 52 = .ok (.ifCond .lt 15, 3) := by decide +kernel
theorem dX0_isGoodGift_55 : decode cX0_isGoodGift 55 = .ok (.iload 5, 2) := by decide +kernel
theorem dX0_isGoodGift_57 : decode cX0_isGoodGift 57 = .ok (.iload 6, 2) := by decide +kernel
theorem dX0_isGoodGift_59 : decode cX0_isGoodGift 59 = .ok (.iadd, 1) := by decide +kernel
theorem dX0_isGoodGift_60 : decode cX0_isGoodGift 60 = .ok (.ifCond .le 7, 3) := by decide +kernel
theorem dX0_isGoodGift_63 : decode cX0_isGoodGift 63 = .ok (.iconst 1, 1) := by decide +kernel
theorem dX0_isGoodGift_64 : decode cX0_isGoodGift 64 = .ok (.goto 4, 3) := by decide +kernel
theorem dX0_isGoodGift_67 : decode cX0_isGoodGift 67 = .ok (.iconst 0, 1) := by decide +kernel
theorem dX0_isGoodGift_68 : decode cX0_isGoodGift 68 = .ok (.ireturn, 1) := by decide +kernel
theorem dX0_bestSum_0 : decode cX0_bestSum 0 = .ok (.aload_n 0, 1) := by decide +kernel
theorem dX0_bestSum_1 : decode cX0_bestSum 1 = .ok (.aload_n 1, 1) := by decide +kernel
theorem dX0_bestSum_2 : decode cX0_bestSum 2 = .ok (.aload_n 2, 1) := by decide +kernel
theorem dX0_bestSum_3 : decode cX0_bestSum 3 = .ok (.invokevirtual 54, 3) := by decide +kernel
theorem dX0_bestSum_6 : decode cX0_bestSum 6 = .ok (.invokevirtual 58, 3) := by decide +kernel
theorem dX0_bestSum_9 : decode cX0_bestSum 9 = .ok (.invokestatic 62, 3) := by decide +kernel
theorem dX0_bestSum_12 : decode cX0_bestSum 12 = .ok (.ireturn, 1) := by decide +kernel
theorem dX0_bestOwner_0 : decode cX0_bestOwner 0 = .ok (.aload_n 2, 1) := by decide +kernel
theorem dX0_bestOwner_1 : decode cX0_bestOwner 1 = .ok (.iload_n 3, 1) := by decide +kernel
theorem dX0_bestOwner_2 : decode cX0_bestOwner 2 = .ok (.invokevirtual 31, 3) := by decide +kernel
theorem dX0_bestOwner_5 : decode cX0_bestOwner 5 = .ok (.bipush (-4), 2) := by decide +kernel
theorem dX0_bestOwner_7 : decode cX0_bestOwner 7 = .ok (.if_icmp .ne 6, 3) := by decide +kernel
theorem dX0_bestOwner_10 : decode cX0_bestOwner 10 = .ok (.bipush (-4), 2) := by decide +kernel
theorem dX0_bestOwner_12 : decode cX0_bestOwner 12 = .ok (.ireturn, 1) := by decide +kernel
theorem dX0_bestOwner_13 : decode cX0_bestOwner 13 = .ok (.aload_n 0, 1) := by decide +kernel
theorem dX0_bestOwner_14 : decode cX0_bestOwner 14 = .ok (.aload_n 1, 1) := by decide +kernel
theorem dX0_bestOwner_15 : decode cX0_bestOwner 15 = .ok (.aload_n 2, 1) := by decide +kernel
theorem dX0_bestOwner_16 : decode cX0_bestOwner 16 = .ok (.invokevirtual 54, 3) := by decide +kernel
theorem dX0_bestOwner_19 : decode cX0_bestOwner 19 = .ok (.invokevirtual 58, 3) := by decide +kernel
theorem dX0_bestOwner_22 : decode cX0_bestOwner 22 = .ok (.istore 4, 2) := by decide +kernel
theorem dX0_bestOwner_24 : decode cX0_bestOwner 24 = .ok (.iload 4, 2) := by decide +kernel
theorem dX0_bestOwner_26 : decode cX0_bestOwner 26 = .ok (.invokestatic 62, 3) := by decide +kernel
theorem dX0_bestOwner_29 : decode cX0_bestOwner 29 = .ok (.bipush 18, 2) := by decide +kernel
theorem dX0_bestOwner_31 : decode cX0_bestOwner 31 = .ok (.ishl, 1) := by decide +kernel
theorem dX0_bestOwner_32 : decode cX0_bestOwner 32 = .ok (.iload 4, 2) := by decide +kernel
theorem dX0_bestOwner_34 : decode cX0_bestOwner 34 = .ok (.isub, 1) := by decide +kernel
theorem dX0_bestOwner_35 : decode cX0_bestOwner 35 = .ok (.istore 5, 2) := by decide +kernel
theorem dX0_bestOwner_37 : decode cX0_bestOwner 37 = .ok (.iload 5, 2) := by decide +kernel
theorem dX0_bestOwner_39 : decode cX0_bestOwner 39 = .ok (.iload_n 3, 1) := by decide +kernel
theorem dX0_bestOwner_40 : decode cX0_bestOwner 40 = .ok (.invokestatic 65, 3) := by decide +kernel
theorem dX0_bestOwner_43 : decode cX0_bestOwner 43 = .ok (.ishr, 1) := by decide +kernel
theorem dX0_bestOwner_44 : decode cX0_bestOwner 44 = .ok (.bipush 7, 2) := by decide +kernel
theorem dX0_bestOwner_46 : decode cX0_bestOwner 46 = .ok (.iand, 1) := by decide +kernel
theorem dX0_bestOwner_47 : decode cX0_bestOwner 47 = .ok (.ireturn, 1) := by decide +kernel
theorem dX0_bestSharing_0 : decode cX0_bestSharing 0 = .ok (.iconst 0, 1) := by decide +kernel
theorem dX0_bestSharing_1 : decode cX0_bestSharing 1 = .ok (.istore_n 3, 1) := by decide +kernel
theorem dX0_bestSharing_2 : decode cX0_bestSharing 2 = .ok (.iload_n 3, 1) := by decide +kernel
theorem dX0_bestSharing_3 : decode cX0_bestSharing 3 = .ok (.aload_n 1, 1) := by decide +kernel
theorem dX0_bestSharing_4 : decode cX0_bestSharing 4 = .ok (.getfield 48, 3) := by decide +kernel
theorem dX0_bestSharing_7 : decode cX0_bestSharing 7 = .ok (.if_icmp .ge 66, 3) := by decide +kernel
theorem dX0_bestSharing_10 : decode cX0_bestSharing 10 = .ok (.aload_n 0, 1) := by decide +kernel
theorem dX0_bestSharing_11 : decode cX0_bestSharing 11 = .ok (.aload_n 1, 1) := by decide +kernel
theorem dX0_bestSharing_12 : decode cX0_bestSharing 12 = .ok (.iload_n 3, 1) := by decide +kernel
theorem dX0_bestSharing_13 : decode cX0_bestSharing 13 = .ok (.iload_n 2, 1) := by decide +kernel
theorem dX0_bestSharing_14 : decode cX0_bestSharing 14 = .ok (.invokevirtual 68, 3) := by decide +kernel
theorem dX0_bestSharing_17 : decode cX0_bestSharing 17 = .ok (.iload_n 2, 1) := by decide +kernel
theorem dX0_bestSharing_18 : decode cX0_bestSharing 18 = .ok (.istore 4, 2) := by decide +kernel
theorem dX0_bestSharing_20 : decode cX0_bestSharing 20 = .ok (.iload 4, 2) := by decide +kernel
theorem dX0_bestSharing_22 : decode cX0_bestSharing 22 = .ok (.ifCond .lt 45, 3) := by decide +kernel
theorem dX0_bestSharing_25 : decode cX0_bestSharing 25 = .ok (.iload 4, 2) := by decide +kernel
theorem dX0_bestSharing_27 : decode cX0_bestSharing 27 = .ok (.iload_n 2, 1) := by decide +kernel
theorem dX0_bestSharing_28 : decode cX0_bestSharing 28 = .ok (.iconst (-1), 1) := by decide +kernel
theorem dX0_bestSharing_29 : decode cX0_bestSharing 29 = .ok (.ixor, 1) := by decide +kernel
theorem dX0_bestSharing_30 : decode cX0_bestSharing 30 = .ok (.iand, 1) := by decide +kernel
theorem dX0_bestSharing_31 : decode cX0_bestSharing 31 = .ok (.ifCond .ne 30, 3) := by decide +kernel
theorem dX0_bestSharing_34 : decode cX0_bestSharing 34 = .ok (.aload_n 0, 1) := by decide +kernel
theorem dX0_bestSharing_35 : decode cX0_bestSharing 35 = .ok (.getfield 15, 3) := by decide +kernel
theorem dX0_bestSharing_38 : decode cX0_bestSharing 38 = .ok (.iload 4, 2) := by decide +kernel
theorem dX0_bestSharing_40 : decode cX0_bestSharing 40 = .ok (.iload_n 3, 1) := by decide +kernel
theorem dX0_bestSharing_41 : decode cX0_bestSharing 41 = .ok (.ifCond .ne 13, 3) := by decide +kernel
theorem dX0_bestSharing_44 : decode cX0_bestSharing 44 = .ok (.aload_n 0, 1) := by decide +kernel
theorem dX0_bestSharing_45 : decode cX0_bestSharing 45 = .ok (.getfield 11, 3) := by decide +kernel
theorem dX0_bestSharing_48 : decode cX0_bestSharing 48 = .ok (.iload 4, 2) := by decide +kernel
theorem dX0_bestSharing_50 : decode cX0_bestSharing 50 = .ok (.iaload, 1) := by decide +kernel
theorem dX0_bestSharing_51 : decode cX0_bestSharing 51 = .ok (.goto 9, 3) := by decide +kernel
theorem dX0_bestSharing_54 : decode cX0_bestSharing 54 = .ok (.aload_n 0, 1) := by decide +kernel
theorem dX0_bestSharing_55 : decode cX0_bestSharing 55 = .ok (.iload 4, 2) := by decide +kernel
theorem dX0_bestSharing_57 : decode cX0_bestSharing 57 = .ok (.invokevirtual 72, 3) := by decide +kernel
theorem dX0_bestSharing_60 : decode cX0_bestSharing 60 = .ok (.iastore, 1) := by decide +kernel
theorem dX0_bestSharing_61 : decode cX0_bestSharing 61 = .ok (.iinc 4 (-1), 3) := by decide +kernel
theorem dX0_bestSharing_64 : decode cX0_bestSharing 64 = .ok (.goto (-44), 3) := by decide +kernel
theorem dX0_bestSharing_67 : decode cX0_bestSharing 67 = .ok (.iinc 3 1, 3) := by decide +kernel
theorem dX0_bestSharing_70 : decode cX0_bestSharing 70 = .ok (.goto (-68), 3) := by decide +kernel
theorem dX0_bestSharing_73 : decode cX0_bestSharing 73 = .ok (.aload_n 0, 1) := by decide +kernel
theorem dX0_bestSharing_74 : decode cX0_bestSharing 74 = .ok (.getfield 15, 3) := by decide +kernel
theorem dX0_bestSharing_77 : decode cX0_bestSharing 77 = .ok (.iload_n 2, 1) := by decide +kernel
theorem dX0_bestSharing_78 : decode cX0_bestSharing 78 = .ok (.iaload, 1) := by decide +kernel
theorem dX0_bestSharing_79 : decode cX0_bestSharing 79 = .ok (.ireturn, 1) := by decide +kernel
theorem dX0_tellGains_0 : decode cX0_tellGains 0 = .ok (.iconst 0, 1) := by decide +kernel
theorem dX0_tellGains_1 : decode cX0_tellGains 1 = .ok (.istore 4, 2) := by decide +kernel
theorem dX0_tellGains_3 : decode cX0_tellGains 3 = .ok (.iload 4, 2) := by decide +kernel
theorem dX0_tellGains_5 : decode cX0_tellGains 5 = .ok (.iload_n 3, 1) := by decide +kernel
theorem dX0_tellGains_6 : decode cX0_tellGains 6 = .ok (.if_icmp .gt 70, 3) := by decide +kernel
theorem dX0_tellGains_9 : decode cX0_tellGains 9 = .ok (.iconst 0, 1) := by decide +kernel
theorem dX0_tellGains_10 : decode cX0_tellGains 10 = .ok (.istore 5, 2) := by decide +kernel
theorem dX0_tellGains_12 : decode cX0_tellGains 12 = .ok (.iconst 0, 1) := by decide +kernel
theorem dX0_tellGains_13 : decode cX0_tellGains 13 = .ok (.istore 6, 2) := by decide +kernel
theorem dX0_tellGains_15 : decode cX0_tellGains 15 = .ok (.iload 6, 2) := by decide +kernel
theorem dX0_tellGains_17 : decode cX0_tellGains 17 = .ok (.aload_n 1, 1) := by decide +kernel
theorem dX0_tellGains_18 : decode cX0_tellGains 18 = .ok (.getfield 21, 3) := by decide +kernel
theorem dX0_tellGains_21 : decode cX0_tellGains 21 = .ok (.if_icmp .ge 29, 3) := by decide +kernel
theorem dX0_tellGains_24 : decode cX0_tellGains 24 = .ok (.iload 5, 2) := by decide +kernel
theorem dX0_tellGains_26 : decode cX0_tellGains 26 = .ok (.iload 4, 2) := by decide +kernel
theorem dX0_tellGains_28 : decode cX0_tellGains 28 = .ok (.iload 6, 2) := by decide +kernel
theorem dX0_tellGains_30 : decode cX0_tellGains 30 = .ok (.ishr, 1) := by decide +kernel
theorem dX0_tellGains_31 : decode cX0_tellGains 31 = .ok (.iconst 1, 1) := by decide +kernel
theorem dX0_tellGains_32 : decode cX0_tellGains 32 = .ok (.iand, 1) := by decide +kernel
theorem dX0_tellGains_33 : decode cX0_tellGains 33 = .ok (.iload_n 2, 1) := by decide +kernel
theorem dX0_tellGains_34 : decode cX0_tellGains 34 = .ok (.imul, 1) := by decide +kernel
theorem dX0_tellGains_35 : decode cX0_tellGains 35 = .ok (.iload 6, 2) := by decide +kernel
theorem dX0_tellGains_37 : decode cX0_tellGains 37 = .ok (.invokestatic 65, 3) := by decide +kernel
theorem dX0_tellGains_40 : decode cX0_tellGains 40 = .ok (.ishl, 1) := by decide +kernel
theorem dX0_tellGains_41 : decode cX0_tellGains 41 = .ok (.iadd, 1) := by decide +kernel
theorem dX0_tellGains_42 : decode cX0_tellGains 42 = .ok (.istore 5, 2) := by decide +kernel
theorem dX0_tellGains_44 : decode cX0_tellGains 44 = .ok (.iinc 6 1, 3) := by decide +kernel
theorem dX0_tellGains_47 : decode cX0_tellGains 47 = .ok (.goto (-32), 3) := by decide +kernel
theorem dX0_tellGains_50 : decode cX0_tellGains 50 = .ok (.aload_n 0, 1) := by decide +kernel
theorem dX0_tellGains_51 : decode cX0_tellGains 51 = .ok (.getfield 11, 3) := by decide +kernel
theorem dX0_tellGains_54 : decode cX0_tellGains 54 = .ok (.iload 4, 2) := by decide +kernel
theorem dX0_tellGains_56 : decode cX0_tellGains 56 = .ok (.aload_n 1, 1) := by decide +kernel
theorem dX0_tellGains_57 : decode cX0_tellGains 57 = .ok (.iload_n 2, 1) := by decide +kernel
theorem dX0_tellGains_58 : decode cX0_tellGains 58 = .ok (.iload 4, 2) := by decide +kernel
theorem dX0_tellGains_60 : decode cX0_tellGains 60 = .ok (.invokevirtual 44, 3) := by decide +kernel
theorem dX0_tellGains_63 : decode cX0_tellGains 63 = .ok (.bipush 18, 2) := by decide +kernel
theorem dX0_tellGains_65 : decode cX0_tellGains 65 = .ok (.ishl, 1) := by decide +kernel
theorem dX0_tellGains_66 : decode cX0_tellGains 66 = .ok (.iload 5, 2) := by decide +kernel
theorem dX0_tellGains_68 : decode cX0_tellGains 68 = .ok (.isub, 1) := by decide +kernel
theorem dX0_tellGains_69 : decode cX0_tellGains 69 = .ok (.iastore, 1) := by decide +kernel
theorem dX0_tellGains_70 : decode cX0_tellGains 70 = .ok (.iinc 4 1, 3) := by decide +kernel
theorem dX0_tellGains_73 : decode cX0_tellGains 73 = .ok (.goto (-70), 3) := by decide +kernel
theorem dX0_tellGains_76 : decode cX0_tellGains 76 = .ok (.return_, 1) := by decide +kernel
theorem dX0_bestWith_0 : decode cX0_bestWith 0 = .ok (.aload_n 0, 1) := by decide +kernel
theorem dX0_bestWith_1 : decode cX0_bestWith 1 = .ok (.getfield 15, 3) := by decide +kernel
theorem dX0_bestWith_4 : decode cX0_bestWith 4 = .ok (.iload_n 1, 1) := by decide +kernel
theorem dX0_bestWith_5 : decode cX0_bestWith 5 = .ok (.iaload, 1) := by decide +kernel
theorem dX0_bestWith_6 : decode cX0_bestWith 6 = .ok (.istore_n 2, 1) := by decide +kernel
theorem dX0_bestWith_7 : decode cX0_bestWith 7 = .ok (.iload_n 1, 1) := by decide +kernel
theorem dX0_bestWith_8 : decode cX0_bestWith 8 = .ok (.istore_n 3, 1) := by decide +kernel
theorem dX0_bestWith_9 : decode cX0_bestWith 9 = .ok (.iload_n 3, 1) := by decide +kernel
theorem dX0_bestWith_10 : decode cX0_bestWith 10 = .ok (.ifCond .le 32, 3) := by decide +kernel
theorem dX0_bestWith_13 : decode cX0_bestWith 13 = .ok (.iload_n 2, 1) := by decide +kernel
theorem dX0_bestWith_14 : decode cX0_bestWith 14 = .ok (.aload_n 0, 1) := by decide +kernel
theorem dX0_bestWith_15 : decode cX0_bestWith 15 = .ok (.getfield 11, 3) := by decide +kernel
theorem dX0_bestWith_18 : decode cX0_bestWith 18 = .ok (.iload_n 3, 1) := by decide +kernel
theorem dX0_bestWith_19 : decode cX0_bestWith 19 = .ok (.iaload, 1) := by decide +kernel
theorem dX0_bestWith_20 : decode cX0_bestWith 20 = .ok (.aload_n 0, 1) := by decide +kernel
theorem dX0_bestWith_21 : decode cX0_bestWith 21 = .ok (.getfield 15, 3) := by decide +kernel
theorem dX0_bestWith_24 : decode cX0_bestWith 24 = .ok (.iload_n 1, 1) := by decide +kernel
theorem dX0_bestWith_25 : decode cX0_bestWith 25 = .ok (.iload_n 3, 1) := by decide +kernel
theorem dX0_bestWith_26 : decode cX0_bestWith 26 = .ok (.ixor, 1) := by decide +kernel
theorem dX0_bestWith_27 : decode cX0_bestWith 27 = .ok (.iaload, 1) := by decide +kernel
theorem dX0_bestWith_28 : decode cX0_bestWith 28 = .ok (.iadd, 1) := by decide +kernel
theorem dX0_bestWith_29 : decode cX0_bestWith 29 = .ok (.invokestatic 75, 3) := by decide +kernel
theorem dX0_bestWith_32 : decode cX0_bestWith 32 = .ok (.istore_n 2, 1) := by decide +kernel
theorem dX0_bestWith_33 : decode cX0_bestWith 33 = .ok (.iload_n 3, 1) := by decide +kernel
theorem dX0_bestWith_34 : decode cX0_bestWith 34 = .ok (.iconst 1, 1) := by decide +kernel
theorem dX0_bestWith_35 : decode cX0_bestWith 35 = .ok (.isub, 1) := by decide +kernel
theorem dX0_bestWith_36 : decode cX0_bestWith 36 = .ok (.iload_n 1, 1) := by decide +kernel
theorem dX0_bestWith_37 : decode cX0_bestWith 37 = .ok (.iand, 1) := by decide +kernel
theorem dX0_bestWith_38 : decode cX0_bestWith 38 = .ok (.istore_n 3, 1) := by decide +kernel
theorem dX0_bestWith_39 : decode cX0_bestWith 39 = .ok (.goto (-30), 3) := by decide +kernel
theorem dX0_bestWith_42 : decode cX0_bestWith 42 = .ok (.iload_n 2, 1) := by decide +kernel
theorem dX0_bestWith_43 : decode cX0_bestWith 43 = .ok (.ireturn, 1) := by decide +kernel
theorem dX0_placeOf_0 : decode cX0_placeOf 0 = .ok (.iconst 3, 1) := by decide +kernel
theorem dX0_placeOf_1 : decode cX0_placeOf 1 = .ok (.iconst 5, 1) := by decide +kernel
theorem dX0_placeOf_2 : decode cX0_placeOf 2 = .ok (.iload_n 0, 1) := by decide +kernel
theorem dX0_placeOf_3 : decode cX0_placeOf 3 = .ok (.isub, 1) := by decide +kernel
theorem dX0_placeOf_4 : decode cX0_placeOf 4 = .ok (.imul, 1) := by decide +kernel
theorem dX0_placeOf_5 : decode cX0_placeOf 5 = .ok (.ireturn, 1) := by decide +kernel
theorem dX0_sumIn_0 : decode cX0_sumIn 0 = .ok (.iload_n 0, 1) := by decide +kernel
theorem dX0_sumIn_1 : decode cX0_sumIn 1 = .ok (.ldc 80, 2) := by decide +kernel
theorem dX0_sumIn_3 : decode cX0_sumIn 3 = .ok (.iadd, 1) := by decide +kernel
theorem dX0_sumIn_4 : decode cX0_sumIn 4 = .ok (.iconst 1, 1) := by decide +kernel
theorem dX0_sumIn_5 : decode cX0_sumIn 5 = .ok (.isub, 1) := by decide +kernel
theorem dX0_sumIn_6 : decode cX0_sumIn 6 = .ok (.bipush 18, 2) := by decide +kernel
theorem dX0_sumIn_8 : decode cX0_sumIn 8 = .ok (.ishr, 1) := by decide +kernel
theorem dX0_sumIn_9 : decode cX0_sumIn 9 = .ok (.ireturn, 1) := by decide +kernel
theorem dX0_firstEnvy_0 : decode cX0_firstEnvy 0 = .ok (.iconst 0, 1) := by decide +kernel
theorem dX0_firstEnvy_1 : decode cX0_firstEnvy 1 = .ok (.istore_n 3, 1) := by decide +kernel
theorem dX0_firstEnvy_2 : decode cX0_firstEnvy 2 = .ok (.iload_n 3, 1) := by decide +kernel
theorem dX0_firstEnvy_3 : decode cX0_firstEnvy 3 = .ok (.aload_n 1, 1) := by decide +kernel
theorem dX0_firstEnvy_4 : decode cX0_firstEnvy 4 = .ok (.getfield 48, 3) := by decide +kernel
theorem dX0_firstEnvy_7 : decode cX0_firstEnvy 7 = .ok (.if_icmp .ge 46, 3) := by decide +kernel
theorem dX0_firstEnvy_10 : decode cX0_firstEnvy 10 = .ok (.iconst 0, 1) := by decide +kernel
theorem dX0_firstEnvy_11 : decode cX0_firstEnvy 11 = .ok (.istore 4, 2) := by decide +kernel
theorem dX0_firstEnvy_13 : decode cX0_firstEnvy 13 = .ok (.iload 4, 2) := by decide +kernel
theorem dX0_firstEnvy_15 : decode cX0_firstEnvy 15 = .ok (.aload_n 1, 1) := by decide +kernel
theorem dX0_firstEnvy_16 : decode cX0_firstEnvy 16 = .ok (.getfield 48, 3) := by decide +kernel
theorem dX0_firstEnvy_19 : decode cX0_firstEnvy 19 = .ok (.if_icmp .ge 28, 3) := by decide +kernel
theorem dX0_firstEnvy_22 : decode cX0_firstEnvy 22 = .ok (.aload_n 1, 1) := by decide +kernel
theorem dX0_firstEnvy_23 : decode cX0_firstEnvy 23 = .ok (.aload_n 2, 1) := by decide +kernel
theorem dX0_firstEnvy_24 : decode cX0_firstEnvy 24 = .ok (.iload_n 3, 1) := by decide +kernel
theorem dX0_firstEnvy_25 : decode cX0_firstEnvy 25 = .ok (.iload 4, 2) := by decide +kernel
theorem dX0_firstEnvy_27 : decode cX0_firstEnvy 27 = .ok (.invokestatic 81, 3) := by decide +kernel
theorem dX0_firstEnvy_30 : decode cX0_firstEnvy 30 = .ok (.ifCond .eq 11, 3) := by decide +kernel
theorem dX0_firstEnvy_33 : decode cX0_firstEnvy 33 = .ok (.bipush 10, 2) := by decide +kernel
theorem dX0_firstEnvy_35 : decode cX0_firstEnvy 35 = .ok (.iload_n 3, 1) := by decide +kernel
theorem dX0_firstEnvy_36 : decode cX0_firstEnvy 36 = .ok (.imul, 1) := by decide +kernel
theorem dX0_firstEnvy_37 : decode cX0_firstEnvy 37 = .ok (.iload 4, 2) := by decide +kernel
theorem dX0_firstEnvy_39 : decode cX0_firstEnvy 39 = .ok (.iadd, 1) := by decide +kernel
theorem dX0_firstEnvy_40 : decode cX0_firstEnvy 40 = .ok (.ireturn, 1) := by decide +kernel
theorem dX0_firstEnvy_41 : decode cX0_firstEnvy 41 = .ok (.iinc 4 1, 3) := by decide +kernel
theorem dX0_firstEnvy_44 : decode cX0_firstEnvy 44 = .ok (.goto (-31), 3) := by decide +kernel
theorem dX0_firstEnvy_47 : decode cX0_firstEnvy 47 = .ok (.iinc 3 1, 3) := by decide +kernel
theorem dX0_firstEnvy_50 : decode cX0_firstEnvy 50 = .ok (.goto (-48), 3) := by decide +kernel
theorem dX0_firstEnvy_53 : decode cX0_firstEnvy 53 = .ok (.bipush (-4), 2) := by decide +kernel
theorem dX0_firstEnvy_55 : decode cX0_firstEnvy 55 = .ok (.ireturn, 1) := by decide +kernel
theorem dX0_envies_0 : decode cX0_envies 0 = .ok (.aload_n 0, 1) := by decide +kernel
theorem dX0_envies_1 : decode cX0_envies 1 = .ok (.iload_n 2, 1) := by decide +kernel
theorem dX0_envies_2 : decode cX0_envies 2 = .ok (.aload_n 1, 1) := by decide +kernel
theorem dX0_envies_3 : decode cX0_envies 3 = .ok (.iload_n 3, 1) := by decide +kernel
theorem dX0_envies_4 : decode cX0_envies 4 = .ok (.invokevirtual 41, 3) := by decide +kernel
theorem dX0_envies_7 : decode cX0_envies 7 = .ok (.invokevirtual 44, 3) := by decide +kernel
theorem dX0_envies_10 : decode cX0_envies 10 = .ok (.aload_n 0, 1) := by decide +kernel
theorem dX0_envies_11 : decode cX0_envies 11 = .ok (.iload_n 2, 1) := by decide +kernel
theorem dX0_envies_12 : decode cX0_envies 12 = .ok (.aload_n 1, 1) := by decide +kernel
theorem dX0_envies_13 : decode cX0_envies 13 = .ok (.iload_n 2, 1) := by decide +kernel
theorem dX0_envies_14 : decode cX0_envies 14 = .ok (.invokevirtual 41, 3) := by decide +kernel
theorem dX0_envies_17 : decode cX0_envies 17 = .ok (.invokevirtual 44, 3) := by decide +kernel
theorem dX0_envies_20 : decode cX0_envies 20 = .ok (.if_icmp .le 7, 3) := by decide +kernel
theorem dX0_envies_23 : decode cX0_envies 23 = .ok (.iconst 1, 1) := by decide +kernel
theorem dX0_envies_24 : decode cX0_envies 24 = .ok (.goto 4, 3) := by decide +kernel
theorem dX0_envies_27 : decode cX0_envies 27 = .ok (.iconst 0, 1) := by decide +kernel
theorem dX0_envies_28 : decode cX0_envies 28 = .ok (.ireturn, 1) := by decide +kernel
theorem dX0_shortestRing_0 : decode cX0_shortestRing 0 = .ok (.aload_n 0, 1) := by decide +kernel
theorem dX0_shortestRing_1 : decode cX0_shortestRing 1 = .ok (.aload_n 1, 1) := by decide +kernel
theorem dX0_shortestRing_2 : decode cX0_shortestRing 2 = .ok (.aload_n 2, 1) := by decide +kernel
theorem dX0_shortestRing_3 : decode cX0_shortestRing 3 = .ok (.invokevirtual 84, 3) := by decide +kernel
theorem dX0_shortestRing_6 : decode cX0_shortestRing 6 = .ok (.iconst 2, 1) := by decide +kernel
theorem dX0_shortestRing_7 : decode cX0_shortestRing 7 = .ok (.istore_n 3, 1) := by decide +kernel
theorem dX0_shortestRing_8 : decode cX0_shortestRing 8 = .ok (.iload_n 3, 1) := by decide +kernel
theorem dX0_shortestRing_9 : decode cX0_shortestRing 9 = .ok (.aload_n 1, 1) := by decide +kernel
theorem dX0_shortestRing_10 : decode cX0_shortestRing 10 = .ok (.getfield 48, 3) := by decide +kernel
theorem dX0_shortestRing_13 : decode cX0_shortestRing 13 = .ok (.if_icmp .gt 40, 3) := by decide +kernel
theorem dX0_shortestRing_16 : decode cX0_shortestRing 16 = .ok (.iconst 0, 1) := by decide +kernel
theorem dX0_shortestRing_17 : decode cX0_shortestRing 17 = .ok (.istore 4, 2) := by decide +kernel
theorem dX0_shortestRing_19 : decode cX0_shortestRing 19 = .ok (.iload 4, 2) := by decide +kernel
theorem dX0_shortestRing_21 : decode cX0_shortestRing 21 = .ok (.aload_n 1, 1) := by decide +kernel
theorem dX0_shortestRing_22 : decode cX0_shortestRing 22 = .ok (.getfield 48, 3) := by decide +kernel
theorem dX0_shortestRing_25 : decode cX0_shortestRing 25 = .ok (.if_icmp .ge 22, 3) := by decide +kernel
theorem dX0_shortestRing_28 : decode cX0_shortestRing 28 = .ok (.aload_n 0, 1) := by decide +kernel
theorem dX0_shortestRing_29 : decode cX0_shortestRing 29 = .ok (.aload_n 1, 1) := by decide +kernel
theorem dX0_shortestRing_30 : decode cX0_shortestRing 30 = .ok (.iload 4, 2) := by decide +kernel
theorem dX0_shortestRing_32 : decode cX0_shortestRing 32 = .ok (.iload_n 3, 1) := by decide +kernel
theorem dX0_shortestRing_33 : decode cX0_shortestRing 33 = .ok (.invokevirtual 88, 3) := by decide +kernel
theorem dX0_shortestRing_36 : decode cX0_shortestRing 36 = .ok (.ifCond .eq 5, 3) := by decide +kernel
theorem dX0_shortestRing_39 : decode cX0_shortestRing 39 = .ok (.iload_n 3, 1) := by decide +kernel
theorem dX0_shortestRing_40 : decode cX0_shortestRing 40 = .ok (.ireturn, 1) := by decide +kernel
theorem dX0_shortestRing_41 : decode cX0_shortestRing 41 = .ok (.iinc 4 1, 3) := by decide +kernel
theorem dX0_shortestRing_44 : decode cX0_shortestRing 44 = .ok (.goto (-25), 3) := by decide +kernel
theorem dX0_shortestRing_47 : decode cX0_shortestRing 47 = .ok (.iinc 3 1, 3) := by decide +kernel
theorem dX0_shortestRing_50 : decode cX0_shortestRing 50 = .ok (.goto (-42), 3) := by decide +kernel
theorem dX0_shortestRing_53 : decode cX0_shortestRing 53 = .ok (.bipush (-4), 2) := by decide +kernel
theorem dX0_shortestRing_55 : decode cX0_shortestRing 55 = .ok (.ireturn, 1) := by decide +kernel
theorem dX0_tellEnvied_0 : decode cX0_tellEnvied 0 = .ok (.iconst 0, 1) := by decide +kernel
theorem dX0_tellEnvied_1 : decode cX0_tellEnvied 1 = .ok (.istore_n 3, 1) := by decide +kernel
theorem dX0_tellEnvied_2 : decode cX0_tellEnvied 2 = .ok (.iload_n 3, 1) := by decide +kernel
theorem dX0_tellEnvied_3 : decode cX0_tellEnvied 3 = .ok (.aload_n 1, 1) := by decide +kernel
theorem dX0_tellEnvied_4 : decode cX0_tellEnvied 4 = .ok (.getfield 48, 3) := by decide +kernel
theorem dX0_tellEnvied_7 : decode cX0_tellEnvied 7 = .ok (.if_icmp .ge 58, 3) := by decide +kernel
theorem dX0_tellEnvied_10 : decode cX0_tellEnvied 10 = .ok (.aload_n 0, 1) := by decide +kernel
theorem dX0_tellEnvied_11 : decode cX0_tellEnvied 11 = .ok (.getfield 18, 3) := by decide +kernel
theorem dX0_tellEnvied_14 : decode cX0_tellEnvied 14 = .ok (.iload_n 3, 1) := by decide +kernel
theorem dX0_tellEnvied_15 : decode cX0_tellEnvied 15 = .ok (.iconst 0, 1) := by decide +kernel
theorem dX0_tellEnvied_16 : decode cX0_tellEnvied 16 = .ok (.iastore, 1) := by decide +kernel
theorem dX0_tellEnvied_17 : decode cX0_tellEnvied 17 = .ok (.iconst 0, 1) := by decide +kernel
theorem dX0_tellEnvied_18 : decode cX0_tellEnvied 18 = .ok (.istore 4, 2) := by decide +kernel
theorem dX0_tellEnvied_20 : decode cX0_tellEnvied 20 = .ok (.iload 4, 2) := by decide +kernel
theorem dX0_tellEnvied_22 : decode cX0_tellEnvied 22 = .ok (.aload_n 1, 1) := by decide +kernel
theorem dX0_tellEnvied_23 : decode cX0_tellEnvied 23 = .ok (.getfield 48, 3) := by decide +kernel
theorem dX0_tellEnvied_26 : decode cX0_tellEnvied 26 = .ok (.if_icmp .ge 33, 3) := by decide +kernel
theorem dX0_tellEnvied_29 : decode cX0_tellEnvied 29 = .ok (.aload_n 1, 1) := by decide +kernel
theorem dX0_tellEnvied_30 : decode cX0_tellEnvied 30 = .ok (.aload_n 2, 1) := by decide +kernel
theorem dX0_tellEnvied_31 : decode cX0_tellEnvied 31 = .ok (.iload_n 3, 1) := by decide +kernel
theorem dX0_tellEnvied_32 : decode cX0_tellEnvied 32 = .ok (.iload 4, 2) := by decide +kernel
theorem dX0_tellEnvied_34 : decode cX0_tellEnvied 34 = .ok (.invokestatic 81, 3) := by decide +kernel
theorem dX0_tellEnvied_37 : decode cX0_tellEnvied 37 = .ok (.ifCond .eq 16, 3) := by decide +kernel
theorem dX0_tellEnvied_40 : decode cX0_tellEnvied 40 = .ok (.aload_n 0, 1) := by decide +kernel
theorem dX0_tellEnvied_41 : decode cX0_tellEnvied 41 = .ok (.getfield 18, 3) := by decide +kernel
theorem dX0_tellEnvied_44 : decode cX0_tellEnvied 44 = .ok (.iload_n 3, 1) := by decide +kernel
theorem dX0_tellEnvied_45 : decode cX0_tellEnvied 45 = .ok (.dup2, 1) := by decide +kernel
theorem dX0_tellEnvied_46 : decode cX0_tellEnvied 46 = .ok (.iaload, 1) := by decide +kernel
theorem dX0_tellEnvied_47 : decode cX0_tellEnvied 47 = .ok (.iconst 1, 1) := by decide +kernel
theorem dX0_tellEnvied_48 : decode cX0_tellEnvied 48 = .ok (.iload 4, 2) := by decide +kernel
theorem dX0_tellEnvied_50 : decode cX0_tellEnvied 50 = .ok (.ishl, 1) := by decide +kernel
theorem dX0_tellEnvied_51 : decode cX0_tellEnvied 51 = .ok (.ior, 1) := by decide +kernel
theorem dX0_tellEnvied_52 : decode cX0_tellEnvied 52 = .ok (.iastore, 1) := by decide +kernel
theorem dX0_tellEnvied_53 : decode cX0_tellEnvied 53 = .ok (.iinc 4 1, 3) := by decide +kernel
theorem dX0_tellEnvied_56 : decode cX0_tellEnvied 56 = .ok (.goto (-36), 3) := by decide +kernel
theorem dX0_tellEnvied_59 : decode cX0_tellEnvied 59 = .ok (.iinc 3 1, 3) := by decide +kernel
theorem dX0_tellEnvied_62 : decode cX0_tellEnvied 62 = .ok (.goto (-60), 3) := by decide +kernel
theorem dX0_tellEnvied_65 : decode cX0_tellEnvied 65 = .ok (.return_, 1) := by decide +kernel
theorem dX0_comesBack_0 : decode cX0_comesBack 0 = .ok (.iconst 1, 1) := by decide +kernel
theorem dX0_comesBack_1 : decode cX0_comesBack 1 = .ok (.iload_n 2, 1) := by decide +kernel
theorem dX0_comesBack_2 : decode cX0_comesBack 2 = .ok (.ishl, 1) := by decide +kernel
theorem dX0_comesBack_3 : decode cX0_comesBack 3 = .ok (.istore 4, 2) := by decide +kernel
theorem dX0_comesBack_5 : decode cX0_comesBack 5 = .ok (.iconst 0, 1) := by decide +kernel
theorem dX0_comesBack_6 : decode cX0_comesBack 6 = .ok (.istore 5, 2) := by decide +kernel
theorem dX0_comesBack_8 : decode cX0_comesBack 8 = .ok (.iload 5, 2) := by decide +kernel
theorem dX0_comesBack_10 : decode cX0_comesBack 10 = .ok (.iload_n 3, 1) := by decide +kernel
theorem dX0_comesBack_11 : decode cX0_comesBack 11 = .ok (.if_icmp .ge 56, 3) := by decide +kernel
theorem dX0_comesBack_14 : decode cX0_comesBack 14 = .ok (.iconst 0, 1) := by decide +kernel
theorem dX0_comesBack_15 : decode cX0_comesBack 15 = .ok (.istore 6, 2) := by decide +kernel
theorem dX0_comesBack_17 : decode cX0_comesBack 17 = .ok (.iconst 0, 1) := by decide +kernel
theorem dX0_comesBack_18 : decode cX0_comesBack 18 = .ok (.istore 7, 2) := by decide +kernel
theorem dX0_comesBack_20 : decode cX0_comesBack 20 = .ok (.iload 7, 2) := by decide +kernel
theorem dX0_comesBack_22 : decode cX0_comesBack 22 = .ok (.aload_n 1, 1) := by decide +kernel
theorem dX0_comesBack_23 : decode cX0_comesBack 23 = .ok (.getfield 48, 3) := by decide +kernel
theorem dX0_comesBack_26 : decode cX0_comesBack 26 = .ok (.if_icmp .ge 31, 3) := by decide +kernel
theorem dX0_comesBack_29 : decode cX0_comesBack 29 = .ok (.iload 4, 2) := by decide +kernel
theorem dX0_comesBack_31 : decode cX0_comesBack 31 = .ok (.iload 7, 2) := by decide +kernel
theorem dX0_comesBack_33 : decode cX0_comesBack 33 = .ok (.ishr, 1) := by decide +kernel
theorem dX0_comesBack_34 : decode cX0_comesBack 34 = .ok (.iconst 1, 1) := by decide +kernel
theorem dX0_comesBack_35 : decode cX0_comesBack 35 = .ok (.iand, 1) := by decide +kernel
theorem dX0_comesBack_36 : decode cX0_comesBack 36 = .ok (.ifCond .eq 15, 3) := by decide +kernel
theorem dX0_comesBack_39 : decode cX0_comesBack 39 = .ok (.iload 6, 2) := by decide +kernel
theorem dX0_comesBack_41 : decode cX0_comesBack 41 = .ok (.aload_n 0, 1) := by decide +kernel
theorem dX0_comesBack_42 : decode cX0_comesBack 42 = .ok (.getfield 18, 3) := by decide +kernel
theorem dX0_comesBack_45 : decode cX0_comesBack 45 = .ok (.iload 7, 2) := by decide +kernel
theorem dX0_comesBack_47 : decode cX0_comesBack 47 = .ok (.iaload, 1) := by decide +kernel
theorem dX0_comesBack_48 : decode cX0_comesBack 48 = .ok (.ior, 1) := by decide +kernel
theorem dX0_comesBack_49 : decode cX0_comesBack 49 = .ok (.istore 6, 2) := by decide +kernel
theorem dX0_comesBack_51 : decode cX0_comesBack 51 = .ok (.iinc 7 1, 3) := by decide +kernel
theorem dX0_comesBack_54 : decode cX0_comesBack 54 = .ok (.goto (-34), 3) := by decide +kernel
theorem dX0_comesBack_57 : decode cX0_comesBack 57 = .ok (.iload 6, 2) := by decide +kernel
theorem dX0_comesBack_59 : decode cX0_comesBack 59 = .ok (.istore 4, 2) := by decide +kernel
theorem dX0_comesBack_61 : decode cX0_comesBack 61 = .ok (.iinc 5 1, 3) := by decide +kernel
theorem dX0_comesBack_64 : decode cX0_comesBack 64 = .ok (.goto (-56), 3) := by decide +kernel
theorem dX0_comesBack_67 : decode cX0_comesBack 67 = .ok (.iload 4, 2) := by decide +kernel
theorem dX0_comesBack_69 : decode cX0_comesBack 69 = .ok (.iload_n 2, 1) := by decide +kernel
theorem dX0_comesBack_70 : decode cX0_comesBack 70 = .ok (.ishr, 1) := by decide +kernel
theorem dX0_comesBack_71 : decode cX0_comesBack 71 = .ok (.iconst 1, 1) := by decide +kernel
theorem dX0_comesBack_72 : decode cX0_comesBack 72 = .ok (.iand, 1) := by decide +kernel
theorem dX0_comesBack_73 : decode cX0_comesBack 73 = .ok (.ifCond .eq 7, 3) := by decide +kernel
theorem dX0_comesBack_76 : decode cX0_comesBack 76 = .ok (.iconst 1, 1) := by decide +kernel
theorem dX0_comesBack_77 : decode cX0_comesBack 77 = .ok (.goto 4, 3) := by decide +kernel
theorem dX0_comesBack_80 : decode cX0_comesBack 80 = .ok (.iconst 0, 1) := by decide +kernel
theorem dX0_comesBack_81 : decode cX0_comesBack 81 = .ok (.ireturn, 1) := by decide +kernel
theorem dX1_init_0 : decode cX1_init 0 = .ok (.aload_n 0, 1) := by decide +kernel
theorem dX1_init_1 : decode cX1_init 1 = .ok (.invokespecial 3, 3) := by decide +kernel
theorem dX1_init_4 : decode cX1_init 4 = .ok (.aload_n 0, 1) := by decide +kernel
theorem dX1_init_5 : decode cX1_init 5 = .ok (.iconst 5, 1) := by decide +kernel
theorem dX1_init_6 : decode cX1_init 6 = .ok (.newarray .int, 2) := by decide +kernel
theorem dX1_init_8 : decode cX1_init 8 = .ok (.putfield 9, 3) := by decide +kernel
theorem dX1_init_11 : decode cX1_init 11 = .ok (.return_, 1) := by decide +kernel
theorem dX1_add_0 : decode cX1_add 0 = .ok (.aload_n 0, 1) := by decide +kernel
theorem dX1_add_1 : decode cX1_add 1 = .ok (.getfield 9, 3) := by decide +kernel
theorem dX1_add_4 : decode cX1_add 4 = .ok (.iload_n 1, 1) := by decide +kernel
theorem dX1_add_5 : decode cX1_add 5 = .ok (.dup2, 1) := by decide +kernel
theorem dX1_add_6 : decode cX1_add 6 = .ok (.iaload, 1) := by decide +kernel
theorem dX1_add_7 : decode cX1_add 7 = .ok (.iconst 1, 1) := by decide +kernel
theorem dX1_add_8 : decode cX1_add 8 = .ok (.iadd, 1) := by decide +kernel
theorem dX1_add_9 : decode cX1_add 9 = .ok (.iastore, 1) := by decide +kernel
theorem dX1_add_10 : decode cX1_add 10 = .ok (.aload_n 0, 1) := by decide +kernel
theorem dX1_add_11 : decode cX1_add 11 = .ok (.dup, 1) := by decide +kernel
theorem dX1_add_12 : decode cX1_add 12 = .ok (.getfield 15, 3) := by decide +kernel
theorem dX1_add_15 : decode cX1_add 15 = .ok (.iconst 1, 1) := by decide +kernel
theorem dX1_add_16 : decode cX1_add 16 = .ok (.iadd, 1) := by decide +kernel
theorem dX1_add_17 : decode cX1_add 17 = .ok (.putfield 15, 3) := by decide +kernel
theorem dX1_add_20 : decode cX1_add 20 = .ok (.return_, 1) := by decide +kernel
theorem dX1_clear_0 : decode cX1_clear 0 = .ok (.aload_n 0, 1) := by decide +kernel
theorem dX1_clear_1 : decode cX1_clear 1 = .ok (.getfield 9, 3) := by decide +kernel
theorem dX1_clear_4 : decode cX1_clear 4 = .ok (.iconst 0, 1) := by decide +kernel
theorem dX1_clear_5 : decode cX1_clear 5 = .ok (.invokestatic 19, 3) := by decide +kernel
theorem dX1_clear_8 : decode cX1_clear 8 = .ok (.aload_n 0, 1) := by decide +kernel
theorem dX1_clear_9 : decode cX1_clear 9 = .ok (.iconst 0, 1) := by decide +kernel
theorem dX1_clear_10 : decode cX1_clear 10 = .ok (.putfield 15, 3) := by decide +kernel
theorem dX1_clear_13 : decode cX1_clear 13 = .ok (.return_, 1) := by decide +kernel
theorem dX1_canBe_0 : decode cX1_canBe 0 = .ok (.iconst 0, 1) := by decide +kernel
theorem dX1_canBe_1 : decode cX1_canBe 1 = .ok (.istore_n 2, 1) := by decide +kernel
theorem dX1_canBe_2 : decode cX1_canBe 2 = .ok (.iload_n 2, 1) := by decide +kernel
theorem dX1_canBe_3 : decode cX1_canBe 3 = .ok (.iconst 5, 1) := by decide +kernel
theorem dX1_canBe_4 : decode cX1_canBe 4 = .ok (.if_icmp .ge 29, 3) := by decide +kernel
theorem dX1_canBe_7 : decode cX1_canBe 7 = .ok (.aload_n 0, 1) := by decide +kernel
theorem dX1_canBe_8 : decode cX1_canBe 8 = .ok (.getfield 9, 3) := by decide +kernel
theorem dX1_canBe_11 : decode cX1_canBe 11 = .ok (.iload_n 2, 1) := by decide +kernel
theorem dX1_canBe_12 : decode cX1_canBe 12 = .ok (.iaload, 1) := by decide +kernel
theorem dX1_canBe_13 : decode cX1_canBe 13 = .ok (.ifCond .le 14, 3) := by decide +kernel
theorem dX1_canBe_16 : decode cX1_canBe 16 = .ok (.aload_n 1, 1) := by decide +kernel
theorem dX1_canBe_17 : decode cX1_canBe 17 = .ok (.getfield 25, 3) := by decide +kernel
theorem dX1_canBe_20 : decode cX1_canBe 20 = .ok (.iload_n 2, 1) := by decide +kernel
theorem dX1_canBe_21 : decode cX1_canBe 21 = .ok (.iaload, 1) := by decide +kernel
theorem dX1_canBe_22 : decode cX1_canBe 22 = .ok (.ifCond .ne 5, 3) := by decide +kernel
theorem dX1_canBe_25 : decode cX1_canBe 25 = .ok (.iconst 0, 1) := by decide +kernel
theorem dX1_canBe_26 : decode cX1_canBe 26 = .ok (.ireturn, 1) := by decide +kernel
theorem dX1_canBe_27 : decode cX1_canBe 27 = .ok (.iinc 2 1, 3) := by decide +kernel
theorem dX1_canBe_30 : decode cX1_canBe 30 = .ok (.goto (-28), 3) := by decide +kernel
theorem dX1_canBe_33 : decode cX1_canBe 33 = .ok (.iconst 1, 1) := by decide +kernel
theorem dX1_canBe_34 : decode cX1_canBe 34 = .ok (.ireturn, 1) := by decide +kernel
theorem dX1_loadedWeight_0 : decode cX1_loadedWeight 0 = .ok (.ldc2_w 30, 3) := by decide +kernel
theorem dX1_loadedWeight_3 : decode cX1_loadedWeight 3 = .ok (.aload_n 0, 1) := by decide +kernel
theorem dX1_loadedWeight_4 : decode cX1_loadedWeight 4 = .ok (.getfield 9, 3) := by decide +kernel
theorem dX1_loadedWeight_7 : decode cX1_loadedWeight 7 = .ok (.iload_n 2, 1) := by decide +kernel
theorem dX1_loadedWeight_8 : decode cX1_loadedWeight 8 = .ok (.iaload, 1) := by decide +kernel
theorem dX1_loadedWeight_9 : decode cX1_loadedWeight 9 = .ok (.invokestatic 32, 3) := by decide +kernel
theorem dX1_loadedWeight_12 : decode cX1_loadedWeight 12 = .ok (.aload_n 1, 1) := by decide +kernel
theorem dX1_loadedWeight_13 : decode cX1_loadedWeight 13 = .ok (.invokevirtual 36, 3) := by decide +kernel
theorem dX1_loadedWeight_16 : decode cX1_loadedWeight 16 = .ok (.i2l, 1) := by decide +kernel
theorem dX1_loadedWeight_17 : decode cX1_loadedWeight 17 = .ok (.aload_n 0, 1) := by decide +kernel
theorem dX1_loadedWeight_18 : decode cX1_loadedWeight 18 = .ok (.getfield 15, 3) := by decide +kernel
theorem dX1_loadedWeight_21 : decode cX1_loadedWeight 21 = .ok (.invokestatic 32, 3) := by decide +kernel
theorem dX1_loadedWeight_24 : decode cX1_loadedWeight 24 = .ok (.lmul, 1) := by decide +kernel
theorem dX1_loadedWeight_25 : decode cX1_loadedWeight 25 = .ok (.lreturn, 1) := by decide +kernel
theorem dX1_evenWeight_0 : decode cX1_evenWeight 0 = .ok (.aload_n 1, 1) := by decide +kernel
theorem dX1_evenWeight_1 : decode cX1_evenWeight 1 = .ok (.invokevirtual 36, 3) := by decide +kernel
theorem dX1_evenWeight_4 : decode cX1_evenWeight 4 = .ok (.aload_n 1, 1) := by decide +kernel
theorem dX1_evenWeight_5 : decode cX1_evenWeight 5 = .ok (.getfield 25, 3) := by decide +kernel
theorem dX1_evenWeight_8 : decode cX1_evenWeight 8 = .ok (.iload_n 2, 1) := by decide +kernel
theorem dX1_evenWeight_9 : decode cX1_evenWeight 9 = .ok (.iaload, 1) := by decide +kernel
theorem dX1_evenWeight_10 : decode cX1_evenWeight 10 = .ok (.iadd, 1) := by decide +kernel
theorem dX1_evenWeight_11 : decode cX1_evenWeight 11 = .ok (.i2l, 1) := by decide +kernel
theorem dX1_evenWeight_12 : decode cX1_evenWeight 12 = .ok (.aload_n 0, 1) := by decide +kernel
theorem dX1_evenWeight_13 : decode cX1_evenWeight 13 = .ok (.getfield 15, 3) := by decide +kernel
theorem dX1_evenWeight_16 : decode cX1_evenWeight 16 = .ok (.invokestatic 32, 3) := by decide +kernel
theorem dX1_evenWeight_19 : decode cX1_evenWeight 19 = .ok (.lreturn, 1) := by decide +kernel
theorem dX1_power_0 : decode cX1_power 0 = .ok (.lconst 1, 1) := by decide +kernel
theorem dX1_power_1 : decode cX1_power 1 = .ok (.lstore_n 3, 1) := by decide +kernel
theorem dX1_power_2 : decode cX1_power 2 = .ok (.iconst 0, 1) := by decide +kernel
theorem dX1_power_3 : decode cX1_power 3 = .ok (.istore 5, 2) := by decide +kernel
theorem dX1_power_5 : decode cX1_power 5 = .ok (.iload 5, 2) := by decide +kernel
theorem dX1_power_7 : decode cX1_power 7 = .ok (.iload_n 2, 1) := by decide +kernel
theorem dX1_power_8 : decode cX1_power 8 = .ok (.if_icmp .ge 13, 3) := by decide +kernel
theorem dX1_power_11 : decode cX1_power 11 = .ok (.lload_n 3, 1) := by decide +kernel
theorem dX1_power_12 : decode cX1_power 12 = .ok (.lload_n 0, 1) := by decide +kernel
theorem dX1_power_13 : decode cX1_power 13 = .ok (.lmul, 1) := by decide +kernel
theorem dX1_power_14 : decode cX1_power 14 = .ok (.lstore_n 3, 1) := by decide +kernel
theorem dX1_power_15 : decode cX1_power 15 = .ok (.iinc 5 1, 3) := by decide +kernel
theorem dX1_power_18 : decode cX1_power 18 = .ok (.goto (-13), 3) := by decide +kernel
theorem dX1_power_21 : decode cX1_power 21 = .ok (.lload_n 3, 1) := by decide +kernel
theorem dX1_power_22 : decode cX1_power 22 = .ok (.lreturn, 1) := by decide +kernel
theorem dX2_init_0 : decode cX2_init 0 = .ok (.aload_n 0, 1) := by decide +kernel
theorem dX2_init_1 : decode cX2_init 1 = .ok (.invokespecial 3, 3) := by decide +kernel
theorem dX2_init_4 : decode cX2_init 4 = .ok (.aload_n 0, 1) := by decide +kernel
theorem dX2_init_5 : decode cX2_init 5 = .ok (.iconst 5, 1) := by decide +kernel
theorem dX2_init_6 : decode cX2_init 6 = .ok (.newarray .int, 2) := by decide +kernel
theorem dX2_init_8 : decode cX2_init 8 = .ok (.putfield 9, 3) := by decide +kernel
theorem dX2_init_11 : decode cX2_init 11 = .ok (.aload_n 0, 1) := by decide +kernel
theorem dX2_init_12 : decode cX2_init 12 = .ok (.bipush 6, 2) := by decide +kernel
theorem dX2_init_14 : decode cX2_init 14 = .ok (.newarray .int, 2) := by decide +kernel
theorem dX2_init_16 : decode cX2_init 16 = .ok (.putfield 15, 3) := by decide +kernel
theorem dX2_init_19 : decode cX2_init 19 = .ok (.aload_n 0, 1) := by decide +kernel
theorem dX2_init_20 : decode cX2_init 20 = .ok (.bipush 6, 2) := by decide +kernel
theorem dX2_init_22 : decode cX2_init 22 = .ok (.newarray .int, 2) := by decide +kernel
theorem dX2_init_24 : decode cX2_init 24 = .ok (.putfield 18, 3) := by decide +kernel
theorem dX2_init_27 : decode cX2_init 27 = .ok (.aload_n 0, 1) := by decide +kernel
theorem dX2_init_28 : decode cX2_init 28 = .ok (.bipush 30, 2) := by decide +kernel
theorem dX2_init_30 : decode cX2_init 30 = .ok (.newarray .int, 2) := by decide +kernel
theorem dX2_init_32 : decode cX2_init 32 = .ok (.putfield 21, 3) := by decide +kernel
theorem dX2_init_35 : decode cX2_init 35 = .ok (.aload_n 0, 1) := by decide +kernel
theorem dX2_init_36 : decode cX2_init 36 = .ok (.iconst 5, 1) := by decide +kernel
theorem dX2_init_37 : decode cX2_init 37 = .ok (.newarray .long, 2) := by decide +kernel
theorem dX2_init_39 : decode cX2_init 39 = .ok (.putfield 24, 3) := by decide +kernel
theorem dX2_init_42 : decode cX2_init 42 = .ok (.return_, 1) := by decide +kernel
theorem dX2_clear_0 : decode cX2_clear 0 = .ok (.aload_n 0, 1) := by decide +kernel
theorem dX2_clear_1 : decode cX2_clear 1 = .ok (.iconst 0, 1) := by decide +kernel
theorem dX2_clear_2 : decode cX2_clear 2 = .ok (.putfield 28, 3) := by decide +kernel
theorem dX2_clear_5 : decode cX2_clear 5 = .ok (.aload_n 0, 1) := by decide +kernel
theorem dX2_clear_6 : decode cX2_clear 6 = .ok (.iconst 0, 1) := by decide +kernel
theorem dX2_clear_7 : decode cX2_clear 7 = .ok (.putfield 32, 3) := by decide +kernel
theorem dX2_clear_10 : decode cX2_clear 10 = .ok (.aload_n 0, 1) := by decide +kernel
theorem dX2_clear_11 : decode cX2_clear 11 = .ok (.getfield 9, 3) := by decide +kernel
theorem dX2_clear_14 : decode cX2_clear 14 = .ok (.iconst 0, 1) := by decide +kernel
theorem dX2_clear_15 : decode cX2_clear 15 = .ok (.invokestatic 35, 3) := by decide +kernel
theorem dX2_clear_18 : decode cX2_clear 18 = .ok (.aload_n 0, 1) := by decide +kernel
theorem dX2_clear_19 : decode cX2_clear 19 = .ok (.getfield 21, 3) := by decide +kernel
theorem dX2_clear_22 : decode cX2_clear 22 = .ok (.iconst 0, 1) := by decide +kernel
theorem dX2_clear_23 : decode cX2_clear 23 = .ok (.invokestatic 35, 3) := by decide +kernel
theorem dX2_clear_26 : decode cX2_clear 26 = .ok (.return_, 1) := by decide +kernel
theorem dX2_isPerson_0 : decode cX2_isPerson 0 = .ok (.iload_n 1, 1) := by decide +kernel
theorem dX2_isPerson_1 : decode cX2_isPerson 1 = .ok (.ifCond .lt 15, 3) := by decide +kernel
theorem dX2_isPerson_4 : decode cX2_isPerson 4 = .ok (.iload_n 1, 1) := by decide +kernel
theorem dX2_isPerson_5 : decode cX2_isPerson 5 = .ok (.aload_n 0, 1) := by decide +kernel
theorem dX2_isPerson_6 : decode cX2_isPerson 6 = .ok (.getfield 28, 3) := by decide +kernel
theorem dX2_isPerson_9 : decode cX2_isPerson 9 = .ok (.if_icmp .ge 7, 3) := by decide +kernel
theorem dX2_isPerson_12 : decode cX2_isPerson 12 = .ok (.iconst 1, 1) := by decide +kernel
theorem dX2_isPerson_13 : decode cX2_isPerson 13 = .ok (.goto 4, 3) := by decide +kernel
theorem dX2_isPerson_16 : decode cX2_isPerson 16 = .ok (.iconst 0, 1) := by decide +kernel
theorem dX2_isPerson_17 : decode cX2_isPerson 17 = .ok (.ireturn, 1) := by decide +kernel
theorem dX2_isThing_0 : decode cX2_isThing 0 = .ok (.iload_n 1, 1) := by decide +kernel
theorem dX2_isThing_1 : decode cX2_isThing 1 = .ok (.ifCond .lt 15, 3) := by decide +kernel
theorem dX2_isThing_4 : decode cX2_isThing 4 = .ok (.iload_n 1, 1) := by decide +kernel
theorem dX2_isThing_5 : decode cX2_isThing 5 = .ok (.aload_n 0, 1) := by decide +kernel
theorem dX2_isThing_6 : decode cX2_isThing 6 = .ok (.getfield 32, 3) := by decide +kernel
theorem dX2_isThing_9 : decode cX2_isThing 9 = .ok (.if_icmp .ge 7, 3) := by decide +kernel
theorem dX2_isThing_12 : decode cX2_isThing 12 = .ok (.iconst 1, 1) := by decide +kernel
theorem dX2_isThing_13 : decode cX2_isThing 13 = .ok (.goto 4, 3) := by decide +kernel
theorem dX2_isThing_16 : decode cX2_isThing 16 = .ok (.iconst 0, 1) := by decide +kernel
theorem dX2_isThing_17 : decode cX2_isThing 17 = .ok (.ireturn, 1) := by decide +kernel
theorem dX2_addPerson_0 : decode cX2_addPerson 0 = .ok (.aload_n 0, 1) := by decide +kernel
theorem dX2_addPerson_1 : decode cX2_addPerson 1 = .ok (.getfield 28, 3) := by decide +kernel
theorem dX2_addPerson_4 : decode cX2_addPerson 4 = .ok (.iconst 5, 1) := by decide +kernel
theorem dX2_addPerson_5 : decode cX2_addPerson 5 = .ok (.if_icmp .ge 9, 3) := by decide +kernel
theorem dX2_addPerson_8 : decode cX2_addPerson 8 = .ok (.iload_n 1, 1) := by decide +kernel
theorem dX2_addPerson_9 : decode cX2_addPerson 9 = .ok (.bipush 9, 2) := by decide +kernel
theorem dX2_addPerson_11 : decode cX2_addPerson 11 = .ok (.if_icmp .le 5, 3) := by decide +kernel
theorem dX2_addPerson_14 : decode cX2_addPerson 14 = .ok (.iconst 0, 1) := by decide +kernel
theorem dX2_addPerson_15 : decode cX2_addPerson 15 = .ok (.ireturn, 1) := by decide +kernel
theorem dX2_addPerson_16 : decode cX2_addPerson 16 = .ok (.aload_n 0, 1) := by decide +kernel
theorem dX2_addPerson_17 : decode cX2_addPerson 17 = .ok (.getfield 9, 3) := by decide +kernel
theorem dX2_addPerson_20 : decode cX2_addPerson 20 = .ok (.aload_n 0, 1) := by decide +kernel
theorem dX2_addPerson_21 : decode cX2_addPerson 21 = .ok (.getfield 28, 3) := by decide +kernel
theorem dX2_addPerson_24 : decode cX2_addPerson 24 = .ok (.iload_n 1, 1) := by decide +kernel
theorem dX2_addPerson_25 : decode cX2_addPerson 25 = .ok (.iastore, 1) := by decide +kernel
theorem dX2_addPerson_26 : decode cX2_addPerson 26 = .ok (.aload_n 0, 1) := by decide +kernel
theorem dX2_addPerson_27 : decode cX2_addPerson 27 = .ok (.dup, 1) := by decide +kernel
theorem dX2_addPerson_28 : decode cX2_addPerson 28 = .ok (.getfield 28, 3) := by decide +kernel
theorem dX2_addPerson_31 : decode cX2_addPerson 31 = .ok (.iconst 1, 1) := by decide +kernel
theorem dX2_addPerson_32 : decode cX2_addPerson 32 = .ok (.iadd, 1) := by decide +kernel
theorem dX2_addPerson_33 : decode cX2_addPerson 33 = .ok (.putfield 28, 3) := by decide +kernel
theorem dX2_addPerson_36 : decode cX2_addPerson 36 = .ok (.iconst 1, 1) := by decide +kernel
theorem dX2_addPerson_37 : decode cX2_addPerson 37 = .ok (.ireturn, 1) := by decide +kernel
theorem dX2_addThing_0 : decode cX2_addThing 0 = .ok (.aload_n 0, 1) := by decide +kernel
theorem dX2_addThing_1 : decode cX2_addThing 1 = .ok (.getfield 32, 3) := by decide +kernel
theorem dX2_addThing_4 : decode cX2_addThing 4 = .ok (.bipush 6, 2) := by decide +kernel
theorem dX2_addThing_6 : decode cX2_addThing 6 = .ok (.if_icmp .ge 14, 3) := by decide +kernel
theorem dX2_addThing_9 : decode cX2_addThing 9 = .ok (.iload_n 1, 1) := by decide +kernel
theorem dX2_addThing_10 : decode cX2_addThing 10 = .ok (.iconst 3, 1) := by decide +kernel
theorem dX2_addThing_11 : decode cX2_addThing 11 = .ok (.if_icmp .gt 9, 3) := by decide +kernel
theorem dX2_addThing_14 : decode cX2_addThing 14 = .ok (.iload_n 2, 1) := by decide +kernel
theorem dX2_addThing_15 : decode cX2_addThing 15 = .ok (.bipush 30, 2) := by decide +kernel
theorem dX2_addThing_17 : decode cX2_addThing 17 = .ok (.if_icmp .le 5, 3) := by decide +kernel
theorem dX2_addThing_20 : decode cX2_addThing 20 = .ok (.iconst 0, 1) := by decide +kernel
theorem dX2_addThing_21 : decode cX2_addThing 21 = .ok (.ireturn, 1) := by decide +kernel
theorem dX2_addThing_22 : decode cX2_addThing 22 = .ok (.aload_n 0, 1) := by decide +kernel
theorem dX2_addThing_23 : decode cX2_addThing 23 = .ok (.getfield 15, 3) := by decide +kernel
theorem dX2_addThing_26 : decode cX2_addThing 26 = .ok (.aload_n 0, 1) := by decide +kernel
theorem dX2_addThing_27 : decode cX2_addThing 27 = .ok (.getfield 32, 3) := by decide +kernel
theorem dX2_addThing_30 : decode cX2_addThing 30 = .ok (.iload_n 1, 1) := by decide +kernel
theorem dX2_addThing_31 : decode cX2_addThing 31 = .ok (.iastore, 1) := by decide +kernel
theorem dX2_addThing_32 : decode cX2_addThing 32 = .ok (.aload_n 0, 1) := by decide +kernel
theorem dX2_addThing_33 : decode cX2_addThing 33 = .ok (.getfield 18, 3) := by decide +kernel
theorem dX2_addThing_36 : decode cX2_addThing 36 = .ok (.aload_n 0, 1) := by decide +kernel
theorem dX2_addThing_37 : decode cX2_addThing 37 = .ok (.getfield 32, 3) := by decide +kernel
theorem dX2_addThing_40 : decode cX2_addThing 40 = .ok (.iload_n 2, 1) := by decide +kernel
theorem dX2_addThing_41 : decode cX2_addThing 41 = .ok (.iastore, 1) := by decide +kernel
theorem dX2_addThing_42 : decode cX2_addThing 42 = .ok (.aload_n 0, 1) := by decide +kernel
theorem dX2_addThing_43 : decode cX2_addThing 43 = .ok (.dup, 1) := by decide +kernel
theorem dX2_addThing_44 : decode cX2_addThing 44 = .ok (.getfield 32, 3) := by decide +kernel
theorem dX2_addThing_47 : decode cX2_addThing 47 = .ok (.iconst 1, 1) := by decide +kernel
theorem dX2_addThing_48 : decode cX2_addThing 48 = .ok (.iadd, 1) := by decide +kernel
theorem dX2_addThing_49 : decode cX2_addThing 49 = .ok (.putfield 32, 3) := by decide +kernel
theorem dX2_addThing_52 : decode cX2_addThing 52 = .ok (.iconst 1, 1) := by decide +kernel
theorem dX2_addThing_53 : decode cX2_addThing 53 = .ok (.ireturn, 1) := by decide +kernel
theorem dX2_addLiking_0 : decode cX2_addLiking 0 = .ok (.aload_n 0, 1) := by decide +kernel
theorem dX2_addLiking_1 : decode cX2_addLiking 1 = .ok (.iload_n 1, 1) := by decide +kernel
theorem dX2_addLiking_2 : decode cX2_addLiking 2 = .ok (.invokevirtual 41, 3) := by decide +kernel
theorem dX2_addLiking_5 : decode cX2_addLiking 5 = .ok (.ifCond .eq 17, 3) := by decide +kernel
theorem dX2_addLiking_8 : decode cX2_addLiking 8 = .ok (.aload_n 0, 1) := by decide +kernel
theorem dX2_addLiking_9 : decode cX2_addLiking 9 = .ok (.iload_n 2, 1) := by decide +kernel
theorem dX2_addLiking_10 : decode cX2_addLiking 10 = .ok (.invokevirtual 45, 3) := by decide +kernel
theorem dX2_addLiking_13 : decode cX2_addLiking 13 = .ok (.ifCond .eq 9, 3) := by decide +kernel
theorem dX2_addLiking_16 : decode cX2_addLiking 16 = .ok (.iload_n 3, 1) := by decide +kernel
theorem dX2_addLiking_17 : decode cX2_addLiking 17 = .ok (.bipush 30, 2) := by decide +kernel
theorem dX2_addLiking_19 : decode cX2_addLiking 19 = .ok (.if_icmp .le 5, 3) := by decide +kernel
theorem dX2_addLiking_22 : decode cX2_addLiking 22 = .ok (.iconst 0, 1) := by decide +kernel
theorem dX2_addLiking_23 : decode cX2_addLiking 23 = .ok (.ireturn, 1) := by decide +kernel
theorem dX2_addLiking_24 : decode cX2_addLiking 24 = .ok (.aload_n 0, 1) := by decide +kernel
theorem dX2_addLiking_25 : decode cX2_addLiking 25 = .ok (.getfield 21, 3) := by decide +kernel
theorem dX2_addLiking_28 : decode cX2_addLiking 28 = .ok (.iload_n 1, 1) := by decide +kernel
theorem dX2_addLiking_29 : decode cX2_addLiking 29 = .ok (.bipush 6, 2) := by decide +kernel
theorem dX2_addLiking_31 : decode cX2_addLiking 31 = .ok (.imul, 1) := by decide +kernel
theorem dX2_addLiking_32 : decode cX2_addLiking 32 = .ok (.iload_n 2, 1) := by decide +kernel
theorem dX2_addLiking_33 : decode cX2_addLiking 33 = .ok (.iadd, 1) := by decide +kernel
theorem dX2_addLiking_34 : decode cX2_addLiking 34 = .ok (.iload_n 3, 1) := by decide +kernel
theorem dX2_addLiking_35 : decode cX2_addLiking 35 = .ok (.iastore, 1) := by decide +kernel
theorem dX2_addLiking_36 : decode cX2_addLiking 36 = .ok (.iconst 1, 1) := by decide +kernel
theorem dX2_addLiking_37 : decode cX2_addLiking 37 = .ok (.ireturn, 1) := by decide +kernel
theorem dX2_likingOf_0 : decode cX2_likingOf 0 = .ok (.aload_n 0, 1) := by decide +kernel
theorem dX2_likingOf_1 : decode cX2_likingOf 1 = .ok (.getfield 21, 3) := by decide +kernel
theorem dX2_likingOf_4 : decode cX2_likingOf 4 = .ok (.iload_n 1, 1) := by decide +kernel
theorem dX2_likingOf_5 : decode cX2_likingOf 5 = .ok (.bipush 6, 2) := by decide +kernel
theorem dX2_likingOf_7 : decode cX2_likingOf 7 = .ok (.imul, 1) := by decide +kernel
theorem dX2_likingOf_8 : decode cX2_likingOf 8 = .ok (.iload_n 2, 1) := by decide +kernel
theorem dX2_likingOf_9 : decode cX2_likingOf 9 = .ok (.iadd, 1) := by decide +kernel
theorem dX2_likingOf_10 : decode cX2_likingOf 10 = .ok (.iaload, 1) := by decide +kernel
theorem dX2_likingOf_11 : decode cX2_likingOf 11 = .ok (.ireturn, 1) := by decide +kernel
theorem dX2_allTickets_0 : decode cX2_allTickets 0 = .ok (.iconst 0, 1) := by decide +kernel
theorem dX2_allTickets_1 : decode cX2_allTickets 1 = .ok (.istore_n 1, 1) := by decide +kernel
theorem dX2_allTickets_2 : decode cX2_allTickets 2 = .ok (.iconst 0, 1) := by decide +kernel
theorem dX2_allTickets_3 : decode cX2_allTickets 3 = .ok (.istore_n 2, 1) := by decide +kernel
theorem dX2_allTickets_4 : decode cX2_allTickets 4 = .ok (.iload_n 2, 1) := by decide +kernel
theorem dX2_allTickets_5 : decode cX2_allTickets 5 = .ok (.aload_n 0, 1) := by decide +kernel
theorem dX2_allTickets_6 : decode cX2_allTickets 6 = .ok (.getfield 28, 3) := by decide +kernel
theorem dX2_allTickets_9 : decode cX2_allTickets 9 = .ok (.if_icmp .ge 18, 3) := by decide +kernel
theorem dX2_allTickets_12 : decode cX2_allTickets 12 = .ok (.iload_n 1, 1) := by decide +kernel
theorem dX2_allTickets_13 : decode cX2_allTickets 13 = .ok (.aload_n 0, 1) := by decide +kernel
theorem dX2_allTickets_14 : decode cX2_allTickets 14 = .ok (.getfield 9, 3) := by decide +kernel
theorem dX2_allTickets_17 : decode cX2_allTickets 17 = .ok (.iload_n 2, 1) := by decide +kernel
theorem dX2_allTickets_18 : decode cX2_allTickets 18 = .ok (.iaload, 1) := by decide +kernel
theorem dX2_allTickets_19 : decode cX2_allTickets 19 = .ok (.iadd, 1) := by decide +kernel
theorem dX2_allTickets_20 : decode cX2_allTickets 20 = .ok (.istore_n 1, 1) := by decide +kernel
theorem dX2_allTickets_21 : decode cX2_allTickets 21 = .ok (.iinc 2 1, 3) := by decide +kernel
theorem dX2_allTickets_24 : decode cX2_allTickets 24 = .ok (.goto (-20), 3) := by decide +kernel
theorem dX2_allTickets_27 : decode cX2_allTickets 27 = .ok (.iload_n 1, 1) := by decide +kernel
theorem dX2_allTickets_28 : decode cX2_allTickets 28 = .ok (.ireturn, 1) := by decide +kernel
theorem dX2_worthTo_0 : decode cX2_worthTo 0 = .ok (.aload_n 0, 1) := by decide +kernel
theorem dX2_worthTo_1 : decode cX2_worthTo 1 = .ok (.iconst 0, 1) := by decide +kernel
theorem dX2_worthTo_2 : decode cX2_worthTo 2 = .ok (.iload_n 2, 1) := by decide +kernel
theorem dX2_worthTo_3 : decode cX2_worthTo 3 = .ok (.invokevirtual 48, 3) := by decide +kernel
theorem dX2_worthTo_6 : decode cX2_worthTo 6 = .ok (.istore_n 3, 1) := by decide +kernel
theorem dX2_worthTo_7 : decode cX2_worthTo 7 = .ok (.aload_n 0, 1) := by decide +kernel
theorem dX2_worthTo_8 : decode cX2_worthTo 8 = .ok (.iconst 3, 1) := by decide +kernel
theorem dX2_worthTo_9 : decode cX2_worthTo 9 = .ok (.iload_n 2, 1) := by decide +kernel
theorem dX2_worthTo_10 : decode cX2_worthTo 10 = .ok (.invokevirtual 48, 3) := by decide +kernel
theorem dX2_worthTo_13 : decode cX2_worthTo 13 = .ok (.istore 4, 2) := by decide +kernel
theorem dX2_worthTo_15 : decode cX2_worthTo 15 = .ok (.iconst 0, 1) := by decide +kernel
theorem dX2_worthTo_16 : decode cX2_worthTo 16 = .ok (.istore 5, 2) := by decide +kernel
theorem dX2_worthTo_18 : decode cX2_worthTo 18 = .ok (.iconst 0, 1) := by decide +kernel
theorem dX2_worthTo_19 : decode cX2_worthTo 19 = .ok (.istore 6, 2) := by decide +kernel
theorem dX2_worthTo_21 : decode cX2_worthTo 21 = .ok (.iload 6, 2) := by decide +kernel
theorem dX2_worthTo_23 : decode cX2_worthTo 23 = .ok (.aload_n 0, 1) := by decide +kernel
theorem dX2_worthTo_24 : decode cX2_worthTo 24 = .ok (.getfield 32, 3) := by decide +kernel
theorem dX2_worthTo_27 : decode cX2_worthTo 27 = .ok (.if_icmp .ge 40, 3) := by decide +kernel
theorem dX2_worthTo_30 : decode cX2_worthTo 30 = .ok (.iload_n 2, 1) := by decide +kernel
theorem dX2_worthTo_31 : decode cX2_worthTo 31 = .ok (.iload 6, 2) := by decide +kernel
theorem dX2_worthTo_33 : decode cX2_worthTo 33 = .ok (.ishr, 1) := by decide +kernel
theorem dX2_worthTo_34 : decode cX2_worthTo 34 = .ok (.iconst 1, 1) := by decide +kernel
theorem dX2_worthTo_35 : decode cX2_worthTo 35 = .ok (.iand, 1) := by decide +kernel
theorem dX2_worthTo_36 : decode cX2_worthTo 36 = .ok (.ifCond .eq 25, 3) := by decide +kernel
theorem dX2_worthTo_39 : decode cX2_worthTo 39 = .ok (.iload 5, 2) := by decide +kernel
theorem dX2_worthTo_41 : decode cX2_worthTo 41 = .ok (.aload_n 0, 1) := by decide +kernel
theorem dX2_worthTo_42 : decode cX2_worthTo 42 = .ok (.iload_n 1, 1) := by decide +kernel
theorem dX2_worthTo_43 : decode cX2_worthTo 43 = .ok (.iload 6, 2) := by decide +kernel
theorem dX2_worthTo_45 : decode cX2_worthTo 45 = .ok (.invokevirtual 52, 3) := by decide +kernel
theorem dX2_worthTo_48 : decode cX2_worthTo 48 = .ok (.aload_n 0, 1) := by decide +kernel
theorem dX2_worthTo_49 : decode cX2_worthTo 49 = .ok (.iload 6, 2) := by decide +kernel
theorem dX2_worthTo_51 : decode cX2_worthTo 51 = .ok (.iload_n 3, 1) := by decide +kernel
theorem dX2_worthTo_52 : decode cX2_worthTo 52 = .ok (.iload 4, 2) := by decide +kernel
theorem dX2_worthTo_54 : decode cX2_worthTo 54 = .ok (.invokevirtual 55, 3) := by decide +kernel
theorem dX2_worthTo_57 : decode cX2_worthTo 57 = .ok (.iadd, 1) := by decide +kernel
theorem dX2_worthTo_58 : decode cX2_worthTo 58 = .ok (.iadd, 1) := by decide +kernel
theorem dX2_worthTo_59 : decode cX2_worthTo 59 = .ok (.istore 5, 2) := by decide +kernel
theorem dX2_worthTo_61 : decode cX2_worthTo 61 = .ok (.iinc 6 1, 3) := by decide +kernel
theorem dX2_worthTo_64 : decode cX2_worthTo 64 = .ok (.goto (-43), 3) := by decide +kernel
theorem dX2_worthTo_67 : decode cX2_worthTo 67 = .ok (.iload 5, 2) := by decide +kernel
theorem dX2_worthTo_69 : decode cX2_worthTo 69 = .ok (.ireturn, 1) := by decide +kernel
theorem dX2_countOf_0 : decode cX2_countOf 0 = .ok (.iconst 0, 1) := by decide +kernel
theorem dX2_countOf_1 : decode cX2_countOf 1 = .ok (.istore_n 3, 1) := by decide +kernel
theorem dX2_countOf_2 : decode cX2_countOf 2 = .ok (.iconst 0, 1) := by decide +kernel
theorem dX2_countOf_3 : decode cX2_countOf 3 = .ok (.istore 4, 2) := by decide +kernel
theorem dX2_countOf_5 : decode cX2_countOf 5 = .ok (.iload 4, 2) := by decide +kernel
theorem dX2_countOf_7 : decode cX2_countOf 7 = .ok (.aload_n 0, 1) := by decide +kernel
theorem dX2_countOf_8 : decode cX2_countOf 8 = .ok (.getfield 32, 3) := by decide +kernel
theorem dX2_countOf_11 : decode cX2_countOf 11 = .ok (.if_icmp .ge 32, 3) := by decide +kernel
theorem dX2_countOf_14 : decode cX2_countOf 14 = .ok (.iload_n 2, 1) := by decide +kernel
theorem dX2_countOf_15 : decode cX2_countOf 15 = .ok (.iload 4, 2) := by decide +kernel
theorem dX2_countOf_17 : decode cX2_countOf 17 = .ok (.ishr, 1) := by decide +kernel
theorem dX2_countOf_18 : decode cX2_countOf 18 = .ok (.iconst 1, 1) := by decide +kernel
theorem dX2_countOf_19 : decode cX2_countOf 19 = .ok (.iand, 1) := by decide +kernel
theorem dX2_countOf_20 : decode cX2_countOf 20 = .ok (.ifCond .eq 17, 3) := by decide +kernel
theorem dX2_countOf_23 : decode cX2_countOf 23 = .ok (.aload_n 0, 1) := by decide +kernel
theorem dX2_countOf_24 : decode cX2_countOf 24 = .ok (.getfield 15, 3) := by decide +kernel
theorem dX2_countOf_27 : decode cX2_countOf 27 = .ok (.iload 4, 2) := by decide +kernel
theorem dX2_countOf_29 : decode cX2_countOf 29 = .ok (.iaload, 1) := by decide +kernel
theorem dX2_countOf_30 : decode cX2_countOf 30 = .ok (.iload_n 1, 1) := by decide +kernel
theorem dX2_countOf_31 : decode cX2_countOf 31 = .ok (.if_icmp .ne 6, 3) := by decide +kernel
theorem dX2_countOf_34 : decode cX2_countOf 34 = .ok (.iinc 3 1, 3) := by decide +kernel
theorem dX2_countOf_37 : decode cX2_countOf 37 = .ok (.iinc 4 1, 3) := by decide +kernel
theorem dX2_countOf_40 : decode cX2_countOf 40 = .ok (.goto (-35), 3) := by decide +kernel
theorem dX2_countOf_43 : decode cX2_countOf 43 = .ok (.iload_n 3, 1) := by decide +kernel
theorem dX2_countOf_44 : decode cX2_countOf 44 = .ok (.ireturn, 1) := by decide +kernel
theorem dX2_ownWorth_0 : decode cX2_ownWorth 0 = .ok (.aload_n 0, 1) := by decide +kernel
theorem dX2_ownWorth_1 : decode cX2_ownWorth 1 = .ok (.getfield 15, 3) := by decide +kernel
theorem dX2_ownWorth_4 : decode cX2_ownWorth 4 = .ok (.iload_n 1, 1) := by decide +kernel
theorem dX2_ownWorth_5 : decode cX2_ownWorth 5 = .ok (.iaload, 1) := by decide +kernel
theorem dX2_ownWorth_6 : decode cX2_ownWorth 6 = .ok (.tableswitch 57 0 2 #[26, 33, 41], 26) := by decide +kernel
theorem dX2_ownWorth_32 : decode cX2_ownWorth 32 = .ok (.aload_n 0, 1) := by decide +kernel
theorem dX2_ownWorth_33 : decode cX2_ownWorth 33 = .ok (.getfield 18, 3) := by decide +kernel
theorem dX2_ownWorth_36 : decode cX2_ownWorth 36 = .ok (.iload_n 1, 1) := by decide +kernel
theorem dX2_ownWorth_37 : decode cX2_ownWorth 37 = .ok (.iaload, 1) := by decide +kernel
theorem dX2_ownWorth_38 : decode cX2_ownWorth 38 = .ok (.ireturn, 1) := by decide +kernel
theorem dX2_ownWorth_39 : decode cX2_ownWorth 39 = .ok (.aload_n 0, 1) := by decide +kernel
theorem dX2_ownWorth_40 : decode cX2_ownWorth 40 = .ok (.getfield 18, 3) := by decide +kernel
theorem dX2_ownWorth_43 : decode cX2_ownWorth 43 = .ok (.iload_n 1, 1) := by decide +kernel
theorem dX2_ownWorth_44 : decode cX2_ownWorth 44 = .ok (.iaload, 1) := by decide +kernel
theorem dX2_ownWorth_45 : decode cX2_ownWorth 45 = .ok (.ineg, 1) := by decide +kernel
theorem dX2_ownWorth_46 : decode cX2_ownWorth 46 = .ok (.ireturn, 1) := by decide +kernel
theorem dX2_ownWorth_47 : decode cX2_ownWorth 47 = .ok (.iload_n 2, 1) := by decide +kernel
theorem dX2_ownWorth_48 : decode cX2_ownWorth 48 = .ok (.ifCond .le 7, 3) := by decide +kernel
theorem dX2_ownWorth_51 : decode cX2_ownWorth 51 = .ok (.iconst 0, 1) := by decide +kernel
theorem dX2_ownWorth_52 : decode cX2_ownWorth 52 = .ok (.goto 10, 3) := by decide +kernel
theorem dX2_ownWorth_55 : decode cX2_ownWorth 55 = .ok (.aload_n 0, 1) := by decide +kernel
theorem dX2_ownWorth_56 : decode cX2_ownWorth 56 = .ok (.getfield 18, 3) := by decide +kernel
theorem dX2_ownWorth_59 : decode cX2_ownWorth 59 = .ok (.iload_n 1, 1) := by decide +kernel
theorem dX2_ownWorth_60 : decode cX2_ownWorth 60 = .ok (.iaload, 1) := by decide +kernel
theorem dX2_ownWorth_61 : decode cX2_ownWorth 61 = .ok (.ineg, 1) := by decide +kernel
theorem dX2_ownWorth_62 : decode cX2_ownWorth 62 = .ok (.ireturn, 1) := by decide +kernel
theorem dX2_ownWorth_63 : decode cX2_ownWorth 63 = .ok (.iload_n 3, 1) := by decide +kernel
theorem dX2_ownWorth_64 : decode cX2_ownWorth 64 = .ok (.iconst 1, 1) := by decide +kernel
theorem dX2_ownWorth_65 : decode cX2_ownWorth 65 = .ok (.if_icmp .le 12, 3) := by decide +kernel
theorem dX2_ownWorth_68 : decode cX2_ownWorth 68 = .ok (.aload_n 0, 1) := by decide +kernel
theorem dX2_ownWorth_69 : decode cX2_ownWorth 69 = .ok (.getfield 18, 3) := by decide +kernel
theorem dX2_ownWorth_72 : decode cX2_ownWorth 72 = .ok (.iload_n 1, 1) := by decide +kernel
theorem dX2_ownWorth_73 : decode cX2_ownWorth 73 = .ok (.iaload, 1) := by decide +kernel
theorem dX2_ownWorth_74 : decode cX2_ownWorth 74 = .ok (.goto 4, 3) := by decide +kernel
theorem dX2_ownWorth_77 : decode cX2_ownWorth 77 = .ok (.iconst 0, 1) := by decide +kernel
theorem dX2_ownWorth_78 : decode cX2_ownWorth 78 = .ok (.ireturn, 1) := by decide +kernel
theorem dX2_rowsOf_0 : decode cX2_rowsOf 0 = .ok (.iload_n 1, 1) := by decide +kernel
theorem dX2_rowsOf_1 : decode cX2_rowsOf 1 = .ok (.ifCond .ne 5, 3) := by decide +kernel
theorem dX2_rowsOf_4 : decode cX2_rowsOf 4 = .ok (.lconst 1, 1) := by decide +kernel
theorem dX2_rowsOf_5 : decode cX2_rowsOf 5 = .ok (.lreturn, 1) := by decide +kernel
theorem dX2_rowsOf_6 : decode cX2_rowsOf 6 = .ok (.lconst 0, 1) := by decide +kernel
theorem dX2_rowsOf_7 : decode cX2_rowsOf 7 = .ok (.lstore_n 2, 1) := by decide +kernel
theorem dX2_rowsOf_8 : decode cX2_rowsOf 8 = .ok (.iconst 0, 1) := by decide +kernel
theorem dX2_rowsOf_9 : decode cX2_rowsOf 9 = .ok (.istore 4, 2) := by decide +kernel
theorem dX2_rowsOf_11 : decode cX2_rowsOf 11 = .ok (.iload 4, 2) := by decide +kernel
theorem dX2_rowsOf_13 : decode cX2_rowsOf 13 = .ok (.aload_n 0, 1) := by decide +kernel
theorem dX2_rowsOf_14 : decode cX2_rowsOf 14 = .ok (.getfield 28, 3) := by decide +kernel
theorem dX2_rowsOf_17 : decode cX2_rowsOf 17 = .ok (.if_icmp .ge 34, 3) := by decide +kernel
theorem dX2_rowsOf_20 : decode cX2_rowsOf 20 = .ok (.aload_n 0, 1) := by decide +kernel
theorem dX2_rowsOf_21 : decode cX2_rowsOf 21 = .ok (.getfield 24, 3) := by decide +kernel
theorem dX2_rowsOf_24 : decode cX2_rowsOf 24 = .ok (.iload 4, 2) := by decide +kernel
theorem dX2_rowsOf_26 : decode cX2_rowsOf 26 = .ok (.aload_n 0, 1) := by decide +kernel
theorem dX2_rowsOf_27 : decode cX2_rowsOf 27 = .ok (.getfield 9, 3) := by decide +kernel
theorem dX2_rowsOf_30 : decode cX2_rowsOf 30 = .ok (.iload 4, 2) := by decide +kernel
theorem dX2_rowsOf_32 : decode cX2_rowsOf 32 = .ok (.iaload, 1) := by decide +kernel
theorem dX2_rowsOf_33 : decode cX2_rowsOf 33 = .ok (.i2l, 1) := by decide +kernel
theorem dX2_rowsOf_34 : decode cX2_rowsOf 34 = .ok (.lastore, 1) := by decide +kernel
theorem dX2_rowsOf_35 : decode cX2_rowsOf 35 = .ok (.lload_n 2, 1) := by decide +kernel
theorem dX2_rowsOf_36 : decode cX2_rowsOf 36 = .ok (.aload_n 0, 1) := by decide +kernel
theorem dX2_rowsOf_37 : decode cX2_rowsOf 37 = .ok (.getfield 24, 3) := by decide +kernel
theorem dX2_rowsOf_40 : decode cX2_rowsOf 40 = .ok (.iload 4, 2) := by decide +kernel
theorem dX2_rowsOf_42 : decode cX2_rowsOf 42 = .ok (.laload, 1) := by decide +kernel
theorem dX2_rowsOf_43 : decode cX2_rowsOf 43 = .ok (.ladd, 1) := by decide +kernel
theorem dX2_rowsOf_44 : decode cX2_rowsOf 44 = .ok (.lstore_n 2, 1) := by decide +kernel
theorem dX2_rowsOf_45 : decode cX2_rowsOf 45 = .ok (.iinc 4 1, 3) := by decide +kernel
theorem dX2_rowsOf_48 : decode cX2_rowsOf 48 = .ok (.goto (-37), 3) := by decide +kernel
theorem dX2_rowsOf_51 : decode cX2_rowsOf 51 = .ok (.iconst 1, 1) := by decide +kernel
theorem dX2_rowsOf_52 : decode cX2_rowsOf 52 = .ok (.istore 4, 2) := by decide +kernel
theorem dX2_rowsOf_54 : decode cX2_rowsOf 54 = .ok (.iload 4, 2) := by decide +kernel
theorem dX2_rowsOf_56 : decode cX2_rowsOf 56 = .ok (.iload_n 1, 1) := by decide +kernel
theorem dX2_rowsOf_57 : decode cX2_rowsOf 57 = .ok (.if_icmp .ge 68, 3) := by decide +kernel
theorem dX2_rowsOf_60 : decode cX2_rowsOf 60 = .ok (.lload_n 2, 1) := by decide +kernel
theorem dX2_rowsOf_61 : decode cX2_rowsOf 61 = .ok (.lstore 5, 2) := by decide +kernel
theorem dX2_rowsOf_63 : decode cX2_rowsOf 63 = .ok (.lconst 0, 1) := by decide +kernel
theorem dX2_rowsOf_64 : decode cX2_rowsOf 64 = .ok (.lstore_n 2, 1) := by decide +kernel
theorem dX2_rowsOf_65 : decode cX2_rowsOf 65 = .ok (.iconst 0, 1) := by decide +kernel
theorem dX2_rowsOf_66 : decode cX2_rowsOf 66 = .ok (.istore 7, 2) := by decide +kernel
theorem dX2_rowsOf_68 : decode cX2_rowsOf 68 = .ok (.iload 7, 2) := by decide +kernel
theorem dX2_rowsOf_70 : decode cX2_rowsOf 70 = .ok (.aload_n 0, 1) := by decide +kernel
theorem dX2_rowsOf_71 : decode cX2_rowsOf 71 = .ok (.getfield 28, 3) := by decide +kernel
theorem dX2_rowsOf_74 : decode cX2_rowsOf 74 = .ok (.if_icmp .ge 45, 3) := by decide +kernel
theorem dX2_rowsOf_77 : decode cX2_rowsOf 77 = .ok (.aload_n 0, 1) := by decide +kernel
theorem dX2_rowsOf_78 : decode cX2_rowsOf 78 = .ok (.getfield 24, 3) := by decide +kernel
theorem dX2_rowsOf_81 : decode cX2_rowsOf 81 = .ok (.iload 7, 2) := by decide +kernel
theorem dX2_rowsOf_83 : decode cX2_rowsOf 83 = .ok (.aload_n 0, 1) := by decide +kernel
theorem dX2_rowsOf_84 : decode cX2_rowsOf 84 = .ok (.getfield 9, 3) := by decide +kernel
theorem dX2_rowsOf_87 : decode cX2_rowsOf 87 = .ok (.iload 7, 2) := by decide +kernel
theorem dX2_rowsOf_89 : decode cX2_rowsOf 89 = .ok (.iaload, 1) := by decide +kernel
theorem dX2_rowsOf_90 : decode cX2_rowsOf 90 = .ok (.i2l, 1) := by decide +kernel
theorem dX2_rowsOf_91 : decode cX2_rowsOf 91 = .ok (.lload 5, 2) := by decide +kernel
theorem dX2_rowsOf_93 : decode cX2_rowsOf 93 = .ok (.aload_n 0, 1) := by decide +kernel
theorem dX2_rowsOf_94 : decode cX2_rowsOf 94 = .ok (.getfield 24, 3) := by decide +kernel
theorem dX2_rowsOf_97 : decode cX2_rowsOf 97 = .ok (.iload 7, 2) := by decide +kernel
theorem dX2_rowsOf_99 : decode cX2_rowsOf 99 = .ok (.laload, 1) := by decide +kernel
theorem dX2_rowsOf_100 : decode cX2_rowsOf 100 = .ok (.lsub, 1) := by decide +kernel
theorem dX2_rowsOf_101 : decode cX2_rowsOf 101 = .ok (.lmul, 1) := by decide +kernel
theorem dX2_rowsOf_102 : decode cX2_rowsOf 102 = .ok (.lastore, 1) := by decide +kernel
theorem dX2_rowsOf_103 : decode cX2_rowsOf 103 = .ok (.lload_n 2, 1) := by decide +kernel
theorem dX2_rowsOf_104 : decode cX2_rowsOf 104 = .ok (.aload_n 0, 1) := by decide +kernel
theorem dX2_rowsOf_105 : decode cX2_rowsOf 105 = .ok (.getfield 24, 3) := by decide +kernel
theorem dX2_rowsOf_108 : decode cX2_rowsOf 108 = .ok (.iload 7, 2) := by decide +kernel
theorem dX2_rowsOf_110 : decode cX2_rowsOf 110 = .ok (.laload, 1) := by decide +kernel
theorem dX2_rowsOf_111 : decode cX2_rowsOf 111 = .ok (.ladd, 1) := by decide +kernel
theorem dX2_rowsOf_112 : decode cX2_rowsOf 112 = .ok (.lstore_n 2, 1) := by decide +kernel
theorem dX2_rowsOf_113 : decode cX2_rowsOf 113 = .ok (.iinc 7 1, 3) := by decide +kernel
theorem dX2_rowsOf_116 : decode cX2_rowsOf 116 = .ok (.goto (-48), 3) := by decide +kernel
theorem dX2_rowsOf_119 : decode cX2_rowsOf 119 = .ok (.iinc 4 1, 3) := by decide +kernel
theorem dX2_rowsOf_122 : decode cX2_rowsOf 122 = .ok (.goto (-68), 3) := by decide +kernel
theorem dX2_rowsOf_125 : decode cX2_rowsOf 125 = .ok (.lload_n 2, 1) := by decide +kernel
theorem dX2_rowsOf_126 : decode cX2_rowsOf 126 = .ok (.lreturn, 1) := by decide +kernel
theorem dX3_init_0 : decode cX3_init 0 = .ok (.aload_n 0, 1) := by decide +kernel
theorem dX3_init_1 : decode cX3_init 1 = .ok (.invokespecial 5, 3) := by decide +kernel
theorem dX3_init_4 : decode cX3_init 4 = .ok (.aload_n 0, 1) := by decide +kernel
theorem dX3_init_5 : decode cX3_init 5 = .ok (.bipush 14, 2) := by decide +kernel
theorem dX3_init_7 : decode cX3_init 7 = .ok (.newarray .int, 2) := by decide +kernel
theorem dX3_init_9 : decode cX3_init 9 = .ok (.putfield 11, 3) := by decide +kernel
theorem dX3_init_12 : decode cX3_init 12 = .ok (.return_, 1) := by decide +kernel
theorem dX3_start_0 : decode cX3_start 0 = .ok (.iconst 0, 1) := by decide +kernel
theorem dX3_start_1 : decode cX3_start 1 = .ok (.istore_n 2, 1) := by decide +kernel
theorem dX3_start_2 : decode cX3_start 2 = .ok (.iload_n 2, 1) := by decide +kernel
theorem dX3_start_3 : decode cX3_start 3 = .ok (.iconst 5, 1) := by decide +kernel
theorem dX3_start_4 : decode cX3_start 4 = .ok (.if_icmp .ge 21, 3) := by decide +kernel
theorem dX3_start_7 : decode cX3_start 7 = .ok (.aload_n 0, 1) := by decide +kernel
theorem dX3_start_8 : decode cX3_start 8 = .ok (.getfield 11, 3) := by decide +kernel
theorem dX3_start_11 : decode cX3_start 11 = .ok (.iload_n 2, 1) := by decide +kernel
theorem dX3_start_12 : decode cX3_start 12 = .ok (.aload_n 1, 1) := by decide +kernel
theorem dX3_start_13 : decode cX3_start 13 = .ok (.getfield 15, 3) := by decide +kernel
theorem dX3_start_16 : decode cX3_start 16 = .ok (.iload_n 2, 1) := by decide +kernel
theorem dX3_start_17 : decode cX3_start 17 = .ok (.iaload, 1) := by decide +kernel
theorem dX3_start_18 : decode cX3_start 18 = .ok (.iastore, 1) := by decide +kernel
theorem dX3_start_19 : decode cX3_start 19 = .ok (.iinc 2 1, 3) := by decide +kernel
theorem dX3_start_22 : decode cX3_start 22 = .ok (.goto (-20), 3) := by decide +kernel
theorem dX3_start_25 : decode cX3_start 25 = .ok (.iconst 0, 1) := by decide +kernel
theorem dX3_start_26 : decode cX3_start 26 = .ok (.istore_n 2, 1) := by decide +kernel
theorem dX3_start_27 : decode cX3_start 27 = .ok (.iload_n 2, 1) := by decide +kernel
theorem dX3_start_28 : decode cX3_start 28 = .ok (.bipush 6, 2) := by decide +kernel
theorem dX3_start_30 : decode cX3_start 30 = .ok (.if_icmp .ge 19, 3) := by decide +kernel
theorem dX3_start_33 : decode cX3_start 33 = .ok (.aload_n 0, 1) := by decide +kernel
theorem dX3_start_34 : decode cX3_start 34 = .ok (.getfield 11, 3) := by decide +kernel
theorem dX3_start_37 : decode cX3_start 37 = .ok (.iconst 5, 1) := by decide +kernel
theorem dX3_start_38 : decode cX3_start 38 = .ok (.iload_n 2, 1) := by decide +kernel
theorem dX3_start_39 : decode cX3_start 39 = .ok (.iadd, 1) := by decide +kernel
theorem dX3_start_40 : decode cX3_start 40 = .ok (.bipush (-4), 2) := by decide +kernel
theorem dX3_start_42 : decode cX3_start 42 = .ok (.iastore, 1) := by decide +kernel
theorem dX3_start_43 : decode cX3_start 43 = .ok (.iinc 2 1, 3) := by decide +kernel
theorem dX3_start_46 : decode cX3_start 46 = .ok (.goto (-19), 3) := by decide +kernel
theorem dX3_start_49 : decode cX3_start 49 = .ok (.aload_n 0, 1) := by decide +kernel
theorem dX3_start_50 : decode cX3_start 50 = .ok (.getfield 11, 3) := by decide +kernel
theorem dX3_start_53 : decode cX3_start 53 = .ok (.bipush 11, 2) := by decide +kernel
theorem dX3_start_55 : decode cX3_start 55 = .ok (.iconst 0, 1) := by decide +kernel
theorem dX3_start_56 : decode cX3_start 56 = .ok (.iastore, 1) := by decide +kernel
theorem dX3_start_57 : decode cX3_start 57 = .ok (.aload_n 0, 1) := by decide +kernel
theorem dX3_start_58 : decode cX3_start 58 = .ok (.getfield 11, 3) := by decide +kernel
theorem dX3_start_61 : decode cX3_start 61 = .ok (.bipush 12, 2) := by decide +kernel
theorem dX3_start_63 : decode cX3_start 63 = .ok (.iconst 0, 1) := by decide +kernel
theorem dX3_start_64 : decode cX3_start 64 = .ok (.iastore, 1) := by decide +kernel
theorem dX3_start_65 : decode cX3_start 65 = .ok (.aload_n 0, 1) := by decide +kernel
theorem dX3_start_66 : decode cX3_start 66 = .ok (.getfield 11, 3) := by decide +kernel
theorem dX3_start_69 : decode cX3_start 69 = .ok (.bipush 13, 2) := by decide +kernel
theorem dX3_start_71 : decode cX3_start 71 = .ok (.bipush (-4), 2) := by decide +kernel
theorem dX3_start_73 : decode cX3_start 73 = .ok (.iastore, 1) := by decide +kernel
theorem dX3_start_74 : decode cX3_start 74 = .ok (.return_, 1) := by decide +kernel
theorem dX3_copy_0 : decode cX3_copy 0 = .ok (.aload_n 1, 1) := by decide +kernel
theorem dX3_copy_1 : decode cX3_copy 1 = .ok (.getfield 11, 3) := by decide +kernel
theorem dX3_copy_4 : decode cX3_copy 4 = .ok (.iconst 0, 1) := by decide +kernel
theorem dX3_copy_5 : decode cX3_copy 5 = .ok (.aload_n 0, 1) := by decide +kernel
theorem dX3_copy_6 : decode cX3_copy 6 = .ok (.getfield 11, 3) := by decide +kernel
theorem dX3_copy_9 : decode cX3_copy 9 = .ok (.iconst 0, 1) := by decide +kernel
theorem dX3_copy_10 : decode cX3_copy 10 = .ok (.bipush 14, 2) := by decide +kernel
theorem dX3_copy_12 : decode cX3_copy 12 = .ok (.invokestatic 20, 3) := by decide +kernel
theorem dX3_copy_15 : decode cX3_copy 15 = .ok (.return_, 1) := by decide +kernel
theorem dX3_ticketsOf_0 : decode cX3_ticketsOf 0 = .ok (.aload_n 0, 1) := by decide +kernel
theorem dX3_ticketsOf_1 : decode cX3_ticketsOf 1 = .ok (.getfield 11, 3) := by decide +kernel
theorem dX3_ticketsOf_4 : decode cX3_ticketsOf 4 = .ok (.iload_n 1, 1) := by decide +kernel
theorem dX3_ticketsOf_5 : decode cX3_ticketsOf 5 = .ok (.iaload, 1) := by decide +kernel
theorem dX3_ticketsOf_6 : decode cX3_ticketsOf 6 = .ok (.ireturn, 1) := by decide +kernel
theorem dX3_ownerOf_0 : decode cX3_ownerOf 0 = .ok (.aload_n 0, 1) := by decide +kernel
theorem dX3_ownerOf_1 : decode cX3_ownerOf 1 = .ok (.getfield 11, 3) := by decide +kernel
theorem dX3_ownerOf_4 : decode cX3_ownerOf 4 = .ok (.iconst 5, 1) := by decide +kernel
theorem dX3_ownerOf_5 : decode cX3_ownerOf 5 = .ok (.iload_n 1, 1) := by decide +kernel
theorem dX3_ownerOf_6 : decode cX3_ownerOf 6 = .ok (.iadd, 1) := by decide +kernel
theorem dX3_ownerOf_7 : decode cX3_ownerOf 7 = .ok (.iaload, 1) := by decide +kernel
theorem dX3_ownerOf_8 : decode cX3_ownerOf 8 = .ok (.ireturn, 1) := by decide +kernel
theorem dX3_next_0 : decode cX3_next 0 = .ok (.aload_n 0, 1) := by decide +kernel
theorem dX3_next_1 : decode cX3_next 1 = .ok (.getfield 11, 3) := by decide +kernel
theorem dX3_next_4 : decode cX3_next 4 = .ok (.bipush 11, 2) := by decide +kernel
theorem dX3_next_6 : decode cX3_next 6 = .ok (.iaload, 1) := by decide +kernel
theorem dX3_next_7 : decode cX3_next 7 = .ok (.ireturn, 1) := by decide +kernel
theorem dX3_refusable_0 : decode cX3_refusable 0 = .ok (.aload_n 0, 1) := by decide +kernel
theorem dX3_refusable_1 : decode cX3_refusable 1 = .ok (.getfield 11, 3) := by decide +kernel
theorem dX3_refusable_4 : decode cX3_refusable 4 = .ok (.bipush 13, 2) := by decide +kernel
theorem dX3_refusable_6 : decode cX3_refusable 6 = .ok (.iaload, 1) := by decide +kernel
theorem dX3_refusable_7 : decode cX3_refusable 7 = .ok (.ireturn, 1) := by decide +kernel
theorem dX3_tickets_0 : decode cX3_tickets 0 = .ok (.iconst 0, 1) := by decide +kernel
theorem dX3_tickets_1 : decode cX3_tickets 1 = .ok (.istore_n 1, 1) := by decide +kernel
theorem dX3_tickets_2 : decode cX3_tickets 2 = .ok (.iconst 0, 1) := by decide +kernel
theorem dX3_tickets_3 : decode cX3_tickets 3 = .ok (.istore_n 2, 1) := by decide +kernel
theorem dX3_tickets_4 : decode cX3_tickets 4 = .ok (.iload_n 2, 1) := by decide +kernel
theorem dX3_tickets_5 : decode cX3_tickets 5 = .ok (.iconst 5, 1) := by decide +kernel
theorem dX3_tickets_6 : decode cX3_tickets 6 = .ok (.if_icmp .ge 18, 3) := by decide +kernel
theorem dX3_tickets_9 : decode cX3_tickets 9 = .ok (.iload_n 1, 1) := by decide +kernel
theorem dX3_tickets_10 : decode cX3_tickets 10 = .ok (.aload_n 0, 1) := by decide +kernel
theorem dX3_tickets_11 : decode cX3_tickets 11 = .ok (.getfield 11, 3) := by decide +kernel
theorem dX3_tickets_14 : decode cX3_tickets 14 = .ok (.iload_n 2, 1) := by decide +kernel
theorem dX3_tickets_15 : decode cX3_tickets 15 = .ok (.iaload, 1) := by decide +kernel
theorem dX3_tickets_16 : decode cX3_tickets 16 = .ok (.iadd, 1) := by decide +kernel
theorem dX3_tickets_17 : decode cX3_tickets 17 = .ok (.istore_n 1, 1) := by decide +kernel
theorem dX3_tickets_18 : decode cX3_tickets 18 = .ok (.iinc 2 1, 3) := by decide +kernel
theorem dX3_tickets_21 : decode cX3_tickets 21 = .ok (.goto (-17), 3) := by decide +kernel
theorem dX3_tickets_24 : decode cX3_tickets 24 = .ok (.iload_n 1, 1) := by decide +kernel
theorem dX3_tickets_25 : decode cX3_tickets 25 = .ok (.ireturn, 1) := by decide +kernel
theorem dX3_ticketHolder_0 : decode cX3_ticketHolder 0 = .ok (.iload_n 1, 1) := by decide +kernel
theorem dX3_ticketHolder_1 : decode cX3_ticketHolder 1 = .ok (.istore_n 2, 1) := by decide +kernel
theorem dX3_ticketHolder_2 : decode cX3_ticketHolder 2 = .ok (.iconst 0, 1) := by decide +kernel
theorem dX3_ticketHolder_3 : decode cX3_ticketHolder 3 = .ok (.istore_n 3, 1) := by decide +kernel
theorem dX3_ticketHolder_4 : decode cX3_ticketHolder 4 = .ok (.iload_n 3, 1) := by decide +kernel
theorem dX3_ticketHolder_5 : decode cX3_ticketHolder 5 = .ok (.iconst 5, 1) := by decide +kernel
theorem dX3_ticketHolder_6 : decode cX3_ticketHolder 6 = .ok (.if_icmp .ge 34, 3) := by decide +kernel
theorem dX3_ticketHolder_9 : decode cX3_ticketHolder 9 = .ok (.iload_n 2, 1) := by decide +kernel
theorem dX3_ticketHolder_10 : decode cX3_ticketHolder 10 = .ok (.ifCond .lt 30, 3) := by decide +kernel
theorem dX3_ticketHolder_13 : decode cX3_ticketHolder 13 = .ok (.iload_n 2, 1) := by decide +kernel
theorem dX3_ticketHolder_14 : decode cX3_ticketHolder 14 = .ok (.aload_n 0, 1) := by decide +kernel
theorem dX3_ticketHolder_15 : decode cX3_ticketHolder 15 = .ok (.getfield 11, 3) := by decide +kernel
theorem dX3_ticketHolder_18 : decode cX3_ticketHolder 18 = .ok (.iload_n 3, 1) := by decide +kernel
theorem dX3_ticketHolder_19 : decode cX3_ticketHolder 19 = .ok (.iaload, 1) := by decide +kernel
theorem dX3_ticketHolder_20 : decode cX3_ticketHolder 20 = .ok (.if_icmp .ge 5, 3) := by decide +kernel
theorem dX3_ticketHolder_23 : decode cX3_ticketHolder 23 = .ok (.iload_n 3, 1) := by decide +kernel
theorem dX3_ticketHolder_24 : decode cX3_ticketHolder 24 = .ok (.ireturn, 1) := by decide +kernel
theorem dX3_ticketHolder_25 : decode cX3_ticketHolder 25 = .ok (.iload_n 2, 1) := by decide +kernel
theorem dX3_ticketHolder_26 : decode cX3_ticketHolder 26 = .ok (.aload_n 0, 1) := by decide +kernel
theorem dX3_ticketHolder_27 : decode cX3_ticketHolder 27 = .ok (.getfield 11, 3) := by decide +kernel
theorem dX3_ticketHolder_30 : decode cX3_ticketHolder 30 = .ok (.iload_n 3, 1) := by decide +kernel
theorem dX3_ticketHolder_31 : decode cX3_ticketHolder 31 = .ok (.iaload, 1) := by decide +kernel
theorem dX3_ticketHolder_32 : decode cX3_ticketHolder 32 = .ok (.isub, 1) := by decide +kernel
theorem dX3_ticketHolder_33 : decode cX3_ticketHolder 33 = .ok (.istore_n 2, 1) := by decide +kernel
theorem dX3_ticketHolder_34 : decode cX3_ticketHolder 34 = .ok (.iinc 3 1, 3) := by decide +kernel
theorem dX3_ticketHolder_37 : decode cX3_ticketHolder 37 = .ok (.goto (-33), 3) := by decide +kernel
theorem dX3_ticketHolder_40 : decode cX3_ticketHolder 40 = .ok (.bipush (-4), 2) := by decide +kernel
theorem dX3_ticketHolder_42 : decode cX3_ticketHolder 42 = .ok (.ireturn, 1) := by decide +kernel
theorem dX3_setOf_0 : decode cX3_setOf 0 = .ok (.iconst 0, 1) := by decide +kernel
theorem dX3_setOf_1 : decode cX3_setOf 1 = .ok (.istore_n 2, 1) := by decide +kernel
theorem dX3_setOf_2 : decode cX3_setOf 2 = .ok (.iconst 0, 1) := by decide +kernel
theorem dX3_setOf_3 : decode cX3_setOf 3 = .ok (.istore_n 3, 1) := by decide +kernel
theorem dX3_setOf_4 : decode cX3_setOf 4 = .ok (.iload_n 3, 1) := by decide +kernel
theorem dX3_setOf_5 : decode cX3_setOf 5 = .ok (.bipush 6, 2) := by decide +kernel
theorem dX3_setOf_7 : decode cX3_setOf 7 = .ok (.if_icmp .ge 24, 3) := by decide +kernel
theorem dX3_setOf_10 : decode cX3_setOf 10 = .ok (.aload_n 0, 1) := by decide +kernel
theorem dX3_setOf_11 : decode cX3_setOf 11 = .ok (.iload_n 3, 1) := by decide +kernel
theorem dX3_setOf_12 : decode cX3_setOf 12 = .ok (.invokevirtual 26, 3) := by decide +kernel
theorem dX3_setOf_15 : decode cX3_setOf 15 = .ok (.iload_n 1, 1) := by decide +kernel
theorem dX3_setOf_16 : decode cX3_setOf 16 = .ok (.if_icmp .ne 9, 3) := by decide +kernel
theorem dX3_setOf_19 : decode cX3_setOf 19 = .ok (.iload_n 2, 1) := by decide +kernel
theorem dX3_setOf_20 : decode cX3_setOf 20 = .ok (.iconst 1, 1) := by decide +kernel
theorem dX3_setOf_21 : decode cX3_setOf 21 = .ok (.iload_n 3, 1) := by decide +kernel
theorem dX3_setOf_22 : decode cX3_setOf 22 = .ok (.ishl, 1) := by decide +kernel
theorem dX3_setOf_23 : decode cX3_setOf 23 = .ok (.ior, 1) := by decide +kernel
theorem dX3_setOf_24 : decode cX3_setOf 24 = .ok (.istore_n 2, 1) := by decide +kernel
theorem dX3_setOf_25 : decode cX3_setOf 25 = .ok (.iinc 3 1, 3) := by decide +kernel
theorem dX3_setOf_28 : decode cX3_setOf 28 = .ok (.goto (-24), 3) := by decide +kernel
theorem dX3_setOf_31 : decode cX3_setOf 31 = .ok (.iload_n 2, 1) := by decide +kernel
theorem dX3_setOf_32 : decode cX3_setOf 32 = .ok (.ireturn, 1) := by decide +kernel
theorem dX3_ownedSet_0 : decode cX3_ownedSet 0 = .ok (.iconst 0, 1) := by decide +kernel
theorem dX3_ownedSet_1 : decode cX3_ownedSet 1 = .ok (.istore_n 1, 1) := by decide +kernel
theorem dX3_ownedSet_2 : decode cX3_ownedSet 2 = .ok (.iconst 0, 1) := by decide +kernel
theorem dX3_ownedSet_3 : decode cX3_ownedSet 3 = .ok (.istore_n 2, 1) := by decide +kernel
theorem dX3_ownedSet_4 : decode cX3_ownedSet 4 = .ok (.iload_n 2, 1) := by decide +kernel
theorem dX3_ownedSet_5 : decode cX3_ownedSet 5 = .ok (.bipush 6, 2) := by decide +kernel
theorem dX3_ownedSet_7 : decode cX3_ownedSet 7 = .ok (.if_icmp .ge 25, 3) := by decide +kernel
theorem dX3_ownedSet_10 : decode cX3_ownedSet 10 = .ok (.aload_n 0, 1) := by decide +kernel
theorem dX3_ownedSet_11 : decode cX3_ownedSet 11 = .ok (.iload_n 2, 1) := by decide +kernel
theorem dX3_ownedSet_12 : decode cX3_ownedSet 12 = .ok (.invokevirtual 26, 3) := by decide +kernel
theorem dX3_ownedSet_15 : decode cX3_ownedSet 15 = .ok (.bipush (-4), 2) := by decide +kernel
theorem dX3_ownedSet_17 : decode cX3_ownedSet 17 = .ok (.if_icmp .eq 9, 3) := by decide +kernel
theorem dX3_ownedSet_20 : decode cX3_ownedSet 20 = .ok (.iload_n 1, 1) := by decide +kernel
theorem dX3_ownedSet_21 : decode cX3_ownedSet 21 = .ok (.iconst 1, 1) := by decide +kernel
theorem dX3_ownedSet_22 : decode cX3_ownedSet 22 = .ok (.iload_n 2, 1) := by decide +kernel
theorem dX3_ownedSet_23 : decode cX3_ownedSet 23 = .ok (.ishl, 1) := by decide +kernel
theorem dX3_ownedSet_24 : decode cX3_ownedSet 24 = .ok (.ior, 1) := by decide +kernel
theorem dX3_ownedSet_25 : decode cX3_ownedSet 25 = .ok (.istore_n 1, 1) := by decide +kernel
theorem dX3_ownedSet_26 : decode cX3_ownedSet 26 = .ok (.iinc 2 1, 3) := by decide +kernel
theorem dX3_ownedSet_29 : decode cX3_ownedSet 29 = .ok (.goto (-25), 3) := by decide +kernel
theorem dX3_ownedSet_32 : decode cX3_ownedSet 32 = .ok (.iload_n 1, 1) := by decide +kernel
theorem dX3_ownedSet_33 : decode cX3_ownedSet 33 = .ok (.ireturn, 1) := by decide +kernel
theorem dX3_ownedThings_0 : decode cX3_ownedThings 0 = .ok (.aload_n 0, 1) := by decide +kernel
theorem dX3_ownedThings_1 : decode cX3_ownedThings 1 = .ok (.invokevirtual 30, 3) := by decide +kernel
theorem dX3_ownedThings_4 : decode cX3_ownedThings 4 = .ok (.invokestatic 34, 3) := by decide +kernel
theorem dX3_ownedThings_7 : decode cX3_ownedThings 7 = .ok (.ireturn, 1) := by decide +kernel
theorem dX3_takeNext_0 : decode cX3_takeNext 0 = .ok (.aload_n 0, 1) := by decide +kernel
theorem dX3_takeNext_1 : decode cX3_takeNext 1 = .ok (.getfield 11, 3) := by decide +kernel
theorem dX3_takeNext_4 : decode cX3_takeNext 4 = .ok (.bipush 11, 2) := by decide +kernel
theorem dX3_takeNext_6 : decode cX3_takeNext 6 = .ok (.iaload, 1) := by decide +kernel
theorem dX3_takeNext_7 : decode cX3_takeNext 7 = .ok (.istore_n 2, 1) := by decide +kernel
theorem dX3_takeNext_8 : decode cX3_takeNext 8 = .ok (.iload_n 2, 1) := by decide +kernel
theorem dX3_takeNext_9 : decode cX3_takeNext 9 = .ok (.ifCond .lt 18, 3) := by decide +kernel
theorem dX3_takeNext_12 : decode cX3_takeNext 12 = .ok (.iload_n 2, 1) := by decide +kernel
theorem dX3_takeNext_13 : decode cX3_takeNext 13 = .ok (.bipush 6, 2) := by decide +kernel
theorem dX3_takeNext_15 : decode cX3_takeNext 15 = .ok (.if_icmp .ge 12, 3) := by decide +kernel
theorem dX3_takeNext_18 : decode cX3_takeNext 18 = .ok (.iload_n 1, 1) := by decide +kernel
theorem dX3_takeNext_19 : decode cX3_takeNext 19 = .ok (.ifCond .lt 8, 3) := by decide +kernel
theorem dX3_takeNext_22 : decode cX3_takeNext 22 = .ok (.iload_n 1, 1) := by decide +kernel
theorem dX3_takeNext_23 : decode cX3_takeNext 23 = .ok (.iconst 5, 1) := by decide +kernel
theorem dX3_takeNext_24 : decode cX3_takeNext 24 = .ok (.if_icmp .lt 4, 3) := by decide +kernel
theorem dX3_takeNext_27 : decode cX3_takeNext 27 = .ok (.return_, 1) := by decide +kernel
theorem dX3_takeNext_28 : decode cX3_takeNext 28 = .ok (.aload_n 0, 1) := by decide +kernel
theorem dX3_takeNext_29 : decode cX3_takeNext 29 = .ok (.getfield 11, 3) := by decide +kernel
theorem dX3_takeNext_32 : decode cX3_takeNext 32 = .ok (.iload_n 1, 1) := by decide +kernel
theorem dX3_takeNext_33 : decode cX3_takeNext 33 = .ok (.dup2, 1) := by decide +kernel
theorem dX3_takeNext_34 : decode cX3_takeNext 34 = .ok (.iaload, 1) := by decide +kernel
theorem dX3_takeNext_35 : decode cX3_takeNext 35 = .ok (.iconst 1, 1) := by decide +kernel
theorem dX3_takeNext_36 : decode cX3_takeNext 36 = .ok (.isub, 1) := by decide +kernel
theorem dX3_takeNext_37 : decode cX3_takeNext 37 = .ok (.iastore, 1) := by decide +kernel
theorem dX3_takeNext_38 : decode cX3_takeNext 38 = .ok (.aload_n 0, 1) := by decide +kernel
theorem dX3_takeNext_39 : decode cX3_takeNext 39 = .ok (.getfield 11, 3) := by decide +kernel
theorem dX3_takeNext_42 : decode cX3_takeNext 42 = .ok (.iconst 5, 1) := by decide +kernel
theorem dX3_takeNext_43 : decode cX3_takeNext 43 = .ok (.iload_n 2, 1) := by decide +kernel
theorem dX3_takeNext_44 : decode cX3_takeNext 44 = .ok (.iadd, 1) := by decide +kernel
theorem dX3_takeNext_45 : decode cX3_takeNext 45 = .ok (.iload_n 1, 1) := by decide +kernel
theorem dX3_takeNext_46 : decode cX3_takeNext 46 = .ok (.iastore, 1) := by decide +kernel
theorem dX3_takeNext_47 : decode cX3_takeNext 47 = .ok (.aload_n 0, 1) := by decide +kernel
theorem dX3_takeNext_48 : decode cX3_takeNext 48 = .ok (.getfield 11, 3) := by decide +kernel
theorem dX3_takeNext_51 : decode cX3_takeNext 51 = .ok (.bipush 11, 2) := by decide +kernel
theorem dX3_takeNext_53 : decode cX3_takeNext 53 = .ok (.iload_n 2, 1) := by decide +kernel
theorem dX3_takeNext_54 : decode cX3_takeNext 54 = .ok (.iconst 1, 1) := by decide +kernel
theorem dX3_takeNext_55 : decode cX3_takeNext 55 = .ok (.iadd, 1) := by decide +kernel
theorem dX3_takeNext_56 : decode cX3_takeNext 56 = .ok (.iastore, 1) := by decide +kernel
theorem dX3_takeNext_57 : decode cX3_takeNext 57 = .ok (.aload_n 0, 1) := by decide +kernel
theorem dX3_takeNext_58 : decode cX3_takeNext 58 = .ok (.getfield 11, 3) := by decide +kernel
theorem dX3_takeNext_61 : decode cX3_takeNext 61 = .ok (.bipush 13, 2) := by decide +kernel
theorem dX3_takeNext_63 : decode cX3_takeNext 63 = .ok (.aload_n 0, 1) := by decide +kernel
theorem dX3_takeNext_64 : decode cX3_takeNext 64 = .ok (.getfield 11, 3) := by decide +kernel
theorem dX3_takeNext_67 : decode cX3_takeNext 67 = .ok (.bipush 12, 2) := by decide +kernel
theorem dX3_takeNext_69 : decode cX3_takeNext 69 = .ok (.iaload, 1) := by decide +kernel
theorem dX3_takeNext_70 : decode cX3_takeNext 70 = .ok (.iload_n 2, 1) := by decide +kernel
theorem dX3_takeNext_71 : decode cX3_takeNext 71 = .ok (.ishr, 1) := by decide +kernel
theorem dX3_takeNext_72 : decode cX3_takeNext 72 = .ok (.iconst 1, 1) := by decide +kernel
theorem dX3_takeNext_73 : decode cX3_takeNext 73 = .ok (.iand, 1) := by decide +kernel
theorem dX3_takeNext_74 : decode cX3_takeNext 74 = .ok (.ifCond .eq 8, 3) := by decide +kernel
theorem dX3_takeNext_77 : decode cX3_takeNext 77 = .ok (.bipush (-4), 2) := by decide +kernel
theorem dX3_takeNext_79 : decode cX3_takeNext 79 = .ok (.goto 4, 3) := by decide +kernel
theorem dX3_takeNext_82 : decode cX3_takeNext 82 = .ok (.iload_n 2, 1) := by decide +kernel
theorem dX3_takeNext_83 : decode cX3_takeNext 83 = .ok (.iastore, 1) := by decide +kernel
theorem dX3_takeNext_84 : decode cX3_takeNext 84 = .ok (.return_, 1) := by decide +kernel
theorem dX3_putBack_0 : decode cX3_putBack 0 = .ok (.aload_n 0, 1) := by decide +kernel
theorem dX3_putBack_1 : decode cX3_putBack 1 = .ok (.getfield 11, 3) := by decide +kernel
theorem dX3_putBack_4 : decode cX3_putBack 4 = .ok (.iconst 5, 1) := by decide +kernel
theorem dX3_putBack_5 : decode cX3_putBack 5 = .ok (.iload_n 1, 1) := by decide +kernel
theorem dX3_putBack_6 : decode cX3_putBack 6 = .ok (.iadd, 1) := by decide +kernel
theorem dX3_putBack_7 : decode cX3_putBack 7 = .ok (.bipush (-4), 2) := by decide +kernel
theorem dX3_putBack_9 : decode cX3_putBack 9 = .ok (.iastore, 1) := by decide +kernel
theorem dX3_putBack_10 : decode cX3_putBack 10 = .ok (.aload_n 0, 1) := by decide +kernel
theorem dX3_putBack_11 : decode cX3_putBack 11 = .ok (.getfield 11, 3) := by decide +kernel
theorem dX3_putBack_14 : decode cX3_putBack 14 = .ok (.bipush 11, 2) := by decide +kernel
theorem dX3_putBack_16 : decode cX3_putBack 16 = .ok (.iload_n 1, 1) := by decide +kernel
theorem dX3_putBack_17 : decode cX3_putBack 17 = .ok (.iastore, 1) := by decide +kernel
theorem dX3_putBack_18 : decode cX3_putBack 18 = .ok (.aload_n 0, 1) := by decide +kernel
theorem dX3_putBack_19 : decode cX3_putBack 19 = .ok (.getfield 11, 3) := by decide +kernel
theorem dX3_putBack_22 : decode cX3_putBack 22 = .ok (.bipush 12, 2) := by decide +kernel
theorem dX3_putBack_24 : decode cX3_putBack 24 = .ok (.dup2, 1) := by decide +kernel
theorem dX3_putBack_25 : decode cX3_putBack 25 = .ok (.iaload, 1) := by decide +kernel
theorem dX3_putBack_26 : decode cX3_putBack 26 = .ok (.iconst 1, 1) := by decide +kernel
theorem dX3_putBack_27 : decode cX3_putBack 27 = .ok (.iload_n 1, 1) := by decide +kernel
theorem dX3_putBack_28 : decode cX3_putBack 28 = .ok (.ishl, 1) := by decide +kernel
theorem dX3_putBack_29 : decode cX3_putBack 29 = .ok (.ior, 1) := by decide +kernel
theorem dX3_putBack_30 : decode cX3_putBack 30 = .ok (.iastore, 1) := by decide +kernel
theorem dX3_putBack_31 : decode cX3_putBack 31 = .ok (.aload_n 0, 1) := by decide +kernel
theorem dX3_putBack_32 : decode cX3_putBack 32 = .ok (.getfield 11, 3) := by decide +kernel
theorem dX3_putBack_35 : decode cX3_putBack 35 = .ok (.bipush 13, 2) := by decide +kernel
theorem dX3_putBack_37 : decode cX3_putBack 37 = .ok (.bipush (-4), 2) := by decide +kernel
theorem dX3_putBack_39 : decode cX3_putBack 39 = .ok (.iastore, 1) := by decide +kernel
theorem dX3_putBack_40 : decode cX3_putBack 40 = .ok (.return_, 1) := by decide +kernel
theorem dX3_addTickets_0 : decode cX3_addTickets 0 = .ok (.aload_n 0, 1) := by decide +kernel
theorem dX3_addTickets_1 : decode cX3_addTickets 1 = .ok (.getfield 11, 3) := by decide +kernel
theorem dX3_addTickets_4 : decode cX3_addTickets 4 = .ok (.iload_n 1, 1) := by decide +kernel
theorem dX3_addTickets_5 : decode cX3_addTickets 5 = .ok (.dup2, 1) := by decide +kernel
theorem dX3_addTickets_6 : decode cX3_addTickets 6 = .ok (.iaload, 1) := by decide +kernel
theorem dX3_addTickets_7 : decode cX3_addTickets 7 = .ok (.iload_n 2, 1) := by decide +kernel
theorem dX3_addTickets_8 : decode cX3_addTickets 8 = .ok (.iadd, 1) := by decide +kernel
theorem dX3_addTickets_9 : decode cX3_addTickets 9 = .ok (.iastore, 1) := by decide +kernel
theorem dX3_addTickets_10 : decode cX3_addTickets 10 = .ok (.return_, 1) := by decide +kernel
theorem dX3_pass_0 : decode cX3_pass 0 = .ok (.aload_n 0, 1) := by decide +kernel
theorem dX3_pass_1 : decode cX3_pass 1 = .ok (.iload_n 1, 1) := by decide +kernel
theorem dX3_pass_2 : decode cX3_pass 2 = .ok (.invokevirtual 26, 3) := by decide +kernel
theorem dX3_pass_5 : decode cX3_pass 5 = .ok (.iload_n 2, 1) := by decide +kernel
theorem dX3_pass_6 : decode cX3_pass 6 = .ok (.if_icmp .ne 4, 3) := by decide +kernel
theorem dX3_pass_9 : decode cX3_pass 9 = .ok (.return_, 1) := by decide +kernel
theorem dX3_pass_10 : decode cX3_pass 10 = .ok (.aload_n 0, 1) := by decide +kernel
theorem dX3_pass_11 : decode cX3_pass 11 = .ok (.getfield 11, 3) := by decide +kernel
theorem dX3_pass_14 : decode cX3_pass 14 = .ok (.iconst 5, 1) := by decide +kernel
theorem dX3_pass_15 : decode cX3_pass 15 = .ok (.iload_n 1, 1) := by decide +kernel
theorem dX3_pass_16 : decode cX3_pass 16 = .ok (.iadd, 1) := by decide +kernel
theorem dX3_pass_17 : decode cX3_pass 17 = .ok (.iload_n 2, 1) := by decide +kernel
theorem dX3_pass_18 : decode cX3_pass 18 = .ok (.iastore, 1) := by decide +kernel
theorem dX3_pass_19 : decode cX3_pass 19 = .ok (.aload_n 0, 1) := by decide +kernel
theorem dX3_pass_20 : decode cX3_pass 20 = .ok (.getfield 11, 3) := by decide +kernel
theorem dX3_pass_23 : decode cX3_pass 23 = .ok (.bipush 13, 2) := by decide +kernel
theorem dX3_pass_25 : decode cX3_pass 25 = .ok (.iaload, 1) := by decide +kernel
theorem dX3_pass_26 : decode cX3_pass 26 = .ok (.iload_n 1, 1) := by decide +kernel
theorem dX3_pass_27 : decode cX3_pass 27 = .ok (.if_icmp .ne 12, 3) := by decide +kernel
theorem dX3_pass_30 : decode cX3_pass 30 = .ok (.aload_n 0, 1) := by decide +kernel
theorem dX3_pass_31 : decode cX3_pass 31 = .ok (.getfield 11, 3) := by decide +kernel
theorem dX3_pass_34 : decode cX3_pass 34 = .ok (.bipush 13, 2) := by decide +kernel
theorem dX3_pass_36 : decode cX3_pass 36 = .ok (.bipush (-4), 2) := by decide +kernel
theorem dX3_pass_38 : decode cX3_pass 38 = .ok (.iastore, 1) := by decide +kernel
theorem dX3_pass_39 : decode cX3_pass 39 = .ok (.return_, 1) := by decide +kernel
theorem dX4_init_0 : decode cX4_init 0 = .ok (.aload_n 0, 1) := by decide +kernel
theorem dX4_init_1 : decode cX4_init 1 = .ok (.invokespecial 1, 3) := by decide +kernel
theorem dX4_init_4 : decode cX4_init 4 = .ok (.aload_n 0, 1) := by decide +kernel
theorem dX4_init_5 : decode cX4_init 5 = .ok (.iload_n 1, 1) := by decide +kernel
theorem dX4_init_6 : decode cX4_init 6 = .ok (.iconst 1, 1) := by decide +kernel
theorem dX4_init_7 : decode cX4_init 7 = .ok (.invokestatic 7, 3) := by decide +kernel
theorem dX4_init_10 : decode cX4_init 10 = .ok (.putfield 13, 3) := by decide +kernel
theorem dX4_init_13 : decode cX4_init 13 = .ok (.aload_n 0, 1) := by decide +kernel
theorem dX4_init_14 : decode cX4_init 14 = .ok (.aload_n 0, 1) := by decide +kernel
theorem dX4_init_15 : decode cX4_init 15 = .ok (.getfield 13, 3) := by decide +kernel
theorem dX4_init_18 : decode cX4_init 18 = .ok (.bipush 14, 2) := by decide +kernel
theorem dX4_init_20 : decode cX4_init 20 = .ok (.imul, 1) := by decide +kernel
theorem dX4_init_21 : decode cX4_init 21 = .ok (.newarray .int, 2) := by decide +kernel
theorem dX4_init_23 : decode cX4_init 23 = .ok (.putfield 21, 3) := by decide +kernel
theorem dX4_init_26 : decode cX4_init 26 = .ok (.return_, 1) := by decide +kernel
theorem dX4_isFull_0 : decode cX4_isFull 0 = .ok (.aload_n 0, 1) := by decide +kernel
theorem dX4_isFull_1 : decode cX4_isFull 1 = .ok (.getfield 25, 3) := by decide +kernel
theorem dX4_isFull_4 : decode cX4_isFull 4 = .ok (.aload_n 0, 1) := by decide +kernel
theorem dX4_isFull_5 : decode cX4_isFull 5 = .ok (.getfield 13, 3) := by decide +kernel
theorem dX4_isFull_8 : decode cX4_isFull 8 = .ok (.if_icmp .lt 7, 3) := by decide +kernel
theorem dX4_isFull_11 : decode cX4_isFull 11 = .ok (.iconst 1, 1) := by decide +kernel
theorem dX4_isFull_12 : decode cX4_isFull 12 = .ok (.goto 4, 3) := by decide +kernel
theorem dX4_isFull_15 : decode cX4_isFull 15 = .ok (.iconst 0, 1) := by decide +kernel
theorem dX4_isFull_16 : decode cX4_isFull 16 = .ok (.ireturn, 1) := by decide +kernel
theorem dX4_clear_0 : decode cX4_clear 0 = .ok (.aload_n 0, 1) := by decide +kernel
theorem dX4_clear_1 : decode cX4_clear 1 = .ok (.iconst 0, 1) := by decide +kernel
theorem dX4_clear_2 : decode cX4_clear 2 = .ok (.putfield 25, 3) := by decide +kernel
theorem dX4_clear_5 : decode cX4_clear 5 = .ok (.return_, 1) := by decide +kernel
theorem dX4_push_0 : decode cX4_push 0 = .ok (.aload_n 0, 1) := by decide +kernel
theorem dX4_push_1 : decode cX4_push 1 = .ok (.invokevirtual 28, 3) := by decide +kernel
theorem dX4_push_4 : decode cX4_push 4 = .ok (.ifCond .eq 34, 3) := by decide +kernel
theorem dX4_push_7 : decode cX4_push 7 = .ok (.aload_n 0, 1) := by decide +kernel
theorem dX4_push_8 : decode cX4_push 8 = .ok (.aload_n 0, 1) := by decide +kernel
theorem dX4_push_9 : decode cX4_push 9 = .ok (.getfield 13, 3) := by decide +kernel
theorem dX4_push_12 : decode cX4_push 12 = .ok (.iconst 1, 1) := by decide +kernel
theorem dX4_push_13 : decode cX4_push 13 = .ok (.isub, 1) := by decide +kernel
theorem dX4_push_14 : decode cX4_push 14 = .ok (.putfield 25, 3) := by decide +kernel
theorem dX4_push_17 : decode cX4_push 17 = .ok (.aload_n 0, 1) := by decide +kernel
theorem dX4_push_18 : decode cX4_push 18 = .ok (.getfield 21, 3) := by decide +kernel
theorem dX4_push_21 : decode cX4_push 21 = .ok (.bipush 14, 2) := by decide +kernel
theorem dX4_push_23 : decode cX4_push 23 = .ok (.aload_n 0, 1) := by decide +kernel
theorem dX4_push_24 : decode cX4_push 24 = .ok (.getfield 21, 3) := by decide +kernel
theorem dX4_push_27 : decode cX4_push 27 = .ok (.iconst 0, 1) := by decide +kernel
theorem dX4_push_28 : decode cX4_push 28 = .ok (.aload_n 0, 1) := by decide +kernel
theorem dX4_push_29 : decode cX4_push 29 = .ok (.getfield 25, 3) := by decide +kernel
theorem dX4_push_32 : decode cX4_push 32 = .ok (.bipush 14, 2) := by decide +kernel
theorem dX4_push_34 : decode cX4_push 34 = .ok (.imul, 1) := by decide +kernel
theorem dX4_push_35 : decode cX4_push 35 = .ok (.invokestatic 32, 3) := by decide +kernel
theorem dX4_push_38 : decode cX4_push 38 = .ok (.aload_n 1, 1) := by decide +kernel
theorem dX4_push_39 : decode cX4_push 39 = .ok (.getfield 38, 3) := by decide +kernel
theorem dX4_push_42 : decode cX4_push 42 = .ok (.iconst 0, 1) := by decide +kernel
theorem dX4_push_43 : decode cX4_push 43 = .ok (.aload_n 0, 1) := by decide +kernel
theorem dX4_push_44 : decode cX4_push 44 = .ok (.getfield 21, 3) := by decide +kernel
theorem dX4_push_47 : decode cX4_push 47 = .ok (.aload_n 0, 1) := by decide +kernel
theorem dX4_push_48 : decode cX4_push 48 = .ok (.getfield 25, 3) := by decide +kernel
theorem dX4_push_51 : decode cX4_push 51 = .ok (.bipush 14, 2) := by decide +kernel
theorem dX4_push_53 : decode cX4_push 53 = .ok (.imul, 1) := by decide +kernel
theorem dX4_push_54 : decode cX4_push 54 = .ok (.bipush 14, 2) := by decide +kernel
theorem dX4_push_56 : decode cX4_push 56 = .ok (.invokestatic 32, 3) := by decide +kernel
theorem dX4_push_59 : decode cX4_push 59 = .ok (.aload_n 0, 1) := by decide +kernel
theorem dX4_push_60 : decode cX4_push 60 = .ok (.dup, 1) := by decide +kernel
theorem dX4_push_61 : decode cX4_push 61 = .ok (.getfield 25, 3) := by decide +kernel
theorem dX4_push_64 : decode cX4_push 64 = .ok (.iconst 1, 1) := by decide +kernel
theorem dX4_push_65 : decode cX4_push 65 = .ok (.iadd, 1) := by decide +kernel
theorem dX4_push_66 : decode cX4_push 66 = .ok (.putfield 25, 3) := by decide +kernel
theorem dX4_push_69 : decode cX4_push 69 = .ok (.return_, 1) := by decide +kernel
theorem dX4_pop_0 : decode cX4_pop 0 = .ok (.aload_n 0, 1) := by decide +kernel
theorem dX4_pop_1 : decode cX4_pop 1 = .ok (.getfield 25, 3) := by decide +kernel
theorem dX4_pop_4 : decode cX4_pop 4 = .ok (.ifCond .ne 5, 3) := by decide +kernel
theorem dX4_pop_7 : decode cX4_pop 7 = .ok (.iconst 0, 1) := by decide +kernel
theorem dX4_pop_8 : decode cX4_pop 8 = .ok (.ireturn, 1) := by decide +kernel
theorem dX4_pop_9 : decode cX4_pop 9 = .ok (.aload_n 0, 1) := by decide +kernel
theorem dX4_pop_10 : decode cX4_pop 10 = .ok (.dup, 1) := by decide +kernel
theorem dX4_pop_11 : decode cX4_pop 11 = .ok (.getfield 25, 3) := by decide +kernel
theorem dX4_pop_14 : decode cX4_pop 14 = .ok (.iconst 1, 1) := by decide +kernel
theorem dX4_pop_15 : decode cX4_pop 15 = .ok (.isub, 1) := by decide +kernel
theorem dX4_pop_16 : decode cX4_pop 16 = .ok (.putfield 25, 3) := by decide +kernel
theorem dX4_pop_19 : decode cX4_pop 19 = .ok (.aload_n 0, 1) := by decide +kernel
theorem dX4_pop_20 : decode cX4_pop 20 = .ok (.getfield 21, 3) := by decide +kernel
theorem dX4_pop_23 : decode cX4_pop 23 = .ok (.aload_n 0, 1) := by decide +kernel
theorem dX4_pop_24 : decode cX4_pop 24 = .ok (.getfield 25, 3) := by decide +kernel
theorem dX4_pop_27 : decode cX4_pop 27 = .ok (.bipush 14, 2) := by decide +kernel
theorem dX4_pop_29 : decode cX4_pop 29 = .ok (.imul, 1) := by decide +kernel
theorem dX4_pop_30 : decode cX4_pop 30 = .ok (.aload_n 1, 1) := by decide +kernel
theorem dX4_pop_31 : decode cX4_pop 31 = .ok (.getfield 38, 3) := by decide +kernel
theorem dX4_pop_34 : decode cX4_pop 34 = .ok (.iconst 0, 1) := by decide +kernel
theorem dX4_pop_35 : decode cX4_pop 35 = .ok (.bipush 14, 2) := by decide +kernel
theorem dX4_pop_37 : decode cX4_pop 37 = .ok (.invokestatic 32, 3) := by decide +kernel
theorem dX4_pop_40 : decode cX4_pop 40 = .ok (.iconst 1, 1) := by decide +kernel
theorem dX4_pop_41 : decode cX4_pop 41 = .ok (.ireturn, 1) := by decide +kernel
theorem dX5_init_0 : decode cX5_init 0 = .ok (.aload_n 0, 1) := by decide +kernel
theorem dX5_init_1 : decode cX5_init 1 = .ok (.invokespecial 3, 3) := by decide +kernel
theorem dX5_init_4 : decode cX5_init 4 = .ok (.aload_n 0, 1) := by decide +kernel
theorem dX5_init_5 : decode cX5_init 5 = .ok (.sipush 200, 3) := by decide +kernel
theorem dX5_init_8 : decode cX5_init 8 = .ok (.newarray .char, 2) := by decide +kernel
theorem dX5_init_10 : decode cX5_init 10 = .ok (.putfield 9, 3) := by decide +kernel
theorem dX5_init_13 : decode cX5_init 13 = .ok (.aload_n 0, 1) := by decide +kernel
theorem dX5_init_14 : decode cX5_init 14 = .ok (.iconst 3, 1) := by decide +kernel
theorem dX5_init_15 : decode cX5_init 15 = .ok (.newarray .int, 2) := by decide +kernel
theorem dX5_init_17 : decode cX5_init 17 = .ok (.putfield 15, 3) := by decide +kernel
theorem dX5_init_20 : decode cX5_init 20 = .ok (.return_, 1) := by decide +kernel
theorem dX5_append_0 : decode cX5_append 0 = .ok (.aload_n 0, 1) := by decide +kernel
theorem dX5_append_1 : decode cX5_append 1 = .ok (.getfield 19, 3) := by decide +kernel
theorem dX5_append_4 : decode cX5_append 4 = .ok (.sipush 200, 3) := by decide +kernel
theorem dX5_append_7 : decode cX5_append 7 = .ok (.if_icmp .lt 5, 3) := by decide +kernel
theorem dX5_append_10 : decode cX5_append 10 = .ok (.iconst 0, 1) := by decide +kernel
theorem dX5_append_11 : decode cX5_append 11 = .ok (.ireturn, 1) := by decide +kernel
theorem dX5_append_12 : decode cX5_append 12 = .ok (.aload_n 0, 1) := by decide +kernel
theorem dX5_append_13 : decode cX5_append 13 = .ok (.getfield 9, 3) := by decide +kernel
theorem dX5_append_16 : decode cX5_append 16 = .ok (.aload_n 0, 1) := by decide +kernel
theorem dX5_append_17 : decode cX5_append 17 = .ok (.getfield 19, 3) := by decide +kernel
theorem dX5_append_20 : decode cX5_append 20 = .ok (.iload_n 1, 1) := by decide +kernel
theorem dX5_append_21 : decode cX5_append 21 = .ok (.castore, 1) := by decide +kernel
theorem dX5_append_22 : decode cX5_append 22 = .ok (.aload_n 0, 1) := by decide +kernel
theorem dX5_append_23 : decode cX5_append 23 = .ok (.dup, 1) := by decide +kernel
theorem dX5_append_24 : decode cX5_append 24 = .ok (.getfield 19, 3) := by decide +kernel
theorem dX5_append_27 : decode cX5_append 27 = .ok (.iconst 1, 1) := by decide +kernel
theorem dX5_append_28 : decode cX5_append 28 = .ok (.iadd, 1) := by decide +kernel
theorem dX5_append_29 : decode cX5_append 29 = .ok (.putfield 19, 3) := by decide +kernel
theorem dX5_append_32 : decode cX5_append 32 = .ok (.iconst 1, 1) := by decide +kernel
theorem dX5_append_33 : decode cX5_append 33 = .ok (.ireturn, 1) := by decide +kernel
theorem dX5_clear_0 : decode cX5_clear 0 = .ok (.aload_n 0, 1) := by decide +kernel
theorem dX5_clear_1 : decode cX5_clear 1 = .ok (.iconst 0, 1) := by decide +kernel
theorem dX5_clear_2 : decode cX5_clear 2 = .ok (.putfield 19, 3) := by decide +kernel
theorem dX5_clear_5 : decode cX5_clear 5 = .ok (.return_, 1) := by decide +kernel
theorem dX5_tell_0 : decode cX5_tell 0 = .ok (.aload_n 1, 1) := by decide +kernel
theorem dX5_tell_1 : decode cX5_tell 1 = .ok (.invokevirtual 23, 3) := by decide +kernel
theorem dX5_tell_4 : decode cX5_tell 4 = .ok (.aload_n 0, 1) := by decide +kernel
theorem dX5_tell_5 : decode cX5_tell 5 = .ok (.iconst 0, 1) := by decide +kernel
theorem dX5_tell_6 : decode cX5_tell 6 = .ok (.putfield 28, 3) := by decide +kernel
theorem dX5_tell_9 : decode cX5_tell 9 = .ok (.iconst 0, 1) := by decide +kernel
theorem dX5_tell_10 : decode cX5_tell 10 = .ok (.istore_n 2, 1) := by decide +kernel
theorem dX5_tell_11 : decode cX5_tell 11 = .ok (.iload_n 2, 1) := by decide +kernel
theorem dX5_tell_12 : decode cX5_tell 12 = .ok (.sipush 200, 3) := by decide +kernel
theorem dX5_tell_15 : decode cX5_tell 15 = .ok (.if_icmp .ge 35, 3) := by decide +kernel
theorem dX5_tell_18 : decode cX5_tell 18 = .ok (.aload_n 0, 1) := by decide +kernel
theorem dX5_tell_19 : decode cX5_tell 19 = .ok (.getfield 28, 3) := by decide +kernel
theorem dX5_tell_22 : decode cX5_tell 22 = .ok (.aload_n 0, 1) := by decide +kernel
theorem dX5_tell_23 : decode cX5_tell 23 = .ok (.getfield 19, 3) := by decide +kernel
theorem dX5_tell_26 : decode cX5_tell 26 = .ok (.if_icmp .ge 24, 3) := by decide +kernel
theorem dX5_tell_29 : decode cX5_tell 29 = .ok (.aload_n 0, 1) := by decide +kernel
theorem dX5_tell_30 : decode cX5_tell 30 = .ok (.getfield 28, 3) := by decide +kernel
theorem dX5_tell_33 : decode cX5_tell 33 = .ok (.istore_n 3, 1) := by decide +kernel
theorem dX5_tell_34 : decode cX5_tell 34 = .ok (.aload_n 0, 1) := by decide +kernel
theorem dX5_tell_35 : decode cX5_tell 35 = .ok (.aload_n 1, 1) := by decide +kernel
theorem dX5_tell_36 : decode cX5_tell 36 = .ok (.invokevirtual 31, 3) := by decide +kernel
theorem dX5_tell_39 : decode cX5_tell 39 = .ok (.ifCond .ne 5, 3) := by decide +kernel
theorem dX5_tell_42 : decode cX5_tell 42 = .ok (.iload_n 3, 1) := by decide +kernel
theorem dX5_tell_43 : decode cX5_tell 43 = .ok (.ireturn, 1) := by decide +kernel
theorem dX5_tell_44 : decode cX5_tell 44 = .ok (.iinc 2 1, 3) := by decide +kernel
theorem dX5_tell_47 : decode cX5_tell 47 = .ok (.goto (-36), 3) := by decide +kernel
theorem dX5_tell_50 : decode cX5_tell 50 = .ok (.bipush (-4), 2) := by decide +kernel
theorem dX5_tell_52 : decode cX5_tell 52 = .ok (.ireturn, 1) := by decide +kernel
theorem dX5_tellItem_0 : decode cX5_tellItem 0 = .ok (.aload_n 0, 1) := by decide +kernel
theorem dX5_tellItem_1 : decode cX5_tellItem 1 = .ok (.invokevirtual 35, 3) := by decide +kernel
theorem dX5_tellItem_4 : decode cX5_tellItem 4 = .ok (.lookupswitch 135 #[(108, 96), (112, 36), (116, 63)], 36) := by decide +kernel
theorem dX5_tellItem_40 : decode cX5_tellItem 40 = .ok (.aload_n 0, 1) := by decide +kernel
theorem dX5_tellItem_41 : decode cX5_tellItem 41 = .ok (.iconst 1, 1) := by decide +kernel
theorem dX5_tellItem_42 : decode cX5_tellItem 42 = .ok (.invokevirtual 39, 3) := by decide +kernel
theorem dX5_tellItem_45 : decode cX5_tellItem 45 = .ok (.ifCond .eq 20, 3) := by decide +kernel
theorem dX5_tellItem_48 : decode cX5_tellItem 48 = .ok (.aload_n 1, 1) := by decide +kernel
theorem dX5_tellItem_49 : decode cX5_tellItem 49 = .ok (.aload_n 0, 1) := by decide +kernel
theorem dX5_tellItem_50 : decode cX5_tellItem 50 = .ok (.getfield 15, 3) := by decide +kernel
theorem dX5_tellItem_53 : decode cX5_tellItem 53 = .ok (.iconst 0, 1) := by decide +kernel
theorem dX5_tellItem_54 : decode cX5_tellItem 54 = .ok (.iaload, 1) := by decide +kernel
theorem dX5_tellItem_55 : decode cX5_tellItem 55 = .ok (.invokevirtual 43, 3) := by decide +kernel
theorem dX5_tellItem_58 : decode cX5_tellItem 58 = .ok (.ifCond .eq 7, 3) := by decide +kernel
theorem dX5_tellItem_61 : decode cX5_tellItem 61 = .ok (.iconst 1, 1) := by decide +kernel
theorem dX5_tellItem_62 : decode cX5_tellItem 62 = .ok (.goto 4, 3) := by decide +kernel
theorem dX5_tellItem_65 : decode cX5_tellItem 65 = .ok (.iconst 0, 1) := by decide +kernel
theorem dX5_tellItem_66 : decode cX5_tellItem 66 = .ok (.ireturn, 1) := by decide +kernel
theorem dX5_tellItem_67 : decode cX5_tellItem 67 = .ok (.aload_n 0, 1) := by decide +kernel
theorem dX5_tellItem_68 : decode cX5_tellItem 68 = .ok (.iconst 2, 1) := by decide +kernel
theorem dX5_tellItem_69 : decode cX5_tellItem 69 = .ok (.invokevirtual 39, 3) := by decide +kernel
theorem dX5_tellItem_72 : decode cX5_tellItem 72 = .ok (.ifCond .eq 26, 3) := by decide +kernel
theorem dX5_tellItem_75 : decode cX5_tellItem 75 = .ok (.aload_n 1, 1) := by decide +kernel
theorem dX5_tellItem_76 : decode cX5_tellItem 76 = .ok (.aload_n 0, 1) := by decide +kernel
theorem dX5_tellItem_77 : decode cX5_tellItem 77 = .ok (.getfield 15, 3) := by decide +kernel
theorem dX5_tellItem_80 : decode cX5_tellItem 80 = .ok (.iconst 0, 1) := by decide +kernel
theorem dX5_tellItem_81 : decode cX5_tellItem 81 = .ok (.iaload, 1) := by decide +kernel
theorem dX5_tellItem_82 : decode cX5_tellItem 82 = .ok (.aload_n 0, 1) := by decide +kernel
theorem dX5_tellItem_83 : decode cX5_tellItem 83 = .ok (.getfield 15, 3) := by decide +kernel
theorem dX5_tellItem_86 : decode cX5_tellItem 86 = .ok (.iconst 1, 1) := by decide +kernel
theorem dX5_tellItem_87 : decode cX5_tellItem 87 = .ok (.iaload, 1) := by decide +kernel
theorem dX5_tellItem_88 : decode cX5_tellItem 88 = .ok (.invokevirtual 46, 3) := by decide +kernel
theorem dX5_tellItem_91 : decode cX5_tellItem 91 = .ok (.ifCond .eq 7, 3) := by decide +kernel
theorem dX5_tellItem_94 : decode cX5_tellItem 94 = .ok (.iconst 1, 1) := by decide +kernel
theorem dX5_tellItem_95 : decode cX5_tellItem 95 = .ok (.goto 4, 3) := by decide +kernel
theorem dX5_tellItem_98 : decode cX5_tellItem 98 = .ok (.iconst 0, 1) := by decide +kernel
theorem dX5_tellItem_99 : decode cX5_tellItem 99 = .ok (.ireturn, 1) := by decide +kernel
theorem dX5_tellItem_100 : decode cX5_tellItem 100 = .ok (.aload_n 0, 1) := by decide +kernel
theorem dX5_tellItem_101 : decode cX5_tellItem 101 = .ok (.iconst 3, 1) := by decide +kernel
theorem dX5_tellItem_102 : decode cX5_tellItem 102 = .ok (.invokevirtual 39, 3) := by decide +kernel
theorem dX5_tellItem_105 : decode cX5_tellItem 105 = .ok (.ifCond .eq 32, 3) := by decide +kernel
theorem dX5_tellItem_108 : decode cX5_tellItem 108 = .ok (.aload_n 1, 1) := by decide +kernel
theorem dX5_tellItem_109 : decode cX5_tellItem 109 = .ok (.aload_n 0, 1) := by decide +kernel
theorem dX5_tellItem_110 : decode cX5_tellItem 110 = .ok (.getfield 15, 3) := by decide +kernel
theorem dX5_tellItem_113 : decode cX5_tellItem 113 = .ok (.iconst 0, 1) := by decide +kernel
theorem dX5_tellItem_114 : decode cX5_tellItem 114 = .ok (.iaload, 1) := by decide +kernel
theorem dX5_tellItem_115 : decode cX5_tellItem 115 = .ok (.aload_n 0, 1) := by decide +kernel
theorem dX5_tellItem_116 : decode cX5_tellItem 116 = .ok (.getfield 15, 3) := by decide +kernel
theorem dX5_tellItem_119 : decode cX5_tellItem 119 = .ok (.iconst 1, 1) := by decide +kernel
theorem dX5_tellItem_120 : decode cX5_tellItem 120 = .ok (.iaload, 1) := by decide +kernel
theorem dX5_tellItem_121 : decode cX5_tellItem 121 = .ok (.aload_n 0, 1) := by decide +kernel
theorem dX5_tellItem_122 : decode cX5_tellItem 122 = .ok (.getfield 15, 3) := by decide +kernel
theorem dX5_tellItem_125 : decode cX5_tellItem 125 = .ok (.iconst 2, 1) := by decide +kernel
theorem dX5_tellItem_126 : decode cX5_tellItem 126 = .ok (.iaload, 1) := by decide +kernel
theorem dX5_tellItem_127 : decode cX5_tellItem 127 = .ok (.invokevirtual 50, 3) := by decide +kernel
theorem dX5_tellItem_130 : decode cX5_tellItem 130 = .ok (.ifCond .eq 7, 3) := by decide +kernel
theorem dX5_tellItem_133 : decode cX5_tellItem 133 = .ok (.iconst 1, 1) := by decide +kernel
theorem dX5_tellItem_134 : decode cX5_tellItem 134 = .ok (.goto 4, 3) := by decide +kernel
theorem dX5_tellItem_137 : decode cX5_tellItem 137 = .ok (.iconst 0, 1) := by decide +kernel
theorem dX5_tellItem_138 : decode cX5_tellItem 138 = .ok (.ireturn, 1) := by decide +kernel
theorem dX5_tellItem_139 : decode cX5_tellItem 139 = .ok (.iconst 0, 1) := by decide +kernel
theorem dX5_tellItem_140 : decode cX5_tellItem 140 = .ok (.ireturn, 1) := by decide +kernel
theorem dX5_readNumbers_0 : decode cX5_readNumbers 0 = .ok (.iconst 0, 1) := by decide +kernel
theorem dX5_readNumbers_1 : decode cX5_readNumbers 1 = .ok (.istore_n 2, 1) := by decide +kernel
theorem dX5_readNumbers_2 : decode cX5_readNumbers 2 = .ok (.iload_n 2, 1) := by decide +kernel
theorem dX5_readNumbers_3 : decode cX5_readNumbers 3 = .ok (.iload_n 1, 1) := by decide +kernel
theorem dX5_readNumbers_4 : decode cX5_readNumbers 4 = .ok (.if_icmp .ge 85, 3) := by decide +kernel
theorem dX5_readNumbers_7 : decode cX5_readNumbers 7 = .ok (.iload_n 2, 1) := by decide +kernel
theorem dX5_readNumbers_8 : decode cX5_readNumbers 8 = .ok (.aload_n 0, 1) := by decide +kernel
theorem dX5_readNumbers_9 : decode cX5_readNumbers 9 = .ok (.getfield 15, 3) := by decide +kernel
theorem dX5_readNumbers_12 : decode cX5_readNumbers 12 = .ok (.arraylength, 1) := by decide +kernel
theorem dX5_readNumbers_13 : decode cX5_readNumbers 13 = .ok (.if_icmp .ge 76, 3) := by decide +kernel
theorem dX5_readNumbers_16 : decode cX5_readNumbers 16 = .ok (.aload_n 0, 1) := by decide +kernel
theorem dX5_readNumbers_17 : decode cX5_readNumbers 17 = .ok (.invokevirtual 54, 3) := by decide +kernel
theorem dX5_readNumbers_20 : decode cX5_readNumbers 20 = .ok (.ifCond .ne 5, 3) := by decide +kernel
theorem dX5_readNumbers_23 : decode cX5_readNumbers 23 = .ok (.iconst 0, 1) := by decide +kernel
theorem dX5_readNumbers_24 : decode cX5_readNumbers 24 = .ok (.ireturn, 1) := by decide +kernel
theorem dX5_readNumbers_25 : decode cX5_readNumbers 25 = .ok (.aload_n 0, 1) := by decide +kernel
theorem dX5_readNumbers_26 : decode cX5_readNumbers 26 = .ok (.invokevirtual 35, 3) := by decide +kernel
theorem dX5_readNumbers_29 : decode cX5_readNumbers 29 = .ok (.bipush 48, 2) := by decide +kernel
theorem dX5_readNumbers_31 : decode cX5_readNumbers 31 = .ok (.isub, 1) := by decide +kernel
theorem dX5_readNumbers_32 : decode cX5_readNumbers 32 = .ok (.istore_n 3, 1) := by decide +kernel
theorem dX5_readNumbers_33 : decode cX5_readNumbers 33 = .ok (.aload_n 0, 1) := by decide +kernel
theorem dX5_readNumbers_34 : decode cX5_readNumbers 34 = .ok (.invokevirtual 54, 3) := by decide +kernel
theorem dX5_readNumbers_37 : decode cX5_readNumbers 37 = .ok (.ifCond .eq 16, 3) := by decide +kernel
theorem dX5_readNumbers_40 : decode cX5_readNumbers 40 = .ok (.bipush 10, 2) := by decide +kernel
theorem dX5_readNumbers_42 : decode cX5_readNumbers 42 = .ok (.iload_n 3, 1) := by decide +kernel
theorem dX5_readNumbers_43 : decode cX5_readNumbers 43 = .ok (.imul, 1) := by decide +kernel
theorem dX5_readNumbers_44 : decode cX5_readNumbers 44 = .ok (.aload_n 0, 1) := by decide +kernel
theorem dX5_readNumbers_45 : decode cX5_readNumbers 45 = .ok (.invokevirtual 35, 3) := by decide +kernel
theorem dX5_readNumbers_48 : decode cX5_readNumbers 48 = .ok (.iadd, 1) := by decide +kernel
theorem dX5_readNumbers_49 : decode cX5_readNumbers 49 = .ok (.bipush 48, 2) := by decide +kernel
theorem dX5_readNumbers_51 : decode cX5_readNumbers 51 = .ok (.isub, 1) := by decide +kernel
theorem dX5_readNumbers_52 : decode cX5_readNumbers 52 = .ok (.istore_n 3, 1) := by decide +kernel
theorem dX5_readNumbers_53 : decode cX5_readNumbers 53 = .ok (.aload_n 0, 1) := by decide +kernel
theorem dX5_readNumbers_54 : decode cX5_readNumbers 54 = .ok (.getfield 15, 3) := by decide +kernel
theorem dX5_readNumbers_57 : decode cX5_readNumbers 57 = .ok (.iload_n 2, 1) := by decide +kernel
theorem dX5_readNumbers_58 : decode cX5_readNumbers 58 = .ok (.iload_n 3, 1) := by decide +kernel
theorem dX5_readNumbers_59 : decode cX5_readNumbers 59 = .ok (.iastore, 1) := by decide +kernel
theorem dX5_readNumbers_60 : decode cX5_readNumbers 60 = .ok (.aload_n 0, 1) := by decide +kernel
theorem dX5_readNumbers_61 : decode cX5_readNumbers 61 = .ok (.invokevirtual 35, 3) := by decide +kernel
theorem dX5_readNumbers_64 : decode cX5_readNumbers 64 = .ok (.iload_n 2, 1) := by decide +kernel
theorem dX5_readNumbers_65 : decode cX5_readNumbers 65 = .ok (.iload_n 1, 1) := by decide +kernel
theorem dX5_readNumbers_66 : decode cX5_readNumbers 66 = .ok (.iconst 1, 1) := by decide +kernel
theorem dX5_readNumbers_67 : decode cX5_readNumbers 67 = .ok (.isub, 1) := by decide +kernel
theorem dX5_readNumbers_68 : decode cX5_readNumbers 68 = .ok (.if_icmp .ge 8, 3) := by decide +kernel
theorem dX5_readNumbers_71 : decode cX5_readNumbers 71 = .ok (.bipush 44, 2) := by decide +kernel
theorem dX5_readNumbers_73 : decode cX5_readNumbers 73 = .ok (.goto 5, 3) := by decide +kernel
theorem dX5_readNumbers_76 : decode cX5_readNumbers 76 = .ok (.bipush 59, 2) := by decide +kernel
theorem dX5_readNumbers_78 : decode cX5_readNumbers 78 = .ok (.if_icmp .eq 5, 3) := by decide +kernel
theorem dX5_readNumbers_81 : decode cX5_readNumbers 81 = .ok (.iconst 0, 1) := by decide +kernel
theorem dX5_readNumbers_82 : decode cX5_readNumbers 82 = .ok (.ireturn, 1) := by decide +kernel
theorem dX5_readNumbers_83 : decode cX5_readNumbers 83 = .ok (.iinc 2 1, 3) := by decide +kernel
theorem dX5_readNumbers_86 : decode cX5_readNumbers 86 = .ok (.goto (-84), 3) := by decide +kernel
theorem dX5_readNumbers_89 : decode cX5_readNumbers 89 = .ok (.iconst 1, 1) := by decide +kernel
theorem dX5_readNumbers_90 : decode cX5_readNumbers 90 = .ok (.ireturn, 1) := by decide +kernel
theorem dX5_isFigure_0 : decode cX5_isFigure 0 = .ok (.aload_n 0, 1) := by decide +kernel
theorem dX5_isFigure_1 : decode cX5_isFigure 1 = .ok (.getfield 28, 3) := by decide +kernel
theorem dX5_isFigure_4 : decode cX5_isFigure 4 = .ok (.aload_n 0, 1) := by decide +kernel
theorem dX5_isFigure_5 : decode cX5_isFigure 5 = .ok (.getfield 19, 3) := by decide +kernel
theorem dX5_isFigure_8 : decode cX5_isFigure 8 = .ok (.if_icmp .ge 35, 3) := by decide +kernel
theorem dX5_isFigure_11 : decode cX5_isFigure 11 = .ok (.aload_n 0, 1) := by decide +kernel
theorem dX5_isFigure_12 : decode cX5_isFigure 12 = .ok (.getfield 9, 3) := by decide +kernel
theorem dX5_isFigure_15 : decode cX5_isFigure 15 = .ok (.aload_n 0, 1) := by decide +kernel
theorem dX5_isFigure_16 : decode cX5_isFigure 16 = .ok (.getfield 28, 3) := by decide +kernel
theorem dX5_isFigure_19 : decode cX5_isFigure 19 = .ok (.caload, 1) := by decide +kernel
theorem dX5_isFigure_20 : decode cX5_isFigure 20 = .ok (.bipush 48, 2) := by decide +kernel
theorem dX5_isFigure_22 : decode cX5_isFigure 22 = .ok (.if_icmp .lt 21, 3) := by decide +kernel
theorem dX5_isFigure_25 : decode cX5_isFigure 25 = .ok (.aload_n 0, 1) := by decide +kernel
theorem dX5_isFigure_26 : decode cX5_isFigure 26 = .ok (.getfield 9, 3) := by decide +kernel
theorem dX5_isFigure_29 : decode cX5_isFigure 29 = .ok (.aload_n 0, 1) := by decide +kernel
theorem dX5_isFigure_30 : decode cX5_isFigure 30 = .ok (.getfield 28, 3) := by decide +kernel
theorem dX5_isFigure_33 : decode cX5_isFigure 33 = .ok (.caload, 1) := by decide +kernel
theorem dX5_isFigure_34 : decode cX5_isFigure 34 = .ok (.bipush 57, 2) := by decide +kernel
theorem dX5_isFigure_36 : decode cX5_isFigure 36 = .ok (.if_icmp .gt 7, 3) := by decide +kernel
theorem dX5_isFigure_39 : decode cX5_isFigure 39 = .ok (.iconst 1, 1) := by decide +kernel
theorem dX5_isFigure_40 : decode cX5_isFigure 40 = .ok (.goto 4, 3) := by decide +kernel
theorem dX5_isFigure_43 : decode cX5_isFigure 43 = .ok (.iconst 0, 1) := by decide +kernel
theorem dX5_isFigure_44 : decode cX5_isFigure 44 = .ok (.ireturn, 1) := by decide +kernel
theorem dX5_nextLetter_0 : decode cX5_nextLetter 0 = .ok (.aload_n 0, 1) := by decide +kernel
theorem dX5_nextLetter_1 : decode cX5_nextLetter 1 = .ok (.getfield 28, 3) := by decide +kernel
theorem dX5_nextLetter_4 : decode cX5_nextLetter 4 = .ok (.aload_n 0, 1) := by decide +kernel
theorem dX5_nextLetter_5 : decode cX5_nextLetter 5 = .ok (.getfield 19, 3) := by decide +kernel
theorem dX5_nextLetter_8 : decode cX5_nextLetter 8 = .ok (.if_icmp .lt 5, 3) := by decide +kernel
theorem dX5_nextLetter_11 : decode cX5_nextLetter 11 = .ok (.iconst 0, 1) := by decide +kernel
theorem dX5_nextLetter_12 : decode cX5_nextLetter 12 = .ok (.ireturn, 1) := by decide +kernel
theorem dX5_nextLetter_13 : decode cX5_nextLetter 13 = .ok (.aload_n 0, 1) := by decide +kernel
theorem dX5_nextLetter_14 : decode cX5_nextLetter 14 = .ok (.getfield 9, 3) := by decide +kernel
theorem dX5_nextLetter_17 : decode cX5_nextLetter 17 = .ok (.aload_n 0, 1) := by decide +kernel
theorem dX5_nextLetter_18 : decode cX5_nextLetter 18 = .ok (.getfield 28, 3) := by decide +kernel
theorem dX5_nextLetter_21 : decode cX5_nextLetter 21 = .ok (.caload, 1) := by decide +kernel
theorem dX5_nextLetter_22 : decode cX5_nextLetter 22 = .ok (.istore_n 1, 1) := by decide +kernel
theorem dX5_nextLetter_23 : decode cX5_nextLetter 23 = .ok (.aload_n 0, 1) := by decide +kernel
theorem dX5_nextLetter_24 : decode cX5_nextLetter 24 = .ok (.dup, 1) := by decide +kernel
theorem dX5_nextLetter_25 : decode cX5_nextLetter 25 = .ok (.getfield 28, 3) := by decide +kernel
theorem dX5_nextLetter_28 : decode cX5_nextLetter 28 = .ok (.iconst 1, 1) := by decide +kernel
theorem dX5_nextLetter_29 : decode cX5_nextLetter 29 = .ok (.iadd, 1) := by decide +kernel
theorem dX5_nextLetter_30 : decode cX5_nextLetter 30 = .ok (.putfield 28, 3) := by decide +kernel
theorem dX5_nextLetter_33 : decode cX5_nextLetter 33 = .ok (.iload_n 1, 1) := by decide +kernel
theorem dX5_nextLetter_34 : decode cX5_nextLetter 34 = .ok (.ireturn, 1) := by decide +kernel
