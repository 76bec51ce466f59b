theorem dX7_init_0 : decode cX7_init 0 = .ok (.aload_n 0, 1) := by decide +kernel
theorem dX7_init_1 : decode cX7_init 1 = .ok (.invokespecial 1, 3) := by decide +kernel
theorem dX7_init_4 : decode cX7_init 4 = .ok (.aload_n 0, 1) := by decide +kernel
theorem dX7_init_5 : decode cX7_init 5 = .ok (.sipush 200, 3) := by decide +kernel
theorem dX7_init_8 : decode cX7_init 8 = .ok (.newarray .byte, 2) := by decide +kernel
theorem dX7_init_10 : decode cX7_init 10 = .ok (.putfield 7, 3) := by decide +kernel
theorem dX7_init_13 : decode cX7_init 13 = .ok (.aload_n 0, 1) := by decide +kernel
theorem dX7_init_14 : decode cX7_init 14 = .ok (.iconst 2, 1) := by decide +kernel
theorem dX7_init_15 : decode cX7_init 15 = .ok (.newarray .int, 2) := by decide +kernel
theorem dX7_init_17 : decode cX7_init 17 = .ok (.putfield 13, 3) := by decide +kernel
theorem dX7_init_20 : decode cX7_init 20 = .ok (.aload_n 0, 1) := by decide +kernel
theorem dX7_init_21 : decode cX7_init 21 = .ok (.iconst 2, 1) := by decide +kernel
theorem dX7_init_22 : decode cX7_init 22 = .ok (.newarray .int, 2) := by decide +kernel
theorem dX7_init_24 : decode cX7_init 24 = .ok (.putfield 17, 3) := by decide +kernel
theorem dX7_init_27 : decode cX7_init 27 = .ok (.aload_n 0, 1) := by decide +kernel
theorem dX7_init_28 : decode cX7_init 28 = .ok (.bipush 10, 2) := by decide +kernel
theorem dX7_init_30 : decode cX7_init 30 = .ok (.newarray .int, 2) := by decide +kernel
theorem dX7_init_32 : decode cX7_init 32 = .ok (.putfield 20, 3) := by decide +kernel
theorem dX7_init_35 : decode cX7_init 35 = .ok (.aload_n 0, 1) := by decide +kernel
theorem dX7_init_36 : decode cX7_init 36 = .ok (.bipush 12, 2) := by decide +kernel
theorem dX7_init_38 : decode cX7_init 38 = .ok (.newarray .int, 2) := by decide +kernel
theorem dX7_init_40 : decode cX7_init 40 = .ok (.putfield 23, 3) := by decide +kernel
theorem dX7_init_43 : decode cX7_init 43 = .ok (.aload_n 0, 1) := by decide +kernel
theorem dX7_init_44 : decode cX7_init 44 = .ok (.bipush 12, 2) := by decide +kernel
theorem dX7_init_46 : decode cX7_init 46 = .ok (.newarray .int, 2) := by decide +kernel
theorem dX7_init_48 : decode cX7_init 48 = .ok (.putfield 26, 3) := by decide +kernel
theorem dX7_init_51 : decode cX7_init 51 = .ok (.aload_n 0, 1) := by decide +kernel
theorem dX7_init_52 : decode cX7_init 52 = .ok (.bipush 60, 2) := by decide +kernel
theorem dX7_init_54 : decode cX7_init 54 = .ok (.newarray .int, 2) := by decide +kernel
theorem dX7_init_56 : decode cX7_init 56 = .ok (.putfield 29, 3) := by decide +kernel
theorem dX7_init_59 : decode cX7_init 59 = .ok (.aload_n 0, 1) := by decide +kernel
theorem dX7_init_60 : decode cX7_init 60 = .ok (.bipush 14, 2) := by decide +kernel
theorem dX7_init_62 : decode cX7_init 62 = .ok (.newarray .int, 2) := by decide +kernel
theorem dX7_init_64 : decode cX7_init 64 = .ok (.putfield 32, 3) := by decide +kernel
theorem dX7_init_67 : decode cX7_init 67 = .ok (.aload_n 0, 1) := by decide +kernel
theorem dX7_init_68 : decode cX7_init 68 = .ok (.bipush 112, 2) := by decide +kernel
theorem dX7_init_70 : decode cX7_init 70 = .ok (.newarray .int, 2) := by decide +kernel
theorem dX7_init_72 : decode cX7_init 72 = .ok (.putfield 35, 3) := by decide +kernel
theorem dX7_init_75 : decode cX7_init 75 = .ok (.aload_n 0, 1) := by decide +kernel
theorem dX7_init_76 : decode cX7_init 76 = .ok (.bipush 28, 2) := by decide +kernel
theorem dX7_init_78 : decode cX7_init 78 = .ok (.newarray .int, 2) := by decide +kernel
theorem dX7_init_80 : decode cX7_init 80 = .ok (.putfield 38, 3) := by decide +kernel
theorem dX7_init_83 : decode cX7_init 83 = .ok (.aload_n 0, 1) := by decide +kernel
theorem dX7_init_84 : decode cX7_init 84 = .ok (.bipush 14, 2) := by decide +kernel
theorem dX7_init_86 : decode cX7_init 86 = .ok (.newarray .int, 2) := by decide +kernel
theorem dX7_init_88 : decode cX7_init 88 = .ok (.putfield 41, 3) := by decide +kernel
theorem dX7_init_91 : decode cX7_init 91 = .ok (.aload_n 0, 1) := by decide +kernel
theorem dX7_init_92 : decode cX7_init 92 = .ok (.bipush 8, 2) := by decide +kernel
theorem dX7_init_94 : decode cX7_init 94 = .ok (.newarray .int, 2) := by decide +kernel
theorem dX7_init_96 : decode cX7_init 96 = .ok (.putfield 44, 3) := by decide +kernel
theorem dX7_init_99 : decode cX7_init 99 = .ok (.aload_n 0, 1) := by decide +kernel
theorem dX7_init_100 : decode cX7_init 100 = .ok (.iconst 5, 1) := by decide +kernel
theorem dX7_init_101 : decode cX7_init 101 = .ok (.newarray .long, 2) := by decide +kernel
theorem dX7_init_103 : decode cX7_init 103 = .ok (.putfield 47, 3) := by decide +kernel
theorem dX7_init_106 : decode cX7_init 106 = .ok (.aload_n 0, 1) := by decide +kernel
theorem dX7_init_107 : decode cX7_init 107 = .ok (.iconst 5, 1) := by decide +kernel
theorem dX7_init_108 : decode cX7_init 108 = .ok (.newarray .long, 2) := by decide +kernel
theorem dX7_init_110 : decode cX7_init 110 = .ok (.putfield 51, 3) := by decide +kernel
theorem dX7_init_113 : decode cX7_init 113 = .ok (.aload_n 0, 1) := by decide +kernel
theorem dX7_init_114 : decode cX7_init 114 = .ok (.invokevirtual 54, 3) := by decide +kernel
theorem dX7_init_117 : decode cX7_init 117 = .ok (.aload_n 0, 1) := by decide +kernel
theorem dX7_init_118 : decode cX7_init 118 = .ok (.invokevirtual 57, 3) := by decide +kernel
theorem dX7_init_121 : decode cX7_init 121 = .ok (.return_, 1) := by decide +kernel
theorem dX7_in_0 : decode cX7_in 0 = .ok (.iload_n 0, 1) := by decide +kernel
theorem dX7_in_1 : decode cX7_in 1 = .ok (.iload_n 1, 1) := by decide +kernel
theorem dX7_in_2 : decode cX7_in 2 = .ok (.if_icmp .lt 12, 3) := by decide +kernel
theorem dX7_in_5 : decode cX7_in 5 = .ok (.iload_n 0, 1) := by decide +kernel
theorem dX7_in_6 : decode cX7_in 6 = .ok (.iload_n 2, 1) := by decide +kernel
theorem dX7_in_7 : decode cX7_in 7 = .ok (.if_icmp .gt 7, 3) := by decide +kernel
theorem dX7_in_10 : decode cX7_in 10 = .ok (.iconst 1, 1) := by decide +kernel
theorem dX7_in_11 : decode cX7_in 11 = .ok (.goto 4, 3) := by decide +kernel
theorem dX7_in_14 : decode cX7_in 14 = .ok (.iconst 0, 1) := by decide +kernel
theorem dX7_in_15 : decode cX7_in 15 = .ok (.ireturn, 1) := by decide +kernel
theorem dX7_has_0 : decode cX7_has 0 = .ok (.iload_n 0, 1) := by decide +kernel
theorem dX7_has_1 : decode cX7_has 1 = .ok (.iload_n 1, 1) := by decide +kernel
theorem dX7_has_2 : decode cX7_has 2 = .ok (.ishr, 1) := by decide +kernel
theorem dX7_has_3 : decode cX7_has 3 = .ok (.iconst 1, 1) := by decide +kernel
theorem dX7_has_4 : decode cX7_has 4 = .ok (.iand, 1) := by decide +kernel
theorem dX7_has_5 : decode cX7_has 5 = .ok (.iconst 1, 1) := by decide +kernel
theorem dX7_has_6 : decode cX7_has 6 = .ok (.if_icmp .ne 7, 3) := by decide +kernel
theorem dX7_has_9 : decode cX7_has 9 = .ok (.iconst 1, 1) := by decide +kernel
theorem dX7_has_10 : decode cX7_has 10 = .ok (.goto 4, 3) := by decide +kernel
theorem dX7_has_13 : decode cX7_has 13 = .ok (.iconst 0, 1) := by decide +kernel
theorem dX7_has_14 : decode cX7_has 14 = .ok (.ireturn, 1) := by decide +kernel
theorem dX7_bitsOf_0 : decode cX7_bitsOf 0 = .ok (.iconst 0, 1) := by decide +kernel
theorem dX7_bitsOf_1 : decode cX7_bitsOf 1 = .ok (.istore_n 1, 1) := by decide +kernel
theorem dX7_bitsOf_2 : decode cX7_bitsOf 2 = .ok (.iconst 0, 1) := by decide +kernel
theorem dX7_bitsOf_3 : decode cX7_bitsOf 3 = .ok (.istore_n 2, 1) := by decide +kernel
theorem dX7_bitsOf_4 : decode cX7_bitsOf 4 = .ok (.iload_n 2, 1) := by decide +kernel
theorem dX7_bitsOf_5 : decode cX7_bitsOf 5 = .ok (.bipush 8, 2) := by decide +kernel
theorem dX7_bitsOf_7 : decode cX7_bitsOf 7 = .ok (.if_icmp .ge 17, 3) := by decide +kernel
theorem dX7_bitsOf_10 : decode cX7_bitsOf 10 = .ok (.iload_n 1, 1) := by decide +kernel
theorem dX7_bitsOf_11 : decode cX7_bitsOf 11 = .ok (.iload_n 0, 1) := by decide +kernel
theorem dX7_bitsOf_12 : decode cX7_bitsOf 12 = .ok (.iload_n 2, 1) := by decide +kernel
theorem dX7_bitsOf_13 : decode cX7_bitsOf 13 = .ok (.ishr, 1) := by decide +kernel
theorem dX7_bitsOf_14 : decode cX7_bitsOf 14 = .ok (.iconst 1, 1) := by decide +kernel
theorem dX7_bitsOf_15 : decode cX7_bitsOf 15 = .ok (.iand, 1) := by decide +kernel
theorem dX7_bitsOf_16 : decode cX7_bitsOf 16 = .ok (.iadd, 1) := by decide +kernel
theorem dX7_bitsOf_17 : decode cX7_bitsOf 17 = .ok (.istore_n 1, 1) := by decide +kernel
theorem dX7_bitsOf_18 : decode cX7_bitsOf 18 = .ok (.iinc 2 1, 3) := by decide +kernel
theorem dX7_bitsOf_21 : decode cX7_bitsOf 21 = .ok (.goto (-17), 3) := by decide +kernel
theorem dX7_bitsOf_24 : decode cX7_bitsOf 24 = .ok (.iload_n 1, 1) := by decide +kernel
theorem dX7_bitsOf_25 : decode cX7_bitsOf 25 = .ok (.ireturn, 1) := by decide +kernel
theorem dX7_write_0 : decode cX7_write 0 = .ok (.iload_n 1, 1) := by decide +kernel
theorem dX7_write_1 : decode cX7_write 1 = .ok (.bipush 32, 2) := by decide +kernel
theorem dX7_write_3 : decode cX7_write 3 = .ok (.bipush 126, 2) := by decide +kernel
theorem dX7_write_5 : decode cX7_write 5 = .ok (.invokestatic 60, 3) := by decide +kernel
theorem dX7_write_8 : decode cX7_write 8 = .ok (.ifCond .ne 5, 3) := by decide +kernel
theorem dX7_write_11 : decode cX7_write 11 = .ok (.iconst (-1), 1) := by decide +kernel
theorem dX7_write_12 : decode cX7_write 12 = .ok (.ireturn, 1) := by decide +kernel
theorem dX7_write_13 : decode cX7_write 13 = .ok (.aload_n 0, 1) := by decide +kernel
theorem dX7_write_14 : decode cX7_write 14 = .ok (.getfield 64, 3) := by decide +kernel
theorem dX7_write_17 : decode cX7_write 17 = .ok (.sipush 200, 3) := by decide +kernel
theorem dX7_write_20 : decode cX7_write 20 = .ok (.if_icmp .ne 6, 3) := by decide +kernel
theorem dX7_write_23 : decode cX7_write 23 = .ok (.bipush (-3), 2) := by decide +kernel
theorem dX7_write_25 : decode cX7_write 25 = .ok (.ireturn, 1) := by decide +kernel
theorem dX7_write_26 : decode cX7_write 26 = .ok (.aload_n 0, 1) := by decide +kernel
theorem dX7_write_27 : decode cX7_write 27 = .ok (.getfield 7, 3) := by decide +kernel
theorem dX7_write_30 : decode cX7_write 30 = .ok (.aload_n 0, 1) := by decide +kernel
theorem dX7_write_31 : decode cX7_write 31 = .ok (.getfield 64, 3) := by decide +kernel
theorem dX7_write_34 : decode cX7_write 34 = .ok (.iload_n 1, 1) := by decide +kernel
theorem dX7_write_35 : decode cX7_write 35 = .ok (.i2b, 1) := by decide +kernel
theorem dX7_write_36 : decode cX7_write 36 = .ok (.bastore, 1) := by decide +kernel
theorem dX7_write_37 : decode cX7_write 37 = .ok (.aload_n 0, 1) := by decide +kernel
theorem dX7_write_38 : decode cX7_write 38 = .ok (.dup, 1) := by decide +kernel
theorem dX7_write_39 : decode cX7_write 39 = .ok (.getfield 64, 3) := by decide +kernel
theorem dX7_write_42 : decode cX7_write 42 = .ok (.iconst 1, 1) := by decide +kernel
theorem dX7_write_43 : decode cX7_write 43 = .ok (.iadd, 1) := by decide +kernel
theorem dX7_write_44 : decode cX7_write 44 = .ok (.putfield 64, 3) := by decide +kernel
theorem dX7_write_47 : decode cX7_write 47 = .ok (.aload_n 0, 1) := by decide +kernel
theorem dX7_write_48 : decode cX7_write 48 = .ok (.getfield 64, 3) := by decide +kernel
theorem dX7_write_51 : decode cX7_write 51 = .ok (.ireturn, 1) := by decide +kernel
theorem dX7_wipe_0 : decode cX7_wipe 0 = .ok (.aload_n 0, 1) := by decide +kernel
theorem dX7_wipe_1 : decode cX7_wipe 1 = .ok (.getfield 64, 3) := by decide +kernel
theorem dX7_wipe_4 : decode cX7_wipe 4 = .ok (.istore_n 1, 1) := by decide +kernel
theorem dX7_wipe_5 : decode cX7_wipe 5 = .ok (.aload_n 0, 1) := by decide +kernel
theorem dX7_wipe_6 : decode cX7_wipe 6 = .ok (.iconst 0, 1) := by decide +kernel
theorem dX7_wipe_7 : decode cX7_wipe 7 = .ok (.putfield 64, 3) := by decide +kernel
theorem dX7_wipe_10 : decode cX7_wipe 10 = .ok (.iload_n 1, 1) := by decide +kernel
theorem dX7_wipe_11 : decode cX7_wipe 11 = .ok (.ireturn, 1) := by decide +kernel
theorem dX7_here_0 : decode cX7_here 0 = .ok (.aload_n 0, 1) := by decide +kernel
theorem dX7_here_1 : decode cX7_here 1 = .ok (.getfield 68, 3) := by decide +kernel
theorem dX7_here_4 : decode cX7_here 4 = .ok (.aload_n 0, 1) := by decide +kernel
theorem dX7_here_5 : decode cX7_here 5 = .ok (.getfield 64, 3) := by decide +kernel
theorem dX7_here_8 : decode cX7_here 8 = .ok (.if_icmp .ge 15, 3) := by decide +kernel
theorem dX7_here_11 : decode cX7_here 11 = .ok (.aload_n 0, 1) := by decide +kernel
theorem dX7_here_12 : decode cX7_here 12 = .ok (.getfield 7, 3) := by decide +kernel
theorem dX7_here_15 : decode cX7_here 15 = .ok (.aload_n 0, 1) := by decide +kernel
theorem dX7_here_16 : decode cX7_here 16 = .ok (.getfield 68, 3) := by decide +kernel
theorem dX7_here_19 : decode cX7_here 19 = .ok (.baload, 1) := by decide +kernel
theorem dX7_here_20 : decode cX7_here 20 = .ok (.goto 5, 3) := by decide +kernel
theorem dX7_here_23 : decode cX7_here 23 = .ok (.bipush (-4), 2) := by decide +kernel
theorem dX7_here_25 : decode cX7_here 25 = .ok (.ireturn, 1) := by decide +kernel
theorem dX7_isFigure_0 : decode cX7_isFigure 0 = .ok (.aload_n 0, 1) := by decide +kernel
theorem dX7_isFigure_1 : decode cX7_isFigure 1 = .ok (.invokevirtual 71, 3) := by decide +kernel
theorem dX7_isFigure_4 : decode cX7_isFigure 4 = .ok (.bipush 48, 2) := by decide +kernel
theorem dX7_isFigure_6 : decode cX7_isFigure 6 = .ok (.bipush 57, 2) := by decide +kernel
theorem dX7_isFigure_8 : decode cX7_isFigure 8 = .ok (.invokestatic 60, 3) := by decide +kernel
theorem dX7_isFigure_11 : decode cX7_isFigure 11 = .ok (.ireturn, 1) := by decide +kernel
theorem dX7_due_0 : decode cX7_due 0 = .ok (.aload_n 0, 1) := by decide +kernel
theorem dX7_due_1 : decode cX7_due 1 = .ok (.aload_n 0, 1) := by decide +kernel
theorem dX7_due_2 : decode cX7_due 2 = .ok (.getfield 75, 3) := by decide +kernel
theorem dX7_due_5 : decode cX7_due 5 = .ok (.ifCond .ne 11, 3) := by decide +kernel
theorem dX7_due_8 : decode cX7_due 8 = .ok (.aload_n 0, 1) := by decide +kernel
theorem dX7_due_9 : decode cX7_due 9 = .ok (.invokevirtual 71, 3) := by decide +kernel
theorem dX7_due_12 : decode cX7_due 12 = .ok (.iload_n 1, 1) := by decide +kernel
theorem dX7_due_13 : decode cX7_due 13 = .ok (.if_icmp .eq 7, 3) := by decide +kernel
theorem dX7_due_16 : decode cX7_due 16 = .ok (.iconst 1, 1) := by decide +kernel
theorem dX7_due_17 : decode cX7_due 17 = .ok (.goto 4, 3) := by decide +kernel
theorem dX7_due_20 : decode cX7_due 20 = .ok (.iconst 0, 1) := by decide +kernel
theorem dX7_due_21 : decode cX7_due 21 = .ok (.putfield 75, 3) := by decide +kernel
theorem dX7_due_24 : decode cX7_due 24 = .ok (.aload_n 0, 1) := by decide +kernel
theorem dX7_due_25 : decode cX7_due 25 = .ok (.dup, 1) := by decide +kernel
theorem dX7_due_26 : decode cX7_due 26 = .ok (.getfield 68, 3) := by decide +kernel
theorem dX7_due_29 : decode cX7_due 29 = .ok (.iconst 1, 1) := by decide +kernel
theorem dX7_due_30 : decode cX7_due 30 = .ok (.iadd, 1) := by decide +kernel
theorem dX7_due_31 : decode cX7_due 31 = .ok (.putfield 68, 3) := by decide +kernel
theorem dX7_due_34 : decode cX7_due 34 = .ok (.return_, 1) := by decide +kernel
theorem dX7_number_0 : decode cX7_number 0 = .ok (.bipush (-4), 2) := by decide +kernel
theorem dX7_number_2 : decode cX7_number 2 = .ok (.istore_n 3, 1) := by decide +kernel
theorem dX7_number_3 : decode cX7_number 3 = .ok (.iconst 0, 1) := by decide +kernel
theorem dX7_number_4 : decode cX7_number 4 = .ok (.istore 4, 2) := by decide +kernel
theorem dX7_number_6 : decode cX7_number 6 = .ok (.iload 4, 2) := by decide +kernel
theorem dX7_number_8 : decode cX7_number 8 = .ok (.iconst 2, 1) := by decide +kernel
theorem dX7_number_9 : decode cX7_number 9 = .ok (.if_icmp .ge 49, 3) := by decide +kernel
theorem dX7_number_12 : decode cX7_number 12 = .ok (.aload_n 0, 1) := by decide +kernel
theorem dX7_number_13 : decode cX7_number 13 = .ok (.invokevirtual 79, 3) := by decide +kernel
theorem dX7_number_16 : decode cX7_number 16 = .ok (.ifCond .eq 42, 3) := by decide +kernel
theorem dX7_number_19 : decode cX7_number 19 = .ok (.iload_n 3, 1) := by decide +kernel
theorem dX7_number_20 : decode cX7_number 20 = .ok (.bipush (-4), 2) := by decide +kernel
theorem dX7_number_22 : decode cX7_number 22 = .ok (.if_icmp .ne 7, 3) := by decide +kernel
theorem dX7_number_25 : decode cX7_number 25 = .ok (.iconst 0, 1) := by decide +kernel
theorem dX7_number_26 : decode cX7_number 26 = .ok (.goto 7, 3) := by decide +kernel
theorem dX7_number_29 : decode cX7_number 29 = .ok (.bipush 10, 2) := by decide +kernel
theorem dX7_number_31 : decode cX7_number 31 = .ok (.iload_n 3, 1) := by decide +kernel
theorem dX7_number_32 : decode cX7_number 32 = .ok (.imul, 1) := by decide +kernel
theorem dX7_number_33 : decode cX7_number 33 = .ok (.aload_n 0, 1) := by decide +kernel
theorem dX7_number_34 : decode cX7_number 34 = .ok (.invokevirtual 71, 3) := by decide +kernel
theorem dX7_number_37 : decode cX7_number 37 = .ok (.iadd, 1) := by decide +kernel
theorem dX7_number_38 : decode cX7_number 38 = .ok (.bipush 48, 2) := by decide +kernel
theorem dX7_number_40 : decode cX7_number 40 = .ok (.isub, 1) := by decide +kernel
theorem dX7_number_41 : decode cX7_number 41 = .ok (.istore_n 3, 1) := by decide +kernel
theorem dX7_number_42 : decode cX7_number 42 = .ok (.aload_n 0, 1) := by decide +kernel
theorem dX7_number_43 : decode cX7_number 43 = .ok (.dup, 1) := by decide +kernel
theorem dX7_number_44 : decode cX7_number 44 = .ok (.getfield 68, 3) := by decide +kernel
theorem dX7_number_47 : decode cX7_number 47 = .ok (.iconst 1, 1) := by decide +kernel
theorem dX7_number_48 : decode cX7_number 48 = .ok (.iadd, 1) := by decide +kernel
theorem dX7_number_49 : decode cX7_number 49 = .ok (.putfield 68, 3) := by decide +kernel
theorem dX7_number_52 : decode cX7_number 52 = .ok (.iinc 4 1, 3) := by decide +kernel
theorem dX7_number_55 : decode cX7_number 55 = .ok (.goto (-49), 3) := by decide +kernel
theorem dX7_number_58 : decode cX7_number 58 = .ok (.iload_n 3, 1) := by decide +kernel
theorem dX7_number_59 : decode cX7_number 59 = .ok (.iload_n 1, 1) := by decide +kernel
theorem dX7_number_60 : decode cX7_number 60 = .ok (.iload_n 2, 1) := by decide +kernel
theorem dX7_number_61 : decode cX7_number 61 = .ok (.invokestatic 60, 3) := by decide +kernel
theorem dX7_number_64 : decode cX7_number 64 = .ok (.istore 4, 2) := by decide +kernel
theorem dX7_number_66 : decode cX7_number 66 = .ok (.aload_n 0, 1) := by decide +kernel
theorem dX7_number_67 : decode cX7_number 67 = .ok (.aload_n 0, 1) := by decide +kernel
theorem dX7_number_68 : decode cX7_number 68 = .ok (.getfield 75, 3) := by decide +kernel
theorem dX7_number_71 : decode cX7_number 71 = .ok (.ifCond .ne 8, 3) := by decide +kernel
theorem dX7_number_74 : decode cX7_number 74 = .ok (.iload 4, 2) := by decide +kernel
theorem dX7_number_76 : decode cX7_number 76 = .ok (.ifCond .ne 7, 3) := by decide +kernel
theorem dX7_number_79 : decode cX7_number 79 = .ok (.iconst 1, 1) := by decide +kernel
theorem dX7_number_80 : decode cX7_number 80 = .ok (.goto 4, 3) := by decide +kernel
theorem dX7_number_83 : decode cX7_number 83 = .ok (.iconst 0, 1) := by decide +kernel
theorem dX7_number_84 : decode cX7_number 84 = .ok (.putfield 75, 3) := by decide +kernel
theorem dX7_number_87 : decode cX7_number 87 = .ok (.iload 4, 2) := by decide +kernel
theorem dX7_number_89 : decode cX7_number 89 = .ok (.ifCond .eq 7, 3) := by decide +kernel
theorem dX7_number_92 : decode cX7_number 92 = .ok (.iload_n 3, 1) := by decide +kernel
theorem dX7_number_93 : decode cX7_number 93 = .ok (.goto 4, 3) := by decide +kernel
theorem dX7_number_96 : decode cX7_number 96 = .ok (.iconst 0, 1) := by decide +kernel
theorem dX7_number_97 : decode cX7_number 97 = .ok (.ireturn, 1) := by decide +kernel
theorem dX7_readPerson_0 : decode cX7_readPerson 0 = .ok (.aload_n 0, 1) := by decide +kernel
theorem dX7_readPerson_1 : decode cX7_readPerson 1 = .ok (.getfield 13, 3) := by decide +kernel
theorem dX7_readPerson_4 : decode cX7_readPerson 4 = .ok (.iconst 1, 1) := by decide +kernel
theorem dX7_readPerson_5 : decode cX7_readPerson 5 = .ok (.iaload, 1) := by decide +kernel
theorem dX7_readPerson_6 : decode cX7_readPerson 6 = .ok (.iconst 5, 1) := by decide +kernel
theorem dX7_readPerson_7 : decode cX7_readPerson 7 = .ok (.if_icmp .ne 9, 3) := by decide +kernel
theorem dX7_readPerson_10 : decode cX7_readPerson 10 = .ok (.aload_n 0, 1) := by decide +kernel
theorem dX7_readPerson_11 : decode cX7_readPerson 11 = .ok (.iconst 1, 1) := by decide +kernel
theorem dX7_readPerson_12 : decode cX7_readPerson 12 = .ok (.putfield 75, 3) := by decide +kernel
theorem dX7_readPerson_15 : decode cX7_readPerson 15 = .ok (.return_, 1) := by decide +kernel
theorem dX7_readPerson_16 : decode cX7_readPerson 16 = .ok (.aload_n 0, 1) := by decide +kernel
theorem dX7_readPerson_17 : decode cX7_readPerson 17 = .ok (.getfield 20, 3) := by decide +kernel
theorem dX7_readPerson_20 : decode cX7_readPerson 20 = .ok (.iconst 5, 1) := by decide +kernel
theorem dX7_readPerson_21 : decode cX7_readPerson 21 = .ok (.aload_n 0, 1) := by decide +kernel
theorem dX7_readPerson_22 : decode cX7_readPerson 22 = .ok (.getfield 13, 3) := by decide +kernel
theorem dX7_readPerson_25 : decode cX7_readPerson 25 = .ok (.iconst 1, 1) := by decide +kernel
theorem dX7_readPerson_26 : decode cX7_readPerson 26 = .ok (.iaload, 1) := by decide +kernel
theorem dX7_readPerson_27 : decode cX7_readPerson 27 = .ok (.iadd, 1) := by decide +kernel
theorem dX7_readPerson_28 : decode cX7_readPerson 28 = .ok (.aload_n 0, 1) := by decide +kernel
theorem dX7_readPerson_29 : decode cX7_readPerson 29 = .ok (.iconst 0, 1) := by decide +kernel
theorem dX7_readPerson_30 : decode cX7_readPerson 30 = .ok (.bipush 9, 2) := by decide +kernel
theorem dX7_readPerson_32 : decode cX7_readPerson 32 = .ok (.invokevirtual 83, 3) := by decide +kernel
theorem dX7_readPerson_35 : decode cX7_readPerson 35 = .ok (.iastore, 1) := by decide +kernel
theorem dX7_readPerson_36 : decode cX7_readPerson 36 = .ok (.aload_n 0, 1) := by decide +kernel
theorem dX7_readPerson_37 : decode cX7_readPerson 37 = .ok (.getfield 13, 3) := by decide +kernel
theorem dX7_readPerson_40 : decode cX7_readPerson 40 = .ok (.iconst 1, 1) := by decide +kernel
theorem dX7_readPerson_41 : decode cX7_readPerson 41 = .ok (.dup2, 1) := by decide +kernel
theorem dX7_readPerson_42 : decode cX7_readPerson 42 = .ok (.iaload, 1) := by decide +kernel
theorem dX7_readPerson_43 : decode cX7_readPerson 43 = .ok (.iconst 1, 1) := by decide +kernel
theorem dX7_readPerson_44 : decode cX7_readPerson 44 = .ok (.iadd, 1) := by decide +kernel
theorem dX7_readPerson_45 : decode cX7_readPerson 45 = .ok (.iastore, 1) := by decide +kernel
theorem dX7_readPerson_46 : decode cX7_readPerson 46 = .ok (.return_, 1) := by decide +kernel
theorem dX7_readThing_0 : decode cX7_readThing 0 = .ok (.aload_n 0, 1) := by decide +kernel
theorem dX7_readThing_1 : decode cX7_readThing 1 = .ok (.getfield 17, 3) := by decide +kernel
theorem dX7_readThing_4 : decode cX7_readThing 4 = .ok (.iconst 1, 1) := by decide +kernel
theorem dX7_readThing_5 : decode cX7_readThing 5 = .ok (.iaload, 1) := by decide +kernel
theorem dX7_readThing_6 : decode cX7_readThing 6 = .ok (.bipush 6, 2) := by decide +kernel
theorem dX7_readThing_8 : decode cX7_readThing 8 = .ok (.if_icmp .ne 9, 3) := by decide +kernel
theorem dX7_readThing_11 : decode cX7_readThing 11 = .ok (.aload_n 0, 1) := by decide +kernel
theorem dX7_readThing_12 : decode cX7_readThing 12 = .ok (.iconst 1, 1) := by decide +kernel
theorem dX7_readThing_13 : decode cX7_readThing 13 = .ok (.putfield 75, 3) := by decide +kernel
theorem dX7_readThing_16 : decode cX7_readThing 16 = .ok (.return_, 1) := by decide +kernel
theorem dX7_readThing_17 : decode cX7_readThing 17 = .ok (.aload_n 0, 1) := by decide +kernel
theorem dX7_readThing_18 : decode cX7_readThing 18 = .ok (.getfield 23, 3) := by decide +kernel
theorem dX7_readThing_21 : decode cX7_readThing 21 = .ok (.bipush 6, 2) := by decide +kernel
theorem dX7_readThing_23 : decode cX7_readThing 23 = .ok (.aload_n 0, 1) := by decide +kernel
theorem dX7_readThing_24 : decode cX7_readThing 24 = .ok (.getfield 17, 3) := by decide +kernel
theorem dX7_readThing_27 : decode cX7_readThing 27 = .ok (.iconst 1, 1) := by decide +kernel
theorem dX7_readThing_28 : decode cX7_readThing 28 = .ok (.iaload, 1) := by decide +kernel
theorem dX7_readThing_29 : decode cX7_readThing 29 = .ok (.iadd, 1) := by decide +kernel
theorem dX7_readThing_30 : decode cX7_readThing 30 = .ok (.aload_n 0, 1) := by decide +kernel
theorem dX7_readThing_31 : decode cX7_readThing 31 = .ok (.iconst 0, 1) := by decide +kernel
theorem dX7_readThing_32 : decode cX7_readThing 32 = .ok (.iconst 3, 1) := by decide +kernel
theorem dX7_readThing_33 : decode cX7_readThing 33 = .ok (.invokevirtual 83, 3) := by decide +kernel
theorem dX7_readThing_36 : decode cX7_readThing 36 = .ok (.iastore, 1) := by decide +kernel
theorem dX7_readThing_37 : decode cX7_readThing 37 = .ok (.aload_n 0, 1) := by decide +kernel
theorem dX7_readThing_38 : decode cX7_readThing 38 = .ok (.bipush 44, 2) := by decide +kernel
theorem dX7_readThing_40 : decode cX7_readThing 40 = .ok (.invokevirtual 87, 3) := by decide +kernel
theorem dX7_readThing_43 : decode cX7_readThing 43 = .ok (.aload_n 0, 1) := by decide +kernel
theorem dX7_readThing_44 : decode cX7_readThing 44 = .ok (.getfield 26, 3) := by decide +kernel
theorem dX7_readThing_47 : decode cX7_readThing 47 = .ok (.bipush 6, 2) := by decide +kernel
theorem dX7_readThing_49 : decode cX7_readThing 49 = .ok (.aload_n 0, 1) := by decide +kernel
theorem dX7_readThing_50 : decode cX7_readThing 50 = .ok (.getfield 17, 3) := by decide +kernel
theorem dX7_readThing_53 : decode cX7_readThing 53 = .ok (.iconst 1, 1) := by decide +kernel
theorem dX7_readThing_54 : decode cX7_readThing 54 = .ok (.iaload, 1) := by decide +kernel
theorem dX7_readThing_55 : decode cX7_readThing 55 = .ok (.iadd, 1) := by decide +kernel
theorem dX7_readThing_56 : decode cX7_readThing 56 = .ok (.aload_n 0, 1) := by decide +kernel
theorem dX7_readThing_57 : decode cX7_readThing 57 = .ok (.iconst 0, 1) := by decide +kernel
theorem dX7_readThing_58 : decode cX7_readThing 58 = .ok (.bipush 30, 2) := by decide +kernel
theorem dX7_readThing_60 : decode cX7_readThing 60 = .ok (.invokevirtual 83, 3) := by decide +kernel
theorem dX7_readThing_63 : decode cX7_readThing 63 = .ok (.iastore, 1) := by decide +kernel
theorem dX7_readThing_64 : decode cX7_readThing 64 = .ok (.aload_n 0, 1) := by decide +kernel
theorem dX7_readThing_65 : decode cX7_readThing 65 = .ok (.getfield 17, 3) := by decide +kernel
theorem dX7_readThing_68 : decode cX7_readThing 68 = .ok (.iconst 1, 1) := by decide +kernel
theorem dX7_readThing_69 : decode cX7_readThing 69 = .ok (.dup2, 1) := by decide +kernel
theorem dX7_readThing_70 : decode cX7_readThing 70 = .ok (.iaload, 1) := by decide +kernel
theorem dX7_readThing_71 : decode cX7_readThing 71 = .ok (.iconst 1, 1) := by decide +kernel
theorem dX7_readThing_72 : decode cX7_readThing 72 = .ok (.iadd, 1) := by decide +kernel
theorem dX7_readThing_73 : decode cX7_readThing 73 = .ok (.iastore, 1) := by decide +kernel
theorem dX7_readThing_74 : decode cX7_readThing 74 = .ok (.return_, 1) := by decide +kernel
theorem dX7_readLike_0 : decode cX7_readLike 0 = .ok (.aload_n 0, 1) := by decide +kernel
theorem dX7_readLike_1 : decode cX7_readLike 1 = .ok (.iconst 0, 1) := by decide +kernel
theorem dX7_readLike_2 : decode cX7_readLike 2 = .ok (.aload_n 0, 1) := by decide +kernel
theorem dX7_readLike_3 : decode cX7_readLike 3 = .ok (.getfield 13, 3) := by decide +kernel
theorem dX7_readLike_6 : decode cX7_readLike 6 = .ok (.iconst 1, 1) := by decide +kernel
theorem dX7_readLike_7 : decode cX7_readLike 7 = .ok (.iaload, 1) := by decide +kernel
theorem dX7_readLike_8 : decode cX7_readLike 8 = .ok (.iconst 1, 1) := by decide +kernel
theorem dX7_readLike_9 : decode cX7_readLike 9 = .ok (.isub, 1) := by decide +kernel
theorem dX7_readLike_10 : decode cX7_readLike 10 = .ok (.invokevirtual 83, 3) := by decide +kernel
theorem dX7_readLike_13 : decode cX7_readLike 13 = .ok (.istore_n 1, 1) := by decide +kernel
theorem dX7_readLike_14 : decode cX7_readLike 14 = .ok (.aload_n 0, 1) := by decide +kernel
theorem dX7_readLike_15 : decode cX7_readLike 15 = .ok (.bipush 44, 2) := by decide +kernel
theorem dX7_readLike_17 : decode cX7_readLike 17 = .ok (.invokevirtual 87, 3) := by decide +kernel
theorem dX7_readLike_20 : decode cX7_readLike 20 = .ok (.aload_n 0, 1) := by decide +kernel
theorem dX7_readLike_21 : decode cX7_readLike 21 = .ok (.iconst 0, 1) := by decide +kernel
theorem dX7_readLike_22 : decode cX7_readLike 22 = .ok (.aload_n 0, 1) := by decide +kernel
theorem dX7_readLike_23 : decode cX7_readLike 23 = .ok (.getfield 17, 3) := by decide +kernel
theorem dX7_readLike_26 : decode cX7_readLike 26 = .ok (.iconst 1, 1) := by decide +kernel
theorem dX7_readLike_27 : decode cX7_readLike 27 = .ok (.iaload, 1) := by decide +kernel
theorem dX7_readLike_28 : decode cX7_readLike 28 = .ok (.iconst 1, 1) := by decide +kernel
theorem dX7_readLike_29 : decode cX7_readLike 29 = .ok (.isub, 1) := by decide +kernel
theorem dX7_readLike_30 : decode cX7_readLike 30 = .ok (.invokevirtual 83, 3) := by decide +kernel
theorem dX7_readLike_33 : decode cX7_readLike 33 = .ok (.istore_n 2, 1) := by decide +kernel
theorem dX7_readLike_34 : decode cX7_readLike 34 = .ok (.aload_n 0, 1) := by decide +kernel
theorem dX7_readLike_35 : decode cX7_readLike 35 = .ok (.bipush 44, 2) := by decide +kernel
theorem dX7_readLike_37 : decode cX7_readLike 37 = .ok (.invokevirtual 87, 3) := by decide +kernel
theorem dX7_readLike_40 : decode cX7_readLike 40 = .ok (.aload_n 0, 1) := by decide +kernel
theorem dX7_readLike_41 : decode cX7_readLike 41 = .ok (.iconst 0, 1) := by decide +kernel
theorem dX7_readLike_42 : decode cX7_readLike 42 = .ok (.bipush 30, 2) := by decide +kernel
theorem dX7_readLike_44 : decode cX7_readLike 44 = .ok (.invokevirtual 83, 3) := by decide +kernel
theorem dX7_readLike_47 : decode cX7_readLike 47 = .ok (.istore_n 3, 1) := by decide +kernel
theorem dX7_readLike_48 : decode cX7_readLike 48 = .ok (.aload_n 0, 1) := by decide +kernel
theorem dX7_readLike_49 : decode cX7_readLike 49 = .ok (.getfield 75, 3) := by decide +kernel
theorem dX7_readLike_52 : decode cX7_readLike 52 = .ok (.ifCond .ne 18, 3) := by decide +kernel
theorem dX7_readLike_55 : decode cX7_readLike 55 = .ok (.aload_n 0, 1) := by decide +kernel
theorem dX7_readLike_56 : decode cX7_readLike 56 = .ok (.getfield 29, 3) := by decide +kernel
theorem dX7_readLike_59 : decode cX7_readLike 59 = .ok (.bipush 30, 2) := by decide +kernel
theorem dX7_readLike_61 : decode cX7_readLike 61 = .ok (.bipush 6, 2) := by decide +kernel
theorem dX7_readLike_63 : decode cX7_readLike 63 = .ok (.iload_n 1, 1) := by decide +kernel
theorem dX7_readLike_64 : decode cX7_readLike 64 = .ok (.imul, 1) := by decide +kernel
theorem dX7_readLike_65 : decode cX7_readLike 65 = .ok (.iadd, 1) := by decide +kernel
theorem dX7_readLike_66 : decode cX7_readLike 66 = .ok (.iload_n 2, 1) := by decide +kernel
theorem dX7_readLike_67 : decode cX7_readLike 67 = .ok (.iadd, 1) := by decide +kernel
theorem dX7_readLike_68 : decode cX7_readLike 68 = .ok (.iload_n 3, 1) := by decide +kernel
theorem dX7_readLike_69 : decode cX7_readLike 69 = .ok (.iastore, 1) := by decide +kernel
theorem dX7_readLike_70 : decode cX7_readLike 70 = .ok (.return_, 1) := by decide +kernel
theorem dX7_readItem_0 : decode cX7_readItem 0 = .ok (.aload_n 0, 1) := by decide +kernel
theorem dX7_readItem_1 : decode cX7_readItem 1 = .ok (.invokevirtual 71, 3) := by decide +kernel
theorem dX7_readItem_4 : decode cX7_readItem 4 = .ok (.istore_n 1, 1) := by decide +kernel
theorem dX7_readItem_5 : decode cX7_readItem 5 = .ok (.aload_n 0, 1) := by decide +kernel
theorem dX7_readItem_6 : decode cX7_readItem 6 = .ok (.dup, 1) := by decide +kernel
theorem dX7_readItem_7 : decode cX7_readItem 7 = .ok (.getfield 68, 3) := by decide +kernel
theorem dX7_readItem_10 : decode cX7_readItem 10 = .ok (.iconst 1, 1) := by decide +kernel
theorem dX7_readItem_11 : decode cX7_readItem 11 = .ok (.iadd, 1) := by decide +kernel
theorem dX7_readItem_12 : decode cX7_readItem 12 = .ok (.putfield 68, 3) := by decide +kernel
theorem dX7_readItem_15 : decode cX7_readItem 15 = .ok (.iload_n 1, 1) := by decide +kernel
theorem dX7_readItem_16 : decode cX7_readItem 16 = .ok (.lookupswitch 57 #[(108, 50), (112, 36), (116, 43)], 36) := by decide +kernel
theorem dX7_readItem_52 : decode cX7_readItem 52 = .ok (.aload_n 0, 1) := by decide +kernel
theorem dX7_readItem_53 : decode cX7_readItem 53 = .ok (.invokevirtual 91, 3) := by decide +kernel
theorem dX7_readItem_56 : decode cX7_readItem 56 = .ok (.goto 22, 3) := by decide +kernel
theorem dX7_readItem_59 : decode cX7_readItem 59 = .ok (.aload_n 0, 1) := by decide +kernel
theorem dX7_readItem_60 : decode cX7_readItem 60 = .ok (.invokevirtual 94, 3) := by decide +kernel
theorem dX7_readItem_63 : decode cX7_readItem 63 = .ok (.goto 15, 3) := by decide +kernel
theorem dX7_readItem_66 : decode cX7_readItem 66 = .ok (.aload_n 0, 1) := by decide +kernel
theorem dX7_readItem_67 : decode cX7_readItem 67 = .ok (.invokevirtual 97, 3) := by decide +kernel
theorem dX7_readItem_70 : decode cX7_readItem 70 = .ok (.goto 8, 3) := by decide +kernel
theorem dX7_readItem_73 : decode cX7_readItem 73 = .ok (.aload_n 0, 1) := by decide +kernel
theorem dX7_readItem_74 : decode cX7_readItem 74 = .ok (.iconst 1, 1) := by decide +kernel
theorem dX7_readItem_75 : decode cX7_readItem 75 = .ok (.putfield 75, 3) := by decide +kernel
theorem dX7_readItem_78 : decode cX7_readItem 78 = .ok (.aload_n 0, 1) := by decide +kernel
theorem dX7_readItem_79 : decode cX7_readItem 79 = .ok (.bipush 59, 2) := by decide +kernel
theorem dX7_readItem_81 : decode cX7_readItem 81 = .ok (.invokevirtual 87, 3) := by decide +kernel
theorem dX7_readItem_84 : decode cX7_readItem 84 = .ok (.return_, 1) := by decide +kernel
theorem dX7_begin_0 : decode cX7_begin 0 = .ok (.aload_n 0, 1) := by decide +kernel
theorem dX7_begin_1 : decode cX7_begin 1 = .ok (.iconst 0, 1) := by decide +kernel
theorem dX7_begin_2 : decode cX7_begin 2 = .ok (.putfield 75, 3) := by decide +kernel
theorem dX7_begin_5 : decode cX7_begin 5 = .ok (.aload_n 0, 1) := by decide +kernel
theorem dX7_begin_6 : decode cX7_begin 6 = .ok (.getfield 13, 3) := by decide +kernel
theorem dX7_begin_9 : decode cX7_begin 9 = .ok (.iconst 1, 1) := by decide +kernel
theorem dX7_begin_10 : decode cX7_begin 10 = .ok (.iconst 0, 1) := by decide +kernel
theorem dX7_begin_11 : decode cX7_begin 11 = .ok (.iastore, 1) := by decide +kernel
theorem dX7_begin_12 : decode cX7_begin 12 = .ok (.aload_n 0, 1) := by decide +kernel
theorem dX7_begin_13 : decode cX7_begin 13 = .ok (.getfield 17, 3) := by decide +kernel
theorem dX7_begin_16 : decode cX7_begin 16 = .ok (.iconst 1, 1) := by decide +kernel
theorem dX7_begin_17 : decode cX7_begin 17 = .ok (.iconst 0, 1) := by decide +kernel
theorem dX7_begin_18 : decode cX7_begin 18 = .ok (.iastore, 1) := by decide +kernel
theorem dX7_begin_19 : decode cX7_begin 19 = .ok (.iconst 0, 1) := by decide +kernel
theorem dX7_begin_20 : decode cX7_begin 20 = .ok (.istore_n 1, 1) := by decide +kernel
theorem dX7_begin_21 : decode cX7_begin 21 = .ok (.iload_n 1, 1) := by decide +kernel
theorem dX7_begin_22 : decode cX7_begin 22 = .ok (.bipush 30, 2) := by decide +kernel
theorem dX7_begin_24 : decode cX7_begin 24 = .ok (.if_icmp .ge 19, 3) := by decide +kernel
theorem dX7_begin_27 : decode cX7_begin 27 = .ok (.aload_n 0, 1) := by decide +kernel
theorem dX7_begin_28 : decode cX7_begin 28 = .ok (.getfield 29, 3) := by decide +kernel
theorem dX7_begin_31 : decode cX7_begin 31 = .ok (.bipush 30, 2) := by decide +kernel
theorem dX7_begin_33 : decode cX7_begin 33 = .ok (.iload_n 1, 1) := by decide +kernel
theorem dX7_begin_34 : decode cX7_begin 34 = .ok (.iadd, 1) := by decide +kernel
theorem dX7_begin_35 : decode cX7_begin 35 = .ok (.iconst 0, 1) := by decide +kernel
theorem dX7_begin_36 : decode cX7_begin 36 = .ok (.iastore, 1) := by decide +kernel
theorem dX7_begin_37 : decode cX7_begin 37 = .ok (.iinc 1 1, 3) := by decide +kernel
theorem dX7_begin_40 : decode cX7_begin 40 = .ok (.goto (-19), 3) := by decide +kernel
theorem dX7_begin_43 : decode cX7_begin 43 = .ok (.return_, 1) := by decide +kernel
theorem dX7_read_0 : decode cX7_read 0 = .ok (.aload_n 0, 1) := by decide +kernel
theorem dX7_read_1 : decode cX7_read 1 = .ok (.iconst 0, 1) := by decide +kernel
theorem dX7_read_2 : decode cX7_read 2 = .ok (.putfield 68, 3) := by decide +kernel
theorem dX7_read_5 : decode cX7_read 5 = .ok (.aload_n 0, 1) := by decide +kernel
theorem dX7_read_6 : decode cX7_read 6 = .ok (.invokevirtual 100, 3) := by decide +kernel
theorem dX7_read_9 : decode cX7_read 9 = .ok (.aload_n 0, 1) := by decide +kernel
theorem dX7_read_10 : decode cX7_read 10 = .ok (.getfield 68, 3) := by decide +kernel
theorem dX7_read_13 : decode cX7_read 13 = .ok (.aload_n 0, 1) := by decide +kernel
theorem dX7_read_14 : decode cX7_read 14 = .ok (.getfield 64, 3) := by decide +kernel
theorem dX7_read_17 : decode cX7_read 17 = .ok (.if_icmp .ge 24, 3) := by decide +kernel
theorem dX7_read_20 : decode cX7_read 20 = .ok (.aload_n 0, 1) := by decide +kernel
theorem dX7_read_21 : decode cX7_read 21 = .ok (.getfield 68, 3) := by decide +kernel
theorem dX7_read_24 : decode cX7_read 24 = .ok (.istore_n 1, 1) := by decide +kernel
theorem dX7_read_25 : decode cX7_read 25 = .ok (.aload_n 0, 1) := by decide +kernel
theorem dX7_read_26 : decode cX7_read 26 = .ok (.invokevirtual 103, 3) := by decide +kernel
theorem dX7_read_29 : decode cX7_read 29 = .ok (.aload_n 0, 1) := by decide +kernel
theorem dX7_read_30 : decode cX7_read 30 = .ok (.getfield 75, 3) := by decide +kernel
theorem dX7_read_33 : decode cX7_read 33 = .ok (.ifCond .eq 5, 3) := by decide +kernel
theorem dX7_read_36 : decode cX7_read 36 = .ok (.iload_n 1, 1) := by decide +kernel
theorem dX7_read_37 : decode cX7_read 37 = .ok (.ireturn, 1) := by decide +kernel
theorem dX7_read_38 : decode cX7_read 38 = .ok (.goto (-29), 3) := by decide +kernel
theorem dX7_read_41 : decode cX7_read 41 = .ok (.bipush (-4), 2) := by decide +kernel
theorem dX7_read_43 : decode cX7_read 43 = .ok (.ireturn, 1) := by decide +kernel
theorem dX7_fault_0 : decode cX7_fault 0 = .ok (.aload_n 0, 1) := by decide +kernel
theorem dX7_fault_1 : decode cX7_fault 1 = .ok (.invokevirtual 106, 3) := by decide +kernel
theorem dX7_fault_4 : decode cX7_fault 4 = .ok (.ireturn, 1) := by decide +kernel
theorem dX7_tellPerson_0 : decode cX7_tellPerson 0 = .ok (.aload_n 0, 1) := by decide +kernel
theorem dX7_tellPerson_1 : decode cX7_tellPerson 1 = .ok (.getfield 20, 3) := by decide +kernel
theorem dX7_tellPerson_4 : decode cX7_tellPerson 4 = .ok (.iconst 5, 1) := by decide +kernel
theorem dX7_tellPerson_5 : decode cX7_tellPerson 5 = .ok (.aload_n 0, 1) := by decide +kernel
theorem dX7_tellPerson_6 : decode cX7_tellPerson 6 = .ok (.getfield 13, 3) := by decide +kernel
theorem dX7_tellPerson_9 : decode cX7_tellPerson 9 = .ok (.iconst 1, 1) := by decide +kernel
theorem dX7_tellPerson_10 : decode cX7_tellPerson 10 = .ok (.iaload, 1) := by decide +kernel
theorem dX7_tellPerson_11 : decode cX7_tellPerson 11 = .ok (.iadd, 1) := by decide +kernel
theorem dX7_tellPerson_12 : decode cX7_tellPerson 12 = .ok (.iload_n 1, 1) := by decide +kernel
theorem dX7_tellPerson_13 : decode cX7_tellPerson 13 = .ok (.iastore, 1) := by decide +kernel
theorem dX7_tellPerson_14 : decode cX7_tellPerson 14 = .ok (.aload_n 0, 1) := by decide +kernel
theorem dX7_tellPerson_15 : decode cX7_tellPerson 15 = .ok (.getfield 13, 3) := by decide +kernel
theorem dX7_tellPerson_18 : decode cX7_tellPerson 18 = .ok (.iconst 1, 1) := by decide +kernel
theorem dX7_tellPerson_19 : decode cX7_tellPerson 19 = .ok (.dup2, 1) := by decide +kernel
theorem dX7_tellPerson_20 : decode cX7_tellPerson 20 = .ok (.iaload, 1) := by decide +kernel
theorem dX7_tellPerson_21 : decode cX7_tellPerson 21 = .ok (.iconst 1, 1) := by decide +kernel
theorem dX7_tellPerson_22 : decode cX7_tellPerson 22 = .ok (.iadd, 1) := by decide +kernel
theorem dX7_tellPerson_23 : decode cX7_tellPerson 23 = .ok (.iastore, 1) := by decide +kernel
theorem dX7_tellPerson_24 : decode cX7_tellPerson 24 = .ok (.return_, 1) := by decide +kernel
theorem dX7_tellThing_0 : decode cX7_tellThing 0 = .ok (.aload_n 0, 1) := by decide +kernel
theorem dX7_tellThing_1 : decode cX7_tellThing 1 = .ok (.getfield 23, 3) := by decide +kernel
theorem dX7_tellThing_4 : decode cX7_tellThing 4 = .ok (.bipush 6, 2) := by decide +kernel
theorem dX7_tellThing_6 : decode cX7_tellThing 6 = .ok (.aload_n 0, 1) := by decide +kernel
theorem dX7_tellThing_7 : decode cX7_tellThing 7 = .ok (.getfield 17, 3) := by decide +kernel
theorem dX7_tellThing_10 : decode cX7_tellThing 10 = .ok (.iconst 1, 1) := by decide +kernel
theorem dX7_tellThing_11 : decode cX7_tellThing 11 = .ok (.iaload, 1) := by decide +kernel
theorem dX7_tellThing_12 : decode cX7_tellThing 12 = .ok (.iadd, 1) := by decide +kernel
theorem dX7_tellThing_13 : decode cX7_tellThing 13 = .ok (.iload_n 1, 1) := by decide +kernel
theorem dX7_tellThing_14 : decode cX7_tellThing 14 = .ok (.iastore, 1) := by decide +kernel
theorem dX7_tellThing_15 : decode cX7_tellThing 15 = .ok (.aload_n 0, 1) := by decide +kernel
theorem dX7_tellThing_16 : decode cX7_tellThing 16 = .ok (.getfield 26, 3) := by decide +kernel
theorem dX7_tellThing_19 : decode cX7_tellThing 19 = .ok (.bipush 6, 2) := by decide +kernel
theorem dX7_tellThing_21 : decode cX7_tellThing 21 = .ok (.aload_n 0, 1) := by decide +kernel
theorem dX7_tellThing_22 : decode cX7_tellThing 22 = .ok (.getfield 17, 3) := by decide +kernel
theorem dX7_tellThing_25 : decode cX7_tellThing 25 = .ok (.iconst 1, 1) := by decide +kernel
theorem dX7_tellThing_26 : decode cX7_tellThing 26 = .ok (.iaload, 1) := by decide +kernel
theorem dX7_tellThing_27 : decode cX7_tellThing 27 = .ok (.iadd, 1) := by decide +kernel
theorem dX7_tellThing_28 : decode cX7_tellThing 28 = .ok (.iload_n 2, 1) := by decide +kernel
theorem dX7_tellThing_29 : decode cX7_tellThing 29 = .ok (.iastore, 1) := by decide +kernel
theorem dX7_tellThing_30 : decode cX7_tellThing 30 = .ok (.aload_n 0, 1) := by decide +kernel
theorem dX7_tellThing_31 : decode cX7_tellThing 31 = .ok (.getfield 17, 3) := by decide +kernel
theorem dX7_tellThing_34 : decode cX7_tellThing 34 = .ok (.iconst 1, 1) := by decide +kernel
theorem dX7_tellThing_35 : decode cX7_tellThing 35 = .ok (.dup2, 1) := by decide +kernel
theorem dX7_tellThing_36 : decode cX7_tellThing 36 = .ok (.iaload, 1) := by decide +kernel
theorem dX7_tellThing_37 : decode cX7_tellThing 37 = .ok (.iconst 1, 1) := by decide +kernel
theorem dX7_tellThing_38 : decode cX7_tellThing 38 = .ok (.iadd, 1) := by decide +kernel
theorem dX7_tellThing_39 : decode cX7_tellThing 39 = .ok (.iastore, 1) := by decide +kernel
theorem dX7_tellThing_40 : decode cX7_tellThing 40 = .ok (.return_, 1) := by decide +kernel
theorem dX7_tellLike_0 : decode cX7_tellLike 0 = .ok (.aload_n 0, 1) := by decide +kernel
theorem dX7_tellLike_1 : decode cX7_tellLike 1 = .ok (.getfield 29, 3) := by decide +kernel
theorem dX7_tellLike_4 : decode cX7_tellLike 4 = .ok (.bipush 30, 2) := by decide +kernel
theorem dX7_tellLike_6 : decode cX7_tellLike 6 = .ok (.bipush 6, 2) := by decide +kernel
theorem dX7_tellLike_8 : decode cX7_tellLike 8 = .ok (.iload_n 1, 1) := by decide +kernel
theorem dX7_tellLike_9 : decode cX7_tellLike 9 = .ok (.imul, 1) := by decide +kernel
theorem dX7_tellLike_10 : decode cX7_tellLike 10 = .ok (.iadd, 1) := by decide +kernel
theorem dX7_tellLike_11 : decode cX7_tellLike 11 = .ok (.iload_n 2, 1) := by decide +kernel
theorem dX7_tellLike_12 : decode cX7_tellLike 12 = .ok (.iadd, 1) := by decide +kernel
theorem dX7_tellLike_13 : decode cX7_tellLike 13 = .ok (.iload_n 3, 1) := by decide +kernel
theorem dX7_tellLike_14 : decode cX7_tellLike 14 = .ok (.iastore, 1) := by decide +kernel
theorem dX7_tellLike_15 : decode cX7_tellLike 15 = .ok (.return_, 1) := by decide +kernel
theorem dX7_first_0 : decode cX7_first 0 = .ok (.aload_n 0, 1) := by decide +kernel
theorem dX7_first_1 : decode cX7_first 1 = .ok (.invokevirtual 100, 3) := by decide +kernel
theorem dX7_first_4 : decode cX7_first 4 = .ok (.aload_n 0, 1) := by decide +kernel
theorem dX7_first_5 : decode cX7_first 5 = .ok (.iconst 3, 1) := by decide +kernel
theorem dX7_first_6 : decode cX7_first 6 = .ok (.invokevirtual 109, 3) := by decide +kernel
theorem dX7_first_9 : decode cX7_first 9 = .ok (.aload_n 0, 1) := by decide +kernel
theorem dX7_first_10 : decode cX7_first 10 = .ok (.iconst 1, 1) := by decide +kernel
theorem dX7_first_11 : decode cX7_first 11 = .ok (.invokevirtual 109, 3) := by decide +kernel
theorem dX7_first_14 : decode cX7_first 14 = .ok (.aload_n 0, 1) := by decide +kernel
theorem dX7_first_15 : decode cX7_first 15 = .ok (.iconst 5, 1) := by decide +kernel
theorem dX7_first_16 : decode cX7_first 16 = .ok (.invokevirtual 109, 3) := by decide +kernel
theorem dX7_first_19 : decode cX7_first 19 = .ok (.aload_n 0, 1) := by decide +kernel
theorem dX7_first_20 : decode cX7_first 20 = .ok (.iconst 0, 1) := by decide +kernel
theorem dX7_first_21 : decode cX7_first 21 = .ok (.invokevirtual 109, 3) := by decide +kernel
theorem dX7_first_24 : decode cX7_first 24 = .ok (.aload_n 0, 1) := by decide +kernel
theorem dX7_first_25 : decode cX7_first 25 = .ok (.iconst 2, 1) := by decide +kernel
theorem dX7_first_26 : decode cX7_first 26 = .ok (.invokevirtual 109, 3) := by decide +kernel
theorem dX7_first_29 : decode cX7_first 29 = .ok (.aload_n 0, 1) := by decide +kernel
theorem dX7_first_30 : decode cX7_first 30 = .ok (.iconst 0, 1) := by decide +kernel
theorem dX7_first_31 : decode cX7_first 31 = .ok (.bipush 12, 2) := by decide +kernel
theorem dX7_first_33 : decode cX7_first 33 = .ok (.invokevirtual 112, 3) := by decide +kernel
theorem dX7_first_36 : decode cX7_first 36 = .ok (.aload_n 0, 1) := by decide +kernel
theorem dX7_first_37 : decode cX7_first 37 = .ok (.iconst 1, 1) := by decide +kernel
theorem dX7_first_38 : decode cX7_first 38 = .ok (.bipush 8, 2) := by decide +kernel
theorem dX7_first_40 : decode cX7_first 40 = .ok (.invokevirtual 112, 3) := by decide +kernel
theorem dX7_first_43 : decode cX7_first 43 = .ok (.aload_n 0, 1) := by decide +kernel
theorem dX7_first_44 : decode cX7_first 44 = .ok (.iconst 3, 1) := by decide +kernel
theorem dX7_first_45 : decode cX7_first 45 = .ok (.bipush 10, 2) := by decide +kernel
theorem dX7_first_47 : decode cX7_first 47 = .ok (.invokevirtual 112, 3) := by decide +kernel
theorem dX7_first_50 : decode cX7_first 50 = .ok (.aload_n 0, 1) := by decide +kernel
theorem dX7_first_51 : decode cX7_first 51 = .ok (.iconst 2, 1) := by decide +kernel
theorem dX7_first_52 : decode cX7_first 52 = .ok (.bipush 6, 2) := by decide +kernel
theorem dX7_first_54 : decode cX7_first 54 = .ok (.invokevirtual 112, 3) := by decide +kernel
theorem dX7_first_57 : decode cX7_first 57 = .ok (.aload_n 0, 1) := by decide +kernel
theorem dX7_first_58 : decode cX7_first 58 = .ok (.iconst 3, 1) := by decide +kernel
theorem dX7_first_59 : decode cX7_first 59 = .ok (.bipush 7, 2) := by decide +kernel
theorem dX7_first_61 : decode cX7_first 61 = .ok (.invokevirtual 112, 3) := by decide +kernel
theorem dX7_first_64 : decode cX7_first 64 = .ok (.aload_n 0, 1) := by decide +kernel
theorem dX7_first_65 : decode cX7_first 65 = .ok (.iconst 0, 1) := by decide +kernel
theorem dX7_first_66 : decode cX7_first 66 = .ok (.iconst 3, 1) := by decide +kernel
theorem dX7_first_67 : decode cX7_first 67 = .ok (.invokevirtual 112, 3) := by decide +kernel
theorem dX7_first_70 : decode cX7_first 70 = .ok (.aload_n 0, 1) := by decide +kernel
theorem dX7_first_71 : decode cX7_first 71 = .ok (.iconst 0, 1) := by decide +kernel
theorem dX7_first_72 : decode cX7_first 72 = .ok (.iconst 0, 1) := by decide +kernel
theorem dX7_first_73 : decode cX7_first 73 = .ok (.iconst 4, 1) := by decide +kernel
theorem dX7_first_74 : decode cX7_first 74 = .ok (.invokevirtual 116, 3) := by decide +kernel
theorem dX7_first_77 : decode cX7_first 77 = .ok (.aload_n 0, 1) := by decide +kernel
theorem dX7_first_78 : decode cX7_first 78 = .ok (.iconst 1, 1) := by decide +kernel
theorem dX7_first_79 : decode cX7_first 79 = .ok (.iconst 2, 1) := by decide +kernel
theorem dX7_first_80 : decode cX7_first 80 = .ok (.bipush 6, 2) := by decide +kernel
theorem dX7_first_82 : decode cX7_first 82 = .ok (.invokevirtual 116, 3) := by decide +kernel
theorem dX7_first_85 : decode cX7_first 85 = .ok (.aload_n 0, 1) := by decide +kernel
theorem dX7_first_86 : decode cX7_first 86 = .ok (.iconst 2, 1) := by decide +kernel
theorem dX7_first_87 : decode cX7_first 87 = .ok (.iconst 1, 1) := by decide +kernel
theorem dX7_first_88 : decode cX7_first 88 = .ok (.iconst 5, 1) := by decide +kernel
theorem dX7_first_89 : decode cX7_first 89 = .ok (.invokevirtual 116, 3) := by decide +kernel
theorem dX7_first_92 : decode cX7_first 92 = .ok (.aload_n 0, 1) := by decide +kernel
theorem dX7_first_93 : decode cX7_first 93 = .ok (.iconst 2, 1) := by decide +kernel
theorem dX7_first_94 : decode cX7_first 94 = .ok (.iconst 4, 1) := by decide +kernel
theorem dX7_first_95 : decode cX7_first 95 = .ok (.bipush 9, 2) := by decide +kernel
theorem dX7_first_97 : decode cX7_first 97 = .ok (.invokevirtual 116, 3) := by decide +kernel
theorem dX7_first_100 : decode cX7_first 100 = .ok (.aload_n 0, 1) := by decide +kernel
theorem dX7_first_101 : decode cX7_first 101 = .ok (.iconst 4, 1) := by decide +kernel
theorem dX7_first_102 : decode cX7_first 102 = .ok (.iconst 5, 1) := by decide +kernel
theorem dX7_first_103 : decode cX7_first 103 = .ok (.bipush 12, 2) := by decide +kernel
theorem dX7_first_105 : decode cX7_first 105 = .ok (.invokevirtual 116, 3) := by decide +kernel
theorem dX7_first_108 : decode cX7_first 108 = .ok (.aload_n 0, 1) := by decide +kernel
theorem dX7_first_109 : decode cX7_first 109 = .ok (.iconst 3, 1) := by decide +kernel
theorem dX7_first_110 : decode cX7_first 110 = .ok (.iconst 0, 1) := by decide +kernel
theorem dX7_first_111 : decode cX7_first 111 = .ok (.bipush 20, 2) := by decide +kernel
theorem dX7_first_113 : decode cX7_first 113 = .ok (.invokevirtual 116, 3) := by decide +kernel
theorem dX7_first_116 : decode cX7_first 116 = .ok (.return_, 1) := by decide +kernel
theorem dX7_takeDraft_0 : decode cX7_takeDraft 0 = .ok (.aload_n 0, 1) := by decide +kernel
theorem dX7_takeDraft_1 : decode cX7_takeDraft 1 = .ok (.getfield 13, 3) := by decide +kernel
theorem dX7_takeDraft_4 : decode cX7_takeDraft 4 = .ok (.iconst 0, 1) := by decide +kernel
theorem dX7_takeDraft_5 : decode cX7_takeDraft 5 = .ok (.aload_n 0, 1) := by decide +kernel
theorem dX7_takeDraft_6 : decode cX7_takeDraft 6 = .ok (.getfield 13, 3) := by decide +kernel
theorem dX7_takeDraft_9 : decode cX7_takeDraft 9 = .ok (.iconst 1, 1) := by decide +kernel
theorem dX7_takeDraft_10 : decode cX7_takeDraft 10 = .ok (.iaload, 1) := by decide +kernel
theorem dX7_takeDraft_11 : decode cX7_takeDraft 11 = .ok (.iastore, 1) := by decide +kernel
theorem dX7_takeDraft_12 : decode cX7_takeDraft 12 = .ok (.aload_n 0, 1) := by decide +kernel
theorem dX7_takeDraft_13 : decode cX7_takeDraft 13 = .ok (.getfield 17, 3) := by decide +kernel
theorem dX7_takeDraft_16 : decode cX7_takeDraft 16 = .ok (.iconst 0, 1) := by decide +kernel
theorem dX7_takeDraft_17 : decode cX7_takeDraft 17 = .ok (.aload_n 0, 1) := by decide +kernel
theorem dX7_takeDraft_18 : decode cX7_takeDraft 18 = .ok (.getfield 17, 3) := by decide +kernel
theorem dX7_takeDraft_21 : decode cX7_takeDraft 21 = .ok (.iconst 1, 1) := by decide +kernel
theorem dX7_takeDraft_22 : decode cX7_takeDraft 22 = .ok (.iaload, 1) := by decide +kernel
theorem dX7_takeDraft_23 : decode cX7_takeDraft 23 = .ok (.iastore, 1) := by decide +kernel
theorem dX7_takeDraft_24 : decode cX7_takeDraft 24 = .ok (.iconst 0, 1) := by decide +kernel
theorem dX7_takeDraft_25 : decode cX7_takeDraft 25 = .ok (.istore_n 1, 1) := by decide +kernel
theorem dX7_takeDraft_26 : decode cX7_takeDraft 26 = .ok (.iload_n 1, 1) := by decide +kernel
theorem dX7_takeDraft_27 : decode cX7_takeDraft 27 = .ok (.iconst 5, 1) := by decide +kernel
theorem dX7_takeDraft_28 : decode cX7_takeDraft 28 = .ok (.if_icmp .ge 51, 3) := by decide +kernel
theorem dX7_takeDraft_31 : decode cX7_takeDraft 31 = .ok (.aload_n 0, 1) := by decide +kernel
theorem dX7_takeDraft_32 : decode cX7_takeDraft 32 = .ok (.getfield 20, 3) := by decide +kernel
theorem dX7_takeDraft_35 : decode cX7_takeDraft 35 = .ok (.iload_n 1, 1) := by decide +kernel
theorem dX7_takeDraft_36 : decode cX7_takeDraft 36 = .ok (.iload_n 1, 1) := by decide +kernel
theorem dX7_takeDraft_37 : decode cX7_takeDraft 37 = .ok (.aload_n 0, 1) := by decide +kernel
theorem dX7_takeDraft_38 : decode cX7_takeDraft 38 = .ok (.getfield 13, 3) := by decide +kernel
theorem dX7_takeDraft_41 : decode cX7_takeDraft 41 = .ok (.iconst 0, 1) := by decide +kernel
theorem dX7_takeDraft_42 : decode cX7_takeDraft 42 = .ok (.iaload, 1) := by decide +kernel
theorem dX7_takeDraft_43 : decode cX7_takeDraft 43 = .ok (.if_icmp .ge 14, 3) := by decide +kernel
theorem dX7_takeDraft_46 : decode cX7_takeDraft 46 = .ok (.aload_n 0, 1) := by decide +kernel
theorem dX7_takeDraft_47 : decode cX7_takeDraft 47 = .ok (.getfield 20, 3) := by decide +kernel
theorem dX7_takeDraft_50 : decode cX7_takeDraft 50 = .ok (.iconst 5, 1) := by decide +kernel
theorem dX7_takeDraft_51 : decode cX7_takeDraft 51 = .ok (.iload_n 1, 1) := by decide +kernel
theorem dX7_takeDraft_52 : decode cX7_takeDraft 52 = .ok (.iadd, 1) := by decide +kernel
theorem dX7_takeDraft_53 : decode cX7_takeDraft 53 = .ok (.iaload, 1) := by decide +kernel
theorem dX7_takeDraft_54 : decode cX7_takeDraft 54 = .ok (.goto 4, 3) := by decide +kernel
theorem dX7_takeDraft_57 : decode cX7_takeDraft 57 = .ok (.iconst 0, 1) := by decide +kernel
theorem dX7_takeDraft_58 : decode cX7_takeDraft 58 = .ok (.iastore, 1) := by decide +kernel
theorem dX7_takeDraft_59 : decode cX7_takeDraft 59 = .ok (.aload_n 0, 1) := by decide +kernel
theorem dX7_takeDraft_60 : decode cX7_takeDraft 60 = .ok (.getfield 32, 3) := by decide +kernel
theorem dX7_takeDraft_63 : decode cX7_takeDraft 63 = .ok (.iconst 0, 1) := by decide +kernel
theorem dX7_takeDraft_64 : decode cX7_takeDraft 64 = .ok (.iload_n 1, 1) := by decide +kernel
theorem dX7_takeDraft_65 : decode cX7_takeDraft 65 = .ok (.iadd, 1) := by decide +kernel
theorem dX7_takeDraft_66 : decode cX7_takeDraft 66 = .ok (.aload_n 0, 1) := by decide +kernel
theorem dX7_takeDraft_67 : decode cX7_takeDraft 67 = .ok (.getfield 20, 3) := by decide +kernel
theorem dX7_takeDraft_70 : decode cX7_takeDraft 70 = .ok (.iload_n 1, 1) := by decide +kernel
theorem dX7_takeDraft_71 : decode cX7_takeDraft 71 = .ok (.iaload, 1) := by decide +kernel
theorem dX7_takeDraft_72 : decode cX7_takeDraft 72 = .ok (.iastore, 1) := by decide +kernel
theorem dX7_takeDraft_73 : decode cX7_takeDraft 73 = .ok (.iinc 1 1, 3) := by decide +kernel
theorem dX7_takeDraft_76 : decode cX7_takeDraft 76 = .ok (.goto (-50), 3) := by decide +kernel
theorem dX7_takeDraft_79 : decode cX7_takeDraft 79 = .ok (.iconst 0, 1) := by decide +kernel
theorem dX7_takeDraft_80 : decode cX7_takeDraft 80 = .ok (.istore_n 1, 1) := by decide +kernel
theorem dX7_takeDraft_81 : decode cX7_takeDraft 81 = .ok (.iload_n 1, 1) := by decide +kernel
theorem dX7_takeDraft_82 : decode cX7_takeDraft 82 = .ok (.bipush 6, 2) := by decide +kernel
theorem dX7_takeDraft_84 : decode cX7_takeDraft 84 = .ok (.if_icmp .ge 49, 3) := by decide +kernel
theorem dX7_takeDraft_87 : decode cX7_takeDraft 87 = .ok (.aload_n 0, 1) := by decide +kernel
theorem dX7_takeDraft_88 : decode cX7_takeDraft 88 = .ok (.getfield 23, 3) := by decide +kernel
theorem dX7_takeDraft_91 : decode cX7_takeDraft 91 = .ok (.iload_n 1, 1) := by decide +kernel
theorem dX7_takeDraft_92 : decode cX7_takeDraft 92 = .ok (.aload_n 0, 1) := by decide +kernel
theorem dX7_takeDraft_93 : decode cX7_takeDraft 93 = .ok (.getfield 23, 3) := by decide +kernel
theorem dX7_takeDraft_96 : decode cX7_takeDraft 96 = .ok (.bipush 6, 2) := by decide +kernel
theorem dX7_takeDraft_98 : decode cX7_takeDraft 98 = .ok (.iload_n 1, 1) := by decide +kernel
theorem dX7_takeDraft_99 : decode cX7_takeDraft 99 = .ok (.iadd, 1) := by decide +kernel
theorem dX7_takeDraft_100 : decode cX7_takeDraft 100 = .ok (.iaload, 1) := by decide +kernel
theorem dX7_takeDraft_101 : decode cX7_takeDraft 101 = .ok (.iastore, 1) := by decide +kernel
theorem dX7_takeDraft_102 : decode cX7_takeDraft 102 = .ok (.aload_n 0, 1) := by decide +kernel
theorem dX7_takeDraft_103 : decode cX7_takeDraft 103 = .ok (.getfield 26, 3) := by decide +kernel
theorem dX7_takeDraft_106 : decode cX7_takeDraft 106 = .ok (.iload_n 1, 1) := by decide +kernel
theorem dX7_takeDraft_107 : decode cX7_takeDraft 107 = .ok (.aload_n 0, 1) := by decide +kernel
theorem dX7_takeDraft_108 : decode cX7_takeDraft 108 = .ok (.getfield 26, 3) := by decide +kernel
theorem dX7_takeDraft_111 : decode cX7_takeDraft 111 = .ok (.bipush 6, 2) := by decide +kernel
theorem dX7_takeDraft_113 : decode cX7_takeDraft 113 = .ok (.iload_n 1, 1) := by decide +kernel
theorem dX7_takeDraft_114 : decode cX7_takeDraft 114 = .ok (.iadd, 1) := by decide +kernel
theorem dX7_takeDraft_115 : decode cX7_takeDraft 115 = .ok (.iaload, 1) := by decide +kernel
theorem dX7_takeDraft_116 : decode cX7_takeDraft 116 = .ok (.iastore, 1) := by decide +kernel
theorem dX7_takeDraft_117 : decode cX7_takeDraft 117 = .ok (.aload_n 0, 1) := by decide +kernel
theorem dX7_takeDraft_118 : decode cX7_takeDraft 118 = .ok (.getfield 32, 3) := by decide +kernel
theorem dX7_takeDraft_121 : decode cX7_takeDraft 121 = .ok (.iconst 5, 1) := by decide +kernel
theorem dX7_takeDraft_122 : decode cX7_takeDraft 122 = .ok (.iload_n 1, 1) := by decide +kernel
theorem dX7_takeDraft_123 : decode cX7_takeDraft 123 = .ok (.iadd, 1) := by decide +kernel
theorem dX7_takeDraft_124 : decode cX7_takeDraft 124 = .ok (.bipush (-4), 2) := by decide +kernel
theorem dX7_takeDraft_126 : decode cX7_takeDraft 126 = .ok (.iastore, 1) := by decide +kernel
theorem dX7_takeDraft_127 : decode cX7_takeDraft 127 = .ok (.iinc 1 1, 3) := by decide +kernel
theorem dX7_takeDraft_130 : decode cX7_takeDraft 130 = .ok (.goto (-49), 3) := by decide +kernel
theorem dX7_takeDraft_133 : decode cX7_takeDraft 133 = .ok (.iconst 0, 1) := by decide +kernel
theorem dX7_takeDraft_134 : decode cX7_takeDraft 134 = .ok (.istore_n 1, 1) := by decide +kernel
theorem dX7_takeDraft_135 : decode cX7_takeDraft 135 = .ok (.iload_n 1, 1) := by decide +kernel
theorem dX7_takeDraft_136 : decode cX7_takeDraft 136 = .ok (.bipush 30, 2) := by decide +kernel
theorem dX7_takeDraft_138 : decode cX7_takeDraft 138 = .ok (.if_icmp .ge 24, 3) := by decide +kernel
theorem dX7_takeDraft_141 : decode cX7_takeDraft 141 = .ok (.aload_n 0, 1) := by decide +kernel
theorem dX7_takeDraft_142 : decode cX7_takeDraft 142 = .ok (.getfield 29, 3) := by decide +kernel
theorem dX7_takeDraft_145 : decode cX7_takeDraft 145 = .ok (.iload_n 1, 1) := by decide +kernel
theorem dX7_takeDraft_146 : decode cX7_takeDraft 146 = .ok (.aload_n 0, 1) := by decide +kernel
theorem dX7_takeDraft_147 : decode cX7_takeDraft 147 = .ok (.getfield 29, 3) := by decide +kernel
theorem dX7_takeDraft_150 : decode cX7_takeDraft 150 = .ok (.bipush 30, 2) := by decide +kernel
theorem dX7_takeDraft_152 : decode cX7_takeDraft 152 = .ok (.iload_n 1, 1) := by decide +kernel
theorem dX7_takeDraft_153 : decode cX7_takeDraft 153 = .ok (.iadd, 1) := by decide +kernel
theorem dX7_takeDraft_154 : decode cX7_takeDraft 154 = .ok (.iaload, 1) := by decide +kernel
theorem dX7_takeDraft_155 : decode cX7_takeDraft 155 = .ok (.iastore, 1) := by decide +kernel
theorem dX7_takeDraft_156 : decode cX7_takeDraft 156 = .ok (.iinc 1 1, 3) := by decide +kernel
theorem dX7_takeDraft_159 : decode cX7_takeDraft 159 = .ok (.goto (-24), 3) := by decide +kernel
theorem dX7_takeDraft_162 : decode cX7_takeDraft 162 = .ok (.aload_n 0, 1) := by decide +kernel
theorem dX7_takeDraft_163 : decode cX7_takeDraft 163 = .ok (.getfield 32, 3) := by decide +kernel
theorem dX7_takeDraft_166 : decode cX7_takeDraft 166 = .ok (.bipush 11, 2) := by decide +kernel
theorem dX7_takeDraft_168 : decode cX7_takeDraft 168 = .ok (.iconst 0, 1) := by decide +kernel
theorem dX7_takeDraft_169 : decode cX7_takeDraft 169 = .ok (.iastore, 1) := by decide +kernel
theorem dX7_takeDraft_170 : decode cX7_takeDraft 170 = .ok (.aload_n 0, 1) := by decide +kernel
theorem dX7_takeDraft_171 : decode cX7_takeDraft 171 = .ok (.getfield 32, 3) := by decide +kernel
theorem dX7_takeDraft_174 : decode cX7_takeDraft 174 = .ok (.bipush 12, 2) := by decide +kernel
theorem dX7_takeDraft_176 : decode cX7_takeDraft 176 = .ok (.iconst 0, 1) := by decide +kernel
theorem dX7_takeDraft_177 : decode cX7_takeDraft 177 = .ok (.iastore, 1) := by decide +kernel
theorem dX7_takeDraft_178 : decode cX7_takeDraft 178 = .ok (.aload_n 0, 1) := by decide +kernel
theorem dX7_takeDraft_179 : decode cX7_takeDraft 179 = .ok (.getfield 32, 3) := by decide +kernel
theorem dX7_takeDraft_182 : decode cX7_takeDraft 182 = .ok (.bipush 13, 2) := by decide +kernel
theorem dX7_takeDraft_184 : decode cX7_takeDraft 184 = .ok (.iconst 0, 1) := by decide +kernel
theorem dX7_takeDraft_185 : decode cX7_takeDraft 185 = .ok (.iastore, 1) := by decide +kernel
theorem dX7_takeDraft_186 : decode cX7_takeDraft 186 = .ok (.aload_n 0, 1) := by decide +kernel
theorem dX7_takeDraft_187 : decode cX7_takeDraft 187 = .ok (.iconst 0, 1) := by decide +kernel
theorem dX7_takeDraft_188 : decode cX7_takeDraft 188 = .ok (.putfield 120, 3) := by decide +kernel
theorem dX7_takeDraft_191 : decode cX7_takeDraft 191 = .ok (.aload_n 0, 1) := by decide +kernel
theorem dX7_takeDraft_192 : decode cX7_takeDraft 192 = .ok (.iconst 0, 1) := by decide +kernel
theorem dX7_takeDraft_193 : decode cX7_takeDraft 193 = .ok (.putfield 123, 3) := by decide +kernel
theorem dX7_takeDraft_196 : decode cX7_takeDraft 196 = .ok (.aload_n 0, 1) := by decide +kernel
theorem dX7_takeDraft_197 : decode cX7_takeDraft 197 = .ok (.iconst 0, 1) := by decide +kernel
theorem dX7_takeDraft_198 : decode cX7_takeDraft 198 = .ok (.putfield 126, 3) := by decide +kernel
theorem dX7_takeDraft_201 : decode cX7_takeDraft 201 = .ok (.return_, 1) := by decide +kernel
theorem dX7_lay_0 : decode cX7_lay 0 = .ok (.aload_n 0, 1) := by decide +kernel
theorem dX7_lay_1 : decode cX7_lay 1 = .ok (.invokevirtual 106, 3) := by decide +kernel
theorem dX7_lay_4 : decode cX7_lay 4 = .ok (.bipush (-4), 2) := by decide +kernel
theorem dX7_lay_6 : decode cX7_lay 6 = .ok (.if_icmp .ne 12, 3) := by decide +kernel
theorem dX7_lay_9 : decode cX7_lay 9 = .ok (.aload_n 0, 1) := by decide +kernel
theorem dX7_lay_10 : decode cX7_lay 10 = .ok (.getfield 13, 3) := by decide +kernel
theorem dX7_lay_13 : decode cX7_lay 13 = .ok (.iconst 1, 1) := by decide +kernel
theorem dX7_lay_14 : decode cX7_lay 14 = .ok (.iaload, 1) := by decide +kernel
theorem dX7_lay_15 : decode cX7_lay 15 = .ok (.ifCond .ne 6, 3) := by decide +kernel
theorem dX7_lay_18 : decode cX7_lay 18 = .ok (.bipush (-2), 2) := by decide +kernel
theorem dX7_lay_20 : decode cX7_lay 20 = .ok (.ireturn, 1) := by decide +kernel
theorem dX7_lay_21 : decode cX7_lay 21 = .ok (.aload_n 0, 1) := by decide +kernel
theorem dX7_lay_22 : decode cX7_lay 22 = .ok (.invokevirtual 57, 3) := by decide +kernel
theorem dX7_lay_25 : decode cX7_lay 25 = .ok (.aload_n 0, 1) := by decide +kernel
theorem dX7_lay_26 : decode cX7_lay 26 = .ok (.getfield 13, 3) := by decide +kernel
theorem dX7_lay_29 : decode cX7_lay 29 = .ok (.iconst 0, 1) := by decide +kernel
theorem dX7_lay_30 : decode cX7_lay 30 = .ok (.iaload, 1) := by decide +kernel
theorem dX7_lay_31 : decode cX7_lay 31 = .ok (.ireturn, 1) := by decide +kernel
theorem dX7_take_0 : decode cX7_take 0 = .ok (.iconst 0, 1) := by decide +kernel
theorem dX7_take_1 : decode cX7_take 1 = .ok (.istore_n 1, 1) := by decide +kernel
theorem dX7_take_2 : decode cX7_take 2 = .ok (.iload_n 1, 1) := by decide +kernel
theorem dX7_take_3 : decode cX7_take 3 = .ok (.bipush 14, 2) := by decide +kernel
theorem dX7_take_5 : decode cX7_take 5 = .ok (.if_icmp .ge 21, 3) := by decide +kernel
theorem dX7_take_8 : decode cX7_take 8 = .ok (.aload_n 0, 1) := by decide +kernel
theorem dX7_take_9 : decode cX7_take 9 = .ok (.getfield 41, 3) := by decide +kernel
theorem dX7_take_12 : decode cX7_take 12 = .ok (.iload_n 1, 1) := by decide +kernel
theorem dX7_take_13 : decode cX7_take 13 = .ok (.aload_n 0, 1) := by decide +kernel
theorem dX7_take_14 : decode cX7_take 14 = .ok (.getfield 32, 3) := by decide +kernel
theorem dX7_take_17 : decode cX7_take 17 = .ok (.iload_n 1, 1) := by decide +kernel
theorem dX7_take_18 : decode cX7_take 18 = .ok (.iaload, 1) := by decide +kernel
theorem dX7_take_19 : decode cX7_take 19 = .ok (.iastore, 1) := by decide +kernel
theorem dX7_take_20 : decode cX7_take 20 = .ok (.iinc 1 1, 3) := by decide +kernel
theorem dX7_take_23 : decode cX7_take 23 = .ok (.goto (-21), 3) := by decide +kernel
theorem dX7_take_26 : decode cX7_take 26 = .ok (.return_, 1) := by decide +kernel
theorem dX7_isPerson_0 : decode cX7_isPerson 0 = .ok (.iload_n 1, 1) := by decide +kernel
theorem dX7_isPerson_1 : decode cX7_isPerson 1 = .ok (.iconst 0, 1) := by decide +kernel
theorem dX7_isPerson_2 : decode cX7_isPerson 2 = .ok (.aload_n 0, 1) := by decide +kernel
theorem dX7_isPerson_3 : decode cX7_isPerson 3 = .ok (.getfield 13, 3) := by decide +kernel
theorem dX7_isPerson_6 : decode cX7_isPerson 6 = .ok (.iconst 0, 1) := by decide +kernel
theorem dX7_isPerson_7 : decode cX7_isPerson 7 = .ok (.iaload, 1) := by decide +kernel
theorem dX7_isPerson_8 : decode cX7_isPerson 8 = .ok (.iconst 1, 1) := by decide +kernel
theorem dX7_isPerson_9 : decode cX7_isPerson 9 = .ok (.isub, 1) := by decide +kernel
theorem dX7_isPerson_10 : decode cX7_isPerson 10 = .ok (.invokestatic 60, 3) := by decide +kernel
theorem dX7_isPerson_13 : decode cX7_isPerson 13 = .ok (.ireturn, 1) := by decide +kernel
theorem dX7_isThing_0 : decode cX7_isThing 0 = .ok (.iload_n 1, 1) := by decide +kernel
theorem dX7_isThing_1 : decode cX7_isThing 1 = .ok (.iconst 0, 1) := by decide +kernel
theorem dX7_isThing_2 : decode cX7_isThing 2 = .ok (.aload_n 0, 1) := by decide +kernel
theorem dX7_isThing_3 : decode cX7_isThing 3 = .ok (.getfield 17, 3) := by decide +kernel
theorem dX7_isThing_6 : decode cX7_isThing 6 = .ok (.iconst 0, 1) := by decide +kernel
theorem dX7_isThing_7 : decode cX7_isThing 7 = .ok (.iaload, 1) := by decide +kernel
theorem dX7_isThing_8 : decode cX7_isThing 8 = .ok (.iconst 1, 1) := by decide +kernel
theorem dX7_isThing_9 : decode cX7_isThing 9 = .ok (.isub, 1) := by decide +kernel
theorem dX7_isThing_10 : decode cX7_isThing 10 = .ok (.invokestatic 60, 3) := by decide +kernel
theorem dX7_isThing_13 : decode cX7_isThing 13 = .ok (.ireturn, 1) := by decide +kernel
theorem dX7_hatOf_0 : decode cX7_hatOf 0 = .ok (.iconst 0, 1) := by decide +kernel
theorem dX7_hatOf_1 : decode cX7_hatOf 1 = .ok (.istore_n 1, 1) := by decide +kernel
theorem dX7_hatOf_2 : decode cX7_hatOf 2 = .ok (.iconst 0, 1) := by decide +kernel
theorem dX7_hatOf_3 : decode cX7_hatOf 3 = .ok (.istore_n 2, 1) := by decide +kernel
theorem dX7_hatOf_4 : decode cX7_hatOf 4 = .ok (.iload_n 2, 1) := by decide +kernel
theorem dX7_hatOf_5 : decode cX7_hatOf 5 = .ok (.iconst 5, 1) := by decide +kernel
theorem dX7_hatOf_6 : decode cX7_hatOf 6 = .ok (.if_icmp .ge 17, 3) := by decide +kernel
theorem dX7_hatOf_9 : decode cX7_hatOf 9 = .ok (.iload_n 1, 1) := by decide +kernel
theorem dX7_hatOf_10 : decode cX7_hatOf 10 = .ok (.aload_n 0, 1) := by decide +kernel
theorem dX7_hatOf_11 : decode cX7_hatOf 11 = .ok (.iconst 0, 1) := by decide +kernel
theorem dX7_hatOf_12 : decode cX7_hatOf 12 = .ok (.iload_n 2, 1) := by decide +kernel
theorem dX7_hatOf_13 : decode cX7_hatOf 13 = .ok (.iadd, 1) := by decide +kernel
theorem dX7_hatOf_14 : decode cX7_hatOf 14 = .ok (.iaload, 1) := by decide +kernel
theorem dX7_hatOf_15 : decode cX7_hatOf 15 = .ok (.iadd, 1) := by decide +kernel
theorem dX7_hatOf_16 : decode cX7_hatOf 16 = .ok (.istore_n 1, 1) := by decide +kernel
theorem dX7_hatOf_17 : decode cX7_hatOf 17 = .ok (.iinc 2 1, 3) := by decide +kernel
theorem dX7_hatOf_20 : decode cX7_hatOf 20 = .ok (.goto (-16), 3) := by decide +kernel
theorem dX7_hatOf_23 : decode cX7_hatOf 23 = .ok (.iload_n 1, 1) := by decide +kernel
theorem dX7_hatOf_24 : decode cX7_hatOf 24 = .ok (.ireturn, 1) := by decide +kernel
theorem dX7_hadBy_0 : decode cX7_hadBy 0 = .ok (.iconst 0, 1) := by decide +kernel
theorem dX7_hadBy_1 : decode cX7_hadBy 1 = .ok (.istore_n 3, 1) := by decide +kernel
theorem dX7_hadBy_2 : decode cX7_hadBy 2 = .ok (.iconst 0, 1) := by decide +kernel
theorem dX7_hadBy_3 : decode cX7_hadBy 3 = .ok (.istore 4, 2) := by decide +kernel
theorem dX7_hadBy_5 : decode cX7_hadBy 5 = .ok (.iload 4, 2) := by decide +kernel
theorem dX7_hadBy_7 : decode cX7_hadBy 7 = .ok (.aload_n 0, 1) := by decide +kernel
theorem dX7_hadBy_8 : decode cX7_hadBy 8 = .ok (.getfield 17, 3) := by decide +kernel
theorem dX7_hadBy_11 : decode cX7_hadBy 11 = .ok (.iconst 0, 1) := by decide +kernel
theorem dX7_hadBy_12 : decode cX7_hadBy 12 = .ok (.iaload, 1) := by decide +kernel
theorem dX7_hadBy_13 : decode cX7_hadBy 13 = .ok (.if_icmp .ge 30, 3) := by decide +kernel
theorem dX7_hadBy_16 : decode cX7_hadBy 16 = .ok (.iload_n 3, 1) := by decide +kernel
theorem dX7_hadBy_17 : decode cX7_hadBy 17 = .ok (.aload_n 1, 1) := by decide +kernel
theorem dX7_hadBy_18 : decode cX7_hadBy 18 = .ok (.iconst 5, 1) := by decide +kernel
theorem dX7_hadBy_19 : decode cX7_hadBy 19 = .ok (.iload 4, 2) := by decide +kernel
theorem dX7_hadBy_21 : decode cX7_hadBy 21 = .ok (.iadd, 1) := by decide +kernel
theorem dX7_hadBy_22 : decode cX7_hadBy 22 = .ok (.iaload, 1) := by decide +kernel
theorem dX7_hadBy_23 : decode cX7_hadBy 23 = .ok (.iload_n 2, 1) := by decide +kernel
theorem dX7_hadBy_24 : decode cX7_hadBy 24 = .ok (.if_icmp .ne 10, 3) := by decide +kernel
theorem dX7_hadBy_27 : decode cX7_hadBy 27 = .ok (.iconst 1, 1) := by decide +kernel
theorem dX7_hadBy_28 : decode cX7_hadBy 28 = .ok (.iload 4, 2) := by decide +kernel
theorem dX7_hadBy_30 : decode cX7_hadBy 30 = .ok (.ishl, 1) := by decide +kernel
theorem dX7_hadBy_31 : decode cX7_hadBy 31 = .ok (.goto 4, 3) := by decide +kernel
theorem dX7_hadBy_34 : decode cX7_hadBy 34 = .ok (.iconst 0, 1) := by decide +kernel
theorem dX7_hadBy_35 : decode cX7_hadBy 35 = .ok (.ior, 1) := by decide +kernel
theorem dX7_hadBy_36 : decode cX7_hadBy 36 = .ok (.istore_n 3, 1) := by decide +kernel
theorem dX7_hadBy_37 : decode cX7_hadBy 37 = .ok (.iinc 4 1, 3) := by decide +kernel
theorem dX7_hadBy_40 : decode cX7_hadBy 40 = .ok (.goto (-35), 3) := by decide +kernel
theorem dX7_hadBy_43 : decode cX7_hadBy 43 = .ok (.iload_n 3, 1) := by decide +kernel
theorem dX7_hadBy_44 : decode cX7_hadBy 44 = .ok (.ireturn, 1) := by decide +kernel
theorem dX7_worthOf_0 : decode cX7_worthOf 0 = .ok (.iconst 0, 1) := by decide +kernel
theorem dX7_worthOf_1 : decode cX7_worthOf 1 = .ok (.istore_n 3, 1) := by decide +kernel
theorem dX7_worthOf_2 : decode cX7_worthOf 2 = .ok (.iconst 0, 1) := by decide +kernel
theorem dX7_worthOf_3 : decode cX7_worthOf 3 = .ok (.istore 4, 2) := by decide +kernel
theorem dX7_worthOf_5 : decode cX7_worthOf 5 = .ok (.iconst 0, 1) := by decide +kernel
theorem dX7_worthOf_6 : decode cX7_worthOf 6 = .ok (.istore 5, 2) := by decide +kernel
theorem dX7_worthOf_8 : decode cX7_worthOf 8 = .ok (.iconst 0, 1) := by decide +kernel
theorem dX7_worthOf_9 : decode cX7_worthOf 9 = .ok (.istore 6, 2) := by decide +kernel
theorem dX7_worthOf_11 : decode cX7_worthOf 11 = .ok (.iload 6, 2) := by decide +kernel
theorem dX7_worthOf_13 : decode cX7_worthOf 13 = .ok (.aload_n 0, 1) := by decide +kernel
theorem dX7_worthOf_14 : decode cX7_worthOf 14 = .ok (.getfield 17, 3) := by decide +kernel
theorem dX7_worthOf_17 : decode cX7_worthOf 17 = .ok (.iconst 0, 1) := by decide +kernel
theorem dX7_worthOf_18 : decode cX7_worthOf 18 = .ok (.iaload, 1) := by decide +kernel
theorem dX7_worthOf_19 : decode cX7_worthOf 19 = .ok (.if_icmp .ge 66, 3) := by decide +kernel
theorem dX7_worthOf_22 : decode cX7_worthOf 22 = .ok (.iload_n 3, 1) := by decide +kernel
theorem dX7_worthOf_23 : decode cX7_worthOf 23 = .ok (.iload_n 2, 1) := by decide +kernel
theorem dX7_worthOf_24 : decode cX7_worthOf 24 = .ok (.iload 6, 2) := by decide +kernel
theorem dX7_worthOf_26 : decode cX7_worthOf 26 = .ok (.invokestatic 129, 3) := by decide +kernel
theorem dX7_worthOf_29 : decode cX7_worthOf 29 = .ok (.ifCond .eq 17, 3) := by decide +kernel
theorem dX7_worthOf_32 : decode cX7_worthOf 32 = .ok (.aload_n 0, 1) := by decide +kernel
theorem dX7_worthOf_33 : decode cX7_worthOf 33 = .ok (.getfield 23, 3) := by decide +kernel
theorem dX7_worthOf_36 : decode cX7_worthOf 36 = .ok (.iload 6, 2) := by decide +kernel
theorem dX7_worthOf_38 : decode cX7_worthOf 38 = .ok (.iaload, 1) := by decide +kernel
theorem dX7_worthOf_39 : decode cX7_worthOf 39 = .ok (.ifCond .ne 7, 3) := by decide +kernel
theorem dX7_worthOf_42 : decode cX7_worthOf 42 = .ok (.iconst 1, 1) := by decide +kernel
theorem dX7_worthOf_43 : decode cX7_worthOf 43 = .ok (.goto 4, 3) := by decide +kernel
theorem dX7_worthOf_46 : decode cX7_worthOf 46 = .ok (.iconst 0, 1) := by decide +kernel
theorem dX7_worthOf_47 : decode cX7_worthOf 47 = .ok (.iadd, 1) := by decide +kernel
theorem dX7_worthOf_48 : decode cX7_worthOf 48 = .ok (.istore_n 3, 1) := by decide +kernel
theorem dX7_worthOf_49 : decode cX7_worthOf 49 = .ok (.iload 4, 2) := by decide +kernel
theorem dX7_worthOf_51 : decode cX7_worthOf 51 = .ok (.iload_n 2, 1) := by decide +kernel
theorem dX7_worthOf_52 : decode cX7_worthOf 52 = .ok (.iload 6, 2) := by decide +kernel
theorem dX7_worthOf_54 : decode cX7_worthOf 54 = .ok (.invokestatic 129, 3) := by decide +kernel
theorem dX7_worthOf_57 : decode cX7_worthOf 57 = .ok (.ifCond .eq 18, 3) := by decide +kernel
theorem dX7_worthOf_60 : decode cX7_worthOf 60 = .ok (.aload_n 0, 1) := by decide +kernel
theorem dX7_worthOf_61 : decode cX7_worthOf 61 = .ok (.getfield 23, 3) := by decide +kernel
theorem dX7_worthOf_64 : decode cX7_worthOf 64 = .ok (.iload 6, 2) := by decide +kernel
theorem dX7_worthOf_66 : decode cX7_worthOf 66 = .ok (.iaload, 1) := by decide +kernel
theorem dX7_worthOf_67 : decode cX7_worthOf 67 = .ok (.iconst 3, 1) := by decide +kernel
theorem dX7_worthOf_68 : decode cX7_worthOf 68 = .ok (.if_icmp .ne 7, 3) := by decide +kernel
theorem dX7_worthOf_71 : decode cX7_worthOf 71 = .ok (.iconst 1, 1) := by decide +kernel
theorem dX7_worthOf_72 : decode cX7_worthOf 72 = .ok (.goto 4, 3) := by decide +kernel
theorem dX7_worthOf_75 : decode cX7_worthOf 75 = .ok (.iconst 0, 1) := by decide +kernel
theorem dX7_worthOf_76 : decode cX7_worthOf 76 = .ok (.iadd, 1) := by decide +kernel
theorem dX7_worthOf_77 : decode cX7_worthOf 77 = .ok (.istore 4, 2) := by decide +kernel
theorem dX7_worthOf_79 : decode cX7_worthOf 79 = .ok (.iinc 6 1, 3) := by decide +kernel
theorem dX7_worthOf_82 : decode cX7_worthOf 82 = .ok (.goto (-71), 3) := by decide +kernel
theorem dX7_worthOf_85 : decode cX7_worthOf 85 = .ok (.iconst 0, 1) := by decide +kernel
theorem dX7_worthOf_86 : decode cX7_worthOf 86 = .ok (.istore 6, 2) := by decide +kernel
theorem dX7_worthOf_88 : decode cX7_worthOf 88 = .ok (.iload 6, 2) := by decide +kernel
theorem dX7_worthOf_90 : decode cX7_worthOf 90 = .ok (.aload_n 0, 1) := by decide +kernel
theorem dX7_worthOf_91 : decode cX7_worthOf 91 = .ok (.getfield 17, 3) := by decide +kernel
theorem dX7_worthOf_94 : decode cX7_worthOf 94 = .ok (.iconst 0, 1) := by decide +kernel
theorem dX7_worthOf_95 : decode cX7_worthOf 95 = .ok (.iaload, 1) := by decide +kernel
theorem dX7_worthOf_96 : decode cX7_worthOf 96 = .ok (.if_icmp .ge 135, 3) := by decide +kernel
theorem dX7_worthOf_99 : decode cX7_worthOf 99 = .ok (.iload_n 2, 1) := by decide +kernel
theorem dX7_worthOf_100 : decode cX7_worthOf 100 = .ok (.iload 6, 2) := by decide +kernel
theorem dX7_worthOf_102 : decode cX7_worthOf 102 = .ok (.invokestatic 129, 3) := by decide +kernel
theorem dX7_worthOf_105 : decode cX7_worthOf 105 = .ok (.ifCond .eq 120, 3) := by decide +kernel
theorem dX7_worthOf_108 : decode cX7_worthOf 108 = .ok (.aload_n 0, 1) := by decide +kernel
theorem dX7_worthOf_109 : decode cX7_worthOf 109 = .ok (.getfield 23, 3) := by decide +kernel
theorem dX7_worthOf_112 : decode cX7_worthOf 112 = .ok (.iload 6, 2) := by decide +kernel
theorem dX7_worthOf_114 : decode cX7_worthOf 114 = .ok (.iaload, 1) := by decide +kernel
theorem dX7_worthOf_115 : decode cX7_worthOf 115 = .ok (.iconst 1, 1) := by decide +kernel
theorem dX7_worthOf_116 : decode cX7_worthOf 116 = .ok (.if_icmp .eq 18, 3) := by decide +kernel
theorem dX7_worthOf_119 : decode cX7_worthOf 119 = .ok (.aload_n 0, 1) := by decide +kernel
theorem dX7_worthOf_120 : decode cX7_worthOf 120 = .ok (.getfield 23, 3) := by decide +kernel
theorem dX7_worthOf_123 : decode cX7_worthOf 123 = .ok (.iload 6, 2) := by decide +kernel
theorem dX7_worthOf_125 : decode cX7_worthOf 125 = .ok (.iaload, 1) := by decide +kernel
theorem dX7_worthOf_126 : decode cX7_worthOf 126 = .ok (.iconst 2, 1) := by decide +kernel
theorem dX7_worthOf_127 : decode cX7_worthOf 127 = .ok (.if_icmp .ne 11, 3) := by decide +kernel
theorem dX7_worthOf_130 : decode cX7_worthOf 130 = .ok (.iload_n 3, 1) := by decide +kernel
theorem dX7_worthOf_131 : decode cX7_worthOf 131 = .ok (.ifCond .ne 7, 3) := by decide +kernel
theorem dX7_worthOf_134 : decode cX7_worthOf 134 = .ok (.iconst 1, 1) := by decide +kernel
theorem dX7_worthOf_135 : decode cX7_worthOf 135 = .ok (.goto 4, 3) := by decide +kernel
theorem dX7_worthOf_138 : decode cX7_worthOf 138 = .ok (.iconst 0, 1) := by decide +kernel
theorem dX7_worthOf_139 : decode cX7_worthOf 139 = .ok (.istore 7, 2) := by decide +kernel
theorem dX7_worthOf_141 : decode cX7_worthOf 141 = .ok (.aload_n 0, 1) := by decide +kernel
theorem dX7_worthOf_142 : decode cX7_worthOf 142 = .ok (.getfield 23, 3) := by decide +kernel
theorem dX7_worthOf_145 : decode cX7_worthOf 145 = .ok (.iload 6, 2) := by decide +kernel
theorem dX7_worthOf_147 : decode cX7_worthOf 147 = .ok (.iaload, 1) := by decide +kernel
theorem dX7_worthOf_148 : decode cX7_worthOf 148 = .ok (.ifCond .eq 20, 3) := by decide +kernel
theorem dX7_worthOf_151 : decode cX7_worthOf 151 = .ok (.aload_n 0, 1) := by decide +kernel
theorem dX7_worthOf_152 : decode cX7_worthOf 152 = .ok (.getfield 23, 3) := by decide +kernel
theorem dX7_worthOf_155 : decode cX7_worthOf 155 = .ok (.iload 6, 2) := by decide +kernel
theorem dX7_worthOf_157 : decode cX7_worthOf 157 = .ok (.iaload, 1) := by decide +kernel
theorem dX7_worthOf_158 : decode cX7_worthOf 158 = .ok (.iconst 3, 1) := by decide +kernel
theorem dX7_worthOf_159 : decode cX7_worthOf 159 = .ok (.if_icmp .ne 13, 3) := by decide +kernel
theorem dX7_worthOf_162 : decode cX7_worthOf 162 = .ok (.iload 4, 2) := by decide +kernel
theorem dX7_worthOf_164 : decode cX7_worthOf 164 = .ok (.iconst 1, 1) := by decide +kernel
theorem dX7_worthOf_165 : decode cX7_worthOf 165 = .ok (.if_icmp .le 7, 3) := by decide +kernel
theorem dX7_worthOf_168 : decode cX7_worthOf 168 = .ok (.iconst 1, 1) := by decide +kernel
theorem dX7_worthOf_169 : decode cX7_worthOf 169 = .ok (.goto 4, 3) := by decide +kernel
theorem dX7_worthOf_172 : decode cX7_worthOf 172 = .ok (.iconst 0, 1) := by decide +kernel
theorem dX7_worthOf_173 : decode cX7_worthOf 173 = .ok (.istore 8, 2) := by decide +kernel
theorem dX7_worthOf_175 : decode cX7_worthOf 175 = .ok (.iload 5, 2) := by decide +kernel
theorem dX7_worthOf_177 : decode cX7_worthOf 177 = .ok (.aload_n 0, 1) := by decide +kernel
theorem dX7_worthOf_178 : decode cX7_worthOf 178 = .ok (.getfield 29, 3) := by decide +kernel
theorem dX7_worthOf_181 : decode cX7_worthOf 181 = .ok (.bipush 6, 2) := by decide +kernel
theorem dX7_worthOf_183 : decode cX7_worthOf 183 = .ok (.iload_n 1, 1) := by decide +kernel
theorem dX7_worthOf_184 : decode cX7_worthOf 184 = .ok (.imul, 1) := by decide +kernel
theorem dX7_worthOf_185 : decode cX7_worthOf 185 = .ok (.iload 6, 2) := by decide +kernel
theorem dX7_worthOf_187 : decode cX7_worthOf 187 = .ok (.iadd, 1) := by decide +kernel
theorem dX7_worthOf_188 : decode cX7_worthOf 188 = .ok (.iaload, 1) := by decide +kernel
theorem dX7_worthOf_189 : decode cX7_worthOf 189 = .ok (.iload 8, 2) := by decide +kernel
theorem dX7_worthOf_191 : decode cX7_worthOf 191 = .ok (.ifCond .eq 13, 3) := by decide +kernel
theorem dX7_worthOf_194 : decode cX7_worthOf 194 = .ok (.aload_n 0, 1) := by decide +kernel
theorem dX7_worthOf_195 : decode cX7_worthOf 195 = .ok (.getfield 26, 3) := by decide +kernel
theorem dX7_worthOf_198 : decode cX7_worthOf 198 = .ok (.iload 6, 2) := by decide +kernel
theorem dX7_worthOf_200 : decode cX7_worthOf 200 = .ok (.iaload, 1) := by decide +kernel
theorem dX7_worthOf_201 : decode cX7_worthOf 201 = .ok (.goto 20, 3) := by decide +kernel
theorem dX7_worthOf_204 : decode cX7_worthOf 204 = .ok (.iload 7, 2) := by decide +kernel
theorem dX7_worthOf_206 : decode cX7_worthOf 206 = .ok (.ifCond .eq 14, 3) := by decide +kernel
theorem dX7_worthOf_209 : decode cX7_worthOf 209 = .ok (.aload_n 0, 1) := by decide +kernel
theorem dX7_worthOf_210 : decode cX7_worthOf 210 = .ok (.getfield 26, 3) := by decide +kernel
theorem dX7_worthOf_213 : decode cX7_worthOf 213 = .ok (.iload 6, 2) := by decide +kernel
theorem dX7_worthOf_215 : decode cX7_worthOf 215 = .ok (.iaload, 1) := by decide +kernel
theorem dX7_worthOf_216 : decode cX7_worthOf 216 = .ok (.ineg, 1) := by decide +kernel
theorem dX7_worthOf_217 : decode cX7_worthOf 217 = .ok (.goto 4, 3) := by decide +kernel
theorem dX7_worthOf_220 : decode cX7_worthOf 220 = .ok (.iconst 0, 1) := by decide +kernel
theorem dX7_worthOf_221 : decode cX7_worthOf 221 = .ok (.iadd, 1) := by decide +kernel
theorem dX7_worthOf_222 : decode cX7_worthOf 222 = .ok (.iadd, 1) := by decide +kernel
theorem dX7_worthOf_223 : decode cX7_worthOf 223 = .ok (.istore 5, 2) := by decide +kernel
theorem dX7_worthOf_225 : decode cX7_worthOf 225 = .ok (.iinc 6 1, 3) := by decide +kernel
theorem dX7_worthOf_228 : decode cX7_worthOf 228 = .ok (.goto (-140), 3) := by decide +kernel
theorem dX7_worthOf_231 : decode cX7_worthOf 231 = .ok (.iload 5, 2) := by decide +kernel
theorem dX7_worthOf_233 : decode cX7_worthOf 233 = .ok (.ireturn, 1) := by decide +kernel
theorem dX7_worthOfAll_0 : decode cX7_worthOfAll 0 = .ok (.iconst 0, 1) := by decide +kernel
theorem dX7_worthOfAll_1 : decode cX7_worthOfAll 1 = .ok (.istore_n 2, 1) := by decide +kernel
theorem dX7_worthOfAll_2 : decode cX7_worthOfAll 2 = .ok (.iconst 0, 1) := by decide +kernel
theorem dX7_worthOfAll_3 : decode cX7_worthOfAll 3 = .ok (.istore_n 3, 1) := by decide +kernel
theorem dX7_worthOfAll_4 : decode cX7_worthOfAll 4 = .ok (.iload_n 3, 1) := by decide +kernel
theorem dX7_worthOfAll_5 : decode cX7_worthOfAll 5 = .ok (.aload_n 0, 1) := by decide +kernel
theorem dX7_worthOfAll_6 : decode cX7_worthOfAll 6 = .ok (.getfield 13, 3) := by decide +kernel
theorem dX7_worthOfAll_9 : decode cX7_worthOfAll 9 = .ok (.iconst 0, 1) := by decide +kernel
theorem dX7_worthOfAll_10 : decode cX7_worthOfAll 10 = .ok (.iaload, 1) := by decide +kernel
theorem dX7_worthOfAll_11 : decode cX7_worthOfAll 11 = .ok (.if_icmp .ge 23, 3) := by decide +kernel
theorem dX7_worthOfAll_14 : decode cX7_worthOfAll 14 = .ok (.iload_n 2, 1) := by decide +kernel
theorem dX7_worthOfAll_15 : decode cX7_worthOfAll 15 = .ok (.aload_n 0, 1) := by decide +kernel
theorem dX7_worthOfAll_16 : decode cX7_worthOfAll 16 = .ok (.iload_n 3, 1) := by decide +kernel
theorem dX7_worthOfAll_17 : decode cX7_worthOfAll 17 = .ok (.aload_n 0, 1) := by decide +kernel
theorem dX7_worthOfAll_18 : decode cX7_worthOfAll 18 = .ok (.aload_n 1, 1) := by decide +kernel
theorem dX7_worthOfAll_19 : decode cX7_worthOfAll 19 = .ok (.iload_n 3, 1) := by decide +kernel
theorem dX7_worthOfAll_20 : decode cX7_worthOfAll 20 = .ok (.invokevirtual 133, 3) := by decide +kernel
theorem dX7_worthOfAll_23 : decode cX7_worthOfAll 23 = .ok (.invokevirtual 137, 3) := by decide +kernel
theorem dX7_worthOfAll_26 : decode cX7_worthOfAll 26 = .ok (.iadd, 1) := by decide +kernel
theorem dX7_worthOfAll_27 : decode cX7_worthOfAll 27 = .ok (.istore_n 2, 1) := by decide +kernel
theorem dX7_worthOfAll_28 : decode cX7_worthOfAll 28 = .ok (.iinc 3 1, 3) := by decide +kernel
theorem dX7_worthOfAll_31 : decode cX7_worthOfAll 31 = .ok (.goto (-27), 3) := by decide +kernel
theorem dX7_worthOfAll_34 : decode cX7_worthOfAll 34 = .ok (.iload_n 2, 1) := by decide +kernel
theorem dX7_worthOfAll_35 : decode cX7_worthOfAll 35 = .ok (.ireturn, 1) := by decide +kernel
theorem dX7_thingsHad_0 : decode cX7_thingsHad 0 = .ok (.iconst 0, 1) := by decide +kernel
theorem dX7_thingsHad_1 : decode cX7_thingsHad 1 = .ok (.istore_n 2, 1) := by decide +kernel
theorem dX7_thingsHad_2 : decode cX7_thingsHad 2 = .ok (.iconst 0, 1) := by decide +kernel
theorem dX7_thingsHad_3 : decode cX7_thingsHad 3 = .ok (.istore_n 3, 1) := by decide +kernel
theorem dX7_thingsHad_4 : decode cX7_thingsHad 4 = .ok (.iload_n 3, 1) := by decide +kernel
theorem dX7_thingsHad_5 : decode cX7_thingsHad 5 = .ok (.aload_n 0, 1) := by decide +kernel
theorem dX7_thingsHad_6 : decode cX7_thingsHad 6 = .ok (.getfield 17, 3) := by decide +kernel
theorem dX7_thingsHad_9 : decode cX7_thingsHad 9 = .ok (.iconst 0, 1) := by decide +kernel
theorem dX7_thingsHad_10 : decode cX7_thingsHad 10 = .ok (.iaload, 1) := by decide +kernel
theorem dX7_thingsHad_11 : decode cX7_thingsHad 11 = .ok (.if_icmp .ge 27, 3) := by decide +kernel
theorem dX7_thingsHad_14 : decode cX7_thingsHad 14 = .ok (.iload_n 2, 1) := by decide +kernel
theorem dX7_thingsHad_15 : decode cX7_thingsHad 15 = .ok (.aload_n 1, 1) := by decide +kernel
theorem dX7_thingsHad_16 : decode cX7_thingsHad 16 = .ok (.iconst 5, 1) := by decide +kernel
theorem dX7_thingsHad_17 : decode cX7_thingsHad 17 = .ok (.iload_n 3, 1) := by decide +kernel
theorem dX7_thingsHad_18 : decode cX7_thingsHad 18 = .ok (.iadd, 1) := by decide +kernel
theorem dX7_thingsHad_19 : decode cX7_thingsHad 19 = .ok (.iaload, 1) := by decide +kernel
theorem dX7_thingsHad_20 : decode cX7_thingsHad 20 = .ok (.bipush (-4), 2) := by decide +kernel
theorem dX7_thingsHad_22 : decode cX7_thingsHad 22 = .ok (.if_icmp .ne 7, 3) := by decide +kernel
theorem dX7_thingsHad_25 : decode cX7_thingsHad 25 = .ok (.iconst 0, 1) := by decide +kernel
theorem dX7_thingsHad_26 : decode cX7_thingsHad 26 = .ok (.goto 4, 3) := by decide +kernel
theorem dX7_thingsHad_29 : decode cX7_thingsHad 29 = .ok (.iconst 1, 1) := by decide +kernel
theorem dX7_thingsHad_30 : decode cX7_thingsHad 30 = .ok (.iadd, 1) := by decide +kernel
theorem dX7_thingsHad_31 : decode cX7_thingsHad 31 = .ok (.istore_n 2, 1) := by decide +kernel
theorem dX7_thingsHad_32 : decode cX7_thingsHad 32 = .ok (.iinc 3 1, 3) := by decide +kernel
theorem dX7_thingsHad_35 : decode cX7_thingsHad 35 = .ok (.goto (-31), 3) := by decide +kernel
theorem dX7_thingsHad_38 : decode cX7_thingsHad 38 = .ok (.iload_n 2, 1) := by decide +kernel
theorem dX7_thingsHad_39 : decode cX7_thingsHad 39 = .ok (.ireturn, 1) := by decide +kernel
theorem dX7_person_0 : decode cX7_person 0 = .ok (.aload_n 0, 1) := by decide +kernel
theorem dX7_person_1 : decode cX7_person 1 = .ok (.iload_n 1, 1) := by decide +kernel
theorem dX7_person_2 : decode cX7_person 2 = .ok (.invokevirtual 140, 3) := by decide +kernel
theorem dX7_person_5 : decode cX7_person 5 = .ok (.ifCond .ne 5, 3) := by decide +kernel
theorem dX7_person_8 : decode cX7_person 8 = .ok (.iconst (-1), 1) := by decide +kernel
theorem dX7_person_9 : decode cX7_person 9 = .ok (.ireturn, 1) := by decide +kernel
theorem dX7_person_10 : decode cX7_person 10 = .ok (.iload_n 2, 1) := by decide +kernel
theorem dX7_person_11 : decode cX7_person 11 = .ok (.tableswitch 74 0 3 #[29, 38, 45, 55], 29) := by decide +kernel
theorem dX7_person_40 : decode cX7_person 40 = .ok (.aload_n 0, 1) := by decide +kernel
theorem dX7_person_41 : decode cX7_person 41 = .ok (.getfield 32, 3) := by decide +kernel
theorem dX7_person_44 : decode cX7_person 44 = .ok (.iconst 0, 1) := by decide +kernel
theorem dX7_person_45 : decode cX7_person 45 = .ok (.iload_n 1, 1) := by decide +kernel
theorem dX7_person_46 : decode cX7_person 46 = .ok (.iadd, 1) := by decide +kernel
theorem dX7_person_47 : decode cX7_person 47 = .ok (.iaload, 1) := by decide +kernel
theorem dX7_person_48 : decode cX7_person 48 = .ok (.ireturn, 1) := by decide +kernel
theorem dX7_person_49 : decode cX7_person 49 = .ok (.aload_n 0, 1) := by decide +kernel
theorem dX7_person_50 : decode cX7_person 50 = .ok (.getfield 20, 3) := by decide +kernel
theorem dX7_person_53 : decode cX7_person 53 = .ok (.iload_n 1, 1) := by decide +kernel
theorem dX7_person_54 : decode cX7_person 54 = .ok (.iaload, 1) := by decide +kernel
theorem dX7_person_55 : decode cX7_person 55 = .ok (.ireturn, 1) := by decide +kernel
theorem dX7_person_56 : decode cX7_person 56 = .ok (.aload_n 0, 1) := by decide +kernel
theorem dX7_person_57 : decode cX7_person 57 = .ok (.aload_n 0, 1) := by decide +kernel
theorem dX7_person_58 : decode cX7_person 58 = .ok (.getfield 32, 3) := by decide +kernel
theorem dX7_person_61 : decode cX7_person 61 = .ok (.iload_n 1, 1) := by decide +kernel
theorem dX7_person_62 : decode cX7_person 62 = .ok (.invokevirtual 133, 3) := by decide +kernel
theorem dX7_person_65 : decode cX7_person 65 = .ok (.ireturn, 1) := by decide +kernel
theorem dX7_person_66 : decode cX7_person 66 = .ok (.aload_n 0, 1) := by decide +kernel
theorem dX7_person_67 : decode cX7_person 67 = .ok (.iload_n 1, 1) := by decide +kernel
theorem dX7_person_68 : decode cX7_person 68 = .ok (.aload_n 0, 1) := by decide +kernel
theorem dX7_person_69 : decode cX7_person 69 = .ok (.aload_n 0, 1) := by decide +kernel
theorem dX7_person_70 : decode cX7_person 70 = .ok (.getfield 32, 3) := by decide +kernel
theorem dX7_person_73 : decode cX7_person 73 = .ok (.iload_n 1, 1) := by decide +kernel
theorem dX7_person_74 : decode cX7_person 74 = .ok (.invokevirtual 133, 3) := by decide +kernel
theorem dX7_person_77 : decode cX7_person 77 = .ok (.invokevirtual 137, 3) := by decide +kernel
theorem dX7_person_80 : decode cX7_person 80 = .ok (.sipush 1000, 3) := by decide +kernel
theorem dX7_person_83 : decode cX7_person 83 = .ok (.iadd, 1) := by decide +kernel
theorem dX7_person_84 : decode cX7_person 84 = .ok (.ireturn, 1) := by decide +kernel
theorem dX7_person_85 : decode cX7_person 85 = .ok (.iconst (-1), 1) := by decide +kernel
theorem dX7_person_86 : decode cX7_person 86 = .ok (.ireturn, 1) := by decide +kernel
theorem dX7_thing_0 : decode cX7_thing 0 = .ok (.aload_n 0, 1) := by decide +kernel
theorem dX7_thing_1 : decode cX7_thing 1 = .ok (.iload_n 1, 1) := by decide +kernel
theorem dX7_thing_2 : decode cX7_thing 2 = .ok (.invokevirtual 144, 3) := by decide +kernel
theorem dX7_thing_5 : decode cX7_thing 5 = .ok (.ifCond .ne 5, 3) := by decide +kernel
theorem dX7_thing_8 : decode cX7_thing 8 = .ok (.iconst (-1), 1) := by decide +kernel
theorem dX7_thing_9 : decode cX7_thing 9 = .ok (.ireturn, 1) := by decide +kernel
theorem dX7_thing_10 : decode cX7_thing 10 = .ok (.iload_n 2, 1) := by decide +kernel
theorem dX7_thing_11 : decode cX7_thing 11 = .ok (.tableswitch 103 0 4 #[33, 40, 47, 56, 73], 33) := by decide +kernel
theorem dX7_thing_44 : decode cX7_thing 44 = .ok (.aload_n 0, 1) := by decide +kernel
theorem dX7_thing_45 : decode cX7_thing 45 = .ok (.getfield 23, 3) := by decide +kernel
theorem dX7_thing_48 : decode cX7_thing 48 = .ok (.iload_n 1, 1) := by decide +kernel
theorem dX7_thing_49 : decode cX7_thing 49 = .ok (.iaload, 1) := by decide +kernel
theorem dX7_thing_50 : decode cX7_thing 50 = .ok (.ireturn, 1) := by decide +kernel
theorem dX7_thing_51 : decode cX7_thing 51 = .ok (.aload_n 0, 1) := by decide +kernel
theorem dX7_thing_52 : decode cX7_thing 52 = .ok (.getfield 26, 3) := by decide +kernel
theorem dX7_thing_55 : decode cX7_thing 55 = .ok (.iload_n 1, 1) := by decide +kernel
theorem dX7_thing_56 : decode cX7_thing 56 = .ok (.iaload, 1) := by decide +kernel
theorem dX7_thing_57 : decode cX7_thing 57 = .ok (.ireturn, 1) := by decide +kernel
theorem dX7_thing_58 : decode cX7_thing 58 = .ok (.aload_n 0, 1) := by decide +kernel
theorem dX7_thing_59 : decode cX7_thing 59 = .ok (.getfield 32, 3) := by decide +kernel
theorem dX7_thing_62 : decode cX7_thing 62 = .ok (.iconst 5, 1) := by decide +kernel
theorem dX7_thing_63 : decode cX7_thing 63 = .ok (.iload_n 1, 1) := by decide +kernel
theorem dX7_thing_64 : decode cX7_thing 64 = .ok (.iadd, 1) := by decide +kernel
theorem dX7_thing_65 : decode cX7_thing 65 = .ok (.iaload, 1) := by decide +kernel
theorem dX7_thing_66 : decode cX7_thing 66 = .ok (.ireturn, 1) := by decide +kernel
theorem dX7_thing_67 : decode cX7_thing 67 = .ok (.iload_n 1, 1) := by decide +kernel
theorem dX7_thing_68 : decode cX7_thing 68 = .ok (.aload_n 0, 1) := by decide +kernel
theorem dX7_thing_69 : decode cX7_thing 69 = .ok (.getfield 32, 3) := by decide +kernel
theorem dX7_thing_72 : decode cX7_thing 72 = .ok (.bipush 11, 2) := by decide +kernel
theorem dX7_thing_74 : decode cX7_thing 74 = .ok (.iaload, 1) := by decide +kernel
theorem dX7_thing_75 : decode cX7_thing 75 = .ok (.if_icmp .ge 7, 3) := by decide +kernel
theorem dX7_thing_78 : decode cX7_thing 78 = .ok (.iconst 1, 1) := by decide +kernel
theorem dX7_thing_79 : decode cX7_thing 79 = .ok (.goto 4, 3) := by decide +kernel
theorem dX7_thing_82 : decode cX7_thing 82 = .ok (.iconst 0, 1) := by decide +kernel
theorem dX7_thing_83 : decode cX7_thing 83 = .ok (.ireturn, 1) := by decide +kernel
theorem dX7_thing_84 : decode cX7_thing 84 = .ok (.iload_n 1, 1) := by decide +kernel
theorem dX7_thing_85 : decode cX7_thing 85 = .ok (.aload_n 0, 1) := by decide +kernel
theorem dX7_thing_86 : decode cX7_thing 86 = .ok (.getfield 32, 3) := by decide +kernel
theorem dX7_thing_89 : decode cX7_thing 89 = .ok (.bipush 11, 2) := by decide +kernel
theorem dX7_thing_91 : decode cX7_thing 91 = .ok (.iaload, 1) := by decide +kernel
theorem dX7_thing_92 : decode cX7_thing 92 = .ok (.iconst 1, 1) := by decide +kernel
theorem dX7_thing_93 : decode cX7_thing 93 = .ok (.isub, 1) := by decide +kernel
theorem dX7_thing_94 : decode cX7_thing 94 = .ok (.if_icmp .ne 18, 3) := by decide +kernel
theorem dX7_thing_97 : decode cX7_thing 97 = .ok (.aload_n 0, 1) := by decide +kernel
theorem dX7_thing_98 : decode cX7_thing 98 = .ok (.getfield 32, 3) := by decide +kernel
theorem dX7_thing_101 : decode cX7_thing 101 = .ok (.bipush 12, 2) := by decide +kernel
theorem dX7_thing_103 : decode cX7_thing 103 = .ok (.iaload, 1) := by decide +kernel
theorem dX7_thing_104 : decode cX7_thing 104 = .ok (.iconst 1, 1) := by decide +kernel
theorem dX7_thing_105 : decode cX7_thing 105 = .ok (.if_icmp .ne 7, 3) := by decide +kernel
theorem dX7_thing_108 : decode cX7_thing 108 = .ok (.iconst 1, 1) := by decide +kernel
theorem dX7_thing_109 : decode cX7_thing 109 = .ok (.goto 4, 3) := by decide +kernel
theorem dX7_thing_112 : decode cX7_thing 112 = .ok (.iconst 0, 1) := by decide +kernel
theorem dX7_thing_113 : decode cX7_thing 113 = .ok (.ireturn, 1) := by decide +kernel
theorem dX7_thing_114 : decode cX7_thing 114 = .ok (.iconst (-1), 1) := by decide +kernel
theorem dX7_thing_115 : decode cX7_thing 115 = .ok (.ireturn, 1) := by decide +kernel
theorem dX7_likes_0 : decode cX7_likes 0 = .ok (.aload_n 0, 1) := by decide +kernel
theorem dX7_likes_1 : decode cX7_likes 1 = .ok (.iload_n 1, 1) := by decide +kernel
theorem dX7_likes_2 : decode cX7_likes 2 = .ok (.invokevirtual 140, 3) := by decide +kernel
theorem dX7_likes_5 : decode cX7_likes 5 = .ok (.ifCond .eq 25, 3) := by decide +kernel
theorem dX7_likes_8 : decode cX7_likes 8 = .ok (.aload_n 0, 1) := by decide +kernel
theorem dX7_likes_9 : decode cX7_likes 9 = .ok (.iload_n 2, 1) := by decide +kernel
theorem dX7_likes_10 : decode cX7_likes 10 = .ok (.invokevirtual 144, 3) := by decide +kernel
theorem dX7_likes_13 : decode cX7_likes 13 = .ok (.ifCond .eq 17, 3) := by decide +kernel
theorem dX7_likes_16 : decode cX7_likes 16 = .ok (.aload_n 0, 1) := by decide +kernel
theorem dX7_likes_17 : decode cX7_likes 17 = .ok (.getfield 29, 3) := by decide +kernel
theorem dX7_likes_20 : decode cX7_likes 20 = .ok (.bipush 6, 2) := by decide +kernel
theorem dX7_likes_22 : decode cX7_likes 22 = .ok (.iload_n 1, 1) := by decide +kernel
theorem dX7_likes_23 : decode cX7_likes 23 = .ok (.imul, 1) := by decide +kernel
theorem dX7_likes_24 : decode cX7_likes 24 = .ok (.iload_n 2, 1) := by decide +kernel
theorem dX7_likes_25 : decode cX7_likes 25 = .ok (.iadd, 1) := by decide +kernel
theorem dX7_likes_26 : decode cX7_likes 26 = .ok (.iaload, 1) := by decide +kernel
theorem dX7_likes_27 : decode cX7_likes 27 = .ok (.goto 4, 3) := by decide +kernel
theorem dX7_likes_30 : decode cX7_likes 30 = .ok (.iconst (-1), 1) := by decide +kernel
theorem dX7_likes_31 : decode cX7_likes 31 = .ok (.ireturn, 1) := by decide +kernel
theorem dX7_know_0 : decode cX7_know 0 = .ok (.aload_n 0, 1) := by decide +kernel
theorem dX7_know_1 : decode cX7_know 1 = .ok (.getfield 120, 3) := by decide +kernel
theorem dX7_know_4 : decode cX7_know 4 = .ok (.bipush 8, 2) := by decide +kernel
theorem dX7_know_6 : decode cX7_know 6 = .ok (.if_icmp .ne 42, 3) := by decide +kernel
theorem dX7_know_9 : decode cX7_know 9 = .ok (.iconst 0, 1) := by decide +kernel
theorem dX7_know_10 : decode cX7_know 10 = .ok (.istore_n 1, 1) := by decide +kernel
theorem dX7_know_11 : decode cX7_know 11 = .ok (.iload_n 1, 1) := by decide +kernel
theorem dX7_know_12 : decode cX7_know 12 = .ok (.bipush 98, 2) := by decide +kernel
theorem dX7_know_14 : decode cX7_know 14 = .ok (.if_icmp .ge 24, 3) := by decide +kernel
theorem dX7_know_17 : decode cX7_know 17 = .ok (.aload_n 0, 1) := by decide +kernel
theorem dX7_know_18 : decode cX7_know 18 = .ok (.getfield 35, 3) := by decide +kernel
theorem dX7_know_21 : decode cX7_know 21 = .ok (.iload_n 1, 1) := by decide +kernel
theorem dX7_know_22 : decode cX7_know 22 = .ok (.aload_n 0, 1) := by decide +kernel
theorem dX7_know_23 : decode cX7_know 23 = .ok (.getfield 35, 3) := by decide +kernel
theorem dX7_know_26 : decode cX7_know 26 = .ok (.bipush 14, 2) := by decide +kernel
theorem dX7_know_28 : decode cX7_know 28 = .ok (.iload_n 1, 1) := by decide +kernel
theorem dX7_know_29 : decode cX7_know 29 = .ok (.iadd, 1) := by decide +kernel
theorem dX7_know_30 : decode cX7_know 30 = .ok (.iaload, 1) := by decide +kernel
theorem dX7_know_31 : decode cX7_know 31 = .ok (.iastore, 1) := by decide +kernel
theorem dX7_know_32 : decode cX7_know 32 = .ok (.iinc 1 1, 3) := by decide +kernel
theorem dX7_know_35 : decode cX7_know 35 = .ok (.goto (-24), 3) := by decide +kernel
theorem dX7_know_38 : decode cX7_know 38 = .ok (.aload_n 0, 1) := by decide +kernel
theorem dX7_know_39 : decode cX7_know 39 = .ok (.dup, 1) := by decide +kernel
theorem dX7_know_40 : decode cX7_know 40 = .ok (.getfield 120, 3) := by decide +kernel
theorem dX7_know_43 : decode cX7_know 43 = .ok (.iconst 1, 1) := by decide +kernel
theorem dX7_know_44 : decode cX7_know 44 = .ok (.isub, 1) := by decide +kernel
theorem dX7_know_45 : decode cX7_know 45 = .ok (.putfield 120, 3) := by decide +kernel
theorem dX7_know_48 : decode cX7_know 48 = .ok (.iconst 0, 1) := by decide +kernel
theorem dX7_know_49 : decode cX7_know 49 = .ok (.istore_n 1, 1) := by decide +kernel
theorem dX7_know_50 : decode cX7_know 50 = .ok (.iload_n 1, 1) := by decide +kernel
theorem dX7_know_51 : decode cX7_know 51 = .ok (.bipush 14, 2) := by decide +kernel
theorem dX7_know_53 : decode cX7_know 53 = .ok (.if_icmp .ge 29, 3) := by decide +kernel
theorem dX7_know_56 : decode cX7_know 56 = .ok (.aload_n 0, 1) := by decide +kernel
theorem dX7_know_57 : decode cX7_know 57 = .ok (.getfield 35, 3) := by decide +kernel
theorem dX7_know_60 : decode cX7_know 60 = .ok (.bipush 14, 2) := by decide +kernel
theorem dX7_know_62 : decode cX7_know 62 = .ok (.aload_n 0, 1) := by decide +kernel
theorem dX7_know_63 : decode cX7_know 63 = .ok (.getfield 120, 3) := by decide +kernel
theorem dX7_know_66 : decode cX7_know 66 = .ok (.imul, 1) := by decide +kernel
theorem dX7_know_67 : decode cX7_know 67 = .ok (.iload_n 1, 1) := by decide +kernel
theorem dX7_know_68 : decode cX7_know 68 = .ok (.iadd, 1) := by decide +kernel
theorem dX7_know_69 : decode cX7_know 69 = .ok (.aload_n 0, 1) := by decide +kernel
theorem dX7_know_70 : decode cX7_know 70 = .ok (.getfield 32, 3) := by decide +kernel
theorem dX7_know_73 : decode cX7_know 73 = .ok (.iload_n 1, 1) := by decide +kernel
theorem dX7_know_74 : decode cX7_know 74 = .ok (.iaload, 1) := by decide +kernel
theorem dX7_know_75 : decode cX7_know 75 = .ok (.iastore, 1) := by decide +kernel
theorem dX7_know_76 : decode cX7_know 76 = .ok (.iinc 1 1, 3) := by decide +kernel
theorem dX7_know_79 : decode cX7_know 79 = .ok (.goto (-29), 3) := by decide +kernel
theorem dX7_know_82 : decode cX7_know 82 = .ok (.aload_n 0, 1) := by decide +kernel
theorem dX7_know_83 : decode cX7_know 83 = .ok (.dup, 1) := by decide +kernel
theorem dX7_know_84 : decode cX7_know 84 = .ok (.getfield 120, 3) := by decide +kernel
theorem dX7_know_87 : decode cX7_know 87 = .ok (.iconst 1, 1) := by decide +kernel
theorem dX7_know_88 : decode cX7_know 88 = .ok (.iadd, 1) := by decide +kernel
theorem dX7_know_89 : decode cX7_know 89 = .ok (.putfield 120, 3) := by decide +kernel
theorem dX7_know_92 : decode cX7_know 92 = .ok (.return_, 1) := by decide +kernel
theorem dX7_drawOn_0 : decode cX7_drawOn 0 = .ok (.iconst 0, 1) := by decide +kernel
theorem dX7_drawOn_1 : decode cX7_drawOn 1 = .ok (.istore_n 2, 1) := by decide +kernel
theorem dX7_drawOn_2 : decode cX7_drawOn 2 = .ok (.iload_n 1, 1) := by decide +kernel
theorem dX7_drawOn_3 : decode cX7_drawOn 3 = .ok (.istore_n 3, 1) := by decide +kernel
theorem dX7_drawOn_4 : decode cX7_drawOn 4 = .ok (.iload_n 3, 1) := by decide +kernel
theorem dX7_drawOn_5 : decode cX7_drawOn 5 = .ok (.aload_n 0, 1) := by decide +kernel
theorem dX7_drawOn_6 : decode cX7_drawOn 6 = .ok (.iconst 0, 1) := by decide +kernel
theorem dX7_drawOn_7 : decode cX7_drawOn 7 = .ok (.iload_n 2, 1) := by decide +kernel
theorem dX7_drawOn_8 : decode cX7_drawOn 8 = .ok (.iadd, 1) := by decide +kernel
theorem dX7_drawOn_9 : decode cX7_drawOn 9 = .ok (.iaload, 1) := by decide +kernel
theorem dX7_drawOn_10 : decode cX7_drawOn 10 = .ok (.if_icmp .lt 17, 3) := by decide +kernel
theorem dX7_drawOn_13 : decode cX7_drawOn 13 = .ok (.iload_n 3, 1) := by decide +kernel
theorem dX7_drawOn_14 : decode cX7_drawOn 14 = .ok (.aload_n 0, 1) := by decide +kernel
theorem dX7_drawOn_15 : decode cX7_drawOn 15 = .ok (.iconst 0, 1) := by decide +kernel
theorem dX7_drawOn_16 : decode cX7_drawOn 16 = .ok (.iload_n 2, 1) := by decide +kernel
theorem dX7_drawOn_17 : decode cX7_drawOn 17 = .ok (.iadd, 1) := by decide +kernel
theorem dX7_drawOn_18 : decode cX7_drawOn 18 = .ok (.iaload, 1) := by decide +kernel
theorem dX7_drawOn_19 : decode cX7_drawOn 19 = .ok (.isub, 1) := by decide +kernel
theorem dX7_drawOn_20 : decode cX7_drawOn 20 = .ok (.istore_n 3, 1) := by decide +kernel
theorem dX7_drawOn_21 : decode cX7_drawOn 21 = .ok (.iinc 2 1, 3) := by decide +kernel
theorem dX7_drawOn_24 : decode cX7_drawOn 24 = .ok (.goto (-20), 3) := by decide +kernel
theorem dX7_drawOn_27 : decode cX7_drawOn 27 = .ok (.aload_n 0, 1) := by decide +kernel
theorem dX7_drawOn_28 : decode cX7_drawOn 28 = .ok (.iconst 0, 1) := by decide +kernel
theorem dX7_drawOn_29 : decode cX7_drawOn 29 = .ok (.iload_n 2, 1) := by decide +kernel
theorem dX7_drawOn_30 : decode cX7_drawOn 30 = .ok (.iadd, 1) := by decide +kernel
theorem dX7_drawOn_31 : decode cX7_drawOn 31 = .ok (.dup2, 1) := by decide +kernel
theorem dX7_drawOn_32 : decode cX7_drawOn 32 = .ok (.iaload, 1) := by decide +kernel
theorem dX7_drawOn_33 : decode cX7_drawOn 33 = .ok (.iconst 1, 1) := by decide +kernel
theorem dX7_drawOn_34 : decode cX7_drawOn 34 = .ok (.isub, 1) := by decide +kernel
theorem dX7_drawOn_35 : decode cX7_drawOn 35 = .ok (.iastore, 1) := by decide +kernel
theorem dX7_drawOn_36 : decode cX7_drawOn 36 = .ok (.aload_n 0, 1) := by decide +kernel
theorem dX7_drawOn_37 : decode cX7_drawOn 37 = .ok (.iconst 5, 1) := by decide +kernel
theorem dX7_drawOn_38 : decode cX7_drawOn 38 = .ok (.aload_n 0, 1) := by decide +kernel
theorem dX7_drawOn_39 : decode cX7_drawOn 39 = .ok (.bipush 11, 2) := by decide +kernel
theorem dX7_drawOn_41 : decode cX7_drawOn 41 = .ok (.iaload, 1) := by decide +kernel
theorem dX7_drawOn_42 : decode cX7_drawOn 42 = .ok (.iadd, 1) := by decide +kernel
theorem dX7_drawOn_43 : decode cX7_drawOn 43 = .ok (.iload_n 2, 1) := by decide +kernel
theorem dX7_drawOn_44 : decode cX7_drawOn 44 = .ok (.iastore, 1) := by decide +kernel
theorem dX7_drawOn_45 : decode cX7_drawOn 45 = .ok (.aload_n 0, 1) := by decide +kernel
theorem dX7_drawOn_46 : decode cX7_drawOn 46 = .ok (.bipush 12, 2) := by decide +kernel
theorem dX7_drawOn_48 : decode cX7_drawOn 48 = .ok (.aload_n 0, 1) := by decide +kernel
theorem dX7_drawOn_49 : decode cX7_drawOn 49 = .ok (.bipush 13, 2) := by decide +kernel
theorem dX7_drawOn_51 : decode cX7_drawOn 51 = .ok (.iaload, 1) := by decide +kernel
theorem dX7_drawOn_52 : decode cX7_drawOn 52 = .ok (.aload_n 0, 1) := by decide +kernel
theorem dX7_drawOn_53 : decode cX7_drawOn 53 = .ok (.bipush 11, 2) := by decide +kernel
theorem dX7_drawOn_55 : decode cX7_drawOn 55 = .ok (.iaload, 1) := by decide +kernel
theorem dX7_drawOn_56 : decode cX7_drawOn 56 = .ok (.invokestatic 129, 3) := by decide +kernel
theorem dX7_drawOn_59 : decode cX7_drawOn 59 = .ok (.ifCond .eq 7, 3) := by decide +kernel
theorem dX7_drawOn_62 : decode cX7_drawOn 62 = .ok (.iconst 0, 1) := by decide +kernel
theorem dX7_drawOn_63 : decode cX7_drawOn 63 = .ok (.goto 4, 3) := by decide +kernel
theorem dX7_drawOn_66 : decode cX7_drawOn 66 = .ok (.iconst 1, 1) := by decide +kernel
theorem dX7_drawOn_67 : decode cX7_drawOn 67 = .ok (.iastore, 1) := by decide +kernel
theorem dX7_drawOn_68 : decode cX7_drawOn 68 = .ok (.aload_n 0, 1) := by decide +kernel
theorem dX7_drawOn_69 : decode cX7_drawOn 69 = .ok (.bipush 11, 2) := by decide +kernel
theorem dX7_drawOn_71 : decode cX7_drawOn 71 = .ok (.dup2, 1) := by decide +kernel
theorem dX7_drawOn_72 : decode cX7_drawOn 72 = .ok (.iaload, 1) := by decide +kernel
theorem dX7_drawOn_73 : decode cX7_drawOn 73 = .ok (.iconst 1, 1) := by decide +kernel
theorem dX7_drawOn_74 : decode cX7_drawOn 74 = .ok (.iadd, 1) := by decide +kernel
theorem dX7_drawOn_75 : decode cX7_drawOn 75 = .ok (.iastore, 1) := by decide +kernel
theorem dX7_drawOn_76 : decode cX7_drawOn 76 = .ok (.iload_n 2, 1) := by decide +kernel
theorem dX7_drawOn_77 : decode cX7_drawOn 77 = .ok (.ireturn, 1) := by decide +kernel
theorem dX7_touch_0 : decode cX7_touch 0 = .ok (.aload_n 0, 1) := by decide +kernel
theorem dX7_touch_1 : decode cX7_touch 1 = .ok (.bipush 12, 2) := by decide +kernel
theorem dX7_touch_3 : decode cX7_touch 3 = .ok (.iload_n 1, 1) := by decide +kernel
theorem dX7_touch_4 : decode cX7_touch 4 = .ok (.aload_n 0, 1) := by decide +kernel
theorem dX7_touch_5 : decode cX7_touch 5 = .ok (.bipush 11, 2) := by decide +kernel
theorem dX7_touch_7 : decode cX7_touch 7 = .ok (.iaload, 1) := by decide +kernel
theorem dX7_touch_8 : decode cX7_touch 8 = .ok (.iconst 1, 1) := by decide +kernel
theorem dX7_touch_9 : decode cX7_touch 9 = .ok (.isub, 1) := by decide +kernel
theorem dX7_touch_10 : decode cX7_touch 10 = .ok (.if_icmp .ne 7, 3) := by decide +kernel
theorem dX7_touch_13 : decode cX7_touch 13 = .ok (.iconst 0, 1) := by decide +kernel
theorem dX7_touch_14 : decode cX7_touch 14 = .ok (.goto 7, 3) := by decide +kernel
theorem dX7_touch_17 : decode cX7_touch 17 = .ok (.aload_n 0, 1) := by decide +kernel
theorem dX7_touch_18 : decode cX7_touch 18 = .ok (.bipush 12, 2) := by decide +kernel
theorem dX7_touch_20 : decode cX7_touch 20 = .ok (.iaload, 1) := by decide +kernel
theorem dX7_touch_21 : decode cX7_touch 21 = .ok (.iastore, 1) := by decide +kernel
theorem dX7_touch_22 : decode cX7_touch 22 = .ok (.return_, 1) := by decide +kernel
theorem dX7_draw_0 : decode cX7_draw 0 = .ok (.iload_n 1, 1) := by decide +kernel
theorem dX7_draw_1 : decode cX7_draw 1 = .ok (.iconst 0, 1) := by decide +kernel
theorem dX7_draw_2 : decode cX7_draw 2 = .ok (.aload_n 0, 1) := by decide +kernel
theorem dX7_draw_3 : decode cX7_draw 3 = .ok (.getfield 32, 3) := by decide +kernel
theorem dX7_draw_6 : decode cX7_draw 6 = .ok (.invokestatic 147, 3) := by decide +kernel
theorem dX7_draw_9 : decode cX7_draw 9 = .ok (.iconst 1, 1) := by decide +kernel
theorem dX7_draw_10 : decode cX7_draw 10 = .ok (.isub, 1) := by decide +kernel
theorem dX7_draw_11 : decode cX7_draw 11 = .ok (.invokestatic 60, 3) := by decide +kernel
theorem dX7_draw_14 : decode cX7_draw 14 = .ok (.ifCond .ne 5, 3) := by decide +kernel
theorem dX7_draw_17 : decode cX7_draw 17 = .ok (.iconst (-1), 1) := by decide +kernel
theorem dX7_draw_18 : decode cX7_draw 18 = .ok (.ireturn, 1) := by decide +kernel
theorem dX7_draw_19 : decode cX7_draw 19 = .ok (.aload_n 0, 1) := by decide +kernel
theorem dX7_draw_20 : decode cX7_draw 20 = .ok (.getfield 32, 3) := by decide +kernel
theorem dX7_draw_23 : decode cX7_draw 23 = .ok (.bipush 11, 2) := by decide +kernel
theorem dX7_draw_25 : decode cX7_draw 25 = .ok (.iaload, 1) := by decide +kernel
theorem dX7_draw_26 : decode cX7_draw 26 = .ok (.aload_n 0, 1) := by decide +kernel
theorem dX7_draw_27 : decode cX7_draw 27 = .ok (.getfield 17, 3) := by decide +kernel
theorem dX7_draw_30 : decode cX7_draw 30 = .ok (.iconst 0, 1) := by decide +kernel
theorem dX7_draw_31 : decode cX7_draw 31 = .ok (.iaload, 1) := by decide +kernel
theorem dX7_draw_32 : decode cX7_draw 32 = .ok (.if_icmp .ne 6, 3) := by decide +kernel
theorem dX7_draw_35 : decode cX7_draw 35 = .ok (.bipush (-2), 2) := by decide +kernel
theorem dX7_draw_37 : decode cX7_draw 37 = .ok (.ireturn, 1) := by decide +kernel
theorem dX7_draw_38 : decode cX7_draw 38 = .ok (.aload_n 0, 1) := by decide +kernel
theorem dX7_draw_39 : decode cX7_draw 39 = .ok (.invokevirtual 151, 3) := by decide +kernel
theorem dX7_draw_42 : decode cX7_draw 42 = .ok (.aload_n 0, 1) := by decide +kernel
theorem dX7_draw_43 : decode cX7_draw 43 = .ok (.getfield 32, 3) := by decide +kernel
theorem dX7_draw_46 : decode cX7_draw 46 = .ok (.iload_n 1, 1) := by decide +kernel
theorem dX7_draw_47 : decode cX7_draw 47 = .ok (.invokestatic 154, 3) := by decide +kernel
theorem dX7_draw_50 : decode cX7_draw 50 = .ok (.ireturn, 1) := by decide +kernel
theorem dX7_refuse_0 : decode cX7_refuse 0 = .ok (.aload_n 0, 1) := by decide +kernel
theorem dX7_refuse_1 : decode cX7_refuse 1 = .ok (.getfield 32, 3) := by decide +kernel
theorem dX7_refuse_4 : decode cX7_refuse 4 = .ok (.bipush 12, 2) := by decide +kernel
theorem dX7_refuse_6 : decode cX7_refuse 6 = .ok (.iaload, 1) := by decide +kernel
theorem dX7_refuse_7 : decode cX7_refuse 7 = .ok (.ifCond .ne 6, 3) := by decide +kernel
theorem dX7_refuse_10 : decode cX7_refuse 10 = .ok (.bipush (-2), 2) := by decide +kernel
theorem dX7_refuse_12 : decode cX7_refuse 12 = .ok (.ireturn, 1) := by decide +kernel
theorem dX7_refuse_13 : decode cX7_refuse 13 = .ok (.aload_n 0, 1) := by decide +kernel
theorem dX7_refuse_14 : decode cX7_refuse 14 = .ok (.invokevirtual 151, 3) := by decide +kernel
theorem dX7_refuse_17 : decode cX7_refuse 17 = .ok (.aload_n 0, 1) := by decide +kernel
theorem dX7_refuse_18 : decode cX7_refuse 18 = .ok (.getfield 32, 3) := by decide +kernel
theorem dX7_refuse_21 : decode cX7_refuse 21 = .ok (.bipush 11, 2) := by decide +kernel
theorem dX7_refuse_23 : decode cX7_refuse 23 = .ok (.iaload, 1) := by decide +kernel
theorem dX7_refuse_24 : decode cX7_refuse 24 = .ok (.iconst 1, 1) := by decide +kernel
theorem dX7_refuse_25 : decode cX7_refuse 25 = .ok (.isub, 1) := by decide +kernel
theorem dX7_refuse_26 : decode cX7_refuse 26 = .ok (.istore_n 1, 1) := by decide +kernel
theorem dX7_refuse_27 : decode cX7_refuse 27 = .ok (.aload_n 0, 1) := by decide +kernel
theorem dX7_refuse_28 : decode cX7_refuse 28 = .ok (.getfield 32, 3) := by decide +kernel
theorem dX7_refuse_31 : decode cX7_refuse 31 = .ok (.bipush 11, 2) := by decide +kernel
theorem dX7_refuse_33 : decode cX7_refuse 33 = .ok (.iload_n 1, 1) := by decide +kernel
theorem dX7_refuse_34 : decode cX7_refuse 34 = .ok (.iastore, 1) := by decide +kernel
theorem dX7_refuse_35 : decode cX7_refuse 35 = .ok (.aload_n 0, 1) := by decide +kernel
theorem dX7_refuse_36 : decode cX7_refuse 36 = .ok (.getfield 32, 3) := by decide +kernel
theorem dX7_refuse_39 : decode cX7_refuse 39 = .ok (.iconst 5, 1) := by decide +kernel
theorem dX7_refuse_40 : decode cX7_refuse 40 = .ok (.iload_n 1, 1) := by decide +kernel
theorem dX7_refuse_41 : decode cX7_refuse 41 = .ok (.iadd, 1) := by decide +kernel
theorem dX7_refuse_42 : decode cX7_refuse 42 = .ok (.bipush (-4), 2) := by decide +kernel
theorem dX7_refuse_44 : decode cX7_refuse 44 = .ok (.iastore, 1) := by decide +kernel
theorem dX7_refuse_45 : decode cX7_refuse 45 = .ok (.aload_n 0, 1) := by decide +kernel
theorem dX7_refuse_46 : decode cX7_refuse 46 = .ok (.getfield 32, 3) := by decide +kernel
theorem dX7_refuse_49 : decode cX7_refuse 49 = .ok (.bipush 13, 2) := by decide +kernel
theorem dX7_refuse_51 : decode cX7_refuse 51 = .ok (.dup2, 1) := by decide +kernel
theorem dX7_refuse_52 : decode cX7_refuse 52 = .ok (.iaload, 1) := by decide +kernel
theorem dX7_refuse_53 : decode cX7_refuse 53 = .ok (.iconst 1, 1) := by decide +kernel
theorem dX7_refuse_54 : decode cX7_refuse 54 = .ok (.iload_n 1, 1) := by decide +kernel
theorem dX7_refuse_55 : decode cX7_refuse 55 = .ok (.ishl, 1) := by decide +kernel
theorem dX7_refuse_56 : decode cX7_refuse 56 = .ok (.ior, 1) := by decide +kernel
theorem dX7_refuse_57 : decode cX7_refuse 57 = .ok (.iastore, 1) := by decide +kernel
theorem dX7_refuse_58 : decode cX7_refuse 58 = .ok (.aload_n 0, 1) := by decide +kernel
theorem dX7_refuse_59 : decode cX7_refuse 59 = .ok (.getfield 32, 3) := by decide +kernel
theorem dX7_refuse_62 : decode cX7_refuse 62 = .ok (.bipush 12, 2) := by decide +kernel
theorem dX7_refuse_64 : decode cX7_refuse 64 = .ok (.iconst 0, 1) := by decide +kernel
theorem dX7_refuse_65 : decode cX7_refuse 65 = .ok (.iastore, 1) := by decide +kernel
theorem dX7_refuse_66 : decode cX7_refuse 66 = .ok (.iload_n 1, 1) := by decide +kernel
theorem dX7_refuse_67 : decode cX7_refuse 67 = .ok (.ireturn, 1) := by decide +kernel
theorem dX7_buy_0 : decode cX7_buy 0 = .ok (.aload_n 0, 1) := by decide +kernel
theorem dX7_buy_1 : decode cX7_buy 1 = .ok (.iload_n 1, 1) := by decide +kernel
theorem dX7_buy_2 : decode cX7_buy 2 = .ok (.invokevirtual 140, 3) := by decide +kernel
theorem dX7_buy_5 : decode cX7_buy 5 = .ok (.ifCond .eq 13, 3) := by decide +kernel
theorem dX7_buy_8 : decode cX7_buy 8 = .ok (.iload_n 2, 1) := by decide +kernel
theorem dX7_buy_9 : decode cX7_buy 9 = .ok (.iconst 1, 1) := by decide +kernel
theorem dX7_buy_10 : decode cX7_buy 10 = .ok (.bipush 9, 2) := by decide +kernel
theorem dX7_buy_12 : decode cX7_buy 12 = .ok (.invokestatic 60, 3) := by decide +kernel
theorem dX7_buy_15 : decode cX7_buy 15 = .ok (.ifCond .ne 5, 3) := by decide +kernel
theorem dX7_buy_18 : decode cX7_buy 18 = .ok (.iconst (-1), 1) := by decide +kernel
theorem dX7_buy_19 : decode cX7_buy 19 = .ok (.ireturn, 1) := by decide +kernel
theorem dX7_buy_20 : decode cX7_buy 20 = .ok (.aload_n 0, 1) := by decide +kernel
theorem dX7_buy_21 : decode cX7_buy 21 = .ok (.getfield 32, 3) := by decide +kernel
theorem dX7_buy_24 : decode cX7_buy 24 = .ok (.iconst 0, 1) := by decide +kernel
theorem dX7_buy_25 : decode cX7_buy 25 = .ok (.iload_n 1, 1) := by decide +kernel
theorem dX7_buy_26 : decode cX7_buy 26 = .ok (.iadd, 1) := by decide +kernel
theorem dX7_buy_27 : decode cX7_buy 27 = .ok (.iaload, 1) := by decide +kernel
theorem dX7_buy_28 : decode cX7_buy 28 = .ok (.iload_n 2, 1) := by decide +kernel
theorem dX7_buy_29 : decode cX7_buy 29 = .ok (.iadd, 1) := by decide +kernel
theorem dX7_buy_30 : decode cX7_buy 30 = .ok (.bipush 9, 2) := by decide +kernel
theorem dX7_buy_32 : decode cX7_buy 32 = .ok (.if_icmp .le 6, 3) := by decide +kernel
theorem dX7_buy_35 : decode cX7_buy 35 = .ok (.bipush (-3), 2) := by decide +kernel
theorem dX7_buy_37 : decode cX7_buy 37 = .ok (.ireturn, 1) := by decide +kernel
theorem dX7_buy_38 : decode cX7_buy 38 = .ok (.aload_n 0, 1) := by decide +kernel
theorem dX7_buy_39 : decode cX7_buy 39 = .ok (.invokevirtual 151, 3) := by decide +kernel
theorem dX7_buy_42 : decode cX7_buy 42 = .ok (.aload_n 0, 1) := by decide +kernel
theorem dX7_buy_43 : decode cX7_buy 43 = .ok (.getfield 32, 3) := by decide +kernel
theorem dX7_buy_46 : decode cX7_buy 46 = .ok (.iconst 0, 1) := by decide +kernel
theorem dX7_buy_47 : decode cX7_buy 47 = .ok (.iload_n 1, 1) := by decide +kernel
theorem dX7_buy_48 : decode cX7_buy 48 = .ok (.iadd, 1) := by decide +kernel
theorem dX7_buy_49 : decode cX7_buy 49 = .ok (.dup2, 1) := by decide +kernel
theorem dX7_buy_50 : decode cX7_buy 50 = .ok (.iaload, 1) := by decide +kernel
theorem dX7_buy_51 : decode cX7_buy 51 = .ok (.iload_n 2, 1) := by decide +kernel
theorem dX7_buy_52 : decode cX7_buy 52 = .ok (.iadd, 1) := by decide +kernel
theorem dX7_buy_53 : decode cX7_buy 53 = .ok (.iastore, 1) := by decide +kernel
theorem dX7_buy_54 : decode cX7_buy 54 = .ok (.aload_n 0, 1) := by decide +kernel
theorem dX7_buy_55 : decode cX7_buy 55 = .ok (.getfield 32, 3) := by decide +kernel
theorem dX7_buy_58 : decode cX7_buy 58 = .ok (.iconst 0, 1) := by decide +kernel
theorem dX7_buy_59 : decode cX7_buy 59 = .ok (.iload_n 1, 1) := by decide +kernel
theorem dX7_buy_60 : decode cX7_buy 60 = .ok (.iadd, 1) := by decide +kernel
theorem dX7_buy_61 : decode cX7_buy 61 = .ok (.iaload, 1) := by decide +kernel
theorem dX7_buy_62 : decode cX7_buy 62 = .ok (.ireturn, 1) := by decide +kernel
theorem dX7_hand_0 : decode cX7_hand 0 = .ok (.aload_n 0, 1) := by decide +kernel
theorem dX7_hand_1 : decode cX7_hand 1 = .ok (.iload_n 1, 1) := by decide +kernel
theorem dX7_hand_2 : decode cX7_hand 2 = .ok (.invokevirtual 140, 3) := by decide +kernel
theorem dX7_hand_5 : decode cX7_hand 5 = .ok (.ifCond .eq 16, 3) := by decide +kernel
theorem dX7_hand_8 : decode cX7_hand 8 = .ok (.aload_n 0, 1) := by decide +kernel
theorem dX7_hand_9 : decode cX7_hand 9 = .ok (.iload_n 2, 1) := by decide +kernel
theorem dX7_hand_10 : decode cX7_hand 10 = .ok (.invokevirtual 140, 3) := by decide +kernel
theorem dX7_hand_13 : decode cX7_hand 13 = .ok (.ifCond .eq 8, 3) := by decide +kernel
theorem dX7_hand_16 : decode cX7_hand 16 = .ok (.iload_n 1, 1) := by decide +kernel
theorem dX7_hand_17 : decode cX7_hand 17 = .ok (.iload_n 2, 1) := by decide +kernel
theorem dX7_hand_18 : decode cX7_hand 18 = .ok (.if_icmp .ne 5, 3) := by decide +kernel
theorem dX7_hand_21 : decode cX7_hand 21 = .ok (.iconst (-1), 1) := by decide +kernel
theorem dX7_hand_22 : decode cX7_hand 22 = .ok (.ireturn, 1) := by decide +kernel
theorem dX7_hand_23 : decode cX7_hand 23 = .ok (.aload_n 0, 1) := by decide +kernel
theorem dX7_hand_24 : decode cX7_hand 24 = .ok (.getfield 32, 3) := by decide +kernel
theorem dX7_hand_27 : decode cX7_hand 27 = .ok (.iconst 0, 1) := by decide +kernel
theorem dX7_hand_28 : decode cX7_hand 28 = .ok (.iload_n 1, 1) := by decide +kernel
theorem dX7_hand_29 : decode cX7_hand 29 = .ok (.iadd, 1) := by decide +kernel
theorem dX7_hand_30 : decode cX7_hand 30 = .ok (.iaload, 1) := by decide +kernel
theorem dX7_hand_31 : decode cX7_hand 31 = .ok (.ifCond .ne 6, 3) := by decide +kernel
theorem dX7_hand_34 : decode cX7_hand 34 = .ok (.bipush (-2), 2) := by decide +kernel
theorem dX7_hand_36 : decode cX7_hand 36 = .ok (.ireturn, 1) := by decide +kernel
theorem dX7_hand_37 : decode cX7_hand 37 = .ok (.aload_n 0, 1) := by decide +kernel
theorem dX7_hand_38 : decode cX7_hand 38 = .ok (.getfield 32, 3) := by decide +kernel
theorem dX7_hand_41 : decode cX7_hand 41 = .ok (.iconst 0, 1) := by decide +kernel
theorem dX7_hand_42 : decode cX7_hand 42 = .ok (.iload_n 2, 1) := by decide +kernel
theorem dX7_hand_43 : decode cX7_hand 43 = .ok (.iadd, 1) := by decide +kernel
theorem dX7_hand_44 : decode cX7_hand 44 = .ok (.iaload, 1) := by decide +kernel
theorem dX7_hand_45 : decode cX7_hand 45 = .ok (.bipush 9, 2) := by decide +kernel
theorem dX7_hand_47 : decode cX7_hand 47 = .ok (.if_icmp .ne 6, 3) := by decide +kernel
theorem dX7_hand_50 : decode cX7_hand 50 = .ok (.bipush (-3), 2) := by decide +kernel
theorem dX7_hand_52 : decode cX7_hand 52 = .ok (.ireturn, 1) := by decide +kernel
theorem dX7_hand_53 : decode cX7_hand 53 = .ok (.aload_n 0, 1) := by decide +kernel
theorem dX7_hand_54 : decode cX7_hand 54 = .ok (.invokevirtual 151, 3) := by decide +kernel
theorem dX7_hand_57 : decode cX7_hand 57 = .ok (.aload_n 0, 1) := by decide +kernel
theorem dX7_hand_58 : decode cX7_hand 58 = .ok (.getfield 32, 3) := by decide +kernel
theorem dX7_hand_61 : decode cX7_hand 61 = .ok (.iconst 0, 1) := by decide +kernel
theorem dX7_hand_62 : decode cX7_hand 62 = .ok (.iload_n 1, 1) := by decide +kernel
theorem dX7_hand_63 : decode cX7_hand 63 = .ok (.iadd, 1) := by decide +kernel
theorem dX7_hand_64 : decode cX7_hand 64 = .ok (.dup2, 1) := by decide +kernel
theorem dX7_hand_65 : decode cX7_hand 65 = .ok (.iaload, 1) := by decide +kernel
theorem dX7_hand_66 : decode cX7_hand 66 = .ok (.iconst 1, 1) := by decide +kernel
theorem dX7_hand_67 : decode cX7_hand 67 = .ok (.isub, 1) := by decide +kernel
theorem dX7_hand_68 : decode cX7_hand 68 = .ok (.iastore, 1) := by decide +kernel
theorem dX7_hand_69 : decode cX7_hand 69 = .ok (.aload_n 0, 1) := by decide +kernel
theorem dX7_hand_70 : decode cX7_hand 70 = .ok (.getfield 32, 3) := by decide +kernel
theorem dX7_hand_73 : decode cX7_hand 73 = .ok (.iconst 0, 1) := by decide +kernel
theorem dX7_hand_74 : decode cX7_hand 74 = .ok (.iload_n 2, 1) := by decide +kernel
theorem dX7_hand_75 : decode cX7_hand 75 = .ok (.iadd, 1) := by decide +kernel
theorem dX7_hand_76 : decode cX7_hand 76 = .ok (.dup2, 1) := by decide +kernel
theorem dX7_hand_77 : decode cX7_hand 77 = .ok (.iaload, 1) := by decide +kernel
theorem dX7_hand_78 : decode cX7_hand 78 = .ok (.iconst 1, 1) := by decide +kernel
theorem dX7_hand_79 : decode cX7_hand 79 = .ok (.iadd, 1) := by decide +kernel
theorem dX7_hand_80 : decode cX7_hand 80 = .ok (.iastore, 1) := by decide +kernel
theorem dX7_hand_81 : decode cX7_hand 81 = .ok (.aload_n 0, 1) := by decide +kernel
theorem dX7_hand_82 : decode cX7_hand 82 = .ok (.getfield 32, 3) := by decide +kernel
theorem dX7_hand_85 : decode cX7_hand 85 = .ok (.iconst 0, 1) := by decide +kernel
theorem dX7_hand_86 : decode cX7_hand 86 = .ok (.iload_n 2, 1) := by decide +kernel
theorem dX7_hand_87 : decode cX7_hand 87 = .ok (.iadd, 1) := by decide +kernel
theorem dX7_hand_88 : decode cX7_hand 88 = .ok (.iaload, 1) := by decide +kernel
theorem dX7_hand_89 : decode cX7_hand 89 = .ok (.ireturn, 1) := by decide +kernel
theorem dX7_swap_0 : decode cX7_swap 0 = .ok (.aload_n 0, 1) := by decide +kernel
theorem dX7_swap_1 : decode cX7_swap 1 = .ok (.iload_n 1, 1) := by decide +kernel
theorem dX7_swap_2 : decode cX7_swap 2 = .ok (.invokevirtual 144, 3) := by decide +kernel
theorem dX7_swap_5 : decode cX7_swap 5 = .ok (.ifCond .eq 16, 3) := by decide +kernel
theorem dX7_swap_8 : decode cX7_swap 8 = .ok (.aload_n 0, 1) := by decide +kernel
theorem dX7_swap_9 : decode cX7_swap 9 = .ok (.iload_n 2, 1) := by decide +kernel
theorem dX7_swap_10 : decode cX7_swap 10 = .ok (.invokevirtual 144, 3) := by decide +kernel
theorem dX7_swap_13 : decode cX7_swap 13 = .ok (.ifCond .eq 8, 3) := by decide +kernel
theorem dX7_swap_16 : decode cX7_swap 16 = .ok (.iload_n 1, 1) := by decide +kernel
theorem dX7_swap_17 : decode cX7_swap 17 = .ok (.iload_n 2, 1) := by decide +kernel
theorem dX7_swap_18 : decode cX7_swap 18 = .ok (.if_icmp .ne 5, 3) := by decide +kernel
theorem dX7_swap_21 : decode cX7_swap 21 = .ok (.iconst (-1), 1) := by decide +kernel
theorem dX7_swap_22 : decode cX7_swap 22 = .ok (.ireturn, 1) := by decide +kernel
theorem dX7_swap_23 : decode cX7_swap 23 = .ok (.aload_n 0, 1) := by decide +kernel
theorem dX7_swap_24 : decode cX7_swap 24 = .ok (.getfield 32, 3) := by decide +kernel
theorem dX7_swap_27 : decode cX7_swap 27 = .ok (.iconst 5, 1) := by decide +kernel
theorem dX7_swap_28 : decode cX7_swap 28 = .ok (.iload_n 1, 1) := by decide +kernel
theorem dX7_swap_29 : decode cX7_swap 29 = .ok (.iadd, 1) := by decide +kernel
theorem dX7_swap_30 : decode cX7_swap 30 = .ok (.iaload, 1) := by decide +kernel
theorem dX7_swap_31 : decode cX7_swap 31 = .ok (.istore_n 3, 1) := by decide +kernel
theorem dX7_swap_32 : decode cX7_swap 32 = .ok (.aload_n 0, 1) := by decide +kernel
theorem dX7_swap_33 : decode cX7_swap 33 = .ok (.getfield 32, 3) := by decide +kernel
theorem dX7_swap_36 : decode cX7_swap 36 = .ok (.iconst 5, 1) := by decide +kernel
theorem dX7_swap_37 : decode cX7_swap 37 = .ok (.iload_n 2, 1) := by decide +kernel
theorem dX7_swap_38 : decode cX7_swap 38 = .ok (.iadd, 1) := by decide +kernel
theorem dX7_swap_39 : decode cX7_swap 39 = .ok (.iaload, 1) := by decide +kernel
theorem dX7_swap_40 : decode cX7_swap 40 = .ok (.istore 4, 2) := by decide +kernel
theorem dX7_swap_42 : decode cX7_swap 42 = .ok (.iload_n 3, 1) := by decide +kernel
theorem dX7_swap_43 : decode cX7_swap 43 = .ok (.bipush (-4), 2) := by decide +kernel
theorem dX7_swap_45 : decode cX7_swap 45 = .ok (.if_icmp .eq 16, 3) := by decide +kernel
theorem dX7_swap_48 : decode cX7_swap 48 = .ok (.iload 4, 2) := by decide +kernel
theorem dX7_swap_50 : decode cX7_swap 50 = .ok (.bipush (-4), 2) := by decide +kernel
theorem dX7_swap_52 : decode cX7_swap 52 = .ok (.if_icmp .eq 9, 3) := by decide +kernel
theorem dX7_swap_55 : decode cX7_swap 55 = .ok (.iload_n 3, 1) := by decide +kernel
theorem dX7_swap_56 : decode cX7_swap 56 = .ok (.iload 4, 2) := by decide +kernel
theorem dX7_swap_58 : decode cX7_swap 58 = .ok (.if_icmp .ne 6, 3) := by decide +kernel
theorem dX7_swap_61 : decode cX7_swap 61 = .ok (.bipush (-2), 2) := by decide +kernel
theorem dX7_swap_63 : decode cX7_swap 63 = .ok (.ireturn, 1) := by decide +kernel
theorem dX7_swap_64 : decode cX7_swap 64 = .ok (.aload_n 0, 1) := by decide +kernel
theorem dX7_swap_65 : decode cX7_swap 65 = .ok (.invokevirtual 151, 3) := by decide +kernel
theorem dX7_swap_68 : decode cX7_swap 68 = .ok (.aload_n 0, 1) := by decide +kernel
theorem dX7_swap_69 : decode cX7_swap 69 = .ok (.getfield 32, 3) := by decide +kernel
theorem dX7_swap_72 : decode cX7_swap 72 = .ok (.iconst 5, 1) := by decide +kernel
theorem dX7_swap_73 : decode cX7_swap 73 = .ok (.iload_n 1, 1) := by decide +kernel
theorem dX7_swap_74 : decode cX7_swap 74 = .ok (.iadd, 1) := by decide +kernel
theorem dX7_swap_75 : decode cX7_swap 75 = .ok (.iload 4, 2) := by decide +kernel
theorem dX7_swap_77 : decode cX7_swap 77 = .ok (.iastore, 1) := by decide +kernel
theorem dX7_swap_78 : decode cX7_swap 78 = .ok (.aload_n 0, 1) := by decide +kernel
theorem dX7_swap_79 : decode cX7_swap 79 = .ok (.getfield 32, 3) := by decide +kernel
theorem dX7_swap_82 : decode cX7_swap 82 = .ok (.iconst 5, 1) := by decide +kernel
theorem dX7_swap_83 : decode cX7_swap 83 = .ok (.iload_n 2, 1) := by decide +kernel
theorem dX7_swap_84 : decode cX7_swap 84 = .ok (.iadd, 1) := by decide +kernel
theorem dX7_swap_85 : decode cX7_swap 85 = .ok (.iload_n 3, 1) := by decide +kernel
theorem dX7_swap_86 : decode cX7_swap 86 = .ok (.iastore, 1) := by decide +kernel
theorem dX7_swap_87 : decode cX7_swap 87 = .ok (.aload_n 0, 1) := by decide +kernel
theorem dX7_swap_88 : decode cX7_swap 88 = .ok (.getfield 32, 3) := by decide +kernel
theorem dX7_swap_91 : decode cX7_swap 91 = .ok (.iload_n 1, 1) := by decide +kernel
theorem dX7_swap_92 : decode cX7_swap 92 = .ok (.invokestatic 157, 3) := by decide +kernel
theorem dX7_swap_95 : decode cX7_swap 95 = .ok (.aload_n 0, 1) := by decide +kernel
theorem dX7_swap_96 : decode cX7_swap 96 = .ok (.getfield 32, 3) := by decide +kernel
theorem dX7_swap_99 : decode cX7_swap 99 = .ok (.iload_n 2, 1) := by decide +kernel
theorem dX7_swap_100 : decode cX7_swap 100 = .ok (.invokestatic 157, 3) := by decide +kernel
theorem dX7_swap_103 : decode cX7_swap 103 = .ok (.iload 4, 2) := by decide +kernel
theorem dX7_swap_105 : decode cX7_swap 105 = .ok (.ireturn, 1) := by decide +kernel
theorem dX7_give_0 : decode cX7_give 0 = .ok (.aload_n 0, 1) := by decide +kernel
theorem dX7_give_1 : decode cX7_give 1 = .ok (.iload_n 1, 1) := by decide +kernel
theorem dX7_give_2 : decode cX7_give 2 = .ok (.invokevirtual 144, 3) := by decide +kernel
theorem dX7_give_5 : decode cX7_give 5 = .ok (.ifCond .eq 11, 3) := by decide +kernel
theorem dX7_give_8 : decode cX7_give 8 = .ok (.aload_n 0, 1) := by decide +kernel
theorem dX7_give_9 : decode cX7_give 9 = .ok (.iload_n 2, 1) := by decide +kernel
theorem dX7_give_10 : decode cX7_give 10 = .ok (.invokevirtual 140, 3) := by decide +kernel
theorem dX7_give_13 : decode cX7_give 13 = .ok (.ifCond .ne 5, 3) := by decide +kernel
theorem dX7_give_16 : decode cX7_give 16 = .ok (.iconst (-1), 1) := by decide +kernel
theorem dX7_give_17 : decode cX7_give 17 = .ok (.ireturn, 1) := by decide +kernel
theorem dX7_give_18 : decode cX7_give 18 = .ok (.aload_n 0, 1) := by decide +kernel
theorem dX7_give_19 : decode cX7_give 19 = .ok (.getfield 32, 3) := by decide +kernel
theorem dX7_give_22 : decode cX7_give 22 = .ok (.iconst 5, 1) := by decide +kernel
theorem dX7_give_23 : decode cX7_give 23 = .ok (.iload_n 1, 1) := by decide +kernel
theorem dX7_give_24 : decode cX7_give 24 = .ok (.iadd, 1) := by decide +kernel
theorem dX7_give_25 : decode cX7_give 25 = .ok (.iaload, 1) := by decide +kernel
theorem dX7_give_26 : decode cX7_give 26 = .ok (.istore_n 3, 1) := by decide +kernel
theorem dX7_give_27 : decode cX7_give 27 = .ok (.iload_n 3, 1) := by decide +kernel
theorem dX7_give_28 : decode cX7_give 28 = .ok (.bipush (-4), 2) := by decide +kernel
theorem dX7_give_30 : decode cX7_give 30 = .ok (.if_icmp .eq 8, 3) := by decide +kernel
theorem dX7_give_33 : decode cX7_give 33 = .ok (.iload_n 3, 1) := by decide +kernel
theorem dX7_give_34 : decode cX7_give 34 = .ok (.iload_n 2, 1) := by decide +kernel
theorem dX7_give_35 : decode cX7_give 35 = .ok (.if_icmp .ne 6, 3) := by decide +kernel
theorem dX7_give_38 : decode cX7_give 38 = .ok (.bipush (-2), 2) := by decide +kernel
theorem dX7_give_40 : decode cX7_give 40 = .ok (.ireturn, 1) := by decide +kernel
theorem dX7_give_41 : decode cX7_give 41 = .ok (.aload_n 0, 1) := by decide +kernel
theorem dX7_give_42 : decode cX7_give 42 = .ok (.invokevirtual 151, 3) := by decide +kernel
theorem dX7_give_45 : decode cX7_give 45 = .ok (.aload_n 0, 1) := by decide +kernel
theorem dX7_give_46 : decode cX7_give 46 = .ok (.getfield 32, 3) := by decide +kernel
theorem dX7_give_49 : decode cX7_give 49 = .ok (.iconst 5, 1) := by decide +kernel
theorem dX7_give_50 : decode cX7_give 50 = .ok (.iload_n 1, 1) := by decide +kernel
theorem dX7_give_51 : decode cX7_give 51 = .ok (.iadd, 1) := by decide +kernel
theorem dX7_give_52 : decode cX7_give 52 = .ok (.iload_n 2, 1) := by decide +kernel
theorem dX7_give_53 : decode cX7_give 53 = .ok (.iastore, 1) := by decide +kernel
theorem dX7_give_54 : decode cX7_give 54 = .ok (.aload_n 0, 1) := by decide +kernel
theorem dX7_give_55 : decode cX7_give 55 = .ok (.getfield 32, 3) := by decide +kernel
theorem dX7_give_58 : decode cX7_give 58 = .ok (.iload_n 1, 1) := by decide +kernel
theorem dX7_give_59 : decode cX7_give 59 = .ok (.invokestatic 157, 3) := by decide +kernel
theorem dX7_give_62 : decode cX7_give 62 = .ok (.iload_n 3, 1) := by decide +kernel
theorem dX7_give_63 : decode cX7_give 63 = .ok (.ireturn, 1) := by decide +kernel
theorem dX7_undo_0 : decode cX7_undo 0 = .ok (.aload_n 0, 1) := by decide +kernel
theorem dX7_undo_1 : decode cX7_undo 1 = .ok (.getfield 120, 3) := by decide +kernel
theorem dX7_undo_4 : decode cX7_undo 4 = .ok (.ifCond .ne 6, 3) := by decide +kernel
theorem dX7_undo_7 : decode cX7_undo 7 = .ok (.bipush (-2), 2) := by decide +kernel
theorem dX7_undo_9 : decode cX7_undo 9 = .ok (.ireturn, 1) := by decide +kernel
theorem dX7_undo_10 : decode cX7_undo 10 = .ok (.aload_n 0, 1) := by decide +kernel
theorem dX7_undo_11 : decode cX7_undo 11 = .ok (.dup, 1) := by decide +kernel
theorem dX7_undo_12 : decode cX7_undo 12 = .ok (.getfield 120, 3) := by decide +kernel
theorem dX7_undo_15 : decode cX7_undo 15 = .ok (.iconst 1, 1) := by decide +kernel
theorem dX7_undo_16 : decode cX7_undo 16 = .ok (.isub, 1) := by decide +kernel
theorem dX7_undo_17 : decode cX7_undo 17 = .ok (.putfield 120, 3) := by decide +kernel
theorem dX7_undo_20 : decode cX7_undo 20 = .ok (.iconst 0, 1) := by decide +kernel
theorem dX7_undo_21 : decode cX7_undo 21 = .ok (.istore_n 1, 1) := by decide +kernel
theorem dX7_undo_22 : decode cX7_undo 22 = .ok (.iload_n 1, 1) := by decide +kernel
theorem dX7_undo_23 : decode cX7_undo 23 = .ok (.bipush 14, 2) := by decide +kernel
theorem dX7_undo_25 : decode cX7_undo 25 = .ok (.if_icmp .ge 29, 3) := by decide +kernel
theorem dX7_undo_28 : decode cX7_undo 28 = .ok (.aload_n 0, 1) := by decide +kernel
theorem dX7_undo_29 : decode cX7_undo 29 = .ok (.getfield 32, 3) := by decide +kernel
theorem dX7_undo_32 : decode cX7_undo 32 = .ok (.iload_n 1, 1) := by decide +kernel
theorem dX7_undo_33 : decode cX7_undo 33 = .ok (.aload_n 0, 1) := by decide +kernel
theorem dX7_undo_34 : decode cX7_undo 34 = .ok (.getfield 35, 3) := by decide +kernel
theorem dX7_undo_37 : decode cX7_undo 37 = .ok (.bipush 14, 2) := by decide +kernel
theorem dX7_undo_39 : decode cX7_undo 39 = .ok (.aload_n 0, 1) := by decide +kernel
theorem dX7_undo_40 : decode cX7_undo 40 = .ok (.getfield 120, 3) := by decide +kernel
theorem dX7_undo_43 : decode cX7_undo 43 = .ok (.imul, 1) := by decide +kernel
theorem dX7_undo_44 : decode cX7_undo 44 = .ok (.iload_n 1, 1) := by decide +kernel
theorem dX7_undo_45 : decode cX7_undo 45 = .ok (.iadd, 1) := by decide +kernel
theorem dX7_undo_46 : decode cX7_undo 46 = .ok (.iaload, 1) := by decide +kernel
theorem dX7_undo_47 : decode cX7_undo 47 = .ok (.iastore, 1) := by decide +kernel
theorem dX7_undo_48 : decode cX7_undo 48 = .ok (.iinc 1 1, 3) := by decide +kernel
theorem dX7_undo_51 : decode cX7_undo 51 = .ok (.goto (-29), 3) := by decide +kernel
theorem dX7_undo_54 : decode cX7_undo 54 = .ok (.aload_n 0, 1) := by decide +kernel
theorem dX7_undo_55 : decode cX7_undo 55 = .ok (.getfield 120, 3) := by decide +kernel
theorem dX7_undo_58 : decode cX7_undo 58 = .ok (.ireturn, 1) := by decide +kernel
theorem dX7_common_0 : decode cX7_common 0 = .ok (.lload_n 0, 1) := by decide +kernel
theorem dX7_common_1 : decode cX7_common 1 = .ok (.lstore 4, 2) := by decide +kernel
theorem dX7_common_3 : decode cX7_common 3 = .ok (.lload_n 2, 1) := by decide +kernel
theorem dX7_common_4 : decode cX7_common 4 = .ok (.lstore 6, 2) := by decide +kernel
theorem dX7_common_6 : decode cX7_common 6 = .ok (.lload 6, 2) := by decide +kernel
theorem dX7_common_8 : decode cX7_common 8 = .ok (.lconst 0, 1) := by decide +kernel
theorem dX7_common_9 : decode cX7_common 9 = .ok (.lcmp, 1) := by decide +kernel
theorem dX7_common_10 : decode cX7_common 10 = .ok (.ifCond .eq 21, 3) := by decide +kernel
theorem dX7_common_13 : decode cX7_common 13 = .ok (.lload 4, 2) := by decide +kernel
theorem dX7_common_15 : decode cX7_common 15 = .ok (.lload 6, 2) := by decide +kernel
theorem dX7_common_17 : decode cX7_common 17 = .ok (.lrem, 1) := by decide +kernel
theorem dX7_common_18 : decode cX7_common 18 = .ok (.lstore 8, 2) := by decide +kernel
theorem dX7_common_20 : decode cX7_common 20 = .ok (.lload 6, 2) := by decide +kernel
theorem dX7_common_22 : decode cX7_common 22 = .ok (.lstore 4, 2) := by decide +kernel
theorem dX7_common_24 : decode cX7_common 24 = .ok (.lload 8, 2) := by decide +kernel
theorem dX7_common_26 : decode cX7_common 26 = .ok (.lstore 6, 2) := by decide +kernel
theorem dX7_common_28 : decode cX7_common 28 = .ok (.goto (-22), 3) := by decide +kernel
theorem dX7_common_31 : decode cX7_common 31 = .ok (.lload 4, 2) := by decide +kernel
theorem dX7_common_33 : decode cX7_common 33 = .ok (.lreturn, 1) := by decide +kernel
theorem dX7_rows_0 : decode cX7_rows 0 = .ok (.lconst 1, 1) := by decide +kernel
theorem dX7_rows_1 : decode cX7_rows 1 = .ok (.lstore_n 2, 1) := by decide +kernel
theorem dX7_rows_2 : decode cX7_rows 2 = .ok (.iconst 0, 1) := by decide +kernel
theorem dX7_rows_3 : decode cX7_rows 3 = .ok (.istore 4, 2) := by decide +kernel
theorem dX7_rows_5 : decode cX7_rows 5 = .ok (.iload 4, 2) := by decide +kernel
theorem dX7_rows_7 : decode cX7_rows 7 = .ok (.iload_n 1, 1) := by decide +kernel
theorem dX7_rows_8 : decode cX7_rows 8 = .ok (.if_icmp .ge 27, 3) := by decide +kernel
theorem dX7_rows_11 : decode cX7_rows 11 = .ok (.lload_n 2, 1) := by decide +kernel
theorem dX7_rows_12 : decode cX7_rows 12 = .ok (.iload_n 0, 1) := by decide +kernel
theorem dX7_rows_13 : decode cX7_rows 13 = .ok (.iload 4, 2) := by decide +kernel
theorem dX7_rows_15 : decode cX7_rows 15 = .ok (.if_icmp .le 11, 3) := by decide +kernel
theorem dX7_rows_18 : decode cX7_rows 18 = .ok (.iload_n 0, 1) := by decide +kernel
theorem dX7_rows_19 : decode cX7_rows 19 = .ok (.iload 4, 2) := by decide +kernel
theorem dX7_rows_21 : decode cX7_rows 21 = .ok (.isub, 1) := by decide +kernel
theorem dX7_rows_22 : decode cX7_rows 22 = .ok (.i2l, 1) := by decide +kernel
theorem dX7_rows_23 : decode cX7_rows 23 = .ok (.goto 4, 3) := by decide +kernel
theorem dX7_rows_26 : decode cX7_rows 26 = .ok (.lconst 0, 1) := by decide +kernel
theorem dX7_rows_27 : decode cX7_rows 27 = .ok (.lmul, 1) := by decide +kernel
theorem dX7_rows_28 : decode cX7_rows 28 = .ok (.lstore_n 2, 1) := by decide +kernel
theorem dX7_rows_29 : decode cX7_rows 29 = .ok (.iinc 4 1, 3) := by decide +kernel
theorem dX7_rows_32 : decode cX7_rows 32 = .ok (.goto (-27), 3) := by decide +kernel
theorem dX7_rows_35 : decode cX7_rows 35 = .ok (.lload_n 2, 1) := by decide +kernel
theorem dX7_rows_36 : decode cX7_rows 36 = .ok (.lreturn, 1) := by decide +kernel
theorem dX7_drawn_0 : decode cX7_drawn 0 = .ok (.aload_n 0, 1) := by decide +kernel
theorem dX7_drawn_1 : decode cX7_drawn 1 = .ok (.getfield 17, 3) := by decide +kernel
theorem dX7_drawn_4 : decode cX7_drawn 4 = .ok (.iconst 0, 1) := by decide +kernel
theorem dX7_drawn_5 : decode cX7_drawn 5 = .ok (.iaload, 1) := by decide +kernel
theorem dX7_drawn_6 : decode cX7_drawn 6 = .ok (.aload_n 0, 1) := by decide +kernel
theorem dX7_drawn_7 : decode cX7_drawn 7 = .ok (.getfield 32, 3) := by decide +kernel
theorem dX7_drawn_10 : decode cX7_drawn 10 = .ok (.bipush 11, 2) := by decide +kernel
theorem dX7_drawn_12 : decode cX7_drawn 12 = .ok (.iaload, 1) := by decide +kernel
theorem dX7_drawn_13 : decode cX7_drawn 13 = .ok (.isub, 1) := by decide +kernel
theorem dX7_drawn_14 : decode cX7_drawn 14 = .ok (.istore_n 3, 1) := by decide +kernel
theorem dX7_drawn_15 : decode cX7_drawn 15 = .ok (.iload_n 1, 1) := by decide +kernel
theorem dX7_drawn_16 : decode cX7_drawn 16 = .ok (.iload_n 3, 1) := by decide +kernel
theorem dX7_drawn_17 : decode cX7_drawn 17 = .ok (.if_icmp .ge 7, 3) := by decide +kernel
theorem dX7_drawn_20 : decode cX7_drawn 20 = .ok (.iload_n 1, 1) := by decide +kernel
theorem dX7_drawn_21 : decode cX7_drawn 21 = .ok (.goto 4, 3) := by decide +kernel
theorem dX7_drawn_24 : decode cX7_drawn 24 = .ok (.iload_n 3, 1) := by decide +kernel
theorem dX7_drawn_25 : decode cX7_drawn 25 = .ok (.istore_n 3, 1) := by decide +kernel
theorem dX7_drawn_26 : decode cX7_drawn 26 = .ok (.iload_n 2, 1) := by decide +kernel
theorem dX7_drawn_27 : decode cX7_drawn 27 = .ok (.iload_n 3, 1) := by decide +kernel
theorem dX7_drawn_28 : decode cX7_drawn 28 = .ok (.if_icmp .ge 7, 3) := by decide +kernel
theorem dX7_drawn_31 : decode cX7_drawn 31 = .ok (.iload_n 2, 1) := by decide +kernel
theorem dX7_drawn_32 : decode cX7_drawn 32 = .ok (.goto 4, 3) := by decide +kernel
theorem dX7_drawn_35 : decode cX7_drawn 35 = .ok (.iload_n 3, 1) := by decide +kernel
theorem dX7_drawn_36 : decode cX7_drawn 36 = .ok (.ireturn, 1) := by decide +kernel
theorem dX7_wins_0 : decode cX7_wins 0 = .ok (.aload_n 0, 1) := by decide +kernel
theorem dX7_wins_1 : decode cX7_wins 1 = .ok (.iload_n 1, 1) := by decide +kernel
theorem dX7_wins_2 : decode cX7_wins 2 = .ok (.invokevirtual 140, 3) := by decide +kernel
theorem dX7_wins_5 : decode cX7_wins 5 = .ok (.ifCond .eq 22, 3) := by decide +kernel
theorem dX7_wins_8 : decode cX7_wins 8 = .ok (.iload_n 2, 1) := by decide +kernel
theorem dX7_wins_9 : decode cX7_wins 9 = .ok (.iconst 1, 1) := by decide +kernel
theorem dX7_wins_10 : decode cX7_wins 10 = .ok (.bipush 6, 2) := by decide +kernel
theorem dX7_wins_12 : decode cX7_wins 12 = .ok (.invokestatic 60, 3) := by decide +kernel
theorem dX7_wins_15 : decode cX7_wins 15 = .ok (.ifCond .eq 12, 3) := by decide +kernel
theorem dX7_wins_18 : decode cX7_wins 18 = .ok (.iload_n 3, 1) := by decide +kernel
theorem dX7_wins_19 : decode cX7_wins 19 = .ok (.iconst 0, 1) := by decide +kernel
theorem dX7_wins_20 : decode cX7_wins 20 = .ok (.iconst 1, 1) := by decide +kernel
theorem dX7_wins_21 : decode cX7_wins 21 = .ok (.invokestatic 60, 3) := by decide +kernel
theorem dX7_wins_24 : decode cX7_wins 24 = .ok (.ifCond .ne 5, 3) := by decide +kernel
theorem dX7_wins_27 : decode cX7_wins 27 = .ok (.iconst (-1), 1) := by decide +kernel
theorem dX7_wins_28 : decode cX7_wins 28 = .ok (.ireturn, 1) := by decide +kernel
theorem dX7_wins_29 : decode cX7_wins 29 = .ok (.aload_n 0, 1) := by decide +kernel
theorem dX7_wins_30 : decode cX7_wins 30 = .ok (.getfield 32, 3) := by decide +kernel
theorem dX7_wins_33 : decode cX7_wins 33 = .ok (.invokestatic 147, 3) := by decide +kernel
theorem dX7_wins_36 : decode cX7_wins 36 = .ok (.istore 4, 2) := by decide +kernel
theorem dX7_wins_38 : decode cX7_wins 38 = .ok (.aload_n 0, 1) := by decide +kernel
theorem dX7_wins_39 : decode cX7_wins 39 = .ok (.iload_n 2, 1) := by decide +kernel
theorem dX7_wins_40 : decode cX7_wins 40 = .ok (.iload 4, 2) := by decide +kernel
theorem dX7_wins_42 : decode cX7_wins 42 = .ok (.invokevirtual 161, 3) := by decide +kernel
theorem dX7_wins_45 : decode cX7_wins 45 = .ok (.istore 5, 2) := by decide +kernel
theorem dX7_wins_47 : decode cX7_wins 47 = .ok (.iload 4, 2) := by decide +kernel
theorem dX7_wins_49 : decode cX7_wins 49 = .ok (.iload 5, 2) := by decide +kernel
theorem dX7_wins_51 : decode cX7_wins 51 = .ok (.invokestatic 164, 3) := by decide +kernel
theorem dX7_wins_54 : decode cX7_wins 54 = .ok (.lstore 6, 2) := by decide +kernel
theorem dX7_wins_56 : decode cX7_wins 56 = .ok (.lload 6, 2) := by decide +kernel
theorem dX7_wins_58 : decode cX7_wins 58 = .ok (.iload 4, 2) := by decide +kernel
theorem dX7_wins_60 : decode cX7_wins 60 = .ok (.aload_n 0, 1) := by decide +kernel
theorem dX7_wins_61 : decode cX7_wins 61 = .ok (.getfield 32, 3) := by decide +kernel
theorem dX7_wins_64 : decode cX7_wins 64 = .ok (.iconst 0, 1) := by decide +kernel
theorem dX7_wins_65 : decode cX7_wins 65 = .ok (.iload_n 1, 1) := by decide +kernel
theorem dX7_wins_66 : decode cX7_wins 66 = .ok (.iadd, 1) := by decide +kernel
theorem dX7_wins_67 : decode cX7_wins 67 = .ok (.iaload, 1) := by decide +kernel
theorem dX7_wins_68 : decode cX7_wins 68 = .ok (.isub, 1) := by decide +kernel
theorem dX7_wins_69 : decode cX7_wins 69 = .ok (.iload 5, 2) := by decide +kernel
theorem dX7_wins_71 : decode cX7_wins 71 = .ok (.invokestatic 164, 3) := by decide +kernel
theorem dX7_wins_74 : decode cX7_wins 74 = .ok (.lsub, 1) := by decide +kernel
theorem dX7_wins_75 : decode cX7_wins 75 = .ok (.lstore 8, 2) := by decide +kernel
theorem dX7_wins_77 : decode cX7_wins 77 = .ok (.lload 8, 2) := by decide +kernel
theorem dX7_wins_79 : decode cX7_wins 79 = .ok (.lload 6, 2) := by decide +kernel
theorem dX7_wins_81 : decode cX7_wins 81 = .ok (.invokestatic 168, 3) := by decide +kernel
theorem dX7_wins_84 : decode cX7_wins 84 = .ok (.lstore 10, 2) := by decide +kernel
theorem dX7_wins_86 : decode cX7_wins 86 = .ok (.iload_n 3, 1) := by decide +kernel
theorem dX7_wins_87 : decode cX7_wins 87 = .ok (.ifCond .ne 11, 3) := by decide +kernel
theorem dX7_wins_90 : decode cX7_wins 90 = .ok (.lload 8, 2) := by decide +kernel
theorem dX7_wins_92 : decode cX7_wins 92 = .ok (.lload 10, 2) := by decide +kernel
theorem dX7_wins_94 : decode cX7_wins 94 = .ok (.ldiv, 1) := by decide +kernel
theorem dX7_wins_95 : decode cX7_wins 95 = .ok (.goto 8, 3) := by decide +kernel
theorem dX7_wins_98 : decode cX7_wins 98 = .ok (.lload 6, 2) := by decide +kernel
theorem dX7_wins_100 : decode cX7_wins 100 = .ok (.lload 10, 2) := by decide +kernel
theorem dX7_wins_102 : decode cX7_wins 102 = .ok (.ldiv, 1) := by decide +kernel
theorem dX7_wins_103 : decode cX7_wins 103 = .ok (.l2i, 1) := by decide +kernel
theorem dX7_wins_104 : decode cX7_wins 104 = .ok (.ireturn, 1) := by decide +kernel
theorem dX7_mean_0 : decode cX7_mean 0 = .ok (.aload_n 0, 1) := by decide +kernel
theorem dX7_mean_1 : decode cX7_mean 1 = .ok (.iload_n 1, 1) := by decide +kernel
theorem dX7_mean_2 : decode cX7_mean 2 = .ok (.invokevirtual 140, 3) := by decide +kernel
theorem dX7_mean_5 : decode cX7_mean 5 = .ok (.ifCond .eq 12, 3) := by decide +kernel
theorem dX7_mean_8 : decode cX7_mean 8 = .ok (.iload_n 2, 1) := by decide +kernel
theorem dX7_mean_9 : decode cX7_mean 9 = .ok (.iconst 0, 1) := by decide +kernel
theorem dX7_mean_10 : decode cX7_mean 10 = .ok (.iconst 1, 1) := by decide +kernel
theorem dX7_mean_11 : decode cX7_mean 11 = .ok (.invokestatic 60, 3) := by decide +kernel
theorem dX7_mean_14 : decode cX7_mean 14 = .ok (.ifCond .ne 7, 3) := by decide +kernel
theorem dX7_mean_17 : decode cX7_mean 17 = .ok (.ldc2_w 172, 3) := by decide +kernel
theorem dX7_mean_20 : decode cX7_mean 20 = .ok (.lreturn, 1) := by decide +kernel
theorem dX7_mean_21 : decode cX7_mean 21 = .ok (.aload_n 0, 1) := by decide +kernel
theorem dX7_mean_22 : decode cX7_mean 22 = .ok (.getfield 32, 3) := by decide +kernel
theorem dX7_mean_25 : decode cX7_mean 25 = .ok (.invokestatic 147, 3) := by decide +kernel
theorem dX7_mean_28 : decode cX7_mean 28 = .ok (.istore_n 3, 1) := by decide +kernel
theorem dX7_mean_29 : decode cX7_mean 29 = .ok (.aload_n 0, 1) := by decide +kernel
theorem dX7_mean_30 : decode cX7_mean 30 = .ok (.getfield 32, 3) := by decide +kernel
theorem dX7_mean_33 : decode cX7_mean 33 = .ok (.iconst 0, 1) := by decide +kernel
theorem dX7_mean_34 : decode cX7_mean 34 = .ok (.iload_n 1, 1) := by decide +kernel
theorem dX7_mean_35 : decode cX7_mean 35 = .ok (.iadd, 1) := by decide +kernel
theorem dX7_mean_36 : decode cX7_mean 36 = .ok (.iaload, 1) := by decide +kernel
theorem dX7_mean_37 : decode cX7_mean 37 = .ok (.istore 4, 2) := by decide +kernel
theorem dX7_mean_39 : decode cX7_mean 39 = .ok (.aload_n 0, 1) := by decide +kernel
theorem dX7_mean_40 : decode cX7_mean 40 = .ok (.bipush 6, 2) := by decide +kernel
theorem dX7_mean_42 : decode cX7_mean 42 = .ok (.iload_n 3, 1) := by decide +kernel
theorem dX7_mean_43 : decode cX7_mean 43 = .ok (.invokevirtual 161, 3) := by decide +kernel
theorem dX7_mean_46 : decode cX7_mean 46 = .ok (.istore 5, 2) := by decide +kernel
theorem dX7_mean_48 : decode cX7_mean 48 = .ok (.iload_n 3, 1) := by decide +kernel
theorem dX7_mean_49 : decode cX7_mean 49 = .ok (.iload 5, 2) := by decide +kernel
theorem dX7_mean_51 : decode cX7_mean 51 = .ok (.invokestatic 164, 3) := by decide +kernel
theorem dX7_mean_54 : decode cX7_mean 54 = .ok (.lstore 6, 2) := by decide +kernel
theorem dX7_mean_56 : decode cX7_mean 56 = .ok (.lconst 0, 1) := by decide +kernel
theorem dX7_mean_57 : decode cX7_mean 57 = .ok (.lstore 8, 2) := by decide +kernel
theorem dX7_mean_59 : decode cX7_mean 59 = .ok (.iconst 0, 1) := by decide +kernel
theorem dX7_mean_60 : decode cX7_mean 60 = .ok (.istore 10, 2) := by decide +kernel
theorem dX7_mean_62 : decode cX7_mean 62 = .ok (.iload 10, 2) := by decide +kernel
theorem dX7_mean_64 : decode cX7_mean 64 = .ok (.iconst 1, 1) := by decide +kernel
theorem dX7_mean_65 : decode cX7_mean 65 = .ok (.iload 5, 2) := by decide +kernel
theorem dX7_mean_67 : decode cX7_mean 67 = .ok (.ishl, 1) := by decide +kernel
theorem dX7_mean_68 : decode cX7_mean 68 = .ok (.if_icmp .ge 75, 3) := by decide +kernel
theorem dX7_mean_71 : decode cX7_mean 71 = .ok (.iload 4, 2) := by decide +kernel
theorem dX7_mean_73 : decode cX7_mean 73 = .ok (.iload 10, 2) := by decide +kernel
theorem dX7_mean_75 : decode cX7_mean 75 = .ok (.invokestatic 174, 3) := by decide +kernel
theorem dX7_mean_78 : decode cX7_mean 78 = .ok (.invokestatic 164, 3) := by decide +kernel
theorem dX7_mean_81 : decode cX7_mean 81 = .ok (.iload_n 3, 1) := by decide +kernel
theorem dX7_mean_82 : decode cX7_mean 82 = .ok (.iload 4, 2) := by decide +kernel
theorem dX7_mean_84 : decode cX7_mean 84 = .ok (.isub, 1) := by decide +kernel
theorem dX7_mean_85 : decode cX7_mean 85 = .ok (.iload 5, 2) := by decide +kernel
theorem dX7_mean_87 : decode cX7_mean 87 = .ok (.iload 10, 2) := by decide +kernel
theorem dX7_mean_89 : decode cX7_mean 89 = .ok (.invokestatic 174, 3) := by decide +kernel
theorem dX7_mean_92 : decode cX7_mean 92 = .ok (.isub, 1) := by decide +kernel
theorem dX7_mean_93 : decode cX7_mean 93 = .ok (.invokestatic 164, 3) := by decide +kernel
theorem dX7_mean_96 : decode cX7_mean 96 = .ok (.lmul, 1) := by decide +kernel
theorem dX7_mean_97 : decode cX7_mean 97 = .ok (.lstore 11, 2) := by decide +kernel
theorem dX7_mean_99 : decode cX7_mean 99 = .ok (.lload 8, 2) := by decide +kernel
theorem dX7_mean_101 : decode cX7_mean 101 = .ok (.lload 11, 2) := by decide +kernel
theorem dX7_mean_103 : decode cX7_mean 103 = .ok (.aload_n 0, 1) := by decide +kernel
theorem dX7_mean_104 : decode cX7_mean 104 = .ok (.iload_n 1, 1) := by decide +kernel
theorem dX7_mean_105 : decode cX7_mean 105 = .ok (.aload_n 0, 1) := by decide +kernel
theorem dX7_mean_106 : decode cX7_mean 106 = .ok (.aload_n 0, 1) := by decide +kernel
theorem dX7_mean_107 : decode cX7_mean 107 = .ok (.getfield 32, 3) := by decide +kernel
theorem dX7_mean_110 : decode cX7_mean 110 = .ok (.iload_n 1, 1) := by decide +kernel
theorem dX7_mean_111 : decode cX7_mean 111 = .ok (.invokevirtual 133, 3) := by decide +kernel
theorem dX7_mean_114 : decode cX7_mean 114 = .ok (.iload 10, 2) := by decide +kernel
theorem dX7_mean_116 : decode cX7_mean 116 = .ok (.aload_n 0, 1) := by decide +kernel
theorem dX7_mean_117 : decode cX7_mean 117 = .ok (.getfield 32, 3) := by decide +kernel
theorem dX7_mean_120 : decode cX7_mean 120 = .ok (.bipush 11, 2) := by decide +kernel
theorem dX7_mean_122 : decode cX7_mean 122 = .ok (.iaload, 1) := by decide +kernel
theorem dX7_mean_123 : decode cX7_mean 123 = .ok (.ishl, 1) := by decide +kernel
theorem dX7_mean_124 : decode cX7_mean 124 = .ok (.ior, 1) := by decide +kernel
theorem dX7_mean_125 : decode cX7_mean 125 = .ok (.invokevirtual 137, 3) := by decide +kernel
theorem dX7_mean_128 : decode cX7_mean 128 = .ok (.sipush 1000, 3) := by decide +kernel
theorem dX7_mean_131 : decode cX7_mean 131 = .ok (.iadd, 1) := by decide +kernel
theorem dX7_mean_132 : decode cX7_mean 132 = .ok (.i2l, 1) := by decide +kernel
theorem dX7_mean_133 : decode cX7_mean 133 = .ok (.lmul, 1) := by decide +kernel
theorem dX7_mean_134 : decode cX7_mean 134 = .ok (.ladd, 1) := by decide +kernel
theorem dX7_mean_135 : decode cX7_mean 135 = .ok (.lstore 8, 2) := by decide +kernel
theorem dX7_mean_137 : decode cX7_mean 137 = .ok (.iinc 10 1, 3) := by decide +kernel
theorem dX7_mean_140 : decode cX7_mean 140 = .ok (.goto (-78), 3) := by decide +kernel
theorem dX7_mean_143 : decode cX7_mean 143 = .ok (.lload 8, 2) := by decide +kernel
theorem dX7_mean_145 : decode cX7_mean 145 = .ok (.lload 6, 2) := by decide +kernel
theorem dX7_mean_147 : decode cX7_mean 147 = .ok (.invokestatic 168, 3) := by decide +kernel
theorem dX7_mean_150 : decode cX7_mean 150 = .ok (.lstore 10, 2) := by decide +kernel
theorem dX7_mean_152 : decode cX7_mean 152 = .ok (.iload_n 2, 1) := by decide +kernel
theorem dX7_mean_153 : decode cX7_mean 153 = .ok (.ifCond .ne 11, 3) := by decide +kernel
theorem dX7_mean_156 : decode cX7_mean 156 = .ok (.lload 8, 2) := by decide +kernel
theorem dX7_mean_158 : decode cX7_mean 158 = .ok (.lload 10, 2) := by decide +kernel
theorem dX7_mean_160 : decode cX7_mean 160 = .ok (.ldiv, 1) := by decide +kernel
theorem dX7_mean_161 : decode cX7_mean 161 = .ok (.goto 8, 3) := by decide +kernel
theorem dX7_mean_164 : decode cX7_mean 164 = .ok (.lload 6, 2) := by decide +kernel
theorem dX7_mean_166 : decode cX7_mean 166 = .ok (.lload 10, 2) := by decide +kernel
theorem dX7_mean_168 : decode cX7_mean 168 = .ok (.ldiv, 1) := by decide +kernel
theorem dX7_mean_169 : decode cX7_mean 169 = .ok (.lreturn, 1) := by decide +kernel
theorem dX7_needs_0 : decode cX7_needs 0 = .ok (.aload_n 0, 1) := by decide +kernel
theorem dX7_needs_1 : decode cX7_needs 1 = .ok (.iload_n 1, 1) := by decide +kernel
theorem dX7_needs_2 : decode cX7_needs 2 = .ok (.invokevirtual 140, 3) := by decide +kernel
theorem dX7_needs_5 : decode cX7_needs 5 = .ok (.ifCond .eq 23, 3) := by decide +kernel
theorem dX7_needs_8 : decode cX7_needs 8 = .ok (.iload_n 2, 1) := by decide +kernel
theorem dX7_needs_9 : decode cX7_needs 9 = .ok (.iconst 1, 1) := by decide +kernel
theorem dX7_needs_10 : decode cX7_needs 10 = .ok (.bipush 6, 2) := by decide +kernel
theorem dX7_needs_12 : decode cX7_needs 12 = .ok (.invokestatic 60, 3) := by decide +kernel
theorem dX7_needs_15 : decode cX7_needs 15 = .ok (.ifCond .eq 13, 3) := by decide +kernel
theorem dX7_needs_18 : decode cX7_needs 18 = .ok (.iload_n 3, 1) := by decide +kernel
theorem dX7_needs_19 : decode cX7_needs 19 = .ok (.iconst 1, 1) := by decide +kernel
theorem dX7_needs_20 : decode cX7_needs 20 = .ok (.bipush 10, 2) := by decide +kernel
theorem dX7_needs_22 : decode cX7_needs 22 = .ok (.invokestatic 60, 3) := by decide +kernel
theorem dX7_needs_25 : decode cX7_needs 25 = .ok (.ifCond .ne 5, 3) := by decide +kernel
theorem dX7_needs_28 : decode cX7_needs 28 = .ok (.iconst (-1), 1) := by decide +kernel
theorem dX7_needs_29 : decode cX7_needs 29 = .ok (.ireturn, 1) := by decide +kernel
theorem dX7_needs_30 : decode cX7_needs 30 = .ok (.aload_n 0, 1) := by decide +kernel
theorem dX7_needs_31 : decode cX7_needs 31 = .ok (.getfield 32, 3) := by decide +kernel
theorem dX7_needs_34 : decode cX7_needs 34 = .ok (.invokestatic 147, 3) := by decide +kernel
theorem dX7_needs_37 : decode cX7_needs 37 = .ok (.aload_n 0, 1) := by decide +kernel
theorem dX7_needs_38 : decode cX7_needs 38 = .ok (.getfield 32, 3) := by decide +kernel
theorem dX7_needs_41 : decode cX7_needs 41 = .ok (.iconst 0, 1) := by decide +kernel
theorem dX7_needs_42 : decode cX7_needs 42 = .ok (.iload_n 1, 1) := by decide +kernel
theorem dX7_needs_43 : decode cX7_needs 43 = .ok (.iadd, 1) := by decide +kernel
theorem dX7_needs_44 : decode cX7_needs 44 = .ok (.iaload, 1) := by decide +kernel
theorem dX7_needs_45 : decode cX7_needs 45 = .ok (.isub, 1) := by decide +kernel
theorem dX7_needs_46 : decode cX7_needs 46 = .ok (.istore 4, 2) := by decide +kernel
theorem dX7_needs_48 : decode cX7_needs 48 = .ok (.iconst 0, 1) := by decide +kernel
theorem dX7_needs_49 : decode cX7_needs 49 = .ok (.istore 5, 2) := by decide +kernel
theorem dX7_needs_51 : decode cX7_needs 51 = .ok (.iload 5, 2) := by decide +kernel
theorem dX7_needs_53 : decode cX7_needs 53 = .ok (.bipush 9, 2) := by decide +kernel
theorem dX7_needs_55 : decode cX7_needs 55 = .ok (.if_icmp .gt 59, 3) := by decide +kernel
theorem dX7_needs_58 : decode cX7_needs 58 = .ok (.aload_n 0, 1) := by decide +kernel
theorem dX7_needs_59 : decode cX7_needs 59 = .ok (.iload_n 2, 1) := by decide +kernel
theorem dX7_needs_60 : decode cX7_needs 60 = .ok (.iload 4, 2) := by decide +kernel
theorem dX7_needs_62 : decode cX7_needs 62 = .ok (.iload 5, 2) := by decide +kernel
theorem dX7_needs_64 : decode cX7_needs 64 = .ok (.iadd, 1) := by decide +kernel
theorem dX7_needs_65 : decode cX7_needs 65 = .ok (.invokevirtual 161, 3) := by decide +kernel
theorem dX7_needs_68 : decode cX7_needs 68 = .ok (.istore 6, 2) := by decide +kernel
theorem dX7_needs_70 : decode cX7_needs 70 = .ok (.iload 4, 2) := by decide +kernel
theorem dX7_needs_72 : decode cX7_needs 72 = .ok (.iload 5, 2) := by decide +kernel
theorem dX7_needs_74 : decode cX7_needs 74 = .ok (.iadd, 1) := by decide +kernel
theorem dX7_needs_75 : decode cX7_needs 75 = .ok (.iload 6, 2) := by decide +kernel
theorem dX7_needs_77 : decode cX7_needs 77 = .ok (.invokestatic 164, 3) := by decide +kernel
theorem dX7_needs_80 : decode cX7_needs 80 = .ok (.lstore 7, 2) := by decide +kernel
theorem dX7_needs_82 : decode cX7_needs 82 = .ok (.ldc2_w 178, 3) := by decide +kernel
theorem dX7_needs_85 : decode cX7_needs 85 = .ok (.lload 7, 2) := by decide +kernel
theorem dX7_needs_87 : decode cX7_needs 87 = .ok (.iload 4, 2) := by decide +kernel
theorem dX7_needs_89 : decode cX7_needs 89 = .ok (.iload 6, 2) := by decide +kernel
theorem dX7_needs_91 : decode cX7_needs 91 = .ok (.invokestatic 164, 3) := by decide +kernel
theorem dX7_needs_94 : decode cX7_needs 94 = .ok (.lsub, 1) := by decide +kernel
theorem dX7_needs_95 : decode cX7_needs 95 = .ok (.lmul, 1) := by decide +kernel
theorem dX7_needs_96 : decode cX7_needs 96 = .ok (.iload_n 3, 1) := by decide +kernel
theorem dX7_needs_97 : decode cX7_needs 97 = .ok (.i2l, 1) := by decide +kernel
theorem dX7_needs_98 : decode cX7_needs 98 = .ok (.lload 7, 2) := by decide +kernel
theorem dX7_needs_100 : decode cX7_needs 100 = .ok (.lmul, 1) := by decide +kernel
theorem dX7_needs_101 : decode cX7_needs 101 = .ok (.lcmp, 1) := by decide +kernel
theorem dX7_needs_102 : decode cX7_needs 102 = .ok (.ifCond .lt 6, 3) := by decide +kernel
theorem dX7_needs_105 : decode cX7_needs 105 = .ok (.iload 5, 2) := by decide +kernel
theorem dX7_needs_107 : decode cX7_needs 107 = .ok (.ireturn, 1) := by decide +kernel
theorem dX7_needs_108 : decode cX7_needs 108 = .ok (.iinc 5 1, 3) := by decide +kernel
theorem dX7_needs_111 : decode cX7_needs 111 = .ok (.goto (-60), 3) := by decide +kernel
theorem dX7_needs_114 : decode cX7_needs 114 = .ok (.bipush (-4), 2) := by decide +kernel
theorem dX7_needs_116 : decode cX7_needs 116 = .ok (.ireturn, 1) := by decide +kernel
theorem dX7_swaps_0 : decode cX7_swaps 0 = .ok (.iconst 0, 1) := by decide +kernel
theorem dX7_swaps_1 : decode cX7_swaps 1 = .ok (.istore_n 1, 1) := by decide +kernel
theorem dX7_swaps_2 : decode cX7_swaps 2 = .ok (.iload_n 1, 1) := by decide +kernel
theorem dX7_swaps_3 : decode cX7_swaps 3 = .ok (.aload_n 0, 1) := by decide +kernel
theorem dX7_swaps_4 : decode cX7_swaps 4 = .ok (.getfield 17, 3) := by decide +kernel
theorem dX7_swaps_7 : decode cX7_swaps 7 = .ok (.iconst 0, 1) := by decide +kernel
theorem dX7_swaps_8 : decode cX7_swaps 8 = .ok (.iaload, 1) := by decide +kernel
theorem dX7_swaps_9 : decode cX7_swaps 9 = .ok (.if_icmp .ge 148, 3) := by decide +kernel
theorem dX7_swaps_12 : decode cX7_swaps 12 = .ok (.iload_n 1, 1) := by decide +kernel
theorem dX7_swaps_13 : decode cX7_swaps 13 = .ok (.iconst 1, 1) := by decide +kernel
theorem dX7_swaps_14 : decode cX7_swaps 14 = .ok (.iadd, 1) := by decide +kernel
theorem dX7_swaps_15 : decode cX7_swaps 15 = .ok (.istore_n 2, 1) := by decide +kernel
theorem dX7_swaps_16 : decode cX7_swaps 16 = .ok (.iload_n 2, 1) := by decide +kernel
theorem dX7_swaps_17 : decode cX7_swaps 17 = .ok (.aload_n 0, 1) := by decide +kernel
theorem dX7_swaps_18 : decode cX7_swaps 18 = .ok (.getfield 17, 3) := by decide +kernel
theorem dX7_swaps_21 : decode cX7_swaps 21 = .ok (.iconst 0, 1) := by decide +kernel
theorem dX7_swaps_22 : decode cX7_swaps 22 = .ok (.iaload, 1) := by decide +kernel
theorem dX7_swaps_23 : decode cX7_swaps 23 = .ok (.if_icmp .ge 128, 3) := by decide +kernel
theorem dX7_swaps_26 : decode cX7_swaps 26 = .ok (.aload_n 0, 1) := by decide +kernel
theorem dX7_swaps_27 : decode cX7_swaps 27 = .ok (.getfield 32, 3) := by decide +kernel
theorem dX7_swaps_30 : decode cX7_swaps 30 = .ok (.iconst 5, 1) := by decide +kernel
theorem dX7_swaps_31 : decode cX7_swaps 31 = .ok (.iload_n 1, 1) := by decide +kernel
theorem dX7_swaps_32 : decode cX7_swaps 32 = .ok (.iadd, 1) := by decide +kernel
theorem dX7_swaps_33 : decode cX7_swaps 33 = .ok (.iaload, 1) := by decide +kernel
theorem dX7_swaps_34 : decode cX7_swaps 34 = .ok (.istore_n 3, 1) := by decide +kernel
theorem dX7_swaps_35 : decode cX7_swaps 35 = .ok (.aload_n 0, 1) := by decide +kernel
theorem dX7_swaps_36 : decode cX7_swaps 36 = .ok (.getfield 32, 3) := by decide +kernel
theorem dX7_swaps_39 : decode cX7_swaps 39 = .ok (.iconst 5, 1) := by decide +kernel
theorem dX7_swaps_40 : decode cX7_swaps 40 = .ok (.iload_n 2, 1) := by decide +kernel
theorem dX7_swaps_41 : decode cX7_swaps 41 = .ok (.iadd, 1) := by decide +kernel
theorem dX7_swaps_42 : decode cX7_swaps 42 = .ok (.iaload, 1) := by decide +kernel
theorem dX7_swaps_43 : decode cX7_swaps 43 = .ok (.istore 4, 2) := by decide +kernel
theorem dX7_swaps_45 : decode cX7_swaps 45 = .ok (.iload_n 3, 1) := by decide +kernel
theorem dX7_swaps_46 : decode cX7_swaps 46 = .ok (.bipush (-4), 2) := by decide +kernel
theorem dX7_swaps_48 : decode cX7_swaps 48 = .ok (.if_icmp .eq 97, 3) := by decide +kernel
theorem dX7_swaps_51 : decode cX7_swaps 51 = .ok (.iload 4, 2) := by decide +kernel
theorem dX7_swaps_53 : decode cX7_swaps 53 = .ok (.bipush (-4), 2) := by decide +kernel
theorem dX7_swaps_55 : decode cX7_swaps 55 = .ok (.if_icmp .eq 90, 3) := by decide +kernel
theorem dX7_swaps_58 : decode cX7_swaps 58 = .ok (.iload_n 3, 1) := by decide +kernel
theorem dX7_swaps_59 : decode cX7_swaps 59 = .ok (.iload 4, 2) := by decide +kernel
theorem dX7_swaps_61 : decode cX7_swaps 61 = .ok (.if_icmp .eq 84, 3) := by decide +kernel
theorem dX7_swaps_64 : decode cX7_swaps 64 = .ok (.aload_n 0, 1) := by decide +kernel
theorem dX7_swaps_65 : decode cX7_swaps 65 = .ok (.aload_n 0, 1) := by decide +kernel
theorem dX7_swaps_66 : decode cX7_swaps 66 = .ok (.getfield 32, 3) := by decide +kernel
theorem dX7_swaps_69 : decode cX7_swaps 69 = .ok (.iload_n 3, 1) := by decide +kernel
theorem dX7_swaps_70 : decode cX7_swaps 70 = .ok (.invokevirtual 133, 3) := by decide +kernel
theorem dX7_swaps_73 : decode cX7_swaps 73 = .ok (.istore 5, 2) := by decide +kernel
theorem dX7_swaps_75 : decode cX7_swaps 75 = .ok (.aload_n 0, 1) := by decide +kernel
theorem dX7_swaps_76 : decode cX7_swaps 76 = .ok (.aload_n 0, 1) := by decide +kernel
theorem dX7_swaps_77 : decode cX7_swaps 77 = .ok (.getfield 32, 3) := by decide +kernel
theorem dX7_swaps_80 : decode cX7_swaps 80 = .ok (.iload 4, 2) := by decide +kernel
theorem dX7_swaps_82 : decode cX7_swaps 82 = .ok (.invokevirtual 133, 3) := by decide +kernel
theorem dX7_swaps_85 : decode cX7_swaps 85 = .ok (.istore 6, 2) := by decide +kernel
theorem dX7_swaps_87 : decode cX7_swaps 87 = .ok (.iconst 1, 1) := by decide +kernel
theorem dX7_swaps_88 : decode cX7_swaps 88 = .ok (.iload_n 1, 1) := by decide +kernel
theorem dX7_swaps_89 : decode cX7_swaps 89 = .ok (.ishl, 1) := by decide +kernel
theorem dX7_swaps_90 : decode cX7_swaps 90 = .ok (.iconst 1, 1) := by decide +kernel
theorem dX7_swaps_91 : decode cX7_swaps 91 = .ok (.iload_n 2, 1) := by decide +kernel
theorem dX7_swaps_92 : decode cX7_swaps 92 = .ok (.ishl, 1) := by decide +kernel
theorem dX7_swaps_93 : decode cX7_swaps 93 = .ok (.ior, 1) := by decide +kernel
theorem dX7_swaps_94 : decode cX7_swaps 94 = .ok (.istore 7, 2) := by decide +kernel
theorem dX7_swaps_96 : decode cX7_swaps 96 = .ok (.aload_n 0, 1) := by decide +kernel
theorem dX7_swaps_97 : decode cX7_swaps 97 = .ok (.iload_n 3, 1) := by decide +kernel
theorem dX7_swaps_98 : decode cX7_swaps 98 = .ok (.iload 5, 2) := by decide +kernel
theorem dX7_swaps_100 : decode cX7_swaps 100 = .ok (.iload 7, 2) := by decide +kernel
theorem dX7_swaps_102 : decode cX7_swaps 102 = .ok (.ixor, 1) := by decide +kernel
theorem dX7_swaps_103 : decode cX7_swaps 103 = .ok (.invokevirtual 137, 3) := by decide +kernel
theorem dX7_swaps_106 : decode cX7_swaps 106 = .ok (.aload_n 0, 1) := by decide +kernel
theorem dX7_swaps_107 : decode cX7_swaps 107 = .ok (.iload_n 3, 1) := by decide +kernel
theorem dX7_swaps_108 : decode cX7_swaps 108 = .ok (.iload 5, 2) := by decide +kernel
theorem dX7_swaps_110 : decode cX7_swaps 110 = .ok (.invokevirtual 137, 3) := by decide +kernel
theorem dX7_swaps_113 : decode cX7_swaps 113 = .ok (.if_icmp .le 32, 3) := by decide +kernel
theorem dX7_swaps_116 : decode cX7_swaps 116 = .ok (.aload_n 0, 1) := by decide +kernel
theorem dX7_swaps_117 : decode cX7_swaps 117 = .ok (.iload 4, 2) := by decide +kernel
theorem dX7_swaps_119 : decode cX7_swaps 119 = .ok (.iload 6, 2) := by decide +kernel
theorem dX7_swaps_121 : decode cX7_swaps 121 = .ok (.iload 7, 2) := by decide +kernel
theorem dX7_swaps_123 : decode cX7_swaps 123 = .ok (.ixor, 1) := by decide +kernel
theorem dX7_swaps_124 : decode cX7_swaps 124 = .ok (.invokevirtual 137, 3) := by decide +kernel
theorem dX7_swaps_127 : decode cX7_swaps 127 = .ok (.aload_n 0, 1) := by decide +kernel
theorem dX7_swaps_128 : decode cX7_swaps 128 = .ok (.iload 4, 2) := by decide +kernel
theorem dX7_swaps_130 : decode cX7_swaps 130 = .ok (.iload 6, 2) := by decide +kernel
theorem dX7_swaps_132 : decode cX7_swaps 132 = .ok (.invokevirtual 137, 3) := by decide +kernel
theorem dX7_swaps_135 : decode cX7_swaps 135 = .ok (.if_icmp .le 10, 3) := by decide +kernel
theorem dX7_swaps_138 : decode cX7_swaps 138 = .ok (.bipush 10, 2) := by decide +kernel
theorem dX7_swaps_140 : decode cX7_swaps 140 = .ok (.iload_n 1, 1) := by decide +kernel
theorem dX7_swaps_141 : decode cX7_swaps 141 = .ok (.imul, 1) := by decide +kernel
theorem dX7_swaps_142 : decode cX7_swaps 142 = .ok (.iload_n 2, 1) := by decide +kernel
theorem dX7_swaps_143 : decode cX7_swaps 143 = .ok (.iadd, 1) := by decide +kernel
theorem dX7_swaps_144 : decode cX7_swaps 144 = .ok (.ireturn, 1) := by decide +kernel
theorem dX7_swaps_145 : decode cX7_swaps 145 = .ok (.iinc 2 1, 3) := by decide +kernel
theorem dX7_swaps_148 : decode cX7_swaps 148 = .ok (.goto (-132), 3) := by decide +kernel
theorem dX7_swaps_151 : decode cX7_swaps 151 = .ok (.iinc 1 1, 3) := by decide +kernel
theorem dX7_swaps_154 : decode cX7_swaps 154 = .ok (.goto (-152), 3) := by decide +kernel
theorem dX7_swaps_157 : decode cX7_swaps 157 = .ok (.bipush (-4), 2) := by decide +kernel
theorem dX7_swaps_159 : decode cX7_swaps 159 = .ok (.ireturn, 1) := by decide +kernel
theorem dX7_gives_0 : decode cX7_gives 0 = .ok (.iconst 0, 1) := by decide +kernel
theorem dX7_gives_1 : decode cX7_gives 1 = .ok (.istore_n 1, 1) := by decide +kernel
theorem dX7_gives_2 : decode cX7_gives 2 = .ok (.iload_n 1, 1) := by decide +kernel
theorem dX7_gives_3 : decode cX7_gives 3 = .ok (.aload_n 0, 1) := by decide +kernel
theorem dX7_gives_4 : decode cX7_gives 4 = .ok (.getfield 17, 3) := by decide +kernel
theorem dX7_gives_7 : decode cX7_gives 7 = .ok (.iconst 0, 1) := by decide +kernel
theorem dX7_gives_8 : decode cX7_gives 8 = .ok (.iaload, 1) := by decide +kernel
theorem dX7_gives_9 : decode cX7_gives 9 = .ok (.if_icmp .ge 144, 3) := by decide +kernel
theorem dX7_gives_12 : decode cX7_gives 12 = .ok (.aload_n 0, 1) := by decide +kernel
theorem dX7_gives_13 : decode cX7_gives 13 = .ok (.getfield 32, 3) := by decide +kernel
theorem dX7_gives_16 : decode cX7_gives 16 = .ok (.iconst 5, 1) := by decide +kernel
theorem dX7_gives_17 : decode cX7_gives 17 = .ok (.iload_n 1, 1) := by decide +kernel
theorem dX7_gives_18 : decode cX7_gives 18 = .ok (.iadd, 1) := by decide +kernel
theorem dX7_gives_19 : decode cX7_gives 19 = .ok (.iaload, 1) := by decide +kernel
theorem dX7_gives_20 : decode cX7_gives 20 = .ok (.istore_n 2, 1) := by decide +kernel
theorem dX7_gives_21 : decode cX7_gives 21 = .ok (.iconst 0, 1) := by decide +kernel
theorem dX7_gives_22 : decode cX7_gives 22 = .ok (.istore_n 3, 1) := by decide +kernel
theorem dX7_gives_23 : decode cX7_gives 23 = .ok (.iload_n 3, 1) := by decide +kernel
theorem dX7_gives_24 : decode cX7_gives 24 = .ok (.aload_n 0, 1) := by decide +kernel
theorem dX7_gives_25 : decode cX7_gives 25 = .ok (.getfield 13, 3) := by decide +kernel
theorem dX7_gives_28 : decode cX7_gives 28 = .ok (.iconst 0, 1) := by decide +kernel
theorem dX7_gives_29 : decode cX7_gives 29 = .ok (.iaload, 1) := by decide +kernel
theorem dX7_gives_30 : decode cX7_gives 30 = .ok (.if_icmp .ge 117, 3) := by decide +kernel
theorem dX7_gives_33 : decode cX7_gives 33 = .ok (.iload_n 2, 1) := by decide +kernel
theorem dX7_gives_34 : decode cX7_gives 34 = .ok (.bipush (-4), 2) := by decide +kernel
theorem dX7_gives_36 : decode cX7_gives 36 = .ok (.if_icmp .eq 111, 3) := by decide +kernel
theorem dX7_gives_39 : decode cX7_gives 39 = .ok (.iload_n 3, 1) := by decide +kernel
theorem dX7_gives_40 : decode cX7_gives 40 = .ok (.iload_n 2, 1) := by decide +kernel
theorem dX7_gives_41 : decode cX7_gives 41 = .ok (.if_icmp .eq 100, 3) := by decide +kernel
theorem dX7_gives_44 : decode cX7_gives 44 = .ok (.aload_n 0, 1) := by decide +kernel
theorem dX7_gives_45 : decode cX7_gives 45 = .ok (.iload_n 2, 1) := by decide +kernel
theorem dX7_gives_46 : decode cX7_gives 46 = .ok (.aload_n 0, 1) := by decide +kernel
theorem dX7_gives_47 : decode cX7_gives 47 = .ok (.aload_n 0, 1) := by decide +kernel
theorem dX7_gives_48 : decode cX7_gives 48 = .ok (.getfield 32, 3) := by decide +kernel
theorem dX7_gives_51 : decode cX7_gives 51 = .ok (.iload_n 2, 1) := by decide +kernel
theorem dX7_gives_52 : decode cX7_gives 52 = .ok (.invokevirtual 133, 3) := by decide +kernel
theorem dX7_gives_55 : decode cX7_gives 55 = .ok (.iconst 1, 1) := by decide +kernel
theorem dX7_gives_56 : decode cX7_gives 56 = .ok (.iload_n 1, 1) := by decide +kernel
theorem dX7_gives_57 : decode cX7_gives 57 = .ok (.ishl, 1) := by decide +kernel
theorem dX7_gives_58 : decode cX7_gives 58 = .ok (.iconst (-1), 1) := by decide +kernel
theorem dX7_gives_59 : decode cX7_gives 59 = .ok (.ixor, 1) := by decide +kernel
theorem dX7_gives_60 : decode cX7_gives 60 = .ok (.iand, 1) := by decide +kernel
theorem dX7_gives_61 : decode cX7_gives 61 = .ok (.invokevirtual 137, 3) := by decide +kernel
theorem dX7_gives_64 : decode cX7_gives 64 = .ok (.aload_n 0, 1) := by decide +kernel
theorem dX7_gives_65 : decode cX7_gives 65 = .ok (.iload_n 2, 1) := by decide +kernel
theorem dX7_gives_66 : decode cX7_gives 66 = .ok (.aload_n 0, 1) := by decide +kernel
theorem dX7_gives_67 : decode cX7_gives 67 = .ok (.aload_n 0, 1) := by decide +kernel
theorem dX7_gives_68 : decode cX7_gives 68 = .ok (.getfield 32, 3) := by decide +kernel
theorem dX7_gives_71 : decode cX7_gives 71 = .ok (.iload_n 2, 1) := by decide +kernel
theorem dX7_gives_72 : decode cX7_gives 72 = .ok (.invokevirtual 133, 3) := by decide +kernel
theorem dX7_gives_75 : decode cX7_gives 75 = .ok (.invokevirtual 137, 3) := by decide +kernel
theorem dX7_gives_78 : decode cX7_gives 78 = .ok (.isub, 1) := by decide +kernel
theorem dX7_gives_79 : decode cX7_gives 79 = .ok (.istore 4, 2) := by decide +kernel
theorem dX7_gives_81 : decode cX7_gives 81 = .ok (.aload_n 0, 1) := by decide +kernel
theorem dX7_gives_82 : decode cX7_gives 82 = .ok (.iload_n 3, 1) := by decide +kernel
theorem dX7_gives_83 : decode cX7_gives 83 = .ok (.aload_n 0, 1) := by decide +kernel
theorem dX7_gives_84 : decode cX7_gives 84 = .ok (.aload_n 0, 1) := by decide +kernel
theorem dX7_gives_85 : decode cX7_gives 85 = .ok (.getfield 32, 3) := by decide +kernel
theorem dX7_gives_88 : decode cX7_gives 88 = .ok (.iload_n 3, 1) := by decide +kernel
theorem dX7_gives_89 : decode cX7_gives 89 = .ok (.invokevirtual 133, 3) := by decide +kernel
theorem dX7_gives_92 : decode cX7_gives 92 = .ok (.iconst 1, 1) := by decide +kernel
theorem dX7_gives_93 : decode cX7_gives 93 = .ok (.iload_n 1, 1) := by decide +kernel
theorem dX7_gives_94 : decode cX7_gives 94 = .ok (.ishl, 1) := by decide +kernel
theorem dX7_gives_95 : decode cX7_gives 95 = .ok (.ior, 1) := by decide +kernel
theorem dX7_gives_96 : decode cX7_gives 96 = .ok (.invokevirtual 137, 3) := by decide +kernel
theorem dX7_gives_99 : decode cX7_gives 99 = .ok (.aload_n 0, 1) := by decide +kernel
theorem dX7_gives_100 : decode cX7_gives 100 = .ok (.iload_n 3, 1) := by decide +kernel
theorem dX7_gives_101 : decode cX7_gives 101 = .ok (.aload_n 0, 1) := by decide +kernel
theorem dX7_gives_102 : decode cX7_gives 102 = .ok (.aload_n 0, 1) := by decide +kernel
theorem dX7_gives_103 : decode cX7_gives 103 = .ok (.getfield 32, 3) := by decide +kernel
theorem dX7_gives_106 : decode cX7_gives 106 = .ok (.iload_n 3, 1) := by decide +kernel
theorem dX7_gives_107 : decode cX7_gives 107 = .ok (.invokevirtual 133, 3) := by decide +kernel
theorem dX7_gives_110 : decode cX7_gives 110 = .ok (.invokevirtual 137, 3) := by decide +kernel
theorem dX7_gives_113 : decode cX7_gives 113 = .ok (.isub, 1) := by decide +kernel
theorem dX7_gives_114 : decode cX7_gives 114 = .ok (.istore 5, 2) := by decide +kernel
theorem dX7_gives_116 : decode cX7_gives 116 = .ok (.iload 4, 2) := by decide +kernel
theorem dX7_gives_118 : decode cX7_gives 118 = .ok (.ifCond .lt 23, 3) := by decide +kernel
theorem dX7_gives_121 : decode cX7_gives 121 = .ok (.iload 5, 2) := by decide +kernel
theorem dX7_gives_123 : decode cX7_gives 123 = .ok (.ifCond .lt 18, 3) := by decide +kernel
theorem dX7_gives_126 : decode cX7_gives 126 = .ok (.iload 4, 2) := by decide +kernel
theorem dX7_gives_128 : decode cX7_gives 128 = .ok (.iload 5, 2) := by decide +kernel
theorem dX7_gives_130 : decode cX7_gives 130 = .ok (.iadd, 1) := by decide +kernel
theorem dX7_gives_131 : decode cX7_gives 131 = .ok (.ifCond .le 10, 3) := by decide +kernel
theorem dX7_gives_134 : decode cX7_gives 134 = .ok (.bipush 10, 2) := by decide +kernel
theorem dX7_gives_136 : decode cX7_gives 136 = .ok (.iload_n 1, 1) := by decide +kernel
theorem dX7_gives_137 : decode cX7_gives 137 = .ok (.imul, 1) := by decide +kernel
theorem dX7_gives_138 : decode cX7_gives 138 = .ok (.iload_n 3, 1) := by decide +kernel
theorem dX7_gives_139 : decode cX7_gives 139 = .ok (.iadd, 1) := by decide +kernel
theorem dX7_gives_140 : decode cX7_gives 140 = .ok (.ireturn, 1) := by decide +kernel
theorem dX7_gives_141 : decode cX7_gives 141 = .ok (.iinc 3 1, 3) := by decide +kernel
theorem dX7_gives_144 : decode cX7_gives 144 = .ok (.goto (-121), 3) := by decide +kernel
theorem dX7_gives_147 : decode cX7_gives 147 = .ok (.iinc 1 1, 3) := by decide +kernel
theorem dX7_gives_150 : decode cX7_gives 150 = .ok (.goto (-148), 3) := by decide +kernel
theorem dX7_gives_153 : decode cX7_gives 153 = .ok (.bipush (-4), 2) := by decide +kernel
theorem dX7_gives_155 : decode cX7_gives 155 = .ok (.ireturn, 1) := by decide +kernel
theorem dX7_dealBy_0 : decode cX7_dealBy 0 = .ok (.iload_n 1, 1) := by decide +kernel
theorem dX7_dealBy_1 : decode cX7_dealBy 1 = .ok (.istore_n 2, 1) := by decide +kernel
theorem dX7_dealBy_2 : decode cX7_dealBy 2 = .ok (.aload_n 0, 1) := by decide +kernel
theorem dX7_dealBy_3 : decode cX7_dealBy 3 = .ok (.getfield 17, 3) := by decide +kernel
theorem dX7_dealBy_6 : decode cX7_dealBy 6 = .ok (.iconst 0, 1) := by decide +kernel
theorem dX7_dealBy_7 : decode cX7_dealBy 7 = .ok (.iaload, 1) := by decide +kernel
theorem dX7_dealBy_8 : decode cX7_dealBy 8 = .ok (.iconst 1, 1) := by decide +kernel
theorem dX7_dealBy_9 : decode cX7_dealBy 9 = .ok (.isub, 1) := by decide +kernel
theorem dX7_dealBy_10 : decode cX7_dealBy 10 = .ok (.istore_n 3, 1) := by decide +kernel
theorem dX7_dealBy_11 : decode cX7_dealBy 11 = .ok (.iload_n 3, 1) := by decide +kernel
theorem dX7_dealBy_12 : decode cX7_dealBy 12 = .ok (.ifCond .lt 47, 3) := by decide +kernel
theorem dX7_dealBy_15 : decode cX7_dealBy 15 = .ok (.aload_n 0, 1) := by decide +kernel
theorem dX7_dealBy_16 : decode cX7_dealBy 16 = .ok (.getfield 32, 3) := by decide +kernel
theorem dX7_dealBy_19 : decode cX7_dealBy 19 = .ok (.iconst 5, 1) := by decide +kernel
theorem dX7_dealBy_20 : decode cX7_dealBy 20 = .ok (.iload_n 3, 1) := by decide +kernel
theorem dX7_dealBy_21 : decode cX7_dealBy 21 = .ok (.iadd, 1) := by decide +kernel
theorem dX7_dealBy_22 : decode cX7_dealBy 22 = .ok (.iaload, 1) := by decide +kernel
theorem dX7_dealBy_23 : decode cX7_dealBy 23 = .ok (.bipush (-4), 2) := by decide +kernel
theorem dX7_dealBy_25 : decode cX7_dealBy 25 = .ok (.if_icmp .eq 28, 3) := by decide +kernel
theorem dX7_dealBy_28 : decode cX7_dealBy 28 = .ok (.aload_n 0, 1) := by decide +kernel
theorem dX7_dealBy_29 : decode cX7_dealBy 29 = .ok (.getfield 41, 3) := by decide +kernel
theorem dX7_dealBy_32 : decode cX7_dealBy 32 = .ok (.iconst 5, 1) := by decide +kernel
theorem dX7_dealBy_33 : decode cX7_dealBy 33 = .ok (.iload_n 3, 1) := by decide +kernel
theorem dX7_dealBy_34 : decode cX7_dealBy 34 = .ok (.iadd, 1) := by decide +kernel
theorem dX7_dealBy_35 : decode cX7_dealBy 35 = .ok (.iload_n 2, 1) := by decide +kernel
theorem dX7_dealBy_36 : decode cX7_dealBy 36 = .ok (.aload_n 0, 1) := by decide +kernel
theorem dX7_dealBy_37 : decode cX7_dealBy 37 = .ok (.getfield 13, 3) := by decide +kernel
theorem dX7_dealBy_40 : decode cX7_dealBy 40 = .ok (.iconst 0, 1) := by decide +kernel
theorem dX7_dealBy_41 : decode cX7_dealBy 41 = .ok (.iaload, 1) := by decide +kernel
theorem dX7_dealBy_42 : decode cX7_dealBy 42 = .ok (.irem, 1) := by decide +kernel
theorem dX7_dealBy_43 : decode cX7_dealBy 43 = .ok (.iastore, 1) := by decide +kernel
theorem dX7_dealBy_44 : decode cX7_dealBy 44 = .ok (.iload_n 2, 1) := by decide +kernel
theorem dX7_dealBy_45 : decode cX7_dealBy 45 = .ok (.aload_n 0, 1) := by decide +kernel
theorem dX7_dealBy_46 : decode cX7_dealBy 46 = .ok (.getfield 13, 3) := by decide +kernel
theorem dX7_dealBy_49 : decode cX7_dealBy 49 = .ok (.iconst 0, 1) := by decide +kernel
theorem dX7_dealBy_50 : decode cX7_dealBy 50 = .ok (.iaload, 1) := by decide +kernel
theorem dX7_dealBy_51 : decode cX7_dealBy 51 = .ok (.idiv, 1) := by decide +kernel
theorem dX7_dealBy_52 : decode cX7_dealBy 52 = .ok (.istore_n 2, 1) := by decide +kernel
theorem dX7_dealBy_53 : decode cX7_dealBy 53 = .ok (.iinc 3 (-1), 3) := by decide +kernel
theorem dX7_dealBy_56 : decode cX7_dealBy 56 = .ok (.goto (-45), 3) := by decide +kernel
theorem dX7_dealBy_59 : decode cX7_dealBy 59 = .ok (.return_, 1) := by decide +kernel
theorem dX7_share_0 : decode cX7_share 0 = .ok (.iload_n 1, 1) := by decide +kernel
theorem dX7_share_1 : decode cX7_share 1 = .ok (.iconst (-1), 1) := by decide +kernel
theorem dX7_share_2 : decode cX7_share 2 = .ok (.if_icmp .eq 13, 3) := by decide +kernel
theorem dX7_share_5 : decode cX7_share 5 = .ok (.aload_n 0, 1) := by decide +kernel
theorem dX7_share_6 : decode cX7_share 6 = .ok (.iload_n 1, 1) := by decide +kernel
theorem dX7_share_7 : decode cX7_share 7 = .ok (.invokevirtual 144, 3) := by decide +kernel
theorem dX7_share_10 : decode cX7_share 10 = .ok (.ifCond .ne 5, 3) := by decide +kernel
theorem dX7_share_13 : decode cX7_share 13 = .ok (.iconst (-1), 1) := by decide +kernel
theorem dX7_share_14 : decode cX7_share 14 = .ok (.ireturn, 1) := by decide +kernel
theorem dX7_share_15 : decode cX7_share 15 = .ok (.iconst 1, 1) := by decide +kernel
theorem dX7_share_16 : decode cX7_share 16 = .ok (.istore_n 2, 1) := by decide +kernel
theorem dX7_share_17 : decode cX7_share 17 = .ok (.iconst 0, 1) := by decide +kernel
theorem dX7_share_18 : decode cX7_share 18 = .ok (.istore_n 3, 1) := by decide +kernel
theorem dX7_share_19 : decode cX7_share 19 = .ok (.iload_n 3, 1) := by decide +kernel
theorem dX7_share_20 : decode cX7_share 20 = .ok (.aload_n 0, 1) := by decide +kernel
theorem dX7_share_21 : decode cX7_share 21 = .ok (.aload_n 0, 1) := by decide +kernel
theorem dX7_share_22 : decode cX7_share 22 = .ok (.getfield 32, 3) := by decide +kernel
theorem dX7_share_25 : decode cX7_share 25 = .ok (.invokevirtual 180, 3) := by decide +kernel
theorem dX7_share_28 : decode cX7_share 28 = .ok (.if_icmp .ge 18, 3) := by decide +kernel
theorem dX7_share_31 : decode cX7_share 31 = .ok (.iload_n 2, 1) := by decide +kernel
theorem dX7_share_32 : decode cX7_share 32 = .ok (.aload_n 0, 1) := by decide +kernel
theorem dX7_share_33 : decode cX7_share 33 = .ok (.getfield 13, 3) := by decide +kernel
theorem dX7_share_36 : decode cX7_share 36 = .ok (.iconst 0, 1) := by decide +kernel
theorem dX7_share_37 : decode cX7_share 37 = .ok (.iaload, 1) := by decide +kernel
theorem dX7_share_38 : decode cX7_share 38 = .ok (.imul, 1) := by decide +kernel
theorem dX7_share_39 : decode cX7_share 39 = .ok (.istore_n 2, 1) := by decide +kernel
theorem dX7_share_40 : decode cX7_share 40 = .ok (.iinc 3 1, 3) := by decide +kernel
theorem dX7_share_43 : decode cX7_share 43 = .ok (.goto (-24), 3) := by decide +kernel
theorem dX7_share_46 : decode cX7_share 46 = .ok (.aload_n 0, 1) := by decide +kernel
theorem dX7_share_47 : decode cX7_share 47 = .ok (.invokevirtual 183, 3) := by decide +kernel
theorem dX7_share_50 : decode cX7_share 50 = .ok (.iconst 0, 1) := by decide +kernel
theorem dX7_share_51 : decode cX7_share 51 = .ok (.istore_n 3, 1) := by decide +kernel
theorem dX7_share_52 : decode cX7_share 52 = .ok (.iconst 0, 1) := by decide +kernel
theorem dX7_share_53 : decode cX7_share 53 = .ok (.istore 4, 2) := by decide +kernel
theorem dX7_share_55 : decode cX7_share 55 = .ok (.iconst 0, 1) := by decide +kernel
theorem dX7_share_56 : decode cX7_share 56 = .ok (.istore 5, 2) := by decide +kernel
theorem dX7_share_58 : decode cX7_share 58 = .ok (.iload 5, 2) := by decide +kernel
theorem dX7_share_60 : decode cX7_share 60 = .ok (.iload_n 2, 1) := by decide +kernel
theorem dX7_share_61 : decode cX7_share 61 = .ok (.if_icmp .ge 44, 3) := by decide +kernel
theorem dX7_share_64 : decode cX7_share 64 = .ok (.aload_n 0, 1) := by decide +kernel
theorem dX7_share_65 : decode cX7_share 65 = .ok (.iload 5, 2) := by decide +kernel
theorem dX7_share_67 : decode cX7_share 67 = .ok (.invokevirtual 186, 3) := by decide +kernel
theorem dX7_share_70 : decode cX7_share 70 = .ok (.aload_n 0, 1) := by decide +kernel
theorem dX7_share_71 : decode cX7_share 71 = .ok (.aload_n 0, 1) := by decide +kernel
theorem dX7_share_72 : decode cX7_share 72 = .ok (.getfield 41, 3) := by decide +kernel
theorem dX7_share_75 : decode cX7_share 75 = .ok (.invokevirtual 189, 3) := by decide +kernel
theorem dX7_share_78 : decode cX7_share 78 = .ok (.istore 6, 2) := by decide +kernel
theorem dX7_share_80 : decode cX7_share 80 = .ok (.iload 5, 2) := by decide +kernel
theorem dX7_share_82 : decode cX7_share 82 = .ok (.ifCond .eq 10, 3) := by decide +kernel
theorem dX7_share_85 : decode cX7_share 85 = .ok (.iload 6, 2) := by decide +kernel
theorem dX7_share_87 : decode cX7_share 87 = .ok (.iload 4, 2) := by decide +kernel
theorem dX7_share_89 : decode cX7_share 89 = .ok (.if_icmp .le 10, 3) := by decide +kernel
theorem dX7_share_92 : decode cX7_share 92 = .ok (.iload 5, 2) := by decide +kernel
theorem dX7_share_94 : decode cX7_share 94 = .ok (.istore_n 3, 1) := by decide +kernel
theorem dX7_share_95 : decode cX7_share 95 = .ok (.iload 6, 2) := by decide +kernel
theorem dX7_share_97 : decode cX7_share 97 = .ok (.istore 4, 2) := by decide +kernel
theorem dX7_share_99 : decode cX7_share 99 = .ok (.iinc 5 1, 3) := by decide +kernel
theorem dX7_share_102 : decode cX7_share 102 = .ok (.goto (-44), 3) := by decide +kernel
theorem dX7_share_105 : decode cX7_share 105 = .ok (.aload_n 0, 1) := by decide +kernel
theorem dX7_share_106 : decode cX7_share 106 = .ok (.iload_n 3, 1) := by decide +kernel
theorem dX7_share_107 : decode cX7_share 107 = .ok (.invokevirtual 186, 3) := by decide +kernel
theorem dX7_share_110 : decode cX7_share 110 = .ok (.iload_n 1, 1) := by decide +kernel
theorem dX7_share_111 : decode cX7_share 111 = .ok (.iconst (-1), 1) := by decide +kernel
theorem dX7_share_112 : decode cX7_share 112 = .ok (.if_icmp .ne 12, 3) := by decide +kernel
theorem dX7_share_115 : decode cX7_share 115 = .ok (.iload 4, 2) := by decide +kernel
theorem dX7_share_117 : decode cX7_share 117 = .ok (.sipush 1000, 3) := by decide +kernel
theorem dX7_share_120 : decode cX7_share 120 = .ok (.iadd, 1) := by decide +kernel
theorem dX7_share_121 : decode cX7_share 121 = .ok (.goto 11, 3) := by decide +kernel
theorem dX7_share_124 : decode cX7_share 124 = .ok (.aload_n 0, 1) := by decide +kernel
theorem dX7_share_125 : decode cX7_share 125 = .ok (.getfield 41, 3) := by decide +kernel
theorem dX7_share_128 : decode cX7_share 128 = .ok (.iconst 5, 1) := by decide +kernel
theorem dX7_share_129 : decode cX7_share 129 = .ok (.iload_n 1, 1) := by decide +kernel
theorem dX7_share_130 : decode cX7_share 130 = .ok (.iadd, 1) := by decide +kernel
theorem dX7_share_131 : decode cX7_share 131 = .ok (.iaload, 1) := by decide +kernel
theorem dX7_share_132 : decode cX7_share 132 = .ok (.ireturn, 1) := by decide +kernel
theorem dX7_envies_0 : decode cX7_envies 0 = .ok (.iload_n 1, 1) := by decide +kernel
theorem dX7_envies_1 : decode cX7_envies 1 = .ok (.iload_n 2, 1) := by decide +kernel
theorem dX7_envies_2 : decode cX7_envies 2 = .ok (.if_icmp .eq 38, 3) := by decide +kernel
theorem dX7_envies_5 : decode cX7_envies 5 = .ok (.aload_n 0, 1) := by decide +kernel
theorem dX7_envies_6 : decode cX7_envies 6 = .ok (.iload_n 1, 1) := by decide +kernel
theorem dX7_envies_7 : decode cX7_envies 7 = .ok (.aload_n 0, 1) := by decide +kernel
theorem dX7_envies_8 : decode cX7_envies 8 = .ok (.aload_n 0, 1) := by decide +kernel
theorem dX7_envies_9 : decode cX7_envies 9 = .ok (.getfield 32, 3) := by decide +kernel
theorem dX7_envies_12 : decode cX7_envies 12 = .ok (.iload_n 2, 1) := by decide +kernel
theorem dX7_envies_13 : decode cX7_envies 13 = .ok (.invokevirtual 133, 3) := by decide +kernel
theorem dX7_envies_16 : decode cX7_envies 16 = .ok (.invokevirtual 137, 3) := by decide +kernel
theorem dX7_envies_19 : decode cX7_envies 19 = .ok (.aload_n 0, 1) := by decide +kernel
theorem dX7_envies_20 : decode cX7_envies 20 = .ok (.iload_n 1, 1) := by decide +kernel
theorem dX7_envies_21 : decode cX7_envies 21 = .ok (.aload_n 0, 1) := by decide +kernel
theorem dX7_envies_22 : decode cX7_envies 22 = .ok (.aload_n 0, 1) := by decide +kernel
theorem dX7_envies_23 : decode cX7_envies 23 = .ok (.getfield 32, 3) := by decide +kernel
theorem dX7_envies_26 : decode cX7_envies 26 = .ok (.iload_n 1, 1) := by decide +kernel
theorem dX7_envies_27 : decode cX7_envies 27 = .ok (.invokevirtual 133, 3) := by decide +kernel
theorem dX7_envies_30 : decode cX7_envies 30 = .ok (.invokevirtual 137, 3) := by decide +kernel
theorem dX7_envies_33 : decode cX7_envies 33 = .ok (.if_icmp .le 7, 3) := by decide +kernel
theorem dX7_envies_36 : decode cX7_envies 36 = .ok (.iconst 1, 1) := by decide +kernel
theorem dX7_envies_37 : decode cX7_envies 37 = .ok (.goto 4, 3) := by decide +kernel
theorem dX7_envies_40 : decode cX7_envies 40 = .ok (.iconst 0, 1) := by decide +kernel
theorem dX7_envies_41 : decode cX7_envies 41 = .ok (.ireturn, 1) := by decide +kernel
theorem dX7_envy_0 : decode cX7_envy 0 = .ok (.iconst 0, 1) := by decide +kernel
theorem dX7_envy_1 : decode cX7_envy 1 = .ok (.istore_n 1, 1) := by decide +kernel
theorem dX7_envy_2 : decode cX7_envy 2 = .ok (.iload_n 1, 1) := by decide +kernel
theorem dX7_envy_3 : decode cX7_envy 3 = .ok (.aload_n 0, 1) := by decide +kernel
theorem dX7_envy_4 : decode cX7_envy 4 = .ok (.getfield 13, 3) := by decide +kernel
theorem dX7_envy_7 : decode cX7_envy 7 = .ok (.iconst 0, 1) := by decide +kernel
theorem dX7_envy_8 : decode cX7_envy 8 = .ok (.iaload, 1) := by decide +kernel
theorem dX7_envy_9 : decode cX7_envy 9 = .ok (.if_icmp .ge 43, 3) := by decide +kernel
theorem dX7_envy_12 : decode cX7_envy 12 = .ok (.iconst 0, 1) := by decide +kernel
theorem dX7_envy_13 : decode cX7_envy 13 = .ok (.istore_n 2, 1) := by decide +kernel
theorem dX7_envy_14 : decode cX7_envy 14 = .ok (.iload_n 2, 1) := by decide +kernel
theorem dX7_envy_15 : decode cX7_envy 15 = .ok (.aload_n 0, 1) := by decide +kernel
theorem dX7_envy_16 : decode cX7_envy 16 = .ok (.getfield 13, 3) := by decide +kernel
theorem dX7_envy_19 : decode cX7_envy 19 = .ok (.iconst 0, 1) := by decide +kernel
theorem dX7_envy_20 : decode cX7_envy 20 = .ok (.iaload, 1) := by decide +kernel
theorem dX7_envy_21 : decode cX7_envy 21 = .ok (.if_icmp .ge 25, 3) := by decide +kernel
theorem dX7_envy_24 : decode cX7_envy 24 = .ok (.aload_n 0, 1) := by decide +kernel
theorem dX7_envy_25 : decode cX7_envy 25 = .ok (.iload_n 1, 1) := by decide +kernel
theorem dX7_envy_26 : decode cX7_envy 26 = .ok (.iload_n 2, 1) := by decide +kernel
theorem dX7_envy_27 : decode cX7_envy 27 = .ok (.invokevirtual 192, 3) := by decide +kernel
theorem dX7_envy_30 : decode cX7_envy 30 = .ok (.ifCond .eq 10, 3) := by decide +kernel
theorem dX7_envy_33 : decode cX7_envy 33 = .ok (.bipush 10, 2) := by decide +kernel
theorem dX7_envy_35 : decode cX7_envy 35 = .ok (.iload_n 1, 1) := by decide +kernel
theorem dX7_envy_36 : decode cX7_envy 36 = .ok (.imul, 1) := by decide +kernel
theorem dX7_envy_37 : decode cX7_envy 37 = .ok (.iload_n 2, 1) := by decide +kernel
theorem dX7_envy_38 : decode cX7_envy 38 = .ok (.iadd, 1) := by decide +kernel
theorem dX7_envy_39 : decode cX7_envy 39 = .ok (.ireturn, 1) := by decide +kernel
theorem dX7_envy_40 : decode cX7_envy 40 = .ok (.iinc 2 1, 3) := by decide +kernel
theorem dX7_envy_43 : decode cX7_envy 43 = .ok (.goto (-29), 3) := by decide +kernel
theorem dX7_envy_46 : decode cX7_envy 46 = .ok (.iinc 1 1, 3) := by decide +kernel
theorem dX7_envy_49 : decode cX7_envy 49 = .ok (.goto (-47), 3) := by decide +kernel
theorem dX7_envy_52 : decode cX7_envy 52 = .ok (.bipush (-4), 2) := by decide +kernel
theorem dX7_envy_54 : decode cX7_envy 54 = .ok (.ireturn, 1) := by decide +kernel
theorem dX7_ring_0 : decode cX7_ring 0 = .ok (.bipush (-4), 2) := by decide +kernel
theorem dX7_ring_2 : decode cX7_ring 2 = .ok (.istore_n 1, 1) := by decide +kernel
theorem dX7_ring_3 : decode cX7_ring 3 = .ok (.iconst 0, 1) := by decide +kernel
theorem dX7_ring_4 : decode cX7_ring 4 = .ok (.istore_n 2, 1) := by decide +kernel
theorem dX7_ring_5 : decode cX7_ring 5 = .ok (.iload_n 2, 1) := by decide +kernel
theorem dX7_ring_6 : decode cX7_ring 6 = .ok (.aload_n 0, 1) := by decide +kernel
theorem dX7_ring_7 : decode cX7_ring 7 = .ok (.getfield 13, 3) := by decide +kernel
theorem dX7_ring_10 : decode cX7_ring 10 = .ok (.iconst 0, 1) := by decide +kernel
theorem dX7_ring_11 : decode cX7_ring 11 = .ok (.iaload, 1) := by decide +kernel
theorem dX7_ring_12 : decode cX7_ring 12 = .ok (.if_icmp .ge 134, 3) := by decide +kernel
theorem dX7_ring_15 : decode cX7_ring 15 = .ok (.iconst 1, 1) := by decide +kernel
theorem dX7_ring_16 : decode cX7_ring 16 = .ok (.iload_n 2, 1) := by decide +kernel
theorem dX7_ring_17 : decode cX7_ring 17 = .ok (.ishl, 1) := by decide +kernel
theorem dX7_ring_18 : decode cX7_ring 18 = .ok (.istore_n 3, 1) := by decide +kernel
theorem dX7_ring_19 : decode cX7_ring 19 = .ok (.iconst 1, 1) := by decide +kernel
theorem dX7_ring_20 : decode cX7_ring 20 = .ok (.istore 4, 2) := by decide +kernel
theorem dX7_ring_22 : decode cX7_ring 22 = .ok (.iload 4, 2) := by decide +kernel
theorem dX7_ring_24 : decode cX7_ring 24 = .ok (.iconst 5, 1) := by decide +kernel
theorem dX7_ring_25 : decode cX7_ring 25 = .ok (.if_icmp .gt 115, 3) := by decide +kernel
theorem dX7_ring_28 : decode cX7_ring 28 = .ok (.iconst 0, 1) := by decide +kernel
theorem dX7_ring_29 : decode cX7_ring 29 = .ok (.istore 5, 2) := by decide +kernel
theorem dX7_ring_31 : decode cX7_ring 31 = .ok (.iconst 0, 1) := by decide +kernel
theorem dX7_ring_32 : decode cX7_ring 32 = .ok (.istore 6, 2) := by decide +kernel
theorem dX7_ring_34 : decode cX7_ring 34 = .ok (.iload 6, 2) := by decide +kernel
theorem dX7_ring_36 : decode cX7_ring 36 = .ok (.aload_n 0, 1) := by decide +kernel
theorem dX7_ring_37 : decode cX7_ring 37 = .ok (.getfield 13, 3) := by decide +kernel
theorem dX7_ring_40 : decode cX7_ring 40 = .ok (.iconst 0, 1) := by decide +kernel
theorem dX7_ring_41 : decode cX7_ring 41 = .ok (.iaload, 1) := by decide +kernel
theorem dX7_ring_42 : decode cX7_ring 42 = .ok (.if_icmp .ge 62, 3) := by decide +kernel
theorem dX7_ring_45 : decode cX7_ring 45 = .ok (.iconst 0, 1) := by decide +kernel
theorem dX7_ring_46 : decode cX7_ring 46 = .ok (.istore 7, 2) := by decide +kernel
theorem dX7_ring_48 : decode cX7_ring 48 = .ok (.iload 7, 2) := by decide +kernel
theorem dX7_ring_50 : decode cX7_ring 50 = .ok (.aload_n 0, 1) := by decide +kernel
theorem dX7_ring_51 : decode cX7_ring 51 = .ok (.getfield 13, 3) := by decide +kernel
theorem dX7_ring_54 : decode cX7_ring 54 = .ok (.iconst 0, 1) := by decide +kernel
theorem dX7_ring_55 : decode cX7_ring 55 = .ok (.iaload, 1) := by decide +kernel
theorem dX7_ring_56 : decode cX7_ring 56 = .ok (.if_icmp .ge 42, 3) := by decide +kernel
theorem dX7_ring_59 : decode cX7_ring 59 = .ok (.iload 5, 2) := by decide +kernel
theorem dX7_ring_61 : decode cX7_ring 61 = .ok (.iload_n 3, 1) := by decide +kernel
theorem dX7_ring_62 : decode cX7_ring 62 = .ok (.iload 6, 2) := by decide +kernel
theorem dX7_ring_64 : decode cX7_ring 64 = .ok (.invokestatic 129, 3) := by decide +kernel
theorem dX7_ring_67 : decode cX7_ring 67 = .ok (.ifCond .eq 21, 3) := by decide +kernel
theorem dX7_ring_70 : decode cX7_ring 70 = .ok (.aload_n 0, 1) := by decide +kernel
theorem dX7_ring_71 : decode cX7_ring 71 = .ok (.iload 6, 2) := by decide +kernel
theorem dX7_ring_73 : decode cX7_ring 73 = .ok (.iload 7, 2) := by decide +kernel
theorem dX7_ring_75 : decode cX7_ring 75 = .ok (.invokevirtual 192, 3) := by decide +kernel
theorem dX7_ring_78 : decode cX7_ring 78 = .ok (.ifCond .eq 10, 3) := by decide +kernel
theorem dX7_ring_81 : decode cX7_ring 81 = .ok (.iconst 1, 1) := by decide +kernel
theorem dX7_ring_82 : decode cX7_ring 82 = .ok (.iload 7, 2) := by decide +kernel
theorem dX7_ring_84 : decode cX7_ring 84 = .ok (.ishl, 1) := by decide +kernel
theorem dX7_ring_85 : decode cX7_ring 85 = .ok (.goto 4, 3) := by decide +kernel
theorem dX7_ring_88 : decode cX7_ring 88 = .ok (.iconst 0, 1) := by decide +kernel
theorem dX7_ring_89 : decode cX7_ring 89 = .ok (.ior, 1) := by decide +kernel
theorem dX7_ring_90 : decode cX7_ring 90 = .ok (.istore 5, 2) := by decide +kernel
theorem dX7_ring_92 : decode cX7_ring 92 = .ok (.iinc 7 1, 3) := by decide +kernel
theorem dX7_ring_95 : decode cX7_ring 95 = .ok (.goto (-47), 3) := by decide +kernel
theorem dX7_ring_98 : decode cX7_ring 98 = .ok (.iinc 6 1, 3) := by decide +kernel
theorem dX7_ring_101 : decode cX7_ring 101 = .ok (.goto (-67), 3) := by decide +kernel
theorem dX7_ring_104 : decode cX7_ring 104 = .ok (.iload 5, 2) := by decide +kernel
theorem dX7_ring_106 : decode cX7_ring 106 = .ok (.istore_n 3, 1) := by decide +kernel
theorem dX7_ring_107 : decode cX7_ring 107 = .ok (.iload_n 3, 1) := by decide +kernel
theorem dX7_ring_108 : decode cX7_ring 108 = .ok (.iload_n 2, 1) := by decide +kernel
theorem dX7_ring_109 : decode cX7_ring 109 = .ok (.invokestatic 129, 3) := by decide +kernel
theorem dX7_ring_112 : decode cX7_ring 112 = .ok (.ifCond .eq 20, 3) := by decide +kernel
theorem dX7_ring_115 : decode cX7_ring 115 = .ok (.iload_n 1, 1) := by decide +kernel
theorem dX7_ring_116 : decode cX7_ring 116 = .ok (.bipush (-4), 2) := by decide +kernel
theorem dX7_ring_118 : decode cX7_ring 118 = .ok (.if_icmp .eq 9, 3) := by decide +kernel
theorem dX7_ring_121 : decode cX7_ring 121 = .ok (.iload 4, 2) := by decide +kernel
theorem dX7_ring_123 : decode cX7_ring 123 = .ok (.iload_n 1, 1) := by decide +kernel
theorem dX7_ring_124 : decode cX7_ring 124 = .ok (.if_icmp .ge 8, 3) := by decide +kernel
theorem dX7_ring_127 : decode cX7_ring 127 = .ok (.iload 4, 2) := by decide +kernel
theorem dX7_ring_129 : decode cX7_ring 129 = .ok (.goto 4, 3) := by decide +kernel
theorem dX7_ring_132 : decode cX7_ring 132 = .ok (.iload_n 1, 1) := by decide +kernel
theorem dX7_ring_133 : decode cX7_ring 133 = .ok (.istore_n 1, 1) := by decide +kernel
theorem dX7_ring_134 : decode cX7_ring 134 = .ok (.iinc 4 1, 3) := by decide +kernel
theorem dX7_ring_137 : decode cX7_ring 137 = .ok (.goto (-115), 3) := by decide +kernel
theorem dX7_ring_140 : decode cX7_ring 140 = .ok (.iinc 2 1, 3) := by decide +kernel
theorem dX7_ring_143 : decode cX7_ring 143 = .ok (.goto (-138), 3) := by decide +kernel
theorem dX7_ring_146 : decode cX7_ring 146 = .ok (.iload_n 1, 1) := by decide +kernel
theorem dX7_ring_147 : decode cX7_ring 147 = .ok (.ireturn, 1) := by decide +kernel
theorem dX7_note_0 : decode cX7_note 0 = .ok (.aload_n 0, 1) := by decide +kernel
theorem dX7_note_1 : decode cX7_note 1 = .ok (.iload_n 1, 1) := by decide +kernel
theorem dX7_note_2 : decode cX7_note 2 = .ok (.invokevirtual 140, 3) := by decide +kernel
theorem dX7_note_5 : decode cX7_note 5 = .ok (.ifCond .ne 5, 3) := by decide +kernel
theorem dX7_note_8 : decode cX7_note 8 = .ok (.iconst (-1), 1) := by decide +kernel
theorem dX7_note_9 : decode cX7_note 9 = .ok (.ireturn, 1) := by decide +kernel
theorem dX7_note_10 : decode cX7_note 10 = .ok (.aload_n 0, 1) := by decide +kernel
theorem dX7_note_11 : decode cX7_note 11 = .ok (.getfield 126, 3) := by decide +kernel
theorem dX7_note_14 : decode cX7_note 14 = .ok (.bipush 8, 2) := by decide +kernel
theorem dX7_note_16 : decode cX7_note 16 = .ok (.if_icmp .ne 6, 3) := by decide +kernel
theorem dX7_note_19 : decode cX7_note 19 = .ok (.bipush (-3), 2) := by decide +kernel
theorem dX7_note_21 : decode cX7_note 21 = .ok (.ireturn, 1) := by decide +kernel
theorem dX7_note_22 : decode cX7_note 22 = .ok (.aload_n 0, 1) := by decide +kernel
theorem dX7_note_23 : decode cX7_note 23 = .ok (.getfield 44, 3) := by decide +kernel
theorem dX7_note_26 : decode cX7_note 26 = .ok (.aload_n 0, 1) := by decide +kernel
theorem dX7_note_27 : decode cX7_note 27 = .ok (.getfield 126, 3) := by decide +kernel
theorem dX7_note_30 : decode cX7_note 30 = .ok (.iload_n 1, 1) := by decide +kernel
theorem dX7_note_31 : decode cX7_note 31 = .ok (.iastore, 1) := by decide +kernel
theorem dX7_note_32 : decode cX7_note 32 = .ok (.aload_n 0, 1) := by decide +kernel
theorem dX7_note_33 : decode cX7_note 33 = .ok (.dup, 1) := by decide +kernel
theorem dX7_note_34 : decode cX7_note 34 = .ok (.getfield 126, 3) := by decide +kernel
theorem dX7_note_37 : decode cX7_note 37 = .ok (.iconst 1, 1) := by decide +kernel
theorem dX7_note_38 : decode cX7_note 38 = .ok (.iadd, 1) := by decide +kernel
theorem dX7_note_39 : decode cX7_note 39 = .ok (.putfield 126, 3) := by decide +kernel
theorem dX7_note_42 : decode cX7_note 42 = .ok (.aload_n 0, 1) := by decide +kernel
theorem dX7_note_43 : decode cX7_note 43 = .ok (.getfield 126, 3) := by decide +kernel
theorem dX7_note_46 : decode cX7_note 46 = .ok (.ireturn, 1) := by decide +kernel
theorem dX7_forget_0 : decode cX7_forget 0 = .ok (.aload_n 0, 1) := by decide +kernel
theorem dX7_forget_1 : decode cX7_forget 1 = .ok (.getfield 126, 3) := by decide +kernel
theorem dX7_forget_4 : decode cX7_forget 4 = .ok (.istore_n 1, 1) := by decide +kernel
theorem dX7_forget_5 : decode cX7_forget 5 = .ok (.aload_n 0, 1) := by decide +kernel
theorem dX7_forget_6 : decode cX7_forget 6 = .ok (.iconst 0, 1) := by decide +kernel
theorem dX7_forget_7 : decode cX7_forget 7 = .ok (.putfield 126, 3) := by decide +kernel
theorem dX7_forget_10 : decode cX7_forget 10 = .ok (.iload_n 1, 1) := by decide +kernel
theorem dX7_forget_11 : decode cX7_forget 11 = .ok (.ireturn, 1) := by decide +kernel
theorem dX7_fair_0 : decode cX7_fair 0 = .ok (.aload_n 0, 1) := by decide +kernel
theorem dX7_fair_1 : decode cX7_fair 1 = .ok (.iload_n 1, 1) := by decide +kernel
theorem dX7_fair_2 : decode cX7_fair 2 = .ok (.invokevirtual 140, 3) := by decide +kernel
theorem dX7_fair_5 : decode cX7_fair 5 = .ok (.ifCond .eq 22, 3) := by decide +kernel
theorem dX7_fair_8 : decode cX7_fair 8 = .ok (.iload_n 2, 1) := by decide +kernel
theorem dX7_fair_9 : decode cX7_fair 9 = .ok (.iconst 1, 1) := by decide +kernel
theorem dX7_fair_10 : decode cX7_fair 10 = .ok (.bipush 9, 2) := by decide +kernel
theorem dX7_fair_12 : decode cX7_fair 12 = .ok (.invokestatic 60, 3) := by decide +kernel
theorem dX7_fair_15 : decode cX7_fair 15 = .ok (.ifCond .eq 12, 3) := by decide +kernel
theorem dX7_fair_18 : decode cX7_fair 18 = .ok (.iload_n 3, 1) := by decide +kernel
theorem dX7_fair_19 : decode cX7_fair 19 = .ok (.iconst 0, 1) := by decide +kernel
theorem dX7_fair_20 : decode cX7_fair 20 = .ok (.iconst 1, 1) := by decide +kernel
theorem dX7_fair_21 : decode cX7_fair 21 = .ok (.invokestatic 60, 3) := by decide +kernel
theorem dX7_fair_24 : decode cX7_fair 24 = .ok (.ifCond .ne 7, 3) := by decide +kernel
theorem dX7_fair_27 : decode cX7_fair 27 = .ok (.ldc2_w 172, 3) := by decide +kernel
theorem dX7_fair_30 : decode cX7_fair 30 = .ok (.lreturn, 1) := by decide +kernel
theorem dX7_fair_31 : decode cX7_fair 31 = .ok (.iconst 0, 1) := by decide +kernel
theorem dX7_fair_32 : decode cX7_fair 32 = .ok (.istore 4, 2) := by decide +kernel
theorem dX7_fair_34 : decode cX7_fair 34 = .ok (.iconst 0, 1) := by decide +kernel
theorem dX7_fair_35 : decode cX7_fair 35 = .ok (.istore 5, 2) := by decide +kernel
theorem dX7_fair_37 : decode cX7_fair 37 = .ok (.iload 5, 2) := by decide +kernel
theorem dX7_fair_39 : decode cX7_fair 39 = .ok (.aload_n 0, 1) := by decide +kernel
theorem dX7_fair_40 : decode cX7_fair 40 = .ok (.getfield 13, 3) := by decide +kernel
theorem dX7_fair_43 : decode cX7_fair 43 = .ok (.iconst 0, 1) := by decide +kernel
theorem dX7_fair_44 : decode cX7_fair 44 = .ok (.iaload, 1) := by decide +kernel
theorem dX7_fair_45 : decode cX7_fair 45 = .ok (.if_icmp .ge 21, 3) := by decide +kernel
theorem dX7_fair_48 : decode cX7_fair 48 = .ok (.iload 4, 2) := by decide +kernel
theorem dX7_fair_50 : decode cX7_fair 50 = .ok (.aload_n 0, 1) := by decide +kernel
theorem dX7_fair_51 : decode cX7_fair 51 = .ok (.getfield 20, 3) := by decide +kernel
theorem dX7_fair_54 : decode cX7_fair 54 = .ok (.iload 5, 2) := by decide +kernel
theorem dX7_fair_56 : decode cX7_fair 56 = .ok (.iaload, 1) := by decide +kernel
theorem dX7_fair_57 : decode cX7_fair 57 = .ok (.iadd, 1) := by decide +kernel
theorem dX7_fair_58 : decode cX7_fair 58 = .ok (.istore 4, 2) := by decide +kernel
theorem dX7_fair_60 : decode cX7_fair 60 = .ok (.iinc 5 1, 3) := by decide +kernel
theorem dX7_fair_63 : decode cX7_fair 63 = .ok (.goto (-26), 3) := by decide +kernel
theorem dX7_fair_66 : decode cX7_fair 66 = .ok (.iload_n 2, 1) := by decide +kernel
theorem dX7_fair_67 : decode cX7_fair 67 = .ok (.i2l, 1) := by decide +kernel
theorem dX7_fair_68 : decode cX7_fair 68 = .ok (.lstore 5, 2) := by decide +kernel
theorem dX7_fair_70 : decode cX7_fair 70 = .ok (.ldc2_w 178, 3) := by decide +kernel
theorem dX7_fair_73 : decode cX7_fair 73 = .ok (.iload_n 2, 1) := by decide +kernel
theorem dX7_fair_74 : decode cX7_fair 74 = .ok (.i2l, 1) := by decide +kernel
theorem dX7_fair_75 : decode cX7_fair 75 = .ok (.lsub, 1) := by decide +kernel
theorem dX7_fair_76 : decode cX7_fair 76 = .ok (.lstore 7, 2) := by decide +kernel
theorem dX7_fair_78 : decode cX7_fair 78 = .ok (.iconst 0, 1) := by decide +kernel
theorem dX7_fair_79 : decode cX7_fair 79 = .ok (.istore 9, 2) := by decide +kernel
theorem dX7_fair_81 : decode cX7_fair 81 = .ok (.iload 9, 2) := by decide +kernel
theorem dX7_fair_83 : decode cX7_fair 83 = .ok (.aload_n 0, 1) := by decide +kernel
theorem dX7_fair_84 : decode cX7_fair 84 = .ok (.getfield 126, 3) := by decide +kernel
theorem dX7_fair_87 : decode cX7_fair 87 = .ok (.if_icmp .ge 72, 3) := by decide +kernel
theorem dX7_fair_90 : decode cX7_fair 90 = .ok (.aload_n 0, 1) := by decide +kernel
theorem dX7_fair_91 : decode cX7_fair 91 = .ok (.getfield 20, 3) := by decide +kernel
theorem dX7_fair_94 : decode cX7_fair 94 = .ok (.aload_n 0, 1) := by decide +kernel
theorem dX7_fair_95 : decode cX7_fair 95 = .ok (.getfield 44, 3) := by decide +kernel
theorem dX7_fair_98 : decode cX7_fair 98 = .ok (.iload 9, 2) := by decide +kernel
theorem dX7_fair_100 : decode cX7_fair 100 = .ok (.iaload, 1) := by decide +kernel
theorem dX7_fair_101 : decode cX7_fair 101 = .ok (.iaload, 1) := by decide +kernel
theorem dX7_fair_102 : decode cX7_fair 102 = .ok (.ifCond .ne 7, 3) := by decide +kernel
theorem dX7_fair_105 : decode cX7_fair 105 = .ok (.ldc2_w 195, 3) := by decide +kernel
theorem dX7_fair_108 : decode cX7_fair 108 = .ok (.lreturn, 1) := by decide +kernel
theorem dX7_fair_109 : decode cX7_fair 109 = .ok (.lload 5, 2) := by decide +kernel
theorem dX7_fair_111 : decode cX7_fair 111 = .ok (.aload_n 0, 1) := by decide +kernel
theorem dX7_fair_112 : decode cX7_fair 112 = .ok (.getfield 44, 3) := by decide +kernel
theorem dX7_fair_115 : decode cX7_fair 115 = .ok (.iload 9, 2) := by decide +kernel
theorem dX7_fair_117 : decode cX7_fair 117 = .ok (.iaload, 1) := by decide +kernel
theorem dX7_fair_118 : decode cX7_fair 118 = .ok (.iload_n 1, 1) := by decide +kernel
theorem dX7_fair_119 : decode cX7_fair 119 = .ok (.if_icmp .ne 13, 3) := by decide +kernel
theorem dX7_fair_122 : decode cX7_fair 122 = .ok (.ldc2_w 197, 3) := by decide +kernel
theorem dX7_fair_125 : decode cX7_fair 125 = .ok (.iload 4, 2) := by decide +kernel
theorem dX7_fair_127 : decode cX7_fair 127 = .ok (.i2l, 1) := by decide +kernel
theorem dX7_fair_128 : decode cX7_fair 128 = .ok (.lmul, 1) := by decide +kernel
theorem dX7_fair_129 : decode cX7_fair 129 = .ok (.goto 6, 3) := by decide +kernel
theorem dX7_fair_132 : decode cX7_fair 132 = .ok (.iload 4, 2) := by decide +kernel
theorem dX7_fair_134 : decode cX7_fair 134 = .ok (.i2l, 1) := by decide +kernel
theorem dX7_fair_135 : decode cX7_fair 135 = .ok (.lmul, 1) := by decide +kernel
theorem dX7_fair_136 : decode cX7_fair 136 = .ok (.lstore 5, 2) := by decide +kernel
theorem dX7_fair_138 : decode cX7_fair 138 = .ok (.lload 7, 2) := by decide +kernel
theorem dX7_fair_140 : decode cX7_fair 140 = .ok (.iload 4, 2) := by decide +kernel
theorem dX7_fair_142 : decode cX7_fair 142 = .ok (.aload_n 0, 1) := by decide +kernel
theorem dX7_fair_143 : decode cX7_fair 143 = .ok (.getfield 20, 3) := by decide +kernel
theorem dX7_fair_146 : decode cX7_fair 146 = .ok (.iload_n 1, 1) := by decide +kernel
theorem dX7_fair_147 : decode cX7_fair 147 = .ok (.iaload, 1) := by decide +kernel
theorem dX7_fair_148 : decode cX7_fair 148 = .ok (.iadd, 1) := by decide +kernel
theorem dX7_fair_149 : decode cX7_fair 149 = .ok (.i2l, 1) := by decide +kernel
theorem dX7_fair_150 : decode cX7_fair 150 = .ok (.lmul, 1) := by decide +kernel
theorem dX7_fair_151 : decode cX7_fair 151 = .ok (.lstore 7, 2) := by decide +kernel
theorem dX7_fair_153 : decode cX7_fair 153 = .ok (.iinc 9 1, 3) := by decide +kernel
theorem dX7_fair_156 : decode cX7_fair 156 = .ok (.goto (-75), 3) := by decide +kernel
theorem dX7_fair_159 : decode cX7_fair 159 = .ok (.lload 5, 2) := by decide +kernel
theorem dX7_fair_161 : decode cX7_fair 161 = .ok (.lload 5, 2) := by decide +kernel
theorem dX7_fair_163 : decode cX7_fair 163 = .ok (.lload 7, 2) := by decide +kernel
theorem dX7_fair_165 : decode cX7_fair 165 = .ok (.ladd, 1) := by decide +kernel
theorem dX7_fair_166 : decode cX7_fair 166 = .ok (.invokestatic 168, 3) := by decide +kernel
theorem dX7_fair_169 : decode cX7_fair 169 = .ok (.lstore 9, 2) := by decide +kernel
theorem dX7_fair_171 : decode cX7_fair 171 = .ok (.iload_n 3, 1) := by decide +kernel
theorem dX7_fair_172 : decode cX7_fair 172 = .ok (.ifCond .ne 11, 3) := by decide +kernel
theorem dX7_fair_175 : decode cX7_fair 175 = .ok (.lload 5, 2) := by decide +kernel
theorem dX7_fair_177 : decode cX7_fair 177 = .ok (.lload 9, 2) := by decide +kernel
theorem dX7_fair_179 : decode cX7_fair 179 = .ok (.ldiv, 1) := by decide +kernel
theorem dX7_fair_180 : decode cX7_fair 180 = .ok (.goto 11, 3) := by decide +kernel
theorem dX7_fair_183 : decode cX7_fair 183 = .ok (.lload 5, 2) := by decide +kernel
theorem dX7_fair_185 : decode cX7_fair 185 = .ok (.lload 7, 2) := by decide +kernel
theorem dX7_fair_187 : decode cX7_fair 187 = .ok (.ladd, 1) := by decide +kernel
theorem dX7_fair_188 : decode cX7_fair 188 = .ok (.lload 9, 2) := by decide +kernel
theorem dX7_fair_190 : decode cX7_fair 190 = .ok (.ldiv, 1) := by decide +kernel
theorem dX7_fair_191 : decode cX7_fair 191 = .ok (.lreturn, 1) := by decide +kernel
theorem dX7_seats_0 : decode cX7_seats 0 = .ok (.iload_n 1, 1) := by decide +kernel
theorem dX7_seats_1 : decode cX7_seats 1 = .ok (.iconst 0, 1) := by decide +kernel
theorem dX7_seats_2 : decode cX7_seats 2 = .ok (.bipush 8, 2) := by decide +kernel
theorem dX7_seats_4 : decode cX7_seats 4 = .ok (.invokestatic 60, 3) := by decide +kernel
theorem dX7_seats_7 : decode cX7_seats 7 = .ok (.ifCond .ne 7, 3) := by decide +kernel
theorem dX7_seats_10 : decode cX7_seats 10 = .ok (.ldc2_w 172, 3) := by decide +kernel
theorem dX7_seats_13 : decode cX7_seats 13 = .ok (.lreturn, 1) := by decide +kernel
theorem dX7_seats_14 : decode cX7_seats 14 = .ok (.lconst 1, 1) := by decide +kernel
theorem dX7_seats_15 : decode cX7_seats 15 = .ok (.lstore_n 2, 1) := by decide +kernel
theorem dX7_seats_16 : decode cX7_seats 16 = .ok (.iconst 0, 1) := by decide +kernel
theorem dX7_seats_17 : decode cX7_seats 17 = .ok (.istore 4, 2) := by decide +kernel
theorem dX7_seats_19 : decode cX7_seats 19 = .ok (.iload 4, 2) := by decide +kernel
theorem dX7_seats_21 : decode cX7_seats 21 = .ok (.iconst 5, 1) := by decide +kernel
theorem dX7_seats_22 : decode cX7_seats 22 = .ok (.if_icmp .ge 17, 3) := by decide +kernel
theorem dX7_seats_25 : decode cX7_seats 25 = .ok (.aload_n 0, 1) := by decide +kernel
theorem dX7_seats_26 : decode cX7_seats 26 = .ok (.getfield 47, 3) := by decide +kernel
theorem dX7_seats_29 : decode cX7_seats 29 = .ok (.iload 4, 2) := by decide +kernel
theorem dX7_seats_31 : decode cX7_seats 31 = .ok (.lconst 0, 1) := by decide +kernel
theorem dX7_seats_32 : decode cX7_seats 32 = .ok (.lastore, 1) := by decide +kernel
theorem dX7_seats_33 : decode cX7_seats 33 = .ok (.iinc 4 1, 3) := by decide +kernel
theorem dX7_seats_36 : decode cX7_seats 36 = .ok (.goto (-17), 3) := by decide +kernel
theorem dX7_seats_39 : decode cX7_seats 39 = .ok (.iconst 0, 1) := by decide +kernel
theorem dX7_seats_40 : decode cX7_seats 40 = .ok (.istore 4, 2) := by decide +kernel
theorem dX7_seats_42 : decode cX7_seats 42 = .ok (.iload 4, 2) := by decide +kernel
theorem dX7_seats_44 : decode cX7_seats 44 = .ok (.iload_n 1, 1) := by decide +kernel
theorem dX7_seats_45 : decode cX7_seats 45 = .ok (.if_icmp .ge 106, 3) := by decide +kernel
theorem dX7_seats_48 : decode cX7_seats 48 = .ok (.lconst 0, 1) := by decide +kernel
theorem dX7_seats_49 : decode cX7_seats 49 = .ok (.lstore 5, 2) := by decide +kernel
theorem dX7_seats_51 : decode cX7_seats 51 = .ok (.iconst 0, 1) := by decide +kernel
theorem dX7_seats_52 : decode cX7_seats 52 = .ok (.istore 7, 2) := by decide +kernel
theorem dX7_seats_54 : decode cX7_seats 54 = .ok (.iload 7, 2) := by decide +kernel
theorem dX7_seats_56 : decode cX7_seats 56 = .ok (.aload_n 0, 1) := by decide +kernel
theorem dX7_seats_57 : decode cX7_seats 57 = .ok (.getfield 13, 3) := by decide +kernel
theorem dX7_seats_60 : decode cX7_seats 60 = .ok (.iconst 0, 1) := by decide +kernel
theorem dX7_seats_61 : decode cX7_seats 61 = .ok (.iaload, 1) := by decide +kernel
theorem dX7_seats_62 : decode cX7_seats 62 = .ok (.if_icmp .ge 46, 3) := by decide +kernel
theorem dX7_seats_65 : decode cX7_seats 65 = .ok (.aload_n 0, 1) := by decide +kernel
theorem dX7_seats_66 : decode cX7_seats 66 = .ok (.getfield 51, 3) := by decide +kernel
theorem dX7_seats_69 : decode cX7_seats 69 = .ok (.iload 7, 2) := by decide +kernel
theorem dX7_seats_71 : decode cX7_seats 71 = .ok (.aload_n 0, 1) := by decide +kernel
theorem dX7_seats_72 : decode cX7_seats 72 = .ok (.getfield 20, 3) := by decide +kernel
theorem dX7_seats_75 : decode cX7_seats 75 = .ok (.iload 7, 2) := by decide +kernel
theorem dX7_seats_77 : decode cX7_seats 77 = .ok (.iaload, 1) := by decide +kernel
theorem dX7_seats_78 : decode cX7_seats 78 = .ok (.i2l, 1) := by decide +kernel
theorem dX7_seats_79 : decode cX7_seats 79 = .ok (.lload_n 2, 1) := by decide +kernel
theorem dX7_seats_80 : decode cX7_seats 80 = .ok (.aload_n 0, 1) := by decide +kernel
theorem dX7_seats_81 : decode cX7_seats 81 = .ok (.getfield 47, 3) := by decide +kernel
theorem dX7_seats_84 : decode cX7_seats 84 = .ok (.iload 7, 2) := by decide +kernel
theorem dX7_seats_86 : decode cX7_seats 86 = .ok (.laload, 1) := by decide +kernel
theorem dX7_seats_87 : decode cX7_seats 87 = .ok (.lsub, 1) := by decide +kernel
theorem dX7_seats_88 : decode cX7_seats 88 = .ok (.lmul, 1) := by decide +kernel
theorem dX7_seats_89 : decode cX7_seats 89 = .ok (.lastore, 1) := by decide +kernel
theorem dX7_seats_90 : decode cX7_seats 90 = .ok (.lload 5, 2) := by decide +kernel
theorem dX7_seats_92 : decode cX7_seats 92 = .ok (.aload_n 0, 1) := by decide +kernel
theorem dX7_seats_93 : decode cX7_seats 93 = .ok (.getfield 51, 3) := by decide +kernel
theorem dX7_seats_96 : decode cX7_seats 96 = .ok (.iload 7, 2) := by decide +kernel
theorem dX7_seats_98 : decode cX7_seats 98 = .ok (.laload, 1) := by decide +kernel
theorem dX7_seats_99 : decode cX7_seats 99 = .ok (.ladd, 1) := by decide +kernel
theorem dX7_seats_100 : decode cX7_seats 100 = .ok (.lstore 5, 2) := by decide +kernel
theorem dX7_seats_102 : decode cX7_seats 102 = .ok (.iinc 7 1, 3) := by decide +kernel
theorem dX7_seats_105 : decode cX7_seats 105 = .ok (.goto (-51), 3) := by decide +kernel
theorem dX7_seats_108 : decode cX7_seats 108 = .ok (.iconst 0, 1) := by decide +kernel
theorem dX7_seats_109 : decode cX7_seats 109 = .ok (.istore 7, 2) := by decide +kernel
theorem dX7_seats_111 : decode cX7_seats 111 = .ok (.iload 7, 2) := by decide +kernel
theorem dX7_seats_113 : decode cX7_seats 113 = .ok (.aload_n 0, 1) := by decide +kernel
theorem dX7_seats_114 : decode cX7_seats 114 = .ok (.getfield 13, 3) := by decide +kernel
theorem dX7_seats_117 : decode cX7_seats 117 = .ok (.iconst 0, 1) := by decide +kernel
theorem dX7_seats_118 : decode cX7_seats 118 = .ok (.iaload, 1) := by decide +kernel
theorem dX7_seats_119 : decode cX7_seats 119 = .ok (.if_icmp .ge 23, 3) := by decide +kernel
theorem dX7_seats_122 : decode cX7_seats 122 = .ok (.aload_n 0, 1) := by decide +kernel
theorem dX7_seats_123 : decode cX7_seats 123 = .ok (.getfield 47, 3) := by decide +kernel
theorem dX7_seats_126 : decode cX7_seats 126 = .ok (.iload 7, 2) := by decide +kernel
theorem dX7_seats_128 : decode cX7_seats 128 = .ok (.aload_n 0, 1) := by decide +kernel
theorem dX7_seats_129 : decode cX7_seats 129 = .ok (.getfield 51, 3) := by decide +kernel
theorem dX7_seats_132 : decode cX7_seats 132 = .ok (.iload 7, 2) := by decide +kernel
theorem dX7_seats_134 : decode cX7_seats 134 = .ok (.laload, 1) := by decide +kernel
theorem dX7_seats_135 : decode cX7_seats 135 = .ok (.lastore, 1) := by decide +kernel
theorem dX7_seats_136 : decode cX7_seats 136 = .ok (.iinc 7 1, 3) := by decide +kernel
theorem dX7_seats_139 : decode cX7_seats 139 = .ok (.goto (-28), 3) := by decide +kernel
theorem dX7_seats_142 : decode cX7_seats 142 = .ok (.lload 5, 2) := by decide +kernel
theorem dX7_seats_144 : decode cX7_seats 144 = .ok (.lstore_n 2, 1) := by decide +kernel
theorem dX7_seats_145 : decode cX7_seats 145 = .ok (.iinc 4 1, 3) := by decide +kernel
theorem dX7_seats_148 : decode cX7_seats 148 = .ok (.goto (-106), 3) := by decide +kernel
theorem dX7_seats_151 : decode cX7_seats 151 = .ok (.lload_n 2, 1) := by decide +kernel
theorem dX7_seats_152 : decode cX7_seats 152 = .ok (.lreturn, 1) := by decide +kernel
theorem dX7_turn_0 : decode cX7_turn 0 = .ok (.aload_n 0, 1) := by decide +kernel
theorem dX7_turn_1 : decode cX7_turn 1 = .ok (.getfield 41, 3) := by decide +kernel
theorem dX7_turn_4 : decode cX7_turn 4 = .ok (.invokestatic 147, 3) := by decide +kernel
theorem dX7_turn_7 : decode cX7_turn 7 = .ok (.istore_n 2, 1) := by decide +kernel
theorem dX7_turn_8 : decode cX7_turn 8 = .ok (.iload_n 1, 1) := by decide +kernel
theorem dX7_turn_9 : decode cX7_turn 9 = .ok (.iconst 4, 1) := by decide +kernel
theorem dX7_turn_10 : decode cX7_turn 10 = .ok (.irem, 1) := by decide +kernel
theorem dX7_turn_11 : decode cX7_turn 11 = .ok (.tableswitch 181 0 2 #[25, 61, 118], 25) := by decide +kernel
theorem dX7_turn_36 : decode cX7_turn 36 = .ok (.iload_n 2, 1) := by decide +kernel
theorem dX7_turn_37 : decode cX7_turn 37 = .ok (.ifCond .le 155, 3) := by decide +kernel
theorem dX7_turn_40 : decode cX7_turn 40 = .ok (.aload_n 0, 1) := by decide +kernel
theorem dX7_turn_41 : decode cX7_turn 41 = .ok (.getfield 41, 3) := by decide +kernel
theorem dX7_turn_44 : decode cX7_turn 44 = .ok (.bipush 11, 2) := by decide +kernel
theorem dX7_turn_46 : decode cX7_turn 46 = .ok (.iaload, 1) := by decide +kernel
theorem dX7_turn_47 : decode cX7_turn 47 = .ok (.aload_n 0, 1) := by decide +kernel
theorem dX7_turn_48 : decode cX7_turn 48 = .ok (.getfield 17, 3) := by decide +kernel
theorem dX7_turn_51 : decode cX7_turn 51 = .ok (.iconst 0, 1) := by decide +kernel
theorem dX7_turn_52 : decode cX7_turn 52 = .ok (.iaload, 1) := by decide +kernel
theorem dX7_turn_53 : decode cX7_turn 53 = .ok (.if_icmp .ge 139, 3) := by decide +kernel
theorem dX7_turn_56 : decode cX7_turn 56 = .ok (.aload_n 0, 1) := by decide +kernel
theorem dX7_turn_57 : decode cX7_turn 57 = .ok (.getfield 41, 3) := by decide +kernel
theorem dX7_turn_60 : decode cX7_turn 60 = .ok (.iload_n 1, 1) := by decide +kernel
theorem dX7_turn_61 : decode cX7_turn 61 = .ok (.iconst 4, 1) := by decide +kernel
theorem dX7_turn_62 : decode cX7_turn 62 = .ok (.idiv, 1) := by decide +kernel
theorem dX7_turn_63 : decode cX7_turn 63 = .ok (.iload_n 2, 1) := by decide +kernel
theorem dX7_turn_64 : decode cX7_turn 64 = .ok (.irem, 1) := by decide +kernel
theorem dX7_turn_65 : decode cX7_turn 65 = .ok (.invokestatic 154, 3) := by decide +kernel
theorem dX7_turn_68 : decode cX7_turn 68 = .ok (.pop, 1) := by decide +kernel
theorem dX7_turn_69 : decode cX7_turn 69 = .ok (.goto 123, 3) := by decide +kernel
theorem dX7_turn_72 : decode cX7_turn 72 = .ok (.iload_n 1, 1) := by decide +kernel
theorem dX7_turn_73 : decode cX7_turn 73 = .ok (.iconst 4, 1) := by decide +kernel
theorem dX7_turn_74 : decode cX7_turn 74 = .ok (.idiv, 1) := by decide +kernel
theorem dX7_turn_75 : decode cX7_turn 75 = .ok (.aload_n 0, 1) := by decide +kernel
theorem dX7_turn_76 : decode cX7_turn 76 = .ok (.getfield 13, 3) := by decide +kernel
theorem dX7_turn_79 : decode cX7_turn 79 = .ok (.iconst 0, 1) := by decide +kernel
theorem dX7_turn_80 : decode cX7_turn 80 = .ok (.iaload, 1) := by decide +kernel
theorem dX7_turn_81 : decode cX7_turn 81 = .ok (.irem, 1) := by decide +kernel
theorem dX7_turn_82 : decode cX7_turn 82 = .ok (.istore_n 3, 1) := by decide +kernel
theorem dX7_turn_83 : decode cX7_turn 83 = .ok (.iload_n 1, 1) := by decide +kernel
theorem dX7_turn_84 : decode cX7_turn 84 = .ok (.bipush 64, 2) := by decide +kernel
theorem dX7_turn_86 : decode cX7_turn 86 = .ok (.idiv, 1) := by decide +kernel
theorem dX7_turn_87 : decode cX7_turn 87 = .ok (.iconst 3, 1) := by decide +kernel
theorem dX7_turn_88 : decode cX7_turn 88 = .ok (.irem, 1) := by decide +kernel
theorem dX7_turn_89 : decode cX7_turn 89 = .ok (.iconst 1, 1) := by decide +kernel
theorem dX7_turn_90 : decode cX7_turn 90 = .ok (.iadd, 1) := by decide +kernel
theorem dX7_turn_91 : decode cX7_turn 91 = .ok (.istore 4, 2) := by decide +kernel
theorem dX7_turn_93 : decode cX7_turn 93 = .ok (.aload_n 0, 1) := by decide +kernel
theorem dX7_turn_94 : decode cX7_turn 94 = .ok (.getfield 41, 3) := by decide +kernel
theorem dX7_turn_97 : decode cX7_turn 97 = .ok (.iconst 0, 1) := by decide +kernel
theorem dX7_turn_98 : decode cX7_turn 98 = .ok (.iload_n 3, 1) := by decide +kernel
theorem dX7_turn_99 : decode cX7_turn 99 = .ok (.iadd, 1) := by decide +kernel
theorem dX7_turn_100 : decode cX7_turn 100 = .ok (.dup2, 1) := by decide +kernel
theorem dX7_turn_101 : decode cX7_turn 101 = .ok (.iaload, 1) := by decide +kernel
theorem dX7_turn_102 : decode cX7_turn 102 = .ok (.aload_n 0, 1) := by decide +kernel
theorem dX7_turn_103 : decode cX7_turn 103 = .ok (.getfield 41, 3) := by decide +kernel
theorem dX7_turn_106 : decode cX7_turn 106 = .ok (.iconst 0, 1) := by decide +kernel
theorem dX7_turn_107 : decode cX7_turn 107 = .ok (.iload_n 3, 1) := by decide +kernel
theorem dX7_turn_108 : decode cX7_turn 108 = .ok (.iadd, 1) := by decide +kernel
theorem dX7_turn_109 : decode cX7_turn 109 = .ok (.iaload, 1) := by decide +kernel
theorem dX7_turn_110 : decode cX7_turn 110 = .ok (.iload 4, 2) := by decide +kernel
theorem dX7_turn_112 : decode cX7_turn 112 = .ok (.iadd, 1) := by decide +kernel
theorem dX7_turn_113 : decode cX7_turn 113 = .ok (.bipush 9, 2) := by decide +kernel
theorem dX7_turn_115 : decode cX7_turn 115 = .ok (.if_icmp .le 7, 3) := by decide +kernel
theorem dX7_turn_118 : decode cX7_turn 118 = .ok (.iconst 0, 1) := by decide +kernel
theorem dX7_turn_119 : decode cX7_turn 119 = .ok (.goto 5, 3) := by decide +kernel
theorem dX7_turn_122 : decode cX7_turn 122 = .ok (.iload 4, 2) := by decide +kernel
theorem dX7_turn_124 : decode cX7_turn 124 = .ok (.iadd, 1) := by decide +kernel
theorem dX7_turn_125 : decode cX7_turn 125 = .ok (.iastore, 1) := by decide +kernel
theorem dX7_turn_126 : decode cX7_turn 126 = .ok (.goto 66, 3) := by decide +kernel
theorem dX7_turn_129 : decode cX7_turn 129 = .ok (.aload_n 0, 1) := by decide +kernel
theorem dX7_turn_130 : decode cX7_turn 130 = .ok (.getfield 17, 3) := by decide +kernel
theorem dX7_turn_133 : decode cX7_turn 133 = .ok (.iconst 0, 1) := by decide +kernel
theorem dX7_turn_134 : decode cX7_turn 134 = .ok (.iaload, 1) := by decide +kernel
theorem dX7_turn_135 : decode cX7_turn 135 = .ok (.ifCond .le 57, 3) := by decide +kernel
theorem dX7_turn_138 : decode cX7_turn 138 = .ok (.iload_n 1, 1) := by decide +kernel
theorem dX7_turn_139 : decode cX7_turn 139 = .ok (.iconst 4, 1) := by decide +kernel
theorem dX7_turn_140 : decode cX7_turn 140 = .ok (.idiv, 1) := by decide +kernel
theorem dX7_turn_141 : decode cX7_turn 141 = .ok (.aload_n 0, 1) := by decide +kernel
theorem dX7_turn_142 : decode cX7_turn 142 = .ok (.getfield 17, 3) := by decide +kernel
theorem dX7_turn_145 : decode cX7_turn 145 = .ok (.iconst 0, 1) := by decide +kernel
theorem dX7_turn_146 : decode cX7_turn 146 = .ok (.iaload, 1) := by decide +kernel
theorem dX7_turn_147 : decode cX7_turn 147 = .ok (.irem, 1) := by decide +kernel
theorem dX7_turn_148 : decode cX7_turn 148 = .ok (.istore 5, 2) := by decide +kernel
theorem dX7_turn_150 : decode cX7_turn 150 = .ok (.aload_n 0, 1) := by decide +kernel
theorem dX7_turn_151 : decode cX7_turn 151 = .ok (.getfield 41, 3) := by decide +kernel
theorem dX7_turn_154 : decode cX7_turn 154 = .ok (.iconst 5, 1) := by decide +kernel
theorem dX7_turn_155 : decode cX7_turn 155 = .ok (.iload 5, 2) := by decide +kernel
theorem dX7_turn_157 : decode cX7_turn 157 = .ok (.iadd, 1) := by decide +kernel
theorem dX7_turn_158 : decode cX7_turn 158 = .ok (.aload_n 0, 1) := by decide +kernel
theorem dX7_turn_159 : decode cX7_turn 159 = .ok (.getfield 41, 3) := by decide +kernel
theorem dX7_turn_162 : decode cX7_turn 162 = .ok (.iconst 5, 1) := by decide +kernel
theorem dX7_turn_163 : decode cX7_turn 163 = .ok (.iload 5, 2) := by decide +kernel
theorem dX7_turn_165 : decode cX7_turn 165 = .ok (.iadd, 1) := by decide +kernel
theorem dX7_turn_166 : decode cX7_turn 166 = .ok (.iaload, 1) := by decide +kernel
theorem dX7_turn_167 : decode cX7_turn 167 = .ok (.bipush (-4), 2) := by decide +kernel
theorem dX7_turn_169 : decode cX7_turn 169 = .ok (.if_icmp .ne 8, 3) := by decide +kernel
theorem dX7_turn_172 : decode cX7_turn 172 = .ok (.bipush (-4), 2) := by decide +kernel
theorem dX7_turn_174 : decode cX7_turn 174 = .ok (.goto 14, 3) := by decide +kernel
theorem dX7_turn_177 : decode cX7_turn 177 = .ok (.iload_n 1, 1) := by decide +kernel
theorem dX7_turn_178 : decode cX7_turn 178 = .ok (.bipush 64, 2) := by decide +kernel
theorem dX7_turn_180 : decode cX7_turn 180 = .ok (.idiv, 1) := by decide +kernel
theorem dX7_turn_181 : decode cX7_turn 181 = .ok (.aload_n 0, 1) := by decide +kernel
theorem dX7_turn_182 : decode cX7_turn 182 = .ok (.getfield 13, 3) := by decide +kernel
theorem dX7_turn_185 : decode cX7_turn 185 = .ok (.iconst 0, 1) := by decide +kernel
theorem dX7_turn_186 : decode cX7_turn 186 = .ok (.iaload, 1) := by decide +kernel
theorem dX7_turn_187 : decode cX7_turn 187 = .ok (.irem, 1) := by decide +kernel
theorem dX7_turn_188 : decode cX7_turn 188 = .ok (.iastore, 1) := by decide +kernel
theorem dX7_turn_189 : decode cX7_turn 189 = .ok (.goto 3, 3) := by decide +kernel
theorem dX7_turn_192 : decode cX7_turn 192 = .ok (.return_, 1) := by decide +kernel
theorem dX7_year_0 : decode cX7_year 0 = .ok (.iload_n 1, 1) := by decide +kernel
theorem dX7_year_1 : decode cX7_year 1 = .ok (.iconst 0, 1) := by decide +kernel
theorem dX7_year_2 : decode cX7_year 2 = .ok (.sipush 9999, 3) := by decide +kernel
theorem dX7_year_5 : decode cX7_year 5 = .ok (.invokestatic 60, 3) := by decide +kernel
theorem dX7_year_8 : decode cX7_year 8 = .ok (.ifCond .eq 22, 3) := by decide +kernel
theorem dX7_year_11 : decode cX7_year 11 = .ok (.iload_n 2, 1) := by decide +kernel
theorem dX7_year_12 : decode cX7_year 12 = .ok (.iconst 1, 1) := by decide +kernel
theorem dX7_year_13 : decode cX7_year 13 = .ok (.bipush 60, 2) := by decide +kernel
theorem dX7_year_15 : decode cX7_year 15 = .ok (.invokestatic 60, 3) := by decide +kernel
theorem dX7_year_18 : decode cX7_year 18 = .ok (.ifCond .eq 12, 3) := by decide +kernel
theorem dX7_year_21 : decode cX7_year 21 = .ok (.iload_n 3, 1) := by decide +kernel
theorem dX7_year_22 : decode cX7_year 22 = .ok (.iconst 0, 1) := by decide +kernel
theorem dX7_year_23 : decode cX7_year 23 = .ok (.iconst 1, 1) := by decide +kernel
theorem dX7_year_24 : decode cX7_year 24 = .ok (.invokestatic 60, 3) := by decide +kernel
theorem dX7_year_27 : decode cX7_year 27 = .ok (.ifCond .ne 5, 3) := by decide +kernel
theorem dX7_year_30 : decode cX7_year 30 = .ok (.iconst (-1), 1) := by decide +kernel
theorem dX7_year_31 : decode cX7_year 31 = .ok (.ireturn, 1) := by decide +kernel
theorem dX7_year_32 : decode cX7_year 32 = .ok (.aload_n 0, 1) := by decide +kernel
theorem dX7_year_33 : decode cX7_year 33 = .ok (.invokevirtual 183, 3) := by decide +kernel
theorem dX7_year_36 : decode cX7_year 36 = .ok (.iconst 0, 1) := by decide +kernel
theorem dX7_year_37 : decode cX7_year 37 = .ok (.istore 4, 2) := by decide +kernel
theorem dX7_year_39 : decode cX7_year 39 = .ok (.iload 4, 2) := by decide +kernel
theorem dX7_year_41 : decode cX7_year 41 = .ok (.iload_n 2, 1) := by decide +kernel
theorem dX7_year_42 : decode cX7_year 42 = .ok (.if_icmp .ge 41, 3) := by decide +kernel
theorem dX7_year_45 : decode cX7_year 45 = .ok (.ldc2_w 199, 3) := by decide +kernel
theorem dX7_year_48 : decode cX7_year 48 = .ok (.iload_n 1, 1) := by decide +kernel
theorem dX7_year_49 : decode cX7_year 49 = .ok (.i2l, 1) := by decide +kernel
theorem dX7_year_50 : decode cX7_year 50 = .ok (.lmul, 1) := by decide +kernel
theorem dX7_year_51 : decode cX7_year 51 = .ok (.ldc2_w 201, 3) := by decide +kernel
theorem dX7_year_54 : decode cX7_year 54 = .ok (.iload 4, 2) := by decide +kernel
theorem dX7_year_56 : decode cX7_year 56 = .ok (.i2l, 1) := by decide +kernel
theorem dX7_year_57 : decode cX7_year 57 = .ok (.lmul, 1) := by decide +kernel
theorem dX7_year_58 : decode cX7_year 58 = .ok (.ladd, 1) := by decide +kernel
theorem dX7_year_59 : decode cX7_year 59 = .ok (.lconst 1, 1) := by decide +kernel
theorem dX7_year_60 : decode cX7_year 60 = .ok (.ladd, 1) := by decide +kernel
theorem dX7_year_61 : decode cX7_year 61 = .ok (.lstore 5, 2) := by decide +kernel
theorem dX7_year_63 : decode cX7_year 63 = .ok (.aload_n 0, 1) := by decide +kernel
theorem dX7_year_64 : decode cX7_year 64 = .ok (.lload 5, 2) := by decide +kernel
theorem dX7_year_66 : decode cX7_year 66 = .ok (.lload 5, 2) := by decide +kernel
theorem dX7_year_68 : decode cX7_year 68 = .ok (.lmul, 1) := by decide +kernel
theorem dX7_year_69 : decode cX7_year 69 = .ok (.ldc2_w 203, 3) := by decide +kernel
theorem dX7_year_72 : decode cX7_year 72 = .ok (.lrem, 1) := by decide +kernel
theorem dX7_year_73 : decode cX7_year 73 = .ok (.l2i, 1) := by decide +kernel
theorem dX7_year_74 : decode cX7_year 74 = .ok (.invokevirtual 205, 3) := by decide +kernel
theorem dX7_year_77 : decode cX7_year 77 = .ok (.iinc 4 1, 3) := by decide +kernel
theorem dX7_year_80 : decode cX7_year 80 = .ok (.goto (-41), 3) := by decide +kernel
theorem dX7_year_83 : decode cX7_year 83 = .ok (.iload_n 3, 1) := by decide +kernel
theorem dX7_year_84 : decode cX7_year 84 = .ok (.ifCond .ne 14, 3) := by decide +kernel
theorem dX7_year_87 : decode cX7_year 87 = .ok (.aload_n 0, 1) := by decide +kernel
theorem dX7_year_88 : decode cX7_year 88 = .ok (.aload_n 0, 1) := by decide +kernel
theorem dX7_year_89 : decode cX7_year 89 = .ok (.getfield 41, 3) := by decide +kernel
theorem dX7_year_92 : decode cX7_year 92 = .ok (.invokevirtual 180, 3) := by decide +kernel
theorem dX7_year_95 : decode cX7_year 95 = .ok (.goto 15, 3) := by decide +kernel
theorem dX7_year_98 : decode cX7_year 98 = .ok (.aload_n 0, 1) := by decide +kernel
theorem dX7_year_99 : decode cX7_year 99 = .ok (.aload_n 0, 1) := by decide +kernel
theorem dX7_year_100 : decode cX7_year 100 = .ok (.getfield 41, 3) := by decide +kernel
theorem dX7_year_103 : decode cX7_year 103 = .ok (.invokevirtual 189, 3) := by decide +kernel
theorem dX7_year_106 : decode cX7_year 106 = .ok (.sipush 1000, 3) := by decide +kernel
theorem dX7_year_109 : decode cX7_year 109 = .ok (.iadd, 1) := by decide +kernel
theorem dX7_year_110 : decode cX7_year 110 = .ok (.ireturn, 1) := by decide +kernel
theorem dX7_keep_0 : decode cX7_keep 0 = .ok (.aload_n 0, 1) := by decide +kernel
theorem dX7_keep_1 : decode cX7_keep 1 = .ok (.getfield 123, 3) := by decide +kernel
theorem dX7_keep_4 : decode cX7_keep 4 = .ok (.iconst 2, 1) := by decide +kernel
theorem dX7_keep_5 : decode cX7_keep 5 = .ok (.if_icmp .ne 6, 3) := by decide +kernel
theorem dX7_keep_8 : decode cX7_keep 8 = .ok (.bipush (-3), 2) := by decide +kernel
theorem dX7_keep_10 : decode cX7_keep 10 = .ok (.ireturn, 1) := by decide +kernel
theorem dX7_keep_11 : decode cX7_keep 11 = .ok (.iconst 0, 1) := by decide +kernel
theorem dX7_keep_12 : decode cX7_keep 12 = .ok (.istore_n 1, 1) := by decide +kernel
theorem dX7_keep_13 : decode cX7_keep 13 = .ok (.iload_n 1, 1) := by decide +kernel
theorem dX7_keep_14 : decode cX7_keep 14 = .ok (.bipush 14, 2) := by decide +kernel
theorem dX7_keep_16 : decode cX7_keep 16 = .ok (.if_icmp .ge 29, 3) := by decide +kernel
theorem dX7_keep_19 : decode cX7_keep 19 = .ok (.aload_n 0, 1) := by decide +kernel
theorem dX7_keep_20 : decode cX7_keep 20 = .ok (.getfield 38, 3) := by decide +kernel
theorem dX7_keep_23 : decode cX7_keep 23 = .ok (.bipush 14, 2) := by decide +kernel
theorem dX7_keep_25 : decode cX7_keep 25 = .ok (.aload_n 0, 1) := by decide +kernel
theorem dX7_keep_26 : decode cX7_keep 26 = .ok (.getfield 123, 3) := by decide +kernel
theorem dX7_keep_29 : decode cX7_keep 29 = .ok (.imul, 1) := by decide +kernel
theorem dX7_keep_30 : decode cX7_keep 30 = .ok (.iload_n 1, 1) := by decide +kernel
theorem dX7_keep_31 : decode cX7_keep 31 = .ok (.iadd, 1) := by decide +kernel
theorem dX7_keep_32 : decode cX7_keep 32 = .ok (.aload_n 0, 1) := by decide +kernel
theorem dX7_keep_33 : decode cX7_keep 33 = .ok (.getfield 32, 3) := by decide +kernel
theorem dX7_keep_36 : decode cX7_keep 36 = .ok (.iload_n 1, 1) := by decide +kernel
theorem dX7_keep_37 : decode cX7_keep 37 = .ok (.iaload, 1) := by decide +kernel
theorem dX7_keep_38 : decode cX7_keep 38 = .ok (.iastore, 1) := by decide +kernel
theorem dX7_keep_39 : decode cX7_keep 39 = .ok (.iinc 1 1, 3) := by decide +kernel
theorem dX7_keep_42 : decode cX7_keep 42 = .ok (.goto (-29), 3) := by decide +kernel
theorem dX7_keep_45 : decode cX7_keep 45 = .ok (.aload_n 0, 1) := by decide +kernel
theorem dX7_keep_46 : decode cX7_keep 46 = .ok (.dup, 1) := by decide +kernel
theorem dX7_keep_47 : decode cX7_keep 47 = .ok (.getfield 123, 3) := by decide +kernel
theorem dX7_keep_50 : decode cX7_keep 50 = .ok (.iconst 1, 1) := by decide +kernel
theorem dX7_keep_51 : decode cX7_keep 51 = .ok (.iadd, 1) := by decide +kernel
theorem dX7_keep_52 : decode cX7_keep 52 = .ok (.putfield 123, 3) := by decide +kernel
theorem dX7_keep_55 : decode cX7_keep 55 = .ok (.aload_n 0, 1) := by decide +kernel
theorem dX7_keep_56 : decode cX7_keep 56 = .ok (.getfield 123, 3) := by decide +kernel
theorem dX7_keep_59 : decode cX7_keep 59 = .ok (.ireturn, 1) := by decide +kernel
theorem dX7_back_0 : decode cX7_back 0 = .ok (.aload_n 0, 1) := by decide +kernel
theorem dX7_back_1 : decode cX7_back 1 = .ok (.getfield 123, 3) := by decide +kernel
theorem dX7_back_4 : decode cX7_back 4 = .ok (.ifCond .ne 6, 3) := by decide +kernel
theorem dX7_back_7 : decode cX7_back 7 = .ok (.bipush (-2), 2) := by decide +kernel
theorem dX7_back_9 : decode cX7_back 9 = .ok (.ireturn, 1) := by decide +kernel
theorem dX7_back_10 : decode cX7_back 10 = .ok (.aload_n 0, 1) := by decide +kernel
theorem dX7_back_11 : decode cX7_back 11 = .ok (.dup, 1) := by decide +kernel
theorem dX7_back_12 : decode cX7_back 12 = .ok (.getfield 123, 3) := by decide +kernel
theorem dX7_back_15 : decode cX7_back 15 = .ok (.iconst 1, 1) := by decide +kernel
theorem dX7_back_16 : decode cX7_back 16 = .ok (.isub, 1) := by decide +kernel
theorem dX7_back_17 : decode cX7_back 17 = .ok (.putfield 123, 3) := by decide +kernel
theorem dX7_back_20 : decode cX7_back 20 = .ok (.iconst 0, 1) := by decide +kernel
theorem dX7_back_21 : decode cX7_back 21 = .ok (.istore_n 1, 1) := by decide +kernel
theorem dX7_back_22 : decode cX7_back 22 = .ok (.iload_n 1, 1) := by decide +kernel
theorem dX7_back_23 : decode cX7_back 23 = .ok (.bipush 14, 2) := by decide +kernel
theorem dX7_back_25 : decode cX7_back 25 = .ok (.if_icmp .ge 29, 3) := by decide +kernel
theorem dX7_back_28 : decode cX7_back 28 = .ok (.aload_n 0, 1) := by decide +kernel
theorem dX7_back_29 : decode cX7_back 29 = .ok (.getfield 32, 3) := by decide +kernel
theorem dX7_back_32 : decode cX7_back 32 = .ok (.iload_n 1, 1) := by decide +kernel
theorem dX7_back_33 : decode cX7_back 33 = .ok (.aload_n 0, 1) := by decide +kernel
theorem dX7_back_34 : decode cX7_back 34 = .ok (.getfield 38, 3) := by decide +kernel
theorem dX7_back_37 : decode cX7_back 37 = .ok (.bipush 14, 2) := by decide +kernel
theorem dX7_back_39 : decode cX7_back 39 = .ok (.aload_n 0, 1) := by decide +kernel
theorem dX7_back_40 : decode cX7_back 40 = .ok (.getfield 123, 3) := by decide +kernel
theorem dX7_back_43 : decode cX7_back 43 = .ok (.imul, 1) := by decide +kernel
theorem dX7_back_44 : decode cX7_back 44 = .ok (.iload_n 1, 1) := by decide +kernel
theorem dX7_back_45 : decode cX7_back 45 = .ok (.iadd, 1) := by decide +kernel
theorem dX7_back_46 : decode cX7_back 46 = .ok (.iaload, 1) := by decide +kernel
theorem dX7_back_47 : decode cX7_back 47 = .ok (.iastore, 1) := by decide +kernel
theorem dX7_back_48 : decode cX7_back 48 = .ok (.iinc 1 1, 3) := by decide +kernel
theorem dX7_back_51 : decode cX7_back 51 = .ok (.goto (-29), 3) := by decide +kernel
theorem dX7_back_54 : decode cX7_back 54 = .ok (.aload_n 0, 1) := by decide +kernel
theorem dX7_back_55 : decode cX7_back 55 = .ok (.iconst 0, 1) := by decide +kernel
theorem dX7_back_56 : decode cX7_back 56 = .ok (.putfield 120, 3) := by decide +kernel
theorem dX7_back_59 : decode cX7_back 59 = .ok (.aload_n 0, 1) := by decide +kernel
theorem dX7_back_60 : decode cX7_back 60 = .ok (.getfield 123, 3) := by decide +kernel
theorem dX7_back_63 : decode cX7_back 63 = .ok (.ireturn, 1) := by decide +kernel
theorem dX7_count_0 : decode cX7_count 0 = .ok (.iload_n 1, 1) := by decide +kernel
theorem dX7_count_1 : decode cX7_count 1 = .ok (.tableswitch 148 0 9 #[55, 62, 69, 77, 106, 115, 128, 133, 138, 143], 55) := by decide +kernel
theorem dX7_count_56 : decode cX7_count 56 = .ok (.aload_n 0, 1) := by decide +kernel
theorem dX7_count_57 : decode cX7_count 57 = .ok (.getfield 13, 3) := by decide +kernel
theorem dX7_count_60 : decode cX7_count 60 = .ok (.iconst 0, 1) := by decide +kernel
theorem dX7_count_61 : decode cX7_count 61 = .ok (.iaload, 1) := by decide +kernel
theorem dX7_count_62 : decode cX7_count 62 = .ok (.ireturn, 1) := by decide +kernel
theorem dX7_count_63 : decode cX7_count 63 = .ok (.aload_n 0, 1) := by decide +kernel
theorem dX7_count_64 : decode cX7_count 64 = .ok (.getfield 17, 3) := by decide +kernel
theorem dX7_count_67 : decode cX7_count 67 = .ok (.iconst 0, 1) := by decide +kernel
theorem dX7_count_68 : decode cX7_count 68 = .ok (.iaload, 1) := by decide +kernel
theorem dX7_count_69 : decode cX7_count 69 = .ok (.ireturn, 1) := by decide +kernel
theorem dX7_count_70 : decode cX7_count 70 = .ok (.aload_n 0, 1) := by decide +kernel
theorem dX7_count_71 : decode cX7_count 71 = .ok (.getfield 32, 3) := by decide +kernel
theorem dX7_count_74 : decode cX7_count 74 = .ok (.invokestatic 147, 3) := by decide +kernel
theorem dX7_count_77 : decode cX7_count 77 = .ok (.ireturn, 1) := by decide +kernel
theorem dX7_count_78 : decode cX7_count 78 = .ok (.aload_n 0, 1) := by decide +kernel
theorem dX7_count_79 : decode cX7_count 79 = .ok (.getfield 32, 3) := by decide +kernel
theorem dX7_count_82 : decode cX7_count 82 = .ok (.bipush 11, 2) := by decide +kernel
theorem dX7_count_84 : decode cX7_count 84 = .ok (.iaload, 1) := by decide +kernel
theorem dX7_count_85 : decode cX7_count 85 = .ok (.aload_n 0, 1) := by decide +kernel
theorem dX7_count_86 : decode cX7_count 86 = .ok (.getfield 17, 3) := by decide +kernel
theorem dX7_count_89 : decode cX7_count 89 = .ok (.iconst 0, 1) := by decide +kernel
theorem dX7_count_90 : decode cX7_count 90 = .ok (.iaload, 1) := by decide +kernel
theorem dX7_count_91 : decode cX7_count 91 = .ok (.if_icmp .ge 13, 3) := by decide +kernel
theorem dX7_count_94 : decode cX7_count 94 = .ok (.aload_n 0, 1) := by decide +kernel
theorem dX7_count_95 : decode cX7_count 95 = .ok (.getfield 32, 3) := by decide +kernel
theorem dX7_count_98 : decode cX7_count 98 = .ok (.bipush 11, 2) := by decide +kernel
theorem dX7_count_100 : decode cX7_count 100 = .ok (.iaload, 1) := by decide +kernel
theorem dX7_count_101 : decode cX7_count 101 = .ok (.goto 5, 3) := by decide +kernel
theorem dX7_count_104 : decode cX7_count 104 = .ok (.bipush (-4), 2) := by decide +kernel
theorem dX7_count_106 : decode cX7_count 106 = .ok (.ireturn, 1) := by decide +kernel
theorem dX7_count_107 : decode cX7_count 107 = .ok (.aload_n 0, 1) := by decide +kernel
theorem dX7_count_108 : decode cX7_count 108 = .ok (.aload_n 0, 1) := by decide +kernel
theorem dX7_count_109 : decode cX7_count 109 = .ok (.getfield 32, 3) := by decide +kernel
theorem dX7_count_112 : decode cX7_count 112 = .ok (.invokevirtual 180, 3) := by decide +kernel
theorem dX7_count_115 : decode cX7_count 115 = .ok (.ireturn, 1) := by decide +kernel
theorem dX7_count_116 : decode cX7_count 116 = .ok (.aload_n 0, 1) := by decide +kernel
theorem dX7_count_117 : decode cX7_count 117 = .ok (.aload_n 0, 1) := by decide +kernel
theorem dX7_count_118 : decode cX7_count 118 = .ok (.getfield 32, 3) := by decide +kernel
theorem dX7_count_121 : decode cX7_count 121 = .ok (.invokevirtual 189, 3) := by decide +kernel
theorem dX7_count_124 : decode cX7_count 124 = .ok (.sipush 1000, 3) := by decide +kernel
theorem dX7_count_127 : decode cX7_count 127 = .ok (.iadd, 1) := by decide +kernel
theorem dX7_count_128 : decode cX7_count 128 = .ok (.ireturn, 1) := by decide +kernel
theorem dX7_count_129 : decode cX7_count 129 = .ok (.aload_n 0, 1) := by decide +kernel
theorem dX7_count_130 : decode cX7_count 130 = .ok (.getfield 126, 3) := by decide +kernel
theorem dX7_count_133 : decode cX7_count 133 = .ok (.ireturn, 1) := by decide +kernel
theorem dX7_count_134 : decode cX7_count 134 = .ok (.aload_n 0, 1) := by decide +kernel
theorem dX7_count_135 : decode cX7_count 135 = .ok (.getfield 120, 3) := by decide +kernel
theorem dX7_count_138 : decode cX7_count 138 = .ok (.ireturn, 1) := by decide +kernel
theorem dX7_count_139 : decode cX7_count 139 = .ok (.aload_n 0, 1) := by decide +kernel
theorem dX7_count_140 : decode cX7_count 140 = .ok (.getfield 123, 3) := by decide +kernel
theorem dX7_count_143 : decode cX7_count 143 = .ok (.ireturn, 1) := by decide +kernel
theorem dX7_count_144 : decode cX7_count 144 = .ok (.aload_n 0, 1) := by decide +kernel
theorem dX7_count_145 : decode cX7_count 145 = .ok (.getfield 64, 3) := by decide +kernel
theorem dX7_count_148 : decode cX7_count 148 = .ok (.ireturn, 1) := by decide +kernel
theorem dX7_count_149 : decode cX7_count 149 = .ok (.iconst (-1), 1) := by decide +kernel
theorem dX7_count_150 : decode cX7_count 150 = .ok (.ireturn, 1) := by decide +kernel
